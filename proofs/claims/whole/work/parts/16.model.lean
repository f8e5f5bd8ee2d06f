theorem kw_877 : (Jvm.Cond.fieldLink "LineBreakerModel" (94 : Nat) "LineBreakerModel" "thrown" "I") ∈ gw := gw_t (List.mem_of_getElem? (i := 877) (by decide +kernel)) (by decide +kernel)
theorem kw_1018 : (Jvm.Cond.constantLong "LineBreakerModel" (98 : Nat) (-1073741823 : Int64)) ∈ gw := gw_t (List.mem_of_getElem? (i := 1018) (by decide +kernel)) (by decide +kernel)
theorem kw_1019 : (Jvm.Cond.constantLong "LineBreakerModel" (100 : Nat) (1073741823 : Int64)) ∈ gw := gw_t (List.mem_of_getElem? (i := 1019) (by decide +kernel)) (by decide +kernel)
theorem kw_1034 : (Jvm.Cond.constant "LineBreakerModel" (102 : Nat) (1073741823 : Int32)) ∈ gw := gw_t (List.mem_of_getElem? (i := 1034) (by decide +kernel)) (by decide +kernel)
theorem kw_879 : (Jvm.Cond.fieldLink "LineBreakerModel" (7 : Nat) "LineBreakerModel" "kinds" "[I") ∈ gw := gw_t (List.mem_of_getElem? (i := 879) (by decide +kernel)) (by decide +kernel)
theorem kw_886 : (Jvm.Cond.fieldLink "LineBreakerModel" (31 : Nat) "LineBreakerModel" "replaces" "[I") ∈ gw := gw_t (List.mem_of_getElem? (i := 886) (by decide +kernel)) (by decide +kernel)
theorem kw_878 : (Jvm.Cond.fieldLink "LineBreakerModel" (103 : Nat) "LineBreakerModel" "count" "I") ∈ gw := gw_t (List.mem_of_getElem? (i := 878) (by decide +kernel)) (by decide +kernel)
theorem kw_880 : (Jvm.Cond.fieldLink "LineBreakerModel" (13 : Nat) "LineBreakerModel" "widths" "[I") ∈ gw := gw_t (List.mem_of_getElem? (i := 880) (by decide +kernel)) (by decide +kernel)
theorem kw_881 : (Jvm.Cond.fieldLink "LineBreakerModel" (16 : Nat) "LineBreakerModel" "stretches" "[I") ∈ gw := gw_t (List.mem_of_getElem? (i := 881) (by decide +kernel)) (by decide +kernel)
theorem kw_882 : (Jvm.Cond.fieldLink "LineBreakerModel" (19 : Nat) "LineBreakerModel" "orders" "[I") ∈ gw := gw_t (List.mem_of_getElem? (i := 882) (by decide +kernel)) (by decide +kernel)
theorem kw_883 : (Jvm.Cond.fieldLink "LineBreakerModel" (22 : Nat) "LineBreakerModel" "shrinks" "[I") ∈ gw := gw_t (List.mem_of_getElem? (i := 883) (by decide +kernel)) (by decide +kernel)
theorem kw_884 : (Jvm.Cond.fieldLink "LineBreakerModel" (25 : Nat) "LineBreakerModel" "befores" "[I") ∈ gw := gw_t (List.mem_of_getElem? (i := 884) (by decide +kernel)) (by decide +kernel)
theorem kw_885 : (Jvm.Cond.fieldLink "LineBreakerModel" (28 : Nat) "LineBreakerModel" "behinds" "[I") ∈ gw := gw_t (List.mem_of_getElem? (i := 885) (by decide +kernel)) (by decide +kernel)
theorem kw_911 : (Jvm.Cond.fieldLink "LineBreakerModel" (106 : Nat) "LineBreakerModel" "brokenPass" "I") ∈ gw := gw_t (List.mem_of_getElem? (i := 911) (by decide +kernel)) (by decide +kernel)
theorem kw_1023 : (Jvm.Cond.code ({ cls := "LineBreakerModel", name := "append", desc := "(IIIIIII)I" } : Jvm.MethodName) prog_12_method_6_code (9 : Nat) (Option.some Jvm.ClassFile.FieldType.int)) ∈ gw := gw_t (List.mem_of_getElem? (i := 1023) (by decide +kernel)) (by decide +kernel)
theorem kw_1020 : (Jvm.Cond.methodLink "LineBreakerModel" (113 : Nat) ({ cls := "LineBreakerModel", name := "append", desc := "(IIIIIII)I" } : Jvm.MethodName)) ∈ gw := gw_t (List.mem_of_getElem? (i := 1020) (by decide +kernel)) (by decide +kernel)
theorem kw_1022 : (Jvm.Cond.instanceMethod ({ cls := "LineBreakerModel", name := "append", desc := "(IIIIIII)I" } : Jvm.MethodName)) ∈ gw := gw_t (List.mem_of_getElem? (i := 1022) (by decide +kernel)) (by decide +kernel)
theorem kp_19 : Cond.selects "LineBreakerModel" ⟨"LineBreakerModel", "append", "(IIIIIII)I"⟩ ⟨"LineBreakerModel", "append", "(IIIIIII)I"⟩ ∈ gw := gw_s (List.mem_of_getElem? (i := 19) (by decide +kernel)) (by decide +kernel)
theorem kw_11 : (Jvm.Cond.initialized "LineBreakerModel") ∈ gw := gw_t (List.mem_of_getElem? (i := 11) (by decide +kernel)) (by decide +kernel)
theorem kw_1017 : (Jvm.Cond.code ({ cls := "LineBreakerModel", name := "isSize", desc := "(J)Z" } : Jvm.MethodName) prog_12_method_3_code (2 : Nat) (Option.some Jvm.ClassFile.FieldType.boolean)) ∈ gw := gw_t (List.mem_of_getElem? (i := 1017) (by decide +kernel)) (by decide +kernel)
theorem kw_1016 : (Jvm.Cond.static ({ cls := "LineBreakerModel", name := "isSize", desc := "(J)Z" } : Jvm.MethodName)) ∈ gw := gw_t (List.mem_of_getElem? (i := 1016) (by decide +kernel)) (by decide +kernel)
theorem kw_1015 : (Jvm.Cond.methodLink "LineBreakerModel" (109 : Nat) ({ cls := "LineBreakerModel", name := "isSize", desc := "(J)Z" } : Jvm.MethodName)) ∈ gw := gw_t (List.mem_of_getElem? (i := 1015) (by decide +kernel)) (by decide +kernel)
theorem kw_1033 : (Jvm.Cond.code ({ cls := "LineBreakerModel", name := "isMore", desc := "(I)Z" } : Jvm.MethodName) prog_12_method_4_code (1 : Nat) (Option.some Jvm.ClassFile.FieldType.boolean)) ∈ gw := gw_t (List.mem_of_getElem? (i := 1033) (by decide +kernel)) (by decide +kernel)
theorem kw_1032 : (Jvm.Cond.static ({ cls := "LineBreakerModel", name := "isMore", desc := "(I)Z" } : Jvm.MethodName)) ∈ gw := gw_t (List.mem_of_getElem? (i := 1032) (by decide +kernel)) (by decide +kernel)
theorem kw_1031 : (Jvm.Cond.methodLink "LineBreakerModel" (117 : Nat) ({ cls := "LineBreakerModel", name := "isMore", desc := "(I)Z" } : Jvm.MethodName)) ∈ gw := gw_t (List.mem_of_getElem? (i := 1031) (by decide +kernel)) (by decide +kernel)
theorem kw_1038 : (Jvm.Cond.code ({ cls := "LineBreakerModel", name := "replacer", desc := "(I)I" } : Jvm.MethodName) prog_12_method_5_code (3 : Nat) (Option.some Jvm.ClassFile.FieldType.int)) ∈ gw := gw_t (List.mem_of_getElem? (i := 1038) (by decide +kernel)) (by decide +kernel)
theorem kw_1035 : (Jvm.Cond.methodLink "LineBreakerModel" (125 : Nat) ({ cls := "LineBreakerModel", name := "replacer", desc := "(I)I" } : Jvm.MethodName)) ∈ gw := gw_t (List.mem_of_getElem? (i := 1035) (by decide +kernel)) (by decide +kernel)
theorem kw_1037 : (Jvm.Cond.instanceMethod ({ cls := "LineBreakerModel", name := "replacer", desc := "(I)I" } : Jvm.MethodName)) ∈ gw := gw_t (List.mem_of_getElem? (i := 1037) (by decide +kernel)) (by decide +kernel)
theorem kp_20 : Cond.selects "LineBreakerModel" ⟨"LineBreakerModel", "replacer", "(I)I"⟩ ⟨"LineBreakerModel", "replacer", "(I)I"⟩ ∈ gw := gw_s (List.mem_of_getElem? (i := 20) (by decide +kernel)) (by decide +kernel)
theorem kw_1030 : (Jvm.Cond.code ({ cls := "LineBreakerModel", name := "isGlue", desc := "(IIII)Z" } : Jvm.MethodName) prog_12_method_8_code (4 : Nat) (Option.some Jvm.ClassFile.FieldType.boolean)) ∈ gw := gw_t (List.mem_of_getElem? (i := 1030) (by decide +kernel)) (by decide +kernel)
theorem kw_1029 : (Jvm.Cond.static ({ cls := "LineBreakerModel", name := "isGlue", desc := "(IIII)Z" } : Jvm.MethodName)) ∈ gw := gw_t (List.mem_of_getElem? (i := 1029) (by decide +kernel)) (by decide +kernel)
theorem kw_1028 : (Jvm.Cond.methodLink "LineBreakerModel" (121 : Nat) ({ cls := "LineBreakerModel", name := "isGlue", desc := "(IIII)Z" } : Jvm.MethodName)) ∈ gw := gw_t (List.mem_of_getElem? (i := 1028) (by decide +kernel)) (by decide +kernel)
theorem kw_1054 : (Jvm.Cond.constant "LineBreakerModel" (129 : Nat) (-1073741824 : Int32)) ∈ gw := gw_t (List.mem_of_getElem? (i := 1054) (by decide +kernel)) (by decide +kernel)
theorem kw_1053 : (Jvm.Cond.code ({ cls := "LineBreakerModel", name := "mayStand", desc := "(I)Z" } : Jvm.MethodName) prog_12_method_12_code (1 : Nat) (Option.some Jvm.ClassFile.FieldType.boolean)) ∈ gw := gw_t (List.mem_of_getElem? (i := 1053) (by decide +kernel)) (by decide +kernel)
theorem kw_1052 : (Jvm.Cond.static ({ cls := "LineBreakerModel", name := "mayStand", desc := "(I)Z" } : Jvm.MethodName)) ∈ gw := gw_t (List.mem_of_getElem? (i := 1052) (by decide +kernel)) (by decide +kernel)
theorem kw_1051 : (Jvm.Cond.methodLink "LineBreakerModel" (130 : Nat) ({ cls := "LineBreakerModel", name := "mayStand", desc := "(I)Z" } : Jvm.MethodName)) ∈ gw := gw_t (List.mem_of_getElem? (i := 1051) (by decide +kernel)) (by decide +kernel)
theorem kw_1070 : (Jvm.Cond.constant "LineBreakerModel" (133 : Nat) (-1000000 : Int32)) ∈ gw := gw_t (List.mem_of_getElem? (i := 1070) (by decide +kernel)) (by decide +kernel)
theorem kw_1074 : (Jvm.Cond.constant "LineBreakerModel" (134 : Nat) (1000000 : Int32)) ∈ gw := gw_t (List.mem_of_getElem? (i := 1074) (by decide +kernel)) (by decide +kernel)
theorem kw_887 : (Jvm.Cond.fieldLink "LineBreakerModel" (34 : Nat) "LineBreakerModel" "settings" "[I") ∈ gw := gw_t (List.mem_of_getElem? (i := 887) (by decide +kernel)) (by decide +kernel)
theorem kw_1073 : (Jvm.Cond.code ({ cls := "LineBreakerModel", name := "most", desc := "(I)I" } : Jvm.MethodName) prog_12_method_17_code (1 : Nat) (Option.some Jvm.ClassFile.FieldType.int)) ∈ gw := gw_t (List.mem_of_getElem? (i := 1073) (by decide +kernel)) (by decide +kernel)
theorem kw_1072 : (Jvm.Cond.static ({ cls := "LineBreakerModel", name := "most", desc := "(I)I" } : Jvm.MethodName)) ∈ gw := gw_t (List.mem_of_getElem? (i := 1072) (by decide +kernel)) (by decide +kernel)
theorem kw_1071 : (Jvm.Cond.methodLink "LineBreakerModel" (138 : Nat) ({ cls := "LineBreakerModel", name := "most", desc := "(I)I" } : Jvm.MethodName)) ∈ gw := gw_t (List.mem_of_getElem? (i := 1071) (by decide +kernel)) (by decide +kernel)
theorem kw_1069 : (Jvm.Cond.code ({ cls := "LineBreakerModel", name := "least", desc := "(I)I" } : Jvm.MethodName) prog_12_method_16_code (1 : Nat) (Option.some Jvm.ClassFile.FieldType.int)) ∈ gw := gw_t (List.mem_of_getElem? (i := 1069) (by decide +kernel)) (by decide +kernel)
theorem kw_1068 : (Jvm.Cond.static ({ cls := "LineBreakerModel", name := "least", desc := "(I)I" } : Jvm.MethodName)) ∈ gw := gw_t (List.mem_of_getElem? (i := 1068) (by decide +kernel)) (by decide +kernel)
theorem kw_1067 : (Jvm.Cond.methodLink "LineBreakerModel" (135 : Nat) ({ cls := "LineBreakerModel", name := "least", desc := "(I)I" } : Jvm.MethodName)) ∈ gw := gw_t (List.mem_of_getElem? (i := 1067) (by decide +kernel)) (by decide +kernel)
theorem kw_888 : (Jvm.Cond.fieldLink "LineBreakerModel" (37 : Nat) "LineBreakerModel" "wide" "[I") ∈ gw := gw_t (List.mem_of_getElem? (i := 888) (by decide +kernel)) (by decide +kernel)
theorem kw_889 : (Jvm.Cond.fieldLink "LineBreakerModel" (40 : Nat) "LineBreakerModel" "aroundWidth" "[I") ∈ gw := gw_t (List.mem_of_getElem? (i := 889) (by decide +kernel)) (by decide +kernel)
theorem kw_890 : (Jvm.Cond.fieldLink "LineBreakerModel" (43 : Nat) "LineBreakerModel" "aroundStretch" "[I") ∈ gw := gw_t (List.mem_of_getElem? (i := 890) (by decide +kernel)) (by decide +kernel)
theorem kw_891 : (Jvm.Cond.fieldLink "LineBreakerModel" (46 : Nat) "LineBreakerModel" "aroundOrder" "[I") ∈ gw := gw_t (List.mem_of_getElem? (i := 891) (by decide +kernel)) (by decide +kernel)
theorem kw_892 : (Jvm.Cond.fieldLink "LineBreakerModel" (49 : Nat) "LineBreakerModel" "aroundShrink" "[I") ∈ gw := gw_t (List.mem_of_getElem? (i := 892) (by decide +kernel)) (by decide +kernel)
theorem kw_894 : (Jvm.Cond.fieldLink "LineBreakerModel" (144 : Nat) "LineBreakerModel" "last" "I") ∈ gw := gw_t (List.mem_of_getElem? (i := 894) (by decide +kernel)) (by decide +kernel)
theorem kw_893 : (Jvm.Cond.fieldLink "LineBreakerModel" (147 : Nat) "LineBreakerModel" "pass" "I") ∈ gw := gw_t (List.mem_of_getElem? (i := 893) (by decide +kernel)) (by decide +kernel)
theorem kw_1105 : (Jvm.Cond.code ({ cls := "LineBreakerModel", name := "fine", desc := "(I)I" } : Jvm.MethodName) prog_12_method_22_code (2 : Nat) (Option.some Jvm.ClassFile.FieldType.int)) ∈ gw := gw_t (List.mem_of_getElem? (i := 1105) (by decide +kernel)) (by decide +kernel)
theorem kw_1102 : (Jvm.Cond.methodLink "LineBreakerModel" (141 : Nat) ({ cls := "LineBreakerModel", name := "fine", desc := "(I)I" } : Jvm.MethodName)) ∈ gw := gw_t (List.mem_of_getElem? (i := 1102) (by decide +kernel)) (by decide +kernel)
theorem kw_1104 : (Jvm.Cond.instanceMethod ({ cls := "LineBreakerModel", name := "fine", desc := "(I)I" } : Jvm.MethodName)) ∈ gw := gw_t (List.mem_of_getElem? (i := 1104) (by decide +kernel)) (by decide +kernel)
theorem kp_24 : Cond.selects "LineBreakerModel" ⟨"LineBreakerModel", "fine", "(I)I"⟩ ⟨"LineBreakerModel", "fine", "(I)I"⟩ ∈ gw := gw_s (List.mem_of_getElem? (i := 24) (by decide +kernel)) (by decide +kernel)
theorem kw_1129 : (Jvm.Cond.code ({ cls := "LineBreakerModel", name := "isDropped", desc := "(I)Z" } : Jvm.MethodName) prog_12_method_24_code (2 : Nat) (Option.some Jvm.ClassFile.FieldType.boolean)) ∈ gw := gw_t (List.mem_of_getElem? (i := 1129) (by decide +kernel)) (by decide +kernel)
theorem kw_1126 : (Jvm.Cond.methodLink "LineBreakerModel" (153 : Nat) ({ cls := "LineBreakerModel", name := "isDropped", desc := "(I)Z" } : Jvm.MethodName)) ∈ gw := gw_t (List.mem_of_getElem? (i := 1126) (by decide +kernel)) (by decide +kernel)
theorem kw_1128 : (Jvm.Cond.instanceMethod ({ cls := "LineBreakerModel", name := "isDropped", desc := "(I)Z" } : Jvm.MethodName)) ∈ gw := gw_t (List.mem_of_getElem? (i := 1128) (by decide +kernel)) (by decide +kernel)
theorem kp_30 : Cond.selects "LineBreakerModel" ⟨"LineBreakerModel", "isDropped", "(I)Z"⟩ ⟨"LineBreakerModel", "isDropped", "(I)Z"⟩ ∈ gw := gw_s (List.mem_of_getElem? (i := 30) (by decide +kernel)) (by decide +kernel)
theorem kw_1121 : (Jvm.Cond.code ({ cls := "LineBreakerModel", name := "isHyphen", desc := "(I)Z" } : Jvm.MethodName) prog_12_method_21_code (2 : Nat) (Option.some Jvm.ClassFile.FieldType.boolean)) ∈ gw := gw_t (List.mem_of_getElem? (i := 1121) (by decide +kernel)) (by decide +kernel)
theorem kw_1118 : (Jvm.Cond.methodLink "LineBreakerModel" (150 : Nat) ({ cls := "LineBreakerModel", name := "isHyphen", desc := "(I)Z" } : Jvm.MethodName)) ∈ gw := gw_t (List.mem_of_getElem? (i := 1118) (by decide +kernel)) (by decide +kernel)
theorem kw_1120 : (Jvm.Cond.instanceMethod ({ cls := "LineBreakerModel", name := "isHyphen", desc := "(I)Z" } : Jvm.MethodName)) ∈ gw := gw_t (List.mem_of_getElem? (i := 1120) (by decide +kernel)) (by decide +kernel)
theorem kp_28 : Cond.selects "LineBreakerModel" ⟨"LineBreakerModel", "isHyphen", "(I)Z"⟩ ⟨"LineBreakerModel", "isHyphen", "(I)Z"⟩ ∈ gw := gw_s (List.mem_of_getElem? (i := 28) (by decide +kernel)) (by decide +kernel)
theorem kw_905 : (Jvm.Cond.fieldLink "LineBreakerModel" (156 : Nat) "LineBreakerModel" "width" "I") ∈ gw := gw_t (List.mem_of_getElem? (i := 905) (by decide +kernel)) (by decide +kernel)
theorem kw_906 : (Jvm.Cond.fieldLink "LineBreakerModel" (72 : Nat) "LineBreakerModel" "stretch" "[I") ∈ gw := gw_t (List.mem_of_getElem? (i := 906) (by decide +kernel)) (by decide +kernel)
theorem kw_907 : (Jvm.Cond.fieldLink "LineBreakerModel" (159 : Nat) "LineBreakerModel" "shrink" "I") ∈ gw := gw_t (List.mem_of_getElem? (i := 907) (by decide +kernel)) (by decide +kernel)
theorem kw_1117 : (Jvm.Cond.code ({ cls := "LineBreakerModel", name := "addGlue", desc := "(IIII)V" } : Jvm.MethodName) prog_12_method_26_code (5 : Nat) (Option.none : Option Jvm.ClassFile.FieldType)) ∈ gw := gw_t (List.mem_of_getElem? (i := 1117) (by decide +kernel)) (by decide +kernel)
theorem kw_1114 : (Jvm.Cond.methodLink "LineBreakerModel" (165 : Nat) ({ cls := "LineBreakerModel", name := "addGlue", desc := "(IIII)V" } : Jvm.MethodName)) ∈ gw := gw_t (List.mem_of_getElem? (i := 1114) (by decide +kernel)) (by decide +kernel)
theorem kw_1116 : (Jvm.Cond.instanceMethod ({ cls := "LineBreakerModel", name := "addGlue", desc := "(IIII)V" } : Jvm.MethodName)) ∈ gw := gw_t (List.mem_of_getElem? (i := 1116) (by decide +kernel)) (by decide +kernel)
theorem kp_27 : Cond.selects "LineBreakerModel" ⟨"LineBreakerModel", "addGlue", "(IIII)V"⟩ ⟨"LineBreakerModel", "addGlue", "(IIII)V"⟩ ∈ gw := gw_s (List.mem_of_getElem? (i := 27) (by decide +kernel)) (by decide +kernel)
theorem kw_904 : (Jvm.Cond.fieldLink "LineBreakerModel" (172 : Nat) "LineBreakerModel" "first" "I") ∈ gw := gw_t (List.mem_of_getElem? (i := 904) (by decide +kernel)) (by decide +kernel)
theorem kw_1125 : (Jvm.Cond.code ({ cls := "LineBreakerModel", name := "firstOf", desc := "(I)I" } : Jvm.MethodName) prog_12_method_25_code (4 : Nat) (Option.some Jvm.ClassFile.FieldType.int)) ∈ gw := gw_t (List.mem_of_getElem? (i := 1125) (by decide +kernel)) (by decide +kernel)
theorem kw_1122 : (Jvm.Cond.methodLink "LineBreakerModel" (169 : Nat) ({ cls := "LineBreakerModel", name := "firstOf", desc := "(I)I" } : Jvm.MethodName)) ∈ gw := gw_t (List.mem_of_getElem? (i := 1122) (by decide +kernel)) (by decide +kernel)
theorem kw_1124 : (Jvm.Cond.instanceMethod ({ cls := "LineBreakerModel", name := "firstOf", desc := "(I)I" } : Jvm.MethodName)) ∈ gw := gw_t (List.mem_of_getElem? (i := 1124) (by decide +kernel)) (by decide +kernel)
theorem kp_29 : Cond.selects "LineBreakerModel" ⟨"LineBreakerModel", "firstOf", "(I)I"⟩ ⟨"LineBreakerModel", "firstOf", "(I)I"⟩ ∈ gw := gw_s (List.mem_of_getElem? (i := 29) (by decide +kernel)) (by decide +kernel)
theorem kw_896 : (Jvm.Cond.fieldLink "LineBreakerModel" (162 : Nat) "LineBreakerModel" "more" "I") ∈ gw := gw_t (List.mem_of_getElem? (i := 896) (by decide +kernel)) (by decide +kernel)
theorem kw_1140 : (Jvm.Cond.constantLong "LineBreakerModel" (181 : Nat) (1290 : Int64)) ∈ gw := gw_t (List.mem_of_getElem? (i := 1140) (by decide +kernel)) (by decide +kernel)
theorem kw_1141 : (Jvm.Cond.constantLong "LineBreakerModel" (183 : Nat) (131072 : Int64)) ∈ gw := gw_t (List.mem_of_getElem? (i := 1141) (by decide +kernel)) (by decide +kernel)
theorem kw_1142 : (Jvm.Cond.constantLong "LineBreakerModel" (185 : Nat) (262144 : Int64)) ∈ gw := gw_t (List.mem_of_getElem? (i := 1142) (by decide +kernel)) (by decide +kernel)
theorem kw_1137 : (Jvm.Cond.constantLong "LineBreakerModel" (175 : Nat) (7230584 : Int64)) ∈ gw := gw_t (List.mem_of_getElem? (i := 1137) (by decide +kernel)) (by decide +kernel)
theorem kw_1139 : (Jvm.Cond.constantLong "LineBreakerModel" (179 : Nat) (1663497 : Int64)) ∈ gw := gw_t (List.mem_of_getElem? (i := 1139) (by decide +kernel)) (by decide +kernel)
theorem kw_1138 : (Jvm.Cond.constantLong "LineBreakerModel" (177 : Nat) (297 : Int64)) ∈ gw := gw_t (List.mem_of_getElem? (i := 1138) (by decide +kernel)) (by decide +kernel)
theorem kw_909 : (Jvm.Cond.fieldLink "LineBreakerModel" (194 : Nat) "LineBreakerModel" "badness" "I") ∈ gw := gw_t (List.mem_of_getElem? (i := 909) (by decide +kernel)) (by decide +kernel)
theorem kw_910 : (Jvm.Cond.fieldLink "LineBreakerModel" (197 : Nat) "LineBreakerModel" "fit" "I") ∈ gw := gw_t (List.mem_of_getElem? (i := 910) (by decide +kernel)) (by decide +kernel)
theorem kw_1136 : (Jvm.Cond.code ({ cls := "LineBreakerModel", name := "bad", desc := "(JJ)I" } : Jvm.MethodName) prog_12_method_28_code (6 : Nat) (Option.some Jvm.ClassFile.FieldType.int)) ∈ gw := gw_t (List.mem_of_getElem? (i := 1136) (by decide +kernel)) (by decide +kernel)
theorem kw_1135 : (Jvm.Cond.static ({ cls := "LineBreakerModel", name := "bad", desc := "(JJ)I" } : Jvm.MethodName)) ∈ gw := gw_t (List.mem_of_getElem? (i := 1135) (by decide +kernel)) (by decide +kernel)
theorem kw_1134 : (Jvm.Cond.methodLink "LineBreakerModel" (190 : Nat) ({ cls := "LineBreakerModel", name := "bad", desc := "(JJ)I" } : Jvm.MethodName)) ∈ gw := gw_t (List.mem_of_getElem? (i := 1134) (by decide +kernel)) (by decide +kernel)
theorem kw_908 : (Jvm.Cond.fieldLink "LineBreakerModel" (187 : Nat) "LineBreakerModel" "shortfall" "I") ∈ gw := gw_t (List.mem_of_getElem? (i := 908) (by decide +kernel)) (by decide +kernel)
theorem kw_900 : (Jvm.Cond.fieldLink "LineBreakerModel" (58 : Nat) "LineBreakerModel" "fits" "[I") ∈ gw := gw_t (List.mem_of_getElem? (i := 900) (by decide +kernel)) (by decide +kernel)
theorem kw_898 : (Jvm.Cond.fieldLink "LineBreakerModel" (52 : Nat) "LineBreakerModel" "place" "[I") ∈ gw := gw_t (List.mem_of_getElem? (i := 898) (by decide +kernel)) (by decide +kernel)
theorem kw_1153 : (Jvm.Cond.constantLong "LineBreakerModel" (204 : Nat) (-10000 : Int64)) ∈ gw := gw_t (List.mem_of_getElem? (i := 1153) (by decide +kernel)) (by decide +kernel)
theorem kw_1151 : (Jvm.Cond.constantLong "LineBreakerModel" (200 : Nat) (10000 : Int64)) ∈ gw := gw_t (List.mem_of_getElem? (i := 1151) (by decide +kernel)) (by decide +kernel)
theorem kw_1152 : (Jvm.Cond.constantLong "LineBreakerModel" (202 : Nat) (100000000 : Int64)) ∈ gw := gw_t (List.mem_of_getElem? (i := 1152) (by decide +kernel)) (by decide +kernel)
theorem kw_899 : (Jvm.Cond.fieldLink "LineBreakerModel" (55 : Nat) "LineBreakerModel" "lines" "[I") ∈ gw := gw_t (List.mem_of_getElem? (i := 899) (by decide +kernel)) (by decide +kernel)
theorem kw_901 : (Jvm.Cond.fieldLink "LineBreakerModel" (61 : Nat) "LineBreakerModel" "totals" "[J") ∈ gw := gw_t (List.mem_of_getElem? (i := 901) (by decide +kernel)) (by decide +kernel)
theorem kw_902 : (Jvm.Cond.fieldLink "LineBreakerModel" (65 : Nat) "LineBreakerModel" "former" "[I") ∈ gw := gw_t (List.mem_of_getElem? (i := 902) (by decide +kernel)) (by decide +kernel)
theorem kw_903 : (Jvm.Cond.fieldLink "LineBreakerModel" (68 : Nat) "LineBreakerModel" "dead" "[Z") ∈ gw := gw_t (List.mem_of_getElem? (i := 903) (by decide +kernel)) (by decide +kernel)
theorem kw_1157 : (Jvm.Cond.code ({ cls := "LineBreakerModel", name := "write", desc := "(IIIJ)V" } : Jvm.MethodName) prog_12_method_31_code (6 : Nat) (Option.none : Option Jvm.ClassFile.FieldType)) ∈ gw := gw_t (List.mem_of_getElem? (i := 1157) (by decide +kernel)) (by decide +kernel)
theorem kw_1154 : (Jvm.Cond.methodLink "LineBreakerModel" (213 : Nat) ({ cls := "LineBreakerModel", name := "write", desc := "(IIIJ)V" } : Jvm.MethodName)) ∈ gw := gw_t (List.mem_of_getElem? (i := 1154) (by decide +kernel)) (by decide +kernel)
theorem kw_1156 : (Jvm.Cond.instanceMethod ({ cls := "LineBreakerModel", name := "write", desc := "(IIIJ)V" } : Jvm.MethodName)) ∈ gw := gw_t (List.mem_of_getElem? (i := 1156) (by decide +kernel)) (by decide +kernel)
theorem kp_34 : Cond.selects "LineBreakerModel" ⟨"LineBreakerModel", "write", "(IIIJ)V"⟩ ⟨"LineBreakerModel", "write", "(IIIJ)V"⟩ ∈ gw := gw_s (List.mem_of_getElem? (i := 34) (by decide +kernel)) (by decide +kernel)
theorem kw_897 : (Jvm.Cond.fieldLink "LineBreakerModel" (210 : Nat) "LineBreakerModel" "nodes" "I") ∈ gw := gw_t (List.mem_of_getElem? (i := 897) (by decide +kernel)) (by decide +kernel)
theorem kw_1161 : (Jvm.Cond.code ({ cls := "LineBreakerModel", name := "isBefore", desc := "(II)Z" } : Jvm.MethodName) prog_12_method_32_code (3 : Nat) (Option.some Jvm.ClassFile.FieldType.boolean)) ∈ gw := gw_t (List.mem_of_getElem? (i := 1161) (by decide +kernel)) (by decide +kernel)
theorem kw_1158 : (Jvm.Cond.methodLink "LineBreakerModel" (217 : Nat) ({ cls := "LineBreakerModel", name := "isBefore", desc := "(II)Z" } : Jvm.MethodName)) ∈ gw := gw_t (List.mem_of_getElem? (i := 1158) (by decide +kernel)) (by decide +kernel)
theorem kw_1160 : (Jvm.Cond.instanceMethod ({ cls := "LineBreakerModel", name := "isBefore", desc := "(II)Z" } : Jvm.MethodName)) ∈ gw := gw_t (List.mem_of_getElem? (i := 1160) (by decide +kernel)) (by decide +kernel)
theorem kp_35 : Cond.selects "LineBreakerModel" ⟨"LineBreakerModel", "isBefore", "(II)Z"⟩ ⟨"LineBreakerModel", "isBefore", "(II)Z"⟩ ∈ gw := gw_s (List.mem_of_getElem? (i := 35) (by decide +kernel)) (by decide +kernel)
theorem kw_1150 : (Jvm.Cond.code ({ cls := "LineBreakerModel", name := "demerits", desc := "(II)J" } : Jvm.MethodName) prog_12_method_30_code (11 : Nat) (Option.some Jvm.ClassFile.FieldType.long)) ∈ gw := gw_t (List.mem_of_getElem? (i := 1150) (by decide +kernel)) (by decide +kernel)
theorem kw_1147 : (Jvm.Cond.methodLink "LineBreakerModel" (206 : Nat) ({ cls := "LineBreakerModel", name := "demerits", desc := "(II)J" } : Jvm.MethodName)) ∈ gw := gw_t (List.mem_of_getElem? (i := 1147) (by decide +kernel)) (by decide +kernel)
theorem kw_1149 : (Jvm.Cond.instanceMethod ({ cls := "LineBreakerModel", name := "demerits", desc := "(II)J" } : Jvm.MethodName)) ∈ gw := gw_t (List.mem_of_getElem? (i := 1149) (by decide +kernel)) (by decide +kernel)
theorem kp_33 : Cond.selects "LineBreakerModel" ⟨"LineBreakerModel", "demerits", "(II)J"⟩ ⟨"LineBreakerModel", "demerits", "(II)J"⟩ ∈ gw := gw_s (List.mem_of_getElem? (i := 33) (by decide +kernel)) (by decide +kernel)
theorem kw_1133 : (Jvm.Cond.code ({ cls := "LineBreakerModel", name := "judge", desc := "(I)V" } : Jvm.MethodName) prog_12_method_29_code (5 : Nat) (Option.none : Option Jvm.ClassFile.FieldType)) ∈ gw := gw_t (List.mem_of_getElem? (i := 1133) (by decide +kernel)) (by decide +kernel)
theorem kw_1130 : (Jvm.Cond.methodLink "LineBreakerModel" (225 : Nat) ({ cls := "LineBreakerModel", name := "judge", desc := "(I)V" } : Jvm.MethodName)) ∈ gw := gw_t (List.mem_of_getElem? (i := 1130) (by decide +kernel)) (by decide +kernel)
theorem kw_1132 : (Jvm.Cond.instanceMethod ({ cls := "LineBreakerModel", name := "judge", desc := "(I)V" } : Jvm.MethodName)) ∈ gw := gw_t (List.mem_of_getElem? (i := 1132) (by decide +kernel)) (by decide +kernel)
theorem kp_31 : Cond.selects "LineBreakerModel" ⟨"LineBreakerModel", "judge", "(I)V"⟩ ⟨"LineBreakerModel", "judge", "(I)V"⟩ ∈ gw := gw_s (List.mem_of_getElem? (i := 31) (by decide +kernel)) (by decide +kernel)
theorem kw_1113 : (Jvm.Cond.code ({ cls := "LineBreakerModel", name := "measure", desc := "(II)V" } : Jvm.MethodName) prog_12_method_27_code (4 : Nat) (Option.none : Option Jvm.ClassFile.FieldType)) ∈ gw := gw_t (List.mem_of_getElem? (i := 1113) (by decide +kernel)) (by decide +kernel)
theorem kw_1110 : (Jvm.Cond.methodLink "LineBreakerModel" (221 : Nat) ({ cls := "LineBreakerModel", name := "measure", desc := "(II)V" } : Jvm.MethodName)) ∈ gw := gw_t (List.mem_of_getElem? (i := 1110) (by decide +kernel)) (by decide +kernel)
theorem kw_1112 : (Jvm.Cond.instanceMethod ({ cls := "LineBreakerModel", name := "measure", desc := "(II)V" } : Jvm.MethodName)) ∈ gw := gw_t (List.mem_of_getElem? (i := 1112) (by decide +kernel)) (by decide +kernel)
theorem kp_26 : Cond.selects "LineBreakerModel" ⟨"LineBreakerModel", "measure", "(II)V"⟩ ⟨"LineBreakerModel", "measure", "(II)V"⟩ ∈ gw := gw_s (List.mem_of_getElem? (i := 26) (by decide +kernel)) (by decide +kernel)
theorem kw_895 : (Jvm.Cond.fieldLink "LineBreakerModel" (229 : Nat) "LineBreakerModel" "tolerance" "I") ∈ gw := gw_t (List.mem_of_getElem? (i := 895) (by decide +kernel)) (by decide +kernel)
theorem kw_1146 : (Jvm.Cond.code ({ cls := "LineBreakerModel", name := "reach", desc := "(III)Z" } : Jvm.MethodName) prog_12_method_33_code (7 : Nat) (Option.some Jvm.ClassFile.FieldType.boolean)) ∈ gw := gw_t (List.mem_of_getElem? (i := 1146) (by decide +kernel)) (by decide +kernel)
theorem kw_1143 : (Jvm.Cond.methodLink "LineBreakerModel" (232 : Nat) ({ cls := "LineBreakerModel", name := "reach", desc := "(III)Z" } : Jvm.MethodName)) ∈ gw := gw_t (List.mem_of_getElem? (i := 1143) (by decide +kernel)) (by decide +kernel)
theorem kw_1145 : (Jvm.Cond.instanceMethod ({ cls := "LineBreakerModel", name := "reach", desc := "(III)Z" } : Jvm.MethodName)) ∈ gw := gw_t (List.mem_of_getElem? (i := 1145) (by decide +kernel)) (by decide +kernel)
theorem kp_32 : Cond.selects "LineBreakerModel" ⟨"LineBreakerModel", "reach", "(III)Z"⟩ ⟨"LineBreakerModel", "reach", "(III)Z"⟩ ∈ gw := gw_s (List.mem_of_getElem? (i := 32) (by decide +kernel)) (by decide +kernel)
theorem kw_1109 : (Jvm.Cond.code ({ cls := "LineBreakerModel", name := "ask", desc := "(I)Z" } : Jvm.MethodName) prog_12_method_34_code (10 : Nat) (Option.some Jvm.ClassFile.FieldType.boolean)) ∈ gw := gw_t (List.mem_of_getElem? (i := 1109) (by decide +kernel)) (by decide +kernel)
theorem kw_1106 : (Jvm.Cond.methodLink "LineBreakerModel" (239 : Nat) ({ cls := "LineBreakerModel", name := "ask", desc := "(I)Z" } : Jvm.MethodName)) ∈ gw := gw_t (List.mem_of_getElem? (i := 1106) (by decide +kernel)) (by decide +kernel)
theorem kw_1108 : (Jvm.Cond.instanceMethod ({ cls := "LineBreakerModel", name := "ask", desc := "(I)Z" } : Jvm.MethodName)) ∈ gw := gw_t (List.mem_of_getElem? (i := 1108) (by decide +kernel)) (by decide +kernel)
theorem kp_25 : Cond.selects "LineBreakerModel" ⟨"LineBreakerModel", "ask", "(I)Z"⟩ ⟨"LineBreakerModel", "ask", "(I)Z"⟩ ∈ gw := gw_s (List.mem_of_getElem? (i := 25) (by decide +kernel)) (by decide +kernel)
theorem kw_1101 : (Jvm.Cond.code ({ cls := "LineBreakerModel", name := "isPlace", desc := "(I)Z" } : Jvm.MethodName) prog_12_method_23_code (3 : Nat) (Option.some Jvm.ClassFile.FieldType.boolean)) ∈ gw := gw_t (List.mem_of_getElem? (i := 1101) (by decide +kernel)) (by decide +kernel)
theorem kw_1098 : (Jvm.Cond.methodLink "LineBreakerModel" (236 : Nat) ({ cls := "LineBreakerModel", name := "isPlace", desc := "(I)Z" } : Jvm.MethodName)) ∈ gw := gw_t (List.mem_of_getElem? (i := 1098) (by decide +kernel)) (by decide +kernel)
theorem kw_1100 : (Jvm.Cond.instanceMethod ({ cls := "LineBreakerModel", name := "isPlace", desc := "(I)Z" } : Jvm.MethodName)) ∈ gw := gw_t (List.mem_of_getElem? (i := 1100) (by decide +kernel)) (by decide +kernel)
theorem kp_23 : Cond.selects "LineBreakerModel" ⟨"LineBreakerModel", "isPlace", "(I)Z"⟩ ⟨"LineBreakerModel", "isPlace", "(I)Z"⟩ ∈ gw := gw_s (List.mem_of_getElem? (i := 23) (by decide +kernel)) (by decide +kernel)
theorem kw_1169 : (Jvm.Cond.code ({ cls := "LineBreakerModel", name := "isLess", desc := "(II)Z" } : Jvm.MethodName) prog_12_method_36_code (3 : Nat) (Option.some Jvm.ClassFile.FieldType.boolean)) ∈ gw := gw_t (List.mem_of_getElem? (i := 1169) (by decide +kernel)) (by decide +kernel)
theorem kw_1166 : (Jvm.Cond.methodLink "LineBreakerModel" (242 : Nat) ({ cls := "LineBreakerModel", name := "isLess", desc := "(II)Z" } : Jvm.MethodName)) ∈ gw := gw_t (List.mem_of_getElem? (i := 1166) (by decide +kernel)) (by decide +kernel)
theorem kw_1168 : (Jvm.Cond.instanceMethod ({ cls := "LineBreakerModel", name := "isLess", desc := "(II)Z" } : Jvm.MethodName)) ∈ gw := gw_t (List.mem_of_getElem? (i := 1168) (by decide +kernel)) (by decide +kernel)
theorem kp_37 : Cond.selects "LineBreakerModel" ⟨"LineBreakerModel", "isLess", "(II)Z"⟩ ⟨"LineBreakerModel", "isLess", "(II)Z"⟩ ∈ gw := gw_s (List.mem_of_getElem? (i := 37) (by decide +kernel)) (by decide +kernel)
theorem kw_1172 : (Jvm.Cond.code ({ cls := "LineBreakerModel", name := "apart", desc := "(II)I" } : Jvm.MethodName) prog_12_method_37_code (2 : Nat) (Option.some Jvm.ClassFile.FieldType.int)) ∈ gw := gw_t (List.mem_of_getElem? (i := 1172) (by decide +kernel)) (by decide +kernel)
theorem kw_1171 : (Jvm.Cond.static ({ cls := "LineBreakerModel", name := "apart", desc := "(II)I" } : Jvm.MethodName)) ∈ gw := gw_t (List.mem_of_getElem? (i := 1171) (by decide +kernel)) (by decide +kernel)
theorem kw_1170 : (Jvm.Cond.methodLink "LineBreakerModel" (245 : Nat) ({ cls := "LineBreakerModel", name := "apart", desc := "(II)I" } : Jvm.MethodName)) ∈ gw := gw_t (List.mem_of_getElem? (i := 1170) (by decide +kernel)) (by decide +kernel)
theorem kw_913 : (Jvm.Cond.fieldLink "LineBreakerModel" (252 : Nat) "LineBreakerModel" "brokenLines" "I") ∈ gw := gw_t (List.mem_of_getElem? (i := 913) (by decide +kernel)) (by decide +kernel)
theorem kw_914 : (Jvm.Cond.fieldLink "LineBreakerModel" (75 : Nat) "LineBreakerModel" "lineEnd" "[I") ∈ gw := gw_t (List.mem_of_getElem? (i := 914) (by decide +kernel)) (by decide +kernel)
theorem kw_915 : (Jvm.Cond.fieldLink "LineBreakerModel" (78 : Nat) "LineBreakerModel" "lineFirst" "[I") ∈ gw := gw_t (List.mem_of_getElem? (i := 915) (by decide +kernel)) (by decide +kernel)
theorem kw_916 : (Jvm.Cond.fieldLink "LineBreakerModel" (81 : Nat) "LineBreakerModel" "lineShort" "[I") ∈ gw := gw_t (List.mem_of_getElem? (i := 916) (by decide +kernel)) (by decide +kernel)
theorem kw_917 : (Jvm.Cond.fieldLink "LineBreakerModel" (84 : Nat) "LineBreakerModel" "lineBad" "[I") ∈ gw := gw_t (List.mem_of_getElem? (i := 917) (by decide +kernel)) (by decide +kernel)
theorem kw_918 : (Jvm.Cond.fieldLink "LineBreakerModel" (87 : Nat) "LineBreakerModel" "lineFit" "[I") ∈ gw := gw_t (List.mem_of_getElem? (i := 918) (by decide +kernel)) (by decide +kernel)
theorem kw_919 : (Jvm.Cond.fieldLink "LineBreakerModel" (90 : Nat) "LineBreakerModel" "lineTotal" "[J") ∈ gw := gw_t (List.mem_of_getElem? (i := 919) (by decide +kernel)) (by decide +kernel)
theorem kw_912 : (Jvm.Cond.fieldLink "LineBreakerModel" (249 : Nat) "LineBreakerModel" "brokenNodes" "I") ∈ gw := gw_t (List.mem_of_getElem? (i := 912) (by decide +kernel)) (by decide +kernel)
theorem kw_1093 : (Jvm.Cond.code ({ cls := "LineBreakerModel", name := "without", desc := "(I)J" } : Jvm.MethodName) prog_12_method_40_code (1 : Nat) (Option.some Jvm.ClassFile.FieldType.long)) ∈ gw := gw_t (List.mem_of_getElem? (i := 1093) (by decide +kernel)) (by decide +kernel)
theorem kw_1092 : (Jvm.Cond.static ({ cls := "LineBreakerModel", name := "without", desc := "(I)J" } : Jvm.MethodName)) ∈ gw := gw_t (List.mem_of_getElem? (i := 1092) (by decide +kernel)) (by decide +kernel)
theorem kw_1091 : (Jvm.Cond.methodLink "LineBreakerModel" (255 : Nat) ({ cls := "LineBreakerModel", name := "without", desc := "(I)J" } : Jvm.MethodName)) ∈ gw := gw_t (List.mem_of_getElem? (i := 1091) (by decide +kernel)) (by decide +kernel)
theorem kw_1176 : (Jvm.Cond.code ({ cls := "LineBreakerModel", name := "tell", desc := "(I)I" } : Jvm.MethodName) prog_12_method_39_code (4 : Nat) (Option.some Jvm.ClassFile.FieldType.int)) ∈ gw := gw_t (List.mem_of_getElem? (i := 1176) (by decide +kernel)) (by decide +kernel)
theorem kw_1173 : (Jvm.Cond.methodLink "LineBreakerModel" (270 : Nat) ({ cls := "LineBreakerModel", name := "tell", desc := "(I)I" } : Jvm.MethodName)) ∈ gw := gw_t (List.mem_of_getElem? (i := 1173) (by decide +kernel)) (by decide +kernel)
theorem kw_1175 : (Jvm.Cond.instanceMethod ({ cls := "LineBreakerModel", name := "tell", desc := "(I)I" } : Jvm.MethodName)) ∈ gw := gw_t (List.mem_of_getElem? (i := 1175) (by decide +kernel)) (by decide +kernel)
theorem kp_38 : Cond.selects "LineBreakerModel" ⟨"LineBreakerModel", "tell", "(I)I"⟩ ⟨"LineBreakerModel", "tell", "(I)I"⟩ ∈ gw := gw_s (List.mem_of_getElem? (i := 38) (by decide +kernel)) (by decide +kernel)
theorem kw_1165 : (Jvm.Cond.code ({ cls := "LineBreakerModel", name := "choose", desc := "()I" } : Jvm.MethodName) prog_12_method_38_code (8 : Nat) (Option.some Jvm.ClassFile.FieldType.int)) ∈ gw := gw_t (List.mem_of_getElem? (i := 1165) (by decide +kernel)) (by decide +kernel)
theorem kw_1162 : (Jvm.Cond.methodLink "LineBreakerModel" (266 : Nat) ({ cls := "LineBreakerModel", name := "choose", desc := "()I" } : Jvm.MethodName)) ∈ gw := gw_t (List.mem_of_getElem? (i := 1162) (by decide +kernel)) (by decide +kernel)
theorem kw_1164 : (Jvm.Cond.instanceMethod ({ cls := "LineBreakerModel", name := "choose", desc := "()I" } : Jvm.MethodName)) ∈ gw := gw_t (List.mem_of_getElem? (i := 1164) (by decide +kernel)) (by decide +kernel)
theorem kp_36 : Cond.selects "LineBreakerModel" ⟨"LineBreakerModel", "choose", "()I"⟩ ⟨"LineBreakerModel", "choose", "()I"⟩ ∈ gw := gw_s (List.mem_of_getElem? (i := 36) (by decide +kernel)) (by decide +kernel)
theorem kw_1097 : (Jvm.Cond.code ({ cls := "LineBreakerModel", name := "make", desc := "()Z" } : Jvm.MethodName) prog_12_method_35_code (3 : Nat) (Option.some Jvm.ClassFile.FieldType.boolean)) ∈ gw := gw_t (List.mem_of_getElem? (i := 1097) (by decide +kernel)) (by decide +kernel)
theorem kw_1094 : (Jvm.Cond.methodLink "LineBreakerModel" (263 : Nat) ({ cls := "LineBreakerModel", name := "make", desc := "()Z" } : Jvm.MethodName)) ∈ gw := gw_t (List.mem_of_getElem? (i := 1094) (by decide +kernel)) (by decide +kernel)
theorem kw_1096 : (Jvm.Cond.instanceMethod ({ cls := "LineBreakerModel", name := "make", desc := "()Z" } : Jvm.MethodName)) ∈ gw := gw_t (List.mem_of_getElem? (i := 1096) (by decide +kernel)) (by decide +kernel)
theorem kp_22 : Cond.selects "LineBreakerModel" ⟨"LineBreakerModel", "make", "()Z"⟩ ⟨"LineBreakerModel", "make", "()Z"⟩ ∈ gw := gw_s (List.mem_of_getElem? (i := 22) (by decide +kernel)) (by decide +kernel)
theorem kw_1090 : (Jvm.Cond.code ({ cls := "LineBreakerModel", name := "fitsInSizes", desc := "()Z" } : Jvm.MethodName) prog_12_method_41_code (8 : Nat) (Option.some Jvm.ClassFile.FieldType.boolean)) ∈ gw := gw_t (List.mem_of_getElem? (i := 1090) (by decide +kernel)) (by decide +kernel)
theorem kw_1087 : (Jvm.Cond.methodLink "LineBreakerModel" (259 : Nat) ({ cls := "LineBreakerModel", name := "fitsInSizes", desc := "()Z" } : Jvm.MethodName)) ∈ gw := gw_t (List.mem_of_getElem? (i := 1087) (by decide +kernel)) (by decide +kernel)
theorem kw_1089 : (Jvm.Cond.instanceMethod ({ cls := "LineBreakerModel", name := "fitsInSizes", desc := "()Z" } : Jvm.MethodName)) ∈ gw := gw_t (List.mem_of_getElem? (i := 1089) (by decide +kernel)) (by decide +kernel)
theorem kp_21 : Cond.selects "LineBreakerModel" ⟨"LineBreakerModel", "fitsInSizes", "()Z"⟩ ⟨"LineBreakerModel", "fitsInSizes", "()Z"⟩ ∈ gw := gw_s (List.mem_of_getElem? (i := 21) (by decide +kernel)) (by decide +kernel)
theorem kw_1192 : (Jvm.Cond.code ({ cls := "LineBreakerModel", name := "isLine", desc := "(I)Z" } : Jvm.MethodName) prog_12_method_45_code (2 : Nat) (Option.some Jvm.ClassFile.FieldType.boolean)) ∈ gw := gw_t (List.mem_of_getElem? (i := 1192) (by decide +kernel)) (by decide +kernel)
theorem kw_1189 : (Jvm.Cond.methodLink "LineBreakerModel" (273 : Nat) ({ cls := "LineBreakerModel", name := "isLine", desc := "(I)Z" } : Jvm.MethodName)) ∈ gw := gw_t (List.mem_of_getElem? (i := 1189) (by decide +kernel)) (by decide +kernel)
theorem kw_1191 : (Jvm.Cond.instanceMethod ({ cls := "LineBreakerModel", name := "isLine", desc := "(I)Z" } : Jvm.MethodName)) ∈ gw := gw_t (List.mem_of_getElem? (i := 1191) (by decide +kernel)) (by decide +kernel)
theorem kp_39 : Cond.selects "LineBreakerModel" ⟨"LineBreakerModel", "isLine", "(I)Z"⟩ ⟨"LineBreakerModel", "isLine", "(I)Z"⟩ ∈ gw := gw_s (List.mem_of_getElem? (i := 39) (by decide +kernel)) (by decide +kernel)
theorem d_Mo_thrown_0 : decode prog_12_method_2_code 0 = .ok (.aload_n 0, 1) := by decide +kernel
theorem d_Mo_thrown_4 : decode prog_12_method_2_code 4 = .ok (.ireturn, 1) := by decide +kernel
theorem d_Mo_thrown_1 : decode prog_12_method_2_code 1 = .ok (.getfield 94, 3) := by decide +kernel
theorem d_Mo_isSize_0 : decode prog_12_method_3_code 0 = .ok (.lload_n 0, 1) := by decide +kernel
theorem d_Mo_isSize_21 : decode prog_12_method_3_code 21 = .ok (.ireturn, 1) := by decide +kernel
theorem d_Mo_isSize_20 : decode prog_12_method_3_code 20 = .ok (.iconst 0, 1) := by decide +kernel
theorem d_Mo_isSize_8 : decode prog_12_method_3_code 8 = .ok (.lload_n 0, 1) := by decide +kernel
theorem d_Mo_isSize_17 : decode prog_12_method_3_code 17 = .ok (.goto 4, 3) := by decide +kernel
theorem d_Mo_isSize_16 : decode prog_12_method_3_code 16 = .ok (.iconst 1, 1) := by decide +kernel
theorem d_Mo_isSize_13 : decode prog_12_method_3_code 13 = .ok (.ifCond .gt 7, 3) := by decide +kernel
theorem d_Mo_isSize_12 : decode prog_12_method_3_code 12 = .ok (.lcmp, 1) := by decide +kernel
theorem d_Mo_isSize_9 : decode prog_12_method_3_code 9 = .ok (.ldc2_w 100, 3) := by decide +kernel
theorem d_Mo_isSize_5 : decode prog_12_method_3_code 5 = .ok (.ifCond .lt 15, 3) := by decide +kernel
theorem d_Mo_isSize_4 : decode prog_12_method_3_code 4 = .ok (.lcmp, 1) := by decide +kernel
theorem d_Mo_isSize_1 : decode prog_12_method_3_code 1 = .ok (.ldc2_w 98, 3) := by decide +kernel
theorem d_Mo_isMore_0 : decode prog_12_method_4_code 0 = .ok (.iload_n 0, 1) := by decide +kernel
theorem d_Mo_isMore_15 : decode prog_12_method_4_code 15 = .ok (.ireturn, 1) := by decide +kernel
theorem d_Mo_isMore_14 : decode prog_12_method_4_code 14 = .ok (.iconst 0, 1) := by decide +kernel
theorem d_Mo_isMore_4 : decode prog_12_method_4_code 4 = .ok (.iload_n 0, 1) := by decide +kernel
theorem d_Mo_isMore_11 : decode prog_12_method_4_code 11 = .ok (.goto 4, 3) := by decide +kernel
theorem d_Mo_isMore_10 : decode prog_12_method_4_code 10 = .ok (.iconst 1, 1) := by decide +kernel
theorem d_Mo_isMore_7 : decode prog_12_method_4_code 7 = .ok (.if_icmp .gt 7, 3) := by decide +kernel
theorem d_Mo_isMore_5 : decode prog_12_method_4_code 5 = .ok (.ldc 102, 2) := by decide +kernel
theorem d_Mo_isMore_1 : decode prog_12_method_4_code 1 = .ok (.ifCond .lt 13, 3) := by decide +kernel
theorem d_Mo_replacer_4 : decode prog_12_method_5_code 4 = .ok (.iload_n 2, 1) := by decide +kernel
theorem d_Mo_replacer_47 : decode prog_12_method_5_code 47 = .ok (.ireturn, 1) := by decide +kernel
theorem d_Mo_replacer_46 : decode prog_12_method_5_code 46 = .ok (.iconst (-1), 1) := by decide +kernel
theorem d_Mo_replacer_8 : decode prog_12_method_5_code 8 = .ok (.iload_n 2, 1) := by decide +kernel
theorem d_Mo_replacer_9 : decode prog_12_method_5_code 9 = .ok (.iload_n 1, 1) := by decide +kernel
theorem d_Mo_replacer_16 : decode prog_12_method_5_code 16 = .ok (.aload_n 0, 1) := by decide +kernel
theorem d_Mo_replacer_20 : decode prog_12_method_5_code 20 = .ok (.iload_n 2, 1) := by decide +kernel
theorem d_Mo_replacer_43 : decode prog_12_method_5_code 43 = .ok (.goto (-39), 3) := by decide +kernel
theorem d_Mo_replacer_40 : decode prog_12_method_5_code 40 = .ok (.iinc 2 (-1), 3) := by decide +kernel
theorem d_Mo_replacer_26 : decode prog_12_method_5_code 26 = .ok (.iload_n 2, 1) := by decide +kernel
theorem d_Mo_replacer_27 : decode prog_12_method_5_code 27 = .ok (.aload_n 0, 1) := by decide +kernel
theorem d_Mo_replacer_31 : decode prog_12_method_5_code 31 = .ok (.iload_n 2, 1) := by decide +kernel
theorem d_Mo_replacer_34 : decode prog_12_method_5_code 34 = .ok (.iload_n 1, 1) := by decide +kernel
theorem d_Mo_replacer_38 : decode prog_12_method_5_code 38 = .ok (.iload_n 2, 1) := by decide +kernel
theorem d_Mo_replacer_39 : decode prog_12_method_5_code 39 = .ok (.ireturn, 1) := by decide +kernel
theorem d_Mo_replacer_35 : decode prog_12_method_5_code 35 = .ok (.if_icmp .lt 5, 3) := by decide +kernel
theorem d_Mo_replacer_33 : decode prog_12_method_5_code 33 = .ok (.iadd, 1) := by decide +kernel
theorem d_Mo_replacer_32 : decode prog_12_method_5_code 32 = .ok (.iaload, 1) := by decide +kernel
theorem d_Mo_replacer_28 : decode prog_12_method_5_code 28 = .ok (.getfield 31, 3) := by decide +kernel
theorem d_Mo_replacer_23 : decode prog_12_method_5_code 23 = .ok (.if_icmp .ne 17, 3) := by decide +kernel
theorem d_Mo_replacer_22 : decode prog_12_method_5_code 22 = .ok (.iconst 5, 1) := by decide +kernel
theorem d_Mo_replacer_21 : decode prog_12_method_5_code 21 = .ok (.iaload, 1) := by decide +kernel
theorem d_Mo_replacer_17 : decode prog_12_method_5_code 17 = .ok (.getfield 7, 3) := by decide +kernel
theorem d_Mo_replacer_13 : decode prog_12_method_5_code 13 = .ok (.if_icmp .lt 33, 3) := by decide +kernel
theorem d_Mo_replacer_12 : decode prog_12_method_5_code 12 = .ok (.isub, 1) := by decide +kernel
theorem d_Mo_replacer_10 : decode prog_12_method_5_code 10 = .ok (.bipush 10, 2) := by decide +kernel
theorem d_Mo_replacer_5 : decode prog_12_method_5_code 5 = .ok (.ifCond .lt 41, 3) := by decide +kernel
theorem d_Mo_replacer_0 : decode prog_12_method_5_code 0 = .ok (.iload_n 1, 1) := by decide +kernel
theorem d_Mo_replacer_3 : decode prog_12_method_5_code 3 = .ok (.istore_n 2, 1) := by decide +kernel
theorem d_Mo_replacer_2 : decode prog_12_method_5_code 2 = .ok (.isub, 1) := by decide +kernel
theorem d_Mo_replacer_1 : decode prog_12_method_5_code 1 = .ok (.iconst 1, 1) := by decide +kernel
theorem d_Mo_append_0 : decode prog_12_method_6_code 0 = .ok (.aload_n 0, 1) := by decide +kernel
theorem d_Mo_append_4 : decode prog_12_method_6_code 4 = .ok (.istore 8, 2) := by decide +kernel
theorem d_Mo_append_6 : decode prog_12_method_6_code 6 = .ok (.aload_n 0, 1) := by decide +kernel
theorem d_Mo_append_10 : decode prog_12_method_6_code 10 = .ok (.iload 8, 2) := by decide +kernel
theorem d_Mo_append_12 : decode prog_12_method_6_code 12 = .ok (.iload_n 1, 1) := by decide +kernel
theorem d_Mo_append_14 : decode prog_12_method_6_code 14 = .ok (.aload_n 0, 1) := by decide +kernel
theorem d_Mo_append_18 : decode prog_12_method_6_code 18 = .ok (.iload 8, 2) := by decide +kernel
theorem d_Mo_append_20 : decode prog_12_method_6_code 20 = .ok (.iload_n 2, 1) := by decide +kernel
theorem d_Mo_append_22 : decode prog_12_method_6_code 22 = .ok (.aload_n 0, 1) := by decide +kernel
theorem d_Mo_append_26 : decode prog_12_method_6_code 26 = .ok (.iload 8, 2) := by decide +kernel
theorem d_Mo_append_28 : decode prog_12_method_6_code 28 = .ok (.iload_n 3, 1) := by decide +kernel
theorem d_Mo_append_30 : decode prog_12_method_6_code 30 = .ok (.aload_n 0, 1) := by decide +kernel
theorem d_Mo_append_34 : decode prog_12_method_6_code 34 = .ok (.iload 8, 2) := by decide +kernel
theorem d_Mo_append_36 : decode prog_12_method_6_code 36 = .ok (.iload 4, 2) := by decide +kernel
theorem d_Mo_append_39 : decode prog_12_method_6_code 39 = .ok (.aload_n 0, 1) := by decide +kernel
theorem d_Mo_append_43 : decode prog_12_method_6_code 43 = .ok (.iload 8, 2) := by decide +kernel
theorem d_Mo_append_45 : decode prog_12_method_6_code 45 = .ok (.iload 5, 2) := by decide +kernel
theorem d_Mo_append_48 : decode prog_12_method_6_code 48 = .ok (.aload_n 0, 1) := by decide +kernel
theorem d_Mo_append_52 : decode prog_12_method_6_code 52 = .ok (.iload 8, 2) := by decide +kernel
theorem d_Mo_append_54 : decode prog_12_method_6_code 54 = .ok (.iload_n 2, 1) := by decide +kernel
theorem d_Mo_append_56 : decode prog_12_method_6_code 56 = .ok (.aload_n 0, 1) := by decide +kernel
theorem d_Mo_append_60 : decode prog_12_method_6_code 60 = .ok (.iload 8, 2) := by decide +kernel
theorem d_Mo_append_62 : decode prog_12_method_6_code 62 = .ok (.iload 6, 2) := by decide +kernel
theorem d_Mo_append_65 : decode prog_12_method_6_code 65 = .ok (.aload_n 0, 1) := by decide +kernel
theorem d_Mo_append_69 : decode prog_12_method_6_code 69 = .ok (.iload 8, 2) := by decide +kernel
theorem d_Mo_append_71 : decode prog_12_method_6_code 71 = .ok (.iload 7, 2) := by decide +kernel
theorem d_Mo_append_74 : decode prog_12_method_6_code 74 = .ok (.aload_n 0, 1) := by decide +kernel
theorem d_Mo_append_84 : decode prog_12_method_6_code 84 = .ok (.aload_n 0, 1) := by decide +kernel
theorem d_Mo_append_89 : decode prog_12_method_6_code 89 = .ok (.iload 8, 2) := by decide +kernel
theorem d_Mo_append_91 : decode prog_12_method_6_code 91 = .ok (.ireturn, 1) := by decide +kernel
theorem d_Mo_append_86 : decode prog_12_method_6_code 86 = .ok (.putfield 106, 3) := by decide +kernel
theorem d_Mo_append_85 : decode prog_12_method_6_code 85 = .ok (.iconst 0, 1) := by decide +kernel
theorem d_Mo_append_81 : decode prog_12_method_6_code 81 = .ok (.putfield 103, 3) := by decide +kernel
theorem d_Mo_append_80 : decode prog_12_method_6_code 80 = .ok (.iadd, 1) := by decide +kernel
theorem d_Mo_append_79 : decode prog_12_method_6_code 79 = .ok (.iconst 1, 1) := by decide +kernel
theorem d_Mo_append_76 : decode prog_12_method_6_code 76 = .ok (.getfield 103, 3) := by decide +kernel
theorem d_Mo_append_75 : decode prog_12_method_6_code 75 = .ok (.dup, 1) := by decide +kernel
theorem d_Mo_append_73 : decode prog_12_method_6_code 73 = .ok (.iastore, 1) := by decide +kernel
theorem d_Mo_append_66 : decode prog_12_method_6_code 66 = .ok (.getfield 31, 3) := by decide +kernel
theorem d_Mo_append_64 : decode prog_12_method_6_code 64 = .ok (.iastore, 1) := by decide +kernel
theorem d_Mo_append_57 : decode prog_12_method_6_code 57 = .ok (.getfield 28, 3) := by decide +kernel
theorem d_Mo_append_55 : decode prog_12_method_6_code 55 = .ok (.iastore, 1) := by decide +kernel
theorem d_Mo_append_49 : decode prog_12_method_6_code 49 = .ok (.getfield 25, 3) := by decide +kernel
theorem d_Mo_append_47 : decode prog_12_method_6_code 47 = .ok (.iastore, 1) := by decide +kernel
theorem d_Mo_append_40 : decode prog_12_method_6_code 40 = .ok (.getfield 22, 3) := by decide +kernel
theorem d_Mo_append_38 : decode prog_12_method_6_code 38 = .ok (.iastore, 1) := by decide +kernel
theorem d_Mo_append_31 : decode prog_12_method_6_code 31 = .ok (.getfield 19, 3) := by decide +kernel
theorem d_Mo_append_29 : decode prog_12_method_6_code 29 = .ok (.iastore, 1) := by decide +kernel
theorem d_Mo_append_23 : decode prog_12_method_6_code 23 = .ok (.getfield 16, 3) := by decide +kernel
theorem d_Mo_append_21 : decode prog_12_method_6_code 21 = .ok (.iastore, 1) := by decide +kernel
theorem d_Mo_append_15 : decode prog_12_method_6_code 15 = .ok (.getfield 13, 3) := by decide +kernel
theorem d_Mo_append_13 : decode prog_12_method_6_code 13 = .ok (.iastore, 1) := by decide +kernel
theorem d_Mo_append_7 : decode prog_12_method_6_code 7 = .ok (.getfield 7, 3) := by decide +kernel
theorem d_Mo_append_1 : decode prog_12_method_6_code 1 = .ok (.getfield 103, 3) := by decide +kernel
theorem d_Mo_box_31 : decode prog_12_method_7_code 31 = .ok (.aload_n 0, 1) := by decide +kernel
theorem d_Mo_box_42 : decode prog_12_method_7_code 42 = .ok (.aload_n 0, 1) := by decide +kernel
theorem d_Mo_box_44 : decode prog_12_method_7_code 44 = .ok (.iload_n 1, 1) := by decide +kernel
theorem d_Mo_box_53 : decode prog_12_method_7_code 53 = .ok (.ireturn, 1) := by decide +kernel
theorem d_Mo_box_50 : decode prog_12_method_7_code 50 = .ok (.invokevirtual 113, 3) := by decide +kernel
theorem d_Mo_box_49 : decode prog_12_method_7_code 49 = .ok (.iconst 0, 1) := by decide +kernel
theorem d_Mo_box_48 : decode prog_12_method_7_code 48 = .ok (.iconst 0, 1) := by decide +kernel
theorem d_Mo_box_47 : decode prog_12_method_7_code 47 = .ok (.iconst 0, 1) := by decide +kernel
theorem d_Mo_box_46 : decode prog_12_method_7_code 46 = .ok (.iconst 0, 1) := by decide +kernel
theorem d_Mo_box_45 : decode prog_12_method_7_code 45 = .ok (.iconst 0, 1) := by decide +kernel
theorem d_Mo_box_43 : decode prog_12_method_7_code 43 = .ok (.iconst 0, 1) := by decide +kernel
theorem d_Mo_box_39 : decode prog_12_method_7_code 39 = .ok (.goto 14, 3) := by decide +kernel
theorem d_Mo_box_38 : decode prog_12_method_7_code 38 = .ok (.iconst 0, 1) := by decide +kernel
theorem d_Mo_box_35 : decode prog_12_method_7_code 35 = .ok (.ifCond .le 7, 3) := by decide +kernel
theorem d_Mo_box_32 : decode prog_12_method_7_code 32 = .ok (.getfield 94, 3) := by decide +kernel
theorem d_Mo_box_28 : decode prog_12_method_7_code 28 = .ok (.putfield 94, 3) := by decide +kernel
theorem d_Mo_box_0 : decode prog_12_method_7_code 0 = .ok (.aload_n 0, 1) := by decide +kernel
theorem d_Mo_box_1 : decode prog_12_method_7_code 1 = .ok (.iload_n 1, 1) := by decide +kernel
theorem d_Mo_box_13 : decode prog_12_method_7_code 13 = .ok (.aload_n 0, 1) := by decide +kernel
theorem d_Mo_box_27 : decode prog_12_method_7_code 27 = .ok (.iconst 0, 1) := by decide +kernel
theorem d_Mo_box_24 : decode prog_12_method_7_code 24 = .ok (.goto 4, 3) := by decide +kernel
theorem d_Mo_box_23 : decode prog_12_method_7_code 23 = .ok (.iconst 2, 1) := by decide +kernel
theorem d_Mo_box_20 : decode prog_12_method_7_code 20 = .ok (.if_icmp .ne 7, 3) := by decide +kernel
theorem d_Mo_box_17 : decode prog_12_method_7_code 17 = .ok (.sipush 400, 3) := by decide +kernel
theorem d_Mo_box_14 : decode prog_12_method_7_code 14 = .ok (.getfield 103, 3) := by decide +kernel
theorem d_Mo_box_10 : decode prog_12_method_7_code 10 = .ok (.goto 18, 3) := by decide +kernel
theorem d_Mo_box_9 : decode prog_12_method_7_code 9 = .ok (.iconst 1, 1) := by decide +kernel
theorem d_Mo_box_6 : decode prog_12_method_7_code 6 = .ok (.ifCond .ne 7, 3) := by decide +kernel
theorem d_Mo_box_3 : decode prog_12_method_7_code 3 = .ok (.invokestatic 109, 3) := by decide +kernel
theorem d_Mo_box_2 : decode prog_12_method_7_code 2 = .ok (.i2l, 1) := by decide +kernel
theorem d_Mo_isGlue_0 : decode prog_12_method_8_code 0 = .ok (.iload_n 0, 1) := by decide +kernel
theorem d_Mo_isGlue_36 : decode prog_12_method_8_code 36 = .ok (.ireturn, 1) := by decide +kernel
theorem d_Mo_isGlue_35 : decode prog_12_method_8_code 35 = .ok (.iconst 0, 1) := by decide +kernel
theorem d_Mo_isGlue_8 : decode prog_12_method_8_code 8 = .ok (.iload_n 1, 1) := by decide +kernel
theorem d_Mo_isGlue_15 : decode prog_12_method_8_code 15 = .ok (.iload_n 3, 1) := by decide +kernel
theorem d_Mo_isGlue_22 : decode prog_12_method_8_code 22 = .ok (.iload_n 2, 1) := by decide +kernel
theorem d_Mo_isGlue_26 : decode prog_12_method_8_code 26 = .ok (.iload_n 2, 1) := by decide +kernel
theorem d_Mo_isGlue_32 : decode prog_12_method_8_code 32 = .ok (.goto 4, 3) := by decide +kernel
theorem d_Mo_isGlue_31 : decode prog_12_method_8_code 31 = .ok (.iconst 1, 1) := by decide +kernel
theorem d_Mo_isGlue_28 : decode prog_12_method_8_code 28 = .ok (.if_icmp .gt 7, 3) := by decide +kernel
theorem d_Mo_isGlue_27 : decode prog_12_method_8_code 27 = .ok (.iconst 3, 1) := by decide +kernel
theorem d_Mo_isGlue_23 : decode prog_12_method_8_code 23 = .ok (.ifCond .lt 12, 3) := by decide +kernel
theorem d_Mo_isGlue_19 : decode prog_12_method_8_code 19 = .ok (.ifCond .eq 16, 3) := by decide +kernel
theorem d_Mo_isGlue_16 : decode prog_12_method_8_code 16 = .ok (.invokestatic 117, 3) := by decide +kernel
theorem d_Mo_isGlue_12 : decode prog_12_method_8_code 12 = .ok (.ifCond .eq 23, 3) := by decide +kernel
theorem d_Mo_isGlue_9 : decode prog_12_method_8_code 9 = .ok (.invokestatic 117, 3) := by decide +kernel
theorem d_Mo_isGlue_5 : decode prog_12_method_8_code 5 = .ok (.ifCond .eq 30, 3) := by decide +kernel
theorem d_Mo_isGlue_2 : decode prog_12_method_8_code 2 = .ok (.invokestatic 109, 3) := by decide +kernel
theorem d_Mo_isGlue_1 : decode prog_12_method_8_code 1 = .ok (.i2l, 1) := by decide +kernel
theorem d_Mo_glue_49 : decode prog_12_method_9_code 49 = .ok (.aload_n 0, 1) := by decide +kernel
theorem d_Mo_glue_60 : decode prog_12_method_9_code 60 = .ok (.aload_n 0, 1) := by decide +kernel
theorem d_Mo_glue_62 : decode prog_12_method_9_code 62 = .ok (.iload_n 1, 1) := by decide +kernel
theorem d_Mo_glue_63 : decode prog_12_method_9_code 63 = .ok (.iload_n 2, 1) := by decide +kernel
theorem d_Mo_glue_64 : decode prog_12_method_9_code 64 = .ok (.iload_n 3, 1) := by decide +kernel
theorem d_Mo_glue_65 : decode prog_12_method_9_code 65 = .ok (.iload 4, 2) := by decide +kernel
theorem d_Mo_glue_72 : decode prog_12_method_9_code 72 = .ok (.ireturn, 1) := by decide +kernel
theorem d_Mo_glue_69 : decode prog_12_method_9_code 69 = .ok (.invokevirtual 113, 3) := by decide +kernel
theorem d_Mo_glue_68 : decode prog_12_method_9_code 68 = .ok (.iconst 0, 1) := by decide +kernel
theorem d_Mo_glue_67 : decode prog_12_method_9_code 67 = .ok (.iconst 0, 1) := by decide +kernel
theorem d_Mo_glue_61 : decode prog_12_method_9_code 61 = .ok (.iconst 1, 1) := by decide +kernel
theorem d_Mo_glue_57 : decode prog_12_method_9_code 57 = .ok (.goto 15, 3) := by decide +kernel
theorem d_Mo_glue_56 : decode prog_12_method_9_code 56 = .ok (.iconst 0, 1) := by decide +kernel
theorem d_Mo_glue_53 : decode prog_12_method_9_code 53 = .ok (.ifCond .le 7, 3) := by decide +kernel
theorem d_Mo_glue_50 : decode prog_12_method_9_code 50 = .ok (.getfield 94, 3) := by decide +kernel
theorem d_Mo_glue_46 : decode prog_12_method_9_code 46 = .ok (.putfield 94, 3) := by decide +kernel
theorem d_Mo_glue_0 : decode prog_12_method_9_code 0 = .ok (.aload_n 0, 1) := by decide +kernel
theorem d_Mo_glue_1 : decode prog_12_method_9_code 1 = .ok (.iload_n 1, 1) := by decide +kernel
theorem d_Mo_glue_2 : decode prog_12_method_9_code 2 = .ok (.iload_n 2, 1) := by decide +kernel
theorem d_Mo_glue_3 : decode prog_12_method_9_code 3 = .ok (.iload_n 3, 1) := by decide +kernel
theorem d_Mo_glue_4 : decode prog_12_method_9_code 4 = .ok (.iload 4, 2) := by decide +kernel
theorem d_Mo_glue_16 : decode prog_12_method_9_code 16 = .ok (.aload_n 0, 1) := by decide +kernel
theorem d_Mo_glue_17 : decode prog_12_method_9_code 17 = .ok (.aload_n 0, 1) := by decide +kernel
theorem d_Mo_glue_31 : decode prog_12_method_9_code 31 = .ok (.aload_n 0, 1) := by decide +kernel
theorem d_Mo_glue_45 : decode prog_12_method_9_code 45 = .ok (.iconst 0, 1) := by decide +kernel
theorem d_Mo_glue_42 : decode prog_12_method_9_code 42 = .ok (.goto 4, 3) := by decide +kernel
theorem d_Mo_glue_41 : decode prog_12_method_9_code 41 = .ok (.iconst 3, 1) := by decide +kernel
theorem d_Mo_glue_38 : decode prog_12_method_9_code 38 = .ok (.if_icmp .ne 7, 3) := by decide +kernel
theorem d_Mo_glue_35 : decode prog_12_method_9_code 35 = .ok (.sipush 400, 3) := by decide +kernel
theorem d_Mo_glue_32 : decode prog_12_method_9_code 32 = .ok (.getfield 103, 3) := by decide +kernel
theorem d_Mo_glue_28 : decode prog_12_method_9_code 28 = .ok (.goto 18, 3) := by decide +kernel
theorem d_Mo_glue_27 : decode prog_12_method_9_code 27 = .ok (.iconst 2, 1) := by decide +kernel
theorem d_Mo_glue_24 : decode prog_12_method_9_code 24 = .ok (.ifCond .lt 7, 3) := by decide +kernel
theorem d_Mo_glue_21 : decode prog_12_method_9_code 21 = .ok (.invokevirtual 125, 3) := by decide +kernel
theorem d_Mo_glue_18 : decode prog_12_method_9_code 18 = .ok (.getfield 103, 3) := by decide +kernel
theorem d_Mo_glue_13 : decode prog_12_method_9_code 13 = .ok (.goto 33, 3) := by decide +kernel
theorem d_Mo_glue_12 : decode prog_12_method_9_code 12 = .ok (.iconst 1, 1) := by decide +kernel
theorem d_Mo_glue_9 : decode prog_12_method_9_code 9 = .ok (.ifCond .ne 7, 3) := by decide +kernel
theorem d_Mo_glue_6 : decode prog_12_method_9_code 6 = .ok (.invokestatic 121, 3) := by decide +kernel
theorem d_Mo_kern_52 : decode prog_12_method_10_code 52 = .ok (.iload_n 1, 1) := by decide +kernel
theorem d_Mo_kern_61 : decode prog_12_method_10_code 61 = .ok (.ireturn, 1) := by decide +kernel
theorem d_Mo_kern_58 : decode prog_12_method_10_code 58 = .ok (.invokevirtual 113, 3) := by decide +kernel
theorem d_Mo_kern_57 : decode prog_12_method_10_code 57 = .ok (.iconst 0, 1) := by decide +kernel
theorem d_Mo_kern_56 : decode prog_12_method_10_code 56 = .ok (.iconst 0, 1) := by decide +kernel
theorem d_Mo_kern_55 : decode prog_12_method_10_code 55 = .ok (.iconst 0, 1) := by decide +kernel
theorem d_Mo_kern_54 : decode prog_12_method_10_code 54 = .ok (.iconst 0, 1) := by decide +kernel
theorem d_Mo_kern_53 : decode prog_12_method_10_code 53 = .ok (.iconst 0, 1) := by decide +kernel
theorem d_Mo_kern_31 : decode prog_12_method_10_code 31 = .ok (.aload_n 0, 1) := by decide +kernel
theorem d_Mo_kern_42 : decode prog_12_method_10_code 42 = .ok (.aload_n 0, 1) := by decide +kernel
theorem d_Mo_kern_43 : decode prog_12_method_10_code 43 = .ok (.iload_n 2, 1) := by decide +kernel
theorem d_Mo_kern_51 : decode prog_12_method_10_code 51 = .ok (.iconst 2, 1) := by decide +kernel
theorem d_Mo_kern_48 : decode prog_12_method_10_code 48 = .ok (.goto 4, 3) := by decide +kernel
theorem d_Mo_kern_47 : decode prog_12_method_10_code 47 = .ok (.iconst 3, 1) := by decide +kernel
theorem d_Mo_kern_44 : decode prog_12_method_10_code 44 = .ok (.ifCond .eq 7, 3) := by decide +kernel
theorem d_Mo_kern_39 : decode prog_12_method_10_code 39 = .ok (.goto 22, 3) := by decide +kernel
theorem d_Mo_kern_38 : decode prog_12_method_10_code 38 = .ok (.iconst 0, 1) := by decide +kernel
theorem d_Mo_kern_35 : decode prog_12_method_10_code 35 = .ok (.ifCond .le 7, 3) := by decide +kernel
theorem d_Mo_kern_32 : decode prog_12_method_10_code 32 = .ok (.getfield 94, 3) := by decide +kernel
theorem d_Mo_kern_28 : decode prog_12_method_10_code 28 = .ok (.putfield 94, 3) := by decide +kernel
theorem d_Mo_kern_0 : decode prog_12_method_10_code 0 = .ok (.aload_n 0, 1) := by decide +kernel
theorem d_Mo_kern_1 : decode prog_12_method_10_code 1 = .ok (.iload_n 1, 1) := by decide +kernel
theorem d_Mo_kern_13 : decode prog_12_method_10_code 13 = .ok (.aload_n 0, 1) := by decide +kernel
theorem d_Mo_kern_27 : decode prog_12_method_10_code 27 = .ok (.iconst 0, 1) := by decide +kernel
theorem d_Mo_kern_24 : decode prog_12_method_10_code 24 = .ok (.goto 4, 3) := by decide +kernel
theorem d_Mo_kern_23 : decode prog_12_method_10_code 23 = .ok (.iconst 2, 1) := by decide +kernel
theorem d_Mo_kern_20 : decode prog_12_method_10_code 20 = .ok (.if_icmp .ne 7, 3) := by decide +kernel
theorem d_Mo_kern_17 : decode prog_12_method_10_code 17 = .ok (.sipush 400, 3) := by decide +kernel
theorem d_Mo_kern_14 : decode prog_12_method_10_code 14 = .ok (.getfield 103, 3) := by decide +kernel
theorem d_Mo_kern_10 : decode prog_12_method_10_code 10 = .ok (.goto 18, 3) := by decide +kernel
theorem d_Mo_kern_9 : decode prog_12_method_10_code 9 = .ok (.iconst 1, 1) := by decide +kernel
theorem d_Mo_kern_6 : decode prog_12_method_10_code 6 = .ok (.ifCond .ne 7, 3) := by decide +kernel
theorem d_Mo_kern_3 : decode prog_12_method_10_code 3 = .ok (.invokestatic 109, 3) := by decide +kernel
theorem d_Mo_kern_2 : decode prog_12_method_10_code 2 = .ok (.i2l, 1) := by decide +kernel
theorem d_Mo_penalty_82 : decode prog_12_method_11_code 82 = .ok (.ireturn, 1) := by decide +kernel
theorem d_Mo_penalty_79 : decode prog_12_method_11_code 79 = .ok (.invokevirtual 113, 3) := by decide +kernel
theorem d_Mo_penalty_78 : decode prog_12_method_11_code 78 = .ok (.iconst 0, 1) := by decide +kernel
theorem d_Mo_penalty_77 : decode prog_12_method_11_code 77 = .ok (.iconst 0, 1) := by decide +kernel
theorem d_Mo_penalty_76 : decode prog_12_method_11_code 76 = .ok (.iconst 0, 1) := by decide +kernel
theorem d_Mo_penalty_75 : decode prog_12_method_11_code 75 = .ok (.iconst 0, 1) := by decide +kernel
theorem d_Mo_penalty_74 : decode prog_12_method_11_code 74 = .ok (.iconst 0, 1) := by decide +kernel
theorem d_Mo_penalty_34 : decode prog_12_method_11_code 34 = .ok (.aload_n 0, 1) := by decide +kernel
theorem d_Mo_penalty_45 : decode prog_12_method_11_code 45 = .ok (.aload_n 0, 1) := by decide +kernel
theorem d_Mo_penalty_47 : decode prog_12_method_11_code 47 = .ok (.iload_n 1, 1) := by decide +kernel
theorem d_Mo_penalty_60 : decode prog_12_method_11_code 60 = .ok (.iload_n 1, 1) := by decide +kernel
theorem d_Mo_penalty_73 : decode prog_12_method_11_code 73 = .ok (.iload_n 1, 1) := by decide +kernel
theorem d_Mo_penalty_70 : decode prog_12_method_11_code 70 = .ok (.goto 4, 3) := by decide +kernel
theorem d_Mo_penalty_67 : decode prog_12_method_11_code 67 = .ok (.sipush 10000, 3) := by decide +kernel
theorem d_Mo_penalty_64 : decode prog_12_method_11_code 64 = .ok (.if_icmp .le 9, 3) := by decide +kernel
theorem d_Mo_penalty_61 : decode prog_12_method_11_code 61 = .ok (.sipush 10000, 3) := by decide +kernel
theorem d_Mo_penalty_57 : decode prog_12_method_11_code 57 = .ok (.goto 17, 3) := by decide +kernel
theorem d_Mo_penalty_54 : decode prog_12_method_11_code 54 = .ok (.sipush (-10000), 3) := by decide +kernel
theorem d_Mo_penalty_51 : decode prog_12_method_11_code 51 = .ok (.if_icmp .ge 9, 3) := by decide +kernel
theorem d_Mo_penalty_48 : decode prog_12_method_11_code 48 = .ok (.sipush (-10000), 3) := by decide +kernel
theorem d_Mo_penalty_46 : decode prog_12_method_11_code 46 = .ok (.iconst 4, 1) := by decide +kernel
theorem d_Mo_penalty_42 : decode prog_12_method_11_code 42 = .ok (.goto 40, 3) := by decide +kernel
theorem d_Mo_penalty_41 : decode prog_12_method_11_code 41 = .ok (.iconst 0, 1) := by decide +kernel
theorem d_Mo_penalty_38 : decode prog_12_method_11_code 38 = .ok (.ifCond .le 7, 3) := by decide +kernel
theorem d_Mo_penalty_35 : decode prog_12_method_11_code 35 = .ok (.getfield 94, 3) := by decide +kernel
theorem d_Mo_penalty_31 : decode prog_12_method_11_code 31 = .ok (.putfield 94, 3) := by decide +kernel
theorem d_Mo_penalty_0 : decode prog_12_method_11_code 0 = .ok (.aload_n 0, 1) := by decide +kernel
theorem d_Mo_penalty_1 : decode prog_12_method_11_code 1 = .ok (.aload_n 0, 1) := by decide +kernel
theorem d_Mo_penalty_2 : decode prog_12_method_11_code 2 = .ok (.aload_n 0, 1) := by decide +kernel
theorem d_Mo_penalty_16 : decode prog_12_method_11_code 16 = .ok (.aload_n 0, 1) := by decide +kernel
theorem d_Mo_penalty_30 : decode prog_12_method_11_code 30 = .ok (.iconst 0, 1) := by decide +kernel
theorem d_Mo_penalty_27 : decode prog_12_method_11_code 27 = .ok (.goto 4, 3) := by decide +kernel
theorem d_Mo_penalty_26 : decode prog_12_method_11_code 26 = .ok (.iconst 2, 1) := by decide +kernel
theorem d_Mo_penalty_23 : decode prog_12_method_11_code 23 = .ok (.if_icmp .ne 7, 3) := by decide +kernel
theorem d_Mo_penalty_20 : decode prog_12_method_11_code 20 = .ok (.sipush 400, 3) := by decide +kernel
theorem d_Mo_penalty_17 : decode prog_12_method_11_code 17 = .ok (.getfield 103, 3) := by decide +kernel
theorem d_Mo_penalty_13 : decode prog_12_method_11_code 13 = .ok (.goto 18, 3) := by decide +kernel
theorem d_Mo_penalty_12 : decode prog_12_method_11_code 12 = .ok (.iconst 1, 1) := by decide +kernel
theorem d_Mo_penalty_9 : decode prog_12_method_11_code 9 = .ok (.ifCond .lt 7, 3) := by decide +kernel
theorem d_Mo_penalty_6 : decode prog_12_method_11_code 6 = .ok (.invokevirtual 125, 3) := by decide +kernel
theorem d_Mo_penalty_3 : decode prog_12_method_11_code 3 = .ok (.getfield 103, 3) := by decide +kernel
theorem d_Mo_mayStand_0 : decode prog_12_method_12_code 0 = .ok (.iload_n 0, 1) := by decide +kernel
theorem d_Mo_mayStand_19 : decode prog_12_method_12_code 19 = .ok (.ireturn, 1) := by decide +kernel
theorem d_Mo_mayStand_15 : decode prog_12_method_12_code 15 = .ok (.goto 4, 3) := by decide +kernel
theorem d_Mo_mayStand_14 : decode prog_12_method_12_code 14 = .ok (.iconst 1, 1) := by decide +kernel
theorem d_Mo_mayStand_6 : decode prog_12_method_12_code 6 = .ok (.iload_n 0, 1) := by decide +kernel
theorem d_Mo_mayStand_18 : decode prog_12_method_12_code 18 = .ok (.iconst 0, 1) := by decide +kernel
theorem d_Mo_mayStand_11 : decode prog_12_method_12_code 11 = .ok (.ifCond .eq 7, 3) := by decide +kernel
theorem d_Mo_mayStand_8 : decode prog_12_method_12_code 8 = .ok (.invokestatic 109, 3) := by decide +kernel
theorem d_Mo_mayStand_7 : decode prog_12_method_12_code 7 = .ok (.i2l, 1) := by decide +kernel
theorem d_Mo_mayStand_3 : decode prog_12_method_12_code 3 = .ok (.if_icmp .eq 11, 3) := by decide +kernel
theorem d_Mo_mayStand_1 : decode prog_12_method_12_code 1 = .ok (.ldc 129, 2) := by decide +kernel
theorem d_Mo_hyphen_62 : decode prog_12_method_13_code 62 = .ok (.aload_n 0, 1) := by decide +kernel
theorem d_Mo_hyphen_73 : decode prog_12_method_13_code 73 = .ok (.aload_n 0, 1) := by decide +kernel
theorem d_Mo_hyphen_75 : decode prog_12_method_13_code 75 = .ok (.iload_n 1, 1) := by decide +kernel
theorem d_Mo_hyphen_79 : decode prog_12_method_13_code 79 = .ok (.iload_n 2, 1) := by decide +kernel
theorem d_Mo_hyphen_80 : decode prog_12_method_13_code 80 = .ok (.iload_n 3, 1) := by decide +kernel
theorem d_Mo_hyphen_84 : decode prog_12_method_13_code 84 = .ok (.ireturn, 1) := by decide +kernel
theorem d_Mo_hyphen_81 : decode prog_12_method_13_code 81 = .ok (.invokevirtual 113, 3) := by decide +kernel
theorem d_Mo_hyphen_78 : decode prog_12_method_13_code 78 = .ok (.iconst 0, 1) := by decide +kernel
theorem d_Mo_hyphen_77 : decode prog_12_method_13_code 77 = .ok (.iconst 0, 1) := by decide +kernel
theorem d_Mo_hyphen_76 : decode prog_12_method_13_code 76 = .ok (.iconst 0, 1) := by decide +kernel
theorem d_Mo_hyphen_74 : decode prog_12_method_13_code 74 = .ok (.iconst 5, 1) := by decide +kernel
theorem d_Mo_hyphen_70 : decode prog_12_method_13_code 70 = .ok (.goto 14, 3) := by decide +kernel
theorem d_Mo_hyphen_69 : decode prog_12_method_13_code 69 = .ok (.iconst 0, 1) := by decide +kernel
theorem d_Mo_hyphen_66 : decode prog_12_method_13_code 66 = .ok (.ifCond .le 7, 3) := by decide +kernel
theorem d_Mo_hyphen_63 : decode prog_12_method_13_code 63 = .ok (.getfield 94, 3) := by decide +kernel
theorem d_Mo_hyphen_59 : decode prog_12_method_13_code 59 = .ok (.putfield 94, 3) := by decide +kernel
theorem d_Mo_hyphen_26 : decode prog_12_method_13_code 26 = .ok (.goto 33, 3) := by decide +kernel
theorem d_Mo_hyphen_25 : decode prog_12_method_13_code 25 = .ok (.iconst 1, 1) := by decide +kernel
theorem d_Mo_hyphen_0 : decode prog_12_method_13_code 0 = .ok (.aload_n 0, 1) := by decide +kernel
theorem d_Mo_hyphen_1 : decode prog_12_method_13_code 1 = .ok (.iload_n 1, 1) := by decide +kernel
theorem d_Mo_hyphen_8 : decode prog_12_method_13_code 8 = .ok (.iload_n 2, 1) := by decide +kernel
theorem d_Mo_hyphen_15 : decode prog_12_method_13_code 15 = .ok (.iload_n 3, 1) := by decide +kernel
theorem d_Mo_hyphen_19 : decode prog_12_method_13_code 19 = .ok (.iload_n 3, 1) := by decide +kernel
theorem d_Mo_hyphen_29 : decode prog_12_method_13_code 29 = .ok (.aload_n 0, 1) := by decide +kernel
theorem d_Mo_hyphen_30 : decode prog_12_method_13_code 30 = .ok (.aload_n 0, 1) := by decide +kernel
theorem d_Mo_hyphen_44 : decode prog_12_method_13_code 44 = .ok (.aload_n 0, 1) := by decide +kernel
theorem d_Mo_hyphen_58 : decode prog_12_method_13_code 58 = .ok (.iconst 0, 1) := by decide +kernel
theorem d_Mo_hyphen_55 : decode prog_12_method_13_code 55 = .ok (.goto 4, 3) := by decide +kernel
theorem d_Mo_hyphen_54 : decode prog_12_method_13_code 54 = .ok (.iconst 3, 1) := by decide +kernel
theorem d_Mo_hyphen_51 : decode prog_12_method_13_code 51 = .ok (.if_icmp .ne 7, 3) := by decide +kernel
theorem d_Mo_hyphen_48 : decode prog_12_method_13_code 48 = .ok (.sipush 400, 3) := by decide +kernel
theorem d_Mo_hyphen_45 : decode prog_12_method_13_code 45 = .ok (.getfield 103, 3) := by decide +kernel
theorem d_Mo_hyphen_41 : decode prog_12_method_13_code 41 = .ok (.goto 18, 3) := by decide +kernel
theorem d_Mo_hyphen_40 : decode prog_12_method_13_code 40 = .ok (.iconst 2, 1) := by decide +kernel
theorem d_Mo_hyphen_37 : decode prog_12_method_13_code 37 = .ok (.ifCond .lt 7, 3) := by decide +kernel
theorem d_Mo_hyphen_34 : decode prog_12_method_13_code 34 = .ok (.invokevirtual 125, 3) := by decide +kernel
theorem d_Mo_hyphen_31 : decode prog_12_method_13_code 31 = .ok (.getfield 103, 3) := by decide +kernel
theorem d_Mo_hyphen_22 : decode prog_12_method_13_code 22 = .ok (.if_icmp .le 7, 3) := by decide +kernel
theorem d_Mo_hyphen_20 : decode prog_12_method_13_code 20 = .ok (.bipush 10, 2) := by decide +kernel
theorem d_Mo_hyphen_16 : decode prog_12_method_13_code 16 = .ok (.ifCond .lt 9, 3) := by decide +kernel
theorem d_Mo_hyphen_12 : decode prog_12_method_13_code 12 = .ok (.ifCond .eq 13, 3) := by decide +kernel
theorem d_Mo_hyphen_9 : decode prog_12_method_13_code 9 = .ok (.invokestatic 130, 3) := by decide +kernel
theorem d_Mo_hyphen_5 : decode prog_12_method_13_code 5 = .ok (.ifCond .eq 20, 3) := by decide +kernel
theorem d_Mo_hyphen_2 : decode prog_12_method_13_code 2 = .ok (.invokestatic 130, 3) := by decide +kernel
theorem d_Mo_keep_0 : decode prog_12_method_14_code 0 = .ok (.aload_n 0, 1) := by decide +kernel
theorem d_Mo_keep_5 : decode prog_12_method_14_code 5 = .ok (.iload_n 1, 1) := by decide +kernel
theorem d_Mo_keep_18 : decode prog_12_method_14_code 18 = .ok (.ireturn, 1) := by decide +kernel
theorem d_Mo_keep_17 : decode prog_12_method_14_code 17 = .ok (.iconst 0, 1) := by decide +kernel
theorem d_Mo_keep_9 : decode prog_12_method_14_code 9 = .ok (.iload_n 1, 1) := by decide +kernel
theorem d_Mo_keep_10 : decode prog_12_method_14_code 10 = .ok (.aload_n 0, 1) := by decide +kernel
theorem d_Mo_keep_19 : decode prog_12_method_14_code 19 = .ok (.aload_n 0, 1) := by decide +kernel
theorem d_Mo_keep_20 : decode prog_12_method_14_code 20 = .ok (.iload_n 1, 1) := by decide +kernel
theorem d_Mo_keep_24 : decode prog_12_method_14_code 24 = .ok (.aload_n 0, 1) := by decide +kernel
theorem d_Mo_keep_30 : decode prog_12_method_14_code 30 = .ok (.ireturn, 1) := by decide +kernel
theorem d_Mo_keep_29 : decode prog_12_method_14_code 29 = .ok (.iconst 1, 1) := by decide +kernel
theorem d_Mo_keep_26 : decode prog_12_method_14_code 26 = .ok (.putfield 106, 3) := by decide +kernel
theorem d_Mo_keep_25 : decode prog_12_method_14_code 25 = .ok (.iconst 0, 1) := by decide +kernel
theorem d_Mo_keep_21 : decode prog_12_method_14_code 21 = .ok (.putfield 103, 3) := by decide +kernel
theorem d_Mo_keep_14 : decode prog_12_method_14_code 14 = .ok (.if_icmp .le 5, 3) := by decide +kernel
theorem d_Mo_keep_11 : decode prog_12_method_14_code 11 = .ok (.getfield 103, 3) := by decide +kernel
theorem d_Mo_keep_6 : decode prog_12_method_14_code 6 = .ok (.ifCond .lt 11, 3) := by decide +kernel
theorem d_Mo_keep_2 : decode prog_12_method_14_code 2 = .ok (.putfield 94, 3) := by decide +kernel
theorem d_Mo_keep_1 : decode prog_12_method_14_code 1 = .ok (.iconst 0, 1) := by decide +kernel
theorem d_Mo_items_0 : decode prog_12_method_15_code 0 = .ok (.aload_n 0, 1) := by decide +kernel
theorem d_Mo_items_5 : decode prog_12_method_15_code 5 = .ok (.aload_n 0, 1) := by decide +kernel
theorem d_Mo_items_9 : decode prog_12_method_15_code 9 = .ok (.ireturn, 1) := by decide +kernel
theorem d_Mo_items_6 : decode prog_12_method_15_code 6 = .ok (.getfield 103, 3) := by decide +kernel
theorem d_Mo_items_2 : decode prog_12_method_15_code 2 = .ok (.putfield 94, 3) := by decide +kernel
theorem d_Mo_items_1 : decode prog_12_method_15_code 1 = .ok (.iconst 0, 1) := by decide +kernel
theorem d_Mo_least_0 : decode prog_12_method_16_code 0 = .ok (.iload_n 0, 1) := by decide +kernel
theorem d_Mo_least_8 : decode prog_12_method_16_code 8 = .ok (.iload_n 0, 1) := by decide +kernel
theorem d_Mo_least_47 : decode prog_12_method_16_code 47 = .ok (.ireturn, 1) := by decide +kernel
theorem d_Mo_least_20 : decode prog_12_method_16_code 20 = .ok (.goto 27, 3) := by decide +kernel
theorem d_Mo_least_19 : decode prog_12_method_16_code 19 = .ok (.iconst 0, 1) := by decide +kernel
theorem d_Mo_least_13 : decode prog_12_method_16_code 13 = .ok (.iload_n 0, 1) := by decide +kernel
theorem d_Mo_least_23 : decode prog_12_method_16_code 23 = .ok (.iload_n 0, 1) := by decide +kernel
theorem d_Mo_least_34 : decode prog_12_method_16_code 34 = .ok (.iload_n 0, 1) := by decide +kernel
theorem d_Mo_least_45 : decode prog_12_method_16_code 45 = .ok (.bipush (-100), 2) := by decide +kernel
theorem d_Mo_least_42 : decode prog_12_method_16_code 42 = .ok (.goto 5, 3) := by decide +kernel
theorem d_Mo_least_40 : decode prog_12_method_16_code 40 = .ok (.ldc 133, 2) := by decide +kernel
theorem d_Mo_least_37 : decode prog_12_method_16_code 37 = .ok (.if_icmp .ge 8, 3) := by decide +kernel
theorem d_Mo_least_35 : decode prog_12_method_16_code 35 = .ok (.bipush 8, 2) := by decide +kernel
theorem d_Mo_least_31 : decode prog_12_method_16_code 31 = .ok (.goto 16, 3) := by decide +kernel
theorem d_Mo_least_28 : decode prog_12_method_16_code 28 = .ok (.sipush (-10000), 3) := by decide +kernel
theorem d_Mo_least_25 : decode prog_12_method_16_code 25 = .ok (.if_icmp .ge 9, 3) := by decide +kernel
theorem d_Mo_least_24 : decode prog_12_method_16_code 24 = .ok (.iconst 5, 1) := by decide +kernel
theorem d_Mo_least_16 : decode prog_12_method_16_code 16 = .ok (.if_icmp .ne 7, 3) := by decide +kernel
theorem d_Mo_least_14 : decode prog_12_method_16_code 14 = .ok (.bipush 8, 2) := by decide +kernel
theorem d_Mo_least_10 : decode prog_12_method_16_code 10 = .ok (.if_icmp .eq 9, 3) := by decide +kernel
theorem d_Mo_least_9 : decode prog_12_method_16_code 9 = .ok (.iconst 1, 1) := by decide +kernel
theorem d_Mo_least_5 : decode prog_12_method_16_code 5 = .ok (.goto 42, 3) := by decide +kernel
theorem d_Mo_least_4 : decode prog_12_method_16_code 4 = .ok (.iconst (-1), 1) := by decide +kernel
theorem d_Mo_least_1 : decode prog_12_method_16_code 1 = .ok (.ifCond .ne 7, 3) := by decide +kernel
theorem d_Mo_most_0 : decode prog_12_method_17_code 0 = .ok (.iload_n 0, 1) := by decide +kernel
theorem d_Mo_most_11 : decode prog_12_method_17_code 11 = .ok (.iload_n 0, 1) := by decide +kernel
theorem d_Mo_most_22 : decode prog_12_method_17_code 22 = .ok (.iload_n 0, 1) := by decide +kernel
theorem d_Mo_most_35 : decode prog_12_method_17_code 35 = .ok (.ireturn, 1) := by decide +kernel
theorem d_Mo_most_33 : decode prog_12_method_17_code 33 = .ok (.bipush 100, 2) := by decide +kernel
theorem d_Mo_most_30 : decode prog_12_method_17_code 30 = .ok (.goto 5, 3) := by decide +kernel
theorem d_Mo_most_28 : decode prog_12_method_17_code 28 = .ok (.ldc 102, 2) := by decide +kernel
theorem d_Mo_most_25 : decode prog_12_method_17_code 25 = .ok (.if_icmp .ne 8, 3) := by decide +kernel
theorem d_Mo_most_23 : decode prog_12_method_17_code 23 = .ok (.bipush 8, 2) := by decide +kernel
theorem d_Mo_most_19 : decode prog_12_method_17_code 19 = .ok (.goto 16, 3) := by decide +kernel
theorem d_Mo_most_17 : decode prog_12_method_17_code 17 = .ok (.ldc 134, 2) := by decide +kernel
theorem d_Mo_most_14 : decode prog_12_method_17_code 14 = .ok (.if_icmp .ge 8, 3) := by decide +kernel
theorem d_Mo_most_12 : decode prog_12_method_17_code 12 = .ok (.bipush 8, 2) := by decide +kernel
theorem d_Mo_most_8 : decode prog_12_method_17_code 8 = .ok (.goto 27, 3) := by decide +kernel
theorem d_Mo_most_5 : decode prog_12_method_17_code 5 = .ok (.sipush 10000, 3) := by decide +kernel
theorem d_Mo_most_2 : decode prog_12_method_17_code 2 = .ok (.if_icmp .ge 9, 3) := by decide +kernel
theorem d_Mo_most_1 : decode prog_12_method_17_code 1 = .ok (.iconst 5, 1) := by decide +kernel
theorem d_Mo_set_35 : decode prog_12_method_18_code 35 = .ok (.aload_n 0, 1) := by decide +kernel
theorem d_Mo_set_49 : decode prog_12_method_18_code 49 = .ok (.return_, 1) := by decide +kernel
theorem d_Mo_set_42 : decode prog_12_method_18_code 42 = .ok (.aload_n 0, 1) := by decide +kernel
theorem d_Mo_set_46 : decode prog_12_method_18_code 46 = .ok (.iload_n 1, 1) := by decide +kernel
theorem d_Mo_set_47 : decode prog_12_method_18_code 47 = .ok (.iload_n 2, 1) := by decide +kernel
theorem d_Mo_set_48 : decode prog_12_method_18_code 48 = .ok (.iastore, 1) := by decide +kernel
theorem d_Mo_set_43 : decode prog_12_method_18_code 43 = .ok (.getfield 34, 3) := by decide +kernel
theorem d_Mo_set_39 : decode prog_12_method_18_code 39 = .ok (.ifCond .ne 10, 3) := by decide +kernel
theorem d_Mo_set_36 : decode prog_12_method_18_code 36 = .ok (.getfield 94, 3) := by decide +kernel
theorem d_Mo_set_32 : decode prog_12_method_18_code 32 = .ok (.putfield 94, 3) := by decide +kernel
theorem d_Mo_set_28 : decode prog_12_method_18_code 28 = .ok (.goto 4, 3) := by decide +kernel
theorem d_Mo_set_27 : decode prog_12_method_18_code 27 = .ok (.iconst 1, 1) := by decide +kernel
theorem d_Mo_set_0 : decode prog_12_method_18_code 0 = .ok (.aload_n 0, 1) := by decide +kernel
theorem d_Mo_set_1 : decode prog_12_method_18_code 1 = .ok (.iload_n 1, 1) := by decide +kernel
theorem d_Mo_set_5 : decode prog_12_method_18_code 5 = .ok (.iload_n 1, 1) := by decide +kernel
theorem d_Mo_set_11 : decode prog_12_method_18_code 11 = .ok (.iload_n 2, 1) := by decide +kernel
theorem d_Mo_set_12 : decode prog_12_method_18_code 12 = .ok (.iload_n 1, 1) := by decide +kernel
theorem d_Mo_set_19 : decode prog_12_method_18_code 19 = .ok (.iload_n 2, 1) := by decide +kernel
theorem d_Mo_set_20 : decode prog_12_method_18_code 20 = .ok (.iload_n 1, 1) := by decide +kernel
theorem d_Mo_set_31 : decode prog_12_method_18_code 31 = .ok (.iconst 0, 1) := by decide +kernel
theorem d_Mo_set_24 : decode prog_12_method_18_code 24 = .ok (.if_icmp .le 7, 3) := by decide +kernel
theorem d_Mo_set_21 : decode prog_12_method_18_code 21 = .ok (.invokestatic 138, 3) := by decide +kernel
theorem d_Mo_set_16 : decode prog_12_method_18_code 16 = .ok (.if_icmp .lt 11, 3) := by decide +kernel
theorem d_Mo_set_13 : decode prog_12_method_18_code 13 = .ok (.invokestatic 135, 3) := by decide +kernel
theorem d_Mo_set_8 : decode prog_12_method_18_code 8 = .ok (.if_icmp .gt 19, 3) := by decide +kernel
theorem d_Mo_set_6 : decode prog_12_method_18_code 6 = .ok (.bipush 9, 2) := by decide +kernel
theorem d_Mo_set_2 : decode prog_12_method_18_code 2 = .ok (.ifCond .lt 25, 3) := by decide +kernel
theorem d_Mo_wide_29 : decode prog_12_method_19_code 29 = .ok (.iload_n 3, 1) := by decide +kernel
theorem d_Mo_wide_55 : decode prog_12_method_19_code 55 = .ok (.return_, 1) := by decide +kernel
theorem d_Mo_wide_35 : decode prog_12_method_19_code 35 = .ok (.aload_n 0, 1) := by decide +kernel
theorem d_Mo_wide_42 : decode prog_12_method_19_code 42 = .ok (.aload_n 0, 1) := by decide +kernel
theorem d_Mo_wide_46 : decode prog_12_method_19_code 46 = .ok (.iload_n 3, 1) := by decide +kernel
theorem d_Mo_wide_47 : decode prog_12_method_19_code 47 = .ok (.iload_n 2, 1) := by decide +kernel
theorem d_Mo_wide_52 : decode prog_12_method_19_code 52 = .ok (.goto (-23), 3) := by decide +kernel
theorem d_Mo_wide_49 : decode prog_12_method_19_code 49 = .ok (.iinc 3 1, 3) := by decide +kernel
theorem d_Mo_wide_48 : decode prog_12_method_19_code 48 = .ok (.iastore, 1) := by decide +kernel
theorem d_Mo_wide_43 : decode prog_12_method_19_code 43 = .ok (.getfield 37, 3) := by decide +kernel
theorem d_Mo_wide_39 : decode prog_12_method_19_code 39 = .ok (.ifCond .ne 16, 3) := by decide +kernel
theorem d_Mo_wide_36 : decode prog_12_method_19_code 36 = .ok (.getfield 94, 3) := by decide +kernel
theorem d_Mo_wide_32 : decode prog_12_method_19_code 32 = .ok (.if_icmp .ge 23, 3) := by decide +kernel
theorem d_Mo_wide_30 : decode prog_12_method_19_code 30 = .ok (.bipush 20, 2) := by decide +kernel
theorem d_Mo_wide_0 : decode prog_12_method_19_code 0 = .ok (.aload_n 0, 1) := by decide +kernel
theorem d_Mo_wide_1 : decode prog_12_method_19_code 1 = .ok (.iload_n 1, 1) := by decide +kernel
theorem d_Mo_wide_27 : decode prog_12_method_19_code 27 = .ok (.iload_n 1, 1) := by decide +kernel
theorem d_Mo_wide_28 : decode prog_12_method_19_code 28 = .ok (.istore_n 3, 1) := by decide +kernel
theorem d_Mo_wide_24 : decode prog_12_method_19_code 24 = .ok (.putfield 94, 3) := by decide +kernel
theorem d_Mo_wide_20 : decode prog_12_method_19_code 20 = .ok (.goto 4, 3) := by decide +kernel
theorem d_Mo_wide_19 : decode prog_12_method_19_code 19 = .ok (.iconst 1, 1) := by decide +kernel
theorem d_Mo_wide_5 : decode prog_12_method_19_code 5 = .ok (.iload_n 1, 1) := by decide +kernel
theorem d_Mo_wide_11 : decode prog_12_method_19_code 11 = .ok (.iload_n 2, 1) := by decide +kernel
theorem d_Mo_wide_23 : decode prog_12_method_19_code 23 = .ok (.iconst 0, 1) := by decide +kernel
theorem d_Mo_wide_16 : decode prog_12_method_19_code 16 = .ok (.ifCond .ne 7, 3) := by decide +kernel
theorem d_Mo_wide_13 : decode prog_12_method_19_code 13 = .ok (.invokestatic 109, 3) := by decide +kernel
theorem d_Mo_wide_12 : decode prog_12_method_19_code 12 = .ok (.i2l, 1) := by decide +kernel
theorem d_Mo_wide_8 : decode prog_12_method_19_code 8 = .ok (.if_icmp .gt 11, 3) := by decide +kernel
theorem d_Mo_wide_6 : decode prog_12_method_19_code 6 = .ok (.bipush 19, 2) := by decide +kernel
theorem d_Mo_wide_2 : decode prog_12_method_19_code 2 = .ok (.ifCond .lt 17, 3) := by decide +kernel
theorem d_Mo_around_30 : decode prog_12_method_20_code 30 = .ok (.aload_n 0, 1) := by decide +kernel
theorem d_Mo_around_67 : decode prog_12_method_20_code 67 = .ok (.return_, 1) := by decide +kernel
theorem d_Mo_around_37 : decode prog_12_method_20_code 37 = .ok (.aload_n 0, 1) := by decide +kernel
theorem d_Mo_around_41 : decode prog_12_method_20_code 41 = .ok (.iload_n 1, 1) := by decide +kernel
theorem d_Mo_around_42 : decode prog_12_method_20_code 42 = .ok (.iload_n 2, 1) := by decide +kernel
theorem d_Mo_around_44 : decode prog_12_method_20_code 44 = .ok (.aload_n 0, 1) := by decide +kernel
theorem d_Mo_around_48 : decode prog_12_method_20_code 48 = .ok (.iload_n 1, 1) := by decide +kernel
theorem d_Mo_around_49 : decode prog_12_method_20_code 49 = .ok (.iload_n 3, 1) := by decide +kernel
theorem d_Mo_around_51 : decode prog_12_method_20_code 51 = .ok (.aload_n 0, 1) := by decide +kernel
theorem d_Mo_around_55 : decode prog_12_method_20_code 55 = .ok (.iload_n 1, 1) := by decide +kernel
theorem d_Mo_around_56 : decode prog_12_method_20_code 56 = .ok (.iload 4, 2) := by decide +kernel
theorem d_Mo_around_59 : decode prog_12_method_20_code 59 = .ok (.aload_n 0, 1) := by decide +kernel
theorem d_Mo_around_63 : decode prog_12_method_20_code 63 = .ok (.iload_n 1, 1) := by decide +kernel
theorem d_Mo_around_64 : decode prog_12_method_20_code 64 = .ok (.iload 5, 2) := by decide +kernel
theorem d_Mo_around_66 : decode prog_12_method_20_code 66 = .ok (.iastore, 1) := by decide +kernel
theorem d_Mo_around_60 : decode prog_12_method_20_code 60 = .ok (.getfield 49, 3) := by decide +kernel
theorem d_Mo_around_58 : decode prog_12_method_20_code 58 = .ok (.iastore, 1) := by decide +kernel
theorem d_Mo_around_52 : decode prog_12_method_20_code 52 = .ok (.getfield 46, 3) := by decide +kernel
theorem d_Mo_around_50 : decode prog_12_method_20_code 50 = .ok (.iastore, 1) := by decide +kernel
theorem d_Mo_around_45 : decode prog_12_method_20_code 45 = .ok (.getfield 43, 3) := by decide +kernel
theorem d_Mo_around_43 : decode prog_12_method_20_code 43 = .ok (.iastore, 1) := by decide +kernel
theorem d_Mo_around_38 : decode prog_12_method_20_code 38 = .ok (.getfield 40, 3) := by decide +kernel
theorem d_Mo_around_34 : decode prog_12_method_20_code 34 = .ok (.ifCond .ne 33, 3) := by decide +kernel
theorem d_Mo_around_31 : decode prog_12_method_20_code 31 = .ok (.getfield 94, 3) := by decide +kernel
theorem d_Mo_around_27 : decode prog_12_method_20_code 27 = .ok (.putfield 94, 3) := by decide +kernel
theorem d_Mo_around_23 : decode prog_12_method_20_code 23 = .ok (.goto 4, 3) := by decide +kernel
theorem d_Mo_around_22 : decode prog_12_method_20_code 22 = .ok (.iconst 1, 1) := by decide +kernel
theorem d_Mo_around_0 : decode prog_12_method_20_code 0 = .ok (.aload_n 0, 1) := by decide +kernel
theorem d_Mo_around_1 : decode prog_12_method_20_code 1 = .ok (.iload_n 1, 1) := by decide +kernel
theorem d_Mo_around_5 : decode prog_12_method_20_code 5 = .ok (.iload_n 1, 1) := by decide +kernel
theorem d_Mo_around_10 : decode prog_12_method_20_code 10 = .ok (.iload_n 2, 1) := by decide +kernel
theorem d_Mo_around_11 : decode prog_12_method_20_code 11 = .ok (.iload_n 3, 1) := by decide +kernel
theorem d_Mo_around_12 : decode prog_12_method_20_code 12 = .ok (.iload 4, 2) := by decide +kernel
theorem d_Mo_around_14 : decode prog_12_method_20_code 14 = .ok (.iload 5, 2) := by decide +kernel
theorem d_Mo_around_26 : decode prog_12_method_20_code 26 = .ok (.iconst 0, 1) := by decide +kernel
theorem d_Mo_around_19 : decode prog_12_method_20_code 19 = .ok (.ifCond .ne 7, 3) := by decide +kernel
theorem d_Mo_around_16 : decode prog_12_method_20_code 16 = .ok (.invokestatic 121, 3) := by decide +kernel
theorem d_Mo_around_7 : decode prog_12_method_20_code 7 = .ok (.if_icmp .gt 15, 3) := by decide +kernel
theorem d_Mo_around_6 : decode prog_12_method_20_code 6 = .ok (.iconst 2, 1) := by decide +kernel
theorem d_Mo_around_2 : decode prog_12_method_20_code 2 = .ok (.ifCond .lt 20, 3) := by decide +kernel
theorem d_Mo_isHyphen_0 : decode prog_12_method_21_code 0 = .ok (.iload_n 1, 1) := by decide +kernel
theorem d_Mo_isHyphen_19 : decode prog_12_method_21_code 19 = .ok (.ireturn, 1) := by decide +kernel
theorem d_Mo_isHyphen_18 : decode prog_12_method_21_code 18 = .ok (.iconst 0, 1) := by decide +kernel
theorem d_Mo_isHyphen_4 : decode prog_12_method_21_code 4 = .ok (.aload_n 0, 1) := by decide +kernel
theorem d_Mo_isHyphen_8 : decode prog_12_method_21_code 8 = .ok (.iload_n 1, 1) := by decide +kernel
theorem d_Mo_isHyphen_15 : decode prog_12_method_21_code 15 = .ok (.goto 4, 3) := by decide +kernel
theorem d_Mo_isHyphen_14 : decode prog_12_method_21_code 14 = .ok (.iconst 1, 1) := by decide +kernel
theorem d_Mo_isHyphen_11 : decode prog_12_method_21_code 11 = .ok (.if_icmp .ne 7, 3) := by decide +kernel
theorem d_Mo_isHyphen_10 : decode prog_12_method_21_code 10 = .ok (.iconst 5, 1) := by decide +kernel
theorem d_Mo_isHyphen_9 : decode prog_12_method_21_code 9 = .ok (.iaload, 1) := by decide +kernel
theorem d_Mo_isHyphen_5 : decode prog_12_method_21_code 5 = .ok (.getfield 7, 3) := by decide +kernel
theorem d_Mo_isHyphen_1 : decode prog_12_method_21_code 1 = .ok (.ifCond .lt 17, 3) := by decide +kernel
theorem d_Mo_fine_0 : decode prog_12_method_22_code 0 = .ok (.aload_n 0, 1) := by decide +kernel
theorem d_Mo_fine_4 : decode prog_12_method_22_code 4 = .ok (.iload_n 1, 1) := by decide +kernel
theorem d_Mo_fine_17 : decode prog_12_method_22_code 17 = .ok (.aload_n 0, 1) := by decide +kernel
theorem d_Mo_fine_21 : decode prog_12_method_22_code 21 = .ok (.iload_n 1, 1) := by decide +kernel
theorem d_Mo_fine_31 : decode prog_12_method_22_code 31 = .ok (.aload_n 0, 1) := by decide +kernel
theorem d_Mo_fine_35 : decode prog_12_method_22_code 35 = .ok (.aload_n 0, 1) := by decide +kernel
theorem d_Mo_fine_39 : decode prog_12_method_22_code 39 = .ok (.iload_n 1, 1) := by decide +kernel
theorem d_Mo_fine_52 : decode prog_12_method_22_code 52 = .ok (.ireturn, 1) := by decide +kernel
theorem d_Mo_fine_51 : decode prog_12_method_22_code 51 = .ok (.iaload, 1) := by decide +kernel
theorem d_Mo_fine_50 : decode prog_12_method_22_code 50 = .ok (.iconst 4, 1) := by decide +kernel
theorem d_Mo_fine_47 : decode prog_12_method_22_code 47 = .ok (.goto 4, 3) := by decide +kernel
theorem d_Mo_fine_46 : decode prog_12_method_22_code 46 = .ok (.iconst 3, 1) := by decide +kernel
theorem d_Mo_fine_43 : decode prog_12_method_22_code 43 = .ok (.if_icmp .eq 7, 3) := by decide +kernel
theorem d_Mo_fine_41 : decode prog_12_method_22_code 41 = .ok (.ldc 129, 2) := by decide +kernel
theorem d_Mo_fine_40 : decode prog_12_method_22_code 40 = .ok (.iaload, 1) := by decide +kernel
theorem d_Mo_fine_36 : decode prog_12_method_22_code 36 = .ok (.getfield 25, 3) := by decide +kernel
theorem d_Mo_fine_32 : decode prog_12_method_22_code 32 = .ok (.getfield 34, 3) := by decide +kernel
theorem d_Mo_fine_28 : decode prog_12_method_22_code 28 = .ok (.goto 24, 3) := by decide +kernel
theorem d_Mo_fine_27 : decode prog_12_method_22_code 27 = .ok (.iconst 0, 1) := by decide +kernel
theorem d_Mo_fine_24 : decode prog_12_method_22_code 24 = .ok (.if_icmp .eq 7, 3) := by decide +kernel
theorem d_Mo_fine_23 : decode prog_12_method_22_code 23 = .ok (.iconst 5, 1) := by decide +kernel
theorem d_Mo_fine_22 : decode prog_12_method_22_code 22 = .ok (.iaload, 1) := by decide +kernel
theorem d_Mo_fine_18 : decode prog_12_method_22_code 18 = .ok (.getfield 7, 3) := by decide +kernel
theorem d_Mo_fine_10 : decode prog_12_method_22_code 10 = .ok (.aload_n 0, 1) := by decide +kernel
theorem d_Mo_fine_14 : decode prog_12_method_22_code 14 = .ok (.iload_n 1, 1) := by decide +kernel
theorem d_Mo_fine_16 : decode prog_12_method_22_code 16 = .ok (.ireturn, 1) := by decide +kernel
theorem d_Mo_fine_15 : decode prog_12_method_22_code 15 = .ok (.iaload, 1) := by decide +kernel
theorem d_Mo_fine_11 : decode prog_12_method_22_code 11 = .ok (.getfield 13, 3) := by decide +kernel
theorem d_Mo_fine_7 : decode prog_12_method_22_code 7 = .ok (.if_icmp .ne 10, 3) := by decide +kernel
theorem d_Mo_fine_6 : decode prog_12_method_22_code 6 = .ok (.iconst 4, 1) := by decide +kernel
theorem d_Mo_fine_5 : decode prog_12_method_22_code 5 = .ok (.iaload, 1) := by decide +kernel
theorem d_Mo_fine_1 : decode prog_12_method_22_code 1 = .ok (.getfield 7, 3) := by decide +kernel
theorem d_Mo_isPlace_0 : decode prog_12_method_23_code 0 = .ok (.aload_n 0, 1) := by decide +kernel
theorem d_Mo_isPlace_1 : decode prog_12_method_23_code 1 = .ok (.iload_n 1, 1) := by decide +kernel
theorem d_Mo_isPlace_20 : decode prog_12_method_23_code 20 = .ok (.ireturn, 1) := by decide +kernel
theorem d_Mo_isPlace_19 : decode prog_12_method_23_code 19 = .ok (.iconst 0, 1) := by decide +kernel
theorem d_Mo_isPlace_8 : decode prog_12_method_23_code 8 = .ok (.aload_n 0, 1) := by decide +kernel
theorem d_Mo_isPlace_9 : decode prog_12_method_23_code 9 = .ok (.iload_n 1, 1) := by decide +kernel
theorem d_Mo_isPlace_21 : decode prog_12_method_23_code 21 = .ok (.aload_n 0, 1) := by decide +kernel
theorem d_Mo_isPlace_25 : decode prog_12_method_23_code 25 = .ok (.iload_n 1, 1) := by decide +kernel
theorem d_Mo_isPlace_60 : decode prog_12_method_23_code 60 = .ok (.iload_n 1, 1) := by decide +kernel
theorem d_Mo_isPlace_63 : decode prog_12_method_23_code 63 = .ok (.istore_n 2, 1) := by decide +kernel
theorem d_Mo_isPlace_64 : decode prog_12_method_23_code 64 = .ok (.iload_n 2, 1) := by decide +kernel
theorem d_Mo_isPlace_70 : decode prog_12_method_23_code 70 = .ok (.aload_n 0, 1) := by decide +kernel
theorem d_Mo_isPlace_71 : decode prog_12_method_23_code 71 = .ok (.iload_n 2, 1) := by decide +kernel
theorem d_Mo_isPlace_112 : decode prog_12_method_23_code 112 = .ok (.ireturn, 1) := by decide +kernel
theorem d_Mo_isPlace_108 : decode prog_12_method_23_code 108 = .ok (.goto 4, 3) := by decide +kernel
theorem d_Mo_isPlace_107 : decode prog_12_method_23_code 107 = .ok (.iconst 1, 1) := by decide +kernel
theorem d_Mo_isPlace_78 : decode prog_12_method_23_code 78 = .ok (.aload_n 0, 1) := by decide +kernel
theorem d_Mo_isPlace_82 : decode prog_12_method_23_code 82 = .ok (.iload_n 2, 1) := by decide +kernel
theorem d_Mo_isPlace_87 : decode prog_12_method_23_code 87 = .ok (.aload_n 0, 1) := by decide +kernel
theorem d_Mo_isPlace_91 : decode prog_12_method_23_code 91 = .ok (.iload_n 2, 1) := by decide +kernel
theorem d_Mo_isPlace_97 : decode prog_12_method_23_code 97 = .ok (.aload_n 0, 1) := by decide +kernel
theorem d_Mo_isPlace_101 : decode prog_12_method_23_code 101 = .ok (.iload_n 2, 1) := by decide +kernel
theorem d_Mo_isPlace_111 : decode prog_12_method_23_code 111 = .ok (.iconst 0, 1) := by decide +kernel
theorem d_Mo_isPlace_104 : decode prog_12_method_23_code 104 = .ok (.if_icmp .ne 7, 3) := by decide +kernel
theorem d_Mo_isPlace_103 : decode prog_12_method_23_code 103 = .ok (.iconst 2, 1) := by decide +kernel
theorem d_Mo_isPlace_102 : decode prog_12_method_23_code 102 = .ok (.iaload, 1) := by decide +kernel
theorem d_Mo_isPlace_98 : decode prog_12_method_23_code 98 = .ok (.getfield 7, 3) := by decide +kernel
theorem d_Mo_isPlace_94 : decode prog_12_method_23_code 94 = .ok (.if_icmp .eq 13, 3) := by decide +kernel
theorem d_Mo_isPlace_93 : decode prog_12_method_23_code 93 = .ok (.iconst 5, 1) := by decide +kernel
theorem d_Mo_isPlace_92 : decode prog_12_method_23_code 92 = .ok (.iaload, 1) := by decide +kernel
theorem d_Mo_isPlace_88 : decode prog_12_method_23_code 88 = .ok (.getfield 7, 3) := by decide +kernel
theorem d_Mo_isPlace_84 : decode prog_12_method_23_code 84 = .ok (.ifCond .eq 23, 3) := by decide +kernel
theorem d_Mo_isPlace_83 : decode prog_12_method_23_code 83 = .ok (.iaload, 1) := by decide +kernel
theorem d_Mo_isPlace_79 : decode prog_12_method_23_code 79 = .ok (.getfield 7, 3) := by decide +kernel
theorem d_Mo_isPlace_75 : decode prog_12_method_23_code 75 = .ok (.ifCond .ge 32, 3) := by decide +kernel
theorem d_Mo_isPlace_72 : decode prog_12_method_23_code 72 = .ok (.invokevirtual 125, 3) := by decide +kernel
theorem d_Mo_isPlace_69 : decode prog_12_method_23_code 69 = .ok (.ireturn, 1) := by decide +kernel
theorem d_Mo_isPlace_68 : decode prog_12_method_23_code 68 = .ok (.iconst 0, 1) := by decide +kernel
theorem d_Mo_isPlace_65 : decode prog_12_method_23_code 65 = .ok (.ifCond .ge 5, 3) := by decide +kernel
theorem d_Mo_isPlace_62 : decode prog_12_method_23_code 62 = .ok (.isub, 1) := by decide +kernel
theorem d_Mo_isPlace_61 : decode prog_12_method_23_code 61 = .ok (.iconst 1, 1) := by decide +kernel
theorem d_Mo_isPlace_27 : decode prog_12_method_23_code 27 = .ok (.tableswitch 128 1 5 #[33, 128, 86, 112, 114], 33) := by decide +kernel
theorem d_Mo_isPlace_156 : decode prog_12_method_23_code 156 = .ok (.ireturn, 1) := by decide +kernel
theorem d_Mo_isPlace_155 : decode prog_12_method_23_code 155 = .ok (.iconst 0, 1) := by decide +kernel
theorem d_Mo_isPlace_113 : decode prog_12_method_23_code 113 = .ok (.iload_n 1, 1) := by decide +kernel
theorem d_Mo_isPlace_114 : decode prog_12_method_23_code 114 = .ok (.aload_n 0, 1) := by decide +kernel
theorem d_Mo_isPlace_138 : decode prog_12_method_23_code 138 = .ok (.ireturn, 1) := by decide +kernel
theorem d_Mo_isPlace_137 : decode prog_12_method_23_code 137 = .ok (.iconst 0, 1) := by decide +kernel
theorem d_Mo_isPlace_121 : decode prog_12_method_23_code 121 = .ok (.aload_n 0, 1) := by decide +kernel
theorem d_Mo_isPlace_125 : decode prog_12_method_23_code 125 = .ok (.iload_n 1, 1) := by decide +kernel
theorem d_Mo_isPlace_134 : decode prog_12_method_23_code 134 = .ok (.goto 4, 3) := by decide +kernel
theorem d_Mo_isPlace_133 : decode prog_12_method_23_code 133 = .ok (.iconst 1, 1) := by decide +kernel
theorem d_Mo_isPlace_130 : decode prog_12_method_23_code 130 = .ok (.if_icmp .ne 7, 3) := by decide +kernel
theorem d_Mo_isPlace_129 : decode prog_12_method_23_code 129 = .ok (.iconst 1, 1) := by decide +kernel
theorem d_Mo_isPlace_128 : decode prog_12_method_23_code 128 = .ok (.iaload, 1) := by decide +kernel
theorem d_Mo_isPlace_127 : decode prog_12_method_23_code 127 = .ok (.iadd, 1) := by decide +kernel
theorem d_Mo_isPlace_126 : decode prog_12_method_23_code 126 = .ok (.iconst 1, 1) := by decide +kernel
theorem d_Mo_isPlace_122 : decode prog_12_method_23_code 122 = .ok (.getfield 7, 3) := by decide +kernel
theorem d_Mo_isPlace_118 : decode prog_12_method_23_code 118 = .ok (.if_icmp .ge 19, 3) := by decide +kernel
theorem d_Mo_isPlace_115 : decode prog_12_method_23_code 115 = .ok (.getfield 144, 3) := by decide +kernel
theorem d_Mo_isPlace_140 : decode prog_12_method_23_code 140 = .ok (.ireturn, 1) := by decide +kernel
theorem d_Mo_isPlace_139 : decode prog_12_method_23_code 139 = .ok (.iconst 1, 1) := by decide +kernel
theorem d_Mo_isPlace_141 : decode prog_12_method_23_code 141 = .ok (.aload_n 0, 1) := by decide +kernel
theorem d_Mo_isPlace_154 : decode prog_12_method_23_code 154 = .ok (.ireturn, 1) := by decide +kernel
theorem d_Mo_isPlace_153 : decode prog_12_method_23_code 153 = .ok (.iconst 0, 1) := by decide +kernel
theorem d_Mo_isPlace_150 : decode prog_12_method_23_code 150 = .ok (.goto 4, 3) := by decide +kernel
theorem d_Mo_isPlace_149 : decode prog_12_method_23_code 149 = .ok (.iconst 1, 1) := by decide +kernel
theorem d_Mo_isPlace_146 : decode prog_12_method_23_code 146 = .ok (.if_icmp .le 7, 3) := by decide +kernel
theorem d_Mo_isPlace_145 : decode prog_12_method_23_code 145 = .ok (.iconst 1, 1) := by decide +kernel
theorem d_Mo_isPlace_142 : decode prog_12_method_23_code 142 = .ok (.getfield 147, 3) := by decide +kernel
theorem d_Mo_isPlace_26 : decode prog_12_method_23_code 26 = .ok (.iaload, 1) := by decide +kernel
theorem d_Mo_isPlace_22 : decode prog_12_method_23_code 22 = .ok (.getfield 7, 3) := by decide +kernel
theorem d_Mo_isPlace_16 : decode prog_12_method_23_code 16 = .ok (.if_icmp .ne 5, 3) := by decide +kernel
theorem d_Mo_isPlace_13 : decode prog_12_method_23_code 13 = .ok (.sipush 10000, 3) := by decide +kernel
theorem d_Mo_isPlace_10 : decode prog_12_method_23_code 10 = .ok (.invokevirtual 141, 3) := by decide +kernel
theorem d_Mo_isPlace_5 : decode prog_12_method_23_code 5 = .ok (.ifCond .ge 14, 3) := by decide +kernel
theorem d_Mo_isPlace_2 : decode prog_12_method_23_code 2 = .ok (.invokevirtual 125, 3) := by decide +kernel
theorem d_Mo_isDropped_0 : decode prog_12_method_24_code 0 = .ok (.aload_n 0, 1) := by decide +kernel
theorem d_Mo_isDropped_4 : decode prog_12_method_24_code 4 = .ok (.iload_n 1, 1) := by decide +kernel
theorem d_Mo_isDropped_35 : decode prog_12_method_24_code 35 = .ok (.ireturn, 1) := by decide +kernel
theorem d_Mo_isDropped_31 : decode prog_12_method_24_code 31 = .ok (.goto 4, 3) := by decide +kernel
theorem d_Mo_isDropped_30 : decode prog_12_method_24_code 30 = .ok (.iconst 1, 1) := by decide +kernel
theorem d_Mo_isDropped_10 : decode prog_12_method_24_code 10 = .ok (.aload_n 0, 1) := by decide +kernel
theorem d_Mo_isDropped_14 : decode prog_12_method_24_code 14 = .ok (.iload_n 1, 1) := by decide +kernel
theorem d_Mo_isDropped_20 : decode prog_12_method_24_code 20 = .ok (.aload_n 0, 1) := by decide +kernel
theorem d_Mo_isDropped_24 : decode prog_12_method_24_code 24 = .ok (.iload_n 1, 1) := by decide +kernel
theorem d_Mo_isDropped_34 : decode prog_12_method_24_code 34 = .ok (.iconst 0, 1) := by decide +kernel
theorem d_Mo_isDropped_27 : decode prog_12_method_24_code 27 = .ok (.if_icmp .ne 7, 3) := by decide +kernel
theorem d_Mo_isDropped_26 : decode prog_12_method_24_code 26 = .ok (.iconst 4, 1) := by decide +kernel
theorem d_Mo_isDropped_25 : decode prog_12_method_24_code 25 = .ok (.iaload, 1) := by decide +kernel
theorem d_Mo_isDropped_21 : decode prog_12_method_24_code 21 = .ok (.getfield 7, 3) := by decide +kernel
theorem d_Mo_isDropped_17 : decode prog_12_method_24_code 17 = .ok (.if_icmp .eq 13, 3) := by decide +kernel
theorem d_Mo_isDropped_16 : decode prog_12_method_24_code 16 = .ok (.iconst 3, 1) := by decide +kernel
theorem d_Mo_isDropped_15 : decode prog_12_method_24_code 15 = .ok (.iaload, 1) := by decide +kernel
theorem d_Mo_isDropped_11 : decode prog_12_method_24_code 11 = .ok (.getfield 7, 3) := by decide +kernel
theorem d_Mo_isDropped_7 : decode prog_12_method_24_code 7 = .ok (.if_icmp .eq 23, 3) := by decide +kernel
theorem d_Mo_isDropped_6 : decode prog_12_method_24_code 6 = .ok (.iconst 1, 1) := by decide +kernel
theorem d_Mo_isDropped_5 : decode prog_12_method_24_code 5 = .ok (.iaload, 1) := by decide +kernel
theorem d_Mo_isDropped_1 : decode prog_12_method_24_code 1 = .ok (.getfield 7, 3) := by decide +kernel
theorem d_Mo_firstOf_54 : decode prog_12_method_25_code 54 = .ok (.iload_n 3, 1) := by decide +kernel
theorem d_Mo_firstOf_80 : decode prog_12_method_25_code 80 = .ok (.iload_n 2, 1) := by decide +kernel
theorem d_Mo_firstOf_81 : decode prog_12_method_25_code 81 = .ok (.ireturn, 1) := by decide +kernel
theorem d_Mo_firstOf_58 : decode prog_12_method_25_code 58 = .ok (.iload_n 2, 1) := by decide +kernel
theorem d_Mo_firstOf_59 : decode prog_12_method_25_code 59 = .ok (.aload_n 0, 1) := by decide +kernel
theorem d_Mo_firstOf_66 : decode prog_12_method_25_code 66 = .ok (.aload_n 0, 1) := by decide +kernel
theorem d_Mo_firstOf_67 : decode prog_12_method_25_code 67 = .ok (.iload_n 2, 1) := by decide +kernel
theorem d_Mo_firstOf_77 : decode prog_12_method_25_code 77 = .ok (.goto (-23), 3) := by decide +kernel
theorem d_Mo_firstOf_74 : decode prog_12_method_25_code 74 = .ok (.iinc 2 1, 3) := by decide +kernel
theorem d_Mo_firstOf_71 : decode prog_12_method_25_code 71 = .ok (.ifCond .eq 9, 3) := by decide +kernel
theorem d_Mo_firstOf_68 : decode prog_12_method_25_code 68 = .ok (.invokevirtual 153, 3) := by decide +kernel
theorem d_Mo_firstOf_63 : decode prog_12_method_25_code 63 = .ok (.if_icmp .gt 17, 3) := by decide +kernel
theorem d_Mo_firstOf_60 : decode prog_12_method_25_code 60 = .ok (.getfield 144, 3) := by decide +kernel
theorem d_Mo_firstOf_55 : decode prog_12_method_25_code 55 = .ok (.ifCond .eq 25, 3) := by decide +kernel
theorem d_Mo_firstOf_28 : decode prog_12_method_25_code 28 = .ok (.istore_n 2, 1) := by decide +kernel
theorem d_Mo_firstOf_29 : decode prog_12_method_25_code 29 = .ok (.aload_n 0, 1) := by decide +kernel
theorem d_Mo_firstOf_30 : decode prog_12_method_25_code 30 = .ok (.iload_n 1, 1) := by decide +kernel
theorem d_Mo_firstOf_53 : decode prog_12_method_25_code 53 = .ok (.istore_n 3, 1) := by decide +kernel
theorem d_Mo_firstOf_49 : decode prog_12_method_25_code 49 = .ok (.goto 4, 3) := by decide +kernel
theorem d_Mo_firstOf_48 : decode prog_12_method_25_code 48 = .ok (.iconst 1, 1) := by decide +kernel
theorem d_Mo_firstOf_37 : decode prog_12_method_25_code 37 = .ok (.aload_n 0, 1) := by decide +kernel
theorem d_Mo_firstOf_41 : decode prog_12_method_25_code 41 = .ok (.iload_n 1, 1) := by decide +kernel
theorem d_Mo_firstOf_52 : decode prog_12_method_25_code 52 = .ok (.iconst 0, 1) := by decide +kernel
theorem d_Mo_firstOf_45 : decode prog_12_method_25_code 45 = .ok (.if_icmp .ne 7, 3) := by decide +kernel
theorem d_Mo_firstOf_43 : decode prog_12_method_25_code 43 = .ok (.ldc 129, 2) := by decide +kernel
theorem d_Mo_firstOf_42 : decode prog_12_method_25_code 42 = .ok (.iaload, 1) := by decide +kernel
theorem d_Mo_firstOf_38 : decode prog_12_method_25_code 38 = .ok (.getfield 28, 3) := by decide +kernel
theorem d_Mo_firstOf_34 : decode prog_12_method_25_code 34 = .ok (.ifCond .eq 14, 3) := by decide +kernel
theorem d_Mo_firstOf_31 : decode prog_12_method_25_code 31 = .ok (.invokevirtual 150, 3) := by decide +kernel
theorem d_Mo_firstOf_0 : decode prog_12_method_25_code 0 = .ok (.iload_n 1, 1) := by decide +kernel
theorem d_Mo_firstOf_6 : decode prog_12_method_25_code 6 = .ok (.aload_n 0, 1) := by decide +kernel
theorem d_Mo_firstOf_7 : decode prog_12_method_25_code 7 = .ok (.iload_n 1, 1) := by decide +kernel
theorem d_Mo_firstOf_27 : decode prog_12_method_25_code 27 = .ok (.iload_n 1, 1) := by decide +kernel
theorem d_Mo_firstOf_14 : decode prog_12_method_25_code 14 = .ok (.iload_n 1, 1) := by decide +kernel
theorem d_Mo_firstOf_17 : decode prog_12_method_25_code 17 = .ok (.aload_n 0, 1) := by decide +kernel
theorem d_Mo_firstOf_21 : decode prog_12_method_25_code 21 = .ok (.iload_n 1, 1) := by decide +kernel
theorem d_Mo_firstOf_24 : decode prog_12_method_25_code 24 = .ok (.goto 4, 3) := by decide +kernel
theorem d_Mo_firstOf_23 : decode prog_12_method_25_code 23 = .ok (.iadd, 1) := by decide +kernel
theorem d_Mo_firstOf_22 : decode prog_12_method_25_code 22 = .ok (.iaload, 1) := by decide +kernel
theorem d_Mo_firstOf_18 : decode prog_12_method_25_code 18 = .ok (.getfield 31, 3) := by decide +kernel
theorem d_Mo_firstOf_16 : decode prog_12_method_25_code 16 = .ok (.iadd, 1) := by decide +kernel
theorem d_Mo_firstOf_15 : decode prog_12_method_25_code 15 = .ok (.iconst 1, 1) := by decide +kernel
theorem d_Mo_firstOf_11 : decode prog_12_method_25_code 11 = .ok (.ifCond .eq 16, 3) := by decide +kernel
theorem d_Mo_firstOf_8 : decode prog_12_method_25_code 8 = .ok (.invokevirtual 150, 3) := by decide +kernel
theorem d_Mo_firstOf_5 : decode prog_12_method_25_code 5 = .ok (.ireturn, 1) := by decide +kernel
theorem d_Mo_firstOf_4 : decode prog_12_method_25_code 4 = .ok (.iconst 0, 1) := by decide +kernel
theorem d_Mo_firstOf_1 : decode prog_12_method_25_code 1 = .ok (.ifCond .ge 5, 3) := by decide +kernel
theorem d_Mo_addGlue_0 : decode prog_12_method_26_code 0 = .ok (.aload_n 0, 1) := by decide +kernel
theorem d_Mo_addGlue_1 : decode prog_12_method_26_code 1 = .ok (.aload_n 0, 1) := by decide +kernel
theorem d_Mo_addGlue_5 : decode prog_12_method_26_code 5 = .ok (.iload_n 1, 1) := by decide +kernel
theorem d_Mo_addGlue_10 : decode prog_12_method_26_code 10 = .ok (.aload_n 0, 1) := by decide +kernel
theorem d_Mo_addGlue_14 : decode prog_12_method_26_code 14 = .ok (.iload_n 3, 1) := by decide +kernel
theorem d_Mo_addGlue_15 : decode prog_12_method_26_code 15 = .ok (.aload_n 0, 1) := by decide +kernel
theorem d_Mo_addGlue_19 : decode prog_12_method_26_code 19 = .ok (.iload_n 3, 1) := by decide +kernel
theorem d_Mo_addGlue_21 : decode prog_12_method_26_code 21 = .ok (.iload_n 2, 1) := by decide +kernel
theorem d_Mo_addGlue_24 : decode prog_12_method_26_code 24 = .ok (.aload_n 0, 1) := by decide +kernel
theorem d_Mo_addGlue_25 : decode prog_12_method_26_code 25 = .ok (.aload_n 0, 1) := by decide +kernel
theorem d_Mo_addGlue_29 : decode prog_12_method_26_code 29 = .ok (.iload 4, 2) := by decide +kernel
theorem d_Mo_addGlue_35 : decode prog_12_method_26_code 35 = .ok (.return_, 1) := by decide +kernel
theorem d_Mo_addGlue_32 : decode prog_12_method_26_code 32 = .ok (.putfield 159, 3) := by decide +kernel
theorem d_Mo_addGlue_31 : decode prog_12_method_26_code 31 = .ok (.iadd, 1) := by decide +kernel
theorem d_Mo_addGlue_26 : decode prog_12_method_26_code 26 = .ok (.getfield 159, 3) := by decide +kernel
theorem d_Mo_addGlue_23 : decode prog_12_method_26_code 23 = .ok (.iastore, 1) := by decide +kernel
theorem d_Mo_addGlue_22 : decode prog_12_method_26_code 22 = .ok (.iadd, 1) := by decide +kernel
theorem d_Mo_addGlue_20 : decode prog_12_method_26_code 20 = .ok (.iaload, 1) := by decide +kernel
theorem d_Mo_addGlue_16 : decode prog_12_method_26_code 16 = .ok (.getfield 72, 3) := by decide +kernel
theorem d_Mo_addGlue_11 : decode prog_12_method_26_code 11 = .ok (.getfield 72, 3) := by decide +kernel
theorem d_Mo_addGlue_7 : decode prog_12_method_26_code 7 = .ok (.putfield 156, 3) := by decide +kernel
theorem d_Mo_addGlue_6 : decode prog_12_method_26_code 6 = .ok (.iadd, 1) := by decide +kernel
theorem d_Mo_addGlue_2 : decode prog_12_method_26_code 2 = .ok (.getfield 156, 3) := by decide +kernel
theorem d_Mo_measure_136 : decode prog_12_method_27_code 136 = .ok (.iload_n 3, 1) := by decide +kernel
theorem d_Mo_measure_137 : decode prog_12_method_27_code 137 = .ok (.iload_n 2, 1) := by decide +kernel
theorem d_Mo_measure_223 : decode prog_12_method_27_code 223 = .ok (.aload_n 0, 1) := by decide +kernel
theorem d_Mo_measure_224 : decode prog_12_method_27_code 224 = .ok (.aload_n 0, 1) := by decide +kernel
theorem d_Mo_measure_225 : decode prog_12_method_27_code 225 = .ok (.iload_n 2, 1) := by decide +kernel
theorem d_Mo_measure_257 : decode prog_12_method_27_code 257 = .ok (.aload_n 0, 1) := by decide +kernel
theorem d_Mo_measure_264 : decode prog_12_method_27_code 264 = .ok (.return_, 1) := by decide +kernel
theorem d_Mo_measure_261 : decode prog_12_method_27_code 261 = .ok (.putfield 156, 3) := by decide +kernel
theorem d_Mo_measure_258 : decode prog_12_method_27_code 258 = .ok (.getfield 156, 3) := by decide +kernel
theorem d_Mo_measure_232 : decode prog_12_method_27_code 232 = .ok (.aload_n 0, 1) := by decide +kernel
theorem d_Mo_measure_236 : decode prog_12_method_27_code 236 = .ok (.iload_n 2, 1) := by decide +kernel
theorem d_Mo_measure_243 : decode prog_12_method_27_code 243 = .ok (.aload_n 0, 1) := by decide +kernel
theorem d_Mo_measure_247 : decode prog_12_method_27_code 247 = .ok (.aload_n 0, 1) := by decide +kernel
theorem d_Mo_measure_251 : decode prog_12_method_27_code 251 = .ok (.iload_n 2, 1) := by decide +kernel
theorem d_Mo_measure_254 : decode prog_12_method_27_code 254 = .ok (.goto 7, 3) := by decide +kernel
theorem d_Mo_measure_253 : decode prog_12_method_27_code 253 = .ok (.iadd, 1) := by decide +kernel
theorem d_Mo_measure_252 : decode prog_12_method_27_code 252 = .ok (.iaload, 1) := by decide +kernel
theorem d_Mo_measure_248 : decode prog_12_method_27_code 248 = .ok (.getfield 25, 3) := by decide +kernel
theorem d_Mo_measure_244 : decode prog_12_method_27_code 244 = .ok (.getfield 156, 3) := by decide +kernel
theorem d_Mo_measure_240 : decode prog_12_method_27_code 240 = .ok (.if_icmp .eq 17, 3) := by decide +kernel
theorem d_Mo_measure_238 : decode prog_12_method_27_code 238 = .ok (.ldc 129, 2) := by decide +kernel
theorem d_Mo_measure_237 : decode prog_12_method_27_code 237 = .ok (.iaload, 1) := by decide +kernel
theorem d_Mo_measure_233 : decode prog_12_method_27_code 233 = .ok (.getfield 25, 3) := by decide +kernel
theorem d_Mo_measure_229 : decode prog_12_method_27_code 229 = .ok (.ifCond .eq 28, 3) := by decide +kernel
theorem d_Mo_measure_226 : decode prog_12_method_27_code 226 = .ok (.invokevirtual 150, 3) := by decide +kernel
theorem d_Mo_measure_141 : decode prog_12_method_27_code 141 = .ok (.aload_n 0, 1) := by decide +kernel
theorem d_Mo_measure_145 : decode prog_12_method_27_code 145 = .ok (.iload_n 3, 1) := by decide +kernel
theorem d_Mo_measure_182 : decode prog_12_method_27_code 182 = .ok (.aload_n 0, 1) := by decide +kernel
theorem d_Mo_measure_186 : decode prog_12_method_27_code 186 = .ok (.iload_n 3, 1) := by decide +kernel
theorem d_Mo_measure_220 : decode prog_12_method_27_code 220 = .ok (.goto (-84), 3) := by decide +kernel
theorem d_Mo_measure_217 : decode prog_12_method_27_code 217 = .ok (.iinc 3 1, 3) := by decide +kernel
theorem d_Mo_measure_192 : decode prog_12_method_27_code 192 = .ok (.aload_n 0, 1) := by decide +kernel
theorem d_Mo_measure_196 : decode prog_12_method_27_code 196 = .ok (.iload_n 3, 1) := by decide +kernel
theorem d_Mo_measure_202 : decode prog_12_method_27_code 202 = .ok (.aload_n 0, 1) := by decide +kernel
theorem d_Mo_measure_203 : decode prog_12_method_27_code 203 = .ok (.aload_n 0, 1) := by decide +kernel
theorem d_Mo_measure_207 : decode prog_12_method_27_code 207 = .ok (.aload_n 0, 1) := by decide +kernel
theorem d_Mo_measure_211 : decode prog_12_method_27_code 211 = .ok (.iload_n 3, 1) := by decide +kernel
theorem d_Mo_measure_214 : decode prog_12_method_27_code 214 = .ok (.putfield 156, 3) := by decide +kernel
theorem d_Mo_measure_213 : decode prog_12_method_27_code 213 = .ok (.iadd, 1) := by decide +kernel
theorem d_Mo_measure_212 : decode prog_12_method_27_code 212 = .ok (.iaload, 1) := by decide +kernel
theorem d_Mo_measure_208 : decode prog_12_method_27_code 208 = .ok (.getfield 13, 3) := by decide +kernel
theorem d_Mo_measure_204 : decode prog_12_method_27_code 204 = .ok (.getfield 156, 3) := by decide +kernel
theorem d_Mo_measure_199 : decode prog_12_method_27_code 199 = .ok (.if_icmp .eq 18, 3) := by decide +kernel
theorem d_Mo_measure_198 : decode prog_12_method_27_code 198 = .ok (.iconst 5, 1) := by decide +kernel
theorem d_Mo_measure_197 : decode prog_12_method_27_code 197 = .ok (.iaload, 1) := by decide +kernel
theorem d_Mo_measure_193 : decode prog_12_method_27_code 193 = .ok (.getfield 7, 3) := by decide +kernel
theorem d_Mo_measure_189 : decode prog_12_method_27_code 189 = .ok (.if_icmp .eq 28, 3) := by decide +kernel
theorem d_Mo_measure_188 : decode prog_12_method_27_code 188 = .ok (.iconst 4, 1) := by decide +kernel
theorem d_Mo_measure_187 : decode prog_12_method_27_code 187 = .ok (.iaload, 1) := by decide +kernel
theorem d_Mo_measure_183 : decode prog_12_method_27_code 183 = .ok (.getfield 7, 3) := by decide +kernel
theorem d_Mo_measure_151 : decode prog_12_method_27_code 151 = .ok (.aload_n 0, 1) := by decide +kernel
theorem d_Mo_measure_152 : decode prog_12_method_27_code 152 = .ok (.aload_n 0, 1) := by decide +kernel
theorem d_Mo_measure_156 : decode prog_12_method_27_code 156 = .ok (.iload_n 3, 1) := by decide +kernel
theorem d_Mo_measure_158 : decode prog_12_method_27_code 158 = .ok (.aload_n 0, 1) := by decide +kernel
theorem d_Mo_measure_162 : decode prog_12_method_27_code 162 = .ok (.iload_n 3, 1) := by decide +kernel
theorem d_Mo_measure_164 : decode prog_12_method_27_code 164 = .ok (.aload_n 0, 1) := by decide +kernel
theorem d_Mo_measure_168 : decode prog_12_method_27_code 168 = .ok (.iload_n 3, 1) := by decide +kernel
theorem d_Mo_measure_170 : decode prog_12_method_27_code 170 = .ok (.aload_n 0, 1) := by decide +kernel
theorem d_Mo_measure_174 : decode prog_12_method_27_code 174 = .ok (.iload_n 3, 1) := by decide +kernel
theorem d_Mo_measure_179 : decode prog_12_method_27_code 179 = .ok (.goto 38, 3) := by decide +kernel
theorem d_Mo_measure_176 : decode prog_12_method_27_code 176 = .ok (.invokevirtual 165, 3) := by decide +kernel
theorem d_Mo_measure_175 : decode prog_12_method_27_code 175 = .ok (.iaload, 1) := by decide +kernel
theorem d_Mo_measure_171 : decode prog_12_method_27_code 171 = .ok (.getfield 22, 3) := by decide +kernel
theorem d_Mo_measure_169 : decode prog_12_method_27_code 169 = .ok (.iaload, 1) := by decide +kernel
theorem d_Mo_measure_165 : decode prog_12_method_27_code 165 = .ok (.getfield 19, 3) := by decide +kernel
theorem d_Mo_measure_163 : decode prog_12_method_27_code 163 = .ok (.iaload, 1) := by decide +kernel
theorem d_Mo_measure_159 : decode prog_12_method_27_code 159 = .ok (.getfield 16, 3) := by decide +kernel
theorem d_Mo_measure_157 : decode prog_12_method_27_code 157 = .ok (.iaload, 1) := by decide +kernel
theorem d_Mo_measure_153 : decode prog_12_method_27_code 153 = .ok (.getfield 13, 3) := by decide +kernel
theorem d_Mo_measure_148 : decode prog_12_method_27_code 148 = .ok (.if_icmp .ne 34, 3) := by decide +kernel
theorem d_Mo_measure_147 : decode prog_12_method_27_code 147 = .ok (.iconst 1, 1) := by decide +kernel
theorem d_Mo_measure_146 : decode prog_12_method_27_code 146 = .ok (.iaload, 1) := by decide +kernel
theorem d_Mo_measure_142 : decode prog_12_method_27_code 142 = .ok (.getfield 7, 3) := by decide +kernel
theorem d_Mo_measure_138 : decode prog_12_method_27_code 138 = .ok (.if_icmp .ge 85, 3) := by decide +kernel
theorem d_Mo_measure_122 : decode prog_12_method_27_code 122 = .ok (.aload_n 0, 1) := by decide +kernel
theorem d_Mo_measure_123 : decode prog_12_method_27_code 123 = .ok (.aload_n 0, 1) := by decide +kernel
theorem d_Mo_measure_124 : decode prog_12_method_27_code 124 = .ok (.iload_n 1, 1) := by decide +kernel
theorem d_Mo_measure_131 : decode prog_12_method_27_code 131 = .ok (.aload_n 0, 1) := by decide +kernel
theorem d_Mo_measure_135 : decode prog_12_method_27_code 135 = .ok (.istore_n 3, 1) := by decide +kernel
theorem d_Mo_measure_132 : decode prog_12_method_27_code 132 = .ok (.getfield 172, 3) := by decide +kernel
theorem d_Mo_measure_128 : decode prog_12_method_27_code 128 = .ok (.putfield 172, 3) := by decide +kernel
theorem d_Mo_measure_125 : decode prog_12_method_27_code 125 = .ok (.invokevirtual 169, 3) := by decide +kernel
theorem d_Mo_measure_119 : decode prog_12_method_27_code 119 = .ok (.putfield 156, 3) := by decide +kernel
theorem d_Mo_measure_115 : decode prog_12_method_27_code 115 = .ok (.aload_n 0, 1) := by decide +kernel
theorem d_Mo_measure_116 : decode prog_12_method_27_code 116 = .ok (.getfield 156, 3) := by decide +kernel
theorem d_Mo_measure_42 : decode prog_12_method_27_code 42 = .ok (.iload_n 3, 1) := by decide +kernel
theorem d_Mo_measure_81 : decode prog_12_method_27_code 81 = .ok (.aload_n 0, 1) := by decide +kernel
theorem d_Mo_measure_82 : decode prog_12_method_27_code 82 = .ok (.aload_n 0, 1) := by decide +kernel
theorem d_Mo_measure_83 : decode prog_12_method_27_code 83 = .ok (.iload_n 1, 1) := by decide +kernel
theorem d_Mo_measure_90 : decode prog_12_method_27_code 90 = .ok (.aload_n 0, 1) := by decide +kernel
theorem d_Mo_measure_94 : decode prog_12_method_27_code 94 = .ok (.iload_n 1, 1) := by decide +kernel
theorem d_Mo_measure_101 : decode prog_12_method_27_code 101 = .ok (.aload_n 0, 1) := by decide +kernel
theorem d_Mo_measure_105 : decode prog_12_method_27_code 105 = .ok (.aload_n 0, 1) := by decide +kernel
theorem d_Mo_measure_109 : decode prog_12_method_27_code 109 = .ok (.iload_n 1, 1) := by decide +kernel
theorem d_Mo_measure_112 : decode prog_12_method_27_code 112 = .ok (.goto 7, 3) := by decide +kernel
theorem d_Mo_measure_111 : decode prog_12_method_27_code 111 = .ok (.iadd, 1) := by decide +kernel
theorem d_Mo_measure_110 : decode prog_12_method_27_code 110 = .ok (.iaload, 1) := by decide +kernel
theorem d_Mo_measure_106 : decode prog_12_method_27_code 106 = .ok (.getfield 28, 3) := by decide +kernel
theorem d_Mo_measure_102 : decode prog_12_method_27_code 102 = .ok (.getfield 156, 3) := by decide +kernel
theorem d_Mo_measure_98 : decode prog_12_method_27_code 98 = .ok (.if_icmp .eq 17, 3) := by decide +kernel
theorem d_Mo_measure_96 : decode prog_12_method_27_code 96 = .ok (.ldc 129, 2) := by decide +kernel
theorem d_Mo_measure_95 : decode prog_12_method_27_code 95 = .ok (.iaload, 1) := by decide +kernel
theorem d_Mo_measure_91 : decode prog_12_method_27_code 91 = .ok (.getfield 28, 3) := by decide +kernel
theorem d_Mo_measure_87 : decode prog_12_method_27_code 87 = .ok (.ifCond .eq 28, 3) := by decide +kernel
theorem d_Mo_measure_84 : decode prog_12_method_27_code 84 = .ok (.invokevirtual 150, 3) := by decide +kernel
theorem d_Mo_measure_47 : decode prog_12_method_27_code 47 = .ok (.aload_n 0, 1) := by decide +kernel
theorem d_Mo_measure_48 : decode prog_12_method_27_code 48 = .ok (.aload_n 0, 1) := by decide +kernel
theorem d_Mo_measure_52 : decode prog_12_method_27_code 52 = .ok (.iload_n 3, 1) := by decide +kernel
theorem d_Mo_measure_54 : decode prog_12_method_27_code 54 = .ok (.aload_n 0, 1) := by decide +kernel
theorem d_Mo_measure_58 : decode prog_12_method_27_code 58 = .ok (.iload_n 3, 1) := by decide +kernel
theorem d_Mo_measure_60 : decode prog_12_method_27_code 60 = .ok (.aload_n 0, 1) := by decide +kernel
theorem d_Mo_measure_64 : decode prog_12_method_27_code 64 = .ok (.iload_n 3, 1) := by decide +kernel
theorem d_Mo_measure_66 : decode prog_12_method_27_code 66 = .ok (.aload_n 0, 1) := by decide +kernel
theorem d_Mo_measure_70 : decode prog_12_method_27_code 70 = .ok (.iload_n 3, 1) := by decide +kernel
theorem d_Mo_measure_78 : decode prog_12_method_27_code 78 = .ok (.goto (-36), 3) := by decide +kernel
theorem d_Mo_measure_75 : decode prog_12_method_27_code 75 = .ok (.iinc 3 1, 3) := by decide +kernel
theorem d_Mo_measure_72 : decode prog_12_method_27_code 72 = .ok (.invokevirtual 165, 3) := by decide +kernel
theorem d_Mo_measure_71 : decode prog_12_method_27_code 71 = .ok (.iaload, 1) := by decide +kernel
theorem d_Mo_measure_67 : decode prog_12_method_27_code 67 = .ok (.getfield 49, 3) := by decide +kernel
theorem d_Mo_measure_65 : decode prog_12_method_27_code 65 = .ok (.iaload, 1) := by decide +kernel
theorem d_Mo_measure_61 : decode prog_12_method_27_code 61 = .ok (.getfield 46, 3) := by decide +kernel
theorem d_Mo_measure_59 : decode prog_12_method_27_code 59 = .ok (.iaload, 1) := by decide +kernel
theorem d_Mo_measure_55 : decode prog_12_method_27_code 55 = .ok (.getfield 43, 3) := by decide +kernel
theorem d_Mo_measure_53 : decode prog_12_method_27_code 53 = .ok (.iaload, 1) := by decide +kernel
theorem d_Mo_measure_49 : decode prog_12_method_27_code 49 = .ok (.getfield 40, 3) := by decide +kernel
theorem d_Mo_measure_44 : decode prog_12_method_27_code 44 = .ok (.if_icmp .ge 37, 3) := by decide +kernel
theorem d_Mo_measure_43 : decode prog_12_method_27_code 43 = .ok (.iconst 2, 1) := by decide +kernel
theorem d_Mo_measure_12 : decode prog_12_method_27_code 12 = .ok (.iload_n 3, 1) := by decide +kernel
theorem d_Mo_measure_30 : decode prog_12_method_27_code 30 = .ok (.aload_n 0, 1) := by decide +kernel
theorem d_Mo_measure_35 : decode prog_12_method_27_code 35 = .ok (.aload_n 0, 1) := by decide +kernel
theorem d_Mo_measure_41 : decode prog_12_method_27_code 41 = .ok (.istore_n 3, 1) := by decide +kernel
theorem d_Mo_measure_40 : decode prog_12_method_27_code 40 = .ok (.iconst 0, 1) := by decide +kernel
theorem d_Mo_measure_39 : decode prog_12_method_27_code 39 = .ok (.iastore, 1) := by decide +kernel
theorem d_Mo_measure_36 : decode prog_12_method_27_code 36 = .ok (.getfield 162, 3) := by decide +kernel
theorem d_Mo_measure_34 : decode prog_12_method_27_code 34 = .ok (.iconst 0, 1) := by decide +kernel
theorem d_Mo_measure_31 : decode prog_12_method_27_code 31 = .ok (.getfield 72, 3) := by decide +kernel
theorem d_Mo_measure_17 : decode prog_12_method_27_code 17 = .ok (.aload_n 0, 1) := by decide +kernel
theorem d_Mo_measure_21 : decode prog_12_method_27_code 21 = .ok (.iload_n 3, 1) := by decide +kernel
theorem d_Mo_measure_27 : decode prog_12_method_27_code 27 = .ok (.goto (-15), 3) := by decide +kernel
theorem d_Mo_measure_24 : decode prog_12_method_27_code 24 = .ok (.iinc 3 1, 3) := by decide +kernel
theorem d_Mo_measure_23 : decode prog_12_method_27_code 23 = .ok (.iastore, 1) := by decide +kernel
theorem d_Mo_measure_22 : decode prog_12_method_27_code 22 = .ok (.iconst 0, 1) := by decide +kernel
theorem d_Mo_measure_18 : decode prog_12_method_27_code 18 = .ok (.getfield 72, 3) := by decide +kernel
theorem d_Mo_measure_14 : decode prog_12_method_27_code 14 = .ok (.if_icmp .ge 16, 3) := by decide +kernel
theorem d_Mo_measure_13 : decode prog_12_method_27_code 13 = .ok (.iconst 4, 1) := by decide +kernel
theorem d_Mo_measure_0 : decode prog_12_method_27_code 0 = .ok (.aload_n 0, 1) := by decide +kernel
theorem d_Mo_measure_5 : decode prog_12_method_27_code 5 = .ok (.aload_n 0, 1) := by decide +kernel
theorem d_Mo_measure_11 : decode prog_12_method_27_code 11 = .ok (.istore_n 3, 1) := by decide +kernel
theorem d_Mo_measure_10 : decode prog_12_method_27_code 10 = .ok (.iconst 0, 1) := by decide +kernel
theorem d_Mo_measure_7 : decode prog_12_method_27_code 7 = .ok (.putfield 159, 3) := by decide +kernel
theorem d_Mo_measure_6 : decode prog_12_method_27_code 6 = .ok (.iconst 0, 1) := by decide +kernel
theorem d_Mo_measure_2 : decode prog_12_method_27_code 2 = .ok (.putfield 156, 3) := by decide +kernel
theorem d_Mo_measure_1 : decode prog_12_method_27_code 1 = .ok (.iconst 0, 1) := by decide +kernel
theorem d_Mo_bad_55 : decode prog_12_method_28_code 55 = .ok (.lstore 4, 2) := by decide +kernel
theorem d_Mo_bad_57 : decode prog_12_method_28_code 57 = .ok (.lload 4, 2) := by decide +kernel
theorem d_Mo_bad_72 : decode prog_12_method_28_code 72 = .ok (.lload 4, 2) := by decide +kernel
theorem d_Mo_bad_74 : decode prog_12_method_28_code 74 = .ok (.lload 4, 2) := by decide +kernel
theorem d_Mo_bad_77 : decode prog_12_method_28_code 77 = .ok (.lload 4, 2) := by decide +kernel
theorem d_Mo_bad_89 : decode prog_12_method_28_code 89 = .ok (.ireturn, 1) := by decide +kernel
theorem d_Mo_bad_88 : decode prog_12_method_28_code 88 = .ok (.l2i, 1) := by decide +kernel
theorem d_Mo_bad_87 : decode prog_12_method_28_code 87 = .ok (.ldiv, 1) := by decide +kernel
theorem d_Mo_bad_84 : decode prog_12_method_28_code 84 = .ok (.ldc2_w 185, 3) := by decide +kernel
theorem d_Mo_bad_83 : decode prog_12_method_28_code 83 = .ok (.ladd, 1) := by decide +kernel
theorem d_Mo_bad_80 : decode prog_12_method_28_code 80 = .ok (.ldc2_w 183, 3) := by decide +kernel
theorem d_Mo_bad_79 : decode prog_12_method_28_code 79 = .ok (.lmul, 1) := by decide +kernel
theorem d_Mo_bad_76 : decode prog_12_method_28_code 76 = .ok (.lmul, 1) := by decide +kernel
theorem d_Mo_bad_69 : decode prog_12_method_28_code 69 = .ok (.goto 20, 3) := by decide +kernel
theorem d_Mo_bad_66 : decode prog_12_method_28_code 66 = .ok (.sipush 10000, 3) := by decide +kernel
theorem d_Mo_bad_63 : decode prog_12_method_28_code 63 = .ok (.ifCond .le 9, 3) := by decide +kernel
theorem d_Mo_bad_62 : decode prog_12_method_28_code 62 = .ok (.lcmp, 1) := by decide +kernel
theorem d_Mo_bad_59 : decode prog_12_method_28_code 59 = .ok (.ldc2_w 181, 3) := by decide +kernel
theorem d_Mo_bad_0 : decode prog_12_method_28_code 0 = .ok (.lload_n 0, 1) := by decide +kernel
theorem d_Mo_bad_8 : decode prog_12_method_28_code 8 = .ok (.lload_n 2, 1) := by decide +kernel
theorem d_Mo_bad_18 : decode prog_12_method_28_code 18 = .ok (.lload_n 0, 1) := by decide +kernel
theorem d_Mo_bad_36 : decode prog_12_method_28_code 36 = .ok (.lload_n 2, 1) := by decide +kernel
theorem d_Mo_bad_54 : decode prog_12_method_28_code 54 = .ok (.lload_n 0, 1) := by decide +kernel
theorem d_Mo_bad_44 : decode prog_12_method_28_code 44 = .ok (.lload_n 0, 1) := by decide +kernel
theorem d_Mo_bad_45 : decode prog_12_method_28_code 45 = .ok (.lload_n 2, 1) := by decide +kernel
theorem d_Mo_bad_51 : decode prog_12_method_28_code 51 = .ok (.goto 4, 3) := by decide +kernel
theorem d_Mo_bad_50 : decode prog_12_method_28_code 50 = .ok (.ldiv, 1) := by decide +kernel
theorem d_Mo_bad_49 : decode prog_12_method_28_code 49 = .ok (.ldiv, 1) := by decide +kernel
theorem d_Mo_bad_46 : decode prog_12_method_28_code 46 = .ok (.ldc2_w 177, 3) := by decide +kernel
theorem d_Mo_bad_41 : decode prog_12_method_28_code 41 = .ok (.ifCond .lt 13, 3) := by decide +kernel
theorem d_Mo_bad_40 : decode prog_12_method_28_code 40 = .ok (.lcmp, 1) := by decide +kernel
theorem d_Mo_bad_37 : decode prog_12_method_28_code 37 = .ok (.ldc2_w 179, 3) := by decide +kernel
theorem d_Mo_bad_29 : decode prog_12_method_28_code 29 = .ok (.lload_n 0, 1) := by decide +kernel
theorem d_Mo_bad_31 : decode prog_12_method_28_code 31 = .ok (.lload_n 2, 1) := by decide +kernel
theorem d_Mo_bad_33 : decode prog_12_method_28_code 33 = .ok (.goto 22, 3) := by decide +kernel
theorem d_Mo_bad_32 : decode prog_12_method_28_code 32 = .ok (.ldiv, 1) := by decide +kernel
theorem d_Mo_bad_30 : decode prog_12_method_28_code 30 = .ok (.lmul, 1) := by decide +kernel
theorem d_Mo_bad_26 : decode prog_12_method_28_code 26 = .ok (.ldc2_w 177, 3) := by decide +kernel
theorem d_Mo_bad_23 : decode prog_12_method_28_code 23 = .ok (.ifCond .gt 13, 3) := by decide +kernel
theorem d_Mo_bad_22 : decode prog_12_method_28_code 22 = .ok (.lcmp, 1) := by decide +kernel
theorem d_Mo_bad_19 : decode prog_12_method_28_code 19 = .ok (.ldc2_w 175, 3) := by decide +kernel
theorem d_Mo_bad_17 : decode prog_12_method_28_code 17 = .ok (.ireturn, 1) := by decide +kernel
theorem d_Mo_bad_14 : decode prog_12_method_28_code 14 = .ok (.sipush 10000, 3) := by decide +kernel
theorem d_Mo_bad_11 : decode prog_12_method_28_code 11 = .ok (.ifCond .ne 7, 3) := by decide +kernel
theorem d_Mo_bad_10 : decode prog_12_method_28_code 10 = .ok (.lcmp, 1) := by decide +kernel
theorem d_Mo_bad_9 : decode prog_12_method_28_code 9 = .ok (.lconst 0, 1) := by decide +kernel
theorem d_Mo_bad_7 : decode prog_12_method_28_code 7 = .ok (.ireturn, 1) := by decide +kernel
theorem d_Mo_bad_6 : decode prog_12_method_28_code 6 = .ok (.iconst 0, 1) := by decide +kernel
theorem d_Mo_bad_3 : decode prog_12_method_28_code 3 = .ok (.ifCond .ne 5, 3) := by decide +kernel
theorem d_Mo_bad_2 : decode prog_12_method_28_code 2 = .ok (.lcmp, 1) := by decide +kernel
theorem d_Mo_bad_1 : decode prog_12_method_28_code 1 = .ok (.lconst 0, 1) := by decide +kernel
theorem d_Mo_judge_95 : decode prog_12_method_29_code 95 = .ok (.aload_n 0, 1) := by decide +kernel
theorem d_Mo_judge_96 : decode prog_12_method_29_code 96 = .ok (.aload_n 0, 1) := by decide +kernel
theorem d_Mo_judge_109 : decode prog_12_method_29_code 109 = .ok (.aload_n 0, 1) := by decide +kernel
theorem d_Mo_judge_187 : decode prog_12_method_29_code 187 = .ok (.return_, 1) := by decide +kernel
theorem d_Mo_judge_126 : decode prog_12_method_29_code 126 = .ok (.goto 61, 3) := by decide +kernel
theorem d_Mo_judge_123 : decode prog_12_method_29_code 123 = .ok (.putfield 197, 3) := by decide +kernel
theorem d_Mo_judge_122 : decode prog_12_method_29_code 122 = .ok (.iconst 2, 1) := by decide +kernel
theorem d_Mo_judge_119 : decode prog_12_method_29_code 119 = .ok (.goto 4, 3) := by decide +kernel
theorem d_Mo_judge_118 : decode prog_12_method_29_code 118 = .ok (.iconst 1, 1) := by decide +kernel
theorem d_Mo_judge_115 : decode prog_12_method_29_code 115 = .ok (.if_icmp .le 7, 3) := by decide +kernel
theorem d_Mo_judge_113 : decode prog_12_method_29_code 113 = .ok (.bipush 12, 2) := by decide +kernel
theorem d_Mo_judge_110 : decode prog_12_method_29_code 110 = .ok (.getfield 194, 3) := by decide +kernel
theorem d_Mo_judge_106 : decode prog_12_method_29_code 106 = .ok (.goto 17, 3) := by decide +kernel
theorem d_Mo_judge_105 : decode prog_12_method_29_code 105 = .ok (.iconst 0, 1) := by decide +kernel
theorem d_Mo_judge_102 : decode prog_12_method_29_code 102 = .ok (.if_icmp .le 7, 3) := by decide +kernel
theorem d_Mo_judge_100 : decode prog_12_method_29_code 100 = .ok (.bipush 99, 2) := by decide +kernel
theorem d_Mo_judge_97 : decode prog_12_method_29_code 97 = .ok (.getfield 194, 3) := by decide +kernel
theorem d_Mo_judge_92 : decode prog_12_method_29_code 92 = .ok (.putfield 194, 3) := by decide +kernel
theorem d_Mo_judge_69 : decode prog_12_method_29_code 69 = .ok (.istore 4, 2) := by decide +kernel
theorem d_Mo_judge_71 : decode prog_12_method_29_code 71 = .ok (.aload_n 0, 1) := by decide +kernel
theorem d_Mo_judge_72 : decode prog_12_method_29_code 72 = .ok (.iload 4, 2) := by decide +kernel
theorem d_Mo_judge_81 : decode prog_12_method_29_code 81 = .ok (.lload_n 2, 1) := by decide +kernel
theorem d_Mo_judge_82 : decode prog_12_method_29_code 82 = .ok (.aload_n 0, 1) := by decide +kernel
theorem d_Mo_judge_89 : decode prog_12_method_29_code 89 = .ok (.invokestatic 190, 3) := by decide +kernel
theorem d_Mo_judge_88 : decode prog_12_method_29_code 88 = .ok (.i2l, 1) := by decide +kernel
theorem d_Mo_judge_87 : decode prog_12_method_29_code 87 = .ok (.iaload, 1) := by decide +kernel
theorem d_Mo_judge_86 : decode prog_12_method_29_code 86 = .ok (.iconst 0, 1) := by decide +kernel
theorem d_Mo_judge_83 : decode prog_12_method_29_code 83 = .ok (.getfield 72, 3) := by decide +kernel
theorem d_Mo_judge_78 : decode prog_12_method_29_code 78 = .ok (.goto 14, 3) := by decide +kernel
theorem d_Mo_judge_77 : decode prog_12_method_29_code 77 = .ok (.iconst 0, 1) := by decide +kernel
theorem d_Mo_judge_74 : decode prog_12_method_29_code 74 = .ok (.ifCond .eq 7, 3) := by decide +kernel
theorem d_Mo_judge_65 : decode prog_12_method_29_code 65 = .ok (.goto 4, 3) := by decide +kernel
theorem d_Mo_judge_64 : decode prog_12_method_29_code 64 = .ok (.iconst 1, 1) := by decide +kernel
theorem d_Mo_judge_18 : decode prog_12_method_29_code 18 = .ok (.aload_n 0, 1) := by decide +kernel
theorem d_Mo_judge_24 : decode prog_12_method_29_code 24 = .ok (.lstore_n 2, 1) := by decide +kernel
theorem d_Mo_judge_25 : decode prog_12_method_29_code 25 = .ok (.aload_n 0, 1) := by decide +kernel
theorem d_Mo_judge_26 : decode prog_12_method_29_code 26 = .ok (.lload_n 2, 1) := by decide +kernel
theorem d_Mo_judge_31 : decode prog_12_method_29_code 31 = .ok (.lload_n 2, 1) := by decide +kernel
theorem d_Mo_judge_129 : decode prog_12_method_29_code 129 = .ok (.aload_n 0, 1) := by decide +kernel
theorem d_Mo_judge_134 : decode prog_12_method_29_code 134 = .ok (.lload_n 2, 1) := by decide +kernel
theorem d_Mo_judge_155 : decode prog_12_method_29_code 155 = .ok (.aload_n 0, 1) := by decide +kernel
theorem d_Mo_judge_156 : decode prog_12_method_29_code 156 = .ok (.lload_n 2, 1) := by decide +kernel
theorem d_Mo_judge_158 : decode prog_12_method_29_code 158 = .ok (.aload_n 0, 1) := by decide +kernel
theorem d_Mo_judge_169 : decode prog_12_method_29_code 169 = .ok (.aload_n 0, 1) := by decide +kernel
theorem d_Mo_judge_170 : decode prog_12_method_29_code 170 = .ok (.aload_n 0, 1) := by decide +kernel
theorem d_Mo_judge_184 : decode prog_12_method_29_code 184 = .ok (.putfield 197, 3) := by decide +kernel
theorem d_Mo_judge_183 : decode prog_12_method_29_code 183 = .ok (.iconst 2, 1) := by decide +kernel
theorem d_Mo_judge_180 : decode prog_12_method_29_code 180 = .ok (.goto 4, 3) := by decide +kernel
theorem d_Mo_judge_179 : decode prog_12_method_29_code 179 = .ok (.iconst 3, 1) := by decide +kernel
theorem d_Mo_judge_176 : decode prog_12_method_29_code 176 = .ok (.if_icmp .le 7, 3) := by decide +kernel
theorem d_Mo_judge_174 : decode prog_12_method_29_code 174 = .ok (.bipush 12, 2) := by decide +kernel
theorem d_Mo_judge_171 : decode prog_12_method_29_code 171 = .ok (.getfield 194, 3) := by decide +kernel
theorem d_Mo_judge_166 : decode prog_12_method_29_code 166 = .ok (.putfield 194, 3) := by decide +kernel
theorem d_Mo_judge_163 : decode prog_12_method_29_code 163 = .ok (.invokestatic 190, 3) := by decide +kernel
theorem d_Mo_judge_162 : decode prog_12_method_29_code 162 = .ok (.i2l, 1) := by decide +kernel
theorem d_Mo_judge_159 : decode prog_12_method_29_code 159 = .ok (.getfield 159, 3) := by decide +kernel
theorem d_Mo_judge_157 : decode prog_12_method_29_code 157 = .ok (.lneg, 1) := by decide +kernel
theorem d_Mo_judge_140 : decode prog_12_method_29_code 140 = .ok (.aload_n 0, 1) := by decide +kernel
theorem d_Mo_judge_147 : decode prog_12_method_29_code 147 = .ok (.aload_n 0, 1) := by decide +kernel
theorem d_Mo_judge_152 : decode prog_12_method_29_code 152 = .ok (.goto 35, 3) := by decide +kernel
theorem d_Mo_judge_149 : decode prog_12_method_29_code 149 = .ok (.putfield 197, 3) := by decide +kernel
theorem d_Mo_judge_148 : decode prog_12_method_29_code 148 = .ok (.iconst 3, 1) := by decide +kernel
theorem d_Mo_judge_144 : decode prog_12_method_29_code 144 = .ok (.putfield 194, 3) := by decide +kernel
theorem d_Mo_judge_141 : decode prog_12_method_29_code 141 = .ok (.sipush 10001, 3) := by decide +kernel
theorem d_Mo_judge_137 : decode prog_12_method_29_code 137 = .ok (.ifCond .ge 18, 3) := by decide +kernel
theorem d_Mo_judge_136 : decode prog_12_method_29_code 136 = .ok (.lcmp, 1) := by decide +kernel
theorem d_Mo_judge_135 : decode prog_12_method_29_code 135 = .ok (.lneg, 1) := by decide +kernel
theorem d_Mo_judge_133 : decode prog_12_method_29_code 133 = .ok (.i2l, 1) := by decide +kernel
theorem d_Mo_judge_130 : decode prog_12_method_29_code 130 = .ok (.getfield 159, 3) := by decide +kernel
theorem d_Mo_judge_37 : decode prog_12_method_29_code 37 = .ok (.aload_n 0, 1) := by decide +kernel
theorem d_Mo_judge_46 : decode prog_12_method_29_code 46 = .ok (.aload_n 0, 1) := by decide +kernel
theorem d_Mo_judge_55 : decode prog_12_method_29_code 55 = .ok (.aload_n 0, 1) := by decide +kernel
theorem d_Mo_judge_68 : decode prog_12_method_29_code 68 = .ok (.iconst 0, 1) := by decide +kernel
theorem d_Mo_judge_61 : decode prog_12_method_29_code 61 = .ok (.ifCond .le 7, 3) := by decide +kernel
theorem d_Mo_judge_60 : decode prog_12_method_29_code 60 = .ok (.iaload, 1) := by decide +kernel
theorem d_Mo_judge_59 : decode prog_12_method_29_code 59 = .ok (.iconst 3, 1) := by decide +kernel
theorem d_Mo_judge_56 : decode prog_12_method_29_code 56 = .ok (.getfield 72, 3) := by decide +kernel
theorem d_Mo_judge_52 : decode prog_12_method_29_code 52 = .ok (.ifCond .gt 12, 3) := by decide +kernel
theorem d_Mo_judge_51 : decode prog_12_method_29_code 51 = .ok (.iaload, 1) := by decide +kernel
theorem d_Mo_judge_50 : decode prog_12_method_29_code 50 = .ok (.iconst 2, 1) := by decide +kernel
theorem d_Mo_judge_47 : decode prog_12_method_29_code 47 = .ok (.getfield 72, 3) := by decide +kernel
theorem d_Mo_judge_43 : decode prog_12_method_29_code 43 = .ok (.ifCond .gt 21, 3) := by decide +kernel
theorem d_Mo_judge_42 : decode prog_12_method_29_code 42 = .ok (.iaload, 1) := by decide +kernel
theorem d_Mo_judge_41 : decode prog_12_method_29_code 41 = .ok (.iconst 1, 1) := by decide +kernel
theorem d_Mo_judge_38 : decode prog_12_method_29_code 38 = .ok (.getfield 72, 3) := by decide +kernel
theorem d_Mo_judge_34 : decode prog_12_method_29_code 34 = .ok (.ifCond .le 95, 3) := by decide +kernel
theorem d_Mo_judge_33 : decode prog_12_method_29_code 33 = .ok (.lcmp, 1) := by decide +kernel
theorem d_Mo_judge_32 : decode prog_12_method_29_code 32 = .ok (.lconst 0, 1) := by decide +kernel
theorem d_Mo_judge_28 : decode prog_12_method_29_code 28 = .ok (.putfield 187, 3) := by decide +kernel
theorem d_Mo_judge_27 : decode prog_12_method_29_code 27 = .ok (.l2i, 1) := by decide +kernel
theorem d_Mo_judge_23 : decode prog_12_method_29_code 23 = .ok (.lsub, 1) := by decide +kernel
theorem d_Mo_judge_22 : decode prog_12_method_29_code 22 = .ok (.i2l, 1) := by decide +kernel
theorem d_Mo_judge_19 : decode prog_12_method_29_code 19 = .ok (.getfield 156, 3) := by decide +kernel
theorem d_Mo_judge_17 : decode prog_12_method_29_code 17 = .ok (.i2l, 1) := by decide +kernel
theorem d_Mo_judge_16 : decode prog_12_method_29_code 16 = .ok (.iaload, 1) := by decide +kernel
theorem d_Mo_judge_0 : decode prog_12_method_29_code 0 = .ok (.aload_n 0, 1) := by decide +kernel
theorem d_Mo_judge_4 : decode prog_12_method_29_code 4 = .ok (.iload_n 1, 1) := by decide +kernel
theorem d_Mo_judge_14 : decode prog_12_method_29_code 14 = .ok (.bipush 19, 2) := by decide +kernel
theorem d_Mo_judge_10 : decode prog_12_method_29_code 10 = .ok (.iload_n 1, 1) := by decide +kernel
theorem d_Mo_judge_11 : decode prog_12_method_29_code 11 = .ok (.goto 5, 3) := by decide +kernel
theorem d_Mo_judge_7 : decode prog_12_method_29_code 7 = .ok (.if_icmp .ge 7, 3) := by decide +kernel
theorem d_Mo_judge_5 : decode prog_12_method_29_code 5 = .ok (.bipush 20, 2) := by decide +kernel
theorem d_Mo_judge_1 : decode prog_12_method_29_code 1 = .ok (.getfield 37, 3) := by decide +kernel
theorem d_Mo_demerits_193 : decode prog_12_method_30_code 193 = .ok (.istore 10, 2) := by decide +kernel
theorem d_Mo_demerits_195 : decode prog_12_method_30_code 195 = .ok (.iload 10, 2) := by decide +kernel
theorem d_Mo_demerits_215 : decode prog_12_method_30_code 215 = .ok (.lload 5, 2) := by decide +kernel
theorem d_Mo_demerits_217 : decode prog_12_method_30_code 217 = .ok (.lreturn, 1) := by decide +kernel
theorem d_Mo_demerits_201 : decode prog_12_method_30_code 201 = .ok (.lload 5, 2) := by decide +kernel
theorem d_Mo_demerits_203 : decode prog_12_method_30_code 203 = .ok (.aload_n 0, 1) := by decide +kernel
theorem d_Mo_demerits_212 : decode prog_12_method_30_code 212 = .ok (.goto 5, 3) := by decide +kernel
theorem d_Mo_demerits_211 : decode prog_12_method_30_code 211 = .ok (.ladd, 1) := by decide +kernel
theorem d_Mo_demerits_210 : decode prog_12_method_30_code 210 = .ok (.i2l, 1) := by decide +kernel
theorem d_Mo_demerits_209 : decode prog_12_method_30_code 209 = .ok (.iaload, 1) := by decide +kernel
theorem d_Mo_demerits_207 : decode prog_12_method_30_code 207 = .ok (.bipush 7, 2) := by decide +kernel
theorem d_Mo_demerits_204 : decode prog_12_method_30_code 204 = .ok (.getfield 34, 3) := by decide +kernel
theorem d_Mo_demerits_198 : decode prog_12_method_30_code 198 = .ok (.if_icmp .le 17, 3) := by decide +kernel
theorem d_Mo_demerits_197 : decode prog_12_method_30_code 197 = .ok (.iconst 1, 1) := by decide +kernel
theorem d_Mo_demerits_153 : decode prog_12_method_30_code 153 = .ok (.lstore 5, 2) := by decide +kernel
theorem d_Mo_demerits_155 : decode prog_12_method_30_code 155 = .ok (.aload_n 0, 1) := by decide +kernel
theorem d_Mo_demerits_159 : decode prog_12_method_30_code 159 = .ok (.iload_n 1, 1) := by decide +kernel
theorem d_Mo_demerits_161 : decode prog_12_method_30_code 161 = .ok (.aload_n 0, 1) := by decide +kernel
theorem d_Mo_demerits_182 : decode prog_12_method_30_code 182 = .ok (.aload_n 0, 1) := by decide +kernel
theorem d_Mo_demerits_186 : decode prog_12_method_30_code 186 = .ok (.aload_n 0, 1) := by decide +kernel
theorem d_Mo_demerits_190 : decode prog_12_method_30_code 190 = .ok (.iload_n 1, 1) := by decide +kernel
theorem d_Mo_demerits_192 : decode prog_12_method_30_code 192 = .ok (.isub, 1) := by decide +kernel
theorem d_Mo_demerits_191 : decode prog_12_method_30_code 191 = .ok (.iaload, 1) := by decide +kernel
theorem d_Mo_demerits_187 : decode prog_12_method_30_code 187 = .ok (.getfield 58, 3) := by decide +kernel
theorem d_Mo_demerits_183 : decode prog_12_method_30_code 183 = .ok (.getfield 197, 3) := by decide +kernel
theorem d_Mo_demerits_168 : decode prog_12_method_30_code 168 = .ok (.aload_n 0, 1) := by decide +kernel
theorem d_Mo_demerits_172 : decode prog_12_method_30_code 172 = .ok (.iload_n 1, 1) := by decide +kernel
theorem d_Mo_demerits_174 : decode prog_12_method_30_code 174 = .ok (.aload_n 0, 1) := by decide +kernel
theorem d_Mo_demerits_179 : decode prog_12_method_30_code 179 = .ok (.goto 14, 3) := by decide +kernel
theorem d_Mo_demerits_178 : decode prog_12_method_30_code 178 = .ok (.isub, 1) := by decide +kernel
theorem d_Mo_demerits_175 : decode prog_12_method_30_code 175 = .ok (.getfield 197, 3) := by decide +kernel
theorem d_Mo_demerits_173 : decode prog_12_method_30_code 173 = .ok (.iaload, 1) := by decide +kernel
theorem d_Mo_demerits_169 : decode prog_12_method_30_code 169 = .ok (.getfield 58, 3) := by decide +kernel
theorem d_Mo_demerits_165 : decode prog_12_method_30_code 165 = .ok (.if_icmp .le 17, 3) := by decide +kernel
theorem d_Mo_demerits_162 : decode prog_12_method_30_code 162 = .ok (.getfield 197, 3) := by decide +kernel
theorem d_Mo_demerits_160 : decode prog_12_method_30_code 160 = .ok (.iaload, 1) := by decide +kernel
theorem d_Mo_demerits_156 : decode prog_12_method_30_code 156 = .ok (.getfield 58, 3) := by decide +kernel
theorem d_Mo_demerits_151 : decode prog_12_method_30_code 151 = .ok (.lload 5, 2) := by decide +kernel
theorem d_Mo_demerits_122 : decode prog_12_method_30_code 122 = .ok (.lstore 5, 2) := by decide +kernel
theorem d_Mo_demerits_124 : decode prog_12_method_30_code 124 = .ok (.iload 9, 2) := by decide +kernel
theorem d_Mo_demerits_129 : decode prog_12_method_30_code 129 = .ok (.iload_n 2, 1) := by decide +kernel
theorem d_Mo_demerits_130 : decode prog_12_method_30_code 130 = .ok (.aload_n 0, 1) := by decide +kernel
theorem d_Mo_demerits_137 : decode prog_12_method_30_code 137 = .ok (.lload 5, 2) := by decide +kernel
theorem d_Mo_demerits_139 : decode prog_12_method_30_code 139 = .ok (.aload_n 0, 1) := by decide +kernel
theorem d_Mo_demerits_148 : decode prog_12_method_30_code 148 = .ok (.goto 5, 3) := by decide +kernel
theorem d_Mo_demerits_147 : decode prog_12_method_30_code 147 = .ok (.ladd, 1) := by decide +kernel
theorem d_Mo_demerits_146 : decode prog_12_method_30_code 146 = .ok (.i2l, 1) := by decide +kernel
theorem d_Mo_demerits_145 : decode prog_12_method_30_code 145 = .ok (.iaload, 1) := by decide +kernel
theorem d_Mo_demerits_143 : decode prog_12_method_30_code 143 = .ok (.bipush 6, 2) := by decide +kernel
theorem d_Mo_demerits_140 : decode prog_12_method_30_code 140 = .ok (.getfield 34, 3) := by decide +kernel
theorem d_Mo_demerits_134 : decode prog_12_method_30_code 134 = .ok (.if_icmp .ne 17, 3) := by decide +kernel
theorem d_Mo_demerits_131 : decode prog_12_method_30_code 131 = .ok (.getfield 144, 3) := by decide +kernel
theorem d_Mo_demerits_126 : decode prog_12_method_30_code 126 = .ok (.ifCond .eq 25, 3) := by decide +kernel
theorem d_Mo_demerits_120 : decode prog_12_method_30_code 120 = .ok (.lload 5, 2) := by decide +kernel
theorem d_Mo_demerits_80 : decode prog_12_method_30_code 80 = .ok (.lstore 5, 2) := by decide +kernel
theorem d_Mo_demerits_82 : decode prog_12_method_30_code 82 = .ok (.aload_n 0, 1) := by decide +kernel
theorem d_Mo_demerits_83 : decode prog_12_method_30_code 83 = .ok (.aload_n 0, 1) := by decide +kernel
theorem d_Mo_demerits_87 : decode prog_12_method_30_code 87 = .ok (.iload_n 1, 1) := by decide +kernel
theorem d_Mo_demerits_92 : decode prog_12_method_30_code 92 = .ok (.istore 9, 2) := by decide +kernel
theorem d_Mo_demerits_94 : decode prog_12_method_30_code 94 = .ok (.iload 9, 2) := by decide +kernel
theorem d_Mo_demerits_99 : decode prog_12_method_30_code 99 = .ok (.aload_n 0, 1) := by decide +kernel
theorem d_Mo_demerits_100 : decode prog_12_method_30_code 100 = .ok (.iload_n 2, 1) := by decide +kernel
theorem d_Mo_demerits_107 : decode prog_12_method_30_code 107 = .ok (.lload 5, 2) := by decide +kernel
theorem d_Mo_demerits_109 : decode prog_12_method_30_code 109 = .ok (.aload_n 0, 1) := by decide +kernel
theorem d_Mo_demerits_117 : decode prog_12_method_30_code 117 = .ok (.goto 5, 3) := by decide +kernel
theorem d_Mo_demerits_116 : decode prog_12_method_30_code 116 = .ok (.ladd, 1) := by decide +kernel
theorem d_Mo_demerits_115 : decode prog_12_method_30_code 115 = .ok (.i2l, 1) := by decide +kernel
theorem d_Mo_demerits_114 : decode prog_12_method_30_code 114 = .ok (.iaload, 1) := by decide +kernel
theorem d_Mo_demerits_113 : decode prog_12_method_30_code 113 = .ok (.iconst 5, 1) := by decide +kernel
theorem d_Mo_demerits_110 : decode prog_12_method_30_code 110 = .ok (.getfield 34, 3) := by decide +kernel
theorem d_Mo_demerits_104 : decode prog_12_method_30_code 104 = .ok (.ifCond .eq 16, 3) := by decide +kernel
theorem d_Mo_demerits_101 : decode prog_12_method_30_code 101 = .ok (.invokevirtual 150, 3) := by decide +kernel
theorem d_Mo_demerits_96 : decode prog_12_method_30_code 96 = .ok (.ifCond .eq 24, 3) := by decide +kernel
theorem d_Mo_demerits_89 : decode prog_12_method_30_code 89 = .ok (.invokevirtual 150, 3) := by decide +kernel
theorem d_Mo_demerits_88 : decode prog_12_method_30_code 88 = .ok (.iaload, 1) := by decide +kernel
theorem d_Mo_demerits_84 : decode prog_12_method_30_code 84 = .ok (.getfield 52, 3) := by decide +kernel
theorem d_Mo_demerits_30 : decode prog_12_method_30_code 30 = .ok (.lstore 5, 2) := by decide +kernel
theorem d_Mo_demerits_32 : decode prog_12_method_30_code 32 = .ok (.aload_n 0, 1) := by decide +kernel
theorem d_Mo_demerits_33 : decode prog_12_method_30_code 33 = .ok (.iload_n 2, 1) := by decide +kernel
theorem d_Mo_demerits_38 : decode prog_12_method_30_code 38 = .ok (.lstore 7, 2) := by decide +kernel
theorem d_Mo_demerits_40 : decode prog_12_method_30_code 40 = .ok (.lload 7, 2) := by decide +kernel
theorem d_Mo_demerits_58 : decode prog_12_method_30_code 58 = .ok (.lload 7, 2) := by decide +kernel
theorem d_Mo_demerits_78 : decode prog_12_method_30_code 78 = .ok (.lload 5, 2) := by decide +kernel
theorem d_Mo_demerits_67 : decode prog_12_method_30_code 67 = .ok (.lload 5, 2) := by decide +kernel
theorem d_Mo_demerits_69 : decode prog_12_method_30_code 69 = .ok (.lload 7, 2) := by decide +kernel
theorem d_Mo_demerits_71 : decode prog_12_method_30_code 71 = .ok (.lload 7, 2) := by decide +kernel
theorem d_Mo_demerits_75 : decode prog_12_method_30_code 75 = .ok (.goto 5, 3) := by decide +kernel
theorem d_Mo_demerits_74 : decode prog_12_method_30_code 74 = .ok (.lsub, 1) := by decide +kernel
theorem d_Mo_demerits_73 : decode prog_12_method_30_code 73 = .ok (.lmul, 1) := by decide +kernel
theorem d_Mo_demerits_64 : decode prog_12_method_30_code 64 = .ok (.ifCond .le 14, 3) := by decide +kernel
theorem d_Mo_demerits_63 : decode prog_12_method_30_code 63 = .ok (.lcmp, 1) := by decide +kernel
theorem d_Mo_demerits_60 : decode prog_12_method_30_code 60 = .ok (.ldc2_w 204, 3) := by decide +kernel
theorem d_Mo_demerits_47 : decode prog_12_method_30_code 47 = .ok (.lload 5, 2) := by decide +kernel
theorem d_Mo_demerits_49 : decode prog_12_method_30_code 49 = .ok (.lload 7, 2) := by decide +kernel
theorem d_Mo_demerits_51 : decode prog_12_method_30_code 51 = .ok (.lload 7, 2) := by decide +kernel
theorem d_Mo_demerits_55 : decode prog_12_method_30_code 55 = .ok (.goto 25, 3) := by decide +kernel
theorem d_Mo_demerits_54 : decode prog_12_method_30_code 54 = .ok (.ladd, 1) := by decide +kernel
theorem d_Mo_demerits_53 : decode prog_12_method_30_code 53 = .ok (.lmul, 1) := by decide +kernel
theorem d_Mo_demerits_44 : decode prog_12_method_30_code 44 = .ok (.ifCond .le 14, 3) := by decide +kernel
theorem d_Mo_demerits_43 : decode prog_12_method_30_code 43 = .ok (.lcmp, 1) := by decide +kernel
theorem d_Mo_demerits_42 : decode prog_12_method_30_code 42 = .ok (.lconst 0, 1) := by decide +kernel
theorem d_Mo_demerits_37 : decode prog_12_method_30_code 37 = .ok (.i2l, 1) := by decide +kernel
theorem d_Mo_demerits_34 : decode prog_12_method_30_code 34 = .ok (.invokevirtual 141, 3) := by decide +kernel
theorem d_Mo_demerits_0 : decode prog_12_method_30_code 0 = .ok (.aload_n 0, 1) := by decide +kernel
theorem d_Mo_demerits_6 : decode prog_12_method_30_code 6 = .ok (.aload_n 0, 1) := by decide +kernel
theorem d_Mo_demerits_12 : decode prog_12_method_30_code 12 = .ok (.lstore_n 3, 1) := by decide +kernel
theorem d_Mo_demerits_13 : decode prog_12_method_30_code 13 = .ok (.lload_n 3, 1) := by decide +kernel
theorem d_Mo_demerits_27 : decode prog_12_method_30_code 27 = .ok (.lload_n 3, 1) := by decide +kernel
theorem d_Mo_demerits_28 : decode prog_12_method_30_code 28 = .ok (.lload_n 3, 1) := by decide +kernel
theorem d_Mo_demerits_29 : decode prog_12_method_30_code 29 = .ok (.lmul, 1) := by decide +kernel
theorem d_Mo_demerits_24 : decode prog_12_method_30_code 24 = .ok (.goto 6, 3) := by decide +kernel
theorem d_Mo_demerits_21 : decode prog_12_method_30_code 21 = .ok (.ldc2_w 202, 3) := by decide +kernel
theorem d_Mo_demerits_18 : decode prog_12_method_30_code 18 = .ok (.ifCond .lt 9, 3) := by decide +kernel
theorem d_Mo_demerits_17 : decode prog_12_method_30_code 17 = .ok (.lcmp, 1) := by decide +kernel
theorem d_Mo_demerits_14 : decode prog_12_method_30_code 14 = .ok (.ldc2_w 200, 3) := by decide +kernel
theorem d_Mo_demerits_11 : decode prog_12_method_30_code 11 = .ok (.i2l, 1) := by decide +kernel
theorem d_Mo_demerits_10 : decode prog_12_method_30_code 10 = .ok (.iadd, 1) := by decide +kernel
theorem d_Mo_demerits_7 : decode prog_12_method_30_code 7 = .ok (.getfield 194, 3) := by decide +kernel
theorem d_Mo_demerits_5 : decode prog_12_method_30_code 5 = .ok (.iaload, 1) := by decide +kernel
theorem d_Mo_demerits_4 : decode prog_12_method_30_code 4 = .ok (.iconst 2, 1) := by decide +kernel
theorem d_Mo_demerits_1 : decode prog_12_method_30_code 1 = .ok (.getfield 34, 3) := by decide +kernel
theorem d_Mo_write_0 : decode prog_12_method_31_code 0 = .ok (.aload_n 0, 1) := by decide +kernel
theorem d_Mo_write_4 : decode prog_12_method_31_code 4 = .ok (.iload_n 1, 1) := by decide +kernel
theorem d_Mo_write_5 : decode prog_12_method_31_code 5 = .ok (.iload_n 2, 1) := by decide +kernel
theorem d_Mo_write_7 : decode prog_12_method_31_code 7 = .ok (.aload_n 0, 1) := by decide +kernel
theorem d_Mo_write_11 : decode prog_12_method_31_code 11 = .ok (.iload_n 1, 1) := by decide +kernel
theorem d_Mo_write_12 : decode prog_12_method_31_code 12 = .ok (.aload_n 0, 1) := by decide +kernel
theorem d_Mo_write_16 : decode prog_12_method_31_code 16 = .ok (.iload_n 3, 1) := by decide +kernel
theorem d_Mo_write_21 : decode prog_12_method_31_code 21 = .ok (.aload_n 0, 1) := by decide +kernel
theorem d_Mo_write_25 : decode prog_12_method_31_code 25 = .ok (.iload_n 1, 1) := by decide +kernel
theorem d_Mo_write_26 : decode prog_12_method_31_code 26 = .ok (.aload_n 0, 1) := by decide +kernel
theorem d_Mo_write_31 : decode prog_12_method_31_code 31 = .ok (.aload_n 0, 1) := by decide +kernel
theorem d_Mo_write_35 : decode prog_12_method_31_code 35 = .ok (.iload_n 1, 1) := by decide +kernel
theorem d_Mo_write_36 : decode prog_12_method_31_code 36 = .ok (.lload 4, 2) := by decide +kernel
theorem d_Mo_write_39 : decode prog_12_method_31_code 39 = .ok (.aload_n 0, 1) := by decide +kernel
theorem d_Mo_write_43 : decode prog_12_method_31_code 43 = .ok (.iload_n 1, 1) := by decide +kernel
theorem d_Mo_write_44 : decode prog_12_method_31_code 44 = .ok (.iload_n 3, 1) := by decide +kernel
theorem d_Mo_write_46 : decode prog_12_method_31_code 46 = .ok (.aload_n 0, 1) := by decide +kernel
theorem d_Mo_write_50 : decode prog_12_method_31_code 50 = .ok (.iload_n 1, 1) := by decide +kernel
theorem d_Mo_write_53 : decode prog_12_method_31_code 53 = .ok (.return_, 1) := by decide +kernel
theorem d_Mo_write_52 : decode prog_12_method_31_code 52 = .ok (.bastore, 1) := by decide +kernel
theorem d_Mo_write_51 : decode prog_12_method_31_code 51 = .ok (.iconst 0, 1) := by decide +kernel
theorem d_Mo_write_47 : decode prog_12_method_31_code 47 = .ok (.getfield 68, 3) := by decide +kernel
theorem d_Mo_write_45 : decode prog_12_method_31_code 45 = .ok (.iastore, 1) := by decide +kernel
theorem d_Mo_write_40 : decode prog_12_method_31_code 40 = .ok (.getfield 65, 3) := by decide +kernel
theorem d_Mo_write_38 : decode prog_12_method_31_code 38 = .ok (.lastore, 1) := by decide +kernel
theorem d_Mo_write_32 : decode prog_12_method_31_code 32 = .ok (.getfield 61, 3) := by decide +kernel
theorem d_Mo_write_30 : decode prog_12_method_31_code 30 = .ok (.iastore, 1) := by decide +kernel
theorem d_Mo_write_27 : decode prog_12_method_31_code 27 = .ok (.getfield 197, 3) := by decide +kernel
theorem d_Mo_write_22 : decode prog_12_method_31_code 22 = .ok (.getfield 58, 3) := by decide +kernel
theorem d_Mo_write_20 : decode prog_12_method_31_code 20 = .ok (.iastore, 1) := by decide +kernel
theorem d_Mo_write_19 : decode prog_12_method_31_code 19 = .ok (.iadd, 1) := by decide +kernel
theorem d_Mo_write_18 : decode prog_12_method_31_code 18 = .ok (.iconst 1, 1) := by decide +kernel
theorem d_Mo_write_17 : decode prog_12_method_31_code 17 = .ok (.iaload, 1) := by decide +kernel
theorem d_Mo_write_13 : decode prog_12_method_31_code 13 = .ok (.getfield 55, 3) := by decide +kernel
theorem d_Mo_write_8 : decode prog_12_method_31_code 8 = .ok (.getfield 55, 3) := by decide +kernel
theorem d_Mo_write_6 : decode prog_12_method_31_code 6 = .ok (.iastore, 1) := by decide +kernel
theorem d_Mo_write_1 : decode prog_12_method_31_code 1 = .ok (.getfield 52, 3) := by decide +kernel
theorem d_Mo_isBefore_0 : decode prog_12_method_32_code 0 = .ok (.aload_n 0, 1) := by decide +kernel
theorem d_Mo_isBefore_4 : decode prog_12_method_32_code 4 = .ok (.iload_n 1, 1) := by decide +kernel
theorem d_Mo_isBefore_6 : decode prog_12_method_32_code 6 = .ok (.aload_n 0, 1) := by decide +kernel
theorem d_Mo_isBefore_10 : decode prog_12_method_32_code 10 = .ok (.iload_n 2, 1) := by decide +kernel
theorem d_Mo_isBefore_50 : decode prog_12_method_32_code 50 = .ok (.ireturn, 1) := by decide +kernel
theorem d_Mo_isBefore_46 : decode prog_12_method_32_code 46 = .ok (.goto 4, 3) := by decide +kernel
theorem d_Mo_isBefore_45 : decode prog_12_method_32_code 45 = .ok (.iconst 1, 1) := by decide +kernel
theorem d_Mo_isBefore_15 : decode prog_12_method_32_code 15 = .ok (.aload_n 0, 1) := by decide +kernel
theorem d_Mo_isBefore_19 : decode prog_12_method_32_code 19 = .ok (.iload_n 1, 1) := by decide +kernel
theorem d_Mo_isBefore_21 : decode prog_12_method_32_code 21 = .ok (.aload_n 0, 1) := by decide +kernel
theorem d_Mo_isBefore_25 : decode prog_12_method_32_code 25 = .ok (.iload_n 2, 1) := by decide +kernel
theorem d_Mo_isBefore_49 : decode prog_12_method_32_code 49 = .ok (.iconst 0, 1) := by decide +kernel
theorem d_Mo_isBefore_30 : decode prog_12_method_32_code 30 = .ok (.aload_n 0, 1) := by decide +kernel
theorem d_Mo_isBefore_34 : decode prog_12_method_32_code 34 = .ok (.iload_n 1, 1) := by decide +kernel
theorem d_Mo_isBefore_36 : decode prog_12_method_32_code 36 = .ok (.aload_n 0, 1) := by decide +kernel
theorem d_Mo_isBefore_40 : decode prog_12_method_32_code 40 = .ok (.iload_n 2, 1) := by decide +kernel
theorem d_Mo_isBefore_42 : decode prog_12_method_32_code 42 = .ok (.if_icmp .le 7, 3) := by decide +kernel
theorem d_Mo_isBefore_41 : decode prog_12_method_32_code 41 = .ok (.iaload, 1) := by decide +kernel
theorem d_Mo_isBefore_37 : decode prog_12_method_32_code 37 = .ok (.getfield 58, 3) := by decide +kernel
theorem d_Mo_isBefore_35 : decode prog_12_method_32_code 35 = .ok (.iaload, 1) := by decide +kernel
theorem d_Mo_isBefore_31 : decode prog_12_method_32_code 31 = .ok (.getfield 58, 3) := by decide +kernel
theorem d_Mo_isBefore_27 : decode prog_12_method_32_code 27 = .ok (.if_icmp .ne 22, 3) := by decide +kernel
theorem d_Mo_isBefore_26 : decode prog_12_method_32_code 26 = .ok (.iaload, 1) := by decide +kernel
theorem d_Mo_isBefore_22 : decode prog_12_method_32_code 22 = .ok (.getfield 52, 3) := by decide +kernel
theorem d_Mo_isBefore_20 : decode prog_12_method_32_code 20 = .ok (.iaload, 1) := by decide +kernel
theorem d_Mo_isBefore_16 : decode prog_12_method_32_code 16 = .ok (.getfield 52, 3) := by decide +kernel
theorem d_Mo_isBefore_12 : decode prog_12_method_32_code 12 = .ok (.if_icmp .lt 33, 3) := by decide +kernel
theorem d_Mo_isBefore_11 : decode prog_12_method_32_code 11 = .ok (.iaload, 1) := by decide +kernel
theorem d_Mo_isBefore_7 : decode prog_12_method_32_code 7 = .ok (.getfield 52, 3) := by decide +kernel
theorem d_Mo_isBefore_5 : decode prog_12_method_32_code 5 = .ok (.iaload, 1) := by decide +kernel
theorem d_Mo_isBefore_1 : decode prog_12_method_32_code 1 = .ok (.getfield 52, 3) := by decide +kernel
theorem d_Mo_reach_150 : decode prog_12_method_33_code 150 = .ok (.aload_n 0, 1) := by decide +kernel
theorem d_Mo_reach_151 : decode prog_12_method_33_code 151 = .ok (.iload 6, 2) := by decide +kernel
theorem d_Mo_reach_153 : decode prog_12_method_33_code 153 = .ok (.iload_n 2, 1) := by decide +kernel
theorem d_Mo_reach_154 : decode prog_12_method_33_code 154 = .ok (.iload_n 3, 1) := by decide +kernel
theorem d_Mo_reach_155 : decode prog_12_method_33_code 155 = .ok (.lload 4, 2) := by decide +kernel
theorem d_Mo_reach_161 : decode prog_12_method_33_code 161 = .ok (.ireturn, 1) := by decide +kernel
theorem d_Mo_reach_160 : decode prog_12_method_33_code 160 = .ok (.iconst 1, 1) := by decide +kernel
theorem d_Mo_reach_157 : decode prog_12_method_33_code 157 = .ok (.invokevirtual 213, 3) := by decide +kernel
theorem d_Mo_reach_65 : decode prog_12_method_33_code 65 = .ok (.iload 6, 2) := by decide +kernel
theorem d_Mo_reach_67 : decode prog_12_method_33_code 67 = .ok (.aload_n 0, 1) := by decide +kernel
theorem d_Mo_reach_109 : decode prog_12_method_33_code 109 = .ok (.lload 4, 2) := by decide +kernel
theorem d_Mo_reach_111 : decode prog_12_method_33_code 111 = .ok (.aload_n 0, 1) := by decide +kernel
theorem d_Mo_reach_115 : decode prog_12_method_33_code 115 = .ok (.iload 6, 2) := by decide +kernel
theorem d_Mo_reach_122 : decode prog_12_method_33_code 122 = .ok (.lload 4, 2) := by decide +kernel
theorem d_Mo_reach_124 : decode prog_12_method_33_code 124 = .ok (.aload_n 0, 1) := by decide +kernel
theorem d_Mo_reach_128 : decode prog_12_method_33_code 128 = .ok (.iload 6, 2) := by decide +kernel
theorem d_Mo_reach_135 : decode prog_12_method_33_code 135 = .ok (.aload_n 0, 1) := by decide +kernel
theorem d_Mo_reach_136 : decode prog_12_method_33_code 136 = .ok (.iload_n 3, 1) := by decide +kernel
theorem d_Mo_reach_137 : decode prog_12_method_33_code 137 = .ok (.aload_n 0, 1) := by decide +kernel
theorem d_Mo_reach_141 : decode prog_12_method_33_code 141 = .ok (.iload 6, 2) := by decide +kernel
theorem d_Mo_reach_147 : decode prog_12_method_33_code 147 = .ok (.ifCond .eq 13, 3) := by decide +kernel
theorem d_Mo_reach_144 : decode prog_12_method_33_code 144 = .ok (.invokevirtual 217, 3) := by decide +kernel
theorem d_Mo_reach_143 : decode prog_12_method_33_code 143 = .ok (.iaload, 1) := by decide +kernel
theorem d_Mo_reach_138 : decode prog_12_method_33_code 138 = .ok (.getfield 65, 3) := by decide +kernel
theorem d_Mo_reach_132 : decode prog_12_method_33_code 132 = .ok (.ifCond .ne 28, 3) := by decide +kernel
theorem d_Mo_reach_131 : decode prog_12_method_33_code 131 = .ok (.lcmp, 1) := by decide +kernel
theorem d_Mo_reach_130 : decode prog_12_method_33_code 130 = .ok (.laload, 1) := by decide +kernel
theorem d_Mo_reach_125 : decode prog_12_method_33_code 125 = .ok (.getfield 61, 3) := by decide +kernel
theorem d_Mo_reach_119 : decode prog_12_method_33_code 119 = .ok (.ifCond .lt 31, 3) := by decide +kernel
theorem d_Mo_reach_118 : decode prog_12_method_33_code 118 = .ok (.lcmp, 1) := by decide +kernel
theorem d_Mo_reach_117 : decode prog_12_method_33_code 117 = .ok (.laload, 1) := by decide +kernel
theorem d_Mo_reach_112 : decode prog_12_method_33_code 112 = .ok (.getfield 61, 3) := by decide +kernel
theorem d_Mo_reach_74 : decode prog_12_method_33_code 74 = .ok (.aload_n 0, 1) := by decide +kernel
theorem d_Mo_reach_86 : decode prog_12_method_33_code 86 = .ok (.aload_n 0, 1) := by decide +kernel
theorem d_Mo_reach_96 : decode prog_12_method_33_code 96 = .ok (.aload_n 0, 1) := by decide +kernel
theorem d_Mo_reach_97 : decode prog_12_method_33_code 97 = .ok (.iload 6, 2) := by decide +kernel
theorem d_Mo_reach_99 : decode prog_12_method_33_code 99 = .ok (.iload_n 2, 1) := by decide +kernel
theorem d_Mo_reach_100 : decode prog_12_method_33_code 100 = .ok (.iload_n 3, 1) := by decide +kernel
theorem d_Mo_reach_101 : decode prog_12_method_33_code 101 = .ok (.lload 4, 2) := by decide +kernel
theorem d_Mo_reach_106 : decode prog_12_method_33_code 106 = .ok (.goto 54, 3) := by decide +kernel
theorem d_Mo_reach_103 : decode prog_12_method_33_code 103 = .ok (.invokevirtual 213, 3) := by decide +kernel
theorem d_Mo_reach_93 : decode prog_12_method_33_code 93 = .ok (.putfield 210, 3) := by decide +kernel
theorem d_Mo_reach_92 : decode prog_12_method_33_code 92 = .ok (.iadd, 1) := by decide +kernel
theorem d_Mo_reach_91 : decode prog_12_method_33_code 91 = .ok (.iconst 1, 1) := by decide +kernel
theorem d_Mo_reach_88 : decode prog_12_method_33_code 88 = .ok (.getfield 210, 3) := by decide +kernel
theorem d_Mo_reach_87 : decode prog_12_method_33_code 87 = .ok (.dup, 1) := by decide +kernel
theorem d_Mo_reach_85 : decode prog_12_method_33_code 85 = .ok (.ireturn, 1) := by decide +kernel
theorem d_Mo_reach_84 : decode prog_12_method_33_code 84 = .ok (.iconst 0, 1) := by decide +kernel
theorem d_Mo_reach_81 : decode prog_12_method_33_code 81 = .ok (.if_icmp .ne 5, 3) := by decide +kernel
theorem d_Mo_reach_78 : decode prog_12_method_33_code 78 = .ok (.sipush 8000, 3) := by decide +kernel
theorem d_Mo_reach_75 : decode prog_12_method_33_code 75 = .ok (.getfield 210, 3) := by decide +kernel
theorem d_Mo_reach_71 : decode prog_12_method_33_code 71 = .ok (.if_icmp .le 38, 3) := by decide +kernel
theorem d_Mo_reach_68 : decode prog_12_method_33_code 68 = .ok (.getfield 210, 3) := by decide +kernel
theorem d_Mo_reach_18 : decode prog_12_method_33_code 18 = .ok (.iload 6, 2) := by decide +kernel
theorem d_Mo_reach_20 : decode prog_12_method_33_code 20 = .ok (.aload_n 0, 1) := by decide +kernel
theorem d_Mo_reach_27 : decode prog_12_method_33_code 27 = .ok (.aload_n 0, 1) := by decide +kernel
theorem d_Mo_reach_31 : decode prog_12_method_33_code 31 = .ok (.iload 6, 2) := by decide +kernel
theorem d_Mo_reach_34 : decode prog_12_method_33_code 34 = .ok (.aload_n 0, 1) := by decide +kernel
theorem d_Mo_reach_38 : decode prog_12_method_33_code 38 = .ok (.iload_n 3, 1) := by decide +kernel
theorem d_Mo_reach_62 : decode prog_12_method_33_code 62 = .ok (.goto (-44), 3) := by decide +kernel
theorem d_Mo_reach_59 : decode prog_12_method_33_code 59 = .ok (.iinc 6 1, 3) := by decide +kernel
theorem d_Mo_reach_45 : decode prog_12_method_33_code 45 = .ok (.aload_n 0, 1) := by decide +kernel
theorem d_Mo_reach_49 : decode prog_12_method_33_code 49 = .ok (.iload 6, 2) := by decide +kernel
theorem d_Mo_reach_52 : decode prog_12_method_33_code 52 = .ok (.aload_n 0, 1) := by decide +kernel
theorem d_Mo_reach_56 : decode prog_12_method_33_code 56 = .ok (.if_icmp .eq 9, 3) := by decide +kernel
theorem d_Mo_reach_53 : decode prog_12_method_33_code 53 = .ok (.getfield 197, 3) := by decide +kernel
theorem d_Mo_reach_51 : decode prog_12_method_33_code 51 = .ok (.iaload, 1) := by decide +kernel
theorem d_Mo_reach_46 : decode prog_12_method_33_code 46 = .ok (.getfield 58, 3) := by decide +kernel
theorem d_Mo_reach_42 : decode prog_12_method_33_code 42 = .ok (.if_icmp .ne 17, 3) := by decide +kernel
theorem d_Mo_reach_41 : decode prog_12_method_33_code 41 = .ok (.iadd, 1) := by decide +kernel
theorem d_Mo_reach_40 : decode prog_12_method_33_code 40 = .ok (.iconst 1, 1) := by decide +kernel
theorem d_Mo_reach_39 : decode prog_12_method_33_code 39 = .ok (.iaload, 1) := by decide +kernel
theorem d_Mo_reach_35 : decode prog_12_method_33_code 35 = .ok (.getfield 55, 3) := by decide +kernel
theorem d_Mo_reach_33 : decode prog_12_method_33_code 33 = .ok (.iaload, 1) := by decide +kernel
theorem d_Mo_reach_28 : decode prog_12_method_33_code 28 = .ok (.getfield 55, 3) := by decide +kernel
theorem d_Mo_reach_24 : decode prog_12_method_33_code 24 = .ok (.if_icmp .gt 41, 3) := by decide +kernel
theorem d_Mo_reach_21 : decode prog_12_method_33_code 21 = .ok (.getfield 210, 3) := by decide +kernel
theorem d_Mo_reach_0 : decode prog_12_method_33_code 0 = .ok (.aload_n 0, 1) := by decide +kernel
theorem d_Mo_reach_4 : decode prog_12_method_33_code 4 = .ok (.iload_n 3, 1) := by decide +kernel
theorem d_Mo_reach_6 : decode prog_12_method_33_code 6 = .ok (.aload_n 0, 1) := by decide +kernel
theorem d_Mo_reach_7 : decode prog_12_method_33_code 7 = .ok (.iload_n 3, 1) := by decide +kernel
theorem d_Mo_reach_8 : decode prog_12_method_33_code 8 = .ok (.iload_n 2, 1) := by decide +kernel
theorem d_Mo_reach_13 : decode prog_12_method_33_code 13 = .ok (.lstore 4, 2) := by decide +kernel
theorem d_Mo_reach_15 : decode prog_12_method_33_code 15 = .ok (.iload_n 1, 1) := by decide +kernel
theorem d_Mo_reach_16 : decode prog_12_method_33_code 16 = .ok (.istore 6, 2) := by decide +kernel
theorem d_Mo_reach_12 : decode prog_12_method_33_code 12 = .ok (.ladd, 1) := by decide +kernel
theorem d_Mo_reach_9 : decode prog_12_method_33_code 9 = .ok (.invokevirtual 206, 3) := by decide +kernel
theorem d_Mo_reach_5 : decode prog_12_method_33_code 5 = .ok (.laload, 1) := by decide +kernel
theorem d_Mo_reach_1 : decode prog_12_method_33_code 1 = .ok (.getfield 61, 3) := by decide +kernel
theorem d_Mo_ask_237 : decode prog_12_method_34_code 237 = .ok (.istore 8, 2) := by decide +kernel
theorem d_Mo_ask_239 : decode prog_12_method_34_code 239 = .ok (.iload 8, 2) := by decide +kernel
theorem d_Mo_ask_325 : decode prog_12_method_34_code 325 = .ok (.ireturn, 1) := by decide +kernel
theorem d_Mo_ask_324 : decode prog_12_method_34_code 324 = .ok (.iconst 1, 1) := by decide +kernel
theorem d_Mo_ask_244 : decode prog_12_method_34_code 244 = .ok (.iload 7, 2) := by decide +kernel
theorem d_Mo_ask_249 : decode prog_12_method_34_code 249 = .ok (.iload 4, 2) := by decide +kernel
theorem d_Mo_ask_254 : decode prog_12_method_34_code 254 = .ok (.iload 4, 2) := by decide +kernel
theorem d_Mo_ask_256 : decode prog_12_method_34_code 256 = .ok (.iload 5, 2) := by decide +kernel
theorem d_Mo_ask_261 : decode prog_12_method_34_code 261 = .ok (.aload_n 0, 1) := by decide +kernel
theorem d_Mo_ask_273 : decode prog_12_method_34_code 273 = .ok (.aload_n 0, 1) := by decide +kernel
theorem d_Mo_ask_274 : decode prog_12_method_34_code 274 = .ok (.aload_n 0, 1) := by decide +kernel
theorem d_Mo_ask_278 : decode prog_12_method_34_code 278 = .ok (.iload 6, 2) := by decide +kernel
theorem d_Mo_ask_281 : decode prog_12_method_34_code 281 = .ok (.iload_n 1, 1) := by decide +kernel
theorem d_Mo_ask_285 : decode prog_12_method_34_code 285 = .ok (.aload_n 0, 1) := by decide +kernel
theorem d_Mo_ask_286 : decode prog_12_method_34_code 286 = .ok (.aload_n 0, 1) := by decide +kernel
theorem d_Mo_ask_290 : decode prog_12_method_34_code 290 = .ok (.iload 6, 2) := by decide +kernel
theorem d_Mo_ask_296 : decode prog_12_method_34_code 296 = .ok (.aload_n 0, 1) := by decide +kernel
theorem d_Mo_ask_306 : decode prog_12_method_34_code 306 = .ok (.aload_n 0, 1) := by decide +kernel
theorem d_Mo_ask_307 : decode prog_12_method_34_code 307 = .ok (.aload_n 0, 1) := by decide +kernel
theorem d_Mo_ask_311 : decode prog_12_method_34_code 311 = .ok (.iload_n 1, 1) := by decide +kernel
theorem d_Mo_ask_312 : decode prog_12_method_34_code 312 = .ok (.iload 6, 2) := by decide +kernel
theorem d_Mo_ask_314 : decode prog_12_method_34_code 314 = .ok (.aload_n 0, 1) := by decide +kernel
theorem d_Mo_ask_318 : decode prog_12_method_34_code 318 = .ok (.iload 6, 2) := by decide +kernel
theorem d_Mo_ask_321 : decode prog_12_method_34_code 321 = .ok (.invokevirtual 213, 3) := by decide +kernel
theorem d_Mo_ask_320 : decode prog_12_method_34_code 320 = .ok (.laload, 1) := by decide +kernel
theorem d_Mo_ask_315 : decode prog_12_method_34_code 315 = .ok (.getfield 61, 3) := by decide +kernel
theorem d_Mo_ask_308 : decode prog_12_method_34_code 308 = .ok (.getfield 210, 3) := by decide +kernel
theorem d_Mo_ask_303 : decode prog_12_method_34_code 303 = .ok (.putfield 210, 3) := by decide +kernel
theorem d_Mo_ask_302 : decode prog_12_method_34_code 302 = .ok (.iadd, 1) := by decide +kernel
theorem d_Mo_ask_301 : decode prog_12_method_34_code 301 = .ok (.iconst 1, 1) := by decide +kernel
theorem d_Mo_ask_298 : decode prog_12_method_34_code 298 = .ok (.getfield 210, 3) := by decide +kernel
theorem d_Mo_ask_297 : decode prog_12_method_34_code 297 = .ok (.dup, 1) := by decide +kernel
theorem d_Mo_ask_293 : decode prog_12_method_34_code 293 = .ok (.invokevirtual 225, 3) := by decide +kernel
theorem d_Mo_ask_292 : decode prog_12_method_34_code 292 = .ok (.iaload, 1) := by decide +kernel
theorem d_Mo_ask_287 : decode prog_12_method_34_code 287 = .ok (.getfield 55, 3) := by decide +kernel
theorem d_Mo_ask_282 : decode prog_12_method_34_code 282 = .ok (.invokevirtual 221, 3) := by decide +kernel
theorem d_Mo_ask_280 : decode prog_12_method_34_code 280 = .ok (.iaload, 1) := by decide +kernel
theorem d_Mo_ask_275 : decode prog_12_method_34_code 275 = .ok (.getfield 52, 3) := by decide +kernel
theorem d_Mo_ask_272 : decode prog_12_method_34_code 272 = .ok (.ireturn, 1) := by decide +kernel
theorem d_Mo_ask_271 : decode prog_12_method_34_code 271 = .ok (.iconst 0, 1) := by decide +kernel
theorem d_Mo_ask_268 : decode prog_12_method_34_code 268 = .ok (.if_icmp .ne 5, 3) := by decide +kernel
theorem d_Mo_ask_265 : decode prog_12_method_34_code 265 = .ok (.sipush 8000, 3) := by decide +kernel
theorem d_Mo_ask_262 : decode prog_12_method_34_code 262 = .ok (.getfield 210, 3) := by decide +kernel
theorem d_Mo_ask_258 : decode prog_12_method_34_code 258 = .ok (.if_icmp .ne 66, 3) := by decide +kernel
theorem d_Mo_ask_251 : decode prog_12_method_34_code 251 = .ok (.ifCond .le 73, 3) := by decide +kernel
theorem d_Mo_ask_246 : decode prog_12_method_34_code 246 = .ok (.ifCond .ne 78, 3) := by decide +kernel
theorem d_Mo_ask_241 : decode prog_12_method_34_code 241 = .ok (.ifCond .eq 83, 3) := by decide +kernel
theorem d_Mo_ask_236 : decode prog_12_method_34_code 236 = .ok (.iconst 0, 1) := by decide +kernel
theorem d_Mo_ask_233 : decode prog_12_method_34_code 233 = .ok (.goto 4, 3) := by decide +kernel
theorem d_Mo_ask_232 : decode prog_12_method_34_code 232 = .ok (.iconst 1, 1) := by decide +kernel
theorem d_Mo_ask_229 : decode prog_12_method_34_code 229 = .ok (.if_icmp .ne 7, 3) := by decide +kernel
theorem d_Mo_ask_194 : decode prog_12_method_34_code 194 = .ok (.istore 6, 2) := by decide +kernel
theorem d_Mo_ask_196 : decode prog_12_method_34_code 196 = .ok (.aload_n 0, 1) := by decide +kernel
theorem d_Mo_ask_200 : decode prog_12_method_34_code 200 = .ok (.iload 8, 2) := by decide +kernel
theorem d_Mo_ask_207 : decode prog_12_method_34_code 207 = .ok (.goto (-168), 3) := by decide +kernel
theorem d_Mo_ask_204 : decode prog_12_method_34_code 204 = .ok (.iinc 8 1, 3) := by decide +kernel
theorem d_Mo_ask_203 : decode prog_12_method_34_code 203 = .ok (.bastore, 1) := by decide +kernel
theorem d_Mo_ask_202 : decode prog_12_method_34_code 202 = .ok (.iconst 1, 1) := by decide +kernel
theorem d_Mo_ask_197 : decode prog_12_method_34_code 197 = .ok (.getfield 68, 3) := by decide +kernel
theorem d_Mo_ask_180 : decode prog_12_method_34_code 180 = .ok (.istore 9, 2) := by decide +kernel
theorem d_Mo_ask_182 : decode prog_12_method_34_code 182 = .ok (.iload 9, 2) := by decide +kernel
theorem d_Mo_ask_192 : decode prog_12_method_34_code 192 = .ok (.iload 6, 2) := by decide +kernel
theorem d_Mo_ask_187 : decode prog_12_method_34_code 187 = .ok (.iload 8, 2) := by decide +kernel
theorem d_Mo_ask_189 : decode prog_12_method_34_code 189 = .ok (.goto 5, 3) := by decide +kernel
theorem d_Mo_ask_184 : decode prog_12_method_34_code 184 = .ok (.ifCond .eq 8, 3) := by decide +kernel
theorem d_Mo_ask_176 : decode prog_12_method_34_code 176 = .ok (.goto 4, 3) := by decide +kernel
theorem d_Mo_ask_175 : decode prog_12_method_34_code 175 = .ok (.iconst 1, 1) := by decide +kernel
theorem d_Mo_ask_179 : decode prog_12_method_34_code 179 = .ok (.iconst 0, 1) := by decide +kernel
theorem d_Mo_ask_125 : decode prog_12_method_34_code 125 = .ok (.iload 6, 2) := by decide +kernel
theorem d_Mo_ask_130 : decode prog_12_method_34_code 130 = .ok (.aload_n 0, 1) := by decide +kernel
theorem d_Mo_ask_134 : decode prog_12_method_34_code 134 = .ok (.iload 8, 2) := by decide +kernel
theorem d_Mo_ask_137 : decode prog_12_method_34_code 137 = .ok (.aload_n 0, 1) := by decide +kernel
theorem d_Mo_ask_141 : decode prog_12_method_34_code 141 = .ok (.iload 6, 2) := by decide +kernel
theorem d_Mo_ask_147 : decode prog_12_method_34_code 147 = .ok (.aload_n 0, 1) := by decide +kernel
theorem d_Mo_ask_151 : decode prog_12_method_34_code 151 = .ok (.iload 8, 2) := by decide +kernel
theorem d_Mo_ask_154 : decode prog_12_method_34_code 154 = .ok (.aload_n 0, 1) := by decide +kernel
theorem d_Mo_ask_158 : decode prog_12_method_34_code 158 = .ok (.iload 6, 2) := by decide +kernel
theorem d_Mo_ask_164 : decode prog_12_method_34_code 164 = .ok (.aload_n 0, 1) := by decide +kernel
theorem d_Mo_ask_165 : decode prog_12_method_34_code 165 = .ok (.iload 8, 2) := by decide +kernel
theorem d_Mo_ask_167 : decode prog_12_method_34_code 167 = .ok (.iload 6, 2) := by decide +kernel
theorem d_Mo_ask_172 : decode prog_12_method_34_code 172 = .ok (.ifCond .eq 7, 3) := by decide +kernel
theorem d_Mo_ask_169 : decode prog_12_method_34_code 169 = .ok (.invokevirtual 217, 3) := by decide +kernel
theorem d_Mo_ask_161 : decode prog_12_method_34_code 161 = .ok (.if_icmp .ne 18, 3) := by decide +kernel
theorem d_Mo_ask_160 : decode prog_12_method_34_code 160 = .ok (.iaload, 1) := by decide +kernel
theorem d_Mo_ask_155 : decode prog_12_method_34_code 155 = .ok (.getfield 55, 3) := by decide +kernel
theorem d_Mo_ask_153 : decode prog_12_method_34_code 153 = .ok (.iaload, 1) := by decide +kernel
theorem d_Mo_ask_148 : decode prog_12_method_34_code 148 = .ok (.getfield 55, 3) := by decide +kernel
theorem d_Mo_ask_144 : decode prog_12_method_34_code 144 = .ok (.if_icmp .gt 31, 3) := by decide +kernel
theorem d_Mo_ask_143 : decode prog_12_method_34_code 143 = .ok (.iaload, 1) := by decide +kernel
theorem d_Mo_ask_138 : decode prog_12_method_34_code 138 = .ok (.getfield 55, 3) := by decide +kernel
theorem d_Mo_ask_136 : decode prog_12_method_34_code 136 = .ok (.iaload, 1) := by decide +kernel
theorem d_Mo_ask_131 : decode prog_12_method_34_code 131 = .ok (.getfield 55, 3) := by decide +kernel
theorem d_Mo_ask_127 : decode prog_12_method_34_code 127 = .ok (.ifCond .lt 48, 3) := by decide +kernel
theorem d_Mo_ask_122 : decode prog_12_method_34_code 122 = .ok (.iinc 5 1, 3) := by decide +kernel
theorem d_Mo_ask_108 : decode prog_12_method_34_code 108 = .ok (.aload_n 0, 1) := by decide +kernel
theorem d_Mo_ask_118 : decode prog_12_method_34_code 118 = .ok (.iload_n 3, 1) := by decide +kernel
theorem d_Mo_ask_119 : decode prog_12_method_34_code 119 = .ok (.ifCond .eq 85, 3) := by decide +kernel
theorem d_Mo_ask_115 : decode prog_12_method_34_code 115 = .ok (.if_icmp .eq 7, 3) := by decide +kernel
theorem d_Mo_ask_112 : decode prog_12_method_34_code 112 = .ok (.sipush 10001, 3) := by decide +kernel
theorem d_Mo_ask_109 : decode prog_12_method_34_code 109 = .ok (.getfield 194, 3) := by decide +kernel
theorem d_Mo_ask_39 : decode prog_12_method_34_code 39 = .ok (.iload 8, 2) := by decide +kernel
theorem d_Mo_ask_41 : decode prog_12_method_34_code 41 = .ok (.iload_n 2, 1) := by decide +kernel
theorem d_Mo_ask_210 : decode prog_12_method_34_code 210 = .ok (.aload_n 0, 1) := by decide +kernel
theorem d_Mo_ask_214 : decode prog_12_method_34_code 214 = .ok (.aload_n 0, 1) := by decide +kernel
theorem d_Mo_ask_228 : decode prog_12_method_34_code 228 = .ok (.iconst 2, 1) := by decide +kernel
theorem d_Mo_ask_225 : decode prog_12_method_34_code 225 = .ok (.goto 4, 3) := by decide +kernel
theorem d_Mo_ask_224 : decode prog_12_method_34_code 224 = .ok (.iconst 3, 1) := by decide +kernel
theorem d_Mo_ask_221 : decode prog_12_method_34_code 221 = .ok (.ifCond .le 7, 3) := by decide +kernel
theorem d_Mo_ask_220 : decode prog_12_method_34_code 220 = .ok (.iaload, 1) := by decide +kernel
theorem d_Mo_ask_218 : decode prog_12_method_34_code 218 = .ok (.bipush 8, 2) := by decide +kernel
theorem d_Mo_ask_215 : decode prog_12_method_34_code 215 = .ok (.getfield 34, 3) := by decide +kernel
theorem d_Mo_ask_211 : decode prog_12_method_34_code 211 = .ok (.getfield 147, 3) := by decide +kernel
theorem d_Mo_ask_45 : decode prog_12_method_34_code 45 = .ok (.aload_n 0, 1) := by decide +kernel
theorem d_Mo_ask_49 : decode prog_12_method_34_code 49 = .ok (.iload 8, 2) := by decide +kernel
theorem d_Mo_ask_55 : decode prog_12_method_34_code 55 = .ok (.aload_n 0, 1) := by decide +kernel
theorem d_Mo_ask_56 : decode prog_12_method_34_code 56 = .ok (.aload_n 0, 1) := by decide +kernel
theorem d_Mo_ask_60 : decode prog_12_method_34_code 60 = .ok (.iload 8, 2) := by decide +kernel
theorem d_Mo_ask_63 : decode prog_12_method_34_code 63 = .ok (.iload_n 1, 1) := by decide +kernel
theorem d_Mo_ask_67 : decode prog_12_method_34_code 67 = .ok (.aload_n 0, 1) := by decide +kernel
theorem d_Mo_ask_68 : decode prog_12_method_34_code 68 = .ok (.aload_n 0, 1) := by decide +kernel
theorem d_Mo_ask_72 : decode prog_12_method_34_code 72 = .ok (.iload 8, 2) := by decide +kernel
theorem d_Mo_ask_81 : decode prog_12_method_34_code 81 = .ok (.aload_n 0, 1) := by decide +kernel
theorem d_Mo_ask_85 : decode prog_12_method_34_code 85 = .ok (.aload_n 0, 1) := by decide +kernel
theorem d_Mo_ask_93 : decode prog_12_method_34_code 93 = .ok (.istore 7, 2) := by decide +kernel
theorem d_Mo_ask_95 : decode prog_12_method_34_code 95 = .ok (.aload_n 0, 1) := by decide +kernel
theorem d_Mo_ask_96 : decode prog_12_method_34_code 96 = .ok (.iload_n 2, 1) := by decide +kernel
theorem d_Mo_ask_97 : decode prog_12_method_34_code 97 = .ok (.iload_n 1, 1) := by decide +kernel
theorem d_Mo_ask_98 : decode prog_12_method_34_code 98 = .ok (.iload 8, 2) := by decide +kernel
theorem d_Mo_ask_107 : decode prog_12_method_34_code 107 = .ok (.ireturn, 1) := by decide +kernel
theorem d_Mo_ask_106 : decode prog_12_method_34_code 106 = .ok (.iconst 0, 1) := by decide +kernel
theorem d_Mo_ask_103 : decode prog_12_method_34_code 103 = .ok (.ifCond .ne 5, 3) := by decide +kernel
theorem d_Mo_ask_100 : decode prog_12_method_34_code 100 = .ok (.invokevirtual 232, 3) := by decide +kernel
theorem d_Mo_ask_92 : decode prog_12_method_34_code 92 = .ok (.iconst 1, 1) := by decide +kernel
theorem d_Mo_ask_89 : decode prog_12_method_34_code 89 = .ok (.if_icmp .gt 19, 3) := by decide +kernel
theorem d_Mo_ask_86 : decode prog_12_method_34_code 86 = .ok (.getfield 229, 3) := by decide +kernel
theorem d_Mo_ask_82 : decode prog_12_method_34_code 82 = .ok (.getfield 194, 3) := by decide +kernel
theorem d_Mo_ask_78 : decode prog_12_method_34_code 78 = .ok (.iinc 4 1, 3) := by decide +kernel
theorem d_Mo_ask_75 : decode prog_12_method_34_code 75 = .ok (.invokevirtual 225, 3) := by decide +kernel
theorem d_Mo_ask_74 : decode prog_12_method_34_code 74 = .ok (.iaload, 1) := by decide +kernel
theorem d_Mo_ask_69 : decode prog_12_method_34_code 69 = .ok (.getfield 55, 3) := by decide +kernel
theorem d_Mo_ask_64 : decode prog_12_method_34_code 64 = .ok (.invokevirtual 221, 3) := by decide +kernel
theorem d_Mo_ask_62 : decode prog_12_method_34_code 62 = .ok (.iaload, 1) := by decide +kernel
theorem d_Mo_ask_57 : decode prog_12_method_34_code 57 = .ok (.getfield 52, 3) := by decide +kernel
theorem d_Mo_ask_52 : decode prog_12_method_34_code 52 = .ok (.ifCond .ne 152, 3) := by decide +kernel
theorem d_Mo_ask_51 : decode prog_12_method_34_code 51 = .ok (.baload, 1) := by decide +kernel
theorem d_Mo_ask_46 : decode prog_12_method_34_code 46 = .ok (.getfield 68, 3) := by decide +kernel
theorem d_Mo_ask_42 : decode prog_12_method_34_code 42 = .ok (.if_icmp .ge 168, 3) := by decide +kernel
theorem d_Mo_ask_23 : decode prog_12_method_34_code 23 = .ok (.istore_n 3, 1) := by decide +kernel
theorem d_Mo_ask_25 : decode prog_12_method_34_code 25 = .ok (.istore 4, 2) := by decide +kernel
theorem d_Mo_ask_28 : decode prog_12_method_34_code 28 = .ok (.istore 5, 2) := by decide +kernel
theorem d_Mo_ask_31 : decode prog_12_method_34_code 31 = .ok (.istore 6, 2) := by decide +kernel
theorem d_Mo_ask_34 : decode prog_12_method_34_code 34 = .ok (.istore 7, 2) := by decide +kernel
theorem d_Mo_ask_37 : decode prog_12_method_34_code 37 = .ok (.istore 8, 2) := by decide +kernel
theorem d_Mo_ask_36 : decode prog_12_method_34_code 36 = .ok (.iconst 0, 1) := by decide +kernel
theorem d_Mo_ask_33 : decode prog_12_method_34_code 33 = .ok (.iconst 0, 1) := by decide +kernel
theorem d_Mo_ask_30 : decode prog_12_method_34_code 30 = .ok (.iconst (-1), 1) := by decide +kernel
theorem d_Mo_ask_27 : decode prog_12_method_34_code 27 = .ok (.iconst 0, 1) := by decide +kernel
theorem d_Mo_ask_24 : decode prog_12_method_34_code 24 = .ok (.iconst 0, 1) := by decide +kernel
theorem d_Mo_ask_0 : decode prog_12_method_34_code 0 = .ok (.aload_n 0, 1) := by decide +kernel
theorem d_Mo_ask_6 : decode prog_12_method_34_code 6 = .ok (.istore_n 2, 1) := by decide +kernel
theorem d_Mo_ask_7 : decode prog_12_method_34_code 7 = .ok (.aload_n 0, 1) := by decide +kernel
theorem d_Mo_ask_8 : decode prog_12_method_34_code 8 = .ok (.iload_n 1, 1) := by decide +kernel
theorem d_Mo_ask_22 : decode prog_12_method_34_code 22 = .ok (.iconst 0, 1) := by decide +kernel
theorem d_Mo_ask_19 : decode prog_12_method_34_code 19 = .ok (.goto 4, 3) := by decide +kernel
theorem d_Mo_ask_18 : decode prog_12_method_34_code 18 = .ok (.iconst 1, 1) := by decide +kernel
theorem d_Mo_ask_15 : decode prog_12_method_34_code 15 = .ok (.if_icmp .ne 7, 3) := by decide +kernel
theorem d_Mo_ask_12 : decode prog_12_method_34_code 12 = .ok (.sipush (-10000), 3) := by decide +kernel
theorem d_Mo_ask_9 : decode prog_12_method_34_code 9 = .ok (.invokevirtual 141, 3) := by decide +kernel
theorem d_Mo_ask_5 : decode prog_12_method_34_code 5 = .ok (.iadd, 1) := by decide +kernel
theorem d_Mo_ask_4 : decode prog_12_method_34_code 4 = .ok (.iconst 1, 1) := by decide +kernel
theorem d_Mo_ask_1 : decode prog_12_method_34_code 1 = .ok (.getfield 210, 3) := by decide +kernel
theorem d_Mo_make_89 : decode prog_12_method_35_code 89 = .ok (.iload_n 2, 1) := by decide +kernel
theorem d_Mo_make_90 : decode prog_12_method_35_code 90 = .ok (.aload_n 0, 1) := by decide +kernel
theorem d_Mo_make_129 : decode prog_12_method_35_code 129 = .ok (.iload_n 1, 1) := by decide +kernel
theorem d_Mo_make_130 : decode prog_12_method_35_code 130 = .ok (.ireturn, 1) := by decide +kernel
theorem d_Mo_make_97 : decode prog_12_method_35_code 97 = .ok (.iload_n 1, 1) := by decide +kernel
theorem d_Mo_make_101 : decode prog_12_method_35_code 101 = .ok (.aload_n 0, 1) := by decide +kernel
theorem d_Mo_make_102 : decode prog_12_method_35_code 102 = .ok (.iload_n 2, 1) := by decide +kernel
theorem d_Mo_make_122 : decode prog_12_method_35_code 122 = .ok (.istore_n 1, 1) := by decide +kernel
theorem d_Mo_make_126 : decode prog_12_method_35_code 126 = .ok (.goto (-37), 3) := by decide +kernel
theorem d_Mo_make_123 : decode prog_12_method_35_code 123 = .ok (.iinc 2 1, 3) := by decide +kernel
theorem d_Mo_make_118 : decode prog_12_method_35_code 118 = .ok (.goto 4, 3) := by decide +kernel
theorem d_Mo_make_117 : decode prog_12_method_35_code 117 = .ok (.iconst 1, 1) := by decide +kernel
theorem d_Mo_make_109 : decode prog_12_method_35_code 109 = .ok (.aload_n 0, 1) := by decide +kernel
theorem d_Mo_make_110 : decode prog_12_method_35_code 110 = .ok (.iload_n 2, 1) := by decide +kernel
theorem d_Mo_make_121 : decode prog_12_method_35_code 121 = .ok (.iconst 0, 1) := by decide +kernel
theorem d_Mo_make_114 : decode prog_12_method_35_code 114 = .ok (.ifCond .eq 7, 3) := by decide +kernel
theorem d_Mo_make_111 : decode prog_12_method_35_code 111 = .ok (.invokevirtual 239, 3) := by decide +kernel
theorem d_Mo_make_106 : decode prog_12_method_35_code 106 = .ok (.ifCond .eq 11, 3) := by decide +kernel
theorem d_Mo_make_103 : decode prog_12_method_35_code 103 = .ok (.invokevirtual 236, 3) := by decide +kernel
theorem d_Mo_make_98 : decode prog_12_method_35_code 98 = .ok (.ifCond .eq 31, 3) := by decide +kernel
theorem d_Mo_make_94 : decode prog_12_method_35_code 94 = .ok (.if_icmp .gt 35, 3) := by decide +kernel
theorem d_Mo_make_91 : decode prog_12_method_35_code 91 = .ok (.getfield 144, 3) := by decide +kernel
theorem d_Mo_make_62 : decode prog_12_method_35_code 62 = .ok (.aload_n 0, 1) := by decide +kernel
theorem d_Mo_make_63 : decode prog_12_method_35_code 63 = .ok (.aload_n 0, 1) := by decide +kernel
theorem d_Mo_make_86 : decode prog_12_method_35_code 86 = .ok (.istore_n 1, 1) := by decide +kernel
theorem d_Mo_make_88 : decode prog_12_method_35_code 88 = .ok (.istore_n 2, 1) := by decide +kernel
theorem d_Mo_make_87 : decode prog_12_method_35_code 87 = .ok (.iconst 0, 1) := by decide +kernel
theorem d_Mo_make_85 : decode prog_12_method_35_code 85 = .ok (.iconst 1, 1) := by decide +kernel
theorem d_Mo_make_82 : decode prog_12_method_35_code 82 = .ok (.putfield 162, 3) := by decide +kernel
theorem d_Mo_make_81 : decode prog_12_method_35_code 81 = .ok (.iconst 0, 1) := by decide +kernel
theorem d_Mo_make_71 : decode prog_12_method_35_code 71 = .ok (.aload_n 0, 1) := by decide +kernel
theorem d_Mo_make_78 : decode prog_12_method_35_code 78 = .ok (.goto 4, 3) := by decide +kernel
theorem d_Mo_make_77 : decode prog_12_method_35_code 77 = .ok (.iaload, 1) := by decide +kernel
theorem d_Mo_make_75 : decode prog_12_method_35_code 75 = .ok (.bipush 8, 2) := by decide +kernel
theorem d_Mo_make_72 : decode prog_12_method_35_code 72 = .ok (.getfield 34, 3) := by decide +kernel
theorem d_Mo_make_68 : decode prog_12_method_35_code 68 = .ok (.if_icmp .ne 13, 3) := by decide +kernel
theorem d_Mo_make_67 : decode prog_12_method_35_code 67 = .ok (.iconst 3, 1) := by decide +kernel
theorem d_Mo_make_64 : decode prog_12_method_35_code 64 = .ok (.getfield 147, 3) := by decide +kernel
theorem d_Mo_make_59 : decode prog_12_method_35_code 59 = .ok (.putfield 229, 3) := by decide +kernel
theorem d_Mo_make_58 : decode prog_12_method_35_code 58 = .ok (.iaload, 1) := by decide +kernel
theorem d_Mo_make_0 : decode prog_12_method_35_code 0 = .ok (.aload_n 0, 1) := by decide +kernel
theorem d_Mo_make_5 : decode prog_12_method_35_code 5 = .ok (.aload_n 0, 1) := by decide +kernel
theorem d_Mo_make_12 : decode prog_12_method_35_code 12 = .ok (.aload_n 0, 1) := by decide +kernel
theorem d_Mo_make_19 : decode prog_12_method_35_code 19 = .ok (.aload_n 0, 1) := by decide +kernel
theorem d_Mo_make_26 : decode prog_12_method_35_code 26 = .ok (.aload_n 0, 1) := by decide +kernel
theorem d_Mo_make_33 : decode prog_12_method_35_code 33 = .ok (.aload_n 0, 1) := by decide +kernel
theorem d_Mo_make_40 : decode prog_12_method_35_code 40 = .ok (.aload_n 0, 1) := by decide +kernel
theorem d_Mo_make_41 : decode prog_12_method_35_code 41 = .ok (.aload_n 0, 1) := by decide +kernel
theorem d_Mo_make_45 : decode prog_12_method_35_code 45 = .ok (.aload_n 0, 1) := by decide +kernel
theorem d_Mo_make_57 : decode prog_12_method_35_code 57 = .ok (.iconst 1, 1) := by decide +kernel
theorem d_Mo_make_54 : decode prog_12_method_35_code 54 = .ok (.goto 4, 3) := by decide +kernel
theorem d_Mo_make_53 : decode prog_12_method_35_code 53 = .ok (.iconst 0, 1) := by decide +kernel
theorem d_Mo_make_50 : decode prog_12_method_35_code 50 = .ok (.if_icmp .ne 7, 3) := by decide +kernel
theorem d_Mo_make_49 : decode prog_12_method_35_code 49 = .ok (.iconst 1, 1) := by decide +kernel
theorem d_Mo_make_46 : decode prog_12_method_35_code 46 = .ok (.getfield 147, 3) := by decide +kernel
theorem d_Mo_make_42 : decode prog_12_method_35_code 42 = .ok (.getfield 34, 3) := by decide +kernel
theorem d_Mo_make_39 : decode prog_12_method_35_code 39 = .ok (.bastore, 1) := by decide +kernel
theorem d_Mo_make_38 : decode prog_12_method_35_code 38 = .ok (.iconst 0, 1) := by decide +kernel
theorem d_Mo_make_37 : decode prog_12_method_35_code 37 = .ok (.iconst 0, 1) := by decide +kernel
theorem d_Mo_make_34 : decode prog_12_method_35_code 34 = .ok (.getfield 68, 3) := by decide +kernel
theorem d_Mo_make_32 : decode prog_12_method_35_code 32 = .ok (.lastore, 1) := by decide +kernel
theorem d_Mo_make_31 : decode prog_12_method_35_code 31 = .ok (.lconst 0, 1) := by decide +kernel
theorem d_Mo_make_30 : decode prog_12_method_35_code 30 = .ok (.iconst 0, 1) := by decide +kernel
theorem d_Mo_make_27 : decode prog_12_method_35_code 27 = .ok (.getfield 61, 3) := by decide +kernel
theorem d_Mo_make_25 : decode prog_12_method_35_code 25 = .ok (.iastore, 1) := by decide +kernel
theorem d_Mo_make_24 : decode prog_12_method_35_code 24 = .ok (.iconst 2, 1) := by decide +kernel
theorem d_Mo_make_23 : decode prog_12_method_35_code 23 = .ok (.iconst 0, 1) := by decide +kernel
theorem d_Mo_make_20 : decode prog_12_method_35_code 20 = .ok (.getfield 58, 3) := by decide +kernel
theorem d_Mo_make_18 : decode prog_12_method_35_code 18 = .ok (.iastore, 1) := by decide +kernel
theorem d_Mo_make_17 : decode prog_12_method_35_code 17 = .ok (.iconst 0, 1) := by decide +kernel
theorem d_Mo_make_16 : decode prog_12_method_35_code 16 = .ok (.iconst 0, 1) := by decide +kernel
theorem d_Mo_make_13 : decode prog_12_method_35_code 13 = .ok (.getfield 55, 3) := by decide +kernel
theorem d_Mo_make_11 : decode prog_12_method_35_code 11 = .ok (.iastore, 1) := by decide +kernel
theorem d_Mo_make_10 : decode prog_12_method_35_code 10 = .ok (.iconst (-1), 1) := by decide +kernel
theorem d_Mo_make_9 : decode prog_12_method_35_code 9 = .ok (.iconst 0, 1) := by decide +kernel
theorem d_Mo_make_6 : decode prog_12_method_35_code 6 = .ok (.getfield 52, 3) := by decide +kernel
theorem d_Mo_make_2 : decode prog_12_method_35_code 2 = .ok (.putfield 210, 3) := by decide +kernel
theorem d_Mo_make_1 : decode prog_12_method_35_code 1 = .ok (.iconst 0, 1) := by decide +kernel
theorem d_Mo_isLess_0 : decode prog_12_method_36_code 0 = .ok (.aload_n 0, 1) := by decide +kernel
theorem d_Mo_isLess_4 : decode prog_12_method_36_code 4 = .ok (.iload_n 1, 1) := by decide +kernel
theorem d_Mo_isLess_6 : decode prog_12_method_36_code 6 = .ok (.aload_n 0, 1) := by decide +kernel
theorem d_Mo_isLess_10 : decode prog_12_method_36_code 10 = .ok (.iload_n 2, 1) := by decide +kernel
theorem d_Mo_isLess_38 : decode prog_12_method_36_code 38 = .ok (.aload_n 0, 1) := by decide +kernel
theorem d_Mo_isLess_42 : decode prog_12_method_36_code 42 = .ok (.iload_n 1, 1) := by decide +kernel
theorem d_Mo_isLess_44 : decode prog_12_method_36_code 44 = .ok (.aload_n 0, 1) := by decide +kernel
theorem d_Mo_isLess_48 : decode prog_12_method_36_code 48 = .ok (.iload_n 2, 1) := by decide +kernel
theorem d_Mo_isLess_88 : decode prog_12_method_36_code 88 = .ok (.ireturn, 1) := by decide +kernel
theorem d_Mo_isLess_84 : decode prog_12_method_36_code 84 = .ok (.goto 4, 3) := by decide +kernel
theorem d_Mo_isLess_83 : decode prog_12_method_36_code 83 = .ok (.iconst 1, 1) := by decide +kernel
theorem d_Mo_isLess_53 : decode prog_12_method_36_code 53 = .ok (.aload_n 0, 1) := by decide +kernel
theorem d_Mo_isLess_57 : decode prog_12_method_36_code 57 = .ok (.iload_n 1, 1) := by decide +kernel
theorem d_Mo_isLess_59 : decode prog_12_method_36_code 59 = .ok (.aload_n 0, 1) := by decide +kernel
theorem d_Mo_isLess_63 : decode prog_12_method_36_code 63 = .ok (.iload_n 2, 1) := by decide +kernel
theorem d_Mo_isLess_87 : decode prog_12_method_36_code 87 = .ok (.iconst 0, 1) := by decide +kernel
theorem d_Mo_isLess_68 : decode prog_12_method_36_code 68 = .ok (.aload_n 0, 1) := by decide +kernel
theorem d_Mo_isLess_72 : decode prog_12_method_36_code 72 = .ok (.iload_n 1, 1) := by decide +kernel
theorem d_Mo_isLess_74 : decode prog_12_method_36_code 74 = .ok (.aload_n 0, 1) := by decide +kernel
theorem d_Mo_isLess_78 : decode prog_12_method_36_code 78 = .ok (.iload_n 2, 1) := by decide +kernel
theorem d_Mo_isLess_80 : decode prog_12_method_36_code 80 = .ok (.if_icmp .ge 7, 3) := by decide +kernel
theorem d_Mo_isLess_79 : decode prog_12_method_36_code 79 = .ok (.iaload, 1) := by decide +kernel
theorem d_Mo_isLess_75 : decode prog_12_method_36_code 75 = .ok (.getfield 58, 3) := by decide +kernel
theorem d_Mo_isLess_73 : decode prog_12_method_36_code 73 = .ok (.iaload, 1) := by decide +kernel
theorem d_Mo_isLess_69 : decode prog_12_method_36_code 69 = .ok (.getfield 58, 3) := by decide +kernel
theorem d_Mo_isLess_65 : decode prog_12_method_36_code 65 = .ok (.if_icmp .ne 22, 3) := by decide +kernel
theorem d_Mo_isLess_64 : decode prog_12_method_36_code 64 = .ok (.iaload, 1) := by decide +kernel
theorem d_Mo_isLess_60 : decode prog_12_method_36_code 60 = .ok (.getfield 55, 3) := by decide +kernel
theorem d_Mo_isLess_58 : decode prog_12_method_36_code 58 = .ok (.iaload, 1) := by decide +kernel
theorem d_Mo_isLess_54 : decode prog_12_method_36_code 54 = .ok (.getfield 55, 3) := by decide +kernel
theorem d_Mo_isLess_50 : decode prog_12_method_36_code 50 = .ok (.if_icmp .lt 33, 3) := by decide +kernel
theorem d_Mo_isLess_49 : decode prog_12_method_36_code 49 = .ok (.iaload, 1) := by decide +kernel
theorem d_Mo_isLess_45 : decode prog_12_method_36_code 45 = .ok (.getfield 55, 3) := by decide +kernel
theorem d_Mo_isLess_43 : decode prog_12_method_36_code 43 = .ok (.iaload, 1) := by decide +kernel
theorem d_Mo_isLess_39 : decode prog_12_method_36_code 39 = .ok (.getfield 55, 3) := by decide +kernel
theorem d_Mo_isLess_16 : decode prog_12_method_36_code 16 = .ok (.aload_n 0, 1) := by decide +kernel
theorem d_Mo_isLess_20 : decode prog_12_method_36_code 20 = .ok (.iload_n 1, 1) := by decide +kernel
theorem d_Mo_isLess_22 : decode prog_12_method_36_code 22 = .ok (.aload_n 0, 1) := by decide +kernel
theorem d_Mo_isLess_26 : decode prog_12_method_36_code 26 = .ok (.iload_n 2, 1) := by decide +kernel
theorem d_Mo_isLess_37 : decode prog_12_method_36_code 37 = .ok (.ireturn, 1) := by decide +kernel
theorem d_Mo_isLess_36 : decode prog_12_method_36_code 36 = .ok (.iconst 0, 1) := by decide +kernel
theorem d_Mo_isLess_33 : decode prog_12_method_36_code 33 = .ok (.goto 4, 3) := by decide +kernel
theorem d_Mo_isLess_32 : decode prog_12_method_36_code 32 = .ok (.iconst 1, 1) := by decide +kernel
theorem d_Mo_isLess_29 : decode prog_12_method_36_code 29 = .ok (.ifCond .ge 7, 3) := by decide +kernel
theorem d_Mo_isLess_28 : decode prog_12_method_36_code 28 = .ok (.lcmp, 1) := by decide +kernel
theorem d_Mo_isLess_27 : decode prog_12_method_36_code 27 = .ok (.laload, 1) := by decide +kernel
theorem d_Mo_isLess_23 : decode prog_12_method_36_code 23 = .ok (.getfield 61, 3) := by decide +kernel
theorem d_Mo_isLess_21 : decode prog_12_method_36_code 21 = .ok (.laload, 1) := by decide +kernel
theorem d_Mo_isLess_17 : decode prog_12_method_36_code 17 = .ok (.getfield 61, 3) := by decide +kernel
theorem d_Mo_isLess_13 : decode prog_12_method_36_code 13 = .ok (.ifCond .eq 25, 3) := by decide +kernel
theorem d_Mo_isLess_12 : decode prog_12_method_36_code 12 = .ok (.lcmp, 1) := by decide +kernel
theorem d_Mo_isLess_11 : decode prog_12_method_36_code 11 = .ok (.laload, 1) := by decide +kernel
theorem d_Mo_isLess_7 : decode prog_12_method_36_code 7 = .ok (.getfield 61, 3) := by decide +kernel
theorem d_Mo_isLess_5 : decode prog_12_method_36_code 5 = .ok (.laload, 1) := by decide +kernel
theorem d_Mo_isLess_1 : decode prog_12_method_36_code 1 = .ok (.getfield 61, 3) := by decide +kernel
theorem d_Mo_apart_0 : decode prog_12_method_37_code 0 = .ok (.iload_n 0, 1) := by decide +kernel
theorem d_Mo_apart_1 : decode prog_12_method_37_code 1 = .ok (.iload_n 1, 1) := by decide +kernel
theorem d_Mo_apart_11 : decode prog_12_method_37_code 11 = .ok (.iload_n 1, 1) := by decide +kernel
theorem d_Mo_apart_12 : decode prog_12_method_37_code 12 = .ok (.iload_n 0, 1) := by decide +kernel
theorem d_Mo_apart_14 : decode prog_12_method_37_code 14 = .ok (.ireturn, 1) := by decide +kernel
theorem d_Mo_apart_13 : decode prog_12_method_37_code 13 = .ok (.isub, 1) := by decide +kernel
theorem d_Mo_apart_5 : decode prog_12_method_37_code 5 = .ok (.iload_n 0, 1) := by decide +kernel
theorem d_Mo_apart_6 : decode prog_12_method_37_code 6 = .ok (.iload_n 1, 1) := by decide +kernel
theorem d_Mo_apart_8 : decode prog_12_method_37_code 8 = .ok (.goto 6, 3) := by decide +kernel
theorem d_Mo_apart_7 : decode prog_12_method_37_code 7 = .ok (.isub, 1) := by decide +kernel
theorem d_Mo_apart_2 : decode prog_12_method_37_code 2 = .ok (.if_icmp .le 9, 3) := by decide +kernel
theorem d_Mo_choose_253 : decode prog_12_method_38_code 253 = .ok (.istore 4, 2) := by decide +kernel
theorem d_Mo_choose_255 : decode prog_12_method_38_code 255 = .ok (.iload 4, 2) := by decide +kernel
theorem d_Mo_choose_274 : decode prog_12_method_38_code 274 = .ok (.iload_n 3, 1) := by decide +kernel
theorem d_Mo_choose_275 : decode prog_12_method_38_code 275 = .ok (.ireturn, 1) := by decide +kernel
theorem d_Mo_choose_260 : decode prog_12_method_38_code 260 = .ok (.aload_n 0, 1) := by decide +kernel
theorem d_Mo_choose_264 : decode prog_12_method_38_code 264 = .ok (.iload_n 3, 1) := by decide +kernel
theorem d_Mo_choose_266 : decode prog_12_method_38_code 266 = .ok (.iload_n 2, 1) := by decide +kernel
theorem d_Mo_choose_271 : decode prog_12_method_38_code 271 = .ok (.goto 4, 3) := by decide +kernel
theorem d_Mo_choose_270 : decode prog_12_method_38_code 270 = .ok (.iconst (-1), 1) := by decide +kernel
theorem d_Mo_choose_267 : decode prog_12_method_38_code 267 = .ok (.if_icmp .eq 7, 3) := by decide +kernel
theorem d_Mo_choose_265 : decode prog_12_method_38_code 265 = .ok (.iaload, 1) := by decide +kernel
theorem d_Mo_choose_261 : decode prog_12_method_38_code 261 = .ok (.getfield 55, 3) := by decide +kernel
theorem d_Mo_choose_257 : decode prog_12_method_38_code 257 = .ok (.ifCond .ne 17, 3) := by decide +kernel
theorem d_Mo_choose_252 : decode prog_12_method_38_code 252 = .ok (.iconst 0, 1) := by decide +kernel
theorem d_Mo_choose_249 : decode prog_12_method_38_code 249 = .ok (.goto 4, 3) := by decide +kernel
theorem d_Mo_choose_248 : decode prog_12_method_38_code 248 = .ok (.iconst 1, 1) := by decide +kernel
theorem d_Mo_choose_245 : decode prog_12_method_38_code 245 = .ok (.if_icmp .ne 7, 3) := by decide +kernel
theorem d_Mo_choose_141 : decode prog_12_method_38_code 141 = .ok (.istore 5, 2) := by decide +kernel
theorem d_Mo_choose_143 : decode prog_12_method_38_code 143 = .ok (.iload 5, 2) := by decide +kernel
theorem d_Mo_choose_223 : decode prog_12_method_38_code 223 = .ok (.goto (-137), 3) := by decide +kernel
theorem d_Mo_choose_220 : decode prog_12_method_38_code 220 = .ok (.iinc 4 1, 3) := by decide +kernel
theorem d_Mo_choose_148 : decode prog_12_method_38_code 148 = .ok (.aload_n 0, 1) := by decide +kernel
theorem d_Mo_choose_152 : decode prog_12_method_38_code 152 = .ok (.iload 4, 2) := by decide +kernel
theorem d_Mo_choose_155 : decode prog_12_method_38_code 155 = .ok (.iload_n 2, 1) := by decide +kernel
theorem d_Mo_choose_159 : decode prog_12_method_38_code 159 = .ok (.istore 6, 2) := by decide +kernel
theorem d_Mo_choose_161 : decode prog_12_method_38_code 161 = .ok (.aload_n 0, 1) := by decide +kernel
theorem d_Mo_choose_165 : decode prog_12_method_38_code 165 = .ok (.iload_n 3, 1) := by decide +kernel
theorem d_Mo_choose_167 : decode prog_12_method_38_code 167 = .ok (.iload_n 2, 1) := by decide +kernel
theorem d_Mo_choose_171 : decode prog_12_method_38_code 171 = .ok (.istore 7, 2) := by decide +kernel
theorem d_Mo_choose_173 : decode prog_12_method_38_code 173 = .ok (.iload 6, 2) := by decide +kernel
theorem d_Mo_choose_175 : decode prog_12_method_38_code 175 = .ok (.iload 7, 2) := by decide +kernel
theorem d_Mo_choose_213 : decode prog_12_method_38_code 213 = .ok (.iload 4, 2) := by decide +kernel
theorem d_Mo_choose_219 : decode prog_12_method_38_code 219 = .ok (.istore_n 3, 1) := by decide +kernel
theorem d_Mo_choose_215 : decode prog_12_method_38_code 215 = .ok (.goto 4, 3) := by decide +kernel
theorem d_Mo_choose_180 : decode prog_12_method_38_code 180 = .ok (.iload 6, 2) := by decide +kernel
theorem d_Mo_choose_182 : decode prog_12_method_38_code 182 = .ok (.iload 7, 2) := by decide +kernel
theorem d_Mo_choose_218 : decode prog_12_method_38_code 218 = .ok (.iload_n 3, 1) := by decide +kernel
theorem d_Mo_choose_187 : decode prog_12_method_38_code 187 = .ok (.aload_n 0, 1) := by decide +kernel
theorem d_Mo_choose_191 : decode prog_12_method_38_code 191 = .ok (.iload 4, 2) := by decide +kernel
theorem d_Mo_choose_194 : decode prog_12_method_38_code 194 = .ok (.aload_n 0, 1) := by decide +kernel
theorem d_Mo_choose_198 : decode prog_12_method_38_code 198 = .ok (.iload_n 3, 1) := by decide +kernel
theorem d_Mo_choose_203 : decode prog_12_method_38_code 203 = .ok (.aload_n 0, 1) := by decide +kernel
theorem d_Mo_choose_204 : decode prog_12_method_38_code 204 = .ok (.iload 4, 2) := by decide +kernel
theorem d_Mo_choose_206 : decode prog_12_method_38_code 206 = .ok (.iload_n 3, 1) := by decide +kernel
theorem d_Mo_choose_210 : decode prog_12_method_38_code 210 = .ok (.ifCond .eq 8, 3) := by decide +kernel
theorem d_Mo_choose_207 : decode prog_12_method_38_code 207 = .ok (.invokevirtual 242, 3) := by decide +kernel
theorem d_Mo_choose_200 : decode prog_12_method_38_code 200 = .ok (.if_icmp .ne 18, 3) := by decide +kernel
theorem d_Mo_choose_199 : decode prog_12_method_38_code 199 = .ok (.iaload, 1) := by decide +kernel
theorem d_Mo_choose_195 : decode prog_12_method_38_code 195 = .ok (.getfield 55, 3) := by decide +kernel
theorem d_Mo_choose_193 : decode prog_12_method_38_code 193 = .ok (.iaload, 1) := by decide +kernel
theorem d_Mo_choose_188 : decode prog_12_method_38_code 188 = .ok (.getfield 55, 3) := by decide +kernel
theorem d_Mo_choose_184 : decode prog_12_method_38_code 184 = .ok (.if_icmp .ne 34, 3) := by decide +kernel
theorem d_Mo_choose_177 : decode prog_12_method_38_code 177 = .ok (.if_icmp .lt 36, 3) := by decide +kernel
theorem d_Mo_choose_168 : decode prog_12_method_38_code 168 = .ok (.invokestatic 245, 3) := by decide +kernel
theorem d_Mo_choose_166 : decode prog_12_method_38_code 166 = .ok (.iaload, 1) := by decide +kernel
theorem d_Mo_choose_162 : decode prog_12_method_38_code 162 = .ok (.getfield 55, 3) := by decide +kernel
theorem d_Mo_choose_156 : decode prog_12_method_38_code 156 = .ok (.invokestatic 245, 3) := by decide +kernel
theorem d_Mo_choose_154 : decode prog_12_method_38_code 154 = .ok (.iaload, 1) := by decide +kernel
theorem d_Mo_choose_149 : decode prog_12_method_38_code 149 = .ok (.getfield 55, 3) := by decide +kernel
theorem d_Mo_choose_145 : decode prog_12_method_38_code 145 = .ok (.ifCond .eq 75, 3) := by decide +kernel
theorem d_Mo_choose_140 : decode prog_12_method_38_code 140 = .ok (.iconst 0, 1) := by decide +kernel
theorem d_Mo_choose_86 : decode prog_12_method_38_code 86 = .ok (.iload 4, 2) := by decide +kernel
theorem d_Mo_choose_88 : decode prog_12_method_38_code 88 = .ok (.aload_n 0, 1) := by decide +kernel
theorem d_Mo_choose_226 : decode prog_12_method_38_code 226 = .ok (.aload_n 0, 1) := by decide +kernel
theorem d_Mo_choose_230 : decode prog_12_method_38_code 230 = .ok (.aload_n 0, 1) := by decide +kernel
theorem d_Mo_choose_244 : decode prog_12_method_38_code 244 = .ok (.iconst 2, 1) := by decide +kernel
theorem d_Mo_choose_241 : decode prog_12_method_38_code 241 = .ok (.goto 4, 3) := by decide +kernel
theorem d_Mo_choose_240 : decode prog_12_method_38_code 240 = .ok (.iconst 3, 1) := by decide +kernel
theorem d_Mo_choose_237 : decode prog_12_method_38_code 237 = .ok (.ifCond .le 7, 3) := by decide +kernel
theorem d_Mo_choose_236 : decode prog_12_method_38_code 236 = .ok (.iaload, 1) := by decide +kernel
theorem d_Mo_choose_234 : decode prog_12_method_38_code 234 = .ok (.bipush 8, 2) := by decide +kernel
theorem d_Mo_choose_231 : decode prog_12_method_38_code 231 = .ok (.getfield 34, 3) := by decide +kernel
theorem d_Mo_choose_227 : decode prog_12_method_38_code 227 = .ok (.getfield 147, 3) := by decide +kernel
theorem d_Mo_choose_95 : decode prog_12_method_38_code 95 = .ok (.aload_n 0, 1) := by decide +kernel
theorem d_Mo_choose_99 : decode prog_12_method_38_code 99 = .ok (.iload 4, 2) := by decide +kernel
theorem d_Mo_choose_102 : decode prog_12_method_38_code 102 = .ok (.aload_n 0, 1) := by decide +kernel
theorem d_Mo_choose_109 : decode prog_12_method_38_code 109 = .ok (.aload_n 0, 1) := by decide +kernel
theorem d_Mo_choose_113 : decode prog_12_method_38_code 113 = .ok (.iload 4, 2) := by decide +kernel
theorem d_Mo_choose_116 : decode prog_12_method_38_code 116 = .ok (.aload_n 0, 1) := by decide +kernel
theorem d_Mo_choose_120 : decode prog_12_method_38_code 120 = .ok (.iload_n 1, 1) := by decide +kernel
theorem d_Mo_choose_123 : decode prog_12_method_38_code 123 = .ok (.aload_n 0, 1) := by decide +kernel
theorem d_Mo_choose_127 : decode prog_12_method_38_code 127 = .ok (.iload 4, 2) := by decide +kernel
theorem d_Mo_choose_130 : decode prog_12_method_38_code 130 = .ok (.iload_n 2, 1) := by decide +kernel
theorem d_Mo_choose_137 : decode prog_12_method_38_code 137 = .ok (.goto 4, 3) := by decide +kernel
theorem d_Mo_choose_136 : decode prog_12_method_38_code 136 = .ok (.iconst 1, 1) := by decide +kernel
theorem d_Mo_choose_133 : decode prog_12_method_38_code 133 = .ok (.ifCond .gt 7, 3) := by decide +kernel
theorem d_Mo_choose_132 : decode prog_12_method_38_code 132 = .ok (.imul, 1) := by decide +kernel
theorem d_Mo_choose_131 : decode prog_12_method_38_code 131 = .ok (.isub, 1) := by decide +kernel
theorem d_Mo_choose_129 : decode prog_12_method_38_code 129 = .ok (.iaload, 1) := by decide +kernel
theorem d_Mo_choose_124 : decode prog_12_method_38_code 124 = .ok (.getfield 55, 3) := by decide +kernel
theorem d_Mo_choose_122 : decode prog_12_method_38_code 122 = .ok (.isub, 1) := by decide +kernel
theorem d_Mo_choose_121 : decode prog_12_method_38_code 121 = .ok (.iaload, 1) := by decide +kernel
theorem d_Mo_choose_117 : decode prog_12_method_38_code 117 = .ok (.getfield 55, 3) := by decide +kernel
theorem d_Mo_choose_115 : decode prog_12_method_38_code 115 = .ok (.iaload, 1) := by decide +kernel
theorem d_Mo_choose_110 : decode prog_12_method_38_code 110 = .ok (.getfield 55, 3) := by decide +kernel
theorem d_Mo_choose_106 : decode prog_12_method_38_code 106 = .ok (.if_icmp .ne 34, 3) := by decide +kernel
theorem d_Mo_choose_103 : decode prog_12_method_38_code 103 = .ok (.getfield 144, 3) := by decide +kernel
theorem d_Mo_choose_101 : decode prog_12_method_38_code 101 = .ok (.iaload, 1) := by decide +kernel
theorem d_Mo_choose_96 : decode prog_12_method_38_code 96 = .ok (.getfield 52, 3) := by decide +kernel
theorem d_Mo_choose_92 : decode prog_12_method_38_code 92 = .ok (.if_icmp .gt 134, 3) := by decide +kernel
theorem d_Mo_choose_89 : decode prog_12_method_38_code 89 = .ok (.getfield 210, 3) := by decide +kernel
theorem d_Mo_choose_4 : decode prog_12_method_38_code 4 = .ok (.iload_n 2, 1) := by decide +kernel
theorem d_Mo_choose_5 : decode prog_12_method_38_code 5 = .ok (.aload_n 0, 1) := by decide +kernel
theorem d_Mo_choose_50 : decode prog_12_method_38_code 50 = .ok (.iload_n 1, 1) := by decide +kernel
theorem d_Mo_choose_64 : decode prog_12_method_38_code 64 = .ok (.iload_n 1, 1) := by decide +kernel
theorem d_Mo_choose_65 : decode prog_12_method_38_code 65 = .ok (.ireturn, 1) := by decide +kernel
theorem d_Mo_choose_54 : decode prog_12_method_38_code 54 = .ok (.aload_n 0, 1) := by decide +kernel
theorem d_Mo_choose_66 : decode prog_12_method_38_code 66 = .ok (.aload_n 0, 1) := by decide +kernel
theorem d_Mo_choose_70 : decode prog_12_method_38_code 70 = .ok (.iload_n 1, 1) := by decide +kernel
theorem d_Mo_choose_72 : decode prog_12_method_38_code 72 = .ok (.aload_n 0, 1) := by decide +kernel
theorem d_Mo_choose_80 : decode prog_12_method_38_code 80 = .ok (.istore_n 2, 1) := by decide +kernel
theorem d_Mo_choose_81 : decode prog_12_method_38_code 81 = .ok (.iload_n 1, 1) := by decide +kernel
theorem d_Mo_choose_82 : decode prog_12_method_38_code 82 = .ok (.istore_n 3, 1) := by decide +kernel
theorem d_Mo_choose_84 : decode prog_12_method_38_code 84 = .ok (.istore 4, 2) := by decide +kernel
theorem d_Mo_choose_83 : decode prog_12_method_38_code 83 = .ok (.iconst 1, 1) := by decide +kernel
theorem d_Mo_choose_79 : decode prog_12_method_38_code 79 = .ok (.iadd, 1) := by decide +kernel
theorem d_Mo_choose_78 : decode prog_12_method_38_code 78 = .ok (.iaload, 1) := by decide +kernel
theorem d_Mo_choose_76 : decode prog_12_method_38_code 76 = .ok (.bipush 9, 2) := by decide +kernel
theorem d_Mo_choose_73 : decode prog_12_method_38_code 73 = .ok (.getfield 34, 3) := by decide +kernel
theorem d_Mo_choose_71 : decode prog_12_method_38_code 71 = .ok (.iaload, 1) := by decide +kernel
theorem d_Mo_choose_67 : decode prog_12_method_38_code 67 = .ok (.getfield 55, 3) := by decide +kernel
theorem d_Mo_choose_61 : decode prog_12_method_38_code 61 = .ok (.ifCond .ne 5, 3) := by decide +kernel
theorem d_Mo_choose_60 : decode prog_12_method_38_code 60 = .ok (.iaload, 1) := by decide +kernel
theorem d_Mo_choose_58 : decode prog_12_method_38_code 58 = .ok (.bipush 9, 2) := by decide +kernel
theorem d_Mo_choose_55 : decode prog_12_method_38_code 55 = .ok (.getfield 34, 3) := by decide +kernel
theorem d_Mo_choose_51 : decode prog_12_method_38_code 51 = .ok (.ifCond .lt 13, 3) := by decide +kernel
theorem d_Mo_choose_12 : decode prog_12_method_38_code 12 = .ok (.aload_n 0, 1) := by decide +kernel
theorem d_Mo_choose_16 : decode prog_12_method_38_code 16 = .ok (.iload_n 2, 1) := by decide +kernel
theorem d_Mo_choose_18 : decode prog_12_method_38_code 18 = .ok (.aload_n 0, 1) := by decide +kernel
theorem d_Mo_choose_42 : decode prog_12_method_38_code 42 = .ok (.iload_n 1, 1) := by decide +kernel
theorem d_Mo_choose_43 : decode prog_12_method_38_code 43 = .ok (.istore_n 1, 1) := by decide +kernel
theorem d_Mo_choose_47 : decode prog_12_method_38_code 47 = .ok (.goto (-43), 3) := by decide +kernel
theorem d_Mo_choose_44 : decode prog_12_method_38_code 44 = .ok (.iinc 2 1, 3) := by decide +kernel
theorem d_Mo_choose_25 : decode prog_12_method_38_code 25 = .ok (.iload_n 1, 1) := by decide +kernel
theorem d_Mo_choose_38 : decode prog_12_method_38_code 38 = .ok (.iload_n 2, 1) := by decide +kernel
theorem d_Mo_choose_39 : decode prog_12_method_38_code 39 = .ok (.goto 4, 3) := by decide +kernel
theorem d_Mo_choose_29 : decode prog_12_method_38_code 29 = .ok (.aload_n 0, 1) := by decide +kernel
theorem d_Mo_choose_30 : decode prog_12_method_38_code 30 = .ok (.iload_n 2, 1) := by decide +kernel
theorem d_Mo_choose_31 : decode prog_12_method_38_code 31 = .ok (.iload_n 1, 1) := by decide +kernel
theorem d_Mo_choose_35 : decode prog_12_method_38_code 35 = .ok (.ifCond .eq 7, 3) := by decide +kernel
theorem d_Mo_choose_32 : decode prog_12_method_38_code 32 = .ok (.invokevirtual 242, 3) := by decide +kernel
theorem d_Mo_choose_26 : decode prog_12_method_38_code 26 = .ok (.ifCond .lt 12, 3) := by decide +kernel
theorem d_Mo_choose_22 : decode prog_12_method_38_code 22 = .ok (.if_icmp .ne 20, 3) := by decide +kernel
theorem d_Mo_choose_19 : decode prog_12_method_38_code 19 = .ok (.getfield 144, 3) := by decide +kernel
theorem d_Mo_choose_17 : decode prog_12_method_38_code 17 = .ok (.iaload, 1) := by decide +kernel
theorem d_Mo_choose_13 : decode prog_12_method_38_code 13 = .ok (.getfield 52, 3) := by decide +kernel
theorem d_Mo_choose_9 : decode prog_12_method_38_code 9 = .ok (.if_icmp .gt 41, 3) := by decide +kernel
theorem d_Mo_choose_6 : decode prog_12_method_38_code 6 = .ok (.getfield 210, 3) := by decide +kernel
theorem d_Mo_choose_1 : decode prog_12_method_38_code 1 = .ok (.istore_n 1, 1) := by decide +kernel
theorem d_Mo_choose_3 : decode prog_12_method_38_code 3 = .ok (.istore_n 2, 1) := by decide +kernel
theorem d_Mo_choose_2 : decode prog_12_method_38_code 2 = .ok (.iconst 1, 1) := by decide +kernel
theorem d_Mo_choose_0 : decode prog_12_method_38_code 0 = .ok (.iconst (-1), 1) := by decide +kernel
theorem d_Mo_tell_28 : decode prog_12_method_39_code 28 = .ok (.iload_n 2, 1) := by decide +kernel
theorem d_Mo_tell_141 : decode prog_12_method_39_code 141 = .ok (.aload_n 0, 1) := by decide +kernel
theorem d_Mo_tell_145 : decode prog_12_method_39_code 145 = .ok (.ireturn, 1) := by decide +kernel
theorem d_Mo_tell_142 : decode prog_12_method_39_code 142 = .ok (.getfield 252, 3) := by decide +kernel
theorem d_Mo_tell_32 : decode prog_12_method_39_code 32 = .ok (.aload_n 0, 1) := by decide +kernel
theorem d_Mo_tell_36 : decode prog_12_method_39_code 36 = .ok (.iload_n 2, 1) := by decide +kernel
theorem d_Mo_tell_40 : decode prog_12_method_39_code 40 = .ok (.istore_n 3, 1) := by decide +kernel
theorem d_Mo_tell_41 : decode prog_12_method_39_code 41 = .ok (.aload_n 0, 1) := by decide +kernel
theorem d_Mo_tell_42 : decode prog_12_method_39_code 42 = .ok (.aload_n 0, 1) := by decide +kernel
theorem d_Mo_tell_46 : decode prog_12_method_39_code 46 = .ok (.aload_n 0, 1) := by decide +kernel
theorem d_Mo_tell_50 : decode prog_12_method_39_code 50 = .ok (.iload_n 2, 1) := by decide +kernel
theorem d_Mo_tell_53 : decode prog_12_method_39_code 53 = .ok (.aload_n 0, 1) := by decide +kernel
theorem d_Mo_tell_57 : decode prog_12_method_39_code 57 = .ok (.iload_n 2, 1) := by decide +kernel
theorem d_Mo_tell_62 : decode prog_12_method_39_code 62 = .ok (.aload_n 0, 1) := by decide +kernel
theorem d_Mo_tell_63 : decode prog_12_method_39_code 63 = .ok (.iload_n 3, 1) := by decide +kernel
theorem d_Mo_tell_67 : decode prog_12_method_39_code 67 = .ok (.aload_n 0, 1) := by decide +kernel
theorem d_Mo_tell_71 : decode prog_12_method_39_code 71 = .ok (.iload_n 3, 1) := by decide +kernel
theorem d_Mo_tell_72 : decode prog_12_method_39_code 72 = .ok (.aload_n 0, 1) := by decide +kernel
theorem d_Mo_tell_76 : decode prog_12_method_39_code 76 = .ok (.iload_n 2, 1) := by decide +kernel
theorem d_Mo_tell_79 : decode prog_12_method_39_code 79 = .ok (.aload_n 0, 1) := by decide +kernel
theorem d_Mo_tell_83 : decode prog_12_method_39_code 83 = .ok (.iload_n 3, 1) := by decide +kernel
theorem d_Mo_tell_84 : decode prog_12_method_39_code 84 = .ok (.aload_n 0, 1) := by decide +kernel
theorem d_Mo_tell_89 : decode prog_12_method_39_code 89 = .ok (.aload_n 0, 1) := by decide +kernel
theorem d_Mo_tell_93 : decode prog_12_method_39_code 93 = .ok (.iload_n 3, 1) := by decide +kernel
theorem d_Mo_tell_94 : decode prog_12_method_39_code 94 = .ok (.aload_n 0, 1) := by decide +kernel
theorem d_Mo_tell_99 : decode prog_12_method_39_code 99 = .ok (.aload_n 0, 1) := by decide +kernel
theorem d_Mo_tell_103 : decode prog_12_method_39_code 103 = .ok (.iload_n 3, 1) := by decide +kernel
theorem d_Mo_tell_104 : decode prog_12_method_39_code 104 = .ok (.aload_n 0, 1) := by decide +kernel
theorem d_Mo_tell_109 : decode prog_12_method_39_code 109 = .ok (.aload_n 0, 1) := by decide +kernel
theorem d_Mo_tell_113 : decode prog_12_method_39_code 113 = .ok (.iload_n 3, 1) := by decide +kernel
theorem d_Mo_tell_114 : decode prog_12_method_39_code 114 = .ok (.aload_n 0, 1) := by decide +kernel
theorem d_Mo_tell_119 : decode prog_12_method_39_code 119 = .ok (.aload_n 0, 1) := by decide +kernel
theorem d_Mo_tell_123 : decode prog_12_method_39_code 123 = .ok (.iload_n 3, 1) := by decide +kernel
theorem d_Mo_tell_124 : decode prog_12_method_39_code 124 = .ok (.aload_n 0, 1) := by decide +kernel
theorem d_Mo_tell_128 : decode prog_12_method_39_code 128 = .ok (.iload_n 2, 1) := by decide +kernel
theorem d_Mo_tell_131 : decode prog_12_method_39_code 131 = .ok (.aload_n 0, 1) := by decide +kernel
theorem d_Mo_tell_135 : decode prog_12_method_39_code 135 = .ok (.iload_n 2, 1) := by decide +kernel
theorem d_Mo_tell_137 : decode prog_12_method_39_code 137 = .ok (.istore_n 2, 1) := by decide +kernel
theorem d_Mo_tell_138 : decode prog_12_method_39_code 138 = .ok (.goto (-110), 3) := by decide +kernel
theorem d_Mo_tell_136 : decode prog_12_method_39_code 136 = .ok (.iaload, 1) := by decide +kernel
theorem d_Mo_tell_132 : decode prog_12_method_39_code 132 = .ok (.getfield 65, 3) := by decide +kernel
theorem d_Mo_tell_130 : decode prog_12_method_39_code 130 = .ok (.lastore, 1) := by decide +kernel
theorem d_Mo_tell_129 : decode prog_12_method_39_code 129 = .ok (.laload, 1) := by decide +kernel
theorem d_Mo_tell_125 : decode prog_12_method_39_code 125 = .ok (.getfield 61, 3) := by decide +kernel
theorem d_Mo_tell_120 : decode prog_12_method_39_code 120 = .ok (.getfield 90, 3) := by decide +kernel
theorem d_Mo_tell_118 : decode prog_12_method_39_code 118 = .ok (.iastore, 1) := by decide +kernel
theorem d_Mo_tell_115 : decode prog_12_method_39_code 115 = .ok (.getfield 197, 3) := by decide +kernel
theorem d_Mo_tell_110 : decode prog_12_method_39_code 110 = .ok (.getfield 87, 3) := by decide +kernel
theorem d_Mo_tell_108 : decode prog_12_method_39_code 108 = .ok (.iastore, 1) := by decide +kernel
theorem d_Mo_tell_105 : decode prog_12_method_39_code 105 = .ok (.getfield 194, 3) := by decide +kernel
theorem d_Mo_tell_100 : decode prog_12_method_39_code 100 = .ok (.getfield 84, 3) := by decide +kernel
theorem d_Mo_tell_98 : decode prog_12_method_39_code 98 = .ok (.iastore, 1) := by decide +kernel
theorem d_Mo_tell_95 : decode prog_12_method_39_code 95 = .ok (.getfield 187, 3) := by decide +kernel
theorem d_Mo_tell_90 : decode prog_12_method_39_code 90 = .ok (.getfield 81, 3) := by decide +kernel
theorem d_Mo_tell_88 : decode prog_12_method_39_code 88 = .ok (.iastore, 1) := by decide +kernel
theorem d_Mo_tell_85 : decode prog_12_method_39_code 85 = .ok (.getfield 172, 3) := by decide +kernel
theorem d_Mo_tell_80 : decode prog_12_method_39_code 80 = .ok (.getfield 78, 3) := by decide +kernel
theorem d_Mo_tell_78 : decode prog_12_method_39_code 78 = .ok (.iastore, 1) := by decide +kernel
theorem d_Mo_tell_77 : decode prog_12_method_39_code 77 = .ok (.iaload, 1) := by decide +kernel
theorem d_Mo_tell_73 : decode prog_12_method_39_code 73 = .ok (.getfield 52, 3) := by decide +kernel
theorem d_Mo_tell_68 : decode prog_12_method_39_code 68 = .ok (.getfield 75, 3) := by decide +kernel
theorem d_Mo_tell_64 : decode prog_12_method_39_code 64 = .ok (.invokevirtual 225, 3) := by decide +kernel
theorem d_Mo_tell_59 : decode prog_12_method_39_code 59 = .ok (.invokevirtual 221, 3) := by decide +kernel
theorem d_Mo_tell_58 : decode prog_12_method_39_code 58 = .ok (.iaload, 1) := by decide +kernel
theorem d_Mo_tell_54 : decode prog_12_method_39_code 54 = .ok (.getfield 52, 3) := by decide +kernel
theorem d_Mo_tell_52 : decode prog_12_method_39_code 52 = .ok (.iaload, 1) := by decide +kernel
theorem d_Mo_tell_51 : decode prog_12_method_39_code 51 = .ok (.iaload, 1) := by decide +kernel
theorem d_Mo_tell_47 : decode prog_12_method_39_code 47 = .ok (.getfield 65, 3) := by decide +kernel
theorem d_Mo_tell_43 : decode prog_12_method_39_code 43 = .ok (.getfield 52, 3) := by decide +kernel
theorem d_Mo_tell_39 : decode prog_12_method_39_code 39 = .ok (.isub, 1) := by decide +kernel
theorem d_Mo_tell_38 : decode prog_12_method_39_code 38 = .ok (.iconst 1, 1) := by decide +kernel
theorem d_Mo_tell_37 : decode prog_12_method_39_code 37 = .ok (.iaload, 1) := by decide +kernel
theorem d_Mo_tell_33 : decode prog_12_method_39_code 33 = .ok (.getfield 55, 3) := by decide +kernel
theorem d_Mo_tell_29 : decode prog_12_method_39_code 29 = .ok (.ifCond .le 112, 3) := by decide +kernel
theorem d_Mo_tell_0 : decode prog_12_method_39_code 0 = .ok (.aload_n 0, 1) := by decide +kernel
theorem d_Mo_tell_1 : decode prog_12_method_39_code 1 = .ok (.aload_n 0, 1) := by decide +kernel
theorem d_Mo_tell_8 : decode prog_12_method_39_code 8 = .ok (.aload_n 0, 1) := by decide +kernel
theorem d_Mo_tell_9 : decode prog_12_method_39_code 9 = .ok (.aload_n 0, 1) := by decide +kernel
theorem d_Mo_tell_16 : decode prog_12_method_39_code 16 = .ok (.aload_n 0, 1) := by decide +kernel
theorem d_Mo_tell_17 : decode prog_12_method_39_code 17 = .ok (.aload_n 0, 1) := by decide +kernel
theorem d_Mo_tell_21 : decode prog_12_method_39_code 21 = .ok (.iload_n 1, 1) := by decide +kernel
theorem d_Mo_tell_26 : decode prog_12_method_39_code 26 = .ok (.iload_n 1, 1) := by decide +kernel
theorem d_Mo_tell_27 : decode prog_12_method_39_code 27 = .ok (.istore_n 2, 1) := by decide +kernel
theorem d_Mo_tell_23 : decode prog_12_method_39_code 23 = .ok (.putfield 252, 3) := by decide +kernel
theorem d_Mo_tell_22 : decode prog_12_method_39_code 22 = .ok (.iaload, 1) := by decide +kernel
theorem d_Mo_tell_18 : decode prog_12_method_39_code 18 = .ok (.getfield 55, 3) := by decide +kernel
theorem d_Mo_tell_13 : decode prog_12_method_39_code 13 = .ok (.putfield 249, 3) := by decide +kernel
theorem d_Mo_tell_10 : decode prog_12_method_39_code 10 = .ok (.getfield 210, 3) := by decide +kernel
theorem d_Mo_tell_5 : decode prog_12_method_39_code 5 = .ok (.putfield 106, 3) := by decide +kernel
theorem d_Mo_tell_2 : decode prog_12_method_39_code 2 = .ok (.getfield 147, 3) := by decide +kernel
theorem d_Mo_without_0 : decode prog_12_method_40_code 0 = .ok (.iload_n 0, 1) := by decide +kernel
theorem d_Mo_without_10 : decode prog_12_method_40_code 10 = .ok (.iload_n 0, 1) := by decide +kernel
theorem d_Mo_without_20 : decode prog_12_method_40_code 20 = .ok (.iload_n 0, 1) := by decide +kernel
theorem d_Mo_without_22 : decode prog_12_method_40_code 22 = .ok (.lreturn, 1) := by decide +kernel
theorem d_Mo_without_21 : decode prog_12_method_40_code 21 = .ok (.i2l, 1) := by decide +kernel
theorem d_Mo_without_14 : decode prog_12_method_40_code 14 = .ok (.iload_n 0, 1) := by decide +kernel
theorem d_Mo_without_17 : decode prog_12_method_40_code 17 = .ok (.goto 5, 3) := by decide +kernel
theorem d_Mo_without_16 : decode prog_12_method_40_code 16 = .ok (.lneg, 1) := by decide +kernel
theorem d_Mo_without_15 : decode prog_12_method_40_code 15 = .ok (.i2l, 1) := by decide +kernel
theorem d_Mo_without_11 : decode prog_12_method_40_code 11 = .ok (.ifCond .ge 9, 3) := by decide +kernel
theorem d_Mo_without_7 : decode prog_12_method_40_code 7 = .ok (.goto 15, 3) := by decide +kernel
theorem d_Mo_without_6 : decode prog_12_method_40_code 6 = .ok (.lconst 0, 1) := by decide +kernel
theorem d_Mo_without_3 : decode prog_12_method_40_code 3 = .ok (.if_icmp .ne 7, 3) := by decide +kernel
theorem d_Mo_without_1 : decode prog_12_method_40_code 1 = .ok (.ldc 129, 2) := by decide +kernel
theorem d_Mo_fitsInSizes_115 : decode prog_12_method_41_code 115 = .ok (.iload 7, 2) := by decide +kernel
theorem d_Mo_fitsInSizes_164 : decode prog_12_method_41_code 164 = .ok (.lload_n 1, 1) := by decide +kernel
theorem d_Mo_fitsInSizes_191 : decode prog_12_method_41_code 191 = .ok (.ireturn, 1) := by decide +kernel
theorem d_Mo_fitsInSizes_190 : decode prog_12_method_41_code 190 = .ok (.iconst 0, 1) := by decide +kernel
theorem d_Mo_fitsInSizes_171 : decode prog_12_method_41_code 171 = .ok (.lload_n 3, 1) := by decide +kernel
theorem d_Mo_fitsInSizes_178 : decode prog_12_method_41_code 178 = .ok (.lload 5, 2) := by decide +kernel
theorem d_Mo_fitsInSizes_187 : decode prog_12_method_41_code 187 = .ok (.goto 4, 3) := by decide +kernel
theorem d_Mo_fitsInSizes_186 : decode prog_12_method_41_code 186 = .ok (.iconst 1, 1) := by decide +kernel
theorem d_Mo_fitsInSizes_183 : decode prog_12_method_41_code 183 = .ok (.ifCond .eq 7, 3) := by decide +kernel
theorem d_Mo_fitsInSizes_180 : decode prog_12_method_41_code 180 = .ok (.invokestatic 109, 3) := by decide +kernel
theorem d_Mo_fitsInSizes_175 : decode prog_12_method_41_code 175 = .ok (.ifCond .eq 15, 3) := by decide +kernel
theorem d_Mo_fitsInSizes_172 : decode prog_12_method_41_code 172 = .ok (.invokestatic 109, 3) := by decide +kernel
theorem d_Mo_fitsInSizes_168 : decode prog_12_method_41_code 168 = .ok (.ifCond .eq 22, 3) := by decide +kernel
theorem d_Mo_fitsInSizes_165 : decode prog_12_method_41_code 165 = .ok (.invokestatic 109, 3) := by decide +kernel
theorem d_Mo_fitsInSizes_121 : decode prog_12_method_41_code 121 = .ok (.lload_n 1, 1) := by decide +kernel
theorem d_Mo_fitsInSizes_122 : decode prog_12_method_41_code 122 = .ok (.aload_n 0, 1) := by decide +kernel
theorem d_Mo_fitsInSizes_126 : decode prog_12_method_41_code 126 = .ok (.iload 7, 2) := by decide +kernel
theorem d_Mo_fitsInSizes_133 : decode prog_12_method_41_code 133 = .ok (.lstore_n 1, 1) := by decide +kernel
theorem d_Mo_fitsInSizes_134 : decode prog_12_method_41_code 134 = .ok (.lload_n 3, 1) := by decide +kernel
theorem d_Mo_fitsInSizes_135 : decode prog_12_method_41_code 135 = .ok (.aload_n 0, 1) := by decide +kernel
theorem d_Mo_fitsInSizes_139 : decode prog_12_method_41_code 139 = .ok (.iload 7, 2) := by decide +kernel
theorem d_Mo_fitsInSizes_144 : decode prog_12_method_41_code 144 = .ok (.lstore_n 3, 1) := by decide +kernel
theorem d_Mo_fitsInSizes_145 : decode prog_12_method_41_code 145 = .ok (.lload 5, 2) := by decide +kernel
theorem d_Mo_fitsInSizes_147 : decode prog_12_method_41_code 147 = .ok (.aload_n 0, 1) := by decide +kernel
theorem d_Mo_fitsInSizes_151 : decode prog_12_method_41_code 151 = .ok (.iload 7, 2) := by decide +kernel
theorem d_Mo_fitsInSizes_156 : decode prog_12_method_41_code 156 = .ok (.lstore 5, 2) := by decide +kernel
theorem d_Mo_fitsInSizes_161 : decode prog_12_method_41_code 161 = .ok (.goto (-46), 3) := by decide +kernel
theorem d_Mo_fitsInSizes_158 : decode prog_12_method_41_code 158 = .ok (.iinc 7 1, 3) := by decide +kernel
theorem d_Mo_fitsInSizes_155 : decode prog_12_method_41_code 155 = .ok (.ladd, 1) := by decide +kernel
theorem d_Mo_fitsInSizes_154 : decode prog_12_method_41_code 154 = .ok (.i2l, 1) := by decide +kernel
theorem d_Mo_fitsInSizes_153 : decode prog_12_method_41_code 153 = .ok (.iaload, 1) := by decide +kernel
theorem d_Mo_fitsInSizes_148 : decode prog_12_method_41_code 148 = .ok (.getfield 49, 3) := by decide +kernel
theorem d_Mo_fitsInSizes_143 : decode prog_12_method_41_code 143 = .ok (.ladd, 1) := by decide +kernel
theorem d_Mo_fitsInSizes_142 : decode prog_12_method_41_code 142 = .ok (.i2l, 1) := by decide +kernel
theorem d_Mo_fitsInSizes_141 : decode prog_12_method_41_code 141 = .ok (.iaload, 1) := by decide +kernel
theorem d_Mo_fitsInSizes_136 : decode prog_12_method_41_code 136 = .ok (.getfield 43, 3) := by decide +kernel
theorem d_Mo_fitsInSizes_132 : decode prog_12_method_41_code 132 = .ok (.ladd, 1) := by decide +kernel
theorem d_Mo_fitsInSizes_129 : decode prog_12_method_41_code 129 = .ok (.invokestatic 255, 3) := by decide +kernel
theorem d_Mo_fitsInSizes_128 : decode prog_12_method_41_code 128 = .ok (.iaload, 1) := by decide +kernel
theorem d_Mo_fitsInSizes_123 : decode prog_12_method_41_code 123 = .ok (.getfield 40, 3) := by decide +kernel
theorem d_Mo_fitsInSizes_118 : decode prog_12_method_41_code 118 = .ok (.if_icmp .ge 46, 3) := by decide +kernel
theorem d_Mo_fitsInSizes_117 : decode prog_12_method_41_code 117 = .ok (.iconst 3, 1) := by decide +kernel
theorem d_Mo_fitsInSizes_81 : decode prog_12_method_41_code 81 = .ok (.lstore_n 1, 1) := by decide +kernel
theorem d_Mo_fitsInSizes_82 : decode prog_12_method_41_code 82 = .ok (.lload_n 3, 1) := by decide +kernel
theorem d_Mo_fitsInSizes_83 : decode prog_12_method_41_code 83 = .ok (.aload_n 0, 1) := by decide +kernel
theorem d_Mo_fitsInSizes_87 : decode prog_12_method_41_code 87 = .ok (.iload 7, 2) := by decide +kernel
theorem d_Mo_fitsInSizes_92 : decode prog_12_method_41_code 92 = .ok (.lstore_n 3, 1) := by decide +kernel
theorem d_Mo_fitsInSizes_93 : decode prog_12_method_41_code 93 = .ok (.lload 5, 2) := by decide +kernel
theorem d_Mo_fitsInSizes_95 : decode prog_12_method_41_code 95 = .ok (.aload_n 0, 1) := by decide +kernel
theorem d_Mo_fitsInSizes_99 : decode prog_12_method_41_code 99 = .ok (.iload 7, 2) := by decide +kernel
theorem d_Mo_fitsInSizes_104 : decode prog_12_method_41_code 104 = .ok (.lstore 5, 2) := by decide +kernel
theorem d_Mo_fitsInSizes_109 : decode prog_12_method_41_code 109 = .ok (.goto (-92), 3) := by decide +kernel
theorem d_Mo_fitsInSizes_106 : decode prog_12_method_41_code 106 = .ok (.iinc 7 1, 3) := by decide +kernel
theorem d_Mo_fitsInSizes_103 : decode prog_12_method_41_code 103 = .ok (.ladd, 1) := by decide +kernel
theorem d_Mo_fitsInSizes_102 : decode prog_12_method_41_code 102 = .ok (.i2l, 1) := by decide +kernel
theorem d_Mo_fitsInSizes_101 : decode prog_12_method_41_code 101 = .ok (.iaload, 1) := by decide +kernel
theorem d_Mo_fitsInSizes_96 : decode prog_12_method_41_code 96 = .ok (.getfield 22, 3) := by decide +kernel
theorem d_Mo_fitsInSizes_91 : decode prog_12_method_41_code 91 = .ok (.ladd, 1) := by decide +kernel
theorem d_Mo_fitsInSizes_90 : decode prog_12_method_41_code 90 = .ok (.i2l, 1) := by decide +kernel
theorem d_Mo_fitsInSizes_89 : decode prog_12_method_41_code 89 = .ok (.iaload, 1) := by decide +kernel
theorem d_Mo_fitsInSizes_84 : decode prog_12_method_41_code 84 = .ok (.getfield 16, 3) := by decide +kernel
theorem d_Mo_fitsInSizes_53 : decode prog_12_method_41_code 53 = .ok (.lstore_n 1, 1) := by decide +kernel
theorem d_Mo_fitsInSizes_54 : decode prog_12_method_41_code 54 = .ok (.aload_n 0, 1) := by decide +kernel
theorem d_Mo_fitsInSizes_58 : decode prog_12_method_41_code 58 = .ok (.iload 7, 2) := by decide +kernel
theorem d_Mo_fitsInSizes_80 : decode prog_12_method_41_code 80 = .ok (.lload_n 1, 1) := by decide +kernel
theorem d_Mo_fitsInSizes_65 : decode prog_12_method_41_code 65 = .ok (.lload_n 1, 1) := by decide +kernel
theorem d_Mo_fitsInSizes_66 : decode prog_12_method_41_code 66 = .ok (.aload_n 0, 1) := by decide +kernel
theorem d_Mo_fitsInSizes_70 : decode prog_12_method_41_code 70 = .ok (.iload 7, 2) := by decide +kernel
theorem d_Mo_fitsInSizes_77 : decode prog_12_method_41_code 77 = .ok (.goto 4, 3) := by decide +kernel
theorem d_Mo_fitsInSizes_76 : decode prog_12_method_41_code 76 = .ok (.ladd, 1) := by decide +kernel
theorem d_Mo_fitsInSizes_73 : decode prog_12_method_41_code 73 = .ok (.invokestatic 255, 3) := by decide +kernel
theorem d_Mo_fitsInSizes_72 : decode prog_12_method_41_code 72 = .ok (.iaload, 1) := by decide +kernel
theorem d_Mo_fitsInSizes_67 : decode prog_12_method_41_code 67 = .ok (.getfield 28, 3) := by decide +kernel
theorem d_Mo_fitsInSizes_62 : decode prog_12_method_41_code 62 = .ok (.if_icmp .ne 18, 3) := by decide +kernel
theorem d_Mo_fitsInSizes_61 : decode prog_12_method_41_code 61 = .ok (.iconst 5, 1) := by decide +kernel
theorem d_Mo_fitsInSizes_60 : decode prog_12_method_41_code 60 = .ok (.iaload, 1) := by decide +kernel
theorem d_Mo_fitsInSizes_55 : decode prog_12_method_41_code 55 = .ok (.getfield 7, 3) := by decide +kernel
theorem d_Mo_fitsInSizes_17 : decode prog_12_method_41_code 17 = .ok (.iload 7, 2) := by decide +kernel
theorem d_Mo_fitsInSizes_19 : decode prog_12_method_41_code 19 = .ok (.aload_n 0, 1) := by decide +kernel
theorem d_Mo_fitsInSizes_113 : decode prog_12_method_41_code 113 = .ok (.istore 7, 2) := by decide +kernel
theorem d_Mo_fitsInSizes_112 : decode prog_12_method_41_code 112 = .ok (.iconst 0, 1) := by decide +kernel
theorem d_Mo_fitsInSizes_26 : decode prog_12_method_41_code 26 = .ok (.aload_n 0, 1) := by decide +kernel
theorem d_Mo_fitsInSizes_30 : decode prog_12_method_41_code 30 = .ok (.iload 7, 2) := by decide +kernel
theorem d_Mo_fitsInSizes_41 : decode prog_12_method_41_code 41 = .ok (.lload_n 1, 1) := by decide +kernel
theorem d_Mo_fitsInSizes_42 : decode prog_12_method_41_code 42 = .ok (.aload_n 0, 1) := by decide +kernel
theorem d_Mo_fitsInSizes_46 : decode prog_12_method_41_code 46 = .ok (.iload 7, 2) := by decide +kernel
theorem d_Mo_fitsInSizes_52 : decode prog_12_method_41_code 52 = .ok (.ladd, 1) := by decide +kernel
theorem d_Mo_fitsInSizes_49 : decode prog_12_method_41_code 49 = .ok (.invokestatic 255, 3) := by decide +kernel
theorem d_Mo_fitsInSizes_48 : decode prog_12_method_41_code 48 = .ok (.iaload, 1) := by decide +kernel
theorem d_Mo_fitsInSizes_43 : decode prog_12_method_41_code 43 = .ok (.getfield 13, 3) := by decide +kernel
theorem d_Mo_fitsInSizes_37 : decode prog_12_method_41_code 37 = .ok (.lload_n 1, 1) := by decide +kernel
theorem d_Mo_fitsInSizes_38 : decode prog_12_method_41_code 38 = .ok (.goto 15, 3) := by decide +kernel
theorem d_Mo_fitsInSizes_34 : decode prog_12_method_41_code 34 = .ok (.if_icmp .ne 7, 3) := by decide +kernel
theorem d_Mo_fitsInSizes_33 : decode prog_12_method_41_code 33 = .ok (.iconst 4, 1) := by decide +kernel
theorem d_Mo_fitsInSizes_32 : decode prog_12_method_41_code 32 = .ok (.iaload, 1) := by decide +kernel
theorem d_Mo_fitsInSizes_27 : decode prog_12_method_41_code 27 = .ok (.getfield 7, 3) := by decide +kernel
theorem d_Mo_fitsInSizes_23 : decode prog_12_method_41_code 23 = .ok (.if_icmp .ge 89, 3) := by decide +kernel
theorem d_Mo_fitsInSizes_20 : decode prog_12_method_41_code 20 = .ok (.getfield 103, 3) := by decide +kernel
theorem d_Mo_fitsInSizes_1 : decode prog_12_method_41_code 1 = .ok (.lstore_n 1, 1) := by decide +kernel
theorem d_Mo_fitsInSizes_2 : decode prog_12_method_41_code 2 = .ok (.aload_n 0, 1) := by decide +kernel
theorem d_Mo_fitsInSizes_10 : decode prog_12_method_41_code 10 = .ok (.lstore_n 3, 1) := by decide +kernel
theorem d_Mo_fitsInSizes_12 : decode prog_12_method_41_code 12 = .ok (.lstore 5, 2) := by decide +kernel
theorem d_Mo_fitsInSizes_15 : decode prog_12_method_41_code 15 = .ok (.istore 7, 2) := by decide +kernel
theorem d_Mo_fitsInSizes_14 : decode prog_12_method_41_code 14 = .ok (.iconst 0, 1) := by decide +kernel
theorem d_Mo_fitsInSizes_11 : decode prog_12_method_41_code 11 = .ok (.lconst 0, 1) := by decide +kernel
theorem d_Mo_fitsInSizes_9 : decode prog_12_method_41_code 9 = .ok (.i2l, 1) := by decide +kernel
theorem d_Mo_fitsInSizes_8 : decode prog_12_method_41_code 8 = .ok (.iaload, 1) := by decide +kernel
theorem d_Mo_fitsInSizes_6 : decode prog_12_method_41_code 6 = .ok (.bipush 8, 2) := by decide +kernel
theorem d_Mo_fitsInSizes_3 : decode prog_12_method_41_code 3 = .ok (.getfield 34, 3) := by decide +kernel
theorem d_Mo_fitsInSizes_0 : decode prog_12_method_41_code 0 = .ok (.lconst 0, 1) := by decide +kernel
theorem d_Mo_breakUp_349 : decode prog_12_method_42_code 349 = .ok (.aload_n 0, 1) := by decide +kernel
theorem d_Mo_breakUp_350 : decode prog_12_method_42_code 350 = .ok (.iload_n 2, 1) := by decide +kernel
theorem d_Mo_breakUp_354 : decode prog_12_method_42_code 354 = .ok (.aload_n 0, 1) := by decide +kernel
theorem d_Mo_breakUp_358 : decode prog_12_method_42_code 358 = .ok (.iload_n 3, 1) := by decide +kernel
theorem d_Mo_breakUp_359 : decode prog_12_method_42_code 359 = .ok (.iload 4, 2) := by decide +kernel
theorem d_Mo_breakUp_362 : decode prog_12_method_42_code 362 = .ok (.aload_n 0, 1) := by decide +kernel
theorem d_Mo_breakUp_366 : decode prog_12_method_42_code 366 = .ok (.iload_n 3, 1) := by decide +kernel
theorem d_Mo_breakUp_367 : decode prog_12_method_42_code 367 = .ok (.iload 5, 2) := by decide +kernel
theorem d_Mo_breakUp_370 : decode prog_12_method_42_code 370 = .ok (.aload_n 0, 1) := by decide +kernel
theorem d_Mo_breakUp_374 : decode prog_12_method_42_code 374 = .ok (.iload_n 3, 1) := by decide +kernel
theorem d_Mo_breakUp_375 : decode prog_12_method_42_code 375 = .ok (.iload 6, 2) := by decide +kernel
theorem d_Mo_breakUp_378 : decode prog_12_method_42_code 378 = .ok (.aload_n 0, 1) := by decide +kernel
theorem d_Mo_breakUp_382 : decode prog_12_method_42_code 382 = .ok (.iload_n 3, 1) := by decide +kernel
theorem d_Mo_breakUp_383 : decode prog_12_method_42_code 383 = .ok (.iload 7, 2) := by decide +kernel
theorem d_Mo_breakUp_386 : decode prog_12_method_42_code 386 = .ok (.aload_n 0, 1) := by decide +kernel
theorem d_Mo_breakUp_390 : decode prog_12_method_42_code 390 = .ok (.iload_n 3, 1) := by decide +kernel
theorem d_Mo_breakUp_391 : decode prog_12_method_42_code 391 = .ok (.iload 8, 2) := by decide +kernel
theorem d_Mo_breakUp_394 : decode prog_12_method_42_code 394 = .ok (.iload 10, 2) := by decide +kernel
theorem d_Mo_breakUp_396 : decode prog_12_method_42_code 396 = .ok (.ireturn, 1) := by decide +kernel
theorem d_Mo_breakUp_393 : decode prog_12_method_42_code 393 = .ok (.iastore, 1) := by decide +kernel
theorem d_Mo_breakUp_387 : decode prog_12_method_42_code 387 = .ok (.getfield 22, 3) := by decide +kernel
theorem d_Mo_breakUp_385 : decode prog_12_method_42_code 385 = .ok (.iastore, 1) := by decide +kernel
theorem d_Mo_breakUp_379 : decode prog_12_method_42_code 379 = .ok (.getfield 19, 3) := by decide +kernel
theorem d_Mo_breakUp_377 : decode prog_12_method_42_code 377 = .ok (.iastore, 1) := by decide +kernel
theorem d_Mo_breakUp_371 : decode prog_12_method_42_code 371 = .ok (.getfield 16, 3) := by decide +kernel
theorem d_Mo_breakUp_369 : decode prog_12_method_42_code 369 = .ok (.iastore, 1) := by decide +kernel
theorem d_Mo_breakUp_363 : decode prog_12_method_42_code 363 = .ok (.getfield 13, 3) := by decide +kernel
theorem d_Mo_breakUp_361 : decode prog_12_method_42_code 361 = .ok (.iastore, 1) := by decide +kernel
theorem d_Mo_breakUp_355 : decode prog_12_method_42_code 355 = .ok (.getfield 7, 3) := by decide +kernel
theorem d_Mo_breakUp_351 : decode prog_12_method_42_code 351 = .ok (.putfield 103, 3) := by decide +kernel
theorem d_Mo_breakUp_336 : decode prog_12_method_42_code 336 = .ok (.aload_n 0, 1) := by decide +kernel
theorem d_Mo_breakUp_346 : decode prog_12_method_42_code 346 = .ok (.goto (-63), 3) := by decide +kernel
theorem d_Mo_breakUp_343 : decode prog_12_method_42_code 343 = .ok (.putfield 147, 3) := by decide +kernel
theorem d_Mo_breakUp_342 : decode prog_12_method_42_code 342 = .ok (.iadd, 1) := by decide +kernel
theorem d_Mo_breakUp_341 : decode prog_12_method_42_code 341 = .ok (.iconst 1, 1) := by decide +kernel
theorem d_Mo_breakUp_338 : decode prog_12_method_42_code 338 = .ok (.getfield 147, 3) := by decide +kernel
theorem d_Mo_breakUp_337 : decode prog_12_method_42_code 337 = .ok (.dup, 1) := by decide +kernel
theorem d_Mo_breakUp_283 : decode prog_12_method_42_code 283 = .ok (.aload_n 0, 1) := by decide +kernel
theorem d_Mo_breakUp_287 : decode prog_12_method_42_code 287 = .ok (.iload 12, 2) := by decide +kernel
theorem d_Mo_breakUp_292 : decode prog_12_method_42_code 292 = .ok (.iload 11, 2) := by decide +kernel
theorem d_Mo_breakUp_297 : decode prog_12_method_42_code 297 = .ok (.aload_n 0, 1) := by decide +kernel
theorem d_Mo_breakUp_314 : decode prog_12_method_42_code 314 = .ok (.aload_n 0, 1) := by decide +kernel
theorem d_Mo_breakUp_318 : decode prog_12_method_42_code 318 = .ok (.istore 13, 2) := by decide +kernel
theorem d_Mo_breakUp_320 : decode prog_12_method_42_code 320 = .ok (.iload 13, 2) := by decide +kernel
theorem d_Mo_breakUp_325 : decode prog_12_method_42_code 325 = .ok (.aload_n 0, 1) := by decide +kernel
theorem d_Mo_breakUp_326 : decode prog_12_method_42_code 326 = .ok (.iload 13, 2) := by decide +kernel
theorem d_Mo_breakUp_331 : decode prog_12_method_42_code 331 = .ok (.istore 10, 2) := by decide +kernel
theorem d_Mo_breakUp_334 : decode prog_12_method_42_code 334 = .ok (.istore 11, 2) := by decide +kernel
theorem d_Mo_breakUp_333 : decode prog_12_method_42_code 333 = .ok (.iconst 1, 1) := by decide +kernel
theorem d_Mo_breakUp_328 : decode prog_12_method_42_code 328 = .ok (.invokevirtual 270, 3) := by decide +kernel
theorem d_Mo_breakUp_322 : decode prog_12_method_42_code 322 = .ok (.ifCond .lt 14, 3) := by decide +kernel
theorem d_Mo_breakUp_315 : decode prog_12_method_42_code 315 = .ok (.invokevirtual 266, 3) := by decide +kernel
theorem d_Mo_breakUp_306 : decode prog_12_method_42_code 306 = .ok (.istore 10, 2) := by decide +kernel
theorem d_Mo_breakUp_309 : decode prog_12_method_42_code 309 = .ok (.istore 11, 2) := by decide +kernel
theorem d_Mo_breakUp_311 : decode prog_12_method_42_code 311 = .ok (.goto 25, 3) := by decide +kernel
theorem d_Mo_breakUp_308 : decode prog_12_method_42_code 308 = .ok (.iconst 1, 1) := by decide +kernel
theorem d_Mo_breakUp_304 : decode prog_12_method_42_code 304 = .ok (.bipush (-2), 2) := by decide +kernel
theorem d_Mo_breakUp_301 : decode prog_12_method_42_code 301 = .ok (.ifCond .ne 13, 3) := by decide +kernel
theorem d_Mo_breakUp_298 : decode prog_12_method_42_code 298 = .ok (.invokevirtual 263, 3) := by decide +kernel
theorem d_Mo_breakUp_294 : decode prog_12_method_42_code 294 = .ok (.ifCond .ne 55, 3) := by decide +kernel
theorem d_Mo_breakUp_289 : decode prog_12_method_42_code 289 = .ok (.if_icmp .gt 60, 3) := by decide +kernel
theorem d_Mo_breakUp_284 : decode prog_12_method_42_code 284 = .ok (.getfield 147, 3) := by decide +kernel
theorem d_Mo_breakUp_263 : decode prog_12_method_42_code 263 = .ok (.istore 12, 2) := by decide +kernel
theorem d_Mo_breakUp_265 : decode prog_12_method_42_code 265 = .ok (.aload_n 0, 1) := by decide +kernel
theorem d_Mo_breakUp_266 : decode prog_12_method_42_code 266 = .ok (.aload_n 0, 1) := by decide +kernel
theorem d_Mo_breakUp_280 : decode prog_12_method_42_code 280 = .ok (.putfield 147, 3) := by decide +kernel
theorem d_Mo_breakUp_279 : decode prog_12_method_42_code 279 = .ok (.iconst 1, 1) := by decide +kernel
theorem d_Mo_breakUp_276 : decode prog_12_method_42_code 276 = .ok (.goto 4, 3) := by decide +kernel
theorem d_Mo_breakUp_275 : decode prog_12_method_42_code 275 = .ok (.iconst 2, 1) := by decide +kernel
theorem d_Mo_breakUp_272 : decode prog_12_method_42_code 272 = .ok (.ifCond .ge 7, 3) := by decide +kernel
theorem d_Mo_breakUp_271 : decode prog_12_method_42_code 271 = .ok (.iaload, 1) := by decide +kernel
theorem d_Mo_breakUp_270 : decode prog_12_method_42_code 270 = .ok (.iconst 0, 1) := by decide +kernel
theorem d_Mo_breakUp_267 : decode prog_12_method_42_code 267 = .ok (.getfield 34, 3) := by decide +kernel
theorem d_Mo_breakUp_126 : decode prog_12_method_42_code 126 = .ok (.istore_n 3, 1) := by decide +kernel
theorem d_Mo_breakUp_127 : decode prog_12_method_42_code 127 = .ok (.aload_n 0, 1) := by decide +kernel
theorem d_Mo_breakUp_131 : decode prog_12_method_42_code 131 = .ok (.iload_n 3, 1) := by decide +kernel
theorem d_Mo_breakUp_133 : decode prog_12_method_42_code 133 = .ok (.istore 4, 2) := by decide +kernel
theorem d_Mo_breakUp_135 : decode prog_12_method_42_code 135 = .ok (.aload_n 0, 1) := by decide +kernel
theorem d_Mo_breakUp_139 : decode prog_12_method_42_code 139 = .ok (.iload_n 3, 1) := by decide +kernel
theorem d_Mo_breakUp_141 : decode prog_12_method_42_code 141 = .ok (.istore 5, 2) := by decide +kernel
theorem d_Mo_breakUp_143 : decode prog_12_method_42_code 143 = .ok (.aload_n 0, 1) := by decide +kernel
theorem d_Mo_breakUp_147 : decode prog_12_method_42_code 147 = .ok (.iload_n 3, 1) := by decide +kernel
theorem d_Mo_breakUp_149 : decode prog_12_method_42_code 149 = .ok (.istore 6, 2) := by decide +kernel
theorem d_Mo_breakUp_151 : decode prog_12_method_42_code 151 = .ok (.aload_n 0, 1) := by decide +kernel
theorem d_Mo_breakUp_155 : decode prog_12_method_42_code 155 = .ok (.iload_n 3, 1) := by decide +kernel
theorem d_Mo_breakUp_157 : decode prog_12_method_42_code 157 = .ok (.istore 7, 2) := by decide +kernel
theorem d_Mo_breakUp_159 : decode prog_12_method_42_code 159 = .ok (.aload_n 0, 1) := by decide +kernel
theorem d_Mo_breakUp_163 : decode prog_12_method_42_code 163 = .ok (.iload_n 3, 1) := by decide +kernel
theorem d_Mo_breakUp_165 : decode prog_12_method_42_code 165 = .ok (.istore 8, 2) := by decide +kernel
theorem d_Mo_breakUp_167 : decode prog_12_method_42_code 167 = .ok (.aload_n 0, 1) := by decide +kernel
theorem d_Mo_breakUp_168 : decode prog_12_method_42_code 168 = .ok (.iload_n 3, 1) := by decide +kernel
theorem d_Mo_breakUp_172 : decode prog_12_method_42_code 172 = .ok (.aload_n 0, 1) := by decide +kernel
theorem d_Mo_breakUp_185 : decode prog_12_method_42_code 185 = .ok (.istore 9, 2) := by decide +kernel
theorem d_Mo_breakUp_187 : decode prog_12_method_42_code 187 = .ok (.aload_n 0, 1) := by decide +kernel
theorem d_Mo_breakUp_189 : decode prog_12_method_42_code 189 = .ok (.aload_n 0, 1) := by decide +kernel
theorem d_Mo_breakUp_195 : decode prog_12_method_42_code 195 = .ok (.aload_n 0, 1) := by decide +kernel
theorem d_Mo_breakUp_201 : decode prog_12_method_42_code 201 = .ok (.aload_n 0, 1) := by decide +kernel
theorem d_Mo_breakUp_207 : decode prog_12_method_42_code 207 = .ok (.aload_n 0, 1) := by decide +kernel
theorem d_Mo_breakUp_218 : decode prog_12_method_42_code 218 = .ok (.istore 9, 2) := by decide +kernel
theorem d_Mo_breakUp_220 : decode prog_12_method_42_code 220 = .ok (.aload_n 0, 1) := by decide +kernel
theorem d_Mo_breakUp_221 : decode prog_12_method_42_code 221 = .ok (.aload_n 0, 1) := by decide +kernel
theorem d_Mo_breakUp_238 : decode prog_12_method_42_code 238 = .ok (.istore 10, 2) := by decide +kernel
theorem d_Mo_breakUp_241 : decode prog_12_method_42_code 241 = .ok (.istore 11, 2) := by decide +kernel
theorem d_Mo_breakUp_243 : decode prog_12_method_42_code 243 = .ok (.aload_n 0, 1) := by decide +kernel
theorem d_Mo_breakUp_248 : decode prog_12_method_42_code 248 = .ok (.aload_n 0, 1) := by decide +kernel
theorem d_Mo_breakUp_262 : decode prog_12_method_42_code 262 = .ok (.iconst 2, 1) := by decide +kernel
theorem d_Mo_breakUp_259 : decode prog_12_method_42_code 259 = .ok (.goto 4, 3) := by decide +kernel
theorem d_Mo_breakUp_258 : decode prog_12_method_42_code 258 = .ok (.iconst 3, 1) := by decide +kernel
theorem d_Mo_breakUp_255 : decode prog_12_method_42_code 255 = .ok (.ifCond .le 7, 3) := by decide +kernel
theorem d_Mo_breakUp_254 : decode prog_12_method_42_code 254 = .ok (.iaload, 1) := by decide +kernel
theorem d_Mo_breakUp_252 : decode prog_12_method_42_code 252 = .ok (.bipush 8, 2) := by decide +kernel
theorem d_Mo_breakUp_249 : decode prog_12_method_42_code 249 = .ok (.getfield 34, 3) := by decide +kernel
theorem d_Mo_breakUp_245 : decode prog_12_method_42_code 245 = .ok (.putfield 106, 3) := by decide +kernel
theorem d_Mo_breakUp_244 : decode prog_12_method_42_code 244 = .ok (.iconst 0, 1) := by decide +kernel
theorem d_Mo_breakUp_240 : decode prog_12_method_42_code 240 = .ok (.iconst 0, 1) := by decide +kernel
theorem d_Mo_breakUp_237 : decode prog_12_method_42_code 237 = .ok (.iconst 0, 1) := by decide +kernel
theorem d_Mo_breakUp_234 : decode prog_12_method_42_code 234 = .ok (.putfield 144, 3) := by decide +kernel
theorem d_Mo_breakUp_231 : decode prog_12_method_42_code 231 = .ok (.invokevirtual 113, 3) := by decide +kernel
theorem d_Mo_breakUp_230 : decode prog_12_method_42_code 230 = .ok (.iconst 0, 1) := by decide +kernel
theorem d_Mo_breakUp_229 : decode prog_12_method_42_code 229 = .ok (.iconst 0, 1) := by decide +kernel
theorem d_Mo_breakUp_228 : decode prog_12_method_42_code 228 = .ok (.iconst 0, 1) := by decide +kernel
theorem d_Mo_breakUp_227 : decode prog_12_method_42_code 227 = .ok (.iconst 0, 1) := by decide +kernel
theorem d_Mo_breakUp_226 : decode prog_12_method_42_code 226 = .ok (.iconst 0, 1) := by decide +kernel
theorem d_Mo_breakUp_223 : decode prog_12_method_42_code 223 = .ok (.sipush (-10000), 3) := by decide +kernel
theorem d_Mo_breakUp_222 : decode prog_12_method_42_code 222 = .ok (.iconst 4, 1) := by decide +kernel
theorem d_Mo_breakUp_215 : decode prog_12_method_42_code 215 = .ok (.invokevirtual 113, 3) := by decide +kernel
theorem d_Mo_breakUp_214 : decode prog_12_method_42_code 214 = .ok (.iconst 0, 1) := by decide +kernel
theorem d_Mo_breakUp_213 : decode prog_12_method_42_code 213 = .ok (.iconst 0, 1) := by decide +kernel
theorem d_Mo_breakUp_212 : decode prog_12_method_42_code 212 = .ok (.iaload, 1) := by decide +kernel
theorem d_Mo_breakUp_211 : decode prog_12_method_42_code 211 = .ok (.iconst 2, 1) := by decide +kernel
theorem d_Mo_breakUp_208 : decode prog_12_method_42_code 208 = .ok (.getfield 49, 3) := by decide +kernel
theorem d_Mo_breakUp_206 : decode prog_12_method_42_code 206 = .ok (.iaload, 1) := by decide +kernel
theorem d_Mo_breakUp_205 : decode prog_12_method_42_code 205 = .ok (.iconst 2, 1) := by decide +kernel
theorem d_Mo_breakUp_202 : decode prog_12_method_42_code 202 = .ok (.getfield 46, 3) := by decide +kernel
theorem d_Mo_breakUp_200 : decode prog_12_method_42_code 200 = .ok (.iaload, 1) := by decide +kernel
theorem d_Mo_breakUp_199 : decode prog_12_method_42_code 199 = .ok (.iconst 2, 1) := by decide +kernel
theorem d_Mo_breakUp_196 : decode prog_12_method_42_code 196 = .ok (.getfield 43, 3) := by decide +kernel
theorem d_Mo_breakUp_194 : decode prog_12_method_42_code 194 = .ok (.iaload, 1) := by decide +kernel
theorem d_Mo_breakUp_193 : decode prog_12_method_42_code 193 = .ok (.iconst 2, 1) := by decide +kernel
theorem d_Mo_breakUp_190 : decode prog_12_method_42_code 190 = .ok (.getfield 40, 3) := by decide +kernel
theorem d_Mo_breakUp_188 : decode prog_12_method_42_code 188 = .ok (.iconst 1, 1) := by decide +kernel
theorem d_Mo_breakUp_182 : decode prog_12_method_42_code 182 = .ok (.invokevirtual 113, 3) := by decide +kernel
theorem d_Mo_breakUp_181 : decode prog_12_method_42_code 181 = .ok (.iconst 0, 1) := by decide +kernel
theorem d_Mo_breakUp_180 : decode prog_12_method_42_code 180 = .ok (.iconst 0, 1) := by decide +kernel
theorem d_Mo_breakUp_179 : decode prog_12_method_42_code 179 = .ok (.iconst 0, 1) := by decide +kernel
theorem d_Mo_breakUp_178 : decode prog_12_method_42_code 178 = .ok (.iconst 0, 1) := by decide +kernel
theorem d_Mo_breakUp_177 : decode prog_12_method_42_code 177 = .ok (.iconst 0, 1) := by decide +kernel
theorem d_Mo_breakUp_174 : decode prog_12_method_42_code 174 = .ok (.sipush 10000, 3) := by decide +kernel
theorem d_Mo_breakUp_173 : decode prog_12_method_42_code 173 = .ok (.iconst 4, 1) := by decide +kernel
theorem d_Mo_breakUp_169 : decode prog_12_method_42_code 169 = .ok (.putfield 103, 3) := by decide +kernel
theorem d_Mo_breakUp_164 : decode prog_12_method_42_code 164 = .ok (.iaload, 1) := by decide +kernel
theorem d_Mo_breakUp_160 : decode prog_12_method_42_code 160 = .ok (.getfield 22, 3) := by decide +kernel
theorem d_Mo_breakUp_156 : decode prog_12_method_42_code 156 = .ok (.iaload, 1) := by decide +kernel
theorem d_Mo_breakUp_152 : decode prog_12_method_42_code 152 = .ok (.getfield 19, 3) := by decide +kernel
theorem d_Mo_breakUp_148 : decode prog_12_method_42_code 148 = .ok (.iaload, 1) := by decide +kernel
theorem d_Mo_breakUp_144 : decode prog_12_method_42_code 144 = .ok (.getfield 16, 3) := by decide +kernel
theorem d_Mo_breakUp_140 : decode prog_12_method_42_code 140 = .ok (.iaload, 1) := by decide +kernel
theorem d_Mo_breakUp_136 : decode prog_12_method_42_code 136 = .ok (.getfield 13, 3) := by decide +kernel
theorem d_Mo_breakUp_132 : decode prog_12_method_42_code 132 = .ok (.iaload, 1) := by decide +kernel
theorem d_Mo_breakUp_128 : decode prog_12_method_42_code 128 = .ok (.getfield 7, 3) := by decide +kernel
theorem d_Mo_breakUp_122 : decode prog_12_method_42_code 122 = .ok (.aload_n 0, 1) := by decide +kernel
theorem d_Mo_breakUp_123 : decode prog_12_method_42_code 123 = .ok (.getfield 103, 3) := by decide +kernel
theorem d_Mo_breakUp_77 : decode prog_12_method_42_code 77 = .ok (.aload_n 0, 1) := by decide +kernel
theorem d_Mo_breakUp_86 : decode prog_12_method_42_code 86 = .ok (.aload_n 0, 1) := by decide +kernel
theorem d_Mo_breakUp_90 : decode prog_12_method_42_code 90 = .ok (.istore_n 2, 1) := by decide +kernel
theorem d_Mo_breakUp_91 : decode prog_12_method_42_code 91 = .ok (.aload_n 0, 1) := by decide +kernel
theorem d_Mo_breakUp_98 : decode prog_12_method_42_code 98 = .ok (.aload_n 0, 1) := by decide +kernel
theorem d_Mo_breakUp_102 : decode prog_12_method_42_code 102 = .ok (.aload_n 0, 1) := by decide +kernel
theorem d_Mo_breakUp_113 : decode prog_12_method_42_code 113 = .ok (.aload_n 0, 1) := by decide +kernel
theorem d_Mo_breakUp_119 : decode prog_12_method_42_code 119 = .ok (.goto 7, 3) := by decide +kernel
theorem d_Mo_breakUp_118 : decode prog_12_method_42_code 118 = .ok (.isub, 1) := by decide +kernel
theorem d_Mo_breakUp_117 : decode prog_12_method_42_code 117 = .ok (.iconst 1, 1) := by decide +kernel
theorem d_Mo_breakUp_114 : decode prog_12_method_42_code 114 = .ok (.getfield 103, 3) := by decide +kernel
theorem d_Mo_breakUp_110 : decode prog_12_method_42_code 110 = .ok (.if_icmp .ne 12, 3) := by decide +kernel
theorem d_Mo_breakUp_109 : decode prog_12_method_42_code 109 = .ok (.iconst 1, 1) := by decide +kernel
theorem d_Mo_breakUp_108 : decode prog_12_method_42_code 108 = .ok (.iaload, 1) := by decide +kernel
theorem d_Mo_breakUp_107 : decode prog_12_method_42_code 107 = .ok (.isub, 1) := by decide +kernel
theorem d_Mo_breakUp_106 : decode prog_12_method_42_code 106 = .ok (.iconst 1, 1) := by decide +kernel
theorem d_Mo_breakUp_103 : decode prog_12_method_42_code 103 = .ok (.getfield 103, 3) := by decide +kernel
theorem d_Mo_breakUp_99 : decode prog_12_method_42_code 99 = .ok (.getfield 7, 3) := by decide +kernel
theorem d_Mo_breakUp_95 : decode prog_12_method_42_code 95 = .ok (.ifCond .le 27, 3) := by decide +kernel
theorem d_Mo_breakUp_92 : decode prog_12_method_42_code 92 = .ok (.getfield 103, 3) := by decide +kernel
theorem d_Mo_breakUp_87 : decode prog_12_method_42_code 87 = .ok (.getfield 103, 3) := by decide +kernel
theorem d_Mo_breakUp_85 : decode prog_12_method_42_code 85 = .ok (.ireturn, 1) := by decide +kernel
theorem d_Mo_breakUp_84 : decode prog_12_method_42_code 84 = .ok (.iconst 0, 1) := by decide +kernel
theorem d_Mo_breakUp_81 : decode prog_12_method_42_code 81 = .ok (.ifCond .le 5, 3) := by decide +kernel
theorem d_Mo_breakUp_78 : decode prog_12_method_42_code 78 = .ok (.getfield 94, 3) := by decide +kernel
theorem d_Mo_breakUp_74 : decode prog_12_method_42_code 74 = .ok (.putfield 94, 3) := by decide +kernel
theorem d_Mo_breakUp_4 : decode prog_12_method_42_code 4 = .ok (.iload_n 2, 1) := by decide +kernel
theorem d_Mo_breakUp_5 : decode prog_12_method_42_code 5 = .ok (.aload_n 0, 1) := by decide +kernel
theorem d_Mo_breakUp_53 : decode prog_12_method_42_code 53 = .ok (.aload_n 0, 1) := by decide +kernel
theorem d_Mo_breakUp_54 : decode prog_12_method_42_code 54 = .ok (.iload_n 1, 1) := by decide +kernel
theorem d_Mo_breakUp_62 : decode prog_12_method_42_code 62 = .ok (.aload_n 0, 1) := by decide +kernel
theorem d_Mo_breakUp_73 : decode prog_12_method_42_code 73 = .ok (.iconst 2, 1) := by decide +kernel
theorem d_Mo_breakUp_70 : decode prog_12_method_42_code 70 = .ok (.goto 4, 3) := by decide +kernel
theorem d_Mo_breakUp_69 : decode prog_12_method_42_code 69 = .ok (.iconst 0, 1) := by decide +kernel
theorem d_Mo_breakUp_66 : decode prog_12_method_42_code 66 = .ok (.ifCond .eq 7, 3) := by decide +kernel
theorem d_Mo_breakUp_63 : decode prog_12_method_42_code 63 = .ok (.invokevirtual 259, 3) := by decide +kernel
theorem d_Mo_breakUp_59 : decode prog_12_method_42_code 59 = .ok (.goto 15, 3) := by decide +kernel
theorem d_Mo_breakUp_58 : decode prog_12_method_42_code 58 = .ok (.iconst 1, 1) := by decide +kernel
theorem d_Mo_breakUp_55 : decode prog_12_method_42_code 55 = .ok (.ifCond .eq 7, 3) := by decide +kernel
theorem d_Mo_breakUp_12 : decode prog_12_method_42_code 12 = .ok (.iload_n 1, 1) := by decide +kernel
theorem d_Mo_breakUp_46 : decode prog_12_method_42_code 46 = .ok (.istore_n 1, 1) := by decide +kernel
theorem d_Mo_breakUp_50 : decode prog_12_method_42_code 50 = .ok (.goto (-46), 3) := by decide +kernel
theorem d_Mo_breakUp_47 : decode prog_12_method_42_code 47 = .ok (.iinc 2 1, 3) := by decide +kernel
theorem d_Mo_breakUp_42 : decode prog_12_method_42_code 42 = .ok (.goto 4, 3) := by decide +kernel
theorem d_Mo_breakUp_41 : decode prog_12_method_42_code 41 = .ok (.iconst 1, 1) := by decide +kernel
theorem d_Mo_breakUp_16 : decode prog_12_method_42_code 16 = .ok (.aload_n 0, 1) := by decide +kernel
theorem d_Mo_breakUp_20 : decode prog_12_method_42_code 20 = .ok (.iload_n 2, 1) := by decide +kernel
theorem d_Mo_breakUp_45 : decode prog_12_method_42_code 45 = .ok (.iconst 0, 1) := by decide +kernel
theorem d_Mo_breakUp_26 : decode prog_12_method_42_code 26 = .ok (.iload_n 2, 1) := by decide +kernel
theorem d_Mo_breakUp_27 : decode prog_12_method_42_code 27 = .ok (.aload_n 0, 1) := by decide +kernel
theorem d_Mo_breakUp_31 : decode prog_12_method_42_code 31 = .ok (.iload_n 2, 1) := by decide +kernel
theorem d_Mo_breakUp_34 : decode prog_12_method_42_code 34 = .ok (.aload_n 0, 1) := by decide +kernel
theorem d_Mo_breakUp_38 : decode prog_12_method_42_code 38 = .ok (.if_icmp .lt 7, 3) := by decide +kernel
theorem d_Mo_breakUp_35 : decode prog_12_method_42_code 35 = .ok (.getfield 103, 3) := by decide +kernel
theorem d_Mo_breakUp_33 : decode prog_12_method_42_code 33 = .ok (.iadd, 1) := by decide +kernel
theorem d_Mo_breakUp_32 : decode prog_12_method_42_code 32 = .ok (.iaload, 1) := by decide +kernel
theorem d_Mo_breakUp_28 : decode prog_12_method_42_code 28 = .ok (.getfield 31, 3) := by decide +kernel
theorem d_Mo_breakUp_23 : decode prog_12_method_42_code 23 = .ok (.if_icmp .ne 22, 3) := by decide +kernel
theorem d_Mo_breakUp_22 : decode prog_12_method_42_code 22 = .ok (.iconst 5, 1) := by decide +kernel
theorem d_Mo_breakUp_21 : decode prog_12_method_42_code 21 = .ok (.iaload, 1) := by decide +kernel
theorem d_Mo_breakUp_17 : decode prog_12_method_42_code 17 = .ok (.getfield 7, 3) := by decide +kernel
theorem d_Mo_breakUp_13 : decode prog_12_method_42_code 13 = .ok (.ifCond .ne 28, 3) := by decide +kernel
theorem d_Mo_breakUp_9 : decode prog_12_method_42_code 9 = .ok (.if_icmp .ge 44, 3) := by decide +kernel
theorem d_Mo_breakUp_6 : decode prog_12_method_42_code 6 = .ok (.getfield 103, 3) := by decide +kernel
theorem d_Mo_breakUp_1 : decode prog_12_method_42_code 1 = .ok (.istore_n 1, 1) := by decide +kernel
theorem d_Mo_breakUp_3 : decode prog_12_method_42_code 3 = .ok (.istore_n 2, 1) := by decide +kernel
theorem d_Mo_breakUp_2 : decode prog_12_method_42_code 2 = .ok (.iconst 0, 1) := by decide +kernel
theorem d_Mo_breakUp_0 : decode prog_12_method_42_code 0 = .ok (.iconst 0, 1) := by decide +kernel
theorem d_Mo_pass_0 : decode prog_12_method_43_code 0 = .ok (.aload_n 0, 1) := by decide +kernel
theorem d_Mo_pass_5 : decode prog_12_method_43_code 5 = .ok (.aload_n 0, 1) := by decide +kernel
theorem d_Mo_pass_9 : decode prog_12_method_43_code 9 = .ok (.ireturn, 1) := by decide +kernel
theorem d_Mo_pass_6 : decode prog_12_method_43_code 6 = .ok (.getfield 106, 3) := by decide +kernel
theorem d_Mo_pass_2 : decode prog_12_method_43_code 2 = .ok (.putfield 94, 3) := by decide +kernel
theorem d_Mo_pass_1 : decode prog_12_method_43_code 1 = .ok (.iconst 0, 1) := by decide +kernel
theorem d_Mo_nodes_0 : decode prog_12_method_44_code 0 = .ok (.aload_n 0, 1) := by decide +kernel
theorem d_Mo_nodes_5 : decode prog_12_method_44_code 5 = .ok (.aload_n 0, 1) := by decide +kernel
theorem d_Mo_nodes_20 : decode prog_12_method_44_code 20 = .ok (.ireturn, 1) := by decide +kernel
theorem d_Mo_nodes_19 : decode prog_12_method_44_code 19 = .ok (.iconst 0, 1) := by decide +kernel
theorem d_Mo_nodes_12 : decode prog_12_method_44_code 12 = .ok (.aload_n 0, 1) := by decide +kernel
theorem d_Mo_nodes_16 : decode prog_12_method_44_code 16 = .ok (.goto 4, 3) := by decide +kernel
theorem d_Mo_nodes_13 : decode prog_12_method_44_code 13 = .ok (.getfield 249, 3) := by decide +kernel
theorem d_Mo_nodes_9 : decode prog_12_method_44_code 9 = .ok (.ifCond .le 10, 3) := by decide +kernel
theorem d_Mo_nodes_6 : decode prog_12_method_44_code 6 = .ok (.getfield 106, 3) := by decide +kernel
theorem d_Mo_nodes_2 : decode prog_12_method_44_code 2 = .ok (.putfield 94, 3) := by decide +kernel
theorem d_Mo_nodes_1 : decode prog_12_method_44_code 1 = .ok (.iconst 0, 1) := by decide +kernel
theorem d_Mo_isLine_0 : decode prog_12_method_45_code 0 = .ok (.aload_n 0, 1) := by decide +kernel
theorem d_Mo_isLine_24 : decode prog_12_method_45_code 24 = .ok (.ireturn, 1) := by decide +kernel
theorem d_Mo_isLine_23 : decode prog_12_method_45_code 23 = .ok (.iconst 0, 1) := by decide +kernel
theorem d_Mo_isLine_7 : decode prog_12_method_45_code 7 = .ok (.iload_n 1, 1) := by decide +kernel
theorem d_Mo_isLine_11 : decode prog_12_method_45_code 11 = .ok (.iload_n 1, 1) := by decide +kernel
theorem d_Mo_isLine_12 : decode prog_12_method_45_code 12 = .ok (.aload_n 0, 1) := by decide +kernel
theorem d_Mo_isLine_20 : decode prog_12_method_45_code 20 = .ok (.goto 4, 3) := by decide +kernel
theorem d_Mo_isLine_19 : decode prog_12_method_45_code 19 = .ok (.iconst 1, 1) := by decide +kernel
theorem d_Mo_isLine_16 : decode prog_12_method_45_code 16 = .ok (.if_icmp .ge 7, 3) := by decide +kernel
theorem d_Mo_isLine_13 : decode prog_12_method_45_code 13 = .ok (.getfield 252, 3) := by decide +kernel
theorem d_Mo_isLine_8 : decode prog_12_method_45_code 8 = .ok (.ifCond .lt 15, 3) := by decide +kernel
theorem d_Mo_isLine_4 : decode prog_12_method_45_code 4 = .ok (.ifCond .le 19, 3) := by decide +kernel
theorem d_Mo_isLine_1 : decode prog_12_method_45_code 1 = .ok (.getfield 106, 3) := by decide +kernel
theorem d_Mo_line_26 : decode prog_12_method_46_code 26 = .ok (.aload_n 0, 1) := by decide +kernel
theorem d_Mo_line_35 : decode prog_12_method_46_code 35 = .ok (.iload_n 2, 1) := by decide +kernel
theorem d_Mo_line_68 : decode prog_12_method_46_code 68 = .ok (.aload_n 0, 1) := by decide +kernel
theorem d_Mo_line_72 : decode prog_12_method_46_code 72 = .ok (.iload_n 1, 1) := by decide +kernel
theorem d_Mo_line_74 : decode prog_12_method_46_code 74 = .ok (.ireturn, 1) := by decide +kernel
theorem d_Mo_line_73 : decode prog_12_method_46_code 73 = .ok (.iaload, 1) := by decide +kernel
theorem d_Mo_line_69 : decode prog_12_method_46_code 69 = .ok (.getfield 75, 3) := by decide +kernel
theorem d_Mo_line_36 : decode prog_12_method_46_code 36 = .ok (.tableswitch 60 0 3 #[32, 39, 46, 53], 32) := by decide +kernel
theorem d_Mo_line_75 : decode prog_12_method_46_code 75 = .ok (.aload_n 0, 1) := by decide +kernel
theorem d_Mo_line_79 : decode prog_12_method_46_code 79 = .ok (.iload_n 1, 1) := by decide +kernel
theorem d_Mo_line_81 : decode prog_12_method_46_code 81 = .ok (.ireturn, 1) := by decide +kernel
theorem d_Mo_line_80 : decode prog_12_method_46_code 80 = .ok (.iaload, 1) := by decide +kernel
theorem d_Mo_line_76 : decode prog_12_method_46_code 76 = .ok (.getfield 78, 3) := by decide +kernel
theorem d_Mo_line_82 : decode prog_12_method_46_code 82 = .ok (.aload_n 0, 1) := by decide +kernel
theorem d_Mo_line_86 : decode prog_12_method_46_code 86 = .ok (.iload_n 1, 1) := by decide +kernel
theorem d_Mo_line_88 : decode prog_12_method_46_code 88 = .ok (.ireturn, 1) := by decide +kernel
theorem d_Mo_line_87 : decode prog_12_method_46_code 87 = .ok (.iaload, 1) := by decide +kernel
theorem d_Mo_line_83 : decode prog_12_method_46_code 83 = .ok (.getfield 81, 3) := by decide +kernel
theorem d_Mo_line_89 : decode prog_12_method_46_code 89 = .ok (.aload_n 0, 1) := by decide +kernel
theorem d_Mo_line_93 : decode prog_12_method_46_code 93 = .ok (.iload_n 1, 1) := by decide +kernel
theorem d_Mo_line_95 : decode prog_12_method_46_code 95 = .ok (.ireturn, 1) := by decide +kernel
theorem d_Mo_line_94 : decode prog_12_method_46_code 94 = .ok (.iaload, 1) := by decide +kernel
theorem d_Mo_line_90 : decode prog_12_method_46_code 90 = .ok (.getfield 84, 3) := by decide +kernel
theorem d_Mo_line_96 : decode prog_12_method_46_code 96 = .ok (.aload_n 0, 1) := by decide +kernel
theorem d_Mo_line_100 : decode prog_12_method_46_code 100 = .ok (.iload_n 1, 1) := by decide +kernel
theorem d_Mo_line_102 : decode prog_12_method_46_code 102 = .ok (.ireturn, 1) := by decide +kernel
theorem d_Mo_line_101 : decode prog_12_method_46_code 101 = .ok (.iaload, 1) := by decide +kernel
theorem d_Mo_line_97 : decode prog_12_method_46_code 97 = .ok (.getfield 87, 3) := by decide +kernel
theorem d_Mo_line_34 : decode prog_12_method_46_code 34 = .ok (.ireturn, 1) := by decide +kernel
theorem d_Mo_line_33 : decode prog_12_method_46_code 33 = .ok (.iconst 0, 1) := by decide +kernel
theorem d_Mo_line_30 : decode prog_12_method_46_code 30 = .ok (.ifCond .le 5, 3) := by decide +kernel
theorem d_Mo_line_27 : decode prog_12_method_46_code 27 = .ok (.getfield 94, 3) := by decide +kernel
theorem d_Mo_line_23 : decode prog_12_method_46_code 23 = .ok (.putfield 94, 3) := by decide +kernel
theorem d_Mo_line_19 : decode prog_12_method_46_code 19 = .ok (.goto 4, 3) := by decide +kernel
theorem d_Mo_line_18 : decode prog_12_method_46_code 18 = .ok (.iconst 1, 1) := by decide +kernel
theorem d_Mo_line_0 : decode prog_12_method_46_code 0 = .ok (.aload_n 0, 1) := by decide +kernel
theorem d_Mo_line_1 : decode prog_12_method_46_code 1 = .ok (.aload_n 0, 1) := by decide +kernel
theorem d_Mo_line_2 : decode prog_12_method_46_code 2 = .ok (.iload_n 1, 1) := by decide +kernel
theorem d_Mo_line_9 : decode prog_12_method_46_code 9 = .ok (.iload_n 2, 1) := by decide +kernel
theorem d_Mo_line_13 : decode prog_12_method_46_code 13 = .ok (.iload_n 2, 1) := by decide +kernel
theorem d_Mo_line_22 : decode prog_12_method_46_code 22 = .ok (.iconst 0, 1) := by decide +kernel
theorem d_Mo_line_15 : decode prog_12_method_46_code 15 = .ok (.if_icmp .le 7, 3) := by decide +kernel
theorem d_Mo_line_14 : decode prog_12_method_46_code 14 = .ok (.iconst 4, 1) := by decide +kernel
theorem d_Mo_line_10 : decode prog_12_method_46_code 10 = .ok (.ifCond .lt 8, 3) := by decide +kernel
theorem d_Mo_line_6 : decode prog_12_method_46_code 6 = .ok (.ifCond .eq 12, 3) := by decide +kernel
theorem d_Mo_line_3 : decode prog_12_method_46_code 3 = .ok (.invokevirtual 273, 3) := by decide +kernel
theorem d_Mo_total_17 : decode prog_12_method_47_code 17 = .ok (.aload_n 0, 1) := by decide +kernel
theorem d_Mo_total_28 : decode prog_12_method_47_code 28 = .ok (.aload_n 0, 1) := by decide +kernel
theorem d_Mo_total_32 : decode prog_12_method_47_code 32 = .ok (.iload_n 1, 1) := by decide +kernel
theorem d_Mo_total_34 : decode prog_12_method_47_code 34 = .ok (.lreturn, 1) := by decide +kernel
theorem d_Mo_total_33 : decode prog_12_method_47_code 33 = .ok (.laload, 1) := by decide +kernel
theorem d_Mo_total_29 : decode prog_12_method_47_code 29 = .ok (.getfield 90, 3) := by decide +kernel
theorem d_Mo_total_25 : decode prog_12_method_47_code 25 = .ok (.goto 9, 3) := by decide +kernel
theorem d_Mo_total_24 : decode prog_12_method_47_code 24 = .ok (.lconst 0, 1) := by decide +kernel
theorem d_Mo_total_21 : decode prog_12_method_47_code 21 = .ok (.ifCond .le 7, 3) := by decide +kernel
theorem d_Mo_total_18 : decode prog_12_method_47_code 18 = .ok (.getfield 94, 3) := by decide +kernel
theorem d_Mo_total_14 : decode prog_12_method_47_code 14 = .ok (.putfield 94, 3) := by decide +kernel
theorem d_Mo_total_0 : decode prog_12_method_47_code 0 = .ok (.aload_n 0, 1) := by decide +kernel
theorem d_Mo_total_1 : decode prog_12_method_47_code 1 = .ok (.aload_n 0, 1) := by decide +kernel
theorem d_Mo_total_2 : decode prog_12_method_47_code 2 = .ok (.iload_n 1, 1) := by decide +kernel
theorem d_Mo_total_13 : decode prog_12_method_47_code 13 = .ok (.iconst 1, 1) := by decide +kernel
theorem d_Mo_total_10 : decode prog_12_method_47_code 10 = .ok (.goto 4, 3) := by decide +kernel
theorem d_Mo_total_9 : decode prog_12_method_47_code 9 = .ok (.iconst 0, 1) := by decide +kernel
theorem d_Mo_total_6 : decode prog_12_method_47_code 6 = .ok (.ifCond .eq 7, 3) := by decide +kernel
theorem d_Mo_total_3 : decode prog_12_method_47_code 3 = .ok (.invokevirtual 273, 3) := by decide +kernel
abbrev y_Mo_thrown : MethodName := ⟨"LineBreakerModel", "thrown", "()I"⟩
abbrev rm_Mo_thrown : Room := { frames := 0, cells := 0, slots := 0, locals := 0 }
set_option maxRecDepth 100000 in
def wp_Mo_thrown (S : ST) (post : Int32 → Prop) : Prop := post (S.2.2 0)
abbrev y_Mo_isSize : MethodName := ⟨"LineBreakerModel", "isSize", "(J)Z"⟩
abbrev rm_Mo_isSize : Room := { frames := 0, cells := 0, slots := 0, locals := 0 }
set_option maxRecDepth 100000 in
def wp_Mo_isSize (S : ST) (p1 : Int64) (post : Int32 → Prop) : Prop := (((lg_cmp p1 (-1073741823)) < 0 → post 0) ∧ (¬ (lg_cmp p1 (-1073741823)) < 0 → ((0 < (lg_cmp p1 1073741823) → post 0) ∧ (¬ 0 < (lg_cmp p1 1073741823) → post 1))))
abbrev y_Mo_isMore : MethodName := ⟨"LineBreakerModel", "isMore", "(I)Z"⟩
abbrev rm_Mo_isMore : Room := { frames := 0, cells := 0, slots := 0, locals := 0 }
set_option maxRecDepth 100000 in
def wp_Mo_isMore (S : ST) (p1 : Int32) (post : Int32 → Prop) : Prop := ((p1 < 0 → post 0) ∧ (¬ p1 < 0 → ((1073741823 < p1 → post 0) ∧ (¬ 1073741823 < p1 → post 1))))
abbrev y_Mo_replacer : MethodName := ⟨"LineBreakerModel", "replacer", "(I)I"⟩
abbrev rm_Mo_replacer : Room := { frames := 0, cells := 0, slots := 0, locals := 0 }
set_option maxRecDepth 100000 in
def wl_Mo_replacer_4 (S : ST) (post : Int32 → Prop) : Nat → Int32 → Int32 → Prop
  | 0, _, _ => False
  | n + 1, x1, x2 => ((x2 < 0 → post (-1)) ∧ (¬ x2 < 0 → ((x2 < (x1 - 10) → post (-1)) ∧ (¬ x2 < (x1 - 10) → (vp_in x2 410 ∧ ((¬ ((S.1 1) x2.toNatClampNeg) = 5 → (∀ v1 : Int32, v1 = x2 + (-1) → wl_Mo_replacer_4 S post n x1 v1)) ∧ (((S.1 1) x2.toNatClampNeg) = 5 → (vp_in x2 410 ∧ (((x2 + ((S.1 8) x2.toNatClampNeg)) < x1 → (∀ v2 : Int32, v2 = x2 + (-1) → wl_Mo_replacer_4 S post n x1 v2)) ∧ (¬ (x2 + ((S.1 8) x2.toNatClampNeg)) < x1 → post x2))))))))))
set_option maxRecDepth 100000 in
def wp_Mo_replacer (S : ST) (p1 : Int32) (post : Int32 → Prop) : Prop := (∀ v1 : Int32, v1 = (p1 - 1) → (∃ k9 : Nat, wl_Mo_replacer_4 S post  k9 p1 v1))
abbrev y_Mo_append : MethodName := ⟨"LineBreakerModel", "append", "(IIIIIII)I"⟩
abbrev rm_Mo_append : Room := { frames := 0, cells := 0, slots := 0, locals := 0 }
set_option maxRecDepth 100000 in
def wp_Mo_append (S : ST) (p1 : Int32) (p2 : Int32) (p3 : Int32) (p4 : Int32) (p5 : Int32) (p6 : Int32) (p7 : Int32) (post : Int32 → (Nat → Int32) → (Nat → Int32) → (Nat → Int32) → (Nat → Int32) → (Nat → Int32) → (Nat → Int32) → (Nat → Int32) → (Nat → Int32) → Int32 → Int32 → Prop) : Prop := (∀ v1 : Int32, v1 = (S.2.2 1) → (vp_in v1 410 ∧ ∀ f2 : Nat → Int32, f2 = upd (S.1 1) v1.toNatClampNeg p1 → (vp_in v1 410 ∧ ∀ f3 : Nat → Int32, f3 = upd (S.1 2) v1.toNatClampNeg p2 → (vp_in v1 410 ∧ ∀ f4 : Nat → Int32, f4 = upd (S.1 3) v1.toNatClampNeg p3 → (vp_in v1 410 ∧ ∀ f5 : Nat → Int32, f5 = upd (S.1 4) v1.toNatClampNeg p4 → (vp_in v1 410 ∧ ∀ f6 : Nat → Int32, f6 = upd (S.1 5) v1.toNatClampNeg p5 → (vp_in v1 410 ∧ ∀ f7 : Nat → Int32, f7 = upd (S.1 6) v1.toNatClampNeg p2 → (vp_in v1 410 ∧ ∀ f8 : Nat → Int32, f8 = upd (S.1 7) v1.toNatClampNeg p6 → (vp_in v1 410 ∧ ∀ f9 : Nat → Int32, f9 = upd (S.1 8) v1.toNatClampNeg p7 → (∀ v10 : Int32, v10 = ((S.2.2 1) + 1) → post v1 f2 f3 f4 f5 f6 f7 f8 f9 v10 0))))))))))
abbrev y_Mo_box : MethodName := ⟨"LineBreakerModel", "box", "(I)I"⟩
abbrev rm_Mo_box : Room := { frames := 1, cells := 0, slots := 0, locals := 28 }
set_option maxRecDepth 100000 in
def wl_Mo_box_28 (S : ST) (post : Int32 → (Nat → Int32) → (Nat → Int32) → (Nat → Int32) → (Nat → Int32) → (Nat → Int32) → (Nat → Int32) → (Nat → Int32) → (Nat → Int32) → Int32 → Int32 → Int32 → Prop) (x1 : Int32) (z1 : Int32) : Prop := ((z1 ≤ 0 → wp_Mo_append (sI S 0 z1) 0 x1 0 0 0 0 0 (fun r11 f1 f2 f3 f4 f5 f6 f7 f8 v9 v10 => post r11 f1 f2 f3 f4 f5 f6 f7 f8 z1 v9 v10)) ∧ (¬ z1 ≤ 0 → post 0 (S.1 1) (S.1 2) (S.1 3) (S.1 4) (S.1 5) (S.1 6) (S.1 7) (S.1 8) z1 (S.2.2 1) (S.2.2 34)))
set_option maxRecDepth 100000 in
def wp_Mo_box (S : ST) (p1 : Int32) (post : Int32 → (Nat → Int32) → (Nat → Int32) → (Nat → Int32) → (Nat → Int32) → (Nat → Int32) → (Nat → Int32) → (Nat → Int32) → (Nat → Int32) → Int32 → Int32 → Int32 → Prop) : Prop := wp_Mo_isSize S (p1.toInt64) (fun r1 => ((¬ r1 = 0 → ((¬ (S.2.2 1) = 400 → wl_Mo_box_28 S post  p1 0) ∧ ((S.2.2 1) = 400 → wl_Mo_box_28 S post  p1 2))) ∧ (r1 = 0 → wl_Mo_box_28 S post  p1 1)))
abbrev y_Mo_isGlue : MethodName := ⟨"LineBreakerModel", "isGlue", "(IIII)Z"⟩
abbrev rm_Mo_isGlue : Room := { frames := 1, cells := 0, slots := 0, locals := 21 }
set_option maxRecDepth 100000 in
def wp_Mo_isGlue (S : ST) (p1 : Int32) (p2 : Int32) (p3 : Int32) (p4 : Int32) (post : Int32 → Prop) : Prop := wp_Mo_isSize S (p1.toInt64) (fun r1 => ((r1 = 0 → post 0) ∧ (¬ r1 = 0 → wp_Mo_isMore S p2 (fun r2 => ((r2 = 0 → post 0) ∧ (¬ r2 = 0 → wp_Mo_isMore S p4 (fun r3 => ((r3 = 0 → post 0) ∧ (¬ r3 = 0 → ((p3 < 0 → post 0) ∧ (¬ p3 < 0 → ((3 < p3 → post 0) ∧ (¬ 3 < p3 → post 1)))))))))))))
abbrev y_Mo_glue : MethodName := ⟨"LineBreakerModel", "glue", "(IIII)I"⟩
abbrev rm_Mo_glue : Room := { frames := 2, cells := 0, slots := 0, locals := 44 }
set_option maxRecDepth 100000 in
def wl_Mo_glue_46 (S : ST) (post : Int32 → (Nat → Int32) → (Nat → Int32) → (Nat → Int32) → (Nat → Int32) → (Nat → Int32) → (Nat → Int32) → (Nat → Int32) → (Nat → Int32) → Int32 → Int32 → Int32 → Prop) (x1 : Int32) (x2 : Int32) (x3 : Int32) (x4 : Int32) (z1 : Int32) : Prop := ((z1 ≤ 0 → wp_Mo_append (sI S 0 z1) 1 x1 x2 x3 x4 0 0 (fun r11 f1 f2 f3 f4 f5 f6 f7 f8 v9 v10 => post r11 f1 f2 f3 f4 f5 f6 f7 f8 z1 v9 v10)) ∧ (¬ z1 ≤ 0 → post 0 (S.1 1) (S.1 2) (S.1 3) (S.1 4) (S.1 5) (S.1 6) (S.1 7) (S.1 8) z1 (S.2.2 1) (S.2.2 34)))
set_option maxRecDepth 100000 in
def wp_Mo_glue (S : ST) (p1 : Int32) (p2 : Int32) (p3 : Int32) (p4 : Int32) (post : Int32 → (Nat → Int32) → (Nat → Int32) → (Nat → Int32) → (Nat → Int32) → (Nat → Int32) → (Nat → Int32) → (Nat → Int32) → (Nat → Int32) → Int32 → Int32 → Int32 → Prop) : Prop := wp_Mo_isGlue S p1 p2 p3 p4 (fun r1 => ((¬ r1 = 0 → wp_Mo_replacer S (S.2.2 1) (fun r2 => ((r2 < 0 → ((¬ (S.2.2 1) = 400 → wl_Mo_glue_46 S post  p1 p2 p3 p4 0) ∧ ((S.2.2 1) = 400 → wl_Mo_glue_46 S post  p1 p2 p3 p4 3))) ∧ (¬ r2 < 0 → wl_Mo_glue_46 S post  p1 p2 p3 p4 2)))) ∧ (r1 = 0 → wl_Mo_glue_46 S post  p1 p2 p3 p4 1)))
abbrev y_Mo_kern : MethodName := ⟨"LineBreakerModel", "kern", "(IZ)I"⟩
abbrev rm_Mo_kern : Room := { frames := 1, cells := 0, slots := 0, locals := 28 }
set_option maxRecDepth 100000 in
def wl_Mo_kern_52 (S : ST) (post : Int32 → (Nat → Int32) → (Nat → Int32) → (Nat → Int32) → (Nat → Int32) → (Nat → Int32) → (Nat → Int32) → (Nat → Int32) → (Nat → Int32) → Int32 → Int32 → Int32 → Prop) (i0 : Int32) (x1 : Int32) (z1 : Int32) : Prop := wp_Mo_append (sI S 0 i0) z1 x1 0 0 0 0 0 (fun r11 f1 f2 f3 f4 f5 f6 f7 f8 v9 v10 => post r11 f1 f2 f3 f4 f5 f6 f7 f8 i0 v9 v10)
set_option maxRecDepth 100000 in
def wl_Mo_kern_28 (S : ST) (post : Int32 → (Nat → Int32) → (Nat → Int32) → (Nat → Int32) → (Nat → Int32) → (Nat → Int32) → (Nat → Int32) → (Nat → Int32) → (Nat → Int32) → Int32 → Int32 → Int32 → Prop) (x1 : Int32) (x2 : Int32) (z1 : Int32) : Prop := ((z1 ≤ 0 → ((x2 = 0 → wl_Mo_kern_52 S post  z1 x1 2) ∧ (¬ x2 = 0 → wl_Mo_kern_52 S post  z1 x1 3))) ∧ (¬ z1 ≤ 0 → post 0 (S.1 1) (S.1 2) (S.1 3) (S.1 4) (S.1 5) (S.1 6) (S.1 7) (S.1 8) z1 (S.2.2 1) (S.2.2 34)))
set_option maxRecDepth 100000 in
def wp_Mo_kern (S : ST) (p1 : Int32) (p2 : Int32) (post : Int32 → (Nat → Int32) → (Nat → Int32) → (Nat → Int32) → (Nat → Int32) → (Nat → Int32) → (Nat → Int32) → (Nat → Int32) → (Nat → Int32) → Int32 → Int32 → Int32 → Prop) : Prop := wp_Mo_isSize S (p1.toInt64) (fun r1 => ((¬ r1 = 0 → ((¬ (S.2.2 1) = 400 → wl_Mo_kern_28 S post  p1 p2 0) ∧ ((S.2.2 1) = 400 → wl_Mo_kern_28 S post  p1 p2 2))) ∧ (r1 = 0 → wl_Mo_kern_28 S post  p1 p2 1)))
abbrev y_Mo_penalty : MethodName := ⟨"LineBreakerModel", "penalty", "(I)I"⟩
abbrev rm_Mo_penalty : Room := { frames := 1, cells := 0, slots := 0, locals := 28 }
set_option maxRecDepth 100000 in
def wl_Mo_penalty_74 (S : ST) (post : Int32 → (Nat → Int32) → (Nat → Int32) → (Nat → Int32) → (Nat → Int32) → (Nat → Int32) → (Nat → Int32) → (Nat → Int32) → (Nat → Int32) → Int32 → Int32 → Int32 → Prop) (i0 : Int32) (z1 : Int32) (z2 : Int32) : Prop := wp_Mo_append (sI S 0 i0) z1 z2 0 0 0 0 0 (fun r11 f1 f2 f3 f4 f5 f6 f7 f8 v9 v10 => post r11 f1 f2 f3 f4 f5 f6 f7 f8 i0 v9 v10)
set_option maxRecDepth 100000 in
def wl_Mo_penalty_31 (S : ST) (post : Int32 → (Nat → Int32) → (Nat → Int32) → (Nat → Int32) → (Nat → Int32) → (Nat → Int32) → (Nat → Int32) → (Nat → Int32) → (Nat → Int32) → Int32 → Int32 → Int32 → Prop) (x1 : Int32) (z1 : Int32) : Prop := ((z1 ≤ 0 → (((-10000) ≤ x1 → ((x1 ≤ 10000 → wl_Mo_penalty_74 S post  z1 4 x1) ∧ (¬ x1 ≤ 10000 → wl_Mo_penalty_74 S post  z1 4 10000))) ∧ (¬ (-10000) ≤ x1 → wl_Mo_penalty_74 S post  z1 4 (-10000)))) ∧ (¬ z1 ≤ 0 → post 0 (S.1 1) (S.1 2) (S.1 3) (S.1 4) (S.1 5) (S.1 6) (S.1 7) (S.1 8) z1 (S.2.2 1) (S.2.2 34)))
set_option maxRecDepth 100000 in
def wp_Mo_penalty (S : ST) (p1 : Int32) (post : Int32 → (Nat → Int32) → (Nat → Int32) → (Nat → Int32) → (Nat → Int32) → (Nat → Int32) → (Nat → Int32) → (Nat → Int32) → (Nat → Int32) → Int32 → Int32 → Int32 → Prop) : Prop := wp_Mo_replacer S (S.2.2 1) (fun r1 => ((r1 < 0 → ((¬ (S.2.2 1) = 400 → wl_Mo_penalty_31 S post  p1 0) ∧ ((S.2.2 1) = 400 → wl_Mo_penalty_31 S post  p1 2))) ∧ (¬ r1 < 0 → wl_Mo_penalty_31 S post  p1 1)))
abbrev y_Mo_mayStand : MethodName := ⟨"LineBreakerModel", "mayStand", "(I)Z"⟩
abbrev rm_Mo_mayStand : Room := { frames := 1, cells := 0, slots := 0, locals := 21 }
set_option maxRecDepth 100000 in
def wp_Mo_mayStand (S : ST) (p1 : Int32) (post : Int32 → Prop) : Prop := ((p1 = (-1073741824) → post 1) ∧ (¬ p1 = (-1073741824) → wp_Mo_isSize S (p1.toInt64) (fun r1 => ((r1 = 0 → post 0) ∧ (¬ r1 = 0 → post 1)))))
abbrev y_Mo_hyphen : MethodName := ⟨"LineBreakerModel", "hyphen", "(III)I"⟩
abbrev rm_Mo_hyphen : Room := { frames := 2, cells := 0, slots := 0, locals := 41 }
set_option maxRecDepth 100000 in
def wl_Mo_hyphen_59 (S : ST) (post : Int32 → (Nat → Int32) → (Nat → Int32) → (Nat → Int32) → (Nat → Int32) → (Nat → Int32) → (Nat → Int32) → (Nat → Int32) → (Nat → Int32) → Int32 → Int32 → Int32 → Prop) (x1 : Int32) (x2 : Int32) (x3 : Int32) (z1 : Int32) : Prop := ((z1 ≤ 0 → wp_Mo_append (sI S 0 z1) 5 x1 0 0 0 x2 x3 (fun r11 f1 f2 f3 f4 f5 f6 f7 f8 v9 v10 => post r11 f1 f2 f3 f4 f5 f6 f7 f8 z1 v9 v10)) ∧ (¬ z1 ≤ 0 → post 0 (S.1 1) (S.1 2) (S.1 3) (S.1 4) (S.1 5) (S.1 6) (S.1 7) (S.1 8) z1 (S.2.2 1) (S.2.2 34)))
set_option maxRecDepth 100000 in
def wl_Mo_hyphen_25 (S : ST) (post : Int32 → (Nat → Int32) → (Nat → Int32) → (Nat → Int32) → (Nat → Int32) → (Nat → Int32) → (Nat → Int32) → (Nat → Int32) → (Nat → Int32) → Int32 → Int32 → Int32 → Prop) (x1 : Int32) (x2 : Int32) (x3 : Int32) : Prop := wl_Mo_hyphen_59 S post  x1 x2 x3 1
set_option maxRecDepth 100000 in
def wp_Mo_hyphen (S : ST) (p1 : Int32) (p2 : Int32) (p3 : Int32) (post : Int32 → (Nat → Int32) → (Nat → Int32) → (Nat → Int32) → (Nat → Int32) → (Nat → Int32) → (Nat → Int32) → (Nat → Int32) → (Nat → Int32) → Int32 → Int32 → Int32 → Prop) : Prop := wp_Mo_mayStand S p1 (fun r1 => ((r1 = 0 → wl_Mo_hyphen_25 S post  p1 p2 p3) ∧ (¬ r1 = 0 → wp_Mo_mayStand S p2 (fun r2 => ((r2 = 0 → wl_Mo_hyphen_25 S post  p1 p2 p3) ∧ (¬ r2 = 0 → ((p3 < 0 → wl_Mo_hyphen_25 S post  p1 p2 p3) ∧ (¬ p3 < 0 → ((p3 ≤ 10 → wp_Mo_replacer S (S.2.2 1) (fun r3 => ((r3 < 0 → ((¬ (S.2.2 1) = 400 → wl_Mo_hyphen_59 S post  p1 p2 p3 0) ∧ ((S.2.2 1) = 400 → wl_Mo_hyphen_59 S post  p1 p2 p3 3))) ∧ (¬ r3 < 0 → wl_Mo_hyphen_59 S post  p1 p2 p3 2)))) ∧ (¬ p3 ≤ 10 → wl_Mo_hyphen_25 S post  p1 p2 p3))))))))))
abbrev y_Mo_keep : MethodName := ⟨"LineBreakerModel", "keep", "(I)Z"⟩
abbrev rm_Mo_keep : Room := { frames := 0, cells := 0, slots := 0, locals := 0 }
set_option maxRecDepth 100000 in
def wp_Mo_keep (S : ST) (p1 : Int32) (post : Int32 → Int32 → Int32 → Int32 → Prop) : Prop := ((p1 < 0 → post 0 0 (S.2.2 1) (S.2.2 34)) ∧ (¬ p1 < 0 → ((p1 ≤ (S.2.2 1) → post 1 0 p1 0) ∧ (¬ p1 ≤ (S.2.2 1) → post 0 0 (S.2.2 1) (S.2.2 34)))))
abbrev y_Mo_items : MethodName := ⟨"LineBreakerModel", "items", "()I"⟩
abbrev rm_Mo_items : Room := { frames := 0, cells := 0, slots := 0, locals := 0 }
set_option maxRecDepth 100000 in
def wp_Mo_items (S : ST) (post : Int32 → Int32 → Prop) : Prop := post (S.2.2 1) 0
abbrev y_Mo_least : MethodName := ⟨"LineBreakerModel", "least", "(I)I"⟩
abbrev rm_Mo_least : Room := { frames := 0, cells := 0, slots := 0, locals := 0 }
set_option maxRecDepth 100000 in
def wp_Mo_least (S : ST) (p1 : Int32) (post : Int32 → Prop) : Prop := ((¬ p1 = 0 → ((p1 = 1 → post 0) ∧ (¬ p1 = 1 → ((¬ p1 = 8 → ((5 ≤ p1 → ((8 ≤ p1 → post (-100)) ∧ (¬ 8 ≤ p1 → post (-1000000)))) ∧ (¬ 5 ≤ p1 → post (-10000)))) ∧ (p1 = 8 → post 0))))) ∧ (p1 = 0 → post (-1)))
abbrev y_Mo_most : MethodName := ⟨"LineBreakerModel", "most", "(I)I"⟩
abbrev rm_Mo_most : Room := { frames := 0, cells := 0, slots := 0, locals := 0 }
set_option maxRecDepth 100000 in
def wp_Mo_most (S : ST) (p1 : Int32) (post : Int32 → Prop) : Prop := ((5 ≤ p1 → ((8 ≤ p1 → ((¬ p1 = 8 → post 100) ∧ (p1 = 8 → post 1073741823))) ∧ (¬ 8 ≤ p1 → post 1000000))) ∧ (¬ 5 ≤ p1 → post 10000))
abbrev y_Mo_set : MethodName := ⟨"LineBreakerModel", "set", "(II)V"⟩
abbrev rm_Mo_set : Room := { frames := 1, cells := 0, slots := 0, locals := 20 }
set_option maxRecDepth 100000 in
def wl_Mo_set_32 (S : ST) (post : (Nat → Int32) → Int32 → Prop) (x1 : Int32) (x2 : Int32) (z1 : Int32) : Prop := ((¬ z1 = 0 → post (S.1 9) z1) ∧ (z1 = 0 → (vp_in x1 10 ∧ ∀ f1 : Nat → Int32, f1 = upd (S.1 9) x1.toNatClampNeg x2 → post f1 z1)))
set_option maxRecDepth 100000 in
def wl_Mo_set_27 (S : ST) (post : (Nat → Int32) → Int32 → Prop) (x1 : Int32) (x2 : Int32) : Prop := wl_Mo_set_32 S post  x1 x2 1
set_option maxRecDepth 100000 in
def wp_Mo_set (S : ST) (p1 : Int32) (p2 : Int32) (post : (Nat → Int32) → Int32 → Prop) : Prop := ((p1 < 0 → wl_Mo_set_27 S post  p1 p2) ∧ (¬ p1 < 0 → ((9 < p1 → wl_Mo_set_27 S post  p1 p2) ∧ (¬ 9 < p1 → wp_Mo_least S p1 (fun r1 => ((p2 < r1 → wl_Mo_set_27 S post  p1 p2) ∧ (¬ p2 < r1 → wp_Mo_most S p1 (fun r2 => ((p2 ≤ r2 → wl_Mo_set_32 S post  p1 p2 0) ∧ (¬ p2 ≤ r2 → wl_Mo_set_27 S post  p1 p2))))))))))
abbrev y_Mo_wide : MethodName := ⟨"LineBreakerModel", "wide", "(II)V"⟩
abbrev rm_Mo_wide : Room := { frames := 1, cells := 0, slots := 0, locals := 21 }
set_option maxRecDepth 100000 in
def wl_Mo_wide_29 (S : ST) (post : (Nat → Int32) → Int32 → Prop) : Nat → (Nat → Int32) → Int32 → Int32 → Int32 → Prop
  | 0, _, _, _, _ => False
  | n + 1, a10, i0, x2, x3 => ((20 ≤ x3 → post a10 i0) ∧ (¬ 20 ≤ x3 → ((¬ i0 = 0 → post a10 i0) ∧ (i0 = 0 → (vp_in x3 20 ∧ ∀ f1 : Nat → Int32, f1 = upd a10 x3.toNatClampNeg x2 → (∀ v2 : Int32, v2 = x3 + 1 → wl_Mo_wide_29 S post n f1 i0 x2 v2))))))
set_option maxRecDepth 100000 in
def wp_Mo_wide (S : ST) (p1 : Int32) (p2 : Int32) (post : (Nat → Int32) → Int32 → Prop) : Prop := ((p1 < 0 → (∃ k9 : Nat, wl_Mo_wide_29 S post  k9 (S.1 10) 1 p2 p1)) ∧ (¬ p1 < 0 → ((19 < p1 → (∃ k9 : Nat, wl_Mo_wide_29 S post  k9 (S.1 10) 1 p2 p1)) ∧ (¬ 19 < p1 → wp_Mo_isSize S (p2.toInt64) (fun r1 => ((¬ r1 = 0 → (∃ k9 : Nat, wl_Mo_wide_29 S post  k9 (S.1 10) 0 p2 p1)) ∧ (r1 = 0 → (∃ k9 : Nat, wl_Mo_wide_29 S post  k9 (S.1 10) 1 p2 p1))))))))
abbrev y_Mo_around : MethodName := ⟨"LineBreakerModel", "around", "(IIIII)V"⟩
abbrev rm_Mo_around : Room := { frames := 2, cells := 0, slots := 0, locals := 44 }
set_option maxRecDepth 100000 in
def wl_Mo_around_27 (S : ST) (post : (Nat → Int32) → (Nat → Int32) → (Nat → Int32) → (Nat → Int32) → Int32 → Prop) (x1 : Int32) (x2 : Int32) (x3 : Int32) (x4 : Int32) (x5 : Int32) (z1 : Int32) : Prop := ((¬ z1 = 0 → post (S.1 11) (S.1 12) (S.1 13) (S.1 14) z1) ∧ (z1 = 0 → (vp_in x1 3 ∧ ∀ f1 : Nat → Int32, f1 = upd (S.1 11) x1.toNatClampNeg x2 → (vp_in x1 3 ∧ ∀ f2 : Nat → Int32, f2 = upd (S.1 12) x1.toNatClampNeg x3 → (vp_in x1 3 ∧ ∀ f3 : Nat → Int32, f3 = upd (S.1 13) x1.toNatClampNeg x4 → (vp_in x1 3 ∧ ∀ f4 : Nat → Int32, f4 = upd (S.1 14) x1.toNatClampNeg x5 → post f1 f2 f3 f4 z1))))))
set_option maxRecDepth 100000 in
def wl_Mo_around_22 (S : ST) (post : (Nat → Int32) → (Nat → Int32) → (Nat → Int32) → (Nat → Int32) → Int32 → Prop) (x1 : Int32) (x2 : Int32) (x3 : Int32) (x4 : Int32) (x5 : Int32) : Prop := wl_Mo_around_27 S post  x1 x2 x3 x4 x5 1
set_option maxRecDepth 100000 in
def wp_Mo_around (S : ST) (p1 : Int32) (p2 : Int32) (p3 : Int32) (p4 : Int32) (p5 : Int32) (post : (Nat → Int32) → (Nat → Int32) → (Nat → Int32) → (Nat → Int32) → Int32 → Prop) : Prop := ((p1 < 0 → wl_Mo_around_22 S post  p1 p2 p3 p4 p5) ∧ (¬ p1 < 0 → ((2 < p1 → wl_Mo_around_22 S post  p1 p2 p3 p4 p5) ∧ (¬ 2 < p1 → wp_Mo_isGlue S p2 p3 p4 p5 (fun r1 => ((¬ r1 = 0 → wl_Mo_around_27 S post  p1 p2 p3 p4 p5 0) ∧ (r1 = 0 → wl_Mo_around_22 S post  p1 p2 p3 p4 p5)))))))
abbrev y_Mo_isHyphen : MethodName := ⟨"LineBreakerModel", "isHyphen", "(I)Z"⟩
abbrev rm_Mo_isHyphen : Room := { frames := 0, cells := 0, slots := 0, locals := 0 }
set_option maxRecDepth 100000 in
def wp_Mo_isHyphen (S : ST) (p1 : Int32) (post : Int32 → Prop) : Prop := ((p1 < 0 → post 0) ∧ (¬ p1 < 0 → (vp_in p1 410 ∧ ((¬ ((S.1 1) p1.toNatClampNeg) = 5 → post 0) ∧ (((S.1 1) p1.toNatClampNeg) = 5 → post 1)))))
abbrev y_Mo_fine : MethodName := ⟨"LineBreakerModel", "fine", "(I)I"⟩
abbrev rm_Mo_fine : Room := { frames := 0, cells := 0, slots := 0, locals := 0 }
set_option maxRecDepth 100000 in
def wp_Mo_fine (S : ST) (p1 : Int32) (post : Int32 → Prop) : Prop := (vp_in p1 410 ∧ ((¬ ((S.1 1) p1.toNatClampNeg) = 4 → (vp_in p1 410 ∧ ((((S.1 1) p1.toNatClampNeg) = 5 → (vp_in p1 410 ∧ ((((S.1 6) p1.toNatClampNeg) = (-1073741824) → (vp_in 4 10 ∧ post ((S.1 9) (4 : Int32).toNatClampNeg))) ∧ (¬ ((S.1 6) p1.toNatClampNeg) = (-1073741824) → (vp_in 3 10 ∧ post ((S.1 9) (3 : Int32).toNatClampNeg)))))) ∧ (¬ ((S.1 1) p1.toNatClampNeg) = 5 → post 0)))) ∧ (((S.1 1) p1.toNatClampNeg) = 4 → (vp_in p1 410 ∧ post ((S.1 2) p1.toNatClampNeg)))))
abbrev y_Mo_isPlace : MethodName := ⟨"LineBreakerModel", "isPlace", "(I)Z"⟩
abbrev rm_Mo_isPlace : Room := { frames := 1, cells := 0, slots := 0, locals := 22 }
set_option maxRecDepth 100000 in
def wp_Mo_isPlace (S : ST) (p1 : Int32) (post : Int32 → Prop) : Prop := wp_Mo_replacer S p1 (fun r1 => ((0 ≤ r1 → post 0) ∧ (¬ 0 ≤ r1 → wp_Mo_fine S p1 (fun r2 => ((¬ r2 = 10000 → (vp_in p1 410 ∧ ((((S.1 1) p1.toNatClampNeg) = 1 → (∀ v3 : Int32, v3 = (p1 - 1) → ((0 ≤ v3 → wp_Mo_replacer S v3 (fun r4 => ((0 ≤ r4 → post 1) ∧ (¬ 0 ≤ r4 → (vp_in v3 410 ∧ ((((S.1 1) v3.toNatClampNeg) = 0 → post 1) ∧ (¬ ((S.1 1) v3.toNatClampNeg) = 0 → (vp_in v3 410 ∧ ((((S.1 1) v3.toNatClampNeg) = 5 → post 1) ∧ (¬ ((S.1 1) v3.toNatClampNeg) = 5 → (vp_in v3 410 ∧ ((¬ ((S.1 1) v3.toNatClampNeg) = 2 → post 0) ∧ (((S.1 1) v3.toNatClampNeg) = 2 → post 1))))))))))))) ∧ (¬ 0 ≤ v3 → post 0)))) ∧ (((S.1 1) p1.toNatClampNeg) = 2 → post 0) ∧ (((S.1 1) p1.toNatClampNeg) = 3 → (((S.2.2 17) ≤ p1 → post 0) ∧ (¬ (S.2.2 17) ≤ p1 → (vp_in (p1 + 1) 410 ∧ ((¬ ((S.1 1) (p1 + 1).toNatClampNeg) = 1 → post 0) ∧ (((S.1 1) (p1 + 1).toNatClampNeg) = 1 → post 1)))))) ∧ (((S.1 1) p1.toNatClampNeg) = 4 → post 1) ∧ (((S.1 1) p1.toNatClampNeg) = 5 → (((S.2.2 16) ≤ 1 → post 0) ∧ (¬ (S.2.2 16) ≤ 1 → post 1))) ∧ (¬ ((S.1 1) p1.toNatClampNeg) = 1 → ¬ ((S.1 1) p1.toNatClampNeg) = 2 → ¬ ((S.1 1) p1.toNatClampNeg) = 3 → ¬ ((S.1 1) p1.toNatClampNeg) = 4 → ¬ ((S.1 1) p1.toNatClampNeg) = 5 → post 0)))) ∧ (r2 = 10000 → post 0))))))
abbrev y_Mo_isDropped : MethodName := ⟨"LineBreakerModel", "isDropped", "(I)Z"⟩
abbrev rm_Mo_isDropped : Room := { frames := 0, cells := 0, slots := 0, locals := 0 }
set_option maxRecDepth 100000 in
def wp_Mo_isDropped (S : ST) (p1 : Int32) (post : Int32 → Prop) : Prop := (vp_in p1 410 ∧ ((((S.1 1) p1.toNatClampNeg) = 1 → post 1) ∧ (¬ ((S.1 1) p1.toNatClampNeg) = 1 → (vp_in p1 410 ∧ ((((S.1 1) p1.toNatClampNeg) = 3 → post 1) ∧ (¬ ((S.1 1) p1.toNatClampNeg) = 3 → (vp_in p1 410 ∧ ((¬ ((S.1 1) p1.toNatClampNeg) = 4 → post 0) ∧ (((S.1 1) p1.toNatClampNeg) = 4 → post 1)))))))))
abbrev y_Mo_firstOf : MethodName := ⟨"LineBreakerModel", "firstOf", "(I)I"⟩
abbrev rm_Mo_firstOf : Room := { frames := 1, cells := 0, slots := 0, locals := 21 }
set_option maxRecDepth 100000 in
def wl_Mo_firstOf_54 (S : ST) (post : Int32 → Prop) : Nat → Int32 → Int32 → Prop
  | 0, _, _ => False
  | n + 1, x2, x3 => ((x3 = 0 → post x2) ∧ (¬ x3 = 0 → (((S.2.2 17) < x2 → post x2) ∧ (¬ (S.2.2 17) < x2 → wp_Mo_isDropped S x2 (fun r1 => ((r1 = 0 → post x2) ∧ (¬ r1 = 0 → (∀ v2 : Int32, v2 = x2 + 1 → wl_Mo_firstOf_54 S post n v2 x3))))))))
set_option maxRecDepth 100000 in
def wl_Mo_firstOf_28 (S : ST) (post : Int32 → Prop) (x1 : Int32) (z0 : Int32) : Prop := wp_Mo_isHyphen S x1 (fun r1 => ((r1 = 0 → (∃ k9 : Nat, wl_Mo_firstOf_54 S post  k9 z0 1)) ∧ (¬ r1 = 0 → (vp_in x1 410 ∧ ((¬ ((S.1 7) x1.toNatClampNeg) = (-1073741824) → (∃ k9 : Nat, wl_Mo_firstOf_54 S post  k9 z0 0)) ∧ (((S.1 7) x1.toNatClampNeg) = (-1073741824) → (∃ k9 : Nat, wl_Mo_firstOf_54 S post  k9 z0 1)))))))
set_option maxRecDepth 100000 in
def wp_Mo_firstOf (S : ST) (p1 : Int32) (post : Int32 → Prop) : Prop := ((0 ≤ p1 → wp_Mo_isHyphen S p1 (fun r1 => ((r1 = 0 → wl_Mo_firstOf_28 S post  p1 p1) ∧ (¬ r1 = 0 → (vp_in p1 410 ∧ wl_Mo_firstOf_28 S post  p1 ((p1 + 1) + ((S.1 8) p1.toNatClampNeg))))))) ∧ (¬ 0 ≤ p1 → post 0))
abbrev y_Mo_addGlue : MethodName := ⟨"LineBreakerModel", "addGlue", "(IIII)V"⟩
abbrev rm_Mo_addGlue : Room := { frames := 0, cells := 0, slots := 0, locals := 0 }
set_option maxRecDepth 100000 in
def wp_Mo_addGlue (S : ST) (p1 : Int32) (p2 : Int32) (p3 : Int32) (p4 : Int32) (post : (Nat → Int32) → Int32 → Int32 → Prop) : Prop := (∀ v1 : Int32, v1 = ((S.2.2 28) + p1) → (vp_in p3 4 ∧ (vp_in p3 4 ∧ ∀ f2 : Nat → Int32, f2 = upd (S.1 21) p3.toNatClampNeg (((S.1 21) p3.toNatClampNeg) + p2) → (∀ v3 : Int32, v3 = ((S.2.2 30) + p4) → post f2 v1 v3))))
abbrev y_Mo_measure : MethodName := ⟨"LineBreakerModel", "measure", "(II)V"⟩
abbrev rm_Mo_measure : Room := { frames := 2, cells := 0, slots := 0, locals := 44 }
set_option maxRecDepth 100000 in
def wl_Mo_measure_136 (S : ST) (post : (Nat → Int32) → Int32 → Int32 → Int32 → Prop) : Nat → (Nat → Int32) → Int32 → Int32 → Int32 → Int32 → Int32 → Prop
  | 0, _, _, _, _, _, _ => False
  | n + 1, a21, i27, i28, i30, x2, x3 => ((x2 ≤ x3 → wp_Mo_isHyphen (sI (sI (sI (sA S 21 a21) 27 i27) 28 i28) 30 i30) x2 (fun r1 => ((r1 = 0 → post a21 i27 i28 i30) ∧ (¬ r1 = 0 → (vp_in x2 410 ∧ ((((S.1 6) x2.toNatClampNeg) = (-1073741824) → post a21 i27 i28 i30) ∧ (¬ ((S.1 6) x2.toNatClampNeg) = (-1073741824) → (vp_in x2 410 ∧ (∀ v2 : Int32, v2 = (i28 + ((S.1 6) x2.toNatClampNeg)) → post a21 i27 v2 i30))))))))) ∧ (¬ x2 ≤ x3 → (vp_in x3 410 ∧ ((¬ ((S.1 1) x3.toNatClampNeg) = 1 → (vp_in x3 410 ∧ ((((S.1 1) x3.toNatClampNeg) = 4 → (∀ v3 : Int32, v3 = x3 + 1 → wl_Mo_measure_136 S post n a21 i27 i28 i30 x2 v3)) ∧ (¬ ((S.1 1) x3.toNatClampNeg) = 4 → (vp_in x3 410 ∧ ((((S.1 1) x3.toNatClampNeg) = 5 → (∀ v4 : Int32, v4 = x3 + 1 → wl_Mo_measure_136 S post n a21 i27 i28 i30 x2 v4)) ∧ (¬ ((S.1 1) x3.toNatClampNeg) = 5 → (vp_in x3 410 ∧ (∀ v5 : Int32, v5 = (i28 + ((S.1 2) x3.toNatClampNeg)) → (∀ v6 : Int32, v6 = x3 + 1 → wl_Mo_measure_136 S post n a21 i27 v5 i30 x2 v6)))))))))) ∧ (((S.1 1) x3.toNatClampNeg) = 1 → (vp_in x3 410 ∧ (vp_in x3 410 ∧ (vp_in x3 410 ∧ (vp_in x3 410 ∧ wp_Mo_addGlue (sI (sI (sI (sA S 21 a21) 27 i27) 28 i28) 30 i30) ((S.1 2) x3.toNatClampNeg) ((S.1 3) x3.toNatClampNeg) ((S.1 4) x3.toNatClampNeg) ((S.1 5) x3.toNatClampNeg) (fun f7 v8 v9 => (∀ v10 : Int32, v10 = x3 + 1 → wl_Mo_measure_136 S post n f7 i27 v8 v9 x2 v10)))))))))))
set_option maxRecDepth 100000 in
def wl_Mo_measure_119 (S : ST) (post : (Nat → Int32) → Int32 → Int32 → Int32 → Prop) (a21 : (Nat → Int32)) (i28 : Int32) (i30 : Int32) (x1 : Int32) (x2 : Int32) (z1 : Int32) : Prop := wp_Mo_firstOf (sI (sI (sA S 21 a21) 28 z1) 30 i30) x1 (fun r1 => (∃ k9 : Nat, wl_Mo_measure_136 S post  k9 a21 r1 z1 i30 x2 r1))
set_option maxRecDepth 100000 in
def wl_Mo_measure_115 (S : ST) (post : (Nat → Int32) → Int32 → Int32 → Int32 → Prop) (a21 : (Nat → Int32)) (i28 : Int32) (i30 : Int32) (x1 : Int32) (x2 : Int32) : Prop := wl_Mo_measure_119 S post  a21 i28 i30 x1 x2 i28
set_option maxRecDepth 100000 in
def wl_Mo_measure_42 (S : ST) (post : (Nat → Int32) → Int32 → Int32 → Int32 → Prop) : Nat → (Nat → Int32) → Int32 → Int32 → Int32 → Int32 → Int32 → Prop
  | 0, _, _, _, _, _, _ => False
  | n + 1, a21, i28, i30, x1, x2, x3 => ((2 ≤ x3 → wp_Mo_isHyphen (sI (sI (sA S 21 a21) 28 i28) 30 i30) x1 (fun r1 => ((r1 = 0 → wl_Mo_measure_115 S post  a21 i28 i30 x1 x2) ∧ (¬ r1 = 0 → (vp_in x1 410 ∧ ((((S.1 7) x1.toNatClampNeg) = (-1073741824) → wl_Mo_measure_115 S post  a21 i28 i30 x1 x2) ∧ (¬ ((S.1 7) x1.toNatClampNeg) = (-1073741824) → (vp_in x1 410 ∧ wl_Mo_measure_119 S post  a21 i28 i30 x1 x2 (i28 + ((S.1 7) x1.toNatClampNeg)))))))))) ∧ (¬ 2 ≤ x3 → (vp_in x3 3 ∧ (vp_in x3 3 ∧ (vp_in x3 3 ∧ (vp_in x3 3 ∧ wp_Mo_addGlue (sI (sI (sA S 21 a21) 28 i28) 30 i30) ((S.1 11) x3.toNatClampNeg) ((S.1 12) x3.toNatClampNeg) ((S.1 13) x3.toNatClampNeg) ((S.1 14) x3.toNatClampNeg) (fun f2 v3 v4 => (∀ v5 : Int32, v5 = x3 + 1 → wl_Mo_measure_42 S post n f2 v3 v4 x1 x2 v5))))))))
set_option maxRecDepth 100000 in
def wl_Mo_measure_12 (S : ST) (post : (Nat → Int32) → Int32 → Int32 → Int32 → Prop) : Nat → (Nat → Int32) → Int32 → Int32 → Int32 → Int32 → Int32 → Prop
  | 0, _, _, _, _, _, _ => False
  | n + 1, a21, i28, i30, x1, x2, x3 => ((4 ≤ x3 → (vp_in 0 4 ∧ ∀ f1 : Nat → Int32, f1 = upd a21 ((0 : Int32).toNatClampNeg) (S.2.2 19) → (∃ k9 : Nat, wl_Mo_measure_42 S post  k9 f1 i28 i30 x1 x2 0))) ∧ (¬ 4 ≤ x3 → (vp_in x3 4 ∧ ∀ f2 : Nat → Int32, f2 = upd a21 x3.toNatClampNeg 0 → (∀ v3 : Int32, v3 = x3 + 1 → wl_Mo_measure_12 S post n f2 i28 i30 x1 x2 v3))))
set_option maxRecDepth 100000 in
def wp_Mo_measure (S : ST) (p1 : Int32) (p2 : Int32) (post : (Nat → Int32) → Int32 → Int32 → Int32 → Prop) : Prop := (∃ k9 : Nat, wl_Mo_measure_12 S post  k9 (S.1 21) 0 0 p1 p2 0)
abbrev y_Mo_bad : MethodName := ⟨"LineBreakerModel", "bad", "(JJ)I"⟩
abbrev rm_Mo_bad : Room := { frames := 0, cells := 0, slots := 0, locals := 0 }
set_option maxRecDepth 100000 in
def wl_Mo_bad_55 (S : ST) (post : Int32 → Prop) (z0 : Int64) : Prop := (((lg_cmp z0 1290) ≤ 0 → (¬ (262144 : Int64) = 0 ∧ post (((((z0 * z0) * z0) + 131072) / 262144).toInt32))) ∧ (¬ (lg_cmp z0 1290) ≤ 0 → post 10000))
set_option maxRecDepth 100000 in
def wp_Mo_bad (S : ST) (p1 : Int64) (p2 : Int64) (post : Int32 → Prop) : Prop := ((¬ (lg_cmp p1 0) = 0 → ((¬ (lg_cmp p2 0) = 0 → ((0 < (lg_cmp p1 7230584) → (((lg_cmp p2 1663497) < 0 → wl_Mo_bad_55 S post  p1) ∧ (¬ (lg_cmp p2 1663497) < 0 → (¬ (297 : Int64) = 0 ∧ (¬ ((p2 / 297) : Int64) = 0 ∧ wl_Mo_bad_55 S post  (p1 / (p2 / 297))))))) ∧ (¬ 0 < (lg_cmp p1 7230584) → (¬ (p2 : Int64) = 0 ∧ wl_Mo_bad_55 S post  ((297 * p1) / p2))))) ∧ ((lg_cmp p2 0) = 0 → post 10000))) ∧ ((lg_cmp p1 0) = 0 → post 0))
abbrev y_Mo_judge : MethodName := ⟨"LineBreakerModel", "judge", "(I)V"⟩
abbrev rm_Mo_judge : Room := { frames := 1, cells := 0, slots := 0, locals := 25 }
set_option maxRecDepth 100000 in
def wl_Mo_judge_92 (S : ST) (post : Int32 → Int32 → Int32 → Prop) (i31 : Int32) (z1 : Int32) : Prop := ((z1 ≤ 99 → ((z1 ≤ 12 → post i31 z1 2) ∧ (¬ z1 ≤ 12 → post i31 z1 1))) ∧ (¬ z1 ≤ 99 → post i31 z1 0))
set_option maxRecDepth 100000 in
def wl_Mo_judge_69 (S : ST) (post : Int32 → Int32 → Int32 → Prop) (i31 : Int32) (x2 : Int64) (z0 : Int32) : Prop := ((z0 = 0 → (vp_in 0 4 ∧ wp_Mo_bad (sI S 31 i31) x2 (((S.1 21) (0 : Int32).toNatClampNeg).toInt64) (fun r1 => wl_Mo_judge_92 S post  i31 r1))) ∧ (¬ z0 = 0 → wl_Mo_judge_92 S post  i31 0))
set_option maxRecDepth 100000 in
def wl_Mo_judge_64 (S : ST) (post : Int32 → Int32 → Int32 → Prop) (i31 : Int32) (x2 : Int64) : Prop := wl_Mo_judge_69 S post  i31 x2 1
set_option maxRecDepth 100000 in
def wl_Mo_judge_16 (S : ST) (post : Int32 → Int32 → Int32 → Prop) (z1 : Int32) : Prop := (vp_in z1 20 ∧ (∀ v1 : Int64, v1 = ((((S.1 10) z1.toNatClampNeg).toInt64) - ((S.2.2 28).toInt64)) → (∀ v2 : Int32, v2 = (v1.toInt32) → (((lg_cmp v1 0) ≤ 0 → ((0 ≤ (lg_cmp ((S.2.2 30).toInt64) (-v1)) → wp_Mo_bad (sI S 31 v2) (-v1) ((S.2.2 30).toInt64) (fun r3 => ((r3 ≤ 12 → post v2 r3 2) ∧ (¬ r3 ≤ 12 → post v2 r3 3)))) ∧ (¬ 0 ≤ (lg_cmp ((S.2.2 30).toInt64) (-v1)) → post v2 10001 3))) ∧ (¬ (lg_cmp v1 0) ≤ 0 → (vp_in 1 4 ∧ ((0 < ((S.1 21) (1 : Int32).toNatClampNeg) → wl_Mo_judge_64 S post  v2 v1) ∧ (¬ 0 < ((S.1 21) (1 : Int32).toNatClampNeg) → (vp_in 2 4 ∧ ((0 < ((S.1 21) (2 : Int32).toNatClampNeg) → wl_Mo_judge_64 S post  v2 v1) ∧ (¬ 0 < ((S.1 21) (2 : Int32).toNatClampNeg) → (vp_in 3 4 ∧ ((((S.1 21) (3 : Int32).toNatClampNeg) ≤ 0 → wl_Mo_judge_69 S post  v2 v1 0) ∧ (¬ ((S.1 21) (3 : Int32).toNatClampNeg) ≤ 0 → wl_Mo_judge_64 S post  v2 v1))))))))))))))
set_option maxRecDepth 100000 in
def wp_Mo_judge (S : ST) (p1 : Int32) (post : Int32 → Int32 → Int32 → Prop) : Prop := ((20 ≤ p1 → wl_Mo_judge_16 S post  19) ∧ (¬ 20 ≤ p1 → wl_Mo_judge_16 S post  p1))
abbrev y_Mo_demerits : MethodName := ⟨"LineBreakerModel", "demerits", "(II)J"⟩
abbrev rm_Mo_demerits : Room := { frames := 1, cells := 0, slots := 0, locals := 21 }
set_option maxRecDepth 100000 in
def wl_Mo_demerits_193 (S : ST) (post : Int64 → Prop) (x5 : Int64) (z0 : Int32) : Prop := ((z0 ≤ 1 → post x5) ∧ (¬ z0 ≤ 1 → (vp_in 7 10 ∧ post (x5 + (((S.1 9) (7 : Int32).toNatClampNeg).toInt64)))))
set_option maxRecDepth 100000 in
def wl_Mo_demerits_153 (S : ST) (post : Int64 → Prop) (x1 : Int32) (z0 : Int64) : Prop := (vp_in x1 8001 ∧ ((((S.1 17) x1.toNatClampNeg) ≤ (S.2.2 33) → (vp_in x1 8001 ∧ wl_Mo_demerits_193 S post  z0 ((S.2.2 33) - ((S.1 17) x1.toNatClampNeg)))) ∧ (¬ ((S.1 17) x1.toNatClampNeg) ≤ (S.2.2 33) → (vp_in x1 8001 ∧ wl_Mo_demerits_193 S post  z0 (((S.1 17) x1.toNatClampNeg) - (S.2.2 33))))))
set_option maxRecDepth 100000 in
def wl_Mo_demerits_151 (S : ST) (post : Int64 → Prop) (x1 : Int32) (x5 : Int64) : Prop := wl_Mo_demerits_153 S post  x1 x5
set_option maxRecDepth 100000 in
def wl_Mo_demerits_122 (S : ST) (post : Int64 → Prop) (x1 : Int32) (x2 : Int32) (x9 : Int32) (z0 : Int64) : Prop := ((x9 = 0 → wl_Mo_demerits_151 S post  x1 z0) ∧ (¬ x9 = 0 → ((¬ x2 = (S.2.2 17) → wl_Mo_demerits_151 S post  x1 z0) ∧ (x2 = (S.2.2 17) → (vp_in 6 10 ∧ wl_Mo_demerits_153 S post  x1 (z0 + (((S.1 9) (6 : Int32).toNatClampNeg).toInt64)))))))
set_option maxRecDepth 100000 in
def wl_Mo_demerits_120 (S : ST) (post : Int64 → Prop) (x1 : Int32) (x2 : Int32) (x5 : Int64) (x9 : Int32) : Prop := wl_Mo_demerits_122 S post  x1 x2 x9 x5
set_option maxRecDepth 100000 in
def wl_Mo_demerits_80 (S : ST) (post : Int64 → Prop) (x1 : Int32) (x2 : Int32) (z0 : Int64) : Prop := (vp_in x1 8001 ∧ wp_Mo_isHyphen S ((S.1 15) x1.toNatClampNeg) (fun r1 => ((r1 = 0 → wl_Mo_demerits_120 S post  x1 x2 z0 r1) ∧ (¬ r1 = 0 → wp_Mo_isHyphen S x2 (fun r2 => ((r2 = 0 → wl_Mo_demerits_120 S post  x1 x2 z0 r1) ∧ (¬ r2 = 0 → (vp_in 5 10 ∧ wl_Mo_demerits_122 S post  x1 x2 r1 (z0 + (((S.1 9) (5 : Int32).toNatClampNeg).toInt64))))))))))
set_option maxRecDepth 100000 in
def wl_Mo_demerits_30 (S : ST) (post : Int64 → Prop) (x1 : Int32) (x2 : Int32) (z0 : Int64) : Prop := wp_Mo_fine S x2 (fun r1 => (∀ v2 : Int64, v2 = (r1.toInt64) → (((lg_cmp v2 0) ≤ 0 → (((lg_cmp v2 (-10000)) ≤ 0 → wl_Mo_demerits_80 S post  x1 x2 z0) ∧ (¬ (lg_cmp v2 (-10000)) ≤ 0 → wl_Mo_demerits_80 S post  x1 x2 (z0 - (v2 * v2))))) ∧ (¬ (lg_cmp v2 0) ≤ 0 → wl_Mo_demerits_80 S post  x1 x2 (z0 + (v2 * v2))))))
set_option maxRecDepth 100000 in
def wp_Mo_demerits (S : ST) (p1 : Int32) (p2 : Int32) (post : Int64 → Prop) : Prop := (vp_in 2 10 ∧ (∀ v1 : Int64, v1 = ((((S.1 9) (2 : Int32).toNatClampNeg) + (S.2.2 32)).toInt64) → (((lg_cmp v1 10000) < 0 → wl_Mo_demerits_30 S post  p1 p2 (v1 * v1)) ∧ (¬ (lg_cmp v1 10000) < 0 → wl_Mo_demerits_30 S post  p1 p2 100000000))))
abbrev y_Mo_write : MethodName := ⟨"LineBreakerModel", "write", "(IIIJ)V"⟩
abbrev rm_Mo_write : Room := { frames := 0, cells := 0, slots := 0, locals := 0 }
set_option maxRecDepth 100000 in
def wp_Mo_write (S : ST) (p1 : Int32) (p2 : Int32) (p3 : Int32) (p4 : Int64) (post : (Nat → Int32) → (Nat → Int32) → (Nat → Int32) → (Nat → Int32) → (Nat → Int32) → (Nat → Int64) → Prop) : Prop := (vp_in p1 8001 ∧ ∀ f1 : Nat → Int32, f1 = upd (S.1 15) p1.toNatClampNeg p2 → (vp_in p3 8001 ∧ (vp_in p1 8001 ∧ ∀ f2 : Nat → Int32, f2 = upd (S.1 16) p1.toNatClampNeg (((S.1 16) p3.toNatClampNeg) + 1) → (vp_in p1 8001 ∧ ∀ f3 : Nat → Int32, f3 = upd (S.1 17) p1.toNatClampNeg (S.2.2 33) → (vp_in p1 8001 ∧ ∀ f4 : Nat → Int64, f4 = vp_updL (S.2.1 18) p1.toNatClampNeg p4 → (vp_in p1 8001 ∧ ∀ f5 : Nat → Int32, f5 = upd (S.1 19) p1.toNatClampNeg p3 → (vp_in p1 8001 ∧ ∀ f6 : Nat → Int32, f6 = upd (S.1 20) p1.toNatClampNeg (vp_nar .boolean 0) → post f1 f2 f3 f5 f6 f4)))))))
abbrev y_Mo_isBefore : MethodName := ⟨"LineBreakerModel", "isBefore", "(II)Z"⟩
abbrev rm_Mo_isBefore : Room := { frames := 0, cells := 0, slots := 0, locals := 0 }
set_option maxRecDepth 100000 in
def wp_Mo_isBefore (S : ST) (p1 : Int32) (p2 : Int32) (post : Int32 → Prop) : Prop := (vp_in p1 8001 ∧ (vp_in p2 8001 ∧ ((((S.1 15) p1.toNatClampNeg) < ((S.1 15) p2.toNatClampNeg) → post 1) ∧ (¬ ((S.1 15) p1.toNatClampNeg) < ((S.1 15) p2.toNatClampNeg) → (vp_in p1 8001 ∧ (vp_in p2 8001 ∧ ((¬ ((S.1 15) p1.toNatClampNeg) = ((S.1 15) p2.toNatClampNeg) → post 0) ∧ (((S.1 15) p1.toNatClampNeg) = ((S.1 15) p2.toNatClampNeg) → (vp_in p1 8001 ∧ (vp_in p2 8001 ∧ ((((S.1 17) p1.toNatClampNeg) ≤ ((S.1 17) p2.toNatClampNeg) → post 0) ∧ (¬ ((S.1 17) p1.toNatClampNeg) ≤ ((S.1 17) p2.toNatClampNeg) → post 1))))))))))))
abbrev y_Mo_reach : MethodName := ⟨"LineBreakerModel", "reach", "(III)Z"⟩
abbrev rm_Mo_reach : Room := { frames := 2, cells := 0, slots := 0, locals := 51 }
set_option maxRecDepth 100000 in
def wl_Mo_reach_150 (S : ST) (post : Int32 → (Nat → Int32) → (Nat → Int32) → (Nat → Int32) → (Nat → Int32) → (Nat → Int32) → (Nat → Int64) → Int32 → Prop) (x2 : Int32) (x3 : Int32) (x4 : Int64) (x6 : Int32) : Prop := wp_Mo_write S x6 x2 x3 x4 (fun f1 f2 f3 f4 f5 f6 => post 1 f1 f2 f3 f4 f5 f6 (S.2.2 20))
set_option maxRecDepth 100000 in
def wl_Mo_reach_65 (S : ST) (post : Int32 → (Nat → Int32) → (Nat → Int32) → (Nat → Int32) → (Nat → Int32) → (Nat → Int32) → (Nat → Int64) → Int32 → Prop) (x2 : Int32) (x3 : Int32) (x4 : Int64) (x6 : Int32) : Prop := ((x6 ≤ (S.2.2 20) → (vp_in x6 8001 ∧ (((lg_cmp x4 ((S.2.1 18) x6.toNatClampNeg)) < 0 → wl_Mo_reach_150 S post  x2 x3 x4 x6) ∧ (¬ (lg_cmp x4 ((S.2.1 18) x6.toNatClampNeg)) < 0 → (vp_in x6 8001 ∧ ((¬ (lg_cmp x4 ((S.2.1 18) x6.toNatClampNeg)) = 0 → post 1 (S.1 15) (S.1 16) (S.1 17) (S.1 19) (S.1 20) (S.2.1 18) (S.2.2 20)) ∧ ((lg_cmp x4 ((S.2.1 18) x6.toNatClampNeg)) = 0 → (vp_in x6 8001 ∧ wp_Mo_isBefore S x3 ((S.1 19) x6.toNatClampNeg) (fun r1 => ((r1 = 0 → post 1 (S.1 15) (S.1 16) (S.1 17) (S.1 19) (S.1 20) (S.2.1 18) (S.2.2 20)) ∧ (¬ r1 = 0 → wl_Mo_reach_150 S post  x2 x3 x4 x6))))))))))) ∧ (¬ x6 ≤ (S.2.2 20) → ((¬ (S.2.2 20) = 8000 → (∀ v2 : Int32, v2 = ((S.2.2 20) + 1) → wp_Mo_write (sI S 20 v2) x6 x2 x3 x4 (fun f3 f4 f5 f6 f7 f8 => post 1 f3 f4 f5 f6 f7 f8 v2))) ∧ ((S.2.2 20) = 8000 → post 0 (S.1 15) (S.1 16) (S.1 17) (S.1 19) (S.1 20) (S.2.1 18) (S.2.2 20)))))
set_option maxRecDepth 100000 in
def wl_Mo_reach_18 (S : ST) (post : Int32 → (Nat → Int32) → (Nat → Int32) → (Nat → Int32) → (Nat → Int32) → (Nat → Int32) → (Nat → Int64) → Int32 → Prop) : Nat → Int32 → Int32 → Int64 → Int32 → Prop
  | 0, _, _, _, _ => False
  | n + 1, x2, x3, x4, x6 => (((S.2.2 20) < x6 → wl_Mo_reach_65 S post  x2 x3 x4 x6) ∧ (¬ (S.2.2 20) < x6 → (vp_in x6 8001 ∧ (vp_in x3 8001 ∧ ((¬ ((S.1 16) x6.toNatClampNeg) = (((S.1 16) x3.toNatClampNeg) + 1) → (∀ v1 : Int32, v1 = x6 + 1 → wl_Mo_reach_18 S post n x2 x3 x4 v1)) ∧ (((S.1 16) x6.toNatClampNeg) = (((S.1 16) x3.toNatClampNeg) + 1) → (vp_in x6 8001 ∧ ((((S.1 17) x6.toNatClampNeg) = (S.2.2 33) → wl_Mo_reach_65 S post  x2 x3 x4 x6) ∧ (¬ ((S.1 17) x6.toNatClampNeg) = (S.2.2 33) → (∀ v2 : Int32, v2 = x6 + 1 → wl_Mo_reach_18 S post n x2 x3 x4 v2))))))))))
set_option maxRecDepth 100000 in
def wp_Mo_reach (S : ST) (p1 : Int32) (p2 : Int32) (p3 : Int32) (post : Int32 → (Nat → Int32) → (Nat → Int32) → (Nat → Int32) → (Nat → Int32) → (Nat → Int32) → (Nat → Int64) → Int32 → Prop) : Prop := (vp_in p3 8001 ∧ wp_Mo_demerits S p3 p2 (fun r1 => (∀ v2 : Int64, v2 = (((S.2.1 18) p3.toNatClampNeg) + r1) → (∃ k9 : Nat, wl_Mo_reach_18 S post  k9 p2 p3 v2 p1))))
abbrev y_Mo_ask : MethodName := ⟨"LineBreakerModel", "ask", "(I)Z"⟩
abbrev rm_Mo_ask : Room := { frames := 3, cells := 0, slots := 0, locals := 77 }
set_option maxRecDepth 100000 in
def wl_Mo_ask_237 (S : ST) (post : Int32 → (Nat → Int32) → (Nat → Int32) → (Nat → Int32) → (Nat → Int32) → (Nat → Int32) → (Nat → Int32) → (Nat → Int64) → Int32 → Int32 → Int32 → Int32 → Int32 → Int32 → Int32 → Prop) (a15 : (Nat → Int32)) (a16 : (Nat → Int32)) (a17 : (Nat → Int32)) (a19 : (Nat → Int32)) (a20 : (Nat → Int32)) (a21 : (Nat → Int32)) (l18 : (Nat → Int64)) (i20 : Int32) (i27 : Int32) (i28 : Int32) (i30 : Int32) (i31 : Int32) (i32 : Int32) (i33 : Int32) (x1 : Int32) (x4 : Int32) (x5 : Int32) (x6 : Int32) (x7 : Int32) (z0 : Int32) : Prop := ((z0 = 0 → post 1 a15 a16 a17 a19 a20 a21 l18 i20 i27 i28 i30 i31 i32 i33) ∧ (¬ z0 = 0 → ((¬ x7 = 0 → post 1 a15 a16 a17 a19 a20 a21 l18 i20 i27 i28 i30 i31 i32 i33) ∧ (x7 = 0 → ((x4 ≤ 0 → post 1 a15 a16 a17 a19 a20 a21 l18 i20 i27 i28 i30 i31 i32 i33) ∧ (¬ x4 ≤ 0 → ((¬ x4 = x5 → post 1 a15 a16 a17 a19 a20 a21 l18 i20 i27 i28 i30 i31 i32 i33) ∧ (x4 = x5 → ((¬ i20 = 8000 → (vp_in x6 8001 ∧ wp_Mo_measure (sI (sI (sI (sI (sI (sI (sI (sL (sA (sA (sA (sA (sA (sA S 15 a15) 16 a16) 17 a17) 19 a19) 20 a20) 21 a21) 18 l18) 20 i20) 27 i27) 28 i28) 30 i30) 31 i31) 32 i32) 33 i33) (a15 x6.toNatClampNeg) x1 (fun f1 v2 v3 v4 => (vp_in x6 8001 ∧ wp_Mo_judge (sI (sI (sI (sI (sI (sI (sI (sL (sA (sA (sA (sA (sA (sA S 15 a15) 16 a16) 17 a17) 19 a19) 20 a20) 21 f1) 18 l18) 20 i20) 27 v2) 28 v3) 30 v4) 31 i31) 32 i32) 33 i33) (a16 x6.toNatClampNeg) (fun v5 v6 v7 => (∀ v8 : Int32, v8 = (i20 + 1) → (vp_in x6 8001 ∧ wp_Mo_write (sI (sI (sI (sI (sI (sI (sI (sL (sA (sA (sA (sA (sA (sA S 15 a15) 16 a16) 17 a17) 19 a19) 20 a20) 21 f1) 18 l18) 20 v8) 27 v2) 28 v3) 30 v4) 31 v5) 32 v6) 33 v7) v8 x1 x6 (l18 x6.toNatClampNeg) (fun f9 f10 f11 f12 f13 f14 => post 1 f9 f10 f11 f12 f13 f1 f14 v8 v2 v3 v4 v5 v6 v7)))))))) ∧ (i20 = 8000 → post 0 a15 a16 a17 a19 a20 a21 l18 i20 i27 i28 i30 i31 i32 i33))))))))))
set_option maxRecDepth 100000 in
def wl_Mo_ask_229 (S : ST) (post : Int32 → (Nat → Int32) → (Nat → Int32) → (Nat → Int32) → (Nat → Int32) → (Nat → Int32) → (Nat → Int32) → (Nat → Int64) → Int32 → Int32 → Int32 → Int32 → Int32 → Int32 → Int32 → Prop) (a15 : (Nat → Int32)) (a16 : (Nat → Int32)) (a17 : (Nat → Int32)) (a19 : (Nat → Int32)) (a20 : (Nat → Int32)) (a21 : (Nat → Int32)) (l18 : (Nat → Int64)) (i20 : Int32) (i27 : Int32) (i28 : Int32) (i30 : Int32) (i31 : Int32) (i32 : Int32) (i33 : Int32) (x1 : Int32) (x4 : Int32) (x5 : Int32) (x6 : Int32) (x7 : Int32) (z0 : Int32) (z1 : Int32) : Prop := ((¬ z0 = z1 → wl_Mo_ask_237 S post  a15 a16 a17 a19 a20 a21 l18 i20 i27 i28 i30 i31 i32 i33 x1 x4 x5 x6 x7 0) ∧ (z0 = z1 → wl_Mo_ask_237 S post  a15 a16 a17 a19 a20 a21 l18 i20 i27 i28 i30 i31 i32 i33 x1 x4 x5 x6 x7 1))
set_option maxRecDepth 100000 in
def wl_Mo_ask_194 (S : ST) (post : Int32 → (Nat → Int32) → (Nat → Int32) → (Nat → Int32) → (Nat → Int32) → (Nat → Int32) → (Nat → Int32) → (Nat → Int64) → Int32 → Int32 → Int32 → Int32 → Int32 → Int32 → Int32 → Prop) (K39 : (Nat → Int32) → (Nat → Int32) → (Nat → Int32) → (Nat → Int32) → (Nat → Int32) → (Nat → Int32) → (Nat → Int64) → Int32 → Int32 → Int32 → Int32 → Int32 → Int32 → Int32 → Int32 → Int32 → Int32 → Int32 → Int32 → Int32 → Int32 → Int32 → Prop) (a15 : (Nat → Int32)) (a16 : (Nat → Int32)) (a17 : (Nat → Int32)) (a19 : (Nat → Int32)) (a20 : (Nat → Int32)) (a21 : (Nat → Int32)) (l18 : (Nat → Int64)) (i20 : Int32) (i27 : Int32) (i28 : Int32) (i30 : Int32) (i31 : Int32) (i32 : Int32) (i33 : Int32) (x1 : Int32) (x2 : Int32) (x3 : Int32) (x4 : Int32) (x5 : Int32) (x7 : Int32) (x8 : Int32) (z0 : Int32) : Prop := (vp_in x8 8001 ∧ ∀ f1 : Nat → Int32, f1 = upd a20 x8.toNatClampNeg (vp_nar .boolean 1) → (∀ v2 : Int32, v2 = x8 + 1 → K39 a15 a16 a17 a19 f1 a21 l18 i20 i27 i28 i30 i31 i32 i33 x1 x2 x3 x4 x5 z0 x7 v2))
set_option maxRecDepth 100000 in
def wl_Mo_ask_180 (S : ST) (post : Int32 → (Nat → Int32) → (Nat → Int32) → (Nat → Int32) → (Nat → Int32) → (Nat → Int32) → (Nat → Int32) → (Nat → Int64) → Int32 → Int32 → Int32 → Int32 → Int32 → Int32 → Int32 → Prop) (K39 : (Nat → Int32) → (Nat → Int32) → (Nat → Int32) → (Nat → Int32) → (Nat → Int32) → (Nat → Int32) → (Nat → Int64) → Int32 → Int32 → Int32 → Int32 → Int32 → Int32 → Int32 → Int32 → Int32 → Int32 → Int32 → Int32 → Int32 → Int32 → Int32 → Prop) (a15 : (Nat → Int32)) (a16 : (Nat → Int32)) (a17 : (Nat → Int32)) (a19 : (Nat → Int32)) (a20 : (Nat → Int32)) (a21 : (Nat → Int32)) (l18 : (Nat → Int64)) (i20 : Int32) (i27 : Int32) (i28 : Int32) (i30 : Int32) (i31 : Int32) (i32 : Int32) (i33 : Int32) (x1 : Int32) (x2 : Int32) (x3 : Int32) (x4 : Int32) (x5 : Int32) (x6 : Int32) (x7 : Int32) (x8 : Int32) (z0 : Int32) : Prop := ((z0 = 0 → wl_Mo_ask_194 S post K39 a15 a16 a17 a19 a20 a21 l18 i20 i27 i28 i30 i31 i32 i33 x1 x2 x3 x4 x5 x7 x8 x6) ∧ (¬ z0 = 0 → wl_Mo_ask_194 S post K39 a15 a16 a17 a19 a20 a21 l18 i20 i27 i28 i30 i31 i32 i33 x1 x2 x3 x4 x5 x7 x8 x8))
set_option maxRecDepth 100000 in
def wl_Mo_ask_175 (S : ST) (post : Int32 → (Nat → Int32) → (Nat → Int32) → (Nat → Int32) → (Nat → Int32) → (Nat → Int32) → (Nat → Int32) → (Nat → Int64) → Int32 → Int32 → Int32 → Int32 → Int32 → Int32 → Int32 → Prop) (K39 : (Nat → Int32) → (Nat → Int32) → (Nat → Int32) → (Nat → Int32) → (Nat → Int32) → (Nat → Int32) → (Nat → Int64) → Int32 → Int32 → Int32 → Int32 → Int32 → Int32 → Int32 → Int32 → Int32 → Int32 → Int32 → Int32 → Int32 → Int32 → Int32 → Prop) (a15 : (Nat → Int32)) (a16 : (Nat → Int32)) (a17 : (Nat → Int32)) (a19 : (Nat → Int32)) (a20 : (Nat → Int32)) (a21 : (Nat → Int32)) (l18 : (Nat → Int64)) (i20 : Int32) (i27 : Int32) (i28 : Int32) (i30 : Int32) (i31 : Int32) (i32 : Int32) (i33 : Int32) (x1 : Int32) (x2 : Int32) (x3 : Int32) (x4 : Int32) (x5 : Int32) (x6 : Int32) (x7 : Int32) (x8 : Int32) : Prop := wl_Mo_ask_180 S post K39 a15 a16 a17 a19 a20 a21 l18 i20 i27 i28 i30 i31 i32 i33 x1 x2 x3 x4 x5 x6 x7 x8 1
set_option maxRecDepth 100000 in
def wl_Mo_ask_179 (S : ST) (post : Int32 → (Nat → Int32) → (Nat → Int32) → (Nat → Int32) → (Nat → Int32) → (Nat → Int32) → (Nat → Int32) → (Nat → Int64) → Int32 → Int32 → Int32 → Int32 → Int32 → Int32 → Int32 → Prop) (K39 : (Nat → Int32) → (Nat → Int32) → (Nat → Int32) → (Nat → Int32) → (Nat → Int32) → (Nat → Int32) → (Nat → Int64) → Int32 → Int32 → Int32 → Int32 → Int32 → Int32 → Int32 → Int32 → Int32 → Int32 → Int32 → Int32 → Int32 → Int32 → Int32 → Prop) (a15 : (Nat → Int32)) (a16 : (Nat → Int32)) (a17 : (Nat → Int32)) (a19 : (Nat → Int32)) (a20 : (Nat → Int32)) (a21 : (Nat → Int32)) (l18 : (Nat → Int64)) (i20 : Int32) (i27 : Int32) (i28 : Int32) (i30 : Int32) (i31 : Int32) (i32 : Int32) (i33 : Int32) (x1 : Int32) (x2 : Int32) (x3 : Int32) (x4 : Int32) (x5 : Int32) (x6 : Int32) (x7 : Int32) (x8 : Int32) : Prop := wl_Mo_ask_180 S post K39 a15 a16 a17 a19 a20 a21 l18 i20 i27 i28 i30 i31 i32 i33 x1 x2 x3 x4 x5 x6 x7 x8 0
set_option maxRecDepth 100000 in
def wl_Mo_ask_122 (S : ST) (post : Int32 → (Nat → Int32) → (Nat → Int32) → (Nat → Int32) → (Nat → Int32) → (Nat → Int32) → (Nat → Int32) → (Nat → Int64) → Int32 → Int32 → Int32 → Int32 → Int32 → Int32 → Int32 → Prop) (K39 : (Nat → Int32) → (Nat → Int32) → (Nat → Int32) → (Nat → Int32) → (Nat → Int32) → (Nat → Int32) → (Nat → Int64) → Int32 → Int32 → Int32 → Int32 → Int32 → Int32 → Int32 → Int32 → Int32 → Int32 → Int32 → Int32 → Int32 → Int32 → Int32 → Prop) (a15 : (Nat → Int32)) (a16 : (Nat → Int32)) (a17 : (Nat → Int32)) (a19 : (Nat → Int32)) (a20 : (Nat → Int32)) (a21 : (Nat → Int32)) (l18 : (Nat → Int64)) (i20 : Int32) (i27 : Int32) (i28 : Int32) (i30 : Int32) (i31 : Int32) (i32 : Int32) (i33 : Int32) (x1 : Int32) (x2 : Int32) (x3 : Int32) (x4 : Int32) (x5 : Int32) (x6 : Int32) (x7 : Int32) (x8 : Int32) : Prop := (∀ v1 : Int32, v1 = x5 + 1 → ((x6 < 0 → wl_Mo_ask_175 S post K39 a15 a16 a17 a19 a20 a21 l18 i20 i27 i28 i30 i31 i32 i33 x1 x2 x3 x4 v1 x6 x7 x8) ∧ (¬ x6 < 0 → (vp_in x8 8001 ∧ (vp_in x6 8001 ∧ (((a16 x6.toNatClampNeg) < (a16 x8.toNatClampNeg) → wl_Mo_ask_175 S post K39 a15 a16 a17 a19 a20 a21 l18 i20 i27 i28 i30 i31 i32 i33 x1 x2 x3 x4 v1 x6 x7 x8) ∧ (¬ (a16 x6.toNatClampNeg) < (a16 x8.toNatClampNeg) → (vp_in x8 8001 ∧ (vp_in x6 8001 ∧ ((¬ (a16 x8.toNatClampNeg) = (a16 x6.toNatClampNeg) → wl_Mo_ask_179 S post K39 a15 a16 a17 a19 a20 a21 l18 i20 i27 i28 i30 i31 i32 i33 x1 x2 x3 x4 v1 x6 x7 x8) ∧ ((a16 x8.toNatClampNeg) = (a16 x6.toNatClampNeg) → wp_Mo_isBefore (sI (sI (sI (sI (sI (sI (sI (sL (sA (sA (sA (sA (sA (sA S 15 a15) 16 a16) 17 a17) 19 a19) 20 a20) 21 a21) 18 l18) 20 i20) 27 i27) 28 i28) 30 i30) 31 i31) 32 i32) 33 i33) x8 x6 (fun r2 => ((r2 = 0 → wl_Mo_ask_179 S post K39 a15 a16 a17 a19 a20 a21 l18 i20 i27 i28 i30 i31 i32 i33 x1 x2 x3 x4 v1 x6 x7 x8) ∧ (¬ r2 = 0 → wl_Mo_ask_175 S post K39 a15 a16 a17 a19 a20 a21 l18 i20 i27 i28 i30 i31 i32 i33 x1 x2 x3 x4 v1 x6 x7 x8))))))))))))))
set_option maxRecDepth 100000 in
def wl_Mo_ask_108 (S : ST) (post : Int32 → (Nat → Int32) → (Nat → Int32) → (Nat → Int32) → (Nat → Int32) → (Nat → Int32) → (Nat → Int32) → (Nat → Int64) → Int32 → Int32 → Int32 → Int32 → Int32 → Int32 → Int32 → Prop) (K39 : (Nat → Int32) → (Nat → Int32) → (Nat → Int32) → (Nat → Int32) → (Nat → Int32) → (Nat → Int32) → (Nat → Int64) → Int32 → Int32 → Int32 → Int32 → Int32 → Int32 → Int32 → Int32 → Int32 → Int32 → Int32 → Int32 → Int32 → Int32 → Int32 → Prop) (a15 : (Nat → Int32)) (a16 : (Nat → Int32)) (a17 : (Nat → Int32)) (a19 : (Nat → Int32)) (a20 : (Nat → Int32)) (a21 : (Nat → Int32)) (l18 : (Nat → Int64)) (i20 : Int32) (i27 : Int32) (i28 : Int32) (i30 : Int32) (i31 : Int32) (i32 : Int32) (i33 : Int32) (x1 : Int32) (x2 : Int32) (x3 : Int32) (x4 : Int32) (x5 : Int32) (x6 : Int32) (x7 : Int32) (x8 : Int32) : Prop := ((i32 = 10001 → wl_Mo_ask_122 S post K39 a15 a16 a17 a19 a20 a21 l18 i20 i27 i28 i30 i31 i32 i33 x1 x2 x3 x4 x5 x6 x7 x8) ∧ (¬ i32 = 10001 → ((x3 = 0 → (∀ v1 : Int32, v1 = x8 + 1 → K39 a15 a16 a17 a19 a20 a21 l18 i20 i27 i28 i30 i31 i32 i33 x1 x2 x3 x4 x5 x6 x7 v1)) ∧ (¬ x3 = 0 → wl_Mo_ask_122 S post K39 a15 a16 a17 a19 a20 a21 l18 i20 i27 i28 i30 i31 i32 i33 x1 x2 x3 x4 x5 x6 x7 x8))))
set_option maxRecDepth 100000 in
def wl_Mo_ask_39 (S : ST) (post : Int32 → (Nat → Int32) → (Nat → Int32) → (Nat → Int32) → (Nat → Int32) → (Nat → Int32) → (Nat → Int32) → (Nat → Int64) → Int32 → Int32 → Int32 → Int32 → Int32 → Int32 → Int32 → Prop) : Nat → (Nat → Int32) → (Nat → Int32) → (Nat → Int32) → (Nat → Int32) → (Nat → Int32) → (Nat → Int32) → (Nat → Int64) → Int32 → Int32 → Int32 → Int32 → Int32 → Int32 → Int32 → Int32 → Int32 → Int32 → Int32 → Int32 → Int32 → Int32 → Int32 → Prop
  | 0, _, _, _, _, _, _, _, _, _, _, _, _, _, _, _, _, _, _, _, _, _, _ => False
  | n + 1, a15, a16, a17, a19, a20, a21, l18, i20, i27, i28, i30, i31, i32, i33, x1, x2, x3, x4, x5, x6, x7, x8 => ((x2 ≤ x8 → (vp_in 8 10 ∧ ((((S.1 9) (8 : Int32).toNatClampNeg) ≤ 0 → wl_Mo_ask_229 S post  a15 a16 a17 a19 a20 a21 l18 i20 i27 i28 i30 i31 i32 i33 x1 x4 x5 x6 x7 (S.2.2 16) 2) ∧ (¬ ((S.1 9) (8 : Int32).toNatClampNeg) ≤ 0 → wl_Mo_ask_229 S post  a15 a16 a17 a19 a20 a21 l18 i20 i27 i28 i30 i31 i32 i33 x1 x4 x5 x6 x7 (S.2.2 16) 3)))) ∧ (¬ x2 ≤ x8 → (vp_in x8 8001 ∧ ((¬ (a20 x8.toNatClampNeg) = 0 → (∀ v1 : Int32, v1 = x8 + 1 → wl_Mo_ask_39 S post n a15 a16 a17 a19 a20 a21 l18 i20 i27 i28 i30 i31 i32 i33 x1 x2 x3 x4 x5 x6 x7 v1)) ∧ ((a20 x8.toNatClampNeg) = 0 → (vp_in x8 8001 ∧ wp_Mo_measure (sI (sI (sI (sI (sI (sI (sI (sL (sA (sA (sA (sA (sA (sA S 15 a15) 16 a16) 17 a17) 19 a19) 20 a20) 21 a21) 18 l18) 20 i20) 27 i27) 28 i28) 30 i30) 31 i31) 32 i32) 33 i33) (a15 x8.toNatClampNeg) x1 (fun f2 v3 v4 v5 => (vp_in x8 8001 ∧ wp_Mo_judge (sI (sI (sI (sI (sI (sI (sI (sL (sA (sA (sA (sA (sA (sA S 15 a15) 16 a16) 17 a17) 19 a19) 20 a20) 21 f2) 18 l18) 20 i20) 27 v3) 28 v4) 30 v5) 31 i31) 32 i32) 33 i33) (a16 x8.toNatClampNeg) (fun v6 v7 v8 => (∀ v9 : Int32, v9 = x4 + 1 → (((S.2.2 18) < v7 → wl_Mo_ask_108 S post (fun a15 a16 a17 a19 a20 a21 l18 i20 i27 i28 i30 i31 i32 i33 x1 x2 x3 x4 x5 x6 x7 x8 => wl_Mo_ask_39 S post n a15 a16 a17 a19 a20 a21 l18 i20 i27 i28 i30 i31 i32 i33 x1 x2 x3 x4 x5 x6 x7 x8) a15 a16 a17 a19 a20 f2 l18 i20 v3 v4 v5 v6 v7 v8 x1 x2 x3 v9 x5 x6 x7 x8) ∧ (¬ (S.2.2 18) < v7 → wp_Mo_reach (sI (sI (sI (sI (sI (sI (sI (sL (sA (sA (sA (sA (sA (sA S 15 a15) 16 a16) 17 a17) 19 a19) 20 a20) 21 f2) 18 l18) 20 i20) 27 v3) 28 v4) 30 v5) 31 v6) 32 v7) 33 v8) x2 x1 x8 (fun r17 f10 f11 f12 f13 f14 f15 v16 => ((¬ r17 = 0 → wl_Mo_ask_108 S post (fun a15 a16 a17 a19 a20 a21 l18 i20 i27 i28 i30 i31 i32 i33 x1 x2 x3 x4 x5 x6 x7 x8 => wl_Mo_ask_39 S post n a15 a16 a17 a19 a20 a21 l18 i20 i27 i28 i30 i31 i32 i33 x1 x2 x3 x4 x5 x6 x7 x8) f10 f11 f12 f13 f14 f2 f15 v16 v3 v4 v5 v6 v7 v8 x1 x2 x3 v9 x5 x6 1 x8) ∧ (r17 = 0 → post 0 f10 f11 f12 f13 f14 f2 f15 v16 v3 v4 v5 v6 v7 v8)))))))))))))))
set_option maxRecDepth 100000 in
def wl_Mo_ask_23 (S : ST) (post : Int32 → (Nat → Int32) → (Nat → Int32) → (Nat → Int32) → (Nat → Int32) → (Nat → Int32) → (Nat → Int32) → (Nat → Int64) → Int32 → Int32 → Int32 → Int32 → Int32 → Int32 → Int32 → Prop) (x1 : Int32) (x2 : Int32) (z0 : Int32) : Prop := (∃ k9 : Nat, wl_Mo_ask_39 S post  k9 (S.1 15) (S.1 16) (S.1 17) (S.1 19) (S.1 20) (S.1 21) (S.2.1 18) (S.2.2 20) (S.2.2 27) (S.2.2 28) (S.2.2 30) (S.2.2 31) (S.2.2 32) (S.2.2 33) x1 x2 z0 0 0 (-1) 0 0)
set_option maxRecDepth 100000 in
def wp_Mo_ask (S : ST) (p1 : Int32) (post : Int32 → (Nat → Int32) → (Nat → Int32) → (Nat → Int32) → (Nat → Int32) → (Nat → Int32) → (Nat → Int32) → (Nat → Int64) → Int32 → Int32 → Int32 → Int32 → Int32 → Int32 → Int32 → Prop) : Prop := (∀ v1 : Int32, v1 = ((S.2.2 20) + 1) → wp_Mo_fine S p1 (fun r2 => ((¬ r2 = (-10000) → wl_Mo_ask_23 S post  p1 v1 0) ∧ (r2 = (-10000) → wl_Mo_ask_23 S post  p1 v1 1))))
abbrev y_Mo_make : MethodName := ⟨"LineBreakerModel", "make", "()Z"⟩
abbrev rm_Mo_make : Room := { frames := 4, cells := 0, slots := 0, locals := 106 }
set_option maxRecDepth 100000 in
def wl_Mo_make_89 (S : ST) (post : Int32 → (Nat → Int32) → (Nat → Int32) → (Nat → Int32) → (Nat → Int32) → (Nat → Int32) → (Nat → Int32) → (Nat → Int64) → Int32 → Int32 → Int32 → Int32 → Int32 → Int32 → Int32 → Int32 → Int32 → Prop) : Nat → (Nat → Int32) → (Nat → Int32) → (Nat → Int32) → (Nat → Int32) → (Nat → Int32) → (Nat → Int32) → (Nat → Int64) → Int32 → Int32 → Int32 → Int32 → Int32 → Int32 → Int32 → Int32 → Int32 → Int32 → Int32 → Prop
  | 0, _, _, _, _, _, _, _, _, _, _, _, _, _, _, _, _, _, _ => False
  | n + 1, a15, a16, a17, a19, a20, a21, l18, i18, i19, i20, i27, i28, i30, i31, i32, i33, x1, x2 => (((S.2.2 17) < x2 → ((x1 = 0 ∨ x1 = 1) ∧ post x1 a15 a16 a17 a19 a20 a21 l18 i18 i19 i20 i27 i28 i30 i31 i32 i33)) ∧ (¬ (S.2.2 17) < x2 → ((x1 = 0 → ((x1 = 0 ∨ x1 = 1) ∧ post x1 a15 a16 a17 a19 a20 a21 l18 i18 i19 i20 i27 i28 i30 i31 i32 i33)) ∧ (¬ x1 = 0 → wp_Mo_isPlace (sI (sI (sI (sI (sI (sI (sI (sI (sI (sL (sA (sA (sA (sA (sA (sA S 15 a15) 16 a16) 17 a17) 19 a19) 20 a20) 21 a21) 18 l18) 18 i18) 19 i19) 20 i20) 27 i27) 28 i28) 30 i30) 31 i31) 32 i32) 33 i33) x2 (fun r1 => ((r1 = 0 → (∀ v2 : Int32, v2 = x2 + 1 → wl_Mo_make_89 S post n a15 a16 a17 a19 a20 a21 l18 i18 i19 i20 i27 i28 i30 i31 i32 i33 1 v2)) ∧ (¬ r1 = 0 → wp_Mo_ask (sI (sI (sI (sI (sI (sI (sI (sI (sI (sL (sA (sA (sA (sA (sA (sA S 15 a15) 16 a16) 17 a17) 19 a19) 20 a20) 21 a21) 18 l18) 18 i18) 19 i19) 20 i20) 27 i27) 28 i28) 30 i30) 31 i31) 32 i32) 33 i33) x2 (fun r17 f3 f4 f5 f6 f7 f8 f9 v10 v11 v12 v13 v14 v15 v16 => ((r17 = 0 → (∀ v18 : Int32, v18 = x2 + 1 → wl_Mo_make_89 S post n f3 f4 f5 f6 f7 f8 f9 i18 i19 v10 v11 v12 v13 v14 v15 v16 0 v18)) ∧ (¬ r17 = 0 → (∀ v19 : Int32, v19 = x2 + 1 → wl_Mo_make_89 S post n f3 f4 f5 f6 f7 f8 f9 i18 i19 v10 v11 v12 v13 v14 v15 v16 1 v19)))))))))))
set_option maxRecDepth 100000 in
def wl_Mo_make_58 (S : ST) (post : Int32 → (Nat → Int32) → (Nat → Int32) → (Nat → Int32) → (Nat → Int32) → (Nat → Int32) → (Nat → Int32) → (Nat → Int64) → Int32 → Int32 → Int32 → Int32 → Int32 → Int32 → Int32 → Int32 → Int32 → Prop) (a15 : (Nat → Int32)) (a16 : (Nat → Int32)) (a17 : (Nat → Int32)) (a20 : (Nat → Int32)) (l18 : (Nat → Int64)) (i20 : Int32) (z2 : Int32) : Prop := (vp_in z2 10 ∧ (∀ v1 : Int32, v1 = ((S.1 9) z2.toNatClampNeg) → ((¬ (S.2.2 16) = 3 → (∃ k9 : Nat, wl_Mo_make_89 S post  k9 a15 a16 a17 (S.1 19) a20 (S.1 21) l18 v1 0 i20 (S.2.2 27) (S.2.2 28) (S.2.2 30) (S.2.2 31) (S.2.2 32) (S.2.2 33) 1 0)) ∧ ((S.2.2 16) = 3 → (vp_in 8 10 ∧ (∀ v2 : Int32, v2 = ((S.1 9) (8 : Int32).toNatClampNeg) → (∃ k9 : Nat, wl_Mo_make_89 S post  k9 a15 a16 a17 (S.1 19) a20 (S.1 21) l18 v1 v2 i20 (S.2.2 27) (S.2.2 28) (S.2.2 30) (S.2.2 31) (S.2.2 32) (S.2.2 33) 1 0)))))))
set_option maxRecDepth 100000 in
def wp_Mo_make (S : ST) (post : Int32 → (Nat → Int32) → (Nat → Int32) → (Nat → Int32) → (Nat → Int32) → (Nat → Int32) → (Nat → Int32) → (Nat → Int64) → Int32 → Int32 → Int32 → Int32 → Int32 → Int32 → Int32 → Int32 → Int32 → Prop) : Prop := (vp_in 0 8001 ∧ ∀ f1 : Nat → Int32, f1 = upd (S.1 15) ((0 : Int32).toNatClampNeg) (-1) → (vp_in 0 8001 ∧ ∀ f2 : Nat → Int32, f2 = upd (S.1 16) ((0 : Int32).toNatClampNeg) 0 → (vp_in 0 8001 ∧ ∀ f3 : Nat → Int32, f3 = upd (S.1 17) ((0 : Int32).toNatClampNeg) 2 → (vp_in 0 8001 ∧ ∀ f4 : Nat → Int64, f4 = vp_updL (S.2.1 18) ((0 : Int32).toNatClampNeg) 0 → (vp_in 0 8001 ∧ ∀ f5 : Nat → Int32, f5 = upd (S.1 20) ((0 : Int32).toNatClampNeg) (vp_nar .boolean 0) → ((¬ (S.2.2 16) = 1 → wl_Mo_make_58 S post  f1 f2 f3 f5 f4 0 1) ∧ ((S.2.2 16) = 1 → wl_Mo_make_58 S post  f1 f2 f3 f5 f4 0 0)))))))
abbrev y_Mo_isLess : MethodName := ⟨"LineBreakerModel", "isLess", "(II)Z"⟩
abbrev rm_Mo_isLess : Room := { frames := 0, cells := 0, slots := 0, locals := 0 }
set_option maxRecDepth 100000 in
def wp_Mo_isLess (S : ST) (p1 : Int32) (p2 : Int32) (post : Int32 → Prop) : Prop := (vp_in p1 8001 ∧ (vp_in p2 8001 ∧ (((lg_cmp ((S.2.1 18) p1.toNatClampNeg) ((S.2.1 18) p2.toNatClampNeg)) = 0 → (vp_in p1 8001 ∧ (vp_in p2 8001 ∧ ((((S.1 16) p1.toNatClampNeg) < ((S.1 16) p2.toNatClampNeg) → post 1) ∧ (¬ ((S.1 16) p1.toNatClampNeg) < ((S.1 16) p2.toNatClampNeg) → (vp_in p1 8001 ∧ (vp_in p2 8001 ∧ ((¬ ((S.1 16) p1.toNatClampNeg) = ((S.1 16) p2.toNatClampNeg) → post 0) ∧ (((S.1 16) p1.toNatClampNeg) = ((S.1 16) p2.toNatClampNeg) → (vp_in p1 8001 ∧ (vp_in p2 8001 ∧ ((((S.1 17) p2.toNatClampNeg) ≤ ((S.1 17) p1.toNatClampNeg) → post 0) ∧ (¬ ((S.1 17) p2.toNatClampNeg) ≤ ((S.1 17) p1.toNatClampNeg) → post 1))))))))))))) ∧ (¬ (lg_cmp ((S.2.1 18) p1.toNatClampNeg) ((S.2.1 18) p2.toNatClampNeg)) = 0 → (vp_in p1 8001 ∧ (vp_in p2 8001 ∧ ((0 ≤ (lg_cmp ((S.2.1 18) p1.toNatClampNeg) ((S.2.1 18) p2.toNatClampNeg)) → post 0) ∧ (¬ 0 ≤ (lg_cmp ((S.2.1 18) p1.toNatClampNeg) ((S.2.1 18) p2.toNatClampNeg)) → post 1))))))))
abbrev y_Mo_apart : MethodName := ⟨"LineBreakerModel", "apart", "(II)I"⟩
abbrev rm_Mo_apart : Room := { frames := 0, cells := 0, slots := 0, locals := 0 }
set_option maxRecDepth 100000 in
def wp_Mo_apart (S : ST) (p1 : Int32) (p2 : Int32) (post : Int32 → Prop) : Prop := ((p1 ≤ p2 → post (p2 - p1)) ∧ (¬ p1 ≤ p2 → post (p1 - p2)))
abbrev y_Mo_choose : MethodName := ⟨"LineBreakerModel", "choose", "()I"⟩
abbrev rm_Mo_choose : Room := { frames := 1, cells := 0, slots := 0, locals := 22 }
set_option maxRecDepth 100000 in
def wl_Mo_choose_253 (S : ST) (post : Int32 → Prop) (x2 : Int32) (x3 : Int32) (z0 : Int32) : Prop := ((¬ z0 = 0 → post x3) ∧ (z0 = 0 → (vp_in x3 8001 ∧ ((((S.1 16) x3.toNatClampNeg) = x2 → post x3) ∧ (¬ ((S.1 16) x3.toNatClampNeg) = x2 → post (-1))))))
set_option maxRecDepth 100000 in
def wl_Mo_choose_245 (S : ST) (post : Int32 → Prop) (x2 : Int32) (x3 : Int32) (z0 : Int32) (z1 : Int32) : Prop := ((¬ z0 = z1 → wl_Mo_choose_253 S post  x2 x3 0) ∧ (z0 = z1 → wl_Mo_choose_253 S post  x2 x3 1))
set_option maxRecDepth 100000 in
def wl_Mo_choose_141 (S : ST) (post : Int32 → Prop) (K86 : Int32 → Int32 → Int32 → Int32 → Prop) (x1 : Int32) (x2 : Int32) (x3 : Int32) (x4 : Int32) (z0 : Int32) : Prop := ((z0 = 0 → (∀ v1 : Int32, v1 = x4 + 1 → K86 x1 x2 x3 v1)) ∧ (¬ z0 = 0 → (vp_in x4 8001 ∧ wp_Mo_apart S ((S.1 16) x4.toNatClampNeg) x2 (fun r2 => (vp_in x3 8001 ∧ wp_Mo_apart S ((S.1 16) x3.toNatClampNeg) x2 (fun r3 => ((r2 < r3 → (∀ v4 : Int32, v4 = x4 + 1 → K86 x1 x2 x4 v4)) ∧ (¬ r2 < r3 → ((¬ r2 = r3 → (∀ v5 : Int32, v5 = x4 + 1 → K86 x1 x2 x3 v5)) ∧ (r2 = r3 → (vp_in x4 8001 ∧ (vp_in x3 8001 ∧ ((¬ ((S.1 16) x4.toNatClampNeg) = ((S.1 16) x3.toNatClampNeg) → (∀ v6 : Int32, v6 = x4 + 1 → K86 x1 x2 x3 v6)) ∧ (((S.1 16) x4.toNatClampNeg) = ((S.1 16) x3.toNatClampNeg) → wp_Mo_isLess S x4 x3 (fun r7 => ((r7 = 0 → (∀ v8 : Int32, v8 = x4 + 1 → K86 x1 x2 x3 v8)) ∧ (¬ r7 = 0 → (∀ v9 : Int32, v9 = x4 + 1 → K86 x1 x2 x4 v9))))))))))))))))))
set_option maxRecDepth 100000 in
def wl_Mo_choose_140 (S : ST) (post : Int32 → Prop) (K86 : Int32 → Int32 → Int32 → Int32 → Prop) (x1 : Int32) (x2 : Int32) (x3 : Int32) (x4 : Int32) : Prop := wl_Mo_choose_141 S post K86 x1 x2 x3 x4 0
set_option maxRecDepth 100000 in
def wl_Mo_choose_86 (S : ST) (post : Int32 → Prop) : Nat → Int32 → Int32 → Int32 → Int32 → Prop
  | 0, _, _, _, _ => False
  | n + 1, x1, x2, x3, x4 => (((S.2.2 20) < x4 → (vp_in 8 10 ∧ ((((S.1 9) (8 : Int32).toNatClampNeg) ≤ 0 → wl_Mo_choose_245 S post  x2 x3 (S.2.2 16) 2) ∧ (¬ ((S.1 9) (8 : Int32).toNatClampNeg) ≤ 0 → wl_Mo_choose_245 S post  x2 x3 (S.2.2 16) 3)))) ∧ (¬ (S.2.2 20) < x4 → (vp_in x4 8001 ∧ ((¬ ((S.1 15) x4.toNatClampNeg) = (S.2.2 17) → wl_Mo_choose_140 S post (fun x1 x2 x3 x4 => wl_Mo_choose_86 S post n x1 x2 x3 x4) x1 x2 x3 x4) ∧ (((S.1 15) x4.toNatClampNeg) = (S.2.2 17) → (vp_in x4 8001 ∧ (vp_in x1 8001 ∧ (vp_in x4 8001 ∧ ((0 < ((((S.1 16) x4.toNatClampNeg) - ((S.1 16) x1.toNatClampNeg)) * (((S.1 16) x4.toNatClampNeg) - x2)) → wl_Mo_choose_140 S post (fun x1 x2 x3 x4 => wl_Mo_choose_86 S post n x1 x2 x3 x4) x1 x2 x3 x4) ∧ (¬ 0 < ((((S.1 16) x4.toNatClampNeg) - ((S.1 16) x1.toNatClampNeg)) * (((S.1 16) x4.toNatClampNeg) - x2)) → wl_Mo_choose_141 S post (fun x1 x2 x3 x4 => wl_Mo_choose_86 S post n x1 x2 x3 x4) x1 x2 x3 x4 1))))))))))
set_option maxRecDepth 100000 in
def wl_Mo_choose_4 (S : ST) (post : Int32 → Prop) : Nat → Int32 → Int32 → Prop
  | 0, _, _ => False
  | n + 1, x1, x2 => (((S.2.2 20) < x2 → ((x1 < 0 → post x1) ∧ (¬ x1 < 0 → (vp_in 9 10 ∧ ((¬ ((S.1 9) (9 : Int32).toNatClampNeg) = 0 → (vp_in x1 8001 ∧ (vp_in 9 10 ∧ (∀ v1 : Int32, v1 = (((S.1 16) x1.toNatClampNeg) + ((S.1 9) (9 : Int32).toNatClampNeg)) → (∃ k9 : Nat, wl_Mo_choose_86 S post  k9 x1 v1 x1 1))))) ∧ (((S.1 9) (9 : Int32).toNatClampNeg) = 0 → post x1)))))) ∧ (¬ (S.2.2 20) < x2 → (vp_in x2 8001 ∧ ((¬ ((S.1 15) x2.toNatClampNeg) = (S.2.2 17) → (∀ v2 : Int32, v2 = x2 + 1 → wl_Mo_choose_4 S post n x1 v2)) ∧ (((S.1 15) x2.toNatClampNeg) = (S.2.2 17) → ((x1 < 0 → (∀ v3 : Int32, v3 = x2 + 1 → wl_Mo_choose_4 S post n x2 v3)) ∧ (¬ x1 < 0 → wp_Mo_isLess S x2 x1 (fun r4 => ((r4 = 0 → (∀ v5 : Int32, v5 = x2 + 1 → wl_Mo_choose_4 S post n x1 v5)) ∧ (¬ r4 = 0 → (∀ v6 : Int32, v6 = x2 + 1 → wl_Mo_choose_4 S post n x2 v6)))))))))))
set_option maxRecDepth 100000 in
def wp_Mo_choose (S : ST) (post : Int32 → Prop) : Prop := (∃ k9 : Nat, wl_Mo_choose_4 S post  k9 (-1) 1)
abbrev y_Mo_tell : MethodName := ⟨"LineBreakerModel", "tell", "(I)I"⟩
abbrev rm_Mo_tell : Room := { frames := 3, cells := 0, slots := 0, locals := 67 }
set_option maxRecDepth 100000 in
def wl_Mo_tell_28 (S : ST) (post : Int32 → (Nat → Int32) → (Nat → Int32) → (Nat → Int32) → (Nat → Int32) → (Nat → Int32) → (Nat → Int32) → (Nat → Int64) → Int32 → Int32 → Int32 → Int32 → Int32 → Int32 → Int32 → Int32 → Int32 → Prop) : Nat → (Nat → Int32) → (Nat → Int32) → (Nat → Int32) → (Nat → Int32) → (Nat → Int32) → (Nat → Int32) → (Nat → Int64) → Int32 → Int32 → Int32 → Int32 → Int32 → Int32 → Int32 → Int32 → Int32 → Int32 → Prop
  | 0, _, _, _, _, _, _, _, _, _, _, _, _, _, _, _, _, _ => False
  | n + 1, a21, a22, a23, a24, a25, a26, l27, i27, i28, i30, i31, i32, i33, i34, i35, i36, x2 => ((x2 ≤ 0 → post i36 a21 a22 a23 a24 a25 a26 l27 i27 i28 i30 i31 i32 i33 i34 i35 i36) ∧ (¬ x2 ≤ 0 → (vp_in x2 8001 ∧ (∀ v1 : Int32, v1 = (((S.1 16) x2.toNatClampNeg) - 1) → (vp_in x2 8001 ∧ (vp_in ((S.1 19) x2.toNatClampNeg) 8001 ∧ (vp_in x2 8001 ∧ wp_Mo_measure (sI (sI (sI (sI (sI (sI (sI (sI (sI (sL (sA (sA (sA (sA (sA (sA S 21 a21) 22 a22) 23 a23) 24 a24) 25 a25) 26 a26) 27 l27) 27 i27) 28 i28) 30 i30) 31 i31) 32 i32) 33 i33) 34 i34) 35 i35) 36 i36) ((S.1 15) ((S.1 19) x2.toNatClampNeg).toNatClampNeg) ((S.1 15) x2.toNatClampNeg) (fun f2 v3 v4 v5 => wp_Mo_judge (sI (sI (sI (sI (sI (sI (sI (sI (sI (sL (sA (sA (sA (sA (sA (sA S 21 f2) 22 a22) 23 a23) 24 a24) 25 a25) 26 a26) 27 l27) 27 v3) 28 v4) 30 v5) 31 i31) 32 i32) 33 i33) 34 i34) 35 i35) 36 i36) v1 (fun v6 v7 v8 => (vp_in x2 8001 ∧ (vp_in v1 410 ∧ ∀ f9 : Nat → Int32, f9 = upd a22 v1.toNatClampNeg ((S.1 15) x2.toNatClampNeg) → (vp_in v1 410 ∧ ∀ f10 : Nat → Int32, f10 = upd a23 v1.toNatClampNeg v3 → (vp_in v1 410 ∧ ∀ f11 : Nat → Int32, f11 = upd a24 v1.toNatClampNeg v6 → (vp_in v1 410 ∧ ∀ f12 : Nat → Int32, f12 = upd a25 v1.toNatClampNeg v7 → (vp_in v1 410 ∧ ∀ f13 : Nat → Int32, f13 = upd a26 v1.toNatClampNeg v8 → (vp_in x2 8001 ∧ (vp_in v1 410 ∧ ∀ f14 : Nat → Int64, f14 = vp_updL l27 v1.toNatClampNeg ((S.2.1 18) x2.toNatClampNeg) → (vp_in x2 8001 ∧ (∀ v15 : Int32, v15 = ((S.1 19) x2.toNatClampNeg) → wl_Mo_tell_28 S post n f2 f9 f10 f11 f12 f13 f14 v3 v4 v5 v6 v7 v8 i34 i35 i36 v15)))))))))))))))))))
set_option maxRecDepth 100000 in
def wp_Mo_tell (S : ST) (p1 : Int32) (post : Int32 → (Nat → Int32) → (Nat → Int32) → (Nat → Int32) → (Nat → Int32) → (Nat → Int32) → (Nat → Int32) → (Nat → Int64) → Int32 → Int32 → Int32 → Int32 → Int32 → Int32 → Int32 → Int32 → Int32 → Prop) : Prop := (∀ v1 : Int32, v1 = (S.2.2 16) → (∀ v2 : Int32, v2 = (S.2.2 20) → (vp_in p1 8001 ∧ (∀ v3 : Int32, v3 = ((S.1 16) p1.toNatClampNeg) → (∃ k9 : Nat, wl_Mo_tell_28 S post  k9 (S.1 21) (S.1 22) (S.1 23) (S.1 24) (S.1 25) (S.1 26) (S.2.1 27) (S.2.2 27) (S.2.2 28) (S.2.2 30) (S.2.2 31) (S.2.2 32) (S.2.2 33) v1 v2 v3 p1)))))
abbrev y_Mo_without : MethodName := ⟨"LineBreakerModel", "without", "(I)J"⟩
abbrev rm_Mo_without : Room := { frames := 0, cells := 0, slots := 0, locals := 0 }
set_option maxRecDepth 100000 in
def wp_Mo_without (S : ST) (p1 : Int32) (post : Int64 → Prop) : Prop := ((¬ p1 = (-1073741824) → ((0 ≤ p1 → post (p1.toInt64)) ∧ (¬ 0 ≤ p1 → post (-(p1.toInt64))))) ∧ (p1 = (-1073741824) → post 0))
abbrev y_Mo_fitsInSizes : MethodName := ⟨"LineBreakerModel", "fitsInSizes", "()Z"⟩
abbrev rm_Mo_fitsInSizes : Room := { frames := 1, cells := 0, slots := 0, locals := 21 }
set_option maxRecDepth 100000 in
def wl_Mo_fitsInSizes_115 (S : ST) (post : Int32 → Prop) : Nat → Int64 → Int64 → Int64 → Int32 → Prop
  | 0, _, _, _, _ => False
  | n + 1, x1, x3, x5, x7 => ((3 ≤ x7 → wp_Mo_isSize S x1 (fun r1 => ((r1 = 0 → post 0) ∧ (¬ r1 = 0 → wp_Mo_isSize S x3 (fun r2 => ((r2 = 0 → post 0) ∧ (¬ r2 = 0 → wp_Mo_isSize S x5 (fun r3 => ((r3 = 0 → post 0) ∧ (¬ r3 = 0 → post 1)))))))))) ∧ (¬ 3 ≤ x7 → (vp_in x7 3 ∧ wp_Mo_without S ((S.1 11) x7.toNatClampNeg) (fun r4 => (∀ v5 : Int64, v5 = (x1 + r4) → (vp_in x7 3 ∧ (∀ v6 : Int64, v6 = (x3 + (((S.1 12) x7.toNatClampNeg).toInt64)) → (vp_in x7 3 ∧ (∀ v7 : Int64, v7 = (x5 + (((S.1 14) x7.toNatClampNeg).toInt64)) → (∀ v8 : Int32, v8 = x7 + 1 → wl_Mo_fitsInSizes_115 S post n v5 v6 v7 v8))))))))))
set_option maxRecDepth 100000 in
def wl_Mo_fitsInSizes_81 (S : ST) (post : Int32 → Prop) (K17 : Int64 → Int64 → Int64 → Int32 → Prop) (x3 : Int64) (x5 : Int64) (x7 : Int32) (z0 : Int64) : Prop := (vp_in x7 410 ∧ (∀ v1 : Int64, v1 = (x3 + (((S.1 3) x7.toNatClampNeg).toInt64)) → (vp_in x7 410 ∧ (∀ v2 : Int64, v2 = (x5 + (((S.1 5) x7.toNatClampNeg).toInt64)) → (∀ v3 : Int32, v3 = x7 + 1 → K17 z0 v1 v2 v3)))))
set_option maxRecDepth 100000 in
def wl_Mo_fitsInSizes_53 (S : ST) (post : Int32 → Prop) (K17 : Int64 → Int64 → Int64 → Int32 → Prop) (x3 : Int64) (x5 : Int64) (x7 : Int32) (z0 : Int64) : Prop := (vp_in x7 410 ∧ ((¬ ((S.1 1) x7.toNatClampNeg) = 5 → wl_Mo_fitsInSizes_81 S post K17 x3 x5 x7 z0) ∧ (((S.1 1) x7.toNatClampNeg) = 5 → (vp_in x7 410 ∧ wp_Mo_without S ((S.1 7) x7.toNatClampNeg) (fun r1 => wl_Mo_fitsInSizes_81 S post K17 x3 x5 x7 (z0 + r1))))))
set_option maxRecDepth 100000 in
def wl_Mo_fitsInSizes_17 (S : ST) (post : Int32 → Prop) : Nat → Int64 → Int64 → Int64 → Int32 → Prop
  | 0, _, _, _, _ => False
  | n + 1, x1, x3, x5, x7 => (((S.2.2 1) ≤ x7 → (∃ k9 : Nat, wl_Mo_fitsInSizes_115 S post  k9 x1 x3 x5 0)) ∧ (¬ (S.2.2 1) ≤ x7 → (vp_in x7 410 ∧ ((¬ ((S.1 1) x7.toNatClampNeg) = 4 → (vp_in x7 410 ∧ wp_Mo_without S ((S.1 2) x7.toNatClampNeg) (fun r1 => wl_Mo_fitsInSizes_53 S post (fun x1 x3 x5 x7 => wl_Mo_fitsInSizes_17 S post n x1 x3 x5 x7) x3 x5 x7 (x1 + r1)))) ∧ (((S.1 1) x7.toNatClampNeg) = 4 → wl_Mo_fitsInSizes_53 S post (fun x1 x3 x5 x7 => wl_Mo_fitsInSizes_17 S post n x1 x3 x5 x7) x3 x5 x7 x1)))))
set_option maxRecDepth 100000 in
def wp_Mo_fitsInSizes (S : ST) (post : Int32 → Prop) : Prop := (vp_in 8 10 ∧ (∀ v1 : Int64, v1 = (((S.1 9) (8 : Int32).toNatClampNeg).toInt64) → (∃ k9 : Nat, wl_Mo_fitsInSizes_17 S post  k9 0 v1 0 0)))
abbrev y_Mo_breakUp : MethodName := ⟨"LineBreakerModel", "breakUp", "()I"⟩
abbrev rm_Mo_breakUp : Room := { frames := 5, cells := 0, slots := 0, locals := 128 }
set_option maxRecDepth 100000 in
def wl_Mo_breakUp_349 (S : ST) (post : Int32 → (Nat → Int32) → (Nat → Int32) → (Nat → Int32) → (Nat → Int32) → (Nat → Int32) → (Nat → Int32) → (Nat → Int32) → (Nat → Int32) → (Nat → Int32) → (Nat → Int32) → (Nat → Int32) → (Nat → Int32) → (Nat → Int32) → (Nat → Int32) → (Nat → Int32) → (Nat → Int32) → (Nat → Int32) → (Nat → Int32) → (Nat → Int32) → (Nat → Int64) → (Nat → Int64) → Int32 → Int32 → Int32 → Int32 → Int32 → Int32 → Int32 → Int32 → Int32 → Int32 → Int32 → Int32 → Int32 → Int32 → Int32 → Int32 → Prop) (a1 : (Nat → Int32)) (a2 : (Nat → Int32)) (a3 : (Nat → Int32)) (a4 : (Nat → Int32)) (a5 : (Nat → Int32)) (a6 : (Nat → Int32)) (a7 : (Nat → Int32)) (a8 : (Nat → Int32)) (a15 : (Nat → Int32)) (a16 : (Nat → Int32)) (a17 : (Nat → Int32)) (a19 : (Nat → Int32)) (a20 : (Nat → Int32)) (a21 : (Nat → Int32)) (a22 : (Nat → Int32)) (a23 : (Nat → Int32)) (a24 : (Nat → Int32)) (a25 : (Nat → Int32)) (a26 : (Nat → Int32)) (l18 : (Nat → Int64)) (l27 : (Nat → Int64)) (i0 : Int32) (i1 : Int32) (i16 : Int32) (i17 : Int32) (i18 : Int32) (i19 : Int32) (i20 : Int32) (i27 : Int32) (i28 : Int32) (i30 : Int32) (i31 : Int32) (i32 : Int32) (i33 : Int32) (i34 : Int32) (i35 : Int32) (i36 : Int32) (x2 : Int32) (x3 : Int32) (x4 : Int32) (x5 : Int32) (x6 : Int32) (x7 : Int32) (x8 : Int32) (x10 : Int32) : Prop := (vp_in x3 410 ∧ ∀ f1 : Nat → Int32, f1 = upd a1 x3.toNatClampNeg x4 → (vp_in x3 410 ∧ ∀ f2 : Nat → Int32, f2 = upd a2 x3.toNatClampNeg x5 → (vp_in x3 410 ∧ ∀ f3 : Nat → Int32, f3 = upd a3 x3.toNatClampNeg x6 → (vp_in x3 410 ∧ ∀ f4 : Nat → Int32, f4 = upd a4 x3.toNatClampNeg x7 → (vp_in x3 410 ∧ ∀ f5 : Nat → Int32, f5 = upd a5 x3.toNatClampNeg x8 → post x10 f1 f2 f3 f4 f5 a6 a7 a8 a15 a16 a17 a19 a20 a21 a22 a23 a24 a25 a26 l18 l27 i0 x2 i16 i17 i18 i19 i20 i27 i28 i30 i31 i32 i33 i34 i35 i36)))))
set_option maxRecDepth 100000 in
def wl_Mo_breakUp_336 (S : ST) (post : Int32 → (Nat → Int32) → (Nat → Int32) → (Nat → Int32) → (Nat → Int32) → (Nat → Int32) → (Nat → Int32) → (Nat → Int32) → (Nat → Int32) → (Nat → Int32) → (Nat → Int32) → (Nat → Int32) → (Nat → Int32) → (Nat → Int32) → (Nat → Int32) → (Nat → Int32) → (Nat → Int32) → (Nat → Int32) → (Nat → Int32) → (Nat → Int32) → (Nat → Int64) → (Nat → Int64) → Int32 → Int32 → Int32 → Int32 → Int32 → Int32 → Int32 → Int32 → Int32 → Int32 → Int32 → Int32 → Int32 → Int32 → Int32 → Int32 → Prop) (K283 : (Nat → Int32) → (Nat → Int32) → (Nat → Int32) → (Nat → Int32) → (Nat → Int32) → (Nat → Int32) → (Nat → Int32) → (Nat → Int32) → (Nat → Int32) → (Nat → Int32) → (Nat → Int32) → (Nat → Int32) → (Nat → Int32) → (Nat → Int32) → (Nat → Int32) → (Nat → Int32) → (Nat → Int32) → (Nat → Int32) → (Nat → Int32) → (Nat → Int64) → (Nat → Int64) → Int32 → Int32 → Int32 → Int32 → Int32 → Int32 → Int32 → Int32 → Int32 → Int32 → Int32 → Int32 → Int32 → Int32 → Int32 → Int32 → Int32 → Int32 → Int32 → Int32 → Int32 → Int32 → Int32 → Int32 → Int32 → Int32 → Prop) (a1 : (Nat → Int32)) (a2 : (Nat → Int32)) (a3 : (Nat → Int32)) (a4 : (Nat → Int32)) (a5 : (Nat → Int32)) (a6 : (Nat → Int32)) (a7 : (Nat → Int32)) (a8 : (Nat → Int32)) (a15 : (Nat → Int32)) (a16 : (Nat → Int32)) (a17 : (Nat → Int32)) (a19 : (Nat → Int32)) (a20 : (Nat → Int32)) (a21 : (Nat → Int32)) (a22 : (Nat → Int32)) (a23 : (Nat → Int32)) (a24 : (Nat → Int32)) (a25 : (Nat → Int32)) (a26 : (Nat → Int32)) (l18 : (Nat → Int64)) (l27 : (Nat → Int64)) (i0 : Int32) (i1 : Int32) (i16 : Int32) (i17 : Int32) (i18 : Int32) (i19 : Int32) (i20 : Int32) (i27 : Int32) (i28 : Int32) (i30 : Int32) (i31 : Int32) (i32 : Int32) (i33 : Int32) (i34 : Int32) (i35 : Int32) (i36 : Int32) (x2 : Int32) (x3 : Int32) (x4 : Int32) (x5 : Int32) (x6 : Int32) (x7 : Int32) (x8 : Int32) (x10 : Int32) (x11 : Int32) (x12 : Int32) : Prop := (∀ v1 : Int32, v1 = (i16 + 1) → K283 a1 a2 a3 a4 a5 a6 a7 a8 a15 a16 a17 a19 a20 a21 a22 a23 a24 a25 a26 l18 l27 i0 i1 v1 i17 i18 i19 i20 i27 i28 i30 i31 i32 i33 i34 i35 i36 x2 x3 x4 x5 x6 x7 x8 x10 x11 x12)
set_option maxRecDepth 100000 in
def wl_Mo_breakUp_283 (S : ST) (post : Int32 → (Nat → Int32) → (Nat → Int32) → (Nat → Int32) → (Nat → Int32) → (Nat → Int32) → (Nat → Int32) → (Nat → Int32) → (Nat → Int32) → (Nat → Int32) → (Nat → Int32) → (Nat → Int32) → (Nat → Int32) → (Nat → Int32) → (Nat → Int32) → (Nat → Int32) → (Nat → Int32) → (Nat → Int32) → (Nat → Int32) → (Nat → Int32) → (Nat → Int64) → (Nat → Int64) → Int32 → Int32 → Int32 → Int32 → Int32 → Int32 → Int32 → Int32 → Int32 → Int32 → Int32 → Int32 → Int32 → Int32 → Int32 → Int32 → Prop) : Nat → (Nat → Int32) → (Nat → Int32) → (Nat → Int32) → (Nat → Int32) → (Nat → Int32) → (Nat → Int32) → (Nat → Int32) → (Nat → Int32) → (Nat → Int32) → (Nat → Int32) → (Nat → Int32) → (Nat → Int32) → (Nat → Int32) → (Nat → Int32) → (Nat → Int32) → (Nat → Int32) → (Nat → Int32) → (Nat → Int32) → (Nat → Int32) → (Nat → Int64) → (Nat → Int64) → Int32 → Int32 → Int32 → Int32 → Int32 → Int32 → Int32 → Int32 → Int32 → Int32 → Int32 → Int32 → Int32 → Int32 → Int32 → Int32 → Int32 → Int32 → Int32 → Int32 → Int32 → Int32 → Int32 → Int32 → Int32 → Int32 → Prop
  | 0, _, _, _, _, _, _, _, _, _, _, _, _, _, _, _, _, _, _, _, _, _, _, _, _, _, _, _, _, _, _, _, _, _, _, _, _, _, _, _, _, _, _, _, _, _, _, _ => False
  | n + 1, a1, a2, a3, a4, a5, a6, a7, a8, a15, a16, a17, a19, a20, a21, a22, a23, a24, a25, a26, l18, l27, i0, i1, i16, i17, i18, i19, i20, i27, i28, i30, i31, i32, i33, i34, i35, i36, x2, x3, x4, x5, x6, x7, x8, x10, x11, x12 => ((x12 < i16 → wl_Mo_breakUp_349 S post  a1 a2 a3 a4 a5 a6 a7 a8 a15 a16 a17 a19 a20 a21 a22 a23 a24 a25 a26 l18 l27 i0 i1 i16 i17 i18 i19 i20 i27 i28 i30 i31 i32 i33 i34 i35 i36 x2 x3 x4 x5 x6 x7 x8 x10) ∧ (¬ x12 < i16 → ((¬ x11 = 0 → wl_Mo_breakUp_349 S post  a1 a2 a3 a4 a5 a6 a7 a8 a15 a16 a17 a19 a20 a21 a22 a23 a24 a25 a26 l18 l27 i0 i1 i16 i17 i18 i19 i20 i27 i28 i30 i31 i32 i33 i34 i35 i36 x2 x3 x4 x5 x6 x7 x8 x10) ∧ (x11 = 0 → wp_Mo_make (sI (sI (sI (sI (sI (sI (sI (sI (sI (sI (sI (sI (sI (sI (sI (sI (sL (sL (sA (sA (sA (sA (sA (sA (sA (sA (sA (sA (sA (sA (sA (sA (sA (sA (sA (sA (sA S 1 a1) 2 a2) 3 a3) 4 a4) 5 a5) 6 a6) 7 a7) 8 a8) 15 a15) 16 a16) 17 a17) 19 a19) 20 a20) 21 a21) 22 a22) 23 a23) 24 a24) 25 a25) 26 a26) 18 l18) 27 l27) 0 i0) 1 i1) 16 i16) 17 i17) 18 i18) 19 i19) 20 i20) 27 i27) 28 i28) 30 i30) 31 i31) 32 i32) 33 i33) 34 i34) 35 i35) 36 i36)  (fun r17 f1 f2 f3 f4 f5 f6 f7 v8 v9 v10 v11 v12 v13 v14 v15 v16 => ((¬ r17 = 0 → wp_Mo_choose (sI (sI (sI (sI (sI (sI (sI (sI (sI (sI (sI (sI (sI (sI (sI (sI (sL (sL (sA (sA (sA (sA (sA (sA (sA (sA (sA (sA (sA (sA (sA (sA (sA (sA (sA (sA (sA S 1 a1) 2 a2) 3 a3) 4 a4) 5 a5) 6 a6) 7 a7) 8 a8) 15 f1) 16 f2) 17 f3) 19 f4) 20 f5) 21 f6) 22 a22) 23 a23) 24 a24) 25 a25) 26 a26) 18 f7) 27 l27) 0 i0) 1 i1) 16 i16) 17 i17) 18 v8) 19 v9) 20 v10) 27 v11) 28 v12) 30 v13) 31 v14) 32 v15) 33 v16) 34 i34) 35 i35) 36 i36)  (fun r18 => ((r18 < 0 → wl_Mo_breakUp_336 S post (fun a1 a2 a3 a4 a5 a6 a7 a8 a15 a16 a17 a19 a20 a21 a22 a23 a24 a25 a26 l18 l27 i0 i1 i16 i17 i18 i19 i20 i27 i28 i30 i31 i32 i33 i34 i35 i36 x2 x3 x4 x5 x6 x7 x8 x10 x11 x12 => wl_Mo_breakUp_283 S post n a1 a2 a3 a4 a5 a6 a7 a8 a15 a16 a17 a19 a20 a21 a22 a23 a24 a25 a26 l18 l27 i0 i1 i16 i17 i18 i19 i20 i27 i28 i30 i31 i32 i33 i34 i35 i36 x2 x3 x4 x5 x6 x7 x8 x10 x11 x12) a1 a2 a3 a4 a5 a6 a7 a8 f1 f2 f3 f4 f5 f6 a22 a23 a24 a25 a26 f7 l27 i0 i1 i16 i17 v8 v9 v10 v11 v12 v13 v14 v15 v16 i34 i35 i36 x2 x3 x4 x5 x6 x7 x8 x10 x11 x12) ∧ (¬ r18 < 0 → wp_Mo_tell (sI (sI (sI (sI (sI (sI (sI (sI (sI (sI (sI (sI (sI (sI (sI (sI (sL (sL (sA (sA (sA (sA (sA (sA (sA (sA (sA (sA (sA (sA (sA (sA (sA (sA (sA (sA (sA S 1 a1) 2 a2) 3 a3) 4 a4) 5 a5) 6 a6) 7 a7) 8 a8) 15 f1) 16 f2) 17 f3) 19 f4) 20 f5) 21 f6) 22 a22) 23 a23) 24 a24) 25 a25) 26 a26) 18 f7) 27 l27) 0 i0) 1 i1) 16 i16) 17 i17) 18 v8) 19 v9) 20 v10) 27 v11) 28 v12) 30 v13) 31 v14) 32 v15) 33 v16) 34 i34) 35 i35) 36 i36) r18 (fun r35 f19 f20 f21 f22 f23 f24 f25 v26 v27 v28 v29 v30 v31 v32 v33 v34 => wl_Mo_breakUp_336 S post (fun a1 a2 a3 a4 a5 a6 a7 a8 a15 a16 a17 a19 a20 a21 a22 a23 a24 a25 a26 l18 l27 i0 i1 i16 i17 i18 i19 i20 i27 i28 i30 i31 i32 i33 i34 i35 i36 x2 x3 x4 x5 x6 x7 x8 x10 x11 x12 => wl_Mo_breakUp_283 S post n a1 a2 a3 a4 a5 a6 a7 a8 a15 a16 a17 a19 a20 a21 a22 a23 a24 a25 a26 l18 l27 i0 i1 i16 i17 i18 i19 i20 i27 i28 i30 i31 i32 i33 i34 i35 i36 x2 x3 x4 x5 x6 x7 x8 x10 x11 x12) a1 a2 a3 a4 a5 a6 a7 a8 f1 f2 f3 f4 f5 f19 f20 f21 f22 f23 f24 f7 f25 i0 i1 i16 i17 v8 v9 v10 v26 v27 v28 v29 v30 v31 v32 v33 v34 x2 x3 x4 x5 x6 x7 x8 r35 1 x12))))) ∧ (r17 = 0 → wl_Mo_breakUp_336 S post (fun a1 a2 a3 a4 a5 a6 a7 a8 a15 a16 a17 a19 a20 a21 a22 a23 a24 a25 a26 l18 l27 i0 i1 i16 i17 i18 i19 i20 i27 i28 i30 i31 i32 i33 i34 i35 i36 x2 x3 x4 x5 x6 x7 x8 x10 x11 x12 => wl_Mo_breakUp_283 S post n a1 a2 a3 a4 a5 a6 a7 a8 a15 a16 a17 a19 a20 a21 a22 a23 a24 a25 a26 l18 l27 i0 i1 i16 i17 i18 i19 i20 i27 i28 i30 i31 i32 i33 i34 i35 i36 x2 x3 x4 x5 x6 x7 x8 x10 x11 x12) a1 a2 a3 a4 a5 a6 a7 a8 f1 f2 f3 f4 f5 f6 a22 a23 a24 a25 a26 f7 l27 i0 i1 i16 i17 v8 v9 v10 v11 v12 v13 v14 v15 v16 i34 i35 i36 x2 x3 x4 x5 x6 x7 x8 (-2) 1 x12)))))))
set_option maxRecDepth 100000 in
def wl_Mo_breakUp_263 (S : ST) (post : Int32 → (Nat → Int32) → (Nat → Int32) → (Nat → Int32) → (Nat → Int32) → (Nat → Int32) → (Nat → Int32) → (Nat → Int32) → (Nat → Int32) → (Nat → Int32) → (Nat → Int32) → (Nat → Int32) → (Nat → Int32) → (Nat → Int32) → (Nat → Int32) → (Nat → Int32) → (Nat → Int32) → (Nat → Int32) → (Nat → Int32) → (Nat → Int32) → (Nat → Int64) → (Nat → Int64) → Int32 → Int32 → Int32 → Int32 → Int32 → Int32 → Int32 → Int32 → Int32 → Int32 → Int32 → Int32 → Int32 → Int32 → Int32 → Int32 → Prop) (a1 : (Nat → Int32)) (a2 : (Nat → Int32)) (a3 : (Nat → Int32)) (a4 : (Nat → Int32)) (a5 : (Nat → Int32)) (a6 : (Nat → Int32)) (a7 : (Nat → Int32)) (a8 : (Nat → Int32)) (i0 : Int32) (i1 : Int32) (i17 : Int32) (i34 : Int32) (x2 : Int32) (x3 : Int32) (x4 : Int32) (x5 : Int32) (x6 : Int32) (x7 : Int32) (x8 : Int32) (x10 : Int32) (x11 : Int32) (z0 : Int32) : Prop := (vp_in 0 10 ∧ ((0 ≤ ((S.1 9) (0 : Int32).toNatClampNeg) → (∃ k9 : Nat, wl_Mo_breakUp_283 S post  k9 a1 a2 a3 a4 a5 a6 a7 a8 (S.1 15) (S.1 16) (S.1 17) (S.1 19) (S.1 20) (S.1 21) (S.1 22) (S.1 23) (S.1 24) (S.1 25) (S.1 26) (S.2.1 18) (S.2.1 27) i0 i1 1 i17 (S.2.2 18) (S.2.2 19) (S.2.2 20) (S.2.2 27) (S.2.2 28) (S.2.2 30) (S.2.2 31) (S.2.2 32) (S.2.2 33) i34 (S.2.2 35) (S.2.2 36) x2 x3 x4 x5 x6 x7 x8 x10 x11 z0)) ∧ (¬ 0 ≤ ((S.1 9) (0 : Int32).toNatClampNeg) → (∃ k9 : Nat, wl_Mo_breakUp_283 S post  k9 a1 a2 a3 a4 a5 a6 a7 a8 (S.1 15) (S.1 16) (S.1 17) (S.1 19) (S.1 20) (S.1 21) (S.1 22) (S.1 23) (S.1 24) (S.1 25) (S.1 26) (S.2.1 18) (S.2.1 27) i0 i1 2 i17 (S.2.2 18) (S.2.2 19) (S.2.2 20) (S.2.2 27) (S.2.2 28) (S.2.2 30) (S.2.2 31) (S.2.2 32) (S.2.2 33) i34 (S.2.2 35) (S.2.2 36) x2 x3 x4 x5 x6 x7 x8 x10 x11 z0))))
set_option maxRecDepth 100000 in
def wl_Mo_breakUp_126 (S : ST) (post : Int32 → (Nat → Int32) → (Nat → Int32) → (Nat → Int32) → (Nat → Int32) → (Nat → Int32) → (Nat → Int32) → (Nat → Int32) → (Nat → Int32) → (Nat → Int32) → (Nat → Int32) → (Nat → Int32) → (Nat → Int32) → (Nat → Int32) → (Nat → Int32) → (Nat → Int32) → (Nat → Int32) → (Nat → Int32) → (Nat → Int32) → (Nat → Int32) → (Nat → Int64) → (Nat → Int64) → Int32 → Int32 → Int32 → Int32 → Int32 → Int32 → Int32 → Int32 → Int32 → Int32 → Int32 → Int32 → Int32 → Int32 → Int32 → Int32 → Prop) (i0 : Int32) (x2 : Int32) (z0 : Int32) : Prop := (vp_in z0 410 ∧ (∀ v1 : Int32, v1 = ((S.1 1) z0.toNatClampNeg) → (vp_in z0 410 ∧ (∀ v2 : Int32, v2 = ((S.1 2) z0.toNatClampNeg) → (vp_in z0 410 ∧ (∀ v3 : Int32, v3 = ((S.1 3) z0.toNatClampNeg) → (vp_in z0 410 ∧ (∀ v4 : Int32, v4 = ((S.1 4) z0.toNatClampNeg) → (vp_in z0 410 ∧ (∀ v5 : Int32, v5 = ((S.1 5) z0.toNatClampNeg) → wp_Mo_append (sI (sI S 0 i0) 1 z0) 4 10000 0 0 0 0 0 (fun r16 f6 f7 f8 f9 f10 f11 f12 f13 v14 v15 => (vp_in 2 3 ∧ (vp_in 2 3 ∧ (vp_in 2 3 ∧ (vp_in 2 3 ∧ wp_Mo_append (sI (sI (sI (sA (sA (sA (sA (sA (sA (sA (sA S 1 f6) 2 f7) 3 f8) 4 f9) 5 f10) 6 f11) 7 f12) 8 f13) 0 i0) 1 v14) 34 v15) 1 ((S.1 11) (2 : Int32).toNatClampNeg) ((S.1 12) (2 : Int32).toNatClampNeg) ((S.1 13) (2 : Int32).toNatClampNeg) ((S.1 14) (2 : Int32).toNatClampNeg) 0 0 (fun r27 f17 f18 f19 f20 f21 f22 f23 f24 v25 v26 => wp_Mo_append (sI (sI (sI (sA (sA (sA (sA (sA (sA (sA (sA S 1 f17) 2 f18) 3 f19) 4 f20) 5 f21) 6 f22) 7 f23) 8 f24) 0 i0) 1 v25) 34 v26) 4 (-10000) 0 0 0 0 0 (fun r38 f28 f29 f30 f31 f32 f33 f34 f35 v36 v37 => (vp_in 8 10 ∧ ((((S.1 9) (8 : Int32).toNatClampNeg) ≤ 0 → wl_Mo_breakUp_263 S post  f28 f29 f30 f31 f32 f33 f34 f35 i0 v36 r38 0 x2 z0 v1 v2 v3 v4 v5 0 0 2) ∧ (¬ ((S.1 9) (8 : Int32).toNatClampNeg) ≤ 0 → wl_Mo_breakUp_263 S post  f28 f29 f30 f31 f32 f33 f34 f35 i0 v36 r38 0 x2 z0 v1 v2 v3 v4 v5 0 0 3))))))))))))))))))))
set_option maxRecDepth 100000 in
def wl_Mo_breakUp_122 (S : ST) (post : Int32 → (Nat → Int32) → (Nat → Int32) → (Nat → Int32) → (Nat → Int32) → (Nat → Int32) → (Nat → Int32) → (Nat → Int32) → (Nat → Int32) → (Nat → Int32) → (Nat → Int32) → (Nat → Int32) → (Nat → Int32) → (Nat → Int32) → (Nat → Int32) → (Nat → Int32) → (Nat → Int32) → (Nat → Int32) → (Nat → Int32) → (Nat → Int32) → (Nat → Int64) → (Nat → Int64) → Int32 → Int32 → Int32 → Int32 → Int32 → Int32 → Int32 → Int32 → Int32 → Int32 → Int32 → Int32 → Int32 → Int32 → Int32 → Int32 → Prop) (i0 : Int32) (x2 : Int32) : Prop := wl_Mo_breakUp_126 S post  i0 x2 (S.2.2 1)
set_option maxRecDepth 100000 in
def wl_Mo_breakUp_74 (S : ST) (post : Int32 → (Nat → Int32) → (Nat → Int32) → (Nat → Int32) → (Nat → Int32) → (Nat → Int32) → (Nat → Int32) → (Nat → Int32) → (Nat → Int32) → (Nat → Int32) → (Nat → Int32) → (Nat → Int32) → (Nat → Int32) → (Nat → Int32) → (Nat → Int32) → (Nat → Int32) → (Nat → Int32) → (Nat → Int32) → (Nat → Int32) → (Nat → Int32) → (Nat → Int64) → (Nat → Int64) → Int32 → Int32 → Int32 → Int32 → Int32 → Int32 → Int32 → Int32 → Int32 → Int32 → Int32 → Int32 → Int32 → Int32 → Int32 → Int32 → Prop) (z1 : Int32) : Prop := ((z1 ≤ 0 → (∀ v1 : Int32, v1 = (S.2.2 1) → (((S.2.2 1) ≤ 0 → wl_Mo_breakUp_122 S post  z1 v1) ∧ (¬ (S.2.2 1) ≤ 0 → (vp_in ((S.2.2 1) - 1) 410 ∧ ((¬ ((S.1 1) ((S.2.2 1) - 1).toNatClampNeg) = 1 → wl_Mo_breakUp_122 S post  z1 v1) ∧ (((S.1 1) ((S.2.2 1) - 1).toNatClampNeg) = 1 → wl_Mo_breakUp_126 S post  z1 v1 ((S.2.2 1) - 1)))))))) ∧ (¬ z1 ≤ 0 → post 0 (S.1 1) (S.1 2) (S.1 3) (S.1 4) (S.1 5) (S.1 6) (S.1 7) (S.1 8) (S.1 15) (S.1 16) (S.1 17) (S.1 19) (S.1 20) (S.1 21) (S.1 22) (S.1 23) (S.1 24) (S.1 25) (S.1 26) (S.2.1 18) (S.2.1 27) z1 (S.2.2 1) (S.2.2 16) (S.2.2 17) (S.2.2 18) (S.2.2 19) (S.2.2 20) (S.2.2 27) (S.2.2 28) (S.2.2 30) (S.2.2 31) (S.2.2 32) (S.2.2 33) (S.2.2 34) (S.2.2 35) (S.2.2 36)))
set_option maxRecDepth 100000 in
def wl_Mo_breakUp_4 (S : ST) (post : Int32 → (Nat → Int32) → (Nat → Int32) → (Nat → Int32) → (Nat → Int32) → (Nat → Int32) → (Nat → Int32) → (Nat → Int32) → (Nat → Int32) → (Nat → Int32) → (Nat → Int32) → (Nat → Int32) → (Nat → Int32) → (Nat → Int32) → (Nat → Int32) → (Nat → Int32) → (Nat → Int32) → (Nat → Int32) → (Nat → Int32) → (Nat → Int32) → (Nat → Int64) → (Nat → Int64) → Int32 → Int32 → Int32 → Int32 → Int32 → Int32 → Int32 → Int32 → Int32 → Int32 → Int32 → Int32 → Int32 → Int32 → Int32 → Int32 → Prop) : Nat → Int32 → Int32 → Prop
  | 0, _, _ => False
  | n + 1, x1, x2 => (((S.2.2 1) ≤ x2 → ((x1 = 0 → wp_Mo_fitsInSizes S  (fun r1 => ((r1 = 0 → wl_Mo_breakUp_74 S post  2) ∧ (¬ r1 = 0 → wl_Mo_breakUp_74 S post  0)))) ∧ (¬ x1 = 0 → wl_Mo_breakUp_74 S post  1))) ∧ (¬ (S.2.2 1) ≤ x2 → ((¬ x1 = 0 → (∀ v2 : Int32, v2 = x2 + 1 → wl_Mo_breakUp_4 S post n 1 v2)) ∧ (x1 = 0 → (vp_in x2 410 ∧ ((¬ ((S.1 1) x2.toNatClampNeg) = 5 → (∀ v3 : Int32, v3 = x2 + 1 → wl_Mo_breakUp_4 S post n 0 v3)) ∧ (((S.1 1) x2.toNatClampNeg) = 5 → (vp_in x2 410 ∧ (((x2 + ((S.1 8) x2.toNatClampNeg)) < (S.2.2 1) → (∀ v4 : Int32, v4 = x2 + 1 → wl_Mo_breakUp_4 S post n 0 v4)) ∧ (¬ (x2 + ((S.1 8) x2.toNatClampNeg)) < (S.2.2 1) → (∀ v5 : Int32, v5 = x2 + 1 → wl_Mo_breakUp_4 S post n 1 v5)))))))))))
set_option maxRecDepth 100000 in
def wp_Mo_breakUp (S : ST) (post : Int32 → (Nat → Int32) → (Nat → Int32) → (Nat → Int32) → (Nat → Int32) → (Nat → Int32) → (Nat → Int32) → (Nat → Int32) → (Nat → Int32) → (Nat → Int32) → (Nat → Int32) → (Nat → Int32) → (Nat → Int32) → (Nat → Int32) → (Nat → Int32) → (Nat → Int32) → (Nat → Int32) → (Nat → Int32) → (Nat → Int32) → (Nat → Int32) → (Nat → Int64) → (Nat → Int64) → Int32 → Int32 → Int32 → Int32 → Int32 → Int32 → Int32 → Int32 → Int32 → Int32 → Int32 → Int32 → Int32 → Int32 → Int32 → Int32 → Prop) : Prop := (∃ k9 : Nat, wl_Mo_breakUp_4 S post  k9 0 0)
abbrev y_Mo_pass : MethodName := ⟨"LineBreakerModel", "pass", "()I"⟩
abbrev rm_Mo_pass : Room := { frames := 0, cells := 0, slots := 0, locals := 0 }
set_option maxRecDepth 100000 in
def wp_Mo_pass (S : ST) (post : Int32 → Int32 → Prop) : Prop := post (S.2.2 34) 0
abbrev y_Mo_nodes : MethodName := ⟨"LineBreakerModel", "nodes", "()I"⟩
abbrev rm_Mo_nodes : Room := { frames := 0, cells := 0, slots := 0, locals := 0 }
set_option maxRecDepth 100000 in
def wp_Mo_nodes (S : ST) (post : Int32 → Int32 → Prop) : Prop := (((S.2.2 34) ≤ 0 → post 0 0) ∧ (¬ (S.2.2 34) ≤ 0 → post (S.2.2 35) 0))
abbrev y_Mo_isLine : MethodName := ⟨"LineBreakerModel", "isLine", "(I)Z"⟩
abbrev rm_Mo_isLine : Room := { frames := 0, cells := 0, slots := 0, locals := 0 }
set_option maxRecDepth 100000 in
def wp_Mo_isLine (S : ST) (p1 : Int32) (post : Int32 → Prop) : Prop := (((S.2.2 34) ≤ 0 → post 0) ∧ (¬ (S.2.2 34) ≤ 0 → ((p1 < 0 → post 0) ∧ (¬ p1 < 0 → (((S.2.2 36) ≤ p1 → post 0) ∧ (¬ (S.2.2 36) ≤ p1 → post 1))))))
abbrev y_Mo_line : MethodName := ⟨"LineBreakerModel", "line", "(II)I"⟩
abbrev rm_Mo_line : Room := { frames := 1, cells := 0, slots := 0, locals := 21 }
set_option maxRecDepth 100000 in
def wl_Mo_line_23 (S : ST) (post : Int32 → Int32 → Prop) (x1 : Int32) (x2 : Int32) (z1 : Int32) : Prop := ((z1 ≤ 0 → ((x2 = 0 → (vp_in x1 410 ∧ post ((S.1 22) x1.toNatClampNeg) z1)) ∧ (x2 = 1 → (vp_in x1 410 ∧ post ((S.1 23) x1.toNatClampNeg) z1)) ∧ (x2 = 2 → (vp_in x1 410 ∧ post ((S.1 24) x1.toNatClampNeg) z1)) ∧ (x2 = 3 → (vp_in x1 410 ∧ post ((S.1 25) x1.toNatClampNeg) z1)) ∧ (¬ x2 = 0 → ¬ x2 = 1 → ¬ x2 = 2 → ¬ x2 = 3 → (vp_in x1 410 ∧ post ((S.1 26) x1.toNatClampNeg) z1)))) ∧ (¬ z1 ≤ 0 → post 0 z1))
set_option maxRecDepth 100000 in
def wl_Mo_line_18 (S : ST) (post : Int32 → Int32 → Prop) (x1 : Int32) (x2 : Int32) : Prop := wl_Mo_line_23 S post  x1 x2 1
set_option maxRecDepth 100000 in
def wp_Mo_line (S : ST) (p1 : Int32) (p2 : Int32) (post : Int32 → Int32 → Prop) : Prop := wp_Mo_isLine S p1 (fun r1 => ((r1 = 0 → wl_Mo_line_18 S post  p1 p2) ∧ (¬ r1 = 0 → ((p2 < 0 → wl_Mo_line_18 S post  p1 p2) ∧ (¬ p2 < 0 → ((p2 ≤ 4 → wl_Mo_line_23 S post  p1 p2 0) ∧ (¬ p2 ≤ 4 → wl_Mo_line_18 S post  p1 p2)))))))
abbrev y_Mo_total : MethodName := ⟨"LineBreakerModel", "total", "(I)J"⟩
abbrev rm_Mo_total : Room := { frames := 1, cells := 0, slots := 0, locals := 21 }
set_option maxRecDepth 100000 in
def wl_Mo_total_14 (S : ST) (post : Int64 → Int32 → Prop) (x1 : Int32) (z1 : Int32) : Prop := ((z1 ≤ 0 → (vp_in x1 410 ∧ post ((S.2.1 27) x1.toNatClampNeg) z1)) ∧ (¬ z1 ≤ 0 → post 0 z1))
set_option maxRecDepth 100000 in
def wp_Mo_total (S : ST) (p1 : Int32) (post : Int64 → Int32 → Prop) : Prop := wp_Mo_isLine S p1 (fun r1 => ((r1 = 0 → wl_Mo_total_14 S post  p1 1) ∧ (¬ r1 = 0 → wl_Mo_total_14 S post  p1 0)))
section
variable {p : Program} {l : Launch} {e : Env} {s : State} {m : MethodId} {args : Array Value} {below : List Frame} {meth : Method} {c : Code} {n0 : Nat} {G : va_G} {K : KT} {ad : Nat → Nat} {X : va_W}
set_option maxHeartbeats 4000000 in
set_option maxRecDepth 100000 in
theorem c_Mo_thrown (l : Launch) (n0 : Nat) (G : va_G) (K : KT) (ad : Nat → Nat) (X : va_W) (S : ST) (post : Int32 → Prop) (hw : wp_Mo_thrown S  post) : Met l y_Mo_thrown (Cond.code y_Mo_thrown prog_12_method_2_code 1 (some .int) :: gw) rm_Mo_thrown (va_Pc [.ref (ad 0)] (wb n0 G K (wM K ad S ++ X))) (rq_i post) 0 0 (fun _ => False) := by
  refine kb_start (own := "LineBreakerModel") (by decide +kernel) rfl ?_
  intro p e s m below meth c C hr hne w
  have hx := C.1
  have hb := C.2.1
  have hts := C.2.2.2.2.1
  have hl := lv_entry ([.ref (ad 0)]) (n := 1) (Nat.le_of_ble_eq_true rfl)
  rw [lg_entry_eq]
  generalize (lg_sl ([.ref (ad 0)]) ++ List.replicate (1 - (lg_sl ([.ref (ad 0)])).length) Slot.unset).toArray = ls at hl ⊢
  have hl : lv_has ls 1 [(0, .ref (ad 0))] := hl
  unfold wp_Mo_thrown at hw
  refine lv_aload_n hx hb d_Mo_thrown_0 rfl (lv_at hl 0 rfl) ?_
  refine kg (C1 := R_Mo) (T := F_Mo) (N := 43) (ci := 10) (ref := "LineBreakerModel") (v := .int (S.2.2 0)) C w 0 0 iw_Mo rfl rfl (by decide) kw_877 rfl rfl d_Mo_thrown_1 ?_
  exact kf_i C hr d_Mo_thrown_4 hw
set_option maxHeartbeats 4000000 in
set_option maxRecDepth 100000 in
theorem c_Mo_isSize (l : Launch) (n0 : Nat) (G : va_G) (K : KT) (ad : Nat → Nat) (X : va_W) (S : ST) (p1 : Int64) (post : Int32 → Prop) (hw : wp_Mo_isSize S p1 post) : Met l y_Mo_isSize (Cond.code y_Mo_isSize prog_12_method_3_code 2 (some .boolean) :: gw) rm_Mo_isSize (va_Pc [.long p1] (wb n0 G K (wM K ad S ++ X))) (rq_i post) 0 0 (fun _ => False) := by
  refine kb_start (own := "LineBreakerModel") (by decide +kernel) rfl ?_
  intro p e s m below meth c C hr hne w
  have hx := C.1
  have hb := C.2.1
  have hts := C.2.2.2.2.1
  have hl := lv_entry ([.long p1]) (n := 2) (Nat.le_of_ble_eq_true rfl)
  rw [lg_entry_eq]
  generalize (lg_sl ([.long p1]) ++ List.replicate (2 - (lg_sl ([.long p1])).length) Slot.unset).toArray = ls at hl ⊢
  have hl : lv_has ls 2 [(0, .long p1)] := hl
  unfold wp_Mo_isSize at hw
  refine lv_lload_n hx hb d_Mo_isSize_0 rfl (lv_at hl 0 rfl) ?_
  refine lv_ldc2 (v := (-1073741823)) hx hb C.2.2.2.1 (hts _ kw_1018) d_Mo_isSize_1 ?_
  refine W.lcmp hx hb d_Mo_isSize_4 ?_
  refine lv_if_lt (tgt := 20) hx hb d_Mo_isSize_5 (by decide) (fun hc => ?_) (fun hc => ?_)
  · have hw := hw.1 hc
    refine lv_iconst (v := 0) hx hb d_Mo_isSize_20 (by decide) ?_
    exact kf_z C hr d_Mo_isSize_21 (Or.inl rfl) hw
  · have hw := hw.2 hc
    refine lv_lload_n hx hb d_Mo_isSize_8 rfl (lv_at hl 0 rfl) ?_
    refine lv_ldc2 (v := 1073741823) hx hb C.2.2.2.1 (hts _ kw_1019) d_Mo_isSize_9 ?_
    refine W.lcmp hx hb d_Mo_isSize_12 ?_
    refine lv_if_gt (tgt := 20) hx hb d_Mo_isSize_13 (by decide) (fun hc => ?_) (fun hc => ?_)
    · have hw := hw.1 hc
      refine lv_iconst (v := 0) hx hb d_Mo_isSize_20 (by decide) ?_
      exact kf_z C hr d_Mo_isSize_21 (Or.inl rfl) hw
    · have hw := hw.2 hc
      refine lv_iconst (v := 1) hx hb d_Mo_isSize_16 (by decide) ?_
      refine lv_goto (tgt := 21) hx hb d_Mo_isSize_17 (by decide) ?_
      exact kf_z C hr d_Mo_isSize_21 (Or.inr rfl) hw
set_option maxHeartbeats 4000000 in
set_option maxRecDepth 100000 in
theorem c_Mo_isMore (l : Launch) (n0 : Nat) (G : va_G) (K : KT) (ad : Nat → Nat) (X : va_W) (S : ST) (p1 : Int32) (post : Int32 → Prop) (hw : wp_Mo_isMore S p1 post) : Met l y_Mo_isMore (Cond.code y_Mo_isMore prog_12_method_4_code 1 (some .boolean) :: gw) rm_Mo_isMore (va_Pc [.int p1] (wb n0 G K (wM K ad S ++ X))) (rq_i post) 0 0 (fun _ => False) := by
  refine kb_start (own := "LineBreakerModel") (by decide +kernel) rfl ?_
  intro p e s m below meth c C hr hne w
  have hx := C.1
  have hb := C.2.1
  have hts := C.2.2.2.2.1
  have hl := lv_entry ([.int p1]) (n := 1) (Nat.le_of_ble_eq_true rfl)
  rw [lg_entry_eq]
  generalize (lg_sl ([.int p1]) ++ List.replicate (1 - (lg_sl ([.int p1])).length) Slot.unset).toArray = ls at hl ⊢
  have hl : lv_has ls 1 [(0, .int p1)] := hl
  unfold wp_Mo_isMore at hw
  refine lv_iload_n hx hb d_Mo_isMore_0 rfl (lv_at hl 0 rfl) ?_
  refine lv_if_lt (tgt := 14) hx hb d_Mo_isMore_1 (by decide) (fun hc => ?_) (fun hc => ?_)
  · have hw := hw.1 hc
    refine lv_iconst (v := 0) hx hb d_Mo_isMore_14 (by decide) ?_
    exact kf_z C hr d_Mo_isMore_15 (Or.inl rfl) hw
  · have hw := hw.2 hc
    refine lv_iload_n hx hb d_Mo_isMore_4 rfl (lv_at hl 0 rfl) ?_
    refine lv_ldc (v := 1073741823) hx hb C.2.2.2.1 (hts _ kw_1034) d_Mo_isMore_5 ?_
    refine lv_icmp_gt (tgt := 14) hx hb d_Mo_isMore_7 (by decide) (fun hc => ?_) (fun hc => ?_)
    · have hw := hw.1 hc
      refine lv_iconst (v := 0) hx hb d_Mo_isMore_14 (by decide) ?_
      exact kf_z C hr d_Mo_isMore_15 (Or.inl rfl) hw
    · have hw := hw.2 hc
      refine lv_iconst (v := 1) hx hb d_Mo_isMore_10 (by decide) ?_
      refine lv_goto (tgt := 15) hx hb d_Mo_isMore_11 (by decide) ?_
      exact kf_z C hr d_Mo_isMore_15 (Or.inr rfl) hw
set_option maxHeartbeats 4000000 in
set_option maxRecDepth 100000 in
theorem w_Mo_replacer_4 {S : ST} {post : Int32 → Prop} (C : cx p s m args meth c prog_12_method_5_code 3 "LineBreakerModel" n0 G K) (hr : meth.sig.returnType = (some .int)) : ∀ (n : Nat) (x1 : Int32) (x2 : Int32), wl_Mo_replacer_4 S post n x1 x2 → ∀ (ls : Array Slot), wn n0 G (wM K ad S ++ X) s s.heap [] → lv_has ls 3 [(0, .ref (ad 0)), (1, .int x1), (2, .int x2)] → W p l e rm_Mo_replacer s m args below meth c s.heap [] 0 0 (MQ below (rq_i post) args s 0 0 (fun _ => False)) (F0 m 4 ls []) := by
  have hx := C.1
  have hb := C.2.1
  have hts := C.2.2.2.2.1
  intro n
  induction n with
  | zero =>
    intro x1 x2 hw
    unfold wl_Mo_replacer_4 at hw
    exact hw.elim
  | succ n ih =>
    intro x1 x2 hw ls w hl
    unfold wl_Mo_replacer_4 at hw
    refine lv_iload_n hx hb d_Mo_replacer_4 rfl (lv_at hl 2 rfl) ?_
    refine lv_if_lt (tgt := 46) hx hb d_Mo_replacer_5 (by decide) (fun hc => ?_) (fun hc => ?_)
    · have hw := hw.1 hc
      refine lv_iconst (v := (-1)) hx hb d_Mo_replacer_46 (by decide) ?_
      exact kf_i C hr d_Mo_replacer_47 hw
    · have hw := hw.2 hc
      refine lv_iload_n hx hb d_Mo_replacer_8 rfl (lv_at hl 2 rfl) ?_
      refine lv_iload_n hx hb d_Mo_replacer_9 rfl (lv_at hl 1 rfl) ?_
      refine lv_bipush (v := 10) hx hb d_Mo_replacer_10 (by decide) ?_
      refine lv_isub hx hb d_Mo_replacer_12 ?_
      refine lv_icmp_lt (tgt := 46) hx hb d_Mo_replacer_13 (by decide) (fun hc => ?_) (fun hc => ?_)
      · have hw := hw.1 hc
        refine lv_iconst (v := (-1)) hx hb d_Mo_replacer_46 (by decide) ?_
        exact kf_i C hr d_Mo_replacer_47 hw
      · have hw := hw.2 hc
        refine lv_aload_n hx hb d_Mo_replacer_16 rfl (lv_at hl 0 rfl) ?_
        refine kg (C1 := R_Mo) (T := F_Mo) (N := 43) (ci := 10) (ref := "LineBreakerModel") (v := .ref (ad 1)) C w 0 2 iw_Mo rfl rfl (by decide) kw_879 rfl rfl d_Mo_replacer_17 ?_
        refine lv_iload_n hx hb d_Mo_replacer_20 rfl (lv_at hl 2 rfl) ?_
        refine ka_i (f := (S.1 1)) C w 1 rfl hw.1 d_Mo_replacer_21 ?_
        have hw := hw.2
        refine lv_iconst (v := 5) hx hb d_Mo_replacer_22 (by decide) ?_
        refine lv_icmp_ne (tgt := 40) hx hb d_Mo_replacer_23 (by decide) (fun hc => ?_) (fun hc => ?_)
        · have hw := hw.1 hc
          obtain ⟨v1, ev1⟩ : ∃ y : Int32, y = x2 + (-1) := ⟨_, rfl⟩
          refine lv_iinc (v := v1) (lv' := [(2, .int v1), (0, .ref (ad 0)), (1, .int x1)]) hx hb d_Mo_replacer_40 hl (k := 2) rfl (by rw [ev1]; rfl) (by decide) rfl (fun ls hl => ?_)
          have hw := hw v1 ev1
          refine lv_goto (tgt := 4) hx hb d_Mo_replacer_43 (by decide) ?_
          exact ih x1 v1 hw _ w (lv_sub hl [1, 2, 0] rfl)
        · have hw := hw.2 hc
          refine lv_iload_n hx hb d_Mo_replacer_26 rfl (lv_at hl 2 rfl) ?_
          refine lv_aload_n hx hb d_Mo_replacer_27 rfl (lv_at hl 0 rfl) ?_
          refine kg (C1 := R_Mo) (T := F_Mo) (N := 43) (ci := 10) (ref := "LineBreakerModel") (v := .ref (ad 8)) C w 0 9 iw_Mo rfl rfl (by decide) kw_886 rfl rfl d_Mo_replacer_28 ?_
          refine lv_iload_n hx hb d_Mo_replacer_31 rfl (lv_at hl 2 rfl) ?_
          refine ka_i (f := (S.1 8)) C w 8 rfl hw.1 d_Mo_replacer_32 ?_
          have hw := hw.2
          refine lv_iadd hx hb d_Mo_replacer_33 ?_
          refine lv_iload_n hx hb d_Mo_replacer_34 rfl (lv_at hl 1 rfl) ?_
          refine lv_icmp_lt (tgt := 40) hx hb d_Mo_replacer_35 (by decide) (fun hc => ?_) (fun hc => ?_)
          · have hw := hw.1 hc
            obtain ⟨v2, ev2⟩ : ∃ y : Int32, y = x2 + (-1) := ⟨_, rfl⟩
            refine lv_iinc (v := v2) (lv' := [(2, .int v2), (0, .ref (ad 0)), (1, .int x1)]) hx hb d_Mo_replacer_40 hl (k := 2) rfl (by rw [ev2]; rfl) (by decide) rfl (fun ls hl => ?_)
            have hw := hw v2 ev2
            refine lv_goto (tgt := 4) hx hb d_Mo_replacer_43 (by decide) ?_
            exact ih x1 v2 hw _ w (lv_sub hl [1, 2, 0] rfl)
          · have hw := hw.2 hc
            refine lv_iload_n hx hb d_Mo_replacer_38 rfl (lv_at hl 2 rfl) ?_
            exact kf_i C hr d_Mo_replacer_39 hw
set_option maxHeartbeats 4000000 in
set_option maxRecDepth 100000 in
theorem c_Mo_replacer (l : Launch) (n0 : Nat) (G : va_G) (K : KT) (ad : Nat → Nat) (X : va_W) (S : ST) (p1 : Int32) (post : Int32 → Prop) (hw : wp_Mo_replacer S p1 post) : Met l y_Mo_replacer (Cond.code y_Mo_replacer prog_12_method_5_code 3 (some .int) :: gw) rm_Mo_replacer (va_Pc [.ref (ad 0), .int p1] (wb n0 G K (wM K ad S ++ X))) (rq_i post) 0 0 (fun _ => False) := by
  refine kb_start (own := "LineBreakerModel") (by decide +kernel) rfl ?_
  intro p e s m below meth c C hr hne w
  have hx := C.1
  have hb := C.2.1
  have hts := C.2.2.2.2.1
  have hl := lv_entry ([.ref (ad 0), .int p1]) (n := 3) (Nat.le_of_ble_eq_true rfl)
  rw [lg_entry_eq]
  generalize (lg_sl ([.ref (ad 0), .int p1]) ++ List.replicate (3 - (lg_sl ([.ref (ad 0), .int p1])).length) Slot.unset).toArray = ls at hl ⊢
  have hl : lv_has ls 3 [(0, .ref (ad 0)), (1, .int p1)] := hl
  unfold wp_Mo_replacer at hw
  refine lv_iload_n hx hb d_Mo_replacer_0 rfl (lv_at hl 1 rfl) ?_
  refine lv_iconst (v := 1) hx hb d_Mo_replacer_1 (by decide) ?_
  refine lv_isub hx hb d_Mo_replacer_2 ?_
  refine lv_topi (fun v1 ev1 => ?_)
  have hw := hw v1 ev1
  refine lv_istore_n (lv' := [(2, .int v1), (0, .ref (ad 0)), (1, .int p1)]) hx hb d_Mo_replacer_3 rfl hl (by decide) rfl (fun ls hl => ?_)
  obtain ⟨n9, hw⟩ := hw
  exact w_Mo_replacer_4 C hr  n9 p1 v1 hw _ w (lv_sub hl [1, 2, 0] rfl)
set_option maxHeartbeats 4000000 in
set_option maxRecDepth 100000 in
theorem c_Mo_append (l : Launch) (n0 : Nat) (G : va_G) (K : KT) (ad : Nat → Nat) (X : va_W) (S : ST) (p1 : Int32) (p2 : Int32) (p3 : Int32) (p4 : Int32) (p5 : Int32) (p6 : Int32) (p7 : Int32) (post : Int32 → (Nat → Int32) → (Nat → Int32) → (Nat → Int32) → (Nat → Int32) → (Nat → Int32) → (Nat → Int32) → (Nat → Int32) → (Nat → Int32) → Int32 → Int32 → Prop) (hw : wp_Mo_append S p1 p2 p3 p4 p5 p6 p7 post) : Met l y_Mo_append (Cond.code y_Mo_append prog_12_method_6_code 9 (some .int) :: gw) rm_Mo_append (va_Pc [.ref (ad 0), .int p1, .int p2, .int p3, .int p4, .int p5, .int p6, .int p7] (wb n0 G K (wM K ad S ++ X))) (va_Qi (fun r (u : (Nat → Int32) × (Nat → Int32) × (Nat → Int32) × (Nat → Int32) × (Nat → Int32) × (Nat → Int32) × (Nat → Int32) × (Nat → Int32) × Int32 × Int32) => post r u.1 u.2.1 u.2.2.1 u.2.2.2.1 u.2.2.2.2.1 u.2.2.2.2.2.1 u.2.2.2.2.2.2.1 u.2.2.2.2.2.2.2.1 u.2.2.2.2.2.2.2.2.1 u.2.2.2.2.2.2.2.2.2) (fun (u : (Nat → Int32) × (Nat → Int32) × (Nat → Int32) × (Nat → Int32) × (Nat → Int32) × (Nat → Int32) × (Nat → Int32) × (Nat → Int32) × Int32 × Int32) t => we n0 G (wM K ad (sI (sI (sA (sA (sA (sA (sA (sA (sA (sA S 1 u.1) 2 u.2.1) 3 u.2.2.1) 4 u.2.2.2.1) 5 u.2.2.2.2.1) 6 u.2.2.2.2.2.1) 7 u.2.2.2.2.2.2.1) 8 u.2.2.2.2.2.2.2.1) 1 u.2.2.2.2.2.2.2.2.1) 34 u.2.2.2.2.2.2.2.2.2) ++ X) t) (al n0)) 0 0 (al n0) := by
  refine kb_start (own := "LineBreakerModel") (by decide +kernel) rfl ?_
  intro p e s m below meth c C hr hne w
  have hx := C.1
  have hb := C.2.1
  have hts := C.2.2.2.2.1
  have hl := lv_entry ([.ref (ad 0), .int p1, .int p2, .int p3, .int p4, .int p5, .int p6, .int p7]) (n := 9) (Nat.le_of_ble_eq_true rfl)
  rw [lg_entry_eq]
  generalize (lg_sl ([.ref (ad 0), .int p1, .int p2, .int p3, .int p4, .int p5, .int p6, .int p7]) ++ List.replicate (9 - (lg_sl ([.ref (ad 0), .int p1, .int p2, .int p3, .int p4, .int p5, .int p6, .int p7])).length) Slot.unset).toArray = ls at hl ⊢
  have hl : lv_has ls 9 [(0, .ref (ad 0)), (1, .int p1), (2, .int p2), (3, .int p3), (4, .int p4), (5, .int p5), (6, .int p6), (7, .int p7)] := hl
  unfold wp_Mo_append at hw
  refine lv_aload_n hx hb d_Mo_append_0 rfl (lv_at hl 0 rfl) ?_
  refine kg (C1 := R_Mo) (T := F_Mo) (N := 43) (ci := 10) (ref := "LineBreakerModel") (v := .int (S.2.2 1)) C w 0 1 iw_Mo rfl rfl (by decide) kw_878 rfl rfl d_Mo_append_1 ?_
  refine lv_topi (fun v1 ev1 => ?_)
  have hw := hw v1 ev1
  refine lv_istore (lv' := [(8, .int v1), (0, .ref (ad 0)), (1, .int p1), (2, .int p2), (3, .int p3), (4, .int p4), (5, .int p5), (6, .int p6), (7, .int p7)]) hx hb d_Mo_append_4 hl (by decide) rfl (fun ls hl => ?_)
  refine lv_aload_n hx hb d_Mo_append_6 rfl (lv_at hl 1 rfl) ?_
  refine kg (C1 := R_Mo) (T := F_Mo) (N := 43) (ci := 10) (ref := "LineBreakerModel") (v := .ref (ad 1)) C w 0 2 iw_Mo rfl rfl (by decide) kw_879 rfl rfl d_Mo_append_7 ?_
  refine lv_iload hx hb d_Mo_append_10 (lv_at hl 0 rfl) ?_
  refine lv_iload_n hx hb d_Mo_append_12 rfl (lv_at hl 2 rfl) ?_
  obtain ⟨f2, ef2⟩ : ∃ z : Nat → Int32, z = upd (S.1 1) v1.toNatClampNeg p1 := ⟨_, rfl⟩
  refine ks_i (f := (S.1 1)) (w2 := wM K ad (sA S 1 f2) ++ X) C w 1 rfl hw.1 (by rw [← ef2]; rfl) d_Mo_append_13 (fun H locs w => ?_)
  have hw := hw.2 f2 ef2
  refine lv_aload_n hx hb d_Mo_append_14 rfl (lv_at hl 1 rfl) ?_
  refine kg (C1 := R_Mo) (T := F_Mo) (N := 43) (ci := 10) (ref := "LineBreakerModel") (v := .ref (ad 2)) C w 0 3 iw_Mo rfl rfl (by decide) kw_880 rfl rfl d_Mo_append_15 ?_
  refine lv_iload hx hb d_Mo_append_18 (lv_at hl 0 rfl) ?_
  refine lv_iload_n hx hb d_Mo_append_20 rfl (lv_at hl 3 rfl) ?_
  obtain ⟨f3, ef3⟩ : ∃ z : Nat → Int32, z = upd (S.1 2) v1.toNatClampNeg p2 := ⟨_, rfl⟩
  refine ks_i (f := (S.1 2)) (w2 := wM K ad (sA (sA S 1 f2) 2 f3) ++ X) C w 2 rfl hw.1 (by rw [← ef3]; rfl) d_Mo_append_21 (fun H locs w => ?_)
  have hw := hw.2 f3 ef3
  refine lv_aload_n hx hb d_Mo_append_22 rfl (lv_at hl 1 rfl) ?_
  refine kg (C1 := R_Mo) (T := F_Mo) (N := 43) (ci := 10) (ref := "LineBreakerModel") (v := .ref (ad 3)) C w 0 4 iw_Mo rfl rfl (by decide) kw_881 rfl rfl d_Mo_append_23 ?_
  refine lv_iload hx hb d_Mo_append_26 (lv_at hl 0 rfl) ?_
  refine lv_iload_n hx hb d_Mo_append_28 rfl (lv_at hl 4 rfl) ?_
  obtain ⟨f4, ef4⟩ : ∃ z : Nat → Int32, z = upd (S.1 3) v1.toNatClampNeg p3 := ⟨_, rfl⟩
  refine ks_i (f := (S.1 3)) (w2 := wM K ad (sA (sA (sA S 1 f2) 2 f3) 3 f4) ++ X) C w 3 rfl hw.1 (by rw [← ef4]; rfl) d_Mo_append_29 (fun H locs w => ?_)
  have hw := hw.2 f4 ef4
  refine lv_aload_n hx hb d_Mo_append_30 rfl (lv_at hl 1 rfl) ?_
  refine kg (C1 := R_Mo) (T := F_Mo) (N := 43) (ci := 10) (ref := "LineBreakerModel") (v := .ref (ad 4)) C w 0 5 iw_Mo rfl rfl (by decide) kw_882 rfl rfl d_Mo_append_31 ?_
  refine lv_iload hx hb d_Mo_append_34 (lv_at hl 0 rfl) ?_
  refine lv_iload hx hb d_Mo_append_36 (lv_at hl 5 rfl) ?_
  obtain ⟨f5, ef5⟩ : ∃ z : Nat → Int32, z = upd (S.1 4) v1.toNatClampNeg p4 := ⟨_, rfl⟩
  refine ks_i (f := (S.1 4)) (w2 := wM K ad (sA (sA (sA (sA S 1 f2) 2 f3) 3 f4) 4 f5) ++ X) C w 4 rfl hw.1 (by rw [← ef5]; rfl) d_Mo_append_38 (fun H locs w => ?_)
  have hw := hw.2 f5 ef5
  refine lv_aload_n hx hb d_Mo_append_39 rfl (lv_at hl 1 rfl) ?_
  refine kg (C1 := R_Mo) (T := F_Mo) (N := 43) (ci := 10) (ref := "LineBreakerModel") (v := .ref (ad 5)) C w 0 6 iw_Mo rfl rfl (by decide) kw_883 rfl rfl d_Mo_append_40 ?_
  refine lv_iload hx hb d_Mo_append_43 (lv_at hl 0 rfl) ?_
  refine lv_iload hx hb d_Mo_append_45 (lv_at hl 6 rfl) ?_
  obtain ⟨f6, ef6⟩ : ∃ z : Nat → Int32, z = upd (S.1 5) v1.toNatClampNeg p5 := ⟨_, rfl⟩
  refine ks_i (f := (S.1 5)) (w2 := wM K ad (sA (sA (sA (sA (sA S 1 f2) 2 f3) 3 f4) 4 f5) 5 f6) ++ X) C w 5 rfl hw.1 (by rw [← ef6]; rfl) d_Mo_append_47 (fun H locs w => ?_)
  have hw := hw.2 f6 ef6
  refine lv_aload_n hx hb d_Mo_append_48 rfl (lv_at hl 1 rfl) ?_
  refine kg (C1 := R_Mo) (T := F_Mo) (N := 43) (ci := 10) (ref := "LineBreakerModel") (v := .ref (ad 6)) C w 0 7 iw_Mo rfl rfl (by decide) kw_884 rfl rfl d_Mo_append_49 ?_
  refine lv_iload hx hb d_Mo_append_52 (lv_at hl 0 rfl) ?_
  refine lv_iload_n hx hb d_Mo_append_54 rfl (lv_at hl 3 rfl) ?_
  obtain ⟨f7, ef7⟩ : ∃ z : Nat → Int32, z = upd (S.1 6) v1.toNatClampNeg p2 := ⟨_, rfl⟩
  refine ks_i (f := (S.1 6)) (w2 := wM K ad (sA (sA (sA (sA (sA (sA S 1 f2) 2 f3) 3 f4) 4 f5) 5 f6) 6 f7) ++ X) C w 6 rfl hw.1 (by rw [← ef7]; rfl) d_Mo_append_55 (fun H locs w => ?_)
  have hw := hw.2 f7 ef7
  refine lv_aload_n hx hb d_Mo_append_56 rfl (lv_at hl 1 rfl) ?_
  refine kg (C1 := R_Mo) (T := F_Mo) (N := 43) (ci := 10) (ref := "LineBreakerModel") (v := .ref (ad 7)) C w 0 8 iw_Mo rfl rfl (by decide) kw_885 rfl rfl d_Mo_append_57 ?_
  refine lv_iload hx hb d_Mo_append_60 (lv_at hl 0 rfl) ?_
  refine lv_iload hx hb d_Mo_append_62 (lv_at hl 7 rfl) ?_
  obtain ⟨f8, ef8⟩ : ∃ z : Nat → Int32, z = upd (S.1 7) v1.toNatClampNeg p6 := ⟨_, rfl⟩
  refine ks_i (f := (S.1 7)) (w2 := wM K ad (sA (sA (sA (sA (sA (sA (sA S 1 f2) 2 f3) 3 f4) 4 f5) 5 f6) 6 f7) 7 f8) ++ X) C w 7 rfl hw.1 (by rw [← ef8]; rfl) d_Mo_append_64 (fun H locs w => ?_)
  have hw := hw.2 f8 ef8
  refine lv_aload_n hx hb d_Mo_append_65 rfl (lv_at hl 1 rfl) ?_
  refine kg (C1 := R_Mo) (T := F_Mo) (N := 43) (ci := 10) (ref := "LineBreakerModel") (v := .ref (ad 8)) C w 0 9 iw_Mo rfl rfl (by decide) kw_886 rfl rfl d_Mo_append_66 ?_
  refine lv_iload hx hb d_Mo_append_69 (lv_at hl 0 rfl) ?_
  refine lv_iload hx hb d_Mo_append_71 (lv_at hl 8 rfl) ?_
  obtain ⟨f9, ef9⟩ : ∃ z : Nat → Int32, z = upd (S.1 8) v1.toNatClampNeg p7 := ⟨_, rfl⟩
  refine ks_i (f := (S.1 8)) (w2 := wM K ad (sA (sA (sA (sA (sA (sA (sA (sA S 1 f2) 2 f3) 3 f4) 4 f5) 5 f6) 6 f7) 7 f8) 8 f9) ++ X) C w 8 rfl hw.1 (by rw [← ef9]; rfl) d_Mo_append_73 (fun H locs w => ?_)
  have hw := hw.2 f9 ef9
  refine lv_aload_n hx hb d_Mo_append_74 rfl (lv_at hl 1 rfl) ?_
  refine lv_dup hx hb d_Mo_append_75 rfl ?_
  refine kg (C1 := R_Mo) (T := F_Mo) (N := 43) (ci := 10) (ref := "LineBreakerModel") (v := .int (S.2.2 1)) C w 0 1 iw_Mo rfl rfl (by decide) kw_878 rfl rfl d_Mo_append_76 ?_
  refine lv_iconst (v := 1) hx hb d_Mo_append_79 (by decide) ?_
  refine lv_iadd hx hb d_Mo_append_80 ?_
  refine lv_topi (fun v10 ev10 => ?_)
  have hw := hw v10 ev10
  refine kp (C1 := R_Mo) (T := F_Mo) (N := 43) (ci := 10) (ty0 := t_Mo) (ref := "LineBreakerModel") (w2 := wM K ad (sI (sA (sA (sA (sA (sA (sA (sA (sA S 1 f2) 2 f3) 3 f4) 4 f5) 5 f6) 6 f7) 7 f8) 8 f9) 1 v10) ++ X) C w 0 1 iw_Mo tk_Mo n_Mo rfl rfl (by decide) kw_878 rfl rfl rfl rfl (Nat.le_of_ble_eq_true rfl) rfl d_Mo_append_81 (fun H locs w => ?_)
  refine lv_aload_n hx hb d_Mo_append_84 rfl (lv_at hl 1 rfl) ?_
  refine lv_iconst (v := 0) hx hb d_Mo_append_85 (by decide) ?_
  refine kp (C1 := R_Mo) (T := F_Mo) (N := 43) (ci := 10) (ty0 := t_Mo) (ref := "LineBreakerModel") (w2 := wM K ad (sI (sI (sA (sA (sA (sA (sA (sA (sA (sA S 1 f2) 2 f3) 3 f4) 4 f5) 5 f6) 6 f7) 7 f8) 8 f9) 1 v10) 34 0) ++ X) C w 0 34 iw_Mo tk_Mo n_Mo rfl rfl (by decide) kw_911 rfl rfl rfl rfl (Nat.le_of_ble_eq_true rfl) rfl d_Mo_append_86 (fun H locs w => ?_)
  refine lv_iload hx hb d_Mo_append_89 (lv_at hl 0 rfl) ?_
  exact ke_i (post := (fun r (u : (Nat → Int32) × (Nat → Int32) × (Nat → Int32) × (Nat → Int32) × (Nat → Int32) × (Nat → Int32) × (Nat → Int32) × (Nat → Int32) × Int32 × Int32) => post r u.1 u.2.1 u.2.2.1 u.2.2.2.1 u.2.2.2.2.1 u.2.2.2.2.2.1 u.2.2.2.2.2.2.1 u.2.2.2.2.2.2.2.1 u.2.2.2.2.2.2.2.2.1 u.2.2.2.2.2.2.2.2.2)) (st := (fun (u : (Nat → Int32) × (Nat → Int32) × (Nat → Int32) × (Nat → Int32) × (Nat → Int32) × (Nat → Int32) × (Nat → Int32) × (Nat → Int32) × Int32 × Int32) => wM K ad (sI (sI (sA (sA (sA (sA (sA (sA (sA (sA S 1 u.1) 2 u.2.1) 3 u.2.2.1) 4 u.2.2.2.1) 5 u.2.2.2.2.1) 6 u.2.2.2.2.2.1) 7 u.2.2.2.2.2.2.1) 8 u.2.2.2.2.2.2.2.1) 1 u.2.2.2.2.2.2.2.2.1) 34 u.2.2.2.2.2.2.2.2.2) ++ X)) (u := (f2, f3, f4, f5, f6, f7, f8, f9, v10, 0)) C hr d_Mo_append_91 (wn_eq w rfl) hw
set_option maxHeartbeats 4000000 in
set_option maxRecDepth 100000 in
theorem w_Mo_box_28 {S : ST} {post : Int32 → (Nat → Int32) → (Nat → Int32) → (Nat → Int32) → (Nat → Int32) → (Nat → Int32) → (Nat → Int32) → (Nat → Int32) → (Nat → Int32) → Int32 → Int32 → Int32 → Prop} (C : cx p s m args meth c prog_12_method_7_code 2 "LineBreakerModel" n0 G K) (hr : meth.sig.returnType = (some .int)) : ∀ (x1 : Int32) (z1 : Int32), wl_Mo_box_28 S post x1 z1 → ∀ (H : Heap) (locs : List Loc) (ls : Array Slot), wn n0 G (wM K ad S ++ X) s H locs → lv_has ls 2 [(0, .ref (ad 0)), (1, .int x1)] → W p l e rm_Mo_box s m args below meth c H locs 0 0 (MQ below (va_Qi (fun r (u : (Nat → Int32) × (Nat → Int32) × (Nat → Int32) × (Nat → Int32) × (Nat → Int32) × (Nat → Int32) × (Nat → Int32) × (Nat → Int32) × Int32 × Int32 × Int32) => post r u.1 u.2.1 u.2.2.1 u.2.2.2.1 u.2.2.2.2.1 u.2.2.2.2.2.1 u.2.2.2.2.2.2.1 u.2.2.2.2.2.2.2.1 u.2.2.2.2.2.2.2.2.1 u.2.2.2.2.2.2.2.2.2.1 u.2.2.2.2.2.2.2.2.2.2) (fun (u : (Nat → Int32) × (Nat → Int32) × (Nat → Int32) × (Nat → Int32) × (Nat → Int32) × (Nat → Int32) × (Nat → Int32) × (Nat → Int32) × Int32 × Int32 × Int32) t => we n0 G (wM K ad (sI (sI (sI (sA (sA (sA (sA (sA (sA (sA (sA S 1 u.1) 2 u.2.1) 3 u.2.2.1) 4 u.2.2.2.1) 5 u.2.2.2.2.1) 6 u.2.2.2.2.2.1) 7 u.2.2.2.2.2.2.1) 8 u.2.2.2.2.2.2.2.1) 0 u.2.2.2.2.2.2.2.2.1) 1 u.2.2.2.2.2.2.2.2.2.1) 34 u.2.2.2.2.2.2.2.2.2.2) ++ X) t) (al n0)) args s 0 0 (al n0)) (F0 m 28 ls [.int z1, .ref (ad 0)]) := by
  have hx := C.1
  have hb := C.2.1
  have hts := C.2.2.2.2.1
  intro x1 z1 hw H locs ls w hl
  unfold wl_Mo_box_28 at hw
  refine kp (C1 := R_Mo) (T := F_Mo) (N := 43) (ci := 10) (ty0 := t_Mo) (ref := "LineBreakerModel") (w2 := wM K ad (sI S 0 z1) ++ X) C w 0 0 iw_Mo tk_Mo n_Mo rfl rfl (by decide) kw_877 rfl rfl rfl rfl (Nat.le_of_ble_eq_true rfl) rfl d_Mo_box_28 (fun H locs w => ?_)
  refine lv_aload_n hx hb d_Mo_box_31 rfl (lv_at hl 0 rfl) ?_
  refine kg (C1 := R_Mo) (T := F_Mo) (N := 43) (ci := 10) (ref := "LineBreakerModel") (v := .int z1) C w 0 0 iw_Mo rfl rfl (by decide) kw_877 rfl rfl d_Mo_box_32 ?_
  refine lv_if_le (tgt := 42) hx hb d_Mo_box_35 (by decide) (fun hc => ?_) (fun hc => ?_)
  · have hw := hw.1 hc
    refine lv_aload_n hx hb d_Mo_box_42 rfl (lv_at hl 0 rfl) ?_
    refine lv_iconst (v := 0) hx hb d_Mo_box_43 (by decide) ?_
    refine lv_iload_n hx hb d_Mo_box_44 rfl (lv_at hl 1 rfl) ?_
    refine lv_iconst (v := 0) hx hb d_Mo_box_45 (by decide) ?_
    refine lv_iconst (v := 0) hx hb d_Mo_box_46 (by decide) ?_
    refine lv_iconst (v := 0) hx hb d_Mo_box_47 (by decide) ?_
    refine lv_iconst (v := 0) hx hb d_Mo_box_48 (by decide) ?_
    refine lv_iconst (v := 0) hx hb d_Mo_box_49 (by decide) ?_
    refine kc_i (st := fun (u : (Nat → Int32) × (Nat → Int32) × (Nat → Int32) × (Nat → Int32) × (Nat → Int32) × (Nat → Int32) × (Nat → Int32) × (Nat → Int32) × Int32 × Int32) => wM K ad (sI (sI (sA (sA (sA (sA (sA (sA (sA (sA (sI S 0 z1) 1 u.1) 2 u.2.1) 3 u.2.2.1) 4 u.2.2.2.1) 5 u.2.2.2.2.1) 6 u.2.2.2.2.2.1) 7 u.2.2.2.2.2.2.1) 8 u.2.2.2.2.2.2.2.1) 1 u.2.2.2.2.2.2.2.2.1) 34 u.2.2.2.2.2.2.2.2.2) ++ X) w (kr_V (y := y_Mo_append) (C1 := R_Mo) (T := F_Mo) (N := 43) (ci := 10) (q0 := 0) (As := [.int 0, .int x1, .int 0, .int 0, .int 0, .int 0, .int 0]) (n := 7) C w (c_Mo_append l n0 G K ad X (sI S 0 z1) 0 x1 0 0 0 0 0 _ hw) (gw_V kw_1020 kw_1022 kp_19 kw_11 kw_1023) (by decide +kernel) rfl rfl ⟨Nat.le_of_ble_eq_true rfl, Nat.le_of_ble_eq_true rfl⟩ rfl rfl rfl hl.1 rfl (Nat.le_of_ble_eq_true rfl) d_Mo_box_50 ⟨Nat.le_of_ble_eq_true rfl, Nat.le_of_ble_eq_true rfl⟩) (fun r11 u H locs hw w => ?_)
    obtain ⟨f1, f2, f3, f4, f5, f6, f7, f8, v9, v10⟩ := u
    dsimp only at hw
    have w : wn n0 G (wM K ad (sI (sI (sI (sA (sA (sA (sA (sA (sA (sA (sA S 1 f1) 2 f2) 3 f3) 4 f4) 5 f5) 6 f6) 7 f7) 8 f8) 0 z1) 1 v9) 34 v10) ++ X) s H locs := w
    exact ke_i (post := (fun r (u : (Nat → Int32) × (Nat → Int32) × (Nat → Int32) × (Nat → Int32) × (Nat → Int32) × (Nat → Int32) × (Nat → Int32) × (Nat → Int32) × Int32 × Int32 × Int32) => post r u.1 u.2.1 u.2.2.1 u.2.2.2.1 u.2.2.2.2.1 u.2.2.2.2.2.1 u.2.2.2.2.2.2.1 u.2.2.2.2.2.2.2.1 u.2.2.2.2.2.2.2.2.1 u.2.2.2.2.2.2.2.2.2.1 u.2.2.2.2.2.2.2.2.2.2)) (st := (fun (u : (Nat → Int32) × (Nat → Int32) × (Nat → Int32) × (Nat → Int32) × (Nat → Int32) × (Nat → Int32) × (Nat → Int32) × (Nat → Int32) × Int32 × Int32 × Int32) => wM K ad (sI (sI (sI (sA (sA (sA (sA (sA (sA (sA (sA S 1 u.1) 2 u.2.1) 3 u.2.2.1) 4 u.2.2.2.1) 5 u.2.2.2.2.1) 6 u.2.2.2.2.2.1) 7 u.2.2.2.2.2.2.1) 8 u.2.2.2.2.2.2.2.1) 0 u.2.2.2.2.2.2.2.2.1) 1 u.2.2.2.2.2.2.2.2.2.1) 34 u.2.2.2.2.2.2.2.2.2.2) ++ X)) (u := (f1, f2, f3, f4, f5, f6, f7, f8, z1, v9, v10)) C hr d_Mo_box_53 (wn_eq w rfl) hw
  · have hw := hw.2 hc
    refine lv_iconst (v := 0) hx hb d_Mo_box_38 (by decide) ?_
    refine lv_goto (tgt := 53) hx hb d_Mo_box_39 (by decide) ?_
    exact ke_i (post := (fun r (u : (Nat → Int32) × (Nat → Int32) × (Nat → Int32) × (Nat → Int32) × (Nat → Int32) × (Nat → Int32) × (Nat → Int32) × (Nat → Int32) × Int32 × Int32 × Int32) => post r u.1 u.2.1 u.2.2.1 u.2.2.2.1 u.2.2.2.2.1 u.2.2.2.2.2.1 u.2.2.2.2.2.2.1 u.2.2.2.2.2.2.2.1 u.2.2.2.2.2.2.2.2.1 u.2.2.2.2.2.2.2.2.2.1 u.2.2.2.2.2.2.2.2.2.2)) (st := (fun (u : (Nat → Int32) × (Nat → Int32) × (Nat → Int32) × (Nat → Int32) × (Nat → Int32) × (Nat → Int32) × (Nat → Int32) × (Nat → Int32) × Int32 × Int32 × Int32) => wM K ad (sI (sI (sI (sA (sA (sA (sA (sA (sA (sA (sA S 1 u.1) 2 u.2.1) 3 u.2.2.1) 4 u.2.2.2.1) 5 u.2.2.2.2.1) 6 u.2.2.2.2.2.1) 7 u.2.2.2.2.2.2.1) 8 u.2.2.2.2.2.2.2.1) 0 u.2.2.2.2.2.2.2.2.1) 1 u.2.2.2.2.2.2.2.2.2.1) 34 u.2.2.2.2.2.2.2.2.2.2) ++ X)) (u := ((S.1 1), (S.1 2), (S.1 3), (S.1 4), (S.1 5), (S.1 6), (S.1 7), (S.1 8), z1, (S.2.2 1), (S.2.2 34))) C hr d_Mo_box_53 (wn_eq w rfl) hw
set_option maxHeartbeats 4000000 in
set_option maxRecDepth 100000 in
theorem c_Mo_box (l : Launch) (n0 : Nat) (G : va_G) (K : KT) (ad : Nat → Nat) (X : va_W) (S : ST) (p1 : Int32) (post : Int32 → (Nat → Int32) → (Nat → Int32) → (Nat → Int32) → (Nat → Int32) → (Nat → Int32) → (Nat → Int32) → (Nat → Int32) → (Nat → Int32) → Int32 → Int32 → Int32 → Prop) (hw : wp_Mo_box S p1 post) : Met l y_Mo_box (Cond.code y_Mo_box prog_12_method_7_code 2 (some .int) :: gw) rm_Mo_box (va_Pc [.ref (ad 0), .int p1] (wb n0 G K (wM K ad S ++ X))) (va_Qi (fun r (u : (Nat → Int32) × (Nat → Int32) × (Nat → Int32) × (Nat → Int32) × (Nat → Int32) × (Nat → Int32) × (Nat → Int32) × (Nat → Int32) × Int32 × Int32 × Int32) => post r u.1 u.2.1 u.2.2.1 u.2.2.2.1 u.2.2.2.2.1 u.2.2.2.2.2.1 u.2.2.2.2.2.2.1 u.2.2.2.2.2.2.2.1 u.2.2.2.2.2.2.2.2.1 u.2.2.2.2.2.2.2.2.2.1 u.2.2.2.2.2.2.2.2.2.2) (fun (u : (Nat → Int32) × (Nat → Int32) × (Nat → Int32) × (Nat → Int32) × (Nat → Int32) × (Nat → Int32) × (Nat → Int32) × (Nat → Int32) × Int32 × Int32 × Int32) t => we n0 G (wM K ad (sI (sI (sI (sA (sA (sA (sA (sA (sA (sA (sA S 1 u.1) 2 u.2.1) 3 u.2.2.1) 4 u.2.2.2.1) 5 u.2.2.2.2.1) 6 u.2.2.2.2.2.1) 7 u.2.2.2.2.2.2.1) 8 u.2.2.2.2.2.2.2.1) 0 u.2.2.2.2.2.2.2.2.1) 1 u.2.2.2.2.2.2.2.2.2.1) 34 u.2.2.2.2.2.2.2.2.2.2) ++ X) t) (al n0)) 0 0 (al n0) := by
  refine kb_start (own := "LineBreakerModel") (by decide +kernel) rfl ?_
  intro p e s m below meth c C hr hne w
  have hx := C.1
  have hb := C.2.1
  have hts := C.2.2.2.2.1
  have hl := lv_entry ([.ref (ad 0), .int p1]) (n := 2) (Nat.le_of_ble_eq_true rfl)
  rw [lg_entry_eq]
  generalize (lg_sl ([.ref (ad 0), .int p1]) ++ List.replicate (2 - (lg_sl ([.ref (ad 0), .int p1])).length) Slot.unset).toArray = ls at hl ⊢
  have hl : lv_has ls 2 [(0, .ref (ad 0)), (1, .int p1)] := hl
  unfold wp_Mo_box at hw
  refine lv_aload_n hx hb d_Mo_box_0 rfl (lv_at hl 0 rfl) ?_
  refine lv_iload_n hx hb d_Mo_box_1 rfl (lv_at hl 1 rfl) ?_
  refine lv_i2l hx hb d_Mo_box_2 rfl ?_
  refine kd_i (kr_S (y := y_Mo_isSize) (As := [.long (p1.toInt64)]) (n := 1) C w (c_Mo_isSize l n0 G K ad X S (p1.toInt64) _ hw) (gw_S kw_1015 kw_1016 kw_11 kw_1017) (by decide +kernel) rfl rfl ⟨Nat.le_of_ble_eq_true rfl, Nat.le_of_ble_eq_true rfl⟩ rfl hl.1 rfl (Nat.le_of_ble_eq_true rfl) d_Mo_box_3 ⟨Nat.le_of_ble_eq_true rfl, Nat.le_of_ble_eq_true rfl⟩) (fun r1 hw => ?_)
  refine lv_if_ne (tgt := 13) hx hb d_Mo_box_6 (by decide) (fun hc => ?_) (fun hc => ?_)
  · have hw := hw.1 hc
    refine lv_aload_n hx hb d_Mo_box_13 rfl (lv_at hl 0 rfl) ?_
    refine kg (C1 := R_Mo) (T := F_Mo) (N := 43) (ci := 10) (ref := "LineBreakerModel") (v := .int (S.2.2 1)) C w 0 1 iw_Mo rfl rfl (by decide) kw_878 rfl rfl d_Mo_box_14 ?_
    refine lv_sipush (v := 400) hx hb d_Mo_box_17 (by decide) ?_
    refine lv_icmp_ne (tgt := 27) hx hb d_Mo_box_20 (by decide) (fun hc => ?_) (fun hc => ?_)
    · have hw := hw.1 hc
      refine lv_iconst (v := 0) hx hb d_Mo_box_27 (by decide) ?_
      exact w_Mo_box_28 C hr  p1 0 hw _ _ _ (wn_eq w rfl) (lv_sub hl [0, 1] rfl)
    · have hw := hw.2 hc
      refine lv_iconst (v := 2) hx hb d_Mo_box_23 (by decide) ?_
      refine lv_goto (tgt := 28) hx hb d_Mo_box_24 (by decide) ?_
      exact w_Mo_box_28 C hr  p1 2 hw _ _ _ (wn_eq w rfl) (lv_sub hl [0, 1] rfl)
  · have hw := hw.2 hc
    refine lv_iconst (v := 1) hx hb d_Mo_box_9 (by decide) ?_
    refine lv_goto (tgt := 28) hx hb d_Mo_box_10 (by decide) ?_
    exact w_Mo_box_28 C hr  p1 1 hw _ _ _ (wn_eq w rfl) (lv_sub hl [0, 1] rfl)
set_option maxHeartbeats 4000000 in
set_option maxRecDepth 100000 in
theorem c_Mo_isGlue (l : Launch) (n0 : Nat) (G : va_G) (K : KT) (ad : Nat → Nat) (X : va_W) (S : ST) (p1 : Int32) (p2 : Int32) (p3 : Int32) (p4 : Int32) (post : Int32 → Prop) (hw : wp_Mo_isGlue S p1 p2 p3 p4 post) : Met l y_Mo_isGlue (Cond.code y_Mo_isGlue prog_12_method_8_code 4 (some .boolean) :: gw) rm_Mo_isGlue (va_Pc [.int p1, .int p2, .int p3, .int p4] (wb n0 G K (wM K ad S ++ X))) (rq_i post) 0 0 (fun _ => False) := by
  refine kb_start (own := "LineBreakerModel") (by decide +kernel) rfl ?_
  intro p e s m below meth c C hr hne w
  have hx := C.1
  have hb := C.2.1
  have hts := C.2.2.2.2.1
  have hl := lv_entry ([.int p1, .int p2, .int p3, .int p4]) (n := 4) (Nat.le_of_ble_eq_true rfl)
  rw [lg_entry_eq]
  generalize (lg_sl ([.int p1, .int p2, .int p3, .int p4]) ++ List.replicate (4 - (lg_sl ([.int p1, .int p2, .int p3, .int p4])).length) Slot.unset).toArray = ls at hl ⊢
  have hl : lv_has ls 4 [(0, .int p1), (1, .int p2), (2, .int p3), (3, .int p4)] := hl
  unfold wp_Mo_isGlue at hw
  refine lv_iload_n hx hb d_Mo_isGlue_0 rfl (lv_at hl 0 rfl) ?_
  refine lv_i2l hx hb d_Mo_isGlue_1 rfl ?_
  refine kd_i (kr_S (y := y_Mo_isSize) (As := [.long (p1.toInt64)]) (n := 1) C w (c_Mo_isSize l n0 G K ad X S (p1.toInt64) _ hw) (gw_S kw_1015 kw_1016 kw_11 kw_1017) (by decide +kernel) rfl rfl ⟨Nat.le_of_ble_eq_true rfl, Nat.le_of_ble_eq_true rfl⟩ rfl hl.1 rfl (Nat.le_of_ble_eq_true rfl) d_Mo_isGlue_2 ⟨Nat.le_of_ble_eq_true rfl, Nat.le_of_ble_eq_true rfl⟩) (fun r1 hw => ?_)
  refine lv_if_eq (tgt := 35) hx hb d_Mo_isGlue_5 (by decide) (fun hc => ?_) (fun hc => ?_)
  · have hw := hw.1 hc
    refine lv_iconst (v := 0) hx hb d_Mo_isGlue_35 (by decide) ?_
    exact kf_z C hr d_Mo_isGlue_36 (Or.inl rfl) hw
  · have hw := hw.2 hc
    refine lv_iload_n hx hb d_Mo_isGlue_8 rfl (lv_at hl 1 rfl) ?_
    refine kd_i (kr_S (y := y_Mo_isMore) (As := [.int p2]) (n := 1) C w (c_Mo_isMore l n0 G K ad X S p2 _ hw) (gw_S kw_1031 kw_1032 kw_11 kw_1033) (by decide +kernel) rfl rfl ⟨Nat.le_of_ble_eq_true rfl, Nat.le_of_ble_eq_true rfl⟩ rfl hl.1 rfl (Nat.le_of_ble_eq_true rfl) d_Mo_isGlue_9 ⟨Nat.le_of_ble_eq_true rfl, Nat.le_of_ble_eq_true rfl⟩) (fun r2 hw => ?_)
    refine lv_if_eq (tgt := 35) hx hb d_Mo_isGlue_12 (by decide) (fun hc => ?_) (fun hc => ?_)
    · have hw := hw.1 hc
      refine lv_iconst (v := 0) hx hb d_Mo_isGlue_35 (by decide) ?_
      exact kf_z C hr d_Mo_isGlue_36 (Or.inl rfl) hw
    · have hw := hw.2 hc
      refine lv_iload_n hx hb d_Mo_isGlue_15 rfl (lv_at hl 3 rfl) ?_
      refine kd_i (kr_S (y := y_Mo_isMore) (As := [.int p4]) (n := 1) C w (c_Mo_isMore l n0 G K ad X S p4 _ hw) (gw_S kw_1031 kw_1032 kw_11 kw_1033) (by decide +kernel) rfl rfl ⟨Nat.le_of_ble_eq_true rfl, Nat.le_of_ble_eq_true rfl⟩ rfl hl.1 rfl (Nat.le_of_ble_eq_true rfl) d_Mo_isGlue_16 ⟨Nat.le_of_ble_eq_true rfl, Nat.le_of_ble_eq_true rfl⟩) (fun r3 hw => ?_)
      refine lv_if_eq (tgt := 35) hx hb d_Mo_isGlue_19 (by decide) (fun hc => ?_) (fun hc => ?_)
      · have hw := hw.1 hc
        refine lv_iconst (v := 0) hx hb d_Mo_isGlue_35 (by decide) ?_
        exact kf_z C hr d_Mo_isGlue_36 (Or.inl rfl) hw
      · have hw := hw.2 hc
        refine lv_iload_n hx hb d_Mo_isGlue_22 rfl (lv_at hl 2 rfl) ?_
        refine lv_if_lt (tgt := 35) hx hb d_Mo_isGlue_23 (by decide) (fun hc => ?_) (fun hc => ?_)
        · have hw := hw.1 hc
          refine lv_iconst (v := 0) hx hb d_Mo_isGlue_35 (by decide) ?_
          exact kf_z C hr d_Mo_isGlue_36 (Or.inl rfl) hw
        · have hw := hw.2 hc
          refine lv_iload_n hx hb d_Mo_isGlue_26 rfl (lv_at hl 2 rfl) ?_
          refine lv_iconst (v := 3) hx hb d_Mo_isGlue_27 (by decide) ?_
          refine lv_icmp_gt (tgt := 35) hx hb d_Mo_isGlue_28 (by decide) (fun hc => ?_) (fun hc => ?_)
          · have hw := hw.1 hc
            refine lv_iconst (v := 0) hx hb d_Mo_isGlue_35 (by decide) ?_
            exact kf_z C hr d_Mo_isGlue_36 (Or.inl rfl) hw
          · have hw := hw.2 hc
            refine lv_iconst (v := 1) hx hb d_Mo_isGlue_31 (by decide) ?_
            refine lv_goto (tgt := 36) hx hb d_Mo_isGlue_32 (by decide) ?_
            exact kf_z C hr d_Mo_isGlue_36 (Or.inr rfl) hw
set_option maxHeartbeats 4000000 in
set_option maxRecDepth 100000 in
theorem w_Mo_glue_46 {S : ST} {post : Int32 → (Nat → Int32) → (Nat → Int32) → (Nat → Int32) → (Nat → Int32) → (Nat → Int32) → (Nat → Int32) → (Nat → Int32) → (Nat → Int32) → Int32 → Int32 → Int32 → Prop} (C : cx p s m args meth c prog_12_method_9_code 5 "LineBreakerModel" n0 G K) (hr : meth.sig.returnType = (some .int)) : ∀ (x1 : Int32) (x2 : Int32) (x3 : Int32) (x4 : Int32) (z1 : Int32), wl_Mo_glue_46 S post x1 x2 x3 x4 z1 → ∀ (H : Heap) (locs : List Loc) (ls : Array Slot), wn n0 G (wM K ad S ++ X) s H locs → lv_has ls 5 [(0, .ref (ad 0)), (1, .int x1), (2, .int x2), (3, .int x3), (4, .int x4)] → W p l e rm_Mo_glue s m args below meth c H locs 0 0 (MQ below (va_Qi (fun r (u : (Nat → Int32) × (Nat → Int32) × (Nat → Int32) × (Nat → Int32) × (Nat → Int32) × (Nat → Int32) × (Nat → Int32) × (Nat → Int32) × Int32 × Int32 × Int32) => post r u.1 u.2.1 u.2.2.1 u.2.2.2.1 u.2.2.2.2.1 u.2.2.2.2.2.1 u.2.2.2.2.2.2.1 u.2.2.2.2.2.2.2.1 u.2.2.2.2.2.2.2.2.1 u.2.2.2.2.2.2.2.2.2.1 u.2.2.2.2.2.2.2.2.2.2) (fun (u : (Nat → Int32) × (Nat → Int32) × (Nat → Int32) × (Nat → Int32) × (Nat → Int32) × (Nat → Int32) × (Nat → Int32) × (Nat → Int32) × Int32 × Int32 × Int32) t => we n0 G (wM K ad (sI (sI (sI (sA (sA (sA (sA (sA (sA (sA (sA S 1 u.1) 2 u.2.1) 3 u.2.2.1) 4 u.2.2.2.1) 5 u.2.2.2.2.1) 6 u.2.2.2.2.2.1) 7 u.2.2.2.2.2.2.1) 8 u.2.2.2.2.2.2.2.1) 0 u.2.2.2.2.2.2.2.2.1) 1 u.2.2.2.2.2.2.2.2.2.1) 34 u.2.2.2.2.2.2.2.2.2.2) ++ X) t) (al n0)) args s 0 0 (al n0)) (F0 m 46 ls [.int z1, .ref (ad 0)]) := by
  have hx := C.1
  have hb := C.2.1
  have hts := C.2.2.2.2.1
  intro x1 x2 x3 x4 z1 hw H locs ls w hl
  unfold wl_Mo_glue_46 at hw
  refine kp (C1 := R_Mo) (T := F_Mo) (N := 43) (ci := 10) (ty0 := t_Mo) (ref := "LineBreakerModel") (w2 := wM K ad (sI S 0 z1) ++ X) C w 0 0 iw_Mo tk_Mo n_Mo rfl rfl (by decide) kw_877 rfl rfl rfl rfl (Nat.le_of_ble_eq_true rfl) rfl d_Mo_glue_46 (fun H locs w => ?_)
  refine lv_aload_n hx hb d_Mo_glue_49 rfl (lv_at hl 0 rfl) ?_
  refine kg (C1 := R_Mo) (T := F_Mo) (N := 43) (ci := 10) (ref := "LineBreakerModel") (v := .int z1) C w 0 0 iw_Mo rfl rfl (by decide) kw_877 rfl rfl d_Mo_glue_50 ?_
  refine lv_if_le (tgt := 60) hx hb d_Mo_glue_53 (by decide) (fun hc => ?_) (fun hc => ?_)
  · have hw := hw.1 hc
    refine lv_aload_n hx hb d_Mo_glue_60 rfl (lv_at hl 0 rfl) ?_
    refine lv_iconst (v := 1) hx hb d_Mo_glue_61 (by decide) ?_
    refine lv_iload_n hx hb d_Mo_glue_62 rfl (lv_at hl 1 rfl) ?_
    refine lv_iload_n hx hb d_Mo_glue_63 rfl (lv_at hl 2 rfl) ?_
    refine lv_iload_n hx hb d_Mo_glue_64 rfl (lv_at hl 3 rfl) ?_
    refine lv_iload hx hb d_Mo_glue_65 (lv_at hl 4 rfl) ?_
    refine lv_iconst (v := 0) hx hb d_Mo_glue_67 (by decide) ?_
    refine lv_iconst (v := 0) hx hb d_Mo_glue_68 (by decide) ?_
    refine kc_i (st := fun (u : (Nat → Int32) × (Nat → Int32) × (Nat → Int32) × (Nat → Int32) × (Nat → Int32) × (Nat → Int32) × (Nat → Int32) × (Nat → Int32) × Int32 × Int32) => wM K ad (sI (sI (sA (sA (sA (sA (sA (sA (sA (sA (sI S 0 z1) 1 u.1) 2 u.2.1) 3 u.2.2.1) 4 u.2.2.2.1) 5 u.2.2.2.2.1) 6 u.2.2.2.2.2.1) 7 u.2.2.2.2.2.2.1) 8 u.2.2.2.2.2.2.2.1) 1 u.2.2.2.2.2.2.2.2.1) 34 u.2.2.2.2.2.2.2.2.2) ++ X) w (kr_V (y := y_Mo_append) (C1 := R_Mo) (T := F_Mo) (N := 43) (ci := 10) (q0 := 0) (As := [.int 1, .int x1, .int x2, .int x3, .int x4, .int 0, .int 0]) (n := 7) C w (c_Mo_append l n0 G K ad X (sI S 0 z1) 1 x1 x2 x3 x4 0 0 _ hw) (gw_V kw_1020 kw_1022 kp_19 kw_11 kw_1023) (by decide +kernel) rfl rfl ⟨Nat.le_of_ble_eq_true rfl, Nat.le_of_ble_eq_true rfl⟩ rfl rfl rfl hl.1 rfl (Nat.le_of_ble_eq_true rfl) d_Mo_glue_69 ⟨Nat.le_of_ble_eq_true rfl, Nat.le_of_ble_eq_true rfl⟩) (fun r11 u H locs hw w => ?_)
    obtain ⟨f1, f2, f3, f4, f5, f6, f7, f8, v9, v10⟩ := u
    dsimp only at hw
    have w : wn n0 G (wM K ad (sI (sI (sI (sA (sA (sA (sA (sA (sA (sA (sA S 1 f1) 2 f2) 3 f3) 4 f4) 5 f5) 6 f6) 7 f7) 8 f8) 0 z1) 1 v9) 34 v10) ++ X) s H locs := w
    exact ke_i (post := (fun r (u : (Nat → Int32) × (Nat → Int32) × (Nat → Int32) × (Nat → Int32) × (Nat → Int32) × (Nat → Int32) × (Nat → Int32) × (Nat → Int32) × Int32 × Int32 × Int32) => post r u.1 u.2.1 u.2.2.1 u.2.2.2.1 u.2.2.2.2.1 u.2.2.2.2.2.1 u.2.2.2.2.2.2.1 u.2.2.2.2.2.2.2.1 u.2.2.2.2.2.2.2.2.1 u.2.2.2.2.2.2.2.2.2.1 u.2.2.2.2.2.2.2.2.2.2)) (st := (fun (u : (Nat → Int32) × (Nat → Int32) × (Nat → Int32) × (Nat → Int32) × (Nat → Int32) × (Nat → Int32) × (Nat → Int32) × (Nat → Int32) × Int32 × Int32 × Int32) => wM K ad (sI (sI (sI (sA (sA (sA (sA (sA (sA (sA (sA S 1 u.1) 2 u.2.1) 3 u.2.2.1) 4 u.2.2.2.1) 5 u.2.2.2.2.1) 6 u.2.2.2.2.2.1) 7 u.2.2.2.2.2.2.1) 8 u.2.2.2.2.2.2.2.1) 0 u.2.2.2.2.2.2.2.2.1) 1 u.2.2.2.2.2.2.2.2.2.1) 34 u.2.2.2.2.2.2.2.2.2.2) ++ X)) (u := (f1, f2, f3, f4, f5, f6, f7, f8, z1, v9, v10)) C hr d_Mo_glue_72 (wn_eq w rfl) hw
  · have hw := hw.2 hc
    refine lv_iconst (v := 0) hx hb d_Mo_glue_56 (by decide) ?_
    refine lv_goto (tgt := 72) hx hb d_Mo_glue_57 (by decide) ?_
    exact ke_i (post := (fun r (u : (Nat → Int32) × (Nat → Int32) × (Nat → Int32) × (Nat → Int32) × (Nat → Int32) × (Nat → Int32) × (Nat → Int32) × (Nat → Int32) × Int32 × Int32 × Int32) => post r u.1 u.2.1 u.2.2.1 u.2.2.2.1 u.2.2.2.2.1 u.2.2.2.2.2.1 u.2.2.2.2.2.2.1 u.2.2.2.2.2.2.2.1 u.2.2.2.2.2.2.2.2.1 u.2.2.2.2.2.2.2.2.2.1 u.2.2.2.2.2.2.2.2.2.2)) (st := (fun (u : (Nat → Int32) × (Nat → Int32) × (Nat → Int32) × (Nat → Int32) × (Nat → Int32) × (Nat → Int32) × (Nat → Int32) × (Nat → Int32) × Int32 × Int32 × Int32) => wM K ad (sI (sI (sI (sA (sA (sA (sA (sA (sA (sA (sA S 1 u.1) 2 u.2.1) 3 u.2.2.1) 4 u.2.2.2.1) 5 u.2.2.2.2.1) 6 u.2.2.2.2.2.1) 7 u.2.2.2.2.2.2.1) 8 u.2.2.2.2.2.2.2.1) 0 u.2.2.2.2.2.2.2.2.1) 1 u.2.2.2.2.2.2.2.2.2.1) 34 u.2.2.2.2.2.2.2.2.2.2) ++ X)) (u := ((S.1 1), (S.1 2), (S.1 3), (S.1 4), (S.1 5), (S.1 6), (S.1 7), (S.1 8), z1, (S.2.2 1), (S.2.2 34))) C hr d_Mo_glue_72 (wn_eq w rfl) hw
set_option maxHeartbeats 4000000 in
set_option maxRecDepth 100000 in
theorem c_Mo_glue (l : Launch) (n0 : Nat) (G : va_G) (K : KT) (ad : Nat → Nat) (X : va_W) (S : ST) (p1 : Int32) (p2 : Int32) (p3 : Int32) (p4 : Int32) (post : Int32 → (Nat → Int32) → (Nat → Int32) → (Nat → Int32) → (Nat → Int32) → (Nat → Int32) → (Nat → Int32) → (Nat → Int32) → (Nat → Int32) → Int32 → Int32 → Int32 → Prop) (hw : wp_Mo_glue S p1 p2 p3 p4 post) : Met l y_Mo_glue (Cond.code y_Mo_glue prog_12_method_9_code 5 (some .int) :: gw) rm_Mo_glue (va_Pc [.ref (ad 0), .int p1, .int p2, .int p3, .int p4] (wb n0 G K (wM K ad S ++ X))) (va_Qi (fun r (u : (Nat → Int32) × (Nat → Int32) × (Nat → Int32) × (Nat → Int32) × (Nat → Int32) × (Nat → Int32) × (Nat → Int32) × (Nat → Int32) × Int32 × Int32 × Int32) => post r u.1 u.2.1 u.2.2.1 u.2.2.2.1 u.2.2.2.2.1 u.2.2.2.2.2.1 u.2.2.2.2.2.2.1 u.2.2.2.2.2.2.2.1 u.2.2.2.2.2.2.2.2.1 u.2.2.2.2.2.2.2.2.2.1 u.2.2.2.2.2.2.2.2.2.2) (fun (u : (Nat → Int32) × (Nat → Int32) × (Nat → Int32) × (Nat → Int32) × (Nat → Int32) × (Nat → Int32) × (Nat → Int32) × (Nat → Int32) × Int32 × Int32 × Int32) t => we n0 G (wM K ad (sI (sI (sI (sA (sA (sA (sA (sA (sA (sA (sA S 1 u.1) 2 u.2.1) 3 u.2.2.1) 4 u.2.2.2.1) 5 u.2.2.2.2.1) 6 u.2.2.2.2.2.1) 7 u.2.2.2.2.2.2.1) 8 u.2.2.2.2.2.2.2.1) 0 u.2.2.2.2.2.2.2.2.1) 1 u.2.2.2.2.2.2.2.2.2.1) 34 u.2.2.2.2.2.2.2.2.2.2) ++ X) t) (al n0)) 0 0 (al n0) := by
  refine kb_start (own := "LineBreakerModel") (by decide +kernel) rfl ?_
  intro p e s m below meth c C hr hne w
  have hx := C.1
  have hb := C.2.1
  have hts := C.2.2.2.2.1
  have hl := lv_entry ([.ref (ad 0), .int p1, .int p2, .int p3, .int p4]) (n := 5) (Nat.le_of_ble_eq_true rfl)
  rw [lg_entry_eq]
  generalize (lg_sl ([.ref (ad 0), .int p1, .int p2, .int p3, .int p4]) ++ List.replicate (5 - (lg_sl ([.ref (ad 0), .int p1, .int p2, .int p3, .int p4])).length) Slot.unset).toArray = ls at hl ⊢
  have hl : lv_has ls 5 [(0, .ref (ad 0)), (1, .int p1), (2, .int p2), (3, .int p3), (4, .int p4)] := hl
  unfold wp_Mo_glue at hw
  refine lv_aload_n hx hb d_Mo_glue_0 rfl (lv_at hl 0 rfl) ?_
  refine lv_iload_n hx hb d_Mo_glue_1 rfl (lv_at hl 1 rfl) ?_
  refine lv_iload_n hx hb d_Mo_glue_2 rfl (lv_at hl 2 rfl) ?_
  refine lv_iload_n hx hb d_Mo_glue_3 rfl (lv_at hl 3 rfl) ?_
  refine lv_iload hx hb d_Mo_glue_4 (lv_at hl 4 rfl) ?_
  refine kd_i (kr_S (y := y_Mo_isGlue) (As := [.int p1, .int p2, .int p3, .int p4]) (n := 4) C w (c_Mo_isGlue l n0 G K ad X S p1 p2 p3 p4 _ hw) (gw_S kw_1028 kw_1029 kw_11 kw_1030) (by decide +kernel) rfl rfl ⟨Nat.le_of_ble_eq_true rfl, Nat.le_of_ble_eq_true rfl⟩ rfl hl.1 rfl (Nat.le_of_ble_eq_true rfl) d_Mo_glue_6 ⟨Nat.le_of_ble_eq_true rfl, Nat.le_of_ble_eq_true rfl⟩) (fun r1 hw => ?_)
  refine lv_if_ne (tgt := 16) hx hb d_Mo_glue_9 (by decide) (fun hc => ?_) (fun hc => ?_)
  · have hw := hw.1 hc
    refine lv_aload_n hx hb d_Mo_glue_16 rfl (lv_at hl 0 rfl) ?_
    refine lv_aload_n hx hb d_Mo_glue_17 rfl (lv_at hl 0 rfl) ?_
    refine kg (C1 := R_Mo) (T := F_Mo) (N := 43) (ci := 10) (ref := "LineBreakerModel") (v := .int (S.2.2 1)) C w 0 1 iw_Mo rfl rfl (by decide) kw_878 rfl rfl d_Mo_glue_18 ?_
    refine kd_i (kr_V (y := y_Mo_replacer) (C1 := R_Mo) (T := F_Mo) (N := 43) (ci := 10) (q0 := 0) (As := [.int (S.2.2 1)]) (n := 1) C w (c_Mo_replacer l n0 G K ad X S (S.2.2 1) _ hw) (gw_V kw_1035 kw_1037 kp_20 kw_11 kw_1038) (by decide +kernel) rfl rfl ⟨Nat.le_of_ble_eq_true rfl, Nat.le_of_ble_eq_true rfl⟩ rfl rfl rfl hl.1 rfl (Nat.le_of_ble_eq_true rfl) d_Mo_glue_21 ⟨Nat.le_of_ble_eq_true rfl, Nat.le_of_ble_eq_true rfl⟩) (fun r2 hw => ?_)
    refine lv_if_lt (tgt := 31) hx hb d_Mo_glue_24 (by decide) (fun hc => ?_) (fun hc => ?_)
    · have hw := hw.1 hc
      refine lv_aload_n hx hb d_Mo_glue_31 rfl (lv_at hl 0 rfl) ?_
      refine kg (C1 := R_Mo) (T := F_Mo) (N := 43) (ci := 10) (ref := "LineBreakerModel") (v := .int (S.2.2 1)) C w 0 1 iw_Mo rfl rfl (by decide) kw_878 rfl rfl d_Mo_glue_32 ?_
      refine lv_sipush (v := 400) hx hb d_Mo_glue_35 (by decide) ?_
      refine lv_icmp_ne (tgt := 45) hx hb d_Mo_glue_38 (by decide) (fun hc => ?_) (fun hc => ?_)
      · have hw := hw.1 hc
        refine lv_iconst (v := 0) hx hb d_Mo_glue_45 (by decide) ?_
        exact w_Mo_glue_46 C hr  p1 p2 p3 p4 0 hw _ _ _ (wn_eq w rfl) (lv_sub hl [0, 1, 2, 3, 4] rfl)
      · have hw := hw.2 hc
        refine lv_iconst (v := 3) hx hb d_Mo_glue_41 (by decide) ?_
        refine lv_goto (tgt := 46) hx hb d_Mo_glue_42 (by decide) ?_
        exact w_Mo_glue_46 C hr  p1 p2 p3 p4 3 hw _ _ _ (wn_eq w rfl) (lv_sub hl [0, 1, 2, 3, 4] rfl)
    · have hw := hw.2 hc
      refine lv_iconst (v := 2) hx hb d_Mo_glue_27 (by decide) ?_
      refine lv_goto (tgt := 46) hx hb d_Mo_glue_28 (by decide) ?_
      exact w_Mo_glue_46 C hr  p1 p2 p3 p4 2 hw _ _ _ (wn_eq w rfl) (lv_sub hl [0, 1, 2, 3, 4] rfl)
  · have hw := hw.2 hc
    refine lv_iconst (v := 1) hx hb d_Mo_glue_12 (by decide) ?_
    refine lv_goto (tgt := 46) hx hb d_Mo_glue_13 (by decide) ?_
    exact w_Mo_glue_46 C hr  p1 p2 p3 p4 1 hw _ _ _ (wn_eq w rfl) (lv_sub hl [0, 1, 2, 3, 4] rfl)
set_option maxHeartbeats 4000000 in
set_option maxRecDepth 100000 in
theorem w_Mo_kern_52 {S : ST} {post : Int32 → (Nat → Int32) → (Nat → Int32) → (Nat → Int32) → (Nat → Int32) → (Nat → Int32) → (Nat → Int32) → (Nat → Int32) → (Nat → Int32) → Int32 → Int32 → Int32 → Prop} (C : cx p s m args meth c prog_12_method_10_code 3 "LineBreakerModel" n0 G K) (hr : meth.sig.returnType = (some .int)) : ∀ (i0 : Int32) (x1 : Int32) (z1 : Int32), wl_Mo_kern_52 S post i0 x1 z1 → ∀ (H : Heap) (locs : List Loc) (ls : Array Slot), wn n0 G (wM K ad (sI S 0 i0) ++ X) s H locs → lv_has ls 3 [(1, .int x1)] → W p l e rm_Mo_kern s m args below meth c H locs 0 0 (MQ below (va_Qi (fun r (u : (Nat → Int32) × (Nat → Int32) × (Nat → Int32) × (Nat → Int32) × (Nat → Int32) × (Nat → Int32) × (Nat → Int32) × (Nat → Int32) × Int32 × Int32 × Int32) => post r u.1 u.2.1 u.2.2.1 u.2.2.2.1 u.2.2.2.2.1 u.2.2.2.2.2.1 u.2.2.2.2.2.2.1 u.2.2.2.2.2.2.2.1 u.2.2.2.2.2.2.2.2.1 u.2.2.2.2.2.2.2.2.2.1 u.2.2.2.2.2.2.2.2.2.2) (fun (u : (Nat → Int32) × (Nat → Int32) × (Nat → Int32) × (Nat → Int32) × (Nat → Int32) × (Nat → Int32) × (Nat → Int32) × (Nat → Int32) × Int32 × Int32 × Int32) t => we n0 G (wM K ad (sI (sI (sI (sA (sA (sA (sA (sA (sA (sA (sA S 1 u.1) 2 u.2.1) 3 u.2.2.1) 4 u.2.2.2.1) 5 u.2.2.2.2.1) 6 u.2.2.2.2.2.1) 7 u.2.2.2.2.2.2.1) 8 u.2.2.2.2.2.2.2.1) 0 u.2.2.2.2.2.2.2.2.1) 1 u.2.2.2.2.2.2.2.2.2.1) 34 u.2.2.2.2.2.2.2.2.2.2) ++ X) t) (al n0)) args s 0 0 (al n0)) (F0 m 52 ls [.int z1, .ref (ad 0)]) := by
  have hx := C.1
  have hb := C.2.1
  have hts := C.2.2.2.2.1
  intro i0 x1 z1 hw H locs ls w hl
  unfold wl_Mo_kern_52 at hw
  refine lv_iload_n hx hb d_Mo_kern_52 rfl (lv_at hl 0 rfl) ?_
  refine lv_iconst (v := 0) hx hb d_Mo_kern_53 (by decide) ?_
  refine lv_iconst (v := 0) hx hb d_Mo_kern_54 (by decide) ?_
  refine lv_iconst (v := 0) hx hb d_Mo_kern_55 (by decide) ?_
  refine lv_iconst (v := 0) hx hb d_Mo_kern_56 (by decide) ?_
  refine lv_iconst (v := 0) hx hb d_Mo_kern_57 (by decide) ?_
  refine kc_i (st := fun (u : (Nat → Int32) × (Nat → Int32) × (Nat → Int32) × (Nat → Int32) × (Nat → Int32) × (Nat → Int32) × (Nat → Int32) × (Nat → Int32) × Int32 × Int32) => wM K ad (sI (sI (sA (sA (sA (sA (sA (sA (sA (sA (sI S 0 i0) 1 u.1) 2 u.2.1) 3 u.2.2.1) 4 u.2.2.2.1) 5 u.2.2.2.2.1) 6 u.2.2.2.2.2.1) 7 u.2.2.2.2.2.2.1) 8 u.2.2.2.2.2.2.2.1) 1 u.2.2.2.2.2.2.2.2.1) 34 u.2.2.2.2.2.2.2.2.2) ++ X) w (kr_V (y := y_Mo_append) (C1 := R_Mo) (T := F_Mo) (N := 43) (ci := 10) (q0 := 0) (As := [.int z1, .int x1, .int 0, .int 0, .int 0, .int 0, .int 0]) (n := 7) C w (c_Mo_append l n0 G K ad X (sI S 0 i0) z1 x1 0 0 0 0 0 _ hw) (gw_V kw_1020 kw_1022 kp_19 kw_11 kw_1023) (by decide +kernel) rfl rfl ⟨Nat.le_of_ble_eq_true rfl, Nat.le_of_ble_eq_true rfl⟩ rfl rfl rfl hl.1 rfl (Nat.le_of_ble_eq_true rfl) d_Mo_kern_58 ⟨Nat.le_of_ble_eq_true rfl, Nat.le_of_ble_eq_true rfl⟩) (fun r11 u H locs hw w => ?_)
  obtain ⟨f1, f2, f3, f4, f5, f6, f7, f8, v9, v10⟩ := u
  dsimp only at hw
  have w : wn n0 G (wM K ad (sI (sI (sI (sA (sA (sA (sA (sA (sA (sA (sA S 1 f1) 2 f2) 3 f3) 4 f4) 5 f5) 6 f6) 7 f7) 8 f8) 0 i0) 1 v9) 34 v10) ++ X) s H locs := w
  exact ke_i (post := (fun r (u : (Nat → Int32) × (Nat → Int32) × (Nat → Int32) × (Nat → Int32) × (Nat → Int32) × (Nat → Int32) × (Nat → Int32) × (Nat → Int32) × Int32 × Int32 × Int32) => post r u.1 u.2.1 u.2.2.1 u.2.2.2.1 u.2.2.2.2.1 u.2.2.2.2.2.1 u.2.2.2.2.2.2.1 u.2.2.2.2.2.2.2.1 u.2.2.2.2.2.2.2.2.1 u.2.2.2.2.2.2.2.2.2.1 u.2.2.2.2.2.2.2.2.2.2)) (st := (fun (u : (Nat → Int32) × (Nat → Int32) × (Nat → Int32) × (Nat → Int32) × (Nat → Int32) × (Nat → Int32) × (Nat → Int32) × (Nat → Int32) × Int32 × Int32 × Int32) => wM K ad (sI (sI (sI (sA (sA (sA (sA (sA (sA (sA (sA S 1 u.1) 2 u.2.1) 3 u.2.2.1) 4 u.2.2.2.1) 5 u.2.2.2.2.1) 6 u.2.2.2.2.2.1) 7 u.2.2.2.2.2.2.1) 8 u.2.2.2.2.2.2.2.1) 0 u.2.2.2.2.2.2.2.2.1) 1 u.2.2.2.2.2.2.2.2.2.1) 34 u.2.2.2.2.2.2.2.2.2.2) ++ X)) (u := (f1, f2, f3, f4, f5, f6, f7, f8, i0, v9, v10)) C hr d_Mo_kern_61 (wn_eq w rfl) hw
set_option maxHeartbeats 4000000 in
set_option maxRecDepth 100000 in
theorem w_Mo_kern_28 {S : ST} {post : Int32 → (Nat → Int32) → (Nat → Int32) → (Nat → Int32) → (Nat → Int32) → (Nat → Int32) → (Nat → Int32) → (Nat → Int32) → (Nat → Int32) → Int32 → Int32 → Int32 → Prop} (C : cx p s m args meth c prog_12_method_10_code 3 "LineBreakerModel" n0 G K) (hr : meth.sig.returnType = (some .int)) : ∀ (x1 : Int32) (x2 : Int32) (z1 : Int32), wl_Mo_kern_28 S post x1 x2 z1 → ∀ (H : Heap) (locs : List Loc) (ls : Array Slot), wn n0 G (wM K ad S ++ X) s H locs → lv_has ls 3 [(0, .ref (ad 0)), (1, .int x1), (2, .int x2)] → W p l e rm_Mo_kern s m args below meth c H locs 0 0 (MQ below (va_Qi (fun r (u : (Nat → Int32) × (Nat → Int32) × (Nat → Int32) × (Nat → Int32) × (Nat → Int32) × (Nat → Int32) × (Nat → Int32) × (Nat → Int32) × Int32 × Int32 × Int32) => post r u.1 u.2.1 u.2.2.1 u.2.2.2.1 u.2.2.2.2.1 u.2.2.2.2.2.1 u.2.2.2.2.2.2.1 u.2.2.2.2.2.2.2.1 u.2.2.2.2.2.2.2.2.1 u.2.2.2.2.2.2.2.2.2.1 u.2.2.2.2.2.2.2.2.2.2) (fun (u : (Nat → Int32) × (Nat → Int32) × (Nat → Int32) × (Nat → Int32) × (Nat → Int32) × (Nat → Int32) × (Nat → Int32) × (Nat → Int32) × Int32 × Int32 × Int32) t => we n0 G (wM K ad (sI (sI (sI (sA (sA (sA (sA (sA (sA (sA (sA S 1 u.1) 2 u.2.1) 3 u.2.2.1) 4 u.2.2.2.1) 5 u.2.2.2.2.1) 6 u.2.2.2.2.2.1) 7 u.2.2.2.2.2.2.1) 8 u.2.2.2.2.2.2.2.1) 0 u.2.2.2.2.2.2.2.2.1) 1 u.2.2.2.2.2.2.2.2.2.1) 34 u.2.2.2.2.2.2.2.2.2.2) ++ X) t) (al n0)) args s 0 0 (al n0)) (F0 m 28 ls [.int z1, .ref (ad 0)]) := by
  have hx := C.1
  have hb := C.2.1
  have hts := C.2.2.2.2.1
  intro x1 x2 z1 hw H locs ls w hl
  unfold wl_Mo_kern_28 at hw
  refine kp (C1 := R_Mo) (T := F_Mo) (N := 43) (ci := 10) (ty0 := t_Mo) (ref := "LineBreakerModel") (w2 := wM K ad (sI S 0 z1) ++ X) C w 0 0 iw_Mo tk_Mo n_Mo rfl rfl (by decide) kw_877 rfl rfl rfl rfl (Nat.le_of_ble_eq_true rfl) rfl d_Mo_kern_28 (fun H locs w => ?_)
  refine lv_aload_n hx hb d_Mo_kern_31 rfl (lv_at hl 0 rfl) ?_
  refine kg (C1 := R_Mo) (T := F_Mo) (N := 43) (ci := 10) (ref := "LineBreakerModel") (v := .int z1) C w 0 0 iw_Mo rfl rfl (by decide) kw_877 rfl rfl d_Mo_kern_32 ?_
  refine lv_if_le (tgt := 42) hx hb d_Mo_kern_35 (by decide) (fun hc => ?_) (fun hc => ?_)
  · have hw := hw.1 hc
    refine lv_aload_n hx hb d_Mo_kern_42 rfl (lv_at hl 0 rfl) ?_
    refine lv_iload_n hx hb d_Mo_kern_43 rfl (lv_at hl 2 rfl) ?_
    refine lv_if_eq (tgt := 51) hx hb d_Mo_kern_44 (by decide) (fun hc => ?_) (fun hc => ?_)
    · have hw := hw.1 hc
      refine lv_iconst (v := 2) hx hb d_Mo_kern_51 (by decide) ?_
      exact w_Mo_kern_52 C hr  z1 x1 2 hw _ _ _ (wn_eq w rfl) (lv_sub hl [1] rfl)
    · have hw := hw.2 hc
      refine lv_iconst (v := 3) hx hb d_Mo_kern_47 (by decide) ?_
      refine lv_goto (tgt := 52) hx hb d_Mo_kern_48 (by decide) ?_
      exact w_Mo_kern_52 C hr  z1 x1 3 hw _ _ _ (wn_eq w rfl) (lv_sub hl [1] rfl)
  · have hw := hw.2 hc
    refine lv_iconst (v := 0) hx hb d_Mo_kern_38 (by decide) ?_
    refine lv_goto (tgt := 61) hx hb d_Mo_kern_39 (by decide) ?_
    exact ke_i (post := (fun r (u : (Nat → Int32) × (Nat → Int32) × (Nat → Int32) × (Nat → Int32) × (Nat → Int32) × (Nat → Int32) × (Nat → Int32) × (Nat → Int32) × Int32 × Int32 × Int32) => post r u.1 u.2.1 u.2.2.1 u.2.2.2.1 u.2.2.2.2.1 u.2.2.2.2.2.1 u.2.2.2.2.2.2.1 u.2.2.2.2.2.2.2.1 u.2.2.2.2.2.2.2.2.1 u.2.2.2.2.2.2.2.2.2.1 u.2.2.2.2.2.2.2.2.2.2)) (st := (fun (u : (Nat → Int32) × (Nat → Int32) × (Nat → Int32) × (Nat → Int32) × (Nat → Int32) × (Nat → Int32) × (Nat → Int32) × (Nat → Int32) × Int32 × Int32 × Int32) => wM K ad (sI (sI (sI (sA (sA (sA (sA (sA (sA (sA (sA S 1 u.1) 2 u.2.1) 3 u.2.2.1) 4 u.2.2.2.1) 5 u.2.2.2.2.1) 6 u.2.2.2.2.2.1) 7 u.2.2.2.2.2.2.1) 8 u.2.2.2.2.2.2.2.1) 0 u.2.2.2.2.2.2.2.2.1) 1 u.2.2.2.2.2.2.2.2.2.1) 34 u.2.2.2.2.2.2.2.2.2.2) ++ X)) (u := ((S.1 1), (S.1 2), (S.1 3), (S.1 4), (S.1 5), (S.1 6), (S.1 7), (S.1 8), z1, (S.2.2 1), (S.2.2 34))) C hr d_Mo_kern_61 (wn_eq w rfl) hw
set_option maxHeartbeats 4000000 in
set_option maxRecDepth 100000 in
theorem c_Mo_kern (l : Launch) (n0 : Nat) (G : va_G) (K : KT) (ad : Nat → Nat) (X : va_W) (S : ST) (p1 : Int32) (p2 : Int32) (post : Int32 → (Nat → Int32) → (Nat → Int32) → (Nat → Int32) → (Nat → Int32) → (Nat → Int32) → (Nat → Int32) → (Nat → Int32) → (Nat → Int32) → Int32 → Int32 → Int32 → Prop) (hw : wp_Mo_kern S p1 p2 post) : Met l y_Mo_kern (Cond.code y_Mo_kern prog_12_method_10_code 3 (some .int) :: gw) rm_Mo_kern (va_Pc [.ref (ad 0), .int p1, .int p2] (wb n0 G K (wM K ad S ++ X))) (va_Qi (fun r (u : (Nat → Int32) × (Nat → Int32) × (Nat → Int32) × (Nat → Int32) × (Nat → Int32) × (Nat → Int32) × (Nat → Int32) × (Nat → Int32) × Int32 × Int32 × Int32) => post r u.1 u.2.1 u.2.2.1 u.2.2.2.1 u.2.2.2.2.1 u.2.2.2.2.2.1 u.2.2.2.2.2.2.1 u.2.2.2.2.2.2.2.1 u.2.2.2.2.2.2.2.2.1 u.2.2.2.2.2.2.2.2.2.1 u.2.2.2.2.2.2.2.2.2.2) (fun (u : (Nat → Int32) × (Nat → Int32) × (Nat → Int32) × (Nat → Int32) × (Nat → Int32) × (Nat → Int32) × (Nat → Int32) × (Nat → Int32) × Int32 × Int32 × Int32) t => we n0 G (wM K ad (sI (sI (sI (sA (sA (sA (sA (sA (sA (sA (sA S 1 u.1) 2 u.2.1) 3 u.2.2.1) 4 u.2.2.2.1) 5 u.2.2.2.2.1) 6 u.2.2.2.2.2.1) 7 u.2.2.2.2.2.2.1) 8 u.2.2.2.2.2.2.2.1) 0 u.2.2.2.2.2.2.2.2.1) 1 u.2.2.2.2.2.2.2.2.2.1) 34 u.2.2.2.2.2.2.2.2.2.2) ++ X) t) (al n0)) 0 0 (al n0) := by
  refine kb_start (own := "LineBreakerModel") (by decide +kernel) rfl ?_
  intro p e s m below meth c C hr hne w
  have hx := C.1
  have hb := C.2.1
  have hts := C.2.2.2.2.1
  have hl := lv_entry ([.ref (ad 0), .int p1, .int p2]) (n := 3) (Nat.le_of_ble_eq_true rfl)
  rw [lg_entry_eq]
  generalize (lg_sl ([.ref (ad 0), .int p1, .int p2]) ++ List.replicate (3 - (lg_sl ([.ref (ad 0), .int p1, .int p2])).length) Slot.unset).toArray = ls at hl ⊢
  have hl : lv_has ls 3 [(0, .ref (ad 0)), (1, .int p1), (2, .int p2)] := hl
  unfold wp_Mo_kern at hw
  refine lv_aload_n hx hb d_Mo_kern_0 rfl (lv_at hl 0 rfl) ?_
  refine lv_iload_n hx hb d_Mo_kern_1 rfl (lv_at hl 1 rfl) ?_
  refine lv_i2l hx hb d_Mo_kern_2 rfl ?_
  refine kd_i (kr_S (y := y_Mo_isSize) (As := [.long (p1.toInt64)]) (n := 1) C w (c_Mo_isSize l n0 G K ad X S (p1.toInt64) _ hw) (gw_S kw_1015 kw_1016 kw_11 kw_1017) (by decide +kernel) rfl rfl ⟨Nat.le_of_ble_eq_true rfl, Nat.le_of_ble_eq_true rfl⟩ rfl hl.1 rfl (Nat.le_of_ble_eq_true rfl) d_Mo_kern_3 ⟨Nat.le_of_ble_eq_true rfl, Nat.le_of_ble_eq_true rfl⟩) (fun r1 hw => ?_)
  refine lv_if_ne (tgt := 13) hx hb d_Mo_kern_6 (by decide) (fun hc => ?_) (fun hc => ?_)
  · have hw := hw.1 hc
    refine lv_aload_n hx hb d_Mo_kern_13 rfl (lv_at hl 0 rfl) ?_
    refine kg (C1 := R_Mo) (T := F_Mo) (N := 43) (ci := 10) (ref := "LineBreakerModel") (v := .int (S.2.2 1)) C w 0 1 iw_Mo rfl rfl (by decide) kw_878 rfl rfl d_Mo_kern_14 ?_
    refine lv_sipush (v := 400) hx hb d_Mo_kern_17 (by decide) ?_
    refine lv_icmp_ne (tgt := 27) hx hb d_Mo_kern_20 (by decide) (fun hc => ?_) (fun hc => ?_)
    · have hw := hw.1 hc
      refine lv_iconst (v := 0) hx hb d_Mo_kern_27 (by decide) ?_
      exact w_Mo_kern_28 C hr  p1 p2 0 hw _ _ _ (wn_eq w rfl) (lv_sub hl [0, 1, 2] rfl)
    · have hw := hw.2 hc
      refine lv_iconst (v := 2) hx hb d_Mo_kern_23 (by decide) ?_
      refine lv_goto (tgt := 28) hx hb d_Mo_kern_24 (by decide) ?_
      exact w_Mo_kern_28 C hr  p1 p2 2 hw _ _ _ (wn_eq w rfl) (lv_sub hl [0, 1, 2] rfl)
  · have hw := hw.2 hc
    refine lv_iconst (v := 1) hx hb d_Mo_kern_9 (by decide) ?_
    refine lv_goto (tgt := 28) hx hb d_Mo_kern_10 (by decide) ?_
    exact w_Mo_kern_28 C hr  p1 p2 1 hw _ _ _ (wn_eq w rfl) (lv_sub hl [0, 1, 2] rfl)
set_option maxHeartbeats 4000000 in
set_option maxRecDepth 100000 in
theorem w_Mo_penalty_74 {S : ST} {post : Int32 → (Nat → Int32) → (Nat → Int32) → (Nat → Int32) → (Nat → Int32) → (Nat → Int32) → (Nat → Int32) → (Nat → Int32) → (Nat → Int32) → Int32 → Int32 → Int32 → Prop} (C : cx p s m args meth c prog_12_method_11_code 2 "LineBreakerModel" n0 G K) (hr : meth.sig.returnType = (some .int)) : ∀ (i0 : Int32) (z1 : Int32) (z2 : Int32), wl_Mo_penalty_74 S post i0 z1 z2 → ∀ (H : Heap) (locs : List Loc) (ls : Array Slot), wn n0 G (wM K ad (sI S 0 i0) ++ X) s H locs → lv_has ls 2 [] → W p l e rm_Mo_penalty s m args below meth c H locs 0 0 (MQ below (va_Qi (fun r (u : (Nat → Int32) × (Nat → Int32) × (Nat → Int32) × (Nat → Int32) × (Nat → Int32) × (Nat → Int32) × (Nat → Int32) × (Nat → Int32) × Int32 × Int32 × Int32) => post r u.1 u.2.1 u.2.2.1 u.2.2.2.1 u.2.2.2.2.1 u.2.2.2.2.2.1 u.2.2.2.2.2.2.1 u.2.2.2.2.2.2.2.1 u.2.2.2.2.2.2.2.2.1 u.2.2.2.2.2.2.2.2.2.1 u.2.2.2.2.2.2.2.2.2.2) (fun (u : (Nat → Int32) × (Nat → Int32) × (Nat → Int32) × (Nat → Int32) × (Nat → Int32) × (Nat → Int32) × (Nat → Int32) × (Nat → Int32) × Int32 × Int32 × Int32) t => we n0 G (wM K ad (sI (sI (sI (sA (sA (sA (sA (sA (sA (sA (sA S 1 u.1) 2 u.2.1) 3 u.2.2.1) 4 u.2.2.2.1) 5 u.2.2.2.2.1) 6 u.2.2.2.2.2.1) 7 u.2.2.2.2.2.2.1) 8 u.2.2.2.2.2.2.2.1) 0 u.2.2.2.2.2.2.2.2.1) 1 u.2.2.2.2.2.2.2.2.2.1) 34 u.2.2.2.2.2.2.2.2.2.2) ++ X) t) (al n0)) args s 0 0 (al n0)) (F0 m 74 ls [.int z2, .int z1, .ref (ad 0)]) := by
  have hx := C.1
  have hb := C.2.1
  have hts := C.2.2.2.2.1
  intro i0 z1 z2 hw H locs ls w hl
  unfold wl_Mo_penalty_74 at hw
  refine lv_iconst (v := 0) hx hb d_Mo_penalty_74 (by decide) ?_
  refine lv_iconst (v := 0) hx hb d_Mo_penalty_75 (by decide) ?_
  refine lv_iconst (v := 0) hx hb d_Mo_penalty_76 (by decide) ?_
  refine lv_iconst (v := 0) hx hb d_Mo_penalty_77 (by decide) ?_
  refine lv_iconst (v := 0) hx hb d_Mo_penalty_78 (by decide) ?_
  refine kc_i (st := fun (u : (Nat → Int32) × (Nat → Int32) × (Nat → Int32) × (Nat → Int32) × (Nat → Int32) × (Nat → Int32) × (Nat → Int32) × (Nat → Int32) × Int32 × Int32) => wM K ad (sI (sI (sA (sA (sA (sA (sA (sA (sA (sA (sI S 0 i0) 1 u.1) 2 u.2.1) 3 u.2.2.1) 4 u.2.2.2.1) 5 u.2.2.2.2.1) 6 u.2.2.2.2.2.1) 7 u.2.2.2.2.2.2.1) 8 u.2.2.2.2.2.2.2.1) 1 u.2.2.2.2.2.2.2.2.1) 34 u.2.2.2.2.2.2.2.2.2) ++ X) w (kr_V (y := y_Mo_append) (C1 := R_Mo) (T := F_Mo) (N := 43) (ci := 10) (q0 := 0) (As := [.int z1, .int z2, .int 0, .int 0, .int 0, .int 0, .int 0]) (n := 7) C w (c_Mo_append l n0 G K ad X (sI S 0 i0) z1 z2 0 0 0 0 0 _ hw) (gw_V kw_1020 kw_1022 kp_19 kw_11 kw_1023) (by decide +kernel) rfl rfl ⟨Nat.le_of_ble_eq_true rfl, Nat.le_of_ble_eq_true rfl⟩ rfl rfl rfl hl.1 rfl (Nat.le_of_ble_eq_true rfl) d_Mo_penalty_79 ⟨Nat.le_of_ble_eq_true rfl, Nat.le_of_ble_eq_true rfl⟩) (fun r11 u H locs hw w => ?_)
  obtain ⟨f1, f2, f3, f4, f5, f6, f7, f8, v9, v10⟩ := u
  dsimp only at hw
  have w : wn n0 G (wM K ad (sI (sI (sI (sA (sA (sA (sA (sA (sA (sA (sA S 1 f1) 2 f2) 3 f3) 4 f4) 5 f5) 6 f6) 7 f7) 8 f8) 0 i0) 1 v9) 34 v10) ++ X) s H locs := w
  exact ke_i (post := (fun r (u : (Nat → Int32) × (Nat → Int32) × (Nat → Int32) × (Nat → Int32) × (Nat → Int32) × (Nat → Int32) × (Nat → Int32) × (Nat → Int32) × Int32 × Int32 × Int32) => post r u.1 u.2.1 u.2.2.1 u.2.2.2.1 u.2.2.2.2.1 u.2.2.2.2.2.1 u.2.2.2.2.2.2.1 u.2.2.2.2.2.2.2.1 u.2.2.2.2.2.2.2.2.1 u.2.2.2.2.2.2.2.2.2.1 u.2.2.2.2.2.2.2.2.2.2)) (st := (fun (u : (Nat → Int32) × (Nat → Int32) × (Nat → Int32) × (Nat → Int32) × (Nat → Int32) × (Nat → Int32) × (Nat → Int32) × (Nat → Int32) × Int32 × Int32 × Int32) => wM K ad (sI (sI (sI (sA (sA (sA (sA (sA (sA (sA (sA S 1 u.1) 2 u.2.1) 3 u.2.2.1) 4 u.2.2.2.1) 5 u.2.2.2.2.1) 6 u.2.2.2.2.2.1) 7 u.2.2.2.2.2.2.1) 8 u.2.2.2.2.2.2.2.1) 0 u.2.2.2.2.2.2.2.2.1) 1 u.2.2.2.2.2.2.2.2.2.1) 34 u.2.2.2.2.2.2.2.2.2.2) ++ X)) (u := (f1, f2, f3, f4, f5, f6, f7, f8, i0, v9, v10)) C hr d_Mo_penalty_82 (wn_eq w rfl) hw
set_option maxHeartbeats 4000000 in
set_option maxRecDepth 100000 in
theorem w_Mo_penalty_31 {S : ST} {post : Int32 → (Nat → Int32) → (Nat → Int32) → (Nat → Int32) → (Nat → Int32) → (Nat → Int32) → (Nat → Int32) → (Nat → Int32) → (Nat → Int32) → Int32 → Int32 → Int32 → Prop} (C : cx p s m args meth c prog_12_method_11_code 2 "LineBreakerModel" n0 G K) (hr : meth.sig.returnType = (some .int)) : ∀ (x1 : Int32) (z1 : Int32), wl_Mo_penalty_31 S post x1 z1 → ∀ (H : Heap) (locs : List Loc) (ls : Array Slot), wn n0 G (wM K ad S ++ X) s H locs → lv_has ls 2 [(0, .ref (ad 0)), (1, .int x1)] → W p l e rm_Mo_penalty s m args below meth c H locs 0 0 (MQ below (va_Qi (fun r (u : (Nat → Int32) × (Nat → Int32) × (Nat → Int32) × (Nat → Int32) × (Nat → Int32) × (Nat → Int32) × (Nat → Int32) × (Nat → Int32) × Int32 × Int32 × Int32) => post r u.1 u.2.1 u.2.2.1 u.2.2.2.1 u.2.2.2.2.1 u.2.2.2.2.2.1 u.2.2.2.2.2.2.1 u.2.2.2.2.2.2.2.1 u.2.2.2.2.2.2.2.2.1 u.2.2.2.2.2.2.2.2.2.1 u.2.2.2.2.2.2.2.2.2.2) (fun (u : (Nat → Int32) × (Nat → Int32) × (Nat → Int32) × (Nat → Int32) × (Nat → Int32) × (Nat → Int32) × (Nat → Int32) × (Nat → Int32) × Int32 × Int32 × Int32) t => we n0 G (wM K ad (sI (sI (sI (sA (sA (sA (sA (sA (sA (sA (sA S 1 u.1) 2 u.2.1) 3 u.2.2.1) 4 u.2.2.2.1) 5 u.2.2.2.2.1) 6 u.2.2.2.2.2.1) 7 u.2.2.2.2.2.2.1) 8 u.2.2.2.2.2.2.2.1) 0 u.2.2.2.2.2.2.2.2.1) 1 u.2.2.2.2.2.2.2.2.2.1) 34 u.2.2.2.2.2.2.2.2.2.2) ++ X) t) (al n0)) args s 0 0 (al n0)) (F0 m 31 ls [.int z1, .ref (ad 0)]) := by
  have hx := C.1
  have hb := C.2.1
  have hts := C.2.2.2.2.1
  intro x1 z1 hw H locs ls w hl
  unfold wl_Mo_penalty_31 at hw
  refine kp (C1 := R_Mo) (T := F_Mo) (N := 43) (ci := 10) (ty0 := t_Mo) (ref := "LineBreakerModel") (w2 := wM K ad (sI S 0 z1) ++ X) C w 0 0 iw_Mo tk_Mo n_Mo rfl rfl (by decide) kw_877 rfl rfl rfl rfl (Nat.le_of_ble_eq_true rfl) rfl d_Mo_penalty_31 (fun H locs w => ?_)
  refine lv_aload_n hx hb d_Mo_penalty_34 rfl (lv_at hl 0 rfl) ?_
  refine kg (C1 := R_Mo) (T := F_Mo) (N := 43) (ci := 10) (ref := "LineBreakerModel") (v := .int z1) C w 0 0 iw_Mo rfl rfl (by decide) kw_877 rfl rfl d_Mo_penalty_35 ?_
  refine lv_if_le (tgt := 45) hx hb d_Mo_penalty_38 (by decide) (fun hc => ?_) (fun hc => ?_)
  · have hw := hw.1 hc
    refine lv_aload_n hx hb d_Mo_penalty_45 rfl (lv_at hl 0 rfl) ?_
    refine lv_iconst (v := 4) hx hb d_Mo_penalty_46 (by decide) ?_
    refine lv_iload_n hx hb d_Mo_penalty_47 rfl (lv_at hl 1 rfl) ?_
    refine lv_sipush (v := (-10000)) hx hb d_Mo_penalty_48 (by decide) ?_
    refine lv_icmp_ge (tgt := 60) hx hb d_Mo_penalty_51 (by decide) (fun hc => ?_) (fun hc => ?_)
    · have hw := hw.1 hc
      refine lv_iload_n hx hb d_Mo_penalty_60 rfl (lv_at hl 1 rfl) ?_
      refine lv_sipush (v := 10000) hx hb d_Mo_penalty_61 (by decide) ?_
      refine lv_icmp_le (tgt := 73) hx hb d_Mo_penalty_64 (by decide) (fun hc => ?_) (fun hc => ?_)
      · have hw := hw.1 hc
        refine lv_iload_n hx hb d_Mo_penalty_73 rfl (lv_at hl 1 rfl) ?_
        exact w_Mo_penalty_74 C hr  z1 4 x1 hw _ _ _ (wn_eq w rfl) (lv_sub hl [] rfl)
      · have hw := hw.2 hc
        refine lv_sipush (v := 10000) hx hb d_Mo_penalty_67 (by decide) ?_
        refine lv_goto (tgt := 74) hx hb d_Mo_penalty_70 (by decide) ?_
        exact w_Mo_penalty_74 C hr  z1 4 10000 hw _ _ _ (wn_eq w rfl) (lv_sub hl [] rfl)
    · have hw := hw.2 hc
      refine lv_sipush (v := (-10000)) hx hb d_Mo_penalty_54 (by decide) ?_
      refine lv_goto (tgt := 74) hx hb d_Mo_penalty_57 (by decide) ?_
      exact w_Mo_penalty_74 C hr  z1 4 (-10000) hw _ _ _ (wn_eq w rfl) (lv_sub hl [] rfl)
  · have hw := hw.2 hc
    refine lv_iconst (v := 0) hx hb d_Mo_penalty_41 (by decide) ?_
    refine lv_goto (tgt := 82) hx hb d_Mo_penalty_42 (by decide) ?_
    exact ke_i (post := (fun r (u : (Nat → Int32) × (Nat → Int32) × (Nat → Int32) × (Nat → Int32) × (Nat → Int32) × (Nat → Int32) × (Nat → Int32) × (Nat → Int32) × Int32 × Int32 × Int32) => post r u.1 u.2.1 u.2.2.1 u.2.2.2.1 u.2.2.2.2.1 u.2.2.2.2.2.1 u.2.2.2.2.2.2.1 u.2.2.2.2.2.2.2.1 u.2.2.2.2.2.2.2.2.1 u.2.2.2.2.2.2.2.2.2.1 u.2.2.2.2.2.2.2.2.2.2)) (st := (fun (u : (Nat → Int32) × (Nat → Int32) × (Nat → Int32) × (Nat → Int32) × (Nat → Int32) × (Nat → Int32) × (Nat → Int32) × (Nat → Int32) × Int32 × Int32 × Int32) => wM K ad (sI (sI (sI (sA (sA (sA (sA (sA (sA (sA (sA S 1 u.1) 2 u.2.1) 3 u.2.2.1) 4 u.2.2.2.1) 5 u.2.2.2.2.1) 6 u.2.2.2.2.2.1) 7 u.2.2.2.2.2.2.1) 8 u.2.2.2.2.2.2.2.1) 0 u.2.2.2.2.2.2.2.2.1) 1 u.2.2.2.2.2.2.2.2.2.1) 34 u.2.2.2.2.2.2.2.2.2.2) ++ X)) (u := ((S.1 1), (S.1 2), (S.1 3), (S.1 4), (S.1 5), (S.1 6), (S.1 7), (S.1 8), z1, (S.2.2 1), (S.2.2 34))) C hr d_Mo_penalty_82 (wn_eq w rfl) hw
set_option maxHeartbeats 4000000 in
set_option maxRecDepth 100000 in
theorem c_Mo_penalty (l : Launch) (n0 : Nat) (G : va_G) (K : KT) (ad : Nat → Nat) (X : va_W) (S : ST) (p1 : Int32) (post : Int32 → (Nat → Int32) → (Nat → Int32) → (Nat → Int32) → (Nat → Int32) → (Nat → Int32) → (Nat → Int32) → (Nat → Int32) → (Nat → Int32) → Int32 → Int32 → Int32 → Prop) (hw : wp_Mo_penalty S p1 post) : Met l y_Mo_penalty (Cond.code y_Mo_penalty prog_12_method_11_code 2 (some .int) :: gw) rm_Mo_penalty (va_Pc [.ref (ad 0), .int p1] (wb n0 G K (wM K ad S ++ X))) (va_Qi (fun r (u : (Nat → Int32) × (Nat → Int32) × (Nat → Int32) × (Nat → Int32) × (Nat → Int32) × (Nat → Int32) × (Nat → Int32) × (Nat → Int32) × Int32 × Int32 × Int32) => post r u.1 u.2.1 u.2.2.1 u.2.2.2.1 u.2.2.2.2.1 u.2.2.2.2.2.1 u.2.2.2.2.2.2.1 u.2.2.2.2.2.2.2.1 u.2.2.2.2.2.2.2.2.1 u.2.2.2.2.2.2.2.2.2.1 u.2.2.2.2.2.2.2.2.2.2) (fun (u : (Nat → Int32) × (Nat → Int32) × (Nat → Int32) × (Nat → Int32) × (Nat → Int32) × (Nat → Int32) × (Nat → Int32) × (Nat → Int32) × Int32 × Int32 × Int32) t => we n0 G (wM K ad (sI (sI (sI (sA (sA (sA (sA (sA (sA (sA (sA S 1 u.1) 2 u.2.1) 3 u.2.2.1) 4 u.2.2.2.1) 5 u.2.2.2.2.1) 6 u.2.2.2.2.2.1) 7 u.2.2.2.2.2.2.1) 8 u.2.2.2.2.2.2.2.1) 0 u.2.2.2.2.2.2.2.2.1) 1 u.2.2.2.2.2.2.2.2.2.1) 34 u.2.2.2.2.2.2.2.2.2.2) ++ X) t) (al n0)) 0 0 (al n0) := by
  refine kb_start (own := "LineBreakerModel") (by decide +kernel) rfl ?_
  intro p e s m below meth c C hr hne w
  have hx := C.1
  have hb := C.2.1
  have hts := C.2.2.2.2.1
  have hl := lv_entry ([.ref (ad 0), .int p1]) (n := 2) (Nat.le_of_ble_eq_true rfl)
  rw [lg_entry_eq]
  generalize (lg_sl ([.ref (ad 0), .int p1]) ++ List.replicate (2 - (lg_sl ([.ref (ad 0), .int p1])).length) Slot.unset).toArray = ls at hl ⊢
  have hl : lv_has ls 2 [(0, .ref (ad 0)), (1, .int p1)] := hl
  unfold wp_Mo_penalty at hw
  refine lv_aload_n hx hb d_Mo_penalty_0 rfl (lv_at hl 0 rfl) ?_
  refine lv_aload_n hx hb d_Mo_penalty_1 rfl (lv_at hl 0 rfl) ?_
  refine lv_aload_n hx hb d_Mo_penalty_2 rfl (lv_at hl 0 rfl) ?_
  refine kg (C1 := R_Mo) (T := F_Mo) (N := 43) (ci := 10) (ref := "LineBreakerModel") (v := .int (S.2.2 1)) C w 0 1 iw_Mo rfl rfl (by decide) kw_878 rfl rfl d_Mo_penalty_3 ?_
  refine kd_i (kr_V (y := y_Mo_replacer) (C1 := R_Mo) (T := F_Mo) (N := 43) (ci := 10) (q0 := 0) (As := [.int (S.2.2 1)]) (n := 1) C w (c_Mo_replacer l n0 G K ad X S (S.2.2 1) _ hw) (gw_V kw_1035 kw_1037 kp_20 kw_11 kw_1038) (by decide +kernel) rfl rfl ⟨Nat.le_of_ble_eq_true rfl, Nat.le_of_ble_eq_true rfl⟩ rfl rfl rfl hl.1 rfl (Nat.le_of_ble_eq_true rfl) d_Mo_penalty_6 ⟨Nat.le_of_ble_eq_true rfl, Nat.le_of_ble_eq_true rfl⟩) (fun r1 hw => ?_)
  refine lv_if_lt (tgt := 16) hx hb d_Mo_penalty_9 (by decide) (fun hc => ?_) (fun hc => ?_)
  · have hw := hw.1 hc
    refine lv_aload_n hx hb d_Mo_penalty_16 rfl (lv_at hl 0 rfl) ?_
    refine kg (C1 := R_Mo) (T := F_Mo) (N := 43) (ci := 10) (ref := "LineBreakerModel") (v := .int (S.2.2 1)) C w 0 1 iw_Mo rfl rfl (by decide) kw_878 rfl rfl d_Mo_penalty_17 ?_
    refine lv_sipush (v := 400) hx hb d_Mo_penalty_20 (by decide) ?_
    refine lv_icmp_ne (tgt := 30) hx hb d_Mo_penalty_23 (by decide) (fun hc => ?_) (fun hc => ?_)
    · have hw := hw.1 hc
      refine lv_iconst (v := 0) hx hb d_Mo_penalty_30 (by decide) ?_
      exact w_Mo_penalty_31 C hr  p1 0 hw _ _ _ (wn_eq w rfl) (lv_sub hl [0, 1] rfl)
    · have hw := hw.2 hc
      refine lv_iconst (v := 2) hx hb d_Mo_penalty_26 (by decide) ?_
      refine lv_goto (tgt := 31) hx hb d_Mo_penalty_27 (by decide) ?_
      exact w_Mo_penalty_31 C hr  p1 2 hw _ _ _ (wn_eq w rfl) (lv_sub hl [0, 1] rfl)
  · have hw := hw.2 hc
    refine lv_iconst (v := 1) hx hb d_Mo_penalty_12 (by decide) ?_
    refine lv_goto (tgt := 31) hx hb d_Mo_penalty_13 (by decide) ?_
    exact w_Mo_penalty_31 C hr  p1 1 hw _ _ _ (wn_eq w rfl) (lv_sub hl [0, 1] rfl)
set_option maxHeartbeats 4000000 in
set_option maxRecDepth 100000 in
theorem c_Mo_mayStand (l : Launch) (n0 : Nat) (G : va_G) (K : KT) (ad : Nat → Nat) (X : va_W) (S : ST) (p1 : Int32) (post : Int32 → Prop) (hw : wp_Mo_mayStand S p1 post) : Met l y_Mo_mayStand (Cond.code y_Mo_mayStand prog_12_method_12_code 1 (some .boolean) :: gw) rm_Mo_mayStand (va_Pc [.int p1] (wb n0 G K (wM K ad S ++ X))) (rq_i post) 0 0 (fun _ => False) := by
  refine kb_start (own := "LineBreakerModel") (by decide +kernel) rfl ?_
  intro p e s m below meth c C hr hne w
  have hx := C.1
  have hb := C.2.1
  have hts := C.2.2.2.2.1
  have hl := lv_entry ([.int p1]) (n := 1) (Nat.le_of_ble_eq_true rfl)
  rw [lg_entry_eq]
  generalize (lg_sl ([.int p1]) ++ List.replicate (1 - (lg_sl ([.int p1])).length) Slot.unset).toArray = ls at hl ⊢
  have hl : lv_has ls 1 [(0, .int p1)] := hl
  unfold wp_Mo_mayStand at hw
  refine lv_iload_n hx hb d_Mo_mayStand_0 rfl (lv_at hl 0 rfl) ?_
  refine lv_ldc (v := (-1073741824)) hx hb C.2.2.2.1 (hts _ kw_1054) d_Mo_mayStand_1 ?_
  refine lv_icmp_eq (tgt := 14) hx hb d_Mo_mayStand_3 (by decide) (fun hc => ?_) (fun hc => ?_)
  · have hw := hw.1 hc
    refine lv_iconst (v := 1) hx hb d_Mo_mayStand_14 (by decide) ?_
    refine lv_goto (tgt := 19) hx hb d_Mo_mayStand_15 (by decide) ?_
    exact kf_z C hr d_Mo_mayStand_19 (Or.inr rfl) hw
  · have hw := hw.2 hc
    refine lv_iload_n hx hb d_Mo_mayStand_6 rfl (lv_at hl 0 rfl) ?_
    refine lv_i2l hx hb d_Mo_mayStand_7 rfl ?_
    refine kd_i (kr_S (y := y_Mo_isSize) (As := [.long (p1.toInt64)]) (n := 1) C w (c_Mo_isSize l n0 G K ad X S (p1.toInt64) _ hw) (gw_S kw_1015 kw_1016 kw_11 kw_1017) (by decide +kernel) rfl rfl ⟨Nat.le_of_ble_eq_true rfl, Nat.le_of_ble_eq_true rfl⟩ rfl hl.1 rfl (Nat.le_of_ble_eq_true rfl) d_Mo_mayStand_8 ⟨Nat.le_of_ble_eq_true rfl, Nat.le_of_ble_eq_true rfl⟩) (fun r1 hw => ?_)
    refine lv_if_eq (tgt := 18) hx hb d_Mo_mayStand_11 (by decide) (fun hc => ?_) (fun hc => ?_)
    · have hw := hw.1 hc
      refine lv_iconst (v := 0) hx hb d_Mo_mayStand_18 (by decide) ?_
      exact kf_z C hr d_Mo_mayStand_19 (Or.inl rfl) hw
    · have hw := hw.2 hc
      refine lv_iconst (v := 1) hx hb d_Mo_mayStand_14 (by decide) ?_
      refine lv_goto (tgt := 19) hx hb d_Mo_mayStand_15 (by decide) ?_
      exact kf_z C hr d_Mo_mayStand_19 (Or.inr rfl) hw
set_option maxHeartbeats 4000000 in
set_option maxRecDepth 100000 in
theorem w_Mo_hyphen_59 {S : ST} {post : Int32 → (Nat → Int32) → (Nat → Int32) → (Nat → Int32) → (Nat → Int32) → (Nat → Int32) → (Nat → Int32) → (Nat → Int32) → (Nat → Int32) → Int32 → Int32 → Int32 → Prop} (C : cx p s m args meth c prog_12_method_13_code 4 "LineBreakerModel" n0 G K) (hr : meth.sig.returnType = (some .int)) : ∀ (x1 : Int32) (x2 : Int32) (x3 : Int32) (z1 : Int32), wl_Mo_hyphen_59 S post x1 x2 x3 z1 → ∀ (H : Heap) (locs : List Loc) (ls : Array Slot), wn n0 G (wM K ad S ++ X) s H locs → lv_has ls 4 [(0, .ref (ad 0)), (1, .int x1), (2, .int x2), (3, .int x3)] → W p l e rm_Mo_hyphen s m args below meth c H locs 0 0 (MQ below (va_Qi (fun r (u : (Nat → Int32) × (Nat → Int32) × (Nat → Int32) × (Nat → Int32) × (Nat → Int32) × (Nat → Int32) × (Nat → Int32) × (Nat → Int32) × Int32 × Int32 × Int32) => post r u.1 u.2.1 u.2.2.1 u.2.2.2.1 u.2.2.2.2.1 u.2.2.2.2.2.1 u.2.2.2.2.2.2.1 u.2.2.2.2.2.2.2.1 u.2.2.2.2.2.2.2.2.1 u.2.2.2.2.2.2.2.2.2.1 u.2.2.2.2.2.2.2.2.2.2) (fun (u : (Nat → Int32) × (Nat → Int32) × (Nat → Int32) × (Nat → Int32) × (Nat → Int32) × (Nat → Int32) × (Nat → Int32) × (Nat → Int32) × Int32 × Int32 × Int32) t => we n0 G (wM K ad (sI (sI (sI (sA (sA (sA (sA (sA (sA (sA (sA S 1 u.1) 2 u.2.1) 3 u.2.2.1) 4 u.2.2.2.1) 5 u.2.2.2.2.1) 6 u.2.2.2.2.2.1) 7 u.2.2.2.2.2.2.1) 8 u.2.2.2.2.2.2.2.1) 0 u.2.2.2.2.2.2.2.2.1) 1 u.2.2.2.2.2.2.2.2.2.1) 34 u.2.2.2.2.2.2.2.2.2.2) ++ X) t) (al n0)) args s 0 0 (al n0)) (F0 m 59 ls [.int z1, .ref (ad 0)]) := by
  have hx := C.1
  have hb := C.2.1
  have hts := C.2.2.2.2.1
  intro x1 x2 x3 z1 hw H locs ls w hl
  unfold wl_Mo_hyphen_59 at hw
  refine kp (C1 := R_Mo) (T := F_Mo) (N := 43) (ci := 10) (ty0 := t_Mo) (ref := "LineBreakerModel") (w2 := wM K ad (sI S 0 z1) ++ X) C w 0 0 iw_Mo tk_Mo n_Mo rfl rfl (by decide) kw_877 rfl rfl rfl rfl (Nat.le_of_ble_eq_true rfl) rfl d_Mo_hyphen_59 (fun H locs w => ?_)
  refine lv_aload_n hx hb d_Mo_hyphen_62 rfl (lv_at hl 0 rfl) ?_
  refine kg (C1 := R_Mo) (T := F_Mo) (N := 43) (ci := 10) (ref := "LineBreakerModel") (v := .int z1) C w 0 0 iw_Mo rfl rfl (by decide) kw_877 rfl rfl d_Mo_hyphen_63 ?_
  refine lv_if_le (tgt := 73) hx hb d_Mo_hyphen_66 (by decide) (fun hc => ?_) (fun hc => ?_)
  · have hw := hw.1 hc
    refine lv_aload_n hx hb d_Mo_hyphen_73 rfl (lv_at hl 0 rfl) ?_
    refine lv_iconst (v := 5) hx hb d_Mo_hyphen_74 (by decide) ?_
    refine lv_iload_n hx hb d_Mo_hyphen_75 rfl (lv_at hl 1 rfl) ?_
    refine lv_iconst (v := 0) hx hb d_Mo_hyphen_76 (by decide) ?_
    refine lv_iconst (v := 0) hx hb d_Mo_hyphen_77 (by decide) ?_
    refine lv_iconst (v := 0) hx hb d_Mo_hyphen_78 (by decide) ?_
    refine lv_iload_n hx hb d_Mo_hyphen_79 rfl (lv_at hl 2 rfl) ?_
    refine lv_iload_n hx hb d_Mo_hyphen_80 rfl (lv_at hl 3 rfl) ?_
    refine kc_i (st := fun (u : (Nat → Int32) × (Nat → Int32) × (Nat → Int32) × (Nat → Int32) × (Nat → Int32) × (Nat → Int32) × (Nat → Int32) × (Nat → Int32) × Int32 × Int32) => wM K ad (sI (sI (sA (sA (sA (sA (sA (sA (sA (sA (sI S 0 z1) 1 u.1) 2 u.2.1) 3 u.2.2.1) 4 u.2.2.2.1) 5 u.2.2.2.2.1) 6 u.2.2.2.2.2.1) 7 u.2.2.2.2.2.2.1) 8 u.2.2.2.2.2.2.2.1) 1 u.2.2.2.2.2.2.2.2.1) 34 u.2.2.2.2.2.2.2.2.2) ++ X) w (kr_V (y := y_Mo_append) (C1 := R_Mo) (T := F_Mo) (N := 43) (ci := 10) (q0 := 0) (As := [.int 5, .int x1, .int 0, .int 0, .int 0, .int x2, .int x3]) (n := 7) C w (c_Mo_append l n0 G K ad X (sI S 0 z1) 5 x1 0 0 0 x2 x3 _ hw) (gw_V kw_1020 kw_1022 kp_19 kw_11 kw_1023) (by decide +kernel) rfl rfl ⟨Nat.le_of_ble_eq_true rfl, Nat.le_of_ble_eq_true rfl⟩ rfl rfl rfl hl.1 rfl (Nat.le_of_ble_eq_true rfl) d_Mo_hyphen_81 ⟨Nat.le_of_ble_eq_true rfl, Nat.le_of_ble_eq_true rfl⟩) (fun r11 u H locs hw w => ?_)
    obtain ⟨f1, f2, f3, f4, f5, f6, f7, f8, v9, v10⟩ := u
    dsimp only at hw
    have w : wn n0 G (wM K ad (sI (sI (sI (sA (sA (sA (sA (sA (sA (sA (sA S 1 f1) 2 f2) 3 f3) 4 f4) 5 f5) 6 f6) 7 f7) 8 f8) 0 z1) 1 v9) 34 v10) ++ X) s H locs := w
    exact ke_i (post := (fun r (u : (Nat → Int32) × (Nat → Int32) × (Nat → Int32) × (Nat → Int32) × (Nat → Int32) × (Nat → Int32) × (Nat → Int32) × (Nat → Int32) × Int32 × Int32 × Int32) => post r u.1 u.2.1 u.2.2.1 u.2.2.2.1 u.2.2.2.2.1 u.2.2.2.2.2.1 u.2.2.2.2.2.2.1 u.2.2.2.2.2.2.2.1 u.2.2.2.2.2.2.2.2.1 u.2.2.2.2.2.2.2.2.2.1 u.2.2.2.2.2.2.2.2.2.2)) (st := (fun (u : (Nat → Int32) × (Nat → Int32) × (Nat → Int32) × (Nat → Int32) × (Nat → Int32) × (Nat → Int32) × (Nat → Int32) × (Nat → Int32) × Int32 × Int32 × Int32) => wM K ad (sI (sI (sI (sA (sA (sA (sA (sA (sA (sA (sA S 1 u.1) 2 u.2.1) 3 u.2.2.1) 4 u.2.2.2.1) 5 u.2.2.2.2.1) 6 u.2.2.2.2.2.1) 7 u.2.2.2.2.2.2.1) 8 u.2.2.2.2.2.2.2.1) 0 u.2.2.2.2.2.2.2.2.1) 1 u.2.2.2.2.2.2.2.2.2.1) 34 u.2.2.2.2.2.2.2.2.2.2) ++ X)) (u := (f1, f2, f3, f4, f5, f6, f7, f8, z1, v9, v10)) C hr d_Mo_hyphen_84 (wn_eq w rfl) hw
  · have hw := hw.2 hc
    refine lv_iconst (v := 0) hx hb d_Mo_hyphen_69 (by decide) ?_
    refine lv_goto (tgt := 84) hx hb d_Mo_hyphen_70 (by decide) ?_
    exact ke_i (post := (fun r (u : (Nat → Int32) × (Nat → Int32) × (Nat → Int32) × (Nat → Int32) × (Nat → Int32) × (Nat → Int32) × (Nat → Int32) × (Nat → Int32) × Int32 × Int32 × Int32) => post r u.1 u.2.1 u.2.2.1 u.2.2.2.1 u.2.2.2.2.1 u.2.2.2.2.2.1 u.2.2.2.2.2.2.1 u.2.2.2.2.2.2.2.1 u.2.2.2.2.2.2.2.2.1 u.2.2.2.2.2.2.2.2.2.1 u.2.2.2.2.2.2.2.2.2.2)) (st := (fun (u : (Nat → Int32) × (Nat → Int32) × (Nat → Int32) × (Nat → Int32) × (Nat → Int32) × (Nat → Int32) × (Nat → Int32) × (Nat → Int32) × Int32 × Int32 × Int32) => wM K ad (sI (sI (sI (sA (sA (sA (sA (sA (sA (sA (sA S 1 u.1) 2 u.2.1) 3 u.2.2.1) 4 u.2.2.2.1) 5 u.2.2.2.2.1) 6 u.2.2.2.2.2.1) 7 u.2.2.2.2.2.2.1) 8 u.2.2.2.2.2.2.2.1) 0 u.2.2.2.2.2.2.2.2.1) 1 u.2.2.2.2.2.2.2.2.2.1) 34 u.2.2.2.2.2.2.2.2.2.2) ++ X)) (u := ((S.1 1), (S.1 2), (S.1 3), (S.1 4), (S.1 5), (S.1 6), (S.1 7), (S.1 8), z1, (S.2.2 1), (S.2.2 34))) C hr d_Mo_hyphen_84 (wn_eq w rfl) hw
set_option maxHeartbeats 4000000 in
set_option maxRecDepth 100000 in
theorem w_Mo_hyphen_25 {S : ST} {post : Int32 → (Nat → Int32) → (Nat → Int32) → (Nat → Int32) → (Nat → Int32) → (Nat → Int32) → (Nat → Int32) → (Nat → Int32) → (Nat → Int32) → Int32 → Int32 → Int32 → Prop} (C : cx p s m args meth c prog_12_method_13_code 4 "LineBreakerModel" n0 G K) (hr : meth.sig.returnType = (some .int)) : ∀ (x1 : Int32) (x2 : Int32) (x3 : Int32), wl_Mo_hyphen_25 S post x1 x2 x3 → ∀ (H : Heap) (locs : List Loc) (ls : Array Slot), wn n0 G (wM K ad S ++ X) s H locs → lv_has ls 4 [(0, .ref (ad 0)), (1, .int x1), (2, .int x2), (3, .int x3)] → W p l e rm_Mo_hyphen s m args below meth c H locs 0 0 (MQ below (va_Qi (fun r (u : (Nat → Int32) × (Nat → Int32) × (Nat → Int32) × (Nat → Int32) × (Nat → Int32) × (Nat → Int32) × (Nat → Int32) × (Nat → Int32) × Int32 × Int32 × Int32) => post r u.1 u.2.1 u.2.2.1 u.2.2.2.1 u.2.2.2.2.1 u.2.2.2.2.2.1 u.2.2.2.2.2.2.1 u.2.2.2.2.2.2.2.1 u.2.2.2.2.2.2.2.2.1 u.2.2.2.2.2.2.2.2.2.1 u.2.2.2.2.2.2.2.2.2.2) (fun (u : (Nat → Int32) × (Nat → Int32) × (Nat → Int32) × (Nat → Int32) × (Nat → Int32) × (Nat → Int32) × (Nat → Int32) × (Nat → Int32) × Int32 × Int32 × Int32) t => we n0 G (wM K ad (sI (sI (sI (sA (sA (sA (sA (sA (sA (sA (sA S 1 u.1) 2 u.2.1) 3 u.2.2.1) 4 u.2.2.2.1) 5 u.2.2.2.2.1) 6 u.2.2.2.2.2.1) 7 u.2.2.2.2.2.2.1) 8 u.2.2.2.2.2.2.2.1) 0 u.2.2.2.2.2.2.2.2.1) 1 u.2.2.2.2.2.2.2.2.2.1) 34 u.2.2.2.2.2.2.2.2.2.2) ++ X) t) (al n0)) args s 0 0 (al n0)) (F0 m 25 ls [.ref (ad 0)]) := by
  have hx := C.1
  have hb := C.2.1
  have hts := C.2.2.2.2.1
  intro x1 x2 x3 hw H locs ls w hl
  unfold wl_Mo_hyphen_25 at hw
  refine lv_iconst (v := 1) hx hb d_Mo_hyphen_25 (by decide) ?_
  refine lv_goto (tgt := 59) hx hb d_Mo_hyphen_26 (by decide) ?_
  exact w_Mo_hyphen_59 C hr  x1 x2 x3 1 hw _ _ _ (wn_eq w rfl) (lv_sub hl [0, 1, 2, 3] rfl)
set_option maxHeartbeats 4000000 in
set_option maxRecDepth 100000 in
theorem c_Mo_hyphen (l : Launch) (n0 : Nat) (G : va_G) (K : KT) (ad : Nat → Nat) (X : va_W) (S : ST) (p1 : Int32) (p2 : Int32) (p3 : Int32) (post : Int32 → (Nat → Int32) → (Nat → Int32) → (Nat → Int32) → (Nat → Int32) → (Nat → Int32) → (Nat → Int32) → (Nat → Int32) → (Nat → Int32) → Int32 → Int32 → Int32 → Prop) (hw : wp_Mo_hyphen S p1 p2 p3 post) : Met l y_Mo_hyphen (Cond.code y_Mo_hyphen prog_12_method_13_code 4 (some .int) :: gw) rm_Mo_hyphen (va_Pc [.ref (ad 0), .int p1, .int p2, .int p3] (wb n0 G K (wM K ad S ++ X))) (va_Qi (fun r (u : (Nat → Int32) × (Nat → Int32) × (Nat → Int32) × (Nat → Int32) × (Nat → Int32) × (Nat → Int32) × (Nat → Int32) × (Nat → Int32) × Int32 × Int32 × Int32) => post r u.1 u.2.1 u.2.2.1 u.2.2.2.1 u.2.2.2.2.1 u.2.2.2.2.2.1 u.2.2.2.2.2.2.1 u.2.2.2.2.2.2.2.1 u.2.2.2.2.2.2.2.2.1 u.2.2.2.2.2.2.2.2.2.1 u.2.2.2.2.2.2.2.2.2.2) (fun (u : (Nat → Int32) × (Nat → Int32) × (Nat → Int32) × (Nat → Int32) × (Nat → Int32) × (Nat → Int32) × (Nat → Int32) × (Nat → Int32) × Int32 × Int32 × Int32) t => we n0 G (wM K ad (sI (sI (sI (sA (sA (sA (sA (sA (sA (sA (sA S 1 u.1) 2 u.2.1) 3 u.2.2.1) 4 u.2.2.2.1) 5 u.2.2.2.2.1) 6 u.2.2.2.2.2.1) 7 u.2.2.2.2.2.2.1) 8 u.2.2.2.2.2.2.2.1) 0 u.2.2.2.2.2.2.2.2.1) 1 u.2.2.2.2.2.2.2.2.2.1) 34 u.2.2.2.2.2.2.2.2.2.2) ++ X) t) (al n0)) 0 0 (al n0) := by
  refine kb_start (own := "LineBreakerModel") (by decide +kernel) rfl ?_
  intro p e s m below meth c C hr hne w
  have hx := C.1
  have hb := C.2.1
  have hts := C.2.2.2.2.1
  have hl := lv_entry ([.ref (ad 0), .int p1, .int p2, .int p3]) (n := 4) (Nat.le_of_ble_eq_true rfl)
  rw [lg_entry_eq]
  generalize (lg_sl ([.ref (ad 0), .int p1, .int p2, .int p3]) ++ List.replicate (4 - (lg_sl ([.ref (ad 0), .int p1, .int p2, .int p3])).length) Slot.unset).toArray = ls at hl ⊢
  have hl : lv_has ls 4 [(0, .ref (ad 0)), (1, .int p1), (2, .int p2), (3, .int p3)] := hl
  unfold wp_Mo_hyphen at hw
  refine lv_aload_n hx hb d_Mo_hyphen_0 rfl (lv_at hl 0 rfl) ?_
  refine lv_iload_n hx hb d_Mo_hyphen_1 rfl (lv_at hl 1 rfl) ?_
  refine kd_i (kr_S (y := y_Mo_mayStand) (As := [.int p1]) (n := 1) C w (c_Mo_mayStand l n0 G K ad X S p1 _ hw) (gw_S kw_1051 kw_1052 kw_11 kw_1053) (by decide +kernel) rfl rfl ⟨Nat.le_of_ble_eq_true rfl, Nat.le_of_ble_eq_true rfl⟩ rfl hl.1 rfl (Nat.le_of_ble_eq_true rfl) d_Mo_hyphen_2 ⟨Nat.le_of_ble_eq_true rfl, Nat.le_of_ble_eq_true rfl⟩) (fun r1 hw => ?_)
  refine lv_if_eq (tgt := 25) hx hb d_Mo_hyphen_5 (by decide) (fun hc => ?_) (fun hc => ?_)
  · have hw := hw.1 hc
    exact w_Mo_hyphen_25 C hr  p1 p2 p3 hw _ _ _ (wn_eq w rfl) (lv_sub hl [0, 1, 2, 3] rfl)
  · have hw := hw.2 hc
    refine lv_iload_n hx hb d_Mo_hyphen_8 rfl (lv_at hl 2 rfl) ?_
    refine kd_i (kr_S (y := y_Mo_mayStand) (As := [.int p2]) (n := 1) C w (c_Mo_mayStand l n0 G K ad X S p2 _ hw) (gw_S kw_1051 kw_1052 kw_11 kw_1053) (by decide +kernel) rfl rfl ⟨Nat.le_of_ble_eq_true rfl, Nat.le_of_ble_eq_true rfl⟩ rfl hl.1 rfl (Nat.le_of_ble_eq_true rfl) d_Mo_hyphen_9 ⟨Nat.le_of_ble_eq_true rfl, Nat.le_of_ble_eq_true rfl⟩) (fun r2 hw => ?_)
    refine lv_if_eq (tgt := 25) hx hb d_Mo_hyphen_12 (by decide) (fun hc => ?_) (fun hc => ?_)
    · have hw := hw.1 hc
      exact w_Mo_hyphen_25 C hr  p1 p2 p3 hw _ _ _ (wn_eq w rfl) (lv_sub hl [0, 1, 2, 3] rfl)
    · have hw := hw.2 hc
      refine lv_iload_n hx hb d_Mo_hyphen_15 rfl (lv_at hl 3 rfl) ?_
      refine lv_if_lt (tgt := 25) hx hb d_Mo_hyphen_16 (by decide) (fun hc => ?_) (fun hc => ?_)
      · have hw := hw.1 hc
        exact w_Mo_hyphen_25 C hr  p1 p2 p3 hw _ _ _ (wn_eq w rfl) (lv_sub hl [0, 1, 2, 3] rfl)
      · have hw := hw.2 hc
        refine lv_iload_n hx hb d_Mo_hyphen_19 rfl (lv_at hl 3 rfl) ?_
        refine lv_bipush (v := 10) hx hb d_Mo_hyphen_20 (by decide) ?_
        refine lv_icmp_le (tgt := 29) hx hb d_Mo_hyphen_22 (by decide) (fun hc => ?_) (fun hc => ?_)
        · have hw := hw.1 hc
          refine lv_aload_n hx hb d_Mo_hyphen_29 rfl (lv_at hl 0 rfl) ?_
          refine lv_aload_n hx hb d_Mo_hyphen_30 rfl (lv_at hl 0 rfl) ?_
          refine kg (C1 := R_Mo) (T := F_Mo) (N := 43) (ci := 10) (ref := "LineBreakerModel") (v := .int (S.2.2 1)) C w 0 1 iw_Mo rfl rfl (by decide) kw_878 rfl rfl d_Mo_hyphen_31 ?_
          refine kd_i (kr_V (y := y_Mo_replacer) (C1 := R_Mo) (T := F_Mo) (N := 43) (ci := 10) (q0 := 0) (As := [.int (S.2.2 1)]) (n := 1) C w (c_Mo_replacer l n0 G K ad X S (S.2.2 1) _ hw) (gw_V kw_1035 kw_1037 kp_20 kw_11 kw_1038) (by decide +kernel) rfl rfl ⟨Nat.le_of_ble_eq_true rfl, Nat.le_of_ble_eq_true rfl⟩ rfl rfl rfl hl.1 rfl (Nat.le_of_ble_eq_true rfl) d_Mo_hyphen_34 ⟨Nat.le_of_ble_eq_true rfl, Nat.le_of_ble_eq_true rfl⟩) (fun r3 hw => ?_)
          refine lv_if_lt (tgt := 44) hx hb d_Mo_hyphen_37 (by decide) (fun hc => ?_) (fun hc => ?_)
          · have hw := hw.1 hc
            refine lv_aload_n hx hb d_Mo_hyphen_44 rfl (lv_at hl 0 rfl) ?_
            refine kg (C1 := R_Mo) (T := F_Mo) (N := 43) (ci := 10) (ref := "LineBreakerModel") (v := .int (S.2.2 1)) C w 0 1 iw_Mo rfl rfl (by decide) kw_878 rfl rfl d_Mo_hyphen_45 ?_
            refine lv_sipush (v := 400) hx hb d_Mo_hyphen_48 (by decide) ?_
            refine lv_icmp_ne (tgt := 58) hx hb d_Mo_hyphen_51 (by decide) (fun hc => ?_) (fun hc => ?_)
            · have hw := hw.1 hc
              refine lv_iconst (v := 0) hx hb d_Mo_hyphen_58 (by decide) ?_
              exact w_Mo_hyphen_59 C hr  p1 p2 p3 0 hw _ _ _ (wn_eq w rfl) (lv_sub hl [0, 1, 2, 3] rfl)
            · have hw := hw.2 hc
              refine lv_iconst (v := 3) hx hb d_Mo_hyphen_54 (by decide) ?_
              refine lv_goto (tgt := 59) hx hb d_Mo_hyphen_55 (by decide) ?_
              exact w_Mo_hyphen_59 C hr  p1 p2 p3 3 hw _ _ _ (wn_eq w rfl) (lv_sub hl [0, 1, 2, 3] rfl)
          · have hw := hw.2 hc
            refine lv_iconst (v := 2) hx hb d_Mo_hyphen_40 (by decide) ?_
            refine lv_goto (tgt := 59) hx hb d_Mo_hyphen_41 (by decide) ?_
            exact w_Mo_hyphen_59 C hr  p1 p2 p3 2 hw _ _ _ (wn_eq w rfl) (lv_sub hl [0, 1, 2, 3] rfl)
        · have hw := hw.2 hc
          exact w_Mo_hyphen_25 C hr  p1 p2 p3 hw _ _ _ (wn_eq w rfl) (lv_sub hl [0, 1, 2, 3] rfl)
set_option maxHeartbeats 4000000 in
set_option maxRecDepth 100000 in
theorem c_Mo_keep (l : Launch) (n0 : Nat) (G : va_G) (K : KT) (ad : Nat → Nat) (X : va_W) (S : ST) (p1 : Int32) (post : Int32 → Int32 → Int32 → Int32 → Prop) (hw : wp_Mo_keep S p1 post) : Met l y_Mo_keep (Cond.code y_Mo_keep prog_12_method_14_code 2 (some .boolean) :: gw) rm_Mo_keep (va_Pc [.ref (ad 0), .int p1] (wb n0 G K (wM K ad S ++ X))) (va_Qi (fun r (u : Int32 × Int32 × Int32) => post r u.1 u.2.1 u.2.2) (fun (u : Int32 × Int32 × Int32) t => we n0 G (wM K ad (sI (sI (sI S 0 u.1) 1 u.2.1) 34 u.2.2) ++ X) t) (al n0)) 0 0 (al n0) := by
  refine kb_start (own := "LineBreakerModel") (by decide +kernel) rfl ?_
  intro p e s m below meth c C hr hne w
  have hx := C.1
  have hb := C.2.1
  have hts := C.2.2.2.2.1
  have hl := lv_entry ([.ref (ad 0), .int p1]) (n := 2) (Nat.le_of_ble_eq_true rfl)
  rw [lg_entry_eq]
  generalize (lg_sl ([.ref (ad 0), .int p1]) ++ List.replicate (2 - (lg_sl ([.ref (ad 0), .int p1])).length) Slot.unset).toArray = ls at hl ⊢
  have hl : lv_has ls 2 [(0, .ref (ad 0)), (1, .int p1)] := hl
  unfold wp_Mo_keep at hw
  refine lv_aload_n hx hb d_Mo_keep_0 rfl (lv_at hl 0 rfl) ?_
  refine lv_iconst (v := 0) hx hb d_Mo_keep_1 (by decide) ?_
  refine kp (C1 := R_Mo) (T := F_Mo) (N := 43) (ci := 10) (ty0 := t_Mo) (ref := "LineBreakerModel") (w2 := wM K ad (sI S 0 0) ++ X) C w 0 0 iw_Mo tk_Mo n_Mo rfl rfl (by decide) kw_877 rfl rfl rfl rfl (Nat.le_of_ble_eq_true rfl) rfl d_Mo_keep_2 (fun H locs w => ?_)
  refine lv_iload_n hx hb d_Mo_keep_5 rfl (lv_at hl 1 rfl) ?_
  refine lv_if_lt (tgt := 17) hx hb d_Mo_keep_6 (by decide) (fun hc => ?_) (fun hc => ?_)
  · have hw := hw.1 hc
    refine lv_iconst (v := 0) hx hb d_Mo_keep_17 (by decide) ?_
    exact ke_z (post := (fun r (u : Int32 × Int32 × Int32) => post r u.1 u.2.1 u.2.2)) (st := (fun (u : Int32 × Int32 × Int32) => wM K ad (sI (sI (sI S 0 u.1) 1 u.2.1) 34 u.2.2) ++ X)) (u := (0, (S.2.2 1), (S.2.2 34))) C hr d_Mo_keep_18 (wn_eq w rfl) (Or.inl rfl) hw
  · have hw := hw.2 hc
    refine lv_iload_n hx hb d_Mo_keep_9 rfl (lv_at hl 1 rfl) ?_
    refine lv_aload_n hx hb d_Mo_keep_10 rfl (lv_at hl 0 rfl) ?_
    refine kg (C1 := R_Mo) (T := F_Mo) (N := 43) (ci := 10) (ref := "LineBreakerModel") (v := .int (S.2.2 1)) C w 0 1 iw_Mo rfl rfl (by decide) kw_878 rfl rfl d_Mo_keep_11 ?_
    refine lv_icmp_le (tgt := 19) hx hb d_Mo_keep_14 (by decide) (fun hc => ?_) (fun hc => ?_)
    · have hw := hw.1 hc
      refine lv_aload_n hx hb d_Mo_keep_19 rfl (lv_at hl 0 rfl) ?_
      refine lv_iload_n hx hb d_Mo_keep_20 rfl (lv_at hl 1 rfl) ?_
      refine kp (C1 := R_Mo) (T := F_Mo) (N := 43) (ci := 10) (ty0 := t_Mo) (ref := "LineBreakerModel") (w2 := wM K ad (sI (sI S 0 0) 1 p1) ++ X) C w 0 1 iw_Mo tk_Mo n_Mo rfl rfl (by decide) kw_878 rfl rfl rfl rfl (Nat.le_of_ble_eq_true rfl) rfl d_Mo_keep_21 (fun H locs w => ?_)
      refine lv_aload_n hx hb d_Mo_keep_24 rfl (lv_at hl 0 rfl) ?_
      refine lv_iconst (v := 0) hx hb d_Mo_keep_25 (by decide) ?_
      refine kp (C1 := R_Mo) (T := F_Mo) (N := 43) (ci := 10) (ty0 := t_Mo) (ref := "LineBreakerModel") (w2 := wM K ad (sI (sI (sI S 0 0) 1 p1) 34 0) ++ X) C w 0 34 iw_Mo tk_Mo n_Mo rfl rfl (by decide) kw_911 rfl rfl rfl rfl (Nat.le_of_ble_eq_true rfl) rfl d_Mo_keep_26 (fun H locs w => ?_)
      refine lv_iconst (v := 1) hx hb d_Mo_keep_29 (by decide) ?_
      exact ke_z (post := (fun r (u : Int32 × Int32 × Int32) => post r u.1 u.2.1 u.2.2)) (st := (fun (u : Int32 × Int32 × Int32) => wM K ad (sI (sI (sI S 0 u.1) 1 u.2.1) 34 u.2.2) ++ X)) (u := (0, p1, 0)) C hr d_Mo_keep_30 (wn_eq w rfl) (Or.inr rfl) hw
    · have hw := hw.2 hc
      refine lv_iconst (v := 0) hx hb d_Mo_keep_17 (by decide) ?_
      exact ke_z (post := (fun r (u : Int32 × Int32 × Int32) => post r u.1 u.2.1 u.2.2)) (st := (fun (u : Int32 × Int32 × Int32) => wM K ad (sI (sI (sI S 0 u.1) 1 u.2.1) 34 u.2.2) ++ X)) (u := (0, (S.2.2 1), (S.2.2 34))) C hr d_Mo_keep_18 (wn_eq w rfl) (Or.inl rfl) hw
set_option maxHeartbeats 4000000 in
set_option maxRecDepth 100000 in
theorem c_Mo_items (l : Launch) (n0 : Nat) (G : va_G) (K : KT) (ad : Nat → Nat) (X : va_W) (S : ST) (post : Int32 → Int32 → Prop) (hw : wp_Mo_items S  post) : Met l y_Mo_items (Cond.code y_Mo_items prog_12_method_15_code 1 (some .int) :: gw) rm_Mo_items (va_Pc [.ref (ad 0)] (wb n0 G K (wM K ad S ++ X))) (va_Qi (fun r (u : Int32) => post r u) (fun (u : Int32) t => we n0 G (wM K ad (sI S 0 u) ++ X) t) (al n0)) 0 0 (al n0) := by
  refine kb_start (own := "LineBreakerModel") (by decide +kernel) rfl ?_
  intro p e s m below meth c C hr hne w
  have hx := C.1
  have hb := C.2.1
  have hts := C.2.2.2.2.1
  have hl := lv_entry ([.ref (ad 0)]) (n := 1) (Nat.le_of_ble_eq_true rfl)
  rw [lg_entry_eq]
  generalize (lg_sl ([.ref (ad 0)]) ++ List.replicate (1 - (lg_sl ([.ref (ad 0)])).length) Slot.unset).toArray = ls at hl ⊢
  have hl : lv_has ls 1 [(0, .ref (ad 0))] := hl
  unfold wp_Mo_items at hw
  refine lv_aload_n hx hb d_Mo_items_0 rfl (lv_at hl 0 rfl) ?_
  refine lv_iconst (v := 0) hx hb d_Mo_items_1 (by decide) ?_
  refine kp (C1 := R_Mo) (T := F_Mo) (N := 43) (ci := 10) (ty0 := t_Mo) (ref := "LineBreakerModel") (w2 := wM K ad (sI S 0 0) ++ X) C w 0 0 iw_Mo tk_Mo n_Mo rfl rfl (by decide) kw_877 rfl rfl rfl rfl (Nat.le_of_ble_eq_true rfl) rfl d_Mo_items_2 (fun H locs w => ?_)
  refine lv_aload_n hx hb d_Mo_items_5 rfl (lv_at hl 0 rfl) ?_
  refine kg (C1 := R_Mo) (T := F_Mo) (N := 43) (ci := 10) (ref := "LineBreakerModel") (v := .int (S.2.2 1)) C w 0 1 iw_Mo rfl rfl (by decide) kw_878 rfl rfl d_Mo_items_6 ?_
  exact ke_i (post := (fun r (u : Int32) => post r u)) (st := (fun (u : Int32) => wM K ad (sI S 0 u) ++ X)) (u := 0) C hr d_Mo_items_9 (wn_eq w rfl) hw
set_option maxHeartbeats 4000000 in
set_option maxRecDepth 100000 in
theorem c_Mo_least (l : Launch) (n0 : Nat) (G : va_G) (K : KT) (ad : Nat → Nat) (X : va_W) (S : ST) (p1 : Int32) (post : Int32 → Prop) (hw : wp_Mo_least S p1 post) : Met l y_Mo_least (Cond.code y_Mo_least prog_12_method_16_code 1 (some .int) :: gw) rm_Mo_least (va_Pc [.int p1] (wb n0 G K (wM K ad S ++ X))) (rq_i post) 0 0 (fun _ => False) := by
  refine kb_start (own := "LineBreakerModel") (by decide +kernel) rfl ?_
  intro p e s m below meth c C hr hne w
  have hx := C.1
  have hb := C.2.1
  have hts := C.2.2.2.2.1
  have hl := lv_entry ([.int p1]) (n := 1) (Nat.le_of_ble_eq_true rfl)
  rw [lg_entry_eq]
  generalize (lg_sl ([.int p1]) ++ List.replicate (1 - (lg_sl ([.int p1])).length) Slot.unset).toArray = ls at hl ⊢
  have hl : lv_has ls 1 [(0, .int p1)] := hl
  unfold wp_Mo_least at hw
  refine lv_iload_n hx hb d_Mo_least_0 rfl (lv_at hl 0 rfl) ?_
  refine lv_if_ne (tgt := 8) hx hb d_Mo_least_1 (by decide) (fun hc => ?_) (fun hc => ?_)
  · have hw := hw.1 hc
    refine lv_iload_n hx hb d_Mo_least_8 rfl (lv_at hl 0 rfl) ?_
    refine lv_iconst (v := 1) hx hb d_Mo_least_9 (by decide) ?_
    refine lv_icmp_eq (tgt := 19) hx hb d_Mo_least_10 (by decide) (fun hc => ?_) (fun hc => ?_)
    · have hw := hw.1 hc
      refine lv_iconst (v := 0) hx hb d_Mo_least_19 (by decide) ?_
      refine lv_goto (tgt := 47) hx hb d_Mo_least_20 (by decide) ?_
      exact kf_i C hr d_Mo_least_47 hw
    · have hw := hw.2 hc
      refine lv_iload_n hx hb d_Mo_least_13 rfl (lv_at hl 0 rfl) ?_
      refine lv_bipush (v := 8) hx hb d_Mo_least_14 (by decide) ?_
      refine lv_icmp_ne (tgt := 23) hx hb d_Mo_least_16 (by decide) (fun hc => ?_) (fun hc => ?_)
      · have hw := hw.1 hc
        refine lv_iload_n hx hb d_Mo_least_23 rfl (lv_at hl 0 rfl) ?_
        refine lv_iconst (v := 5) hx hb d_Mo_least_24 (by decide) ?_
        refine lv_icmp_ge (tgt := 34) hx hb d_Mo_least_25 (by decide) (fun hc => ?_) (fun hc => ?_)
        · have hw := hw.1 hc
          refine lv_iload_n hx hb d_Mo_least_34 rfl (lv_at hl 0 rfl) ?_
          refine lv_bipush (v := 8) hx hb d_Mo_least_35 (by decide) ?_
          refine lv_icmp_ge (tgt := 45) hx hb d_Mo_least_37 (by decide) (fun hc => ?_) (fun hc => ?_)
          · have hw := hw.1 hc
            refine lv_bipush (v := (-100)) hx hb d_Mo_least_45 (by decide) ?_
            exact kf_i C hr d_Mo_least_47 hw
          · have hw := hw.2 hc
            refine lv_ldc (v := (-1000000)) hx hb C.2.2.2.1 (hts _ kw_1070) d_Mo_least_40 ?_
            refine lv_goto (tgt := 47) hx hb d_Mo_least_42 (by decide) ?_
            exact kf_i C hr d_Mo_least_47 hw
        · have hw := hw.2 hc
          refine lv_sipush (v := (-10000)) hx hb d_Mo_least_28 (by decide) ?_
          refine lv_goto (tgt := 47) hx hb d_Mo_least_31 (by decide) ?_
          exact kf_i C hr d_Mo_least_47 hw
      · have hw := hw.2 hc
        refine lv_iconst (v := 0) hx hb d_Mo_least_19 (by decide) ?_
        refine lv_goto (tgt := 47) hx hb d_Mo_least_20 (by decide) ?_
        exact kf_i C hr d_Mo_least_47 hw
  · have hw := hw.2 hc
    refine lv_iconst (v := (-1)) hx hb d_Mo_least_4 (by decide) ?_
    refine lv_goto (tgt := 47) hx hb d_Mo_least_5 (by decide) ?_
    exact kf_i C hr d_Mo_least_47 hw
set_option maxHeartbeats 4000000 in
set_option maxRecDepth 100000 in
theorem c_Mo_most (l : Launch) (n0 : Nat) (G : va_G) (K : KT) (ad : Nat → Nat) (X : va_W) (S : ST) (p1 : Int32) (post : Int32 → Prop) (hw : wp_Mo_most S p1 post) : Met l y_Mo_most (Cond.code y_Mo_most prog_12_method_17_code 1 (some .int) :: gw) rm_Mo_most (va_Pc [.int p1] (wb n0 G K (wM K ad S ++ X))) (rq_i post) 0 0 (fun _ => False) := by
  refine kb_start (own := "LineBreakerModel") (by decide +kernel) rfl ?_
  intro p e s m below meth c C hr hne w
  have hx := C.1
  have hb := C.2.1
  have hts := C.2.2.2.2.1
  have hl := lv_entry ([.int p1]) (n := 1) (Nat.le_of_ble_eq_true rfl)
  rw [lg_entry_eq]
  generalize (lg_sl ([.int p1]) ++ List.replicate (1 - (lg_sl ([.int p1])).length) Slot.unset).toArray = ls at hl ⊢
  have hl : lv_has ls 1 [(0, .int p1)] := hl
  unfold wp_Mo_most at hw
  refine lv_iload_n hx hb d_Mo_most_0 rfl (lv_at hl 0 rfl) ?_
  refine lv_iconst (v := 5) hx hb d_Mo_most_1 (by decide) ?_
  refine lv_icmp_ge (tgt := 11) hx hb d_Mo_most_2 (by decide) (fun hc => ?_) (fun hc => ?_)
  · have hw := hw.1 hc
    refine lv_iload_n hx hb d_Mo_most_11 rfl (lv_at hl 0 rfl) ?_
    refine lv_bipush (v := 8) hx hb d_Mo_most_12 (by decide) ?_
    refine lv_icmp_ge (tgt := 22) hx hb d_Mo_most_14 (by decide) (fun hc => ?_) (fun hc => ?_)
    · have hw := hw.1 hc
      refine lv_iload_n hx hb d_Mo_most_22 rfl (lv_at hl 0 rfl) ?_
      refine lv_bipush (v := 8) hx hb d_Mo_most_23 (by decide) ?_
      refine lv_icmp_ne (tgt := 33) hx hb d_Mo_most_25 (by decide) (fun hc => ?_) (fun hc => ?_)
      · have hw := hw.1 hc
        refine lv_bipush (v := 100) hx hb d_Mo_most_33 (by decide) ?_
        exact kf_i C hr d_Mo_most_35 hw
      · have hw := hw.2 hc
        refine lv_ldc (v := 1073741823) hx hb C.2.2.2.1 (hts _ kw_1034) d_Mo_most_28 ?_
        refine lv_goto (tgt := 35) hx hb d_Mo_most_30 (by decide) ?_
        exact kf_i C hr d_Mo_most_35 hw
    · have hw := hw.2 hc
      refine lv_ldc (v := 1000000) hx hb C.2.2.2.1 (hts _ kw_1074) d_Mo_most_17 ?_
      refine lv_goto (tgt := 35) hx hb d_Mo_most_19 (by decide) ?_
      exact kf_i C hr d_Mo_most_35 hw
  · have hw := hw.2 hc
    refine lv_sipush (v := 10000) hx hb d_Mo_most_5 (by decide) ?_
    refine lv_goto (tgt := 35) hx hb d_Mo_most_8 (by decide) ?_
    exact kf_i C hr d_Mo_most_35 hw
set_option maxHeartbeats 4000000 in
set_option maxRecDepth 100000 in
theorem w_Mo_set_32 {S : ST} {post : (Nat → Int32) → Int32 → Prop} (C : cx p s m args meth c prog_12_method_18_code 3 "LineBreakerModel" n0 G K) (hr : meth.sig.returnType = none) : ∀ (x1 : Int32) (x2 : Int32) (z1 : Int32), wl_Mo_set_32 S post x1 x2 z1 → ∀ (H : Heap) (locs : List Loc) (ls : Array Slot), wn n0 G (wM K ad S ++ X) s H locs → lv_has ls 3 [(0, .ref (ad 0)), (1, .int x1), (2, .int x2)] → W p l e rm_Mo_set s m args below meth c H locs 0 0 (MQ below (va_Qv (fun (u : (Nat → Int32) × Int32) => post u.1 u.2) (fun (u : (Nat → Int32) × Int32) t => we n0 G (wM K ad (sI (sA S 9 u.1) 0 u.2) ++ X) t) (al n0)) args s 0 0 (al n0)) (F0 m 32 ls [.int z1, .ref (ad 0)]) := by
  have hx := C.1
  have hb := C.2.1
  have hts := C.2.2.2.2.1
  intro x1 x2 z1 hw H locs ls w hl
  unfold wl_Mo_set_32 at hw
  refine kp (C1 := R_Mo) (T := F_Mo) (N := 43) (ci := 10) (ty0 := t_Mo) (ref := "LineBreakerModel") (w2 := wM K ad (sI S 0 z1) ++ X) C w 0 0 iw_Mo tk_Mo n_Mo rfl rfl (by decide) kw_877 rfl rfl rfl rfl (Nat.le_of_ble_eq_true rfl) rfl d_Mo_set_32 (fun H locs w => ?_)
  refine lv_aload_n hx hb d_Mo_set_35 rfl (lv_at hl 0 rfl) ?_
  refine kg (C1 := R_Mo) (T := F_Mo) (N := 43) (ci := 10) (ref := "LineBreakerModel") (v := .int z1) C w 0 0 iw_Mo rfl rfl (by decide) kw_877 rfl rfl d_Mo_set_36 ?_
  refine lv_if_ne (tgt := 49) hx hb d_Mo_set_39 (by decide) (fun hc => ?_) (fun hc => ?_)
  · have hw := hw.1 hc
    exact ke_v (post := (fun (u : (Nat → Int32) × Int32) => post u.1 u.2)) (st := (fun (u : (Nat → Int32) × Int32) => wM K ad (sI (sA S 9 u.1) 0 u.2) ++ X)) (u := ((S.1 9), z1)) C hr d_Mo_set_49 (wn_eq w rfl) hw
  · have hw := hw.2 hc
    refine lv_aload_n hx hb d_Mo_set_42 rfl (lv_at hl 0 rfl) ?_
    refine kg (C1 := R_Mo) (T := F_Mo) (N := 43) (ci := 10) (ref := "LineBreakerModel") (v := .ref (ad 9)) C w 0 10 iw_Mo rfl rfl (by decide) kw_887 rfl rfl d_Mo_set_43 ?_
    refine lv_iload_n hx hb d_Mo_set_46 rfl (lv_at hl 1 rfl) ?_
    refine lv_iload_n hx hb d_Mo_set_47 rfl (lv_at hl 2 rfl) ?_
    obtain ⟨f1, ef1⟩ : ∃ z : Nat → Int32, z = upd (S.1 9) x1.toNatClampNeg x2 := ⟨_, rfl⟩
    refine ks_i (f := (S.1 9)) (w2 := wM K ad (sI (sA S 9 f1) 0 z1) ++ X) C w 9 rfl hw.1 (by rw [← ef1]; rfl) d_Mo_set_48 (fun H locs w => ?_)
    have hw := hw.2 f1 ef1
    exact ke_v (post := (fun (u : (Nat → Int32) × Int32) => post u.1 u.2)) (st := (fun (u : (Nat → Int32) × Int32) => wM K ad (sI (sA S 9 u.1) 0 u.2) ++ X)) (u := (f1, z1)) C hr d_Mo_set_49 (wn_eq w rfl) hw
set_option maxHeartbeats 4000000 in
set_option maxRecDepth 100000 in
theorem w_Mo_set_27 {S : ST} {post : (Nat → Int32) → Int32 → Prop} (C : cx p s m args meth c prog_12_method_18_code 3 "LineBreakerModel" n0 G K) (hr : meth.sig.returnType = none) : ∀ (x1 : Int32) (x2 : Int32), wl_Mo_set_27 S post x1 x2 → ∀ (H : Heap) (locs : List Loc) (ls : Array Slot), wn n0 G (wM K ad S ++ X) s H locs → lv_has ls 3 [(0, .ref (ad 0)), (1, .int x1), (2, .int x2)] → W p l e rm_Mo_set s m args below meth c H locs 0 0 (MQ below (va_Qv (fun (u : (Nat → Int32) × Int32) => post u.1 u.2) (fun (u : (Nat → Int32) × Int32) t => we n0 G (wM K ad (sI (sA S 9 u.1) 0 u.2) ++ X) t) (al n0)) args s 0 0 (al n0)) (F0 m 27 ls [.ref (ad 0)]) := by
  have hx := C.1
  have hb := C.2.1
  have hts := C.2.2.2.2.1
  intro x1 x2 hw H locs ls w hl
  unfold wl_Mo_set_27 at hw
  refine lv_iconst (v := 1) hx hb d_Mo_set_27 (by decide) ?_
  refine lv_goto (tgt := 32) hx hb d_Mo_set_28 (by decide) ?_
  exact w_Mo_set_32 C hr  x1 x2 1 hw _ _ _ (wn_eq w rfl) (lv_sub hl [0, 1, 2] rfl)
set_option maxHeartbeats 4000000 in
set_option maxRecDepth 100000 in
theorem c_Mo_set (l : Launch) (n0 : Nat) (G : va_G) (K : KT) (ad : Nat → Nat) (X : va_W) (S : ST) (p1 : Int32) (p2 : Int32) (post : (Nat → Int32) → Int32 → Prop) (hw : wp_Mo_set S p1 p2 post) : Met l y_Mo_set (Cond.code y_Mo_set prog_12_method_18_code 3 none :: gw) rm_Mo_set (va_Pc [.ref (ad 0), .int p1, .int p2] (wb n0 G K (wM K ad S ++ X))) (va_Qv (fun (u : (Nat → Int32) × Int32) => post u.1 u.2) (fun (u : (Nat → Int32) × Int32) t => we n0 G (wM K ad (sI (sA S 9 u.1) 0 u.2) ++ X) t) (al n0)) 0 0 (al n0) := by
  refine kb_start (own := "LineBreakerModel") (by decide +kernel) rfl ?_
  intro p e s m below meth c C hr hne w
  have hx := C.1
  have hb := C.2.1
  have hts := C.2.2.2.2.1
  have hl := lv_entry ([.ref (ad 0), .int p1, .int p2]) (n := 3) (Nat.le_of_ble_eq_true rfl)
  rw [lg_entry_eq]
  generalize (lg_sl ([.ref (ad 0), .int p1, .int p2]) ++ List.replicate (3 - (lg_sl ([.ref (ad 0), .int p1, .int p2])).length) Slot.unset).toArray = ls at hl ⊢
  have hl : lv_has ls 3 [(0, .ref (ad 0)), (1, .int p1), (2, .int p2)] := hl
  unfold wp_Mo_set at hw
  refine lv_aload_n hx hb d_Mo_set_0 rfl (lv_at hl 0 rfl) ?_
  refine lv_iload_n hx hb d_Mo_set_1 rfl (lv_at hl 1 rfl) ?_
  refine lv_if_lt (tgt := 27) hx hb d_Mo_set_2 (by decide) (fun hc => ?_) (fun hc => ?_)
  · have hw := hw.1 hc
    exact w_Mo_set_27 C hr  p1 p2 hw _ _ _ (wn_eq w rfl) (lv_sub hl [0, 1, 2] rfl)
  · have hw := hw.2 hc
    refine lv_iload_n hx hb d_Mo_set_5 rfl (lv_at hl 1 rfl) ?_
    refine lv_bipush (v := 9) hx hb d_Mo_set_6 (by decide) ?_
    refine lv_icmp_gt (tgt := 27) hx hb d_Mo_set_8 (by decide) (fun hc => ?_) (fun hc => ?_)
    · have hw := hw.1 hc
      exact w_Mo_set_27 C hr  p1 p2 hw _ _ _ (wn_eq w rfl) (lv_sub hl [0, 1, 2] rfl)
    · have hw := hw.2 hc
      refine lv_iload_n hx hb d_Mo_set_11 rfl (lv_at hl 2 rfl) ?_
      refine lv_iload_n hx hb d_Mo_set_12 rfl (lv_at hl 1 rfl) ?_
      refine kd_i (kr_S (y := y_Mo_least) (As := [.int p1]) (n := 1) C w (c_Mo_least l n0 G K ad X S p1 _ hw) (gw_S kw_1067 kw_1068 kw_11 kw_1069) (by decide +kernel) rfl rfl ⟨Nat.le_of_ble_eq_true rfl, Nat.le_of_ble_eq_true rfl⟩ rfl hl.1 rfl (Nat.le_of_ble_eq_true rfl) d_Mo_set_13 ⟨Nat.le_of_ble_eq_true rfl, Nat.le_of_ble_eq_true rfl⟩) (fun r1 hw => ?_)
      refine lv_icmp_lt (tgt := 27) hx hb d_Mo_set_16 (by decide) (fun hc => ?_) (fun hc => ?_)
      · have hw := hw.1 hc
        exact w_Mo_set_27 C hr  p1 p2 hw _ _ _ (wn_eq w rfl) (lv_sub hl [0, 1, 2] rfl)
      · have hw := hw.2 hc
        refine lv_iload_n hx hb d_Mo_set_19 rfl (lv_at hl 2 rfl) ?_
        refine lv_iload_n hx hb d_Mo_set_20 rfl (lv_at hl 1 rfl) ?_
        refine kd_i (kr_S (y := y_Mo_most) (As := [.int p1]) (n := 1) C w (c_Mo_most l n0 G K ad X S p1 _ hw) (gw_S kw_1071 kw_1072 kw_11 kw_1073) (by decide +kernel) rfl rfl ⟨Nat.le_of_ble_eq_true rfl, Nat.le_of_ble_eq_true rfl⟩ rfl hl.1 rfl (Nat.le_of_ble_eq_true rfl) d_Mo_set_21 ⟨Nat.le_of_ble_eq_true rfl, Nat.le_of_ble_eq_true rfl⟩) (fun r2 hw => ?_)
        refine lv_icmp_le (tgt := 31) hx hb d_Mo_set_24 (by decide) (fun hc => ?_) (fun hc => ?_)
        · have hw := hw.1 hc
          refine lv_iconst (v := 0) hx hb d_Mo_set_31 (by decide) ?_
          exact w_Mo_set_32 C hr  p1 p2 0 hw _ _ _ (wn_eq w rfl) (lv_sub hl [0, 1, 2] rfl)
        · have hw := hw.2 hc
          exact w_Mo_set_27 C hr  p1 p2 hw _ _ _ (wn_eq w rfl) (lv_sub hl [0, 1, 2] rfl)
set_option maxHeartbeats 4000000 in
set_option maxRecDepth 100000 in
theorem w_Mo_wide_29 {S : ST} {post : (Nat → Int32) → Int32 → Prop} (C : cx p s m args meth c prog_12_method_19_code 4 "LineBreakerModel" n0 G K) (hr : meth.sig.returnType = none) : ∀ (n : Nat) (a10 : (Nat → Int32)) (i0 : Int32) (x2 : Int32) (x3 : Int32), wl_Mo_wide_29 S post n a10 i0 x2 x3 → ∀ (H : Heap) (locs : List Loc) (ls : Array Slot), wn n0 G (wM K ad (sI (sA S 10 a10) 0 i0) ++ X) s H locs → lv_has ls 4 [(0, .ref (ad 0)), (2, .int x2), (3, .int x3)] → W p l e rm_Mo_wide s m args below meth c H locs 0 0 (MQ below (va_Qv (fun (u : (Nat → Int32) × Int32) => post u.1 u.2) (fun (u : (Nat → Int32) × Int32) t => we n0 G (wM K ad (sI (sA S 10 u.1) 0 u.2) ++ X) t) (al n0)) args s 0 0 (al n0)) (F0 m 29 ls []) := by
  have hx := C.1
  have hb := C.2.1
  have hts := C.2.2.2.2.1
  intro n
  induction n with
  | zero =>
    intro a10 i0 x2 x3 hw
    unfold wl_Mo_wide_29 at hw
    exact hw.elim
  | succ n ih =>
    intro a10 i0 x2 x3 hw H locs ls w hl
    unfold wl_Mo_wide_29 at hw
    refine lv_iload_n hx hb d_Mo_wide_29 rfl (lv_at hl 2 rfl) ?_
    refine lv_bipush (v := 20) hx hb d_Mo_wide_30 (by decide) ?_
    refine lv_icmp_ge (tgt := 55) hx hb d_Mo_wide_32 (by decide) (fun hc => ?_) (fun hc => ?_)
    · have hw := hw.1 hc
      exact ke_v (post := (fun (u : (Nat → Int32) × Int32) => post u.1 u.2)) (st := (fun (u : (Nat → Int32) × Int32) => wM K ad (sI (sA S 10 u.1) 0 u.2) ++ X)) (u := (a10, i0)) C hr d_Mo_wide_55 (wn_eq w rfl) hw
    · have hw := hw.2 hc
      refine lv_aload_n hx hb d_Mo_wide_35 rfl (lv_at hl 0 rfl) ?_
      refine kg (C1 := R_Mo) (T := F_Mo) (N := 43) (ci := 10) (ref := "LineBreakerModel") (v := .int i0) C w 0 0 iw_Mo rfl rfl (by decide) kw_877 rfl rfl d_Mo_wide_36 ?_
      refine lv_if_ne (tgt := 55) hx hb d_Mo_wide_39 (by decide) (fun hc => ?_) (fun hc => ?_)
      · have hw := hw.1 hc
        exact ke_v (post := (fun (u : (Nat → Int32) × Int32) => post u.1 u.2)) (st := (fun (u : (Nat → Int32) × Int32) => wM K ad (sI (sA S 10 u.1) 0 u.2) ++ X)) (u := (a10, i0)) C hr d_Mo_wide_55 (wn_eq w rfl) hw
      · have hw := hw.2 hc
        refine lv_aload_n hx hb d_Mo_wide_42 rfl (lv_at hl 0 rfl) ?_
        refine kg (C1 := R_Mo) (T := F_Mo) (N := 43) (ci := 10) (ref := "LineBreakerModel") (v := .ref (ad 10)) C w 0 11 iw_Mo rfl rfl (by decide) kw_888 rfl rfl d_Mo_wide_43 ?_
        refine lv_iload_n hx hb d_Mo_wide_46 rfl (lv_at hl 2 rfl) ?_
        refine lv_iload_n hx hb d_Mo_wide_47 rfl (lv_at hl 1 rfl) ?_
        obtain ⟨f1, ef1⟩ : ∃ z : Nat → Int32, z = upd a10 x3.toNatClampNeg x2 := ⟨_, rfl⟩
        refine ks_i (f := a10) (w2 := wM K ad (sI (sA S 10 f1) 0 i0) ++ X) C w 10 rfl hw.1 (by rw [← ef1]; rfl) d_Mo_wide_48 (fun H locs w => ?_)
        have hw := hw.2 f1 ef1
        obtain ⟨v2, ev2⟩ : ∃ y : Int32, y = x3 + 1 := ⟨_, rfl⟩
        refine lv_iinc (v := v2) (lv' := [(3, .int v2), (0, .ref (ad 0)), (2, .int x2)]) hx hb d_Mo_wide_49 hl (k := 2) rfl (by rw [ev2]; rfl) (by decide) rfl (fun ls hl => ?_)
        have hw := hw v2 ev2
        refine lv_goto (tgt := 29) hx hb d_Mo_wide_52 (by decide) ?_
        exact ih f1 i0 x2 v2 hw _ _ _ (wn_eq w rfl) (lv_sub hl [1, 2, 0] rfl)
set_option maxHeartbeats 4000000 in
set_option maxRecDepth 100000 in
theorem c_Mo_wide (l : Launch) (n0 : Nat) (G : va_G) (K : KT) (ad : Nat → Nat) (X : va_W) (S : ST) (p1 : Int32) (p2 : Int32) (post : (Nat → Int32) → Int32 → Prop) (hw : wp_Mo_wide S p1 p2 post) : Met l y_Mo_wide (Cond.code y_Mo_wide prog_12_method_19_code 4 none :: gw) rm_Mo_wide (va_Pc [.ref (ad 0), .int p1, .int p2] (wb n0 G K (wM K ad S ++ X))) (va_Qv (fun (u : (Nat → Int32) × Int32) => post u.1 u.2) (fun (u : (Nat → Int32) × Int32) t => we n0 G (wM K ad (sI (sA S 10 u.1) 0 u.2) ++ X) t) (al n0)) 0 0 (al n0) := by
  refine kb_start (own := "LineBreakerModel") (by decide +kernel) rfl ?_
  intro p e s m below meth c C hr hne w
  have hx := C.1
  have hb := C.2.1
  have hts := C.2.2.2.2.1
  have hl := lv_entry ([.ref (ad 0), .int p1, .int p2]) (n := 4) (Nat.le_of_ble_eq_true rfl)
  rw [lg_entry_eq]
  generalize (lg_sl ([.ref (ad 0), .int p1, .int p2]) ++ List.replicate (4 - (lg_sl ([.ref (ad 0), .int p1, .int p2])).length) Slot.unset).toArray = ls at hl ⊢
  have hl : lv_has ls 4 [(0, .ref (ad 0)), (1, .int p1), (2, .int p2)] := hl
  unfold wp_Mo_wide at hw
  refine lv_aload_n hx hb d_Mo_wide_0 rfl (lv_at hl 0 rfl) ?_
  refine lv_iload_n hx hb d_Mo_wide_1 rfl (lv_at hl 1 rfl) ?_
  refine lv_if_lt (tgt := 19) hx hb d_Mo_wide_2 (by decide) (fun hc => ?_) (fun hc => ?_)
  · have hw := hw.1 hc
    refine lv_iconst (v := 1) hx hb d_Mo_wide_19 (by decide) ?_
    refine lv_goto (tgt := 24) hx hb d_Mo_wide_20 (by decide) ?_
    refine kp (C1 := R_Mo) (T := F_Mo) (N := 43) (ci := 10) (ty0 := t_Mo) (ref := "LineBreakerModel") (w2 := wM K ad (sI S 0 1) ++ X) C w 0 0 iw_Mo tk_Mo n_Mo rfl rfl (by decide) kw_877 rfl rfl rfl rfl (Nat.le_of_ble_eq_true rfl) rfl d_Mo_wide_24 (fun H locs w => ?_)
    refine lv_iload_n hx hb d_Mo_wide_27 rfl (lv_at hl 1 rfl) ?_
    refine lv_istore_n (lv' := [(3, .int p1), (0, .ref (ad 0)), (1, .int p1), (2, .int p2)]) hx hb d_Mo_wide_28 rfl hl (by decide) rfl (fun ls hl => ?_)
    obtain ⟨n9, hw⟩ := hw
    exact w_Mo_wide_29 C hr  n9 (S.1 10) 1 p2 p1 hw _ _ _ (wn_eq w rfl) (lv_sub hl [1, 3, 0] rfl)
  · have hw := hw.2 hc
    refine lv_iload_n hx hb d_Mo_wide_5 rfl (lv_at hl 1 rfl) ?_
    refine lv_bipush (v := 19) hx hb d_Mo_wide_6 (by decide) ?_
    refine lv_icmp_gt (tgt := 19) hx hb d_Mo_wide_8 (by decide) (fun hc => ?_) (fun hc => ?_)
    · have hw := hw.1 hc
      refine lv_iconst (v := 1) hx hb d_Mo_wide_19 (by decide) ?_
      refine lv_goto (tgt := 24) hx hb d_Mo_wide_20 (by decide) ?_
      refine kp (C1 := R_Mo) (T := F_Mo) (N := 43) (ci := 10) (ty0 := t_Mo) (ref := "LineBreakerModel") (w2 := wM K ad (sI S 0 1) ++ X) C w 0 0 iw_Mo tk_Mo n_Mo rfl rfl (by decide) kw_877 rfl rfl rfl rfl (Nat.le_of_ble_eq_true rfl) rfl d_Mo_wide_24 (fun H locs w => ?_)
      refine lv_iload_n hx hb d_Mo_wide_27 rfl (lv_at hl 1 rfl) ?_
      refine lv_istore_n (lv' := [(3, .int p1), (0, .ref (ad 0)), (1, .int p1), (2, .int p2)]) hx hb d_Mo_wide_28 rfl hl (by decide) rfl (fun ls hl => ?_)
      obtain ⟨n9, hw⟩ := hw
      exact w_Mo_wide_29 C hr  n9 (S.1 10) 1 p2 p1 hw _ _ _ (wn_eq w rfl) (lv_sub hl [1, 3, 0] rfl)
    · have hw := hw.2 hc
      refine lv_iload_n hx hb d_Mo_wide_11 rfl (lv_at hl 2 rfl) ?_
      refine lv_i2l hx hb d_Mo_wide_12 rfl ?_
      refine kd_i (kr_S (y := y_Mo_isSize) (As := [.long (p2.toInt64)]) (n := 1) C w (c_Mo_isSize l n0 G K ad X S (p2.toInt64) _ hw) (gw_S kw_1015 kw_1016 kw_11 kw_1017) (by decide +kernel) rfl rfl ⟨Nat.le_of_ble_eq_true rfl, Nat.le_of_ble_eq_true rfl⟩ rfl hl.1 rfl (Nat.le_of_ble_eq_true rfl) d_Mo_wide_13 ⟨Nat.le_of_ble_eq_true rfl, Nat.le_of_ble_eq_true rfl⟩) (fun r1 hw => ?_)
      refine lv_if_ne (tgt := 23) hx hb d_Mo_wide_16 (by decide) (fun hc => ?_) (fun hc => ?_)
      · have hw := hw.1 hc
        refine lv_iconst (v := 0) hx hb d_Mo_wide_23 (by decide) ?_
        refine kp (C1 := R_Mo) (T := F_Mo) (N := 43) (ci := 10) (ty0 := t_Mo) (ref := "LineBreakerModel") (w2 := wM K ad (sI S 0 0) ++ X) C w 0 0 iw_Mo tk_Mo n_Mo rfl rfl (by decide) kw_877 rfl rfl rfl rfl (Nat.le_of_ble_eq_true rfl) rfl d_Mo_wide_24 (fun H locs w => ?_)
        refine lv_iload_n hx hb d_Mo_wide_27 rfl (lv_at hl 1 rfl) ?_
        refine lv_istore_n (lv' := [(3, .int p1), (0, .ref (ad 0)), (1, .int p1), (2, .int p2)]) hx hb d_Mo_wide_28 rfl hl (by decide) rfl (fun ls hl => ?_)
        obtain ⟨n9, hw⟩ := hw
        exact w_Mo_wide_29 C hr  n9 (S.1 10) 0 p2 p1 hw _ _ _ (wn_eq w rfl) (lv_sub hl [1, 3, 0] rfl)
      · have hw := hw.2 hc
        refine lv_iconst (v := 1) hx hb d_Mo_wide_19 (by decide) ?_
        refine lv_goto (tgt := 24) hx hb d_Mo_wide_20 (by decide) ?_
        refine kp (C1 := R_Mo) (T := F_Mo) (N := 43) (ci := 10) (ty0 := t_Mo) (ref := "LineBreakerModel") (w2 := wM K ad (sI S 0 1) ++ X) C w 0 0 iw_Mo tk_Mo n_Mo rfl rfl (by decide) kw_877 rfl rfl rfl rfl (Nat.le_of_ble_eq_true rfl) rfl d_Mo_wide_24 (fun H locs w => ?_)
        refine lv_iload_n hx hb d_Mo_wide_27 rfl (lv_at hl 1 rfl) ?_
        refine lv_istore_n (lv' := [(3, .int p1), (0, .ref (ad 0)), (1, .int p1), (2, .int p2)]) hx hb d_Mo_wide_28 rfl hl (by decide) rfl (fun ls hl => ?_)
        obtain ⟨n9, hw⟩ := hw
        exact w_Mo_wide_29 C hr  n9 (S.1 10) 1 p2 p1 hw _ _ _ (wn_eq w rfl) (lv_sub hl [1, 3, 0] rfl)
set_option maxHeartbeats 4000000 in
set_option maxRecDepth 100000 in
theorem w_Mo_around_27 {S : ST} {post : (Nat → Int32) → (Nat → Int32) → (Nat → Int32) → (Nat → Int32) → Int32 → Prop} (C : cx p s m args meth c prog_12_method_20_code 6 "LineBreakerModel" n0 G K) (hr : meth.sig.returnType = none) : ∀ (x1 : Int32) (x2 : Int32) (x3 : Int32) (x4 : Int32) (x5 : Int32) (z1 : Int32), wl_Mo_around_27 S post x1 x2 x3 x4 x5 z1 → ∀ (H : Heap) (locs : List Loc) (ls : Array Slot), wn n0 G (wM K ad S ++ X) s H locs → lv_has ls 6 [(0, .ref (ad 0)), (1, .int x1), (2, .int x2), (3, .int x3), (4, .int x4), (5, .int x5)] → W p l e rm_Mo_around s m args below meth c H locs 0 0 (MQ below (va_Qv (fun (u : (Nat → Int32) × (Nat → Int32) × (Nat → Int32) × (Nat → Int32) × Int32) => post u.1 u.2.1 u.2.2.1 u.2.2.2.1 u.2.2.2.2) (fun (u : (Nat → Int32) × (Nat → Int32) × (Nat → Int32) × (Nat → Int32) × Int32) t => we n0 G (wM K ad (sI (sA (sA (sA (sA S 11 u.1) 12 u.2.1) 13 u.2.2.1) 14 u.2.2.2.1) 0 u.2.2.2.2) ++ X) t) (al n0)) args s 0 0 (al n0)) (F0 m 27 ls [.int z1, .ref (ad 0)]) := by
  have hx := C.1
  have hb := C.2.1
  have hts := C.2.2.2.2.1
  intro x1 x2 x3 x4 x5 z1 hw H locs ls w hl
  unfold wl_Mo_around_27 at hw
  refine kp (C1 := R_Mo) (T := F_Mo) (N := 43) (ci := 10) (ty0 := t_Mo) (ref := "LineBreakerModel") (w2 := wM K ad (sI S 0 z1) ++ X) C w 0 0 iw_Mo tk_Mo n_Mo rfl rfl (by decide) kw_877 rfl rfl rfl rfl (Nat.le_of_ble_eq_true rfl) rfl d_Mo_around_27 (fun H locs w => ?_)
  refine lv_aload_n hx hb d_Mo_around_30 rfl (lv_at hl 0 rfl) ?_
  refine kg (C1 := R_Mo) (T := F_Mo) (N := 43) (ci := 10) (ref := "LineBreakerModel") (v := .int z1) C w 0 0 iw_Mo rfl rfl (by decide) kw_877 rfl rfl d_Mo_around_31 ?_
  refine lv_if_ne (tgt := 67) hx hb d_Mo_around_34 (by decide) (fun hc => ?_) (fun hc => ?_)
  · have hw := hw.1 hc
    exact ke_v (post := (fun (u : (Nat → Int32) × (Nat → Int32) × (Nat → Int32) × (Nat → Int32) × Int32) => post u.1 u.2.1 u.2.2.1 u.2.2.2.1 u.2.2.2.2)) (st := (fun (u : (Nat → Int32) × (Nat → Int32) × (Nat → Int32) × (Nat → Int32) × Int32) => wM K ad (sI (sA (sA (sA (sA S 11 u.1) 12 u.2.1) 13 u.2.2.1) 14 u.2.2.2.1) 0 u.2.2.2.2) ++ X)) (u := ((S.1 11), (S.1 12), (S.1 13), (S.1 14), z1)) C hr d_Mo_around_67 (wn_eq w rfl) hw
  · have hw := hw.2 hc
    refine lv_aload_n hx hb d_Mo_around_37 rfl (lv_at hl 0 rfl) ?_
    refine kg (C1 := R_Mo) (T := F_Mo) (N := 43) (ci := 10) (ref := "LineBreakerModel") (v := .ref (ad 11)) C w 0 12 iw_Mo rfl rfl (by decide) kw_889 rfl rfl d_Mo_around_38 ?_
    refine lv_iload_n hx hb d_Mo_around_41 rfl (lv_at hl 1 rfl) ?_
    refine lv_iload_n hx hb d_Mo_around_42 rfl (lv_at hl 2 rfl) ?_
    obtain ⟨f1, ef1⟩ : ∃ z : Nat → Int32, z = upd (S.1 11) x1.toNatClampNeg x2 := ⟨_, rfl⟩
    refine ks_i (f := (S.1 11)) (w2 := wM K ad (sI (sA S 11 f1) 0 z1) ++ X) C w 11 rfl hw.1 (by rw [← ef1]; rfl) d_Mo_around_43 (fun H locs w => ?_)
    have hw := hw.2 f1 ef1
    refine lv_aload_n hx hb d_Mo_around_44 rfl (lv_at hl 0 rfl) ?_
    refine kg (C1 := R_Mo) (T := F_Mo) (N := 43) (ci := 10) (ref := "LineBreakerModel") (v := .ref (ad 12)) C w 0 13 iw_Mo rfl rfl (by decide) kw_890 rfl rfl d_Mo_around_45 ?_
    refine lv_iload_n hx hb d_Mo_around_48 rfl (lv_at hl 1 rfl) ?_
    refine lv_iload_n hx hb d_Mo_around_49 rfl (lv_at hl 3 rfl) ?_
    obtain ⟨f2, ef2⟩ : ∃ z : Nat → Int32, z = upd (S.1 12) x1.toNatClampNeg x3 := ⟨_, rfl⟩
    refine ks_i (f := (S.1 12)) (w2 := wM K ad (sI (sA (sA S 11 f1) 12 f2) 0 z1) ++ X) C w 12 rfl hw.1 (by rw [← ef2]; rfl) d_Mo_around_50 (fun H locs w => ?_)
    have hw := hw.2 f2 ef2
    refine lv_aload_n hx hb d_Mo_around_51 rfl (lv_at hl 0 rfl) ?_
    refine kg (C1 := R_Mo) (T := F_Mo) (N := 43) (ci := 10) (ref := "LineBreakerModel") (v := .ref (ad 13)) C w 0 14 iw_Mo rfl rfl (by decide) kw_891 rfl rfl d_Mo_around_52 ?_
    refine lv_iload_n hx hb d_Mo_around_55 rfl (lv_at hl 1 rfl) ?_
    refine lv_iload hx hb d_Mo_around_56 (lv_at hl 4 rfl) ?_
    obtain ⟨f3, ef3⟩ : ∃ z : Nat → Int32, z = upd (S.1 13) x1.toNatClampNeg x4 := ⟨_, rfl⟩
    refine ks_i (f := (S.1 13)) (w2 := wM K ad (sI (sA (sA (sA S 11 f1) 12 f2) 13 f3) 0 z1) ++ X) C w 13 rfl hw.1 (by rw [← ef3]; rfl) d_Mo_around_58 (fun H locs w => ?_)
    have hw := hw.2 f3 ef3
    refine lv_aload_n hx hb d_Mo_around_59 rfl (lv_at hl 0 rfl) ?_
    refine kg (C1 := R_Mo) (T := F_Mo) (N := 43) (ci := 10) (ref := "LineBreakerModel") (v := .ref (ad 14)) C w 0 15 iw_Mo rfl rfl (by decide) kw_892 rfl rfl d_Mo_around_60 ?_
    refine lv_iload_n hx hb d_Mo_around_63 rfl (lv_at hl 1 rfl) ?_
    refine lv_iload hx hb d_Mo_around_64 (lv_at hl 5 rfl) ?_
    obtain ⟨f4, ef4⟩ : ∃ z : Nat → Int32, z = upd (S.1 14) x1.toNatClampNeg x5 := ⟨_, rfl⟩
    refine ks_i (f := (S.1 14)) (w2 := wM K ad (sI (sA (sA (sA (sA S 11 f1) 12 f2) 13 f3) 14 f4) 0 z1) ++ X) C w 14 rfl hw.1 (by rw [← ef4]; rfl) d_Mo_around_66 (fun H locs w => ?_)
    have hw := hw.2 f4 ef4
    exact ke_v (post := (fun (u : (Nat → Int32) × (Nat → Int32) × (Nat → Int32) × (Nat → Int32) × Int32) => post u.1 u.2.1 u.2.2.1 u.2.2.2.1 u.2.2.2.2)) (st := (fun (u : (Nat → Int32) × (Nat → Int32) × (Nat → Int32) × (Nat → Int32) × Int32) => wM K ad (sI (sA (sA (sA (sA S 11 u.1) 12 u.2.1) 13 u.2.2.1) 14 u.2.2.2.1) 0 u.2.2.2.2) ++ X)) (u := (f1, f2, f3, f4, z1)) C hr d_Mo_around_67 (wn_eq w rfl) hw
set_option maxHeartbeats 4000000 in
set_option maxRecDepth 100000 in
theorem w_Mo_around_22 {S : ST} {post : (Nat → Int32) → (Nat → Int32) → (Nat → Int32) → (Nat → Int32) → Int32 → Prop} (C : cx p s m args meth c prog_12_method_20_code 6 "LineBreakerModel" n0 G K) (hr : meth.sig.returnType = none) : ∀ (x1 : Int32) (x2 : Int32) (x3 : Int32) (x4 : Int32) (x5 : Int32), wl_Mo_around_22 S post x1 x2 x3 x4 x5 → ∀ (H : Heap) (locs : List Loc) (ls : Array Slot), wn n0 G (wM K ad S ++ X) s H locs → lv_has ls 6 [(0, .ref (ad 0)), (1, .int x1), (2, .int x2), (3, .int x3), (4, .int x4), (5, .int x5)] → W p l e rm_Mo_around s m args below meth c H locs 0 0 (MQ below (va_Qv (fun (u : (Nat → Int32) × (Nat → Int32) × (Nat → Int32) × (Nat → Int32) × Int32) => post u.1 u.2.1 u.2.2.1 u.2.2.2.1 u.2.2.2.2) (fun (u : (Nat → Int32) × (Nat → Int32) × (Nat → Int32) × (Nat → Int32) × Int32) t => we n0 G (wM K ad (sI (sA (sA (sA (sA S 11 u.1) 12 u.2.1) 13 u.2.2.1) 14 u.2.2.2.1) 0 u.2.2.2.2) ++ X) t) (al n0)) args s 0 0 (al n0)) (F0 m 22 ls [.ref (ad 0)]) := by
  have hx := C.1
  have hb := C.2.1
  have hts := C.2.2.2.2.1
  intro x1 x2 x3 x4 x5 hw H locs ls w hl
  unfold wl_Mo_around_22 at hw
  refine lv_iconst (v := 1) hx hb d_Mo_around_22 (by decide) ?_
  refine lv_goto (tgt := 27) hx hb d_Mo_around_23 (by decide) ?_
  exact w_Mo_around_27 C hr  x1 x2 x3 x4 x5 1 hw _ _ _ (wn_eq w rfl) (lv_sub hl [0, 1, 2, 3, 4, 5] rfl)
set_option maxHeartbeats 4000000 in
set_option maxRecDepth 100000 in
theorem c_Mo_around (l : Launch) (n0 : Nat) (G : va_G) (K : KT) (ad : Nat → Nat) (X : va_W) (S : ST) (p1 : Int32) (p2 : Int32) (p3 : Int32) (p4 : Int32) (p5 : Int32) (post : (Nat → Int32) → (Nat → Int32) → (Nat → Int32) → (Nat → Int32) → Int32 → Prop) (hw : wp_Mo_around S p1 p2 p3 p4 p5 post) : Met l y_Mo_around (Cond.code y_Mo_around prog_12_method_20_code 6 none :: gw) rm_Mo_around (va_Pc [.ref (ad 0), .int p1, .int p2, .int p3, .int p4, .int p5] (wb n0 G K (wM K ad S ++ X))) (va_Qv (fun (u : (Nat → Int32) × (Nat → Int32) × (Nat → Int32) × (Nat → Int32) × Int32) => post u.1 u.2.1 u.2.2.1 u.2.2.2.1 u.2.2.2.2) (fun (u : (Nat → Int32) × (Nat → Int32) × (Nat → Int32) × (Nat → Int32) × Int32) t => we n0 G (wM K ad (sI (sA (sA (sA (sA S 11 u.1) 12 u.2.1) 13 u.2.2.1) 14 u.2.2.2.1) 0 u.2.2.2.2) ++ X) t) (al n0)) 0 0 (al n0) := by
  refine kb_start (own := "LineBreakerModel") (by decide +kernel) rfl ?_
  intro p e s m below meth c C hr hne w
  have hx := C.1
  have hb := C.2.1
  have hts := C.2.2.2.2.1
  have hl := lv_entry ([.ref (ad 0), .int p1, .int p2, .int p3, .int p4, .int p5]) (n := 6) (Nat.le_of_ble_eq_true rfl)
  rw [lg_entry_eq]
  generalize (lg_sl ([.ref (ad 0), .int p1, .int p2, .int p3, .int p4, .int p5]) ++ List.replicate (6 - (lg_sl ([.ref (ad 0), .int p1, .int p2, .int p3, .int p4, .int p5])).length) Slot.unset).toArray = ls at hl ⊢
  have hl : lv_has ls 6 [(0, .ref (ad 0)), (1, .int p1), (2, .int p2), (3, .int p3), (4, .int p4), (5, .int p5)] := hl
  unfold wp_Mo_around at hw
  refine lv_aload_n hx hb d_Mo_around_0 rfl (lv_at hl 0 rfl) ?_
  refine lv_iload_n hx hb d_Mo_around_1 rfl (lv_at hl 1 rfl) ?_
  refine lv_if_lt (tgt := 22) hx hb d_Mo_around_2 (by decide) (fun hc => ?_) (fun hc => ?_)
  · have hw := hw.1 hc
    exact w_Mo_around_22 C hr  p1 p2 p3 p4 p5 hw _ _ _ (wn_eq w rfl) (lv_sub hl [0, 1, 2, 3, 4, 5] rfl)
  · have hw := hw.2 hc
    refine lv_iload_n hx hb d_Mo_around_5 rfl (lv_at hl 1 rfl) ?_
    refine lv_iconst (v := 2) hx hb d_Mo_around_6 (by decide) ?_
    refine lv_icmp_gt (tgt := 22) hx hb d_Mo_around_7 (by decide) (fun hc => ?_) (fun hc => ?_)
    · have hw := hw.1 hc
      exact w_Mo_around_22 C hr  p1 p2 p3 p4 p5 hw _ _ _ (wn_eq w rfl) (lv_sub hl [0, 1, 2, 3, 4, 5] rfl)
    · have hw := hw.2 hc
      refine lv_iload_n hx hb d_Mo_around_10 rfl (lv_at hl 2 rfl) ?_
      refine lv_iload_n hx hb d_Mo_around_11 rfl (lv_at hl 3 rfl) ?_
      refine lv_iload hx hb d_Mo_around_12 (lv_at hl 4 rfl) ?_
      refine lv_iload hx hb d_Mo_around_14 (lv_at hl 5 rfl) ?_
      refine kd_i (kr_S (y := y_Mo_isGlue) (As := [.int p2, .int p3, .int p4, .int p5]) (n := 4) C w (c_Mo_isGlue l n0 G K ad X S p2 p3 p4 p5 _ hw) (gw_S kw_1028 kw_1029 kw_11 kw_1030) (by decide +kernel) rfl rfl ⟨Nat.le_of_ble_eq_true rfl, Nat.le_of_ble_eq_true rfl⟩ rfl hl.1 rfl (Nat.le_of_ble_eq_true rfl) d_Mo_around_16 ⟨Nat.le_of_ble_eq_true rfl, Nat.le_of_ble_eq_true rfl⟩) (fun r1 hw => ?_)
      refine lv_if_ne (tgt := 26) hx hb d_Mo_around_19 (by decide) (fun hc => ?_) (fun hc => ?_)
      · have hw := hw.1 hc
        refine lv_iconst (v := 0) hx hb d_Mo_around_26 (by decide) ?_
        exact w_Mo_around_27 C hr  p1 p2 p3 p4 p5 0 hw _ _ _ (wn_eq w rfl) (lv_sub hl [0, 1, 2, 3, 4, 5] rfl)
      · have hw := hw.2 hc
        exact w_Mo_around_22 C hr  p1 p2 p3 p4 p5 hw _ _ _ (wn_eq w rfl) (lv_sub hl [0, 1, 2, 3, 4, 5] rfl)
set_option maxHeartbeats 4000000 in
set_option maxRecDepth 100000 in
theorem c_Mo_isHyphen (l : Launch) (n0 : Nat) (G : va_G) (K : KT) (ad : Nat → Nat) (X : va_W) (S : ST) (p1 : Int32) (post : Int32 → Prop) (hw : wp_Mo_isHyphen S p1 post) : Met l y_Mo_isHyphen (Cond.code y_Mo_isHyphen prog_12_method_21_code 2 (some .boolean) :: gw) rm_Mo_isHyphen (va_Pc [.ref (ad 0), .int p1] (wb n0 G K (wM K ad S ++ X))) (rq_i post) 0 0 (fun _ => False) := by
  refine kb_start (own := "LineBreakerModel") (by decide +kernel) rfl ?_
  intro p e s m below meth c C hr hne w
  have hx := C.1
  have hb := C.2.1
  have hts := C.2.2.2.2.1
  have hl := lv_entry ([.ref (ad 0), .int p1]) (n := 2) (Nat.le_of_ble_eq_true rfl)
  rw [lg_entry_eq]
  generalize (lg_sl ([.ref (ad 0), .int p1]) ++ List.replicate (2 - (lg_sl ([.ref (ad 0), .int p1])).length) Slot.unset).toArray = ls at hl ⊢
  have hl : lv_has ls 2 [(0, .ref (ad 0)), (1, .int p1)] := hl
  unfold wp_Mo_isHyphen at hw
  refine lv_iload_n hx hb d_Mo_isHyphen_0 rfl (lv_at hl 1 rfl) ?_
  refine lv_if_lt (tgt := 18) hx hb d_Mo_isHyphen_1 (by decide) (fun hc => ?_) (fun hc => ?_)
  · have hw := hw.1 hc
    refine lv_iconst (v := 0) hx hb d_Mo_isHyphen_18 (by decide) ?_
    exact kf_z C hr d_Mo_isHyphen_19 (Or.inl rfl) hw
  · have hw := hw.2 hc
    refine lv_aload_n hx hb d_Mo_isHyphen_4 rfl (lv_at hl 0 rfl) ?_
    refine kg (C1 := R_Mo) (T := F_Mo) (N := 43) (ci := 10) (ref := "LineBreakerModel") (v := .ref (ad 1)) C w 0 2 iw_Mo rfl rfl (by decide) kw_879 rfl rfl d_Mo_isHyphen_5 ?_
    refine lv_iload_n hx hb d_Mo_isHyphen_8 rfl (lv_at hl 1 rfl) ?_
    refine ka_i (f := (S.1 1)) C w 1 rfl hw.1 d_Mo_isHyphen_9 ?_
    have hw := hw.2
    refine lv_iconst (v := 5) hx hb d_Mo_isHyphen_10 (by decide) ?_
    refine lv_icmp_ne (tgt := 18) hx hb d_Mo_isHyphen_11 (by decide) (fun hc => ?_) (fun hc => ?_)
    · have hw := hw.1 hc
      refine lv_iconst (v := 0) hx hb d_Mo_isHyphen_18 (by decide) ?_
      exact kf_z C hr d_Mo_isHyphen_19 (Or.inl rfl) hw
    · have hw := hw.2 hc
      refine lv_iconst (v := 1) hx hb d_Mo_isHyphen_14 (by decide) ?_
      refine lv_goto (tgt := 19) hx hb d_Mo_isHyphen_15 (by decide) ?_
      exact kf_z C hr d_Mo_isHyphen_19 (Or.inr rfl) hw
set_option maxHeartbeats 4000000 in
set_option maxRecDepth 100000 in
theorem c_Mo_fine (l : Launch) (n0 : Nat) (G : va_G) (K : KT) (ad : Nat → Nat) (X : va_W) (S : ST) (p1 : Int32) (post : Int32 → Prop) (hw : wp_Mo_fine S p1 post) : Met l y_Mo_fine (Cond.code y_Mo_fine prog_12_method_22_code 2 (some .int) :: gw) rm_Mo_fine (va_Pc [.ref (ad 0), .int p1] (wb n0 G K (wM K ad S ++ X))) (rq_i post) 0 0 (fun _ => False) := by
  refine kb_start (own := "LineBreakerModel") (by decide +kernel) rfl ?_
  intro p e s m below meth c C hr hne w
  have hx := C.1
  have hb := C.2.1
  have hts := C.2.2.2.2.1
  have hl := lv_entry ([.ref (ad 0), .int p1]) (n := 2) (Nat.le_of_ble_eq_true rfl)
  rw [lg_entry_eq]
  generalize (lg_sl ([.ref (ad 0), .int p1]) ++ List.replicate (2 - (lg_sl ([.ref (ad 0), .int p1])).length) Slot.unset).toArray = ls at hl ⊢
  have hl : lv_has ls 2 [(0, .ref (ad 0)), (1, .int p1)] := hl
  unfold wp_Mo_fine at hw
  refine lv_aload_n hx hb d_Mo_fine_0 rfl (lv_at hl 0 rfl) ?_
  refine kg (C1 := R_Mo) (T := F_Mo) (N := 43) (ci := 10) (ref := "LineBreakerModel") (v := .ref (ad 1)) C w 0 2 iw_Mo rfl rfl (by decide) kw_879 rfl rfl d_Mo_fine_1 ?_
  refine lv_iload_n hx hb d_Mo_fine_4 rfl (lv_at hl 1 rfl) ?_
  refine ka_i (f := (S.1 1)) C w 1 rfl hw.1 d_Mo_fine_5 ?_
  have hw := hw.2
  refine lv_iconst (v := 4) hx hb d_Mo_fine_6 (by decide) ?_
  refine lv_icmp_ne (tgt := 17) hx hb d_Mo_fine_7 (by decide) (fun hc => ?_) (fun hc => ?_)
  · have hw := hw.1 hc
    refine lv_aload_n hx hb d_Mo_fine_17 rfl (lv_at hl 0 rfl) ?_
    refine kg (C1 := R_Mo) (T := F_Mo) (N := 43) (ci := 10) (ref := "LineBreakerModel") (v := .ref (ad 1)) C w 0 2 iw_Mo rfl rfl (by decide) kw_879 rfl rfl d_Mo_fine_18 ?_
    refine lv_iload_n hx hb d_Mo_fine_21 rfl (lv_at hl 1 rfl) ?_
    refine ka_i (f := (S.1 1)) C w 1 rfl hw.1 d_Mo_fine_22 ?_
    have hw := hw.2
    refine lv_iconst (v := 5) hx hb d_Mo_fine_23 (by decide) ?_
    refine lv_icmp_eq (tgt := 31) hx hb d_Mo_fine_24 (by decide) (fun hc => ?_) (fun hc => ?_)
    · have hw := hw.1 hc
      refine lv_aload_n hx hb d_Mo_fine_31 rfl (lv_at hl 0 rfl) ?_
      refine kg (C1 := R_Mo) (T := F_Mo) (N := 43) (ci := 10) (ref := "LineBreakerModel") (v := .ref (ad 9)) C w 0 10 iw_Mo rfl rfl (by decide) kw_887 rfl rfl d_Mo_fine_32 ?_
      refine lv_aload_n hx hb d_Mo_fine_35 rfl (lv_at hl 0 rfl) ?_
      refine kg (C1 := R_Mo) (T := F_Mo) (N := 43) (ci := 10) (ref := "LineBreakerModel") (v := .ref (ad 6)) C w 0 7 iw_Mo rfl rfl (by decide) kw_884 rfl rfl d_Mo_fine_36 ?_
      refine lv_iload_n hx hb d_Mo_fine_39 rfl (lv_at hl 1 rfl) ?_
      refine ka_i (f := (S.1 6)) C w 6 rfl hw.1 d_Mo_fine_40 ?_
      have hw := hw.2
      refine lv_ldc (v := (-1073741824)) hx hb C.2.2.2.1 (hts _ kw_1054) d_Mo_fine_41 ?_
      refine lv_icmp_eq (tgt := 50) hx hb d_Mo_fine_43 (by decide) (fun hc => ?_) (fun hc => ?_)
      · have hw := hw.1 hc
        refine lv_iconst (v := 4) hx hb d_Mo_fine_50 (by decide) ?_
        refine ka_i (f := (S.1 9)) C w 9 rfl hw.1 d_Mo_fine_51 ?_
        have hw := hw.2
        exact kf_i C hr d_Mo_fine_52 hw
      · have hw := hw.2 hc
        refine lv_iconst (v := 3) hx hb d_Mo_fine_46 (by decide) ?_
        refine lv_goto (tgt := 51) hx hb d_Mo_fine_47 (by decide) ?_
        refine ka_i (f := (S.1 9)) C w 9 rfl hw.1 d_Mo_fine_51 ?_
        have hw := hw.2
        exact kf_i C hr d_Mo_fine_52 hw
    · have hw := hw.2 hc
      refine lv_iconst (v := 0) hx hb d_Mo_fine_27 (by decide) ?_
      refine lv_goto (tgt := 52) hx hb d_Mo_fine_28 (by decide) ?_
      exact kf_i C hr d_Mo_fine_52 hw
  · have hw := hw.2 hc
    refine lv_aload_n hx hb d_Mo_fine_10 rfl (lv_at hl 0 rfl) ?_
    refine kg (C1 := R_Mo) (T := F_Mo) (N := 43) (ci := 10) (ref := "LineBreakerModel") (v := .ref (ad 2)) C w 0 3 iw_Mo rfl rfl (by decide) kw_880 rfl rfl d_Mo_fine_11 ?_
    refine lv_iload_n hx hb d_Mo_fine_14 rfl (lv_at hl 1 rfl) ?_
    refine ka_i (f := (S.1 2)) C w 2 rfl hw.1 d_Mo_fine_15 ?_
    have hw := hw.2
    exact kf_i C hr d_Mo_fine_16 hw
set_option maxHeartbeats 4000000 in
set_option maxRecDepth 100000 in
theorem c_Mo_isPlace (l : Launch) (n0 : Nat) (G : va_G) (K : KT) (ad : Nat → Nat) (X : va_W) (S : ST) (p1 : Int32) (post : Int32 → Prop) (hw : wp_Mo_isPlace S p1 post) : Met l y_Mo_isPlace (Cond.code y_Mo_isPlace prog_12_method_23_code 3 (some .boolean) :: gw) rm_Mo_isPlace (va_Pc [.ref (ad 0), .int p1] (wb n0 G K (wM K ad S ++ X))) (rq_i post) 0 0 (fun _ => False) := by
  refine kb_start (own := "LineBreakerModel") (by decide +kernel) rfl ?_
  intro p e s m below meth c C hr hne w
  have hx := C.1
  have hb := C.2.1
  have hts := C.2.2.2.2.1
  have hl := lv_entry ([.ref (ad 0), .int p1]) (n := 3) (Nat.le_of_ble_eq_true rfl)
  rw [lg_entry_eq]
  generalize (lg_sl ([.ref (ad 0), .int p1]) ++ List.replicate (3 - (lg_sl ([.ref (ad 0), .int p1])).length) Slot.unset).toArray = ls at hl ⊢
  have hl : lv_has ls 3 [(0, .ref (ad 0)), (1, .int p1)] := hl
  unfold wp_Mo_isPlace at hw
  refine lv_aload_n hx hb d_Mo_isPlace_0 rfl (lv_at hl 0 rfl) ?_
  refine lv_iload_n hx hb d_Mo_isPlace_1 rfl (lv_at hl 1 rfl) ?_
  refine kd_i (kr_V (y := y_Mo_replacer) (C1 := R_Mo) (T := F_Mo) (N := 43) (ci := 10) (q0 := 0) (As := [.int p1]) (n := 1) C w (c_Mo_replacer l n0 G K ad X S p1 _ hw) (gw_V kw_1035 kw_1037 kp_20 kw_11 kw_1038) (by decide +kernel) rfl rfl ⟨Nat.le_of_ble_eq_true rfl, Nat.le_of_ble_eq_true rfl⟩ rfl rfl rfl hl.1 rfl (Nat.le_of_ble_eq_true rfl) d_Mo_isPlace_2 ⟨Nat.le_of_ble_eq_true rfl, Nat.le_of_ble_eq_true rfl⟩) (fun r1 hw => ?_)
  refine lv_if_ge (tgt := 19) hx hb d_Mo_isPlace_5 (by decide) (fun hc => ?_) (fun hc => ?_)
  · have hw := hw.1 hc
    refine lv_iconst (v := 0) hx hb d_Mo_isPlace_19 (by decide) ?_
    exact kf_z C hr d_Mo_isPlace_20 (Or.inl rfl) hw
  · have hw := hw.2 hc
    refine lv_aload_n hx hb d_Mo_isPlace_8 rfl (lv_at hl 0 rfl) ?_
    refine lv_iload_n hx hb d_Mo_isPlace_9 rfl (lv_at hl 1 rfl) ?_
    refine kd_i (kr_V (y := y_Mo_fine) (C1 := R_Mo) (T := F_Mo) (N := 43) (ci := 10) (q0 := 0) (As := [.int p1]) (n := 1) C w (c_Mo_fine l n0 G K ad X S p1 _ hw) (gw_V kw_1102 kw_1104 kp_24 kw_11 kw_1105) (by decide +kernel) rfl rfl ⟨Nat.le_of_ble_eq_true rfl, Nat.le_of_ble_eq_true rfl⟩ rfl rfl rfl hl.1 rfl (Nat.le_of_ble_eq_true rfl) d_Mo_isPlace_10 ⟨Nat.le_of_ble_eq_true rfl, Nat.le_of_ble_eq_true rfl⟩) (fun r2 hw => ?_)
    refine lv_sipush (v := 10000) hx hb d_Mo_isPlace_13 (by decide) ?_
    refine lv_icmp_ne (tgt := 21) hx hb d_Mo_isPlace_16 (by decide) (fun hc => ?_) (fun hc => ?_)
    · have hw := hw.1 hc
      refine lv_aload_n hx hb d_Mo_isPlace_21 rfl (lv_at hl 0 rfl) ?_
      refine kg (C1 := R_Mo) (T := F_Mo) (N := 43) (ci := 10) (ref := "LineBreakerModel") (v := .ref (ad 1)) C w 0 2 iw_Mo rfl rfl (by decide) kw_879 rfl rfl d_Mo_isPlace_22 ?_
      refine lv_iload_n hx hb d_Mo_isPlace_25 rfl (lv_at hl 1 rfl) ?_
      refine ka_i (f := (S.1 1)) C w 1 rfl hw.1 d_Mo_isPlace_26 ?_
      have hw := hw.2
      by_cases h27_0 : ((S.1 1) p1.toNatClampNeg) = 1
      · have hw := hw.1 h27_0
        refine lv_tableIn (tgt := 60) hx hb d_Mo_isPlace_27 (by rw [h27_0]; decide) (by rw [h27_0]; decide) (by rw [h27_0]; rfl) (by decide) ?_
        refine lv_iload_n hx hb d_Mo_isPlace_60 rfl (lv_at hl 1 rfl) ?_
        refine lv_iconst (v := 1) hx hb d_Mo_isPlace_61 (by decide) ?_
        refine lv_isub hx hb d_Mo_isPlace_62 ?_
        refine lv_topi (fun v3 ev3 => ?_)
        have hw := hw v3 ev3
        refine lv_istore_n (lv' := [(2, .int v3), (0, .ref (ad 0)), (1, .int p1)]) hx hb d_Mo_isPlace_63 rfl hl (by decide) rfl (fun ls hl => ?_)
        refine lv_iload_n hx hb d_Mo_isPlace_64 rfl (lv_at hl 0 rfl) ?_
        refine lv_if_ge (tgt := 70) hx hb d_Mo_isPlace_65 (by decide) (fun hc => ?_) (fun hc => ?_)
        · have hw := hw.1 hc
          refine lv_aload_n hx hb d_Mo_isPlace_70 rfl (lv_at hl 1 rfl) ?_
          refine lv_iload_n hx hb d_Mo_isPlace_71 rfl (lv_at hl 0 rfl) ?_
          refine kd_i (kr_V (y := y_Mo_replacer) (C1 := R_Mo) (T := F_Mo) (N := 43) (ci := 10) (q0 := 0) (As := [.int v3]) (n := 1) C w (c_Mo_replacer l n0 G K ad X S v3 _ hw) (gw_V kw_1035 kw_1037 kp_20 kw_11 kw_1038) (by decide +kernel) rfl rfl ⟨Nat.le_of_ble_eq_true rfl, Nat.le_of_ble_eq_true rfl⟩ rfl rfl rfl hl.1 rfl (Nat.le_of_ble_eq_true rfl) d_Mo_isPlace_72 ⟨Nat.le_of_ble_eq_true rfl, Nat.le_of_ble_eq_true rfl⟩) (fun r4 hw => ?_)
          refine lv_if_ge (tgt := 107) hx hb d_Mo_isPlace_75 (by decide) (fun hc => ?_) (fun hc => ?_)
          · have hw := hw.1 hc
            refine lv_iconst (v := 1) hx hb d_Mo_isPlace_107 (by decide) ?_
            refine lv_goto (tgt := 112) hx hb d_Mo_isPlace_108 (by decide) ?_
            exact kf_z C hr d_Mo_isPlace_112 (Or.inr rfl) hw
          · have hw := hw.2 hc
            refine lv_aload_n hx hb d_Mo_isPlace_78 rfl (lv_at hl 1 rfl) ?_
            refine kg (C1 := R_Mo) (T := F_Mo) (N := 43) (ci := 10) (ref := "LineBreakerModel") (v := .ref (ad 1)) C w 0 2 iw_Mo rfl rfl (by decide) kw_879 rfl rfl d_Mo_isPlace_79 ?_
            refine lv_iload_n hx hb d_Mo_isPlace_82 rfl (lv_at hl 0 rfl) ?_
            refine ka_i (f := (S.1 1)) C w 1 rfl hw.1 d_Mo_isPlace_83 ?_
            have hw := hw.2
            refine lv_if_eq (tgt := 107) hx hb d_Mo_isPlace_84 (by decide) (fun hc => ?_) (fun hc => ?_)
            · have hw := hw.1 hc
              refine lv_iconst (v := 1) hx hb d_Mo_isPlace_107 (by decide) ?_
              refine lv_goto (tgt := 112) hx hb d_Mo_isPlace_108 (by decide) ?_
              exact kf_z C hr d_Mo_isPlace_112 (Or.inr rfl) hw
            · have hw := hw.2 hc
              refine lv_aload_n hx hb d_Mo_isPlace_87 rfl (lv_at hl 1 rfl) ?_
              refine kg (C1 := R_Mo) (T := F_Mo) (N := 43) (ci := 10) (ref := "LineBreakerModel") (v := .ref (ad 1)) C w 0 2 iw_Mo rfl rfl (by decide) kw_879 rfl rfl d_Mo_isPlace_88 ?_
              refine lv_iload_n hx hb d_Mo_isPlace_91 rfl (lv_at hl 0 rfl) ?_
              refine ka_i (f := (S.1 1)) C w 1 rfl hw.1 d_Mo_isPlace_92 ?_
              have hw := hw.2
              refine lv_iconst (v := 5) hx hb d_Mo_isPlace_93 (by decide) ?_
              refine lv_icmp_eq (tgt := 107) hx hb d_Mo_isPlace_94 (by decide) (fun hc => ?_) (fun hc => ?_)
              · have hw := hw.1 hc
                refine lv_iconst (v := 1) hx hb d_Mo_isPlace_107 (by decide) ?_
                refine lv_goto (tgt := 112) hx hb d_Mo_isPlace_108 (by decide) ?_
                exact kf_z C hr d_Mo_isPlace_112 (Or.inr rfl) hw
              · have hw := hw.2 hc
                refine lv_aload_n hx hb d_Mo_isPlace_97 rfl (lv_at hl 1 rfl) ?_
                refine kg (C1 := R_Mo) (T := F_Mo) (N := 43) (ci := 10) (ref := "LineBreakerModel") (v := .ref (ad 1)) C w 0 2 iw_Mo rfl rfl (by decide) kw_879 rfl rfl d_Mo_isPlace_98 ?_
                refine lv_iload_n hx hb d_Mo_isPlace_101 rfl (lv_at hl 0 rfl) ?_
                refine ka_i (f := (S.1 1)) C w 1 rfl hw.1 d_Mo_isPlace_102 ?_
                have hw := hw.2
                refine lv_iconst (v := 2) hx hb d_Mo_isPlace_103 (by decide) ?_
                refine lv_icmp_ne (tgt := 111) hx hb d_Mo_isPlace_104 (by decide) (fun hc => ?_) (fun hc => ?_)
                · have hw := hw.1 hc
                  refine lv_iconst (v := 0) hx hb d_Mo_isPlace_111 (by decide) ?_
                  exact kf_z C hr d_Mo_isPlace_112 (Or.inl rfl) hw
                · have hw := hw.2 hc
                  refine lv_iconst (v := 1) hx hb d_Mo_isPlace_107 (by decide) ?_
                  refine lv_goto (tgt := 112) hx hb d_Mo_isPlace_108 (by decide) ?_
                  exact kf_z C hr d_Mo_isPlace_112 (Or.inr rfl) hw
        · have hw := hw.2 hc
          refine lv_iconst (v := 0) hx hb d_Mo_isPlace_68 (by decide) ?_
          exact kf_z C hr d_Mo_isPlace_69 (Or.inl rfl) hw
      by_cases h27_1 : ((S.1 1) p1.toNatClampNeg) = 2
      · have hw := hw.2.1 h27_1
        refine lv_tableIn (tgt := 155) hx hb d_Mo_isPlace_27 (by rw [h27_1]; decide) (by rw [h27_1]; decide) (by rw [h27_1]; rfl) (by decide) ?_
        refine lv_iconst (v := 0) hx hb d_Mo_isPlace_155 (by decide) ?_
        exact kf_z C hr d_Mo_isPlace_156 (Or.inl rfl) hw
      by_cases h27_2 : ((S.1 1) p1.toNatClampNeg) = 3
      · have hw := hw.2.2.1 h27_2
        refine lv_tableIn (tgt := 113) hx hb d_Mo_isPlace_27 (by rw [h27_2]; decide) (by rw [h27_2]; decide) (by rw [h27_2]; rfl) (by decide) ?_
        refine lv_iload_n hx hb d_Mo_isPlace_113 rfl (lv_at hl 1 rfl) ?_
        refine lv_aload_n hx hb d_Mo_isPlace_114 rfl (lv_at hl 0 rfl) ?_
        refine kg (C1 := R_Mo) (T := F_Mo) (N := 43) (ci := 10) (ref := "LineBreakerModel") (v := .int (S.2.2 17)) C w 0 17 iw_Mo rfl rfl (by decide) kw_894 rfl rfl d_Mo_isPlace_115 ?_
        refine lv_icmp_ge (tgt := 137) hx hb d_Mo_isPlace_118 (by decide) (fun hc => ?_) (fun hc => ?_)
        · have hw := hw.1 hc
          refine lv_iconst (v := 0) hx hb d_Mo_isPlace_137 (by decide) ?_
          exact kf_z C hr d_Mo_isPlace_138 (Or.inl rfl) hw
        · have hw := hw.2 hc
          refine lv_aload_n hx hb d_Mo_isPlace_121 rfl (lv_at hl 0 rfl) ?_
          refine kg (C1 := R_Mo) (T := F_Mo) (N := 43) (ci := 10) (ref := "LineBreakerModel") (v := .ref (ad 1)) C w 0 2 iw_Mo rfl rfl (by decide) kw_879 rfl rfl d_Mo_isPlace_122 ?_
          refine lv_iload_n hx hb d_Mo_isPlace_125 rfl (lv_at hl 1 rfl) ?_
          refine lv_iconst (v := 1) hx hb d_Mo_isPlace_126 (by decide) ?_
          refine lv_iadd hx hb d_Mo_isPlace_127 ?_
          refine ka_i (f := (S.1 1)) C w 1 rfl hw.1 d_Mo_isPlace_128 ?_
          have hw := hw.2
          refine lv_iconst (v := 1) hx hb d_Mo_isPlace_129 (by decide) ?_
          refine lv_icmp_ne (tgt := 137) hx hb d_Mo_isPlace_130 (by decide) (fun hc => ?_) (fun hc => ?_)
          · have hw := hw.1 hc
            refine lv_iconst (v := 0) hx hb d_Mo_isPlace_137 (by decide) ?_
            exact kf_z C hr d_Mo_isPlace_138 (Or.inl rfl) hw
          · have hw := hw.2 hc
            refine lv_iconst (v := 1) hx hb d_Mo_isPlace_133 (by decide) ?_
            refine lv_goto (tgt := 138) hx hb d_Mo_isPlace_134 (by decide) ?_
            exact kf_z C hr d_Mo_isPlace_138 (Or.inr rfl) hw
      by_cases h27_3 : ((S.1 1) p1.toNatClampNeg) = 4
      · have hw := hw.2.2.2.1 h27_3
        refine lv_tableIn (tgt := 139) hx hb d_Mo_isPlace_27 (by rw [h27_3]; decide) (by rw [h27_3]; decide) (by rw [h27_3]; rfl) (by decide) ?_
        refine lv_iconst (v := 1) hx hb d_Mo_isPlace_139 (by decide) ?_
        exact kf_z C hr d_Mo_isPlace_140 (Or.inr rfl) hw
      by_cases h27_4 : ((S.1 1) p1.toNatClampNeg) = 5
      · have hw := hw.2.2.2.2.1 h27_4
        refine lv_tableIn (tgt := 141) hx hb d_Mo_isPlace_27 (by rw [h27_4]; decide) (by rw [h27_4]; decide) (by rw [h27_4]; rfl) (by decide) ?_
        refine lv_aload_n hx hb d_Mo_isPlace_141 rfl (lv_at hl 0 rfl) ?_
        refine kg (C1 := R_Mo) (T := F_Mo) (N := 43) (ci := 10) (ref := "LineBreakerModel") (v := .int (S.2.2 16)) C w 0 16 iw_Mo rfl rfl (by decide) kw_893 rfl rfl d_Mo_isPlace_142 ?_
        refine lv_iconst (v := 1) hx hb d_Mo_isPlace_145 (by decide) ?_
        refine lv_icmp_le (tgt := 153) hx hb d_Mo_isPlace_146 (by decide) (fun hc => ?_) (fun hc => ?_)
        · have hw := hw.1 hc
          refine lv_iconst (v := 0) hx hb d_Mo_isPlace_153 (by decide) ?_
          exact kf_z C hr d_Mo_isPlace_154 (Or.inl rfl) hw
        · have hw := hw.2 hc
          refine lv_iconst (v := 1) hx hb d_Mo_isPlace_149 (by decide) ?_
          refine lv_goto (tgt := 154) hx hb d_Mo_isPlace_150 (by decide) ?_
          exact kf_z C hr d_Mo_isPlace_154 (Or.inr rfl) hw
      have hw := hw.2.2.2.2.2 h27_0 h27_1 h27_2 h27_3 h27_4
      have t27_0 := lv_neT h27_0 (show (1 : Int32).toInt = 1 by decide)
      have t27_1 := lv_neT h27_1 (show (2 : Int32).toInt = 2 by decide)
      have t27_2 := lv_neT h27_2 (show (3 : Int32).toInt = 3 by decide)
      have t27_3 := lv_neT h27_3 (show (4 : Int32).toInt = 4 by decide)
      have t27_4 := lv_neT h27_4 (show (5 : Int32).toInt = 5 by decide)
      refine lv_tableOut (tgt := 155) hx hb d_Mo_isPlace_27 (by omega) (by decide) ?_
      refine lv_iconst (v := 0) hx hb d_Mo_isPlace_155 (by decide) ?_
      exact kf_z C hr d_Mo_isPlace_156 (Or.inl rfl) hw
    · have hw := hw.2 hc
      refine lv_iconst (v := 0) hx hb d_Mo_isPlace_19 (by decide) ?_
      exact kf_z C hr d_Mo_isPlace_20 (Or.inl rfl) hw
set_option maxHeartbeats 4000000 in
set_option maxRecDepth 100000 in
theorem c_Mo_isDropped (l : Launch) (n0 : Nat) (G : va_G) (K : KT) (ad : Nat → Nat) (X : va_W) (S : ST) (p1 : Int32) (post : Int32 → Prop) (hw : wp_Mo_isDropped S p1 post) : Met l y_Mo_isDropped (Cond.code y_Mo_isDropped prog_12_method_24_code 2 (some .boolean) :: gw) rm_Mo_isDropped (va_Pc [.ref (ad 0), .int p1] (wb n0 G K (wM K ad S ++ X))) (rq_i post) 0 0 (fun _ => False) := by
  refine kb_start (own := "LineBreakerModel") (by decide +kernel) rfl ?_
  intro p e s m below meth c C hr hne w
  have hx := C.1
  have hb := C.2.1
  have hts := C.2.2.2.2.1
  have hl := lv_entry ([.ref (ad 0), .int p1]) (n := 2) (Nat.le_of_ble_eq_true rfl)
  rw [lg_entry_eq]
  generalize (lg_sl ([.ref (ad 0), .int p1]) ++ List.replicate (2 - (lg_sl ([.ref (ad 0), .int p1])).length) Slot.unset).toArray = ls at hl ⊢
  have hl : lv_has ls 2 [(0, .ref (ad 0)), (1, .int p1)] := hl
  unfold wp_Mo_isDropped at hw
  refine lv_aload_n hx hb d_Mo_isDropped_0 rfl (lv_at hl 0 rfl) ?_
  refine kg (C1 := R_Mo) (T := F_Mo) (N := 43) (ci := 10) (ref := "LineBreakerModel") (v := .ref (ad 1)) C w 0 2 iw_Mo rfl rfl (by decide) kw_879 rfl rfl d_Mo_isDropped_1 ?_
  refine lv_iload_n hx hb d_Mo_isDropped_4 rfl (lv_at hl 1 rfl) ?_
  refine ka_i (f := (S.1 1)) C w 1 rfl hw.1 d_Mo_isDropped_5 ?_
  have hw := hw.2
  refine lv_iconst (v := 1) hx hb d_Mo_isDropped_6 (by decide) ?_
  refine lv_icmp_eq (tgt := 30) hx hb d_Mo_isDropped_7 (by decide) (fun hc => ?_) (fun hc => ?_)
  · have hw := hw.1 hc
    refine lv_iconst (v := 1) hx hb d_Mo_isDropped_30 (by decide) ?_
    refine lv_goto (tgt := 35) hx hb d_Mo_isDropped_31 (by decide) ?_
    exact kf_z C hr d_Mo_isDropped_35 (Or.inr rfl) hw
  · have hw := hw.2 hc
    refine lv_aload_n hx hb d_Mo_isDropped_10 rfl (lv_at hl 0 rfl) ?_
    refine kg (C1 := R_Mo) (T := F_Mo) (N := 43) (ci := 10) (ref := "LineBreakerModel") (v := .ref (ad 1)) C w 0 2 iw_Mo rfl rfl (by decide) kw_879 rfl rfl d_Mo_isDropped_11 ?_
    refine lv_iload_n hx hb d_Mo_isDropped_14 rfl (lv_at hl 1 rfl) ?_
    refine ka_i (f := (S.1 1)) C w 1 rfl hw.1 d_Mo_isDropped_15 ?_
    have hw := hw.2
    refine lv_iconst (v := 3) hx hb d_Mo_isDropped_16 (by decide) ?_
    refine lv_icmp_eq (tgt := 30) hx hb d_Mo_isDropped_17 (by decide) (fun hc => ?_) (fun hc => ?_)
    · have hw := hw.1 hc
      refine lv_iconst (v := 1) hx hb d_Mo_isDropped_30 (by decide) ?_
      refine lv_goto (tgt := 35) hx hb d_Mo_isDropped_31 (by decide) ?_
      exact kf_z C hr d_Mo_isDropped_35 (Or.inr rfl) hw
    · have hw := hw.2 hc
      refine lv_aload_n hx hb d_Mo_isDropped_20 rfl (lv_at hl 0 rfl) ?_
      refine kg (C1 := R_Mo) (T := F_Mo) (N := 43) (ci := 10) (ref := "LineBreakerModel") (v := .ref (ad 1)) C w 0 2 iw_Mo rfl rfl (by decide) kw_879 rfl rfl d_Mo_isDropped_21 ?_
      refine lv_iload_n hx hb d_Mo_isDropped_24 rfl (lv_at hl 1 rfl) ?_
      refine ka_i (f := (S.1 1)) C w 1 rfl hw.1 d_Mo_isDropped_25 ?_
      have hw := hw.2
      refine lv_iconst (v := 4) hx hb d_Mo_isDropped_26 (by decide) ?_
      refine lv_icmp_ne (tgt := 34) hx hb d_Mo_isDropped_27 (by decide) (fun hc => ?_) (fun hc => ?_)
      · have hw := hw.1 hc
        refine lv_iconst (v := 0) hx hb d_Mo_isDropped_34 (by decide) ?_
        exact kf_z C hr d_Mo_isDropped_35 (Or.inl rfl) hw
      · have hw := hw.2 hc
        refine lv_iconst (v := 1) hx hb d_Mo_isDropped_30 (by decide) ?_
        refine lv_goto (tgt := 35) hx hb d_Mo_isDropped_31 (by decide) ?_
        exact kf_z C hr d_Mo_isDropped_35 (Or.inr rfl) hw
set_option maxHeartbeats 4000000 in
set_option maxRecDepth 100000 in
theorem w_Mo_firstOf_54 {S : ST} {post : Int32 → Prop} (C : cx p s m args meth c prog_12_method_25_code 4 "LineBreakerModel" n0 G K) (hr : meth.sig.returnType = (some .int)) : ∀ (n : Nat) (x2 : Int32) (x3 : Int32), wl_Mo_firstOf_54 S post n x2 x3 → ∀ (ls : Array Slot), wn n0 G (wM K ad S ++ X) s s.heap [] → lv_has ls 4 [(0, .ref (ad 0)), (2, .int x2), (3, .int x3)] → W p l e rm_Mo_firstOf s m args below meth c s.heap [] 0 0 (MQ below (rq_i post) args s 0 0 (fun _ => False)) (F0 m 54 ls []) := by
  have hx := C.1
  have hb := C.2.1
  have hts := C.2.2.2.2.1
  intro n
  induction n with
  | zero =>
    intro x2 x3 hw
    unfold wl_Mo_firstOf_54 at hw
    exact hw.elim
  | succ n ih =>
    intro x2 x3 hw ls w hl
    unfold wl_Mo_firstOf_54 at hw
    refine lv_iload_n hx hb d_Mo_firstOf_54 rfl (lv_at hl 2 rfl) ?_
    refine lv_if_eq (tgt := 80) hx hb d_Mo_firstOf_55 (by decide) (fun hc => ?_) (fun hc => ?_)
    · have hw := hw.1 hc
      refine lv_iload_n hx hb d_Mo_firstOf_80 rfl (lv_at hl 1 rfl) ?_
      exact kf_i C hr d_Mo_firstOf_81 hw
    · have hw := hw.2 hc
      refine lv_iload_n hx hb d_Mo_firstOf_58 rfl (lv_at hl 1 rfl) ?_
      refine lv_aload_n hx hb d_Mo_firstOf_59 rfl (lv_at hl 0 rfl) ?_
      refine kg (C1 := R_Mo) (T := F_Mo) (N := 43) (ci := 10) (ref := "LineBreakerModel") (v := .int (S.2.2 17)) C w 0 17 iw_Mo rfl rfl (by decide) kw_894 rfl rfl d_Mo_firstOf_60 ?_
      refine lv_icmp_gt (tgt := 80) hx hb d_Mo_firstOf_63 (by decide) (fun hc => ?_) (fun hc => ?_)
      · have hw := hw.1 hc
        refine lv_iload_n hx hb d_Mo_firstOf_80 rfl (lv_at hl 1 rfl) ?_
        exact kf_i C hr d_Mo_firstOf_81 hw
      · have hw := hw.2 hc
        refine lv_aload_n hx hb d_Mo_firstOf_66 rfl (lv_at hl 0 rfl) ?_
        refine lv_iload_n hx hb d_Mo_firstOf_67 rfl (lv_at hl 1 rfl) ?_
        refine kd_i (kr_V (y := y_Mo_isDropped) (C1 := R_Mo) (T := F_Mo) (N := 43) (ci := 10) (q0 := 0) (As := [.int x2]) (n := 1) C w (c_Mo_isDropped l n0 G K ad X S x2 _ hw) (gw_V kw_1126 kw_1128 kp_30 kw_11 kw_1129) (by decide +kernel) rfl rfl ⟨Nat.le_of_ble_eq_true rfl, Nat.le_of_ble_eq_true rfl⟩ rfl rfl rfl hl.1 rfl (Nat.le_of_ble_eq_true rfl) d_Mo_firstOf_68 ⟨Nat.le_of_ble_eq_true rfl, Nat.le_of_ble_eq_true rfl⟩) (fun r1 hw => ?_)
        refine lv_if_eq (tgt := 80) hx hb d_Mo_firstOf_71 (by decide) (fun hc => ?_) (fun hc => ?_)
        · have hw := hw.1 hc
          refine lv_iload_n hx hb d_Mo_firstOf_80 rfl (lv_at hl 1 rfl) ?_
          exact kf_i C hr d_Mo_firstOf_81 hw
        · have hw := hw.2 hc
          obtain ⟨v2, ev2⟩ : ∃ y : Int32, y = x2 + 1 := ⟨_, rfl⟩
          refine lv_iinc (v := v2) (lv' := [(2, .int v2), (0, .ref (ad 0)), (3, .int x3)]) hx hb d_Mo_firstOf_74 hl (k := 1) rfl (by rw [ev2]; rfl) (by decide) rfl (fun ls hl => ?_)
          have hw := hw v2 ev2
          refine lv_goto (tgt := 54) hx hb d_Mo_firstOf_77 (by decide) ?_
          exact ih v2 x3 hw _ w (lv_sub hl [1, 0, 2] rfl)
set_option maxHeartbeats 4000000 in
set_option maxRecDepth 100000 in
theorem w_Mo_firstOf_28 {S : ST} {post : Int32 → Prop} (C : cx p s m args meth c prog_12_method_25_code 4 "LineBreakerModel" n0 G K) (hr : meth.sig.returnType = (some .int)) : ∀ (x1 : Int32) (z0 : Int32), wl_Mo_firstOf_28 S post x1 z0 → ∀ (ls : Array Slot), wn n0 G (wM K ad S ++ X) s s.heap [] → lv_has ls 4 [(0, .ref (ad 0)), (1, .int x1)] → W p l e rm_Mo_firstOf s m args below meth c s.heap [] 0 0 (MQ below (rq_i post) args s 0 0 (fun _ => False)) (F0 m 28 ls [.int z0]) := by
  have hx := C.1
  have hb := C.2.1
  have hts := C.2.2.2.2.1
  intro x1 z0 hw ls w hl
  unfold wl_Mo_firstOf_28 at hw
  refine lv_istore_n (lv' := [(2, .int z0), (0, .ref (ad 0)), (1, .int x1)]) hx hb d_Mo_firstOf_28 rfl hl (by decide) rfl (fun ls hl => ?_)
  refine lv_aload_n hx hb d_Mo_firstOf_29 rfl (lv_at hl 1 rfl) ?_
  refine lv_iload_n hx hb d_Mo_firstOf_30 rfl (lv_at hl 2 rfl) ?_
  refine kd_i (kr_V (y := y_Mo_isHyphen) (C1 := R_Mo) (T := F_Mo) (N := 43) (ci := 10) (q0 := 0) (As := [.int x1]) (n := 1) C w (c_Mo_isHyphen l n0 G K ad X S x1 _ hw) (gw_V kw_1118 kw_1120 kp_28 kw_11 kw_1121) (by decide +kernel) rfl rfl ⟨Nat.le_of_ble_eq_true rfl, Nat.le_of_ble_eq_true rfl⟩ rfl rfl rfl hl.1 rfl (Nat.le_of_ble_eq_true rfl) d_Mo_firstOf_31 ⟨Nat.le_of_ble_eq_true rfl, Nat.le_of_ble_eq_true rfl⟩) (fun r1 hw => ?_)
  refine lv_if_eq (tgt := 48) hx hb d_Mo_firstOf_34 (by decide) (fun hc => ?_) (fun hc => ?_)
  · have hw := hw.1 hc
    refine lv_iconst (v := 1) hx hb d_Mo_firstOf_48 (by decide) ?_
    refine lv_goto (tgt := 53) hx hb d_Mo_firstOf_49 (by decide) ?_
    refine lv_istore_n (lv' := [(3, .int 1), (2, .int z0), (0, .ref (ad 0)), (1, .int x1)]) hx hb d_Mo_firstOf_53 rfl hl (by decide) rfl (fun ls hl => ?_)
    obtain ⟨n9, hw⟩ := hw
    exact w_Mo_firstOf_54 C hr  n9 z0 1 hw _ w (lv_sub hl [2, 1, 0] rfl)
  · have hw := hw.2 hc
    refine lv_aload_n hx hb d_Mo_firstOf_37 rfl (lv_at hl 1 rfl) ?_
    refine kg (C1 := R_Mo) (T := F_Mo) (N := 43) (ci := 10) (ref := "LineBreakerModel") (v := .ref (ad 7)) C w 0 8 iw_Mo rfl rfl (by decide) kw_885 rfl rfl d_Mo_firstOf_38 ?_
    refine lv_iload_n hx hb d_Mo_firstOf_41 rfl (lv_at hl 2 rfl) ?_
    refine ka_i (f := (S.1 7)) C w 7 rfl hw.1 d_Mo_firstOf_42 ?_
    have hw := hw.2
    refine lv_ldc (v := (-1073741824)) hx hb C.2.2.2.1 (hts _ kw_1054) d_Mo_firstOf_43 ?_
    refine lv_icmp_ne (tgt := 52) hx hb d_Mo_firstOf_45 (by decide) (fun hc => ?_) (fun hc => ?_)
    · have hw := hw.1 hc
      refine lv_iconst (v := 0) hx hb d_Mo_firstOf_52 (by decide) ?_
      refine lv_istore_n (lv' := [(3, .int 0), (2, .int z0), (0, .ref (ad 0)), (1, .int x1)]) hx hb d_Mo_firstOf_53 rfl hl (by decide) rfl (fun ls hl => ?_)
      obtain ⟨n9, hw⟩ := hw
      exact w_Mo_firstOf_54 C hr  n9 z0 0 hw _ w (lv_sub hl [2, 1, 0] rfl)
    · have hw := hw.2 hc
      refine lv_iconst (v := 1) hx hb d_Mo_firstOf_48 (by decide) ?_
      refine lv_goto (tgt := 53) hx hb d_Mo_firstOf_49 (by decide) ?_
      refine lv_istore_n (lv' := [(3, .int 1), (2, .int z0), (0, .ref (ad 0)), (1, .int x1)]) hx hb d_Mo_firstOf_53 rfl hl (by decide) rfl (fun ls hl => ?_)
      obtain ⟨n9, hw⟩ := hw
      exact w_Mo_firstOf_54 C hr  n9 z0 1 hw _ w (lv_sub hl [2, 1, 0] rfl)
set_option maxHeartbeats 4000000 in
set_option maxRecDepth 100000 in
theorem c_Mo_firstOf (l : Launch) (n0 : Nat) (G : va_G) (K : KT) (ad : Nat → Nat) (X : va_W) (S : ST) (p1 : Int32) (post : Int32 → Prop) (hw : wp_Mo_firstOf S p1 post) : Met l y_Mo_firstOf (Cond.code y_Mo_firstOf prog_12_method_25_code 4 (some .int) :: gw) rm_Mo_firstOf (va_Pc [.ref (ad 0), .int p1] (wb n0 G K (wM K ad S ++ X))) (rq_i post) 0 0 (fun _ => False) := by
  refine kb_start (own := "LineBreakerModel") (by decide +kernel) rfl ?_
  intro p e s m below meth c C hr hne w
  have hx := C.1
  have hb := C.2.1
  have hts := C.2.2.2.2.1
  have hl := lv_entry ([.ref (ad 0), .int p1]) (n := 4) (Nat.le_of_ble_eq_true rfl)
  rw [lg_entry_eq]
  generalize (lg_sl ([.ref (ad 0), .int p1]) ++ List.replicate (4 - (lg_sl ([.ref (ad 0), .int p1])).length) Slot.unset).toArray = ls at hl ⊢
  have hl : lv_has ls 4 [(0, .ref (ad 0)), (1, .int p1)] := hl
  unfold wp_Mo_firstOf at hw
  refine lv_iload_n hx hb d_Mo_firstOf_0 rfl (lv_at hl 1 rfl) ?_
  refine lv_if_ge (tgt := 6) hx hb d_Mo_firstOf_1 (by decide) (fun hc => ?_) (fun hc => ?_)
  · have hw := hw.1 hc
    refine lv_aload_n hx hb d_Mo_firstOf_6 rfl (lv_at hl 0 rfl) ?_
    refine lv_iload_n hx hb d_Mo_firstOf_7 rfl (lv_at hl 1 rfl) ?_
    refine kd_i (kr_V (y := y_Mo_isHyphen) (C1 := R_Mo) (T := F_Mo) (N := 43) (ci := 10) (q0 := 0) (As := [.int p1]) (n := 1) C w (c_Mo_isHyphen l n0 G K ad X S p1 _ hw) (gw_V kw_1118 kw_1120 kp_28 kw_11 kw_1121) (by decide +kernel) rfl rfl ⟨Nat.le_of_ble_eq_true rfl, Nat.le_of_ble_eq_true rfl⟩ rfl rfl rfl hl.1 rfl (Nat.le_of_ble_eq_true rfl) d_Mo_firstOf_8 ⟨Nat.le_of_ble_eq_true rfl, Nat.le_of_ble_eq_true rfl⟩) (fun r1 hw => ?_)
    refine lv_if_eq (tgt := 27) hx hb d_Mo_firstOf_11 (by decide) (fun hc => ?_) (fun hc => ?_)
    · have hw := hw.1 hc
      refine lv_iload_n hx hb d_Mo_firstOf_27 rfl (lv_at hl 1 rfl) ?_
      exact w_Mo_firstOf_28 C hr  p1 p1 hw _ w (lv_sub hl [0, 1] rfl)
    · have hw := hw.2 hc
      refine lv_iload_n hx hb d_Mo_firstOf_14 rfl (lv_at hl 1 rfl) ?_
      refine lv_iconst (v := 1) hx hb d_Mo_firstOf_15 (by decide) ?_
      refine lv_iadd hx hb d_Mo_firstOf_16 ?_
      refine lv_aload_n hx hb d_Mo_firstOf_17 rfl (lv_at hl 0 rfl) ?_
      refine kg (C1 := R_Mo) (T := F_Mo) (N := 43) (ci := 10) (ref := "LineBreakerModel") (v := .ref (ad 8)) C w 0 9 iw_Mo rfl rfl (by decide) kw_886 rfl rfl d_Mo_firstOf_18 ?_
      refine lv_iload_n hx hb d_Mo_firstOf_21 rfl (lv_at hl 1 rfl) ?_
      refine ka_i (f := (S.1 8)) C w 8 rfl hw.1 d_Mo_firstOf_22 ?_
      have hw := hw.2
      refine lv_iadd hx hb d_Mo_firstOf_23 ?_
      refine lv_goto (tgt := 28) hx hb d_Mo_firstOf_24 (by decide) ?_
      exact w_Mo_firstOf_28 C hr  p1 ((p1 + 1) + ((S.1 8) p1.toNatClampNeg)) hw _ w (lv_sub hl [0, 1] rfl)
  · have hw := hw.2 hc
    refine lv_iconst (v := 0) hx hb d_Mo_firstOf_4 (by decide) ?_
    exact kf_i C hr d_Mo_firstOf_5 hw
set_option maxHeartbeats 4000000 in
set_option maxRecDepth 100000 in
theorem c_Mo_addGlue (l : Launch) (n0 : Nat) (G : va_G) (K : KT) (ad : Nat → Nat) (X : va_W) (S : ST) (p1 : Int32) (p2 : Int32) (p3 : Int32) (p4 : Int32) (post : (Nat → Int32) → Int32 → Int32 → Prop) (hw : wp_Mo_addGlue S p1 p2 p3 p4 post) : Met l y_Mo_addGlue (Cond.code y_Mo_addGlue prog_12_method_26_code 5 none :: gw) rm_Mo_addGlue (va_Pc [.ref (ad 0), .int p1, .int p2, .int p3, .int p4] (wb n0 G K (wM K ad S ++ X))) (va_Qv (fun (u : (Nat → Int32) × Int32 × Int32) => post u.1 u.2.1 u.2.2) (fun (u : (Nat → Int32) × Int32 × Int32) t => we n0 G (wM K ad (sI (sI (sA S 21 u.1) 28 u.2.1) 30 u.2.2) ++ X) t) (al n0)) 0 0 (al n0) := by
  refine kb_start (own := "LineBreakerModel") (by decide +kernel) rfl ?_
  intro p e s m below meth c C hr hne w
  have hx := C.1
  have hb := C.2.1
  have hts := C.2.2.2.2.1
  have hl := lv_entry ([.ref (ad 0), .int p1, .int p2, .int p3, .int p4]) (n := 5) (Nat.le_of_ble_eq_true rfl)
  rw [lg_entry_eq]
  generalize (lg_sl ([.ref (ad 0), .int p1, .int p2, .int p3, .int p4]) ++ List.replicate (5 - (lg_sl ([.ref (ad 0), .int p1, .int p2, .int p3, .int p4])).length) Slot.unset).toArray = ls at hl ⊢
  have hl : lv_has ls 5 [(0, .ref (ad 0)), (1, .int p1), (2, .int p2), (3, .int p3), (4, .int p4)] := hl
  unfold wp_Mo_addGlue at hw
  refine lv_aload_n hx hb d_Mo_addGlue_0 rfl (lv_at hl 0 rfl) ?_
  refine lv_aload_n hx hb d_Mo_addGlue_1 rfl (lv_at hl 0 rfl) ?_
  refine kg (C1 := R_Mo) (T := F_Mo) (N := 43) (ci := 10) (ref := "LineBreakerModel") (v := .int (S.2.2 28)) C w 0 28 iw_Mo rfl rfl (by decide) kw_905 rfl rfl d_Mo_addGlue_2 ?_
  refine lv_iload_n hx hb d_Mo_addGlue_5 rfl (lv_at hl 1 rfl) ?_
  refine lv_iadd hx hb d_Mo_addGlue_6 ?_
  refine lv_topi (fun v1 ev1 => ?_)
  have hw := hw v1 ev1
  refine kp (C1 := R_Mo) (T := F_Mo) (N := 43) (ci := 10) (ty0 := t_Mo) (ref := "LineBreakerModel") (w2 := wM K ad (sI S 28 v1) ++ X) C w 0 28 iw_Mo tk_Mo n_Mo rfl rfl (by decide) kw_905 rfl rfl rfl rfl (Nat.le_of_ble_eq_true rfl) rfl d_Mo_addGlue_7 (fun H locs w => ?_)
  refine lv_aload_n hx hb d_Mo_addGlue_10 rfl (lv_at hl 0 rfl) ?_
  refine kg (C1 := R_Mo) (T := F_Mo) (N := 43) (ci := 10) (ref := "LineBreakerModel") (v := .ref (ad 21)) C w 0 29 iw_Mo rfl rfl (by decide) kw_906 rfl rfl d_Mo_addGlue_11 ?_
  refine lv_iload_n hx hb d_Mo_addGlue_14 rfl (lv_at hl 3 rfl) ?_
  refine lv_aload_n hx hb d_Mo_addGlue_15 rfl (lv_at hl 0 rfl) ?_
  refine kg (C1 := R_Mo) (T := F_Mo) (N := 43) (ci := 10) (ref := "LineBreakerModel") (v := .ref (ad 21)) C w 0 29 iw_Mo rfl rfl (by decide) kw_906 rfl rfl d_Mo_addGlue_16 ?_
  refine lv_iload_n hx hb d_Mo_addGlue_19 rfl (lv_at hl 3 rfl) ?_
  refine ka_i (f := (S.1 21)) C w 21 rfl hw.1 d_Mo_addGlue_20 ?_
  have hw := hw.2
  refine lv_iload_n hx hb d_Mo_addGlue_21 rfl (lv_at hl 2 rfl) ?_
  refine lv_iadd hx hb d_Mo_addGlue_22 ?_
  obtain ⟨f2, ef2⟩ : ∃ z : Nat → Int32, z = upd (S.1 21) p3.toNatClampNeg (((S.1 21) p3.toNatClampNeg) + p2) := ⟨_, rfl⟩
  refine ks_i (f := (S.1 21)) (w2 := wM K ad (sI (sA S 21 f2) 28 v1) ++ X) C w 21 rfl hw.1 (by rw [← ef2]; rfl) d_Mo_addGlue_23 (fun H locs w => ?_)
  have hw := hw.2 f2 ef2
  refine lv_aload_n hx hb d_Mo_addGlue_24 rfl (lv_at hl 0 rfl) ?_
  refine lv_aload_n hx hb d_Mo_addGlue_25 rfl (lv_at hl 0 rfl) ?_
  refine kg (C1 := R_Mo) (T := F_Mo) (N := 43) (ci := 10) (ref := "LineBreakerModel") (v := .int (S.2.2 30)) C w 0 30 iw_Mo rfl rfl (by decide) kw_907 rfl rfl d_Mo_addGlue_26 ?_
  refine lv_iload hx hb d_Mo_addGlue_29 (lv_at hl 4 rfl) ?_
  refine lv_iadd hx hb d_Mo_addGlue_31 ?_
  refine lv_topi (fun v3 ev3 => ?_)
  have hw := hw v3 ev3
  refine kp (C1 := R_Mo) (T := F_Mo) (N := 43) (ci := 10) (ty0 := t_Mo) (ref := "LineBreakerModel") (w2 := wM K ad (sI (sI (sA S 21 f2) 28 v1) 30 v3) ++ X) C w 0 30 iw_Mo tk_Mo n_Mo rfl rfl (by decide) kw_907 rfl rfl rfl rfl (Nat.le_of_ble_eq_true rfl) rfl d_Mo_addGlue_32 (fun H locs w => ?_)
  exact ke_v (post := (fun (u : (Nat → Int32) × Int32 × Int32) => post u.1 u.2.1 u.2.2)) (st := (fun (u : (Nat → Int32) × Int32 × Int32) => wM K ad (sI (sI (sA S 21 u.1) 28 u.2.1) 30 u.2.2) ++ X)) (u := (f2, v1, v3)) C hr d_Mo_addGlue_35 (wn_eq w rfl) hw
set_option maxHeartbeats 4000000 in
set_option maxRecDepth 100000 in
theorem w_Mo_measure_136 {S : ST} {post : (Nat → Int32) → Int32 → Int32 → Int32 → Prop} (C : cx p s m args meth c prog_12_method_27_code 4 "LineBreakerModel" n0 G K) (hr : meth.sig.returnType = none) : ∀ (n : Nat) (a21 : (Nat → Int32)) (i27 : Int32) (i28 : Int32) (i30 : Int32) (x2 : Int32) (x3 : Int32), wl_Mo_measure_136 S post n a21 i27 i28 i30 x2 x3 → ∀ (H : Heap) (locs : List Loc) (ls : Array Slot), wn n0 G (wM K ad (sI (sI (sI (sA S 21 a21) 27 i27) 28 i28) 30 i30) ++ X) s H locs → lv_has ls 4 [(0, .ref (ad 0)), (2, .int x2), (3, .int x3)] → W p l e rm_Mo_measure s m args below meth c H locs 0 0 (MQ below (va_Qv (fun (u : (Nat → Int32) × Int32 × Int32 × Int32) => post u.1 u.2.1 u.2.2.1 u.2.2.2) (fun (u : (Nat → Int32) × Int32 × Int32 × Int32) t => we n0 G (wM K ad (sI (sI (sI (sA S 21 u.1) 27 u.2.1) 28 u.2.2.1) 30 u.2.2.2) ++ X) t) (al n0)) args s 0 0 (al n0)) (F0 m 136 ls []) := by
  have hx := C.1
  have hb := C.2.1
  have hts := C.2.2.2.2.1
  intro n
  induction n with
  | zero =>
    intro a21 i27 i28 i30 x2 x3 hw
    unfold wl_Mo_measure_136 at hw
    exact hw.elim
  | succ n ih =>
    intro a21 i27 i28 i30 x2 x3 hw H locs ls w hl
    unfold wl_Mo_measure_136 at hw
    refine lv_iload_n hx hb d_Mo_measure_136 rfl (lv_at hl 2 rfl) ?_
    refine lv_iload_n hx hb d_Mo_measure_137 rfl (lv_at hl 1 rfl) ?_
    refine lv_icmp_ge (tgt := 223) hx hb d_Mo_measure_138 (by decide) (fun hc => ?_) (fun hc => ?_)
    · have hw := hw.1 hc
      refine lv_aload_n hx hb d_Mo_measure_223 rfl (lv_at hl 0 rfl) ?_
      refine lv_aload_n hx hb d_Mo_measure_224 rfl (lv_at hl 0 rfl) ?_
      refine lv_iload_n hx hb d_Mo_measure_225 rfl (lv_at hl 1 rfl) ?_
      refine kd_i (kr_V (y := y_Mo_isHyphen) (C1 := R_Mo) (T := F_Mo) (N := 43) (ci := 10) (q0 := 0) (As := [.int x2]) (n := 1) C w (c_Mo_isHyphen l n0 G K ad X (sI (sI (sI (sA S 21 a21) 27 i27) 28 i28) 30 i30) x2 _ hw) (gw_V kw_1118 kw_1120 kp_28 kw_11 kw_1121) (by decide +kernel) rfl rfl ⟨Nat.le_of_ble_eq_true rfl, Nat.le_of_ble_eq_true rfl⟩ rfl rfl rfl hl.1 rfl (Nat.le_of_ble_eq_true rfl) d_Mo_measure_226 ⟨Nat.le_of_ble_eq_true rfl, Nat.le_of_ble_eq_true rfl⟩) (fun r1 hw => ?_)
      refine lv_if_eq (tgt := 257) hx hb d_Mo_measure_229 (by decide) (fun hc => ?_) (fun hc => ?_)
      · have hw := hw.1 hc
        refine lv_aload_n hx hb d_Mo_measure_257 rfl (lv_at hl 0 rfl) ?_
        refine kg (C1 := R_Mo) (T := F_Mo) (N := 43) (ci := 10) (ref := "LineBreakerModel") (v := .int i28) C w 0 28 iw_Mo rfl rfl (by decide) kw_905 rfl rfl d_Mo_measure_258 ?_
        refine kp (C1 := R_Mo) (T := F_Mo) (N := 43) (ci := 10) (ty0 := t_Mo) (ref := "LineBreakerModel") (w2 := wM K ad (sI (sI (sI (sA S 21 a21) 27 i27) 28 i28) 30 i30) ++ X) C w 0 28 iw_Mo tk_Mo n_Mo rfl rfl (by decide) kw_905 rfl rfl rfl rfl (Nat.le_of_ble_eq_true rfl) rfl d_Mo_measure_261 (fun H locs w => ?_)
        exact ke_v (post := (fun (u : (Nat → Int32) × Int32 × Int32 × Int32) => post u.1 u.2.1 u.2.2.1 u.2.2.2)) (st := (fun (u : (Nat → Int32) × Int32 × Int32 × Int32) => wM K ad (sI (sI (sI (sA S 21 u.1) 27 u.2.1) 28 u.2.2.1) 30 u.2.2.2) ++ X)) (u := (a21, i27, i28, i30)) C hr d_Mo_measure_264 (wn_eq w rfl) hw
      · have hw := hw.2 hc
        refine lv_aload_n hx hb d_Mo_measure_232 rfl (lv_at hl 0 rfl) ?_
        refine kg (C1 := R_Mo) (T := F_Mo) (N := 43) (ci := 10) (ref := "LineBreakerModel") (v := .ref (ad 6)) C w 0 7 iw_Mo rfl rfl (by decide) kw_884 rfl rfl d_Mo_measure_233 ?_
        refine lv_iload_n hx hb d_Mo_measure_236 rfl (lv_at hl 1 rfl) ?_
        refine ka_i (f := (S.1 6)) C w 6 rfl hw.1 d_Mo_measure_237 ?_
        have hw := hw.2
        refine lv_ldc (v := (-1073741824)) hx hb C.2.2.2.1 (hts _ kw_1054) d_Mo_measure_238 ?_
        refine lv_icmp_eq (tgt := 257) hx hb d_Mo_measure_240 (by decide) (fun hc => ?_) (fun hc => ?_)
        · have hw := hw.1 hc
          refine lv_aload_n hx hb d_Mo_measure_257 rfl (lv_at hl 0 rfl) ?_
          refine kg (C1 := R_Mo) (T := F_Mo) (N := 43) (ci := 10) (ref := "LineBreakerModel") (v := .int i28) C w 0 28 iw_Mo rfl rfl (by decide) kw_905 rfl rfl d_Mo_measure_258 ?_
          refine kp (C1 := R_Mo) (T := F_Mo) (N := 43) (ci := 10) (ty0 := t_Mo) (ref := "LineBreakerModel") (w2 := wM K ad (sI (sI (sI (sA S 21 a21) 27 i27) 28 i28) 30 i30) ++ X) C w 0 28 iw_Mo tk_Mo n_Mo rfl rfl (by decide) kw_905 rfl rfl rfl rfl (Nat.le_of_ble_eq_true rfl) rfl d_Mo_measure_261 (fun H locs w => ?_)
          exact ke_v (post := (fun (u : (Nat → Int32) × Int32 × Int32 × Int32) => post u.1 u.2.1 u.2.2.1 u.2.2.2)) (st := (fun (u : (Nat → Int32) × Int32 × Int32 × Int32) => wM K ad (sI (sI (sI (sA S 21 u.1) 27 u.2.1) 28 u.2.2.1) 30 u.2.2.2) ++ X)) (u := (a21, i27, i28, i30)) C hr d_Mo_measure_264 (wn_eq w rfl) hw
        · have hw := hw.2 hc
          refine lv_aload_n hx hb d_Mo_measure_243 rfl (lv_at hl 0 rfl) ?_
          refine kg (C1 := R_Mo) (T := F_Mo) (N := 43) (ci := 10) (ref := "LineBreakerModel") (v := .int i28) C w 0 28 iw_Mo rfl rfl (by decide) kw_905 rfl rfl d_Mo_measure_244 ?_
          refine lv_aload_n hx hb d_Mo_measure_247 rfl (lv_at hl 0 rfl) ?_
          refine kg (C1 := R_Mo) (T := F_Mo) (N := 43) (ci := 10) (ref := "LineBreakerModel") (v := .ref (ad 6)) C w 0 7 iw_Mo rfl rfl (by decide) kw_884 rfl rfl d_Mo_measure_248 ?_
          refine lv_iload_n hx hb d_Mo_measure_251 rfl (lv_at hl 1 rfl) ?_
          refine ka_i (f := (S.1 6)) C w 6 rfl hw.1 d_Mo_measure_252 ?_
          have hw := hw.2
          refine lv_iadd hx hb d_Mo_measure_253 ?_
          refine lv_goto (tgt := 261) hx hb d_Mo_measure_254 (by decide) ?_
          refine lv_topi (fun v2 ev2 => ?_)
          have hw := hw v2 ev2
          refine kp (C1 := R_Mo) (T := F_Mo) (N := 43) (ci := 10) (ty0 := t_Mo) (ref := "LineBreakerModel") (w2 := wM K ad (sI (sI (sI (sA S 21 a21) 27 i27) 28 v2) 30 i30) ++ X) C w 0 28 iw_Mo tk_Mo n_Mo rfl rfl (by decide) kw_905 rfl rfl rfl rfl (Nat.le_of_ble_eq_true rfl) rfl d_Mo_measure_261 (fun H locs w => ?_)
          exact ke_v (post := (fun (u : (Nat → Int32) × Int32 × Int32 × Int32) => post u.1 u.2.1 u.2.2.1 u.2.2.2)) (st := (fun (u : (Nat → Int32) × Int32 × Int32 × Int32) => wM K ad (sI (sI (sI (sA S 21 u.1) 27 u.2.1) 28 u.2.2.1) 30 u.2.2.2) ++ X)) (u := (a21, i27, v2, i30)) C hr d_Mo_measure_264 (wn_eq w rfl) hw
    · have hw := hw.2 hc
      refine lv_aload_n hx hb d_Mo_measure_141 rfl (lv_at hl 0 rfl) ?_
      refine kg (C1 := R_Mo) (T := F_Mo) (N := 43) (ci := 10) (ref := "LineBreakerModel") (v := .ref (ad 1)) C w 0 2 iw_Mo rfl rfl (by decide) kw_879 rfl rfl d_Mo_measure_142 ?_
      refine lv_iload_n hx hb d_Mo_measure_145 rfl (lv_at hl 2 rfl) ?_
      refine ka_i (f := (S.1 1)) C w 1 rfl hw.1 d_Mo_measure_146 ?_
      have hw := hw.2
      refine lv_iconst (v := 1) hx hb d_Mo_measure_147 (by decide) ?_
      refine lv_icmp_ne (tgt := 182) hx hb d_Mo_measure_148 (by decide) (fun hc => ?_) (fun hc => ?_)
      · have hw := hw.1 hc
        refine lv_aload_n hx hb d_Mo_measure_182 rfl (lv_at hl 0 rfl) ?_
        refine kg (C1 := R_Mo) (T := F_Mo) (N := 43) (ci := 10) (ref := "LineBreakerModel") (v := .ref (ad 1)) C w 0 2 iw_Mo rfl rfl (by decide) kw_879 rfl rfl d_Mo_measure_183 ?_
        refine lv_iload_n hx hb d_Mo_measure_186 rfl (lv_at hl 2 rfl) ?_
        refine ka_i (f := (S.1 1)) C w 1 rfl hw.1 d_Mo_measure_187 ?_
        have hw := hw.2
        refine lv_iconst (v := 4) hx hb d_Mo_measure_188 (by decide) ?_
        refine lv_icmp_eq (tgt := 217) hx hb d_Mo_measure_189 (by decide) (fun hc => ?_) (fun hc => ?_)
        · have hw := hw.1 hc
          obtain ⟨v3, ev3⟩ : ∃ y : Int32, y = x3 + 1 := ⟨_, rfl⟩
          refine lv_iinc (v := v3) (lv' := [(3, .int v3), (0, .ref (ad 0)), (2, .int x2)]) hx hb d_Mo_measure_217 hl (k := 2) rfl (by rw [ev3]; rfl) (by decide) rfl (fun ls hl => ?_)
          have hw := hw v3 ev3
          refine lv_goto (tgt := 136) hx hb d_Mo_measure_220 (by decide) ?_
          exact ih a21 i27 i28 i30 x2 v3 hw _ _ _ (wn_eq w rfl) (lv_sub hl [1, 2, 0] rfl)
        · have hw := hw.2 hc
          refine lv_aload_n hx hb d_Mo_measure_192 rfl (lv_at hl 0 rfl) ?_
          refine kg (C1 := R_Mo) (T := F_Mo) (N := 43) (ci := 10) (ref := "LineBreakerModel") (v := .ref (ad 1)) C w 0 2 iw_Mo rfl rfl (by decide) kw_879 rfl rfl d_Mo_measure_193 ?_
          refine lv_iload_n hx hb d_Mo_measure_196 rfl (lv_at hl 2 rfl) ?_
          refine ka_i (f := (S.1 1)) C w 1 rfl hw.1 d_Mo_measure_197 ?_
          have hw := hw.2
          refine lv_iconst (v := 5) hx hb d_Mo_measure_198 (by decide) ?_
          refine lv_icmp_eq (tgt := 217) hx hb d_Mo_measure_199 (by decide) (fun hc => ?_) (fun hc => ?_)
          · have hw := hw.1 hc
            obtain ⟨v4, ev4⟩ : ∃ y : Int32, y = x3 + 1 := ⟨_, rfl⟩
            refine lv_iinc (v := v4) (lv' := [(3, .int v4), (0, .ref (ad 0)), (2, .int x2)]) hx hb d_Mo_measure_217 hl (k := 2) rfl (by rw [ev4]; rfl) (by decide) rfl (fun ls hl => ?_)
            have hw := hw v4 ev4
            refine lv_goto (tgt := 136) hx hb d_Mo_measure_220 (by decide) ?_
            exact ih a21 i27 i28 i30 x2 v4 hw _ _ _ (wn_eq w rfl) (lv_sub hl [1, 2, 0] rfl)
          · have hw := hw.2 hc
            refine lv_aload_n hx hb d_Mo_measure_202 rfl (lv_at hl 0 rfl) ?_
            refine lv_aload_n hx hb d_Mo_measure_203 rfl (lv_at hl 0 rfl) ?_
            refine kg (C1 := R_Mo) (T := F_Mo) (N := 43) (ci := 10) (ref := "LineBreakerModel") (v := .int i28) C w 0 28 iw_Mo rfl rfl (by decide) kw_905 rfl rfl d_Mo_measure_204 ?_
            refine lv_aload_n hx hb d_Mo_measure_207 rfl (lv_at hl 0 rfl) ?_
            refine kg (C1 := R_Mo) (T := F_Mo) (N := 43) (ci := 10) (ref := "LineBreakerModel") (v := .ref (ad 2)) C w 0 3 iw_Mo rfl rfl (by decide) kw_880 rfl rfl d_Mo_measure_208 ?_
            refine lv_iload_n hx hb d_Mo_measure_211 rfl (lv_at hl 2 rfl) ?_
            refine ka_i (f := (S.1 2)) C w 2 rfl hw.1 d_Mo_measure_212 ?_
            have hw := hw.2
            refine lv_iadd hx hb d_Mo_measure_213 ?_
            refine lv_topi (fun v5 ev5 => ?_)
            have hw := hw v5 ev5
            refine kp (C1 := R_Mo) (T := F_Mo) (N := 43) (ci := 10) (ty0 := t_Mo) (ref := "LineBreakerModel") (w2 := wM K ad (sI (sI (sI (sA S 21 a21) 27 i27) 28 v5) 30 i30) ++ X) C w 0 28 iw_Mo tk_Mo n_Mo rfl rfl (by decide) kw_905 rfl rfl rfl rfl (Nat.le_of_ble_eq_true rfl) rfl d_Mo_measure_214 (fun H locs w => ?_)
            obtain ⟨v6, ev6⟩ : ∃ y : Int32, y = x3 + 1 := ⟨_, rfl⟩
            refine lv_iinc (v := v6) (lv' := [(3, .int v6), (0, .ref (ad 0)), (2, .int x2)]) hx hb d_Mo_measure_217 hl (k := 2) rfl (by rw [ev6]; rfl) (by decide) rfl (fun ls hl => ?_)
            have hw := hw v6 ev6
            refine lv_goto (tgt := 136) hx hb d_Mo_measure_220 (by decide) ?_
            exact ih a21 i27 v5 i30 x2 v6 hw _ _ _ (wn_eq w rfl) (lv_sub hl [1, 2, 0] rfl)
      · have hw := hw.2 hc
        refine lv_aload_n hx hb d_Mo_measure_151 rfl (lv_at hl 0 rfl) ?_
        refine lv_aload_n hx hb d_Mo_measure_152 rfl (lv_at hl 0 rfl) ?_
        refine kg (C1 := R_Mo) (T := F_Mo) (N := 43) (ci := 10) (ref := "LineBreakerModel") (v := .ref (ad 2)) C w 0 3 iw_Mo rfl rfl (by decide) kw_880 rfl rfl d_Mo_measure_153 ?_
        refine lv_iload_n hx hb d_Mo_measure_156 rfl (lv_at hl 2 rfl) ?_
        refine ka_i (f := (S.1 2)) C w 2 rfl hw.1 d_Mo_measure_157 ?_
        have hw := hw.2
        refine lv_aload_n hx hb d_Mo_measure_158 rfl (lv_at hl 0 rfl) ?_
        refine kg (C1 := R_Mo) (T := F_Mo) (N := 43) (ci := 10) (ref := "LineBreakerModel") (v := .ref (ad 3)) C w 0 4 iw_Mo rfl rfl (by decide) kw_881 rfl rfl d_Mo_measure_159 ?_
        refine lv_iload_n hx hb d_Mo_measure_162 rfl (lv_at hl 2 rfl) ?_
        refine ka_i (f := (S.1 3)) C w 3 rfl hw.1 d_Mo_measure_163 ?_
        have hw := hw.2
        refine lv_aload_n hx hb d_Mo_measure_164 rfl (lv_at hl 0 rfl) ?_
        refine kg (C1 := R_Mo) (T := F_Mo) (N := 43) (ci := 10) (ref := "LineBreakerModel") (v := .ref (ad 4)) C w 0 5 iw_Mo rfl rfl (by decide) kw_882 rfl rfl d_Mo_measure_165 ?_
        refine lv_iload_n hx hb d_Mo_measure_168 rfl (lv_at hl 2 rfl) ?_
        refine ka_i (f := (S.1 4)) C w 4 rfl hw.1 d_Mo_measure_169 ?_
        have hw := hw.2
        refine lv_aload_n hx hb d_Mo_measure_170 rfl (lv_at hl 0 rfl) ?_
        refine kg (C1 := R_Mo) (T := F_Mo) (N := 43) (ci := 10) (ref := "LineBreakerModel") (v := .ref (ad 5)) C w 0 6 iw_Mo rfl rfl (by decide) kw_883 rfl rfl d_Mo_measure_171 ?_
        refine lv_iload_n hx hb d_Mo_measure_174 rfl (lv_at hl 2 rfl) ?_
        refine ka_i (f := (S.1 5)) C w 5 rfl hw.1 d_Mo_measure_175 ?_
        have hw := hw.2
        refine kc_v (st := fun (u : (Nat → Int32) × Int32 × Int32) => wM K ad (sI (sI (sA (sI (sI (sI (sA S 21 a21) 27 i27) 28 i28) 30 i30) 21 u.1) 28 u.2.1) 30 u.2.2) ++ X) w (kr_V (y := y_Mo_addGlue) (C1 := R_Mo) (T := F_Mo) (N := 43) (ci := 10) (q0 := 0) (As := [.int ((S.1 2) x3.toNatClampNeg), .int ((S.1 3) x3.toNatClampNeg), .int ((S.1 4) x3.toNatClampNeg), .int ((S.1 5) x3.toNatClampNeg)]) (n := 4) C w (c_Mo_addGlue l n0 G K ad X (sI (sI (sI (sA S 21 a21) 27 i27) 28 i28) 30 i30) ((S.1 2) x3.toNatClampNeg) ((S.1 3) x3.toNatClampNeg) ((S.1 4) x3.toNatClampNeg) ((S.1 5) x3.toNatClampNeg) _ hw) (gw_V kw_1114 kw_1116 kp_27 kw_11 kw_1117) (by decide +kernel) rfl rfl ⟨Nat.le_of_ble_eq_true rfl, Nat.le_of_ble_eq_true rfl⟩ rfl rfl rfl hl.1 rfl (Nat.le_of_ble_eq_true rfl) d_Mo_measure_176 ⟨Nat.le_of_ble_eq_true rfl, Nat.le_of_ble_eq_true rfl⟩) (fun u H locs hw w => ?_)
        obtain ⟨f7, v8, v9⟩ := u
        dsimp only at hw
        have w : wn n0 G (wM K ad (sI (sI (sI (sA S 21 f7) 27 i27) 28 v8) 30 v9) ++ X) s H locs := w
        refine lv_goto (tgt := 217) hx hb d_Mo_measure_179 (by decide) ?_
        obtain ⟨v10, ev10⟩ : ∃ y : Int32, y = x3 + 1 := ⟨_, rfl⟩
        refine lv_iinc (v := v10) (lv' := [(3, .int v10), (0, .ref (ad 0)), (2, .int x2)]) hx hb d_Mo_measure_217 hl (k := 2) rfl (by rw [ev10]; rfl) (by decide) rfl (fun ls hl => ?_)
        have hw := hw v10 ev10
        refine lv_goto (tgt := 136) hx hb d_Mo_measure_220 (by decide) ?_
        exact ih f7 i27 v8 v9 x2 v10 hw _ _ _ (wn_eq w rfl) (lv_sub hl [1, 2, 0] rfl)
set_option maxHeartbeats 4000000 in
set_option maxRecDepth 100000 in
theorem w_Mo_measure_119 {S : ST} {post : (Nat → Int32) → Int32 → Int32 → Int32 → Prop} (C : cx p s m args meth c prog_12_method_27_code 4 "LineBreakerModel" n0 G K) (hr : meth.sig.returnType = none) : ∀ (a21 : (Nat → Int32)) (i28 : Int32) (i30 : Int32) (x1 : Int32) (x2 : Int32) (z1 : Int32), wl_Mo_measure_119 S post a21 i28 i30 x1 x2 z1 → ∀ (H : Heap) (locs : List Loc) (ls : Array Slot), wn n0 G (wM K ad (sI (sI (sA S 21 a21) 28 i28) 30 i30) ++ X) s H locs → lv_has ls 4 [(0, .ref (ad 0)), (1, .int x1), (2, .int x2)] → W p l e rm_Mo_measure s m args below meth c H locs 0 0 (MQ below (va_Qv (fun (u : (Nat → Int32) × Int32 × Int32 × Int32) => post u.1 u.2.1 u.2.2.1 u.2.2.2) (fun (u : (Nat → Int32) × Int32 × Int32 × Int32) t => we n0 G (wM K ad (sI (sI (sI (sA S 21 u.1) 27 u.2.1) 28 u.2.2.1) 30 u.2.2.2) ++ X) t) (al n0)) args s 0 0 (al n0)) (F0 m 119 ls [.int z1, .ref (ad 0)]) := by
  have hx := C.1
  have hb := C.2.1
  have hts := C.2.2.2.2.1
  intro a21 i28 i30 x1 x2 z1 hw H locs ls w hl
  unfold wl_Mo_measure_119 at hw
  refine kp (C1 := R_Mo) (T := F_Mo) (N := 43) (ci := 10) (ty0 := t_Mo) (ref := "LineBreakerModel") (w2 := wM K ad (sI (sI (sA S 21 a21) 28 z1) 30 i30) ++ X) C w 0 28 iw_Mo tk_Mo n_Mo rfl rfl (by decide) kw_905 rfl rfl rfl rfl (Nat.le_of_ble_eq_true rfl) rfl d_Mo_measure_119 (fun H locs w => ?_)
  refine lv_aload_n hx hb d_Mo_measure_122 rfl (lv_at hl 0 rfl) ?_
  refine lv_aload_n hx hb d_Mo_measure_123 rfl (lv_at hl 0 rfl) ?_
  refine lv_iload_n hx hb d_Mo_measure_124 rfl (lv_at hl 1 rfl) ?_
  refine kd_i (kr_V (y := y_Mo_firstOf) (C1 := R_Mo) (T := F_Mo) (N := 43) (ci := 10) (q0 := 0) (As := [.int x1]) (n := 1) C w (c_Mo_firstOf l n0 G K ad X (sI (sI (sA S 21 a21) 28 z1) 30 i30) x1 _ hw) (gw_V kw_1122 kw_1124 kp_29 kw_11 kw_1125) (by decide +kernel) rfl rfl ⟨Nat.le_of_ble_eq_true rfl, Nat.le_of_ble_eq_true rfl⟩ rfl rfl rfl hl.1 rfl (Nat.le_of_ble_eq_true rfl) d_Mo_measure_125 ⟨Nat.le_of_ble_eq_true rfl, Nat.le_of_ble_eq_true rfl⟩) (fun r1 hw => ?_)
  refine kp (C1 := R_Mo) (T := F_Mo) (N := 43) (ci := 10) (ty0 := t_Mo) (ref := "LineBreakerModel") (w2 := wM K ad (sI (sI (sI (sA S 21 a21) 27 r1) 28 z1) 30 i30) ++ X) C w 0 27 iw_Mo tk_Mo n_Mo rfl rfl (by decide) kw_904 rfl rfl rfl rfl (Nat.le_of_ble_eq_true rfl) rfl d_Mo_measure_128 (fun H locs w => ?_)
  refine lv_aload_n hx hb d_Mo_measure_131 rfl (lv_at hl 0 rfl) ?_
  refine kg (C1 := R_Mo) (T := F_Mo) (N := 43) (ci := 10) (ref := "LineBreakerModel") (v := .int r1) C w 0 27 iw_Mo rfl rfl (by decide) kw_904 rfl rfl d_Mo_measure_132 ?_
  refine lv_istore_n (lv' := [(3, .int r1), (0, .ref (ad 0)), (1, .int x1), (2, .int x2)]) hx hb d_Mo_measure_135 rfl hl (by decide) rfl (fun ls hl => ?_)
  obtain ⟨n9, hw⟩ := hw
  exact w_Mo_measure_136 C hr  n9 a21 r1 z1 i30 x2 r1 hw _ _ _ (wn_eq w rfl) (lv_sub hl [1, 3, 0] rfl)
set_option maxHeartbeats 4000000 in
set_option maxRecDepth 100000 in
theorem w_Mo_measure_115 {S : ST} {post : (Nat → Int32) → Int32 → Int32 → Int32 → Prop} (C : cx p s m args meth c prog_12_method_27_code 4 "LineBreakerModel" n0 G K) (hr : meth.sig.returnType = none) : ∀ (a21 : (Nat → Int32)) (i28 : Int32) (i30 : Int32) (x1 : Int32) (x2 : Int32), wl_Mo_measure_115 S post a21 i28 i30 x1 x2 → ∀ (H : Heap) (locs : List Loc) (ls : Array Slot), wn n0 G (wM K ad (sI (sI (sA S 21 a21) 28 i28) 30 i30) ++ X) s H locs → lv_has ls 4 [(0, .ref (ad 0)), (1, .int x1), (2, .int x2)] → W p l e rm_Mo_measure s m args below meth c H locs 0 0 (MQ below (va_Qv (fun (u : (Nat → Int32) × Int32 × Int32 × Int32) => post u.1 u.2.1 u.2.2.1 u.2.2.2) (fun (u : (Nat → Int32) × Int32 × Int32 × Int32) t => we n0 G (wM K ad (sI (sI (sI (sA S 21 u.1) 27 u.2.1) 28 u.2.2.1) 30 u.2.2.2) ++ X) t) (al n0)) args s 0 0 (al n0)) (F0 m 115 ls [.ref (ad 0)]) := by
  have hx := C.1
  have hb := C.2.1
  have hts := C.2.2.2.2.1
  intro a21 i28 i30 x1 x2 hw H locs ls w hl
  unfold wl_Mo_measure_115 at hw
  refine lv_aload_n hx hb d_Mo_measure_115 rfl (lv_at hl 0 rfl) ?_
  refine kg (C1 := R_Mo) (T := F_Mo) (N := 43) (ci := 10) (ref := "LineBreakerModel") (v := .int i28) C w 0 28 iw_Mo rfl rfl (by decide) kw_905 rfl rfl d_Mo_measure_116 ?_
  exact w_Mo_measure_119 C hr  a21 i28 i30 x1 x2 i28 hw _ _ _ (wn_eq w rfl) (lv_sub hl [0, 1, 2] rfl)
set_option maxHeartbeats 4000000 in
set_option maxRecDepth 100000 in
theorem w_Mo_measure_42 {S : ST} {post : (Nat → Int32) → Int32 → Int32 → Int32 → Prop} (C : cx p s m args meth c prog_12_method_27_code 4 "LineBreakerModel" n0 G K) (hr : meth.sig.returnType = none) : ∀ (n : Nat) (a21 : (Nat → Int32)) (i28 : Int32) (i30 : Int32) (x1 : Int32) (x2 : Int32) (x3 : Int32), wl_Mo_measure_42 S post n a21 i28 i30 x1 x2 x3 → ∀ (H : Heap) (locs : List Loc) (ls : Array Slot), wn n0 G (wM K ad (sI (sI (sA S 21 a21) 28 i28) 30 i30) ++ X) s H locs → lv_has ls 4 [(0, .ref (ad 0)), (1, .int x1), (2, .int x2), (3, .int x3)] → W p l e rm_Mo_measure s m args below meth c H locs 0 0 (MQ below (va_Qv (fun (u : (Nat → Int32) × Int32 × Int32 × Int32) => post u.1 u.2.1 u.2.2.1 u.2.2.2) (fun (u : (Nat → Int32) × Int32 × Int32 × Int32) t => we n0 G (wM K ad (sI (sI (sI (sA S 21 u.1) 27 u.2.1) 28 u.2.2.1) 30 u.2.2.2) ++ X) t) (al n0)) args s 0 0 (al n0)) (F0 m 42 ls []) := by
  have hx := C.1
  have hb := C.2.1
  have hts := C.2.2.2.2.1
  intro n
  induction n with
  | zero =>
    intro a21 i28 i30 x1 x2 x3 hw
    unfold wl_Mo_measure_42 at hw
    exact hw.elim
  | succ n ih =>
    intro a21 i28 i30 x1 x2 x3 hw H locs ls w hl
    unfold wl_Mo_measure_42 at hw
    refine lv_iload_n hx hb d_Mo_measure_42 rfl (lv_at hl 3 rfl) ?_
    refine lv_iconst (v := 2) hx hb d_Mo_measure_43 (by decide) ?_
    refine lv_icmp_ge (tgt := 81) hx hb d_Mo_measure_44 (by decide) (fun hc => ?_) (fun hc => ?_)
    · have hw := hw.1 hc
      refine lv_aload_n hx hb d_Mo_measure_81 rfl (lv_at hl 0 rfl) ?_
      refine lv_aload_n hx hb d_Mo_measure_82 rfl (lv_at hl 0 rfl) ?_
      refine lv_iload_n hx hb d_Mo_measure_83 rfl (lv_at hl 1 rfl) ?_
      refine kd_i (kr_V (y := y_Mo_isHyphen) (C1 := R_Mo) (T := F_Mo) (N := 43) (ci := 10) (q0 := 0) (As := [.int x1]) (n := 1) C w (c_Mo_isHyphen l n0 G K ad X (sI (sI (sA S 21 a21) 28 i28) 30 i30) x1 _ hw) (gw_V kw_1118 kw_1120 kp_28 kw_11 kw_1121) (by decide +kernel) rfl rfl ⟨Nat.le_of_ble_eq_true rfl, Nat.le_of_ble_eq_true rfl⟩ rfl rfl rfl hl.1 rfl (Nat.le_of_ble_eq_true rfl) d_Mo_measure_84 ⟨Nat.le_of_ble_eq_true rfl, Nat.le_of_ble_eq_true rfl⟩) (fun r1 hw => ?_)
      refine lv_if_eq (tgt := 115) hx hb d_Mo_measure_87 (by decide) (fun hc => ?_) (fun hc => ?_)
      · have hw := hw.1 hc
        exact w_Mo_measure_115 C hr  a21 i28 i30 x1 x2 hw _ _ _ (wn_eq w rfl) (lv_sub hl [0, 1, 2] rfl)
      · have hw := hw.2 hc
        refine lv_aload_n hx hb d_Mo_measure_90 rfl (lv_at hl 0 rfl) ?_
        refine kg (C1 := R_Mo) (T := F_Mo) (N := 43) (ci := 10) (ref := "LineBreakerModel") (v := .ref (ad 7)) C w 0 8 iw_Mo rfl rfl (by decide) kw_885 rfl rfl d_Mo_measure_91 ?_
        refine lv_iload_n hx hb d_Mo_measure_94 rfl (lv_at hl 1 rfl) ?_
        refine ka_i (f := (S.1 7)) C w 7 rfl hw.1 d_Mo_measure_95 ?_
        have hw := hw.2
        refine lv_ldc (v := (-1073741824)) hx hb C.2.2.2.1 (hts _ kw_1054) d_Mo_measure_96 ?_
        refine lv_icmp_eq (tgt := 115) hx hb d_Mo_measure_98 (by decide) (fun hc => ?_) (fun hc => ?_)
        · have hw := hw.1 hc
          exact w_Mo_measure_115 C hr  a21 i28 i30 x1 x2 hw _ _ _ (wn_eq w rfl) (lv_sub hl [0, 1, 2] rfl)
        · have hw := hw.2 hc
          refine lv_aload_n hx hb d_Mo_measure_101 rfl (lv_at hl 0 rfl) ?_
          refine kg (C1 := R_Mo) (T := F_Mo) (N := 43) (ci := 10) (ref := "LineBreakerModel") (v := .int i28) C w 0 28 iw_Mo rfl rfl (by decide) kw_905 rfl rfl d_Mo_measure_102 ?_
          refine lv_aload_n hx hb d_Mo_measure_105 rfl (lv_at hl 0 rfl) ?_
          refine kg (C1 := R_Mo) (T := F_Mo) (N := 43) (ci := 10) (ref := "LineBreakerModel") (v := .ref (ad 7)) C w 0 8 iw_Mo rfl rfl (by decide) kw_885 rfl rfl d_Mo_measure_106 ?_
          refine lv_iload_n hx hb d_Mo_measure_109 rfl (lv_at hl 1 rfl) ?_
          refine ka_i (f := (S.1 7)) C w 7 rfl hw.1 d_Mo_measure_110 ?_
          have hw := hw.2
          refine lv_iadd hx hb d_Mo_measure_111 ?_
          refine lv_goto (tgt := 119) hx hb d_Mo_measure_112 (by decide) ?_
          exact w_Mo_measure_119 C hr  a21 i28 i30 x1 x2 (i28 + ((S.1 7) x1.toNatClampNeg)) hw _ _ _ (wn_eq w rfl) (lv_sub hl [0, 1, 2] rfl)
    · have hw := hw.2 hc
      refine lv_aload_n hx hb d_Mo_measure_47 rfl (lv_at hl 0 rfl) ?_
      refine lv_aload_n hx hb d_Mo_measure_48 rfl (lv_at hl 0 rfl) ?_
      refine kg (C1 := R_Mo) (T := F_Mo) (N := 43) (ci := 10) (ref := "LineBreakerModel") (v := .ref (ad 11)) C w 0 12 iw_Mo rfl rfl (by decide) kw_889 rfl rfl d_Mo_measure_49 ?_
      refine lv_iload_n hx hb d_Mo_measure_52 rfl (lv_at hl 3 rfl) ?_
      refine ka_i (f := (S.1 11)) C w 11 rfl hw.1 d_Mo_measure_53 ?_
      have hw := hw.2
      refine lv_aload_n hx hb d_Mo_measure_54 rfl (lv_at hl 0 rfl) ?_
      refine kg (C1 := R_Mo) (T := F_Mo) (N := 43) (ci := 10) (ref := "LineBreakerModel") (v := .ref (ad 12)) C w 0 13 iw_Mo rfl rfl (by decide) kw_890 rfl rfl d_Mo_measure_55 ?_
      refine lv_iload_n hx hb d_Mo_measure_58 rfl (lv_at hl 3 rfl) ?_
      refine ka_i (f := (S.1 12)) C w 12 rfl hw.1 d_Mo_measure_59 ?_
      have hw := hw.2
      refine lv_aload_n hx hb d_Mo_measure_60 rfl (lv_at hl 0 rfl) ?_
      refine kg (C1 := R_Mo) (T := F_Mo) (N := 43) (ci := 10) (ref := "LineBreakerModel") (v := .ref (ad 13)) C w 0 14 iw_Mo rfl rfl (by decide) kw_891 rfl rfl d_Mo_measure_61 ?_
      refine lv_iload_n hx hb d_Mo_measure_64 rfl (lv_at hl 3 rfl) ?_
      refine ka_i (f := (S.1 13)) C w 13 rfl hw.1 d_Mo_measure_65 ?_
      have hw := hw.2
      refine lv_aload_n hx hb d_Mo_measure_66 rfl (lv_at hl 0 rfl) ?_
      refine kg (C1 := R_Mo) (T := F_Mo) (N := 43) (ci := 10) (ref := "LineBreakerModel") (v := .ref (ad 14)) C w 0 15 iw_Mo rfl rfl (by decide) kw_892 rfl rfl d_Mo_measure_67 ?_
      refine lv_iload_n hx hb d_Mo_measure_70 rfl (lv_at hl 3 rfl) ?_
      refine ka_i (f := (S.1 14)) C w 14 rfl hw.1 d_Mo_measure_71 ?_
      have hw := hw.2
      refine kc_v (st := fun (u : (Nat → Int32) × Int32 × Int32) => wM K ad (sI (sI (sA (sI (sI (sA S 21 a21) 28 i28) 30 i30) 21 u.1) 28 u.2.1) 30 u.2.2) ++ X) w (kr_V (y := y_Mo_addGlue) (C1 := R_Mo) (T := F_Mo) (N := 43) (ci := 10) (q0 := 0) (As := [.int ((S.1 11) x3.toNatClampNeg), .int ((S.1 12) x3.toNatClampNeg), .int ((S.1 13) x3.toNatClampNeg), .int ((S.1 14) x3.toNatClampNeg)]) (n := 4) C w (c_Mo_addGlue l n0 G K ad X (sI (sI (sA S 21 a21) 28 i28) 30 i30) ((S.1 11) x3.toNatClampNeg) ((S.1 12) x3.toNatClampNeg) ((S.1 13) x3.toNatClampNeg) ((S.1 14) x3.toNatClampNeg) _ hw) (gw_V kw_1114 kw_1116 kp_27 kw_11 kw_1117) (by decide +kernel) rfl rfl ⟨Nat.le_of_ble_eq_true rfl, Nat.le_of_ble_eq_true rfl⟩ rfl rfl rfl hl.1 rfl (Nat.le_of_ble_eq_true rfl) d_Mo_measure_72 ⟨Nat.le_of_ble_eq_true rfl, Nat.le_of_ble_eq_true rfl⟩) (fun u H locs hw w => ?_)
      obtain ⟨f2, v3, v4⟩ := u
      dsimp only at hw
      have w : wn n0 G (wM K ad (sI (sI (sA S 21 f2) 28 v3) 30 v4) ++ X) s H locs := w
      obtain ⟨v5, ev5⟩ : ∃ y : Int32, y = x3 + 1 := ⟨_, rfl⟩
      refine lv_iinc (v := v5) (lv' := [(3, .int v5), (0, .ref (ad 0)), (1, .int x1), (2, .int x2)]) hx hb d_Mo_measure_75 hl (k := 3) rfl (by rw [ev5]; rfl) (by decide) rfl (fun ls hl => ?_)
      have hw := hw v5 ev5
      refine lv_goto (tgt := 42) hx hb d_Mo_measure_78 (by decide) ?_
      exact ih f2 v3 v4 x1 x2 v5 hw _ _ _ (wn_eq w rfl) (lv_sub hl [1, 2, 3, 0] rfl)
set_option maxHeartbeats 4000000 in
set_option maxRecDepth 100000 in
theorem w_Mo_measure_12 {S : ST} {post : (Nat → Int32) → Int32 → Int32 → Int32 → Prop} (C : cx p s m args meth c prog_12_method_27_code 4 "LineBreakerModel" n0 G K) (hr : meth.sig.returnType = none) : ∀ (n : Nat) (a21 : (Nat → Int32)) (i28 : Int32) (i30 : Int32) (x1 : Int32) (x2 : Int32) (x3 : Int32), wl_Mo_measure_12 S post n a21 i28 i30 x1 x2 x3 → ∀ (H : Heap) (locs : List Loc) (ls : Array Slot), wn n0 G (wM K ad (sI (sI (sA S 21 a21) 28 i28) 30 i30) ++ X) s H locs → lv_has ls 4 [(0, .ref (ad 0)), (1, .int x1), (2, .int x2), (3, .int x3)] → W p l e rm_Mo_measure s m args below meth c H locs 0 0 (MQ below (va_Qv (fun (u : (Nat → Int32) × Int32 × Int32 × Int32) => post u.1 u.2.1 u.2.2.1 u.2.2.2) (fun (u : (Nat → Int32) × Int32 × Int32 × Int32) t => we n0 G (wM K ad (sI (sI (sI (sA S 21 u.1) 27 u.2.1) 28 u.2.2.1) 30 u.2.2.2) ++ X) t) (al n0)) args s 0 0 (al n0)) (F0 m 12 ls []) := by
  have hx := C.1
  have hb := C.2.1
  have hts := C.2.2.2.2.1
  intro n
  induction n with
  | zero =>
    intro a21 i28 i30 x1 x2 x3 hw
    unfold wl_Mo_measure_12 at hw
    exact hw.elim
  | succ n ih =>
    intro a21 i28 i30 x1 x2 x3 hw H locs ls w hl
    unfold wl_Mo_measure_12 at hw
    refine lv_iload_n hx hb d_Mo_measure_12 rfl (lv_at hl 3 rfl) ?_
    refine lv_iconst (v := 4) hx hb d_Mo_measure_13 (by decide) ?_
    refine lv_icmp_ge (tgt := 30) hx hb d_Mo_measure_14 (by decide) (fun hc => ?_) (fun hc => ?_)
    · have hw := hw.1 hc
      refine lv_aload_n hx hb d_Mo_measure_30 rfl (lv_at hl 0 rfl) ?_
      refine kg (C1 := R_Mo) (T := F_Mo) (N := 43) (ci := 10) (ref := "LineBreakerModel") (v := .ref (ad 21)) C w 0 29 iw_Mo rfl rfl (by decide) kw_906 rfl rfl d_Mo_measure_31 ?_
      refine lv_iconst (v := 0) hx hb d_Mo_measure_34 (by decide) ?_
      refine lv_aload_n hx hb d_Mo_measure_35 rfl (lv_at hl 0 rfl) ?_
      refine kg (C1 := R_Mo) (T := F_Mo) (N := 43) (ci := 10) (ref := "LineBreakerModel") (v := .int (S.2.2 19)) C w 0 19 iw_Mo rfl rfl (by decide) kw_896 rfl rfl d_Mo_measure_36 ?_
      obtain ⟨f1, ef1⟩ : ∃ z : Nat → Int32, z = upd a21 ((0 : Int32).toNatClampNeg) (S.2.2 19) := ⟨_, rfl⟩
      refine ks_i (f := a21) (w2 := wM K ad (sI (sI (sA S 21 f1) 28 i28) 30 i30) ++ X) C w 21 rfl hw.1 (by rw [← ef1]; rfl) d_Mo_measure_39 (fun H locs w => ?_)
      have hw := hw.2 f1 ef1
      refine lv_iconst (v := 0) hx hb d_Mo_measure_40 (by decide) ?_
      refine lv_istore_n (lv' := [(3, .int 0), (0, .ref (ad 0)), (1, .int x1), (2, .int x2)]) hx hb d_Mo_measure_41 rfl hl (by decide) rfl (fun ls hl => ?_)
      obtain ⟨n9, hw⟩ := hw
      exact w_Mo_measure_42 C hr  n9 f1 i28 i30 x1 x2 0 hw _ _ _ (wn_eq w rfl) (lv_sub hl [1, 2, 3, 0] rfl)
    · have hw := hw.2 hc
      refine lv_aload_n hx hb d_Mo_measure_17 rfl (lv_at hl 0 rfl) ?_
      refine kg (C1 := R_Mo) (T := F_Mo) (N := 43) (ci := 10) (ref := "LineBreakerModel") (v := .ref (ad 21)) C w 0 29 iw_Mo rfl rfl (by decide) kw_906 rfl rfl d_Mo_measure_18 ?_
      refine lv_iload_n hx hb d_Mo_measure_21 rfl (lv_at hl 3 rfl) ?_
      refine lv_iconst (v := 0) hx hb d_Mo_measure_22 (by decide) ?_
      obtain ⟨f2, ef2⟩ : ∃ z : Nat → Int32, z = upd a21 x3.toNatClampNeg 0 := ⟨_, rfl⟩
      refine ks_i (f := a21) (w2 := wM K ad (sI (sI (sA S 21 f2) 28 i28) 30 i30) ++ X) C w 21 rfl hw.1 (by rw [← ef2]; rfl) d_Mo_measure_23 (fun H locs w => ?_)
      have hw := hw.2 f2 ef2
      obtain ⟨v3, ev3⟩ : ∃ y : Int32, y = x3 + 1 := ⟨_, rfl⟩
      refine lv_iinc (v := v3) (lv' := [(3, .int v3), (0, .ref (ad 0)), (1, .int x1), (2, .int x2)]) hx hb d_Mo_measure_24 hl (k := 3) rfl (by rw [ev3]; rfl) (by decide) rfl (fun ls hl => ?_)
      have hw := hw v3 ev3
      refine lv_goto (tgt := 12) hx hb d_Mo_measure_27 (by decide) ?_
      exact ih f2 i28 i30 x1 x2 v3 hw _ _ _ (wn_eq w rfl) (lv_sub hl [1, 2, 3, 0] rfl)
set_option maxHeartbeats 4000000 in
set_option maxRecDepth 100000 in
theorem c_Mo_measure (l : Launch) (n0 : Nat) (G : va_G) (K : KT) (ad : Nat → Nat) (X : va_W) (S : ST) (p1 : Int32) (p2 : Int32) (post : (Nat → Int32) → Int32 → Int32 → Int32 → Prop) (hw : wp_Mo_measure S p1 p2 post) : Met l y_Mo_measure (Cond.code y_Mo_measure prog_12_method_27_code 4 none :: gw) rm_Mo_measure (va_Pc [.ref (ad 0), .int p1, .int p2] (wb n0 G K (wM K ad S ++ X))) (va_Qv (fun (u : (Nat → Int32) × Int32 × Int32 × Int32) => post u.1 u.2.1 u.2.2.1 u.2.2.2) (fun (u : (Nat → Int32) × Int32 × Int32 × Int32) t => we n0 G (wM K ad (sI (sI (sI (sA S 21 u.1) 27 u.2.1) 28 u.2.2.1) 30 u.2.2.2) ++ X) t) (al n0)) 0 0 (al n0) := by
  refine kb_start (own := "LineBreakerModel") (by decide +kernel) rfl ?_
  intro p e s m below meth c C hr hne w
  have hx := C.1
  have hb := C.2.1
  have hts := C.2.2.2.2.1
  have hl := lv_entry ([.ref (ad 0), .int p1, .int p2]) (n := 4) (Nat.le_of_ble_eq_true rfl)
  rw [lg_entry_eq]
  generalize (lg_sl ([.ref (ad 0), .int p1, .int p2]) ++ List.replicate (4 - (lg_sl ([.ref (ad 0), .int p1, .int p2])).length) Slot.unset).toArray = ls at hl ⊢
  have hl : lv_has ls 4 [(0, .ref (ad 0)), (1, .int p1), (2, .int p2)] := hl
  unfold wp_Mo_measure at hw
  refine lv_aload_n hx hb d_Mo_measure_0 rfl (lv_at hl 0 rfl) ?_
  refine lv_iconst (v := 0) hx hb d_Mo_measure_1 (by decide) ?_
  refine kp (C1 := R_Mo) (T := F_Mo) (N := 43) (ci := 10) (ty0 := t_Mo) (ref := "LineBreakerModel") (w2 := wM K ad (sI S 28 0) ++ X) C w 0 28 iw_Mo tk_Mo n_Mo rfl rfl (by decide) kw_905 rfl rfl rfl rfl (Nat.le_of_ble_eq_true rfl) rfl d_Mo_measure_2 (fun H locs w => ?_)
  refine lv_aload_n hx hb d_Mo_measure_5 rfl (lv_at hl 0 rfl) ?_
  refine lv_iconst (v := 0) hx hb d_Mo_measure_6 (by decide) ?_
  refine kp (C1 := R_Mo) (T := F_Mo) (N := 43) (ci := 10) (ty0 := t_Mo) (ref := "LineBreakerModel") (w2 := wM K ad (sI (sI S 28 0) 30 0) ++ X) C w 0 30 iw_Mo tk_Mo n_Mo rfl rfl (by decide) kw_907 rfl rfl rfl rfl (Nat.le_of_ble_eq_true rfl) rfl d_Mo_measure_7 (fun H locs w => ?_)
  refine lv_iconst (v := 0) hx hb d_Mo_measure_10 (by decide) ?_
  refine lv_istore_n (lv' := [(3, .int 0), (0, .ref (ad 0)), (1, .int p1), (2, .int p2)]) hx hb d_Mo_measure_11 rfl hl (by decide) rfl (fun ls hl => ?_)
  obtain ⟨n9, hw⟩ := hw
  exact w_Mo_measure_12 C hr  n9 (S.1 21) 0 0 p1 p2 0 hw _ _ _ (wn_eq w rfl) (lv_sub hl [1, 2, 3, 0] rfl)
set_option maxHeartbeats 4000000 in
set_option maxRecDepth 100000 in
theorem w_Mo_bad_55 {S : ST} {post : Int32 → Prop} (C : cx p s m args meth c prog_12_method_28_code 6 "LineBreakerModel" n0 G K) (hr : meth.sig.returnType = (some .int)) : ∀ (z0 : Int64), wl_Mo_bad_55 S post z0 → ∀ (ls : Array Slot), wn n0 G (wM K ad S ++ X) s s.heap [] → lv_has ls 6 [] → W p l e rm_Mo_bad s m args below meth c s.heap [] 0 0 (MQ below (rq_i post) args s 0 0 (fun _ => False)) (F0 m 55 ls [.long z0]) := by
  have hx := C.1
  have hb := C.2.1
  have hts := C.2.2.2.2.1
  intro z0 hw ls w hl
  unfold wl_Mo_bad_55 at hw
  refine lv_lstore (lv' := [(4, .long z0)]) hx hb d_Mo_bad_55 hl (by decide) rfl (fun ls hl => ?_)
  refine lv_lload hx hb d_Mo_bad_57 (lv_at hl 0 rfl) ?_
  refine lv_ldc2 (v := 1290) hx hb C.2.2.2.1 (hts _ kw_1140) d_Mo_bad_59 ?_
  refine W.lcmp hx hb d_Mo_bad_62 ?_
  refine lv_if_le (tgt := 72) hx hb d_Mo_bad_63 (by decide) (fun hc => ?_) (fun hc => ?_)
  · have hw := hw.1 hc
    refine lv_lload hx hb d_Mo_bad_72 (lv_at hl 0 rfl) ?_
    refine lv_lload hx hb d_Mo_bad_74 (lv_at hl 0 rfl) ?_
    refine lv_lmul hx hb d_Mo_bad_76 ?_
    refine lv_lload hx hb d_Mo_bad_77 (lv_at hl 0 rfl) ?_
    refine lv_lmul hx hb d_Mo_bad_79 ?_
    refine lv_ldc2 (v := 131072) hx hb C.2.2.2.1 (hts _ kw_1141) d_Mo_bad_80 ?_
    refine lv_ladd hx hb d_Mo_bad_83 ?_
    refine lv_ldc2 (v := 262144) hx hb C.2.2.2.1 (hts _ kw_1142) d_Mo_bad_84 ?_
    refine lv_ldiv hx hb d_Mo_bad_87 hw.1 ?_
    have hw := hw.2
    refine lv_l2i hx hb d_Mo_bad_88 rfl ?_
    exact kf_i C hr d_Mo_bad_89 hw
  · have hw := hw.2 hc
    refine lv_sipush (v := 10000) hx hb d_Mo_bad_66 (by decide) ?_
    refine lv_goto (tgt := 89) hx hb d_Mo_bad_69 (by decide) ?_
    exact kf_i C hr d_Mo_bad_89 hw
set_option maxHeartbeats 4000000 in
set_option maxRecDepth 100000 in
theorem c_Mo_bad (l : Launch) (n0 : Nat) (G : va_G) (K : KT) (ad : Nat → Nat) (X : va_W) (S : ST) (p1 : Int64) (p2 : Int64) (post : Int32 → Prop) (hw : wp_Mo_bad S p1 p2 post) : Met l y_Mo_bad (Cond.code y_Mo_bad prog_12_method_28_code 6 (some .int) :: gw) rm_Mo_bad (va_Pc [.long p1, .long p2] (wb n0 G K (wM K ad S ++ X))) (rq_i post) 0 0 (fun _ => False) := by
  refine kb_start (own := "LineBreakerModel") (by decide +kernel) rfl ?_
  intro p e s m below meth c C hr hne w
  have hx := C.1
  have hb := C.2.1
  have hts := C.2.2.2.2.1
  have hl := lv_entry ([.long p1, .long p2]) (n := 6) (Nat.le_of_ble_eq_true rfl)
  rw [lg_entry_eq]
  generalize (lg_sl ([.long p1, .long p2]) ++ List.replicate (6 - (lg_sl ([.long p1, .long p2])).length) Slot.unset).toArray = ls at hl ⊢
  have hl : lv_has ls 6 [(0, .long p1), (2, .long p2)] := hl
  unfold wp_Mo_bad at hw
  refine lv_lload_n hx hb d_Mo_bad_0 rfl (lv_at hl 0 rfl) ?_
  refine lv_lconst (v := 0) hx hb d_Mo_bad_1 (by decide) ?_
  refine W.lcmp hx hb d_Mo_bad_2 ?_
  refine lv_if_ne (tgt := 8) hx hb d_Mo_bad_3 (by decide) (fun hc => ?_) (fun hc => ?_)
  · have hw := hw.1 hc
    refine lv_lload_n hx hb d_Mo_bad_8 rfl (lv_at hl 1 rfl) ?_
    refine lv_lconst (v := 0) hx hb d_Mo_bad_9 (by decide) ?_
    refine W.lcmp hx hb d_Mo_bad_10 ?_
    refine lv_if_ne (tgt := 18) hx hb d_Mo_bad_11 (by decide) (fun hc => ?_) (fun hc => ?_)
    · have hw := hw.1 hc
      refine lv_lload_n hx hb d_Mo_bad_18 rfl (lv_at hl 0 rfl) ?_
      refine lv_ldc2 (v := 7230584) hx hb C.2.2.2.1 (hts _ kw_1137) d_Mo_bad_19 ?_
      refine W.lcmp hx hb d_Mo_bad_22 ?_
      refine lv_if_gt (tgt := 36) hx hb d_Mo_bad_23 (by decide) (fun hc => ?_) (fun hc => ?_)
      · have hw := hw.1 hc
        refine lv_lload_n hx hb d_Mo_bad_36 rfl (lv_at hl 1 rfl) ?_
        refine lv_ldc2 (v := 1663497) hx hb C.2.2.2.1 (hts _ kw_1139) d_Mo_bad_37 ?_
        refine W.lcmp hx hb d_Mo_bad_40 ?_
        refine lv_if_lt (tgt := 54) hx hb d_Mo_bad_41 (by decide) (fun hc => ?_) (fun hc => ?_)
        · have hw := hw.1 hc
          refine lv_lload_n hx hb d_Mo_bad_54 rfl (lv_at hl 0 rfl) ?_
          exact w_Mo_bad_55 C hr  p1 hw _ w (lv_sub hl [] rfl)
        · have hw := hw.2 hc
          refine lv_lload_n hx hb d_Mo_bad_44 rfl (lv_at hl 0 rfl) ?_
          refine lv_lload_n hx hb d_Mo_bad_45 rfl (lv_at hl 1 rfl) ?_
          refine lv_ldc2 (v := 297) hx hb C.2.2.2.1 (hts _ kw_1138) d_Mo_bad_46 ?_
          refine lv_ldiv hx hb d_Mo_bad_49 hw.1 ?_
          have hw := hw.2
          refine lv_ldiv hx hb d_Mo_bad_50 hw.1 ?_
          have hw := hw.2
          refine lv_goto (tgt := 55) hx hb d_Mo_bad_51 (by decide) ?_
          exact w_Mo_bad_55 C hr  (p1 / (p2 / 297)) hw _ w (lv_sub hl [] rfl)
      · have hw := hw.2 hc
        refine lv_ldc2 (v := 297) hx hb C.2.2.2.1 (hts _ kw_1138) d_Mo_bad_26 ?_
        refine lv_lload_n hx hb d_Mo_bad_29 rfl (lv_at hl 0 rfl) ?_
        refine lv_lmul hx hb d_Mo_bad_30 ?_
        refine lv_lload_n hx hb d_Mo_bad_31 rfl (lv_at hl 1 rfl) ?_
        refine lv_ldiv hx hb d_Mo_bad_32 hw.1 ?_
        have hw := hw.2
        refine lv_goto (tgt := 55) hx hb d_Mo_bad_33 (by decide) ?_
        exact w_Mo_bad_55 C hr  ((297 * p1) / p2) hw _ w (lv_sub hl [] rfl)
    · have hw := hw.2 hc
      refine lv_sipush (v := 10000) hx hb d_Mo_bad_14 (by decide) ?_
      exact kf_i C hr d_Mo_bad_17 hw
  · have hw := hw.2 hc
    refine lv_iconst (v := 0) hx hb d_Mo_bad_6 (by decide) ?_
    exact kf_i C hr d_Mo_bad_7 hw
set_option maxHeartbeats 4000000 in
set_option maxRecDepth 100000 in
theorem w_Mo_judge_92 {S : ST} {post : Int32 → Int32 → Int32 → Prop} (C : cx p s m args meth c prog_12_method_29_code 5 "LineBreakerModel" n0 G K) (hr : meth.sig.returnType = none) : ∀ (i31 : Int32) (z1 : Int32), wl_Mo_judge_92 S post i31 z1 → ∀ (H : Heap) (locs : List Loc) (ls : Array Slot), wn n0 G (wM K ad (sI S 31 i31) ++ X) s H locs → lv_has ls 5 [(0, .ref (ad 0))] → W p l e rm_Mo_judge s m args below meth c H locs 0 0 (MQ below (va_Qv (fun (u : Int32 × Int32 × Int32) => post u.1 u.2.1 u.2.2) (fun (u : Int32 × Int32 × Int32) t => we n0 G (wM K ad (sI (sI (sI S 31 u.1) 32 u.2.1) 33 u.2.2) ++ X) t) (al n0)) args s 0 0 (al n0)) (F0 m 92 ls [.int z1, .ref (ad 0)]) := by
  have hx := C.1
  have hb := C.2.1
  have hts := C.2.2.2.2.1
  intro i31 z1 hw H locs ls w hl
  unfold wl_Mo_judge_92 at hw
  refine kp (C1 := R_Mo) (T := F_Mo) (N := 43) (ci := 10) (ty0 := t_Mo) (ref := "LineBreakerModel") (w2 := wM K ad (sI (sI S 31 i31) 32 z1) ++ X) C w 0 32 iw_Mo tk_Mo n_Mo rfl rfl (by decide) kw_909 rfl rfl rfl rfl (Nat.le_of_ble_eq_true rfl) rfl d_Mo_judge_92 (fun H locs w => ?_)
  refine lv_aload_n hx hb d_Mo_judge_95 rfl (lv_at hl 0 rfl) ?_
  refine lv_aload_n hx hb d_Mo_judge_96 rfl (lv_at hl 0 rfl) ?_
  refine kg (C1 := R_Mo) (T := F_Mo) (N := 43) (ci := 10) (ref := "LineBreakerModel") (v := .int z1) C w 0 32 iw_Mo rfl rfl (by decide) kw_909 rfl rfl d_Mo_judge_97 ?_
  refine lv_bipush (v := 99) hx hb d_Mo_judge_100 (by decide) ?_
  refine lv_icmp_le (tgt := 109) hx hb d_Mo_judge_102 (by decide) (fun hc => ?_) (fun hc => ?_)
  · have hw := hw.1 hc
    refine lv_aload_n hx hb d_Mo_judge_109 rfl (lv_at hl 0 rfl) ?_
    refine kg (C1 := R_Mo) (T := F_Mo) (N := 43) (ci := 10) (ref := "LineBreakerModel") (v := .int z1) C w 0 32 iw_Mo rfl rfl (by decide) kw_909 rfl rfl d_Mo_judge_110 ?_
    refine lv_bipush (v := 12) hx hb d_Mo_judge_113 (by decide) ?_
    refine lv_icmp_le (tgt := 122) hx hb d_Mo_judge_115 (by decide) (fun hc => ?_) (fun hc => ?_)
    · have hw := hw.1 hc
      refine lv_iconst (v := 2) hx hb d_Mo_judge_122 (by decide) ?_
      refine kp (C1 := R_Mo) (T := F_Mo) (N := 43) (ci := 10) (ty0 := t_Mo) (ref := "LineBreakerModel") (w2 := wM K ad (sI (sI (sI S 31 i31) 32 z1) 33 2) ++ X) C w 0 33 iw_Mo tk_Mo n_Mo rfl rfl (by decide) kw_910 rfl rfl rfl rfl (Nat.le_of_ble_eq_true rfl) rfl d_Mo_judge_123 (fun H locs w => ?_)
      refine lv_goto (tgt := 187) hx hb d_Mo_judge_126 (by decide) ?_
      exact ke_v (post := (fun (u : Int32 × Int32 × Int32) => post u.1 u.2.1 u.2.2)) (st := (fun (u : Int32 × Int32 × Int32) => wM K ad (sI (sI (sI S 31 u.1) 32 u.2.1) 33 u.2.2) ++ X)) (u := (i31, z1, 2)) C hr d_Mo_judge_187 (wn_eq w rfl) hw
    · have hw := hw.2 hc
      refine lv_iconst (v := 1) hx hb d_Mo_judge_118 (by decide) ?_
      refine lv_goto (tgt := 123) hx hb d_Mo_judge_119 (by decide) ?_
      refine kp (C1 := R_Mo) (T := F_Mo) (N := 43) (ci := 10) (ty0 := t_Mo) (ref := "LineBreakerModel") (w2 := wM K ad (sI (sI (sI S 31 i31) 32 z1) 33 1) ++ X) C w 0 33 iw_Mo tk_Mo n_Mo rfl rfl (by decide) kw_910 rfl rfl rfl rfl (Nat.le_of_ble_eq_true rfl) rfl d_Mo_judge_123 (fun H locs w => ?_)
      refine lv_goto (tgt := 187) hx hb d_Mo_judge_126 (by decide) ?_
      exact ke_v (post := (fun (u : Int32 × Int32 × Int32) => post u.1 u.2.1 u.2.2)) (st := (fun (u : Int32 × Int32 × Int32) => wM K ad (sI (sI (sI S 31 u.1) 32 u.2.1) 33 u.2.2) ++ X)) (u := (i31, z1, 1)) C hr d_Mo_judge_187 (wn_eq w rfl) hw
  · have hw := hw.2 hc
    refine lv_iconst (v := 0) hx hb d_Mo_judge_105 (by decide) ?_
    refine lv_goto (tgt := 123) hx hb d_Mo_judge_106 (by decide) ?_
    refine kp (C1 := R_Mo) (T := F_Mo) (N := 43) (ci := 10) (ty0 := t_Mo) (ref := "LineBreakerModel") (w2 := wM K ad (sI (sI (sI S 31 i31) 32 z1) 33 0) ++ X) C w 0 33 iw_Mo tk_Mo n_Mo rfl rfl (by decide) kw_910 rfl rfl rfl rfl (Nat.le_of_ble_eq_true rfl) rfl d_Mo_judge_123 (fun H locs w => ?_)
    refine lv_goto (tgt := 187) hx hb d_Mo_judge_126 (by decide) ?_
    exact ke_v (post := (fun (u : Int32 × Int32 × Int32) => post u.1 u.2.1 u.2.2)) (st := (fun (u : Int32 × Int32 × Int32) => wM K ad (sI (sI (sI S 31 u.1) 32 u.2.1) 33 u.2.2) ++ X)) (u := (i31, z1, 0)) C hr d_Mo_judge_187 (wn_eq w rfl) hw
set_option maxHeartbeats 4000000 in
set_option maxRecDepth 100000 in
theorem w_Mo_judge_69 {S : ST} {post : Int32 → Int32 → Int32 → Prop} (C : cx p s m args meth c prog_12_method_29_code 5 "LineBreakerModel" n0 G K) (hr : meth.sig.returnType = none) : ∀ (i31 : Int32) (x2 : Int64) (z0 : Int32), wl_Mo_judge_69 S post i31 x2 z0 → ∀ (H : Heap) (locs : List Loc) (ls : Array Slot), wn n0 G (wM K ad (sI S 31 i31) ++ X) s H locs → lv_has ls 5 [(0, .ref (ad 0)), (2, .long x2)] → W p l e rm_Mo_judge s m args below meth c H locs 0 0 (MQ below (va_Qv (fun (u : Int32 × Int32 × Int32) => post u.1 u.2.1 u.2.2) (fun (u : Int32 × Int32 × Int32) t => we n0 G (wM K ad (sI (sI (sI S 31 u.1) 32 u.2.1) 33 u.2.2) ++ X) t) (al n0)) args s 0 0 (al n0)) (F0 m 69 ls [.int z0]) := by
  have hx := C.1
  have hb := C.2.1
  have hts := C.2.2.2.2.1
  intro i31 x2 z0 hw H locs ls w hl
  unfold wl_Mo_judge_69 at hw
  refine lv_istore (lv' := [(4, .int z0), (0, .ref (ad 0)), (2, .long x2)]) hx hb d_Mo_judge_69 hl (by decide) rfl (fun ls hl => ?_)
  refine lv_aload_n hx hb d_Mo_judge_71 rfl (lv_at hl 1 rfl) ?_
  refine lv_iload hx hb d_Mo_judge_72 (lv_at hl 0 rfl) ?_
  refine lv_if_eq (tgt := 81) hx hb d_Mo_judge_74 (by decide) (fun hc => ?_) (fun hc => ?_)
  · have hw := hw.1 hc
    refine lv_lload_n hx hb d_Mo_judge_81 rfl (lv_at hl 2 rfl) ?_
    refine lv_aload_n hx hb d_Mo_judge_82 rfl (lv_at hl 1 rfl) ?_
    refine kg (C1 := R_Mo) (T := F_Mo) (N := 43) (ci := 10) (ref := "LineBreakerModel") (v := .ref (ad 21)) C w 0 29 iw_Mo rfl rfl (by decide) kw_906 rfl rfl d_Mo_judge_83 ?_
    refine lv_iconst (v := 0) hx hb d_Mo_judge_86 (by decide) ?_
    refine ka_i (f := (S.1 21)) C w 21 rfl hw.1 d_Mo_judge_87 ?_
    have hw := hw.2
    refine lv_i2l hx hb d_Mo_judge_88 rfl ?_
    refine kd_i (kr_S (y := y_Mo_bad) (As := [.long x2, .long (((S.1 21) (0 : Int32).toNatClampNeg).toInt64)]) (n := 2) C w (c_Mo_bad l n0 G K ad X (sI S 31 i31) x2 (((S.1 21) (0 : Int32).toNatClampNeg).toInt64) _ hw) (gw_S kw_1134 kw_1135 kw_11 kw_1136) (by decide +kernel) rfl rfl ⟨Nat.le_of_ble_eq_true rfl, Nat.le_of_ble_eq_true rfl⟩ rfl hl.1 rfl (Nat.le_of_ble_eq_true rfl) d_Mo_judge_89 ⟨Nat.le_of_ble_eq_true rfl, Nat.le_of_ble_eq_true rfl⟩) (fun r1 hw => ?_)
    exact w_Mo_judge_92 C hr  i31 r1 hw _ _ _ (wn_eq w rfl) (lv_sub hl [1] rfl)
  · have hw := hw.2 hc
    refine lv_iconst (v := 0) hx hb d_Mo_judge_77 (by decide) ?_
    refine lv_goto (tgt := 92) hx hb d_Mo_judge_78 (by decide) ?_
    exact w_Mo_judge_92 C hr  i31 0 hw _ _ _ (wn_eq w rfl) (lv_sub hl [1] rfl)
set_option maxHeartbeats 4000000 in
set_option maxRecDepth 100000 in
theorem w_Mo_judge_64 {S : ST} {post : Int32 → Int32 → Int32 → Prop} (C : cx p s m args meth c prog_12_method_29_code 5 "LineBreakerModel" n0 G K) (hr : meth.sig.returnType = none) : ∀ (i31 : Int32) (x2 : Int64), wl_Mo_judge_64 S post i31 x2 → ∀ (H : Heap) (locs : List Loc) (ls : Array Slot), wn n0 G (wM K ad (sI S 31 i31) ++ X) s H locs → lv_has ls 5 [(0, .ref (ad 0)), (2, .long x2)] → W p l e rm_Mo_judge s m args below meth c H locs 0 0 (MQ below (va_Qv (fun (u : Int32 × Int32 × Int32) => post u.1 u.2.1 u.2.2) (fun (u : Int32 × Int32 × Int32) t => we n0 G (wM K ad (sI (sI (sI S 31 u.1) 32 u.2.1) 33 u.2.2) ++ X) t) (al n0)) args s 0 0 (al n0)) (F0 m 64 ls []) := by
  have hx := C.1
  have hb := C.2.1
  have hts := C.2.2.2.2.1
  intro i31 x2 hw H locs ls w hl
  unfold wl_Mo_judge_64 at hw
  refine lv_iconst (v := 1) hx hb d_Mo_judge_64 (by decide) ?_
  refine lv_goto (tgt := 69) hx hb d_Mo_judge_65 (by decide) ?_
  exact w_Mo_judge_69 C hr  i31 x2 1 hw _ _ _ (wn_eq w rfl) (lv_sub hl [0, 1] rfl)
set_option maxHeartbeats 4000000 in
set_option maxRecDepth 100000 in
theorem w_Mo_judge_16 {S : ST} {post : Int32 → Int32 → Int32 → Prop} (C : cx p s m args meth c prog_12_method_29_code 5 "LineBreakerModel" n0 G K) (hr : meth.sig.returnType = none) : ∀ (z1 : Int32), wl_Mo_judge_16 S post z1 → ∀ (H : Heap) (locs : List Loc) (ls : Array Slot), wn n0 G (wM K ad S ++ X) s H locs → lv_has ls 5 [(0, .ref (ad 0))] → W p l e rm_Mo_judge s m args below meth c H locs 0 0 (MQ below (va_Qv (fun (u : Int32 × Int32 × Int32) => post u.1 u.2.1 u.2.2) (fun (u : Int32 × Int32 × Int32) t => we n0 G (wM K ad (sI (sI (sI S 31 u.1) 32 u.2.1) 33 u.2.2) ++ X) t) (al n0)) args s 0 0 (al n0)) (F0 m 16 ls [.int z1, .ref (ad 10)]) := by
  have hx := C.1
  have hb := C.2.1
  have hts := C.2.2.2.2.1
  intro z1 hw H locs ls w hl
  unfold wl_Mo_judge_16 at hw
  refine ka_i (f := (S.1 10)) C w 10 rfl hw.1 d_Mo_judge_16 ?_
  have hw := hw.2
  refine lv_i2l hx hb d_Mo_judge_17 rfl ?_
  refine lv_aload_n hx hb d_Mo_judge_18 rfl (lv_at hl 0 rfl) ?_
  refine kg (C1 := R_Mo) (T := F_Mo) (N := 43) (ci := 10) (ref := "LineBreakerModel") (v := .int (S.2.2 28)) C w 0 28 iw_Mo rfl rfl (by decide) kw_905 rfl rfl d_Mo_judge_19 ?_
  refine lv_i2l hx hb d_Mo_judge_22 rfl ?_
  refine lv_lsub hx hb d_Mo_judge_23 ?_
  refine lv_topl (fun v1 ev1 => ?_)
  have hw := hw v1 ev1
  refine lv_lstore_n (lv' := [(2, .long v1), (0, .ref (ad 0))]) hx hb d_Mo_judge_24 rfl hl (by decide) rfl (fun ls hl => ?_)
  refine lv_aload_n hx hb d_Mo_judge_25 rfl (lv_at hl 1 rfl) ?_
  refine lv_lload_n hx hb d_Mo_judge_26 rfl (lv_at hl 0 rfl) ?_
  refine lv_l2i hx hb d_Mo_judge_27 rfl ?_
  refine lv_topi (fun v2 ev2 => ?_)
  have hw := hw v2 ev2
  refine kp (C1 := R_Mo) (T := F_Mo) (N := 43) (ci := 10) (ty0 := t_Mo) (ref := "LineBreakerModel") (w2 := wM K ad (sI S 31 v2) ++ X) C w 0 31 iw_Mo tk_Mo n_Mo rfl rfl (by decide) kw_908 rfl rfl rfl rfl (Nat.le_of_ble_eq_true rfl) rfl d_Mo_judge_28 (fun H locs w => ?_)
  refine lv_lload_n hx hb d_Mo_judge_31 rfl (lv_at hl 0 rfl) ?_
  refine lv_lconst (v := 0) hx hb d_Mo_judge_32 (by decide) ?_
  refine W.lcmp hx hb d_Mo_judge_33 ?_
  refine lv_if_le (tgt := 129) hx hb d_Mo_judge_34 (by decide) (fun hc => ?_) (fun hc => ?_)
  · have hw := hw.1 hc
    refine lv_aload_n hx hb d_Mo_judge_129 rfl (lv_at hl 1 rfl) ?_
    refine kg (C1 := R_Mo) (T := F_Mo) (N := 43) (ci := 10) (ref := "LineBreakerModel") (v := .int (S.2.2 30)) C w 0 30 iw_Mo rfl rfl (by decide) kw_907 rfl rfl d_Mo_judge_130 ?_
    refine lv_i2l hx hb d_Mo_judge_133 rfl ?_
    refine lv_lload_n hx hb d_Mo_judge_134 rfl (lv_at hl 0 rfl) ?_
    refine lv_lneg hx hb d_Mo_judge_135 ?_
    refine W.lcmp hx hb d_Mo_judge_136 ?_
    refine lv_if_ge (tgt := 155) hx hb d_Mo_judge_137 (by decide) (fun hc => ?_) (fun hc => ?_)
    · have hw := hw.1 hc
      refine lv_aload_n hx hb d_Mo_judge_155 rfl (lv_at hl 1 rfl) ?_
      refine lv_lload_n hx hb d_Mo_judge_156 rfl (lv_at hl 0 rfl) ?_
      refine lv_lneg hx hb d_Mo_judge_157 ?_
      refine lv_aload_n hx hb d_Mo_judge_158 rfl (lv_at hl 1 rfl) ?_
      refine kg (C1 := R_Mo) (T := F_Mo) (N := 43) (ci := 10) (ref := "LineBreakerModel") (v := .int (S.2.2 30)) C w 0 30 iw_Mo rfl rfl (by decide) kw_907 rfl rfl d_Mo_judge_159 ?_
      refine lv_i2l hx hb d_Mo_judge_162 rfl ?_
      refine kd_i (kr_S (y := y_Mo_bad) (As := [.long (-v1), .long ((S.2.2 30).toInt64)]) (n := 2) C w (c_Mo_bad l n0 G K ad X (sI S 31 v2) (-v1) ((S.2.2 30).toInt64) _ hw) (gw_S kw_1134 kw_1135 kw_11 kw_1136) (by decide +kernel) rfl rfl ⟨Nat.le_of_ble_eq_true rfl, Nat.le_of_ble_eq_true rfl⟩ rfl hl.1 rfl (Nat.le_of_ble_eq_true rfl) d_Mo_judge_163 ⟨Nat.le_of_ble_eq_true rfl, Nat.le_of_ble_eq_true rfl⟩) (fun r3 hw => ?_)
      refine kp (C1 := R_Mo) (T := F_Mo) (N := 43) (ci := 10) (ty0 := t_Mo) (ref := "LineBreakerModel") (w2 := wM K ad (sI (sI S 31 v2) 32 r3) ++ X) C w 0 32 iw_Mo tk_Mo n_Mo rfl rfl (by decide) kw_909 rfl rfl rfl rfl (Nat.le_of_ble_eq_true rfl) rfl d_Mo_judge_166 (fun H locs w => ?_)
      refine lv_aload_n hx hb d_Mo_judge_169 rfl (lv_at hl 1 rfl) ?_
      refine lv_aload_n hx hb d_Mo_judge_170 rfl (lv_at hl 1 rfl) ?_
      refine kg (C1 := R_Mo) (T := F_Mo) (N := 43) (ci := 10) (ref := "LineBreakerModel") (v := .int r3) C w 0 32 iw_Mo rfl rfl (by decide) kw_909 rfl rfl d_Mo_judge_171 ?_
      refine lv_bipush (v := 12) hx hb d_Mo_judge_174 (by decide) ?_
      refine lv_icmp_le (tgt := 183) hx hb d_Mo_judge_176 (by decide) (fun hc => ?_) (fun hc => ?_)
      · have hw := hw.1 hc
        refine lv_iconst (v := 2) hx hb d_Mo_judge_183 (by decide) ?_
        refine kp (C1 := R_Mo) (T := F_Mo) (N := 43) (ci := 10) (ty0 := t_Mo) (ref := "LineBreakerModel") (w2 := wM K ad (sI (sI (sI S 31 v2) 32 r3) 33 2) ++ X) C w 0 33 iw_Mo tk_Mo n_Mo rfl rfl (by decide) kw_910 rfl rfl rfl rfl (Nat.le_of_ble_eq_true rfl) rfl d_Mo_judge_184 (fun H locs w => ?_)
        exact ke_v (post := (fun (u : Int32 × Int32 × Int32) => post u.1 u.2.1 u.2.2)) (st := (fun (u : Int32 × Int32 × Int32) => wM K ad (sI (sI (sI S 31 u.1) 32 u.2.1) 33 u.2.2) ++ X)) (u := (v2, r3, 2)) C hr d_Mo_judge_187 (wn_eq w rfl) hw
      · have hw := hw.2 hc
        refine lv_iconst (v := 3) hx hb d_Mo_judge_179 (by decide) ?_
        refine lv_goto (tgt := 184) hx hb d_Mo_judge_180 (by decide) ?_
        refine kp (C1 := R_Mo) (T := F_Mo) (N := 43) (ci := 10) (ty0 := t_Mo) (ref := "LineBreakerModel") (w2 := wM K ad (sI (sI (sI S 31 v2) 32 r3) 33 3) ++ X) C w 0 33 iw_Mo tk_Mo n_Mo rfl rfl (by decide) kw_910 rfl rfl rfl rfl (Nat.le_of_ble_eq_true rfl) rfl d_Mo_judge_184 (fun H locs w => ?_)
        exact ke_v (post := (fun (u : Int32 × Int32 × Int32) => post u.1 u.2.1 u.2.2)) (st := (fun (u : Int32 × Int32 × Int32) => wM K ad (sI (sI (sI S 31 u.1) 32 u.2.1) 33 u.2.2) ++ X)) (u := (v2, r3, 3)) C hr d_Mo_judge_187 (wn_eq w rfl) hw
    · have hw := hw.2 hc
      refine lv_aload_n hx hb d_Mo_judge_140 rfl (lv_at hl 1 rfl) ?_
      refine lv_sipush (v := 10001) hx hb d_Mo_judge_141 (by decide) ?_
      refine kp (C1 := R_Mo) (T := F_Mo) (N := 43) (ci := 10) (ty0 := t_Mo) (ref := "LineBreakerModel") (w2 := wM K ad (sI (sI S 31 v2) 32 10001) ++ X) C w 0 32 iw_Mo tk_Mo n_Mo rfl rfl (by decide) kw_909 rfl rfl rfl rfl (Nat.le_of_ble_eq_true rfl) rfl d_Mo_judge_144 (fun H locs w => ?_)
      refine lv_aload_n hx hb d_Mo_judge_147 rfl (lv_at hl 1 rfl) ?_
      refine lv_iconst (v := 3) hx hb d_Mo_judge_148 (by decide) ?_
      refine kp (C1 := R_Mo) (T := F_Mo) (N := 43) (ci := 10) (ty0 := t_Mo) (ref := "LineBreakerModel") (w2 := wM K ad (sI (sI (sI S 31 v2) 32 10001) 33 3) ++ X) C w 0 33 iw_Mo tk_Mo n_Mo rfl rfl (by decide) kw_910 rfl rfl rfl rfl (Nat.le_of_ble_eq_true rfl) rfl d_Mo_judge_149 (fun H locs w => ?_)
      refine lv_goto (tgt := 187) hx hb d_Mo_judge_152 (by decide) ?_
      exact ke_v (post := (fun (u : Int32 × Int32 × Int32) => post u.1 u.2.1 u.2.2)) (st := (fun (u : Int32 × Int32 × Int32) => wM K ad (sI (sI (sI S 31 u.1) 32 u.2.1) 33 u.2.2) ++ X)) (u := (v2, 10001, 3)) C hr d_Mo_judge_187 (wn_eq w rfl) hw
  · have hw := hw.2 hc
    refine lv_aload_n hx hb d_Mo_judge_37 rfl (lv_at hl 1 rfl) ?_
    refine kg (C1 := R_Mo) (T := F_Mo) (N := 43) (ci := 10) (ref := "LineBreakerModel") (v := .ref (ad 21)) C w 0 29 iw_Mo rfl rfl (by decide) kw_906 rfl rfl d_Mo_judge_38 ?_
    refine lv_iconst (v := 1) hx hb d_Mo_judge_41 (by decide) ?_
    refine ka_i (f := (S.1 21)) C w 21 rfl hw.1 d_Mo_judge_42 ?_
    have hw := hw.2
    refine lv_if_gt (tgt := 64) hx hb d_Mo_judge_43 (by decide) (fun hc => ?_) (fun hc => ?_)
    · have hw := hw.1 hc
      exact w_Mo_judge_64 C hr  v2 v1 hw _ _ _ (wn_eq w rfl) (lv_sub hl [1, 0] rfl)
    · have hw := hw.2 hc
      refine lv_aload_n hx hb d_Mo_judge_46 rfl (lv_at hl 1 rfl) ?_
      refine kg (C1 := R_Mo) (T := F_Mo) (N := 43) (ci := 10) (ref := "LineBreakerModel") (v := .ref (ad 21)) C w 0 29 iw_Mo rfl rfl (by decide) kw_906 rfl rfl d_Mo_judge_47 ?_
      refine lv_iconst (v := 2) hx hb d_Mo_judge_50 (by decide) ?_
      refine ka_i (f := (S.1 21)) C w 21 rfl hw.1 d_Mo_judge_51 ?_
      have hw := hw.2
      refine lv_if_gt (tgt := 64) hx hb d_Mo_judge_52 (by decide) (fun hc => ?_) (fun hc => ?_)
      · have hw := hw.1 hc
        exact w_Mo_judge_64 C hr  v2 v1 hw _ _ _ (wn_eq w rfl) (lv_sub hl [1, 0] rfl)
      · have hw := hw.2 hc
        refine lv_aload_n hx hb d_Mo_judge_55 rfl (lv_at hl 1 rfl) ?_
        refine kg (C1 := R_Mo) (T := F_Mo) (N := 43) (ci := 10) (ref := "LineBreakerModel") (v := .ref (ad 21)) C w 0 29 iw_Mo rfl rfl (by decide) kw_906 rfl rfl d_Mo_judge_56 ?_
        refine lv_iconst (v := 3) hx hb d_Mo_judge_59 (by decide) ?_
        refine ka_i (f := (S.1 21)) C w 21 rfl hw.1 d_Mo_judge_60 ?_
        have hw := hw.2
        refine lv_if_le (tgt := 68) hx hb d_Mo_judge_61 (by decide) (fun hc => ?_) (fun hc => ?_)
        · have hw := hw.1 hc
          refine lv_iconst (v := 0) hx hb d_Mo_judge_68 (by decide) ?_
          exact w_Mo_judge_69 C hr  v2 v1 0 hw _ _ _ (wn_eq w rfl) (lv_sub hl [1, 0] rfl)
        · have hw := hw.2 hc
          exact w_Mo_judge_64 C hr  v2 v1 hw _ _ _ (wn_eq w rfl) (lv_sub hl [1, 0] rfl)
set_option maxHeartbeats 4000000 in
set_option maxRecDepth 100000 in
theorem c_Mo_judge (l : Launch) (n0 : Nat) (G : va_G) (K : KT) (ad : Nat → Nat) (X : va_W) (S : ST) (p1 : Int32) (post : Int32 → Int32 → Int32 → Prop) (hw : wp_Mo_judge S p1 post) : Met l y_Mo_judge (Cond.code y_Mo_judge prog_12_method_29_code 5 none :: gw) rm_Mo_judge (va_Pc [.ref (ad 0), .int p1] (wb n0 G K (wM K ad S ++ X))) (va_Qv (fun (u : Int32 × Int32 × Int32) => post u.1 u.2.1 u.2.2) (fun (u : Int32 × Int32 × Int32) t => we n0 G (wM K ad (sI (sI (sI S 31 u.1) 32 u.2.1) 33 u.2.2) ++ X) t) (al n0)) 0 0 (al n0) := by
  refine kb_start (own := "LineBreakerModel") (by decide +kernel) rfl ?_
  intro p e s m below meth c C hr hne w
  have hx := C.1
  have hb := C.2.1
  have hts := C.2.2.2.2.1
  have hl := lv_entry ([.ref (ad 0), .int p1]) (n := 5) (Nat.le_of_ble_eq_true rfl)
  rw [lg_entry_eq]
  generalize (lg_sl ([.ref (ad 0), .int p1]) ++ List.replicate (5 - (lg_sl ([.ref (ad 0), .int p1])).length) Slot.unset).toArray = ls at hl ⊢
  have hl : lv_has ls 5 [(0, .ref (ad 0)), (1, .int p1)] := hl
  unfold wp_Mo_judge at hw
  refine lv_aload_n hx hb d_Mo_judge_0 rfl (lv_at hl 0 rfl) ?_
  refine kg (C1 := R_Mo) (T := F_Mo) (N := 43) (ci := 10) (ref := "LineBreakerModel") (v := .ref (ad 10)) C w 0 11 iw_Mo rfl rfl (by decide) kw_888 rfl rfl d_Mo_judge_1 ?_
  refine lv_iload_n hx hb d_Mo_judge_4 rfl (lv_at hl 1 rfl) ?_
  refine lv_bipush (v := 20) hx hb d_Mo_judge_5 (by decide) ?_
  refine lv_icmp_ge (tgt := 14) hx hb d_Mo_judge_7 (by decide) (fun hc => ?_) (fun hc => ?_)
  · have hw := hw.1 hc
    refine lv_bipush (v := 19) hx hb d_Mo_judge_14 (by decide) ?_
    exact w_Mo_judge_16 C hr  19 hw _ _ _ (wn_eq w rfl) (lv_sub hl [0] rfl)
  · have hw := hw.2 hc
    refine lv_iload_n hx hb d_Mo_judge_10 rfl (lv_at hl 1 rfl) ?_
    refine lv_goto (tgt := 16) hx hb d_Mo_judge_11 (by decide) ?_
    exact w_Mo_judge_16 C hr  p1 hw _ _ _ (wn_eq w rfl) (lv_sub hl [0] rfl)
set_option maxHeartbeats 4000000 in
set_option maxRecDepth 100000 in
theorem w_Mo_demerits_193 {S : ST} {post : Int64 → Prop} (C : cx p s m args meth c prog_12_method_30_code 11 "LineBreakerModel" n0 G K) (hr : meth.sig.returnType = (some .long)) : ∀ (x5 : Int64) (z0 : Int32), wl_Mo_demerits_193 S post x5 z0 → ∀ (ls : Array Slot), wn n0 G (wM K ad S ++ X) s s.heap [] → lv_has ls 11 [(0, .ref (ad 0)), (5, .long x5)] → W p l e rm_Mo_demerits s m args below meth c s.heap [] 0 0 (MQ below (rq_l post) args s 0 0 (fun _ => False)) (F0 m 193 ls [.int z0]) := by
  have hx := C.1
  have hb := C.2.1
  have hts := C.2.2.2.2.1
  intro x5 z0 hw ls w hl
  unfold wl_Mo_demerits_193 at hw
  refine lv_istore (lv' := [(10, .int z0), (0, .ref (ad 0)), (5, .long x5)]) hx hb d_Mo_demerits_193 hl (by decide) rfl (fun ls hl => ?_)
  refine lv_iload hx hb d_Mo_demerits_195 (lv_at hl 0 rfl) ?_
  refine lv_iconst (v := 1) hx hb d_Mo_demerits_197 (by decide) ?_
  refine lv_icmp_le (tgt := 215) hx hb d_Mo_demerits_198 (by decide) (fun hc => ?_) (fun hc => ?_)
  · have hw := hw.1 hc
    refine lv_lload hx hb d_Mo_demerits_215 (lv_at hl 2 rfl) ?_
    exact kf_l C hr d_Mo_demerits_217 hw
  · have hw := hw.2 hc
    refine lv_lload hx hb d_Mo_demerits_201 (lv_at hl 2 rfl) ?_
    refine lv_aload_n hx hb d_Mo_demerits_203 rfl (lv_at hl 1 rfl) ?_
    refine kg (C1 := R_Mo) (T := F_Mo) (N := 43) (ci := 10) (ref := "LineBreakerModel") (v := .ref (ad 9)) C w 0 10 iw_Mo rfl rfl (by decide) kw_887 rfl rfl d_Mo_demerits_204 ?_
    refine lv_bipush (v := 7) hx hb d_Mo_demerits_207 (by decide) ?_
    refine ka_i (f := (S.1 9)) C w 9 rfl hw.1 d_Mo_demerits_209 ?_
    have hw := hw.2
    refine lv_i2l hx hb d_Mo_demerits_210 rfl ?_
    refine lv_ladd hx hb d_Mo_demerits_211 ?_
    refine lv_goto (tgt := 217) hx hb d_Mo_demerits_212 (by decide) ?_
    exact kf_l C hr d_Mo_demerits_217 hw
set_option maxHeartbeats 4000000 in
set_option maxRecDepth 100000 in
theorem w_Mo_demerits_153 {S : ST} {post : Int64 → Prop} (C : cx p s m args meth c prog_12_method_30_code 11 "LineBreakerModel" n0 G K) (hr : meth.sig.returnType = (some .long)) : ∀ (x1 : Int32) (z0 : Int64), wl_Mo_demerits_153 S post x1 z0 → ∀ (ls : Array Slot), wn n0 G (wM K ad S ++ X) s s.heap [] → lv_has ls 11 [(0, .ref (ad 0)), (1, .int x1)] → W p l e rm_Mo_demerits s m args below meth c s.heap [] 0 0 (MQ below (rq_l post) args s 0 0 (fun _ => False)) (F0 m 153 ls [.long z0]) := by
  have hx := C.1
  have hb := C.2.1
  have hts := C.2.2.2.2.1
  intro x1 z0 hw ls w hl
  unfold wl_Mo_demerits_153 at hw
  refine lv_lstore (lv' := [(5, .long z0), (0, .ref (ad 0)), (1, .int x1)]) hx hb d_Mo_demerits_153 hl (by decide) rfl (fun ls hl => ?_)
  refine lv_aload_n hx hb d_Mo_demerits_155 rfl (lv_at hl 1 rfl) ?_
  refine kg (C1 := R_Mo) (T := F_Mo) (N := 43) (ci := 10) (ref := "LineBreakerModel") (v := .ref (ad 17)) C w 0 23 iw_Mo rfl rfl (by decide) kw_900 rfl rfl d_Mo_demerits_156 ?_
  refine lv_iload_n hx hb d_Mo_demerits_159 rfl (lv_at hl 2 rfl) ?_
  refine ka_i (f := (S.1 17)) C w 17 rfl hw.1 d_Mo_demerits_160 ?_
  have hw := hw.2
  refine lv_aload_n hx hb d_Mo_demerits_161 rfl (lv_at hl 1 rfl) ?_
  refine kg (C1 := R_Mo) (T := F_Mo) (N := 43) (ci := 10) (ref := "LineBreakerModel") (v := .int (S.2.2 33)) C w 0 33 iw_Mo rfl rfl (by decide) kw_910 rfl rfl d_Mo_demerits_162 ?_
  refine lv_icmp_le (tgt := 182) hx hb d_Mo_demerits_165 (by decide) (fun hc => ?_) (fun hc => ?_)
  · have hw := hw.1 hc
    refine lv_aload_n hx hb d_Mo_demerits_182 rfl (lv_at hl 1 rfl) ?_
    refine kg (C1 := R_Mo) (T := F_Mo) (N := 43) (ci := 10) (ref := "LineBreakerModel") (v := .int (S.2.2 33)) C w 0 33 iw_Mo rfl rfl (by decide) kw_910 rfl rfl d_Mo_demerits_183 ?_
    refine lv_aload_n hx hb d_Mo_demerits_186 rfl (lv_at hl 1 rfl) ?_
    refine kg (C1 := R_Mo) (T := F_Mo) (N := 43) (ci := 10) (ref := "LineBreakerModel") (v := .ref (ad 17)) C w 0 23 iw_Mo rfl rfl (by decide) kw_900 rfl rfl d_Mo_demerits_187 ?_
    refine lv_iload_n hx hb d_Mo_demerits_190 rfl (lv_at hl 2 rfl) ?_
    refine ka_i (f := (S.1 17)) C w 17 rfl hw.1 d_Mo_demerits_191 ?_
    have hw := hw.2
    refine lv_isub hx hb d_Mo_demerits_192 ?_
    exact w_Mo_demerits_193 C hr  z0 ((S.2.2 33) - ((S.1 17) x1.toNatClampNeg)) hw _ w (lv_sub hl [1, 0] rfl)
  · have hw := hw.2 hc
    refine lv_aload_n hx hb d_Mo_demerits_168 rfl (lv_at hl 1 rfl) ?_
    refine kg (C1 := R_Mo) (T := F_Mo) (N := 43) (ci := 10) (ref := "LineBreakerModel") (v := .ref (ad 17)) C w 0 23 iw_Mo rfl rfl (by decide) kw_900 rfl rfl d_Mo_demerits_169 ?_
    refine lv_iload_n hx hb d_Mo_demerits_172 rfl (lv_at hl 2 rfl) ?_
    refine ka_i (f := (S.1 17)) C w 17 rfl hw.1 d_Mo_demerits_173 ?_
    have hw := hw.2
    refine lv_aload_n hx hb d_Mo_demerits_174 rfl (lv_at hl 1 rfl) ?_
    refine kg (C1 := R_Mo) (T := F_Mo) (N := 43) (ci := 10) (ref := "LineBreakerModel") (v := .int (S.2.2 33)) C w 0 33 iw_Mo rfl rfl (by decide) kw_910 rfl rfl d_Mo_demerits_175 ?_
    refine lv_isub hx hb d_Mo_demerits_178 ?_
    refine lv_goto (tgt := 193) hx hb d_Mo_demerits_179 (by decide) ?_
    exact w_Mo_demerits_193 C hr  z0 (((S.1 17) x1.toNatClampNeg) - (S.2.2 33)) hw _ w (lv_sub hl [1, 0] rfl)
set_option maxHeartbeats 4000000 in
set_option maxRecDepth 100000 in
theorem w_Mo_demerits_151 {S : ST} {post : Int64 → Prop} (C : cx p s m args meth c prog_12_method_30_code 11 "LineBreakerModel" n0 G K) (hr : meth.sig.returnType = (some .long)) : ∀ (x1 : Int32) (x5 : Int64), wl_Mo_demerits_151 S post x1 x5 → ∀ (ls : Array Slot), wn n0 G (wM K ad S ++ X) s s.heap [] → lv_has ls 11 [(0, .ref (ad 0)), (1, .int x1), (5, .long x5)] → W p l e rm_Mo_demerits s m args below meth c s.heap [] 0 0 (MQ below (rq_l post) args s 0 0 (fun _ => False)) (F0 m 151 ls []) := by
  have hx := C.1
  have hb := C.2.1
  have hts := C.2.2.2.2.1
  intro x1 x5 hw ls w hl
  unfold wl_Mo_demerits_151 at hw
  refine lv_lload hx hb d_Mo_demerits_151 (lv_at hl 2 rfl) ?_
  exact w_Mo_demerits_153 C hr  x1 x5 hw _ w (lv_sub hl [0, 1] rfl)
set_option maxHeartbeats 4000000 in
set_option maxRecDepth 100000 in
theorem w_Mo_demerits_122 {S : ST} {post : Int64 → Prop} (C : cx p s m args meth c prog_12_method_30_code 11 "LineBreakerModel" n0 G K) (hr : meth.sig.returnType = (some .long)) : ∀ (x1 : Int32) (x2 : Int32) (x9 : Int32) (z0 : Int64), wl_Mo_demerits_122 S post x1 x2 x9 z0 → ∀ (ls : Array Slot), wn n0 G (wM K ad S ++ X) s s.heap [] → lv_has ls 11 [(0, .ref (ad 0)), (1, .int x1), (2, .int x2), (9, .int x9)] → W p l e rm_Mo_demerits s m args below meth c s.heap [] 0 0 (MQ below (rq_l post) args s 0 0 (fun _ => False)) (F0 m 122 ls [.long z0]) := by
  have hx := C.1
  have hb := C.2.1
  have hts := C.2.2.2.2.1
  intro x1 x2 x9 z0 hw ls w hl
  unfold wl_Mo_demerits_122 at hw
  refine lv_lstore (lv' := [(5, .long z0), (0, .ref (ad 0)), (1, .int x1), (2, .int x2), (9, .int x9)]) hx hb d_Mo_demerits_122 hl (by decide) rfl (fun ls hl => ?_)
  refine lv_iload hx hb d_Mo_demerits_124 (lv_at hl 4 rfl) ?_
  refine lv_if_eq (tgt := 151) hx hb d_Mo_demerits_126 (by decide) (fun hc => ?_) (fun hc => ?_)
  · have hw := hw.1 hc
    exact w_Mo_demerits_151 C hr  x1 z0 hw _ w (lv_sub hl [1, 2, 0] rfl)
  · have hw := hw.2 hc
    refine lv_iload_n hx hb d_Mo_demerits_129 rfl (lv_at hl 3 rfl) ?_
    refine lv_aload_n hx hb d_Mo_demerits_130 rfl (lv_at hl 1 rfl) ?_
    refine kg (C1 := R_Mo) (T := F_Mo) (N := 43) (ci := 10) (ref := "LineBreakerModel") (v := .int (S.2.2 17)) C w 0 17 iw_Mo rfl rfl (by decide) kw_894 rfl rfl d_Mo_demerits_131 ?_
    refine lv_icmp_ne (tgt := 151) hx hb d_Mo_demerits_134 (by decide) (fun hc => ?_) (fun hc => ?_)
    · have hw := hw.1 hc
      exact w_Mo_demerits_151 C hr  x1 z0 hw _ w (lv_sub hl [1, 2, 0] rfl)
    · have hw := hw.2 hc
      refine lv_lload hx hb d_Mo_demerits_137 (lv_at hl 0 rfl) ?_
      refine lv_aload_n hx hb d_Mo_demerits_139 rfl (lv_at hl 1 rfl) ?_
      refine kg (C1 := R_Mo) (T := F_Mo) (N := 43) (ci := 10) (ref := "LineBreakerModel") (v := .ref (ad 9)) C w 0 10 iw_Mo rfl rfl (by decide) kw_887 rfl rfl d_Mo_demerits_140 ?_
      refine lv_bipush (v := 6) hx hb d_Mo_demerits_143 (by decide) ?_
      refine ka_i (f := (S.1 9)) C w 9 rfl hw.1 d_Mo_demerits_145 ?_
      have hw := hw.2
      refine lv_i2l hx hb d_Mo_demerits_146 rfl ?_
      refine lv_ladd hx hb d_Mo_demerits_147 ?_
      refine lv_goto (tgt := 153) hx hb d_Mo_demerits_148 (by decide) ?_
      exact w_Mo_demerits_153 C hr  x1 (z0 + (((S.1 9) (6 : Int32).toNatClampNeg).toInt64)) hw _ w (lv_sub hl [1, 2] rfl)
set_option maxHeartbeats 4000000 in
set_option maxRecDepth 100000 in
theorem w_Mo_demerits_120 {S : ST} {post : Int64 → Prop} (C : cx p s m args meth c prog_12_method_30_code 11 "LineBreakerModel" n0 G K) (hr : meth.sig.returnType = (some .long)) : ∀ (x1 : Int32) (x2 : Int32) (x5 : Int64) (x9 : Int32), wl_Mo_demerits_120 S post x1 x2 x5 x9 → ∀ (ls : Array Slot), wn n0 G (wM K ad S ++ X) s s.heap [] → lv_has ls 11 [(0, .ref (ad 0)), (1, .int x1), (2, .int x2), (5, .long x5), (9, .int x9)] → W p l e rm_Mo_demerits s m args below meth c s.heap [] 0 0 (MQ below (rq_l post) args s 0 0 (fun _ => False)) (F0 m 120 ls []) := by
  have hx := C.1
  have hb := C.2.1
  have hts := C.2.2.2.2.1
  intro x1 x2 x5 x9 hw ls w hl
  unfold wl_Mo_demerits_120 at hw
  refine lv_lload hx hb d_Mo_demerits_120 (lv_at hl 3 rfl) ?_
  exact w_Mo_demerits_122 C hr  x1 x2 x9 x5 hw _ w (lv_sub hl [0, 1, 2, 4] rfl)
set_option maxHeartbeats 4000000 in
set_option maxRecDepth 100000 in
theorem w_Mo_demerits_80 {S : ST} {post : Int64 → Prop} (C : cx p s m args meth c prog_12_method_30_code 11 "LineBreakerModel" n0 G K) (hr : meth.sig.returnType = (some .long)) : ∀ (x1 : Int32) (x2 : Int32) (z0 : Int64), wl_Mo_demerits_80 S post x1 x2 z0 → ∀ (ls : Array Slot), wn n0 G (wM K ad S ++ X) s s.heap [] → lv_has ls 11 [(0, .ref (ad 0)), (1, .int x1), (2, .int x2)] → W p l e rm_Mo_demerits s m args below meth c s.heap [] 0 0 (MQ below (rq_l post) args s 0 0 (fun _ => False)) (F0 m 80 ls [.long z0]) := by
  have hx := C.1
  have hb := C.2.1
  have hts := C.2.2.2.2.1
  intro x1 x2 z0 hw ls w hl
  unfold wl_Mo_demerits_80 at hw
  refine lv_lstore (lv' := [(5, .long z0), (0, .ref (ad 0)), (1, .int x1), (2, .int x2)]) hx hb d_Mo_demerits_80 hl (by decide) rfl (fun ls hl => ?_)
  refine lv_aload_n hx hb d_Mo_demerits_82 rfl (lv_at hl 1 rfl) ?_
  refine lv_aload_n hx hb d_Mo_demerits_83 rfl (lv_at hl 1 rfl) ?_
  refine kg (C1 := R_Mo) (T := F_Mo) (N := 43) (ci := 10) (ref := "LineBreakerModel") (v := .ref (ad 15)) C w 0 21 iw_Mo rfl rfl (by decide) kw_898 rfl rfl d_Mo_demerits_84 ?_
  refine lv_iload_n hx hb d_Mo_demerits_87 rfl (lv_at hl 2 rfl) ?_
  refine ka_i (f := (S.1 15)) C w 15 rfl hw.1 d_Mo_demerits_88 ?_
  have hw := hw.2
  refine kd_i (kr_V (y := y_Mo_isHyphen) (C1 := R_Mo) (T := F_Mo) (N := 43) (ci := 10) (q0 := 0) (As := [.int ((S.1 15) x1.toNatClampNeg)]) (n := 1) C w (c_Mo_isHyphen l n0 G K ad X S ((S.1 15) x1.toNatClampNeg) _ hw) (gw_V kw_1118 kw_1120 kp_28 kw_11 kw_1121) (by decide +kernel) rfl rfl ⟨Nat.le_of_ble_eq_true rfl, Nat.le_of_ble_eq_true rfl⟩ rfl rfl rfl hl.1 rfl (Nat.le_of_ble_eq_true rfl) d_Mo_demerits_89 ⟨Nat.le_of_ble_eq_true rfl, Nat.le_of_ble_eq_true rfl⟩) (fun r1 hw => ?_)
  refine lv_istore (lv' := [(9, .int r1), (5, .long z0), (0, .ref (ad 0)), (1, .int x1), (2, .int x2)]) hx hb d_Mo_demerits_92 hl (by decide) rfl (fun ls hl => ?_)
  refine lv_iload hx hb d_Mo_demerits_94 (lv_at hl 0 rfl) ?_
  refine lv_if_eq (tgt := 120) hx hb d_Mo_demerits_96 (by decide) (fun hc => ?_) (fun hc => ?_)
  · have hw := hw.1 hc
    exact w_Mo_demerits_120 C hr  x1 x2 z0 r1 hw _ w (lv_sub hl [2, 3, 4, 1, 0] rfl)
  · have hw := hw.2 hc
    refine lv_aload_n hx hb d_Mo_demerits_99 rfl (lv_at hl 2 rfl) ?_
    refine lv_iload_n hx hb d_Mo_demerits_100 rfl (lv_at hl 4 rfl) ?_
    refine kd_i (kr_V (y := y_Mo_isHyphen) (C1 := R_Mo) (T := F_Mo) (N := 43) (ci := 10) (q0 := 0) (As := [.int x2]) (n := 1) C w (c_Mo_isHyphen l n0 G K ad X S x2 _ hw) (gw_V kw_1118 kw_1120 kp_28 kw_11 kw_1121) (by decide +kernel) rfl rfl ⟨Nat.le_of_ble_eq_true rfl, Nat.le_of_ble_eq_true rfl⟩ rfl rfl rfl hl.1 rfl (Nat.le_of_ble_eq_true rfl) d_Mo_demerits_101 ⟨Nat.le_of_ble_eq_true rfl, Nat.le_of_ble_eq_true rfl⟩) (fun r2 hw => ?_)
    refine lv_if_eq (tgt := 120) hx hb d_Mo_demerits_104 (by decide) (fun hc => ?_) (fun hc => ?_)
    · have hw := hw.1 hc
      exact w_Mo_demerits_120 C hr  x1 x2 z0 r1 hw _ w (lv_sub hl [2, 3, 4, 1, 0] rfl)
    · have hw := hw.2 hc
      refine lv_lload hx hb d_Mo_demerits_107 (lv_at hl 1 rfl) ?_
      refine lv_aload_n hx hb d_Mo_demerits_109 rfl (lv_at hl 2 rfl) ?_
      refine kg (C1 := R_Mo) (T := F_Mo) (N := 43) (ci := 10) (ref := "LineBreakerModel") (v := .ref (ad 9)) C w 0 10 iw_Mo rfl rfl (by decide) kw_887 rfl rfl d_Mo_demerits_110 ?_
      refine lv_iconst (v := 5) hx hb d_Mo_demerits_113 (by decide) ?_
      refine ka_i (f := (S.1 9)) C w 9 rfl hw.1 d_Mo_demerits_114 ?_
      have hw := hw.2
      refine lv_i2l hx hb d_Mo_demerits_115 rfl ?_
      refine lv_ladd hx hb d_Mo_demerits_116 ?_
      refine lv_goto (tgt := 122) hx hb d_Mo_demerits_117 (by decide) ?_
      exact w_Mo_demerits_122 C hr  x1 x2 r1 (z0 + (((S.1 9) (5 : Int32).toNatClampNeg).toInt64)) hw _ w (lv_sub hl [2, 3, 4, 0] rfl)
set_option maxHeartbeats 4000000 in
set_option maxRecDepth 100000 in
theorem w_Mo_demerits_30 {S : ST} {post : Int64 → Prop} (C : cx p s m args meth c prog_12_method_30_code 11 "LineBreakerModel" n0 G K) (hr : meth.sig.returnType = (some .long)) : ∀ (x1 : Int32) (x2 : Int32) (z0 : Int64), wl_Mo_demerits_30 S post x1 x2 z0 → ∀ (ls : Array Slot), wn n0 G (wM K ad S ++ X) s s.heap [] → lv_has ls 11 [(0, .ref (ad 0)), (1, .int x1), (2, .int x2)] → W p l e rm_Mo_demerits s m args below meth c s.heap [] 0 0 (MQ below (rq_l post) args s 0 0 (fun _ => False)) (F0 m 30 ls [.long z0]) := by
  have hx := C.1
  have hb := C.2.1
  have hts := C.2.2.2.2.1
  intro x1 x2 z0 hw ls w hl
  unfold wl_Mo_demerits_30 at hw
  refine lv_lstore (lv' := [(5, .long z0), (0, .ref (ad 0)), (1, .int x1), (2, .int x2)]) hx hb d_Mo_demerits_30 hl (by decide) rfl (fun ls hl => ?_)
  refine lv_aload_n hx hb d_Mo_demerits_32 rfl (lv_at hl 1 rfl) ?_
  refine lv_iload_n hx hb d_Mo_demerits_33 rfl (lv_at hl 3 rfl) ?_
  refine kd_i (kr_V (y := y_Mo_fine) (C1 := R_Mo) (T := F_Mo) (N := 43) (ci := 10) (q0 := 0) (As := [.int x2]) (n := 1) C w (c_Mo_fine l n0 G K ad X S x2 _ hw) (gw_V kw_1102 kw_1104 kp_24 kw_11 kw_1105) (by decide +kernel) rfl rfl ⟨Nat.le_of_ble_eq_true rfl, Nat.le_of_ble_eq_true rfl⟩ rfl rfl rfl hl.1 rfl (Nat.le_of_ble_eq_true rfl) d_Mo_demerits_34 ⟨Nat.le_of_ble_eq_true rfl, Nat.le_of_ble_eq_true rfl⟩) (fun r1 hw => ?_)
  refine lv_i2l hx hb d_Mo_demerits_37 rfl ?_
  refine lv_topl (fun v2 ev2 => ?_)
  have hw := hw v2 ev2
  refine lv_lstore (lv' := [(7, .long v2), (5, .long z0), (0, .ref (ad 0)), (1, .int x1), (2, .int x2)]) hx hb d_Mo_demerits_38 hl (by decide) rfl (fun ls hl => ?_)
  refine lv_lload hx hb d_Mo_demerits_40 (lv_at hl 0 rfl) ?_
  refine lv_lconst (v := 0) hx hb d_Mo_demerits_42 (by decide) ?_
  refine W.lcmp hx hb d_Mo_demerits_43 ?_
  refine lv_if_le (tgt := 58) hx hb d_Mo_demerits_44 (by decide) (fun hc => ?_) (fun hc => ?_)
  · have hw := hw.1 hc
    refine lv_lload hx hb d_Mo_demerits_58 (lv_at hl 0 rfl) ?_
    refine lv_ldc2 (v := (-10000)) hx hb C.2.2.2.1 (hts _ kw_1153) d_Mo_demerits_60 ?_
    refine W.lcmp hx hb d_Mo_demerits_63 ?_
    refine lv_if_le (tgt := 78) hx hb d_Mo_demerits_64 (by decide) (fun hc => ?_) (fun hc => ?_)
    · have hw := hw.1 hc
      refine lv_lload hx hb d_Mo_demerits_78 (lv_at hl 1 rfl) ?_
      exact w_Mo_demerits_80 C hr  x1 x2 z0 hw _ w (lv_sub hl [2, 3, 4] rfl)
    · have hw := hw.2 hc
      refine lv_lload hx hb d_Mo_demerits_67 (lv_at hl 1 rfl) ?_
      refine lv_lload hx hb d_Mo_demerits_69 (lv_at hl 0 rfl) ?_
      refine lv_lload hx hb d_Mo_demerits_71 (lv_at hl 0 rfl) ?_
      refine lv_lmul hx hb d_Mo_demerits_73 ?_
      refine lv_lsub hx hb d_Mo_demerits_74 ?_
      refine lv_goto (tgt := 80) hx hb d_Mo_demerits_75 (by decide) ?_
      exact w_Mo_demerits_80 C hr  x1 x2 (z0 - (v2 * v2)) hw _ w (lv_sub hl [2, 3, 4] rfl)
  · have hw := hw.2 hc
    refine lv_lload hx hb d_Mo_demerits_47 (lv_at hl 1 rfl) ?_
    refine lv_lload hx hb d_Mo_demerits_49 (lv_at hl 0 rfl) ?_
    refine lv_lload hx hb d_Mo_demerits_51 (lv_at hl 0 rfl) ?_
    refine lv_lmul hx hb d_Mo_demerits_53 ?_
    refine lv_ladd hx hb d_Mo_demerits_54 ?_
    refine lv_goto (tgt := 80) hx hb d_Mo_demerits_55 (by decide) ?_
    exact w_Mo_demerits_80 C hr  x1 x2 (z0 + (v2 * v2)) hw _ w (lv_sub hl [2, 3, 4] rfl)
set_option maxHeartbeats 4000000 in
set_option maxRecDepth 100000 in
theorem c_Mo_demerits (l : Launch) (n0 : Nat) (G : va_G) (K : KT) (ad : Nat → Nat) (X : va_W) (S : ST) (p1 : Int32) (p2 : Int32) (post : Int64 → Prop) (hw : wp_Mo_demerits S p1 p2 post) : Met l y_Mo_demerits (Cond.code y_Mo_demerits prog_12_method_30_code 11 (some .long) :: gw) rm_Mo_demerits (va_Pc [.ref (ad 0), .int p1, .int p2] (wb n0 G K (wM K ad S ++ X))) (rq_l post) 0 0 (fun _ => False) := by
  refine kb_start (own := "LineBreakerModel") (by decide +kernel) rfl ?_
  intro p e s m below meth c C hr hne w
  have hx := C.1
  have hb := C.2.1
  have hts := C.2.2.2.2.1
  have hl := lv_entry ([.ref (ad 0), .int p1, .int p2]) (n := 11) (Nat.le_of_ble_eq_true rfl)
  rw [lg_entry_eq]
  generalize (lg_sl ([.ref (ad 0), .int p1, .int p2]) ++ List.replicate (11 - (lg_sl ([.ref (ad 0), .int p1, .int p2])).length) Slot.unset).toArray = ls at hl ⊢
  have hl : lv_has ls 11 [(0, .ref (ad 0)), (1, .int p1), (2, .int p2)] := hl
  unfold wp_Mo_demerits at hw
  refine lv_aload_n hx hb d_Mo_demerits_0 rfl (lv_at hl 0 rfl) ?_
  refine kg (C1 := R_Mo) (T := F_Mo) (N := 43) (ci := 10) (ref := "LineBreakerModel") (v := .ref (ad 9)) C w 0 10 iw_Mo rfl rfl (by decide) kw_887 rfl rfl d_Mo_demerits_1 ?_
  refine lv_iconst (v := 2) hx hb d_Mo_demerits_4 (by decide) ?_
  refine ka_i (f := (S.1 9)) C w 9 rfl hw.1 d_Mo_demerits_5 ?_
  have hw := hw.2
  refine lv_aload_n hx hb d_Mo_demerits_6 rfl (lv_at hl 0 rfl) ?_
  refine kg (C1 := R_Mo) (T := F_Mo) (N := 43) (ci := 10) (ref := "LineBreakerModel") (v := .int (S.2.2 32)) C w 0 32 iw_Mo rfl rfl (by decide) kw_909 rfl rfl d_Mo_demerits_7 ?_
  refine lv_iadd hx hb d_Mo_demerits_10 ?_
  refine lv_i2l hx hb d_Mo_demerits_11 rfl ?_
  refine lv_topl (fun v1 ev1 => ?_)
  have hw := hw v1 ev1
  refine lv_lstore_n (lv' := [(3, .long v1), (0, .ref (ad 0)), (1, .int p1), (2, .int p2)]) hx hb d_Mo_demerits_12 rfl hl (by decide) rfl (fun ls hl => ?_)
  refine lv_lload_n hx hb d_Mo_demerits_13 rfl (lv_at hl 0 rfl) ?_
  refine lv_ldc2 (v := 10000) hx hb C.2.2.2.1 (hts _ kw_1151) d_Mo_demerits_14 ?_
  refine W.lcmp hx hb d_Mo_demerits_17 ?_
  refine lv_if_lt (tgt := 27) hx hb d_Mo_demerits_18 (by decide) (fun hc => ?_) (fun hc => ?_)
  · have hw := hw.1 hc
    refine lv_lload_n hx hb d_Mo_demerits_27 rfl (lv_at hl 0 rfl) ?_
    refine lv_lload_n hx hb d_Mo_demerits_28 rfl (lv_at hl 0 rfl) ?_
    refine lv_lmul hx hb d_Mo_demerits_29 ?_
    exact w_Mo_demerits_30 C hr  p1 p2 (v1 * v1) hw _ w (lv_sub hl [1, 2, 3] rfl)
  · have hw := hw.2 hc
    refine lv_ldc2 (v := 100000000) hx hb C.2.2.2.1 (hts _ kw_1152) d_Mo_demerits_21 ?_
    refine lv_goto (tgt := 30) hx hb d_Mo_demerits_24 (by decide) ?_
    exact w_Mo_demerits_30 C hr  p1 p2 100000000 hw _ w (lv_sub hl [1, 2, 3] rfl)
set_option maxHeartbeats 4000000 in
set_option maxRecDepth 100000 in
theorem c_Mo_write (l : Launch) (n0 : Nat) (G : va_G) (K : KT) (ad : Nat → Nat) (X : va_W) (S : ST) (p1 : Int32) (p2 : Int32) (p3 : Int32) (p4 : Int64) (post : (Nat → Int32) → (Nat → Int32) → (Nat → Int32) → (Nat → Int32) → (Nat → Int32) → (Nat → Int64) → Prop) (hw : wp_Mo_write S p1 p2 p3 p4 post) : Met l y_Mo_write (Cond.code y_Mo_write prog_12_method_31_code 6 none :: gw) rm_Mo_write (va_Pc [.ref (ad 0), .int p1, .int p2, .int p3, .long p4] (wb n0 G K (wM K ad S ++ X))) (va_Qv (fun (u : (Nat → Int32) × (Nat → Int32) × (Nat → Int32) × (Nat → Int32) × (Nat → Int32) × (Nat → Int64)) => post u.1 u.2.1 u.2.2.1 u.2.2.2.1 u.2.2.2.2.1 u.2.2.2.2.2) (fun (u : (Nat → Int32) × (Nat → Int32) × (Nat → Int32) × (Nat → Int32) × (Nat → Int32) × (Nat → Int64)) t => we n0 G (wM K ad (sL (sA (sA (sA (sA (sA S 15 u.1) 16 u.2.1) 17 u.2.2.1) 19 u.2.2.2.1) 20 u.2.2.2.2.1) 18 u.2.2.2.2.2) ++ X) t) (al n0)) 0 0 (al n0) := by
  refine kb_start (own := "LineBreakerModel") (by decide +kernel) rfl ?_
  intro p e s m below meth c C hr hne w
  have hx := C.1
  have hb := C.2.1
  have hts := C.2.2.2.2.1
  have hl := lv_entry ([.ref (ad 0), .int p1, .int p2, .int p3, .long p4]) (n := 6) (Nat.le_of_ble_eq_true rfl)
  rw [lg_entry_eq]
  generalize (lg_sl ([.ref (ad 0), .int p1, .int p2, .int p3, .long p4]) ++ List.replicate (6 - (lg_sl ([.ref (ad 0), .int p1, .int p2, .int p3, .long p4])).length) Slot.unset).toArray = ls at hl ⊢
  have hl : lv_has ls 6 [(0, .ref (ad 0)), (1, .int p1), (2, .int p2), (3, .int p3), (4, .long p4)] := hl
  unfold wp_Mo_write at hw
  refine lv_aload_n hx hb d_Mo_write_0 rfl (lv_at hl 0 rfl) ?_
  refine kg (C1 := R_Mo) (T := F_Mo) (N := 43) (ci := 10) (ref := "LineBreakerModel") (v := .ref (ad 15)) C w 0 21 iw_Mo rfl rfl (by decide) kw_898 rfl rfl d_Mo_write_1 ?_
  refine lv_iload_n hx hb d_Mo_write_4 rfl (lv_at hl 1 rfl) ?_
  refine lv_iload_n hx hb d_Mo_write_5 rfl (lv_at hl 2 rfl) ?_
  obtain ⟨f1, ef1⟩ : ∃ z : Nat → Int32, z = upd (S.1 15) p1.toNatClampNeg p2 := ⟨_, rfl⟩
  refine ks_i (f := (S.1 15)) (w2 := wM K ad (sA S 15 f1) ++ X) C w 15 rfl hw.1 (by rw [← ef1]; rfl) d_Mo_write_6 (fun H locs w => ?_)
  have hw := hw.2 f1 ef1
  refine lv_aload_n hx hb d_Mo_write_7 rfl (lv_at hl 0 rfl) ?_
  refine kg (C1 := R_Mo) (T := F_Mo) (N := 43) (ci := 10) (ref := "LineBreakerModel") (v := .ref (ad 16)) C w 0 22 iw_Mo rfl rfl (by decide) kw_899 rfl rfl d_Mo_write_8 ?_
  refine lv_iload_n hx hb d_Mo_write_11 rfl (lv_at hl 1 rfl) ?_
  refine lv_aload_n hx hb d_Mo_write_12 rfl (lv_at hl 0 rfl) ?_
  refine kg (C1 := R_Mo) (T := F_Mo) (N := 43) (ci := 10) (ref := "LineBreakerModel") (v := .ref (ad 16)) C w 0 22 iw_Mo rfl rfl (by decide) kw_899 rfl rfl d_Mo_write_13 ?_
  refine lv_iload_n hx hb d_Mo_write_16 rfl (lv_at hl 3 rfl) ?_
  refine ka_i (f := (S.1 16)) C w 16 rfl hw.1 d_Mo_write_17 ?_
  have hw := hw.2
  refine lv_iconst (v := 1) hx hb d_Mo_write_18 (by decide) ?_
  refine lv_iadd hx hb d_Mo_write_19 ?_
  obtain ⟨f2, ef2⟩ : ∃ z : Nat → Int32, z = upd (S.1 16) p1.toNatClampNeg (((S.1 16) p3.toNatClampNeg) + 1) := ⟨_, rfl⟩
  refine ks_i (f := (S.1 16)) (w2 := wM K ad (sA (sA S 15 f1) 16 f2) ++ X) C w 16 rfl hw.1 (by rw [← ef2]; rfl) d_Mo_write_20 (fun H locs w => ?_)
  have hw := hw.2 f2 ef2
  refine lv_aload_n hx hb d_Mo_write_21 rfl (lv_at hl 0 rfl) ?_
  refine kg (C1 := R_Mo) (T := F_Mo) (N := 43) (ci := 10) (ref := "LineBreakerModel") (v := .ref (ad 17)) C w 0 23 iw_Mo rfl rfl (by decide) kw_900 rfl rfl d_Mo_write_22 ?_
  refine lv_iload_n hx hb d_Mo_write_25 rfl (lv_at hl 1 rfl) ?_
  refine lv_aload_n hx hb d_Mo_write_26 rfl (lv_at hl 0 rfl) ?_
  refine kg (C1 := R_Mo) (T := F_Mo) (N := 43) (ci := 10) (ref := "LineBreakerModel") (v := .int (S.2.2 33)) C w 0 33 iw_Mo rfl rfl (by decide) kw_910 rfl rfl d_Mo_write_27 ?_
  obtain ⟨f3, ef3⟩ : ∃ z : Nat → Int32, z = upd (S.1 17) p1.toNatClampNeg (S.2.2 33) := ⟨_, rfl⟩
  refine ks_i (f := (S.1 17)) (w2 := wM K ad (sA (sA (sA S 15 f1) 16 f2) 17 f3) ++ X) C w 17 rfl hw.1 (by rw [← ef3]; rfl) d_Mo_write_30 (fun H locs w => ?_)
  have hw := hw.2 f3 ef3
  refine lv_aload_n hx hb d_Mo_write_31 rfl (lv_at hl 0 rfl) ?_
  refine kg (C1 := R_Mo) (T := F_Mo) (N := 43) (ci := 10) (ref := "LineBreakerModel") (v := .ref (ad 18)) C w 0 24 iw_Mo rfl rfl (by decide) kw_901 rfl rfl d_Mo_write_32 ?_
  refine lv_iload_n hx hb d_Mo_write_35 rfl (lv_at hl 1 rfl) ?_
  refine lv_lload hx hb d_Mo_write_36 (lv_at hl 4 rfl) ?_
  obtain ⟨f4, ef4⟩ : ∃ z : Nat → Int64, z = vp_updL (S.2.1 18) p1.toNatClampNeg p4 := ⟨_, rfl⟩
  refine ks_l (f := (S.2.1 18)) (w2 := wM K ad (sL (sA (sA (sA S 15 f1) 16 f2) 17 f3) 18 f4) ++ X) C w 18 rfl hw.1 (by rw [← ef4]; rfl) d_Mo_write_38 (fun H locs w => ?_)
  have hw := hw.2 f4 ef4
  refine lv_aload_n hx hb d_Mo_write_39 rfl (lv_at hl 0 rfl) ?_
  refine kg (C1 := R_Mo) (T := F_Mo) (N := 43) (ci := 10) (ref := "LineBreakerModel") (v := .ref (ad 19)) C w 0 25 iw_Mo rfl rfl (by decide) kw_902 rfl rfl d_Mo_write_40 ?_
  refine lv_iload_n hx hb d_Mo_write_43 rfl (lv_at hl 1 rfl) ?_
  refine lv_iload_n hx hb d_Mo_write_44 rfl (lv_at hl 3 rfl) ?_
  obtain ⟨f5, ef5⟩ : ∃ z : Nat → Int32, z = upd (S.1 19) p1.toNatClampNeg p3 := ⟨_, rfl⟩
  refine ks_i (f := (S.1 19)) (w2 := wM K ad (sL (sA (sA (sA (sA S 15 f1) 16 f2) 17 f3) 19 f5) 18 f4) ++ X) C w 19 rfl hw.1 (by rw [← ef5]; rfl) d_Mo_write_45 (fun H locs w => ?_)
  have hw := hw.2 f5 ef5
  refine lv_aload_n hx hb d_Mo_write_46 rfl (lv_at hl 0 rfl) ?_
  refine kg (C1 := R_Mo) (T := F_Mo) (N := 43) (ci := 10) (ref := "LineBreakerModel") (v := .ref (ad 20)) C w 0 26 iw_Mo rfl rfl (by decide) kw_903 rfl rfl d_Mo_write_47 ?_
  refine lv_iload_n hx hb d_Mo_write_50 rfl (lv_at hl 1 rfl) ?_
  refine lv_iconst (v := 0) hx hb d_Mo_write_51 (by decide) ?_
  obtain ⟨f6, ef6⟩ : ∃ z : Nat → Int32, z = upd (S.1 20) p1.toNatClampNeg (vp_nar .boolean 0) := ⟨_, rfl⟩
  refine ks_z (f := (S.1 20)) (w2 := wM K ad (sL (sA (sA (sA (sA (sA S 15 f1) 16 f2) 17 f3) 19 f5) 20 f6) 18 f4) ++ X) C w 20 rfl hw.1 (by rw [← ef6]; rfl) d_Mo_write_52 (fun H locs w => ?_)
  have hw := hw.2 f6 ef6
  exact ke_v (post := (fun (u : (Nat → Int32) × (Nat → Int32) × (Nat → Int32) × (Nat → Int32) × (Nat → Int32) × (Nat → Int64)) => post u.1 u.2.1 u.2.2.1 u.2.2.2.1 u.2.2.2.2.1 u.2.2.2.2.2)) (st := (fun (u : (Nat → Int32) × (Nat → Int32) × (Nat → Int32) × (Nat → Int32) × (Nat → Int32) × (Nat → Int64)) => wM K ad (sL (sA (sA (sA (sA (sA S 15 u.1) 16 u.2.1) 17 u.2.2.1) 19 u.2.2.2.1) 20 u.2.2.2.2.1) 18 u.2.2.2.2.2) ++ X)) (u := (f1, f2, f3, f5, f6, f4)) C hr d_Mo_write_53 (wn_eq w rfl) hw
set_option maxHeartbeats 4000000 in
set_option maxRecDepth 100000 in
theorem c_Mo_isBefore (l : Launch) (n0 : Nat) (G : va_G) (K : KT) (ad : Nat → Nat) (X : va_W) (S : ST) (p1 : Int32) (p2 : Int32) (post : Int32 → Prop) (hw : wp_Mo_isBefore S p1 p2 post) : Met l y_Mo_isBefore (Cond.code y_Mo_isBefore prog_12_method_32_code 3 (some .boolean) :: gw) rm_Mo_isBefore (va_Pc [.ref (ad 0), .int p1, .int p2] (wb n0 G K (wM K ad S ++ X))) (rq_i post) 0 0 (fun _ => False) := by
  refine kb_start (own := "LineBreakerModel") (by decide +kernel) rfl ?_
  intro p e s m below meth c C hr hne w
  have hx := C.1
  have hb := C.2.1
  have hts := C.2.2.2.2.1
  have hl := lv_entry ([.ref (ad 0), .int p1, .int p2]) (n := 3) (Nat.le_of_ble_eq_true rfl)
  rw [lg_entry_eq]
  generalize (lg_sl ([.ref (ad 0), .int p1, .int p2]) ++ List.replicate (3 - (lg_sl ([.ref (ad 0), .int p1, .int p2])).length) Slot.unset).toArray = ls at hl ⊢
  have hl : lv_has ls 3 [(0, .ref (ad 0)), (1, .int p1), (2, .int p2)] := hl
  unfold wp_Mo_isBefore at hw
  refine lv_aload_n hx hb d_Mo_isBefore_0 rfl (lv_at hl 0 rfl) ?_
  refine kg (C1 := R_Mo) (T := F_Mo) (N := 43) (ci := 10) (ref := "LineBreakerModel") (v := .ref (ad 15)) C w 0 21 iw_Mo rfl rfl (by decide) kw_898 rfl rfl d_Mo_isBefore_1 ?_
  refine lv_iload_n hx hb d_Mo_isBefore_4 rfl (lv_at hl 1 rfl) ?_
  refine ka_i (f := (S.1 15)) C w 15 rfl hw.1 d_Mo_isBefore_5 ?_
  have hw := hw.2
  refine lv_aload_n hx hb d_Mo_isBefore_6 rfl (lv_at hl 0 rfl) ?_
  refine kg (C1 := R_Mo) (T := F_Mo) (N := 43) (ci := 10) (ref := "LineBreakerModel") (v := .ref (ad 15)) C w 0 21 iw_Mo rfl rfl (by decide) kw_898 rfl rfl d_Mo_isBefore_7 ?_
  refine lv_iload_n hx hb d_Mo_isBefore_10 rfl (lv_at hl 2 rfl) ?_
  refine ka_i (f := (S.1 15)) C w 15 rfl hw.1 d_Mo_isBefore_11 ?_
  have hw := hw.2
  refine lv_icmp_lt (tgt := 45) hx hb d_Mo_isBefore_12 (by decide) (fun hc => ?_) (fun hc => ?_)
  · have hw := hw.1 hc
    refine lv_iconst (v := 1) hx hb d_Mo_isBefore_45 (by decide) ?_
    refine lv_goto (tgt := 50) hx hb d_Mo_isBefore_46 (by decide) ?_
    exact kf_z C hr d_Mo_isBefore_50 (Or.inr rfl) hw
  · have hw := hw.2 hc
    refine lv_aload_n hx hb d_Mo_isBefore_15 rfl (lv_at hl 0 rfl) ?_
    refine kg (C1 := R_Mo) (T := F_Mo) (N := 43) (ci := 10) (ref := "LineBreakerModel") (v := .ref (ad 15)) C w 0 21 iw_Mo rfl rfl (by decide) kw_898 rfl rfl d_Mo_isBefore_16 ?_
    refine lv_iload_n hx hb d_Mo_isBefore_19 rfl (lv_at hl 1 rfl) ?_
    refine ka_i (f := (S.1 15)) C w 15 rfl hw.1 d_Mo_isBefore_20 ?_
    have hw := hw.2
    refine lv_aload_n hx hb d_Mo_isBefore_21 rfl (lv_at hl 0 rfl) ?_
    refine kg (C1 := R_Mo) (T := F_Mo) (N := 43) (ci := 10) (ref := "LineBreakerModel") (v := .ref (ad 15)) C w 0 21 iw_Mo rfl rfl (by decide) kw_898 rfl rfl d_Mo_isBefore_22 ?_
    refine lv_iload_n hx hb d_Mo_isBefore_25 rfl (lv_at hl 2 rfl) ?_
    refine ka_i (f := (S.1 15)) C w 15 rfl hw.1 d_Mo_isBefore_26 ?_
    have hw := hw.2
    refine lv_icmp_ne (tgt := 49) hx hb d_Mo_isBefore_27 (by decide) (fun hc => ?_) (fun hc => ?_)
    · have hw := hw.1 hc
      refine lv_iconst (v := 0) hx hb d_Mo_isBefore_49 (by decide) ?_
      exact kf_z C hr d_Mo_isBefore_50 (Or.inl rfl) hw
    · have hw := hw.2 hc
      refine lv_aload_n hx hb d_Mo_isBefore_30 rfl (lv_at hl 0 rfl) ?_
      refine kg (C1 := R_Mo) (T := F_Mo) (N := 43) (ci := 10) (ref := "LineBreakerModel") (v := .ref (ad 17)) C w 0 23 iw_Mo rfl rfl (by decide) kw_900 rfl rfl d_Mo_isBefore_31 ?_
      refine lv_iload_n hx hb d_Mo_isBefore_34 rfl (lv_at hl 1 rfl) ?_
      refine ka_i (f := (S.1 17)) C w 17 rfl hw.1 d_Mo_isBefore_35 ?_
      have hw := hw.2
      refine lv_aload_n hx hb d_Mo_isBefore_36 rfl (lv_at hl 0 rfl) ?_
      refine kg (C1 := R_Mo) (T := F_Mo) (N := 43) (ci := 10) (ref := "LineBreakerModel") (v := .ref (ad 17)) C w 0 23 iw_Mo rfl rfl (by decide) kw_900 rfl rfl d_Mo_isBefore_37 ?_
      refine lv_iload_n hx hb d_Mo_isBefore_40 rfl (lv_at hl 2 rfl) ?_
      refine ka_i (f := (S.1 17)) C w 17 rfl hw.1 d_Mo_isBefore_41 ?_
      have hw := hw.2
      refine lv_icmp_le (tgt := 49) hx hb d_Mo_isBefore_42 (by decide) (fun hc => ?_) (fun hc => ?_)
      · have hw := hw.1 hc
        refine lv_iconst (v := 0) hx hb d_Mo_isBefore_49 (by decide) ?_
        exact kf_z C hr d_Mo_isBefore_50 (Or.inl rfl) hw
      · have hw := hw.2 hc
        refine lv_iconst (v := 1) hx hb d_Mo_isBefore_45 (by decide) ?_
        refine lv_goto (tgt := 50) hx hb d_Mo_isBefore_46 (by decide) ?_
        exact kf_z C hr d_Mo_isBefore_50 (Or.inr rfl) hw
set_option maxHeartbeats 4000000 in
set_option maxRecDepth 100000 in
theorem w_Mo_reach_150 {S : ST} {post : Int32 → (Nat → Int32) → (Nat → Int32) → (Nat → Int32) → (Nat → Int32) → (Nat → Int32) → (Nat → Int64) → Int32 → Prop} (C : cx p s m args meth c prog_12_method_33_code 7 "LineBreakerModel" n0 G K) (hr : meth.sig.returnType = (some .boolean)) : ∀ (x2 : Int32) (x3 : Int32) (x4 : Int64) (x6 : Int32), wl_Mo_reach_150 S post x2 x3 x4 x6 → ∀ (H : Heap) (locs : List Loc) (ls : Array Slot), wn n0 G (wM K ad S ++ X) s H locs → lv_has ls 7 [(0, .ref (ad 0)), (2, .int x2), (3, .int x3), (4, .long x4), (6, .int x6)] → W p l e rm_Mo_reach s m args below meth c H locs 0 0 (MQ below (va_Qi (fun r (u : (Nat → Int32) × (Nat → Int32) × (Nat → Int32) × (Nat → Int32) × (Nat → Int32) × (Nat → Int64) × Int32) => post r u.1 u.2.1 u.2.2.1 u.2.2.2.1 u.2.2.2.2.1 u.2.2.2.2.2.1 u.2.2.2.2.2.2) (fun (u : (Nat → Int32) × (Nat → Int32) × (Nat → Int32) × (Nat → Int32) × (Nat → Int32) × (Nat → Int64) × Int32) t => we n0 G (wM K ad (sI (sL (sA (sA (sA (sA (sA S 15 u.1) 16 u.2.1) 17 u.2.2.1) 19 u.2.2.2.1) 20 u.2.2.2.2.1) 18 u.2.2.2.2.2.1) 20 u.2.2.2.2.2.2) ++ X) t) (al n0)) args s 0 0 (al n0)) (F0 m 150 ls []) := by
  have hx := C.1
  have hb := C.2.1
  have hts := C.2.2.2.2.1
  intro x2 x3 x4 x6 hw H locs ls w hl
  unfold wl_Mo_reach_150 at hw
  refine lv_aload_n hx hb d_Mo_reach_150 rfl (lv_at hl 0 rfl) ?_
  refine lv_iload hx hb d_Mo_reach_151 (lv_at hl 4 rfl) ?_
  refine lv_iload_n hx hb d_Mo_reach_153 rfl (lv_at hl 1 rfl) ?_
  refine lv_iload_n hx hb d_Mo_reach_154 rfl (lv_at hl 2 rfl) ?_
  refine lv_lload hx hb d_Mo_reach_155 (lv_at hl 3 rfl) ?_
  refine kc_v (st := fun (u : (Nat → Int32) × (Nat → Int32) × (Nat → Int32) × (Nat → Int32) × (Nat → Int32) × (Nat → Int64)) => wM K ad (sL (sA (sA (sA (sA (sA S 15 u.1) 16 u.2.1) 17 u.2.2.1) 19 u.2.2.2.1) 20 u.2.2.2.2.1) 18 u.2.2.2.2.2) ++ X) w (kr_V (y := y_Mo_write) (C1 := R_Mo) (T := F_Mo) (N := 43) (ci := 10) (q0 := 0) (As := [.int x6, .int x2, .int x3, .long x4]) (n := 4) C w (c_Mo_write l n0 G K ad X S x6 x2 x3 x4 _ hw) (gw_V kw_1154 kw_1156 kp_34 kw_11 kw_1157) (by decide +kernel) rfl rfl ⟨Nat.le_of_ble_eq_true rfl, Nat.le_of_ble_eq_true rfl⟩ rfl rfl rfl hl.1 rfl (Nat.le_of_ble_eq_true rfl) d_Mo_reach_157 ⟨Nat.le_of_ble_eq_true rfl, Nat.le_of_ble_eq_true rfl⟩) (fun u H locs hw w => ?_)
  obtain ⟨f1, f2, f3, f4, f5, f6⟩ := u
  dsimp only at hw
  have w : wn n0 G (wM K ad (sL (sA (sA (sA (sA (sA S 15 f1) 16 f2) 17 f3) 19 f4) 20 f5) 18 f6) ++ X) s H locs := w
  refine lv_iconst (v := 1) hx hb d_Mo_reach_160 (by decide) ?_
  exact ke_z (post := (fun r (u : (Nat → Int32) × (Nat → Int32) × (Nat → Int32) × (Nat → Int32) × (Nat → Int32) × (Nat → Int64) × Int32) => post r u.1 u.2.1 u.2.2.1 u.2.2.2.1 u.2.2.2.2.1 u.2.2.2.2.2.1 u.2.2.2.2.2.2)) (st := (fun (u : (Nat → Int32) × (Nat → Int32) × (Nat → Int32) × (Nat → Int32) × (Nat → Int32) × (Nat → Int64) × Int32) => wM K ad (sI (sL (sA (sA (sA (sA (sA S 15 u.1) 16 u.2.1) 17 u.2.2.1) 19 u.2.2.2.1) 20 u.2.2.2.2.1) 18 u.2.2.2.2.2.1) 20 u.2.2.2.2.2.2) ++ X)) (u := (f1, f2, f3, f4, f5, f6, (S.2.2 20))) C hr d_Mo_reach_161 (wn_eq w rfl) (Or.inr rfl) hw
set_option maxHeartbeats 4000000 in
set_option maxRecDepth 100000 in
theorem w_Mo_reach_65 {S : ST} {post : Int32 → (Nat → Int32) → (Nat → Int32) → (Nat → Int32) → (Nat → Int32) → (Nat → Int32) → (Nat → Int64) → Int32 → Prop} (C : cx p s m args meth c prog_12_method_33_code 7 "LineBreakerModel" n0 G K) (hr : meth.sig.returnType = (some .boolean)) : ∀ (x2 : Int32) (x3 : Int32) (x4 : Int64) (x6 : Int32), wl_Mo_reach_65 S post x2 x3 x4 x6 → ∀ (H : Heap) (locs : List Loc) (ls : Array Slot), wn n0 G (wM K ad S ++ X) s H locs → lv_has ls 7 [(0, .ref (ad 0)), (2, .int x2), (3, .int x3), (4, .long x4), (6, .int x6)] → W p l e rm_Mo_reach s m args below meth c H locs 0 0 (MQ below (va_Qi (fun r (u : (Nat → Int32) × (Nat → Int32) × (Nat → Int32) × (Nat → Int32) × (Nat → Int32) × (Nat → Int64) × Int32) => post r u.1 u.2.1 u.2.2.1 u.2.2.2.1 u.2.2.2.2.1 u.2.2.2.2.2.1 u.2.2.2.2.2.2) (fun (u : (Nat → Int32) × (Nat → Int32) × (Nat → Int32) × (Nat → Int32) × (Nat → Int32) × (Nat → Int64) × Int32) t => we n0 G (wM K ad (sI (sL (sA (sA (sA (sA (sA S 15 u.1) 16 u.2.1) 17 u.2.2.1) 19 u.2.2.2.1) 20 u.2.2.2.2.1) 18 u.2.2.2.2.2.1) 20 u.2.2.2.2.2.2) ++ X) t) (al n0)) args s 0 0 (al n0)) (F0 m 65 ls []) := by
  have hx := C.1
  have hb := C.2.1
  have hts := C.2.2.2.2.1
  intro x2 x3 x4 x6 hw H locs ls w hl
  unfold wl_Mo_reach_65 at hw
  refine lv_iload hx hb d_Mo_reach_65 (lv_at hl 4 rfl) ?_
  refine lv_aload_n hx hb d_Mo_reach_67 rfl (lv_at hl 0 rfl) ?_
  refine kg (C1 := R_Mo) (T := F_Mo) (N := 43) (ci := 10) (ref := "LineBreakerModel") (v := .int (S.2.2 20)) C w 0 20 iw_Mo rfl rfl (by decide) kw_897 rfl rfl d_Mo_reach_68 ?_
  refine lv_icmp_le (tgt := 109) hx hb d_Mo_reach_71 (by decide) (fun hc => ?_) (fun hc => ?_)
  · have hw := hw.1 hc
    refine lv_lload hx hb d_Mo_reach_109 (lv_at hl 3 rfl) ?_
    refine lv_aload_n hx hb d_Mo_reach_111 rfl (lv_at hl 0 rfl) ?_
    refine kg (C1 := R_Mo) (T := F_Mo) (N := 43) (ci := 10) (ref := "LineBreakerModel") (v := .ref (ad 18)) C w 0 24 iw_Mo rfl rfl (by decide) kw_901 rfl rfl d_Mo_reach_112 ?_
    refine lv_iload hx hb d_Mo_reach_115 (lv_at hl 4 rfl) ?_
    refine ka_l (f := (S.2.1 18)) C w 18 rfl hw.1 d_Mo_reach_117 ?_
    have hw := hw.2
    refine W.lcmp hx hb d_Mo_reach_118 ?_
    refine lv_if_lt (tgt := 150) hx hb d_Mo_reach_119 (by decide) (fun hc => ?_) (fun hc => ?_)
    · have hw := hw.1 hc
      exact w_Mo_reach_150 C hr  x2 x3 x4 x6 hw _ _ _ (wn_eq w rfl) (lv_sub hl [0, 1, 2, 3, 4] rfl)
    · have hw := hw.2 hc
      refine lv_lload hx hb d_Mo_reach_122 (lv_at hl 3 rfl) ?_
      refine lv_aload_n hx hb d_Mo_reach_124 rfl (lv_at hl 0 rfl) ?_
      refine kg (C1 := R_Mo) (T := F_Mo) (N := 43) (ci := 10) (ref := "LineBreakerModel") (v := .ref (ad 18)) C w 0 24 iw_Mo rfl rfl (by decide) kw_901 rfl rfl d_Mo_reach_125 ?_
      refine lv_iload hx hb d_Mo_reach_128 (lv_at hl 4 rfl) ?_
      refine ka_l (f := (S.2.1 18)) C w 18 rfl hw.1 d_Mo_reach_130 ?_
      have hw := hw.2
      refine W.lcmp hx hb d_Mo_reach_131 ?_
      refine lv_if_ne (tgt := 160) hx hb d_Mo_reach_132 (by decide) (fun hc => ?_) (fun hc => ?_)
      · have hw := hw.1 hc
        refine lv_iconst (v := 1) hx hb d_Mo_reach_160 (by decide) ?_
        exact ke_z (post := (fun r (u : (Nat → Int32) × (Nat → Int32) × (Nat → Int32) × (Nat → Int32) × (Nat → Int32) × (Nat → Int64) × Int32) => post r u.1 u.2.1 u.2.2.1 u.2.2.2.1 u.2.2.2.2.1 u.2.2.2.2.2.1 u.2.2.2.2.2.2)) (st := (fun (u : (Nat → Int32) × (Nat → Int32) × (Nat → Int32) × (Nat → Int32) × (Nat → Int32) × (Nat → Int64) × Int32) => wM K ad (sI (sL (sA (sA (sA (sA (sA S 15 u.1) 16 u.2.1) 17 u.2.2.1) 19 u.2.2.2.1) 20 u.2.2.2.2.1) 18 u.2.2.2.2.2.1) 20 u.2.2.2.2.2.2) ++ X)) (u := ((S.1 15), (S.1 16), (S.1 17), (S.1 19), (S.1 20), (S.2.1 18), (S.2.2 20))) C hr d_Mo_reach_161 (wn_eq w rfl) (Or.inr rfl) hw
      · have hw := hw.2 hc
        refine lv_aload_n hx hb d_Mo_reach_135 rfl (lv_at hl 0 rfl) ?_
        refine lv_iload_n hx hb d_Mo_reach_136 rfl (lv_at hl 2 rfl) ?_
        refine lv_aload_n hx hb d_Mo_reach_137 rfl (lv_at hl 0 rfl) ?_
        refine kg (C1 := R_Mo) (T := F_Mo) (N := 43) (ci := 10) (ref := "LineBreakerModel") (v := .ref (ad 19)) C w 0 25 iw_Mo rfl rfl (by decide) kw_902 rfl rfl d_Mo_reach_138 ?_
        refine lv_iload hx hb d_Mo_reach_141 (lv_at hl 4 rfl) ?_
        refine ka_i (f := (S.1 19)) C w 19 rfl hw.1 d_Mo_reach_143 ?_
        have hw := hw.2
        refine kd_i (kr_V (y := y_Mo_isBefore) (C1 := R_Mo) (T := F_Mo) (N := 43) (ci := 10) (q0 := 0) (As := [.int x3, .int ((S.1 19) x6.toNatClampNeg)]) (n := 2) C w (c_Mo_isBefore l n0 G K ad X S x3 ((S.1 19) x6.toNatClampNeg) _ hw) (gw_V kw_1158 kw_1160 kp_35 kw_11 kw_1161) (by decide +kernel) rfl rfl ⟨Nat.le_of_ble_eq_true rfl, Nat.le_of_ble_eq_true rfl⟩ rfl rfl rfl hl.1 rfl (Nat.le_of_ble_eq_true rfl) d_Mo_reach_144 ⟨Nat.le_of_ble_eq_true rfl, Nat.le_of_ble_eq_true rfl⟩) (fun r1 hw => ?_)
        refine lv_if_eq (tgt := 160) hx hb d_Mo_reach_147 (by decide) (fun hc => ?_) (fun hc => ?_)
        · have hw := hw.1 hc
          refine lv_iconst (v := 1) hx hb d_Mo_reach_160 (by decide) ?_
          exact ke_z (post := (fun r (u : (Nat → Int32) × (Nat → Int32) × (Nat → Int32) × (Nat → Int32) × (Nat → Int32) × (Nat → Int64) × Int32) => post r u.1 u.2.1 u.2.2.1 u.2.2.2.1 u.2.2.2.2.1 u.2.2.2.2.2.1 u.2.2.2.2.2.2)) (st := (fun (u : (Nat → Int32) × (Nat → Int32) × (Nat → Int32) × (Nat → Int32) × (Nat → Int32) × (Nat → Int64) × Int32) => wM K ad (sI (sL (sA (sA (sA (sA (sA S 15 u.1) 16 u.2.1) 17 u.2.2.1) 19 u.2.2.2.1) 20 u.2.2.2.2.1) 18 u.2.2.2.2.2.1) 20 u.2.2.2.2.2.2) ++ X)) (u := ((S.1 15), (S.1 16), (S.1 17), (S.1 19), (S.1 20), (S.2.1 18), (S.2.2 20))) C hr d_Mo_reach_161 (wn_eq w rfl) (Or.inr rfl) hw
        · have hw := hw.2 hc
          exact w_Mo_reach_150 C hr  x2 x3 x4 x6 hw _ _ _ (wn_eq w rfl) (lv_sub hl [0, 1, 2, 3, 4] rfl)
  · have hw := hw.2 hc
    refine lv_aload_n hx hb d_Mo_reach_74 rfl (lv_at hl 0 rfl) ?_
    refine kg (C1 := R_Mo) (T := F_Mo) (N := 43) (ci := 10) (ref := "LineBreakerModel") (v := .int (S.2.2 20)) C w 0 20 iw_Mo rfl rfl (by decide) kw_897 rfl rfl d_Mo_reach_75 ?_
    refine lv_sipush (v := 8000) hx hb d_Mo_reach_78 (by decide) ?_
    refine lv_icmp_ne (tgt := 86) hx hb d_Mo_reach_81 (by decide) (fun hc => ?_) (fun hc => ?_)
    · have hw := hw.1 hc
      refine lv_aload_n hx hb d_Mo_reach_86 rfl (lv_at hl 0 rfl) ?_
      refine lv_dup hx hb d_Mo_reach_87 rfl ?_
      refine kg (C1 := R_Mo) (T := F_Mo) (N := 43) (ci := 10) (ref := "LineBreakerModel") (v := .int (S.2.2 20)) C w 0 20 iw_Mo rfl rfl (by decide) kw_897 rfl rfl d_Mo_reach_88 ?_
      refine lv_iconst (v := 1) hx hb d_Mo_reach_91 (by decide) ?_
      refine lv_iadd hx hb d_Mo_reach_92 ?_
      refine lv_topi (fun v2 ev2 => ?_)
      have hw := hw v2 ev2
      refine kp (C1 := R_Mo) (T := F_Mo) (N := 43) (ci := 10) (ty0 := t_Mo) (ref := "LineBreakerModel") (w2 := wM K ad (sI S 20 v2) ++ X) C w 0 20 iw_Mo tk_Mo n_Mo rfl rfl (by decide) kw_897 rfl rfl rfl rfl (Nat.le_of_ble_eq_true rfl) rfl d_Mo_reach_93 (fun H locs w => ?_)
      refine lv_aload_n hx hb d_Mo_reach_96 rfl (lv_at hl 0 rfl) ?_
      refine lv_iload hx hb d_Mo_reach_97 (lv_at hl 4 rfl) ?_
      refine lv_iload_n hx hb d_Mo_reach_99 rfl (lv_at hl 1 rfl) ?_
      refine lv_iload_n hx hb d_Mo_reach_100 rfl (lv_at hl 2 rfl) ?_
      refine lv_lload hx hb d_Mo_reach_101 (lv_at hl 3 rfl) ?_
      refine kc_v (st := fun (u : (Nat → Int32) × (Nat → Int32) × (Nat → Int32) × (Nat → Int32) × (Nat → Int32) × (Nat → Int64)) => wM K ad (sL (sA (sA (sA (sA (sA (sI S 20 v2) 15 u.1) 16 u.2.1) 17 u.2.2.1) 19 u.2.2.2.1) 20 u.2.2.2.2.1) 18 u.2.2.2.2.2) ++ X) w (kr_V (y := y_Mo_write) (C1 := R_Mo) (T := F_Mo) (N := 43) (ci := 10) (q0 := 0) (As := [.int x6, .int x2, .int x3, .long x4]) (n := 4) C w (c_Mo_write l n0 G K ad X (sI S 20 v2) x6 x2 x3 x4 _ hw) (gw_V kw_1154 kw_1156 kp_34 kw_11 kw_1157) (by decide +kernel) rfl rfl ⟨Nat.le_of_ble_eq_true rfl, Nat.le_of_ble_eq_true rfl⟩ rfl rfl rfl hl.1 rfl (Nat.le_of_ble_eq_true rfl) d_Mo_reach_103 ⟨Nat.le_of_ble_eq_true rfl, Nat.le_of_ble_eq_true rfl⟩) (fun u H locs hw w => ?_)
      obtain ⟨f3, f4, f5, f6, f7, f8⟩ := u
      dsimp only at hw
      have w : wn n0 G (wM K ad (sI (sL (sA (sA (sA (sA (sA S 15 f3) 16 f4) 17 f5) 19 f6) 20 f7) 18 f8) 20 v2) ++ X) s H locs := w
      refine lv_goto (tgt := 160) hx hb d_Mo_reach_106 (by decide) ?_
      refine lv_iconst (v := 1) hx hb d_Mo_reach_160 (by decide) ?_
      exact ke_z (post := (fun r (u : (Nat → Int32) × (Nat → Int32) × (Nat → Int32) × (Nat → Int32) × (Nat → Int32) × (Nat → Int64) × Int32) => post r u.1 u.2.1 u.2.2.1 u.2.2.2.1 u.2.2.2.2.1 u.2.2.2.2.2.1 u.2.2.2.2.2.2)) (st := (fun (u : (Nat → Int32) × (Nat → Int32) × (Nat → Int32) × (Nat → Int32) × (Nat → Int32) × (Nat → Int64) × Int32) => wM K ad (sI (sL (sA (sA (sA (sA (sA S 15 u.1) 16 u.2.1) 17 u.2.2.1) 19 u.2.2.2.1) 20 u.2.2.2.2.1) 18 u.2.2.2.2.2.1) 20 u.2.2.2.2.2.2) ++ X)) (u := (f3, f4, f5, f6, f7, f8, v2)) C hr d_Mo_reach_161 (wn_eq w rfl) (Or.inr rfl) hw
    · have hw := hw.2 hc
      refine lv_iconst (v := 0) hx hb d_Mo_reach_84 (by decide) ?_
      exact ke_z (post := (fun r (u : (Nat → Int32) × (Nat → Int32) × (Nat → Int32) × (Nat → Int32) × (Nat → Int32) × (Nat → Int64) × Int32) => post r u.1 u.2.1 u.2.2.1 u.2.2.2.1 u.2.2.2.2.1 u.2.2.2.2.2.1 u.2.2.2.2.2.2)) (st := (fun (u : (Nat → Int32) × (Nat → Int32) × (Nat → Int32) × (Nat → Int32) × (Nat → Int32) × (Nat → Int64) × Int32) => wM K ad (sI (sL (sA (sA (sA (sA (sA S 15 u.1) 16 u.2.1) 17 u.2.2.1) 19 u.2.2.2.1) 20 u.2.2.2.2.1) 18 u.2.2.2.2.2.1) 20 u.2.2.2.2.2.2) ++ X)) (u := ((S.1 15), (S.1 16), (S.1 17), (S.1 19), (S.1 20), (S.2.1 18), (S.2.2 20))) C hr d_Mo_reach_85 (wn_eq w rfl) (Or.inl rfl) hw
set_option maxHeartbeats 4000000 in
set_option maxRecDepth 100000 in
theorem w_Mo_reach_18 {S : ST} {post : Int32 → (Nat → Int32) → (Nat → Int32) → (Nat → Int32) → (Nat → Int32) → (Nat → Int32) → (Nat → Int64) → Int32 → Prop} (C : cx p s m args meth c prog_12_method_33_code 7 "LineBreakerModel" n0 G K) (hr : meth.sig.returnType = (some .boolean)) : ∀ (n : Nat) (x2 : Int32) (x3 : Int32) (x4 : Int64) (x6 : Int32), wl_Mo_reach_18 S post n x2 x3 x4 x6 → ∀ (H : Heap) (locs : List Loc) (ls : Array Slot), wn n0 G (wM K ad S ++ X) s H locs → lv_has ls 7 [(0, .ref (ad 0)), (2, .int x2), (3, .int x3), (4, .long x4), (6, .int x6)] → W p l e rm_Mo_reach s m args below meth c H locs 0 0 (MQ below (va_Qi (fun r (u : (Nat → Int32) × (Nat → Int32) × (Nat → Int32) × (Nat → Int32) × (Nat → Int32) × (Nat → Int64) × Int32) => post r u.1 u.2.1 u.2.2.1 u.2.2.2.1 u.2.2.2.2.1 u.2.2.2.2.2.1 u.2.2.2.2.2.2) (fun (u : (Nat → Int32) × (Nat → Int32) × (Nat → Int32) × (Nat → Int32) × (Nat → Int32) × (Nat → Int64) × Int32) t => we n0 G (wM K ad (sI (sL (sA (sA (sA (sA (sA S 15 u.1) 16 u.2.1) 17 u.2.2.1) 19 u.2.2.2.1) 20 u.2.2.2.2.1) 18 u.2.2.2.2.2.1) 20 u.2.2.2.2.2.2) ++ X) t) (al n0)) args s 0 0 (al n0)) (F0 m 18 ls []) := by
  have hx := C.1
  have hb := C.2.1
  have hts := C.2.2.2.2.1
  intro n
  induction n with
  | zero =>
    intro x2 x3 x4 x6 hw
    unfold wl_Mo_reach_18 at hw
    exact hw.elim
  | succ n ih =>
    intro x2 x3 x4 x6 hw H locs ls w hl
    unfold wl_Mo_reach_18 at hw
    refine lv_iload hx hb d_Mo_reach_18 (lv_at hl 4 rfl) ?_
    refine lv_aload_n hx hb d_Mo_reach_20 rfl (lv_at hl 0 rfl) ?_
    refine kg (C1 := R_Mo) (T := F_Mo) (N := 43) (ci := 10) (ref := "LineBreakerModel") (v := .int (S.2.2 20)) C w 0 20 iw_Mo rfl rfl (by decide) kw_897 rfl rfl d_Mo_reach_21 ?_
    refine lv_icmp_gt (tgt := 65) hx hb d_Mo_reach_24 (by decide) (fun hc => ?_) (fun hc => ?_)
    · have hw := hw.1 hc
      exact w_Mo_reach_65 C hr  x2 x3 x4 x6 hw _ _ _ (wn_eq w rfl) (lv_sub hl [0, 1, 2, 3, 4] rfl)
    · have hw := hw.2 hc
      refine lv_aload_n hx hb d_Mo_reach_27 rfl (lv_at hl 0 rfl) ?_
      refine kg (C1 := R_Mo) (T := F_Mo) (N := 43) (ci := 10) (ref := "LineBreakerModel") (v := .ref (ad 16)) C w 0 22 iw_Mo rfl rfl (by decide) kw_899 rfl rfl d_Mo_reach_28 ?_
      refine lv_iload hx hb d_Mo_reach_31 (lv_at hl 4 rfl) ?_
      refine ka_i (f := (S.1 16)) C w 16 rfl hw.1 d_Mo_reach_33 ?_
      have hw := hw.2
      refine lv_aload_n hx hb d_Mo_reach_34 rfl (lv_at hl 0 rfl) ?_
      refine kg (C1 := R_Mo) (T := F_Mo) (N := 43) (ci := 10) (ref := "LineBreakerModel") (v := .ref (ad 16)) C w 0 22 iw_Mo rfl rfl (by decide) kw_899 rfl rfl d_Mo_reach_35 ?_
      refine lv_iload_n hx hb d_Mo_reach_38 rfl (lv_at hl 2 rfl) ?_
      refine ka_i (f := (S.1 16)) C w 16 rfl hw.1 d_Mo_reach_39 ?_
      have hw := hw.2
      refine lv_iconst (v := 1) hx hb d_Mo_reach_40 (by decide) ?_
      refine lv_iadd hx hb d_Mo_reach_41 ?_
      refine lv_icmp_ne (tgt := 59) hx hb d_Mo_reach_42 (by decide) (fun hc => ?_) (fun hc => ?_)
      · have hw := hw.1 hc
        obtain ⟨v1, ev1⟩ : ∃ y : Int32, y = x6 + 1 := ⟨_, rfl⟩
        refine lv_iinc (v := v1) (lv' := [(6, .int v1), (0, .ref (ad 0)), (2, .int x2), (3, .int x3), (4, .long x4)]) hx hb d_Mo_reach_59 hl (k := 4) rfl (by rw [ev1]; rfl) (by decide) rfl (fun ls hl => ?_)
        have hw := hw v1 ev1
        refine lv_goto (tgt := 18) hx hb d_Mo_reach_62 (by decide) ?_
        exact ih x2 x3 x4 v1 hw _ _ _ (wn_eq w rfl) (lv_sub hl [1, 2, 3, 4, 0] rfl)
      · have hw := hw.2 hc
        refine lv_aload_n hx hb d_Mo_reach_45 rfl (lv_at hl 0 rfl) ?_
        refine kg (C1 := R_Mo) (T := F_Mo) (N := 43) (ci := 10) (ref := "LineBreakerModel") (v := .ref (ad 17)) C w 0 23 iw_Mo rfl rfl (by decide) kw_900 rfl rfl d_Mo_reach_46 ?_
        refine lv_iload hx hb d_Mo_reach_49 (lv_at hl 4 rfl) ?_
        refine ka_i (f := (S.1 17)) C w 17 rfl hw.1 d_Mo_reach_51 ?_
        have hw := hw.2
        refine lv_aload_n hx hb d_Mo_reach_52 rfl (lv_at hl 0 rfl) ?_
        refine kg (C1 := R_Mo) (T := F_Mo) (N := 43) (ci := 10) (ref := "LineBreakerModel") (v := .int (S.2.2 33)) C w 0 33 iw_Mo rfl rfl (by decide) kw_910 rfl rfl d_Mo_reach_53 ?_
        refine lv_icmp_eq (tgt := 65) hx hb d_Mo_reach_56 (by decide) (fun hc => ?_) (fun hc => ?_)
        · have hw := hw.1 hc
          exact w_Mo_reach_65 C hr  x2 x3 x4 x6 hw _ _ _ (wn_eq w rfl) (lv_sub hl [0, 1, 2, 3, 4] rfl)
        · have hw := hw.2 hc
          obtain ⟨v2, ev2⟩ : ∃ y : Int32, y = x6 + 1 := ⟨_, rfl⟩
          refine lv_iinc (v := v2) (lv' := [(6, .int v2), (0, .ref (ad 0)), (2, .int x2), (3, .int x3), (4, .long x4)]) hx hb d_Mo_reach_59 hl (k := 4) rfl (by rw [ev2]; rfl) (by decide) rfl (fun ls hl => ?_)
          have hw := hw v2 ev2
          refine lv_goto (tgt := 18) hx hb d_Mo_reach_62 (by decide) ?_
          exact ih x2 x3 x4 v2 hw _ _ _ (wn_eq w rfl) (lv_sub hl [1, 2, 3, 4, 0] rfl)
set_option maxHeartbeats 4000000 in
set_option maxRecDepth 100000 in
theorem c_Mo_reach (l : Launch) (n0 : Nat) (G : va_G) (K : KT) (ad : Nat → Nat) (X : va_W) (S : ST) (p1 : Int32) (p2 : Int32) (p3 : Int32) (post : Int32 → (Nat → Int32) → (Nat → Int32) → (Nat → Int32) → (Nat → Int32) → (Nat → Int32) → (Nat → Int64) → Int32 → Prop) (hw : wp_Mo_reach S p1 p2 p3 post) : Met l y_Mo_reach (Cond.code y_Mo_reach prog_12_method_33_code 7 (some .boolean) :: gw) rm_Mo_reach (va_Pc [.ref (ad 0), .int p1, .int p2, .int p3] (wb n0 G K (wM K ad S ++ X))) (va_Qi (fun r (u : (Nat → Int32) × (Nat → Int32) × (Nat → Int32) × (Nat → Int32) × (Nat → Int32) × (Nat → Int64) × Int32) => post r u.1 u.2.1 u.2.2.1 u.2.2.2.1 u.2.2.2.2.1 u.2.2.2.2.2.1 u.2.2.2.2.2.2) (fun (u : (Nat → Int32) × (Nat → Int32) × (Nat → Int32) × (Nat → Int32) × (Nat → Int32) × (Nat → Int64) × Int32) t => we n0 G (wM K ad (sI (sL (sA (sA (sA (sA (sA S 15 u.1) 16 u.2.1) 17 u.2.2.1) 19 u.2.2.2.1) 20 u.2.2.2.2.1) 18 u.2.2.2.2.2.1) 20 u.2.2.2.2.2.2) ++ X) t) (al n0)) 0 0 (al n0) := by
  refine kb_start (own := "LineBreakerModel") (by decide +kernel) rfl ?_
  intro p e s m below meth c C hr hne w
  have hx := C.1
  have hb := C.2.1
  have hts := C.2.2.2.2.1
  have hl := lv_entry ([.ref (ad 0), .int p1, .int p2, .int p3]) (n := 7) (Nat.le_of_ble_eq_true rfl)
  rw [lg_entry_eq]
  generalize (lg_sl ([.ref (ad 0), .int p1, .int p2, .int p3]) ++ List.replicate (7 - (lg_sl ([.ref (ad 0), .int p1, .int p2, .int p3])).length) Slot.unset).toArray = ls at hl ⊢
  have hl : lv_has ls 7 [(0, .ref (ad 0)), (1, .int p1), (2, .int p2), (3, .int p3)] := hl
  unfold wp_Mo_reach at hw
  refine lv_aload_n hx hb d_Mo_reach_0 rfl (lv_at hl 0 rfl) ?_
  refine kg (C1 := R_Mo) (T := F_Mo) (N := 43) (ci := 10) (ref := "LineBreakerModel") (v := .ref (ad 18)) C w 0 24 iw_Mo rfl rfl (by decide) kw_901 rfl rfl d_Mo_reach_1 ?_
  refine lv_iload_n hx hb d_Mo_reach_4 rfl (lv_at hl 3 rfl) ?_
  refine ka_l (f := (S.2.1 18)) C w 18 rfl hw.1 d_Mo_reach_5 ?_
  have hw := hw.2
  refine lv_aload_n hx hb d_Mo_reach_6 rfl (lv_at hl 0 rfl) ?_
  refine lv_iload_n hx hb d_Mo_reach_7 rfl (lv_at hl 3 rfl) ?_
  refine lv_iload_n hx hb d_Mo_reach_8 rfl (lv_at hl 2 rfl) ?_
  refine kd_l (kr_V (y := y_Mo_demerits) (C1 := R_Mo) (T := F_Mo) (N := 43) (ci := 10) (q0 := 0) (As := [.int p3, .int p2]) (n := 2) C w (c_Mo_demerits l n0 G K ad X S p3 p2 _ hw) (gw_V kw_1147 kw_1149 kp_33 kw_11 kw_1150) (by decide +kernel) rfl rfl ⟨Nat.le_of_ble_eq_true rfl, Nat.le_of_ble_eq_true rfl⟩ rfl rfl rfl hl.1 rfl (Nat.le_of_ble_eq_true rfl) d_Mo_reach_9 ⟨Nat.le_of_ble_eq_true rfl, Nat.le_of_ble_eq_true rfl⟩) (fun r1 hw => ?_)
  refine lv_ladd hx hb d_Mo_reach_12 ?_
  refine lv_topl (fun v2 ev2 => ?_)
  have hw := hw v2 ev2
  refine lv_lstore (lv' := [(4, .long v2), (0, .ref (ad 0)), (1, .int p1), (2, .int p2), (3, .int p3)]) hx hb d_Mo_reach_13 hl (by decide) rfl (fun ls hl => ?_)
  refine lv_iload_n hx hb d_Mo_reach_15 rfl (lv_at hl 2 rfl) ?_
  refine lv_istore (lv' := [(6, .int p1), (4, .long v2), (0, .ref (ad 0)), (1, .int p1), (2, .int p2), (3, .int p3)]) hx hb d_Mo_reach_16 hl (by decide) rfl (fun ls hl => ?_)
  obtain ⟨n9, hw⟩ := hw
  exact w_Mo_reach_18 C hr  n9 p2 p3 v2 p1 hw _ _ _ (wn_eq w rfl) (lv_sub hl [2, 4, 5, 1, 0] rfl)
set_option maxHeartbeats 4000000 in
set_option maxRecDepth 100000 in
theorem w_Mo_ask_237 {S : ST} {post : Int32 → (Nat → Int32) → (Nat → Int32) → (Nat → Int32) → (Nat → Int32) → (Nat → Int32) → (Nat → Int32) → (Nat → Int64) → Int32 → Int32 → Int32 → Int32 → Int32 → Int32 → Int32 → Prop} (C : cx p s m args meth c prog_12_method_34_code 10 "LineBreakerModel" n0 G K) (hr : meth.sig.returnType = (some .boolean)) : ∀ (a15 : (Nat → Int32)) (a16 : (Nat → Int32)) (a17 : (Nat → Int32)) (a19 : (Nat → Int32)) (a20 : (Nat → Int32)) (a21 : (Nat → Int32)) (l18 : (Nat → Int64)) (i20 : Int32) (i27 : Int32) (i28 : Int32) (i30 : Int32) (i31 : Int32) (i32 : Int32) (i33 : Int32) (x1 : Int32) (x4 : Int32) (x5 : Int32) (x6 : Int32) (x7 : Int32) (z0 : Int32), wl_Mo_ask_237 S post a15 a16 a17 a19 a20 a21 l18 i20 i27 i28 i30 i31 i32 i33 x1 x4 x5 x6 x7 z0 → ∀ (H : Heap) (locs : List Loc) (ls : Array Slot), wn n0 G (wM K ad (sI (sI (sI (sI (sI (sI (sI (sL (sA (sA (sA (sA (sA (sA S 15 a15) 16 a16) 17 a17) 19 a19) 20 a20) 21 a21) 18 l18) 20 i20) 27 i27) 28 i28) 30 i30) 31 i31) 32 i32) 33 i33) ++ X) s H locs → lv_has ls 10 [(0, .ref (ad 0)), (1, .int x1), (4, .int x4), (5, .int x5), (6, .int x6), (7, .int x7)] → W p l e rm_Mo_ask s m args below meth c H locs 0 0 (MQ below (va_Qi (fun r (u : (Nat → Int32) × (Nat → Int32) × (Nat → Int32) × (Nat → Int32) × (Nat → Int32) × (Nat → Int32) × (Nat → Int64) × Int32 × Int32 × Int32 × Int32 × Int32 × Int32 × Int32) => post r u.1 u.2.1 u.2.2.1 u.2.2.2.1 u.2.2.2.2.1 u.2.2.2.2.2.1 u.2.2.2.2.2.2.1 u.2.2.2.2.2.2.2.1 u.2.2.2.2.2.2.2.2.1 u.2.2.2.2.2.2.2.2.2.1 u.2.2.2.2.2.2.2.2.2.2.1 u.2.2.2.2.2.2.2.2.2.2.2.1 u.2.2.2.2.2.2.2.2.2.2.2.2.1 u.2.2.2.2.2.2.2.2.2.2.2.2.2) (fun (u : (Nat → Int32) × (Nat → Int32) × (Nat → Int32) × (Nat → Int32) × (Nat → Int32) × (Nat → Int32) × (Nat → Int64) × Int32 × Int32 × Int32 × Int32 × Int32 × Int32 × Int32) t => we n0 G (wM K ad (sI (sI (sI (sI (sI (sI (sI (sL (sA (sA (sA (sA (sA (sA S 15 u.1) 16 u.2.1) 17 u.2.2.1) 19 u.2.2.2.1) 20 u.2.2.2.2.1) 21 u.2.2.2.2.2.1) 18 u.2.2.2.2.2.2.1) 20 u.2.2.2.2.2.2.2.1) 27 u.2.2.2.2.2.2.2.2.1) 28 u.2.2.2.2.2.2.2.2.2.1) 30 u.2.2.2.2.2.2.2.2.2.2.1) 31 u.2.2.2.2.2.2.2.2.2.2.2.1) 32 u.2.2.2.2.2.2.2.2.2.2.2.2.1) 33 u.2.2.2.2.2.2.2.2.2.2.2.2.2) ++ X) t) (al n0)) args s 0 0 (al n0)) (F0 m 237 ls [.int z0]) := by
  have hx := C.1
  have hb := C.2.1
  have hts := C.2.2.2.2.1
  intro a15 a16 a17 a19 a20 a21 l18 i20 i27 i28 i30 i31 i32 i33 x1 x4 x5 x6 x7 z0 hw H locs ls w hl
  unfold wl_Mo_ask_237 at hw
  refine lv_istore (lv' := [(8, .int z0), (0, .ref (ad 0)), (1, .int x1), (4, .int x4), (5, .int x5), (6, .int x6), (7, .int x7)]) hx hb d_Mo_ask_237 hl (by decide) rfl (fun ls hl => ?_)
  refine lv_iload hx hb d_Mo_ask_239 (lv_at hl 0 rfl) ?_
  refine lv_if_eq (tgt := 324) hx hb d_Mo_ask_241 (by decide) (fun hc => ?_) (fun hc => ?_)
  · have hw := hw.1 hc
    refine lv_iconst (v := 1) hx hb d_Mo_ask_324 (by decide) ?_
    exact ke_z (post := (fun r (u : (Nat → Int32) × (Nat → Int32) × (Nat → Int32) × (Nat → Int32) × (Nat → Int32) × (Nat → Int32) × (Nat → Int64) × Int32 × Int32 × Int32 × Int32 × Int32 × Int32 × Int32) => post r u.1 u.2.1 u.2.2.1 u.2.2.2.1 u.2.2.2.2.1 u.2.2.2.2.2.1 u.2.2.2.2.2.2.1 u.2.2.2.2.2.2.2.1 u.2.2.2.2.2.2.2.2.1 u.2.2.2.2.2.2.2.2.2.1 u.2.2.2.2.2.2.2.2.2.2.1 u.2.2.2.2.2.2.2.2.2.2.2.1 u.2.2.2.2.2.2.2.2.2.2.2.2.1 u.2.2.2.2.2.2.2.2.2.2.2.2.2)) (st := (fun (u : (Nat → Int32) × (Nat → Int32) × (Nat → Int32) × (Nat → Int32) × (Nat → Int32) × (Nat → Int32) × (Nat → Int64) × Int32 × Int32 × Int32 × Int32 × Int32 × Int32 × Int32) => wM K ad (sI (sI (sI (sI (sI (sI (sI (sL (sA (sA (sA (sA (sA (sA S 15 u.1) 16 u.2.1) 17 u.2.2.1) 19 u.2.2.2.1) 20 u.2.2.2.2.1) 21 u.2.2.2.2.2.1) 18 u.2.2.2.2.2.2.1) 20 u.2.2.2.2.2.2.2.1) 27 u.2.2.2.2.2.2.2.2.1) 28 u.2.2.2.2.2.2.2.2.2.1) 30 u.2.2.2.2.2.2.2.2.2.2.1) 31 u.2.2.2.2.2.2.2.2.2.2.2.1) 32 u.2.2.2.2.2.2.2.2.2.2.2.2.1) 33 u.2.2.2.2.2.2.2.2.2.2.2.2.2) ++ X)) (u := (a15, a16, a17, a19, a20, a21, l18, i20, i27, i28, i30, i31, i32, i33)) C hr d_Mo_ask_325 (wn_eq w rfl) (Or.inr rfl) hw
  · have hw := hw.2 hc
    refine lv_iload hx hb d_Mo_ask_244 (lv_at hl 6 rfl) ?_
    refine lv_if_ne (tgt := 324) hx hb d_Mo_ask_246 (by decide) (fun hc => ?_) (fun hc => ?_)
    · have hw := hw.1 hc
      refine lv_iconst (v := 1) hx hb d_Mo_ask_324 (by decide) ?_
      exact ke_z (post := (fun r (u : (Nat → Int32) × (Nat → Int32) × (Nat → Int32) × (Nat → Int32) × (Nat → Int32) × (Nat → Int32) × (Nat → Int64) × Int32 × Int32 × Int32 × Int32 × Int32 × Int32 × Int32) => post r u.1 u.2.1 u.2.2.1 u.2.2.2.1 u.2.2.2.2.1 u.2.2.2.2.2.1 u.2.2.2.2.2.2.1 u.2.2.2.2.2.2.2.1 u.2.2.2.2.2.2.2.2.1 u.2.2.2.2.2.2.2.2.2.1 u.2.2.2.2.2.2.2.2.2.2.1 u.2.2.2.2.2.2.2.2.2.2.2.1 u.2.2.2.2.2.2.2.2.2.2.2.2.1 u.2.2.2.2.2.2.2.2.2.2.2.2.2)) (st := (fun (u : (Nat → Int32) × (Nat → Int32) × (Nat → Int32) × (Nat → Int32) × (Nat → Int32) × (Nat → Int32) × (Nat → Int64) × Int32 × Int32 × Int32 × Int32 × Int32 × Int32 × Int32) => wM K ad (sI (sI (sI (sI (sI (sI (sI (sL (sA (sA (sA (sA (sA (sA S 15 u.1) 16 u.2.1) 17 u.2.2.1) 19 u.2.2.2.1) 20 u.2.2.2.2.1) 21 u.2.2.2.2.2.1) 18 u.2.2.2.2.2.2.1) 20 u.2.2.2.2.2.2.2.1) 27 u.2.2.2.2.2.2.2.2.1) 28 u.2.2.2.2.2.2.2.2.2.1) 30 u.2.2.2.2.2.2.2.2.2.2.1) 31 u.2.2.2.2.2.2.2.2.2.2.2.1) 32 u.2.2.2.2.2.2.2.2.2.2.2.2.1) 33 u.2.2.2.2.2.2.2.2.2.2.2.2.2) ++ X)) (u := (a15, a16, a17, a19, a20, a21, l18, i20, i27, i28, i30, i31, i32, i33)) C hr d_Mo_ask_325 (wn_eq w rfl) (Or.inr rfl) hw
    · have hw := hw.2 hc
      refine lv_iload hx hb d_Mo_ask_249 (lv_at hl 3 rfl) ?_
      refine lv_if_le (tgt := 324) hx hb d_Mo_ask_251 (by decide) (fun hc => ?_) (fun hc => ?_)
      · have hw := hw.1 hc
        refine lv_iconst (v := 1) hx hb d_Mo_ask_324 (by decide) ?_
        exact ke_z (post := (fun r (u : (Nat → Int32) × (Nat → Int32) × (Nat → Int32) × (Nat → Int32) × (Nat → Int32) × (Nat → Int32) × (Nat → Int64) × Int32 × Int32 × Int32 × Int32 × Int32 × Int32 × Int32) => post r u.1 u.2.1 u.2.2.1 u.2.2.2.1 u.2.2.2.2.1 u.2.2.2.2.2.1 u.2.2.2.2.2.2.1 u.2.2.2.2.2.2.2.1 u.2.2.2.2.2.2.2.2.1 u.2.2.2.2.2.2.2.2.2.1 u.2.2.2.2.2.2.2.2.2.2.1 u.2.2.2.2.2.2.2.2.2.2.2.1 u.2.2.2.2.2.2.2.2.2.2.2.2.1 u.2.2.2.2.2.2.2.2.2.2.2.2.2)) (st := (fun (u : (Nat → Int32) × (Nat → Int32) × (Nat → Int32) × (Nat → Int32) × (Nat → Int32) × (Nat → Int32) × (Nat → Int64) × Int32 × Int32 × Int32 × Int32 × Int32 × Int32 × Int32) => wM K ad (sI (sI (sI (sI (sI (sI (sI (sL (sA (sA (sA (sA (sA (sA S 15 u.1) 16 u.2.1) 17 u.2.2.1) 19 u.2.2.2.1) 20 u.2.2.2.2.1) 21 u.2.2.2.2.2.1) 18 u.2.2.2.2.2.2.1) 20 u.2.2.2.2.2.2.2.1) 27 u.2.2.2.2.2.2.2.2.1) 28 u.2.2.2.2.2.2.2.2.2.1) 30 u.2.2.2.2.2.2.2.2.2.2.1) 31 u.2.2.2.2.2.2.2.2.2.2.2.1) 32 u.2.2.2.2.2.2.2.2.2.2.2.2.1) 33 u.2.2.2.2.2.2.2.2.2.2.2.2.2) ++ X)) (u := (a15, a16, a17, a19, a20, a21, l18, i20, i27, i28, i30, i31, i32, i33)) C hr d_Mo_ask_325 (wn_eq w rfl) (Or.inr rfl) hw
      · have hw := hw.2 hc
        refine lv_iload hx hb d_Mo_ask_254 (lv_at hl 3 rfl) ?_
        refine lv_iload hx hb d_Mo_ask_256 (lv_at hl 4 rfl) ?_
        refine lv_icmp_ne (tgt := 324) hx hb d_Mo_ask_258 (by decide) (fun hc => ?_) (fun hc => ?_)
        · have hw := hw.1 hc
          refine lv_iconst (v := 1) hx hb d_Mo_ask_324 (by decide) ?_
          exact ke_z (post := (fun r (u : (Nat → Int32) × (Nat → Int32) × (Nat → Int32) × (Nat → Int32) × (Nat → Int32) × (Nat → Int32) × (Nat → Int64) × Int32 × Int32 × Int32 × Int32 × Int32 × Int32 × Int32) => post r u.1 u.2.1 u.2.2.1 u.2.2.2.1 u.2.2.2.2.1 u.2.2.2.2.2.1 u.2.2.2.2.2.2.1 u.2.2.2.2.2.2.2.1 u.2.2.2.2.2.2.2.2.1 u.2.2.2.2.2.2.2.2.2.1 u.2.2.2.2.2.2.2.2.2.2.1 u.2.2.2.2.2.2.2.2.2.2.2.1 u.2.2.2.2.2.2.2.2.2.2.2.2.1 u.2.2.2.2.2.2.2.2.2.2.2.2.2)) (st := (fun (u : (Nat → Int32) × (Nat → Int32) × (Nat → Int32) × (Nat → Int32) × (Nat → Int32) × (Nat → Int32) × (Nat → Int64) × Int32 × Int32 × Int32 × Int32 × Int32 × Int32 × Int32) => wM K ad (sI (sI (sI (sI (sI (sI (sI (sL (sA (sA (sA (sA (sA (sA S 15 u.1) 16 u.2.1) 17 u.2.2.1) 19 u.2.2.2.1) 20 u.2.2.2.2.1) 21 u.2.2.2.2.2.1) 18 u.2.2.2.2.2.2.1) 20 u.2.2.2.2.2.2.2.1) 27 u.2.2.2.2.2.2.2.2.1) 28 u.2.2.2.2.2.2.2.2.2.1) 30 u.2.2.2.2.2.2.2.2.2.2.1) 31 u.2.2.2.2.2.2.2.2.2.2.2.1) 32 u.2.2.2.2.2.2.2.2.2.2.2.2.1) 33 u.2.2.2.2.2.2.2.2.2.2.2.2.2) ++ X)) (u := (a15, a16, a17, a19, a20, a21, l18, i20, i27, i28, i30, i31, i32, i33)) C hr d_Mo_ask_325 (wn_eq w rfl) (Or.inr rfl) hw
        · have hw := hw.2 hc
          refine lv_aload_n hx hb d_Mo_ask_261 rfl (lv_at hl 1 rfl) ?_
          refine kg (C1 := R_Mo) (T := F_Mo) (N := 43) (ci := 10) (ref := "LineBreakerModel") (v := .int i20) C w 0 20 iw_Mo rfl rfl (by decide) kw_897 rfl rfl d_Mo_ask_262 ?_
          refine lv_sipush (v := 8000) hx hb d_Mo_ask_265 (by decide) ?_
          refine lv_icmp_ne (tgt := 273) hx hb d_Mo_ask_268 (by decide) (fun hc => ?_) (fun hc => ?_)
          · have hw := hw.1 hc
            refine lv_aload_n hx hb d_Mo_ask_273 rfl (lv_at hl 1 rfl) ?_
            refine lv_aload_n hx hb d_Mo_ask_274 rfl (lv_at hl 1 rfl) ?_
            refine kg (C1 := R_Mo) (T := F_Mo) (N := 43) (ci := 10) (ref := "LineBreakerModel") (v := .ref (ad 15)) C w 0 21 iw_Mo rfl rfl (by decide) kw_898 rfl rfl d_Mo_ask_275 ?_
            refine lv_iload hx hb d_Mo_ask_278 (lv_at hl 5 rfl) ?_
            refine ka_i (f := a15) C w 15 rfl hw.1 d_Mo_ask_280 ?_
            have hw := hw.2
            refine lv_iload_n hx hb d_Mo_ask_281 rfl (lv_at hl 2 rfl) ?_
            refine kc_v (st := fun (u : (Nat → Int32) × Int32 × Int32 × Int32) => wM K ad (sI (sI (sI (sA (sI (sI (sI (sI (sI (sI (sI (sL (sA (sA (sA (sA (sA (sA S 15 a15) 16 a16) 17 a17) 19 a19) 20 a20) 21 a21) 18 l18) 20 i20) 27 i27) 28 i28) 30 i30) 31 i31) 32 i32) 33 i33) 21 u.1) 27 u.2.1) 28 u.2.2.1) 30 u.2.2.2) ++ X) w (kr_V (y := y_Mo_measure) (C1 := R_Mo) (T := F_Mo) (N := 43) (ci := 10) (q0 := 0) (As := [.int (a15 x6.toNatClampNeg), .int x1]) (n := 2) C w (c_Mo_measure l n0 G K ad X (sI (sI (sI (sI (sI (sI (sI (sL (sA (sA (sA (sA (sA (sA S 15 a15) 16 a16) 17 a17) 19 a19) 20 a20) 21 a21) 18 l18) 20 i20) 27 i27) 28 i28) 30 i30) 31 i31) 32 i32) 33 i33) (a15 x6.toNatClampNeg) x1 _ hw) (gw_V kw_1110 kw_1112 kp_26 kw_11 kw_1113) (by decide +kernel) rfl rfl ⟨Nat.le_of_ble_eq_true rfl, Nat.le_of_ble_eq_true rfl⟩ rfl rfl rfl hl.1 rfl (Nat.le_of_ble_eq_true rfl) d_Mo_ask_282 ⟨Nat.le_of_ble_eq_true rfl, Nat.le_of_ble_eq_true rfl⟩) (fun u H locs hw w => ?_)
            obtain ⟨f1, v2, v3, v4⟩ := u
            dsimp only at hw
            have w : wn n0 G (wM K ad (sI (sI (sI (sI (sI (sI (sI (sL (sA (sA (sA (sA (sA (sA S 15 a15) 16 a16) 17 a17) 19 a19) 20 a20) 21 f1) 18 l18) 20 i20) 27 v2) 28 v3) 30 v4) 31 i31) 32 i32) 33 i33) ++ X) s H locs := w
            refine lv_aload_n hx hb d_Mo_ask_285 rfl (lv_at hl 1 rfl) ?_
            refine lv_aload_n hx hb d_Mo_ask_286 rfl (lv_at hl 1 rfl) ?_
            refine kg (C1 := R_Mo) (T := F_Mo) (N := 43) (ci := 10) (ref := "LineBreakerModel") (v := .ref (ad 16)) C w 0 22 iw_Mo rfl rfl (by decide) kw_899 rfl rfl d_Mo_ask_287 ?_
            refine lv_iload hx hb d_Mo_ask_290 (lv_at hl 5 rfl) ?_
            refine ka_i (f := a16) C w 16 rfl hw.1 d_Mo_ask_292 ?_
            have hw := hw.2
            refine kc_v (st := fun (u : Int32 × Int32 × Int32) => wM K ad (sI (sI (sI (sI (sI (sI (sI (sI (sI (sI (sL (sA (sA (sA (sA (sA (sA S 15 a15) 16 a16) 17 a17) 19 a19) 20 a20) 21 f1) 18 l18) 20 i20) 27 v2) 28 v3) 30 v4) 31 i31) 32 i32) 33 i33) 31 u.1) 32 u.2.1) 33 u.2.2) ++ X) w (kr_V (y := y_Mo_judge) (C1 := R_Mo) (T := F_Mo) (N := 43) (ci := 10) (q0 := 0) (As := [.int (a16 x6.toNatClampNeg)]) (n := 1) C w (c_Mo_judge l n0 G K ad X (sI (sI (sI (sI (sI (sI (sI (sL (sA (sA (sA (sA (sA (sA S 15 a15) 16 a16) 17 a17) 19 a19) 20 a20) 21 f1) 18 l18) 20 i20) 27 v2) 28 v3) 30 v4) 31 i31) 32 i32) 33 i33) (a16 x6.toNatClampNeg) _ hw) (gw_V kw_1130 kw_1132 kp_31 kw_11 kw_1133) (by decide +kernel) rfl rfl ⟨Nat.le_of_ble_eq_true rfl, Nat.le_of_ble_eq_true rfl⟩ rfl rfl rfl hl.1 rfl (Nat.le_of_ble_eq_true rfl) d_Mo_ask_293 ⟨Nat.le_of_ble_eq_true rfl, Nat.le_of_ble_eq_true rfl⟩) (fun u H locs hw w => ?_)
            obtain ⟨v5, v6, v7⟩ := u
            dsimp only at hw
            have w : wn n0 G (wM K ad (sI (sI (sI (sI (sI (sI (sI (sL (sA (sA (sA (sA (sA (sA S 15 a15) 16 a16) 17 a17) 19 a19) 20 a20) 21 f1) 18 l18) 20 i20) 27 v2) 28 v3) 30 v4) 31 v5) 32 v6) 33 v7) ++ X) s H locs := w
            refine lv_aload_n hx hb d_Mo_ask_296 rfl (lv_at hl 1 rfl) ?_
            refine lv_dup hx hb d_Mo_ask_297 rfl ?_
            refine kg (C1 := R_Mo) (T := F_Mo) (N := 43) (ci := 10) (ref := "LineBreakerModel") (v := .int i20) C w 0 20 iw_Mo rfl rfl (by decide) kw_897 rfl rfl d_Mo_ask_298 ?_
            refine lv_iconst (v := 1) hx hb d_Mo_ask_301 (by decide) ?_
            refine lv_iadd hx hb d_Mo_ask_302 ?_
            refine lv_topi (fun v8 ev8 => ?_)
            have hw := hw v8 ev8
            refine kp (C1 := R_Mo) (T := F_Mo) (N := 43) (ci := 10) (ty0 := t_Mo) (ref := "LineBreakerModel") (w2 := wM K ad (sI (sI (sI (sI (sI (sI (sI (sL (sA (sA (sA (sA (sA (sA S 15 a15) 16 a16) 17 a17) 19 a19) 20 a20) 21 f1) 18 l18) 20 v8) 27 v2) 28 v3) 30 v4) 31 v5) 32 v6) 33 v7) ++ X) C w 0 20 iw_Mo tk_Mo n_Mo rfl rfl (by decide) kw_897 rfl rfl rfl rfl (Nat.le_of_ble_eq_true rfl) rfl d_Mo_ask_303 (fun H locs w => ?_)
            refine lv_aload_n hx hb d_Mo_ask_306 rfl (lv_at hl 1 rfl) ?_
            refine lv_aload_n hx hb d_Mo_ask_307 rfl (lv_at hl 1 rfl) ?_
            refine kg (C1 := R_Mo) (T := F_Mo) (N := 43) (ci := 10) (ref := "LineBreakerModel") (v := .int v8) C w 0 20 iw_Mo rfl rfl (by decide) kw_897 rfl rfl d_Mo_ask_308 ?_
            refine lv_iload_n hx hb d_Mo_ask_311 rfl (lv_at hl 2 rfl) ?_
            refine lv_iload hx hb d_Mo_ask_312 (lv_at hl 5 rfl) ?_
            refine lv_aload_n hx hb d_Mo_ask_314 rfl (lv_at hl 1 rfl) ?_
            refine kg (C1 := R_Mo) (T := F_Mo) (N := 43) (ci := 10) (ref := "LineBreakerModel") (v := .ref (ad 18)) C w 0 24 iw_Mo rfl rfl (by decide) kw_901 rfl rfl d_Mo_ask_315 ?_
            refine lv_iload hx hb d_Mo_ask_318 (lv_at hl 5 rfl) ?_
            refine ka_l (f := l18) C w 18 rfl hw.1 d_Mo_ask_320 ?_
            have hw := hw.2
            refine kc_v (st := fun (u : (Nat → Int32) × (Nat → Int32) × (Nat → Int32) × (Nat → Int32) × (Nat → Int32) × (Nat → Int64)) => wM K ad (sL (sA (sA (sA (sA (sA (sI (sI (sI (sI (sI (sI (sI (sL (sA (sA (sA (sA (sA (sA S 15 a15) 16 a16) 17 a17) 19 a19) 20 a20) 21 f1) 18 l18) 20 v8) 27 v2) 28 v3) 30 v4) 31 v5) 32 v6) 33 v7) 15 u.1) 16 u.2.1) 17 u.2.2.1) 19 u.2.2.2.1) 20 u.2.2.2.2.1) 18 u.2.2.2.2.2) ++ X) w (kr_V (y := y_Mo_write) (C1 := R_Mo) (T := F_Mo) (N := 43) (ci := 10) (q0 := 0) (As := [.int v8, .int x1, .int x6, .long (l18 x6.toNatClampNeg)]) (n := 4) C w (c_Mo_write l n0 G K ad X (sI (sI (sI (sI (sI (sI (sI (sL (sA (sA (sA (sA (sA (sA S 15 a15) 16 a16) 17 a17) 19 a19) 20 a20) 21 f1) 18 l18) 20 v8) 27 v2) 28 v3) 30 v4) 31 v5) 32 v6) 33 v7) v8 x1 x6 (l18 x6.toNatClampNeg) _ hw) (gw_V kw_1154 kw_1156 kp_34 kw_11 kw_1157) (by decide +kernel) rfl rfl ⟨Nat.le_of_ble_eq_true rfl, Nat.le_of_ble_eq_true rfl⟩ rfl rfl rfl hl.1 rfl (Nat.le_of_ble_eq_true rfl) d_Mo_ask_321 ⟨Nat.le_of_ble_eq_true rfl, Nat.le_of_ble_eq_true rfl⟩) (fun u H locs hw w => ?_)
            obtain ⟨f9, f10, f11, f12, f13, f14⟩ := u
            dsimp only at hw
            have w : wn n0 G (wM K ad (sI (sI (sI (sI (sI (sI (sI (sL (sA (sA (sA (sA (sA (sA S 15 f9) 16 f10) 17 f11) 19 f12) 20 f13) 21 f1) 18 f14) 20 v8) 27 v2) 28 v3) 30 v4) 31 v5) 32 v6) 33 v7) ++ X) s H locs := w
            refine lv_iconst (v := 1) hx hb d_Mo_ask_324 (by decide) ?_
            exact ke_z (post := (fun r (u : (Nat → Int32) × (Nat → Int32) × (Nat → Int32) × (Nat → Int32) × (Nat → Int32) × (Nat → Int32) × (Nat → Int64) × Int32 × Int32 × Int32 × Int32 × Int32 × Int32 × Int32) => post r u.1 u.2.1 u.2.2.1 u.2.2.2.1 u.2.2.2.2.1 u.2.2.2.2.2.1 u.2.2.2.2.2.2.1 u.2.2.2.2.2.2.2.1 u.2.2.2.2.2.2.2.2.1 u.2.2.2.2.2.2.2.2.2.1 u.2.2.2.2.2.2.2.2.2.2.1 u.2.2.2.2.2.2.2.2.2.2.2.1 u.2.2.2.2.2.2.2.2.2.2.2.2.1 u.2.2.2.2.2.2.2.2.2.2.2.2.2)) (st := (fun (u : (Nat → Int32) × (Nat → Int32) × (Nat → Int32) × (Nat → Int32) × (Nat → Int32) × (Nat → Int32) × (Nat → Int64) × Int32 × Int32 × Int32 × Int32 × Int32 × Int32 × Int32) => wM K ad (sI (sI (sI (sI (sI (sI (sI (sL (sA (sA (sA (sA (sA (sA S 15 u.1) 16 u.2.1) 17 u.2.2.1) 19 u.2.2.2.1) 20 u.2.2.2.2.1) 21 u.2.2.2.2.2.1) 18 u.2.2.2.2.2.2.1) 20 u.2.2.2.2.2.2.2.1) 27 u.2.2.2.2.2.2.2.2.1) 28 u.2.2.2.2.2.2.2.2.2.1) 30 u.2.2.2.2.2.2.2.2.2.2.1) 31 u.2.2.2.2.2.2.2.2.2.2.2.1) 32 u.2.2.2.2.2.2.2.2.2.2.2.2.1) 33 u.2.2.2.2.2.2.2.2.2.2.2.2.2) ++ X)) (u := (f9, f10, f11, f12, f13, f1, f14, v8, v2, v3, v4, v5, v6, v7)) C hr d_Mo_ask_325 (wn_eq w rfl) (Or.inr rfl) hw
          · have hw := hw.2 hc
            refine lv_iconst (v := 0) hx hb d_Mo_ask_271 (by decide) ?_
            exact ke_z (post := (fun r (u : (Nat → Int32) × (Nat → Int32) × (Nat → Int32) × (Nat → Int32) × (Nat → Int32) × (Nat → Int32) × (Nat → Int64) × Int32 × Int32 × Int32 × Int32 × Int32 × Int32 × Int32) => post r u.1 u.2.1 u.2.2.1 u.2.2.2.1 u.2.2.2.2.1 u.2.2.2.2.2.1 u.2.2.2.2.2.2.1 u.2.2.2.2.2.2.2.1 u.2.2.2.2.2.2.2.2.1 u.2.2.2.2.2.2.2.2.2.1 u.2.2.2.2.2.2.2.2.2.2.1 u.2.2.2.2.2.2.2.2.2.2.2.1 u.2.2.2.2.2.2.2.2.2.2.2.2.1 u.2.2.2.2.2.2.2.2.2.2.2.2.2)) (st := (fun (u : (Nat → Int32) × (Nat → Int32) × (Nat → Int32) × (Nat → Int32) × (Nat → Int32) × (Nat → Int32) × (Nat → Int64) × Int32 × Int32 × Int32 × Int32 × Int32 × Int32 × Int32) => wM K ad (sI (sI (sI (sI (sI (sI (sI (sL (sA (sA (sA (sA (sA (sA S 15 u.1) 16 u.2.1) 17 u.2.2.1) 19 u.2.2.2.1) 20 u.2.2.2.2.1) 21 u.2.2.2.2.2.1) 18 u.2.2.2.2.2.2.1) 20 u.2.2.2.2.2.2.2.1) 27 u.2.2.2.2.2.2.2.2.1) 28 u.2.2.2.2.2.2.2.2.2.1) 30 u.2.2.2.2.2.2.2.2.2.2.1) 31 u.2.2.2.2.2.2.2.2.2.2.2.1) 32 u.2.2.2.2.2.2.2.2.2.2.2.2.1) 33 u.2.2.2.2.2.2.2.2.2.2.2.2.2) ++ X)) (u := (a15, a16, a17, a19, a20, a21, l18, i20, i27, i28, i30, i31, i32, i33)) C hr d_Mo_ask_272 (wn_eq w rfl) (Or.inl rfl) hw
set_option maxHeartbeats 4000000 in
set_option maxRecDepth 100000 in
theorem w_Mo_ask_229 {S : ST} {post : Int32 → (Nat → Int32) → (Nat → Int32) → (Nat → Int32) → (Nat → Int32) → (Nat → Int32) → (Nat → Int32) → (Nat → Int64) → Int32 → Int32 → Int32 → Int32 → Int32 → Int32 → Int32 → Prop} (C : cx p s m args meth c prog_12_method_34_code 10 "LineBreakerModel" n0 G K) (hr : meth.sig.returnType = (some .boolean)) : ∀ (a15 : (Nat → Int32)) (a16 : (Nat → Int32)) (a17 : (Nat → Int32)) (a19 : (Nat → Int32)) (a20 : (Nat → Int32)) (a21 : (Nat → Int32)) (l18 : (Nat → Int64)) (i20 : Int32) (i27 : Int32) (i28 : Int32) (i30 : Int32) (i31 : Int32) (i32 : Int32) (i33 : Int32) (x1 : Int32) (x4 : Int32) (x5 : Int32) (x6 : Int32) (x7 : Int32) (z0 : Int32) (z1 : Int32), wl_Mo_ask_229 S post a15 a16 a17 a19 a20 a21 l18 i20 i27 i28 i30 i31 i32 i33 x1 x4 x5 x6 x7 z0 z1 → ∀ (H : Heap) (locs : List Loc) (ls : Array Slot), wn n0 G (wM K ad (sI (sI (sI (sI (sI (sI (sI (sL (sA (sA (sA (sA (sA (sA S 15 a15) 16 a16) 17 a17) 19 a19) 20 a20) 21 a21) 18 l18) 20 i20) 27 i27) 28 i28) 30 i30) 31 i31) 32 i32) 33 i33) ++ X) s H locs → lv_has ls 10 [(0, .ref (ad 0)), (1, .int x1), (4, .int x4), (5, .int x5), (6, .int x6), (7, .int x7)] → W p l e rm_Mo_ask s m args below meth c H locs 0 0 (MQ below (va_Qi (fun r (u : (Nat → Int32) × (Nat → Int32) × (Nat → Int32) × (Nat → Int32) × (Nat → Int32) × (Nat → Int32) × (Nat → Int64) × Int32 × Int32 × Int32 × Int32 × Int32 × Int32 × Int32) => post r u.1 u.2.1 u.2.2.1 u.2.2.2.1 u.2.2.2.2.1 u.2.2.2.2.2.1 u.2.2.2.2.2.2.1 u.2.2.2.2.2.2.2.1 u.2.2.2.2.2.2.2.2.1 u.2.2.2.2.2.2.2.2.2.1 u.2.2.2.2.2.2.2.2.2.2.1 u.2.2.2.2.2.2.2.2.2.2.2.1 u.2.2.2.2.2.2.2.2.2.2.2.2.1 u.2.2.2.2.2.2.2.2.2.2.2.2.2) (fun (u : (Nat → Int32) × (Nat → Int32) × (Nat → Int32) × (Nat → Int32) × (Nat → Int32) × (Nat → Int32) × (Nat → Int64) × Int32 × Int32 × Int32 × Int32 × Int32 × Int32 × Int32) t => we n0 G (wM K ad (sI (sI (sI (sI (sI (sI (sI (sL (sA (sA (sA (sA (sA (sA S 15 u.1) 16 u.2.1) 17 u.2.2.1) 19 u.2.2.2.1) 20 u.2.2.2.2.1) 21 u.2.2.2.2.2.1) 18 u.2.2.2.2.2.2.1) 20 u.2.2.2.2.2.2.2.1) 27 u.2.2.2.2.2.2.2.2.1) 28 u.2.2.2.2.2.2.2.2.2.1) 30 u.2.2.2.2.2.2.2.2.2.2.1) 31 u.2.2.2.2.2.2.2.2.2.2.2.1) 32 u.2.2.2.2.2.2.2.2.2.2.2.2.1) 33 u.2.2.2.2.2.2.2.2.2.2.2.2.2) ++ X) t) (al n0)) args s 0 0 (al n0)) (F0 m 229 ls [.int z1, .int z0]) := by
  have hx := C.1
  have hb := C.2.1
  have hts := C.2.2.2.2.1
  intro a15 a16 a17 a19 a20 a21 l18 i20 i27 i28 i30 i31 i32 i33 x1 x4 x5 x6 x7 z0 z1 hw H locs ls w hl
  unfold wl_Mo_ask_229 at hw
  refine lv_icmp_ne (tgt := 236) hx hb d_Mo_ask_229 (by decide) (fun hc => ?_) (fun hc => ?_)
  · have hw := hw.1 hc
    refine lv_iconst (v := 0) hx hb d_Mo_ask_236 (by decide) ?_
    exact w_Mo_ask_237 C hr  a15 a16 a17 a19 a20 a21 l18 i20 i27 i28 i30 i31 i32 i33 x1 x4 x5 x6 x7 0 hw _ _ _ (wn_eq w rfl) (lv_sub hl [0, 1, 2, 3, 4, 5] rfl)
  · have hw := hw.2 hc
    refine lv_iconst (v := 1) hx hb d_Mo_ask_232 (by decide) ?_
    refine lv_goto (tgt := 237) hx hb d_Mo_ask_233 (by decide) ?_
    exact w_Mo_ask_237 C hr  a15 a16 a17 a19 a20 a21 l18 i20 i27 i28 i30 i31 i32 i33 x1 x4 x5 x6 x7 1 hw _ _ _ (wn_eq w rfl) (lv_sub hl [0, 1, 2, 3, 4, 5] rfl)
set_option maxHeartbeats 4000000 in
set_option maxRecDepth 100000 in
theorem w_Mo_ask_194 {S : ST} {post : Int32 → (Nat → Int32) → (Nat → Int32) → (Nat → Int32) → (Nat → Int32) → (Nat → Int32) → (Nat → Int32) → (Nat → Int64) → Int32 → Int32 → Int32 → Int32 → Int32 → Int32 → Int32 → Prop} (C : cx p s m args meth c prog_12_method_34_code 10 "LineBreakerModel" n0 G K) (hr : meth.sig.returnType = (some .boolean)) {K39 : (Nat → Int32) → (Nat → Int32) → (Nat → Int32) → (Nat → Int32) → (Nat → Int32) → (Nat → Int32) → (Nat → Int64) → Int32 → Int32 → Int32 → Int32 → Int32 → Int32 → Int32 → Int32 → Int32 → Int32 → Int32 → Int32 → Int32 → Int32 → Int32 → Prop} (hk39 : ∀ (a15 : (Nat → Int32)) (a16 : (Nat → Int32)) (a17 : (Nat → Int32)) (a19 : (Nat → Int32)) (a20 : (Nat → Int32)) (a21 : (Nat → Int32)) (l18 : (Nat → Int64)) (i20 : Int32) (i27 : Int32) (i28 : Int32) (i30 : Int32) (i31 : Int32) (i32 : Int32) (i33 : Int32) (x1 : Int32) (x2 : Int32) (x3 : Int32) (x4 : Int32) (x5 : Int32) (x6 : Int32) (x7 : Int32) (x8 : Int32), K39 a15 a16 a17 a19 a20 a21 l18 i20 i27 i28 i30 i31 i32 i33 x1 x2 x3 x4 x5 x6 x7 x8 → ∀ (H : Heap) (locs : List Loc) (ls : Array Slot), wn n0 G (wM K ad (sI (sI (sI (sI (sI (sI (sI (sL (sA (sA (sA (sA (sA (sA S 15 a15) 16 a16) 17 a17) 19 a19) 20 a20) 21 a21) 18 l18) 20 i20) 27 i27) 28 i28) 30 i30) 31 i31) 32 i32) 33 i33) ++ X) s H locs → lv_has ls 10 [(0, .ref (ad 0)), (1, .int x1), (2, .int x2), (3, .int x3), (4, .int x4), (5, .int x5), (6, .int x6), (7, .int x7), (8, .int x8)] → W p l e rm_Mo_ask s m args below meth c H locs 0 0 (MQ below (va_Qi (fun r (u : (Nat → Int32) × (Nat → Int32) × (Nat → Int32) × (Nat → Int32) × (Nat → Int32) × (Nat → Int32) × (Nat → Int64) × Int32 × Int32 × Int32 × Int32 × Int32 × Int32 × Int32) => post r u.1 u.2.1 u.2.2.1 u.2.2.2.1 u.2.2.2.2.1 u.2.2.2.2.2.1 u.2.2.2.2.2.2.1 u.2.2.2.2.2.2.2.1 u.2.2.2.2.2.2.2.2.1 u.2.2.2.2.2.2.2.2.2.1 u.2.2.2.2.2.2.2.2.2.2.1 u.2.2.2.2.2.2.2.2.2.2.2.1 u.2.2.2.2.2.2.2.2.2.2.2.2.1 u.2.2.2.2.2.2.2.2.2.2.2.2.2) (fun (u : (Nat → Int32) × (Nat → Int32) × (Nat → Int32) × (Nat → Int32) × (Nat → Int32) × (Nat → Int32) × (Nat → Int64) × Int32 × Int32 × Int32 × Int32 × Int32 × Int32 × Int32) t => we n0 G (wM K ad (sI (sI (sI (sI (sI (sI (sI (sL (sA (sA (sA (sA (sA (sA S 15 u.1) 16 u.2.1) 17 u.2.2.1) 19 u.2.2.2.1) 20 u.2.2.2.2.1) 21 u.2.2.2.2.2.1) 18 u.2.2.2.2.2.2.1) 20 u.2.2.2.2.2.2.2.1) 27 u.2.2.2.2.2.2.2.2.1) 28 u.2.2.2.2.2.2.2.2.2.1) 30 u.2.2.2.2.2.2.2.2.2.2.1) 31 u.2.2.2.2.2.2.2.2.2.2.2.1) 32 u.2.2.2.2.2.2.2.2.2.2.2.2.1) 33 u.2.2.2.2.2.2.2.2.2.2.2.2.2) ++ X) t) (al n0)) args s 0 0 (al n0)) (F0 m 39 ls [])) : ∀ (a15 : (Nat → Int32)) (a16 : (Nat → Int32)) (a17 : (Nat → Int32)) (a19 : (Nat → Int32)) (a20 : (Nat → Int32)) (a21 : (Nat → Int32)) (l18 : (Nat → Int64)) (i20 : Int32) (i27 : Int32) (i28 : Int32) (i30 : Int32) (i31 : Int32) (i32 : Int32) (i33 : Int32) (x1 : Int32) (x2 : Int32) (x3 : Int32) (x4 : Int32) (x5 : Int32) (x7 : Int32) (x8 : Int32) (z0 : Int32), wl_Mo_ask_194 S post K39 a15 a16 a17 a19 a20 a21 l18 i20 i27 i28 i30 i31 i32 i33 x1 x2 x3 x4 x5 x7 x8 z0 → ∀ (H : Heap) (locs : List Loc) (ls : Array Slot), wn n0 G (wM K ad (sI (sI (sI (sI (sI (sI (sI (sL (sA (sA (sA (sA (sA (sA S 15 a15) 16 a16) 17 a17) 19 a19) 20 a20) 21 a21) 18 l18) 20 i20) 27 i27) 28 i28) 30 i30) 31 i31) 32 i32) 33 i33) ++ X) s H locs → lv_has ls 10 [(0, .ref (ad 0)), (1, .int x1), (2, .int x2), (3, .int x3), (4, .int x4), (5, .int x5), (7, .int x7), (8, .int x8)] → W p l e rm_Mo_ask s m args below meth c H locs 0 0 (MQ below (va_Qi (fun r (u : (Nat → Int32) × (Nat → Int32) × (Nat → Int32) × (Nat → Int32) × (Nat → Int32) × (Nat → Int32) × (Nat → Int64) × Int32 × Int32 × Int32 × Int32 × Int32 × Int32 × Int32) => post r u.1 u.2.1 u.2.2.1 u.2.2.2.1 u.2.2.2.2.1 u.2.2.2.2.2.1 u.2.2.2.2.2.2.1 u.2.2.2.2.2.2.2.1 u.2.2.2.2.2.2.2.2.1 u.2.2.2.2.2.2.2.2.2.1 u.2.2.2.2.2.2.2.2.2.2.1 u.2.2.2.2.2.2.2.2.2.2.2.1 u.2.2.2.2.2.2.2.2.2.2.2.2.1 u.2.2.2.2.2.2.2.2.2.2.2.2.2) (fun (u : (Nat → Int32) × (Nat → Int32) × (Nat → Int32) × (Nat → Int32) × (Nat → Int32) × (Nat → Int32) × (Nat → Int64) × Int32 × Int32 × Int32 × Int32 × Int32 × Int32 × Int32) t => we n0 G (wM K ad (sI (sI (sI (sI (sI (sI (sI (sL (sA (sA (sA (sA (sA (sA S 15 u.1) 16 u.2.1) 17 u.2.2.1) 19 u.2.2.2.1) 20 u.2.2.2.2.1) 21 u.2.2.2.2.2.1) 18 u.2.2.2.2.2.2.1) 20 u.2.2.2.2.2.2.2.1) 27 u.2.2.2.2.2.2.2.2.1) 28 u.2.2.2.2.2.2.2.2.2.1) 30 u.2.2.2.2.2.2.2.2.2.2.1) 31 u.2.2.2.2.2.2.2.2.2.2.2.1) 32 u.2.2.2.2.2.2.2.2.2.2.2.2.1) 33 u.2.2.2.2.2.2.2.2.2.2.2.2.2) ++ X) t) (al n0)) args s 0 0 (al n0)) (F0 m 194 ls [.int z0]) := by
  have hx := C.1
  have hb := C.2.1
  have hts := C.2.2.2.2.1
  intro a15 a16 a17 a19 a20 a21 l18 i20 i27 i28 i30 i31 i32 i33 x1 x2 x3 x4 x5 x7 x8 z0 hw H locs ls w hl
  unfold wl_Mo_ask_194 at hw
  refine lv_istore (lv' := [(6, .int z0), (0, .ref (ad 0)), (1, .int x1), (2, .int x2), (3, .int x3), (4, .int x4), (5, .int x5), (7, .int x7), (8, .int x8)]) hx hb d_Mo_ask_194 hl (by decide) rfl (fun ls hl => ?_)
  refine lv_aload_n hx hb d_Mo_ask_196 rfl (lv_at hl 1 rfl) ?_
  refine kg (C1 := R_Mo) (T := F_Mo) (N := 43) (ci := 10) (ref := "LineBreakerModel") (v := .ref (ad 20)) C w 0 26 iw_Mo rfl rfl (by decide) kw_903 rfl rfl d_Mo_ask_197 ?_
  refine lv_iload hx hb d_Mo_ask_200 (lv_at hl 8 rfl) ?_
  refine lv_iconst (v := 1) hx hb d_Mo_ask_202 (by decide) ?_
  obtain ⟨f1, ef1⟩ : ∃ z : Nat → Int32, z = upd a20 x8.toNatClampNeg (vp_nar .boolean 1) := ⟨_, rfl⟩
  refine ks_z (f := a20) (w2 := wM K ad (sI (sI (sI (sI (sI (sI (sI (sL (sA (sA (sA (sA (sA (sA S 15 a15) 16 a16) 17 a17) 19 a19) 20 f1) 21 a21) 18 l18) 20 i20) 27 i27) 28 i28) 30 i30) 31 i31) 32 i32) 33 i33) ++ X) C w 20 rfl hw.1 (by rw [← ef1]; rfl) d_Mo_ask_203 (fun H locs w => ?_)
  have hw := hw.2 f1 ef1
  obtain ⟨v2, ev2⟩ : ∃ y : Int32, y = x8 + 1 := ⟨_, rfl⟩
  refine lv_iinc (v := v2) (lv' := [(8, .int v2), (6, .int z0), (0, .ref (ad 0)), (1, .int x1), (2, .int x2), (3, .int x3), (4, .int x4), (5, .int x5), (7, .int x7)]) hx hb d_Mo_ask_204 hl (k := 8) rfl (by rw [ev2]; rfl) (by decide) rfl (fun ls hl => ?_)
  have hw := hw v2 ev2
  refine lv_goto (tgt := 39) hx hb d_Mo_ask_207 (by decide) ?_
  exact hk39 a15 a16 a17 a19 f1 a21 l18 i20 i27 i28 i30 i31 i32 i33 x1 x2 x3 x4 x5 z0 x7 v2 hw _ _ _ (wn_eq w rfl) (lv_sub hl [2, 3, 4, 5, 6, 7, 1, 8, 0] rfl)
set_option maxHeartbeats 4000000 in
set_option maxRecDepth 100000 in
theorem w_Mo_ask_180 {S : ST} {post : Int32 → (Nat → Int32) → (Nat → Int32) → (Nat → Int32) → (Nat → Int32) → (Nat → Int32) → (Nat → Int32) → (Nat → Int64) → Int32 → Int32 → Int32 → Int32 → Int32 → Int32 → Int32 → Prop} (C : cx p s m args meth c prog_12_method_34_code 10 "LineBreakerModel" n0 G K) (hr : meth.sig.returnType = (some .boolean)) {K39 : (Nat → Int32) → (Nat → Int32) → (Nat → Int32) → (Nat → Int32) → (Nat → Int32) → (Nat → Int32) → (Nat → Int64) → Int32 → Int32 → Int32 → Int32 → Int32 → Int32 → Int32 → Int32 → Int32 → Int32 → Int32 → Int32 → Int32 → Int32 → Int32 → Prop} (hk39 : ∀ (a15 : (Nat → Int32)) (a16 : (Nat → Int32)) (a17 : (Nat → Int32)) (a19 : (Nat → Int32)) (a20 : (Nat → Int32)) (a21 : (Nat → Int32)) (l18 : (Nat → Int64)) (i20 : Int32) (i27 : Int32) (i28 : Int32) (i30 : Int32) (i31 : Int32) (i32 : Int32) (i33 : Int32) (x1 : Int32) (x2 : Int32) (x3 : Int32) (x4 : Int32) (x5 : Int32) (x6 : Int32) (x7 : Int32) (x8 : Int32), K39 a15 a16 a17 a19 a20 a21 l18 i20 i27 i28 i30 i31 i32 i33 x1 x2 x3 x4 x5 x6 x7 x8 → ∀ (H : Heap) (locs : List Loc) (ls : Array Slot), wn n0 G (wM K ad (sI (sI (sI (sI (sI (sI (sI (sL (sA (sA (sA (sA (sA (sA S 15 a15) 16 a16) 17 a17) 19 a19) 20 a20) 21 a21) 18 l18) 20 i20) 27 i27) 28 i28) 30 i30) 31 i31) 32 i32) 33 i33) ++ X) s H locs → lv_has ls 10 [(0, .ref (ad 0)), (1, .int x1), (2, .int x2), (3, .int x3), (4, .int x4), (5, .int x5), (6, .int x6), (7, .int x7), (8, .int x8)] → W p l e rm_Mo_ask s m args below meth c H locs 0 0 (MQ below (va_Qi (fun r (u : (Nat → Int32) × (Nat → Int32) × (Nat → Int32) × (Nat → Int32) × (Nat → Int32) × (Nat → Int32) × (Nat → Int64) × Int32 × Int32 × Int32 × Int32 × Int32 × Int32 × Int32) => post r u.1 u.2.1 u.2.2.1 u.2.2.2.1 u.2.2.2.2.1 u.2.2.2.2.2.1 u.2.2.2.2.2.2.1 u.2.2.2.2.2.2.2.1 u.2.2.2.2.2.2.2.2.1 u.2.2.2.2.2.2.2.2.2.1 u.2.2.2.2.2.2.2.2.2.2.1 u.2.2.2.2.2.2.2.2.2.2.2.1 u.2.2.2.2.2.2.2.2.2.2.2.2.1 u.2.2.2.2.2.2.2.2.2.2.2.2.2) (fun (u : (Nat → Int32) × (Nat → Int32) × (Nat → Int32) × (Nat → Int32) × (Nat → Int32) × (Nat → Int32) × (Nat → Int64) × Int32 × Int32 × Int32 × Int32 × Int32 × Int32 × Int32) t => we n0 G (wM K ad (sI (sI (sI (sI (sI (sI (sI (sL (sA (sA (sA (sA (sA (sA S 15 u.1) 16 u.2.1) 17 u.2.2.1) 19 u.2.2.2.1) 20 u.2.2.2.2.1) 21 u.2.2.2.2.2.1) 18 u.2.2.2.2.2.2.1) 20 u.2.2.2.2.2.2.2.1) 27 u.2.2.2.2.2.2.2.2.1) 28 u.2.2.2.2.2.2.2.2.2.1) 30 u.2.2.2.2.2.2.2.2.2.2.1) 31 u.2.2.2.2.2.2.2.2.2.2.2.1) 32 u.2.2.2.2.2.2.2.2.2.2.2.2.1) 33 u.2.2.2.2.2.2.2.2.2.2.2.2.2) ++ X) t) (al n0)) args s 0 0 (al n0)) (F0 m 39 ls [])) : ∀ (a15 : (Nat → Int32)) (a16 : (Nat → Int32)) (a17 : (Nat → Int32)) (a19 : (Nat → Int32)) (a20 : (Nat → Int32)) (a21 : (Nat → Int32)) (l18 : (Nat → Int64)) (i20 : Int32) (i27 : Int32) (i28 : Int32) (i30 : Int32) (i31 : Int32) (i32 : Int32) (i33 : Int32) (x1 : Int32) (x2 : Int32) (x3 : Int32) (x4 : Int32) (x5 : Int32) (x6 : Int32) (x7 : Int32) (x8 : Int32) (z0 : Int32), wl_Mo_ask_180 S post K39 a15 a16 a17 a19 a20 a21 l18 i20 i27 i28 i30 i31 i32 i33 x1 x2 x3 x4 x5 x6 x7 x8 z0 → ∀ (H : Heap) (locs : List Loc) (ls : Array Slot), wn n0 G (wM K ad (sI (sI (sI (sI (sI (sI (sI (sL (sA (sA (sA (sA (sA (sA S 15 a15) 16 a16) 17 a17) 19 a19) 20 a20) 21 a21) 18 l18) 20 i20) 27 i27) 28 i28) 30 i30) 31 i31) 32 i32) 33 i33) ++ X) s H locs → lv_has ls 10 [(0, .ref (ad 0)), (1, .int x1), (2, .int x2), (3, .int x3), (4, .int x4), (5, .int x5), (6, .int x6), (7, .int x7), (8, .int x8)] → W p l e rm_Mo_ask s m args below meth c H locs 0 0 (MQ below (va_Qi (fun r (u : (Nat → Int32) × (Nat → Int32) × (Nat → Int32) × (Nat → Int32) × (Nat → Int32) × (Nat → Int32) × (Nat → Int64) × Int32 × Int32 × Int32 × Int32 × Int32 × Int32 × Int32) => post r u.1 u.2.1 u.2.2.1 u.2.2.2.1 u.2.2.2.2.1 u.2.2.2.2.2.1 u.2.2.2.2.2.2.1 u.2.2.2.2.2.2.2.1 u.2.2.2.2.2.2.2.2.1 u.2.2.2.2.2.2.2.2.2.1 u.2.2.2.2.2.2.2.2.2.2.1 u.2.2.2.2.2.2.2.2.2.2.2.1 u.2.2.2.2.2.2.2.2.2.2.2.2.1 u.2.2.2.2.2.2.2.2.2.2.2.2.2) (fun (u : (Nat → Int32) × (Nat → Int32) × (Nat → Int32) × (Nat → Int32) × (Nat → Int32) × (Nat → Int32) × (Nat → Int64) × Int32 × Int32 × Int32 × Int32 × Int32 × Int32 × Int32) t => we n0 G (wM K ad (sI (sI (sI (sI (sI (sI (sI (sL (sA (sA (sA (sA (sA (sA S 15 u.1) 16 u.2.1) 17 u.2.2.1) 19 u.2.2.2.1) 20 u.2.2.2.2.1) 21 u.2.2.2.2.2.1) 18 u.2.2.2.2.2.2.1) 20 u.2.2.2.2.2.2.2.1) 27 u.2.2.2.2.2.2.2.2.1) 28 u.2.2.2.2.2.2.2.2.2.1) 30 u.2.2.2.2.2.2.2.2.2.2.1) 31 u.2.2.2.2.2.2.2.2.2.2.2.1) 32 u.2.2.2.2.2.2.2.2.2.2.2.2.1) 33 u.2.2.2.2.2.2.2.2.2.2.2.2.2) ++ X) t) (al n0)) args s 0 0 (al n0)) (F0 m 180 ls [.int z0]) := by
  have hx := C.1
  have hb := C.2.1
  have hts := C.2.2.2.2.1
  intro a15 a16 a17 a19 a20 a21 l18 i20 i27 i28 i30 i31 i32 i33 x1 x2 x3 x4 x5 x6 x7 x8 z0 hw H locs ls w hl
  unfold wl_Mo_ask_180 at hw
  refine lv_istore (lv' := [(9, .int z0), (0, .ref (ad 0)), (1, .int x1), (2, .int x2), (3, .int x3), (4, .int x4), (5, .int x5), (6, .int x6), (7, .int x7), (8, .int x8)]) hx hb d_Mo_ask_180 hl (by decide) rfl (fun ls hl => ?_)
  refine lv_iload hx hb d_Mo_ask_182 (lv_at hl 0 rfl) ?_
  refine lv_if_eq (tgt := 192) hx hb d_Mo_ask_184 (by decide) (fun hc => ?_) (fun hc => ?_)
  · have hw := hw.1 hc
    refine lv_iload hx hb d_Mo_ask_192 (lv_at hl 7 rfl) ?_
    exact w_Mo_ask_194 C hr hk39 a15 a16 a17 a19 a20 a21 l18 i20 i27 i28 i30 i31 i32 i33 x1 x2 x3 x4 x5 x7 x8 x6 hw _ _ _ (wn_eq w rfl) (lv_sub hl [1, 2, 3, 4, 5, 6, 8, 9] rfl)
  · have hw := hw.2 hc
    refine lv_iload hx hb d_Mo_ask_187 (lv_at hl 9 rfl) ?_
    refine lv_goto (tgt := 194) hx hb d_Mo_ask_189 (by decide) ?_
    exact w_Mo_ask_194 C hr hk39 a15 a16 a17 a19 a20 a21 l18 i20 i27 i28 i30 i31 i32 i33 x1 x2 x3 x4 x5 x7 x8 x8 hw _ _ _ (wn_eq w rfl) (lv_sub hl [1, 2, 3, 4, 5, 6, 8, 9] rfl)
set_option maxHeartbeats 4000000 in
set_option maxRecDepth 100000 in
theorem w_Mo_ask_175 {S : ST} {post : Int32 → (Nat → Int32) → (Nat → Int32) → (Nat → Int32) → (Nat → Int32) → (Nat → Int32) → (Nat → Int32) → (Nat → Int64) → Int32 → Int32 → Int32 → Int32 → Int32 → Int32 → Int32 → Prop} (C : cx p s m args meth c prog_12_method_34_code 10 "LineBreakerModel" n0 G K) (hr : meth.sig.returnType = (some .boolean)) {K39 : (Nat → Int32) → (Nat → Int32) → (Nat → Int32) → (Nat → Int32) → (Nat → Int32) → (Nat → Int32) → (Nat → Int64) → Int32 → Int32 → Int32 → Int32 → Int32 → Int32 → Int32 → Int32 → Int32 → Int32 → Int32 → Int32 → Int32 → Int32 → Int32 → Prop} (hk39 : ∀ (a15 : (Nat → Int32)) (a16 : (Nat → Int32)) (a17 : (Nat → Int32)) (a19 : (Nat → Int32)) (a20 : (Nat → Int32)) (a21 : (Nat → Int32)) (l18 : (Nat → Int64)) (i20 : Int32) (i27 : Int32) (i28 : Int32) (i30 : Int32) (i31 : Int32) (i32 : Int32) (i33 : Int32) (x1 : Int32) (x2 : Int32) (x3 : Int32) (x4 : Int32) (x5 : Int32) (x6 : Int32) (x7 : Int32) (x8 : Int32), K39 a15 a16 a17 a19 a20 a21 l18 i20 i27 i28 i30 i31 i32 i33 x1 x2 x3 x4 x5 x6 x7 x8 → ∀ (H : Heap) (locs : List Loc) (ls : Array Slot), wn n0 G (wM K ad (sI (sI (sI (sI (sI (sI (sI (sL (sA (sA (sA (sA (sA (sA S 15 a15) 16 a16) 17 a17) 19 a19) 20 a20) 21 a21) 18 l18) 20 i20) 27 i27) 28 i28) 30 i30) 31 i31) 32 i32) 33 i33) ++ X) s H locs → lv_has ls 10 [(0, .ref (ad 0)), (1, .int x1), (2, .int x2), (3, .int x3), (4, .int x4), (5, .int x5), (6, .int x6), (7, .int x7), (8, .int x8)] → W p l e rm_Mo_ask s m args below meth c H locs 0 0 (MQ below (va_Qi (fun r (u : (Nat → Int32) × (Nat → Int32) × (Nat → Int32) × (Nat → Int32) × (Nat → Int32) × (Nat → Int32) × (Nat → Int64) × Int32 × Int32 × Int32 × Int32 × Int32 × Int32 × Int32) => post r u.1 u.2.1 u.2.2.1 u.2.2.2.1 u.2.2.2.2.1 u.2.2.2.2.2.1 u.2.2.2.2.2.2.1 u.2.2.2.2.2.2.2.1 u.2.2.2.2.2.2.2.2.1 u.2.2.2.2.2.2.2.2.2.1 u.2.2.2.2.2.2.2.2.2.2.1 u.2.2.2.2.2.2.2.2.2.2.2.1 u.2.2.2.2.2.2.2.2.2.2.2.2.1 u.2.2.2.2.2.2.2.2.2.2.2.2.2) (fun (u : (Nat → Int32) × (Nat → Int32) × (Nat → Int32) × (Nat → Int32) × (Nat → Int32) × (Nat → Int32) × (Nat → Int64) × Int32 × Int32 × Int32 × Int32 × Int32 × Int32 × Int32) t => we n0 G (wM K ad (sI (sI (sI (sI (sI (sI (sI (sL (sA (sA (sA (sA (sA (sA S 15 u.1) 16 u.2.1) 17 u.2.2.1) 19 u.2.2.2.1) 20 u.2.2.2.2.1) 21 u.2.2.2.2.2.1) 18 u.2.2.2.2.2.2.1) 20 u.2.2.2.2.2.2.2.1) 27 u.2.2.2.2.2.2.2.2.1) 28 u.2.2.2.2.2.2.2.2.2.1) 30 u.2.2.2.2.2.2.2.2.2.2.1) 31 u.2.2.2.2.2.2.2.2.2.2.2.1) 32 u.2.2.2.2.2.2.2.2.2.2.2.2.1) 33 u.2.2.2.2.2.2.2.2.2.2.2.2.2) ++ X) t) (al n0)) args s 0 0 (al n0)) (F0 m 39 ls [])) : ∀ (a15 : (Nat → Int32)) (a16 : (Nat → Int32)) (a17 : (Nat → Int32)) (a19 : (Nat → Int32)) (a20 : (Nat → Int32)) (a21 : (Nat → Int32)) (l18 : (Nat → Int64)) (i20 : Int32) (i27 : Int32) (i28 : Int32) (i30 : Int32) (i31 : Int32) (i32 : Int32) (i33 : Int32) (x1 : Int32) (x2 : Int32) (x3 : Int32) (x4 : Int32) (x5 : Int32) (x6 : Int32) (x7 : Int32) (x8 : Int32), wl_Mo_ask_175 S post K39 a15 a16 a17 a19 a20 a21 l18 i20 i27 i28 i30 i31 i32 i33 x1 x2 x3 x4 x5 x6 x7 x8 → ∀ (H : Heap) (locs : List Loc) (ls : Array Slot), wn n0 G (wM K ad (sI (sI (sI (sI (sI (sI (sI (sL (sA (sA (sA (sA (sA (sA S 15 a15) 16 a16) 17 a17) 19 a19) 20 a20) 21 a21) 18 l18) 20 i20) 27 i27) 28 i28) 30 i30) 31 i31) 32 i32) 33 i33) ++ X) s H locs → lv_has ls 10 [(0, .ref (ad 0)), (1, .int x1), (2, .int x2), (3, .int x3), (4, .int x4), (5, .int x5), (6, .int x6), (7, .int x7), (8, .int x8)] → W p l e rm_Mo_ask s m args below meth c H locs 0 0 (MQ below (va_Qi (fun r (u : (Nat → Int32) × (Nat → Int32) × (Nat → Int32) × (Nat → Int32) × (Nat → Int32) × (Nat → Int32) × (Nat → Int64) × Int32 × Int32 × Int32 × Int32 × Int32 × Int32 × Int32) => post r u.1 u.2.1 u.2.2.1 u.2.2.2.1 u.2.2.2.2.1 u.2.2.2.2.2.1 u.2.2.2.2.2.2.1 u.2.2.2.2.2.2.2.1 u.2.2.2.2.2.2.2.2.1 u.2.2.2.2.2.2.2.2.2.1 u.2.2.2.2.2.2.2.2.2.2.1 u.2.2.2.2.2.2.2.2.2.2.2.1 u.2.2.2.2.2.2.2.2.2.2.2.2.1 u.2.2.2.2.2.2.2.2.2.2.2.2.2) (fun (u : (Nat → Int32) × (Nat → Int32) × (Nat → Int32) × (Nat → Int32) × (Nat → Int32) × (Nat → Int32) × (Nat → Int64) × Int32 × Int32 × Int32 × Int32 × Int32 × Int32 × Int32) t => we n0 G (wM K ad (sI (sI (sI (sI (sI (sI (sI (sL (sA (sA (sA (sA (sA (sA S 15 u.1) 16 u.2.1) 17 u.2.2.1) 19 u.2.2.2.1) 20 u.2.2.2.2.1) 21 u.2.2.2.2.2.1) 18 u.2.2.2.2.2.2.1) 20 u.2.2.2.2.2.2.2.1) 27 u.2.2.2.2.2.2.2.2.1) 28 u.2.2.2.2.2.2.2.2.2.1) 30 u.2.2.2.2.2.2.2.2.2.2.1) 31 u.2.2.2.2.2.2.2.2.2.2.2.1) 32 u.2.2.2.2.2.2.2.2.2.2.2.2.1) 33 u.2.2.2.2.2.2.2.2.2.2.2.2.2) ++ X) t) (al n0)) args s 0 0 (al n0)) (F0 m 175 ls []) := by
  have hx := C.1
  have hb := C.2.1
  have hts := C.2.2.2.2.1
  intro a15 a16 a17 a19 a20 a21 l18 i20 i27 i28 i30 i31 i32 i33 x1 x2 x3 x4 x5 x6 x7 x8 hw H locs ls w hl
  unfold wl_Mo_ask_175 at hw
  refine lv_iconst (v := 1) hx hb d_Mo_ask_175 (by decide) ?_
  refine lv_goto (tgt := 180) hx hb d_Mo_ask_176 (by decide) ?_
  exact w_Mo_ask_180 C hr hk39 a15 a16 a17 a19 a20 a21 l18 i20 i27 i28 i30 i31 i32 i33 x1 x2 x3 x4 x5 x6 x7 x8 1 hw _ _ _ (wn_eq w rfl) (lv_sub hl [0, 1, 2, 3, 4, 5, 6, 7, 8] rfl)
set_option maxHeartbeats 4000000 in
set_option maxRecDepth 100000 in
theorem w_Mo_ask_179 {S : ST} {post : Int32 → (Nat → Int32) → (Nat → Int32) → (Nat → Int32) → (Nat → Int32) → (Nat → Int32) → (Nat → Int32) → (Nat → Int64) → Int32 → Int32 → Int32 → Int32 → Int32 → Int32 → Int32 → Prop} (C : cx p s m args meth c prog_12_method_34_code 10 "LineBreakerModel" n0 G K) (hr : meth.sig.returnType = (some .boolean)) {K39 : (Nat → Int32) → (Nat → Int32) → (Nat → Int32) → (Nat → Int32) → (Nat → Int32) → (Nat → Int32) → (Nat → Int64) → Int32 → Int32 → Int32 → Int32 → Int32 → Int32 → Int32 → Int32 → Int32 → Int32 → Int32 → Int32 → Int32 → Int32 → Int32 → Prop} (hk39 : ∀ (a15 : (Nat → Int32)) (a16 : (Nat → Int32)) (a17 : (Nat → Int32)) (a19 : (Nat → Int32)) (a20 : (Nat → Int32)) (a21 : (Nat → Int32)) (l18 : (Nat → Int64)) (i20 : Int32) (i27 : Int32) (i28 : Int32) (i30 : Int32) (i31 : Int32) (i32 : Int32) (i33 : Int32) (x1 : Int32) (x2 : Int32) (x3 : Int32) (x4 : Int32) (x5 : Int32) (x6 : Int32) (x7 : Int32) (x8 : Int32), K39 a15 a16 a17 a19 a20 a21 l18 i20 i27 i28 i30 i31 i32 i33 x1 x2 x3 x4 x5 x6 x7 x8 → ∀ (H : Heap) (locs : List Loc) (ls : Array Slot), wn n0 G (wM K ad (sI (sI (sI (sI (sI (sI (sI (sL (sA (sA (sA (sA (sA (sA S 15 a15) 16 a16) 17 a17) 19 a19) 20 a20) 21 a21) 18 l18) 20 i20) 27 i27) 28 i28) 30 i30) 31 i31) 32 i32) 33 i33) ++ X) s H locs → lv_has ls 10 [(0, .ref (ad 0)), (1, .int x1), (2, .int x2), (3, .int x3), (4, .int x4), (5, .int x5), (6, .int x6), (7, .int x7), (8, .int x8)] → W p l e rm_Mo_ask s m args below meth c H locs 0 0 (MQ below (va_Qi (fun r (u : (Nat → Int32) × (Nat → Int32) × (Nat → Int32) × (Nat → Int32) × (Nat → Int32) × (Nat → Int32) × (Nat → Int64) × Int32 × Int32 × Int32 × Int32 × Int32 × Int32 × Int32) => post r u.1 u.2.1 u.2.2.1 u.2.2.2.1 u.2.2.2.2.1 u.2.2.2.2.2.1 u.2.2.2.2.2.2.1 u.2.2.2.2.2.2.2.1 u.2.2.2.2.2.2.2.2.1 u.2.2.2.2.2.2.2.2.2.1 u.2.2.2.2.2.2.2.2.2.2.1 u.2.2.2.2.2.2.2.2.2.2.2.1 u.2.2.2.2.2.2.2.2.2.2.2.2.1 u.2.2.2.2.2.2.2.2.2.2.2.2.2) (fun (u : (Nat → Int32) × (Nat → Int32) × (Nat → Int32) × (Nat → Int32) × (Nat → Int32) × (Nat → Int32) × (Nat → Int64) × Int32 × Int32 × Int32 × Int32 × Int32 × Int32 × Int32) t => we n0 G (wM K ad (sI (sI (sI (sI (sI (sI (sI (sL (sA (sA (sA (sA (sA (sA S 15 u.1) 16 u.2.1) 17 u.2.2.1) 19 u.2.2.2.1) 20 u.2.2.2.2.1) 21 u.2.2.2.2.2.1) 18 u.2.2.2.2.2.2.1) 20 u.2.2.2.2.2.2.2.1) 27 u.2.2.2.2.2.2.2.2.1) 28 u.2.2.2.2.2.2.2.2.2.1) 30 u.2.2.2.2.2.2.2.2.2.2.1) 31 u.2.2.2.2.2.2.2.2.2.2.2.1) 32 u.2.2.2.2.2.2.2.2.2.2.2.2.1) 33 u.2.2.2.2.2.2.2.2.2.2.2.2.2) ++ X) t) (al n0)) args s 0 0 (al n0)) (F0 m 39 ls [])) : ∀ (a15 : (Nat → Int32)) (a16 : (Nat → Int32)) (a17 : (Nat → Int32)) (a19 : (Nat → Int32)) (a20 : (Nat → Int32)) (a21 : (Nat → Int32)) (l18 : (Nat → Int64)) (i20 : Int32) (i27 : Int32) (i28 : Int32) (i30 : Int32) (i31 : Int32) (i32 : Int32) (i33 : Int32) (x1 : Int32) (x2 : Int32) (x3 : Int32) (x4 : Int32) (x5 : Int32) (x6 : Int32) (x7 : Int32) (x8 : Int32), wl_Mo_ask_179 S post K39 a15 a16 a17 a19 a20 a21 l18 i20 i27 i28 i30 i31 i32 i33 x1 x2 x3 x4 x5 x6 x7 x8 → ∀ (H : Heap) (locs : List Loc) (ls : Array Slot), wn n0 G (wM K ad (sI (sI (sI (sI (sI (sI (sI (sL (sA (sA (sA (sA (sA (sA S 15 a15) 16 a16) 17 a17) 19 a19) 20 a20) 21 a21) 18 l18) 20 i20) 27 i27) 28 i28) 30 i30) 31 i31) 32 i32) 33 i33) ++ X) s H locs → lv_has ls 10 [(0, .ref (ad 0)), (1, .int x1), (2, .int x2), (3, .int x3), (4, .int x4), (5, .int x5), (6, .int x6), (7, .int x7), (8, .int x8)] → W p l e rm_Mo_ask s m args below meth c H locs 0 0 (MQ below (va_Qi (fun r (u : (Nat → Int32) × (Nat → Int32) × (Nat → Int32) × (Nat → Int32) × (Nat → Int32) × (Nat → Int32) × (Nat → Int64) × Int32 × Int32 × Int32 × Int32 × Int32 × Int32 × Int32) => post r u.1 u.2.1 u.2.2.1 u.2.2.2.1 u.2.2.2.2.1 u.2.2.2.2.2.1 u.2.2.2.2.2.2.1 u.2.2.2.2.2.2.2.1 u.2.2.2.2.2.2.2.2.1 u.2.2.2.2.2.2.2.2.2.1 u.2.2.2.2.2.2.2.2.2.2.1 u.2.2.2.2.2.2.2.2.2.2.2.1 u.2.2.2.2.2.2.2.2.2.2.2.2.1 u.2.2.2.2.2.2.2.2.2.2.2.2.2) (fun (u : (Nat → Int32) × (Nat → Int32) × (Nat → Int32) × (Nat → Int32) × (Nat → Int32) × (Nat → Int32) × (Nat → Int64) × Int32 × Int32 × Int32 × Int32 × Int32 × Int32 × Int32) t => we n0 G (wM K ad (sI (sI (sI (sI (sI (sI (sI (sL (sA (sA (sA (sA (sA (sA S 15 u.1) 16 u.2.1) 17 u.2.2.1) 19 u.2.2.2.1) 20 u.2.2.2.2.1) 21 u.2.2.2.2.2.1) 18 u.2.2.2.2.2.2.1) 20 u.2.2.2.2.2.2.2.1) 27 u.2.2.2.2.2.2.2.2.1) 28 u.2.2.2.2.2.2.2.2.2.1) 30 u.2.2.2.2.2.2.2.2.2.2.1) 31 u.2.2.2.2.2.2.2.2.2.2.2.1) 32 u.2.2.2.2.2.2.2.2.2.2.2.2.1) 33 u.2.2.2.2.2.2.2.2.2.2.2.2.2) ++ X) t) (al n0)) args s 0 0 (al n0)) (F0 m 179 ls []) := by
  have hx := C.1
  have hb := C.2.1
  have hts := C.2.2.2.2.1
  intro a15 a16 a17 a19 a20 a21 l18 i20 i27 i28 i30 i31 i32 i33 x1 x2 x3 x4 x5 x6 x7 x8 hw H locs ls w hl
  unfold wl_Mo_ask_179 at hw
  refine lv_iconst (v := 0) hx hb d_Mo_ask_179 (by decide) ?_
  exact w_Mo_ask_180 C hr hk39 a15 a16 a17 a19 a20 a21 l18 i20 i27 i28 i30 i31 i32 i33 x1 x2 x3 x4 x5 x6 x7 x8 0 hw _ _ _ (wn_eq w rfl) (lv_sub hl [0, 1, 2, 3, 4, 5, 6, 7, 8] rfl)
set_option maxHeartbeats 4000000 in
set_option maxRecDepth 100000 in
theorem w_Mo_ask_122 {S : ST} {post : Int32 → (Nat → Int32) → (Nat → Int32) → (Nat → Int32) → (Nat → Int32) → (Nat → Int32) → (Nat → Int32) → (Nat → Int64) → Int32 → Int32 → Int32 → Int32 → Int32 → Int32 → Int32 → Prop} (C : cx p s m args meth c prog_12_method_34_code 10 "LineBreakerModel" n0 G K) (hr : meth.sig.returnType = (some .boolean)) {K39 : (Nat → Int32) → (Nat → Int32) → (Nat → Int32) → (Nat → Int32) → (Nat → Int32) → (Nat → Int32) → (Nat → Int64) → Int32 → Int32 → Int32 → Int32 → Int32 → Int32 → Int32 → Int32 → Int32 → Int32 → Int32 → Int32 → Int32 → Int32 → Int32 → Prop} (hk39 : ∀ (a15 : (Nat → Int32)) (a16 : (Nat → Int32)) (a17 : (Nat → Int32)) (a19 : (Nat → Int32)) (a20 : (Nat → Int32)) (a21 : (Nat → Int32)) (l18 : (Nat → Int64)) (i20 : Int32) (i27 : Int32) (i28 : Int32) (i30 : Int32) (i31 : Int32) (i32 : Int32) (i33 : Int32) (x1 : Int32) (x2 : Int32) (x3 : Int32) (x4 : Int32) (x5 : Int32) (x6 : Int32) (x7 : Int32) (x8 : Int32), K39 a15 a16 a17 a19 a20 a21 l18 i20 i27 i28 i30 i31 i32 i33 x1 x2 x3 x4 x5 x6 x7 x8 → ∀ (H : Heap) (locs : List Loc) (ls : Array Slot), wn n0 G (wM K ad (sI (sI (sI (sI (sI (sI (sI (sL (sA (sA (sA (sA (sA (sA S 15 a15) 16 a16) 17 a17) 19 a19) 20 a20) 21 a21) 18 l18) 20 i20) 27 i27) 28 i28) 30 i30) 31 i31) 32 i32) 33 i33) ++ X) s H locs → lv_has ls 10 [(0, .ref (ad 0)), (1, .int x1), (2, .int x2), (3, .int x3), (4, .int x4), (5, .int x5), (6, .int x6), (7, .int x7), (8, .int x8)] → W p l e rm_Mo_ask s m args below meth c H locs 0 0 (MQ below (va_Qi (fun r (u : (Nat → Int32) × (Nat → Int32) × (Nat → Int32) × (Nat → Int32) × (Nat → Int32) × (Nat → Int32) × (Nat → Int64) × Int32 × Int32 × Int32 × Int32 × Int32 × Int32 × Int32) => post r u.1 u.2.1 u.2.2.1 u.2.2.2.1 u.2.2.2.2.1 u.2.2.2.2.2.1 u.2.2.2.2.2.2.1 u.2.2.2.2.2.2.2.1 u.2.2.2.2.2.2.2.2.1 u.2.2.2.2.2.2.2.2.2.1 u.2.2.2.2.2.2.2.2.2.2.1 u.2.2.2.2.2.2.2.2.2.2.2.1 u.2.2.2.2.2.2.2.2.2.2.2.2.1 u.2.2.2.2.2.2.2.2.2.2.2.2.2) (fun (u : (Nat → Int32) × (Nat → Int32) × (Nat → Int32) × (Nat → Int32) × (Nat → Int32) × (Nat → Int32) × (Nat → Int64) × Int32 × Int32 × Int32 × Int32 × Int32 × Int32 × Int32) t => we n0 G (wM K ad (sI (sI (sI (sI (sI (sI (sI (sL (sA (sA (sA (sA (sA (sA S 15 u.1) 16 u.2.1) 17 u.2.2.1) 19 u.2.2.2.1) 20 u.2.2.2.2.1) 21 u.2.2.2.2.2.1) 18 u.2.2.2.2.2.2.1) 20 u.2.2.2.2.2.2.2.1) 27 u.2.2.2.2.2.2.2.2.1) 28 u.2.2.2.2.2.2.2.2.2.1) 30 u.2.2.2.2.2.2.2.2.2.2.1) 31 u.2.2.2.2.2.2.2.2.2.2.2.1) 32 u.2.2.2.2.2.2.2.2.2.2.2.2.1) 33 u.2.2.2.2.2.2.2.2.2.2.2.2.2) ++ X) t) (al n0)) args s 0 0 (al n0)) (F0 m 39 ls [])) : ∀ (a15 : (Nat → Int32)) (a16 : (Nat → Int32)) (a17 : (Nat → Int32)) (a19 : (Nat → Int32)) (a20 : (Nat → Int32)) (a21 : (Nat → Int32)) (l18 : (Nat → Int64)) (i20 : Int32) (i27 : Int32) (i28 : Int32) (i30 : Int32) (i31 : Int32) (i32 : Int32) (i33 : Int32) (x1 : Int32) (x2 : Int32) (x3 : Int32) (x4 : Int32) (x5 : Int32) (x6 : Int32) (x7 : Int32) (x8 : Int32), wl_Mo_ask_122 S post K39 a15 a16 a17 a19 a20 a21 l18 i20 i27 i28 i30 i31 i32 i33 x1 x2 x3 x4 x5 x6 x7 x8 → ∀ (H : Heap) (locs : List Loc) (ls : Array Slot), wn n0 G (wM K ad (sI (sI (sI (sI (sI (sI (sI (sL (sA (sA (sA (sA (sA (sA S 15 a15) 16 a16) 17 a17) 19 a19) 20 a20) 21 a21) 18 l18) 20 i20) 27 i27) 28 i28) 30 i30) 31 i31) 32 i32) 33 i33) ++ X) s H locs → lv_has ls 10 [(0, .ref (ad 0)), (1, .int x1), (2, .int x2), (3, .int x3), (4, .int x4), (5, .int x5), (6, .int x6), (7, .int x7), (8, .int x8)] → W p l e rm_Mo_ask s m args below meth c H locs 0 0 (MQ below (va_Qi (fun r (u : (Nat → Int32) × (Nat → Int32) × (Nat → Int32) × (Nat → Int32) × (Nat → Int32) × (Nat → Int32) × (Nat → Int64) × Int32 × Int32 × Int32 × Int32 × Int32 × Int32 × Int32) => post r u.1 u.2.1 u.2.2.1 u.2.2.2.1 u.2.2.2.2.1 u.2.2.2.2.2.1 u.2.2.2.2.2.2.1 u.2.2.2.2.2.2.2.1 u.2.2.2.2.2.2.2.2.1 u.2.2.2.2.2.2.2.2.2.1 u.2.2.2.2.2.2.2.2.2.2.1 u.2.2.2.2.2.2.2.2.2.2.2.1 u.2.2.2.2.2.2.2.2.2.2.2.2.1 u.2.2.2.2.2.2.2.2.2.2.2.2.2) (fun (u : (Nat → Int32) × (Nat → Int32) × (Nat → Int32) × (Nat → Int32) × (Nat → Int32) × (Nat → Int32) × (Nat → Int64) × Int32 × Int32 × Int32 × Int32 × Int32 × Int32 × Int32) t => we n0 G (wM K ad (sI (sI (sI (sI (sI (sI (sI (sL (sA (sA (sA (sA (sA (sA S 15 u.1) 16 u.2.1) 17 u.2.2.1) 19 u.2.2.2.1) 20 u.2.2.2.2.1) 21 u.2.2.2.2.2.1) 18 u.2.2.2.2.2.2.1) 20 u.2.2.2.2.2.2.2.1) 27 u.2.2.2.2.2.2.2.2.1) 28 u.2.2.2.2.2.2.2.2.2.1) 30 u.2.2.2.2.2.2.2.2.2.2.1) 31 u.2.2.2.2.2.2.2.2.2.2.2.1) 32 u.2.2.2.2.2.2.2.2.2.2.2.2.1) 33 u.2.2.2.2.2.2.2.2.2.2.2.2.2) ++ X) t) (al n0)) args s 0 0 (al n0)) (F0 m 122 ls []) := by
  have hx := C.1
  have hb := C.2.1
  have hts := C.2.2.2.2.1
  intro a15 a16 a17 a19 a20 a21 l18 i20 i27 i28 i30 i31 i32 i33 x1 x2 x3 x4 x5 x6 x7 x8 hw H locs ls w hl
  unfold wl_Mo_ask_122 at hw
  obtain ⟨v1, ev1⟩ : ∃ y : Int32, y = x5 + 1 := ⟨_, rfl⟩
  refine lv_iinc (v := v1) (lv' := [(5, .int v1), (0, .ref (ad 0)), (1, .int x1), (2, .int x2), (3, .int x3), (4, .int x4), (6, .int x6), (7, .int x7), (8, .int x8)]) hx hb d_Mo_ask_122 hl (k := 5) rfl (by rw [ev1]; rfl) (by decide) rfl (fun ls hl => ?_)
  have hw := hw v1 ev1
  refine lv_iload hx hb d_Mo_ask_125 (lv_at hl 6 rfl) ?_
  refine lv_if_lt (tgt := 175) hx hb d_Mo_ask_127 (by decide) (fun hc => ?_) (fun hc => ?_)
  · have hw := hw.1 hc
    exact w_Mo_ask_175 C hr hk39 a15 a16 a17 a19 a20 a21 l18 i20 i27 i28 i30 i31 i32 i33 x1 x2 x3 x4 v1 x6 x7 x8 hw _ _ _ (wn_eq w rfl) (lv_sub hl [1, 2, 3, 4, 5, 0, 6, 7, 8] rfl)
  · have hw := hw.2 hc
    refine lv_aload_n hx hb d_Mo_ask_130 rfl (lv_at hl 1 rfl) ?_
    refine kg (C1 := R_Mo) (T := F_Mo) (N := 43) (ci := 10) (ref := "LineBreakerModel") (v := .ref (ad 16)) C w 0 22 iw_Mo rfl rfl (by decide) kw_899 rfl rfl d_Mo_ask_131 ?_
    refine lv_iload hx hb d_Mo_ask_134 (lv_at hl 8 rfl) ?_
    refine ka_i (f := a16) C w 16 rfl hw.1 d_Mo_ask_136 ?_
    have hw := hw.2
    refine lv_aload_n hx hb d_Mo_ask_137 rfl (lv_at hl 1 rfl) ?_
    refine kg (C1 := R_Mo) (T := F_Mo) (N := 43) (ci := 10) (ref := "LineBreakerModel") (v := .ref (ad 16)) C w 0 22 iw_Mo rfl rfl (by decide) kw_899 rfl rfl d_Mo_ask_138 ?_
    refine lv_iload hx hb d_Mo_ask_141 (lv_at hl 6 rfl) ?_
    refine ka_i (f := a16) C w 16 rfl hw.1 d_Mo_ask_143 ?_
    have hw := hw.2
    refine lv_icmp_gt (tgt := 175) hx hb d_Mo_ask_144 (by decide) (fun hc => ?_) (fun hc => ?_)
    · have hw := hw.1 hc
      exact w_Mo_ask_175 C hr hk39 a15 a16 a17 a19 a20 a21 l18 i20 i27 i28 i30 i31 i32 i33 x1 x2 x3 x4 v1 x6 x7 x8 hw _ _ _ (wn_eq w rfl) (lv_sub hl [1, 2, 3, 4, 5, 0, 6, 7, 8] rfl)
    · have hw := hw.2 hc
      refine lv_aload_n hx hb d_Mo_ask_147 rfl (lv_at hl 1 rfl) ?_
      refine kg (C1 := R_Mo) (T := F_Mo) (N := 43) (ci := 10) (ref := "LineBreakerModel") (v := .ref (ad 16)) C w 0 22 iw_Mo rfl rfl (by decide) kw_899 rfl rfl d_Mo_ask_148 ?_
      refine lv_iload hx hb d_Mo_ask_151 (lv_at hl 8 rfl) ?_
      refine ka_i (f := a16) C w 16 rfl hw.1 d_Mo_ask_153 ?_
      have hw := hw.2
      refine lv_aload_n hx hb d_Mo_ask_154 rfl (lv_at hl 1 rfl) ?_
      refine kg (C1 := R_Mo) (T := F_Mo) (N := 43) (ci := 10) (ref := "LineBreakerModel") (v := .ref (ad 16)) C w 0 22 iw_Mo rfl rfl (by decide) kw_899 rfl rfl d_Mo_ask_155 ?_
      refine lv_iload hx hb d_Mo_ask_158 (lv_at hl 6 rfl) ?_
      refine ka_i (f := a16) C w 16 rfl hw.1 d_Mo_ask_160 ?_
      have hw := hw.2
      refine lv_icmp_ne (tgt := 179) hx hb d_Mo_ask_161 (by decide) (fun hc => ?_) (fun hc => ?_)
      · have hw := hw.1 hc
        exact w_Mo_ask_179 C hr hk39 a15 a16 a17 a19 a20 a21 l18 i20 i27 i28 i30 i31 i32 i33 x1 x2 x3 x4 v1 x6 x7 x8 hw _ _ _ (wn_eq w rfl) (lv_sub hl [1, 2, 3, 4, 5, 0, 6, 7, 8] rfl)
      · have hw := hw.2 hc
        refine lv_aload_n hx hb d_Mo_ask_164 rfl (lv_at hl 1 rfl) ?_
        refine lv_iload hx hb d_Mo_ask_165 (lv_at hl 8 rfl) ?_
        refine lv_iload hx hb d_Mo_ask_167 (lv_at hl 6 rfl) ?_
        refine kd_i (kr_V (y := y_Mo_isBefore) (C1 := R_Mo) (T := F_Mo) (N := 43) (ci := 10) (q0 := 0) (As := [.int x8, .int x6]) (n := 2) C w (c_Mo_isBefore l n0 G K ad X (sI (sI (sI (sI (sI (sI (sI (sL (sA (sA (sA (sA (sA (sA S 15 a15) 16 a16) 17 a17) 19 a19) 20 a20) 21 a21) 18 l18) 20 i20) 27 i27) 28 i28) 30 i30) 31 i31) 32 i32) 33 i33) x8 x6 _ hw) (gw_V kw_1158 kw_1160 kp_35 kw_11 kw_1161) (by decide +kernel) rfl rfl ⟨Nat.le_of_ble_eq_true rfl, Nat.le_of_ble_eq_true rfl⟩ rfl rfl rfl hl.1 rfl (Nat.le_of_ble_eq_true rfl) d_Mo_ask_169 ⟨Nat.le_of_ble_eq_true rfl, Nat.le_of_ble_eq_true rfl⟩) (fun r2 hw => ?_)
        refine lv_if_eq (tgt := 179) hx hb d_Mo_ask_172 (by decide) (fun hc => ?_) (fun hc => ?_)
        · have hw := hw.1 hc
          exact w_Mo_ask_179 C hr hk39 a15 a16 a17 a19 a20 a21 l18 i20 i27 i28 i30 i31 i32 i33 x1 x2 x3 x4 v1 x6 x7 x8 hw _ _ _ (wn_eq w rfl) (lv_sub hl [1, 2, 3, 4, 5, 0, 6, 7, 8] rfl)
        · have hw := hw.2 hc
          exact w_Mo_ask_175 C hr hk39 a15 a16 a17 a19 a20 a21 l18 i20 i27 i28 i30 i31 i32 i33 x1 x2 x3 x4 v1 x6 x7 x8 hw _ _ _ (wn_eq w rfl) (lv_sub hl [1, 2, 3, 4, 5, 0, 6, 7, 8] rfl)
set_option maxHeartbeats 4000000 in
set_option maxRecDepth 100000 in
theorem w_Mo_ask_108 {S : ST} {post : Int32 → (Nat → Int32) → (Nat → Int32) → (Nat → Int32) → (Nat → Int32) → (Nat → Int32) → (Nat → Int32) → (Nat → Int64) → Int32 → Int32 → Int32 → Int32 → Int32 → Int32 → Int32 → Prop} (C : cx p s m args meth c prog_12_method_34_code 10 "LineBreakerModel" n0 G K) (hr : meth.sig.returnType = (some .boolean)) {K39 : (Nat → Int32) → (Nat → Int32) → (Nat → Int32) → (Nat → Int32) → (Nat → Int32) → (Nat → Int32) → (Nat → Int64) → Int32 → Int32 → Int32 → Int32 → Int32 → Int32 → Int32 → Int32 → Int32 → Int32 → Int32 → Int32 → Int32 → Int32 → Int32 → Prop} (hk39 : ∀ (a15 : (Nat → Int32)) (a16 : (Nat → Int32)) (a17 : (Nat → Int32)) (a19 : (Nat → Int32)) (a20 : (Nat → Int32)) (a21 : (Nat → Int32)) (l18 : (Nat → Int64)) (i20 : Int32) (i27 : Int32) (i28 : Int32) (i30 : Int32) (i31 : Int32) (i32 : Int32) (i33 : Int32) (x1 : Int32) (x2 : Int32) (x3 : Int32) (x4 : Int32) (x5 : Int32) (x6 : Int32) (x7 : Int32) (x8 : Int32), K39 a15 a16 a17 a19 a20 a21 l18 i20 i27 i28 i30 i31 i32 i33 x1 x2 x3 x4 x5 x6 x7 x8 → ∀ (H : Heap) (locs : List Loc) (ls : Array Slot), wn n0 G (wM K ad (sI (sI (sI (sI (sI (sI (sI (sL (sA (sA (sA (sA (sA (sA S 15 a15) 16 a16) 17 a17) 19 a19) 20 a20) 21 a21) 18 l18) 20 i20) 27 i27) 28 i28) 30 i30) 31 i31) 32 i32) 33 i33) ++ X) s H locs → lv_has ls 10 [(0, .ref (ad 0)), (1, .int x1), (2, .int x2), (3, .int x3), (4, .int x4), (5, .int x5), (6, .int x6), (7, .int x7), (8, .int x8)] → W p l e rm_Mo_ask s m args below meth c H locs 0 0 (MQ below (va_Qi (fun r (u : (Nat → Int32) × (Nat → Int32) × (Nat → Int32) × (Nat → Int32) × (Nat → Int32) × (Nat → Int32) × (Nat → Int64) × Int32 × Int32 × Int32 × Int32 × Int32 × Int32 × Int32) => post r u.1 u.2.1 u.2.2.1 u.2.2.2.1 u.2.2.2.2.1 u.2.2.2.2.2.1 u.2.2.2.2.2.2.1 u.2.2.2.2.2.2.2.1 u.2.2.2.2.2.2.2.2.1 u.2.2.2.2.2.2.2.2.2.1 u.2.2.2.2.2.2.2.2.2.2.1 u.2.2.2.2.2.2.2.2.2.2.2.1 u.2.2.2.2.2.2.2.2.2.2.2.2.1 u.2.2.2.2.2.2.2.2.2.2.2.2.2) (fun (u : (Nat → Int32) × (Nat → Int32) × (Nat → Int32) × (Nat → Int32) × (Nat → Int32) × (Nat → Int32) × (Nat → Int64) × Int32 × Int32 × Int32 × Int32 × Int32 × Int32 × Int32) t => we n0 G (wM K ad (sI (sI (sI (sI (sI (sI (sI (sL (sA (sA (sA (sA (sA (sA S 15 u.1) 16 u.2.1) 17 u.2.2.1) 19 u.2.2.2.1) 20 u.2.2.2.2.1) 21 u.2.2.2.2.2.1) 18 u.2.2.2.2.2.2.1) 20 u.2.2.2.2.2.2.2.1) 27 u.2.2.2.2.2.2.2.2.1) 28 u.2.2.2.2.2.2.2.2.2.1) 30 u.2.2.2.2.2.2.2.2.2.2.1) 31 u.2.2.2.2.2.2.2.2.2.2.2.1) 32 u.2.2.2.2.2.2.2.2.2.2.2.2.1) 33 u.2.2.2.2.2.2.2.2.2.2.2.2.2) ++ X) t) (al n0)) args s 0 0 (al n0)) (F0 m 39 ls [])) : ∀ (a15 : (Nat → Int32)) (a16 : (Nat → Int32)) (a17 : (Nat → Int32)) (a19 : (Nat → Int32)) (a20 : (Nat → Int32)) (a21 : (Nat → Int32)) (l18 : (Nat → Int64)) (i20 : Int32) (i27 : Int32) (i28 : Int32) (i30 : Int32) (i31 : Int32) (i32 : Int32) (i33 : Int32) (x1 : Int32) (x2 : Int32) (x3 : Int32) (x4 : Int32) (x5 : Int32) (x6 : Int32) (x7 : Int32) (x8 : Int32), wl_Mo_ask_108 S post K39 a15 a16 a17 a19 a20 a21 l18 i20 i27 i28 i30 i31 i32 i33 x1 x2 x3 x4 x5 x6 x7 x8 → ∀ (H : Heap) (locs : List Loc) (ls : Array Slot), wn n0 G (wM K ad (sI (sI (sI (sI (sI (sI (sI (sL (sA (sA (sA (sA (sA (sA S 15 a15) 16 a16) 17 a17) 19 a19) 20 a20) 21 a21) 18 l18) 20 i20) 27 i27) 28 i28) 30 i30) 31 i31) 32 i32) 33 i33) ++ X) s H locs → lv_has ls 10 [(0, .ref (ad 0)), (1, .int x1), (2, .int x2), (3, .int x3), (4, .int x4), (5, .int x5), (6, .int x6), (7, .int x7), (8, .int x8)] → W p l e rm_Mo_ask s m args below meth c H locs 0 0 (MQ below (va_Qi (fun r (u : (Nat → Int32) × (Nat → Int32) × (Nat → Int32) × (Nat → Int32) × (Nat → Int32) × (Nat → Int32) × (Nat → Int64) × Int32 × Int32 × Int32 × Int32 × Int32 × Int32 × Int32) => post r u.1 u.2.1 u.2.2.1 u.2.2.2.1 u.2.2.2.2.1 u.2.2.2.2.2.1 u.2.2.2.2.2.2.1 u.2.2.2.2.2.2.2.1 u.2.2.2.2.2.2.2.2.1 u.2.2.2.2.2.2.2.2.2.1 u.2.2.2.2.2.2.2.2.2.2.1 u.2.2.2.2.2.2.2.2.2.2.2.1 u.2.2.2.2.2.2.2.2.2.2.2.2.1 u.2.2.2.2.2.2.2.2.2.2.2.2.2) (fun (u : (Nat → Int32) × (Nat → Int32) × (Nat → Int32) × (Nat → Int32) × (Nat → Int32) × (Nat → Int32) × (Nat → Int64) × Int32 × Int32 × Int32 × Int32 × Int32 × Int32 × Int32) t => we n0 G (wM K ad (sI (sI (sI (sI (sI (sI (sI (sL (sA (sA (sA (sA (sA (sA S 15 u.1) 16 u.2.1) 17 u.2.2.1) 19 u.2.2.2.1) 20 u.2.2.2.2.1) 21 u.2.2.2.2.2.1) 18 u.2.2.2.2.2.2.1) 20 u.2.2.2.2.2.2.2.1) 27 u.2.2.2.2.2.2.2.2.1) 28 u.2.2.2.2.2.2.2.2.2.1) 30 u.2.2.2.2.2.2.2.2.2.2.1) 31 u.2.2.2.2.2.2.2.2.2.2.2.1) 32 u.2.2.2.2.2.2.2.2.2.2.2.2.1) 33 u.2.2.2.2.2.2.2.2.2.2.2.2.2) ++ X) t) (al n0)) args s 0 0 (al n0)) (F0 m 108 ls []) := by
  have hx := C.1
  have hb := C.2.1
  have hts := C.2.2.2.2.1
  intro a15 a16 a17 a19 a20 a21 l18 i20 i27 i28 i30 i31 i32 i33 x1 x2 x3 x4 x5 x6 x7 x8 hw H locs ls w hl
  unfold wl_Mo_ask_108 at hw
  refine lv_aload_n hx hb d_Mo_ask_108 rfl (lv_at hl 0 rfl) ?_
  refine kg (C1 := R_Mo) (T := F_Mo) (N := 43) (ci := 10) (ref := "LineBreakerModel") (v := .int i32) C w 0 32 iw_Mo rfl rfl (by decide) kw_909 rfl rfl d_Mo_ask_109 ?_
  refine lv_sipush (v := 10001) hx hb d_Mo_ask_112 (by decide) ?_
  refine lv_icmp_eq (tgt := 122) hx hb d_Mo_ask_115 (by decide) (fun hc => ?_) (fun hc => ?_)
  · have hw := hw.1 hc
    exact w_Mo_ask_122 C hr hk39 a15 a16 a17 a19 a20 a21 l18 i20 i27 i28 i30 i31 i32 i33 x1 x2 x3 x4 x5 x6 x7 x8 hw _ _ _ (wn_eq w rfl) (lv_sub hl [0, 1, 2, 3, 4, 5, 6, 7, 8] rfl)
  · have hw := hw.2 hc
    refine lv_iload_n hx hb d_Mo_ask_118 rfl (lv_at hl 3 rfl) ?_
    refine lv_if_eq (tgt := 204) hx hb d_Mo_ask_119 (by decide) (fun hc => ?_) (fun hc => ?_)
    · have hw := hw.1 hc
      obtain ⟨v1, ev1⟩ : ∃ y : Int32, y = x8 + 1 := ⟨_, rfl⟩
      refine lv_iinc (v := v1) (lv' := [(8, .int v1), (0, .ref (ad 0)), (1, .int x1), (2, .int x2), (3, .int x3), (4, .int x4), (5, .int x5), (6, .int x6), (7, .int x7)]) hx hb d_Mo_ask_204 hl (k := 8) rfl (by rw [ev1]; rfl) (by decide) rfl (fun ls hl => ?_)
      have hw := hw v1 ev1
      refine lv_goto (tgt := 39) hx hb d_Mo_ask_207 (by decide) ?_
      exact hk39 a15 a16 a17 a19 a20 a21 l18 i20 i27 i28 i30 i31 i32 i33 x1 x2 x3 x4 x5 x6 x7 v1 hw _ _ _ (wn_eq w rfl) (lv_sub hl [1, 2, 3, 4, 5, 6, 7, 8, 0] rfl)
    · have hw := hw.2 hc
      exact w_Mo_ask_122 C hr hk39 a15 a16 a17 a19 a20 a21 l18 i20 i27 i28 i30 i31 i32 i33 x1 x2 x3 x4 x5 x6 x7 x8 hw _ _ _ (wn_eq w rfl) (lv_sub hl [0, 1, 2, 3, 4, 5, 6, 7, 8] rfl)
set_option maxHeartbeats 4000000 in
set_option maxRecDepth 100000 in
theorem w_Mo_ask_39 {S : ST} {post : Int32 → (Nat → Int32) → (Nat → Int32) → (Nat → Int32) → (Nat → Int32) → (Nat → Int32) → (Nat → Int32) → (Nat → Int64) → Int32 → Int32 → Int32 → Int32 → Int32 → Int32 → Int32 → Prop} (C : cx p s m args meth c prog_12_method_34_code 10 "LineBreakerModel" n0 G K) (hr : meth.sig.returnType = (some .boolean)) : ∀ (n : Nat) (a15 : (Nat → Int32)) (a16 : (Nat → Int32)) (a17 : (Nat → Int32)) (a19 : (Nat → Int32)) (a20 : (Nat → Int32)) (a21 : (Nat → Int32)) (l18 : (Nat → Int64)) (i20 : Int32) (i27 : Int32) (i28 : Int32) (i30 : Int32) (i31 : Int32) (i32 : Int32) (i33 : Int32) (x1 : Int32) (x2 : Int32) (x3 : Int32) (x4 : Int32) (x5 : Int32) (x6 : Int32) (x7 : Int32) (x8 : Int32), wl_Mo_ask_39 S post n a15 a16 a17 a19 a20 a21 l18 i20 i27 i28 i30 i31 i32 i33 x1 x2 x3 x4 x5 x6 x7 x8 → ∀ (H : Heap) (locs : List Loc) (ls : Array Slot), wn n0 G (wM K ad (sI (sI (sI (sI (sI (sI (sI (sL (sA (sA (sA (sA (sA (sA S 15 a15) 16 a16) 17 a17) 19 a19) 20 a20) 21 a21) 18 l18) 20 i20) 27 i27) 28 i28) 30 i30) 31 i31) 32 i32) 33 i33) ++ X) s H locs → lv_has ls 10 [(0, .ref (ad 0)), (1, .int x1), (2, .int x2), (3, .int x3), (4, .int x4), (5, .int x5), (6, .int x6), (7, .int x7), (8, .int x8)] → W p l e rm_Mo_ask s m args below meth c H locs 0 0 (MQ below (va_Qi (fun r (u : (Nat → Int32) × (Nat → Int32) × (Nat → Int32) × (Nat → Int32) × (Nat → Int32) × (Nat → Int32) × (Nat → Int64) × Int32 × Int32 × Int32 × Int32 × Int32 × Int32 × Int32) => post r u.1 u.2.1 u.2.2.1 u.2.2.2.1 u.2.2.2.2.1 u.2.2.2.2.2.1 u.2.2.2.2.2.2.1 u.2.2.2.2.2.2.2.1 u.2.2.2.2.2.2.2.2.1 u.2.2.2.2.2.2.2.2.2.1 u.2.2.2.2.2.2.2.2.2.2.1 u.2.2.2.2.2.2.2.2.2.2.2.1 u.2.2.2.2.2.2.2.2.2.2.2.2.1 u.2.2.2.2.2.2.2.2.2.2.2.2.2) (fun (u : (Nat → Int32) × (Nat → Int32) × (Nat → Int32) × (Nat → Int32) × (Nat → Int32) × (Nat → Int32) × (Nat → Int64) × Int32 × Int32 × Int32 × Int32 × Int32 × Int32 × Int32) t => we n0 G (wM K ad (sI (sI (sI (sI (sI (sI (sI (sL (sA (sA (sA (sA (sA (sA S 15 u.1) 16 u.2.1) 17 u.2.2.1) 19 u.2.2.2.1) 20 u.2.2.2.2.1) 21 u.2.2.2.2.2.1) 18 u.2.2.2.2.2.2.1) 20 u.2.2.2.2.2.2.2.1) 27 u.2.2.2.2.2.2.2.2.1) 28 u.2.2.2.2.2.2.2.2.2.1) 30 u.2.2.2.2.2.2.2.2.2.2.1) 31 u.2.2.2.2.2.2.2.2.2.2.2.1) 32 u.2.2.2.2.2.2.2.2.2.2.2.2.1) 33 u.2.2.2.2.2.2.2.2.2.2.2.2.2) ++ X) t) (al n0)) args s 0 0 (al n0)) (F0 m 39 ls []) := by
  have hx := C.1
  have hb := C.2.1
  have hts := C.2.2.2.2.1
  intro n
  induction n with
  | zero =>
    intro a15 a16 a17 a19 a20 a21 l18 i20 i27 i28 i30 i31 i32 i33 x1 x2 x3 x4 x5 x6 x7 x8 hw
    unfold wl_Mo_ask_39 at hw
    exact hw.elim
  | succ n ih =>
    intro a15 a16 a17 a19 a20 a21 l18 i20 i27 i28 i30 i31 i32 i33 x1 x2 x3 x4 x5 x6 x7 x8 hw H locs ls w hl
    unfold wl_Mo_ask_39 at hw
    refine lv_iload hx hb d_Mo_ask_39 (lv_at hl 8 rfl) ?_
    refine lv_iload_n hx hb d_Mo_ask_41 rfl (lv_at hl 2 rfl) ?_
    refine lv_icmp_ge (tgt := 210) hx hb d_Mo_ask_42 (by decide) (fun hc => ?_) (fun hc => ?_)
    · have hw := hw.1 hc
      refine lv_aload_n hx hb d_Mo_ask_210 rfl (lv_at hl 0 rfl) ?_
      refine kg (C1 := R_Mo) (T := F_Mo) (N := 43) (ci := 10) (ref := "LineBreakerModel") (v := .int (S.2.2 16)) C w 0 16 iw_Mo rfl rfl (by decide) kw_893 rfl rfl d_Mo_ask_211 ?_
      refine lv_aload_n hx hb d_Mo_ask_214 rfl (lv_at hl 0 rfl) ?_
      refine kg (C1 := R_Mo) (T := F_Mo) (N := 43) (ci := 10) (ref := "LineBreakerModel") (v := .ref (ad 9)) C w 0 10 iw_Mo rfl rfl (by decide) kw_887 rfl rfl d_Mo_ask_215 ?_
      refine lv_bipush (v := 8) hx hb d_Mo_ask_218 (by decide) ?_
      refine ka_i (f := (S.1 9)) C w 9 rfl hw.1 d_Mo_ask_220 ?_
      have hw := hw.2
      refine lv_if_le (tgt := 228) hx hb d_Mo_ask_221 (by decide) (fun hc => ?_) (fun hc => ?_)
      · have hw := hw.1 hc
        refine lv_iconst (v := 2) hx hb d_Mo_ask_228 (by decide) ?_
        exact w_Mo_ask_229 C hr  a15 a16 a17 a19 a20 a21 l18 i20 i27 i28 i30 i31 i32 i33 x1 x4 x5 x6 x7 (S.2.2 16) 2 hw _ _ _ (wn_eq w rfl) (lv_sub hl [0, 1, 4, 5, 6, 7] rfl)
      · have hw := hw.2 hc
        refine lv_iconst (v := 3) hx hb d_Mo_ask_224 (by decide) ?_
        refine lv_goto (tgt := 229) hx hb d_Mo_ask_225 (by decide) ?_
        exact w_Mo_ask_229 C hr  a15 a16 a17 a19 a20 a21 l18 i20 i27 i28 i30 i31 i32 i33 x1 x4 x5 x6 x7 (S.2.2 16) 3 hw _ _ _ (wn_eq w rfl) (lv_sub hl [0, 1, 4, 5, 6, 7] rfl)
    · have hw := hw.2 hc
      refine lv_aload_n hx hb d_Mo_ask_45 rfl (lv_at hl 0 rfl) ?_
      refine kg (C1 := R_Mo) (T := F_Mo) (N := 43) (ci := 10) (ref := "LineBreakerModel") (v := .ref (ad 20)) C w 0 26 iw_Mo rfl rfl (by decide) kw_903 rfl rfl d_Mo_ask_46 ?_
      refine lv_iload hx hb d_Mo_ask_49 (lv_at hl 8 rfl) ?_
      refine ka_z (f := a20) C w 20 rfl hw.1 d_Mo_ask_51 ?_
      have hw := hw.2
      refine lv_if_ne (tgt := 204) hx hb d_Mo_ask_52 (by decide) (fun hc => ?_) (fun hc => ?_)
      · have hw := hw.1 hc
        obtain ⟨v1, ev1⟩ : ∃ y : Int32, y = x8 + 1 := ⟨_, rfl⟩
        refine lv_iinc (v := v1) (lv' := [(8, .int v1), (0, .ref (ad 0)), (1, .int x1), (2, .int x2), (3, .int x3), (4, .int x4), (5, .int x5), (6, .int x6), (7, .int x7)]) hx hb d_Mo_ask_204 hl (k := 8) rfl (by rw [ev1]; rfl) (by decide) rfl (fun ls hl => ?_)
        have hw := hw v1 ev1
        refine lv_goto (tgt := 39) hx hb d_Mo_ask_207 (by decide) ?_
        exact ih a15 a16 a17 a19 a20 a21 l18 i20 i27 i28 i30 i31 i32 i33 x1 x2 x3 x4 x5 x6 x7 v1 hw _ _ _ (wn_eq w rfl) (lv_sub hl [1, 2, 3, 4, 5, 6, 7, 8, 0] rfl)
      · have hw := hw.2 hc
        refine lv_aload_n hx hb d_Mo_ask_55 rfl (lv_at hl 0 rfl) ?_
        refine lv_aload_n hx hb d_Mo_ask_56 rfl (lv_at hl 0 rfl) ?_
        refine kg (C1 := R_Mo) (T := F_Mo) (N := 43) (ci := 10) (ref := "LineBreakerModel") (v := .ref (ad 15)) C w 0 21 iw_Mo rfl rfl (by decide) kw_898 rfl rfl d_Mo_ask_57 ?_
        refine lv_iload hx hb d_Mo_ask_60 (lv_at hl 8 rfl) ?_
        refine ka_i (f := a15) C w 15 rfl hw.1 d_Mo_ask_62 ?_
        have hw := hw.2
        refine lv_iload_n hx hb d_Mo_ask_63 rfl (lv_at hl 1 rfl) ?_
        refine kc_v (st := fun (u : (Nat → Int32) × Int32 × Int32 × Int32) => wM K ad (sI (sI (sI (sA (sI (sI (sI (sI (sI (sI (sI (sL (sA (sA (sA (sA (sA (sA S 15 a15) 16 a16) 17 a17) 19 a19) 20 a20) 21 a21) 18 l18) 20 i20) 27 i27) 28 i28) 30 i30) 31 i31) 32 i32) 33 i33) 21 u.1) 27 u.2.1) 28 u.2.2.1) 30 u.2.2.2) ++ X) w (kr_V (y := y_Mo_measure) (C1 := R_Mo) (T := F_Mo) (N := 43) (ci := 10) (q0 := 0) (As := [.int (a15 x8.toNatClampNeg), .int x1]) (n := 2) C w (c_Mo_measure l n0 G K ad X (sI (sI (sI (sI (sI (sI (sI (sL (sA (sA (sA (sA (sA (sA S 15 a15) 16 a16) 17 a17) 19 a19) 20 a20) 21 a21) 18 l18) 20 i20) 27 i27) 28 i28) 30 i30) 31 i31) 32 i32) 33 i33) (a15 x8.toNatClampNeg) x1 _ hw) (gw_V kw_1110 kw_1112 kp_26 kw_11 kw_1113) (by decide +kernel) rfl rfl ⟨Nat.le_of_ble_eq_true rfl, Nat.le_of_ble_eq_true rfl⟩ rfl rfl rfl hl.1 rfl (Nat.le_of_ble_eq_true rfl) d_Mo_ask_64 ⟨Nat.le_of_ble_eq_true rfl, Nat.le_of_ble_eq_true rfl⟩) (fun u H locs hw w => ?_)
        obtain ⟨f2, v3, v4, v5⟩ := u
        dsimp only at hw
        have w : wn n0 G (wM K ad (sI (sI (sI (sI (sI (sI (sI (sL (sA (sA (sA (sA (sA (sA S 15 a15) 16 a16) 17 a17) 19 a19) 20 a20) 21 f2) 18 l18) 20 i20) 27 v3) 28 v4) 30 v5) 31 i31) 32 i32) 33 i33) ++ X) s H locs := w
        refine lv_aload_n hx hb d_Mo_ask_67 rfl (lv_at hl 0 rfl) ?_
        refine lv_aload_n hx hb d_Mo_ask_68 rfl (lv_at hl 0 rfl) ?_
        refine kg (C1 := R_Mo) (T := F_Mo) (N := 43) (ci := 10) (ref := "LineBreakerModel") (v := .ref (ad 16)) C w 0 22 iw_Mo rfl rfl (by decide) kw_899 rfl rfl d_Mo_ask_69 ?_
        refine lv_iload hx hb d_Mo_ask_72 (lv_at hl 8 rfl) ?_
        refine ka_i (f := a16) C w 16 rfl hw.1 d_Mo_ask_74 ?_
        have hw := hw.2
        refine kc_v (st := fun (u : Int32 × Int32 × Int32) => wM K ad (sI (sI (sI (sI (sI (sI (sI (sI (sI (sI (sL (sA (sA (sA (sA (sA (sA S 15 a15) 16 a16) 17 a17) 19 a19) 20 a20) 21 f2) 18 l18) 20 i20) 27 v3) 28 v4) 30 v5) 31 i31) 32 i32) 33 i33) 31 u.1) 32 u.2.1) 33 u.2.2) ++ X) w (kr_V (y := y_Mo_judge) (C1 := R_Mo) (T := F_Mo) (N := 43) (ci := 10) (q0 := 0) (As := [.int (a16 x8.toNatClampNeg)]) (n := 1) C w (c_Mo_judge l n0 G K ad X (sI (sI (sI (sI (sI (sI (sI (sL (sA (sA (sA (sA (sA (sA S 15 a15) 16 a16) 17 a17) 19 a19) 20 a20) 21 f2) 18 l18) 20 i20) 27 v3) 28 v4) 30 v5) 31 i31) 32 i32) 33 i33) (a16 x8.toNatClampNeg) _ hw) (gw_V kw_1130 kw_1132 kp_31 kw_11 kw_1133) (by decide +kernel) rfl rfl ⟨Nat.le_of_ble_eq_true rfl, Nat.le_of_ble_eq_true rfl⟩ rfl rfl rfl hl.1 rfl (Nat.le_of_ble_eq_true rfl) d_Mo_ask_75 ⟨Nat.le_of_ble_eq_true rfl, Nat.le_of_ble_eq_true rfl⟩) (fun u H locs hw w => ?_)
        obtain ⟨v6, v7, v8⟩ := u
        dsimp only at hw
        have w : wn n0 G (wM K ad (sI (sI (sI (sI (sI (sI (sI (sL (sA (sA (sA (sA (sA (sA S 15 a15) 16 a16) 17 a17) 19 a19) 20 a20) 21 f2) 18 l18) 20 i20) 27 v3) 28 v4) 30 v5) 31 v6) 32 v7) 33 v8) ++ X) s H locs := w
        obtain ⟨v9, ev9⟩ : ∃ y : Int32, y = x4 + 1 := ⟨_, rfl⟩
        refine lv_iinc (v := v9) (lv' := [(4, .int v9), (0, .ref (ad 0)), (1, .int x1), (2, .int x2), (3, .int x3), (5, .int x5), (6, .int x6), (7, .int x7), (8, .int x8)]) hx hb d_Mo_ask_78 hl (k := 4) rfl (by rw [ev9]; rfl) (by decide) rfl (fun ls hl => ?_)
        have hw := hw v9 ev9
        refine lv_aload_n hx hb d_Mo_ask_81 rfl (lv_at hl 1 rfl) ?_
        refine kg (C1 := R_Mo) (T := F_Mo) (N := 43) (ci := 10) (ref := "LineBreakerModel") (v := .int v7) C w 0 32 iw_Mo rfl rfl (by decide) kw_909 rfl rfl d_Mo_ask_82 ?_
        refine lv_aload_n hx hb d_Mo_ask_85 rfl (lv_at hl 1 rfl) ?_
        refine kg (C1 := R_Mo) (T := F_Mo) (N := 43) (ci := 10) (ref := "LineBreakerModel") (v := .int (S.2.2 18)) C w 0 18 iw_Mo rfl rfl (by decide) kw_895 rfl rfl d_Mo_ask_86 ?_
        refine lv_icmp_gt (tgt := 108) hx hb d_Mo_ask_89 (by decide) (fun hc => ?_) (fun hc => ?_)
        · have hw := hw.1 hc
          exact w_Mo_ask_108 C hr ih a15 a16 a17 a19 a20 f2 l18 i20 v3 v4 v5 v6 v7 v8 x1 x2 x3 v9 x5 x6 x7 x8 hw _ _ _ (wn_eq w rfl) (lv_sub hl [1, 2, 3, 4, 0, 5, 6, 7, 8] rfl)
        · have hw := hw.2 hc
          refine lv_iconst (v := 1) hx hb d_Mo_ask_92 (by decide) ?_
          refine lv_istore (lv' := [(7, .int 1), (4, .int v9), (0, .ref (ad 0)), (1, .int x1), (2, .int x2), (3, .int x3), (5, .int x5), (6, .int x6), (8, .int x8)]) hx hb d_Mo_ask_93 hl (by decide) rfl (fun ls hl => ?_)
          refine lv_aload_n hx hb d_Mo_ask_95 rfl (lv_at hl 2 rfl) ?_
          refine lv_iload_n hx hb d_Mo_ask_96 rfl (lv_at hl 4 rfl) ?_
          refine lv_iload_n hx hb d_Mo_ask_97 rfl (lv_at hl 3 rfl) ?_
          refine lv_iload hx hb d_Mo_ask_98 (lv_at hl 8 rfl) ?_
          refine kc_i (st := fun (u : (Nat → Int32) × (Nat → Int32) × (Nat → Int32) × (Nat → Int32) × (Nat → Int32) × (Nat → Int64) × Int32) => wM K ad (sI (sL (sA (sA (sA (sA (sA (sI (sI (sI (sI (sI (sI (sI (sL (sA (sA (sA (sA (sA (sA S 15 a15) 16 a16) 17 a17) 19 a19) 20 a20) 21 f2) 18 l18) 20 i20) 27 v3) 28 v4) 30 v5) 31 v6) 32 v7) 33 v8) 15 u.1) 16 u.2.1) 17 u.2.2.1) 19 u.2.2.2.1) 20 u.2.2.2.2.1) 18 u.2.2.2.2.2.1) 20 u.2.2.2.2.2.2) ++ X) w (kr_V (y := y_Mo_reach) (C1 := R_Mo) (T := F_Mo) (N := 43) (ci := 10) (q0 := 0) (As := [.int x2, .int x1, .int x8]) (n := 3) C w (c_Mo_reach l n0 G K ad X (sI (sI (sI (sI (sI (sI (sI (sL (sA (sA (sA (sA (sA (sA S 15 a15) 16 a16) 17 a17) 19 a19) 20 a20) 21 f2) 18 l18) 20 i20) 27 v3) 28 v4) 30 v5) 31 v6) 32 v7) 33 v8) x2 x1 x8 _ hw) (gw_V kw_1143 kw_1145 kp_32 kw_11 kw_1146) (by decide +kernel) rfl rfl ⟨Nat.le_of_ble_eq_true rfl, Nat.le_of_ble_eq_true rfl⟩ rfl rfl rfl hl.1 rfl (Nat.le_of_ble_eq_true rfl) d_Mo_ask_100 ⟨Nat.le_of_ble_eq_true rfl, Nat.le_of_ble_eq_true rfl⟩) (fun r17 u H locs hw w => ?_)
          obtain ⟨f10, f11, f12, f13, f14, f15, v16⟩ := u
          dsimp only at hw
          have w : wn n0 G (wM K ad (sI (sI (sI (sI (sI (sI (sI (sL (sA (sA (sA (sA (sA (sA S 15 f10) 16 f11) 17 f12) 19 f13) 20 f14) 21 f2) 18 f15) 20 v16) 27 v3) 28 v4) 30 v5) 31 v6) 32 v7) 33 v8) ++ X) s H locs := w
          refine lv_if_ne (tgt := 108) hx hb d_Mo_ask_103 (by decide) (fun hc => ?_) (fun hc => ?_)
          · have hw := hw.1 hc
            exact w_Mo_ask_108 C hr ih f10 f11 f12 f13 f14 f2 f15 v16 v3 v4 v5 v6 v7 v8 x1 x2 x3 v9 x5 x6 1 x8 hw _ _ _ (wn_eq w rfl) (lv_sub hl [2, 3, 4, 5, 1, 6, 7, 0, 8] rfl)
          · have hw := hw.2 hc
            refine lv_iconst (v := 0) hx hb d_Mo_ask_106 (by decide) ?_
            exact ke_z (post := (fun r (u : (Nat → Int32) × (Nat → Int32) × (Nat → Int32) × (Nat → Int32) × (Nat → Int32) × (Nat → Int32) × (Nat → Int64) × Int32 × Int32 × Int32 × Int32 × Int32 × Int32 × Int32) => post r u.1 u.2.1 u.2.2.1 u.2.2.2.1 u.2.2.2.2.1 u.2.2.2.2.2.1 u.2.2.2.2.2.2.1 u.2.2.2.2.2.2.2.1 u.2.2.2.2.2.2.2.2.1 u.2.2.2.2.2.2.2.2.2.1 u.2.2.2.2.2.2.2.2.2.2.1 u.2.2.2.2.2.2.2.2.2.2.2.1 u.2.2.2.2.2.2.2.2.2.2.2.2.1 u.2.2.2.2.2.2.2.2.2.2.2.2.2)) (st := (fun (u : (Nat → Int32) × (Nat → Int32) × (Nat → Int32) × (Nat → Int32) × (Nat → Int32) × (Nat → Int32) × (Nat → Int64) × Int32 × Int32 × Int32 × Int32 × Int32 × Int32 × Int32) => wM K ad (sI (sI (sI (sI (sI (sI (sI (sL (sA (sA (sA (sA (sA (sA S 15 u.1) 16 u.2.1) 17 u.2.2.1) 19 u.2.2.2.1) 20 u.2.2.2.2.1) 21 u.2.2.2.2.2.1) 18 u.2.2.2.2.2.2.1) 20 u.2.2.2.2.2.2.2.1) 27 u.2.2.2.2.2.2.2.2.1) 28 u.2.2.2.2.2.2.2.2.2.1) 30 u.2.2.2.2.2.2.2.2.2.2.1) 31 u.2.2.2.2.2.2.2.2.2.2.2.1) 32 u.2.2.2.2.2.2.2.2.2.2.2.2.1) 33 u.2.2.2.2.2.2.2.2.2.2.2.2.2) ++ X)) (u := (f10, f11, f12, f13, f14, f2, f15, v16, v3, v4, v5, v6, v7, v8)) C hr d_Mo_ask_107 (wn_eq w rfl) (Or.inl rfl) hw
set_option maxHeartbeats 4000000 in
set_option maxRecDepth 100000 in
theorem w_Mo_ask_23 {S : ST} {post : Int32 → (Nat → Int32) → (Nat → Int32) → (Nat → Int32) → (Nat → Int32) → (Nat → Int32) → (Nat → Int32) → (Nat → Int64) → Int32 → Int32 → Int32 → Int32 → Int32 → Int32 → Int32 → Prop} (C : cx p s m args meth c prog_12_method_34_code 10 "LineBreakerModel" n0 G K) (hr : meth.sig.returnType = (some .boolean)) : ∀ (x1 : Int32) (x2 : Int32) (z0 : Int32), wl_Mo_ask_23 S post x1 x2 z0 → ∀ (H : Heap) (locs : List Loc) (ls : Array Slot), wn n0 G (wM K ad S ++ X) s H locs → lv_has ls 10 [(0, .ref (ad 0)), (1, .int x1), (2, .int x2)] → W p l e rm_Mo_ask s m args below meth c H locs 0 0 (MQ below (va_Qi (fun r (u : (Nat → Int32) × (Nat → Int32) × (Nat → Int32) × (Nat → Int32) × (Nat → Int32) × (Nat → Int32) × (Nat → Int64) × Int32 × Int32 × Int32 × Int32 × Int32 × Int32 × Int32) => post r u.1 u.2.1 u.2.2.1 u.2.2.2.1 u.2.2.2.2.1 u.2.2.2.2.2.1 u.2.2.2.2.2.2.1 u.2.2.2.2.2.2.2.1 u.2.2.2.2.2.2.2.2.1 u.2.2.2.2.2.2.2.2.2.1 u.2.2.2.2.2.2.2.2.2.2.1 u.2.2.2.2.2.2.2.2.2.2.2.1 u.2.2.2.2.2.2.2.2.2.2.2.2.1 u.2.2.2.2.2.2.2.2.2.2.2.2.2) (fun (u : (Nat → Int32) × (Nat → Int32) × (Nat → Int32) × (Nat → Int32) × (Nat → Int32) × (Nat → Int32) × (Nat → Int64) × Int32 × Int32 × Int32 × Int32 × Int32 × Int32 × Int32) t => we n0 G (wM K ad (sI (sI (sI (sI (sI (sI (sI (sL (sA (sA (sA (sA (sA (sA S 15 u.1) 16 u.2.1) 17 u.2.2.1) 19 u.2.2.2.1) 20 u.2.2.2.2.1) 21 u.2.2.2.2.2.1) 18 u.2.2.2.2.2.2.1) 20 u.2.2.2.2.2.2.2.1) 27 u.2.2.2.2.2.2.2.2.1) 28 u.2.2.2.2.2.2.2.2.2.1) 30 u.2.2.2.2.2.2.2.2.2.2.1) 31 u.2.2.2.2.2.2.2.2.2.2.2.1) 32 u.2.2.2.2.2.2.2.2.2.2.2.2.1) 33 u.2.2.2.2.2.2.2.2.2.2.2.2.2) ++ X) t) (al n0)) args s 0 0 (al n0)) (F0 m 23 ls [.int z0]) := by
  have hx := C.1
  have hb := C.2.1
  have hts := C.2.2.2.2.1
  intro x1 x2 z0 hw H locs ls w hl
  unfold wl_Mo_ask_23 at hw
  refine lv_istore_n (lv' := [(3, .int z0), (0, .ref (ad 0)), (1, .int x1), (2, .int x2)]) hx hb d_Mo_ask_23 rfl hl (by decide) rfl (fun ls hl => ?_)
  refine lv_iconst (v := 0) hx hb d_Mo_ask_24 (by decide) ?_
  refine lv_istore (lv' := [(4, .int 0), (3, .int z0), (0, .ref (ad 0)), (1, .int x1), (2, .int x2)]) hx hb d_Mo_ask_25 hl (by decide) rfl (fun ls hl => ?_)
  refine lv_iconst (v := 0) hx hb d_Mo_ask_27 (by decide) ?_
  refine lv_istore (lv' := [(5, .int 0), (4, .int 0), (3, .int z0), (0, .ref (ad 0)), (1, .int x1), (2, .int x2)]) hx hb d_Mo_ask_28 hl (by decide) rfl (fun ls hl => ?_)
  refine lv_iconst (v := (-1)) hx hb d_Mo_ask_30 (by decide) ?_
  refine lv_istore (lv' := [(6, .int (-1)), (5, .int 0), (4, .int 0), (3, .int z0), (0, .ref (ad 0)), (1, .int x1), (2, .int x2)]) hx hb d_Mo_ask_31 hl (by decide) rfl (fun ls hl => ?_)
  refine lv_iconst (v := 0) hx hb d_Mo_ask_33 (by decide) ?_
  refine lv_istore (lv' := [(7, .int 0), (6, .int (-1)), (5, .int 0), (4, .int 0), (3, .int z0), (0, .ref (ad 0)), (1, .int x1), (2, .int x2)]) hx hb d_Mo_ask_34 hl (by decide) rfl (fun ls hl => ?_)
  refine lv_iconst (v := 0) hx hb d_Mo_ask_36 (by decide) ?_
  refine lv_istore (lv' := [(8, .int 0), (7, .int 0), (6, .int (-1)), (5, .int 0), (4, .int 0), (3, .int z0), (0, .ref (ad 0)), (1, .int x1), (2, .int x2)]) hx hb d_Mo_ask_37 hl (by decide) rfl (fun ls hl => ?_)
  obtain ⟨n9, hw⟩ := hw
  exact w_Mo_ask_39 C hr  n9 (S.1 15) (S.1 16) (S.1 17) (S.1 19) (S.1 20) (S.1 21) (S.2.1 18) (S.2.2 20) (S.2.2 27) (S.2.2 28) (S.2.2 30) (S.2.2 31) (S.2.2 32) (S.2.2 33) x1 x2 z0 0 0 (-1) 0 0 hw _ _ _ (wn_eq w rfl) (lv_sub hl [6, 7, 8, 5, 4, 3, 2, 1, 0] rfl)
set_option maxHeartbeats 4000000 in
set_option maxRecDepth 100000 in
theorem c_Mo_ask (l : Launch) (n0 : Nat) (G : va_G) (K : KT) (ad : Nat → Nat) (X : va_W) (S : ST) (p1 : Int32) (post : Int32 → (Nat → Int32) → (Nat → Int32) → (Nat → Int32) → (Nat → Int32) → (Nat → Int32) → (Nat → Int32) → (Nat → Int64) → Int32 → Int32 → Int32 → Int32 → Int32 → Int32 → Int32 → Prop) (hw : wp_Mo_ask S p1 post) : Met l y_Mo_ask (Cond.code y_Mo_ask prog_12_method_34_code 10 (some .boolean) :: gw) rm_Mo_ask (va_Pc [.ref (ad 0), .int p1] (wb n0 G K (wM K ad S ++ X))) (va_Qi (fun r (u : (Nat → Int32) × (Nat → Int32) × (Nat → Int32) × (Nat → Int32) × (Nat → Int32) × (Nat → Int32) × (Nat → Int64) × Int32 × Int32 × Int32 × Int32 × Int32 × Int32 × Int32) => post r u.1 u.2.1 u.2.2.1 u.2.2.2.1 u.2.2.2.2.1 u.2.2.2.2.2.1 u.2.2.2.2.2.2.1 u.2.2.2.2.2.2.2.1 u.2.2.2.2.2.2.2.2.1 u.2.2.2.2.2.2.2.2.2.1 u.2.2.2.2.2.2.2.2.2.2.1 u.2.2.2.2.2.2.2.2.2.2.2.1 u.2.2.2.2.2.2.2.2.2.2.2.2.1 u.2.2.2.2.2.2.2.2.2.2.2.2.2) (fun (u : (Nat → Int32) × (Nat → Int32) × (Nat → Int32) × (Nat → Int32) × (Nat → Int32) × (Nat → Int32) × (Nat → Int64) × Int32 × Int32 × Int32 × Int32 × Int32 × Int32 × Int32) t => we n0 G (wM K ad (sI (sI (sI (sI (sI (sI (sI (sL (sA (sA (sA (sA (sA (sA S 15 u.1) 16 u.2.1) 17 u.2.2.1) 19 u.2.2.2.1) 20 u.2.2.2.2.1) 21 u.2.2.2.2.2.1) 18 u.2.2.2.2.2.2.1) 20 u.2.2.2.2.2.2.2.1) 27 u.2.2.2.2.2.2.2.2.1) 28 u.2.2.2.2.2.2.2.2.2.1) 30 u.2.2.2.2.2.2.2.2.2.2.1) 31 u.2.2.2.2.2.2.2.2.2.2.2.1) 32 u.2.2.2.2.2.2.2.2.2.2.2.2.1) 33 u.2.2.2.2.2.2.2.2.2.2.2.2.2) ++ X) t) (al n0)) 0 0 (al n0) := by
  refine kb_start (own := "LineBreakerModel") (by decide +kernel) rfl ?_
  intro p e s m below meth c C hr hne w
  have hx := C.1
  have hb := C.2.1
  have hts := C.2.2.2.2.1
  have hl := lv_entry ([.ref (ad 0), .int p1]) (n := 10) (Nat.le_of_ble_eq_true rfl)
  rw [lg_entry_eq]
  generalize (lg_sl ([.ref (ad 0), .int p1]) ++ List.replicate (10 - (lg_sl ([.ref (ad 0), .int p1])).length) Slot.unset).toArray = ls at hl ⊢
  have hl : lv_has ls 10 [(0, .ref (ad 0)), (1, .int p1)] := hl
  unfold wp_Mo_ask at hw
  refine lv_aload_n hx hb d_Mo_ask_0 rfl (lv_at hl 0 rfl) ?_
  refine kg (C1 := R_Mo) (T := F_Mo) (N := 43) (ci := 10) (ref := "LineBreakerModel") (v := .int (S.2.2 20)) C w 0 20 iw_Mo rfl rfl (by decide) kw_897 rfl rfl d_Mo_ask_1 ?_
  refine lv_iconst (v := 1) hx hb d_Mo_ask_4 (by decide) ?_
  refine lv_iadd hx hb d_Mo_ask_5 ?_
  refine lv_topi (fun v1 ev1 => ?_)
  have hw := hw v1 ev1
  refine lv_istore_n (lv' := [(2, .int v1), (0, .ref (ad 0)), (1, .int p1)]) hx hb d_Mo_ask_6 rfl hl (by decide) rfl (fun ls hl => ?_)
  refine lv_aload_n hx hb d_Mo_ask_7 rfl (lv_at hl 1 rfl) ?_
  refine lv_iload_n hx hb d_Mo_ask_8 rfl (lv_at hl 2 rfl) ?_
  refine kd_i (kr_V (y := y_Mo_fine) (C1 := R_Mo) (T := F_Mo) (N := 43) (ci := 10) (q0 := 0) (As := [.int p1]) (n := 1) C w (c_Mo_fine l n0 G K ad X S p1 _ hw) (gw_V kw_1102 kw_1104 kp_24 kw_11 kw_1105) (by decide +kernel) rfl rfl ⟨Nat.le_of_ble_eq_true rfl, Nat.le_of_ble_eq_true rfl⟩ rfl rfl rfl hl.1 rfl (Nat.le_of_ble_eq_true rfl) d_Mo_ask_9 ⟨Nat.le_of_ble_eq_true rfl, Nat.le_of_ble_eq_true rfl⟩) (fun r2 hw => ?_)
  refine lv_sipush (v := (-10000)) hx hb d_Mo_ask_12 (by decide) ?_
  refine lv_icmp_ne (tgt := 22) hx hb d_Mo_ask_15 (by decide) (fun hc => ?_) (fun hc => ?_)
  · have hw := hw.1 hc
    refine lv_iconst (v := 0) hx hb d_Mo_ask_22 (by decide) ?_
    exact w_Mo_ask_23 C hr  p1 v1 0 hw _ _ _ (wn_eq w rfl) (lv_sub hl [1, 2, 0] rfl)
  · have hw := hw.2 hc
    refine lv_iconst (v := 1) hx hb d_Mo_ask_18 (by decide) ?_
    refine lv_goto (tgt := 23) hx hb d_Mo_ask_19 (by decide) ?_
    exact w_Mo_ask_23 C hr  p1 v1 1 hw _ _ _ (wn_eq w rfl) (lv_sub hl [1, 2, 0] rfl)
set_option maxHeartbeats 4000000 in
set_option maxRecDepth 100000 in
theorem w_Mo_make_89 {S : ST} {post : Int32 → (Nat → Int32) → (Nat → Int32) → (Nat → Int32) → (Nat → Int32) → (Nat → Int32) → (Nat → Int32) → (Nat → Int64) → Int32 → Int32 → Int32 → Int32 → Int32 → Int32 → Int32 → Int32 → Int32 → Prop} (C : cx p s m args meth c prog_12_method_35_code 3 "LineBreakerModel" n0 G K) (hr : meth.sig.returnType = (some .boolean)) : ∀ (n : Nat) (a15 : (Nat → Int32)) (a16 : (Nat → Int32)) (a17 : (Nat → Int32)) (a19 : (Nat → Int32)) (a20 : (Nat → Int32)) (a21 : (Nat → Int32)) (l18 : (Nat → Int64)) (i18 : Int32) (i19 : Int32) (i20 : Int32) (i27 : Int32) (i28 : Int32) (i30 : Int32) (i31 : Int32) (i32 : Int32) (i33 : Int32) (x1 : Int32) (x2 : Int32), wl_Mo_make_89 S post n a15 a16 a17 a19 a20 a21 l18 i18 i19 i20 i27 i28 i30 i31 i32 i33 x1 x2 → ∀ (H : Heap) (locs : List Loc) (ls : Array Slot), wn n0 G (wM K ad (sI (sI (sI (sI (sI (sI (sI (sI (sI (sL (sA (sA (sA (sA (sA (sA S 15 a15) 16 a16) 17 a17) 19 a19) 20 a20) 21 a21) 18 l18) 18 i18) 19 i19) 20 i20) 27 i27) 28 i28) 30 i30) 31 i31) 32 i32) 33 i33) ++ X) s H locs → lv_has ls 3 [(0, .ref (ad 0)), (1, .int x1), (2, .int x2)] → W p l e rm_Mo_make s m args below meth c H locs 0 0 (MQ below (va_Qi (fun r (u : (Nat → Int32) × (Nat → Int32) × (Nat → Int32) × (Nat → Int32) × (Nat → Int32) × (Nat → Int32) × (Nat → Int64) × Int32 × Int32 × Int32 × Int32 × Int32 × Int32 × Int32 × Int32 × Int32) => post r u.1 u.2.1 u.2.2.1 u.2.2.2.1 u.2.2.2.2.1 u.2.2.2.2.2.1 u.2.2.2.2.2.2.1 u.2.2.2.2.2.2.2.1 u.2.2.2.2.2.2.2.2.1 u.2.2.2.2.2.2.2.2.2.1 u.2.2.2.2.2.2.2.2.2.2.1 u.2.2.2.2.2.2.2.2.2.2.2.1 u.2.2.2.2.2.2.2.2.2.2.2.2.1 u.2.2.2.2.2.2.2.2.2.2.2.2.2.1 u.2.2.2.2.2.2.2.2.2.2.2.2.2.2.1 u.2.2.2.2.2.2.2.2.2.2.2.2.2.2.2) (fun (u : (Nat → Int32) × (Nat → Int32) × (Nat → Int32) × (Nat → Int32) × (Nat → Int32) × (Nat → Int32) × (Nat → Int64) × Int32 × Int32 × Int32 × Int32 × Int32 × Int32 × Int32 × Int32 × Int32) t => we n0 G (wM K ad (sI (sI (sI (sI (sI (sI (sI (sI (sI (sL (sA (sA (sA (sA (sA (sA S 15 u.1) 16 u.2.1) 17 u.2.2.1) 19 u.2.2.2.1) 20 u.2.2.2.2.1) 21 u.2.2.2.2.2.1) 18 u.2.2.2.2.2.2.1) 18 u.2.2.2.2.2.2.2.1) 19 u.2.2.2.2.2.2.2.2.1) 20 u.2.2.2.2.2.2.2.2.2.1) 27 u.2.2.2.2.2.2.2.2.2.2.1) 28 u.2.2.2.2.2.2.2.2.2.2.2.1) 30 u.2.2.2.2.2.2.2.2.2.2.2.2.1) 31 u.2.2.2.2.2.2.2.2.2.2.2.2.2.1) 32 u.2.2.2.2.2.2.2.2.2.2.2.2.2.2.1) 33 u.2.2.2.2.2.2.2.2.2.2.2.2.2.2.2) ++ X) t) (al n0)) args s 0 0 (al n0)) (F0 m 89 ls []) := by
  have hx := C.1
  have hb := C.2.1
  have hts := C.2.2.2.2.1
  intro n
  induction n with
  | zero =>
    intro a15 a16 a17 a19 a20 a21 l18 i18 i19 i20 i27 i28 i30 i31 i32 i33 x1 x2 hw
    unfold wl_Mo_make_89 at hw
    exact hw.elim
  | succ n ih =>
    intro a15 a16 a17 a19 a20 a21 l18 i18 i19 i20 i27 i28 i30 i31 i32 i33 x1 x2 hw H locs ls w hl
    unfold wl_Mo_make_89 at hw
    refine lv_iload_n hx hb d_Mo_make_89 rfl (lv_at hl 2 rfl) ?_
    refine lv_aload_n hx hb d_Mo_make_90 rfl (lv_at hl 0 rfl) ?_
    refine kg (C1 := R_Mo) (T := F_Mo) (N := 43) (ci := 10) (ref := "LineBreakerModel") (v := .int (S.2.2 17)) C w 0 17 iw_Mo rfl rfl (by decide) kw_894 rfl rfl d_Mo_make_91 ?_
    refine lv_icmp_gt (tgt := 129) hx hb d_Mo_make_94 (by decide) (fun hc => ?_) (fun hc => ?_)
    · have hw := hw.1 hc
      refine lv_iload_n hx hb d_Mo_make_129 rfl (lv_at hl 1 rfl) ?_
      exact ke_z (post := (fun r (u : (Nat → Int32) × (Nat → Int32) × (Nat → Int32) × (Nat → Int32) × (Nat → Int32) × (Nat → Int32) × (Nat → Int64) × Int32 × Int32 × Int32 × Int32 × Int32 × Int32 × Int32 × Int32 × Int32) => post r u.1 u.2.1 u.2.2.1 u.2.2.2.1 u.2.2.2.2.1 u.2.2.2.2.2.1 u.2.2.2.2.2.2.1 u.2.2.2.2.2.2.2.1 u.2.2.2.2.2.2.2.2.1 u.2.2.2.2.2.2.2.2.2.1 u.2.2.2.2.2.2.2.2.2.2.1 u.2.2.2.2.2.2.2.2.2.2.2.1 u.2.2.2.2.2.2.2.2.2.2.2.2.1 u.2.2.2.2.2.2.2.2.2.2.2.2.2.1 u.2.2.2.2.2.2.2.2.2.2.2.2.2.2.1 u.2.2.2.2.2.2.2.2.2.2.2.2.2.2.2)) (st := (fun (u : (Nat → Int32) × (Nat → Int32) × (Nat → Int32) × (Nat → Int32) × (Nat → Int32) × (Nat → Int32) × (Nat → Int64) × Int32 × Int32 × Int32 × Int32 × Int32 × Int32 × Int32 × Int32 × Int32) => wM K ad (sI (sI (sI (sI (sI (sI (sI (sI (sI (sL (sA (sA (sA (sA (sA (sA S 15 u.1) 16 u.2.1) 17 u.2.2.1) 19 u.2.2.2.1) 20 u.2.2.2.2.1) 21 u.2.2.2.2.2.1) 18 u.2.2.2.2.2.2.1) 18 u.2.2.2.2.2.2.2.1) 19 u.2.2.2.2.2.2.2.2.1) 20 u.2.2.2.2.2.2.2.2.2.1) 27 u.2.2.2.2.2.2.2.2.2.2.1) 28 u.2.2.2.2.2.2.2.2.2.2.2.1) 30 u.2.2.2.2.2.2.2.2.2.2.2.2.1) 31 u.2.2.2.2.2.2.2.2.2.2.2.2.2.1) 32 u.2.2.2.2.2.2.2.2.2.2.2.2.2.2.1) 33 u.2.2.2.2.2.2.2.2.2.2.2.2.2.2.2) ++ X)) (u := (a15, a16, a17, a19, a20, a21, l18, i18, i19, i20, i27, i28, i30, i31, i32, i33)) C hr d_Mo_make_130 (wn_eq w rfl) hw.1 hw.2
    · have hw := hw.2 hc
      refine lv_iload_n hx hb d_Mo_make_97 rfl (lv_at hl 1 rfl) ?_
      refine lv_if_eq (tgt := 129) hx hb d_Mo_make_98 (by decide) (fun hc => ?_) (fun hc => ?_)
      · have hw := hw.1 hc
        refine lv_iload_n hx hb d_Mo_make_129 rfl (lv_at hl 1 rfl) ?_
        exact ke_z (post := (fun r (u : (Nat → Int32) × (Nat → Int32) × (Nat → Int32) × (Nat → Int32) × (Nat → Int32) × (Nat → Int32) × (Nat → Int64) × Int32 × Int32 × Int32 × Int32 × Int32 × Int32 × Int32 × Int32 × Int32) => post r u.1 u.2.1 u.2.2.1 u.2.2.2.1 u.2.2.2.2.1 u.2.2.2.2.2.1 u.2.2.2.2.2.2.1 u.2.2.2.2.2.2.2.1 u.2.2.2.2.2.2.2.2.1 u.2.2.2.2.2.2.2.2.2.1 u.2.2.2.2.2.2.2.2.2.2.1 u.2.2.2.2.2.2.2.2.2.2.2.1 u.2.2.2.2.2.2.2.2.2.2.2.2.1 u.2.2.2.2.2.2.2.2.2.2.2.2.2.1 u.2.2.2.2.2.2.2.2.2.2.2.2.2.2.1 u.2.2.2.2.2.2.2.2.2.2.2.2.2.2.2)) (st := (fun (u : (Nat → Int32) × (Nat → Int32) × (Nat → Int32) × (Nat → Int32) × (Nat → Int32) × (Nat → Int32) × (Nat → Int64) × Int32 × Int32 × Int32 × Int32 × Int32 × Int32 × Int32 × Int32 × Int32) => wM K ad (sI (sI (sI (sI (sI (sI (sI (sI (sI (sL (sA (sA (sA (sA (sA (sA S 15 u.1) 16 u.2.1) 17 u.2.2.1) 19 u.2.2.2.1) 20 u.2.2.2.2.1) 21 u.2.2.2.2.2.1) 18 u.2.2.2.2.2.2.1) 18 u.2.2.2.2.2.2.2.1) 19 u.2.2.2.2.2.2.2.2.1) 20 u.2.2.2.2.2.2.2.2.2.1) 27 u.2.2.2.2.2.2.2.2.2.2.1) 28 u.2.2.2.2.2.2.2.2.2.2.2.1) 30 u.2.2.2.2.2.2.2.2.2.2.2.2.1) 31 u.2.2.2.2.2.2.2.2.2.2.2.2.2.1) 32 u.2.2.2.2.2.2.2.2.2.2.2.2.2.2.1) 33 u.2.2.2.2.2.2.2.2.2.2.2.2.2.2.2) ++ X)) (u := (a15, a16, a17, a19, a20, a21, l18, i18, i19, i20, i27, i28, i30, i31, i32, i33)) C hr d_Mo_make_130 (wn_eq w rfl) hw.1 hw.2
      · have hw := hw.2 hc
        refine lv_aload_n hx hb d_Mo_make_101 rfl (lv_at hl 0 rfl) ?_
        refine lv_iload_n hx hb d_Mo_make_102 rfl (lv_at hl 2 rfl) ?_
        refine kd_i (kr_V (y := y_Mo_isPlace) (C1 := R_Mo) (T := F_Mo) (N := 43) (ci := 10) (q0 := 0) (As := [.int x2]) (n := 1) C w (c_Mo_isPlace l n0 G K ad X (sI (sI (sI (sI (sI (sI (sI (sI (sI (sL (sA (sA (sA (sA (sA (sA S 15 a15) 16 a16) 17 a17) 19 a19) 20 a20) 21 a21) 18 l18) 18 i18) 19 i19) 20 i20) 27 i27) 28 i28) 30 i30) 31 i31) 32 i32) 33 i33) x2 _ hw) (gw_V kw_1098 kw_1100 kp_23 kw_11 kw_1101) (by decide +kernel) rfl rfl ⟨Nat.le_of_ble_eq_true rfl, Nat.le_of_ble_eq_true rfl⟩ rfl rfl rfl hl.1 rfl (Nat.le_of_ble_eq_true rfl) d_Mo_make_103 ⟨Nat.le_of_ble_eq_true rfl, Nat.le_of_ble_eq_true rfl⟩) (fun r1 hw => ?_)
        refine lv_if_eq (tgt := 117) hx hb d_Mo_make_106 (by decide) (fun hc => ?_) (fun hc => ?_)
        · have hw := hw.1 hc
          refine lv_iconst (v := 1) hx hb d_Mo_make_117 (by decide) ?_
          refine lv_goto (tgt := 122) hx hb d_Mo_make_118 (by decide) ?_
          refine lv_istore_n (lv' := [(1, .int 1), (0, .ref (ad 0)), (2, .int x2)]) hx hb d_Mo_make_122 rfl hl (by decide) rfl (fun ls hl => ?_)
          obtain ⟨v2, ev2⟩ : ∃ y : Int32, y = x2 + 1 := ⟨_, rfl⟩
          refine lv_iinc (v := v2) (lv' := [(2, .int v2), (1, .int 1), (0, .ref (ad 0))]) hx hb d_Mo_make_123 hl (k := 2) rfl (by rw [ev2]; rfl) (by decide) rfl (fun ls hl => ?_)
          have hw := hw v2 ev2
          refine lv_goto (tgt := 89) hx hb d_Mo_make_126 (by decide) ?_
          exact ih a15 a16 a17 a19 a20 a21 l18 i18 i19 i20 i27 i28 i30 i31 i32 i33 1 v2 hw _ _ _ (wn_eq w rfl) (lv_sub hl [2, 1, 0] rfl)
        · have hw := hw.2 hc
          refine lv_aload_n hx hb d_Mo_make_109 rfl (lv_at hl 0 rfl) ?_
          refine lv_iload_n hx hb d_Mo_make_110 rfl (lv_at hl 2 rfl) ?_
          refine kc_i (st := fun (u : (Nat → Int32) × (Nat → Int32) × (Nat → Int32) × (Nat → Int32) × (Nat → Int32) × (Nat → Int32) × (Nat → Int64) × Int32 × Int32 × Int32 × Int32 × Int32 × Int32 × Int32) => wM K ad (sI (sI (sI (sI (sI (sI (sI (sL (sA (sA (sA (sA (sA (sA (sI (sI (sI (sI (sI (sI (sI (sI (sI (sL (sA (sA (sA (sA (sA (sA S 15 a15) 16 a16) 17 a17) 19 a19) 20 a20) 21 a21) 18 l18) 18 i18) 19 i19) 20 i20) 27 i27) 28 i28) 30 i30) 31 i31) 32 i32) 33 i33) 15 u.1) 16 u.2.1) 17 u.2.2.1) 19 u.2.2.2.1) 20 u.2.2.2.2.1) 21 u.2.2.2.2.2.1) 18 u.2.2.2.2.2.2.1) 20 u.2.2.2.2.2.2.2.1) 27 u.2.2.2.2.2.2.2.2.1) 28 u.2.2.2.2.2.2.2.2.2.1) 30 u.2.2.2.2.2.2.2.2.2.2.1) 31 u.2.2.2.2.2.2.2.2.2.2.2.1) 32 u.2.2.2.2.2.2.2.2.2.2.2.2.1) 33 u.2.2.2.2.2.2.2.2.2.2.2.2.2) ++ X) w (kr_V (y := y_Mo_ask) (C1 := R_Mo) (T := F_Mo) (N := 43) (ci := 10) (q0 := 0) (As := [.int x2]) (n := 1) C w (c_Mo_ask l n0 G K ad X (sI (sI (sI (sI (sI (sI (sI (sI (sI (sL (sA (sA (sA (sA (sA (sA S 15 a15) 16 a16) 17 a17) 19 a19) 20 a20) 21 a21) 18 l18) 18 i18) 19 i19) 20 i20) 27 i27) 28 i28) 30 i30) 31 i31) 32 i32) 33 i33) x2 _ hw) (gw_V kw_1106 kw_1108 kp_25 kw_11 kw_1109) (by decide +kernel) rfl rfl ⟨Nat.le_of_ble_eq_true rfl, Nat.le_of_ble_eq_true rfl⟩ rfl rfl rfl hl.1 rfl (Nat.le_of_ble_eq_true rfl) d_Mo_make_111 ⟨Nat.le_of_ble_eq_true rfl, Nat.le_of_ble_eq_true rfl⟩) (fun r17 u H locs hw w => ?_)
          obtain ⟨f3, f4, f5, f6, f7, f8, f9, v10, v11, v12, v13, v14, v15, v16⟩ := u
          dsimp only at hw
          have w : wn n0 G (wM K ad (sI (sI (sI (sI (sI (sI (sI (sI (sI (sL (sA (sA (sA (sA (sA (sA S 15 f3) 16 f4) 17 f5) 19 f6) 20 f7) 21 f8) 18 f9) 18 i18) 19 i19) 20 v10) 27 v11) 28 v12) 30 v13) 31 v14) 32 v15) 33 v16) ++ X) s H locs := w
          refine lv_if_eq (tgt := 121) hx hb d_Mo_make_114 (by decide) (fun hc => ?_) (fun hc => ?_)
          · have hw := hw.1 hc
            refine lv_iconst (v := 0) hx hb d_Mo_make_121 (by decide) ?_
            refine lv_istore_n (lv' := [(1, .int 0), (0, .ref (ad 0)), (2, .int x2)]) hx hb d_Mo_make_122 rfl hl (by decide) rfl (fun ls hl => ?_)
            obtain ⟨v18, ev18⟩ : ∃ y : Int32, y = x2 + 1 := ⟨_, rfl⟩
            refine lv_iinc (v := v18) (lv' := [(2, .int v18), (1, .int 0), (0, .ref (ad 0))]) hx hb d_Mo_make_123 hl (k := 2) rfl (by rw [ev18]; rfl) (by decide) rfl (fun ls hl => ?_)
            have hw := hw v18 ev18
            refine lv_goto (tgt := 89) hx hb d_Mo_make_126 (by decide) ?_
            exact ih f3 f4 f5 f6 f7 f8 f9 i18 i19 v10 v11 v12 v13 v14 v15 v16 0 v18 hw _ _ _ (wn_eq w rfl) (lv_sub hl [2, 1, 0] rfl)
          · have hw := hw.2 hc
            refine lv_iconst (v := 1) hx hb d_Mo_make_117 (by decide) ?_
            refine lv_goto (tgt := 122) hx hb d_Mo_make_118 (by decide) ?_
            refine lv_istore_n (lv' := [(1, .int 1), (0, .ref (ad 0)), (2, .int x2)]) hx hb d_Mo_make_122 rfl hl (by decide) rfl (fun ls hl => ?_)
            obtain ⟨v19, ev19⟩ : ∃ y : Int32, y = x2 + 1 := ⟨_, rfl⟩
            refine lv_iinc (v := v19) (lv' := [(2, .int v19), (1, .int 1), (0, .ref (ad 0))]) hx hb d_Mo_make_123 hl (k := 2) rfl (by rw [ev19]; rfl) (by decide) rfl (fun ls hl => ?_)
            have hw := hw v19 ev19
            refine lv_goto (tgt := 89) hx hb d_Mo_make_126 (by decide) ?_
            exact ih f3 f4 f5 f6 f7 f8 f9 i18 i19 v10 v11 v12 v13 v14 v15 v16 1 v19 hw _ _ _ (wn_eq w rfl) (lv_sub hl [2, 1, 0] rfl)
set_option maxHeartbeats 4000000 in
set_option maxRecDepth 100000 in
theorem w_Mo_make_58 {S : ST} {post : Int32 → (Nat → Int32) → (Nat → Int32) → (Nat → Int32) → (Nat → Int32) → (Nat → Int32) → (Nat → Int32) → (Nat → Int64) → Int32 → Int32 → Int32 → Int32 → Int32 → Int32 → Int32 → Int32 → Int32 → Prop} (C : cx p s m args meth c prog_12_method_35_code 3 "LineBreakerModel" n0 G K) (hr : meth.sig.returnType = (some .boolean)) : ∀ (a15 : (Nat → Int32)) (a16 : (Nat → Int32)) (a17 : (Nat → Int32)) (a20 : (Nat → Int32)) (l18 : (Nat → Int64)) (i20 : Int32) (z2 : Int32), wl_Mo_make_58 S post a15 a16 a17 a20 l18 i20 z2 → ∀ (H : Heap) (locs : List Loc) (ls : Array Slot), wn n0 G (wM K ad (sI (sL (sA (sA (sA (sA S 15 a15) 16 a16) 17 a17) 20 a20) 18 l18) 20 i20) ++ X) s H locs → lv_has ls 3 [(0, .ref (ad 0))] → W p l e rm_Mo_make s m args below meth c H locs 0 0 (MQ below (va_Qi (fun r (u : (Nat → Int32) × (Nat → Int32) × (Nat → Int32) × (Nat → Int32) × (Nat → Int32) × (Nat → Int32) × (Nat → Int64) × Int32 × Int32 × Int32 × Int32 × Int32 × Int32 × Int32 × Int32 × Int32) => post r u.1 u.2.1 u.2.2.1 u.2.2.2.1 u.2.2.2.2.1 u.2.2.2.2.2.1 u.2.2.2.2.2.2.1 u.2.2.2.2.2.2.2.1 u.2.2.2.2.2.2.2.2.1 u.2.2.2.2.2.2.2.2.2.1 u.2.2.2.2.2.2.2.2.2.2.1 u.2.2.2.2.2.2.2.2.2.2.2.1 u.2.2.2.2.2.2.2.2.2.2.2.2.1 u.2.2.2.2.2.2.2.2.2.2.2.2.2.1 u.2.2.2.2.2.2.2.2.2.2.2.2.2.2.1 u.2.2.2.2.2.2.2.2.2.2.2.2.2.2.2) (fun (u : (Nat → Int32) × (Nat → Int32) × (Nat → Int32) × (Nat → Int32) × (Nat → Int32) × (Nat → Int32) × (Nat → Int64) × Int32 × Int32 × Int32 × Int32 × Int32 × Int32 × Int32 × Int32 × Int32) t => we n0 G (wM K ad (sI (sI (sI (sI (sI (sI (sI (sI (sI (sL (sA (sA (sA (sA (sA (sA S 15 u.1) 16 u.2.1) 17 u.2.2.1) 19 u.2.2.2.1) 20 u.2.2.2.2.1) 21 u.2.2.2.2.2.1) 18 u.2.2.2.2.2.2.1) 18 u.2.2.2.2.2.2.2.1) 19 u.2.2.2.2.2.2.2.2.1) 20 u.2.2.2.2.2.2.2.2.2.1) 27 u.2.2.2.2.2.2.2.2.2.2.1) 28 u.2.2.2.2.2.2.2.2.2.2.2.1) 30 u.2.2.2.2.2.2.2.2.2.2.2.2.1) 31 u.2.2.2.2.2.2.2.2.2.2.2.2.2.1) 32 u.2.2.2.2.2.2.2.2.2.2.2.2.2.2.1) 33 u.2.2.2.2.2.2.2.2.2.2.2.2.2.2.2) ++ X) t) (al n0)) args s 0 0 (al n0)) (F0 m 58 ls [.int z2, .ref (ad 9), .ref (ad 0)]) := by
  have hx := C.1
  have hb := C.2.1
  have hts := C.2.2.2.2.1
  intro a15 a16 a17 a20 l18 i20 z2 hw H locs ls w hl
  unfold wl_Mo_make_58 at hw
  refine ka_i (f := (S.1 9)) C w 9 rfl hw.1 d_Mo_make_58 ?_
  have hw := hw.2
  refine lv_topi (fun v1 ev1 => ?_)
  have hw := hw v1 ev1
  refine kp (C1 := R_Mo) (T := F_Mo) (N := 43) (ci := 10) (ty0 := t_Mo) (ref := "LineBreakerModel") (w2 := wM K ad (sI (sI (sL (sA (sA (sA (sA S 15 a15) 16 a16) 17 a17) 20 a20) 18 l18) 18 v1) 20 i20) ++ X) C w 0 18 iw_Mo tk_Mo n_Mo rfl rfl (by decide) kw_895 rfl rfl rfl rfl (Nat.le_of_ble_eq_true rfl) rfl d_Mo_make_59 (fun H locs w => ?_)
  refine lv_aload_n hx hb d_Mo_make_62 rfl (lv_at hl 0 rfl) ?_
  refine lv_aload_n hx hb d_Mo_make_63 rfl (lv_at hl 0 rfl) ?_
  refine kg (C1 := R_Mo) (T := F_Mo) (N := 43) (ci := 10) (ref := "LineBreakerModel") (v := .int (S.2.2 16)) C w 0 16 iw_Mo rfl rfl (by decide) kw_893 rfl rfl d_Mo_make_64 ?_
  refine lv_iconst (v := 3) hx hb d_Mo_make_67 (by decide) ?_
  refine lv_icmp_ne (tgt := 81) hx hb d_Mo_make_68 (by decide) (fun hc => ?_) (fun hc => ?_)
  · have hw := hw.1 hc
    refine lv_iconst (v := 0) hx hb d_Mo_make_81 (by decide) ?_
    refine kp (C1 := R_Mo) (T := F_Mo) (N := 43) (ci := 10) (ty0 := t_Mo) (ref := "LineBreakerModel") (w2 := wM K ad (sI (sI (sI (sL (sA (sA (sA (sA S 15 a15) 16 a16) 17 a17) 20 a20) 18 l18) 18 v1) 19 0) 20 i20) ++ X) C w 0 19 iw_Mo tk_Mo n_Mo rfl rfl (by decide) kw_896 rfl rfl rfl rfl (Nat.le_of_ble_eq_true rfl) rfl d_Mo_make_82 (fun H locs w => ?_)
    refine lv_iconst (v := 1) hx hb d_Mo_make_85 (by decide) ?_
    refine lv_istore_n (lv' := [(1, .int 1), (0, .ref (ad 0))]) hx hb d_Mo_make_86 rfl hl (by decide) rfl (fun ls hl => ?_)
    refine lv_iconst (v := 0) hx hb d_Mo_make_87 (by decide) ?_
    refine lv_istore_n (lv' := [(2, .int 0), (1, .int 1), (0, .ref (ad 0))]) hx hb d_Mo_make_88 rfl hl (by decide) rfl (fun ls hl => ?_)
    obtain ⟨n9, hw⟩ := hw
    exact w_Mo_make_89 C hr  n9 a15 a16 a17 (S.1 19) a20 (S.1 21) l18 v1 0 i20 (S.2.2 27) (S.2.2 28) (S.2.2 30) (S.2.2 31) (S.2.2 32) (S.2.2 33) 1 0 hw _ _ _ (wn_eq w rfl) (lv_sub hl [2, 1, 0] rfl)
  · have hw := hw.2 hc
    refine lv_aload_n hx hb d_Mo_make_71 rfl (lv_at hl 0 rfl) ?_
    refine kg (C1 := R_Mo) (T := F_Mo) (N := 43) (ci := 10) (ref := "LineBreakerModel") (v := .ref (ad 9)) C w 0 10 iw_Mo rfl rfl (by decide) kw_887 rfl rfl d_Mo_make_72 ?_
    refine lv_bipush (v := 8) hx hb d_Mo_make_75 (by decide) ?_
    refine ka_i (f := (S.1 9)) C w 9 rfl hw.1 d_Mo_make_77 ?_
    have hw := hw.2
    refine lv_goto (tgt := 82) hx hb d_Mo_make_78 (by decide) ?_
    refine lv_topi (fun v2 ev2 => ?_)
    have hw := hw v2 ev2
    refine kp (C1 := R_Mo) (T := F_Mo) (N := 43) (ci := 10) (ty0 := t_Mo) (ref := "LineBreakerModel") (w2 := wM K ad (sI (sI (sI (sL (sA (sA (sA (sA S 15 a15) 16 a16) 17 a17) 20 a20) 18 l18) 18 v1) 19 v2) 20 i20) ++ X) C w 0 19 iw_Mo tk_Mo n_Mo rfl rfl (by decide) kw_896 rfl rfl rfl rfl (Nat.le_of_ble_eq_true rfl) rfl d_Mo_make_82 (fun H locs w => ?_)
    refine lv_iconst (v := 1) hx hb d_Mo_make_85 (by decide) ?_
    refine lv_istore_n (lv' := [(1, .int 1), (0, .ref (ad 0))]) hx hb d_Mo_make_86 rfl hl (by decide) rfl (fun ls hl => ?_)
    refine lv_iconst (v := 0) hx hb d_Mo_make_87 (by decide) ?_
    refine lv_istore_n (lv' := [(2, .int 0), (1, .int 1), (0, .ref (ad 0))]) hx hb d_Mo_make_88 rfl hl (by decide) rfl (fun ls hl => ?_)
    obtain ⟨n9, hw⟩ := hw
    exact w_Mo_make_89 C hr  n9 a15 a16 a17 (S.1 19) a20 (S.1 21) l18 v1 v2 i20 (S.2.2 27) (S.2.2 28) (S.2.2 30) (S.2.2 31) (S.2.2 32) (S.2.2 33) 1 0 hw _ _ _ (wn_eq w rfl) (lv_sub hl [2, 1, 0] rfl)
set_option maxHeartbeats 4000000 in
set_option maxRecDepth 100000 in
theorem c_Mo_make (l : Launch) (n0 : Nat) (G : va_G) (K : KT) (ad : Nat → Nat) (X : va_W) (S : ST) (post : Int32 → (Nat → Int32) → (Nat → Int32) → (Nat → Int32) → (Nat → Int32) → (Nat → Int32) → (Nat → Int32) → (Nat → Int64) → Int32 → Int32 → Int32 → Int32 → Int32 → Int32 → Int32 → Int32 → Int32 → Prop) (hw : wp_Mo_make S  post) : Met l y_Mo_make (Cond.code y_Mo_make prog_12_method_35_code 3 (some .boolean) :: gw) rm_Mo_make (va_Pc [.ref (ad 0)] (wb n0 G K (wM K ad S ++ X))) (va_Qi (fun r (u : (Nat → Int32) × (Nat → Int32) × (Nat → Int32) × (Nat → Int32) × (Nat → Int32) × (Nat → Int32) × (Nat → Int64) × Int32 × Int32 × Int32 × Int32 × Int32 × Int32 × Int32 × Int32 × Int32) => post r u.1 u.2.1 u.2.2.1 u.2.2.2.1 u.2.2.2.2.1 u.2.2.2.2.2.1 u.2.2.2.2.2.2.1 u.2.2.2.2.2.2.2.1 u.2.2.2.2.2.2.2.2.1 u.2.2.2.2.2.2.2.2.2.1 u.2.2.2.2.2.2.2.2.2.2.1 u.2.2.2.2.2.2.2.2.2.2.2.1 u.2.2.2.2.2.2.2.2.2.2.2.2.1 u.2.2.2.2.2.2.2.2.2.2.2.2.2.1 u.2.2.2.2.2.2.2.2.2.2.2.2.2.2.1 u.2.2.2.2.2.2.2.2.2.2.2.2.2.2.2) (fun (u : (Nat → Int32) × (Nat → Int32) × (Nat → Int32) × (Nat → Int32) × (Nat → Int32) × (Nat → Int32) × (Nat → Int64) × Int32 × Int32 × Int32 × Int32 × Int32 × Int32 × Int32 × Int32 × Int32) t => we n0 G (wM K ad (sI (sI (sI (sI (sI (sI (sI (sI (sI (sL (sA (sA (sA (sA (sA (sA S 15 u.1) 16 u.2.1) 17 u.2.2.1) 19 u.2.2.2.1) 20 u.2.2.2.2.1) 21 u.2.2.2.2.2.1) 18 u.2.2.2.2.2.2.1) 18 u.2.2.2.2.2.2.2.1) 19 u.2.2.2.2.2.2.2.2.1) 20 u.2.2.2.2.2.2.2.2.2.1) 27 u.2.2.2.2.2.2.2.2.2.2.1) 28 u.2.2.2.2.2.2.2.2.2.2.2.1) 30 u.2.2.2.2.2.2.2.2.2.2.2.2.1) 31 u.2.2.2.2.2.2.2.2.2.2.2.2.2.1) 32 u.2.2.2.2.2.2.2.2.2.2.2.2.2.2.1) 33 u.2.2.2.2.2.2.2.2.2.2.2.2.2.2.2) ++ X) t) (al n0)) 0 0 (al n0) := by
  refine kb_start (own := "LineBreakerModel") (by decide +kernel) rfl ?_
  intro p e s m below meth c C hr hne w
  have hx := C.1
  have hb := C.2.1
  have hts := C.2.2.2.2.1
  have hl := lv_entry ([.ref (ad 0)]) (n := 3) (Nat.le_of_ble_eq_true rfl)
  rw [lg_entry_eq]
  generalize (lg_sl ([.ref (ad 0)]) ++ List.replicate (3 - (lg_sl ([.ref (ad 0)])).length) Slot.unset).toArray = ls at hl ⊢
  have hl : lv_has ls 3 [(0, .ref (ad 0))] := hl
  unfold wp_Mo_make at hw
  refine lv_aload_n hx hb d_Mo_make_0 rfl (lv_at hl 0 rfl) ?_
  refine lv_iconst (v := 0) hx hb d_Mo_make_1 (by decide) ?_
  refine kp (C1 := R_Mo) (T := F_Mo) (N := 43) (ci := 10) (ty0 := t_Mo) (ref := "LineBreakerModel") (w2 := wM K ad (sI S 20 0) ++ X) C w 0 20 iw_Mo tk_Mo n_Mo rfl rfl (by decide) kw_897 rfl rfl rfl rfl (Nat.le_of_ble_eq_true rfl) rfl d_Mo_make_2 (fun H locs w => ?_)
  refine lv_aload_n hx hb d_Mo_make_5 rfl (lv_at hl 0 rfl) ?_
  refine kg (C1 := R_Mo) (T := F_Mo) (N := 43) (ci := 10) (ref := "LineBreakerModel") (v := .ref (ad 15)) C w 0 21 iw_Mo rfl rfl (by decide) kw_898 rfl rfl d_Mo_make_6 ?_
  refine lv_iconst (v := 0) hx hb d_Mo_make_9 (by decide) ?_
  refine lv_iconst (v := (-1)) hx hb d_Mo_make_10 (by decide) ?_
  obtain ⟨f1, ef1⟩ : ∃ z : Nat → Int32, z = upd (S.1 15) ((0 : Int32).toNatClampNeg) (-1) := ⟨_, rfl⟩
  refine ks_i (f := (S.1 15)) (w2 := wM K ad (sI (sA S 15 f1) 20 0) ++ X) C w 15 rfl hw.1 (by rw [← ef1]; rfl) d_Mo_make_11 (fun H locs w => ?_)
  have hw := hw.2 f1 ef1
  refine lv_aload_n hx hb d_Mo_make_12 rfl (lv_at hl 0 rfl) ?_
  refine kg (C1 := R_Mo) (T := F_Mo) (N := 43) (ci := 10) (ref := "LineBreakerModel") (v := .ref (ad 16)) C w 0 22 iw_Mo rfl rfl (by decide) kw_899 rfl rfl d_Mo_make_13 ?_
  refine lv_iconst (v := 0) hx hb d_Mo_make_16 (by decide) ?_
  refine lv_iconst (v := 0) hx hb d_Mo_make_17 (by decide) ?_
  obtain ⟨f2, ef2⟩ : ∃ z : Nat → Int32, z = upd (S.1 16) ((0 : Int32).toNatClampNeg) 0 := ⟨_, rfl⟩
  refine ks_i (f := (S.1 16)) (w2 := wM K ad (sI (sA (sA S 15 f1) 16 f2) 20 0) ++ X) C w 16 rfl hw.1 (by rw [← ef2]; rfl) d_Mo_make_18 (fun H locs w => ?_)
  have hw := hw.2 f2 ef2
  refine lv_aload_n hx hb d_Mo_make_19 rfl (lv_at hl 0 rfl) ?_
  refine kg (C1 := R_Mo) (T := F_Mo) (N := 43) (ci := 10) (ref := "LineBreakerModel") (v := .ref (ad 17)) C w 0 23 iw_Mo rfl rfl (by decide) kw_900 rfl rfl d_Mo_make_20 ?_
  refine lv_iconst (v := 0) hx hb d_Mo_make_23 (by decide) ?_
  refine lv_iconst (v := 2) hx hb d_Mo_make_24 (by decide) ?_
  obtain ⟨f3, ef3⟩ : ∃ z : Nat → Int32, z = upd (S.1 17) ((0 : Int32).toNatClampNeg) 2 := ⟨_, rfl⟩
  refine ks_i (f := (S.1 17)) (w2 := wM K ad (sI (sA (sA (sA S 15 f1) 16 f2) 17 f3) 20 0) ++ X) C w 17 rfl hw.1 (by rw [← ef3]; rfl) d_Mo_make_25 (fun H locs w => ?_)
  have hw := hw.2 f3 ef3
  refine lv_aload_n hx hb d_Mo_make_26 rfl (lv_at hl 0 rfl) ?_
  refine kg (C1 := R_Mo) (T := F_Mo) (N := 43) (ci := 10) (ref := "LineBreakerModel") (v := .ref (ad 18)) C w 0 24 iw_Mo rfl rfl (by decide) kw_901 rfl rfl d_Mo_make_27 ?_
  refine lv_iconst (v := 0) hx hb d_Mo_make_30 (by decide) ?_
  refine lv_lconst (v := 0) hx hb d_Mo_make_31 (by decide) ?_
  obtain ⟨f4, ef4⟩ : ∃ z : Nat → Int64, z = vp_updL (S.2.1 18) ((0 : Int32).toNatClampNeg) 0 := ⟨_, rfl⟩
  refine ks_l (f := (S.2.1 18)) (w2 := wM K ad (sI (sL (sA (sA (sA S 15 f1) 16 f2) 17 f3) 18 f4) 20 0) ++ X) C w 18 rfl hw.1 (by rw [← ef4]; rfl) d_Mo_make_32 (fun H locs w => ?_)
  have hw := hw.2 f4 ef4
  refine lv_aload_n hx hb d_Mo_make_33 rfl (lv_at hl 0 rfl) ?_
  refine kg (C1 := R_Mo) (T := F_Mo) (N := 43) (ci := 10) (ref := "LineBreakerModel") (v := .ref (ad 20)) C w 0 26 iw_Mo rfl rfl (by decide) kw_903 rfl rfl d_Mo_make_34 ?_
  refine lv_iconst (v := 0) hx hb d_Mo_make_37 (by decide) ?_
  refine lv_iconst (v := 0) hx hb d_Mo_make_38 (by decide) ?_
  obtain ⟨f5, ef5⟩ : ∃ z : Nat → Int32, z = upd (S.1 20) ((0 : Int32).toNatClampNeg) (vp_nar .boolean 0) := ⟨_, rfl⟩
  refine ks_z (f := (S.1 20)) (w2 := wM K ad (sI (sL (sA (sA (sA (sA S 15 f1) 16 f2) 17 f3) 20 f5) 18 f4) 20 0) ++ X) C w 20 rfl hw.1 (by rw [← ef5]; rfl) d_Mo_make_39 (fun H locs w => ?_)
  have hw := hw.2 f5 ef5
  refine lv_aload_n hx hb d_Mo_make_40 rfl (lv_at hl 0 rfl) ?_
  refine lv_aload_n hx hb d_Mo_make_41 rfl (lv_at hl 0 rfl) ?_
  refine kg (C1 := R_Mo) (T := F_Mo) (N := 43) (ci := 10) (ref := "LineBreakerModel") (v := .ref (ad 9)) C w 0 10 iw_Mo rfl rfl (by decide) kw_887 rfl rfl d_Mo_make_42 ?_
  refine lv_aload_n hx hb d_Mo_make_45 rfl (lv_at hl 0 rfl) ?_
  refine kg (C1 := R_Mo) (T := F_Mo) (N := 43) (ci := 10) (ref := "LineBreakerModel") (v := .int (S.2.2 16)) C w 0 16 iw_Mo rfl rfl (by decide) kw_893 rfl rfl d_Mo_make_46 ?_
  refine lv_iconst (v := 1) hx hb d_Mo_make_49 (by decide) ?_
  refine lv_icmp_ne (tgt := 57) hx hb d_Mo_make_50 (by decide) (fun hc => ?_) (fun hc => ?_)
  · have hw := hw.1 hc
    refine lv_iconst (v := 1) hx hb d_Mo_make_57 (by decide) ?_
    exact w_Mo_make_58 C hr  f1 f2 f3 f5 f4 0 1 hw _ _ _ (wn_eq w rfl) (lv_sub hl [0] rfl)
  · have hw := hw.2 hc
    refine lv_iconst (v := 0) hx hb d_Mo_make_53 (by decide) ?_
    refine lv_goto (tgt := 58) hx hb d_Mo_make_54 (by decide) ?_
    exact w_Mo_make_58 C hr  f1 f2 f3 f5 f4 0 0 hw _ _ _ (wn_eq w rfl) (lv_sub hl [0] rfl)
set_option maxHeartbeats 4000000 in
set_option maxRecDepth 100000 in
theorem c_Mo_isLess (l : Launch) (n0 : Nat) (G : va_G) (K : KT) (ad : Nat → Nat) (X : va_W) (S : ST) (p1 : Int32) (p2 : Int32) (post : Int32 → Prop) (hw : wp_Mo_isLess S p1 p2 post) : Met l y_Mo_isLess (Cond.code y_Mo_isLess prog_12_method_36_code 3 (some .boolean) :: gw) rm_Mo_isLess (va_Pc [.ref (ad 0), .int p1, .int p2] (wb n0 G K (wM K ad S ++ X))) (rq_i post) 0 0 (fun _ => False) := by
  refine kb_start (own := "LineBreakerModel") (by decide +kernel) rfl ?_
  intro p e s m below meth c C hr hne w
  have hx := C.1
  have hb := C.2.1
  have hts := C.2.2.2.2.1
  have hl := lv_entry ([.ref (ad 0), .int p1, .int p2]) (n := 3) (Nat.le_of_ble_eq_true rfl)
  rw [lg_entry_eq]
  generalize (lg_sl ([.ref (ad 0), .int p1, .int p2]) ++ List.replicate (3 - (lg_sl ([.ref (ad 0), .int p1, .int p2])).length) Slot.unset).toArray = ls at hl ⊢
  have hl : lv_has ls 3 [(0, .ref (ad 0)), (1, .int p1), (2, .int p2)] := hl
  unfold wp_Mo_isLess at hw
  refine lv_aload_n hx hb d_Mo_isLess_0 rfl (lv_at hl 0 rfl) ?_
  refine kg (C1 := R_Mo) (T := F_Mo) (N := 43) (ci := 10) (ref := "LineBreakerModel") (v := .ref (ad 18)) C w 0 24 iw_Mo rfl rfl (by decide) kw_901 rfl rfl d_Mo_isLess_1 ?_
  refine lv_iload_n hx hb d_Mo_isLess_4 rfl (lv_at hl 1 rfl) ?_
  refine ka_l (f := (S.2.1 18)) C w 18 rfl hw.1 d_Mo_isLess_5 ?_
  have hw := hw.2
  refine lv_aload_n hx hb d_Mo_isLess_6 rfl (lv_at hl 0 rfl) ?_
  refine kg (C1 := R_Mo) (T := F_Mo) (N := 43) (ci := 10) (ref := "LineBreakerModel") (v := .ref (ad 18)) C w 0 24 iw_Mo rfl rfl (by decide) kw_901 rfl rfl d_Mo_isLess_7 ?_
  refine lv_iload_n hx hb d_Mo_isLess_10 rfl (lv_at hl 2 rfl) ?_
  refine ka_l (f := (S.2.1 18)) C w 18 rfl hw.1 d_Mo_isLess_11 ?_
  have hw := hw.2
  refine W.lcmp hx hb d_Mo_isLess_12 ?_
  refine lv_if_eq (tgt := 38) hx hb d_Mo_isLess_13 (by decide) (fun hc => ?_) (fun hc => ?_)
  · have hw := hw.1 hc
    refine lv_aload_n hx hb d_Mo_isLess_38 rfl (lv_at hl 0 rfl) ?_
    refine kg (C1 := R_Mo) (T := F_Mo) (N := 43) (ci := 10) (ref := "LineBreakerModel") (v := .ref (ad 16)) C w 0 22 iw_Mo rfl rfl (by decide) kw_899 rfl rfl d_Mo_isLess_39 ?_
    refine lv_iload_n hx hb d_Mo_isLess_42 rfl (lv_at hl 1 rfl) ?_
    refine ka_i (f := (S.1 16)) C w 16 rfl hw.1 d_Mo_isLess_43 ?_
    have hw := hw.2
    refine lv_aload_n hx hb d_Mo_isLess_44 rfl (lv_at hl 0 rfl) ?_
    refine kg (C1 := R_Mo) (T := F_Mo) (N := 43) (ci := 10) (ref := "LineBreakerModel") (v := .ref (ad 16)) C w 0 22 iw_Mo rfl rfl (by decide) kw_899 rfl rfl d_Mo_isLess_45 ?_
    refine lv_iload_n hx hb d_Mo_isLess_48 rfl (lv_at hl 2 rfl) ?_
    refine ka_i (f := (S.1 16)) C w 16 rfl hw.1 d_Mo_isLess_49 ?_
    have hw := hw.2
    refine lv_icmp_lt (tgt := 83) hx hb d_Mo_isLess_50 (by decide) (fun hc => ?_) (fun hc => ?_)
    · have hw := hw.1 hc
      refine lv_iconst (v := 1) hx hb d_Mo_isLess_83 (by decide) ?_
      refine lv_goto (tgt := 88) hx hb d_Mo_isLess_84 (by decide) ?_
      exact kf_z C hr d_Mo_isLess_88 (Or.inr rfl) hw
    · have hw := hw.2 hc
      refine lv_aload_n hx hb d_Mo_isLess_53 rfl (lv_at hl 0 rfl) ?_
      refine kg (C1 := R_Mo) (T := F_Mo) (N := 43) (ci := 10) (ref := "LineBreakerModel") (v := .ref (ad 16)) C w 0 22 iw_Mo rfl rfl (by decide) kw_899 rfl rfl d_Mo_isLess_54 ?_
      refine lv_iload_n hx hb d_Mo_isLess_57 rfl (lv_at hl 1 rfl) ?_
      refine ka_i (f := (S.1 16)) C w 16 rfl hw.1 d_Mo_isLess_58 ?_
      have hw := hw.2
      refine lv_aload_n hx hb d_Mo_isLess_59 rfl (lv_at hl 0 rfl) ?_
      refine kg (C1 := R_Mo) (T := F_Mo) (N := 43) (ci := 10) (ref := "LineBreakerModel") (v := .ref (ad 16)) C w 0 22 iw_Mo rfl rfl (by decide) kw_899 rfl rfl d_Mo_isLess_60 ?_
      refine lv_iload_n hx hb d_Mo_isLess_63 rfl (lv_at hl 2 rfl) ?_
      refine ka_i (f := (S.1 16)) C w 16 rfl hw.1 d_Mo_isLess_64 ?_
      have hw := hw.2
      refine lv_icmp_ne (tgt := 87) hx hb d_Mo_isLess_65 (by decide) (fun hc => ?_) (fun hc => ?_)
      · have hw := hw.1 hc
        refine lv_iconst (v := 0) hx hb d_Mo_isLess_87 (by decide) ?_
        exact kf_z C hr d_Mo_isLess_88 (Or.inl rfl) hw
      · have hw := hw.2 hc
        refine lv_aload_n hx hb d_Mo_isLess_68 rfl (lv_at hl 0 rfl) ?_
        refine kg (C1 := R_Mo) (T := F_Mo) (N := 43) (ci := 10) (ref := "LineBreakerModel") (v := .ref (ad 17)) C w 0 23 iw_Mo rfl rfl (by decide) kw_900 rfl rfl d_Mo_isLess_69 ?_
        refine lv_iload_n hx hb d_Mo_isLess_72 rfl (lv_at hl 1 rfl) ?_
        refine ka_i (f := (S.1 17)) C w 17 rfl hw.1 d_Mo_isLess_73 ?_
        have hw := hw.2
        refine lv_aload_n hx hb d_Mo_isLess_74 rfl (lv_at hl 0 rfl) ?_
        refine kg (C1 := R_Mo) (T := F_Mo) (N := 43) (ci := 10) (ref := "LineBreakerModel") (v := .ref (ad 17)) C w 0 23 iw_Mo rfl rfl (by decide) kw_900 rfl rfl d_Mo_isLess_75 ?_
        refine lv_iload_n hx hb d_Mo_isLess_78 rfl (lv_at hl 2 rfl) ?_
        refine ka_i (f := (S.1 17)) C w 17 rfl hw.1 d_Mo_isLess_79 ?_
        have hw := hw.2
        refine lv_icmp_ge (tgt := 87) hx hb d_Mo_isLess_80 (by decide) (fun hc => ?_) (fun hc => ?_)
        · have hw := hw.1 hc
          refine lv_iconst (v := 0) hx hb d_Mo_isLess_87 (by decide) ?_
          exact kf_z C hr d_Mo_isLess_88 (Or.inl rfl) hw
        · have hw := hw.2 hc
          refine lv_iconst (v := 1) hx hb d_Mo_isLess_83 (by decide) ?_
          refine lv_goto (tgt := 88) hx hb d_Mo_isLess_84 (by decide) ?_
          exact kf_z C hr d_Mo_isLess_88 (Or.inr rfl) hw
  · have hw := hw.2 hc
    refine lv_aload_n hx hb d_Mo_isLess_16 rfl (lv_at hl 0 rfl) ?_
    refine kg (C1 := R_Mo) (T := F_Mo) (N := 43) (ci := 10) (ref := "LineBreakerModel") (v := .ref (ad 18)) C w 0 24 iw_Mo rfl rfl (by decide) kw_901 rfl rfl d_Mo_isLess_17 ?_
    refine lv_iload_n hx hb d_Mo_isLess_20 rfl (lv_at hl 1 rfl) ?_
    refine ka_l (f := (S.2.1 18)) C w 18 rfl hw.1 d_Mo_isLess_21 ?_
    have hw := hw.2
    refine lv_aload_n hx hb d_Mo_isLess_22 rfl (lv_at hl 0 rfl) ?_
    refine kg (C1 := R_Mo) (T := F_Mo) (N := 43) (ci := 10) (ref := "LineBreakerModel") (v := .ref (ad 18)) C w 0 24 iw_Mo rfl rfl (by decide) kw_901 rfl rfl d_Mo_isLess_23 ?_
    refine lv_iload_n hx hb d_Mo_isLess_26 rfl (lv_at hl 2 rfl) ?_
    refine ka_l (f := (S.2.1 18)) C w 18 rfl hw.1 d_Mo_isLess_27 ?_
    have hw := hw.2
    refine W.lcmp hx hb d_Mo_isLess_28 ?_
    refine lv_if_ge (tgt := 36) hx hb d_Mo_isLess_29 (by decide) (fun hc => ?_) (fun hc => ?_)
    · have hw := hw.1 hc
      refine lv_iconst (v := 0) hx hb d_Mo_isLess_36 (by decide) ?_
      exact kf_z C hr d_Mo_isLess_37 (Or.inl rfl) hw
    · have hw := hw.2 hc
      refine lv_iconst (v := 1) hx hb d_Mo_isLess_32 (by decide) ?_
      refine lv_goto (tgt := 37) hx hb d_Mo_isLess_33 (by decide) ?_
      exact kf_z C hr d_Mo_isLess_37 (Or.inr rfl) hw
set_option maxHeartbeats 4000000 in
set_option maxRecDepth 100000 in
theorem c_Mo_apart (l : Launch) (n0 : Nat) (G : va_G) (K : KT) (ad : Nat → Nat) (X : va_W) (S : ST) (p1 : Int32) (p2 : Int32) (post : Int32 → Prop) (hw : wp_Mo_apart S p1 p2 post) : Met l y_Mo_apart (Cond.code y_Mo_apart prog_12_method_37_code 2 (some .int) :: gw) rm_Mo_apart (va_Pc [.int p1, .int p2] (wb n0 G K (wM K ad S ++ X))) (rq_i post) 0 0 (fun _ => False) := by
  refine kb_start (own := "LineBreakerModel") (by decide +kernel) rfl ?_
  intro p e s m below meth c C hr hne w
  have hx := C.1
  have hb := C.2.1
  have hts := C.2.2.2.2.1
  have hl := lv_entry ([.int p1, .int p2]) (n := 2) (Nat.le_of_ble_eq_true rfl)
  rw [lg_entry_eq]
  generalize (lg_sl ([.int p1, .int p2]) ++ List.replicate (2 - (lg_sl ([.int p1, .int p2])).length) Slot.unset).toArray = ls at hl ⊢
  have hl : lv_has ls 2 [(0, .int p1), (1, .int p2)] := hl
  unfold wp_Mo_apart at hw
  refine lv_iload_n hx hb d_Mo_apart_0 rfl (lv_at hl 0 rfl) ?_
  refine lv_iload_n hx hb d_Mo_apart_1 rfl (lv_at hl 1 rfl) ?_
  refine lv_icmp_le (tgt := 11) hx hb d_Mo_apart_2 (by decide) (fun hc => ?_) (fun hc => ?_)
  · have hw := hw.1 hc
    refine lv_iload_n hx hb d_Mo_apart_11 rfl (lv_at hl 1 rfl) ?_
    refine lv_iload_n hx hb d_Mo_apart_12 rfl (lv_at hl 0 rfl) ?_
    refine lv_isub hx hb d_Mo_apart_13 ?_
    exact kf_i C hr d_Mo_apart_14 hw
  · have hw := hw.2 hc
    refine lv_iload_n hx hb d_Mo_apart_5 rfl (lv_at hl 0 rfl) ?_
    refine lv_iload_n hx hb d_Mo_apart_6 rfl (lv_at hl 1 rfl) ?_
    refine lv_isub hx hb d_Mo_apart_7 ?_
    refine lv_goto (tgt := 14) hx hb d_Mo_apart_8 (by decide) ?_
    exact kf_i C hr d_Mo_apart_14 hw
set_option maxHeartbeats 4000000 in
set_option maxRecDepth 100000 in
theorem w_Mo_choose_253 {S : ST} {post : Int32 → Prop} (C : cx p s m args meth c prog_12_method_38_code 8 "LineBreakerModel" n0 G K) (hr : meth.sig.returnType = (some .int)) : ∀ (x2 : Int32) (x3 : Int32) (z0 : Int32), wl_Mo_choose_253 S post x2 x3 z0 → ∀ (ls : Array Slot), wn n0 G (wM K ad S ++ X) s s.heap [] → lv_has ls 8 [(0, .ref (ad 0)), (2, .int x2), (3, .int x3)] → W p l e rm_Mo_choose s m args below meth c s.heap [] 0 0 (MQ below (rq_i post) args s 0 0 (fun _ => False)) (F0 m 253 ls [.int z0]) := by
  have hx := C.1
  have hb := C.2.1
  have hts := C.2.2.2.2.1
  intro x2 x3 z0 hw ls w hl
  unfold wl_Mo_choose_253 at hw
  refine lv_istore (lv' := [(4, .int z0), (0, .ref (ad 0)), (2, .int x2), (3, .int x3)]) hx hb d_Mo_choose_253 hl (by decide) rfl (fun ls hl => ?_)
  refine lv_iload hx hb d_Mo_choose_255 (lv_at hl 0 rfl) ?_
  refine lv_if_ne (tgt := 274) hx hb d_Mo_choose_257 (by decide) (fun hc => ?_) (fun hc => ?_)
  · have hw := hw.1 hc
    refine lv_iload_n hx hb d_Mo_choose_274 rfl (lv_at hl 3 rfl) ?_
    exact kf_i C hr d_Mo_choose_275 hw
  · have hw := hw.2 hc
    refine lv_aload_n hx hb d_Mo_choose_260 rfl (lv_at hl 1 rfl) ?_
    refine kg (C1 := R_Mo) (T := F_Mo) (N := 43) (ci := 10) (ref := "LineBreakerModel") (v := .ref (ad 16)) C w 0 22 iw_Mo rfl rfl (by decide) kw_899 rfl rfl d_Mo_choose_261 ?_
    refine lv_iload_n hx hb d_Mo_choose_264 rfl (lv_at hl 3 rfl) ?_
    refine ka_i (f := (S.1 16)) C w 16 rfl hw.1 d_Mo_choose_265 ?_
    have hw := hw.2
    refine lv_iload_n hx hb d_Mo_choose_266 rfl (lv_at hl 2 rfl) ?_
    refine lv_icmp_eq (tgt := 274) hx hb d_Mo_choose_267 (by decide) (fun hc => ?_) (fun hc => ?_)
    · have hw := hw.1 hc
      refine lv_iload_n hx hb d_Mo_choose_274 rfl (lv_at hl 3 rfl) ?_
      exact kf_i C hr d_Mo_choose_275 hw
    · have hw := hw.2 hc
      refine lv_iconst (v := (-1)) hx hb d_Mo_choose_270 (by decide) ?_
      refine lv_goto (tgt := 275) hx hb d_Mo_choose_271 (by decide) ?_
      exact kf_i C hr d_Mo_choose_275 hw
set_option maxHeartbeats 4000000 in
set_option maxRecDepth 100000 in
theorem w_Mo_choose_245 {S : ST} {post : Int32 → Prop} (C : cx p s m args meth c prog_12_method_38_code 8 "LineBreakerModel" n0 G K) (hr : meth.sig.returnType = (some .int)) : ∀ (x2 : Int32) (x3 : Int32) (z0 : Int32) (z1 : Int32), wl_Mo_choose_245 S post x2 x3 z0 z1 → ∀ (ls : Array Slot), wn n0 G (wM K ad S ++ X) s s.heap [] → lv_has ls 8 [(0, .ref (ad 0)), (2, .int x2), (3, .int x3)] → W p l e rm_Mo_choose s m args below meth c s.heap [] 0 0 (MQ below (rq_i post) args s 0 0 (fun _ => False)) (F0 m 245 ls [.int z1, .int z0]) := by
  have hx := C.1
  have hb := C.2.1
  have hts := C.2.2.2.2.1
  intro x2 x3 z0 z1 hw ls w hl
  unfold wl_Mo_choose_245 at hw
  refine lv_icmp_ne (tgt := 252) hx hb d_Mo_choose_245 (by decide) (fun hc => ?_) (fun hc => ?_)
  · have hw := hw.1 hc
    refine lv_iconst (v := 0) hx hb d_Mo_choose_252 (by decide) ?_
    exact w_Mo_choose_253 C hr  x2 x3 0 hw _ w (lv_sub hl [0, 1, 2] rfl)
  · have hw := hw.2 hc
    refine lv_iconst (v := 1) hx hb d_Mo_choose_248 (by decide) ?_
    refine lv_goto (tgt := 253) hx hb d_Mo_choose_249 (by decide) ?_
    exact w_Mo_choose_253 C hr  x2 x3 1 hw _ w (lv_sub hl [0, 1, 2] rfl)
set_option maxHeartbeats 4000000 in
set_option maxRecDepth 100000 in
theorem w_Mo_choose_141 {S : ST} {post : Int32 → Prop} (C : cx p s m args meth c prog_12_method_38_code 8 "LineBreakerModel" n0 G K) (hr : meth.sig.returnType = (some .int)) {K86 : Int32 → Int32 → Int32 → Int32 → Prop} (hk86 : ∀ (x1 : Int32) (x2 : Int32) (x3 : Int32) (x4 : Int32), K86 x1 x2 x3 x4 → ∀ (ls : Array Slot), wn n0 G (wM K ad S ++ X) s s.heap [] → lv_has ls 8 [(0, .ref (ad 0)), (1, .int x1), (2, .int x2), (3, .int x3), (4, .int x4)] → W p l e rm_Mo_choose s m args below meth c s.heap [] 0 0 (MQ below (rq_i post) args s 0 0 (fun _ => False)) (F0 m 86 ls [])) : ∀ (x1 : Int32) (x2 : Int32) (x3 : Int32) (x4 : Int32) (z0 : Int32), wl_Mo_choose_141 S post K86 x1 x2 x3 x4 z0 → ∀ (ls : Array Slot), wn n0 G (wM K ad S ++ X) s s.heap [] → lv_has ls 8 [(0, .ref (ad 0)), (1, .int x1), (2, .int x2), (3, .int x3), (4, .int x4)] → W p l e rm_Mo_choose s m args below meth c s.heap [] 0 0 (MQ below (rq_i post) args s 0 0 (fun _ => False)) (F0 m 141 ls [.int z0]) := by
  have hx := C.1
  have hb := C.2.1
  have hts := C.2.2.2.2.1
  intro x1 x2 x3 x4 z0 hw ls w hl
  unfold wl_Mo_choose_141 at hw
  refine lv_istore (lv' := [(5, .int z0), (0, .ref (ad 0)), (1, .int x1), (2, .int x2), (3, .int x3), (4, .int x4)]) hx hb d_Mo_choose_141 hl (by decide) rfl (fun ls hl => ?_)
  refine lv_iload hx hb d_Mo_choose_143 (lv_at hl 0 rfl) ?_
  refine lv_if_eq (tgt := 220) hx hb d_Mo_choose_145 (by decide) (fun hc => ?_) (fun hc => ?_)
  · have hw := hw.1 hc
    obtain ⟨v1, ev1⟩ : ∃ y : Int32, y = x4 + 1 := ⟨_, rfl⟩
    refine lv_iinc (v := v1) (lv' := [(4, .int v1), (5, .int z0), (0, .ref (ad 0)), (1, .int x1), (2, .int x2), (3, .int x3)]) hx hb d_Mo_choose_220 hl (k := 5) rfl (by rw [ev1]; rfl) (by decide) rfl (fun ls hl => ?_)
    have hw := hw v1 ev1
    refine lv_goto (tgt := 86) hx hb d_Mo_choose_223 (by decide) ?_
    exact hk86 x1 x2 x3 v1 hw _ w (lv_sub hl [2, 3, 4, 5, 0] rfl)
  · have hw := hw.2 hc
    refine lv_aload_n hx hb d_Mo_choose_148 rfl (lv_at hl 1 rfl) ?_
    refine kg (C1 := R_Mo) (T := F_Mo) (N := 43) (ci := 10) (ref := "LineBreakerModel") (v := .ref (ad 16)) C w 0 22 iw_Mo rfl rfl (by decide) kw_899 rfl rfl d_Mo_choose_149 ?_
    refine lv_iload hx hb d_Mo_choose_152 (lv_at hl 5 rfl) ?_
    refine ka_i (f := (S.1 16)) C w 16 rfl hw.1 d_Mo_choose_154 ?_
    have hw := hw.2
    refine lv_iload_n hx hb d_Mo_choose_155 rfl (lv_at hl 3 rfl) ?_
    refine kd_i (kr_S (y := y_Mo_apart) (As := [.int ((S.1 16) x4.toNatClampNeg), .int x2]) (n := 2) C w (c_Mo_apart l n0 G K ad X S ((S.1 16) x4.toNatClampNeg) x2 _ hw) (gw_S kw_1170 kw_1171 kw_11 kw_1172) (by decide +kernel) rfl rfl ⟨Nat.le_of_ble_eq_true rfl, Nat.le_of_ble_eq_true rfl⟩ rfl hl.1 rfl (Nat.le_of_ble_eq_true rfl) d_Mo_choose_156 ⟨Nat.le_of_ble_eq_true rfl, Nat.le_of_ble_eq_true rfl⟩) (fun r2 hw => ?_)
    refine lv_istore (lv' := [(6, .int r2), (5, .int z0), (0, .ref (ad 0)), (1, .int x1), (2, .int x2), (3, .int x3), (4, .int x4)]) hx hb d_Mo_choose_159 hl (by decide) rfl (fun ls hl => ?_)
    refine lv_aload_n hx hb d_Mo_choose_161 rfl (lv_at hl 2 rfl) ?_
    refine kg (C1 := R_Mo) (T := F_Mo) (N := 43) (ci := 10) (ref := "LineBreakerModel") (v := .ref (ad 16)) C w 0 22 iw_Mo rfl rfl (by decide) kw_899 rfl rfl d_Mo_choose_162 ?_
    refine lv_iload_n hx hb d_Mo_choose_165 rfl (lv_at hl 5 rfl) ?_
    refine ka_i (f := (S.1 16)) C w 16 rfl hw.1 d_Mo_choose_166 ?_
    have hw := hw.2
    refine lv_iload_n hx hb d_Mo_choose_167 rfl (lv_at hl 4 rfl) ?_
    refine kd_i (kr_S (y := y_Mo_apart) (As := [.int ((S.1 16) x3.toNatClampNeg), .int x2]) (n := 2) C w (c_Mo_apart l n0 G K ad X S ((S.1 16) x3.toNatClampNeg) x2 _ hw) (gw_S kw_1170 kw_1171 kw_11 kw_1172) (by decide +kernel) rfl rfl ⟨Nat.le_of_ble_eq_true rfl, Nat.le_of_ble_eq_true rfl⟩ rfl hl.1 rfl (Nat.le_of_ble_eq_true rfl) d_Mo_choose_168 ⟨Nat.le_of_ble_eq_true rfl, Nat.le_of_ble_eq_true rfl⟩) (fun r3 hw => ?_)
    refine lv_istore (lv' := [(7, .int r3), (6, .int r2), (5, .int z0), (0, .ref (ad 0)), (1, .int x1), (2, .int x2), (3, .int x3), (4, .int x4)]) hx hb d_Mo_choose_171 hl (by decide) rfl (fun ls hl => ?_)
    refine lv_iload hx hb d_Mo_choose_173 (lv_at hl 1 rfl) ?_
    refine lv_iload hx hb d_Mo_choose_175 (lv_at hl 0 rfl) ?_
    refine lv_icmp_lt (tgt := 213) hx hb d_Mo_choose_177 (by decide) (fun hc => ?_) (fun hc => ?_)
    · have hw := hw.1 hc
      refine lv_iload hx hb d_Mo_choose_213 (lv_at hl 7 rfl) ?_
      refine lv_goto (tgt := 219) hx hb d_Mo_choose_215 (by decide) ?_
      refine lv_istore_n (lv' := [(3, .int x4), (7, .int r3), (6, .int r2), (5, .int z0), (0, .ref (ad 0)), (1, .int x1), (2, .int x2), (4, .int x4)]) hx hb d_Mo_choose_219 rfl hl (by decide) rfl (fun ls hl => ?_)
      obtain ⟨v4, ev4⟩ : ∃ y : Int32, y = x4 + 1 := ⟨_, rfl⟩
      refine lv_iinc (v := v4) (lv' := [(4, .int v4), (3, .int x4), (7, .int r3), (6, .int r2), (5, .int z0), (0, .ref (ad 0)), (1, .int x1), (2, .int x2)]) hx hb d_Mo_choose_220 hl (k := 7) rfl (by rw [ev4]; rfl) (by decide) rfl (fun ls hl => ?_)
      have hw := hw v4 ev4
      refine lv_goto (tgt := 86) hx hb d_Mo_choose_223 (by decide) ?_
      exact hk86 x1 x2 x4 v4 hw _ w (lv_sub hl [5, 6, 7, 1, 0] rfl)
    · have hw := hw.2 hc
      refine lv_iload hx hb d_Mo_choose_180 (lv_at hl 1 rfl) ?_
      refine lv_iload hx hb d_Mo_choose_182 (lv_at hl 0 rfl) ?_
      refine lv_icmp_ne (tgt := 218) hx hb d_Mo_choose_184 (by decide) (fun hc => ?_) (fun hc => ?_)
      · have hw := hw.1 hc
        refine lv_iload_n hx hb d_Mo_choose_218 rfl (lv_at hl 6 rfl) ?_
        refine lv_istore_n (lv' := [(3, .int x3), (7, .int r3), (6, .int r2), (5, .int z0), (0, .ref (ad 0)), (1, .int x1), (2, .int x2), (4, .int x4)]) hx hb d_Mo_choose_219 rfl hl (by decide) rfl (fun ls hl => ?_)
        obtain ⟨v5, ev5⟩ : ∃ y : Int32, y = x4 + 1 := ⟨_, rfl⟩
        refine lv_iinc (v := v5) (lv' := [(4, .int v5), (3, .int x3), (7, .int r3), (6, .int r2), (5, .int z0), (0, .ref (ad 0)), (1, .int x1), (2, .int x2)]) hx hb d_Mo_choose_220 hl (k := 7) rfl (by rw [ev5]; rfl) (by decide) rfl (fun ls hl => ?_)
        have hw := hw v5 ev5
        refine lv_goto (tgt := 86) hx hb d_Mo_choose_223 (by decide) ?_
        exact hk86 x1 x2 x3 v5 hw _ w (lv_sub hl [5, 6, 7, 1, 0] rfl)
      · have hw := hw.2 hc
        refine lv_aload_n hx hb d_Mo_choose_187 rfl (lv_at hl 3 rfl) ?_
        refine kg (C1 := R_Mo) (T := F_Mo) (N := 43) (ci := 10) (ref := "LineBreakerModel") (v := .ref (ad 16)) C w 0 22 iw_Mo rfl rfl (by decide) kw_899 rfl rfl d_Mo_choose_188 ?_
        refine lv_iload hx hb d_Mo_choose_191 (lv_at hl 7 rfl) ?_
        refine ka_i (f := (S.1 16)) C w 16 rfl hw.1 d_Mo_choose_193 ?_
        have hw := hw.2
        refine lv_aload_n hx hb d_Mo_choose_194 rfl (lv_at hl 3 rfl) ?_
        refine kg (C1 := R_Mo) (T := F_Mo) (N := 43) (ci := 10) (ref := "LineBreakerModel") (v := .ref (ad 16)) C w 0 22 iw_Mo rfl rfl (by decide) kw_899 rfl rfl d_Mo_choose_195 ?_
        refine lv_iload_n hx hb d_Mo_choose_198 rfl (lv_at hl 6 rfl) ?_
        refine ka_i (f := (S.1 16)) C w 16 rfl hw.1 d_Mo_choose_199 ?_
        have hw := hw.2
        refine lv_icmp_ne (tgt := 218) hx hb d_Mo_choose_200 (by decide) (fun hc => ?_) (fun hc => ?_)
        · have hw := hw.1 hc
          refine lv_iload_n hx hb d_Mo_choose_218 rfl (lv_at hl 6 rfl) ?_
          refine lv_istore_n (lv' := [(3, .int x3), (7, .int r3), (6, .int r2), (5, .int z0), (0, .ref (ad 0)), (1, .int x1), (2, .int x2), (4, .int x4)]) hx hb d_Mo_choose_219 rfl hl (by decide) rfl (fun ls hl => ?_)
          obtain ⟨v6, ev6⟩ : ∃ y : Int32, y = x4 + 1 := ⟨_, rfl⟩
          refine lv_iinc (v := v6) (lv' := [(4, .int v6), (3, .int x3), (7, .int r3), (6, .int r2), (5, .int z0), (0, .ref (ad 0)), (1, .int x1), (2, .int x2)]) hx hb d_Mo_choose_220 hl (k := 7) rfl (by rw [ev6]; rfl) (by decide) rfl (fun ls hl => ?_)
          have hw := hw v6 ev6
          refine lv_goto (tgt := 86) hx hb d_Mo_choose_223 (by decide) ?_
          exact hk86 x1 x2 x3 v6 hw _ w (lv_sub hl [5, 6, 7, 1, 0] rfl)
        · have hw := hw.2 hc
          refine lv_aload_n hx hb d_Mo_choose_203 rfl (lv_at hl 3 rfl) ?_
          refine lv_iload hx hb d_Mo_choose_204 (lv_at hl 7 rfl) ?_
          refine lv_iload_n hx hb d_Mo_choose_206 rfl (lv_at hl 6 rfl) ?_
          refine kd_i (kr_V (y := y_Mo_isLess) (C1 := R_Mo) (T := F_Mo) (N := 43) (ci := 10) (q0 := 0) (As := [.int x4, .int x3]) (n := 2) C w (c_Mo_isLess l n0 G K ad X S x4 x3 _ hw) (gw_V kw_1166 kw_1168 kp_37 kw_11 kw_1169) (by decide +kernel) rfl rfl ⟨Nat.le_of_ble_eq_true rfl, Nat.le_of_ble_eq_true rfl⟩ rfl rfl rfl hl.1 rfl (Nat.le_of_ble_eq_true rfl) d_Mo_choose_207 ⟨Nat.le_of_ble_eq_true rfl, Nat.le_of_ble_eq_true rfl⟩) (fun r7 hw => ?_)
          refine lv_if_eq (tgt := 218) hx hb d_Mo_choose_210 (by decide) (fun hc => ?_) (fun hc => ?_)
          · have hw := hw.1 hc
            refine lv_iload_n hx hb d_Mo_choose_218 rfl (lv_at hl 6 rfl) ?_
            refine lv_istore_n (lv' := [(3, .int x3), (7, .int r3), (6, .int r2), (5, .int z0), (0, .ref (ad 0)), (1, .int x1), (2, .int x2), (4, .int x4)]) hx hb d_Mo_choose_219 rfl hl (by decide) rfl (fun ls hl => ?_)
            obtain ⟨v8, ev8⟩ : ∃ y : Int32, y = x4 + 1 := ⟨_, rfl⟩
            refine lv_iinc (v := v8) (lv' := [(4, .int v8), (3, .int x3), (7, .int r3), (6, .int r2), (5, .int z0), (0, .ref (ad 0)), (1, .int x1), (2, .int x2)]) hx hb d_Mo_choose_220 hl (k := 7) rfl (by rw [ev8]; rfl) (by decide) rfl (fun ls hl => ?_)
            have hw := hw v8 ev8
            refine lv_goto (tgt := 86) hx hb d_Mo_choose_223 (by decide) ?_
            exact hk86 x1 x2 x3 v8 hw _ w (lv_sub hl [5, 6, 7, 1, 0] rfl)
          · have hw := hw.2 hc
            refine lv_iload hx hb d_Mo_choose_213 (lv_at hl 7 rfl) ?_
            refine lv_goto (tgt := 219) hx hb d_Mo_choose_215 (by decide) ?_
            refine lv_istore_n (lv' := [(3, .int x4), (7, .int r3), (6, .int r2), (5, .int z0), (0, .ref (ad 0)), (1, .int x1), (2, .int x2), (4, .int x4)]) hx hb d_Mo_choose_219 rfl hl (by decide) rfl (fun ls hl => ?_)
            obtain ⟨v9, ev9⟩ : ∃ y : Int32, y = x4 + 1 := ⟨_, rfl⟩
            refine lv_iinc (v := v9) (lv' := [(4, .int v9), (3, .int x4), (7, .int r3), (6, .int r2), (5, .int z0), (0, .ref (ad 0)), (1, .int x1), (2, .int x2)]) hx hb d_Mo_choose_220 hl (k := 7) rfl (by rw [ev9]; rfl) (by decide) rfl (fun ls hl => ?_)
            have hw := hw v9 ev9
            refine lv_goto (tgt := 86) hx hb d_Mo_choose_223 (by decide) ?_
            exact hk86 x1 x2 x4 v9 hw _ w (lv_sub hl [5, 6, 7, 1, 0] rfl)
set_option maxHeartbeats 4000000 in
set_option maxRecDepth 100000 in
theorem w_Mo_choose_140 {S : ST} {post : Int32 → Prop} (C : cx p s m args meth c prog_12_method_38_code 8 "LineBreakerModel" n0 G K) (hr : meth.sig.returnType = (some .int)) {K86 : Int32 → Int32 → Int32 → Int32 → Prop} (hk86 : ∀ (x1 : Int32) (x2 : Int32) (x3 : Int32) (x4 : Int32), K86 x1 x2 x3 x4 → ∀ (ls : Array Slot), wn n0 G (wM K ad S ++ X) s s.heap [] → lv_has ls 8 [(0, .ref (ad 0)), (1, .int x1), (2, .int x2), (3, .int x3), (4, .int x4)] → W p l e rm_Mo_choose s m args below meth c s.heap [] 0 0 (MQ below (rq_i post) args s 0 0 (fun _ => False)) (F0 m 86 ls [])) : ∀ (x1 : Int32) (x2 : Int32) (x3 : Int32) (x4 : Int32), wl_Mo_choose_140 S post K86 x1 x2 x3 x4 → ∀ (ls : Array Slot), wn n0 G (wM K ad S ++ X) s s.heap [] → lv_has ls 8 [(0, .ref (ad 0)), (1, .int x1), (2, .int x2), (3, .int x3), (4, .int x4)] → W p l e rm_Mo_choose s m args below meth c s.heap [] 0 0 (MQ below (rq_i post) args s 0 0 (fun _ => False)) (F0 m 140 ls []) := by
  have hx := C.1
  have hb := C.2.1
  have hts := C.2.2.2.2.1
  intro x1 x2 x3 x4 hw ls w hl
  unfold wl_Mo_choose_140 at hw
  refine lv_iconst (v := 0) hx hb d_Mo_choose_140 (by decide) ?_
  exact w_Mo_choose_141 C hr hk86 x1 x2 x3 x4 0 hw _ w (lv_sub hl [0, 1, 2, 3, 4] rfl)
set_option maxHeartbeats 4000000 in
set_option maxRecDepth 100000 in
theorem w_Mo_choose_86 {S : ST} {post : Int32 → Prop} (C : cx p s m args meth c prog_12_method_38_code 8 "LineBreakerModel" n0 G K) (hr : meth.sig.returnType = (some .int)) : ∀ (n : Nat) (x1 : Int32) (x2 : Int32) (x3 : Int32) (x4 : Int32), wl_Mo_choose_86 S post n x1 x2 x3 x4 → ∀ (ls : Array Slot), wn n0 G (wM K ad S ++ X) s s.heap [] → lv_has ls 8 [(0, .ref (ad 0)), (1, .int x1), (2, .int x2), (3, .int x3), (4, .int x4)] → W p l e rm_Mo_choose s m args below meth c s.heap [] 0 0 (MQ below (rq_i post) args s 0 0 (fun _ => False)) (F0 m 86 ls []) := by
  have hx := C.1
  have hb := C.2.1
  have hts := C.2.2.2.2.1
  intro n
  induction n with
  | zero =>
    intro x1 x2 x3 x4 hw
    unfold wl_Mo_choose_86 at hw
    exact hw.elim
  | succ n ih =>
    intro x1 x2 x3 x4 hw ls w hl
    unfold wl_Mo_choose_86 at hw
    refine lv_iload hx hb d_Mo_choose_86 (lv_at hl 4 rfl) ?_
    refine lv_aload_n hx hb d_Mo_choose_88 rfl (lv_at hl 0 rfl) ?_
    refine kg (C1 := R_Mo) (T := F_Mo) (N := 43) (ci := 10) (ref := "LineBreakerModel") (v := .int (S.2.2 20)) C w 0 20 iw_Mo rfl rfl (by decide) kw_897 rfl rfl d_Mo_choose_89 ?_
    refine lv_icmp_gt (tgt := 226) hx hb d_Mo_choose_92 (by decide) (fun hc => ?_) (fun hc => ?_)
    · have hw := hw.1 hc
      refine lv_aload_n hx hb d_Mo_choose_226 rfl (lv_at hl 0 rfl) ?_
      refine kg (C1 := R_Mo) (T := F_Mo) (N := 43) (ci := 10) (ref := "LineBreakerModel") (v := .int (S.2.2 16)) C w 0 16 iw_Mo rfl rfl (by decide) kw_893 rfl rfl d_Mo_choose_227 ?_
      refine lv_aload_n hx hb d_Mo_choose_230 rfl (lv_at hl 0 rfl) ?_
      refine kg (C1 := R_Mo) (T := F_Mo) (N := 43) (ci := 10) (ref := "LineBreakerModel") (v := .ref (ad 9)) C w 0 10 iw_Mo rfl rfl (by decide) kw_887 rfl rfl d_Mo_choose_231 ?_
      refine lv_bipush (v := 8) hx hb d_Mo_choose_234 (by decide) ?_
      refine ka_i (f := (S.1 9)) C w 9 rfl hw.1 d_Mo_choose_236 ?_
      have hw := hw.2
      refine lv_if_le (tgt := 244) hx hb d_Mo_choose_237 (by decide) (fun hc => ?_) (fun hc => ?_)
      · have hw := hw.1 hc
        refine lv_iconst (v := 2) hx hb d_Mo_choose_244 (by decide) ?_
        exact w_Mo_choose_245 C hr  x2 x3 (S.2.2 16) 2 hw _ w (lv_sub hl [0, 2, 3] rfl)
      · have hw := hw.2 hc
        refine lv_iconst (v := 3) hx hb d_Mo_choose_240 (by decide) ?_
        refine lv_goto (tgt := 245) hx hb d_Mo_choose_241 (by decide) ?_
        exact w_Mo_choose_245 C hr  x2 x3 (S.2.2 16) 3 hw _ w (lv_sub hl [0, 2, 3] rfl)
    · have hw := hw.2 hc
      refine lv_aload_n hx hb d_Mo_choose_95 rfl (lv_at hl 0 rfl) ?_
      refine kg (C1 := R_Mo) (T := F_Mo) (N := 43) (ci := 10) (ref := "LineBreakerModel") (v := .ref (ad 15)) C w 0 21 iw_Mo rfl rfl (by decide) kw_898 rfl rfl d_Mo_choose_96 ?_
      refine lv_iload hx hb d_Mo_choose_99 (lv_at hl 4 rfl) ?_
      refine ka_i (f := (S.1 15)) C w 15 rfl hw.1 d_Mo_choose_101 ?_
      have hw := hw.2
      refine lv_aload_n hx hb d_Mo_choose_102 rfl (lv_at hl 0 rfl) ?_
      refine kg (C1 := R_Mo) (T := F_Mo) (N := 43) (ci := 10) (ref := "LineBreakerModel") (v := .int (S.2.2 17)) C w 0 17 iw_Mo rfl rfl (by decide) kw_894 rfl rfl d_Mo_choose_103 ?_
      refine lv_icmp_ne (tgt := 140) hx hb d_Mo_choose_106 (by decide) (fun hc => ?_) (fun hc => ?_)
      · have hw := hw.1 hc
        exact w_Mo_choose_140 C hr ih x1 x2 x3 x4 hw _ w (lv_sub hl [0, 1, 2, 3, 4] rfl)
      · have hw := hw.2 hc
        refine lv_aload_n hx hb d_Mo_choose_109 rfl (lv_at hl 0 rfl) ?_
        refine kg (C1 := R_Mo) (T := F_Mo) (N := 43) (ci := 10) (ref := "LineBreakerModel") (v := .ref (ad 16)) C w 0 22 iw_Mo rfl rfl (by decide) kw_899 rfl rfl d_Mo_choose_110 ?_
        refine lv_iload hx hb d_Mo_choose_113 (lv_at hl 4 rfl) ?_
        refine ka_i (f := (S.1 16)) C w 16 rfl hw.1 d_Mo_choose_115 ?_
        have hw := hw.2
        refine lv_aload_n hx hb d_Mo_choose_116 rfl (lv_at hl 0 rfl) ?_
        refine kg (C1 := R_Mo) (T := F_Mo) (N := 43) (ci := 10) (ref := "LineBreakerModel") (v := .ref (ad 16)) C w 0 22 iw_Mo rfl rfl (by decide) kw_899 rfl rfl d_Mo_choose_117 ?_
        refine lv_iload_n hx hb d_Mo_choose_120 rfl (lv_at hl 1 rfl) ?_
        refine ka_i (f := (S.1 16)) C w 16 rfl hw.1 d_Mo_choose_121 ?_
        have hw := hw.2
        refine lv_isub hx hb d_Mo_choose_122 ?_
        refine lv_aload_n hx hb d_Mo_choose_123 rfl (lv_at hl 0 rfl) ?_
        refine kg (C1 := R_Mo) (T := F_Mo) (N := 43) (ci := 10) (ref := "LineBreakerModel") (v := .ref (ad 16)) C w 0 22 iw_Mo rfl rfl (by decide) kw_899 rfl rfl d_Mo_choose_124 ?_
        refine lv_iload hx hb d_Mo_choose_127 (lv_at hl 4 rfl) ?_
        refine ka_i (f := (S.1 16)) C w 16 rfl hw.1 d_Mo_choose_129 ?_
        have hw := hw.2
        refine lv_iload_n hx hb d_Mo_choose_130 rfl (lv_at hl 2 rfl) ?_
        refine lv_isub hx hb d_Mo_choose_131 ?_
        refine lv_imul hx hb d_Mo_choose_132 ?_
        refine lv_if_gt (tgt := 140) hx hb d_Mo_choose_133 (by decide) (fun hc => ?_) (fun hc => ?_)
        · have hw := hw.1 hc
          exact w_Mo_choose_140 C hr ih x1 x2 x3 x4 hw _ w (lv_sub hl [0, 1, 2, 3, 4] rfl)
        · have hw := hw.2 hc
          refine lv_iconst (v := 1) hx hb d_Mo_choose_136 (by decide) ?_
          refine lv_goto (tgt := 141) hx hb d_Mo_choose_137 (by decide) ?_
          exact w_Mo_choose_141 C hr ih x1 x2 x3 x4 1 hw _ w (lv_sub hl [0, 1, 2, 3, 4] rfl)
set_option maxHeartbeats 4000000 in
set_option maxRecDepth 100000 in
theorem w_Mo_choose_4 {S : ST} {post : Int32 → Prop} (C : cx p s m args meth c prog_12_method_38_code 8 "LineBreakerModel" n0 G K) (hr : meth.sig.returnType = (some .int)) : ∀ (n : Nat) (x1 : Int32) (x2 : Int32), wl_Mo_choose_4 S post n x1 x2 → ∀ (ls : Array Slot), wn n0 G (wM K ad S ++ X) s s.heap [] → lv_has ls 8 [(0, .ref (ad 0)), (1, .int x1), (2, .int x2)] → W p l e rm_Mo_choose s m args below meth c s.heap [] 0 0 (MQ below (rq_i post) args s 0 0 (fun _ => False)) (F0 m 4 ls []) := by
  have hx := C.1
  have hb := C.2.1
  have hts := C.2.2.2.2.1
  intro n
  induction n with
  | zero =>
    intro x1 x2 hw
    unfold wl_Mo_choose_4 at hw
    exact hw.elim
  | succ n ih =>
    intro x1 x2 hw ls w hl
    unfold wl_Mo_choose_4 at hw
    refine lv_iload_n hx hb d_Mo_choose_4 rfl (lv_at hl 2 rfl) ?_
    refine lv_aload_n hx hb d_Mo_choose_5 rfl (lv_at hl 0 rfl) ?_
    refine kg (C1 := R_Mo) (T := F_Mo) (N := 43) (ci := 10) (ref := "LineBreakerModel") (v := .int (S.2.2 20)) C w 0 20 iw_Mo rfl rfl (by decide) kw_897 rfl rfl d_Mo_choose_6 ?_
    refine lv_icmp_gt (tgt := 50) hx hb d_Mo_choose_9 (by decide) (fun hc => ?_) (fun hc => ?_)
    · have hw := hw.1 hc
      refine lv_iload_n hx hb d_Mo_choose_50 rfl (lv_at hl 1 rfl) ?_
      refine lv_if_lt (tgt := 64) hx hb d_Mo_choose_51 (by decide) (fun hc => ?_) (fun hc => ?_)
      · have hw := hw.1 hc
        refine lv_iload_n hx hb d_Mo_choose_64 rfl (lv_at hl 1 rfl) ?_
        exact kf_i C hr d_Mo_choose_65 hw
      · have hw := hw.2 hc
        refine lv_aload_n hx hb d_Mo_choose_54 rfl (lv_at hl 0 rfl) ?_
        refine kg (C1 := R_Mo) (T := F_Mo) (N := 43) (ci := 10) (ref := "LineBreakerModel") (v := .ref (ad 9)) C w 0 10 iw_Mo rfl rfl (by decide) kw_887 rfl rfl d_Mo_choose_55 ?_
        refine lv_bipush (v := 9) hx hb d_Mo_choose_58 (by decide) ?_
        refine ka_i (f := (S.1 9)) C w 9 rfl hw.1 d_Mo_choose_60 ?_
        have hw := hw.2
        refine lv_if_ne (tgt := 66) hx hb d_Mo_choose_61 (by decide) (fun hc => ?_) (fun hc => ?_)
        · have hw := hw.1 hc
          refine lv_aload_n hx hb d_Mo_choose_66 rfl (lv_at hl 0 rfl) ?_
          refine kg (C1 := R_Mo) (T := F_Mo) (N := 43) (ci := 10) (ref := "LineBreakerModel") (v := .ref (ad 16)) C w 0 22 iw_Mo rfl rfl (by decide) kw_899 rfl rfl d_Mo_choose_67 ?_
          refine lv_iload_n hx hb d_Mo_choose_70 rfl (lv_at hl 1 rfl) ?_
          refine ka_i (f := (S.1 16)) C w 16 rfl hw.1 d_Mo_choose_71 ?_
          have hw := hw.2
          refine lv_aload_n hx hb d_Mo_choose_72 rfl (lv_at hl 0 rfl) ?_
          refine kg (C1 := R_Mo) (T := F_Mo) (N := 43) (ci := 10) (ref := "LineBreakerModel") (v := .ref (ad 9)) C w 0 10 iw_Mo rfl rfl (by decide) kw_887 rfl rfl d_Mo_choose_73 ?_
          refine lv_bipush (v := 9) hx hb d_Mo_choose_76 (by decide) ?_
          refine ka_i (f := (S.1 9)) C w 9 rfl hw.1 d_Mo_choose_78 ?_
          have hw := hw.2
          refine lv_iadd hx hb d_Mo_choose_79 ?_
          refine lv_topi (fun v1 ev1 => ?_)
          have hw := hw v1 ev1
          refine lv_istore_n (lv' := [(2, .int v1), (0, .ref (ad 0)), (1, .int x1)]) hx hb d_Mo_choose_80 rfl hl (by decide) rfl (fun ls hl => ?_)
          refine lv_iload_n hx hb d_Mo_choose_81 rfl (lv_at hl 2 rfl) ?_
          refine lv_istore_n (lv' := [(3, .int x1), (2, .int v1), (0, .ref (ad 0)), (1, .int x1)]) hx hb d_Mo_choose_82 rfl hl (by decide) rfl (fun ls hl => ?_)
          refine lv_iconst (v := 1) hx hb d_Mo_choose_83 (by decide) ?_
          refine lv_istore (lv' := [(4, .int 1), (3, .int x1), (2, .int v1), (0, .ref (ad 0)), (1, .int x1)]) hx hb d_Mo_choose_84 hl (by decide) rfl (fun ls hl => ?_)
          obtain ⟨n9, hw⟩ := hw
          exact w_Mo_choose_86 C hr  n9 x1 v1 x1 1 hw _ w (lv_sub hl [3, 4, 2, 1, 0] rfl)
        · have hw := hw.2 hc
          refine lv_iload_n hx hb d_Mo_choose_64 rfl (lv_at hl 1 rfl) ?_
          exact kf_i C hr d_Mo_choose_65 hw
    · have hw := hw.2 hc
      refine lv_aload_n hx hb d_Mo_choose_12 rfl (lv_at hl 0 rfl) ?_
      refine kg (C1 := R_Mo) (T := F_Mo) (N := 43) (ci := 10) (ref := "LineBreakerModel") (v := .ref (ad 15)) C w 0 21 iw_Mo rfl rfl (by decide) kw_898 rfl rfl d_Mo_choose_13 ?_
      refine lv_iload_n hx hb d_Mo_choose_16 rfl (lv_at hl 2 rfl) ?_
      refine ka_i (f := (S.1 15)) C w 15 rfl hw.1 d_Mo_choose_17 ?_
      have hw := hw.2
      refine lv_aload_n hx hb d_Mo_choose_18 rfl (lv_at hl 0 rfl) ?_
      refine kg (C1 := R_Mo) (T := F_Mo) (N := 43) (ci := 10) (ref := "LineBreakerModel") (v := .int (S.2.2 17)) C w 0 17 iw_Mo rfl rfl (by decide) kw_894 rfl rfl d_Mo_choose_19 ?_
      refine lv_icmp_ne (tgt := 42) hx hb d_Mo_choose_22 (by decide) (fun hc => ?_) (fun hc => ?_)
      · have hw := hw.1 hc
        refine lv_iload_n hx hb d_Mo_choose_42 rfl (lv_at hl 1 rfl) ?_
        refine lv_istore_n (lv' := [(1, .int x1), (0, .ref (ad 0)), (2, .int x2)]) hx hb d_Mo_choose_43 rfl hl (by decide) rfl (fun ls hl => ?_)
        obtain ⟨v2, ev2⟩ : ∃ y : Int32, y = x2 + 1 := ⟨_, rfl⟩
        refine lv_iinc (v := v2) (lv' := [(2, .int v2), (1, .int x1), (0, .ref (ad 0))]) hx hb d_Mo_choose_44 hl (k := 2) rfl (by rw [ev2]; rfl) (by decide) rfl (fun ls hl => ?_)
        have hw := hw v2 ev2
        refine lv_goto (tgt := 4) hx hb d_Mo_choose_47 (by decide) ?_
        exact ih x1 v2 hw _ w (lv_sub hl [2, 1, 0] rfl)
      · have hw := hw.2 hc
        refine lv_iload_n hx hb d_Mo_choose_25 rfl (lv_at hl 1 rfl) ?_
        refine lv_if_lt (tgt := 38) hx hb d_Mo_choose_26 (by decide) (fun hc => ?_) (fun hc => ?_)
        · have hw := hw.1 hc
          refine lv_iload_n hx hb d_Mo_choose_38 rfl (lv_at hl 2 rfl) ?_
          refine lv_goto (tgt := 43) hx hb d_Mo_choose_39 (by decide) ?_
          refine lv_istore_n (lv' := [(1, .int x2), (0, .ref (ad 0)), (2, .int x2)]) hx hb d_Mo_choose_43 rfl hl (by decide) rfl (fun ls hl => ?_)
          obtain ⟨v3, ev3⟩ : ∃ y : Int32, y = x2 + 1 := ⟨_, rfl⟩
          refine lv_iinc (v := v3) (lv' := [(2, .int v3), (1, .int x2), (0, .ref (ad 0))]) hx hb d_Mo_choose_44 hl (k := 2) rfl (by rw [ev3]; rfl) (by decide) rfl (fun ls hl => ?_)
          have hw := hw v3 ev3
          refine lv_goto (tgt := 4) hx hb d_Mo_choose_47 (by decide) ?_
          exact ih x2 v3 hw _ w (lv_sub hl [2, 1, 0] rfl)
        · have hw := hw.2 hc
          refine lv_aload_n hx hb d_Mo_choose_29 rfl (lv_at hl 0 rfl) ?_
          refine lv_iload_n hx hb d_Mo_choose_30 rfl (lv_at hl 2 rfl) ?_
          refine lv_iload_n hx hb d_Mo_choose_31 rfl (lv_at hl 1 rfl) ?_
          refine kd_i (kr_V (y := y_Mo_isLess) (C1 := R_Mo) (T := F_Mo) (N := 43) (ci := 10) (q0 := 0) (As := [.int x2, .int x1]) (n := 2) C w (c_Mo_isLess l n0 G K ad X S x2 x1 _ hw) (gw_V kw_1166 kw_1168 kp_37 kw_11 kw_1169) (by decide +kernel) rfl rfl ⟨Nat.le_of_ble_eq_true rfl, Nat.le_of_ble_eq_true rfl⟩ rfl rfl rfl hl.1 rfl (Nat.le_of_ble_eq_true rfl) d_Mo_choose_32 ⟨Nat.le_of_ble_eq_true rfl, Nat.le_of_ble_eq_true rfl⟩) (fun r4 hw => ?_)
          refine lv_if_eq (tgt := 42) hx hb d_Mo_choose_35 (by decide) (fun hc => ?_) (fun hc => ?_)
          · have hw := hw.1 hc
            refine lv_iload_n hx hb d_Mo_choose_42 rfl (lv_at hl 1 rfl) ?_
            refine lv_istore_n (lv' := [(1, .int x1), (0, .ref (ad 0)), (2, .int x2)]) hx hb d_Mo_choose_43 rfl hl (by decide) rfl (fun ls hl => ?_)
            obtain ⟨v5, ev5⟩ : ∃ y : Int32, y = x2 + 1 := ⟨_, rfl⟩
            refine lv_iinc (v := v5) (lv' := [(2, .int v5), (1, .int x1), (0, .ref (ad 0))]) hx hb d_Mo_choose_44 hl (k := 2) rfl (by rw [ev5]; rfl) (by decide) rfl (fun ls hl => ?_)
            have hw := hw v5 ev5
            refine lv_goto (tgt := 4) hx hb d_Mo_choose_47 (by decide) ?_
            exact ih x1 v5 hw _ w (lv_sub hl [2, 1, 0] rfl)
          · have hw := hw.2 hc
            refine lv_iload_n hx hb d_Mo_choose_38 rfl (lv_at hl 2 rfl) ?_
            refine lv_goto (tgt := 43) hx hb d_Mo_choose_39 (by decide) ?_
            refine lv_istore_n (lv' := [(1, .int x2), (0, .ref (ad 0)), (2, .int x2)]) hx hb d_Mo_choose_43 rfl hl (by decide) rfl (fun ls hl => ?_)
            obtain ⟨v6, ev6⟩ : ∃ y : Int32, y = x2 + 1 := ⟨_, rfl⟩
            refine lv_iinc (v := v6) (lv' := [(2, .int v6), (1, .int x2), (0, .ref (ad 0))]) hx hb d_Mo_choose_44 hl (k := 2) rfl (by rw [ev6]; rfl) (by decide) rfl (fun ls hl => ?_)
            have hw := hw v6 ev6
            refine lv_goto (tgt := 4) hx hb d_Mo_choose_47 (by decide) ?_
            exact ih x2 v6 hw _ w (lv_sub hl [2, 1, 0] rfl)
set_option maxHeartbeats 4000000 in
set_option maxRecDepth 100000 in
theorem c_Mo_choose (l : Launch) (n0 : Nat) (G : va_G) (K : KT) (ad : Nat → Nat) (X : va_W) (S : ST) (post : Int32 → Prop) (hw : wp_Mo_choose S  post) : Met l y_Mo_choose (Cond.code y_Mo_choose prog_12_method_38_code 8 (some .int) :: gw) rm_Mo_choose (va_Pc [.ref (ad 0)] (wb n0 G K (wM K ad S ++ X))) (rq_i post) 0 0 (fun _ => False) := by
  refine kb_start (own := "LineBreakerModel") (by decide +kernel) rfl ?_
  intro p e s m below meth c C hr hne w
  have hx := C.1
  have hb := C.2.1
  have hts := C.2.2.2.2.1
  have hl := lv_entry ([.ref (ad 0)]) (n := 8) (Nat.le_of_ble_eq_true rfl)
  rw [lg_entry_eq]
  generalize (lg_sl ([.ref (ad 0)]) ++ List.replicate (8 - (lg_sl ([.ref (ad 0)])).length) Slot.unset).toArray = ls at hl ⊢
  have hl : lv_has ls 8 [(0, .ref (ad 0))] := hl
  unfold wp_Mo_choose at hw
  refine lv_iconst (v := (-1)) hx hb d_Mo_choose_0 (by decide) ?_
  refine lv_istore_n (lv' := [(1, .int (-1)), (0, .ref (ad 0))]) hx hb d_Mo_choose_1 rfl hl (by decide) rfl (fun ls hl => ?_)
  refine lv_iconst (v := 1) hx hb d_Mo_choose_2 (by decide) ?_
  refine lv_istore_n (lv' := [(2, .int 1), (1, .int (-1)), (0, .ref (ad 0))]) hx hb d_Mo_choose_3 rfl hl (by decide) rfl (fun ls hl => ?_)
  obtain ⟨n9, hw⟩ := hw
  exact w_Mo_choose_4 C hr  n9 (-1) 1 hw _ w (lv_sub hl [2, 1, 0] rfl)
set_option maxHeartbeats 4000000 in
set_option maxRecDepth 100000 in
theorem w_Mo_tell_28 {S : ST} {post : Int32 → (Nat → Int32) → (Nat → Int32) → (Nat → Int32) → (Nat → Int32) → (Nat → Int32) → (Nat → Int32) → (Nat → Int64) → Int32 → Int32 → Int32 → Int32 → Int32 → Int32 → Int32 → Int32 → Int32 → Prop} (C : cx p s m args meth c prog_12_method_39_code 4 "LineBreakerModel" n0 G K) (hr : meth.sig.returnType = (some .int)) : ∀ (n : Nat) (a21 : (Nat → Int32)) (a22 : (Nat → Int32)) (a23 : (Nat → Int32)) (a24 : (Nat → Int32)) (a25 : (Nat → Int32)) (a26 : (Nat → Int32)) (l27 : (Nat → Int64)) (i27 : Int32) (i28 : Int32) (i30 : Int32) (i31 : Int32) (i32 : Int32) (i33 : Int32) (i34 : Int32) (i35 : Int32) (i36 : Int32) (x2 : Int32), wl_Mo_tell_28 S post n a21 a22 a23 a24 a25 a26 l27 i27 i28 i30 i31 i32 i33 i34 i35 i36 x2 → ∀ (H : Heap) (locs : List Loc) (ls : Array Slot), wn n0 G (wM K ad (sI (sI (sI (sI (sI (sI (sI (sI (sI (sL (sA (sA (sA (sA (sA (sA S 21 a21) 22 a22) 23 a23) 24 a24) 25 a25) 26 a26) 27 l27) 27 i27) 28 i28) 30 i30) 31 i31) 32 i32) 33 i33) 34 i34) 35 i35) 36 i36) ++ X) s H locs → lv_has ls 4 [(0, .ref (ad 0)), (2, .int x2)] → W p l e rm_Mo_tell s m args below meth c H locs 0 0 (MQ below (va_Qi (fun r (u : (Nat → Int32) × (Nat → Int32) × (Nat → Int32) × (Nat → Int32) × (Nat → Int32) × (Nat → Int32) × (Nat → Int64) × Int32 × Int32 × Int32 × Int32 × Int32 × Int32 × Int32 × Int32 × Int32) => post r u.1 u.2.1 u.2.2.1 u.2.2.2.1 u.2.2.2.2.1 u.2.2.2.2.2.1 u.2.2.2.2.2.2.1 u.2.2.2.2.2.2.2.1 u.2.2.2.2.2.2.2.2.1 u.2.2.2.2.2.2.2.2.2.1 u.2.2.2.2.2.2.2.2.2.2.1 u.2.2.2.2.2.2.2.2.2.2.2.1 u.2.2.2.2.2.2.2.2.2.2.2.2.1 u.2.2.2.2.2.2.2.2.2.2.2.2.2.1 u.2.2.2.2.2.2.2.2.2.2.2.2.2.2.1 u.2.2.2.2.2.2.2.2.2.2.2.2.2.2.2) (fun (u : (Nat → Int32) × (Nat → Int32) × (Nat → Int32) × (Nat → Int32) × (Nat → Int32) × (Nat → Int32) × (Nat → Int64) × Int32 × Int32 × Int32 × Int32 × Int32 × Int32 × Int32 × Int32 × Int32) t => we n0 G (wM K ad (sI (sI (sI (sI (sI (sI (sI (sI (sI (sL (sA (sA (sA (sA (sA (sA S 21 u.1) 22 u.2.1) 23 u.2.2.1) 24 u.2.2.2.1) 25 u.2.2.2.2.1) 26 u.2.2.2.2.2.1) 27 u.2.2.2.2.2.2.1) 27 u.2.2.2.2.2.2.2.1) 28 u.2.2.2.2.2.2.2.2.1) 30 u.2.2.2.2.2.2.2.2.2.1) 31 u.2.2.2.2.2.2.2.2.2.2.1) 32 u.2.2.2.2.2.2.2.2.2.2.2.1) 33 u.2.2.2.2.2.2.2.2.2.2.2.2.1) 34 u.2.2.2.2.2.2.2.2.2.2.2.2.2.1) 35 u.2.2.2.2.2.2.2.2.2.2.2.2.2.2.1) 36 u.2.2.2.2.2.2.2.2.2.2.2.2.2.2.2) ++ X) t) (al n0)) args s 0 0 (al n0)) (F0 m 28 ls []) := by
  have hx := C.1
  have hb := C.2.1
  have hts := C.2.2.2.2.1
  intro n
  induction n with
  | zero =>
    intro a21 a22 a23 a24 a25 a26 l27 i27 i28 i30 i31 i32 i33 i34 i35 i36 x2 hw
    unfold wl_Mo_tell_28 at hw
    exact hw.elim
  | succ n ih =>
    intro a21 a22 a23 a24 a25 a26 l27 i27 i28 i30 i31 i32 i33 i34 i35 i36 x2 hw H locs ls w hl
    unfold wl_Mo_tell_28 at hw
    refine lv_iload_n hx hb d_Mo_tell_28 rfl (lv_at hl 1 rfl) ?_
    refine lv_if_le (tgt := 141) hx hb d_Mo_tell_29 (by decide) (fun hc => ?_) (fun hc => ?_)
    · have hw := hw.1 hc
      refine lv_aload_n hx hb d_Mo_tell_141 rfl (lv_at hl 0 rfl) ?_
      refine kg (C1 := R_Mo) (T := F_Mo) (N := 43) (ci := 10) (ref := "LineBreakerModel") (v := .int i36) C w 0 36 iw_Mo rfl rfl (by decide) kw_913 rfl rfl d_Mo_tell_142 ?_
      exact ke_i (post := (fun r (u : (Nat → Int32) × (Nat → Int32) × (Nat → Int32) × (Nat → Int32) × (Nat → Int32) × (Nat → Int32) × (Nat → Int64) × Int32 × Int32 × Int32 × Int32 × Int32 × Int32 × Int32 × Int32 × Int32) => post r u.1 u.2.1 u.2.2.1 u.2.2.2.1 u.2.2.2.2.1 u.2.2.2.2.2.1 u.2.2.2.2.2.2.1 u.2.2.2.2.2.2.2.1 u.2.2.2.2.2.2.2.2.1 u.2.2.2.2.2.2.2.2.2.1 u.2.2.2.2.2.2.2.2.2.2.1 u.2.2.2.2.2.2.2.2.2.2.2.1 u.2.2.2.2.2.2.2.2.2.2.2.2.1 u.2.2.2.2.2.2.2.2.2.2.2.2.2.1 u.2.2.2.2.2.2.2.2.2.2.2.2.2.2.1 u.2.2.2.2.2.2.2.2.2.2.2.2.2.2.2)) (st := (fun (u : (Nat → Int32) × (Nat → Int32) × (Nat → Int32) × (Nat → Int32) × (Nat → Int32) × (Nat → Int32) × (Nat → Int64) × Int32 × Int32 × Int32 × Int32 × Int32 × Int32 × Int32 × Int32 × Int32) => wM K ad (sI (sI (sI (sI (sI (sI (sI (sI (sI (sL (sA (sA (sA (sA (sA (sA S 21 u.1) 22 u.2.1) 23 u.2.2.1) 24 u.2.2.2.1) 25 u.2.2.2.2.1) 26 u.2.2.2.2.2.1) 27 u.2.2.2.2.2.2.1) 27 u.2.2.2.2.2.2.2.1) 28 u.2.2.2.2.2.2.2.2.1) 30 u.2.2.2.2.2.2.2.2.2.1) 31 u.2.2.2.2.2.2.2.2.2.2.1) 32 u.2.2.2.2.2.2.2.2.2.2.2.1) 33 u.2.2.2.2.2.2.2.2.2.2.2.2.1) 34 u.2.2.2.2.2.2.2.2.2.2.2.2.2.1) 35 u.2.2.2.2.2.2.2.2.2.2.2.2.2.2.1) 36 u.2.2.2.2.2.2.2.2.2.2.2.2.2.2.2) ++ X)) (u := (a21, a22, a23, a24, a25, a26, l27, i27, i28, i30, i31, i32, i33, i34, i35, i36)) C hr d_Mo_tell_145 (wn_eq w rfl) hw
    · have hw := hw.2 hc
      refine lv_aload_n hx hb d_Mo_tell_32 rfl (lv_at hl 0 rfl) ?_
      refine kg (C1 := R_Mo) (T := F_Mo) (N := 43) (ci := 10) (ref := "LineBreakerModel") (v := .ref (ad 16)) C w 0 22 iw_Mo rfl rfl (by decide) kw_899 rfl rfl d_Mo_tell_33 ?_
      refine lv_iload_n hx hb d_Mo_tell_36 rfl (lv_at hl 1 rfl) ?_
      refine ka_i (f := (S.1 16)) C w 16 rfl hw.1 d_Mo_tell_37 ?_
      have hw := hw.2
      refine lv_iconst (v := 1) hx hb d_Mo_tell_38 (by decide) ?_
      refine lv_isub hx hb d_Mo_tell_39 ?_
      refine lv_topi (fun v1 ev1 => ?_)
      have hw := hw v1 ev1
      refine lv_istore_n (lv' := [(3, .int v1), (0, .ref (ad 0)), (2, .int x2)]) hx hb d_Mo_tell_40 rfl hl (by decide) rfl (fun ls hl => ?_)
      refine lv_aload_n hx hb d_Mo_tell_41 rfl (lv_at hl 1 rfl) ?_
      refine lv_aload_n hx hb d_Mo_tell_42 rfl (lv_at hl 1 rfl) ?_
      refine kg (C1 := R_Mo) (T := F_Mo) (N := 43) (ci := 10) (ref := "LineBreakerModel") (v := .ref (ad 15)) C w 0 21 iw_Mo rfl rfl (by decide) kw_898 rfl rfl d_Mo_tell_43 ?_
      refine lv_aload_n hx hb d_Mo_tell_46 rfl (lv_at hl 1 rfl) ?_
      refine kg (C1 := R_Mo) (T := F_Mo) (N := 43) (ci := 10) (ref := "LineBreakerModel") (v := .ref (ad 19)) C w 0 25 iw_Mo rfl rfl (by decide) kw_902 rfl rfl d_Mo_tell_47 ?_
      refine lv_iload_n hx hb d_Mo_tell_50 rfl (lv_at hl 2 rfl) ?_
      refine ka_i (f := (S.1 19)) C w 19 rfl hw.1 d_Mo_tell_51 ?_
      have hw := hw.2
      refine ka_i (f := (S.1 15)) C w 15 rfl hw.1 d_Mo_tell_52 ?_
      have hw := hw.2
      refine lv_aload_n hx hb d_Mo_tell_53 rfl (lv_at hl 1 rfl) ?_
      refine kg (C1 := R_Mo) (T := F_Mo) (N := 43) (ci := 10) (ref := "LineBreakerModel") (v := .ref (ad 15)) C w 0 21 iw_Mo rfl rfl (by decide) kw_898 rfl rfl d_Mo_tell_54 ?_
      refine lv_iload_n hx hb d_Mo_tell_57 rfl (lv_at hl 2 rfl) ?_
      refine ka_i (f := (S.1 15)) C w 15 rfl hw.1 d_Mo_tell_58 ?_
      have hw := hw.2
      refine kc_v (st := fun (u : (Nat → Int32) × Int32 × Int32 × Int32) => wM K ad (sI (sI (sI (sA (sI (sI (sI (sI (sI (sI (sI (sI (sI (sL (sA (sA (sA (sA (sA (sA S 21 a21) 22 a22) 23 a23) 24 a24) 25 a25) 26 a26) 27 l27) 27 i27) 28 i28) 30 i30) 31 i31) 32 i32) 33 i33) 34 i34) 35 i35) 36 i36) 21 u.1) 27 u.2.1) 28 u.2.2.1) 30 u.2.2.2) ++ X) w (kr_V (y := y_Mo_measure) (C1 := R_Mo) (T := F_Mo) (N := 43) (ci := 10) (q0 := 0) (As := [.int ((S.1 15) ((S.1 19) x2.toNatClampNeg).toNatClampNeg), .int ((S.1 15) x2.toNatClampNeg)]) (n := 2) C w (c_Mo_measure l n0 G K ad X (sI (sI (sI (sI (sI (sI (sI (sI (sI (sL (sA (sA (sA (sA (sA (sA S 21 a21) 22 a22) 23 a23) 24 a24) 25 a25) 26 a26) 27 l27) 27 i27) 28 i28) 30 i30) 31 i31) 32 i32) 33 i33) 34 i34) 35 i35) 36 i36) ((S.1 15) ((S.1 19) x2.toNatClampNeg).toNatClampNeg) ((S.1 15) x2.toNatClampNeg) _ hw) (gw_V kw_1110 kw_1112 kp_26 kw_11 kw_1113) (by decide +kernel) rfl rfl ⟨Nat.le_of_ble_eq_true rfl, Nat.le_of_ble_eq_true rfl⟩ rfl rfl rfl hl.1 rfl (Nat.le_of_ble_eq_true rfl) d_Mo_tell_59 ⟨Nat.le_of_ble_eq_true rfl, Nat.le_of_ble_eq_true rfl⟩) (fun u H locs hw w => ?_)
      obtain ⟨f2, v3, v4, v5⟩ := u
      dsimp only at hw
      have w : wn n0 G (wM K ad (sI (sI (sI (sI (sI (sI (sI (sI (sI (sL (sA (sA (sA (sA (sA (sA S 21 f2) 22 a22) 23 a23) 24 a24) 25 a25) 26 a26) 27 l27) 27 v3) 28 v4) 30 v5) 31 i31) 32 i32) 33 i33) 34 i34) 35 i35) 36 i36) ++ X) s H locs := w
      refine lv_aload_n hx hb d_Mo_tell_62 rfl (lv_at hl 1 rfl) ?_
      refine lv_iload_n hx hb d_Mo_tell_63 rfl (lv_at hl 0 rfl) ?_
      refine kc_v (st := fun (u : Int32 × Int32 × Int32) => wM K ad (sI (sI (sI (sI (sI (sI (sI (sI (sI (sI (sI (sI (sL (sA (sA (sA (sA (sA (sA S 21 f2) 22 a22) 23 a23) 24 a24) 25 a25) 26 a26) 27 l27) 27 v3) 28 v4) 30 v5) 31 i31) 32 i32) 33 i33) 34 i34) 35 i35) 36 i36) 31 u.1) 32 u.2.1) 33 u.2.2) ++ X) w (kr_V (y := y_Mo_judge) (C1 := R_Mo) (T := F_Mo) (N := 43) (ci := 10) (q0 := 0) (As := [.int v1]) (n := 1) C w (c_Mo_judge l n0 G K ad X (sI (sI (sI (sI (sI (sI (sI (sI (sI (sL (sA (sA (sA (sA (sA (sA S 21 f2) 22 a22) 23 a23) 24 a24) 25 a25) 26 a26) 27 l27) 27 v3) 28 v4) 30 v5) 31 i31) 32 i32) 33 i33) 34 i34) 35 i35) 36 i36) v1 _ hw) (gw_V kw_1130 kw_1132 kp_31 kw_11 kw_1133) (by decide +kernel) rfl rfl ⟨Nat.le_of_ble_eq_true rfl, Nat.le_of_ble_eq_true rfl⟩ rfl rfl rfl hl.1 rfl (Nat.le_of_ble_eq_true rfl) d_Mo_tell_64 ⟨Nat.le_of_ble_eq_true rfl, Nat.le_of_ble_eq_true rfl⟩) (fun u H locs hw w => ?_)
      obtain ⟨v6, v7, v8⟩ := u
      dsimp only at hw
      have w : wn n0 G (wM K ad (sI (sI (sI (sI (sI (sI (sI (sI (sI (sL (sA (sA (sA (sA (sA (sA S 21 f2) 22 a22) 23 a23) 24 a24) 25 a25) 26 a26) 27 l27) 27 v3) 28 v4) 30 v5) 31 v6) 32 v7) 33 v8) 34 i34) 35 i35) 36 i36) ++ X) s H locs := w
      refine lv_aload_n hx hb d_Mo_tell_67 rfl (lv_at hl 1 rfl) ?_
      refine kg (C1 := R_Mo) (T := F_Mo) (N := 43) (ci := 10) (ref := "LineBreakerModel") (v := .ref (ad 22)) C w 0 37 iw_Mo rfl rfl (by decide) kw_914 rfl rfl d_Mo_tell_68 ?_
      refine lv_iload_n hx hb d_Mo_tell_71 rfl (lv_at hl 0 rfl) ?_
      refine lv_aload_n hx hb d_Mo_tell_72 rfl (lv_at hl 1 rfl) ?_
      refine kg (C1 := R_Mo) (T := F_Mo) (N := 43) (ci := 10) (ref := "LineBreakerModel") (v := .ref (ad 15)) C w 0 21 iw_Mo rfl rfl (by decide) kw_898 rfl rfl d_Mo_tell_73 ?_
      refine lv_iload_n hx hb d_Mo_tell_76 rfl (lv_at hl 2 rfl) ?_
      refine ka_i (f := (S.1 15)) C w 15 rfl hw.1 d_Mo_tell_77 ?_
      have hw := hw.2
      obtain ⟨f9, ef9⟩ : ∃ z : Nat → Int32, z = upd a22 v1.toNatClampNeg ((S.1 15) x2.toNatClampNeg) := ⟨_, rfl⟩
      refine ks_i (f := a22) (w2 := wM K ad (sI (sI (sI (sI (sI (sI (sI (sI (sI (sL (sA (sA (sA (sA (sA (sA S 21 f2) 22 f9) 23 a23) 24 a24) 25 a25) 26 a26) 27 l27) 27 v3) 28 v4) 30 v5) 31 v6) 32 v7) 33 v8) 34 i34) 35 i35) 36 i36) ++ X) C w 22 rfl hw.1 (by rw [← ef9]; rfl) d_Mo_tell_78 (fun H locs w => ?_)
      have hw := hw.2 f9 ef9
      refine lv_aload_n hx hb d_Mo_tell_79 rfl (lv_at hl 1 rfl) ?_
      refine kg (C1 := R_Mo) (T := F_Mo) (N := 43) (ci := 10) (ref := "LineBreakerModel") (v := .ref (ad 23)) C w 0 38 iw_Mo rfl rfl (by decide) kw_915 rfl rfl d_Mo_tell_80 ?_
      refine lv_iload_n hx hb d_Mo_tell_83 rfl (lv_at hl 0 rfl) ?_
      refine lv_aload_n hx hb d_Mo_tell_84 rfl (lv_at hl 1 rfl) ?_
      refine kg (C1 := R_Mo) (T := F_Mo) (N := 43) (ci := 10) (ref := "LineBreakerModel") (v := .int v3) C w 0 27 iw_Mo rfl rfl (by decide) kw_904 rfl rfl d_Mo_tell_85 ?_
      obtain ⟨f10, ef10⟩ : ∃ z : Nat → Int32, z = upd a23 v1.toNatClampNeg v3 := ⟨_, rfl⟩
      refine ks_i (f := a23) (w2 := wM K ad (sI (sI (sI (sI (sI (sI (sI (sI (sI (sL (sA (sA (sA (sA (sA (sA S 21 f2) 22 f9) 23 f10) 24 a24) 25 a25) 26 a26) 27 l27) 27 v3) 28 v4) 30 v5) 31 v6) 32 v7) 33 v8) 34 i34) 35 i35) 36 i36) ++ X) C w 23 rfl hw.1 (by rw [← ef10]; rfl) d_Mo_tell_88 (fun H locs w => ?_)
      have hw := hw.2 f10 ef10
      refine lv_aload_n hx hb d_Mo_tell_89 rfl (lv_at hl 1 rfl) ?_
      refine kg (C1 := R_Mo) (T := F_Mo) (N := 43) (ci := 10) (ref := "LineBreakerModel") (v := .ref (ad 24)) C w 0 39 iw_Mo rfl rfl (by decide) kw_916 rfl rfl d_Mo_tell_90 ?_
      refine lv_iload_n hx hb d_Mo_tell_93 rfl (lv_at hl 0 rfl) ?_
      refine lv_aload_n hx hb d_Mo_tell_94 rfl (lv_at hl 1 rfl) ?_
      refine kg (C1 := R_Mo) (T := F_Mo) (N := 43) (ci := 10) (ref := "LineBreakerModel") (v := .int v6) C w 0 31 iw_Mo rfl rfl (by decide) kw_908 rfl rfl d_Mo_tell_95 ?_
      obtain ⟨f11, ef11⟩ : ∃ z : Nat → Int32, z = upd a24 v1.toNatClampNeg v6 := ⟨_, rfl⟩
      refine ks_i (f := a24) (w2 := wM K ad (sI (sI (sI (sI (sI (sI (sI (sI (sI (sL (sA (sA (sA (sA (sA (sA S 21 f2) 22 f9) 23 f10) 24 f11) 25 a25) 26 a26) 27 l27) 27 v3) 28 v4) 30 v5) 31 v6) 32 v7) 33 v8) 34 i34) 35 i35) 36 i36) ++ X) C w 24 rfl hw.1 (by rw [← ef11]; rfl) d_Mo_tell_98 (fun H locs w => ?_)
      have hw := hw.2 f11 ef11
      refine lv_aload_n hx hb d_Mo_tell_99 rfl (lv_at hl 1 rfl) ?_
      refine kg (C1 := R_Mo) (T := F_Mo) (N := 43) (ci := 10) (ref := "LineBreakerModel") (v := .ref (ad 25)) C w 0 40 iw_Mo rfl rfl (by decide) kw_917 rfl rfl d_Mo_tell_100 ?_
      refine lv_iload_n hx hb d_Mo_tell_103 rfl (lv_at hl 0 rfl) ?_
      refine lv_aload_n hx hb d_Mo_tell_104 rfl (lv_at hl 1 rfl) ?_
      refine kg (C1 := R_Mo) (T := F_Mo) (N := 43) (ci := 10) (ref := "LineBreakerModel") (v := .int v7) C w 0 32 iw_Mo rfl rfl (by decide) kw_909 rfl rfl d_Mo_tell_105 ?_
      obtain ⟨f12, ef12⟩ : ∃ z : Nat → Int32, z = upd a25 v1.toNatClampNeg v7 := ⟨_, rfl⟩
      refine ks_i (f := a25) (w2 := wM K ad (sI (sI (sI (sI (sI (sI (sI (sI (sI (sL (sA (sA (sA (sA (sA (sA S 21 f2) 22 f9) 23 f10) 24 f11) 25 f12) 26 a26) 27 l27) 27 v3) 28 v4) 30 v5) 31 v6) 32 v7) 33 v8) 34 i34) 35 i35) 36 i36) ++ X) C w 25 rfl hw.1 (by rw [← ef12]; rfl) d_Mo_tell_108 (fun H locs w => ?_)
      have hw := hw.2 f12 ef12
      refine lv_aload_n hx hb d_Mo_tell_109 rfl (lv_at hl 1 rfl) ?_
      refine kg (C1 := R_Mo) (T := F_Mo) (N := 43) (ci := 10) (ref := "LineBreakerModel") (v := .ref (ad 26)) C w 0 41 iw_Mo rfl rfl (by decide) kw_918 rfl rfl d_Mo_tell_110 ?_
      refine lv_iload_n hx hb d_Mo_tell_113 rfl (lv_at hl 0 rfl) ?_
      refine lv_aload_n hx hb d_Mo_tell_114 rfl (lv_at hl 1 rfl) ?_
      refine kg (C1 := R_Mo) (T := F_Mo) (N := 43) (ci := 10) (ref := "LineBreakerModel") (v := .int v8) C w 0 33 iw_Mo rfl rfl (by decide) kw_910 rfl rfl d_Mo_tell_115 ?_
      obtain ⟨f13, ef13⟩ : ∃ z : Nat → Int32, z = upd a26 v1.toNatClampNeg v8 := ⟨_, rfl⟩
      refine ks_i (f := a26) (w2 := wM K ad (sI (sI (sI (sI (sI (sI (sI (sI (sI (sL (sA (sA (sA (sA (sA (sA S 21 f2) 22 f9) 23 f10) 24 f11) 25 f12) 26 f13) 27 l27) 27 v3) 28 v4) 30 v5) 31 v6) 32 v7) 33 v8) 34 i34) 35 i35) 36 i36) ++ X) C w 26 rfl hw.1 (by rw [← ef13]; rfl) d_Mo_tell_118 (fun H locs w => ?_)
      have hw := hw.2 f13 ef13
      refine lv_aload_n hx hb d_Mo_tell_119 rfl (lv_at hl 1 rfl) ?_
      refine kg (C1 := R_Mo) (T := F_Mo) (N := 43) (ci := 10) (ref := "LineBreakerModel") (v := .ref (ad 27)) C w 0 42 iw_Mo rfl rfl (by decide) kw_919 rfl rfl d_Mo_tell_120 ?_
      refine lv_iload_n hx hb d_Mo_tell_123 rfl (lv_at hl 0 rfl) ?_
      refine lv_aload_n hx hb d_Mo_tell_124 rfl (lv_at hl 1 rfl) ?_
      refine kg (C1 := R_Mo) (T := F_Mo) (N := 43) (ci := 10) (ref := "LineBreakerModel") (v := .ref (ad 18)) C w 0 24 iw_Mo rfl rfl (by decide) kw_901 rfl rfl d_Mo_tell_125 ?_
      refine lv_iload_n hx hb d_Mo_tell_128 rfl (lv_at hl 2 rfl) ?_
      refine ka_l (f := (S.2.1 18)) C w 18 rfl hw.1 d_Mo_tell_129 ?_
      have hw := hw.2
      obtain ⟨f14, ef14⟩ : ∃ z : Nat → Int64, z = vp_updL l27 v1.toNatClampNeg ((S.2.1 18) x2.toNatClampNeg) := ⟨_, rfl⟩
      refine ks_l (f := l27) (w2 := wM K ad (sI (sI (sI (sI (sI (sI (sI (sI (sI (sL (sA (sA (sA (sA (sA (sA S 21 f2) 22 f9) 23 f10) 24 f11) 25 f12) 26 f13) 27 f14) 27 v3) 28 v4) 30 v5) 31 v6) 32 v7) 33 v8) 34 i34) 35 i35) 36 i36) ++ X) C w 27 rfl hw.1 (by rw [← ef14]; rfl) d_Mo_tell_130 (fun H locs w => ?_)
      have hw := hw.2 f14 ef14
      refine lv_aload_n hx hb d_Mo_tell_131 rfl (lv_at hl 1 rfl) ?_
      refine kg (C1 := R_Mo) (T := F_Mo) (N := 43) (ci := 10) (ref := "LineBreakerModel") (v := .ref (ad 19)) C w 0 25 iw_Mo rfl rfl (by decide) kw_902 rfl rfl d_Mo_tell_132 ?_
      refine lv_iload_n hx hb d_Mo_tell_135 rfl (lv_at hl 2 rfl) ?_
      refine ka_i (f := (S.1 19)) C w 19 rfl hw.1 d_Mo_tell_136 ?_
      have hw := hw.2
      refine lv_topi (fun v15 ev15 => ?_)
      have hw := hw v15 ev15
      refine lv_istore_n (lv' := [(2, .int v15), (3, .int v1), (0, .ref (ad 0))]) hx hb d_Mo_tell_137 rfl hl (by decide) rfl (fun ls hl => ?_)
      refine lv_goto (tgt := 28) hx hb d_Mo_tell_138 (by decide) ?_
      exact ih f2 f9 f10 f11 f12 f13 f14 v3 v4 v5 v6 v7 v8 i34 i35 i36 v15 hw _ _ _ (wn_eq w rfl) (lv_sub hl [2, 0] rfl)
set_option maxHeartbeats 4000000 in
set_option maxRecDepth 100000 in
theorem c_Mo_tell (l : Launch) (n0 : Nat) (G : va_G) (K : KT) (ad : Nat → Nat) (X : va_W) (S : ST) (p1 : Int32) (post : Int32 → (Nat → Int32) → (Nat → Int32) → (Nat → Int32) → (Nat → Int32) → (Nat → Int32) → (Nat → Int32) → (Nat → Int64) → Int32 → Int32 → Int32 → Int32 → Int32 → Int32 → Int32 → Int32 → Int32 → Prop) (hw : wp_Mo_tell S p1 post) : Met l y_Mo_tell (Cond.code y_Mo_tell prog_12_method_39_code 4 (some .int) :: gw) rm_Mo_tell (va_Pc [.ref (ad 0), .int p1] (wb n0 G K (wM K ad S ++ X))) (va_Qi (fun r (u : (Nat → Int32) × (Nat → Int32) × (Nat → Int32) × (Nat → Int32) × (Nat → Int32) × (Nat → Int32) × (Nat → Int64) × Int32 × Int32 × Int32 × Int32 × Int32 × Int32 × Int32 × Int32 × Int32) => post r u.1 u.2.1 u.2.2.1 u.2.2.2.1 u.2.2.2.2.1 u.2.2.2.2.2.1 u.2.2.2.2.2.2.1 u.2.2.2.2.2.2.2.1 u.2.2.2.2.2.2.2.2.1 u.2.2.2.2.2.2.2.2.2.1 u.2.2.2.2.2.2.2.2.2.2.1 u.2.2.2.2.2.2.2.2.2.2.2.1 u.2.2.2.2.2.2.2.2.2.2.2.2.1 u.2.2.2.2.2.2.2.2.2.2.2.2.2.1 u.2.2.2.2.2.2.2.2.2.2.2.2.2.2.1 u.2.2.2.2.2.2.2.2.2.2.2.2.2.2.2) (fun (u : (Nat → Int32) × (Nat → Int32) × (Nat → Int32) × (Nat → Int32) × (Nat → Int32) × (Nat → Int32) × (Nat → Int64) × Int32 × Int32 × Int32 × Int32 × Int32 × Int32 × Int32 × Int32 × Int32) t => we n0 G (wM K ad (sI (sI (sI (sI (sI (sI (sI (sI (sI (sL (sA (sA (sA (sA (sA (sA S 21 u.1) 22 u.2.1) 23 u.2.2.1) 24 u.2.2.2.1) 25 u.2.2.2.2.1) 26 u.2.2.2.2.2.1) 27 u.2.2.2.2.2.2.1) 27 u.2.2.2.2.2.2.2.1) 28 u.2.2.2.2.2.2.2.2.1) 30 u.2.2.2.2.2.2.2.2.2.1) 31 u.2.2.2.2.2.2.2.2.2.2.1) 32 u.2.2.2.2.2.2.2.2.2.2.2.1) 33 u.2.2.2.2.2.2.2.2.2.2.2.2.1) 34 u.2.2.2.2.2.2.2.2.2.2.2.2.2.1) 35 u.2.2.2.2.2.2.2.2.2.2.2.2.2.2.1) 36 u.2.2.2.2.2.2.2.2.2.2.2.2.2.2.2) ++ X) t) (al n0)) 0 0 (al n0) := by
  refine kb_start (own := "LineBreakerModel") (by decide +kernel) rfl ?_
  intro p e s m below meth c C hr hne w
  have hx := C.1
  have hb := C.2.1
  have hts := C.2.2.2.2.1
  have hl := lv_entry ([.ref (ad 0), .int p1]) (n := 4) (Nat.le_of_ble_eq_true rfl)
  rw [lg_entry_eq]
  generalize (lg_sl ([.ref (ad 0), .int p1]) ++ List.replicate (4 - (lg_sl ([.ref (ad 0), .int p1])).length) Slot.unset).toArray = ls at hl ⊢
  have hl : lv_has ls 4 [(0, .ref (ad 0)), (1, .int p1)] := hl
  unfold wp_Mo_tell at hw
  refine lv_aload_n hx hb d_Mo_tell_0 rfl (lv_at hl 0 rfl) ?_
  refine lv_aload_n hx hb d_Mo_tell_1 rfl (lv_at hl 0 rfl) ?_
  refine kg (C1 := R_Mo) (T := F_Mo) (N := 43) (ci := 10) (ref := "LineBreakerModel") (v := .int (S.2.2 16)) C w 0 16 iw_Mo rfl rfl (by decide) kw_893 rfl rfl d_Mo_tell_2 ?_
  refine lv_topi (fun v1 ev1 => ?_)
  have hw := hw v1 ev1
  refine kp (C1 := R_Mo) (T := F_Mo) (N := 43) (ci := 10) (ty0 := t_Mo) (ref := "LineBreakerModel") (w2 := wM K ad (sI S 34 v1) ++ X) C w 0 34 iw_Mo tk_Mo n_Mo rfl rfl (by decide) kw_911 rfl rfl rfl rfl (Nat.le_of_ble_eq_true rfl) rfl d_Mo_tell_5 (fun H locs w => ?_)
  refine lv_aload_n hx hb d_Mo_tell_8 rfl (lv_at hl 0 rfl) ?_
  refine lv_aload_n hx hb d_Mo_tell_9 rfl (lv_at hl 0 rfl) ?_
  refine kg (C1 := R_Mo) (T := F_Mo) (N := 43) (ci := 10) (ref := "LineBreakerModel") (v := .int (S.2.2 20)) C w 0 20 iw_Mo rfl rfl (by decide) kw_897 rfl rfl d_Mo_tell_10 ?_
  refine lv_topi (fun v2 ev2 => ?_)
  have hw := hw v2 ev2
  refine kp (C1 := R_Mo) (T := F_Mo) (N := 43) (ci := 10) (ty0 := t_Mo) (ref := "LineBreakerModel") (w2 := wM K ad (sI (sI S 34 v1) 35 v2) ++ X) C w 0 35 iw_Mo tk_Mo n_Mo rfl rfl (by decide) kw_912 rfl rfl rfl rfl (Nat.le_of_ble_eq_true rfl) rfl d_Mo_tell_13 (fun H locs w => ?_)
  refine lv_aload_n hx hb d_Mo_tell_16 rfl (lv_at hl 0 rfl) ?_
  refine lv_aload_n hx hb d_Mo_tell_17 rfl (lv_at hl 0 rfl) ?_
  refine kg (C1 := R_Mo) (T := F_Mo) (N := 43) (ci := 10) (ref := "LineBreakerModel") (v := .ref (ad 16)) C w 0 22 iw_Mo rfl rfl (by decide) kw_899 rfl rfl d_Mo_tell_18 ?_
  refine lv_iload_n hx hb d_Mo_tell_21 rfl (lv_at hl 1 rfl) ?_
  refine ka_i (f := (S.1 16)) C w 16 rfl hw.1 d_Mo_tell_22 ?_
  have hw := hw.2
  refine lv_topi (fun v3 ev3 => ?_)
  have hw := hw v3 ev3
  refine kp (C1 := R_Mo) (T := F_Mo) (N := 43) (ci := 10) (ty0 := t_Mo) (ref := "LineBreakerModel") (w2 := wM K ad (sI (sI (sI S 34 v1) 35 v2) 36 v3) ++ X) C w 0 36 iw_Mo tk_Mo n_Mo rfl rfl (by decide) kw_913 rfl rfl rfl rfl (Nat.le_of_ble_eq_true rfl) rfl d_Mo_tell_23 (fun H locs w => ?_)
  refine lv_iload_n hx hb d_Mo_tell_26 rfl (lv_at hl 1 rfl) ?_
  refine lv_istore_n (lv' := [(2, .int p1), (0, .ref (ad 0)), (1, .int p1)]) hx hb d_Mo_tell_27 rfl hl (by decide) rfl (fun ls hl => ?_)
  obtain ⟨n9, hw⟩ := hw
  exact w_Mo_tell_28 C hr  n9 (S.1 21) (S.1 22) (S.1 23) (S.1 24) (S.1 25) (S.1 26) (S.2.1 27) (S.2.2 27) (S.2.2 28) (S.2.2 30) (S.2.2 31) (S.2.2 32) (S.2.2 33) v1 v2 v3 p1 hw _ _ _ (wn_eq w rfl) (lv_sub hl [1, 0] rfl)
set_option maxHeartbeats 4000000 in
set_option maxRecDepth 100000 in
theorem c_Mo_without (l : Launch) (n0 : Nat) (G : va_G) (K : KT) (ad : Nat → Nat) (X : va_W) (S : ST) (p1 : Int32) (post : Int64 → Prop) (hw : wp_Mo_without S p1 post) : Met l y_Mo_without (Cond.code y_Mo_without prog_12_method_40_code 1 (some .long) :: gw) rm_Mo_without (va_Pc [.int p1] (wb n0 G K (wM K ad S ++ X))) (rq_l post) 0 0 (fun _ => False) := by
  refine kb_start (own := "LineBreakerModel") (by decide +kernel) rfl ?_
  intro p e s m below meth c C hr hne w
  have hx := C.1
  have hb := C.2.1
  have hts := C.2.2.2.2.1
  have hl := lv_entry ([.int p1]) (n := 1) (Nat.le_of_ble_eq_true rfl)
  rw [lg_entry_eq]
  generalize (lg_sl ([.int p1]) ++ List.replicate (1 - (lg_sl ([.int p1])).length) Slot.unset).toArray = ls at hl ⊢
  have hl : lv_has ls 1 [(0, .int p1)] := hl
  unfold wp_Mo_without at hw
  refine lv_iload_n hx hb d_Mo_without_0 rfl (lv_at hl 0 rfl) ?_
  refine lv_ldc (v := (-1073741824)) hx hb C.2.2.2.1 (hts _ kw_1054) d_Mo_without_1 ?_
  refine lv_icmp_ne (tgt := 10) hx hb d_Mo_without_3 (by decide) (fun hc => ?_) (fun hc => ?_)
  · have hw := hw.1 hc
    refine lv_iload_n hx hb d_Mo_without_10 rfl (lv_at hl 0 rfl) ?_
    refine lv_if_ge (tgt := 20) hx hb d_Mo_without_11 (by decide) (fun hc => ?_) (fun hc => ?_)
    · have hw := hw.1 hc
      refine lv_iload_n hx hb d_Mo_without_20 rfl (lv_at hl 0 rfl) ?_
      refine lv_i2l hx hb d_Mo_without_21 rfl ?_
      exact kf_l C hr d_Mo_without_22 hw
    · have hw := hw.2 hc
      refine lv_iload_n hx hb d_Mo_without_14 rfl (lv_at hl 0 rfl) ?_
      refine lv_i2l hx hb d_Mo_without_15 rfl ?_
      refine lv_lneg hx hb d_Mo_without_16 ?_
      refine lv_goto (tgt := 22) hx hb d_Mo_without_17 (by decide) ?_
      exact kf_l C hr d_Mo_without_22 hw
  · have hw := hw.2 hc
    refine lv_lconst (v := 0) hx hb d_Mo_without_6 (by decide) ?_
    refine lv_goto (tgt := 22) hx hb d_Mo_without_7 (by decide) ?_
    exact kf_l C hr d_Mo_without_22 hw
set_option maxHeartbeats 4000000 in
set_option maxRecDepth 100000 in
theorem w_Mo_fitsInSizes_115 {S : ST} {post : Int32 → Prop} (C : cx p s m args meth c prog_12_method_41_code 8 "LineBreakerModel" n0 G K) (hr : meth.sig.returnType = (some .boolean)) : ∀ (n : Nat) (x1 : Int64) (x3 : Int64) (x5 : Int64) (x7 : Int32), wl_Mo_fitsInSizes_115 S post n x1 x3 x5 x7 → ∀ (ls : Array Slot), wn n0 G (wM K ad S ++ X) s s.heap [] → lv_has ls 8 [(0, .ref (ad 0)), (1, .long x1), (3, .long x3), (5, .long x5), (7, .int x7)] → W p l e rm_Mo_fitsInSizes s m args below meth c s.heap [] 0 0 (MQ below (rq_i post) args s 0 0 (fun _ => False)) (F0 m 115 ls []) := by
  have hx := C.1
  have hb := C.2.1
  have hts := C.2.2.2.2.1
  intro n
  induction n with
  | zero =>
    intro x1 x3 x5 x7 hw
    unfold wl_Mo_fitsInSizes_115 at hw
    exact hw.elim
  | succ n ih =>
    intro x1 x3 x5 x7 hw ls w hl
    unfold wl_Mo_fitsInSizes_115 at hw
    refine lv_iload hx hb d_Mo_fitsInSizes_115 (lv_at hl 4 rfl) ?_
    refine lv_iconst (v := 3) hx hb d_Mo_fitsInSizes_117 (by decide) ?_
    refine lv_icmp_ge (tgt := 164) hx hb d_Mo_fitsInSizes_118 (by decide) (fun hc => ?_) (fun hc => ?_)
    · have hw := hw.1 hc
      refine lv_lload_n hx hb d_Mo_fitsInSizes_164 rfl (lv_at hl 1 rfl) ?_
      refine kd_i (kr_S (y := y_Mo_isSize) (As := [.long x1]) (n := 1) C w (c_Mo_isSize l n0 G K ad X S x1 _ hw) (gw_S kw_1015 kw_1016 kw_11 kw_1017) (by decide +kernel) rfl rfl ⟨Nat.le_of_ble_eq_true rfl, Nat.le_of_ble_eq_true rfl⟩ rfl hl.1 rfl (Nat.le_of_ble_eq_true rfl) d_Mo_fitsInSizes_165 ⟨Nat.le_of_ble_eq_true rfl, Nat.le_of_ble_eq_true rfl⟩) (fun r1 hw => ?_)
      refine lv_if_eq (tgt := 190) hx hb d_Mo_fitsInSizes_168 (by decide) (fun hc => ?_) (fun hc => ?_)
      · have hw := hw.1 hc
        refine lv_iconst (v := 0) hx hb d_Mo_fitsInSizes_190 (by decide) ?_
        exact kf_z C hr d_Mo_fitsInSizes_191 (Or.inl rfl) hw
      · have hw := hw.2 hc
        refine lv_lload_n hx hb d_Mo_fitsInSizes_171 rfl (lv_at hl 2 rfl) ?_
        refine kd_i (kr_S (y := y_Mo_isSize) (As := [.long x3]) (n := 1) C w (c_Mo_isSize l n0 G K ad X S x3 _ hw) (gw_S kw_1015 kw_1016 kw_11 kw_1017) (by decide +kernel) rfl rfl ⟨Nat.le_of_ble_eq_true rfl, Nat.le_of_ble_eq_true rfl⟩ rfl hl.1 rfl (Nat.le_of_ble_eq_true rfl) d_Mo_fitsInSizes_172 ⟨Nat.le_of_ble_eq_true rfl, Nat.le_of_ble_eq_true rfl⟩) (fun r2 hw => ?_)
        refine lv_if_eq (tgt := 190) hx hb d_Mo_fitsInSizes_175 (by decide) (fun hc => ?_) (fun hc => ?_)
        · have hw := hw.1 hc
          refine lv_iconst (v := 0) hx hb d_Mo_fitsInSizes_190 (by decide) ?_
          exact kf_z C hr d_Mo_fitsInSizes_191 (Or.inl rfl) hw
        · have hw := hw.2 hc
          refine lv_lload hx hb d_Mo_fitsInSizes_178 (lv_at hl 3 rfl) ?_
          refine kd_i (kr_S (y := y_Mo_isSize) (As := [.long x5]) (n := 1) C w (c_Mo_isSize l n0 G K ad X S x5 _ hw) (gw_S kw_1015 kw_1016 kw_11 kw_1017) (by decide +kernel) rfl rfl ⟨Nat.le_of_ble_eq_true rfl, Nat.le_of_ble_eq_true rfl⟩ rfl hl.1 rfl (Nat.le_of_ble_eq_true rfl) d_Mo_fitsInSizes_180 ⟨Nat.le_of_ble_eq_true rfl, Nat.le_of_ble_eq_true rfl⟩) (fun r3 hw => ?_)
          refine lv_if_eq (tgt := 190) hx hb d_Mo_fitsInSizes_183 (by decide) (fun hc => ?_) (fun hc => ?_)
          · have hw := hw.1 hc
            refine lv_iconst (v := 0) hx hb d_Mo_fitsInSizes_190 (by decide) ?_
            exact kf_z C hr d_Mo_fitsInSizes_191 (Or.inl rfl) hw
          · have hw := hw.2 hc
            refine lv_iconst (v := 1) hx hb d_Mo_fitsInSizes_186 (by decide) ?_
            refine lv_goto (tgt := 191) hx hb d_Mo_fitsInSizes_187 (by decide) ?_
            exact kf_z C hr d_Mo_fitsInSizes_191 (Or.inr rfl) hw
    · have hw := hw.2 hc
      refine lv_lload_n hx hb d_Mo_fitsInSizes_121 rfl (lv_at hl 1 rfl) ?_
      refine lv_aload_n hx hb d_Mo_fitsInSizes_122 rfl (lv_at hl 0 rfl) ?_
      refine kg (C1 := R_Mo) (T := F_Mo) (N := 43) (ci := 10) (ref := "LineBreakerModel") (v := .ref (ad 11)) C w 0 12 iw_Mo rfl rfl (by decide) kw_889 rfl rfl d_Mo_fitsInSizes_123 ?_
      refine lv_iload hx hb d_Mo_fitsInSizes_126 (lv_at hl 4 rfl) ?_
      refine ka_i (f := (S.1 11)) C w 11 rfl hw.1 d_Mo_fitsInSizes_128 ?_
      have hw := hw.2
      refine kd_l (kr_S (y := y_Mo_without) (As := [.int ((S.1 11) x7.toNatClampNeg)]) (n := 1) C w (c_Mo_without l n0 G K ad X S ((S.1 11) x7.toNatClampNeg) _ hw) (gw_S kw_1091 kw_1092 kw_11 kw_1093) (by decide +kernel) rfl rfl ⟨Nat.le_of_ble_eq_true rfl, Nat.le_of_ble_eq_true rfl⟩ rfl hl.1 rfl (Nat.le_of_ble_eq_true rfl) d_Mo_fitsInSizes_129 ⟨Nat.le_of_ble_eq_true rfl, Nat.le_of_ble_eq_true rfl⟩) (fun r4 hw => ?_)
      refine lv_ladd hx hb d_Mo_fitsInSizes_132 ?_
      refine lv_topl (fun v5 ev5 => ?_)
      have hw := hw v5 ev5
      refine lv_lstore_n (lv' := [(1, .long v5), (0, .ref (ad 0)), (3, .long x3), (5, .long x5), (7, .int x7)]) hx hb d_Mo_fitsInSizes_133 rfl hl (by decide) rfl (fun ls hl => ?_)
      refine lv_lload_n hx hb d_Mo_fitsInSizes_134 rfl (lv_at hl 2 rfl) ?_
      refine lv_aload_n hx hb d_Mo_fitsInSizes_135 rfl (lv_at hl 1 rfl) ?_
      refine kg (C1 := R_Mo) (T := F_Mo) (N := 43) (ci := 10) (ref := "LineBreakerModel") (v := .ref (ad 12)) C w 0 13 iw_Mo rfl rfl (by decide) kw_890 rfl rfl d_Mo_fitsInSizes_136 ?_
      refine lv_iload hx hb d_Mo_fitsInSizes_139 (lv_at hl 4 rfl) ?_
      refine ka_i (f := (S.1 12)) C w 12 rfl hw.1 d_Mo_fitsInSizes_141 ?_
      have hw := hw.2
      refine lv_i2l hx hb d_Mo_fitsInSizes_142 rfl ?_
      refine lv_ladd hx hb d_Mo_fitsInSizes_143 ?_
      refine lv_topl (fun v6 ev6 => ?_)
      have hw := hw v6 ev6
      refine lv_lstore_n (lv' := [(3, .long v6), (1, .long v5), (0, .ref (ad 0)), (5, .long x5), (7, .int x7)]) hx hb d_Mo_fitsInSizes_144 rfl hl (by decide) rfl (fun ls hl => ?_)
      refine lv_lload hx hb d_Mo_fitsInSizes_145 (lv_at hl 3 rfl) ?_
      refine lv_aload_n hx hb d_Mo_fitsInSizes_147 rfl (lv_at hl 2 rfl) ?_
      refine kg (C1 := R_Mo) (T := F_Mo) (N := 43) (ci := 10) (ref := "LineBreakerModel") (v := .ref (ad 14)) C w 0 15 iw_Mo rfl rfl (by decide) kw_892 rfl rfl d_Mo_fitsInSizes_148 ?_
      refine lv_iload hx hb d_Mo_fitsInSizes_151 (lv_at hl 4 rfl) ?_
      refine ka_i (f := (S.1 14)) C w 14 rfl hw.1 d_Mo_fitsInSizes_153 ?_
      have hw := hw.2
      refine lv_i2l hx hb d_Mo_fitsInSizes_154 rfl ?_
      refine lv_ladd hx hb d_Mo_fitsInSizes_155 ?_
      refine lv_topl (fun v7 ev7 => ?_)
      have hw := hw v7 ev7
      refine lv_lstore (lv' := [(5, .long v7), (3, .long v6), (1, .long v5), (0, .ref (ad 0)), (7, .int x7)]) hx hb d_Mo_fitsInSizes_156 hl (by decide) rfl (fun ls hl => ?_)
      obtain ⟨v8, ev8⟩ : ∃ y : Int32, y = x7 + 1 := ⟨_, rfl⟩
      refine lv_iinc (v := v8) (lv' := [(7, .int v8), (5, .long v7), (3, .long v6), (1, .long v5), (0, .ref (ad 0))]) hx hb d_Mo_fitsInSizes_158 hl (k := 4) rfl (by rw [ev8]; rfl) (by decide) rfl (fun ls hl => ?_)
      have hw := hw v8 ev8
      refine lv_goto (tgt := 115) hx hb d_Mo_fitsInSizes_161 (by decide) ?_
      exact ih v5 v6 v7 v8 hw _ w (lv_sub hl [4, 3, 2, 1, 0] rfl)
set_option maxHeartbeats 4000000 in
set_option maxRecDepth 100000 in
theorem w_Mo_fitsInSizes_81 {S : ST} {post : Int32 → Prop} (C : cx p s m args meth c prog_12_method_41_code 8 "LineBreakerModel" n0 G K) (hr : meth.sig.returnType = (some .boolean)) {K17 : Int64 → Int64 → Int64 → Int32 → Prop} (hk17 : ∀ (x1 : Int64) (x3 : Int64) (x5 : Int64) (x7 : Int32), K17 x1 x3 x5 x7 → ∀ (ls : Array Slot), wn n0 G (wM K ad S ++ X) s s.heap [] → lv_has ls 8 [(0, .ref (ad 0)), (1, .long x1), (3, .long x3), (5, .long x5), (7, .int x7)] → W p l e rm_Mo_fitsInSizes s m args below meth c s.heap [] 0 0 (MQ below (rq_i post) args s 0 0 (fun _ => False)) (F0 m 17 ls [])) : ∀ (x3 : Int64) (x5 : Int64) (x7 : Int32) (z0 : Int64), wl_Mo_fitsInSizes_81 S post K17 x3 x5 x7 z0 → ∀ (ls : Array Slot), wn n0 G (wM K ad S ++ X) s s.heap [] → lv_has ls 8 [(0, .ref (ad 0)), (3, .long x3), (5, .long x5), (7, .int x7)] → W p l e rm_Mo_fitsInSizes s m args below meth c s.heap [] 0 0 (MQ below (rq_i post) args s 0 0 (fun _ => False)) (F0 m 81 ls [.long z0]) := by
  have hx := C.1
  have hb := C.2.1
  have hts := C.2.2.2.2.1
  intro x3 x5 x7 z0 hw ls w hl
  unfold wl_Mo_fitsInSizes_81 at hw
  refine lv_lstore_n (lv' := [(1, .long z0), (0, .ref (ad 0)), (3, .long x3), (5, .long x5), (7, .int x7)]) hx hb d_Mo_fitsInSizes_81 rfl hl (by decide) rfl (fun ls hl => ?_)
  refine lv_lload_n hx hb d_Mo_fitsInSizes_82 rfl (lv_at hl 2 rfl) ?_
  refine lv_aload_n hx hb d_Mo_fitsInSizes_83 rfl (lv_at hl 1 rfl) ?_
  refine kg (C1 := R_Mo) (T := F_Mo) (N := 43) (ci := 10) (ref := "LineBreakerModel") (v := .ref (ad 3)) C w 0 4 iw_Mo rfl rfl (by decide) kw_881 rfl rfl d_Mo_fitsInSizes_84 ?_
  refine lv_iload hx hb d_Mo_fitsInSizes_87 (lv_at hl 4 rfl) ?_
  refine ka_i (f := (S.1 3)) C w 3 rfl hw.1 d_Mo_fitsInSizes_89 ?_
  have hw := hw.2
  refine lv_i2l hx hb d_Mo_fitsInSizes_90 rfl ?_
  refine lv_ladd hx hb d_Mo_fitsInSizes_91 ?_
  refine lv_topl (fun v1 ev1 => ?_)
  have hw := hw v1 ev1
  refine lv_lstore_n (lv' := [(3, .long v1), (1, .long z0), (0, .ref (ad 0)), (5, .long x5), (7, .int x7)]) hx hb d_Mo_fitsInSizes_92 rfl hl (by decide) rfl (fun ls hl => ?_)
  refine lv_lload hx hb d_Mo_fitsInSizes_93 (lv_at hl 3 rfl) ?_
  refine lv_aload_n hx hb d_Mo_fitsInSizes_95 rfl (lv_at hl 2 rfl) ?_
  refine kg (C1 := R_Mo) (T := F_Mo) (N := 43) (ci := 10) (ref := "LineBreakerModel") (v := .ref (ad 5)) C w 0 6 iw_Mo rfl rfl (by decide) kw_883 rfl rfl d_Mo_fitsInSizes_96 ?_
  refine lv_iload hx hb d_Mo_fitsInSizes_99 (lv_at hl 4 rfl) ?_
  refine ka_i (f := (S.1 5)) C w 5 rfl hw.1 d_Mo_fitsInSizes_101 ?_
  have hw := hw.2
  refine lv_i2l hx hb d_Mo_fitsInSizes_102 rfl ?_
  refine lv_ladd hx hb d_Mo_fitsInSizes_103 ?_
  refine lv_topl (fun v2 ev2 => ?_)
  have hw := hw v2 ev2
  refine lv_lstore (lv' := [(5, .long v2), (3, .long v1), (1, .long z0), (0, .ref (ad 0)), (7, .int x7)]) hx hb d_Mo_fitsInSizes_104 hl (by decide) rfl (fun ls hl => ?_)
  obtain ⟨v3, ev3⟩ : ∃ y : Int32, y = x7 + 1 := ⟨_, rfl⟩
  refine lv_iinc (v := v3) (lv' := [(7, .int v3), (5, .long v2), (3, .long v1), (1, .long z0), (0, .ref (ad 0))]) hx hb d_Mo_fitsInSizes_106 hl (k := 4) rfl (by rw [ev3]; rfl) (by decide) rfl (fun ls hl => ?_)
  have hw := hw v3 ev3
  refine lv_goto (tgt := 17) hx hb d_Mo_fitsInSizes_109 (by decide) ?_
  exact hk17 z0 v1 v2 v3 hw _ w (lv_sub hl [4, 3, 2, 1, 0] rfl)
set_option maxHeartbeats 4000000 in
set_option maxRecDepth 100000 in
theorem w_Mo_fitsInSizes_53 {S : ST} {post : Int32 → Prop} (C : cx p s m args meth c prog_12_method_41_code 8 "LineBreakerModel" n0 G K) (hr : meth.sig.returnType = (some .boolean)) {K17 : Int64 → Int64 → Int64 → Int32 → Prop} (hk17 : ∀ (x1 : Int64) (x3 : Int64) (x5 : Int64) (x7 : Int32), K17 x1 x3 x5 x7 → ∀ (ls : Array Slot), wn n0 G (wM K ad S ++ X) s s.heap [] → lv_has ls 8 [(0, .ref (ad 0)), (1, .long x1), (3, .long x3), (5, .long x5), (7, .int x7)] → W p l e rm_Mo_fitsInSizes s m args below meth c s.heap [] 0 0 (MQ below (rq_i post) args s 0 0 (fun _ => False)) (F0 m 17 ls [])) : ∀ (x3 : Int64) (x5 : Int64) (x7 : Int32) (z0 : Int64), wl_Mo_fitsInSizes_53 S post K17 x3 x5 x7 z0 → ∀ (ls : Array Slot), wn n0 G (wM K ad S ++ X) s s.heap [] → lv_has ls 8 [(0, .ref (ad 0)), (3, .long x3), (5, .long x5), (7, .int x7)] → W p l e rm_Mo_fitsInSizes s m args below meth c s.heap [] 0 0 (MQ below (rq_i post) args s 0 0 (fun _ => False)) (F0 m 53 ls [.long z0]) := by
  have hx := C.1
  have hb := C.2.1
  have hts := C.2.2.2.2.1
  intro x3 x5 x7 z0 hw ls w hl
  unfold wl_Mo_fitsInSizes_53 at hw
  refine lv_lstore_n (lv' := [(1, .long z0), (0, .ref (ad 0)), (3, .long x3), (5, .long x5), (7, .int x7)]) hx hb d_Mo_fitsInSizes_53 rfl hl (by decide) rfl (fun ls hl => ?_)
  refine lv_aload_n hx hb d_Mo_fitsInSizes_54 rfl (lv_at hl 1 rfl) ?_
  refine kg (C1 := R_Mo) (T := F_Mo) (N := 43) (ci := 10) (ref := "LineBreakerModel") (v := .ref (ad 1)) C w 0 2 iw_Mo rfl rfl (by decide) kw_879 rfl rfl d_Mo_fitsInSizes_55 ?_
  refine lv_iload hx hb d_Mo_fitsInSizes_58 (lv_at hl 4 rfl) ?_
  refine ka_i (f := (S.1 1)) C w 1 rfl hw.1 d_Mo_fitsInSizes_60 ?_
  have hw := hw.2
  refine lv_iconst (v := 5) hx hb d_Mo_fitsInSizes_61 (by decide) ?_
  refine lv_icmp_ne (tgt := 80) hx hb d_Mo_fitsInSizes_62 (by decide) (fun hc => ?_) (fun hc => ?_)
  · have hw := hw.1 hc
    refine lv_lload_n hx hb d_Mo_fitsInSizes_80 rfl (lv_at hl 0 rfl) ?_
    exact w_Mo_fitsInSizes_81 C hr hk17 x3 x5 x7 z0 hw _ w (lv_sub hl [1, 2, 3, 4] rfl)
  · have hw := hw.2 hc
    refine lv_lload_n hx hb d_Mo_fitsInSizes_65 rfl (lv_at hl 0 rfl) ?_
    refine lv_aload_n hx hb d_Mo_fitsInSizes_66 rfl (lv_at hl 1 rfl) ?_
    refine kg (C1 := R_Mo) (T := F_Mo) (N := 43) (ci := 10) (ref := "LineBreakerModel") (v := .ref (ad 7)) C w 0 8 iw_Mo rfl rfl (by decide) kw_885 rfl rfl d_Mo_fitsInSizes_67 ?_
    refine lv_iload hx hb d_Mo_fitsInSizes_70 (lv_at hl 4 rfl) ?_
    refine ka_i (f := (S.1 7)) C w 7 rfl hw.1 d_Mo_fitsInSizes_72 ?_
    have hw := hw.2
    refine kd_l (kr_S (y := y_Mo_without) (As := [.int ((S.1 7) x7.toNatClampNeg)]) (n := 1) C w (c_Mo_without l n0 G K ad X S ((S.1 7) x7.toNatClampNeg) _ hw) (gw_S kw_1091 kw_1092 kw_11 kw_1093) (by decide +kernel) rfl rfl ⟨Nat.le_of_ble_eq_true rfl, Nat.le_of_ble_eq_true rfl⟩ rfl hl.1 rfl (Nat.le_of_ble_eq_true rfl) d_Mo_fitsInSizes_73 ⟨Nat.le_of_ble_eq_true rfl, Nat.le_of_ble_eq_true rfl⟩) (fun r1 hw => ?_)
    refine lv_ladd hx hb d_Mo_fitsInSizes_76 ?_
    refine lv_goto (tgt := 81) hx hb d_Mo_fitsInSizes_77 (by decide) ?_
    exact w_Mo_fitsInSizes_81 C hr hk17 x3 x5 x7 (z0 + r1) hw _ w (lv_sub hl [1, 2, 3, 4] rfl)
set_option maxHeartbeats 4000000 in
set_option maxRecDepth 100000 in
theorem w_Mo_fitsInSizes_17 {S : ST} {post : Int32 → Prop} (C : cx p s m args meth c prog_12_method_41_code 8 "LineBreakerModel" n0 G K) (hr : meth.sig.returnType = (some .boolean)) : ∀ (n : Nat) (x1 : Int64) (x3 : Int64) (x5 : Int64) (x7 : Int32), wl_Mo_fitsInSizes_17 S post n x1 x3 x5 x7 → ∀ (ls : Array Slot), wn n0 G (wM K ad S ++ X) s s.heap [] → lv_has ls 8 [(0, .ref (ad 0)), (1, .long x1), (3, .long x3), (5, .long x5), (7, .int x7)] → W p l e rm_Mo_fitsInSizes s m args below meth c s.heap [] 0 0 (MQ below (rq_i post) args s 0 0 (fun _ => False)) (F0 m 17 ls []) := by
  have hx := C.1
  have hb := C.2.1
  have hts := C.2.2.2.2.1
  intro n
  induction n with
  | zero =>
    intro x1 x3 x5 x7 hw
    unfold wl_Mo_fitsInSizes_17 at hw
    exact hw.elim
  | succ n ih =>
    intro x1 x3 x5 x7 hw ls w hl
    unfold wl_Mo_fitsInSizes_17 at hw
    refine lv_iload hx hb d_Mo_fitsInSizes_17 (lv_at hl 4 rfl) ?_
    refine lv_aload_n hx hb d_Mo_fitsInSizes_19 rfl (lv_at hl 0 rfl) ?_
    refine kg (C1 := R_Mo) (T := F_Mo) (N := 43) (ci := 10) (ref := "LineBreakerModel") (v := .int (S.2.2 1)) C w 0 1 iw_Mo rfl rfl (by decide) kw_878 rfl rfl d_Mo_fitsInSizes_20 ?_
    refine lv_icmp_ge (tgt := 112) hx hb d_Mo_fitsInSizes_23 (by decide) (fun hc => ?_) (fun hc => ?_)
    · have hw := hw.1 hc
      refine lv_iconst (v := 0) hx hb d_Mo_fitsInSizes_112 (by decide) ?_
      refine lv_istore (lv' := [(7, .int 0), (0, .ref (ad 0)), (1, .long x1), (3, .long x3), (5, .long x5)]) hx hb d_Mo_fitsInSizes_113 hl (by decide) rfl (fun ls hl => ?_)
      obtain ⟨n9, hw⟩ := hw
      exact w_Mo_fitsInSizes_115 C hr  n9 x1 x3 x5 0 hw _ w (lv_sub hl [1, 2, 3, 4, 0] rfl)
    · have hw := hw.2 hc
      refine lv_aload_n hx hb d_Mo_fitsInSizes_26 rfl (lv_at hl 0 rfl) ?_
      refine kg (C1 := R_Mo) (T := F_Mo) (N := 43) (ci := 10) (ref := "LineBreakerModel") (v := .ref (ad 1)) C w 0 2 iw_Mo rfl rfl (by decide) kw_879 rfl rfl d_Mo_fitsInSizes_27 ?_
      refine lv_iload hx hb d_Mo_fitsInSizes_30 (lv_at hl 4 rfl) ?_
      refine ka_i (f := (S.1 1)) C w 1 rfl hw.1 d_Mo_fitsInSizes_32 ?_
      have hw := hw.2
      refine lv_iconst (v := 4) hx hb d_Mo_fitsInSizes_33 (by decide) ?_
      refine lv_icmp_ne (tgt := 41) hx hb d_Mo_fitsInSizes_34 (by decide) (fun hc => ?_) (fun hc => ?_)
      · have hw := hw.1 hc
        refine lv_lload_n hx hb d_Mo_fitsInSizes_41 rfl (lv_at hl 1 rfl) ?_
        refine lv_aload_n hx hb d_Mo_fitsInSizes_42 rfl (lv_at hl 0 rfl) ?_
        refine kg (C1 := R_Mo) (T := F_Mo) (N := 43) (ci := 10) (ref := "LineBreakerModel") (v := .ref (ad 2)) C w 0 3 iw_Mo rfl rfl (by decide) kw_880 rfl rfl d_Mo_fitsInSizes_43 ?_
        refine lv_iload hx hb d_Mo_fitsInSizes_46 (lv_at hl 4 rfl) ?_
        refine ka_i (f := (S.1 2)) C w 2 rfl hw.1 d_Mo_fitsInSizes_48 ?_
        have hw := hw.2
        refine kd_l (kr_S (y := y_Mo_without) (As := [.int ((S.1 2) x7.toNatClampNeg)]) (n := 1) C w (c_Mo_without l n0 G K ad X S ((S.1 2) x7.toNatClampNeg) _ hw) (gw_S kw_1091 kw_1092 kw_11 kw_1093) (by decide +kernel) rfl rfl ⟨Nat.le_of_ble_eq_true rfl, Nat.le_of_ble_eq_true rfl⟩ rfl hl.1 rfl (Nat.le_of_ble_eq_true rfl) d_Mo_fitsInSizes_49 ⟨Nat.le_of_ble_eq_true rfl, Nat.le_of_ble_eq_true rfl⟩) (fun r1 hw => ?_)
        refine lv_ladd hx hb d_Mo_fitsInSizes_52 ?_
        exact w_Mo_fitsInSizes_53 C hr ih x3 x5 x7 (x1 + r1) hw _ w (lv_sub hl [0, 2, 3, 4] rfl)
      · have hw := hw.2 hc
        refine lv_lload_n hx hb d_Mo_fitsInSizes_37 rfl (lv_at hl 1 rfl) ?_
        refine lv_goto (tgt := 53) hx hb d_Mo_fitsInSizes_38 (by decide) ?_
        exact w_Mo_fitsInSizes_53 C hr ih x3 x5 x7 x1 hw _ w (lv_sub hl [0, 2, 3, 4] rfl)
set_option maxHeartbeats 4000000 in
set_option maxRecDepth 100000 in
theorem c_Mo_fitsInSizes (l : Launch) (n0 : Nat) (G : va_G) (K : KT) (ad : Nat → Nat) (X : va_W) (S : ST) (post : Int32 → Prop) (hw : wp_Mo_fitsInSizes S  post) : Met l y_Mo_fitsInSizes (Cond.code y_Mo_fitsInSizes prog_12_method_41_code 8 (some .boolean) :: gw) rm_Mo_fitsInSizes (va_Pc [.ref (ad 0)] (wb n0 G K (wM K ad S ++ X))) (rq_i post) 0 0 (fun _ => False) := by
  refine kb_start (own := "LineBreakerModel") (by decide +kernel) rfl ?_
  intro p e s m below meth c C hr hne w
  have hx := C.1
  have hb := C.2.1
  have hts := C.2.2.2.2.1
  have hl := lv_entry ([.ref (ad 0)]) (n := 8) (Nat.le_of_ble_eq_true rfl)
  rw [lg_entry_eq]
  generalize (lg_sl ([.ref (ad 0)]) ++ List.replicate (8 - (lg_sl ([.ref (ad 0)])).length) Slot.unset).toArray = ls at hl ⊢
  have hl : lv_has ls 8 [(0, .ref (ad 0))] := hl
  unfold wp_Mo_fitsInSizes at hw
  refine lv_lconst (v := 0) hx hb d_Mo_fitsInSizes_0 (by decide) ?_
  refine lv_lstore_n (lv' := [(1, .long 0), (0, .ref (ad 0))]) hx hb d_Mo_fitsInSizes_1 rfl hl (by decide) rfl (fun ls hl => ?_)
  refine lv_aload_n hx hb d_Mo_fitsInSizes_2 rfl (lv_at hl 1 rfl) ?_
  refine kg (C1 := R_Mo) (T := F_Mo) (N := 43) (ci := 10) (ref := "LineBreakerModel") (v := .ref (ad 9)) C w 0 10 iw_Mo rfl rfl (by decide) kw_887 rfl rfl d_Mo_fitsInSizes_3 ?_
  refine lv_bipush (v := 8) hx hb d_Mo_fitsInSizes_6 (by decide) ?_
  refine ka_i (f := (S.1 9)) C w 9 rfl hw.1 d_Mo_fitsInSizes_8 ?_
  have hw := hw.2
  refine lv_i2l hx hb d_Mo_fitsInSizes_9 rfl ?_
  refine lv_topl (fun v1 ev1 => ?_)
  have hw := hw v1 ev1
  refine lv_lstore_n (lv' := [(3, .long v1), (1, .long 0), (0, .ref (ad 0))]) hx hb d_Mo_fitsInSizes_10 rfl hl (by decide) rfl (fun ls hl => ?_)
  refine lv_lconst (v := 0) hx hb d_Mo_fitsInSizes_11 (by decide) ?_
  refine lv_lstore (lv' := [(5, .long 0), (3, .long v1), (1, .long 0), (0, .ref (ad 0))]) hx hb d_Mo_fitsInSizes_12 hl (by decide) rfl (fun ls hl => ?_)
  refine lv_iconst (v := 0) hx hb d_Mo_fitsInSizes_14 (by decide) ?_
  refine lv_istore (lv' := [(7, .int 0), (5, .long 0), (3, .long v1), (1, .long 0), (0, .ref (ad 0))]) hx hb d_Mo_fitsInSizes_15 hl (by decide) rfl (fun ls hl => ?_)
  obtain ⟨n9, hw⟩ := hw
  exact w_Mo_fitsInSizes_17 C hr  n9 0 v1 0 0 hw _ w (lv_sub hl [4, 3, 2, 1, 0] rfl)
set_option maxHeartbeats 4000000 in
set_option maxRecDepth 100000 in
theorem w_Mo_breakUp_349 {S : ST} {post : Int32 → (Nat → Int32) → (Nat → Int32) → (Nat → Int32) → (Nat → Int32) → (Nat → Int32) → (Nat → Int32) → (Nat → Int32) → (Nat → Int32) → (Nat → Int32) → (Nat → Int32) → (Nat → Int32) → (Nat → Int32) → (Nat → Int32) → (Nat → Int32) → (Nat → Int32) → (Nat → Int32) → (Nat → Int32) → (Nat → Int32) → (Nat → Int32) → (Nat → Int64) → (Nat → Int64) → Int32 → Int32 → Int32 → Int32 → Int32 → Int32 → Int32 → Int32 → Int32 → Int32 → Int32 → Int32 → Int32 → Int32 → Int32 → Int32 → Prop} (C : cx p s m args meth c prog_12_method_42_code 14 "LineBreakerModel" n0 G K) (hr : meth.sig.returnType = (some .int)) : ∀ (a1 : (Nat → Int32)) (a2 : (Nat → Int32)) (a3 : (Nat → Int32)) (a4 : (Nat → Int32)) (a5 : (Nat → Int32)) (a6 : (Nat → Int32)) (a7 : (Nat → Int32)) (a8 : (Nat → Int32)) (a15 : (Nat → Int32)) (a16 : (Nat → Int32)) (a17 : (Nat → Int32)) (a19 : (Nat → Int32)) (a20 : (Nat → Int32)) (a21 : (Nat → Int32)) (a22 : (Nat → Int32)) (a23 : (Nat → Int32)) (a24 : (Nat → Int32)) (a25 : (Nat → Int32)) (a26 : (Nat → Int32)) (l18 : (Nat → Int64)) (l27 : (Nat → Int64)) (i0 : Int32) (i1 : Int32) (i16 : Int32) (i17 : Int32) (i18 : Int32) (i19 : Int32) (i20 : Int32) (i27 : Int32) (i28 : Int32) (i30 : Int32) (i31 : Int32) (i32 : Int32) (i33 : Int32) (i34 : Int32) (i35 : Int32) (i36 : Int32) (x2 : Int32) (x3 : Int32) (x4 : Int32) (x5 : Int32) (x6 : Int32) (x7 : Int32) (x8 : Int32) (x10 : Int32), wl_Mo_breakUp_349 S post a1 a2 a3 a4 a5 a6 a7 a8 a15 a16 a17 a19 a20 a21 a22 a23 a24 a25 a26 l18 l27 i0 i1 i16 i17 i18 i19 i20 i27 i28 i30 i31 i32 i33 i34 i35 i36 x2 x3 x4 x5 x6 x7 x8 x10 → ∀ (H : Heap) (locs : List Loc) (ls : Array Slot), wn n0 G (wM K ad (sI (sI (sI (sI (sI (sI (sI (sI (sI (sI (sI (sI (sI (sI (sI (sI (sL (sL (sA (sA (sA (sA (sA (sA (sA (sA (sA (sA (sA (sA (sA (sA (sA (sA (sA (sA (sA S 1 a1) 2 a2) 3 a3) 4 a4) 5 a5) 6 a6) 7 a7) 8 a8) 15 a15) 16 a16) 17 a17) 19 a19) 20 a20) 21 a21) 22 a22) 23 a23) 24 a24) 25 a25) 26 a26) 18 l18) 27 l27) 0 i0) 1 i1) 16 i16) 17 i17) 18 i18) 19 i19) 20 i20) 27 i27) 28 i28) 30 i30) 31 i31) 32 i32) 33 i33) 34 i34) 35 i35) 36 i36) ++ X) s H locs → lv_has ls 14 [(0, .ref (ad 0)), (2, .int x2), (3, .int x3), (4, .int x4), (5, .int x5), (6, .int x6), (7, .int x7), (8, .int x8), (10, .int x10)] → W p l e rm_Mo_breakUp s m args below meth c H locs 0 0 (MQ below (va_Qi (fun r (u : (Nat → Int32) × (Nat → Int32) × (Nat → Int32) × (Nat → Int32) × (Nat → Int32) × (Nat → Int32) × (Nat → Int32) × (Nat → Int32) × (Nat → Int32) × (Nat → Int32) × (Nat → Int32) × (Nat → Int32) × (Nat → Int32) × (Nat → Int32) × (Nat → Int32) × (Nat → Int32) × (Nat → Int32) × (Nat → Int32) × (Nat → Int32) × (Nat → Int64) × (Nat → Int64) × Int32 × Int32 × Int32 × Int32 × Int32 × Int32 × Int32 × Int32 × Int32 × Int32 × Int32 × Int32 × Int32 × Int32 × Int32 × Int32) => post r u.1 u.2.1 u.2.2.1 u.2.2.2.1 u.2.2.2.2.1 u.2.2.2.2.2.1 u.2.2.2.2.2.2.1 u.2.2.2.2.2.2.2.1 u.2.2.2.2.2.2.2.2.1 u.2.2.2.2.2.2.2.2.2.1 u.2.2.2.2.2.2.2.2.2.2.1 u.2.2.2.2.2.2.2.2.2.2.2.1 u.2.2.2.2.2.2.2.2.2.2.2.2.1 u.2.2.2.2.2.2.2.2.2.2.2.2.2.1 u.2.2.2.2.2.2.2.2.2.2.2.2.2.2.1 u.2.2.2.2.2.2.2.2.2.2.2.2.2.2.2.1 u.2.2.2.2.2.2.2.2.2.2.2.2.2.2.2.2.1 u.2.2.2.2.2.2.2.2.2.2.2.2.2.2.2.2.2.1 u.2.2.2.2.2.2.2.2.2.2.2.2.2.2.2.2.2.2.1 u.2.2.2.2.2.2.2.2.2.2.2.2.2.2.2.2.2.2.2.1 u.2.2.2.2.2.2.2.2.2.2.2.2.2.2.2.2.2.2.2.2.1 u.2.2.2.2.2.2.2.2.2.2.2.2.2.2.2.2.2.2.2.2.2.1 u.2.2.2.2.2.2.2.2.2.2.2.2.2.2.2.2.2.2.2.2.2.2.1 u.2.2.2.2.2.2.2.2.2.2.2.2.2.2.2.2.2.2.2.2.2.2.2.1 u.2.2.2.2.2.2.2.2.2.2.2.2.2.2.2.2.2.2.2.2.2.2.2.2.1 u.2.2.2.2.2.2.2.2.2.2.2.2.2.2.2.2.2.2.2.2.2.2.2.2.2.1 u.2.2.2.2.2.2.2.2.2.2.2.2.2.2.2.2.2.2.2.2.2.2.2.2.2.2.1 u.2.2.2.2.2.2.2.2.2.2.2.2.2.2.2.2.2.2.2.2.2.2.2.2.2.2.2.1 u.2.2.2.2.2.2.2.2.2.2.2.2.2.2.2.2.2.2.2.2.2.2.2.2.2.2.2.2.1 u.2.2.2.2.2.2.2.2.2.2.2.2.2.2.2.2.2.2.2.2.2.2.2.2.2.2.2.2.2.1 u.2.2.2.2.2.2.2.2.2.2.2.2.2.2.2.2.2.2.2.2.2.2.2.2.2.2.2.2.2.2.1 u.2.2.2.2.2.2.2.2.2.2.2.2.2.2.2.2.2.2.2.2.2.2.2.2.2.2.2.2.2.2.2.1 u.2.2.2.2.2.2.2.2.2.2.2.2.2.2.2.2.2.2.2.2.2.2.2.2.2.2.2.2.2.2.2.2.1 u.2.2.2.2.2.2.2.2.2.2.2.2.2.2.2.2.2.2.2.2.2.2.2.2.2.2.2.2.2.2.2.2.2.1 u.2.2.2.2.2.2.2.2.2.2.2.2.2.2.2.2.2.2.2.2.2.2.2.2.2.2.2.2.2.2.2.2.2.2.1 u.2.2.2.2.2.2.2.2.2.2.2.2.2.2.2.2.2.2.2.2.2.2.2.2.2.2.2.2.2.2.2.2.2.2.2.1 u.2.2.2.2.2.2.2.2.2.2.2.2.2.2.2.2.2.2.2.2.2.2.2.2.2.2.2.2.2.2.2.2.2.2.2.2) (fun (u : (Nat → Int32) × (Nat → Int32) × (Nat → Int32) × (Nat → Int32) × (Nat → Int32) × (Nat → Int32) × (Nat → Int32) × (Nat → Int32) × (Nat → Int32) × (Nat → Int32) × (Nat → Int32) × (Nat → Int32) × (Nat → Int32) × (Nat → Int32) × (Nat → Int32) × (Nat → Int32) × (Nat → Int32) × (Nat → Int32) × (Nat → Int32) × (Nat → Int64) × (Nat → Int64) × Int32 × Int32 × Int32 × Int32 × Int32 × Int32 × Int32 × Int32 × Int32 × Int32 × Int32 × Int32 × Int32 × Int32 × Int32 × Int32) t => we n0 G (wM K ad (sI (sI (sI (sI (sI (sI (sI (sI (sI (sI (sI (sI (sI (sI (sI (sI (sL (sL (sA (sA (sA (sA (sA (sA (sA (sA (sA (sA (sA (sA (sA (sA (sA (sA (sA (sA (sA S 1 u.1) 2 u.2.1) 3 u.2.2.1) 4 u.2.2.2.1) 5 u.2.2.2.2.1) 6 u.2.2.2.2.2.1) 7 u.2.2.2.2.2.2.1) 8 u.2.2.2.2.2.2.2.1) 15 u.2.2.2.2.2.2.2.2.1) 16 u.2.2.2.2.2.2.2.2.2.1) 17 u.2.2.2.2.2.2.2.2.2.2.1) 19 u.2.2.2.2.2.2.2.2.2.2.2.1) 20 u.2.2.2.2.2.2.2.2.2.2.2.2.1) 21 u.2.2.2.2.2.2.2.2.2.2.2.2.2.1) 22 u.2.2.2.2.2.2.2.2.2.2.2.2.2.2.1) 23 u.2.2.2.2.2.2.2.2.2.2.2.2.2.2.2.1) 24 u.2.2.2.2.2.2.2.2.2.2.2.2.2.2.2.2.1) 25 u.2.2.2.2.2.2.2.2.2.2.2.2.2.2.2.2.2.1) 26 u.2.2.2.2.2.2.2.2.2.2.2.2.2.2.2.2.2.2.1) 18 u.2.2.2.2.2.2.2.2.2.2.2.2.2.2.2.2.2.2.2.1) 27 u.2.2.2.2.2.2.2.2.2.2.2.2.2.2.2.2.2.2.2.2.1) 0 u.2.2.2.2.2.2.2.2.2.2.2.2.2.2.2.2.2.2.2.2.2.1) 1 u.2.2.2.2.2.2.2.2.2.2.2.2.2.2.2.2.2.2.2.2.2.2.1) 16 u.2.2.2.2.2.2.2.2.2.2.2.2.2.2.2.2.2.2.2.2.2.2.2.1) 17 u.2.2.2.2.2.2.2.2.2.2.2.2.2.2.2.2.2.2.2.2.2.2.2.2.1) 18 u.2.2.2.2.2.2.2.2.2.2.2.2.2.2.2.2.2.2.2.2.2.2.2.2.2.1) 19 u.2.2.2.2.2.2.2.2.2.2.2.2.2.2.2.2.2.2.2.2.2.2.2.2.2.2.1) 20 u.2.2.2.2.2.2.2.2.2.2.2.2.2.2.2.2.2.2.2.2.2.2.2.2.2.2.2.1) 27 u.2.2.2.2.2.2.2.2.2.2.2.2.2.2.2.2.2.2.2.2.2.2.2.2.2.2.2.2.1) 28 u.2.2.2.2.2.2.2.2.2.2.2.2.2.2.2.2.2.2.2.2.2.2.2.2.2.2.2.2.2.1) 30 u.2.2.2.2.2.2.2.2.2.2.2.2.2.2.2.2.2.2.2.2.2.2.2.2.2.2.2.2.2.2.1) 31 u.2.2.2.2.2.2.2.2.2.2.2.2.2.2.2.2.2.2.2.2.2.2.2.2.2.2.2.2.2.2.2.1) 32 u.2.2.2.2.2.2.2.2.2.2.2.2.2.2.2.2.2.2.2.2.2.2.2.2.2.2.2.2.2.2.2.2.1) 33 u.2.2.2.2.2.2.2.2.2.2.2.2.2.2.2.2.2.2.2.2.2.2.2.2.2.2.2.2.2.2.2.2.2.1) 34 u.2.2.2.2.2.2.2.2.2.2.2.2.2.2.2.2.2.2.2.2.2.2.2.2.2.2.2.2.2.2.2.2.2.2.1) 35 u.2.2.2.2.2.2.2.2.2.2.2.2.2.2.2.2.2.2.2.2.2.2.2.2.2.2.2.2.2.2.2.2.2.2.2.1) 36 u.2.2.2.2.2.2.2.2.2.2.2.2.2.2.2.2.2.2.2.2.2.2.2.2.2.2.2.2.2.2.2.2.2.2.2.2) ++ X) t) (al n0)) args s 0 0 (al n0)) (F0 m 349 ls []) := by
  have hx := C.1
  have hb := C.2.1
  have hts := C.2.2.2.2.1
  intro a1 a2 a3 a4 a5 a6 a7 a8 a15 a16 a17 a19 a20 a21 a22 a23 a24 a25 a26 l18 l27 i0 i1 i16 i17 i18 i19 i20 i27 i28 i30 i31 i32 i33 i34 i35 i36 x2 x3 x4 x5 x6 x7 x8 x10 hw H locs ls w hl
  unfold wl_Mo_breakUp_349 at hw
  refine lv_aload_n hx hb d_Mo_breakUp_349 rfl (lv_at hl 0 rfl) ?_
  refine lv_iload_n hx hb d_Mo_breakUp_350 rfl (lv_at hl 1 rfl) ?_
  refine kp (C1 := R_Mo) (T := F_Mo) (N := 43) (ci := 10) (ty0 := t_Mo) (ref := "LineBreakerModel") (w2 := wM K ad (sI (sI (sI (sI (sI (sI (sI (sI (sI (sI (sI (sI (sI (sI (sI (sI (sL (sL (sA (sA (sA (sA (sA (sA (sA (sA (sA (sA (sA (sA (sA (sA (sA (sA (sA (sA (sA S 1 a1) 2 a2) 3 a3) 4 a4) 5 a5) 6 a6) 7 a7) 8 a8) 15 a15) 16 a16) 17 a17) 19 a19) 20 a20) 21 a21) 22 a22) 23 a23) 24 a24) 25 a25) 26 a26) 18 l18) 27 l27) 0 i0) 1 x2) 16 i16) 17 i17) 18 i18) 19 i19) 20 i20) 27 i27) 28 i28) 30 i30) 31 i31) 32 i32) 33 i33) 34 i34) 35 i35) 36 i36) ++ X) C w 0 1 iw_Mo tk_Mo n_Mo rfl rfl (by decide) kw_878 rfl rfl rfl rfl (Nat.le_of_ble_eq_true rfl) rfl d_Mo_breakUp_351 (fun H locs w => ?_)
  refine lv_aload_n hx hb d_Mo_breakUp_354 rfl (lv_at hl 0 rfl) ?_
  refine kg (C1 := R_Mo) (T := F_Mo) (N := 43) (ci := 10) (ref := "LineBreakerModel") (v := .ref (ad 1)) C w 0 2 iw_Mo rfl rfl (by decide) kw_879 rfl rfl d_Mo_breakUp_355 ?_
  refine lv_iload_n hx hb d_Mo_breakUp_358 rfl (lv_at hl 2 rfl) ?_
  refine lv_iload hx hb d_Mo_breakUp_359 (lv_at hl 3 rfl) ?_
  obtain ⟨f1, ef1⟩ : ∃ z : Nat → Int32, z = upd a1 x3.toNatClampNeg x4 := ⟨_, rfl⟩
  refine ks_i (f := a1) (w2 := wM K ad (sI (sI (sI (sI (sI (sI (sI (sI (sI (sI (sI (sI (sI (sI (sI (sI (sL (sL (sA (sA (sA (sA (sA (sA (sA (sA (sA (sA (sA (sA (sA (sA (sA (sA (sA (sA (sA S 1 f1) 2 a2) 3 a3) 4 a4) 5 a5) 6 a6) 7 a7) 8 a8) 15 a15) 16 a16) 17 a17) 19 a19) 20 a20) 21 a21) 22 a22) 23 a23) 24 a24) 25 a25) 26 a26) 18 l18) 27 l27) 0 i0) 1 x2) 16 i16) 17 i17) 18 i18) 19 i19) 20 i20) 27 i27) 28 i28) 30 i30) 31 i31) 32 i32) 33 i33) 34 i34) 35 i35) 36 i36) ++ X) C w 1 rfl hw.1 (by rw [← ef1]; rfl) d_Mo_breakUp_361 (fun H locs w => ?_)
  have hw := hw.2 f1 ef1
  refine lv_aload_n hx hb d_Mo_breakUp_362 rfl (lv_at hl 0 rfl) ?_
  refine kg (C1 := R_Mo) (T := F_Mo) (N := 43) (ci := 10) (ref := "LineBreakerModel") (v := .ref (ad 2)) C w 0 3 iw_Mo rfl rfl (by decide) kw_880 rfl rfl d_Mo_breakUp_363 ?_
  refine lv_iload_n hx hb d_Mo_breakUp_366 rfl (lv_at hl 2 rfl) ?_
  refine lv_iload hx hb d_Mo_breakUp_367 (lv_at hl 4 rfl) ?_
  obtain ⟨f2, ef2⟩ : ∃ z : Nat → Int32, z = upd a2 x3.toNatClampNeg x5 := ⟨_, rfl⟩
  refine ks_i (f := a2) (w2 := wM K ad (sI (sI (sI (sI (sI (sI (sI (sI (sI (sI (sI (sI (sI (sI (sI (sI (sL (sL (sA (sA (sA (sA (sA (sA (sA (sA (sA (sA (sA (sA (sA (sA (sA (sA (sA (sA (sA S 1 f1) 2 f2) 3 a3) 4 a4) 5 a5) 6 a6) 7 a7) 8 a8) 15 a15) 16 a16) 17 a17) 19 a19) 20 a20) 21 a21) 22 a22) 23 a23) 24 a24) 25 a25) 26 a26) 18 l18) 27 l27) 0 i0) 1 x2) 16 i16) 17 i17) 18 i18) 19 i19) 20 i20) 27 i27) 28 i28) 30 i30) 31 i31) 32 i32) 33 i33) 34 i34) 35 i35) 36 i36) ++ X) C w 2 rfl hw.1 (by rw [← ef2]; rfl) d_Mo_breakUp_369 (fun H locs w => ?_)
  have hw := hw.2 f2 ef2
  refine lv_aload_n hx hb d_Mo_breakUp_370 rfl (lv_at hl 0 rfl) ?_
  refine kg (C1 := R_Mo) (T := F_Mo) (N := 43) (ci := 10) (ref := "LineBreakerModel") (v := .ref (ad 3)) C w 0 4 iw_Mo rfl rfl (by decide) kw_881 rfl rfl d_Mo_breakUp_371 ?_
  refine lv_iload_n hx hb d_Mo_breakUp_374 rfl (lv_at hl 2 rfl) ?_
  refine lv_iload hx hb d_Mo_breakUp_375 (lv_at hl 5 rfl) ?_
  obtain ⟨f3, ef3⟩ : ∃ z : Nat → Int32, z = upd a3 x3.toNatClampNeg x6 := ⟨_, rfl⟩
  refine ks_i (f := a3) (w2 := wM K ad (sI (sI (sI (sI (sI (sI (sI (sI (sI (sI (sI (sI (sI (sI (sI (sI (sL (sL (sA (sA (sA (sA (sA (sA (sA (sA (sA (sA (sA (sA (sA (sA (sA (sA (sA (sA (sA S 1 f1) 2 f2) 3 f3) 4 a4) 5 a5) 6 a6) 7 a7) 8 a8) 15 a15) 16 a16) 17 a17) 19 a19) 20 a20) 21 a21) 22 a22) 23 a23) 24 a24) 25 a25) 26 a26) 18 l18) 27 l27) 0 i0) 1 x2) 16 i16) 17 i17) 18 i18) 19 i19) 20 i20) 27 i27) 28 i28) 30 i30) 31 i31) 32 i32) 33 i33) 34 i34) 35 i35) 36 i36) ++ X) C w 3 rfl hw.1 (by rw [← ef3]; rfl) d_Mo_breakUp_377 (fun H locs w => ?_)
  have hw := hw.2 f3 ef3
  refine lv_aload_n hx hb d_Mo_breakUp_378 rfl (lv_at hl 0 rfl) ?_
  refine kg (C1 := R_Mo) (T := F_Mo) (N := 43) (ci := 10) (ref := "LineBreakerModel") (v := .ref (ad 4)) C w 0 5 iw_Mo rfl rfl (by decide) kw_882 rfl rfl d_Mo_breakUp_379 ?_
  refine lv_iload_n hx hb d_Mo_breakUp_382 rfl (lv_at hl 2 rfl) ?_
  refine lv_iload hx hb d_Mo_breakUp_383 (lv_at hl 6 rfl) ?_
  obtain ⟨f4, ef4⟩ : ∃ z : Nat → Int32, z = upd a4 x3.toNatClampNeg x7 := ⟨_, rfl⟩
  refine ks_i (f := a4) (w2 := wM K ad (sI (sI (sI (sI (sI (sI (sI (sI (sI (sI (sI (sI (sI (sI (sI (sI (sL (sL (sA (sA (sA (sA (sA (sA (sA (sA (sA (sA (sA (sA (sA (sA (sA (sA (sA (sA (sA S 1 f1) 2 f2) 3 f3) 4 f4) 5 a5) 6 a6) 7 a7) 8 a8) 15 a15) 16 a16) 17 a17) 19 a19) 20 a20) 21 a21) 22 a22) 23 a23) 24 a24) 25 a25) 26 a26) 18 l18) 27 l27) 0 i0) 1 x2) 16 i16) 17 i17) 18 i18) 19 i19) 20 i20) 27 i27) 28 i28) 30 i30) 31 i31) 32 i32) 33 i33) 34 i34) 35 i35) 36 i36) ++ X) C w 4 rfl hw.1 (by rw [← ef4]; rfl) d_Mo_breakUp_385 (fun H locs w => ?_)
  have hw := hw.2 f4 ef4
  refine lv_aload_n hx hb d_Mo_breakUp_386 rfl (lv_at hl 0 rfl) ?_
  refine kg (C1 := R_Mo) (T := F_Mo) (N := 43) (ci := 10) (ref := "LineBreakerModel") (v := .ref (ad 5)) C w 0 6 iw_Mo rfl rfl (by decide) kw_883 rfl rfl d_Mo_breakUp_387 ?_
  refine lv_iload_n hx hb d_Mo_breakUp_390 rfl (lv_at hl 2 rfl) ?_
  refine lv_iload hx hb d_Mo_breakUp_391 (lv_at hl 7 rfl) ?_
  obtain ⟨f5, ef5⟩ : ∃ z : Nat → Int32, z = upd a5 x3.toNatClampNeg x8 := ⟨_, rfl⟩
  refine ks_i (f := a5) (w2 := wM K ad (sI (sI (sI (sI (sI (sI (sI (sI (sI (sI (sI (sI (sI (sI (sI (sI (sL (sL (sA (sA (sA (sA (sA (sA (sA (sA (sA (sA (sA (sA (sA (sA (sA (sA (sA (sA (sA S 1 f1) 2 f2) 3 f3) 4 f4) 5 f5) 6 a6) 7 a7) 8 a8) 15 a15) 16 a16) 17 a17) 19 a19) 20 a20) 21 a21) 22 a22) 23 a23) 24 a24) 25 a25) 26 a26) 18 l18) 27 l27) 0 i0) 1 x2) 16 i16) 17 i17) 18 i18) 19 i19) 20 i20) 27 i27) 28 i28) 30 i30) 31 i31) 32 i32) 33 i33) 34 i34) 35 i35) 36 i36) ++ X) C w 5 rfl hw.1 (by rw [← ef5]; rfl) d_Mo_breakUp_393 (fun H locs w => ?_)
  have hw := hw.2 f5 ef5
  refine lv_iload hx hb d_Mo_breakUp_394 (lv_at hl 8 rfl) ?_
  exact ke_i (post := (fun r (u : (Nat → Int32) × (Nat → Int32) × (Nat → Int32) × (Nat → Int32) × (Nat → Int32) × (Nat → Int32) × (Nat → Int32) × (Nat → Int32) × (Nat → Int32) × (Nat → Int32) × (Nat → Int32) × (Nat → Int32) × (Nat → Int32) × (Nat → Int32) × (Nat → Int32) × (Nat → Int32) × (Nat → Int32) × (Nat → Int32) × (Nat → Int32) × (Nat → Int64) × (Nat → Int64) × Int32 × Int32 × Int32 × Int32 × Int32 × Int32 × Int32 × Int32 × Int32 × Int32 × Int32 × Int32 × Int32 × Int32 × Int32 × Int32) => post r u.1 u.2.1 u.2.2.1 u.2.2.2.1 u.2.2.2.2.1 u.2.2.2.2.2.1 u.2.2.2.2.2.2.1 u.2.2.2.2.2.2.2.1 u.2.2.2.2.2.2.2.2.1 u.2.2.2.2.2.2.2.2.2.1 u.2.2.2.2.2.2.2.2.2.2.1 u.2.2.2.2.2.2.2.2.2.2.2.1 u.2.2.2.2.2.2.2.2.2.2.2.2.1 u.2.2.2.2.2.2.2.2.2.2.2.2.2.1 u.2.2.2.2.2.2.2.2.2.2.2.2.2.2.1 u.2.2.2.2.2.2.2.2.2.2.2.2.2.2.2.1 u.2.2.2.2.2.2.2.2.2.2.2.2.2.2.2.2.1 u.2.2.2.2.2.2.2.2.2.2.2.2.2.2.2.2.2.1 u.2.2.2.2.2.2.2.2.2.2.2.2.2.2.2.2.2.2.1 u.2.2.2.2.2.2.2.2.2.2.2.2.2.2.2.2.2.2.2.1 u.2.2.2.2.2.2.2.2.2.2.2.2.2.2.2.2.2.2.2.2.1 u.2.2.2.2.2.2.2.2.2.2.2.2.2.2.2.2.2.2.2.2.2.1 u.2.2.2.2.2.2.2.2.2.2.2.2.2.2.2.2.2.2.2.2.2.2.1 u.2.2.2.2.2.2.2.2.2.2.2.2.2.2.2.2.2.2.2.2.2.2.2.1 u.2.2.2.2.2.2.2.2.2.2.2.2.2.2.2.2.2.2.2.2.2.2.2.2.1 u.2.2.2.2.2.2.2.2.2.2.2.2.2.2.2.2.2.2.2.2.2.2.2.2.2.1 u.2.2.2.2.2.2.2.2.2.2.2.2.2.2.2.2.2.2.2.2.2.2.2.2.2.2.1 u.2.2.2.2.2.2.2.2.2.2.2.2.2.2.2.2.2.2.2.2.2.2.2.2.2.2.2.1 u.2.2.2.2.2.2.2.2.2.2.2.2.2.2.2.2.2.2.2.2.2.2.2.2.2.2.2.2.1 u.2.2.2.2.2.2.2.2.2.2.2.2.2.2.2.2.2.2.2.2.2.2.2.2.2.2.2.2.2.1 u.2.2.2.2.2.2.2.2.2.2.2.2.2.2.2.2.2.2.2.2.2.2.2.2.2.2.2.2.2.2.1 u.2.2.2.2.2.2.2.2.2.2.2.2.2.2.2.2.2.2.2.2.2.2.2.2.2.2.2.2.2.2.2.1 u.2.2.2.2.2.2.2.2.2.2.2.2.2.2.2.2.2.2.2.2.2.2.2.2.2.2.2.2.2.2.2.2.1 u.2.2.2.2.2.2.2.2.2.2.2.2.2.2.2.2.2.2.2.2.2.2.2.2.2.2.2.2.2.2.2.2.2.1 u.2.2.2.2.2.2.2.2.2.2.2.2.2.2.2.2.2.2.2.2.2.2.2.2.2.2.2.2.2.2.2.2.2.2.1 u.2.2.2.2.2.2.2.2.2.2.2.2.2.2.2.2.2.2.2.2.2.2.2.2.2.2.2.2.2.2.2.2.2.2.2.1 u.2.2.2.2.2.2.2.2.2.2.2.2.2.2.2.2.2.2.2.2.2.2.2.2.2.2.2.2.2.2.2.2.2.2.2.2)) (st := (fun (u : (Nat → Int32) × (Nat → Int32) × (Nat → Int32) × (Nat → Int32) × (Nat → Int32) × (Nat → Int32) × (Nat → Int32) × (Nat → Int32) × (Nat → Int32) × (Nat → Int32) × (Nat → Int32) × (Nat → Int32) × (Nat → Int32) × (Nat → Int32) × (Nat → Int32) × (Nat → Int32) × (Nat → Int32) × (Nat → Int32) × (Nat → Int32) × (Nat → Int64) × (Nat → Int64) × Int32 × Int32 × Int32 × Int32 × Int32 × Int32 × Int32 × Int32 × Int32 × Int32 × Int32 × Int32 × Int32 × Int32 × Int32 × Int32) => wM K ad (sI (sI (sI (sI (sI (sI (sI (sI (sI (sI (sI (sI (sI (sI (sI (sI (sL (sL (sA (sA (sA (sA (sA (sA (sA (sA (sA (sA (sA (sA (sA (sA (sA (sA (sA (sA (sA S 1 u.1) 2 u.2.1) 3 u.2.2.1) 4 u.2.2.2.1) 5 u.2.2.2.2.1) 6 u.2.2.2.2.2.1) 7 u.2.2.2.2.2.2.1) 8 u.2.2.2.2.2.2.2.1) 15 u.2.2.2.2.2.2.2.2.1) 16 u.2.2.2.2.2.2.2.2.2.1) 17 u.2.2.2.2.2.2.2.2.2.2.1) 19 u.2.2.2.2.2.2.2.2.2.2.2.1) 20 u.2.2.2.2.2.2.2.2.2.2.2.2.1) 21 u.2.2.2.2.2.2.2.2.2.2.2.2.2.1) 22 u.2.2.2.2.2.2.2.2.2.2.2.2.2.2.1) 23 u.2.2.2.2.2.2.2.2.2.2.2.2.2.2.2.1) 24 u.2.2.2.2.2.2.2.2.2.2.2.2.2.2.2.2.1) 25 u.2.2.2.2.2.2.2.2.2.2.2.2.2.2.2.2.2.1) 26 u.2.2.2.2.2.2.2.2.2.2.2.2.2.2.2.2.2.2.1) 18 u.2.2.2.2.2.2.2.2.2.2.2.2.2.2.2.2.2.2.2.1) 27 u.2.2.2.2.2.2.2.2.2.2.2.2.2.2.2.2.2.2.2.2.1) 0 u.2.2.2.2.2.2.2.2.2.2.2.2.2.2.2.2.2.2.2.2.2.1) 1 u.2.2.2.2.2.2.2.2.2.2.2.2.2.2.2.2.2.2.2.2.2.2.1) 16 u.2.2.2.2.2.2.2.2.2.2.2.2.2.2.2.2.2.2.2.2.2.2.2.1) 17 u.2.2.2.2.2.2.2.2.2.2.2.2.2.2.2.2.2.2.2.2.2.2.2.2.1) 18 u.2.2.2.2.2.2.2.2.2.2.2.2.2.2.2.2.2.2.2.2.2.2.2.2.2.1) 19 u.2.2.2.2.2.2.2.2.2.2.2.2.2.2.2.2.2.2.2.2.2.2.2.2.2.2.1) 20 u.2.2.2.2.2.2.2.2.2.2.2.2.2.2.2.2.2.2.2.2.2.2.2.2.2.2.2.1) 27 u.2.2.2.2.2.2.2.2.2.2.2.2.2.2.2.2.2.2.2.2.2.2.2.2.2.2.2.2.1) 28 u.2.2.2.2.2.2.2.2.2.2.2.2.2.2.2.2.2.2.2.2.2.2.2.2.2.2.2.2.2.1) 30 u.2.2.2.2.2.2.2.2.2.2.2.2.2.2.2.2.2.2.2.2.2.2.2.2.2.2.2.2.2.2.1) 31 u.2.2.2.2.2.2.2.2.2.2.2.2.2.2.2.2.2.2.2.2.2.2.2.2.2.2.2.2.2.2.2.1) 32 u.2.2.2.2.2.2.2.2.2.2.2.2.2.2.2.2.2.2.2.2.2.2.2.2.2.2.2.2.2.2.2.2.1) 33 u.2.2.2.2.2.2.2.2.2.2.2.2.2.2.2.2.2.2.2.2.2.2.2.2.2.2.2.2.2.2.2.2.2.1) 34 u.2.2.2.2.2.2.2.2.2.2.2.2.2.2.2.2.2.2.2.2.2.2.2.2.2.2.2.2.2.2.2.2.2.2.1) 35 u.2.2.2.2.2.2.2.2.2.2.2.2.2.2.2.2.2.2.2.2.2.2.2.2.2.2.2.2.2.2.2.2.2.2.2.1) 36 u.2.2.2.2.2.2.2.2.2.2.2.2.2.2.2.2.2.2.2.2.2.2.2.2.2.2.2.2.2.2.2.2.2.2.2.2) ++ X)) (u := (f1, f2, f3, f4, f5, a6, a7, a8, a15, a16, a17, a19, a20, a21, a22, a23, a24, a25, a26, l18, l27, i0, x2, i16, i17, i18, i19, i20, i27, i28, i30, i31, i32, i33, i34, i35, i36)) C hr d_Mo_breakUp_396 (wn_eq w rfl) hw
set_option maxHeartbeats 4000000 in
set_option maxRecDepth 100000 in
theorem w_Mo_breakUp_336 {S : ST} {post : Int32 → (Nat → Int32) → (Nat → Int32) → (Nat → Int32) → (Nat → Int32) → (Nat → Int32) → (Nat → Int32) → (Nat → Int32) → (Nat → Int32) → (Nat → Int32) → (Nat → Int32) → (Nat → Int32) → (Nat → Int32) → (Nat → Int32) → (Nat → Int32) → (Nat → Int32) → (Nat → Int32) → (Nat → Int32) → (Nat → Int32) → (Nat → Int32) → (Nat → Int64) → (Nat → Int64) → Int32 → Int32 → Int32 → Int32 → Int32 → Int32 → Int32 → Int32 → Int32 → Int32 → Int32 → Int32 → Int32 → Int32 → Int32 → Int32 → Prop} (C : cx p s m args meth c prog_12_method_42_code 14 "LineBreakerModel" n0 G K) (hr : meth.sig.returnType = (some .int)) {K283 : (Nat → Int32) → (Nat → Int32) → (Nat → Int32) → (Nat → Int32) → (Nat → Int32) → (Nat → Int32) → (Nat → Int32) → (Nat → Int32) → (Nat → Int32) → (Nat → Int32) → (Nat → Int32) → (Nat → Int32) → (Nat → Int32) → (Nat → Int32) → (Nat → Int32) → (Nat → Int32) → (Nat → Int32) → (Nat → Int32) → (Nat → Int32) → (Nat → Int64) → (Nat → Int64) → Int32 → Int32 → Int32 → Int32 → Int32 → Int32 → Int32 → Int32 → Int32 → Int32 → Int32 → Int32 → Int32 → Int32 → Int32 → Int32 → Int32 → Int32 → Int32 → Int32 → Int32 → Int32 → Int32 → Int32 → Int32 → Int32 → Prop} (hk283 : ∀ (a1 : (Nat → Int32)) (a2 : (Nat → Int32)) (a3 : (Nat → Int32)) (a4 : (Nat → Int32)) (a5 : (Nat → Int32)) (a6 : (Nat → Int32)) (a7 : (Nat → Int32)) (a8 : (Nat → Int32)) (a15 : (Nat → Int32)) (a16 : (Nat → Int32)) (a17 : (Nat → Int32)) (a19 : (Nat → Int32)) (a20 : (Nat → Int32)) (a21 : (Nat → Int32)) (a22 : (Nat → Int32)) (a23 : (Nat → Int32)) (a24 : (Nat → Int32)) (a25 : (Nat → Int32)) (a26 : (Nat → Int32)) (l18 : (Nat → Int64)) (l27 : (Nat → Int64)) (i0 : Int32) (i1 : Int32) (i16 : Int32) (i17 : Int32) (i18 : Int32) (i19 : Int32) (i20 : Int32) (i27 : Int32) (i28 : Int32) (i30 : Int32) (i31 : Int32) (i32 : Int32) (i33 : Int32) (i34 : Int32) (i35 : Int32) (i36 : Int32) (x2 : Int32) (x3 : Int32) (x4 : Int32) (x5 : Int32) (x6 : Int32) (x7 : Int32) (x8 : Int32) (x10 : Int32) (x11 : Int32) (x12 : Int32), K283 a1 a2 a3 a4 a5 a6 a7 a8 a15 a16 a17 a19 a20 a21 a22 a23 a24 a25 a26 l18 l27 i0 i1 i16 i17 i18 i19 i20 i27 i28 i30 i31 i32 i33 i34 i35 i36 x2 x3 x4 x5 x6 x7 x8 x10 x11 x12 → ∀ (H : Heap) (locs : List Loc) (ls : Array Slot), wn n0 G (wM K ad (sI (sI (sI (sI (sI (sI (sI (sI (sI (sI (sI (sI (sI (sI (sI (sI (sL (sL (sA (sA (sA (sA (sA (sA (sA (sA (sA (sA (sA (sA (sA (sA (sA (sA (sA (sA (sA S 1 a1) 2 a2) 3 a3) 4 a4) 5 a5) 6 a6) 7 a7) 8 a8) 15 a15) 16 a16) 17 a17) 19 a19) 20 a20) 21 a21) 22 a22) 23 a23) 24 a24) 25 a25) 26 a26) 18 l18) 27 l27) 0 i0) 1 i1) 16 i16) 17 i17) 18 i18) 19 i19) 20 i20) 27 i27) 28 i28) 30 i30) 31 i31) 32 i32) 33 i33) 34 i34) 35 i35) 36 i36) ++ X) s H locs → lv_has ls 14 [(0, .ref (ad 0)), (2, .int x2), (3, .int x3), (4, .int x4), (5, .int x5), (6, .int x6), (7, .int x7), (8, .int x8), (10, .int x10), (11, .int x11), (12, .int x12)] → W p l e rm_Mo_breakUp s m args below meth c H locs 0 0 (MQ below (va_Qi (fun r (u : (Nat → Int32) × (Nat → Int32) × (Nat → Int32) × (Nat → Int32) × (Nat → Int32) × (Nat → Int32) × (Nat → Int32) × (Nat → Int32) × (Nat → Int32) × (Nat → Int32) × (Nat → Int32) × (Nat → Int32) × (Nat → Int32) × (Nat → Int32) × (Nat → Int32) × (Nat → Int32) × (Nat → Int32) × (Nat → Int32) × (Nat → Int32) × (Nat → Int64) × (Nat → Int64) × Int32 × Int32 × Int32 × Int32 × Int32 × Int32 × Int32 × Int32 × Int32 × Int32 × Int32 × Int32 × Int32 × Int32 × Int32 × Int32) => post r u.1 u.2.1 u.2.2.1 u.2.2.2.1 u.2.2.2.2.1 u.2.2.2.2.2.1 u.2.2.2.2.2.2.1 u.2.2.2.2.2.2.2.1 u.2.2.2.2.2.2.2.2.1 u.2.2.2.2.2.2.2.2.2.1 u.2.2.2.2.2.2.2.2.2.2.1 u.2.2.2.2.2.2.2.2.2.2.2.1 u.2.2.2.2.2.2.2.2.2.2.2.2.1 u.2.2.2.2.2.2.2.2.2.2.2.2.2.1 u.2.2.2.2.2.2.2.2.2.2.2.2.2.2.1 u.2.2.2.2.2.2.2.2.2.2.2.2.2.2.2.1 u.2.2.2.2.2.2.2.2.2.2.2.2.2.2.2.2.1 u.2.2.2.2.2.2.2.2.2.2.2.2.2.2.2.2.2.1 u.2.2.2.2.2.2.2.2.2.2.2.2.2.2.2.2.2.2.1 u.2.2.2.2.2.2.2.2.2.2.2.2.2.2.2.2.2.2.2.1 u.2.2.2.2.2.2.2.2.2.2.2.2.2.2.2.2.2.2.2.2.1 u.2.2.2.2.2.2.2.2.2.2.2.2.2.2.2.2.2.2.2.2.2.1 u.2.2.2.2.2.2.2.2.2.2.2.2.2.2.2.2.2.2.2.2.2.2.1 u.2.2.2.2.2.2.2.2.2.2.2.2.2.2.2.2.2.2.2.2.2.2.2.1 u.2.2.2.2.2.2.2.2.2.2.2.2.2.2.2.2.2.2.2.2.2.2.2.2.1 u.2.2.2.2.2.2.2.2.2.2.2.2.2.2.2.2.2.2.2.2.2.2.2.2.2.1 u.2.2.2.2.2.2.2.2.2.2.2.2.2.2.2.2.2.2.2.2.2.2.2.2.2.2.1 u.2.2.2.2.2.2.2.2.2.2.2.2.2.2.2.2.2.2.2.2.2.2.2.2.2.2.2.1 u.2.2.2.2.2.2.2.2.2.2.2.2.2.2.2.2.2.2.2.2.2.2.2.2.2.2.2.2.1 u.2.2.2.2.2.2.2.2.2.2.2.2.2.2.2.2.2.2.2.2.2.2.2.2.2.2.2.2.2.1 u.2.2.2.2.2.2.2.2.2.2.2.2.2.2.2.2.2.2.2.2.2.2.2.2.2.2.2.2.2.2.1 u.2.2.2.2.2.2.2.2.2.2.2.2.2.2.2.2.2.2.2.2.2.2.2.2.2.2.2.2.2.2.2.1 u.2.2.2.2.2.2.2.2.2.2.2.2.2.2.2.2.2.2.2.2.2.2.2.2.2.2.2.2.2.2.2.2.1 u.2.2.2.2.2.2.2.2.2.2.2.2.2.2.2.2.2.2.2.2.2.2.2.2.2.2.2.2.2.2.2.2.2.1 u.2.2.2.2.2.2.2.2.2.2.2.2.2.2.2.2.2.2.2.2.2.2.2.2.2.2.2.2.2.2.2.2.2.2.1 u.2.2.2.2.2.2.2.2.2.2.2.2.2.2.2.2.2.2.2.2.2.2.2.2.2.2.2.2.2.2.2.2.2.2.2.1 u.2.2.2.2.2.2.2.2.2.2.2.2.2.2.2.2.2.2.2.2.2.2.2.2.2.2.2.2.2.2.2.2.2.2.2.2) (fun (u : (Nat → Int32) × (Nat → Int32) × (Nat → Int32) × (Nat → Int32) × (Nat → Int32) × (Nat → Int32) × (Nat → Int32) × (Nat → Int32) × (Nat → Int32) × (Nat → Int32) × (Nat → Int32) × (Nat → Int32) × (Nat → Int32) × (Nat → Int32) × (Nat → Int32) × (Nat → Int32) × (Nat → Int32) × (Nat → Int32) × (Nat → Int32) × (Nat → Int64) × (Nat → Int64) × Int32 × Int32 × Int32 × Int32 × Int32 × Int32 × Int32 × Int32 × Int32 × Int32 × Int32 × Int32 × Int32 × Int32 × Int32 × Int32) t => we n0 G (wM K ad (sI (sI (sI (sI (sI (sI (sI (sI (sI (sI (sI (sI (sI (sI (sI (sI (sL (sL (sA (sA (sA (sA (sA (sA (sA (sA (sA (sA (sA (sA (sA (sA (sA (sA (sA (sA (sA S 1 u.1) 2 u.2.1) 3 u.2.2.1) 4 u.2.2.2.1) 5 u.2.2.2.2.1) 6 u.2.2.2.2.2.1) 7 u.2.2.2.2.2.2.1) 8 u.2.2.2.2.2.2.2.1) 15 u.2.2.2.2.2.2.2.2.1) 16 u.2.2.2.2.2.2.2.2.2.1) 17 u.2.2.2.2.2.2.2.2.2.2.1) 19 u.2.2.2.2.2.2.2.2.2.2.2.1) 20 u.2.2.2.2.2.2.2.2.2.2.2.2.1) 21 u.2.2.2.2.2.2.2.2.2.2.2.2.2.1) 22 u.2.2.2.2.2.2.2.2.2.2.2.2.2.2.1) 23 u.2.2.2.2.2.2.2.2.2.2.2.2.2.2.2.1) 24 u.2.2.2.2.2.2.2.2.2.2.2.2.2.2.2.2.1) 25 u.2.2.2.2.2.2.2.2.2.2.2.2.2.2.2.2.2.1) 26 u.2.2.2.2.2.2.2.2.2.2.2.2.2.2.2.2.2.2.1) 18 u.2.2.2.2.2.2.2.2.2.2.2.2.2.2.2.2.2.2.2.1) 27 u.2.2.2.2.2.2.2.2.2.2.2.2.2.2.2.2.2.2.2.2.1) 0 u.2.2.2.2.2.2.2.2.2.2.2.2.2.2.2.2.2.2.2.2.2.1) 1 u.2.2.2.2.2.2.2.2.2.2.2.2.2.2.2.2.2.2.2.2.2.2.1) 16 u.2.2.2.2.2.2.2.2.2.2.2.2.2.2.2.2.2.2.2.2.2.2.2.1) 17 u.2.2.2.2.2.2.2.2.2.2.2.2.2.2.2.2.2.2.2.2.2.2.2.2.1) 18 u.2.2.2.2.2.2.2.2.2.2.2.2.2.2.2.2.2.2.2.2.2.2.2.2.2.1) 19 u.2.2.2.2.2.2.2.2.2.2.2.2.2.2.2.2.2.2.2.2.2.2.2.2.2.2.1) 20 u.2.2.2.2.2.2.2.2.2.2.2.2.2.2.2.2.2.2.2.2.2.2.2.2.2.2.2.1) 27 u.2.2.2.2.2.2.2.2.2.2.2.2.2.2.2.2.2.2.2.2.2.2.2.2.2.2.2.2.1) 28 u.2.2.2.2.2.2.2.2.2.2.2.2.2.2.2.2.2.2.2.2.2.2.2.2.2.2.2.2.2.1) 30 u.2.2.2.2.2.2.2.2.2.2.2.2.2.2.2.2.2.2.2.2.2.2.2.2.2.2.2.2.2.2.1) 31 u.2.2.2.2.2.2.2.2.2.2.2.2.2.2.2.2.2.2.2.2.2.2.2.2.2.2.2.2.2.2.2.1) 32 u.2.2.2.2.2.2.2.2.2.2.2.2.2.2.2.2.2.2.2.2.2.2.2.2.2.2.2.2.2.2.2.2.1) 33 u.2.2.2.2.2.2.2.2.2.2.2.2.2.2.2.2.2.2.2.2.2.2.2.2.2.2.2.2.2.2.2.2.2.1) 34 u.2.2.2.2.2.2.2.2.2.2.2.2.2.2.2.2.2.2.2.2.2.2.2.2.2.2.2.2.2.2.2.2.2.2.1) 35 u.2.2.2.2.2.2.2.2.2.2.2.2.2.2.2.2.2.2.2.2.2.2.2.2.2.2.2.2.2.2.2.2.2.2.2.1) 36 u.2.2.2.2.2.2.2.2.2.2.2.2.2.2.2.2.2.2.2.2.2.2.2.2.2.2.2.2.2.2.2.2.2.2.2.2) ++ X) t) (al n0)) args s 0 0 (al n0)) (F0 m 283 ls [])) : ∀ (a1 : (Nat → Int32)) (a2 : (Nat → Int32)) (a3 : (Nat → Int32)) (a4 : (Nat → Int32)) (a5 : (Nat → Int32)) (a6 : (Nat → Int32)) (a7 : (Nat → Int32)) (a8 : (Nat → Int32)) (a15 : (Nat → Int32)) (a16 : (Nat → Int32)) (a17 : (Nat → Int32)) (a19 : (Nat → Int32)) (a20 : (Nat → Int32)) (a21 : (Nat → Int32)) (a22 : (Nat → Int32)) (a23 : (Nat → Int32)) (a24 : (Nat → Int32)) (a25 : (Nat → Int32)) (a26 : (Nat → Int32)) (l18 : (Nat → Int64)) (l27 : (Nat → Int64)) (i0 : Int32) (i1 : Int32) (i16 : Int32) (i17 : Int32) (i18 : Int32) (i19 : Int32) (i20 : Int32) (i27 : Int32) (i28 : Int32) (i30 : Int32) (i31 : Int32) (i32 : Int32) (i33 : Int32) (i34 : Int32) (i35 : Int32) (i36 : Int32) (x2 : Int32) (x3 : Int32) (x4 : Int32) (x5 : Int32) (x6 : Int32) (x7 : Int32) (x8 : Int32) (x10 : Int32) (x11 : Int32) (x12 : Int32), wl_Mo_breakUp_336 S post K283 a1 a2 a3 a4 a5 a6 a7 a8 a15 a16 a17 a19 a20 a21 a22 a23 a24 a25 a26 l18 l27 i0 i1 i16 i17 i18 i19 i20 i27 i28 i30 i31 i32 i33 i34 i35 i36 x2 x3 x4 x5 x6 x7 x8 x10 x11 x12 → ∀ (H : Heap) (locs : List Loc) (ls : Array Slot), wn n0 G (wM K ad (sI (sI (sI (sI (sI (sI (sI (sI (sI (sI (sI (sI (sI (sI (sI (sI (sL (sL (sA (sA (sA (sA (sA (sA (sA (sA (sA (sA (sA (sA (sA (sA (sA (sA (sA (sA (sA S 1 a1) 2 a2) 3 a3) 4 a4) 5 a5) 6 a6) 7 a7) 8 a8) 15 a15) 16 a16) 17 a17) 19 a19) 20 a20) 21 a21) 22 a22) 23 a23) 24 a24) 25 a25) 26 a26) 18 l18) 27 l27) 0 i0) 1 i1) 16 i16) 17 i17) 18 i18) 19 i19) 20 i20) 27 i27) 28 i28) 30 i30) 31 i31) 32 i32) 33 i33) 34 i34) 35 i35) 36 i36) ++ X) s H locs → lv_has ls 14 [(0, .ref (ad 0)), (2, .int x2), (3, .int x3), (4, .int x4), (5, .int x5), (6, .int x6), (7, .int x7), (8, .int x8), (10, .int x10), (11, .int x11), (12, .int x12)] → W p l e rm_Mo_breakUp s m args below meth c H locs 0 0 (MQ below (va_Qi (fun r (u : (Nat → Int32) × (Nat → Int32) × (Nat → Int32) × (Nat → Int32) × (Nat → Int32) × (Nat → Int32) × (Nat → Int32) × (Nat → Int32) × (Nat → Int32) × (Nat → Int32) × (Nat → Int32) × (Nat → Int32) × (Nat → Int32) × (Nat → Int32) × (Nat → Int32) × (Nat → Int32) × (Nat → Int32) × (Nat → Int32) × (Nat → Int32) × (Nat → Int64) × (Nat → Int64) × Int32 × Int32 × Int32 × Int32 × Int32 × Int32 × Int32 × Int32 × Int32 × Int32 × Int32 × Int32 × Int32 × Int32 × Int32 × Int32) => post r u.1 u.2.1 u.2.2.1 u.2.2.2.1 u.2.2.2.2.1 u.2.2.2.2.2.1 u.2.2.2.2.2.2.1 u.2.2.2.2.2.2.2.1 u.2.2.2.2.2.2.2.2.1 u.2.2.2.2.2.2.2.2.2.1 u.2.2.2.2.2.2.2.2.2.2.1 u.2.2.2.2.2.2.2.2.2.2.2.1 u.2.2.2.2.2.2.2.2.2.2.2.2.1 u.2.2.2.2.2.2.2.2.2.2.2.2.2.1 u.2.2.2.2.2.2.2.2.2.2.2.2.2.2.1 u.2.2.2.2.2.2.2.2.2.2.2.2.2.2.2.1 u.2.2.2.2.2.2.2.2.2.2.2.2.2.2.2.2.1 u.2.2.2.2.2.2.2.2.2.2.2.2.2.2.2.2.2.1 u.2.2.2.2.2.2.2.2.2.2.2.2.2.2.2.2.2.2.1 u.2.2.2.2.2.2.2.2.2.2.2.2.2.2.2.2.2.2.2.1 u.2.2.2.2.2.2.2.2.2.2.2.2.2.2.2.2.2.2.2.2.1 u.2.2.2.2.2.2.2.2.2.2.2.2.2.2.2.2.2.2.2.2.2.1 u.2.2.2.2.2.2.2.2.2.2.2.2.2.2.2.2.2.2.2.2.2.2.1 u.2.2.2.2.2.2.2.2.2.2.2.2.2.2.2.2.2.2.2.2.2.2.2.1 u.2.2.2.2.2.2.2.2.2.2.2.2.2.2.2.2.2.2.2.2.2.2.2.2.1 u.2.2.2.2.2.2.2.2.2.2.2.2.2.2.2.2.2.2.2.2.2.2.2.2.2.1 u.2.2.2.2.2.2.2.2.2.2.2.2.2.2.2.2.2.2.2.2.2.2.2.2.2.2.1 u.2.2.2.2.2.2.2.2.2.2.2.2.2.2.2.2.2.2.2.2.2.2.2.2.2.2.2.1 u.2.2.2.2.2.2.2.2.2.2.2.2.2.2.2.2.2.2.2.2.2.2.2.2.2.2.2.2.1 u.2.2.2.2.2.2.2.2.2.2.2.2.2.2.2.2.2.2.2.2.2.2.2.2.2.2.2.2.2.1 u.2.2.2.2.2.2.2.2.2.2.2.2.2.2.2.2.2.2.2.2.2.2.2.2.2.2.2.2.2.2.1 u.2.2.2.2.2.2.2.2.2.2.2.2.2.2.2.2.2.2.2.2.2.2.2.2.2.2.2.2.2.2.2.1 u.2.2.2.2.2.2.2.2.2.2.2.2.2.2.2.2.2.2.2.2.2.2.2.2.2.2.2.2.2.2.2.2.1 u.2.2.2.2.2.2.2.2.2.2.2.2.2.2.2.2.2.2.2.2.2.2.2.2.2.2.2.2.2.2.2.2.2.1 u.2.2.2.2.2.2.2.2.2.2.2.2.2.2.2.2.2.2.2.2.2.2.2.2.2.2.2.2.2.2.2.2.2.2.1 u.2.2.2.2.2.2.2.2.2.2.2.2.2.2.2.2.2.2.2.2.2.2.2.2.2.2.2.2.2.2.2.2.2.2.2.1 u.2.2.2.2.2.2.2.2.2.2.2.2.2.2.2.2.2.2.2.2.2.2.2.2.2.2.2.2.2.2.2.2.2.2.2.2) (fun (u : (Nat → Int32) × (Nat → Int32) × (Nat → Int32) × (Nat → Int32) × (Nat → Int32) × (Nat → Int32) × (Nat → Int32) × (Nat → Int32) × (Nat → Int32) × (Nat → Int32) × (Nat → Int32) × (Nat → Int32) × (Nat → Int32) × (Nat → Int32) × (Nat → Int32) × (Nat → Int32) × (Nat → Int32) × (Nat → Int32) × (Nat → Int32) × (Nat → Int64) × (Nat → Int64) × Int32 × Int32 × Int32 × Int32 × Int32 × Int32 × Int32 × Int32 × Int32 × Int32 × Int32 × Int32 × Int32 × Int32 × Int32 × Int32) t => we n0 G (wM K ad (sI (sI (sI (sI (sI (sI (sI (sI (sI (sI (sI (sI (sI (sI (sI (sI (sL (sL (sA (sA (sA (sA (sA (sA (sA (sA (sA (sA (sA (sA (sA (sA (sA (sA (sA (sA (sA S 1 u.1) 2 u.2.1) 3 u.2.2.1) 4 u.2.2.2.1) 5 u.2.2.2.2.1) 6 u.2.2.2.2.2.1) 7 u.2.2.2.2.2.2.1) 8 u.2.2.2.2.2.2.2.1) 15 u.2.2.2.2.2.2.2.2.1) 16 u.2.2.2.2.2.2.2.2.2.1) 17 u.2.2.2.2.2.2.2.2.2.2.1) 19 u.2.2.2.2.2.2.2.2.2.2.2.1) 20 u.2.2.2.2.2.2.2.2.2.2.2.2.1) 21 u.2.2.2.2.2.2.2.2.2.2.2.2.2.1) 22 u.2.2.2.2.2.2.2.2.2.2.2.2.2.2.1) 23 u.2.2.2.2.2.2.2.2.2.2.2.2.2.2.2.1) 24 u.2.2.2.2.2.2.2.2.2.2.2.2.2.2.2.2.1) 25 u.2.2.2.2.2.2.2.2.2.2.2.2.2.2.2.2.2.1) 26 u.2.2.2.2.2.2.2.2.2.2.2.2.2.2.2.2.2.2.1) 18 u.2.2.2.2.2.2.2.2.2.2.2.2.2.2.2.2.2.2.2.1) 27 u.2.2.2.2.2.2.2.2.2.2.2.2.2.2.2.2.2.2.2.2.1) 0 u.2.2.2.2.2.2.2.2.2.2.2.2.2.2.2.2.2.2.2.2.2.1) 1 u.2.2.2.2.2.2.2.2.2.2.2.2.2.2.2.2.2.2.2.2.2.2.1) 16 u.2.2.2.2.2.2.2.2.2.2.2.2.2.2.2.2.2.2.2.2.2.2.2.1) 17 u.2.2.2.2.2.2.2.2.2.2.2.2.2.2.2.2.2.2.2.2.2.2.2.2.1) 18 u.2.2.2.2.2.2.2.2.2.2.2.2.2.2.2.2.2.2.2.2.2.2.2.2.2.1) 19 u.2.2.2.2.2.2.2.2.2.2.2.2.2.2.2.2.2.2.2.2.2.2.2.2.2.2.1) 20 u.2.2.2.2.2.2.2.2.2.2.2.2.2.2.2.2.2.2.2.2.2.2.2.2.2.2.2.1) 27 u.2.2.2.2.2.2.2.2.2.2.2.2.2.2.2.2.2.2.2.2.2.2.2.2.2.2.2.2.1) 28 u.2.2.2.2.2.2.2.2.2.2.2.2.2.2.2.2.2.2.2.2.2.2.2.2.2.2.2.2.2.1) 30 u.2.2.2.2.2.2.2.2.2.2.2.2.2.2.2.2.2.2.2.2.2.2.2.2.2.2.2.2.2.2.1) 31 u.2.2.2.2.2.2.2.2.2.2.2.2.2.2.2.2.2.2.2.2.2.2.2.2.2.2.2.2.2.2.2.1) 32 u.2.2.2.2.2.2.2.2.2.2.2.2.2.2.2.2.2.2.2.2.2.2.2.2.2.2.2.2.2.2.2.2.1) 33 u.2.2.2.2.2.2.2.2.2.2.2.2.2.2.2.2.2.2.2.2.2.2.2.2.2.2.2.2.2.2.2.2.2.1) 34 u.2.2.2.2.2.2.2.2.2.2.2.2.2.2.2.2.2.2.2.2.2.2.2.2.2.2.2.2.2.2.2.2.2.2.1) 35 u.2.2.2.2.2.2.2.2.2.2.2.2.2.2.2.2.2.2.2.2.2.2.2.2.2.2.2.2.2.2.2.2.2.2.2.1) 36 u.2.2.2.2.2.2.2.2.2.2.2.2.2.2.2.2.2.2.2.2.2.2.2.2.2.2.2.2.2.2.2.2.2.2.2.2) ++ X) t) (al n0)) args s 0 0 (al n0)) (F0 m 336 ls []) := by
  have hx := C.1
  have hb := C.2.1
  have hts := C.2.2.2.2.1
  intro a1 a2 a3 a4 a5 a6 a7 a8 a15 a16 a17 a19 a20 a21 a22 a23 a24 a25 a26 l18 l27 i0 i1 i16 i17 i18 i19 i20 i27 i28 i30 i31 i32 i33 i34 i35 i36 x2 x3 x4 x5 x6 x7 x8 x10 x11 x12 hw H locs ls w hl
  unfold wl_Mo_breakUp_336 at hw
  refine lv_aload_n hx hb d_Mo_breakUp_336 rfl (lv_at hl 0 rfl) ?_
  refine lv_dup hx hb d_Mo_breakUp_337 rfl ?_
  refine kg (C1 := R_Mo) (T := F_Mo) (N := 43) (ci := 10) (ref := "LineBreakerModel") (v := .int i16) C w 0 16 iw_Mo rfl rfl (by decide) kw_893 rfl rfl d_Mo_breakUp_338 ?_
  refine lv_iconst (v := 1) hx hb d_Mo_breakUp_341 (by decide) ?_
  refine lv_iadd hx hb d_Mo_breakUp_342 ?_
  refine lv_topi (fun v1 ev1 => ?_)
  have hw := hw v1 ev1
  refine kp (C1 := R_Mo) (T := F_Mo) (N := 43) (ci := 10) (ty0 := t_Mo) (ref := "LineBreakerModel") (w2 := wM K ad (sI (sI (sI (sI (sI (sI (sI (sI (sI (sI (sI (sI (sI (sI (sI (sI (sL (sL (sA (sA (sA (sA (sA (sA (sA (sA (sA (sA (sA (sA (sA (sA (sA (sA (sA (sA (sA S 1 a1) 2 a2) 3 a3) 4 a4) 5 a5) 6 a6) 7 a7) 8 a8) 15 a15) 16 a16) 17 a17) 19 a19) 20 a20) 21 a21) 22 a22) 23 a23) 24 a24) 25 a25) 26 a26) 18 l18) 27 l27) 0 i0) 1 i1) 16 v1) 17 i17) 18 i18) 19 i19) 20 i20) 27 i27) 28 i28) 30 i30) 31 i31) 32 i32) 33 i33) 34 i34) 35 i35) 36 i36) ++ X) C w 0 16 iw_Mo tk_Mo n_Mo rfl rfl (by decide) kw_893 rfl rfl rfl rfl (Nat.le_of_ble_eq_true rfl) rfl d_Mo_breakUp_343 (fun H locs w => ?_)
  refine lv_goto (tgt := 283) hx hb d_Mo_breakUp_346 (by decide) ?_
  exact hk283 a1 a2 a3 a4 a5 a6 a7 a8 a15 a16 a17 a19 a20 a21 a22 a23 a24 a25 a26 l18 l27 i0 i1 v1 i17 i18 i19 i20 i27 i28 i30 i31 i32 i33 i34 i35 i36 x2 x3 x4 x5 x6 x7 x8 x10 x11 x12 hw _ _ _ (wn_eq w rfl) (lv_sub hl [0, 1, 2, 3, 4, 5, 6, 7, 8, 9, 10] rfl)
set_option maxHeartbeats 4000000 in
set_option maxRecDepth 100000 in
theorem w_Mo_breakUp_283 {S : ST} {post : Int32 → (Nat → Int32) → (Nat → Int32) → (Nat → Int32) → (Nat → Int32) → (Nat → Int32) → (Nat → Int32) → (Nat → Int32) → (Nat → Int32) → (Nat → Int32) → (Nat → Int32) → (Nat → Int32) → (Nat → Int32) → (Nat → Int32) → (Nat → Int32) → (Nat → Int32) → (Nat → Int32) → (Nat → Int32) → (Nat → Int32) → (Nat → Int32) → (Nat → Int64) → (Nat → Int64) → Int32 → Int32 → Int32 → Int32 → Int32 → Int32 → Int32 → Int32 → Int32 → Int32 → Int32 → Int32 → Int32 → Int32 → Int32 → Int32 → Prop} (C : cx p s m args meth c prog_12_method_42_code 14 "LineBreakerModel" n0 G K) (hr : meth.sig.returnType = (some .int)) : ∀ (n : Nat) (a1 : (Nat → Int32)) (a2 : (Nat → Int32)) (a3 : (Nat → Int32)) (a4 : (Nat → Int32)) (a5 : (Nat → Int32)) (a6 : (Nat → Int32)) (a7 : (Nat → Int32)) (a8 : (Nat → Int32)) (a15 : (Nat → Int32)) (a16 : (Nat → Int32)) (a17 : (Nat → Int32)) (a19 : (Nat → Int32)) (a20 : (Nat → Int32)) (a21 : (Nat → Int32)) (a22 : (Nat → Int32)) (a23 : (Nat → Int32)) (a24 : (Nat → Int32)) (a25 : (Nat → Int32)) (a26 : (Nat → Int32)) (l18 : (Nat → Int64)) (l27 : (Nat → Int64)) (i0 : Int32) (i1 : Int32) (i16 : Int32) (i17 : Int32) (i18 : Int32) (i19 : Int32) (i20 : Int32) (i27 : Int32) (i28 : Int32) (i30 : Int32) (i31 : Int32) (i32 : Int32) (i33 : Int32) (i34 : Int32) (i35 : Int32) (i36 : Int32) (x2 : Int32) (x3 : Int32) (x4 : Int32) (x5 : Int32) (x6 : Int32) (x7 : Int32) (x8 : Int32) (x10 : Int32) (x11 : Int32) (x12 : Int32), wl_Mo_breakUp_283 S post n a1 a2 a3 a4 a5 a6 a7 a8 a15 a16 a17 a19 a20 a21 a22 a23 a24 a25 a26 l18 l27 i0 i1 i16 i17 i18 i19 i20 i27 i28 i30 i31 i32 i33 i34 i35 i36 x2 x3 x4 x5 x6 x7 x8 x10 x11 x12 → ∀ (H : Heap) (locs : List Loc) (ls : Array Slot), wn n0 G (wM K ad (sI (sI (sI (sI (sI (sI (sI (sI (sI (sI (sI (sI (sI (sI (sI (sI (sL (sL (sA (sA (sA (sA (sA (sA (sA (sA (sA (sA (sA (sA (sA (sA (sA (sA (sA (sA (sA S 1 a1) 2 a2) 3 a3) 4 a4) 5 a5) 6 a6) 7 a7) 8 a8) 15 a15) 16 a16) 17 a17) 19 a19) 20 a20) 21 a21) 22 a22) 23 a23) 24 a24) 25 a25) 26 a26) 18 l18) 27 l27) 0 i0) 1 i1) 16 i16) 17 i17) 18 i18) 19 i19) 20 i20) 27 i27) 28 i28) 30 i30) 31 i31) 32 i32) 33 i33) 34 i34) 35 i35) 36 i36) ++ X) s H locs → lv_has ls 14 [(0, .ref (ad 0)), (2, .int x2), (3, .int x3), (4, .int x4), (5, .int x5), (6, .int x6), (7, .int x7), (8, .int x8), (10, .int x10), (11, .int x11), (12, .int x12)] → W p l e rm_Mo_breakUp s m args below meth c H locs 0 0 (MQ below (va_Qi (fun r (u : (Nat → Int32) × (Nat → Int32) × (Nat → Int32) × (Nat → Int32) × (Nat → Int32) × (Nat → Int32) × (Nat → Int32) × (Nat → Int32) × (Nat → Int32) × (Nat → Int32) × (Nat → Int32) × (Nat → Int32) × (Nat → Int32) × (Nat → Int32) × (Nat → Int32) × (Nat → Int32) × (Nat → Int32) × (Nat → Int32) × (Nat → Int32) × (Nat → Int64) × (Nat → Int64) × Int32 × Int32 × Int32 × Int32 × Int32 × Int32 × Int32 × Int32 × Int32 × Int32 × Int32 × Int32 × Int32 × Int32 × Int32 × Int32) => post r u.1 u.2.1 u.2.2.1 u.2.2.2.1 u.2.2.2.2.1 u.2.2.2.2.2.1 u.2.2.2.2.2.2.1 u.2.2.2.2.2.2.2.1 u.2.2.2.2.2.2.2.2.1 u.2.2.2.2.2.2.2.2.2.1 u.2.2.2.2.2.2.2.2.2.2.1 u.2.2.2.2.2.2.2.2.2.2.2.1 u.2.2.2.2.2.2.2.2.2.2.2.2.1 u.2.2.2.2.2.2.2.2.2.2.2.2.2.1 u.2.2.2.2.2.2.2.2.2.2.2.2.2.2.1 u.2.2.2.2.2.2.2.2.2.2.2.2.2.2.2.1 u.2.2.2.2.2.2.2.2.2.2.2.2.2.2.2.2.1 u.2.2.2.2.2.2.2.2.2.2.2.2.2.2.2.2.2.1 u.2.2.2.2.2.2.2.2.2.2.2.2.2.2.2.2.2.2.1 u.2.2.2.2.2.2.2.2.2.2.2.2.2.2.2.2.2.2.2.1 u.2.2.2.2.2.2.2.2.2.2.2.2.2.2.2.2.2.2.2.2.1 u.2.2.2.2.2.2.2.2.2.2.2.2.2.2.2.2.2.2.2.2.2.1 u.2.2.2.2.2.2.2.2.2.2.2.2.2.2.2.2.2.2.2.2.2.2.1 u.2.2.2.2.2.2.2.2.2.2.2.2.2.2.2.2.2.2.2.2.2.2.2.1 u.2.2.2.2.2.2.2.2.2.2.2.2.2.2.2.2.2.2.2.2.2.2.2.2.1 u.2.2.2.2.2.2.2.2.2.2.2.2.2.2.2.2.2.2.2.2.2.2.2.2.2.1 u.2.2.2.2.2.2.2.2.2.2.2.2.2.2.2.2.2.2.2.2.2.2.2.2.2.2.1 u.2.2.2.2.2.2.2.2.2.2.2.2.2.2.2.2.2.2.2.2.2.2.2.2.2.2.2.1 u.2.2.2.2.2.2.2.2.2.2.2.2.2.2.2.2.2.2.2.2.2.2.2.2.2.2.2.2.1 u.2.2.2.2.2.2.2.2.2.2.2.2.2.2.2.2.2.2.2.2.2.2.2.2.2.2.2.2.2.1 u.2.2.2.2.2.2.2.2.2.2.2.2.2.2.2.2.2.2.2.2.2.2.2.2.2.2.2.2.2.2.1 u.2.2.2.2.2.2.2.2.2.2.2.2.2.2.2.2.2.2.2.2.2.2.2.2.2.2.2.2.2.2.2.1 u.2.2.2.2.2.2.2.2.2.2.2.2.2.2.2.2.2.2.2.2.2.2.2.2.2.2.2.2.2.2.2.2.1 u.2.2.2.2.2.2.2.2.2.2.2.2.2.2.2.2.2.2.2.2.2.2.2.2.2.2.2.2.2.2.2.2.2.1 u.2.2.2.2.2.2.2.2.2.2.2.2.2.2.2.2.2.2.2.2.2.2.2.2.2.2.2.2.2.2.2.2.2.2.1 u.2.2.2.2.2.2.2.2.2.2.2.2.2.2.2.2.2.2.2.2.2.2.2.2.2.2.2.2.2.2.2.2.2.2.2.1 u.2.2.2.2.2.2.2.2.2.2.2.2.2.2.2.2.2.2.2.2.2.2.2.2.2.2.2.2.2.2.2.2.2.2.2.2) (fun (u : (Nat → Int32) × (Nat → Int32) × (Nat → Int32) × (Nat → Int32) × (Nat → Int32) × (Nat → Int32) × (Nat → Int32) × (Nat → Int32) × (Nat → Int32) × (Nat → Int32) × (Nat → Int32) × (Nat → Int32) × (Nat → Int32) × (Nat → Int32) × (Nat → Int32) × (Nat → Int32) × (Nat → Int32) × (Nat → Int32) × (Nat → Int32) × (Nat → Int64) × (Nat → Int64) × Int32 × Int32 × Int32 × Int32 × Int32 × Int32 × Int32 × Int32 × Int32 × Int32 × Int32 × Int32 × Int32 × Int32 × Int32 × Int32) t => we n0 G (wM K ad (sI (sI (sI (sI (sI (sI (sI (sI (sI (sI (sI (sI (sI (sI (sI (sI (sL (sL (sA (sA (sA (sA (sA (sA (sA (sA (sA (sA (sA (sA (sA (sA (sA (sA (sA (sA (sA S 1 u.1) 2 u.2.1) 3 u.2.2.1) 4 u.2.2.2.1) 5 u.2.2.2.2.1) 6 u.2.2.2.2.2.1) 7 u.2.2.2.2.2.2.1) 8 u.2.2.2.2.2.2.2.1) 15 u.2.2.2.2.2.2.2.2.1) 16 u.2.2.2.2.2.2.2.2.2.1) 17 u.2.2.2.2.2.2.2.2.2.2.1) 19 u.2.2.2.2.2.2.2.2.2.2.2.1) 20 u.2.2.2.2.2.2.2.2.2.2.2.2.1) 21 u.2.2.2.2.2.2.2.2.2.2.2.2.2.1) 22 u.2.2.2.2.2.2.2.2.2.2.2.2.2.2.1) 23 u.2.2.2.2.2.2.2.2.2.2.2.2.2.2.2.1) 24 u.2.2.2.2.2.2.2.2.2.2.2.2.2.2.2.2.1) 25 u.2.2.2.2.2.2.2.2.2.2.2.2.2.2.2.2.2.1) 26 u.2.2.2.2.2.2.2.2.2.2.2.2.2.2.2.2.2.2.1) 18 u.2.2.2.2.2.2.2.2.2.2.2.2.2.2.2.2.2.2.2.1) 27 u.2.2.2.2.2.2.2.2.2.2.2.2.2.2.2.2.2.2.2.2.1) 0 u.2.2.2.2.2.2.2.2.2.2.2.2.2.2.2.2.2.2.2.2.2.1) 1 u.2.2.2.2.2.2.2.2.2.2.2.2.2.2.2.2.2.2.2.2.2.2.1) 16 u.2.2.2.2.2.2.2.2.2.2.2.2.2.2.2.2.2.2.2.2.2.2.2.1) 17 u.2.2.2.2.2.2.2.2.2.2.2.2.2.2.2.2.2.2.2.2.2.2.2.2.1) 18 u.2.2.2.2.2.2.2.2.2.2.2.2.2.2.2.2.2.2.2.2.2.2.2.2.2.1) 19 u.2.2.2.2.2.2.2.2.2.2.2.2.2.2.2.2.2.2.2.2.2.2.2.2.2.2.1) 20 u.2.2.2.2.2.2.2.2.2.2.2.2.2.2.2.2.2.2.2.2.2.2.2.2.2.2.2.1) 27 u.2.2.2.2.2.2.2.2.2.2.2.2.2.2.2.2.2.2.2.2.2.2.2.2.2.2.2.2.1) 28 u.2.2.2.2.2.2.2.2.2.2.2.2.2.2.2.2.2.2.2.2.2.2.2.2.2.2.2.2.2.1) 30 u.2.2.2.2.2.2.2.2.2.2.2.2.2.2.2.2.2.2.2.2.2.2.2.2.2.2.2.2.2.2.1) 31 u.2.2.2.2.2.2.2.2.2.2.2.2.2.2.2.2.2.2.2.2.2.2.2.2.2.2.2.2.2.2.2.1) 32 u.2.2.2.2.2.2.2.2.2.2.2.2.2.2.2.2.2.2.2.2.2.2.2.2.2.2.2.2.2.2.2.2.1) 33 u.2.2.2.2.2.2.2.2.2.2.2.2.2.2.2.2.2.2.2.2.2.2.2.2.2.2.2.2.2.2.2.2.2.1) 34 u.2.2.2.2.2.2.2.2.2.2.2.2.2.2.2.2.2.2.2.2.2.2.2.2.2.2.2.2.2.2.2.2.2.2.1) 35 u.2.2.2.2.2.2.2.2.2.2.2.2.2.2.2.2.2.2.2.2.2.2.2.2.2.2.2.2.2.2.2.2.2.2.2.1) 36 u.2.2.2.2.2.2.2.2.2.2.2.2.2.2.2.2.2.2.2.2.2.2.2.2.2.2.2.2.2.2.2.2.2.2.2.2) ++ X) t) (al n0)) args s 0 0 (al n0)) (F0 m 283 ls []) := by
  have hx := C.1
  have hb := C.2.1
  have hts := C.2.2.2.2.1
  intro n
  induction n with
  | zero =>
    intro a1 a2 a3 a4 a5 a6 a7 a8 a15 a16 a17 a19 a20 a21 a22 a23 a24 a25 a26 l18 l27 i0 i1 i16 i17 i18 i19 i20 i27 i28 i30 i31 i32 i33 i34 i35 i36 x2 x3 x4 x5 x6 x7 x8 x10 x11 x12 hw
    unfold wl_Mo_breakUp_283 at hw
    exact hw.elim
  | succ n ih =>
    intro a1 a2 a3 a4 a5 a6 a7 a8 a15 a16 a17 a19 a20 a21 a22 a23 a24 a25 a26 l18 l27 i0 i1 i16 i17 i18 i19 i20 i27 i28 i30 i31 i32 i33 i34 i35 i36 x2 x3 x4 x5 x6 x7 x8 x10 x11 x12 hw H locs ls w hl
    unfold wl_Mo_breakUp_283 at hw
    refine lv_aload_n hx hb d_Mo_breakUp_283 rfl (lv_at hl 0 rfl) ?_
    refine kg (C1 := R_Mo) (T := F_Mo) (N := 43) (ci := 10) (ref := "LineBreakerModel") (v := .int i16) C w 0 16 iw_Mo rfl rfl (by decide) kw_893 rfl rfl d_Mo_breakUp_284 ?_
    refine lv_iload hx hb d_Mo_breakUp_287 (lv_at hl 10 rfl) ?_
    refine lv_icmp_gt (tgt := 349) hx hb d_Mo_breakUp_289 (by decide) (fun hc => ?_) (fun hc => ?_)
    · have hw := hw.1 hc
      exact w_Mo_breakUp_349 C hr  a1 a2 a3 a4 a5 a6 a7 a8 a15 a16 a17 a19 a20 a21 a22 a23 a24 a25 a26 l18 l27 i0 i1 i16 i17 i18 i19 i20 i27 i28 i30 i31 i32 i33 i34 i35 i36 x2 x3 x4 x5 x6 x7 x8 x10 hw _ _ _ (wn_eq w rfl) (lv_sub hl [0, 1, 2, 3, 4, 5, 6, 7, 8] rfl)
    · have hw := hw.2 hc
      refine lv_iload hx hb d_Mo_breakUp_292 (lv_at hl 9 rfl) ?_
      refine lv_if_ne (tgt := 349) hx hb d_Mo_breakUp_294 (by decide) (fun hc => ?_) (fun hc => ?_)
      · have hw := hw.1 hc
        exact w_Mo_breakUp_349 C hr  a1 a2 a3 a4 a5 a6 a7 a8 a15 a16 a17 a19 a20 a21 a22 a23 a24 a25 a26 l18 l27 i0 i1 i16 i17 i18 i19 i20 i27 i28 i30 i31 i32 i33 i34 i35 i36 x2 x3 x4 x5 x6 x7 x8 x10 hw _ _ _ (wn_eq w rfl) (lv_sub hl [0, 1, 2, 3, 4, 5, 6, 7, 8] rfl)
      · have hw := hw.2 hc
        refine lv_aload_n hx hb d_Mo_breakUp_297 rfl (lv_at hl 0 rfl) ?_
        refine kc_i (st := fun (u : (Nat → Int32) × (Nat → Int32) × (Nat → Int32) × (Nat → Int32) × (Nat → Int32) × (Nat → Int32) × (Nat → Int64) × Int32 × Int32 × Int32 × Int32 × Int32 × Int32 × Int32 × Int32 × Int32) => wM K ad (sI (sI (sI (sI (sI (sI (sI (sI (sI (sL (sA (sA (sA (sA (sA (sA (sI (sI (sI (sI (sI (sI (sI (sI (sI (sI (sI (sI (sI (sI (sI (sI (sL (sL (sA (sA (sA (sA (sA (sA (sA (sA (sA (sA (sA (sA (sA (sA (sA (sA (sA (sA (sA S 1 a1) 2 a2) 3 a3) 4 a4) 5 a5) 6 a6) 7 a7) 8 a8) 15 a15) 16 a16) 17 a17) 19 a19) 20 a20) 21 a21) 22 a22) 23 a23) 24 a24) 25 a25) 26 a26) 18 l18) 27 l27) 0 i0) 1 i1) 16 i16) 17 i17) 18 i18) 19 i19) 20 i20) 27 i27) 28 i28) 30 i30) 31 i31) 32 i32) 33 i33) 34 i34) 35 i35) 36 i36) 15 u.1) 16 u.2.1) 17 u.2.2.1) 19 u.2.2.2.1) 20 u.2.2.2.2.1) 21 u.2.2.2.2.2.1) 18 u.2.2.2.2.2.2.1) 18 u.2.2.2.2.2.2.2.1) 19 u.2.2.2.2.2.2.2.2.1) 20 u.2.2.2.2.2.2.2.2.2.1) 27 u.2.2.2.2.2.2.2.2.2.2.1) 28 u.2.2.2.2.2.2.2.2.2.2.2.1) 30 u.2.2.2.2.2.2.2.2.2.2.2.2.1) 31 u.2.2.2.2.2.2.2.2.2.2.2.2.2.1) 32 u.2.2.2.2.2.2.2.2.2.2.2.2.2.2.1) 33 u.2.2.2.2.2.2.2.2.2.2.2.2.2.2.2) ++ X) w (kr_V (y := y_Mo_make) (C1 := R_Mo) (T := F_Mo) (N := 43) (ci := 10) (q0 := 0) (As := []) (n := 0) C w (c_Mo_make l n0 G K ad X (sI (sI (sI (sI (sI (sI (sI (sI (sI (sI (sI (sI (sI (sI (sI (sI (sL (sL (sA (sA (sA (sA (sA (sA (sA (sA (sA (sA (sA (sA (sA (sA (sA (sA (sA (sA (sA S 1 a1) 2 a2) 3 a3) 4 a4) 5 a5) 6 a6) 7 a7) 8 a8) 15 a15) 16 a16) 17 a17) 19 a19) 20 a20) 21 a21) 22 a22) 23 a23) 24 a24) 25 a25) 26 a26) 18 l18) 27 l27) 0 i0) 1 i1) 16 i16) 17 i17) 18 i18) 19 i19) 20 i20) 27 i27) 28 i28) 30 i30) 31 i31) 32 i32) 33 i33) 34 i34) 35 i35) 36 i36)  _ hw) (gw_V kw_1094 kw_1096 kp_22 kw_11 kw_1097) (by decide +kernel) rfl rfl ⟨Nat.le_of_ble_eq_true rfl, Nat.le_of_ble_eq_true rfl⟩ rfl rfl rfl hl.1 rfl (Nat.le_of_ble_eq_true rfl) d_Mo_breakUp_298 ⟨Nat.le_of_ble_eq_true rfl, Nat.le_of_ble_eq_true rfl⟩) (fun r17 u H locs hw w => ?_)
        obtain ⟨f1, f2, f3, f4, f5, f6, f7, v8, v9, v10, v11, v12, v13, v14, v15, v16⟩ := u
        dsimp only at hw
        have w : wn n0 G (wM K ad (sI (sI (sI (sI (sI (sI (sI (sI (sI (sI (sI (sI (sI (sI (sI (sI (sL (sL (sA (sA (sA (sA (sA (sA (sA (sA (sA (sA (sA (sA (sA (sA (sA (sA (sA (sA (sA S 1 a1) 2 a2) 3 a3) 4 a4) 5 a5) 6 a6) 7 a7) 8 a8) 15 f1) 16 f2) 17 f3) 19 f4) 20 f5) 21 f6) 22 a22) 23 a23) 24 a24) 25 a25) 26 a26) 18 f7) 27 l27) 0 i0) 1 i1) 16 i16) 17 i17) 18 v8) 19 v9) 20 v10) 27 v11) 28 v12) 30 v13) 31 v14) 32 v15) 33 v16) 34 i34) 35 i35) 36 i36) ++ X) s H locs := w
        refine lv_if_ne (tgt := 314) hx hb d_Mo_breakUp_301 (by decide) (fun hc => ?_) (fun hc => ?_)
        · have hw := hw.1 hc
          refine lv_aload_n hx hb d_Mo_breakUp_314 rfl (lv_at hl 0 rfl) ?_
          refine kd_i (kr_V (y := y_Mo_choose) (C1 := R_Mo) (T := F_Mo) (N := 43) (ci := 10) (q0 := 0) (As := []) (n := 0) C w (c_Mo_choose l n0 G K ad X (sI (sI (sI (sI (sI (sI (sI (sI (sI (sI (sI (sI (sI (sI (sI (sI (sL (sL (sA (sA (sA (sA (sA (sA (sA (sA (sA (sA (sA (sA (sA (sA (sA (sA (sA (sA (sA S 1 a1) 2 a2) 3 a3) 4 a4) 5 a5) 6 a6) 7 a7) 8 a8) 15 f1) 16 f2) 17 f3) 19 f4) 20 f5) 21 f6) 22 a22) 23 a23) 24 a24) 25 a25) 26 a26) 18 f7) 27 l27) 0 i0) 1 i1) 16 i16) 17 i17) 18 v8) 19 v9) 20 v10) 27 v11) 28 v12) 30 v13) 31 v14) 32 v15) 33 v16) 34 i34) 35 i35) 36 i36)  _ hw) (gw_V kw_1162 kw_1164 kp_36 kw_11 kw_1165) (by decide +kernel) rfl rfl ⟨Nat.le_of_ble_eq_true rfl, Nat.le_of_ble_eq_true rfl⟩ rfl rfl rfl hl.1 rfl (Nat.le_of_ble_eq_true rfl) d_Mo_breakUp_315 ⟨Nat.le_of_ble_eq_true rfl, Nat.le_of_ble_eq_true rfl⟩) (fun r18 hw => ?_)
          refine lv_istore (lv' := [(13, .int r18), (0, .ref (ad 0)), (2, .int x2), (3, .int x3), (4, .int x4), (5, .int x5), (6, .int x6), (7, .int x7), (8, .int x8), (10, .int x10), (11, .int x11), (12, .int x12)]) hx hb d_Mo_breakUp_318 hl (by decide) rfl (fun ls hl => ?_)
          refine lv_iload hx hb d_Mo_breakUp_320 (lv_at hl 0 rfl) ?_
          refine lv_if_lt (tgt := 336) hx hb d_Mo_breakUp_322 (by decide) (fun hc => ?_) (fun hc => ?_)
          · have hw := hw.1 hc
            exact w_Mo_breakUp_336 C hr ih a1 a2 a3 a4 a5 a6 a7 a8 f1 f2 f3 f4 f5 f6 a22 a23 a24 a25 a26 f7 l27 i0 i1 i16 i17 v8 v9 v10 v11 v12 v13 v14 v15 v16 i34 i35 i36 x2 x3 x4 x5 x6 x7 x8 x10 x11 x12 hw _ _ _ (wn_eq w rfl) (lv_sub hl [1, 2, 3, 4, 5, 6, 7, 8, 9, 10, 11] rfl)
          · have hw := hw.2 hc
            refine lv_aload_n hx hb d_Mo_breakUp_325 rfl (lv_at hl 1 rfl) ?_
            refine lv_iload hx hb d_Mo_breakUp_326 (lv_at hl 0 rfl) ?_
            refine kc_i (st := fun (u : (Nat → Int32) × (Nat → Int32) × (Nat → Int32) × (Nat → Int32) × (Nat → Int32) × (Nat → Int32) × (Nat → Int64) × Int32 × Int32 × Int32 × Int32 × Int32 × Int32 × Int32 × Int32 × Int32) => wM K ad (sI (sI (sI (sI (sI (sI (sI (sI (sI (sL (sA (sA (sA (sA (sA (sA (sI (sI (sI (sI (sI (sI (sI (sI (sI (sI (sI (sI (sI (sI (sI (sI (sL (sL (sA (sA (sA (sA (sA (sA (sA (sA (sA (sA (sA (sA (sA (sA (sA (sA (sA (sA (sA S 1 a1) 2 a2) 3 a3) 4 a4) 5 a5) 6 a6) 7 a7) 8 a8) 15 f1) 16 f2) 17 f3) 19 f4) 20 f5) 21 f6) 22 a22) 23 a23) 24 a24) 25 a25) 26 a26) 18 f7) 27 l27) 0 i0) 1 i1) 16 i16) 17 i17) 18 v8) 19 v9) 20 v10) 27 v11) 28 v12) 30 v13) 31 v14) 32 v15) 33 v16) 34 i34) 35 i35) 36 i36) 21 u.1) 22 u.2.1) 23 u.2.2.1) 24 u.2.2.2.1) 25 u.2.2.2.2.1) 26 u.2.2.2.2.2.1) 27 u.2.2.2.2.2.2.1) 27 u.2.2.2.2.2.2.2.1) 28 u.2.2.2.2.2.2.2.2.1) 30 u.2.2.2.2.2.2.2.2.2.1) 31 u.2.2.2.2.2.2.2.2.2.2.1) 32 u.2.2.2.2.2.2.2.2.2.2.2.1) 33 u.2.2.2.2.2.2.2.2.2.2.2.2.1) 34 u.2.2.2.2.2.2.2.2.2.2.2.2.2.1) 35 u.2.2.2.2.2.2.2.2.2.2.2.2.2.2.1) 36 u.2.2.2.2.2.2.2.2.2.2.2.2.2.2.2) ++ X) w (kr_V (y := y_Mo_tell) (C1 := R_Mo) (T := F_Mo) (N := 43) (ci := 10) (q0 := 0) (As := [.int r18]) (n := 1) C w (c_Mo_tell l n0 G K ad X (sI (sI (sI (sI (sI (sI (sI (sI (sI (sI (sI (sI (sI (sI (sI (sI (sL (sL (sA (sA (sA (sA (sA (sA (sA (sA (sA (sA (sA (sA (sA (sA (sA (sA (sA (sA (sA S 1 a1) 2 a2) 3 a3) 4 a4) 5 a5) 6 a6) 7 a7) 8 a8) 15 f1) 16 f2) 17 f3) 19 f4) 20 f5) 21 f6) 22 a22) 23 a23) 24 a24) 25 a25) 26 a26) 18 f7) 27 l27) 0 i0) 1 i1) 16 i16) 17 i17) 18 v8) 19 v9) 20 v10) 27 v11) 28 v12) 30 v13) 31 v14) 32 v15) 33 v16) 34 i34) 35 i35) 36 i36) r18 _ hw) (gw_V kw_1173 kw_1175 kp_38 kw_11 kw_1176) (by decide +kernel) rfl rfl ⟨Nat.le_of_ble_eq_true rfl, Nat.le_of_ble_eq_true rfl⟩ rfl rfl rfl hl.1 rfl (Nat.le_of_ble_eq_true rfl) d_Mo_breakUp_328 ⟨Nat.le_of_ble_eq_true rfl, Nat.le_of_ble_eq_true rfl⟩) (fun r35 u H locs hw w => ?_)
            obtain ⟨f19, f20, f21, f22, f23, f24, f25, v26, v27, v28, v29, v30, v31, v32, v33, v34⟩ := u
            dsimp only at hw
            have w : wn n0 G (wM K ad (sI (sI (sI (sI (sI (sI (sI (sI (sI (sI (sI (sI (sI (sI (sI (sI (sL (sL (sA (sA (sA (sA (sA (sA (sA (sA (sA (sA (sA (sA (sA (sA (sA (sA (sA (sA (sA S 1 a1) 2 a2) 3 a3) 4 a4) 5 a5) 6 a6) 7 a7) 8 a8) 15 f1) 16 f2) 17 f3) 19 f4) 20 f5) 21 f19) 22 f20) 23 f21) 24 f22) 25 f23) 26 f24) 18 f7) 27 f25) 0 i0) 1 i1) 16 i16) 17 i17) 18 v8) 19 v9) 20 v10) 27 v26) 28 v27) 30 v28) 31 v29) 32 v30) 33 v31) 34 v32) 35 v33) 36 v34) ++ X) s H locs := w
            refine lv_istore (lv' := [(10, .int r35), (13, .int r18), (0, .ref (ad 0)), (2, .int x2), (3, .int x3), (4, .int x4), (5, .int x5), (6, .int x6), (7, .int x7), (8, .int x8), (11, .int x11), (12, .int x12)]) hx hb d_Mo_breakUp_331 hl (by decide) rfl (fun ls hl => ?_)
            refine lv_iconst (v := 1) hx hb d_Mo_breakUp_333 (by decide) ?_
            refine lv_istore (lv' := [(11, .int 1), (10, .int r35), (13, .int r18), (0, .ref (ad 0)), (2, .int x2), (3, .int x3), (4, .int x4), (5, .int x5), (6, .int x6), (7, .int x7), (8, .int x8), (12, .int x12)]) hx hb d_Mo_breakUp_334 hl (by decide) rfl (fun ls hl => ?_)
            exact w_Mo_breakUp_336 C hr ih a1 a2 a3 a4 a5 a6 a7 a8 f1 f2 f3 f4 f5 f19 f20 f21 f22 f23 f24 f7 f25 i0 i1 i16 i17 v8 v9 v10 v26 v27 v28 v29 v30 v31 v32 v33 v34 x2 x3 x4 x5 x6 x7 x8 r35 1 x12 hw _ _ _ (wn_eq w rfl) (lv_sub hl [3, 4, 5, 6, 7, 8, 9, 10, 1, 0, 11] rfl)
        · have hw := hw.2 hc
          refine lv_bipush (v := (-2)) hx hb d_Mo_breakUp_304 (by decide) ?_
          refine lv_istore (lv' := [(10, .int (-2)), (0, .ref (ad 0)), (2, .int x2), (3, .int x3), (4, .int x4), (5, .int x5), (6, .int x6), (7, .int x7), (8, .int x8), (11, .int x11), (12, .int x12)]) hx hb d_Mo_breakUp_306 hl (by decide) rfl (fun ls hl => ?_)
          refine lv_iconst (v := 1) hx hb d_Mo_breakUp_308 (by decide) ?_
          refine lv_istore (lv' := [(11, .int 1), (10, .int (-2)), (0, .ref (ad 0)), (2, .int x2), (3, .int x3), (4, .int x4), (5, .int x5), (6, .int x6), (7, .int x7), (8, .int x8), (12, .int x12)]) hx hb d_Mo_breakUp_309 hl (by decide) rfl (fun ls hl => ?_)
          refine lv_goto (tgt := 336) hx hb d_Mo_breakUp_311 (by decide) ?_
          exact w_Mo_breakUp_336 C hr ih a1 a2 a3 a4 a5 a6 a7 a8 f1 f2 f3 f4 f5 f6 a22 a23 a24 a25 a26 f7 l27 i0 i1 i16 i17 v8 v9 v10 v11 v12 v13 v14 v15 v16 i34 i35 i36 x2 x3 x4 x5 x6 x7 x8 (-2) 1 x12 hw _ _ _ (wn_eq w rfl) (lv_sub hl [2, 3, 4, 5, 6, 7, 8, 9, 1, 0, 10] rfl)
set_option maxHeartbeats 4000000 in
set_option maxRecDepth 100000 in
theorem w_Mo_breakUp_263 {S : ST} {post : Int32 → (Nat → Int32) → (Nat → Int32) → (Nat → Int32) → (Nat → Int32) → (Nat → Int32) → (Nat → Int32) → (Nat → Int32) → (Nat → Int32) → (Nat → Int32) → (Nat → Int32) → (Nat → Int32) → (Nat → Int32) → (Nat → Int32) → (Nat → Int32) → (Nat → Int32) → (Nat → Int32) → (Nat → Int32) → (Nat → Int32) → (Nat → Int32) → (Nat → Int64) → (Nat → Int64) → Int32 → Int32 → Int32 → Int32 → Int32 → Int32 → Int32 → Int32 → Int32 → Int32 → Int32 → Int32 → Int32 → Int32 → Int32 → Int32 → Prop} (C : cx p s m args meth c prog_12_method_42_code 14 "LineBreakerModel" n0 G K) (hr : meth.sig.returnType = (some .int)) : ∀ (a1 : (Nat → Int32)) (a2 : (Nat → Int32)) (a3 : (Nat → Int32)) (a4 : (Nat → Int32)) (a5 : (Nat → Int32)) (a6 : (Nat → Int32)) (a7 : (Nat → Int32)) (a8 : (Nat → Int32)) (i0 : Int32) (i1 : Int32) (i17 : Int32) (i34 : Int32) (x2 : Int32) (x3 : Int32) (x4 : Int32) (x5 : Int32) (x6 : Int32) (x7 : Int32) (x8 : Int32) (x10 : Int32) (x11 : Int32) (z0 : Int32), wl_Mo_breakUp_263 S post a1 a2 a3 a4 a5 a6 a7 a8 i0 i1 i17 i34 x2 x3 x4 x5 x6 x7 x8 x10 x11 z0 → ∀ (H : Heap) (locs : List Loc) (ls : Array Slot), wn n0 G (wM K ad (sI (sI (sI (sI (sA (sA (sA (sA (sA (sA (sA (sA S 1 a1) 2 a2) 3 a3) 4 a4) 5 a5) 6 a6) 7 a7) 8 a8) 0 i0) 1 i1) 17 i17) 34 i34) ++ X) s H locs → lv_has ls 14 [(0, .ref (ad 0)), (2, .int x2), (3, .int x3), (4, .int x4), (5, .int x5), (6, .int x6), (7, .int x7), (8, .int x8), (10, .int x10), (11, .int x11)] → W p l e rm_Mo_breakUp s m args below meth c H locs 0 0 (MQ below (va_Qi (fun r (u : (Nat → Int32) × (Nat → Int32) × (Nat → Int32) × (Nat → Int32) × (Nat → Int32) × (Nat → Int32) × (Nat → Int32) × (Nat → Int32) × (Nat → Int32) × (Nat → Int32) × (Nat → Int32) × (Nat → Int32) × (Nat → Int32) × (Nat → Int32) × (Nat → Int32) × (Nat → Int32) × (Nat → Int32) × (Nat → Int32) × (Nat → Int32) × (Nat → Int64) × (Nat → Int64) × Int32 × Int32 × Int32 × Int32 × Int32 × Int32 × Int32 × Int32 × Int32 × Int32 × Int32 × Int32 × Int32 × Int32 × Int32 × Int32) => post r u.1 u.2.1 u.2.2.1 u.2.2.2.1 u.2.2.2.2.1 u.2.2.2.2.2.1 u.2.2.2.2.2.2.1 u.2.2.2.2.2.2.2.1 u.2.2.2.2.2.2.2.2.1 u.2.2.2.2.2.2.2.2.2.1 u.2.2.2.2.2.2.2.2.2.2.1 u.2.2.2.2.2.2.2.2.2.2.2.1 u.2.2.2.2.2.2.2.2.2.2.2.2.1 u.2.2.2.2.2.2.2.2.2.2.2.2.2.1 u.2.2.2.2.2.2.2.2.2.2.2.2.2.2.1 u.2.2.2.2.2.2.2.2.2.2.2.2.2.2.2.1 u.2.2.2.2.2.2.2.2.2.2.2.2.2.2.2.2.1 u.2.2.2.2.2.2.2.2.2.2.2.2.2.2.2.2.2.1 u.2.2.2.2.2.2.2.2.2.2.2.2.2.2.2.2.2.2.1 u.2.2.2.2.2.2.2.2.2.2.2.2.2.2.2.2.2.2.2.1 u.2.2.2.2.2.2.2.2.2.2.2.2.2.2.2.2.2.2.2.2.1 u.2.2.2.2.2.2.2.2.2.2.2.2.2.2.2.2.2.2.2.2.2.1 u.2.2.2.2.2.2.2.2.2.2.2.2.2.2.2.2.2.2.2.2.2.2.1 u.2.2.2.2.2.2.2.2.2.2.2.2.2.2.2.2.2.2.2.2.2.2.2.1 u.2.2.2.2.2.2.2.2.2.2.2.2.2.2.2.2.2.2.2.2.2.2.2.2.1 u.2.2.2.2.2.2.2.2.2.2.2.2.2.2.2.2.2.2.2.2.2.2.2.2.2.1 u.2.2.2.2.2.2.2.2.2.2.2.2.2.2.2.2.2.2.2.2.2.2.2.2.2.2.1 u.2.2.2.2.2.2.2.2.2.2.2.2.2.2.2.2.2.2.2.2.2.2.2.2.2.2.2.1 u.2.2.2.2.2.2.2.2.2.2.2.2.2.2.2.2.2.2.2.2.2.2.2.2.2.2.2.2.1 u.2.2.2.2.2.2.2.2.2.2.2.2.2.2.2.2.2.2.2.2.2.2.2.2.2.2.2.2.2.1 u.2.2.2.2.2.2.2.2.2.2.2.2.2.2.2.2.2.2.2.2.2.2.2.2.2.2.2.2.2.2.1 u.2.2.2.2.2.2.2.2.2.2.2.2.2.2.2.2.2.2.2.2.2.2.2.2.2.2.2.2.2.2.2.1 u.2.2.2.2.2.2.2.2.2.2.2.2.2.2.2.2.2.2.2.2.2.2.2.2.2.2.2.2.2.2.2.2.1 u.2.2.2.2.2.2.2.2.2.2.2.2.2.2.2.2.2.2.2.2.2.2.2.2.2.2.2.2.2.2.2.2.2.1 u.2.2.2.2.2.2.2.2.2.2.2.2.2.2.2.2.2.2.2.2.2.2.2.2.2.2.2.2.2.2.2.2.2.2.1 u.2.2.2.2.2.2.2.2.2.2.2.2.2.2.2.2.2.2.2.2.2.2.2.2.2.2.2.2.2.2.2.2.2.2.2.1 u.2.2.2.2.2.2.2.2.2.2.2.2.2.2.2.2.2.2.2.2.2.2.2.2.2.2.2.2.2.2.2.2.2.2.2.2) (fun (u : (Nat → Int32) × (Nat → Int32) × (Nat → Int32) × (Nat → Int32) × (Nat → Int32) × (Nat → Int32) × (Nat → Int32) × (Nat → Int32) × (Nat → Int32) × (Nat → Int32) × (Nat → Int32) × (Nat → Int32) × (Nat → Int32) × (Nat → Int32) × (Nat → Int32) × (Nat → Int32) × (Nat → Int32) × (Nat → Int32) × (Nat → Int32) × (Nat → Int64) × (Nat → Int64) × Int32 × Int32 × Int32 × Int32 × Int32 × Int32 × Int32 × Int32 × Int32 × Int32 × Int32 × Int32 × Int32 × Int32 × Int32 × Int32) t => we n0 G (wM K ad (sI (sI (sI (sI (sI (sI (sI (sI (sI (sI (sI (sI (sI (sI (sI (sI (sL (sL (sA (sA (sA (sA (sA (sA (sA (sA (sA (sA (sA (sA (sA (sA (sA (sA (sA (sA (sA S 1 u.1) 2 u.2.1) 3 u.2.2.1) 4 u.2.2.2.1) 5 u.2.2.2.2.1) 6 u.2.2.2.2.2.1) 7 u.2.2.2.2.2.2.1) 8 u.2.2.2.2.2.2.2.1) 15 u.2.2.2.2.2.2.2.2.1) 16 u.2.2.2.2.2.2.2.2.2.1) 17 u.2.2.2.2.2.2.2.2.2.2.1) 19 u.2.2.2.2.2.2.2.2.2.2.2.1) 20 u.2.2.2.2.2.2.2.2.2.2.2.2.1) 21 u.2.2.2.2.2.2.2.2.2.2.2.2.2.1) 22 u.2.2.2.2.2.2.2.2.2.2.2.2.2.2.1) 23 u.2.2.2.2.2.2.2.2.2.2.2.2.2.2.2.1) 24 u.2.2.2.2.2.2.2.2.2.2.2.2.2.2.2.2.1) 25 u.2.2.2.2.2.2.2.2.2.2.2.2.2.2.2.2.2.1) 26 u.2.2.2.2.2.2.2.2.2.2.2.2.2.2.2.2.2.2.1) 18 u.2.2.2.2.2.2.2.2.2.2.2.2.2.2.2.2.2.2.2.1) 27 u.2.2.2.2.2.2.2.2.2.2.2.2.2.2.2.2.2.2.2.2.1) 0 u.2.2.2.2.2.2.2.2.2.2.2.2.2.2.2.2.2.2.2.2.2.1) 1 u.2.2.2.2.2.2.2.2.2.2.2.2.2.2.2.2.2.2.2.2.2.2.1) 16 u.2.2.2.2.2.2.2.2.2.2.2.2.2.2.2.2.2.2.2.2.2.2.2.1) 17 u.2.2.2.2.2.2.2.2.2.2.2.2.2.2.2.2.2.2.2.2.2.2.2.2.1) 18 u.2.2.2.2.2.2.2.2.2.2.2.2.2.2.2.2.2.2.2.2.2.2.2.2.2.1) 19 u.2.2.2.2.2.2.2.2.2.2.2.2.2.2.2.2.2.2.2.2.2.2.2.2.2.2.1) 20 u.2.2.2.2.2.2.2.2.2.2.2.2.2.2.2.2.2.2.2.2.2.2.2.2.2.2.2.1) 27 u.2.2.2.2.2.2.2.2.2.2.2.2.2.2.2.2.2.2.2.2.2.2.2.2.2.2.2.2.1) 28 u.2.2.2.2.2.2.2.2.2.2.2.2.2.2.2.2.2.2.2.2.2.2.2.2.2.2.2.2.2.1) 30 u.2.2.2.2.2.2.2.2.2.2.2.2.2.2.2.2.2.2.2.2.2.2.2.2.2.2.2.2.2.2.1) 31 u.2.2.2.2.2.2.2.2.2.2.2.2.2.2.2.2.2.2.2.2.2.2.2.2.2.2.2.2.2.2.2.1) 32 u.2.2.2.2.2.2.2.2.2.2.2.2.2.2.2.2.2.2.2.2.2.2.2.2.2.2.2.2.2.2.2.2.1) 33 u.2.2.2.2.2.2.2.2.2.2.2.2.2.2.2.2.2.2.2.2.2.2.2.2.2.2.2.2.2.2.2.2.2.1) 34 u.2.2.2.2.2.2.2.2.2.2.2.2.2.2.2.2.2.2.2.2.2.2.2.2.2.2.2.2.2.2.2.2.2.2.1) 35 u.2.2.2.2.2.2.2.2.2.2.2.2.2.2.2.2.2.2.2.2.2.2.2.2.2.2.2.2.2.2.2.2.2.2.2.1) 36 u.2.2.2.2.2.2.2.2.2.2.2.2.2.2.2.2.2.2.2.2.2.2.2.2.2.2.2.2.2.2.2.2.2.2.2.2) ++ X) t) (al n0)) args s 0 0 (al n0)) (F0 m 263 ls [.int z0]) := by
  have hx := C.1
  have hb := C.2.1
  have hts := C.2.2.2.2.1
  intro a1 a2 a3 a4 a5 a6 a7 a8 i0 i1 i17 i34 x2 x3 x4 x5 x6 x7 x8 x10 x11 z0 hw H locs ls w hl
  unfold wl_Mo_breakUp_263 at hw
  refine lv_istore (lv' := [(12, .int z0), (0, .ref (ad 0)), (2, .int x2), (3, .int x3), (4, .int x4), (5, .int x5), (6, .int x6), (7, .int x7), (8, .int x8), (10, .int x10), (11, .int x11)]) hx hb d_Mo_breakUp_263 hl (by decide) rfl (fun ls hl => ?_)
  refine lv_aload_n hx hb d_Mo_breakUp_265 rfl (lv_at hl 1 rfl) ?_
  refine lv_aload_n hx hb d_Mo_breakUp_266 rfl (lv_at hl 1 rfl) ?_
  refine kg (C1 := R_Mo) (T := F_Mo) (N := 43) (ci := 10) (ref := "LineBreakerModel") (v := .ref (ad 9)) C w 0 10 iw_Mo rfl rfl (by decide) kw_887 rfl rfl d_Mo_breakUp_267 ?_
  refine lv_iconst (v := 0) hx hb d_Mo_breakUp_270 (by decide) ?_
  refine ka_i (f := (S.1 9)) C w 9 rfl hw.1 d_Mo_breakUp_271 ?_
  have hw := hw.2
  refine lv_if_ge (tgt := 279) hx hb d_Mo_breakUp_272 (by decide) (fun hc => ?_) (fun hc => ?_)
  · have hw := hw.1 hc
    refine lv_iconst (v := 1) hx hb d_Mo_breakUp_279 (by decide) ?_
    refine kp (C1 := R_Mo) (T := F_Mo) (N := 43) (ci := 10) (ty0 := t_Mo) (ref := "LineBreakerModel") (w2 := wM K ad (sI (sI (sI (sI (sI (sA (sA (sA (sA (sA (sA (sA (sA S 1 a1) 2 a2) 3 a3) 4 a4) 5 a5) 6 a6) 7 a7) 8 a8) 0 i0) 1 i1) 16 1) 17 i17) 34 i34) ++ X) C w 0 16 iw_Mo tk_Mo n_Mo rfl rfl (by decide) kw_893 rfl rfl rfl rfl (Nat.le_of_ble_eq_true rfl) rfl d_Mo_breakUp_280 (fun H locs w => ?_)
    obtain ⟨n9, hw⟩ := hw
    exact w_Mo_breakUp_283 C hr  n9 a1 a2 a3 a4 a5 a6 a7 a8 (S.1 15) (S.1 16) (S.1 17) (S.1 19) (S.1 20) (S.1 21) (S.1 22) (S.1 23) (S.1 24) (S.1 25) (S.1 26) (S.2.1 18) (S.2.1 27) i0 i1 1 i17 (S.2.2 18) (S.2.2 19) (S.2.2 20) (S.2.2 27) (S.2.2 28) (S.2.2 30) (S.2.2 31) (S.2.2 32) (S.2.2 33) i34 (S.2.2 35) (S.2.2 36) x2 x3 x4 x5 x6 x7 x8 x10 x11 z0 hw _ _ _ (wn_eq w rfl) (lv_sub hl [1, 2, 3, 4, 5, 6, 7, 8, 9, 10, 0] rfl)
  · have hw := hw.2 hc
    refine lv_iconst (v := 2) hx hb d_Mo_breakUp_275 (by decide) ?_
    refine lv_goto (tgt := 280) hx hb d_Mo_breakUp_276 (by decide) ?_
    refine kp (C1 := R_Mo) (T := F_Mo) (N := 43) (ci := 10) (ty0 := t_Mo) (ref := "LineBreakerModel") (w2 := wM K ad (sI (sI (sI (sI (sI (sA (sA (sA (sA (sA (sA (sA (sA S 1 a1) 2 a2) 3 a3) 4 a4) 5 a5) 6 a6) 7 a7) 8 a8) 0 i0) 1 i1) 16 2) 17 i17) 34 i34) ++ X) C w 0 16 iw_Mo tk_Mo n_Mo rfl rfl (by decide) kw_893 rfl rfl rfl rfl (Nat.le_of_ble_eq_true rfl) rfl d_Mo_breakUp_280 (fun H locs w => ?_)
    obtain ⟨n9, hw⟩ := hw
    exact w_Mo_breakUp_283 C hr  n9 a1 a2 a3 a4 a5 a6 a7 a8 (S.1 15) (S.1 16) (S.1 17) (S.1 19) (S.1 20) (S.1 21) (S.1 22) (S.1 23) (S.1 24) (S.1 25) (S.1 26) (S.2.1 18) (S.2.1 27) i0 i1 2 i17 (S.2.2 18) (S.2.2 19) (S.2.2 20) (S.2.2 27) (S.2.2 28) (S.2.2 30) (S.2.2 31) (S.2.2 32) (S.2.2 33) i34 (S.2.2 35) (S.2.2 36) x2 x3 x4 x5 x6 x7 x8 x10 x11 z0 hw _ _ _ (wn_eq w rfl) (lv_sub hl [1, 2, 3, 4, 5, 6, 7, 8, 9, 10, 0] rfl)
set_option maxHeartbeats 4000000 in
set_option maxRecDepth 100000 in
theorem w_Mo_breakUp_126 {S : ST} {post : Int32 → (Nat → Int32) → (Nat → Int32) → (Nat → Int32) → (Nat → Int32) → (Nat → Int32) → (Nat → Int32) → (Nat → Int32) → (Nat → Int32) → (Nat → Int32) → (Nat → Int32) → (Nat → Int32) → (Nat → Int32) → (Nat → Int32) → (Nat → Int32) → (Nat → Int32) → (Nat → Int32) → (Nat → Int32) → (Nat → Int32) → (Nat → Int32) → (Nat → Int64) → (Nat → Int64) → Int32 → Int32 → Int32 → Int32 → Int32 → Int32 → Int32 → Int32 → Int32 → Int32 → Int32 → Int32 → Int32 → Int32 → Int32 → Int32 → Prop} (C : cx p s m args meth c prog_12_method_42_code 14 "LineBreakerModel" n0 G K) (hr : meth.sig.returnType = (some .int)) : ∀ (i0 : Int32) (x2 : Int32) (z0 : Int32), wl_Mo_breakUp_126 S post i0 x2 z0 → ∀ (H : Heap) (locs : List Loc) (ls : Array Slot), wn n0 G (wM K ad (sI S 0 i0) ++ X) s H locs → lv_has ls 14 [(0, .ref (ad 0)), (2, .int x2)] → W p l e rm_Mo_breakUp s m args below meth c H locs 0 0 (MQ below (va_Qi (fun r (u : (Nat → Int32) × (Nat → Int32) × (Nat → Int32) × (Nat → Int32) × (Nat → Int32) × (Nat → Int32) × (Nat → Int32) × (Nat → Int32) × (Nat → Int32) × (Nat → Int32) × (Nat → Int32) × (Nat → Int32) × (Nat → Int32) × (Nat → Int32) × (Nat → Int32) × (Nat → Int32) × (Nat → Int32) × (Nat → Int32) × (Nat → Int32) × (Nat → Int64) × (Nat → Int64) × Int32 × Int32 × Int32 × Int32 × Int32 × Int32 × Int32 × Int32 × Int32 × Int32 × Int32 × Int32 × Int32 × Int32 × Int32 × Int32) => post r u.1 u.2.1 u.2.2.1 u.2.2.2.1 u.2.2.2.2.1 u.2.2.2.2.2.1 u.2.2.2.2.2.2.1 u.2.2.2.2.2.2.2.1 u.2.2.2.2.2.2.2.2.1 u.2.2.2.2.2.2.2.2.2.1 u.2.2.2.2.2.2.2.2.2.2.1 u.2.2.2.2.2.2.2.2.2.2.2.1 u.2.2.2.2.2.2.2.2.2.2.2.2.1 u.2.2.2.2.2.2.2.2.2.2.2.2.2.1 u.2.2.2.2.2.2.2.2.2.2.2.2.2.2.1 u.2.2.2.2.2.2.2.2.2.2.2.2.2.2.2.1 u.2.2.2.2.2.2.2.2.2.2.2.2.2.2.2.2.1 u.2.2.2.2.2.2.2.2.2.2.2.2.2.2.2.2.2.1 u.2.2.2.2.2.2.2.2.2.2.2.2.2.2.2.2.2.2.1 u.2.2.2.2.2.2.2.2.2.2.2.2.2.2.2.2.2.2.2.1 u.2.2.2.2.2.2.2.2.2.2.2.2.2.2.2.2.2.2.2.2.1 u.2.2.2.2.2.2.2.2.2.2.2.2.2.2.2.2.2.2.2.2.2.1 u.2.2.2.2.2.2.2.2.2.2.2.2.2.2.2.2.2.2.2.2.2.2.1 u.2.2.2.2.2.2.2.2.2.2.2.2.2.2.2.2.2.2.2.2.2.2.2.1 u.2.2.2.2.2.2.2.2.2.2.2.2.2.2.2.2.2.2.2.2.2.2.2.2.1 u.2.2.2.2.2.2.2.2.2.2.2.2.2.2.2.2.2.2.2.2.2.2.2.2.2.1 u.2.2.2.2.2.2.2.2.2.2.2.2.2.2.2.2.2.2.2.2.2.2.2.2.2.2.1 u.2.2.2.2.2.2.2.2.2.2.2.2.2.2.2.2.2.2.2.2.2.2.2.2.2.2.2.1 u.2.2.2.2.2.2.2.2.2.2.2.2.2.2.2.2.2.2.2.2.2.2.2.2.2.2.2.2.1 u.2.2.2.2.2.2.2.2.2.2.2.2.2.2.2.2.2.2.2.2.2.2.2.2.2.2.2.2.2.1 u.2.2.2.2.2.2.2.2.2.2.2.2.2.2.2.2.2.2.2.2.2.2.2.2.2.2.2.2.2.2.1 u.2.2.2.2.2.2.2.2.2.2.2.2.2.2.2.2.2.2.2.2.2.2.2.2.2.2.2.2.2.2.2.1 u.2.2.2.2.2.2.2.2.2.2.2.2.2.2.2.2.2.2.2.2.2.2.2.2.2.2.2.2.2.2.2.2.1 u.2.2.2.2.2.2.2.2.2.2.2.2.2.2.2.2.2.2.2.2.2.2.2.2.2.2.2.2.2.2.2.2.2.1 u.2.2.2.2.2.2.2.2.2.2.2.2.2.2.2.2.2.2.2.2.2.2.2.2.2.2.2.2.2.2.2.2.2.2.1 u.2.2.2.2.2.2.2.2.2.2.2.2.2.2.2.2.2.2.2.2.2.2.2.2.2.2.2.2.2.2.2.2.2.2.2.1 u.2.2.2.2.2.2.2.2.2.2.2.2.2.2.2.2.2.2.2.2.2.2.2.2.2.2.2.2.2.2.2.2.2.2.2.2) (fun (u : (Nat → Int32) × (Nat → Int32) × (Nat → Int32) × (Nat → Int32) × (Nat → Int32) × (Nat → Int32) × (Nat → Int32) × (Nat → Int32) × (Nat → Int32) × (Nat → Int32) × (Nat → Int32) × (Nat → Int32) × (Nat → Int32) × (Nat → Int32) × (Nat → Int32) × (Nat → Int32) × (Nat → Int32) × (Nat → Int32) × (Nat → Int32) × (Nat → Int64) × (Nat → Int64) × Int32 × Int32 × Int32 × Int32 × Int32 × Int32 × Int32 × Int32 × Int32 × Int32 × Int32 × Int32 × Int32 × Int32 × Int32 × Int32) t => we n0 G (wM K ad (sI (sI (sI (sI (sI (sI (sI (sI (sI (sI (sI (sI (sI (sI (sI (sI (sL (sL (sA (sA (sA (sA (sA (sA (sA (sA (sA (sA (sA (sA (sA (sA (sA (sA (sA (sA (sA S 1 u.1) 2 u.2.1) 3 u.2.2.1) 4 u.2.2.2.1) 5 u.2.2.2.2.1) 6 u.2.2.2.2.2.1) 7 u.2.2.2.2.2.2.1) 8 u.2.2.2.2.2.2.2.1) 15 u.2.2.2.2.2.2.2.2.1) 16 u.2.2.2.2.2.2.2.2.2.1) 17 u.2.2.2.2.2.2.2.2.2.2.1) 19 u.2.2.2.2.2.2.2.2.2.2.2.1) 20 u.2.2.2.2.2.2.2.2.2.2.2.2.1) 21 u.2.2.2.2.2.2.2.2.2.2.2.2.2.1) 22 u.2.2.2.2.2.2.2.2.2.2.2.2.2.2.1) 23 u.2.2.2.2.2.2.2.2.2.2.2.2.2.2.2.1) 24 u.2.2.2.2.2.2.2.2.2.2.2.2.2.2.2.2.1) 25 u.2.2.2.2.2.2.2.2.2.2.2.2.2.2.2.2.2.1) 26 u.2.2.2.2.2.2.2.2.2.2.2.2.2.2.2.2.2.2.1) 18 u.2.2.2.2.2.2.2.2.2.2.2.2.2.2.2.2.2.2.2.1) 27 u.2.2.2.2.2.2.2.2.2.2.2.2.2.2.2.2.2.2.2.2.1) 0 u.2.2.2.2.2.2.2.2.2.2.2.2.2.2.2.2.2.2.2.2.2.1) 1 u.2.2.2.2.2.2.2.2.2.2.2.2.2.2.2.2.2.2.2.2.2.2.1) 16 u.2.2.2.2.2.2.2.2.2.2.2.2.2.2.2.2.2.2.2.2.2.2.2.1) 17 u.2.2.2.2.2.2.2.2.2.2.2.2.2.2.2.2.2.2.2.2.2.2.2.2.1) 18 u.2.2.2.2.2.2.2.2.2.2.2.2.2.2.2.2.2.2.2.2.2.2.2.2.2.1) 19 u.2.2.2.2.2.2.2.2.2.2.2.2.2.2.2.2.2.2.2.2.2.2.2.2.2.2.1) 20 u.2.2.2.2.2.2.2.2.2.2.2.2.2.2.2.2.2.2.2.2.2.2.2.2.2.2.2.1) 27 u.2.2.2.2.2.2.2.2.2.2.2.2.2.2.2.2.2.2.2.2.2.2.2.2.2.2.2.2.1) 28 u.2.2.2.2.2.2.2.2.2.2.2.2.2.2.2.2.2.2.2.2.2.2.2.2.2.2.2.2.2.1) 30 u.2.2.2.2.2.2.2.2.2.2.2.2.2.2.2.2.2.2.2.2.2.2.2.2.2.2.2.2.2.2.1) 31 u.2.2.2.2.2.2.2.2.2.2.2.2.2.2.2.2.2.2.2.2.2.2.2.2.2.2.2.2.2.2.2.1) 32 u.2.2.2.2.2.2.2.2.2.2.2.2.2.2.2.2.2.2.2.2.2.2.2.2.2.2.2.2.2.2.2.2.1) 33 u.2.2.2.2.2.2.2.2.2.2.2.2.2.2.2.2.2.2.2.2.2.2.2.2.2.2.2.2.2.2.2.2.2.1) 34 u.2.2.2.2.2.2.2.2.2.2.2.2.2.2.2.2.2.2.2.2.2.2.2.2.2.2.2.2.2.2.2.2.2.2.1) 35 u.2.2.2.2.2.2.2.2.2.2.2.2.2.2.2.2.2.2.2.2.2.2.2.2.2.2.2.2.2.2.2.2.2.2.2.1) 36 u.2.2.2.2.2.2.2.2.2.2.2.2.2.2.2.2.2.2.2.2.2.2.2.2.2.2.2.2.2.2.2.2.2.2.2.2) ++ X) t) (al n0)) args s 0 0 (al n0)) (F0 m 126 ls [.int z0]) := by
  have hx := C.1
  have hb := C.2.1
  have hts := C.2.2.2.2.1
  intro i0 x2 z0 hw H locs ls w hl
  unfold wl_Mo_breakUp_126 at hw
  refine lv_istore_n (lv' := [(3, .int z0), (0, .ref (ad 0)), (2, .int x2)]) hx hb d_Mo_breakUp_126 rfl hl (by decide) rfl (fun ls hl => ?_)
  refine lv_aload_n hx hb d_Mo_breakUp_127 rfl (lv_at hl 1 rfl) ?_
  refine kg (C1 := R_Mo) (T := F_Mo) (N := 43) (ci := 10) (ref := "LineBreakerModel") (v := .ref (ad 1)) C w 0 2 iw_Mo rfl rfl (by decide) kw_879 rfl rfl d_Mo_breakUp_128 ?_
  refine lv_iload_n hx hb d_Mo_breakUp_131 rfl (lv_at hl 0 rfl) ?_
  refine ka_i (f := (S.1 1)) C w 1 rfl hw.1 d_Mo_breakUp_132 ?_
  have hw := hw.2
  refine lv_topi (fun v1 ev1 => ?_)
  have hw := hw v1 ev1
  refine lv_istore (lv' := [(4, .int v1), (3, .int z0), (0, .ref (ad 0)), (2, .int x2)]) hx hb d_Mo_breakUp_133 hl (by decide) rfl (fun ls hl => ?_)
  refine lv_aload_n hx hb d_Mo_breakUp_135 rfl (lv_at hl 2 rfl) ?_
  refine kg (C1 := R_Mo) (T := F_Mo) (N := 43) (ci := 10) (ref := "LineBreakerModel") (v := .ref (ad 2)) C w 0 3 iw_Mo rfl rfl (by decide) kw_880 rfl rfl d_Mo_breakUp_136 ?_
  refine lv_iload_n hx hb d_Mo_breakUp_139 rfl (lv_at hl 1 rfl) ?_
  refine ka_i (f := (S.1 2)) C w 2 rfl hw.1 d_Mo_breakUp_140 ?_
  have hw := hw.2
  refine lv_topi (fun v2 ev2 => ?_)
  have hw := hw v2 ev2
  refine lv_istore (lv' := [(5, .int v2), (4, .int v1), (3, .int z0), (0, .ref (ad 0)), (2, .int x2)]) hx hb d_Mo_breakUp_141 hl (by decide) rfl (fun ls hl => ?_)
  refine lv_aload_n hx hb d_Mo_breakUp_143 rfl (lv_at hl 3 rfl) ?_
  refine kg (C1 := R_Mo) (T := F_Mo) (N := 43) (ci := 10) (ref := "LineBreakerModel") (v := .ref (ad 3)) C w 0 4 iw_Mo rfl rfl (by decide) kw_881 rfl rfl d_Mo_breakUp_144 ?_
  refine lv_iload_n hx hb d_Mo_breakUp_147 rfl (lv_at hl 2 rfl) ?_
  refine ka_i (f := (S.1 3)) C w 3 rfl hw.1 d_Mo_breakUp_148 ?_
  have hw := hw.2
  refine lv_topi (fun v3 ev3 => ?_)
  have hw := hw v3 ev3
  refine lv_istore (lv' := [(6, .int v3), (5, .int v2), (4, .int v1), (3, .int z0), (0, .ref (ad 0)), (2, .int x2)]) hx hb d_Mo_breakUp_149 hl (by decide) rfl (fun ls hl => ?_)
  refine lv_aload_n hx hb d_Mo_breakUp_151 rfl (lv_at hl 4 rfl) ?_
  refine kg (C1 := R_Mo) (T := F_Mo) (N := 43) (ci := 10) (ref := "LineBreakerModel") (v := .ref (ad 4)) C w 0 5 iw_Mo rfl rfl (by decide) kw_882 rfl rfl d_Mo_breakUp_152 ?_
  refine lv_iload_n hx hb d_Mo_breakUp_155 rfl (lv_at hl 3 rfl) ?_
  refine ka_i (f := (S.1 4)) C w 4 rfl hw.1 d_Mo_breakUp_156 ?_
  have hw := hw.2
  refine lv_topi (fun v4 ev4 => ?_)
  have hw := hw v4 ev4
  refine lv_istore (lv' := [(7, .int v4), (6, .int v3), (5, .int v2), (4, .int v1), (3, .int z0), (0, .ref (ad 0)), (2, .int x2)]) hx hb d_Mo_breakUp_157 hl (by decide) rfl (fun ls hl => ?_)
  refine lv_aload_n hx hb d_Mo_breakUp_159 rfl (lv_at hl 5 rfl) ?_
  refine kg (C1 := R_Mo) (T := F_Mo) (N := 43) (ci := 10) (ref := "LineBreakerModel") (v := .ref (ad 5)) C w 0 6 iw_Mo rfl rfl (by decide) kw_883 rfl rfl d_Mo_breakUp_160 ?_
  refine lv_iload_n hx hb d_Mo_breakUp_163 rfl (lv_at hl 4 rfl) ?_
  refine ka_i (f := (S.1 5)) C w 5 rfl hw.1 d_Mo_breakUp_164 ?_
  have hw := hw.2
  refine lv_topi (fun v5 ev5 => ?_)
  have hw := hw v5 ev5
  refine lv_istore (lv' := [(8, .int v5), (7, .int v4), (6, .int v3), (5, .int v2), (4, .int v1), (3, .int z0), (0, .ref (ad 0)), (2, .int x2)]) hx hb d_Mo_breakUp_165 hl (by decide) rfl (fun ls hl => ?_)
  refine lv_aload_n hx hb d_Mo_breakUp_167 rfl (lv_at hl 6 rfl) ?_
  refine lv_iload_n hx hb d_Mo_breakUp_168 rfl (lv_at hl 5 rfl) ?_
  refine kp (C1 := R_Mo) (T := F_Mo) (N := 43) (ci := 10) (ty0 := t_Mo) (ref := "LineBreakerModel") (w2 := wM K ad (sI (sI S 0 i0) 1 z0) ++ X) C w 0 1 iw_Mo tk_Mo n_Mo rfl rfl (by decide) kw_878 rfl rfl rfl rfl (Nat.le_of_ble_eq_true rfl) rfl d_Mo_breakUp_169 (fun H locs w => ?_)
  refine lv_aload_n hx hb d_Mo_breakUp_172 rfl (lv_at hl 6 rfl) ?_
  refine lv_iconst (v := 4) hx hb d_Mo_breakUp_173 (by decide) ?_
  refine lv_sipush (v := 10000) hx hb d_Mo_breakUp_174 (by decide) ?_
  refine lv_iconst (v := 0) hx hb d_Mo_breakUp_177 (by decide) ?_
  refine lv_iconst (v := 0) hx hb d_Mo_breakUp_178 (by decide) ?_
  refine lv_iconst (v := 0) hx hb d_Mo_breakUp_179 (by decide) ?_
  refine lv_iconst (v := 0) hx hb d_Mo_breakUp_180 (by decide) ?_
  refine lv_iconst (v := 0) hx hb d_Mo_breakUp_181 (by decide) ?_
  refine kc_i (st := fun (u : (Nat → Int32) × (Nat → Int32) × (Nat → Int32) × (Nat → Int32) × (Nat → Int32) × (Nat → Int32) × (Nat → Int32) × (Nat → Int32) × Int32 × Int32) => wM K ad (sI (sI (sA (sA (sA (sA (sA (sA (sA (sA (sI (sI S 0 i0) 1 z0) 1 u.1) 2 u.2.1) 3 u.2.2.1) 4 u.2.2.2.1) 5 u.2.2.2.2.1) 6 u.2.2.2.2.2.1) 7 u.2.2.2.2.2.2.1) 8 u.2.2.2.2.2.2.2.1) 1 u.2.2.2.2.2.2.2.2.1) 34 u.2.2.2.2.2.2.2.2.2) ++ X) w (kr_V (y := y_Mo_append) (C1 := R_Mo) (T := F_Mo) (N := 43) (ci := 10) (q0 := 0) (As := [.int 4, .int 10000, .int 0, .int 0, .int 0, .int 0, .int 0]) (n := 7) C w (c_Mo_append l n0 G K ad X (sI (sI S 0 i0) 1 z0) 4 10000 0 0 0 0 0 _ hw) (gw_V kw_1020 kw_1022 kp_19 kw_11 kw_1023) (by decide +kernel) rfl rfl ⟨Nat.le_of_ble_eq_true rfl, Nat.le_of_ble_eq_true rfl⟩ rfl rfl rfl hl.1 rfl (Nat.le_of_ble_eq_true rfl) d_Mo_breakUp_182 ⟨Nat.le_of_ble_eq_true rfl, Nat.le_of_ble_eq_true rfl⟩) (fun r16 u H locs hw w => ?_)
  obtain ⟨f6, f7, f8, f9, f10, f11, f12, f13, v14, v15⟩ := u
  dsimp only at hw
  have w : wn n0 G (wM K ad (sI (sI (sI (sA (sA (sA (sA (sA (sA (sA (sA S 1 f6) 2 f7) 3 f8) 4 f9) 5 f10) 6 f11) 7 f12) 8 f13) 0 i0) 1 v14) 34 v15) ++ X) s H locs := w
  refine lv_istore (lv' := [(9, .int r16), (8, .int v5), (7, .int v4), (6, .int v3), (5, .int v2), (4, .int v1), (3, .int z0), (0, .ref (ad 0)), (2, .int x2)]) hx hb d_Mo_breakUp_185 hl (by decide) rfl (fun ls hl => ?_)
  refine lv_aload_n hx hb d_Mo_breakUp_187 rfl (lv_at hl 7 rfl) ?_
  refine lv_iconst (v := 1) hx hb d_Mo_breakUp_188 (by decide) ?_
  refine lv_aload_n hx hb d_Mo_breakUp_189 rfl (lv_at hl 7 rfl) ?_
  refine kg (C1 := R_Mo) (T := F_Mo) (N := 43) (ci := 10) (ref := "LineBreakerModel") (v := .ref (ad 11)) C w 0 12 iw_Mo rfl rfl (by decide) kw_889 rfl rfl d_Mo_breakUp_190 ?_
  refine lv_iconst (v := 2) hx hb d_Mo_breakUp_193 (by decide) ?_
  refine ka_i (f := (S.1 11)) C w 11 rfl hw.1 d_Mo_breakUp_194 ?_
  have hw := hw.2
  refine lv_aload_n hx hb d_Mo_breakUp_195 rfl (lv_at hl 7 rfl) ?_
  refine kg (C1 := R_Mo) (T := F_Mo) (N := 43) (ci := 10) (ref := "LineBreakerModel") (v := .ref (ad 12)) C w 0 13 iw_Mo rfl rfl (by decide) kw_890 rfl rfl d_Mo_breakUp_196 ?_
  refine lv_iconst (v := 2) hx hb d_Mo_breakUp_199 (by decide) ?_
  refine ka_i (f := (S.1 12)) C w 12 rfl hw.1 d_Mo_breakUp_200 ?_
  have hw := hw.2
  refine lv_aload_n hx hb d_Mo_breakUp_201 rfl (lv_at hl 7 rfl) ?_
  refine kg (C1 := R_Mo) (T := F_Mo) (N := 43) (ci := 10) (ref := "LineBreakerModel") (v := .ref (ad 13)) C w 0 14 iw_Mo rfl rfl (by decide) kw_891 rfl rfl d_Mo_breakUp_202 ?_
  refine lv_iconst (v := 2) hx hb d_Mo_breakUp_205 (by decide) ?_
  refine ka_i (f := (S.1 13)) C w 13 rfl hw.1 d_Mo_breakUp_206 ?_
  have hw := hw.2
  refine lv_aload_n hx hb d_Mo_breakUp_207 rfl (lv_at hl 7 rfl) ?_
  refine kg (C1 := R_Mo) (T := F_Mo) (N := 43) (ci := 10) (ref := "LineBreakerModel") (v := .ref (ad 14)) C w 0 15 iw_Mo rfl rfl (by decide) kw_892 rfl rfl d_Mo_breakUp_208 ?_
  refine lv_iconst (v := 2) hx hb d_Mo_breakUp_211 (by decide) ?_
  refine ka_i (f := (S.1 14)) C w 14 rfl hw.1 d_Mo_breakUp_212 ?_
  have hw := hw.2
  refine lv_iconst (v := 0) hx hb d_Mo_breakUp_213 (by decide) ?_
  refine lv_iconst (v := 0) hx hb d_Mo_breakUp_214 (by decide) ?_
  refine kc_i (st := fun (u : (Nat → Int32) × (Nat → Int32) × (Nat → Int32) × (Nat → Int32) × (Nat → Int32) × (Nat → Int32) × (Nat → Int32) × (Nat → Int32) × Int32 × Int32) => wM K ad (sI (sI (sA (sA (sA (sA (sA (sA (sA (sA (sI (sI (sI (sA (sA (sA (sA (sA (sA (sA (sA S 1 f6) 2 f7) 3 f8) 4 f9) 5 f10) 6 f11) 7 f12) 8 f13) 0 i0) 1 v14) 34 v15) 1 u.1) 2 u.2.1) 3 u.2.2.1) 4 u.2.2.2.1) 5 u.2.2.2.2.1) 6 u.2.2.2.2.2.1) 7 u.2.2.2.2.2.2.1) 8 u.2.2.2.2.2.2.2.1) 1 u.2.2.2.2.2.2.2.2.1) 34 u.2.2.2.2.2.2.2.2.2) ++ X) w (kr_V (y := y_Mo_append) (C1 := R_Mo) (T := F_Mo) (N := 43) (ci := 10) (q0 := 0) (As := [.int 1, .int ((S.1 11) (2 : Int32).toNatClampNeg), .int ((S.1 12) (2 : Int32).toNatClampNeg), .int ((S.1 13) (2 : Int32).toNatClampNeg), .int ((S.1 14) (2 : Int32).toNatClampNeg), .int 0, .int 0]) (n := 7) C w (c_Mo_append l n0 G K ad X (sI (sI (sI (sA (sA (sA (sA (sA (sA (sA (sA S 1 f6) 2 f7) 3 f8) 4 f9) 5 f10) 6 f11) 7 f12) 8 f13) 0 i0) 1 v14) 34 v15) 1 ((S.1 11) (2 : Int32).toNatClampNeg) ((S.1 12) (2 : Int32).toNatClampNeg) ((S.1 13) (2 : Int32).toNatClampNeg) ((S.1 14) (2 : Int32).toNatClampNeg) 0 0 _ hw) (gw_V kw_1020 kw_1022 kp_19 kw_11 kw_1023) (by decide +kernel) rfl rfl ⟨Nat.le_of_ble_eq_true rfl, Nat.le_of_ble_eq_true rfl⟩ rfl rfl rfl hl.1 rfl (Nat.le_of_ble_eq_true rfl) d_Mo_breakUp_215 ⟨Nat.le_of_ble_eq_true rfl, Nat.le_of_ble_eq_true rfl⟩) (fun r27 u H locs hw w => ?_)
  obtain ⟨f17, f18, f19, f20, f21, f22, f23, f24, v25, v26⟩ := u
  dsimp only at hw
  have w : wn n0 G (wM K ad (sI (sI (sI (sA (sA (sA (sA (sA (sA (sA (sA S 1 f17) 2 f18) 3 f19) 4 f20) 5 f21) 6 f22) 7 f23) 8 f24) 0 i0) 1 v25) 34 v26) ++ X) s H locs := w
  refine lv_istore (lv' := [(9, .int r27), (8, .int v5), (7, .int v4), (6, .int v3), (5, .int v2), (4, .int v1), (3, .int z0), (0, .ref (ad 0)), (2, .int x2)]) hx hb d_Mo_breakUp_218 hl (by decide) rfl (fun ls hl => ?_)
  refine lv_aload_n hx hb d_Mo_breakUp_220 rfl (lv_at hl 7 rfl) ?_
  refine lv_aload_n hx hb d_Mo_breakUp_221 rfl (lv_at hl 7 rfl) ?_
  refine lv_iconst (v := 4) hx hb d_Mo_breakUp_222 (by decide) ?_
  refine lv_sipush (v := (-10000)) hx hb d_Mo_breakUp_223 (by decide) ?_
  refine lv_iconst (v := 0) hx hb d_Mo_breakUp_226 (by decide) ?_
  refine lv_iconst (v := 0) hx hb d_Mo_breakUp_227 (by decide) ?_
  refine lv_iconst (v := 0) hx hb d_Mo_breakUp_228 (by decide) ?_
  refine lv_iconst (v := 0) hx hb d_Mo_breakUp_229 (by decide) ?_
  refine lv_iconst (v := 0) hx hb d_Mo_breakUp_230 (by decide) ?_
  refine kc_i (st := fun (u : (Nat → Int32) × (Nat → Int32) × (Nat → Int32) × (Nat → Int32) × (Nat → Int32) × (Nat → Int32) × (Nat → Int32) × (Nat → Int32) × Int32 × Int32) => wM K ad (sI (sI (sA (sA (sA (sA (sA (sA (sA (sA (sI (sI (sI (sA (sA (sA (sA (sA (sA (sA (sA S 1 f17) 2 f18) 3 f19) 4 f20) 5 f21) 6 f22) 7 f23) 8 f24) 0 i0) 1 v25) 34 v26) 1 u.1) 2 u.2.1) 3 u.2.2.1) 4 u.2.2.2.1) 5 u.2.2.2.2.1) 6 u.2.2.2.2.2.1) 7 u.2.2.2.2.2.2.1) 8 u.2.2.2.2.2.2.2.1) 1 u.2.2.2.2.2.2.2.2.1) 34 u.2.2.2.2.2.2.2.2.2) ++ X) w (kr_V (y := y_Mo_append) (C1 := R_Mo) (T := F_Mo) (N := 43) (ci := 10) (q0 := 0) (As := [.int 4, .int (-10000), .int 0, .int 0, .int 0, .int 0, .int 0]) (n := 7) C w (c_Mo_append l n0 G K ad X (sI (sI (sI (sA (sA (sA (sA (sA (sA (sA (sA S 1 f17) 2 f18) 3 f19) 4 f20) 5 f21) 6 f22) 7 f23) 8 f24) 0 i0) 1 v25) 34 v26) 4 (-10000) 0 0 0 0 0 _ hw) (gw_V kw_1020 kw_1022 kp_19 kw_11 kw_1023) (by decide +kernel) rfl rfl ⟨Nat.le_of_ble_eq_true rfl, Nat.le_of_ble_eq_true rfl⟩ rfl rfl rfl hl.1 rfl (Nat.le_of_ble_eq_true rfl) d_Mo_breakUp_231 ⟨Nat.le_of_ble_eq_true rfl, Nat.le_of_ble_eq_true rfl⟩) (fun r38 u H locs hw w => ?_)
  obtain ⟨f28, f29, f30, f31, f32, f33, f34, f35, v36, v37⟩ := u
  dsimp only at hw
  have w : wn n0 G (wM K ad (sI (sI (sI (sA (sA (sA (sA (sA (sA (sA (sA S 1 f28) 2 f29) 3 f30) 4 f31) 5 f32) 6 f33) 7 f34) 8 f35) 0 i0) 1 v36) 34 v37) ++ X) s H locs := w
  refine kp (C1 := R_Mo) (T := F_Mo) (N := 43) (ci := 10) (ty0 := t_Mo) (ref := "LineBreakerModel") (w2 := wM K ad (sI (sI (sI (sI (sA (sA (sA (sA (sA (sA (sA (sA S 1 f28) 2 f29) 3 f30) 4 f31) 5 f32) 6 f33) 7 f34) 8 f35) 0 i0) 1 v36) 17 r38) 34 v37) ++ X) C w 0 17 iw_Mo tk_Mo n_Mo rfl rfl (by decide) kw_894 rfl rfl rfl rfl (Nat.le_of_ble_eq_true rfl) rfl d_Mo_breakUp_234 (fun H locs w => ?_)
  refine lv_iconst (v := 0) hx hb d_Mo_breakUp_237 (by decide) ?_
  refine lv_istore (lv' := [(10, .int 0), (9, .int r27), (8, .int v5), (7, .int v4), (6, .int v3), (5, .int v2), (4, .int v1), (3, .int z0), (0, .ref (ad 0)), (2, .int x2)]) hx hb d_Mo_breakUp_238 hl (by decide) rfl (fun ls hl => ?_)
  refine lv_iconst (v := 0) hx hb d_Mo_breakUp_240 (by decide) ?_
  refine lv_istore (lv' := [(11, .int 0), (10, .int 0), (9, .int r27), (8, .int v5), (7, .int v4), (6, .int v3), (5, .int v2), (4, .int v1), (3, .int z0), (0, .ref (ad 0)), (2, .int x2)]) hx hb d_Mo_breakUp_241 hl (by decide) rfl (fun ls hl => ?_)
  refine lv_aload_n hx hb d_Mo_breakUp_243 rfl (lv_at hl 9 rfl) ?_
  refine lv_iconst (v := 0) hx hb d_Mo_breakUp_244 (by decide) ?_
  refine kp (C1 := R_Mo) (T := F_Mo) (N := 43) (ci := 10) (ty0 := t_Mo) (ref := "LineBreakerModel") (w2 := wM K ad (sI (sI (sI (sI (sA (sA (sA (sA (sA (sA (sA (sA S 1 f28) 2 f29) 3 f30) 4 f31) 5 f32) 6 f33) 7 f34) 8 f35) 0 i0) 1 v36) 17 r38) 34 0) ++ X) C w 0 34 iw_Mo tk_Mo n_Mo rfl rfl (by decide) kw_911 rfl rfl rfl rfl (Nat.le_of_ble_eq_true rfl) rfl d_Mo_breakUp_245 (fun H locs w => ?_)
  refine lv_aload_n hx hb d_Mo_breakUp_248 rfl (lv_at hl 9 rfl) ?_
  refine kg (C1 := R_Mo) (T := F_Mo) (N := 43) (ci := 10) (ref := "LineBreakerModel") (v := .ref (ad 9)) C w 0 10 iw_Mo rfl rfl (by decide) kw_887 rfl rfl d_Mo_breakUp_249 ?_
  refine lv_bipush (v := 8) hx hb d_Mo_breakUp_252 (by decide) ?_
  refine ka_i (f := (S.1 9)) C w 9 rfl hw.1 d_Mo_breakUp_254 ?_
  have hw := hw.2
  refine lv_if_le (tgt := 262) hx hb d_Mo_breakUp_255 (by decide) (fun hc => ?_) (fun hc => ?_)
  · have hw := hw.1 hc
    refine lv_iconst (v := 2) hx hb d_Mo_breakUp_262 (by decide) ?_
    exact w_Mo_breakUp_263 C hr  f28 f29 f30 f31 f32 f33 f34 f35 i0 v36 r38 0 x2 z0 v1 v2 v3 v4 v5 0 0 2 hw _ _ _ (wn_eq w rfl) (lv_sub hl [9, 10, 8, 7, 6, 5, 4, 3, 1, 0] rfl)
  · have hw := hw.2 hc
    refine lv_iconst (v := 3) hx hb d_Mo_breakUp_258 (by decide) ?_
    refine lv_goto (tgt := 263) hx hb d_Mo_breakUp_259 (by decide) ?_
    exact w_Mo_breakUp_263 C hr  f28 f29 f30 f31 f32 f33 f34 f35 i0 v36 r38 0 x2 z0 v1 v2 v3 v4 v5 0 0 3 hw _ _ _ (wn_eq w rfl) (lv_sub hl [9, 10, 8, 7, 6, 5, 4, 3, 1, 0] rfl)
set_option maxHeartbeats 4000000 in
set_option maxRecDepth 100000 in
theorem w_Mo_breakUp_122 {S : ST} {post : Int32 → (Nat → Int32) → (Nat → Int32) → (Nat → Int32) → (Nat → Int32) → (Nat → Int32) → (Nat → Int32) → (Nat → Int32) → (Nat → Int32) → (Nat → Int32) → (Nat → Int32) → (Nat → Int32) → (Nat → Int32) → (Nat → Int32) → (Nat → Int32) → (Nat → Int32) → (Nat → Int32) → (Nat → Int32) → (Nat → Int32) → (Nat → Int32) → (Nat → Int64) → (Nat → Int64) → Int32 → Int32 → Int32 → Int32 → Int32 → Int32 → Int32 → Int32 → Int32 → Int32 → Int32 → Int32 → Int32 → Int32 → Int32 → Int32 → Prop} (C : cx p s m args meth c prog_12_method_42_code 14 "LineBreakerModel" n0 G K) (hr : meth.sig.returnType = (some .int)) : ∀ (i0 : Int32) (x2 : Int32), wl_Mo_breakUp_122 S post i0 x2 → ∀ (H : Heap) (locs : List Loc) (ls : Array Slot), wn n0 G (wM K ad (sI S 0 i0) ++ X) s H locs → lv_has ls 14 [(0, .ref (ad 0)), (2, .int x2)] → W p l e rm_Mo_breakUp s m args below meth c H locs 0 0 (MQ below (va_Qi (fun r (u : (Nat → Int32) × (Nat → Int32) × (Nat → Int32) × (Nat → Int32) × (Nat → Int32) × (Nat → Int32) × (Nat → Int32) × (Nat → Int32) × (Nat → Int32) × (Nat → Int32) × (Nat → Int32) × (Nat → Int32) × (Nat → Int32) × (Nat → Int32) × (Nat → Int32) × (Nat → Int32) × (Nat → Int32) × (Nat → Int32) × (Nat → Int32) × (Nat → Int64) × (Nat → Int64) × Int32 × Int32 × Int32 × Int32 × Int32 × Int32 × Int32 × Int32 × Int32 × Int32 × Int32 × Int32 × Int32 × Int32 × Int32 × Int32) => post r u.1 u.2.1 u.2.2.1 u.2.2.2.1 u.2.2.2.2.1 u.2.2.2.2.2.1 u.2.2.2.2.2.2.1 u.2.2.2.2.2.2.2.1 u.2.2.2.2.2.2.2.2.1 u.2.2.2.2.2.2.2.2.2.1 u.2.2.2.2.2.2.2.2.2.2.1 u.2.2.2.2.2.2.2.2.2.2.2.1 u.2.2.2.2.2.2.2.2.2.2.2.2.1 u.2.2.2.2.2.2.2.2.2.2.2.2.2.1 u.2.2.2.2.2.2.2.2.2.2.2.2.2.2.1 u.2.2.2.2.2.2.2.2.2.2.2.2.2.2.2.1 u.2.2.2.2.2.2.2.2.2.2.2.2.2.2.2.2.1 u.2.2.2.2.2.2.2.2.2.2.2.2.2.2.2.2.2.1 u.2.2.2.2.2.2.2.2.2.2.2.2.2.2.2.2.2.2.1 u.2.2.2.2.2.2.2.2.2.2.2.2.2.2.2.2.2.2.2.1 u.2.2.2.2.2.2.2.2.2.2.2.2.2.2.2.2.2.2.2.2.1 u.2.2.2.2.2.2.2.2.2.2.2.2.2.2.2.2.2.2.2.2.2.1 u.2.2.2.2.2.2.2.2.2.2.2.2.2.2.2.2.2.2.2.2.2.2.1 u.2.2.2.2.2.2.2.2.2.2.2.2.2.2.2.2.2.2.2.2.2.2.2.1 u.2.2.2.2.2.2.2.2.2.2.2.2.2.2.2.2.2.2.2.2.2.2.2.2.1 u.2.2.2.2.2.2.2.2.2.2.2.2.2.2.2.2.2.2.2.2.2.2.2.2.2.1 u.2.2.2.2.2.2.2.2.2.2.2.2.2.2.2.2.2.2.2.2.2.2.2.2.2.2.1 u.2.2.2.2.2.2.2.2.2.2.2.2.2.2.2.2.2.2.2.2.2.2.2.2.2.2.2.1 u.2.2.2.2.2.2.2.2.2.2.2.2.2.2.2.2.2.2.2.2.2.2.2.2.2.2.2.2.1 u.2.2.2.2.2.2.2.2.2.2.2.2.2.2.2.2.2.2.2.2.2.2.2.2.2.2.2.2.2.1 u.2.2.2.2.2.2.2.2.2.2.2.2.2.2.2.2.2.2.2.2.2.2.2.2.2.2.2.2.2.2.1 u.2.2.2.2.2.2.2.2.2.2.2.2.2.2.2.2.2.2.2.2.2.2.2.2.2.2.2.2.2.2.2.1 u.2.2.2.2.2.2.2.2.2.2.2.2.2.2.2.2.2.2.2.2.2.2.2.2.2.2.2.2.2.2.2.2.1 u.2.2.2.2.2.2.2.2.2.2.2.2.2.2.2.2.2.2.2.2.2.2.2.2.2.2.2.2.2.2.2.2.2.1 u.2.2.2.2.2.2.2.2.2.2.2.2.2.2.2.2.2.2.2.2.2.2.2.2.2.2.2.2.2.2.2.2.2.2.1 u.2.2.2.2.2.2.2.2.2.2.2.2.2.2.2.2.2.2.2.2.2.2.2.2.2.2.2.2.2.2.2.2.2.2.2.1 u.2.2.2.2.2.2.2.2.2.2.2.2.2.2.2.2.2.2.2.2.2.2.2.2.2.2.2.2.2.2.2.2.2.2.2.2) (fun (u : (Nat → Int32) × (Nat → Int32) × (Nat → Int32) × (Nat → Int32) × (Nat → Int32) × (Nat → Int32) × (Nat → Int32) × (Nat → Int32) × (Nat → Int32) × (Nat → Int32) × (Nat → Int32) × (Nat → Int32) × (Nat → Int32) × (Nat → Int32) × (Nat → Int32) × (Nat → Int32) × (Nat → Int32) × (Nat → Int32) × (Nat → Int32) × (Nat → Int64) × (Nat → Int64) × Int32 × Int32 × Int32 × Int32 × Int32 × Int32 × Int32 × Int32 × Int32 × Int32 × Int32 × Int32 × Int32 × Int32 × Int32 × Int32) t => we n0 G (wM K ad (sI (sI (sI (sI (sI (sI (sI (sI (sI (sI (sI (sI (sI (sI (sI (sI (sL (sL (sA (sA (sA (sA (sA (sA (sA (sA (sA (sA (sA (sA (sA (sA (sA (sA (sA (sA (sA S 1 u.1) 2 u.2.1) 3 u.2.2.1) 4 u.2.2.2.1) 5 u.2.2.2.2.1) 6 u.2.2.2.2.2.1) 7 u.2.2.2.2.2.2.1) 8 u.2.2.2.2.2.2.2.1) 15 u.2.2.2.2.2.2.2.2.1) 16 u.2.2.2.2.2.2.2.2.2.1) 17 u.2.2.2.2.2.2.2.2.2.2.1) 19 u.2.2.2.2.2.2.2.2.2.2.2.1) 20 u.2.2.2.2.2.2.2.2.2.2.2.2.1) 21 u.2.2.2.2.2.2.2.2.2.2.2.2.2.1) 22 u.2.2.2.2.2.2.2.2.2.2.2.2.2.2.1) 23 u.2.2.2.2.2.2.2.2.2.2.2.2.2.2.2.1) 24 u.2.2.2.2.2.2.2.2.2.2.2.2.2.2.2.2.1) 25 u.2.2.2.2.2.2.2.2.2.2.2.2.2.2.2.2.2.1) 26 u.2.2.2.2.2.2.2.2.2.2.2.2.2.2.2.2.2.2.1) 18 u.2.2.2.2.2.2.2.2.2.2.2.2.2.2.2.2.2.2.2.1) 27 u.2.2.2.2.2.2.2.2.2.2.2.2.2.2.2.2.2.2.2.2.1) 0 u.2.2.2.2.2.2.2.2.2.2.2.2.2.2.2.2.2.2.2.2.2.1) 1 u.2.2.2.2.2.2.2.2.2.2.2.2.2.2.2.2.2.2.2.2.2.2.1) 16 u.2.2.2.2.2.2.2.2.2.2.2.2.2.2.2.2.2.2.2.2.2.2.2.1) 17 u.2.2.2.2.2.2.2.2.2.2.2.2.2.2.2.2.2.2.2.2.2.2.2.2.1) 18 u.2.2.2.2.2.2.2.2.2.2.2.2.2.2.2.2.2.2.2.2.2.2.2.2.2.1) 19 u.2.2.2.2.2.2.2.2.2.2.2.2.2.2.2.2.2.2.2.2.2.2.2.2.2.2.1) 20 u.2.2.2.2.2.2.2.2.2.2.2.2.2.2.2.2.2.2.2.2.2.2.2.2.2.2.2.1) 27 u.2.2.2.2.2.2.2.2.2.2.2.2.2.2.2.2.2.2.2.2.2.2.2.2.2.2.2.2.1) 28 u.2.2.2.2.2.2.2.2.2.2.2.2.2.2.2.2.2.2.2.2.2.2.2.2.2.2.2.2.2.1) 30 u.2.2.2.2.2.2.2.2.2.2.2.2.2.2.2.2.2.2.2.2.2.2.2.2.2.2.2.2.2.2.1) 31 u.2.2.2.2.2.2.2.2.2.2.2.2.2.2.2.2.2.2.2.2.2.2.2.2.2.2.2.2.2.2.2.1) 32 u.2.2.2.2.2.2.2.2.2.2.2.2.2.2.2.2.2.2.2.2.2.2.2.2.2.2.2.2.2.2.2.2.1) 33 u.2.2.2.2.2.2.2.2.2.2.2.2.2.2.2.2.2.2.2.2.2.2.2.2.2.2.2.2.2.2.2.2.2.1) 34 u.2.2.2.2.2.2.2.2.2.2.2.2.2.2.2.2.2.2.2.2.2.2.2.2.2.2.2.2.2.2.2.2.2.2.1) 35 u.2.2.2.2.2.2.2.2.2.2.2.2.2.2.2.2.2.2.2.2.2.2.2.2.2.2.2.2.2.2.2.2.2.2.2.1) 36 u.2.2.2.2.2.2.2.2.2.2.2.2.2.2.2.2.2.2.2.2.2.2.2.2.2.2.2.2.2.2.2.2.2.2.2.2) ++ X) t) (al n0)) args s 0 0 (al n0)) (F0 m 122 ls []) := by
  have hx := C.1
  have hb := C.2.1
  have hts := C.2.2.2.2.1
  intro i0 x2 hw H locs ls w hl
  unfold wl_Mo_breakUp_122 at hw
  refine lv_aload_n hx hb d_Mo_breakUp_122 rfl (lv_at hl 0 rfl) ?_
  refine kg (C1 := R_Mo) (T := F_Mo) (N := 43) (ci := 10) (ref := "LineBreakerModel") (v := .int (S.2.2 1)) C w 0 1 iw_Mo rfl rfl (by decide) kw_878 rfl rfl d_Mo_breakUp_123 ?_
  exact w_Mo_breakUp_126 C hr  i0 x2 (S.2.2 1) hw _ _ _ (wn_eq w rfl) (lv_sub hl [0, 1] rfl)
set_option maxHeartbeats 4000000 in
set_option maxRecDepth 100000 in
theorem w_Mo_breakUp_74 {S : ST} {post : Int32 → (Nat → Int32) → (Nat → Int32) → (Nat → Int32) → (Nat → Int32) → (Nat → Int32) → (Nat → Int32) → (Nat → Int32) → (Nat → Int32) → (Nat → Int32) → (Nat → Int32) → (Nat → Int32) → (Nat → Int32) → (Nat → Int32) → (Nat → Int32) → (Nat → Int32) → (Nat → Int32) → (Nat → Int32) → (Nat → Int32) → (Nat → Int32) → (Nat → Int64) → (Nat → Int64) → Int32 → Int32 → Int32 → Int32 → Int32 → Int32 → Int32 → Int32 → Int32 → Int32 → Int32 → Int32 → Int32 → Int32 → Int32 → Int32 → Prop} (C : cx p s m args meth c prog_12_method_42_code 14 "LineBreakerModel" n0 G K) (hr : meth.sig.returnType = (some .int)) : ∀ (z1 : Int32), wl_Mo_breakUp_74 S post z1 → ∀ (H : Heap) (locs : List Loc) (ls : Array Slot), wn n0 G (wM K ad S ++ X) s H locs → lv_has ls 14 [(0, .ref (ad 0))] → W p l e rm_Mo_breakUp s m args below meth c H locs 0 0 (MQ below (va_Qi (fun r (u : (Nat → Int32) × (Nat → Int32) × (Nat → Int32) × (Nat → Int32) × (Nat → Int32) × (Nat → Int32) × (Nat → Int32) × (Nat → Int32) × (Nat → Int32) × (Nat → Int32) × (Nat → Int32) × (Nat → Int32) × (Nat → Int32) × (Nat → Int32) × (Nat → Int32) × (Nat → Int32) × (Nat → Int32) × (Nat → Int32) × (Nat → Int32) × (Nat → Int64) × (Nat → Int64) × Int32 × Int32 × Int32 × Int32 × Int32 × Int32 × Int32 × Int32 × Int32 × Int32 × Int32 × Int32 × Int32 × Int32 × Int32 × Int32) => post r u.1 u.2.1 u.2.2.1 u.2.2.2.1 u.2.2.2.2.1 u.2.2.2.2.2.1 u.2.2.2.2.2.2.1 u.2.2.2.2.2.2.2.1 u.2.2.2.2.2.2.2.2.1 u.2.2.2.2.2.2.2.2.2.1 u.2.2.2.2.2.2.2.2.2.2.1 u.2.2.2.2.2.2.2.2.2.2.2.1 u.2.2.2.2.2.2.2.2.2.2.2.2.1 u.2.2.2.2.2.2.2.2.2.2.2.2.2.1 u.2.2.2.2.2.2.2.2.2.2.2.2.2.2.1 u.2.2.2.2.2.2.2.2.2.2.2.2.2.2.2.1 u.2.2.2.2.2.2.2.2.2.2.2.2.2.2.2.2.1 u.2.2.2.2.2.2.2.2.2.2.2.2.2.2.2.2.2.1 u.2.2.2.2.2.2.2.2.2.2.2.2.2.2.2.2.2.2.1 u.2.2.2.2.2.2.2.2.2.2.2.2.2.2.2.2.2.2.2.1 u.2.2.2.2.2.2.2.2.2.2.2.2.2.2.2.2.2.2.2.2.1 u.2.2.2.2.2.2.2.2.2.2.2.2.2.2.2.2.2.2.2.2.2.1 u.2.2.2.2.2.2.2.2.2.2.2.2.2.2.2.2.2.2.2.2.2.2.1 u.2.2.2.2.2.2.2.2.2.2.2.2.2.2.2.2.2.2.2.2.2.2.2.1 u.2.2.2.2.2.2.2.2.2.2.2.2.2.2.2.2.2.2.2.2.2.2.2.2.1 u.2.2.2.2.2.2.2.2.2.2.2.2.2.2.2.2.2.2.2.2.2.2.2.2.2.1 u.2.2.2.2.2.2.2.2.2.2.2.2.2.2.2.2.2.2.2.2.2.2.2.2.2.2.1 u.2.2.2.2.2.2.2.2.2.2.2.2.2.2.2.2.2.2.2.2.2.2.2.2.2.2.2.1 u.2.2.2.2.2.2.2.2.2.2.2.2.2.2.2.2.2.2.2.2.2.2.2.2.2.2.2.2.1 u.2.2.2.2.2.2.2.2.2.2.2.2.2.2.2.2.2.2.2.2.2.2.2.2.2.2.2.2.2.1 u.2.2.2.2.2.2.2.2.2.2.2.2.2.2.2.2.2.2.2.2.2.2.2.2.2.2.2.2.2.2.1 u.2.2.2.2.2.2.2.2.2.2.2.2.2.2.2.2.2.2.2.2.2.2.2.2.2.2.2.2.2.2.2.1 u.2.2.2.2.2.2.2.2.2.2.2.2.2.2.2.2.2.2.2.2.2.2.2.2.2.2.2.2.2.2.2.2.1 u.2.2.2.2.2.2.2.2.2.2.2.2.2.2.2.2.2.2.2.2.2.2.2.2.2.2.2.2.2.2.2.2.2.1 u.2.2.2.2.2.2.2.2.2.2.2.2.2.2.2.2.2.2.2.2.2.2.2.2.2.2.2.2.2.2.2.2.2.2.1 u.2.2.2.2.2.2.2.2.2.2.2.2.2.2.2.2.2.2.2.2.2.2.2.2.2.2.2.2.2.2.2.2.2.2.2.1 u.2.2.2.2.2.2.2.2.2.2.2.2.2.2.2.2.2.2.2.2.2.2.2.2.2.2.2.2.2.2.2.2.2.2.2.2) (fun (u : (Nat → Int32) × (Nat → Int32) × (Nat → Int32) × (Nat → Int32) × (Nat → Int32) × (Nat → Int32) × (Nat → Int32) × (Nat → Int32) × (Nat → Int32) × (Nat → Int32) × (Nat → Int32) × (Nat → Int32) × (Nat → Int32) × (Nat → Int32) × (Nat → Int32) × (Nat → Int32) × (Nat → Int32) × (Nat → Int32) × (Nat → Int32) × (Nat → Int64) × (Nat → Int64) × Int32 × Int32 × Int32 × Int32 × Int32 × Int32 × Int32 × Int32 × Int32 × Int32 × Int32 × Int32 × Int32 × Int32 × Int32 × Int32) t => we n0 G (wM K ad (sI (sI (sI (sI (sI (sI (sI (sI (sI (sI (sI (sI (sI (sI (sI (sI (sL (sL (sA (sA (sA (sA (sA (sA (sA (sA (sA (sA (sA (sA (sA (sA (sA (sA (sA (sA (sA S 1 u.1) 2 u.2.1) 3 u.2.2.1) 4 u.2.2.2.1) 5 u.2.2.2.2.1) 6 u.2.2.2.2.2.1) 7 u.2.2.2.2.2.2.1) 8 u.2.2.2.2.2.2.2.1) 15 u.2.2.2.2.2.2.2.2.1) 16 u.2.2.2.2.2.2.2.2.2.1) 17 u.2.2.2.2.2.2.2.2.2.2.1) 19 u.2.2.2.2.2.2.2.2.2.2.2.1) 20 u.2.2.2.2.2.2.2.2.2.2.2.2.1) 21 u.2.2.2.2.2.2.2.2.2.2.2.2.2.1) 22 u.2.2.2.2.2.2.2.2.2.2.2.2.2.2.1) 23 u.2.2.2.2.2.2.2.2.2.2.2.2.2.2.2.1) 24 u.2.2.2.2.2.2.2.2.2.2.2.2.2.2.2.2.1) 25 u.2.2.2.2.2.2.2.2.2.2.2.2.2.2.2.2.2.1) 26 u.2.2.2.2.2.2.2.2.2.2.2.2.2.2.2.2.2.2.1) 18 u.2.2.2.2.2.2.2.2.2.2.2.2.2.2.2.2.2.2.2.1) 27 u.2.2.2.2.2.2.2.2.2.2.2.2.2.2.2.2.2.2.2.2.1) 0 u.2.2.2.2.2.2.2.2.2.2.2.2.2.2.2.2.2.2.2.2.2.1) 1 u.2.2.2.2.2.2.2.2.2.2.2.2.2.2.2.2.2.2.2.2.2.2.1) 16 u.2.2.2.2.2.2.2.2.2.2.2.2.2.2.2.2.2.2.2.2.2.2.2.1) 17 u.2.2.2.2.2.2.2.2.2.2.2.2.2.2.2.2.2.2.2.2.2.2.2.2.1) 18 u.2.2.2.2.2.2.2.2.2.2.2.2.2.2.2.2.2.2.2.2.2.2.2.2.2.1) 19 u.2.2.2.2.2.2.2.2.2.2.2.2.2.2.2.2.2.2.2.2.2.2.2.2.2.2.1) 20 u.2.2.2.2.2.2.2.2.2.2.2.2.2.2.2.2.2.2.2.2.2.2.2.2.2.2.2.1) 27 u.2.2.2.2.2.2.2.2.2.2.2.2.2.2.2.2.2.2.2.2.2.2.2.2.2.2.2.2.1) 28 u.2.2.2.2.2.2.2.2.2.2.2.2.2.2.2.2.2.2.2.2.2.2.2.2.2.2.2.2.2.1) 30 u.2.2.2.2.2.2.2.2.2.2.2.2.2.2.2.2.2.2.2.2.2.2.2.2.2.2.2.2.2.2.1) 31 u.2.2.2.2.2.2.2.2.2.2.2.2.2.2.2.2.2.2.2.2.2.2.2.2.2.2.2.2.2.2.2.1) 32 u.2.2.2.2.2.2.2.2.2.2.2.2.2.2.2.2.2.2.2.2.2.2.2.2.2.2.2.2.2.2.2.2.1) 33 u.2.2.2.2.2.2.2.2.2.2.2.2.2.2.2.2.2.2.2.2.2.2.2.2.2.2.2.2.2.2.2.2.2.1) 34 u.2.2.2.2.2.2.2.2.2.2.2.2.2.2.2.2.2.2.2.2.2.2.2.2.2.2.2.2.2.2.2.2.2.2.1) 35 u.2.2.2.2.2.2.2.2.2.2.2.2.2.2.2.2.2.2.2.2.2.2.2.2.2.2.2.2.2.2.2.2.2.2.2.1) 36 u.2.2.2.2.2.2.2.2.2.2.2.2.2.2.2.2.2.2.2.2.2.2.2.2.2.2.2.2.2.2.2.2.2.2.2.2) ++ X) t) (al n0)) args s 0 0 (al n0)) (F0 m 74 ls [.int z1, .ref (ad 0)]) := by
  have hx := C.1
  have hb := C.2.1
  have hts := C.2.2.2.2.1
  intro z1 hw H locs ls w hl
  unfold wl_Mo_breakUp_74 at hw
  refine kp (C1 := R_Mo) (T := F_Mo) (N := 43) (ci := 10) (ty0 := t_Mo) (ref := "LineBreakerModel") (w2 := wM K ad (sI S 0 z1) ++ X) C w 0 0 iw_Mo tk_Mo n_Mo rfl rfl (by decide) kw_877 rfl rfl rfl rfl (Nat.le_of_ble_eq_true rfl) rfl d_Mo_breakUp_74 (fun H locs w => ?_)
  refine lv_aload_n hx hb d_Mo_breakUp_77 rfl (lv_at hl 0 rfl) ?_
  refine kg (C1 := R_Mo) (T := F_Mo) (N := 43) (ci := 10) (ref := "LineBreakerModel") (v := .int z1) C w 0 0 iw_Mo rfl rfl (by decide) kw_877 rfl rfl d_Mo_breakUp_78 ?_
  refine lv_if_le (tgt := 86) hx hb d_Mo_breakUp_81 (by decide) (fun hc => ?_) (fun hc => ?_)
  · have hw := hw.1 hc
    refine lv_aload_n hx hb d_Mo_breakUp_86 rfl (lv_at hl 0 rfl) ?_
    refine kg (C1 := R_Mo) (T := F_Mo) (N := 43) (ci := 10) (ref := "LineBreakerModel") (v := .int (S.2.2 1)) C w 0 1 iw_Mo rfl rfl (by decide) kw_878 rfl rfl d_Mo_breakUp_87 ?_
    refine lv_topi (fun v1 ev1 => ?_)
    have hw := hw v1 ev1
    refine lv_istore_n (lv' := [(2, .int v1), (0, .ref (ad 0))]) hx hb d_Mo_breakUp_90 rfl hl (by decide) rfl (fun ls hl => ?_)
    refine lv_aload_n hx hb d_Mo_breakUp_91 rfl (lv_at hl 1 rfl) ?_
    refine kg (C1 := R_Mo) (T := F_Mo) (N := 43) (ci := 10) (ref := "LineBreakerModel") (v := .int (S.2.2 1)) C w 0 1 iw_Mo rfl rfl (by decide) kw_878 rfl rfl d_Mo_breakUp_92 ?_
    refine lv_if_le (tgt := 122) hx hb d_Mo_breakUp_95 (by decide) (fun hc => ?_) (fun hc => ?_)
    · have hw := hw.1 hc
      exact w_Mo_breakUp_122 C hr  z1 v1 hw _ _ _ (wn_eq w rfl) (lv_sub hl [1, 0] rfl)
    · have hw := hw.2 hc
      refine lv_aload_n hx hb d_Mo_breakUp_98 rfl (lv_at hl 1 rfl) ?_
      refine kg (C1 := R_Mo) (T := F_Mo) (N := 43) (ci := 10) (ref := "LineBreakerModel") (v := .ref (ad 1)) C w 0 2 iw_Mo rfl rfl (by decide) kw_879 rfl rfl d_Mo_breakUp_99 ?_
      refine lv_aload_n hx hb d_Mo_breakUp_102 rfl (lv_at hl 1 rfl) ?_
      refine kg (C1 := R_Mo) (T := F_Mo) (N := 43) (ci := 10) (ref := "LineBreakerModel") (v := .int (S.2.2 1)) C w 0 1 iw_Mo rfl rfl (by decide) kw_878 rfl rfl d_Mo_breakUp_103 ?_
      refine lv_iconst (v := 1) hx hb d_Mo_breakUp_106 (by decide) ?_
      refine lv_isub hx hb d_Mo_breakUp_107 ?_
      refine ka_i (f := (S.1 1)) C w 1 rfl hw.1 d_Mo_breakUp_108 ?_
      have hw := hw.2
      refine lv_iconst (v := 1) hx hb d_Mo_breakUp_109 (by decide) ?_
      refine lv_icmp_ne (tgt := 122) hx hb d_Mo_breakUp_110 (by decide) (fun hc => ?_) (fun hc => ?_)
      · have hw := hw.1 hc
        exact w_Mo_breakUp_122 C hr  z1 v1 hw _ _ _ (wn_eq w rfl) (lv_sub hl [1, 0] rfl)
      · have hw := hw.2 hc
        refine lv_aload_n hx hb d_Mo_breakUp_113 rfl (lv_at hl 1 rfl) ?_
        refine kg (C1 := R_Mo) (T := F_Mo) (N := 43) (ci := 10) (ref := "LineBreakerModel") (v := .int (S.2.2 1)) C w 0 1 iw_Mo rfl rfl (by decide) kw_878 rfl rfl d_Mo_breakUp_114 ?_
        refine lv_iconst (v := 1) hx hb d_Mo_breakUp_117 (by decide) ?_
        refine lv_isub hx hb d_Mo_breakUp_118 ?_
        refine lv_goto (tgt := 126) hx hb d_Mo_breakUp_119 (by decide) ?_
        exact w_Mo_breakUp_126 C hr  z1 v1 ((S.2.2 1) - 1) hw _ _ _ (wn_eq w rfl) (lv_sub hl [1, 0] rfl)
  · have hw := hw.2 hc
    refine lv_iconst (v := 0) hx hb d_Mo_breakUp_84 (by decide) ?_
    exact ke_i (post := (fun r (u : (Nat → Int32) × (Nat → Int32) × (Nat → Int32) × (Nat → Int32) × (Nat → Int32) × (Nat → Int32) × (Nat → Int32) × (Nat → Int32) × (Nat → Int32) × (Nat → Int32) × (Nat → Int32) × (Nat → Int32) × (Nat → Int32) × (Nat → Int32) × (Nat → Int32) × (Nat → Int32) × (Nat → Int32) × (Nat → Int32) × (Nat → Int32) × (Nat → Int64) × (Nat → Int64) × Int32 × Int32 × Int32 × Int32 × Int32 × Int32 × Int32 × Int32 × Int32 × Int32 × Int32 × Int32 × Int32 × Int32 × Int32 × Int32) => post r u.1 u.2.1 u.2.2.1 u.2.2.2.1 u.2.2.2.2.1 u.2.2.2.2.2.1 u.2.2.2.2.2.2.1 u.2.2.2.2.2.2.2.1 u.2.2.2.2.2.2.2.2.1 u.2.2.2.2.2.2.2.2.2.1 u.2.2.2.2.2.2.2.2.2.2.1 u.2.2.2.2.2.2.2.2.2.2.2.1 u.2.2.2.2.2.2.2.2.2.2.2.2.1 u.2.2.2.2.2.2.2.2.2.2.2.2.2.1 u.2.2.2.2.2.2.2.2.2.2.2.2.2.2.1 u.2.2.2.2.2.2.2.2.2.2.2.2.2.2.2.1 u.2.2.2.2.2.2.2.2.2.2.2.2.2.2.2.2.1 u.2.2.2.2.2.2.2.2.2.2.2.2.2.2.2.2.2.1 u.2.2.2.2.2.2.2.2.2.2.2.2.2.2.2.2.2.2.1 u.2.2.2.2.2.2.2.2.2.2.2.2.2.2.2.2.2.2.2.1 u.2.2.2.2.2.2.2.2.2.2.2.2.2.2.2.2.2.2.2.2.1 u.2.2.2.2.2.2.2.2.2.2.2.2.2.2.2.2.2.2.2.2.2.1 u.2.2.2.2.2.2.2.2.2.2.2.2.2.2.2.2.2.2.2.2.2.2.1 u.2.2.2.2.2.2.2.2.2.2.2.2.2.2.2.2.2.2.2.2.2.2.2.1 u.2.2.2.2.2.2.2.2.2.2.2.2.2.2.2.2.2.2.2.2.2.2.2.2.1 u.2.2.2.2.2.2.2.2.2.2.2.2.2.2.2.2.2.2.2.2.2.2.2.2.2.1 u.2.2.2.2.2.2.2.2.2.2.2.2.2.2.2.2.2.2.2.2.2.2.2.2.2.2.1 u.2.2.2.2.2.2.2.2.2.2.2.2.2.2.2.2.2.2.2.2.2.2.2.2.2.2.2.1 u.2.2.2.2.2.2.2.2.2.2.2.2.2.2.2.2.2.2.2.2.2.2.2.2.2.2.2.2.1 u.2.2.2.2.2.2.2.2.2.2.2.2.2.2.2.2.2.2.2.2.2.2.2.2.2.2.2.2.2.1 u.2.2.2.2.2.2.2.2.2.2.2.2.2.2.2.2.2.2.2.2.2.2.2.2.2.2.2.2.2.2.1 u.2.2.2.2.2.2.2.2.2.2.2.2.2.2.2.2.2.2.2.2.2.2.2.2.2.2.2.2.2.2.2.1 u.2.2.2.2.2.2.2.2.2.2.2.2.2.2.2.2.2.2.2.2.2.2.2.2.2.2.2.2.2.2.2.2.1 u.2.2.2.2.2.2.2.2.2.2.2.2.2.2.2.2.2.2.2.2.2.2.2.2.2.2.2.2.2.2.2.2.2.1 u.2.2.2.2.2.2.2.2.2.2.2.2.2.2.2.2.2.2.2.2.2.2.2.2.2.2.2.2.2.2.2.2.2.2.1 u.2.2.2.2.2.2.2.2.2.2.2.2.2.2.2.2.2.2.2.2.2.2.2.2.2.2.2.2.2.2.2.2.2.2.2.1 u.2.2.2.2.2.2.2.2.2.2.2.2.2.2.2.2.2.2.2.2.2.2.2.2.2.2.2.2.2.2.2.2.2.2.2.2)) (st := (fun (u : (Nat → Int32) × (Nat → Int32) × (Nat → Int32) × (Nat → Int32) × (Nat → Int32) × (Nat → Int32) × (Nat → Int32) × (Nat → Int32) × (Nat → Int32) × (Nat → Int32) × (Nat → Int32) × (Nat → Int32) × (Nat → Int32) × (Nat → Int32) × (Nat → Int32) × (Nat → Int32) × (Nat → Int32) × (Nat → Int32) × (Nat → Int32) × (Nat → Int64) × (Nat → Int64) × Int32 × Int32 × Int32 × Int32 × Int32 × Int32 × Int32 × Int32 × Int32 × Int32 × Int32 × Int32 × Int32 × Int32 × Int32 × Int32) => wM K ad (sI (sI (sI (sI (sI (sI (sI (sI (sI (sI (sI (sI (sI (sI (sI (sI (sL (sL (sA (sA (sA (sA (sA (sA (sA (sA (sA (sA (sA (sA (sA (sA (sA (sA (sA (sA (sA S 1 u.1) 2 u.2.1) 3 u.2.2.1) 4 u.2.2.2.1) 5 u.2.2.2.2.1) 6 u.2.2.2.2.2.1) 7 u.2.2.2.2.2.2.1) 8 u.2.2.2.2.2.2.2.1) 15 u.2.2.2.2.2.2.2.2.1) 16 u.2.2.2.2.2.2.2.2.2.1) 17 u.2.2.2.2.2.2.2.2.2.2.1) 19 u.2.2.2.2.2.2.2.2.2.2.2.1) 20 u.2.2.2.2.2.2.2.2.2.2.2.2.1) 21 u.2.2.2.2.2.2.2.2.2.2.2.2.2.1) 22 u.2.2.2.2.2.2.2.2.2.2.2.2.2.2.1) 23 u.2.2.2.2.2.2.2.2.2.2.2.2.2.2.2.1) 24 u.2.2.2.2.2.2.2.2.2.2.2.2.2.2.2.2.1) 25 u.2.2.2.2.2.2.2.2.2.2.2.2.2.2.2.2.2.1) 26 u.2.2.2.2.2.2.2.2.2.2.2.2.2.2.2.2.2.2.1) 18 u.2.2.2.2.2.2.2.2.2.2.2.2.2.2.2.2.2.2.2.1) 27 u.2.2.2.2.2.2.2.2.2.2.2.2.2.2.2.2.2.2.2.2.1) 0 u.2.2.2.2.2.2.2.2.2.2.2.2.2.2.2.2.2.2.2.2.2.1) 1 u.2.2.2.2.2.2.2.2.2.2.2.2.2.2.2.2.2.2.2.2.2.2.1) 16 u.2.2.2.2.2.2.2.2.2.2.2.2.2.2.2.2.2.2.2.2.2.2.2.1) 17 u.2.2.2.2.2.2.2.2.2.2.2.2.2.2.2.2.2.2.2.2.2.2.2.2.1) 18 u.2.2.2.2.2.2.2.2.2.2.2.2.2.2.2.2.2.2.2.2.2.2.2.2.2.1) 19 u.2.2.2.2.2.2.2.2.2.2.2.2.2.2.2.2.2.2.2.2.2.2.2.2.2.2.1) 20 u.2.2.2.2.2.2.2.2.2.2.2.2.2.2.2.2.2.2.2.2.2.2.2.2.2.2.2.1) 27 u.2.2.2.2.2.2.2.2.2.2.2.2.2.2.2.2.2.2.2.2.2.2.2.2.2.2.2.2.1) 28 u.2.2.2.2.2.2.2.2.2.2.2.2.2.2.2.2.2.2.2.2.2.2.2.2.2.2.2.2.2.1) 30 u.2.2.2.2.2.2.2.2.2.2.2.2.2.2.2.2.2.2.2.2.2.2.2.2.2.2.2.2.2.2.1) 31 u.2.2.2.2.2.2.2.2.2.2.2.2.2.2.2.2.2.2.2.2.2.2.2.2.2.2.2.2.2.2.2.1) 32 u.2.2.2.2.2.2.2.2.2.2.2.2.2.2.2.2.2.2.2.2.2.2.2.2.2.2.2.2.2.2.2.2.1) 33 u.2.2.2.2.2.2.2.2.2.2.2.2.2.2.2.2.2.2.2.2.2.2.2.2.2.2.2.2.2.2.2.2.2.1) 34 u.2.2.2.2.2.2.2.2.2.2.2.2.2.2.2.2.2.2.2.2.2.2.2.2.2.2.2.2.2.2.2.2.2.2.1) 35 u.2.2.2.2.2.2.2.2.2.2.2.2.2.2.2.2.2.2.2.2.2.2.2.2.2.2.2.2.2.2.2.2.2.2.2.1) 36 u.2.2.2.2.2.2.2.2.2.2.2.2.2.2.2.2.2.2.2.2.2.2.2.2.2.2.2.2.2.2.2.2.2.2.2.2) ++ X)) (u := ((S.1 1), (S.1 2), (S.1 3), (S.1 4), (S.1 5), (S.1 6), (S.1 7), (S.1 8), (S.1 15), (S.1 16), (S.1 17), (S.1 19), (S.1 20), (S.1 21), (S.1 22), (S.1 23), (S.1 24), (S.1 25), (S.1 26), (S.2.1 18), (S.2.1 27), z1, (S.2.2 1), (S.2.2 16), (S.2.2 17), (S.2.2 18), (S.2.2 19), (S.2.2 20), (S.2.2 27), (S.2.2 28), (S.2.2 30), (S.2.2 31), (S.2.2 32), (S.2.2 33), (S.2.2 34), (S.2.2 35), (S.2.2 36))) C hr d_Mo_breakUp_85 (wn_eq w rfl) hw
set_option maxHeartbeats 4000000 in
set_option maxRecDepth 100000 in
theorem w_Mo_breakUp_4 {S : ST} {post : Int32 → (Nat → Int32) → (Nat → Int32) → (Nat → Int32) → (Nat → Int32) → (Nat → Int32) → (Nat → Int32) → (Nat → Int32) → (Nat → Int32) → (Nat → Int32) → (Nat → Int32) → (Nat → Int32) → (Nat → Int32) → (Nat → Int32) → (Nat → Int32) → (Nat → Int32) → (Nat → Int32) → (Nat → Int32) → (Nat → Int32) → (Nat → Int32) → (Nat → Int64) → (Nat → Int64) → Int32 → Int32 → Int32 → Int32 → Int32 → Int32 → Int32 → Int32 → Int32 → Int32 → Int32 → Int32 → Int32 → Int32 → Int32 → Int32 → Prop} (C : cx p s m args meth c prog_12_method_42_code 14 "LineBreakerModel" n0 G K) (hr : meth.sig.returnType = (some .int)) : ∀ (n : Nat) (x1 : Int32) (x2 : Int32), wl_Mo_breakUp_4 S post n x1 x2 → ∀ (H : Heap) (locs : List Loc) (ls : Array Slot), wn n0 G (wM K ad S ++ X) s H locs → lv_has ls 14 [(0, .ref (ad 0)), (1, .int x1), (2, .int x2)] → W p l e rm_Mo_breakUp s m args below meth c H locs 0 0 (MQ below (va_Qi (fun r (u : (Nat → Int32) × (Nat → Int32) × (Nat → Int32) × (Nat → Int32) × (Nat → Int32) × (Nat → Int32) × (Nat → Int32) × (Nat → Int32) × (Nat → Int32) × (Nat → Int32) × (Nat → Int32) × (Nat → Int32) × (Nat → Int32) × (Nat → Int32) × (Nat → Int32) × (Nat → Int32) × (Nat → Int32) × (Nat → Int32) × (Nat → Int32) × (Nat → Int64) × (Nat → Int64) × Int32 × Int32 × Int32 × Int32 × Int32 × Int32 × Int32 × Int32 × Int32 × Int32 × Int32 × Int32 × Int32 × Int32 × Int32 × Int32) => post r u.1 u.2.1 u.2.2.1 u.2.2.2.1 u.2.2.2.2.1 u.2.2.2.2.2.1 u.2.2.2.2.2.2.1 u.2.2.2.2.2.2.2.1 u.2.2.2.2.2.2.2.2.1 u.2.2.2.2.2.2.2.2.2.1 u.2.2.2.2.2.2.2.2.2.2.1 u.2.2.2.2.2.2.2.2.2.2.2.1 u.2.2.2.2.2.2.2.2.2.2.2.2.1 u.2.2.2.2.2.2.2.2.2.2.2.2.2.1 u.2.2.2.2.2.2.2.2.2.2.2.2.2.2.1 u.2.2.2.2.2.2.2.2.2.2.2.2.2.2.2.1 u.2.2.2.2.2.2.2.2.2.2.2.2.2.2.2.2.1 u.2.2.2.2.2.2.2.2.2.2.2.2.2.2.2.2.2.1 u.2.2.2.2.2.2.2.2.2.2.2.2.2.2.2.2.2.2.1 u.2.2.2.2.2.2.2.2.2.2.2.2.2.2.2.2.2.2.2.1 u.2.2.2.2.2.2.2.2.2.2.2.2.2.2.2.2.2.2.2.2.1 u.2.2.2.2.2.2.2.2.2.2.2.2.2.2.2.2.2.2.2.2.2.1 u.2.2.2.2.2.2.2.2.2.2.2.2.2.2.2.2.2.2.2.2.2.2.1 u.2.2.2.2.2.2.2.2.2.2.2.2.2.2.2.2.2.2.2.2.2.2.2.1 u.2.2.2.2.2.2.2.2.2.2.2.2.2.2.2.2.2.2.2.2.2.2.2.2.1 u.2.2.2.2.2.2.2.2.2.2.2.2.2.2.2.2.2.2.2.2.2.2.2.2.2.1 u.2.2.2.2.2.2.2.2.2.2.2.2.2.2.2.2.2.2.2.2.2.2.2.2.2.2.1 u.2.2.2.2.2.2.2.2.2.2.2.2.2.2.2.2.2.2.2.2.2.2.2.2.2.2.2.1 u.2.2.2.2.2.2.2.2.2.2.2.2.2.2.2.2.2.2.2.2.2.2.2.2.2.2.2.2.1 u.2.2.2.2.2.2.2.2.2.2.2.2.2.2.2.2.2.2.2.2.2.2.2.2.2.2.2.2.2.1 u.2.2.2.2.2.2.2.2.2.2.2.2.2.2.2.2.2.2.2.2.2.2.2.2.2.2.2.2.2.2.1 u.2.2.2.2.2.2.2.2.2.2.2.2.2.2.2.2.2.2.2.2.2.2.2.2.2.2.2.2.2.2.2.1 u.2.2.2.2.2.2.2.2.2.2.2.2.2.2.2.2.2.2.2.2.2.2.2.2.2.2.2.2.2.2.2.2.1 u.2.2.2.2.2.2.2.2.2.2.2.2.2.2.2.2.2.2.2.2.2.2.2.2.2.2.2.2.2.2.2.2.2.1 u.2.2.2.2.2.2.2.2.2.2.2.2.2.2.2.2.2.2.2.2.2.2.2.2.2.2.2.2.2.2.2.2.2.2.1 u.2.2.2.2.2.2.2.2.2.2.2.2.2.2.2.2.2.2.2.2.2.2.2.2.2.2.2.2.2.2.2.2.2.2.2.1 u.2.2.2.2.2.2.2.2.2.2.2.2.2.2.2.2.2.2.2.2.2.2.2.2.2.2.2.2.2.2.2.2.2.2.2.2) (fun (u : (Nat → Int32) × (Nat → Int32) × (Nat → Int32) × (Nat → Int32) × (Nat → Int32) × (Nat → Int32) × (Nat → Int32) × (Nat → Int32) × (Nat → Int32) × (Nat → Int32) × (Nat → Int32) × (Nat → Int32) × (Nat → Int32) × (Nat → Int32) × (Nat → Int32) × (Nat → Int32) × (Nat → Int32) × (Nat → Int32) × (Nat → Int32) × (Nat → Int64) × (Nat → Int64) × Int32 × Int32 × Int32 × Int32 × Int32 × Int32 × Int32 × Int32 × Int32 × Int32 × Int32 × Int32 × Int32 × Int32 × Int32 × Int32) t => we n0 G (wM K ad (sI (sI (sI (sI (sI (sI (sI (sI (sI (sI (sI (sI (sI (sI (sI (sI (sL (sL (sA (sA (sA (sA (sA (sA (sA (sA (sA (sA (sA (sA (sA (sA (sA (sA (sA (sA (sA S 1 u.1) 2 u.2.1) 3 u.2.2.1) 4 u.2.2.2.1) 5 u.2.2.2.2.1) 6 u.2.2.2.2.2.1) 7 u.2.2.2.2.2.2.1) 8 u.2.2.2.2.2.2.2.1) 15 u.2.2.2.2.2.2.2.2.1) 16 u.2.2.2.2.2.2.2.2.2.1) 17 u.2.2.2.2.2.2.2.2.2.2.1) 19 u.2.2.2.2.2.2.2.2.2.2.2.1) 20 u.2.2.2.2.2.2.2.2.2.2.2.2.1) 21 u.2.2.2.2.2.2.2.2.2.2.2.2.2.1) 22 u.2.2.2.2.2.2.2.2.2.2.2.2.2.2.1) 23 u.2.2.2.2.2.2.2.2.2.2.2.2.2.2.2.1) 24 u.2.2.2.2.2.2.2.2.2.2.2.2.2.2.2.2.1) 25 u.2.2.2.2.2.2.2.2.2.2.2.2.2.2.2.2.2.1) 26 u.2.2.2.2.2.2.2.2.2.2.2.2.2.2.2.2.2.2.1) 18 u.2.2.2.2.2.2.2.2.2.2.2.2.2.2.2.2.2.2.2.1) 27 u.2.2.2.2.2.2.2.2.2.2.2.2.2.2.2.2.2.2.2.2.1) 0 u.2.2.2.2.2.2.2.2.2.2.2.2.2.2.2.2.2.2.2.2.2.1) 1 u.2.2.2.2.2.2.2.2.2.2.2.2.2.2.2.2.2.2.2.2.2.2.1) 16 u.2.2.2.2.2.2.2.2.2.2.2.2.2.2.2.2.2.2.2.2.2.2.2.1) 17 u.2.2.2.2.2.2.2.2.2.2.2.2.2.2.2.2.2.2.2.2.2.2.2.2.1) 18 u.2.2.2.2.2.2.2.2.2.2.2.2.2.2.2.2.2.2.2.2.2.2.2.2.2.1) 19 u.2.2.2.2.2.2.2.2.2.2.2.2.2.2.2.2.2.2.2.2.2.2.2.2.2.2.1) 20 u.2.2.2.2.2.2.2.2.2.2.2.2.2.2.2.2.2.2.2.2.2.2.2.2.2.2.2.1) 27 u.2.2.2.2.2.2.2.2.2.2.2.2.2.2.2.2.2.2.2.2.2.2.2.2.2.2.2.2.1) 28 u.2.2.2.2.2.2.2.2.2.2.2.2.2.2.2.2.2.2.2.2.2.2.2.2.2.2.2.2.2.1) 30 u.2.2.2.2.2.2.2.2.2.2.2.2.2.2.2.2.2.2.2.2.2.2.2.2.2.2.2.2.2.2.1) 31 u.2.2.2.2.2.2.2.2.2.2.2.2.2.2.2.2.2.2.2.2.2.2.2.2.2.2.2.2.2.2.2.1) 32 u.2.2.2.2.2.2.2.2.2.2.2.2.2.2.2.2.2.2.2.2.2.2.2.2.2.2.2.2.2.2.2.2.1) 33 u.2.2.2.2.2.2.2.2.2.2.2.2.2.2.2.2.2.2.2.2.2.2.2.2.2.2.2.2.2.2.2.2.2.1) 34 u.2.2.2.2.2.2.2.2.2.2.2.2.2.2.2.2.2.2.2.2.2.2.2.2.2.2.2.2.2.2.2.2.2.2.1) 35 u.2.2.2.2.2.2.2.2.2.2.2.2.2.2.2.2.2.2.2.2.2.2.2.2.2.2.2.2.2.2.2.2.2.2.2.1) 36 u.2.2.2.2.2.2.2.2.2.2.2.2.2.2.2.2.2.2.2.2.2.2.2.2.2.2.2.2.2.2.2.2.2.2.2.2) ++ X) t) (al n0)) args s 0 0 (al n0)) (F0 m 4 ls []) := by
  have hx := C.1
  have hb := C.2.1
  have hts := C.2.2.2.2.1
  intro n
  induction n with
  | zero =>
    intro x1 x2 hw
    unfold wl_Mo_breakUp_4 at hw
    exact hw.elim
  | succ n ih =>
    intro x1 x2 hw H locs ls w hl
    unfold wl_Mo_breakUp_4 at hw
    refine lv_iload_n hx hb d_Mo_breakUp_4 rfl (lv_at hl 2 rfl) ?_
    refine lv_aload_n hx hb d_Mo_breakUp_5 rfl (lv_at hl 0 rfl) ?_
    refine kg (C1 := R_Mo) (T := F_Mo) (N := 43) (ci := 10) (ref := "LineBreakerModel") (v := .int (S.2.2 1)) C w 0 1 iw_Mo rfl rfl (by decide) kw_878 rfl rfl d_Mo_breakUp_6 ?_
    refine lv_icmp_ge (tgt := 53) hx hb d_Mo_breakUp_9 (by decide) (fun hc => ?_) (fun hc => ?_)
    · have hw := hw.1 hc
      refine lv_aload_n hx hb d_Mo_breakUp_53 rfl (lv_at hl 0 rfl) ?_
      refine lv_iload_n hx hb d_Mo_breakUp_54 rfl (lv_at hl 1 rfl) ?_
      refine lv_if_eq (tgt := 62) hx hb d_Mo_breakUp_55 (by decide) (fun hc => ?_) (fun hc => ?_)
      · have hw := hw.1 hc
        refine lv_aload_n hx hb d_Mo_breakUp_62 rfl (lv_at hl 0 rfl) ?_
        refine kd_i (kr_V (y := y_Mo_fitsInSizes) (C1 := R_Mo) (T := F_Mo) (N := 43) (ci := 10) (q0 := 0) (As := []) (n := 0) C w (c_Mo_fitsInSizes l n0 G K ad X S  _ hw) (gw_V kw_1087 kw_1089 kp_21 kw_11 kw_1090) (by decide +kernel) rfl rfl ⟨Nat.le_of_ble_eq_true rfl, Nat.le_of_ble_eq_true rfl⟩ rfl rfl rfl hl.1 rfl (Nat.le_of_ble_eq_true rfl) d_Mo_breakUp_63 ⟨Nat.le_of_ble_eq_true rfl, Nat.le_of_ble_eq_true rfl⟩) (fun r1 hw => ?_)
        refine lv_if_eq (tgt := 73) hx hb d_Mo_breakUp_66 (by decide) (fun hc => ?_) (fun hc => ?_)
        · have hw := hw.1 hc
          refine lv_iconst (v := 2) hx hb d_Mo_breakUp_73 (by decide) ?_
          exact w_Mo_breakUp_74 C hr  2 hw _ _ _ (wn_eq w rfl) (lv_sub hl [0] rfl)
        · have hw := hw.2 hc
          refine lv_iconst (v := 0) hx hb d_Mo_breakUp_69 (by decide) ?_
          refine lv_goto (tgt := 74) hx hb d_Mo_breakUp_70 (by decide) ?_
          exact w_Mo_breakUp_74 C hr  0 hw _ _ _ (wn_eq w rfl) (lv_sub hl [0] rfl)
      · have hw := hw.2 hc
        refine lv_iconst (v := 1) hx hb d_Mo_breakUp_58 (by decide) ?_
        refine lv_goto (tgt := 74) hx hb d_Mo_breakUp_59 (by decide) ?_
        exact w_Mo_breakUp_74 C hr  1 hw _ _ _ (wn_eq w rfl) (lv_sub hl [0] rfl)
    · have hw := hw.2 hc
      refine lv_iload_n hx hb d_Mo_breakUp_12 rfl (lv_at hl 1 rfl) ?_
      refine lv_if_ne (tgt := 41) hx hb d_Mo_breakUp_13 (by decide) (fun hc => ?_) (fun hc => ?_)
      · have hw := hw.1 hc
        refine lv_iconst (v := 1) hx hb d_Mo_breakUp_41 (by decide) ?_
        refine lv_goto (tgt := 46) hx hb d_Mo_breakUp_42 (by decide) ?_
        refine lv_istore_n (lv' := [(1, .int 1), (0, .ref (ad 0)), (2, .int x2)]) hx hb d_Mo_breakUp_46 rfl hl (by decide) rfl (fun ls hl => ?_)
        obtain ⟨v2, ev2⟩ : ∃ y : Int32, y = x2 + 1 := ⟨_, rfl⟩
        refine lv_iinc (v := v2) (lv' := [(2, .int v2), (1, .int 1), (0, .ref (ad 0))]) hx hb d_Mo_breakUp_47 hl (k := 2) rfl (by rw [ev2]; rfl) (by decide) rfl (fun ls hl => ?_)
        have hw := hw v2 ev2
        refine lv_goto (tgt := 4) hx hb d_Mo_breakUp_50 (by decide) ?_
        exact ih 1 v2 hw _ _ _ (wn_eq w rfl) (lv_sub hl [2, 1, 0] rfl)
      · have hw := hw.2 hc
        refine lv_aload_n hx hb d_Mo_breakUp_16 rfl (lv_at hl 0 rfl) ?_
        refine kg (C1 := R_Mo) (T := F_Mo) (N := 43) (ci := 10) (ref := "LineBreakerModel") (v := .ref (ad 1)) C w 0 2 iw_Mo rfl rfl (by decide) kw_879 rfl rfl d_Mo_breakUp_17 ?_
        refine lv_iload_n hx hb d_Mo_breakUp_20 rfl (lv_at hl 2 rfl) ?_
        refine ka_i (f := (S.1 1)) C w 1 rfl hw.1 d_Mo_breakUp_21 ?_
        have hw := hw.2
        refine lv_iconst (v := 5) hx hb d_Mo_breakUp_22 (by decide) ?_
        refine lv_icmp_ne (tgt := 45) hx hb d_Mo_breakUp_23 (by decide) (fun hc => ?_) (fun hc => ?_)
        · have hw := hw.1 hc
          refine lv_iconst (v := 0) hx hb d_Mo_breakUp_45 (by decide) ?_
          refine lv_istore_n (lv' := [(1, .int 0), (0, .ref (ad 0)), (2, .int x2)]) hx hb d_Mo_breakUp_46 rfl hl (by decide) rfl (fun ls hl => ?_)
          obtain ⟨v3, ev3⟩ : ∃ y : Int32, y = x2 + 1 := ⟨_, rfl⟩
          refine lv_iinc (v := v3) (lv' := [(2, .int v3), (1, .int 0), (0, .ref (ad 0))]) hx hb d_Mo_breakUp_47 hl (k := 2) rfl (by rw [ev3]; rfl) (by decide) rfl (fun ls hl => ?_)
          have hw := hw v3 ev3
          refine lv_goto (tgt := 4) hx hb d_Mo_breakUp_50 (by decide) ?_
          exact ih 0 v3 hw _ _ _ (wn_eq w rfl) (lv_sub hl [2, 1, 0] rfl)
        · have hw := hw.2 hc
          refine lv_iload_n hx hb d_Mo_breakUp_26 rfl (lv_at hl 2 rfl) ?_
          refine lv_aload_n hx hb d_Mo_breakUp_27 rfl (lv_at hl 0 rfl) ?_
          refine kg (C1 := R_Mo) (T := F_Mo) (N := 43) (ci := 10) (ref := "LineBreakerModel") (v := .ref (ad 8)) C w 0 9 iw_Mo rfl rfl (by decide) kw_886 rfl rfl d_Mo_breakUp_28 ?_
          refine lv_iload_n hx hb d_Mo_breakUp_31 rfl (lv_at hl 2 rfl) ?_
          refine ka_i (f := (S.1 8)) C w 8 rfl hw.1 d_Mo_breakUp_32 ?_
          have hw := hw.2
          refine lv_iadd hx hb d_Mo_breakUp_33 ?_
          refine lv_aload_n hx hb d_Mo_breakUp_34 rfl (lv_at hl 0 rfl) ?_
          refine kg (C1 := R_Mo) (T := F_Mo) (N := 43) (ci := 10) (ref := "LineBreakerModel") (v := .int (S.2.2 1)) C w 0 1 iw_Mo rfl rfl (by decide) kw_878 rfl rfl d_Mo_breakUp_35 ?_
          refine lv_icmp_lt (tgt := 45) hx hb d_Mo_breakUp_38 (by decide) (fun hc => ?_) (fun hc => ?_)
          · have hw := hw.1 hc
            refine lv_iconst (v := 0) hx hb d_Mo_breakUp_45 (by decide) ?_
            refine lv_istore_n (lv' := [(1, .int 0), (0, .ref (ad 0)), (2, .int x2)]) hx hb d_Mo_breakUp_46 rfl hl (by decide) rfl (fun ls hl => ?_)
            obtain ⟨v4, ev4⟩ : ∃ y : Int32, y = x2 + 1 := ⟨_, rfl⟩
            refine lv_iinc (v := v4) (lv' := [(2, .int v4), (1, .int 0), (0, .ref (ad 0))]) hx hb d_Mo_breakUp_47 hl (k := 2) rfl (by rw [ev4]; rfl) (by decide) rfl (fun ls hl => ?_)
            have hw := hw v4 ev4
            refine lv_goto (tgt := 4) hx hb d_Mo_breakUp_50 (by decide) ?_
            exact ih 0 v4 hw _ _ _ (wn_eq w rfl) (lv_sub hl [2, 1, 0] rfl)
          · have hw := hw.2 hc
            refine lv_iconst (v := 1) hx hb d_Mo_breakUp_41 (by decide) ?_
            refine lv_goto (tgt := 46) hx hb d_Mo_breakUp_42 (by decide) ?_
            refine lv_istore_n (lv' := [(1, .int 1), (0, .ref (ad 0)), (2, .int x2)]) hx hb d_Mo_breakUp_46 rfl hl (by decide) rfl (fun ls hl => ?_)
            obtain ⟨v5, ev5⟩ : ∃ y : Int32, y = x2 + 1 := ⟨_, rfl⟩
            refine lv_iinc (v := v5) (lv' := [(2, .int v5), (1, .int 1), (0, .ref (ad 0))]) hx hb d_Mo_breakUp_47 hl (k := 2) rfl (by rw [ev5]; rfl) (by decide) rfl (fun ls hl => ?_)
            have hw := hw v5 ev5
            refine lv_goto (tgt := 4) hx hb d_Mo_breakUp_50 (by decide) ?_
            exact ih 1 v5 hw _ _ _ (wn_eq w rfl) (lv_sub hl [2, 1, 0] rfl)
set_option maxHeartbeats 4000000 in
set_option maxRecDepth 100000 in
theorem c_Mo_breakUp (l : Launch) (n0 : Nat) (G : va_G) (K : KT) (ad : Nat → Nat) (X : va_W) (S : ST) (post : Int32 → (Nat → Int32) → (Nat → Int32) → (Nat → Int32) → (Nat → Int32) → (Nat → Int32) → (Nat → Int32) → (Nat → Int32) → (Nat → Int32) → (Nat → Int32) → (Nat → Int32) → (Nat → Int32) → (Nat → Int32) → (Nat → Int32) → (Nat → Int32) → (Nat → Int32) → (Nat → Int32) → (Nat → Int32) → (Nat → Int32) → (Nat → Int32) → (Nat → Int64) → (Nat → Int64) → Int32 → Int32 → Int32 → Int32 → Int32 → Int32 → Int32 → Int32 → Int32 → Int32 → Int32 → Int32 → Int32 → Int32 → Int32 → Int32 → Prop) (hw : wp_Mo_breakUp S  post) : Met l y_Mo_breakUp (Cond.code y_Mo_breakUp prog_12_method_42_code 14 (some .int) :: gw) rm_Mo_breakUp (va_Pc [.ref (ad 0)] (wb n0 G K (wM K ad S ++ X))) (va_Qi (fun r (u : (Nat → Int32) × (Nat → Int32) × (Nat → Int32) × (Nat → Int32) × (Nat → Int32) × (Nat → Int32) × (Nat → Int32) × (Nat → Int32) × (Nat → Int32) × (Nat → Int32) × (Nat → Int32) × (Nat → Int32) × (Nat → Int32) × (Nat → Int32) × (Nat → Int32) × (Nat → Int32) × (Nat → Int32) × (Nat → Int32) × (Nat → Int32) × (Nat → Int64) × (Nat → Int64) × Int32 × Int32 × Int32 × Int32 × Int32 × Int32 × Int32 × Int32 × Int32 × Int32 × Int32 × Int32 × Int32 × Int32 × Int32 × Int32) => post r u.1 u.2.1 u.2.2.1 u.2.2.2.1 u.2.2.2.2.1 u.2.2.2.2.2.1 u.2.2.2.2.2.2.1 u.2.2.2.2.2.2.2.1 u.2.2.2.2.2.2.2.2.1 u.2.2.2.2.2.2.2.2.2.1 u.2.2.2.2.2.2.2.2.2.2.1 u.2.2.2.2.2.2.2.2.2.2.2.1 u.2.2.2.2.2.2.2.2.2.2.2.2.1 u.2.2.2.2.2.2.2.2.2.2.2.2.2.1 u.2.2.2.2.2.2.2.2.2.2.2.2.2.2.1 u.2.2.2.2.2.2.2.2.2.2.2.2.2.2.2.1 u.2.2.2.2.2.2.2.2.2.2.2.2.2.2.2.2.1 u.2.2.2.2.2.2.2.2.2.2.2.2.2.2.2.2.2.1 u.2.2.2.2.2.2.2.2.2.2.2.2.2.2.2.2.2.2.1 u.2.2.2.2.2.2.2.2.2.2.2.2.2.2.2.2.2.2.2.1 u.2.2.2.2.2.2.2.2.2.2.2.2.2.2.2.2.2.2.2.2.1 u.2.2.2.2.2.2.2.2.2.2.2.2.2.2.2.2.2.2.2.2.2.1 u.2.2.2.2.2.2.2.2.2.2.2.2.2.2.2.2.2.2.2.2.2.2.1 u.2.2.2.2.2.2.2.2.2.2.2.2.2.2.2.2.2.2.2.2.2.2.2.1 u.2.2.2.2.2.2.2.2.2.2.2.2.2.2.2.2.2.2.2.2.2.2.2.2.1 u.2.2.2.2.2.2.2.2.2.2.2.2.2.2.2.2.2.2.2.2.2.2.2.2.2.1 u.2.2.2.2.2.2.2.2.2.2.2.2.2.2.2.2.2.2.2.2.2.2.2.2.2.2.1 u.2.2.2.2.2.2.2.2.2.2.2.2.2.2.2.2.2.2.2.2.2.2.2.2.2.2.2.1 u.2.2.2.2.2.2.2.2.2.2.2.2.2.2.2.2.2.2.2.2.2.2.2.2.2.2.2.2.1 u.2.2.2.2.2.2.2.2.2.2.2.2.2.2.2.2.2.2.2.2.2.2.2.2.2.2.2.2.2.1 u.2.2.2.2.2.2.2.2.2.2.2.2.2.2.2.2.2.2.2.2.2.2.2.2.2.2.2.2.2.2.1 u.2.2.2.2.2.2.2.2.2.2.2.2.2.2.2.2.2.2.2.2.2.2.2.2.2.2.2.2.2.2.2.1 u.2.2.2.2.2.2.2.2.2.2.2.2.2.2.2.2.2.2.2.2.2.2.2.2.2.2.2.2.2.2.2.2.1 u.2.2.2.2.2.2.2.2.2.2.2.2.2.2.2.2.2.2.2.2.2.2.2.2.2.2.2.2.2.2.2.2.2.1 u.2.2.2.2.2.2.2.2.2.2.2.2.2.2.2.2.2.2.2.2.2.2.2.2.2.2.2.2.2.2.2.2.2.2.1 u.2.2.2.2.2.2.2.2.2.2.2.2.2.2.2.2.2.2.2.2.2.2.2.2.2.2.2.2.2.2.2.2.2.2.2.1 u.2.2.2.2.2.2.2.2.2.2.2.2.2.2.2.2.2.2.2.2.2.2.2.2.2.2.2.2.2.2.2.2.2.2.2.2) (fun (u : (Nat → Int32) × (Nat → Int32) × (Nat → Int32) × (Nat → Int32) × (Nat → Int32) × (Nat → Int32) × (Nat → Int32) × (Nat → Int32) × (Nat → Int32) × (Nat → Int32) × (Nat → Int32) × (Nat → Int32) × (Nat → Int32) × (Nat → Int32) × (Nat → Int32) × (Nat → Int32) × (Nat → Int32) × (Nat → Int32) × (Nat → Int32) × (Nat → Int64) × (Nat → Int64) × Int32 × Int32 × Int32 × Int32 × Int32 × Int32 × Int32 × Int32 × Int32 × Int32 × Int32 × Int32 × Int32 × Int32 × Int32 × Int32) t => we n0 G (wM K ad (sI (sI (sI (sI (sI (sI (sI (sI (sI (sI (sI (sI (sI (sI (sI (sI (sL (sL (sA (sA (sA (sA (sA (sA (sA (sA (sA (sA (sA (sA (sA (sA (sA (sA (sA (sA (sA S 1 u.1) 2 u.2.1) 3 u.2.2.1) 4 u.2.2.2.1) 5 u.2.2.2.2.1) 6 u.2.2.2.2.2.1) 7 u.2.2.2.2.2.2.1) 8 u.2.2.2.2.2.2.2.1) 15 u.2.2.2.2.2.2.2.2.1) 16 u.2.2.2.2.2.2.2.2.2.1) 17 u.2.2.2.2.2.2.2.2.2.2.1) 19 u.2.2.2.2.2.2.2.2.2.2.2.1) 20 u.2.2.2.2.2.2.2.2.2.2.2.2.1) 21 u.2.2.2.2.2.2.2.2.2.2.2.2.2.1) 22 u.2.2.2.2.2.2.2.2.2.2.2.2.2.2.1) 23 u.2.2.2.2.2.2.2.2.2.2.2.2.2.2.2.1) 24 u.2.2.2.2.2.2.2.2.2.2.2.2.2.2.2.2.1) 25 u.2.2.2.2.2.2.2.2.2.2.2.2.2.2.2.2.2.1) 26 u.2.2.2.2.2.2.2.2.2.2.2.2.2.2.2.2.2.2.1) 18 u.2.2.2.2.2.2.2.2.2.2.2.2.2.2.2.2.2.2.2.1) 27 u.2.2.2.2.2.2.2.2.2.2.2.2.2.2.2.2.2.2.2.2.1) 0 u.2.2.2.2.2.2.2.2.2.2.2.2.2.2.2.2.2.2.2.2.2.1) 1 u.2.2.2.2.2.2.2.2.2.2.2.2.2.2.2.2.2.2.2.2.2.2.1) 16 u.2.2.2.2.2.2.2.2.2.2.2.2.2.2.2.2.2.2.2.2.2.2.2.1) 17 u.2.2.2.2.2.2.2.2.2.2.2.2.2.2.2.2.2.2.2.2.2.2.2.2.1) 18 u.2.2.2.2.2.2.2.2.2.2.2.2.2.2.2.2.2.2.2.2.2.2.2.2.2.1) 19 u.2.2.2.2.2.2.2.2.2.2.2.2.2.2.2.2.2.2.2.2.2.2.2.2.2.2.1) 20 u.2.2.2.2.2.2.2.2.2.2.2.2.2.2.2.2.2.2.2.2.2.2.2.2.2.2.2.1) 27 u.2.2.2.2.2.2.2.2.2.2.2.2.2.2.2.2.2.2.2.2.2.2.2.2.2.2.2.2.1) 28 u.2.2.2.2.2.2.2.2.2.2.2.2.2.2.2.2.2.2.2.2.2.2.2.2.2.2.2.2.2.1) 30 u.2.2.2.2.2.2.2.2.2.2.2.2.2.2.2.2.2.2.2.2.2.2.2.2.2.2.2.2.2.2.1) 31 u.2.2.2.2.2.2.2.2.2.2.2.2.2.2.2.2.2.2.2.2.2.2.2.2.2.2.2.2.2.2.2.1) 32 u.2.2.2.2.2.2.2.2.2.2.2.2.2.2.2.2.2.2.2.2.2.2.2.2.2.2.2.2.2.2.2.2.1) 33 u.2.2.2.2.2.2.2.2.2.2.2.2.2.2.2.2.2.2.2.2.2.2.2.2.2.2.2.2.2.2.2.2.2.1) 34 u.2.2.2.2.2.2.2.2.2.2.2.2.2.2.2.2.2.2.2.2.2.2.2.2.2.2.2.2.2.2.2.2.2.2.1) 35 u.2.2.2.2.2.2.2.2.2.2.2.2.2.2.2.2.2.2.2.2.2.2.2.2.2.2.2.2.2.2.2.2.2.2.2.1) 36 u.2.2.2.2.2.2.2.2.2.2.2.2.2.2.2.2.2.2.2.2.2.2.2.2.2.2.2.2.2.2.2.2.2.2.2.2) ++ X) t) (al n0)) 0 0 (al n0) := by
  refine kb_start (own := "LineBreakerModel") (by decide +kernel) rfl ?_
  intro p e s m below meth c C hr hne w
  have hx := C.1
  have hb := C.2.1
  have hts := C.2.2.2.2.1
  have hl := lv_entry ([.ref (ad 0)]) (n := 14) (Nat.le_of_ble_eq_true rfl)
  rw [lg_entry_eq]
  generalize (lg_sl ([.ref (ad 0)]) ++ List.replicate (14 - (lg_sl ([.ref (ad 0)])).length) Slot.unset).toArray = ls at hl ⊢
  have hl : lv_has ls 14 [(0, .ref (ad 0))] := hl
  unfold wp_Mo_breakUp at hw
  refine lv_iconst (v := 0) hx hb d_Mo_breakUp_0 (by decide) ?_
  refine lv_istore_n (lv' := [(1, .int 0), (0, .ref (ad 0))]) hx hb d_Mo_breakUp_1 rfl hl (by decide) rfl (fun ls hl => ?_)
  refine lv_iconst (v := 0) hx hb d_Mo_breakUp_2 (by decide) ?_
  refine lv_istore_n (lv' := [(2, .int 0), (1, .int 0), (0, .ref (ad 0))]) hx hb d_Mo_breakUp_3 rfl hl (by decide) rfl (fun ls hl => ?_)
  obtain ⟨n9, hw⟩ := hw
  exact w_Mo_breakUp_4 C hr  n9 0 0 hw _ _ _ (wn_eq w rfl) (lv_sub hl [2, 1, 0] rfl)
set_option maxHeartbeats 4000000 in
set_option maxRecDepth 100000 in
theorem c_Mo_pass (l : Launch) (n0 : Nat) (G : va_G) (K : KT) (ad : Nat → Nat) (X : va_W) (S : ST) (post : Int32 → Int32 → Prop) (hw : wp_Mo_pass S  post) : Met l y_Mo_pass (Cond.code y_Mo_pass prog_12_method_43_code 1 (some .int) :: gw) rm_Mo_pass (va_Pc [.ref (ad 0)] (wb n0 G K (wM K ad S ++ X))) (va_Qi (fun r (u : Int32) => post r u) (fun (u : Int32) t => we n0 G (wM K ad (sI S 0 u) ++ X) t) (al n0)) 0 0 (al n0) := by
  refine kb_start (own := "LineBreakerModel") (by decide +kernel) rfl ?_
  intro p e s m below meth c C hr hne w
  have hx := C.1
  have hb := C.2.1
  have hts := C.2.2.2.2.1
  have hl := lv_entry ([.ref (ad 0)]) (n := 1) (Nat.le_of_ble_eq_true rfl)
  rw [lg_entry_eq]
  generalize (lg_sl ([.ref (ad 0)]) ++ List.replicate (1 - (lg_sl ([.ref (ad 0)])).length) Slot.unset).toArray = ls at hl ⊢
  have hl : lv_has ls 1 [(0, .ref (ad 0))] := hl
  unfold wp_Mo_pass at hw
  refine lv_aload_n hx hb d_Mo_pass_0 rfl (lv_at hl 0 rfl) ?_
  refine lv_iconst (v := 0) hx hb d_Mo_pass_1 (by decide) ?_
  refine kp (C1 := R_Mo) (T := F_Mo) (N := 43) (ci := 10) (ty0 := t_Mo) (ref := "LineBreakerModel") (w2 := wM K ad (sI S 0 0) ++ X) C w 0 0 iw_Mo tk_Mo n_Mo rfl rfl (by decide) kw_877 rfl rfl rfl rfl (Nat.le_of_ble_eq_true rfl) rfl d_Mo_pass_2 (fun H locs w => ?_)
  refine lv_aload_n hx hb d_Mo_pass_5 rfl (lv_at hl 0 rfl) ?_
  refine kg (C1 := R_Mo) (T := F_Mo) (N := 43) (ci := 10) (ref := "LineBreakerModel") (v := .int (S.2.2 34)) C w 0 34 iw_Mo rfl rfl (by decide) kw_911 rfl rfl d_Mo_pass_6 ?_
  exact ke_i (post := (fun r (u : Int32) => post r u)) (st := (fun (u : Int32) => wM K ad (sI S 0 u) ++ X)) (u := 0) C hr d_Mo_pass_9 (wn_eq w rfl) hw
set_option maxHeartbeats 4000000 in
set_option maxRecDepth 100000 in
theorem c_Mo_nodes (l : Launch) (n0 : Nat) (G : va_G) (K : KT) (ad : Nat → Nat) (X : va_W) (S : ST) (post : Int32 → Int32 → Prop) (hw : wp_Mo_nodes S  post) : Met l y_Mo_nodes (Cond.code y_Mo_nodes prog_12_method_44_code 1 (some .int) :: gw) rm_Mo_nodes (va_Pc [.ref (ad 0)] (wb n0 G K (wM K ad S ++ X))) (va_Qi (fun r (u : Int32) => post r u) (fun (u : Int32) t => we n0 G (wM K ad (sI S 0 u) ++ X) t) (al n0)) 0 0 (al n0) := by
  refine kb_start (own := "LineBreakerModel") (by decide +kernel) rfl ?_
  intro p e s m below meth c C hr hne w
  have hx := C.1
  have hb := C.2.1
  have hts := C.2.2.2.2.1
  have hl := lv_entry ([.ref (ad 0)]) (n := 1) (Nat.le_of_ble_eq_true rfl)
  rw [lg_entry_eq]
  generalize (lg_sl ([.ref (ad 0)]) ++ List.replicate (1 - (lg_sl ([.ref (ad 0)])).length) Slot.unset).toArray = ls at hl ⊢
  have hl : lv_has ls 1 [(0, .ref (ad 0))] := hl
  unfold wp_Mo_nodes at hw
  refine lv_aload_n hx hb d_Mo_nodes_0 rfl (lv_at hl 0 rfl) ?_
  refine lv_iconst (v := 0) hx hb d_Mo_nodes_1 (by decide) ?_
  refine kp (C1 := R_Mo) (T := F_Mo) (N := 43) (ci := 10) (ty0 := t_Mo) (ref := "LineBreakerModel") (w2 := wM K ad (sI S 0 0) ++ X) C w 0 0 iw_Mo tk_Mo n_Mo rfl rfl (by decide) kw_877 rfl rfl rfl rfl (Nat.le_of_ble_eq_true rfl) rfl d_Mo_nodes_2 (fun H locs w => ?_)
  refine lv_aload_n hx hb d_Mo_nodes_5 rfl (lv_at hl 0 rfl) ?_
  refine kg (C1 := R_Mo) (T := F_Mo) (N := 43) (ci := 10) (ref := "LineBreakerModel") (v := .int (S.2.2 34)) C w 0 34 iw_Mo rfl rfl (by decide) kw_911 rfl rfl d_Mo_nodes_6 ?_
  refine lv_if_le (tgt := 19) hx hb d_Mo_nodes_9 (by decide) (fun hc => ?_) (fun hc => ?_)
  · have hw := hw.1 hc
    refine lv_iconst (v := 0) hx hb d_Mo_nodes_19 (by decide) ?_
    exact ke_i (post := (fun r (u : Int32) => post r u)) (st := (fun (u : Int32) => wM K ad (sI S 0 u) ++ X)) (u := 0) C hr d_Mo_nodes_20 (wn_eq w rfl) hw
  · have hw := hw.2 hc
    refine lv_aload_n hx hb d_Mo_nodes_12 rfl (lv_at hl 0 rfl) ?_
    refine kg (C1 := R_Mo) (T := F_Mo) (N := 43) (ci := 10) (ref := "LineBreakerModel") (v := .int (S.2.2 35)) C w 0 35 iw_Mo rfl rfl (by decide) kw_912 rfl rfl d_Mo_nodes_13 ?_
    refine lv_goto (tgt := 20) hx hb d_Mo_nodes_16 (by decide) ?_
    exact ke_i (post := (fun r (u : Int32) => post r u)) (st := (fun (u : Int32) => wM K ad (sI S 0 u) ++ X)) (u := 0) C hr d_Mo_nodes_20 (wn_eq w rfl) hw
set_option maxHeartbeats 4000000 in
set_option maxRecDepth 100000 in
theorem c_Mo_isLine (l : Launch) (n0 : Nat) (G : va_G) (K : KT) (ad : Nat → Nat) (X : va_W) (S : ST) (p1 : Int32) (post : Int32 → Prop) (hw : wp_Mo_isLine S p1 post) : Met l y_Mo_isLine (Cond.code y_Mo_isLine prog_12_method_45_code 2 (some .boolean) :: gw) rm_Mo_isLine (va_Pc [.ref (ad 0), .int p1] (wb n0 G K (wM K ad S ++ X))) (rq_i post) 0 0 (fun _ => False) := by
  refine kb_start (own := "LineBreakerModel") (by decide +kernel) rfl ?_
  intro p e s m below meth c C hr hne w
  have hx := C.1
  have hb := C.2.1
  have hts := C.2.2.2.2.1
  have hl := lv_entry ([.ref (ad 0), .int p1]) (n := 2) (Nat.le_of_ble_eq_true rfl)
  rw [lg_entry_eq]
  generalize (lg_sl ([.ref (ad 0), .int p1]) ++ List.replicate (2 - (lg_sl ([.ref (ad 0), .int p1])).length) Slot.unset).toArray = ls at hl ⊢
  have hl : lv_has ls 2 [(0, .ref (ad 0)), (1, .int p1)] := hl
  unfold wp_Mo_isLine at hw
  refine lv_aload_n hx hb d_Mo_isLine_0 rfl (lv_at hl 0 rfl) ?_
  refine kg (C1 := R_Mo) (T := F_Mo) (N := 43) (ci := 10) (ref := "LineBreakerModel") (v := .int (S.2.2 34)) C w 0 34 iw_Mo rfl rfl (by decide) kw_911 rfl rfl d_Mo_isLine_1 ?_
  refine lv_if_le (tgt := 23) hx hb d_Mo_isLine_4 (by decide) (fun hc => ?_) (fun hc => ?_)
  · have hw := hw.1 hc
    refine lv_iconst (v := 0) hx hb d_Mo_isLine_23 (by decide) ?_
    exact kf_z C hr d_Mo_isLine_24 (Or.inl rfl) hw
  · have hw := hw.2 hc
    refine lv_iload_n hx hb d_Mo_isLine_7 rfl (lv_at hl 1 rfl) ?_
    refine lv_if_lt (tgt := 23) hx hb d_Mo_isLine_8 (by decide) (fun hc => ?_) (fun hc => ?_)
    · have hw := hw.1 hc
      refine lv_iconst (v := 0) hx hb d_Mo_isLine_23 (by decide) ?_
      exact kf_z C hr d_Mo_isLine_24 (Or.inl rfl) hw
    · have hw := hw.2 hc
      refine lv_iload_n hx hb d_Mo_isLine_11 rfl (lv_at hl 1 rfl) ?_
      refine lv_aload_n hx hb d_Mo_isLine_12 rfl (lv_at hl 0 rfl) ?_
      refine kg (C1 := R_Mo) (T := F_Mo) (N := 43) (ci := 10) (ref := "LineBreakerModel") (v := .int (S.2.2 36)) C w 0 36 iw_Mo rfl rfl (by decide) kw_913 rfl rfl d_Mo_isLine_13 ?_
      refine lv_icmp_ge (tgt := 23) hx hb d_Mo_isLine_16 (by decide) (fun hc => ?_) (fun hc => ?_)
      · have hw := hw.1 hc
        refine lv_iconst (v := 0) hx hb d_Mo_isLine_23 (by decide) ?_
        exact kf_z C hr d_Mo_isLine_24 (Or.inl rfl) hw
      · have hw := hw.2 hc
        refine lv_iconst (v := 1) hx hb d_Mo_isLine_19 (by decide) ?_
        refine lv_goto (tgt := 24) hx hb d_Mo_isLine_20 (by decide) ?_
        exact kf_z C hr d_Mo_isLine_24 (Or.inr rfl) hw
set_option maxHeartbeats 4000000 in
set_option maxRecDepth 100000 in
theorem w_Mo_line_23 {S : ST} {post : Int32 → Int32 → Prop} (C : cx p s m args meth c prog_12_method_46_code 3 "LineBreakerModel" n0 G K) (hr : meth.sig.returnType = (some .int)) : ∀ (x1 : Int32) (x2 : Int32) (z1 : Int32), wl_Mo_line_23 S post x1 x2 z1 → ∀ (H : Heap) (locs : List Loc) (ls : Array Slot), wn n0 G (wM K ad S ++ X) s H locs → lv_has ls 3 [(0, .ref (ad 0)), (1, .int x1), (2, .int x2)] → W p l e rm_Mo_line s m args below meth c H locs 0 0 (MQ below (va_Qi (fun r (u : Int32) => post r u) (fun (u : Int32) t => we n0 G (wM K ad (sI S 0 u) ++ X) t) (al n0)) args s 0 0 (al n0)) (F0 m 23 ls [.int z1, .ref (ad 0)]) := by
  have hx := C.1
  have hb := C.2.1
  have hts := C.2.2.2.2.1
  intro x1 x2 z1 hw H locs ls w hl
  unfold wl_Mo_line_23 at hw
  refine kp (C1 := R_Mo) (T := F_Mo) (N := 43) (ci := 10) (ty0 := t_Mo) (ref := "LineBreakerModel") (w2 := wM K ad (sI S 0 z1) ++ X) C w 0 0 iw_Mo tk_Mo n_Mo rfl rfl (by decide) kw_877 rfl rfl rfl rfl (Nat.le_of_ble_eq_true rfl) rfl d_Mo_line_23 (fun H locs w => ?_)
  refine lv_aload_n hx hb d_Mo_line_26 rfl (lv_at hl 0 rfl) ?_
  refine kg (C1 := R_Mo) (T := F_Mo) (N := 43) (ci := 10) (ref := "LineBreakerModel") (v := .int z1) C w 0 0 iw_Mo rfl rfl (by decide) kw_877 rfl rfl d_Mo_line_27 ?_
  refine lv_if_le (tgt := 35) hx hb d_Mo_line_30 (by decide) (fun hc => ?_) (fun hc => ?_)
  · have hw := hw.1 hc
    refine lv_iload_n hx hb d_Mo_line_35 rfl (lv_at hl 2 rfl) ?_
    by_cases h36_0 : x2 = 0
    · have hw := hw.1 h36_0
      refine lv_tableIn (tgt := 68) hx hb d_Mo_line_36 (by rw [h36_0]; decide) (by rw [h36_0]; decide) (by rw [h36_0]; rfl) (by decide) ?_
      refine lv_aload_n hx hb d_Mo_line_68 rfl (lv_at hl 0 rfl) ?_
      refine kg (C1 := R_Mo) (T := F_Mo) (N := 43) (ci := 10) (ref := "LineBreakerModel") (v := .ref (ad 22)) C w 0 37 iw_Mo rfl rfl (by decide) kw_914 rfl rfl d_Mo_line_69 ?_
      refine lv_iload_n hx hb d_Mo_line_72 rfl (lv_at hl 1 rfl) ?_
      refine ka_i (f := (S.1 22)) C w 22 rfl hw.1 d_Mo_line_73 ?_
      have hw := hw.2
      exact ke_i (post := (fun r (u : Int32) => post r u)) (st := (fun (u : Int32) => wM K ad (sI S 0 u) ++ X)) (u := z1) C hr d_Mo_line_74 (wn_eq w rfl) hw
    by_cases h36_1 : x2 = 1
    · have hw := hw.2.1 h36_1
      refine lv_tableIn (tgt := 75) hx hb d_Mo_line_36 (by rw [h36_1]; decide) (by rw [h36_1]; decide) (by rw [h36_1]; rfl) (by decide) ?_
      refine lv_aload_n hx hb d_Mo_line_75 rfl (lv_at hl 0 rfl) ?_
      refine kg (C1 := R_Mo) (T := F_Mo) (N := 43) (ci := 10) (ref := "LineBreakerModel") (v := .ref (ad 23)) C w 0 38 iw_Mo rfl rfl (by decide) kw_915 rfl rfl d_Mo_line_76 ?_
      refine lv_iload_n hx hb d_Mo_line_79 rfl (lv_at hl 1 rfl) ?_
      refine ka_i (f := (S.1 23)) C w 23 rfl hw.1 d_Mo_line_80 ?_
      have hw := hw.2
      exact ke_i (post := (fun r (u : Int32) => post r u)) (st := (fun (u : Int32) => wM K ad (sI S 0 u) ++ X)) (u := z1) C hr d_Mo_line_81 (wn_eq w rfl) hw
    by_cases h36_2 : x2 = 2
    · have hw := hw.2.2.1 h36_2
      refine lv_tableIn (tgt := 82) hx hb d_Mo_line_36 (by rw [h36_2]; decide) (by rw [h36_2]; decide) (by rw [h36_2]; rfl) (by decide) ?_
      refine lv_aload_n hx hb d_Mo_line_82 rfl (lv_at hl 0 rfl) ?_
      refine kg (C1 := R_Mo) (T := F_Mo) (N := 43) (ci := 10) (ref := "LineBreakerModel") (v := .ref (ad 24)) C w 0 39 iw_Mo rfl rfl (by decide) kw_916 rfl rfl d_Mo_line_83 ?_
      refine lv_iload_n hx hb d_Mo_line_86 rfl (lv_at hl 1 rfl) ?_
      refine ka_i (f := (S.1 24)) C w 24 rfl hw.1 d_Mo_line_87 ?_
      have hw := hw.2
      exact ke_i (post := (fun r (u : Int32) => post r u)) (st := (fun (u : Int32) => wM K ad (sI S 0 u) ++ X)) (u := z1) C hr d_Mo_line_88 (wn_eq w rfl) hw
    by_cases h36_3 : x2 = 3
    · have hw := hw.2.2.2.1 h36_3
      refine lv_tableIn (tgt := 89) hx hb d_Mo_line_36 (by rw [h36_3]; decide) (by rw [h36_3]; decide) (by rw [h36_3]; rfl) (by decide) ?_
      refine lv_aload_n hx hb d_Mo_line_89 rfl (lv_at hl 0 rfl) ?_
      refine kg (C1 := R_Mo) (T := F_Mo) (N := 43) (ci := 10) (ref := "LineBreakerModel") (v := .ref (ad 25)) C w 0 40 iw_Mo rfl rfl (by decide) kw_917 rfl rfl d_Mo_line_90 ?_
      refine lv_iload_n hx hb d_Mo_line_93 rfl (lv_at hl 1 rfl) ?_
      refine ka_i (f := (S.1 25)) C w 25 rfl hw.1 d_Mo_line_94 ?_
      have hw := hw.2
      exact ke_i (post := (fun r (u : Int32) => post r u)) (st := (fun (u : Int32) => wM K ad (sI S 0 u) ++ X)) (u := z1) C hr d_Mo_line_95 (wn_eq w rfl) hw
    have hw := hw.2.2.2.2 h36_0 h36_1 h36_2 h36_3
    have t36_0 := lv_neT h36_0 (show (0 : Int32).toInt = 0 by decide)
    have t36_1 := lv_neT h36_1 (show (1 : Int32).toInt = 1 by decide)
    have t36_2 := lv_neT h36_2 (show (2 : Int32).toInt = 2 by decide)
    have t36_3 := lv_neT h36_3 (show (3 : Int32).toInt = 3 by decide)
    refine lv_tableOut (tgt := 96) hx hb d_Mo_line_36 (by omega) (by decide) ?_
    refine lv_aload_n hx hb d_Mo_line_96 rfl (lv_at hl 0 rfl) ?_
    refine kg (C1 := R_Mo) (T := F_Mo) (N := 43) (ci := 10) (ref := "LineBreakerModel") (v := .ref (ad 26)) C w 0 41 iw_Mo rfl rfl (by decide) kw_918 rfl rfl d_Mo_line_97 ?_
    refine lv_iload_n hx hb d_Mo_line_100 rfl (lv_at hl 1 rfl) ?_
    refine ka_i (f := (S.1 26)) C w 26 rfl hw.1 d_Mo_line_101 ?_
    have hw := hw.2
    exact ke_i (post := (fun r (u : Int32) => post r u)) (st := (fun (u : Int32) => wM K ad (sI S 0 u) ++ X)) (u := z1) C hr d_Mo_line_102 (wn_eq w rfl) hw
  · have hw := hw.2 hc
    refine lv_iconst (v := 0) hx hb d_Mo_line_33 (by decide) ?_
    exact ke_i (post := (fun r (u : Int32) => post r u)) (st := (fun (u : Int32) => wM K ad (sI S 0 u) ++ X)) (u := z1) C hr d_Mo_line_34 (wn_eq w rfl) hw
set_option maxHeartbeats 4000000 in
set_option maxRecDepth 100000 in
theorem w_Mo_line_18 {S : ST} {post : Int32 → Int32 → Prop} (C : cx p s m args meth c prog_12_method_46_code 3 "LineBreakerModel" n0 G K) (hr : meth.sig.returnType = (some .int)) : ∀ (x1 : Int32) (x2 : Int32), wl_Mo_line_18 S post x1 x2 → ∀ (H : Heap) (locs : List Loc) (ls : Array Slot), wn n0 G (wM K ad S ++ X) s H locs → lv_has ls 3 [(0, .ref (ad 0)), (1, .int x1), (2, .int x2)] → W p l e rm_Mo_line s m args below meth c H locs 0 0 (MQ below (va_Qi (fun r (u : Int32) => post r u) (fun (u : Int32) t => we n0 G (wM K ad (sI S 0 u) ++ X) t) (al n0)) args s 0 0 (al n0)) (F0 m 18 ls [.ref (ad 0)]) := by
  have hx := C.1
  have hb := C.2.1
  have hts := C.2.2.2.2.1
  intro x1 x2 hw H locs ls w hl
  unfold wl_Mo_line_18 at hw
  refine lv_iconst (v := 1) hx hb d_Mo_line_18 (by decide) ?_
  refine lv_goto (tgt := 23) hx hb d_Mo_line_19 (by decide) ?_
  exact w_Mo_line_23 C hr  x1 x2 1 hw _ _ _ (wn_eq w rfl) (lv_sub hl [0, 1, 2] rfl)
set_option maxHeartbeats 4000000 in
set_option maxRecDepth 100000 in
theorem c_Mo_line (l : Launch) (n0 : Nat) (G : va_G) (K : KT) (ad : Nat → Nat) (X : va_W) (S : ST) (p1 : Int32) (p2 : Int32) (post : Int32 → Int32 → Prop) (hw : wp_Mo_line S p1 p2 post) : Met l y_Mo_line (Cond.code y_Mo_line prog_12_method_46_code 3 (some .int) :: gw) rm_Mo_line (va_Pc [.ref (ad 0), .int p1, .int p2] (wb n0 G K (wM K ad S ++ X))) (va_Qi (fun r (u : Int32) => post r u) (fun (u : Int32) t => we n0 G (wM K ad (sI S 0 u) ++ X) t) (al n0)) 0 0 (al n0) := by
  refine kb_start (own := "LineBreakerModel") (by decide +kernel) rfl ?_
  intro p e s m below meth c C hr hne w
  have hx := C.1
  have hb := C.2.1
  have hts := C.2.2.2.2.1
  have hl := lv_entry ([.ref (ad 0), .int p1, .int p2]) (n := 3) (Nat.le_of_ble_eq_true rfl)
  rw [lg_entry_eq]
  generalize (lg_sl ([.ref (ad 0), .int p1, .int p2]) ++ List.replicate (3 - (lg_sl ([.ref (ad 0), .int p1, .int p2])).length) Slot.unset).toArray = ls at hl ⊢
  have hl : lv_has ls 3 [(0, .ref (ad 0)), (1, .int p1), (2, .int p2)] := hl
  unfold wp_Mo_line at hw
  refine lv_aload_n hx hb d_Mo_line_0 rfl (lv_at hl 0 rfl) ?_
  refine lv_aload_n hx hb d_Mo_line_1 rfl (lv_at hl 0 rfl) ?_
  refine lv_iload_n hx hb d_Mo_line_2 rfl (lv_at hl 1 rfl) ?_
  refine kd_i (kr_V (y := y_Mo_isLine) (C1 := R_Mo) (T := F_Mo) (N := 43) (ci := 10) (q0 := 0) (As := [.int p1]) (n := 1) C w (c_Mo_isLine l n0 G K ad X S p1 _ hw) (gw_V kw_1189 kw_1191 kp_39 kw_11 kw_1192) (by decide +kernel) rfl rfl ⟨Nat.le_of_ble_eq_true rfl, Nat.le_of_ble_eq_true rfl⟩ rfl rfl rfl hl.1 rfl (Nat.le_of_ble_eq_true rfl) d_Mo_line_3 ⟨Nat.le_of_ble_eq_true rfl, Nat.le_of_ble_eq_true rfl⟩) (fun r1 hw => ?_)
  refine lv_if_eq (tgt := 18) hx hb d_Mo_line_6 (by decide) (fun hc => ?_) (fun hc => ?_)
  · have hw := hw.1 hc
    exact w_Mo_line_18 C hr  p1 p2 hw _ _ _ (wn_eq w rfl) (lv_sub hl [0, 1, 2] rfl)
  · have hw := hw.2 hc
    refine lv_iload_n hx hb d_Mo_line_9 rfl (lv_at hl 2 rfl) ?_
    refine lv_if_lt (tgt := 18) hx hb d_Mo_line_10 (by decide) (fun hc => ?_) (fun hc => ?_)
    · have hw := hw.1 hc
      exact w_Mo_line_18 C hr  p1 p2 hw _ _ _ (wn_eq w rfl) (lv_sub hl [0, 1, 2] rfl)
    · have hw := hw.2 hc
      refine lv_iload_n hx hb d_Mo_line_13 rfl (lv_at hl 2 rfl) ?_
      refine lv_iconst (v := 4) hx hb d_Mo_line_14 (by decide) ?_
      refine lv_icmp_le (tgt := 22) hx hb d_Mo_line_15 (by decide) (fun hc => ?_) (fun hc => ?_)
      · have hw := hw.1 hc
        refine lv_iconst (v := 0) hx hb d_Mo_line_22 (by decide) ?_
        exact w_Mo_line_23 C hr  p1 p2 0 hw _ _ _ (wn_eq w rfl) (lv_sub hl [0, 1, 2] rfl)
      · have hw := hw.2 hc
        exact w_Mo_line_18 C hr  p1 p2 hw _ _ _ (wn_eq w rfl) (lv_sub hl [0, 1, 2] rfl)
set_option maxHeartbeats 4000000 in
set_option maxRecDepth 100000 in
theorem w_Mo_total_14 {S : ST} {post : Int64 → Int32 → Prop} (C : cx p s m args meth c prog_12_method_47_code 2 "LineBreakerModel" n0 G K) (hr : meth.sig.returnType = (some .long)) : ∀ (x1 : Int32) (z1 : Int32), wl_Mo_total_14 S post x1 z1 → ∀ (H : Heap) (locs : List Loc) (ls : Array Slot), wn n0 G (wM K ad S ++ X) s H locs → lv_has ls 2 [(0, .ref (ad 0)), (1, .int x1)] → W p l e rm_Mo_total s m args below meth c H locs 0 0 (MQ below (va_Ql (fun r (u : Int32) => post r u) (fun (u : Int32) t => we n0 G (wM K ad (sI S 0 u) ++ X) t) (al n0)) args s 0 0 (al n0)) (F0 m 14 ls [.int z1, .ref (ad 0)]) := by
  have hx := C.1
  have hb := C.2.1
  have hts := C.2.2.2.2.1
  intro x1 z1 hw H locs ls w hl
  unfold wl_Mo_total_14 at hw
  refine kp (C1 := R_Mo) (T := F_Mo) (N := 43) (ci := 10) (ty0 := t_Mo) (ref := "LineBreakerModel") (w2 := wM K ad (sI S 0 z1) ++ X) C w 0 0 iw_Mo tk_Mo n_Mo rfl rfl (by decide) kw_877 rfl rfl rfl rfl (Nat.le_of_ble_eq_true rfl) rfl d_Mo_total_14 (fun H locs w => ?_)
  refine lv_aload_n hx hb d_Mo_total_17 rfl (lv_at hl 0 rfl) ?_
  refine kg (C1 := R_Mo) (T := F_Mo) (N := 43) (ci := 10) (ref := "LineBreakerModel") (v := .int z1) C w 0 0 iw_Mo rfl rfl (by decide) kw_877 rfl rfl d_Mo_total_18 ?_
  refine lv_if_le (tgt := 28) hx hb d_Mo_total_21 (by decide) (fun hc => ?_) (fun hc => ?_)
  · have hw := hw.1 hc
    refine lv_aload_n hx hb d_Mo_total_28 rfl (lv_at hl 0 rfl) ?_
    refine kg (C1 := R_Mo) (T := F_Mo) (N := 43) (ci := 10) (ref := "LineBreakerModel") (v := .ref (ad 27)) C w 0 42 iw_Mo rfl rfl (by decide) kw_919 rfl rfl d_Mo_total_29 ?_
    refine lv_iload_n hx hb d_Mo_total_32 rfl (lv_at hl 1 rfl) ?_
    refine ka_l (f := (S.2.1 27)) C w 27 rfl hw.1 d_Mo_total_33 ?_
    have hw := hw.2
    exact ke_l (post := (fun r (u : Int32) => post r u)) (st := (fun (u : Int32) => wM K ad (sI S 0 u) ++ X)) (u := z1) C hr d_Mo_total_34 (wn_eq w rfl) hw
  · have hw := hw.2 hc
    refine lv_lconst (v := 0) hx hb d_Mo_total_24 (by decide) ?_
    refine lv_goto (tgt := 34) hx hb d_Mo_total_25 (by decide) ?_
    exact ke_l (post := (fun r (u : Int32) => post r u)) (st := (fun (u : Int32) => wM K ad (sI S 0 u) ++ X)) (u := z1) C hr d_Mo_total_34 (wn_eq w rfl) hw
set_option maxHeartbeats 4000000 in
set_option maxRecDepth 100000 in
theorem c_Mo_total (l : Launch) (n0 : Nat) (G : va_G) (K : KT) (ad : Nat → Nat) (X : va_W) (S : ST) (p1 : Int32) (post : Int64 → Int32 → Prop) (hw : wp_Mo_total S p1 post) : Met l y_Mo_total (Cond.code y_Mo_total prog_12_method_47_code 2 (some .long) :: gw) rm_Mo_total (va_Pc [.ref (ad 0), .int p1] (wb n0 G K (wM K ad S ++ X))) (va_Ql (fun r (u : Int32) => post r u) (fun (u : Int32) t => we n0 G (wM K ad (sI S 0 u) ++ X) t) (al n0)) 0 0 (al n0) := by
  refine kb_start (own := "LineBreakerModel") (by decide +kernel) rfl ?_
  intro p e s m below meth c C hr hne w
  have hx := C.1
  have hb := C.2.1
  have hts := C.2.2.2.2.1
  have hl := lv_entry ([.ref (ad 0), .int p1]) (n := 2) (Nat.le_of_ble_eq_true rfl)
  rw [lg_entry_eq]
  generalize (lg_sl ([.ref (ad 0), .int p1]) ++ List.replicate (2 - (lg_sl ([.ref (ad 0), .int p1])).length) Slot.unset).toArray = ls at hl ⊢
  have hl : lv_has ls 2 [(0, .ref (ad 0)), (1, .int p1)] := hl
  unfold wp_Mo_total at hw
  refine lv_aload_n hx hb d_Mo_total_0 rfl (lv_at hl 0 rfl) ?_
  refine lv_aload_n hx hb d_Mo_total_1 rfl (lv_at hl 0 rfl) ?_
  refine lv_iload_n hx hb d_Mo_total_2 rfl (lv_at hl 1 rfl) ?_
  refine kd_i (kr_V (y := y_Mo_isLine) (C1 := R_Mo) (T := F_Mo) (N := 43) (ci := 10) (q0 := 0) (As := [.int p1]) (n := 1) C w (c_Mo_isLine l n0 G K ad X S p1 _ hw) (gw_V kw_1189 kw_1191 kp_39 kw_11 kw_1192) (by decide +kernel) rfl rfl ⟨Nat.le_of_ble_eq_true rfl, Nat.le_of_ble_eq_true rfl⟩ rfl rfl rfl hl.1 rfl (Nat.le_of_ble_eq_true rfl) d_Mo_total_3 ⟨Nat.le_of_ble_eq_true rfl, Nat.le_of_ble_eq_true rfl⟩) (fun r1 hw => ?_)
  refine lv_if_eq (tgt := 13) hx hb d_Mo_total_6 (by decide) (fun hc => ?_) (fun hc => ?_)
  · have hw := hw.1 hc
    refine lv_iconst (v := 1) hx hb d_Mo_total_13 (by decide) ?_
    exact w_Mo_total_14 C hr  p1 1 hw _ _ _ (wn_eq w rfl) (lv_sub hl [0, 1] rfl)
  · have hw := hw.2 hc
    refine lv_iconst (v := 0) hx hb d_Mo_total_9 (by decide) ?_
    refine lv_goto (tgt := 14) hx hb d_Mo_total_10 (by decide) ?_
    exact w_Mo_total_14 C hr  p1 0 hw _ _ _ (wn_eq w rfl) (lv_sub hl [0, 1] rfl)
end
