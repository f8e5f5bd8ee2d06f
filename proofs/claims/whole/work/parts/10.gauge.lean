theorem kw_114 : (Jvm.Cond.fieldLink "LineBreaker$Settings" (15 : Nat) "LineBreaker$Settings" "widths" "[I") ∈ gw := gw_t (List.mem_of_getElem? (i := 114) (by decide +kernel)) (by decide +kernel)
theorem kw_750 : (Jvm.Cond.methodLink "LineBreaker$Settings" (34 : Nat) ({ cls := "java/lang/Math", name := "min", desc := "(II)I" } : Jvm.MethodName)) ∈ gw := gw_t (List.mem_of_getElem? (i := 750) (by decide +kernel)) (by decide +kernel)
theorem kw_563 : (Jvm.Cond.static ({ cls := "java/lang/Math", name := "min", desc := "(II)I" } : Jvm.MethodName)) ∈ gw := gw_t (List.mem_of_getElem? (i := 563) (by decide +kernel)) (by decide +kernel)
theorem kw_17 : (Jvm.Cond.initialized "java/lang/Math") ∈ gw := gw_t (List.mem_of_getElem? (i := 17) (by decide +kernel)) (by decide +kernel)
theorem kw_564 : (Jvm.Cond.code ({ cls := "java/lang/Math", name := "min", desc := "(II)I" } : Jvm.MethodName) prog_17_method_69_code (2 : Nat) (Option.some Jvm.ClassFile.FieldType.int)) ∈ gw := gw_t (List.mem_of_getElem? (i := 564) (by decide +kernel)) (by decide +kernel)
theorem kw_149 : (Jvm.Cond.fieldLink "LineBreaker$Galley" (28 : Nat) "LineBreaker$Galley" "behind" "[I") ∈ gw := gw_t (List.mem_of_getElem? (i := 149) (by decide +kernel)) (by decide +kernel)
theorem kw_95 : (Jvm.Cond.fieldLink "LineBreaker$Glue" (16 : Nat) "LineBreaker$Glue" "order" "I") ∈ gw := gw_t (List.mem_of_getElem? (i := 95) (by decide +kernel)) (by decide +kernel)
theorem kw_93 : (Jvm.Cond.fieldLink "LineBreaker$Glue" (13 : Nat) "LineBreaker$Glue" "stretch" "I") ∈ gw := gw_t (List.mem_of_getElem? (i := 93) (by decide +kernel)) (by decide +kernel)
theorem kw_146 : (Jvm.Cond.fieldLink "LineBreaker$Galley" (22 : Nat) "LineBreaker$Galley" "first" "[I") ∈ gw := gw_t (List.mem_of_getElem? (i := 146) (by decide +kernel)) (by decide +kernel)
theorem kw_770 : (Jvm.Cond.constant "LineBreaker$Gauge" (107 : Nat) (131072 : Int32)) ∈ gw := gw_t (List.mem_of_getElem? (i := 770) (by decide +kernel)) (by decide +kernel)
theorem kw_771 : (Jvm.Cond.constant "LineBreaker$Gauge" (108 : Nat) (262144 : Int32)) ∈ gw := gw_t (List.mem_of_getElem? (i := 771) (by decide +kernel)) (by decide +kernel)
theorem kw_768 : (Jvm.Cond.constant "LineBreaker$Gauge" (105 : Nat) (7230584 : Int32)) ∈ gw := gw_t (List.mem_of_getElem? (i := 768) (by decide +kernel)) (by decide +kernel)
theorem kw_769 : (Jvm.Cond.constant "LineBreaker$Gauge" (106 : Nat) (1663497 : Int32)) ∈ gw := gw_t (List.mem_of_getElem? (i := 769) (by decide +kernel)) (by decide +kernel)
theorem kw_206 : (Jvm.Cond.fieldLink "LineBreaker$Gauge" (99 : Nat) "LineBreaker$Gauge" "badness" "I") ∈ gw := gw_t (List.mem_of_getElem? (i := 206) (by decide +kernel)) (by decide +kernel)
theorem kw_208 : (Jvm.Cond.fieldLink "LineBreaker$Gauge" (102 : Nat) "LineBreaker$Gauge" "fit" "I") ∈ gw := gw_t (List.mem_of_getElem? (i := 208) (by decide +kernel)) (by decide +kernel)
theorem kw_203 : (Jvm.Cond.fieldLink "LineBreaker$Gauge" (84 : Nat) "LineBreaker$Gauge" "shortfall" "I") ∈ gw := gw_t (List.mem_of_getElem? (i := 203) (by decide +kernel)) (by decide +kernel)
theorem kw_767 : (Jvm.Cond.code ({ cls := "LineBreaker$Gauge", name := "bad", desc := "(II)I" } : Jvm.MethodName) prog_3_method_6_code (3 : Nat) (Option.some Jvm.ClassFile.FieldType.int)) ∈ gw := gw_t (List.mem_of_getElem? (i := 767) (by decide +kernel)) (by decide +kernel)
theorem kw_766 : (Jvm.Cond.static ({ cls := "LineBreaker$Gauge", name := "bad", desc := "(II)I" } : Jvm.MethodName)) ∈ gw := gw_t (List.mem_of_getElem? (i := 766) (by decide +kernel)) (by decide +kernel)
theorem kw_7 : (Jvm.Cond.initialized "LineBreaker$Gauge") ∈ gw := gw_t (List.mem_of_getElem? (i := 7) (by decide +kernel)) (by decide +kernel)
theorem kw_765 : (Jvm.Cond.methodLink "LineBreaker$Gauge" (95 : Nat) ({ cls := "LineBreaker$Gauge", name := "bad", desc := "(II)I" } : Jvm.MethodName)) ∈ gw := gw_t (List.mem_of_getElem? (i := 765) (by decide +kernel)) (by decide +kernel)
theorem kw_775 : (Jvm.Cond.code ({ cls := "LineBreaker$Gauge", name := "judgeShrunk", desc := "(I)V" } : Jvm.MethodName) prog_3_method_5_code (3 : Nat) (Option.none : Option Jvm.ClassFile.FieldType)) ∈ gw := gw_t (List.mem_of_getElem? (i := 775) (by decide +kernel)) (by decide +kernel)
theorem kw_772 : (Jvm.Cond.methodLink "LineBreaker$Gauge" (91 : Nat) ({ cls := "LineBreaker$Gauge", name := "judgeShrunk", desc := "(I)V" } : Jvm.MethodName)) ∈ gw := gw_t (List.mem_of_getElem? (i := 772) (by decide +kernel)) (by decide +kernel)
theorem kw_774 : (Jvm.Cond.instanceMethod ({ cls := "LineBreaker$Gauge", name := "judgeShrunk", desc := "(I)V" } : Jvm.MethodName)) ∈ gw := gw_t (List.mem_of_getElem? (i := 774) (by decide +kernel)) (by decide +kernel)
theorem kp_12 : Cond.selects "LineBreaker$Gauge" ⟨"LineBreaker$Gauge", "judgeShrunk", "(I)V"⟩ ⟨"LineBreaker$Gauge", "judgeShrunk", "(I)V"⟩ ∈ gw := gw_s (List.mem_of_getElem? (i := 12) (by decide +kernel)) (by decide +kernel)
theorem kw_764 : (Jvm.Cond.code ({ cls := "LineBreaker$Gauge", name := "judgeStretched", desc := "(II)V" } : Jvm.MethodName) prog_3_method_4_code (3 : Nat) (Option.none : Option Jvm.ClassFile.FieldType)) ∈ gw := gw_t (List.mem_of_getElem? (i := 764) (by decide +kernel)) (by decide +kernel)
theorem kw_761 : (Jvm.Cond.methodLink "LineBreaker$Gauge" (87 : Nat) ({ cls := "LineBreaker$Gauge", name := "judgeStretched", desc := "(II)V" } : Jvm.MethodName)) ∈ gw := gw_t (List.mem_of_getElem? (i := 761) (by decide +kernel)) (by decide +kernel)
theorem kw_763 : (Jvm.Cond.instanceMethod ({ cls := "LineBreaker$Gauge", name := "judgeStretched", desc := "(II)V" } : Jvm.MethodName)) ∈ gw := gw_t (List.mem_of_getElem? (i := 763) (by decide +kernel)) (by decide +kernel)
theorem kp_11 : Cond.selects "LineBreaker$Gauge" ⟨"LineBreaker$Gauge", "judgeStretched", "(II)V"⟩ ⟨"LineBreaker$Gauge", "judgeStretched", "(II)V"⟩ ∈ gw := gw_s (List.mem_of_getElem? (i := 11) (by decide +kernel)) (by decide +kernel)
theorem kw_211 : (Jvm.Cond.fieldLink "LineBreaker$Gauge" (23 : Nat) "LineBreaker$Gauge" "knownTo" "I") ∈ gw := gw_t (List.mem_of_getElem? (i := 211) (by decide +kernel)) (by decide +kernel)
theorem kw_210 : (Jvm.Cond.fieldLink "LineBreaker$Gauge" (32 : Nat) "LineBreaker$Gauge" "knownFrom" "I") ∈ gw := gw_t (List.mem_of_getElem? (i := 210) (by decide +kernel)) (by decide +kernel)
theorem kw_212 : (Jvm.Cond.fieldLink "LineBreaker$Gauge" (35 : Nat) "LineBreaker$Gauge" "knownWidth" "I") ∈ gw := gw_t (List.mem_of_getElem? (i := 212) (by decide +kernel)) (by decide +kernel)
theorem kw_200 : (Jvm.Cond.fieldLink "LineBreaker$Gauge" (15 : Nat) "LineBreaker$Gauge" "settings" "LLineBreaker$Settings;") ∈ gw := gw_t (List.mem_of_getElem? (i := 200) (by decide +kernel)) (by decide +kernel)
theorem kw_117 : (Jvm.Cond.fieldLink "LineBreaker$Gauge" (38 : Nat) "LineBreaker$Settings" "left" "LLineBreaker$Glue;") ∈ gw := gw_t (List.mem_of_getElem? (i := 117) (by decide +kernel)) (by decide +kernel)
theorem kw_120 : (Jvm.Cond.fieldLink "LineBreaker$Gauge" (42 : Nat) "LineBreaker$Settings" "right" "LLineBreaker$Glue;") ∈ gw := gw_t (List.mem_of_getElem? (i := 120) (by decide +kernel)) (by decide +kernel)
theorem kw_91 : (Jvm.Cond.fieldLink "LineBreaker$Gauge" (45 : Nat) "LineBreaker$Glue" "width" "I") ∈ gw := gw_t (List.mem_of_getElem? (i := 91) (by decide +kernel)) (by decide +kernel)
theorem kw_199 : (Jvm.Cond.fieldLink "LineBreaker$Gauge" (9 : Nat) "LineBreaker$Gauge" "galley" "LLineBreaker$Galley;") ∈ gw := gw_t (List.mem_of_getElem? (i := 199) (by decide +kernel)) (by decide +kernel)
theorem kw_148 : (Jvm.Cond.fieldLink "LineBreaker$Gauge" (55 : Nat) "LineBreaker$Galley" "before" "[I") ∈ gw := gw_t (List.mem_of_getElem? (i := 148) (by decide +kernel)) (by decide +kernel)
theorem kw_201 : (Jvm.Cond.fieldLink "LineBreaker$Gauge" (19 : Nat) "LineBreaker$Gauge" "moreStretch" "I") ∈ gw := gw_t (List.mem_of_getElem? (i := 201) (by decide +kernel)) (by decide +kernel)
theorem kw_97 : (Jvm.Cond.fieldLink "LineBreaker$Gauge" (66 : Nat) "LineBreaker$Glue" "shrink" "I") ∈ gw := gw_t (List.mem_of_getElem? (i := 97) (by decide +kernel)) (by decide +kernel)
theorem kw_151 : (Jvm.Cond.fieldLink "LineBreaker$Gauge" (72 : Nat) "LineBreaker$Galley" "widthUpTo" "[I") ∈ gw := gw_t (List.mem_of_getElem? (i := 151) (by decide +kernel)) (by decide +kernel)
theorem kw_153 : (Jvm.Cond.fieldLink "LineBreaker$Gauge" (75 : Nat) "LineBreaker$Galley" "finiteUpTo" "[I") ∈ gw := gw_t (List.mem_of_getElem? (i := 153) (by decide +kernel)) (by decide +kernel)
theorem kw_155 : (Jvm.Cond.fieldLink "LineBreaker$Gauge" (78 : Nat) "LineBreaker$Galley" "endlessUpTo" "[I") ∈ gw := gw_t (List.mem_of_getElem? (i := 155) (by decide +kernel)) (by decide +kernel)
theorem kw_157 : (Jvm.Cond.fieldLink "LineBreaker$Gauge" (81 : Nat) "LineBreaker$Galley" "shrinkUpTo" "[I") ∈ gw := gw_t (List.mem_of_getElem? (i := 157) (by decide +kernel)) (by decide +kernel)
theorem kw_760 : (Jvm.Cond.code ({ cls := "LineBreaker$Galley", name := "firstOneFrom", desc := "(I)I" } : Jvm.MethodName) prog_2_method_5_code (2 : Nat) (Option.some Jvm.ClassFile.FieldType.int)) ∈ gw := gw_t (List.mem_of_getElem? (i := 760) (by decide +kernel)) (by decide +kernel)
theorem kw_757 : (Jvm.Cond.methodLink "LineBreaker$Gauge" (69 : Nat) ({ cls := "LineBreaker$Galley", name := "firstOneFrom", desc := "(I)I" } : Jvm.MethodName)) ∈ gw := gw_t (List.mem_of_getElem? (i := 757) (by decide +kernel)) (by decide +kernel)
theorem kw_758 : (Jvm.Cond.instanceMethod ({ cls := "LineBreaker$Galley", name := "firstOneFrom", desc := "(I)I" } : Jvm.MethodName)) ∈ gw := gw_t (List.mem_of_getElem? (i := 758) (by decide +kernel)) (by decide +kernel)
theorem kw_759 : (Jvm.Cond.selects "LineBreaker$Galley" ({ cls := "LineBreaker$Galley", name := "firstOneFrom", desc := "(I)I" } : Jvm.MethodName) ({ cls := "LineBreaker$Galley", name := "firstOneFrom", desc := "(I)I" } : Jvm.MethodName)) ∈ gw := gw_t (List.mem_of_getElem? (i := 759) (by decide +kernel)) (by decide +kernel)
theorem kw_5 : (Jvm.Cond.initialized "LineBreaker$Galley") ∈ gw := gw_t (List.mem_of_getElem? (i := 5) (by decide +kernel)) (by decide +kernel)
theorem kw_694 : (Jvm.Cond.code ({ cls := "LineBreaker$Glue", name := "endlessStretch", desc := "()I" } : Jvm.MethodName) prog_4_method_4_code (1 : Nat) (Option.some Jvm.ClassFile.FieldType.int)) ∈ gw := gw_t (List.mem_of_getElem? (i := 694) (by decide +kernel)) (by decide +kernel)
theorem kw_756 : (Jvm.Cond.methodLink "LineBreaker$Gauge" (63 : Nat) ({ cls := "LineBreaker$Glue", name := "endlessStretch", desc := "()I" } : Jvm.MethodName)) ∈ gw := gw_t (List.mem_of_getElem? (i := 756) (by decide +kernel)) (by decide +kernel)
theorem kw_692 : (Jvm.Cond.instanceMethod ({ cls := "LineBreaker$Glue", name := "endlessStretch", desc := "()I" } : Jvm.MethodName)) ∈ gw := gw_t (List.mem_of_getElem? (i := 692) (by decide +kernel)) (by decide +kernel)
theorem kw_693 : (Jvm.Cond.selects "LineBreaker$Glue" ({ cls := "LineBreaker$Glue", name := "endlessStretch", desc := "()I" } : Jvm.MethodName) ({ cls := "LineBreaker$Glue", name := "endlessStretch", desc := "()I" } : Jvm.MethodName)) ∈ gw := gw_t (List.mem_of_getElem? (i := 693) (by decide +kernel)) (by decide +kernel)
theorem kw_4 : (Jvm.Cond.initialized "LineBreaker$Glue") ∈ gw := gw_t (List.mem_of_getElem? (i := 4) (by decide +kernel)) (by decide +kernel)
theorem kw_690 : (Jvm.Cond.code ({ cls := "LineBreaker$Glue", name := "finiteStretch", desc := "()I" } : Jvm.MethodName) prog_4_method_3_code (1 : Nat) (Option.some Jvm.ClassFile.FieldType.int)) ∈ gw := gw_t (List.mem_of_getElem? (i := 690) (by decide +kernel)) (by decide +kernel)
theorem kw_755 : (Jvm.Cond.methodLink "LineBreaker$Gauge" (59 : Nat) ({ cls := "LineBreaker$Glue", name := "finiteStretch", desc := "()I" } : Jvm.MethodName)) ∈ gw := gw_t (List.mem_of_getElem? (i := 755) (by decide +kernel)) (by decide +kernel)
theorem kw_688 : (Jvm.Cond.instanceMethod ({ cls := "LineBreaker$Glue", name := "finiteStretch", desc := "()I" } : Jvm.MethodName)) ∈ gw := gw_t (List.mem_of_getElem? (i := 688) (by decide +kernel)) (by decide +kernel)
theorem kw_689 : (Jvm.Cond.selects "LineBreaker$Glue" ({ cls := "LineBreaker$Glue", name := "finiteStretch", desc := "()I" } : Jvm.MethodName) ({ cls := "LineBreaker$Glue", name := "finiteStretch", desc := "()I" } : Jvm.MethodName)) ∈ gw := gw_t (List.mem_of_getElem? (i := 689) (by decide +kernel)) (by decide +kernel)
theorem kw_754 : (Jvm.Cond.code ({ cls := "LineBreaker$Galley", name := "widthBehind", desc := "(I)I" } : Jvm.MethodName) prog_2_method_6_code (2 : Nat) (Option.some Jvm.ClassFile.FieldType.int)) ∈ gw := gw_t (List.mem_of_getElem? (i := 754) (by decide +kernel)) (by decide +kernel)
theorem kw_751 : (Jvm.Cond.methodLink "LineBreaker$Gauge" (50 : Nat) ({ cls := "LineBreaker$Galley", name := "widthBehind", desc := "(I)I" } : Jvm.MethodName)) ∈ gw := gw_t (List.mem_of_getElem? (i := 751) (by decide +kernel)) (by decide +kernel)
theorem kw_752 : (Jvm.Cond.instanceMethod ({ cls := "LineBreaker$Galley", name := "widthBehind", desc := "(I)I" } : Jvm.MethodName)) ∈ gw := gw_t (List.mem_of_getElem? (i := 752) (by decide +kernel)) (by decide +kernel)
theorem kw_753 : (Jvm.Cond.selects "LineBreaker$Galley" ({ cls := "LineBreaker$Galley", name := "widthBehind", desc := "(I)I" } : Jvm.MethodName) ({ cls := "LineBreaker$Galley", name := "widthBehind", desc := "(I)I" } : Jvm.MethodName)) ∈ gw := gw_t (List.mem_of_getElem? (i := 753) (by decide +kernel)) (by decide +kernel)
theorem kw_749 : (Jvm.Cond.code ({ cls := "LineBreaker$Settings", name := "widthOfLine", desc := "(I)I" } : Jvm.MethodName) prog_10_method_2_code (2 : Nat) (Option.some Jvm.ClassFile.FieldType.int)) ∈ gw := gw_t (List.mem_of_getElem? (i := 749) (by decide +kernel)) (by decide +kernel)
theorem kw_746 : (Jvm.Cond.methodLink "LineBreaker$Gauge" (26 : Nat) ({ cls := "LineBreaker$Settings", name := "widthOfLine", desc := "(I)I" } : Jvm.MethodName)) ∈ gw := gw_t (List.mem_of_getElem? (i := 746) (by decide +kernel)) (by decide +kernel)
theorem kw_747 : (Jvm.Cond.instanceMethod ({ cls := "LineBreaker$Settings", name := "widthOfLine", desc := "(I)I" } : Jvm.MethodName)) ∈ gw := gw_t (List.mem_of_getElem? (i := 747) (by decide +kernel)) (by decide +kernel)
theorem kw_748 : (Jvm.Cond.selects "LineBreaker$Settings" ({ cls := "LineBreaker$Settings", name := "widthOfLine", desc := "(I)I" } : Jvm.MethodName) ({ cls := "LineBreaker$Settings", name := "widthOfLine", desc := "(I)I" } : Jvm.MethodName)) ∈ gw := gw_t (List.mem_of_getElem? (i := 748) (by decide +kernel)) (by decide +kernel)
theorem kw_3 : (Jvm.Cond.initialized "LineBreaker$Settings") ∈ gw := gw_t (List.mem_of_getElem? (i := 3) (by decide +kernel)) (by decide +kernel)
theorem kw_296 : (Jvm.Cond.fieldLink "LineBreaker$Search" (24 : Nat) "LineBreaker$Search" "gauge" "LLineBreaker$Gauge;") ∈ gw := gw_t (List.mem_of_getElem? (i := 296) (by decide +kernel)) (by decide +kernel)
theorem kw_298 : (Jvm.Cond.fieldLink "LineBreaker$Search" (31 : Nat) "LineBreaker$Search" "nodes" "LLineBreaker$Nodes;") ∈ gw := gw_t (List.mem_of_getElem? (i := 298) (by decide +kernel)) (by decide +kernel)
theorem kw_240 : (Jvm.Cond.fieldLink "LineBreaker$Search" (118 : Nat) "LineBreaker$Nodes" "place" "[I") ∈ gw := gw_t (List.mem_of_getElem? (i := 240) (by decide +kernel)) (by decide +kernel)
theorem kw_244 : (Jvm.Cond.fieldLink "LineBreaker$Search" (108 : Nat) "LineBreaker$Nodes" "lines" "[I") ∈ gw := gw_t (List.mem_of_getElem? (i := 244) (by decide +kernel)) (by decide +kernel)
theorem kw_745 : (Jvm.Cond.code ({ cls := "LineBreaker$Gauge", name := "measure", desc := "(III)V" } : Jvm.MethodName) prog_3_method_3_code (12 : Nat) (Option.none : Option Jvm.ClassFile.FieldType)) ∈ gw := gw_t (List.mem_of_getElem? (i := 745) (by decide +kernel)) (by decide +kernel)
theorem kw_742 : (Jvm.Cond.methodLink "LineBreaker$Search" (121 : Nat) ({ cls := "LineBreaker$Gauge", name := "measure", desc := "(III)V" } : Jvm.MethodName)) ∈ gw := gw_t (List.mem_of_getElem? (i := 742) (by decide +kernel)) (by decide +kernel)
theorem kw_743 : (Jvm.Cond.instanceMethod ({ cls := "LineBreaker$Gauge", name := "measure", desc := "(III)V" } : Jvm.MethodName)) ∈ gw := gw_t (List.mem_of_getElem? (i := 743) (by decide +kernel)) (by decide +kernel)
theorem kw_744 : (Jvm.Cond.selects "LineBreaker$Gauge" ({ cls := "LineBreaker$Gauge", name := "measure", desc := "(III)V" } : Jvm.MethodName) ({ cls := "LineBreaker$Gauge", name := "measure", desc := "(III)V" } : Jvm.MethodName)) ∈ gw := gw_t (List.mem_of_getElem? (i := 744) (by decide +kernel)) (by decide +kernel)
theorem d_St_widthOfLine_0 : decode prog_10_method_2_code 0 = .ok (.aload_n 0, 1) := by decide +kernel
theorem d_St_widthOfLine_4 : decode prog_10_method_2_code 4 = .ok (.iload_n 1, 1) := by decide +kernel
theorem d_St_widthOfLine_11 : decode prog_10_method_2_code 11 = .ok (.ireturn, 1) := by decide +kernel
theorem d_St_widthOfLine_10 : decode prog_10_method_2_code 10 = .ok (.iaload, 1) := by decide +kernel
theorem d_St_widthOfLine_7 : decode prog_10_method_2_code 7 = .ok (.invokestatic 34, 3) := by decide +kernel
theorem d_St_widthOfLine_5 : decode prog_10_method_2_code 5 = .ok (.bipush 19, 2) := by decide +kernel
theorem d_St_widthOfLine_1 : decode prog_10_method_2_code 1 = .ok (.getfield 15, 3) := by decide +kernel
theorem d_Ga_widthBehind_0 : decode prog_2_method_6_code 0 = .ok (.iload_n 1, 1) := by decide +kernel
theorem d_Ga_widthBehind_9 : decode prog_2_method_6_code 9 = .ok (.aload_n 0, 1) := by decide +kernel
theorem d_Ga_widthBehind_13 : decode prog_2_method_6_code 13 = .ok (.iload_n 1, 1) := by decide +kernel
theorem d_Ga_widthBehind_15 : decode prog_2_method_6_code 15 = .ok (.ireturn, 1) := by decide +kernel
theorem d_Ga_widthBehind_14 : decode prog_2_method_6_code 14 = .ok (.iaload, 1) := by decide +kernel
theorem d_Ga_widthBehind_10 : decode prog_2_method_6_code 10 = .ok (.getfield 28, 3) := by decide +kernel
theorem d_Ga_widthBehind_6 : decode prog_2_method_6_code 6 = .ok (.goto 9, 3) := by decide +kernel
theorem d_Ga_widthBehind_5 : decode prog_2_method_6_code 5 = .ok (.iconst 0, 1) := by decide +kernel
theorem d_Ga_widthBehind_2 : decode prog_2_method_6_code 2 = .ok (.if_icmp .ne 7, 3) := by decide +kernel
theorem d_Ga_widthBehind_1 : decode prog_2_method_6_code 1 = .ok (.iconst (-1), 1) := by decide +kernel
theorem d_Gl_finiteStretch_0 : decode prog_4_method_3_code 0 = .ok (.aload_n 0, 1) := by decide +kernel
theorem d_Gl_finiteStretch_15 : decode prog_4_method_3_code 15 = .ok (.ireturn, 1) := by decide +kernel
theorem d_Gl_finiteStretch_14 : decode prog_4_method_3_code 14 = .ok (.iconst 0, 1) := by decide +kernel
theorem d_Gl_finiteStretch_7 : decode prog_4_method_3_code 7 = .ok (.aload_n 0, 1) := by decide +kernel
theorem d_Gl_finiteStretch_11 : decode prog_4_method_3_code 11 = .ok (.goto 4, 3) := by decide +kernel
theorem d_Gl_finiteStretch_8 : decode prog_4_method_3_code 8 = .ok (.getfield 13, 3) := by decide +kernel
theorem d_Gl_finiteStretch_4 : decode prog_4_method_3_code 4 = .ok (.ifCond .ne 10, 3) := by decide +kernel
theorem d_Gl_finiteStretch_1 : decode prog_4_method_3_code 1 = .ok (.getfield 16, 3) := by decide +kernel
theorem d_Gl_endlessStretch_0 : decode prog_4_method_4_code 0 = .ok (.aload_n 0, 1) := by decide +kernel
theorem d_Gl_endlessStretch_11 : decode prog_4_method_4_code 11 = .ok (.aload_n 0, 1) := by decide +kernel
theorem d_Gl_endlessStretch_15 : decode prog_4_method_4_code 15 = .ok (.ireturn, 1) := by decide +kernel
theorem d_Gl_endlessStretch_12 : decode prog_4_method_4_code 12 = .ok (.getfield 13, 3) := by decide +kernel
theorem d_Gl_endlessStretch_8 : decode prog_4_method_4_code 8 = .ok (.goto 7, 3) := by decide +kernel
theorem d_Gl_endlessStretch_7 : decode prog_4_method_4_code 7 = .ok (.iconst 0, 1) := by decide +kernel
theorem d_Gl_endlessStretch_4 : decode prog_4_method_4_code 4 = .ok (.ifCond .ne 7, 3) := by decide +kernel
theorem d_Gl_endlessStretch_1 : decode prog_4_method_4_code 1 = .ok (.getfield 16, 3) := by decide +kernel
theorem d_Ga_firstOneFrom_0 : decode prog_2_method_5_code 0 = .ok (.iload_n 1, 1) := by decide +kernel
theorem d_Ga_firstOneFrom_9 : decode prog_2_method_5_code 9 = .ok (.aload_n 0, 1) := by decide +kernel
theorem d_Ga_firstOneFrom_13 : decode prog_2_method_5_code 13 = .ok (.iload_n 1, 1) := by decide +kernel
theorem d_Ga_firstOneFrom_15 : decode prog_2_method_5_code 15 = .ok (.ireturn, 1) := by decide +kernel
theorem d_Ga_firstOneFrom_14 : decode prog_2_method_5_code 14 = .ok (.iaload, 1) := by decide +kernel
theorem d_Ga_firstOneFrom_10 : decode prog_2_method_5_code 10 = .ok (.getfield 22, 3) := by decide +kernel
theorem d_Ga_firstOneFrom_6 : decode prog_2_method_5_code 6 = .ok (.goto 9, 3) := by decide +kernel
theorem d_Ga_firstOneFrom_5 : decode prog_2_method_5_code 5 = .ok (.iconst 0, 1) := by decide +kernel
theorem d_Ga_firstOneFrom_2 : decode prog_2_method_5_code 2 = .ok (.if_icmp .ne 7, 3) := by decide +kernel
theorem d_Ga_firstOneFrom_1 : decode prog_2_method_5_code 1 = .ok (.iconst (-1), 1) := by decide +kernel
theorem d_Gu_bad_47 : decode prog_3_method_6_code 47 = .ok (.iload_n 2, 1) := by decide +kernel
theorem d_Gu_bad_58 : decode prog_3_method_6_code 58 = .ok (.iload_n 2, 1) := by decide +kernel
theorem d_Gu_bad_59 : decode prog_3_method_6_code 59 = .ok (.iload_n 2, 1) := by decide +kernel
theorem d_Gu_bad_61 : decode prog_3_method_6_code 61 = .ok (.iload_n 2, 1) := by decide +kernel
theorem d_Gu_bad_69 : decode prog_3_method_6_code 69 = .ok (.ireturn, 1) := by decide +kernel
theorem d_Gu_bad_68 : decode prog_3_method_6_code 68 = .ok (.idiv, 1) := by decide +kernel
theorem d_Gu_bad_66 : decode prog_3_method_6_code 66 = .ok (.ldc 108, 2) := by decide +kernel
theorem d_Gu_bad_65 : decode prog_3_method_6_code 65 = .ok (.iadd, 1) := by decide +kernel
theorem d_Gu_bad_63 : decode prog_3_method_6_code 63 = .ok (.ldc 107, 2) := by decide +kernel
theorem d_Gu_bad_62 : decode prog_3_method_6_code 62 = .ok (.imul, 1) := by decide +kernel
theorem d_Gu_bad_60 : decode prog_3_method_6_code 60 = .ok (.imul, 1) := by decide +kernel
theorem d_Gu_bad_57 : decode prog_3_method_6_code 57 = .ok (.ireturn, 1) := by decide +kernel
theorem d_Gu_bad_54 : decode prog_3_method_6_code 54 = .ok (.sipush 10000, 3) := by decide +kernel
theorem d_Gu_bad_51 : decode prog_3_method_6_code 51 = .ok (.if_icmp .le 7, 3) := by decide +kernel
theorem d_Gu_bad_48 : decode prog_3_method_6_code 48 = .ok (.sipush 1290, 3) := by decide +kernel
theorem d_Gu_bad_0 : decode prog_3_method_6_code 0 = .ok (.iload_n 0, 1) := by decide +kernel
theorem d_Gu_bad_6 : decode prog_3_method_6_code 6 = .ok (.iload_n 1, 1) := by decide +kernel
theorem d_Gu_bad_14 : decode prog_3_method_6_code 14 = .ok (.iload_n 0, 1) := by decide +kernel
theorem d_Gu_bad_15 : decode prog_3_method_6_code 15 = .ok (.istore_n 2, 1) := by decide +kernel
theorem d_Gu_bad_16 : decode prog_3_method_6_code 16 = .ok (.iload_n 0, 1) := by decide +kernel
theorem d_Gu_bad_33 : decode prog_3_method_6_code 33 = .ok (.iload_n 1, 1) := by decide +kernel
theorem d_Gu_bad_39 : decode prog_3_method_6_code 39 = .ok (.iload_n 0, 1) := by decide +kernel
theorem d_Gu_bad_40 : decode prog_3_method_6_code 40 = .ok (.iload_n 1, 1) := by decide +kernel
theorem d_Gu_bad_46 : decode prog_3_method_6_code 46 = .ok (.istore_n 2, 1) := by decide +kernel
theorem d_Gu_bad_45 : decode prog_3_method_6_code 45 = .ok (.idiv, 1) := by decide +kernel
theorem d_Gu_bad_44 : decode prog_3_method_6_code 44 = .ok (.idiv, 1) := by decide +kernel
theorem d_Gu_bad_41 : decode prog_3_method_6_code 41 = .ok (.sipush 297, 3) := by decide +kernel
theorem d_Gu_bad_36 : decode prog_3_method_6_code 36 = .ok (.if_icmp .lt 11, 3) := by decide +kernel
theorem d_Gu_bad_34 : decode prog_3_method_6_code 34 = .ok (.ldc 106, 2) := by decide +kernel
theorem d_Gu_bad_25 : decode prog_3_method_6_code 25 = .ok (.iload_n 0, 1) := by decide +kernel
theorem d_Gu_bad_27 : decode prog_3_method_6_code 27 = .ok (.iload_n 1, 1) := by decide +kernel
theorem d_Gu_bad_29 : decode prog_3_method_6_code 29 = .ok (.istore_n 2, 1) := by decide +kernel
theorem d_Gu_bad_30 : decode prog_3_method_6_code 30 = .ok (.goto 17, 3) := by decide +kernel
theorem d_Gu_bad_28 : decode prog_3_method_6_code 28 = .ok (.idiv, 1) := by decide +kernel
theorem d_Gu_bad_26 : decode prog_3_method_6_code 26 = .ok (.imul, 1) := by decide +kernel
theorem d_Gu_bad_22 : decode prog_3_method_6_code 22 = .ok (.sipush 297, 3) := by decide +kernel
theorem d_Gu_bad_19 : decode prog_3_method_6_code 19 = .ok (.if_icmp .gt 14, 3) := by decide +kernel
theorem d_Gu_bad_17 : decode prog_3_method_6_code 17 = .ok (.ldc 105, 2) := by decide +kernel
theorem d_Gu_bad_13 : decode prog_3_method_6_code 13 = .ok (.ireturn, 1) := by decide +kernel
theorem d_Gu_bad_10 : decode prog_3_method_6_code 10 = .ok (.sipush 10000, 3) := by decide +kernel
theorem d_Gu_bad_7 : decode prog_3_method_6_code 7 = .ok (.ifCond .gt 7, 3) := by decide +kernel
theorem d_Gu_bad_5 : decode prog_3_method_6_code 5 = .ok (.ireturn, 1) := by decide +kernel
theorem d_Gu_bad_4 : decode prog_3_method_6_code 4 = .ok (.iconst 0, 1) := by decide +kernel
theorem d_Gu_bad_1 : decode prog_3_method_6_code 1 = .ok (.ifCond .gt 5, 3) := by decide +kernel
theorem d_Gu_judgeStretched_20 : decode prog_3_method_4_code 20 = .ok (.aload_n 0, 1) := by decide +kernel
theorem d_Gu_judgeStretched_21 : decode prog_3_method_4_code 21 = .ok (.aload_n 0, 1) := by decide +kernel
theorem d_Gu_judgeStretched_34 : decode prog_3_method_4_code 34 = .ok (.aload_n 0, 1) := by decide +kernel
theorem d_Gu_judgeStretched_51 : decode prog_3_method_4_code 51 = .ok (.return_, 1) := by decide +kernel
theorem d_Gu_judgeStretched_48 : decode prog_3_method_4_code 48 = .ok (.putfield 102, 3) := by decide +kernel
theorem d_Gu_judgeStretched_47 : decode prog_3_method_4_code 47 = .ok (.iconst 2, 1) := by decide +kernel
theorem d_Gu_judgeStretched_44 : decode prog_3_method_4_code 44 = .ok (.goto 4, 3) := by decide +kernel
theorem d_Gu_judgeStretched_43 : decode prog_3_method_4_code 43 = .ok (.iconst 1, 1) := by decide +kernel
theorem d_Gu_judgeStretched_40 : decode prog_3_method_4_code 40 = .ok (.if_icmp .le 7, 3) := by decide +kernel
theorem d_Gu_judgeStretched_38 : decode prog_3_method_4_code 38 = .ok (.bipush 12, 2) := by decide +kernel
theorem d_Gu_judgeStretched_35 : decode prog_3_method_4_code 35 = .ok (.getfield 99, 3) := by decide +kernel
theorem d_Gu_judgeStretched_31 : decode prog_3_method_4_code 31 = .ok (.goto 17, 3) := by decide +kernel
theorem d_Gu_judgeStretched_30 : decode prog_3_method_4_code 30 = .ok (.iconst 0, 1) := by decide +kernel
theorem d_Gu_judgeStretched_27 : decode prog_3_method_4_code 27 = .ok (.if_icmp .le 7, 3) := by decide +kernel
theorem d_Gu_judgeStretched_25 : decode prog_3_method_4_code 25 = .ok (.bipush 99, 2) := by decide +kernel
theorem d_Gu_judgeStretched_22 : decode prog_3_method_4_code 22 = .ok (.getfield 99, 3) := by decide +kernel
theorem d_Gu_judgeStretched_17 : decode prog_3_method_4_code 17 = .ok (.putfield 99, 3) := by decide +kernel
theorem d_Gu_judgeStretched_0 : decode prog_3_method_4_code 0 = .ok (.aload_n 0, 1) := by decide +kernel
theorem d_Gu_judgeStretched_1 : decode prog_3_method_4_code 1 = .ok (.iload_n 2, 1) := by decide +kernel
theorem d_Gu_judgeStretched_9 : decode prog_3_method_4_code 9 = .ok (.aload_n 0, 1) := by decide +kernel
theorem d_Gu_judgeStretched_13 : decode prog_3_method_4_code 13 = .ok (.iload_n 1, 1) := by decide +kernel
theorem d_Gu_judgeStretched_14 : decode prog_3_method_4_code 14 = .ok (.invokestatic 95, 3) := by decide +kernel
theorem d_Gu_judgeStretched_10 : decode prog_3_method_4_code 10 = .ok (.getfield 84, 3) := by decide +kernel
theorem d_Gu_judgeStretched_6 : decode prog_3_method_4_code 6 = .ok (.goto 11, 3) := by decide +kernel
theorem d_Gu_judgeStretched_5 : decode prog_3_method_4_code 5 = .ok (.iconst 0, 1) := by decide +kernel
theorem d_Gu_judgeStretched_2 : decode prog_3_method_4_code 2 = .ok (.ifCond .le 7, 3) := by decide +kernel
theorem d_Gu_judgeShrunk_0 : decode prog_3_method_5_code 0 = .ok (.aload_n 0, 1) := by decide +kernel
theorem d_Gu_judgeShrunk_5 : decode prog_3_method_5_code 5 = .ok (.istore_n 2, 1) := by decide +kernel
theorem d_Gu_judgeShrunk_6 : decode prog_3_method_5_code 6 = .ok (.iload_n 1, 1) := by decide +kernel
theorem d_Gu_judgeShrunk_7 : decode prog_3_method_5_code 7 = .ok (.iload_n 2, 1) := by decide +kernel
theorem d_Gu_judgeShrunk_24 : decode prog_3_method_5_code 24 = .ok (.aload_n 0, 1) := by decide +kernel
theorem d_Gu_judgeShrunk_25 : decode prog_3_method_5_code 25 = .ok (.iload_n 2, 1) := by decide +kernel
theorem d_Gu_judgeShrunk_26 : decode prog_3_method_5_code 26 = .ok (.iload_n 1, 1) := by decide +kernel
theorem d_Gu_judgeShrunk_33 : decode prog_3_method_5_code 33 = .ok (.aload_n 0, 1) := by decide +kernel
theorem d_Gu_judgeShrunk_34 : decode prog_3_method_5_code 34 = .ok (.aload_n 0, 1) := by decide +kernel
theorem d_Gu_judgeShrunk_51 : decode prog_3_method_5_code 51 = .ok (.return_, 1) := by decide +kernel
theorem d_Gu_judgeShrunk_48 : decode prog_3_method_5_code 48 = .ok (.putfield 102, 3) := by decide +kernel
theorem d_Gu_judgeShrunk_47 : decode prog_3_method_5_code 47 = .ok (.iconst 2, 1) := by decide +kernel
theorem d_Gu_judgeShrunk_44 : decode prog_3_method_5_code 44 = .ok (.goto 4, 3) := by decide +kernel
theorem d_Gu_judgeShrunk_43 : decode prog_3_method_5_code 43 = .ok (.iconst 3, 1) := by decide +kernel
theorem d_Gu_judgeShrunk_40 : decode prog_3_method_5_code 40 = .ok (.if_icmp .le 7, 3) := by decide +kernel
theorem d_Gu_judgeShrunk_38 : decode prog_3_method_5_code 38 = .ok (.bipush 12, 2) := by decide +kernel
theorem d_Gu_judgeShrunk_35 : decode prog_3_method_5_code 35 = .ok (.getfield 99, 3) := by decide +kernel
theorem d_Gu_judgeShrunk_30 : decode prog_3_method_5_code 30 = .ok (.putfield 99, 3) := by decide +kernel
theorem d_Gu_judgeShrunk_27 : decode prog_3_method_5_code 27 = .ok (.invokestatic 95, 3) := by decide +kernel
theorem d_Gu_judgeShrunk_11 : decode prog_3_method_5_code 11 = .ok (.aload_n 0, 1) := by decide +kernel
theorem d_Gu_judgeShrunk_18 : decode prog_3_method_5_code 18 = .ok (.aload_n 0, 1) := by decide +kernel
theorem d_Gu_judgeShrunk_23 : decode prog_3_method_5_code 23 = .ok (.return_, 1) := by decide +kernel
theorem d_Gu_judgeShrunk_20 : decode prog_3_method_5_code 20 = .ok (.putfield 102, 3) := by decide +kernel
theorem d_Gu_judgeShrunk_19 : decode prog_3_method_5_code 19 = .ok (.iconst 3, 1) := by decide +kernel
theorem d_Gu_judgeShrunk_15 : decode prog_3_method_5_code 15 = .ok (.putfield 99, 3) := by decide +kernel
theorem d_Gu_judgeShrunk_12 : decode prog_3_method_5_code 12 = .ok (.sipush 10001, 3) := by decide +kernel
theorem d_Gu_judgeShrunk_8 : decode prog_3_method_5_code 8 = .ok (.if_icmp .ge 16, 3) := by decide +kernel
theorem d_Gu_judgeShrunk_4 : decode prog_3_method_5_code 4 = .ok (.ineg, 1) := by decide +kernel
theorem d_Gu_judgeShrunk_1 : decode prog_3_method_5_code 1 = .ok (.getfield 84, 3) := by decide +kernel
theorem d_Gu_measure_262 : decode prog_3_method_3_code 262 = .ok (.aload_n 0, 1) := by decide +kernel
theorem d_Gu_measure_263 : decode prog_3_method_3_code 263 = .ok (.iload 4, 2) := by decide +kernel
theorem d_Gu_measure_265 : decode prog_3_method_3_code 265 = .ok (.iload 7, 2) := by decide +kernel
theorem d_Gu_measure_271 : decode prog_3_method_3_code 271 = .ok (.aload_n 0, 1) := by decide +kernel
theorem d_Gu_measure_289 : decode prog_3_method_3_code 289 = .ok (.aload_n 0, 1) := by decide +kernel
theorem d_Gu_measure_290 : decode prog_3_method_3_code 290 = .ok (.iload 10, 2) := by decide +kernel
theorem d_Gu_measure_295 : decode prog_3_method_3_code 295 = .ok (.return_, 1) := by decide +kernel
theorem d_Gu_measure_292 : decode prog_3_method_3_code 292 = .ok (.invokevirtual 91, 3) := by decide +kernel
theorem d_Gu_measure_278 : decode prog_3_method_3_code 278 = .ok (.aload_n 0, 1) := by decide +kernel
theorem d_Gu_measure_279 : decode prog_3_method_3_code 279 = .ok (.iload 8, 2) := by decide +kernel
theorem d_Gu_measure_281 : decode prog_3_method_3_code 281 = .ok (.iload 9, 2) := by decide +kernel
theorem d_Gu_measure_286 : decode prog_3_method_3_code 286 = .ok (.goto 9, 3) := by decide +kernel
theorem d_Gu_measure_283 : decode prog_3_method_3_code 283 = .ok (.invokevirtual 87, 3) := by decide +kernel
theorem d_Gu_measure_275 : decode prog_3_method_3_code 275 = .ok (.ifCond .le 14, 3) := by decide +kernel
theorem d_Gu_measure_272 : decode prog_3_method_3_code 272 = .ok (.getfield 84, 3) := by decide +kernel
theorem d_Gu_measure_268 : decode prog_3_method_3_code 268 = .ok (.putfield 84, 3) := by decide +kernel
theorem d_Gu_measure_267 : decode prog_3_method_3_code 267 = .ok (.isub, 1) := by decide +kernel
theorem d_Gu_measure_36 : decode prog_3_method_3_code 36 = .ok (.aload_n 0, 1) := by decide +kernel
theorem d_Gu_measure_37 : decode prog_3_method_3_code 37 = .ok (.iload_n 2, 1) := by decide +kernel
theorem d_Gu_measure_41 : decode prog_3_method_3_code 41 = .ok (.aload_n 0, 1) := by decide +kernel
theorem d_Gu_measure_42 : decode prog_3_method_3_code 42 = .ok (.iload_n 1, 1) := by decide +kernel
theorem d_Gu_measure_46 : decode prog_3_method_3_code 46 = .ok (.aload_n 0, 1) := by decide +kernel
theorem d_Gu_measure_47 : decode prog_3_method_3_code 47 = .ok (.iload 4, 2) := by decide +kernel
theorem d_Gu_measure_52 : decode prog_3_method_3_code 52 = .ok (.aload_n 0, 1) := by decide +kernel
theorem d_Gu_measure_59 : decode prog_3_method_3_code 59 = .ok (.astore 5, 2) := by decide +kernel
theorem d_Gu_measure_61 : decode prog_3_method_3_code 61 = .ok (.aload_n 0, 1) := by decide +kernel
theorem d_Gu_measure_68 : decode prog_3_method_3_code 68 = .ok (.astore 6, 2) := by decide +kernel
theorem d_Gu_measure_70 : decode prog_3_method_3_code 70 = .ok (.aload 5, 2) := by decide +kernel
theorem d_Gu_measure_75 : decode prog_3_method_3_code 75 = .ok (.aload 6, 2) := by decide +kernel
theorem d_Gu_measure_81 : decode prog_3_method_3_code 81 = .ok (.aload_n 0, 1) := by decide +kernel
theorem d_Gu_measure_85 : decode prog_3_method_3_code 85 = .ok (.iload_n 1, 1) := by decide +kernel
theorem d_Gu_measure_90 : decode prog_3_method_3_code 90 = .ok (.aload_n 0, 1) := by decide +kernel
theorem d_Gu_measure_97 : decode prog_3_method_3_code 97 = .ok (.iload_n 2, 1) := by decide +kernel
theorem d_Gu_measure_100 : decode prog_3_method_3_code 100 = .ok (.istore 7, 2) := by decide +kernel
theorem d_Gu_measure_102 : decode prog_3_method_3_code 102 = .ok (.aload 5, 2) := by decide +kernel
theorem d_Gu_measure_107 : decode prog_3_method_3_code 107 = .ok (.aload 6, 2) := by decide +kernel
theorem d_Gu_measure_113 : decode prog_3_method_3_code 113 = .ok (.aload_n 0, 1) := by decide +kernel
theorem d_Gu_measure_118 : decode prog_3_method_3_code 118 = .ok (.istore 8, 2) := by decide +kernel
theorem d_Gu_measure_120 : decode prog_3_method_3_code 120 = .ok (.aload 5, 2) := by decide +kernel
theorem d_Gu_measure_125 : decode prog_3_method_3_code 125 = .ok (.aload 6, 2) := by decide +kernel
theorem d_Gu_measure_131 : decode prog_3_method_3_code 131 = .ok (.istore 9, 2) := by decide +kernel
theorem d_Gu_measure_133 : decode prog_3_method_3_code 133 = .ok (.aload 5, 2) := by decide +kernel
theorem d_Gu_measure_138 : decode prog_3_method_3_code 138 = .ok (.aload 6, 2) := by decide +kernel
theorem d_Gu_measure_144 : decode prog_3_method_3_code 144 = .ok (.istore 10, 2) := by decide +kernel
theorem d_Gu_measure_146 : decode prog_3_method_3_code 146 = .ok (.aload_n 0, 1) := by decide +kernel
theorem d_Gu_measure_150 : decode prog_3_method_3_code 150 = .ok (.iload_n 1, 1) := by decide +kernel
theorem d_Gu_measure_154 : decode prog_3_method_3_code 154 = .ok (.istore 11, 2) := by decide +kernel
theorem d_Gu_measure_156 : decode prog_3_method_3_code 156 = .ok (.iload 11, 2) := by decide +kernel
theorem d_Gu_measure_158 : decode prog_3_method_3_code 158 = .ok (.iload_n 2, 1) := by decide +kernel
theorem d_Gu_measure_162 : decode prog_3_method_3_code 162 = .ok (.iload 7, 2) := by decide +kernel
theorem d_Gu_measure_164 : decode prog_3_method_3_code 164 = .ok (.aload_n 0, 1) := by decide +kernel
theorem d_Gu_measure_171 : decode prog_3_method_3_code 171 = .ok (.iload_n 2, 1) := by decide +kernel
theorem d_Gu_measure_173 : decode prog_3_method_3_code 173 = .ok (.aload_n 0, 1) := by decide +kernel
theorem d_Gu_measure_180 : decode prog_3_method_3_code 180 = .ok (.iload 11, 2) := by decide +kernel
theorem d_Gu_measure_185 : decode prog_3_method_3_code 185 = .ok (.istore 7, 2) := by decide +kernel
theorem d_Gu_measure_187 : decode prog_3_method_3_code 187 = .ok (.iload 8, 2) := by decide +kernel
theorem d_Gu_measure_189 : decode prog_3_method_3_code 189 = .ok (.aload_n 0, 1) := by decide +kernel
theorem d_Gu_measure_196 : decode prog_3_method_3_code 196 = .ok (.iload_n 2, 1) := by decide +kernel
theorem d_Gu_measure_198 : decode prog_3_method_3_code 198 = .ok (.aload_n 0, 1) := by decide +kernel
theorem d_Gu_measure_205 : decode prog_3_method_3_code 205 = .ok (.iload 11, 2) := by decide +kernel
theorem d_Gu_measure_210 : decode prog_3_method_3_code 210 = .ok (.istore 8, 2) := by decide +kernel
theorem d_Gu_measure_212 : decode prog_3_method_3_code 212 = .ok (.iload 9, 2) := by decide +kernel
theorem d_Gu_measure_214 : decode prog_3_method_3_code 214 = .ok (.aload_n 0, 1) := by decide +kernel
theorem d_Gu_measure_221 : decode prog_3_method_3_code 221 = .ok (.iload_n 2, 1) := by decide +kernel
theorem d_Gu_measure_223 : decode prog_3_method_3_code 223 = .ok (.aload_n 0, 1) := by decide +kernel
theorem d_Gu_measure_230 : decode prog_3_method_3_code 230 = .ok (.iload 11, 2) := by decide +kernel
theorem d_Gu_measure_235 : decode prog_3_method_3_code 235 = .ok (.istore 9, 2) := by decide +kernel
theorem d_Gu_measure_237 : decode prog_3_method_3_code 237 = .ok (.iload 10, 2) := by decide +kernel
theorem d_Gu_measure_239 : decode prog_3_method_3_code 239 = .ok (.aload_n 0, 1) := by decide +kernel
theorem d_Gu_measure_246 : decode prog_3_method_3_code 246 = .ok (.iload_n 2, 1) := by decide +kernel
theorem d_Gu_measure_248 : decode prog_3_method_3_code 248 = .ok (.aload_n 0, 1) := by decide +kernel
theorem d_Gu_measure_255 : decode prog_3_method_3_code 255 = .ok (.iload 11, 2) := by decide +kernel
theorem d_Gu_measure_260 : decode prog_3_method_3_code 260 = .ok (.istore 10, 2) := by decide +kernel
theorem d_Gu_measure_259 : decode prog_3_method_3_code 259 = .ok (.iadd, 1) := by decide +kernel
theorem d_Gu_measure_258 : decode prog_3_method_3_code 258 = .ok (.isub, 1) := by decide +kernel
theorem d_Gu_measure_257 : decode prog_3_method_3_code 257 = .ok (.iaload, 1) := by decide +kernel
theorem d_Gu_measure_252 : decode prog_3_method_3_code 252 = .ok (.getfield 81, 3) := by decide +kernel
theorem d_Gu_measure_249 : decode prog_3_method_3_code 249 = .ok (.getfield 9, 3) := by decide +kernel
theorem d_Gu_measure_247 : decode prog_3_method_3_code 247 = .ok (.iaload, 1) := by decide +kernel
theorem d_Gu_measure_243 : decode prog_3_method_3_code 243 = .ok (.getfield 81, 3) := by decide +kernel
theorem d_Gu_measure_240 : decode prog_3_method_3_code 240 = .ok (.getfield 9, 3) := by decide +kernel
theorem d_Gu_measure_234 : decode prog_3_method_3_code 234 = .ok (.iadd, 1) := by decide +kernel
theorem d_Gu_measure_233 : decode prog_3_method_3_code 233 = .ok (.isub, 1) := by decide +kernel
theorem d_Gu_measure_232 : decode prog_3_method_3_code 232 = .ok (.iaload, 1) := by decide +kernel
theorem d_Gu_measure_227 : decode prog_3_method_3_code 227 = .ok (.getfield 78, 3) := by decide +kernel
theorem d_Gu_measure_224 : decode prog_3_method_3_code 224 = .ok (.getfield 9, 3) := by decide +kernel
theorem d_Gu_measure_222 : decode prog_3_method_3_code 222 = .ok (.iaload, 1) := by decide +kernel
theorem d_Gu_measure_218 : decode prog_3_method_3_code 218 = .ok (.getfield 78, 3) := by decide +kernel
theorem d_Gu_measure_215 : decode prog_3_method_3_code 215 = .ok (.getfield 9, 3) := by decide +kernel
theorem d_Gu_measure_209 : decode prog_3_method_3_code 209 = .ok (.iadd, 1) := by decide +kernel
theorem d_Gu_measure_208 : decode prog_3_method_3_code 208 = .ok (.isub, 1) := by decide +kernel
theorem d_Gu_measure_207 : decode prog_3_method_3_code 207 = .ok (.iaload, 1) := by decide +kernel
theorem d_Gu_measure_202 : decode prog_3_method_3_code 202 = .ok (.getfield 75, 3) := by decide +kernel
theorem d_Gu_measure_199 : decode prog_3_method_3_code 199 = .ok (.getfield 9, 3) := by decide +kernel
theorem d_Gu_measure_197 : decode prog_3_method_3_code 197 = .ok (.iaload, 1) := by decide +kernel
theorem d_Gu_measure_193 : decode prog_3_method_3_code 193 = .ok (.getfield 75, 3) := by decide +kernel
theorem d_Gu_measure_190 : decode prog_3_method_3_code 190 = .ok (.getfield 9, 3) := by decide +kernel
theorem d_Gu_measure_184 : decode prog_3_method_3_code 184 = .ok (.iadd, 1) := by decide +kernel
theorem d_Gu_measure_183 : decode prog_3_method_3_code 183 = .ok (.isub, 1) := by decide +kernel
theorem d_Gu_measure_182 : decode prog_3_method_3_code 182 = .ok (.iaload, 1) := by decide +kernel
theorem d_Gu_measure_177 : decode prog_3_method_3_code 177 = .ok (.getfield 72, 3) := by decide +kernel
theorem d_Gu_measure_174 : decode prog_3_method_3_code 174 = .ok (.getfield 9, 3) := by decide +kernel
theorem d_Gu_measure_172 : decode prog_3_method_3_code 172 = .ok (.iaload, 1) := by decide +kernel
theorem d_Gu_measure_168 : decode prog_3_method_3_code 168 = .ok (.getfield 72, 3) := by decide +kernel
theorem d_Gu_measure_165 : decode prog_3_method_3_code 165 = .ok (.getfield 9, 3) := by decide +kernel
theorem d_Gu_measure_159 : decode prog_3_method_3_code 159 = .ok (.if_icmp .ge 103, 3) := by decide +kernel
theorem d_Gu_measure_151 : decode prog_3_method_3_code 151 = .ok (.invokevirtual 69, 3) := by decide +kernel
theorem d_Gu_measure_147 : decode prog_3_method_3_code 147 = .ok (.getfield 9, 3) := by decide +kernel
theorem d_Gu_measure_143 : decode prog_3_method_3_code 143 = .ok (.iadd, 1) := by decide +kernel
theorem d_Gu_measure_140 : decode prog_3_method_3_code 140 = .ok (.getfield 66, 3) := by decide +kernel
theorem d_Gu_measure_135 : decode prog_3_method_3_code 135 = .ok (.getfield 66, 3) := by decide +kernel
theorem d_Gu_measure_130 : decode prog_3_method_3_code 130 = .ok (.iadd, 1) := by decide +kernel
theorem d_Gu_measure_127 : decode prog_3_method_3_code 127 = .ok (.invokevirtual 63, 3) := by decide +kernel
theorem d_Gu_measure_122 : decode prog_3_method_3_code 122 = .ok (.invokevirtual 63, 3) := by decide +kernel
theorem d_Gu_measure_117 : decode prog_3_method_3_code 117 = .ok (.iadd, 1) := by decide +kernel
theorem d_Gu_measure_114 : decode prog_3_method_3_code 114 = .ok (.getfield 19, 3) := by decide +kernel
theorem d_Gu_measure_112 : decode prog_3_method_3_code 112 = .ok (.iadd, 1) := by decide +kernel
theorem d_Gu_measure_109 : decode prog_3_method_3_code 109 = .ok (.invokevirtual 59, 3) := by decide +kernel
theorem d_Gu_measure_104 : decode prog_3_method_3_code 104 = .ok (.invokevirtual 59, 3) := by decide +kernel
theorem d_Gu_measure_99 : decode prog_3_method_3_code 99 = .ok (.iadd, 1) := by decide +kernel
theorem d_Gu_measure_98 : decode prog_3_method_3_code 98 = .ok (.iaload, 1) := by decide +kernel
theorem d_Gu_measure_94 : decode prog_3_method_3_code 94 = .ok (.getfield 55, 3) := by decide +kernel
theorem d_Gu_measure_91 : decode prog_3_method_3_code 91 = .ok (.getfield 9, 3) := by decide +kernel
theorem d_Gu_measure_89 : decode prog_3_method_3_code 89 = .ok (.iadd, 1) := by decide +kernel
theorem d_Gu_measure_86 : decode prog_3_method_3_code 86 = .ok (.invokevirtual 50, 3) := by decide +kernel
theorem d_Gu_measure_82 : decode prog_3_method_3_code 82 = .ok (.getfield 9, 3) := by decide +kernel
theorem d_Gu_measure_80 : decode prog_3_method_3_code 80 = .ok (.iadd, 1) := by decide +kernel
theorem d_Gu_measure_77 : decode prog_3_method_3_code 77 = .ok (.getfield 45, 3) := by decide +kernel
theorem d_Gu_measure_72 : decode prog_3_method_3_code 72 = .ok (.getfield 45, 3) := by decide +kernel
theorem d_Gu_measure_65 : decode prog_3_method_3_code 65 = .ok (.getfield 42, 3) := by decide +kernel
theorem d_Gu_measure_62 : decode prog_3_method_3_code 62 = .ok (.getfield 15, 3) := by decide +kernel
theorem d_Gu_measure_56 : decode prog_3_method_3_code 56 = .ok (.getfield 38, 3) := by decide +kernel
theorem d_Gu_measure_53 : decode prog_3_method_3_code 53 = .ok (.getfield 15, 3) := by decide +kernel
theorem d_Gu_measure_49 : decode prog_3_method_3_code 49 = .ok (.putfield 35, 3) := by decide +kernel
theorem d_Gu_measure_43 : decode prog_3_method_3_code 43 = .ok (.putfield 32, 3) := by decide +kernel
theorem d_Gu_measure_38 : decode prog_3_method_3_code 38 = .ok (.putfield 23, 3) := by decide +kernel
theorem d_Gu_measure_0 : decode prog_3_method_3_code 0 = .ok (.aload_n 0, 1) := by decide +kernel
theorem d_Gu_measure_4 : decode prog_3_method_3_code 4 = .ok (.iload_n 3, 1) := by decide +kernel
theorem d_Gu_measure_8 : decode prog_3_method_3_code 8 = .ok (.istore 4, 2) := by decide +kernel
theorem d_Gu_measure_10 : decode prog_3_method_3_code 10 = .ok (.iload_n 2, 1) := by decide +kernel
theorem d_Gu_measure_11 : decode prog_3_method_3_code 11 = .ok (.aload_n 0, 1) := by decide +kernel
theorem d_Gu_measure_18 : decode prog_3_method_3_code 18 = .ok (.iload_n 1, 1) := by decide +kernel
theorem d_Gu_measure_19 : decode prog_3_method_3_code 19 = .ok (.aload_n 0, 1) := by decide +kernel
theorem d_Gu_measure_26 : decode prog_3_method_3_code 26 = .ok (.iload 4, 2) := by decide +kernel
theorem d_Gu_measure_28 : decode prog_3_method_3_code 28 = .ok (.aload_n 0, 1) := by decide +kernel
theorem d_Gu_measure_35 : decode prog_3_method_3_code 35 = .ok (.return_, 1) := by decide +kernel
theorem d_Gu_measure_32 : decode prog_3_method_3_code 32 = .ok (.if_icmp .ne 4, 3) := by decide +kernel
theorem d_Gu_measure_29 : decode prog_3_method_3_code 29 = .ok (.getfield 35, 3) := by decide +kernel
theorem d_Gu_measure_23 : decode prog_3_method_3_code 23 = .ok (.if_icmp .ne 13, 3) := by decide +kernel
theorem d_Gu_measure_20 : decode prog_3_method_3_code 20 = .ok (.getfield 32, 3) := by decide +kernel
theorem d_Gu_measure_15 : decode prog_3_method_3_code 15 = .ok (.if_icmp .ne 21, 3) := by decide +kernel
theorem d_Gu_measure_12 : decode prog_3_method_3_code 12 = .ok (.getfield 23, 3) := by decide +kernel
theorem d_Gu_measure_5 : decode prog_3_method_3_code 5 = .ok (.invokevirtual 26, 3) := by decide +kernel
theorem d_Gu_measure_1 : decode prog_3_method_3_code 1 = .ok (.getfield 15, 3) := by decide +kernel
theorem d_Se_measureFrom_0 : decode prog_9_method_4_code 0 = .ok (.aload_n 0, 1) := by decide +kernel
theorem d_Se_measureFrom_4 : decode prog_9_method_4_code 4 = .ok (.aload_n 0, 1) := by decide +kernel
theorem d_Se_measureFrom_11 : decode prog_9_method_4_code 11 = .ok (.iload_n 1, 1) := by decide +kernel
theorem d_Se_measureFrom_13 : decode prog_9_method_4_code 13 = .ok (.iload_n 2, 1) := by decide +kernel
theorem d_Se_measureFrom_14 : decode prog_9_method_4_code 14 = .ok (.aload_n 0, 1) := by decide +kernel
theorem d_Se_measureFrom_21 : decode prog_9_method_4_code 21 = .ok (.iload_n 1, 1) := by decide +kernel
theorem d_Se_measureFrom_26 : decode prog_9_method_4_code 26 = .ok (.return_, 1) := by decide +kernel
theorem d_Se_measureFrom_23 : decode prog_9_method_4_code 23 = .ok (.invokevirtual 121, 3) := by decide +kernel
theorem d_Se_measureFrom_22 : decode prog_9_method_4_code 22 = .ok (.iaload, 1) := by decide +kernel
theorem d_Se_measureFrom_18 : decode prog_9_method_4_code 18 = .ok (.getfield 108, 3) := by decide +kernel
theorem d_Se_measureFrom_15 : decode prog_9_method_4_code 15 = .ok (.getfield 31, 3) := by decide +kernel
theorem d_Se_measureFrom_12 : decode prog_9_method_4_code 12 = .ok (.iaload, 1) := by decide +kernel
theorem d_Se_measureFrom_8 : decode prog_9_method_4_code 8 = .ok (.getfield 118, 3) := by decide +kernel
theorem d_Se_measureFrom_5 : decode prog_9_method_4_code 5 = .ok (.getfield 31, 3) := by decide +kernel
theorem d_Se_measureFrom_1 : decode prog_9_method_4_code 1 = .ok (.getfield 24, 3) := by decide +kernel
abbrev y_St_widthOfLine : MethodName := ⟨"LineBreaker$Settings", "widthOfLine", "(I)I"⟩
abbrev rm_St_widthOfLine : Room := { frames := 1, cells := 0, slots := 0, locals := 29 }
set_option maxRecDepth 100000 in
def wp_St_widthOfLine (S : ST) (p1 : Int32) (post : Int32 → Prop) : Prop := (∀ v1 : Int32, v1 = (if 19 < p1 then 19 else p1) → (vp_in v1 20 ∧ post ((S.1 13) v1.toNatClampNeg)))
abbrev y_Ga_widthBehind : MethodName := ⟨"LineBreaker$Galley", "widthBehind", "(I)I"⟩
abbrev rm_Ga_widthBehind : Room := { frames := 0, cells := 0, slots := 0, locals := 0 }
set_option maxRecDepth 100000 in
def wp_Ga_widthBehind (S : ST) (p1 : Int32) (post : Int32 → Prop) : Prop := ((¬ p1 = (-1) → (vp_in p1 403 ∧ post ((S.1 23) p1.toNatClampNeg))) ∧ (p1 = (-1) → post 0))
abbrev y_Gl_finiteStretch : MethodName := ⟨"LineBreaker$Glue", "finiteStretch", "()I"⟩
abbrev rm_Gl_finiteStretch : Room := { frames := 0, cells := 0, slots := 0, locals := 0 }
set_option maxRecDepth 100000 in
def wp_Gl_finiteStretch (S : ST) (post : Int32 → Prop) : Prop := ((¬ (S.2.2 898) = 0 → post 0) ∧ ((S.2.2 898) = 0 → post (S.2.2 897)))
abbrev rm_Gl_finiteStretch_15 : Room := { frames := 0, cells := 0, slots := 0, locals := 0 }
set_option maxRecDepth 100000 in
def wp_Gl_finiteStretch_15 (S : ST) (post : Int32 → Prop) : Prop := ((¬ (S.2.2 962) = 0 → post 0) ∧ ((S.2.2 962) = 0 → post (S.2.2 961)))
abbrev y_Gl_endlessStretch : MethodName := ⟨"LineBreaker$Glue", "endlessStretch", "()I"⟩
abbrev rm_Gl_endlessStretch : Room := { frames := 0, cells := 0, slots := 0, locals := 0 }
set_option maxRecDepth 100000 in
def wp_Gl_endlessStretch (S : ST) (post : Int32 → Prop) : Prop := ((¬ (S.2.2 898) = 0 → post (S.2.2 897)) ∧ ((S.2.2 898) = 0 → post 0))
abbrev rm_Gl_endlessStretch_15 : Room := { frames := 0, cells := 0, slots := 0, locals := 0 }
set_option maxRecDepth 100000 in
def wp_Gl_endlessStretch_15 (S : ST) (post : Int32 → Prop) : Prop := ((¬ (S.2.2 962) = 0 → post (S.2.2 961)) ∧ ((S.2.2 962) = 0 → post 0))
abbrev y_Ga_firstOneFrom : MethodName := ⟨"LineBreaker$Galley", "firstOneFrom", "(I)I"⟩
abbrev rm_Ga_firstOneFrom : Room := { frames := 0, cells := 0, slots := 0, locals := 0 }
set_option maxRecDepth 100000 in
def wp_Ga_firstOneFrom (S : ST) (p1 : Int32) (post : Int32 → Prop) : Prop := ((¬ p1 = (-1) → (vp_in p1 403 ∧ post ((S.1 21) p1.toNatClampNeg))) ∧ (p1 = (-1) → post 0))
abbrev y_Gu_bad : MethodName := ⟨"LineBreaker$Gauge", "bad", "(II)I"⟩
abbrev rm_Gu_bad : Room := { frames := 0, cells := 0, slots := 0, locals := 0 }
set_option maxRecDepth 100000 in
def wl_Gu_bad_47 (S : ST) (post : Int32 → Prop) (x2 : Int32) : Prop := ((x2 ≤ 1290 → (¬ (262144 : Int32) = 0 ∧ post ((((x2 * x2) * x2) + 131072) / 262144))) ∧ (¬ x2 ≤ 1290 → post 10000))
set_option maxRecDepth 100000 in
def wp_Gu_bad (S : ST) (p1 : Int32) (p2 : Int32) (post : Int32 → Prop) : Prop := ((0 < p1 → ((0 < p2 → ((7230584 < p1 → ((p2 < 1663497 → wl_Gu_bad_47 S post  p1) ∧ (¬ p2 < 1663497 → (¬ (297 : Int32) = 0 ∧ (¬ ((p2 / 297) : Int32) = 0 ∧ (∀ v1 : Int32, v1 = (p1 / (p2 / 297)) → wl_Gu_bad_47 S post  v1)))))) ∧ (¬ 7230584 < p1 → (¬ (p2 : Int32) = 0 ∧ (∀ v2 : Int32, v2 = ((297 * p1) / p2) → wl_Gu_bad_47 S post  v2))))) ∧ (¬ 0 < p2 → post 10000))) ∧ (¬ 0 < p1 → post 0))
abbrev y_Gu_judgeStretched : MethodName := ⟨"LineBreaker$Gauge", "judgeStretched", "(II)V"⟩
abbrev rm_Gu_judgeStretched : Room := { frames := 1, cells := 0, slots := 0, locals := 22 }
set_option maxRecDepth 100000 in
def wl_Gu_judgeStretched_17 (S : ST) (post : Int32 → Int32 → Prop) (z1 : Int32) : Prop := ((z1 ≤ 99 → ((z1 ≤ 12 → post z1 2) ∧ (¬ z1 ≤ 12 → post z1 1))) ∧ (¬ z1 ≤ 99 → post z1 0))
set_option maxRecDepth 100000 in
def wp_Gu_judgeStretched (S : ST) (p1 : Int32) (p2 : Int32) (post : Int32 → Int32 → Prop) : Prop := ((p2 ≤ 0 → wp_Gu_bad S (S.2.2 1923) p1 (fun r1 => wl_Gu_judgeStretched_17 S post  r1)) ∧ (¬ p2 ≤ 0 → wl_Gu_judgeStretched_17 S post  0))
abbrev y_Gu_judgeShrunk : MethodName := ⟨"LineBreaker$Gauge", "judgeShrunk", "(I)V"⟩
abbrev rm_Gu_judgeShrunk : Room := { frames := 1, cells := 0, slots := 0, locals := 22 }
set_option maxRecDepth 100000 in
def wp_Gu_judgeShrunk (S : ST) (p1 : Int32) (post : Int32 → Int32 → Prop) : Prop := (∀ v1 : Int32, v1 = (-(S.2.2 1923)) → ((v1 ≤ p1 → wp_Gu_bad S v1 p1 (fun r2 => ((r2 ≤ 12 → post r2 2) ∧ (¬ r2 ≤ 12 → post r2 3)))) ∧ (¬ v1 ≤ p1 → post 10001 3)))
abbrev y_Gu_measure : MethodName := ⟨"LineBreaker$Gauge", "measure", "(III)V"⟩
abbrev rm_Gu_measure : Room := { frames := 2, cells := 0, slots := 0, locals := 50 }
set_option maxRecDepth 100000 in
def wl_Gu_measure_262 (S : ST) (post : Int32 → Int32 → Int32 → Int32 → Int32 → Int32 → Prop) (i1926 : Int32) (i1927 : Int32) (i1928 : Int32) (x4 : Int32) (x7 : Int32) (x8 : Int32) (x9 : Int32) (x10 : Int32) : Prop := (∀ v1 : Int32, v1 = (x4 - x7) → ((v1 ≤ 0 → wp_Gu_judgeShrunk (sI (sI (sI (sI S 1923 v1) 1926 i1926) 1927 i1927) 1928 i1928) x10 (fun v2 v3 => post v1 v2 v3 i1926 i1927 i1928)) ∧ (¬ v1 ≤ 0 → wp_Gu_judgeStretched (sI (sI (sI (sI S 1923 v1) 1926 i1926) 1927 i1927) 1928 i1928) x8 x9 (fun v4 v5 => post v1 v4 v5 i1926 i1927 i1928))))
set_option maxRecDepth 100000 in
def wl_Gu_measure_36 (S : ST) (post : Int32 → Int32 → Int32 → Int32 → Int32 → Int32 → Prop) (x1 : Int32) (x2 : Int32) (x4 : Int32) : Prop := wp_Ga_widthBehind (sI (sI (sI S 1926 x1) 1927 x2) 1928 x4) x1 (fun r1 => (vp_in x2 403 ∧ (∀ v2 : Int32, v2 = ((((S.2.2 896) + (S.2.2 960)) + r1) + ((S.1 22) x2.toNatClampNeg)) → wp_Gl_finiteStretch (sI (sI (sI S 1926 x1) 1927 x2) 1928 x4)  (fun r3 => wp_Gl_finiteStretch_15 (sI (sI (sI S 1926 x1) 1927 x2) 1928 x4)  (fun r4 => (∀ v5 : Int32, v5 = ((r3 + r4) + (S.2.2 1922)) → wp_Gl_endlessStretch (sI (sI (sI S 1926 x1) 1927 x2) 1928 x4)  (fun r6 => wp_Gl_endlessStretch_15 (sI (sI (sI S 1926 x1) 1927 x2) 1928 x4)  (fun r7 => (∀ v8 : Int32, v8 = (r6 + r7) → (∀ v9 : Int32, v9 = ((S.2.2 899) + (S.2.2 963)) → wp_Ga_firstOneFrom (sI (sI (sI S 1926 x1) 1927 x2) 1928 x4) x1 (fun r10 => ((x2 ≤ r10 → wl_Gu_measure_262 S post  x1 x2 x4 x4 v2 v5 v8 v9) ∧ (¬ x2 ≤ r10 → (vp_in x2 403 ∧ (vp_in r10 403 ∧ (∀ v11 : Int32, v11 = (v2 + (((S.1 24) x2.toNatClampNeg) - ((S.1 24) r10.toNatClampNeg))) → (vp_in x2 403 ∧ (vp_in r10 403 ∧ (∀ v12 : Int32, v12 = (v5 + (((S.1 25) x2.toNatClampNeg) - ((S.1 25) r10.toNatClampNeg))) → (vp_in x2 403 ∧ (vp_in r10 403 ∧ (∀ v13 : Int32, v13 = (v8 + (((S.1 26) x2.toNatClampNeg) - ((S.1 26) r10.toNatClampNeg))) → (vp_in x2 403 ∧ (vp_in r10 403 ∧ (∀ v14 : Int32, v14 = (v9 + (((S.1 27) x2.toNatClampNeg) - ((S.1 27) r10.toNatClampNeg))) → wl_Gu_measure_262 S post  x1 x2 x4 x4 v11 v12 v13 v14)))))))))))))))))))))))))
set_option maxRecDepth 100000 in
def wp_Gu_measure (S : ST) (p1 : Int32) (p2 : Int32) (p3 : Int32) (post : Int32 → Int32 → Int32 → Int32 → Int32 → Int32 → Prop) : Prop := wp_St_widthOfLine S p3 (fun r1 => ((¬ p2 = (S.2.2 1927) → wl_Gu_measure_36 S post  p1 p2 r1) ∧ (p2 = (S.2.2 1927) → ((¬ p1 = (S.2.2 1926) → wl_Gu_measure_36 S post  p1 p2 r1) ∧ (p1 = (S.2.2 1926) → ((¬ r1 = (S.2.2 1928) → wl_Gu_measure_36 S post  p1 p2 r1) ∧ (r1 = (S.2.2 1928) → post (S.2.2 1923) (S.2.2 1924) (S.2.2 1925) (S.2.2 1926) (S.2.2 1927) (S.2.2 1928))))))))
abbrev y_Se_measureFrom : MethodName := ⟨"LineBreaker$Search", "measureFrom", "(II)V"⟩
abbrev rm_Se_measureFrom : Room := { frames := 3, cells := 0, slots := 0, locals := 81 }
set_option maxRecDepth 100000 in
def wp_Se_measureFrom (S : ST) (p1 : Int32) (p2 : Int32) (post : Int32 → Int32 → Int32 → Int32 → Int32 → Int32 → Prop) : Prop := (vp_in p1 8001 ∧ (vp_in p1 8001 ∧ wp_Gu_measure S ((S.1 32) p1.toNatClampNeg) p2 ((S.1 33) p1.toNatClampNeg) (fun v1 v2 v3 v4 v5 v6 => post v1 v2 v3 v4 v5 v6)))
section
variable {p : Program} {l : Launch} {e : Env} {s : State} {m : MethodId} {args : Array Value} {below : List Frame} {meth : Method} {c : Code} {n0 : Nat} {G : va_G} {K : KT} {ad : Nat → Nat} {X : va_W}
set_option maxHeartbeats 4000000 in
set_option maxRecDepth 100000 in
theorem c_St_widthOfLine (l : Launch) (n0 : Nat) (G : va_G) (K : KT) (ad : Nat → Nat) (X : va_W) (S : ST) (p1 : Int32) (post : Int32 → Prop) (hw : wp_St_widthOfLine S p1 post) : Met l y_St_widthOfLine (Cond.code y_St_widthOfLine prog_10_method_2_code 2 (some .int) :: gw) rm_St_widthOfLine (va_Pc [.ref (ad 11), .int p1] (wb n0 G K (wC K ad S ++ X))) (rq_i post) 0 0 (fun _ => False) := by
  refine kb_start (own := "LineBreaker$Settings") (by decide +kernel) rfl ?_
  intro p e s m below meth c C hr hne w
  have hx := C.1
  have hb := C.2.1
  have hts := C.2.2.2.2.1
  have hl := lv_entry ([.ref (ad 11), .int p1]) (n := 2) (Nat.le_of_ble_eq_true rfl)
  rw [lg_entry_eq]
  generalize (lg_sl ([.ref (ad 11), .int p1]) ++ List.replicate (2 - (lg_sl ([.ref (ad 11), .int p1])).length) Slot.unset).toArray = ls at hl ⊢
  have hl : lv_has ls 2 [(0, .ref (ad 11)), (1, .int p1)] := hl
  unfold wp_St_widthOfLine at hw
  refine lv_aload_n hx hb d_St_widthOfLine_0 rfl (lv_at hl 0 rfl) ?_
  refine kg (C1 := R_St) (T := F_St) (N := 5) (ci := 8) (ref := "LineBreaker$Settings") (v := .ref (ad 13)) C w 11 1 iw_St rfl rfl (by decide) kw_114 rfl rfl d_St_widthOfLine_1 ?_
  refine lv_iload_n hx hb d_St_widthOfLine_4 rfl (lv_at hl 1 rfl) ?_
  refine lv_bipush (v := 19) hx hb d_St_widthOfLine_5 (by decide) ?_
  refine va_mmin hx hb (C.2.2.1.trans hl.1.symm) C.2.2.2.1 (hts _ kw_750) (hts _ kw_563) (hts _ kw_17) (hts _ kw_564) (Nat.le_of_ble_eq_true rfl) (Nat.le_of_ble_eq_true rfl) (Nat.le_of_ble_eq_true rfl) (Nat.le_of_ble_eq_true rfl) d_St_widthOfLine_7 ?_
  refine lv_topi (fun v1 ev1 => ?_)
  have hw := hw v1 ev1
  refine ka_i (f := (S.1 13)) C w 13 rfl hw.1 d_St_widthOfLine_10 ?_
  have hw := hw.2
  exact kf_i C hr d_St_widthOfLine_11 hw
set_option maxHeartbeats 4000000 in
set_option maxRecDepth 100000 in
theorem c_Ga_widthBehind (l : Launch) (n0 : Nat) (G : va_G) (K : KT) (ad : Nat → Nat) (X : va_W) (S : ST) (p1 : Int32) (post : Int32 → Prop) (hw : wp_Ga_widthBehind S p1 post) : Met l y_Ga_widthBehind (Cond.code y_Ga_widthBehind prog_2_method_6_code 2 (some .int) :: gw) rm_Ga_widthBehind (va_Pc [.ref (ad 17), .int p1] (wb n0 G K (wC K ad S ++ X))) (rq_i post) 0 0 (fun _ => False) := by
  refine kb_start (own := "LineBreaker$Galley") (by decide +kernel) rfl ?_
  intro p e s m below meth c C hr hne w
  have hx := C.1
  have hb := C.2.1
  have hts := C.2.2.2.2.1
  have hl := lv_entry ([.ref (ad 17), .int p1]) (n := 2) (Nat.le_of_ble_eq_true rfl)
  rw [lg_entry_eq]
  generalize (lg_sl ([.ref (ad 17), .int p1]) ++ List.replicate (2 - (lg_sl ([.ref (ad 17), .int p1])).length) Slot.unset).toArray = ls at hl ⊢
  have hl : lv_has ls 2 [(0, .ref (ad 17)), (1, .int p1)] := hl
  unfold wp_Ga_widthBehind at hw
  refine lv_iload_n hx hb d_Ga_widthBehind_0 rfl (lv_at hl 1 rfl) ?_
  refine lv_iconst (v := (-1)) hx hb d_Ga_widthBehind_1 (by decide) ?_
  refine lv_icmp_ne (tgt := 9) hx hb d_Ga_widthBehind_2 (by decide) (fun hc => ?_) (fun hc => ?_)
  · have hw := hw.1 hc
    refine lv_aload_n hx hb d_Ga_widthBehind_9 rfl (lv_at hl 0 rfl) ?_
    refine kg (C1 := R_Ga) (T := F_Ga) (N := 12) (ci := 0) (ref := "LineBreaker$Galley") (v := .ref (ad 23)) C w 17 5 iw_Ga rfl rfl (by decide) kw_149 rfl rfl d_Ga_widthBehind_10 ?_
    refine lv_iload_n hx hb d_Ga_widthBehind_13 rfl (lv_at hl 1 rfl) ?_
    refine ka_i (f := (S.1 23)) C w 23 rfl hw.1 d_Ga_widthBehind_14 ?_
    have hw := hw.2
    exact kf_i C hr d_Ga_widthBehind_15 hw
  · have hw := hw.2 hc
    refine lv_iconst (v := 0) hx hb d_Ga_widthBehind_5 (by decide) ?_
    refine lv_goto (tgt := 15) hx hb d_Ga_widthBehind_6 (by decide) ?_
    exact kf_i C hr d_Ga_widthBehind_15 hw
set_option maxHeartbeats 4000000 in
set_option maxRecDepth 100000 in
theorem c_Gl_finiteStretch (l : Launch) (n0 : Nat) (G : va_G) (K : KT) (ad : Nat → Nat) (X : va_W) (S : ST) (post : Int32 → Prop) (hw : wp_Gl_finiteStretch S  post) : Met l y_Gl_finiteStretch (Cond.code y_Gl_finiteStretch prog_4_method_3_code 1 (some .int) :: gw) rm_Gl_finiteStretch (va_Pc [.ref (ad 14)] (wb n0 G K (wC K ad S ++ X))) (rq_i post) 0 0 (fun _ => False) := by
  refine kb_start (own := "LineBreaker$Glue") (by decide +kernel) rfl ?_
  intro p e s m below meth c C hr hne w
  have hx := C.1
  have hb := C.2.1
  have hts := C.2.2.2.2.1
  have hl := lv_entry ([.ref (ad 14)]) (n := 1) (Nat.le_of_ble_eq_true rfl)
  rw [lg_entry_eq]
  generalize (lg_sl ([.ref (ad 14)]) ++ List.replicate (1 - (lg_sl ([.ref (ad 14)])).length) Slot.unset).toArray = ls at hl ⊢
  have hl : lv_has ls 1 [(0, .ref (ad 14))] := hl
  unfold wp_Gl_finiteStretch at hw
  refine lv_aload_n hx hb d_Gl_finiteStretch_0 rfl (lv_at hl 0 rfl) ?_
  refine kg (C1 := R_Gl) (T := F_Gl) (N := 4) (ci := 2) (ref := "LineBreaker$Glue") (v := .int (S.2.2 898)) C w 14 2 iw_Gl rfl rfl (by decide) kw_95 rfl rfl d_Gl_finiteStretch_1 ?_
  refine lv_if_ne (tgt := 14) hx hb d_Gl_finiteStretch_4 (by decide) (fun hc => ?_) (fun hc => ?_)
  · have hw := hw.1 hc
    refine lv_iconst (v := 0) hx hb d_Gl_finiteStretch_14 (by decide) ?_
    exact kf_i C hr d_Gl_finiteStretch_15 hw
  · have hw := hw.2 hc
    refine lv_aload_n hx hb d_Gl_finiteStretch_7 rfl (lv_at hl 0 rfl) ?_
    refine kg (C1 := R_Gl) (T := F_Gl) (N := 4) (ci := 2) (ref := "LineBreaker$Glue") (v := .int (S.2.2 897)) C w 14 1 iw_Gl rfl rfl (by decide) kw_93 rfl rfl d_Gl_finiteStretch_8 ?_
    refine lv_goto (tgt := 15) hx hb d_Gl_finiteStretch_11 (by decide) ?_
    exact kf_i C hr d_Gl_finiteStretch_15 hw
set_option maxHeartbeats 4000000 in
set_option maxRecDepth 100000 in
theorem c_Gl_finiteStretch_15 (l : Launch) (n0 : Nat) (G : va_G) (K : KT) (ad : Nat → Nat) (X : va_W) (S : ST) (post : Int32 → Prop) (hw : wp_Gl_finiteStretch_15 S  post) : Met l y_Gl_finiteStretch (Cond.code y_Gl_finiteStretch prog_4_method_3_code 1 (some .int) :: gw) rm_Gl_finiteStretch_15 (va_Pc [.ref (ad 15)] (wb n0 G K (wC K ad S ++ X))) (rq_i post) 0 0 (fun _ => False) := by
  refine kb_start (own := "LineBreaker$Glue") (by decide +kernel) rfl ?_
  intro p e s m below meth c C hr hne w
  have hx := C.1
  have hb := C.2.1
  have hts := C.2.2.2.2.1
  have hl := lv_entry ([.ref (ad 15)]) (n := 1) (Nat.le_of_ble_eq_true rfl)
  rw [lg_entry_eq]
  generalize (lg_sl ([.ref (ad 15)]) ++ List.replicate (1 - (lg_sl ([.ref (ad 15)])).length) Slot.unset).toArray = ls at hl ⊢
  have hl : lv_has ls 1 [(0, .ref (ad 15))] := hl
  unfold wp_Gl_finiteStretch_15 at hw
  refine lv_aload_n hx hb d_Gl_finiteStretch_0 rfl (lv_at hl 0 rfl) ?_
  refine kg (C1 := R_Gl) (T := F_Gl) (N := 4) (ci := 2) (ref := "LineBreaker$Glue") (v := .int (S.2.2 962)) C w 15 2 iw_Gl rfl rfl (by decide) kw_95 rfl rfl d_Gl_finiteStretch_1 ?_
  refine lv_if_ne (tgt := 14) hx hb d_Gl_finiteStretch_4 (by decide) (fun hc => ?_) (fun hc => ?_)
  · have hw := hw.1 hc
    refine lv_iconst (v := 0) hx hb d_Gl_finiteStretch_14 (by decide) ?_
    exact kf_i C hr d_Gl_finiteStretch_15 hw
  · have hw := hw.2 hc
    refine lv_aload_n hx hb d_Gl_finiteStretch_7 rfl (lv_at hl 0 rfl) ?_
    refine kg (C1 := R_Gl) (T := F_Gl) (N := 4) (ci := 2) (ref := "LineBreaker$Glue") (v := .int (S.2.2 961)) C w 15 1 iw_Gl rfl rfl (by decide) kw_93 rfl rfl d_Gl_finiteStretch_8 ?_
    refine lv_goto (tgt := 15) hx hb d_Gl_finiteStretch_11 (by decide) ?_
    exact kf_i C hr d_Gl_finiteStretch_15 hw
set_option maxHeartbeats 4000000 in
set_option maxRecDepth 100000 in
theorem c_Gl_endlessStretch (l : Launch) (n0 : Nat) (G : va_G) (K : KT) (ad : Nat → Nat) (X : va_W) (S : ST) (post : Int32 → Prop) (hw : wp_Gl_endlessStretch S  post) : Met l y_Gl_endlessStretch (Cond.code y_Gl_endlessStretch prog_4_method_4_code 1 (some .int) :: gw) rm_Gl_endlessStretch (va_Pc [.ref (ad 14)] (wb n0 G K (wC K ad S ++ X))) (rq_i post) 0 0 (fun _ => False) := by
  refine kb_start (own := "LineBreaker$Glue") (by decide +kernel) rfl ?_
  intro p e s m below meth c C hr hne w
  have hx := C.1
  have hb := C.2.1
  have hts := C.2.2.2.2.1
  have hl := lv_entry ([.ref (ad 14)]) (n := 1) (Nat.le_of_ble_eq_true rfl)
  rw [lg_entry_eq]
  generalize (lg_sl ([.ref (ad 14)]) ++ List.replicate (1 - (lg_sl ([.ref (ad 14)])).length) Slot.unset).toArray = ls at hl ⊢
  have hl : lv_has ls 1 [(0, .ref (ad 14))] := hl
  unfold wp_Gl_endlessStretch at hw
  refine lv_aload_n hx hb d_Gl_endlessStretch_0 rfl (lv_at hl 0 rfl) ?_
  refine kg (C1 := R_Gl) (T := F_Gl) (N := 4) (ci := 2) (ref := "LineBreaker$Glue") (v := .int (S.2.2 898)) C w 14 2 iw_Gl rfl rfl (by decide) kw_95 rfl rfl d_Gl_endlessStretch_1 ?_
  refine lv_if_ne (tgt := 11) hx hb d_Gl_endlessStretch_4 (by decide) (fun hc => ?_) (fun hc => ?_)
  · have hw := hw.1 hc
    refine lv_aload_n hx hb d_Gl_endlessStretch_11 rfl (lv_at hl 0 rfl) ?_
    refine kg (C1 := R_Gl) (T := F_Gl) (N := 4) (ci := 2) (ref := "LineBreaker$Glue") (v := .int (S.2.2 897)) C w 14 1 iw_Gl rfl rfl (by decide) kw_93 rfl rfl d_Gl_endlessStretch_12 ?_
    exact kf_i C hr d_Gl_endlessStretch_15 hw
  · have hw := hw.2 hc
    refine lv_iconst (v := 0) hx hb d_Gl_endlessStretch_7 (by decide) ?_
    refine lv_goto (tgt := 15) hx hb d_Gl_endlessStretch_8 (by decide) ?_
    exact kf_i C hr d_Gl_endlessStretch_15 hw
set_option maxHeartbeats 4000000 in
set_option maxRecDepth 100000 in
theorem c_Gl_endlessStretch_15 (l : Launch) (n0 : Nat) (G : va_G) (K : KT) (ad : Nat → Nat) (X : va_W) (S : ST) (post : Int32 → Prop) (hw : wp_Gl_endlessStretch_15 S  post) : Met l y_Gl_endlessStretch (Cond.code y_Gl_endlessStretch prog_4_method_4_code 1 (some .int) :: gw) rm_Gl_endlessStretch_15 (va_Pc [.ref (ad 15)] (wb n0 G K (wC K ad S ++ X))) (rq_i post) 0 0 (fun _ => False) := by
  refine kb_start (own := "LineBreaker$Glue") (by decide +kernel) rfl ?_
  intro p e s m below meth c C hr hne w
  have hx := C.1
  have hb := C.2.1
  have hts := C.2.2.2.2.1
  have hl := lv_entry ([.ref (ad 15)]) (n := 1) (Nat.le_of_ble_eq_true rfl)
  rw [lg_entry_eq]
  generalize (lg_sl ([.ref (ad 15)]) ++ List.replicate (1 - (lg_sl ([.ref (ad 15)])).length) Slot.unset).toArray = ls at hl ⊢
  have hl : lv_has ls 1 [(0, .ref (ad 15))] := hl
  unfold wp_Gl_endlessStretch_15 at hw
  refine lv_aload_n hx hb d_Gl_endlessStretch_0 rfl (lv_at hl 0 rfl) ?_
  refine kg (C1 := R_Gl) (T := F_Gl) (N := 4) (ci := 2) (ref := "LineBreaker$Glue") (v := .int (S.2.2 962)) C w 15 2 iw_Gl rfl rfl (by decide) kw_95 rfl rfl d_Gl_endlessStretch_1 ?_
  refine lv_if_ne (tgt := 11) hx hb d_Gl_endlessStretch_4 (by decide) (fun hc => ?_) (fun hc => ?_)
  · have hw := hw.1 hc
    refine lv_aload_n hx hb d_Gl_endlessStretch_11 rfl (lv_at hl 0 rfl) ?_
    refine kg (C1 := R_Gl) (T := F_Gl) (N := 4) (ci := 2) (ref := "LineBreaker$Glue") (v := .int (S.2.2 961)) C w 15 1 iw_Gl rfl rfl (by decide) kw_93 rfl rfl d_Gl_endlessStretch_12 ?_
    exact kf_i C hr d_Gl_endlessStretch_15 hw
  · have hw := hw.2 hc
    refine lv_iconst (v := 0) hx hb d_Gl_endlessStretch_7 (by decide) ?_
    refine lv_goto (tgt := 15) hx hb d_Gl_endlessStretch_8 (by decide) ?_
    exact kf_i C hr d_Gl_endlessStretch_15 hw
set_option maxHeartbeats 4000000 in
set_option maxRecDepth 100000 in
theorem c_Ga_firstOneFrom (l : Launch) (n0 : Nat) (G : va_G) (K : KT) (ad : Nat → Nat) (X : va_W) (S : ST) (p1 : Int32) (post : Int32 → Prop) (hw : wp_Ga_firstOneFrom S p1 post) : Met l y_Ga_firstOneFrom (Cond.code y_Ga_firstOneFrom prog_2_method_5_code 2 (some .int) :: gw) rm_Ga_firstOneFrom (va_Pc [.ref (ad 17), .int p1] (wb n0 G K (wC K ad S ++ X))) (rq_i post) 0 0 (fun _ => False) := by
  refine kb_start (own := "LineBreaker$Galley") (by decide +kernel) rfl ?_
  intro p e s m below meth c C hr hne w
  have hx := C.1
  have hb := C.2.1
  have hts := C.2.2.2.2.1
  have hl := lv_entry ([.ref (ad 17), .int p1]) (n := 2) (Nat.le_of_ble_eq_true rfl)
  rw [lg_entry_eq]
  generalize (lg_sl ([.ref (ad 17), .int p1]) ++ List.replicate (2 - (lg_sl ([.ref (ad 17), .int p1])).length) Slot.unset).toArray = ls at hl ⊢
  have hl : lv_has ls 2 [(0, .ref (ad 17)), (1, .int p1)] := hl
  unfold wp_Ga_firstOneFrom at hw
  refine lv_iload_n hx hb d_Ga_firstOneFrom_0 rfl (lv_at hl 1 rfl) ?_
  refine lv_iconst (v := (-1)) hx hb d_Ga_firstOneFrom_1 (by decide) ?_
  refine lv_icmp_ne (tgt := 9) hx hb d_Ga_firstOneFrom_2 (by decide) (fun hc => ?_) (fun hc => ?_)
  · have hw := hw.1 hc
    refine lv_aload_n hx hb d_Ga_firstOneFrom_9 rfl (lv_at hl 0 rfl) ?_
    refine kg (C1 := R_Ga) (T := F_Ga) (N := 12) (ci := 0) (ref := "LineBreaker$Galley") (v := .ref (ad 21)) C w 17 3 iw_Ga rfl rfl (by decide) kw_146 rfl rfl d_Ga_firstOneFrom_10 ?_
    refine lv_iload_n hx hb d_Ga_firstOneFrom_13 rfl (lv_at hl 1 rfl) ?_
    refine ka_i (f := (S.1 21)) C w 21 rfl hw.1 d_Ga_firstOneFrom_14 ?_
    have hw := hw.2
    exact kf_i C hr d_Ga_firstOneFrom_15 hw
  · have hw := hw.2 hc
    refine lv_iconst (v := 0) hx hb d_Ga_firstOneFrom_5 (by decide) ?_
    refine lv_goto (tgt := 15) hx hb d_Ga_firstOneFrom_6 (by decide) ?_
    exact kf_i C hr d_Ga_firstOneFrom_15 hw
set_option maxHeartbeats 4000000 in
set_option maxRecDepth 100000 in
theorem w_Gu_bad_47 {S : ST} {post : Int32 → Prop} (C : cx p s m args meth c prog_3_method_6_code 3 "LineBreaker$Gauge" n0 G K) (hr : meth.sig.returnType = (some .int)) : ∀ (x2 : Int32), wl_Gu_bad_47 S post x2 → ∀ (ls : Array Slot), wn n0 G (wC K ad S ++ X) s s.heap [] → lv_has ls 3 [(2, .int x2)] → W p l e rm_Gu_bad s m args below meth c s.heap [] 0 0 (MQ below (rq_i post) args s 0 0 (fun _ => False)) (F0 m 47 ls []) := by
  have hx := C.1
  have hb := C.2.1
  have hts := C.2.2.2.2.1
  intro x2 hw ls w hl
  unfold wl_Gu_bad_47 at hw
  refine lv_iload_n hx hb d_Gu_bad_47 rfl (lv_at hl 0 rfl) ?_
  refine lv_sipush (v := 1290) hx hb d_Gu_bad_48 (by decide) ?_
  refine lv_icmp_le (tgt := 58) hx hb d_Gu_bad_51 (by decide) (fun hc => ?_) (fun hc => ?_)
  · have hw := hw.1 hc
    refine lv_iload_n hx hb d_Gu_bad_58 rfl (lv_at hl 0 rfl) ?_
    refine lv_iload_n hx hb d_Gu_bad_59 rfl (lv_at hl 0 rfl) ?_
    refine lv_imul hx hb d_Gu_bad_60 ?_
    refine lv_iload_n hx hb d_Gu_bad_61 rfl (lv_at hl 0 rfl) ?_
    refine lv_imul hx hb d_Gu_bad_62 ?_
    refine lv_ldc (v := 131072) hx hb C.2.2.2.1 (hts _ kw_770) d_Gu_bad_63 ?_
    refine lv_iadd hx hb d_Gu_bad_65 ?_
    refine lv_ldc (v := 262144) hx hb C.2.2.2.1 (hts _ kw_771) d_Gu_bad_66 ?_
    refine lv_idiv hx hb d_Gu_bad_68 hw.1 ?_
    have hw := hw.2
    exact kf_i C hr d_Gu_bad_69 hw
  · have hw := hw.2 hc
    refine lv_sipush (v := 10000) hx hb d_Gu_bad_54 (by decide) ?_
    exact kf_i C hr d_Gu_bad_57 hw
set_option maxHeartbeats 4000000 in
set_option maxRecDepth 100000 in
theorem c_Gu_bad (l : Launch) (n0 : Nat) (G : va_G) (K : KT) (ad : Nat → Nat) (X : va_W) (S : ST) (p1 : Int32) (p2 : Int32) (post : Int32 → Prop) (hw : wp_Gu_bad S p1 p2 post) : Met l y_Gu_bad (Cond.code y_Gu_bad prog_3_method_6_code 3 (some .int) :: gw) rm_Gu_bad (va_Pc [.int p1, .int p2] (wb n0 G K (wC K ad S ++ X))) (rq_i post) 0 0 (fun _ => False) := by
  refine kb_start (own := "LineBreaker$Gauge") (by decide +kernel) rfl ?_
  intro p e s m below meth c C hr hne w
  have hx := C.1
  have hb := C.2.1
  have hts := C.2.2.2.2.1
  have hl := lv_entry ([.int p1, .int p2]) (n := 3) (Nat.le_of_ble_eq_true rfl)
  rw [lg_entry_eq]
  generalize (lg_sl ([.int p1, .int p2]) ++ List.replicate (3 - (lg_sl ([.int p1, .int p2])).length) Slot.unset).toArray = ls at hl ⊢
  have hl : lv_has ls 3 [(0, .int p1), (1, .int p2)] := hl
  unfold wp_Gu_bad at hw
  refine lv_iload_n hx hb d_Gu_bad_0 rfl (lv_at hl 0 rfl) ?_
  refine lv_if_gt (tgt := 6) hx hb d_Gu_bad_1 (by decide) (fun hc => ?_) (fun hc => ?_)
  · have hw := hw.1 hc
    refine lv_iload_n hx hb d_Gu_bad_6 rfl (lv_at hl 1 rfl) ?_
    refine lv_if_gt (tgt := 14) hx hb d_Gu_bad_7 (by decide) (fun hc => ?_) (fun hc => ?_)
    · have hw := hw.1 hc
      refine lv_iload_n hx hb d_Gu_bad_14 rfl (lv_at hl 0 rfl) ?_
      refine lv_istore_n (lv' := [(2, .int p1), (0, .int p1), (1, .int p2)]) hx hb d_Gu_bad_15 rfl hl (by decide) rfl (fun ls hl => ?_)
      refine lv_iload_n hx hb d_Gu_bad_16 rfl (lv_at hl 1 rfl) ?_
      refine lv_ldc (v := 7230584) hx hb C.2.2.2.1 (hts _ kw_768) d_Gu_bad_17 ?_
      refine lv_icmp_gt (tgt := 33) hx hb d_Gu_bad_19 (by decide) (fun hc => ?_) (fun hc => ?_)
      · have hw := hw.1 hc
        refine lv_iload_n hx hb d_Gu_bad_33 rfl (lv_at hl 2 rfl) ?_
        refine lv_ldc (v := 1663497) hx hb C.2.2.2.1 (hts _ kw_769) d_Gu_bad_34 ?_
        refine lv_icmp_lt (tgt := 47) hx hb d_Gu_bad_36 (by decide) (fun hc => ?_) (fun hc => ?_)
        · have hw := hw.1 hc
          exact w_Gu_bad_47 C hr  p1 hw _ w (lv_sub hl [0] rfl)
        · have hw := hw.2 hc
          refine lv_iload_n hx hb d_Gu_bad_39 rfl (lv_at hl 1 rfl) ?_
          refine lv_iload_n hx hb d_Gu_bad_40 rfl (lv_at hl 2 rfl) ?_
          refine lv_sipush (v := 297) hx hb d_Gu_bad_41 (by decide) ?_
          refine lv_idiv hx hb d_Gu_bad_44 hw.1 ?_
          have hw := hw.2
          refine lv_idiv hx hb d_Gu_bad_45 hw.1 ?_
          have hw := hw.2
          refine lv_topi (fun v1 ev1 => ?_)
          have hw := hw v1 ev1
          refine lv_istore_n (lv' := [(2, .int v1), (0, .int p1), (1, .int p2)]) hx hb d_Gu_bad_46 rfl hl (by decide) rfl (fun ls hl => ?_)
          exact w_Gu_bad_47 C hr  v1 hw _ w (lv_sub hl [0] rfl)
      · have hw := hw.2 hc
        refine lv_sipush (v := 297) hx hb d_Gu_bad_22 (by decide) ?_
        refine lv_iload_n hx hb d_Gu_bad_25 rfl (lv_at hl 1 rfl) ?_
        refine lv_imul hx hb d_Gu_bad_26 ?_
        refine lv_iload_n hx hb d_Gu_bad_27 rfl (lv_at hl 2 rfl) ?_
        refine lv_idiv hx hb d_Gu_bad_28 hw.1 ?_
        have hw := hw.2
        refine lv_topi (fun v2 ev2 => ?_)
        have hw := hw v2 ev2
        refine lv_istore_n (lv' := [(2, .int v2), (0, .int p1), (1, .int p2)]) hx hb d_Gu_bad_29 rfl hl (by decide) rfl (fun ls hl => ?_)
        refine lv_goto (tgt := 47) hx hb d_Gu_bad_30 (by decide) ?_
        exact w_Gu_bad_47 C hr  v2 hw _ w (lv_sub hl [0] rfl)
    · have hw := hw.2 hc
      refine lv_sipush (v := 10000) hx hb d_Gu_bad_10 (by decide) ?_
      exact kf_i C hr d_Gu_bad_13 hw
  · have hw := hw.2 hc
    refine lv_iconst (v := 0) hx hb d_Gu_bad_4 (by decide) ?_
    exact kf_i C hr d_Gu_bad_5 hw
set_option maxHeartbeats 4000000 in
set_option maxRecDepth 100000 in
theorem w_Gu_judgeStretched_17 {S : ST} {post : Int32 → Int32 → Prop} (C : cx p s m args meth c prog_3_method_4_code 3 "LineBreaker$Gauge" n0 G K) (hr : meth.sig.returnType = none) : ∀ (z1 : Int32), wl_Gu_judgeStretched_17 S post z1 → ∀ (H : Heap) (locs : List Loc) (ls : Array Slot), wn n0 G (wC K ad S ++ X) s H locs → lv_has ls 3 [(0, .ref (ad 30))] → W p l e rm_Gu_judgeStretched s m args below meth c H locs 0 0 (MQ below (va_Qv (fun (u : Int32 × Int32) => post u.1 u.2) (fun (u : Int32 × Int32) t => we n0 G (wC K ad (sI (sI S 1924 u.1) 1925 u.2) ++ X) t) (al n0)) args s 0 0 (al n0)) (F0 m 17 ls [.int z1, .ref (ad 30)]) := by
  have hx := C.1
  have hb := C.2.1
  have hts := C.2.2.2.2.1
  intro z1 hw H locs ls w hl
  unfold wl_Gu_judgeStretched_17 at hw
  refine kp (C1 := R_Gu) (T := F_Gu) (N := 9) (ci := 1) (ty0 := t_Gu) (ref := "LineBreaker$Gauge") (w2 := wC K ad (sI S 1924 z1) ++ X) C w 30 4 iw_Gu tk_Gu n_Gu rfl rfl (by decide) kw_206 rfl rfl rfl rfl (Nat.le_of_ble_eq_true rfl) rfl d_Gu_judgeStretched_17 (fun H locs w => ?_)
  refine lv_aload_n hx hb d_Gu_judgeStretched_20 rfl (lv_at hl 0 rfl) ?_
  refine lv_aload_n hx hb d_Gu_judgeStretched_21 rfl (lv_at hl 0 rfl) ?_
  refine kg (C1 := R_Gu) (T := F_Gu) (N := 9) (ci := 1) (ref := "LineBreaker$Gauge") (v := .int z1) C w 30 4 iw_Gu rfl rfl (by decide) kw_206 rfl rfl d_Gu_judgeStretched_22 ?_
  refine lv_bipush (v := 99) hx hb d_Gu_judgeStretched_25 (by decide) ?_
  refine lv_icmp_le (tgt := 34) hx hb d_Gu_judgeStretched_27 (by decide) (fun hc => ?_) (fun hc => ?_)
  · have hw := hw.1 hc
    refine lv_aload_n hx hb d_Gu_judgeStretched_34 rfl (lv_at hl 0 rfl) ?_
    refine kg (C1 := R_Gu) (T := F_Gu) (N := 9) (ci := 1) (ref := "LineBreaker$Gauge") (v := .int z1) C w 30 4 iw_Gu rfl rfl (by decide) kw_206 rfl rfl d_Gu_judgeStretched_35 ?_
    refine lv_bipush (v := 12) hx hb d_Gu_judgeStretched_38 (by decide) ?_
    refine lv_icmp_le (tgt := 47) hx hb d_Gu_judgeStretched_40 (by decide) (fun hc => ?_) (fun hc => ?_)
    · have hw := hw.1 hc
      refine lv_iconst (v := 2) hx hb d_Gu_judgeStretched_47 (by decide) ?_
      refine kp (C1 := R_Gu) (T := F_Gu) (N := 9) (ci := 1) (ty0 := t_Gu) (ref := "LineBreaker$Gauge") (w2 := wC K ad (sI (sI S 1924 z1) 1925 2) ++ X) C w 30 5 iw_Gu tk_Gu n_Gu rfl rfl (by decide) kw_208 rfl rfl rfl rfl (Nat.le_of_ble_eq_true rfl) rfl d_Gu_judgeStretched_48 (fun H locs w => ?_)
      exact ke_v (post := (fun (u : Int32 × Int32) => post u.1 u.2)) (st := (fun (u : Int32 × Int32) => wC K ad (sI (sI S 1924 u.1) 1925 u.2) ++ X)) (u := (z1, 2)) C hr d_Gu_judgeStretched_51 (wn_eq w rfl) hw
    · have hw := hw.2 hc
      refine lv_iconst (v := 1) hx hb d_Gu_judgeStretched_43 (by decide) ?_
      refine lv_goto (tgt := 48) hx hb d_Gu_judgeStretched_44 (by decide) ?_
      refine kp (C1 := R_Gu) (T := F_Gu) (N := 9) (ci := 1) (ty0 := t_Gu) (ref := "LineBreaker$Gauge") (w2 := wC K ad (sI (sI S 1924 z1) 1925 1) ++ X) C w 30 5 iw_Gu tk_Gu n_Gu rfl rfl (by decide) kw_208 rfl rfl rfl rfl (Nat.le_of_ble_eq_true rfl) rfl d_Gu_judgeStretched_48 (fun H locs w => ?_)
      exact ke_v (post := (fun (u : Int32 × Int32) => post u.1 u.2)) (st := (fun (u : Int32 × Int32) => wC K ad (sI (sI S 1924 u.1) 1925 u.2) ++ X)) (u := (z1, 1)) C hr d_Gu_judgeStretched_51 (wn_eq w rfl) hw
  · have hw := hw.2 hc
    refine lv_iconst (v := 0) hx hb d_Gu_judgeStretched_30 (by decide) ?_
    refine lv_goto (tgt := 48) hx hb d_Gu_judgeStretched_31 (by decide) ?_
    refine kp (C1 := R_Gu) (T := F_Gu) (N := 9) (ci := 1) (ty0 := t_Gu) (ref := "LineBreaker$Gauge") (w2 := wC K ad (sI (sI S 1924 z1) 1925 0) ++ X) C w 30 5 iw_Gu tk_Gu n_Gu rfl rfl (by decide) kw_208 rfl rfl rfl rfl (Nat.le_of_ble_eq_true rfl) rfl d_Gu_judgeStretched_48 (fun H locs w => ?_)
    exact ke_v (post := (fun (u : Int32 × Int32) => post u.1 u.2)) (st := (fun (u : Int32 × Int32) => wC K ad (sI (sI S 1924 u.1) 1925 u.2) ++ X)) (u := (z1, 0)) C hr d_Gu_judgeStretched_51 (wn_eq w rfl) hw
set_option maxHeartbeats 4000000 in
set_option maxRecDepth 100000 in
theorem c_Gu_judgeStretched (l : Launch) (n0 : Nat) (G : va_G) (K : KT) (ad : Nat → Nat) (X : va_W) (S : ST) (p1 : Int32) (p2 : Int32) (post : Int32 → Int32 → Prop) (hw : wp_Gu_judgeStretched S p1 p2 post) : Met l y_Gu_judgeStretched (Cond.code y_Gu_judgeStretched prog_3_method_4_code 3 none :: gw) rm_Gu_judgeStretched (va_Pc [.ref (ad 30), .int p1, .int p2] (wb n0 G K (wC K ad S ++ X))) (va_Qv (fun (u : Int32 × Int32) => post u.1 u.2) (fun (u : Int32 × Int32) t => we n0 G (wC K ad (sI (sI S 1924 u.1) 1925 u.2) ++ X) t) (al n0)) 0 0 (al n0) := by
  refine kb_start (own := "LineBreaker$Gauge") (by decide +kernel) rfl ?_
  intro p e s m below meth c C hr hne w
  have hx := C.1
  have hb := C.2.1
  have hts := C.2.2.2.2.1
  have hl := lv_entry ([.ref (ad 30), .int p1, .int p2]) (n := 3) (Nat.le_of_ble_eq_true rfl)
  rw [lg_entry_eq]
  generalize (lg_sl ([.ref (ad 30), .int p1, .int p2]) ++ List.replicate (3 - (lg_sl ([.ref (ad 30), .int p1, .int p2])).length) Slot.unset).toArray = ls at hl ⊢
  have hl : lv_has ls 3 [(0, .ref (ad 30)), (1, .int p1), (2, .int p2)] := hl
  unfold wp_Gu_judgeStretched at hw
  refine lv_aload_n hx hb d_Gu_judgeStretched_0 rfl (lv_at hl 0 rfl) ?_
  refine lv_iload_n hx hb d_Gu_judgeStretched_1 rfl (lv_at hl 2 rfl) ?_
  refine lv_if_le (tgt := 9) hx hb d_Gu_judgeStretched_2 (by decide) (fun hc => ?_) (fun hc => ?_)
  · have hw := hw.1 hc
    refine lv_aload_n hx hb d_Gu_judgeStretched_9 rfl (lv_at hl 0 rfl) ?_
    refine kg (C1 := R_Gu) (T := F_Gu) (N := 9) (ci := 1) (ref := "LineBreaker$Gauge") (v := .int (S.2.2 1923)) C w 30 3 iw_Gu rfl rfl (by decide) kw_203 rfl rfl d_Gu_judgeStretched_10 ?_
    refine lv_iload_n hx hb d_Gu_judgeStretched_13 rfl (lv_at hl 1 rfl) ?_
    refine kd_i (kr_S (y := y_Gu_bad) (As := [.int (S.2.2 1923), .int p1]) (n := 2) C w (c_Gu_bad l n0 G K ad X S (S.2.2 1923) p1 _ hw) (gw_S kw_765 kw_766 kw_7 kw_767) (by decide +kernel) rfl rfl ⟨Nat.le_of_ble_eq_true rfl, Nat.le_of_ble_eq_true rfl⟩ rfl hl.1 rfl (Nat.le_of_ble_eq_true rfl) d_Gu_judgeStretched_14 ⟨Nat.le_of_ble_eq_true rfl, Nat.le_of_ble_eq_true rfl⟩) (fun r1 hw => ?_)
    exact w_Gu_judgeStretched_17 C hr  r1 hw _ _ _ (wn_eq w rfl) (lv_sub hl [0] rfl)
  · have hw := hw.2 hc
    refine lv_iconst (v := 0) hx hb d_Gu_judgeStretched_5 (by decide) ?_
    refine lv_goto (tgt := 17) hx hb d_Gu_judgeStretched_6 (by decide) ?_
    exact w_Gu_judgeStretched_17 C hr  0 hw _ _ _ (wn_eq w rfl) (lv_sub hl [0] rfl)
set_option maxHeartbeats 4000000 in
set_option maxRecDepth 100000 in
theorem c_Gu_judgeShrunk (l : Launch) (n0 : Nat) (G : va_G) (K : KT) (ad : Nat → Nat) (X : va_W) (S : ST) (p1 : Int32) (post : Int32 → Int32 → Prop) (hw : wp_Gu_judgeShrunk S p1 post) : Met l y_Gu_judgeShrunk (Cond.code y_Gu_judgeShrunk prog_3_method_5_code 3 none :: gw) rm_Gu_judgeShrunk (va_Pc [.ref (ad 30), .int p1] (wb n0 G K (wC K ad S ++ X))) (va_Qv (fun (u : Int32 × Int32) => post u.1 u.2) (fun (u : Int32 × Int32) t => we n0 G (wC K ad (sI (sI S 1924 u.1) 1925 u.2) ++ X) t) (al n0)) 0 0 (al n0) := by
  refine kb_start (own := "LineBreaker$Gauge") (by decide +kernel) rfl ?_
  intro p e s m below meth c C hr hne w
  have hx := C.1
  have hb := C.2.1
  have hts := C.2.2.2.2.1
  have hl := lv_entry ([.ref (ad 30), .int p1]) (n := 3) (Nat.le_of_ble_eq_true rfl)
  rw [lg_entry_eq]
  generalize (lg_sl ([.ref (ad 30), .int p1]) ++ List.replicate (3 - (lg_sl ([.ref (ad 30), .int p1])).length) Slot.unset).toArray = ls at hl ⊢
  have hl : lv_has ls 3 [(0, .ref (ad 30)), (1, .int p1)] := hl
  unfold wp_Gu_judgeShrunk at hw
  refine lv_aload_n hx hb d_Gu_judgeShrunk_0 rfl (lv_at hl 0 rfl) ?_
  refine kg (C1 := R_Gu) (T := F_Gu) (N := 9) (ci := 1) (ref := "LineBreaker$Gauge") (v := .int (S.2.2 1923)) C w 30 3 iw_Gu rfl rfl (by decide) kw_203 rfl rfl d_Gu_judgeShrunk_1 ?_
  refine lv_ineg hx hb d_Gu_judgeShrunk_4 ?_
  refine lv_topi (fun v1 ev1 => ?_)
  have hw := hw v1 ev1
  refine lv_istore_n (lv' := [(2, .int v1), (0, .ref (ad 30)), (1, .int p1)]) hx hb d_Gu_judgeShrunk_5 rfl hl (by decide) rfl (fun ls hl => ?_)
  refine lv_iload_n hx hb d_Gu_judgeShrunk_6 rfl (lv_at hl 2 rfl) ?_
  refine lv_iload_n hx hb d_Gu_judgeShrunk_7 rfl (lv_at hl 0 rfl) ?_
  refine lv_icmp_ge (tgt := 24) hx hb d_Gu_judgeShrunk_8 (by decide) (fun hc => ?_) (fun hc => ?_)
  · have hw := hw.1 hc
    refine lv_aload_n hx hb d_Gu_judgeShrunk_24 rfl (lv_at hl 1 rfl) ?_
    refine lv_iload_n hx hb d_Gu_judgeShrunk_25 rfl (lv_at hl 0 rfl) ?_
    refine lv_iload_n hx hb d_Gu_judgeShrunk_26 rfl (lv_at hl 2 rfl) ?_
    refine kd_i (kr_S (y := y_Gu_bad) (As := [.int v1, .int p1]) (n := 2) C w (c_Gu_bad l n0 G K ad X S v1 p1 _ hw) (gw_S kw_765 kw_766 kw_7 kw_767) (by decide +kernel) rfl rfl ⟨Nat.le_of_ble_eq_true rfl, Nat.le_of_ble_eq_true rfl⟩ rfl hl.1 rfl (Nat.le_of_ble_eq_true rfl) d_Gu_judgeShrunk_27 ⟨Nat.le_of_ble_eq_true rfl, Nat.le_of_ble_eq_true rfl⟩) (fun r2 hw => ?_)
    refine kp (C1 := R_Gu) (T := F_Gu) (N := 9) (ci := 1) (ty0 := t_Gu) (ref := "LineBreaker$Gauge") (w2 := wC K ad (sI S 1924 r2) ++ X) C w 30 4 iw_Gu tk_Gu n_Gu rfl rfl (by decide) kw_206 rfl rfl rfl rfl (Nat.le_of_ble_eq_true rfl) rfl d_Gu_judgeShrunk_30 (fun H locs w => ?_)
    refine lv_aload_n hx hb d_Gu_judgeShrunk_33 rfl (lv_at hl 1 rfl) ?_
    refine lv_aload_n hx hb d_Gu_judgeShrunk_34 rfl (lv_at hl 1 rfl) ?_
    refine kg (C1 := R_Gu) (T := F_Gu) (N := 9) (ci := 1) (ref := "LineBreaker$Gauge") (v := .int r2) C w 30 4 iw_Gu rfl rfl (by decide) kw_206 rfl rfl d_Gu_judgeShrunk_35 ?_
    refine lv_bipush (v := 12) hx hb d_Gu_judgeShrunk_38 (by decide) ?_
    refine lv_icmp_le (tgt := 47) hx hb d_Gu_judgeShrunk_40 (by decide) (fun hc => ?_) (fun hc => ?_)
    · have hw := hw.1 hc
      refine lv_iconst (v := 2) hx hb d_Gu_judgeShrunk_47 (by decide) ?_
      refine kp (C1 := R_Gu) (T := F_Gu) (N := 9) (ci := 1) (ty0 := t_Gu) (ref := "LineBreaker$Gauge") (w2 := wC K ad (sI (sI S 1924 r2) 1925 2) ++ X) C w 30 5 iw_Gu tk_Gu n_Gu rfl rfl (by decide) kw_208 rfl rfl rfl rfl (Nat.le_of_ble_eq_true rfl) rfl d_Gu_judgeShrunk_48 (fun H locs w => ?_)
      exact ke_v (post := (fun (u : Int32 × Int32) => post u.1 u.2)) (st := (fun (u : Int32 × Int32) => wC K ad (sI (sI S 1924 u.1) 1925 u.2) ++ X)) (u := (r2, 2)) C hr d_Gu_judgeShrunk_51 (wn_eq w rfl) hw
    · have hw := hw.2 hc
      refine lv_iconst (v := 3) hx hb d_Gu_judgeShrunk_43 (by decide) ?_
      refine lv_goto (tgt := 48) hx hb d_Gu_judgeShrunk_44 (by decide) ?_
      refine kp (C1 := R_Gu) (T := F_Gu) (N := 9) (ci := 1) (ty0 := t_Gu) (ref := "LineBreaker$Gauge") (w2 := wC K ad (sI (sI S 1924 r2) 1925 3) ++ X) C w 30 5 iw_Gu tk_Gu n_Gu rfl rfl (by decide) kw_208 rfl rfl rfl rfl (Nat.le_of_ble_eq_true rfl) rfl d_Gu_judgeShrunk_48 (fun H locs w => ?_)
      exact ke_v (post := (fun (u : Int32 × Int32) => post u.1 u.2)) (st := (fun (u : Int32 × Int32) => wC K ad (sI (sI S 1924 u.1) 1925 u.2) ++ X)) (u := (r2, 3)) C hr d_Gu_judgeShrunk_51 (wn_eq w rfl) hw
  · have hw := hw.2 hc
    refine lv_aload_n hx hb d_Gu_judgeShrunk_11 rfl (lv_at hl 1 rfl) ?_
    refine lv_sipush (v := 10001) hx hb d_Gu_judgeShrunk_12 (by decide) ?_
    refine kp (C1 := R_Gu) (T := F_Gu) (N := 9) (ci := 1) (ty0 := t_Gu) (ref := "LineBreaker$Gauge") (w2 := wC K ad (sI S 1924 10001) ++ X) C w 30 4 iw_Gu tk_Gu n_Gu rfl rfl (by decide) kw_206 rfl rfl rfl rfl (Nat.le_of_ble_eq_true rfl) rfl d_Gu_judgeShrunk_15 (fun H locs w => ?_)
    refine lv_aload_n hx hb d_Gu_judgeShrunk_18 rfl (lv_at hl 1 rfl) ?_
    refine lv_iconst (v := 3) hx hb d_Gu_judgeShrunk_19 (by decide) ?_
    refine kp (C1 := R_Gu) (T := F_Gu) (N := 9) (ci := 1) (ty0 := t_Gu) (ref := "LineBreaker$Gauge") (w2 := wC K ad (sI (sI S 1924 10001) 1925 3) ++ X) C w 30 5 iw_Gu tk_Gu n_Gu rfl rfl (by decide) kw_208 rfl rfl rfl rfl (Nat.le_of_ble_eq_true rfl) rfl d_Gu_judgeShrunk_20 (fun H locs w => ?_)
    exact ke_v (post := (fun (u : Int32 × Int32) => post u.1 u.2)) (st := (fun (u : Int32 × Int32) => wC K ad (sI (sI S 1924 u.1) 1925 u.2) ++ X)) (u := (10001, 3)) C hr d_Gu_judgeShrunk_23 (wn_eq w rfl) hw
set_option maxHeartbeats 4000000 in
set_option maxRecDepth 100000 in
theorem w_Gu_measure_262 {S : ST} {post : Int32 → Int32 → Int32 → Int32 → Int32 → Int32 → Prop} (C : cx p s m args meth c prog_3_method_3_code 12 "LineBreaker$Gauge" n0 G K) (hr : meth.sig.returnType = none) : ∀ (i1926 : Int32) (i1927 : Int32) (i1928 : Int32) (x4 : Int32) (x7 : Int32) (x8 : Int32) (x9 : Int32) (x10 : Int32), wl_Gu_measure_262 S post i1926 i1927 i1928 x4 x7 x8 x9 x10 → ∀ (H : Heap) (locs : List Loc) (ls : Array Slot), wn n0 G (wC K ad (sI (sI (sI S 1926 i1926) 1927 i1927) 1928 i1928) ++ X) s H locs → lv_has ls 12 [(0, .ref (ad 30)), (4, .int x4), (7, .int x7), (8, .int x8), (9, .int x9), (10, .int x10)] → W p l e rm_Gu_measure s m args below meth c H locs 0 0 (MQ below (va_Qv (fun (u : Int32 × Int32 × Int32 × Int32 × Int32 × Int32) => post u.1 u.2.1 u.2.2.1 u.2.2.2.1 u.2.2.2.2.1 u.2.2.2.2.2) (fun (u : Int32 × Int32 × Int32 × Int32 × Int32 × Int32) t => we n0 G (wC K ad (sI (sI (sI (sI (sI (sI S 1923 u.1) 1924 u.2.1) 1925 u.2.2.1) 1926 u.2.2.2.1) 1927 u.2.2.2.2.1) 1928 u.2.2.2.2.2) ++ X) t) (al n0)) args s 0 0 (al n0)) (F0 m 262 ls []) := by
  have hx := C.1
  have hb := C.2.1
  have hts := C.2.2.2.2.1
  intro i1926 i1927 i1928 x4 x7 x8 x9 x10 hw H locs ls w hl
  unfold wl_Gu_measure_262 at hw
  refine lv_aload_n hx hb d_Gu_measure_262 rfl (lv_at hl 0 rfl) ?_
  refine lv_iload hx hb d_Gu_measure_263 (lv_at hl 1 rfl) ?_
  refine lv_iload hx hb d_Gu_measure_265 (lv_at hl 2 rfl) ?_
  refine lv_isub hx hb d_Gu_measure_267 ?_
  refine lv_topi (fun v1 ev1 => ?_)
  have hw := hw v1 ev1
  refine kp (C1 := R_Gu) (T := F_Gu) (N := 9) (ci := 1) (ty0 := t_Gu) (ref := "LineBreaker$Gauge") (w2 := wC K ad (sI (sI (sI (sI S 1923 v1) 1926 i1926) 1927 i1927) 1928 i1928) ++ X) C w 30 3 iw_Gu tk_Gu n_Gu rfl rfl (by decide) kw_203 rfl rfl rfl rfl (Nat.le_of_ble_eq_true rfl) rfl d_Gu_measure_268 (fun H locs w => ?_)
  refine lv_aload_n hx hb d_Gu_measure_271 rfl (lv_at hl 0 rfl) ?_
  refine kg (C1 := R_Gu) (T := F_Gu) (N := 9) (ci := 1) (ref := "LineBreaker$Gauge") (v := .int v1) C w 30 3 iw_Gu rfl rfl (by decide) kw_203 rfl rfl d_Gu_measure_272 ?_
  refine lv_if_le (tgt := 289) hx hb d_Gu_measure_275 (by decide) (fun hc => ?_) (fun hc => ?_)
  · have hw := hw.1 hc
    refine lv_aload_n hx hb d_Gu_measure_289 rfl (lv_at hl 0 rfl) ?_
    refine lv_iload hx hb d_Gu_measure_290 (lv_at hl 5 rfl) ?_
    refine kc_v (st := fun (u : Int32 × Int32) => wC K ad (sI (sI (sI (sI (sI (sI S 1923 v1) 1926 i1926) 1927 i1927) 1928 i1928) 1924 u.1) 1925 u.2) ++ X) w (kr_V (y := y_Gu_judgeShrunk) (C1 := R_Gu) (T := F_Gu) (N := 9) (ci := 1) (q0 := 30) (As := [.int x10]) (n := 1) C w (c_Gu_judgeShrunk l n0 G K ad X (sI (sI (sI (sI S 1923 v1) 1926 i1926) 1927 i1927) 1928 i1928) x10 _ hw) (gw_V kw_772 kw_774 kp_12 kw_7 kw_775) (by decide +kernel) rfl rfl ⟨Nat.le_of_ble_eq_true rfl, Nat.le_of_ble_eq_true rfl⟩ rfl rfl rfl hl.1 rfl (Nat.le_of_ble_eq_true rfl) d_Gu_measure_292 ⟨Nat.le_of_ble_eq_true rfl, Nat.le_of_ble_eq_true rfl⟩) (fun u H locs hw w => ?_)
    obtain ⟨v2, v3⟩ := u
    dsimp only at hw
    have w : wn n0 G (wC K ad (sI (sI (sI (sI (sI (sI S 1923 v1) 1924 v2) 1925 v3) 1926 i1926) 1927 i1927) 1928 i1928) ++ X) s H locs := w
    exact ke_v (post := (fun (u : Int32 × Int32 × Int32 × Int32 × Int32 × Int32) => post u.1 u.2.1 u.2.2.1 u.2.2.2.1 u.2.2.2.2.1 u.2.2.2.2.2)) (st := (fun (u : Int32 × Int32 × Int32 × Int32 × Int32 × Int32) => wC K ad (sI (sI (sI (sI (sI (sI S 1923 u.1) 1924 u.2.1) 1925 u.2.2.1) 1926 u.2.2.2.1) 1927 u.2.2.2.2.1) 1928 u.2.2.2.2.2) ++ X)) (u := (v1, v2, v3, i1926, i1927, i1928)) C hr d_Gu_measure_295 (wn_eq w rfl) hw
  · have hw := hw.2 hc
    refine lv_aload_n hx hb d_Gu_measure_278 rfl (lv_at hl 0 rfl) ?_
    refine lv_iload hx hb d_Gu_measure_279 (lv_at hl 3 rfl) ?_
    refine lv_iload hx hb d_Gu_measure_281 (lv_at hl 4 rfl) ?_
    refine kc_v (st := fun (u : Int32 × Int32) => wC K ad (sI (sI (sI (sI (sI (sI S 1923 v1) 1926 i1926) 1927 i1927) 1928 i1928) 1924 u.1) 1925 u.2) ++ X) w (kr_V (y := y_Gu_judgeStretched) (C1 := R_Gu) (T := F_Gu) (N := 9) (ci := 1) (q0 := 30) (As := [.int x8, .int x9]) (n := 2) C w (c_Gu_judgeStretched l n0 G K ad X (sI (sI (sI (sI S 1923 v1) 1926 i1926) 1927 i1927) 1928 i1928) x8 x9 _ hw) (gw_V kw_761 kw_763 kp_11 kw_7 kw_764) (by decide +kernel) rfl rfl ⟨Nat.le_of_ble_eq_true rfl, Nat.le_of_ble_eq_true rfl⟩ rfl rfl rfl hl.1 rfl (Nat.le_of_ble_eq_true rfl) d_Gu_measure_283 ⟨Nat.le_of_ble_eq_true rfl, Nat.le_of_ble_eq_true rfl⟩) (fun u H locs hw w => ?_)
    obtain ⟨v4, v5⟩ := u
    dsimp only at hw
    have w : wn n0 G (wC K ad (sI (sI (sI (sI (sI (sI S 1923 v1) 1924 v4) 1925 v5) 1926 i1926) 1927 i1927) 1928 i1928) ++ X) s H locs := w
    refine lv_goto (tgt := 295) hx hb d_Gu_measure_286 (by decide) ?_
    exact ke_v (post := (fun (u : Int32 × Int32 × Int32 × Int32 × Int32 × Int32) => post u.1 u.2.1 u.2.2.1 u.2.2.2.1 u.2.2.2.2.1 u.2.2.2.2.2)) (st := (fun (u : Int32 × Int32 × Int32 × Int32 × Int32 × Int32) => wC K ad (sI (sI (sI (sI (sI (sI S 1923 u.1) 1924 u.2.1) 1925 u.2.2.1) 1926 u.2.2.2.1) 1927 u.2.2.2.2.1) 1928 u.2.2.2.2.2) ++ X)) (u := (v1, v4, v5, i1926, i1927, i1928)) C hr d_Gu_measure_295 (wn_eq w rfl) hw
set_option maxHeartbeats 4000000 in
set_option maxRecDepth 100000 in
theorem w_Gu_measure_36 {S : ST} {post : Int32 → Int32 → Int32 → Int32 → Int32 → Int32 → Prop} (C : cx p s m args meth c prog_3_method_3_code 12 "LineBreaker$Gauge" n0 G K) (hr : meth.sig.returnType = none) : ∀ (x1 : Int32) (x2 : Int32) (x4 : Int32), wl_Gu_measure_36 S post x1 x2 x4 → ∀ (H : Heap) (locs : List Loc) (ls : Array Slot), wn n0 G (wC K ad S ++ X) s H locs → lv_has ls 12 [(0, .ref (ad 30)), (1, .int x1), (2, .int x2), (4, .int x4)] → W p l e rm_Gu_measure s m args below meth c H locs 0 0 (MQ below (va_Qv (fun (u : Int32 × Int32 × Int32 × Int32 × Int32 × Int32) => post u.1 u.2.1 u.2.2.1 u.2.2.2.1 u.2.2.2.2.1 u.2.2.2.2.2) (fun (u : Int32 × Int32 × Int32 × Int32 × Int32 × Int32) t => we n0 G (wC K ad (sI (sI (sI (sI (sI (sI S 1923 u.1) 1924 u.2.1) 1925 u.2.2.1) 1926 u.2.2.2.1) 1927 u.2.2.2.2.1) 1928 u.2.2.2.2.2) ++ X) t) (al n0)) args s 0 0 (al n0)) (F0 m 36 ls []) := by
  have hx := C.1
  have hb := C.2.1
  have hts := C.2.2.2.2.1
  intro x1 x2 x4 hw H locs ls w hl
  unfold wl_Gu_measure_36 at hw
  refine lv_aload_n hx hb d_Gu_measure_36 rfl (lv_at hl 0 rfl) ?_
  refine lv_iload_n hx hb d_Gu_measure_37 rfl (lv_at hl 2 rfl) ?_
  refine kp (C1 := R_Gu) (T := F_Gu) (N := 9) (ci := 1) (ty0 := t_Gu) (ref := "LineBreaker$Gauge") (w2 := wC K ad (sI S 1927 x2) ++ X) C w 30 7 iw_Gu tk_Gu n_Gu rfl rfl (by decide) kw_211 rfl rfl rfl rfl (Nat.le_of_ble_eq_true rfl) rfl d_Gu_measure_38 (fun H locs w => ?_)
  refine lv_aload_n hx hb d_Gu_measure_41 rfl (lv_at hl 0 rfl) ?_
  refine lv_iload_n hx hb d_Gu_measure_42 rfl (lv_at hl 1 rfl) ?_
  refine kp (C1 := R_Gu) (T := F_Gu) (N := 9) (ci := 1) (ty0 := t_Gu) (ref := "LineBreaker$Gauge") (w2 := wC K ad (sI (sI S 1926 x1) 1927 x2) ++ X) C w 30 6 iw_Gu tk_Gu n_Gu rfl rfl (by decide) kw_210 rfl rfl rfl rfl (Nat.le_of_ble_eq_true rfl) rfl d_Gu_measure_43 (fun H locs w => ?_)
  refine lv_aload_n hx hb d_Gu_measure_46 rfl (lv_at hl 0 rfl) ?_
  refine lv_iload hx hb d_Gu_measure_47 (lv_at hl 3 rfl) ?_
  refine kp (C1 := R_Gu) (T := F_Gu) (N := 9) (ci := 1) (ty0 := t_Gu) (ref := "LineBreaker$Gauge") (w2 := wC K ad (sI (sI (sI S 1926 x1) 1927 x2) 1928 x4) ++ X) C w 30 8 iw_Gu tk_Gu n_Gu rfl rfl (by decide) kw_212 rfl rfl rfl rfl (Nat.le_of_ble_eq_true rfl) rfl d_Gu_measure_49 (fun H locs w => ?_)
  refine lv_aload_n hx hb d_Gu_measure_52 rfl (lv_at hl 0 rfl) ?_
  refine kg (C1 := R_Gu) (T := F_Gu) (N := 9) (ci := 1) (ref := "LineBreaker$Gauge") (v := .ref (ad 11)) C w 30 1 iw_Gu rfl rfl (by decide) kw_200 rfl rfl d_Gu_measure_53 ?_
  refine kg (C1 := R_St) (T := F_St) (N := 5) (ci := 8) (ref := "LineBreaker$Settings") (v := .ref (ad 14)) C w 11 2 iw_St rfl rfl (by decide) kw_117 rfl rfl d_Gu_measure_56 ?_
  refine lv_astore (lv' := [(5, .ref (ad 14)), (0, .ref (ad 30)), (1, .int x1), (2, .int x2), (4, .int x4)]) hx hb d_Gu_measure_59 hl (by decide) rfl (fun ls hl => ?_)
  refine lv_aload_n hx hb d_Gu_measure_61 rfl (lv_at hl 1 rfl) ?_
  refine kg (C1 := R_Gu) (T := F_Gu) (N := 9) (ci := 1) (ref := "LineBreaker$Gauge") (v := .ref (ad 11)) C w 30 1 iw_Gu rfl rfl (by decide) kw_200 rfl rfl d_Gu_measure_62 ?_
  refine kg (C1 := R_St) (T := F_St) (N := 5) (ci := 8) (ref := "LineBreaker$Settings") (v := .ref (ad 15)) C w 11 3 iw_St rfl rfl (by decide) kw_120 rfl rfl d_Gu_measure_65 ?_
  refine lv_astore (lv' := [(6, .ref (ad 15)), (5, .ref (ad 14)), (0, .ref (ad 30)), (1, .int x1), (2, .int x2), (4, .int x4)]) hx hb d_Gu_measure_68 hl (by decide) rfl (fun ls hl => ?_)
  refine lv_aload hx hb d_Gu_measure_70 (lv_at hl 1 rfl) ?_
  refine kg (C1 := R_Gl) (T := F_Gl) (N := 4) (ci := 2) (ref := "LineBreaker$Glue") (v := .int (S.2.2 896)) C w 14 0 iw_Gl rfl rfl (by decide) kw_91 rfl rfl d_Gu_measure_72 ?_
  refine lv_aload hx hb d_Gu_measure_75 (lv_at hl 0 rfl) ?_
  refine kg (C1 := R_Gl) (T := F_Gl) (N := 4) (ci := 2) (ref := "LineBreaker$Glue") (v := .int (S.2.2 960)) C w 15 0 iw_Gl rfl rfl (by decide) kw_91 rfl rfl d_Gu_measure_77 ?_
  refine lv_iadd hx hb d_Gu_measure_80 ?_
  refine lv_aload_n hx hb d_Gu_measure_81 rfl (lv_at hl 2 rfl) ?_
  refine kg (C1 := R_Gu) (T := F_Gu) (N := 9) (ci := 1) (ref := "LineBreaker$Gauge") (v := .ref (ad 17)) C w 30 0 iw_Gu rfl rfl (by decide) kw_199 rfl rfl d_Gu_measure_82 ?_
  refine lv_iload_n hx hb d_Gu_measure_85 rfl (lv_at hl 3 rfl) ?_
  refine kd_i (kr_V (y := y_Ga_widthBehind) (C1 := R_Ga) (T := F_Ga) (N := 12) (ci := 0) (q0 := 17) (As := [.int x1]) (n := 1) C w (c_Ga_widthBehind l n0 G K ad X (sI (sI (sI S 1926 x1) 1927 x2) 1928 x4) x1 _ hw) (gw_V kw_751 kw_752 kw_753 kw_5 kw_754) (by decide +kernel) rfl rfl ⟨Nat.le_of_ble_eq_true rfl, Nat.le_of_ble_eq_true rfl⟩ rfl rfl rfl hl.1 rfl (Nat.le_of_ble_eq_true rfl) d_Gu_measure_86 ⟨Nat.le_of_ble_eq_true rfl, Nat.le_of_ble_eq_true rfl⟩) (fun r1 hw => ?_)
  refine lv_iadd hx hb d_Gu_measure_89 ?_
  refine lv_aload_n hx hb d_Gu_measure_90 rfl (lv_at hl 2 rfl) ?_
  refine kg (C1 := R_Gu) (T := F_Gu) (N := 9) (ci := 1) (ref := "LineBreaker$Gauge") (v := .ref (ad 17)) C w 30 0 iw_Gu rfl rfl (by decide) kw_199 rfl rfl d_Gu_measure_91 ?_
  refine kg (C1 := R_Ga) (T := F_Ga) (N := 12) (ci := 0) (ref := "LineBreaker$Galley") (v := .ref (ad 22)) C w 17 4 iw_Ga rfl rfl (by decide) kw_148 rfl rfl d_Gu_measure_94 ?_
  refine lv_iload_n hx hb d_Gu_measure_97 rfl (lv_at hl 4 rfl) ?_
  refine ka_i (f := (S.1 22)) C w 22 rfl hw.1 d_Gu_measure_98 ?_
  have hw := hw.2
  refine lv_iadd hx hb d_Gu_measure_99 ?_
  refine lv_topi (fun v2 ev2 => ?_)
  have hw := hw v2 ev2
  refine lv_istore (lv' := [(7, .int v2), (6, .ref (ad 15)), (5, .ref (ad 14)), (0, .ref (ad 30)), (1, .int x1), (2, .int x2), (4, .int x4)]) hx hb d_Gu_measure_100 hl (by decide) rfl (fun ls hl => ?_)
  refine lv_aload hx hb d_Gu_measure_102 (lv_at hl 2 rfl) ?_
  refine kd_i (kr_V (y := y_Gl_finiteStretch) (C1 := R_Gl) (T := F_Gl) (N := 4) (ci := 2) (q0 := 14) (As := []) (n := 0) C w (c_Gl_finiteStretch l n0 G K ad X (sI (sI (sI S 1926 x1) 1927 x2) 1928 x4)  _ hw) (gw_V kw_755 kw_688 kw_689 kw_4 kw_690) (by decide +kernel) rfl rfl ⟨Nat.le_of_ble_eq_true rfl, Nat.le_of_ble_eq_true rfl⟩ rfl rfl rfl hl.1 rfl (Nat.le_of_ble_eq_true rfl) d_Gu_measure_104 ⟨Nat.le_of_ble_eq_true rfl, Nat.le_of_ble_eq_true rfl⟩) (fun r3 hw => ?_)
  refine lv_aload hx hb d_Gu_measure_107 (lv_at hl 1 rfl) ?_
  refine kd_i (kr_V (y := y_Gl_finiteStretch) (C1 := R_Gl) (T := F_Gl) (N := 4) (ci := 2) (q0 := 15) (As := []) (n := 0) C w (c_Gl_finiteStretch_15 l n0 G K ad X (sI (sI (sI S 1926 x1) 1927 x2) 1928 x4)  _ hw) (gw_V kw_755 kw_688 kw_689 kw_4 kw_690) (by decide +kernel) rfl rfl ⟨Nat.le_of_ble_eq_true rfl, Nat.le_of_ble_eq_true rfl⟩ rfl rfl rfl hl.1 rfl (Nat.le_of_ble_eq_true rfl) d_Gu_measure_109 ⟨Nat.le_of_ble_eq_true rfl, Nat.le_of_ble_eq_true rfl⟩) (fun r4 hw => ?_)
  refine lv_iadd hx hb d_Gu_measure_112 ?_
  refine lv_aload_n hx hb d_Gu_measure_113 rfl (lv_at hl 3 rfl) ?_
  refine kg (C1 := R_Gu) (T := F_Gu) (N := 9) (ci := 1) (ref := "LineBreaker$Gauge") (v := .int (S.2.2 1922)) C w 30 2 iw_Gu rfl rfl (by decide) kw_201 rfl rfl d_Gu_measure_114 ?_
  refine lv_iadd hx hb d_Gu_measure_117 ?_
  refine lv_topi (fun v5 ev5 => ?_)
  have hw := hw v5 ev5
  refine lv_istore (lv' := [(8, .int v5), (7, .int v2), (6, .ref (ad 15)), (5, .ref (ad 14)), (0, .ref (ad 30)), (1, .int x1), (2, .int x2), (4, .int x4)]) hx hb d_Gu_measure_118 hl (by decide) rfl (fun ls hl => ?_)
  refine lv_aload hx hb d_Gu_measure_120 (lv_at hl 3 rfl) ?_
  refine kd_i (kr_V (y := y_Gl_endlessStretch) (C1 := R_Gl) (T := F_Gl) (N := 4) (ci := 2) (q0 := 14) (As := []) (n := 0) C w (c_Gl_endlessStretch l n0 G K ad X (sI (sI (sI S 1926 x1) 1927 x2) 1928 x4)  _ hw) (gw_V kw_756 kw_692 kw_693 kw_4 kw_694) (by decide +kernel) rfl rfl ⟨Nat.le_of_ble_eq_true rfl, Nat.le_of_ble_eq_true rfl⟩ rfl rfl rfl hl.1 rfl (Nat.le_of_ble_eq_true rfl) d_Gu_measure_122 ⟨Nat.le_of_ble_eq_true rfl, Nat.le_of_ble_eq_true rfl⟩) (fun r6 hw => ?_)
  refine lv_aload hx hb d_Gu_measure_125 (lv_at hl 2 rfl) ?_
  refine kd_i (kr_V (y := y_Gl_endlessStretch) (C1 := R_Gl) (T := F_Gl) (N := 4) (ci := 2) (q0 := 15) (As := []) (n := 0) C w (c_Gl_endlessStretch_15 l n0 G K ad X (sI (sI (sI S 1926 x1) 1927 x2) 1928 x4)  _ hw) (gw_V kw_756 kw_692 kw_693 kw_4 kw_694) (by decide +kernel) rfl rfl ⟨Nat.le_of_ble_eq_true rfl, Nat.le_of_ble_eq_true rfl⟩ rfl rfl rfl hl.1 rfl (Nat.le_of_ble_eq_true rfl) d_Gu_measure_127 ⟨Nat.le_of_ble_eq_true rfl, Nat.le_of_ble_eq_true rfl⟩) (fun r7 hw => ?_)
  refine lv_iadd hx hb d_Gu_measure_130 ?_
  refine lv_topi (fun v8 ev8 => ?_)
  have hw := hw v8 ev8
  refine lv_istore (lv' := [(9, .int v8), (8, .int v5), (7, .int v2), (6, .ref (ad 15)), (5, .ref (ad 14)), (0, .ref (ad 30)), (1, .int x1), (2, .int x2), (4, .int x4)]) hx hb d_Gu_measure_131 hl (by decide) rfl (fun ls hl => ?_)
  refine lv_aload hx hb d_Gu_measure_133 (lv_at hl 4 rfl) ?_
  refine kg (C1 := R_Gl) (T := F_Gl) (N := 4) (ci := 2) (ref := "LineBreaker$Glue") (v := .int (S.2.2 899)) C w 14 3 iw_Gl rfl rfl (by decide) kw_97 rfl rfl d_Gu_measure_135 ?_
  refine lv_aload hx hb d_Gu_measure_138 (lv_at hl 3 rfl) ?_
  refine kg (C1 := R_Gl) (T := F_Gl) (N := 4) (ci := 2) (ref := "LineBreaker$Glue") (v := .int (S.2.2 963)) C w 15 3 iw_Gl rfl rfl (by decide) kw_97 rfl rfl d_Gu_measure_140 ?_
  refine lv_iadd hx hb d_Gu_measure_143 ?_
  refine lv_topi (fun v9 ev9 => ?_)
  have hw := hw v9 ev9
  refine lv_istore (lv' := [(10, .int v9), (9, .int v8), (8, .int v5), (7, .int v2), (6, .ref (ad 15)), (5, .ref (ad 14)), (0, .ref (ad 30)), (1, .int x1), (2, .int x2), (4, .int x4)]) hx hb d_Gu_measure_144 hl (by decide) rfl (fun ls hl => ?_)
  refine lv_aload_n hx hb d_Gu_measure_146 rfl (lv_at hl 6 rfl) ?_
  refine kg (C1 := R_Gu) (T := F_Gu) (N := 9) (ci := 1) (ref := "LineBreaker$Gauge") (v := .ref (ad 17)) C w 30 0 iw_Gu rfl rfl (by decide) kw_199 rfl rfl d_Gu_measure_147 ?_
  refine lv_iload_n hx hb d_Gu_measure_150 rfl (lv_at hl 7 rfl) ?_
  refine kd_i (kr_V (y := y_Ga_firstOneFrom) (C1 := R_Ga) (T := F_Ga) (N := 12) (ci := 0) (q0 := 17) (As := [.int x1]) (n := 1) C w (c_Ga_firstOneFrom l n0 G K ad X (sI (sI (sI S 1926 x1) 1927 x2) 1928 x4) x1 _ hw) (gw_V kw_757 kw_758 kw_759 kw_5 kw_760) (by decide +kernel) rfl rfl ⟨Nat.le_of_ble_eq_true rfl, Nat.le_of_ble_eq_true rfl⟩ rfl rfl rfl hl.1 rfl (Nat.le_of_ble_eq_true rfl) d_Gu_measure_151 ⟨Nat.le_of_ble_eq_true rfl, Nat.le_of_ble_eq_true rfl⟩) (fun r10 hw => ?_)
  refine lv_istore (lv' := [(11, .int r10), (10, .int v9), (9, .int v8), (8, .int v5), (7, .int v2), (6, .ref (ad 15)), (5, .ref (ad 14)), (0, .ref (ad 30)), (1, .int x1), (2, .int x2), (4, .int x4)]) hx hb d_Gu_measure_154 hl (by decide) rfl (fun ls hl => ?_)
  refine lv_iload hx hb d_Gu_measure_156 (lv_at hl 0 rfl) ?_
  refine lv_iload_n hx hb d_Gu_measure_158 rfl (lv_at hl 9 rfl) ?_
  refine lv_icmp_ge (tgt := 262) hx hb d_Gu_measure_159 (by decide) (fun hc => ?_) (fun hc => ?_)
  · have hw := hw.1 hc
    exact w_Gu_measure_262 C hr  x1 x2 x4 x4 v2 v5 v8 v9 hw _ _ _ (wn_eq w rfl) (lv_sub hl [7, 10, 4, 3, 2, 1] rfl)
  · have hw := hw.2 hc
    refine lv_iload hx hb d_Gu_measure_162 (lv_at hl 4 rfl) ?_
    refine lv_aload_n hx hb d_Gu_measure_164 rfl (lv_at hl 7 rfl) ?_
    refine kg (C1 := R_Gu) (T := F_Gu) (N := 9) (ci := 1) (ref := "LineBreaker$Gauge") (v := .ref (ad 17)) C w 30 0 iw_Gu rfl rfl (by decide) kw_199 rfl rfl d_Gu_measure_165 ?_
    refine kg (C1 := R_Ga) (T := F_Ga) (N := 12) (ci := 0) (ref := "LineBreaker$Galley") (v := .ref (ad 24)) C w 17 6 iw_Ga rfl rfl (by decide) kw_151 rfl rfl d_Gu_measure_168 ?_
    refine lv_iload_n hx hb d_Gu_measure_171 rfl (lv_at hl 9 rfl) ?_
    refine ka_i (f := (S.1 24)) C w 24 rfl hw.1 d_Gu_measure_172 ?_
    have hw := hw.2
    refine lv_aload_n hx hb d_Gu_measure_173 rfl (lv_at hl 7 rfl) ?_
    refine kg (C1 := R_Gu) (T := F_Gu) (N := 9) (ci := 1) (ref := "LineBreaker$Gauge") (v := .ref (ad 17)) C w 30 0 iw_Gu rfl rfl (by decide) kw_199 rfl rfl d_Gu_measure_174 ?_
    refine kg (C1 := R_Ga) (T := F_Ga) (N := 12) (ci := 0) (ref := "LineBreaker$Galley") (v := .ref (ad 24)) C w 17 6 iw_Ga rfl rfl (by decide) kw_151 rfl rfl d_Gu_measure_177 ?_
    refine lv_iload hx hb d_Gu_measure_180 (lv_at hl 0 rfl) ?_
    refine ka_i (f := (S.1 24)) C w 24 rfl hw.1 d_Gu_measure_182 ?_
    have hw := hw.2
    refine lv_isub hx hb d_Gu_measure_183 ?_
    refine lv_iadd hx hb d_Gu_measure_184 ?_
    refine lv_topi (fun v11 ev11 => ?_)
    have hw := hw v11 ev11
    refine lv_istore (lv' := [(7, .int v11), (11, .int r10), (10, .int v9), (9, .int v8), (8, .int v5), (6, .ref (ad 15)), (5, .ref (ad 14)), (0, .ref (ad 30)), (1, .int x1), (2, .int x2), (4, .int x4)]) hx hb d_Gu_measure_185 hl (by decide) rfl (fun ls hl => ?_)
    refine lv_iload hx hb d_Gu_measure_187 (lv_at hl 4 rfl) ?_
    refine lv_aload_n hx hb d_Gu_measure_189 rfl (lv_at hl 7 rfl) ?_
    refine kg (C1 := R_Gu) (T := F_Gu) (N := 9) (ci := 1) (ref := "LineBreaker$Gauge") (v := .ref (ad 17)) C w 30 0 iw_Gu rfl rfl (by decide) kw_199 rfl rfl d_Gu_measure_190 ?_
    refine kg (C1 := R_Ga) (T := F_Ga) (N := 12) (ci := 0) (ref := "LineBreaker$Galley") (v := .ref (ad 25)) C w 17 7 iw_Ga rfl rfl (by decide) kw_153 rfl rfl d_Gu_measure_193 ?_
    refine lv_iload_n hx hb d_Gu_measure_196 rfl (lv_at hl 9 rfl) ?_
    refine ka_i (f := (S.1 25)) C w 25 rfl hw.1 d_Gu_measure_197 ?_
    have hw := hw.2
    refine lv_aload_n hx hb d_Gu_measure_198 rfl (lv_at hl 7 rfl) ?_
    refine kg (C1 := R_Gu) (T := F_Gu) (N := 9) (ci := 1) (ref := "LineBreaker$Gauge") (v := .ref (ad 17)) C w 30 0 iw_Gu rfl rfl (by decide) kw_199 rfl rfl d_Gu_measure_199 ?_
    refine kg (C1 := R_Ga) (T := F_Ga) (N := 12) (ci := 0) (ref := "LineBreaker$Galley") (v := .ref (ad 25)) C w 17 7 iw_Ga rfl rfl (by decide) kw_153 rfl rfl d_Gu_measure_202 ?_
    refine lv_iload hx hb d_Gu_measure_205 (lv_at hl 1 rfl) ?_
    refine ka_i (f := (S.1 25)) C w 25 rfl hw.1 d_Gu_measure_207 ?_
    have hw := hw.2
    refine lv_isub hx hb d_Gu_measure_208 ?_
    refine lv_iadd hx hb d_Gu_measure_209 ?_
    refine lv_topi (fun v12 ev12 => ?_)
    have hw := hw v12 ev12
    refine lv_istore (lv' := [(8, .int v12), (7, .int v11), (11, .int r10), (10, .int v9), (9, .int v8), (6, .ref (ad 15)), (5, .ref (ad 14)), (0, .ref (ad 30)), (1, .int x1), (2, .int x2), (4, .int x4)]) hx hb d_Gu_measure_210 hl (by decide) rfl (fun ls hl => ?_)
    refine lv_iload hx hb d_Gu_measure_212 (lv_at hl 4 rfl) ?_
    refine lv_aload_n hx hb d_Gu_measure_214 rfl (lv_at hl 7 rfl) ?_
    refine kg (C1 := R_Gu) (T := F_Gu) (N := 9) (ci := 1) (ref := "LineBreaker$Gauge") (v := .ref (ad 17)) C w 30 0 iw_Gu rfl rfl (by decide) kw_199 rfl rfl d_Gu_measure_215 ?_
    refine kg (C1 := R_Ga) (T := F_Ga) (N := 12) (ci := 0) (ref := "LineBreaker$Galley") (v := .ref (ad 26)) C w 17 8 iw_Ga rfl rfl (by decide) kw_155 rfl rfl d_Gu_measure_218 ?_
    refine lv_iload_n hx hb d_Gu_measure_221 rfl (lv_at hl 9 rfl) ?_
    refine ka_i (f := (S.1 26)) C w 26 rfl hw.1 d_Gu_measure_222 ?_
    have hw := hw.2
    refine lv_aload_n hx hb d_Gu_measure_223 rfl (lv_at hl 7 rfl) ?_
    refine kg (C1 := R_Gu) (T := F_Gu) (N := 9) (ci := 1) (ref := "LineBreaker$Gauge") (v := .ref (ad 17)) C w 30 0 iw_Gu rfl rfl (by decide) kw_199 rfl rfl d_Gu_measure_224 ?_
    refine kg (C1 := R_Ga) (T := F_Ga) (N := 12) (ci := 0) (ref := "LineBreaker$Galley") (v := .ref (ad 26)) C w 17 8 iw_Ga rfl rfl (by decide) kw_155 rfl rfl d_Gu_measure_227 ?_
    refine lv_iload hx hb d_Gu_measure_230 (lv_at hl 2 rfl) ?_
    refine ka_i (f := (S.1 26)) C w 26 rfl hw.1 d_Gu_measure_232 ?_
    have hw := hw.2
    refine lv_isub hx hb d_Gu_measure_233 ?_
    refine lv_iadd hx hb d_Gu_measure_234 ?_
    refine lv_topi (fun v13 ev13 => ?_)
    have hw := hw v13 ev13
    refine lv_istore (lv' := [(9, .int v13), (8, .int v12), (7, .int v11), (11, .int r10), (10, .int v9), (6, .ref (ad 15)), (5, .ref (ad 14)), (0, .ref (ad 30)), (1, .int x1), (2, .int x2), (4, .int x4)]) hx hb d_Gu_measure_235 hl (by decide) rfl (fun ls hl => ?_)
    refine lv_iload hx hb d_Gu_measure_237 (lv_at hl 4 rfl) ?_
    refine lv_aload_n hx hb d_Gu_measure_239 rfl (lv_at hl 7 rfl) ?_
    refine kg (C1 := R_Gu) (T := F_Gu) (N := 9) (ci := 1) (ref := "LineBreaker$Gauge") (v := .ref (ad 17)) C w 30 0 iw_Gu rfl rfl (by decide) kw_199 rfl rfl d_Gu_measure_240 ?_
    refine kg (C1 := R_Ga) (T := F_Ga) (N := 12) (ci := 0) (ref := "LineBreaker$Galley") (v := .ref (ad 27)) C w 17 9 iw_Ga rfl rfl (by decide) kw_157 rfl rfl d_Gu_measure_243 ?_
    refine lv_iload_n hx hb d_Gu_measure_246 rfl (lv_at hl 9 rfl) ?_
    refine ka_i (f := (S.1 27)) C w 27 rfl hw.1 d_Gu_measure_247 ?_
    have hw := hw.2
    refine lv_aload_n hx hb d_Gu_measure_248 rfl (lv_at hl 7 rfl) ?_
    refine kg (C1 := R_Gu) (T := F_Gu) (N := 9) (ci := 1) (ref := "LineBreaker$Gauge") (v := .ref (ad 17)) C w 30 0 iw_Gu rfl rfl (by decide) kw_199 rfl rfl d_Gu_measure_249 ?_
    refine kg (C1 := R_Ga) (T := F_Ga) (N := 12) (ci := 0) (ref := "LineBreaker$Galley") (v := .ref (ad 27)) C w 17 9 iw_Ga rfl rfl (by decide) kw_157 rfl rfl d_Gu_measure_252 ?_
    refine lv_iload hx hb d_Gu_measure_255 (lv_at hl 3 rfl) ?_
    refine ka_i (f := (S.1 27)) C w 27 rfl hw.1 d_Gu_measure_257 ?_
    have hw := hw.2
    refine lv_isub hx hb d_Gu_measure_258 ?_
    refine lv_iadd hx hb d_Gu_measure_259 ?_
    refine lv_topi (fun v14 ev14 => ?_)
    have hw := hw v14 ev14
    refine lv_istore (lv' := [(10, .int v14), (9, .int v13), (8, .int v12), (7, .int v11), (11, .int r10), (6, .ref (ad 15)), (5, .ref (ad 14)), (0, .ref (ad 30)), (1, .int x1), (2, .int x2), (4, .int x4)]) hx hb d_Gu_measure_260 hl (by decide) rfl (fun ls hl => ?_)
    exact w_Gu_measure_262 C hr  x1 x2 x4 x4 v11 v12 v13 v14 hw _ _ _ (wn_eq w rfl) (lv_sub hl [7, 10, 3, 2, 1, 0] rfl)
set_option maxHeartbeats 4000000 in
set_option maxRecDepth 100000 in
theorem c_Gu_measure (l : Launch) (n0 : Nat) (G : va_G) (K : KT) (ad : Nat → Nat) (X : va_W) (S : ST) (p1 : Int32) (p2 : Int32) (p3 : Int32) (post : Int32 → Int32 → Int32 → Int32 → Int32 → Int32 → Prop) (hw : wp_Gu_measure S p1 p2 p3 post) : Met l y_Gu_measure (Cond.code y_Gu_measure prog_3_method_3_code 12 none :: gw) rm_Gu_measure (va_Pc [.ref (ad 30), .int p1, .int p2, .int p3] (wb n0 G K (wC K ad S ++ X))) (va_Qv (fun (u : Int32 × Int32 × Int32 × Int32 × Int32 × Int32) => post u.1 u.2.1 u.2.2.1 u.2.2.2.1 u.2.2.2.2.1 u.2.2.2.2.2) (fun (u : Int32 × Int32 × Int32 × Int32 × Int32 × Int32) t => we n0 G (wC K ad (sI (sI (sI (sI (sI (sI S 1923 u.1) 1924 u.2.1) 1925 u.2.2.1) 1926 u.2.2.2.1) 1927 u.2.2.2.2.1) 1928 u.2.2.2.2.2) ++ X) t) (al n0)) 0 0 (al n0) := by
  refine kb_start (own := "LineBreaker$Gauge") (by decide +kernel) rfl ?_
  intro p e s m below meth c C hr hne w
  have hx := C.1
  have hb := C.2.1
  have hts := C.2.2.2.2.1
  have hl := lv_entry ([.ref (ad 30), .int p1, .int p2, .int p3]) (n := 12) (Nat.le_of_ble_eq_true rfl)
  rw [lg_entry_eq]
  generalize (lg_sl ([.ref (ad 30), .int p1, .int p2, .int p3]) ++ List.replicate (12 - (lg_sl ([.ref (ad 30), .int p1, .int p2, .int p3])).length) Slot.unset).toArray = ls at hl ⊢
  have hl : lv_has ls 12 [(0, .ref (ad 30)), (1, .int p1), (2, .int p2), (3, .int p3)] := hl
  unfold wp_Gu_measure at hw
  refine lv_aload_n hx hb d_Gu_measure_0 rfl (lv_at hl 0 rfl) ?_
  refine kg (C1 := R_Gu) (T := F_Gu) (N := 9) (ci := 1) (ref := "LineBreaker$Gauge") (v := .ref (ad 11)) C w 30 1 iw_Gu rfl rfl (by decide) kw_200 rfl rfl d_Gu_measure_1 ?_
  refine lv_iload_n hx hb d_Gu_measure_4 rfl (lv_at hl 3 rfl) ?_
  refine kd_i (kr_V (y := y_St_widthOfLine) (C1 := R_St) (T := F_St) (N := 5) (ci := 8) (q0 := 11) (As := [.int p3]) (n := 1) C w (c_St_widthOfLine l n0 G K ad X S p3 _ hw) (gw_V kw_746 kw_747 kw_748 kw_3 kw_749) (by decide +kernel) rfl rfl ⟨Nat.le_of_ble_eq_true rfl, Nat.le_of_ble_eq_true rfl⟩ rfl rfl rfl hl.1 rfl (Nat.le_of_ble_eq_true rfl) d_Gu_measure_5 ⟨Nat.le_of_ble_eq_true rfl, Nat.le_of_ble_eq_true rfl⟩) (fun r1 hw => ?_)
  refine lv_istore (lv' := [(4, .int r1), (0, .ref (ad 30)), (1, .int p1), (2, .int p2), (3, .int p3)]) hx hb d_Gu_measure_8 hl (by decide) rfl (fun ls hl => ?_)
  refine lv_iload_n hx hb d_Gu_measure_10 rfl (lv_at hl 3 rfl) ?_
  refine lv_aload_n hx hb d_Gu_measure_11 rfl (lv_at hl 1 rfl) ?_
  refine kg (C1 := R_Gu) (T := F_Gu) (N := 9) (ci := 1) (ref := "LineBreaker$Gauge") (v := .int (S.2.2 1927)) C w 30 7 iw_Gu rfl rfl (by decide) kw_211 rfl rfl d_Gu_measure_12 ?_
  refine lv_icmp_ne (tgt := 36) hx hb d_Gu_measure_15 (by decide) (fun hc => ?_) (fun hc => ?_)
  · have hw := hw.1 hc
    exact w_Gu_measure_36 C hr  p1 p2 r1 hw _ _ _ (wn_eq w rfl) (lv_sub hl [1, 2, 3, 0] rfl)
  · have hw := hw.2 hc
    refine lv_iload_n hx hb d_Gu_measure_18 rfl (lv_at hl 2 rfl) ?_
    refine lv_aload_n hx hb d_Gu_measure_19 rfl (lv_at hl 1 rfl) ?_
    refine kg (C1 := R_Gu) (T := F_Gu) (N := 9) (ci := 1) (ref := "LineBreaker$Gauge") (v := .int (S.2.2 1926)) C w 30 6 iw_Gu rfl rfl (by decide) kw_210 rfl rfl d_Gu_measure_20 ?_
    refine lv_icmp_ne (tgt := 36) hx hb d_Gu_measure_23 (by decide) (fun hc => ?_) (fun hc => ?_)
    · have hw := hw.1 hc
      exact w_Gu_measure_36 C hr  p1 p2 r1 hw _ _ _ (wn_eq w rfl) (lv_sub hl [1, 2, 3, 0] rfl)
    · have hw := hw.2 hc
      refine lv_iload hx hb d_Gu_measure_26 (lv_at hl 0 rfl) ?_
      refine lv_aload_n hx hb d_Gu_measure_28 rfl (lv_at hl 1 rfl) ?_
      refine kg (C1 := R_Gu) (T := F_Gu) (N := 9) (ci := 1) (ref := "LineBreaker$Gauge") (v := .int (S.2.2 1928)) C w 30 8 iw_Gu rfl rfl (by decide) kw_212 rfl rfl d_Gu_measure_29 ?_
      refine lv_icmp_ne (tgt := 36) hx hb d_Gu_measure_32 (by decide) (fun hc => ?_) (fun hc => ?_)
      · have hw := hw.1 hc
        exact w_Gu_measure_36 C hr  p1 p2 r1 hw _ _ _ (wn_eq w rfl) (lv_sub hl [1, 2, 3, 0] rfl)
      · have hw := hw.2 hc
        exact ke_v (post := (fun (u : Int32 × Int32 × Int32 × Int32 × Int32 × Int32) => post u.1 u.2.1 u.2.2.1 u.2.2.2.1 u.2.2.2.2.1 u.2.2.2.2.2)) (st := (fun (u : Int32 × Int32 × Int32 × Int32 × Int32 × Int32) => wC K ad (sI (sI (sI (sI (sI (sI S 1923 u.1) 1924 u.2.1) 1925 u.2.2.1) 1926 u.2.2.2.1) 1927 u.2.2.2.2.1) 1928 u.2.2.2.2.2) ++ X)) (u := ((S.2.2 1923), (S.2.2 1924), (S.2.2 1925), (S.2.2 1926), (S.2.2 1927), (S.2.2 1928))) C hr d_Gu_measure_35 (wn_eq w rfl) hw
set_option maxHeartbeats 4000000 in
set_option maxRecDepth 100000 in
theorem c_Se_measureFrom (l : Launch) (n0 : Nat) (G : va_G) (K : KT) (ad : Nat → Nat) (X : va_W) (S : ST) (p1 : Int32) (p2 : Int32) (post : Int32 → Int32 → Int32 → Int32 → Int32 → Int32 → Prop) (hw : wp_Se_measureFrom S p1 p2 post) : Met l y_Se_measureFrom (Cond.code y_Se_measureFrom prog_9_method_4_code 3 none :: gw) rm_Se_measureFrom (va_Pc [.ref (ad 29), .int p1, .int p2] (wb n0 G K (wC K ad S ++ X))) (va_Qv (fun (u : Int32 × Int32 × Int32 × Int32 × Int32 × Int32) => post u.1 u.2.1 u.2.2.1 u.2.2.2.1 u.2.2.2.2.1 u.2.2.2.2.2) (fun (u : Int32 × Int32 × Int32 × Int32 × Int32 × Int32) t => we n0 G (wC K ad (sI (sI (sI (sI (sI (sI S 1923 u.1) 1924 u.2.1) 1925 u.2.2.1) 1926 u.2.2.2.1) 1927 u.2.2.2.2.1) 1928 u.2.2.2.2.2) ++ X) t) (al n0)) 0 0 (al n0) := by
  refine kb_start (own := "LineBreaker$Search") (by decide +kernel) rfl ?_
  intro p e s m below meth c C hr hne w
  have hx := C.1
  have hb := C.2.1
  have hts := C.2.2.2.2.1
  have hl := lv_entry ([.ref (ad 29), .int p1, .int p2]) (n := 3) (Nat.le_of_ble_eq_true rfl)
  rw [lg_entry_eq]
  generalize (lg_sl ([.ref (ad 29), .int p1, .int p2]) ++ List.replicate (3 - (lg_sl ([.ref (ad 29), .int p1, .int p2])).length) Slot.unset).toArray = ls at hl ⊢
  have hl : lv_has ls 3 [(0, .ref (ad 29)), (1, .int p1), (2, .int p2)] := hl
  unfold wp_Se_measureFrom at hw
  refine lv_aload_n hx hb d_Se_measureFrom_0 rfl (lv_at hl 0 rfl) ?_
  refine kg (C1 := R_Se) (T := F_Se) (N := 10) (ci := 7) (ref := "LineBreaker$Search") (v := .ref (ad 30)) C w 29 2 iw_Se rfl rfl (by decide) kw_296 rfl rfl d_Se_measureFrom_1 ?_
  refine lv_aload_n hx hb d_Se_measureFrom_4 rfl (lv_at hl 0 rfl) ?_
  refine kg (C1 := R_Se) (T := F_Se) (N := 10) (ci := 7) (ref := "LineBreaker$Search") (v := .ref (ad 31)) C w 29 3 iw_Se rfl rfl (by decide) kw_298 rfl rfl d_Se_measureFrom_5 ?_
  refine kg (C1 := R_No) (T := F_No) (N := 6) (ci := 3) (ref := "LineBreaker$Nodes") (v := .ref (ad 32)) C w 31 0 iw_No rfl rfl (by decide) kw_240 rfl rfl d_Se_measureFrom_8 ?_
  refine lv_iload_n hx hb d_Se_measureFrom_11 rfl (lv_at hl 1 rfl) ?_
  refine ka_i (f := (S.1 32)) C w 32 rfl hw.1 d_Se_measureFrom_12 ?_
  have hw := hw.2
  refine lv_iload_n hx hb d_Se_measureFrom_13 rfl (lv_at hl 2 rfl) ?_
  refine lv_aload_n hx hb d_Se_measureFrom_14 rfl (lv_at hl 0 rfl) ?_
  refine kg (C1 := R_Se) (T := F_Se) (N := 10) (ci := 7) (ref := "LineBreaker$Search") (v := .ref (ad 31)) C w 29 3 iw_Se rfl rfl (by decide) kw_298 rfl rfl d_Se_measureFrom_15 ?_
  refine kg (C1 := R_No) (T := F_No) (N := 6) (ci := 3) (ref := "LineBreaker$Nodes") (v := .ref (ad 33)) C w 31 1 iw_No rfl rfl (by decide) kw_244 rfl rfl d_Se_measureFrom_18 ?_
  refine lv_iload_n hx hb d_Se_measureFrom_21 rfl (lv_at hl 1 rfl) ?_
  refine ka_i (f := (S.1 33)) C w 33 rfl hw.1 d_Se_measureFrom_22 ?_
  have hw := hw.2
  refine kc_v (st := fun (u : Int32 × Int32 × Int32 × Int32 × Int32 × Int32) => wC K ad (sI (sI (sI (sI (sI (sI S 1923 u.1) 1924 u.2.1) 1925 u.2.2.1) 1926 u.2.2.2.1) 1927 u.2.2.2.2.1) 1928 u.2.2.2.2.2) ++ X) w (kr_V (y := y_Gu_measure) (C1 := R_Gu) (T := F_Gu) (N := 9) (ci := 1) (q0 := 30) (As := [.int ((S.1 32) p1.toNatClampNeg), .int p2, .int ((S.1 33) p1.toNatClampNeg)]) (n := 3) C w (c_Gu_measure l n0 G K ad X S ((S.1 32) p1.toNatClampNeg) p2 ((S.1 33) p1.toNatClampNeg) _ hw) (gw_V kw_742 kw_743 kw_744 kw_7 kw_745) (by decide +kernel) rfl rfl ⟨Nat.le_of_ble_eq_true rfl, Nat.le_of_ble_eq_true rfl⟩ rfl rfl rfl hl.1 rfl (Nat.le_of_ble_eq_true rfl) d_Se_measureFrom_23 ⟨Nat.le_of_ble_eq_true rfl, Nat.le_of_ble_eq_true rfl⟩) (fun u H locs hw w => ?_)
  obtain ⟨v1, v2, v3, v4, v5, v6⟩ := u
  dsimp only at hw
  have w : wn n0 G (wC K ad (sI (sI (sI (sI (sI (sI S 1923 v1) 1924 v2) 1925 v3) 1926 v4) 1927 v5) 1928 v6) ++ X) s H locs := w
  exact ke_v (post := (fun (u : Int32 × Int32 × Int32 × Int32 × Int32 × Int32) => post u.1 u.2.1 u.2.2.1 u.2.2.2.1 u.2.2.2.2.1 u.2.2.2.2.2)) (st := (fun (u : Int32 × Int32 × Int32 × Int32 × Int32 × Int32) => wC K ad (sI (sI (sI (sI (sI (sI S 1923 u.1) 1924 u.2.1) 1925 u.2.2.1) 1926 u.2.2.2.1) 1927 u.2.2.2.2.1) 1928 u.2.2.2.2.2) ++ X)) (u := (v1, v2, v3, v4, v5, v6)) C hr d_Se_measureFrom_26 (wn_eq w rfl) hw
end
