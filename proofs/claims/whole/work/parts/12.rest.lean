theorem kw_53 : (Jvm.Cond.fieldLink "LineBreaker$Paragraph" (39 : Nat) "LineBreaker$Paragraph" "count" "I") ∈ gw := gw_t (List.mem_of_getElem? (i := 53) (by decide +kernel)) (by decide +kernel)
theorem kw_35 : (Jvm.Cond.fieldLink "LineBreaker$Paragraph" (9 : Nat) "LineBreaker$Paragraph" "kind" "[I") ∈ gw := gw_t (List.mem_of_getElem? (i := 35) (by decide +kernel)) (by decide +kernel)
theorem kw_580 : (Jvm.Cond.constant "LineBreaker" (222 : Nat) (-1073741824 : Int32)) ∈ gw := gw_t (List.mem_of_getElem? (i := 580) (by decide +kernel)) (by decide +kernel)
theorem kw_147 : (Jvm.Cond.fieldLink "LineBreaker$Galley" (25 : Nat) "LineBreaker$Galley" "before" "[I") ∈ gw := gw_t (List.mem_of_getElem? (i := 147) (by decide +kernel)) (by decide +kernel)
theorem kw_48 : (Jvm.Cond.fieldLink "LineBreaker$Galley" (83 : Nat) "LineBreaker$Paragraph" "before" "[I") ∈ gw := gw_t (List.mem_of_getElem? (i := 48) (by decide +kernel)) (by decide +kernel)
theorem kw_50 : (Jvm.Cond.fieldLink "LineBreaker$Galley" (92 : Nat) "LineBreaker$Paragraph" "behind" "[I") ∈ gw := gw_t (List.mem_of_getElem? (i := 50) (by decide +kernel)) (by decide +kernel)
theorem kw_649 : (Jvm.Cond.code ({ cls := "LineBreaker", name := "widthOf", desc := "(I)I" } : Jvm.MethodName) prog_1_method_25_code (1 : Nat) (Option.some Jvm.ClassFile.FieldType.int)) ∈ gw := gw_t (List.mem_of_getElem? (i := 649) (by decide +kernel)) (by decide +kernel)
theorem kw_648 : (Jvm.Cond.static ({ cls := "LineBreaker", name := "widthOf", desc := "(I)I" } : Jvm.MethodName)) ∈ gw := gw_t (List.mem_of_getElem? (i := 648) (by decide +kernel)) (by decide +kernel)
theorem kw_1 : (Jvm.Cond.initialized "LineBreaker") ∈ gw := gw_t (List.mem_of_getElem? (i := 1) (by decide +kernel)) (by decide +kernel)
theorem kw_143 : (Jvm.Cond.fieldLink "LineBreaker$Galley" (15 : Nat) "LineBreaker$Galley" "penalty" "[I") ∈ gw := gw_t (List.mem_of_getElem? (i := 143) (by decide +kernel)) (by decide +kernel)
theorem kw_112 : (Jvm.Cond.fieldLink "LineBreaker$Galley" (85 : Nat) "LineBreaker$Settings" "values" "[I") ∈ gw := gw_t (List.mem_of_getElem? (i := 112) (by decide +kernel)) (by decide +kernel)
theorem kw_36 : (Jvm.Cond.fieldLink "LineBreaker$Galley" (81 : Nat) "LineBreaker$Paragraph" "kind" "[I") ∈ gw := gw_t (List.mem_of_getElem? (i := 36) (by decide +kernel)) (by decide +kernel)
theorem kw_46 : (Jvm.Cond.fieldLink "LineBreaker$Galley" (82 : Nat) "LineBreaker$Paragraph" "penalty" "[I") ∈ gw := gw_t (List.mem_of_getElem? (i := 46) (by decide +kernel)) (by decide +kernel)
theorem kw_677 : (Jvm.Cond.constant "LineBreaker$Galley" (84 : Nat) (-1073741824 : Int32)) ∈ gw := gw_t (List.mem_of_getElem? (i := 677) (by decide +kernel)) (by decide +kernel)
theorem kw_159 : (Jvm.Cond.fieldLink "LineBreaker$Galley" (52 : Nat) "LineBreaker$Galley" "last" "I") ∈ gw := gw_t (List.mem_of_getElem? (i := 159) (by decide +kernel)) (by decide +kernel)
theorem kw_156 : (Jvm.Cond.fieldLink "LineBreaker$Galley" (40 : Nat) "LineBreaker$Galley" "shrinkUpTo" "[I") ∈ gw := gw_t (List.mem_of_getElem? (i := 156) (by decide +kernel)) (by decide +kernel)
theorem kw_44 : (Jvm.Cond.fieldLink "LineBreaker$Galley" (102 : Nat) "LineBreaker$Paragraph" "shrink" "[I") ∈ gw := gw_t (List.mem_of_getElem? (i := 44) (by decide +kernel)) (by decide +kernel)
theorem kw_154 : (Jvm.Cond.fieldLink "LineBreaker$Galley" (37 : Nat) "LineBreaker$Galley" "endlessUpTo" "[I") ∈ gw := gw_t (List.mem_of_getElem? (i := 154) (by decide +kernel)) (by decide +kernel)
theorem kw_40 : (Jvm.Cond.fieldLink "LineBreaker$Galley" (96 : Nat) "LineBreaker$Paragraph" "stretch" "[I") ∈ gw := gw_t (List.mem_of_getElem? (i := 40) (by decide +kernel)) (by decide +kernel)
theorem kw_150 : (Jvm.Cond.fieldLink "LineBreaker$Galley" (31 : Nat) "LineBreaker$Galley" "widthUpTo" "[I") ∈ gw := gw_t (List.mem_of_getElem? (i := 150) (by decide +kernel)) (by decide +kernel)
theorem kw_38 : (Jvm.Cond.fieldLink "LineBreaker$Galley" (99 : Nat) "LineBreaker$Paragraph" "width" "[I") ∈ gw := gw_t (List.mem_of_getElem? (i := 38) (by decide +kernel)) (by decide +kernel)
theorem kw_152 : (Jvm.Cond.fieldLink "LineBreaker$Galley" (34 : Nat) "LineBreaker$Galley" "finiteUpTo" "[I") ∈ gw := gw_t (List.mem_of_getElem? (i := 152) (by decide +kernel)) (by decide +kernel)
theorem kw_92 : (Jvm.Cond.fieldLink "LineBreaker$Galley" (105 : Nat) "LineBreaker$Glue" "width" "I") ∈ gw := gw_t (List.mem_of_getElem? (i := 92) (by decide +kernel)) (by decide +kernel)
theorem kw_99 : (Jvm.Cond.fieldLink "LineBreaker$Galley" (115 : Nat) "LineBreaker$Glue" "shrink" "I") ∈ gw := gw_t (List.mem_of_getElem? (i := 99) (by decide +kernel)) (by decide +kernel)
theorem kw_691 : (Jvm.Cond.methodLink "LineBreaker$Galley" (112 : Nat) ({ cls := "LineBreaker$Glue", name := "endlessStretch", desc := "()I" } : Jvm.MethodName)) ∈ gw := gw_t (List.mem_of_getElem? (i := 691) (by decide +kernel)) (by decide +kernel)
theorem kw_687 : (Jvm.Cond.methodLink "LineBreaker$Galley" (109 : Nat) ({ cls := "LineBreaker$Glue", name := "finiteStretch", desc := "()I" } : Jvm.MethodName)) ∈ gw := gw_t (List.mem_of_getElem? (i := 687) (by decide +kernel)) (by decide +kernel)
theorem kw_42 : (Jvm.Cond.fieldLink "LineBreaker$Galley" (93 : Nat) "LineBreaker$Paragraph" "order" "[I") ∈ gw := gw_t (List.mem_of_getElem? (i := 42) (by decide +kernel)) (by decide +kernel)
theorem kw_52 : (Jvm.Cond.fieldLink "LineBreaker$Galley" (121 : Nat) "LineBreaker$Paragraph" "replaced" "[I") ∈ gw := gw_t (List.mem_of_getElem? (i := 52) (by decide +kernel)) (by decide +kernel)
theorem kw_702 : (Jvm.Cond.code ({ cls := "LineBreaker$Galley", name := "mayBreak", desc := "(II)Z" } : Jvm.MethodName) prog_2_method_11_code (3 : Nat) (Option.some Jvm.ClassFile.FieldType.boolean)) ∈ gw := gw_t (List.mem_of_getElem? (i := 702) (by decide +kernel)) (by decide +kernel)
theorem kw_699 : (Jvm.Cond.methodLink "LineBreaker$Galley" (117 : Nat) ({ cls := "LineBreaker$Galley", name := "mayBreak", desc := "(II)Z" } : Jvm.MethodName)) ∈ gw := gw_t (List.mem_of_getElem? (i := 699) (by decide +kernel)) (by decide +kernel)
theorem kw_701 : (Jvm.Cond.instanceMethod ({ cls := "LineBreaker$Galley", name := "mayBreak", desc := "(II)Z" } : Jvm.MethodName)) ∈ gw := gw_t (List.mem_of_getElem? (i := 701) (by decide +kernel)) (by decide +kernel)
theorem kp_8 : Cond.selects "LineBreaker$Galley" ⟨"LineBreaker$Galley", "mayBreak", "(II)Z"⟩ ⟨"LineBreaker$Galley", "mayBreak", "(II)Z"⟩ ∈ gw := gw_s (List.mem_of_getElem? (i := 8) (by decide +kernel)) (by decide +kernel)
theorem kw_158 : (Jvm.Cond.fieldLink "LineBreaker$Galley" (43 : Nat) "LineBreaker$Galley" "nextKept" "[I") ∈ gw := gw_t (List.mem_of_getElem? (i := 158) (by decide +kernel)) (by decide +kernel)
theorem kw_710 : (Jvm.Cond.methodLink "LineBreaker$Galley" (128 : Nat) ({ cls := "java/lang/Math", name := "min", desc := "(II)I" } : Jvm.MethodName)) ∈ gw := gw_t (List.mem_of_getElem? (i := 710) (by decide +kernel)) (by decide +kernel)
theorem kw_709 : (Jvm.Cond.code ({ cls := "LineBreaker$Galley", name := "isLeftOut", desc := "(I)Z" } : Jvm.MethodName) prog_2_method_13_code (1 : Nat) (Option.some Jvm.ClassFile.FieldType.boolean)) ∈ gw := gw_t (List.mem_of_getElem? (i := 709) (by decide +kernel)) (by decide +kernel)
theorem kw_708 : (Jvm.Cond.static ({ cls := "LineBreaker$Galley", name := "isLeftOut", desc := "(I)Z" } : Jvm.MethodName)) ∈ gw := gw_t (List.mem_of_getElem? (i := 708) (by decide +kernel)) (by decide +kernel)
theorem kw_707 : (Jvm.Cond.methodLink "LineBreaker$Galley" (124 : Nat) ({ cls := "LineBreaker$Galley", name := "isLeftOut", desc := "(I)Z" } : Jvm.MethodName)) ∈ gw := gw_t (List.mem_of_getElem? (i := 707) (by decide +kernel)) (by decide +kernel)
theorem kw_123 : (Jvm.Cond.fieldLink "LineBreaker$Galley" (64 : Nat) "LineBreaker$Settings" "fill" "LLineBreaker$Glue;") ∈ gw := gw_t (List.mem_of_getElem? (i := 123) (by decide +kernel)) (by decide +kernel)
theorem kw_706 : (Jvm.Cond.code ({ cls := "LineBreaker$Galley", name := "findFirstOnes", desc := "(LLineBreaker$Paragraph;I)V" } : Jvm.MethodName) prog_2_method_12_code (5 : Nat) (Option.none : Option Jvm.ClassFile.FieldType)) ∈ gw := gw_t (List.mem_of_getElem? (i := 706) (by decide +kernel)) (by decide +kernel)
theorem kw_703 : (Jvm.Cond.methodLink "LineBreaker$Galley" (78 : Nat) ({ cls := "LineBreaker$Galley", name := "findFirstOnes", desc := "(LLineBreaker$Paragraph;I)V" } : Jvm.MethodName)) ∈ gw := gw_t (List.mem_of_getElem? (i := 703) (by decide +kernel)) (by decide +kernel)
theorem kw_705 : (Jvm.Cond.instanceMethod ({ cls := "LineBreaker$Galley", name := "findFirstOnes", desc := "(LLineBreaker$Paragraph;I)V" } : Jvm.MethodName)) ∈ gw := gw_t (List.mem_of_getElem? (i := 705) (by decide +kernel)) (by decide +kernel)
theorem kp_9 : Cond.selects "LineBreaker$Galley" ⟨"LineBreaker$Galley", "findFirstOnes", "(LLineBreaker$Paragraph;I)V"⟩ ⟨"LineBreaker$Galley", "findFirstOnes", "(LLineBreaker$Paragraph;I)V"⟩ ∈ gw := gw_s (List.mem_of_getElem? (i := 9) (by decide +kernel)) (by decide +kernel)
theorem kw_698 : (Jvm.Cond.code ({ cls := "LineBreaker$Galley", name := "markPlaces", desc := "(LLineBreaker$Paragraph;I)V" } : Jvm.MethodName) prog_2_method_10_code (5 : Nat) (Option.none : Option Jvm.ClassFile.FieldType)) ∈ gw := gw_t (List.mem_of_getElem? (i := 698) (by decide +kernel)) (by decide +kernel)
theorem kw_695 : (Jvm.Cond.methodLink "LineBreaker$Galley" (74 : Nat) ({ cls := "LineBreaker$Galley", name := "markPlaces", desc := "(LLineBreaker$Paragraph;I)V" } : Jvm.MethodName)) ∈ gw := gw_t (List.mem_of_getElem? (i := 695) (by decide +kernel)) (by decide +kernel)
theorem kw_697 : (Jvm.Cond.instanceMethod ({ cls := "LineBreaker$Galley", name := "markPlaces", desc := "(LLineBreaker$Paragraph;I)V" } : Jvm.MethodName)) ∈ gw := gw_t (List.mem_of_getElem? (i := 697) (by decide +kernel)) (by decide +kernel)
theorem kp_7 : Cond.selects "LineBreaker$Galley" ⟨"LineBreaker$Galley", "markPlaces", "(LLineBreaker$Paragraph;I)V"⟩ ⟨"LineBreaker$Galley", "markPlaces", "(LLineBreaker$Paragraph;I)V"⟩ ∈ gw := gw_s (List.mem_of_getElem? (i := 7) (by decide +kernel)) (by decide +kernel)
theorem kw_686 : (Jvm.Cond.code ({ cls := "LineBreaker$Galley", name := "sumUp", desc := "(LLineBreaker$Paragraph;LLineBreaker$Glue;I)V" } : Jvm.MethodName) prog_2_method_9_code (7 : Nat) (Option.none : Option Jvm.ClassFile.FieldType)) ∈ gw := gw_t (List.mem_of_getElem? (i := 686) (by decide +kernel)) (by decide +kernel)
theorem kw_683 : (Jvm.Cond.methodLink "LineBreaker$Galley" (70 : Nat) ({ cls := "LineBreaker$Galley", name := "sumUp", desc := "(LLineBreaker$Paragraph;LLineBreaker$Glue;I)V" } : Jvm.MethodName)) ∈ gw := gw_t (List.mem_of_getElem? (i := 683) (by decide +kernel)) (by decide +kernel)
theorem kw_685 : (Jvm.Cond.instanceMethod ({ cls := "LineBreaker$Galley", name := "sumUp", desc := "(LLineBreaker$Paragraph;LLineBreaker$Glue;I)V" } : Jvm.MethodName)) ∈ gw := gw_t (List.mem_of_getElem? (i := 685) (by decide +kernel)) (by decide +kernel)
theorem kp_6 : Cond.selects "LineBreaker$Galley" ⟨"LineBreaker$Galley", "sumUp", "(LLineBreaker$Paragraph;LLineBreaker$Glue;I)V"⟩ ⟨"LineBreaker$Galley", "sumUp", "(LLineBreaker$Paragraph;LLineBreaker$Glue;I)V"⟩ ∈ gw := gw_s (List.mem_of_getElem? (i := 6) (by decide +kernel)) (by decide +kernel)
theorem kw_682 : (Jvm.Cond.code ({ cls := "LineBreaker$Galley", name := "close", desc := "(I)V" } : Jvm.MethodName) prog_2_method_8_code (3 : Nat) (Option.none : Option Jvm.ClassFile.FieldType)) ∈ gw := gw_t (List.mem_of_getElem? (i := 682) (by decide +kernel)) (by decide +kernel)
theorem kw_679 : (Jvm.Cond.methodLink "LineBreaker$Galley" (60 : Nat) ({ cls := "LineBreaker$Galley", name := "close", desc := "(I)V" } : Jvm.MethodName)) ∈ gw := gw_t (List.mem_of_getElem? (i := 679) (by decide +kernel)) (by decide +kernel)
theorem kw_681 : (Jvm.Cond.instanceMethod ({ cls := "LineBreaker$Galley", name := "close", desc := "(I)V" } : Jvm.MethodName)) ∈ gw := gw_t (List.mem_of_getElem? (i := 681) (by decide +kernel)) (by decide +kernel)
theorem kp_5 : Cond.selects "LineBreaker$Galley" ⟨"LineBreaker$Galley", "close", "(I)V"⟩ ⟨"LineBreaker$Galley", "close", "(I)V"⟩ ∈ gw := gw_s (List.mem_of_getElem? (i := 5) (by decide +kernel)) (by decide +kernel)
theorem kw_676 : (Jvm.Cond.code ({ cls := "LineBreaker$Galley", name := "copyItems", desc := "(LLineBreaker$Paragraph;LLineBreaker$Settings;I)V" } : Jvm.MethodName) prog_2_method_7_code (6 : Nat) (Option.none : Option Jvm.ClassFile.FieldType)) ∈ gw := gw_t (List.mem_of_getElem? (i := 676) (by decide +kernel)) (by decide +kernel)
theorem kw_673 : (Jvm.Cond.methodLink "LineBreaker$Galley" (56 : Nat) ({ cls := "LineBreaker$Galley", name := "copyItems", desc := "(LLineBreaker$Paragraph;LLineBreaker$Settings;I)V" } : Jvm.MethodName)) ∈ gw := gw_t (List.mem_of_getElem? (i := 673) (by decide +kernel)) (by decide +kernel)
theorem kw_675 : (Jvm.Cond.instanceMethod ({ cls := "LineBreaker$Galley", name := "copyItems", desc := "(LLineBreaker$Paragraph;LLineBreaker$Settings;I)V" } : Jvm.MethodName)) ∈ gw := gw_t (List.mem_of_getElem? (i := 675) (by decide +kernel)) (by decide +kernel)
theorem kp_4 : Cond.selects "LineBreaker$Galley" ⟨"LineBreaker$Galley", "copyItems", "(LLineBreaker$Paragraph;LLineBreaker$Settings;I)V"⟩ ⟨"LineBreaker$Galley", "copyItems", "(LLineBreaker$Paragraph;LLineBreaker$Settings;I)V"⟩ ∈ gw := gw_s (List.mem_of_getElem? (i := 4) (by decide +kernel)) (by decide +kernel)
theorem kw_672 : (Jvm.Cond.code ({ cls := "LineBreaker$Paragraph", name := "countWithoutLastGlue", desc := "()I" } : Jvm.MethodName) prog_8_method_7_code (1 : Nat) (Option.some Jvm.ClassFile.FieldType.int)) ∈ gw := gw_t (List.mem_of_getElem? (i := 672) (by decide +kernel)) (by decide +kernel)
theorem kw_669 : (Jvm.Cond.methodLink "LineBreaker$Galley" (46 : Nat) ({ cls := "LineBreaker$Paragraph", name := "countWithoutLastGlue", desc := "()I" } : Jvm.MethodName)) ∈ gw := gw_t (List.mem_of_getElem? (i := 669) (by decide +kernel)) (by decide +kernel)
theorem kw_670 : (Jvm.Cond.instanceMethod ({ cls := "LineBreaker$Paragraph", name := "countWithoutLastGlue", desc := "()I" } : Jvm.MethodName)) ∈ gw := gw_t (List.mem_of_getElem? (i := 670) (by decide +kernel)) (by decide +kernel)
theorem kw_671 : (Jvm.Cond.selects "LineBreaker$Paragraph" ({ cls := "LineBreaker$Paragraph", name := "countWithoutLastGlue", desc := "()I" } : Jvm.MethodName) ({ cls := "LineBreaker$Paragraph", name := "countWithoutLastGlue", desc := "()I" } : Jvm.MethodName)) ∈ gw := gw_t (List.mem_of_getElem? (i := 671) (by decide +kernel)) (by decide +kernel)
theorem kw_2 : (Jvm.Cond.initialized "LineBreaker$Paragraph") ∈ gw := gw_t (List.mem_of_getElem? (i := 2) (by decide +kernel)) (by decide +kernel)
theorem kw_339 : (Jvm.Cond.fieldLink "LineBreaker$Outcome" (20 : Nat) "LineBreaker$Outcome" "count" "I") ∈ gw := gw_t (List.mem_of_getElem? (i := 339) (by decide +kernel)) (by decide +kernel)
theorem kw_341 : (Jvm.Cond.fieldLink "LineBreaker$Outcome" (24 : Nat) "LineBreaker$Outcome" "passNumber" "I") ∈ gw := gw_t (List.mem_of_getElem? (i := 341) (by decide +kernel)) (by decide +kernel)
theorem kw_343 : (Jvm.Cond.fieldLink "LineBreaker$Outcome" (27 : Nat) "LineBreaker$Outcome" "nodesMade" "I") ∈ gw := gw_t (List.mem_of_getElem? (i := 343) (by decide +kernel)) (by decide +kernel)
theorem kw_250 : (Jvm.Cond.fieldLink "LineBreaker$Outcome" (43 : Nat) "LineBreaker$Nodes" "former" "[I") ∈ gw := gw_t (List.mem_of_getElem? (i := 250) (by decide +kernel)) (by decide +kernel)
theorem kw_239 : (Jvm.Cond.fieldLink "LineBreaker$Outcome" (46 : Nat) "LineBreaker$Nodes" "place" "[I") ∈ gw := gw_t (List.mem_of_getElem? (i := 239) (by decide +kernel)) (by decide +kernel)
theorem kw_335 : (Jvm.Cond.fieldLink "LineBreaker$Outcome" (13 : Nat) "LineBreaker$Outcome" "facts" "[[I") ∈ gw := gw_t (List.mem_of_getElem? (i := 335) (by decide +kernel)) (by decide +kernel)
theorem kw_294 : (Jvm.Cond.fieldLink "LineBreaker$Outcome" (53 : Nat) "LineBreaker$Search" "galley" "LLineBreaker$Galley;") ∈ gw := gw_t (List.mem_of_getElem? (i := 294) (by decide +kernel)) (by decide +kernel)
theorem kw_297 : (Jvm.Cond.fieldLink "LineBreaker$Outcome" (63 : Nat) "LineBreaker$Search" "gauge" "LLineBreaker$Gauge;") ∈ gw := gw_t (List.mem_of_getElem? (i := 297) (by decide +kernel)) (by decide +kernel)
theorem kw_202 : (Jvm.Cond.fieldLink "LineBreaker$Outcome" (67 : Nat) "LineBreaker$Gauge" "shortfall" "I") ∈ gw := gw_t (List.mem_of_getElem? (i := 202) (by decide +kernel)) (by decide +kernel)
theorem kw_205 : (Jvm.Cond.fieldLink "LineBreaker$Outcome" (72 : Nat) "LineBreaker$Gauge" "badness" "I") ∈ gw := gw_t (List.mem_of_getElem? (i := 205) (by decide +kernel)) (by decide +kernel)
theorem kw_207 : (Jvm.Cond.fieldLink "LineBreaker$Outcome" (75 : Nat) "LineBreaker$Gauge" "fit" "I") ∈ gw := gw_t (List.mem_of_getElem? (i := 207) (by decide +kernel)) (by decide +kernel)
theorem kw_337 : (Jvm.Cond.fieldLink "LineBreaker$Outcome" (16 : Nat) "LineBreaker$Outcome" "totals" "[J") ∈ gw := gw_t (List.mem_of_getElem? (i := 337) (by decide +kernel)) (by decide +kernel)
theorem kw_254 : (Jvm.Cond.fieldLink "LineBreaker$Outcome" (78 : Nat) "LineBreaker$Nodes" "total" "[J") ∈ gw := gw_t (List.mem_of_getElem? (i := 254) (by decide +kernel)) (by decide +kernel)
theorem kw_833 : (Jvm.Cond.methodLink "LineBreaker$Outcome" (57 : Nat) ({ cls := "LineBreaker$Galley", name := "firstOneFrom", desc := "(I)I" } : Jvm.MethodName)) ∈ gw := gw_t (List.mem_of_getElem? (i := 833) (by decide +kernel)) (by decide +kernel)
theorem kw_832 : (Jvm.Cond.methodLink "LineBreaker$Outcome" (49 : Nat) ({ cls := "LineBreaker$Search", name := "measureFrom", desc := "(II)V" } : Jvm.MethodName)) ∈ gw := gw_t (List.mem_of_getElem? (i := 832) (by decide +kernel)) (by decide +kernel)
theorem kw_299 : (Jvm.Cond.fieldLink "LineBreaker$Outcome" (30 : Nat) "LineBreaker$Search" "nodes" "LLineBreaker$Nodes;") ∈ gw := gw_t (List.mem_of_getElem? (i := 299) (by decide +kernel)) (by decide +kernel)
theorem kw_243 : (Jvm.Cond.fieldLink "LineBreaker$Outcome" (36 : Nat) "LineBreaker$Nodes" "lines" "[I") ∈ gw := gw_t (List.mem_of_getElem? (i := 243) (by decide +kernel)) (by decide +kernel)
theorem kw_257 : (Jvm.Cond.fieldLink "LineBreaker$Outcome" (42 : Nat) "LineBreaker$Nodes" "count" "I") ∈ gw := gw_t (List.mem_of_getElem? (i := 257) (by decide +kernel)) (by decide +kernel)
theorem kw_37 : (Jvm.Cond.fieldLink "LineBreaker$Paragraph" (15 : Nat) "LineBreaker$Paragraph" "width" "[I") ∈ gw := gw_t (List.mem_of_getElem? (i := 37) (by decide +kernel)) (by decide +kernel)
theorem kw_39 : (Jvm.Cond.fieldLink "LineBreaker$Paragraph" (18 : Nat) "LineBreaker$Paragraph" "stretch" "[I") ∈ gw := gw_t (List.mem_of_getElem? (i := 39) (by decide +kernel)) (by decide +kernel)
theorem kw_41 : (Jvm.Cond.fieldLink "LineBreaker$Paragraph" (21 : Nat) "LineBreaker$Paragraph" "order" "[I") ∈ gw := gw_t (List.mem_of_getElem? (i := 41) (by decide +kernel)) (by decide +kernel)
theorem kw_43 : (Jvm.Cond.fieldLink "LineBreaker$Paragraph" (24 : Nat) "LineBreaker$Paragraph" "shrink" "[I") ∈ gw := gw_t (List.mem_of_getElem? (i := 43) (by decide +kernel)) (by decide +kernel)
theorem kw_45 : (Jvm.Cond.fieldLink "LineBreaker$Paragraph" (27 : Nat) "LineBreaker$Paragraph" "penalty" "[I") ∈ gw := gw_t (List.mem_of_getElem? (i := 45) (by decide +kernel)) (by decide +kernel)
theorem kw_47 : (Jvm.Cond.fieldLink "LineBreaker$Paragraph" (30 : Nat) "LineBreaker$Paragraph" "before" "[I") ∈ gw := gw_t (List.mem_of_getElem? (i := 47) (by decide +kernel)) (by decide +kernel)
theorem kw_502 : (Jvm.Cond.constant "LineBreaker$Paragraph" (43 : Nat) (-1073741824 : Int32)) ∈ gw := gw_t (List.mem_of_getElem? (i := 502) (by decide +kernel)) (by decide +kernel)
theorem kw_49 : (Jvm.Cond.fieldLink "LineBreaker$Paragraph" (33 : Nat) "LineBreaker$Paragraph" "behind" "[I") ∈ gw := gw_t (List.mem_of_getElem? (i := 49) (by decide +kernel)) (by decide +kernel)
theorem kw_51 : (Jvm.Cond.fieldLink "LineBreaker$Paragraph" (36 : Nat) "LineBreaker$Paragraph" "replaced" "[I") ∈ gw := gw_t (List.mem_of_getElem? (i := 51) (by decide +kernel)) (by decide +kernel)
theorem kw_501 : (Jvm.Cond.code ({ cls := "LineBreaker$Paragraph", name := "append", desc := "(II)I" } : Jvm.MethodName) prog_8_method_2_code (4 : Nat) (Option.some Jvm.ClassFile.FieldType.int)) ∈ gw := gw_t (List.mem_of_getElem? (i := 501) (by decide +kernel)) (by decide +kernel)
theorem kw_547 : (Jvm.Cond.methodLink "LineBreaker$Paragraph" (44 : Nat) ({ cls := "LineBreaker$Paragraph", name := "append", desc := "(II)I" } : Jvm.MethodName)) ∈ gw := gw_t (List.mem_of_getElem? (i := 547) (by decide +kernel)) (by decide +kernel)
theorem kw_499 : (Jvm.Cond.instanceMethod ({ cls := "LineBreaker$Paragraph", name := "append", desc := "(II)I" } : Jvm.MethodName)) ∈ gw := gw_t (List.mem_of_getElem? (i := 499) (by decide +kernel)) (by decide +kernel)
theorem kw_500 : (Jvm.Cond.selects "LineBreaker$Paragraph" ({ cls := "LineBreaker$Paragraph", name := "append", desc := "(II)I" } : Jvm.MethodName) ({ cls := "LineBreaker$Paragraph", name := "append", desc := "(II)I" } : Jvm.MethodName)) ∈ gw := gw_t (List.mem_of_getElem? (i := 500) (by decide +kernel)) (by decide +kernel)
theorem kw_524 : (Jvm.Cond.methodLink "LineBreaker$Paragraph" (48 : Nat) ({ cls := "java/lang/Math", name := "max", desc := "(II)I" } : Jvm.MethodName)) ∈ gw := gw_t (List.mem_of_getElem? (i := 524) (by decide +kernel)) (by decide +kernel)
theorem kw_356 : (Jvm.Cond.fieldLink "LineBreaker" (12 : Nat) "LineBreaker" "paragraph" "LLineBreaker$Paragraph;") ∈ gw := gw_t (List.mem_of_getElem? (i := 356) (by decide +kernel)) (by decide +kernel)
theorem kw_54 : (Jvm.Cond.fieldLink "LineBreaker" (97 : Nat) "LineBreaker$Paragraph" "count" "I") ∈ gw := gw_t (List.mem_of_getElem? (i := 54) (by decide +kernel)) (by decide +kernel)
theorem kw_360 : (Jvm.Cond.fieldLink "LineBreaker" (42 : Nat) "LineBreaker" "outcome" "LLineBreaker$Outcome;") ∈ gw := gw_t (List.mem_of_getElem? (i := 360) (by decide +kernel)) (by decide +kernel)
theorem kw_379 : (Jvm.Cond.code ({ cls := "LineBreaker$Outcome", name := "forget", desc := "()V" } : Jvm.MethodName) prog_7_method_2_code (1 : Nat) (Option.none : Option Jvm.ClassFile.FieldType)) ∈ gw := gw_t (List.mem_of_getElem? (i := 379) (by decide +kernel)) (by decide +kernel)
theorem kw_376 : (Jvm.Cond.methodLink "LineBreaker" (53 : Nat) ({ cls := "LineBreaker$Outcome", name := "forget", desc := "()V" } : Jvm.MethodName)) ∈ gw := gw_t (List.mem_of_getElem? (i := 376) (by decide +kernel)) (by decide +kernel)
theorem kw_377 : (Jvm.Cond.instanceMethod ({ cls := "LineBreaker$Outcome", name := "forget", desc := "()V" } : Jvm.MethodName)) ∈ gw := gw_t (List.mem_of_getElem? (i := 377) (by decide +kernel)) (by decide +kernel)
theorem kw_378 : (Jvm.Cond.selects "LineBreaker$Outcome" ({ cls := "LineBreaker$Outcome", name := "forget", desc := "()V" } : Jvm.MethodName) ({ cls := "LineBreaker$Outcome", name := "forget", desc := "()V" } : Jvm.MethodName)) ∈ gw := gw_t (List.mem_of_getElem? (i := 378) (by decide +kernel)) (by decide +kernel)
theorem kw_10 : (Jvm.Cond.initialized "LineBreaker$Outcome") ∈ gw := gw_t (List.mem_of_getElem? (i := 10) (by decide +kernel)) (by decide +kernel)
theorem kw_342 : (Jvm.Cond.fieldLink "LineBreaker" (167 : Nat) "LineBreaker$Outcome" "passNumber" "I") ∈ gw := gw_t (List.mem_of_getElem? (i := 342) (by decide +kernel)) (by decide +kernel)
theorem kw_344 : (Jvm.Cond.fieldLink "LineBreaker" (170 : Nat) "LineBreaker$Outcome" "nodesMade" "I") ∈ gw := gw_t (List.mem_of_getElem? (i := 344) (by decide +kernel)) (by decide +kernel)
theorem kw_116 : (Jvm.Cond.fieldLink "LineBreaker$Settings" (23 : Nat) "LineBreaker$Settings" "left" "LLineBreaker$Glue;") ∈ gw := gw_t (List.mem_of_getElem? (i := 116) (by decide +kernel)) (by decide +kernel)
theorem kw_94 : (Jvm.Cond.fieldLink "LineBreaker$Settings" (48 : Nat) "LineBreaker$Glue" "stretch" "I") ∈ gw := gw_t (List.mem_of_getElem? (i := 94) (by decide +kernel)) (by decide +kernel)
theorem kw_119 : (Jvm.Cond.fieldLink "LineBreaker$Settings" (27 : Nat) "LineBreaker$Settings" "right" "LLineBreaker$Glue;") ∈ gw := gw_t (List.mem_of_getElem? (i := 119) (by decide +kernel)) (by decide +kernel)
theorem kw_122 : (Jvm.Cond.fieldLink "LineBreaker$Settings" (31 : Nat) "LineBreaker$Settings" "fill" "LLineBreaker$Glue;") ∈ gw := gw_t (List.mem_of_getElem? (i := 122) (by decide +kernel)) (by decide +kernel)
theorem kw_644 : (Jvm.Cond.methodLink "LineBreaker$Paragraph" (53 : Nat) ({ cls := "java/lang/Math", name := "abs", desc := "(I)I" } : Jvm.MethodName)) ∈ gw := gw_t (List.mem_of_getElem? (i := 644) (by decide +kernel)) (by decide +kernel)
theorem kw_90 : (Jvm.Cond.fieldLink "LineBreaker$Settings" (40 : Nat) "LineBreaker$Glue" "width" "I") ∈ gw := gw_t (List.mem_of_getElem? (i := 90) (by decide +kernel)) (by decide +kernel)
theorem kw_654 : (Jvm.Cond.methodLink "LineBreaker$Settings" (44 : Nat) ({ cls := "java/lang/Math", name := "abs", desc := "(I)I" } : Jvm.MethodName)) ∈ gw := gw_t (List.mem_of_getElem? (i := 654) (by decide +kernel)) (by decide +kernel)
theorem kw_98 : (Jvm.Cond.fieldLink "LineBreaker$Settings" (51 : Nat) "LineBreaker$Glue" "shrink" "I") ∈ gw := gw_t (List.mem_of_getElem? (i := 98) (by decide +kernel)) (by decide +kernel)
theorem kw_357 : (Jvm.Cond.fieldLink "LineBreaker" (19 : Nat) "LineBreaker" "settings" "LLineBreaker$Settings;") ∈ gw := gw_t (List.mem_of_getElem? (i := 357) (by decide +kernel)) (by decide +kernel)
theorem kw_113 : (Jvm.Cond.fieldLink "LineBreaker" (112 : Nat) "LineBreaker$Settings" "values" "[I") ∈ gw := gw_t (List.mem_of_getElem? (i := 113) (by decide +kernel)) (by decide +kernel)
theorem kw_655 : (Jvm.Cond.constantLong "LineBreaker" (202 : Nat) (1073741823 : Int64)) ∈ gw := gw_t (List.mem_of_getElem? (i := 655) (by decide +kernel)) (by decide +kernel)
theorem kw_663 : (Jvm.Cond.code ({ cls := "LineBreaker$Settings", name := "shrinkAround", desc := "()J" } : Jvm.MethodName) prog_10_method_5_code (1 : Nat) (Option.some Jvm.ClassFile.FieldType.long)) ∈ gw := gw_t (List.mem_of_getElem? (i := 663) (by decide +kernel)) (by decide +kernel)
theorem kw_660 : (Jvm.Cond.methodLink "LineBreaker" (207 : Nat) ({ cls := "LineBreaker$Settings", name := "shrinkAround", desc := "()J" } : Jvm.MethodName)) ∈ gw := gw_t (List.mem_of_getElem? (i := 660) (by decide +kernel)) (by decide +kernel)
theorem kw_661 : (Jvm.Cond.instanceMethod ({ cls := "LineBreaker$Settings", name := "shrinkAround", desc := "()J" } : Jvm.MethodName)) ∈ gw := gw_t (List.mem_of_getElem? (i := 661) (by decide +kernel)) (by decide +kernel)
theorem kw_662 : (Jvm.Cond.selects "LineBreaker$Settings" ({ cls := "LineBreaker$Settings", name := "shrinkAround", desc := "()J" } : Jvm.MethodName) ({ cls := "LineBreaker$Settings", name := "shrinkAround", desc := "()J" } : Jvm.MethodName)) ∈ gw := gw_t (List.mem_of_getElem? (i := 662) (by decide +kernel)) (by decide +kernel)
theorem kw_659 : (Jvm.Cond.code ({ cls := "LineBreaker$Paragraph", name := "allShrink", desc := "()J" } : Jvm.MethodName) prog_8_method_10_code (4 : Nat) (Option.some Jvm.ClassFile.FieldType.long)) ∈ gw := gw_t (List.mem_of_getElem? (i := 659) (by decide +kernel)) (by decide +kernel)
theorem kw_656 : (Jvm.Cond.methodLink "LineBreaker" (204 : Nat) ({ cls := "LineBreaker$Paragraph", name := "allShrink", desc := "()J" } : Jvm.MethodName)) ∈ gw := gw_t (List.mem_of_getElem? (i := 656) (by decide +kernel)) (by decide +kernel)
theorem kw_657 : (Jvm.Cond.instanceMethod ({ cls := "LineBreaker$Paragraph", name := "allShrink", desc := "()J" } : Jvm.MethodName)) ∈ gw := gw_t (List.mem_of_getElem? (i := 657) (by decide +kernel)) (by decide +kernel)
theorem kw_658 : (Jvm.Cond.selects "LineBreaker$Paragraph" ({ cls := "LineBreaker$Paragraph", name := "allShrink", desc := "()J" } : Jvm.MethodName) ({ cls := "LineBreaker$Paragraph", name := "allShrink", desc := "()J" } : Jvm.MethodName)) ∈ gw := gw_t (List.mem_of_getElem? (i := 658) (by decide +kernel)) (by decide +kernel)
theorem kw_653 : (Jvm.Cond.code ({ cls := "LineBreaker$Settings", name := "widthsAround", desc := "()J" } : Jvm.MethodName) prog_10_method_3_code (1 : Nat) (Option.some Jvm.ClassFile.FieldType.long)) ∈ gw := gw_t (List.mem_of_getElem? (i := 653) (by decide +kernel)) (by decide +kernel)
theorem kw_650 : (Jvm.Cond.methodLink "LineBreaker" (199 : Nat) ({ cls := "LineBreaker$Settings", name := "widthsAround", desc := "()J" } : Jvm.MethodName)) ∈ gw := gw_t (List.mem_of_getElem? (i := 650) (by decide +kernel)) (by decide +kernel)
theorem kw_651 : (Jvm.Cond.instanceMethod ({ cls := "LineBreaker$Settings", name := "widthsAround", desc := "()J" } : Jvm.MethodName)) ∈ gw := gw_t (List.mem_of_getElem? (i := 651) (by decide +kernel)) (by decide +kernel)
theorem kw_652 : (Jvm.Cond.selects "LineBreaker$Settings" ({ cls := "LineBreaker$Settings", name := "widthsAround", desc := "()J" } : Jvm.MethodName) ({ cls := "LineBreaker$Settings", name := "widthsAround", desc := "()J" } : Jvm.MethodName)) ∈ gw := gw_t (List.mem_of_getElem? (i := 652) (by decide +kernel)) (by decide +kernel)
theorem kw_643 : (Jvm.Cond.code ({ cls := "LineBreaker$Paragraph", name := "allWidths", desc := "()J" } : Jvm.MethodName) prog_8_method_8_code (4 : Nat) (Option.some Jvm.ClassFile.FieldType.long)) ∈ gw := gw_t (List.mem_of_getElem? (i := 643) (by decide +kernel)) (by decide +kernel)
theorem kw_640 : (Jvm.Cond.methodLink "LineBreaker" (196 : Nat) ({ cls := "LineBreaker$Paragraph", name := "allWidths", desc := "()J" } : Jvm.MethodName)) ∈ gw := gw_t (List.mem_of_getElem? (i := 640) (by decide +kernel)) (by decide +kernel)
theorem kw_641 : (Jvm.Cond.instanceMethod ({ cls := "LineBreaker$Paragraph", name := "allWidths", desc := "()J" } : Jvm.MethodName)) ∈ gw := gw_t (List.mem_of_getElem? (i := 641) (by decide +kernel)) (by decide +kernel)
theorem kw_642 : (Jvm.Cond.selects "LineBreaker$Paragraph" ({ cls := "LineBreaker$Paragraph", name := "allWidths", desc := "()J" } : Jvm.MethodName) ({ cls := "LineBreaker$Paragraph", name := "allWidths", desc := "()J" } : Jvm.MethodName)) ∈ gw := gw_t (List.mem_of_getElem? (i := 642) (by decide +kernel)) (by decide +kernel)
theorem kw_639 : (Jvm.Cond.code ({ cls := "LineBreaker$Settings", name := "stretchAround", desc := "()J" } : Jvm.MethodName) prog_10_method_4_code (1 : Nat) (Option.some Jvm.ClassFile.FieldType.long)) ∈ gw := gw_t (List.mem_of_getElem? (i := 639) (by decide +kernel)) (by decide +kernel)
theorem kw_636 : (Jvm.Cond.methodLink "LineBreaker" (193 : Nat) ({ cls := "LineBreaker$Settings", name := "stretchAround", desc := "()J" } : Jvm.MethodName)) ∈ gw := gw_t (List.mem_of_getElem? (i := 636) (by decide +kernel)) (by decide +kernel)
theorem kw_637 : (Jvm.Cond.instanceMethod ({ cls := "LineBreaker$Settings", name := "stretchAround", desc := "()J" } : Jvm.MethodName)) ∈ gw := gw_t (List.mem_of_getElem? (i := 637) (by decide +kernel)) (by decide +kernel)
theorem kw_638 : (Jvm.Cond.selects "LineBreaker$Settings" ({ cls := "LineBreaker$Settings", name := "stretchAround", desc := "()J" } : Jvm.MethodName) ({ cls := "LineBreaker$Settings", name := "stretchAround", desc := "()J" } : Jvm.MethodName)) ∈ gw := gw_t (List.mem_of_getElem? (i := 638) (by decide +kernel)) (by decide +kernel)
theorem kw_635 : (Jvm.Cond.code ({ cls := "LineBreaker$Paragraph", name := "allStretch", desc := "()J" } : Jvm.MethodName) prog_8_method_9_code (4 : Nat) (Option.some Jvm.ClassFile.FieldType.long)) ∈ gw := gw_t (List.mem_of_getElem? (i := 635) (by decide +kernel)) (by decide +kernel)
theorem kw_632 : (Jvm.Cond.methodLink "LineBreaker" (189 : Nat) ({ cls := "LineBreaker$Paragraph", name := "allStretch", desc := "()J" } : Jvm.MethodName)) ∈ gw := gw_t (List.mem_of_getElem? (i := 632) (by decide +kernel)) (by decide +kernel)
theorem kw_633 : (Jvm.Cond.instanceMethod ({ cls := "LineBreaker$Paragraph", name := "allStretch", desc := "()J" } : Jvm.MethodName)) ∈ gw := gw_t (List.mem_of_getElem? (i := 633) (by decide +kernel)) (by decide +kernel)
theorem kw_634 : (Jvm.Cond.selects "LineBreaker$Paragraph" ({ cls := "LineBreaker$Paragraph", name := "allStretch", desc := "()J" } : Jvm.MethodName) ({ cls := "LineBreaker$Paragraph", name := "allStretch", desc := "()J" } : Jvm.MethodName)) ∈ gw := gw_t (List.mem_of_getElem? (i := 634) (by decide +kernel)) (by decide +kernel)
theorem kw_407 : (Jvm.Cond.constant "LineBreaker" (229 : Nat) (-1073741823 : Int32)) ∈ gw := gw_t (List.mem_of_getElem? (i := 407) (by decide +kernel)) (by decide +kernel)
theorem kw_408 : (Jvm.Cond.constant "LineBreaker" (230 : Nat) (1073741823 : Int32)) ∈ gw := gw_t (List.mem_of_getElem? (i := 408) (by decide +kernel)) (by decide +kernel)
theorem kw_89 : (Jvm.Cond.fieldLink "LineBreaker$Glue" (7 : Nat) "LineBreaker$Glue" "width" "I") ∈ gw := gw_t (List.mem_of_getElem? (i := 89) (by decide +kernel)) (by decide +kernel)
theorem kw_96 : (Jvm.Cond.fieldLink "LineBreaker$Glue" (19 : Nat) "LineBreaker$Glue" "shrink" "I") ∈ gw := gw_t (List.mem_of_getElem? (i := 96) (by decide +kernel)) (by decide +kernel)
theorem d_Pa_countWithoutLastGlue_0 : decode prog_8_method_7_code 0 = .ok (.aload_n 0, 1) := by decide +kernel
theorem d_Pa_countWithoutLastGlue_31 : decode prog_8_method_7_code 31 = .ok (.aload_n 0, 1) := by decide +kernel
theorem d_Pa_countWithoutLastGlue_35 : decode prog_8_method_7_code 35 = .ok (.ireturn, 1) := by decide +kernel
theorem d_Pa_countWithoutLastGlue_32 : decode prog_8_method_7_code 32 = .ok (.getfield 39, 3) := by decide +kernel
theorem d_Pa_countWithoutLastGlue_7 : decode prog_8_method_7_code 7 = .ok (.aload_n 0, 1) := by decide +kernel
theorem d_Pa_countWithoutLastGlue_11 : decode prog_8_method_7_code 11 = .ok (.aload_n 0, 1) := by decide +kernel
theorem d_Pa_countWithoutLastGlue_22 : decode prog_8_method_7_code 22 = .ok (.aload_n 0, 1) := by decide +kernel
theorem d_Pa_countWithoutLastGlue_28 : decode prog_8_method_7_code 28 = .ok (.goto 7, 3) := by decide +kernel
theorem d_Pa_countWithoutLastGlue_27 : decode prog_8_method_7_code 27 = .ok (.isub, 1) := by decide +kernel
theorem d_Pa_countWithoutLastGlue_26 : decode prog_8_method_7_code 26 = .ok (.iconst 1, 1) := by decide +kernel
theorem d_Pa_countWithoutLastGlue_23 : decode prog_8_method_7_code 23 = .ok (.getfield 39, 3) := by decide +kernel
theorem d_Pa_countWithoutLastGlue_19 : decode prog_8_method_7_code 19 = .ok (.if_icmp .ne 12, 3) := by decide +kernel
theorem d_Pa_countWithoutLastGlue_18 : decode prog_8_method_7_code 18 = .ok (.iconst 1, 1) := by decide +kernel
theorem d_Pa_countWithoutLastGlue_17 : decode prog_8_method_7_code 17 = .ok (.iaload, 1) := by decide +kernel
theorem d_Pa_countWithoutLastGlue_16 : decode prog_8_method_7_code 16 = .ok (.isub, 1) := by decide +kernel
theorem d_Pa_countWithoutLastGlue_15 : decode prog_8_method_7_code 15 = .ok (.iconst 1, 1) := by decide +kernel
theorem d_Pa_countWithoutLastGlue_12 : decode prog_8_method_7_code 12 = .ok (.getfield 39, 3) := by decide +kernel
theorem d_Pa_countWithoutLastGlue_8 : decode prog_8_method_7_code 8 = .ok (.getfield 9, 3) := by decide +kernel
theorem d_Pa_countWithoutLastGlue_4 : decode prog_8_method_7_code 4 = .ok (.ifCond .le 27, 3) := by decide +kernel
theorem d_Pa_countWithoutLastGlue_1 : decode prog_8_method_7_code 1 = .ok (.getfield 39, 3) := by decide +kernel
theorem d_Lb_widthOf_0 : decode prog_1_method_25_code 0 = .ok (.iload_n 0, 1) := by decide +kernel
theorem d_Lb_widthOf_10 : decode prog_1_method_25_code 10 = .ok (.iload_n 0, 1) := by decide +kernel
theorem d_Lb_widthOf_11 : decode prog_1_method_25_code 11 = .ok (.ireturn, 1) := by decide +kernel
theorem d_Lb_widthOf_7 : decode prog_1_method_25_code 7 = .ok (.goto 4, 3) := by decide +kernel
theorem d_Lb_widthOf_6 : decode prog_1_method_25_code 6 = .ok (.iconst 0, 1) := by decide +kernel
theorem d_Lb_widthOf_3 : decode prog_1_method_25_code 3 = .ok (.if_icmp .ne 7, 3) := by decide +kernel
theorem d_Lb_widthOf_1 : decode prog_1_method_25_code 1 = .ok (.ldc 222, 2) := by decide +kernel
theorem d_Ga_copyItems_89 : decode prog_2_method_7_code 89 = .ok (.aload_n 0, 1) := by decide +kernel
theorem d_Ga_copyItems_93 : decode prog_2_method_7_code 93 = .ok (.iload 4, 2) := by decide +kernel
theorem d_Ga_copyItems_95 : decode prog_2_method_7_code 95 = .ok (.aload_n 1, 1) := by decide +kernel
theorem d_Ga_copyItems_99 : decode prog_2_method_7_code 99 = .ok (.iload 4, 2) := by decide +kernel
theorem d_Ga_copyItems_106 : decode prog_2_method_7_code 106 = .ok (.aload_n 0, 1) := by decide +kernel
theorem d_Ga_copyItems_110 : decode prog_2_method_7_code 110 = .ok (.iload 4, 2) := by decide +kernel
theorem d_Ga_copyItems_112 : decode prog_2_method_7_code 112 = .ok (.aload_n 1, 1) := by decide +kernel
theorem d_Ga_copyItems_116 : decode prog_2_method_7_code 116 = .ok (.iload 4, 2) := by decide +kernel
theorem d_Ga_copyItems_126 : decode prog_2_method_7_code 126 = .ok (.goto (-123), 3) := by decide +kernel
theorem d_Ga_copyItems_123 : decode prog_2_method_7_code 123 = .ok (.iinc 4 1, 3) := by decide +kernel
theorem d_Ga_copyItems_122 : decode prog_2_method_7_code 122 = .ok (.iastore, 1) := by decide +kernel
theorem d_Ga_copyItems_119 : decode prog_2_method_7_code 119 = .ok (.invokestatic 88, 3) := by decide +kernel
theorem d_Ga_copyItems_118 : decode prog_2_method_7_code 118 = .ok (.iaload, 1) := by decide +kernel
theorem d_Ga_copyItems_113 : decode prog_2_method_7_code 113 = .ok (.getfield 92, 3) := by decide +kernel
theorem d_Ga_copyItems_107 : decode prog_2_method_7_code 107 = .ok (.getfield 28, 3) := by decide +kernel
theorem d_Ga_copyItems_105 : decode prog_2_method_7_code 105 = .ok (.iastore, 1) := by decide +kernel
theorem d_Ga_copyItems_102 : decode prog_2_method_7_code 102 = .ok (.invokestatic 88, 3) := by decide +kernel
theorem d_Ga_copyItems_101 : decode prog_2_method_7_code 101 = .ok (.iaload, 1) := by decide +kernel
theorem d_Ga_copyItems_96 : decode prog_2_method_7_code 96 = .ok (.getfield 83, 3) := by decide +kernel
theorem d_Ga_copyItems_90 : decode prog_2_method_7_code 90 = .ok (.getfield 25, 3) := by decide +kernel
theorem d_Ga_copyItems_88 : decode prog_2_method_7_code 88 = .ok (.iastore, 1) := by decide +kernel
theorem d_Ga_copyItems_87 : decode prog_2_method_7_code 87 = .ok (.iaload, 1) := by decide +kernel
theorem d_Ga_copyItems_65 : decode prog_2_method_7_code 65 = .ok (.istore 5, 2) := by decide +kernel
theorem d_Ga_copyItems_67 : decode prog_2_method_7_code 67 = .ok (.aload_n 0, 1) := by decide +kernel
theorem d_Ga_copyItems_71 : decode prog_2_method_7_code 71 = .ok (.iload 4, 2) := by decide +kernel
theorem d_Ga_copyItems_73 : decode prog_2_method_7_code 73 = .ok (.aload_n 2, 1) := by decide +kernel
theorem d_Ga_copyItems_77 : decode prog_2_method_7_code 77 = .ok (.iload 5, 2) := by decide +kernel
theorem d_Ga_copyItems_86 : decode prog_2_method_7_code 86 = .ok (.iconst 3, 1) := by decide +kernel
theorem d_Ga_copyItems_83 : decode prog_2_method_7_code 83 = .ok (.goto 4, 3) := by decide +kernel
theorem d_Ga_copyItems_82 : decode prog_2_method_7_code 82 = .ok (.iconst 4, 1) := by decide +kernel
theorem d_Ga_copyItems_79 : decode prog_2_method_7_code 79 = .ok (.ifCond .eq 7, 3) := by decide +kernel
theorem d_Ga_copyItems_74 : decode prog_2_method_7_code 74 = .ok (.getfield 85, 3) := by decide +kernel
theorem d_Ga_copyItems_68 : decode prog_2_method_7_code 68 = .ok (.getfield 15, 3) := by decide +kernel
theorem d_Ga_copyItems_3 : decode prog_2_method_7_code 3 = .ok (.iload 4, 2) := by decide +kernel
theorem d_Ga_copyItems_5 : decode prog_2_method_7_code 5 = .ok (.iload_n 3, 1) := by decide +kernel
theorem d_Ga_copyItems_129 : decode prog_2_method_7_code 129 = .ok (.return_, 1) := by decide +kernel
theorem d_Ga_copyItems_9 : decode prog_2_method_7_code 9 = .ok (.aload_n 0, 1) := by decide +kernel
theorem d_Ga_copyItems_13 : decode prog_2_method_7_code 13 = .ok (.iload 4, 2) := by decide +kernel
theorem d_Ga_copyItems_15 : decode prog_2_method_7_code 15 = .ok (.aload_n 1, 1) := by decide +kernel
theorem d_Ga_copyItems_19 : decode prog_2_method_7_code 19 = .ok (.iload 4, 2) := by decide +kernel
theorem d_Ga_copyItems_23 : decode prog_2_method_7_code 23 = .ok (.aload_n 0, 1) := by decide +kernel
theorem d_Ga_copyItems_27 : decode prog_2_method_7_code 27 = .ok (.iload 4, 2) := by decide +kernel
theorem d_Ga_copyItems_29 : decode prog_2_method_7_code 29 = .ok (.aload_n 1, 1) := by decide +kernel
theorem d_Ga_copyItems_33 : decode prog_2_method_7_code 33 = .ok (.iload 4, 2) := by decide +kernel
theorem d_Ga_copyItems_37 : decode prog_2_method_7_code 37 = .ok (.aload_n 0, 1) := by decide +kernel
theorem d_Ga_copyItems_41 : decode prog_2_method_7_code 41 = .ok (.iload 4, 2) := by decide +kernel
theorem d_Ga_copyItems_48 : decode prog_2_method_7_code 48 = .ok (.aload_n 1, 1) := by decide +kernel
theorem d_Ga_copyItems_52 : decode prog_2_method_7_code 52 = .ok (.iload 4, 2) := by decide +kernel
theorem d_Ga_copyItems_64 : decode prog_2_method_7_code 64 = .ok (.iconst 0, 1) := by decide +kernel
theorem d_Ga_copyItems_61 : decode prog_2_method_7_code 61 = .ok (.goto 4, 3) := by decide +kernel
theorem d_Ga_copyItems_60 : decode prog_2_method_7_code 60 = .ok (.iconst 1, 1) := by decide +kernel
theorem d_Ga_copyItems_57 : decode prog_2_method_7_code 57 = .ok (.if_icmp .ne 7, 3) := by decide +kernel
theorem d_Ga_copyItems_55 : decode prog_2_method_7_code 55 = .ok (.ldc 84, 2) := by decide +kernel
theorem d_Ga_copyItems_54 : decode prog_2_method_7_code 54 = .ok (.iaload, 1) := by decide +kernel
theorem d_Ga_copyItems_49 : decode prog_2_method_7_code 49 = .ok (.getfield 83, 3) := by decide +kernel
theorem d_Ga_copyItems_45 : decode prog_2_method_7_code 45 = .ok (.if_icmp .ne 44, 3) := by decide +kernel
theorem d_Ga_copyItems_44 : decode prog_2_method_7_code 44 = .ok (.iconst 5, 1) := by decide +kernel
theorem d_Ga_copyItems_43 : decode prog_2_method_7_code 43 = .ok (.iaload, 1) := by decide +kernel
theorem d_Ga_copyItems_38 : decode prog_2_method_7_code 38 = .ok (.getfield 9, 3) := by decide +kernel
theorem d_Ga_copyItems_36 : decode prog_2_method_7_code 36 = .ok (.iastore, 1) := by decide +kernel
theorem d_Ga_copyItems_35 : decode prog_2_method_7_code 35 = .ok (.iaload, 1) := by decide +kernel
theorem d_Ga_copyItems_30 : decode prog_2_method_7_code 30 = .ok (.getfield 82, 3) := by decide +kernel
theorem d_Ga_copyItems_24 : decode prog_2_method_7_code 24 = .ok (.getfield 15, 3) := by decide +kernel
theorem d_Ga_copyItems_22 : decode prog_2_method_7_code 22 = .ok (.iastore, 1) := by decide +kernel
theorem d_Ga_copyItems_21 : decode prog_2_method_7_code 21 = .ok (.iaload, 1) := by decide +kernel
theorem d_Ga_copyItems_16 : decode prog_2_method_7_code 16 = .ok (.getfield 81, 3) := by decide +kernel
theorem d_Ga_copyItems_10 : decode prog_2_method_7_code 10 = .ok (.getfield 9, 3) := by decide +kernel
theorem d_Ga_copyItems_6 : decode prog_2_method_7_code 6 = .ok (.if_icmp .ge 123, 3) := by decide +kernel
theorem d_Ga_copyItems_1 : decode prog_2_method_7_code 1 = .ok (.istore 4, 2) := by decide +kernel
theorem d_Ga_copyItems_0 : decode prog_2_method_7_code 0 = .ok (.iconst 0, 1) := by decide +kernel
theorem d_Ga_close_58 : decode prog_2_method_8_code 58 = .ok (.iload_n 2, 1) := by decide +kernel
theorem d_Ga_close_59 : decode prog_2_method_8_code 59 = .ok (.aload_n 0, 1) := by decide +kernel
theorem d_Ga_close_86 : decode prog_2_method_8_code 86 = .ok (.return_, 1) := by decide +kernel
theorem d_Ga_close_66 : decode prog_2_method_8_code 66 = .ok (.aload_n 0, 1) := by decide +kernel
theorem d_Ga_close_70 : decode prog_2_method_8_code 70 = .ok (.iload_n 2, 1) := by decide +kernel
theorem d_Ga_close_73 : decode prog_2_method_8_code 73 = .ok (.aload_n 0, 1) := by decide +kernel
theorem d_Ga_close_77 : decode prog_2_method_8_code 77 = .ok (.iload_n 2, 1) := by decide +kernel
theorem d_Ga_close_83 : decode prog_2_method_8_code 83 = .ok (.goto (-25), 3) := by decide +kernel
theorem d_Ga_close_80 : decode prog_2_method_8_code 80 = .ok (.iinc 2 1, 3) := by decide +kernel
theorem d_Ga_close_79 : decode prog_2_method_8_code 79 = .ok (.iastore, 1) := by decide +kernel
theorem d_Ga_close_78 : decode prog_2_method_8_code 78 = .ok (.iconst 0, 1) := by decide +kernel
theorem d_Ga_close_74 : decode prog_2_method_8_code 74 = .ok (.getfield 28, 3) := by decide +kernel
theorem d_Ga_close_72 : decode prog_2_method_8_code 72 = .ok (.iastore, 1) := by decide +kernel
theorem d_Ga_close_71 : decode prog_2_method_8_code 71 = .ok (.iconst 0, 1) := by decide +kernel
theorem d_Ga_close_67 : decode prog_2_method_8_code 67 = .ok (.getfield 25, 3) := by decide +kernel
theorem d_Ga_close_63 : decode prog_2_method_8_code 63 = .ok (.if_icmp .gt 23, 3) := by decide +kernel
theorem d_Ga_close_60 : decode prog_2_method_8_code 60 = .ok (.getfield 52, 3) := by decide +kernel
theorem d_Ga_close_0 : decode prog_2_method_8_code 0 = .ok (.aload_n 0, 1) := by decide +kernel
theorem d_Ga_close_4 : decode prog_2_method_8_code 4 = .ok (.iload_n 1, 1) := by decide +kernel
theorem d_Ga_close_7 : decode prog_2_method_8_code 7 = .ok (.aload_n 0, 1) := by decide +kernel
theorem d_Ga_close_11 : decode prog_2_method_8_code 11 = .ok (.iload_n 1, 1) := by decide +kernel
theorem d_Ga_close_16 : decode prog_2_method_8_code 16 = .ok (.aload_n 0, 1) := by decide +kernel
theorem d_Ga_close_20 : decode prog_2_method_8_code 20 = .ok (.iload_n 1, 1) := by decide +kernel
theorem d_Ga_close_25 : decode prog_2_method_8_code 25 = .ok (.aload_n 0, 1) := by decide +kernel
theorem d_Ga_close_29 : decode prog_2_method_8_code 29 = .ok (.iload_n 1, 1) := by decide +kernel
theorem d_Ga_close_34 : decode prog_2_method_8_code 34 = .ok (.aload_n 0, 1) := by decide +kernel
theorem d_Ga_close_38 : decode prog_2_method_8_code 38 = .ok (.aload_n 0, 1) := by decide +kernel
theorem d_Ga_close_44 : decode prog_2_method_8_code 44 = .ok (.aload_n 0, 1) := by decide +kernel
theorem d_Ga_close_48 : decode prog_2_method_8_code 48 = .ok (.aload_n 0, 1) := by decide +kernel
theorem d_Ga_close_56 : decode prog_2_method_8_code 56 = .ok (.iload_n 1, 1) := by decide +kernel
theorem d_Ga_close_57 : decode prog_2_method_8_code 57 = .ok (.istore_n 2, 1) := by decide +kernel
theorem d_Ga_close_55 : decode prog_2_method_8_code 55 = .ok (.iastore, 1) := by decide +kernel
theorem d_Ga_close_52 : decode prog_2_method_8_code 52 = .ok (.sipush (-10000), 3) := by decide +kernel
theorem d_Ga_close_49 : decode prog_2_method_8_code 49 = .ok (.getfield 52, 3) := by decide +kernel
theorem d_Ga_close_45 : decode prog_2_method_8_code 45 = .ok (.getfield 15, 3) := by decide +kernel
theorem d_Ga_close_43 : decode prog_2_method_8_code 43 = .ok (.iastore, 1) := by decide +kernel
theorem d_Ga_close_42 : decode prog_2_method_8_code 42 = .ok (.iconst 4, 1) := by decide +kernel
theorem d_Ga_close_39 : decode prog_2_method_8_code 39 = .ok (.getfield 52, 3) := by decide +kernel
theorem d_Ga_close_35 : decode prog_2_method_8_code 35 = .ok (.getfield 9, 3) := by decide +kernel
theorem d_Ga_close_33 : decode prog_2_method_8_code 33 = .ok (.iastore, 1) := by decide +kernel
theorem d_Ga_close_32 : decode prog_2_method_8_code 32 = .ok (.iconst 0, 1) := by decide +kernel
theorem d_Ga_close_31 : decode prog_2_method_8_code 31 = .ok (.iadd, 1) := by decide +kernel
theorem d_Ga_close_30 : decode prog_2_method_8_code 30 = .ok (.iconst 1, 1) := by decide +kernel
theorem d_Ga_close_26 : decode prog_2_method_8_code 26 = .ok (.getfield 15, 3) := by decide +kernel
theorem d_Ga_close_24 : decode prog_2_method_8_code 24 = .ok (.iastore, 1) := by decide +kernel
theorem d_Ga_close_23 : decode prog_2_method_8_code 23 = .ok (.iconst 1, 1) := by decide +kernel
theorem d_Ga_close_22 : decode prog_2_method_8_code 22 = .ok (.iadd, 1) := by decide +kernel
theorem d_Ga_close_21 : decode prog_2_method_8_code 21 = .ok (.iconst 1, 1) := by decide +kernel
theorem d_Ga_close_17 : decode prog_2_method_8_code 17 = .ok (.getfield 9, 3) := by decide +kernel
theorem d_Ga_close_15 : decode prog_2_method_8_code 15 = .ok (.iastore, 1) := by decide +kernel
theorem d_Ga_close_12 : decode prog_2_method_8_code 12 = .ok (.sipush 10000, 3) := by decide +kernel
theorem d_Ga_close_8 : decode prog_2_method_8_code 8 = .ok (.getfield 15, 3) := by decide +kernel
theorem d_Ga_close_6 : decode prog_2_method_8_code 6 = .ok (.iastore, 1) := by decide +kernel
theorem d_Ga_close_5 : decode prog_2_method_8_code 5 = .ok (.iconst 4, 1) := by decide +kernel
theorem d_Ga_close_1 : decode prog_2_method_8_code 1 = .ok (.getfield 9, 3) := by decide +kernel
theorem d_Ga_sumUp_115 : decode prog_2_method_9_code 115 = .ok (.aload_n 0, 1) := by decide +kernel
theorem d_Ga_sumUp_119 : decode prog_2_method_9_code 119 = .ok (.iload 4, 2) := by decide +kernel
theorem d_Ga_sumUp_123 : decode prog_2_method_9_code 123 = .ok (.aload_n 0, 1) := by decide +kernel
theorem d_Ga_sumUp_127 : decode prog_2_method_9_code 127 = .ok (.iload 4, 2) := by decide +kernel
theorem d_Ga_sumUp_130 : decode prog_2_method_9_code 130 = .ok (.aload_n 1, 1) := by decide +kernel
theorem d_Ga_sumUp_134 : decode prog_2_method_9_code 134 = .ok (.iload 4, 2) := by decide +kernel
theorem d_Ga_sumUp_142 : decode prog_2_method_9_code 142 = .ok (.goto (-139), 3) := by decide +kernel
theorem d_Ga_sumUp_139 : decode prog_2_method_9_code 139 = .ok (.iinc 4 1, 3) := by decide +kernel
theorem d_Ga_sumUp_138 : decode prog_2_method_9_code 138 = .ok (.iastore, 1) := by decide +kernel
theorem d_Ga_sumUp_137 : decode prog_2_method_9_code 137 = .ok (.iadd, 1) := by decide +kernel
theorem d_Ga_sumUp_136 : decode prog_2_method_9_code 136 = .ok (.iaload, 1) := by decide +kernel
theorem d_Ga_sumUp_131 : decode prog_2_method_9_code 131 = .ok (.getfield 102, 3) := by decide +kernel
theorem d_Ga_sumUp_129 : decode prog_2_method_9_code 129 = .ok (.iaload, 1) := by decide +kernel
theorem d_Ga_sumUp_124 : decode prog_2_method_9_code 124 = .ok (.getfield 40, 3) := by decide +kernel
theorem d_Ga_sumUp_122 : decode prog_2_method_9_code 122 = .ok (.iadd, 1) := by decide +kernel
theorem d_Ga_sumUp_121 : decode prog_2_method_9_code 121 = .ok (.iconst 1, 1) := by decide +kernel
theorem d_Ga_sumUp_116 : decode prog_2_method_9_code 116 = .ok (.getfield 40, 3) := by decide +kernel
theorem d_Ga_sumUp_114 : decode prog_2_method_9_code 114 = .ok (.iastore, 1) := by decide +kernel
theorem d_Ga_sumUp_113 : decode prog_2_method_9_code 113 = .ok (.iadd, 1) := by decide +kernel
theorem d_Ga_sumUp_87 : decode prog_2_method_9_code 87 = .ok (.aload_n 0, 1) := by decide +kernel
theorem d_Ga_sumUp_91 : decode prog_2_method_9_code 91 = .ok (.iload 4, 2) := by decide +kernel
theorem d_Ga_sumUp_95 : decode prog_2_method_9_code 95 = .ok (.aload_n 0, 1) := by decide +kernel
theorem d_Ga_sumUp_99 : decode prog_2_method_9_code 99 = .ok (.iload 4, 2) := by decide +kernel
theorem d_Ga_sumUp_102 : decode prog_2_method_9_code 102 = .ok (.iload 5, 2) := by decide +kernel
theorem d_Ga_sumUp_111 : decode prog_2_method_9_code 111 = .ok (.iload 6, 2) := by decide +kernel
theorem d_Ga_sumUp_108 : decode prog_2_method_9_code 108 = .ok (.goto 5, 3) := by decide +kernel
theorem d_Ga_sumUp_107 : decode prog_2_method_9_code 107 = .ok (.iconst 0, 1) := by decide +kernel
theorem d_Ga_sumUp_104 : decode prog_2_method_9_code 104 = .ok (.ifCond .eq 7, 3) := by decide +kernel
theorem d_Ga_sumUp_101 : decode prog_2_method_9_code 101 = .ok (.iaload, 1) := by decide +kernel
theorem d_Ga_sumUp_96 : decode prog_2_method_9_code 96 = .ok (.getfield 37, 3) := by decide +kernel
theorem d_Ga_sumUp_94 : decode prog_2_method_9_code 94 = .ok (.iadd, 1) := by decide +kernel
theorem d_Ga_sumUp_93 : decode prog_2_method_9_code 93 = .ok (.iconst 1, 1) := by decide +kernel
theorem d_Ga_sumUp_88 : decode prog_2_method_9_code 88 = .ok (.getfield 37, 3) := by decide +kernel
theorem d_Ga_sumUp_86 : decode prog_2_method_9_code 86 = .ok (.iastore, 1) := by decide +kernel
theorem d_Ga_sumUp_85 : decode prog_2_method_9_code 85 = .ok (.iadd, 1) := by decide +kernel
theorem d_Ga_sumUp_24 : decode prog_2_method_9_code 24 = .ok (.istore 5, 2) := by decide +kernel
theorem d_Ga_sumUp_26 : decode prog_2_method_9_code 26 = .ok (.aload_n 1, 1) := by decide +kernel
theorem d_Ga_sumUp_30 : decode prog_2_method_9_code 30 = .ok (.iload 4, 2) := by decide +kernel
theorem d_Ga_sumUp_33 : decode prog_2_method_9_code 33 = .ok (.istore 6, 2) := by decide +kernel
theorem d_Ga_sumUp_35 : decode prog_2_method_9_code 35 = .ok (.aload_n 0, 1) := by decide +kernel
theorem d_Ga_sumUp_39 : decode prog_2_method_9_code 39 = .ok (.iload 4, 2) := by decide +kernel
theorem d_Ga_sumUp_43 : decode prog_2_method_9_code 43 = .ok (.aload_n 0, 1) := by decide +kernel
theorem d_Ga_sumUp_47 : decode prog_2_method_9_code 47 = .ok (.iload 4, 2) := by decide +kernel
theorem d_Ga_sumUp_50 : decode prog_2_method_9_code 50 = .ok (.aload_n 1, 1) := by decide +kernel
theorem d_Ga_sumUp_54 : decode prog_2_method_9_code 54 = .ok (.iload 4, 2) := by decide +kernel
theorem d_Ga_sumUp_59 : decode prog_2_method_9_code 59 = .ok (.aload_n 0, 1) := by decide +kernel
theorem d_Ga_sumUp_63 : decode prog_2_method_9_code 63 = .ok (.iload 4, 2) := by decide +kernel
theorem d_Ga_sumUp_67 : decode prog_2_method_9_code 67 = .ok (.aload_n 0, 1) := by decide +kernel
theorem d_Ga_sumUp_71 : decode prog_2_method_9_code 71 = .ok (.iload 4, 2) := by decide +kernel
theorem d_Ga_sumUp_74 : decode prog_2_method_9_code 74 = .ok (.iload 5, 2) := by decide +kernel
theorem d_Ga_sumUp_84 : decode prog_2_method_9_code 84 = .ok (.iconst 0, 1) := by decide +kernel
theorem d_Ga_sumUp_79 : decode prog_2_method_9_code 79 = .ok (.iload 6, 2) := by decide +kernel
theorem d_Ga_sumUp_81 : decode prog_2_method_9_code 81 = .ok (.goto 4, 3) := by decide +kernel
theorem d_Ga_sumUp_76 : decode prog_2_method_9_code 76 = .ok (.ifCond .eq 8, 3) := by decide +kernel
theorem d_Ga_sumUp_73 : decode prog_2_method_9_code 73 = .ok (.iaload, 1) := by decide +kernel
theorem d_Ga_sumUp_68 : decode prog_2_method_9_code 68 = .ok (.getfield 34, 3) := by decide +kernel
theorem d_Ga_sumUp_66 : decode prog_2_method_9_code 66 = .ok (.iadd, 1) := by decide +kernel
theorem d_Ga_sumUp_65 : decode prog_2_method_9_code 65 = .ok (.iconst 1, 1) := by decide +kernel
theorem d_Ga_sumUp_60 : decode prog_2_method_9_code 60 = .ok (.getfield 34, 3) := by decide +kernel
theorem d_Ga_sumUp_58 : decode prog_2_method_9_code 58 = .ok (.iastore, 1) := by decide +kernel
theorem d_Ga_sumUp_57 : decode prog_2_method_9_code 57 = .ok (.iadd, 1) := by decide +kernel
theorem d_Ga_sumUp_56 : decode prog_2_method_9_code 56 = .ok (.iaload, 1) := by decide +kernel
theorem d_Ga_sumUp_51 : decode prog_2_method_9_code 51 = .ok (.getfield 99, 3) := by decide +kernel
theorem d_Ga_sumUp_49 : decode prog_2_method_9_code 49 = .ok (.iaload, 1) := by decide +kernel
theorem d_Ga_sumUp_44 : decode prog_2_method_9_code 44 = .ok (.getfield 31, 3) := by decide +kernel
theorem d_Ga_sumUp_42 : decode prog_2_method_9_code 42 = .ok (.iadd, 1) := by decide +kernel
theorem d_Ga_sumUp_41 : decode prog_2_method_9_code 41 = .ok (.iconst 1, 1) := by decide +kernel
theorem d_Ga_sumUp_36 : decode prog_2_method_9_code 36 = .ok (.getfield 31, 3) := by decide +kernel
theorem d_Ga_sumUp_32 : decode prog_2_method_9_code 32 = .ok (.iaload, 1) := by decide +kernel
theorem d_Ga_sumUp_27 : decode prog_2_method_9_code 27 = .ok (.getfield 96, 3) := by decide +kernel
theorem d_Ga_sumUp_3 : decode prog_2_method_9_code 3 = .ok (.iload 4, 2) := by decide +kernel
theorem d_Ga_sumUp_5 : decode prog_2_method_9_code 5 = .ok (.iload_n 3, 1) := by decide +kernel
theorem d_Ga_sumUp_145 : decode prog_2_method_9_code 145 = .ok (.iload_n 3, 1) := by decide +kernel
theorem d_Ga_sumUp_148 : decode prog_2_method_9_code 148 = .ok (.istore 4, 2) := by decide +kernel
theorem d_Ga_sumUp_150 : decode prog_2_method_9_code 150 = .ok (.aload_n 0, 1) := by decide +kernel
theorem d_Ga_sumUp_154 : decode prog_2_method_9_code 154 = .ok (.iload 4, 2) := by decide +kernel
theorem d_Ga_sumUp_156 : decode prog_2_method_9_code 156 = .ok (.aload_n 0, 1) := by decide +kernel
theorem d_Ga_sumUp_160 : decode prog_2_method_9_code 160 = .ok (.iload_n 3, 1) := by decide +kernel
theorem d_Ga_sumUp_163 : decode prog_2_method_9_code 163 = .ok (.aload_n 0, 1) := by decide +kernel
theorem d_Ga_sumUp_167 : decode prog_2_method_9_code 167 = .ok (.iload 4, 2) := by decide +kernel
theorem d_Ga_sumUp_169 : decode prog_2_method_9_code 169 = .ok (.aload_n 0, 1) := by decide +kernel
theorem d_Ga_sumUp_173 : decode prog_2_method_9_code 173 = .ok (.iload_n 3, 1) := by decide +kernel
theorem d_Ga_sumUp_176 : decode prog_2_method_9_code 176 = .ok (.aload_n 0, 1) := by decide +kernel
theorem d_Ga_sumUp_180 : decode prog_2_method_9_code 180 = .ok (.iload 4, 2) := by decide +kernel
theorem d_Ga_sumUp_182 : decode prog_2_method_9_code 182 = .ok (.aload_n 0, 1) := by decide +kernel
theorem d_Ga_sumUp_186 : decode prog_2_method_9_code 186 = .ok (.iload_n 3, 1) := by decide +kernel
theorem d_Ga_sumUp_189 : decode prog_2_method_9_code 189 = .ok (.aload_n 0, 1) := by decide +kernel
theorem d_Ga_sumUp_193 : decode prog_2_method_9_code 193 = .ok (.iload 4, 2) := by decide +kernel
theorem d_Ga_sumUp_195 : decode prog_2_method_9_code 195 = .ok (.aload_n 0, 1) := by decide +kernel
theorem d_Ga_sumUp_199 : decode prog_2_method_9_code 199 = .ok (.iload_n 3, 1) := by decide +kernel
theorem d_Ga_sumUp_202 : decode prog_2_method_9_code 202 = .ok (.aload_n 0, 1) := by decide +kernel
theorem d_Ga_sumUp_206 : decode prog_2_method_9_code 206 = .ok (.aload_n 0, 1) := by decide +kernel
theorem d_Ga_sumUp_210 : decode prog_2_method_9_code 210 = .ok (.aload_n 0, 1) := by decide +kernel
theorem d_Ga_sumUp_214 : decode prog_2_method_9_code 214 = .ok (.iload 4, 2) := by decide +kernel
theorem d_Ga_sumUp_217 : decode prog_2_method_9_code 217 = .ok (.aload_n 2, 1) := by decide +kernel
theorem d_Ga_sumUp_223 : decode prog_2_method_9_code 223 = .ok (.aload_n 0, 1) := by decide +kernel
theorem d_Ga_sumUp_227 : decode prog_2_method_9_code 227 = .ok (.aload_n 0, 1) := by decide +kernel
theorem d_Ga_sumUp_231 : decode prog_2_method_9_code 231 = .ok (.aload_n 0, 1) := by decide +kernel
theorem d_Ga_sumUp_235 : decode prog_2_method_9_code 235 = .ok (.iload 4, 2) := by decide +kernel
theorem d_Ga_sumUp_238 : decode prog_2_method_9_code 238 = .ok (.aload_n 2, 1) := by decide +kernel
theorem d_Ga_sumUp_244 : decode prog_2_method_9_code 244 = .ok (.aload_n 0, 1) := by decide +kernel
theorem d_Ga_sumUp_248 : decode prog_2_method_9_code 248 = .ok (.aload_n 0, 1) := by decide +kernel
theorem d_Ga_sumUp_252 : decode prog_2_method_9_code 252 = .ok (.aload_n 0, 1) := by decide +kernel
theorem d_Ga_sumUp_256 : decode prog_2_method_9_code 256 = .ok (.iload 4, 2) := by decide +kernel
theorem d_Ga_sumUp_259 : decode prog_2_method_9_code 259 = .ok (.aload_n 2, 1) := by decide +kernel
theorem d_Ga_sumUp_265 : decode prog_2_method_9_code 265 = .ok (.aload_n 0, 1) := by decide +kernel
theorem d_Ga_sumUp_269 : decode prog_2_method_9_code 269 = .ok (.aload_n 0, 1) := by decide +kernel
theorem d_Ga_sumUp_273 : decode prog_2_method_9_code 273 = .ok (.aload_n 0, 1) := by decide +kernel
theorem d_Ga_sumUp_277 : decode prog_2_method_9_code 277 = .ok (.iload 4, 2) := by decide +kernel
theorem d_Ga_sumUp_280 : decode prog_2_method_9_code 280 = .ok (.aload_n 2, 1) := by decide +kernel
theorem d_Ga_sumUp_286 : decode prog_2_method_9_code 286 = .ok (.return_, 1) := by decide +kernel
theorem d_Ga_sumUp_285 : decode prog_2_method_9_code 285 = .ok (.iastore, 1) := by decide +kernel
theorem d_Ga_sumUp_284 : decode prog_2_method_9_code 284 = .ok (.iadd, 1) := by decide +kernel
theorem d_Ga_sumUp_281 : decode prog_2_method_9_code 281 = .ok (.getfield 115, 3) := by decide +kernel
theorem d_Ga_sumUp_279 : decode prog_2_method_9_code 279 = .ok (.iaload, 1) := by decide +kernel
theorem d_Ga_sumUp_274 : decode prog_2_method_9_code 274 = .ok (.getfield 40, 3) := by decide +kernel
theorem d_Ga_sumUp_270 : decode prog_2_method_9_code 270 = .ok (.getfield 52, 3) := by decide +kernel
theorem d_Ga_sumUp_266 : decode prog_2_method_9_code 266 = .ok (.getfield 40, 3) := by decide +kernel
theorem d_Ga_sumUp_264 : decode prog_2_method_9_code 264 = .ok (.iastore, 1) := by decide +kernel
theorem d_Ga_sumUp_263 : decode prog_2_method_9_code 263 = .ok (.iadd, 1) := by decide +kernel
theorem d_Ga_sumUp_260 : decode prog_2_method_9_code 260 = .ok (.invokevirtual 112, 3) := by decide +kernel
theorem d_Ga_sumUp_258 : decode prog_2_method_9_code 258 = .ok (.iaload, 1) := by decide +kernel
theorem d_Ga_sumUp_253 : decode prog_2_method_9_code 253 = .ok (.getfield 37, 3) := by decide +kernel
theorem d_Ga_sumUp_249 : decode prog_2_method_9_code 249 = .ok (.getfield 52, 3) := by decide +kernel
theorem d_Ga_sumUp_245 : decode prog_2_method_9_code 245 = .ok (.getfield 37, 3) := by decide +kernel
theorem d_Ga_sumUp_243 : decode prog_2_method_9_code 243 = .ok (.iastore, 1) := by decide +kernel
theorem d_Ga_sumUp_242 : decode prog_2_method_9_code 242 = .ok (.iadd, 1) := by decide +kernel
theorem d_Ga_sumUp_239 : decode prog_2_method_9_code 239 = .ok (.invokevirtual 109, 3) := by decide +kernel
theorem d_Ga_sumUp_237 : decode prog_2_method_9_code 237 = .ok (.iaload, 1) := by decide +kernel
theorem d_Ga_sumUp_232 : decode prog_2_method_9_code 232 = .ok (.getfield 34, 3) := by decide +kernel
theorem d_Ga_sumUp_228 : decode prog_2_method_9_code 228 = .ok (.getfield 52, 3) := by decide +kernel
theorem d_Ga_sumUp_224 : decode prog_2_method_9_code 224 = .ok (.getfield 34, 3) := by decide +kernel
theorem d_Ga_sumUp_222 : decode prog_2_method_9_code 222 = .ok (.iastore, 1) := by decide +kernel
theorem d_Ga_sumUp_221 : decode prog_2_method_9_code 221 = .ok (.iadd, 1) := by decide +kernel
theorem d_Ga_sumUp_218 : decode prog_2_method_9_code 218 = .ok (.getfield 105, 3) := by decide +kernel
theorem d_Ga_sumUp_216 : decode prog_2_method_9_code 216 = .ok (.iaload, 1) := by decide +kernel
theorem d_Ga_sumUp_211 : decode prog_2_method_9_code 211 = .ok (.getfield 31, 3) := by decide +kernel
theorem d_Ga_sumUp_207 : decode prog_2_method_9_code 207 = .ok (.getfield 52, 3) := by decide +kernel
theorem d_Ga_sumUp_203 : decode prog_2_method_9_code 203 = .ok (.getfield 31, 3) := by decide +kernel
theorem d_Ga_sumUp_201 : decode prog_2_method_9_code 201 = .ok (.iastore, 1) := by decide +kernel
theorem d_Ga_sumUp_200 : decode prog_2_method_9_code 200 = .ok (.iaload, 1) := by decide +kernel
theorem d_Ga_sumUp_196 : decode prog_2_method_9_code 196 = .ok (.getfield 40, 3) := by decide +kernel
theorem d_Ga_sumUp_190 : decode prog_2_method_9_code 190 = .ok (.getfield 40, 3) := by decide +kernel
theorem d_Ga_sumUp_188 : decode prog_2_method_9_code 188 = .ok (.iastore, 1) := by decide +kernel
theorem d_Ga_sumUp_187 : decode prog_2_method_9_code 187 = .ok (.iaload, 1) := by decide +kernel
theorem d_Ga_sumUp_183 : decode prog_2_method_9_code 183 = .ok (.getfield 37, 3) := by decide +kernel
theorem d_Ga_sumUp_177 : decode prog_2_method_9_code 177 = .ok (.getfield 37, 3) := by decide +kernel
theorem d_Ga_sumUp_175 : decode prog_2_method_9_code 175 = .ok (.iastore, 1) := by decide +kernel
theorem d_Ga_sumUp_174 : decode prog_2_method_9_code 174 = .ok (.iaload, 1) := by decide +kernel
theorem d_Ga_sumUp_170 : decode prog_2_method_9_code 170 = .ok (.getfield 34, 3) := by decide +kernel
theorem d_Ga_sumUp_164 : decode prog_2_method_9_code 164 = .ok (.getfield 34, 3) := by decide +kernel
theorem d_Ga_sumUp_162 : decode prog_2_method_9_code 162 = .ok (.iastore, 1) := by decide +kernel
theorem d_Ga_sumUp_161 : decode prog_2_method_9_code 161 = .ok (.iaload, 1) := by decide +kernel
theorem d_Ga_sumUp_157 : decode prog_2_method_9_code 157 = .ok (.getfield 31, 3) := by decide +kernel
theorem d_Ga_sumUp_151 : decode prog_2_method_9_code 151 = .ok (.getfield 31, 3) := by decide +kernel
theorem d_Ga_sumUp_147 : decode prog_2_method_9_code 147 = .ok (.iadd, 1) := by decide +kernel
theorem d_Ga_sumUp_146 : decode prog_2_method_9_code 146 = .ok (.iconst 1, 1) := by decide +kernel
theorem d_Ga_sumUp_9 : decode prog_2_method_9_code 9 = .ok (.aload_n 1, 1) := by decide +kernel
theorem d_Ga_sumUp_13 : decode prog_2_method_9_code 13 = .ok (.iload 4, 2) := by decide +kernel
theorem d_Ga_sumUp_23 : decode prog_2_method_9_code 23 = .ok (.iconst 0, 1) := by decide +kernel
theorem d_Ga_sumUp_20 : decode prog_2_method_9_code 20 = .ok (.goto 4, 3) := by decide +kernel
theorem d_Ga_sumUp_19 : decode prog_2_method_9_code 19 = .ok (.iconst 1, 1) := by decide +kernel
theorem d_Ga_sumUp_16 : decode prog_2_method_9_code 16 = .ok (.ifCond .ne 7, 3) := by decide +kernel
theorem d_Ga_sumUp_15 : decode prog_2_method_9_code 15 = .ok (.iaload, 1) := by decide +kernel
theorem d_Ga_sumUp_10 : decode prog_2_method_9_code 10 = .ok (.getfield 93, 3) := by decide +kernel
theorem d_Ga_sumUp_6 : decode prog_2_method_9_code 6 = .ok (.if_icmp .ge 139, 3) := by decide +kernel
theorem d_Ga_sumUp_1 : decode prog_2_method_9_code 1 = .ok (.istore 4, 2) := by decide +kernel
theorem d_Ga_sumUp_0 : decode prog_2_method_9_code 0 = .ok (.iconst 0, 1) := by decide +kernel
theorem d_Ga_mayBreak_0 : decode prog_2_method_11_code 0 = .ok (.aload_n 0, 1) := by decide +kernel
theorem d_Ga_mayBreak_4 : decode prog_2_method_11_code 4 = .ok (.iload_n 1, 1) := by decide +kernel
theorem d_Ga_mayBreak_42 : decode prog_2_method_11_code 42 = .ok (.iload_n 1, 1) := by decide +kernel
theorem d_Ga_mayBreak_79 : decode prog_2_method_11_code 79 = .ok (.ireturn, 1) := by decide +kernel
theorem d_Ga_mayBreak_78 : decode prog_2_method_11_code 78 = .ok (.iconst 0, 1) := by decide +kernel
theorem d_Ga_mayBreak_46 : decode prog_2_method_11_code 46 = .ok (.iload_n 1, 1) := by decide +kernel
theorem d_Ga_mayBreak_47 : decode prog_2_method_11_code 47 = .ok (.iload_n 2, 1) := by decide +kernel
theorem d_Ga_mayBreak_75 : decode prog_2_method_11_code 75 = .ok (.goto 4, 3) := by decide +kernel
theorem d_Ga_mayBreak_74 : decode prog_2_method_11_code 74 = .ok (.iconst 1, 1) := by decide +kernel
theorem d_Ga_mayBreak_51 : decode prog_2_method_11_code 51 = .ok (.aload_n 0, 1) := by decide +kernel
theorem d_Ga_mayBreak_55 : decode prog_2_method_11_code 55 = .ok (.iload_n 1, 1) := by decide +kernel
theorem d_Ga_mayBreak_62 : decode prog_2_method_11_code 62 = .ok (.aload_n 0, 1) := by decide +kernel
theorem d_Ga_mayBreak_66 : decode prog_2_method_11_code 66 = .ok (.iload_n 1, 1) := by decide +kernel
theorem d_Ga_mayBreak_71 : decode prog_2_method_11_code 71 = .ok (.if_icmp .ne 7, 3) := by decide +kernel
theorem d_Ga_mayBreak_70 : decode prog_2_method_11_code 70 = .ok (.iconst 2, 1) := by decide +kernel
theorem d_Ga_mayBreak_69 : decode prog_2_method_11_code 69 = .ok (.iaload, 1) := by decide +kernel
theorem d_Ga_mayBreak_68 : decode prog_2_method_11_code 68 = .ok (.isub, 1) := by decide +kernel
theorem d_Ga_mayBreak_67 : decode prog_2_method_11_code 67 = .ok (.iconst 1, 1) := by decide +kernel
theorem d_Ga_mayBreak_63 : decode prog_2_method_11_code 63 = .ok (.getfield 9, 3) := by decide +kernel
theorem d_Ga_mayBreak_59 : decode prog_2_method_11_code 59 = .ok (.ifCond .eq 15, 3) := by decide +kernel
theorem d_Ga_mayBreak_58 : decode prog_2_method_11_code 58 = .ok (.iaload, 1) := by decide +kernel
theorem d_Ga_mayBreak_57 : decode prog_2_method_11_code 57 = .ok (.isub, 1) := by decide +kernel
theorem d_Ga_mayBreak_56 : decode prog_2_method_11_code 56 = .ok (.iconst 1, 1) := by decide +kernel
theorem d_Ga_mayBreak_52 : decode prog_2_method_11_code 52 = .ok (.getfield 9, 3) := by decide +kernel
theorem d_Ga_mayBreak_48 : decode prog_2_method_11_code 48 = .ok (.if_icmp .eq 26, 3) := by decide +kernel
theorem d_Ga_mayBreak_43 : decode prog_2_method_11_code 43 = .ok (.ifCond .le 35, 3) := by decide +kernel
theorem d_Ga_mayBreak_6 : decode prog_2_method_11_code 6 = .ok (.tableswitch 105 1 5 #[36, 105, 74, 34, 34], 34) := by decide +kernel
theorem d_Ga_mayBreak_112 : decode prog_2_method_11_code 112 = .ok (.ireturn, 1) := by decide +kernel
theorem d_Ga_mayBreak_111 : decode prog_2_method_11_code 111 = .ok (.iconst 0, 1) := by decide +kernel
theorem d_Ga_mayBreak_80 : decode prog_2_method_11_code 80 = .ok (.iload_n 1, 1) := by decide +kernel
theorem d_Ga_mayBreak_81 : decode prog_2_method_11_code 81 = .ok (.iload_n 2, 1) := by decide +kernel
theorem d_Ga_mayBreak_110 : decode prog_2_method_11_code 110 = .ok (.ireturn, 1) := by decide +kernel
theorem d_Ga_mayBreak_109 : decode prog_2_method_11_code 109 = .ok (.iconst 0, 1) := by decide +kernel
theorem d_Ga_mayBreak_85 : decode prog_2_method_11_code 85 = .ok (.iload_n 1, 1) := by decide +kernel
theorem d_Ga_mayBreak_86 : decode prog_2_method_11_code 86 = .ok (.aload_n 0, 1) := by decide +kernel
theorem d_Ga_mayBreak_93 : decode prog_2_method_11_code 93 = .ok (.aload_n 0, 1) := by decide +kernel
theorem d_Ga_mayBreak_97 : decode prog_2_method_11_code 97 = .ok (.iload_n 1, 1) := by decide +kernel
theorem d_Ga_mayBreak_106 : decode prog_2_method_11_code 106 = .ok (.goto 4, 3) := by decide +kernel
theorem d_Ga_mayBreak_105 : decode prog_2_method_11_code 105 = .ok (.iconst 1, 1) := by decide +kernel
theorem d_Ga_mayBreak_102 : decode prog_2_method_11_code 102 = .ok (.if_icmp .ne 7, 3) := by decide +kernel
theorem d_Ga_mayBreak_101 : decode prog_2_method_11_code 101 = .ok (.iconst 1, 1) := by decide +kernel
theorem d_Ga_mayBreak_100 : decode prog_2_method_11_code 100 = .ok (.iaload, 1) := by decide +kernel
theorem d_Ga_mayBreak_99 : decode prog_2_method_11_code 99 = .ok (.iadd, 1) := by decide +kernel
theorem d_Ga_mayBreak_98 : decode prog_2_method_11_code 98 = .ok (.iconst 1, 1) := by decide +kernel
theorem d_Ga_mayBreak_94 : decode prog_2_method_11_code 94 = .ok (.getfield 9, 3) := by decide +kernel
theorem d_Ga_mayBreak_90 : decode prog_2_method_11_code 90 = .ok (.if_icmp .ge 19, 3) := by decide +kernel
theorem d_Ga_mayBreak_87 : decode prog_2_method_11_code 87 = .ok (.getfield 52, 3) := by decide +kernel
theorem d_Ga_mayBreak_82 : decode prog_2_method_11_code 82 = .ok (.if_icmp .lt 27, 3) := by decide +kernel
theorem d_Ga_mayBreak_41 : decode prog_2_method_11_code 41 = .ok (.ireturn, 1) := by decide +kernel
theorem d_Ga_mayBreak_40 : decode prog_2_method_11_code 40 = .ok (.iconst 1, 1) := by decide +kernel
theorem d_Ga_mayBreak_5 : decode prog_2_method_11_code 5 = .ok (.iaload, 1) := by decide +kernel
theorem d_Ga_mayBreak_1 : decode prog_2_method_11_code 1 = .ok (.getfield 9, 3) := by decide +kernel
theorem d_Ga_markPlaces_49 : decode prog_2_method_10_code 49 = .ok (.iload 4, 2) := by decide +kernel
theorem d_Ga_markPlaces_51 : decode prog_2_method_10_code 51 = .ok (.iload_n 2, 1) := by decide +kernel
theorem d_Ga_markPlaces_82 : decode prog_2_method_10_code 82 = .ok (.goto (-77), 3) := by decide +kernel
theorem d_Ga_markPlaces_79 : decode prog_2_method_10_code 79 = .ok (.iinc 4 1, 3) := by decide +kernel
theorem d_Ga_markPlaces_55 : decode prog_2_method_10_code 55 = .ok (.aload_n 0, 1) := by decide +kernel
theorem d_Ga_markPlaces_59 : decode prog_2_method_10_code 59 = .ok (.iload 4, 2) := by decide +kernel
theorem d_Ga_markPlaces_66 : decode prog_2_method_10_code 66 = .ok (.iload 4, 2) := by decide +kernel
theorem d_Ga_markPlaces_70 : decode prog_2_method_10_code 70 = .ok (.aload_n 1, 1) := by decide +kernel
theorem d_Ga_markPlaces_74 : decode prog_2_method_10_code 74 = .ok (.iload 4, 2) := by decide +kernel
theorem d_Ga_markPlaces_78 : decode prog_2_method_10_code 78 = .ok (.istore_n 3, 1) := by decide +kernel
theorem d_Ga_markPlaces_77 : decode prog_2_method_10_code 77 = .ok (.iadd, 1) := by decide +kernel
theorem d_Ga_markPlaces_76 : decode prog_2_method_10_code 76 = .ok (.iaload, 1) := by decide +kernel
theorem d_Ga_markPlaces_71 : decode prog_2_method_10_code 71 = .ok (.getfield 121, 3) := by decide +kernel
theorem d_Ga_markPlaces_69 : decode prog_2_method_10_code 69 = .ok (.iadd, 1) := by decide +kernel
theorem d_Ga_markPlaces_68 : decode prog_2_method_10_code 68 = .ok (.iconst 1, 1) := by decide +kernel
theorem d_Ga_markPlaces_63 : decode prog_2_method_10_code 63 = .ok (.if_icmp .ne 16, 3) := by decide +kernel
theorem d_Ga_markPlaces_62 : decode prog_2_method_10_code 62 = .ok (.iconst 5, 1) := by decide +kernel
theorem d_Ga_markPlaces_61 : decode prog_2_method_10_code 61 = .ok (.iaload, 1) := by decide +kernel
theorem d_Ga_markPlaces_56 : decode prog_2_method_10_code 56 = .ok (.getfield 9, 3) := by decide +kernel
theorem d_Ga_markPlaces_52 : decode prog_2_method_10_code 52 = .ok (.if_icmp .ge 27, 3) := by decide +kernel
theorem d_Ga_markPlaces_48 : decode prog_2_method_10_code 48 = .ok (.bastore, 1) := by decide +kernel
theorem d_Ga_markPlaces_47 : decode prog_2_method_10_code 47 = .ok (.iconst 0, 1) := by decide +kernel
theorem d_Ga_markPlaces_5 : decode prog_2_method_10_code 5 = .ok (.iload 4, 2) := by decide +kernel
theorem d_Ga_markPlaces_7 : decode prog_2_method_10_code 7 = .ok (.aload_n 0, 1) := by decide +kernel
theorem d_Ga_markPlaces_85 : decode prog_2_method_10_code 85 = .ok (.return_, 1) := by decide +kernel
theorem d_Ga_markPlaces_14 : decode prog_2_method_10_code 14 = .ok (.aload_n 0, 1) := by decide +kernel
theorem d_Ga_markPlaces_18 : decode prog_2_method_10_code 18 = .ok (.iload 4, 2) := by decide +kernel
theorem d_Ga_markPlaces_20 : decode prog_2_method_10_code 20 = .ok (.aload_n 0, 1) := by decide +kernel
theorem d_Ga_markPlaces_24 : decode prog_2_method_10_code 24 = .ok (.iload 4, 2) := by decide +kernel
theorem d_Ga_markPlaces_33 : decode prog_2_method_10_code 33 = .ok (.aload_n 0, 1) := by decide +kernel
theorem d_Ga_markPlaces_34 : decode prog_2_method_10_code 34 = .ok (.iload 4, 2) := by decide +kernel
theorem d_Ga_markPlaces_36 : decode prog_2_method_10_code 36 = .ok (.iload_n 3, 1) := by decide +kernel
theorem d_Ga_markPlaces_44 : decode prog_2_method_10_code 44 = .ok (.goto 4, 3) := by decide +kernel
theorem d_Ga_markPlaces_43 : decode prog_2_method_10_code 43 = .ok (.iconst 1, 1) := by decide +kernel
theorem d_Ga_markPlaces_40 : decode prog_2_method_10_code 40 = .ok (.ifCond .eq 7, 3) := by decide +kernel
theorem d_Ga_markPlaces_37 : decode prog_2_method_10_code 37 = .ok (.invokevirtual 117, 3) := by decide +kernel
theorem d_Ga_markPlaces_30 : decode prog_2_method_10_code 30 = .ok (.if_icmp .eq 17, 3) := by decide +kernel
theorem d_Ga_markPlaces_27 : decode prog_2_method_10_code 27 = .ok (.sipush 10000, 3) := by decide +kernel
theorem d_Ga_markPlaces_26 : decode prog_2_method_10_code 26 = .ok (.iaload, 1) := by decide +kernel
theorem d_Ga_markPlaces_21 : decode prog_2_method_10_code 21 = .ok (.getfield 15, 3) := by decide +kernel
theorem d_Ga_markPlaces_15 : decode prog_2_method_10_code 15 = .ok (.getfield 18, 3) := by decide +kernel
theorem d_Ga_markPlaces_11 : decode prog_2_method_10_code 11 = .ok (.if_icmp .gt 74, 3) := by decide +kernel
theorem d_Ga_markPlaces_8 : decode prog_2_method_10_code 8 = .ok (.getfield 52, 3) := by decide +kernel
theorem d_Ga_markPlaces_1 : decode prog_2_method_10_code 1 = .ok (.istore_n 3, 1) := by decide +kernel
theorem d_Ga_markPlaces_3 : decode prog_2_method_10_code 3 = .ok (.istore 4, 2) := by decide +kernel
theorem d_Ga_markPlaces_2 : decode prog_2_method_10_code 2 = .ok (.iconst 0, 1) := by decide +kernel
theorem d_Ga_markPlaces_0 : decode prog_2_method_10_code 0 = .ok (.iconst 0, 1) := by decide +kernel
theorem d_Ga_isLeftOut_0 : decode prog_2_method_13_code 0 = .ok (.iload_n 0, 1) := by decide +kernel
theorem d_Ga_isLeftOut_20 : decode prog_2_method_13_code 20 = .ok (.ireturn, 1) := by decide +kernel
theorem d_Ga_isLeftOut_16 : decode prog_2_method_13_code 16 = .ok (.goto 4, 3) := by decide +kernel
theorem d_Ga_isLeftOut_15 : decode prog_2_method_13_code 15 = .ok (.iconst 1, 1) := by decide +kernel
theorem d_Ga_isLeftOut_5 : decode prog_2_method_13_code 5 = .ok (.iload_n 0, 1) := by decide +kernel
theorem d_Ga_isLeftOut_10 : decode prog_2_method_13_code 10 = .ok (.iload_n 0, 1) := by decide +kernel
theorem d_Ga_isLeftOut_19 : decode prog_2_method_13_code 19 = .ok (.iconst 0, 1) := by decide +kernel
theorem d_Ga_isLeftOut_12 : decode prog_2_method_13_code 12 = .ok (.if_icmp .ne 7, 3) := by decide +kernel
theorem d_Ga_isLeftOut_11 : decode prog_2_method_13_code 11 = .ok (.iconst 4, 1) := by decide +kernel
theorem d_Ga_isLeftOut_7 : decode prog_2_method_13_code 7 = .ok (.if_icmp .eq 8, 3) := by decide +kernel
theorem d_Ga_isLeftOut_6 : decode prog_2_method_13_code 6 = .ok (.iconst 3, 1) := by decide +kernel
theorem d_Ga_isLeftOut_2 : decode prog_2_method_13_code 2 = .ok (.if_icmp .eq 13, 3) := by decide +kernel
theorem d_Ga_isLeftOut_1 : decode prog_2_method_13_code 1 = .ok (.iconst 1, 1) := by decide +kernel
theorem d_Ga_findFirstOnes_56 : decode prog_2_method_12_code 56 = .ok (.aload_n 0, 1) := by decide +kernel
theorem d_Ga_findFirstOnes_60 : decode prog_2_method_12_code 60 = .ok (.iload_n 3, 1) := by decide +kernel
theorem d_Ga_findFirstOnes_61 : decode prog_2_method_12_code 61 = .ok (.aload_n 0, 1) := by decide +kernel
theorem d_Ga_findFirstOnes_65 : decode prog_2_method_12_code 65 = .ok (.iload_n 3, 1) := by decide +kernel
theorem d_Ga_findFirstOnes_68 : decode prog_2_method_12_code 68 = .ok (.iload_n 3, 1) := by decide +kernel
theorem d_Ga_findFirstOnes_69 : decode prog_2_method_12_code 69 = .ok (.iload_n 2, 1) := by decide +kernel
theorem d_Ga_findFirstOnes_134 : decode prog_2_method_12_code 134 = .ok (.goto (-112), 3) := by decide +kernel
theorem d_Ga_findFirstOnes_131 : decode prog_2_method_12_code 131 = .ok (.iinc 3 (-1), 3) := by decide +kernel
theorem d_Ga_findFirstOnes_73 : decode prog_2_method_12_code 73 = .ok (.aload_n 0, 1) := by decide +kernel
theorem d_Ga_findFirstOnes_77 : decode prog_2_method_12_code 77 = .ok (.iload_n 3, 1) := by decide +kernel
theorem d_Ga_findFirstOnes_83 : decode prog_2_method_12_code 83 = .ok (.iload_n 3, 1) := by decide +kernel
theorem d_Ga_findFirstOnes_86 : decode prog_2_method_12_code 86 = .ok (.aload_n 1, 1) := by decide +kernel
theorem d_Ga_findFirstOnes_90 : decode prog_2_method_12_code 90 = .ok (.iload_n 3, 1) := by decide +kernel
theorem d_Ga_findFirstOnes_93 : decode prog_2_method_12_code 93 = .ok (.aload_n 0, 1) := by decide +kernel
theorem d_Ga_findFirstOnes_100 : decode prog_2_method_12_code 100 = .ok (.istore 4, 2) := by decide +kernel
theorem d_Ga_findFirstOnes_102 : decode prog_2_method_12_code 102 = .ok (.aload_n 0, 1) := by decide +kernel
theorem d_Ga_findFirstOnes_106 : decode prog_2_method_12_code 106 = .ok (.iload_n 3, 1) := by decide +kernel
theorem d_Ga_findFirstOnes_107 : decode prog_2_method_12_code 107 = .ok (.aload_n 1, 1) := by decide +kernel
theorem d_Ga_findFirstOnes_111 : decode prog_2_method_12_code 111 = .ok (.iload_n 3, 1) := by decide +kernel
theorem d_Ga_findFirstOnes_128 : decode prog_2_method_12_code 128 = .ok (.iload 4, 2) := by decide +kernel
theorem d_Ga_findFirstOnes_130 : decode prog_2_method_12_code 130 = .ok (.iastore, 1) := by decide +kernel
theorem d_Ga_findFirstOnes_118 : decode prog_2_method_12_code 118 = .ok (.aload_n 0, 1) := by decide +kernel
theorem d_Ga_findFirstOnes_122 : decode prog_2_method_12_code 122 = .ok (.iload 4, 2) := by decide +kernel
theorem d_Ga_findFirstOnes_125 : decode prog_2_method_12_code 125 = .ok (.goto 5, 3) := by decide +kernel
theorem d_Ga_findFirstOnes_124 : decode prog_2_method_12_code 124 = .ok (.iaload, 1) := by decide +kernel
theorem d_Ga_findFirstOnes_119 : decode prog_2_method_12_code 119 = .ok (.getfield 43, 3) := by decide +kernel
theorem d_Ga_findFirstOnes_115 : decode prog_2_method_12_code 115 = .ok (.if_icmp .ne 13, 3) := by decide +kernel
theorem d_Ga_findFirstOnes_113 : decode prog_2_method_12_code 113 = .ok (.ldc 84, 2) := by decide +kernel
theorem d_Ga_findFirstOnes_112 : decode prog_2_method_12_code 112 = .ok (.iaload, 1) := by decide +kernel
theorem d_Ga_findFirstOnes_108 : decode prog_2_method_12_code 108 = .ok (.getfield 92, 3) := by decide +kernel
theorem d_Ga_findFirstOnes_103 : decode prog_2_method_12_code 103 = .ok (.getfield 22, 3) := by decide +kernel
theorem d_Ga_findFirstOnes_97 : decode prog_2_method_12_code 97 = .ok (.invokestatic 128, 3) := by decide +kernel
theorem d_Ga_findFirstOnes_94 : decode prog_2_method_12_code 94 = .ok (.getfield 52, 3) := by decide +kernel
theorem d_Ga_findFirstOnes_92 : decode prog_2_method_12_code 92 = .ok (.iadd, 1) := by decide +kernel
theorem d_Ga_findFirstOnes_91 : decode prog_2_method_12_code 91 = .ok (.iaload, 1) := by decide +kernel
theorem d_Ga_findFirstOnes_87 : decode prog_2_method_12_code 87 = .ok (.getfield 121, 3) := by decide +kernel
theorem d_Ga_findFirstOnes_85 : decode prog_2_method_12_code 85 = .ok (.iadd, 1) := by decide +kernel
theorem d_Ga_findFirstOnes_84 : decode prog_2_method_12_code 84 = .ok (.iconst 1, 1) := by decide +kernel
theorem d_Ga_findFirstOnes_80 : decode prog_2_method_12_code 80 = .ok (.if_icmp .ne 51, 3) := by decide +kernel
theorem d_Ga_findFirstOnes_79 : decode prog_2_method_12_code 79 = .ok (.iconst 5, 1) := by decide +kernel
theorem d_Ga_findFirstOnes_78 : decode prog_2_method_12_code 78 = .ok (.iaload, 1) := by decide +kernel
theorem d_Ga_findFirstOnes_74 : decode prog_2_method_12_code 74 = .ok (.getfield 9, 3) := by decide +kernel
theorem d_Ga_findFirstOnes_70 : decode prog_2_method_12_code 70 = .ok (.if_icmp .ge 61, 3) := by decide +kernel
theorem d_Ga_findFirstOnes_67 : decode prog_2_method_12_code 67 = .ok (.iastore, 1) := by decide +kernel
theorem d_Ga_findFirstOnes_66 : decode prog_2_method_12_code 66 = .ok (.iaload, 1) := by decide +kernel
theorem d_Ga_findFirstOnes_62 : decode prog_2_method_12_code 62 = .ok (.getfield 43, 3) := by decide +kernel
theorem d_Ga_findFirstOnes_57 : decode prog_2_method_12_code 57 = .ok (.getfield 22, 3) := by decide +kernel
theorem d_Ga_findFirstOnes_55 : decode prog_2_method_12_code 55 = .ok (.iastore, 1) := by decide +kernel
theorem d_Ga_findFirstOnes_22 : decode prog_2_method_12_code 22 = .ok (.iload_n 3, 1) := by decide +kernel
theorem d_Ga_findFirstOnes_137 : decode prog_2_method_12_code 137 = .ok (.return_, 1) := by decide +kernel
theorem d_Ga_findFirstOnes_26 : decode prog_2_method_12_code 26 = .ok (.aload_n 0, 1) := by decide +kernel
theorem d_Ga_findFirstOnes_30 : decode prog_2_method_12_code 30 = .ok (.iload_n 3, 1) := by decide +kernel
theorem d_Ga_findFirstOnes_31 : decode prog_2_method_12_code 31 = .ok (.aload_n 0, 1) := by decide +kernel
theorem d_Ga_findFirstOnes_35 : decode prog_2_method_12_code 35 = .ok (.iload_n 3, 1) := by decide +kernel
theorem d_Ga_findFirstOnes_54 : decode prog_2_method_12_code 54 = .ok (.iload_n 3, 1) := by decide +kernel
theorem d_Ga_findFirstOnes_43 : decode prog_2_method_12_code 43 = .ok (.aload_n 0, 1) := by decide +kernel
theorem d_Ga_findFirstOnes_47 : decode prog_2_method_12_code 47 = .ok (.iload_n 3, 1) := by decide +kernel
theorem d_Ga_findFirstOnes_51 : decode prog_2_method_12_code 51 = .ok (.goto 4, 3) := by decide +kernel
theorem d_Ga_findFirstOnes_50 : decode prog_2_method_12_code 50 = .ok (.iaload, 1) := by decide +kernel
theorem d_Ga_findFirstOnes_49 : decode prog_2_method_12_code 49 = .ok (.iadd, 1) := by decide +kernel
theorem d_Ga_findFirstOnes_48 : decode prog_2_method_12_code 48 = .ok (.iconst 1, 1) := by decide +kernel
theorem d_Ga_findFirstOnes_44 : decode prog_2_method_12_code 44 = .ok (.getfield 43, 3) := by decide +kernel
theorem d_Ga_findFirstOnes_40 : decode prog_2_method_12_code 40 = .ok (.ifCond .eq 14, 3) := by decide +kernel
theorem d_Ga_findFirstOnes_37 : decode prog_2_method_12_code 37 = .ok (.invokestatic 124, 3) := by decide +kernel
theorem d_Ga_findFirstOnes_36 : decode prog_2_method_12_code 36 = .ok (.iaload, 1) := by decide +kernel
theorem d_Ga_findFirstOnes_32 : decode prog_2_method_12_code 32 = .ok (.getfield 9, 3) := by decide +kernel
theorem d_Ga_findFirstOnes_27 : decode prog_2_method_12_code 27 = .ok (.getfield 43, 3) := by decide +kernel
theorem d_Ga_findFirstOnes_23 : decode prog_2_method_12_code 23 = .ok (.ifCond .lt 114, 3) := by decide +kernel
theorem d_Ga_findFirstOnes_0 : decode prog_2_method_12_code 0 = .ok (.aload_n 0, 1) := by decide +kernel
theorem d_Ga_findFirstOnes_4 : decode prog_2_method_12_code 4 = .ok (.aload_n 0, 1) := by decide +kernel
theorem d_Ga_findFirstOnes_10 : decode prog_2_method_12_code 10 = .ok (.aload_n 0, 1) := by decide +kernel
theorem d_Ga_findFirstOnes_17 : decode prog_2_method_12_code 17 = .ok (.aload_n 0, 1) := by decide +kernel
theorem d_Ga_findFirstOnes_21 : decode prog_2_method_12_code 21 = .ok (.istore_n 3, 1) := by decide +kernel
theorem d_Ga_findFirstOnes_18 : decode prog_2_method_12_code 18 = .ok (.getfield 52, 3) := by decide +kernel
theorem d_Ga_findFirstOnes_16 : decode prog_2_method_12_code 16 = .ok (.iastore, 1) := by decide +kernel
theorem d_Ga_findFirstOnes_15 : decode prog_2_method_12_code 15 = .ok (.iadd, 1) := by decide +kernel
theorem d_Ga_findFirstOnes_14 : decode prog_2_method_12_code 14 = .ok (.iconst 1, 1) := by decide +kernel
theorem d_Ga_findFirstOnes_11 : decode prog_2_method_12_code 11 = .ok (.getfield 52, 3) := by decide +kernel
theorem d_Ga_findFirstOnes_9 : decode prog_2_method_12_code 9 = .ok (.iadd, 1) := by decide +kernel
theorem d_Ga_findFirstOnes_8 : decode prog_2_method_12_code 8 = .ok (.iconst 1, 1) := by decide +kernel
theorem d_Ga_findFirstOnes_5 : decode prog_2_method_12_code 5 = .ok (.getfield 52, 3) := by decide +kernel
theorem d_Ga_findFirstOnes_1 : decode prog_2_method_12_code 1 = .ok (.getfield 43, 3) := by decide +kernel
theorem d_Ga_prepare_0 : decode prog_2_method_2_code 0 = .ok (.aload_n 1, 1) := by decide +kernel
theorem d_Ga_prepare_4 : decode prog_2_method_2_code 4 = .ok (.istore_n 3, 1) := by decide +kernel
theorem d_Ga_prepare_5 : decode prog_2_method_2_code 5 = .ok (.aload_n 0, 1) := by decide +kernel
theorem d_Ga_prepare_6 : decode prog_2_method_2_code 6 = .ok (.iload_n 3, 1) := by decide +kernel
theorem d_Ga_prepare_14 : decode prog_2_method_2_code 14 = .ok (.aload_n 0, 1) := by decide +kernel
theorem d_Ga_prepare_15 : decode prog_2_method_2_code 15 = .ok (.aload_n 1, 1) := by decide +kernel
theorem d_Ga_prepare_16 : decode prog_2_method_2_code 16 = .ok (.aload_n 2, 1) := by decide +kernel
theorem d_Ga_prepare_17 : decode prog_2_method_2_code 17 = .ok (.iload_n 3, 1) := by decide +kernel
theorem d_Ga_prepare_21 : decode prog_2_method_2_code 21 = .ok (.aload_n 0, 1) := by decide +kernel
theorem d_Ga_prepare_22 : decode prog_2_method_2_code 22 = .ok (.iload_n 3, 1) := by decide +kernel
theorem d_Ga_prepare_26 : decode prog_2_method_2_code 26 = .ok (.aload_n 0, 1) := by decide +kernel
theorem d_Ga_prepare_27 : decode prog_2_method_2_code 27 = .ok (.aload_n 1, 1) := by decide +kernel
theorem d_Ga_prepare_28 : decode prog_2_method_2_code 28 = .ok (.aload_n 2, 1) := by decide +kernel
theorem d_Ga_prepare_32 : decode prog_2_method_2_code 32 = .ok (.iload_n 3, 1) := by decide +kernel
theorem d_Ga_prepare_36 : decode prog_2_method_2_code 36 = .ok (.aload_n 0, 1) := by decide +kernel
theorem d_Ga_prepare_37 : decode prog_2_method_2_code 37 = .ok (.aload_n 1, 1) := by decide +kernel
theorem d_Ga_prepare_38 : decode prog_2_method_2_code 38 = .ok (.iload_n 3, 1) := by decide +kernel
theorem d_Ga_prepare_42 : decode prog_2_method_2_code 42 = .ok (.aload_n 0, 1) := by decide +kernel
theorem d_Ga_prepare_43 : decode prog_2_method_2_code 43 = .ok (.aload_n 1, 1) := by decide +kernel
theorem d_Ga_prepare_44 : decode prog_2_method_2_code 44 = .ok (.iload_n 3, 1) := by decide +kernel
theorem d_Ga_prepare_48 : decode prog_2_method_2_code 48 = .ok (.return_, 1) := by decide +kernel
theorem d_Ga_prepare_45 : decode prog_2_method_2_code 45 = .ok (.invokevirtual 78, 3) := by decide +kernel
theorem d_Ga_prepare_39 : decode prog_2_method_2_code 39 = .ok (.invokevirtual 74, 3) := by decide +kernel
theorem d_Ga_prepare_33 : decode prog_2_method_2_code 33 = .ok (.invokevirtual 70, 3) := by decide +kernel
theorem d_Ga_prepare_29 : decode prog_2_method_2_code 29 = .ok (.getfield 64, 3) := by decide +kernel
theorem d_Ga_prepare_23 : decode prog_2_method_2_code 23 = .ok (.invokevirtual 60, 3) := by decide +kernel
theorem d_Ga_prepare_18 : decode prog_2_method_2_code 18 = .ok (.invokevirtual 56, 3) := by decide +kernel
theorem d_Ga_prepare_11 : decode prog_2_method_2_code 11 = .ok (.putfield 52, 3) := by decide +kernel
theorem d_Ga_prepare_10 : decode prog_2_method_2_code 10 = .ok (.isub, 1) := by decide +kernel
theorem d_Ga_prepare_9 : decode prog_2_method_2_code 9 = .ok (.iconst 1, 1) := by decide +kernel
theorem d_Ga_prepare_8 : decode prog_2_method_2_code 8 = .ok (.iadd, 1) := by decide +kernel
theorem d_Ga_prepare_7 : decode prog_2_method_2_code 7 = .ok (.iconst 3, 1) := by decide +kernel
theorem d_Ga_prepare_1 : decode prog_2_method_2_code 1 = .ok (.invokevirtual 46, 3) := by decide +kernel
theorem d_Ou_forget_0 : decode prog_7_method_2_code 0 = .ok (.aload_n 0, 1) := by decide +kernel
theorem d_Ou_forget_5 : decode prog_7_method_2_code 5 = .ok (.aload_n 0, 1) := by decide +kernel
theorem d_Ou_forget_10 : decode prog_7_method_2_code 10 = .ok (.aload_n 0, 1) := by decide +kernel
theorem d_Ou_forget_15 : decode prog_7_method_2_code 15 = .ok (.return_, 1) := by decide +kernel
theorem d_Ou_forget_12 : decode prog_7_method_2_code 12 = .ok (.putfield 27, 3) := by decide +kernel
theorem d_Ou_forget_11 : decode prog_7_method_2_code 11 = .ok (.iconst 0, 1) := by decide +kernel
theorem d_Ou_forget_7 : decode prog_7_method_2_code 7 = .ok (.putfield 24, 3) := by decide +kernel
theorem d_Ou_forget_6 : decode prog_7_method_2_code 6 = .ok (.iconst 0, 1) := by decide +kernel
theorem d_Ou_forget_2 : decode prog_7_method_2_code 2 = .ok (.putfield 20, 3) := by decide +kernel
theorem d_Ou_forget_1 : decode prog_7_method_2_code 1 = .ok (.iconst 0, 1) := by decide +kernel
theorem d_Ou_record_44 : decode prog_7_method_3_code 44 = .ok (.iload 6, 2) := by decide +kernel
theorem d_Ou_record_187 : decode prog_7_method_3_code 187 = .ok (.return_, 1) := by decide +kernel
theorem d_Ou_record_49 : decode prog_7_method_3_code 49 = .ok (.aload 4, 2) := by decide +kernel
theorem d_Ou_record_54 : decode prog_7_method_3_code 54 = .ok (.iload 5, 2) := by decide +kernel
theorem d_Ou_record_57 : decode prog_7_method_3_code 57 = .ok (.istore 7, 2) := by decide +kernel
theorem d_Ou_record_59 : decode prog_7_method_3_code 59 = .ok (.aload_n 1, 1) := by decide +kernel
theorem d_Ou_record_60 : decode prog_7_method_3_code 60 = .ok (.iload 7, 2) := by decide +kernel
theorem d_Ou_record_62 : decode prog_7_method_3_code 62 = .ok (.aload 4, 2) := by decide +kernel
theorem d_Ou_record_67 : decode prog_7_method_3_code 67 = .ok (.iload 5, 2) := by decide +kernel
theorem d_Ou_record_73 : decode prog_7_method_3_code 73 = .ok (.aload_n 0, 1) := by decide +kernel
theorem d_Ou_record_79 : decode prog_7_method_3_code 79 = .ok (.iload 6, 2) := by decide +kernel
theorem d_Ou_record_81 : decode prog_7_method_3_code 81 = .ok (.aload 4, 2) := by decide +kernel
theorem d_Ou_record_86 : decode prog_7_method_3_code 86 = .ok (.iload 5, 2) := by decide +kernel
theorem d_Ou_record_90 : decode prog_7_method_3_code 90 = .ok (.aload_n 0, 1) := by decide +kernel
theorem d_Ou_record_96 : decode prog_7_method_3_code 96 = .ok (.iload 6, 2) := by decide +kernel
theorem d_Ou_record_98 : decode prog_7_method_3_code 98 = .ok (.aload_n 1, 1) := by decide +kernel
theorem d_Ou_record_102 : decode prog_7_method_3_code 102 = .ok (.aload 4, 2) := by decide +kernel
theorem d_Ou_record_107 : decode prog_7_method_3_code 107 = .ok (.iload 7, 2) := by decide +kernel
theorem d_Ou_record_114 : decode prog_7_method_3_code 114 = .ok (.aload_n 0, 1) := by decide +kernel
theorem d_Ou_record_120 : decode prog_7_method_3_code 120 = .ok (.iload 6, 2) := by decide +kernel
theorem d_Ou_record_122 : decode prog_7_method_3_code 122 = .ok (.aload_n 1, 1) := by decide +kernel
theorem d_Ou_record_130 : decode prog_7_method_3_code 130 = .ok (.aload_n 0, 1) := by decide +kernel
theorem d_Ou_record_136 : decode prog_7_method_3_code 136 = .ok (.iload 6, 2) := by decide +kernel
theorem d_Ou_record_138 : decode prog_7_method_3_code 138 = .ok (.aload_n 1, 1) := by decide +kernel
theorem d_Ou_record_146 : decode prog_7_method_3_code 146 = .ok (.aload_n 0, 1) := by decide +kernel
theorem d_Ou_record_152 : decode prog_7_method_3_code 152 = .ok (.iload 6, 2) := by decide +kernel
theorem d_Ou_record_154 : decode prog_7_method_3_code 154 = .ok (.aload_n 1, 1) := by decide +kernel
theorem d_Ou_record_162 : decode prog_7_method_3_code 162 = .ok (.aload_n 0, 1) := by decide +kernel
theorem d_Ou_record_166 : decode prog_7_method_3_code 166 = .ok (.iload 6, 2) := by decide +kernel
theorem d_Ou_record_168 : decode prog_7_method_3_code 168 = .ok (.aload 4, 2) := by decide +kernel
theorem d_Ou_record_173 : decode prog_7_method_3_code 173 = .ok (.iload 5, 2) := by decide +kernel
theorem d_Ou_record_177 : decode prog_7_method_3_code 177 = .ok (.iload 7, 2) := by decide +kernel
theorem d_Ou_record_179 : decode prog_7_method_3_code 179 = .ok (.istore 5, 2) := by decide +kernel
theorem d_Ou_record_184 : decode prog_7_method_3_code 184 = .ok (.goto (-140), 3) := by decide +kernel
theorem d_Ou_record_181 : decode prog_7_method_3_code 181 = .ok (.iinc 6 (-1), 3) := by decide +kernel
theorem d_Ou_record_176 : decode prog_7_method_3_code 176 = .ok (.lastore, 1) := by decide +kernel
theorem d_Ou_record_175 : decode prog_7_method_3_code 175 = .ok (.laload, 1) := by decide +kernel
theorem d_Ou_record_170 : decode prog_7_method_3_code 170 = .ok (.getfield 78, 3) := by decide +kernel
theorem d_Ou_record_163 : decode prog_7_method_3_code 163 = .ok (.getfield 16, 3) := by decide +kernel
theorem d_Ou_record_161 : decode prog_7_method_3_code 161 = .ok (.iastore, 1) := by decide +kernel
theorem d_Ou_record_158 : decode prog_7_method_3_code 158 = .ok (.getfield 75, 3) := by decide +kernel
theorem d_Ou_record_155 : decode prog_7_method_3_code 155 = .ok (.getfield 63, 3) := by decide +kernel
theorem d_Ou_record_151 : decode prog_7_method_3_code 151 = .ok (.aaload, 1) := by decide +kernel
theorem d_Ou_record_150 : decode prog_7_method_3_code 150 = .ok (.iconst 4, 1) := by decide +kernel
theorem d_Ou_record_147 : decode prog_7_method_3_code 147 = .ok (.getfield 13, 3) := by decide +kernel
theorem d_Ou_record_145 : decode prog_7_method_3_code 145 = .ok (.iastore, 1) := by decide +kernel
theorem d_Ou_record_142 : decode prog_7_method_3_code 142 = .ok (.getfield 72, 3) := by decide +kernel
theorem d_Ou_record_139 : decode prog_7_method_3_code 139 = .ok (.getfield 63, 3) := by decide +kernel
theorem d_Ou_record_135 : decode prog_7_method_3_code 135 = .ok (.aaload, 1) := by decide +kernel
theorem d_Ou_record_134 : decode prog_7_method_3_code 134 = .ok (.iconst 3, 1) := by decide +kernel
theorem d_Ou_record_131 : decode prog_7_method_3_code 131 = .ok (.getfield 13, 3) := by decide +kernel
theorem d_Ou_record_129 : decode prog_7_method_3_code 129 = .ok (.iastore, 1) := by decide +kernel
theorem d_Ou_record_126 : decode prog_7_method_3_code 126 = .ok (.getfield 67, 3) := by decide +kernel
theorem d_Ou_record_123 : decode prog_7_method_3_code 123 = .ok (.getfield 63, 3) := by decide +kernel
theorem d_Ou_record_119 : decode prog_7_method_3_code 119 = .ok (.aaload, 1) := by decide +kernel
theorem d_Ou_record_118 : decode prog_7_method_3_code 118 = .ok (.iconst 2, 1) := by decide +kernel
theorem d_Ou_record_115 : decode prog_7_method_3_code 115 = .ok (.getfield 13, 3) := by decide +kernel
theorem d_Ou_record_113 : decode prog_7_method_3_code 113 = .ok (.iastore, 1) := by decide +kernel
theorem d_Ou_record_110 : decode prog_7_method_3_code 110 = .ok (.invokevirtual 57, 3) := by decide +kernel
theorem d_Ou_record_109 : decode prog_7_method_3_code 109 = .ok (.iaload, 1) := by decide +kernel
theorem d_Ou_record_104 : decode prog_7_method_3_code 104 = .ok (.getfield 46, 3) := by decide +kernel
theorem d_Ou_record_99 : decode prog_7_method_3_code 99 = .ok (.getfield 53, 3) := by decide +kernel
theorem d_Ou_record_95 : decode prog_7_method_3_code 95 = .ok (.aaload, 1) := by decide +kernel
theorem d_Ou_record_94 : decode prog_7_method_3_code 94 = .ok (.iconst 1, 1) := by decide +kernel
theorem d_Ou_record_91 : decode prog_7_method_3_code 91 = .ok (.getfield 13, 3) := by decide +kernel
theorem d_Ou_record_89 : decode prog_7_method_3_code 89 = .ok (.iastore, 1) := by decide +kernel
theorem d_Ou_record_88 : decode prog_7_method_3_code 88 = .ok (.iaload, 1) := by decide +kernel
theorem d_Ou_record_83 : decode prog_7_method_3_code 83 = .ok (.getfield 46, 3) := by decide +kernel
theorem d_Ou_record_78 : decode prog_7_method_3_code 78 = .ok (.aaload, 1) := by decide +kernel
theorem d_Ou_record_77 : decode prog_7_method_3_code 77 = .ok (.iconst 0, 1) := by decide +kernel
theorem d_Ou_record_74 : decode prog_7_method_3_code 74 = .ok (.getfield 13, 3) := by decide +kernel
theorem d_Ou_record_70 : decode prog_7_method_3_code 70 = .ok (.invokevirtual 49, 3) := by decide +kernel
theorem d_Ou_record_69 : decode prog_7_method_3_code 69 = .ok (.iaload, 1) := by decide +kernel
theorem d_Ou_record_64 : decode prog_7_method_3_code 64 = .ok (.getfield 46, 3) := by decide +kernel
theorem d_Ou_record_56 : decode prog_7_method_3_code 56 = .ok (.iaload, 1) := by decide +kernel
theorem d_Ou_record_51 : decode prog_7_method_3_code 51 = .ok (.getfield 43, 3) := by decide +kernel
theorem d_Ou_record_46 : decode prog_7_method_3_code 46 = .ok (.ifCond .lt 141, 3) := by decide +kernel
theorem d_Ou_record_0 : decode prog_7_method_3_code 0 = .ok (.aload_n 1, 1) := by decide +kernel
theorem d_Ou_record_4 : decode prog_7_method_3_code 4 = .ok (.astore 4, 2) := by decide +kernel
theorem d_Ou_record_6 : decode prog_7_method_3_code 6 = .ok (.aload_n 0, 1) := by decide +kernel
theorem d_Ou_record_7 : decode prog_7_method_3_code 7 = .ok (.aload 4, 2) := by decide +kernel
theorem d_Ou_record_12 : decode prog_7_method_3_code 12 = .ok (.iload_n 2, 1) := by decide +kernel
theorem d_Ou_record_17 : decode prog_7_method_3_code 17 = .ok (.aload_n 0, 1) := by decide +kernel
theorem d_Ou_record_18 : decode prog_7_method_3_code 18 = .ok (.iload_n 3, 1) := by decide +kernel
theorem d_Ou_record_22 : decode prog_7_method_3_code 22 = .ok (.aload_n 0, 1) := by decide +kernel
theorem d_Ou_record_23 : decode prog_7_method_3_code 23 = .ok (.aload 4, 2) := by decide +kernel
theorem d_Ou_record_33 : decode prog_7_method_3_code 33 = .ok (.iload_n 2, 1) := by decide +kernel
theorem d_Ou_record_34 : decode prog_7_method_3_code 34 = .ok (.istore 5, 2) := by decide +kernel
theorem d_Ou_record_36 : decode prog_7_method_3_code 36 = .ok (.aload_n 0, 1) := by decide +kernel
theorem d_Ou_record_42 : decode prog_7_method_3_code 42 = .ok (.istore 6, 2) := by decide +kernel
theorem d_Ou_record_41 : decode prog_7_method_3_code 41 = .ok (.isub, 1) := by decide +kernel
theorem d_Ou_record_40 : decode prog_7_method_3_code 40 = .ok (.iconst 1, 1) := by decide +kernel
theorem d_Ou_record_37 : decode prog_7_method_3_code 37 = .ok (.getfield 20, 3) := by decide +kernel
theorem d_Ou_record_30 : decode prog_7_method_3_code 30 = .ok (.putfield 27, 3) := by decide +kernel
theorem d_Ou_record_29 : decode prog_7_method_3_code 29 = .ok (.isub, 1) := by decide +kernel
theorem d_Ou_record_28 : decode prog_7_method_3_code 28 = .ok (.iconst 1, 1) := by decide +kernel
theorem d_Ou_record_25 : decode prog_7_method_3_code 25 = .ok (.getfield 42, 3) := by decide +kernel
theorem d_Ou_record_19 : decode prog_7_method_3_code 19 = .ok (.putfield 24, 3) := by decide +kernel
theorem d_Ou_record_14 : decode prog_7_method_3_code 14 = .ok (.putfield 20, 3) := by decide +kernel
theorem d_Ou_record_13 : decode prog_7_method_3_code 13 = .ok (.iaload, 1) := by decide +kernel
theorem d_Ou_record_9 : decode prog_7_method_3_code 9 = .ok (.getfield 36, 3) := by decide +kernel
theorem d_Ou_record_1 : decode prog_7_method_3_code 1 = .ok (.getfield 30, 3) := by decide +kernel
theorem d_Pa_append_0 : decode prog_8_method_2_code 0 = .ok (.aload_n 0, 1) := by decide +kernel
theorem d_Pa_append_4 : decode prog_8_method_2_code 4 = .ok (.istore_n 3, 1) := by decide +kernel
theorem d_Pa_append_5 : decode prog_8_method_2_code 5 = .ok (.aload_n 0, 1) := by decide +kernel
theorem d_Pa_append_9 : decode prog_8_method_2_code 9 = .ok (.iload_n 3, 1) := by decide +kernel
theorem d_Pa_append_10 : decode prog_8_method_2_code 10 = .ok (.iload_n 1, 1) := by decide +kernel
theorem d_Pa_append_12 : decode prog_8_method_2_code 12 = .ok (.aload_n 0, 1) := by decide +kernel
theorem d_Pa_append_16 : decode prog_8_method_2_code 16 = .ok (.iload_n 3, 1) := by decide +kernel
theorem d_Pa_append_17 : decode prog_8_method_2_code 17 = .ok (.iload_n 2, 1) := by decide +kernel
theorem d_Pa_append_19 : decode prog_8_method_2_code 19 = .ok (.aload_n 0, 1) := by decide +kernel
theorem d_Pa_append_23 : decode prog_8_method_2_code 23 = .ok (.iload_n 3, 1) := by decide +kernel
theorem d_Pa_append_26 : decode prog_8_method_2_code 26 = .ok (.aload_n 0, 1) := by decide +kernel
theorem d_Pa_append_30 : decode prog_8_method_2_code 30 = .ok (.iload_n 3, 1) := by decide +kernel
theorem d_Pa_append_33 : decode prog_8_method_2_code 33 = .ok (.aload_n 0, 1) := by decide +kernel
theorem d_Pa_append_37 : decode prog_8_method_2_code 37 = .ok (.iload_n 3, 1) := by decide +kernel
theorem d_Pa_append_40 : decode prog_8_method_2_code 40 = .ok (.aload_n 0, 1) := by decide +kernel
theorem d_Pa_append_44 : decode prog_8_method_2_code 44 = .ok (.iload_n 3, 1) := by decide +kernel
theorem d_Pa_append_47 : decode prog_8_method_2_code 47 = .ok (.aload_n 0, 1) := by decide +kernel
theorem d_Pa_append_51 : decode prog_8_method_2_code 51 = .ok (.iload_n 3, 1) := by decide +kernel
theorem d_Pa_append_55 : decode prog_8_method_2_code 55 = .ok (.aload_n 0, 1) := by decide +kernel
theorem d_Pa_append_59 : decode prog_8_method_2_code 59 = .ok (.iload_n 3, 1) := by decide +kernel
theorem d_Pa_append_63 : decode prog_8_method_2_code 63 = .ok (.aload_n 0, 1) := by decide +kernel
theorem d_Pa_append_67 : decode prog_8_method_2_code 67 = .ok (.iload_n 3, 1) := by decide +kernel
theorem d_Pa_append_70 : decode prog_8_method_2_code 70 = .ok (.aload_n 0, 1) := by decide +kernel
theorem d_Pa_append_71 : decode prog_8_method_2_code 71 = .ok (.iload_n 3, 1) := by decide +kernel
theorem d_Pa_append_77 : decode prog_8_method_2_code 77 = .ok (.iload_n 3, 1) := by decide +kernel
theorem d_Pa_append_78 : decode prog_8_method_2_code 78 = .ok (.ireturn, 1) := by decide +kernel
theorem d_Pa_append_74 : decode prog_8_method_2_code 74 = .ok (.putfield 39, 3) := by decide +kernel
theorem d_Pa_append_73 : decode prog_8_method_2_code 73 = .ok (.iadd, 1) := by decide +kernel
theorem d_Pa_append_72 : decode prog_8_method_2_code 72 = .ok (.iconst 1, 1) := by decide +kernel
theorem d_Pa_append_69 : decode prog_8_method_2_code 69 = .ok (.iastore, 1) := by decide +kernel
theorem d_Pa_append_68 : decode prog_8_method_2_code 68 = .ok (.iconst 0, 1) := by decide +kernel
theorem d_Pa_append_64 : decode prog_8_method_2_code 64 = .ok (.getfield 36, 3) := by decide +kernel
theorem d_Pa_append_62 : decode prog_8_method_2_code 62 = .ok (.iastore, 1) := by decide +kernel
theorem d_Pa_append_60 : decode prog_8_method_2_code 60 = .ok (.ldc 43, 2) := by decide +kernel
theorem d_Pa_append_56 : decode prog_8_method_2_code 56 = .ok (.getfield 33, 3) := by decide +kernel
theorem d_Pa_append_54 : decode prog_8_method_2_code 54 = .ok (.iastore, 1) := by decide +kernel
theorem d_Pa_append_52 : decode prog_8_method_2_code 52 = .ok (.ldc 43, 2) := by decide +kernel
theorem d_Pa_append_48 : decode prog_8_method_2_code 48 = .ok (.getfield 30, 3) := by decide +kernel
theorem d_Pa_append_46 : decode prog_8_method_2_code 46 = .ok (.iastore, 1) := by decide +kernel
theorem d_Pa_append_45 : decode prog_8_method_2_code 45 = .ok (.iconst 0, 1) := by decide +kernel
theorem d_Pa_append_41 : decode prog_8_method_2_code 41 = .ok (.getfield 27, 3) := by decide +kernel
theorem d_Pa_append_39 : decode prog_8_method_2_code 39 = .ok (.iastore, 1) := by decide +kernel
theorem d_Pa_append_38 : decode prog_8_method_2_code 38 = .ok (.iconst 0, 1) := by decide +kernel
theorem d_Pa_append_34 : decode prog_8_method_2_code 34 = .ok (.getfield 24, 3) := by decide +kernel
theorem d_Pa_append_32 : decode prog_8_method_2_code 32 = .ok (.iastore, 1) := by decide +kernel
theorem d_Pa_append_31 : decode prog_8_method_2_code 31 = .ok (.iconst 0, 1) := by decide +kernel
theorem d_Pa_append_27 : decode prog_8_method_2_code 27 = .ok (.getfield 21, 3) := by decide +kernel
theorem d_Pa_append_25 : decode prog_8_method_2_code 25 = .ok (.iastore, 1) := by decide +kernel
theorem d_Pa_append_24 : decode prog_8_method_2_code 24 = .ok (.iconst 0, 1) := by decide +kernel
theorem d_Pa_append_20 : decode prog_8_method_2_code 20 = .ok (.getfield 18, 3) := by decide +kernel
theorem d_Pa_append_18 : decode prog_8_method_2_code 18 = .ok (.iastore, 1) := by decide +kernel
theorem d_Pa_append_13 : decode prog_8_method_2_code 13 = .ok (.getfield 15, 3) := by decide +kernel
theorem d_Pa_append_11 : decode prog_8_method_2_code 11 = .ok (.iastore, 1) := by decide +kernel
theorem d_Pa_append_6 : decode prog_8_method_2_code 6 = .ok (.getfield 9, 3) := by decide +kernel
theorem d_Pa_append_1 : decode prog_8_method_2_code 1 = .ok (.getfield 39, 3) := by decide +kernel
theorem d_Pa_appendGlue_0 : decode prog_8_method_3_code 0 = .ok (.aload_n 0, 1) := by decide +kernel
theorem d_Pa_appendGlue_2 : decode prog_8_method_3_code 2 = .ok (.iload_n 1, 1) := by decide +kernel
theorem d_Pa_appendGlue_6 : decode prog_8_method_3_code 6 = .ok (.istore 5, 2) := by decide +kernel
theorem d_Pa_appendGlue_8 : decode prog_8_method_3_code 8 = .ok (.aload_n 0, 1) := by decide +kernel
theorem d_Pa_appendGlue_12 : decode prog_8_method_3_code 12 = .ok (.iload 5, 2) := by decide +kernel
theorem d_Pa_appendGlue_14 : decode prog_8_method_3_code 14 = .ok (.iload_n 2, 1) := by decide +kernel
theorem d_Pa_appendGlue_16 : decode prog_8_method_3_code 16 = .ok (.aload_n 0, 1) := by decide +kernel
theorem d_Pa_appendGlue_20 : decode prog_8_method_3_code 20 = .ok (.iload 5, 2) := by decide +kernel
theorem d_Pa_appendGlue_22 : decode prog_8_method_3_code 22 = .ok (.iload_n 3, 1) := by decide +kernel
theorem d_Pa_appendGlue_24 : decode prog_8_method_3_code 24 = .ok (.aload_n 0, 1) := by decide +kernel
theorem d_Pa_appendGlue_28 : decode prog_8_method_3_code 28 = .ok (.iload 5, 2) := by decide +kernel
theorem d_Pa_appendGlue_30 : decode prog_8_method_3_code 30 = .ok (.iload 4, 2) := by decide +kernel
theorem d_Pa_appendGlue_33 : decode prog_8_method_3_code 33 = .ok (.iload 5, 2) := by decide +kernel
theorem d_Pa_appendGlue_35 : decode prog_8_method_3_code 35 = .ok (.ireturn, 1) := by decide +kernel
theorem d_Pa_appendGlue_32 : decode prog_8_method_3_code 32 = .ok (.iastore, 1) := by decide +kernel
theorem d_Pa_appendGlue_25 : decode prog_8_method_3_code 25 = .ok (.getfield 24, 3) := by decide +kernel
theorem d_Pa_appendGlue_23 : decode prog_8_method_3_code 23 = .ok (.iastore, 1) := by decide +kernel
theorem d_Pa_appendGlue_17 : decode prog_8_method_3_code 17 = .ok (.getfield 21, 3) := by decide +kernel
theorem d_Pa_appendGlue_15 : decode prog_8_method_3_code 15 = .ok (.iastore, 1) := by decide +kernel
theorem d_Pa_appendGlue_9 : decode prog_8_method_3_code 9 = .ok (.getfield 18, 3) := by decide +kernel
theorem d_Pa_appendGlue_3 : decode prog_8_method_3_code 3 = .ok (.invokevirtual 44, 3) := by decide +kernel
theorem d_Pa_appendGlue_1 : decode prog_8_method_3_code 1 = .ok (.iconst 1, 1) := by decide +kernel
theorem d_Pa_appendPenalty_0 : decode prog_8_method_4_code 0 = .ok (.aload_n 0, 1) := by decide +kernel
theorem d_Pa_appendPenalty_6 : decode prog_8_method_4_code 6 = .ok (.istore_n 2, 1) := by decide +kernel
theorem d_Pa_appendPenalty_7 : decode prog_8_method_4_code 7 = .ok (.aload_n 0, 1) := by decide +kernel
theorem d_Pa_appendPenalty_11 : decode prog_8_method_4_code 11 = .ok (.iload_n 2, 1) := by decide +kernel
theorem d_Pa_appendPenalty_12 : decode prog_8_method_4_code 12 = .ok (.iload_n 1, 1) := by decide +kernel
theorem d_Pa_appendPenalty_14 : decode prog_8_method_4_code 14 = .ok (.iload_n 2, 1) := by decide +kernel
theorem d_Pa_appendPenalty_15 : decode prog_8_method_4_code 15 = .ok (.ireturn, 1) := by decide +kernel
theorem d_Pa_appendPenalty_13 : decode prog_8_method_4_code 13 = .ok (.iastore, 1) := by decide +kernel
theorem d_Pa_appendPenalty_8 : decode prog_8_method_4_code 8 = .ok (.getfield 27, 3) := by decide +kernel
theorem d_Pa_appendPenalty_3 : decode prog_8_method_4_code 3 = .ok (.invokevirtual 44, 3) := by decide +kernel
theorem d_Pa_appendPenalty_2 : decode prog_8_method_4_code 2 = .ok (.iconst 0, 1) := by decide +kernel
theorem d_Pa_appendPenalty_1 : decode prog_8_method_4_code 1 = .ok (.iconst 4, 1) := by decide +kernel
theorem d_Pa_appendHyphen_0 : decode prog_8_method_5_code 0 = .ok (.aload_n 0, 1) := by decide +kernel
theorem d_Pa_appendHyphen_6 : decode prog_8_method_5_code 6 = .ok (.istore 4, 2) := by decide +kernel
theorem d_Pa_appendHyphen_8 : decode prog_8_method_5_code 8 = .ok (.aload_n 0, 1) := by decide +kernel
theorem d_Pa_appendHyphen_12 : decode prog_8_method_5_code 12 = .ok (.iload 4, 2) := by decide +kernel
theorem d_Pa_appendHyphen_14 : decode prog_8_method_5_code 14 = .ok (.iload_n 1, 1) := by decide +kernel
theorem d_Pa_appendHyphen_16 : decode prog_8_method_5_code 16 = .ok (.aload_n 0, 1) := by decide +kernel
theorem d_Pa_appendHyphen_20 : decode prog_8_method_5_code 20 = .ok (.iload 4, 2) := by decide +kernel
theorem d_Pa_appendHyphen_22 : decode prog_8_method_5_code 22 = .ok (.iload_n 2, 1) := by decide +kernel
theorem d_Pa_appendHyphen_24 : decode prog_8_method_5_code 24 = .ok (.aload_n 0, 1) := by decide +kernel
theorem d_Pa_appendHyphen_28 : decode prog_8_method_5_code 28 = .ok (.iload 4, 2) := by decide +kernel
theorem d_Pa_appendHyphen_30 : decode prog_8_method_5_code 30 = .ok (.iload_n 3, 1) := by decide +kernel
theorem d_Pa_appendHyphen_32 : decode prog_8_method_5_code 32 = .ok (.iload 4, 2) := by decide +kernel
theorem d_Pa_appendHyphen_34 : decode prog_8_method_5_code 34 = .ok (.ireturn, 1) := by decide +kernel
theorem d_Pa_appendHyphen_31 : decode prog_8_method_5_code 31 = .ok (.iastore, 1) := by decide +kernel
theorem d_Pa_appendHyphen_25 : decode prog_8_method_5_code 25 = .ok (.getfield 36, 3) := by decide +kernel
theorem d_Pa_appendHyphen_23 : decode prog_8_method_5_code 23 = .ok (.iastore, 1) := by decide +kernel
theorem d_Pa_appendHyphen_17 : decode prog_8_method_5_code 17 = .ok (.getfield 33, 3) := by decide +kernel
theorem d_Pa_appendHyphen_15 : decode prog_8_method_5_code 15 = .ok (.iastore, 1) := by decide +kernel
theorem d_Pa_appendHyphen_9 : decode prog_8_method_5_code 9 = .ok (.getfield 30, 3) := by decide +kernel
theorem d_Pa_appendHyphen_3 : decode prog_8_method_5_code 3 = .ok (.invokevirtual 44, 3) := by decide +kernel
theorem d_Pa_appendHyphen_2 : decode prog_8_method_5_code 2 = .ok (.iconst 0, 1) := by decide +kernel
theorem d_Pa_appendHyphen_1 : decode prog_8_method_5_code 1 = .ok (.iconst 5, 1) := by decide +kernel
theorem d_Pa_awaitsReplaced_19 : decode prog_8_method_6_code 19 = .ok (.iload_n 2, 1) := by decide +kernel
theorem d_Pa_awaitsReplaced_20 : decode prog_8_method_6_code 20 = .ok (.iload_n 1, 1) := by decide +kernel
theorem d_Pa_awaitsReplaced_62 : decode prog_8_method_6_code 62 = .ok (.ireturn, 1) := by decide +kernel
theorem d_Pa_awaitsReplaced_61 : decode prog_8_method_6_code 61 = .ok (.iconst 0, 1) := by decide +kernel
theorem d_Pa_awaitsReplaced_24 : decode prog_8_method_6_code 24 = .ok (.aload_n 0, 1) := by decide +kernel
theorem d_Pa_awaitsReplaced_28 : decode prog_8_method_6_code 28 = .ok (.iload_n 2, 1) := by decide +kernel
theorem d_Pa_awaitsReplaced_58 : decode prog_8_method_6_code 58 = .ok (.goto (-39), 3) := by decide +kernel
theorem d_Pa_awaitsReplaced_55 : decode prog_8_method_6_code 55 = .ok (.iinc 2 (-1), 3) := by decide +kernel
theorem d_Pa_awaitsReplaced_34 : decode prog_8_method_6_code 34 = .ok (.iload_n 2, 1) := by decide +kernel
theorem d_Pa_awaitsReplaced_35 : decode prog_8_method_6_code 35 = .ok (.aload_n 0, 1) := by decide +kernel
theorem d_Pa_awaitsReplaced_39 : decode prog_8_method_6_code 39 = .ok (.iload_n 2, 1) := by decide +kernel
theorem d_Pa_awaitsReplaced_42 : decode prog_8_method_6_code 42 = .ok (.aload_n 0, 1) := by decide +kernel
theorem d_Pa_awaitsReplaced_54 : decode prog_8_method_6_code 54 = .ok (.ireturn, 1) := by decide +kernel
theorem d_Pa_awaitsReplaced_53 : decode prog_8_method_6_code 53 = .ok (.iconst 0, 1) := by decide +kernel
theorem d_Pa_awaitsReplaced_50 : decode prog_8_method_6_code 50 = .ok (.goto 4, 3) := by decide +kernel
theorem d_Pa_awaitsReplaced_49 : decode prog_8_method_6_code 49 = .ok (.iconst 1, 1) := by decide +kernel
theorem d_Pa_awaitsReplaced_46 : decode prog_8_method_6_code 46 = .ok (.if_icmp .lt 7, 3) := by decide +kernel
theorem d_Pa_awaitsReplaced_43 : decode prog_8_method_6_code 43 = .ok (.getfield 39, 3) := by decide +kernel
theorem d_Pa_awaitsReplaced_41 : decode prog_8_method_6_code 41 = .ok (.iadd, 1) := by decide +kernel
theorem d_Pa_awaitsReplaced_40 : decode prog_8_method_6_code 40 = .ok (.iaload, 1) := by decide +kernel
theorem d_Pa_awaitsReplaced_36 : decode prog_8_method_6_code 36 = .ok (.getfield 36, 3) := by decide +kernel
theorem d_Pa_awaitsReplaced_31 : decode prog_8_method_6_code 31 = .ok (.if_icmp .ne 24, 3) := by decide +kernel
theorem d_Pa_awaitsReplaced_30 : decode prog_8_method_6_code 30 = .ok (.iconst 5, 1) := by decide +kernel
theorem d_Pa_awaitsReplaced_29 : decode prog_8_method_6_code 29 = .ok (.iaload, 1) := by decide +kernel
theorem d_Pa_awaitsReplaced_25 : decode prog_8_method_6_code 25 = .ok (.getfield 9, 3) := by decide +kernel
theorem d_Pa_awaitsReplaced_21 : decode prog_8_method_6_code 21 = .ok (.if_icmp .lt 40, 3) := by decide +kernel
theorem d_Pa_awaitsReplaced_1 : decode prog_8_method_6_code 1 = .ok (.aload_n 0, 1) := by decide +kernel
theorem d_Pa_awaitsReplaced_11 : decode prog_8_method_6_code 11 = .ok (.istore_n 1, 1) := by decide +kernel
theorem d_Pa_awaitsReplaced_12 : decode prog_8_method_6_code 12 = .ok (.aload_n 0, 1) := by decide +kernel
theorem d_Pa_awaitsReplaced_18 : decode prog_8_method_6_code 18 = .ok (.istore_n 2, 1) := by decide +kernel
theorem d_Pa_awaitsReplaced_17 : decode prog_8_method_6_code 17 = .ok (.isub, 1) := by decide +kernel
theorem d_Pa_awaitsReplaced_16 : decode prog_8_method_6_code 16 = .ok (.iconst 1, 1) := by decide +kernel
theorem d_Pa_awaitsReplaced_13 : decode prog_8_method_6_code 13 = .ok (.getfield 39, 3) := by decide +kernel
theorem d_Pa_awaitsReplaced_8 : decode prog_8_method_6_code 8 = .ok (.invokestatic 48, 3) := by decide +kernel
theorem d_Pa_awaitsReplaced_7 : decode prog_8_method_6_code 7 = .ok (.isub, 1) := by decide +kernel
theorem d_Pa_awaitsReplaced_5 : decode prog_8_method_6_code 5 = .ok (.bipush 10, 2) := by decide +kernel
theorem d_Pa_awaitsReplaced_2 : decode prog_8_method_6_code 2 = .ok (.getfield 39, 3) := by decide +kernel
theorem d_Pa_awaitsReplaced_0 : decode prog_8_method_6_code 0 = .ok (.iconst 0, 1) := by decide +kernel
theorem d_Lb_keep_0 : decode prog_1_method_7_code 0 = .ok (.iload_n 1, 1) := by decide +kernel
theorem d_Lb_keep_16 : decode prog_1_method_7_code 16 = .ok (.ireturn, 1) := by decide +kernel
theorem d_Lb_keep_15 : decode prog_1_method_7_code 15 = .ok (.iconst 0, 1) := by decide +kernel
theorem d_Lb_keep_4 : decode prog_1_method_7_code 4 = .ok (.iload_n 1, 1) := by decide +kernel
theorem d_Lb_keep_5 : decode prog_1_method_7_code 5 = .ok (.aload_n 0, 1) := by decide +kernel
theorem d_Lb_keep_17 : decode prog_1_method_7_code 17 = .ok (.aload_n 0, 1) := by decide +kernel
theorem d_Lb_keep_21 : decode prog_1_method_7_code 21 = .ok (.iload_n 1, 1) := by decide +kernel
theorem d_Lb_keep_25 : decode prog_1_method_7_code 25 = .ok (.aload_n 0, 1) := by decide +kernel
theorem d_Lb_keep_33 : decode prog_1_method_7_code 33 = .ok (.ireturn, 1) := by decide +kernel
theorem d_Lb_keep_32 : decode prog_1_method_7_code 32 = .ok (.iconst 1, 1) := by decide +kernel
theorem d_Lb_keep_29 : decode prog_1_method_7_code 29 = .ok (.invokevirtual 53, 3) := by decide +kernel
theorem d_Lb_keep_26 : decode prog_1_method_7_code 26 = .ok (.getfield 42, 3) := by decide +kernel
theorem d_Lb_keep_22 : decode prog_1_method_7_code 22 = .ok (.putfield 97, 3) := by decide +kernel
theorem d_Lb_keep_18 : decode prog_1_method_7_code 18 = .ok (.getfield 12, 3) := by decide +kernel
theorem d_Lb_keep_12 : decode prog_1_method_7_code 12 = .ok (.if_icmp .le 5, 3) := by decide +kernel
theorem d_Lb_keep_9 : decode prog_1_method_7_code 9 = .ok (.getfield 97, 3) := by decide +kernel
theorem d_Lb_keep_6 : decode prog_1_method_7_code 6 = .ok (.getfield 12, 3) := by decide +kernel
theorem d_Lb_keep_1 : decode prog_1_method_7_code 1 = .ok (.ifCond .lt 14, 3) := by decide +kernel
theorem d_Lb_items_0 : decode prog_1_method_8_code 0 = .ok (.aload_n 0, 1) := by decide +kernel
theorem d_Lb_items_7 : decode prog_1_method_8_code 7 = .ok (.ireturn, 1) := by decide +kernel
theorem d_Lb_items_4 : decode prog_1_method_8_code 4 = .ok (.getfield 97, 3) := by decide +kernel
theorem d_Lb_items_1 : decode prog_1_method_8_code 1 = .ok (.getfield 12, 3) := by decide +kernel
theorem d_Lb_pass_0 : decode prog_1_method_13_code 0 = .ok (.aload_n 0, 1) := by decide +kernel
theorem d_Lb_pass_7 : decode prog_1_method_13_code 7 = .ok (.ireturn, 1) := by decide +kernel
theorem d_Lb_pass_4 : decode prog_1_method_13_code 4 = .ok (.getfield 167, 3) := by decide +kernel
theorem d_Lb_pass_1 : decode prog_1_method_13_code 1 = .ok (.getfield 42, 3) := by decide +kernel
theorem d_Lb_nodes_0 : decode prog_1_method_14_code 0 = .ok (.aload_n 0, 1) := by decide +kernel
theorem d_Lb_nodes_7 : decode prog_1_method_14_code 7 = .ok (.ireturn, 1) := by decide +kernel
theorem d_Lb_nodes_4 : decode prog_1_method_14_code 4 = .ok (.getfield 170, 3) := by decide +kernel
theorem d_Lb_nodes_1 : decode prog_1_method_14_code 1 = .ok (.getfield 42, 3) := by decide +kernel
theorem d_Pa_allStretch_4 : decode prog_8_method_9_code 4 = .ok (.iload_n 3, 1) := by decide +kernel
theorem d_Pa_allStretch_5 : decode prog_8_method_9_code 5 = .ok (.aload_n 0, 1) := by decide +kernel
theorem d_Pa_allStretch_28 : decode prog_8_method_9_code 28 = .ok (.lload_n 1, 1) := by decide +kernel
theorem d_Pa_allStretch_29 : decode prog_8_method_9_code 29 = .ok (.lreturn, 1) := by decide +kernel
theorem d_Pa_allStretch_12 : decode prog_8_method_9_code 12 = .ok (.lload_n 1, 1) := by decide +kernel
theorem d_Pa_allStretch_13 : decode prog_8_method_9_code 13 = .ok (.aload_n 0, 1) := by decide +kernel
theorem d_Pa_allStretch_17 : decode prog_8_method_9_code 17 = .ok (.iload_n 3, 1) := by decide +kernel
theorem d_Pa_allStretch_21 : decode prog_8_method_9_code 21 = .ok (.lstore_n 1, 1) := by decide +kernel
theorem d_Pa_allStretch_25 : decode prog_8_method_9_code 25 = .ok (.goto (-21), 3) := by decide +kernel
theorem d_Pa_allStretch_22 : decode prog_8_method_9_code 22 = .ok (.iinc 3 1, 3) := by decide +kernel
theorem d_Pa_allStretch_20 : decode prog_8_method_9_code 20 = .ok (.ladd, 1) := by decide +kernel
theorem d_Pa_allStretch_19 : decode prog_8_method_9_code 19 = .ok (.i2l, 1) := by decide +kernel
theorem d_Pa_allStretch_18 : decode prog_8_method_9_code 18 = .ok (.iaload, 1) := by decide +kernel
theorem d_Pa_allStretch_14 : decode prog_8_method_9_code 14 = .ok (.getfield 18, 3) := by decide +kernel
theorem d_Pa_allStretch_9 : decode prog_8_method_9_code 9 = .ok (.if_icmp .ge 19, 3) := by decide +kernel
theorem d_Pa_allStretch_6 : decode prog_8_method_9_code 6 = .ok (.getfield 39, 3) := by decide +kernel
theorem d_Pa_allStretch_1 : decode prog_8_method_9_code 1 = .ok (.lstore_n 1, 1) := by decide +kernel
theorem d_Pa_allStretch_3 : decode prog_8_method_9_code 3 = .ok (.istore_n 3, 1) := by decide +kernel
theorem d_Pa_allStretch_2 : decode prog_8_method_9_code 2 = .ok (.iconst 0, 1) := by decide +kernel
theorem d_Pa_allStretch_0 : decode prog_8_method_9_code 0 = .ok (.lconst 0, 1) := by decide +kernel
theorem d_St_stretchAround_0 : decode prog_10_method_4_code 0 = .ok (.aload_n 0, 1) := by decide +kernel
theorem d_St_stretchAround_8 : decode prog_10_method_4_code 8 = .ok (.aload_n 0, 1) := by decide +kernel
theorem d_St_stretchAround_17 : decode prog_10_method_4_code 17 = .ok (.aload_n 0, 1) := by decide +kernel
theorem d_St_stretchAround_26 : decode prog_10_method_4_code 26 = .ok (.lreturn, 1) := by decide +kernel
theorem d_St_stretchAround_25 : decode prog_10_method_4_code 25 = .ok (.ladd, 1) := by decide +kernel
theorem d_St_stretchAround_24 : decode prog_10_method_4_code 24 = .ok (.i2l, 1) := by decide +kernel
theorem d_St_stretchAround_21 : decode prog_10_method_4_code 21 = .ok (.getfield 48, 3) := by decide +kernel
theorem d_St_stretchAround_18 : decode prog_10_method_4_code 18 = .ok (.getfield 31, 3) := by decide +kernel
theorem d_St_stretchAround_16 : decode prog_10_method_4_code 16 = .ok (.ladd, 1) := by decide +kernel
theorem d_St_stretchAround_15 : decode prog_10_method_4_code 15 = .ok (.i2l, 1) := by decide +kernel
theorem d_St_stretchAround_12 : decode prog_10_method_4_code 12 = .ok (.getfield 48, 3) := by decide +kernel
theorem d_St_stretchAround_9 : decode prog_10_method_4_code 9 = .ok (.getfield 27, 3) := by decide +kernel
theorem d_St_stretchAround_7 : decode prog_10_method_4_code 7 = .ok (.i2l, 1) := by decide +kernel
theorem d_St_stretchAround_4 : decode prog_10_method_4_code 4 = .ok (.getfield 48, 3) := by decide +kernel
theorem d_St_stretchAround_1 : decode prog_10_method_4_code 1 = .ok (.getfield 23, 3) := by decide +kernel
theorem d_Pa_allWidths_4 : decode prog_8_method_8_code 4 = .ok (.iload_n 3, 1) := by decide +kernel
theorem d_Pa_allWidths_5 : decode prog_8_method_8_code 5 = .ok (.aload_n 0, 1) := by decide +kernel
theorem d_Pa_allWidths_63 : decode prog_8_method_8_code 63 = .ok (.lload_n 1, 1) := by decide +kernel
theorem d_Pa_allWidths_64 : decode prog_8_method_8_code 64 = .ok (.lreturn, 1) := by decide +kernel
theorem d_Pa_allWidths_12 : decode prog_8_method_8_code 12 = .ok (.lload_n 1, 1) := by decide +kernel
theorem d_Pa_allWidths_13 : decode prog_8_method_8_code 13 = .ok (.aload_n 0, 1) := by decide +kernel
theorem d_Pa_allWidths_17 : decode prog_8_method_8_code 17 = .ok (.iload_n 3, 1) := by decide +kernel
theorem d_Pa_allWidths_24 : decode prog_8_method_8_code 24 = .ok (.lstore_n 1, 1) := by decide +kernel
theorem d_Pa_allWidths_25 : decode prog_8_method_8_code 25 = .ok (.lload_n 1, 1) := by decide +kernel
theorem d_Pa_allWidths_26 : decode prog_8_method_8_code 26 = .ok (.aload_n 0, 1) := by decide +kernel
theorem d_Pa_allWidths_30 : decode prog_8_method_8_code 30 = .ok (.iload_n 3, 1) := by decide +kernel
theorem d_Pa_allWidths_40 : decode prog_8_method_8_code 40 = .ok (.lstore_n 1, 1) := by decide +kernel
theorem d_Pa_allWidths_41 : decode prog_8_method_8_code 41 = .ok (.lload_n 1, 1) := by decide +kernel
theorem d_Pa_allWidths_42 : decode prog_8_method_8_code 42 = .ok (.aload_n 0, 1) := by decide +kernel
theorem d_Pa_allWidths_46 : decode prog_8_method_8_code 46 = .ok (.iload_n 3, 1) := by decide +kernel
theorem d_Pa_allWidths_56 : decode prog_8_method_8_code 56 = .ok (.lstore_n 1, 1) := by decide +kernel
theorem d_Pa_allWidths_60 : decode prog_8_method_8_code 60 = .ok (.goto (-56), 3) := by decide +kernel
theorem d_Pa_allWidths_57 : decode prog_8_method_8_code 57 = .ok (.iinc 3 1, 3) := by decide +kernel
theorem d_Pa_allWidths_55 : decode prog_8_method_8_code 55 = .ok (.ladd, 1) := by decide +kernel
theorem d_Pa_allWidths_54 : decode prog_8_method_8_code 54 = .ok (.i2l, 1) := by decide +kernel
theorem d_Pa_allWidths_51 : decode prog_8_method_8_code 51 = .ok (.invokestatic 53, 3) := by decide +kernel
theorem d_Pa_allWidths_48 : decode prog_8_method_8_code 48 = .ok (.invokestatic 57, 3) := by decide +kernel
theorem d_Pa_allWidths_47 : decode prog_8_method_8_code 47 = .ok (.iaload, 1) := by decide +kernel
theorem d_Pa_allWidths_43 : decode prog_8_method_8_code 43 = .ok (.getfield 33, 3) := by decide +kernel
theorem d_Pa_allWidths_39 : decode prog_8_method_8_code 39 = .ok (.ladd, 1) := by decide +kernel
theorem d_Pa_allWidths_38 : decode prog_8_method_8_code 38 = .ok (.i2l, 1) := by decide +kernel
theorem d_Pa_allWidths_35 : decode prog_8_method_8_code 35 = .ok (.invokestatic 53, 3) := by decide +kernel
theorem d_Pa_allWidths_32 : decode prog_8_method_8_code 32 = .ok (.invokestatic 57, 3) := by decide +kernel
theorem d_Pa_allWidths_31 : decode prog_8_method_8_code 31 = .ok (.iaload, 1) := by decide +kernel
theorem d_Pa_allWidths_27 : decode prog_8_method_8_code 27 = .ok (.getfield 30, 3) := by decide +kernel
theorem d_Pa_allWidths_23 : decode prog_8_method_8_code 23 = .ok (.ladd, 1) := by decide +kernel
theorem d_Pa_allWidths_22 : decode prog_8_method_8_code 22 = .ok (.i2l, 1) := by decide +kernel
theorem d_Pa_allWidths_19 : decode prog_8_method_8_code 19 = .ok (.invokestatic 53, 3) := by decide +kernel
theorem d_Pa_allWidths_18 : decode prog_8_method_8_code 18 = .ok (.iaload, 1) := by decide +kernel
theorem d_Pa_allWidths_14 : decode prog_8_method_8_code 14 = .ok (.getfield 15, 3) := by decide +kernel
theorem d_Pa_allWidths_9 : decode prog_8_method_8_code 9 = .ok (.if_icmp .ge 54, 3) := by decide +kernel
theorem d_Pa_allWidths_6 : decode prog_8_method_8_code 6 = .ok (.getfield 39, 3) := by decide +kernel
theorem d_Pa_allWidths_1 : decode prog_8_method_8_code 1 = .ok (.lstore_n 1, 1) := by decide +kernel
theorem d_Pa_allWidths_3 : decode prog_8_method_8_code 3 = .ok (.istore_n 3, 1) := by decide +kernel
theorem d_Pa_allWidths_2 : decode prog_8_method_8_code 2 = .ok (.iconst 0, 1) := by decide +kernel
theorem d_Pa_allWidths_0 : decode prog_8_method_8_code 0 = .ok (.lconst 0, 1) := by decide +kernel
theorem d_St_widthsAround_0 : decode prog_10_method_3_code 0 = .ok (.aload_n 0, 1) := by decide +kernel
theorem d_St_widthsAround_11 : decode prog_10_method_3_code 11 = .ok (.aload_n 0, 1) := by decide +kernel
theorem d_St_widthsAround_23 : decode prog_10_method_3_code 23 = .ok (.aload_n 0, 1) := by decide +kernel
theorem d_St_widthsAround_35 : decode prog_10_method_3_code 35 = .ok (.lreturn, 1) := by decide +kernel
theorem d_St_widthsAround_34 : decode prog_10_method_3_code 34 = .ok (.ladd, 1) := by decide +kernel
theorem d_St_widthsAround_33 : decode prog_10_method_3_code 33 = .ok (.i2l, 1) := by decide +kernel
theorem d_St_widthsAround_30 : decode prog_10_method_3_code 30 = .ok (.invokestatic 44, 3) := by decide +kernel
theorem d_St_widthsAround_27 : decode prog_10_method_3_code 27 = .ok (.getfield 40, 3) := by decide +kernel
theorem d_St_widthsAround_24 : decode prog_10_method_3_code 24 = .ok (.getfield 31, 3) := by decide +kernel
theorem d_St_widthsAround_22 : decode prog_10_method_3_code 22 = .ok (.ladd, 1) := by decide +kernel
theorem d_St_widthsAround_21 : decode prog_10_method_3_code 21 = .ok (.i2l, 1) := by decide +kernel
theorem d_St_widthsAround_18 : decode prog_10_method_3_code 18 = .ok (.invokestatic 44, 3) := by decide +kernel
theorem d_St_widthsAround_15 : decode prog_10_method_3_code 15 = .ok (.getfield 40, 3) := by decide +kernel
theorem d_St_widthsAround_12 : decode prog_10_method_3_code 12 = .ok (.getfield 27, 3) := by decide +kernel
theorem d_St_widthsAround_10 : decode prog_10_method_3_code 10 = .ok (.i2l, 1) := by decide +kernel
theorem d_St_widthsAround_7 : decode prog_10_method_3_code 7 = .ok (.invokestatic 44, 3) := by decide +kernel
theorem d_St_widthsAround_4 : decode prog_10_method_3_code 4 = .ok (.getfield 40, 3) := by decide +kernel
theorem d_St_widthsAround_1 : decode prog_10_method_3_code 1 = .ok (.getfield 23, 3) := by decide +kernel
theorem d_Pa_allShrink_4 : decode prog_8_method_10_code 4 = .ok (.iload_n 3, 1) := by decide +kernel
theorem d_Pa_allShrink_5 : decode prog_8_method_10_code 5 = .ok (.aload_n 0, 1) := by decide +kernel
theorem d_Pa_allShrink_28 : decode prog_8_method_10_code 28 = .ok (.lload_n 1, 1) := by decide +kernel
theorem d_Pa_allShrink_29 : decode prog_8_method_10_code 29 = .ok (.lreturn, 1) := by decide +kernel
theorem d_Pa_allShrink_12 : decode prog_8_method_10_code 12 = .ok (.lload_n 1, 1) := by decide +kernel
theorem d_Pa_allShrink_13 : decode prog_8_method_10_code 13 = .ok (.aload_n 0, 1) := by decide +kernel
theorem d_Pa_allShrink_17 : decode prog_8_method_10_code 17 = .ok (.iload_n 3, 1) := by decide +kernel
theorem d_Pa_allShrink_21 : decode prog_8_method_10_code 21 = .ok (.lstore_n 1, 1) := by decide +kernel
theorem d_Pa_allShrink_25 : decode prog_8_method_10_code 25 = .ok (.goto (-21), 3) := by decide +kernel
theorem d_Pa_allShrink_22 : decode prog_8_method_10_code 22 = .ok (.iinc 3 1, 3) := by decide +kernel
theorem d_Pa_allShrink_20 : decode prog_8_method_10_code 20 = .ok (.ladd, 1) := by decide +kernel
theorem d_Pa_allShrink_19 : decode prog_8_method_10_code 19 = .ok (.i2l, 1) := by decide +kernel
theorem d_Pa_allShrink_18 : decode prog_8_method_10_code 18 = .ok (.iaload, 1) := by decide +kernel
theorem d_Pa_allShrink_14 : decode prog_8_method_10_code 14 = .ok (.getfield 24, 3) := by decide +kernel
theorem d_Pa_allShrink_9 : decode prog_8_method_10_code 9 = .ok (.if_icmp .ge 19, 3) := by decide +kernel
theorem d_Pa_allShrink_6 : decode prog_8_method_10_code 6 = .ok (.getfield 39, 3) := by decide +kernel
theorem d_Pa_allShrink_1 : decode prog_8_method_10_code 1 = .ok (.lstore_n 1, 1) := by decide +kernel
theorem d_Pa_allShrink_3 : decode prog_8_method_10_code 3 = .ok (.istore_n 3, 1) := by decide +kernel
theorem d_Pa_allShrink_2 : decode prog_8_method_10_code 2 = .ok (.iconst 0, 1) := by decide +kernel
theorem d_Pa_allShrink_0 : decode prog_8_method_10_code 0 = .ok (.lconst 0, 1) := by decide +kernel
theorem d_St_shrinkAround_0 : decode prog_10_method_5_code 0 = .ok (.aload_n 0, 1) := by decide +kernel
theorem d_St_shrinkAround_8 : decode prog_10_method_5_code 8 = .ok (.aload_n 0, 1) := by decide +kernel
theorem d_St_shrinkAround_17 : decode prog_10_method_5_code 17 = .ok (.aload_n 0, 1) := by decide +kernel
theorem d_St_shrinkAround_26 : decode prog_10_method_5_code 26 = .ok (.lreturn, 1) := by decide +kernel
theorem d_St_shrinkAround_25 : decode prog_10_method_5_code 25 = .ok (.ladd, 1) := by decide +kernel
theorem d_St_shrinkAround_24 : decode prog_10_method_5_code 24 = .ok (.i2l, 1) := by decide +kernel
theorem d_St_shrinkAround_21 : decode prog_10_method_5_code 21 = .ok (.getfield 51, 3) := by decide +kernel
theorem d_St_shrinkAround_18 : decode prog_10_method_5_code 18 = .ok (.getfield 31, 3) := by decide +kernel
theorem d_St_shrinkAround_16 : decode prog_10_method_5_code 16 = .ok (.ladd, 1) := by decide +kernel
theorem d_St_shrinkAround_15 : decode prog_10_method_5_code 15 = .ok (.i2l, 1) := by decide +kernel
theorem d_St_shrinkAround_12 : decode prog_10_method_5_code 12 = .ok (.getfield 51, 3) := by decide +kernel
theorem d_St_shrinkAround_9 : decode prog_10_method_5_code 9 = .ok (.getfield 27, 3) := by decide +kernel
theorem d_St_shrinkAround_7 : decode prog_10_method_5_code 7 = .ok (.i2l, 1) := by decide +kernel
theorem d_St_shrinkAround_4 : decode prog_10_method_5_code 4 = .ok (.getfield 51, 3) := by decide +kernel
theorem d_St_shrinkAround_1 : decode prog_10_method_5_code 1 = .ok (.getfield 23, 3) := by decide +kernel
theorem d_Lb_sumsAreSizes_0 : decode prog_1_method_17_code 0 = .ok (.aload_n 0, 1) := by decide +kernel
theorem d_Lb_sumsAreSizes_7 : decode prog_1_method_17_code 7 = .ok (.aload_n 0, 1) := by decide +kernel
theorem d_Lb_sumsAreSizes_15 : decode prog_1_method_17_code 15 = .ok (.aload_n 0, 1) := by decide +kernel
theorem d_Lb_sumsAreSizes_27 : decode prog_1_method_17_code 27 = .ok (.lstore_n 1, 1) := by decide +kernel
theorem d_Lb_sumsAreSizes_28 : decode prog_1_method_17_code 28 = .ok (.aload_n 0, 1) := by decide +kernel
theorem d_Lb_sumsAreSizes_35 : decode prog_1_method_17_code 35 = .ok (.aload_n 0, 1) := by decide +kernel
theorem d_Lb_sumsAreSizes_85 : decode prog_1_method_17_code 85 = .ok (.ireturn, 1) := by decide +kernel
theorem d_Lb_sumsAreSizes_84 : decode prog_1_method_17_code 84 = .ok (.iconst 0, 1) := by decide +kernel
theorem d_Lb_sumsAreSizes_50 : decode prog_1_method_17_code 50 = .ok (.lload_n 1, 1) := by decide +kernel
theorem d_Lb_sumsAreSizes_58 : decode prog_1_method_17_code 58 = .ok (.aload_n 0, 1) := by decide +kernel
theorem d_Lb_sumsAreSizes_65 : decode prog_1_method_17_code 65 = .ok (.aload_n 0, 1) := by decide +kernel
theorem d_Lb_sumsAreSizes_81 : decode prog_1_method_17_code 81 = .ok (.goto 4, 3) := by decide +kernel
theorem d_Lb_sumsAreSizes_80 : decode prog_1_method_17_code 80 = .ok (.iconst 1, 1) := by decide +kernel
theorem d_Lb_sumsAreSizes_77 : decode prog_1_method_17_code 77 = .ok (.ifCond .gt 7, 3) := by decide +kernel
theorem d_Lb_sumsAreSizes_76 : decode prog_1_method_17_code 76 = .ok (.lcmp, 1) := by decide +kernel
theorem d_Lb_sumsAreSizes_73 : decode prog_1_method_17_code 73 = .ok (.ldc2_w 202, 3) := by decide +kernel
theorem d_Lb_sumsAreSizes_72 : decode prog_1_method_17_code 72 = .ok (.ladd, 1) := by decide +kernel
theorem d_Lb_sumsAreSizes_69 : decode prog_1_method_17_code 69 = .ok (.invokevirtual 207, 3) := by decide +kernel
theorem d_Lb_sumsAreSizes_66 : decode prog_1_method_17_code 66 = .ok (.getfield 19, 3) := by decide +kernel
theorem d_Lb_sumsAreSizes_62 : decode prog_1_method_17_code 62 = .ok (.invokevirtual 204, 3) := by decide +kernel
theorem d_Lb_sumsAreSizes_59 : decode prog_1_method_17_code 59 = .ok (.getfield 12, 3) := by decide +kernel
theorem d_Lb_sumsAreSizes_55 : decode prog_1_method_17_code 55 = .ok (.ifCond .gt 29, 3) := by decide +kernel
theorem d_Lb_sumsAreSizes_54 : decode prog_1_method_17_code 54 = .ok (.lcmp, 1) := by decide +kernel
theorem d_Lb_sumsAreSizes_51 : decode prog_1_method_17_code 51 = .ok (.ldc2_w 202, 3) := by decide +kernel
theorem d_Lb_sumsAreSizes_47 : decode prog_1_method_17_code 47 = .ok (.ifCond .gt 37, 3) := by decide +kernel
theorem d_Lb_sumsAreSizes_46 : decode prog_1_method_17_code 46 = .ok (.lcmp, 1) := by decide +kernel
theorem d_Lb_sumsAreSizes_43 : decode prog_1_method_17_code 43 = .ok (.ldc2_w 202, 3) := by decide +kernel
theorem d_Lb_sumsAreSizes_42 : decode prog_1_method_17_code 42 = .ok (.ladd, 1) := by decide +kernel
theorem d_Lb_sumsAreSizes_39 : decode prog_1_method_17_code 39 = .ok (.invokevirtual 199, 3) := by decide +kernel
theorem d_Lb_sumsAreSizes_36 : decode prog_1_method_17_code 36 = .ok (.getfield 19, 3) := by decide +kernel
theorem d_Lb_sumsAreSizes_32 : decode prog_1_method_17_code 32 = .ok (.invokevirtual 196, 3) := by decide +kernel
theorem d_Lb_sumsAreSizes_29 : decode prog_1_method_17_code 29 = .ok (.getfield 12, 3) := by decide +kernel
theorem d_Lb_sumsAreSizes_26 : decode prog_1_method_17_code 26 = .ok (.ladd, 1) := by decide +kernel
theorem d_Lb_sumsAreSizes_25 : decode prog_1_method_17_code 25 = .ok (.i2l, 1) := by decide +kernel
theorem d_Lb_sumsAreSizes_24 : decode prog_1_method_17_code 24 = .ok (.iaload, 1) := by decide +kernel
theorem d_Lb_sumsAreSizes_22 : decode prog_1_method_17_code 22 = .ok (.bipush 8, 2) := by decide +kernel
theorem d_Lb_sumsAreSizes_19 : decode prog_1_method_17_code 19 = .ok (.getfield 112, 3) := by decide +kernel
theorem d_Lb_sumsAreSizes_16 : decode prog_1_method_17_code 16 = .ok (.getfield 19, 3) := by decide +kernel
theorem d_Lb_sumsAreSizes_14 : decode prog_1_method_17_code 14 = .ok (.ladd, 1) := by decide +kernel
theorem d_Lb_sumsAreSizes_11 : decode prog_1_method_17_code 11 = .ok (.invokevirtual 193, 3) := by decide +kernel
theorem d_Lb_sumsAreSizes_8 : decode prog_1_method_17_code 8 = .ok (.getfield 19, 3) := by decide +kernel
theorem d_Lb_sumsAreSizes_4 : decode prog_1_method_17_code 4 = .ok (.invokevirtual 189, 3) := by decide +kernel
theorem d_Lb_sumsAreSizes_1 : decode prog_1_method_17_code 1 = .ok (.getfield 12, 3) := by decide +kernel
theorem d_Lb_isSize_0 : decode prog_1_method_24_code 0 = .ok (.iload_n 0, 1) := by decide +kernel
theorem d_Lb_isSize_17 : decode prog_1_method_24_code 17 = .ok (.ireturn, 1) := by decide +kernel
theorem d_Lb_isSize_16 : decode prog_1_method_24_code 16 = .ok (.iconst 0, 1) := by decide +kernel
theorem d_Lb_isSize_6 : decode prog_1_method_24_code 6 = .ok (.iload_n 0, 1) := by decide +kernel
theorem d_Lb_isSize_13 : decode prog_1_method_24_code 13 = .ok (.goto 4, 3) := by decide +kernel
theorem d_Lb_isSize_12 : decode prog_1_method_24_code 12 = .ok (.iconst 1, 1) := by decide +kernel
theorem d_Lb_isSize_9 : decode prog_1_method_24_code 9 = .ok (.if_icmp .gt 7, 3) := by decide +kernel
theorem d_Lb_isSize_7 : decode prog_1_method_24_code 7 = .ok (.ldc 230, 2) := by decide +kernel
theorem d_Lb_isSize_3 : decode prog_1_method_24_code 3 = .ok (.if_icmp .lt 13, 3) := by decide +kernel
theorem d_Lb_isSize_1 : decode prog_1_method_24_code 1 = .ok (.ldc 229, 2) := by decide +kernel
theorem d_Gl_become_0 : decode prog_4_method_2_code 0 = .ok (.aload_n 0, 1) := by decide +kernel
theorem d_Gl_become_1 : decode prog_4_method_2_code 1 = .ok (.iload_n 1, 1) := by decide +kernel
theorem d_Gl_become_5 : decode prog_4_method_2_code 5 = .ok (.aload_n 0, 1) := by decide +kernel
theorem d_Gl_become_6 : decode prog_4_method_2_code 6 = .ok (.iload_n 2, 1) := by decide +kernel
theorem d_Gl_become_10 : decode prog_4_method_2_code 10 = .ok (.aload_n 0, 1) := by decide +kernel
theorem d_Gl_become_11 : decode prog_4_method_2_code 11 = .ok (.iload_n 3, 1) := by decide +kernel
theorem d_Gl_become_15 : decode prog_4_method_2_code 15 = .ok (.aload_n 0, 1) := by decide +kernel
theorem d_Gl_become_16 : decode prog_4_method_2_code 16 = .ok (.iload 4, 2) := by decide +kernel
theorem d_Gl_become_21 : decode prog_4_method_2_code 21 = .ok (.return_, 1) := by decide +kernel
theorem d_Gl_become_18 : decode prog_4_method_2_code 18 = .ok (.putfield 19, 3) := by decide +kernel
theorem d_Gl_become_12 : decode prog_4_method_2_code 12 = .ok (.putfield 16, 3) := by decide +kernel
theorem d_Gl_become_7 : decode prog_4_method_2_code 7 = .ok (.putfield 13, 3) := by decide +kernel
theorem d_Gl_become_2 : decode prog_4_method_2_code 2 = .ok (.putfield 7, 3) := by decide +kernel
abbrev y_Pa_countWithoutLastGlue : MethodName := ⟨"LineBreaker$Paragraph", "countWithoutLastGlue", "()I"⟩
abbrev rm_Pa_countWithoutLastGlue : Room := { frames := 0, cells := 0, slots := 0, locals := 0 }
set_option maxRecDepth 100000 in
def wp_Pa_countWithoutLastGlue (S : ST) (post : Int32 → Prop) : Prop := (((S.2.2 73) ≤ 0 → post (S.2.2 73)) ∧ (¬ (S.2.2 73) ≤ 0 → (vp_in ((S.2.2 73) - 1) 400 ∧ ((¬ ((S.1 2) ((S.2.2 73) - 1).toNatClampNeg) = 1 → post (S.2.2 73)) ∧ (((S.1 2) ((S.2.2 73) - 1).toNatClampNeg) = 1 → post ((S.2.2 73) - 1))))))
abbrev y_Lb_widthOf : MethodName := ⟨"LineBreaker", "widthOf", "(I)I"⟩
abbrev rm_Lb_widthOf : Room := { frames := 0, cells := 0, slots := 0, locals := 0 }
set_option maxRecDepth 100000 in
def wp_Lb_widthOf (S : ST) (p1 : Int32) (post : Int32 → Prop) : Prop := ((¬ p1 = (-1073741824) → post p1) ∧ (p1 = (-1073741824) → post 0))
abbrev y_Ga_copyItems : MethodName := ⟨"LineBreaker$Galley", "copyItems", "(LLineBreaker$Paragraph;LLineBreaker$Settings;I)V"⟩
abbrev rm_Ga_copyItems : Room := { frames := 1, cells := 0, slots := 0, locals := 20 }
set_option maxRecDepth 100000 in
def wl_Ga_copyItems_89 (S : ST) (post : (Nat → Int32) → (Nat → Int32) → (Nat → Int32) → (Nat → Int32) → Prop) (K3 : (Nat → Int32) → (Nat → Int32) → (Nat → Int32) → (Nat → Int32) → Int32 → Int32 → Prop) (a18 : (Nat → Int32)) (a19 : (Nat → Int32)) (a22 : (Nat → Int32)) (a23 : (Nat → Int32)) (x3 : Int32) (x4 : Int32) : Prop := (vp_in x4 400 ∧ wp_Lb_widthOf (sA (sA (sA (sA S 18 a18) 19 a19) 22 a22) 23 a23) ((S.1 8) x4.toNatClampNeg) (fun r1 => (vp_in x4 403 ∧ ∀ f2 : Nat → Int32, f2 = upd a22 x4.toNatClampNeg r1 → (vp_in x4 400 ∧ wp_Lb_widthOf (sA (sA (sA (sA S 18 a18) 19 a19) 22 f2) 23 a23) ((S.1 9) x4.toNatClampNeg) (fun r3 => (vp_in x4 403 ∧ ∀ f4 : Nat → Int32, f4 = upd a23 x4.toNatClampNeg r3 → (∀ v5 : Int32, v5 = x4 + 1 → K3 a18 a19 f2 f4 x3 v5)))))))
set_option maxRecDepth 100000 in
def wl_Ga_copyItems_87 (S : ST) (post : (Nat → Int32) → (Nat → Int32) → (Nat → Int32) → (Nat → Int32) → Prop) (K3 : (Nat → Int32) → (Nat → Int32) → (Nat → Int32) → (Nat → Int32) → Int32 → Int32 → Prop) (a18 : (Nat → Int32)) (a19 : (Nat → Int32)) (a22 : (Nat → Int32)) (a23 : (Nat → Int32)) (x3 : Int32) (x4 : Int32) (z1 : Int32) (z3 : Int32) : Prop := (vp_in z3 10 ∧ (vp_in z1 403 ∧ ∀ f1 : Nat → Int32, f1 = upd a19 z1.toNatClampNeg ((S.1 12) z3.toNatClampNeg) → wl_Ga_copyItems_89 S post K3 a18 f1 a22 a23 x3 x4))
set_option maxRecDepth 100000 in
def wl_Ga_copyItems_65 (S : ST) (post : (Nat → Int32) → (Nat → Int32) → (Nat → Int32) → (Nat → Int32) → Prop) (K3 : (Nat → Int32) → (Nat → Int32) → (Nat → Int32) → (Nat → Int32) → Int32 → Int32 → Prop) (a18 : (Nat → Int32)) (a19 : (Nat → Int32)) (a22 : (Nat → Int32)) (a23 : (Nat → Int32)) (x3 : Int32) (x4 : Int32) (z0 : Int32) : Prop := ((z0 = 0 → wl_Ga_copyItems_87 S post K3 a18 a19 a22 a23 x3 x4 x4 3) ∧ (¬ z0 = 0 → wl_Ga_copyItems_87 S post K3 a18 a19 a22 a23 x3 x4 x4 4))
set_option maxRecDepth 100000 in
def wl_Ga_copyItems_3 (S : ST) (post : (Nat → Int32) → (Nat → Int32) → (Nat → Int32) → (Nat → Int32) → Prop) : Nat → (Nat → Int32) → (Nat → Int32) → (Nat → Int32) → (Nat → Int32) → Int32 → Int32 → Prop
  | 0, _, _, _, _, _, _ => False
  | n + 1, a18, a19, a22, a23, x3, x4 => ((x3 ≤ x4 → post a18 a19 a22 a23) ∧ (¬ x3 ≤ x4 → (vp_in x4 400 ∧ (vp_in x4 403 ∧ ∀ f1 : Nat → Int32, f1 = upd a18 x4.toNatClampNeg ((S.1 2) x4.toNatClampNeg) → (vp_in x4 400 ∧ (vp_in x4 403 ∧ ∀ f2 : Nat → Int32, f2 = upd a19 x4.toNatClampNeg ((S.1 7) x4.toNatClampNeg) → (vp_in x4 403 ∧ ((¬ (f1 x4.toNatClampNeg) = 5 → wl_Ga_copyItems_89 S post (fun a18 a19 a22 a23 x3 x4 => wl_Ga_copyItems_3 S post n a18 a19 a22 a23 x3 x4) f1 f2 a22 a23 x3 x4) ∧ ((f1 x4.toNatClampNeg) = 5 → (vp_in x4 400 ∧ ((¬ ((S.1 8) x4.toNatClampNeg) = (-1073741824) → wl_Ga_copyItems_65 S post (fun a18 a19 a22 a23 x3 x4 => wl_Ga_copyItems_3 S post n a18 a19 a22 a23 x3 x4) f1 f2 a22 a23 x3 x4 0) ∧ (((S.1 8) x4.toNatClampNeg) = (-1073741824) → wl_Ga_copyItems_65 S post (fun a18 a19 a22 a23 x3 x4 => wl_Ga_copyItems_3 S post n a18 a19 a22 a23 x3 x4) f1 f2 a22 a23 x3 x4 1))))))))))))
set_option maxRecDepth 100000 in
def wp_Ga_copyItems (S : ST) (p3 : Int32) (post : (Nat → Int32) → (Nat → Int32) → (Nat → Int32) → (Nat → Int32) → Prop) : Prop := (∃ k9 : Nat, wl_Ga_copyItems_3 S post  k9 (S.1 18) (S.1 19) (S.1 22) (S.1 23) p3 0)
abbrev y_Ga_close : MethodName := ⟨"LineBreaker$Galley", "close", "(I)V"⟩
abbrev rm_Ga_close : Room := { frames := 0, cells := 0, slots := 0, locals := 0 }
set_option maxRecDepth 100000 in
def wl_Ga_close_58 (S : ST) (post : (Nat → Int32) → (Nat → Int32) → (Nat → Int32) → (Nat → Int32) → Prop) : Nat → (Nat → Int32) → (Nat → Int32) → (Nat → Int32) → (Nat → Int32) → Int32 → Prop
  | 0, _, _, _, _, _ => False
  | n + 1, a18, a19, a22, a23, x2 => (((S.2.2 1099) < x2 → post a18 a19 a22 a23) ∧ (¬ (S.2.2 1099) < x2 → (vp_in x2 403 ∧ ∀ f1 : Nat → Int32, f1 = upd a22 x2.toNatClampNeg 0 → (vp_in x2 403 ∧ ∀ f2 : Nat → Int32, f2 = upd a23 x2.toNatClampNeg 0 → (∀ v3 : Int32, v3 = x2 + 1 → wl_Ga_close_58 S post n a18 a19 f1 f2 v3)))))
set_option maxRecDepth 100000 in
def wp_Ga_close (S : ST) (p1 : Int32) (post : (Nat → Int32) → (Nat → Int32) → (Nat → Int32) → (Nat → Int32) → Prop) : Prop := (vp_in p1 403 ∧ ∀ f1 : Nat → Int32, f1 = upd (S.1 18) p1.toNatClampNeg 4 → (vp_in p1 403 ∧ ∀ f2 : Nat → Int32, f2 = upd (S.1 19) p1.toNatClampNeg 10000 → (vp_in (p1 + 1) 403 ∧ ∀ f3 : Nat → Int32, f3 = upd f1 ((p1 + 1).toNatClampNeg) 1 → (vp_in (p1 + 1) 403 ∧ ∀ f4 : Nat → Int32, f4 = upd f2 ((p1 + 1).toNatClampNeg) 0 → (vp_in (S.2.2 1099) 403 ∧ ∀ f5 : Nat → Int32, f5 = upd f3 ((S.2.2 1099).toNatClampNeg) 4 → (vp_in (S.2.2 1099) 403 ∧ ∀ f6 : Nat → Int32, f6 = upd f4 ((S.2.2 1099).toNatClampNeg) (-10000) → (∃ k9 : Nat, wl_Ga_close_58 S post  k9 f5 f6 (S.1 22) (S.1 23) p1)))))))
abbrev rm_Gl_finiteStretch_16 : Room := { frames := 0, cells := 0, slots := 0, locals := 0 }
set_option maxRecDepth 100000 in
def wp_Gl_finiteStretch_16 (S : ST) (post : Int32 → Prop) : Prop := ((¬ (S.2.2 1026) = 0 → post 0) ∧ ((S.2.2 1026) = 0 → post (S.2.2 1025)))
abbrev rm_Gl_endlessStretch_16 : Room := { frames := 0, cells := 0, slots := 0, locals := 0 }
set_option maxRecDepth 100000 in
def wp_Gl_endlessStretch_16 (S : ST) (post : Int32 → Prop) : Prop := ((¬ (S.2.2 1026) = 0 → post (S.2.2 1025)) ∧ ((S.2.2 1026) = 0 → post 0))
abbrev y_Ga_sumUp : MethodName := ⟨"LineBreaker$Galley", "sumUp", "(LLineBreaker$Paragraph;LLineBreaker$Glue;I)V"⟩
abbrev rm_Ga_sumUp : Room := { frames := 1, cells := 0, slots := 0, locals := 20 }
set_option maxRecDepth 100000 in
def wl_Ga_sumUp_113 (S : ST) (post : (Nat → Int32) → (Nat → Int32) → (Nat → Int32) → (Nat → Int32) → Prop) (K3 : (Nat → Int32) → (Nat → Int32) → (Nat → Int32) → (Nat → Int32) → Int32 → Int32 → Prop) (a24 : (Nat → Int32)) (a25 : (Nat → Int32)) (a26 : (Nat → Int32)) (a27 : (Nat → Int32)) (x3 : Int32) (x4 : Int32) (z1 : Int32) (z2 : Int32) (z3 : Int32) : Prop := (vp_in z1 403 ∧ ∀ f1 : Nat → Int32, f1 = upd a26 z1.toNatClampNeg (z2 + z3) → (vp_in x4 403 ∧ (vp_in x4 400 ∧ (vp_in (x4 + 1) 403 ∧ ∀ f2 : Nat → Int32, f2 = upd a27 ((x4 + 1).toNatClampNeg) ((a27 x4.toNatClampNeg) + ((S.1 6) x4.toNatClampNeg)) → (∀ v3 : Int32, v3 = x4 + 1 → K3 a24 a25 f1 f2 x3 v3)))))
set_option maxRecDepth 100000 in
def wl_Ga_sumUp_85 (S : ST) (post : (Nat → Int32) → (Nat → Int32) → (Nat → Int32) → (Nat → Int32) → Prop) (K3 : (Nat → Int32) → (Nat → Int32) → (Nat → Int32) → (Nat → Int32) → Int32 → Int32 → Prop) (a24 : (Nat → Int32)) (a25 : (Nat → Int32)) (a26 : (Nat → Int32)) (a27 : (Nat → Int32)) (x3 : Int32) (x4 : Int32) (x5 : Int32) (x6 : Int32) (z1 : Int32) (z2 : Int32) (z3 : Int32) : Prop := (vp_in z1 403 ∧ ∀ f1 : Nat → Int32, f1 = upd a25 z1.toNatClampNeg (z2 + z3) → (vp_in x4 403 ∧ ((x5 = 0 → wl_Ga_sumUp_113 S post K3 a24 f1 a26 a27 x3 x4 (x4 + 1) (a26 x4.toNatClampNeg) x6) ∧ (¬ x5 = 0 → wl_Ga_sumUp_113 S post K3 a24 f1 a26 a27 x3 x4 (x4 + 1) (a26 x4.toNatClampNeg) 0))))
set_option maxRecDepth 100000 in
def wl_Ga_sumUp_24 (S : ST) (post : (Nat → Int32) → (Nat → Int32) → (Nat → Int32) → (Nat → Int32) → Prop) (K3 : (Nat → Int32) → (Nat → Int32) → (Nat → Int32) → (Nat → Int32) → Int32 → Int32 → Prop) (a24 : (Nat → Int32)) (a25 : (Nat → Int32)) (a26 : (Nat → Int32)) (a27 : (Nat → Int32)) (x3 : Int32) (x4 : Int32) (z0 : Int32) : Prop := (vp_in x4 400 ∧ (∀ v1 : Int32, v1 = ((S.1 4) x4.toNatClampNeg) → (vp_in x4 403 ∧ (vp_in x4 400 ∧ (vp_in (x4 + 1) 403 ∧ ∀ f2 : Nat → Int32, f2 = upd a24 ((x4 + 1).toNatClampNeg) ((a24 x4.toNatClampNeg) + ((S.1 3) x4.toNatClampNeg)) → (vp_in x4 403 ∧ ((z0 = 0 → wl_Ga_sumUp_85 S post K3 f2 a25 a26 a27 x3 x4 z0 v1 (x4 + 1) (a25 x4.toNatClampNeg) 0) ∧ (¬ z0 = 0 → wl_Ga_sumUp_85 S post K3 f2 a25 a26 a27 x3 x4 z0 v1 (x4 + 1) (a25 x4.toNatClampNeg) v1))))))))
set_option maxRecDepth 100000 in
def wl_Ga_sumUp_3 (S : ST) (post : (Nat → Int32) → (Nat → Int32) → (Nat → Int32) → (Nat → Int32) → Prop) : Nat → (Nat → Int32) → (Nat → Int32) → (Nat → Int32) → (Nat → Int32) → Int32 → Int32 → Prop
  | 0, _, _, _, _, _, _ => False
  | n + 1, a24, a25, a26, a27, x3, x4 => ((x3 ≤ x4 → (∀ v1 : Int32, v1 = (x3 + 1) → (vp_in x3 403 ∧ (vp_in v1 403 ∧ ∀ f2 : Nat → Int32, f2 = upd a24 v1.toNatClampNeg (a24 x3.toNatClampNeg) → (vp_in x3 403 ∧ (vp_in v1 403 ∧ ∀ f3 : Nat → Int32, f3 = upd a25 v1.toNatClampNeg (a25 x3.toNatClampNeg) → (vp_in x3 403 ∧ (vp_in v1 403 ∧ ∀ f4 : Nat → Int32, f4 = upd a26 v1.toNatClampNeg (a26 x3.toNatClampNeg) → (vp_in x3 403 ∧ (vp_in v1 403 ∧ ∀ f5 : Nat → Int32, f5 = upd a27 v1.toNatClampNeg (a27 x3.toNatClampNeg) → (vp_in v1 403 ∧ (vp_in (S.2.2 1099) 403 ∧ ∀ f6 : Nat → Int32, f6 = upd f2 ((S.2.2 1099).toNatClampNeg) ((f2 v1.toNatClampNeg) + (S.2.2 1024)) → (vp_in v1 403 ∧ wp_Gl_finiteStretch_16 (sA (sA (sA (sA S 24 f6) 25 f3) 26 f4) 27 f5)  (fun r7 => (vp_in (S.2.2 1099) 403 ∧ ∀ f8 : Nat → Int32, f8 = upd f3 ((S.2.2 1099).toNatClampNeg) ((f3 v1.toNatClampNeg) + r7) → (vp_in v1 403 ∧ wp_Gl_endlessStretch_16 (sA (sA (sA (sA S 24 f6) 25 f8) 26 f4) 27 f5)  (fun r9 => (vp_in (S.2.2 1099) 403 ∧ ∀ f10 : Nat → Int32, f10 = upd f4 ((S.2.2 1099).toNatClampNeg) ((f4 v1.toNatClampNeg) + r9) → (vp_in v1 403 ∧ (vp_in (S.2.2 1099) 403 ∧ ∀ f11 : Nat → Int32, f11 = upd f5 ((S.2.2 1099).toNatClampNeg) ((f5 v1.toNatClampNeg) + (S.2.2 1027)) → post f6 f8 f10 f11)))))))))))))))))))) ∧ (¬ x3 ≤ x4 → (vp_in x4 400 ∧ ((¬ ((S.1 5) x4.toNatClampNeg) = 0 → wl_Ga_sumUp_24 S post (fun a24 a25 a26 a27 x3 x4 => wl_Ga_sumUp_3 S post n a24 a25 a26 a27 x3 x4) a24 a25 a26 a27 x3 x4 0) ∧ (((S.1 5) x4.toNatClampNeg) = 0 → wl_Ga_sumUp_24 S post (fun a24 a25 a26 a27 x3 x4 => wl_Ga_sumUp_3 S post n a24 a25 a26 a27 x3 x4) a24 a25 a26 a27 x3 x4 1)))))
set_option maxRecDepth 100000 in
def wp_Ga_sumUp (S : ST) (p3 : Int32) (post : (Nat → Int32) → (Nat → Int32) → (Nat → Int32) → (Nat → Int32) → Prop) : Prop := (∃ k9 : Nat, wl_Ga_sumUp_3 S post  k9 (S.1 24) (S.1 25) (S.1 26) (S.1 27) p3 0)
abbrev y_Ga_mayBreak : MethodName := ⟨"LineBreaker$Galley", "mayBreak", "(II)Z"⟩
abbrev rm_Ga_mayBreak : Room := { frames := 0, cells := 0, slots := 0, locals := 0 }
set_option maxRecDepth 100000 in
def wp_Ga_mayBreak (S : ST) (p1 : Int32) (p2 : Int32) (post : Int32 → Prop) : Prop := (vp_in p1 403 ∧ ((((S.1 18) p1.toNatClampNeg) = 1 → ((p1 ≤ 0 → post 0) ∧ (¬ p1 ≤ 0 → ((p1 = p2 → post 1) ∧ (¬ p1 = p2 → (vp_in (p1 - 1) 403 ∧ ((((S.1 18) (p1 - 1).toNatClampNeg) = 0 → post 1) ∧ (¬ ((S.1 18) (p1 - 1).toNatClampNeg) = 0 → (vp_in (p1 - 1) 403 ∧ ((¬ ((S.1 18) (p1 - 1).toNatClampNeg) = 2 → post 0) ∧ (((S.1 18) (p1 - 1).toNatClampNeg) = 2 → post 1))))))))))) ∧ (((S.1 18) p1.toNatClampNeg) = 2 → post 0) ∧ (((S.1 18) p1.toNatClampNeg) = 3 → ((p1 < p2 → post 0) ∧ (¬ p1 < p2 → (((S.2.2 1099) ≤ p1 → post 0) ∧ (¬ (S.2.2 1099) ≤ p1 → (vp_in (p1 + 1) 403 ∧ ((¬ ((S.1 18) (p1 + 1).toNatClampNeg) = 1 → post 0) ∧ (((S.1 18) (p1 + 1).toNatClampNeg) = 1 → post 1)))))))) ∧ (((S.1 18) p1.toNatClampNeg) = 4 → post 1) ∧ (((S.1 18) p1.toNatClampNeg) = 5 → post 1) ∧ (¬ ((S.1 18) p1.toNatClampNeg) = 1 → ¬ ((S.1 18) p1.toNatClampNeg) = 2 → ¬ ((S.1 18) p1.toNatClampNeg) = 3 → ¬ ((S.1 18) p1.toNatClampNeg) = 4 → ¬ ((S.1 18) p1.toNatClampNeg) = 5 → post 0)))
abbrev y_Ga_markPlaces : MethodName := ⟨"LineBreaker$Galley", "markPlaces", "(LLineBreaker$Paragraph;I)V"⟩
abbrev rm_Ga_markPlaces : Room := { frames := 1, cells := 0, slots := 0, locals := 22 }
set_option maxRecDepth 100000 in
def wl_Ga_markPlaces_48 (S : ST) (post : (Nat → Int32) → Prop) (K5 : (Nat → Int32) → Int32 → Int32 → Int32 → Prop) (a20 : (Nat → Int32)) (x2 : Int32) (x3 : Int32) (x4 : Int32) (z1 : Int32) (z2 : Int32) : Prop := (vp_in z1 403 ∧ ∀ f1 : Nat → Int32, f1 = upd a20 z1.toNatClampNeg (vp_nar .boolean z2) → ((x2 ≤ x4 → (∀ v2 : Int32, v2 = x4 + 1 → K5 f1 x2 x3 v2)) ∧ (¬ x2 ≤ x4 → (vp_in x4 403 ∧ ((¬ ((S.1 18) x4.toNatClampNeg) = 5 → (∀ v3 : Int32, v3 = x4 + 1 → K5 f1 x2 x3 v3)) ∧ (((S.1 18) x4.toNatClampNeg) = 5 → (vp_in x4 400 ∧ (∀ v4 : Int32, v4 = ((x4 + 1) + ((S.1 10) x4.toNatClampNeg)) → (∀ v5 : Int32, v5 = x4 + 1 → K5 f1 x2 v4 v5)))))))))
set_option maxRecDepth 100000 in
def wl_Ga_markPlaces_47 (S : ST) (post : (Nat → Int32) → Prop) (K5 : (Nat → Int32) → Int32 → Int32 → Int32 → Prop) (a20 : (Nat → Int32)) (x2 : Int32) (x3 : Int32) (x4 : Int32) (z1 : Int32) : Prop := wl_Ga_markPlaces_48 S post K5 a20 x2 x3 x4 z1 0
set_option maxRecDepth 100000 in
def wl_Ga_markPlaces_5 (S : ST) (post : (Nat → Int32) → Prop) : Nat → (Nat → Int32) → Int32 → Int32 → Int32 → Prop
  | 0, _, _, _, _ => False
  | n + 1, a20, x2, x3, x4 => (((S.2.2 1099) < x4 → post a20) ∧ (¬ (S.2.2 1099) < x4 → (vp_in x4 403 ∧ ((((S.1 19) x4.toNatClampNeg) = 10000 → wl_Ga_markPlaces_47 S post (fun a20 x2 x3 x4 => wl_Ga_markPlaces_5 S post n a20 x2 x3 x4) a20 x2 x3 x4 x4) ∧ (¬ ((S.1 19) x4.toNatClampNeg) = 10000 → wp_Ga_mayBreak (sA S 20 a20) x4 x3 (fun r1 => ((r1 = 0 → wl_Ga_markPlaces_47 S post (fun a20 x2 x3 x4 => wl_Ga_markPlaces_5 S post n a20 x2 x3 x4) a20 x2 x3 x4 x4) ∧ (¬ r1 = 0 → wl_Ga_markPlaces_48 S post (fun a20 x2 x3 x4 => wl_Ga_markPlaces_5 S post n a20 x2 x3 x4) a20 x2 x3 x4 x4 1))))))))
set_option maxRecDepth 100000 in
def wp_Ga_markPlaces (S : ST) (p2 : Int32) (post : (Nat → Int32) → Prop) : Prop := (∃ k9 : Nat, wl_Ga_markPlaces_5 S post  k9 (S.1 20) p2 0 0)
abbrev y_Ga_isLeftOut : MethodName := ⟨"LineBreaker$Galley", "isLeftOut", "(I)Z"⟩
abbrev rm_Ga_isLeftOut : Room := { frames := 0, cells := 0, slots := 0, locals := 0 }
set_option maxRecDepth 100000 in
def wp_Ga_isLeftOut (S : ST) (p1 : Int32) (post : Int32 → Prop) : Prop := ((p1 = 1 → post 1) ∧ (¬ p1 = 1 → ((p1 = 3 → post 1) ∧ (¬ p1 = 3 → ((¬ p1 = 4 → post 0) ∧ (p1 = 4 → post 1))))))
abbrev y_Ga_findFirstOnes : MethodName := ⟨"LineBreaker$Galley", "findFirstOnes", "(LLineBreaker$Paragraph;I)V"⟩
abbrev rm_Ga_findFirstOnes : Room := { frames := 1, cells := 0, slots := 0, locals := 29 }
set_option maxRecDepth 100000 in
def wl_Ga_findFirstOnes_55 (S : ST) (post : (Nat → Int32) → (Nat → Int32) → Prop) (K22 : (Nat → Int32) → (Nat → Int32) → Int32 → Int32 → Prop) (a21 : (Nat → Int32)) (a28 : (Nat → Int32)) (x2 : Int32) (x3 : Int32) (z1 : Int32) (z2 : Int32) : Prop := (vp_in z1 404 ∧ ∀ f1 : Nat → Int32, f1 = upd a28 z1.toNatClampNeg z2 → (vp_in x3 404 ∧ (vp_in x3 403 ∧ ∀ f2 : Nat → Int32, f2 = upd a21 x3.toNatClampNeg (f1 x3.toNatClampNeg) → ((x2 ≤ x3 → (∀ v3 : Int32, v3 = x3 + (-1) → K22 f2 f1 x2 v3)) ∧ (¬ x2 ≤ x3 → (vp_in x3 403 ∧ ((¬ ((S.1 18) x3.toNatClampNeg) = 5 → (∀ v4 : Int32, v4 = x3 + (-1) → K22 f2 f1 x2 v4)) ∧ (((S.1 18) x3.toNatClampNeg) = 5 → (vp_in x3 400 ∧ (∀ v5 : Int32, v5 = (if (S.2.2 1099) < ((x3 + 1) + ((S.1 10) x3.toNatClampNeg)) then (S.2.2 1099) else ((x3 + 1) + ((S.1 10) x3.toNatClampNeg))) → (vp_in x3 400 ∧ ((¬ ((S.1 9) x3.toNatClampNeg) = (-1073741824) → (vp_in x3 403 ∧ ∀ f6 : Nat → Int32, f6 = upd f2 x3.toNatClampNeg v5 → (∀ v7 : Int32, v7 = x3 + (-1) → K22 f6 f1 x2 v7))) ∧ (((S.1 9) x3.toNatClampNeg) = (-1073741824) → (vp_in v5 404 ∧ (vp_in x3 403 ∧ ∀ f8 : Nat → Int32, f8 = upd f2 x3.toNatClampNeg (f1 v5.toNatClampNeg) → (∀ v9 : Int32, v9 = x3 + (-1) → K22 f8 f1 x2 v9))))))))))))))))
set_option maxRecDepth 100000 in
def wl_Ga_findFirstOnes_22 (S : ST) (post : (Nat → Int32) → (Nat → Int32) → Prop) : Nat → (Nat → Int32) → (Nat → Int32) → Int32 → Int32 → Prop
  | 0, _, _, _, _ => False
  | n + 1, a21, a28, x2, x3 => ((x3 < 0 → post a21 a28) ∧ (¬ x3 < 0 → (vp_in x3 403 ∧ wp_Ga_isLeftOut (sA (sA S 21 a21) 28 a28) ((S.1 18) x3.toNatClampNeg) (fun r1 => ((r1 = 0 → wl_Ga_findFirstOnes_55 S post (fun a21 a28 x2 x3 => wl_Ga_findFirstOnes_22 S post n a21 a28 x2 x3) a21 a28 x2 x3 x3 x3) ∧ (¬ r1 = 0 → (vp_in (x3 + 1) 404 ∧ wl_Ga_findFirstOnes_55 S post (fun a21 a28 x2 x3 => wl_Ga_findFirstOnes_22 S post n a21 a28 x2 x3) a21 a28 x2 x3 x3 (a28 (x3 + 1).toNatClampNeg))))))))
set_option maxRecDepth 100000 in
def wp_Ga_findFirstOnes (S : ST) (p2 : Int32) (post : (Nat → Int32) → (Nat → Int32) → Prop) : Prop := (vp_in ((S.2.2 1099) + 1) 404 ∧ ∀ f1 : Nat → Int32, f1 = upd (S.1 28) (((S.2.2 1099) + 1).toNatClampNeg) ((S.2.2 1099) + 1) → (∀ v2 : Int32, v2 = (S.2.2 1099) → (∃ k9 : Nat, wl_Ga_findFirstOnes_22 S post  k9 (S.1 21) f1 p2 v2)))
abbrev y_Ga_prepare : MethodName := ⟨"LineBreaker$Galley", "prepare", "(LLineBreaker$Paragraph;LLineBreaker$Settings;)V"⟩
abbrev rm_Ga_prepare : Room := { frames := 2, cells := 0, slots := 0, locals := 53 }
set_option maxRecDepth 100000 in
def wp_Ga_prepare (S : ST) (post : (Nat → Int32) → (Nat → Int32) → (Nat → Int32) → (Nat → Int32) → (Nat → Int32) → (Nat → Int32) → (Nat → Int32) → (Nat → Int32) → (Nat → Int32) → (Nat → Int32) → (Nat → Int32) → Int32 → Prop) : Prop := wp_Pa_countWithoutLastGlue S  (fun r1 => (∀ v2 : Int32, v2 = ((r1 + 3) - 1) → wp_Ga_copyItems (sI S 1099 v2) r1 (fun f3 f4 f5 f6 => wp_Ga_close (sI (sA (sA (sA (sA S 18 f3) 19 f4) 22 f5) 23 f6) 1099 v2) r1 (fun f7 f8 f9 f10 => wp_Ga_sumUp (sI (sA (sA (sA (sA S 18 f7) 19 f8) 22 f9) 23 f10) 1099 v2) r1 (fun f11 f12 f13 f14 => wp_Ga_markPlaces (sI (sA (sA (sA (sA (sA (sA (sA (sA S 18 f7) 19 f8) 22 f9) 23 f10) 24 f11) 25 f12) 26 f13) 27 f14) 1099 v2) r1 (fun f15 => wp_Ga_findFirstOnes (sI (sA (sA (sA (sA (sA (sA (sA (sA (sA S 18 f7) 19 f8) 20 f15) 22 f9) 23 f10) 24 f11) 25 f12) 26 f13) 27 f14) 1099 v2) r1 (fun f16 f17 => post f7 f8 f15 f16 f9 f10 f11 f12 f13 f14 f17 v2)))))))
abbrev y_Ou_forget : MethodName := ⟨"LineBreaker$Outcome", "forget", "()V"⟩
abbrev rm_Ou_forget : Room := { frames := 0, cells := 0, slots := 0, locals := 0 }
set_option maxRecDepth 100000 in
def wp_Ou_forget (S : ST) (post : Int32 → Int32 → Int32 → Prop) : Prop := post 0 0 0
abbrev y_Ou_record : MethodName := ⟨"LineBreaker$Outcome", "record", "(LLineBreaker$Search;II)V"⟩
abbrev rm_Ou_record : Room := { frames := 4, cells := 0, slots := 0, locals := 103 }
set_option maxRecDepth 100000 in
def wl_Ou_record_44 (S : ST) (post : (Nat → Int32) → (Nat → Int32) → (Nat → Int32) → (Nat → Int32) → (Nat → Int32) → (Nat → Int64) → Int32 → Int32 → Int32 → Int32 → Int32 → Int32 → Int32 → Int32 → Int32 → Prop) : Nat → (Nat → Int32) → (Nat → Int32) → (Nat → Int32) → (Nat → Int32) → (Nat → Int32) → (Nat → Int64) → Int32 → Int32 → Int32 → Int32 → Int32 → Int32 → Int32 → Int32 → Int32 → Int32 → Int32 → Prop
  | 0, _, _, _, _, _, _, _, _, _, _, _, _, _, _, _, _, _ => False
  | n + 1, a43, a44, a45, a46, a47, l48, i1923, i1924, i1925, i1926, i1927, i1928, i2626, i2627, i2628, x5, x6 => ((x6 < 0 → post a43 a44 a45 a46 a47 l48 i1923 i1924 i1925 i1926 i1927 i1928 i2626 i2627 i2628) ∧ (¬ x6 < 0 → (vp_in x5 8001 ∧ (∀ v1 : Int32, v1 = ((S.1 35) x5.toNatClampNeg) → (vp_in x5 8001 ∧ wp_Se_measureFrom (sI (sI (sI (sI (sI (sI (sI (sI (sI (sL (sA (sA (sA (sA (sA S 43 a43) 44 a44) 45 a45) 46 a46) 47 a47) 48 l48) 1923 i1923) 1924 i1924) 1925 i1925) 1926 i1926) 1927 i1927) 1928 i1928) 2626 i2626) 2627 i2627) 2628 i2628) v1 ((S.1 32) x5.toNatClampNeg) (fun v2 v3 v4 v5 v6 v7 => (vp_in x5 8001 ∧ (vp_in x6 401 ∧ ∀ f8 : Nat → Int32, f8 = upd a43 x6.toNatClampNeg ((S.1 32) x5.toNatClampNeg) → (vp_in v1 8001 ∧ wp_Ga_firstOneFrom (sI (sI (sI (sI (sI (sI (sI (sI (sI (sL (sA (sA (sA (sA (sA S 43 f8) 44 a44) 45 a45) 46 a46) 47 a47) 48 l48) 1923 v2) 1924 v3) 1925 v4) 1926 v5) 1927 v6) 1928 v7) 2626 i2626) 2627 i2627) 2628 i2628) ((S.1 32) v1.toNatClampNeg) (fun r9 => (vp_in x6 401 ∧ ∀ f10 : Nat → Int32, f10 = upd a44 x6.toNatClampNeg r9 → (vp_in x6 401 ∧ ∀ f11 : Nat → Int32, f11 = upd a45 x6.toNatClampNeg v2 → (vp_in x6 401 ∧ ∀ f12 : Nat → Int32, f12 = upd a46 x6.toNatClampNeg v3 → (vp_in x6 401 ∧ ∀ f13 : Nat → Int32, f13 = upd a47 x6.toNatClampNeg v4 → (vp_in x5 8001 ∧ (vp_in x6 401 ∧ ∀ f14 : Nat → Int64, f14 = vp_updL l48 x6.toNatClampNeg ((S.2.1 36) x5.toNatClampNeg) → (∀ v15 : Int32, v15 = x6 + (-1) → wl_Ou_record_44 S post n f8 f10 f11 f12 f13 f14 v2 v3 v4 v5 v6 v7 i2626 i2627 i2628 v1 v15)))))))))))))))))
set_option maxRecDepth 100000 in
def wp_Ou_record (S : ST) (p2 : Int32) (p3 : Int32) (post : (Nat → Int32) → (Nat → Int32) → (Nat → Int32) → (Nat → Int32) → (Nat → Int32) → (Nat → Int64) → Int32 → Int32 → Int32 → Int32 → Int32 → Int32 → Int32 → Int32 → Int32 → Prop) : Prop := (vp_in p2 8001 ∧ (∀ v1 : Int32, v1 = ((S.1 33) p2.toNatClampNeg) → (∀ v2 : Int32, v2 = ((S.2.2 1989) - 1) → (∀ v3 : Int32, v3 = (v1 - 1) → (∃ k9 : Nat, wl_Ou_record_44 S post  k9 (S.1 43) (S.1 44) (S.1 45) (S.1 46) (S.1 47) (S.2.1 48) (S.2.2 1923) (S.2.2 1924) (S.2.2 1925) (S.2.2 1926) (S.2.2 1927) (S.2.2 1928) v1 p3 v2 p2 v3)))))
abbrev y_Pa_append : MethodName := ⟨"LineBreaker$Paragraph", "append", "(II)I"⟩
abbrev rm_Pa_append : Room := { frames := 0, cells := 0, slots := 0, locals := 0 }
set_option maxRecDepth 100000 in
def wp_Pa_append (S : ST) (p1 : Int32) (p2 : Int32) (post : Int32 → (Nat → Int32) → (Nat → Int32) → (Nat → Int32) → (Nat → Int32) → (Nat → Int32) → (Nat → Int32) → (Nat → Int32) → (Nat → Int32) → (Nat → Int32) → Int32 → Prop) : Prop := (∀ v1 : Int32, v1 = (S.2.2 73) → (vp_in v1 400 ∧ ∀ f2 : Nat → Int32, f2 = upd (S.1 2) v1.toNatClampNeg p1 → (vp_in v1 400 ∧ ∀ f3 : Nat → Int32, f3 = upd (S.1 3) v1.toNatClampNeg p2 → (vp_in v1 400 ∧ ∀ f4 : Nat → Int32, f4 = upd (S.1 4) v1.toNatClampNeg 0 → (vp_in v1 400 ∧ ∀ f5 : Nat → Int32, f5 = upd (S.1 5) v1.toNatClampNeg 0 → (vp_in v1 400 ∧ ∀ f6 : Nat → Int32, f6 = upd (S.1 6) v1.toNatClampNeg 0 → (vp_in v1 400 ∧ ∀ f7 : Nat → Int32, f7 = upd (S.1 7) v1.toNatClampNeg 0 → (vp_in v1 400 ∧ ∀ f8 : Nat → Int32, f8 = upd (S.1 8) v1.toNatClampNeg (-1073741824) → (vp_in v1 400 ∧ ∀ f9 : Nat → Int32, f9 = upd (S.1 9) v1.toNatClampNeg (-1073741824) → (vp_in v1 400 ∧ ∀ f10 : Nat → Int32, f10 = upd (S.1 10) v1.toNatClampNeg 0 → (∀ v11 : Int32, v11 = (v1 + 1) → post v1 f2 f3 f4 f5 f6 f7 f8 f9 f10 v11)))))))))))
abbrev y_Pa_appendGlue : MethodName := ⟨"LineBreaker$Paragraph", "appendGlue", "(IIII)I"⟩
abbrev rm_Pa_appendGlue : Room := { frames := 1, cells := 0, slots := 0, locals := 23 }
set_option maxRecDepth 100000 in
def wp_Pa_appendGlue (S : ST) (p1 : Int32) (p2 : Int32) (p3 : Int32) (p4 : Int32) (post : Int32 → (Nat → Int32) → (Nat → Int32) → (Nat → Int32) → (Nat → Int32) → (Nat → Int32) → (Nat → Int32) → (Nat → Int32) → (Nat → Int32) → (Nat → Int32) → Int32 → Prop) : Prop := wp_Pa_append S 1 p1 (fun r11 f1 f2 f3 f4 f5 f6 f7 f8 f9 v10 => (vp_in r11 400 ∧ ∀ f12 : Nat → Int32, f12 = upd f3 r11.toNatClampNeg p2 → (vp_in r11 400 ∧ ∀ f13 : Nat → Int32, f13 = upd f4 r11.toNatClampNeg p3 → (vp_in r11 400 ∧ ∀ f14 : Nat → Int32, f14 = upd f5 r11.toNatClampNeg p4 → post r11 f1 f2 f12 f13 f14 f6 f7 f8 f9 v10))))
abbrev y_Pa_appendPenalty : MethodName := ⟨"LineBreaker$Paragraph", "appendPenalty", "(I)I"⟩
abbrev rm_Pa_appendPenalty : Room := { frames := 1, cells := 0, slots := 0, locals := 23 }
set_option maxRecDepth 100000 in
def wp_Pa_appendPenalty (S : ST) (p1 : Int32) (post : Int32 → (Nat → Int32) → (Nat → Int32) → (Nat → Int32) → (Nat → Int32) → (Nat → Int32) → (Nat → Int32) → (Nat → Int32) → (Nat → Int32) → (Nat → Int32) → Int32 → Prop) : Prop := wp_Pa_append S 4 0 (fun r11 f1 f2 f3 f4 f5 f6 f7 f8 f9 v10 => (vp_in r11 400 ∧ ∀ f12 : Nat → Int32, f12 = upd f6 r11.toNatClampNeg p1 → post r11 f1 f2 f3 f4 f5 f12 f7 f8 f9 v10))
abbrev y_Pa_appendHyphen : MethodName := ⟨"LineBreaker$Paragraph", "appendHyphen", "(III)I"⟩
abbrev rm_Pa_appendHyphen : Room := { frames := 1, cells := 0, slots := 0, locals := 23 }
set_option maxRecDepth 100000 in
def wp_Pa_appendHyphen (S : ST) (p1 : Int32) (p2 : Int32) (p3 : Int32) (post : Int32 → (Nat → Int32) → (Nat → Int32) → (Nat → Int32) → (Nat → Int32) → (Nat → Int32) → (Nat → Int32) → (Nat → Int32) → (Nat → Int32) → (Nat → Int32) → Int32 → Prop) : Prop := wp_Pa_append S 5 0 (fun r11 f1 f2 f3 f4 f5 f6 f7 f8 f9 v10 => (vp_in r11 400 ∧ ∀ f12 : Nat → Int32, f12 = upd f7 r11.toNatClampNeg p1 → (vp_in r11 400 ∧ ∀ f13 : Nat → Int32, f13 = upd f8 r11.toNatClampNeg p2 → (vp_in r11 400 ∧ ∀ f14 : Nat → Int32, f14 = upd f9 r11.toNatClampNeg p3 → post r11 f1 f2 f3 f4 f5 f6 f12 f13 f14 v10))))
abbrev y_Pa_awaitsReplaced : MethodName := ⟨"LineBreaker$Paragraph", "awaitsReplaced", "()Z"⟩
abbrev rm_Pa_awaitsReplaced : Room := { frames := 1, cells := 0, slots := 0, locals := 29 }
set_option maxRecDepth 100000 in
def wl_Pa_awaitsReplaced_19 (S : ST) (post : Int32 → Prop) : Nat → Int32 → Int32 → Prop
  | 0, _, _ => False
  | n + 1, x1, x2 => ((x2 < x1 → post 0) ∧ (¬ x2 < x1 → (vp_in x2 400 ∧ ((¬ ((S.1 2) x2.toNatClampNeg) = 5 → (∀ v1 : Int32, v1 = x2 + (-1) → wl_Pa_awaitsReplaced_19 S post n x1 v1)) ∧ (((S.1 2) x2.toNatClampNeg) = 5 → (vp_in x2 400 ∧ (((x2 + ((S.1 10) x2.toNatClampNeg)) < (S.2.2 73) → post 0) ∧ (¬ (x2 + ((S.1 10) x2.toNatClampNeg)) < (S.2.2 73) → post 1))))))))
set_option maxRecDepth 100000 in
def wp_Pa_awaitsReplaced (S : ST) (post : Int32 → Prop) : Prop := (∀ v1 : Int32, v1 = (if 0 < ((S.2.2 73) - 10) then ((S.2.2 73) - 10) else 0) → (∀ v2 : Int32, v2 = ((S.2.2 73) - 1) → (∃ k9 : Nat, wl_Pa_awaitsReplaced_19 S post  k9 v1 v2)))
abbrev y_Lb_keep : MethodName := ⟨"LineBreaker", "keep", "(I)Z"⟩
abbrev rm_Lb_keep : Room := { frames := 1, cells := 0, slots := 0, locals := 20 }
set_option maxRecDepth 100000 in
def wp_Lb_keep (S : ST) (p1 : Int32) (post : Int32 → Int32 → Int32 → Int32 → Int32 → Prop) : Prop := ((p1 < 0 → post 0 (S.2.2 73) (S.2.2 2626) (S.2.2 2627) (S.2.2 2628)) ∧ (¬ p1 < 0 → ((p1 ≤ (S.2.2 73) → wp_Ou_forget (sI S 73 p1)  (fun v1 v2 v3 => post 1 p1 v1 v2 v3)) ∧ (¬ p1 ≤ (S.2.2 73) → post 0 (S.2.2 73) (S.2.2 2626) (S.2.2 2627) (S.2.2 2628)))))
abbrev y_Lb_items : MethodName := ⟨"LineBreaker", "items", "()I"⟩
abbrev rm_Lb_items : Room := { frames := 0, cells := 0, slots := 0, locals := 0 }
set_option maxRecDepth 100000 in
def wp_Lb_items (S : ST) (post : Int32 → Prop) : Prop := post (S.2.2 73)
abbrev y_Lb_pass : MethodName := ⟨"LineBreaker", "pass", "()I"⟩
abbrev rm_Lb_pass : Room := { frames := 0, cells := 0, slots := 0, locals := 0 }
set_option maxRecDepth 100000 in
def wp_Lb_pass (S : ST) (post : Int32 → Prop) : Prop := post (S.2.2 2627)
abbrev y_Lb_nodes : MethodName := ⟨"LineBreaker", "nodes", "()I"⟩
abbrev rm_Lb_nodes : Room := { frames := 0, cells := 0, slots := 0, locals := 0 }
set_option maxRecDepth 100000 in
def wp_Lb_nodes (S : ST) (post : Int32 → Prop) : Prop := post (S.2.2 2628)
abbrev y_Pa_allStretch : MethodName := ⟨"LineBreaker$Paragraph", "allStretch", "()J"⟩
abbrev rm_Pa_allStretch : Room := { frames := 0, cells := 0, slots := 0, locals := 0 }
set_option maxRecDepth 100000 in
def wl_Pa_allStretch_4 (S : ST) (post : Int64 → Prop) : Nat → Int64 → Int32 → Prop
  | 0, _, _ => False
  | n + 1, x1, x3 => (((S.2.2 73) ≤ x3 → post x1) ∧ (¬ (S.2.2 73) ≤ x3 → (vp_in x3 400 ∧ (∀ v1 : Int64, v1 = (x1 + (((S.1 4) x3.toNatClampNeg).toInt64)) → (∀ v2 : Int32, v2 = x3 + 1 → wl_Pa_allStretch_4 S post n v1 v2)))))
set_option maxRecDepth 100000 in
def wp_Pa_allStretch (S : ST) (post : Int64 → Prop) : Prop := (∃ k9 : Nat, wl_Pa_allStretch_4 S post  k9 0 0)
abbrev y_St_stretchAround : MethodName := ⟨"LineBreaker$Settings", "stretchAround", "()J"⟩
abbrev rm_St_stretchAround : Room := { frames := 0, cells := 0, slots := 0, locals := 0 }
set_option maxRecDepth 100000 in
def wp_St_stretchAround (S : ST) (post : Int64 → Prop) : Prop := post ((((S.2.2 897).toInt64) + ((S.2.2 961).toInt64)) + ((S.2.2 1025).toInt64))
abbrev y_Pa_allWidths : MethodName := ⟨"LineBreaker$Paragraph", "allWidths", "()J"⟩
abbrev rm_Pa_allWidths : Room := { frames := 1, cells := 0, slots := 0, locals := 29 }
set_option maxRecDepth 100000 in
def wl_Pa_allWidths_4 (S : ST) (post : Int64 → Prop) : Nat → Int64 → Int32 → Prop
  | 0, _, _ => False
  | n + 1, x1, x3 => (((S.2.2 73) ≤ x3 → post x1) ∧ (¬ (S.2.2 73) ≤ x3 → (vp_in x3 400 ∧ (∀ v1 : Int32, v1 = (if (0 : Int32) ≤ ((S.1 3) x3.toNatClampNeg) then ((S.1 3) x3.toNatClampNeg) else 0 - ((S.1 3) x3.toNatClampNeg)) → (∀ v2 : Int64, v2 = (x1 + (v1.toInt64)) → (vp_in x3 400 ∧ wp_Lb_widthOf S ((S.1 8) x3.toNatClampNeg) (fun r3 => (∀ v4 : Int32, v4 = (if (0 : Int32) ≤ r3 then r3 else 0 - r3) → (∀ v5 : Int64, v5 = (v2 + (v4.toInt64)) → (vp_in x3 400 ∧ wp_Lb_widthOf S ((S.1 9) x3.toNatClampNeg) (fun r6 => (∀ v7 : Int32, v7 = (if (0 : Int32) ≤ r6 then r6 else 0 - r6) → (∀ v8 : Int64, v8 = (v5 + (v7.toInt64)) → (∀ v9 : Int32, v9 = x3 + 1 → wl_Pa_allWidths_4 S post n v8 v9))))))))))))))
set_option maxRecDepth 100000 in
def wp_Pa_allWidths (S : ST) (post : Int64 → Prop) : Prop := (∃ k9 : Nat, wl_Pa_allWidths_4 S post  k9 0 0)
abbrev y_St_widthsAround : MethodName := ⟨"LineBreaker$Settings", "widthsAround", "()J"⟩
abbrev rm_St_widthsAround : Room := { frames := 1, cells := 0, slots := 0, locals := 29 }
set_option maxRecDepth 100000 in
def wp_St_widthsAround (S : ST) (post : Int64 → Prop) : Prop := (∀ v1 : Int32, v1 = (if (0 : Int32) ≤ (S.2.2 896) then (S.2.2 896) else 0 - (S.2.2 896)) → (∀ v2 : Int32, v2 = (if (0 : Int32) ≤ (S.2.2 960) then (S.2.2 960) else 0 - (S.2.2 960)) → (∀ v3 : Int32, v3 = (if (0 : Int32) ≤ (S.2.2 1024) then (S.2.2 1024) else 0 - (S.2.2 1024)) → post (((v1.toInt64) + (v2.toInt64)) + (v3.toInt64)))))
abbrev y_Pa_allShrink : MethodName := ⟨"LineBreaker$Paragraph", "allShrink", "()J"⟩
abbrev rm_Pa_allShrink : Room := { frames := 0, cells := 0, slots := 0, locals := 0 }
set_option maxRecDepth 100000 in
def wl_Pa_allShrink_4 (S : ST) (post : Int64 → Prop) : Nat → Int64 → Int32 → Prop
  | 0, _, _ => False
  | n + 1, x1, x3 => (((S.2.2 73) ≤ x3 → post x1) ∧ (¬ (S.2.2 73) ≤ x3 → (vp_in x3 400 ∧ (∀ v1 : Int64, v1 = (x1 + (((S.1 6) x3.toNatClampNeg).toInt64)) → (∀ v2 : Int32, v2 = x3 + 1 → wl_Pa_allShrink_4 S post n v1 v2)))))
set_option maxRecDepth 100000 in
def wp_Pa_allShrink (S : ST) (post : Int64 → Prop) : Prop := (∃ k9 : Nat, wl_Pa_allShrink_4 S post  k9 0 0)
abbrev y_St_shrinkAround : MethodName := ⟨"LineBreaker$Settings", "shrinkAround", "()J"⟩
abbrev rm_St_shrinkAround : Room := { frames := 0, cells := 0, slots := 0, locals := 0 }
set_option maxRecDepth 100000 in
def wp_St_shrinkAround (S : ST) (post : Int64 → Prop) : Prop := post ((((S.2.2 899).toInt64) + ((S.2.2 963).toInt64)) + ((S.2.2 1027).toInt64))
abbrev y_Lb_sumsAreSizes : MethodName := ⟨"LineBreaker", "sumsAreSizes", "()Z"⟩
abbrev rm_Lb_sumsAreSizes : Room := { frames := 2, cells := 0, slots := 0, locals := 52 }
set_option maxRecDepth 100000 in
def wp_Lb_sumsAreSizes (S : ST) (post : Int32 → Prop) : Prop := wp_Pa_allStretch S  (fun r1 => wp_St_stretchAround S  (fun r2 => (vp_in 8 10 ∧ (∀ v3 : Int64, v3 = ((r1 + r2) + (((S.1 12) (8 : Int32).toNatClampNeg).toInt64)) → wp_Pa_allWidths S  (fun r4 => wp_St_widthsAround S  (fun r5 => ((0 < (lg_cmp (r4 + r5) 1073741823) → post 0) ∧ (¬ 0 < (lg_cmp (r4 + r5) 1073741823) → ((0 < (lg_cmp v3 1073741823) → post 0) ∧ (¬ 0 < (lg_cmp v3 1073741823) → wp_Pa_allShrink S  (fun r6 => wp_St_shrinkAround S  (fun r7 => ((0 < (lg_cmp (r6 + r7) 1073741823) → post 0) ∧ (¬ 0 < (lg_cmp (r6 + r7) 1073741823) → post 1))))))))))))))
abbrev y_Lb_isSize : MethodName := ⟨"LineBreaker", "isSize", "(I)Z"⟩
abbrev rm_Lb_isSize : Room := { frames := 0, cells := 0, slots := 0, locals := 0 }
set_option maxRecDepth 100000 in
def wp_Lb_isSize (S : ST) (p1 : Int32) (post : Int32 → Prop) : Prop := ((p1 < (-1073741823) → post 0) ∧ (¬ p1 < (-1073741823) → ((1073741823 < p1 → post 0) ∧ (¬ 1073741823 < p1 → post 1))))
abbrev y_Gl_become : MethodName := ⟨"LineBreaker$Glue", "become", "(IIII)V"⟩
abbrev rm_Gl_become : Room := { frames := 0, cells := 0, slots := 0, locals := 0 }
set_option maxRecDepth 100000 in
def wp_Gl_become (S : ST) (p1 : Int32) (p2 : Int32) (p3 : Int32) (p4 : Int32) (post : Int32 → Int32 → Int32 → Int32 → Prop) : Prop := post p1 p2 p3 p4
abbrev rm_Gl_become_15 : Room := { frames := 0, cells := 0, slots := 0, locals := 0 }
set_option maxRecDepth 100000 in
def wp_Gl_become_15 (S : ST) (p1 : Int32) (p2 : Int32) (p3 : Int32) (p4 : Int32) (post : Int32 → Int32 → Int32 → Int32 → Prop) : Prop := post p1 p2 p3 p4
abbrev rm_Gl_become_16 : Room := { frames := 0, cells := 0, slots := 0, locals := 0 }
set_option maxRecDepth 100000 in
def wp_Gl_become_16 (S : ST) (p1 : Int32) (p2 : Int32) (p3 : Int32) (p4 : Int32) (post : Int32 → Int32 → Int32 → Int32 → Prop) : Prop := post p1 p2 p3 p4
section
variable {p : Program} {l : Launch} {e : Env} {s : State} {m : MethodId} {args : Array Value} {below : List Frame} {meth : Method} {c : Code} {n0 : Nat} {G : va_G} {K : KT} {ad : Nat → Nat} {X : va_W}
set_option maxHeartbeats 4000000 in
set_option maxRecDepth 100000 in
theorem c_Pa_countWithoutLastGlue (l : Launch) (n0 : Nat) (G : va_G) (K : KT) (ad : Nat → Nat) (X : va_W) (S : ST) (post : Int32 → Prop) (hw : wp_Pa_countWithoutLastGlue S  post) : Met l y_Pa_countWithoutLastGlue (Cond.code y_Pa_countWithoutLastGlue prog_8_method_7_code 1 (some .int) :: gw) rm_Pa_countWithoutLastGlue (va_Pc [.ref (ad 1)] (wb n0 G K (wC K ad S ++ X))) (rq_i post) 0 0 (fun _ => False) := by
  refine kb_start (own := "LineBreaker$Paragraph") (by decide +kernel) rfl ?_
  intro p e s m below meth c C hr hne w
  have hx := C.1
  have hb := C.2.1
  have hts := C.2.2.2.2.1
  have hl := lv_entry ([.ref (ad 1)]) (n := 1) (Nat.le_of_ble_eq_true rfl)
  rw [lg_entry_eq]
  generalize (lg_sl ([.ref (ad 1)]) ++ List.replicate (1 - (lg_sl ([.ref (ad 1)])).length) Slot.unset).toArray = ls at hl ⊢
  have hl : lv_has ls 1 [(0, .ref (ad 1))] := hl
  unfold wp_Pa_countWithoutLastGlue at hw
  refine lv_aload_n hx hb d_Pa_countWithoutLastGlue_0 rfl (lv_at hl 0 rfl) ?_
  refine kg (C1 := R_Pa) (T := F_Pa) (N := 10) (ci := 6) (ref := "LineBreaker$Paragraph") (v := .int (S.2.2 73)) C w 1 9 iw_Pa rfl rfl (by decide) kw_53 rfl rfl d_Pa_countWithoutLastGlue_1 ?_
  refine lv_if_le (tgt := 31) hx hb d_Pa_countWithoutLastGlue_4 (by decide) (fun hc => ?_) (fun hc => ?_)
  · have hw := hw.1 hc
    refine lv_aload_n hx hb d_Pa_countWithoutLastGlue_31 rfl (lv_at hl 0 rfl) ?_
    refine kg (C1 := R_Pa) (T := F_Pa) (N := 10) (ci := 6) (ref := "LineBreaker$Paragraph") (v := .int (S.2.2 73)) C w 1 9 iw_Pa rfl rfl (by decide) kw_53 rfl rfl d_Pa_countWithoutLastGlue_32 ?_
    exact kf_i C hr d_Pa_countWithoutLastGlue_35 hw
  · have hw := hw.2 hc
    refine lv_aload_n hx hb d_Pa_countWithoutLastGlue_7 rfl (lv_at hl 0 rfl) ?_
    refine kg (C1 := R_Pa) (T := F_Pa) (N := 10) (ci := 6) (ref := "LineBreaker$Paragraph") (v := .ref (ad 2)) C w 1 0 iw_Pa rfl rfl (by decide) kw_35 rfl rfl d_Pa_countWithoutLastGlue_8 ?_
    refine lv_aload_n hx hb d_Pa_countWithoutLastGlue_11 rfl (lv_at hl 0 rfl) ?_
    refine kg (C1 := R_Pa) (T := F_Pa) (N := 10) (ci := 6) (ref := "LineBreaker$Paragraph") (v := .int (S.2.2 73)) C w 1 9 iw_Pa rfl rfl (by decide) kw_53 rfl rfl d_Pa_countWithoutLastGlue_12 ?_
    refine lv_iconst (v := 1) hx hb d_Pa_countWithoutLastGlue_15 (by decide) ?_
    refine lv_isub hx hb d_Pa_countWithoutLastGlue_16 ?_
    refine ka_i (f := (S.1 2)) C w 2 rfl hw.1 d_Pa_countWithoutLastGlue_17 ?_
    have hw := hw.2
    refine lv_iconst (v := 1) hx hb d_Pa_countWithoutLastGlue_18 (by decide) ?_
    refine lv_icmp_ne (tgt := 31) hx hb d_Pa_countWithoutLastGlue_19 (by decide) (fun hc => ?_) (fun hc => ?_)
    · have hw := hw.1 hc
      refine lv_aload_n hx hb d_Pa_countWithoutLastGlue_31 rfl (lv_at hl 0 rfl) ?_
      refine kg (C1 := R_Pa) (T := F_Pa) (N := 10) (ci := 6) (ref := "LineBreaker$Paragraph") (v := .int (S.2.2 73)) C w 1 9 iw_Pa rfl rfl (by decide) kw_53 rfl rfl d_Pa_countWithoutLastGlue_32 ?_
      exact kf_i C hr d_Pa_countWithoutLastGlue_35 hw
    · have hw := hw.2 hc
      refine lv_aload_n hx hb d_Pa_countWithoutLastGlue_22 rfl (lv_at hl 0 rfl) ?_
      refine kg (C1 := R_Pa) (T := F_Pa) (N := 10) (ci := 6) (ref := "LineBreaker$Paragraph") (v := .int (S.2.2 73)) C w 1 9 iw_Pa rfl rfl (by decide) kw_53 rfl rfl d_Pa_countWithoutLastGlue_23 ?_
      refine lv_iconst (v := 1) hx hb d_Pa_countWithoutLastGlue_26 (by decide) ?_
      refine lv_isub hx hb d_Pa_countWithoutLastGlue_27 ?_
      refine lv_goto (tgt := 35) hx hb d_Pa_countWithoutLastGlue_28 (by decide) ?_
      exact kf_i C hr d_Pa_countWithoutLastGlue_35 hw
set_option maxHeartbeats 4000000 in
set_option maxRecDepth 100000 in
theorem c_Lb_widthOf (l : Launch) (n0 : Nat) (G : va_G) (K : KT) (ad : Nat → Nat) (X : va_W) (S : ST) (p1 : Int32) (post : Int32 → Prop) (hw : wp_Lb_widthOf S p1 post) : Met l y_Lb_widthOf (Cond.code y_Lb_widthOf prog_1_method_25_code 1 (some .int) :: gw) rm_Lb_widthOf (va_Pc [.int p1] (wb n0 G K (wC K ad S ++ X))) (rq_i post) 0 0 (fun _ => False) := by
  refine kb_start (own := "LineBreaker") (by decide +kernel) rfl ?_
  intro p e s m below meth c C hr hne w
  have hx := C.1
  have hb := C.2.1
  have hts := C.2.2.2.2.1
  have hl := lv_entry ([.int p1]) (n := 1) (Nat.le_of_ble_eq_true rfl)
  rw [lg_entry_eq]
  generalize (lg_sl ([.int p1]) ++ List.replicate (1 - (lg_sl ([.int p1])).length) Slot.unset).toArray = ls at hl ⊢
  have hl : lv_has ls 1 [(0, .int p1)] := hl
  unfold wp_Lb_widthOf at hw
  refine lv_iload_n hx hb d_Lb_widthOf_0 rfl (lv_at hl 0 rfl) ?_
  refine lv_ldc (v := (-1073741824)) hx hb C.2.2.2.1 (hts _ kw_580) d_Lb_widthOf_1 ?_
  refine lv_icmp_ne (tgt := 10) hx hb d_Lb_widthOf_3 (by decide) (fun hc => ?_) (fun hc => ?_)
  · have hw := hw.1 hc
    refine lv_iload_n hx hb d_Lb_widthOf_10 rfl (lv_at hl 0 rfl) ?_
    exact kf_i C hr d_Lb_widthOf_11 hw
  · have hw := hw.2 hc
    refine lv_iconst (v := 0) hx hb d_Lb_widthOf_6 (by decide) ?_
    refine lv_goto (tgt := 11) hx hb d_Lb_widthOf_7 (by decide) ?_
    exact kf_i C hr d_Lb_widthOf_11 hw
set_option maxHeartbeats 4000000 in
set_option maxRecDepth 100000 in
theorem w_Ga_copyItems_89 {S : ST} {post : (Nat → Int32) → (Nat → Int32) → (Nat → Int32) → (Nat → Int32) → Prop} (C : cx p s m args meth c prog_2_method_7_code 6 "LineBreaker$Galley" n0 G K) (hr : meth.sig.returnType = none) {K3 : (Nat → Int32) → (Nat → Int32) → (Nat → Int32) → (Nat → Int32) → Int32 → Int32 → Prop} (hk3 : ∀ (a18 : (Nat → Int32)) (a19 : (Nat → Int32)) (a22 : (Nat → Int32)) (a23 : (Nat → Int32)) (x3 : Int32) (x4 : Int32), K3 a18 a19 a22 a23 x3 x4 → ∀ (H : Heap) (locs : List Loc) (ls : Array Slot), wn n0 G (wC K ad (sA (sA (sA (sA S 18 a18) 19 a19) 22 a22) 23 a23) ++ X) s H locs → lv_has ls 6 [(0, .ref (ad 17)), (1, .ref (ad 1)), (2, .ref (ad 11)), (3, .int x3), (4, .int x4)] → W p l e rm_Ga_copyItems s m args below meth c H locs 0 0 (MQ below (va_Qv (fun (u : (Nat → Int32) × (Nat → Int32) × (Nat → Int32) × (Nat → Int32)) => post u.1 u.2.1 u.2.2.1 u.2.2.2) (fun (u : (Nat → Int32) × (Nat → Int32) × (Nat → Int32) × (Nat → Int32)) t => we n0 G (wC K ad (sA (sA (sA (sA S 18 u.1) 19 u.2.1) 22 u.2.2.1) 23 u.2.2.2) ++ X) t) (al n0)) args s 0 0 (al n0)) (F0 m 3 ls [])) : ∀ (a18 : (Nat → Int32)) (a19 : (Nat → Int32)) (a22 : (Nat → Int32)) (a23 : (Nat → Int32)) (x3 : Int32) (x4 : Int32), wl_Ga_copyItems_89 S post K3 a18 a19 a22 a23 x3 x4 → ∀ (H : Heap) (locs : List Loc) (ls : Array Slot), wn n0 G (wC K ad (sA (sA (sA (sA S 18 a18) 19 a19) 22 a22) 23 a23) ++ X) s H locs → lv_has ls 6 [(0, .ref (ad 17)), (1, .ref (ad 1)), (2, .ref (ad 11)), (3, .int x3), (4, .int x4)] → W p l e rm_Ga_copyItems s m args below meth c H locs 0 0 (MQ below (va_Qv (fun (u : (Nat → Int32) × (Nat → Int32) × (Nat → Int32) × (Nat → Int32)) => post u.1 u.2.1 u.2.2.1 u.2.2.2) (fun (u : (Nat → Int32) × (Nat → Int32) × (Nat → Int32) × (Nat → Int32)) t => we n0 G (wC K ad (sA (sA (sA (sA S 18 u.1) 19 u.2.1) 22 u.2.2.1) 23 u.2.2.2) ++ X) t) (al n0)) args s 0 0 (al n0)) (F0 m 89 ls []) := by
  have hx := C.1
  have hb := C.2.1
  have hts := C.2.2.2.2.1
  intro a18 a19 a22 a23 x3 x4 hw H locs ls w hl
  unfold wl_Ga_copyItems_89 at hw
  refine lv_aload_n hx hb d_Ga_copyItems_89 rfl (lv_at hl 0 rfl) ?_
  refine kg (C1 := R_Ga) (T := F_Ga) (N := 12) (ci := 0) (ref := "LineBreaker$Galley") (v := .ref (ad 22)) C w 17 4 iw_Ga rfl rfl (by decide) kw_147 rfl rfl d_Ga_copyItems_90 ?_
  refine lv_iload hx hb d_Ga_copyItems_93 (lv_at hl 4 rfl) ?_
  refine lv_aload_n hx hb d_Ga_copyItems_95 rfl (lv_at hl 1 rfl) ?_
  refine kg (C1 := R_Pa) (T := F_Pa) (N := 10) (ci := 6) (ref := "LineBreaker$Paragraph") (v := .ref (ad 8)) C w 1 6 iw_Pa rfl rfl (by decide) kw_48 rfl rfl d_Ga_copyItems_96 ?_
  refine lv_iload hx hb d_Ga_copyItems_99 (lv_at hl 4 rfl) ?_
  refine ka_i (f := (S.1 8)) C w 8 rfl hw.1 d_Ga_copyItems_101 ?_
  have hw := hw.2
  refine kd_i (kr_N (host := "LineBreaker") (y := y_Lb_widthOf) (As := [.int ((S.1 8) x4.toNatClampNeg)]) (n := 1) C w (c_Lb_widthOf l n0 G K ad X (sA (sA (sA (sA S 18 a18) 19 a19) 22 a22) 23 a23) ((S.1 8) x4.toNatClampNeg) _ hw) kw_649 (fx_nest (i := 678) C.2.2.2.2.2.2.2.2 (by decide +kernel)) kw_1 kw_648 (by decide +kernel) rfl rfl ⟨Nat.le_of_ble_eq_true rfl, Nat.le_of_ble_eq_true rfl⟩ rfl hl.1 rfl (Nat.le_of_ble_eq_true rfl) d_Ga_copyItems_102 ⟨Nat.le_of_ble_eq_true rfl, Nat.le_of_ble_eq_true rfl⟩) (fun r1 hw => ?_)
  obtain ⟨f2, ef2⟩ : ∃ z : Nat → Int32, z = upd a22 x4.toNatClampNeg r1 := ⟨_, rfl⟩
  refine ks_i (f := a22) (w2 := wC K ad (sA (sA (sA (sA S 18 a18) 19 a19) 22 f2) 23 a23) ++ X) C w 22 rfl hw.1 (by rw [← ef2]; rfl) d_Ga_copyItems_105 (fun H locs w => ?_)
  have hw := hw.2 f2 ef2
  refine lv_aload_n hx hb d_Ga_copyItems_106 rfl (lv_at hl 0 rfl) ?_
  refine kg (C1 := R_Ga) (T := F_Ga) (N := 12) (ci := 0) (ref := "LineBreaker$Galley") (v := .ref (ad 23)) C w 17 5 iw_Ga rfl rfl (by decide) kw_149 rfl rfl d_Ga_copyItems_107 ?_
  refine lv_iload hx hb d_Ga_copyItems_110 (lv_at hl 4 rfl) ?_
  refine lv_aload_n hx hb d_Ga_copyItems_112 rfl (lv_at hl 1 rfl) ?_
  refine kg (C1 := R_Pa) (T := F_Pa) (N := 10) (ci := 6) (ref := "LineBreaker$Paragraph") (v := .ref (ad 9)) C w 1 7 iw_Pa rfl rfl (by decide) kw_50 rfl rfl d_Ga_copyItems_113 ?_
  refine lv_iload hx hb d_Ga_copyItems_116 (lv_at hl 4 rfl) ?_
  refine ka_i (f := (S.1 9)) C w 9 rfl hw.1 d_Ga_copyItems_118 ?_
  have hw := hw.2
  refine kd_i (kr_N (host := "LineBreaker") (y := y_Lb_widthOf) (As := [.int ((S.1 9) x4.toNatClampNeg)]) (n := 1) C w (c_Lb_widthOf l n0 G K ad X (sA (sA (sA (sA S 18 a18) 19 a19) 22 f2) 23 a23) ((S.1 9) x4.toNatClampNeg) _ hw) kw_649 (fx_nest (i := 678) C.2.2.2.2.2.2.2.2 (by decide +kernel)) kw_1 kw_648 (by decide +kernel) rfl rfl ⟨Nat.le_of_ble_eq_true rfl, Nat.le_of_ble_eq_true rfl⟩ rfl hl.1 rfl (Nat.le_of_ble_eq_true rfl) d_Ga_copyItems_119 ⟨Nat.le_of_ble_eq_true rfl, Nat.le_of_ble_eq_true rfl⟩) (fun r3 hw => ?_)
  obtain ⟨f4, ef4⟩ : ∃ z : Nat → Int32, z = upd a23 x4.toNatClampNeg r3 := ⟨_, rfl⟩
  refine ks_i (f := a23) (w2 := wC K ad (sA (sA (sA (sA S 18 a18) 19 a19) 22 f2) 23 f4) ++ X) C w 23 rfl hw.1 (by rw [← ef4]; rfl) d_Ga_copyItems_122 (fun H locs w => ?_)
  have hw := hw.2 f4 ef4
  obtain ⟨v5, ev5⟩ : ∃ y : Int32, y = x4 + 1 := ⟨_, rfl⟩
  refine lv_iinc (v := v5) (lv' := [(4, .int v5), (0, .ref (ad 17)), (1, .ref (ad 1)), (2, .ref (ad 11)), (3, .int x3)]) hx hb d_Ga_copyItems_123 hl (k := 4) rfl (by rw [ev5]; rfl) (by decide) rfl (fun ls hl => ?_)
  have hw := hw v5 ev5
  refine lv_goto (tgt := 3) hx hb d_Ga_copyItems_126 (by decide) ?_
  exact hk3 a18 a19 f2 f4 x3 v5 hw _ _ _ (wn_eq w rfl) (lv_sub hl [1, 2, 3, 4, 0] rfl)
set_option maxHeartbeats 4000000 in
set_option maxRecDepth 100000 in
theorem w_Ga_copyItems_87 {S : ST} {post : (Nat → Int32) → (Nat → Int32) → (Nat → Int32) → (Nat → Int32) → Prop} (C : cx p s m args meth c prog_2_method_7_code 6 "LineBreaker$Galley" n0 G K) (hr : meth.sig.returnType = none) {K3 : (Nat → Int32) → (Nat → Int32) → (Nat → Int32) → (Nat → Int32) → Int32 → Int32 → Prop} (hk3 : ∀ (a18 : (Nat → Int32)) (a19 : (Nat → Int32)) (a22 : (Nat → Int32)) (a23 : (Nat → Int32)) (x3 : Int32) (x4 : Int32), K3 a18 a19 a22 a23 x3 x4 → ∀ (H : Heap) (locs : List Loc) (ls : Array Slot), wn n0 G (wC K ad (sA (sA (sA (sA S 18 a18) 19 a19) 22 a22) 23 a23) ++ X) s H locs → lv_has ls 6 [(0, .ref (ad 17)), (1, .ref (ad 1)), (2, .ref (ad 11)), (3, .int x3), (4, .int x4)] → W p l e rm_Ga_copyItems s m args below meth c H locs 0 0 (MQ below (va_Qv (fun (u : (Nat → Int32) × (Nat → Int32) × (Nat → Int32) × (Nat → Int32)) => post u.1 u.2.1 u.2.2.1 u.2.2.2) (fun (u : (Nat → Int32) × (Nat → Int32) × (Nat → Int32) × (Nat → Int32)) t => we n0 G (wC K ad (sA (sA (sA (sA S 18 u.1) 19 u.2.1) 22 u.2.2.1) 23 u.2.2.2) ++ X) t) (al n0)) args s 0 0 (al n0)) (F0 m 3 ls [])) : ∀ (a18 : (Nat → Int32)) (a19 : (Nat → Int32)) (a22 : (Nat → Int32)) (a23 : (Nat → Int32)) (x3 : Int32) (x4 : Int32) (z1 : Int32) (z3 : Int32), wl_Ga_copyItems_87 S post K3 a18 a19 a22 a23 x3 x4 z1 z3 → ∀ (H : Heap) (locs : List Loc) (ls : Array Slot), wn n0 G (wC K ad (sA (sA (sA (sA S 18 a18) 19 a19) 22 a22) 23 a23) ++ X) s H locs → lv_has ls 6 [(0, .ref (ad 17)), (1, .ref (ad 1)), (2, .ref (ad 11)), (3, .int x3), (4, .int x4)] → W p l e rm_Ga_copyItems s m args below meth c H locs 0 0 (MQ below (va_Qv (fun (u : (Nat → Int32) × (Nat → Int32) × (Nat → Int32) × (Nat → Int32)) => post u.1 u.2.1 u.2.2.1 u.2.2.2) (fun (u : (Nat → Int32) × (Nat → Int32) × (Nat → Int32) × (Nat → Int32)) t => we n0 G (wC K ad (sA (sA (sA (sA S 18 u.1) 19 u.2.1) 22 u.2.2.1) 23 u.2.2.2) ++ X) t) (al n0)) args s 0 0 (al n0)) (F0 m 87 ls [.int z3, .ref (ad 12), .int z1, .ref (ad 19)]) := by
  have hx := C.1
  have hb := C.2.1
  have hts := C.2.2.2.2.1
  intro a18 a19 a22 a23 x3 x4 z1 z3 hw H locs ls w hl
  unfold wl_Ga_copyItems_87 at hw
  refine ka_i (f := (S.1 12)) C w 12 rfl hw.1 d_Ga_copyItems_87 ?_
  have hw := hw.2
  obtain ⟨f1, ef1⟩ : ∃ z : Nat → Int32, z = upd a19 z1.toNatClampNeg ((S.1 12) z3.toNatClampNeg) := ⟨_, rfl⟩
  refine ks_i (f := a19) (w2 := wC K ad (sA (sA (sA (sA S 18 a18) 19 f1) 22 a22) 23 a23) ++ X) C w 19 rfl hw.1 (by rw [← ef1]; rfl) d_Ga_copyItems_88 (fun H locs w => ?_)
  have hw := hw.2 f1 ef1
  exact w_Ga_copyItems_89 C hr hk3 a18 f1 a22 a23 x3 x4 hw _ _ _ (wn_eq w rfl) (lv_sub hl [0, 1, 2, 3, 4] rfl)
set_option maxHeartbeats 4000000 in
set_option maxRecDepth 100000 in
theorem w_Ga_copyItems_65 {S : ST} {post : (Nat → Int32) → (Nat → Int32) → (Nat → Int32) → (Nat → Int32) → Prop} (C : cx p s m args meth c prog_2_method_7_code 6 "LineBreaker$Galley" n0 G K) (hr : meth.sig.returnType = none) {K3 : (Nat → Int32) → (Nat → Int32) → (Nat → Int32) → (Nat → Int32) → Int32 → Int32 → Prop} (hk3 : ∀ (a18 : (Nat → Int32)) (a19 : (Nat → Int32)) (a22 : (Nat → Int32)) (a23 : (Nat → Int32)) (x3 : Int32) (x4 : Int32), K3 a18 a19 a22 a23 x3 x4 → ∀ (H : Heap) (locs : List Loc) (ls : Array Slot), wn n0 G (wC K ad (sA (sA (sA (sA S 18 a18) 19 a19) 22 a22) 23 a23) ++ X) s H locs → lv_has ls 6 [(0, .ref (ad 17)), (1, .ref (ad 1)), (2, .ref (ad 11)), (3, .int x3), (4, .int x4)] → W p l e rm_Ga_copyItems s m args below meth c H locs 0 0 (MQ below (va_Qv (fun (u : (Nat → Int32) × (Nat → Int32) × (Nat → Int32) × (Nat → Int32)) => post u.1 u.2.1 u.2.2.1 u.2.2.2) (fun (u : (Nat → Int32) × (Nat → Int32) × (Nat → Int32) × (Nat → Int32)) t => we n0 G (wC K ad (sA (sA (sA (sA S 18 u.1) 19 u.2.1) 22 u.2.2.1) 23 u.2.2.2) ++ X) t) (al n0)) args s 0 0 (al n0)) (F0 m 3 ls [])) : ∀ (a18 : (Nat → Int32)) (a19 : (Nat → Int32)) (a22 : (Nat → Int32)) (a23 : (Nat → Int32)) (x3 : Int32) (x4 : Int32) (z0 : Int32), wl_Ga_copyItems_65 S post K3 a18 a19 a22 a23 x3 x4 z0 → ∀ (H : Heap) (locs : List Loc) (ls : Array Slot), wn n0 G (wC K ad (sA (sA (sA (sA S 18 a18) 19 a19) 22 a22) 23 a23) ++ X) s H locs → lv_has ls 6 [(0, .ref (ad 17)), (1, .ref (ad 1)), (2, .ref (ad 11)), (3, .int x3), (4, .int x4)] → W p l e rm_Ga_copyItems s m args below meth c H locs 0 0 (MQ below (va_Qv (fun (u : (Nat → Int32) × (Nat → Int32) × (Nat → Int32) × (Nat → Int32)) => post u.1 u.2.1 u.2.2.1 u.2.2.2) (fun (u : (Nat → Int32) × (Nat → Int32) × (Nat → Int32) × (Nat → Int32)) t => we n0 G (wC K ad (sA (sA (sA (sA S 18 u.1) 19 u.2.1) 22 u.2.2.1) 23 u.2.2.2) ++ X) t) (al n0)) args s 0 0 (al n0)) (F0 m 65 ls [.int z0]) := by
  have hx := C.1
  have hb := C.2.1
  have hts := C.2.2.2.2.1
  intro a18 a19 a22 a23 x3 x4 z0 hw H locs ls w hl
  unfold wl_Ga_copyItems_65 at hw
  refine lv_istore (lv' := [(5, .int z0), (0, .ref (ad 17)), (1, .ref (ad 1)), (2, .ref (ad 11)), (3, .int x3), (4, .int x4)]) hx hb d_Ga_copyItems_65 hl (by decide) rfl (fun ls hl => ?_)
  refine lv_aload_n hx hb d_Ga_copyItems_67 rfl (lv_at hl 1 rfl) ?_
  refine kg (C1 := R_Ga) (T := F_Ga) (N := 12) (ci := 0) (ref := "LineBreaker$Galley") (v := .ref (ad 19)) C w 17 1 iw_Ga rfl rfl (by decide) kw_143 rfl rfl d_Ga_copyItems_68 ?_
  refine lv_iload hx hb d_Ga_copyItems_71 (lv_at hl 5 rfl) ?_
  refine lv_aload_n hx hb d_Ga_copyItems_73 rfl (lv_at hl 3 rfl) ?_
  refine kg (C1 := R_St) (T := F_St) (N := 5) (ci := 8) (ref := "LineBreaker$Settings") (v := .ref (ad 12)) C w 11 0 iw_St rfl rfl (by decide) kw_112 rfl rfl d_Ga_copyItems_74 ?_
  refine lv_iload hx hb d_Ga_copyItems_77 (lv_at hl 0 rfl) ?_
  refine lv_if_eq (tgt := 86) hx hb d_Ga_copyItems_79 (by decide) (fun hc => ?_) (fun hc => ?_)
  · have hw := hw.1 hc
    refine lv_iconst (v := 3) hx hb d_Ga_copyItems_86 (by decide) ?_
    exact w_Ga_copyItems_87 C hr hk3 a18 a19 a22 a23 x3 x4 x4 3 hw _ _ _ (wn_eq w rfl) (lv_sub hl [1, 2, 3, 4, 5] rfl)
  · have hw := hw.2 hc
    refine lv_iconst (v := 4) hx hb d_Ga_copyItems_82 (by decide) ?_
    refine lv_goto (tgt := 87) hx hb d_Ga_copyItems_83 (by decide) ?_
    exact w_Ga_copyItems_87 C hr hk3 a18 a19 a22 a23 x3 x4 x4 4 hw _ _ _ (wn_eq w rfl) (lv_sub hl [1, 2, 3, 4, 5] rfl)
set_option maxHeartbeats 4000000 in
set_option maxRecDepth 100000 in
theorem w_Ga_copyItems_3 {S : ST} {post : (Nat → Int32) → (Nat → Int32) → (Nat → Int32) → (Nat → Int32) → Prop} (C : cx p s m args meth c prog_2_method_7_code 6 "LineBreaker$Galley" n0 G K) (hr : meth.sig.returnType = none) : ∀ (n : Nat) (a18 : (Nat → Int32)) (a19 : (Nat → Int32)) (a22 : (Nat → Int32)) (a23 : (Nat → Int32)) (x3 : Int32) (x4 : Int32), wl_Ga_copyItems_3 S post n a18 a19 a22 a23 x3 x4 → ∀ (H : Heap) (locs : List Loc) (ls : Array Slot), wn n0 G (wC K ad (sA (sA (sA (sA S 18 a18) 19 a19) 22 a22) 23 a23) ++ X) s H locs → lv_has ls 6 [(0, .ref (ad 17)), (1, .ref (ad 1)), (2, .ref (ad 11)), (3, .int x3), (4, .int x4)] → W p l e rm_Ga_copyItems s m args below meth c H locs 0 0 (MQ below (va_Qv (fun (u : (Nat → Int32) × (Nat → Int32) × (Nat → Int32) × (Nat → Int32)) => post u.1 u.2.1 u.2.2.1 u.2.2.2) (fun (u : (Nat → Int32) × (Nat → Int32) × (Nat → Int32) × (Nat → Int32)) t => we n0 G (wC K ad (sA (sA (sA (sA S 18 u.1) 19 u.2.1) 22 u.2.2.1) 23 u.2.2.2) ++ X) t) (al n0)) args s 0 0 (al n0)) (F0 m 3 ls []) := by
  have hx := C.1
  have hb := C.2.1
  have hts := C.2.2.2.2.1
  intro n
  induction n with
  | zero =>
    intro a18 a19 a22 a23 x3 x4 hw
    unfold wl_Ga_copyItems_3 at hw
    exact hw.elim
  | succ n ih =>
    intro a18 a19 a22 a23 x3 x4 hw H locs ls w hl
    unfold wl_Ga_copyItems_3 at hw
    refine lv_iload hx hb d_Ga_copyItems_3 (lv_at hl 4 rfl) ?_
    refine lv_iload_n hx hb d_Ga_copyItems_5 rfl (lv_at hl 3 rfl) ?_
    refine lv_icmp_ge (tgt := 129) hx hb d_Ga_copyItems_6 (by decide) (fun hc => ?_) (fun hc => ?_)
    · have hw := hw.1 hc
      exact ke_v (post := (fun (u : (Nat → Int32) × (Nat → Int32) × (Nat → Int32) × (Nat → Int32)) => post u.1 u.2.1 u.2.2.1 u.2.2.2)) (st := (fun (u : (Nat → Int32) × (Nat → Int32) × (Nat → Int32) × (Nat → Int32)) => wC K ad (sA (sA (sA (sA S 18 u.1) 19 u.2.1) 22 u.2.2.1) 23 u.2.2.2) ++ X)) (u := (a18, a19, a22, a23)) C hr d_Ga_copyItems_129 (wn_eq w rfl) hw
    · have hw := hw.2 hc
      refine lv_aload_n hx hb d_Ga_copyItems_9 rfl (lv_at hl 0 rfl) ?_
      refine kg (C1 := R_Ga) (T := F_Ga) (N := 12) (ci := 0) (ref := "LineBreaker$Galley") (v := .ref (ad 18)) C w 17 0 iw_Ga rfl rfl (by decide) kw_142 rfl rfl d_Ga_copyItems_10 ?_
      refine lv_iload hx hb d_Ga_copyItems_13 (lv_at hl 4 rfl) ?_
      refine lv_aload_n hx hb d_Ga_copyItems_15 rfl (lv_at hl 1 rfl) ?_
      refine kg (C1 := R_Pa) (T := F_Pa) (N := 10) (ci := 6) (ref := "LineBreaker$Paragraph") (v := .ref (ad 2)) C w 1 0 iw_Pa rfl rfl (by decide) kw_36 rfl rfl d_Ga_copyItems_16 ?_
      refine lv_iload hx hb d_Ga_copyItems_19 (lv_at hl 4 rfl) ?_
      refine ka_i (f := (S.1 2)) C w 2 rfl hw.1 d_Ga_copyItems_21 ?_
      have hw := hw.2
      obtain ⟨f1, ef1⟩ : ∃ z : Nat → Int32, z = upd a18 x4.toNatClampNeg ((S.1 2) x4.toNatClampNeg) := ⟨_, rfl⟩
      refine ks_i (f := a18) (w2 := wC K ad (sA (sA (sA (sA S 18 f1) 19 a19) 22 a22) 23 a23) ++ X) C w 18 rfl hw.1 (by rw [← ef1]; rfl) d_Ga_copyItems_22 (fun H locs w => ?_)
      have hw := hw.2 f1 ef1
      refine lv_aload_n hx hb d_Ga_copyItems_23 rfl (lv_at hl 0 rfl) ?_
      refine kg (C1 := R_Ga) (T := F_Ga) (N := 12) (ci := 0) (ref := "LineBreaker$Galley") (v := .ref (ad 19)) C w 17 1 iw_Ga rfl rfl (by decide) kw_143 rfl rfl d_Ga_copyItems_24 ?_
      refine lv_iload hx hb d_Ga_copyItems_27 (lv_at hl 4 rfl) ?_
      refine lv_aload_n hx hb d_Ga_copyItems_29 rfl (lv_at hl 1 rfl) ?_
      refine kg (C1 := R_Pa) (T := F_Pa) (N := 10) (ci := 6) (ref := "LineBreaker$Paragraph") (v := .ref (ad 7)) C w 1 5 iw_Pa rfl rfl (by decide) kw_46 rfl rfl d_Ga_copyItems_30 ?_
      refine lv_iload hx hb d_Ga_copyItems_33 (lv_at hl 4 rfl) ?_
      refine ka_i (f := (S.1 7)) C w 7 rfl hw.1 d_Ga_copyItems_35 ?_
      have hw := hw.2
      obtain ⟨f2, ef2⟩ : ∃ z : Nat → Int32, z = upd a19 x4.toNatClampNeg ((S.1 7) x4.toNatClampNeg) := ⟨_, rfl⟩
      refine ks_i (f := a19) (w2 := wC K ad (sA (sA (sA (sA S 18 f1) 19 f2) 22 a22) 23 a23) ++ X) C w 19 rfl hw.1 (by rw [← ef2]; rfl) d_Ga_copyItems_36 (fun H locs w => ?_)
      have hw := hw.2 f2 ef2
      refine lv_aload_n hx hb d_Ga_copyItems_37 rfl (lv_at hl 0 rfl) ?_
      refine kg (C1 := R_Ga) (T := F_Ga) (N := 12) (ci := 0) (ref := "LineBreaker$Galley") (v := .ref (ad 18)) C w 17 0 iw_Ga rfl rfl (by decide) kw_142 rfl rfl d_Ga_copyItems_38 ?_
      refine lv_iload hx hb d_Ga_copyItems_41 (lv_at hl 4 rfl) ?_
      refine ka_i (f := f1) C w 18 rfl hw.1 d_Ga_copyItems_43 ?_
      have hw := hw.2
      refine lv_iconst (v := 5) hx hb d_Ga_copyItems_44 (by decide) ?_
      refine lv_icmp_ne (tgt := 89) hx hb d_Ga_copyItems_45 (by decide) (fun hc => ?_) (fun hc => ?_)
      · have hw := hw.1 hc
        exact w_Ga_copyItems_89 C hr ih f1 f2 a22 a23 x3 x4 hw _ _ _ (wn_eq w rfl) (lv_sub hl [0, 1, 2, 3, 4] rfl)
      · have hw := hw.2 hc
        refine lv_aload_n hx hb d_Ga_copyItems_48 rfl (lv_at hl 1 rfl) ?_
        refine kg (C1 := R_Pa) (T := F_Pa) (N := 10) (ci := 6) (ref := "LineBreaker$Paragraph") (v := .ref (ad 8)) C w 1 6 iw_Pa rfl rfl (by decide) kw_48 rfl rfl d_Ga_copyItems_49 ?_
        refine lv_iload hx hb d_Ga_copyItems_52 (lv_at hl 4 rfl) ?_
        refine ka_i (f := (S.1 8)) C w 8 rfl hw.1 d_Ga_copyItems_54 ?_
        have hw := hw.2
        refine lv_ldc (v := (-1073741824)) hx hb C.2.2.2.1 (hts _ kw_677) d_Ga_copyItems_55 ?_
        refine lv_icmp_ne (tgt := 64) hx hb d_Ga_copyItems_57 (by decide) (fun hc => ?_) (fun hc => ?_)
        · have hw := hw.1 hc
          refine lv_iconst (v := 0) hx hb d_Ga_copyItems_64 (by decide) ?_
          exact w_Ga_copyItems_65 C hr ih f1 f2 a22 a23 x3 x4 0 hw _ _ _ (wn_eq w rfl) (lv_sub hl [0, 1, 2, 3, 4] rfl)
        · have hw := hw.2 hc
          refine lv_iconst (v := 1) hx hb d_Ga_copyItems_60 (by decide) ?_
          refine lv_goto (tgt := 65) hx hb d_Ga_copyItems_61 (by decide) ?_
          exact w_Ga_copyItems_65 C hr ih f1 f2 a22 a23 x3 x4 1 hw _ _ _ (wn_eq w rfl) (lv_sub hl [0, 1, 2, 3, 4] rfl)
set_option maxHeartbeats 4000000 in
set_option maxRecDepth 100000 in
theorem c_Ga_copyItems (l : Launch) (n0 : Nat) (G : va_G) (K : KT) (ad : Nat → Nat) (X : va_W) (S : ST) (p3 : Int32) (post : (Nat → Int32) → (Nat → Int32) → (Nat → Int32) → (Nat → Int32) → Prop) (hw : wp_Ga_copyItems S p3 post) : Met l y_Ga_copyItems (Cond.code y_Ga_copyItems prog_2_method_7_code 6 none :: gw) rm_Ga_copyItems (va_Pc [.ref (ad 17), .ref (ad 1), .ref (ad 11), .int p3] (wb n0 G K (wC K ad S ++ X))) (va_Qv (fun (u : (Nat → Int32) × (Nat → Int32) × (Nat → Int32) × (Nat → Int32)) => post u.1 u.2.1 u.2.2.1 u.2.2.2) (fun (u : (Nat → Int32) × (Nat → Int32) × (Nat → Int32) × (Nat → Int32)) t => we n0 G (wC K ad (sA (sA (sA (sA S 18 u.1) 19 u.2.1) 22 u.2.2.1) 23 u.2.2.2) ++ X) t) (al n0)) 0 0 (al n0) := by
  refine kb_start (own := "LineBreaker$Galley") (by decide +kernel) rfl ?_
  intro p e s m below meth c C hr hne w
  have hx := C.1
  have hb := C.2.1
  have hts := C.2.2.2.2.1
  have hl := lv_entry ([.ref (ad 17), .ref (ad 1), .ref (ad 11), .int p3]) (n := 6) (Nat.le_of_ble_eq_true rfl)
  rw [lg_entry_eq]
  generalize (lg_sl ([.ref (ad 17), .ref (ad 1), .ref (ad 11), .int p3]) ++ List.replicate (6 - (lg_sl ([.ref (ad 17), .ref (ad 1), .ref (ad 11), .int p3])).length) Slot.unset).toArray = ls at hl ⊢
  have hl : lv_has ls 6 [(0, .ref (ad 17)), (1, .ref (ad 1)), (2, .ref (ad 11)), (3, .int p3)] := hl
  unfold wp_Ga_copyItems at hw
  refine lv_iconst (v := 0) hx hb d_Ga_copyItems_0 (by decide) ?_
  refine lv_istore (lv' := [(4, .int 0), (0, .ref (ad 17)), (1, .ref (ad 1)), (2, .ref (ad 11)), (3, .int p3)]) hx hb d_Ga_copyItems_1 hl (by decide) rfl (fun ls hl => ?_)
  obtain ⟨n9, hw⟩ := hw
  exact w_Ga_copyItems_3 C hr  n9 (S.1 18) (S.1 19) (S.1 22) (S.1 23) p3 0 hw _ _ _ (wn_eq w rfl) (lv_sub hl [1, 2, 3, 4, 0] rfl)
set_option maxHeartbeats 4000000 in
set_option maxRecDepth 100000 in
theorem w_Ga_close_58 {S : ST} {post : (Nat → Int32) → (Nat → Int32) → (Nat → Int32) → (Nat → Int32) → Prop} (C : cx p s m args meth c prog_2_method_8_code 3 "LineBreaker$Galley" n0 G K) (hr : meth.sig.returnType = none) : ∀ (n : Nat) (a18 : (Nat → Int32)) (a19 : (Nat → Int32)) (a22 : (Nat → Int32)) (a23 : (Nat → Int32)) (x2 : Int32), wl_Ga_close_58 S post n a18 a19 a22 a23 x2 → ∀ (H : Heap) (locs : List Loc) (ls : Array Slot), wn n0 G (wC K ad (sA (sA (sA (sA S 18 a18) 19 a19) 22 a22) 23 a23) ++ X) s H locs → lv_has ls 3 [(0, .ref (ad 17)), (2, .int x2)] → W p l e rm_Ga_close s m args below meth c H locs 0 0 (MQ below (va_Qv (fun (u : (Nat → Int32) × (Nat → Int32) × (Nat → Int32) × (Nat → Int32)) => post u.1 u.2.1 u.2.2.1 u.2.2.2) (fun (u : (Nat → Int32) × (Nat → Int32) × (Nat → Int32) × (Nat → Int32)) t => we n0 G (wC K ad (sA (sA (sA (sA S 18 u.1) 19 u.2.1) 22 u.2.2.1) 23 u.2.2.2) ++ X) t) (al n0)) args s 0 0 (al n0)) (F0 m 58 ls []) := by
  have hx := C.1
  have hb := C.2.1
  have hts := C.2.2.2.2.1
  intro n
  induction n with
  | zero =>
    intro a18 a19 a22 a23 x2 hw
    unfold wl_Ga_close_58 at hw
    exact hw.elim
  | succ n ih =>
    intro a18 a19 a22 a23 x2 hw H locs ls w hl
    unfold wl_Ga_close_58 at hw
    refine lv_iload_n hx hb d_Ga_close_58 rfl (lv_at hl 1 rfl) ?_
    refine lv_aload_n hx hb d_Ga_close_59 rfl (lv_at hl 0 rfl) ?_
    refine kg (C1 := R_Ga) (T := F_Ga) (N := 12) (ci := 0) (ref := "LineBreaker$Galley") (v := .int (S.2.2 1099)) C w 17 11 iw_Ga rfl rfl (by decide) kw_159 rfl rfl d_Ga_close_60 ?_
    refine lv_icmp_gt (tgt := 86) hx hb d_Ga_close_63 (by decide) (fun hc => ?_) (fun hc => ?_)
    · have hw := hw.1 hc
      exact ke_v (post := (fun (u : (Nat → Int32) × (Nat → Int32) × (Nat → Int32) × (Nat → Int32)) => post u.1 u.2.1 u.2.2.1 u.2.2.2)) (st := (fun (u : (Nat → Int32) × (Nat → Int32) × (Nat → Int32) × (Nat → Int32)) => wC K ad (sA (sA (sA (sA S 18 u.1) 19 u.2.1) 22 u.2.2.1) 23 u.2.2.2) ++ X)) (u := (a18, a19, a22, a23)) C hr d_Ga_close_86 (wn_eq w rfl) hw
    · have hw := hw.2 hc
      refine lv_aload_n hx hb d_Ga_close_66 rfl (lv_at hl 0 rfl) ?_
      refine kg (C1 := R_Ga) (T := F_Ga) (N := 12) (ci := 0) (ref := "LineBreaker$Galley") (v := .ref (ad 22)) C w 17 4 iw_Ga rfl rfl (by decide) kw_147 rfl rfl d_Ga_close_67 ?_
      refine lv_iload_n hx hb d_Ga_close_70 rfl (lv_at hl 1 rfl) ?_
      refine lv_iconst (v := 0) hx hb d_Ga_close_71 (by decide) ?_
      obtain ⟨f1, ef1⟩ : ∃ z : Nat → Int32, z = upd a22 x2.toNatClampNeg 0 := ⟨_, rfl⟩
      refine ks_i (f := a22) (w2 := wC K ad (sA (sA (sA (sA S 18 a18) 19 a19) 22 f1) 23 a23) ++ X) C w 22 rfl hw.1 (by rw [← ef1]; rfl) d_Ga_close_72 (fun H locs w => ?_)
      have hw := hw.2 f1 ef1
      refine lv_aload_n hx hb d_Ga_close_73 rfl (lv_at hl 0 rfl) ?_
      refine kg (C1 := R_Ga) (T := F_Ga) (N := 12) (ci := 0) (ref := "LineBreaker$Galley") (v := .ref (ad 23)) C w 17 5 iw_Ga rfl rfl (by decide) kw_149 rfl rfl d_Ga_close_74 ?_
      refine lv_iload_n hx hb d_Ga_close_77 rfl (lv_at hl 1 rfl) ?_
      refine lv_iconst (v := 0) hx hb d_Ga_close_78 (by decide) ?_
      obtain ⟨f2, ef2⟩ : ∃ z : Nat → Int32, z = upd a23 x2.toNatClampNeg 0 := ⟨_, rfl⟩
      refine ks_i (f := a23) (w2 := wC K ad (sA (sA (sA (sA S 18 a18) 19 a19) 22 f1) 23 f2) ++ X) C w 23 rfl hw.1 (by rw [← ef2]; rfl) d_Ga_close_79 (fun H locs w => ?_)
      have hw := hw.2 f2 ef2
      obtain ⟨v3, ev3⟩ : ∃ y : Int32, y = x2 + 1 := ⟨_, rfl⟩
      refine lv_iinc (v := v3) (lv' := [(2, .int v3), (0, .ref (ad 17))]) hx hb d_Ga_close_80 hl (k := 1) rfl (by rw [ev3]; rfl) (by decide) rfl (fun ls hl => ?_)
      have hw := hw v3 ev3
      refine lv_goto (tgt := 58) hx hb d_Ga_close_83 (by decide) ?_
      exact ih a18 a19 f1 f2 v3 hw _ _ _ (wn_eq w rfl) (lv_sub hl [1, 0] rfl)
set_option maxHeartbeats 4000000 in
set_option maxRecDepth 100000 in
theorem c_Ga_close (l : Launch) (n0 : Nat) (G : va_G) (K : KT) (ad : Nat → Nat) (X : va_W) (S : ST) (p1 : Int32) (post : (Nat → Int32) → (Nat → Int32) → (Nat → Int32) → (Nat → Int32) → Prop) (hw : wp_Ga_close S p1 post) : Met l y_Ga_close (Cond.code y_Ga_close prog_2_method_8_code 3 none :: gw) rm_Ga_close (va_Pc [.ref (ad 17), .int p1] (wb n0 G K (wC K ad S ++ X))) (va_Qv (fun (u : (Nat → Int32) × (Nat → Int32) × (Nat → Int32) × (Nat → Int32)) => post u.1 u.2.1 u.2.2.1 u.2.2.2) (fun (u : (Nat → Int32) × (Nat → Int32) × (Nat → Int32) × (Nat → Int32)) t => we n0 G (wC K ad (sA (sA (sA (sA S 18 u.1) 19 u.2.1) 22 u.2.2.1) 23 u.2.2.2) ++ X) t) (al n0)) 0 0 (al n0) := by
  refine kb_start (own := "LineBreaker$Galley") (by decide +kernel) rfl ?_
  intro p e s m below meth c C hr hne w
  have hx := C.1
  have hb := C.2.1
  have hts := C.2.2.2.2.1
  have hl := lv_entry ([.ref (ad 17), .int p1]) (n := 3) (Nat.le_of_ble_eq_true rfl)
  rw [lg_entry_eq]
  generalize (lg_sl ([.ref (ad 17), .int p1]) ++ List.replicate (3 - (lg_sl ([.ref (ad 17), .int p1])).length) Slot.unset).toArray = ls at hl ⊢
  have hl : lv_has ls 3 [(0, .ref (ad 17)), (1, .int p1)] := hl
  unfold wp_Ga_close at hw
  refine lv_aload_n hx hb d_Ga_close_0 rfl (lv_at hl 0 rfl) ?_
  refine kg (C1 := R_Ga) (T := F_Ga) (N := 12) (ci := 0) (ref := "LineBreaker$Galley") (v := .ref (ad 18)) C w 17 0 iw_Ga rfl rfl (by decide) kw_142 rfl rfl d_Ga_close_1 ?_
  refine lv_iload_n hx hb d_Ga_close_4 rfl (lv_at hl 1 rfl) ?_
  refine lv_iconst (v := 4) hx hb d_Ga_close_5 (by decide) ?_
  obtain ⟨f1, ef1⟩ : ∃ z : Nat → Int32, z = upd (S.1 18) p1.toNatClampNeg 4 := ⟨_, rfl⟩
  refine ks_i (f := (S.1 18)) (w2 := wC K ad (sA S 18 f1) ++ X) C w 18 rfl hw.1 (by rw [← ef1]; rfl) d_Ga_close_6 (fun H locs w => ?_)
  have hw := hw.2 f1 ef1
  refine lv_aload_n hx hb d_Ga_close_7 rfl (lv_at hl 0 rfl) ?_
  refine kg (C1 := R_Ga) (T := F_Ga) (N := 12) (ci := 0) (ref := "LineBreaker$Galley") (v := .ref (ad 19)) C w 17 1 iw_Ga rfl rfl (by decide) kw_143 rfl rfl d_Ga_close_8 ?_
  refine lv_iload_n hx hb d_Ga_close_11 rfl (lv_at hl 1 rfl) ?_
  refine lv_sipush (v := 10000) hx hb d_Ga_close_12 (by decide) ?_
  obtain ⟨f2, ef2⟩ : ∃ z : Nat → Int32, z = upd (S.1 19) p1.toNatClampNeg 10000 := ⟨_, rfl⟩
  refine ks_i (f := (S.1 19)) (w2 := wC K ad (sA (sA S 18 f1) 19 f2) ++ X) C w 19 rfl hw.1 (by rw [← ef2]; rfl) d_Ga_close_15 (fun H locs w => ?_)
  have hw := hw.2 f2 ef2
  refine lv_aload_n hx hb d_Ga_close_16 rfl (lv_at hl 0 rfl) ?_
  refine kg (C1 := R_Ga) (T := F_Ga) (N := 12) (ci := 0) (ref := "LineBreaker$Galley") (v := .ref (ad 18)) C w 17 0 iw_Ga rfl rfl (by decide) kw_142 rfl rfl d_Ga_close_17 ?_
  refine lv_iload_n hx hb d_Ga_close_20 rfl (lv_at hl 1 rfl) ?_
  refine lv_iconst (v := 1) hx hb d_Ga_close_21 (by decide) ?_
  refine lv_iadd hx hb d_Ga_close_22 ?_
  refine lv_iconst (v := 1) hx hb d_Ga_close_23 (by decide) ?_
  obtain ⟨f3, ef3⟩ : ∃ z : Nat → Int32, z = upd f1 ((p1 + 1).toNatClampNeg) 1 := ⟨_, rfl⟩
  refine ks_i (f := f1) (w2 := wC K ad (sA (sA S 18 f3) 19 f2) ++ X) C w 18 rfl hw.1 (by rw [← ef3]; rfl) d_Ga_close_24 (fun H locs w => ?_)
  have hw := hw.2 f3 ef3
  refine lv_aload_n hx hb d_Ga_close_25 rfl (lv_at hl 0 rfl) ?_
  refine kg (C1 := R_Ga) (T := F_Ga) (N := 12) (ci := 0) (ref := "LineBreaker$Galley") (v := .ref (ad 19)) C w 17 1 iw_Ga rfl rfl (by decide) kw_143 rfl rfl d_Ga_close_26 ?_
  refine lv_iload_n hx hb d_Ga_close_29 rfl (lv_at hl 1 rfl) ?_
  refine lv_iconst (v := 1) hx hb d_Ga_close_30 (by decide) ?_
  refine lv_iadd hx hb d_Ga_close_31 ?_
  refine lv_iconst (v := 0) hx hb d_Ga_close_32 (by decide) ?_
  obtain ⟨f4, ef4⟩ : ∃ z : Nat → Int32, z = upd f2 ((p1 + 1).toNatClampNeg) 0 := ⟨_, rfl⟩
  refine ks_i (f := f2) (w2 := wC K ad (sA (sA S 18 f3) 19 f4) ++ X) C w 19 rfl hw.1 (by rw [← ef4]; rfl) d_Ga_close_33 (fun H locs w => ?_)
  have hw := hw.2 f4 ef4
  refine lv_aload_n hx hb d_Ga_close_34 rfl (lv_at hl 0 rfl) ?_
  refine kg (C1 := R_Ga) (T := F_Ga) (N := 12) (ci := 0) (ref := "LineBreaker$Galley") (v := .ref (ad 18)) C w 17 0 iw_Ga rfl rfl (by decide) kw_142 rfl rfl d_Ga_close_35 ?_
  refine lv_aload_n hx hb d_Ga_close_38 rfl (lv_at hl 0 rfl) ?_
  refine kg (C1 := R_Ga) (T := F_Ga) (N := 12) (ci := 0) (ref := "LineBreaker$Galley") (v := .int (S.2.2 1099)) C w 17 11 iw_Ga rfl rfl (by decide) kw_159 rfl rfl d_Ga_close_39 ?_
  refine lv_iconst (v := 4) hx hb d_Ga_close_42 (by decide) ?_
  obtain ⟨f5, ef5⟩ : ∃ z : Nat → Int32, z = upd f3 ((S.2.2 1099).toNatClampNeg) 4 := ⟨_, rfl⟩
  refine ks_i (f := f3) (w2 := wC K ad (sA (sA S 18 f5) 19 f4) ++ X) C w 18 rfl hw.1 (by rw [← ef5]; rfl) d_Ga_close_43 (fun H locs w => ?_)
  have hw := hw.2 f5 ef5
  refine lv_aload_n hx hb d_Ga_close_44 rfl (lv_at hl 0 rfl) ?_
  refine kg (C1 := R_Ga) (T := F_Ga) (N := 12) (ci := 0) (ref := "LineBreaker$Galley") (v := .ref (ad 19)) C w 17 1 iw_Ga rfl rfl (by decide) kw_143 rfl rfl d_Ga_close_45 ?_
  refine lv_aload_n hx hb d_Ga_close_48 rfl (lv_at hl 0 rfl) ?_
  refine kg (C1 := R_Ga) (T := F_Ga) (N := 12) (ci := 0) (ref := "LineBreaker$Galley") (v := .int (S.2.2 1099)) C w 17 11 iw_Ga rfl rfl (by decide) kw_159 rfl rfl d_Ga_close_49 ?_
  refine lv_sipush (v := (-10000)) hx hb d_Ga_close_52 (by decide) ?_
  obtain ⟨f6, ef6⟩ : ∃ z : Nat → Int32, z = upd f4 ((S.2.2 1099).toNatClampNeg) (-10000) := ⟨_, rfl⟩
  refine ks_i (f := f4) (w2 := wC K ad (sA (sA S 18 f5) 19 f6) ++ X) C w 19 rfl hw.1 (by rw [← ef6]; rfl) d_Ga_close_55 (fun H locs w => ?_)
  have hw := hw.2 f6 ef6
  refine lv_iload_n hx hb d_Ga_close_56 rfl (lv_at hl 1 rfl) ?_
  refine lv_istore_n (lv' := [(2, .int p1), (0, .ref (ad 17)), (1, .int p1)]) hx hb d_Ga_close_57 rfl hl (by decide) rfl (fun ls hl => ?_)
  obtain ⟨n9, hw⟩ := hw
  exact w_Ga_close_58 C hr  n9 f5 f6 (S.1 22) (S.1 23) p1 hw _ _ _ (wn_eq w rfl) (lv_sub hl [1, 0] rfl)
set_option maxHeartbeats 4000000 in
set_option maxRecDepth 100000 in
theorem c_Gl_finiteStretch_16 (l : Launch) (n0 : Nat) (G : va_G) (K : KT) (ad : Nat → Nat) (X : va_W) (S : ST) (post : Int32 → Prop) (hw : wp_Gl_finiteStretch_16 S  post) : Met l y_Gl_finiteStretch (Cond.code y_Gl_finiteStretch prog_4_method_3_code 1 (some .int) :: gw) rm_Gl_finiteStretch_16 (va_Pc [.ref (ad 16)] (wb n0 G K (wC K ad S ++ X))) (rq_i post) 0 0 (fun _ => False) := by
  refine kb_start (own := "LineBreaker$Glue") (by decide +kernel) rfl ?_
  intro p e s m below meth c C hr hne w
  have hx := C.1
  have hb := C.2.1
  have hts := C.2.2.2.2.1
  have hl := lv_entry ([.ref (ad 16)]) (n := 1) (Nat.le_of_ble_eq_true rfl)
  rw [lg_entry_eq]
  generalize (lg_sl ([.ref (ad 16)]) ++ List.replicate (1 - (lg_sl ([.ref (ad 16)])).length) Slot.unset).toArray = ls at hl ⊢
  have hl : lv_has ls 1 [(0, .ref (ad 16))] := hl
  unfold wp_Gl_finiteStretch_16 at hw
  refine lv_aload_n hx hb d_Gl_finiteStretch_0 rfl (lv_at hl 0 rfl) ?_
  refine kg (C1 := R_Gl) (T := F_Gl) (N := 4) (ci := 2) (ref := "LineBreaker$Glue") (v := .int (S.2.2 1026)) C w 16 2 iw_Gl rfl rfl (by decide) kw_95 rfl rfl d_Gl_finiteStretch_1 ?_
  refine lv_if_ne (tgt := 14) hx hb d_Gl_finiteStretch_4 (by decide) (fun hc => ?_) (fun hc => ?_)
  · have hw := hw.1 hc
    refine lv_iconst (v := 0) hx hb d_Gl_finiteStretch_14 (by decide) ?_
    exact kf_i C hr d_Gl_finiteStretch_15 hw
  · have hw := hw.2 hc
    refine lv_aload_n hx hb d_Gl_finiteStretch_7 rfl (lv_at hl 0 rfl) ?_
    refine kg (C1 := R_Gl) (T := F_Gl) (N := 4) (ci := 2) (ref := "LineBreaker$Glue") (v := .int (S.2.2 1025)) C w 16 1 iw_Gl rfl rfl (by decide) kw_93 rfl rfl d_Gl_finiteStretch_8 ?_
    refine lv_goto (tgt := 15) hx hb d_Gl_finiteStretch_11 (by decide) ?_
    exact kf_i C hr d_Gl_finiteStretch_15 hw
set_option maxHeartbeats 4000000 in
set_option maxRecDepth 100000 in
theorem c_Gl_endlessStretch_16 (l : Launch) (n0 : Nat) (G : va_G) (K : KT) (ad : Nat → Nat) (X : va_W) (S : ST) (post : Int32 → Prop) (hw : wp_Gl_endlessStretch_16 S  post) : Met l y_Gl_endlessStretch (Cond.code y_Gl_endlessStretch prog_4_method_4_code 1 (some .int) :: gw) rm_Gl_endlessStretch_16 (va_Pc [.ref (ad 16)] (wb n0 G K (wC K ad S ++ X))) (rq_i post) 0 0 (fun _ => False) := by
  refine kb_start (own := "LineBreaker$Glue") (by decide +kernel) rfl ?_
  intro p e s m below meth c C hr hne w
  have hx := C.1
  have hb := C.2.1
  have hts := C.2.2.2.2.1
  have hl := lv_entry ([.ref (ad 16)]) (n := 1) (Nat.le_of_ble_eq_true rfl)
  rw [lg_entry_eq]
  generalize (lg_sl ([.ref (ad 16)]) ++ List.replicate (1 - (lg_sl ([.ref (ad 16)])).length) Slot.unset).toArray = ls at hl ⊢
  have hl : lv_has ls 1 [(0, .ref (ad 16))] := hl
  unfold wp_Gl_endlessStretch_16 at hw
  refine lv_aload_n hx hb d_Gl_endlessStretch_0 rfl (lv_at hl 0 rfl) ?_
  refine kg (C1 := R_Gl) (T := F_Gl) (N := 4) (ci := 2) (ref := "LineBreaker$Glue") (v := .int (S.2.2 1026)) C w 16 2 iw_Gl rfl rfl (by decide) kw_95 rfl rfl d_Gl_endlessStretch_1 ?_
  refine lv_if_ne (tgt := 11) hx hb d_Gl_endlessStretch_4 (by decide) (fun hc => ?_) (fun hc => ?_)
  · have hw := hw.1 hc
    refine lv_aload_n hx hb d_Gl_endlessStretch_11 rfl (lv_at hl 0 rfl) ?_
    refine kg (C1 := R_Gl) (T := F_Gl) (N := 4) (ci := 2) (ref := "LineBreaker$Glue") (v := .int (S.2.2 1025)) C w 16 1 iw_Gl rfl rfl (by decide) kw_93 rfl rfl d_Gl_endlessStretch_12 ?_
    exact kf_i C hr d_Gl_endlessStretch_15 hw
  · have hw := hw.2 hc
    refine lv_iconst (v := 0) hx hb d_Gl_endlessStretch_7 (by decide) ?_
    refine lv_goto (tgt := 15) hx hb d_Gl_endlessStretch_8 (by decide) ?_
    exact kf_i C hr d_Gl_endlessStretch_15 hw
set_option maxHeartbeats 4000000 in
set_option maxRecDepth 100000 in
theorem w_Ga_sumUp_113 {S : ST} {post : (Nat → Int32) → (Nat → Int32) → (Nat → Int32) → (Nat → Int32) → Prop} (C : cx p s m args meth c prog_2_method_9_code 7 "LineBreaker$Galley" n0 G K) (hr : meth.sig.returnType = none) {K3 : (Nat → Int32) → (Nat → Int32) → (Nat → Int32) → (Nat → Int32) → Int32 → Int32 → Prop} (hk3 : ∀ (a24 : (Nat → Int32)) (a25 : (Nat → Int32)) (a26 : (Nat → Int32)) (a27 : (Nat → Int32)) (x3 : Int32) (x4 : Int32), K3 a24 a25 a26 a27 x3 x4 → ∀ (H : Heap) (locs : List Loc) (ls : Array Slot), wn n0 G (wC K ad (sA (sA (sA (sA S 24 a24) 25 a25) 26 a26) 27 a27) ++ X) s H locs → lv_has ls 7 [(0, .ref (ad 17)), (1, .ref (ad 1)), (2, .ref (ad 16)), (3, .int x3), (4, .int x4)] → W p l e rm_Ga_sumUp s m args below meth c H locs 0 0 (MQ below (va_Qv (fun (u : (Nat → Int32) × (Nat → Int32) × (Nat → Int32) × (Nat → Int32)) => post u.1 u.2.1 u.2.2.1 u.2.2.2) (fun (u : (Nat → Int32) × (Nat → Int32) × (Nat → Int32) × (Nat → Int32)) t => we n0 G (wC K ad (sA (sA (sA (sA S 24 u.1) 25 u.2.1) 26 u.2.2.1) 27 u.2.2.2) ++ X) t) (al n0)) args s 0 0 (al n0)) (F0 m 3 ls [])) : ∀ (a24 : (Nat → Int32)) (a25 : (Nat → Int32)) (a26 : (Nat → Int32)) (a27 : (Nat → Int32)) (x3 : Int32) (x4 : Int32) (z1 : Int32) (z2 : Int32) (z3 : Int32), wl_Ga_sumUp_113 S post K3 a24 a25 a26 a27 x3 x4 z1 z2 z3 → ∀ (H : Heap) (locs : List Loc) (ls : Array Slot), wn n0 G (wC K ad (sA (sA (sA (sA S 24 a24) 25 a25) 26 a26) 27 a27) ++ X) s H locs → lv_has ls 7 [(0, .ref (ad 17)), (1, .ref (ad 1)), (2, .ref (ad 16)), (3, .int x3), (4, .int x4)] → W p l e rm_Ga_sumUp s m args below meth c H locs 0 0 (MQ below (va_Qv (fun (u : (Nat → Int32) × (Nat → Int32) × (Nat → Int32) × (Nat → Int32)) => post u.1 u.2.1 u.2.2.1 u.2.2.2) (fun (u : (Nat → Int32) × (Nat → Int32) × (Nat → Int32) × (Nat → Int32)) t => we n0 G (wC K ad (sA (sA (sA (sA S 24 u.1) 25 u.2.1) 26 u.2.2.1) 27 u.2.2.2) ++ X) t) (al n0)) args s 0 0 (al n0)) (F0 m 113 ls [.int z3, .int z2, .int z1, .ref (ad 26)]) := by
  have hx := C.1
  have hb := C.2.1
  have hts := C.2.2.2.2.1
  intro a24 a25 a26 a27 x3 x4 z1 z2 z3 hw H locs ls w hl
  unfold wl_Ga_sumUp_113 at hw
  refine lv_iadd hx hb d_Ga_sumUp_113 ?_
  obtain ⟨f1, ef1⟩ : ∃ z : Nat → Int32, z = upd a26 z1.toNatClampNeg (z2 + z3) := ⟨_, rfl⟩
  refine ks_i (f := a26) (w2 := wC K ad (sA (sA (sA (sA S 24 a24) 25 a25) 26 f1) 27 a27) ++ X) C w 26 rfl hw.1 (by rw [← ef1]; rfl) d_Ga_sumUp_114 (fun H locs w => ?_)
  have hw := hw.2 f1 ef1
  refine lv_aload_n hx hb d_Ga_sumUp_115 rfl (lv_at hl 0 rfl) ?_
  refine kg (C1 := R_Ga) (T := F_Ga) (N := 12) (ci := 0) (ref := "LineBreaker$Galley") (v := .ref (ad 27)) C w 17 9 iw_Ga rfl rfl (by decide) kw_156 rfl rfl d_Ga_sumUp_116 ?_
  refine lv_iload hx hb d_Ga_sumUp_119 (lv_at hl 4 rfl) ?_
  refine lv_iconst (v := 1) hx hb d_Ga_sumUp_121 (by decide) ?_
  refine lv_iadd hx hb d_Ga_sumUp_122 ?_
  refine lv_aload_n hx hb d_Ga_sumUp_123 rfl (lv_at hl 0 rfl) ?_
  refine kg (C1 := R_Ga) (T := F_Ga) (N := 12) (ci := 0) (ref := "LineBreaker$Galley") (v := .ref (ad 27)) C w 17 9 iw_Ga rfl rfl (by decide) kw_156 rfl rfl d_Ga_sumUp_124 ?_
  refine lv_iload hx hb d_Ga_sumUp_127 (lv_at hl 4 rfl) ?_
  refine ka_i (f := a27) C w 27 rfl hw.1 d_Ga_sumUp_129 ?_
  have hw := hw.2
  refine lv_aload_n hx hb d_Ga_sumUp_130 rfl (lv_at hl 1 rfl) ?_
  refine kg (C1 := R_Pa) (T := F_Pa) (N := 10) (ci := 6) (ref := "LineBreaker$Paragraph") (v := .ref (ad 6)) C w 1 4 iw_Pa rfl rfl (by decide) kw_44 rfl rfl d_Ga_sumUp_131 ?_
  refine lv_iload hx hb d_Ga_sumUp_134 (lv_at hl 4 rfl) ?_
  refine ka_i (f := (S.1 6)) C w 6 rfl hw.1 d_Ga_sumUp_136 ?_
  have hw := hw.2
  refine lv_iadd hx hb d_Ga_sumUp_137 ?_
  obtain ⟨f2, ef2⟩ : ∃ z : Nat → Int32, z = upd a27 ((x4 + 1).toNatClampNeg) ((a27 x4.toNatClampNeg) + ((S.1 6) x4.toNatClampNeg)) := ⟨_, rfl⟩
  refine ks_i (f := a27) (w2 := wC K ad (sA (sA (sA (sA S 24 a24) 25 a25) 26 f1) 27 f2) ++ X) C w 27 rfl hw.1 (by rw [← ef2]; rfl) d_Ga_sumUp_138 (fun H locs w => ?_)
  have hw := hw.2 f2 ef2
  obtain ⟨v3, ev3⟩ : ∃ y : Int32, y = x4 + 1 := ⟨_, rfl⟩
  refine lv_iinc (v := v3) (lv' := [(4, .int v3), (0, .ref (ad 17)), (1, .ref (ad 1)), (2, .ref (ad 16)), (3, .int x3)]) hx hb d_Ga_sumUp_139 hl (k := 4) rfl (by rw [ev3]; rfl) (by decide) rfl (fun ls hl => ?_)
  have hw := hw v3 ev3
  refine lv_goto (tgt := 3) hx hb d_Ga_sumUp_142 (by decide) ?_
  exact hk3 a24 a25 f1 f2 x3 v3 hw _ _ _ (wn_eq w rfl) (lv_sub hl [1, 2, 3, 4, 0] rfl)
set_option maxHeartbeats 4000000 in
set_option maxRecDepth 100000 in
theorem w_Ga_sumUp_85 {S : ST} {post : (Nat → Int32) → (Nat → Int32) → (Nat → Int32) → (Nat → Int32) → Prop} (C : cx p s m args meth c prog_2_method_9_code 7 "LineBreaker$Galley" n0 G K) (hr : meth.sig.returnType = none) {K3 : (Nat → Int32) → (Nat → Int32) → (Nat → Int32) → (Nat → Int32) → Int32 → Int32 → Prop} (hk3 : ∀ (a24 : (Nat → Int32)) (a25 : (Nat → Int32)) (a26 : (Nat → Int32)) (a27 : (Nat → Int32)) (x3 : Int32) (x4 : Int32), K3 a24 a25 a26 a27 x3 x4 → ∀ (H : Heap) (locs : List Loc) (ls : Array Slot), wn n0 G (wC K ad (sA (sA (sA (sA S 24 a24) 25 a25) 26 a26) 27 a27) ++ X) s H locs → lv_has ls 7 [(0, .ref (ad 17)), (1, .ref (ad 1)), (2, .ref (ad 16)), (3, .int x3), (4, .int x4)] → W p l e rm_Ga_sumUp s m args below meth c H locs 0 0 (MQ below (va_Qv (fun (u : (Nat → Int32) × (Nat → Int32) × (Nat → Int32) × (Nat → Int32)) => post u.1 u.2.1 u.2.2.1 u.2.2.2) (fun (u : (Nat → Int32) × (Nat → Int32) × (Nat → Int32) × (Nat → Int32)) t => we n0 G (wC K ad (sA (sA (sA (sA S 24 u.1) 25 u.2.1) 26 u.2.2.1) 27 u.2.2.2) ++ X) t) (al n0)) args s 0 0 (al n0)) (F0 m 3 ls [])) : ∀ (a24 : (Nat → Int32)) (a25 : (Nat → Int32)) (a26 : (Nat → Int32)) (a27 : (Nat → Int32)) (x3 : Int32) (x4 : Int32) (x5 : Int32) (x6 : Int32) (z1 : Int32) (z2 : Int32) (z3 : Int32), wl_Ga_sumUp_85 S post K3 a24 a25 a26 a27 x3 x4 x5 x6 z1 z2 z3 → ∀ (H : Heap) (locs : List Loc) (ls : Array Slot), wn n0 G (wC K ad (sA (sA (sA (sA S 24 a24) 25 a25) 26 a26) 27 a27) ++ X) s H locs → lv_has ls 7 [(0, .ref (ad 17)), (1, .ref (ad 1)), (2, .ref (ad 16)), (3, .int x3), (4, .int x4), (5, .int x5), (6, .int x6)] → W p l e rm_Ga_sumUp s m args below meth c H locs 0 0 (MQ below (va_Qv (fun (u : (Nat → Int32) × (Nat → Int32) × (Nat → Int32) × (Nat → Int32)) => post u.1 u.2.1 u.2.2.1 u.2.2.2) (fun (u : (Nat → Int32) × (Nat → Int32) × (Nat → Int32) × (Nat → Int32)) t => we n0 G (wC K ad (sA (sA (sA (sA S 24 u.1) 25 u.2.1) 26 u.2.2.1) 27 u.2.2.2) ++ X) t) (al n0)) args s 0 0 (al n0)) (F0 m 85 ls [.int z3, .int z2, .int z1, .ref (ad 25)]) := by
  have hx := C.1
  have hb := C.2.1
  have hts := C.2.2.2.2.1
  intro a24 a25 a26 a27 x3 x4 x5 x6 z1 z2 z3 hw H locs ls w hl
  unfold wl_Ga_sumUp_85 at hw
  refine lv_iadd hx hb d_Ga_sumUp_85 ?_
  obtain ⟨f1, ef1⟩ : ∃ z : Nat → Int32, z = upd a25 z1.toNatClampNeg (z2 + z3) := ⟨_, rfl⟩
  refine ks_i (f := a25) (w2 := wC K ad (sA (sA (sA (sA S 24 a24) 25 f1) 26 a26) 27 a27) ++ X) C w 25 rfl hw.1 (by rw [← ef1]; rfl) d_Ga_sumUp_86 (fun H locs w => ?_)
  have hw := hw.2 f1 ef1
  refine lv_aload_n hx hb d_Ga_sumUp_87 rfl (lv_at hl 0 rfl) ?_
  refine kg (C1 := R_Ga) (T := F_Ga) (N := 12) (ci := 0) (ref := "LineBreaker$Galley") (v := .ref (ad 26)) C w 17 8 iw_Ga rfl rfl (by decide) kw_154 rfl rfl d_Ga_sumUp_88 ?_
  refine lv_iload hx hb d_Ga_sumUp_91 (lv_at hl 4 rfl) ?_
  refine lv_iconst (v := 1) hx hb d_Ga_sumUp_93 (by decide) ?_
  refine lv_iadd hx hb d_Ga_sumUp_94 ?_
  refine lv_aload_n hx hb d_Ga_sumUp_95 rfl (lv_at hl 0 rfl) ?_
  refine kg (C1 := R_Ga) (T := F_Ga) (N := 12) (ci := 0) (ref := "LineBreaker$Galley") (v := .ref (ad 26)) C w 17 8 iw_Ga rfl rfl (by decide) kw_154 rfl rfl d_Ga_sumUp_96 ?_
  refine lv_iload hx hb d_Ga_sumUp_99 (lv_at hl 4 rfl) ?_
  refine ka_i (f := a26) C w 26 rfl hw.1 d_Ga_sumUp_101 ?_
  have hw := hw.2
  refine lv_iload hx hb d_Ga_sumUp_102 (lv_at hl 5 rfl) ?_
  refine lv_if_eq (tgt := 111) hx hb d_Ga_sumUp_104 (by decide) (fun hc => ?_) (fun hc => ?_)
  · have hw := hw.1 hc
    refine lv_iload hx hb d_Ga_sumUp_111 (lv_at hl 6 rfl) ?_
    exact w_Ga_sumUp_113 C hr hk3 a24 f1 a26 a27 x3 x4 (x4 + 1) (a26 x4.toNatClampNeg) x6 hw _ _ _ (wn_eq w rfl) (lv_sub hl [0, 1, 2, 3, 4] rfl)
  · have hw := hw.2 hc
    refine lv_iconst (v := 0) hx hb d_Ga_sumUp_107 (by decide) ?_
    refine lv_goto (tgt := 113) hx hb d_Ga_sumUp_108 (by decide) ?_
    exact w_Ga_sumUp_113 C hr hk3 a24 f1 a26 a27 x3 x4 (x4 + 1) (a26 x4.toNatClampNeg) 0 hw _ _ _ (wn_eq w rfl) (lv_sub hl [0, 1, 2, 3, 4] rfl)
set_option maxHeartbeats 4000000 in
set_option maxRecDepth 100000 in
theorem w_Ga_sumUp_24 {S : ST} {post : (Nat → Int32) → (Nat → Int32) → (Nat → Int32) → (Nat → Int32) → Prop} (C : cx p s m args meth c prog_2_method_9_code 7 "LineBreaker$Galley" n0 G K) (hr : meth.sig.returnType = none) {K3 : (Nat → Int32) → (Nat → Int32) → (Nat → Int32) → (Nat → Int32) → Int32 → Int32 → Prop} (hk3 : ∀ (a24 : (Nat → Int32)) (a25 : (Nat → Int32)) (a26 : (Nat → Int32)) (a27 : (Nat → Int32)) (x3 : Int32) (x4 : Int32), K3 a24 a25 a26 a27 x3 x4 → ∀ (H : Heap) (locs : List Loc) (ls : Array Slot), wn n0 G (wC K ad (sA (sA (sA (sA S 24 a24) 25 a25) 26 a26) 27 a27) ++ X) s H locs → lv_has ls 7 [(0, .ref (ad 17)), (1, .ref (ad 1)), (2, .ref (ad 16)), (3, .int x3), (4, .int x4)] → W p l e rm_Ga_sumUp s m args below meth c H locs 0 0 (MQ below (va_Qv (fun (u : (Nat → Int32) × (Nat → Int32) × (Nat → Int32) × (Nat → Int32)) => post u.1 u.2.1 u.2.2.1 u.2.2.2) (fun (u : (Nat → Int32) × (Nat → Int32) × (Nat → Int32) × (Nat → Int32)) t => we n0 G (wC K ad (sA (sA (sA (sA S 24 u.1) 25 u.2.1) 26 u.2.2.1) 27 u.2.2.2) ++ X) t) (al n0)) args s 0 0 (al n0)) (F0 m 3 ls [])) : ∀ (a24 : (Nat → Int32)) (a25 : (Nat → Int32)) (a26 : (Nat → Int32)) (a27 : (Nat → Int32)) (x3 : Int32) (x4 : Int32) (z0 : Int32), wl_Ga_sumUp_24 S post K3 a24 a25 a26 a27 x3 x4 z0 → ∀ (H : Heap) (locs : List Loc) (ls : Array Slot), wn n0 G (wC K ad (sA (sA (sA (sA S 24 a24) 25 a25) 26 a26) 27 a27) ++ X) s H locs → lv_has ls 7 [(0, .ref (ad 17)), (1, .ref (ad 1)), (2, .ref (ad 16)), (3, .int x3), (4, .int x4)] → W p l e rm_Ga_sumUp s m args below meth c H locs 0 0 (MQ below (va_Qv (fun (u : (Nat → Int32) × (Nat → Int32) × (Nat → Int32) × (Nat → Int32)) => post u.1 u.2.1 u.2.2.1 u.2.2.2) (fun (u : (Nat → Int32) × (Nat → Int32) × (Nat → Int32) × (Nat → Int32)) t => we n0 G (wC K ad (sA (sA (sA (sA S 24 u.1) 25 u.2.1) 26 u.2.2.1) 27 u.2.2.2) ++ X) t) (al n0)) args s 0 0 (al n0)) (F0 m 24 ls [.int z0]) := by
  have hx := C.1
  have hb := C.2.1
  have hts := C.2.2.2.2.1
  intro a24 a25 a26 a27 x3 x4 z0 hw H locs ls w hl
  unfold wl_Ga_sumUp_24 at hw
  refine lv_istore (lv' := [(5, .int z0), (0, .ref (ad 17)), (1, .ref (ad 1)), (2, .ref (ad 16)), (3, .int x3), (4, .int x4)]) hx hb d_Ga_sumUp_24 hl (by decide) rfl (fun ls hl => ?_)
  refine lv_aload_n hx hb d_Ga_sumUp_26 rfl (lv_at hl 2 rfl) ?_
  refine kg (C1 := R_Pa) (T := F_Pa) (N := 10) (ci := 6) (ref := "LineBreaker$Paragraph") (v := .ref (ad 4)) C w 1 2 iw_Pa rfl rfl (by decide) kw_40 rfl rfl d_Ga_sumUp_27 ?_
  refine lv_iload hx hb d_Ga_sumUp_30 (lv_at hl 5 rfl) ?_
  refine ka_i (f := (S.1 4)) C w 4 rfl hw.1 d_Ga_sumUp_32 ?_
  have hw := hw.2
  refine lv_topi (fun v1 ev1 => ?_)
  have hw := hw v1 ev1
  refine lv_istore (lv' := [(6, .int v1), (5, .int z0), (0, .ref (ad 17)), (1, .ref (ad 1)), (2, .ref (ad 16)), (3, .int x3), (4, .int x4)]) hx hb d_Ga_sumUp_33 hl (by decide) rfl (fun ls hl => ?_)
  refine lv_aload_n hx hb d_Ga_sumUp_35 rfl (lv_at hl 2 rfl) ?_
  refine kg (C1 := R_Ga) (T := F_Ga) (N := 12) (ci := 0) (ref := "LineBreaker$Galley") (v := .ref (ad 24)) C w 17 6 iw_Ga rfl rfl (by decide) kw_150 rfl rfl d_Ga_sumUp_36 ?_
  refine lv_iload hx hb d_Ga_sumUp_39 (lv_at hl 6 rfl) ?_
  refine lv_iconst (v := 1) hx hb d_Ga_sumUp_41 (by decide) ?_
  refine lv_iadd hx hb d_Ga_sumUp_42 ?_
  refine lv_aload_n hx hb d_Ga_sumUp_43 rfl (lv_at hl 2 rfl) ?_
  refine kg (C1 := R_Ga) (T := F_Ga) (N := 12) (ci := 0) (ref := "LineBreaker$Galley") (v := .ref (ad 24)) C w 17 6 iw_Ga rfl rfl (by decide) kw_150 rfl rfl d_Ga_sumUp_44 ?_
  refine lv_iload hx hb d_Ga_sumUp_47 (lv_at hl 6 rfl) ?_
  refine ka_i (f := a24) C w 24 rfl hw.1 d_Ga_sumUp_49 ?_
  have hw := hw.2
  refine lv_aload_n hx hb d_Ga_sumUp_50 rfl (lv_at hl 3 rfl) ?_
  refine kg (C1 := R_Pa) (T := F_Pa) (N := 10) (ci := 6) (ref := "LineBreaker$Paragraph") (v := .ref (ad 3)) C w 1 1 iw_Pa rfl rfl (by decide) kw_38 rfl rfl d_Ga_sumUp_51 ?_
  refine lv_iload hx hb d_Ga_sumUp_54 (lv_at hl 6 rfl) ?_
  refine ka_i (f := (S.1 3)) C w 3 rfl hw.1 d_Ga_sumUp_56 ?_
  have hw := hw.2
  refine lv_iadd hx hb d_Ga_sumUp_57 ?_
  obtain ⟨f2, ef2⟩ : ∃ z : Nat → Int32, z = upd a24 ((x4 + 1).toNatClampNeg) ((a24 x4.toNatClampNeg) + ((S.1 3) x4.toNatClampNeg)) := ⟨_, rfl⟩
  refine ks_i (f := a24) (w2 := wC K ad (sA (sA (sA (sA S 24 f2) 25 a25) 26 a26) 27 a27) ++ X) C w 24 rfl hw.1 (by rw [← ef2]; rfl) d_Ga_sumUp_58 (fun H locs w => ?_)
  have hw := hw.2 f2 ef2
  refine lv_aload_n hx hb d_Ga_sumUp_59 rfl (lv_at hl 2 rfl) ?_
  refine kg (C1 := R_Ga) (T := F_Ga) (N := 12) (ci := 0) (ref := "LineBreaker$Galley") (v := .ref (ad 25)) C w 17 7 iw_Ga rfl rfl (by decide) kw_152 rfl rfl d_Ga_sumUp_60 ?_
  refine lv_iload hx hb d_Ga_sumUp_63 (lv_at hl 6 rfl) ?_
  refine lv_iconst (v := 1) hx hb d_Ga_sumUp_65 (by decide) ?_
  refine lv_iadd hx hb d_Ga_sumUp_66 ?_
  refine lv_aload_n hx hb d_Ga_sumUp_67 rfl (lv_at hl 2 rfl) ?_
  refine kg (C1 := R_Ga) (T := F_Ga) (N := 12) (ci := 0) (ref := "LineBreaker$Galley") (v := .ref (ad 25)) C w 17 7 iw_Ga rfl rfl (by decide) kw_152 rfl rfl d_Ga_sumUp_68 ?_
  refine lv_iload hx hb d_Ga_sumUp_71 (lv_at hl 6 rfl) ?_
  refine ka_i (f := a25) C w 25 rfl hw.1 d_Ga_sumUp_73 ?_
  have hw := hw.2
  refine lv_iload hx hb d_Ga_sumUp_74 (lv_at hl 1 rfl) ?_
  refine lv_if_eq (tgt := 84) hx hb d_Ga_sumUp_76 (by decide) (fun hc => ?_) (fun hc => ?_)
  · have hw := hw.1 hc
    refine lv_iconst (v := 0) hx hb d_Ga_sumUp_84 (by decide) ?_
    exact w_Ga_sumUp_85 C hr hk3 f2 a25 a26 a27 x3 x4 z0 v1 (x4 + 1) (a25 x4.toNatClampNeg) 0 hw _ _ _ (wn_eq w rfl) (lv_sub hl [2, 3, 4, 5, 6, 1, 0] rfl)
  · have hw := hw.2 hc
    refine lv_iload hx hb d_Ga_sumUp_79 (lv_at hl 0 rfl) ?_
    refine lv_goto (tgt := 85) hx hb d_Ga_sumUp_81 (by decide) ?_
    exact w_Ga_sumUp_85 C hr hk3 f2 a25 a26 a27 x3 x4 z0 v1 (x4 + 1) (a25 x4.toNatClampNeg) v1 hw _ _ _ (wn_eq w rfl) (lv_sub hl [2, 3, 4, 5, 6, 1, 0] rfl)
set_option maxHeartbeats 4000000 in
set_option maxRecDepth 100000 in
theorem w_Ga_sumUp_3 {S : ST} {post : (Nat → Int32) → (Nat → Int32) → (Nat → Int32) → (Nat → Int32) → Prop} (C : cx p s m args meth c prog_2_method_9_code 7 "LineBreaker$Galley" n0 G K) (hr : meth.sig.returnType = none) : ∀ (n : Nat) (a24 : (Nat → Int32)) (a25 : (Nat → Int32)) (a26 : (Nat → Int32)) (a27 : (Nat → Int32)) (x3 : Int32) (x4 : Int32), wl_Ga_sumUp_3 S post n a24 a25 a26 a27 x3 x4 → ∀ (H : Heap) (locs : List Loc) (ls : Array Slot), wn n0 G (wC K ad (sA (sA (sA (sA S 24 a24) 25 a25) 26 a26) 27 a27) ++ X) s H locs → lv_has ls 7 [(0, .ref (ad 17)), (1, .ref (ad 1)), (2, .ref (ad 16)), (3, .int x3), (4, .int x4)] → W p l e rm_Ga_sumUp s m args below meth c H locs 0 0 (MQ below (va_Qv (fun (u : (Nat → Int32) × (Nat → Int32) × (Nat → Int32) × (Nat → Int32)) => post u.1 u.2.1 u.2.2.1 u.2.2.2) (fun (u : (Nat → Int32) × (Nat → Int32) × (Nat → Int32) × (Nat → Int32)) t => we n0 G (wC K ad (sA (sA (sA (sA S 24 u.1) 25 u.2.1) 26 u.2.2.1) 27 u.2.2.2) ++ X) t) (al n0)) args s 0 0 (al n0)) (F0 m 3 ls []) := by
  have hx := C.1
  have hb := C.2.1
  have hts := C.2.2.2.2.1
  intro n
  induction n with
  | zero =>
    intro a24 a25 a26 a27 x3 x4 hw
    unfold wl_Ga_sumUp_3 at hw
    exact hw.elim
  | succ n ih =>
    intro a24 a25 a26 a27 x3 x4 hw H locs ls w hl
    unfold wl_Ga_sumUp_3 at hw
    refine lv_iload hx hb d_Ga_sumUp_3 (lv_at hl 4 rfl) ?_
    refine lv_iload_n hx hb d_Ga_sumUp_5 rfl (lv_at hl 3 rfl) ?_
    refine lv_icmp_ge (tgt := 145) hx hb d_Ga_sumUp_6 (by decide) (fun hc => ?_) (fun hc => ?_)
    · have hw := hw.1 hc
      refine lv_iload_n hx hb d_Ga_sumUp_145 rfl (lv_at hl 3 rfl) ?_
      refine lv_iconst (v := 1) hx hb d_Ga_sumUp_146 (by decide) ?_
      refine lv_iadd hx hb d_Ga_sumUp_147 ?_
      refine lv_topi (fun v1 ev1 => ?_)
      have hw := hw v1 ev1
      refine lv_istore (lv' := [(4, .int v1), (0, .ref (ad 17)), (1, .ref (ad 1)), (2, .ref (ad 16)), (3, .int x3)]) hx hb d_Ga_sumUp_148 hl (by decide) rfl (fun ls hl => ?_)
      refine lv_aload_n hx hb d_Ga_sumUp_150 rfl (lv_at hl 1 rfl) ?_
      refine kg (C1 := R_Ga) (T := F_Ga) (N := 12) (ci := 0) (ref := "LineBreaker$Galley") (v := .ref (ad 24)) C w 17 6 iw_Ga rfl rfl (by decide) kw_150 rfl rfl d_Ga_sumUp_151 ?_
      refine lv_iload hx hb d_Ga_sumUp_154 (lv_at hl 0 rfl) ?_
      refine lv_aload_n hx hb d_Ga_sumUp_156 rfl (lv_at hl 1 rfl) ?_
      refine kg (C1 := R_Ga) (T := F_Ga) (N := 12) (ci := 0) (ref := "LineBreaker$Galley") (v := .ref (ad 24)) C w 17 6 iw_Ga rfl rfl (by decide) kw_150 rfl rfl d_Ga_sumUp_157 ?_
      refine lv_iload_n hx hb d_Ga_sumUp_160 rfl (lv_at hl 4 rfl) ?_
      refine ka_i (f := a24) C w 24 rfl hw.1 d_Ga_sumUp_161 ?_
      have hw := hw.2
      obtain ⟨f2, ef2⟩ : ∃ z : Nat → Int32, z = upd a24 v1.toNatClampNeg (a24 x3.toNatClampNeg) := ⟨_, rfl⟩
      refine ks_i (f := a24) (w2 := wC K ad (sA (sA (sA (sA S 24 f2) 25 a25) 26 a26) 27 a27) ++ X) C w 24 rfl hw.1 (by rw [← ef2]; rfl) d_Ga_sumUp_162 (fun H locs w => ?_)
      have hw := hw.2 f2 ef2
      refine lv_aload_n hx hb d_Ga_sumUp_163 rfl (lv_at hl 1 rfl) ?_
      refine kg (C1 := R_Ga) (T := F_Ga) (N := 12) (ci := 0) (ref := "LineBreaker$Galley") (v := .ref (ad 25)) C w 17 7 iw_Ga rfl rfl (by decide) kw_152 rfl rfl d_Ga_sumUp_164 ?_
      refine lv_iload hx hb d_Ga_sumUp_167 (lv_at hl 0 rfl) ?_
      refine lv_aload_n hx hb d_Ga_sumUp_169 rfl (lv_at hl 1 rfl) ?_
      refine kg (C1 := R_Ga) (T := F_Ga) (N := 12) (ci := 0) (ref := "LineBreaker$Galley") (v := .ref (ad 25)) C w 17 7 iw_Ga rfl rfl (by decide) kw_152 rfl rfl d_Ga_sumUp_170 ?_
      refine lv_iload_n hx hb d_Ga_sumUp_173 rfl (lv_at hl 4 rfl) ?_
      refine ka_i (f := a25) C w 25 rfl hw.1 d_Ga_sumUp_174 ?_
      have hw := hw.2
      obtain ⟨f3, ef3⟩ : ∃ z : Nat → Int32, z = upd a25 v1.toNatClampNeg (a25 x3.toNatClampNeg) := ⟨_, rfl⟩
      refine ks_i (f := a25) (w2 := wC K ad (sA (sA (sA (sA S 24 f2) 25 f3) 26 a26) 27 a27) ++ X) C w 25 rfl hw.1 (by rw [← ef3]; rfl) d_Ga_sumUp_175 (fun H locs w => ?_)
      have hw := hw.2 f3 ef3
      refine lv_aload_n hx hb d_Ga_sumUp_176 rfl (lv_at hl 1 rfl) ?_
      refine kg (C1 := R_Ga) (T := F_Ga) (N := 12) (ci := 0) (ref := "LineBreaker$Galley") (v := .ref (ad 26)) C w 17 8 iw_Ga rfl rfl (by decide) kw_154 rfl rfl d_Ga_sumUp_177 ?_
      refine lv_iload hx hb d_Ga_sumUp_180 (lv_at hl 0 rfl) ?_
      refine lv_aload_n hx hb d_Ga_sumUp_182 rfl (lv_at hl 1 rfl) ?_
      refine kg (C1 := R_Ga) (T := F_Ga) (N := 12) (ci := 0) (ref := "LineBreaker$Galley") (v := .ref (ad 26)) C w 17 8 iw_Ga rfl rfl (by decide) kw_154 rfl rfl d_Ga_sumUp_183 ?_
      refine lv_iload_n hx hb d_Ga_sumUp_186 rfl (lv_at hl 4 rfl) ?_
      refine ka_i (f := a26) C w 26 rfl hw.1 d_Ga_sumUp_187 ?_
      have hw := hw.2
      obtain ⟨f4, ef4⟩ : ∃ z : Nat → Int32, z = upd a26 v1.toNatClampNeg (a26 x3.toNatClampNeg) := ⟨_, rfl⟩
      refine ks_i (f := a26) (w2 := wC K ad (sA (sA (sA (sA S 24 f2) 25 f3) 26 f4) 27 a27) ++ X) C w 26 rfl hw.1 (by rw [← ef4]; rfl) d_Ga_sumUp_188 (fun H locs w => ?_)
      have hw := hw.2 f4 ef4
      refine lv_aload_n hx hb d_Ga_sumUp_189 rfl (lv_at hl 1 rfl) ?_
      refine kg (C1 := R_Ga) (T := F_Ga) (N := 12) (ci := 0) (ref := "LineBreaker$Galley") (v := .ref (ad 27)) C w 17 9 iw_Ga rfl rfl (by decide) kw_156 rfl rfl d_Ga_sumUp_190 ?_
      refine lv_iload hx hb d_Ga_sumUp_193 (lv_at hl 0 rfl) ?_
      refine lv_aload_n hx hb d_Ga_sumUp_195 rfl (lv_at hl 1 rfl) ?_
      refine kg (C1 := R_Ga) (T := F_Ga) (N := 12) (ci := 0) (ref := "LineBreaker$Galley") (v := .ref (ad 27)) C w 17 9 iw_Ga rfl rfl (by decide) kw_156 rfl rfl d_Ga_sumUp_196 ?_
      refine lv_iload_n hx hb d_Ga_sumUp_199 rfl (lv_at hl 4 rfl) ?_
      refine ka_i (f := a27) C w 27 rfl hw.1 d_Ga_sumUp_200 ?_
      have hw := hw.2
      obtain ⟨f5, ef5⟩ : ∃ z : Nat → Int32, z = upd a27 v1.toNatClampNeg (a27 x3.toNatClampNeg) := ⟨_, rfl⟩
      refine ks_i (f := a27) (w2 := wC K ad (sA (sA (sA (sA S 24 f2) 25 f3) 26 f4) 27 f5) ++ X) C w 27 rfl hw.1 (by rw [← ef5]; rfl) d_Ga_sumUp_201 (fun H locs w => ?_)
      have hw := hw.2 f5 ef5
      refine lv_aload_n hx hb d_Ga_sumUp_202 rfl (lv_at hl 1 rfl) ?_
      refine kg (C1 := R_Ga) (T := F_Ga) (N := 12) (ci := 0) (ref := "LineBreaker$Galley") (v := .ref (ad 24)) C w 17 6 iw_Ga rfl rfl (by decide) kw_150 rfl rfl d_Ga_sumUp_203 ?_
      refine lv_aload_n hx hb d_Ga_sumUp_206 rfl (lv_at hl 1 rfl) ?_
      refine kg (C1 := R_Ga) (T := F_Ga) (N := 12) (ci := 0) (ref := "LineBreaker$Galley") (v := .int (S.2.2 1099)) C w 17 11 iw_Ga rfl rfl (by decide) kw_159 rfl rfl d_Ga_sumUp_207 ?_
      refine lv_aload_n hx hb d_Ga_sumUp_210 rfl (lv_at hl 1 rfl) ?_
      refine kg (C1 := R_Ga) (T := F_Ga) (N := 12) (ci := 0) (ref := "LineBreaker$Galley") (v := .ref (ad 24)) C w 17 6 iw_Ga rfl rfl (by decide) kw_150 rfl rfl d_Ga_sumUp_211 ?_
      refine lv_iload hx hb d_Ga_sumUp_214 (lv_at hl 0 rfl) ?_
      refine ka_i (f := f2) C w 24 rfl hw.1 d_Ga_sumUp_216 ?_
      have hw := hw.2
      refine lv_aload_n hx hb d_Ga_sumUp_217 rfl (lv_at hl 3 rfl) ?_
      refine kg (C1 := R_Gl) (T := F_Gl) (N := 4) (ci := 2) (ref := "LineBreaker$Glue") (v := .int (S.2.2 1024)) C w 16 0 iw_Gl rfl rfl (by decide) kw_92 rfl rfl d_Ga_sumUp_218 ?_
      refine lv_iadd hx hb d_Ga_sumUp_221 ?_
      obtain ⟨f6, ef6⟩ : ∃ z : Nat → Int32, z = upd f2 ((S.2.2 1099).toNatClampNeg) ((f2 v1.toNatClampNeg) + (S.2.2 1024)) := ⟨_, rfl⟩
      refine ks_i (f := f2) (w2 := wC K ad (sA (sA (sA (sA S 24 f6) 25 f3) 26 f4) 27 f5) ++ X) C w 24 rfl hw.1 (by rw [← ef6]; rfl) d_Ga_sumUp_222 (fun H locs w => ?_)
      have hw := hw.2 f6 ef6
      refine lv_aload_n hx hb d_Ga_sumUp_223 rfl (lv_at hl 1 rfl) ?_
      refine kg (C1 := R_Ga) (T := F_Ga) (N := 12) (ci := 0) (ref := "LineBreaker$Galley") (v := .ref (ad 25)) C w 17 7 iw_Ga rfl rfl (by decide) kw_152 rfl rfl d_Ga_sumUp_224 ?_
      refine lv_aload_n hx hb d_Ga_sumUp_227 rfl (lv_at hl 1 rfl) ?_
      refine kg (C1 := R_Ga) (T := F_Ga) (N := 12) (ci := 0) (ref := "LineBreaker$Galley") (v := .int (S.2.2 1099)) C w 17 11 iw_Ga rfl rfl (by decide) kw_159 rfl rfl d_Ga_sumUp_228 ?_
      refine lv_aload_n hx hb d_Ga_sumUp_231 rfl (lv_at hl 1 rfl) ?_
      refine kg (C1 := R_Ga) (T := F_Ga) (N := 12) (ci := 0) (ref := "LineBreaker$Galley") (v := .ref (ad 25)) C w 17 7 iw_Ga rfl rfl (by decide) kw_152 rfl rfl d_Ga_sumUp_232 ?_
      refine lv_iload hx hb d_Ga_sumUp_235 (lv_at hl 0 rfl) ?_
      refine ka_i (f := f3) C w 25 rfl hw.1 d_Ga_sumUp_237 ?_
      have hw := hw.2
      refine lv_aload_n hx hb d_Ga_sumUp_238 rfl (lv_at hl 3 rfl) ?_
      refine kd_i (kr_V (y := y_Gl_finiteStretch) (C1 := R_Gl) (T := F_Gl) (N := 4) (ci := 2) (q0 := 16) (As := []) (n := 0) C w (c_Gl_finiteStretch_16 l n0 G K ad X (sA (sA (sA (sA S 24 f6) 25 f3) 26 f4) 27 f5)  _ hw) (gw_V kw_687 kw_688 kw_689 kw_4 kw_690) (by decide +kernel) rfl rfl ⟨Nat.le_of_ble_eq_true rfl, Nat.le_of_ble_eq_true rfl⟩ rfl rfl rfl hl.1 rfl (Nat.le_of_ble_eq_true rfl) d_Ga_sumUp_239 ⟨Nat.le_of_ble_eq_true rfl, Nat.le_of_ble_eq_true rfl⟩) (fun r7 hw => ?_)
      refine lv_iadd hx hb d_Ga_sumUp_242 ?_
      obtain ⟨f8, ef8⟩ : ∃ z : Nat → Int32, z = upd f3 ((S.2.2 1099).toNatClampNeg) ((f3 v1.toNatClampNeg) + r7) := ⟨_, rfl⟩
      refine ks_i (f := f3) (w2 := wC K ad (sA (sA (sA (sA S 24 f6) 25 f8) 26 f4) 27 f5) ++ X) C w 25 rfl hw.1 (by rw [← ef8]; rfl) d_Ga_sumUp_243 (fun H locs w => ?_)
      have hw := hw.2 f8 ef8
      refine lv_aload_n hx hb d_Ga_sumUp_244 rfl (lv_at hl 1 rfl) ?_
      refine kg (C1 := R_Ga) (T := F_Ga) (N := 12) (ci := 0) (ref := "LineBreaker$Galley") (v := .ref (ad 26)) C w 17 8 iw_Ga rfl rfl (by decide) kw_154 rfl rfl d_Ga_sumUp_245 ?_
      refine lv_aload_n hx hb d_Ga_sumUp_248 rfl (lv_at hl 1 rfl) ?_
      refine kg (C1 := R_Ga) (T := F_Ga) (N := 12) (ci := 0) (ref := "LineBreaker$Galley") (v := .int (S.2.2 1099)) C w 17 11 iw_Ga rfl rfl (by decide) kw_159 rfl rfl d_Ga_sumUp_249 ?_
      refine lv_aload_n hx hb d_Ga_sumUp_252 rfl (lv_at hl 1 rfl) ?_
      refine kg (C1 := R_Ga) (T := F_Ga) (N := 12) (ci := 0) (ref := "LineBreaker$Galley") (v := .ref (ad 26)) C w 17 8 iw_Ga rfl rfl (by decide) kw_154 rfl rfl d_Ga_sumUp_253 ?_
      refine lv_iload hx hb d_Ga_sumUp_256 (lv_at hl 0 rfl) ?_
      refine ka_i (f := f4) C w 26 rfl hw.1 d_Ga_sumUp_258 ?_
      have hw := hw.2
      refine lv_aload_n hx hb d_Ga_sumUp_259 rfl (lv_at hl 3 rfl) ?_
      refine kd_i (kr_V (y := y_Gl_endlessStretch) (C1 := R_Gl) (T := F_Gl) (N := 4) (ci := 2) (q0 := 16) (As := []) (n := 0) C w (c_Gl_endlessStretch_16 l n0 G K ad X (sA (sA (sA (sA S 24 f6) 25 f8) 26 f4) 27 f5)  _ hw) (gw_V kw_691 kw_692 kw_693 kw_4 kw_694) (by decide +kernel) rfl rfl ⟨Nat.le_of_ble_eq_true rfl, Nat.le_of_ble_eq_true rfl⟩ rfl rfl rfl hl.1 rfl (Nat.le_of_ble_eq_true rfl) d_Ga_sumUp_260 ⟨Nat.le_of_ble_eq_true rfl, Nat.le_of_ble_eq_true rfl⟩) (fun r9 hw => ?_)
      refine lv_iadd hx hb d_Ga_sumUp_263 ?_
      obtain ⟨f10, ef10⟩ : ∃ z : Nat → Int32, z = upd f4 ((S.2.2 1099).toNatClampNeg) ((f4 v1.toNatClampNeg) + r9) := ⟨_, rfl⟩
      refine ks_i (f := f4) (w2 := wC K ad (sA (sA (sA (sA S 24 f6) 25 f8) 26 f10) 27 f5) ++ X) C w 26 rfl hw.1 (by rw [← ef10]; rfl) d_Ga_sumUp_264 (fun H locs w => ?_)
      have hw := hw.2 f10 ef10
      refine lv_aload_n hx hb d_Ga_sumUp_265 rfl (lv_at hl 1 rfl) ?_
      refine kg (C1 := R_Ga) (T := F_Ga) (N := 12) (ci := 0) (ref := "LineBreaker$Galley") (v := .ref (ad 27)) C w 17 9 iw_Ga rfl rfl (by decide) kw_156 rfl rfl d_Ga_sumUp_266 ?_
      refine lv_aload_n hx hb d_Ga_sumUp_269 rfl (lv_at hl 1 rfl) ?_
      refine kg (C1 := R_Ga) (T := F_Ga) (N := 12) (ci := 0) (ref := "LineBreaker$Galley") (v := .int (S.2.2 1099)) C w 17 11 iw_Ga rfl rfl (by decide) kw_159 rfl rfl d_Ga_sumUp_270 ?_
      refine lv_aload_n hx hb d_Ga_sumUp_273 rfl (lv_at hl 1 rfl) ?_
      refine kg (C1 := R_Ga) (T := F_Ga) (N := 12) (ci := 0) (ref := "LineBreaker$Galley") (v := .ref (ad 27)) C w 17 9 iw_Ga rfl rfl (by decide) kw_156 rfl rfl d_Ga_sumUp_274 ?_
      refine lv_iload hx hb d_Ga_sumUp_277 (lv_at hl 0 rfl) ?_
      refine ka_i (f := f5) C w 27 rfl hw.1 d_Ga_sumUp_279 ?_
      have hw := hw.2
      refine lv_aload_n hx hb d_Ga_sumUp_280 rfl (lv_at hl 3 rfl) ?_
      refine kg (C1 := R_Gl) (T := F_Gl) (N := 4) (ci := 2) (ref := "LineBreaker$Glue") (v := .int (S.2.2 1027)) C w 16 3 iw_Gl rfl rfl (by decide) kw_99 rfl rfl d_Ga_sumUp_281 ?_
      refine lv_iadd hx hb d_Ga_sumUp_284 ?_
      obtain ⟨f11, ef11⟩ : ∃ z : Nat → Int32, z = upd f5 ((S.2.2 1099).toNatClampNeg) ((f5 v1.toNatClampNeg) + (S.2.2 1027)) := ⟨_, rfl⟩
      refine ks_i (f := f5) (w2 := wC K ad (sA (sA (sA (sA S 24 f6) 25 f8) 26 f10) 27 f11) ++ X) C w 27 rfl hw.1 (by rw [← ef11]; rfl) d_Ga_sumUp_285 (fun H locs w => ?_)
      have hw := hw.2 f11 ef11
      exact ke_v (post := (fun (u : (Nat → Int32) × (Nat → Int32) × (Nat → Int32) × (Nat → Int32)) => post u.1 u.2.1 u.2.2.1 u.2.2.2)) (st := (fun (u : (Nat → Int32) × (Nat → Int32) × (Nat → Int32) × (Nat → Int32)) => wC K ad (sA (sA (sA (sA S 24 u.1) 25 u.2.1) 26 u.2.2.1) 27 u.2.2.2) ++ X)) (u := (f6, f8, f10, f11)) C hr d_Ga_sumUp_286 (wn_eq w rfl) hw
    · have hw := hw.2 hc
      refine lv_aload_n hx hb d_Ga_sumUp_9 rfl (lv_at hl 1 rfl) ?_
      refine kg (C1 := R_Pa) (T := F_Pa) (N := 10) (ci := 6) (ref := "LineBreaker$Paragraph") (v := .ref (ad 5)) C w 1 3 iw_Pa rfl rfl (by decide) kw_42 rfl rfl d_Ga_sumUp_10 ?_
      refine lv_iload hx hb d_Ga_sumUp_13 (lv_at hl 4 rfl) ?_
      refine ka_i (f := (S.1 5)) C w 5 rfl hw.1 d_Ga_sumUp_15 ?_
      have hw := hw.2
      refine lv_if_ne (tgt := 23) hx hb d_Ga_sumUp_16 (by decide) (fun hc => ?_) (fun hc => ?_)
      · have hw := hw.1 hc
        refine lv_iconst (v := 0) hx hb d_Ga_sumUp_23 (by decide) ?_
        exact w_Ga_sumUp_24 C hr ih a24 a25 a26 a27 x3 x4 0 hw _ _ _ (wn_eq w rfl) (lv_sub hl [0, 1, 2, 3, 4] rfl)
      · have hw := hw.2 hc
        refine lv_iconst (v := 1) hx hb d_Ga_sumUp_19 (by decide) ?_
        refine lv_goto (tgt := 24) hx hb d_Ga_sumUp_20 (by decide) ?_
        exact w_Ga_sumUp_24 C hr ih a24 a25 a26 a27 x3 x4 1 hw _ _ _ (wn_eq w rfl) (lv_sub hl [0, 1, 2, 3, 4] rfl)
set_option maxHeartbeats 4000000 in
set_option maxRecDepth 100000 in
theorem c_Ga_sumUp (l : Launch) (n0 : Nat) (G : va_G) (K : KT) (ad : Nat → Nat) (X : va_W) (S : ST) (p3 : Int32) (post : (Nat → Int32) → (Nat → Int32) → (Nat → Int32) → (Nat → Int32) → Prop) (hw : wp_Ga_sumUp S p3 post) : Met l y_Ga_sumUp (Cond.code y_Ga_sumUp prog_2_method_9_code 7 none :: gw) rm_Ga_sumUp (va_Pc [.ref (ad 17), .ref (ad 1), .ref (ad 16), .int p3] (wb n0 G K (wC K ad S ++ X))) (va_Qv (fun (u : (Nat → Int32) × (Nat → Int32) × (Nat → Int32) × (Nat → Int32)) => post u.1 u.2.1 u.2.2.1 u.2.2.2) (fun (u : (Nat → Int32) × (Nat → Int32) × (Nat → Int32) × (Nat → Int32)) t => we n0 G (wC K ad (sA (sA (sA (sA S 24 u.1) 25 u.2.1) 26 u.2.2.1) 27 u.2.2.2) ++ X) t) (al n0)) 0 0 (al n0) := by
  refine kb_start (own := "LineBreaker$Galley") (by decide +kernel) rfl ?_
  intro p e s m below meth c C hr hne w
  have hx := C.1
  have hb := C.2.1
  have hts := C.2.2.2.2.1
  have hl := lv_entry ([.ref (ad 17), .ref (ad 1), .ref (ad 16), .int p3]) (n := 7) (Nat.le_of_ble_eq_true rfl)
  rw [lg_entry_eq]
  generalize (lg_sl ([.ref (ad 17), .ref (ad 1), .ref (ad 16), .int p3]) ++ List.replicate (7 - (lg_sl ([.ref (ad 17), .ref (ad 1), .ref (ad 16), .int p3])).length) Slot.unset).toArray = ls at hl ⊢
  have hl : lv_has ls 7 [(0, .ref (ad 17)), (1, .ref (ad 1)), (2, .ref (ad 16)), (3, .int p3)] := hl
  unfold wp_Ga_sumUp at hw
  refine lv_iconst (v := 0) hx hb d_Ga_sumUp_0 (by decide) ?_
  refine lv_istore (lv' := [(4, .int 0), (0, .ref (ad 17)), (1, .ref (ad 1)), (2, .ref (ad 16)), (3, .int p3)]) hx hb d_Ga_sumUp_1 hl (by decide) rfl (fun ls hl => ?_)
  obtain ⟨n9, hw⟩ := hw
  exact w_Ga_sumUp_3 C hr  n9 (S.1 24) (S.1 25) (S.1 26) (S.1 27) p3 0 hw _ _ _ (wn_eq w rfl) (lv_sub hl [1, 2, 3, 4, 0] rfl)
set_option maxHeartbeats 4000000 in
set_option maxRecDepth 100000 in
theorem c_Ga_mayBreak (l : Launch) (n0 : Nat) (G : va_G) (K : KT) (ad : Nat → Nat) (X : va_W) (S : ST) (p1 : Int32) (p2 : Int32) (post : Int32 → Prop) (hw : wp_Ga_mayBreak S p1 p2 post) : Met l y_Ga_mayBreak (Cond.code y_Ga_mayBreak prog_2_method_11_code 3 (some .boolean) :: gw) rm_Ga_mayBreak (va_Pc [.ref (ad 17), .int p1, .int p2] (wb n0 G K (wC K ad S ++ X))) (rq_i post) 0 0 (fun _ => False) := by
  refine kb_start (own := "LineBreaker$Galley") (by decide +kernel) rfl ?_
  intro p e s m below meth c C hr hne w
  have hx := C.1
  have hb := C.2.1
  have hts := C.2.2.2.2.1
  have hl := lv_entry ([.ref (ad 17), .int p1, .int p2]) (n := 3) (Nat.le_of_ble_eq_true rfl)
  rw [lg_entry_eq]
  generalize (lg_sl ([.ref (ad 17), .int p1, .int p2]) ++ List.replicate (3 - (lg_sl ([.ref (ad 17), .int p1, .int p2])).length) Slot.unset).toArray = ls at hl ⊢
  have hl : lv_has ls 3 [(0, .ref (ad 17)), (1, .int p1), (2, .int p2)] := hl
  unfold wp_Ga_mayBreak at hw
  refine lv_aload_n hx hb d_Ga_mayBreak_0 rfl (lv_at hl 0 rfl) ?_
  refine kg (C1 := R_Ga) (T := F_Ga) (N := 12) (ci := 0) (ref := "LineBreaker$Galley") (v := .ref (ad 18)) C w 17 0 iw_Ga rfl rfl (by decide) kw_142 rfl rfl d_Ga_mayBreak_1 ?_
  refine lv_iload_n hx hb d_Ga_mayBreak_4 rfl (lv_at hl 1 rfl) ?_
  refine ka_i (f := (S.1 18)) C w 18 rfl hw.1 d_Ga_mayBreak_5 ?_
  have hw := hw.2
  by_cases h6_0 : ((S.1 18) p1.toNatClampNeg) = 1
  · have hw := hw.1 h6_0
    refine lv_tableIn (tgt := 42) hx hb d_Ga_mayBreak_6 (by rw [h6_0]; decide) (by rw [h6_0]; decide) (by rw [h6_0]; rfl) (by decide) ?_
    refine lv_iload_n hx hb d_Ga_mayBreak_42 rfl (lv_at hl 1 rfl) ?_
    refine lv_if_le (tgt := 78) hx hb d_Ga_mayBreak_43 (by decide) (fun hc => ?_) (fun hc => ?_)
    · have hw := hw.1 hc
      refine lv_iconst (v := 0) hx hb d_Ga_mayBreak_78 (by decide) ?_
      exact kf_z C hr d_Ga_mayBreak_79 (Or.inl rfl) hw
    · have hw := hw.2 hc
      refine lv_iload_n hx hb d_Ga_mayBreak_46 rfl (lv_at hl 1 rfl) ?_
      refine lv_iload_n hx hb d_Ga_mayBreak_47 rfl (lv_at hl 2 rfl) ?_
      refine lv_icmp_eq (tgt := 74) hx hb d_Ga_mayBreak_48 (by decide) (fun hc => ?_) (fun hc => ?_)
      · have hw := hw.1 hc
        refine lv_iconst (v := 1) hx hb d_Ga_mayBreak_74 (by decide) ?_
        refine lv_goto (tgt := 79) hx hb d_Ga_mayBreak_75 (by decide) ?_
        exact kf_z C hr d_Ga_mayBreak_79 (Or.inr rfl) hw
      · have hw := hw.2 hc
        refine lv_aload_n hx hb d_Ga_mayBreak_51 rfl (lv_at hl 0 rfl) ?_
        refine kg (C1 := R_Ga) (T := F_Ga) (N := 12) (ci := 0) (ref := "LineBreaker$Galley") (v := .ref (ad 18)) C w 17 0 iw_Ga rfl rfl (by decide) kw_142 rfl rfl d_Ga_mayBreak_52 ?_
        refine lv_iload_n hx hb d_Ga_mayBreak_55 rfl (lv_at hl 1 rfl) ?_
        refine lv_iconst (v := 1) hx hb d_Ga_mayBreak_56 (by decide) ?_
        refine lv_isub hx hb d_Ga_mayBreak_57 ?_
        refine ka_i (f := (S.1 18)) C w 18 rfl hw.1 d_Ga_mayBreak_58 ?_
        have hw := hw.2
        refine lv_if_eq (tgt := 74) hx hb d_Ga_mayBreak_59 (by decide) (fun hc => ?_) (fun hc => ?_)
        · have hw := hw.1 hc
          refine lv_iconst (v := 1) hx hb d_Ga_mayBreak_74 (by decide) ?_
          refine lv_goto (tgt := 79) hx hb d_Ga_mayBreak_75 (by decide) ?_
          exact kf_z C hr d_Ga_mayBreak_79 (Or.inr rfl) hw
        · have hw := hw.2 hc
          refine lv_aload_n hx hb d_Ga_mayBreak_62 rfl (lv_at hl 0 rfl) ?_
          refine kg (C1 := R_Ga) (T := F_Ga) (N := 12) (ci := 0) (ref := "LineBreaker$Galley") (v := .ref (ad 18)) C w 17 0 iw_Ga rfl rfl (by decide) kw_142 rfl rfl d_Ga_mayBreak_63 ?_
          refine lv_iload_n hx hb d_Ga_mayBreak_66 rfl (lv_at hl 1 rfl) ?_
          refine lv_iconst (v := 1) hx hb d_Ga_mayBreak_67 (by decide) ?_
          refine lv_isub hx hb d_Ga_mayBreak_68 ?_
          refine ka_i (f := (S.1 18)) C w 18 rfl hw.1 d_Ga_mayBreak_69 ?_
          have hw := hw.2
          refine lv_iconst (v := 2) hx hb d_Ga_mayBreak_70 (by decide) ?_
          refine lv_icmp_ne (tgt := 78) hx hb d_Ga_mayBreak_71 (by decide) (fun hc => ?_) (fun hc => ?_)
          · have hw := hw.1 hc
            refine lv_iconst (v := 0) hx hb d_Ga_mayBreak_78 (by decide) ?_
            exact kf_z C hr d_Ga_mayBreak_79 (Or.inl rfl) hw
          · have hw := hw.2 hc
            refine lv_iconst (v := 1) hx hb d_Ga_mayBreak_74 (by decide) ?_
            refine lv_goto (tgt := 79) hx hb d_Ga_mayBreak_75 (by decide) ?_
            exact kf_z C hr d_Ga_mayBreak_79 (Or.inr rfl) hw
  by_cases h6_1 : ((S.1 18) p1.toNatClampNeg) = 2
  · have hw := hw.2.1 h6_1
    refine lv_tableIn (tgt := 111) hx hb d_Ga_mayBreak_6 (by rw [h6_1]; decide) (by rw [h6_1]; decide) (by rw [h6_1]; rfl) (by decide) ?_
    refine lv_iconst (v := 0) hx hb d_Ga_mayBreak_111 (by decide) ?_
    exact kf_z C hr d_Ga_mayBreak_112 (Or.inl rfl) hw
  by_cases h6_2 : ((S.1 18) p1.toNatClampNeg) = 3
  · have hw := hw.2.2.1 h6_2
    refine lv_tableIn (tgt := 80) hx hb d_Ga_mayBreak_6 (by rw [h6_2]; decide) (by rw [h6_2]; decide) (by rw [h6_2]; rfl) (by decide) ?_
    refine lv_iload_n hx hb d_Ga_mayBreak_80 rfl (lv_at hl 1 rfl) ?_
    refine lv_iload_n hx hb d_Ga_mayBreak_81 rfl (lv_at hl 2 rfl) ?_
    refine lv_icmp_lt (tgt := 109) hx hb d_Ga_mayBreak_82 (by decide) (fun hc => ?_) (fun hc => ?_)
    · have hw := hw.1 hc
      refine lv_iconst (v := 0) hx hb d_Ga_mayBreak_109 (by decide) ?_
      exact kf_z C hr d_Ga_mayBreak_110 (Or.inl rfl) hw
    · have hw := hw.2 hc
      refine lv_iload_n hx hb d_Ga_mayBreak_85 rfl (lv_at hl 1 rfl) ?_
      refine lv_aload_n hx hb d_Ga_mayBreak_86 rfl (lv_at hl 0 rfl) ?_
      refine kg (C1 := R_Ga) (T := F_Ga) (N := 12) (ci := 0) (ref := "LineBreaker$Galley") (v := .int (S.2.2 1099)) C w 17 11 iw_Ga rfl rfl (by decide) kw_159 rfl rfl d_Ga_mayBreak_87 ?_
      refine lv_icmp_ge (tgt := 109) hx hb d_Ga_mayBreak_90 (by decide) (fun hc => ?_) (fun hc => ?_)
      · have hw := hw.1 hc
        refine lv_iconst (v := 0) hx hb d_Ga_mayBreak_109 (by decide) ?_
        exact kf_z C hr d_Ga_mayBreak_110 (Or.inl rfl) hw
      · have hw := hw.2 hc
        refine lv_aload_n hx hb d_Ga_mayBreak_93 rfl (lv_at hl 0 rfl) ?_
        refine kg (C1 := R_Ga) (T := F_Ga) (N := 12) (ci := 0) (ref := "LineBreaker$Galley") (v := .ref (ad 18)) C w 17 0 iw_Ga rfl rfl (by decide) kw_142 rfl rfl d_Ga_mayBreak_94 ?_
        refine lv_iload_n hx hb d_Ga_mayBreak_97 rfl (lv_at hl 1 rfl) ?_
        refine lv_iconst (v := 1) hx hb d_Ga_mayBreak_98 (by decide) ?_
        refine lv_iadd hx hb d_Ga_mayBreak_99 ?_
        refine ka_i (f := (S.1 18)) C w 18 rfl hw.1 d_Ga_mayBreak_100 ?_
        have hw := hw.2
        refine lv_iconst (v := 1) hx hb d_Ga_mayBreak_101 (by decide) ?_
        refine lv_icmp_ne (tgt := 109) hx hb d_Ga_mayBreak_102 (by decide) (fun hc => ?_) (fun hc => ?_)
        · have hw := hw.1 hc
          refine lv_iconst (v := 0) hx hb d_Ga_mayBreak_109 (by decide) ?_
          exact kf_z C hr d_Ga_mayBreak_110 (Or.inl rfl) hw
        · have hw := hw.2 hc
          refine lv_iconst (v := 1) hx hb d_Ga_mayBreak_105 (by decide) ?_
          refine lv_goto (tgt := 110) hx hb d_Ga_mayBreak_106 (by decide) ?_
          exact kf_z C hr d_Ga_mayBreak_110 (Or.inr rfl) hw
  by_cases h6_3 : ((S.1 18) p1.toNatClampNeg) = 4
  · have hw := hw.2.2.2.1 h6_3
    refine lv_tableIn (tgt := 40) hx hb d_Ga_mayBreak_6 (by rw [h6_3]; decide) (by rw [h6_3]; decide) (by rw [h6_3]; rfl) (by decide) ?_
    refine lv_iconst (v := 1) hx hb d_Ga_mayBreak_40 (by decide) ?_
    exact kf_z C hr d_Ga_mayBreak_41 (Or.inr rfl) hw
  by_cases h6_4 : ((S.1 18) p1.toNatClampNeg) = 5
  · have hw := hw.2.2.2.2.1 h6_4
    refine lv_tableIn (tgt := 40) hx hb d_Ga_mayBreak_6 (by rw [h6_4]; decide) (by rw [h6_4]; decide) (by rw [h6_4]; rfl) (by decide) ?_
    refine lv_iconst (v := 1) hx hb d_Ga_mayBreak_40 (by decide) ?_
    exact kf_z C hr d_Ga_mayBreak_41 (Or.inr rfl) hw
  have hw := hw.2.2.2.2.2 h6_0 h6_1 h6_2 h6_3 h6_4
  have t6_0 := lv_neT h6_0 (show (1 : Int32).toInt = 1 by decide)
  have t6_1 := lv_neT h6_1 (show (2 : Int32).toInt = 2 by decide)
  have t6_2 := lv_neT h6_2 (show (3 : Int32).toInt = 3 by decide)
  have t6_3 := lv_neT h6_3 (show (4 : Int32).toInt = 4 by decide)
  have t6_4 := lv_neT h6_4 (show (5 : Int32).toInt = 5 by decide)
  refine lv_tableOut (tgt := 111) hx hb d_Ga_mayBreak_6 (by omega) (by decide) ?_
  refine lv_iconst (v := 0) hx hb d_Ga_mayBreak_111 (by decide) ?_
  exact kf_z C hr d_Ga_mayBreak_112 (Or.inl rfl) hw
set_option maxHeartbeats 4000000 in
set_option maxRecDepth 100000 in
theorem w_Ga_markPlaces_48 {S : ST} {post : (Nat → Int32) → Prop} (C : cx p s m args meth c prog_2_method_10_code 5 "LineBreaker$Galley" n0 G K) (hr : meth.sig.returnType = none) {K5 : (Nat → Int32) → Int32 → Int32 → Int32 → Prop} (hk5 : ∀ (a20 : (Nat → Int32)) (x2 : Int32) (x3 : Int32) (x4 : Int32), K5 a20 x2 x3 x4 → ∀ (H : Heap) (locs : List Loc) (ls : Array Slot), wn n0 G (wC K ad (sA S 20 a20) ++ X) s H locs → lv_has ls 5 [(0, .ref (ad 17)), (1, .ref (ad 1)), (2, .int x2), (3, .int x3), (4, .int x4)] → W p l e rm_Ga_markPlaces s m args below meth c H locs 0 0 (MQ below (va_Qv (fun (u : (Nat → Int32)) => post u) (fun (u : (Nat → Int32)) t => we n0 G (wC K ad (sA S 20 u) ++ X) t) (al n0)) args s 0 0 (al n0)) (F0 m 5 ls [])) : ∀ (a20 : (Nat → Int32)) (x2 : Int32) (x3 : Int32) (x4 : Int32) (z1 : Int32) (z2 : Int32), wl_Ga_markPlaces_48 S post K5 a20 x2 x3 x4 z1 z2 → ∀ (H : Heap) (locs : List Loc) (ls : Array Slot), wn n0 G (wC K ad (sA S 20 a20) ++ X) s H locs → lv_has ls 5 [(0, .ref (ad 17)), (1, .ref (ad 1)), (2, .int x2), (3, .int x3), (4, .int x4)] → W p l e rm_Ga_markPlaces s m args below meth c H locs 0 0 (MQ below (va_Qv (fun (u : (Nat → Int32)) => post u) (fun (u : (Nat → Int32)) t => we n0 G (wC K ad (sA S 20 u) ++ X) t) (al n0)) args s 0 0 (al n0)) (F0 m 48 ls [.int z2, .int z1, .ref (ad 20)]) := by
  have hx := C.1
  have hb := C.2.1
  have hts := C.2.2.2.2.1
  intro a20 x2 x3 x4 z1 z2 hw H locs ls w hl
  unfold wl_Ga_markPlaces_48 at hw
  obtain ⟨f1, ef1⟩ : ∃ z : Nat → Int32, z = upd a20 z1.toNatClampNeg (vp_nar .boolean z2) := ⟨_, rfl⟩
  refine ks_z (f := a20) (w2 := wC K ad (sA S 20 f1) ++ X) C w 20 rfl hw.1 (by rw [← ef1]; rfl) d_Ga_markPlaces_48 (fun H locs w => ?_)
  have hw := hw.2 f1 ef1
  refine lv_iload hx hb d_Ga_markPlaces_49 (lv_at hl 4 rfl) ?_
  refine lv_iload_n hx hb d_Ga_markPlaces_51 rfl (lv_at hl 2 rfl) ?_
  refine lv_icmp_ge (tgt := 79) hx hb d_Ga_markPlaces_52 (by decide) (fun hc => ?_) (fun hc => ?_)
  · have hw := hw.1 hc
    obtain ⟨v2, ev2⟩ : ∃ y : Int32, y = x4 + 1 := ⟨_, rfl⟩
    refine lv_iinc (v := v2) (lv' := [(4, .int v2), (0, .ref (ad 17)), (1, .ref (ad 1)), (2, .int x2), (3, .int x3)]) hx hb d_Ga_markPlaces_79 hl (k := 4) rfl (by rw [ev2]; rfl) (by decide) rfl (fun ls hl => ?_)
    have hw := hw v2 ev2
    refine lv_goto (tgt := 5) hx hb d_Ga_markPlaces_82 (by decide) ?_
    exact hk5 f1 x2 x3 v2 hw _ _ _ (wn_eq w rfl) (lv_sub hl [1, 2, 3, 4, 0] rfl)
  · have hw := hw.2 hc
    refine lv_aload_n hx hb d_Ga_markPlaces_55 rfl (lv_at hl 0 rfl) ?_
    refine kg (C1 := R_Ga) (T := F_Ga) (N := 12) (ci := 0) (ref := "LineBreaker$Galley") (v := .ref (ad 18)) C w 17 0 iw_Ga rfl rfl (by decide) kw_142 rfl rfl d_Ga_markPlaces_56 ?_
    refine lv_iload hx hb d_Ga_markPlaces_59 (lv_at hl 4 rfl) ?_
    refine ka_i (f := (S.1 18)) C w 18 rfl hw.1 d_Ga_markPlaces_61 ?_
    have hw := hw.2
    refine lv_iconst (v := 5) hx hb d_Ga_markPlaces_62 (by decide) ?_
    refine lv_icmp_ne (tgt := 79) hx hb d_Ga_markPlaces_63 (by decide) (fun hc => ?_) (fun hc => ?_)
    · have hw := hw.1 hc
      obtain ⟨v3, ev3⟩ : ∃ y : Int32, y = x4 + 1 := ⟨_, rfl⟩
      refine lv_iinc (v := v3) (lv' := [(4, .int v3), (0, .ref (ad 17)), (1, .ref (ad 1)), (2, .int x2), (3, .int x3)]) hx hb d_Ga_markPlaces_79 hl (k := 4) rfl (by rw [ev3]; rfl) (by decide) rfl (fun ls hl => ?_)
      have hw := hw v3 ev3
      refine lv_goto (tgt := 5) hx hb d_Ga_markPlaces_82 (by decide) ?_
      exact hk5 f1 x2 x3 v3 hw _ _ _ (wn_eq w rfl) (lv_sub hl [1, 2, 3, 4, 0] rfl)
    · have hw := hw.2 hc
      refine lv_iload hx hb d_Ga_markPlaces_66 (lv_at hl 4 rfl) ?_
      refine lv_iconst (v := 1) hx hb d_Ga_markPlaces_68 (by decide) ?_
      refine lv_iadd hx hb d_Ga_markPlaces_69 ?_
      refine lv_aload_n hx hb d_Ga_markPlaces_70 rfl (lv_at hl 1 rfl) ?_
      refine kg (C1 := R_Pa) (T := F_Pa) (N := 10) (ci := 6) (ref := "LineBreaker$Paragraph") (v := .ref (ad 10)) C w 1 8 iw_Pa rfl rfl (by decide) kw_52 rfl rfl d_Ga_markPlaces_71 ?_
      refine lv_iload hx hb d_Ga_markPlaces_74 (lv_at hl 4 rfl) ?_
      refine ka_i (f := (S.1 10)) C w 10 rfl hw.1 d_Ga_markPlaces_76 ?_
      have hw := hw.2
      refine lv_iadd hx hb d_Ga_markPlaces_77 ?_
      refine lv_topi (fun v4 ev4 => ?_)
      have hw := hw v4 ev4
      refine lv_istore_n (lv' := [(3, .int v4), (0, .ref (ad 17)), (1, .ref (ad 1)), (2, .int x2), (4, .int x4)]) hx hb d_Ga_markPlaces_78 rfl hl (by decide) rfl (fun ls hl => ?_)
      obtain ⟨v5, ev5⟩ : ∃ y : Int32, y = x4 + 1 := ⟨_, rfl⟩
      refine lv_iinc (v := v5) (lv' := [(4, .int v5), (3, .int v4), (0, .ref (ad 17)), (1, .ref (ad 1)), (2, .int x2)]) hx hb d_Ga_markPlaces_79 hl (k := 4) rfl (by rw [ev5]; rfl) (by decide) rfl (fun ls hl => ?_)
      have hw := hw v5 ev5
      refine lv_goto (tgt := 5) hx hb d_Ga_markPlaces_82 (by decide) ?_
      exact hk5 f1 x2 v4 v5 hw _ _ _ (wn_eq w rfl) (lv_sub hl [2, 3, 4, 1, 0] rfl)
set_option maxHeartbeats 4000000 in
set_option maxRecDepth 100000 in
theorem w_Ga_markPlaces_47 {S : ST} {post : (Nat → Int32) → Prop} (C : cx p s m args meth c prog_2_method_10_code 5 "LineBreaker$Galley" n0 G K) (hr : meth.sig.returnType = none) {K5 : (Nat → Int32) → Int32 → Int32 → Int32 → Prop} (hk5 : ∀ (a20 : (Nat → Int32)) (x2 : Int32) (x3 : Int32) (x4 : Int32), K5 a20 x2 x3 x4 → ∀ (H : Heap) (locs : List Loc) (ls : Array Slot), wn n0 G (wC K ad (sA S 20 a20) ++ X) s H locs → lv_has ls 5 [(0, .ref (ad 17)), (1, .ref (ad 1)), (2, .int x2), (3, .int x3), (4, .int x4)] → W p l e rm_Ga_markPlaces s m args below meth c H locs 0 0 (MQ below (va_Qv (fun (u : (Nat → Int32)) => post u) (fun (u : (Nat → Int32)) t => we n0 G (wC K ad (sA S 20 u) ++ X) t) (al n0)) args s 0 0 (al n0)) (F0 m 5 ls [])) : ∀ (a20 : (Nat → Int32)) (x2 : Int32) (x3 : Int32) (x4 : Int32) (z1 : Int32), wl_Ga_markPlaces_47 S post K5 a20 x2 x3 x4 z1 → ∀ (H : Heap) (locs : List Loc) (ls : Array Slot), wn n0 G (wC K ad (sA S 20 a20) ++ X) s H locs → lv_has ls 5 [(0, .ref (ad 17)), (1, .ref (ad 1)), (2, .int x2), (3, .int x3), (4, .int x4)] → W p l e rm_Ga_markPlaces s m args below meth c H locs 0 0 (MQ below (va_Qv (fun (u : (Nat → Int32)) => post u) (fun (u : (Nat → Int32)) t => we n0 G (wC K ad (sA S 20 u) ++ X) t) (al n0)) args s 0 0 (al n0)) (F0 m 47 ls [.int z1, .ref (ad 20)]) := by
  have hx := C.1
  have hb := C.2.1
  have hts := C.2.2.2.2.1
  intro a20 x2 x3 x4 z1 hw H locs ls w hl
  unfold wl_Ga_markPlaces_47 at hw
  refine lv_iconst (v := 0) hx hb d_Ga_markPlaces_47 (by decide) ?_
  exact w_Ga_markPlaces_48 C hr hk5 a20 x2 x3 x4 z1 0 hw _ _ _ (wn_eq w rfl) (lv_sub hl [0, 1, 2, 3, 4] rfl)
set_option maxHeartbeats 4000000 in
set_option maxRecDepth 100000 in
theorem w_Ga_markPlaces_5 {S : ST} {post : (Nat → Int32) → Prop} (C : cx p s m args meth c prog_2_method_10_code 5 "LineBreaker$Galley" n0 G K) (hr : meth.sig.returnType = none) : ∀ (n : Nat) (a20 : (Nat → Int32)) (x2 : Int32) (x3 : Int32) (x4 : Int32), wl_Ga_markPlaces_5 S post n a20 x2 x3 x4 → ∀ (H : Heap) (locs : List Loc) (ls : Array Slot), wn n0 G (wC K ad (sA S 20 a20) ++ X) s H locs → lv_has ls 5 [(0, .ref (ad 17)), (1, .ref (ad 1)), (2, .int x2), (3, .int x3), (4, .int x4)] → W p l e rm_Ga_markPlaces s m args below meth c H locs 0 0 (MQ below (va_Qv (fun (u : (Nat → Int32)) => post u) (fun (u : (Nat → Int32)) t => we n0 G (wC K ad (sA S 20 u) ++ X) t) (al n0)) args s 0 0 (al n0)) (F0 m 5 ls []) := by
  have hx := C.1
  have hb := C.2.1
  have hts := C.2.2.2.2.1
  intro n
  induction n with
  | zero =>
    intro a20 x2 x3 x4 hw
    unfold wl_Ga_markPlaces_5 at hw
    exact hw.elim
  | succ n ih =>
    intro a20 x2 x3 x4 hw H locs ls w hl
    unfold wl_Ga_markPlaces_5 at hw
    refine lv_iload hx hb d_Ga_markPlaces_5 (lv_at hl 4 rfl) ?_
    refine lv_aload_n hx hb d_Ga_markPlaces_7 rfl (lv_at hl 0 rfl) ?_
    refine kg (C1 := R_Ga) (T := F_Ga) (N := 12) (ci := 0) (ref := "LineBreaker$Galley") (v := .int (S.2.2 1099)) C w 17 11 iw_Ga rfl rfl (by decide) kw_159 rfl rfl d_Ga_markPlaces_8 ?_
    refine lv_icmp_gt (tgt := 85) hx hb d_Ga_markPlaces_11 (by decide) (fun hc => ?_) (fun hc => ?_)
    · have hw := hw.1 hc
      exact ke_v (post := (fun (u : (Nat → Int32)) => post u)) (st := (fun (u : (Nat → Int32)) => wC K ad (sA S 20 u) ++ X)) (u := a20) C hr d_Ga_markPlaces_85 (wn_eq w rfl) hw
    · have hw := hw.2 hc
      refine lv_aload_n hx hb d_Ga_markPlaces_14 rfl (lv_at hl 0 rfl) ?_
      refine kg (C1 := R_Ga) (T := F_Ga) (N := 12) (ci := 0) (ref := "LineBreaker$Galley") (v := .ref (ad 20)) C w 17 2 iw_Ga rfl rfl (by decide) kw_145 rfl rfl d_Ga_markPlaces_15 ?_
      refine lv_iload hx hb d_Ga_markPlaces_18 (lv_at hl 4 rfl) ?_
      refine lv_aload_n hx hb d_Ga_markPlaces_20 rfl (lv_at hl 0 rfl) ?_
      refine kg (C1 := R_Ga) (T := F_Ga) (N := 12) (ci := 0) (ref := "LineBreaker$Galley") (v := .ref (ad 19)) C w 17 1 iw_Ga rfl rfl (by decide) kw_143 rfl rfl d_Ga_markPlaces_21 ?_
      refine lv_iload hx hb d_Ga_markPlaces_24 (lv_at hl 4 rfl) ?_
      refine ka_i (f := (S.1 19)) C w 19 rfl hw.1 d_Ga_markPlaces_26 ?_
      have hw := hw.2
      refine lv_sipush (v := 10000) hx hb d_Ga_markPlaces_27 (by decide) ?_
      refine lv_icmp_eq (tgt := 47) hx hb d_Ga_markPlaces_30 (by decide) (fun hc => ?_) (fun hc => ?_)
      · have hw := hw.1 hc
        exact w_Ga_markPlaces_47 C hr ih a20 x2 x3 x4 x4 hw _ _ _ (wn_eq w rfl) (lv_sub hl [0, 1, 2, 3, 4] rfl)
      · have hw := hw.2 hc
        refine lv_aload_n hx hb d_Ga_markPlaces_33 rfl (lv_at hl 0 rfl) ?_
        refine lv_iload hx hb d_Ga_markPlaces_34 (lv_at hl 4 rfl) ?_
        refine lv_iload_n hx hb d_Ga_markPlaces_36 rfl (lv_at hl 3 rfl) ?_
        refine kd_i (kr_V (y := y_Ga_mayBreak) (C1 := R_Ga) (T := F_Ga) (N := 12) (ci := 0) (q0 := 17) (As := [.int x4, .int x3]) (n := 2) C w (c_Ga_mayBreak l n0 G K ad X (sA S 20 a20) x4 x3 _ hw) (gw_V kw_699 kw_701 kp_8 kw_5 kw_702) (by decide +kernel) rfl rfl ⟨Nat.le_of_ble_eq_true rfl, Nat.le_of_ble_eq_true rfl⟩ rfl rfl rfl hl.1 rfl (Nat.le_of_ble_eq_true rfl) d_Ga_markPlaces_37 ⟨Nat.le_of_ble_eq_true rfl, Nat.le_of_ble_eq_true rfl⟩) (fun r1 hw => ?_)
        refine lv_if_eq (tgt := 47) hx hb d_Ga_markPlaces_40 (by decide) (fun hc => ?_) (fun hc => ?_)
        · have hw := hw.1 hc
          exact w_Ga_markPlaces_47 C hr ih a20 x2 x3 x4 x4 hw _ _ _ (wn_eq w rfl) (lv_sub hl [0, 1, 2, 3, 4] rfl)
        · have hw := hw.2 hc
          refine lv_iconst (v := 1) hx hb d_Ga_markPlaces_43 (by decide) ?_
          refine lv_goto (tgt := 48) hx hb d_Ga_markPlaces_44 (by decide) ?_
          exact w_Ga_markPlaces_48 C hr ih a20 x2 x3 x4 x4 1 hw _ _ _ (wn_eq w rfl) (lv_sub hl [0, 1, 2, 3, 4] rfl)
set_option maxHeartbeats 4000000 in
set_option maxRecDepth 100000 in
theorem c_Ga_markPlaces (l : Launch) (n0 : Nat) (G : va_G) (K : KT) (ad : Nat → Nat) (X : va_W) (S : ST) (p2 : Int32) (post : (Nat → Int32) → Prop) (hw : wp_Ga_markPlaces S p2 post) : Met l y_Ga_markPlaces (Cond.code y_Ga_markPlaces prog_2_method_10_code 5 none :: gw) rm_Ga_markPlaces (va_Pc [.ref (ad 17), .ref (ad 1), .int p2] (wb n0 G K (wC K ad S ++ X))) (va_Qv (fun (u : (Nat → Int32)) => post u) (fun (u : (Nat → Int32)) t => we n0 G (wC K ad (sA S 20 u) ++ X) t) (al n0)) 0 0 (al n0) := by
  refine kb_start (own := "LineBreaker$Galley") (by decide +kernel) rfl ?_
  intro p e s m below meth c C hr hne w
  have hx := C.1
  have hb := C.2.1
  have hts := C.2.2.2.2.1
  have hl := lv_entry ([.ref (ad 17), .ref (ad 1), .int p2]) (n := 5) (Nat.le_of_ble_eq_true rfl)
  rw [lg_entry_eq]
  generalize (lg_sl ([.ref (ad 17), .ref (ad 1), .int p2]) ++ List.replicate (5 - (lg_sl ([.ref (ad 17), .ref (ad 1), .int p2])).length) Slot.unset).toArray = ls at hl ⊢
  have hl : lv_has ls 5 [(0, .ref (ad 17)), (1, .ref (ad 1)), (2, .int p2)] := hl
  unfold wp_Ga_markPlaces at hw
  refine lv_iconst (v := 0) hx hb d_Ga_markPlaces_0 (by decide) ?_
  refine lv_istore_n (lv' := [(3, .int 0), (0, .ref (ad 17)), (1, .ref (ad 1)), (2, .int p2)]) hx hb d_Ga_markPlaces_1 rfl hl (by decide) rfl (fun ls hl => ?_)
  refine lv_iconst (v := 0) hx hb d_Ga_markPlaces_2 (by decide) ?_
  refine lv_istore (lv' := [(4, .int 0), (3, .int 0), (0, .ref (ad 17)), (1, .ref (ad 1)), (2, .int p2)]) hx hb d_Ga_markPlaces_3 hl (by decide) rfl (fun ls hl => ?_)
  obtain ⟨n9, hw⟩ := hw
  exact w_Ga_markPlaces_5 C hr  n9 (S.1 20) p2 0 0 hw _ _ _ (wn_eq w rfl) (lv_sub hl [2, 3, 4, 1, 0] rfl)
set_option maxHeartbeats 4000000 in
set_option maxRecDepth 100000 in
theorem c_Ga_isLeftOut (l : Launch) (n0 : Nat) (G : va_G) (K : KT) (ad : Nat → Nat) (X : va_W) (S : ST) (p1 : Int32) (post : Int32 → Prop) (hw : wp_Ga_isLeftOut S p1 post) : Met l y_Ga_isLeftOut (Cond.code y_Ga_isLeftOut prog_2_method_13_code 1 (some .boolean) :: gw) rm_Ga_isLeftOut (va_Pc [.int p1] (wb n0 G K (wC K ad S ++ X))) (rq_i post) 0 0 (fun _ => False) := by
  refine kb_start (own := "LineBreaker$Galley") (by decide +kernel) rfl ?_
  intro p e s m below meth c C hr hne w
  have hx := C.1
  have hb := C.2.1
  have hts := C.2.2.2.2.1
  have hl := lv_entry ([.int p1]) (n := 1) (Nat.le_of_ble_eq_true rfl)
  rw [lg_entry_eq]
  generalize (lg_sl ([.int p1]) ++ List.replicate (1 - (lg_sl ([.int p1])).length) Slot.unset).toArray = ls at hl ⊢
  have hl : lv_has ls 1 [(0, .int p1)] := hl
  unfold wp_Ga_isLeftOut at hw
  refine lv_iload_n hx hb d_Ga_isLeftOut_0 rfl (lv_at hl 0 rfl) ?_
  refine lv_iconst (v := 1) hx hb d_Ga_isLeftOut_1 (by decide) ?_
  refine lv_icmp_eq (tgt := 15) hx hb d_Ga_isLeftOut_2 (by decide) (fun hc => ?_) (fun hc => ?_)
  · have hw := hw.1 hc
    refine lv_iconst (v := 1) hx hb d_Ga_isLeftOut_15 (by decide) ?_
    refine lv_goto (tgt := 20) hx hb d_Ga_isLeftOut_16 (by decide) ?_
    exact kf_z C hr d_Ga_isLeftOut_20 (Or.inr rfl) hw
  · have hw := hw.2 hc
    refine lv_iload_n hx hb d_Ga_isLeftOut_5 rfl (lv_at hl 0 rfl) ?_
    refine lv_iconst (v := 3) hx hb d_Ga_isLeftOut_6 (by decide) ?_
    refine lv_icmp_eq (tgt := 15) hx hb d_Ga_isLeftOut_7 (by decide) (fun hc => ?_) (fun hc => ?_)
    · have hw := hw.1 hc
      refine lv_iconst (v := 1) hx hb d_Ga_isLeftOut_15 (by decide) ?_
      refine lv_goto (tgt := 20) hx hb d_Ga_isLeftOut_16 (by decide) ?_
      exact kf_z C hr d_Ga_isLeftOut_20 (Or.inr rfl) hw
    · have hw := hw.2 hc
      refine lv_iload_n hx hb d_Ga_isLeftOut_10 rfl (lv_at hl 0 rfl) ?_
      refine lv_iconst (v := 4) hx hb d_Ga_isLeftOut_11 (by decide) ?_
      refine lv_icmp_ne (tgt := 19) hx hb d_Ga_isLeftOut_12 (by decide) (fun hc => ?_) (fun hc => ?_)
      · have hw := hw.1 hc
        refine lv_iconst (v := 0) hx hb d_Ga_isLeftOut_19 (by decide) ?_
        exact kf_z C hr d_Ga_isLeftOut_20 (Or.inl rfl) hw
      · have hw := hw.2 hc
        refine lv_iconst (v := 1) hx hb d_Ga_isLeftOut_15 (by decide) ?_
        refine lv_goto (tgt := 20) hx hb d_Ga_isLeftOut_16 (by decide) ?_
        exact kf_z C hr d_Ga_isLeftOut_20 (Or.inr rfl) hw
set_option maxHeartbeats 4000000 in
set_option maxRecDepth 100000 in
theorem w_Ga_findFirstOnes_55 {S : ST} {post : (Nat → Int32) → (Nat → Int32) → Prop} (C : cx p s m args meth c prog_2_method_12_code 5 "LineBreaker$Galley" n0 G K) (hr : meth.sig.returnType = none) {K22 : (Nat → Int32) → (Nat → Int32) → Int32 → Int32 → Prop} (hk22 : ∀ (a21 : (Nat → Int32)) (a28 : (Nat → Int32)) (x2 : Int32) (x3 : Int32), K22 a21 a28 x2 x3 → ∀ (H : Heap) (locs : List Loc) (ls : Array Slot), wn n0 G (wC K ad (sA (sA S 21 a21) 28 a28) ++ X) s H locs → lv_has ls 5 [(0, .ref (ad 17)), (1, .ref (ad 1)), (2, .int x2), (3, .int x3)] → W p l e rm_Ga_findFirstOnes s m args below meth c H locs 0 0 (MQ below (va_Qv (fun (u : (Nat → Int32) × (Nat → Int32)) => post u.1 u.2) (fun (u : (Nat → Int32) × (Nat → Int32)) t => we n0 G (wC K ad (sA (sA S 21 u.1) 28 u.2) ++ X) t) (al n0)) args s 0 0 (al n0)) (F0 m 22 ls [])) : ∀ (a21 : (Nat → Int32)) (a28 : (Nat → Int32)) (x2 : Int32) (x3 : Int32) (z1 : Int32) (z2 : Int32), wl_Ga_findFirstOnes_55 S post K22 a21 a28 x2 x3 z1 z2 → ∀ (H : Heap) (locs : List Loc) (ls : Array Slot), wn n0 G (wC K ad (sA (sA S 21 a21) 28 a28) ++ X) s H locs → lv_has ls 5 [(0, .ref (ad 17)), (1, .ref (ad 1)), (2, .int x2), (3, .int x3)] → W p l e rm_Ga_findFirstOnes s m args below meth c H locs 0 0 (MQ below (va_Qv (fun (u : (Nat → Int32) × (Nat → Int32)) => post u.1 u.2) (fun (u : (Nat → Int32) × (Nat → Int32)) t => we n0 G (wC K ad (sA (sA S 21 u.1) 28 u.2) ++ X) t) (al n0)) args s 0 0 (al n0)) (F0 m 55 ls [.int z2, .int z1, .ref (ad 28)]) := by
  have hx := C.1
  have hb := C.2.1
  have hts := C.2.2.2.2.1
  intro a21 a28 x2 x3 z1 z2 hw H locs ls w hl
  unfold wl_Ga_findFirstOnes_55 at hw
  obtain ⟨f1, ef1⟩ : ∃ z : Nat → Int32, z = upd a28 z1.toNatClampNeg z2 := ⟨_, rfl⟩
  refine ks_i (f := a28) (w2 := wC K ad (sA (sA S 21 a21) 28 f1) ++ X) C w 28 rfl hw.1 (by rw [← ef1]; rfl) d_Ga_findFirstOnes_55 (fun H locs w => ?_)
  have hw := hw.2 f1 ef1
  refine lv_aload_n hx hb d_Ga_findFirstOnes_56 rfl (lv_at hl 0 rfl) ?_
  refine kg (C1 := R_Ga) (T := F_Ga) (N := 12) (ci := 0) (ref := "LineBreaker$Galley") (v := .ref (ad 21)) C w 17 3 iw_Ga rfl rfl (by decide) kw_146 rfl rfl d_Ga_findFirstOnes_57 ?_
  refine lv_iload_n hx hb d_Ga_findFirstOnes_60 rfl (lv_at hl 3 rfl) ?_
  refine lv_aload_n hx hb d_Ga_findFirstOnes_61 rfl (lv_at hl 0 rfl) ?_
  refine kg (C1 := R_Ga) (T := F_Ga) (N := 12) (ci := 0) (ref := "LineBreaker$Galley") (v := .ref (ad 28)) C w 17 10 iw_Ga rfl rfl (by decide) kw_158 rfl rfl d_Ga_findFirstOnes_62 ?_
  refine lv_iload_n hx hb d_Ga_findFirstOnes_65 rfl (lv_at hl 3 rfl) ?_
  refine ka_i (f := f1) C w 28 rfl hw.1 d_Ga_findFirstOnes_66 ?_
  have hw := hw.2
  obtain ⟨f2, ef2⟩ : ∃ z : Nat → Int32, z = upd a21 x3.toNatClampNeg (f1 x3.toNatClampNeg) := ⟨_, rfl⟩
  refine ks_i (f := a21) (w2 := wC K ad (sA (sA S 21 f2) 28 f1) ++ X) C w 21 rfl hw.1 (by rw [← ef2]; rfl) d_Ga_findFirstOnes_67 (fun H locs w => ?_)
  have hw := hw.2 f2 ef2
  refine lv_iload_n hx hb d_Ga_findFirstOnes_68 rfl (lv_at hl 3 rfl) ?_
  refine lv_iload_n hx hb d_Ga_findFirstOnes_69 rfl (lv_at hl 2 rfl) ?_
  refine lv_icmp_ge (tgt := 131) hx hb d_Ga_findFirstOnes_70 (by decide) (fun hc => ?_) (fun hc => ?_)
  · have hw := hw.1 hc
    obtain ⟨v3, ev3⟩ : ∃ y : Int32, y = x3 + (-1) := ⟨_, rfl⟩
    refine lv_iinc (v := v3) (lv' := [(3, .int v3), (0, .ref (ad 17)), (1, .ref (ad 1)), (2, .int x2)]) hx hb d_Ga_findFirstOnes_131 hl (k := 3) rfl (by rw [ev3]; rfl) (by decide) rfl (fun ls hl => ?_)
    have hw := hw v3 ev3
    refine lv_goto (tgt := 22) hx hb d_Ga_findFirstOnes_134 (by decide) ?_
    exact hk22 f2 f1 x2 v3 hw _ _ _ (wn_eq w rfl) (lv_sub hl [1, 2, 3, 0] rfl)
  · have hw := hw.2 hc
    refine lv_aload_n hx hb d_Ga_findFirstOnes_73 rfl (lv_at hl 0 rfl) ?_
    refine kg (C1 := R_Ga) (T := F_Ga) (N := 12) (ci := 0) (ref := "LineBreaker$Galley") (v := .ref (ad 18)) C w 17 0 iw_Ga rfl rfl (by decide) kw_142 rfl rfl d_Ga_findFirstOnes_74 ?_
    refine lv_iload_n hx hb d_Ga_findFirstOnes_77 rfl (lv_at hl 3 rfl) ?_
    refine ka_i (f := (S.1 18)) C w 18 rfl hw.1 d_Ga_findFirstOnes_78 ?_
    have hw := hw.2
    refine lv_iconst (v := 5) hx hb d_Ga_findFirstOnes_79 (by decide) ?_
    refine lv_icmp_ne (tgt := 131) hx hb d_Ga_findFirstOnes_80 (by decide) (fun hc => ?_) (fun hc => ?_)
    · have hw := hw.1 hc
      obtain ⟨v4, ev4⟩ : ∃ y : Int32, y = x3 + (-1) := ⟨_, rfl⟩
      refine lv_iinc (v := v4) (lv' := [(3, .int v4), (0, .ref (ad 17)), (1, .ref (ad 1)), (2, .int x2)]) hx hb d_Ga_findFirstOnes_131 hl (k := 3) rfl (by rw [ev4]; rfl) (by decide) rfl (fun ls hl => ?_)
      have hw := hw v4 ev4
      refine lv_goto (tgt := 22) hx hb d_Ga_findFirstOnes_134 (by decide) ?_
      exact hk22 f2 f1 x2 v4 hw _ _ _ (wn_eq w rfl) (lv_sub hl [1, 2, 3, 0] rfl)
    · have hw := hw.2 hc
      refine lv_iload_n hx hb d_Ga_findFirstOnes_83 rfl (lv_at hl 3 rfl) ?_
      refine lv_iconst (v := 1) hx hb d_Ga_findFirstOnes_84 (by decide) ?_
      refine lv_iadd hx hb d_Ga_findFirstOnes_85 ?_
      refine lv_aload_n hx hb d_Ga_findFirstOnes_86 rfl (lv_at hl 1 rfl) ?_
      refine kg (C1 := R_Pa) (T := F_Pa) (N := 10) (ci := 6) (ref := "LineBreaker$Paragraph") (v := .ref (ad 10)) C w 1 8 iw_Pa rfl rfl (by decide) kw_52 rfl rfl d_Ga_findFirstOnes_87 ?_
      refine lv_iload_n hx hb d_Ga_findFirstOnes_90 rfl (lv_at hl 3 rfl) ?_
      refine ka_i (f := (S.1 10)) C w 10 rfl hw.1 d_Ga_findFirstOnes_91 ?_
      have hw := hw.2
      refine lv_iadd hx hb d_Ga_findFirstOnes_92 ?_
      refine lv_aload_n hx hb d_Ga_findFirstOnes_93 rfl (lv_at hl 0 rfl) ?_
      refine kg (C1 := R_Ga) (T := F_Ga) (N := 12) (ci := 0) (ref := "LineBreaker$Galley") (v := .int (S.2.2 1099)) C w 17 11 iw_Ga rfl rfl (by decide) kw_159 rfl rfl d_Ga_findFirstOnes_94 ?_
      refine va_mmin hx hb (C.2.2.1.trans hl.1.symm) C.2.2.2.1 (hts _ kw_710) (hts _ kw_563) (hts _ kw_17) (hts _ kw_564) (Nat.le_of_ble_eq_true rfl) (Nat.le_of_ble_eq_true rfl) (Nat.le_of_ble_eq_true rfl) (Nat.le_of_ble_eq_true rfl) d_Ga_findFirstOnes_97 ?_
      refine lv_topi (fun v5 ev5 => ?_)
      have hw := hw v5 ev5
      refine lv_istore (lv' := [(4, .int v5), (0, .ref (ad 17)), (1, .ref (ad 1)), (2, .int x2), (3, .int x3)]) hx hb d_Ga_findFirstOnes_100 hl (by decide) rfl (fun ls hl => ?_)
      refine lv_aload_n hx hb d_Ga_findFirstOnes_102 rfl (lv_at hl 1 rfl) ?_
      refine kg (C1 := R_Ga) (T := F_Ga) (N := 12) (ci := 0) (ref := "LineBreaker$Galley") (v := .ref (ad 21)) C w 17 3 iw_Ga rfl rfl (by decide) kw_146 rfl rfl d_Ga_findFirstOnes_103 ?_
      refine lv_iload_n hx hb d_Ga_findFirstOnes_106 rfl (lv_at hl 4 rfl) ?_
      refine lv_aload_n hx hb d_Ga_findFirstOnes_107 rfl (lv_at hl 2 rfl) ?_
      refine kg (C1 := R_Pa) (T := F_Pa) (N := 10) (ci := 6) (ref := "LineBreaker$Paragraph") (v := .ref (ad 9)) C w 1 7 iw_Pa rfl rfl (by decide) kw_50 rfl rfl d_Ga_findFirstOnes_108 ?_
      refine lv_iload_n hx hb d_Ga_findFirstOnes_111 rfl (lv_at hl 4 rfl) ?_
      refine ka_i (f := (S.1 9)) C w 9 rfl hw.1 d_Ga_findFirstOnes_112 ?_
      have hw := hw.2
      refine lv_ldc (v := (-1073741824)) hx hb C.2.2.2.1 (hts _ kw_677) d_Ga_findFirstOnes_113 ?_
      refine lv_icmp_ne (tgt := 128) hx hb d_Ga_findFirstOnes_115 (by decide) (fun hc => ?_) (fun hc => ?_)
      · have hw := hw.1 hc
        refine lv_iload hx hb d_Ga_findFirstOnes_128 (lv_at hl 0 rfl) ?_
        obtain ⟨f6, ef6⟩ : ∃ z : Nat → Int32, z = upd f2 x3.toNatClampNeg v5 := ⟨_, rfl⟩
        refine ks_i (f := f2) (w2 := wC K ad (sA (sA S 21 f6) 28 f1) ++ X) C w 21 rfl hw.1 (by rw [← ef6]; rfl) d_Ga_findFirstOnes_130 (fun H locs w => ?_)
        have hw := hw.2 f6 ef6
        obtain ⟨v7, ev7⟩ : ∃ y : Int32, y = x3 + (-1) := ⟨_, rfl⟩
        refine lv_iinc (v := v7) (lv' := [(3, .int v7), (4, .int v5), (0, .ref (ad 17)), (1, .ref (ad 1)), (2, .int x2)]) hx hb d_Ga_findFirstOnes_131 hl (k := 4) rfl (by rw [ev7]; rfl) (by decide) rfl (fun ls hl => ?_)
        have hw := hw v7 ev7
        refine lv_goto (tgt := 22) hx hb d_Ga_findFirstOnes_134 (by decide) ?_
        exact hk22 f6 f1 x2 v7 hw _ _ _ (wn_eq w rfl) (lv_sub hl [2, 3, 4, 0] rfl)
      · have hw := hw.2 hc
        refine lv_aload_n hx hb d_Ga_findFirstOnes_118 rfl (lv_at hl 1 rfl) ?_
        refine kg (C1 := R_Ga) (T := F_Ga) (N := 12) (ci := 0) (ref := "LineBreaker$Galley") (v := .ref (ad 28)) C w 17 10 iw_Ga rfl rfl (by decide) kw_158 rfl rfl d_Ga_findFirstOnes_119 ?_
        refine lv_iload hx hb d_Ga_findFirstOnes_122 (lv_at hl 0 rfl) ?_
        refine ka_i (f := f1) C w 28 rfl hw.1 d_Ga_findFirstOnes_124 ?_
        have hw := hw.2
        refine lv_goto (tgt := 130) hx hb d_Ga_findFirstOnes_125 (by decide) ?_
        obtain ⟨f8, ef8⟩ : ∃ z : Nat → Int32, z = upd f2 x3.toNatClampNeg (f1 v5.toNatClampNeg) := ⟨_, rfl⟩
        refine ks_i (f := f2) (w2 := wC K ad (sA (sA S 21 f8) 28 f1) ++ X) C w 21 rfl hw.1 (by rw [← ef8]; rfl) d_Ga_findFirstOnes_130 (fun H locs w => ?_)
        have hw := hw.2 f8 ef8
        obtain ⟨v9, ev9⟩ : ∃ y : Int32, y = x3 + (-1) := ⟨_, rfl⟩
        refine lv_iinc (v := v9) (lv' := [(3, .int v9), (4, .int v5), (0, .ref (ad 17)), (1, .ref (ad 1)), (2, .int x2)]) hx hb d_Ga_findFirstOnes_131 hl (k := 4) rfl (by rw [ev9]; rfl) (by decide) rfl (fun ls hl => ?_)
        have hw := hw v9 ev9
        refine lv_goto (tgt := 22) hx hb d_Ga_findFirstOnes_134 (by decide) ?_
        exact hk22 f8 f1 x2 v9 hw _ _ _ (wn_eq w rfl) (lv_sub hl [2, 3, 4, 0] rfl)
set_option maxHeartbeats 4000000 in
set_option maxRecDepth 100000 in
theorem w_Ga_findFirstOnes_22 {S : ST} {post : (Nat → Int32) → (Nat → Int32) → Prop} (C : cx p s m args meth c prog_2_method_12_code 5 "LineBreaker$Galley" n0 G K) (hr : meth.sig.returnType = none) : ∀ (n : Nat) (a21 : (Nat → Int32)) (a28 : (Nat → Int32)) (x2 : Int32) (x3 : Int32), wl_Ga_findFirstOnes_22 S post n a21 a28 x2 x3 → ∀ (H : Heap) (locs : List Loc) (ls : Array Slot), wn n0 G (wC K ad (sA (sA S 21 a21) 28 a28) ++ X) s H locs → lv_has ls 5 [(0, .ref (ad 17)), (1, .ref (ad 1)), (2, .int x2), (3, .int x3)] → W p l e rm_Ga_findFirstOnes s m args below meth c H locs 0 0 (MQ below (va_Qv (fun (u : (Nat → Int32) × (Nat → Int32)) => post u.1 u.2) (fun (u : (Nat → Int32) × (Nat → Int32)) t => we n0 G (wC K ad (sA (sA S 21 u.1) 28 u.2) ++ X) t) (al n0)) args s 0 0 (al n0)) (F0 m 22 ls []) := by
  have hx := C.1
  have hb := C.2.1
  have hts := C.2.2.2.2.1
  intro n
  induction n with
  | zero =>
    intro a21 a28 x2 x3 hw
    unfold wl_Ga_findFirstOnes_22 at hw
    exact hw.elim
  | succ n ih =>
    intro a21 a28 x2 x3 hw H locs ls w hl
    unfold wl_Ga_findFirstOnes_22 at hw
    refine lv_iload_n hx hb d_Ga_findFirstOnes_22 rfl (lv_at hl 3 rfl) ?_
    refine lv_if_lt (tgt := 137) hx hb d_Ga_findFirstOnes_23 (by decide) (fun hc => ?_) (fun hc => ?_)
    · have hw := hw.1 hc
      exact ke_v (post := (fun (u : (Nat → Int32) × (Nat → Int32)) => post u.1 u.2)) (st := (fun (u : (Nat → Int32) × (Nat → Int32)) => wC K ad (sA (sA S 21 u.1) 28 u.2) ++ X)) (u := (a21, a28)) C hr d_Ga_findFirstOnes_137 (wn_eq w rfl) hw
    · have hw := hw.2 hc
      refine lv_aload_n hx hb d_Ga_findFirstOnes_26 rfl (lv_at hl 0 rfl) ?_
      refine kg (C1 := R_Ga) (T := F_Ga) (N := 12) (ci := 0) (ref := "LineBreaker$Galley") (v := .ref (ad 28)) C w 17 10 iw_Ga rfl rfl (by decide) kw_158 rfl rfl d_Ga_findFirstOnes_27 ?_
      refine lv_iload_n hx hb d_Ga_findFirstOnes_30 rfl (lv_at hl 3 rfl) ?_
      refine lv_aload_n hx hb d_Ga_findFirstOnes_31 rfl (lv_at hl 0 rfl) ?_
      refine kg (C1 := R_Ga) (T := F_Ga) (N := 12) (ci := 0) (ref := "LineBreaker$Galley") (v := .ref (ad 18)) C w 17 0 iw_Ga rfl rfl (by decide) kw_142 rfl rfl d_Ga_findFirstOnes_32 ?_
      refine lv_iload_n hx hb d_Ga_findFirstOnes_35 rfl (lv_at hl 3 rfl) ?_
      refine ka_i (f := (S.1 18)) C w 18 rfl hw.1 d_Ga_findFirstOnes_36 ?_
      have hw := hw.2
      refine kd_i (kr_S (y := y_Ga_isLeftOut) (As := [.int ((S.1 18) x3.toNatClampNeg)]) (n := 1) C w (c_Ga_isLeftOut l n0 G K ad X (sA (sA S 21 a21) 28 a28) ((S.1 18) x3.toNatClampNeg) _ hw) (gw_S kw_707 kw_708 kw_5 kw_709) (by decide +kernel) rfl rfl ⟨Nat.le_of_ble_eq_true rfl, Nat.le_of_ble_eq_true rfl⟩ rfl hl.1 rfl (Nat.le_of_ble_eq_true rfl) d_Ga_findFirstOnes_37 ⟨Nat.le_of_ble_eq_true rfl, Nat.le_of_ble_eq_true rfl⟩) (fun r1 hw => ?_)
      refine lv_if_eq (tgt := 54) hx hb d_Ga_findFirstOnes_40 (by decide) (fun hc => ?_) (fun hc => ?_)
      · have hw := hw.1 hc
        refine lv_iload_n hx hb d_Ga_findFirstOnes_54 rfl (lv_at hl 3 rfl) ?_
        exact w_Ga_findFirstOnes_55 C hr ih a21 a28 x2 x3 x3 x3 hw _ _ _ (wn_eq w rfl) (lv_sub hl [0, 1, 2, 3] rfl)
      · have hw := hw.2 hc
        refine lv_aload_n hx hb d_Ga_findFirstOnes_43 rfl (lv_at hl 0 rfl) ?_
        refine kg (C1 := R_Ga) (T := F_Ga) (N := 12) (ci := 0) (ref := "LineBreaker$Galley") (v := .ref (ad 28)) C w 17 10 iw_Ga rfl rfl (by decide) kw_158 rfl rfl d_Ga_findFirstOnes_44 ?_
        refine lv_iload_n hx hb d_Ga_findFirstOnes_47 rfl (lv_at hl 3 rfl) ?_
        refine lv_iconst (v := 1) hx hb d_Ga_findFirstOnes_48 (by decide) ?_
        refine lv_iadd hx hb d_Ga_findFirstOnes_49 ?_
        refine ka_i (f := a28) C w 28 rfl hw.1 d_Ga_findFirstOnes_50 ?_
        have hw := hw.2
        refine lv_goto (tgt := 55) hx hb d_Ga_findFirstOnes_51 (by decide) ?_
        exact w_Ga_findFirstOnes_55 C hr ih a21 a28 x2 x3 x3 (a28 (x3 + 1).toNatClampNeg) hw _ _ _ (wn_eq w rfl) (lv_sub hl [0, 1, 2, 3] rfl)
set_option maxHeartbeats 4000000 in
set_option maxRecDepth 100000 in
theorem c_Ga_findFirstOnes (l : Launch) (n0 : Nat) (G : va_G) (K : KT) (ad : Nat → Nat) (X : va_W) (S : ST) (p2 : Int32) (post : (Nat → Int32) → (Nat → Int32) → Prop) (hw : wp_Ga_findFirstOnes S p2 post) : Met l y_Ga_findFirstOnes (Cond.code y_Ga_findFirstOnes prog_2_method_12_code 5 none :: gw) rm_Ga_findFirstOnes (va_Pc [.ref (ad 17), .ref (ad 1), .int p2] (wb n0 G K (wC K ad S ++ X))) (va_Qv (fun (u : (Nat → Int32) × (Nat → Int32)) => post u.1 u.2) (fun (u : (Nat → Int32) × (Nat → Int32)) t => we n0 G (wC K ad (sA (sA S 21 u.1) 28 u.2) ++ X) t) (al n0)) 0 0 (al n0) := by
  refine kb_start (own := "LineBreaker$Galley") (by decide +kernel) rfl ?_
  intro p e s m below meth c C hr hne w
  have hx := C.1
  have hb := C.2.1
  have hts := C.2.2.2.2.1
  have hl := lv_entry ([.ref (ad 17), .ref (ad 1), .int p2]) (n := 5) (Nat.le_of_ble_eq_true rfl)
  rw [lg_entry_eq]
  generalize (lg_sl ([.ref (ad 17), .ref (ad 1), .int p2]) ++ List.replicate (5 - (lg_sl ([.ref (ad 17), .ref (ad 1), .int p2])).length) Slot.unset).toArray = ls at hl ⊢
  have hl : lv_has ls 5 [(0, .ref (ad 17)), (1, .ref (ad 1)), (2, .int p2)] := hl
  unfold wp_Ga_findFirstOnes at hw
  refine lv_aload_n hx hb d_Ga_findFirstOnes_0 rfl (lv_at hl 0 rfl) ?_
  refine kg (C1 := R_Ga) (T := F_Ga) (N := 12) (ci := 0) (ref := "LineBreaker$Galley") (v := .ref (ad 28)) C w 17 10 iw_Ga rfl rfl (by decide) kw_158 rfl rfl d_Ga_findFirstOnes_1 ?_
  refine lv_aload_n hx hb d_Ga_findFirstOnes_4 rfl (lv_at hl 0 rfl) ?_
  refine kg (C1 := R_Ga) (T := F_Ga) (N := 12) (ci := 0) (ref := "LineBreaker$Galley") (v := .int (S.2.2 1099)) C w 17 11 iw_Ga rfl rfl (by decide) kw_159 rfl rfl d_Ga_findFirstOnes_5 ?_
  refine lv_iconst (v := 1) hx hb d_Ga_findFirstOnes_8 (by decide) ?_
  refine lv_iadd hx hb d_Ga_findFirstOnes_9 ?_
  refine lv_aload_n hx hb d_Ga_findFirstOnes_10 rfl (lv_at hl 0 rfl) ?_
  refine kg (C1 := R_Ga) (T := F_Ga) (N := 12) (ci := 0) (ref := "LineBreaker$Galley") (v := .int (S.2.2 1099)) C w 17 11 iw_Ga rfl rfl (by decide) kw_159 rfl rfl d_Ga_findFirstOnes_11 ?_
  refine lv_iconst (v := 1) hx hb d_Ga_findFirstOnes_14 (by decide) ?_
  refine lv_iadd hx hb d_Ga_findFirstOnes_15 ?_
  obtain ⟨f1, ef1⟩ : ∃ z : Nat → Int32, z = upd (S.1 28) (((S.2.2 1099) + 1).toNatClampNeg) ((S.2.2 1099) + 1) := ⟨_, rfl⟩
  refine ks_i (f := (S.1 28)) (w2 := wC K ad (sA S 28 f1) ++ X) C w 28 rfl hw.1 (by rw [← ef1]; rfl) d_Ga_findFirstOnes_16 (fun H locs w => ?_)
  have hw := hw.2 f1 ef1
  refine lv_aload_n hx hb d_Ga_findFirstOnes_17 rfl (lv_at hl 0 rfl) ?_
  refine kg (C1 := R_Ga) (T := F_Ga) (N := 12) (ci := 0) (ref := "LineBreaker$Galley") (v := .int (S.2.2 1099)) C w 17 11 iw_Ga rfl rfl (by decide) kw_159 rfl rfl d_Ga_findFirstOnes_18 ?_
  refine lv_topi (fun v2 ev2 => ?_)
  have hw := hw v2 ev2
  refine lv_istore_n (lv' := [(3, .int v2), (0, .ref (ad 17)), (1, .ref (ad 1)), (2, .int p2)]) hx hb d_Ga_findFirstOnes_21 rfl hl (by decide) rfl (fun ls hl => ?_)
  obtain ⟨n9, hw⟩ := hw
  exact w_Ga_findFirstOnes_22 C hr  n9 (S.1 21) f1 p2 v2 hw _ _ _ (wn_eq w rfl) (lv_sub hl [1, 2, 3, 0] rfl)
set_option maxHeartbeats 4000000 in
set_option maxRecDepth 100000 in
theorem c_Ga_prepare (l : Launch) (n0 : Nat) (G : va_G) (K : KT) (ad : Nat → Nat) (X : va_W) (S : ST) (post : (Nat → Int32) → (Nat → Int32) → (Nat → Int32) → (Nat → Int32) → (Nat → Int32) → (Nat → Int32) → (Nat → Int32) → (Nat → Int32) → (Nat → Int32) → (Nat → Int32) → (Nat → Int32) → Int32 → Prop) (hw : wp_Ga_prepare S  post) : Met l y_Ga_prepare (Cond.code y_Ga_prepare prog_2_method_2_code 4 none :: gw) rm_Ga_prepare (va_Pc [.ref (ad 17), .ref (ad 1), .ref (ad 11)] (wb n0 G K (wC K ad S ++ X))) (va_Qv (fun (u : (Nat → Int32) × (Nat → Int32) × (Nat → Int32) × (Nat → Int32) × (Nat → Int32) × (Nat → Int32) × (Nat → Int32) × (Nat → Int32) × (Nat → Int32) × (Nat → Int32) × (Nat → Int32) × Int32) => post u.1 u.2.1 u.2.2.1 u.2.2.2.1 u.2.2.2.2.1 u.2.2.2.2.2.1 u.2.2.2.2.2.2.1 u.2.2.2.2.2.2.2.1 u.2.2.2.2.2.2.2.2.1 u.2.2.2.2.2.2.2.2.2.1 u.2.2.2.2.2.2.2.2.2.2.1 u.2.2.2.2.2.2.2.2.2.2.2) (fun (u : (Nat → Int32) × (Nat → Int32) × (Nat → Int32) × (Nat → Int32) × (Nat → Int32) × (Nat → Int32) × (Nat → Int32) × (Nat → Int32) × (Nat → Int32) × (Nat → Int32) × (Nat → Int32) × Int32) t => we n0 G (wC K ad (sI (sA (sA (sA (sA (sA (sA (sA (sA (sA (sA (sA S 18 u.1) 19 u.2.1) 20 u.2.2.1) 21 u.2.2.2.1) 22 u.2.2.2.2.1) 23 u.2.2.2.2.2.1) 24 u.2.2.2.2.2.2.1) 25 u.2.2.2.2.2.2.2.1) 26 u.2.2.2.2.2.2.2.2.1) 27 u.2.2.2.2.2.2.2.2.2.1) 28 u.2.2.2.2.2.2.2.2.2.2.1) 1099 u.2.2.2.2.2.2.2.2.2.2.2) ++ X) t) (al n0)) 0 0 (al n0) := by
  refine kb_start (own := "LineBreaker$Galley") (by decide +kernel) rfl ?_
  intro p e s m below meth c C hr hne w
  have hx := C.1
  have hb := C.2.1
  have hts := C.2.2.2.2.1
  have hl := lv_entry ([.ref (ad 17), .ref (ad 1), .ref (ad 11)]) (n := 4) (Nat.le_of_ble_eq_true rfl)
  rw [lg_entry_eq]
  generalize (lg_sl ([.ref (ad 17), .ref (ad 1), .ref (ad 11)]) ++ List.replicate (4 - (lg_sl ([.ref (ad 17), .ref (ad 1), .ref (ad 11)])).length) Slot.unset).toArray = ls at hl ⊢
  have hl : lv_has ls 4 [(0, .ref (ad 17)), (1, .ref (ad 1)), (2, .ref (ad 11))] := hl
  unfold wp_Ga_prepare at hw
  refine lv_aload_n hx hb d_Ga_prepare_0 rfl (lv_at hl 1 rfl) ?_
  refine kd_i (kr_V (y := y_Pa_countWithoutLastGlue) (C1 := R_Pa) (T := F_Pa) (N := 10) (ci := 6) (q0 := 1) (As := []) (n := 0) C w (c_Pa_countWithoutLastGlue l n0 G K ad X S  _ hw) (gw_V kw_669 kw_670 kw_671 kw_2 kw_672) (by decide +kernel) rfl rfl ⟨Nat.le_of_ble_eq_true rfl, Nat.le_of_ble_eq_true rfl⟩ rfl rfl rfl hl.1 rfl (Nat.le_of_ble_eq_true rfl) d_Ga_prepare_1 ⟨Nat.le_of_ble_eq_true rfl, Nat.le_of_ble_eq_true rfl⟩) (fun r1 hw => ?_)
  refine lv_istore_n (lv' := [(3, .int r1), (0, .ref (ad 17)), (1, .ref (ad 1)), (2, .ref (ad 11))]) hx hb d_Ga_prepare_4 rfl hl (by decide) rfl (fun ls hl => ?_)
  refine lv_aload_n hx hb d_Ga_prepare_5 rfl (lv_at hl 1 rfl) ?_
  refine lv_iload_n hx hb d_Ga_prepare_6 rfl (lv_at hl 0 rfl) ?_
  refine lv_iconst (v := 3) hx hb d_Ga_prepare_7 (by decide) ?_
  refine lv_iadd hx hb d_Ga_prepare_8 ?_
  refine lv_iconst (v := 1) hx hb d_Ga_prepare_9 (by decide) ?_
  refine lv_isub hx hb d_Ga_prepare_10 ?_
  refine lv_topi (fun v2 ev2 => ?_)
  have hw := hw v2 ev2
  refine kp (C1 := R_Ga) (T := F_Ga) (N := 12) (ci := 0) (ty0 := t_Ga) (ref := "LineBreaker$Galley") (w2 := wC K ad (sI S 1099 v2) ++ X) C w 17 11 iw_Ga tk_Ga n_Ga rfl rfl (by decide) kw_159 rfl rfl rfl rfl (Nat.le_of_ble_eq_true rfl) rfl d_Ga_prepare_11 (fun H locs w => ?_)
  refine lv_aload_n hx hb d_Ga_prepare_14 rfl (lv_at hl 1 rfl) ?_
  refine lv_aload_n hx hb d_Ga_prepare_15 rfl (lv_at hl 2 rfl) ?_
  refine lv_aload_n hx hb d_Ga_prepare_16 rfl (lv_at hl 3 rfl) ?_
  refine lv_iload_n hx hb d_Ga_prepare_17 rfl (lv_at hl 0 rfl) ?_
  refine kc_v (st := fun (u : (Nat → Int32) × (Nat → Int32) × (Nat → Int32) × (Nat → Int32)) => wC K ad (sA (sA (sA (sA (sI S 1099 v2) 18 u.1) 19 u.2.1) 22 u.2.2.1) 23 u.2.2.2) ++ X) w (kr_V (y := y_Ga_copyItems) (C1 := R_Ga) (T := F_Ga) (N := 12) (ci := 0) (q0 := 17) (As := [.ref (ad 1), .ref (ad 11), .int r1]) (n := 3) C w (c_Ga_copyItems l n0 G K ad X (sI S 1099 v2) r1 _ hw) (gw_V kw_673 kw_675 kp_4 kw_5 kw_676) (by decide +kernel) rfl rfl ⟨Nat.le_of_ble_eq_true rfl, Nat.le_of_ble_eq_true rfl⟩ rfl rfl rfl hl.1 rfl (Nat.le_of_ble_eq_true rfl) d_Ga_prepare_18 ⟨Nat.le_of_ble_eq_true rfl, Nat.le_of_ble_eq_true rfl⟩) (fun u H locs hw w => ?_)
  obtain ⟨f3, f4, f5, f6⟩ := u
  dsimp only at hw
  have w : wn n0 G (wC K ad (sI (sA (sA (sA (sA S 18 f3) 19 f4) 22 f5) 23 f6) 1099 v2) ++ X) s H locs := w
  refine lv_aload_n hx hb d_Ga_prepare_21 rfl (lv_at hl 1 rfl) ?_
  refine lv_iload_n hx hb d_Ga_prepare_22 rfl (lv_at hl 0 rfl) ?_
  refine kc_v (st := fun (u : (Nat → Int32) × (Nat → Int32) × (Nat → Int32) × (Nat → Int32)) => wC K ad (sA (sA (sA (sA (sI (sA (sA (sA (sA S 18 f3) 19 f4) 22 f5) 23 f6) 1099 v2) 18 u.1) 19 u.2.1) 22 u.2.2.1) 23 u.2.2.2) ++ X) w (kr_V (y := y_Ga_close) (C1 := R_Ga) (T := F_Ga) (N := 12) (ci := 0) (q0 := 17) (As := [.int r1]) (n := 1) C w (c_Ga_close l n0 G K ad X (sI (sA (sA (sA (sA S 18 f3) 19 f4) 22 f5) 23 f6) 1099 v2) r1 _ hw) (gw_V kw_679 kw_681 kp_5 kw_5 kw_682) (by decide +kernel) rfl rfl ⟨Nat.le_of_ble_eq_true rfl, Nat.le_of_ble_eq_true rfl⟩ rfl rfl rfl hl.1 rfl (Nat.le_of_ble_eq_true rfl) d_Ga_prepare_23 ⟨Nat.le_of_ble_eq_true rfl, Nat.le_of_ble_eq_true rfl⟩) (fun u H locs hw w => ?_)
  obtain ⟨f7, f8, f9, f10⟩ := u
  dsimp only at hw
  have w : wn n0 G (wC K ad (sI (sA (sA (sA (sA S 18 f7) 19 f8) 22 f9) 23 f10) 1099 v2) ++ X) s H locs := w
  refine lv_aload_n hx hb d_Ga_prepare_26 rfl (lv_at hl 1 rfl) ?_
  refine lv_aload_n hx hb d_Ga_prepare_27 rfl (lv_at hl 2 rfl) ?_
  refine lv_aload_n hx hb d_Ga_prepare_28 rfl (lv_at hl 3 rfl) ?_
  refine kg (C1 := R_St) (T := F_St) (N := 5) (ci := 8) (ref := "LineBreaker$Settings") (v := .ref (ad 16)) C w 11 4 iw_St rfl rfl (by decide) kw_123 rfl rfl d_Ga_prepare_29 ?_
  refine lv_iload_n hx hb d_Ga_prepare_32 rfl (lv_at hl 0 rfl) ?_
  refine kc_v (st := fun (u : (Nat → Int32) × (Nat → Int32) × (Nat → Int32) × (Nat → Int32)) => wC K ad (sA (sA (sA (sA (sI (sA (sA (sA (sA S 18 f7) 19 f8) 22 f9) 23 f10) 1099 v2) 24 u.1) 25 u.2.1) 26 u.2.2.1) 27 u.2.2.2) ++ X) w (kr_V (y := y_Ga_sumUp) (C1 := R_Ga) (T := F_Ga) (N := 12) (ci := 0) (q0 := 17) (As := [.ref (ad 1), .ref (ad 16), .int r1]) (n := 3) C w (c_Ga_sumUp l n0 G K ad X (sI (sA (sA (sA (sA S 18 f7) 19 f8) 22 f9) 23 f10) 1099 v2) r1 _ hw) (gw_V kw_683 kw_685 kp_6 kw_5 kw_686) (by decide +kernel) rfl rfl ⟨Nat.le_of_ble_eq_true rfl, Nat.le_of_ble_eq_true rfl⟩ rfl rfl rfl hl.1 rfl (Nat.le_of_ble_eq_true rfl) d_Ga_prepare_33 ⟨Nat.le_of_ble_eq_true rfl, Nat.le_of_ble_eq_true rfl⟩) (fun u H locs hw w => ?_)
  obtain ⟨f11, f12, f13, f14⟩ := u
  dsimp only at hw
  have w : wn n0 G (wC K ad (sI (sA (sA (sA (sA (sA (sA (sA (sA S 18 f7) 19 f8) 22 f9) 23 f10) 24 f11) 25 f12) 26 f13) 27 f14) 1099 v2) ++ X) s H locs := w
  refine lv_aload_n hx hb d_Ga_prepare_36 rfl (lv_at hl 1 rfl) ?_
  refine lv_aload_n hx hb d_Ga_prepare_37 rfl (lv_at hl 2 rfl) ?_
  refine lv_iload_n hx hb d_Ga_prepare_38 rfl (lv_at hl 0 rfl) ?_
  refine kc_v (st := fun (u : (Nat → Int32)) => wC K ad (sA (sI (sA (sA (sA (sA (sA (sA (sA (sA S 18 f7) 19 f8) 22 f9) 23 f10) 24 f11) 25 f12) 26 f13) 27 f14) 1099 v2) 20 u) ++ X) w (kr_V (y := y_Ga_markPlaces) (C1 := R_Ga) (T := F_Ga) (N := 12) (ci := 0) (q0 := 17) (As := [.ref (ad 1), .int r1]) (n := 2) C w (c_Ga_markPlaces l n0 G K ad X (sI (sA (sA (sA (sA (sA (sA (sA (sA S 18 f7) 19 f8) 22 f9) 23 f10) 24 f11) 25 f12) 26 f13) 27 f14) 1099 v2) r1 _ hw) (gw_V kw_695 kw_697 kp_7 kw_5 kw_698) (by decide +kernel) rfl rfl ⟨Nat.le_of_ble_eq_true rfl, Nat.le_of_ble_eq_true rfl⟩ rfl rfl rfl hl.1 rfl (Nat.le_of_ble_eq_true rfl) d_Ga_prepare_39 ⟨Nat.le_of_ble_eq_true rfl, Nat.le_of_ble_eq_true rfl⟩) (fun u H locs hw w => ?_)
  obtain ⟨f15, rfl⟩ : ∃ z, z = u := ⟨_, rfl⟩
  have w : wn n0 G (wC K ad (sI (sA (sA (sA (sA (sA (sA (sA (sA (sA S 18 f7) 19 f8) 20 f15) 22 f9) 23 f10) 24 f11) 25 f12) 26 f13) 27 f14) 1099 v2) ++ X) s H locs := w
  refine lv_aload_n hx hb d_Ga_prepare_42 rfl (lv_at hl 1 rfl) ?_
  refine lv_aload_n hx hb d_Ga_prepare_43 rfl (lv_at hl 2 rfl) ?_
  refine lv_iload_n hx hb d_Ga_prepare_44 rfl (lv_at hl 0 rfl) ?_
  refine kc_v (st := fun (u : (Nat → Int32) × (Nat → Int32)) => wC K ad (sA (sA (sI (sA (sA (sA (sA (sA (sA (sA (sA (sA S 18 f7) 19 f8) 20 f15) 22 f9) 23 f10) 24 f11) 25 f12) 26 f13) 27 f14) 1099 v2) 21 u.1) 28 u.2) ++ X) w (kr_V (y := y_Ga_findFirstOnes) (C1 := R_Ga) (T := F_Ga) (N := 12) (ci := 0) (q0 := 17) (As := [.ref (ad 1), .int r1]) (n := 2) C w (c_Ga_findFirstOnes l n0 G K ad X (sI (sA (sA (sA (sA (sA (sA (sA (sA (sA S 18 f7) 19 f8) 20 f15) 22 f9) 23 f10) 24 f11) 25 f12) 26 f13) 27 f14) 1099 v2) r1 _ hw) (gw_V kw_703 kw_705 kp_9 kw_5 kw_706) (by decide +kernel) rfl rfl ⟨Nat.le_of_ble_eq_true rfl, Nat.le_of_ble_eq_true rfl⟩ rfl rfl rfl hl.1 rfl (Nat.le_of_ble_eq_true rfl) d_Ga_prepare_45 ⟨Nat.le_of_ble_eq_true rfl, Nat.le_of_ble_eq_true rfl⟩) (fun u H locs hw w => ?_)
  obtain ⟨f16, f17⟩ := u
  dsimp only at hw
  have w : wn n0 G (wC K ad (sI (sA (sA (sA (sA (sA (sA (sA (sA (sA (sA (sA S 18 f7) 19 f8) 20 f15) 21 f16) 22 f9) 23 f10) 24 f11) 25 f12) 26 f13) 27 f14) 28 f17) 1099 v2) ++ X) s H locs := w
  exact ke_v (post := (fun (u : (Nat → Int32) × (Nat → Int32) × (Nat → Int32) × (Nat → Int32) × (Nat → Int32) × (Nat → Int32) × (Nat → Int32) × (Nat → Int32) × (Nat → Int32) × (Nat → Int32) × (Nat → Int32) × Int32) => post u.1 u.2.1 u.2.2.1 u.2.2.2.1 u.2.2.2.2.1 u.2.2.2.2.2.1 u.2.2.2.2.2.2.1 u.2.2.2.2.2.2.2.1 u.2.2.2.2.2.2.2.2.1 u.2.2.2.2.2.2.2.2.2.1 u.2.2.2.2.2.2.2.2.2.2.1 u.2.2.2.2.2.2.2.2.2.2.2)) (st := (fun (u : (Nat → Int32) × (Nat → Int32) × (Nat → Int32) × (Nat → Int32) × (Nat → Int32) × (Nat → Int32) × (Nat → Int32) × (Nat → Int32) × (Nat → Int32) × (Nat → Int32) × (Nat → Int32) × Int32) => wC K ad (sI (sA (sA (sA (sA (sA (sA (sA (sA (sA (sA (sA S 18 u.1) 19 u.2.1) 20 u.2.2.1) 21 u.2.2.2.1) 22 u.2.2.2.2.1) 23 u.2.2.2.2.2.1) 24 u.2.2.2.2.2.2.1) 25 u.2.2.2.2.2.2.2.1) 26 u.2.2.2.2.2.2.2.2.1) 27 u.2.2.2.2.2.2.2.2.2.1) 28 u.2.2.2.2.2.2.2.2.2.2.1) 1099 u.2.2.2.2.2.2.2.2.2.2.2) ++ X)) (u := (f7, f8, f15, f16, f9, f10, f11, f12, f13, f14, f17, v2)) C hr d_Ga_prepare_48 (wn_eq w rfl) hw
set_option maxHeartbeats 4000000 in
set_option maxRecDepth 100000 in
theorem c_Ou_forget (l : Launch) (n0 : Nat) (G : va_G) (K : KT) (ad : Nat → Nat) (X : va_W) (S : ST) (post : Int32 → Int32 → Int32 → Prop) (hw : wp_Ou_forget S  post) : Met l y_Ou_forget (Cond.code y_Ou_forget prog_7_method_2_code 1 none :: gw) rm_Ou_forget (va_Pc [.ref (ad 41)] (wb n0 G K (wC K ad S ++ X))) (va_Qv (fun (u : Int32 × Int32 × Int32) => post u.1 u.2.1 u.2.2) (fun (u : Int32 × Int32 × Int32) t => we n0 G (wC K ad (sI (sI (sI S 2626 u.1) 2627 u.2.1) 2628 u.2.2) ++ X) t) (al n0)) 0 0 (al n0) := by
  refine kb_start (own := "LineBreaker$Outcome") (by decide +kernel) rfl ?_
  intro p e s m below meth c C hr hne w
  have hx := C.1
  have hb := C.2.1
  have hts := C.2.2.2.2.1
  have hl := lv_entry ([.ref (ad 41)]) (n := 1) (Nat.le_of_ble_eq_true rfl)
  rw [lg_entry_eq]
  generalize (lg_sl ([.ref (ad 41)]) ++ List.replicate (1 - (lg_sl ([.ref (ad 41)])).length) Slot.unset).toArray = ls at hl ⊢
  have hl : lv_has ls 1 [(0, .ref (ad 41))] := hl
  unfold wp_Ou_forget at hw
  refine lv_aload_n hx hb d_Ou_forget_0 rfl (lv_at hl 0 rfl) ?_
  refine lv_iconst (v := 0) hx hb d_Ou_forget_1 (by decide) ?_
  refine kp (C1 := R_Ou) (T := F_Ou) (N := 5) (ci := 5) (ty0 := t_Ou) (ref := "LineBreaker$Outcome") (w2 := wC K ad (sI S 2626 0) ++ X) C w 41 2 iw_Ou tk_Ou n_Ou rfl rfl (by decide) kw_339 rfl rfl rfl rfl (Nat.le_of_ble_eq_true rfl) rfl d_Ou_forget_2 (fun H locs w => ?_)
  refine lv_aload_n hx hb d_Ou_forget_5 rfl (lv_at hl 0 rfl) ?_
  refine lv_iconst (v := 0) hx hb d_Ou_forget_6 (by decide) ?_
  refine kp (C1 := R_Ou) (T := F_Ou) (N := 5) (ci := 5) (ty0 := t_Ou) (ref := "LineBreaker$Outcome") (w2 := wC K ad (sI (sI S 2626 0) 2627 0) ++ X) C w 41 3 iw_Ou tk_Ou n_Ou rfl rfl (by decide) kw_341 rfl rfl rfl rfl (Nat.le_of_ble_eq_true rfl) rfl d_Ou_forget_7 (fun H locs w => ?_)
  refine lv_aload_n hx hb d_Ou_forget_10 rfl (lv_at hl 0 rfl) ?_
  refine lv_iconst (v := 0) hx hb d_Ou_forget_11 (by decide) ?_
  refine kp (C1 := R_Ou) (T := F_Ou) (N := 5) (ci := 5) (ty0 := t_Ou) (ref := "LineBreaker$Outcome") (w2 := wC K ad (sI (sI (sI S 2626 0) 2627 0) 2628 0) ++ X) C w 41 4 iw_Ou tk_Ou n_Ou rfl rfl (by decide) kw_343 rfl rfl rfl rfl (Nat.le_of_ble_eq_true rfl) rfl d_Ou_forget_12 (fun H locs w => ?_)
  exact ke_v (post := (fun (u : Int32 × Int32 × Int32) => post u.1 u.2.1 u.2.2)) (st := (fun (u : Int32 × Int32 × Int32) => wC K ad (sI (sI (sI S 2626 u.1) 2627 u.2.1) 2628 u.2.2) ++ X)) (u := (0, 0, 0)) C hr d_Ou_forget_15 (wn_eq w rfl) hw
set_option maxHeartbeats 4000000 in
set_option maxRecDepth 100000 in
theorem w_Ou_record_44 {S : ST} {post : (Nat → Int32) → (Nat → Int32) → (Nat → Int32) → (Nat → Int32) → (Nat → Int32) → (Nat → Int64) → Int32 → Int32 → Int32 → Int32 → Int32 → Int32 → Int32 → Int32 → Int32 → Prop} (C : cx p s m args meth c prog_7_method_3_code 8 "LineBreaker$Outcome" n0 G K) (hr : meth.sig.returnType = none) : ∀ (n : Nat) (a43 : (Nat → Int32)) (a44 : (Nat → Int32)) (a45 : (Nat → Int32)) (a46 : (Nat → Int32)) (a47 : (Nat → Int32)) (l48 : (Nat → Int64)) (i1923 : Int32) (i1924 : Int32) (i1925 : Int32) (i1926 : Int32) (i1927 : Int32) (i1928 : Int32) (i2626 : Int32) (i2627 : Int32) (i2628 : Int32) (x5 : Int32) (x6 : Int32), wl_Ou_record_44 S post n a43 a44 a45 a46 a47 l48 i1923 i1924 i1925 i1926 i1927 i1928 i2626 i2627 i2628 x5 x6 → ∀ (H : Heap) (locs : List Loc) (ls : Array Slot), wn n0 G (wC K ad (sI (sI (sI (sI (sI (sI (sI (sI (sI (sL (sA (sA (sA (sA (sA S 43 a43) 44 a44) 45 a45) 46 a46) 47 a47) 48 l48) 1923 i1923) 1924 i1924) 1925 i1925) 1926 i1926) 1927 i1927) 1928 i1928) 2626 i2626) 2627 i2627) 2628 i2628) ++ X) s H locs → lv_has ls 8 [(0, .ref (ad 41)), (1, .ref (ad 29)), (4, .ref (ad 31)), (5, .int x5), (6, .int x6)] → W p l e rm_Ou_record s m args below meth c H locs 0 0 (MQ below (va_Qv (fun (u : (Nat → Int32) × (Nat → Int32) × (Nat → Int32) × (Nat → Int32) × (Nat → Int32) × (Nat → Int64) × Int32 × Int32 × Int32 × Int32 × Int32 × Int32 × Int32 × Int32 × Int32) => post u.1 u.2.1 u.2.2.1 u.2.2.2.1 u.2.2.2.2.1 u.2.2.2.2.2.1 u.2.2.2.2.2.2.1 u.2.2.2.2.2.2.2.1 u.2.2.2.2.2.2.2.2.1 u.2.2.2.2.2.2.2.2.2.1 u.2.2.2.2.2.2.2.2.2.2.1 u.2.2.2.2.2.2.2.2.2.2.2.1 u.2.2.2.2.2.2.2.2.2.2.2.2.1 u.2.2.2.2.2.2.2.2.2.2.2.2.2.1 u.2.2.2.2.2.2.2.2.2.2.2.2.2.2) (fun (u : (Nat → Int32) × (Nat → Int32) × (Nat → Int32) × (Nat → Int32) × (Nat → Int32) × (Nat → Int64) × Int32 × Int32 × Int32 × Int32 × Int32 × Int32 × Int32 × Int32 × Int32) t => we n0 G (wC K ad (sI (sI (sI (sI (sI (sI (sI (sI (sI (sL (sA (sA (sA (sA (sA S 43 u.1) 44 u.2.1) 45 u.2.2.1) 46 u.2.2.2.1) 47 u.2.2.2.2.1) 48 u.2.2.2.2.2.1) 1923 u.2.2.2.2.2.2.1) 1924 u.2.2.2.2.2.2.2.1) 1925 u.2.2.2.2.2.2.2.2.1) 1926 u.2.2.2.2.2.2.2.2.2.1) 1927 u.2.2.2.2.2.2.2.2.2.2.1) 1928 u.2.2.2.2.2.2.2.2.2.2.2.1) 2626 u.2.2.2.2.2.2.2.2.2.2.2.2.1) 2627 u.2.2.2.2.2.2.2.2.2.2.2.2.2.1) 2628 u.2.2.2.2.2.2.2.2.2.2.2.2.2.2) ++ X) t) (al n0)) args s 0 0 (al n0)) (F0 m 44 ls []) := by
  have hx := C.1
  have hb := C.2.1
  have hts := C.2.2.2.2.1
  intro n
  induction n with
  | zero =>
    intro a43 a44 a45 a46 a47 l48 i1923 i1924 i1925 i1926 i1927 i1928 i2626 i2627 i2628 x5 x6 hw
    unfold wl_Ou_record_44 at hw
    exact hw.elim
  | succ n ih =>
    intro a43 a44 a45 a46 a47 l48 i1923 i1924 i1925 i1926 i1927 i1928 i2626 i2627 i2628 x5 x6 hw H locs ls w hl
    unfold wl_Ou_record_44 at hw
    refine lv_iload hx hb d_Ou_record_44 (lv_at hl 4 rfl) ?_
    refine lv_if_lt (tgt := 187) hx hb d_Ou_record_46 (by decide) (fun hc => ?_) (fun hc => ?_)
    · have hw := hw.1 hc
      exact ke_v (post := (fun (u : (Nat → Int32) × (Nat → Int32) × (Nat → Int32) × (Nat → Int32) × (Nat → Int32) × (Nat → Int64) × Int32 × Int32 × Int32 × Int32 × Int32 × Int32 × Int32 × Int32 × Int32) => post u.1 u.2.1 u.2.2.1 u.2.2.2.1 u.2.2.2.2.1 u.2.2.2.2.2.1 u.2.2.2.2.2.2.1 u.2.2.2.2.2.2.2.1 u.2.2.2.2.2.2.2.2.1 u.2.2.2.2.2.2.2.2.2.1 u.2.2.2.2.2.2.2.2.2.2.1 u.2.2.2.2.2.2.2.2.2.2.2.1 u.2.2.2.2.2.2.2.2.2.2.2.2.1 u.2.2.2.2.2.2.2.2.2.2.2.2.2.1 u.2.2.2.2.2.2.2.2.2.2.2.2.2.2)) (st := (fun (u : (Nat → Int32) × (Nat → Int32) × (Nat → Int32) × (Nat → Int32) × (Nat → Int32) × (Nat → Int64) × Int32 × Int32 × Int32 × Int32 × Int32 × Int32 × Int32 × Int32 × Int32) => wC K ad (sI (sI (sI (sI (sI (sI (sI (sI (sI (sL (sA (sA (sA (sA (sA S 43 u.1) 44 u.2.1) 45 u.2.2.1) 46 u.2.2.2.1) 47 u.2.2.2.2.1) 48 u.2.2.2.2.2.1) 1923 u.2.2.2.2.2.2.1) 1924 u.2.2.2.2.2.2.2.1) 1925 u.2.2.2.2.2.2.2.2.1) 1926 u.2.2.2.2.2.2.2.2.2.1) 1927 u.2.2.2.2.2.2.2.2.2.2.1) 1928 u.2.2.2.2.2.2.2.2.2.2.2.1) 2626 u.2.2.2.2.2.2.2.2.2.2.2.2.1) 2627 u.2.2.2.2.2.2.2.2.2.2.2.2.2.1) 2628 u.2.2.2.2.2.2.2.2.2.2.2.2.2.2) ++ X)) (u := (a43, a44, a45, a46, a47, l48, i1923, i1924, i1925, i1926, i1927, i1928, i2626, i2627, i2628)) C hr d_Ou_record_187 (wn_eq w rfl) hw
    · have hw := hw.2 hc
      refine lv_aload hx hb d_Ou_record_49 (lv_at hl 2 rfl) ?_
      refine kg (C1 := R_No) (T := F_No) (N := 6) (ci := 3) (ref := "LineBreaker$Nodes") (v := .ref (ad 35)) C w 31 3 iw_No rfl rfl (by decide) kw_250 rfl rfl d_Ou_record_51 ?_
      refine lv_iload hx hb d_Ou_record_54 (lv_at hl 3 rfl) ?_
      refine ka_i (f := (S.1 35)) C w 35 rfl hw.1 d_Ou_record_56 ?_
      have hw := hw.2
      refine lv_topi (fun v1 ev1 => ?_)
      have hw := hw v1 ev1
      refine lv_istore (lv' := [(7, .int v1), (0, .ref (ad 41)), (1, .ref (ad 29)), (4, .ref (ad 31)), (5, .int x5), (6, .int x6)]) hx hb d_Ou_record_57 hl (by decide) rfl (fun ls hl => ?_)
      refine lv_aload_n hx hb d_Ou_record_59 rfl (lv_at hl 2 rfl) ?_
      refine lv_iload hx hb d_Ou_record_60 (lv_at hl 0 rfl) ?_
      refine lv_aload hx hb d_Ou_record_62 (lv_at hl 3 rfl) ?_
      refine kg (C1 := R_No) (T := F_No) (N := 6) (ci := 3) (ref := "LineBreaker$Nodes") (v := .ref (ad 32)) C w 31 0 iw_No rfl rfl (by decide) kw_239 rfl rfl d_Ou_record_64 ?_
      refine lv_iload hx hb d_Ou_record_67 (lv_at hl 4 rfl) ?_
      refine ka_i (f := (S.1 32)) C w 32 rfl hw.1 d_Ou_record_69 ?_
      have hw := hw.2
      refine kc_v (st := fun (u : Int32 × Int32 × Int32 × Int32 × Int32 × Int32) => wC K ad (sI (sI (sI (sI (sI (sI (sI (sI (sI (sI (sI (sI (sI (sI (sI (sL (sA (sA (sA (sA (sA S 43 a43) 44 a44) 45 a45) 46 a46) 47 a47) 48 l48) 1923 i1923) 1924 i1924) 1925 i1925) 1926 i1926) 1927 i1927) 1928 i1928) 2626 i2626) 2627 i2627) 2628 i2628) 1923 u.1) 1924 u.2.1) 1925 u.2.2.1) 1926 u.2.2.2.1) 1927 u.2.2.2.2.1) 1928 u.2.2.2.2.2) ++ X) w (kr_V (y := y_Se_measureFrom) (C1 := R_Se) (T := F_Se) (N := 10) (ci := 7) (q0 := 29) (As := [.int v1, .int ((S.1 32) x5.toNatClampNeg)]) (n := 2) C w (c_Se_measureFrom l n0 G K ad X (sI (sI (sI (sI (sI (sI (sI (sI (sI (sL (sA (sA (sA (sA (sA S 43 a43) 44 a44) 45 a45) 46 a46) 47 a47) 48 l48) 1923 i1923) 1924 i1924) 1925 i1925) 1926 i1926) 1927 i1927) 1928 i1928) 2626 i2626) 2627 i2627) 2628 i2628) v1 ((S.1 32) x5.toNatClampNeg) _ hw) (gw_V kw_832 kw_739 kw_740 kw_6 kw_741) (by decide +kernel) rfl rfl ⟨Nat.le_of_ble_eq_true rfl, Nat.le_of_ble_eq_true rfl⟩ rfl rfl rfl hl.1 rfl (Nat.le_of_ble_eq_true rfl) d_Ou_record_70 ⟨Nat.le_of_ble_eq_true rfl, Nat.le_of_ble_eq_true rfl⟩) (fun u H locs hw w => ?_)
      obtain ⟨v2, v3, v4, v5, v6, v7⟩ := u
      dsimp only at hw
      have w : wn n0 G (wC K ad (sI (sI (sI (sI (sI (sI (sI (sI (sI (sL (sA (sA (sA (sA (sA S 43 a43) 44 a44) 45 a45) 46 a46) 47 a47) 48 l48) 1923 v2) 1924 v3) 1925 v4) 1926 v5) 1927 v6) 1928 v7) 2626 i2626) 2627 i2627) 2628 i2628) ++ X) s H locs := w
      refine lv_aload_n hx hb d_Ou_record_73 rfl (lv_at hl 1 rfl) ?_
      refine kg (C1 := R_Ou) (T := F_Ou) (N := 5) (ci := 5) (ref := "LineBreaker$Outcome") (v := .ref (ad 42)) C w 41 0 iw_Ou rfl rfl (by decide) kw_335 rfl rfl d_Ou_record_74 ?_
      refine lv_iconst (v := 0) hx hb d_Ou_record_77 (by decide) ?_
      refine ka_a (v := .ref (ad 43)) C w 42 rfl (vp_in_nI (n := 0) (N := 5) (by decide) (by decide)) rfl d_Ou_record_78 ?_
      refine lv_iload hx hb d_Ou_record_79 (lv_at hl 5 rfl) ?_
      refine lv_aload hx hb d_Ou_record_81 (lv_at hl 3 rfl) ?_
      refine kg (C1 := R_No) (T := F_No) (N := 6) (ci := 3) (ref := "LineBreaker$Nodes") (v := .ref (ad 32)) C w 31 0 iw_No rfl rfl (by decide) kw_239 rfl rfl d_Ou_record_83 ?_
      refine lv_iload hx hb d_Ou_record_86 (lv_at hl 4 rfl) ?_
      refine ka_i (f := (S.1 32)) C w 32 rfl hw.1 d_Ou_record_88 ?_
      have hw := hw.2
      obtain ⟨f8, ef8⟩ : ∃ z : Nat → Int32, z = upd a43 x6.toNatClampNeg ((S.1 32) x5.toNatClampNeg) := ⟨_, rfl⟩
      refine ks_i (f := a43) (w2 := wC K ad (sI (sI (sI (sI (sI (sI (sI (sI (sI (sL (sA (sA (sA (sA (sA S 43 f8) 44 a44) 45 a45) 46 a46) 47 a47) 48 l48) 1923 v2) 1924 v3) 1925 v4) 1926 v5) 1927 v6) 1928 v7) 2626 i2626) 2627 i2627) 2628 i2628) ++ X) C w 43 rfl hw.1 (by rw [← ef8]; rfl) d_Ou_record_89 (fun H locs w => ?_)
      have hw := hw.2 f8 ef8
      refine lv_aload_n hx hb d_Ou_record_90 rfl (lv_at hl 1 rfl) ?_
      refine kg (C1 := R_Ou) (T := F_Ou) (N := 5) (ci := 5) (ref := "LineBreaker$Outcome") (v := .ref (ad 42)) C w 41 0 iw_Ou rfl rfl (by decide) kw_335 rfl rfl d_Ou_record_91 ?_
      refine lv_iconst (v := 1) hx hb d_Ou_record_94 (by decide) ?_
      refine ka_a (v := .ref (ad 44)) C w 42 rfl (vp_in_nI (n := 1) (N := 5) (by decide) (by decide)) rfl d_Ou_record_95 ?_
      refine lv_iload hx hb d_Ou_record_96 (lv_at hl 5 rfl) ?_
      refine lv_aload_n hx hb d_Ou_record_98 rfl (lv_at hl 2 rfl) ?_
      refine kg (C1 := R_Se) (T := F_Se) (N := 10) (ci := 7) (ref := "LineBreaker$Search") (v := .ref (ad 17)) C w 29 0 iw_Se rfl rfl (by decide) kw_294 rfl rfl d_Ou_record_99 ?_
      refine lv_aload hx hb d_Ou_record_102 (lv_at hl 3 rfl) ?_
      refine kg (C1 := R_No) (T := F_No) (N := 6) (ci := 3) (ref := "LineBreaker$Nodes") (v := .ref (ad 32)) C w 31 0 iw_No rfl rfl (by decide) kw_239 rfl rfl d_Ou_record_104 ?_
      refine lv_iload hx hb d_Ou_record_107 (lv_at hl 0 rfl) ?_
      refine ka_i (f := (S.1 32)) C w 32 rfl hw.1 d_Ou_record_109 ?_
      have hw := hw.2
      refine kd_i (kr_V (y := y_Ga_firstOneFrom) (C1 := R_Ga) (T := F_Ga) (N := 12) (ci := 0) (q0 := 17) (As := [.int ((S.1 32) v1.toNatClampNeg)]) (n := 1) C w (c_Ga_firstOneFrom l n0 G K ad X (sI (sI (sI (sI (sI (sI (sI (sI (sI (sL (sA (sA (sA (sA (sA S 43 f8) 44 a44) 45 a45) 46 a46) 47 a47) 48 l48) 1923 v2) 1924 v3) 1925 v4) 1926 v5) 1927 v6) 1928 v7) 2626 i2626) 2627 i2627) 2628 i2628) ((S.1 32) v1.toNatClampNeg) _ hw) (gw_V kw_833 kw_758 kw_759 kw_5 kw_760) (by decide +kernel) rfl rfl ⟨Nat.le_of_ble_eq_true rfl, Nat.le_of_ble_eq_true rfl⟩ rfl rfl rfl hl.1 rfl (Nat.le_of_ble_eq_true rfl) d_Ou_record_110 ⟨Nat.le_of_ble_eq_true rfl, Nat.le_of_ble_eq_true rfl⟩) (fun r9 hw => ?_)
      obtain ⟨f10, ef10⟩ : ∃ z : Nat → Int32, z = upd a44 x6.toNatClampNeg r9 := ⟨_, rfl⟩
      refine ks_i (f := a44) (w2 := wC K ad (sI (sI (sI (sI (sI (sI (sI (sI (sI (sL (sA (sA (sA (sA (sA S 43 f8) 44 f10) 45 a45) 46 a46) 47 a47) 48 l48) 1923 v2) 1924 v3) 1925 v4) 1926 v5) 1927 v6) 1928 v7) 2626 i2626) 2627 i2627) 2628 i2628) ++ X) C w 44 rfl hw.1 (by rw [← ef10]; rfl) d_Ou_record_113 (fun H locs w => ?_)
      have hw := hw.2 f10 ef10
      refine lv_aload_n hx hb d_Ou_record_114 rfl (lv_at hl 1 rfl) ?_
      refine kg (C1 := R_Ou) (T := F_Ou) (N := 5) (ci := 5) (ref := "LineBreaker$Outcome") (v := .ref (ad 42)) C w 41 0 iw_Ou rfl rfl (by decide) kw_335 rfl rfl d_Ou_record_115 ?_
      refine lv_iconst (v := 2) hx hb d_Ou_record_118 (by decide) ?_
      refine ka_a (v := .ref (ad 45)) C w 42 rfl (vp_in_nI (n := 2) (N := 5) (by decide) (by decide)) rfl d_Ou_record_119 ?_
      refine lv_iload hx hb d_Ou_record_120 (lv_at hl 5 rfl) ?_
      refine lv_aload_n hx hb d_Ou_record_122 rfl (lv_at hl 2 rfl) ?_
      refine kg (C1 := R_Se) (T := F_Se) (N := 10) (ci := 7) (ref := "LineBreaker$Search") (v := .ref (ad 30)) C w 29 2 iw_Se rfl rfl (by decide) kw_297 rfl rfl d_Ou_record_123 ?_
      refine kg (C1 := R_Gu) (T := F_Gu) (N := 9) (ci := 1) (ref := "LineBreaker$Gauge") (v := .int v2) C w 30 3 iw_Gu rfl rfl (by decide) kw_202 rfl rfl d_Ou_record_126 ?_
      obtain ⟨f11, ef11⟩ : ∃ z : Nat → Int32, z = upd a45 x6.toNatClampNeg v2 := ⟨_, rfl⟩
      refine ks_i (f := a45) (w2 := wC K ad (sI (sI (sI (sI (sI (sI (sI (sI (sI (sL (sA (sA (sA (sA (sA S 43 f8) 44 f10) 45 f11) 46 a46) 47 a47) 48 l48) 1923 v2) 1924 v3) 1925 v4) 1926 v5) 1927 v6) 1928 v7) 2626 i2626) 2627 i2627) 2628 i2628) ++ X) C w 45 rfl hw.1 (by rw [← ef11]; rfl) d_Ou_record_129 (fun H locs w => ?_)
      have hw := hw.2 f11 ef11
      refine lv_aload_n hx hb d_Ou_record_130 rfl (lv_at hl 1 rfl) ?_
      refine kg (C1 := R_Ou) (T := F_Ou) (N := 5) (ci := 5) (ref := "LineBreaker$Outcome") (v := .ref (ad 42)) C w 41 0 iw_Ou rfl rfl (by decide) kw_335 rfl rfl d_Ou_record_131 ?_
      refine lv_iconst (v := 3) hx hb d_Ou_record_134 (by decide) ?_
      refine ka_a (v := .ref (ad 46)) C w 42 rfl (vp_in_nI (n := 3) (N := 5) (by decide) (by decide)) rfl d_Ou_record_135 ?_
      refine lv_iload hx hb d_Ou_record_136 (lv_at hl 5 rfl) ?_
      refine lv_aload_n hx hb d_Ou_record_138 rfl (lv_at hl 2 rfl) ?_
      refine kg (C1 := R_Se) (T := F_Se) (N := 10) (ci := 7) (ref := "LineBreaker$Search") (v := .ref (ad 30)) C w 29 2 iw_Se rfl rfl (by decide) kw_297 rfl rfl d_Ou_record_139 ?_
      refine kg (C1 := R_Gu) (T := F_Gu) (N := 9) (ci := 1) (ref := "LineBreaker$Gauge") (v := .int v3) C w 30 4 iw_Gu rfl rfl (by decide) kw_205 rfl rfl d_Ou_record_142 ?_
      obtain ⟨f12, ef12⟩ : ∃ z : Nat → Int32, z = upd a46 x6.toNatClampNeg v3 := ⟨_, rfl⟩
      refine ks_i (f := a46) (w2 := wC K ad (sI (sI (sI (sI (sI (sI (sI (sI (sI (sL (sA (sA (sA (sA (sA S 43 f8) 44 f10) 45 f11) 46 f12) 47 a47) 48 l48) 1923 v2) 1924 v3) 1925 v4) 1926 v5) 1927 v6) 1928 v7) 2626 i2626) 2627 i2627) 2628 i2628) ++ X) C w 46 rfl hw.1 (by rw [← ef12]; rfl) d_Ou_record_145 (fun H locs w => ?_)
      have hw := hw.2 f12 ef12
      refine lv_aload_n hx hb d_Ou_record_146 rfl (lv_at hl 1 rfl) ?_
      refine kg (C1 := R_Ou) (T := F_Ou) (N := 5) (ci := 5) (ref := "LineBreaker$Outcome") (v := .ref (ad 42)) C w 41 0 iw_Ou rfl rfl (by decide) kw_335 rfl rfl d_Ou_record_147 ?_
      refine lv_iconst (v := 4) hx hb d_Ou_record_150 (by decide) ?_
      refine ka_a (v := .ref (ad 47)) C w 42 rfl (vp_in_nI (n := 4) (N := 5) (by decide) (by decide)) rfl d_Ou_record_151 ?_
      refine lv_iload hx hb d_Ou_record_152 (lv_at hl 5 rfl) ?_
      refine lv_aload_n hx hb d_Ou_record_154 rfl (lv_at hl 2 rfl) ?_
      refine kg (C1 := R_Se) (T := F_Se) (N := 10) (ci := 7) (ref := "LineBreaker$Search") (v := .ref (ad 30)) C w 29 2 iw_Se rfl rfl (by decide) kw_297 rfl rfl d_Ou_record_155 ?_
      refine kg (C1 := R_Gu) (T := F_Gu) (N := 9) (ci := 1) (ref := "LineBreaker$Gauge") (v := .int v4) C w 30 5 iw_Gu rfl rfl (by decide) kw_207 rfl rfl d_Ou_record_158 ?_
      obtain ⟨f13, ef13⟩ : ∃ z : Nat → Int32, z = upd a47 x6.toNatClampNeg v4 := ⟨_, rfl⟩
      refine ks_i (f := a47) (w2 := wC K ad (sI (sI (sI (sI (sI (sI (sI (sI (sI (sL (sA (sA (sA (sA (sA S 43 f8) 44 f10) 45 f11) 46 f12) 47 f13) 48 l48) 1923 v2) 1924 v3) 1925 v4) 1926 v5) 1927 v6) 1928 v7) 2626 i2626) 2627 i2627) 2628 i2628) ++ X) C w 47 rfl hw.1 (by rw [← ef13]; rfl) d_Ou_record_161 (fun H locs w => ?_)
      have hw := hw.2 f13 ef13
      refine lv_aload_n hx hb d_Ou_record_162 rfl (lv_at hl 1 rfl) ?_
      refine kg (C1 := R_Ou) (T := F_Ou) (N := 5) (ci := 5) (ref := "LineBreaker$Outcome") (v := .ref (ad 48)) C w 41 1 iw_Ou rfl rfl (by decide) kw_337 rfl rfl d_Ou_record_163 ?_
      refine lv_iload hx hb d_Ou_record_166 (lv_at hl 5 rfl) ?_
      refine lv_aload hx hb d_Ou_record_168 (lv_at hl 3 rfl) ?_
      refine kg (C1 := R_No) (T := F_No) (N := 6) (ci := 3) (ref := "LineBreaker$Nodes") (v := .ref (ad 36)) C w 31 4 iw_No rfl rfl (by decide) kw_254 rfl rfl d_Ou_record_170 ?_
      refine lv_iload hx hb d_Ou_record_173 (lv_at hl 4 rfl) ?_
      refine ka_l (f := (S.2.1 36)) C w 36 rfl hw.1 d_Ou_record_175 ?_
      have hw := hw.2
      obtain ⟨f14, ef14⟩ : ∃ z : Nat → Int64, z = vp_updL l48 x6.toNatClampNeg ((S.2.1 36) x5.toNatClampNeg) := ⟨_, rfl⟩
      refine ks_l (f := l48) (w2 := wC K ad (sI (sI (sI (sI (sI (sI (sI (sI (sI (sL (sA (sA (sA (sA (sA S 43 f8) 44 f10) 45 f11) 46 f12) 47 f13) 48 f14) 1923 v2) 1924 v3) 1925 v4) 1926 v5) 1927 v6) 1928 v7) 2626 i2626) 2627 i2627) 2628 i2628) ++ X) C w 48 rfl hw.1 (by rw [← ef14]; rfl) d_Ou_record_176 (fun H locs w => ?_)
      have hw := hw.2 f14 ef14
      refine lv_iload hx hb d_Ou_record_177 (lv_at hl 0 rfl) ?_
      refine lv_istore (lv' := [(5, .int v1), (7, .int v1), (0, .ref (ad 41)), (1, .ref (ad 29)), (4, .ref (ad 31)), (6, .int x6)]) hx hb d_Ou_record_179 hl (by decide) rfl (fun ls hl => ?_)
      obtain ⟨v15, ev15⟩ : ∃ y : Int32, y = x6 + (-1) := ⟨_, rfl⟩
      refine lv_iinc (v := v15) (lv' := [(6, .int v15), (5, .int v1), (7, .int v1), (0, .ref (ad 41)), (1, .ref (ad 29)), (4, .ref (ad 31))]) hx hb d_Ou_record_181 hl (k := 5) rfl (by rw [ev15]; rfl) (by decide) rfl (fun ls hl => ?_)
      have hw := hw v15 ev15
      refine lv_goto (tgt := 44) hx hb d_Ou_record_184 (by decide) ?_
      exact ih f8 f10 f11 f12 f13 f14 v2 v3 v4 v5 v6 v7 i2626 i2627 i2628 v1 v15 hw _ _ _ (wn_eq w rfl) (lv_sub hl [3, 4, 5, 1, 0] rfl)
set_option maxHeartbeats 4000000 in
set_option maxRecDepth 100000 in
theorem c_Ou_record (l : Launch) (n0 : Nat) (G : va_G) (K : KT) (ad : Nat → Nat) (X : va_W) (S : ST) (p2 : Int32) (p3 : Int32) (post : (Nat → Int32) → (Nat → Int32) → (Nat → Int32) → (Nat → Int32) → (Nat → Int32) → (Nat → Int64) → Int32 → Int32 → Int32 → Int32 → Int32 → Int32 → Int32 → Int32 → Int32 → Prop) (hw : wp_Ou_record S p2 p3 post) : Met l y_Ou_record (Cond.code y_Ou_record prog_7_method_3_code 8 none :: gw) rm_Ou_record (va_Pc [.ref (ad 41), .ref (ad 29), .int p2, .int p3] (wb n0 G K (wC K ad S ++ X))) (va_Qv (fun (u : (Nat → Int32) × (Nat → Int32) × (Nat → Int32) × (Nat → Int32) × (Nat → Int32) × (Nat → Int64) × Int32 × Int32 × Int32 × Int32 × Int32 × Int32 × Int32 × Int32 × Int32) => post u.1 u.2.1 u.2.2.1 u.2.2.2.1 u.2.2.2.2.1 u.2.2.2.2.2.1 u.2.2.2.2.2.2.1 u.2.2.2.2.2.2.2.1 u.2.2.2.2.2.2.2.2.1 u.2.2.2.2.2.2.2.2.2.1 u.2.2.2.2.2.2.2.2.2.2.1 u.2.2.2.2.2.2.2.2.2.2.2.1 u.2.2.2.2.2.2.2.2.2.2.2.2.1 u.2.2.2.2.2.2.2.2.2.2.2.2.2.1 u.2.2.2.2.2.2.2.2.2.2.2.2.2.2) (fun (u : (Nat → Int32) × (Nat → Int32) × (Nat → Int32) × (Nat → Int32) × (Nat → Int32) × (Nat → Int64) × Int32 × Int32 × Int32 × Int32 × Int32 × Int32 × Int32 × Int32 × Int32) t => we n0 G (wC K ad (sI (sI (sI (sI (sI (sI (sI (sI (sI (sL (sA (sA (sA (sA (sA S 43 u.1) 44 u.2.1) 45 u.2.2.1) 46 u.2.2.2.1) 47 u.2.2.2.2.1) 48 u.2.2.2.2.2.1) 1923 u.2.2.2.2.2.2.1) 1924 u.2.2.2.2.2.2.2.1) 1925 u.2.2.2.2.2.2.2.2.1) 1926 u.2.2.2.2.2.2.2.2.2.1) 1927 u.2.2.2.2.2.2.2.2.2.2.1) 1928 u.2.2.2.2.2.2.2.2.2.2.2.1) 2626 u.2.2.2.2.2.2.2.2.2.2.2.2.1) 2627 u.2.2.2.2.2.2.2.2.2.2.2.2.2.1) 2628 u.2.2.2.2.2.2.2.2.2.2.2.2.2.2) ++ X) t) (al n0)) 0 0 (al n0) := by
  refine kb_start (own := "LineBreaker$Outcome") (by decide +kernel) rfl ?_
  intro p e s m below meth c C hr hne w
  have hx := C.1
  have hb := C.2.1
  have hts := C.2.2.2.2.1
  have hl := lv_entry ([.ref (ad 41), .ref (ad 29), .int p2, .int p3]) (n := 8) (Nat.le_of_ble_eq_true rfl)
  rw [lg_entry_eq]
  generalize (lg_sl ([.ref (ad 41), .ref (ad 29), .int p2, .int p3]) ++ List.replicate (8 - (lg_sl ([.ref (ad 41), .ref (ad 29), .int p2, .int p3])).length) Slot.unset).toArray = ls at hl ⊢
  have hl : lv_has ls 8 [(0, .ref (ad 41)), (1, .ref (ad 29)), (2, .int p2), (3, .int p3)] := hl
  unfold wp_Ou_record at hw
  refine lv_aload_n hx hb d_Ou_record_0 rfl (lv_at hl 1 rfl) ?_
  refine kg (C1 := R_Se) (T := F_Se) (N := 10) (ci := 7) (ref := "LineBreaker$Search") (v := .ref (ad 31)) C w 29 3 iw_Se rfl rfl (by decide) kw_299 rfl rfl d_Ou_record_1 ?_
  refine lv_astore (lv' := [(4, .ref (ad 31)), (0, .ref (ad 41)), (1, .ref (ad 29)), (2, .int p2), (3, .int p3)]) hx hb d_Ou_record_4 hl (by decide) rfl (fun ls hl => ?_)
  refine lv_aload_n hx hb d_Ou_record_6 rfl (lv_at hl 1 rfl) ?_
  refine lv_aload hx hb d_Ou_record_7 (lv_at hl 0 rfl) ?_
  refine kg (C1 := R_No) (T := F_No) (N := 6) (ci := 3) (ref := "LineBreaker$Nodes") (v := .ref (ad 33)) C w 31 1 iw_No rfl rfl (by decide) kw_243 rfl rfl d_Ou_record_9 ?_
  refine lv_iload_n hx hb d_Ou_record_12 rfl (lv_at hl 3 rfl) ?_
  refine ka_i (f := (S.1 33)) C w 33 rfl hw.1 d_Ou_record_13 ?_
  have hw := hw.2
  refine lv_topi (fun v1 ev1 => ?_)
  have hw := hw v1 ev1
  refine kp (C1 := R_Ou) (T := F_Ou) (N := 5) (ci := 5) (ty0 := t_Ou) (ref := "LineBreaker$Outcome") (w2 := wC K ad (sI S 2626 v1) ++ X) C w 41 2 iw_Ou tk_Ou n_Ou rfl rfl (by decide) kw_339 rfl rfl rfl rfl (Nat.le_of_ble_eq_true rfl) rfl d_Ou_record_14 (fun H locs w => ?_)
  refine lv_aload_n hx hb d_Ou_record_17 rfl (lv_at hl 1 rfl) ?_
  refine lv_iload_n hx hb d_Ou_record_18 rfl (lv_at hl 4 rfl) ?_
  refine kp (C1 := R_Ou) (T := F_Ou) (N := 5) (ci := 5) (ty0 := t_Ou) (ref := "LineBreaker$Outcome") (w2 := wC K ad (sI (sI S 2626 v1) 2627 p3) ++ X) C w 41 3 iw_Ou tk_Ou n_Ou rfl rfl (by decide) kw_341 rfl rfl rfl rfl (Nat.le_of_ble_eq_true rfl) rfl d_Ou_record_19 (fun H locs w => ?_)
  refine lv_aload_n hx hb d_Ou_record_22 rfl (lv_at hl 1 rfl) ?_
  refine lv_aload hx hb d_Ou_record_23 (lv_at hl 0 rfl) ?_
  refine kg (C1 := R_No) (T := F_No) (N := 6) (ci := 3) (ref := "LineBreaker$Nodes") (v := .int (S.2.2 1989)) C w 31 5 iw_No rfl rfl (by decide) kw_257 rfl rfl d_Ou_record_25 ?_
  refine lv_iconst (v := 1) hx hb d_Ou_record_28 (by decide) ?_
  refine lv_isub hx hb d_Ou_record_29 ?_
  refine lv_topi (fun v2 ev2 => ?_)
  have hw := hw v2 ev2
  refine kp (C1 := R_Ou) (T := F_Ou) (N := 5) (ci := 5) (ty0 := t_Ou) (ref := "LineBreaker$Outcome") (w2 := wC K ad (sI (sI (sI S 2626 v1) 2627 p3) 2628 v2) ++ X) C w 41 4 iw_Ou tk_Ou n_Ou rfl rfl (by decide) kw_343 rfl rfl rfl rfl (Nat.le_of_ble_eq_true rfl) rfl d_Ou_record_30 (fun H locs w => ?_)
  refine lv_iload_n hx hb d_Ou_record_33 rfl (lv_at hl 3 rfl) ?_
  refine lv_istore (lv' := [(5, .int p2), (4, .ref (ad 31)), (0, .ref (ad 41)), (1, .ref (ad 29)), (2, .int p2), (3, .int p3)]) hx hb d_Ou_record_34 hl (by decide) rfl (fun ls hl => ?_)
  refine lv_aload_n hx hb d_Ou_record_36 rfl (lv_at hl 2 rfl) ?_
  refine kg (C1 := R_Ou) (T := F_Ou) (N := 5) (ci := 5) (ref := "LineBreaker$Outcome") (v := .int v1) C w 41 2 iw_Ou rfl rfl (by decide) kw_339 rfl rfl d_Ou_record_37 ?_
  refine lv_iconst (v := 1) hx hb d_Ou_record_40 (by decide) ?_
  refine lv_isub hx hb d_Ou_record_41 ?_
  refine lv_topi (fun v3 ev3 => ?_)
  have hw := hw v3 ev3
  refine lv_istore (lv' := [(6, .int v3), (5, .int p2), (4, .ref (ad 31)), (0, .ref (ad 41)), (1, .ref (ad 29)), (2, .int p2), (3, .int p3)]) hx hb d_Ou_record_42 hl (by decide) rfl (fun ls hl => ?_)
  obtain ⟨n9, hw⟩ := hw
  exact w_Ou_record_44 C hr  n9 (S.1 43) (S.1 44) (S.1 45) (S.1 46) (S.1 47) (S.2.1 48) (S.2.2 1923) (S.2.2 1924) (S.2.2 1925) (S.2.2 1926) (S.2.2 1927) (S.2.2 1928) v1 p3 v2 p2 v3 hw _ _ _ (wn_eq w rfl) (lv_sub hl [3, 4, 2, 1, 0] rfl)
set_option maxHeartbeats 4000000 in
set_option maxRecDepth 100000 in
theorem c_Pa_append (l : Launch) (n0 : Nat) (G : va_G) (K : KT) (ad : Nat → Nat) (X : va_W) (S : ST) (p1 : Int32) (p2 : Int32) (post : Int32 → (Nat → Int32) → (Nat → Int32) → (Nat → Int32) → (Nat → Int32) → (Nat → Int32) → (Nat → Int32) → (Nat → Int32) → (Nat → Int32) → (Nat → Int32) → Int32 → Prop) (hw : wp_Pa_append S p1 p2 post) : Met l y_Pa_append (Cond.code y_Pa_append prog_8_method_2_code 4 (some .int) :: gw) rm_Pa_append (va_Pc [.ref (ad 1), .int p1, .int p2] (wb n0 G K (wC K ad S ++ X))) (va_Qi (fun r (u : (Nat → Int32) × (Nat → Int32) × (Nat → Int32) × (Nat → Int32) × (Nat → Int32) × (Nat → Int32) × (Nat → Int32) × (Nat → Int32) × (Nat → Int32) × Int32) => post r u.1 u.2.1 u.2.2.1 u.2.2.2.1 u.2.2.2.2.1 u.2.2.2.2.2.1 u.2.2.2.2.2.2.1 u.2.2.2.2.2.2.2.1 u.2.2.2.2.2.2.2.2.1 u.2.2.2.2.2.2.2.2.2) (fun (u : (Nat → Int32) × (Nat → Int32) × (Nat → Int32) × (Nat → Int32) × (Nat → Int32) × (Nat → Int32) × (Nat → Int32) × (Nat → Int32) × (Nat → Int32) × Int32) t => we n0 G (wC K ad (sI (sA (sA (sA (sA (sA (sA (sA (sA (sA S 2 u.1) 3 u.2.1) 4 u.2.2.1) 5 u.2.2.2.1) 6 u.2.2.2.2.1) 7 u.2.2.2.2.2.1) 8 u.2.2.2.2.2.2.1) 9 u.2.2.2.2.2.2.2.1) 10 u.2.2.2.2.2.2.2.2.1) 73 u.2.2.2.2.2.2.2.2.2) ++ X) t) (al n0)) 0 0 (al n0) := by
  refine kb_start (own := "LineBreaker$Paragraph") (by decide +kernel) rfl ?_
  intro p e s m below meth c C hr hne w
  have hx := C.1
  have hb := C.2.1
  have hts := C.2.2.2.2.1
  have hl := lv_entry ([.ref (ad 1), .int p1, .int p2]) (n := 4) (Nat.le_of_ble_eq_true rfl)
  rw [lg_entry_eq]
  generalize (lg_sl ([.ref (ad 1), .int p1, .int p2]) ++ List.replicate (4 - (lg_sl ([.ref (ad 1), .int p1, .int p2])).length) Slot.unset).toArray = ls at hl ⊢
  have hl : lv_has ls 4 [(0, .ref (ad 1)), (1, .int p1), (2, .int p2)] := hl
  unfold wp_Pa_append at hw
  refine lv_aload_n hx hb d_Pa_append_0 rfl (lv_at hl 0 rfl) ?_
  refine kg (C1 := R_Pa) (T := F_Pa) (N := 10) (ci := 6) (ref := "LineBreaker$Paragraph") (v := .int (S.2.2 73)) C w 1 9 iw_Pa rfl rfl (by decide) kw_53 rfl rfl d_Pa_append_1 ?_
  refine lv_topi (fun v1 ev1 => ?_)
  have hw := hw v1 ev1
  refine lv_istore_n (lv' := [(3, .int v1), (0, .ref (ad 1)), (1, .int p1), (2, .int p2)]) hx hb d_Pa_append_4 rfl hl (by decide) rfl (fun ls hl => ?_)
  refine lv_aload_n hx hb d_Pa_append_5 rfl (lv_at hl 1 rfl) ?_
  refine kg (C1 := R_Pa) (T := F_Pa) (N := 10) (ci := 6) (ref := "LineBreaker$Paragraph") (v := .ref (ad 2)) C w 1 0 iw_Pa rfl rfl (by decide) kw_35 rfl rfl d_Pa_append_6 ?_
  refine lv_iload_n hx hb d_Pa_append_9 rfl (lv_at hl 0 rfl) ?_
  refine lv_iload_n hx hb d_Pa_append_10 rfl (lv_at hl 2 rfl) ?_
  obtain ⟨f2, ef2⟩ : ∃ z : Nat → Int32, z = upd (S.1 2) v1.toNatClampNeg p1 := ⟨_, rfl⟩
  refine ks_i (f := (S.1 2)) (w2 := wC K ad (sA S 2 f2) ++ X) C w 2 rfl hw.1 (by rw [← ef2]; rfl) d_Pa_append_11 (fun H locs w => ?_)
  have hw := hw.2 f2 ef2
  refine lv_aload_n hx hb d_Pa_append_12 rfl (lv_at hl 1 rfl) ?_
  refine kg (C1 := R_Pa) (T := F_Pa) (N := 10) (ci := 6) (ref := "LineBreaker$Paragraph") (v := .ref (ad 3)) C w 1 1 iw_Pa rfl rfl (by decide) kw_37 rfl rfl d_Pa_append_13 ?_
  refine lv_iload_n hx hb d_Pa_append_16 rfl (lv_at hl 0 rfl) ?_
  refine lv_iload_n hx hb d_Pa_append_17 rfl (lv_at hl 3 rfl) ?_
  obtain ⟨f3, ef3⟩ : ∃ z : Nat → Int32, z = upd (S.1 3) v1.toNatClampNeg p2 := ⟨_, rfl⟩
  refine ks_i (f := (S.1 3)) (w2 := wC K ad (sA (sA S 2 f2) 3 f3) ++ X) C w 3 rfl hw.1 (by rw [← ef3]; rfl) d_Pa_append_18 (fun H locs w => ?_)
  have hw := hw.2 f3 ef3
  refine lv_aload_n hx hb d_Pa_append_19 rfl (lv_at hl 1 rfl) ?_
  refine kg (C1 := R_Pa) (T := F_Pa) (N := 10) (ci := 6) (ref := "LineBreaker$Paragraph") (v := .ref (ad 4)) C w 1 2 iw_Pa rfl rfl (by decide) kw_39 rfl rfl d_Pa_append_20 ?_
  refine lv_iload_n hx hb d_Pa_append_23 rfl (lv_at hl 0 rfl) ?_
  refine lv_iconst (v := 0) hx hb d_Pa_append_24 (by decide) ?_
  obtain ⟨f4, ef4⟩ : ∃ z : Nat → Int32, z = upd (S.1 4) v1.toNatClampNeg 0 := ⟨_, rfl⟩
  refine ks_i (f := (S.1 4)) (w2 := wC K ad (sA (sA (sA S 2 f2) 3 f3) 4 f4) ++ X) C w 4 rfl hw.1 (by rw [← ef4]; rfl) d_Pa_append_25 (fun H locs w => ?_)
  have hw := hw.2 f4 ef4
  refine lv_aload_n hx hb d_Pa_append_26 rfl (lv_at hl 1 rfl) ?_
  refine kg (C1 := R_Pa) (T := F_Pa) (N := 10) (ci := 6) (ref := "LineBreaker$Paragraph") (v := .ref (ad 5)) C w 1 3 iw_Pa rfl rfl (by decide) kw_41 rfl rfl d_Pa_append_27 ?_
  refine lv_iload_n hx hb d_Pa_append_30 rfl (lv_at hl 0 rfl) ?_
  refine lv_iconst (v := 0) hx hb d_Pa_append_31 (by decide) ?_
  obtain ⟨f5, ef5⟩ : ∃ z : Nat → Int32, z = upd (S.1 5) v1.toNatClampNeg 0 := ⟨_, rfl⟩
  refine ks_i (f := (S.1 5)) (w2 := wC K ad (sA (sA (sA (sA S 2 f2) 3 f3) 4 f4) 5 f5) ++ X) C w 5 rfl hw.1 (by rw [← ef5]; rfl) d_Pa_append_32 (fun H locs w => ?_)
  have hw := hw.2 f5 ef5
  refine lv_aload_n hx hb d_Pa_append_33 rfl (lv_at hl 1 rfl) ?_
  refine kg (C1 := R_Pa) (T := F_Pa) (N := 10) (ci := 6) (ref := "LineBreaker$Paragraph") (v := .ref (ad 6)) C w 1 4 iw_Pa rfl rfl (by decide) kw_43 rfl rfl d_Pa_append_34 ?_
  refine lv_iload_n hx hb d_Pa_append_37 rfl (lv_at hl 0 rfl) ?_
  refine lv_iconst (v := 0) hx hb d_Pa_append_38 (by decide) ?_
  obtain ⟨f6, ef6⟩ : ∃ z : Nat → Int32, z = upd (S.1 6) v1.toNatClampNeg 0 := ⟨_, rfl⟩
  refine ks_i (f := (S.1 6)) (w2 := wC K ad (sA (sA (sA (sA (sA S 2 f2) 3 f3) 4 f4) 5 f5) 6 f6) ++ X) C w 6 rfl hw.1 (by rw [← ef6]; rfl) d_Pa_append_39 (fun H locs w => ?_)
  have hw := hw.2 f6 ef6
  refine lv_aload_n hx hb d_Pa_append_40 rfl (lv_at hl 1 rfl) ?_
  refine kg (C1 := R_Pa) (T := F_Pa) (N := 10) (ci := 6) (ref := "LineBreaker$Paragraph") (v := .ref (ad 7)) C w 1 5 iw_Pa rfl rfl (by decide) kw_45 rfl rfl d_Pa_append_41 ?_
  refine lv_iload_n hx hb d_Pa_append_44 rfl (lv_at hl 0 rfl) ?_
  refine lv_iconst (v := 0) hx hb d_Pa_append_45 (by decide) ?_
  obtain ⟨f7, ef7⟩ : ∃ z : Nat → Int32, z = upd (S.1 7) v1.toNatClampNeg 0 := ⟨_, rfl⟩
  refine ks_i (f := (S.1 7)) (w2 := wC K ad (sA (sA (sA (sA (sA (sA S 2 f2) 3 f3) 4 f4) 5 f5) 6 f6) 7 f7) ++ X) C w 7 rfl hw.1 (by rw [← ef7]; rfl) d_Pa_append_46 (fun H locs w => ?_)
  have hw := hw.2 f7 ef7
  refine lv_aload_n hx hb d_Pa_append_47 rfl (lv_at hl 1 rfl) ?_
  refine kg (C1 := R_Pa) (T := F_Pa) (N := 10) (ci := 6) (ref := "LineBreaker$Paragraph") (v := .ref (ad 8)) C w 1 6 iw_Pa rfl rfl (by decide) kw_47 rfl rfl d_Pa_append_48 ?_
  refine lv_iload_n hx hb d_Pa_append_51 rfl (lv_at hl 0 rfl) ?_
  refine lv_ldc (v := (-1073741824)) hx hb C.2.2.2.1 (hts _ kw_502) d_Pa_append_52 ?_
  obtain ⟨f8, ef8⟩ : ∃ z : Nat → Int32, z = upd (S.1 8) v1.toNatClampNeg (-1073741824) := ⟨_, rfl⟩
  refine ks_i (f := (S.1 8)) (w2 := wC K ad (sA (sA (sA (sA (sA (sA (sA S 2 f2) 3 f3) 4 f4) 5 f5) 6 f6) 7 f7) 8 f8) ++ X) C w 8 rfl hw.1 (by rw [← ef8]; rfl) d_Pa_append_54 (fun H locs w => ?_)
  have hw := hw.2 f8 ef8
  refine lv_aload_n hx hb d_Pa_append_55 rfl (lv_at hl 1 rfl) ?_
  refine kg (C1 := R_Pa) (T := F_Pa) (N := 10) (ci := 6) (ref := "LineBreaker$Paragraph") (v := .ref (ad 9)) C w 1 7 iw_Pa rfl rfl (by decide) kw_49 rfl rfl d_Pa_append_56 ?_
  refine lv_iload_n hx hb d_Pa_append_59 rfl (lv_at hl 0 rfl) ?_
  refine lv_ldc (v := (-1073741824)) hx hb C.2.2.2.1 (hts _ kw_502) d_Pa_append_60 ?_
  obtain ⟨f9, ef9⟩ : ∃ z : Nat → Int32, z = upd (S.1 9) v1.toNatClampNeg (-1073741824) := ⟨_, rfl⟩
  refine ks_i (f := (S.1 9)) (w2 := wC K ad (sA (sA (sA (sA (sA (sA (sA (sA S 2 f2) 3 f3) 4 f4) 5 f5) 6 f6) 7 f7) 8 f8) 9 f9) ++ X) C w 9 rfl hw.1 (by rw [← ef9]; rfl) d_Pa_append_62 (fun H locs w => ?_)
  have hw := hw.2 f9 ef9
  refine lv_aload_n hx hb d_Pa_append_63 rfl (lv_at hl 1 rfl) ?_
  refine kg (C1 := R_Pa) (T := F_Pa) (N := 10) (ci := 6) (ref := "LineBreaker$Paragraph") (v := .ref (ad 10)) C w 1 8 iw_Pa rfl rfl (by decide) kw_51 rfl rfl d_Pa_append_64 ?_
  refine lv_iload_n hx hb d_Pa_append_67 rfl (lv_at hl 0 rfl) ?_
  refine lv_iconst (v := 0) hx hb d_Pa_append_68 (by decide) ?_
  obtain ⟨f10, ef10⟩ : ∃ z : Nat → Int32, z = upd (S.1 10) v1.toNatClampNeg 0 := ⟨_, rfl⟩
  refine ks_i (f := (S.1 10)) (w2 := wC K ad (sA (sA (sA (sA (sA (sA (sA (sA (sA S 2 f2) 3 f3) 4 f4) 5 f5) 6 f6) 7 f7) 8 f8) 9 f9) 10 f10) ++ X) C w 10 rfl hw.1 (by rw [← ef10]; rfl) d_Pa_append_69 (fun H locs w => ?_)
  have hw := hw.2 f10 ef10
  refine lv_aload_n hx hb d_Pa_append_70 rfl (lv_at hl 1 rfl) ?_
  refine lv_iload_n hx hb d_Pa_append_71 rfl (lv_at hl 0 rfl) ?_
  refine lv_iconst (v := 1) hx hb d_Pa_append_72 (by decide) ?_
  refine lv_iadd hx hb d_Pa_append_73 ?_
  refine lv_topi (fun v11 ev11 => ?_)
  have hw := hw v11 ev11
  refine kp (C1 := R_Pa) (T := F_Pa) (N := 10) (ci := 6) (ty0 := t_Pa) (ref := "LineBreaker$Paragraph") (w2 := wC K ad (sI (sA (sA (sA (sA (sA (sA (sA (sA (sA S 2 f2) 3 f3) 4 f4) 5 f5) 6 f6) 7 f7) 8 f8) 9 f9) 10 f10) 73 v11) ++ X) C w 1 9 iw_Pa tk_Pa n_Pa rfl rfl (by decide) kw_53 rfl rfl rfl rfl (Nat.le_of_ble_eq_true rfl) rfl d_Pa_append_74 (fun H locs w => ?_)
  refine lv_iload_n hx hb d_Pa_append_77 rfl (lv_at hl 0 rfl) ?_
  exact ke_i (post := (fun r (u : (Nat → Int32) × (Nat → Int32) × (Nat → Int32) × (Nat → Int32) × (Nat → Int32) × (Nat → Int32) × (Nat → Int32) × (Nat → Int32) × (Nat → Int32) × Int32) => post r u.1 u.2.1 u.2.2.1 u.2.2.2.1 u.2.2.2.2.1 u.2.2.2.2.2.1 u.2.2.2.2.2.2.1 u.2.2.2.2.2.2.2.1 u.2.2.2.2.2.2.2.2.1 u.2.2.2.2.2.2.2.2.2)) (st := (fun (u : (Nat → Int32) × (Nat → Int32) × (Nat → Int32) × (Nat → Int32) × (Nat → Int32) × (Nat → Int32) × (Nat → Int32) × (Nat → Int32) × (Nat → Int32) × Int32) => wC K ad (sI (sA (sA (sA (sA (sA (sA (sA (sA (sA S 2 u.1) 3 u.2.1) 4 u.2.2.1) 5 u.2.2.2.1) 6 u.2.2.2.2.1) 7 u.2.2.2.2.2.1) 8 u.2.2.2.2.2.2.1) 9 u.2.2.2.2.2.2.2.1) 10 u.2.2.2.2.2.2.2.2.1) 73 u.2.2.2.2.2.2.2.2.2) ++ X)) (u := (f2, f3, f4, f5, f6, f7, f8, f9, f10, v11)) C hr d_Pa_append_78 (wn_eq w rfl) hw
set_option maxHeartbeats 4000000 in
set_option maxRecDepth 100000 in
theorem c_Pa_appendGlue (l : Launch) (n0 : Nat) (G : va_G) (K : KT) (ad : Nat → Nat) (X : va_W) (S : ST) (p1 : Int32) (p2 : Int32) (p3 : Int32) (p4 : Int32) (post : Int32 → (Nat → Int32) → (Nat → Int32) → (Nat → Int32) → (Nat → Int32) → (Nat → Int32) → (Nat → Int32) → (Nat → Int32) → (Nat → Int32) → (Nat → Int32) → Int32 → Prop) (hw : wp_Pa_appendGlue S p1 p2 p3 p4 post) : Met l y_Pa_appendGlue (Cond.code y_Pa_appendGlue prog_8_method_3_code 6 (some .int) :: gw) rm_Pa_appendGlue (va_Pc [.ref (ad 1), .int p1, .int p2, .int p3, .int p4] (wb n0 G K (wC K ad S ++ X))) (va_Qi (fun r (u : (Nat → Int32) × (Nat → Int32) × (Nat → Int32) × (Nat → Int32) × (Nat → Int32) × (Nat → Int32) × (Nat → Int32) × (Nat → Int32) × (Nat → Int32) × Int32) => post r u.1 u.2.1 u.2.2.1 u.2.2.2.1 u.2.2.2.2.1 u.2.2.2.2.2.1 u.2.2.2.2.2.2.1 u.2.2.2.2.2.2.2.1 u.2.2.2.2.2.2.2.2.1 u.2.2.2.2.2.2.2.2.2) (fun (u : (Nat → Int32) × (Nat → Int32) × (Nat → Int32) × (Nat → Int32) × (Nat → Int32) × (Nat → Int32) × (Nat → Int32) × (Nat → Int32) × (Nat → Int32) × Int32) t => we n0 G (wC K ad (sI (sA (sA (sA (sA (sA (sA (sA (sA (sA S 2 u.1) 3 u.2.1) 4 u.2.2.1) 5 u.2.2.2.1) 6 u.2.2.2.2.1) 7 u.2.2.2.2.2.1) 8 u.2.2.2.2.2.2.1) 9 u.2.2.2.2.2.2.2.1) 10 u.2.2.2.2.2.2.2.2.1) 73 u.2.2.2.2.2.2.2.2.2) ++ X) t) (al n0)) 0 0 (al n0) := by
  refine kb_start (own := "LineBreaker$Paragraph") (by decide +kernel) rfl ?_
  intro p e s m below meth c C hr hne w
  have hx := C.1
  have hb := C.2.1
  have hts := C.2.2.2.2.1
  have hl := lv_entry ([.ref (ad 1), .int p1, .int p2, .int p3, .int p4]) (n := 6) (Nat.le_of_ble_eq_true rfl)
  rw [lg_entry_eq]
  generalize (lg_sl ([.ref (ad 1), .int p1, .int p2, .int p3, .int p4]) ++ List.replicate (6 - (lg_sl ([.ref (ad 1), .int p1, .int p2, .int p3, .int p4])).length) Slot.unset).toArray = ls at hl ⊢
  have hl : lv_has ls 6 [(0, .ref (ad 1)), (1, .int p1), (2, .int p2), (3, .int p3), (4, .int p4)] := hl
  unfold wp_Pa_appendGlue at hw
  refine lv_aload_n hx hb d_Pa_appendGlue_0 rfl (lv_at hl 0 rfl) ?_
  refine lv_iconst (v := 1) hx hb d_Pa_appendGlue_1 (by decide) ?_
  refine lv_iload_n hx hb d_Pa_appendGlue_2 rfl (lv_at hl 1 rfl) ?_
  refine kc_i (st := fun (u : (Nat → Int32) × (Nat → Int32) × (Nat → Int32) × (Nat → Int32) × (Nat → Int32) × (Nat → Int32) × (Nat → Int32) × (Nat → Int32) × (Nat → Int32) × Int32) => wC K ad (sI (sA (sA (sA (sA (sA (sA (sA (sA (sA S 2 u.1) 3 u.2.1) 4 u.2.2.1) 5 u.2.2.2.1) 6 u.2.2.2.2.1) 7 u.2.2.2.2.2.1) 8 u.2.2.2.2.2.2.1) 9 u.2.2.2.2.2.2.2.1) 10 u.2.2.2.2.2.2.2.2.1) 73 u.2.2.2.2.2.2.2.2.2) ++ X) w (kr_V (y := y_Pa_append) (C1 := R_Pa) (T := F_Pa) (N := 10) (ci := 6) (q0 := 1) (As := [.int 1, .int p1]) (n := 2) C w (c_Pa_append l n0 G K ad X S 1 p1 _ hw) (gw_V kw_547 kw_499 kw_500 kw_2 kw_501) (by decide +kernel) rfl rfl ⟨Nat.le_of_ble_eq_true rfl, Nat.le_of_ble_eq_true rfl⟩ rfl rfl rfl hl.1 rfl (Nat.le_of_ble_eq_true rfl) d_Pa_appendGlue_3 ⟨Nat.le_of_ble_eq_true rfl, Nat.le_of_ble_eq_true rfl⟩) (fun r11 u H locs hw w => ?_)
  obtain ⟨f1, f2, f3, f4, f5, f6, f7, f8, f9, v10⟩ := u
  dsimp only at hw
  have w : wn n0 G (wC K ad (sI (sA (sA (sA (sA (sA (sA (sA (sA (sA S 2 f1) 3 f2) 4 f3) 5 f4) 6 f5) 7 f6) 8 f7) 9 f8) 10 f9) 73 v10) ++ X) s H locs := w
  refine lv_istore (lv' := [(5, .int r11), (0, .ref (ad 1)), (1, .int p1), (2, .int p2), (3, .int p3), (4, .int p4)]) hx hb d_Pa_appendGlue_6 hl (by decide) rfl (fun ls hl => ?_)
  refine lv_aload_n hx hb d_Pa_appendGlue_8 rfl (lv_at hl 1 rfl) ?_
  refine kg (C1 := R_Pa) (T := F_Pa) (N := 10) (ci := 6) (ref := "LineBreaker$Paragraph") (v := .ref (ad 4)) C w 1 2 iw_Pa rfl rfl (by decide) kw_39 rfl rfl d_Pa_appendGlue_9 ?_
  refine lv_iload hx hb d_Pa_appendGlue_12 (lv_at hl 0 rfl) ?_
  refine lv_iload_n hx hb d_Pa_appendGlue_14 rfl (lv_at hl 3 rfl) ?_
  obtain ⟨f12, ef12⟩ : ∃ z : Nat → Int32, z = upd f3 r11.toNatClampNeg p2 := ⟨_, rfl⟩
  refine ks_i (f := f3) (w2 := wC K ad (sI (sA (sA (sA (sA (sA (sA (sA (sA (sA S 2 f1) 3 f2) 4 f12) 5 f4) 6 f5) 7 f6) 8 f7) 9 f8) 10 f9) 73 v10) ++ X) C w 4 rfl hw.1 (by rw [← ef12]; rfl) d_Pa_appendGlue_15 (fun H locs w => ?_)
  have hw := hw.2 f12 ef12
  refine lv_aload_n hx hb d_Pa_appendGlue_16 rfl (lv_at hl 1 rfl) ?_
  refine kg (C1 := R_Pa) (T := F_Pa) (N := 10) (ci := 6) (ref := "LineBreaker$Paragraph") (v := .ref (ad 5)) C w 1 3 iw_Pa rfl rfl (by decide) kw_41 rfl rfl d_Pa_appendGlue_17 ?_
  refine lv_iload hx hb d_Pa_appendGlue_20 (lv_at hl 0 rfl) ?_
  refine lv_iload_n hx hb d_Pa_appendGlue_22 rfl (lv_at hl 4 rfl) ?_
  obtain ⟨f13, ef13⟩ : ∃ z : Nat → Int32, z = upd f4 r11.toNatClampNeg p3 := ⟨_, rfl⟩
  refine ks_i (f := f4) (w2 := wC K ad (sI (sA (sA (sA (sA (sA (sA (sA (sA (sA S 2 f1) 3 f2) 4 f12) 5 f13) 6 f5) 7 f6) 8 f7) 9 f8) 10 f9) 73 v10) ++ X) C w 5 rfl hw.1 (by rw [← ef13]; rfl) d_Pa_appendGlue_23 (fun H locs w => ?_)
  have hw := hw.2 f13 ef13
  refine lv_aload_n hx hb d_Pa_appendGlue_24 rfl (lv_at hl 1 rfl) ?_
  refine kg (C1 := R_Pa) (T := F_Pa) (N := 10) (ci := 6) (ref := "LineBreaker$Paragraph") (v := .ref (ad 6)) C w 1 4 iw_Pa rfl rfl (by decide) kw_43 rfl rfl d_Pa_appendGlue_25 ?_
  refine lv_iload hx hb d_Pa_appendGlue_28 (lv_at hl 0 rfl) ?_
  refine lv_iload hx hb d_Pa_appendGlue_30 (lv_at hl 5 rfl) ?_
  obtain ⟨f14, ef14⟩ : ∃ z : Nat → Int32, z = upd f5 r11.toNatClampNeg p4 := ⟨_, rfl⟩
  refine ks_i (f := f5) (w2 := wC K ad (sI (sA (sA (sA (sA (sA (sA (sA (sA (sA S 2 f1) 3 f2) 4 f12) 5 f13) 6 f14) 7 f6) 8 f7) 9 f8) 10 f9) 73 v10) ++ X) C w 6 rfl hw.1 (by rw [← ef14]; rfl) d_Pa_appendGlue_32 (fun H locs w => ?_)
  have hw := hw.2 f14 ef14
  refine lv_iload hx hb d_Pa_appendGlue_33 (lv_at hl 0 rfl) ?_
  exact ke_i (post := (fun r (u : (Nat → Int32) × (Nat → Int32) × (Nat → Int32) × (Nat → Int32) × (Nat → Int32) × (Nat → Int32) × (Nat → Int32) × (Nat → Int32) × (Nat → Int32) × Int32) => post r u.1 u.2.1 u.2.2.1 u.2.2.2.1 u.2.2.2.2.1 u.2.2.2.2.2.1 u.2.2.2.2.2.2.1 u.2.2.2.2.2.2.2.1 u.2.2.2.2.2.2.2.2.1 u.2.2.2.2.2.2.2.2.2)) (st := (fun (u : (Nat → Int32) × (Nat → Int32) × (Nat → Int32) × (Nat → Int32) × (Nat → Int32) × (Nat → Int32) × (Nat → Int32) × (Nat → Int32) × (Nat → Int32) × Int32) => wC K ad (sI (sA (sA (sA (sA (sA (sA (sA (sA (sA S 2 u.1) 3 u.2.1) 4 u.2.2.1) 5 u.2.2.2.1) 6 u.2.2.2.2.1) 7 u.2.2.2.2.2.1) 8 u.2.2.2.2.2.2.1) 9 u.2.2.2.2.2.2.2.1) 10 u.2.2.2.2.2.2.2.2.1) 73 u.2.2.2.2.2.2.2.2.2) ++ X)) (u := (f1, f2, f12, f13, f14, f6, f7, f8, f9, v10)) C hr d_Pa_appendGlue_35 (wn_eq w rfl) hw
set_option maxHeartbeats 4000000 in
set_option maxRecDepth 100000 in
theorem c_Pa_appendPenalty (l : Launch) (n0 : Nat) (G : va_G) (K : KT) (ad : Nat → Nat) (X : va_W) (S : ST) (p1 : Int32) (post : Int32 → (Nat → Int32) → (Nat → Int32) → (Nat → Int32) → (Nat → Int32) → (Nat → Int32) → (Nat → Int32) → (Nat → Int32) → (Nat → Int32) → (Nat → Int32) → Int32 → Prop) (hw : wp_Pa_appendPenalty S p1 post) : Met l y_Pa_appendPenalty (Cond.code y_Pa_appendPenalty prog_8_method_4_code 3 (some .int) :: gw) rm_Pa_appendPenalty (va_Pc [.ref (ad 1), .int p1] (wb n0 G K (wC K ad S ++ X))) (va_Qi (fun r (u : (Nat → Int32) × (Nat → Int32) × (Nat → Int32) × (Nat → Int32) × (Nat → Int32) × (Nat → Int32) × (Nat → Int32) × (Nat → Int32) × (Nat → Int32) × Int32) => post r u.1 u.2.1 u.2.2.1 u.2.2.2.1 u.2.2.2.2.1 u.2.2.2.2.2.1 u.2.2.2.2.2.2.1 u.2.2.2.2.2.2.2.1 u.2.2.2.2.2.2.2.2.1 u.2.2.2.2.2.2.2.2.2) (fun (u : (Nat → Int32) × (Nat → Int32) × (Nat → Int32) × (Nat → Int32) × (Nat → Int32) × (Nat → Int32) × (Nat → Int32) × (Nat → Int32) × (Nat → Int32) × Int32) t => we n0 G (wC K ad (sI (sA (sA (sA (sA (sA (sA (sA (sA (sA S 2 u.1) 3 u.2.1) 4 u.2.2.1) 5 u.2.2.2.1) 6 u.2.2.2.2.1) 7 u.2.2.2.2.2.1) 8 u.2.2.2.2.2.2.1) 9 u.2.2.2.2.2.2.2.1) 10 u.2.2.2.2.2.2.2.2.1) 73 u.2.2.2.2.2.2.2.2.2) ++ X) t) (al n0)) 0 0 (al n0) := by
  refine kb_start (own := "LineBreaker$Paragraph") (by decide +kernel) rfl ?_
  intro p e s m below meth c C hr hne w
  have hx := C.1
  have hb := C.2.1
  have hts := C.2.2.2.2.1
  have hl := lv_entry ([.ref (ad 1), .int p1]) (n := 3) (Nat.le_of_ble_eq_true rfl)
  rw [lg_entry_eq]
  generalize (lg_sl ([.ref (ad 1), .int p1]) ++ List.replicate (3 - (lg_sl ([.ref (ad 1), .int p1])).length) Slot.unset).toArray = ls at hl ⊢
  have hl : lv_has ls 3 [(0, .ref (ad 1)), (1, .int p1)] := hl
  unfold wp_Pa_appendPenalty at hw
  refine lv_aload_n hx hb d_Pa_appendPenalty_0 rfl (lv_at hl 0 rfl) ?_
  refine lv_iconst (v := 4) hx hb d_Pa_appendPenalty_1 (by decide) ?_
  refine lv_iconst (v := 0) hx hb d_Pa_appendPenalty_2 (by decide) ?_
  refine kc_i (st := fun (u : (Nat → Int32) × (Nat → Int32) × (Nat → Int32) × (Nat → Int32) × (Nat → Int32) × (Nat → Int32) × (Nat → Int32) × (Nat → Int32) × (Nat → Int32) × Int32) => wC K ad (sI (sA (sA (sA (sA (sA (sA (sA (sA (sA S 2 u.1) 3 u.2.1) 4 u.2.2.1) 5 u.2.2.2.1) 6 u.2.2.2.2.1) 7 u.2.2.2.2.2.1) 8 u.2.2.2.2.2.2.1) 9 u.2.2.2.2.2.2.2.1) 10 u.2.2.2.2.2.2.2.2.1) 73 u.2.2.2.2.2.2.2.2.2) ++ X) w (kr_V (y := y_Pa_append) (C1 := R_Pa) (T := F_Pa) (N := 10) (ci := 6) (q0 := 1) (As := [.int 4, .int 0]) (n := 2) C w (c_Pa_append l n0 G K ad X S 4 0 _ hw) (gw_V kw_547 kw_499 kw_500 kw_2 kw_501) (by decide +kernel) rfl rfl ⟨Nat.le_of_ble_eq_true rfl, Nat.le_of_ble_eq_true rfl⟩ rfl rfl rfl hl.1 rfl (Nat.le_of_ble_eq_true rfl) d_Pa_appendPenalty_3 ⟨Nat.le_of_ble_eq_true rfl, Nat.le_of_ble_eq_true rfl⟩) (fun r11 u H locs hw w => ?_)
  obtain ⟨f1, f2, f3, f4, f5, f6, f7, f8, f9, v10⟩ := u
  dsimp only at hw
  have w : wn n0 G (wC K ad (sI (sA (sA (sA (sA (sA (sA (sA (sA (sA S 2 f1) 3 f2) 4 f3) 5 f4) 6 f5) 7 f6) 8 f7) 9 f8) 10 f9) 73 v10) ++ X) s H locs := w
  refine lv_istore_n (lv' := [(2, .int r11), (0, .ref (ad 1)), (1, .int p1)]) hx hb d_Pa_appendPenalty_6 rfl hl (by decide) rfl (fun ls hl => ?_)
  refine lv_aload_n hx hb d_Pa_appendPenalty_7 rfl (lv_at hl 1 rfl) ?_
  refine kg (C1 := R_Pa) (T := F_Pa) (N := 10) (ci := 6) (ref := "LineBreaker$Paragraph") (v := .ref (ad 7)) C w 1 5 iw_Pa rfl rfl (by decide) kw_45 rfl rfl d_Pa_appendPenalty_8 ?_
  refine lv_iload_n hx hb d_Pa_appendPenalty_11 rfl (lv_at hl 0 rfl) ?_
  refine lv_iload_n hx hb d_Pa_appendPenalty_12 rfl (lv_at hl 2 rfl) ?_
  obtain ⟨f12, ef12⟩ : ∃ z : Nat → Int32, z = upd f6 r11.toNatClampNeg p1 := ⟨_, rfl⟩
  refine ks_i (f := f6) (w2 := wC K ad (sI (sA (sA (sA (sA (sA (sA (sA (sA (sA S 2 f1) 3 f2) 4 f3) 5 f4) 6 f5) 7 f12) 8 f7) 9 f8) 10 f9) 73 v10) ++ X) C w 7 rfl hw.1 (by rw [← ef12]; rfl) d_Pa_appendPenalty_13 (fun H locs w => ?_)
  have hw := hw.2 f12 ef12
  refine lv_iload_n hx hb d_Pa_appendPenalty_14 rfl (lv_at hl 0 rfl) ?_
  exact ke_i (post := (fun r (u : (Nat → Int32) × (Nat → Int32) × (Nat → Int32) × (Nat → Int32) × (Nat → Int32) × (Nat → Int32) × (Nat → Int32) × (Nat → Int32) × (Nat → Int32) × Int32) => post r u.1 u.2.1 u.2.2.1 u.2.2.2.1 u.2.2.2.2.1 u.2.2.2.2.2.1 u.2.2.2.2.2.2.1 u.2.2.2.2.2.2.2.1 u.2.2.2.2.2.2.2.2.1 u.2.2.2.2.2.2.2.2.2)) (st := (fun (u : (Nat → Int32) × (Nat → Int32) × (Nat → Int32) × (Nat → Int32) × (Nat → Int32) × (Nat → Int32) × (Nat → Int32) × (Nat → Int32) × (Nat → Int32) × Int32) => wC K ad (sI (sA (sA (sA (sA (sA (sA (sA (sA (sA S 2 u.1) 3 u.2.1) 4 u.2.2.1) 5 u.2.2.2.1) 6 u.2.2.2.2.1) 7 u.2.2.2.2.2.1) 8 u.2.2.2.2.2.2.1) 9 u.2.2.2.2.2.2.2.1) 10 u.2.2.2.2.2.2.2.2.1) 73 u.2.2.2.2.2.2.2.2.2) ++ X)) (u := (f1, f2, f3, f4, f5, f12, f7, f8, f9, v10)) C hr d_Pa_appendPenalty_15 (wn_eq w rfl) hw
set_option maxHeartbeats 4000000 in
set_option maxRecDepth 100000 in
theorem c_Pa_appendHyphen (l : Launch) (n0 : Nat) (G : va_G) (K : KT) (ad : Nat → Nat) (X : va_W) (S : ST) (p1 : Int32) (p2 : Int32) (p3 : Int32) (post : Int32 → (Nat → Int32) → (Nat → Int32) → (Nat → Int32) → (Nat → Int32) → (Nat → Int32) → (Nat → Int32) → (Nat → Int32) → (Nat → Int32) → (Nat → Int32) → Int32 → Prop) (hw : wp_Pa_appendHyphen S p1 p2 p3 post) : Met l y_Pa_appendHyphen (Cond.code y_Pa_appendHyphen prog_8_method_5_code 5 (some .int) :: gw) rm_Pa_appendHyphen (va_Pc [.ref (ad 1), .int p1, .int p2, .int p3] (wb n0 G K (wC K ad S ++ X))) (va_Qi (fun r (u : (Nat → Int32) × (Nat → Int32) × (Nat → Int32) × (Nat → Int32) × (Nat → Int32) × (Nat → Int32) × (Nat → Int32) × (Nat → Int32) × (Nat → Int32) × Int32) => post r u.1 u.2.1 u.2.2.1 u.2.2.2.1 u.2.2.2.2.1 u.2.2.2.2.2.1 u.2.2.2.2.2.2.1 u.2.2.2.2.2.2.2.1 u.2.2.2.2.2.2.2.2.1 u.2.2.2.2.2.2.2.2.2) (fun (u : (Nat → Int32) × (Nat → Int32) × (Nat → Int32) × (Nat → Int32) × (Nat → Int32) × (Nat → Int32) × (Nat → Int32) × (Nat → Int32) × (Nat → Int32) × Int32) t => we n0 G (wC K ad (sI (sA (sA (sA (sA (sA (sA (sA (sA (sA S 2 u.1) 3 u.2.1) 4 u.2.2.1) 5 u.2.2.2.1) 6 u.2.2.2.2.1) 7 u.2.2.2.2.2.1) 8 u.2.2.2.2.2.2.1) 9 u.2.2.2.2.2.2.2.1) 10 u.2.2.2.2.2.2.2.2.1) 73 u.2.2.2.2.2.2.2.2.2) ++ X) t) (al n0)) 0 0 (al n0) := by
  refine kb_start (own := "LineBreaker$Paragraph") (by decide +kernel) rfl ?_
  intro p e s m below meth c C hr hne w
  have hx := C.1
  have hb := C.2.1
  have hts := C.2.2.2.2.1
  have hl := lv_entry ([.ref (ad 1), .int p1, .int p2, .int p3]) (n := 5) (Nat.le_of_ble_eq_true rfl)
  rw [lg_entry_eq]
  generalize (lg_sl ([.ref (ad 1), .int p1, .int p2, .int p3]) ++ List.replicate (5 - (lg_sl ([.ref (ad 1), .int p1, .int p2, .int p3])).length) Slot.unset).toArray = ls at hl ⊢
  have hl : lv_has ls 5 [(0, .ref (ad 1)), (1, .int p1), (2, .int p2), (3, .int p3)] := hl
  unfold wp_Pa_appendHyphen at hw
  refine lv_aload_n hx hb d_Pa_appendHyphen_0 rfl (lv_at hl 0 rfl) ?_
  refine lv_iconst (v := 5) hx hb d_Pa_appendHyphen_1 (by decide) ?_
  refine lv_iconst (v := 0) hx hb d_Pa_appendHyphen_2 (by decide) ?_
  refine kc_i (st := fun (u : (Nat → Int32) × (Nat → Int32) × (Nat → Int32) × (Nat → Int32) × (Nat → Int32) × (Nat → Int32) × (Nat → Int32) × (Nat → Int32) × (Nat → Int32) × Int32) => wC K ad (sI (sA (sA (sA (sA (sA (sA (sA (sA (sA S 2 u.1) 3 u.2.1) 4 u.2.2.1) 5 u.2.2.2.1) 6 u.2.2.2.2.1) 7 u.2.2.2.2.2.1) 8 u.2.2.2.2.2.2.1) 9 u.2.2.2.2.2.2.2.1) 10 u.2.2.2.2.2.2.2.2.1) 73 u.2.2.2.2.2.2.2.2.2) ++ X) w (kr_V (y := y_Pa_append) (C1 := R_Pa) (T := F_Pa) (N := 10) (ci := 6) (q0 := 1) (As := [.int 5, .int 0]) (n := 2) C w (c_Pa_append l n0 G K ad X S 5 0 _ hw) (gw_V kw_547 kw_499 kw_500 kw_2 kw_501) (by decide +kernel) rfl rfl ⟨Nat.le_of_ble_eq_true rfl, Nat.le_of_ble_eq_true rfl⟩ rfl rfl rfl hl.1 rfl (Nat.le_of_ble_eq_true rfl) d_Pa_appendHyphen_3 ⟨Nat.le_of_ble_eq_true rfl, Nat.le_of_ble_eq_true rfl⟩) (fun r11 u H locs hw w => ?_)
  obtain ⟨f1, f2, f3, f4, f5, f6, f7, f8, f9, v10⟩ := u
  dsimp only at hw
  have w : wn n0 G (wC K ad (sI (sA (sA (sA (sA (sA (sA (sA (sA (sA S 2 f1) 3 f2) 4 f3) 5 f4) 6 f5) 7 f6) 8 f7) 9 f8) 10 f9) 73 v10) ++ X) s H locs := w
  refine lv_istore (lv' := [(4, .int r11), (0, .ref (ad 1)), (1, .int p1), (2, .int p2), (3, .int p3)]) hx hb d_Pa_appendHyphen_6 hl (by decide) rfl (fun ls hl => ?_)
  refine lv_aload_n hx hb d_Pa_appendHyphen_8 rfl (lv_at hl 1 rfl) ?_
  refine kg (C1 := R_Pa) (T := F_Pa) (N := 10) (ci := 6) (ref := "LineBreaker$Paragraph") (v := .ref (ad 8)) C w 1 6 iw_Pa rfl rfl (by decide) kw_47 rfl rfl d_Pa_appendHyphen_9 ?_
  refine lv_iload hx hb d_Pa_appendHyphen_12 (lv_at hl 0 rfl) ?_
  refine lv_iload_n hx hb d_Pa_appendHyphen_14 rfl (lv_at hl 2 rfl) ?_
  obtain ⟨f12, ef12⟩ : ∃ z : Nat → Int32, z = upd f7 r11.toNatClampNeg p1 := ⟨_, rfl⟩
  refine ks_i (f := f7) (w2 := wC K ad (sI (sA (sA (sA (sA (sA (sA (sA (sA (sA S 2 f1) 3 f2) 4 f3) 5 f4) 6 f5) 7 f6) 8 f12) 9 f8) 10 f9) 73 v10) ++ X) C w 8 rfl hw.1 (by rw [← ef12]; rfl) d_Pa_appendHyphen_15 (fun H locs w => ?_)
  have hw := hw.2 f12 ef12
  refine lv_aload_n hx hb d_Pa_appendHyphen_16 rfl (lv_at hl 1 rfl) ?_
  refine kg (C1 := R_Pa) (T := F_Pa) (N := 10) (ci := 6) (ref := "LineBreaker$Paragraph") (v := .ref (ad 9)) C w 1 7 iw_Pa rfl rfl (by decide) kw_49 rfl rfl d_Pa_appendHyphen_17 ?_
  refine lv_iload hx hb d_Pa_appendHyphen_20 (lv_at hl 0 rfl) ?_
  refine lv_iload_n hx hb d_Pa_appendHyphen_22 rfl (lv_at hl 3 rfl) ?_
  obtain ⟨f13, ef13⟩ : ∃ z : Nat → Int32, z = upd f8 r11.toNatClampNeg p2 := ⟨_, rfl⟩
  refine ks_i (f := f8) (w2 := wC K ad (sI (sA (sA (sA (sA (sA (sA (sA (sA (sA S 2 f1) 3 f2) 4 f3) 5 f4) 6 f5) 7 f6) 8 f12) 9 f13) 10 f9) 73 v10) ++ X) C w 9 rfl hw.1 (by rw [← ef13]; rfl) d_Pa_appendHyphen_23 (fun H locs w => ?_)
  have hw := hw.2 f13 ef13
  refine lv_aload_n hx hb d_Pa_appendHyphen_24 rfl (lv_at hl 1 rfl) ?_
  refine kg (C1 := R_Pa) (T := F_Pa) (N := 10) (ci := 6) (ref := "LineBreaker$Paragraph") (v := .ref (ad 10)) C w 1 8 iw_Pa rfl rfl (by decide) kw_51 rfl rfl d_Pa_appendHyphen_25 ?_
  refine lv_iload hx hb d_Pa_appendHyphen_28 (lv_at hl 0 rfl) ?_
  refine lv_iload_n hx hb d_Pa_appendHyphen_30 rfl (lv_at hl 4 rfl) ?_
  obtain ⟨f14, ef14⟩ : ∃ z : Nat → Int32, z = upd f9 r11.toNatClampNeg p3 := ⟨_, rfl⟩
  refine ks_i (f := f9) (w2 := wC K ad (sI (sA (sA (sA (sA (sA (sA (sA (sA (sA S 2 f1) 3 f2) 4 f3) 5 f4) 6 f5) 7 f6) 8 f12) 9 f13) 10 f14) 73 v10) ++ X) C w 10 rfl hw.1 (by rw [← ef14]; rfl) d_Pa_appendHyphen_31 (fun H locs w => ?_)
  have hw := hw.2 f14 ef14
  refine lv_iload hx hb d_Pa_appendHyphen_32 (lv_at hl 0 rfl) ?_
  exact ke_i (post := (fun r (u : (Nat → Int32) × (Nat → Int32) × (Nat → Int32) × (Nat → Int32) × (Nat → Int32) × (Nat → Int32) × (Nat → Int32) × (Nat → Int32) × (Nat → Int32) × Int32) => post r u.1 u.2.1 u.2.2.1 u.2.2.2.1 u.2.2.2.2.1 u.2.2.2.2.2.1 u.2.2.2.2.2.2.1 u.2.2.2.2.2.2.2.1 u.2.2.2.2.2.2.2.2.1 u.2.2.2.2.2.2.2.2.2)) (st := (fun (u : (Nat → Int32) × (Nat → Int32) × (Nat → Int32) × (Nat → Int32) × (Nat → Int32) × (Nat → Int32) × (Nat → Int32) × (Nat → Int32) × (Nat → Int32) × Int32) => wC K ad (sI (sA (sA (sA (sA (sA (sA (sA (sA (sA S 2 u.1) 3 u.2.1) 4 u.2.2.1) 5 u.2.2.2.1) 6 u.2.2.2.2.1) 7 u.2.2.2.2.2.1) 8 u.2.2.2.2.2.2.1) 9 u.2.2.2.2.2.2.2.1) 10 u.2.2.2.2.2.2.2.2.1) 73 u.2.2.2.2.2.2.2.2.2) ++ X)) (u := (f1, f2, f3, f4, f5, f6, f12, f13, f14, v10)) C hr d_Pa_appendHyphen_34 (wn_eq w rfl) hw
set_option maxHeartbeats 4000000 in
set_option maxRecDepth 100000 in
theorem w_Pa_awaitsReplaced_19 {S : ST} {post : Int32 → Prop} (C : cx p s m args meth c prog_8_method_6_code 3 "LineBreaker$Paragraph" n0 G K) (hr : meth.sig.returnType = (some .boolean)) : ∀ (n : Nat) (x1 : Int32) (x2 : Int32), wl_Pa_awaitsReplaced_19 S post n x1 x2 → ∀ (ls : Array Slot), wn n0 G (wC K ad S ++ X) s s.heap [] → lv_has ls 3 [(0, .ref (ad 1)), (1, .int x1), (2, .int x2)] → W p l e rm_Pa_awaitsReplaced s m args below meth c s.heap [] 0 0 (MQ below (rq_i post) args s 0 0 (fun _ => False)) (F0 m 19 ls []) := by
  have hx := C.1
  have hb := C.2.1
  have hts := C.2.2.2.2.1
  intro n
  induction n with
  | zero =>
    intro x1 x2 hw
    unfold wl_Pa_awaitsReplaced_19 at hw
    exact hw.elim
  | succ n ih =>
    intro x1 x2 hw ls w hl
    unfold wl_Pa_awaitsReplaced_19 at hw
    refine lv_iload_n hx hb d_Pa_awaitsReplaced_19 rfl (lv_at hl 2 rfl) ?_
    refine lv_iload_n hx hb d_Pa_awaitsReplaced_20 rfl (lv_at hl 1 rfl) ?_
    refine lv_icmp_lt (tgt := 61) hx hb d_Pa_awaitsReplaced_21 (by decide) (fun hc => ?_) (fun hc => ?_)
    · have hw := hw.1 hc
      refine lv_iconst (v := 0) hx hb d_Pa_awaitsReplaced_61 (by decide) ?_
      exact kf_z C hr d_Pa_awaitsReplaced_62 (Or.inl rfl) hw
    · have hw := hw.2 hc
      refine lv_aload_n hx hb d_Pa_awaitsReplaced_24 rfl (lv_at hl 0 rfl) ?_
      refine kg (C1 := R_Pa) (T := F_Pa) (N := 10) (ci := 6) (ref := "LineBreaker$Paragraph") (v := .ref (ad 2)) C w 1 0 iw_Pa rfl rfl (by decide) kw_35 rfl rfl d_Pa_awaitsReplaced_25 ?_
      refine lv_iload_n hx hb d_Pa_awaitsReplaced_28 rfl (lv_at hl 2 rfl) ?_
      refine ka_i (f := (S.1 2)) C w 2 rfl hw.1 d_Pa_awaitsReplaced_29 ?_
      have hw := hw.2
      refine lv_iconst (v := 5) hx hb d_Pa_awaitsReplaced_30 (by decide) ?_
      refine lv_icmp_ne (tgt := 55) hx hb d_Pa_awaitsReplaced_31 (by decide) (fun hc => ?_) (fun hc => ?_)
      · have hw := hw.1 hc
        obtain ⟨v1, ev1⟩ : ∃ y : Int32, y = x2 + (-1) := ⟨_, rfl⟩
        refine lv_iinc (v := v1) (lv' := [(2, .int v1), (0, .ref (ad 1)), (1, .int x1)]) hx hb d_Pa_awaitsReplaced_55 hl (k := 2) rfl (by rw [ev1]; rfl) (by decide) rfl (fun ls hl => ?_)
        have hw := hw v1 ev1
        refine lv_goto (tgt := 19) hx hb d_Pa_awaitsReplaced_58 (by decide) ?_
        exact ih x1 v1 hw _ w (lv_sub hl [1, 2, 0] rfl)
      · have hw := hw.2 hc
        refine lv_iload_n hx hb d_Pa_awaitsReplaced_34 rfl (lv_at hl 2 rfl) ?_
        refine lv_aload_n hx hb d_Pa_awaitsReplaced_35 rfl (lv_at hl 0 rfl) ?_
        refine kg (C1 := R_Pa) (T := F_Pa) (N := 10) (ci := 6) (ref := "LineBreaker$Paragraph") (v := .ref (ad 10)) C w 1 8 iw_Pa rfl rfl (by decide) kw_51 rfl rfl d_Pa_awaitsReplaced_36 ?_
        refine lv_iload_n hx hb d_Pa_awaitsReplaced_39 rfl (lv_at hl 2 rfl) ?_
        refine ka_i (f := (S.1 10)) C w 10 rfl hw.1 d_Pa_awaitsReplaced_40 ?_
        have hw := hw.2
        refine lv_iadd hx hb d_Pa_awaitsReplaced_41 ?_
        refine lv_aload_n hx hb d_Pa_awaitsReplaced_42 rfl (lv_at hl 0 rfl) ?_
        refine kg (C1 := R_Pa) (T := F_Pa) (N := 10) (ci := 6) (ref := "LineBreaker$Paragraph") (v := .int (S.2.2 73)) C w 1 9 iw_Pa rfl rfl (by decide) kw_53 rfl rfl d_Pa_awaitsReplaced_43 ?_
        refine lv_icmp_lt (tgt := 53) hx hb d_Pa_awaitsReplaced_46 (by decide) (fun hc => ?_) (fun hc => ?_)
        · have hw := hw.1 hc
          refine lv_iconst (v := 0) hx hb d_Pa_awaitsReplaced_53 (by decide) ?_
          exact kf_z C hr d_Pa_awaitsReplaced_54 (Or.inl rfl) hw
        · have hw := hw.2 hc
          refine lv_iconst (v := 1) hx hb d_Pa_awaitsReplaced_49 (by decide) ?_
          refine lv_goto (tgt := 54) hx hb d_Pa_awaitsReplaced_50 (by decide) ?_
          exact kf_z C hr d_Pa_awaitsReplaced_54 (Or.inr rfl) hw
set_option maxHeartbeats 4000000 in
set_option maxRecDepth 100000 in
theorem c_Pa_awaitsReplaced (l : Launch) (n0 : Nat) (G : va_G) (K : KT) (ad : Nat → Nat) (X : va_W) (S : ST) (post : Int32 → Prop) (hw : wp_Pa_awaitsReplaced S  post) : Met l y_Pa_awaitsReplaced (Cond.code y_Pa_awaitsReplaced prog_8_method_6_code 3 (some .boolean) :: gw) rm_Pa_awaitsReplaced (va_Pc [.ref (ad 1)] (wb n0 G K (wC K ad S ++ X))) (rq_i post) 0 0 (fun _ => False) := by
  refine kb_start (own := "LineBreaker$Paragraph") (by decide +kernel) rfl ?_
  intro p e s m below meth c C hr hne w
  have hx := C.1
  have hb := C.2.1
  have hts := C.2.2.2.2.1
  have hl := lv_entry ([.ref (ad 1)]) (n := 3) (Nat.le_of_ble_eq_true rfl)
  rw [lg_entry_eq]
  generalize (lg_sl ([.ref (ad 1)]) ++ List.replicate (3 - (lg_sl ([.ref (ad 1)])).length) Slot.unset).toArray = ls at hl ⊢
  have hl : lv_has ls 3 [(0, .ref (ad 1))] := hl
  unfold wp_Pa_awaitsReplaced at hw
  refine lv_iconst (v := 0) hx hb d_Pa_awaitsReplaced_0 (by decide) ?_
  refine lv_aload_n hx hb d_Pa_awaitsReplaced_1 rfl (lv_at hl 0 rfl) ?_
  refine kg (C1 := R_Pa) (T := F_Pa) (N := 10) (ci := 6) (ref := "LineBreaker$Paragraph") (v := .int (S.2.2 73)) C w 1 9 iw_Pa rfl rfl (by decide) kw_53 rfl rfl d_Pa_awaitsReplaced_2 ?_
  refine lv_bipush (v := 10) hx hb d_Pa_awaitsReplaced_5 (by decide) ?_
  refine lv_isub hx hb d_Pa_awaitsReplaced_7 ?_
  refine va_mmax hx hb (C.2.2.1.trans hl.1.symm) C.2.2.2.1 (hts _ kw_524) (hts _ kw_525) (hts _ kw_17) (hts _ kw_526) (Nat.le_of_ble_eq_true rfl) (Nat.le_of_ble_eq_true rfl) (Nat.le_of_ble_eq_true rfl) (Nat.le_of_ble_eq_true rfl) d_Pa_awaitsReplaced_8 ?_
  refine lv_topi (fun v1 ev1 => ?_)
  have hw := hw v1 ev1
  refine lv_istore_n (lv' := [(1, .int v1), (0, .ref (ad 1))]) hx hb d_Pa_awaitsReplaced_11 rfl hl (by decide) rfl (fun ls hl => ?_)
  refine lv_aload_n hx hb d_Pa_awaitsReplaced_12 rfl (lv_at hl 1 rfl) ?_
  refine kg (C1 := R_Pa) (T := F_Pa) (N := 10) (ci := 6) (ref := "LineBreaker$Paragraph") (v := .int (S.2.2 73)) C w 1 9 iw_Pa rfl rfl (by decide) kw_53 rfl rfl d_Pa_awaitsReplaced_13 ?_
  refine lv_iconst (v := 1) hx hb d_Pa_awaitsReplaced_16 (by decide) ?_
  refine lv_isub hx hb d_Pa_awaitsReplaced_17 ?_
  refine lv_topi (fun v2 ev2 => ?_)
  have hw := hw v2 ev2
  refine lv_istore_n (lv' := [(2, .int v2), (1, .int v1), (0, .ref (ad 1))]) hx hb d_Pa_awaitsReplaced_18 rfl hl (by decide) rfl (fun ls hl => ?_)
  obtain ⟨n9, hw⟩ := hw
  exact w_Pa_awaitsReplaced_19 C hr  n9 v1 v2 hw _ w (lv_sub hl [2, 1, 0] rfl)
set_option maxHeartbeats 4000000 in
set_option maxRecDepth 100000 in
theorem c_Lb_keep (l : Launch) (n0 : Nat) (G : va_G) (K : KT) (ad : Nat → Nat) (X : va_W) (S : ST) (p1 : Int32) (post : Int32 → Int32 → Int32 → Int32 → Int32 → Prop) (hw : wp_Lb_keep S p1 post) : Met l y_Lb_keep (Cond.code y_Lb_keep prog_1_method_7_code 2 (some .boolean) :: gw) rm_Lb_keep (va_Pc [.ref (ad 0), .int p1] (wb n0 G K (wC K ad S ++ X))) (va_Qi (fun r (u : Int32 × Int32 × Int32 × Int32) => post r u.1 u.2.1 u.2.2.1 u.2.2.2) (fun (u : Int32 × Int32 × Int32 × Int32) t => we n0 G (wC K ad (sI (sI (sI (sI S 73 u.1) 2626 u.2.1) 2627 u.2.2.1) 2628 u.2.2.2) ++ X) t) (al n0)) 0 0 (al n0) := by
  refine kb_start (own := "LineBreaker") (by decide +kernel) rfl ?_
  intro p e s m below meth c C hr hne w
  have hx := C.1
  have hb := C.2.1
  have hts := C.2.2.2.2.1
  have hl := lv_entry ([.ref (ad 0), .int p1]) (n := 2) (Nat.le_of_ble_eq_true rfl)
  rw [lg_entry_eq]
  generalize (lg_sl ([.ref (ad 0), .int p1]) ++ List.replicate (2 - (lg_sl ([.ref (ad 0), .int p1])).length) Slot.unset).toArray = ls at hl ⊢
  have hl : lv_has ls 2 [(0, .ref (ad 0)), (1, .int p1)] := hl
  unfold wp_Lb_keep at hw
  refine lv_iload_n hx hb d_Lb_keep_0 rfl (lv_at hl 1 rfl) ?_
  refine lv_if_lt (tgt := 15) hx hb d_Lb_keep_1 (by decide) (fun hc => ?_) (fun hc => ?_)
  · have hw := hw.1 hc
    refine lv_iconst (v := 0) hx hb d_Lb_keep_15 (by decide) ?_
    exact ke_z (post := (fun r (u : Int32 × Int32 × Int32 × Int32) => post r u.1 u.2.1 u.2.2.1 u.2.2.2)) (st := (fun (u : Int32 × Int32 × Int32 × Int32) => wC K ad (sI (sI (sI (sI S 73 u.1) 2626 u.2.1) 2627 u.2.2.1) 2628 u.2.2.2) ++ X)) (u := ((S.2.2 73), (S.2.2 2626), (S.2.2 2627), (S.2.2 2628))) C hr d_Lb_keep_16 (wn_eq w rfl) (Or.inl rfl) hw
  · have hw := hw.2 hc
    refine lv_iload_n hx hb d_Lb_keep_4 rfl (lv_at hl 1 rfl) ?_
    refine lv_aload_n hx hb d_Lb_keep_5 rfl (lv_at hl 0 rfl) ?_
    refine kg (C1 := R_Lb) (T := F_Lb) (N := 5) (ci := 9) (ref := "LineBreaker") (v := .ref (ad 1)) C w 0 0 iw_Lb rfl rfl (by decide) kw_356 rfl rfl d_Lb_keep_6 ?_
    refine kg (C1 := R_Pa) (T := F_Pa) (N := 10) (ci := 6) (ref := "LineBreaker$Paragraph") (v := .int (S.2.2 73)) C w 1 9 iw_Pa rfl rfl (by decide) kw_54 rfl rfl d_Lb_keep_9 ?_
    refine lv_icmp_le (tgt := 17) hx hb d_Lb_keep_12 (by decide) (fun hc => ?_) (fun hc => ?_)
    · have hw := hw.1 hc
      refine lv_aload_n hx hb d_Lb_keep_17 rfl (lv_at hl 0 rfl) ?_
      refine kg (C1 := R_Lb) (T := F_Lb) (N := 5) (ci := 9) (ref := "LineBreaker") (v := .ref (ad 1)) C w 0 0 iw_Lb rfl rfl (by decide) kw_356 rfl rfl d_Lb_keep_18 ?_
      refine lv_iload_n hx hb d_Lb_keep_21 rfl (lv_at hl 1 rfl) ?_
      refine kp (C1 := R_Pa) (T := F_Pa) (N := 10) (ci := 6) (ty0 := t_Pa) (ref := "LineBreaker$Paragraph") (w2 := wC K ad (sI S 73 p1) ++ X) C w 1 9 iw_Pa tk_Pa n_Pa rfl rfl (by decide) kw_54 rfl rfl rfl rfl (Nat.le_of_ble_eq_true rfl) rfl d_Lb_keep_22 (fun H locs w => ?_)
      refine lv_aload_n hx hb d_Lb_keep_25 rfl (lv_at hl 0 rfl) ?_
      refine kg (C1 := R_Lb) (T := F_Lb) (N := 5) (ci := 9) (ref := "LineBreaker") (v := .ref (ad 41)) C w 0 4 iw_Lb rfl rfl (by decide) kw_360 rfl rfl d_Lb_keep_26 ?_
      refine kc_v (st := fun (u : Int32 × Int32 × Int32) => wC K ad (sI (sI (sI (sI S 73 p1) 2626 u.1) 2627 u.2.1) 2628 u.2.2) ++ X) w (kr_V (y := y_Ou_forget) (C1 := R_Ou) (T := F_Ou) (N := 5) (ci := 5) (q0 := 41) (As := []) (n := 0) C w (c_Ou_forget l n0 G K ad X (sI S 73 p1)  _ hw) (gw_V kw_376 kw_377 kw_378 kw_10 kw_379) (by decide +kernel) rfl rfl ⟨Nat.le_of_ble_eq_true rfl, Nat.le_of_ble_eq_true rfl⟩ rfl rfl rfl hl.1 rfl (Nat.le_of_ble_eq_true rfl) d_Lb_keep_29 ⟨Nat.le_of_ble_eq_true rfl, Nat.le_of_ble_eq_true rfl⟩) (fun u H locs hw w => ?_)
      obtain ⟨v1, v2, v3⟩ := u
      dsimp only at hw
      have w : wn n0 G (wC K ad (sI (sI (sI (sI S 73 p1) 2626 v1) 2627 v2) 2628 v3) ++ X) s H locs := w
      refine lv_iconst (v := 1) hx hb d_Lb_keep_32 (by decide) ?_
      exact ke_z (post := (fun r (u : Int32 × Int32 × Int32 × Int32) => post r u.1 u.2.1 u.2.2.1 u.2.2.2)) (st := (fun (u : Int32 × Int32 × Int32 × Int32) => wC K ad (sI (sI (sI (sI S 73 u.1) 2626 u.2.1) 2627 u.2.2.1) 2628 u.2.2.2) ++ X)) (u := (p1, v1, v2, v3)) C hr d_Lb_keep_33 (wn_eq w rfl) (Or.inr rfl) hw
    · have hw := hw.2 hc
      refine lv_iconst (v := 0) hx hb d_Lb_keep_15 (by decide) ?_
      exact ke_z (post := (fun r (u : Int32 × Int32 × Int32 × Int32) => post r u.1 u.2.1 u.2.2.1 u.2.2.2)) (st := (fun (u : Int32 × Int32 × Int32 × Int32) => wC K ad (sI (sI (sI (sI S 73 u.1) 2626 u.2.1) 2627 u.2.2.1) 2628 u.2.2.2) ++ X)) (u := ((S.2.2 73), (S.2.2 2626), (S.2.2 2627), (S.2.2 2628))) C hr d_Lb_keep_16 (wn_eq w rfl) (Or.inl rfl) hw
set_option maxHeartbeats 4000000 in
set_option maxRecDepth 100000 in
theorem c_Lb_items (l : Launch) (n0 : Nat) (G : va_G) (K : KT) (ad : Nat → Nat) (X : va_W) (S : ST) (post : Int32 → Prop) (hw : wp_Lb_items S  post) : Met l y_Lb_items (Cond.code y_Lb_items prog_1_method_8_code 1 (some .int) :: gw) rm_Lb_items (va_Pc [.ref (ad 0)] (wb n0 G K (wC K ad S ++ X))) (rq_i post) 0 0 (fun _ => False) := by
  refine kb_start (own := "LineBreaker") (by decide +kernel) rfl ?_
  intro p e s m below meth c C hr hne w
  have hx := C.1
  have hb := C.2.1
  have hts := C.2.2.2.2.1
  have hl := lv_entry ([.ref (ad 0)]) (n := 1) (Nat.le_of_ble_eq_true rfl)
  rw [lg_entry_eq]
  generalize (lg_sl ([.ref (ad 0)]) ++ List.replicate (1 - (lg_sl ([.ref (ad 0)])).length) Slot.unset).toArray = ls at hl ⊢
  have hl : lv_has ls 1 [(0, .ref (ad 0))] := hl
  unfold wp_Lb_items at hw
  refine lv_aload_n hx hb d_Lb_items_0 rfl (lv_at hl 0 rfl) ?_
  refine kg (C1 := R_Lb) (T := F_Lb) (N := 5) (ci := 9) (ref := "LineBreaker") (v := .ref (ad 1)) C w 0 0 iw_Lb rfl rfl (by decide) kw_356 rfl rfl d_Lb_items_1 ?_
  refine kg (C1 := R_Pa) (T := F_Pa) (N := 10) (ci := 6) (ref := "LineBreaker$Paragraph") (v := .int (S.2.2 73)) C w 1 9 iw_Pa rfl rfl (by decide) kw_54 rfl rfl d_Lb_items_4 ?_
  exact kf_i C hr d_Lb_items_7 hw
set_option maxHeartbeats 4000000 in
set_option maxRecDepth 100000 in
theorem c_Lb_pass (l : Launch) (n0 : Nat) (G : va_G) (K : KT) (ad : Nat → Nat) (X : va_W) (S : ST) (post : Int32 → Prop) (hw : wp_Lb_pass S  post) : Met l y_Lb_pass (Cond.code y_Lb_pass prog_1_method_13_code 1 (some .int) :: gw) rm_Lb_pass (va_Pc [.ref (ad 0)] (wb n0 G K (wC K ad S ++ X))) (rq_i post) 0 0 (fun _ => False) := by
  refine kb_start (own := "LineBreaker") (by decide +kernel) rfl ?_
  intro p e s m below meth c C hr hne w
  have hx := C.1
  have hb := C.2.1
  have hts := C.2.2.2.2.1
  have hl := lv_entry ([.ref (ad 0)]) (n := 1) (Nat.le_of_ble_eq_true rfl)
  rw [lg_entry_eq]
  generalize (lg_sl ([.ref (ad 0)]) ++ List.replicate (1 - (lg_sl ([.ref (ad 0)])).length) Slot.unset).toArray = ls at hl ⊢
  have hl : lv_has ls 1 [(0, .ref (ad 0))] := hl
  unfold wp_Lb_pass at hw
  refine lv_aload_n hx hb d_Lb_pass_0 rfl (lv_at hl 0 rfl) ?_
  refine kg (C1 := R_Lb) (T := F_Lb) (N := 5) (ci := 9) (ref := "LineBreaker") (v := .ref (ad 41)) C w 0 4 iw_Lb rfl rfl (by decide) kw_360 rfl rfl d_Lb_pass_1 ?_
  refine kg (C1 := R_Ou) (T := F_Ou) (N := 5) (ci := 5) (ref := "LineBreaker$Outcome") (v := .int (S.2.2 2627)) C w 41 3 iw_Ou rfl rfl (by decide) kw_342 rfl rfl d_Lb_pass_4 ?_
  exact kf_i C hr d_Lb_pass_7 hw
set_option maxHeartbeats 4000000 in
set_option maxRecDepth 100000 in
theorem c_Lb_nodes (l : Launch) (n0 : Nat) (G : va_G) (K : KT) (ad : Nat → Nat) (X : va_W) (S : ST) (post : Int32 → Prop) (hw : wp_Lb_nodes S  post) : Met l y_Lb_nodes (Cond.code y_Lb_nodes prog_1_method_14_code 1 (some .int) :: gw) rm_Lb_nodes (va_Pc [.ref (ad 0)] (wb n0 G K (wC K ad S ++ X))) (rq_i post) 0 0 (fun _ => False) := by
  refine kb_start (own := "LineBreaker") (by decide +kernel) rfl ?_
  intro p e s m below meth c C hr hne w
  have hx := C.1
  have hb := C.2.1
  have hts := C.2.2.2.2.1
  have hl := lv_entry ([.ref (ad 0)]) (n := 1) (Nat.le_of_ble_eq_true rfl)
  rw [lg_entry_eq]
  generalize (lg_sl ([.ref (ad 0)]) ++ List.replicate (1 - (lg_sl ([.ref (ad 0)])).length) Slot.unset).toArray = ls at hl ⊢
  have hl : lv_has ls 1 [(0, .ref (ad 0))] := hl
  unfold wp_Lb_nodes at hw
  refine lv_aload_n hx hb d_Lb_nodes_0 rfl (lv_at hl 0 rfl) ?_
  refine kg (C1 := R_Lb) (T := F_Lb) (N := 5) (ci := 9) (ref := "LineBreaker") (v := .ref (ad 41)) C w 0 4 iw_Lb rfl rfl (by decide) kw_360 rfl rfl d_Lb_nodes_1 ?_
  refine kg (C1 := R_Ou) (T := F_Ou) (N := 5) (ci := 5) (ref := "LineBreaker$Outcome") (v := .int (S.2.2 2628)) C w 41 4 iw_Ou rfl rfl (by decide) kw_344 rfl rfl d_Lb_nodes_4 ?_
  exact kf_i C hr d_Lb_nodes_7 hw
set_option maxHeartbeats 4000000 in
set_option maxRecDepth 100000 in
theorem w_Pa_allStretch_4 {S : ST} {post : Int64 → Prop} (C : cx p s m args meth c prog_8_method_9_code 4 "LineBreaker$Paragraph" n0 G K) (hr : meth.sig.returnType = (some .long)) : ∀ (n : Nat) (x1 : Int64) (x3 : Int32), wl_Pa_allStretch_4 S post n x1 x3 → ∀ (ls : Array Slot), wn n0 G (wC K ad S ++ X) s s.heap [] → lv_has ls 4 [(0, .ref (ad 1)), (1, .long x1), (3, .int x3)] → W p l e rm_Pa_allStretch s m args below meth c s.heap [] 0 0 (MQ below (rq_l post) args s 0 0 (fun _ => False)) (F0 m 4 ls []) := by
  have hx := C.1
  have hb := C.2.1
  have hts := C.2.2.2.2.1
  intro n
  induction n with
  | zero =>
    intro x1 x3 hw
    unfold wl_Pa_allStretch_4 at hw
    exact hw.elim
  | succ n ih =>
    intro x1 x3 hw ls w hl
    unfold wl_Pa_allStretch_4 at hw
    refine lv_iload_n hx hb d_Pa_allStretch_4 rfl (lv_at hl 2 rfl) ?_
    refine lv_aload_n hx hb d_Pa_allStretch_5 rfl (lv_at hl 0 rfl) ?_
    refine kg (C1 := R_Pa) (T := F_Pa) (N := 10) (ci := 6) (ref := "LineBreaker$Paragraph") (v := .int (S.2.2 73)) C w 1 9 iw_Pa rfl rfl (by decide) kw_53 rfl rfl d_Pa_allStretch_6 ?_
    refine lv_icmp_ge (tgt := 28) hx hb d_Pa_allStretch_9 (by decide) (fun hc => ?_) (fun hc => ?_)
    · have hw := hw.1 hc
      refine lv_lload_n hx hb d_Pa_allStretch_28 rfl (lv_at hl 1 rfl) ?_
      exact kf_l C hr d_Pa_allStretch_29 hw
    · have hw := hw.2 hc
      refine lv_lload_n hx hb d_Pa_allStretch_12 rfl (lv_at hl 1 rfl) ?_
      refine lv_aload_n hx hb d_Pa_allStretch_13 rfl (lv_at hl 0 rfl) ?_
      refine kg (C1 := R_Pa) (T := F_Pa) (N := 10) (ci := 6) (ref := "LineBreaker$Paragraph") (v := .ref (ad 4)) C w 1 2 iw_Pa rfl rfl (by decide) kw_39 rfl rfl d_Pa_allStretch_14 ?_
      refine lv_iload_n hx hb d_Pa_allStretch_17 rfl (lv_at hl 2 rfl) ?_
      refine ka_i (f := (S.1 4)) C w 4 rfl hw.1 d_Pa_allStretch_18 ?_
      have hw := hw.2
      refine lv_i2l hx hb d_Pa_allStretch_19 rfl ?_
      refine lv_ladd hx hb d_Pa_allStretch_20 ?_
      refine lv_topl (fun v1 ev1 => ?_)
      have hw := hw v1 ev1
      refine lv_lstore_n (lv' := [(1, .long v1), (0, .ref (ad 1)), (3, .int x3)]) hx hb d_Pa_allStretch_21 rfl hl (by decide) rfl (fun ls hl => ?_)
      obtain ⟨v2, ev2⟩ : ∃ y : Int32, y = x3 + 1 := ⟨_, rfl⟩
      refine lv_iinc (v := v2) (lv' := [(3, .int v2), (1, .long v1), (0, .ref (ad 1))]) hx hb d_Pa_allStretch_22 hl (k := 2) rfl (by rw [ev2]; rfl) (by decide) rfl (fun ls hl => ?_)
      have hw := hw v2 ev2
      refine lv_goto (tgt := 4) hx hb d_Pa_allStretch_25 (by decide) ?_
      exact ih v1 v2 hw _ w (lv_sub hl [2, 1, 0] rfl)
set_option maxHeartbeats 4000000 in
set_option maxRecDepth 100000 in
theorem c_Pa_allStretch (l : Launch) (n0 : Nat) (G : va_G) (K : KT) (ad : Nat → Nat) (X : va_W) (S : ST) (post : Int64 → Prop) (hw : wp_Pa_allStretch S  post) : Met l y_Pa_allStretch (Cond.code y_Pa_allStretch prog_8_method_9_code 4 (some .long) :: gw) rm_Pa_allStretch (va_Pc [.ref (ad 1)] (wb n0 G K (wC K ad S ++ X))) (rq_l post) 0 0 (fun _ => False) := by
  refine kb_start (own := "LineBreaker$Paragraph") (by decide +kernel) rfl ?_
  intro p e s m below meth c C hr hne w
  have hx := C.1
  have hb := C.2.1
  have hts := C.2.2.2.2.1
  have hl := lv_entry ([.ref (ad 1)]) (n := 4) (Nat.le_of_ble_eq_true rfl)
  rw [lg_entry_eq]
  generalize (lg_sl ([.ref (ad 1)]) ++ List.replicate (4 - (lg_sl ([.ref (ad 1)])).length) Slot.unset).toArray = ls at hl ⊢
  have hl : lv_has ls 4 [(0, .ref (ad 1))] := hl
  unfold wp_Pa_allStretch at hw
  refine lv_lconst (v := 0) hx hb d_Pa_allStretch_0 (by decide) ?_
  refine lv_lstore_n (lv' := [(1, .long 0), (0, .ref (ad 1))]) hx hb d_Pa_allStretch_1 rfl hl (by decide) rfl (fun ls hl => ?_)
  refine lv_iconst (v := 0) hx hb d_Pa_allStretch_2 (by decide) ?_
  refine lv_istore_n (lv' := [(3, .int 0), (1, .long 0), (0, .ref (ad 1))]) hx hb d_Pa_allStretch_3 rfl hl (by decide) rfl (fun ls hl => ?_)
  obtain ⟨n9, hw⟩ := hw
  exact w_Pa_allStretch_4 C hr  n9 0 0 hw _ w (lv_sub hl [2, 1, 0] rfl)
set_option maxHeartbeats 4000000 in
set_option maxRecDepth 100000 in
theorem c_St_stretchAround (l : Launch) (n0 : Nat) (G : va_G) (K : KT) (ad : Nat → Nat) (X : va_W) (S : ST) (post : Int64 → Prop) (hw : wp_St_stretchAround S  post) : Met l y_St_stretchAround (Cond.code y_St_stretchAround prog_10_method_4_code 1 (some .long) :: gw) rm_St_stretchAround (va_Pc [.ref (ad 11)] (wb n0 G K (wC K ad S ++ X))) (rq_l post) 0 0 (fun _ => False) := by
  refine kb_start (own := "LineBreaker$Settings") (by decide +kernel) rfl ?_
  intro p e s m below meth c C hr hne w
  have hx := C.1
  have hb := C.2.1
  have hts := C.2.2.2.2.1
  have hl := lv_entry ([.ref (ad 11)]) (n := 1) (Nat.le_of_ble_eq_true rfl)
  rw [lg_entry_eq]
  generalize (lg_sl ([.ref (ad 11)]) ++ List.replicate (1 - (lg_sl ([.ref (ad 11)])).length) Slot.unset).toArray = ls at hl ⊢
  have hl : lv_has ls 1 [(0, .ref (ad 11))] := hl
  unfold wp_St_stretchAround at hw
  refine lv_aload_n hx hb d_St_stretchAround_0 rfl (lv_at hl 0 rfl) ?_
  refine kg (C1 := R_St) (T := F_St) (N := 5) (ci := 8) (ref := "LineBreaker$Settings") (v := .ref (ad 14)) C w 11 2 iw_St rfl rfl (by decide) kw_116 rfl rfl d_St_stretchAround_1 ?_
  refine kg (C1 := R_Gl) (T := F_Gl) (N := 4) (ci := 2) (ref := "LineBreaker$Glue") (v := .int (S.2.2 897)) C w 14 1 iw_Gl rfl rfl (by decide) kw_94 rfl rfl d_St_stretchAround_4 ?_
  refine lv_i2l hx hb d_St_stretchAround_7 rfl ?_
  refine lv_aload_n hx hb d_St_stretchAround_8 rfl (lv_at hl 0 rfl) ?_
  refine kg (C1 := R_St) (T := F_St) (N := 5) (ci := 8) (ref := "LineBreaker$Settings") (v := .ref (ad 15)) C w 11 3 iw_St rfl rfl (by decide) kw_119 rfl rfl d_St_stretchAround_9 ?_
  refine kg (C1 := R_Gl) (T := F_Gl) (N := 4) (ci := 2) (ref := "LineBreaker$Glue") (v := .int (S.2.2 961)) C w 15 1 iw_Gl rfl rfl (by decide) kw_94 rfl rfl d_St_stretchAround_12 ?_
  refine lv_i2l hx hb d_St_stretchAround_15 rfl ?_
  refine lv_ladd hx hb d_St_stretchAround_16 ?_
  refine lv_aload_n hx hb d_St_stretchAround_17 rfl (lv_at hl 0 rfl) ?_
  refine kg (C1 := R_St) (T := F_St) (N := 5) (ci := 8) (ref := "LineBreaker$Settings") (v := .ref (ad 16)) C w 11 4 iw_St rfl rfl (by decide) kw_122 rfl rfl d_St_stretchAround_18 ?_
  refine kg (C1 := R_Gl) (T := F_Gl) (N := 4) (ci := 2) (ref := "LineBreaker$Glue") (v := .int (S.2.2 1025)) C w 16 1 iw_Gl rfl rfl (by decide) kw_94 rfl rfl d_St_stretchAround_21 ?_
  refine lv_i2l hx hb d_St_stretchAround_24 rfl ?_
  refine lv_ladd hx hb d_St_stretchAround_25 ?_
  exact kf_l C hr d_St_stretchAround_26 hw
set_option maxHeartbeats 4000000 in
set_option maxRecDepth 100000 in
theorem w_Pa_allWidths_4 {S : ST} {post : Int64 → Prop} (C : cx p s m args meth c prog_8_method_8_code 4 "LineBreaker$Paragraph" n0 G K) (hr : meth.sig.returnType = (some .long)) : ∀ (n : Nat) (x1 : Int64) (x3 : Int32), wl_Pa_allWidths_4 S post n x1 x3 → ∀ (ls : Array Slot), wn n0 G (wC K ad S ++ X) s s.heap [] → lv_has ls 4 [(0, .ref (ad 1)), (1, .long x1), (3, .int x3)] → W p l e rm_Pa_allWidths s m args below meth c s.heap [] 0 0 (MQ below (rq_l post) args s 0 0 (fun _ => False)) (F0 m 4 ls []) := by
  have hx := C.1
  have hb := C.2.1
  have hts := C.2.2.2.2.1
  intro n
  induction n with
  | zero =>
    intro x1 x3 hw
    unfold wl_Pa_allWidths_4 at hw
    exact hw.elim
  | succ n ih =>
    intro x1 x3 hw ls w hl
    unfold wl_Pa_allWidths_4 at hw
    refine lv_iload_n hx hb d_Pa_allWidths_4 rfl (lv_at hl 2 rfl) ?_
    refine lv_aload_n hx hb d_Pa_allWidths_5 rfl (lv_at hl 0 rfl) ?_
    refine kg (C1 := R_Pa) (T := F_Pa) (N := 10) (ci := 6) (ref := "LineBreaker$Paragraph") (v := .int (S.2.2 73)) C w 1 9 iw_Pa rfl rfl (by decide) kw_53 rfl rfl d_Pa_allWidths_6 ?_
    refine lv_icmp_ge (tgt := 63) hx hb d_Pa_allWidths_9 (by decide) (fun hc => ?_) (fun hc => ?_)
    · have hw := hw.1 hc
      refine lv_lload_n hx hb d_Pa_allWidths_63 rfl (lv_at hl 1 rfl) ?_
      exact kf_l C hr d_Pa_allWidths_64 hw
    · have hw := hw.2 hc
      refine lv_lload_n hx hb d_Pa_allWidths_12 rfl (lv_at hl 1 rfl) ?_
      refine lv_aload_n hx hb d_Pa_allWidths_13 rfl (lv_at hl 0 rfl) ?_
      refine kg (C1 := R_Pa) (T := F_Pa) (N := 10) (ci := 6) (ref := "LineBreaker$Paragraph") (v := .ref (ad 3)) C w 1 1 iw_Pa rfl rfl (by decide) kw_37 rfl rfl d_Pa_allWidths_14 ?_
      refine lv_iload_n hx hb d_Pa_allWidths_17 rfl (lv_at hl 2 rfl) ?_
      refine ka_i (f := (S.1 3)) C w 3 rfl hw.1 d_Pa_allWidths_18 ?_
      have hw := hw.2
      refine va_mabs hx hb (C.2.2.1.trans hl.1.symm) C.2.2.2.1 (hts _ kw_644) (hts _ kw_645) (hts _ kw_17) (hts _ kw_646) (Nat.le_of_ble_eq_true rfl) (Nat.le_of_ble_eq_true rfl) (Nat.le_of_ble_eq_true rfl) (Nat.le_of_ble_eq_true rfl) d_Pa_allWidths_19 ?_
      refine lv_topi (fun v1 ev1 => ?_)
      have hw := hw v1 ev1
      refine lv_i2l hx hb d_Pa_allWidths_22 rfl ?_
      refine lv_ladd hx hb d_Pa_allWidths_23 ?_
      refine lv_topl (fun v2 ev2 => ?_)
      have hw := hw v2 ev2
      refine lv_lstore_n (lv' := [(1, .long v2), (0, .ref (ad 1)), (3, .int x3)]) hx hb d_Pa_allWidths_24 rfl hl (by decide) rfl (fun ls hl => ?_)
      refine lv_lload_n hx hb d_Pa_allWidths_25 rfl (lv_at hl 0 rfl) ?_
      refine lv_aload_n hx hb d_Pa_allWidths_26 rfl (lv_at hl 1 rfl) ?_
      refine kg (C1 := R_Pa) (T := F_Pa) (N := 10) (ci := 6) (ref := "LineBreaker$Paragraph") (v := .ref (ad 8)) C w 1 6 iw_Pa rfl rfl (by decide) kw_47 rfl rfl d_Pa_allWidths_27 ?_
      refine lv_iload_n hx hb d_Pa_allWidths_30 rfl (lv_at hl 2 rfl) ?_
      refine ka_i (f := (S.1 8)) C w 8 rfl hw.1 d_Pa_allWidths_31 ?_
      have hw := hw.2
      refine kd_i (kr_N (host := "LineBreaker") (y := y_Lb_widthOf) (As := [.int ((S.1 8) x3.toNatClampNeg)]) (n := 1) C w (c_Lb_widthOf l n0 G K ad X S ((S.1 8) x3.toNatClampNeg) _ hw) kw_649 (fx_nest (i := 647) C.2.2.2.2.2.2.2.2 (by decide +kernel)) kw_1 kw_648 (by decide +kernel) rfl rfl ⟨Nat.le_of_ble_eq_true rfl, Nat.le_of_ble_eq_true rfl⟩ rfl hl.1 rfl (Nat.le_of_ble_eq_true rfl) d_Pa_allWidths_32 ⟨Nat.le_of_ble_eq_true rfl, Nat.le_of_ble_eq_true rfl⟩) (fun r3 hw => ?_)
      refine va_mabs hx hb (C.2.2.1.trans hl.1.symm) C.2.2.2.1 (hts _ kw_644) (hts _ kw_645) (hts _ kw_17) (hts _ kw_646) (Nat.le_of_ble_eq_true rfl) (Nat.le_of_ble_eq_true rfl) (Nat.le_of_ble_eq_true rfl) (Nat.le_of_ble_eq_true rfl) d_Pa_allWidths_35 ?_
      refine lv_topi (fun v4 ev4 => ?_)
      have hw := hw v4 ev4
      refine lv_i2l hx hb d_Pa_allWidths_38 rfl ?_
      refine lv_ladd hx hb d_Pa_allWidths_39 ?_
      refine lv_topl (fun v5 ev5 => ?_)
      have hw := hw v5 ev5
      refine lv_lstore_n (lv' := [(1, .long v5), (0, .ref (ad 1)), (3, .int x3)]) hx hb d_Pa_allWidths_40 rfl hl (by decide) rfl (fun ls hl => ?_)
      refine lv_lload_n hx hb d_Pa_allWidths_41 rfl (lv_at hl 0 rfl) ?_
      refine lv_aload_n hx hb d_Pa_allWidths_42 rfl (lv_at hl 1 rfl) ?_
      refine kg (C1 := R_Pa) (T := F_Pa) (N := 10) (ci := 6) (ref := "LineBreaker$Paragraph") (v := .ref (ad 9)) C w 1 7 iw_Pa rfl rfl (by decide) kw_49 rfl rfl d_Pa_allWidths_43 ?_
      refine lv_iload_n hx hb d_Pa_allWidths_46 rfl (lv_at hl 2 rfl) ?_
      refine ka_i (f := (S.1 9)) C w 9 rfl hw.1 d_Pa_allWidths_47 ?_
      have hw := hw.2
      refine kd_i (kr_N (host := "LineBreaker") (y := y_Lb_widthOf) (As := [.int ((S.1 9) x3.toNatClampNeg)]) (n := 1) C w (c_Lb_widthOf l n0 G K ad X S ((S.1 9) x3.toNatClampNeg) _ hw) kw_649 (fx_nest (i := 647) C.2.2.2.2.2.2.2.2 (by decide +kernel)) kw_1 kw_648 (by decide +kernel) rfl rfl ⟨Nat.le_of_ble_eq_true rfl, Nat.le_of_ble_eq_true rfl⟩ rfl hl.1 rfl (Nat.le_of_ble_eq_true rfl) d_Pa_allWidths_48 ⟨Nat.le_of_ble_eq_true rfl, Nat.le_of_ble_eq_true rfl⟩) (fun r6 hw => ?_)
      refine va_mabs hx hb (C.2.2.1.trans hl.1.symm) C.2.2.2.1 (hts _ kw_644) (hts _ kw_645) (hts _ kw_17) (hts _ kw_646) (Nat.le_of_ble_eq_true rfl) (Nat.le_of_ble_eq_true rfl) (Nat.le_of_ble_eq_true rfl) (Nat.le_of_ble_eq_true rfl) d_Pa_allWidths_51 ?_
      refine lv_topi (fun v7 ev7 => ?_)
      have hw := hw v7 ev7
      refine lv_i2l hx hb d_Pa_allWidths_54 rfl ?_
      refine lv_ladd hx hb d_Pa_allWidths_55 ?_
      refine lv_topl (fun v8 ev8 => ?_)
      have hw := hw v8 ev8
      refine lv_lstore_n (lv' := [(1, .long v8), (0, .ref (ad 1)), (3, .int x3)]) hx hb d_Pa_allWidths_56 rfl hl (by decide) rfl (fun ls hl => ?_)
      obtain ⟨v9, ev9⟩ : ∃ y : Int32, y = x3 + 1 := ⟨_, rfl⟩
      refine lv_iinc (v := v9) (lv' := [(3, .int v9), (1, .long v8), (0, .ref (ad 1))]) hx hb d_Pa_allWidths_57 hl (k := 2) rfl (by rw [ev9]; rfl) (by decide) rfl (fun ls hl => ?_)
      have hw := hw v9 ev9
      refine lv_goto (tgt := 4) hx hb d_Pa_allWidths_60 (by decide) ?_
      exact ih v8 v9 hw _ w (lv_sub hl [2, 1, 0] rfl)
set_option maxHeartbeats 4000000 in
set_option maxRecDepth 100000 in
theorem c_Pa_allWidths (l : Launch) (n0 : Nat) (G : va_G) (K : KT) (ad : Nat → Nat) (X : va_W) (S : ST) (post : Int64 → Prop) (hw : wp_Pa_allWidths S  post) : Met l y_Pa_allWidths (Cond.code y_Pa_allWidths prog_8_method_8_code 4 (some .long) :: gw) rm_Pa_allWidths (va_Pc [.ref (ad 1)] (wb n0 G K (wC K ad S ++ X))) (rq_l post) 0 0 (fun _ => False) := by
  refine kb_start (own := "LineBreaker$Paragraph") (by decide +kernel) rfl ?_
  intro p e s m below meth c C hr hne w
  have hx := C.1
  have hb := C.2.1
  have hts := C.2.2.2.2.1
  have hl := lv_entry ([.ref (ad 1)]) (n := 4) (Nat.le_of_ble_eq_true rfl)
  rw [lg_entry_eq]
  generalize (lg_sl ([.ref (ad 1)]) ++ List.replicate (4 - (lg_sl ([.ref (ad 1)])).length) Slot.unset).toArray = ls at hl ⊢
  have hl : lv_has ls 4 [(0, .ref (ad 1))] := hl
  unfold wp_Pa_allWidths at hw
  refine lv_lconst (v := 0) hx hb d_Pa_allWidths_0 (by decide) ?_
  refine lv_lstore_n (lv' := [(1, .long 0), (0, .ref (ad 1))]) hx hb d_Pa_allWidths_1 rfl hl (by decide) rfl (fun ls hl => ?_)
  refine lv_iconst (v := 0) hx hb d_Pa_allWidths_2 (by decide) ?_
  refine lv_istore_n (lv' := [(3, .int 0), (1, .long 0), (0, .ref (ad 1))]) hx hb d_Pa_allWidths_3 rfl hl (by decide) rfl (fun ls hl => ?_)
  obtain ⟨n9, hw⟩ := hw
  exact w_Pa_allWidths_4 C hr  n9 0 0 hw _ w (lv_sub hl [2, 1, 0] rfl)
set_option maxHeartbeats 4000000 in
set_option maxRecDepth 100000 in
theorem c_St_widthsAround (l : Launch) (n0 : Nat) (G : va_G) (K : KT) (ad : Nat → Nat) (X : va_W) (S : ST) (post : Int64 → Prop) (hw : wp_St_widthsAround S  post) : Met l y_St_widthsAround (Cond.code y_St_widthsAround prog_10_method_3_code 1 (some .long) :: gw) rm_St_widthsAround (va_Pc [.ref (ad 11)] (wb n0 G K (wC K ad S ++ X))) (rq_l post) 0 0 (fun _ => False) := by
  refine kb_start (own := "LineBreaker$Settings") (by decide +kernel) rfl ?_
  intro p e s m below meth c C hr hne w
  have hx := C.1
  have hb := C.2.1
  have hts := C.2.2.2.2.1
  have hl := lv_entry ([.ref (ad 11)]) (n := 1) (Nat.le_of_ble_eq_true rfl)
  rw [lg_entry_eq]
  generalize (lg_sl ([.ref (ad 11)]) ++ List.replicate (1 - (lg_sl ([.ref (ad 11)])).length) Slot.unset).toArray = ls at hl ⊢
  have hl : lv_has ls 1 [(0, .ref (ad 11))] := hl
  unfold wp_St_widthsAround at hw
  refine lv_aload_n hx hb d_St_widthsAround_0 rfl (lv_at hl 0 rfl) ?_
  refine kg (C1 := R_St) (T := F_St) (N := 5) (ci := 8) (ref := "LineBreaker$Settings") (v := .ref (ad 14)) C w 11 2 iw_St rfl rfl (by decide) kw_116 rfl rfl d_St_widthsAround_1 ?_
  refine kg (C1 := R_Gl) (T := F_Gl) (N := 4) (ci := 2) (ref := "LineBreaker$Glue") (v := .int (S.2.2 896)) C w 14 0 iw_Gl rfl rfl (by decide) kw_90 rfl rfl d_St_widthsAround_4 ?_
  refine va_mabs hx hb (C.2.2.1.trans hl.1.symm) C.2.2.2.1 (hts _ kw_654) (hts _ kw_645) (hts _ kw_17) (hts _ kw_646) (Nat.le_of_ble_eq_true rfl) (Nat.le_of_ble_eq_true rfl) (Nat.le_of_ble_eq_true rfl) (Nat.le_of_ble_eq_true rfl) d_St_widthsAround_7 ?_
  refine lv_topi (fun v1 ev1 => ?_)
  have hw := hw v1 ev1
  refine lv_i2l hx hb d_St_widthsAround_10 rfl ?_
  refine lv_aload_n hx hb d_St_widthsAround_11 rfl (lv_at hl 0 rfl) ?_
  refine kg (C1 := R_St) (T := F_St) (N := 5) (ci := 8) (ref := "LineBreaker$Settings") (v := .ref (ad 15)) C w 11 3 iw_St rfl rfl (by decide) kw_119 rfl rfl d_St_widthsAround_12 ?_
  refine kg (C1 := R_Gl) (T := F_Gl) (N := 4) (ci := 2) (ref := "LineBreaker$Glue") (v := .int (S.2.2 960)) C w 15 0 iw_Gl rfl rfl (by decide) kw_90 rfl rfl d_St_widthsAround_15 ?_
  refine va_mabs hx hb (C.2.2.1.trans hl.1.symm) C.2.2.2.1 (hts _ kw_654) (hts _ kw_645) (hts _ kw_17) (hts _ kw_646) (Nat.le_of_ble_eq_true rfl) (Nat.le_of_ble_eq_true rfl) (Nat.le_of_ble_eq_true rfl) (Nat.le_of_ble_eq_true rfl) d_St_widthsAround_18 ?_
  refine lv_topi (fun v2 ev2 => ?_)
  have hw := hw v2 ev2
  refine lv_i2l hx hb d_St_widthsAround_21 rfl ?_
  refine lv_ladd hx hb d_St_widthsAround_22 ?_
  refine lv_aload_n hx hb d_St_widthsAround_23 rfl (lv_at hl 0 rfl) ?_
  refine kg (C1 := R_St) (T := F_St) (N := 5) (ci := 8) (ref := "LineBreaker$Settings") (v := .ref (ad 16)) C w 11 4 iw_St rfl rfl (by decide) kw_122 rfl rfl d_St_widthsAround_24 ?_
  refine kg (C1 := R_Gl) (T := F_Gl) (N := 4) (ci := 2) (ref := "LineBreaker$Glue") (v := .int (S.2.2 1024)) C w 16 0 iw_Gl rfl rfl (by decide) kw_90 rfl rfl d_St_widthsAround_27 ?_
  refine va_mabs hx hb (C.2.2.1.trans hl.1.symm) C.2.2.2.1 (hts _ kw_654) (hts _ kw_645) (hts _ kw_17) (hts _ kw_646) (Nat.le_of_ble_eq_true rfl) (Nat.le_of_ble_eq_true rfl) (Nat.le_of_ble_eq_true rfl) (Nat.le_of_ble_eq_true rfl) d_St_widthsAround_30 ?_
  refine lv_topi (fun v3 ev3 => ?_)
  have hw := hw v3 ev3
  refine lv_i2l hx hb d_St_widthsAround_33 rfl ?_
  refine lv_ladd hx hb d_St_widthsAround_34 ?_
  exact kf_l C hr d_St_widthsAround_35 hw
set_option maxHeartbeats 4000000 in
set_option maxRecDepth 100000 in
theorem w_Pa_allShrink_4 {S : ST} {post : Int64 → Prop} (C : cx p s m args meth c prog_8_method_10_code 4 "LineBreaker$Paragraph" n0 G K) (hr : meth.sig.returnType = (some .long)) : ∀ (n : Nat) (x1 : Int64) (x3 : Int32), wl_Pa_allShrink_4 S post n x1 x3 → ∀ (ls : Array Slot), wn n0 G (wC K ad S ++ X) s s.heap [] → lv_has ls 4 [(0, .ref (ad 1)), (1, .long x1), (3, .int x3)] → W p l e rm_Pa_allShrink s m args below meth c s.heap [] 0 0 (MQ below (rq_l post) args s 0 0 (fun _ => False)) (F0 m 4 ls []) := by
  have hx := C.1
  have hb := C.2.1
  have hts := C.2.2.2.2.1
  intro n
  induction n with
  | zero =>
    intro x1 x3 hw
    unfold wl_Pa_allShrink_4 at hw
    exact hw.elim
  | succ n ih =>
    intro x1 x3 hw ls w hl
    unfold wl_Pa_allShrink_4 at hw
    refine lv_iload_n hx hb d_Pa_allShrink_4 rfl (lv_at hl 2 rfl) ?_
    refine lv_aload_n hx hb d_Pa_allShrink_5 rfl (lv_at hl 0 rfl) ?_
    refine kg (C1 := R_Pa) (T := F_Pa) (N := 10) (ci := 6) (ref := "LineBreaker$Paragraph") (v := .int (S.2.2 73)) C w 1 9 iw_Pa rfl rfl (by decide) kw_53 rfl rfl d_Pa_allShrink_6 ?_
    refine lv_icmp_ge (tgt := 28) hx hb d_Pa_allShrink_9 (by decide) (fun hc => ?_) (fun hc => ?_)
    · have hw := hw.1 hc
      refine lv_lload_n hx hb d_Pa_allShrink_28 rfl (lv_at hl 1 rfl) ?_
      exact kf_l C hr d_Pa_allShrink_29 hw
    · have hw := hw.2 hc
      refine lv_lload_n hx hb d_Pa_allShrink_12 rfl (lv_at hl 1 rfl) ?_
      refine lv_aload_n hx hb d_Pa_allShrink_13 rfl (lv_at hl 0 rfl) ?_
      refine kg (C1 := R_Pa) (T := F_Pa) (N := 10) (ci := 6) (ref := "LineBreaker$Paragraph") (v := .ref (ad 6)) C w 1 4 iw_Pa rfl rfl (by decide) kw_43 rfl rfl d_Pa_allShrink_14 ?_
      refine lv_iload_n hx hb d_Pa_allShrink_17 rfl (lv_at hl 2 rfl) ?_
      refine ka_i (f := (S.1 6)) C w 6 rfl hw.1 d_Pa_allShrink_18 ?_
      have hw := hw.2
      refine lv_i2l hx hb d_Pa_allShrink_19 rfl ?_
      refine lv_ladd hx hb d_Pa_allShrink_20 ?_
      refine lv_topl (fun v1 ev1 => ?_)
      have hw := hw v1 ev1
      refine lv_lstore_n (lv' := [(1, .long v1), (0, .ref (ad 1)), (3, .int x3)]) hx hb d_Pa_allShrink_21 rfl hl (by decide) rfl (fun ls hl => ?_)
      obtain ⟨v2, ev2⟩ : ∃ y : Int32, y = x3 + 1 := ⟨_, rfl⟩
      refine lv_iinc (v := v2) (lv' := [(3, .int v2), (1, .long v1), (0, .ref (ad 1))]) hx hb d_Pa_allShrink_22 hl (k := 2) rfl (by rw [ev2]; rfl) (by decide) rfl (fun ls hl => ?_)
      have hw := hw v2 ev2
      refine lv_goto (tgt := 4) hx hb d_Pa_allShrink_25 (by decide) ?_
      exact ih v1 v2 hw _ w (lv_sub hl [2, 1, 0] rfl)
set_option maxHeartbeats 4000000 in
set_option maxRecDepth 100000 in
theorem c_Pa_allShrink (l : Launch) (n0 : Nat) (G : va_G) (K : KT) (ad : Nat → Nat) (X : va_W) (S : ST) (post : Int64 → Prop) (hw : wp_Pa_allShrink S  post) : Met l y_Pa_allShrink (Cond.code y_Pa_allShrink prog_8_method_10_code 4 (some .long) :: gw) rm_Pa_allShrink (va_Pc [.ref (ad 1)] (wb n0 G K (wC K ad S ++ X))) (rq_l post) 0 0 (fun _ => False) := by
  refine kb_start (own := "LineBreaker$Paragraph") (by decide +kernel) rfl ?_
  intro p e s m below meth c C hr hne w
  have hx := C.1
  have hb := C.2.1
  have hts := C.2.2.2.2.1
  have hl := lv_entry ([.ref (ad 1)]) (n := 4) (Nat.le_of_ble_eq_true rfl)
  rw [lg_entry_eq]
  generalize (lg_sl ([.ref (ad 1)]) ++ List.replicate (4 - (lg_sl ([.ref (ad 1)])).length) Slot.unset).toArray = ls at hl ⊢
  have hl : lv_has ls 4 [(0, .ref (ad 1))] := hl
  unfold wp_Pa_allShrink at hw
  refine lv_lconst (v := 0) hx hb d_Pa_allShrink_0 (by decide) ?_
  refine lv_lstore_n (lv' := [(1, .long 0), (0, .ref (ad 1))]) hx hb d_Pa_allShrink_1 rfl hl (by decide) rfl (fun ls hl => ?_)
  refine lv_iconst (v := 0) hx hb d_Pa_allShrink_2 (by decide) ?_
  refine lv_istore_n (lv' := [(3, .int 0), (1, .long 0), (0, .ref (ad 1))]) hx hb d_Pa_allShrink_3 rfl hl (by decide) rfl (fun ls hl => ?_)
  obtain ⟨n9, hw⟩ := hw
  exact w_Pa_allShrink_4 C hr  n9 0 0 hw _ w (lv_sub hl [2, 1, 0] rfl)
set_option maxHeartbeats 4000000 in
set_option maxRecDepth 100000 in
theorem c_St_shrinkAround (l : Launch) (n0 : Nat) (G : va_G) (K : KT) (ad : Nat → Nat) (X : va_W) (S : ST) (post : Int64 → Prop) (hw : wp_St_shrinkAround S  post) : Met l y_St_shrinkAround (Cond.code y_St_shrinkAround prog_10_method_5_code 1 (some .long) :: gw) rm_St_shrinkAround (va_Pc [.ref (ad 11)] (wb n0 G K (wC K ad S ++ X))) (rq_l post) 0 0 (fun _ => False) := by
  refine kb_start (own := "LineBreaker$Settings") (by decide +kernel) rfl ?_
  intro p e s m below meth c C hr hne w
  have hx := C.1
  have hb := C.2.1
  have hts := C.2.2.2.2.1
  have hl := lv_entry ([.ref (ad 11)]) (n := 1) (Nat.le_of_ble_eq_true rfl)
  rw [lg_entry_eq]
  generalize (lg_sl ([.ref (ad 11)]) ++ List.replicate (1 - (lg_sl ([.ref (ad 11)])).length) Slot.unset).toArray = ls at hl ⊢
  have hl : lv_has ls 1 [(0, .ref (ad 11))] := hl
  unfold wp_St_shrinkAround at hw
  refine lv_aload_n hx hb d_St_shrinkAround_0 rfl (lv_at hl 0 rfl) ?_
  refine kg (C1 := R_St) (T := F_St) (N := 5) (ci := 8) (ref := "LineBreaker$Settings") (v := .ref (ad 14)) C w 11 2 iw_St rfl rfl (by decide) kw_116 rfl rfl d_St_shrinkAround_1 ?_
  refine kg (C1 := R_Gl) (T := F_Gl) (N := 4) (ci := 2) (ref := "LineBreaker$Glue") (v := .int (S.2.2 899)) C w 14 3 iw_Gl rfl rfl (by decide) kw_98 rfl rfl d_St_shrinkAround_4 ?_
  refine lv_i2l hx hb d_St_shrinkAround_7 rfl ?_
  refine lv_aload_n hx hb d_St_shrinkAround_8 rfl (lv_at hl 0 rfl) ?_
  refine kg (C1 := R_St) (T := F_St) (N := 5) (ci := 8) (ref := "LineBreaker$Settings") (v := .ref (ad 15)) C w 11 3 iw_St rfl rfl (by decide) kw_119 rfl rfl d_St_shrinkAround_9 ?_
  refine kg (C1 := R_Gl) (T := F_Gl) (N := 4) (ci := 2) (ref := "LineBreaker$Glue") (v := .int (S.2.2 963)) C w 15 3 iw_Gl rfl rfl (by decide) kw_98 rfl rfl d_St_shrinkAround_12 ?_
  refine lv_i2l hx hb d_St_shrinkAround_15 rfl ?_
  refine lv_ladd hx hb d_St_shrinkAround_16 ?_
  refine lv_aload_n hx hb d_St_shrinkAround_17 rfl (lv_at hl 0 rfl) ?_
  refine kg (C1 := R_St) (T := F_St) (N := 5) (ci := 8) (ref := "LineBreaker$Settings") (v := .ref (ad 16)) C w 11 4 iw_St rfl rfl (by decide) kw_122 rfl rfl d_St_shrinkAround_18 ?_
  refine kg (C1 := R_Gl) (T := F_Gl) (N := 4) (ci := 2) (ref := "LineBreaker$Glue") (v := .int (S.2.2 1027)) C w 16 3 iw_Gl rfl rfl (by decide) kw_98 rfl rfl d_St_shrinkAround_21 ?_
  refine lv_i2l hx hb d_St_shrinkAround_24 rfl ?_
  refine lv_ladd hx hb d_St_shrinkAround_25 ?_
  exact kf_l C hr d_St_shrinkAround_26 hw
set_option maxHeartbeats 4000000 in
set_option maxRecDepth 100000 in
theorem c_Lb_sumsAreSizes (l : Launch) (n0 : Nat) (G : va_G) (K : KT) (ad : Nat → Nat) (X : va_W) (S : ST) (post : Int32 → Prop) (hw : wp_Lb_sumsAreSizes S  post) : Met l y_Lb_sumsAreSizes (Cond.code y_Lb_sumsAreSizes prog_1_method_17_code 3 (some .boolean) :: gw) rm_Lb_sumsAreSizes (va_Pc [.ref (ad 0)] (wb n0 G K (wC K ad S ++ X))) (rq_i post) 0 0 (fun _ => False) := by
  refine kb_start (own := "LineBreaker") (by decide +kernel) rfl ?_
  intro p e s m below meth c C hr hne w
  have hx := C.1
  have hb := C.2.1
  have hts := C.2.2.2.2.1
  have hl := lv_entry ([.ref (ad 0)]) (n := 3) (Nat.le_of_ble_eq_true rfl)
  rw [lg_entry_eq]
  generalize (lg_sl ([.ref (ad 0)]) ++ List.replicate (3 - (lg_sl ([.ref (ad 0)])).length) Slot.unset).toArray = ls at hl ⊢
  have hl : lv_has ls 3 [(0, .ref (ad 0))] := hl
  unfold wp_Lb_sumsAreSizes at hw
  refine lv_aload_n hx hb d_Lb_sumsAreSizes_0 rfl (lv_at hl 0 rfl) ?_
  refine kg (C1 := R_Lb) (T := F_Lb) (N := 5) (ci := 9) (ref := "LineBreaker") (v := .ref (ad 1)) C w 0 0 iw_Lb rfl rfl (by decide) kw_356 rfl rfl d_Lb_sumsAreSizes_1 ?_
  refine kd_l (kr_V (y := y_Pa_allStretch) (C1 := R_Pa) (T := F_Pa) (N := 10) (ci := 6) (q0 := 1) (As := []) (n := 0) C w (c_Pa_allStretch l n0 G K ad X S  _ hw) (gw_V kw_632 kw_633 kw_634 kw_2 kw_635) (by decide +kernel) rfl rfl ⟨Nat.le_of_ble_eq_true rfl, Nat.le_of_ble_eq_true rfl⟩ rfl rfl rfl hl.1 rfl (Nat.le_of_ble_eq_true rfl) d_Lb_sumsAreSizes_4 ⟨Nat.le_of_ble_eq_true rfl, Nat.le_of_ble_eq_true rfl⟩) (fun r1 hw => ?_)
  refine lv_aload_n hx hb d_Lb_sumsAreSizes_7 rfl (lv_at hl 0 rfl) ?_
  refine kg (C1 := R_Lb) (T := F_Lb) (N := 5) (ci := 9) (ref := "LineBreaker") (v := .ref (ad 11)) C w 0 1 iw_Lb rfl rfl (by decide) kw_357 rfl rfl d_Lb_sumsAreSizes_8 ?_
  refine kd_l (kr_V (y := y_St_stretchAround) (C1 := R_St) (T := F_St) (N := 5) (ci := 8) (q0 := 11) (As := []) (n := 0) C w (c_St_stretchAround l n0 G K ad X S  _ hw) (gw_V kw_636 kw_637 kw_638 kw_3 kw_639) (by decide +kernel) rfl rfl ⟨Nat.le_of_ble_eq_true rfl, Nat.le_of_ble_eq_true rfl⟩ rfl rfl rfl hl.1 rfl (Nat.le_of_ble_eq_true rfl) d_Lb_sumsAreSizes_11 ⟨Nat.le_of_ble_eq_true rfl, Nat.le_of_ble_eq_true rfl⟩) (fun r2 hw => ?_)
  refine lv_ladd hx hb d_Lb_sumsAreSizes_14 ?_
  refine lv_aload_n hx hb d_Lb_sumsAreSizes_15 rfl (lv_at hl 0 rfl) ?_
  refine kg (C1 := R_Lb) (T := F_Lb) (N := 5) (ci := 9) (ref := "LineBreaker") (v := .ref (ad 11)) C w 0 1 iw_Lb rfl rfl (by decide) kw_357 rfl rfl d_Lb_sumsAreSizes_16 ?_
  refine kg (C1 := R_St) (T := F_St) (N := 5) (ci := 8) (ref := "LineBreaker$Settings") (v := .ref (ad 12)) C w 11 0 iw_St rfl rfl (by decide) kw_113 rfl rfl d_Lb_sumsAreSizes_19 ?_
  refine lv_bipush (v := 8) hx hb d_Lb_sumsAreSizes_22 (by decide) ?_
  refine ka_i (f := (S.1 12)) C w 12 rfl hw.1 d_Lb_sumsAreSizes_24 ?_
  have hw := hw.2
  refine lv_i2l hx hb d_Lb_sumsAreSizes_25 rfl ?_
  refine lv_ladd hx hb d_Lb_sumsAreSizes_26 ?_
  refine lv_topl (fun v3 ev3 => ?_)
  have hw := hw v3 ev3
  refine lv_lstore_n (lv' := [(1, .long v3), (0, .ref (ad 0))]) hx hb d_Lb_sumsAreSizes_27 rfl hl (by decide) rfl (fun ls hl => ?_)
  refine lv_aload_n hx hb d_Lb_sumsAreSizes_28 rfl (lv_at hl 1 rfl) ?_
  refine kg (C1 := R_Lb) (T := F_Lb) (N := 5) (ci := 9) (ref := "LineBreaker") (v := .ref (ad 1)) C w 0 0 iw_Lb rfl rfl (by decide) kw_356 rfl rfl d_Lb_sumsAreSizes_29 ?_
  refine kd_l (kr_V (y := y_Pa_allWidths) (C1 := R_Pa) (T := F_Pa) (N := 10) (ci := 6) (q0 := 1) (As := []) (n := 0) C w (c_Pa_allWidths l n0 G K ad X S  _ hw) (gw_V kw_640 kw_641 kw_642 kw_2 kw_643) (by decide +kernel) rfl rfl ⟨Nat.le_of_ble_eq_true rfl, Nat.le_of_ble_eq_true rfl⟩ rfl rfl rfl hl.1 rfl (Nat.le_of_ble_eq_true rfl) d_Lb_sumsAreSizes_32 ⟨Nat.le_of_ble_eq_true rfl, Nat.le_of_ble_eq_true rfl⟩) (fun r4 hw => ?_)
  refine lv_aload_n hx hb d_Lb_sumsAreSizes_35 rfl (lv_at hl 1 rfl) ?_
  refine kg (C1 := R_Lb) (T := F_Lb) (N := 5) (ci := 9) (ref := "LineBreaker") (v := .ref (ad 11)) C w 0 1 iw_Lb rfl rfl (by decide) kw_357 rfl rfl d_Lb_sumsAreSizes_36 ?_
  refine kd_l (kr_V (y := y_St_widthsAround) (C1 := R_St) (T := F_St) (N := 5) (ci := 8) (q0 := 11) (As := []) (n := 0) C w (c_St_widthsAround l n0 G K ad X S  _ hw) (gw_V kw_650 kw_651 kw_652 kw_3 kw_653) (by decide +kernel) rfl rfl ⟨Nat.le_of_ble_eq_true rfl, Nat.le_of_ble_eq_true rfl⟩ rfl rfl rfl hl.1 rfl (Nat.le_of_ble_eq_true rfl) d_Lb_sumsAreSizes_39 ⟨Nat.le_of_ble_eq_true rfl, Nat.le_of_ble_eq_true rfl⟩) (fun r5 hw => ?_)
  refine lv_ladd hx hb d_Lb_sumsAreSizes_42 ?_
  refine lv_ldc2 (v := 1073741823) hx hb C.2.2.2.1 (hts _ kw_655) d_Lb_sumsAreSizes_43 ?_
  refine W.lcmp hx hb d_Lb_sumsAreSizes_46 ?_
  refine lv_if_gt (tgt := 84) hx hb d_Lb_sumsAreSizes_47 (by decide) (fun hc => ?_) (fun hc => ?_)
  · have hw := hw.1 hc
    refine lv_iconst (v := 0) hx hb d_Lb_sumsAreSizes_84 (by decide) ?_
    exact kf_z C hr d_Lb_sumsAreSizes_85 (Or.inl rfl) hw
  · have hw := hw.2 hc
    refine lv_lload_n hx hb d_Lb_sumsAreSizes_50 rfl (lv_at hl 0 rfl) ?_
    refine lv_ldc2 (v := 1073741823) hx hb C.2.2.2.1 (hts _ kw_655) d_Lb_sumsAreSizes_51 ?_
    refine W.lcmp hx hb d_Lb_sumsAreSizes_54 ?_
    refine lv_if_gt (tgt := 84) hx hb d_Lb_sumsAreSizes_55 (by decide) (fun hc => ?_) (fun hc => ?_)
    · have hw := hw.1 hc
      refine lv_iconst (v := 0) hx hb d_Lb_sumsAreSizes_84 (by decide) ?_
      exact kf_z C hr d_Lb_sumsAreSizes_85 (Or.inl rfl) hw
    · have hw := hw.2 hc
      refine lv_aload_n hx hb d_Lb_sumsAreSizes_58 rfl (lv_at hl 1 rfl) ?_
      refine kg (C1 := R_Lb) (T := F_Lb) (N := 5) (ci := 9) (ref := "LineBreaker") (v := .ref (ad 1)) C w 0 0 iw_Lb rfl rfl (by decide) kw_356 rfl rfl d_Lb_sumsAreSizes_59 ?_
      refine kd_l (kr_V (y := y_Pa_allShrink) (C1 := R_Pa) (T := F_Pa) (N := 10) (ci := 6) (q0 := 1) (As := []) (n := 0) C w (c_Pa_allShrink l n0 G K ad X S  _ hw) (gw_V kw_656 kw_657 kw_658 kw_2 kw_659) (by decide +kernel) rfl rfl ⟨Nat.le_of_ble_eq_true rfl, Nat.le_of_ble_eq_true rfl⟩ rfl rfl rfl hl.1 rfl (Nat.le_of_ble_eq_true rfl) d_Lb_sumsAreSizes_62 ⟨Nat.le_of_ble_eq_true rfl, Nat.le_of_ble_eq_true rfl⟩) (fun r6 hw => ?_)
      refine lv_aload_n hx hb d_Lb_sumsAreSizes_65 rfl (lv_at hl 1 rfl) ?_
      refine kg (C1 := R_Lb) (T := F_Lb) (N := 5) (ci := 9) (ref := "LineBreaker") (v := .ref (ad 11)) C w 0 1 iw_Lb rfl rfl (by decide) kw_357 rfl rfl d_Lb_sumsAreSizes_66 ?_
      refine kd_l (kr_V (y := y_St_shrinkAround) (C1 := R_St) (T := F_St) (N := 5) (ci := 8) (q0 := 11) (As := []) (n := 0) C w (c_St_shrinkAround l n0 G K ad X S  _ hw) (gw_V kw_660 kw_661 kw_662 kw_3 kw_663) (by decide +kernel) rfl rfl ⟨Nat.le_of_ble_eq_true rfl, Nat.le_of_ble_eq_true rfl⟩ rfl rfl rfl hl.1 rfl (Nat.le_of_ble_eq_true rfl) d_Lb_sumsAreSizes_69 ⟨Nat.le_of_ble_eq_true rfl, Nat.le_of_ble_eq_true rfl⟩) (fun r7 hw => ?_)
      refine lv_ladd hx hb d_Lb_sumsAreSizes_72 ?_
      refine lv_ldc2 (v := 1073741823) hx hb C.2.2.2.1 (hts _ kw_655) d_Lb_sumsAreSizes_73 ?_
      refine W.lcmp hx hb d_Lb_sumsAreSizes_76 ?_
      refine lv_if_gt (tgt := 84) hx hb d_Lb_sumsAreSizes_77 (by decide) (fun hc => ?_) (fun hc => ?_)
      · have hw := hw.1 hc
        refine lv_iconst (v := 0) hx hb d_Lb_sumsAreSizes_84 (by decide) ?_
        exact kf_z C hr d_Lb_sumsAreSizes_85 (Or.inl rfl) hw
      · have hw := hw.2 hc
        refine lv_iconst (v := 1) hx hb d_Lb_sumsAreSizes_80 (by decide) ?_
        refine lv_goto (tgt := 85) hx hb d_Lb_sumsAreSizes_81 (by decide) ?_
        exact kf_z C hr d_Lb_sumsAreSizes_85 (Or.inr rfl) hw
set_option maxHeartbeats 4000000 in
set_option maxRecDepth 100000 in
theorem c_Lb_isSize (l : Launch) (n0 : Nat) (G : va_G) (K : KT) (ad : Nat → Nat) (X : va_W) (S : ST) (p1 : Int32) (post : Int32 → Prop) (hw : wp_Lb_isSize S p1 post) : Met l y_Lb_isSize (Cond.code y_Lb_isSize prog_1_method_24_code 1 (some .boolean) :: gw) rm_Lb_isSize (va_Pc [.int p1] (wb n0 G K (wC K ad S ++ X))) (rq_i post) 0 0 (fun _ => False) := by
  refine kb_start (own := "LineBreaker") (by decide +kernel) rfl ?_
  intro p e s m below meth c C hr hne w
  have hx := C.1
  have hb := C.2.1
  have hts := C.2.2.2.2.1
  have hl := lv_entry ([.int p1]) (n := 1) (Nat.le_of_ble_eq_true rfl)
  rw [lg_entry_eq]
  generalize (lg_sl ([.int p1]) ++ List.replicate (1 - (lg_sl ([.int p1])).length) Slot.unset).toArray = ls at hl ⊢
  have hl : lv_has ls 1 [(0, .int p1)] := hl
  unfold wp_Lb_isSize at hw
  refine lv_iload_n hx hb d_Lb_isSize_0 rfl (lv_at hl 0 rfl) ?_
  refine lv_ldc (v := (-1073741823)) hx hb C.2.2.2.1 (hts _ kw_407) d_Lb_isSize_1 ?_
  refine lv_icmp_lt (tgt := 16) hx hb d_Lb_isSize_3 (by decide) (fun hc => ?_) (fun hc => ?_)
  · have hw := hw.1 hc
    refine lv_iconst (v := 0) hx hb d_Lb_isSize_16 (by decide) ?_
    exact kf_z C hr d_Lb_isSize_17 (Or.inl rfl) hw
  · have hw := hw.2 hc
    refine lv_iload_n hx hb d_Lb_isSize_6 rfl (lv_at hl 0 rfl) ?_
    refine lv_ldc (v := 1073741823) hx hb C.2.2.2.1 (hts _ kw_408) d_Lb_isSize_7 ?_
    refine lv_icmp_gt (tgt := 16) hx hb d_Lb_isSize_9 (by decide) (fun hc => ?_) (fun hc => ?_)
    · have hw := hw.1 hc
      refine lv_iconst (v := 0) hx hb d_Lb_isSize_16 (by decide) ?_
      exact kf_z C hr d_Lb_isSize_17 (Or.inl rfl) hw
    · have hw := hw.2 hc
      refine lv_iconst (v := 1) hx hb d_Lb_isSize_12 (by decide) ?_
      refine lv_goto (tgt := 17) hx hb d_Lb_isSize_13 (by decide) ?_
      exact kf_z C hr d_Lb_isSize_17 (Or.inr rfl) hw
set_option maxHeartbeats 4000000 in
set_option maxRecDepth 100000 in
theorem c_Gl_become (l : Launch) (n0 : Nat) (G : va_G) (K : KT) (ad : Nat → Nat) (X : va_W) (S : ST) (p1 : Int32) (p2 : Int32) (p3 : Int32) (p4 : Int32) (post : Int32 → Int32 → Int32 → Int32 → Prop) (hw : wp_Gl_become S p1 p2 p3 p4 post) : Met l y_Gl_become (Cond.code y_Gl_become prog_4_method_2_code 5 none :: gw) rm_Gl_become (va_Pc [.ref (ad 14), .int p1, .int p2, .int p3, .int p4] (wb n0 G K (wC K ad S ++ X))) (va_Qv (fun (u : Int32 × Int32 × Int32 × Int32) => post u.1 u.2.1 u.2.2.1 u.2.2.2) (fun (u : Int32 × Int32 × Int32 × Int32) t => we n0 G (wC K ad (sI (sI (sI (sI S 896 u.1) 897 u.2.1) 898 u.2.2.1) 899 u.2.2.2) ++ X) t) (al n0)) 0 0 (al n0) := by
  refine kb_start (own := "LineBreaker$Glue") (by decide +kernel) rfl ?_
  intro p e s m below meth c C hr hne w
  have hx := C.1
  have hb := C.2.1
  have hts := C.2.2.2.2.1
  have hl := lv_entry ([.ref (ad 14), .int p1, .int p2, .int p3, .int p4]) (n := 5) (Nat.le_of_ble_eq_true rfl)
  rw [lg_entry_eq]
  generalize (lg_sl ([.ref (ad 14), .int p1, .int p2, .int p3, .int p4]) ++ List.replicate (5 - (lg_sl ([.ref (ad 14), .int p1, .int p2, .int p3, .int p4])).length) Slot.unset).toArray = ls at hl ⊢
  have hl : lv_has ls 5 [(0, .ref (ad 14)), (1, .int p1), (2, .int p2), (3, .int p3), (4, .int p4)] := hl
  unfold wp_Gl_become at hw
  refine lv_aload_n hx hb d_Gl_become_0 rfl (lv_at hl 0 rfl) ?_
  refine lv_iload_n hx hb d_Gl_become_1 rfl (lv_at hl 1 rfl) ?_
  refine kp (C1 := R_Gl) (T := F_Gl) (N := 4) (ci := 2) (ty0 := t_Gl) (ref := "LineBreaker$Glue") (w2 := wC K ad (sI S 896 p1) ++ X) C w 14 0 iw_Gl tk_Gl n_Gl rfl rfl (by decide) kw_89 rfl rfl rfl rfl (Nat.le_of_ble_eq_true rfl) rfl d_Gl_become_2 (fun H locs w => ?_)
  refine lv_aload_n hx hb d_Gl_become_5 rfl (lv_at hl 0 rfl) ?_
  refine lv_iload_n hx hb d_Gl_become_6 rfl (lv_at hl 2 rfl) ?_
  refine kp (C1 := R_Gl) (T := F_Gl) (N := 4) (ci := 2) (ty0 := t_Gl) (ref := "LineBreaker$Glue") (w2 := wC K ad (sI (sI S 896 p1) 897 p2) ++ X) C w 14 1 iw_Gl tk_Gl n_Gl rfl rfl (by decide) kw_93 rfl rfl rfl rfl (Nat.le_of_ble_eq_true rfl) rfl d_Gl_become_7 (fun H locs w => ?_)
  refine lv_aload_n hx hb d_Gl_become_10 rfl (lv_at hl 0 rfl) ?_
  refine lv_iload_n hx hb d_Gl_become_11 rfl (lv_at hl 3 rfl) ?_
  refine kp (C1 := R_Gl) (T := F_Gl) (N := 4) (ci := 2) (ty0 := t_Gl) (ref := "LineBreaker$Glue") (w2 := wC K ad (sI (sI (sI S 896 p1) 897 p2) 898 p3) ++ X) C w 14 2 iw_Gl tk_Gl n_Gl rfl rfl (by decide) kw_95 rfl rfl rfl rfl (Nat.le_of_ble_eq_true rfl) rfl d_Gl_become_12 (fun H locs w => ?_)
  refine lv_aload_n hx hb d_Gl_become_15 rfl (lv_at hl 0 rfl) ?_
  refine lv_iload hx hb d_Gl_become_16 (lv_at hl 4 rfl) ?_
  refine kp (C1 := R_Gl) (T := F_Gl) (N := 4) (ci := 2) (ty0 := t_Gl) (ref := "LineBreaker$Glue") (w2 := wC K ad (sI (sI (sI (sI S 896 p1) 897 p2) 898 p3) 899 p4) ++ X) C w 14 3 iw_Gl tk_Gl n_Gl rfl rfl (by decide) kw_96 rfl rfl rfl rfl (Nat.le_of_ble_eq_true rfl) rfl d_Gl_become_18 (fun H locs w => ?_)
  exact ke_v (post := (fun (u : Int32 × Int32 × Int32 × Int32) => post u.1 u.2.1 u.2.2.1 u.2.2.2)) (st := (fun (u : Int32 × Int32 × Int32 × Int32) => wC K ad (sI (sI (sI (sI S 896 u.1) 897 u.2.1) 898 u.2.2.1) 899 u.2.2.2) ++ X)) (u := (p1, p2, p3, p4)) C hr d_Gl_become_21 (wn_eq w rfl) hw
set_option maxHeartbeats 4000000 in
set_option maxRecDepth 100000 in
theorem c_Gl_become_15 (l : Launch) (n0 : Nat) (G : va_G) (K : KT) (ad : Nat → Nat) (X : va_W) (S : ST) (p1 : Int32) (p2 : Int32) (p3 : Int32) (p4 : Int32) (post : Int32 → Int32 → Int32 → Int32 → Prop) (hw : wp_Gl_become_15 S p1 p2 p3 p4 post) : Met l y_Gl_become (Cond.code y_Gl_become prog_4_method_2_code 5 none :: gw) rm_Gl_become_15 (va_Pc [.ref (ad 15), .int p1, .int p2, .int p3, .int p4] (wb n0 G K (wC K ad S ++ X))) (va_Qv (fun (u : Int32 × Int32 × Int32 × Int32) => post u.1 u.2.1 u.2.2.1 u.2.2.2) (fun (u : Int32 × Int32 × Int32 × Int32) t => we n0 G (wC K ad (sI (sI (sI (sI S 960 u.1) 961 u.2.1) 962 u.2.2.1) 963 u.2.2.2) ++ X) t) (al n0)) 0 0 (al n0) := by
  refine kb_start (own := "LineBreaker$Glue") (by decide +kernel) rfl ?_
  intro p e s m below meth c C hr hne w
  have hx := C.1
  have hb := C.2.1
  have hts := C.2.2.2.2.1
  have hl := lv_entry ([.ref (ad 15), .int p1, .int p2, .int p3, .int p4]) (n := 5) (Nat.le_of_ble_eq_true rfl)
  rw [lg_entry_eq]
  generalize (lg_sl ([.ref (ad 15), .int p1, .int p2, .int p3, .int p4]) ++ List.replicate (5 - (lg_sl ([.ref (ad 15), .int p1, .int p2, .int p3, .int p4])).length) Slot.unset).toArray = ls at hl ⊢
  have hl : lv_has ls 5 [(0, .ref (ad 15)), (1, .int p1), (2, .int p2), (3, .int p3), (4, .int p4)] := hl
  unfold wp_Gl_become_15 at hw
  refine lv_aload_n hx hb d_Gl_become_0 rfl (lv_at hl 0 rfl) ?_
  refine lv_iload_n hx hb d_Gl_become_1 rfl (lv_at hl 1 rfl) ?_
  refine kp (C1 := R_Gl) (T := F_Gl) (N := 4) (ci := 2) (ty0 := t_Gl) (ref := "LineBreaker$Glue") (w2 := wC K ad (sI S 960 p1) ++ X) C w 15 0 iw_Gl tk_Gl n_Gl rfl rfl (by decide) kw_89 rfl rfl rfl rfl (Nat.le_of_ble_eq_true rfl) rfl d_Gl_become_2 (fun H locs w => ?_)
  refine lv_aload_n hx hb d_Gl_become_5 rfl (lv_at hl 0 rfl) ?_
  refine lv_iload_n hx hb d_Gl_become_6 rfl (lv_at hl 2 rfl) ?_
  refine kp (C1 := R_Gl) (T := F_Gl) (N := 4) (ci := 2) (ty0 := t_Gl) (ref := "LineBreaker$Glue") (w2 := wC K ad (sI (sI S 960 p1) 961 p2) ++ X) C w 15 1 iw_Gl tk_Gl n_Gl rfl rfl (by decide) kw_93 rfl rfl rfl rfl (Nat.le_of_ble_eq_true rfl) rfl d_Gl_become_7 (fun H locs w => ?_)
  refine lv_aload_n hx hb d_Gl_become_10 rfl (lv_at hl 0 rfl) ?_
  refine lv_iload_n hx hb d_Gl_become_11 rfl (lv_at hl 3 rfl) ?_
  refine kp (C1 := R_Gl) (T := F_Gl) (N := 4) (ci := 2) (ty0 := t_Gl) (ref := "LineBreaker$Glue") (w2 := wC K ad (sI (sI (sI S 960 p1) 961 p2) 962 p3) ++ X) C w 15 2 iw_Gl tk_Gl n_Gl rfl rfl (by decide) kw_95 rfl rfl rfl rfl (Nat.le_of_ble_eq_true rfl) rfl d_Gl_become_12 (fun H locs w => ?_)
  refine lv_aload_n hx hb d_Gl_become_15 rfl (lv_at hl 0 rfl) ?_
  refine lv_iload hx hb d_Gl_become_16 (lv_at hl 4 rfl) ?_
  refine kp (C1 := R_Gl) (T := F_Gl) (N := 4) (ci := 2) (ty0 := t_Gl) (ref := "LineBreaker$Glue") (w2 := wC K ad (sI (sI (sI (sI S 960 p1) 961 p2) 962 p3) 963 p4) ++ X) C w 15 3 iw_Gl tk_Gl n_Gl rfl rfl (by decide) kw_96 rfl rfl rfl rfl (Nat.le_of_ble_eq_true rfl) rfl d_Gl_become_18 (fun H locs w => ?_)
  exact ke_v (post := (fun (u : Int32 × Int32 × Int32 × Int32) => post u.1 u.2.1 u.2.2.1 u.2.2.2)) (st := (fun (u : Int32 × Int32 × Int32 × Int32) => wC K ad (sI (sI (sI (sI S 960 u.1) 961 u.2.1) 962 u.2.2.1) 963 u.2.2.2) ++ X)) (u := (p1, p2, p3, p4)) C hr d_Gl_become_21 (wn_eq w rfl) hw
set_option maxHeartbeats 4000000 in
set_option maxRecDepth 100000 in
theorem c_Gl_become_16 (l : Launch) (n0 : Nat) (G : va_G) (K : KT) (ad : Nat → Nat) (X : va_W) (S : ST) (p1 : Int32) (p2 : Int32) (p3 : Int32) (p4 : Int32) (post : Int32 → Int32 → Int32 → Int32 → Prop) (hw : wp_Gl_become_16 S p1 p2 p3 p4 post) : Met l y_Gl_become (Cond.code y_Gl_become prog_4_method_2_code 5 none :: gw) rm_Gl_become_16 (va_Pc [.ref (ad 16), .int p1, .int p2, .int p3, .int p4] (wb n0 G K (wC K ad S ++ X))) (va_Qv (fun (u : Int32 × Int32 × Int32 × Int32) => post u.1 u.2.1 u.2.2.1 u.2.2.2) (fun (u : Int32 × Int32 × Int32 × Int32) t => we n0 G (wC K ad (sI (sI (sI (sI S 1024 u.1) 1025 u.2.1) 1026 u.2.2.1) 1027 u.2.2.2) ++ X) t) (al n0)) 0 0 (al n0) := by
  refine kb_start (own := "LineBreaker$Glue") (by decide +kernel) rfl ?_
  intro p e s m below meth c C hr hne w
  have hx := C.1
  have hb := C.2.1
  have hts := C.2.2.2.2.1
  have hl := lv_entry ([.ref (ad 16), .int p1, .int p2, .int p3, .int p4]) (n := 5) (Nat.le_of_ble_eq_true rfl)
  rw [lg_entry_eq]
  generalize (lg_sl ([.ref (ad 16), .int p1, .int p2, .int p3, .int p4]) ++ List.replicate (5 - (lg_sl ([.ref (ad 16), .int p1, .int p2, .int p3, .int p4])).length) Slot.unset).toArray = ls at hl ⊢
  have hl : lv_has ls 5 [(0, .ref (ad 16)), (1, .int p1), (2, .int p2), (3, .int p3), (4, .int p4)] := hl
  unfold wp_Gl_become_16 at hw
  refine lv_aload_n hx hb d_Gl_become_0 rfl (lv_at hl 0 rfl) ?_
  refine lv_iload_n hx hb d_Gl_become_1 rfl (lv_at hl 1 rfl) ?_
  refine kp (C1 := R_Gl) (T := F_Gl) (N := 4) (ci := 2) (ty0 := t_Gl) (ref := "LineBreaker$Glue") (w2 := wC K ad (sI S 1024 p1) ++ X) C w 16 0 iw_Gl tk_Gl n_Gl rfl rfl (by decide) kw_89 rfl rfl rfl rfl (Nat.le_of_ble_eq_true rfl) rfl d_Gl_become_2 (fun H locs w => ?_)
  refine lv_aload_n hx hb d_Gl_become_5 rfl (lv_at hl 0 rfl) ?_
  refine lv_iload_n hx hb d_Gl_become_6 rfl (lv_at hl 2 rfl) ?_
  refine kp (C1 := R_Gl) (T := F_Gl) (N := 4) (ci := 2) (ty0 := t_Gl) (ref := "LineBreaker$Glue") (w2 := wC K ad (sI (sI S 1024 p1) 1025 p2) ++ X) C w 16 1 iw_Gl tk_Gl n_Gl rfl rfl (by decide) kw_93 rfl rfl rfl rfl (Nat.le_of_ble_eq_true rfl) rfl d_Gl_become_7 (fun H locs w => ?_)
  refine lv_aload_n hx hb d_Gl_become_10 rfl (lv_at hl 0 rfl) ?_
  refine lv_iload_n hx hb d_Gl_become_11 rfl (lv_at hl 3 rfl) ?_
  refine kp (C1 := R_Gl) (T := F_Gl) (N := 4) (ci := 2) (ty0 := t_Gl) (ref := "LineBreaker$Glue") (w2 := wC K ad (sI (sI (sI S 1024 p1) 1025 p2) 1026 p3) ++ X) C w 16 2 iw_Gl tk_Gl n_Gl rfl rfl (by decide) kw_95 rfl rfl rfl rfl (Nat.le_of_ble_eq_true rfl) rfl d_Gl_become_12 (fun H locs w => ?_)
  refine lv_aload_n hx hb d_Gl_become_15 rfl (lv_at hl 0 rfl) ?_
  refine lv_iload hx hb d_Gl_become_16 (lv_at hl 4 rfl) ?_
  refine kp (C1 := R_Gl) (T := F_Gl) (N := 4) (ci := 2) (ty0 := t_Gl) (ref := "LineBreaker$Glue") (w2 := wC K ad (sI (sI (sI (sI S 1024 p1) 1025 p2) 1026 p3) 1027 p4) ++ X) C w 16 3 iw_Gl tk_Gl n_Gl rfl rfl (by decide) kw_96 rfl rfl rfl rfl (Nat.le_of_ble_eq_true rfl) rfl d_Gl_become_18 (fun H locs w => ?_)
  exact ke_v (post := (fun (u : Int32 × Int32 × Int32 × Int32) => post u.1 u.2.1 u.2.2.1 u.2.2.2)) (st := (fun (u : Int32 × Int32 × Int32 × Int32) => wC K ad (sI (sI (sI (sI S 1024 u.1) 1025 u.2.1) 1026 u.2.2.1) 1027 u.2.2.2) ++ X)) (u := (p1, p2, p3, p4)) C hr d_Gl_become_21 (wn_eq w rfl) hw
end
