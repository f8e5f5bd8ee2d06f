theorem kw_409 : (Jvm.Cond.classLink "LineBreaker" (86 : Nat) "java/lang/IllegalArgumentException") ∈ gw := gw_t (List.mem_of_getElem? (i := 409) (by decide +kernel)) (by decide +kernel)
theorem kw_410 : (Jvm.Cond.instantiable "java/lang/IllegalArgumentException" (6 : Nat)) ∈ gw := gw_t (List.mem_of_getElem? (i := 410) (by decide +kernel)) (by decide +kernel)
theorem kw_15 : (Jvm.Cond.initialized "java/lang/IllegalArgumentException") ∈ gw := gw_t (List.mem_of_getElem? (i := 15) (by decide +kernel)) (by decide +kernel)
theorem kw_406 : (Jvm.Cond.code ({ cls := "LineBreaker", name := "isSize", desc := "(I)Z" } : Jvm.MethodName) prog_1_method_24_code (1 : Nat) (Option.some Jvm.ClassFile.FieldType.boolean)) ∈ gw := gw_t (List.mem_of_getElem? (i := 406) (by decide +kernel)) (by decide +kernel)
theorem kw_405 : (Jvm.Cond.static ({ cls := "LineBreaker", name := "isSize", desc := "(I)Z" } : Jvm.MethodName)) ∈ gw := gw_t (List.mem_of_getElem? (i := 405) (by decide +kernel)) (by decide +kernel)
theorem kw_404 : (Jvm.Cond.methodLink "LineBreaker" (216 : Nat) ({ cls := "LineBreaker", name := "isSize", desc := "(I)Z" } : Jvm.MethodName)) ∈ gw := gw_t (List.mem_of_getElem? (i := 404) (by decide +kernel)) (by decide +kernel)
theorem kw_482 : (Jvm.Cond.classLink "LineBreaker" (149 : Nat) "java/lang/UnsupportedOperationException") ∈ gw := gw_t (List.mem_of_getElem? (i := 482) (by decide +kernel)) (by decide +kernel)
theorem kw_483 : (Jvm.Cond.instantiable "java/lang/UnsupportedOperationException" (6 : Nat)) ∈ gw := gw_t (List.mem_of_getElem? (i := 483) (by decide +kernel)) (by decide +kernel)
theorem kw_16 : (Jvm.Cond.initialized "java/lang/UnsupportedOperationException") ∈ gw := gw_t (List.mem_of_getElem? (i := 16) (by decide +kernel)) (by decide +kernel)
theorem kw_498 : (Jvm.Cond.methodLink "LineBreaker" (56 : Nat) ({ cls := "LineBreaker$Paragraph", name := "append", desc := "(II)I" } : Jvm.MethodName)) ∈ gw := gw_t (List.mem_of_getElem? (i := 498) (by decide +kernel)) (by decide +kernel)
theorem kw_481 : (Jvm.Cond.code ({ cls := "LineBreaker", name := "requireRoom", desc := "()V" } : Jvm.MethodName) prog_1_method_18_code (1 : Nat) (Option.none : Option Jvm.ClassFile.FieldType)) ∈ gw := gw_t (List.mem_of_getElem? (i := 481) (by decide +kernel)) (by decide +kernel)
theorem kw_478 : (Jvm.Cond.methodLink "LineBreaker" (50 : Nat) ({ cls := "LineBreaker", name := "requireRoom", desc := "()V" } : Jvm.MethodName)) ∈ gw := gw_t (List.mem_of_getElem? (i := 478) (by decide +kernel)) (by decide +kernel)
theorem kw_480 : (Jvm.Cond.instanceMethod ({ cls := "LineBreaker", name := "requireRoom", desc := "()V" } : Jvm.MethodName)) ∈ gw := gw_t (List.mem_of_getElem? (i := 480) (by decide +kernel)) (by decide +kernel)
theorem kp_1 : Cond.selects "LineBreaker" ⟨"LineBreaker", "requireRoom", "()V"⟩ ⟨"LineBreaker", "requireRoom", "()V"⟩ ∈ gw := gw_s (List.mem_of_getElem? (i := 1) (by decide +kernel)) (by decide +kernel)
theorem kw_403 : (Jvm.Cond.code ({ cls := "LineBreaker", name := "requireSize", desc := "(I)V" } : Jvm.MethodName) prog_1_method_21_code (1 : Nat) (Option.none : Option Jvm.ClassFile.FieldType)) ∈ gw := gw_t (List.mem_of_getElem? (i := 403) (by decide +kernel)) (by decide +kernel)
theorem kw_402 : (Jvm.Cond.static ({ cls := "LineBreaker", name := "requireSize", desc := "(I)V" } : Jvm.MethodName)) ∈ gw := gw_t (List.mem_of_getElem? (i := 402) (by decide +kernel)) (by decide +kernel)
theorem kw_401 : (Jvm.Cond.methodLink "LineBreaker" (46 : Nat) ({ cls := "LineBreaker", name := "requireSize", desc := "(I)V" } : Jvm.MethodName)) ∈ gw := gw_t (List.mem_of_getElem? (i := 401) (by decide +kernel)) (by decide +kernel)
theorem kw_527 : (Jvm.Cond.classLink "LineBreaker" (141 : Nat) "java/lang/IllegalStateException") ∈ gw := gw_t (List.mem_of_getElem? (i := 527) (by decide +kernel)) (by decide +kernel)
theorem kw_528 : (Jvm.Cond.instantiable "java/lang/IllegalStateException" (6 : Nat)) ∈ gw := gw_t (List.mem_of_getElem? (i := 528) (by decide +kernel)) (by decide +kernel)
theorem kw_18 : (Jvm.Cond.initialized "java/lang/IllegalStateException") ∈ gw := gw_t (List.mem_of_getElem? (i := 18) (by decide +kernel)) (by decide +kernel)
theorem kw_523 : (Jvm.Cond.code ({ cls := "LineBreaker$Paragraph", name := "awaitsReplaced", desc := "()Z" } : Jvm.MethodName) prog_8_method_6_code (3 : Nat) (Option.some Jvm.ClassFile.FieldType.boolean)) ∈ gw := gw_t (List.mem_of_getElem? (i := 523) (by decide +kernel)) (by decide +kernel)
theorem kw_520 : (Jvm.Cond.methodLink "LineBreaker" (137 : Nat) ({ cls := "LineBreaker$Paragraph", name := "awaitsReplaced", desc := "()Z" } : Jvm.MethodName)) ∈ gw := gw_t (List.mem_of_getElem? (i := 520) (by decide +kernel)) (by decide +kernel)
theorem kw_521 : (Jvm.Cond.instanceMethod ({ cls := "LineBreaker$Paragraph", name := "awaitsReplaced", desc := "()Z" } : Jvm.MethodName)) ∈ gw := gw_t (List.mem_of_getElem? (i := 521) (by decide +kernel)) (by decide +kernel)
theorem kw_522 : (Jvm.Cond.selects "LineBreaker$Paragraph" ({ cls := "LineBreaker$Paragraph", name := "awaitsReplaced", desc := "()Z" } : Jvm.MethodName) ({ cls := "LineBreaker$Paragraph", name := "awaitsReplaced", desc := "()Z" } : Jvm.MethodName)) ∈ gw := gw_t (List.mem_of_getElem? (i := 522) (by decide +kernel)) (by decide +kernel)
theorem kw_546 : (Jvm.Cond.code ({ cls := "LineBreaker$Paragraph", name := "appendGlue", desc := "(IIII)I" } : Jvm.MethodName) prog_8_method_3_code (6 : Nat) (Option.some Jvm.ClassFile.FieldType.int)) ∈ gw := gw_t (List.mem_of_getElem? (i := 546) (by decide +kernel)) (by decide +kernel)
theorem kw_543 : (Jvm.Cond.methodLink "LineBreaker" (67 : Nat) ({ cls := "LineBreaker$Paragraph", name := "appendGlue", desc := "(IIII)I" } : Jvm.MethodName)) ∈ gw := gw_t (List.mem_of_getElem? (i := 543) (by decide +kernel)) (by decide +kernel)
theorem kw_544 : (Jvm.Cond.instanceMethod ({ cls := "LineBreaker$Paragraph", name := "appendGlue", desc := "(IIII)I" } : Jvm.MethodName)) ∈ gw := gw_t (List.mem_of_getElem? (i := 544) (by decide +kernel)) (by decide +kernel)
theorem kw_545 : (Jvm.Cond.selects "LineBreaker$Paragraph" ({ cls := "LineBreaker$Paragraph", name := "appendGlue", desc := "(IIII)I" } : Jvm.MethodName) ({ cls := "LineBreaker$Paragraph", name := "appendGlue", desc := "(IIII)I" } : Jvm.MethodName)) ∈ gw := gw_t (List.mem_of_getElem? (i := 545) (by decide +kernel)) (by decide +kernel)
theorem kw_519 : (Jvm.Cond.code ({ cls := "LineBreaker", name := "requireNotReplaced", desc := "()V" } : Jvm.MethodName) prog_1_method_19_code (1 : Nat) (Option.none : Option Jvm.ClassFile.FieldType)) ∈ gw := gw_t (List.mem_of_getElem? (i := 519) (by decide +kernel)) (by decide +kernel)
theorem kw_516 : (Jvm.Cond.methodLink "LineBreaker" (64 : Nat) ({ cls := "LineBreaker", name := "requireNotReplaced", desc := "()V" } : Jvm.MethodName)) ∈ gw := gw_t (List.mem_of_getElem? (i := 516) (by decide +kernel)) (by decide +kernel)
theorem kw_518 : (Jvm.Cond.instanceMethod ({ cls := "LineBreaker", name := "requireNotReplaced", desc := "()V" } : Jvm.MethodName)) ∈ gw := gw_t (List.mem_of_getElem? (i := 518) (by decide +kernel)) (by decide +kernel)
theorem kp_2 : Cond.selects "LineBreaker" ⟨"LineBreaker", "requireNotReplaced", "()V"⟩ ⟨"LineBreaker", "requireNotReplaced", "()V"⟩ ∈ gw := gw_s (List.mem_of_getElem? (i := 2) (by decide +kernel)) (by decide +kernel)
theorem kw_513 : (Jvm.Cond.code ({ cls := "LineBreaker", name := "requireGlue", desc := "(IIII)V" } : Jvm.MethodName) prog_1_method_23_code (4 : Nat) (Option.none : Option Jvm.ClassFile.FieldType)) ∈ gw := gw_t (List.mem_of_getElem? (i := 513) (by decide +kernel)) (by decide +kernel)
theorem kw_512 : (Jvm.Cond.static ({ cls := "LineBreaker", name := "requireGlue", desc := "(IIII)V" } : Jvm.MethodName)) ∈ gw := gw_t (List.mem_of_getElem? (i := 512) (by decide +kernel)) (by decide +kernel)
theorem kw_511 : (Jvm.Cond.methodLink "LineBreaker" (60 : Nat) ({ cls := "LineBreaker", name := "requireGlue", desc := "(IIII)V" } : Jvm.MethodName)) ∈ gw := gw_t (List.mem_of_getElem? (i := 511) (by decide +kernel)) (by decide +kernel)
theorem kw_562 : (Jvm.Cond.methodLink "LineBreaker" (71 : Nat) ({ cls := "java/lang/Math", name := "min", desc := "(II)I" } : Jvm.MethodName)) ∈ gw := gw_t (List.mem_of_getElem? (i := 562) (by decide +kernel)) (by decide +kernel)
theorem kw_565 : (Jvm.Cond.methodLink "LineBreaker" (76 : Nat) ({ cls := "java/lang/Math", name := "max", desc := "(II)I" } : Jvm.MethodName)) ∈ gw := gw_t (List.mem_of_getElem? (i := 565) (by decide +kernel)) (by decide +kernel)
theorem kw_569 : (Jvm.Cond.code ({ cls := "LineBreaker$Paragraph", name := "appendPenalty", desc := "(I)I" } : Jvm.MethodName) prog_8_method_4_code (3 : Nat) (Option.some Jvm.ClassFile.FieldType.int)) ∈ gw := gw_t (List.mem_of_getElem? (i := 569) (by decide +kernel)) (by decide +kernel)
theorem kw_566 : (Jvm.Cond.methodLink "LineBreaker" (79 : Nat) ({ cls := "LineBreaker$Paragraph", name := "appendPenalty", desc := "(I)I" } : Jvm.MethodName)) ∈ gw := gw_t (List.mem_of_getElem? (i := 566) (by decide +kernel)) (by decide +kernel)
theorem kw_567 : (Jvm.Cond.instanceMethod ({ cls := "LineBreaker$Paragraph", name := "appendPenalty", desc := "(I)I" } : Jvm.MethodName)) ∈ gw := gw_t (List.mem_of_getElem? (i := 567) (by decide +kernel)) (by decide +kernel)
theorem kw_568 : (Jvm.Cond.selects "LineBreaker$Paragraph" ({ cls := "LineBreaker$Paragraph", name := "appendPenalty", desc := "(I)I" } : Jvm.MethodName) ({ cls := "LineBreaker$Paragraph", name := "appendPenalty", desc := "(I)I" } : Jvm.MethodName)) ∈ gw := gw_t (List.mem_of_getElem? (i := 568) (by decide +kernel)) (by decide +kernel)
theorem kw_586 : (Jvm.Cond.code ({ cls := "LineBreaker$Paragraph", name := "appendHyphen", desc := "(III)I" } : Jvm.MethodName) prog_8_method_5_code (5 : Nat) (Option.some Jvm.ClassFile.FieldType.int)) ∈ gw := gw_t (List.mem_of_getElem? (i := 586) (by decide +kernel)) (by decide +kernel)
theorem kw_583 : (Jvm.Cond.methodLink "LineBreaker" (93 : Nat) ({ cls := "LineBreaker$Paragraph", name := "appendHyphen", desc := "(III)I" } : Jvm.MethodName)) ∈ gw := gw_t (List.mem_of_getElem? (i := 583) (by decide +kernel)) (by decide +kernel)
theorem kw_584 : (Jvm.Cond.instanceMethod ({ cls := "LineBreaker$Paragraph", name := "appendHyphen", desc := "(III)I" } : Jvm.MethodName)) ∈ gw := gw_t (List.mem_of_getElem? (i := 584) (by decide +kernel)) (by decide +kernel)
theorem kw_585 : (Jvm.Cond.selects "LineBreaker$Paragraph" ({ cls := "LineBreaker$Paragraph", name := "appendHyphen", desc := "(III)I" } : Jvm.MethodName) ({ cls := "LineBreaker$Paragraph", name := "appendHyphen", desc := "(III)I" } : Jvm.MethodName)) ∈ gw := gw_t (List.mem_of_getElem? (i := 585) (by decide +kernel)) (by decide +kernel)
theorem kw_579 : (Jvm.Cond.code ({ cls := "LineBreaker", name := "requireSizeOrNothing", desc := "(I)V" } : Jvm.MethodName) prog_1_method_22_code (1 : Nat) (Option.none : Option Jvm.ClassFile.FieldType)) ∈ gw := gw_t (List.mem_of_getElem? (i := 579) (by decide +kernel)) (by decide +kernel)
theorem kw_578 : (Jvm.Cond.static ({ cls := "LineBreaker", name := "requireSizeOrNothing", desc := "(I)V" } : Jvm.MethodName)) ∈ gw := gw_t (List.mem_of_getElem? (i := 578) (by decide +kernel)) (by decide +kernel)
theorem kw_577 : (Jvm.Cond.methodLink "LineBreaker" (83 : Nat) ({ cls := "LineBreaker", name := "requireSizeOrNothing", desc := "(I)V" } : Jvm.MethodName)) ∈ gw := gw_t (List.mem_of_getElem? (i := 577) (by decide +kernel)) (by decide +kernel)
theorem kw_595 : (Jvm.Cond.fieldLink "LineBreaker" (103 : Nat) "LineBreaker" "LEAST_VALUE" "[I") ∈ gw := gw_t (List.mem_of_getElem? (i := 595) (by decide +kernel)) (by decide +kernel)
theorem kw_597 : (Jvm.Cond.fieldLink "LineBreaker" (107 : Nat) "LineBreaker" "GREATEST_VALUE" "[I") ∈ gw := gw_t (List.mem_of_getElem? (i := 597) (by decide +kernel)) (by decide +kernel)
theorem kw_115 : (Jvm.Cond.fieldLink "LineBreaker" (117 : Nat) "LineBreaker$Settings" "widths" "[I") ∈ gw := gw_t (List.mem_of_getElem? (i := 115) (by decide +kernel)) (by decide +kernel)
theorem kw_124 : (Jvm.Cond.fieldLink "LineBreaker" (129 : Nat) "LineBreaker$Settings" "fill" "LLineBreaker$Glue;") ∈ gw := gw_t (List.mem_of_getElem? (i := 124) (by decide +kernel)) (by decide +kernel)
theorem kw_619 : (Jvm.Cond.code ({ cls := "LineBreaker$Glue", name := "become", desc := "(IIII)V" } : Jvm.MethodName) prog_4_method_2_code (5 : Nat) (Option.none : Option Jvm.ClassFile.FieldType)) ∈ gw := gw_t (List.mem_of_getElem? (i := 619) (by decide +kernel)) (by decide +kernel)
theorem kw_616 : (Jvm.Cond.methodLink "LineBreaker" (132 : Nat) ({ cls := "LineBreaker$Glue", name := "become", desc := "(IIII)V" } : Jvm.MethodName)) ∈ gw := gw_t (List.mem_of_getElem? (i := 616) (by decide +kernel)) (by decide +kernel)
theorem kw_617 : (Jvm.Cond.instanceMethod ({ cls := "LineBreaker$Glue", name := "become", desc := "(IIII)V" } : Jvm.MethodName)) ∈ gw := gw_t (List.mem_of_getElem? (i := 617) (by decide +kernel)) (by decide +kernel)
theorem kw_618 : (Jvm.Cond.selects "LineBreaker$Glue" ({ cls := "LineBreaker$Glue", name := "become", desc := "(IIII)V" } : Jvm.MethodName) ({ cls := "LineBreaker$Glue", name := "become", desc := "(IIII)V" } : Jvm.MethodName)) ∈ gw := gw_t (List.mem_of_getElem? (i := 618) (by decide +kernel)) (by decide +kernel)
theorem kw_121 : (Jvm.Cond.fieldLink "LineBreaker" (126 : Nat) "LineBreaker$Settings" "right" "LLineBreaker$Glue;") ∈ gw := gw_t (List.mem_of_getElem? (i := 121) (by decide +kernel)) (by decide +kernel)
theorem kw_118 : (Jvm.Cond.fieldLink "LineBreaker" (122 : Nat) "LineBreaker$Settings" "left" "LLineBreaker$Glue;") ∈ gw := gw_t (List.mem_of_getElem? (i := 118) (by decide +kernel)) (by decide +kernel)
theorem kw_359 : (Jvm.Cond.fieldLink "LineBreaker" (35 : Nat) "LineBreaker" "search" "LLineBreaker$Search;") ∈ gw := gw_t (List.mem_of_getElem? (i := 359) (by decide +kernel)) (by decide +kernel)
theorem kw_340 : (Jvm.Cond.fieldLink "LineBreaker" (166 : Nat) "LineBreaker$Outcome" "count" "I") ∈ gw := gw_t (List.mem_of_getElem? (i := 340) (by decide +kernel)) (by decide +kernel)
theorem kw_831 : (Jvm.Cond.code ({ cls := "LineBreaker$Outcome", name := "record", desc := "(LLineBreaker$Search;II)V" } : Jvm.MethodName) prog_7_method_3_code (8 : Nat) (Option.none : Option Jvm.ClassFile.FieldType)) ∈ gw := gw_t (List.mem_of_getElem? (i := 831) (by decide +kernel)) (by decide +kernel)
theorem kw_828 : (Jvm.Cond.methodLink "LineBreaker" (162 : Nat) ({ cls := "LineBreaker$Outcome", name := "record", desc := "(LLineBreaker$Search;II)V" } : Jvm.MethodName)) ∈ gw := gw_t (List.mem_of_getElem? (i := 828) (by decide +kernel)) (by decide +kernel)
theorem kw_829 : (Jvm.Cond.instanceMethod ({ cls := "LineBreaker$Outcome", name := "record", desc := "(LLineBreaker$Search;II)V" } : Jvm.MethodName)) ∈ gw := gw_t (List.mem_of_getElem? (i := 829) (by decide +kernel)) (by decide +kernel)
theorem kw_830 : (Jvm.Cond.selects "LineBreaker$Outcome" ({ cls := "LineBreaker$Outcome", name := "record", desc := "(LLineBreaker$Search;II)V" } : Jvm.MethodName) ({ cls := "LineBreaker$Outcome", name := "record", desc := "(LLineBreaker$Search;II)V" } : Jvm.MethodName)) ∈ gw := gw_t (List.mem_of_getElem? (i := 830) (by decide +kernel)) (by decide +kernel)
theorem kw_714 : (Jvm.Cond.code ({ cls := "LineBreaker$Search", name := "run", desc := "(IZ)I" } : Jvm.MethodName) prog_9_method_2_code (4 : Nat) (Option.some Jvm.ClassFile.FieldType.int)) ∈ gw := gw_t (List.mem_of_getElem? (i := 714) (by decide +kernel)) (by decide +kernel)
theorem kw_711 : (Jvm.Cond.methodLink "LineBreaker" (158 : Nat) ({ cls := "LineBreaker$Search", name := "run", desc := "(IZ)I" } : Jvm.MethodName)) ∈ gw := gw_t (List.mem_of_getElem? (i := 711) (by decide +kernel)) (by decide +kernel)
theorem kw_712 : (Jvm.Cond.instanceMethod ({ cls := "LineBreaker$Search", name := "run", desc := "(IZ)I" } : Jvm.MethodName)) ∈ gw := gw_t (List.mem_of_getElem? (i := 712) (by decide +kernel)) (by decide +kernel)
theorem kw_713 : (Jvm.Cond.selects "LineBreaker$Search" ({ cls := "LineBreaker$Search", name := "run", desc := "(IZ)I" } : Jvm.MethodName) ({ cls := "LineBreaker$Search", name := "run", desc := "(IZ)I" } : Jvm.MethodName)) ∈ gw := gw_t (List.mem_of_getElem? (i := 713) (by decide +kernel)) (by decide +kernel)
theorem kw_358 : (Jvm.Cond.fieldLink "LineBreaker" (26 : Nat) "LineBreaker" "galley" "LLineBreaker$Galley;") ∈ gw := gw_t (List.mem_of_getElem? (i := 358) (by decide +kernel)) (by decide +kernel)
theorem kw_668 : (Jvm.Cond.code ({ cls := "LineBreaker$Galley", name := "prepare", desc := "(LLineBreaker$Paragraph;LLineBreaker$Settings;)V" } : Jvm.MethodName) prog_2_method_2_code (4 : Nat) (Option.none : Option Jvm.ClassFile.FieldType)) ∈ gw := gw_t (List.mem_of_getElem? (i := 668) (by decide +kernel)) (by decide +kernel)
theorem kw_665 : (Jvm.Cond.methodLink "LineBreaker" (154 : Nat) ({ cls := "LineBreaker$Galley", name := "prepare", desc := "(LLineBreaker$Paragraph;LLineBreaker$Settings;)V" } : Jvm.MethodName)) ∈ gw := gw_t (List.mem_of_getElem? (i := 665) (by decide +kernel)) (by decide +kernel)
theorem kw_666 : (Jvm.Cond.instanceMethod ({ cls := "LineBreaker$Galley", name := "prepare", desc := "(LLineBreaker$Paragraph;LLineBreaker$Settings;)V" } : Jvm.MethodName)) ∈ gw := gw_t (List.mem_of_getElem? (i := 666) (by decide +kernel)) (by decide +kernel)
theorem kw_667 : (Jvm.Cond.selects "LineBreaker$Galley" ({ cls := "LineBreaker$Galley", name := "prepare", desc := "(LLineBreaker$Paragraph;LLineBreaker$Settings;)V" } : Jvm.MethodName) ({ cls := "LineBreaker$Galley", name := "prepare", desc := "(LLineBreaker$Paragraph;LLineBreaker$Settings;)V" } : Jvm.MethodName)) ∈ gw := gw_t (List.mem_of_getElem? (i := 667) (by decide +kernel)) (by decide +kernel)
theorem kw_631 : (Jvm.Cond.code ({ cls := "LineBreaker", name := "sumsAreSizes", desc := "()Z" } : Jvm.MethodName) prog_1_method_17_code (3 : Nat) (Option.some Jvm.ClassFile.FieldType.boolean)) ∈ gw := gw_t (List.mem_of_getElem? (i := 631) (by decide +kernel)) (by decide +kernel)
theorem kw_628 : (Jvm.Cond.methodLink "LineBreaker" (146 : Nat) ({ cls := "LineBreaker", name := "sumsAreSizes", desc := "()Z" } : Jvm.MethodName)) ∈ gw := gw_t (List.mem_of_getElem? (i := 628) (by decide +kernel)) (by decide +kernel)
theorem kw_630 : (Jvm.Cond.instanceMethod ({ cls := "LineBreaker", name := "sumsAreSizes", desc := "()Z" } : Jvm.MethodName)) ∈ gw := gw_t (List.mem_of_getElem? (i := 630) (by decide +kernel)) (by decide +kernel)
theorem kp_3 : Cond.selects "LineBreaker" ⟨"LineBreaker", "sumsAreSizes", "()Z"⟩ ⟨"LineBreaker", "sumsAreSizes", "()Z"⟩ ∈ gw := gw_s (List.mem_of_getElem? (i := 3) (by decide +kernel)) (by decide +kernel)
theorem kw_846 : (Jvm.Cond.classLink "LineBreaker" (176 : Nat) "java/lang/IndexOutOfBoundsException") ∈ gw := gw_t (List.mem_of_getElem? (i := 846) (by decide +kernel)) (by decide +kernel)
theorem kw_847 : (Jvm.Cond.instantiable "java/lang/IndexOutOfBoundsException" (6 : Nat)) ∈ gw := gw_t (List.mem_of_getElem? (i := 847) (by decide +kernel)) (by decide +kernel)
theorem kw_20 : (Jvm.Cond.initialized "java/lang/IndexOutOfBoundsException") ∈ gw := gw_t (List.mem_of_getElem? (i := 20) (by decide +kernel)) (by decide +kernel)
theorem kw_336 : (Jvm.Cond.fieldLink "LineBreaker" (181 : Nat) "LineBreaker$Outcome" "facts" "[[I") ∈ gw := gw_t (List.mem_of_getElem? (i := 336) (by decide +kernel)) (by decide +kernel)
theorem kw_845 : (Jvm.Cond.code ({ cls := "LineBreaker", name := "requireLine", desc := "(I)V" } : Jvm.MethodName) prog_1_method_20_code (2 : Nat) (Option.none : Option Jvm.ClassFile.FieldType)) ∈ gw := gw_t (List.mem_of_getElem? (i := 845) (by decide +kernel)) (by decide +kernel)
theorem kw_842 : (Jvm.Cond.methodLink "LineBreaker" (173 : Nat) ({ cls := "LineBreaker", name := "requireLine", desc := "(I)V" } : Jvm.MethodName)) ∈ gw := gw_t (List.mem_of_getElem? (i := 842) (by decide +kernel)) (by decide +kernel)
theorem kw_844 : (Jvm.Cond.instanceMethod ({ cls := "LineBreaker", name := "requireLine", desc := "(I)V" } : Jvm.MethodName)) ∈ gw := gw_t (List.mem_of_getElem? (i := 844) (by decide +kernel)) (by decide +kernel)
theorem kp_18 : Cond.selects "LineBreaker" ⟨"LineBreaker", "requireLine", "(I)V"⟩ ⟨"LineBreaker", "requireLine", "(I)V"⟩ ∈ gw := gw_s (List.mem_of_getElem? (i := 18) (by decide +kernel)) (by decide +kernel)
theorem kw_338 : (Jvm.Cond.fieldLink "LineBreaker" (185 : Nat) "LineBreaker$Outcome" "totals" "[J") ∈ gw := gw_t (List.mem_of_getElem? (i := 338) (by decide +kernel)) (by decide +kernel)
set_option maxRecDepth 100000 in
theorem tw_90 {args : Array Value} {s : State} {n0 : Nat} (hts : ∀ w ∈ gw, w.before args s = true) (hF : fx n0 s) : ∀ w ∈ Bundle.ownAtoms "LineBreaker" 90 "java/lang/IllegalArgumentException" ["java/lang/RuntimeException", "java/lang/Exception"], w.before args s = true := tw_split hts hF (by decide +kernel) (by decide +kernel)
set_option maxRecDepth 100000 in
theorem tw_153 {args : Array Value} {s : State} {n0 : Nat} (hts : ∀ w ∈ gw, w.before args s = true) (hF : fx n0 s) : ∀ w ∈ Bundle.ownAtoms "LineBreaker" 153 "java/lang/UnsupportedOperationException" ["java/lang/RuntimeException", "java/lang/Exception"], w.before args s = true := tw_split hts hF (by decide +kernel) (by decide +kernel)
set_option maxRecDepth 100000 in
theorem tw_145 {args : Array Value} {s : State} {n0 : Nat} (hts : ∀ w ∈ gw, w.before args s = true) (hF : fx n0 s) : ∀ w ∈ Bundle.ownAtoms "LineBreaker" 145 "java/lang/IllegalStateException" ["java/lang/RuntimeException", "java/lang/Exception"], w.before args s = true := tw_split hts hF (by decide +kernel) (by decide +kernel)
set_option maxRecDepth 100000 in
theorem tw_180 {args : Array Value} {s : State} {n0 : Nat} (hts : ∀ w ∈ gw, w.before args s = true) (hF : fx n0 s) : ∀ w ∈ Bundle.ownAtoms "LineBreaker" 180 "java/lang/IndexOutOfBoundsException" ["java/lang/RuntimeException", "java/lang/Exception"], w.before args s = true := tw_split hts hF (by decide +kernel) (by decide +kernel)
theorem d_Lb_requireSize_0 : decode prog_1_method_21_code 0 = .ok (.iload_n 0, 1) := by decide +kernel
theorem d_Lb_requireSize_17 : decode prog_1_method_21_code 17 = .ok (.return_, 1) := by decide +kernel
theorem d_Lb_requireSize_7 : decode prog_1_method_21_code 7 = .ok (.new 86, 3) := by decide +kernel
theorem d_Lb_requireSize_10 : decode prog_1_method_21_code 10 = .ok (.dup, 1) := by decide +kernel
theorem d_Lb_requireSize_11 : decode prog_1_method_21_code 11 = .ok (.ldc 220, 2) := by decide +kernel
theorem d_Lb_requireSize_13 : decode prog_1_method_21_code 13 = .ok (.invokespecial 90, 3) := by decide +kernel
theorem d_Lb_requireSize_16 : decode prog_1_method_21_code 16 = .ok (.athrow, 1) := by decide +kernel
theorem d_Lb_requireSize_4 : decode prog_1_method_21_code 4 = .ok (.ifCond .ne 13, 3) := by decide +kernel
theorem d_Lb_requireSize_1 : decode prog_1_method_21_code 1 = .ok (.invokestatic 216, 3) := by decide +kernel
theorem d_Lb_requireRoom_0 : decode prog_1_method_18_code 0 = .ok (.aload_n 0, 1) := by decide +kernel
theorem d_Lb_requireRoom_23 : decode prog_1_method_18_code 23 = .ok (.return_, 1) := by decide +kernel
theorem d_Lb_requireRoom_13 : decode prog_1_method_18_code 13 = .ok (.new 149, 3) := by decide +kernel
theorem d_Lb_requireRoom_16 : decode prog_1_method_18_code 16 = .ok (.dup, 1) := by decide +kernel
theorem d_Lb_requireRoom_17 : decode prog_1_method_18_code 17 = .ok (.ldc 210, 2) := by decide +kernel
theorem d_Lb_requireRoom_19 : decode prog_1_method_18_code 19 = .ok (.invokespecial 153, 3) := by decide +kernel
theorem d_Lb_requireRoom_22 : decode prog_1_method_18_code 22 = .ok (.athrow, 1) := by decide +kernel
theorem d_Lb_requireRoom_10 : decode prog_1_method_18_code 10 = .ok (.if_icmp .lt 13, 3) := by decide +kernel
theorem d_Lb_requireRoom_7 : decode prog_1_method_18_code 7 = .ok (.sipush 400, 3) := by decide +kernel
theorem d_Lb_requireRoom_4 : decode prog_1_method_18_code 4 = .ok (.getfield 97, 3) := by decide +kernel
theorem d_Lb_requireRoom_1 : decode prog_1_method_18_code 1 = .ok (.getfield 12, 3) := by decide +kernel
theorem d_Lb_box_0 : decode prog_1_method_2_code 0 = .ok (.iload_n 1, 1) := by decide +kernel
theorem d_Lb_box_4 : decode prog_1_method_2_code 4 = .ok (.aload_n 0, 1) := by decide +kernel
theorem d_Lb_box_8 : decode prog_1_method_2_code 8 = .ok (.aload_n 0, 1) := by decide +kernel
theorem d_Lb_box_15 : decode prog_1_method_2_code 15 = .ok (.aload_n 0, 1) := by decide +kernel
theorem d_Lb_box_20 : decode prog_1_method_2_code 20 = .ok (.iload_n 1, 1) := by decide +kernel
theorem d_Lb_box_24 : decode prog_1_method_2_code 24 = .ok (.ireturn, 1) := by decide +kernel
theorem d_Lb_box_21 : decode prog_1_method_2_code 21 = .ok (.invokevirtual 56, 3) := by decide +kernel
theorem d_Lb_box_19 : decode prog_1_method_2_code 19 = .ok (.iconst 0, 1) := by decide +kernel
theorem d_Lb_box_16 : decode prog_1_method_2_code 16 = .ok (.getfield 12, 3) := by decide +kernel
theorem d_Lb_box_12 : decode prog_1_method_2_code 12 = .ok (.invokevirtual 53, 3) := by decide +kernel
theorem d_Lb_box_9 : decode prog_1_method_2_code 9 = .ok (.getfield 42, 3) := by decide +kernel
theorem d_Lb_box_5 : decode prog_1_method_2_code 5 = .ok (.invokevirtual 50, 3) := by decide +kernel
theorem d_Lb_box_1 : decode prog_1_method_2_code 1 = .ok (.invokestatic 46, 3) := by decide +kernel
theorem d_Lb_requireGlue_20 : decode prog_1_method_23_code 20 = .ok (.new 86, 3) := by decide +kernel
theorem d_Lb_requireGlue_23 : decode prog_1_method_23_code 23 = .ok (.dup, 1) := by decide +kernel
theorem d_Lb_requireGlue_24 : decode prog_1_method_23_code 24 = .ok (.ldc 225, 2) := by decide +kernel
theorem d_Lb_requireGlue_26 : decode prog_1_method_23_code 26 = .ok (.invokespecial 90, 3) := by decide +kernel
theorem d_Lb_requireGlue_29 : decode prog_1_method_23_code 29 = .ok (.athrow, 1) := by decide +kernel
theorem d_Lb_requireGlue_39 : decode prog_1_method_23_code 39 = .ok (.new 86, 3) := by decide +kernel
theorem d_Lb_requireGlue_42 : decode prog_1_method_23_code 42 = .ok (.dup, 1) := by decide +kernel
theorem d_Lb_requireGlue_43 : decode prog_1_method_23_code 43 = .ok (.ldc 227, 2) := by decide +kernel
theorem d_Lb_requireGlue_45 : decode prog_1_method_23_code 45 = .ok (.invokespecial 90, 3) := by decide +kernel
theorem d_Lb_requireGlue_48 : decode prog_1_method_23_code 48 = .ok (.athrow, 1) := by decide +kernel
theorem d_Lb_requireGlue_0 : decode prog_1_method_23_code 0 = .ok (.iload_n 0, 1) := by decide +kernel
theorem d_Lb_requireGlue_4 : decode prog_1_method_23_code 4 = .ok (.iload_n 1, 1) := by decide +kernel
theorem d_Lb_requireGlue_8 : decode prog_1_method_23_code 8 = .ok (.iload_n 3, 1) := by decide +kernel
theorem d_Lb_requireGlue_12 : decode prog_1_method_23_code 12 = .ok (.iload_n 1, 1) := by decide +kernel
theorem d_Lb_requireGlue_16 : decode prog_1_method_23_code 16 = .ok (.iload_n 3, 1) := by decide +kernel
theorem d_Lb_requireGlue_30 : decode prog_1_method_23_code 30 = .ok (.iload_n 2, 1) := by decide +kernel
theorem d_Lb_requireGlue_34 : decode prog_1_method_23_code 34 = .ok (.iload_n 2, 1) := by decide +kernel
theorem d_Lb_requireGlue_49 : decode prog_1_method_23_code 49 = .ok (.return_, 1) := by decide +kernel
theorem d_Lb_requireGlue_36 : decode prog_1_method_23_code 36 = .ok (.if_icmp .le 13, 3) := by decide +kernel
theorem d_Lb_requireGlue_35 : decode prog_1_method_23_code 35 = .ok (.iconst 3, 1) := by decide +kernel
theorem d_Lb_requireGlue_31 : decode prog_1_method_23_code 31 = .ok (.ifCond .lt 8, 3) := by decide +kernel
theorem d_Lb_requireGlue_17 : decode prog_1_method_23_code 17 = .ok (.ifCond .ge 13, 3) := by decide +kernel
theorem d_Lb_requireGlue_13 : decode prog_1_method_23_code 13 = .ok (.ifCond .lt 7, 3) := by decide +kernel
theorem d_Lb_requireGlue_9 : decode prog_1_method_23_code 9 = .ok (.invokestatic 46, 3) := by decide +kernel
theorem d_Lb_requireGlue_5 : decode prog_1_method_23_code 5 = .ok (.invokestatic 46, 3) := by decide +kernel
theorem d_Lb_requireGlue_1 : decode prog_1_method_23_code 1 = .ok (.invokestatic 46, 3) := by decide +kernel
theorem d_Lb_requireNotReplaced_0 : decode prog_1_method_19_code 0 = .ok (.aload_n 0, 1) := by decide +kernel
theorem d_Lb_requireNotReplaced_20 : decode prog_1_method_19_code 20 = .ok (.return_, 1) := by decide +kernel
theorem d_Lb_requireNotReplaced_10 : decode prog_1_method_19_code 10 = .ok (.new 141, 3) := by decide +kernel
theorem d_Lb_requireNotReplaced_13 : decode prog_1_method_19_code 13 = .ok (.dup, 1) := by decide +kernel
theorem d_Lb_requireNotReplaced_14 : decode prog_1_method_19_code 14 = .ok (.ldc 212, 2) := by decide +kernel
theorem d_Lb_requireNotReplaced_16 : decode prog_1_method_19_code 16 = .ok (.invokespecial 145, 3) := by decide +kernel
theorem d_Lb_requireNotReplaced_19 : decode prog_1_method_19_code 19 = .ok (.athrow, 1) := by decide +kernel
theorem d_Lb_requireNotReplaced_7 : decode prog_1_method_19_code 7 = .ok (.ifCond .eq 13, 3) := by decide +kernel
theorem d_Lb_requireNotReplaced_4 : decode prog_1_method_19_code 4 = .ok (.invokevirtual 137, 3) := by decide +kernel
theorem d_Lb_requireNotReplaced_1 : decode prog_1_method_19_code 1 = .ok (.getfield 12, 3) := by decide +kernel
theorem d_Lb_glue_0 : decode prog_1_method_3_code 0 = .ok (.iload_n 1, 1) := by decide +kernel
theorem d_Lb_glue_1 : decode prog_1_method_3_code 1 = .ok (.iload_n 2, 1) := by decide +kernel
theorem d_Lb_glue_2 : decode prog_1_method_3_code 2 = .ok (.iload_n 3, 1) := by decide +kernel
theorem d_Lb_glue_3 : decode prog_1_method_3_code 3 = .ok (.iload 4, 2) := by decide +kernel
theorem d_Lb_glue_8 : decode prog_1_method_3_code 8 = .ok (.aload_n 0, 1) := by decide +kernel
theorem d_Lb_glue_12 : decode prog_1_method_3_code 12 = .ok (.aload_n 0, 1) := by decide +kernel
theorem d_Lb_glue_16 : decode prog_1_method_3_code 16 = .ok (.aload_n 0, 1) := by decide +kernel
theorem d_Lb_glue_23 : decode prog_1_method_3_code 23 = .ok (.aload_n 0, 1) := by decide +kernel
theorem d_Lb_glue_27 : decode prog_1_method_3_code 27 = .ok (.iload_n 1, 1) := by decide +kernel
theorem d_Lb_glue_28 : decode prog_1_method_3_code 28 = .ok (.iload_n 2, 1) := by decide +kernel
theorem d_Lb_glue_29 : decode prog_1_method_3_code 29 = .ok (.iload_n 3, 1) := by decide +kernel
theorem d_Lb_glue_30 : decode prog_1_method_3_code 30 = .ok (.iload 4, 2) := by decide +kernel
theorem d_Lb_glue_35 : decode prog_1_method_3_code 35 = .ok (.ireturn, 1) := by decide +kernel
theorem d_Lb_glue_32 : decode prog_1_method_3_code 32 = .ok (.invokevirtual 67, 3) := by decide +kernel
theorem d_Lb_glue_24 : decode prog_1_method_3_code 24 = .ok (.getfield 12, 3) := by decide +kernel
theorem d_Lb_glue_20 : decode prog_1_method_3_code 20 = .ok (.invokevirtual 53, 3) := by decide +kernel
theorem d_Lb_glue_17 : decode prog_1_method_3_code 17 = .ok (.getfield 42, 3) := by decide +kernel
theorem d_Lb_glue_13 : decode prog_1_method_3_code 13 = .ok (.invokevirtual 50, 3) := by decide +kernel
theorem d_Lb_glue_9 : decode prog_1_method_3_code 9 = .ok (.invokevirtual 64, 3) := by decide +kernel
theorem d_Lb_glue_5 : decode prog_1_method_3_code 5 = .ok (.invokestatic 60, 3) := by decide +kernel
theorem d_Lb_kern_28 : decode prog_1_method_4_code 28 = .ok (.iload_n 1, 1) := by decide +kernel
theorem d_Lb_kern_32 : decode prog_1_method_4_code 32 = .ok (.ireturn, 1) := by decide +kernel
theorem d_Lb_kern_29 : decode prog_1_method_4_code 29 = .ok (.invokevirtual 56, 3) := by decide +kernel
theorem d_Lb_kern_0 : decode prog_1_method_4_code 0 = .ok (.iload_n 1, 1) := by decide +kernel
theorem d_Lb_kern_4 : decode prog_1_method_4_code 4 = .ok (.aload_n 0, 1) := by decide +kernel
theorem d_Lb_kern_8 : decode prog_1_method_4_code 8 = .ok (.aload_n 0, 1) := by decide +kernel
theorem d_Lb_kern_15 : decode prog_1_method_4_code 15 = .ok (.aload_n 0, 1) := by decide +kernel
theorem d_Lb_kern_19 : decode prog_1_method_4_code 19 = .ok (.iload_n 2, 1) := by decide +kernel
theorem d_Lb_kern_27 : decode prog_1_method_4_code 27 = .ok (.iconst 2, 1) := by decide +kernel
theorem d_Lb_kern_24 : decode prog_1_method_4_code 24 = .ok (.goto 4, 3) := by decide +kernel
theorem d_Lb_kern_23 : decode prog_1_method_4_code 23 = .ok (.iconst 3, 1) := by decide +kernel
theorem d_Lb_kern_20 : decode prog_1_method_4_code 20 = .ok (.ifCond .eq 7, 3) := by decide +kernel
theorem d_Lb_kern_16 : decode prog_1_method_4_code 16 = .ok (.getfield 12, 3) := by decide +kernel
theorem d_Lb_kern_12 : decode prog_1_method_4_code 12 = .ok (.invokevirtual 53, 3) := by decide +kernel
theorem d_Lb_kern_9 : decode prog_1_method_4_code 9 = .ok (.getfield 42, 3) := by decide +kernel
theorem d_Lb_kern_5 : decode prog_1_method_4_code 5 = .ok (.invokevirtual 50, 3) := by decide +kernel
theorem d_Lb_kern_1 : decode prog_1_method_4_code 1 = .ok (.invokestatic 46, 3) := by decide +kernel
theorem d_Lb_penalty_0 : decode prog_1_method_5_code 0 = .ok (.aload_n 0, 1) := by decide +kernel
theorem d_Lb_penalty_4 : decode prog_1_method_5_code 4 = .ok (.aload_n 0, 1) := by decide +kernel
theorem d_Lb_penalty_8 : decode prog_1_method_5_code 8 = .ok (.aload_n 0, 1) := by decide +kernel
theorem d_Lb_penalty_15 : decode prog_1_method_5_code 15 = .ok (.aload_n 0, 1) := by decide +kernel
theorem d_Lb_penalty_25 : decode prog_1_method_5_code 25 = .ok (.iload_n 1, 1) := by decide +kernel
theorem d_Lb_penalty_35 : decode prog_1_method_5_code 35 = .ok (.ireturn, 1) := by decide +kernel
theorem d_Lb_penalty_32 : decode prog_1_method_5_code 32 = .ok (.invokevirtual 79, 3) := by decide +kernel
theorem d_Lb_penalty_29 : decode prog_1_method_5_code 29 = .ok (.invokestatic 76, 3) := by decide +kernel
theorem d_Lb_penalty_26 : decode prog_1_method_5_code 26 = .ok (.invokestatic 71, 3) := by decide +kernel
theorem d_Lb_penalty_22 : decode prog_1_method_5_code 22 = .ok (.sipush 10000, 3) := by decide +kernel
theorem d_Lb_penalty_19 : decode prog_1_method_5_code 19 = .ok (.sipush (-10000), 3) := by decide +kernel
theorem d_Lb_penalty_16 : decode prog_1_method_5_code 16 = .ok (.getfield 12, 3) := by decide +kernel
theorem d_Lb_penalty_12 : decode prog_1_method_5_code 12 = .ok (.invokevirtual 53, 3) := by decide +kernel
theorem d_Lb_penalty_9 : decode prog_1_method_5_code 9 = .ok (.getfield 42, 3) := by decide +kernel
theorem d_Lb_penalty_5 : decode prog_1_method_5_code 5 = .ok (.invokevirtual 50, 3) := by decide +kernel
theorem d_Lb_penalty_1 : decode prog_1_method_5_code 1 = .ok (.invokevirtual 64, 3) := by decide +kernel
theorem d_Lb_requireSizeOrNothing_0 : decode prog_1_method_22_code 0 = .ok (.iload_n 0, 1) := by decide +kernel
theorem d_Lb_requireSizeOrNothing_23 : decode prog_1_method_22_code 23 = .ok (.return_, 1) := by decide +kernel
theorem d_Lb_requireSizeOrNothing_6 : decode prog_1_method_22_code 6 = .ok (.iload_n 0, 1) := by decide +kernel
theorem d_Lb_requireSizeOrNothing_13 : decode prog_1_method_22_code 13 = .ok (.new 86, 3) := by decide +kernel
theorem d_Lb_requireSizeOrNothing_16 : decode prog_1_method_22_code 16 = .ok (.dup, 1) := by decide +kernel
theorem d_Lb_requireSizeOrNothing_17 : decode prog_1_method_22_code 17 = .ok (.ldc 223, 2) := by decide +kernel
theorem d_Lb_requireSizeOrNothing_19 : decode prog_1_method_22_code 19 = .ok (.invokespecial 90, 3) := by decide +kernel
theorem d_Lb_requireSizeOrNothing_22 : decode prog_1_method_22_code 22 = .ok (.athrow, 1) := by decide +kernel
theorem d_Lb_requireSizeOrNothing_10 : decode prog_1_method_22_code 10 = .ok (.ifCond .ne 13, 3) := by decide +kernel
theorem d_Lb_requireSizeOrNothing_7 : decode prog_1_method_22_code 7 = .ok (.invokestatic 216, 3) := by decide +kernel
theorem d_Lb_requireSizeOrNothing_3 : decode prog_1_method_22_code 3 = .ok (.if_icmp .eq 20, 3) := by decide +kernel
theorem d_Lb_requireSizeOrNothing_1 : decode prog_1_method_22_code 1 = .ok (.ldc 222, 2) := by decide +kernel
theorem d_Lb_hyphen_18 : decode prog_1_method_6_code 18 = .ok (.new 86, 3) := by decide +kernel
theorem d_Lb_hyphen_21 : decode prog_1_method_6_code 21 = .ok (.dup, 1) := by decide +kernel
theorem d_Lb_hyphen_22 : decode prog_1_method_6_code 22 = .ok (.ldc 88, 2) := by decide +kernel
theorem d_Lb_hyphen_24 : decode prog_1_method_6_code 24 = .ok (.invokespecial 90, 3) := by decide +kernel
theorem d_Lb_hyphen_27 : decode prog_1_method_6_code 27 = .ok (.athrow, 1) := by decide +kernel
theorem d_Lb_hyphen_0 : decode prog_1_method_6_code 0 = .ok (.iload_n 1, 1) := by decide +kernel
theorem d_Lb_hyphen_4 : decode prog_1_method_6_code 4 = .ok (.iload_n 2, 1) := by decide +kernel
theorem d_Lb_hyphen_8 : decode prog_1_method_6_code 8 = .ok (.iload_n 3, 1) := by decide +kernel
theorem d_Lb_hyphen_12 : decode prog_1_method_6_code 12 = .ok (.iload_n 3, 1) := by decide +kernel
theorem d_Lb_hyphen_28 : decode prog_1_method_6_code 28 = .ok (.aload_n 0, 1) := by decide +kernel
theorem d_Lb_hyphen_32 : decode prog_1_method_6_code 32 = .ok (.aload_n 0, 1) := by decide +kernel
theorem d_Lb_hyphen_36 : decode prog_1_method_6_code 36 = .ok (.aload_n 0, 1) := by decide +kernel
theorem d_Lb_hyphen_43 : decode prog_1_method_6_code 43 = .ok (.aload_n 0, 1) := by decide +kernel
theorem d_Lb_hyphen_47 : decode prog_1_method_6_code 47 = .ok (.iload_n 1, 1) := by decide +kernel
theorem d_Lb_hyphen_48 : decode prog_1_method_6_code 48 = .ok (.iload_n 2, 1) := by decide +kernel
theorem d_Lb_hyphen_49 : decode prog_1_method_6_code 49 = .ok (.iload_n 3, 1) := by decide +kernel
theorem d_Lb_hyphen_53 : decode prog_1_method_6_code 53 = .ok (.ireturn, 1) := by decide +kernel
theorem d_Lb_hyphen_50 : decode prog_1_method_6_code 50 = .ok (.invokevirtual 93, 3) := by decide +kernel
theorem d_Lb_hyphen_44 : decode prog_1_method_6_code 44 = .ok (.getfield 12, 3) := by decide +kernel
theorem d_Lb_hyphen_40 : decode prog_1_method_6_code 40 = .ok (.invokevirtual 53, 3) := by decide +kernel
theorem d_Lb_hyphen_37 : decode prog_1_method_6_code 37 = .ok (.getfield 42, 3) := by decide +kernel
theorem d_Lb_hyphen_33 : decode prog_1_method_6_code 33 = .ok (.invokevirtual 50, 3) := by decide +kernel
theorem d_Lb_hyphen_29 : decode prog_1_method_6_code 29 = .ok (.invokevirtual 64, 3) := by decide +kernel
theorem d_Lb_hyphen_15 : decode prog_1_method_6_code 15 = .ok (.if_icmp .le 13, 3) := by decide +kernel
theorem d_Lb_hyphen_13 : decode prog_1_method_6_code 13 = .ok (.bipush 10, 2) := by decide +kernel
theorem d_Lb_hyphen_9 : decode prog_1_method_6_code 9 = .ok (.ifCond .lt 9, 3) := by decide +kernel
theorem d_Lb_hyphen_5 : decode prog_1_method_6_code 5 = .ok (.invokestatic 83, 3) := by decide +kernel
theorem d_Lb_hyphen_1 : decode prog_1_method_6_code 1 = .ok (.invokestatic 83, 3) := by decide +kernel
theorem d_Lb_set_10 : decode prog_1_method_9_code 10 = .ok (.new 86, 3) := by decide +kernel
theorem d_Lb_set_13 : decode prog_1_method_9_code 13 = .ok (.dup, 1) := by decide +kernel
theorem d_Lb_set_14 : decode prog_1_method_9_code 14 = .ok (.ldc 101, 2) := by decide +kernel
theorem d_Lb_set_16 : decode prog_1_method_9_code 16 = .ok (.invokespecial 90, 3) := by decide +kernel
theorem d_Lb_set_19 : decode prog_1_method_9_code 19 = .ok (.athrow, 1) := by decide +kernel
theorem d_Lb_set_38 : decode prog_1_method_9_code 38 = .ok (.new 86, 3) := by decide +kernel
theorem d_Lb_set_41 : decode prog_1_method_9_code 41 = .ok (.dup, 1) := by decide +kernel
theorem d_Lb_set_42 : decode prog_1_method_9_code 42 = .ok (.ldc 110, 2) := by decide +kernel
theorem d_Lb_set_44 : decode prog_1_method_9_code 44 = .ok (.invokespecial 90, 3) := by decide +kernel
theorem d_Lb_set_47 : decode prog_1_method_9_code 47 = .ok (.athrow, 1) := by decide +kernel
theorem d_Lb_set_0 : decode prog_1_method_9_code 0 = .ok (.iload_n 1, 1) := by decide +kernel
theorem d_Lb_set_4 : decode prog_1_method_9_code 4 = .ok (.iload_n 1, 1) := by decide +kernel
theorem d_Lb_set_20 : decode prog_1_method_9_code 20 = .ok (.iload_n 2, 1) := by decide +kernel
theorem d_Lb_set_24 : decode prog_1_method_9_code 24 = .ok (.iload_n 1, 1) := by decide +kernel
theorem d_Lb_set_29 : decode prog_1_method_9_code 29 = .ok (.iload_n 2, 1) := by decide +kernel
theorem d_Lb_set_33 : decode prog_1_method_9_code 33 = .ok (.iload_n 1, 1) := by decide +kernel
theorem d_Lb_set_48 : decode prog_1_method_9_code 48 = .ok (.aload_n 0, 1) := by decide +kernel
theorem d_Lb_set_55 : decode prog_1_method_9_code 55 = .ok (.iload_n 1, 1) := by decide +kernel
theorem d_Lb_set_56 : decode prog_1_method_9_code 56 = .ok (.iload_n 2, 1) := by decide +kernel
theorem d_Lb_set_58 : decode prog_1_method_9_code 58 = .ok (.return_, 1) := by decide +kernel
theorem d_Lb_set_57 : decode prog_1_method_9_code 57 = .ok (.iastore, 1) := by decide +kernel
theorem d_Lb_set_52 : decode prog_1_method_9_code 52 = .ok (.getfield 112, 3) := by decide +kernel
theorem d_Lb_set_49 : decode prog_1_method_9_code 49 = .ok (.getfield 19, 3) := by decide +kernel
theorem d_Lb_set_35 : decode prog_1_method_9_code 35 = .ok (.if_icmp .le 13, 3) := by decide +kernel
theorem d_Lb_set_34 : decode prog_1_method_9_code 34 = .ok (.iaload, 1) := by decide +kernel
theorem d_Lb_set_30 : decode prog_1_method_9_code 30 = .ok (.getstatic 107, 3) := by decide +kernel
theorem d_Lb_set_26 : decode prog_1_method_9_code 26 = .ok (.if_icmp .lt 12, 3) := by decide +kernel
theorem d_Lb_set_25 : decode prog_1_method_9_code 25 = .ok (.iaload, 1) := by decide +kernel
theorem d_Lb_set_21 : decode prog_1_method_9_code 21 = .ok (.getstatic 103, 3) := by decide +kernel
theorem d_Lb_set_7 : decode prog_1_method_9_code 7 = .ok (.if_icmp .lt 13, 3) := by decide +kernel
theorem d_Lb_set_5 : decode prog_1_method_9_code 5 = .ok (.bipush 10, 2) := by decide +kernel
theorem d_Lb_set_1 : decode prog_1_method_9_code 1 = .ok (.ifCond .lt 9, 3) := by decide +kernel
theorem d_Lb_wide_10 : decode prog_1_method_10_code 10 = .ok (.new 86, 3) := by decide +kernel
theorem d_Lb_wide_13 : decode prog_1_method_10_code 13 = .ok (.dup, 1) := by decide +kernel
theorem d_Lb_wide_14 : decode prog_1_method_10_code 14 = .ok (.ldc 115, 2) := by decide +kernel
theorem d_Lb_wide_16 : decode prog_1_method_10_code 16 = .ok (.invokespecial 90, 3) := by decide +kernel
theorem d_Lb_wide_19 : decode prog_1_method_10_code 19 = .ok (.athrow, 1) := by decide +kernel
theorem d_Lb_wide_26 : decode prog_1_method_10_code 26 = .ok (.iload_n 3, 1) := by decide +kernel
theorem d_Lb_wide_48 : decode prog_1_method_10_code 48 = .ok (.return_, 1) := by decide +kernel
theorem d_Lb_wide_32 : decode prog_1_method_10_code 32 = .ok (.aload_n 0, 1) := by decide +kernel
theorem d_Lb_wide_39 : decode prog_1_method_10_code 39 = .ok (.iload_n 3, 1) := by decide +kernel
theorem d_Lb_wide_40 : decode prog_1_method_10_code 40 = .ok (.iload_n 2, 1) := by decide +kernel
theorem d_Lb_wide_45 : decode prog_1_method_10_code 45 = .ok (.goto (-19), 3) := by decide +kernel
theorem d_Lb_wide_42 : decode prog_1_method_10_code 42 = .ok (.iinc 3 1, 3) := by decide +kernel
theorem d_Lb_wide_41 : decode prog_1_method_10_code 41 = .ok (.iastore, 1) := by decide +kernel
theorem d_Lb_wide_36 : decode prog_1_method_10_code 36 = .ok (.getfield 117, 3) := by decide +kernel
theorem d_Lb_wide_33 : decode prog_1_method_10_code 33 = .ok (.getfield 19, 3) := by decide +kernel
theorem d_Lb_wide_29 : decode prog_1_method_10_code 29 = .ok (.if_icmp .ge 19, 3) := by decide +kernel
theorem d_Lb_wide_27 : decode prog_1_method_10_code 27 = .ok (.bipush 20, 2) := by decide +kernel
theorem d_Lb_wide_0 : decode prog_1_method_10_code 0 = .ok (.iload_n 1, 1) := by decide +kernel
theorem d_Lb_wide_4 : decode prog_1_method_10_code 4 = .ok (.iload_n 1, 1) := by decide +kernel
theorem d_Lb_wide_20 : decode prog_1_method_10_code 20 = .ok (.iload_n 2, 1) := by decide +kernel
theorem d_Lb_wide_24 : decode prog_1_method_10_code 24 = .ok (.iload_n 1, 1) := by decide +kernel
theorem d_Lb_wide_25 : decode prog_1_method_10_code 25 = .ok (.istore_n 3, 1) := by decide +kernel
theorem d_Lb_wide_21 : decode prog_1_method_10_code 21 = .ok (.invokestatic 46, 3) := by decide +kernel
theorem d_Lb_wide_7 : decode prog_1_method_10_code 7 = .ok (.if_icmp .lt 13, 3) := by decide +kernel
theorem d_Lb_wide_5 : decode prog_1_method_10_code 5 = .ok (.bipush 20, 2) := by decide +kernel
theorem d_Lb_wide_1 : decode prog_1_method_10_code 1 = .ok (.ifCond .lt 9, 3) := by decide +kernel
theorem d_Lb_around_9 : decode prog_1_method_11_code 9 = .ok (.new 86, 3) := by decide +kernel
theorem d_Lb_around_12 : decode prog_1_method_11_code 12 = .ok (.dup, 1) := by decide +kernel
theorem d_Lb_around_13 : decode prog_1_method_11_code 13 = .ok (.ldc 120, 2) := by decide +kernel
theorem d_Lb_around_15 : decode prog_1_method_11_code 15 = .ok (.invokespecial 90, 3) := by decide +kernel
theorem d_Lb_around_18 : decode prog_1_method_11_code 18 = .ok (.athrow, 1) := by decide +kernel
theorem d_Lb_around_0 : decode prog_1_method_11_code 0 = .ok (.iload_n 1, 1) := by decide +kernel
theorem d_Lb_around_4 : decode prog_1_method_11_code 4 = .ok (.iload_n 1, 1) := by decide +kernel
theorem d_Lb_around_19 : decode prog_1_method_11_code 19 = .ok (.iload_n 2, 1) := by decide +kernel
theorem d_Lb_around_20 : decode prog_1_method_11_code 20 = .ok (.iload_n 3, 1) := by decide +kernel
theorem d_Lb_around_21 : decode prog_1_method_11_code 21 = .ok (.iload 4, 2) := by decide +kernel
theorem d_Lb_around_23 : decode prog_1_method_11_code 23 = .ok (.iload 5, 2) := by decide +kernel
theorem d_Lb_around_28 : decode prog_1_method_11_code 28 = .ok (.iload_n 1, 1) := by decide +kernel
theorem d_Lb_around_42 : decode prog_1_method_11_code 42 = .ok (.iload_n 1, 1) := by decide +kernel
theorem d_Lb_around_57 : decode prog_1_method_11_code 57 = .ok (.aload_n 0, 1) := by decide +kernel
theorem d_Lb_around_64 : decode prog_1_method_11_code 64 = .ok (.astore 6, 2) := by decide +kernel
theorem d_Lb_around_66 : decode prog_1_method_11_code 66 = .ok (.aload 6, 2) := by decide +kernel
theorem d_Lb_around_68 : decode prog_1_method_11_code 68 = .ok (.iload_n 2, 1) := by decide +kernel
theorem d_Lb_around_69 : decode prog_1_method_11_code 69 = .ok (.iload_n 3, 1) := by decide +kernel
theorem d_Lb_around_70 : decode prog_1_method_11_code 70 = .ok (.iload 4, 2) := by decide +kernel
theorem d_Lb_around_72 : decode prog_1_method_11_code 72 = .ok (.iload 5, 2) := by decide +kernel
theorem d_Lb_around_77 : decode prog_1_method_11_code 77 = .ok (.return_, 1) := by decide +kernel
theorem d_Lb_around_74 : decode prog_1_method_11_code 74 = .ok (.invokevirtual 132, 3) := by decide +kernel
theorem d_Lb_around_61 : decode prog_1_method_11_code 61 = .ok (.getfield 129, 3) := by decide +kernel
theorem d_Lb_around_58 : decode prog_1_method_11_code 58 = .ok (.getfield 19, 3) := by decide +kernel
theorem d_Lb_around_47 : decode prog_1_method_11_code 47 = .ok (.aload_n 0, 1) := by decide +kernel
theorem d_Lb_around_54 : decode prog_1_method_11_code 54 = .ok (.goto 10, 3) := by decide +kernel
theorem d_Lb_around_51 : decode prog_1_method_11_code 51 = .ok (.getfield 126, 3) := by decide +kernel
theorem d_Lb_around_48 : decode prog_1_method_11_code 48 = .ok (.getfield 19, 3) := by decide +kernel
theorem d_Lb_around_44 : decode prog_1_method_11_code 44 = .ok (.if_icmp .ne 13, 3) := by decide +kernel
theorem d_Lb_around_43 : decode prog_1_method_11_code 43 = .ok (.iconst 1, 1) := by decide +kernel
theorem d_Lb_around_32 : decode prog_1_method_11_code 32 = .ok (.aload_n 0, 1) := by decide +kernel
theorem d_Lb_around_39 : decode prog_1_method_11_code 39 = .ok (.goto 25, 3) := by decide +kernel
theorem d_Lb_around_36 : decode prog_1_method_11_code 36 = .ok (.getfield 122, 3) := by decide +kernel
theorem d_Lb_around_33 : decode prog_1_method_11_code 33 = .ok (.getfield 19, 3) := by decide +kernel
theorem d_Lb_around_29 : decode prog_1_method_11_code 29 = .ok (.ifCond .ne 13, 3) := by decide +kernel
theorem d_Lb_around_25 : decode prog_1_method_11_code 25 = .ok (.invokestatic 60, 3) := by decide +kernel
theorem d_Lb_around_6 : decode prog_1_method_11_code 6 = .ok (.if_icmp .le 13, 3) := by decide +kernel
theorem d_Lb_around_5 : decode prog_1_method_11_code 5 = .ok (.iconst 2, 1) := by decide +kernel
theorem d_Lb_around_1 : decode prog_1_method_11_code 1 = .ok (.ifCond .lt 8, 3) := by decide +kernel
theorem d_Lb_breakUp_121 : decode prog_1_method_12_code 121 = .ok (.istore 4, 2) := by decide +kernel
theorem d_Lb_breakUp_123 : decode prog_1_method_12_code 123 = .ok (.iload 4, 2) := by decide +kernel
theorem d_Lb_breakUp_133 : decode prog_1_method_12_code 133 = .ok (.iload 4, 2) := by decide +kernel
theorem d_Lb_breakUp_163 : decode prog_1_method_12_code 163 = .ok (.goto (-65), 3) := by decide +kernel
theorem d_Lb_breakUp_160 : decode prog_1_method_12_code 160 = .ok (.iinc 3 1, 3) := by decide +kernel
theorem d_Lb_breakUp_138 : decode prog_1_method_12_code 138 = .ok (.aload_n 0, 1) := by decide +kernel
theorem d_Lb_breakUp_142 : decode prog_1_method_12_code 142 = .ok (.aload_n 0, 1) := by decide +kernel
theorem d_Lb_breakUp_146 : decode prog_1_method_12_code 146 = .ok (.iload 4, 2) := by decide +kernel
theorem d_Lb_breakUp_148 : decode prog_1_method_12_code 148 = .ok (.iload_n 3, 1) := by decide +kernel
theorem d_Lb_breakUp_152 : decode prog_1_method_12_code 152 = .ok (.aload_n 0, 1) := by decide +kernel
theorem d_Lb_breakUp_159 : decode prog_1_method_12_code 159 = .ok (.ireturn, 1) := by decide +kernel
theorem d_Lb_breakUp_156 : decode prog_1_method_12_code 156 = .ok (.getfield 166, 3) := by decide +kernel
theorem d_Lb_breakUp_153 : decode prog_1_method_12_code 153 = .ok (.getfield 42, 3) := by decide +kernel
theorem d_Lb_breakUp_149 : decode prog_1_method_12_code 149 = .ok (.invokevirtual 162, 3) := by decide +kernel
theorem d_Lb_breakUp_143 : decode prog_1_method_12_code 143 = .ok (.getfield 35, 3) := by decide +kernel
theorem d_Lb_breakUp_139 : decode prog_1_method_12_code 139 = .ok (.getfield 42, 3) := by decide +kernel
theorem d_Lb_breakUp_135 : decode prog_1_method_12_code 135 = .ok (.ifCond .eq 25, 3) := by decide +kernel
theorem d_Lb_breakUp_132 : decode prog_1_method_12_code 132 = .ok (.ireturn, 1) := by decide +kernel
theorem d_Lb_breakUp_130 : decode prog_1_method_12_code 130 = .ok (.bipush (-2), 2) := by decide +kernel
theorem d_Lb_breakUp_127 : decode prog_1_method_12_code 127 = .ok (.if_icmp .ne 6, 3) := by decide +kernel
theorem d_Lb_breakUp_125 : decode prog_1_method_12_code 125 = .ok (.bipush (-2), 2) := by decide +kernel
theorem d_Lb_breakUp_118 : decode prog_1_method_12_code 118 = .ok (.invokevirtual 158, 3) := by decide +kernel
theorem d_Lb_breakUp_98 : decode prog_1_method_12_code 98 = .ok (.iload_n 3, 1) := by decide +kernel
theorem d_Lb_breakUp_99 : decode prog_1_method_12_code 99 = .ok (.iload_n 2, 1) := by decide +kernel
theorem d_Lb_breakUp_167 : decode prog_1_method_12_code 167 = .ok (.ireturn, 1) := by decide +kernel
theorem d_Lb_breakUp_166 : decode prog_1_method_12_code 166 = .ok (.iconst 0, 1) := by decide +kernel
theorem d_Lb_breakUp_103 : decode prog_1_method_12_code 103 = .ok (.aload_n 0, 1) := by decide +kernel
theorem d_Lb_breakUp_107 : decode prog_1_method_12_code 107 = .ok (.iload_n 3, 1) := by decide +kernel
theorem d_Lb_breakUp_108 : decode prog_1_method_12_code 108 = .ok (.iload_n 3, 1) := by decide +kernel
theorem d_Lb_breakUp_109 : decode prog_1_method_12_code 109 = .ok (.iload_n 2, 1) := by decide +kernel
theorem d_Lb_breakUp_117 : decode prog_1_method_12_code 117 = .ok (.iconst 0, 1) := by decide +kernel
theorem d_Lb_breakUp_114 : decode prog_1_method_12_code 114 = .ok (.goto 4, 3) := by decide +kernel
theorem d_Lb_breakUp_113 : decode prog_1_method_12_code 113 = .ok (.iconst 1, 1) := by decide +kernel
theorem d_Lb_breakUp_110 : decode prog_1_method_12_code 110 = .ok (.if_icmp .ne 7, 3) := by decide +kernel
theorem d_Lb_breakUp_104 : decode prog_1_method_12_code 104 = .ok (.getfield 35, 3) := by decide +kernel
theorem d_Lb_breakUp_100 : decode prog_1_method_12_code 100 = .ok (.if_icmp .gt 66, 3) := by decide +kernel
theorem d_Lb_breakUp_76 : decode prog_1_method_12_code 76 = .ok (.istore_n 1, 1) := by decide +kernel
theorem d_Lb_breakUp_77 : decode prog_1_method_12_code 77 = .ok (.aload_n 0, 1) := by decide +kernel
theorem d_Lb_breakUp_95 : decode prog_1_method_12_code 95 = .ok (.istore_n 2, 1) := by decide +kernel
theorem d_Lb_breakUp_96 : decode prog_1_method_12_code 96 = .ok (.iload_n 1, 1) := by decide +kernel
theorem d_Lb_breakUp_97 : decode prog_1_method_12_code 97 = .ok (.istore_n 3, 1) := by decide +kernel
theorem d_Lb_breakUp_94 : decode prog_1_method_12_code 94 = .ok (.iconst 2, 1) := by decide +kernel
theorem d_Lb_breakUp_91 : decode prog_1_method_12_code 91 = .ok (.goto 4, 3) := by decide +kernel
theorem d_Lb_breakUp_90 : decode prog_1_method_12_code 90 = .ok (.iconst 3, 1) := by decide +kernel
theorem d_Lb_breakUp_87 : decode prog_1_method_12_code 87 = .ok (.ifCond .le 7, 3) := by decide +kernel
theorem d_Lb_breakUp_86 : decode prog_1_method_12_code 86 = .ok (.iaload, 1) := by decide +kernel
theorem d_Lb_breakUp_84 : decode prog_1_method_12_code 84 = .ok (.bipush 8, 2) := by decide +kernel
theorem d_Lb_breakUp_81 : decode prog_1_method_12_code 81 = .ok (.getfield 112, 3) := by decide +kernel
theorem d_Lb_breakUp_78 : decode prog_1_method_12_code 78 = .ok (.getfield 19, 3) := by decide +kernel
theorem d_Lb_breakUp_0 : decode prog_1_method_12_code 0 = .ok (.aload_n 0, 1) := by decide +kernel
theorem d_Lb_breakUp_20 : decode prog_1_method_12_code 20 = .ok (.aload_n 0, 1) := by decide +kernel
theorem d_Lb_breakUp_37 : decode prog_1_method_12_code 37 = .ok (.aload_n 0, 1) := by decide +kernel
theorem d_Lb_breakUp_44 : decode prog_1_method_12_code 44 = .ok (.aload_n 0, 1) := by decide +kernel
theorem d_Lb_breakUp_48 : decode prog_1_method_12_code 48 = .ok (.aload_n 0, 1) := by decide +kernel
theorem d_Lb_breakUp_52 : decode prog_1_method_12_code 52 = .ok (.aload_n 0, 1) := by decide +kernel
theorem d_Lb_breakUp_59 : decode prog_1_method_12_code 59 = .ok (.aload_n 0, 1) := by decide +kernel
theorem d_Lb_breakUp_75 : decode prog_1_method_12_code 75 = .ok (.iconst 1, 1) := by decide +kernel
theorem d_Lb_breakUp_72 : decode prog_1_method_12_code 72 = .ok (.goto 4, 3) := by decide +kernel
theorem d_Lb_breakUp_71 : decode prog_1_method_12_code 71 = .ok (.iconst 2, 1) := by decide +kernel
theorem d_Lb_breakUp_68 : decode prog_1_method_12_code 68 = .ok (.ifCond .ge 7, 3) := by decide +kernel
theorem d_Lb_breakUp_67 : decode prog_1_method_12_code 67 = .ok (.iaload, 1) := by decide +kernel
theorem d_Lb_breakUp_66 : decode prog_1_method_12_code 66 = .ok (.iconst 0, 1) := by decide +kernel
theorem d_Lb_breakUp_63 : decode prog_1_method_12_code 63 = .ok (.getfield 112, 3) := by decide +kernel
theorem d_Lb_breakUp_60 : decode prog_1_method_12_code 60 = .ok (.getfield 19, 3) := by decide +kernel
theorem d_Lb_breakUp_56 : decode prog_1_method_12_code 56 = .ok (.invokevirtual 154, 3) := by decide +kernel
theorem d_Lb_breakUp_53 : decode prog_1_method_12_code 53 = .ok (.getfield 19, 3) := by decide +kernel
theorem d_Lb_breakUp_49 : decode prog_1_method_12_code 49 = .ok (.getfield 12, 3) := by decide +kernel
theorem d_Lb_breakUp_45 : decode prog_1_method_12_code 45 = .ok (.getfield 26, 3) := by decide +kernel
theorem d_Lb_breakUp_41 : decode prog_1_method_12_code 41 = .ok (.invokevirtual 53, 3) := by decide +kernel
theorem d_Lb_breakUp_38 : decode prog_1_method_12_code 38 = .ok (.getfield 42, 3) := by decide +kernel
theorem d_Lb_breakUp_27 : decode prog_1_method_12_code 27 = .ok (.new 149, 3) := by decide +kernel
theorem d_Lb_breakUp_30 : decode prog_1_method_12_code 30 = .ok (.dup, 1) := by decide +kernel
theorem d_Lb_breakUp_31 : decode prog_1_method_12_code 31 = .ok (.ldc 151, 2) := by decide +kernel
theorem d_Lb_breakUp_33 : decode prog_1_method_12_code 33 = .ok (.invokespecial 153, 3) := by decide +kernel
theorem d_Lb_breakUp_36 : decode prog_1_method_12_code 36 = .ok (.athrow, 1) := by decide +kernel
theorem d_Lb_breakUp_24 : decode prog_1_method_12_code 24 = .ok (.ifCond .ne 13, 3) := by decide +kernel
theorem d_Lb_breakUp_21 : decode prog_1_method_12_code 21 = .ok (.invokevirtual 146, 3) := by decide +kernel
theorem d_Lb_breakUp_10 : decode prog_1_method_12_code 10 = .ok (.new 141, 3) := by decide +kernel
theorem d_Lb_breakUp_13 : decode prog_1_method_12_code 13 = .ok (.dup, 1) := by decide +kernel
theorem d_Lb_breakUp_14 : decode prog_1_method_12_code 14 = .ok (.ldc 143, 2) := by decide +kernel
theorem d_Lb_breakUp_16 : decode prog_1_method_12_code 16 = .ok (.invokespecial 145, 3) := by decide +kernel
theorem d_Lb_breakUp_19 : decode prog_1_method_12_code 19 = .ok (.athrow, 1) := by decide +kernel
theorem d_Lb_breakUp_7 : decode prog_1_method_12_code 7 = .ok (.ifCond .eq 13, 3) := by decide +kernel
theorem d_Lb_breakUp_4 : decode prog_1_method_12_code 4 = .ok (.invokevirtual 137, 3) := by decide +kernel
theorem d_Lb_breakUp_1 : decode prog_1_method_12_code 1 = .ok (.getfield 12, 3) := by decide +kernel
theorem d_Lb_requireLine_15 : decode prog_1_method_20_code 15 = .ok (.new 176, 3) := by decide +kernel
theorem d_Lb_requireLine_18 : decode prog_1_method_20_code 18 = .ok (.dup, 1) := by decide +kernel
theorem d_Lb_requireLine_19 : decode prog_1_method_20_code 19 = .ok (.ldc 214, 2) := by decide +kernel
theorem d_Lb_requireLine_21 : decode prog_1_method_20_code 21 = .ok (.invokespecial 180, 3) := by decide +kernel
theorem d_Lb_requireLine_24 : decode prog_1_method_20_code 24 = .ok (.athrow, 1) := by decide +kernel
theorem d_Lb_requireLine_0 : decode prog_1_method_20_code 0 = .ok (.iload_n 1, 1) := by decide +kernel
theorem d_Lb_requireLine_4 : decode prog_1_method_20_code 4 = .ok (.iload_n 1, 1) := by decide +kernel
theorem d_Lb_requireLine_5 : decode prog_1_method_20_code 5 = .ok (.aload_n 0, 1) := by decide +kernel
theorem d_Lb_requireLine_25 : decode prog_1_method_20_code 25 = .ok (.return_, 1) := by decide +kernel
theorem d_Lb_requireLine_12 : decode prog_1_method_20_code 12 = .ok (.if_icmp .lt 13, 3) := by decide +kernel
theorem d_Lb_requireLine_9 : decode prog_1_method_20_code 9 = .ok (.getfield 166, 3) := by decide +kernel
theorem d_Lb_requireLine_6 : decode prog_1_method_20_code 6 = .ok (.getfield 42, 3) := by decide +kernel
theorem d_Lb_requireLine_1 : decode prog_1_method_20_code 1 = .ok (.ifCond .lt 14, 3) := by decide +kernel
theorem d_Lb_line_14 : decode prog_1_method_15_code 14 = .ok (.new 176, 3) := by decide +kernel
theorem d_Lb_line_17 : decode prog_1_method_15_code 17 = .ok (.dup, 1) := by decide +kernel
theorem d_Lb_line_18 : decode prog_1_method_15_code 18 = .ok (.ldc 178, 2) := by decide +kernel
theorem d_Lb_line_20 : decode prog_1_method_15_code 20 = .ok (.invokespecial 180, 3) := by decide +kernel
theorem d_Lb_line_23 : decode prog_1_method_15_code 23 = .ok (.athrow, 1) := by decide +kernel
theorem d_Lb_line_0 : decode prog_1_method_15_code 0 = .ok (.aload_n 0, 1) := by decide +kernel
theorem d_Lb_line_1 : decode prog_1_method_15_code 1 = .ok (.iload_n 1, 1) := by decide +kernel
theorem d_Lb_line_5 : decode prog_1_method_15_code 5 = .ok (.iload_n 2, 1) := by decide +kernel
theorem d_Lb_line_9 : decode prog_1_method_15_code 9 = .ok (.iload_n 2, 1) := by decide +kernel
theorem d_Lb_line_24 : decode prog_1_method_15_code 24 = .ok (.aload_n 0, 1) := by decide +kernel
theorem d_Lb_line_31 : decode prog_1_method_15_code 31 = .ok (.iload_n 2, 1) := by decide +kernel
theorem d_Lb_line_33 : decode prog_1_method_15_code 33 = .ok (.iload_n 1, 1) := by decide +kernel
theorem d_Lb_line_35 : decode prog_1_method_15_code 35 = .ok (.ireturn, 1) := by decide +kernel
theorem d_Lb_line_34 : decode prog_1_method_15_code 34 = .ok (.iaload, 1) := by decide +kernel
theorem d_Lb_line_32 : decode prog_1_method_15_code 32 = .ok (.aaload, 1) := by decide +kernel
theorem d_Lb_line_28 : decode prog_1_method_15_code 28 = .ok (.getfield 181, 3) := by decide +kernel
theorem d_Lb_line_25 : decode prog_1_method_15_code 25 = .ok (.getfield 42, 3) := by decide +kernel
theorem d_Lb_line_11 : decode prog_1_method_15_code 11 = .ok (.if_icmp .lt 13, 3) := by decide +kernel
theorem d_Lb_line_10 : decode prog_1_method_15_code 10 = .ok (.iconst 5, 1) := by decide +kernel
theorem d_Lb_line_6 : decode prog_1_method_15_code 6 = .ok (.ifCond .lt 8, 3) := by decide +kernel
theorem d_Lb_line_2 : decode prog_1_method_15_code 2 = .ok (.invokevirtual 173, 3) := by decide +kernel
theorem d_Lb_total_0 : decode prog_1_method_16_code 0 = .ok (.aload_n 0, 1) := by decide +kernel
theorem d_Lb_total_1 : decode prog_1_method_16_code 1 = .ok (.iload_n 1, 1) := by decide +kernel
theorem d_Lb_total_5 : decode prog_1_method_16_code 5 = .ok (.aload_n 0, 1) := by decide +kernel
theorem d_Lb_total_12 : decode prog_1_method_16_code 12 = .ok (.iload_n 1, 1) := by decide +kernel
theorem d_Lb_total_14 : decode prog_1_method_16_code 14 = .ok (.lreturn, 1) := by decide +kernel
theorem d_Lb_total_13 : decode prog_1_method_16_code 13 = .ok (.laload, 1) := by decide +kernel
theorem d_Lb_total_9 : decode prog_1_method_16_code 9 = .ok (.getfield 185, 3) := by decide +kernel
theorem d_Lb_total_6 : decode prog_1_method_16_code 6 = .ok (.getfield 42, 3) := by decide +kernel
theorem d_Lb_total_2 : decode prog_1_method_16_code 2 = .ok (.invokevirtual 173, 3) := by decide +kernel
abbrev y_Lb_requireSize : MethodName := ⟨"LineBreaker", "requireSize", "(I)V"⟩
abbrev rm_Lb_requireSize : Room := { frames := 6, cells := 1, slots := 6, locals := 82 }
set_option maxRecDepth 100000 in
def wp_Lb_requireSize (S : ST) (p1 : Int32) (post : Prop) (px : String → Prop) : Prop := wp_Lb_isSize S p1 (fun r1 => ((¬ r1 = 0 → post) ∧ (r1 = 0 → px "java/lang/IllegalArgumentException")))
abbrev y_Lb_requireRoom : MethodName := ⟨"LineBreaker", "requireRoom", "()V"⟩
abbrev rm_Lb_requireRoom : Room := { frames := 6, cells := 1, slots := 6, locals := 82 }
set_option maxRecDepth 100000 in
def wp_Lb_requireRoom (S : ST) (post : Prop) (px : String → Prop) : Prop := (((S.2.2 73) < 400 → post) ∧ (¬ (S.2.2 73) < 400 → px "java/lang/UnsupportedOperationException"))
abbrev y_Lb_box : MethodName := ⟨"LineBreaker", "box", "(I)I"⟩
abbrev rm_Lb_box : Room := { frames := 7, cells := 2, slots := 12, locals := 102 }
set_option maxRecDepth 100000 in
def wp_Lb_box (S : ST) (p1 : Int32) (post : Int32 → (Nat → Int32) → (Nat → Int32) → (Nat → Int32) → (Nat → Int32) → (Nat → Int32) → (Nat → Int32) → (Nat → Int32) → (Nat → Int32) → (Nat → Int32) → Int32 → Int32 → Int32 → Int32 → Prop) (px : String → Prop) : Prop := wp_Lb_requireSize S p1 (wp_Lb_requireRoom S  (wp_Ou_forget S  (fun v1 v2 v3 => wp_Pa_append (sI (sI (sI S 2626 v1) 2627 v2) 2628 v3) 0 p1 (fun r14 f4 f5 f6 f7 f8 f9 f10 f11 f12 v13 => post r14 f4 f5 f6 f7 f8 f9 f10 f11 f12 v13 v1 v2 v3))) px) px
abbrev y_Lb_requireGlue : MethodName := ⟨"LineBreaker", "requireGlue", "(IIII)V"⟩
abbrev rm_Lb_requireGlue : Room := { frames := 7, cells := 4, slots := 24, locals := 102 }
set_option maxRecDepth 100000 in
def wl_Lb_requireGlue_20 (S : ST) (post : Prop) (px : String → Prop) : Prop := px "java/lang/IllegalArgumentException"
set_option maxRecDepth 100000 in
def wl_Lb_requireGlue_39 (S : ST) (post : Prop) (px : String → Prop) : Prop := px "java/lang/IllegalArgumentException"
set_option maxRecDepth 100000 in
def wp_Lb_requireGlue (S : ST) (p1 : Int32) (p2 : Int32) (p3 : Int32) (p4 : Int32) (post : Prop) (px : String → Prop) : Prop := wp_Lb_requireSize S p1 (wp_Lb_requireSize S p2 (wp_Lb_requireSize S p4 (((p2 < 0 → wl_Lb_requireGlue_20 S post px  ) ∧ (¬ p2 < 0 → ((0 ≤ p4 → ((p3 < 0 → wl_Lb_requireGlue_39 S post px  ) ∧ (¬ p3 < 0 → ((p3 ≤ 3 → post) ∧ (¬ p3 ≤ 3 → wl_Lb_requireGlue_39 S post px  ))))) ∧ (¬ 0 ≤ p4 → wl_Lb_requireGlue_20 S post px  ))))) px) px) px
abbrev y_Lb_requireNotReplaced : MethodName := ⟨"LineBreaker", "requireNotReplaced", "()V"⟩
abbrev rm_Lb_requireNotReplaced : Room := { frames := 6, cells := 1, slots := 6, locals := 82 }
set_option maxRecDepth 100000 in
def wp_Lb_requireNotReplaced (S : ST) (post : Prop) (px : String → Prop) : Prop := wp_Pa_awaitsReplaced S  (fun r1 => ((r1 = 0 → post) ∧ (¬ r1 = 0 → px "java/lang/IllegalStateException")))
abbrev y_Lb_glue : MethodName := ⟨"LineBreaker", "glue", "(IIII)I"⟩
abbrev rm_Lb_glue : Room := { frames := 8, cells := 6, slots := 36, locals := 125 }
set_option maxRecDepth 100000 in
def wp_Lb_glue (S : ST) (p1 : Int32) (p2 : Int32) (p3 : Int32) (p4 : Int32) (post : Int32 → (Nat → Int32) → (Nat → Int32) → (Nat → Int32) → (Nat → Int32) → (Nat → Int32) → (Nat → Int32) → (Nat → Int32) → (Nat → Int32) → (Nat → Int32) → Int32 → Int32 → Int32 → Int32 → Prop) (px : String → Prop) : Prop := wp_Lb_requireGlue S p1 p2 p3 p4 (wp_Lb_requireNotReplaced S  (wp_Lb_requireRoom S  (wp_Ou_forget S  (fun v1 v2 v3 => wp_Pa_appendGlue (sI (sI (sI S 2626 v1) 2627 v2) 2628 v3) p1 p2 p3 p4 (fun r14 f4 f5 f6 f7 f8 f9 f10 f11 f12 v13 => post r14 f4 f5 f6 f7 f8 f9 f10 f11 f12 v13 v1 v2 v3))) px) px) px
abbrev y_Lb_kern : MethodName := ⟨"LineBreaker", "kern", "(IZ)I"⟩
abbrev rm_Lb_kern : Room := { frames := 7, cells := 2, slots := 12, locals := 102 }
set_option maxRecDepth 100000 in
def wl_Lb_kern_28 (S : ST) (post : Int32 → (Nat → Int32) → (Nat → Int32) → (Nat → Int32) → (Nat → Int32) → (Nat → Int32) → (Nat → Int32) → (Nat → Int32) → (Nat → Int32) → (Nat → Int32) → Int32 → Int32 → Int32 → Int32 → Prop) (px : String → Prop) (i2626 : Int32) (i2627 : Int32) (i2628 : Int32) (x1 : Int32) (z1 : Int32) : Prop := wp_Pa_append (sI (sI (sI S 2626 i2626) 2627 i2627) 2628 i2628) z1 x1 (fun r11 f1 f2 f3 f4 f5 f6 f7 f8 f9 v10 => post r11 f1 f2 f3 f4 f5 f6 f7 f8 f9 v10 i2626 i2627 i2628)
set_option maxRecDepth 100000 in
def wp_Lb_kern (S : ST) (p1 : Int32) (p2 : Int32) (post : Int32 → (Nat → Int32) → (Nat → Int32) → (Nat → Int32) → (Nat → Int32) → (Nat → Int32) → (Nat → Int32) → (Nat → Int32) → (Nat → Int32) → (Nat → Int32) → Int32 → Int32 → Int32 → Int32 → Prop) (px : String → Prop) : Prop := wp_Lb_requireSize S p1 (wp_Lb_requireRoom S  (wp_Ou_forget S  (fun v1 v2 v3 => ((p2 = 0 → wl_Lb_kern_28 S post px  v1 v2 v3 p1 2) ∧ (¬ p2 = 0 → wl_Lb_kern_28 S post px  v1 v2 v3 p1 3)))) px) px
abbrev y_Lb_penalty : MethodName := ⟨"LineBreaker", "penalty", "(I)I"⟩
abbrev rm_Lb_penalty : Room := { frames := 7, cells := 2, slots := 12, locals := 102 }
set_option maxRecDepth 100000 in
def wp_Lb_penalty (S : ST) (p1 : Int32) (post : Int32 → (Nat → Int32) → (Nat → Int32) → (Nat → Int32) → (Nat → Int32) → (Nat → Int32) → (Nat → Int32) → (Nat → Int32) → (Nat → Int32) → (Nat → Int32) → Int32 → Int32 → Int32 → Int32 → Prop) (px : String → Prop) : Prop := wp_Lb_requireNotReplaced S  (wp_Lb_requireRoom S  (wp_Ou_forget S  (fun v1 v2 v3 => (∀ v4 : Int32, v4 = (if p1 < 10000 then p1 else 10000) → (∀ v5 : Int32, v5 = (if (-10000) < v4 then v4 else (-10000)) → wp_Pa_appendPenalty (sI (sI (sI S 2626 v1) 2627 v2) 2628 v3) v5 (fun r16 f6 f7 f8 f9 f10 f11 f12 f13 f14 v15 => post r16 f6 f7 f8 f9 f10 f11 f12 f13 f14 v15 v1 v2 v3))))) px) px
abbrev y_Lb_requireSizeOrNothing : MethodName := ⟨"LineBreaker", "requireSizeOrNothing", "(I)V"⟩
abbrev rm_Lb_requireSizeOrNothing : Room := { frames := 6, cells := 1, slots := 6, locals := 82 }
set_option maxRecDepth 100000 in
def wp_Lb_requireSizeOrNothing (S : ST) (p1 : Int32) (post : Prop) (px : String → Prop) : Prop := ((p1 = (-1073741824) → post) ∧ (¬ p1 = (-1073741824) → wp_Lb_isSize S p1 (fun r1 => ((¬ r1 = 0 → post) ∧ (r1 = 0 → px "java/lang/IllegalArgumentException")))))
abbrev y_Lb_hyphen : MethodName := ⟨"LineBreaker", "hyphen", "(III)I"⟩
abbrev rm_Lb_hyphen : Room := { frames := 7, cells := 4, slots := 24, locals := 102 }
set_option maxRecDepth 100000 in
def wl_Lb_hyphen_18 (S : ST) (post : Int32 → (Nat → Int32) → (Nat → Int32) → (Nat → Int32) → (Nat → Int32) → (Nat → Int32) → (Nat → Int32) → (Nat → Int32) → (Nat → Int32) → (Nat → Int32) → Int32 → Int32 → Int32 → Int32 → Prop) (px : String → Prop) : Prop := px "java/lang/IllegalArgumentException"
set_option maxRecDepth 100000 in
def wp_Lb_hyphen (S : ST) (p1 : Int32) (p2 : Int32) (p3 : Int32) (post : Int32 → (Nat → Int32) → (Nat → Int32) → (Nat → Int32) → (Nat → Int32) → (Nat → Int32) → (Nat → Int32) → (Nat → Int32) → (Nat → Int32) → (Nat → Int32) → Int32 → Int32 → Int32 → Int32 → Prop) (px : String → Prop) : Prop := wp_Lb_requireSizeOrNothing S p1 (wp_Lb_requireSizeOrNothing S p2 (((p3 < 0 → wl_Lb_hyphen_18 S post px  ) ∧ (¬ p3 < 0 → ((p3 ≤ 10 → wp_Lb_requireNotReplaced S  (wp_Lb_requireRoom S  (wp_Ou_forget S  (fun v1 v2 v3 => wp_Pa_appendHyphen (sI (sI (sI S 2626 v1) 2627 v2) 2628 v3) p1 p2 p3 (fun r14 f4 f5 f6 f7 f8 f9 f10 f11 f12 v13 => post r14 f4 f5 f6 f7 f8 f9 f10 f11 f12 v13 v1 v2 v3))) px) px) ∧ (¬ p3 ≤ 10 → wl_Lb_hyphen_18 S post px  ))))) px) px
abbrev y_Lb_set : MethodName := ⟨"LineBreaker", "set", "(II)V"⟩
abbrev rm_Lb_set : Room := { frames := 6, cells := 1, slots := 6, locals := 82 }
set_option maxRecDepth 100000 in
def wl_Lb_set_10 (S : ST) (post : (Nat → Int32) → Prop) (px : String → Prop) : Prop := px "java/lang/IllegalArgumentException"
set_option maxRecDepth 100000 in
def wl_Lb_set_38 (S : ST) (post : (Nat → Int32) → Prop) (px : String → Prop) : Prop := px "java/lang/IllegalArgumentException"
set_option maxRecDepth 100000 in
def wp_Lb_set (S : ST) (p1 : Int32) (p2 : Int32) (post : (Nat → Int32) → Prop) (px : String → Prop) : Prop := ((p1 < 0 → wl_Lb_set_10 S post px  ) ∧ (¬ p1 < 0 → ((p1 < 10 → (vp_in p1 10 ∧ ((p2 < (tb_least p1.toNatClampNeg) → wl_Lb_set_38 S post px  ) ∧ (¬ p2 < (tb_least p1.toNatClampNeg) → (vp_in p1 10 ∧ ((p2 ≤ (tb_most p1.toNatClampNeg) → (vp_in p1 10 ∧ ∀ f3 : Nat → Int32, f3 = upd (S.1 12) p1.toNatClampNeg p2 → post f3)) ∧ (¬ p2 ≤ (tb_most p1.toNatClampNeg) → wl_Lb_set_38 S post px  ))))))) ∧ (¬ p1 < 10 → wl_Lb_set_10 S post px  ))))
abbrev y_Lb_wide : MethodName := ⟨"LineBreaker", "wide", "(II)V"⟩
abbrev rm_Lb_wide : Room := { frames := 7, cells := 1, slots := 6, locals := 102 }
set_option maxRecDepth 100000 in
def wl_Lb_wide_10 (S : ST) (post : (Nat → Int32) → Prop) (px : String → Prop) : Prop := px "java/lang/IllegalArgumentException"
set_option maxRecDepth 100000 in
def wl_Lb_wide_26 (S : ST) (post : (Nat → Int32) → Prop) (px : String → Prop) : Nat → (Nat → Int32) → Int32 → Int32 → Prop
  | 0, _, _, _ => False
  | n + 1, a13, x2, x3 => ((20 ≤ x3 → post a13) ∧ (¬ 20 ≤ x3 → (vp_in x3 20 ∧ ∀ f1 : Nat → Int32, f1 = upd a13 x3.toNatClampNeg x2 → (∀ v2 : Int32, v2 = x3 + 1 → wl_Lb_wide_26 S post px n f1 x2 v2))))
set_option maxRecDepth 100000 in
def wp_Lb_wide (S : ST) (p1 : Int32) (p2 : Int32) (post : (Nat → Int32) → Prop) (px : String → Prop) : Prop := ((p1 < 0 → wl_Lb_wide_10 S post px  ) ∧ (¬ p1 < 0 → ((p1 < 20 → wp_Lb_requireSize S p2 ((∃ k9 : Nat, wl_Lb_wide_26 S post px  k9 (S.1 13) p2 p1)) px) ∧ (¬ p1 < 20 → wl_Lb_wide_10 S post px  ))))
abbrev y_Lb_around : MethodName := ⟨"LineBreaker", "around", "(IIIII)V"⟩
abbrev rm_Lb_around : Room := { frames := 8, cells := 4, slots := 24, locals := 125 }
set_option maxRecDepth 100000 in
def wl_Lb_around_9 (S : ST) (post : Int32 → Int32 → Int32 → Int32 → Int32 → Int32 → Int32 → Int32 → Int32 → Int32 → Int32 → Int32 → Prop) (px : String → Prop) : Prop := px "java/lang/IllegalArgumentException"
set_option maxRecDepth 100000 in
def wp_Lb_around (S : ST) (p1 : Int32) (p2 : Int32) (p3 : Int32) (p4 : Int32) (p5 : Int32) (post : Int32 → Int32 → Int32 → Int32 → Int32 → Int32 → Int32 → Int32 → Int32 → Int32 → Int32 → Int32 → Prop) (px : String → Prop) : Prop := ((p1 < 0 → wl_Lb_around_9 S post px  ) ∧ (¬ p1 < 0 → ((p1 ≤ 2 → wp_Lb_requireGlue S p2 p3 p4 p5 (((¬ p1 = 0 → ((¬ p1 = 1 → wp_Gl_become_16 S p2 p3 p4 p5 (fun v1 v2 v3 v4 => post (S.2.2 896) (S.2.2 897) (S.2.2 898) (S.2.2 899) (S.2.2 960) (S.2.2 961) (S.2.2 962) (S.2.2 963) v1 v2 v3 v4)) ∧ (p1 = 1 → wp_Gl_become_15 S p2 p3 p4 p5 (fun v5 v6 v7 v8 => post (S.2.2 896) (S.2.2 897) (S.2.2 898) (S.2.2 899) v5 v6 v7 v8 (S.2.2 1024) (S.2.2 1025) (S.2.2 1026) (S.2.2 1027))))) ∧ (p1 = 0 → wp_Gl_become S p2 p3 p4 p5 (fun v9 v10 v11 v12 => post v9 v10 v11 v12 (S.2.2 960) (S.2.2 961) (S.2.2 962) (S.2.2 963) (S.2.2 1024) (S.2.2 1025) (S.2.2 1026) (S.2.2 1027))))) px) ∧ (¬ p1 ≤ 2 → wl_Lb_around_9 S post px  ))))
abbrev y_Lb_breakUp : MethodName := ⟨"LineBreaker", "breakUp", "()I"⟩
abbrev rm_Lb_breakUp : Room := { frames := 6, cells := 1, slots := 6, locals := 152 }
set_option maxRecDepth 100000 in
def wl_Lb_breakUp_118 (S : ST) (post : Int32 → (Nat → Int32) → (Nat → Int32) → (Nat → Int32) → (Nat → Int32) → (Nat → Int32) → (Nat → Int32) → (Nat → Int32) → (Nat → Int32) → (Nat → Int32) → (Nat → Int32) → (Nat → Int32) → (Nat → Int32) → (Nat → Int32) → (Nat → Int32) → (Nat → Int32) → (Nat → Int32) → (Nat → Int32) → (Nat → Int32) → (Nat → Int32) → (Nat → Int32) → (Nat → Int32) → (Nat → Int32) → (Nat → Int64) → (Nat → Int64) → (Nat → Int64) → Int32 → Int32 → Int32 → Int32 → Int32 → Int32 → Int32 → Int32 → Int32 → Int32 → Int32 → Int32 → Int32 → Int32 → Int32 → Int32 → Int32 → Int32 → Prop) (px : String → Prop) (K98 : (Nat → Int32) → (Nat → Int32) → (Nat → Int32) → (Nat → Int32) → (Nat → Int32) → (Nat → Int32) → (Nat → Int32) → (Nat → Int32) → (Nat → Int32) → (Nat → Int32) → (Nat → Int32) → (Nat → Int32) → (Nat → Int32) → (Nat → Int32) → (Nat → Int32) → (Nat → Int32) → (Nat → Int32) → (Nat → Int64) → (Nat → Int64) → Int32 → Int32 → Int32 → Int32 → Int32 → Int32 → Int32 → Int32 → Int32 → Int32 → Int32 → Int32 → Int32 → Int32 → Int32 → Int32 → Int32 → Int32 → Int32 → Int32 → Prop) (a18 : (Nat → Int32)) (a19 : (Nat → Int32)) (a20 : (Nat → Int32)) (a21 : (Nat → Int32)) (a22 : (Nat → Int32)) (a23 : (Nat → Int32)) (a24 : (Nat → Int32)) (a25 : (Nat → Int32)) (a26 : (Nat → Int32)) (a27 : (Nat → Int32)) (a28 : (Nat → Int32)) (a32 : (Nat → Int32)) (a33 : (Nat → Int32)) (a34 : (Nat → Int32)) (a35 : (Nat → Int32)) (a39 : (Nat → Int32)) (a40 : (Nat → Int32)) (l36 : (Nat → Int64)) (l38 : (Nat → Int64)) (i1099 : Int32) (i1862 : Int32) (i1863 : Int32) (i1864 : Int32) (i1865 : Int32) (i1922 : Int32) (i1923 : Int32) (i1924 : Int32) (i1925 : Int32) (i1926 : Int32) (i1927 : Int32) (i1928 : Int32) (i1989 : Int32) (i2370 : Int32) (i2371 : Int32) (i2626 : Int32) (i2627 : Int32) (i2628 : Int32) (x2 : Int32) (x3 : Int32) (z1 : Int32) (z2 : Int32) : Prop := wp_Se_run (sI (sI (sI (sI (sI (sI (sI (sI (sI (sI (sI (sI (sI (sI (sI (sI (sI (sI (sL (sL (sA (sA (sA (sA (sA (sA (sA (sA (sA (sA (sA (sA (sA (sA (sA (sA (sA S 18 a18) 19 a19) 20 a20) 21 a21) 22 a22) 23 a23) 24 a24) 25 a25) 26 a26) 27 a27) 28 a28) 32 a32) 33 a33) 34 a34) 35 a35) 39 a39) 40 a40) 36 l36) 38 l38) 1099 i1099) 1862 i1862) 1863 i1863) 1864 i1864) 1865 i1865) 1922 i1922) 1923 i1923) 1924 i1924) 1925 i1925) 1926 i1926) 1927 i1927) 1928 i1928) 1989 i1989) 2370 i2370) 2371 i2371) 2626 i2626) 2627 i2627) 2628 i2628) z1 z2 (fun r23 f1 f2 f3 f4 f5 f6 f7 f8 v9 v10 v11 v12 v13 v14 v15 v16 v17 v18 v19 v20 v21 v22 => ((¬ r23 = (-2) → ((r23 = 0 → (∀ v24 : Int32, v24 = x3 + 1 → K98 a18 a19 a20 a21 a22 a23 a24 a25 a26 a27 a28 f1 f2 f3 f4 f5 f6 f7 f8 i1099 v9 v10 v11 v12 v13 v14 v15 v16 v17 v18 v19 v20 v21 v22 i2626 i2627 i2628 x2 v24)) ∧ (¬ r23 = 0 → wp_Ou_record (sI (sI (sI (sI (sI (sI (sI (sI (sI (sI (sI (sI (sI (sI (sI (sI (sI (sI (sL (sL (sA (sA (sA (sA (sA (sA (sA (sA (sA (sA (sA (sA (sA (sA (sA (sA (sA S 18 a18) 19 a19) 20 a20) 21 a21) 22 a22) 23 a23) 24 a24) 25 a25) 26 a26) 27 a27) 28 a28) 32 f1) 33 f2) 34 f3) 35 f4) 39 f5) 40 f6) 36 f7) 38 f8) 1099 i1099) 1862 v9) 1863 v10) 1864 v11) 1865 v12) 1922 v13) 1923 v14) 1924 v15) 1925 v16) 1926 v17) 1927 v18) 1928 v19) 1989 v20) 2370 v21) 2371 v22) 2626 i2626) 2627 i2627) 2628 i2628) r23 x3 (fun f25 f26 f27 f28 f29 f30 v31 v32 v33 v34 v35 v36 v37 v38 v39 => post v37 a18 a19 a20 a21 a22 a23 a24 a25 a26 a27 a28 f1 f2 f3 f4 f5 f6 f25 f26 f27 f28 f29 f7 f8 f30 i1099 v9 v10 v11 v12 v13 v31 v32 v33 v34 v35 v36 v20 v21 v22 v37 v38 v39)))) ∧ (r23 = (-2) → post (-2) a18 a19 a20 a21 a22 a23 a24 a25 a26 a27 a28 f1 f2 f3 f4 f5 f6 (S.1 43) (S.1 44) (S.1 45) (S.1 46) (S.1 47) f7 f8 (S.2.1 48) i1099 v9 v10 v11 v12 v13 v14 v15 v16 v17 v18 v19 v20 v21 v22 i2626 i2627 i2628)))
set_option maxRecDepth 100000 in
def wl_Lb_breakUp_98 (S : ST) (post : Int32 → (Nat → Int32) → (Nat → Int32) → (Nat → Int32) → (Nat → Int32) → (Nat → Int32) → (Nat → Int32) → (Nat → Int32) → (Nat → Int32) → (Nat → Int32) → (Nat → Int32) → (Nat → Int32) → (Nat → Int32) → (Nat → Int32) → (Nat → Int32) → (Nat → Int32) → (Nat → Int32) → (Nat → Int32) → (Nat → Int32) → (Nat → Int32) → (Nat → Int32) → (Nat → Int32) → (Nat → Int32) → (Nat → Int64) → (Nat → Int64) → (Nat → Int64) → Int32 → Int32 → Int32 → Int32 → Int32 → Int32 → Int32 → Int32 → Int32 → Int32 → Int32 → Int32 → Int32 → Int32 → Int32 → Int32 → Int32 → Int32 → Prop) (px : String → Prop) : Nat → (Nat → Int32) → (Nat → Int32) → (Nat → Int32) → (Nat → Int32) → (Nat → Int32) → (Nat → Int32) → (Nat → Int32) → (Nat → Int32) → (Nat → Int32) → (Nat → Int32) → (Nat → Int32) → (Nat → Int32) → (Nat → Int32) → (Nat → Int32) → (Nat → Int32) → (Nat → Int32) → (Nat → Int32) → (Nat → Int64) → (Nat → Int64) → Int32 → Int32 → Int32 → Int32 → Int32 → Int32 → Int32 → Int32 → Int32 → Int32 → Int32 → Int32 → Int32 → Int32 → Int32 → Int32 → Int32 → Int32 → Int32 → Int32 → Prop
  | 0, _, _, _, _, _, _, _, _, _, _, _, _, _, _, _, _, _, _, _, _, _, _, _, _, _, _, _, _, _, _, _, _, _, _, _, _, _, _, _ => False
  | n + 1, a18, a19, a20, a21, a22, a23, a24, a25, a26, a27, a28, a32, a33, a34, a35, a39, a40, l36, l38, i1099, i1862, i1863, i1864, i1865, i1922, i1923, i1924, i1925, i1926, i1927, i1928, i1989, i2370, i2371, i2626, i2627, i2628, x2, x3 => ((x2 < x3 → post 0 a18 a19 a20 a21 a22 a23 a24 a25 a26 a27 a28 a32 a33 a34 a35 a39 a40 (S.1 43) (S.1 44) (S.1 45) (S.1 46) (S.1 47) l36 l38 (S.2.1 48) i1099 i1862 i1863 i1864 i1865 i1922 i1923 i1924 i1925 i1926 i1927 i1928 i1989 i2370 i2371 i2626 i2627 i2628) ∧ (¬ x2 < x3 → ((¬ x3 = x2 → wl_Lb_breakUp_118 S post px (fun a18 a19 a20 a21 a22 a23 a24 a25 a26 a27 a28 a32 a33 a34 a35 a39 a40 l36 l38 i1099 i1862 i1863 i1864 i1865 i1922 i1923 i1924 i1925 i1926 i1927 i1928 i1989 i2370 i2371 i2626 i2627 i2628 x2 x3 => wl_Lb_breakUp_98 S post px n a18 a19 a20 a21 a22 a23 a24 a25 a26 a27 a28 a32 a33 a34 a35 a39 a40 l36 l38 i1099 i1862 i1863 i1864 i1865 i1922 i1923 i1924 i1925 i1926 i1927 i1928 i1989 i2370 i2371 i2626 i2627 i2628 x2 x3) a18 a19 a20 a21 a22 a23 a24 a25 a26 a27 a28 a32 a33 a34 a35 a39 a40 l36 l38 i1099 i1862 i1863 i1864 i1865 i1922 i1923 i1924 i1925 i1926 i1927 i1928 i1989 i2370 i2371 i2626 i2627 i2628 x2 x3 x3 0) ∧ (x3 = x2 → wl_Lb_breakUp_118 S post px (fun a18 a19 a20 a21 a22 a23 a24 a25 a26 a27 a28 a32 a33 a34 a35 a39 a40 l36 l38 i1099 i1862 i1863 i1864 i1865 i1922 i1923 i1924 i1925 i1926 i1927 i1928 i1989 i2370 i2371 i2626 i2627 i2628 x2 x3 => wl_Lb_breakUp_98 S post px n a18 a19 a20 a21 a22 a23 a24 a25 a26 a27 a28 a32 a33 a34 a35 a39 a40 l36 l38 i1099 i1862 i1863 i1864 i1865 i1922 i1923 i1924 i1925 i1926 i1927 i1928 i1989 i2370 i2371 i2626 i2627 i2628 x2 x3) a18 a19 a20 a21 a22 a23 a24 a25 a26 a27 a28 a32 a33 a34 a35 a39 a40 l36 l38 i1099 i1862 i1863 i1864 i1865 i1922 i1923 i1924 i1925 i1926 i1927 i1928 i1989 i2370 i2371 i2626 i2627 i2628 x2 x3 x3 1))))
set_option maxRecDepth 100000 in
def wl_Lb_breakUp_76 (S : ST) (post : Int32 → (Nat → Int32) → (Nat → Int32) → (Nat → Int32) → (Nat → Int32) → (Nat → Int32) → (Nat → Int32) → (Nat → Int32) → (Nat → Int32) → (Nat → Int32) → (Nat → Int32) → (Nat → Int32) → (Nat → Int32) → (Nat → Int32) → (Nat → Int32) → (Nat → Int32) → (Nat → Int32) → (Nat → Int32) → (Nat → Int32) → (Nat → Int32) → (Nat → Int32) → (Nat → Int32) → (Nat → Int32) → (Nat → Int64) → (Nat → Int64) → (Nat → Int64) → Int32 → Int32 → Int32 → Int32 → Int32 → Int32 → Int32 → Int32 → Int32 → Int32 → Int32 → Int32 → Int32 → Int32 → Int32 → Int32 → Int32 → Int32 → Prop) (px : String → Prop) (a18 : (Nat → Int32)) (a19 : (Nat → Int32)) (a20 : (Nat → Int32)) (a21 : (Nat → Int32)) (a22 : (Nat → Int32)) (a23 : (Nat → Int32)) (a24 : (Nat → Int32)) (a25 : (Nat → Int32)) (a26 : (Nat → Int32)) (a27 : (Nat → Int32)) (a28 : (Nat → Int32)) (i1099 : Int32) (i2626 : Int32) (i2627 : Int32) (i2628 : Int32) (z0 : Int32) : Prop := (vp_in 8 10 ∧ ((((S.1 12) (8 : Int32).toNatClampNeg) ≤ 0 → (∃ k9 : Nat, wl_Lb_breakUp_98 S post px  k9 a18 a19 a20 a21 a22 a23 a24 a25 a26 a27 a28 (S.1 32) (S.1 33) (S.1 34) (S.1 35) (S.1 39) (S.1 40) (S.2.1 36) (S.2.1 38) i1099 (S.2.2 1862) (S.2.2 1863) (S.2.2 1864) (S.2.2 1865) (S.2.2 1922) (S.2.2 1923) (S.2.2 1924) (S.2.2 1925) (S.2.2 1926) (S.2.2 1927) (S.2.2 1928) (S.2.2 1989) (S.2.2 2370) (S.2.2 2371) i2626 i2627 i2628 2 z0)) ∧ (¬ ((S.1 12) (8 : Int32).toNatClampNeg) ≤ 0 → (∃ k9 : Nat, wl_Lb_breakUp_98 S post px  k9 a18 a19 a20 a21 a22 a23 a24 a25 a26 a27 a28 (S.1 32) (S.1 33) (S.1 34) (S.1 35) (S.1 39) (S.1 40) (S.2.1 36) (S.2.1 38) i1099 (S.2.2 1862) (S.2.2 1863) (S.2.2 1864) (S.2.2 1865) (S.2.2 1922) (S.2.2 1923) (S.2.2 1924) (S.2.2 1925) (S.2.2 1926) (S.2.2 1927) (S.2.2 1928) (S.2.2 1989) (S.2.2 2370) (S.2.2 2371) i2626 i2627 i2628 3 z0))))
set_option maxRecDepth 100000 in
def wp_Lb_breakUp (S : ST) (post : Int32 → (Nat → Int32) → (Nat → Int32) → (Nat → Int32) → (Nat → Int32) → (Nat → Int32) → (Nat → Int32) → (Nat → Int32) → (Nat → Int32) → (Nat → Int32) → (Nat → Int32) → (Nat → Int32) → (Nat → Int32) → (Nat → Int32) → (Nat → Int32) → (Nat → Int32) → (Nat → Int32) → (Nat → Int32) → (Nat → Int32) → (Nat → Int32) → (Nat → Int32) → (Nat → Int32) → (Nat → Int32) → (Nat → Int64) → (Nat → Int64) → (Nat → Int64) → Int32 → Int32 → Int32 → Int32 → Int32 → Int32 → Int32 → Int32 → Int32 → Int32 → Int32 → Int32 → Int32 → Int32 → Int32 → Int32 → Int32 → Int32 → Prop) (px : String → Prop) : Prop := wp_Pa_awaitsReplaced S  (fun r1 => ((r1 = 0 → wp_Lb_sumsAreSizes S  (fun r2 => ((¬ r2 = 0 → wp_Ou_forget S  (fun v3 v4 v5 => wp_Ga_prepare (sI (sI (sI S 2626 v3) 2627 v4) 2628 v5)  (fun f6 f7 f8 f9 f10 f11 f12 f13 f14 f15 f16 v17 => (vp_in 0 10 ∧ ((0 ≤ ((S.1 12) (0 : Int32).toNatClampNeg) → wl_Lb_breakUp_76 S post px  f6 f7 f8 f9 f10 f11 f12 f13 f14 f15 f16 v17 v3 v4 v5 1) ∧ (¬ 0 ≤ ((S.1 12) (0 : Int32).toNatClampNeg) → wl_Lb_breakUp_76 S post px  f6 f7 f8 f9 f10 f11 f12 f13 f14 f15 f16 v17 v3 v4 v5 2)))))) ∧ (r2 = 0 → px "java/lang/UnsupportedOperationException")))) ∧ (¬ r1 = 0 → px "java/lang/IllegalStateException")))
abbrev y_Lb_requireLine : MethodName := ⟨"LineBreaker", "requireLine", "(I)V"⟩
abbrev rm_Lb_requireLine : Room := { frames := 6, cells := 1, slots := 6, locals := 82 }
set_option maxRecDepth 100000 in
def wl_Lb_requireLine_15 (S : ST) (post : Prop) (px : String → Prop) : Prop := px "java/lang/IndexOutOfBoundsException"
set_option maxRecDepth 100000 in
def wp_Lb_requireLine (S : ST) (p1 : Int32) (post : Prop) (px : String → Prop) : Prop := ((p1 < 0 → wl_Lb_requireLine_15 S post px  ) ∧ (¬ p1 < 0 → ((p1 < (S.2.2 2626) → post) ∧ (¬ p1 < (S.2.2 2626) → wl_Lb_requireLine_15 S post px  ))))
abbrev y_Lb_line : MethodName := ⟨"LineBreaker", "line", "(II)I"⟩
abbrev rm_Lb_line : Room := { frames := 7, cells := 2, slots := 12, locals := 103 }
set_option maxRecDepth 100000 in
def wl_Lb_line_14 (S : ST) (post : Int32 → Prop) (px : String → Prop) : Prop := px "java/lang/IndexOutOfBoundsException"
set_option maxRecDepth 100000 in
def wp_Lb_line (S : ST) (p1 : Int32) (p2 : Int32) (post : Int32 → Prop) (px : String → Prop) : Prop := wp_Lb_requireLine S p1 (((p2 < 0 → wl_Lb_line_14 S post px  ) ∧ (¬ p2 < 0 → ((p2 < 5 → (vp_in p2 5 ∧ (p2 = 0 → (vp_in p1 401 ∧ post ((S.1 43) p1.toNatClampNeg))) ∧ (p2 = 1 → (vp_in p1 401 ∧ post ((S.1 44) p1.toNatClampNeg))) ∧ (p2 = 2 → (vp_in p1 401 ∧ post ((S.1 45) p1.toNatClampNeg))) ∧ (p2 = 3 → (vp_in p1 401 ∧ post ((S.1 46) p1.toNatClampNeg))) ∧ (p2 = 4 → (vp_in p1 401 ∧ post ((S.1 47) p1.toNatClampNeg))))) ∧ (¬ p2 < 5 → wl_Lb_line_14 S post px  ))))) px
abbrev y_Lb_total : MethodName := ⟨"LineBreaker", "total", "(I)J"⟩
abbrev rm_Lb_total : Room := { frames := 7, cells := 1, slots := 6, locals := 103 }
set_option maxRecDepth 100000 in
def wp_Lb_total (S : ST) (p1 : Int32) (post : Int64 → Prop) (px : String → Prop) : Prop := wp_Lb_requireLine S p1 ((vp_in p1 401 ∧ post ((S.2.1 48) p1.toNatClampNeg))) px
section
variable {p : Program} {l : Launch} {e : Env} {s : State} {m : MethodId} {args : Array Value} {below : List Frame} {meth : Method} {c : Code} {n0 : Nat} {G : va_G} {K : KT} {ad : Nat → Nat} {X : va_W}
set_option maxHeartbeats 4000000 in
set_option maxRecDepth 100000 in
theorem c_Lb_requireSize (l : Launch) (htr : l.stackTraces = false) (n0 : Nat) (G : va_G) (K : KT) (ad : Nat → Nat) (X : va_W) (S : ST) (p1 : Int32) (post : Prop) (px : String → Prop) (hw : wp_Lb_requireSize S p1 post px) : tmet l y_Lb_requireSize (Cond.code y_Lb_requireSize prog_1_method_21_code 1 none :: gw) rm_Lb_requireSize (va_Pc [.int p1] (wb n0 G K (wC K ad S ++ X))) (rq_v post) px 1 6 (fun _ => False) := by
  refine kt_start (own := "LineBreaker") (by decide +kernel) rfl ?_
  intro p e s m below meth c C hr hne w
  have hx := C.1
  have hb := C.2.1
  have hts := C.2.2.2.2.1
  have hl := lv_entry ([.int p1]) (n := 1) (Nat.le_of_ble_eq_true rfl)
  rw [lg_entry_eq]
  generalize (lg_sl ([.int p1]) ++ List.replicate (1 - (lg_sl ([.int p1])).length) Slot.unset).toArray = ls at hl ⊢
  have hl : lv_has ls 1 [(0, .int p1)] := hl
  unfold wp_Lb_requireSize at hw
  refine lv_iload_n hx hb d_Lb_requireSize_0 rfl (lv_at hl 0 rfl) ?_
  refine kd_i (kr_S (y := y_Lb_isSize) (As := [.int p1]) (n := 1) C w (c_Lb_isSize l n0 G K ad X S p1 _ hw) (gw_S kw_404 kw_405 kw_1 kw_406) (by decide +kernel) rfl rfl ⟨Nat.le_of_ble_eq_true rfl, Nat.le_of_ble_eq_true rfl⟩ rfl hl.1 rfl (Nat.le_of_ble_eq_true rfl) d_Lb_requireSize_1 ⟨Nat.le_of_ble_eq_true rfl, Nat.le_of_ble_eq_true rfl⟩) (fun r1 hw => ?_)
  refine lv_if_ne (tgt := 17) hx hb d_Lb_requireSize_4 (by decide) (fun hc => ?_) (fun hc => ?_)
  · have hw := hw.1 hc
    refine W.widen (k := 1) (n := 6) (by decide) (by decide) ?_
    refine tx_ret ?_
    exact kf_v C hr d_Lb_requireSize_17 hw
  · have hw := hw.2 hc
    obtain ⟨sa, hstr⟩ := fx_str (i := 451) (own := "LineBreaker") (k := 220) (text := "that is no size") C.2.2.2.2.2.2.2.2 (by decide +kernel)
    exact tx_throw (names := ["java/lang/RuntimeException", "java/lang/Exception"]) (text := "that is no size") C w hne htr (by decide +kernel) (by decide +kernel) (tw_90 hts C.2.2.2.2.2.2.2.2) kw_409 kw_410 kw_15 hstr hl.1 d_Lb_requireSize_7 d_Lb_requireSize_10 d_Lb_requireSize_11 d_Lb_requireSize_13 d_Lb_requireSize_16 (by decide) (Nat.le_of_ble_eq_true rfl) (by decide) (by decide) hw (by decide) (by decide)
set_option maxHeartbeats 4000000 in
set_option maxRecDepth 100000 in
theorem c_Lb_requireRoom (l : Launch) (htr : l.stackTraces = false) (n0 : Nat) (G : va_G) (K : KT) (ad : Nat → Nat) (X : va_W) (S : ST) (post : Prop) (px : String → Prop) (hw : wp_Lb_requireRoom S  post px) : tmet l y_Lb_requireRoom (Cond.code y_Lb_requireRoom prog_1_method_18_code 1 none :: gw) rm_Lb_requireRoom (va_Pc [.ref (ad 0)] (wb n0 G K (wC K ad S ++ X))) (rq_v post) px 1 6 (fun _ => False) := by
  refine kt_start (own := "LineBreaker") (by decide +kernel) rfl ?_
  intro p e s m below meth c C hr hne w
  have hx := C.1
  have hb := C.2.1
  have hts := C.2.2.2.2.1
  have hl := lv_entry ([.ref (ad 0)]) (n := 1) (Nat.le_of_ble_eq_true rfl)
  rw [lg_entry_eq]
  generalize (lg_sl ([.ref (ad 0)]) ++ List.replicate (1 - (lg_sl ([.ref (ad 0)])).length) Slot.unset).toArray = ls at hl ⊢
  have hl : lv_has ls 1 [(0, .ref (ad 0))] := hl
  unfold wp_Lb_requireRoom at hw
  refine lv_aload_n hx hb d_Lb_requireRoom_0 rfl (lv_at hl 0 rfl) ?_
  refine kg (C1 := R_Lb) (T := F_Lb) (N := 5) (ci := 9) (ref := "LineBreaker") (v := .ref (ad 1)) C w 0 0 iw_Lb rfl rfl (by decide) kw_356 rfl rfl d_Lb_requireRoom_1 ?_
  refine kg (C1 := R_Pa) (T := F_Pa) (N := 10) (ci := 6) (ref := "LineBreaker$Paragraph") (v := .int (S.2.2 73)) C w 1 9 iw_Pa rfl rfl (by decide) kw_54 rfl rfl d_Lb_requireRoom_4 ?_
  refine lv_sipush (v := 400) hx hb d_Lb_requireRoom_7 (by decide) ?_
  refine lv_icmp_lt (tgt := 23) hx hb d_Lb_requireRoom_10 (by decide) (fun hc => ?_) (fun hc => ?_)
  · have hw := hw.1 hc
    refine W.widen (k := 1) (n := 6) (by decide) (by decide) ?_
    refine tx_ret ?_
    exact kf_v C hr d_Lb_requireRoom_23 hw
  · have hw := hw.2 hc
    obtain ⟨sa, hstr⟩ := fx_str (i := 491) (own := "LineBreaker") (k := 210) (text := "the paragraph has 400 items") C.2.2.2.2.2.2.2.2 (by decide +kernel)
    exact tx_throw (names := ["java/lang/RuntimeException", "java/lang/Exception"]) (text := "the paragraph has 400 items") C w hne htr (by decide +kernel) (by decide +kernel) (tw_153 hts C.2.2.2.2.2.2.2.2) kw_482 kw_483 kw_16 hstr hl.1 d_Lb_requireRoom_13 d_Lb_requireRoom_16 d_Lb_requireRoom_17 d_Lb_requireRoom_19 d_Lb_requireRoom_22 (by decide) (Nat.le_of_ble_eq_true rfl) (by decide) (by decide) hw (by decide) (by decide)
set_option maxHeartbeats 4000000 in
set_option maxRecDepth 100000 in
theorem c_Lb_box (l : Launch) (htr : l.stackTraces = false) (n0 : Nat) (G : va_G) (K : KT) (ad : Nat → Nat) (X : va_W) (S : ST) (p1 : Int32) (post : Int32 → (Nat → Int32) → (Nat → Int32) → (Nat → Int32) → (Nat → Int32) → (Nat → Int32) → (Nat → Int32) → (Nat → Int32) → (Nat → Int32) → (Nat → Int32) → Int32 → Int32 → Int32 → Int32 → Prop) (px : String → Prop) (hw : wp_Lb_box S p1 post px) : tmet l y_Lb_box (Cond.code y_Lb_box prog_1_method_2_code 2 (some .int) :: gw) rm_Lb_box (va_Pc [.ref (ad 0), .int p1] (wb n0 G K (wC K ad S ++ X))) (va_Qi (fun r (u : (Nat → Int32) × (Nat → Int32) × (Nat → Int32) × (Nat → Int32) × (Nat → Int32) × (Nat → Int32) × (Nat → Int32) × (Nat → Int32) × (Nat → Int32) × Int32 × Int32 × Int32 × Int32) => post r u.1 u.2.1 u.2.2.1 u.2.2.2.1 u.2.2.2.2.1 u.2.2.2.2.2.1 u.2.2.2.2.2.2.1 u.2.2.2.2.2.2.2.1 u.2.2.2.2.2.2.2.2.1 u.2.2.2.2.2.2.2.2.2.1 u.2.2.2.2.2.2.2.2.2.2.1 u.2.2.2.2.2.2.2.2.2.2.2.1 u.2.2.2.2.2.2.2.2.2.2.2.2) (fun (u : (Nat → Int32) × (Nat → Int32) × (Nat → Int32) × (Nat → Int32) × (Nat → Int32) × (Nat → Int32) × (Nat → Int32) × (Nat → Int32) × (Nat → Int32) × Int32 × Int32 × Int32 × Int32) t => we n0 G (wC K ad (sI (sI (sI (sI (sA (sA (sA (sA (sA (sA (sA (sA (sA S 2 u.1) 3 u.2.1) 4 u.2.2.1) 5 u.2.2.2.1) 6 u.2.2.2.2.1) 7 u.2.2.2.2.2.1) 8 u.2.2.2.2.2.2.1) 9 u.2.2.2.2.2.2.2.1) 10 u.2.2.2.2.2.2.2.2.1) 73 u.2.2.2.2.2.2.2.2.2.1) 2626 u.2.2.2.2.2.2.2.2.2.2.1) 2627 u.2.2.2.2.2.2.2.2.2.2.2.1) 2628 u.2.2.2.2.2.2.2.2.2.2.2.2) ++ X) t) (al n0)) px 2 12 (al n0) := by
  refine kt_start (own := "LineBreaker") (by decide +kernel) rfl ?_
  intro p e s m below meth c C hr hne w
  have hx := C.1
  have hb := C.2.1
  have hts := C.2.2.2.2.1
  have hl := lv_entry ([.ref (ad 0), .int p1]) (n := 2) (Nat.le_of_ble_eq_true rfl)
  rw [lg_entry_eq]
  generalize (lg_sl ([.ref (ad 0), .int p1]) ++ List.replicate (2 - (lg_sl ([.ref (ad 0), .int p1])).length) Slot.unset).toArray = ls at hl ⊢
  have hl : lv_has ls 2 [(0, .ref (ad 0)), (1, .int p1)] := hl
  unfold wp_Lb_box at hw
  refine lv_iload_n hx hb d_Lb_box_0 rfl (lv_at hl 1 rfl) ?_
  refine td_v (tr_S (y := y_Lb_requireSize) (As := [.int p1]) (n := 1) C w (c_Lb_requireSize l htr n0 G K ad X S p1 _ _ hw) kw_401 kw_402 kw_1 kw_403 (by decide +kernel) rfl rfl ⟨Nat.le_of_ble_eq_true rfl, Nat.le_of_ble_eq_true rfl⟩ rfl hl.1 rfl (Nat.le_of_ble_eq_true rfl) d_Lb_box_1 ⟨Nat.le_of_ble_eq_true rfl, Nat.le_of_ble_eq_true rfl⟩) (tx_pass C hne (by decide) (by decide) rfl) (fun hw => ?_)
  refine lv_aload_n hx hb d_Lb_box_4 rfl (lv_at hl 0 rfl) ?_
  refine td_v (tr_V (y := y_Lb_requireRoom) (C1 := R_Lb) (Tf := F_Lb) (N := 5) (ci := 9) (q0 := 0) (As := []) (n := 0) C w (c_Lb_requireRoom l htr n0 G K ad X S  _ _ hw) kw_478 kw_480 kp_1 kw_1 kw_481 (by decide +kernel) rfl rfl ⟨Nat.le_of_ble_eq_true rfl, Nat.le_of_ble_eq_true rfl⟩ rfl rfl rfl hl.1 rfl (Nat.le_of_ble_eq_true rfl) d_Lb_box_5 ⟨Nat.le_of_ble_eq_true rfl, Nat.le_of_ble_eq_true rfl⟩) (tx_pass C hne (by decide) (by decide) rfl) (fun hw => ?_)
  refine lv_aload_n hx hb d_Lb_box_8 rfl (lv_at hl 0 rfl) ?_
  refine kg (C1 := R_Lb) (T := F_Lb) (N := 5) (ci := 9) (ref := "LineBreaker") (v := .ref (ad 41)) C w 0 4 iw_Lb rfl rfl (by decide) kw_360 rfl rfl d_Lb_box_9 ?_
  refine kc_v (st := fun (u : Int32 × Int32 × Int32) => wC K ad (sI (sI (sI S 2626 u.1) 2627 u.2.1) 2628 u.2.2) ++ X) w (kr_V (y := y_Ou_forget) (C1 := R_Ou) (T := F_Ou) (N := 5) (ci := 5) (q0 := 41) (As := []) (n := 0) C w (c_Ou_forget l n0 G K ad X S  _ hw) (gw_V kw_376 kw_377 kw_378 kw_10 kw_379) (by decide +kernel) rfl rfl ⟨Nat.le_of_ble_eq_true rfl, Nat.le_of_ble_eq_true rfl⟩ rfl rfl rfl hl.1 rfl (Nat.le_of_ble_eq_true rfl) d_Lb_box_12 ⟨Nat.le_of_ble_eq_true rfl, Nat.le_of_ble_eq_true rfl⟩) (fun u H locs hw w => ?_)
  obtain ⟨v1, v2, v3⟩ := u
  dsimp only at hw
  have w : wn n0 G (wC K ad (sI (sI (sI S 2626 v1) 2627 v2) 2628 v3) ++ X) s H locs := w
  refine lv_aload_n hx hb d_Lb_box_15 rfl (lv_at hl 0 rfl) ?_
  refine kg (C1 := R_Lb) (T := F_Lb) (N := 5) (ci := 9) (ref := "LineBreaker") (v := .ref (ad 1)) C w 0 0 iw_Lb rfl rfl (by decide) kw_356 rfl rfl d_Lb_box_16 ?_
  refine lv_iconst (v := 0) hx hb d_Lb_box_19 (by decide) ?_
  refine lv_iload_n hx hb d_Lb_box_20 rfl (lv_at hl 1 rfl) ?_
  refine kc_i (st := fun (u : (Nat → Int32) × (Nat → Int32) × (Nat → Int32) × (Nat → Int32) × (Nat → Int32) × (Nat → Int32) × (Nat → Int32) × (Nat → Int32) × (Nat → Int32) × Int32) => wC K ad (sI (sA (sA (sA (sA (sA (sA (sA (sA (sA (sI (sI (sI S 2626 v1) 2627 v2) 2628 v3) 2 u.1) 3 u.2.1) 4 u.2.2.1) 5 u.2.2.2.1) 6 u.2.2.2.2.1) 7 u.2.2.2.2.2.1) 8 u.2.2.2.2.2.2.1) 9 u.2.2.2.2.2.2.2.1) 10 u.2.2.2.2.2.2.2.2.1) 73 u.2.2.2.2.2.2.2.2.2) ++ X) w (kr_V (y := y_Pa_append) (C1 := R_Pa) (T := F_Pa) (N := 10) (ci := 6) (q0 := 1) (As := [.int 0, .int p1]) (n := 2) C w (c_Pa_append l n0 G K ad X (sI (sI (sI S 2626 v1) 2627 v2) 2628 v3) 0 p1 _ hw) (gw_V kw_498 kw_499 kw_500 kw_2 kw_501) (by decide +kernel) rfl rfl ⟨Nat.le_of_ble_eq_true rfl, Nat.le_of_ble_eq_true rfl⟩ rfl rfl rfl hl.1 rfl (Nat.le_of_ble_eq_true rfl) d_Lb_box_21 ⟨Nat.le_of_ble_eq_true rfl, Nat.le_of_ble_eq_true rfl⟩) (fun r14 u H locs hw w => ?_)
  obtain ⟨f4, f5, f6, f7, f8, f9, f10, f11, f12, v13⟩ := u
  dsimp only at hw
  have w : wn n0 G (wC K ad (sI (sI (sI (sI (sA (sA (sA (sA (sA (sA (sA (sA (sA S 2 f4) 3 f5) 4 f6) 5 f7) 6 f8) 7 f9) 8 f10) 9 f11) 10 f12) 73 v13) 2626 v1) 2627 v2) 2628 v3) ++ X) s H locs := w
  refine W.widen (k := 2) (n := 12) (by decide) (by decide) ?_
  refine tx_ret ?_
  exact ke_i (post := (fun r (u : (Nat → Int32) × (Nat → Int32) × (Nat → Int32) × (Nat → Int32) × (Nat → Int32) × (Nat → Int32) × (Nat → Int32) × (Nat → Int32) × (Nat → Int32) × Int32 × Int32 × Int32 × Int32) => post r u.1 u.2.1 u.2.2.1 u.2.2.2.1 u.2.2.2.2.1 u.2.2.2.2.2.1 u.2.2.2.2.2.2.1 u.2.2.2.2.2.2.2.1 u.2.2.2.2.2.2.2.2.1 u.2.2.2.2.2.2.2.2.2.1 u.2.2.2.2.2.2.2.2.2.2.1 u.2.2.2.2.2.2.2.2.2.2.2.1 u.2.2.2.2.2.2.2.2.2.2.2.2)) (st := (fun (u : (Nat → Int32) × (Nat → Int32) × (Nat → Int32) × (Nat → Int32) × (Nat → Int32) × (Nat → Int32) × (Nat → Int32) × (Nat → Int32) × (Nat → Int32) × Int32 × Int32 × Int32 × Int32) => wC K ad (sI (sI (sI (sI (sA (sA (sA (sA (sA (sA (sA (sA (sA S 2 u.1) 3 u.2.1) 4 u.2.2.1) 5 u.2.2.2.1) 6 u.2.2.2.2.1) 7 u.2.2.2.2.2.1) 8 u.2.2.2.2.2.2.1) 9 u.2.2.2.2.2.2.2.1) 10 u.2.2.2.2.2.2.2.2.1) 73 u.2.2.2.2.2.2.2.2.2.1) 2626 u.2.2.2.2.2.2.2.2.2.2.1) 2627 u.2.2.2.2.2.2.2.2.2.2.2.1) 2628 u.2.2.2.2.2.2.2.2.2.2.2.2) ++ X)) (u := (f4, f5, f6, f7, f8, f9, f10, f11, f12, v13, v1, v2, v3)) C hr d_Lb_box_24 (wn_eq w rfl) hw
set_option maxHeartbeats 4000000 in
set_option maxRecDepth 100000 in
theorem w_Lb_requireGlue_20 {S : ST} {post : Prop} {px : String → Prop} (C : cx p s m args meth c prog_1_method_23_code 4 "LineBreaker" n0 G K) (hr : meth.sig.returnType = none) (htr : l.stackTraces = false) (hne : c.exceptionTable.toList = []) : wl_Lb_requireGlue_20 S post px  → ∀ (ls : Array Slot), wn n0 G (wC K ad S ++ X) s s.heap [] → lv_has ls 4 [] → W p l e rm_Lb_requireGlue s m args below meth c s.heap [] 3 18 (tmq below (rq_v post) px args s 4 24 (fun _ => False)) (F0 m 20 ls []) := by
  have hx := C.1
  have hb := C.2.1
  have hts := C.2.2.2.2.1
  intro  hw ls w hl
  unfold wl_Lb_requireGlue_20 at hw
  obtain ⟨sa, hstr⟩ := fx_str (i := 514) (own := "LineBreaker") (k := 225) (text := "stretch and shrink are not below 0") C.2.2.2.2.2.2.2.2 (by decide +kernel)
  exact tx_throw (names := ["java/lang/RuntimeException", "java/lang/Exception"]) (text := "stretch and shrink are not below 0") C w hne htr (by decide +kernel) (by decide +kernel) (tw_90 hts C.2.2.2.2.2.2.2.2) kw_409 kw_410 kw_15 hstr hl.1 d_Lb_requireGlue_20 d_Lb_requireGlue_23 d_Lb_requireGlue_24 d_Lb_requireGlue_26 d_Lb_requireGlue_29 (by decide) (Nat.le_of_ble_eq_true rfl) (by decide) (by decide) hw (by decide) (by decide)
set_option maxHeartbeats 4000000 in
set_option maxRecDepth 100000 in
theorem w_Lb_requireGlue_39 {S : ST} {post : Prop} {px : String → Prop} (C : cx p s m args meth c prog_1_method_23_code 4 "LineBreaker" n0 G K) (hr : meth.sig.returnType = none) (htr : l.stackTraces = false) (hne : c.exceptionTable.toList = []) : wl_Lb_requireGlue_39 S post px  → ∀ (ls : Array Slot), wn n0 G (wC K ad S ++ X) s s.heap [] → lv_has ls 4 [] → W p l e rm_Lb_requireGlue s m args below meth c s.heap [] 3 18 (tmq below (rq_v post) px args s 4 24 (fun _ => False)) (F0 m 39 ls []) := by
  have hx := C.1
  have hb := C.2.1
  have hts := C.2.2.2.2.1
  intro  hw ls w hl
  unfold wl_Lb_requireGlue_39 at hw
  obtain ⟨sa, hstr⟩ := fx_str (i := 515) (own := "LineBreaker") (k := 227) (text := "an order is 0 to 3") C.2.2.2.2.2.2.2.2 (by decide +kernel)
  exact tx_throw (names := ["java/lang/RuntimeException", "java/lang/Exception"]) (text := "an order is 0 to 3") C w hne htr (by decide +kernel) (by decide +kernel) (tw_90 hts C.2.2.2.2.2.2.2.2) kw_409 kw_410 kw_15 hstr hl.1 d_Lb_requireGlue_39 d_Lb_requireGlue_42 d_Lb_requireGlue_43 d_Lb_requireGlue_45 d_Lb_requireGlue_48 (by decide) (Nat.le_of_ble_eq_true rfl) (by decide) (by decide) hw (by decide) (by decide)
set_option maxHeartbeats 4000000 in
set_option maxRecDepth 100000 in
theorem c_Lb_requireGlue (l : Launch) (htr : l.stackTraces = false) (n0 : Nat) (G : va_G) (K : KT) (ad : Nat → Nat) (X : va_W) (S : ST) (p1 : Int32) (p2 : Int32) (p3 : Int32) (p4 : Int32) (post : Prop) (px : String → Prop) (hw : wp_Lb_requireGlue S p1 p2 p3 p4 post px) : tmet l y_Lb_requireGlue (Cond.code y_Lb_requireGlue prog_1_method_23_code 4 none :: gw) rm_Lb_requireGlue (va_Pc [.int p1, .int p2, .int p3, .int p4] (wb n0 G K (wC K ad S ++ X))) (rq_v post) px 4 24 (fun _ => False) := by
  refine kt_start (own := "LineBreaker") (by decide +kernel) rfl ?_
  intro p e s m below meth c C hr hne w
  have hx := C.1
  have hb := C.2.1
  have hts := C.2.2.2.2.1
  have hl := lv_entry ([.int p1, .int p2, .int p3, .int p4]) (n := 4) (Nat.le_of_ble_eq_true rfl)
  rw [lg_entry_eq]
  generalize (lg_sl ([.int p1, .int p2, .int p3, .int p4]) ++ List.replicate (4 - (lg_sl ([.int p1, .int p2, .int p3, .int p4])).length) Slot.unset).toArray = ls at hl ⊢
  have hl : lv_has ls 4 [(0, .int p1), (1, .int p2), (2, .int p3), (3, .int p4)] := hl
  unfold wp_Lb_requireGlue at hw
  refine lv_iload_n hx hb d_Lb_requireGlue_0 rfl (lv_at hl 0 rfl) ?_
  refine td_v (tr_S (y := y_Lb_requireSize) (As := [.int p1]) (n := 1) C w (c_Lb_requireSize l htr n0 G K ad X S p1 _ _ hw) kw_401 kw_402 kw_1 kw_403 (by decide +kernel) rfl rfl ⟨Nat.le_of_ble_eq_true rfl, Nat.le_of_ble_eq_true rfl⟩ rfl hl.1 rfl (Nat.le_of_ble_eq_true rfl) d_Lb_requireGlue_1 ⟨Nat.le_of_ble_eq_true rfl, Nat.le_of_ble_eq_true rfl⟩) (tx_pass C hne (by decide) (by decide) rfl) (fun hw => ?_)
  refine lv_iload_n hx hb d_Lb_requireGlue_4 rfl (lv_at hl 1 rfl) ?_
  refine td_v (tr_S (y := y_Lb_requireSize) (As := [.int p2]) (n := 1) C w (c_Lb_requireSize l htr n0 G K ad X S p2 _ _ hw) kw_401 kw_402 kw_1 kw_403 (by decide +kernel) rfl rfl ⟨Nat.le_of_ble_eq_true rfl, Nat.le_of_ble_eq_true rfl⟩ rfl hl.1 rfl (Nat.le_of_ble_eq_true rfl) d_Lb_requireGlue_5 ⟨Nat.le_of_ble_eq_true rfl, Nat.le_of_ble_eq_true rfl⟩) (tx_pass C hne (by decide) (by decide) rfl) (fun hw => ?_)
  refine lv_iload_n hx hb d_Lb_requireGlue_8 rfl (lv_at hl 3 rfl) ?_
  refine td_v (tr_S (y := y_Lb_requireSize) (As := [.int p4]) (n := 1) C w (c_Lb_requireSize l htr n0 G K ad X S p4 _ _ hw) kw_401 kw_402 kw_1 kw_403 (by decide +kernel) rfl rfl ⟨Nat.le_of_ble_eq_true rfl, Nat.le_of_ble_eq_true rfl⟩ rfl hl.1 rfl (Nat.le_of_ble_eq_true rfl) d_Lb_requireGlue_9 ⟨Nat.le_of_ble_eq_true rfl, Nat.le_of_ble_eq_true rfl⟩) (tx_pass C hne (by decide) (by decide) rfl) (fun hw => ?_)
  refine lv_iload_n hx hb d_Lb_requireGlue_12 rfl (lv_at hl 1 rfl) ?_
  refine lv_if_lt (tgt := 20) hx hb d_Lb_requireGlue_13 (by decide) (fun hc => ?_) (fun hc => ?_)
  · have hw := hw.1 hc
    exact w_Lb_requireGlue_20 C hr htr hne   hw _ w (lv_sub hl [] rfl)
  · have hw := hw.2 hc
    refine lv_iload_n hx hb d_Lb_requireGlue_16 rfl (lv_at hl 3 rfl) ?_
    refine lv_if_ge (tgt := 30) hx hb d_Lb_requireGlue_17 (by decide) (fun hc => ?_) (fun hc => ?_)
    · have hw := hw.1 hc
      refine lv_iload_n hx hb d_Lb_requireGlue_30 rfl (lv_at hl 2 rfl) ?_
      refine lv_if_lt (tgt := 39) hx hb d_Lb_requireGlue_31 (by decide) (fun hc => ?_) (fun hc => ?_)
      · have hw := hw.1 hc
        exact w_Lb_requireGlue_39 C hr htr hne   hw _ w (lv_sub hl [] rfl)
      · have hw := hw.2 hc
        refine lv_iload_n hx hb d_Lb_requireGlue_34 rfl (lv_at hl 2 rfl) ?_
        refine lv_iconst (v := 3) hx hb d_Lb_requireGlue_35 (by decide) ?_
        refine lv_icmp_le (tgt := 49) hx hb d_Lb_requireGlue_36 (by decide) (fun hc => ?_) (fun hc => ?_)
        · have hw := hw.1 hc
          refine W.widen (k := 4) (n := 24) (by decide) (by decide) ?_
          refine tx_ret ?_
          exact kf_v C hr d_Lb_requireGlue_49 hw
        · have hw := hw.2 hc
          exact w_Lb_requireGlue_39 C hr htr hne   hw _ w (lv_sub hl [] rfl)
    · have hw := hw.2 hc
      exact w_Lb_requireGlue_20 C hr htr hne   hw _ w (lv_sub hl [] rfl)
set_option maxHeartbeats 4000000 in
set_option maxRecDepth 100000 in
theorem c_Lb_requireNotReplaced (l : Launch) (htr : l.stackTraces = false) (n0 : Nat) (G : va_G) (K : KT) (ad : Nat → Nat) (X : va_W) (S : ST) (post : Prop) (px : String → Prop) (hw : wp_Lb_requireNotReplaced S  post px) : tmet l y_Lb_requireNotReplaced (Cond.code y_Lb_requireNotReplaced prog_1_method_19_code 1 none :: gw) rm_Lb_requireNotReplaced (va_Pc [.ref (ad 0)] (wb n0 G K (wC K ad S ++ X))) (rq_v post) px 1 6 (fun _ => False) := by
  refine kt_start (own := "LineBreaker") (by decide +kernel) rfl ?_
  intro p e s m below meth c C hr hne w
  have hx := C.1
  have hb := C.2.1
  have hts := C.2.2.2.2.1
  have hl := lv_entry ([.ref (ad 0)]) (n := 1) (Nat.le_of_ble_eq_true rfl)
  rw [lg_entry_eq]
  generalize (lg_sl ([.ref (ad 0)]) ++ List.replicate (1 - (lg_sl ([.ref (ad 0)])).length) Slot.unset).toArray = ls at hl ⊢
  have hl : lv_has ls 1 [(0, .ref (ad 0))] := hl
  unfold wp_Lb_requireNotReplaced at hw
  refine lv_aload_n hx hb d_Lb_requireNotReplaced_0 rfl (lv_at hl 0 rfl) ?_
  refine kg (C1 := R_Lb) (T := F_Lb) (N := 5) (ci := 9) (ref := "LineBreaker") (v := .ref (ad 1)) C w 0 0 iw_Lb rfl rfl (by decide) kw_356 rfl rfl d_Lb_requireNotReplaced_1 ?_
  refine kd_i (kr_V (y := y_Pa_awaitsReplaced) (C1 := R_Pa) (T := F_Pa) (N := 10) (ci := 6) (q0 := 1) (As := []) (n := 0) C w (c_Pa_awaitsReplaced l n0 G K ad X S  _ hw) (gw_V kw_520 kw_521 kw_522 kw_2 kw_523) (by decide +kernel) rfl rfl ⟨Nat.le_of_ble_eq_true rfl, Nat.le_of_ble_eq_true rfl⟩ rfl rfl rfl hl.1 rfl (Nat.le_of_ble_eq_true rfl) d_Lb_requireNotReplaced_4 ⟨Nat.le_of_ble_eq_true rfl, Nat.le_of_ble_eq_true rfl⟩) (fun r1 hw => ?_)
  refine lv_if_eq (tgt := 20) hx hb d_Lb_requireNotReplaced_7 (by decide) (fun hc => ?_) (fun hc => ?_)
  · have hw := hw.1 hc
    refine W.widen (k := 1) (n := 6) (by decide) (by decide) ?_
    refine tx_ret ?_
    exact kf_v C hr d_Lb_requireNotReplaced_20 hw
  · have hw := hw.2 hc
    obtain ⟨sa, hstr⟩ := fx_str (i := 536) (own := "LineBreaker") (k := 212) (text := "only boxes and kerns are replaced") C.2.2.2.2.2.2.2.2 (by decide +kernel)
    exact tx_throw (names := ["java/lang/RuntimeException", "java/lang/Exception"]) (text := "only boxes and kerns are replaced") C w hne htr (by decide +kernel) (by decide +kernel) (tw_145 hts C.2.2.2.2.2.2.2.2) kw_527 kw_528 kw_18 hstr hl.1 d_Lb_requireNotReplaced_10 d_Lb_requireNotReplaced_13 d_Lb_requireNotReplaced_14 d_Lb_requireNotReplaced_16 d_Lb_requireNotReplaced_19 (by decide) (Nat.le_of_ble_eq_true rfl) (by decide) (by decide) hw (by decide) (by decide)
set_option maxHeartbeats 4000000 in
set_option maxRecDepth 100000 in
theorem c_Lb_glue (l : Launch) (htr : l.stackTraces = false) (n0 : Nat) (G : va_G) (K : KT) (ad : Nat → Nat) (X : va_W) (S : ST) (p1 : Int32) (p2 : Int32) (p3 : Int32) (p4 : Int32) (post : Int32 → (Nat → Int32) → (Nat → Int32) → (Nat → Int32) → (Nat → Int32) → (Nat → Int32) → (Nat → Int32) → (Nat → Int32) → (Nat → Int32) → (Nat → Int32) → Int32 → Int32 → Int32 → Int32 → Prop) (px : String → Prop) (hw : wp_Lb_glue S p1 p2 p3 p4 post px) : tmet l y_Lb_glue (Cond.code y_Lb_glue prog_1_method_3_code 5 (some .int) :: gw) rm_Lb_glue (va_Pc [.ref (ad 0), .int p1, .int p2, .int p3, .int p4] (wb n0 G K (wC K ad S ++ X))) (va_Qi (fun r (u : (Nat → Int32) × (Nat → Int32) × (Nat → Int32) × (Nat → Int32) × (Nat → Int32) × (Nat → Int32) × (Nat → Int32) × (Nat → Int32) × (Nat → Int32) × Int32 × Int32 × Int32 × Int32) => post r u.1 u.2.1 u.2.2.1 u.2.2.2.1 u.2.2.2.2.1 u.2.2.2.2.2.1 u.2.2.2.2.2.2.1 u.2.2.2.2.2.2.2.1 u.2.2.2.2.2.2.2.2.1 u.2.2.2.2.2.2.2.2.2.1 u.2.2.2.2.2.2.2.2.2.2.1 u.2.2.2.2.2.2.2.2.2.2.2.1 u.2.2.2.2.2.2.2.2.2.2.2.2) (fun (u : (Nat → Int32) × (Nat → Int32) × (Nat → Int32) × (Nat → Int32) × (Nat → Int32) × (Nat → Int32) × (Nat → Int32) × (Nat → Int32) × (Nat → Int32) × Int32 × Int32 × Int32 × Int32) t => we n0 G (wC K ad (sI (sI (sI (sI (sA (sA (sA (sA (sA (sA (sA (sA (sA S 2 u.1) 3 u.2.1) 4 u.2.2.1) 5 u.2.2.2.1) 6 u.2.2.2.2.1) 7 u.2.2.2.2.2.1) 8 u.2.2.2.2.2.2.1) 9 u.2.2.2.2.2.2.2.1) 10 u.2.2.2.2.2.2.2.2.1) 73 u.2.2.2.2.2.2.2.2.2.1) 2626 u.2.2.2.2.2.2.2.2.2.2.1) 2627 u.2.2.2.2.2.2.2.2.2.2.2.1) 2628 u.2.2.2.2.2.2.2.2.2.2.2.2) ++ X) t) (al n0)) px 6 36 (al n0) := by
  refine kt_start (own := "LineBreaker") (by decide +kernel) rfl ?_
  intro p e s m below meth c C hr hne w
  have hx := C.1
  have hb := C.2.1
  have hts := C.2.2.2.2.1
  have hl := lv_entry ([.ref (ad 0), .int p1, .int p2, .int p3, .int p4]) (n := 5) (Nat.le_of_ble_eq_true rfl)
  rw [lg_entry_eq]
  generalize (lg_sl ([.ref (ad 0), .int p1, .int p2, .int p3, .int p4]) ++ List.replicate (5 - (lg_sl ([.ref (ad 0), .int p1, .int p2, .int p3, .int p4])).length) Slot.unset).toArray = ls at hl ⊢
  have hl : lv_has ls 5 [(0, .ref (ad 0)), (1, .int p1), (2, .int p2), (3, .int p3), (4, .int p4)] := hl
  unfold wp_Lb_glue at hw
  refine lv_iload_n hx hb d_Lb_glue_0 rfl (lv_at hl 1 rfl) ?_
  refine lv_iload_n hx hb d_Lb_glue_1 rfl (lv_at hl 2 rfl) ?_
  refine lv_iload_n hx hb d_Lb_glue_2 rfl (lv_at hl 3 rfl) ?_
  refine lv_iload hx hb d_Lb_glue_3 (lv_at hl 4 rfl) ?_
  refine td_v (tr_S (y := y_Lb_requireGlue) (As := [.int p1, .int p2, .int p3, .int p4]) (n := 4) C w (c_Lb_requireGlue l htr n0 G K ad X S p1 p2 p3 p4 _ _ hw) kw_511 kw_512 kw_1 kw_513 (by decide +kernel) rfl rfl ⟨Nat.le_of_ble_eq_true rfl, Nat.le_of_ble_eq_true rfl⟩ rfl hl.1 rfl (Nat.le_of_ble_eq_true rfl) d_Lb_glue_5 ⟨Nat.le_of_ble_eq_true rfl, Nat.le_of_ble_eq_true rfl⟩) (tx_pass C hne (by decide) (by decide) rfl) (fun hw => ?_)
  refine lv_aload_n hx hb d_Lb_glue_8 rfl (lv_at hl 0 rfl) ?_
  refine td_v (tr_V (y := y_Lb_requireNotReplaced) (C1 := R_Lb) (Tf := F_Lb) (N := 5) (ci := 9) (q0 := 0) (As := []) (n := 0) C w (c_Lb_requireNotReplaced l htr n0 G K ad X S  _ _ hw) kw_516 kw_518 kp_2 kw_1 kw_519 (by decide +kernel) rfl rfl ⟨Nat.le_of_ble_eq_true rfl, Nat.le_of_ble_eq_true rfl⟩ rfl rfl rfl hl.1 rfl (Nat.le_of_ble_eq_true rfl) d_Lb_glue_9 ⟨Nat.le_of_ble_eq_true rfl, Nat.le_of_ble_eq_true rfl⟩) (tx_pass C hne (by decide) (by decide) rfl) (fun hw => ?_)
  refine lv_aload_n hx hb d_Lb_glue_12 rfl (lv_at hl 0 rfl) ?_
  refine td_v (tr_V (y := y_Lb_requireRoom) (C1 := R_Lb) (Tf := F_Lb) (N := 5) (ci := 9) (q0 := 0) (As := []) (n := 0) C w (c_Lb_requireRoom l htr n0 G K ad X S  _ _ hw) kw_478 kw_480 kp_1 kw_1 kw_481 (by decide +kernel) rfl rfl ⟨Nat.le_of_ble_eq_true rfl, Nat.le_of_ble_eq_true rfl⟩ rfl rfl rfl hl.1 rfl (Nat.le_of_ble_eq_true rfl) d_Lb_glue_13 ⟨Nat.le_of_ble_eq_true rfl, Nat.le_of_ble_eq_true rfl⟩) (tx_pass C hne (by decide) (by decide) rfl) (fun hw => ?_)
  refine lv_aload_n hx hb d_Lb_glue_16 rfl (lv_at hl 0 rfl) ?_
  refine kg (C1 := R_Lb) (T := F_Lb) (N := 5) (ci := 9) (ref := "LineBreaker") (v := .ref (ad 41)) C w 0 4 iw_Lb rfl rfl (by decide) kw_360 rfl rfl d_Lb_glue_17 ?_
  refine kc_v (st := fun (u : Int32 × Int32 × Int32) => wC K ad (sI (sI (sI S 2626 u.1) 2627 u.2.1) 2628 u.2.2) ++ X) w (kr_V (y := y_Ou_forget) (C1 := R_Ou) (T := F_Ou) (N := 5) (ci := 5) (q0 := 41) (As := []) (n := 0) C w (c_Ou_forget l n0 G K ad X S  _ hw) (gw_V kw_376 kw_377 kw_378 kw_10 kw_379) (by decide +kernel) rfl rfl ⟨Nat.le_of_ble_eq_true rfl, Nat.le_of_ble_eq_true rfl⟩ rfl rfl rfl hl.1 rfl (Nat.le_of_ble_eq_true rfl) d_Lb_glue_20 ⟨Nat.le_of_ble_eq_true rfl, Nat.le_of_ble_eq_true rfl⟩) (fun u H locs hw w => ?_)
  obtain ⟨v1, v2, v3⟩ := u
  dsimp only at hw
  have w : wn n0 G (wC K ad (sI (sI (sI S 2626 v1) 2627 v2) 2628 v3) ++ X) s H locs := w
  refine lv_aload_n hx hb d_Lb_glue_23 rfl (lv_at hl 0 rfl) ?_
  refine kg (C1 := R_Lb) (T := F_Lb) (N := 5) (ci := 9) (ref := "LineBreaker") (v := .ref (ad 1)) C w 0 0 iw_Lb rfl rfl (by decide) kw_356 rfl rfl d_Lb_glue_24 ?_
  refine lv_iload_n hx hb d_Lb_glue_27 rfl (lv_at hl 1 rfl) ?_
  refine lv_iload_n hx hb d_Lb_glue_28 rfl (lv_at hl 2 rfl) ?_
  refine lv_iload_n hx hb d_Lb_glue_29 rfl (lv_at hl 3 rfl) ?_
  refine lv_iload hx hb d_Lb_glue_30 (lv_at hl 4 rfl) ?_
  refine kc_i (st := fun (u : (Nat → Int32) × (Nat → Int32) × (Nat → Int32) × (Nat → Int32) × (Nat → Int32) × (Nat → Int32) × (Nat → Int32) × (Nat → Int32) × (Nat → Int32) × Int32) => wC K ad (sI (sA (sA (sA (sA (sA (sA (sA (sA (sA (sI (sI (sI S 2626 v1) 2627 v2) 2628 v3) 2 u.1) 3 u.2.1) 4 u.2.2.1) 5 u.2.2.2.1) 6 u.2.2.2.2.1) 7 u.2.2.2.2.2.1) 8 u.2.2.2.2.2.2.1) 9 u.2.2.2.2.2.2.2.1) 10 u.2.2.2.2.2.2.2.2.1) 73 u.2.2.2.2.2.2.2.2.2) ++ X) w (kr_V (y := y_Pa_appendGlue) (C1 := R_Pa) (T := F_Pa) (N := 10) (ci := 6) (q0 := 1) (As := [.int p1, .int p2, .int p3, .int p4]) (n := 4) C w (c_Pa_appendGlue l n0 G K ad X (sI (sI (sI S 2626 v1) 2627 v2) 2628 v3) p1 p2 p3 p4 _ hw) (gw_V kw_543 kw_544 kw_545 kw_2 kw_546) (by decide +kernel) rfl rfl ⟨Nat.le_of_ble_eq_true rfl, Nat.le_of_ble_eq_true rfl⟩ rfl rfl rfl hl.1 rfl (Nat.le_of_ble_eq_true rfl) d_Lb_glue_32 ⟨Nat.le_of_ble_eq_true rfl, Nat.le_of_ble_eq_true rfl⟩) (fun r14 u H locs hw w => ?_)
  obtain ⟨f4, f5, f6, f7, f8, f9, f10, f11, f12, v13⟩ := u
  dsimp only at hw
  have w : wn n0 G (wC K ad (sI (sI (sI (sI (sA (sA (sA (sA (sA (sA (sA (sA (sA S 2 f4) 3 f5) 4 f6) 5 f7) 6 f8) 7 f9) 8 f10) 9 f11) 10 f12) 73 v13) 2626 v1) 2627 v2) 2628 v3) ++ X) s H locs := w
  refine W.widen (k := 6) (n := 36) (by decide) (by decide) ?_
  refine tx_ret ?_
  exact ke_i (post := (fun r (u : (Nat → Int32) × (Nat → Int32) × (Nat → Int32) × (Nat → Int32) × (Nat → Int32) × (Nat → Int32) × (Nat → Int32) × (Nat → Int32) × (Nat → Int32) × Int32 × Int32 × Int32 × Int32) => post r u.1 u.2.1 u.2.2.1 u.2.2.2.1 u.2.2.2.2.1 u.2.2.2.2.2.1 u.2.2.2.2.2.2.1 u.2.2.2.2.2.2.2.1 u.2.2.2.2.2.2.2.2.1 u.2.2.2.2.2.2.2.2.2.1 u.2.2.2.2.2.2.2.2.2.2.1 u.2.2.2.2.2.2.2.2.2.2.2.1 u.2.2.2.2.2.2.2.2.2.2.2.2)) (st := (fun (u : (Nat → Int32) × (Nat → Int32) × (Nat → Int32) × (Nat → Int32) × (Nat → Int32) × (Nat → Int32) × (Nat → Int32) × (Nat → Int32) × (Nat → Int32) × Int32 × Int32 × Int32 × Int32) => wC K ad (sI (sI (sI (sI (sA (sA (sA (sA (sA (sA (sA (sA (sA S 2 u.1) 3 u.2.1) 4 u.2.2.1) 5 u.2.2.2.1) 6 u.2.2.2.2.1) 7 u.2.2.2.2.2.1) 8 u.2.2.2.2.2.2.1) 9 u.2.2.2.2.2.2.2.1) 10 u.2.2.2.2.2.2.2.2.1) 73 u.2.2.2.2.2.2.2.2.2.1) 2626 u.2.2.2.2.2.2.2.2.2.2.1) 2627 u.2.2.2.2.2.2.2.2.2.2.2.1) 2628 u.2.2.2.2.2.2.2.2.2.2.2.2) ++ X)) (u := (f4, f5, f6, f7, f8, f9, f10, f11, f12, v13, v1, v2, v3)) C hr d_Lb_glue_35 (wn_eq w rfl) hw
set_option maxHeartbeats 4000000 in
set_option maxRecDepth 100000 in
theorem w_Lb_kern_28 {S : ST} {post : Int32 → (Nat → Int32) → (Nat → Int32) → (Nat → Int32) → (Nat → Int32) → (Nat → Int32) → (Nat → Int32) → (Nat → Int32) → (Nat → Int32) → (Nat → Int32) → Int32 → Int32 → Int32 → Int32 → Prop} {px : String → Prop} (C : cx p s m args meth c prog_1_method_4_code 3 "LineBreaker" n0 G K) (hr : meth.sig.returnType = (some .int)) (htr : l.stackTraces = false) (hne : c.exceptionTable.toList = []) : ∀ (i2626 : Int32) (i2627 : Int32) (i2628 : Int32) (x1 : Int32) (z1 : Int32), wl_Lb_kern_28 S post px i2626 i2627 i2628 x1 z1 → ∀ (H : Heap) (locs : List Loc) (ls : Array Slot), wn n0 G (wC K ad (sI (sI (sI S 2626 i2626) 2627 i2627) 2628 i2628) ++ X) s H locs → lv_has ls 3 [(1, .int x1)] → W p l e rm_Lb_kern s m args below meth c H locs 2 12 (tmq below (va_Qi (fun r (u : (Nat → Int32) × (Nat → Int32) × (Nat → Int32) × (Nat → Int32) × (Nat → Int32) × (Nat → Int32) × (Nat → Int32) × (Nat → Int32) × (Nat → Int32) × Int32 × Int32 × Int32 × Int32) => post r u.1 u.2.1 u.2.2.1 u.2.2.2.1 u.2.2.2.2.1 u.2.2.2.2.2.1 u.2.2.2.2.2.2.1 u.2.2.2.2.2.2.2.1 u.2.2.2.2.2.2.2.2.1 u.2.2.2.2.2.2.2.2.2.1 u.2.2.2.2.2.2.2.2.2.2.1 u.2.2.2.2.2.2.2.2.2.2.2.1 u.2.2.2.2.2.2.2.2.2.2.2.2) (fun (u : (Nat → Int32) × (Nat → Int32) × (Nat → Int32) × (Nat → Int32) × (Nat → Int32) × (Nat → Int32) × (Nat → Int32) × (Nat → Int32) × (Nat → Int32) × Int32 × Int32 × Int32 × Int32) t => we n0 G (wC K ad (sI (sI (sI (sI (sA (sA (sA (sA (sA (sA (sA (sA (sA S 2 u.1) 3 u.2.1) 4 u.2.2.1) 5 u.2.2.2.1) 6 u.2.2.2.2.1) 7 u.2.2.2.2.2.1) 8 u.2.2.2.2.2.2.1) 9 u.2.2.2.2.2.2.2.1) 10 u.2.2.2.2.2.2.2.2.1) 73 u.2.2.2.2.2.2.2.2.2.1) 2626 u.2.2.2.2.2.2.2.2.2.2.1) 2627 u.2.2.2.2.2.2.2.2.2.2.2.1) 2628 u.2.2.2.2.2.2.2.2.2.2.2.2) ++ X) t) (al n0)) px args s 2 12 (al n0)) (F0 m 28 ls [.int z1, .ref (ad 1)]) := by
  have hx := C.1
  have hb := C.2.1
  have hts := C.2.2.2.2.1
  intro i2626 i2627 i2628 x1 z1 hw H locs ls w hl
  unfold wl_Lb_kern_28 at hw
  refine lv_iload_n hx hb d_Lb_kern_28 rfl (lv_at hl 0 rfl) ?_
  refine kc_i (st := fun (u : (Nat → Int32) × (Nat → Int32) × (Nat → Int32) × (Nat → Int32) × (Nat → Int32) × (Nat → Int32) × (Nat → Int32) × (Nat → Int32) × (Nat → Int32) × Int32) => wC K ad (sI (sA (sA (sA (sA (sA (sA (sA (sA (sA (sI (sI (sI S 2626 i2626) 2627 i2627) 2628 i2628) 2 u.1) 3 u.2.1) 4 u.2.2.1) 5 u.2.2.2.1) 6 u.2.2.2.2.1) 7 u.2.2.2.2.2.1) 8 u.2.2.2.2.2.2.1) 9 u.2.2.2.2.2.2.2.1) 10 u.2.2.2.2.2.2.2.2.1) 73 u.2.2.2.2.2.2.2.2.2) ++ X) w (kr_V (y := y_Pa_append) (C1 := R_Pa) (T := F_Pa) (N := 10) (ci := 6) (q0 := 1) (As := [.int z1, .int x1]) (n := 2) C w (c_Pa_append l n0 G K ad X (sI (sI (sI S 2626 i2626) 2627 i2627) 2628 i2628) z1 x1 _ hw) (gw_V kw_498 kw_499 kw_500 kw_2 kw_501) (by decide +kernel) rfl rfl ⟨Nat.le_of_ble_eq_true rfl, Nat.le_of_ble_eq_true rfl⟩ rfl rfl rfl hl.1 rfl (Nat.le_of_ble_eq_true rfl) d_Lb_kern_29 ⟨Nat.le_of_ble_eq_true rfl, Nat.le_of_ble_eq_true rfl⟩) (fun r11 u H locs hw w => ?_)
  obtain ⟨f1, f2, f3, f4, f5, f6, f7, f8, f9, v10⟩ := u
  dsimp only at hw
  have w : wn n0 G (wC K ad (sI (sI (sI (sI (sA (sA (sA (sA (sA (sA (sA (sA (sA S 2 f1) 3 f2) 4 f3) 5 f4) 6 f5) 7 f6) 8 f7) 9 f8) 10 f9) 73 v10) 2626 i2626) 2627 i2627) 2628 i2628) ++ X) s H locs := w
  refine W.widen (k := 2) (n := 12) (by decide) (by decide) ?_
  refine tx_ret ?_
  exact ke_i (post := (fun r (u : (Nat → Int32) × (Nat → Int32) × (Nat → Int32) × (Nat → Int32) × (Nat → Int32) × (Nat → Int32) × (Nat → Int32) × (Nat → Int32) × (Nat → Int32) × Int32 × Int32 × Int32 × Int32) => post r u.1 u.2.1 u.2.2.1 u.2.2.2.1 u.2.2.2.2.1 u.2.2.2.2.2.1 u.2.2.2.2.2.2.1 u.2.2.2.2.2.2.2.1 u.2.2.2.2.2.2.2.2.1 u.2.2.2.2.2.2.2.2.2.1 u.2.2.2.2.2.2.2.2.2.2.1 u.2.2.2.2.2.2.2.2.2.2.2.1 u.2.2.2.2.2.2.2.2.2.2.2.2)) (st := (fun (u : (Nat → Int32) × (Nat → Int32) × (Nat → Int32) × (Nat → Int32) × (Nat → Int32) × (Nat → Int32) × (Nat → Int32) × (Nat → Int32) × (Nat → Int32) × Int32 × Int32 × Int32 × Int32) => wC K ad (sI (sI (sI (sI (sA (sA (sA (sA (sA (sA (sA (sA (sA S 2 u.1) 3 u.2.1) 4 u.2.2.1) 5 u.2.2.2.1) 6 u.2.2.2.2.1) 7 u.2.2.2.2.2.1) 8 u.2.2.2.2.2.2.1) 9 u.2.2.2.2.2.2.2.1) 10 u.2.2.2.2.2.2.2.2.1) 73 u.2.2.2.2.2.2.2.2.2.1) 2626 u.2.2.2.2.2.2.2.2.2.2.1) 2627 u.2.2.2.2.2.2.2.2.2.2.2.1) 2628 u.2.2.2.2.2.2.2.2.2.2.2.2) ++ X)) (u := (f1, f2, f3, f4, f5, f6, f7, f8, f9, v10, i2626, i2627, i2628)) C hr d_Lb_kern_32 (wn_eq w rfl) hw
set_option maxHeartbeats 4000000 in
set_option maxRecDepth 100000 in
theorem c_Lb_kern (l : Launch) (htr : l.stackTraces = false) (n0 : Nat) (G : va_G) (K : KT) (ad : Nat → Nat) (X : va_W) (S : ST) (p1 : Int32) (p2 : Int32) (post : Int32 → (Nat → Int32) → (Nat → Int32) → (Nat → Int32) → (Nat → Int32) → (Nat → Int32) → (Nat → Int32) → (Nat → Int32) → (Nat → Int32) → (Nat → Int32) → Int32 → Int32 → Int32 → Int32 → Prop) (px : String → Prop) (hw : wp_Lb_kern S p1 p2 post px) : tmet l y_Lb_kern (Cond.code y_Lb_kern prog_1_method_4_code 3 (some .int) :: gw) rm_Lb_kern (va_Pc [.ref (ad 0), .int p1, .int p2] (wb n0 G K (wC K ad S ++ X))) (va_Qi (fun r (u : (Nat → Int32) × (Nat → Int32) × (Nat → Int32) × (Nat → Int32) × (Nat → Int32) × (Nat → Int32) × (Nat → Int32) × (Nat → Int32) × (Nat → Int32) × Int32 × Int32 × Int32 × Int32) => post r u.1 u.2.1 u.2.2.1 u.2.2.2.1 u.2.2.2.2.1 u.2.2.2.2.2.1 u.2.2.2.2.2.2.1 u.2.2.2.2.2.2.2.1 u.2.2.2.2.2.2.2.2.1 u.2.2.2.2.2.2.2.2.2.1 u.2.2.2.2.2.2.2.2.2.2.1 u.2.2.2.2.2.2.2.2.2.2.2.1 u.2.2.2.2.2.2.2.2.2.2.2.2) (fun (u : (Nat → Int32) × (Nat → Int32) × (Nat → Int32) × (Nat → Int32) × (Nat → Int32) × (Nat → Int32) × (Nat → Int32) × (Nat → Int32) × (Nat → Int32) × Int32 × Int32 × Int32 × Int32) t => we n0 G (wC K ad (sI (sI (sI (sI (sA (sA (sA (sA (sA (sA (sA (sA (sA S 2 u.1) 3 u.2.1) 4 u.2.2.1) 5 u.2.2.2.1) 6 u.2.2.2.2.1) 7 u.2.2.2.2.2.1) 8 u.2.2.2.2.2.2.1) 9 u.2.2.2.2.2.2.2.1) 10 u.2.2.2.2.2.2.2.2.1) 73 u.2.2.2.2.2.2.2.2.2.1) 2626 u.2.2.2.2.2.2.2.2.2.2.1) 2627 u.2.2.2.2.2.2.2.2.2.2.2.1) 2628 u.2.2.2.2.2.2.2.2.2.2.2.2) ++ X) t) (al n0)) px 2 12 (al n0) := by
  refine kt_start (own := "LineBreaker") (by decide +kernel) rfl ?_
  intro p e s m below meth c C hr hne w
  have hx := C.1
  have hb := C.2.1
  have hts := C.2.2.2.2.1
  have hl := lv_entry ([.ref (ad 0), .int p1, .int p2]) (n := 3) (Nat.le_of_ble_eq_true rfl)
  rw [lg_entry_eq]
  generalize (lg_sl ([.ref (ad 0), .int p1, .int p2]) ++ List.replicate (3 - (lg_sl ([.ref (ad 0), .int p1, .int p2])).length) Slot.unset).toArray = ls at hl ⊢
  have hl : lv_has ls 3 [(0, .ref (ad 0)), (1, .int p1), (2, .int p2)] := hl
  unfold wp_Lb_kern at hw
  refine lv_iload_n hx hb d_Lb_kern_0 rfl (lv_at hl 1 rfl) ?_
  refine td_v (tr_S (y := y_Lb_requireSize) (As := [.int p1]) (n := 1) C w (c_Lb_requireSize l htr n0 G K ad X S p1 _ _ hw) kw_401 kw_402 kw_1 kw_403 (by decide +kernel) rfl rfl ⟨Nat.le_of_ble_eq_true rfl, Nat.le_of_ble_eq_true rfl⟩ rfl hl.1 rfl (Nat.le_of_ble_eq_true rfl) d_Lb_kern_1 ⟨Nat.le_of_ble_eq_true rfl, Nat.le_of_ble_eq_true rfl⟩) (tx_pass C hne (by decide) (by decide) rfl) (fun hw => ?_)
  refine lv_aload_n hx hb d_Lb_kern_4 rfl (lv_at hl 0 rfl) ?_
  refine td_v (tr_V (y := y_Lb_requireRoom) (C1 := R_Lb) (Tf := F_Lb) (N := 5) (ci := 9) (q0 := 0) (As := []) (n := 0) C w (c_Lb_requireRoom l htr n0 G K ad X S  _ _ hw) kw_478 kw_480 kp_1 kw_1 kw_481 (by decide +kernel) rfl rfl ⟨Nat.le_of_ble_eq_true rfl, Nat.le_of_ble_eq_true rfl⟩ rfl rfl rfl hl.1 rfl (Nat.le_of_ble_eq_true rfl) d_Lb_kern_5 ⟨Nat.le_of_ble_eq_true rfl, Nat.le_of_ble_eq_true rfl⟩) (tx_pass C hne (by decide) (by decide) rfl) (fun hw => ?_)
  refine lv_aload_n hx hb d_Lb_kern_8 rfl (lv_at hl 0 rfl) ?_
  refine kg (C1 := R_Lb) (T := F_Lb) (N := 5) (ci := 9) (ref := "LineBreaker") (v := .ref (ad 41)) C w 0 4 iw_Lb rfl rfl (by decide) kw_360 rfl rfl d_Lb_kern_9 ?_
  refine kc_v (st := fun (u : Int32 × Int32 × Int32) => wC K ad (sI (sI (sI S 2626 u.1) 2627 u.2.1) 2628 u.2.2) ++ X) w (kr_V (y := y_Ou_forget) (C1 := R_Ou) (T := F_Ou) (N := 5) (ci := 5) (q0 := 41) (As := []) (n := 0) C w (c_Ou_forget l n0 G K ad X S  _ hw) (gw_V kw_376 kw_377 kw_378 kw_10 kw_379) (by decide +kernel) rfl rfl ⟨Nat.le_of_ble_eq_true rfl, Nat.le_of_ble_eq_true rfl⟩ rfl rfl rfl hl.1 rfl (Nat.le_of_ble_eq_true rfl) d_Lb_kern_12 ⟨Nat.le_of_ble_eq_true rfl, Nat.le_of_ble_eq_true rfl⟩) (fun u H locs hw w => ?_)
  obtain ⟨v1, v2, v3⟩ := u
  dsimp only at hw
  have w : wn n0 G (wC K ad (sI (sI (sI S 2626 v1) 2627 v2) 2628 v3) ++ X) s H locs := w
  refine lv_aload_n hx hb d_Lb_kern_15 rfl (lv_at hl 0 rfl) ?_
  refine kg (C1 := R_Lb) (T := F_Lb) (N := 5) (ci := 9) (ref := "LineBreaker") (v := .ref (ad 1)) C w 0 0 iw_Lb rfl rfl (by decide) kw_356 rfl rfl d_Lb_kern_16 ?_
  refine lv_iload_n hx hb d_Lb_kern_19 rfl (lv_at hl 2 rfl) ?_
  refine lv_if_eq (tgt := 27) hx hb d_Lb_kern_20 (by decide) (fun hc => ?_) (fun hc => ?_)
  · have hw := hw.1 hc
    refine lv_iconst (v := 2) hx hb d_Lb_kern_27 (by decide) ?_
    exact w_Lb_kern_28 C hr htr hne  v1 v2 v3 p1 2 hw _ _ _ (wn_eq w rfl) (lv_sub hl [1] rfl)
  · have hw := hw.2 hc
    refine lv_iconst (v := 3) hx hb d_Lb_kern_23 (by decide) ?_
    refine lv_goto (tgt := 28) hx hb d_Lb_kern_24 (by decide) ?_
    exact w_Lb_kern_28 C hr htr hne  v1 v2 v3 p1 3 hw _ _ _ (wn_eq w rfl) (lv_sub hl [1] rfl)
set_option maxHeartbeats 4000000 in
set_option maxRecDepth 100000 in
theorem c_Lb_penalty (l : Launch) (htr : l.stackTraces = false) (n0 : Nat) (G : va_G) (K : KT) (ad : Nat → Nat) (X : va_W) (S : ST) (p1 : Int32) (post : Int32 → (Nat → Int32) → (Nat → Int32) → (Nat → Int32) → (Nat → Int32) → (Nat → Int32) → (Nat → Int32) → (Nat → Int32) → (Nat → Int32) → (Nat → Int32) → Int32 → Int32 → Int32 → Int32 → Prop) (px : String → Prop) (hw : wp_Lb_penalty S p1 post px) : tmet l y_Lb_penalty (Cond.code y_Lb_penalty prog_1_method_5_code 2 (some .int) :: gw) rm_Lb_penalty (va_Pc [.ref (ad 0), .int p1] (wb n0 G K (wC K ad S ++ X))) (va_Qi (fun r (u : (Nat → Int32) × (Nat → Int32) × (Nat → Int32) × (Nat → Int32) × (Nat → Int32) × (Nat → Int32) × (Nat → Int32) × (Nat → Int32) × (Nat → Int32) × Int32 × Int32 × Int32 × Int32) => post r u.1 u.2.1 u.2.2.1 u.2.2.2.1 u.2.2.2.2.1 u.2.2.2.2.2.1 u.2.2.2.2.2.2.1 u.2.2.2.2.2.2.2.1 u.2.2.2.2.2.2.2.2.1 u.2.2.2.2.2.2.2.2.2.1 u.2.2.2.2.2.2.2.2.2.2.1 u.2.2.2.2.2.2.2.2.2.2.2.1 u.2.2.2.2.2.2.2.2.2.2.2.2) (fun (u : (Nat → Int32) × (Nat → Int32) × (Nat → Int32) × (Nat → Int32) × (Nat → Int32) × (Nat → Int32) × (Nat → Int32) × (Nat → Int32) × (Nat → Int32) × Int32 × Int32 × Int32 × Int32) t => we n0 G (wC K ad (sI (sI (sI (sI (sA (sA (sA (sA (sA (sA (sA (sA (sA S 2 u.1) 3 u.2.1) 4 u.2.2.1) 5 u.2.2.2.1) 6 u.2.2.2.2.1) 7 u.2.2.2.2.2.1) 8 u.2.2.2.2.2.2.1) 9 u.2.2.2.2.2.2.2.1) 10 u.2.2.2.2.2.2.2.2.1) 73 u.2.2.2.2.2.2.2.2.2.1) 2626 u.2.2.2.2.2.2.2.2.2.2.1) 2627 u.2.2.2.2.2.2.2.2.2.2.2.1) 2628 u.2.2.2.2.2.2.2.2.2.2.2.2) ++ X) t) (al n0)) px 2 12 (al n0) := by
  refine kt_start (own := "LineBreaker") (by decide +kernel) rfl ?_
  intro p e s m below meth c C hr hne w
  have hx := C.1
  have hb := C.2.1
  have hts := C.2.2.2.2.1
  have hl := lv_entry ([.ref (ad 0), .int p1]) (n := 2) (Nat.le_of_ble_eq_true rfl)
  rw [lg_entry_eq]
  generalize (lg_sl ([.ref (ad 0), .int p1]) ++ List.replicate (2 - (lg_sl ([.ref (ad 0), .int p1])).length) Slot.unset).toArray = ls at hl ⊢
  have hl : lv_has ls 2 [(0, .ref (ad 0)), (1, .int p1)] := hl
  unfold wp_Lb_penalty at hw
  refine lv_aload_n hx hb d_Lb_penalty_0 rfl (lv_at hl 0 rfl) ?_
  refine td_v (tr_V (y := y_Lb_requireNotReplaced) (C1 := R_Lb) (Tf := F_Lb) (N := 5) (ci := 9) (q0 := 0) (As := []) (n := 0) C w (c_Lb_requireNotReplaced l htr n0 G K ad X S  _ _ hw) kw_516 kw_518 kp_2 kw_1 kw_519 (by decide +kernel) rfl rfl ⟨Nat.le_of_ble_eq_true rfl, Nat.le_of_ble_eq_true rfl⟩ rfl rfl rfl hl.1 rfl (Nat.le_of_ble_eq_true rfl) d_Lb_penalty_1 ⟨Nat.le_of_ble_eq_true rfl, Nat.le_of_ble_eq_true rfl⟩) (tx_pass C hne (by decide) (by decide) rfl) (fun hw => ?_)
  refine lv_aload_n hx hb d_Lb_penalty_4 rfl (lv_at hl 0 rfl) ?_
  refine td_v (tr_V (y := y_Lb_requireRoom) (C1 := R_Lb) (Tf := F_Lb) (N := 5) (ci := 9) (q0 := 0) (As := []) (n := 0) C w (c_Lb_requireRoom l htr n0 G K ad X S  _ _ hw) kw_478 kw_480 kp_1 kw_1 kw_481 (by decide +kernel) rfl rfl ⟨Nat.le_of_ble_eq_true rfl, Nat.le_of_ble_eq_true rfl⟩ rfl rfl rfl hl.1 rfl (Nat.le_of_ble_eq_true rfl) d_Lb_penalty_5 ⟨Nat.le_of_ble_eq_true rfl, Nat.le_of_ble_eq_true rfl⟩) (tx_pass C hne (by decide) (by decide) rfl) (fun hw => ?_)
  refine lv_aload_n hx hb d_Lb_penalty_8 rfl (lv_at hl 0 rfl) ?_
  refine kg (C1 := R_Lb) (T := F_Lb) (N := 5) (ci := 9) (ref := "LineBreaker") (v := .ref (ad 41)) C w 0 4 iw_Lb rfl rfl (by decide) kw_360 rfl rfl d_Lb_penalty_9 ?_
  refine kc_v (st := fun (u : Int32 × Int32 × Int32) => wC K ad (sI (sI (sI S 2626 u.1) 2627 u.2.1) 2628 u.2.2) ++ X) w (kr_V (y := y_Ou_forget) (C1 := R_Ou) (T := F_Ou) (N := 5) (ci := 5) (q0 := 41) (As := []) (n := 0) C w (c_Ou_forget l n0 G K ad X S  _ hw) (gw_V kw_376 kw_377 kw_378 kw_10 kw_379) (by decide +kernel) rfl rfl ⟨Nat.le_of_ble_eq_true rfl, Nat.le_of_ble_eq_true rfl⟩ rfl rfl rfl hl.1 rfl (Nat.le_of_ble_eq_true rfl) d_Lb_penalty_12 ⟨Nat.le_of_ble_eq_true rfl, Nat.le_of_ble_eq_true rfl⟩) (fun u H locs hw w => ?_)
  obtain ⟨v1, v2, v3⟩ := u
  dsimp only at hw
  have w : wn n0 G (wC K ad (sI (sI (sI S 2626 v1) 2627 v2) 2628 v3) ++ X) s H locs := w
  refine lv_aload_n hx hb d_Lb_penalty_15 rfl (lv_at hl 0 rfl) ?_
  refine kg (C1 := R_Lb) (T := F_Lb) (N := 5) (ci := 9) (ref := "LineBreaker") (v := .ref (ad 1)) C w 0 0 iw_Lb rfl rfl (by decide) kw_356 rfl rfl d_Lb_penalty_16 ?_
  refine lv_sipush (v := (-10000)) hx hb d_Lb_penalty_19 (by decide) ?_
  refine lv_sipush (v := 10000) hx hb d_Lb_penalty_22 (by decide) ?_
  refine lv_iload_n hx hb d_Lb_penalty_25 rfl (lv_at hl 1 rfl) ?_
  refine va_mmin hx hb (C.2.2.1.trans hl.1.symm) C.2.2.2.1 (hts _ kw_562) (hts _ kw_563) (hts _ kw_17) (hts _ kw_564) (Nat.le_of_ble_eq_true rfl) (Nat.le_of_ble_eq_true rfl) (Nat.le_of_ble_eq_true rfl) (Nat.le_of_ble_eq_true rfl) d_Lb_penalty_26 ?_
  refine lv_topi (fun v4 ev4 => ?_)
  have hw := hw v4 ev4
  refine va_mmax hx hb (C.2.2.1.trans hl.1.symm) C.2.2.2.1 (hts _ kw_565) (hts _ kw_525) (hts _ kw_17) (hts _ kw_526) (Nat.le_of_ble_eq_true rfl) (Nat.le_of_ble_eq_true rfl) (Nat.le_of_ble_eq_true rfl) (Nat.le_of_ble_eq_true rfl) d_Lb_penalty_29 ?_
  refine lv_topi (fun v5 ev5 => ?_)
  have hw := hw v5 ev5
  refine kc_i (st := fun (u : (Nat → Int32) × (Nat → Int32) × (Nat → Int32) × (Nat → Int32) × (Nat → Int32) × (Nat → Int32) × (Nat → Int32) × (Nat → Int32) × (Nat → Int32) × Int32) => wC K ad (sI (sA (sA (sA (sA (sA (sA (sA (sA (sA (sI (sI (sI S 2626 v1) 2627 v2) 2628 v3) 2 u.1) 3 u.2.1) 4 u.2.2.1) 5 u.2.2.2.1) 6 u.2.2.2.2.1) 7 u.2.2.2.2.2.1) 8 u.2.2.2.2.2.2.1) 9 u.2.2.2.2.2.2.2.1) 10 u.2.2.2.2.2.2.2.2.1) 73 u.2.2.2.2.2.2.2.2.2) ++ X) w (kr_V (y := y_Pa_appendPenalty) (C1 := R_Pa) (T := F_Pa) (N := 10) (ci := 6) (q0 := 1) (As := [.int v5]) (n := 1) C w (c_Pa_appendPenalty l n0 G K ad X (sI (sI (sI S 2626 v1) 2627 v2) 2628 v3) v5 _ hw) (gw_V kw_566 kw_567 kw_568 kw_2 kw_569) (by decide +kernel) rfl rfl ⟨Nat.le_of_ble_eq_true rfl, Nat.le_of_ble_eq_true rfl⟩ rfl rfl rfl hl.1 rfl (Nat.le_of_ble_eq_true rfl) d_Lb_penalty_32 ⟨Nat.le_of_ble_eq_true rfl, Nat.le_of_ble_eq_true rfl⟩) (fun r16 u H locs hw w => ?_)
  obtain ⟨f6, f7, f8, f9, f10, f11, f12, f13, f14, v15⟩ := u
  dsimp only at hw
  have w : wn n0 G (wC K ad (sI (sI (sI (sI (sA (sA (sA (sA (sA (sA (sA (sA (sA S 2 f6) 3 f7) 4 f8) 5 f9) 6 f10) 7 f11) 8 f12) 9 f13) 10 f14) 73 v15) 2626 v1) 2627 v2) 2628 v3) ++ X) s H locs := w
  refine W.widen (k := 2) (n := 12) (by decide) (by decide) ?_
  refine tx_ret ?_
  exact ke_i (post := (fun r (u : (Nat → Int32) × (Nat → Int32) × (Nat → Int32) × (Nat → Int32) × (Nat → Int32) × (Nat → Int32) × (Nat → Int32) × (Nat → Int32) × (Nat → Int32) × Int32 × Int32 × Int32 × Int32) => post r u.1 u.2.1 u.2.2.1 u.2.2.2.1 u.2.2.2.2.1 u.2.2.2.2.2.1 u.2.2.2.2.2.2.1 u.2.2.2.2.2.2.2.1 u.2.2.2.2.2.2.2.2.1 u.2.2.2.2.2.2.2.2.2.1 u.2.2.2.2.2.2.2.2.2.2.1 u.2.2.2.2.2.2.2.2.2.2.2.1 u.2.2.2.2.2.2.2.2.2.2.2.2)) (st := (fun (u : (Nat → Int32) × (Nat → Int32) × (Nat → Int32) × (Nat → Int32) × (Nat → Int32) × (Nat → Int32) × (Nat → Int32) × (Nat → Int32) × (Nat → Int32) × Int32 × Int32 × Int32 × Int32) => wC K ad (sI (sI (sI (sI (sA (sA (sA (sA (sA (sA (sA (sA (sA S 2 u.1) 3 u.2.1) 4 u.2.2.1) 5 u.2.2.2.1) 6 u.2.2.2.2.1) 7 u.2.2.2.2.2.1) 8 u.2.2.2.2.2.2.1) 9 u.2.2.2.2.2.2.2.1) 10 u.2.2.2.2.2.2.2.2.1) 73 u.2.2.2.2.2.2.2.2.2.1) 2626 u.2.2.2.2.2.2.2.2.2.2.1) 2627 u.2.2.2.2.2.2.2.2.2.2.2.1) 2628 u.2.2.2.2.2.2.2.2.2.2.2.2) ++ X)) (u := (f6, f7, f8, f9, f10, f11, f12, f13, f14, v15, v1, v2, v3)) C hr d_Lb_penalty_35 (wn_eq w rfl) hw
set_option maxHeartbeats 4000000 in
set_option maxRecDepth 100000 in
theorem c_Lb_requireSizeOrNothing (l : Launch) (htr : l.stackTraces = false) (n0 : Nat) (G : va_G) (K : KT) (ad : Nat → Nat) (X : va_W) (S : ST) (p1 : Int32) (post : Prop) (px : String → Prop) (hw : wp_Lb_requireSizeOrNothing S p1 post px) : tmet l y_Lb_requireSizeOrNothing (Cond.code y_Lb_requireSizeOrNothing prog_1_method_22_code 1 none :: gw) rm_Lb_requireSizeOrNothing (va_Pc [.int p1] (wb n0 G K (wC K ad S ++ X))) (rq_v post) px 1 6 (fun _ => False) := by
  refine kt_start (own := "LineBreaker") (by decide +kernel) rfl ?_
  intro p e s m below meth c C hr hne w
  have hx := C.1
  have hb := C.2.1
  have hts := C.2.2.2.2.1
  have hl := lv_entry ([.int p1]) (n := 1) (Nat.le_of_ble_eq_true rfl)
  rw [lg_entry_eq]
  generalize (lg_sl ([.int p1]) ++ List.replicate (1 - (lg_sl ([.int p1])).length) Slot.unset).toArray = ls at hl ⊢
  have hl : lv_has ls 1 [(0, .int p1)] := hl
  unfold wp_Lb_requireSizeOrNothing at hw
  refine lv_iload_n hx hb d_Lb_requireSizeOrNothing_0 rfl (lv_at hl 0 rfl) ?_
  refine lv_ldc (v := (-1073741824)) hx hb C.2.2.2.1 (hts _ kw_580) d_Lb_requireSizeOrNothing_1 ?_
  refine lv_icmp_eq (tgt := 23) hx hb d_Lb_requireSizeOrNothing_3 (by decide) (fun hc => ?_) (fun hc => ?_)
  · have hw := hw.1 hc
    refine W.widen (k := 1) (n := 6) (by decide) (by decide) ?_
    refine tx_ret ?_
    exact kf_v C hr d_Lb_requireSizeOrNothing_23 hw
  · have hw := hw.2 hc
    refine lv_iload_n hx hb d_Lb_requireSizeOrNothing_6 rfl (lv_at hl 0 rfl) ?_
    refine kd_i (kr_S (y := y_Lb_isSize) (As := [.int p1]) (n := 1) C w (c_Lb_isSize l n0 G K ad X S p1 _ hw) (gw_S kw_404 kw_405 kw_1 kw_406) (by decide +kernel) rfl rfl ⟨Nat.le_of_ble_eq_true rfl, Nat.le_of_ble_eq_true rfl⟩ rfl hl.1 rfl (Nat.le_of_ble_eq_true rfl) d_Lb_requireSizeOrNothing_7 ⟨Nat.le_of_ble_eq_true rfl, Nat.le_of_ble_eq_true rfl⟩) (fun r1 hw => ?_)
    refine lv_if_ne (tgt := 23) hx hb d_Lb_requireSizeOrNothing_10 (by decide) (fun hc => ?_) (fun hc => ?_)
    · have hw := hw.1 hc
      refine W.widen (k := 1) (n := 6) (by decide) (by decide) ?_
      refine tx_ret ?_
      exact kf_v C hr d_Lb_requireSizeOrNothing_23 hw
    · have hw := hw.2 hc
      obtain ⟨sa, hstr⟩ := fx_str (i := 581) (own := "LineBreaker") (k := 223) (text := "that is neither a size nor nothing") C.2.2.2.2.2.2.2.2 (by decide +kernel)
      exact tx_throw (names := ["java/lang/RuntimeException", "java/lang/Exception"]) (text := "that is neither a size nor nothing") C w hne htr (by decide +kernel) (by decide +kernel) (tw_90 hts C.2.2.2.2.2.2.2.2) kw_409 kw_410 kw_15 hstr hl.1 d_Lb_requireSizeOrNothing_13 d_Lb_requireSizeOrNothing_16 d_Lb_requireSizeOrNothing_17 d_Lb_requireSizeOrNothing_19 d_Lb_requireSizeOrNothing_22 (by decide) (Nat.le_of_ble_eq_true rfl) (by decide) (by decide) hw (by decide) (by decide)
set_option maxHeartbeats 4000000 in
set_option maxRecDepth 100000 in
theorem w_Lb_hyphen_18 {S : ST} {post : Int32 → (Nat → Int32) → (Nat → Int32) → (Nat → Int32) → (Nat → Int32) → (Nat → Int32) → (Nat → Int32) → (Nat → Int32) → (Nat → Int32) → (Nat → Int32) → Int32 → Int32 → Int32 → Int32 → Prop} {px : String → Prop} (C : cx p s m args meth c prog_1_method_6_code 4 "LineBreaker" n0 G K) (hr : meth.sig.returnType = (some .int)) (htr : l.stackTraces = false) (hne : c.exceptionTable.toList = []) : wl_Lb_hyphen_18 S post px  → ∀ (ls : Array Slot), wn n0 G (wC K ad S ++ X) s s.heap [] → lv_has ls 4 [] → W p l e rm_Lb_hyphen s m args below meth c s.heap [] 2 12 (tmq below (va_Qi (fun r (u : (Nat → Int32) × (Nat → Int32) × (Nat → Int32) × (Nat → Int32) × (Nat → Int32) × (Nat → Int32) × (Nat → Int32) × (Nat → Int32) × (Nat → Int32) × Int32 × Int32 × Int32 × Int32) => post r u.1 u.2.1 u.2.2.1 u.2.2.2.1 u.2.2.2.2.1 u.2.2.2.2.2.1 u.2.2.2.2.2.2.1 u.2.2.2.2.2.2.2.1 u.2.2.2.2.2.2.2.2.1 u.2.2.2.2.2.2.2.2.2.1 u.2.2.2.2.2.2.2.2.2.2.1 u.2.2.2.2.2.2.2.2.2.2.2.1 u.2.2.2.2.2.2.2.2.2.2.2.2) (fun (u : (Nat → Int32) × (Nat → Int32) × (Nat → Int32) × (Nat → Int32) × (Nat → Int32) × (Nat → Int32) × (Nat → Int32) × (Nat → Int32) × (Nat → Int32) × Int32 × Int32 × Int32 × Int32) t => we n0 G (wC K ad (sI (sI (sI (sI (sA (sA (sA (sA (sA (sA (sA (sA (sA S 2 u.1) 3 u.2.1) 4 u.2.2.1) 5 u.2.2.2.1) 6 u.2.2.2.2.1) 7 u.2.2.2.2.2.1) 8 u.2.2.2.2.2.2.1) 9 u.2.2.2.2.2.2.2.1) 10 u.2.2.2.2.2.2.2.2.1) 73 u.2.2.2.2.2.2.2.2.2.1) 2626 u.2.2.2.2.2.2.2.2.2.2.1) 2627 u.2.2.2.2.2.2.2.2.2.2.2.1) 2628 u.2.2.2.2.2.2.2.2.2.2.2.2) ++ X) t) (al n0)) px args s 4 24 (al n0)) (F0 m 18 ls []) := by
  have hx := C.1
  have hb := C.2.1
  have hts := C.2.2.2.2.1
  intro  hw ls w hl
  unfold wl_Lb_hyphen_18 at hw
  obtain ⟨sa, hstr⟩ := fx_str (i := 582) (own := "LineBreaker") (k := 88) (text := "a hyphen replaces 0 to 10 items") C.2.2.2.2.2.2.2.2 (by decide +kernel)
  exact tx_throw (names := ["java/lang/RuntimeException", "java/lang/Exception"]) (text := "a hyphen replaces 0 to 10 items") C w hne htr (by decide +kernel) (by decide +kernel) (tw_90 hts C.2.2.2.2.2.2.2.2) kw_409 kw_410 kw_15 hstr hl.1 d_Lb_hyphen_18 d_Lb_hyphen_21 d_Lb_hyphen_22 d_Lb_hyphen_24 d_Lb_hyphen_27 (by decide) (Nat.le_of_ble_eq_true rfl) (by decide) (by decide) hw (by decide) (by decide)
set_option maxHeartbeats 4000000 in
set_option maxRecDepth 100000 in
theorem c_Lb_hyphen (l : Launch) (htr : l.stackTraces = false) (n0 : Nat) (G : va_G) (K : KT) (ad : Nat → Nat) (X : va_W) (S : ST) (p1 : Int32) (p2 : Int32) (p3 : Int32) (post : Int32 → (Nat → Int32) → (Nat → Int32) → (Nat → Int32) → (Nat → Int32) → (Nat → Int32) → (Nat → Int32) → (Nat → Int32) → (Nat → Int32) → (Nat → Int32) → Int32 → Int32 → Int32 → Int32 → Prop) (px : String → Prop) (hw : wp_Lb_hyphen S p1 p2 p3 post px) : tmet l y_Lb_hyphen (Cond.code y_Lb_hyphen prog_1_method_6_code 4 (some .int) :: gw) rm_Lb_hyphen (va_Pc [.ref (ad 0), .int p1, .int p2, .int p3] (wb n0 G K (wC K ad S ++ X))) (va_Qi (fun r (u : (Nat → Int32) × (Nat → Int32) × (Nat → Int32) × (Nat → Int32) × (Nat → Int32) × (Nat → Int32) × (Nat → Int32) × (Nat → Int32) × (Nat → Int32) × Int32 × Int32 × Int32 × Int32) => post r u.1 u.2.1 u.2.2.1 u.2.2.2.1 u.2.2.2.2.1 u.2.2.2.2.2.1 u.2.2.2.2.2.2.1 u.2.2.2.2.2.2.2.1 u.2.2.2.2.2.2.2.2.1 u.2.2.2.2.2.2.2.2.2.1 u.2.2.2.2.2.2.2.2.2.2.1 u.2.2.2.2.2.2.2.2.2.2.2.1 u.2.2.2.2.2.2.2.2.2.2.2.2) (fun (u : (Nat → Int32) × (Nat → Int32) × (Nat → Int32) × (Nat → Int32) × (Nat → Int32) × (Nat → Int32) × (Nat → Int32) × (Nat → Int32) × (Nat → Int32) × Int32 × Int32 × Int32 × Int32) t => we n0 G (wC K ad (sI (sI (sI (sI (sA (sA (sA (sA (sA (sA (sA (sA (sA S 2 u.1) 3 u.2.1) 4 u.2.2.1) 5 u.2.2.2.1) 6 u.2.2.2.2.1) 7 u.2.2.2.2.2.1) 8 u.2.2.2.2.2.2.1) 9 u.2.2.2.2.2.2.2.1) 10 u.2.2.2.2.2.2.2.2.1) 73 u.2.2.2.2.2.2.2.2.2.1) 2626 u.2.2.2.2.2.2.2.2.2.2.1) 2627 u.2.2.2.2.2.2.2.2.2.2.2.1) 2628 u.2.2.2.2.2.2.2.2.2.2.2.2) ++ X) t) (al n0)) px 4 24 (al n0) := by
  refine kt_start (own := "LineBreaker") (by decide +kernel) rfl ?_
  intro p e s m below meth c C hr hne w
  have hx := C.1
  have hb := C.2.1
  have hts := C.2.2.2.2.1
  have hl := lv_entry ([.ref (ad 0), .int p1, .int p2, .int p3]) (n := 4) (Nat.le_of_ble_eq_true rfl)
  rw [lg_entry_eq]
  generalize (lg_sl ([.ref (ad 0), .int p1, .int p2, .int p3]) ++ List.replicate (4 - (lg_sl ([.ref (ad 0), .int p1, .int p2, .int p3])).length) Slot.unset).toArray = ls at hl ⊢
  have hl : lv_has ls 4 [(0, .ref (ad 0)), (1, .int p1), (2, .int p2), (3, .int p3)] := hl
  unfold wp_Lb_hyphen at hw
  refine lv_iload_n hx hb d_Lb_hyphen_0 rfl (lv_at hl 1 rfl) ?_
  refine td_v (tr_S (y := y_Lb_requireSizeOrNothing) (As := [.int p1]) (n := 1) C w (c_Lb_requireSizeOrNothing l htr n0 G K ad X S p1 _ _ hw) kw_577 kw_578 kw_1 kw_579 (by decide +kernel) rfl rfl ⟨Nat.le_of_ble_eq_true rfl, Nat.le_of_ble_eq_true rfl⟩ rfl hl.1 rfl (Nat.le_of_ble_eq_true rfl) d_Lb_hyphen_1 ⟨Nat.le_of_ble_eq_true rfl, Nat.le_of_ble_eq_true rfl⟩) (tx_pass C hne (by decide) (by decide) rfl) (fun hw => ?_)
  refine lv_iload_n hx hb d_Lb_hyphen_4 rfl (lv_at hl 2 rfl) ?_
  refine td_v (tr_S (y := y_Lb_requireSizeOrNothing) (As := [.int p2]) (n := 1) C w (c_Lb_requireSizeOrNothing l htr n0 G K ad X S p2 _ _ hw) kw_577 kw_578 kw_1 kw_579 (by decide +kernel) rfl rfl ⟨Nat.le_of_ble_eq_true rfl, Nat.le_of_ble_eq_true rfl⟩ rfl hl.1 rfl (Nat.le_of_ble_eq_true rfl) d_Lb_hyphen_5 ⟨Nat.le_of_ble_eq_true rfl, Nat.le_of_ble_eq_true rfl⟩) (tx_pass C hne (by decide) (by decide) rfl) (fun hw => ?_)
  refine lv_iload_n hx hb d_Lb_hyphen_8 rfl (lv_at hl 3 rfl) ?_
  refine lv_if_lt (tgt := 18) hx hb d_Lb_hyphen_9 (by decide) (fun hc => ?_) (fun hc => ?_)
  · have hw := hw.1 hc
    exact w_Lb_hyphen_18 C hr htr hne   hw _ w (lv_sub hl [] rfl)
  · have hw := hw.2 hc
    refine lv_iload_n hx hb d_Lb_hyphen_12 rfl (lv_at hl 3 rfl) ?_
    refine lv_bipush (v := 10) hx hb d_Lb_hyphen_13 (by decide) ?_
    refine lv_icmp_le (tgt := 28) hx hb d_Lb_hyphen_15 (by decide) (fun hc => ?_) (fun hc => ?_)
    · have hw := hw.1 hc
      refine lv_aload_n hx hb d_Lb_hyphen_28 rfl (lv_at hl 0 rfl) ?_
      refine td_v (tr_V (y := y_Lb_requireNotReplaced) (C1 := R_Lb) (Tf := F_Lb) (N := 5) (ci := 9) (q0 := 0) (As := []) (n := 0) C w (c_Lb_requireNotReplaced l htr n0 G K ad X S  _ _ hw) kw_516 kw_518 kp_2 kw_1 kw_519 (by decide +kernel) rfl rfl ⟨Nat.le_of_ble_eq_true rfl, Nat.le_of_ble_eq_true rfl⟩ rfl rfl rfl hl.1 rfl (Nat.le_of_ble_eq_true rfl) d_Lb_hyphen_29 ⟨Nat.le_of_ble_eq_true rfl, Nat.le_of_ble_eq_true rfl⟩) (tx_pass C hne (by decide) (by decide) rfl) (fun hw => ?_)
      refine lv_aload_n hx hb d_Lb_hyphen_32 rfl (lv_at hl 0 rfl) ?_
      refine td_v (tr_V (y := y_Lb_requireRoom) (C1 := R_Lb) (Tf := F_Lb) (N := 5) (ci := 9) (q0 := 0) (As := []) (n := 0) C w (c_Lb_requireRoom l htr n0 G K ad X S  _ _ hw) kw_478 kw_480 kp_1 kw_1 kw_481 (by decide +kernel) rfl rfl ⟨Nat.le_of_ble_eq_true rfl, Nat.le_of_ble_eq_true rfl⟩ rfl rfl rfl hl.1 rfl (Nat.le_of_ble_eq_true rfl) d_Lb_hyphen_33 ⟨Nat.le_of_ble_eq_true rfl, Nat.le_of_ble_eq_true rfl⟩) (tx_pass C hne (by decide) (by decide) rfl) (fun hw => ?_)
      refine lv_aload_n hx hb d_Lb_hyphen_36 rfl (lv_at hl 0 rfl) ?_
      refine kg (C1 := R_Lb) (T := F_Lb) (N := 5) (ci := 9) (ref := "LineBreaker") (v := .ref (ad 41)) C w 0 4 iw_Lb rfl rfl (by decide) kw_360 rfl rfl d_Lb_hyphen_37 ?_
      refine kc_v (st := fun (u : Int32 × Int32 × Int32) => wC K ad (sI (sI (sI S 2626 u.1) 2627 u.2.1) 2628 u.2.2) ++ X) w (kr_V (y := y_Ou_forget) (C1 := R_Ou) (T := F_Ou) (N := 5) (ci := 5) (q0 := 41) (As := []) (n := 0) C w (c_Ou_forget l n0 G K ad X S  _ hw) (gw_V kw_376 kw_377 kw_378 kw_10 kw_379) (by decide +kernel) rfl rfl ⟨Nat.le_of_ble_eq_true rfl, Nat.le_of_ble_eq_true rfl⟩ rfl rfl rfl hl.1 rfl (Nat.le_of_ble_eq_true rfl) d_Lb_hyphen_40 ⟨Nat.le_of_ble_eq_true rfl, Nat.le_of_ble_eq_true rfl⟩) (fun u H locs hw w => ?_)
      obtain ⟨v1, v2, v3⟩ := u
      dsimp only at hw
      have w : wn n0 G (wC K ad (sI (sI (sI S 2626 v1) 2627 v2) 2628 v3) ++ X) s H locs := w
      refine lv_aload_n hx hb d_Lb_hyphen_43 rfl (lv_at hl 0 rfl) ?_
      refine kg (C1 := R_Lb) (T := F_Lb) (N := 5) (ci := 9) (ref := "LineBreaker") (v := .ref (ad 1)) C w 0 0 iw_Lb rfl rfl (by decide) kw_356 rfl rfl d_Lb_hyphen_44 ?_
      refine lv_iload_n hx hb d_Lb_hyphen_47 rfl (lv_at hl 1 rfl) ?_
      refine lv_iload_n hx hb d_Lb_hyphen_48 rfl (lv_at hl 2 rfl) ?_
      refine lv_iload_n hx hb d_Lb_hyphen_49 rfl (lv_at hl 3 rfl) ?_
      refine kc_i (st := fun (u : (Nat → Int32) × (Nat → Int32) × (Nat → Int32) × (Nat → Int32) × (Nat → Int32) × (Nat → Int32) × (Nat → Int32) × (Nat → Int32) × (Nat → Int32) × Int32) => wC K ad (sI (sA (sA (sA (sA (sA (sA (sA (sA (sA (sI (sI (sI S 2626 v1) 2627 v2) 2628 v3) 2 u.1) 3 u.2.1) 4 u.2.2.1) 5 u.2.2.2.1) 6 u.2.2.2.2.1) 7 u.2.2.2.2.2.1) 8 u.2.2.2.2.2.2.1) 9 u.2.2.2.2.2.2.2.1) 10 u.2.2.2.2.2.2.2.2.1) 73 u.2.2.2.2.2.2.2.2.2) ++ X) w (kr_V (y := y_Pa_appendHyphen) (C1 := R_Pa) (T := F_Pa) (N := 10) (ci := 6) (q0 := 1) (As := [.int p1, .int p2, .int p3]) (n := 3) C w (c_Pa_appendHyphen l n0 G K ad X (sI (sI (sI S 2626 v1) 2627 v2) 2628 v3) p1 p2 p3 _ hw) (gw_V kw_583 kw_584 kw_585 kw_2 kw_586) (by decide +kernel) rfl rfl ⟨Nat.le_of_ble_eq_true rfl, Nat.le_of_ble_eq_true rfl⟩ rfl rfl rfl hl.1 rfl (Nat.le_of_ble_eq_true rfl) d_Lb_hyphen_50 ⟨Nat.le_of_ble_eq_true rfl, Nat.le_of_ble_eq_true rfl⟩) (fun r14 u H locs hw w => ?_)
      obtain ⟨f4, f5, f6, f7, f8, f9, f10, f11, f12, v13⟩ := u
      dsimp only at hw
      have w : wn n0 G (wC K ad (sI (sI (sI (sI (sA (sA (sA (sA (sA (sA (sA (sA (sA S 2 f4) 3 f5) 4 f6) 5 f7) 6 f8) 7 f9) 8 f10) 9 f11) 10 f12) 73 v13) 2626 v1) 2627 v2) 2628 v3) ++ X) s H locs := w
      refine W.widen (k := 4) (n := 24) (by decide) (by decide) ?_
      refine tx_ret ?_
      exact ke_i (post := (fun r (u : (Nat → Int32) × (Nat → Int32) × (Nat → Int32) × (Nat → Int32) × (Nat → Int32) × (Nat → Int32) × (Nat → Int32) × (Nat → Int32) × (Nat → Int32) × Int32 × Int32 × Int32 × Int32) => post r u.1 u.2.1 u.2.2.1 u.2.2.2.1 u.2.2.2.2.1 u.2.2.2.2.2.1 u.2.2.2.2.2.2.1 u.2.2.2.2.2.2.2.1 u.2.2.2.2.2.2.2.2.1 u.2.2.2.2.2.2.2.2.2.1 u.2.2.2.2.2.2.2.2.2.2.1 u.2.2.2.2.2.2.2.2.2.2.2.1 u.2.2.2.2.2.2.2.2.2.2.2.2)) (st := (fun (u : (Nat → Int32) × (Nat → Int32) × (Nat → Int32) × (Nat → Int32) × (Nat → Int32) × (Nat → Int32) × (Nat → Int32) × (Nat → Int32) × (Nat → Int32) × Int32 × Int32 × Int32 × Int32) => wC K ad (sI (sI (sI (sI (sA (sA (sA (sA (sA (sA (sA (sA (sA S 2 u.1) 3 u.2.1) 4 u.2.2.1) 5 u.2.2.2.1) 6 u.2.2.2.2.1) 7 u.2.2.2.2.2.1) 8 u.2.2.2.2.2.2.1) 9 u.2.2.2.2.2.2.2.1) 10 u.2.2.2.2.2.2.2.2.1) 73 u.2.2.2.2.2.2.2.2.2.1) 2626 u.2.2.2.2.2.2.2.2.2.2.1) 2627 u.2.2.2.2.2.2.2.2.2.2.2.1) 2628 u.2.2.2.2.2.2.2.2.2.2.2.2) ++ X)) (u := (f4, f5, f6, f7, f8, f9, f10, f11, f12, v13, v1, v2, v3)) C hr d_Lb_hyphen_53 (wn_eq w rfl) hw
    · have hw := hw.2 hc
      exact w_Lb_hyphen_18 C hr htr hne   hw _ w (lv_sub hl [] rfl)
set_option maxHeartbeats 4000000 in
set_option maxRecDepth 100000 in
theorem w_Lb_set_10 {S : ST} {post : (Nat → Int32) → Prop} {px : String → Prop} (C : cx p s m args meth c prog_1_method_9_code 3 "LineBreaker" n0 G K) (hr : meth.sig.returnType = none) (htr : l.stackTraces = false) (hne : c.exceptionTable.toList = []) : wl_Lb_set_10 S post px  → ∀ (ls : Array Slot), wn n0 G (wC K ad S ++ X) s s.heap [] → lv_has ls 3 [] → W p l e rm_Lb_set s m args below meth c s.heap [] 0 0 (tmq below (va_Qv (fun (u : (Nat → Int32)) => post u) (fun (u : (Nat → Int32)) t => we n0 G (wC K ad (sA S 12 u) ++ X) t) (al n0)) px args s 1 6 (al n0)) (F0 m 10 ls []) := by
  have hx := C.1
  have hb := C.2.1
  have hts := C.2.2.2.2.1
  intro  hw ls w hl
  unfold wl_Lb_set_10 at hw
  obtain ⟨sa, hstr⟩ := fx_str (i := 594) (own := "LineBreaker") (k := 101) (text := "there is no such setting") C.2.2.2.2.2.2.2.2 (by decide +kernel)
  exact tx_throw (names := ["java/lang/RuntimeException", "java/lang/Exception"]) (text := "there is no such setting") C w hne htr (by decide +kernel) (by decide +kernel) (tw_90 hts C.2.2.2.2.2.2.2.2) kw_409 kw_410 kw_15 hstr hl.1 d_Lb_set_10 d_Lb_set_13 d_Lb_set_14 d_Lb_set_16 d_Lb_set_19 (by decide) (Nat.le_of_ble_eq_true rfl) (by decide) (by decide) hw (by decide) (by decide)
set_option maxHeartbeats 4000000 in
set_option maxRecDepth 100000 in
theorem w_Lb_set_38 {S : ST} {post : (Nat → Int32) → Prop} {px : String → Prop} (C : cx p s m args meth c prog_1_method_9_code 3 "LineBreaker" n0 G K) (hr : meth.sig.returnType = none) (htr : l.stackTraces = false) (hne : c.exceptionTable.toList = []) : wl_Lb_set_38 S post px  → ∀ (ls : Array Slot), wn n0 G (wC K ad S ++ X) s s.heap [] → lv_has ls 3 [] → W p l e rm_Lb_set s m args below meth c s.heap [] 0 0 (tmq below (va_Qv (fun (u : (Nat → Int32)) => post u) (fun (u : (Nat → Int32)) t => we n0 G (wC K ad (sA S 12 u) ++ X) t) (al n0)) px args s 1 6 (al n0)) (F0 m 38 ls []) := by
  have hx := C.1
  have hb := C.2.1
  have hts := C.2.2.2.2.1
  intro  hw ls w hl
  unfold wl_Lb_set_38 at hw
  obtain ⟨sa, hstr⟩ := fx_str (i := 599) (own := "LineBreaker") (k := 110) (text := "the value is not within its bounds") C.2.2.2.2.2.2.2.2 (by decide +kernel)
  exact tx_throw (names := ["java/lang/RuntimeException", "java/lang/Exception"]) (text := "the value is not within its bounds") C w hne htr (by decide +kernel) (by decide +kernel) (tw_90 hts C.2.2.2.2.2.2.2.2) kw_409 kw_410 kw_15 hstr hl.1 d_Lb_set_38 d_Lb_set_41 d_Lb_set_42 d_Lb_set_44 d_Lb_set_47 (by decide) (Nat.le_of_ble_eq_true rfl) (by decide) (by decide) hw (by decide) (by decide)
set_option maxHeartbeats 4000000 in
set_option maxRecDepth 100000 in
theorem c_Lb_set (l : Launch) (htr : l.stackTraces = false) (n0 : Nat) (G : va_G) (K : KT) (ad : Nat → Nat) (X : va_W) (S : ST) (p1 : Int32) (p2 : Int32) (post : (Nat → Int32) → Prop) (px : String → Prop) (hw : wp_Lb_set S p1 p2 post px) : tmet l y_Lb_set (Cond.code y_Lb_set prog_1_method_9_code 3 none :: gw) rm_Lb_set (va_Pc [.ref (ad 0), .int p1, .int p2] (wb n0 G K (wC K ad S ++ X))) (va_Qv (fun (u : (Nat → Int32)) => post u) (fun (u : (Nat → Int32)) t => we n0 G (wC K ad (sA S 12 u) ++ X) t) (al n0)) px 1 6 (al n0) := by
  refine kt_start (own := "LineBreaker") (by decide +kernel) rfl ?_
  intro p e s m below meth c C hr hne w
  have hx := C.1
  have hb := C.2.1
  have hts := C.2.2.2.2.1
  have hl := lv_entry ([.ref (ad 0), .int p1, .int p2]) (n := 3) (Nat.le_of_ble_eq_true rfl)
  rw [lg_entry_eq]
  generalize (lg_sl ([.ref (ad 0), .int p1, .int p2]) ++ List.replicate (3 - (lg_sl ([.ref (ad 0), .int p1, .int p2])).length) Slot.unset).toArray = ls at hl ⊢
  have hl : lv_has ls 3 [(0, .ref (ad 0)), (1, .int p1), (2, .int p2)] := hl
  unfold wp_Lb_set at hw
  refine lv_iload_n hx hb d_Lb_set_0 rfl (lv_at hl 1 rfl) ?_
  refine lv_if_lt (tgt := 10) hx hb d_Lb_set_1 (by decide) (fun hc => ?_) (fun hc => ?_)
  · have hw := hw.1 hc
    exact w_Lb_set_10 C hr htr hne   hw _ w (lv_sub hl [] rfl)
  · have hw := hw.2 hc
    refine lv_iload_n hx hb d_Lb_set_4 rfl (lv_at hl 1 rfl) ?_
    refine lv_bipush (v := 10) hx hb d_Lb_set_5 (by decide) ?_
    refine lv_icmp_lt (tgt := 20) hx hb d_Lb_set_7 (by decide) (fun hc => ?_) (fun hc => ?_)
    · have hw := hw.1 hc
      refine lv_iload_n hx hb d_Lb_set_20 rfl (lv_at hl 2 rfl) ?_
      obtain ⟨t1, hZt1, hTt1⟩ := fx_least C.2.2.2.2.2.2.2.2
      refine va_gets hx hb hZt1 w.2.2 C.2.2.2.1 (hts _ kw_595) (fun _ h => h) d_Lb_set_21 ?_
      refine lv_iload_n hx hb d_Lb_set_24 rfl (lv_at hl 1 rfl) ?_
      refine va_ti hx hb hTt1 w.2.2 hw.1 (v := .int (tb_least p1.toNatClampNeg)) rfl d_Lb_set_25 ?_
      have hw := hw.2
      refine lv_icmp_lt (tgt := 38) hx hb d_Lb_set_26 (by decide) (fun hc => ?_) (fun hc => ?_)
      · have hw := hw.1 hc
        exact w_Lb_set_38 C hr htr hne   hw _ w (lv_sub hl [] rfl)
      · have hw := hw.2 hc
        refine lv_iload_n hx hb d_Lb_set_29 rfl (lv_at hl 2 rfl) ?_
        obtain ⟨t2, hZt2, hTt2⟩ := fx_most C.2.2.2.2.2.2.2.2
        refine va_gets hx hb hZt2 w.2.2 C.2.2.2.1 (hts _ kw_597) (fun _ h => h) d_Lb_set_30 ?_
        refine lv_iload_n hx hb d_Lb_set_33 rfl (lv_at hl 1 rfl) ?_
        refine va_ti hx hb hTt2 w.2.2 hw.1 (v := .int (tb_most p1.toNatClampNeg)) rfl d_Lb_set_34 ?_
        have hw := hw.2
        refine lv_icmp_le (tgt := 48) hx hb d_Lb_set_35 (by decide) (fun hc => ?_) (fun hc => ?_)
        · have hw := hw.1 hc
          refine lv_aload_n hx hb d_Lb_set_48 rfl (lv_at hl 0 rfl) ?_
          refine kg (C1 := R_Lb) (T := F_Lb) (N := 5) (ci := 9) (ref := "LineBreaker") (v := .ref (ad 11)) C w 0 1 iw_Lb rfl rfl (by decide) kw_357 rfl rfl d_Lb_set_49 ?_
          refine kg (C1 := R_St) (T := F_St) (N := 5) (ci := 8) (ref := "LineBreaker$Settings") (v := .ref (ad 12)) C w 11 0 iw_St rfl rfl (by decide) kw_113 rfl rfl d_Lb_set_52 ?_
          refine lv_iload_n hx hb d_Lb_set_55 rfl (lv_at hl 1 rfl) ?_
          refine lv_iload_n hx hb d_Lb_set_56 rfl (lv_at hl 2 rfl) ?_
          obtain ⟨f3, ef3⟩ : ∃ z : Nat → Int32, z = upd (S.1 12) p1.toNatClampNeg p2 := ⟨_, rfl⟩
          refine ks_i (f := (S.1 12)) (w2 := wC K ad (sA S 12 f3) ++ X) C w 12 rfl hw.1 (by rw [← ef3]; rfl) d_Lb_set_57 (fun H locs w => ?_)
          have hw := hw.2 f3 ef3
          refine W.widen (k := 1) (n := 6) (by decide) (by decide) ?_
          refine tx_ret ?_
          exact ke_v (post := (fun (u : (Nat → Int32)) => post u)) (st := (fun (u : (Nat → Int32)) => wC K ad (sA S 12 u) ++ X)) (u := f3) C hr d_Lb_set_58 (wn_eq w rfl) hw
        · have hw := hw.2 hc
          exact w_Lb_set_38 C hr htr hne   hw _ w (lv_sub hl [] rfl)
    · have hw := hw.2 hc
      exact w_Lb_set_10 C hr htr hne   hw _ w (lv_sub hl [] rfl)
set_option maxHeartbeats 4000000 in
set_option maxRecDepth 100000 in
theorem w_Lb_wide_10 {S : ST} {post : (Nat → Int32) → Prop} {px : String → Prop} (C : cx p s m args meth c prog_1_method_10_code 4 "LineBreaker" n0 G K) (hr : meth.sig.returnType = none) (htr : l.stackTraces = false) (hne : c.exceptionTable.toList = []) : wl_Lb_wide_10 S post px  → ∀ (ls : Array Slot), wn n0 G (wC K ad S ++ X) s s.heap [] → lv_has ls 4 [] → W p l e rm_Lb_wide s m args below meth c s.heap [] 0 0 (tmq below (va_Qv (fun (u : (Nat → Int32)) => post u) (fun (u : (Nat → Int32)) t => we n0 G (wC K ad (sA S 13 u) ++ X) t) (al n0)) px args s 1 6 (al n0)) (F0 m 10 ls []) := by
  have hx := C.1
  have hb := C.2.1
  have hts := C.2.2.2.2.1
  intro  hw ls w hl
  unfold wl_Lb_wide_10 at hw
  obtain ⟨sa, hstr⟩ := fx_str (i := 607) (own := "LineBreaker") (k := 115) (text := "only lines 0 to 19 have widths of their own") C.2.2.2.2.2.2.2.2 (by decide +kernel)
  exact tx_throw (names := ["java/lang/RuntimeException", "java/lang/Exception"]) (text := "only lines 0 to 19 have widths of their own") C w hne htr (by decide +kernel) (by decide +kernel) (tw_90 hts C.2.2.2.2.2.2.2.2) kw_409 kw_410 kw_15 hstr hl.1 d_Lb_wide_10 d_Lb_wide_13 d_Lb_wide_14 d_Lb_wide_16 d_Lb_wide_19 (by decide) (Nat.le_of_ble_eq_true rfl) (by decide) (by decide) hw (by decide) (by decide)
set_option maxHeartbeats 4000000 in
set_option maxRecDepth 100000 in
theorem w_Lb_wide_26 {S : ST} {post : (Nat → Int32) → Prop} {px : String → Prop} (C : cx p s m args meth c prog_1_method_10_code 4 "LineBreaker" n0 G K) (hr : meth.sig.returnType = none) (htr : l.stackTraces = false) (hne : c.exceptionTable.toList = []) : ∀ (n : Nat) (a13 : (Nat → Int32)) (x2 : Int32) (x3 : Int32), wl_Lb_wide_26 S post px n a13 x2 x3 → ∀ (H : Heap) (locs : List Loc) (ls : Array Slot), wn n0 G (wC K ad (sA S 13 a13) ++ X) s H locs → lv_has ls 4 [(0, .ref (ad 0)), (2, .int x2), (3, .int x3)] → W p l e rm_Lb_wide s m args below meth c H locs 1 6 (tmq below (va_Qv (fun (u : (Nat → Int32)) => post u) (fun (u : (Nat → Int32)) t => we n0 G (wC K ad (sA S 13 u) ++ X) t) (al n0)) px args s 1 6 (al n0)) (F0 m 26 ls []) := by
  have hx := C.1
  have hb := C.2.1
  have hts := C.2.2.2.2.1
  intro n
  induction n with
  | zero =>
    intro a13 x2 x3 hw
    unfold wl_Lb_wide_26 at hw
    exact hw.elim
  | succ n ih =>
    intro a13 x2 x3 hw H locs ls w hl
    unfold wl_Lb_wide_26 at hw
    refine lv_iload_n hx hb d_Lb_wide_26 rfl (lv_at hl 2 rfl) ?_
    refine lv_bipush (v := 20) hx hb d_Lb_wide_27 (by decide) ?_
    refine lv_icmp_ge (tgt := 48) hx hb d_Lb_wide_29 (by decide) (fun hc => ?_) (fun hc => ?_)
    · have hw := hw.1 hc
      refine W.widen (k := 1) (n := 6) (by decide) (by decide) ?_
      refine tx_ret ?_
      exact ke_v (post := (fun (u : (Nat → Int32)) => post u)) (st := (fun (u : (Nat → Int32)) => wC K ad (sA S 13 u) ++ X)) (u := a13) C hr d_Lb_wide_48 (wn_eq w rfl) hw
    · have hw := hw.2 hc
      refine lv_aload_n hx hb d_Lb_wide_32 rfl (lv_at hl 0 rfl) ?_
      refine kg (C1 := R_Lb) (T := F_Lb) (N := 5) (ci := 9) (ref := "LineBreaker") (v := .ref (ad 11)) C w 0 1 iw_Lb rfl rfl (by decide) kw_357 rfl rfl d_Lb_wide_33 ?_
      refine kg (C1 := R_St) (T := F_St) (N := 5) (ci := 8) (ref := "LineBreaker$Settings") (v := .ref (ad 13)) C w 11 1 iw_St rfl rfl (by decide) kw_115 rfl rfl d_Lb_wide_36 ?_
      refine lv_iload_n hx hb d_Lb_wide_39 rfl (lv_at hl 2 rfl) ?_
      refine lv_iload_n hx hb d_Lb_wide_40 rfl (lv_at hl 1 rfl) ?_
      obtain ⟨f1, ef1⟩ : ∃ z : Nat → Int32, z = upd a13 x3.toNatClampNeg x2 := ⟨_, rfl⟩
      refine ks_i (f := a13) (w2 := wC K ad (sA S 13 f1) ++ X) C w 13 rfl hw.1 (by rw [← ef1]; rfl) d_Lb_wide_41 (fun H locs w => ?_)
      have hw := hw.2 f1 ef1
      obtain ⟨v2, ev2⟩ : ∃ y : Int32, y = x3 + 1 := ⟨_, rfl⟩
      refine lv_iinc (v := v2) (lv' := [(3, .int v2), (0, .ref (ad 0)), (2, .int x2)]) hx hb d_Lb_wide_42 hl (k := 2) rfl (by rw [ev2]; rfl) (by decide) rfl (fun ls hl => ?_)
      have hw := hw v2 ev2
      refine lv_goto (tgt := 26) hx hb d_Lb_wide_45 (by decide) ?_
      exact ih f1 x2 v2 hw _ _ _ (wn_eq w rfl) (lv_sub hl [1, 2, 0] rfl)
set_option maxHeartbeats 4000000 in
set_option maxRecDepth 100000 in
theorem c_Lb_wide (l : Launch) (htr : l.stackTraces = false) (n0 : Nat) (G : va_G) (K : KT) (ad : Nat → Nat) (X : va_W) (S : ST) (p1 : Int32) (p2 : Int32) (post : (Nat → Int32) → Prop) (px : String → Prop) (hw : wp_Lb_wide S p1 p2 post px) : tmet l y_Lb_wide (Cond.code y_Lb_wide prog_1_method_10_code 4 none :: gw) rm_Lb_wide (va_Pc [.ref (ad 0), .int p1, .int p2] (wb n0 G K (wC K ad S ++ X))) (va_Qv (fun (u : (Nat → Int32)) => post u) (fun (u : (Nat → Int32)) t => we n0 G (wC K ad (sA S 13 u) ++ X) t) (al n0)) px 1 6 (al n0) := by
  refine kt_start (own := "LineBreaker") (by decide +kernel) rfl ?_
  intro p e s m below meth c C hr hne w
  have hx := C.1
  have hb := C.2.1
  have hts := C.2.2.2.2.1
  have hl := lv_entry ([.ref (ad 0), .int p1, .int p2]) (n := 4) (Nat.le_of_ble_eq_true rfl)
  rw [lg_entry_eq]
  generalize (lg_sl ([.ref (ad 0), .int p1, .int p2]) ++ List.replicate (4 - (lg_sl ([.ref (ad 0), .int p1, .int p2])).length) Slot.unset).toArray = ls at hl ⊢
  have hl : lv_has ls 4 [(0, .ref (ad 0)), (1, .int p1), (2, .int p2)] := hl
  unfold wp_Lb_wide at hw
  refine lv_iload_n hx hb d_Lb_wide_0 rfl (lv_at hl 1 rfl) ?_
  refine lv_if_lt (tgt := 10) hx hb d_Lb_wide_1 (by decide) (fun hc => ?_) (fun hc => ?_)
  · have hw := hw.1 hc
    exact w_Lb_wide_10 C hr htr hne   hw _ w (lv_sub hl [] rfl)
  · have hw := hw.2 hc
    refine lv_iload_n hx hb d_Lb_wide_4 rfl (lv_at hl 1 rfl) ?_
    refine lv_bipush (v := 20) hx hb d_Lb_wide_5 (by decide) ?_
    refine lv_icmp_lt (tgt := 20) hx hb d_Lb_wide_7 (by decide) (fun hc => ?_) (fun hc => ?_)
    · have hw := hw.1 hc
      refine lv_iload_n hx hb d_Lb_wide_20 rfl (lv_at hl 2 rfl) ?_
      refine td_v (tr_S (y := y_Lb_requireSize) (As := [.int p2]) (n := 1) C w (c_Lb_requireSize l htr n0 G K ad X S p2 _ _ hw) kw_401 kw_402 kw_1 kw_403 (by decide +kernel) rfl rfl ⟨Nat.le_of_ble_eq_true rfl, Nat.le_of_ble_eq_true rfl⟩ rfl hl.1 rfl (Nat.le_of_ble_eq_true rfl) d_Lb_wide_21 ⟨Nat.le_of_ble_eq_true rfl, Nat.le_of_ble_eq_true rfl⟩) (tx_pass C hne (by decide) (by decide) rfl) (fun hw => ?_)
      refine lv_iload_n hx hb d_Lb_wide_24 rfl (lv_at hl 1 rfl) ?_
      refine lv_istore_n (lv' := [(3, .int p1), (0, .ref (ad 0)), (1, .int p1), (2, .int p2)]) hx hb d_Lb_wide_25 rfl hl (by decide) rfl (fun ls hl => ?_)
      obtain ⟨n9, hw⟩ := hw
      exact w_Lb_wide_26 C hr htr hne  n9 (S.1 13) p2 p1 hw _ _ _ (wn_eq w rfl) (lv_sub hl [1, 3, 0] rfl)
    · have hw := hw.2 hc
      exact w_Lb_wide_10 C hr htr hne   hw _ w (lv_sub hl [] rfl)
set_option maxHeartbeats 4000000 in
set_option maxRecDepth 100000 in
theorem w_Lb_around_9 {S : ST} {post : Int32 → Int32 → Int32 → Int32 → Int32 → Int32 → Int32 → Int32 → Int32 → Int32 → Int32 → Int32 → Prop} {px : String → Prop} (C : cx p s m args meth c prog_1_method_11_code 7 "LineBreaker" n0 G K) (hr : meth.sig.returnType = none) (htr : l.stackTraces = false) (hne : c.exceptionTable.toList = []) : wl_Lb_around_9 S post px  → ∀ (ls : Array Slot), wn n0 G (wC K ad S ++ X) s s.heap [] → lv_has ls 7 [] → W p l e rm_Lb_around s m args below meth c s.heap [] 0 0 (tmq below (va_Qv (fun (u : Int32 × Int32 × Int32 × Int32 × Int32 × Int32 × Int32 × Int32 × Int32 × Int32 × Int32 × Int32) => post u.1 u.2.1 u.2.2.1 u.2.2.2.1 u.2.2.2.2.1 u.2.2.2.2.2.1 u.2.2.2.2.2.2.1 u.2.2.2.2.2.2.2.1 u.2.2.2.2.2.2.2.2.1 u.2.2.2.2.2.2.2.2.2.1 u.2.2.2.2.2.2.2.2.2.2.1 u.2.2.2.2.2.2.2.2.2.2.2) (fun (u : Int32 × Int32 × Int32 × Int32 × Int32 × Int32 × Int32 × Int32 × Int32 × Int32 × Int32 × Int32) t => we n0 G (wC K ad (sI (sI (sI (sI (sI (sI (sI (sI (sI (sI (sI (sI S 896 u.1) 897 u.2.1) 898 u.2.2.1) 899 u.2.2.2.1) 960 u.2.2.2.2.1) 961 u.2.2.2.2.2.1) 962 u.2.2.2.2.2.2.1) 963 u.2.2.2.2.2.2.2.1) 1024 u.2.2.2.2.2.2.2.2.1) 1025 u.2.2.2.2.2.2.2.2.2.1) 1026 u.2.2.2.2.2.2.2.2.2.2.1) 1027 u.2.2.2.2.2.2.2.2.2.2.2) ++ X) t) (al n0)) px args s 4 24 (al n0)) (F0 m 9 ls []) := by
  have hx := C.1
  have hb := C.2.1
  have hts := C.2.2.2.2.1
  intro  hw ls w hl
  unfold wl_Lb_around_9 at hw
  obtain ⟨sa, hstr⟩ := fx_str (i := 615) (own := "LineBreaker") (k := 120) (text := "there is only left, right and the fill") C.2.2.2.2.2.2.2.2 (by decide +kernel)
  exact tx_throw (names := ["java/lang/RuntimeException", "java/lang/Exception"]) (text := "there is only left, right and the fill") C w hne htr (by decide +kernel) (by decide +kernel) (tw_90 hts C.2.2.2.2.2.2.2.2) kw_409 kw_410 kw_15 hstr hl.1 d_Lb_around_9 d_Lb_around_12 d_Lb_around_13 d_Lb_around_15 d_Lb_around_18 (by decide) (Nat.le_of_ble_eq_true rfl) (by decide) (by decide) hw (by decide) (by decide)
set_option maxHeartbeats 4000000 in
set_option maxRecDepth 100000 in
theorem c_Lb_around (l : Launch) (htr : l.stackTraces = false) (n0 : Nat) (G : va_G) (K : KT) (ad : Nat → Nat) (X : va_W) (S : ST) (p1 : Int32) (p2 : Int32) (p3 : Int32) (p4 : Int32) (p5 : Int32) (post : Int32 → Int32 → Int32 → Int32 → Int32 → Int32 → Int32 → Int32 → Int32 → Int32 → Int32 → Int32 → Prop) (px : String → Prop) (hw : wp_Lb_around S p1 p2 p3 p4 p5 post px) : tmet l y_Lb_around (Cond.code y_Lb_around prog_1_method_11_code 7 none :: gw) rm_Lb_around (va_Pc [.ref (ad 0), .int p1, .int p2, .int p3, .int p4, .int p5] (wb n0 G K (wC K ad S ++ X))) (va_Qv (fun (u : Int32 × Int32 × Int32 × Int32 × Int32 × Int32 × Int32 × Int32 × Int32 × Int32 × Int32 × Int32) => post u.1 u.2.1 u.2.2.1 u.2.2.2.1 u.2.2.2.2.1 u.2.2.2.2.2.1 u.2.2.2.2.2.2.1 u.2.2.2.2.2.2.2.1 u.2.2.2.2.2.2.2.2.1 u.2.2.2.2.2.2.2.2.2.1 u.2.2.2.2.2.2.2.2.2.2.1 u.2.2.2.2.2.2.2.2.2.2.2) (fun (u : Int32 × Int32 × Int32 × Int32 × Int32 × Int32 × Int32 × Int32 × Int32 × Int32 × Int32 × Int32) t => we n0 G (wC K ad (sI (sI (sI (sI (sI (sI (sI (sI (sI (sI (sI (sI S 896 u.1) 897 u.2.1) 898 u.2.2.1) 899 u.2.2.2.1) 960 u.2.2.2.2.1) 961 u.2.2.2.2.2.1) 962 u.2.2.2.2.2.2.1) 963 u.2.2.2.2.2.2.2.1) 1024 u.2.2.2.2.2.2.2.2.1) 1025 u.2.2.2.2.2.2.2.2.2.1) 1026 u.2.2.2.2.2.2.2.2.2.2.1) 1027 u.2.2.2.2.2.2.2.2.2.2.2) ++ X) t) (al n0)) px 4 24 (al n0) := by
  refine kt_start (own := "LineBreaker") (by decide +kernel) rfl ?_
  intro p e s m below meth c C hr hne w
  have hx := C.1
  have hb := C.2.1
  have hts := C.2.2.2.2.1
  have hl := lv_entry ([.ref (ad 0), .int p1, .int p2, .int p3, .int p4, .int p5]) (n := 7) (Nat.le_of_ble_eq_true rfl)
  rw [lg_entry_eq]
  generalize (lg_sl ([.ref (ad 0), .int p1, .int p2, .int p3, .int p4, .int p5]) ++ List.replicate (7 - (lg_sl ([.ref (ad 0), .int p1, .int p2, .int p3, .int p4, .int p5])).length) Slot.unset).toArray = ls at hl ⊢
  have hl : lv_has ls 7 [(0, .ref (ad 0)), (1, .int p1), (2, .int p2), (3, .int p3), (4, .int p4), (5, .int p5)] := hl
  unfold wp_Lb_around at hw
  refine lv_iload_n hx hb d_Lb_around_0 rfl (lv_at hl 1 rfl) ?_
  refine lv_if_lt (tgt := 9) hx hb d_Lb_around_1 (by decide) (fun hc => ?_) (fun hc => ?_)
  · have hw := hw.1 hc
    exact w_Lb_around_9 C hr htr hne   hw _ w (lv_sub hl [] rfl)
  · have hw := hw.2 hc
    refine lv_iload_n hx hb d_Lb_around_4 rfl (lv_at hl 1 rfl) ?_
    refine lv_iconst (v := 2) hx hb d_Lb_around_5 (by decide) ?_
    refine lv_icmp_le (tgt := 19) hx hb d_Lb_around_6 (by decide) (fun hc => ?_) (fun hc => ?_)
    · have hw := hw.1 hc
      refine lv_iload_n hx hb d_Lb_around_19 rfl (lv_at hl 2 rfl) ?_
      refine lv_iload_n hx hb d_Lb_around_20 rfl (lv_at hl 3 rfl) ?_
      refine lv_iload hx hb d_Lb_around_21 (lv_at hl 4 rfl) ?_
      refine lv_iload hx hb d_Lb_around_23 (lv_at hl 5 rfl) ?_
      refine td_v (tr_S (y := y_Lb_requireGlue) (As := [.int p2, .int p3, .int p4, .int p5]) (n := 4) C w (c_Lb_requireGlue l htr n0 G K ad X S p2 p3 p4 p5 _ _ hw) kw_511 kw_512 kw_1 kw_513 (by decide +kernel) rfl rfl ⟨Nat.le_of_ble_eq_true rfl, Nat.le_of_ble_eq_true rfl⟩ rfl hl.1 rfl (Nat.le_of_ble_eq_true rfl) d_Lb_around_25 ⟨Nat.le_of_ble_eq_true rfl, Nat.le_of_ble_eq_true rfl⟩) (tx_pass C hne (by decide) (by decide) rfl) (fun hw => ?_)
      refine lv_iload_n hx hb d_Lb_around_28 rfl (lv_at hl 1 rfl) ?_
      refine lv_if_ne (tgt := 42) hx hb d_Lb_around_29 (by decide) (fun hc => ?_) (fun hc => ?_)
      · have hw := hw.1 hc
        refine lv_iload_n hx hb d_Lb_around_42 rfl (lv_at hl 1 rfl) ?_
        refine lv_iconst (v := 1) hx hb d_Lb_around_43 (by decide) ?_
        refine lv_icmp_ne (tgt := 57) hx hb d_Lb_around_44 (by decide) (fun hc => ?_) (fun hc => ?_)
        · have hw := hw.1 hc
          refine lv_aload_n hx hb d_Lb_around_57 rfl (lv_at hl 0 rfl) ?_
          refine kg (C1 := R_Lb) (T := F_Lb) (N := 5) (ci := 9) (ref := "LineBreaker") (v := .ref (ad 11)) C w 0 1 iw_Lb rfl rfl (by decide) kw_357 rfl rfl d_Lb_around_58 ?_
          refine kg (C1 := R_St) (T := F_St) (N := 5) (ci := 8) (ref := "LineBreaker$Settings") (v := .ref (ad 16)) C w 11 4 iw_St rfl rfl (by decide) kw_124 rfl rfl d_Lb_around_61 ?_
          refine lv_astore (lv' := [(6, .ref (ad 16)), (0, .ref (ad 0)), (1, .int p1), (2, .int p2), (3, .int p3), (4, .int p4), (5, .int p5)]) hx hb d_Lb_around_64 hl (by decide) rfl (fun ls hl => ?_)
          refine lv_aload hx hb d_Lb_around_66 (lv_at hl 0 rfl) ?_
          refine lv_iload_n hx hb d_Lb_around_68 rfl (lv_at hl 3 rfl) ?_
          refine lv_iload_n hx hb d_Lb_around_69 rfl (lv_at hl 4 rfl) ?_
          refine lv_iload hx hb d_Lb_around_70 (lv_at hl 5 rfl) ?_
          refine lv_iload hx hb d_Lb_around_72 (lv_at hl 6 rfl) ?_
          refine kc_v (st := fun (u : Int32 × Int32 × Int32 × Int32) => wC K ad (sI (sI (sI (sI S 1024 u.1) 1025 u.2.1) 1026 u.2.2.1) 1027 u.2.2.2) ++ X) w (kr_V (y := y_Gl_become) (C1 := R_Gl) (T := F_Gl) (N := 4) (ci := 2) (q0 := 16) (As := [.int p2, .int p3, .int p4, .int p5]) (n := 4) C w (c_Gl_become_16 l n0 G K ad X S p2 p3 p4 p5 _ hw) (gw_V kw_616 kw_617 kw_618 kw_4 kw_619) (by decide +kernel) rfl rfl ⟨Nat.le_of_ble_eq_true rfl, Nat.le_of_ble_eq_true rfl⟩ rfl rfl rfl hl.1 rfl (Nat.le_of_ble_eq_true rfl) d_Lb_around_74 ⟨Nat.le_of_ble_eq_true rfl, Nat.le_of_ble_eq_true rfl⟩) (fun u H locs hw w => ?_)
          obtain ⟨v1, v2, v3, v4⟩ := u
          dsimp only at hw
          have w : wn n0 G (wC K ad (sI (sI (sI (sI S 1024 v1) 1025 v2) 1026 v3) 1027 v4) ++ X) s H locs := w
          refine W.widen (k := 4) (n := 24) (by decide) (by decide) ?_
          refine tx_ret ?_
          exact ke_v (post := (fun (u : Int32 × Int32 × Int32 × Int32 × Int32 × Int32 × Int32 × Int32 × Int32 × Int32 × Int32 × Int32) => post u.1 u.2.1 u.2.2.1 u.2.2.2.1 u.2.2.2.2.1 u.2.2.2.2.2.1 u.2.2.2.2.2.2.1 u.2.2.2.2.2.2.2.1 u.2.2.2.2.2.2.2.2.1 u.2.2.2.2.2.2.2.2.2.1 u.2.2.2.2.2.2.2.2.2.2.1 u.2.2.2.2.2.2.2.2.2.2.2)) (st := (fun (u : Int32 × Int32 × Int32 × Int32 × Int32 × Int32 × Int32 × Int32 × Int32 × Int32 × Int32 × Int32) => wC K ad (sI (sI (sI (sI (sI (sI (sI (sI (sI (sI (sI (sI S 896 u.1) 897 u.2.1) 898 u.2.2.1) 899 u.2.2.2.1) 960 u.2.2.2.2.1) 961 u.2.2.2.2.2.1) 962 u.2.2.2.2.2.2.1) 963 u.2.2.2.2.2.2.2.1) 1024 u.2.2.2.2.2.2.2.2.1) 1025 u.2.2.2.2.2.2.2.2.2.1) 1026 u.2.2.2.2.2.2.2.2.2.2.1) 1027 u.2.2.2.2.2.2.2.2.2.2.2) ++ X)) (u := ((S.2.2 896), (S.2.2 897), (S.2.2 898), (S.2.2 899), (S.2.2 960), (S.2.2 961), (S.2.2 962), (S.2.2 963), v1, v2, v3, v4)) C hr d_Lb_around_77 (wn_eq w rfl) hw
        · have hw := hw.2 hc
          refine lv_aload_n hx hb d_Lb_around_47 rfl (lv_at hl 0 rfl) ?_
          refine kg (C1 := R_Lb) (T := F_Lb) (N := 5) (ci := 9) (ref := "LineBreaker") (v := .ref (ad 11)) C w 0 1 iw_Lb rfl rfl (by decide) kw_357 rfl rfl d_Lb_around_48 ?_
          refine kg (C1 := R_St) (T := F_St) (N := 5) (ci := 8) (ref := "LineBreaker$Settings") (v := .ref (ad 15)) C w 11 3 iw_St rfl rfl (by decide) kw_121 rfl rfl d_Lb_around_51 ?_
          refine lv_goto (tgt := 64) hx hb d_Lb_around_54 (by decide) ?_
          refine lv_astore (lv' := [(6, .ref (ad 15)), (0, .ref (ad 0)), (1, .int p1), (2, .int p2), (3, .int p3), (4, .int p4), (5, .int p5)]) hx hb d_Lb_around_64 hl (by decide) rfl (fun ls hl => ?_)
          refine lv_aload hx hb d_Lb_around_66 (lv_at hl 0 rfl) ?_
          refine lv_iload_n hx hb d_Lb_around_68 rfl (lv_at hl 3 rfl) ?_
          refine lv_iload_n hx hb d_Lb_around_69 rfl (lv_at hl 4 rfl) ?_
          refine lv_iload hx hb d_Lb_around_70 (lv_at hl 5 rfl) ?_
          refine lv_iload hx hb d_Lb_around_72 (lv_at hl 6 rfl) ?_
          refine kc_v (st := fun (u : Int32 × Int32 × Int32 × Int32) => wC K ad (sI (sI (sI (sI S 960 u.1) 961 u.2.1) 962 u.2.2.1) 963 u.2.2.2) ++ X) w (kr_V (y := y_Gl_become) (C1 := R_Gl) (T := F_Gl) (N := 4) (ci := 2) (q0 := 15) (As := [.int p2, .int p3, .int p4, .int p5]) (n := 4) C w (c_Gl_become_15 l n0 G K ad X S p2 p3 p4 p5 _ hw) (gw_V kw_616 kw_617 kw_618 kw_4 kw_619) (by decide +kernel) rfl rfl ⟨Nat.le_of_ble_eq_true rfl, Nat.le_of_ble_eq_true rfl⟩ rfl rfl rfl hl.1 rfl (Nat.le_of_ble_eq_true rfl) d_Lb_around_74 ⟨Nat.le_of_ble_eq_true rfl, Nat.le_of_ble_eq_true rfl⟩) (fun u H locs hw w => ?_)
          obtain ⟨v5, v6, v7, v8⟩ := u
          dsimp only at hw
          have w : wn n0 G (wC K ad (sI (sI (sI (sI S 960 v5) 961 v6) 962 v7) 963 v8) ++ X) s H locs := w
          refine W.widen (k := 4) (n := 24) (by decide) (by decide) ?_
          refine tx_ret ?_
          exact ke_v (post := (fun (u : Int32 × Int32 × Int32 × Int32 × Int32 × Int32 × Int32 × Int32 × Int32 × Int32 × Int32 × Int32) => post u.1 u.2.1 u.2.2.1 u.2.2.2.1 u.2.2.2.2.1 u.2.2.2.2.2.1 u.2.2.2.2.2.2.1 u.2.2.2.2.2.2.2.1 u.2.2.2.2.2.2.2.2.1 u.2.2.2.2.2.2.2.2.2.1 u.2.2.2.2.2.2.2.2.2.2.1 u.2.2.2.2.2.2.2.2.2.2.2)) (st := (fun (u : Int32 × Int32 × Int32 × Int32 × Int32 × Int32 × Int32 × Int32 × Int32 × Int32 × Int32 × Int32) => wC K ad (sI (sI (sI (sI (sI (sI (sI (sI (sI (sI (sI (sI S 896 u.1) 897 u.2.1) 898 u.2.2.1) 899 u.2.2.2.1) 960 u.2.2.2.2.1) 961 u.2.2.2.2.2.1) 962 u.2.2.2.2.2.2.1) 963 u.2.2.2.2.2.2.2.1) 1024 u.2.2.2.2.2.2.2.2.1) 1025 u.2.2.2.2.2.2.2.2.2.1) 1026 u.2.2.2.2.2.2.2.2.2.2.1) 1027 u.2.2.2.2.2.2.2.2.2.2.2) ++ X)) (u := ((S.2.2 896), (S.2.2 897), (S.2.2 898), (S.2.2 899), v5, v6, v7, v8, (S.2.2 1024), (S.2.2 1025), (S.2.2 1026), (S.2.2 1027))) C hr d_Lb_around_77 (wn_eq w rfl) hw
      · have hw := hw.2 hc
        refine lv_aload_n hx hb d_Lb_around_32 rfl (lv_at hl 0 rfl) ?_
        refine kg (C1 := R_Lb) (T := F_Lb) (N := 5) (ci := 9) (ref := "LineBreaker") (v := .ref (ad 11)) C w 0 1 iw_Lb rfl rfl (by decide) kw_357 rfl rfl d_Lb_around_33 ?_
        refine kg (C1 := R_St) (T := F_St) (N := 5) (ci := 8) (ref := "LineBreaker$Settings") (v := .ref (ad 14)) C w 11 2 iw_St rfl rfl (by decide) kw_118 rfl rfl d_Lb_around_36 ?_
        refine lv_goto (tgt := 64) hx hb d_Lb_around_39 (by decide) ?_
        refine lv_astore (lv' := [(6, .ref (ad 14)), (0, .ref (ad 0)), (1, .int p1), (2, .int p2), (3, .int p3), (4, .int p4), (5, .int p5)]) hx hb d_Lb_around_64 hl (by decide) rfl (fun ls hl => ?_)
        refine lv_aload hx hb d_Lb_around_66 (lv_at hl 0 rfl) ?_
        refine lv_iload_n hx hb d_Lb_around_68 rfl (lv_at hl 3 rfl) ?_
        refine lv_iload_n hx hb d_Lb_around_69 rfl (lv_at hl 4 rfl) ?_
        refine lv_iload hx hb d_Lb_around_70 (lv_at hl 5 rfl) ?_
        refine lv_iload hx hb d_Lb_around_72 (lv_at hl 6 rfl) ?_
        refine kc_v (st := fun (u : Int32 × Int32 × Int32 × Int32) => wC K ad (sI (sI (sI (sI S 896 u.1) 897 u.2.1) 898 u.2.2.1) 899 u.2.2.2) ++ X) w (kr_V (y := y_Gl_become) (C1 := R_Gl) (T := F_Gl) (N := 4) (ci := 2) (q0 := 14) (As := [.int p2, .int p3, .int p4, .int p5]) (n := 4) C w (c_Gl_become l n0 G K ad X S p2 p3 p4 p5 _ hw) (gw_V kw_616 kw_617 kw_618 kw_4 kw_619) (by decide +kernel) rfl rfl ⟨Nat.le_of_ble_eq_true rfl, Nat.le_of_ble_eq_true rfl⟩ rfl rfl rfl hl.1 rfl (Nat.le_of_ble_eq_true rfl) d_Lb_around_74 ⟨Nat.le_of_ble_eq_true rfl, Nat.le_of_ble_eq_true rfl⟩) (fun u H locs hw w => ?_)
        obtain ⟨v9, v10, v11, v12⟩ := u
        dsimp only at hw
        have w : wn n0 G (wC K ad (sI (sI (sI (sI S 896 v9) 897 v10) 898 v11) 899 v12) ++ X) s H locs := w
        refine W.widen (k := 4) (n := 24) (by decide) (by decide) ?_
        refine tx_ret ?_
        exact ke_v (post := (fun (u : Int32 × Int32 × Int32 × Int32 × Int32 × Int32 × Int32 × Int32 × Int32 × Int32 × Int32 × Int32) => post u.1 u.2.1 u.2.2.1 u.2.2.2.1 u.2.2.2.2.1 u.2.2.2.2.2.1 u.2.2.2.2.2.2.1 u.2.2.2.2.2.2.2.1 u.2.2.2.2.2.2.2.2.1 u.2.2.2.2.2.2.2.2.2.1 u.2.2.2.2.2.2.2.2.2.2.1 u.2.2.2.2.2.2.2.2.2.2.2)) (st := (fun (u : Int32 × Int32 × Int32 × Int32 × Int32 × Int32 × Int32 × Int32 × Int32 × Int32 × Int32 × Int32) => wC K ad (sI (sI (sI (sI (sI (sI (sI (sI (sI (sI (sI (sI S 896 u.1) 897 u.2.1) 898 u.2.2.1) 899 u.2.2.2.1) 960 u.2.2.2.2.1) 961 u.2.2.2.2.2.1) 962 u.2.2.2.2.2.2.1) 963 u.2.2.2.2.2.2.2.1) 1024 u.2.2.2.2.2.2.2.2.1) 1025 u.2.2.2.2.2.2.2.2.2.1) 1026 u.2.2.2.2.2.2.2.2.2.2.1) 1027 u.2.2.2.2.2.2.2.2.2.2.2) ++ X)) (u := (v9, v10, v11, v12, (S.2.2 960), (S.2.2 961), (S.2.2 962), (S.2.2 963), (S.2.2 1024), (S.2.2 1025), (S.2.2 1026), (S.2.2 1027))) C hr d_Lb_around_77 (wn_eq w rfl) hw
    · have hw := hw.2 hc
      exact w_Lb_around_9 C hr htr hne   hw _ w (lv_sub hl [] rfl)
set_option maxHeartbeats 4000000 in
set_option maxRecDepth 100000 in
theorem w_Lb_breakUp_118 {S : ST} {post : Int32 → (Nat → Int32) → (Nat → Int32) → (Nat → Int32) → (Nat → Int32) → (Nat → Int32) → (Nat → Int32) → (Nat → Int32) → (Nat → Int32) → (Nat → Int32) → (Nat → Int32) → (Nat → Int32) → (Nat → Int32) → (Nat → Int32) → (Nat → Int32) → (Nat → Int32) → (Nat → Int32) → (Nat → Int32) → (Nat → Int32) → (Nat → Int32) → (Nat → Int32) → (Nat → Int32) → (Nat → Int32) → (Nat → Int64) → (Nat → Int64) → (Nat → Int64) → Int32 → Int32 → Int32 → Int32 → Int32 → Int32 → Int32 → Int32 → Int32 → Int32 → Int32 → Int32 → Int32 → Int32 → Int32 → Int32 → Int32 → Int32 → Prop} {px : String → Prop} (C : cx p s m args meth c prog_1_method_12_code 5 "LineBreaker" n0 G K) (hr : meth.sig.returnType = (some .int)) (htr : l.stackTraces = false) (hne : c.exceptionTable.toList = []) {K98 : (Nat → Int32) → (Nat → Int32) → (Nat → Int32) → (Nat → Int32) → (Nat → Int32) → (Nat → Int32) → (Nat → Int32) → (Nat → Int32) → (Nat → Int32) → (Nat → Int32) → (Nat → Int32) → (Nat → Int32) → (Nat → Int32) → (Nat → Int32) → (Nat → Int32) → (Nat → Int32) → (Nat → Int32) → (Nat → Int64) → (Nat → Int64) → Int32 → Int32 → Int32 → Int32 → Int32 → Int32 → Int32 → Int32 → Int32 → Int32 → Int32 → Int32 → Int32 → Int32 → Int32 → Int32 → Int32 → Int32 → Int32 → Int32 → Prop} (hk98 : ∀ (a18 : (Nat → Int32)) (a19 : (Nat → Int32)) (a20 : (Nat → Int32)) (a21 : (Nat → Int32)) (a22 : (Nat → Int32)) (a23 : (Nat → Int32)) (a24 : (Nat → Int32)) (a25 : (Nat → Int32)) (a26 : (Nat → Int32)) (a27 : (Nat → Int32)) (a28 : (Nat → Int32)) (a32 : (Nat → Int32)) (a33 : (Nat → Int32)) (a34 : (Nat → Int32)) (a35 : (Nat → Int32)) (a39 : (Nat → Int32)) (a40 : (Nat → Int32)) (l36 : (Nat → Int64)) (l38 : (Nat → Int64)) (i1099 : Int32) (i1862 : Int32) (i1863 : Int32) (i1864 : Int32) (i1865 : Int32) (i1922 : Int32) (i1923 : Int32) (i1924 : Int32) (i1925 : Int32) (i1926 : Int32) (i1927 : Int32) (i1928 : Int32) (i1989 : Int32) (i2370 : Int32) (i2371 : Int32) (i2626 : Int32) (i2627 : Int32) (i2628 : Int32) (x2 : Int32) (x3 : Int32), K98 a18 a19 a20 a21 a22 a23 a24 a25 a26 a27 a28 a32 a33 a34 a35 a39 a40 l36 l38 i1099 i1862 i1863 i1864 i1865 i1922 i1923 i1924 i1925 i1926 i1927 i1928 i1989 i2370 i2371 i2626 i2627 i2628 x2 x3 → ∀ (H : Heap) (locs : List Loc) (ls : Array Slot), wn n0 G (wC K ad (sI (sI (sI (sI (sI (sI (sI (sI (sI (sI (sI (sI (sI (sI (sI (sI (sI (sI (sL (sL (sA (sA (sA (sA (sA (sA (sA (sA (sA (sA (sA (sA (sA (sA (sA (sA (sA S 18 a18) 19 a19) 20 a20) 21 a21) 22 a22) 23 a23) 24 a24) 25 a25) 26 a26) 27 a27) 28 a28) 32 a32) 33 a33) 34 a34) 35 a35) 39 a39) 40 a40) 36 l36) 38 l38) 1099 i1099) 1862 i1862) 1863 i1863) 1864 i1864) 1865 i1865) 1922 i1922) 1923 i1923) 1924 i1924) 1925 i1925) 1926 i1926) 1927 i1927) 1928 i1928) 1989 i1989) 2370 i2370) 2371 i2371) 2626 i2626) 2627 i2627) 2628 i2628) ++ X) s H locs → lv_has ls 5 [(0, .ref (ad 0)), (2, .int x2), (3, .int x3)] → W p l e rm_Lb_breakUp s m args below meth c H locs 0 0 (tmq below (va_Qi (fun r (u : (Nat → Int32) × (Nat → Int32) × (Nat → Int32) × (Nat → Int32) × (Nat → Int32) × (Nat → Int32) × (Nat → Int32) × (Nat → Int32) × (Nat → Int32) × (Nat → Int32) × (Nat → Int32) × (Nat → Int32) × (Nat → Int32) × (Nat → Int32) × (Nat → Int32) × (Nat → Int32) × (Nat → Int32) × (Nat → Int32) × (Nat → Int32) × (Nat → Int32) × (Nat → Int32) × (Nat → Int32) × (Nat → Int64) × (Nat → Int64) × (Nat → Int64) × Int32 × Int32 × Int32 × Int32 × Int32 × Int32 × Int32 × Int32 × Int32 × Int32 × Int32 × Int32 × Int32 × Int32 × Int32 × Int32 × Int32 × Int32) => post r u.1 u.2.1 u.2.2.1 u.2.2.2.1 u.2.2.2.2.1 u.2.2.2.2.2.1 u.2.2.2.2.2.2.1 u.2.2.2.2.2.2.2.1 u.2.2.2.2.2.2.2.2.1 u.2.2.2.2.2.2.2.2.2.1 u.2.2.2.2.2.2.2.2.2.2.1 u.2.2.2.2.2.2.2.2.2.2.2.1 u.2.2.2.2.2.2.2.2.2.2.2.2.1 u.2.2.2.2.2.2.2.2.2.2.2.2.2.1 u.2.2.2.2.2.2.2.2.2.2.2.2.2.2.1 u.2.2.2.2.2.2.2.2.2.2.2.2.2.2.2.1 u.2.2.2.2.2.2.2.2.2.2.2.2.2.2.2.2.1 u.2.2.2.2.2.2.2.2.2.2.2.2.2.2.2.2.2.1 u.2.2.2.2.2.2.2.2.2.2.2.2.2.2.2.2.2.2.1 u.2.2.2.2.2.2.2.2.2.2.2.2.2.2.2.2.2.2.2.1 u.2.2.2.2.2.2.2.2.2.2.2.2.2.2.2.2.2.2.2.2.1 u.2.2.2.2.2.2.2.2.2.2.2.2.2.2.2.2.2.2.2.2.2.1 u.2.2.2.2.2.2.2.2.2.2.2.2.2.2.2.2.2.2.2.2.2.2.1 u.2.2.2.2.2.2.2.2.2.2.2.2.2.2.2.2.2.2.2.2.2.2.2.1 u.2.2.2.2.2.2.2.2.2.2.2.2.2.2.2.2.2.2.2.2.2.2.2.2.1 u.2.2.2.2.2.2.2.2.2.2.2.2.2.2.2.2.2.2.2.2.2.2.2.2.2.1 u.2.2.2.2.2.2.2.2.2.2.2.2.2.2.2.2.2.2.2.2.2.2.2.2.2.2.1 u.2.2.2.2.2.2.2.2.2.2.2.2.2.2.2.2.2.2.2.2.2.2.2.2.2.2.2.1 u.2.2.2.2.2.2.2.2.2.2.2.2.2.2.2.2.2.2.2.2.2.2.2.2.2.2.2.2.1 u.2.2.2.2.2.2.2.2.2.2.2.2.2.2.2.2.2.2.2.2.2.2.2.2.2.2.2.2.2.1 u.2.2.2.2.2.2.2.2.2.2.2.2.2.2.2.2.2.2.2.2.2.2.2.2.2.2.2.2.2.2.1 u.2.2.2.2.2.2.2.2.2.2.2.2.2.2.2.2.2.2.2.2.2.2.2.2.2.2.2.2.2.2.2.1 u.2.2.2.2.2.2.2.2.2.2.2.2.2.2.2.2.2.2.2.2.2.2.2.2.2.2.2.2.2.2.2.2.1 u.2.2.2.2.2.2.2.2.2.2.2.2.2.2.2.2.2.2.2.2.2.2.2.2.2.2.2.2.2.2.2.2.2.1 u.2.2.2.2.2.2.2.2.2.2.2.2.2.2.2.2.2.2.2.2.2.2.2.2.2.2.2.2.2.2.2.2.2.2.1 u.2.2.2.2.2.2.2.2.2.2.2.2.2.2.2.2.2.2.2.2.2.2.2.2.2.2.2.2.2.2.2.2.2.2.2.1 u.2.2.2.2.2.2.2.2.2.2.2.2.2.2.2.2.2.2.2.2.2.2.2.2.2.2.2.2.2.2.2.2.2.2.2.2.1 u.2.2.2.2.2.2.2.2.2.2.2.2.2.2.2.2.2.2.2.2.2.2.2.2.2.2.2.2.2.2.2.2.2.2.2.2.2.1 u.2.2.2.2.2.2.2.2.2.2.2.2.2.2.2.2.2.2.2.2.2.2.2.2.2.2.2.2.2.2.2.2.2.2.2.2.2.2.1 u.2.2.2.2.2.2.2.2.2.2.2.2.2.2.2.2.2.2.2.2.2.2.2.2.2.2.2.2.2.2.2.2.2.2.2.2.2.2.2.1 u.2.2.2.2.2.2.2.2.2.2.2.2.2.2.2.2.2.2.2.2.2.2.2.2.2.2.2.2.2.2.2.2.2.2.2.2.2.2.2.2.1 u.2.2.2.2.2.2.2.2.2.2.2.2.2.2.2.2.2.2.2.2.2.2.2.2.2.2.2.2.2.2.2.2.2.2.2.2.2.2.2.2.2.1 u.2.2.2.2.2.2.2.2.2.2.2.2.2.2.2.2.2.2.2.2.2.2.2.2.2.2.2.2.2.2.2.2.2.2.2.2.2.2.2.2.2.2) (fun (u : (Nat → Int32) × (Nat → Int32) × (Nat → Int32) × (Nat → Int32) × (Nat → Int32) × (Nat → Int32) × (Nat → Int32) × (Nat → Int32) × (Nat → Int32) × (Nat → Int32) × (Nat → Int32) × (Nat → Int32) × (Nat → Int32) × (Nat → Int32) × (Nat → Int32) × (Nat → Int32) × (Nat → Int32) × (Nat → Int32) × (Nat → Int32) × (Nat → Int32) × (Nat → Int32) × (Nat → Int32) × (Nat → Int64) × (Nat → Int64) × (Nat → Int64) × Int32 × Int32 × Int32 × Int32 × Int32 × Int32 × Int32 × Int32 × Int32 × Int32 × Int32 × Int32 × Int32 × Int32 × Int32 × Int32 × Int32 × Int32) t => we n0 G (wC K ad (sI (sI (sI (sI (sI (sI (sI (sI (sI (sI (sI (sI (sI (sI (sI (sI (sI (sI (sL (sL (sL (sA (sA (sA (sA (sA (sA (sA (sA (sA (sA (sA (sA (sA (sA (sA (sA (sA (sA (sA (sA (sA (sA S 18 u.1) 19 u.2.1) 20 u.2.2.1) 21 u.2.2.2.1) 22 u.2.2.2.2.1) 23 u.2.2.2.2.2.1) 24 u.2.2.2.2.2.2.1) 25 u.2.2.2.2.2.2.2.1) 26 u.2.2.2.2.2.2.2.2.1) 27 u.2.2.2.2.2.2.2.2.2.1) 28 u.2.2.2.2.2.2.2.2.2.2.1) 32 u.2.2.2.2.2.2.2.2.2.2.2.1) 33 u.2.2.2.2.2.2.2.2.2.2.2.2.1) 34 u.2.2.2.2.2.2.2.2.2.2.2.2.2.1) 35 u.2.2.2.2.2.2.2.2.2.2.2.2.2.2.1) 39 u.2.2.2.2.2.2.2.2.2.2.2.2.2.2.2.1) 40 u.2.2.2.2.2.2.2.2.2.2.2.2.2.2.2.2.1) 43 u.2.2.2.2.2.2.2.2.2.2.2.2.2.2.2.2.2.1) 44 u.2.2.2.2.2.2.2.2.2.2.2.2.2.2.2.2.2.2.1) 45 u.2.2.2.2.2.2.2.2.2.2.2.2.2.2.2.2.2.2.2.1) 46 u.2.2.2.2.2.2.2.2.2.2.2.2.2.2.2.2.2.2.2.2.1) 47 u.2.2.2.2.2.2.2.2.2.2.2.2.2.2.2.2.2.2.2.2.2.1) 36 u.2.2.2.2.2.2.2.2.2.2.2.2.2.2.2.2.2.2.2.2.2.2.1) 38 u.2.2.2.2.2.2.2.2.2.2.2.2.2.2.2.2.2.2.2.2.2.2.2.1) 48 u.2.2.2.2.2.2.2.2.2.2.2.2.2.2.2.2.2.2.2.2.2.2.2.2.1) 1099 u.2.2.2.2.2.2.2.2.2.2.2.2.2.2.2.2.2.2.2.2.2.2.2.2.2.1) 1862 u.2.2.2.2.2.2.2.2.2.2.2.2.2.2.2.2.2.2.2.2.2.2.2.2.2.2.1) 1863 u.2.2.2.2.2.2.2.2.2.2.2.2.2.2.2.2.2.2.2.2.2.2.2.2.2.2.2.1) 1864 u.2.2.2.2.2.2.2.2.2.2.2.2.2.2.2.2.2.2.2.2.2.2.2.2.2.2.2.2.1) 1865 u.2.2.2.2.2.2.2.2.2.2.2.2.2.2.2.2.2.2.2.2.2.2.2.2.2.2.2.2.2.1) 1922 u.2.2.2.2.2.2.2.2.2.2.2.2.2.2.2.2.2.2.2.2.2.2.2.2.2.2.2.2.2.2.1) 1923 u.2.2.2.2.2.2.2.2.2.2.2.2.2.2.2.2.2.2.2.2.2.2.2.2.2.2.2.2.2.2.2.1) 1924 u.2.2.2.2.2.2.2.2.2.2.2.2.2.2.2.2.2.2.2.2.2.2.2.2.2.2.2.2.2.2.2.2.1) 1925 u.2.2.2.2.2.2.2.2.2.2.2.2.2.2.2.2.2.2.2.2.2.2.2.2.2.2.2.2.2.2.2.2.2.1) 1926 u.2.2.2.2.2.2.2.2.2.2.2.2.2.2.2.2.2.2.2.2.2.2.2.2.2.2.2.2.2.2.2.2.2.2.1) 1927 u.2.2.2.2.2.2.2.2.2.2.2.2.2.2.2.2.2.2.2.2.2.2.2.2.2.2.2.2.2.2.2.2.2.2.2.1) 1928 u.2.2.2.2.2.2.2.2.2.2.2.2.2.2.2.2.2.2.2.2.2.2.2.2.2.2.2.2.2.2.2.2.2.2.2.2.1) 1989 u.2.2.2.2.2.2.2.2.2.2.2.2.2.2.2.2.2.2.2.2.2.2.2.2.2.2.2.2.2.2.2.2.2.2.2.2.2.1) 2370 u.2.2.2.2.2.2.2.2.2.2.2.2.2.2.2.2.2.2.2.2.2.2.2.2.2.2.2.2.2.2.2.2.2.2.2.2.2.2.1) 2371 u.2.2.2.2.2.2.2.2.2.2.2.2.2.2.2.2.2.2.2.2.2.2.2.2.2.2.2.2.2.2.2.2.2.2.2.2.2.2.2.1) 2626 u.2.2.2.2.2.2.2.2.2.2.2.2.2.2.2.2.2.2.2.2.2.2.2.2.2.2.2.2.2.2.2.2.2.2.2.2.2.2.2.2.1) 2627 u.2.2.2.2.2.2.2.2.2.2.2.2.2.2.2.2.2.2.2.2.2.2.2.2.2.2.2.2.2.2.2.2.2.2.2.2.2.2.2.2.2.1) 2628 u.2.2.2.2.2.2.2.2.2.2.2.2.2.2.2.2.2.2.2.2.2.2.2.2.2.2.2.2.2.2.2.2.2.2.2.2.2.2.2.2.2.2) ++ X) t) (al n0)) px args s 1 6 (al n0)) (F0 m 98 ls [])) : ∀ (a18 : (Nat → Int32)) (a19 : (Nat → Int32)) (a20 : (Nat → Int32)) (a21 : (Nat → Int32)) (a22 : (Nat → Int32)) (a23 : (Nat → Int32)) (a24 : (Nat → Int32)) (a25 : (Nat → Int32)) (a26 : (Nat → Int32)) (a27 : (Nat → Int32)) (a28 : (Nat → Int32)) (a32 : (Nat → Int32)) (a33 : (Nat → Int32)) (a34 : (Nat → Int32)) (a35 : (Nat → Int32)) (a39 : (Nat → Int32)) (a40 : (Nat → Int32)) (l36 : (Nat → Int64)) (l38 : (Nat → Int64)) (i1099 : Int32) (i1862 : Int32) (i1863 : Int32) (i1864 : Int32) (i1865 : Int32) (i1922 : Int32) (i1923 : Int32) (i1924 : Int32) (i1925 : Int32) (i1926 : Int32) (i1927 : Int32) (i1928 : Int32) (i1989 : Int32) (i2370 : Int32) (i2371 : Int32) (i2626 : Int32) (i2627 : Int32) (i2628 : Int32) (x2 : Int32) (x3 : Int32) (z1 : Int32) (z2 : Int32), wl_Lb_breakUp_118 S post px K98 a18 a19 a20 a21 a22 a23 a24 a25 a26 a27 a28 a32 a33 a34 a35 a39 a40 l36 l38 i1099 i1862 i1863 i1864 i1865 i1922 i1923 i1924 i1925 i1926 i1927 i1928 i1989 i2370 i2371 i2626 i2627 i2628 x2 x3 z1 z2 → ∀ (H : Heap) (locs : List Loc) (ls : Array Slot), wn n0 G (wC K ad (sI (sI (sI (sI (sI (sI (sI (sI (sI (sI (sI (sI (sI (sI (sI (sI (sI (sI (sL (sL (sA (sA (sA (sA (sA (sA (sA (sA (sA (sA (sA (sA (sA (sA (sA (sA (sA S 18 a18) 19 a19) 20 a20) 21 a21) 22 a22) 23 a23) 24 a24) 25 a25) 26 a26) 27 a27) 28 a28) 32 a32) 33 a33) 34 a34) 35 a35) 39 a39) 40 a40) 36 l36) 38 l38) 1099 i1099) 1862 i1862) 1863 i1863) 1864 i1864) 1865 i1865) 1922 i1922) 1923 i1923) 1924 i1924) 1925 i1925) 1926 i1926) 1927 i1927) 1928 i1928) 1989 i1989) 2370 i2370) 2371 i2371) 2626 i2626) 2627 i2627) 2628 i2628) ++ X) s H locs → lv_has ls 5 [(0, .ref (ad 0)), (2, .int x2), (3, .int x3)] → W p l e rm_Lb_breakUp s m args below meth c H locs 0 0 (tmq below (va_Qi (fun r (u : (Nat → Int32) × (Nat → Int32) × (Nat → Int32) × (Nat → Int32) × (Nat → Int32) × (Nat → Int32) × (Nat → Int32) × (Nat → Int32) × (Nat → Int32) × (Nat → Int32) × (Nat → Int32) × (Nat → Int32) × (Nat → Int32) × (Nat → Int32) × (Nat → Int32) × (Nat → Int32) × (Nat → Int32) × (Nat → Int32) × (Nat → Int32) × (Nat → Int32) × (Nat → Int32) × (Nat → Int32) × (Nat → Int64) × (Nat → Int64) × (Nat → Int64) × Int32 × Int32 × Int32 × Int32 × Int32 × Int32 × Int32 × Int32 × Int32 × Int32 × Int32 × Int32 × Int32 × Int32 × Int32 × Int32 × Int32 × Int32) => post r u.1 u.2.1 u.2.2.1 u.2.2.2.1 u.2.2.2.2.1 u.2.2.2.2.2.1 u.2.2.2.2.2.2.1 u.2.2.2.2.2.2.2.1 u.2.2.2.2.2.2.2.2.1 u.2.2.2.2.2.2.2.2.2.1 u.2.2.2.2.2.2.2.2.2.2.1 u.2.2.2.2.2.2.2.2.2.2.2.1 u.2.2.2.2.2.2.2.2.2.2.2.2.1 u.2.2.2.2.2.2.2.2.2.2.2.2.2.1 u.2.2.2.2.2.2.2.2.2.2.2.2.2.2.1 u.2.2.2.2.2.2.2.2.2.2.2.2.2.2.2.1 u.2.2.2.2.2.2.2.2.2.2.2.2.2.2.2.2.1 u.2.2.2.2.2.2.2.2.2.2.2.2.2.2.2.2.2.1 u.2.2.2.2.2.2.2.2.2.2.2.2.2.2.2.2.2.2.1 u.2.2.2.2.2.2.2.2.2.2.2.2.2.2.2.2.2.2.2.1 u.2.2.2.2.2.2.2.2.2.2.2.2.2.2.2.2.2.2.2.2.1 u.2.2.2.2.2.2.2.2.2.2.2.2.2.2.2.2.2.2.2.2.2.1 u.2.2.2.2.2.2.2.2.2.2.2.2.2.2.2.2.2.2.2.2.2.2.1 u.2.2.2.2.2.2.2.2.2.2.2.2.2.2.2.2.2.2.2.2.2.2.2.1 u.2.2.2.2.2.2.2.2.2.2.2.2.2.2.2.2.2.2.2.2.2.2.2.2.1 u.2.2.2.2.2.2.2.2.2.2.2.2.2.2.2.2.2.2.2.2.2.2.2.2.2.1 u.2.2.2.2.2.2.2.2.2.2.2.2.2.2.2.2.2.2.2.2.2.2.2.2.2.2.1 u.2.2.2.2.2.2.2.2.2.2.2.2.2.2.2.2.2.2.2.2.2.2.2.2.2.2.2.1 u.2.2.2.2.2.2.2.2.2.2.2.2.2.2.2.2.2.2.2.2.2.2.2.2.2.2.2.2.1 u.2.2.2.2.2.2.2.2.2.2.2.2.2.2.2.2.2.2.2.2.2.2.2.2.2.2.2.2.2.1 u.2.2.2.2.2.2.2.2.2.2.2.2.2.2.2.2.2.2.2.2.2.2.2.2.2.2.2.2.2.2.1 u.2.2.2.2.2.2.2.2.2.2.2.2.2.2.2.2.2.2.2.2.2.2.2.2.2.2.2.2.2.2.2.1 u.2.2.2.2.2.2.2.2.2.2.2.2.2.2.2.2.2.2.2.2.2.2.2.2.2.2.2.2.2.2.2.2.1 u.2.2.2.2.2.2.2.2.2.2.2.2.2.2.2.2.2.2.2.2.2.2.2.2.2.2.2.2.2.2.2.2.2.1 u.2.2.2.2.2.2.2.2.2.2.2.2.2.2.2.2.2.2.2.2.2.2.2.2.2.2.2.2.2.2.2.2.2.2.1 u.2.2.2.2.2.2.2.2.2.2.2.2.2.2.2.2.2.2.2.2.2.2.2.2.2.2.2.2.2.2.2.2.2.2.2.1 u.2.2.2.2.2.2.2.2.2.2.2.2.2.2.2.2.2.2.2.2.2.2.2.2.2.2.2.2.2.2.2.2.2.2.2.2.1 u.2.2.2.2.2.2.2.2.2.2.2.2.2.2.2.2.2.2.2.2.2.2.2.2.2.2.2.2.2.2.2.2.2.2.2.2.2.1 u.2.2.2.2.2.2.2.2.2.2.2.2.2.2.2.2.2.2.2.2.2.2.2.2.2.2.2.2.2.2.2.2.2.2.2.2.2.2.1 u.2.2.2.2.2.2.2.2.2.2.2.2.2.2.2.2.2.2.2.2.2.2.2.2.2.2.2.2.2.2.2.2.2.2.2.2.2.2.2.1 u.2.2.2.2.2.2.2.2.2.2.2.2.2.2.2.2.2.2.2.2.2.2.2.2.2.2.2.2.2.2.2.2.2.2.2.2.2.2.2.2.1 u.2.2.2.2.2.2.2.2.2.2.2.2.2.2.2.2.2.2.2.2.2.2.2.2.2.2.2.2.2.2.2.2.2.2.2.2.2.2.2.2.2.1 u.2.2.2.2.2.2.2.2.2.2.2.2.2.2.2.2.2.2.2.2.2.2.2.2.2.2.2.2.2.2.2.2.2.2.2.2.2.2.2.2.2.2) (fun (u : (Nat → Int32) × (Nat → Int32) × (Nat → Int32) × (Nat → Int32) × (Nat → Int32) × (Nat → Int32) × (Nat → Int32) × (Nat → Int32) × (Nat → Int32) × (Nat → Int32) × (Nat → Int32) × (Nat → Int32) × (Nat → Int32) × (Nat → Int32) × (Nat → Int32) × (Nat → Int32) × (Nat → Int32) × (Nat → Int32) × (Nat → Int32) × (Nat → Int32) × (Nat → Int32) × (Nat → Int32) × (Nat → Int64) × (Nat → Int64) × (Nat → Int64) × Int32 × Int32 × Int32 × Int32 × Int32 × Int32 × Int32 × Int32 × Int32 × Int32 × Int32 × Int32 × Int32 × Int32 × Int32 × Int32 × Int32 × Int32) t => we n0 G (wC K ad (sI (sI (sI (sI (sI (sI (sI (sI (sI (sI (sI (sI (sI (sI (sI (sI (sI (sI (sL (sL (sL (sA (sA (sA (sA (sA (sA (sA (sA (sA (sA (sA (sA (sA (sA (sA (sA (sA (sA (sA (sA (sA (sA S 18 u.1) 19 u.2.1) 20 u.2.2.1) 21 u.2.2.2.1) 22 u.2.2.2.2.1) 23 u.2.2.2.2.2.1) 24 u.2.2.2.2.2.2.1) 25 u.2.2.2.2.2.2.2.1) 26 u.2.2.2.2.2.2.2.2.1) 27 u.2.2.2.2.2.2.2.2.2.1) 28 u.2.2.2.2.2.2.2.2.2.2.1) 32 u.2.2.2.2.2.2.2.2.2.2.2.1) 33 u.2.2.2.2.2.2.2.2.2.2.2.2.1) 34 u.2.2.2.2.2.2.2.2.2.2.2.2.2.1) 35 u.2.2.2.2.2.2.2.2.2.2.2.2.2.2.1) 39 u.2.2.2.2.2.2.2.2.2.2.2.2.2.2.2.1) 40 u.2.2.2.2.2.2.2.2.2.2.2.2.2.2.2.2.1) 43 u.2.2.2.2.2.2.2.2.2.2.2.2.2.2.2.2.2.1) 44 u.2.2.2.2.2.2.2.2.2.2.2.2.2.2.2.2.2.2.1) 45 u.2.2.2.2.2.2.2.2.2.2.2.2.2.2.2.2.2.2.2.1) 46 u.2.2.2.2.2.2.2.2.2.2.2.2.2.2.2.2.2.2.2.2.1) 47 u.2.2.2.2.2.2.2.2.2.2.2.2.2.2.2.2.2.2.2.2.2.1) 36 u.2.2.2.2.2.2.2.2.2.2.2.2.2.2.2.2.2.2.2.2.2.2.1) 38 u.2.2.2.2.2.2.2.2.2.2.2.2.2.2.2.2.2.2.2.2.2.2.2.1) 48 u.2.2.2.2.2.2.2.2.2.2.2.2.2.2.2.2.2.2.2.2.2.2.2.2.1) 1099 u.2.2.2.2.2.2.2.2.2.2.2.2.2.2.2.2.2.2.2.2.2.2.2.2.2.1) 1862 u.2.2.2.2.2.2.2.2.2.2.2.2.2.2.2.2.2.2.2.2.2.2.2.2.2.2.1) 1863 u.2.2.2.2.2.2.2.2.2.2.2.2.2.2.2.2.2.2.2.2.2.2.2.2.2.2.2.1) 1864 u.2.2.2.2.2.2.2.2.2.2.2.2.2.2.2.2.2.2.2.2.2.2.2.2.2.2.2.2.1) 1865 u.2.2.2.2.2.2.2.2.2.2.2.2.2.2.2.2.2.2.2.2.2.2.2.2.2.2.2.2.2.1) 1922 u.2.2.2.2.2.2.2.2.2.2.2.2.2.2.2.2.2.2.2.2.2.2.2.2.2.2.2.2.2.2.1) 1923 u.2.2.2.2.2.2.2.2.2.2.2.2.2.2.2.2.2.2.2.2.2.2.2.2.2.2.2.2.2.2.2.1) 1924 u.2.2.2.2.2.2.2.2.2.2.2.2.2.2.2.2.2.2.2.2.2.2.2.2.2.2.2.2.2.2.2.2.1) 1925 u.2.2.2.2.2.2.2.2.2.2.2.2.2.2.2.2.2.2.2.2.2.2.2.2.2.2.2.2.2.2.2.2.2.1) 1926 u.2.2.2.2.2.2.2.2.2.2.2.2.2.2.2.2.2.2.2.2.2.2.2.2.2.2.2.2.2.2.2.2.2.2.1) 1927 u.2.2.2.2.2.2.2.2.2.2.2.2.2.2.2.2.2.2.2.2.2.2.2.2.2.2.2.2.2.2.2.2.2.2.2.1) 1928 u.2.2.2.2.2.2.2.2.2.2.2.2.2.2.2.2.2.2.2.2.2.2.2.2.2.2.2.2.2.2.2.2.2.2.2.2.1) 1989 u.2.2.2.2.2.2.2.2.2.2.2.2.2.2.2.2.2.2.2.2.2.2.2.2.2.2.2.2.2.2.2.2.2.2.2.2.2.1) 2370 u.2.2.2.2.2.2.2.2.2.2.2.2.2.2.2.2.2.2.2.2.2.2.2.2.2.2.2.2.2.2.2.2.2.2.2.2.2.2.1) 2371 u.2.2.2.2.2.2.2.2.2.2.2.2.2.2.2.2.2.2.2.2.2.2.2.2.2.2.2.2.2.2.2.2.2.2.2.2.2.2.2.1) 2626 u.2.2.2.2.2.2.2.2.2.2.2.2.2.2.2.2.2.2.2.2.2.2.2.2.2.2.2.2.2.2.2.2.2.2.2.2.2.2.2.2.1) 2627 u.2.2.2.2.2.2.2.2.2.2.2.2.2.2.2.2.2.2.2.2.2.2.2.2.2.2.2.2.2.2.2.2.2.2.2.2.2.2.2.2.2.1) 2628 u.2.2.2.2.2.2.2.2.2.2.2.2.2.2.2.2.2.2.2.2.2.2.2.2.2.2.2.2.2.2.2.2.2.2.2.2.2.2.2.2.2.2) ++ X) t) (al n0)) px args s 1 6 (al n0)) (F0 m 118 ls [.int z2, .int z1, .ref (ad 29)]) := by
  have hx := C.1
  have hb := C.2.1
  have hts := C.2.2.2.2.1
  intro a18 a19 a20 a21 a22 a23 a24 a25 a26 a27 a28 a32 a33 a34 a35 a39 a40 l36 l38 i1099 i1862 i1863 i1864 i1865 i1922 i1923 i1924 i1925 i1926 i1927 i1928 i1989 i2370 i2371 i2626 i2627 i2628 x2 x3 z1 z2 hw H locs ls w hl
  unfold wl_Lb_breakUp_118 at hw
  refine kc_i (st := fun (u : (Nat → Int32) × (Nat → Int32) × (Nat → Int32) × (Nat → Int32) × (Nat → Int32) × (Nat → Int32) × (Nat → Int64) × (Nat → Int64) × Int32 × Int32 × Int32 × Int32 × Int32 × Int32 × Int32 × Int32 × Int32 × Int32 × Int32 × Int32 × Int32 × Int32) => wC K ad (sI (sI (sI (sI (sI (sI (sI (sI (sI (sI (sI (sI (sI (sI (sL (sL (sA (sA (sA (sA (sA (sA (sI (sI (sI (sI (sI (sI (sI (sI (sI (sI (sI (sI (sI (sI (sI (sI (sI (sI (sL (sL (sA (sA (sA (sA (sA (sA (sA (sA (sA (sA (sA (sA (sA (sA (sA (sA (sA S 18 a18) 19 a19) 20 a20) 21 a21) 22 a22) 23 a23) 24 a24) 25 a25) 26 a26) 27 a27) 28 a28) 32 a32) 33 a33) 34 a34) 35 a35) 39 a39) 40 a40) 36 l36) 38 l38) 1099 i1099) 1862 i1862) 1863 i1863) 1864 i1864) 1865 i1865) 1922 i1922) 1923 i1923) 1924 i1924) 1925 i1925) 1926 i1926) 1927 i1927) 1928 i1928) 1989 i1989) 2370 i2370) 2371 i2371) 2626 i2626) 2627 i2627) 2628 i2628) 32 u.1) 33 u.2.1) 34 u.2.2.1) 35 u.2.2.2.1) 39 u.2.2.2.2.1) 40 u.2.2.2.2.2.1) 36 u.2.2.2.2.2.2.1) 38 u.2.2.2.2.2.2.2.1) 1862 u.2.2.2.2.2.2.2.2.1) 1863 u.2.2.2.2.2.2.2.2.2.1) 1864 u.2.2.2.2.2.2.2.2.2.2.1) 1865 u.2.2.2.2.2.2.2.2.2.2.2.1) 1922 u.2.2.2.2.2.2.2.2.2.2.2.2.1) 1923 u.2.2.2.2.2.2.2.2.2.2.2.2.2.1) 1924 u.2.2.2.2.2.2.2.2.2.2.2.2.2.2.1) 1925 u.2.2.2.2.2.2.2.2.2.2.2.2.2.2.2.1) 1926 u.2.2.2.2.2.2.2.2.2.2.2.2.2.2.2.2.1) 1927 u.2.2.2.2.2.2.2.2.2.2.2.2.2.2.2.2.2.1) 1928 u.2.2.2.2.2.2.2.2.2.2.2.2.2.2.2.2.2.2.1) 1989 u.2.2.2.2.2.2.2.2.2.2.2.2.2.2.2.2.2.2.2.1) 2370 u.2.2.2.2.2.2.2.2.2.2.2.2.2.2.2.2.2.2.2.2.1) 2371 u.2.2.2.2.2.2.2.2.2.2.2.2.2.2.2.2.2.2.2.2.2) ++ X) w (kr_V (y := y_Se_run) (C1 := R_Se) (T := F_Se) (N := 10) (ci := 7) (q0 := 29) (As := [.int z1, .int z2]) (n := 2) C w (c_Se_run l n0 G K ad X (sI (sI (sI (sI (sI (sI (sI (sI (sI (sI (sI (sI (sI (sI (sI (sI (sI (sI (sL (sL (sA (sA (sA (sA (sA (sA (sA (sA (sA (sA (sA (sA (sA (sA (sA (sA (sA S 18 a18) 19 a19) 20 a20) 21 a21) 22 a22) 23 a23) 24 a24) 25 a25) 26 a26) 27 a27) 28 a28) 32 a32) 33 a33) 34 a34) 35 a35) 39 a39) 40 a40) 36 l36) 38 l38) 1099 i1099) 1862 i1862) 1863 i1863) 1864 i1864) 1865 i1865) 1922 i1922) 1923 i1923) 1924 i1924) 1925 i1925) 1926 i1926) 1927 i1927) 1928 i1928) 1989 i1989) 2370 i2370) 2371 i2371) 2626 i2626) 2627 i2627) 2628 i2628) z1 z2 _ hw) (gw_V kw_711 kw_712 kw_713 kw_6 kw_714) (by decide +kernel) rfl rfl ⟨Nat.le_of_ble_eq_true rfl, Nat.le_of_ble_eq_true rfl⟩ rfl rfl rfl hl.1 rfl (Nat.le_of_ble_eq_true rfl) d_Lb_breakUp_118 ⟨Nat.le_of_ble_eq_true rfl, Nat.le_of_ble_eq_true rfl⟩) (fun r23 u H locs hw w => ?_)
  obtain ⟨f1, f2, f3, f4, f5, f6, f7, f8, v9, v10, v11, v12, v13, v14, v15, v16, v17, v18, v19, v20, v21, v22⟩ := u
  dsimp only at hw
  have w : wn n0 G (wC K ad (sI (sI (sI (sI (sI (sI (sI (sI (sI (sI (sI (sI (sI (sI (sI (sI (sI (sI (sL (sL (sA (sA (sA (sA (sA (sA (sA (sA (sA (sA (sA (sA (sA (sA (sA (sA (sA S 18 a18) 19 a19) 20 a20) 21 a21) 22 a22) 23 a23) 24 a24) 25 a25) 26 a26) 27 a27) 28 a28) 32 f1) 33 f2) 34 f3) 35 f4) 39 f5) 40 f6) 36 f7) 38 f8) 1099 i1099) 1862 v9) 1863 v10) 1864 v11) 1865 v12) 1922 v13) 1923 v14) 1924 v15) 1925 v16) 1926 v17) 1927 v18) 1928 v19) 1989 v20) 2370 v21) 2371 v22) 2626 i2626) 2627 i2627) 2628 i2628) ++ X) s H locs := w
  refine lv_istore (lv' := [(4, .int r23), (0, .ref (ad 0)), (2, .int x2), (3, .int x3)]) hx hb d_Lb_breakUp_121 hl (by decide) rfl (fun ls hl => ?_)
  refine lv_iload hx hb d_Lb_breakUp_123 (lv_at hl 0 rfl) ?_
  refine lv_bipush (v := (-2)) hx hb d_Lb_breakUp_125 (by decide) ?_
  refine lv_icmp_ne (tgt := 133) hx hb d_Lb_breakUp_127 (by decide) (fun hc => ?_) (fun hc => ?_)
  · have hw := hw.1 hc
    refine lv_iload hx hb d_Lb_breakUp_133 (lv_at hl 0 rfl) ?_
    refine lv_if_eq (tgt := 160) hx hb d_Lb_breakUp_135 (by decide) (fun hc => ?_) (fun hc => ?_)
    · have hw := hw.1 hc
      obtain ⟨v24, ev24⟩ : ∃ y : Int32, y = x3 + 1 := ⟨_, rfl⟩
      refine lv_iinc (v := v24) (lv' := [(3, .int v24), (4, .int r23), (0, .ref (ad 0)), (2, .int x2)]) hx hb d_Lb_breakUp_160 hl (k := 3) rfl (by rw [ev24]; rfl) (by decide) rfl (fun ls hl => ?_)
      have hw := hw v24 ev24
      refine lv_goto (tgt := 98) hx hb d_Lb_breakUp_163 (by decide) ?_
      exact hk98 a18 a19 a20 a21 a22 a23 a24 a25 a26 a27 a28 f1 f2 f3 f4 f5 f6 f7 f8 i1099 v9 v10 v11 v12 v13 v14 v15 v16 v17 v18 v19 v20 v21 v22 i2626 i2627 i2628 x2 v24 hw _ _ _ (wn_eq w rfl) (lv_sub hl [2, 3, 0] rfl)
    · have hw := hw.2 hc
      refine lv_aload_n hx hb d_Lb_breakUp_138 rfl (lv_at hl 1 rfl) ?_
      refine kg (C1 := R_Lb) (T := F_Lb) (N := 5) (ci := 9) (ref := "LineBreaker") (v := .ref (ad 41)) C w 0 4 iw_Lb rfl rfl (by decide) kw_360 rfl rfl d_Lb_breakUp_139 ?_
      refine lv_aload_n hx hb d_Lb_breakUp_142 rfl (lv_at hl 1 rfl) ?_
      refine kg (C1 := R_Lb) (T := F_Lb) (N := 5) (ci := 9) (ref := "LineBreaker") (v := .ref (ad 29)) C w 0 3 iw_Lb rfl rfl (by decide) kw_359 rfl rfl d_Lb_breakUp_143 ?_
      refine lv_iload hx hb d_Lb_breakUp_146 (lv_at hl 0 rfl) ?_
      refine lv_iload_n hx hb d_Lb_breakUp_148 rfl (lv_at hl 3 rfl) ?_
      refine kc_v (st := fun (u : (Nat → Int32) × (Nat → Int32) × (Nat → Int32) × (Nat → Int32) × (Nat → Int32) × (Nat → Int64) × Int32 × Int32 × Int32 × Int32 × Int32 × Int32 × Int32 × Int32 × Int32) => wC K ad (sI (sI (sI (sI (sI (sI (sI (sI (sI (sL (sA (sA (sA (sA (sA (sI (sI (sI (sI (sI (sI (sI (sI (sI (sI (sI (sI (sI (sI (sI (sI (sI (sI (sL (sL (sA (sA (sA (sA (sA (sA (sA (sA (sA (sA (sA (sA (sA (sA (sA (sA (sA S 18 a18) 19 a19) 20 a20) 21 a21) 22 a22) 23 a23) 24 a24) 25 a25) 26 a26) 27 a27) 28 a28) 32 f1) 33 f2) 34 f3) 35 f4) 39 f5) 40 f6) 36 f7) 38 f8) 1099 i1099) 1862 v9) 1863 v10) 1864 v11) 1865 v12) 1922 v13) 1923 v14) 1924 v15) 1925 v16) 1926 v17) 1927 v18) 1928 v19) 1989 v20) 2370 v21) 2371 v22) 2626 i2626) 2627 i2627) 2628 i2628) 43 u.1) 44 u.2.1) 45 u.2.2.1) 46 u.2.2.2.1) 47 u.2.2.2.2.1) 48 u.2.2.2.2.2.1) 1923 u.2.2.2.2.2.2.1) 1924 u.2.2.2.2.2.2.2.1) 1925 u.2.2.2.2.2.2.2.2.1) 1926 u.2.2.2.2.2.2.2.2.2.1) 1927 u.2.2.2.2.2.2.2.2.2.2.1) 1928 u.2.2.2.2.2.2.2.2.2.2.2.1) 2626 u.2.2.2.2.2.2.2.2.2.2.2.2.1) 2627 u.2.2.2.2.2.2.2.2.2.2.2.2.2.1) 2628 u.2.2.2.2.2.2.2.2.2.2.2.2.2.2) ++ X) w (kr_V (y := y_Ou_record) (C1 := R_Ou) (T := F_Ou) (N := 5) (ci := 5) (q0 := 41) (As := [.ref (ad 29), .int r23, .int x3]) (n := 3) C w (c_Ou_record l n0 G K ad X (sI (sI (sI (sI (sI (sI (sI (sI (sI (sI (sI (sI (sI (sI (sI (sI (sI (sI (sL (sL (sA (sA (sA (sA (sA (sA (sA (sA (sA (sA (sA (sA (sA (sA (sA (sA (sA S 18 a18) 19 a19) 20 a20) 21 a21) 22 a22) 23 a23) 24 a24) 25 a25) 26 a26) 27 a27) 28 a28) 32 f1) 33 f2) 34 f3) 35 f4) 39 f5) 40 f6) 36 f7) 38 f8) 1099 i1099) 1862 v9) 1863 v10) 1864 v11) 1865 v12) 1922 v13) 1923 v14) 1924 v15) 1925 v16) 1926 v17) 1927 v18) 1928 v19) 1989 v20) 2370 v21) 2371 v22) 2626 i2626) 2627 i2627) 2628 i2628) r23 x3 _ hw) (gw_V kw_828 kw_829 kw_830 kw_10 kw_831) (by decide +kernel) rfl rfl ⟨Nat.le_of_ble_eq_true rfl, Nat.le_of_ble_eq_true rfl⟩ rfl rfl rfl hl.1 rfl (Nat.le_of_ble_eq_true rfl) d_Lb_breakUp_149 ⟨Nat.le_of_ble_eq_true rfl, Nat.le_of_ble_eq_true rfl⟩) (fun u H locs hw w => ?_)
      obtain ⟨f25, f26, f27, f28, f29, f30, v31, v32, v33, v34, v35, v36, v37, v38, v39⟩ := u
      dsimp only at hw
      have w : wn n0 G (wC K ad (sI (sI (sI (sI (sI (sI (sI (sI (sI (sI (sI (sI (sI (sI (sI (sI (sI (sI (sL (sL (sL (sA (sA (sA (sA (sA (sA (sA (sA (sA (sA (sA (sA (sA (sA (sA (sA (sA (sA (sA (sA (sA (sA S 18 a18) 19 a19) 20 a20) 21 a21) 22 a22) 23 a23) 24 a24) 25 a25) 26 a26) 27 a27) 28 a28) 32 f1) 33 f2) 34 f3) 35 f4) 39 f5) 40 f6) 43 f25) 44 f26) 45 f27) 46 f28) 47 f29) 36 f7) 38 f8) 48 f30) 1099 i1099) 1862 v9) 1863 v10) 1864 v11) 1865 v12) 1922 v13) 1923 v31) 1924 v32) 1925 v33) 1926 v34) 1927 v35) 1928 v36) 1989 v20) 2370 v21) 2371 v22) 2626 v37) 2627 v38) 2628 v39) ++ X) s H locs := w
      refine lv_aload_n hx hb d_Lb_breakUp_152 rfl (lv_at hl 1 rfl) ?_
      refine kg (C1 := R_Lb) (T := F_Lb) (N := 5) (ci := 9) (ref := "LineBreaker") (v := .ref (ad 41)) C w 0 4 iw_Lb rfl rfl (by decide) kw_360 rfl rfl d_Lb_breakUp_153 ?_
      refine kg (C1 := R_Ou) (T := F_Ou) (N := 5) (ci := 5) (ref := "LineBreaker$Outcome") (v := .int v37) C w 41 2 iw_Ou rfl rfl (by decide) kw_340 rfl rfl d_Lb_breakUp_156 ?_
      refine W.widen (k := 1) (n := 6) (by decide) (by decide) ?_
      refine tx_ret ?_
      exact ke_i (post := (fun r (u : (Nat → Int32) × (Nat → Int32) × (Nat → Int32) × (Nat → Int32) × (Nat → Int32) × (Nat → Int32) × (Nat → Int32) × (Nat → Int32) × (Nat → Int32) × (Nat → Int32) × (Nat → Int32) × (Nat → Int32) × (Nat → Int32) × (Nat → Int32) × (Nat → Int32) × (Nat → Int32) × (Nat → Int32) × (Nat → Int32) × (Nat → Int32) × (Nat → Int32) × (Nat → Int32) × (Nat → Int32) × (Nat → Int64) × (Nat → Int64) × (Nat → Int64) × Int32 × Int32 × Int32 × Int32 × Int32 × Int32 × Int32 × Int32 × Int32 × Int32 × Int32 × Int32 × Int32 × Int32 × Int32 × Int32 × Int32 × Int32) => post r u.1 u.2.1 u.2.2.1 u.2.2.2.1 u.2.2.2.2.1 u.2.2.2.2.2.1 u.2.2.2.2.2.2.1 u.2.2.2.2.2.2.2.1 u.2.2.2.2.2.2.2.2.1 u.2.2.2.2.2.2.2.2.2.1 u.2.2.2.2.2.2.2.2.2.2.1 u.2.2.2.2.2.2.2.2.2.2.2.1 u.2.2.2.2.2.2.2.2.2.2.2.2.1 u.2.2.2.2.2.2.2.2.2.2.2.2.2.1 u.2.2.2.2.2.2.2.2.2.2.2.2.2.2.1 u.2.2.2.2.2.2.2.2.2.2.2.2.2.2.2.1 u.2.2.2.2.2.2.2.2.2.2.2.2.2.2.2.2.1 u.2.2.2.2.2.2.2.2.2.2.2.2.2.2.2.2.2.1 u.2.2.2.2.2.2.2.2.2.2.2.2.2.2.2.2.2.2.1 u.2.2.2.2.2.2.2.2.2.2.2.2.2.2.2.2.2.2.2.1 u.2.2.2.2.2.2.2.2.2.2.2.2.2.2.2.2.2.2.2.2.1 u.2.2.2.2.2.2.2.2.2.2.2.2.2.2.2.2.2.2.2.2.2.1 u.2.2.2.2.2.2.2.2.2.2.2.2.2.2.2.2.2.2.2.2.2.2.1 u.2.2.2.2.2.2.2.2.2.2.2.2.2.2.2.2.2.2.2.2.2.2.2.1 u.2.2.2.2.2.2.2.2.2.2.2.2.2.2.2.2.2.2.2.2.2.2.2.2.1 u.2.2.2.2.2.2.2.2.2.2.2.2.2.2.2.2.2.2.2.2.2.2.2.2.2.1 u.2.2.2.2.2.2.2.2.2.2.2.2.2.2.2.2.2.2.2.2.2.2.2.2.2.2.1 u.2.2.2.2.2.2.2.2.2.2.2.2.2.2.2.2.2.2.2.2.2.2.2.2.2.2.2.1 u.2.2.2.2.2.2.2.2.2.2.2.2.2.2.2.2.2.2.2.2.2.2.2.2.2.2.2.2.1 u.2.2.2.2.2.2.2.2.2.2.2.2.2.2.2.2.2.2.2.2.2.2.2.2.2.2.2.2.2.1 u.2.2.2.2.2.2.2.2.2.2.2.2.2.2.2.2.2.2.2.2.2.2.2.2.2.2.2.2.2.2.1 u.2.2.2.2.2.2.2.2.2.2.2.2.2.2.2.2.2.2.2.2.2.2.2.2.2.2.2.2.2.2.2.1 u.2.2.2.2.2.2.2.2.2.2.2.2.2.2.2.2.2.2.2.2.2.2.2.2.2.2.2.2.2.2.2.2.1 u.2.2.2.2.2.2.2.2.2.2.2.2.2.2.2.2.2.2.2.2.2.2.2.2.2.2.2.2.2.2.2.2.2.1 u.2.2.2.2.2.2.2.2.2.2.2.2.2.2.2.2.2.2.2.2.2.2.2.2.2.2.2.2.2.2.2.2.2.2.1 u.2.2.2.2.2.2.2.2.2.2.2.2.2.2.2.2.2.2.2.2.2.2.2.2.2.2.2.2.2.2.2.2.2.2.2.1 u.2.2.2.2.2.2.2.2.2.2.2.2.2.2.2.2.2.2.2.2.2.2.2.2.2.2.2.2.2.2.2.2.2.2.2.2.1 u.2.2.2.2.2.2.2.2.2.2.2.2.2.2.2.2.2.2.2.2.2.2.2.2.2.2.2.2.2.2.2.2.2.2.2.2.2.1 u.2.2.2.2.2.2.2.2.2.2.2.2.2.2.2.2.2.2.2.2.2.2.2.2.2.2.2.2.2.2.2.2.2.2.2.2.2.2.1 u.2.2.2.2.2.2.2.2.2.2.2.2.2.2.2.2.2.2.2.2.2.2.2.2.2.2.2.2.2.2.2.2.2.2.2.2.2.2.2.1 u.2.2.2.2.2.2.2.2.2.2.2.2.2.2.2.2.2.2.2.2.2.2.2.2.2.2.2.2.2.2.2.2.2.2.2.2.2.2.2.2.1 u.2.2.2.2.2.2.2.2.2.2.2.2.2.2.2.2.2.2.2.2.2.2.2.2.2.2.2.2.2.2.2.2.2.2.2.2.2.2.2.2.2.1 u.2.2.2.2.2.2.2.2.2.2.2.2.2.2.2.2.2.2.2.2.2.2.2.2.2.2.2.2.2.2.2.2.2.2.2.2.2.2.2.2.2.2)) (st := (fun (u : (Nat → Int32) × (Nat → Int32) × (Nat → Int32) × (Nat → Int32) × (Nat → Int32) × (Nat → Int32) × (Nat → Int32) × (Nat → Int32) × (Nat → Int32) × (Nat → Int32) × (Nat → Int32) × (Nat → Int32) × (Nat → Int32) × (Nat → Int32) × (Nat → Int32) × (Nat → Int32) × (Nat → Int32) × (Nat → Int32) × (Nat → Int32) × (Nat → Int32) × (Nat → Int32) × (Nat → Int32) × (Nat → Int64) × (Nat → Int64) × (Nat → Int64) × Int32 × Int32 × Int32 × Int32 × Int32 × Int32 × Int32 × Int32 × Int32 × Int32 × Int32 × Int32 × Int32 × Int32 × Int32 × Int32 × Int32 × Int32) => wC K ad (sI (sI (sI (sI (sI (sI (sI (sI (sI (sI (sI (sI (sI (sI (sI (sI (sI (sI (sL (sL (sL (sA (sA (sA (sA (sA (sA (sA (sA (sA (sA (sA (sA (sA (sA (sA (sA (sA (sA (sA (sA (sA (sA S 18 u.1) 19 u.2.1) 20 u.2.2.1) 21 u.2.2.2.1) 22 u.2.2.2.2.1) 23 u.2.2.2.2.2.1) 24 u.2.2.2.2.2.2.1) 25 u.2.2.2.2.2.2.2.1) 26 u.2.2.2.2.2.2.2.2.1) 27 u.2.2.2.2.2.2.2.2.2.1) 28 u.2.2.2.2.2.2.2.2.2.2.1) 32 u.2.2.2.2.2.2.2.2.2.2.2.1) 33 u.2.2.2.2.2.2.2.2.2.2.2.2.1) 34 u.2.2.2.2.2.2.2.2.2.2.2.2.2.1) 35 u.2.2.2.2.2.2.2.2.2.2.2.2.2.2.1) 39 u.2.2.2.2.2.2.2.2.2.2.2.2.2.2.2.1) 40 u.2.2.2.2.2.2.2.2.2.2.2.2.2.2.2.2.1) 43 u.2.2.2.2.2.2.2.2.2.2.2.2.2.2.2.2.2.1) 44 u.2.2.2.2.2.2.2.2.2.2.2.2.2.2.2.2.2.2.1) 45 u.2.2.2.2.2.2.2.2.2.2.2.2.2.2.2.2.2.2.2.1) 46 u.2.2.2.2.2.2.2.2.2.2.2.2.2.2.2.2.2.2.2.2.1) 47 u.2.2.2.2.2.2.2.2.2.2.2.2.2.2.2.2.2.2.2.2.2.1) 36 u.2.2.2.2.2.2.2.2.2.2.2.2.2.2.2.2.2.2.2.2.2.2.1) 38 u.2.2.2.2.2.2.2.2.2.2.2.2.2.2.2.2.2.2.2.2.2.2.2.1) 48 u.2.2.2.2.2.2.2.2.2.2.2.2.2.2.2.2.2.2.2.2.2.2.2.2.1) 1099 u.2.2.2.2.2.2.2.2.2.2.2.2.2.2.2.2.2.2.2.2.2.2.2.2.2.1) 1862 u.2.2.2.2.2.2.2.2.2.2.2.2.2.2.2.2.2.2.2.2.2.2.2.2.2.2.1) 1863 u.2.2.2.2.2.2.2.2.2.2.2.2.2.2.2.2.2.2.2.2.2.2.2.2.2.2.2.1) 1864 u.2.2.2.2.2.2.2.2.2.2.2.2.2.2.2.2.2.2.2.2.2.2.2.2.2.2.2.2.1) 1865 u.2.2.2.2.2.2.2.2.2.2.2.2.2.2.2.2.2.2.2.2.2.2.2.2.2.2.2.2.2.1) 1922 u.2.2.2.2.2.2.2.2.2.2.2.2.2.2.2.2.2.2.2.2.2.2.2.2.2.2.2.2.2.2.1) 1923 u.2.2.2.2.2.2.2.2.2.2.2.2.2.2.2.2.2.2.2.2.2.2.2.2.2.2.2.2.2.2.2.1) 1924 u.2.2.2.2.2.2.2.2.2.2.2.2.2.2.2.2.2.2.2.2.2.2.2.2.2.2.2.2.2.2.2.2.1) 1925 u.2.2.2.2.2.2.2.2.2.2.2.2.2.2.2.2.2.2.2.2.2.2.2.2.2.2.2.2.2.2.2.2.2.1) 1926 u.2.2.2.2.2.2.2.2.2.2.2.2.2.2.2.2.2.2.2.2.2.2.2.2.2.2.2.2.2.2.2.2.2.2.1) 1927 u.2.2.2.2.2.2.2.2.2.2.2.2.2.2.2.2.2.2.2.2.2.2.2.2.2.2.2.2.2.2.2.2.2.2.2.1) 1928 u.2.2.2.2.2.2.2.2.2.2.2.2.2.2.2.2.2.2.2.2.2.2.2.2.2.2.2.2.2.2.2.2.2.2.2.2.1) 1989 u.2.2.2.2.2.2.2.2.2.2.2.2.2.2.2.2.2.2.2.2.2.2.2.2.2.2.2.2.2.2.2.2.2.2.2.2.2.1) 2370 u.2.2.2.2.2.2.2.2.2.2.2.2.2.2.2.2.2.2.2.2.2.2.2.2.2.2.2.2.2.2.2.2.2.2.2.2.2.2.1) 2371 u.2.2.2.2.2.2.2.2.2.2.2.2.2.2.2.2.2.2.2.2.2.2.2.2.2.2.2.2.2.2.2.2.2.2.2.2.2.2.2.1) 2626 u.2.2.2.2.2.2.2.2.2.2.2.2.2.2.2.2.2.2.2.2.2.2.2.2.2.2.2.2.2.2.2.2.2.2.2.2.2.2.2.2.1) 2627 u.2.2.2.2.2.2.2.2.2.2.2.2.2.2.2.2.2.2.2.2.2.2.2.2.2.2.2.2.2.2.2.2.2.2.2.2.2.2.2.2.2.1) 2628 u.2.2.2.2.2.2.2.2.2.2.2.2.2.2.2.2.2.2.2.2.2.2.2.2.2.2.2.2.2.2.2.2.2.2.2.2.2.2.2.2.2.2) ++ X)) (u := (a18, a19, a20, a21, a22, a23, a24, a25, a26, a27, a28, f1, f2, f3, f4, f5, f6, f25, f26, f27, f28, f29, f7, f8, f30, i1099, v9, v10, v11, v12, v13, v31, v32, v33, v34, v35, v36, v20, v21, v22, v37, v38, v39)) C hr d_Lb_breakUp_159 (wn_eq w rfl) hw
  · have hw := hw.2 hc
    refine lv_bipush (v := (-2)) hx hb d_Lb_breakUp_130 (by decide) ?_
    refine W.widen (k := 1) (n := 6) (by decide) (by decide) ?_
    refine tx_ret ?_
    exact ke_i (post := (fun r (u : (Nat → Int32) × (Nat → Int32) × (Nat → Int32) × (Nat → Int32) × (Nat → Int32) × (Nat → Int32) × (Nat → Int32) × (Nat → Int32) × (Nat → Int32) × (Nat → Int32) × (Nat → Int32) × (Nat → Int32) × (Nat → Int32) × (Nat → Int32) × (Nat → Int32) × (Nat → Int32) × (Nat → Int32) × (Nat → Int32) × (Nat → Int32) × (Nat → Int32) × (Nat → Int32) × (Nat → Int32) × (Nat → Int64) × (Nat → Int64) × (Nat → Int64) × Int32 × Int32 × Int32 × Int32 × Int32 × Int32 × Int32 × Int32 × Int32 × Int32 × Int32 × Int32 × Int32 × Int32 × Int32 × Int32 × Int32 × Int32) => post r u.1 u.2.1 u.2.2.1 u.2.2.2.1 u.2.2.2.2.1 u.2.2.2.2.2.1 u.2.2.2.2.2.2.1 u.2.2.2.2.2.2.2.1 u.2.2.2.2.2.2.2.2.1 u.2.2.2.2.2.2.2.2.2.1 u.2.2.2.2.2.2.2.2.2.2.1 u.2.2.2.2.2.2.2.2.2.2.2.1 u.2.2.2.2.2.2.2.2.2.2.2.2.1 u.2.2.2.2.2.2.2.2.2.2.2.2.2.1 u.2.2.2.2.2.2.2.2.2.2.2.2.2.2.1 u.2.2.2.2.2.2.2.2.2.2.2.2.2.2.2.1 u.2.2.2.2.2.2.2.2.2.2.2.2.2.2.2.2.1 u.2.2.2.2.2.2.2.2.2.2.2.2.2.2.2.2.2.1 u.2.2.2.2.2.2.2.2.2.2.2.2.2.2.2.2.2.2.1 u.2.2.2.2.2.2.2.2.2.2.2.2.2.2.2.2.2.2.2.1 u.2.2.2.2.2.2.2.2.2.2.2.2.2.2.2.2.2.2.2.2.1 u.2.2.2.2.2.2.2.2.2.2.2.2.2.2.2.2.2.2.2.2.2.1 u.2.2.2.2.2.2.2.2.2.2.2.2.2.2.2.2.2.2.2.2.2.2.1 u.2.2.2.2.2.2.2.2.2.2.2.2.2.2.2.2.2.2.2.2.2.2.2.1 u.2.2.2.2.2.2.2.2.2.2.2.2.2.2.2.2.2.2.2.2.2.2.2.2.1 u.2.2.2.2.2.2.2.2.2.2.2.2.2.2.2.2.2.2.2.2.2.2.2.2.2.1 u.2.2.2.2.2.2.2.2.2.2.2.2.2.2.2.2.2.2.2.2.2.2.2.2.2.2.1 u.2.2.2.2.2.2.2.2.2.2.2.2.2.2.2.2.2.2.2.2.2.2.2.2.2.2.2.1 u.2.2.2.2.2.2.2.2.2.2.2.2.2.2.2.2.2.2.2.2.2.2.2.2.2.2.2.2.1 u.2.2.2.2.2.2.2.2.2.2.2.2.2.2.2.2.2.2.2.2.2.2.2.2.2.2.2.2.2.1 u.2.2.2.2.2.2.2.2.2.2.2.2.2.2.2.2.2.2.2.2.2.2.2.2.2.2.2.2.2.2.1 u.2.2.2.2.2.2.2.2.2.2.2.2.2.2.2.2.2.2.2.2.2.2.2.2.2.2.2.2.2.2.2.1 u.2.2.2.2.2.2.2.2.2.2.2.2.2.2.2.2.2.2.2.2.2.2.2.2.2.2.2.2.2.2.2.2.1 u.2.2.2.2.2.2.2.2.2.2.2.2.2.2.2.2.2.2.2.2.2.2.2.2.2.2.2.2.2.2.2.2.2.1 u.2.2.2.2.2.2.2.2.2.2.2.2.2.2.2.2.2.2.2.2.2.2.2.2.2.2.2.2.2.2.2.2.2.2.1 u.2.2.2.2.2.2.2.2.2.2.2.2.2.2.2.2.2.2.2.2.2.2.2.2.2.2.2.2.2.2.2.2.2.2.2.1 u.2.2.2.2.2.2.2.2.2.2.2.2.2.2.2.2.2.2.2.2.2.2.2.2.2.2.2.2.2.2.2.2.2.2.2.2.1 u.2.2.2.2.2.2.2.2.2.2.2.2.2.2.2.2.2.2.2.2.2.2.2.2.2.2.2.2.2.2.2.2.2.2.2.2.2.1 u.2.2.2.2.2.2.2.2.2.2.2.2.2.2.2.2.2.2.2.2.2.2.2.2.2.2.2.2.2.2.2.2.2.2.2.2.2.2.1 u.2.2.2.2.2.2.2.2.2.2.2.2.2.2.2.2.2.2.2.2.2.2.2.2.2.2.2.2.2.2.2.2.2.2.2.2.2.2.2.1 u.2.2.2.2.2.2.2.2.2.2.2.2.2.2.2.2.2.2.2.2.2.2.2.2.2.2.2.2.2.2.2.2.2.2.2.2.2.2.2.2.1 u.2.2.2.2.2.2.2.2.2.2.2.2.2.2.2.2.2.2.2.2.2.2.2.2.2.2.2.2.2.2.2.2.2.2.2.2.2.2.2.2.2.1 u.2.2.2.2.2.2.2.2.2.2.2.2.2.2.2.2.2.2.2.2.2.2.2.2.2.2.2.2.2.2.2.2.2.2.2.2.2.2.2.2.2.2)) (st := (fun (u : (Nat → Int32) × (Nat → Int32) × (Nat → Int32) × (Nat → Int32) × (Nat → Int32) × (Nat → Int32) × (Nat → Int32) × (Nat → Int32) × (Nat → Int32) × (Nat → Int32) × (Nat → Int32) × (Nat → Int32) × (Nat → Int32) × (Nat → Int32) × (Nat → Int32) × (Nat → Int32) × (Nat → Int32) × (Nat → Int32) × (Nat → Int32) × (Nat → Int32) × (Nat → Int32) × (Nat → Int32) × (Nat → Int64) × (Nat → Int64) × (Nat → Int64) × Int32 × Int32 × Int32 × Int32 × Int32 × Int32 × Int32 × Int32 × Int32 × Int32 × Int32 × Int32 × Int32 × Int32 × Int32 × Int32 × Int32 × Int32) => wC K ad (sI (sI (sI (sI (sI (sI (sI (sI (sI (sI (sI (sI (sI (sI (sI (sI (sI (sI (sL (sL (sL (sA (sA (sA (sA (sA (sA (sA (sA (sA (sA (sA (sA (sA (sA (sA (sA (sA (sA (sA (sA (sA (sA S 18 u.1) 19 u.2.1) 20 u.2.2.1) 21 u.2.2.2.1) 22 u.2.2.2.2.1) 23 u.2.2.2.2.2.1) 24 u.2.2.2.2.2.2.1) 25 u.2.2.2.2.2.2.2.1) 26 u.2.2.2.2.2.2.2.2.1) 27 u.2.2.2.2.2.2.2.2.2.1) 28 u.2.2.2.2.2.2.2.2.2.2.1) 32 u.2.2.2.2.2.2.2.2.2.2.2.1) 33 u.2.2.2.2.2.2.2.2.2.2.2.2.1) 34 u.2.2.2.2.2.2.2.2.2.2.2.2.2.1) 35 u.2.2.2.2.2.2.2.2.2.2.2.2.2.2.1) 39 u.2.2.2.2.2.2.2.2.2.2.2.2.2.2.2.1) 40 u.2.2.2.2.2.2.2.2.2.2.2.2.2.2.2.2.1) 43 u.2.2.2.2.2.2.2.2.2.2.2.2.2.2.2.2.2.1) 44 u.2.2.2.2.2.2.2.2.2.2.2.2.2.2.2.2.2.2.1) 45 u.2.2.2.2.2.2.2.2.2.2.2.2.2.2.2.2.2.2.2.1) 46 u.2.2.2.2.2.2.2.2.2.2.2.2.2.2.2.2.2.2.2.2.1) 47 u.2.2.2.2.2.2.2.2.2.2.2.2.2.2.2.2.2.2.2.2.2.1) 36 u.2.2.2.2.2.2.2.2.2.2.2.2.2.2.2.2.2.2.2.2.2.2.1) 38 u.2.2.2.2.2.2.2.2.2.2.2.2.2.2.2.2.2.2.2.2.2.2.2.1) 48 u.2.2.2.2.2.2.2.2.2.2.2.2.2.2.2.2.2.2.2.2.2.2.2.2.1) 1099 u.2.2.2.2.2.2.2.2.2.2.2.2.2.2.2.2.2.2.2.2.2.2.2.2.2.1) 1862 u.2.2.2.2.2.2.2.2.2.2.2.2.2.2.2.2.2.2.2.2.2.2.2.2.2.2.1) 1863 u.2.2.2.2.2.2.2.2.2.2.2.2.2.2.2.2.2.2.2.2.2.2.2.2.2.2.2.1) 1864 u.2.2.2.2.2.2.2.2.2.2.2.2.2.2.2.2.2.2.2.2.2.2.2.2.2.2.2.2.1) 1865 u.2.2.2.2.2.2.2.2.2.2.2.2.2.2.2.2.2.2.2.2.2.2.2.2.2.2.2.2.2.1) 1922 u.2.2.2.2.2.2.2.2.2.2.2.2.2.2.2.2.2.2.2.2.2.2.2.2.2.2.2.2.2.2.1) 1923 u.2.2.2.2.2.2.2.2.2.2.2.2.2.2.2.2.2.2.2.2.2.2.2.2.2.2.2.2.2.2.2.1) 1924 u.2.2.2.2.2.2.2.2.2.2.2.2.2.2.2.2.2.2.2.2.2.2.2.2.2.2.2.2.2.2.2.2.1) 1925 u.2.2.2.2.2.2.2.2.2.2.2.2.2.2.2.2.2.2.2.2.2.2.2.2.2.2.2.2.2.2.2.2.2.1) 1926 u.2.2.2.2.2.2.2.2.2.2.2.2.2.2.2.2.2.2.2.2.2.2.2.2.2.2.2.2.2.2.2.2.2.2.1) 1927 u.2.2.2.2.2.2.2.2.2.2.2.2.2.2.2.2.2.2.2.2.2.2.2.2.2.2.2.2.2.2.2.2.2.2.2.1) 1928 u.2.2.2.2.2.2.2.2.2.2.2.2.2.2.2.2.2.2.2.2.2.2.2.2.2.2.2.2.2.2.2.2.2.2.2.2.1) 1989 u.2.2.2.2.2.2.2.2.2.2.2.2.2.2.2.2.2.2.2.2.2.2.2.2.2.2.2.2.2.2.2.2.2.2.2.2.2.1) 2370 u.2.2.2.2.2.2.2.2.2.2.2.2.2.2.2.2.2.2.2.2.2.2.2.2.2.2.2.2.2.2.2.2.2.2.2.2.2.2.1) 2371 u.2.2.2.2.2.2.2.2.2.2.2.2.2.2.2.2.2.2.2.2.2.2.2.2.2.2.2.2.2.2.2.2.2.2.2.2.2.2.2.1) 2626 u.2.2.2.2.2.2.2.2.2.2.2.2.2.2.2.2.2.2.2.2.2.2.2.2.2.2.2.2.2.2.2.2.2.2.2.2.2.2.2.2.1) 2627 u.2.2.2.2.2.2.2.2.2.2.2.2.2.2.2.2.2.2.2.2.2.2.2.2.2.2.2.2.2.2.2.2.2.2.2.2.2.2.2.2.2.1) 2628 u.2.2.2.2.2.2.2.2.2.2.2.2.2.2.2.2.2.2.2.2.2.2.2.2.2.2.2.2.2.2.2.2.2.2.2.2.2.2.2.2.2.2) ++ X)) (u := (a18, a19, a20, a21, a22, a23, a24, a25, a26, a27, a28, f1, f2, f3, f4, f5, f6, (S.1 43), (S.1 44), (S.1 45), (S.1 46), (S.1 47), f7, f8, (S.2.1 48), i1099, v9, v10, v11, v12, v13, v14, v15, v16, v17, v18, v19, v20, v21, v22, i2626, i2627, i2628)) C hr d_Lb_breakUp_132 (wn_eq w rfl) hw
set_option maxHeartbeats 4000000 in
set_option maxRecDepth 100000 in
theorem w_Lb_breakUp_98 {S : ST} {post : Int32 → (Nat → Int32) → (Nat → Int32) → (Nat → Int32) → (Nat → Int32) → (Nat → Int32) → (Nat → Int32) → (Nat → Int32) → (Nat → Int32) → (Nat → Int32) → (Nat → Int32) → (Nat → Int32) → (Nat → Int32) → (Nat → Int32) → (Nat → Int32) → (Nat → Int32) → (Nat → Int32) → (Nat → Int32) → (Nat → Int32) → (Nat → Int32) → (Nat → Int32) → (Nat → Int32) → (Nat → Int32) → (Nat → Int64) → (Nat → Int64) → (Nat → Int64) → Int32 → Int32 → Int32 → Int32 → Int32 → Int32 → Int32 → Int32 → Int32 → Int32 → Int32 → Int32 → Int32 → Int32 → Int32 → Int32 → Int32 → Int32 → Prop} {px : String → Prop} (C : cx p s m args meth c prog_1_method_12_code 5 "LineBreaker" n0 G K) (hr : meth.sig.returnType = (some .int)) (htr : l.stackTraces = false) (hne : c.exceptionTable.toList = []) : ∀ (n : Nat) (a18 : (Nat → Int32)) (a19 : (Nat → Int32)) (a20 : (Nat → Int32)) (a21 : (Nat → Int32)) (a22 : (Nat → Int32)) (a23 : (Nat → Int32)) (a24 : (Nat → Int32)) (a25 : (Nat → Int32)) (a26 : (Nat → Int32)) (a27 : (Nat → Int32)) (a28 : (Nat → Int32)) (a32 : (Nat → Int32)) (a33 : (Nat → Int32)) (a34 : (Nat → Int32)) (a35 : (Nat → Int32)) (a39 : (Nat → Int32)) (a40 : (Nat → Int32)) (l36 : (Nat → Int64)) (l38 : (Nat → Int64)) (i1099 : Int32) (i1862 : Int32) (i1863 : Int32) (i1864 : Int32) (i1865 : Int32) (i1922 : Int32) (i1923 : Int32) (i1924 : Int32) (i1925 : Int32) (i1926 : Int32) (i1927 : Int32) (i1928 : Int32) (i1989 : Int32) (i2370 : Int32) (i2371 : Int32) (i2626 : Int32) (i2627 : Int32) (i2628 : Int32) (x2 : Int32) (x3 : Int32), wl_Lb_breakUp_98 S post px n a18 a19 a20 a21 a22 a23 a24 a25 a26 a27 a28 a32 a33 a34 a35 a39 a40 l36 l38 i1099 i1862 i1863 i1864 i1865 i1922 i1923 i1924 i1925 i1926 i1927 i1928 i1989 i2370 i2371 i2626 i2627 i2628 x2 x3 → ∀ (H : Heap) (locs : List Loc) (ls : Array Slot), wn n0 G (wC K ad (sI (sI (sI (sI (sI (sI (sI (sI (sI (sI (sI (sI (sI (sI (sI (sI (sI (sI (sL (sL (sA (sA (sA (sA (sA (sA (sA (sA (sA (sA (sA (sA (sA (sA (sA (sA (sA S 18 a18) 19 a19) 20 a20) 21 a21) 22 a22) 23 a23) 24 a24) 25 a25) 26 a26) 27 a27) 28 a28) 32 a32) 33 a33) 34 a34) 35 a35) 39 a39) 40 a40) 36 l36) 38 l38) 1099 i1099) 1862 i1862) 1863 i1863) 1864 i1864) 1865 i1865) 1922 i1922) 1923 i1923) 1924 i1924) 1925 i1925) 1926 i1926) 1927 i1927) 1928 i1928) 1989 i1989) 2370 i2370) 2371 i2371) 2626 i2626) 2627 i2627) 2628 i2628) ++ X) s H locs → lv_has ls 5 [(0, .ref (ad 0)), (2, .int x2), (3, .int x3)] → W p l e rm_Lb_breakUp s m args below meth c H locs 0 0 (tmq below (va_Qi (fun r (u : (Nat → Int32) × (Nat → Int32) × (Nat → Int32) × (Nat → Int32) × (Nat → Int32) × (Nat → Int32) × (Nat → Int32) × (Nat → Int32) × (Nat → Int32) × (Nat → Int32) × (Nat → Int32) × (Nat → Int32) × (Nat → Int32) × (Nat → Int32) × (Nat → Int32) × (Nat → Int32) × (Nat → Int32) × (Nat → Int32) × (Nat → Int32) × (Nat → Int32) × (Nat → Int32) × (Nat → Int32) × (Nat → Int64) × (Nat → Int64) × (Nat → Int64) × Int32 × Int32 × Int32 × Int32 × Int32 × Int32 × Int32 × Int32 × Int32 × Int32 × Int32 × Int32 × Int32 × Int32 × Int32 × Int32 × Int32 × Int32) => post r u.1 u.2.1 u.2.2.1 u.2.2.2.1 u.2.2.2.2.1 u.2.2.2.2.2.1 u.2.2.2.2.2.2.1 u.2.2.2.2.2.2.2.1 u.2.2.2.2.2.2.2.2.1 u.2.2.2.2.2.2.2.2.2.1 u.2.2.2.2.2.2.2.2.2.2.1 u.2.2.2.2.2.2.2.2.2.2.2.1 u.2.2.2.2.2.2.2.2.2.2.2.2.1 u.2.2.2.2.2.2.2.2.2.2.2.2.2.1 u.2.2.2.2.2.2.2.2.2.2.2.2.2.2.1 u.2.2.2.2.2.2.2.2.2.2.2.2.2.2.2.1 u.2.2.2.2.2.2.2.2.2.2.2.2.2.2.2.2.1 u.2.2.2.2.2.2.2.2.2.2.2.2.2.2.2.2.2.1 u.2.2.2.2.2.2.2.2.2.2.2.2.2.2.2.2.2.2.1 u.2.2.2.2.2.2.2.2.2.2.2.2.2.2.2.2.2.2.2.1 u.2.2.2.2.2.2.2.2.2.2.2.2.2.2.2.2.2.2.2.2.1 u.2.2.2.2.2.2.2.2.2.2.2.2.2.2.2.2.2.2.2.2.2.1 u.2.2.2.2.2.2.2.2.2.2.2.2.2.2.2.2.2.2.2.2.2.2.1 u.2.2.2.2.2.2.2.2.2.2.2.2.2.2.2.2.2.2.2.2.2.2.2.1 u.2.2.2.2.2.2.2.2.2.2.2.2.2.2.2.2.2.2.2.2.2.2.2.2.1 u.2.2.2.2.2.2.2.2.2.2.2.2.2.2.2.2.2.2.2.2.2.2.2.2.2.1 u.2.2.2.2.2.2.2.2.2.2.2.2.2.2.2.2.2.2.2.2.2.2.2.2.2.2.1 u.2.2.2.2.2.2.2.2.2.2.2.2.2.2.2.2.2.2.2.2.2.2.2.2.2.2.2.1 u.2.2.2.2.2.2.2.2.2.2.2.2.2.2.2.2.2.2.2.2.2.2.2.2.2.2.2.2.1 u.2.2.2.2.2.2.2.2.2.2.2.2.2.2.2.2.2.2.2.2.2.2.2.2.2.2.2.2.2.1 u.2.2.2.2.2.2.2.2.2.2.2.2.2.2.2.2.2.2.2.2.2.2.2.2.2.2.2.2.2.2.1 u.2.2.2.2.2.2.2.2.2.2.2.2.2.2.2.2.2.2.2.2.2.2.2.2.2.2.2.2.2.2.2.1 u.2.2.2.2.2.2.2.2.2.2.2.2.2.2.2.2.2.2.2.2.2.2.2.2.2.2.2.2.2.2.2.2.1 u.2.2.2.2.2.2.2.2.2.2.2.2.2.2.2.2.2.2.2.2.2.2.2.2.2.2.2.2.2.2.2.2.2.1 u.2.2.2.2.2.2.2.2.2.2.2.2.2.2.2.2.2.2.2.2.2.2.2.2.2.2.2.2.2.2.2.2.2.2.1 u.2.2.2.2.2.2.2.2.2.2.2.2.2.2.2.2.2.2.2.2.2.2.2.2.2.2.2.2.2.2.2.2.2.2.2.1 u.2.2.2.2.2.2.2.2.2.2.2.2.2.2.2.2.2.2.2.2.2.2.2.2.2.2.2.2.2.2.2.2.2.2.2.2.1 u.2.2.2.2.2.2.2.2.2.2.2.2.2.2.2.2.2.2.2.2.2.2.2.2.2.2.2.2.2.2.2.2.2.2.2.2.2.1 u.2.2.2.2.2.2.2.2.2.2.2.2.2.2.2.2.2.2.2.2.2.2.2.2.2.2.2.2.2.2.2.2.2.2.2.2.2.2.1 u.2.2.2.2.2.2.2.2.2.2.2.2.2.2.2.2.2.2.2.2.2.2.2.2.2.2.2.2.2.2.2.2.2.2.2.2.2.2.2.1 u.2.2.2.2.2.2.2.2.2.2.2.2.2.2.2.2.2.2.2.2.2.2.2.2.2.2.2.2.2.2.2.2.2.2.2.2.2.2.2.2.1 u.2.2.2.2.2.2.2.2.2.2.2.2.2.2.2.2.2.2.2.2.2.2.2.2.2.2.2.2.2.2.2.2.2.2.2.2.2.2.2.2.2.1 u.2.2.2.2.2.2.2.2.2.2.2.2.2.2.2.2.2.2.2.2.2.2.2.2.2.2.2.2.2.2.2.2.2.2.2.2.2.2.2.2.2.2) (fun (u : (Nat → Int32) × (Nat → Int32) × (Nat → Int32) × (Nat → Int32) × (Nat → Int32) × (Nat → Int32) × (Nat → Int32) × (Nat → Int32) × (Nat → Int32) × (Nat → Int32) × (Nat → Int32) × (Nat → Int32) × (Nat → Int32) × (Nat → Int32) × (Nat → Int32) × (Nat → Int32) × (Nat → Int32) × (Nat → Int32) × (Nat → Int32) × (Nat → Int32) × (Nat → Int32) × (Nat → Int32) × (Nat → Int64) × (Nat → Int64) × (Nat → Int64) × Int32 × Int32 × Int32 × Int32 × Int32 × Int32 × Int32 × Int32 × Int32 × Int32 × Int32 × Int32 × Int32 × Int32 × Int32 × Int32 × Int32 × Int32) t => we n0 G (wC K ad (sI (sI (sI (sI (sI (sI (sI (sI (sI (sI (sI (sI (sI (sI (sI (sI (sI (sI (sL (sL (sL (sA (sA (sA (sA (sA (sA (sA (sA (sA (sA (sA (sA (sA (sA (sA (sA (sA (sA (sA (sA (sA (sA S 18 u.1) 19 u.2.1) 20 u.2.2.1) 21 u.2.2.2.1) 22 u.2.2.2.2.1) 23 u.2.2.2.2.2.1) 24 u.2.2.2.2.2.2.1) 25 u.2.2.2.2.2.2.2.1) 26 u.2.2.2.2.2.2.2.2.1) 27 u.2.2.2.2.2.2.2.2.2.1) 28 u.2.2.2.2.2.2.2.2.2.2.1) 32 u.2.2.2.2.2.2.2.2.2.2.2.1) 33 u.2.2.2.2.2.2.2.2.2.2.2.2.1) 34 u.2.2.2.2.2.2.2.2.2.2.2.2.2.1) 35 u.2.2.2.2.2.2.2.2.2.2.2.2.2.2.1) 39 u.2.2.2.2.2.2.2.2.2.2.2.2.2.2.2.1) 40 u.2.2.2.2.2.2.2.2.2.2.2.2.2.2.2.2.1) 43 u.2.2.2.2.2.2.2.2.2.2.2.2.2.2.2.2.2.1) 44 u.2.2.2.2.2.2.2.2.2.2.2.2.2.2.2.2.2.2.1) 45 u.2.2.2.2.2.2.2.2.2.2.2.2.2.2.2.2.2.2.2.1) 46 u.2.2.2.2.2.2.2.2.2.2.2.2.2.2.2.2.2.2.2.2.1) 47 u.2.2.2.2.2.2.2.2.2.2.2.2.2.2.2.2.2.2.2.2.2.1) 36 u.2.2.2.2.2.2.2.2.2.2.2.2.2.2.2.2.2.2.2.2.2.2.1) 38 u.2.2.2.2.2.2.2.2.2.2.2.2.2.2.2.2.2.2.2.2.2.2.2.1) 48 u.2.2.2.2.2.2.2.2.2.2.2.2.2.2.2.2.2.2.2.2.2.2.2.2.1) 1099 u.2.2.2.2.2.2.2.2.2.2.2.2.2.2.2.2.2.2.2.2.2.2.2.2.2.1) 1862 u.2.2.2.2.2.2.2.2.2.2.2.2.2.2.2.2.2.2.2.2.2.2.2.2.2.2.1) 1863 u.2.2.2.2.2.2.2.2.2.2.2.2.2.2.2.2.2.2.2.2.2.2.2.2.2.2.2.1) 1864 u.2.2.2.2.2.2.2.2.2.2.2.2.2.2.2.2.2.2.2.2.2.2.2.2.2.2.2.2.1) 1865 u.2.2.2.2.2.2.2.2.2.2.2.2.2.2.2.2.2.2.2.2.2.2.2.2.2.2.2.2.2.1) 1922 u.2.2.2.2.2.2.2.2.2.2.2.2.2.2.2.2.2.2.2.2.2.2.2.2.2.2.2.2.2.2.1) 1923 u.2.2.2.2.2.2.2.2.2.2.2.2.2.2.2.2.2.2.2.2.2.2.2.2.2.2.2.2.2.2.2.1) 1924 u.2.2.2.2.2.2.2.2.2.2.2.2.2.2.2.2.2.2.2.2.2.2.2.2.2.2.2.2.2.2.2.2.1) 1925 u.2.2.2.2.2.2.2.2.2.2.2.2.2.2.2.2.2.2.2.2.2.2.2.2.2.2.2.2.2.2.2.2.2.1) 1926 u.2.2.2.2.2.2.2.2.2.2.2.2.2.2.2.2.2.2.2.2.2.2.2.2.2.2.2.2.2.2.2.2.2.2.1) 1927 u.2.2.2.2.2.2.2.2.2.2.2.2.2.2.2.2.2.2.2.2.2.2.2.2.2.2.2.2.2.2.2.2.2.2.2.1) 1928 u.2.2.2.2.2.2.2.2.2.2.2.2.2.2.2.2.2.2.2.2.2.2.2.2.2.2.2.2.2.2.2.2.2.2.2.2.1) 1989 u.2.2.2.2.2.2.2.2.2.2.2.2.2.2.2.2.2.2.2.2.2.2.2.2.2.2.2.2.2.2.2.2.2.2.2.2.2.1) 2370 u.2.2.2.2.2.2.2.2.2.2.2.2.2.2.2.2.2.2.2.2.2.2.2.2.2.2.2.2.2.2.2.2.2.2.2.2.2.2.1) 2371 u.2.2.2.2.2.2.2.2.2.2.2.2.2.2.2.2.2.2.2.2.2.2.2.2.2.2.2.2.2.2.2.2.2.2.2.2.2.2.2.1) 2626 u.2.2.2.2.2.2.2.2.2.2.2.2.2.2.2.2.2.2.2.2.2.2.2.2.2.2.2.2.2.2.2.2.2.2.2.2.2.2.2.2.1) 2627 u.2.2.2.2.2.2.2.2.2.2.2.2.2.2.2.2.2.2.2.2.2.2.2.2.2.2.2.2.2.2.2.2.2.2.2.2.2.2.2.2.2.1) 2628 u.2.2.2.2.2.2.2.2.2.2.2.2.2.2.2.2.2.2.2.2.2.2.2.2.2.2.2.2.2.2.2.2.2.2.2.2.2.2.2.2.2.2) ++ X) t) (al n0)) px args s 1 6 (al n0)) (F0 m 98 ls []) := by
  have hx := C.1
  have hb := C.2.1
  have hts := C.2.2.2.2.1
  intro n
  induction n with
  | zero =>
    intro a18 a19 a20 a21 a22 a23 a24 a25 a26 a27 a28 a32 a33 a34 a35 a39 a40 l36 l38 i1099 i1862 i1863 i1864 i1865 i1922 i1923 i1924 i1925 i1926 i1927 i1928 i1989 i2370 i2371 i2626 i2627 i2628 x2 x3 hw
    unfold wl_Lb_breakUp_98 at hw
    exact hw.elim
  | succ n ih =>
    intro a18 a19 a20 a21 a22 a23 a24 a25 a26 a27 a28 a32 a33 a34 a35 a39 a40 l36 l38 i1099 i1862 i1863 i1864 i1865 i1922 i1923 i1924 i1925 i1926 i1927 i1928 i1989 i2370 i2371 i2626 i2627 i2628 x2 x3 hw H locs ls w hl
    unfold wl_Lb_breakUp_98 at hw
    refine lv_iload_n hx hb d_Lb_breakUp_98 rfl (lv_at hl 2 rfl) ?_
    refine lv_iload_n hx hb d_Lb_breakUp_99 rfl (lv_at hl 1 rfl) ?_
    refine lv_icmp_gt (tgt := 166) hx hb d_Lb_breakUp_100 (by decide) (fun hc => ?_) (fun hc => ?_)
    · have hw := hw.1 hc
      refine lv_iconst (v := 0) hx hb d_Lb_breakUp_166 (by decide) ?_
      refine W.widen (k := 1) (n := 6) (by decide) (by decide) ?_
      refine tx_ret ?_
      exact ke_i (post := (fun r (u : (Nat → Int32) × (Nat → Int32) × (Nat → Int32) × (Nat → Int32) × (Nat → Int32) × (Nat → Int32) × (Nat → Int32) × (Nat → Int32) × (Nat → Int32) × (Nat → Int32) × (Nat → Int32) × (Nat → Int32) × (Nat → Int32) × (Nat → Int32) × (Nat → Int32) × (Nat → Int32) × (Nat → Int32) × (Nat → Int32) × (Nat → Int32) × (Nat → Int32) × (Nat → Int32) × (Nat → Int32) × (Nat → Int64) × (Nat → Int64) × (Nat → Int64) × Int32 × Int32 × Int32 × Int32 × Int32 × Int32 × Int32 × Int32 × Int32 × Int32 × Int32 × Int32 × Int32 × Int32 × Int32 × Int32 × Int32 × Int32) => post r u.1 u.2.1 u.2.2.1 u.2.2.2.1 u.2.2.2.2.1 u.2.2.2.2.2.1 u.2.2.2.2.2.2.1 u.2.2.2.2.2.2.2.1 u.2.2.2.2.2.2.2.2.1 u.2.2.2.2.2.2.2.2.2.1 u.2.2.2.2.2.2.2.2.2.2.1 u.2.2.2.2.2.2.2.2.2.2.2.1 u.2.2.2.2.2.2.2.2.2.2.2.2.1 u.2.2.2.2.2.2.2.2.2.2.2.2.2.1 u.2.2.2.2.2.2.2.2.2.2.2.2.2.2.1 u.2.2.2.2.2.2.2.2.2.2.2.2.2.2.2.1 u.2.2.2.2.2.2.2.2.2.2.2.2.2.2.2.2.1 u.2.2.2.2.2.2.2.2.2.2.2.2.2.2.2.2.2.1 u.2.2.2.2.2.2.2.2.2.2.2.2.2.2.2.2.2.2.1 u.2.2.2.2.2.2.2.2.2.2.2.2.2.2.2.2.2.2.2.1 u.2.2.2.2.2.2.2.2.2.2.2.2.2.2.2.2.2.2.2.2.1 u.2.2.2.2.2.2.2.2.2.2.2.2.2.2.2.2.2.2.2.2.2.1 u.2.2.2.2.2.2.2.2.2.2.2.2.2.2.2.2.2.2.2.2.2.2.1 u.2.2.2.2.2.2.2.2.2.2.2.2.2.2.2.2.2.2.2.2.2.2.2.1 u.2.2.2.2.2.2.2.2.2.2.2.2.2.2.2.2.2.2.2.2.2.2.2.2.1 u.2.2.2.2.2.2.2.2.2.2.2.2.2.2.2.2.2.2.2.2.2.2.2.2.2.1 u.2.2.2.2.2.2.2.2.2.2.2.2.2.2.2.2.2.2.2.2.2.2.2.2.2.2.1 u.2.2.2.2.2.2.2.2.2.2.2.2.2.2.2.2.2.2.2.2.2.2.2.2.2.2.2.1 u.2.2.2.2.2.2.2.2.2.2.2.2.2.2.2.2.2.2.2.2.2.2.2.2.2.2.2.2.1 u.2.2.2.2.2.2.2.2.2.2.2.2.2.2.2.2.2.2.2.2.2.2.2.2.2.2.2.2.2.1 u.2.2.2.2.2.2.2.2.2.2.2.2.2.2.2.2.2.2.2.2.2.2.2.2.2.2.2.2.2.2.1 u.2.2.2.2.2.2.2.2.2.2.2.2.2.2.2.2.2.2.2.2.2.2.2.2.2.2.2.2.2.2.2.1 u.2.2.2.2.2.2.2.2.2.2.2.2.2.2.2.2.2.2.2.2.2.2.2.2.2.2.2.2.2.2.2.2.1 u.2.2.2.2.2.2.2.2.2.2.2.2.2.2.2.2.2.2.2.2.2.2.2.2.2.2.2.2.2.2.2.2.2.1 u.2.2.2.2.2.2.2.2.2.2.2.2.2.2.2.2.2.2.2.2.2.2.2.2.2.2.2.2.2.2.2.2.2.2.1 u.2.2.2.2.2.2.2.2.2.2.2.2.2.2.2.2.2.2.2.2.2.2.2.2.2.2.2.2.2.2.2.2.2.2.2.1 u.2.2.2.2.2.2.2.2.2.2.2.2.2.2.2.2.2.2.2.2.2.2.2.2.2.2.2.2.2.2.2.2.2.2.2.2.1 u.2.2.2.2.2.2.2.2.2.2.2.2.2.2.2.2.2.2.2.2.2.2.2.2.2.2.2.2.2.2.2.2.2.2.2.2.2.1 u.2.2.2.2.2.2.2.2.2.2.2.2.2.2.2.2.2.2.2.2.2.2.2.2.2.2.2.2.2.2.2.2.2.2.2.2.2.2.1 u.2.2.2.2.2.2.2.2.2.2.2.2.2.2.2.2.2.2.2.2.2.2.2.2.2.2.2.2.2.2.2.2.2.2.2.2.2.2.2.1 u.2.2.2.2.2.2.2.2.2.2.2.2.2.2.2.2.2.2.2.2.2.2.2.2.2.2.2.2.2.2.2.2.2.2.2.2.2.2.2.2.1 u.2.2.2.2.2.2.2.2.2.2.2.2.2.2.2.2.2.2.2.2.2.2.2.2.2.2.2.2.2.2.2.2.2.2.2.2.2.2.2.2.2.1 u.2.2.2.2.2.2.2.2.2.2.2.2.2.2.2.2.2.2.2.2.2.2.2.2.2.2.2.2.2.2.2.2.2.2.2.2.2.2.2.2.2.2)) (st := (fun (u : (Nat → Int32) × (Nat → Int32) × (Nat → Int32) × (Nat → Int32) × (Nat → Int32) × (Nat → Int32) × (Nat → Int32) × (Nat → Int32) × (Nat → Int32) × (Nat → Int32) × (Nat → Int32) × (Nat → Int32) × (Nat → Int32) × (Nat → Int32) × (Nat → Int32) × (Nat → Int32) × (Nat → Int32) × (Nat → Int32) × (Nat → Int32) × (Nat → Int32) × (Nat → Int32) × (Nat → Int32) × (Nat → Int64) × (Nat → Int64) × (Nat → Int64) × Int32 × Int32 × Int32 × Int32 × Int32 × Int32 × Int32 × Int32 × Int32 × Int32 × Int32 × Int32 × Int32 × Int32 × Int32 × Int32 × Int32 × Int32) => wC K ad (sI (sI (sI (sI (sI (sI (sI (sI (sI (sI (sI (sI (sI (sI (sI (sI (sI (sI (sL (sL (sL (sA (sA (sA (sA (sA (sA (sA (sA (sA (sA (sA (sA (sA (sA (sA (sA (sA (sA (sA (sA (sA (sA S 18 u.1) 19 u.2.1) 20 u.2.2.1) 21 u.2.2.2.1) 22 u.2.2.2.2.1) 23 u.2.2.2.2.2.1) 24 u.2.2.2.2.2.2.1) 25 u.2.2.2.2.2.2.2.1) 26 u.2.2.2.2.2.2.2.2.1) 27 u.2.2.2.2.2.2.2.2.2.1) 28 u.2.2.2.2.2.2.2.2.2.2.1) 32 u.2.2.2.2.2.2.2.2.2.2.2.1) 33 u.2.2.2.2.2.2.2.2.2.2.2.2.1) 34 u.2.2.2.2.2.2.2.2.2.2.2.2.2.1) 35 u.2.2.2.2.2.2.2.2.2.2.2.2.2.2.1) 39 u.2.2.2.2.2.2.2.2.2.2.2.2.2.2.2.1) 40 u.2.2.2.2.2.2.2.2.2.2.2.2.2.2.2.2.1) 43 u.2.2.2.2.2.2.2.2.2.2.2.2.2.2.2.2.2.1) 44 u.2.2.2.2.2.2.2.2.2.2.2.2.2.2.2.2.2.2.1) 45 u.2.2.2.2.2.2.2.2.2.2.2.2.2.2.2.2.2.2.2.1) 46 u.2.2.2.2.2.2.2.2.2.2.2.2.2.2.2.2.2.2.2.2.1) 47 u.2.2.2.2.2.2.2.2.2.2.2.2.2.2.2.2.2.2.2.2.2.1) 36 u.2.2.2.2.2.2.2.2.2.2.2.2.2.2.2.2.2.2.2.2.2.2.1) 38 u.2.2.2.2.2.2.2.2.2.2.2.2.2.2.2.2.2.2.2.2.2.2.2.1) 48 u.2.2.2.2.2.2.2.2.2.2.2.2.2.2.2.2.2.2.2.2.2.2.2.2.1) 1099 u.2.2.2.2.2.2.2.2.2.2.2.2.2.2.2.2.2.2.2.2.2.2.2.2.2.1) 1862 u.2.2.2.2.2.2.2.2.2.2.2.2.2.2.2.2.2.2.2.2.2.2.2.2.2.2.1) 1863 u.2.2.2.2.2.2.2.2.2.2.2.2.2.2.2.2.2.2.2.2.2.2.2.2.2.2.2.1) 1864 u.2.2.2.2.2.2.2.2.2.2.2.2.2.2.2.2.2.2.2.2.2.2.2.2.2.2.2.2.1) 1865 u.2.2.2.2.2.2.2.2.2.2.2.2.2.2.2.2.2.2.2.2.2.2.2.2.2.2.2.2.2.1) 1922 u.2.2.2.2.2.2.2.2.2.2.2.2.2.2.2.2.2.2.2.2.2.2.2.2.2.2.2.2.2.2.1) 1923 u.2.2.2.2.2.2.2.2.2.2.2.2.2.2.2.2.2.2.2.2.2.2.2.2.2.2.2.2.2.2.2.1) 1924 u.2.2.2.2.2.2.2.2.2.2.2.2.2.2.2.2.2.2.2.2.2.2.2.2.2.2.2.2.2.2.2.2.1) 1925 u.2.2.2.2.2.2.2.2.2.2.2.2.2.2.2.2.2.2.2.2.2.2.2.2.2.2.2.2.2.2.2.2.2.1) 1926 u.2.2.2.2.2.2.2.2.2.2.2.2.2.2.2.2.2.2.2.2.2.2.2.2.2.2.2.2.2.2.2.2.2.2.1) 1927 u.2.2.2.2.2.2.2.2.2.2.2.2.2.2.2.2.2.2.2.2.2.2.2.2.2.2.2.2.2.2.2.2.2.2.2.1) 1928 u.2.2.2.2.2.2.2.2.2.2.2.2.2.2.2.2.2.2.2.2.2.2.2.2.2.2.2.2.2.2.2.2.2.2.2.2.1) 1989 u.2.2.2.2.2.2.2.2.2.2.2.2.2.2.2.2.2.2.2.2.2.2.2.2.2.2.2.2.2.2.2.2.2.2.2.2.2.1) 2370 u.2.2.2.2.2.2.2.2.2.2.2.2.2.2.2.2.2.2.2.2.2.2.2.2.2.2.2.2.2.2.2.2.2.2.2.2.2.2.1) 2371 u.2.2.2.2.2.2.2.2.2.2.2.2.2.2.2.2.2.2.2.2.2.2.2.2.2.2.2.2.2.2.2.2.2.2.2.2.2.2.2.1) 2626 u.2.2.2.2.2.2.2.2.2.2.2.2.2.2.2.2.2.2.2.2.2.2.2.2.2.2.2.2.2.2.2.2.2.2.2.2.2.2.2.2.1) 2627 u.2.2.2.2.2.2.2.2.2.2.2.2.2.2.2.2.2.2.2.2.2.2.2.2.2.2.2.2.2.2.2.2.2.2.2.2.2.2.2.2.2.1) 2628 u.2.2.2.2.2.2.2.2.2.2.2.2.2.2.2.2.2.2.2.2.2.2.2.2.2.2.2.2.2.2.2.2.2.2.2.2.2.2.2.2.2.2) ++ X)) (u := (a18, a19, a20, a21, a22, a23, a24, a25, a26, a27, a28, a32, a33, a34, a35, a39, a40, (S.1 43), (S.1 44), (S.1 45), (S.1 46), (S.1 47), l36, l38, (S.2.1 48), i1099, i1862, i1863, i1864, i1865, i1922, i1923, i1924, i1925, i1926, i1927, i1928, i1989, i2370, i2371, i2626, i2627, i2628)) C hr d_Lb_breakUp_167 (wn_eq w rfl) hw
    · have hw := hw.2 hc
      refine lv_aload_n hx hb d_Lb_breakUp_103 rfl (lv_at hl 0 rfl) ?_
      refine kg (C1 := R_Lb) (T := F_Lb) (N := 5) (ci := 9) (ref := "LineBreaker") (v := .ref (ad 29)) C w 0 3 iw_Lb rfl rfl (by decide) kw_359 rfl rfl d_Lb_breakUp_104 ?_
      refine lv_iload_n hx hb d_Lb_breakUp_107 rfl (lv_at hl 2 rfl) ?_
      refine lv_iload_n hx hb d_Lb_breakUp_108 rfl (lv_at hl 2 rfl) ?_
      refine lv_iload_n hx hb d_Lb_breakUp_109 rfl (lv_at hl 1 rfl) ?_
      refine lv_icmp_ne (tgt := 117) hx hb d_Lb_breakUp_110 (by decide) (fun hc => ?_) (fun hc => ?_)
      · have hw := hw.1 hc
        refine lv_iconst (v := 0) hx hb d_Lb_breakUp_117 (by decide) ?_
        exact w_Lb_breakUp_118 C hr htr hne ih a18 a19 a20 a21 a22 a23 a24 a25 a26 a27 a28 a32 a33 a34 a35 a39 a40 l36 l38 i1099 i1862 i1863 i1864 i1865 i1922 i1923 i1924 i1925 i1926 i1927 i1928 i1989 i2370 i2371 i2626 i2627 i2628 x2 x3 x3 0 hw _ _ _ (wn_eq w rfl) (lv_sub hl [0, 1, 2] rfl)
      · have hw := hw.2 hc
        refine lv_iconst (v := 1) hx hb d_Lb_breakUp_113 (by decide) ?_
        refine lv_goto (tgt := 118) hx hb d_Lb_breakUp_114 (by decide) ?_
        exact w_Lb_breakUp_118 C hr htr hne ih a18 a19 a20 a21 a22 a23 a24 a25 a26 a27 a28 a32 a33 a34 a35 a39 a40 l36 l38 i1099 i1862 i1863 i1864 i1865 i1922 i1923 i1924 i1925 i1926 i1927 i1928 i1989 i2370 i2371 i2626 i2627 i2628 x2 x3 x3 1 hw _ _ _ (wn_eq w rfl) (lv_sub hl [0, 1, 2] rfl)
set_option maxHeartbeats 4000000 in
set_option maxRecDepth 100000 in
theorem w_Lb_breakUp_76 {S : ST} {post : Int32 → (Nat → Int32) → (Nat → Int32) → (Nat → Int32) → (Nat → Int32) → (Nat → Int32) → (Nat → Int32) → (Nat → Int32) → (Nat → Int32) → (Nat → Int32) → (Nat → Int32) → (Nat → Int32) → (Nat → Int32) → (Nat → Int32) → (Nat → Int32) → (Nat → Int32) → (Nat → Int32) → (Nat → Int32) → (Nat → Int32) → (Nat → Int32) → (Nat → Int32) → (Nat → Int32) → (Nat → Int32) → (Nat → Int64) → (Nat → Int64) → (Nat → Int64) → Int32 → Int32 → Int32 → Int32 → Int32 → Int32 → Int32 → Int32 → Int32 → Int32 → Int32 → Int32 → Int32 → Int32 → Int32 → Int32 → Int32 → Int32 → Prop} {px : String → Prop} (C : cx p s m args meth c prog_1_method_12_code 5 "LineBreaker" n0 G K) (hr : meth.sig.returnType = (some .int)) (htr : l.stackTraces = false) (hne : c.exceptionTable.toList = []) : ∀ (a18 : (Nat → Int32)) (a19 : (Nat → Int32)) (a20 : (Nat → Int32)) (a21 : (Nat → Int32)) (a22 : (Nat → Int32)) (a23 : (Nat → Int32)) (a24 : (Nat → Int32)) (a25 : (Nat → Int32)) (a26 : (Nat → Int32)) (a27 : (Nat → Int32)) (a28 : (Nat → Int32)) (i1099 : Int32) (i2626 : Int32) (i2627 : Int32) (i2628 : Int32) (z0 : Int32), wl_Lb_breakUp_76 S post px a18 a19 a20 a21 a22 a23 a24 a25 a26 a27 a28 i1099 i2626 i2627 i2628 z0 → ∀ (H : Heap) (locs : List Loc) (ls : Array Slot), wn n0 G (wC K ad (sI (sI (sI (sI (sA (sA (sA (sA (sA (sA (sA (sA (sA (sA (sA S 18 a18) 19 a19) 20 a20) 21 a21) 22 a22) 23 a23) 24 a24) 25 a25) 26 a26) 27 a27) 28 a28) 1099 i1099) 2626 i2626) 2627 i2627) 2628 i2628) ++ X) s H locs → lv_has ls 5 [(0, .ref (ad 0))] → W p l e rm_Lb_breakUp s m args below meth c H locs 0 0 (tmq below (va_Qi (fun r (u : (Nat → Int32) × (Nat → Int32) × (Nat → Int32) × (Nat → Int32) × (Nat → Int32) × (Nat → Int32) × (Nat → Int32) × (Nat → Int32) × (Nat → Int32) × (Nat → Int32) × (Nat → Int32) × (Nat → Int32) × (Nat → Int32) × (Nat → Int32) × (Nat → Int32) × (Nat → Int32) × (Nat → Int32) × (Nat → Int32) × (Nat → Int32) × (Nat → Int32) × (Nat → Int32) × (Nat → Int32) × (Nat → Int64) × (Nat → Int64) × (Nat → Int64) × Int32 × Int32 × Int32 × Int32 × Int32 × Int32 × Int32 × Int32 × Int32 × Int32 × Int32 × Int32 × Int32 × Int32 × Int32 × Int32 × Int32 × Int32) => post r u.1 u.2.1 u.2.2.1 u.2.2.2.1 u.2.2.2.2.1 u.2.2.2.2.2.1 u.2.2.2.2.2.2.1 u.2.2.2.2.2.2.2.1 u.2.2.2.2.2.2.2.2.1 u.2.2.2.2.2.2.2.2.2.1 u.2.2.2.2.2.2.2.2.2.2.1 u.2.2.2.2.2.2.2.2.2.2.2.1 u.2.2.2.2.2.2.2.2.2.2.2.2.1 u.2.2.2.2.2.2.2.2.2.2.2.2.2.1 u.2.2.2.2.2.2.2.2.2.2.2.2.2.2.1 u.2.2.2.2.2.2.2.2.2.2.2.2.2.2.2.1 u.2.2.2.2.2.2.2.2.2.2.2.2.2.2.2.2.1 u.2.2.2.2.2.2.2.2.2.2.2.2.2.2.2.2.2.1 u.2.2.2.2.2.2.2.2.2.2.2.2.2.2.2.2.2.2.1 u.2.2.2.2.2.2.2.2.2.2.2.2.2.2.2.2.2.2.2.1 u.2.2.2.2.2.2.2.2.2.2.2.2.2.2.2.2.2.2.2.2.1 u.2.2.2.2.2.2.2.2.2.2.2.2.2.2.2.2.2.2.2.2.2.1 u.2.2.2.2.2.2.2.2.2.2.2.2.2.2.2.2.2.2.2.2.2.2.1 u.2.2.2.2.2.2.2.2.2.2.2.2.2.2.2.2.2.2.2.2.2.2.2.1 u.2.2.2.2.2.2.2.2.2.2.2.2.2.2.2.2.2.2.2.2.2.2.2.2.1 u.2.2.2.2.2.2.2.2.2.2.2.2.2.2.2.2.2.2.2.2.2.2.2.2.2.1 u.2.2.2.2.2.2.2.2.2.2.2.2.2.2.2.2.2.2.2.2.2.2.2.2.2.2.1 u.2.2.2.2.2.2.2.2.2.2.2.2.2.2.2.2.2.2.2.2.2.2.2.2.2.2.2.1 u.2.2.2.2.2.2.2.2.2.2.2.2.2.2.2.2.2.2.2.2.2.2.2.2.2.2.2.2.1 u.2.2.2.2.2.2.2.2.2.2.2.2.2.2.2.2.2.2.2.2.2.2.2.2.2.2.2.2.2.1 u.2.2.2.2.2.2.2.2.2.2.2.2.2.2.2.2.2.2.2.2.2.2.2.2.2.2.2.2.2.2.1 u.2.2.2.2.2.2.2.2.2.2.2.2.2.2.2.2.2.2.2.2.2.2.2.2.2.2.2.2.2.2.2.1 u.2.2.2.2.2.2.2.2.2.2.2.2.2.2.2.2.2.2.2.2.2.2.2.2.2.2.2.2.2.2.2.2.1 u.2.2.2.2.2.2.2.2.2.2.2.2.2.2.2.2.2.2.2.2.2.2.2.2.2.2.2.2.2.2.2.2.2.1 u.2.2.2.2.2.2.2.2.2.2.2.2.2.2.2.2.2.2.2.2.2.2.2.2.2.2.2.2.2.2.2.2.2.2.1 u.2.2.2.2.2.2.2.2.2.2.2.2.2.2.2.2.2.2.2.2.2.2.2.2.2.2.2.2.2.2.2.2.2.2.2.1 u.2.2.2.2.2.2.2.2.2.2.2.2.2.2.2.2.2.2.2.2.2.2.2.2.2.2.2.2.2.2.2.2.2.2.2.2.1 u.2.2.2.2.2.2.2.2.2.2.2.2.2.2.2.2.2.2.2.2.2.2.2.2.2.2.2.2.2.2.2.2.2.2.2.2.2.1 u.2.2.2.2.2.2.2.2.2.2.2.2.2.2.2.2.2.2.2.2.2.2.2.2.2.2.2.2.2.2.2.2.2.2.2.2.2.2.1 u.2.2.2.2.2.2.2.2.2.2.2.2.2.2.2.2.2.2.2.2.2.2.2.2.2.2.2.2.2.2.2.2.2.2.2.2.2.2.2.1 u.2.2.2.2.2.2.2.2.2.2.2.2.2.2.2.2.2.2.2.2.2.2.2.2.2.2.2.2.2.2.2.2.2.2.2.2.2.2.2.2.1 u.2.2.2.2.2.2.2.2.2.2.2.2.2.2.2.2.2.2.2.2.2.2.2.2.2.2.2.2.2.2.2.2.2.2.2.2.2.2.2.2.2.1 u.2.2.2.2.2.2.2.2.2.2.2.2.2.2.2.2.2.2.2.2.2.2.2.2.2.2.2.2.2.2.2.2.2.2.2.2.2.2.2.2.2.2) (fun (u : (Nat → Int32) × (Nat → Int32) × (Nat → Int32) × (Nat → Int32) × (Nat → Int32) × (Nat → Int32) × (Nat → Int32) × (Nat → Int32) × (Nat → Int32) × (Nat → Int32) × (Nat → Int32) × (Nat → Int32) × (Nat → Int32) × (Nat → Int32) × (Nat → Int32) × (Nat → Int32) × (Nat → Int32) × (Nat → Int32) × (Nat → Int32) × (Nat → Int32) × (Nat → Int32) × (Nat → Int32) × (Nat → Int64) × (Nat → Int64) × (Nat → Int64) × Int32 × Int32 × Int32 × Int32 × Int32 × Int32 × Int32 × Int32 × Int32 × Int32 × Int32 × Int32 × Int32 × Int32 × Int32 × Int32 × Int32 × Int32) t => we n0 G (wC K ad (sI (sI (sI (sI (sI (sI (sI (sI (sI (sI (sI (sI (sI (sI (sI (sI (sI (sI (sL (sL (sL (sA (sA (sA (sA (sA (sA (sA (sA (sA (sA (sA (sA (sA (sA (sA (sA (sA (sA (sA (sA (sA (sA S 18 u.1) 19 u.2.1) 20 u.2.2.1) 21 u.2.2.2.1) 22 u.2.2.2.2.1) 23 u.2.2.2.2.2.1) 24 u.2.2.2.2.2.2.1) 25 u.2.2.2.2.2.2.2.1) 26 u.2.2.2.2.2.2.2.2.1) 27 u.2.2.2.2.2.2.2.2.2.1) 28 u.2.2.2.2.2.2.2.2.2.2.1) 32 u.2.2.2.2.2.2.2.2.2.2.2.1) 33 u.2.2.2.2.2.2.2.2.2.2.2.2.1) 34 u.2.2.2.2.2.2.2.2.2.2.2.2.2.1) 35 u.2.2.2.2.2.2.2.2.2.2.2.2.2.2.1) 39 u.2.2.2.2.2.2.2.2.2.2.2.2.2.2.2.1) 40 u.2.2.2.2.2.2.2.2.2.2.2.2.2.2.2.2.1) 43 u.2.2.2.2.2.2.2.2.2.2.2.2.2.2.2.2.2.1) 44 u.2.2.2.2.2.2.2.2.2.2.2.2.2.2.2.2.2.2.1) 45 u.2.2.2.2.2.2.2.2.2.2.2.2.2.2.2.2.2.2.2.1) 46 u.2.2.2.2.2.2.2.2.2.2.2.2.2.2.2.2.2.2.2.2.1) 47 u.2.2.2.2.2.2.2.2.2.2.2.2.2.2.2.2.2.2.2.2.2.1) 36 u.2.2.2.2.2.2.2.2.2.2.2.2.2.2.2.2.2.2.2.2.2.2.1) 38 u.2.2.2.2.2.2.2.2.2.2.2.2.2.2.2.2.2.2.2.2.2.2.2.1) 48 u.2.2.2.2.2.2.2.2.2.2.2.2.2.2.2.2.2.2.2.2.2.2.2.2.1) 1099 u.2.2.2.2.2.2.2.2.2.2.2.2.2.2.2.2.2.2.2.2.2.2.2.2.2.1) 1862 u.2.2.2.2.2.2.2.2.2.2.2.2.2.2.2.2.2.2.2.2.2.2.2.2.2.2.1) 1863 u.2.2.2.2.2.2.2.2.2.2.2.2.2.2.2.2.2.2.2.2.2.2.2.2.2.2.2.1) 1864 u.2.2.2.2.2.2.2.2.2.2.2.2.2.2.2.2.2.2.2.2.2.2.2.2.2.2.2.2.1) 1865 u.2.2.2.2.2.2.2.2.2.2.2.2.2.2.2.2.2.2.2.2.2.2.2.2.2.2.2.2.2.1) 1922 u.2.2.2.2.2.2.2.2.2.2.2.2.2.2.2.2.2.2.2.2.2.2.2.2.2.2.2.2.2.2.1) 1923 u.2.2.2.2.2.2.2.2.2.2.2.2.2.2.2.2.2.2.2.2.2.2.2.2.2.2.2.2.2.2.2.1) 1924 u.2.2.2.2.2.2.2.2.2.2.2.2.2.2.2.2.2.2.2.2.2.2.2.2.2.2.2.2.2.2.2.2.1) 1925 u.2.2.2.2.2.2.2.2.2.2.2.2.2.2.2.2.2.2.2.2.2.2.2.2.2.2.2.2.2.2.2.2.2.1) 1926 u.2.2.2.2.2.2.2.2.2.2.2.2.2.2.2.2.2.2.2.2.2.2.2.2.2.2.2.2.2.2.2.2.2.2.1) 1927 u.2.2.2.2.2.2.2.2.2.2.2.2.2.2.2.2.2.2.2.2.2.2.2.2.2.2.2.2.2.2.2.2.2.2.2.1) 1928 u.2.2.2.2.2.2.2.2.2.2.2.2.2.2.2.2.2.2.2.2.2.2.2.2.2.2.2.2.2.2.2.2.2.2.2.2.1) 1989 u.2.2.2.2.2.2.2.2.2.2.2.2.2.2.2.2.2.2.2.2.2.2.2.2.2.2.2.2.2.2.2.2.2.2.2.2.2.1) 2370 u.2.2.2.2.2.2.2.2.2.2.2.2.2.2.2.2.2.2.2.2.2.2.2.2.2.2.2.2.2.2.2.2.2.2.2.2.2.2.1) 2371 u.2.2.2.2.2.2.2.2.2.2.2.2.2.2.2.2.2.2.2.2.2.2.2.2.2.2.2.2.2.2.2.2.2.2.2.2.2.2.2.1) 2626 u.2.2.2.2.2.2.2.2.2.2.2.2.2.2.2.2.2.2.2.2.2.2.2.2.2.2.2.2.2.2.2.2.2.2.2.2.2.2.2.2.1) 2627 u.2.2.2.2.2.2.2.2.2.2.2.2.2.2.2.2.2.2.2.2.2.2.2.2.2.2.2.2.2.2.2.2.2.2.2.2.2.2.2.2.2.1) 2628 u.2.2.2.2.2.2.2.2.2.2.2.2.2.2.2.2.2.2.2.2.2.2.2.2.2.2.2.2.2.2.2.2.2.2.2.2.2.2.2.2.2.2) ++ X) t) (al n0)) px args s 1 6 (al n0)) (F0 m 76 ls [.int z0]) := by
  have hx := C.1
  have hb := C.2.1
  have hts := C.2.2.2.2.1
  intro a18 a19 a20 a21 a22 a23 a24 a25 a26 a27 a28 i1099 i2626 i2627 i2628 z0 hw H locs ls w hl
  unfold wl_Lb_breakUp_76 at hw
  refine lv_istore_n (lv' := [(1, .int z0), (0, .ref (ad 0))]) hx hb d_Lb_breakUp_76 rfl hl (by decide) rfl (fun ls hl => ?_)
  refine lv_aload_n hx hb d_Lb_breakUp_77 rfl (lv_at hl 1 rfl) ?_
  refine kg (C1 := R_Lb) (T := F_Lb) (N := 5) (ci := 9) (ref := "LineBreaker") (v := .ref (ad 11)) C w 0 1 iw_Lb rfl rfl (by decide) kw_357 rfl rfl d_Lb_breakUp_78 ?_
  refine kg (C1 := R_St) (T := F_St) (N := 5) (ci := 8) (ref := "LineBreaker$Settings") (v := .ref (ad 12)) C w 11 0 iw_St rfl rfl (by decide) kw_113 rfl rfl d_Lb_breakUp_81 ?_
  refine lv_bipush (v := 8) hx hb d_Lb_breakUp_84 (by decide) ?_
  refine ka_i (f := (S.1 12)) C w 12 rfl hw.1 d_Lb_breakUp_86 ?_
  have hw := hw.2
  refine lv_if_le (tgt := 94) hx hb d_Lb_breakUp_87 (by decide) (fun hc => ?_) (fun hc => ?_)
  · have hw := hw.1 hc
    refine lv_iconst (v := 2) hx hb d_Lb_breakUp_94 (by decide) ?_
    refine lv_istore_n (lv' := [(2, .int 2), (1, .int z0), (0, .ref (ad 0))]) hx hb d_Lb_breakUp_95 rfl hl (by decide) rfl (fun ls hl => ?_)
    refine lv_iload_n hx hb d_Lb_breakUp_96 rfl (lv_at hl 1 rfl) ?_
    refine lv_istore_n (lv' := [(3, .int z0), (2, .int 2), (1, .int z0), (0, .ref (ad 0))]) hx hb d_Lb_breakUp_97 rfl hl (by decide) rfl (fun ls hl => ?_)
    obtain ⟨n9, hw⟩ := hw
    exact w_Lb_breakUp_98 C hr htr hne  n9 a18 a19 a20 a21 a22 a23 a24 a25 a26 a27 a28 (S.1 32) (S.1 33) (S.1 34) (S.1 35) (S.1 39) (S.1 40) (S.2.1 36) (S.2.1 38) i1099 (S.2.2 1862) (S.2.2 1863) (S.2.2 1864) (S.2.2 1865) (S.2.2 1922) (S.2.2 1923) (S.2.2 1924) (S.2.2 1925) (S.2.2 1926) (S.2.2 1927) (S.2.2 1928) (S.2.2 1989) (S.2.2 2370) (S.2.2 2371) i2626 i2627 i2628 2 z0 hw _ _ _ (wn_eq w rfl) (lv_sub hl [3, 1, 0] rfl)
  · have hw := hw.2 hc
    refine lv_iconst (v := 3) hx hb d_Lb_breakUp_90 (by decide) ?_
    refine lv_goto (tgt := 95) hx hb d_Lb_breakUp_91 (by decide) ?_
    refine lv_istore_n (lv' := [(2, .int 3), (1, .int z0), (0, .ref (ad 0))]) hx hb d_Lb_breakUp_95 rfl hl (by decide) rfl (fun ls hl => ?_)
    refine lv_iload_n hx hb d_Lb_breakUp_96 rfl (lv_at hl 1 rfl) ?_
    refine lv_istore_n (lv' := [(3, .int z0), (2, .int 3), (1, .int z0), (0, .ref (ad 0))]) hx hb d_Lb_breakUp_97 rfl hl (by decide) rfl (fun ls hl => ?_)
    obtain ⟨n9, hw⟩ := hw
    exact w_Lb_breakUp_98 C hr htr hne  n9 a18 a19 a20 a21 a22 a23 a24 a25 a26 a27 a28 (S.1 32) (S.1 33) (S.1 34) (S.1 35) (S.1 39) (S.1 40) (S.2.1 36) (S.2.1 38) i1099 (S.2.2 1862) (S.2.2 1863) (S.2.2 1864) (S.2.2 1865) (S.2.2 1922) (S.2.2 1923) (S.2.2 1924) (S.2.2 1925) (S.2.2 1926) (S.2.2 1927) (S.2.2 1928) (S.2.2 1989) (S.2.2 2370) (S.2.2 2371) i2626 i2627 i2628 3 z0 hw _ _ _ (wn_eq w rfl) (lv_sub hl [3, 1, 0] rfl)
set_option maxHeartbeats 4000000 in
set_option maxRecDepth 100000 in
theorem c_Lb_breakUp (l : Launch) (htr : l.stackTraces = false) (n0 : Nat) (G : va_G) (K : KT) (ad : Nat → Nat) (X : va_W) (S : ST) (post : Int32 → (Nat → Int32) → (Nat → Int32) → (Nat → Int32) → (Nat → Int32) → (Nat → Int32) → (Nat → Int32) → (Nat → Int32) → (Nat → Int32) → (Nat → Int32) → (Nat → Int32) → (Nat → Int32) → (Nat → Int32) → (Nat → Int32) → (Nat → Int32) → (Nat → Int32) → (Nat → Int32) → (Nat → Int32) → (Nat → Int32) → (Nat → Int32) → (Nat → Int32) → (Nat → Int32) → (Nat → Int32) → (Nat → Int64) → (Nat → Int64) → (Nat → Int64) → Int32 → Int32 → Int32 → Int32 → Int32 → Int32 → Int32 → Int32 → Int32 → Int32 → Int32 → Int32 → Int32 → Int32 → Int32 → Int32 → Int32 → Int32 → Prop) (px : String → Prop) (hw : wp_Lb_breakUp S  post px) : tmet l y_Lb_breakUp (Cond.code y_Lb_breakUp prog_1_method_12_code 5 (some .int) :: gw) rm_Lb_breakUp (va_Pc [.ref (ad 0)] (wb n0 G K (wC K ad S ++ X))) (va_Qi (fun r (u : (Nat → Int32) × (Nat → Int32) × (Nat → Int32) × (Nat → Int32) × (Nat → Int32) × (Nat → Int32) × (Nat → Int32) × (Nat → Int32) × (Nat → Int32) × (Nat → Int32) × (Nat → Int32) × (Nat → Int32) × (Nat → Int32) × (Nat → Int32) × (Nat → Int32) × (Nat → Int32) × (Nat → Int32) × (Nat → Int32) × (Nat → Int32) × (Nat → Int32) × (Nat → Int32) × (Nat → Int32) × (Nat → Int64) × (Nat → Int64) × (Nat → Int64) × Int32 × Int32 × Int32 × Int32 × Int32 × Int32 × Int32 × Int32 × Int32 × Int32 × Int32 × Int32 × Int32 × Int32 × Int32 × Int32 × Int32 × Int32) => post r u.1 u.2.1 u.2.2.1 u.2.2.2.1 u.2.2.2.2.1 u.2.2.2.2.2.1 u.2.2.2.2.2.2.1 u.2.2.2.2.2.2.2.1 u.2.2.2.2.2.2.2.2.1 u.2.2.2.2.2.2.2.2.2.1 u.2.2.2.2.2.2.2.2.2.2.1 u.2.2.2.2.2.2.2.2.2.2.2.1 u.2.2.2.2.2.2.2.2.2.2.2.2.1 u.2.2.2.2.2.2.2.2.2.2.2.2.2.1 u.2.2.2.2.2.2.2.2.2.2.2.2.2.2.1 u.2.2.2.2.2.2.2.2.2.2.2.2.2.2.2.1 u.2.2.2.2.2.2.2.2.2.2.2.2.2.2.2.2.1 u.2.2.2.2.2.2.2.2.2.2.2.2.2.2.2.2.2.1 u.2.2.2.2.2.2.2.2.2.2.2.2.2.2.2.2.2.2.1 u.2.2.2.2.2.2.2.2.2.2.2.2.2.2.2.2.2.2.2.1 u.2.2.2.2.2.2.2.2.2.2.2.2.2.2.2.2.2.2.2.2.1 u.2.2.2.2.2.2.2.2.2.2.2.2.2.2.2.2.2.2.2.2.2.1 u.2.2.2.2.2.2.2.2.2.2.2.2.2.2.2.2.2.2.2.2.2.2.1 u.2.2.2.2.2.2.2.2.2.2.2.2.2.2.2.2.2.2.2.2.2.2.2.1 u.2.2.2.2.2.2.2.2.2.2.2.2.2.2.2.2.2.2.2.2.2.2.2.2.1 u.2.2.2.2.2.2.2.2.2.2.2.2.2.2.2.2.2.2.2.2.2.2.2.2.2.1 u.2.2.2.2.2.2.2.2.2.2.2.2.2.2.2.2.2.2.2.2.2.2.2.2.2.2.1 u.2.2.2.2.2.2.2.2.2.2.2.2.2.2.2.2.2.2.2.2.2.2.2.2.2.2.2.1 u.2.2.2.2.2.2.2.2.2.2.2.2.2.2.2.2.2.2.2.2.2.2.2.2.2.2.2.2.1 u.2.2.2.2.2.2.2.2.2.2.2.2.2.2.2.2.2.2.2.2.2.2.2.2.2.2.2.2.2.1 u.2.2.2.2.2.2.2.2.2.2.2.2.2.2.2.2.2.2.2.2.2.2.2.2.2.2.2.2.2.2.1 u.2.2.2.2.2.2.2.2.2.2.2.2.2.2.2.2.2.2.2.2.2.2.2.2.2.2.2.2.2.2.2.1 u.2.2.2.2.2.2.2.2.2.2.2.2.2.2.2.2.2.2.2.2.2.2.2.2.2.2.2.2.2.2.2.2.1 u.2.2.2.2.2.2.2.2.2.2.2.2.2.2.2.2.2.2.2.2.2.2.2.2.2.2.2.2.2.2.2.2.2.1 u.2.2.2.2.2.2.2.2.2.2.2.2.2.2.2.2.2.2.2.2.2.2.2.2.2.2.2.2.2.2.2.2.2.2.1 u.2.2.2.2.2.2.2.2.2.2.2.2.2.2.2.2.2.2.2.2.2.2.2.2.2.2.2.2.2.2.2.2.2.2.2.1 u.2.2.2.2.2.2.2.2.2.2.2.2.2.2.2.2.2.2.2.2.2.2.2.2.2.2.2.2.2.2.2.2.2.2.2.2.1 u.2.2.2.2.2.2.2.2.2.2.2.2.2.2.2.2.2.2.2.2.2.2.2.2.2.2.2.2.2.2.2.2.2.2.2.2.2.1 u.2.2.2.2.2.2.2.2.2.2.2.2.2.2.2.2.2.2.2.2.2.2.2.2.2.2.2.2.2.2.2.2.2.2.2.2.2.2.1 u.2.2.2.2.2.2.2.2.2.2.2.2.2.2.2.2.2.2.2.2.2.2.2.2.2.2.2.2.2.2.2.2.2.2.2.2.2.2.2.1 u.2.2.2.2.2.2.2.2.2.2.2.2.2.2.2.2.2.2.2.2.2.2.2.2.2.2.2.2.2.2.2.2.2.2.2.2.2.2.2.2.1 u.2.2.2.2.2.2.2.2.2.2.2.2.2.2.2.2.2.2.2.2.2.2.2.2.2.2.2.2.2.2.2.2.2.2.2.2.2.2.2.2.2.1 u.2.2.2.2.2.2.2.2.2.2.2.2.2.2.2.2.2.2.2.2.2.2.2.2.2.2.2.2.2.2.2.2.2.2.2.2.2.2.2.2.2.2) (fun (u : (Nat → Int32) × (Nat → Int32) × (Nat → Int32) × (Nat → Int32) × (Nat → Int32) × (Nat → Int32) × (Nat → Int32) × (Nat → Int32) × (Nat → Int32) × (Nat → Int32) × (Nat → Int32) × (Nat → Int32) × (Nat → Int32) × (Nat → Int32) × (Nat → Int32) × (Nat → Int32) × (Nat → Int32) × (Nat → Int32) × (Nat → Int32) × (Nat → Int32) × (Nat → Int32) × (Nat → Int32) × (Nat → Int64) × (Nat → Int64) × (Nat → Int64) × Int32 × Int32 × Int32 × Int32 × Int32 × Int32 × Int32 × Int32 × Int32 × Int32 × Int32 × Int32 × Int32 × Int32 × Int32 × Int32 × Int32 × Int32) t => we n0 G (wC K ad (sI (sI (sI (sI (sI (sI (sI (sI (sI (sI (sI (sI (sI (sI (sI (sI (sI (sI (sL (sL (sL (sA (sA (sA (sA (sA (sA (sA (sA (sA (sA (sA (sA (sA (sA (sA (sA (sA (sA (sA (sA (sA (sA S 18 u.1) 19 u.2.1) 20 u.2.2.1) 21 u.2.2.2.1) 22 u.2.2.2.2.1) 23 u.2.2.2.2.2.1) 24 u.2.2.2.2.2.2.1) 25 u.2.2.2.2.2.2.2.1) 26 u.2.2.2.2.2.2.2.2.1) 27 u.2.2.2.2.2.2.2.2.2.1) 28 u.2.2.2.2.2.2.2.2.2.2.1) 32 u.2.2.2.2.2.2.2.2.2.2.2.1) 33 u.2.2.2.2.2.2.2.2.2.2.2.2.1) 34 u.2.2.2.2.2.2.2.2.2.2.2.2.2.1) 35 u.2.2.2.2.2.2.2.2.2.2.2.2.2.2.1) 39 u.2.2.2.2.2.2.2.2.2.2.2.2.2.2.2.1) 40 u.2.2.2.2.2.2.2.2.2.2.2.2.2.2.2.2.1) 43 u.2.2.2.2.2.2.2.2.2.2.2.2.2.2.2.2.2.1) 44 u.2.2.2.2.2.2.2.2.2.2.2.2.2.2.2.2.2.2.1) 45 u.2.2.2.2.2.2.2.2.2.2.2.2.2.2.2.2.2.2.2.1) 46 u.2.2.2.2.2.2.2.2.2.2.2.2.2.2.2.2.2.2.2.2.1) 47 u.2.2.2.2.2.2.2.2.2.2.2.2.2.2.2.2.2.2.2.2.2.1) 36 u.2.2.2.2.2.2.2.2.2.2.2.2.2.2.2.2.2.2.2.2.2.2.1) 38 u.2.2.2.2.2.2.2.2.2.2.2.2.2.2.2.2.2.2.2.2.2.2.2.1) 48 u.2.2.2.2.2.2.2.2.2.2.2.2.2.2.2.2.2.2.2.2.2.2.2.2.1) 1099 u.2.2.2.2.2.2.2.2.2.2.2.2.2.2.2.2.2.2.2.2.2.2.2.2.2.1) 1862 u.2.2.2.2.2.2.2.2.2.2.2.2.2.2.2.2.2.2.2.2.2.2.2.2.2.2.1) 1863 u.2.2.2.2.2.2.2.2.2.2.2.2.2.2.2.2.2.2.2.2.2.2.2.2.2.2.2.1) 1864 u.2.2.2.2.2.2.2.2.2.2.2.2.2.2.2.2.2.2.2.2.2.2.2.2.2.2.2.2.1) 1865 u.2.2.2.2.2.2.2.2.2.2.2.2.2.2.2.2.2.2.2.2.2.2.2.2.2.2.2.2.2.1) 1922 u.2.2.2.2.2.2.2.2.2.2.2.2.2.2.2.2.2.2.2.2.2.2.2.2.2.2.2.2.2.2.1) 1923 u.2.2.2.2.2.2.2.2.2.2.2.2.2.2.2.2.2.2.2.2.2.2.2.2.2.2.2.2.2.2.2.1) 1924 u.2.2.2.2.2.2.2.2.2.2.2.2.2.2.2.2.2.2.2.2.2.2.2.2.2.2.2.2.2.2.2.2.1) 1925 u.2.2.2.2.2.2.2.2.2.2.2.2.2.2.2.2.2.2.2.2.2.2.2.2.2.2.2.2.2.2.2.2.2.1) 1926 u.2.2.2.2.2.2.2.2.2.2.2.2.2.2.2.2.2.2.2.2.2.2.2.2.2.2.2.2.2.2.2.2.2.2.1) 1927 u.2.2.2.2.2.2.2.2.2.2.2.2.2.2.2.2.2.2.2.2.2.2.2.2.2.2.2.2.2.2.2.2.2.2.2.1) 1928 u.2.2.2.2.2.2.2.2.2.2.2.2.2.2.2.2.2.2.2.2.2.2.2.2.2.2.2.2.2.2.2.2.2.2.2.2.1) 1989 u.2.2.2.2.2.2.2.2.2.2.2.2.2.2.2.2.2.2.2.2.2.2.2.2.2.2.2.2.2.2.2.2.2.2.2.2.2.1) 2370 u.2.2.2.2.2.2.2.2.2.2.2.2.2.2.2.2.2.2.2.2.2.2.2.2.2.2.2.2.2.2.2.2.2.2.2.2.2.2.1) 2371 u.2.2.2.2.2.2.2.2.2.2.2.2.2.2.2.2.2.2.2.2.2.2.2.2.2.2.2.2.2.2.2.2.2.2.2.2.2.2.2.1) 2626 u.2.2.2.2.2.2.2.2.2.2.2.2.2.2.2.2.2.2.2.2.2.2.2.2.2.2.2.2.2.2.2.2.2.2.2.2.2.2.2.2.1) 2627 u.2.2.2.2.2.2.2.2.2.2.2.2.2.2.2.2.2.2.2.2.2.2.2.2.2.2.2.2.2.2.2.2.2.2.2.2.2.2.2.2.2.1) 2628 u.2.2.2.2.2.2.2.2.2.2.2.2.2.2.2.2.2.2.2.2.2.2.2.2.2.2.2.2.2.2.2.2.2.2.2.2.2.2.2.2.2.2) ++ X) t) (al n0)) px 1 6 (al n0) := by
  refine kt_start (own := "LineBreaker") (by decide +kernel) rfl ?_
  intro p e s m below meth c C hr hne w
  have hx := C.1
  have hb := C.2.1
  have hts := C.2.2.2.2.1
  have hl := lv_entry ([.ref (ad 0)]) (n := 5) (Nat.le_of_ble_eq_true rfl)
  rw [lg_entry_eq]
  generalize (lg_sl ([.ref (ad 0)]) ++ List.replicate (5 - (lg_sl ([.ref (ad 0)])).length) Slot.unset).toArray = ls at hl ⊢
  have hl : lv_has ls 5 [(0, .ref (ad 0))] := hl
  unfold wp_Lb_breakUp at hw
  refine lv_aload_n hx hb d_Lb_breakUp_0 rfl (lv_at hl 0 rfl) ?_
  refine kg (C1 := R_Lb) (T := F_Lb) (N := 5) (ci := 9) (ref := "LineBreaker") (v := .ref (ad 1)) C w 0 0 iw_Lb rfl rfl (by decide) kw_356 rfl rfl d_Lb_breakUp_1 ?_
  refine kd_i (kr_V (y := y_Pa_awaitsReplaced) (C1 := R_Pa) (T := F_Pa) (N := 10) (ci := 6) (q0 := 1) (As := []) (n := 0) C w (c_Pa_awaitsReplaced l n0 G K ad X S  _ hw) (gw_V kw_520 kw_521 kw_522 kw_2 kw_523) (by decide +kernel) rfl rfl ⟨Nat.le_of_ble_eq_true rfl, Nat.le_of_ble_eq_true rfl⟩ rfl rfl rfl hl.1 rfl (Nat.le_of_ble_eq_true rfl) d_Lb_breakUp_4 ⟨Nat.le_of_ble_eq_true rfl, Nat.le_of_ble_eq_true rfl⟩) (fun r1 hw => ?_)
  refine lv_if_eq (tgt := 20) hx hb d_Lb_breakUp_7 (by decide) (fun hc => ?_) (fun hc => ?_)
  · have hw := hw.1 hc
    refine lv_aload_n hx hb d_Lb_breakUp_20 rfl (lv_at hl 0 rfl) ?_
    refine kd_i (kr_V (y := y_Lb_sumsAreSizes) (C1 := R_Lb) (T := F_Lb) (N := 5) (ci := 9) (q0 := 0) (As := []) (n := 0) C w (c_Lb_sumsAreSizes l n0 G K ad X S  _ hw) (gw_V kw_628 kw_630 kp_3 kw_1 kw_631) (by decide +kernel) rfl rfl ⟨Nat.le_of_ble_eq_true rfl, Nat.le_of_ble_eq_true rfl⟩ rfl rfl rfl hl.1 rfl (Nat.le_of_ble_eq_true rfl) d_Lb_breakUp_21 ⟨Nat.le_of_ble_eq_true rfl, Nat.le_of_ble_eq_true rfl⟩) (fun r2 hw => ?_)
    refine lv_if_ne (tgt := 37) hx hb d_Lb_breakUp_24 (by decide) (fun hc => ?_) (fun hc => ?_)
    · have hw := hw.1 hc
      refine lv_aload_n hx hb d_Lb_breakUp_37 rfl (lv_at hl 0 rfl) ?_
      refine kg (C1 := R_Lb) (T := F_Lb) (N := 5) (ci := 9) (ref := "LineBreaker") (v := .ref (ad 41)) C w 0 4 iw_Lb rfl rfl (by decide) kw_360 rfl rfl d_Lb_breakUp_38 ?_
      refine kc_v (st := fun (u : Int32 × Int32 × Int32) => wC K ad (sI (sI (sI S 2626 u.1) 2627 u.2.1) 2628 u.2.2) ++ X) w (kr_V (y := y_Ou_forget) (C1 := R_Ou) (T := F_Ou) (N := 5) (ci := 5) (q0 := 41) (As := []) (n := 0) C w (c_Ou_forget l n0 G K ad X S  _ hw) (gw_V kw_376 kw_377 kw_378 kw_10 kw_379) (by decide +kernel) rfl rfl ⟨Nat.le_of_ble_eq_true rfl, Nat.le_of_ble_eq_true rfl⟩ rfl rfl rfl hl.1 rfl (Nat.le_of_ble_eq_true rfl) d_Lb_breakUp_41 ⟨Nat.le_of_ble_eq_true rfl, Nat.le_of_ble_eq_true rfl⟩) (fun u H locs hw w => ?_)
      obtain ⟨v3, v4, v5⟩ := u
      dsimp only at hw
      have w : wn n0 G (wC K ad (sI (sI (sI S 2626 v3) 2627 v4) 2628 v5) ++ X) s H locs := w
      refine lv_aload_n hx hb d_Lb_breakUp_44 rfl (lv_at hl 0 rfl) ?_
      refine kg (C1 := R_Lb) (T := F_Lb) (N := 5) (ci := 9) (ref := "LineBreaker") (v := .ref (ad 17)) C w 0 2 iw_Lb rfl rfl (by decide) kw_358 rfl rfl d_Lb_breakUp_45 ?_
      refine lv_aload_n hx hb d_Lb_breakUp_48 rfl (lv_at hl 0 rfl) ?_
      refine kg (C1 := R_Lb) (T := F_Lb) (N := 5) (ci := 9) (ref := "LineBreaker") (v := .ref (ad 1)) C w 0 0 iw_Lb rfl rfl (by decide) kw_356 rfl rfl d_Lb_breakUp_49 ?_
      refine lv_aload_n hx hb d_Lb_breakUp_52 rfl (lv_at hl 0 rfl) ?_
      refine kg (C1 := R_Lb) (T := F_Lb) (N := 5) (ci := 9) (ref := "LineBreaker") (v := .ref (ad 11)) C w 0 1 iw_Lb rfl rfl (by decide) kw_357 rfl rfl d_Lb_breakUp_53 ?_
      refine kc_v (st := fun (u : (Nat → Int32) × (Nat → Int32) × (Nat → Int32) × (Nat → Int32) × (Nat → Int32) × (Nat → Int32) × (Nat → Int32) × (Nat → Int32) × (Nat → Int32) × (Nat → Int32) × (Nat → Int32) × Int32) => wC K ad (sI (sA (sA (sA (sA (sA (sA (sA (sA (sA (sA (sA (sI (sI (sI S 2626 v3) 2627 v4) 2628 v5) 18 u.1) 19 u.2.1) 20 u.2.2.1) 21 u.2.2.2.1) 22 u.2.2.2.2.1) 23 u.2.2.2.2.2.1) 24 u.2.2.2.2.2.2.1) 25 u.2.2.2.2.2.2.2.1) 26 u.2.2.2.2.2.2.2.2.1) 27 u.2.2.2.2.2.2.2.2.2.1) 28 u.2.2.2.2.2.2.2.2.2.2.1) 1099 u.2.2.2.2.2.2.2.2.2.2.2) ++ X) w (kr_V (y := y_Ga_prepare) (C1 := R_Ga) (T := F_Ga) (N := 12) (ci := 0) (q0 := 17) (As := [.ref (ad 1), .ref (ad 11)]) (n := 2) C w (c_Ga_prepare l n0 G K ad X (sI (sI (sI S 2626 v3) 2627 v4) 2628 v5)  _ hw) (gw_V kw_665 kw_666 kw_667 kw_5 kw_668) (by decide +kernel) rfl rfl ⟨Nat.le_of_ble_eq_true rfl, Nat.le_of_ble_eq_true rfl⟩ rfl rfl rfl hl.1 rfl (Nat.le_of_ble_eq_true rfl) d_Lb_breakUp_56 ⟨Nat.le_of_ble_eq_true rfl, Nat.le_of_ble_eq_true rfl⟩) (fun u H locs hw w => ?_)
      obtain ⟨f6, f7, f8, f9, f10, f11, f12, f13, f14, f15, f16, v17⟩ := u
      dsimp only at hw
      have w : wn n0 G (wC K ad (sI (sI (sI (sI (sA (sA (sA (sA (sA (sA (sA (sA (sA (sA (sA S 18 f6) 19 f7) 20 f8) 21 f9) 22 f10) 23 f11) 24 f12) 25 f13) 26 f14) 27 f15) 28 f16) 1099 v17) 2626 v3) 2627 v4) 2628 v5) ++ X) s H locs := w
      refine lv_aload_n hx hb d_Lb_breakUp_59 rfl (lv_at hl 0 rfl) ?_
      refine kg (C1 := R_Lb) (T := F_Lb) (N := 5) (ci := 9) (ref := "LineBreaker") (v := .ref (ad 11)) C w 0 1 iw_Lb rfl rfl (by decide) kw_357 rfl rfl d_Lb_breakUp_60 ?_
      refine kg (C1 := R_St) (T := F_St) (N := 5) (ci := 8) (ref := "LineBreaker$Settings") (v := .ref (ad 12)) C w 11 0 iw_St rfl rfl (by decide) kw_113 rfl rfl d_Lb_breakUp_63 ?_
      refine lv_iconst (v := 0) hx hb d_Lb_breakUp_66 (by decide) ?_
      refine ka_i (f := (S.1 12)) C w 12 rfl hw.1 d_Lb_breakUp_67 ?_
      have hw := hw.2
      refine lv_if_ge (tgt := 75) hx hb d_Lb_breakUp_68 (by decide) (fun hc => ?_) (fun hc => ?_)
      · have hw := hw.1 hc
        refine lv_iconst (v := 1) hx hb d_Lb_breakUp_75 (by decide) ?_
        exact w_Lb_breakUp_76 C hr htr hne  f6 f7 f8 f9 f10 f11 f12 f13 f14 f15 f16 v17 v3 v4 v5 1 hw _ _ _ (wn_eq w rfl) (lv_sub hl [0] rfl)
      · have hw := hw.2 hc
        refine lv_iconst (v := 2) hx hb d_Lb_breakUp_71 (by decide) ?_
        refine lv_goto (tgt := 76) hx hb d_Lb_breakUp_72 (by decide) ?_
        exact w_Lb_breakUp_76 C hr htr hne  f6 f7 f8 f9 f10 f11 f12 f13 f14 f15 f16 v17 v3 v4 v5 2 hw _ _ _ (wn_eq w rfl) (lv_sub hl [0] rfl)
    · have hw := hw.2 hc
      obtain ⟨sa, hstr⟩ := fx_str (i := 664) (own := "LineBreaker") (k := 151) (text := "all sizes together are no size") C.2.2.2.2.2.2.2.2 (by decide +kernel)
      exact tx_throw (names := ["java/lang/RuntimeException", "java/lang/Exception"]) (text := "all sizes together are no size") C w hne htr (by decide +kernel) (by decide +kernel) (tw_153 hts C.2.2.2.2.2.2.2.2) kw_482 kw_483 kw_16 hstr hl.1 d_Lb_breakUp_27 d_Lb_breakUp_30 d_Lb_breakUp_31 d_Lb_breakUp_33 d_Lb_breakUp_36 (by decide) (Nat.le_of_ble_eq_true rfl) (by decide) (by decide) hw (by decide) (by decide)
  · have hw := hw.2 hc
    obtain ⟨sa, hstr⟩ := fx_str (i := 627) (own := "LineBreaker") (k := 143) (text := "a hyphen's replaced items are not all there") C.2.2.2.2.2.2.2.2 (by decide +kernel)
    exact tx_throw (names := ["java/lang/RuntimeException", "java/lang/Exception"]) (text := "a hyphen's replaced items are not all there") C w hne htr (by decide +kernel) (by decide +kernel) (tw_145 hts C.2.2.2.2.2.2.2.2) kw_527 kw_528 kw_18 hstr hl.1 d_Lb_breakUp_10 d_Lb_breakUp_13 d_Lb_breakUp_14 d_Lb_breakUp_16 d_Lb_breakUp_19 (by decide) (Nat.le_of_ble_eq_true rfl) (by decide) (by decide) hw (by decide) (by decide)
set_option maxHeartbeats 4000000 in
set_option maxRecDepth 100000 in
theorem w_Lb_requireLine_15 {S : ST} {post : Prop} {px : String → Prop} (C : cx p s m args meth c prog_1_method_20_code 2 "LineBreaker" n0 G K) (hr : meth.sig.returnType = none) (htr : l.stackTraces = false) (hne : c.exceptionTable.toList = []) : wl_Lb_requireLine_15 S post px  → ∀ (ls : Array Slot), wn n0 G (wC K ad S ++ X) s s.heap [] → lv_has ls 2 [] → W p l e rm_Lb_requireLine s m args below meth c s.heap [] 0 0 (tmq below (rq_v post) px args s 1 6 (fun _ => False)) (F0 m 15 ls []) := by
  have hx := C.1
  have hb := C.2.1
  have hts := C.2.2.2.2.1
  intro  hw ls w hl
  unfold wl_Lb_requireLine_15 at hw
  obtain ⟨sa, hstr⟩ := fx_str (i := 855) (own := "LineBreaker") (k := 214) (text := "there is no such line") C.2.2.2.2.2.2.2.2 (by decide +kernel)
  exact tx_throw (names := ["java/lang/RuntimeException", "java/lang/Exception"]) (text := "there is no such line") C w hne htr (by decide +kernel) (by decide +kernel) (tw_180 hts C.2.2.2.2.2.2.2.2) kw_846 kw_847 kw_20 hstr hl.1 d_Lb_requireLine_15 d_Lb_requireLine_18 d_Lb_requireLine_19 d_Lb_requireLine_21 d_Lb_requireLine_24 (by decide) (Nat.le_of_ble_eq_true rfl) (by decide) (by decide) hw (by decide) (by decide)
set_option maxHeartbeats 4000000 in
set_option maxRecDepth 100000 in
theorem c_Lb_requireLine (l : Launch) (htr : l.stackTraces = false) (n0 : Nat) (G : va_G) (K : KT) (ad : Nat → Nat) (X : va_W) (S : ST) (p1 : Int32) (post : Prop) (px : String → Prop) (hw : wp_Lb_requireLine S p1 post px) : tmet l y_Lb_requireLine (Cond.code y_Lb_requireLine prog_1_method_20_code 2 none :: gw) rm_Lb_requireLine (va_Pc [.ref (ad 0), .int p1] (wb n0 G K (wC K ad S ++ X))) (rq_v post) px 1 6 (fun _ => False) := by
  refine kt_start (own := "LineBreaker") (by decide +kernel) rfl ?_
  intro p e s m below meth c C hr hne w
  have hx := C.1
  have hb := C.2.1
  have hts := C.2.2.2.2.1
  have hl := lv_entry ([.ref (ad 0), .int p1]) (n := 2) (Nat.le_of_ble_eq_true rfl)
  rw [lg_entry_eq]
  generalize (lg_sl ([.ref (ad 0), .int p1]) ++ List.replicate (2 - (lg_sl ([.ref (ad 0), .int p1])).length) Slot.unset).toArray = ls at hl ⊢
  have hl : lv_has ls 2 [(0, .ref (ad 0)), (1, .int p1)] := hl
  unfold wp_Lb_requireLine at hw
  refine lv_iload_n hx hb d_Lb_requireLine_0 rfl (lv_at hl 1 rfl) ?_
  refine lv_if_lt (tgt := 15) hx hb d_Lb_requireLine_1 (by decide) (fun hc => ?_) (fun hc => ?_)
  · have hw := hw.1 hc
    exact w_Lb_requireLine_15 C hr htr hne   hw _ w (lv_sub hl [] rfl)
  · have hw := hw.2 hc
    refine lv_iload_n hx hb d_Lb_requireLine_4 rfl (lv_at hl 1 rfl) ?_
    refine lv_aload_n hx hb d_Lb_requireLine_5 rfl (lv_at hl 0 rfl) ?_
    refine kg (C1 := R_Lb) (T := F_Lb) (N := 5) (ci := 9) (ref := "LineBreaker") (v := .ref (ad 41)) C w 0 4 iw_Lb rfl rfl (by decide) kw_360 rfl rfl d_Lb_requireLine_6 ?_
    refine kg (C1 := R_Ou) (T := F_Ou) (N := 5) (ci := 5) (ref := "LineBreaker$Outcome") (v := .int (S.2.2 2626)) C w 41 2 iw_Ou rfl rfl (by decide) kw_340 rfl rfl d_Lb_requireLine_9 ?_
    refine lv_icmp_lt (tgt := 25) hx hb d_Lb_requireLine_12 (by decide) (fun hc => ?_) (fun hc => ?_)
    · have hw := hw.1 hc
      refine W.widen (k := 1) (n := 6) (by decide) (by decide) ?_
      refine tx_ret ?_
      exact kf_v C hr d_Lb_requireLine_25 hw
    · have hw := hw.2 hc
      exact w_Lb_requireLine_15 C hr htr hne   hw _ w (lv_sub hl [] rfl)
set_option maxHeartbeats 4000000 in
set_option maxRecDepth 100000 in
theorem w_Lb_line_14 {S : ST} {post : Int32 → Prop} {px : String → Prop} (C : cx p s m args meth c prog_1_method_15_code 3 "LineBreaker" n0 G K) (hr : meth.sig.returnType = (some .int)) (htr : l.stackTraces = false) (hne : c.exceptionTable.toList = []) : wl_Lb_line_14 S post px  → ∀ (ls : Array Slot), wn n0 G (wC K ad S ++ X) s s.heap [] → lv_has ls 3 [] → W p l e rm_Lb_line s m args below meth c s.heap [] 1 6 (tmq below (rq_i post) px args s 2 12 (fun _ => False)) (F0 m 14 ls []) := by
  have hx := C.1
  have hb := C.2.1
  have hts := C.2.2.2.2.1
  intro  hw ls w hl
  unfold wl_Lb_line_14 at hw
  obtain ⟨sa, hstr⟩ := fx_str (i := 862) (own := "LineBreaker") (k := 178) (text := "a line has no such fact") C.2.2.2.2.2.2.2.2 (by decide +kernel)
  exact tx_throw (names := ["java/lang/RuntimeException", "java/lang/Exception"]) (text := "a line has no such fact") C w hne htr (by decide +kernel) (by decide +kernel) (tw_180 hts C.2.2.2.2.2.2.2.2) kw_846 kw_847 kw_20 hstr hl.1 d_Lb_line_14 d_Lb_line_17 d_Lb_line_18 d_Lb_line_20 d_Lb_line_23 (by decide) (Nat.le_of_ble_eq_true rfl) (by decide) (by decide) hw (by decide) (by decide)
set_option maxHeartbeats 4000000 in
set_option maxRecDepth 100000 in
theorem c_Lb_line (l : Launch) (htr : l.stackTraces = false) (n0 : Nat) (G : va_G) (K : KT) (ad : Nat → Nat) (X : va_W) (S : ST) (p1 : Int32) (p2 : Int32) (post : Int32 → Prop) (px : String → Prop) (hw : wp_Lb_line S p1 p2 post px) : tmet l y_Lb_line (Cond.code y_Lb_line prog_1_method_15_code 3 (some .int) :: gw) rm_Lb_line (va_Pc [.ref (ad 0), .int p1, .int p2] (wb n0 G K (wC K ad S ++ X))) (rq_i post) px 2 12 (fun _ => False) := by
  refine kt_start (own := "LineBreaker") (by decide +kernel) rfl ?_
  intro p e s m below meth c C hr hne w
  have hx := C.1
  have hb := C.2.1
  have hts := C.2.2.2.2.1
  have hl := lv_entry ([.ref (ad 0), .int p1, .int p2]) (n := 3) (Nat.le_of_ble_eq_true rfl)
  rw [lg_entry_eq]
  generalize (lg_sl ([.ref (ad 0), .int p1, .int p2]) ++ List.replicate (3 - (lg_sl ([.ref (ad 0), .int p1, .int p2])).length) Slot.unset).toArray = ls at hl ⊢
  have hl : lv_has ls 3 [(0, .ref (ad 0)), (1, .int p1), (2, .int p2)] := hl
  unfold wp_Lb_line at hw
  refine lv_aload_n hx hb d_Lb_line_0 rfl (lv_at hl 0 rfl) ?_
  refine lv_iload_n hx hb d_Lb_line_1 rfl (lv_at hl 1 rfl) ?_
  refine td_v (tr_V (y := y_Lb_requireLine) (C1 := R_Lb) (Tf := F_Lb) (N := 5) (ci := 9) (q0 := 0) (As := [.int p1]) (n := 1) C w (c_Lb_requireLine l htr n0 G K ad X S p1 _ _ hw) kw_842 kw_844 kp_18 kw_1 kw_845 (by decide +kernel) rfl rfl ⟨Nat.le_of_ble_eq_true rfl, Nat.le_of_ble_eq_true rfl⟩ rfl rfl rfl hl.1 rfl (Nat.le_of_ble_eq_true rfl) d_Lb_line_2 ⟨Nat.le_of_ble_eq_true rfl, Nat.le_of_ble_eq_true rfl⟩) (tx_pass C hne (by decide) (by decide) rfl) (fun hw => ?_)
  refine lv_iload_n hx hb d_Lb_line_5 rfl (lv_at hl 2 rfl) ?_
  refine lv_if_lt (tgt := 14) hx hb d_Lb_line_6 (by decide) (fun hc => ?_) (fun hc => ?_)
  · have hw := hw.1 hc
    exact w_Lb_line_14 C hr htr hne   hw _ w (lv_sub hl [] rfl)
  · have hw := hw.2 hc
    refine lv_iload_n hx hb d_Lb_line_9 rfl (lv_at hl 2 rfl) ?_
    refine lv_iconst (v := 5) hx hb d_Lb_line_10 (by decide) ?_
    refine lv_icmp_lt (tgt := 24) hx hb d_Lb_line_11 (by decide) (fun hc => ?_) (fun hc => ?_)
    · have hw := hw.1 hc
      refine lv_aload_n hx hb d_Lb_line_24 rfl (lv_at hl 0 rfl) ?_
      refine kg (C1 := R_Lb) (T := F_Lb) (N := 5) (ci := 9) (ref := "LineBreaker") (v := .ref (ad 41)) C w 0 4 iw_Lb rfl rfl (by decide) kw_360 rfl rfl d_Lb_line_25 ?_
      refine kg (C1 := R_Ou) (T := F_Ou) (N := 5) (ci := 5) (ref := "LineBreaker$Outcome") (v := .ref (ad 42)) C w 41 0 iw_Ou rfl rfl (by decide) kw_336 rfl rfl d_Lb_line_28 ?_
      refine lv_iload_n hx hb d_Lb_line_31 rfl (lv_at hl 2 rfl) ?_
      rcases in_5 hw.1 with h9 | h9 | h9 | h9 | h9
      · refine ka_a (v := .ref (ad 43)) C w 42 rfl hw.1 (by rw [h9]; rfl) d_Lb_line_32 ?_
        have hw := hw.2.1 h9
        refine lv_iload_n hx hb d_Lb_line_33 rfl (lv_at hl 1 rfl) ?_
        refine ka_i (f := (S.1 43)) C w 43 rfl hw.1 d_Lb_line_34 ?_
        have hw := hw.2
        refine W.widen (k := 2) (n := 12) (by decide) (by decide) ?_
        refine tx_ret ?_
        exact kf_i C hr d_Lb_line_35 hw
      · refine ka_a (v := .ref (ad 44)) C w 42 rfl hw.1 (by rw [h9]; rfl) d_Lb_line_32 ?_
        have hw := hw.2.2.1 h9
        refine lv_iload_n hx hb d_Lb_line_33 rfl (lv_at hl 1 rfl) ?_
        refine ka_i (f := (S.1 44)) C w 44 rfl hw.1 d_Lb_line_34 ?_
        have hw := hw.2
        refine W.widen (k := 2) (n := 12) (by decide) (by decide) ?_
        refine tx_ret ?_
        exact kf_i C hr d_Lb_line_35 hw
      · refine ka_a (v := .ref (ad 45)) C w 42 rfl hw.1 (by rw [h9]; rfl) d_Lb_line_32 ?_
        have hw := hw.2.2.2.1 h9
        refine lv_iload_n hx hb d_Lb_line_33 rfl (lv_at hl 1 rfl) ?_
        refine ka_i (f := (S.1 45)) C w 45 rfl hw.1 d_Lb_line_34 ?_
        have hw := hw.2
        refine W.widen (k := 2) (n := 12) (by decide) (by decide) ?_
        refine tx_ret ?_
        exact kf_i C hr d_Lb_line_35 hw
      · refine ka_a (v := .ref (ad 46)) C w 42 rfl hw.1 (by rw [h9]; rfl) d_Lb_line_32 ?_
        have hw := hw.2.2.2.2.1 h9
        refine lv_iload_n hx hb d_Lb_line_33 rfl (lv_at hl 1 rfl) ?_
        refine ka_i (f := (S.1 46)) C w 46 rfl hw.1 d_Lb_line_34 ?_
        have hw := hw.2
        refine W.widen (k := 2) (n := 12) (by decide) (by decide) ?_
        refine tx_ret ?_
        exact kf_i C hr d_Lb_line_35 hw
      · refine ka_a (v := .ref (ad 47)) C w 42 rfl hw.1 (by rw [h9]; rfl) d_Lb_line_32 ?_
        have hw := hw.2.2.2.2.2 h9
        refine lv_iload_n hx hb d_Lb_line_33 rfl (lv_at hl 1 rfl) ?_
        refine ka_i (f := (S.1 47)) C w 47 rfl hw.1 d_Lb_line_34 ?_
        have hw := hw.2
        refine W.widen (k := 2) (n := 12) (by decide) (by decide) ?_
        refine tx_ret ?_
        exact kf_i C hr d_Lb_line_35 hw
    · have hw := hw.2 hc
      exact w_Lb_line_14 C hr htr hne   hw _ w (lv_sub hl [] rfl)
set_option maxHeartbeats 4000000 in
set_option maxRecDepth 100000 in
theorem c_Lb_total (l : Launch) (htr : l.stackTraces = false) (n0 : Nat) (G : va_G) (K : KT) (ad : Nat → Nat) (X : va_W) (S : ST) (p1 : Int32) (post : Int64 → Prop) (px : String → Prop) (hw : wp_Lb_total S p1 post px) : tmet l y_Lb_total (Cond.code y_Lb_total prog_1_method_16_code 2 (some .long) :: gw) rm_Lb_total (va_Pc [.ref (ad 0), .int p1] (wb n0 G K (wC K ad S ++ X))) (rq_l post) px 1 6 (fun _ => False) := by
  refine kt_start (own := "LineBreaker") (by decide +kernel) rfl ?_
  intro p e s m below meth c C hr hne w
  have hx := C.1
  have hb := C.2.1
  have hts := C.2.2.2.2.1
  have hl := lv_entry ([.ref (ad 0), .int p1]) (n := 2) (Nat.le_of_ble_eq_true rfl)
  rw [lg_entry_eq]
  generalize (lg_sl ([.ref (ad 0), .int p1]) ++ List.replicate (2 - (lg_sl ([.ref (ad 0), .int p1])).length) Slot.unset).toArray = ls at hl ⊢
  have hl : lv_has ls 2 [(0, .ref (ad 0)), (1, .int p1)] := hl
  unfold wp_Lb_total at hw
  refine lv_aload_n hx hb d_Lb_total_0 rfl (lv_at hl 0 rfl) ?_
  refine lv_iload_n hx hb d_Lb_total_1 rfl (lv_at hl 1 rfl) ?_
  refine td_v (tr_V (y := y_Lb_requireLine) (C1 := R_Lb) (Tf := F_Lb) (N := 5) (ci := 9) (q0 := 0) (As := [.int p1]) (n := 1) C w (c_Lb_requireLine l htr n0 G K ad X S p1 _ _ hw) kw_842 kw_844 kp_18 kw_1 kw_845 (by decide +kernel) rfl rfl ⟨Nat.le_of_ble_eq_true rfl, Nat.le_of_ble_eq_true rfl⟩ rfl rfl rfl hl.1 rfl (Nat.le_of_ble_eq_true rfl) d_Lb_total_2 ⟨Nat.le_of_ble_eq_true rfl, Nat.le_of_ble_eq_true rfl⟩) (tx_pass C hne (by decide) (by decide) rfl) (fun hw => ?_)
  refine lv_aload_n hx hb d_Lb_total_5 rfl (lv_at hl 0 rfl) ?_
  refine kg (C1 := R_Lb) (T := F_Lb) (N := 5) (ci := 9) (ref := "LineBreaker") (v := .ref (ad 41)) C w 0 4 iw_Lb rfl rfl (by decide) kw_360 rfl rfl d_Lb_total_6 ?_
  refine kg (C1 := R_Ou) (T := F_Ou) (N := 5) (ci := 5) (ref := "LineBreaker$Outcome") (v := .ref (ad 48)) C w 41 1 iw_Ou rfl rfl (by decide) kw_338 rfl rfl d_Lb_total_9 ?_
  refine lv_iload_n hx hb d_Lb_total_12 rfl (lv_at hl 1 rfl) ?_
  refine ka_l (f := (S.2.1 48)) C w 48 rfl hw.1 d_Lb_total_13 ?_
  have hw := hw.2
  refine W.widen (k := 1) (n := 6) (by decide) (by decide) ?_
  refine tx_ret ?_
  exact kf_l C hr d_Lb_total_14 hw
end
