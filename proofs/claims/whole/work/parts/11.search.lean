theorem kw_238 : (Jvm.Cond.fieldLink "LineBreaker$Nodes" (9 : Nat) "LineBreaker$Nodes" "place" "[I") ∈ gw := gw_t (List.mem_of_getElem? (i := 238) (by decide +kernel)) (by decide +kernel)
theorem kw_242 : (Jvm.Cond.fieldLink "LineBreaker$Nodes" (15 : Nat) "LineBreaker$Nodes" "lines" "[I") ∈ gw := gw_t (List.mem_of_getElem? (i := 242) (by decide +kernel)) (by decide +kernel)
theorem kw_246 : (Jvm.Cond.fieldLink "LineBreaker$Nodes" (18 : Nat) "LineBreaker$Nodes" "fit" "[I") ∈ gw := gw_t (List.mem_of_getElem? (i := 246) (by decide +kernel)) (by decide +kernel)
theorem kw_249 : (Jvm.Cond.fieldLink "LineBreaker$Nodes" (21 : Nat) "LineBreaker$Nodes" "former" "[I") ∈ gw := gw_t (List.mem_of_getElem? (i := 249) (by decide +kernel)) (by decide +kernel)
theorem kw_252 : (Jvm.Cond.fieldLink "LineBreaker$Nodes" (24 : Nat) "LineBreaker$Nodes" "total" "[J") ∈ gw := gw_t (List.mem_of_getElem? (i := 252) (by decide +kernel)) (by decide +kernel)
theorem kw_256 : (Jvm.Cond.fieldLink "LineBreaker$Nodes" (28 : Nat) "LineBreaker$Nodes" "count" "I") ∈ gw := gw_t (List.mem_of_getElem? (i := 256) (by decide +kernel)) (by decide +kernel)
theorem kw_281 : (Jvm.Cond.fieldLink "LineBreaker$Offers" (15 : Nat) "LineBreaker$Offers" "former" "[I") ∈ gw := gw_t (List.mem_of_getElem? (i := 281) (by decide +kernel)) (by decide +kernel)
theorem kw_282 : (Jvm.Cond.fieldLink "LineBreaker$Offers" (25 : Nat) "LineBreaker$Offers" "fewest" "I") ∈ gw := gw_t (List.mem_of_getElem? (i := 282) (by decide +kernel)) (by decide +kernel)
theorem kw_283 : (Jvm.Cond.fieldLink "LineBreaker$Offers" (29 : Nat) "LineBreaker$Offers" "most" "I") ∈ gw := gw_t (List.mem_of_getElem? (i := 283) (by decide +kernel)) (by decide +kernel)
theorem kw_729 : (Jvm.Cond.code ({ cls := "java/util/Arrays", name := "fill", desc := "([II)V" } : Jvm.MethodName) prog_22_method_103_code (4 : Nat) (Option.none : Option Jvm.ClassFile.FieldType)) ∈ gw := gw_t (List.mem_of_getElem? (i := 729) (by decide +kernel)) (by decide +kernel)
theorem kw_728 : (Jvm.Cond.static ({ cls := "java/util/Arrays", name := "fill", desc := "([II)V" } : Jvm.MethodName)) ∈ gw := gw_t (List.mem_of_getElem? (i := 728) (by decide +kernel)) (by decide +kernel)
theorem kw_19 : (Jvm.Cond.initialized "java/util/Arrays") ∈ gw := gw_t (List.mem_of_getElem? (i := 19) (by decide +kernel)) (by decide +kernel)
theorem kw_727 : (Jvm.Cond.methodLink "LineBreaker$Offers" (19 : Nat) ({ cls := "java/util/Arrays", name := "fill", desc := "([II)V" } : Jvm.MethodName)) ∈ gw := gw_t (List.mem_of_getElem? (i := 727) (by decide +kernel)) (by decide +kernel)
theorem kw_145 : (Jvm.Cond.fieldLink "LineBreaker$Galley" (18 : Nat) "LineBreaker$Galley" "breakable" "[Z") ∈ gw := gw_t (List.mem_of_getElem? (i := 145) (by decide +kernel)) (by decide +kernel)
theorem kw_142 : (Jvm.Cond.fieldLink "LineBreaker$Galley" (9 : Nat) "LineBreaker$Galley" "kind" "[I") ∈ gw := gw_t (List.mem_of_getElem? (i := 142) (by decide +kernel)) (by decide +kernel)
theorem kw_248 : (Jvm.Cond.fieldLink "LineBreaker$Search" (151 : Nat) "LineBreaker$Nodes" "fit" "[I") ∈ gw := gw_t (List.mem_of_getElem? (i := 248) (by decide +kernel)) (by decide +kernel)
theorem kw_209 : (Jvm.Cond.fieldLink "LineBreaker$Search" (125 : Nat) "LineBreaker$Gauge" "fit" "I") ∈ gw := gw_t (List.mem_of_getElem? (i := 209) (by decide +kernel)) (by decide +kernel)
theorem kw_787 : (Jvm.Cond.methodLink "LineBreaker$Search" (153 : Nat) ({ cls := "java/lang/Math", name := "abs", desc := "(I)I" } : Jvm.MethodName)) ∈ gw := gw_t (List.mem_of_getElem? (i := 787) (by decide +kernel)) (by decide +kernel)
theorem kw_645 : (Jvm.Cond.static ({ cls := "java/lang/Math", name := "abs", desc := "(I)I" } : Jvm.MethodName)) ∈ gw := gw_t (List.mem_of_getElem? (i := 645) (by decide +kernel)) (by decide +kernel)
theorem kw_646 : (Jvm.Cond.code ({ cls := "java/lang/Math", name := "abs", desc := "(I)I" } : Jvm.MethodName) prog_17_method_59_code (1 : Nat) (Option.some Jvm.ClassFile.FieldType.int)) ∈ gw := gw_t (List.mem_of_getElem? (i := 646) (by decide +kernel)) (by decide +kernel)
theorem kw_295 : (Jvm.Cond.fieldLink "LineBreaker$Search" (15 : Nat) "LineBreaker$Search" "settings" "LLineBreaker$Settings;") ∈ gw := gw_t (List.mem_of_getElem? (i := 295) (by decide +kernel)) (by decide +kernel)
theorem kw_111 : (Jvm.Cond.fieldLink "LineBreaker$Search" (46 : Nat) "LineBreaker$Settings" "values" "[I") ∈ gw := gw_t (List.mem_of_getElem? (i := 111) (by decide +kernel)) (by decide +kernel)
theorem kw_293 : (Jvm.Cond.fieldLink "LineBreaker$Search" (9 : Nat) "LineBreaker$Search" "galley" "LLineBreaker$Galley;") ∈ gw := gw_t (List.mem_of_getElem? (i := 293) (by decide +kernel)) (by decide +kernel)
theorem kw_160 : (Jvm.Cond.fieldLink "LineBreaker$Search" (69 : Nat) "LineBreaker$Galley" "last" "I") ∈ gw := gw_t (List.mem_of_getElem? (i := 160) (by decide +kernel)) (by decide +kernel)
theorem kw_786 : (Jvm.Cond.code ({ cls := "LineBreaker$Galley", name := "isHyphen", desc := "(I)Z" } : Jvm.MethodName) prog_2_method_4_code (2 : Nat) (Option.some Jvm.ClassFile.FieldType.boolean)) ∈ gw := gw_t (List.mem_of_getElem? (i := 786) (by decide +kernel)) (by decide +kernel)
theorem kw_783 : (Jvm.Cond.methodLink "LineBreaker$Search" (148 : Nat) ({ cls := "LineBreaker$Galley", name := "isHyphen", desc := "(I)Z" } : Jvm.MethodName)) ∈ gw := gw_t (List.mem_of_getElem? (i := 783) (by decide +kernel)) (by decide +kernel)
theorem kw_784 : (Jvm.Cond.instanceMethod ({ cls := "LineBreaker$Galley", name := "isHyphen", desc := "(I)Z" } : Jvm.MethodName)) ∈ gw := gw_t (List.mem_of_getElem? (i := 784) (by decide +kernel)) (by decide +kernel)
theorem kw_785 : (Jvm.Cond.selects "LineBreaker$Galley" ({ cls := "LineBreaker$Galley", name := "isHyphen", desc := "(I)Z" } : Jvm.MethodName) ({ cls := "LineBreaker$Galley", name := "isHyphen", desc := "(I)Z" } : Jvm.MethodName)) ∈ gw := gw_t (List.mem_of_getElem? (i := 785) (by decide +kernel)) (by decide +kernel)
theorem kw_144 : (Jvm.Cond.fieldLink "LineBreaker$Search" (86 : Nat) "LineBreaker$Galley" "penalty" "[I") ∈ gw := gw_t (List.mem_of_getElem? (i := 144) (by decide +kernel)) (by decide +kernel)
theorem kw_782 : (Jvm.Cond.constantLong "LineBreaker$Search" (146 : Nat) (-10000 : Int64)) ∈ gw := gw_t (List.mem_of_getElem? (i := 782) (by decide +kernel)) (by decide +kernel)
theorem kw_204 : (Jvm.Cond.fieldLink "LineBreaker$Search" (93 : Nat) "LineBreaker$Gauge" "badness" "I") ∈ gw := gw_t (List.mem_of_getElem? (i := 204) (by decide +kernel)) (by decide +kernel)
theorem kw_780 : (Jvm.Cond.constantLong "LineBreaker$Search" (142 : Nat) (10000 : Int64)) ∈ gw := gw_t (List.mem_of_getElem? (i := 780) (by decide +kernel)) (by decide +kernel)
theorem kw_781 : (Jvm.Cond.constantLong "LineBreaker$Search" (144 : Nat) (100000000 : Int64)) ∈ gw := gw_t (List.mem_of_getElem? (i := 781) (by decide +kernel)) (by decide +kernel)
theorem kw_796 : (Jvm.Cond.methodLink "LineBreaker$Offers" (32 : Nat) ({ cls := "java/lang/Math", name := "min", desc := "(II)I" } : Jvm.MethodName)) ∈ gw := gw_t (List.mem_of_getElem? (i := 796) (by decide +kernel)) (by decide +kernel)
theorem kw_797 : (Jvm.Cond.methodLink "LineBreaker$Offers" (38 : Nat) ({ cls := "java/lang/Math", name := "max", desc := "(II)I" } : Jvm.MethodName)) ∈ gw := gw_t (List.mem_of_getElem? (i := 797) (by decide +kernel)) (by decide +kernel)
theorem kw_525 : (Jvm.Cond.static ({ cls := "java/lang/Math", name := "max", desc := "(II)I" } : Jvm.MethodName)) ∈ gw := gw_t (List.mem_of_getElem? (i := 525) (by decide +kernel)) (by decide +kernel)
theorem kw_526 : (Jvm.Cond.code ({ cls := "java/lang/Math", name := "max", desc := "(II)I" } : Jvm.MethodName) prog_17_method_65_code (2 : Nat) (Option.some Jvm.ClassFile.FieldType.int)) ∈ gw := gw_t (List.mem_of_getElem? (i := 526) (by decide +kernel)) (by decide +kernel)
theorem kw_280 : (Jvm.Cond.fieldLink "LineBreaker$Offers" (9 : Nat) "LineBreaker$Offers" "total" "[J") ∈ gw := gw_t (List.mem_of_getElem? (i := 280) (by decide +kernel)) (by decide +kernel)
theorem kw_300 : (Jvm.Cond.fieldLink "LineBreaker$Search" (38 : Nat) "LineBreaker$Search" "offers" "LLineBreaker$Offers;") ∈ gw := gw_t (List.mem_of_getElem? (i := 300) (by decide +kernel)) (by decide +kernel)
theorem kw_795 : (Jvm.Cond.code ({ cls := "LineBreaker$Offers", name := "take", desc := "(IIIJ)V" } : Jvm.MethodName) prog_6_method_4_code (7 : Nat) (Option.none : Option Jvm.ClassFile.FieldType)) ∈ gw := gw_t (List.mem_of_getElem? (i := 795) (by decide +kernel)) (by decide +kernel)
theorem kw_792 : (Jvm.Cond.methodLink "LineBreaker$Search" (128 : Nat) ({ cls := "LineBreaker$Offers", name := "take", desc := "(IIIJ)V" } : Jvm.MethodName)) ∈ gw := gw_t (List.mem_of_getElem? (i := 792) (by decide +kernel)) (by decide +kernel)
theorem kw_793 : (Jvm.Cond.instanceMethod ({ cls := "LineBreaker$Offers", name := "take", desc := "(IIIJ)V" } : Jvm.MethodName)) ∈ gw := gw_t (List.mem_of_getElem? (i := 793) (by decide +kernel)) (by decide +kernel)
theorem kw_794 : (Jvm.Cond.selects "LineBreaker$Offers" ({ cls := "LineBreaker$Offers", name := "take", desc := "(IIIJ)V" } : Jvm.MethodName) ({ cls := "LineBreaker$Offers", name := "take", desc := "(IIIJ)V" } : Jvm.MethodName)) ∈ gw := gw_t (List.mem_of_getElem? (i := 794) (by decide +kernel)) (by decide +kernel)
theorem kw_9 : (Jvm.Cond.initialized "LineBreaker$Offers") ∈ gw := gw_t (List.mem_of_getElem? (i := 9) (by decide +kernel)) (by decide +kernel)
theorem kw_258 : (Jvm.Cond.fieldLink "LineBreaker$Offers" (47 : Nat) "LineBreaker$Nodes" "count" "I") ∈ gw := gw_t (List.mem_of_getElem? (i := 258) (by decide +kernel)) (by decide +kernel)
theorem kw_241 : (Jvm.Cond.fieldLink "LineBreaker$Offers" (50 : Nat) "LineBreaker$Nodes" "place" "[I") ∈ gw := gw_t (List.mem_of_getElem? (i := 241) (by decide +kernel)) (by decide +kernel)
theorem kw_245 : (Jvm.Cond.fieldLink "LineBreaker$Offers" (53 : Nat) "LineBreaker$Nodes" "lines" "[I") ∈ gw := gw_t (List.mem_of_getElem? (i := 245) (by decide +kernel)) (by decide +kernel)
theorem kw_247 : (Jvm.Cond.fieldLink "LineBreaker$Offers" (56 : Nat) "LineBreaker$Nodes" "fit" "[I") ∈ gw := gw_t (List.mem_of_getElem? (i := 247) (by decide +kernel)) (by decide +kernel)
theorem kw_251 : (Jvm.Cond.fieldLink "LineBreaker$Offers" (59 : Nat) "LineBreaker$Nodes" "former" "[I") ∈ gw := gw_t (List.mem_of_getElem? (i := 251) (by decide +kernel)) (by decide +kernel)
theorem kw_255 : (Jvm.Cond.fieldLink "LineBreaker$Offers" (60 : Nat) "LineBreaker$Nodes" "total" "[J") ∈ gw := gw_t (List.mem_of_getElem? (i := 255) (by decide +kernel)) (by decide +kernel)
theorem kw_813 : (Jvm.Cond.code ({ cls := "LineBreaker$Nodes", name := "isFull", desc := "()Z" } : Jvm.MethodName) prog_5_method_3_code (1 : Nat) (Option.some Jvm.ClassFile.FieldType.boolean)) ∈ gw := gw_t (List.mem_of_getElem? (i := 813) (by decide +kernel)) (by decide +kernel)
theorem kw_810 : (Jvm.Cond.methodLink "LineBreaker$Offers" (41 : Nat) ({ cls := "LineBreaker$Nodes", name := "isFull", desc := "()Z" } : Jvm.MethodName)) ∈ gw := gw_t (List.mem_of_getElem? (i := 810) (by decide +kernel)) (by decide +kernel)
theorem kw_811 : (Jvm.Cond.instanceMethod ({ cls := "LineBreaker$Nodes", name := "isFull", desc := "()Z" } : Jvm.MethodName)) ∈ gw := gw_t (List.mem_of_getElem? (i := 811) (by decide +kernel)) (by decide +kernel)
theorem kw_812 : (Jvm.Cond.selects "LineBreaker$Nodes" ({ cls := "LineBreaker$Nodes", name := "isFull", desc := "()Z" } : Jvm.MethodName) ({ cls := "LineBreaker$Nodes", name := "isFull", desc := "()Z" } : Jvm.MethodName)) ∈ gw := gw_t (List.mem_of_getElem? (i := 812) (by decide +kernel)) (by decide +kernel)
theorem kw_8 : (Jvm.Cond.initialized "LineBreaker$Nodes") ∈ gw := gw_t (List.mem_of_getElem? (i := 8) (by decide +kernel)) (by decide +kernel)
theorem kw_259 : (Jvm.Cond.fieldLink "LineBreaker$Search" (132 : Nat) "LineBreaker$Nodes" "count" "I") ∈ gw := gw_t (List.mem_of_getElem? (i := 259) (by decide +kernel)) (by decide +kernel)
theorem kw_301 : (Jvm.Cond.fieldLink "LineBreaker$Search" (42 : Nat) "LineBreaker$Search" "alive" "[I") ∈ gw := gw_t (List.mem_of_getElem? (i := 301) (by decide +kernel)) (by decide +kernel)
theorem kw_302 : (Jvm.Cond.fieldLink "LineBreaker$Search" (66 : Nat) "LineBreaker$Search" "aliveCount" "I") ∈ gw := gw_t (List.mem_of_getElem? (i := 302) (by decide +kernel)) (by decide +kernel)
theorem kw_303 : (Jvm.Cond.fieldLink "LineBreaker$Search" (135 : Nat) "LineBreaker$Search" "firstAtPlace" "I") ∈ gw := gw_t (List.mem_of_getElem? (i := 303) (by decide +kernel)) (by decide +kernel)
theorem kw_809 : (Jvm.Cond.code ({ cls := "LineBreaker$Offers", name := "turnInto", desc := "(LLineBreaker$Nodes;I)Z" } : Jvm.MethodName) prog_6_method_5_code (7 : Nat) (Option.some Jvm.ClassFile.FieldType.boolean)) ∈ gw := gw_t (List.mem_of_getElem? (i := 809) (by decide +kernel)) (by decide +kernel)
theorem kw_806 : (Jvm.Cond.methodLink "LineBreaker$Search" (138 : Nat) ({ cls := "LineBreaker$Offers", name := "turnInto", desc := "(LLineBreaker$Nodes;I)Z" } : Jvm.MethodName)) ∈ gw := gw_t (List.mem_of_getElem? (i := 806) (by decide +kernel)) (by decide +kernel)
theorem kw_807 : (Jvm.Cond.instanceMethod ({ cls := "LineBreaker$Offers", name := "turnInto", desc := "(LLineBreaker$Nodes;I)Z" } : Jvm.MethodName)) ∈ gw := gw_t (List.mem_of_getElem? (i := 807) (by decide +kernel)) (by decide +kernel)
theorem kw_808 : (Jvm.Cond.selects "LineBreaker$Offers" ({ cls := "LineBreaker$Offers", name := "turnInto", desc := "(LLineBreaker$Nodes;I)Z" } : Jvm.MethodName) ({ cls := "LineBreaker$Offers", name := "turnInto", desc := "(LLineBreaker$Nodes;I)Z" } : Jvm.MethodName)) ∈ gw := gw_t (List.mem_of_getElem? (i := 808) (by decide +kernel)) (by decide +kernel)
theorem kw_805 : (Jvm.Cond.code ({ cls := "LineBreaker$Search", name := "settle", desc := "(I)Z" } : Jvm.MethodName) prog_9_method_6_code (3 : Nat) (Option.some Jvm.ClassFile.FieldType.boolean)) ∈ gw := gw_t (List.mem_of_getElem? (i := 805) (by decide +kernel)) (by decide +kernel)
theorem kw_802 : (Jvm.Cond.methodLink "LineBreaker$Search" (115 : Nat) ({ cls := "LineBreaker$Search", name := "settle", desc := "(I)Z" } : Jvm.MethodName)) ∈ gw := gw_t (List.mem_of_getElem? (i := 802) (by decide +kernel)) (by decide +kernel)
theorem kw_804 : (Jvm.Cond.instanceMethod ({ cls := "LineBreaker$Search", name := "settle", desc := "(I)Z" } : Jvm.MethodName)) ∈ gw := gw_t (List.mem_of_getElem? (i := 804) (by decide +kernel)) (by decide +kernel)
theorem kp_15 : Cond.selects "LineBreaker$Search" ⟨"LineBreaker$Search", "settle", "(I)Z"⟩ ⟨"LineBreaker$Search", "settle", "(I)Z"⟩ ∈ gw := gw_s (List.mem_of_getElem? (i := 15) (by decide +kernel)) (by decide +kernel)
theorem kw_6 : (Jvm.Cond.initialized "LineBreaker$Search") ∈ gw := gw_t (List.mem_of_getElem? (i := 6) (by decide +kernel)) (by decide +kernel)
theorem kw_305 : (Jvm.Cond.fieldLink "LineBreaker$Search" (55 : Nat) "LineBreaker$Search" "isLast" "Z") ∈ gw := gw_t (List.mem_of_getElem? (i := 305) (by decide +kernel)) (by decide +kernel)
theorem kw_253 : (Jvm.Cond.fieldLink "LineBreaker$Search" (96 : Nat) "LineBreaker$Nodes" "total" "[J") ∈ gw := gw_t (List.mem_of_getElem? (i := 253) (by decide +kernel)) (by decide +kernel)
theorem kw_791 : (Jvm.Cond.code ({ cls := "LineBreaker$Search", name := "offerFrom", desc := "(IJ)V" } : Jvm.MethodName) prog_9_method_5_code (4 : Nat) (Option.none : Option Jvm.ClassFile.FieldType)) ∈ gw := gw_t (List.mem_of_getElem? (i := 791) (by decide +kernel)) (by decide +kernel)
theorem kw_788 : (Jvm.Cond.methodLink "LineBreaker$Search" (104 : Nat) ({ cls := "LineBreaker$Search", name := "offerFrom", desc := "(IJ)V" } : Jvm.MethodName)) ∈ gw := gw_t (List.mem_of_getElem? (i := 788) (by decide +kernel)) (by decide +kernel)
theorem kw_790 : (Jvm.Cond.instanceMethod ({ cls := "LineBreaker$Search", name := "offerFrom", desc := "(IJ)V" } : Jvm.MethodName)) ∈ gw := gw_t (List.mem_of_getElem? (i := 790) (by decide +kernel)) (by decide +kernel)
theorem kp_14 : Cond.selects "LineBreaker$Search" ⟨"LineBreaker$Search", "offerFrom", "(IJ)V"⟩ ⟨"LineBreaker$Search", "offerFrom", "(IJ)V"⟩ ∈ gw := gw_s (List.mem_of_getElem? (i := 14) (by decide +kernel)) (by decide +kernel)
theorem kw_741 : (Jvm.Cond.code ({ cls := "LineBreaker$Search", name := "measureFrom", desc := "(II)V" } : Jvm.MethodName) prog_9_method_4_code (3 : Nat) (Option.none : Option Jvm.ClassFile.FieldType)) ∈ gw := gw_t (List.mem_of_getElem? (i := 741) (by decide +kernel)) (by decide +kernel)
theorem kw_738 : (Jvm.Cond.methodLink "LineBreaker$Search" (89 : Nat) ({ cls := "LineBreaker$Search", name := "measureFrom", desc := "(II)V" } : Jvm.MethodName)) ∈ gw := gw_t (List.mem_of_getElem? (i := 738) (by decide +kernel)) (by decide +kernel)
theorem kw_739 : (Jvm.Cond.instanceMethod ({ cls := "LineBreaker$Search", name := "measureFrom", desc := "(II)V" } : Jvm.MethodName)) ∈ gw := gw_t (List.mem_of_getElem? (i := 739) (by decide +kernel)) (by decide +kernel)
theorem kw_740 : (Jvm.Cond.selects "LineBreaker$Search" ({ cls := "LineBreaker$Search", name := "measureFrom", desc := "(II)V" } : Jvm.MethodName) ({ cls := "LineBreaker$Search", name := "measureFrom", desc := "(II)V" } : Jvm.MethodName)) ∈ gw := gw_t (List.mem_of_getElem? (i := 740) (by decide +kernel)) (by decide +kernel)
theorem kw_801 : (Jvm.Cond.code ({ cls := "LineBreaker$Offers", name := "isEmpty", desc := "()Z" } : Jvm.MethodName) prog_6_method_3_code (1 : Nat) (Option.some Jvm.ClassFile.FieldType.boolean)) ∈ gw := gw_t (List.mem_of_getElem? (i := 801) (by decide +kernel)) (by decide +kernel)
theorem kw_798 : (Jvm.Cond.methodLink "LineBreaker$Search" (111 : Nat) ({ cls := "LineBreaker$Offers", name := "isEmpty", desc := "()Z" } : Jvm.MethodName)) ∈ gw := gw_t (List.mem_of_getElem? (i := 798) (by decide +kernel)) (by decide +kernel)
theorem kw_799 : (Jvm.Cond.instanceMethod ({ cls := "LineBreaker$Offers", name := "isEmpty", desc := "()Z" } : Jvm.MethodName)) ∈ gw := gw_t (List.mem_of_getElem? (i := 799) (by decide +kernel)) (by decide +kernel)
theorem kw_800 : (Jvm.Cond.selects "LineBreaker$Offers" ({ cls := "LineBreaker$Offers", name := "isEmpty", desc := "()Z" } : Jvm.MethodName) ({ cls := "LineBreaker$Offers", name := "isEmpty", desc := "()Z" } : Jvm.MethodName)) ∈ gw := gw_t (List.mem_of_getElem? (i := 800) (by decide +kernel)) (by decide +kernel)
theorem kw_304 : (Jvm.Cond.fieldLink "LineBreaker$Search" (51 : Nat) "LineBreaker$Search" "tolerance" "I") ∈ gw := gw_t (List.mem_of_getElem? (i := 304) (by decide +kernel)) (by decide +kernel)
theorem kw_779 : (Jvm.Cond.code ({ cls := "LineBreaker$Search", name := "demerits", desc := "(II)J" } : Jvm.MethodName) prog_9_method_7_code (9 : Nat) (Option.some Jvm.ClassFile.FieldType.long)) ∈ gw := gw_t (List.mem_of_getElem? (i := 779) (by decide +kernel)) (by decide +kernel)
theorem kw_776 : (Jvm.Cond.methodLink "LineBreaker$Search" (100 : Nat) ({ cls := "LineBreaker$Search", name := "demerits", desc := "(II)J" } : Jvm.MethodName)) ∈ gw := gw_t (List.mem_of_getElem? (i := 776) (by decide +kernel)) (by decide +kernel)
theorem kw_778 : (Jvm.Cond.instanceMethod ({ cls := "LineBreaker$Search", name := "demerits", desc := "(II)J" } : Jvm.MethodName)) ∈ gw := gw_t (List.mem_of_getElem? (i := 778) (by decide +kernel)) (by decide +kernel)
theorem kp_13 : Cond.selects "LineBreaker$Search" ⟨"LineBreaker$Search", "demerits", "(II)J"⟩ ⟨"LineBreaker$Search", "demerits", "(II)J"⟩ ∈ gw := gw_s (List.mem_of_getElem? (i := 13) (by decide +kernel)) (by decide +kernel)
theorem kw_826 : (Jvm.Cond.methodLink "LineBreaker$Search" (167 : Nat) ({ cls := "java/lang/Math", name := "min", desc := "(II)I" } : Jvm.MethodName)) ∈ gw := gw_t (List.mem_of_getElem? (i := 826) (by decide +kernel)) (by decide +kernel)
theorem kw_827 : (Jvm.Cond.methodLink "LineBreaker$Search" (171 : Nat) ({ cls := "java/lang/Math", name := "max", desc := "(II)I" } : Jvm.MethodName)) ∈ gw := gw_t (List.mem_of_getElem? (i := 827) (by decide +kernel)) (by decide +kernel)
theorem kw_821 : (Jvm.Cond.code ({ cls := "LineBreaker$Nodes", name := "isBetter", desc := "(II)Z" } : Jvm.MethodName) prog_5_method_4_code (3 : Nat) (Option.some Jvm.ClassFile.FieldType.boolean)) ∈ gw := gw_t (List.mem_of_getElem? (i := 821) (by decide +kernel)) (by decide +kernel)
theorem kw_818 : (Jvm.Cond.methodLink "LineBreaker$Search" (159 : Nat) ({ cls := "LineBreaker$Nodes", name := "isBetter", desc := "(II)Z" } : Jvm.MethodName)) ∈ gw := gw_t (List.mem_of_getElem? (i := 818) (by decide +kernel)) (by decide +kernel)
theorem kw_819 : (Jvm.Cond.instanceMethod ({ cls := "LineBreaker$Nodes", name := "isBetter", desc := "(II)Z" } : Jvm.MethodName)) ∈ gw := gw_t (List.mem_of_getElem? (i := 819) (by decide +kernel)) (by decide +kernel)
theorem kw_820 : (Jvm.Cond.selects "LineBreaker$Nodes" ({ cls := "LineBreaker$Nodes", name := "isBetter", desc := "(II)Z" } : Jvm.MethodName) ({ cls := "LineBreaker$Nodes", name := "isBetter", desc := "(II)Z" } : Jvm.MethodName)) ∈ gw := gw_t (List.mem_of_getElem? (i := 820) (by decide +kernel)) (by decide +kernel)
theorem kw_825 : (Jvm.Cond.code ({ cls := "LineBreaker$Search", name := "isPreferred", desc := "(IIII)Z" } : Jvm.MethodName) prog_9_method_9_code (10 : Nat) (Option.some Jvm.ClassFile.FieldType.boolean)) ∈ gw := gw_t (List.mem_of_getElem? (i := 825) (by decide +kernel)) (by decide +kernel)
theorem kw_822 : (Jvm.Cond.methodLink "LineBreaker$Search" (163 : Nat) ({ cls := "LineBreaker$Search", name := "isPreferred", desc := "(IIII)Z" } : Jvm.MethodName)) ∈ gw := gw_t (List.mem_of_getElem? (i := 822) (by decide +kernel)) (by decide +kernel)
theorem kw_824 : (Jvm.Cond.instanceMethod ({ cls := "LineBreaker$Search", name := "isPreferred", desc := "(IIII)Z" } : Jvm.MethodName)) ∈ gw := gw_t (List.mem_of_getElem? (i := 824) (by decide +kernel)) (by decide +kernel)
theorem kp_17 : Cond.selects "LineBreaker$Search" ⟨"LineBreaker$Search", "isPreferred", "(IIII)Z"⟩ ⟨"LineBreaker$Search", "isPreferred", "(IIII)Z"⟩ ∈ gw := gw_s (List.mem_of_getElem? (i := 17) (by decide +kernel)) (by decide +kernel)
theorem kw_817 : (Jvm.Cond.code ({ cls := "LineBreaker$Search", name := "choose", desc := "()I" } : Jvm.MethodName) prog_9_method_8_code (5 : Nat) (Option.some Jvm.ClassFile.FieldType.int)) ∈ gw := gw_t (List.mem_of_getElem? (i := 817) (by decide +kernel)) (by decide +kernel)
theorem kw_814 : (Jvm.Cond.methodLink "LineBreaker$Search" (82 : Nat) ({ cls := "LineBreaker$Search", name := "choose", desc := "()I" } : Jvm.MethodName)) ∈ gw := gw_t (List.mem_of_getElem? (i := 814) (by decide +kernel)) (by decide +kernel)
theorem kw_816 : (Jvm.Cond.instanceMethod ({ cls := "LineBreaker$Search", name := "choose", desc := "()I" } : Jvm.MethodName)) ∈ gw := gw_t (List.mem_of_getElem? (i := 816) (by decide +kernel)) (by decide +kernel)
theorem kp_16 : Cond.selects "LineBreaker$Search" ⟨"LineBreaker$Search", "choose", "()I"⟩ ⟨"LineBreaker$Search", "choose", "()I"⟩ ∈ gw := gw_s (List.mem_of_getElem? (i := 16) (by decide +kernel)) (by decide +kernel)
theorem kw_737 : (Jvm.Cond.code ({ cls := "LineBreaker$Search", name := "visit", desc := "(I)Z" } : Jvm.MethodName) prog_9_method_3_code (7 : Nat) (Option.some Jvm.ClassFile.FieldType.boolean)) ∈ gw := gw_t (List.mem_of_getElem? (i := 737) (by decide +kernel)) (by decide +kernel)
theorem kw_734 : (Jvm.Cond.methodLink "LineBreaker$Search" (78 : Nat) ({ cls := "LineBreaker$Search", name := "visit", desc := "(I)Z" } : Jvm.MethodName)) ∈ gw := gw_t (List.mem_of_getElem? (i := 734) (by decide +kernel)) (by decide +kernel)
theorem kw_736 : (Jvm.Cond.instanceMethod ({ cls := "LineBreaker$Search", name := "visit", desc := "(I)Z" } : Jvm.MethodName)) ∈ gw := gw_t (List.mem_of_getElem? (i := 736) (by decide +kernel)) (by decide +kernel)
theorem kp_10 : Cond.selects "LineBreaker$Search" ⟨"LineBreaker$Search", "visit", "(I)Z"⟩ ⟨"LineBreaker$Search", "visit", "(I)Z"⟩ ∈ gw := gw_s (List.mem_of_getElem? (i := 10) (by decide +kernel)) (by decide +kernel)
theorem kw_733 : (Jvm.Cond.code ({ cls := "LineBreaker$Galley", name := "isPlace", desc := "(IZ)Z" } : Jvm.MethodName) prog_2_method_3_code (3 : Nat) (Option.some Jvm.ClassFile.FieldType.boolean)) ∈ gw := gw_t (List.mem_of_getElem? (i := 733) (by decide +kernel)) (by decide +kernel)
theorem kw_730 : (Jvm.Cond.methodLink "LineBreaker$Search" (74 : Nat) ({ cls := "LineBreaker$Galley", name := "isPlace", desc := "(IZ)Z" } : Jvm.MethodName)) ∈ gw := gw_t (List.mem_of_getElem? (i := 730) (by decide +kernel)) (by decide +kernel)
theorem kw_731 : (Jvm.Cond.instanceMethod ({ cls := "LineBreaker$Galley", name := "isPlace", desc := "(IZ)Z" } : Jvm.MethodName)) ∈ gw := gw_t (List.mem_of_getElem? (i := 731) (by decide +kernel)) (by decide +kernel)
theorem kw_732 : (Jvm.Cond.selects "LineBreaker$Galley" ({ cls := "LineBreaker$Galley", name := "isPlace", desc := "(IZ)Z" } : Jvm.MethodName) ({ cls := "LineBreaker$Galley", name := "isPlace", desc := "(IZ)Z" } : Jvm.MethodName)) ∈ gw := gw_t (List.mem_of_getElem? (i := 732) (by decide +kernel)) (by decide +kernel)
theorem kw_726 : (Jvm.Cond.code ({ cls := "LineBreaker$Offers", name := "start", desc := "()V" } : Jvm.MethodName) prog_6_method_2_code (1 : Nat) (Option.none : Option Jvm.ClassFile.FieldType)) ∈ gw := gw_t (List.mem_of_getElem? (i := 726) (by decide +kernel)) (by decide +kernel)
theorem kw_723 : (Jvm.Cond.methodLink "LineBreaker$Search" (65 : Nat) ({ cls := "LineBreaker$Offers", name := "start", desc := "()V" } : Jvm.MethodName)) ∈ gw := gw_t (List.mem_of_getElem? (i := 723) (by decide +kernel)) (by decide +kernel)
theorem kw_724 : (Jvm.Cond.instanceMethod ({ cls := "LineBreaker$Offers", name := "start", desc := "()V" } : Jvm.MethodName)) ∈ gw := gw_t (List.mem_of_getElem? (i := 724) (by decide +kernel)) (by decide +kernel)
theorem kw_725 : (Jvm.Cond.selects "LineBreaker$Offers" ({ cls := "LineBreaker$Offers", name := "start", desc := "()V" } : Jvm.MethodName) ({ cls := "LineBreaker$Offers", name := "start", desc := "()V" } : Jvm.MethodName)) ∈ gw := gw_t (List.mem_of_getElem? (i := 725) (by decide +kernel)) (by decide +kernel)
theorem kw_722 : (Jvm.Cond.code ({ cls := "LineBreaker$Nodes", name := "start", desc := "()V" } : Jvm.MethodName) prog_5_method_2_code (1 : Nat) (Option.none : Option Jvm.ClassFile.FieldType)) ∈ gw := gw_t (List.mem_of_getElem? (i := 722) (by decide +kernel)) (by decide +kernel)
theorem kw_719 : (Jvm.Cond.methodLink "LineBreaker$Search" (63 : Nat) ({ cls := "LineBreaker$Nodes", name := "start", desc := "()V" } : Jvm.MethodName)) ∈ gw := gw_t (List.mem_of_getElem? (i := 719) (by decide +kernel)) (by decide +kernel)
theorem kw_720 : (Jvm.Cond.instanceMethod ({ cls := "LineBreaker$Nodes", name := "start", desc := "()V" } : Jvm.MethodName)) ∈ gw := gw_t (List.mem_of_getElem? (i := 720) (by decide +kernel)) (by decide +kernel)
theorem kw_721 : (Jvm.Cond.selects "LineBreaker$Nodes" ({ cls := "LineBreaker$Nodes", name := "start", desc := "()V" } : Jvm.MethodName) ({ cls := "LineBreaker$Nodes", name := "start", desc := "()V" } : Jvm.MethodName)) ∈ gw := gw_t (List.mem_of_getElem? (i := 721) (by decide +kernel)) (by decide +kernel)
theorem kw_718 : (Jvm.Cond.code ({ cls := "LineBreaker$Gauge", name := "start", desc := "(I)V" } : Jvm.MethodName) prog_3_method_2_code (2 : Nat) (Option.none : Option Jvm.ClassFile.FieldType)) ∈ gw := gw_t (List.mem_of_getElem? (i := 718) (by decide +kernel)) (by decide +kernel)
theorem kw_715 : (Jvm.Cond.methodLink "LineBreaker$Search" (59 : Nat) ({ cls := "LineBreaker$Gauge", name := "start", desc := "(I)V" } : Jvm.MethodName)) ∈ gw := gw_t (List.mem_of_getElem? (i := 715) (by decide +kernel)) (by decide +kernel)
theorem kw_716 : (Jvm.Cond.instanceMethod ({ cls := "LineBreaker$Gauge", name := "start", desc := "(I)V" } : Jvm.MethodName)) ∈ gw := gw_t (List.mem_of_getElem? (i := 716) (by decide +kernel)) (by decide +kernel)
theorem kw_717 : (Jvm.Cond.selects "LineBreaker$Gauge" ({ cls := "LineBreaker$Gauge", name := "start", desc := "(I)V" } : Jvm.MethodName) ({ cls := "LineBreaker$Gauge", name := "start", desc := "(I)V" } : Jvm.MethodName)) ∈ gw := gw_t (List.mem_of_getElem? (i := 717) (by decide +kernel)) (by decide +kernel)
theorem d_Gu_start_0 : decode prog_3_method_2_code 0 = .ok (.aload_n 0, 1) := by decide +kernel
theorem d_Gu_start_1 : decode prog_3_method_2_code 1 = .ok (.iload_n 1, 1) := by decide +kernel
theorem d_Gu_start_5 : decode prog_3_method_2_code 5 = .ok (.aload_n 0, 1) := by decide +kernel
theorem d_Gu_start_10 : decode prog_3_method_2_code 10 = .ok (.return_, 1) := by decide +kernel
theorem d_Gu_start_7 : decode prog_3_method_2_code 7 = .ok (.putfield 23, 3) := by decide +kernel
theorem d_Gu_start_6 : decode prog_3_method_2_code 6 = .ok (.iconst (-1), 1) := by decide +kernel
theorem d_Gu_start_2 : decode prog_3_method_2_code 2 = .ok (.putfield 19, 3) := by decide +kernel
theorem d_No_start_0 : decode prog_5_method_2_code 0 = .ok (.aload_n 0, 1) := by decide +kernel
theorem d_No_start_7 : decode prog_5_method_2_code 7 = .ok (.aload_n 0, 1) := by decide +kernel
theorem d_No_start_14 : decode prog_5_method_2_code 14 = .ok (.aload_n 0, 1) := by decide +kernel
theorem d_No_start_21 : decode prog_5_method_2_code 21 = .ok (.aload_n 0, 1) := by decide +kernel
theorem d_No_start_28 : decode prog_5_method_2_code 28 = .ok (.aload_n 0, 1) := by decide +kernel
theorem d_No_start_35 : decode prog_5_method_2_code 35 = .ok (.aload_n 0, 1) := by decide +kernel
theorem d_No_start_40 : decode prog_5_method_2_code 40 = .ok (.return_, 1) := by decide +kernel
theorem d_No_start_37 : decode prog_5_method_2_code 37 = .ok (.putfield 28, 3) := by decide +kernel
theorem d_No_start_36 : decode prog_5_method_2_code 36 = .ok (.iconst 1, 1) := by decide +kernel
theorem d_No_start_34 : decode prog_5_method_2_code 34 = .ok (.lastore, 1) := by decide +kernel
theorem d_No_start_33 : decode prog_5_method_2_code 33 = .ok (.lconst 0, 1) := by decide +kernel
theorem d_No_start_32 : decode prog_5_method_2_code 32 = .ok (.iconst 0, 1) := by decide +kernel
theorem d_No_start_29 : decode prog_5_method_2_code 29 = .ok (.getfield 24, 3) := by decide +kernel
theorem d_No_start_27 : decode prog_5_method_2_code 27 = .ok (.iastore, 1) := by decide +kernel
theorem d_No_start_26 : decode prog_5_method_2_code 26 = .ok (.iconst 0, 1) := by decide +kernel
theorem d_No_start_25 : decode prog_5_method_2_code 25 = .ok (.iconst 0, 1) := by decide +kernel
theorem d_No_start_22 : decode prog_5_method_2_code 22 = .ok (.getfield 21, 3) := by decide +kernel
theorem d_No_start_20 : decode prog_5_method_2_code 20 = .ok (.iastore, 1) := by decide +kernel
theorem d_No_start_19 : decode prog_5_method_2_code 19 = .ok (.iconst 2, 1) := by decide +kernel
theorem d_No_start_18 : decode prog_5_method_2_code 18 = .ok (.iconst 0, 1) := by decide +kernel
theorem d_No_start_15 : decode prog_5_method_2_code 15 = .ok (.getfield 18, 3) := by decide +kernel
theorem d_No_start_13 : decode prog_5_method_2_code 13 = .ok (.iastore, 1) := by decide +kernel
theorem d_No_start_12 : decode prog_5_method_2_code 12 = .ok (.iconst 0, 1) := by decide +kernel
theorem d_No_start_11 : decode prog_5_method_2_code 11 = .ok (.iconst 0, 1) := by decide +kernel
theorem d_No_start_8 : decode prog_5_method_2_code 8 = .ok (.getfield 15, 3) := by decide +kernel
theorem d_No_start_6 : decode prog_5_method_2_code 6 = .ok (.iastore, 1) := by decide +kernel
theorem d_No_start_5 : decode prog_5_method_2_code 5 = .ok (.iconst (-1), 1) := by decide +kernel
theorem d_No_start_4 : decode prog_5_method_2_code 4 = .ok (.iconst 0, 1) := by decide +kernel
theorem d_No_start_1 : decode prog_5_method_2_code 1 = .ok (.getfield 9, 3) := by decide +kernel
theorem d_Ar_fill_5 : decode prog_22_method_103_code 5 = .ok (.iload_n 2, 1) := by decide +kernel
theorem d_Ar_fill_6 : decode prog_22_method_103_code 6 = .ok (.iload_n 3, 1) := by decide +kernel
theorem d_Ar_fill_20 : decode prog_22_method_103_code 20 = .ok (.return_, 1) := by decide +kernel
theorem d_Ar_fill_10 : decode prog_22_method_103_code 10 = .ok (.aload_n 0, 1) := by decide +kernel
theorem d_Ar_fill_11 : decode prog_22_method_103_code 11 = .ok (.iload_n 2, 1) := by decide +kernel
theorem d_Ar_fill_12 : decode prog_22_method_103_code 12 = .ok (.iload_n 1, 1) := by decide +kernel
theorem d_Ar_fill_17 : decode prog_22_method_103_code 17 = .ok (.goto (-12), 3) := by decide +kernel
theorem d_Ar_fill_14 : decode prog_22_method_103_code 14 = .ok (.iinc 2 1, 3) := by decide +kernel
theorem d_Ar_fill_13 : decode prog_22_method_103_code 13 = .ok (.iastore, 1) := by decide +kernel
theorem d_Ar_fill_7 : decode prog_22_method_103_code 7 = .ok (.if_icmp .ge 13, 3) := by decide +kernel
theorem d_Ar_fill_1 : decode prog_22_method_103_code 1 = .ok (.istore_n 2, 1) := by decide +kernel
theorem d_Ar_fill_2 : decode prog_22_method_103_code 2 = .ok (.aload_n 0, 1) := by decide +kernel
theorem d_Ar_fill_4 : decode prog_22_method_103_code 4 = .ok (.istore_n 3, 1) := by decide +kernel
theorem d_Ar_fill_3 : decode prog_22_method_103_code 3 = .ok (.arraylength, 1) := by decide +kernel
theorem d_Ar_fill_0 : decode prog_22_method_103_code 0 = .ok (.iconst 0, 1) := by decide +kernel
theorem d_Of_start_0 : decode prog_6_method_2_code 0 = .ok (.aload_n 0, 1) := by decide +kernel
theorem d_Of_start_8 : decode prog_6_method_2_code 8 = .ok (.aload_n 0, 1) := by decide +kernel
theorem d_Of_start_15 : decode prog_6_method_2_code 15 = .ok (.aload_n 0, 1) := by decide +kernel
theorem d_Of_start_20 : decode prog_6_method_2_code 20 = .ok (.return_, 1) := by decide +kernel
theorem d_Of_start_17 : decode prog_6_method_2_code 17 = .ok (.putfield 29, 3) := by decide +kernel
theorem d_Of_start_16 : decode prog_6_method_2_code 16 = .ok (.iconst 0, 1) := by decide +kernel
theorem d_Of_start_12 : decode prog_6_method_2_code 12 = .ok (.putfield 25, 3) := by decide +kernel
theorem d_Of_start_9 : decode prog_6_method_2_code 9 = .ok (.sipush 401, 3) := by decide +kernel
theorem d_Of_start_5 : decode prog_6_method_2_code 5 = .ok (.invokestatic 19, 3) := by decide +kernel
theorem d_Of_start_4 : decode prog_6_method_2_code 4 = .ok (.iconst (-1), 1) := by decide +kernel
theorem d_Of_start_1 : decode prog_6_method_2_code 1 = .ok (.getfield 15, 3) := by decide +kernel
theorem d_Ga_isPlace_0 : decode prog_2_method_3_code 0 = .ok (.aload_n 0, 1) := by decide +kernel
theorem d_Ga_isPlace_4 : decode prog_2_method_3_code 4 = .ok (.iload_n 1, 1) := by decide +kernel
theorem d_Ga_isPlace_28 : decode prog_2_method_3_code 28 = .ok (.ireturn, 1) := by decide +kernel
theorem d_Ga_isPlace_27 : decode prog_2_method_3_code 27 = .ok (.iconst 0, 1) := by decide +kernel
theorem d_Ga_isPlace_9 : decode prog_2_method_3_code 9 = .ok (.iload_n 2, 1) := by decide +kernel
theorem d_Ga_isPlace_24 : decode prog_2_method_3_code 24 = .ok (.goto 4, 3) := by decide +kernel
theorem d_Ga_isPlace_23 : decode prog_2_method_3_code 23 = .ok (.iconst 1, 1) := by decide +kernel
theorem d_Ga_isPlace_13 : decode prog_2_method_3_code 13 = .ok (.aload_n 0, 1) := by decide +kernel
theorem d_Ga_isPlace_17 : decode prog_2_method_3_code 17 = .ok (.iload_n 1, 1) := by decide +kernel
theorem d_Ga_isPlace_20 : decode prog_2_method_3_code 20 = .ok (.if_icmp .eq 7, 3) := by decide +kernel
theorem d_Ga_isPlace_19 : decode prog_2_method_3_code 19 = .ok (.iconst 5, 1) := by decide +kernel
theorem d_Ga_isPlace_18 : decode prog_2_method_3_code 18 = .ok (.iaload, 1) := by decide +kernel
theorem d_Ga_isPlace_14 : decode prog_2_method_3_code 14 = .ok (.getfield 9, 3) := by decide +kernel
theorem d_Ga_isPlace_10 : decode prog_2_method_3_code 10 = .ok (.ifCond .ne 13, 3) := by decide +kernel
theorem d_Ga_isPlace_6 : decode prog_2_method_3_code 6 = .ok (.ifCond .eq 21, 3) := by decide +kernel
theorem d_Ga_isPlace_5 : decode prog_2_method_3_code 5 = .ok (.baload, 1) := by decide +kernel
theorem d_Ga_isPlace_1 : decode prog_2_method_3_code 1 = .ok (.getfield 18, 3) := by decide +kernel
theorem d_Ga_isHyphen_0 : decode prog_2_method_4_code 0 = .ok (.iload_n 1, 1) := by decide +kernel
theorem d_Ga_isHyphen_20 : decode prog_2_method_4_code 20 = .ok (.ireturn, 1) := by decide +kernel
theorem d_Ga_isHyphen_19 : decode prog_2_method_4_code 19 = .ok (.iconst 0, 1) := by decide +kernel
theorem d_Ga_isHyphen_5 : decode prog_2_method_4_code 5 = .ok (.aload_n 0, 1) := by decide +kernel
theorem d_Ga_isHyphen_9 : decode prog_2_method_4_code 9 = .ok (.iload_n 1, 1) := by decide +kernel
theorem d_Ga_isHyphen_16 : decode prog_2_method_4_code 16 = .ok (.goto 4, 3) := by decide +kernel
theorem d_Ga_isHyphen_15 : decode prog_2_method_4_code 15 = .ok (.iconst 1, 1) := by decide +kernel
theorem d_Ga_isHyphen_12 : decode prog_2_method_4_code 12 = .ok (.if_icmp .ne 7, 3) := by decide +kernel
theorem d_Ga_isHyphen_11 : decode prog_2_method_4_code 11 = .ok (.iconst 5, 1) := by decide +kernel
theorem d_Ga_isHyphen_10 : decode prog_2_method_4_code 10 = .ok (.iaload, 1) := by decide +kernel
theorem d_Ga_isHyphen_6 : decode prog_2_method_4_code 6 = .ok (.getfield 9, 3) := by decide +kernel
theorem d_Ga_isHyphen_2 : decode prog_2_method_4_code 2 = .ok (.if_icmp .eq 17, 3) := by decide +kernel
theorem d_Ga_isHyphen_1 : decode prog_2_method_4_code 1 = .ok (.iconst (-1), 1) := by decide +kernel
theorem d_Se_demerits_164 : decode prog_9_method_7_code 164 = .ok (.aload_n 0, 1) := by decide +kernel
theorem d_Se_demerits_171 : decode prog_9_method_7_code 171 = .ok (.iload_n 1, 1) := by decide +kernel
theorem d_Se_demerits_173 : decode prog_9_method_7_code 173 = .ok (.aload_n 0, 1) := by decide +kernel
theorem d_Se_demerits_204 : decode prog_9_method_7_code 204 = .ok (.lload 5, 2) := by decide +kernel
theorem d_Se_demerits_206 : decode prog_9_method_7_code 206 = .ok (.lreturn, 1) := by decide +kernel
theorem d_Se_demerits_188 : decode prog_9_method_7_code 188 = .ok (.lload 5, 2) := by decide +kernel
theorem d_Se_demerits_190 : decode prog_9_method_7_code 190 = .ok (.aload_n 0, 1) := by decide +kernel
theorem d_Se_demerits_202 : decode prog_9_method_7_code 202 = .ok (.lstore 5, 2) := by decide +kernel
theorem d_Se_demerits_201 : decode prog_9_method_7_code 201 = .ok (.ladd, 1) := by decide +kernel
theorem d_Se_demerits_200 : decode prog_9_method_7_code 200 = .ok (.i2l, 1) := by decide +kernel
theorem d_Se_demerits_199 : decode prog_9_method_7_code 199 = .ok (.iaload, 1) := by decide +kernel
theorem d_Se_demerits_197 : decode prog_9_method_7_code 197 = .ok (.bipush 7, 2) := by decide +kernel
theorem d_Se_demerits_194 : decode prog_9_method_7_code 194 = .ok (.getfield 46, 3) := by decide +kernel
theorem d_Se_demerits_191 : decode prog_9_method_7_code 191 = .ok (.getfield 15, 3) := by decide +kernel
theorem d_Se_demerits_185 : decode prog_9_method_7_code 185 = .ok (.if_icmp .le 19, 3) := by decide +kernel
theorem d_Se_demerits_184 : decode prog_9_method_7_code 184 = .ok (.iconst 1, 1) := by decide +kernel
theorem d_Se_demerits_181 : decode prog_9_method_7_code 181 = .ok (.invokestatic 153, 3) := by decide +kernel
theorem d_Se_demerits_180 : decode prog_9_method_7_code 180 = .ok (.isub, 1) := by decide +kernel
theorem d_Se_demerits_177 : decode prog_9_method_7_code 177 = .ok (.getfield 125, 3) := by decide +kernel
theorem d_Se_demerits_174 : decode prog_9_method_7_code 174 = .ok (.getfield 24, 3) := by decide +kernel
theorem d_Se_demerits_172 : decode prog_9_method_7_code 172 = .ok (.iaload, 1) := by decide +kernel
theorem d_Se_demerits_168 : decode prog_9_method_7_code 168 = .ok (.getfield 151, 3) := by decide +kernel
theorem d_Se_demerits_165 : decode prog_9_method_7_code 165 = .ok (.getfield 31, 3) := by decide +kernel
theorem d_Se_demerits_89 : decode prog_9_method_7_code 89 = .ok (.aload_n 0, 1) := by decide +kernel
theorem d_Se_demerits_93 : decode prog_9_method_7_code 93 = .ok (.aload_n 0, 1) := by decide +kernel
theorem d_Se_demerits_100 : decode prog_9_method_7_code 100 = .ok (.iload_n 1, 1) := by decide +kernel
theorem d_Se_demerits_108 : decode prog_9_method_7_code 108 = .ok (.aload_n 0, 1) := by decide +kernel
theorem d_Se_demerits_112 : decode prog_9_method_7_code 112 = .ok (.iload_n 2, 1) := by decide +kernel
theorem d_Se_demerits_137 : decode prog_9_method_7_code 137 = .ok (.iload_n 2, 1) := by decide +kernel
theorem d_Se_demerits_138 : decode prog_9_method_7_code 138 = .ok (.aload_n 0, 1) := by decide +kernel
theorem d_Se_demerits_148 : decode prog_9_method_7_code 148 = .ok (.lload 5, 2) := by decide +kernel
theorem d_Se_demerits_150 : decode prog_9_method_7_code 150 = .ok (.aload_n 0, 1) := by decide +kernel
theorem d_Se_demerits_162 : decode prog_9_method_7_code 162 = .ok (.lstore 5, 2) := by decide +kernel
theorem d_Se_demerits_161 : decode prog_9_method_7_code 161 = .ok (.ladd, 1) := by decide +kernel
theorem d_Se_demerits_160 : decode prog_9_method_7_code 160 = .ok (.i2l, 1) := by decide +kernel
theorem d_Se_demerits_159 : decode prog_9_method_7_code 159 = .ok (.iaload, 1) := by decide +kernel
theorem d_Se_demerits_157 : decode prog_9_method_7_code 157 = .ok (.bipush 6, 2) := by decide +kernel
theorem d_Se_demerits_154 : decode prog_9_method_7_code 154 = .ok (.getfield 46, 3) := by decide +kernel
theorem d_Se_demerits_151 : decode prog_9_method_7_code 151 = .ok (.getfield 15, 3) := by decide +kernel
theorem d_Se_demerits_145 : decode prog_9_method_7_code 145 = .ok (.if_icmp .ne 19, 3) := by decide +kernel
theorem d_Se_demerits_142 : decode prog_9_method_7_code 142 = .ok (.getfield 69, 3) := by decide +kernel
theorem d_Se_demerits_139 : decode prog_9_method_7_code 139 = .ok (.getfield 9, 3) := by decide +kernel
theorem d_Se_demerits_119 : decode prog_9_method_7_code 119 = .ok (.lload 5, 2) := by decide +kernel
theorem d_Se_demerits_121 : decode prog_9_method_7_code 121 = .ok (.aload_n 0, 1) := by decide +kernel
theorem d_Se_demerits_132 : decode prog_9_method_7_code 132 = .ok (.lstore 5, 2) := by decide +kernel
theorem d_Se_demerits_134 : decode prog_9_method_7_code 134 = .ok (.goto 30, 3) := by decide +kernel
theorem d_Se_demerits_131 : decode prog_9_method_7_code 131 = .ok (.ladd, 1) := by decide +kernel
theorem d_Se_demerits_130 : decode prog_9_method_7_code 130 = .ok (.i2l, 1) := by decide +kernel
theorem d_Se_demerits_129 : decode prog_9_method_7_code 129 = .ok (.iaload, 1) := by decide +kernel
theorem d_Se_demerits_128 : decode prog_9_method_7_code 128 = .ok (.iconst 5, 1) := by decide +kernel
theorem d_Se_demerits_125 : decode prog_9_method_7_code 125 = .ok (.getfield 46, 3) := by decide +kernel
theorem d_Se_demerits_122 : decode prog_9_method_7_code 122 = .ok (.getfield 15, 3) := by decide +kernel
theorem d_Se_demerits_116 : decode prog_9_method_7_code 116 = .ok (.ifCond .eq 21, 3) := by decide +kernel
theorem d_Se_demerits_113 : decode prog_9_method_7_code 113 = .ok (.invokevirtual 148, 3) := by decide +kernel
theorem d_Se_demerits_109 : decode prog_9_method_7_code 109 = .ok (.getfield 9, 3) := by decide +kernel
theorem d_Se_demerits_105 : decode prog_9_method_7_code 105 = .ok (.ifCond .eq 59, 3) := by decide +kernel
theorem d_Se_demerits_102 : decode prog_9_method_7_code 102 = .ok (.invokevirtual 148, 3) := by decide +kernel
theorem d_Se_demerits_101 : decode prog_9_method_7_code 101 = .ok (.iaload, 1) := by decide +kernel
theorem d_Se_demerits_97 : decode prog_9_method_7_code 97 = .ok (.getfield 118, 3) := by decide +kernel
theorem d_Se_demerits_94 : decode prog_9_method_7_code 94 = .ok (.getfield 31, 3) := by decide +kernel
theorem d_Se_demerits_90 : decode prog_9_method_7_code 90 = .ok (.getfield 9, 3) := by decide +kernel
theorem d_Se_demerits_36 : decode prog_9_method_7_code 36 = .ok (.lstore 5, 2) := by decide +kernel
theorem d_Se_demerits_38 : decode prog_9_method_7_code 38 = .ok (.aload_n 0, 1) := by decide +kernel
theorem d_Se_demerits_45 : decode prog_9_method_7_code 45 = .ok (.iload_n 2, 1) := by decide +kernel
theorem d_Se_demerits_48 : decode prog_9_method_7_code 48 = .ok (.lstore 7, 2) := by decide +kernel
theorem d_Se_demerits_50 : decode prog_9_method_7_code 50 = .ok (.lload 7, 2) := by decide +kernel
theorem d_Se_demerits_70 : decode prog_9_method_7_code 70 = .ok (.lload 7, 2) := by decide +kernel
theorem d_Se_demerits_79 : decode prog_9_method_7_code 79 = .ok (.lload 5, 2) := by decide +kernel
theorem d_Se_demerits_81 : decode prog_9_method_7_code 81 = .ok (.lload 7, 2) := by decide +kernel
theorem d_Se_demerits_83 : decode prog_9_method_7_code 83 = .ok (.lload 7, 2) := by decide +kernel
theorem d_Se_demerits_87 : decode prog_9_method_7_code 87 = .ok (.lstore 5, 2) := by decide +kernel
theorem d_Se_demerits_86 : decode prog_9_method_7_code 86 = .ok (.lsub, 1) := by decide +kernel
theorem d_Se_demerits_85 : decode prog_9_method_7_code 85 = .ok (.lmul, 1) := by decide +kernel
theorem d_Se_demerits_76 : decode prog_9_method_7_code 76 = .ok (.ifCond .eq 13, 3) := by decide +kernel
theorem d_Se_demerits_75 : decode prog_9_method_7_code 75 = .ok (.lcmp, 1) := by decide +kernel
theorem d_Se_demerits_72 : decode prog_9_method_7_code 72 = .ok (.ldc2_w 146, 3) := by decide +kernel
theorem d_Se_demerits_57 : decode prog_9_method_7_code 57 = .ok (.lload 5, 2) := by decide +kernel
theorem d_Se_demerits_59 : decode prog_9_method_7_code 59 = .ok (.lload 7, 2) := by decide +kernel
theorem d_Se_demerits_61 : decode prog_9_method_7_code 61 = .ok (.lload 7, 2) := by decide +kernel
theorem d_Se_demerits_65 : decode prog_9_method_7_code 65 = .ok (.lstore 5, 2) := by decide +kernel
theorem d_Se_demerits_67 : decode prog_9_method_7_code 67 = .ok (.goto 22, 3) := by decide +kernel
theorem d_Se_demerits_64 : decode prog_9_method_7_code 64 = .ok (.ladd, 1) := by decide +kernel
theorem d_Se_demerits_63 : decode prog_9_method_7_code 63 = .ok (.lmul, 1) := by decide +kernel
theorem d_Se_demerits_54 : decode prog_9_method_7_code 54 = .ok (.ifCond .le 16, 3) := by decide +kernel
theorem d_Se_demerits_53 : decode prog_9_method_7_code 53 = .ok (.lcmp, 1) := by decide +kernel
theorem d_Se_demerits_52 : decode prog_9_method_7_code 52 = .ok (.lconst 0, 1) := by decide +kernel
theorem d_Se_demerits_47 : decode prog_9_method_7_code 47 = .ok (.i2l, 1) := by decide +kernel
theorem d_Se_demerits_46 : decode prog_9_method_7_code 46 = .ok (.iaload, 1) := by decide +kernel
theorem d_Se_demerits_42 : decode prog_9_method_7_code 42 = .ok (.getfield 86, 3) := by decide +kernel
theorem d_Se_demerits_39 : decode prog_9_method_7_code 39 = .ok (.getfield 9, 3) := by decide +kernel
theorem d_Se_demerits_0 : decode prog_9_method_7_code 0 = .ok (.aload_n 0, 1) := by decide +kernel
theorem d_Se_demerits_9 : decode prog_9_method_7_code 9 = .ok (.aload_n 0, 1) := by decide +kernel
theorem d_Se_demerits_18 : decode prog_9_method_7_code 18 = .ok (.lstore_n 3, 1) := by decide +kernel
theorem d_Se_demerits_19 : decode prog_9_method_7_code 19 = .ok (.lload_n 3, 1) := by decide +kernel
theorem d_Se_demerits_33 : decode prog_9_method_7_code 33 = .ok (.lload_n 3, 1) := by decide +kernel
theorem d_Se_demerits_34 : decode prog_9_method_7_code 34 = .ok (.lload_n 3, 1) := by decide +kernel
theorem d_Se_demerits_35 : decode prog_9_method_7_code 35 = .ok (.lmul, 1) := by decide +kernel
theorem d_Se_demerits_30 : decode prog_9_method_7_code 30 = .ok (.goto 6, 3) := by decide +kernel
theorem d_Se_demerits_27 : decode prog_9_method_7_code 27 = .ok (.ldc2_w 144, 3) := by decide +kernel
theorem d_Se_demerits_24 : decode prog_9_method_7_code 24 = .ok (.ifCond .lt 9, 3) := by decide +kernel
theorem d_Se_demerits_23 : decode prog_9_method_7_code 23 = .ok (.lcmp, 1) := by decide +kernel
theorem d_Se_demerits_20 : decode prog_9_method_7_code 20 = .ok (.ldc2_w 142, 3) := by decide +kernel
theorem d_Se_demerits_17 : decode prog_9_method_7_code 17 = .ok (.i2l, 1) := by decide +kernel
theorem d_Se_demerits_16 : decode prog_9_method_7_code 16 = .ok (.iadd, 1) := by decide +kernel
theorem d_Se_demerits_13 : decode prog_9_method_7_code 13 = .ok (.getfield 93, 3) := by decide +kernel
theorem d_Se_demerits_10 : decode prog_9_method_7_code 10 = .ok (.getfield 24, 3) := by decide +kernel
theorem d_Se_demerits_8 : decode prog_9_method_7_code 8 = .ok (.iaload, 1) := by decide +kernel
theorem d_Se_demerits_7 : decode prog_9_method_7_code 7 = .ok (.iconst 2, 1) := by decide +kernel
theorem d_Se_demerits_4 : decode prog_9_method_7_code 4 = .ok (.getfield 46, 3) := by decide +kernel
theorem d_Se_demerits_1 : decode prog_9_method_7_code 1 = .ok (.getfield 15, 3) := by decide +kernel
theorem d_Of_take_48 : decode prog_6_method_4_code 48 = .ok (.aload_n 0, 1) := by decide +kernel
theorem d_Of_take_49 : decode prog_6_method_4_code 49 = .ok (.aload_n 0, 1) := by decide +kernel
theorem d_Of_take_53 : decode prog_6_method_4_code 53 = .ok (.iload_n 2, 1) := by decide +kernel
theorem d_Of_take_60 : decode prog_6_method_4_code 60 = .ok (.aload_n 0, 1) := by decide +kernel
theorem d_Of_take_61 : decode prog_6_method_4_code 61 = .ok (.aload_n 0, 1) := by decide +kernel
theorem d_Of_take_65 : decode prog_6_method_4_code 65 = .ok (.iload_n 2, 1) := by decide +kernel
theorem d_Of_take_72 : decode prog_6_method_4_code 72 = .ok (.return_, 1) := by decide +kernel
theorem d_Of_take_69 : decode prog_6_method_4_code 69 = .ok (.putfield 29, 3) := by decide +kernel
theorem d_Of_take_66 : decode prog_6_method_4_code 66 = .ok (.invokestatic 38, 3) := by decide +kernel
theorem d_Of_take_62 : decode prog_6_method_4_code 62 = .ok (.getfield 29, 3) := by decide +kernel
theorem d_Of_take_57 : decode prog_6_method_4_code 57 = .ok (.putfield 25, 3) := by decide +kernel
theorem d_Of_take_54 : decode prog_6_method_4_code 54 = .ok (.invokestatic 32, 3) := by decide +kernel
theorem d_Of_take_50 : decode prog_6_method_4_code 50 = .ok (.getfield 25, 3) := by decide +kernel
theorem d_Of_take_31 : decode prog_6_method_4_code 31 = .ok (.aload_n 0, 1) := by decide +kernel
theorem d_Of_take_35 : decode prog_6_method_4_code 35 = .ok (.iload 6, 2) := by decide +kernel
theorem d_Of_take_37 : decode prog_6_method_4_code 37 = .ok (.iload_n 1, 1) := by decide +kernel
theorem d_Of_take_39 : decode prog_6_method_4_code 39 = .ok (.aload_n 0, 1) := by decide +kernel
theorem d_Of_take_43 : decode prog_6_method_4_code 43 = .ok (.iload 6, 2) := by decide +kernel
theorem d_Of_take_45 : decode prog_6_method_4_code 45 = .ok (.lload 4, 2) := by decide +kernel
theorem d_Of_take_47 : decode prog_6_method_4_code 47 = .ok (.lastore, 1) := by decide +kernel
theorem d_Of_take_40 : decode prog_6_method_4_code 40 = .ok (.getfield 9, 3) := by decide +kernel
theorem d_Of_take_38 : decode prog_6_method_4_code 38 = .ok (.iastore, 1) := by decide +kernel
theorem d_Of_take_32 : decode prog_6_method_4_code 32 = .ok (.getfield 15, 3) := by decide +kernel
theorem d_Of_take_0 : decode prog_6_method_4_code 0 = .ok (.iload_n 2, 1) := by decide +kernel
theorem d_Of_take_3 : decode prog_6_method_4_code 3 = .ok (.iload_n 3, 1) := by decide +kernel
theorem d_Of_take_5 : decode prog_6_method_4_code 5 = .ok (.istore 6, 2) := by decide +kernel
theorem d_Of_take_7 : decode prog_6_method_4_code 7 = .ok (.aload_n 0, 1) := by decide +kernel
theorem d_Of_take_11 : decode prog_6_method_4_code 11 = .ok (.iload 6, 2) := by decide +kernel
theorem d_Of_take_18 : decode prog_6_method_4_code 18 = .ok (.lload 4, 2) := by decide +kernel
theorem d_Of_take_20 : decode prog_6_method_4_code 20 = .ok (.aload_n 0, 1) := by decide +kernel
theorem d_Of_take_24 : decode prog_6_method_4_code 24 = .ok (.iload 6, 2) := by decide +kernel
theorem d_Of_take_28 : decode prog_6_method_4_code 28 = .ok (.ifCond .ge 20, 3) := by decide +kernel
theorem d_Of_take_27 : decode prog_6_method_4_code 27 = .ok (.lcmp, 1) := by decide +kernel
theorem d_Of_take_26 : decode prog_6_method_4_code 26 = .ok (.laload, 1) := by decide +kernel
theorem d_Of_take_21 : decode prog_6_method_4_code 21 = .ok (.getfield 9, 3) := by decide +kernel
theorem d_Of_take_15 : decode prog_6_method_4_code 15 = .ok (.if_icmp .eq 16, 3) := by decide +kernel
theorem d_Of_take_14 : decode prog_6_method_4_code 14 = .ok (.iconst (-1), 1) := by decide +kernel
theorem d_Of_take_13 : decode prog_6_method_4_code 13 = .ok (.iaload, 1) := by decide +kernel
theorem d_Of_take_8 : decode prog_6_method_4_code 8 = .ok (.getfield 15, 3) := by decide +kernel
theorem d_Of_take_4 : decode prog_6_method_4_code 4 = .ok (.iadd, 1) := by decide +kernel
theorem d_Of_take_2 : decode prog_6_method_4_code 2 = .ok (.imul, 1) := by decide +kernel
theorem d_Of_take_1 : decode prog_6_method_4_code 1 = .ok (.iconst 4, 1) := by decide +kernel
theorem d_Se_offerFrom_0 : decode prog_9_method_5_code 0 = .ok (.aload_n 0, 1) := by decide +kernel
theorem d_Se_offerFrom_4 : decode prog_9_method_5_code 4 = .ok (.iload_n 1, 1) := by decide +kernel
theorem d_Se_offerFrom_5 : decode prog_9_method_5_code 5 = .ok (.aload_n 0, 1) := by decide +kernel
theorem d_Se_offerFrom_12 : decode prog_9_method_5_code 12 = .ok (.iload_n 1, 1) := by decide +kernel
theorem d_Se_offerFrom_16 : decode prog_9_method_5_code 16 = .ok (.aload_n 0, 1) := by decide +kernel
theorem d_Se_offerFrom_23 : decode prog_9_method_5_code 23 = .ok (.lload_n 2, 1) := by decide +kernel
theorem d_Se_offerFrom_27 : decode prog_9_method_5_code 27 = .ok (.return_, 1) := by decide +kernel
theorem d_Se_offerFrom_24 : decode prog_9_method_5_code 24 = .ok (.invokevirtual 128, 3) := by decide +kernel
theorem d_Se_offerFrom_20 : decode prog_9_method_5_code 20 = .ok (.getfield 125, 3) := by decide +kernel
theorem d_Se_offerFrom_17 : decode prog_9_method_5_code 17 = .ok (.getfield 24, 3) := by decide +kernel
theorem d_Se_offerFrom_15 : decode prog_9_method_5_code 15 = .ok (.iadd, 1) := by decide +kernel
theorem d_Se_offerFrom_14 : decode prog_9_method_5_code 14 = .ok (.iconst 1, 1) := by decide +kernel
theorem d_Se_offerFrom_13 : decode prog_9_method_5_code 13 = .ok (.iaload, 1) := by decide +kernel
theorem d_Se_offerFrom_9 : decode prog_9_method_5_code 9 = .ok (.getfield 108, 3) := by decide +kernel
theorem d_Se_offerFrom_6 : decode prog_9_method_5_code 6 = .ok (.getfield 31, 3) := by decide +kernel
theorem d_Se_offerFrom_1 : decode prog_9_method_5_code 1 = .ok (.getfield 38, 3) := by decide +kernel
theorem d_Of_isEmpty_0 : decode prog_6_method_3_code 0 = .ok (.aload_n 0, 1) := by decide +kernel
theorem d_Of_isEmpty_4 : decode prog_6_method_3_code 4 = .ok (.aload_n 0, 1) := by decide +kernel
theorem d_Of_isEmpty_16 : decode prog_6_method_3_code 16 = .ok (.ireturn, 1) := by decide +kernel
theorem d_Of_isEmpty_15 : decode prog_6_method_3_code 15 = .ok (.iconst 0, 1) := by decide +kernel
theorem d_Of_isEmpty_12 : decode prog_6_method_3_code 12 = .ok (.goto 4, 3) := by decide +kernel
theorem d_Of_isEmpty_11 : decode prog_6_method_3_code 11 = .ok (.iconst 1, 1) := by decide +kernel
theorem d_Of_isEmpty_8 : decode prog_6_method_3_code 8 = .ok (.if_icmp .ge 7, 3) := by decide +kernel
theorem d_Of_isEmpty_5 : decode prog_6_method_3_code 5 = .ok (.getfield 25, 3) := by decide +kernel
theorem d_Of_isEmpty_1 : decode prog_6_method_3_code 1 = .ok (.getfield 29, 3) := by decide +kernel
theorem d_No_isFull_0 : decode prog_5_method_3_code 0 = .ok (.aload_n 0, 1) := by decide +kernel
theorem d_No_isFull_15 : decode prog_5_method_3_code 15 = .ok (.ireturn, 1) := by decide +kernel
theorem d_No_isFull_14 : decode prog_5_method_3_code 14 = .ok (.iconst 0, 1) := by decide +kernel
theorem d_No_isFull_11 : decode prog_5_method_3_code 11 = .ok (.goto 4, 3) := by decide +kernel
theorem d_No_isFull_10 : decode prog_5_method_3_code 10 = .ok (.iconst 1, 1) := by decide +kernel
theorem d_No_isFull_7 : decode prog_5_method_3_code 7 = .ok (.if_icmp .le 7, 3) := by decide +kernel
theorem d_No_isFull_4 : decode prog_5_method_3_code 4 = .ok (.sipush 8000, 3) := by decide +kernel
theorem d_No_isFull_1 : decode prog_5_method_3_code 1 = .ok (.getfield 28, 3) := by decide +kernel
theorem d_Of_turnInto_16 : decode prog_6_method_5_code 16 = .ok (.iload 4, 2) := by decide +kernel
theorem d_Of_turnInto_136 : decode prog_6_method_5_code 136 = .ok (.goto (-131), 3) := by decide +kernel
theorem d_Of_turnInto_133 : decode prog_6_method_5_code 133 = .ok (.iinc 3 1, 3) := by decide +kernel
theorem d_Of_turnInto_21 : decode prog_6_method_5_code 21 = .ok (.iload_n 3, 1) := by decide +kernel
theorem d_Of_turnInto_24 : decode prog_6_method_5_code 24 = .ok (.iload 4, 2) := by decide +kernel
theorem d_Of_turnInto_27 : decode prog_6_method_5_code 27 = .ok (.istore 5, 2) := by decide +kernel
theorem d_Of_turnInto_29 : decode prog_6_method_5_code 29 = .ok (.aload_n 0, 1) := by decide +kernel
theorem d_Of_turnInto_33 : decode prog_6_method_5_code 33 = .ok (.iload 5, 2) := by decide +kernel
theorem d_Of_turnInto_43 : decode prog_6_method_5_code 43 = .ok (.aload_n 1, 1) := by decide +kernel
theorem d_Of_turnInto_52 : decode prog_6_method_5_code 52 = .ok (.aload_n 1, 1) := by decide +kernel
theorem d_Of_turnInto_56 : decode prog_6_method_5_code 56 = .ok (.istore 6, 2) := by decide +kernel
theorem d_Of_turnInto_58 : decode prog_6_method_5_code 58 = .ok (.aload_n 1, 1) := by decide +kernel
theorem d_Of_turnInto_62 : decode prog_6_method_5_code 62 = .ok (.iload 6, 2) := by decide +kernel
theorem d_Of_turnInto_64 : decode prog_6_method_5_code 64 = .ok (.iload_n 2, 1) := by decide +kernel
theorem d_Of_turnInto_66 : decode prog_6_method_5_code 66 = .ok (.aload_n 1, 1) := by decide +kernel
theorem d_Of_turnInto_70 : decode prog_6_method_5_code 70 = .ok (.iload 6, 2) := by decide +kernel
theorem d_Of_turnInto_72 : decode prog_6_method_5_code 72 = .ok (.iload_n 3, 1) := by decide +kernel
theorem d_Of_turnInto_74 : decode prog_6_method_5_code 74 = .ok (.aload_n 1, 1) := by decide +kernel
theorem d_Of_turnInto_78 : decode prog_6_method_5_code 78 = .ok (.iload 6, 2) := by decide +kernel
theorem d_Of_turnInto_80 : decode prog_6_method_5_code 80 = .ok (.iload 4, 2) := by decide +kernel
theorem d_Of_turnInto_83 : decode prog_6_method_5_code 83 = .ok (.aload_n 1, 1) := by decide +kernel
theorem d_Of_turnInto_87 : decode prog_6_method_5_code 87 = .ok (.iload 6, 2) := by decide +kernel
theorem d_Of_turnInto_89 : decode prog_6_method_5_code 89 = .ok (.aload_n 0, 1) := by decide +kernel
theorem d_Of_turnInto_93 : decode prog_6_method_5_code 93 = .ok (.iload 5, 2) := by decide +kernel
theorem d_Of_turnInto_97 : decode prog_6_method_5_code 97 = .ok (.aload_n 1, 1) := by decide +kernel
theorem d_Of_turnInto_101 : decode prog_6_method_5_code 101 = .ok (.iload 6, 2) := by decide +kernel
theorem d_Of_turnInto_103 : decode prog_6_method_5_code 103 = .ok (.aload_n 0, 1) := by decide +kernel
theorem d_Of_turnInto_107 : decode prog_6_method_5_code 107 = .ok (.iload 5, 2) := by decide +kernel
theorem d_Of_turnInto_111 : decode prog_6_method_5_code 111 = .ok (.aload_n 1, 1) := by decide +kernel
theorem d_Of_turnInto_112 : decode prog_6_method_5_code 112 = .ok (.iload 6, 2) := by decide +kernel
theorem d_Of_turnInto_119 : decode prog_6_method_5_code 119 = .ok (.aload_n 0, 1) := by decide +kernel
theorem d_Of_turnInto_123 : decode prog_6_method_5_code 123 = .ok (.iload 5, 2) := by decide +kernel
theorem d_Of_turnInto_130 : decode prog_6_method_5_code 130 = .ok (.goto (-114), 3) := by decide +kernel
theorem d_Of_turnInto_127 : decode prog_6_method_5_code 127 = .ok (.iinc 4 (-1), 3) := by decide +kernel
theorem d_Of_turnInto_126 : decode prog_6_method_5_code 126 = .ok (.iastore, 1) := by decide +kernel
theorem d_Of_turnInto_125 : decode prog_6_method_5_code 125 = .ok (.iconst (-1), 1) := by decide +kernel
theorem d_Of_turnInto_120 : decode prog_6_method_5_code 120 = .ok (.getfield 15, 3) := by decide +kernel
theorem d_Of_turnInto_116 : decode prog_6_method_5_code 116 = .ok (.putfield 47, 3) := by decide +kernel
theorem d_Of_turnInto_115 : decode prog_6_method_5_code 115 = .ok (.iadd, 1) := by decide +kernel
theorem d_Of_turnInto_114 : decode prog_6_method_5_code 114 = .ok (.iconst 1, 1) := by decide +kernel
theorem d_Of_turnInto_110 : decode prog_6_method_5_code 110 = .ok (.lastore, 1) := by decide +kernel
theorem d_Of_turnInto_109 : decode prog_6_method_5_code 109 = .ok (.laload, 1) := by decide +kernel
theorem d_Of_turnInto_104 : decode prog_6_method_5_code 104 = .ok (.getfield 9, 3) := by decide +kernel
theorem d_Of_turnInto_98 : decode prog_6_method_5_code 98 = .ok (.getfield 60, 3) := by decide +kernel
theorem d_Of_turnInto_96 : decode prog_6_method_5_code 96 = .ok (.iastore, 1) := by decide +kernel
theorem d_Of_turnInto_95 : decode prog_6_method_5_code 95 = .ok (.iaload, 1) := by decide +kernel
theorem d_Of_turnInto_90 : decode prog_6_method_5_code 90 = .ok (.getfield 15, 3) := by decide +kernel
theorem d_Of_turnInto_84 : decode prog_6_method_5_code 84 = .ok (.getfield 59, 3) := by decide +kernel
theorem d_Of_turnInto_82 : decode prog_6_method_5_code 82 = .ok (.iastore, 1) := by decide +kernel
theorem d_Of_turnInto_75 : decode prog_6_method_5_code 75 = .ok (.getfield 56, 3) := by decide +kernel
theorem d_Of_turnInto_73 : decode prog_6_method_5_code 73 = .ok (.iastore, 1) := by decide +kernel
theorem d_Of_turnInto_67 : decode prog_6_method_5_code 67 = .ok (.getfield 53, 3) := by decide +kernel
theorem d_Of_turnInto_65 : decode prog_6_method_5_code 65 = .ok (.iastore, 1) := by decide +kernel
theorem d_Of_turnInto_59 : decode prog_6_method_5_code 59 = .ok (.getfield 50, 3) := by decide +kernel
theorem d_Of_turnInto_53 : decode prog_6_method_5_code 53 = .ok (.getfield 47, 3) := by decide +kernel
theorem d_Of_turnInto_51 : decode prog_6_method_5_code 51 = .ok (.ireturn, 1) := by decide +kernel
theorem d_Of_turnInto_50 : decode prog_6_method_5_code 50 = .ok (.iconst 0, 1) := by decide +kernel
theorem d_Of_turnInto_47 : decode prog_6_method_5_code 47 = .ok (.ifCond .eq 5, 3) := by decide +kernel
theorem d_Of_turnInto_44 : decode prog_6_method_5_code 44 = .ok (.invokevirtual 41, 3) := by decide +kernel
theorem d_Of_turnInto_40 : decode prog_6_method_5_code 40 = .ok (.goto 87, 3) := by decide +kernel
theorem d_Of_turnInto_37 : decode prog_6_method_5_code 37 = .ok (.if_icmp .ne 6, 3) := by decide +kernel
theorem d_Of_turnInto_36 : decode prog_6_method_5_code 36 = .ok (.iconst (-1), 1) := by decide +kernel
theorem d_Of_turnInto_35 : decode prog_6_method_5_code 35 = .ok (.iaload, 1) := by decide +kernel
theorem d_Of_turnInto_30 : decode prog_6_method_5_code 30 = .ok (.getfield 15, 3) := by decide +kernel
theorem d_Of_turnInto_26 : decode prog_6_method_5_code 26 = .ok (.iadd, 1) := by decide +kernel
theorem d_Of_turnInto_23 : decode prog_6_method_5_code 23 = .ok (.imul, 1) := by decide +kernel
theorem d_Of_turnInto_22 : decode prog_6_method_5_code 22 = .ok (.iconst 4, 1) := by decide +kernel
theorem d_Of_turnInto_18 : decode prog_6_method_5_code 18 = .ok (.ifCond .lt 115, 3) := by decide +kernel
theorem d_Of_turnInto_5 : decode prog_6_method_5_code 5 = .ok (.iload_n 3, 1) := by decide +kernel
theorem d_Of_turnInto_6 : decode prog_6_method_5_code 6 = .ok (.aload_n 0, 1) := by decide +kernel
theorem d_Of_turnInto_139 : decode prog_6_method_5_code 139 = .ok (.aload_n 0, 1) := by decide +kernel
theorem d_Of_turnInto_146 : decode prog_6_method_5_code 146 = .ok (.aload_n 0, 1) := by decide +kernel
theorem d_Of_turnInto_152 : decode prog_6_method_5_code 152 = .ok (.ireturn, 1) := by decide +kernel
theorem d_Of_turnInto_151 : decode prog_6_method_5_code 151 = .ok (.iconst 1, 1) := by decide +kernel
theorem d_Of_turnInto_148 : decode prog_6_method_5_code 148 = .ok (.putfield 29, 3) := by decide +kernel
theorem d_Of_turnInto_147 : decode prog_6_method_5_code 147 = .ok (.iconst 0, 1) := by decide +kernel
theorem d_Of_turnInto_143 : decode prog_6_method_5_code 143 = .ok (.putfield 25, 3) := by decide +kernel
theorem d_Of_turnInto_140 : decode prog_6_method_5_code 140 = .ok (.sipush 401, 3) := by decide +kernel
theorem d_Of_turnInto_14 : decode prog_6_method_5_code 14 = .ok (.istore 4, 2) := by decide +kernel
theorem d_Of_turnInto_13 : decode prog_6_method_5_code 13 = .ok (.iconst 3, 1) := by decide +kernel
theorem d_Of_turnInto_10 : decode prog_6_method_5_code 10 = .ok (.if_icmp .gt 129, 3) := by decide +kernel
theorem d_Of_turnInto_7 : decode prog_6_method_5_code 7 = .ok (.getfield 29, 3) := by decide +kernel
theorem d_Of_turnInto_0 : decode prog_6_method_5_code 0 = .ok (.aload_n 0, 1) := by decide +kernel
theorem d_Of_turnInto_4 : decode prog_6_method_5_code 4 = .ok (.istore_n 3, 1) := by decide +kernel
theorem d_Of_turnInto_1 : decode prog_6_method_5_code 1 = .ok (.getfield 25, 3) := by decide +kernel
theorem d_Se_settle_33 : decode prog_9_method_6_code 33 = .ok (.iload_n 2, 1) := by decide +kernel
theorem d_Se_settle_34 : decode prog_9_method_6_code 34 = .ok (.aload_n 0, 1) := by decide +kernel
theorem d_Se_settle_71 : decode prog_9_method_6_code 71 = .ok (.ireturn, 1) := by decide +kernel
theorem d_Se_settle_70 : decode prog_9_method_6_code 70 = .ok (.iconst 1, 1) := by decide +kernel
theorem d_Se_settle_44 : decode prog_9_method_6_code 44 = .ok (.aload_n 0, 1) := by decide +kernel
theorem d_Se_settle_48 : decode prog_9_method_6_code 48 = .ok (.aload_n 0, 1) := by decide +kernel
theorem d_Se_settle_52 : decode prog_9_method_6_code 52 = .ok (.iload_n 2, 1) := by decide +kernel
theorem d_Se_settle_54 : decode prog_9_method_6_code 54 = .ok (.aload_n 0, 1) := by decide +kernel
theorem d_Se_settle_67 : decode prog_9_method_6_code 67 = .ok (.goto (-34), 3) := by decide +kernel
theorem d_Se_settle_64 : decode prog_9_method_6_code 64 = .ok (.iinc 2 1, 3) := by decide +kernel
theorem d_Se_settle_61 : decode prog_9_method_6_code 61 = .ok (.putfield 66, 3) := by decide +kernel
theorem d_Se_settle_60 : decode prog_9_method_6_code 60 = .ok (.iadd, 1) := by decide +kernel
theorem d_Se_settle_59 : decode prog_9_method_6_code 59 = .ok (.iconst 1, 1) := by decide +kernel
theorem d_Se_settle_56 : decode prog_9_method_6_code 56 = .ok (.getfield 66, 3) := by decide +kernel
theorem d_Se_settle_55 : decode prog_9_method_6_code 55 = .ok (.dup, 1) := by decide +kernel
theorem d_Se_settle_53 : decode prog_9_method_6_code 53 = .ok (.iastore, 1) := by decide +kernel
theorem d_Se_settle_49 : decode prog_9_method_6_code 49 = .ok (.getfield 66, 3) := by decide +kernel
theorem d_Se_settle_45 : decode prog_9_method_6_code 45 = .ok (.getfield 42, 3) := by decide +kernel
theorem d_Se_settle_41 : decode prog_9_method_6_code 41 = .ok (.if_icmp .ge 29, 3) := by decide +kernel
theorem d_Se_settle_38 : decode prog_9_method_6_code 38 = .ok (.getfield 132, 3) := by decide +kernel
theorem d_Se_settle_35 : decode prog_9_method_6_code 35 = .ok (.getfield 31, 3) := by decide +kernel
theorem d_Se_settle_0 : decode prog_9_method_6_code 0 = .ok (.aload_n 0, 1) := by decide +kernel
theorem d_Se_settle_1 : decode prog_9_method_6_code 1 = .ok (.aload_n 0, 1) := by decide +kernel
theorem d_Se_settle_11 : decode prog_9_method_6_code 11 = .ok (.aload_n 0, 1) := by decide +kernel
theorem d_Se_settle_15 : decode prog_9_method_6_code 15 = .ok (.aload_n 0, 1) := by decide +kernel
theorem d_Se_settle_19 : decode prog_9_method_6_code 19 = .ok (.iload_n 1, 1) := by decide +kernel
theorem d_Se_settle_28 : decode prog_9_method_6_code 28 = .ok (.aload_n 0, 1) := by decide +kernel
theorem d_Se_settle_32 : decode prog_9_method_6_code 32 = .ok (.istore_n 2, 1) := by decide +kernel
theorem d_Se_settle_29 : decode prog_9_method_6_code 29 = .ok (.getfield 135, 3) := by decide +kernel
theorem d_Se_settle_27 : decode prog_9_method_6_code 27 = .ok (.ireturn, 1) := by decide +kernel
theorem d_Se_settle_26 : decode prog_9_method_6_code 26 = .ok (.iconst 0, 1) := by decide +kernel
theorem d_Se_settle_23 : decode prog_9_method_6_code 23 = .ok (.ifCond .ne 5, 3) := by decide +kernel
theorem d_Se_settle_20 : decode prog_9_method_6_code 20 = .ok (.invokevirtual 138, 3) := by decide +kernel
theorem d_Se_settle_16 : decode prog_9_method_6_code 16 = .ok (.getfield 31, 3) := by decide +kernel
theorem d_Se_settle_12 : decode prog_9_method_6_code 12 = .ok (.getfield 38, 3) := by decide +kernel
theorem d_Se_settle_8 : decode prog_9_method_6_code 8 = .ok (.putfield 135, 3) := by decide +kernel
theorem d_Se_settle_5 : decode prog_9_method_6_code 5 = .ok (.getfield 132, 3) := by decide +kernel
theorem d_Se_settle_2 : decode prog_9_method_6_code 2 = .ok (.getfield 31, 3) := by decide +kernel
theorem d_Se_visit_217 : decode prog_9_method_3_code 217 = .ok (.aload_n 0, 1) := by decide +kernel
theorem d_Se_visit_218 : decode prog_9_method_3_code 218 = .ok (.iload_n 1, 1) := by decide +kernel
theorem d_Se_visit_222 : decode prog_9_method_3_code 222 = .ok (.ireturn, 1) := by decide +kernel
theorem d_Se_visit_219 : decode prog_9_method_3_code 219 = .ok (.invokevirtual 115, 3) := by decide +kernel
theorem d_Se_visit_123 : decode prog_9_method_3_code 123 = .ok (.iload 4, 2) := by decide +kernel
theorem d_Se_visit_152 : decode prog_9_method_3_code 152 = .ok (.iload 6, 2) := by decide +kernel
theorem d_Se_visit_154 : decode prog_9_method_3_code 154 = .ok (.istore 4, 2) := by decide +kernel
theorem d_Se_visit_159 : decode prog_9_method_3_code 159 = .ok (.goto (-130), 3) := by decide +kernel
theorem d_Se_visit_156 : decode prog_9_method_3_code 156 = .ok (.iinc 5 1, 3) := by decide +kernel
theorem d_Se_visit_129 : decode prog_9_method_3_code 129 = .ok (.aload_n 0, 1) := by decide +kernel
theorem d_Se_visit_136 : decode prog_9_method_3_code 136 = .ok (.iload 6, 2) := by decide +kernel
theorem d_Se_visit_139 : decode prog_9_method_3_code 139 = .ok (.aload_n 0, 1) := by decide +kernel
theorem d_Se_visit_146 : decode prog_9_method_3_code 146 = .ok (.iload 4, 2) := by decide +kernel
theorem d_Se_visit_149 : decode prog_9_method_3_code 149 = .ok (.if_icmp .le 7, 3) := by decide +kernel
theorem d_Se_visit_148 : decode prog_9_method_3_code 148 = .ok (.iaload, 1) := by decide +kernel
theorem d_Se_visit_143 : decode prog_9_method_3_code 143 = .ok (.getfield 108, 3) := by decide +kernel
theorem d_Se_visit_140 : decode prog_9_method_3_code 140 = .ok (.getfield 31, 3) := by decide +kernel
theorem d_Se_visit_138 : decode prog_9_method_3_code 138 = .ok (.iaload, 1) := by decide +kernel
theorem d_Se_visit_133 : decode prog_9_method_3_code 133 = .ok (.getfield 108, 3) := by decide +kernel
theorem d_Se_visit_130 : decode prog_9_method_3_code 130 = .ok (.getfield 31, 3) := by decide +kernel
theorem d_Se_visit_126 : decode prog_9_method_3_code 126 = .ok (.if_icmp .eq 26, 3) := by decide +kernel
theorem d_Se_visit_125 : decode prog_9_method_3_code 125 = .ok (.iconst (-1), 1) := by decide +kernel
theorem d_Se_visit_92 : decode prog_9_method_3_code 92 = .ok (.iload_n 2, 1) := by decide +kernel
theorem d_Se_visit_96 : decode prog_9_method_3_code 96 = .ok (.aload_n 0, 1) := by decide +kernel
theorem d_Se_visit_109 : decode prog_9_method_3_code 109 = .ok (.aload_n 0, 1) := by decide +kernel
theorem d_Se_visit_113 : decode prog_9_method_3_code 113 = .ok (.iload_n 3, 1) := by decide +kernel
theorem d_Se_visit_114 : decode prog_9_method_3_code 114 = .ok (.iload 6, 2) := by decide +kernel
theorem d_Se_visit_120 : decode prog_9_method_3_code 120 = .ok (.goto 36, 3) := by decide +kernel
theorem d_Se_visit_117 : decode prog_9_method_3_code 117 = .ok (.iinc 3 1, 3) := by decide +kernel
theorem d_Se_visit_116 : decode prog_9_method_3_code 116 = .ok (.iastore, 1) := by decide +kernel
theorem d_Se_visit_110 : decode prog_9_method_3_code 110 = .ok (.getfield 42, 3) := by decide +kernel
theorem d_Se_visit_106 : decode prog_9_method_3_code 106 = .ok (.if_icmp .eq 17, 3) := by decide +kernel
theorem d_Se_visit_103 : decode prog_9_method_3_code 103 = .ok (.sipush 10001, 3) := by decide +kernel
theorem d_Se_visit_100 : decode prog_9_method_3_code 100 = .ok (.getfield 93, 3) := by decide +kernel
theorem d_Se_visit_97 : decode prog_9_method_3_code 97 = .ok (.getfield 24, 3) := by decide +kernel
theorem d_Se_visit_93 : decode prog_9_method_3_code 93 = .ok (.ifCond .ne 30, 3) := by decide +kernel
theorem d_Se_visit_29 : decode prog_9_method_3_code 29 = .ok (.iload 5, 2) := by decide +kernel
theorem d_Se_visit_31 : decode prog_9_method_3_code 31 = .ok (.aload_n 0, 1) := by decide +kernel
theorem d_Se_visit_162 : decode prog_9_method_3_code 162 = .ok (.aload_n 0, 1) := by decide +kernel
theorem d_Se_visit_163 : decode prog_9_method_3_code 163 = .ok (.iload_n 3, 1) := by decide +kernel
theorem d_Se_visit_167 : decode prog_9_method_3_code 167 = .ok (.aload_n 0, 1) := by decide +kernel
theorem d_Se_visit_174 : decode prog_9_method_3_code 174 = .ok (.iload_n 3, 1) := by decide +kernel
theorem d_Se_visit_178 : decode prog_9_method_3_code 178 = .ok (.aload_n 0, 1) := by decide +kernel
theorem d_Se_visit_188 : decode prog_9_method_3_code 188 = .ok (.iload 4, 2) := by decide +kernel
theorem d_Se_visit_194 : decode prog_9_method_3_code 194 = .ok (.aload_n 0, 1) := by decide +kernel
theorem d_Se_visit_195 : decode prog_9_method_3_code 195 = .ok (.iload 4, 2) := by decide +kernel
theorem d_Se_visit_197 : decode prog_9_method_3_code 197 = .ok (.iload_n 1, 1) := by decide +kernel
theorem d_Se_visit_201 : decode prog_9_method_3_code 201 = .ok (.aload_n 0, 1) := by decide +kernel
theorem d_Se_visit_202 : decode prog_9_method_3_code 202 = .ok (.iload 4, 2) := by decide +kernel
theorem d_Se_visit_204 : decode prog_9_method_3_code 204 = .ok (.aload_n 0, 1) := by decide +kernel
theorem d_Se_visit_211 : decode prog_9_method_3_code 211 = .ok (.iload 4, 2) := by decide +kernel
theorem d_Se_visit_214 : decode prog_9_method_3_code 214 = .ok (.invokevirtual 104, 3) := by decide +kernel
theorem d_Se_visit_213 : decode prog_9_method_3_code 213 = .ok (.laload, 1) := by decide +kernel
theorem d_Se_visit_208 : decode prog_9_method_3_code 208 = .ok (.getfield 96, 3) := by decide +kernel
theorem d_Se_visit_205 : decode prog_9_method_3_code 205 = .ok (.getfield 31, 3) := by decide +kernel
theorem d_Se_visit_198 : decode prog_9_method_3_code 198 = .ok (.invokevirtual 89, 3) := by decide +kernel
theorem d_Se_visit_191 : decode prog_9_method_3_code 191 = .ok (.if_icmp .eq 26, 3) := by decide +kernel
theorem d_Se_visit_190 : decode prog_9_method_3_code 190 = .ok (.iconst (-1), 1) := by decide +kernel
theorem d_Se_visit_185 : decode prog_9_method_3_code 185 = .ok (.ifCond .eq 32, 3) := by decide +kernel
theorem d_Se_visit_182 : decode prog_9_method_3_code 182 = .ok (.invokevirtual 111, 3) := by decide +kernel
theorem d_Se_visit_179 : decode prog_9_method_3_code 179 = .ok (.getfield 38, 3) := by decide +kernel
theorem d_Se_visit_175 : decode prog_9_method_3_code 175 = .ok (.ifCond .ne 42, 3) := by decide +kernel
theorem d_Se_visit_171 : decode prog_9_method_3_code 171 = .ok (.ifCond .eq 46, 3) := by decide +kernel
theorem d_Se_visit_168 : decode prog_9_method_3_code 168 = .ok (.getfield 55, 3) := by decide +kernel
theorem d_Se_visit_164 : decode prog_9_method_3_code 164 = .ok (.putfield 66, 3) := by decide +kernel
theorem d_Se_visit_38 : decode prog_9_method_3_code 38 = .ok (.aload_n 0, 1) := by decide +kernel
theorem d_Se_visit_42 : decode prog_9_method_3_code 42 = .ok (.iload 5, 2) := by decide +kernel
theorem d_Se_visit_45 : decode prog_9_method_3_code 45 = .ok (.istore 6, 2) := by decide +kernel
theorem d_Se_visit_47 : decode prog_9_method_3_code 47 = .ok (.aload_n 0, 1) := by decide +kernel
theorem d_Se_visit_48 : decode prog_9_method_3_code 48 = .ok (.iload 6, 2) := by decide +kernel
theorem d_Se_visit_50 : decode prog_9_method_3_code 50 = .ok (.iload_n 1, 1) := by decide +kernel
theorem d_Se_visit_54 : decode prog_9_method_3_code 54 = .ok (.aload_n 0, 1) := by decide +kernel
theorem d_Se_visit_61 : decode prog_9_method_3_code 61 = .ok (.aload_n 0, 1) := by decide +kernel
theorem d_Se_visit_68 : decode prog_9_method_3_code 68 = .ok (.aload_n 0, 1) := by decide +kernel
theorem d_Se_visit_69 : decode prog_9_method_3_code 69 = .ok (.iload 6, 2) := by decide +kernel
theorem d_Se_visit_71 : decode prog_9_method_3_code 71 = .ok (.aload_n 0, 1) := by decide +kernel
theorem d_Se_visit_78 : decode prog_9_method_3_code 78 = .ok (.iload 6, 2) := by decide +kernel
theorem d_Se_visit_81 : decode prog_9_method_3_code 81 = .ok (.aload_n 0, 1) := by decide +kernel
theorem d_Se_visit_82 : decode prog_9_method_3_code 82 = .ok (.iload 6, 2) := by decide +kernel
theorem d_Se_visit_84 : decode prog_9_method_3_code 84 = .ok (.iload_n 1, 1) := by decide +kernel
theorem d_Se_visit_89 : decode prog_9_method_3_code 89 = .ok (.invokevirtual 104, 3) := by decide +kernel
theorem d_Se_visit_88 : decode prog_9_method_3_code 88 = .ok (.ladd, 1) := by decide +kernel
theorem d_Se_visit_85 : decode prog_9_method_3_code 85 = .ok (.invokevirtual 100, 3) := by decide +kernel
theorem d_Se_visit_80 : decode prog_9_method_3_code 80 = .ok (.laload, 1) := by decide +kernel
theorem d_Se_visit_75 : decode prog_9_method_3_code 75 = .ok (.getfield 96, 3) := by decide +kernel
theorem d_Se_visit_72 : decode prog_9_method_3_code 72 = .ok (.getfield 31, 3) := by decide +kernel
theorem d_Se_visit_65 : decode prog_9_method_3_code 65 = .ok (.if_icmp .gt 27, 3) := by decide +kernel
theorem d_Se_visit_62 : decode prog_9_method_3_code 62 = .ok (.getfield 51, 3) := by decide +kernel
theorem d_Se_visit_58 : decode prog_9_method_3_code 58 = .ok (.getfield 93, 3) := by decide +kernel
theorem d_Se_visit_55 : decode prog_9_method_3_code 55 = .ok (.getfield 24, 3) := by decide +kernel
theorem d_Se_visit_51 : decode prog_9_method_3_code 51 = .ok (.invokevirtual 89, 3) := by decide +kernel
theorem d_Se_visit_44 : decode prog_9_method_3_code 44 = .ok (.iaload, 1) := by decide +kernel
theorem d_Se_visit_39 : decode prog_9_method_3_code 39 = .ok (.getfield 42, 3) := by decide +kernel
theorem d_Se_visit_35 : decode prog_9_method_3_code 35 = .ok (.if_icmp .ge 127, 3) := by decide +kernel
theorem d_Se_visit_32 : decode prog_9_method_3_code 32 = .ok (.getfield 66, 3) := by decide +kernel
theorem d_Se_visit_20 : decode prog_9_method_3_code 20 = .ok (.istore_n 2, 1) := by decide +kernel
theorem d_Se_visit_22 : decode prog_9_method_3_code 22 = .ok (.istore_n 3, 1) := by decide +kernel
theorem d_Se_visit_24 : decode prog_9_method_3_code 24 = .ok (.istore 4, 2) := by decide +kernel
theorem d_Se_visit_27 : decode prog_9_method_3_code 27 = .ok (.istore 5, 2) := by decide +kernel
theorem d_Se_visit_26 : decode prog_9_method_3_code 26 = .ok (.iconst 0, 1) := by decide +kernel
theorem d_Se_visit_23 : decode prog_9_method_3_code 23 = .ok (.iconst (-1), 1) := by decide +kernel
theorem d_Se_visit_21 : decode prog_9_method_3_code 21 = .ok (.iconst 0, 1) := by decide +kernel
theorem d_Se_visit_0 : decode prog_9_method_3_code 0 = .ok (.aload_n 0, 1) := by decide +kernel
theorem d_Se_visit_7 : decode prog_9_method_3_code 7 = .ok (.iload_n 1, 1) := by decide +kernel
theorem d_Se_visit_19 : decode prog_9_method_3_code 19 = .ok (.iconst 0, 1) := by decide +kernel
theorem d_Se_visit_16 : decode prog_9_method_3_code 16 = .ok (.goto 4, 3) := by decide +kernel
theorem d_Se_visit_15 : decode prog_9_method_3_code 15 = .ok (.iconst 1, 1) := by decide +kernel
theorem d_Se_visit_12 : decode prog_9_method_3_code 12 = .ok (.if_icmp .ne 7, 3) := by decide +kernel
theorem d_Se_visit_9 : decode prog_9_method_3_code 9 = .ok (.sipush (-10000), 3) := by decide +kernel
theorem d_Se_visit_8 : decode prog_9_method_3_code 8 = .ok (.iaload, 1) := by decide +kernel
theorem d_Se_visit_4 : decode prog_9_method_3_code 4 = .ok (.getfield 86, 3) := by decide +kernel
theorem d_Se_visit_1 : decode prog_9_method_3_code 1 = .ok (.getfield 9, 3) := by decide +kernel
theorem d_No_isBetter_0 : decode prog_5_method_4_code 0 = .ok (.aload_n 0, 1) := by decide +kernel
theorem d_No_isBetter_4 : decode prog_5_method_4_code 4 = .ok (.iload_n 1, 1) := by decide +kernel
theorem d_No_isBetter_6 : decode prog_5_method_4_code 6 = .ok (.aload_n 0, 1) := by decide +kernel
theorem d_No_isBetter_10 : decode prog_5_method_4_code 10 = .ok (.iload_n 2, 1) := by decide +kernel
theorem d_No_isBetter_38 : decode prog_5_method_4_code 38 = .ok (.aload_n 0, 1) := by decide +kernel
theorem d_No_isBetter_42 : decode prog_5_method_4_code 42 = .ok (.iload_n 1, 1) := by decide +kernel
theorem d_No_isBetter_44 : decode prog_5_method_4_code 44 = .ok (.aload_n 0, 1) := by decide +kernel
theorem d_No_isBetter_48 : decode prog_5_method_4_code 48 = .ok (.iload_n 2, 1) := by decide +kernel
theorem d_No_isBetter_74 : decode prog_5_method_4_code 74 = .ok (.aload_n 0, 1) := by decide +kernel
theorem d_No_isBetter_78 : decode prog_5_method_4_code 78 = .ok (.iload_n 1, 1) := by decide +kernel
theorem d_No_isBetter_80 : decode prog_5_method_4_code 80 = .ok (.aload_n 0, 1) := by decide +kernel
theorem d_No_isBetter_84 : decode prog_5_method_4_code 84 = .ok (.iload_n 2, 1) := by decide +kernel
theorem d_No_isBetter_94 : decode prog_5_method_4_code 94 = .ok (.ireturn, 1) := by decide +kernel
theorem d_No_isBetter_93 : decode prog_5_method_4_code 93 = .ok (.iconst 0, 1) := by decide +kernel
theorem d_No_isBetter_90 : decode prog_5_method_4_code 90 = .ok (.goto 4, 3) := by decide +kernel
theorem d_No_isBetter_89 : decode prog_5_method_4_code 89 = .ok (.iconst 1, 1) := by decide +kernel
theorem d_No_isBetter_86 : decode prog_5_method_4_code 86 = .ok (.if_icmp .ge 7, 3) := by decide +kernel
theorem d_No_isBetter_85 : decode prog_5_method_4_code 85 = .ok (.iaload, 1) := by decide +kernel
theorem d_No_isBetter_81 : decode prog_5_method_4_code 81 = .ok (.getfield 18, 3) := by decide +kernel
theorem d_No_isBetter_79 : decode prog_5_method_4_code 79 = .ok (.iaload, 1) := by decide +kernel
theorem d_No_isBetter_75 : decode prog_5_method_4_code 75 = .ok (.getfield 18, 3) := by decide +kernel
theorem d_No_isBetter_53 : decode prog_5_method_4_code 53 = .ok (.aload_n 0, 1) := by decide +kernel
theorem d_No_isBetter_57 : decode prog_5_method_4_code 57 = .ok (.iload_n 1, 1) := by decide +kernel
theorem d_No_isBetter_59 : decode prog_5_method_4_code 59 = .ok (.aload_n 0, 1) := by decide +kernel
theorem d_No_isBetter_63 : decode prog_5_method_4_code 63 = .ok (.iload_n 2, 1) := by decide +kernel
theorem d_No_isBetter_73 : decode prog_5_method_4_code 73 = .ok (.ireturn, 1) := by decide +kernel
theorem d_No_isBetter_72 : decode prog_5_method_4_code 72 = .ok (.iconst 0, 1) := by decide +kernel
theorem d_No_isBetter_69 : decode prog_5_method_4_code 69 = .ok (.goto 4, 3) := by decide +kernel
theorem d_No_isBetter_68 : decode prog_5_method_4_code 68 = .ok (.iconst 1, 1) := by decide +kernel
theorem d_No_isBetter_65 : decode prog_5_method_4_code 65 = .ok (.if_icmp .ge 7, 3) := by decide +kernel
theorem d_No_isBetter_64 : decode prog_5_method_4_code 64 = .ok (.iaload, 1) := by decide +kernel
theorem d_No_isBetter_60 : decode prog_5_method_4_code 60 = .ok (.getfield 15, 3) := by decide +kernel
theorem d_No_isBetter_58 : decode prog_5_method_4_code 58 = .ok (.iaload, 1) := by decide +kernel
theorem d_No_isBetter_54 : decode prog_5_method_4_code 54 = .ok (.getfield 15, 3) := by decide +kernel
theorem d_No_isBetter_50 : decode prog_5_method_4_code 50 = .ok (.if_icmp .eq 24, 3) := by decide +kernel
theorem d_No_isBetter_49 : decode prog_5_method_4_code 49 = .ok (.iaload, 1) := by decide +kernel
theorem d_No_isBetter_45 : decode prog_5_method_4_code 45 = .ok (.getfield 15, 3) := by decide +kernel
theorem d_No_isBetter_43 : decode prog_5_method_4_code 43 = .ok (.iaload, 1) := by decide +kernel
theorem d_No_isBetter_39 : decode prog_5_method_4_code 39 = .ok (.getfield 15, 3) := by decide +kernel
theorem d_No_isBetter_16 : decode prog_5_method_4_code 16 = .ok (.aload_n 0, 1) := by decide +kernel
theorem d_No_isBetter_20 : decode prog_5_method_4_code 20 = .ok (.iload_n 1, 1) := by decide +kernel
theorem d_No_isBetter_22 : decode prog_5_method_4_code 22 = .ok (.aload_n 0, 1) := by decide +kernel
theorem d_No_isBetter_26 : decode prog_5_method_4_code 26 = .ok (.iload_n 2, 1) := by decide +kernel
theorem d_No_isBetter_37 : decode prog_5_method_4_code 37 = .ok (.ireturn, 1) := by decide +kernel
theorem d_No_isBetter_36 : decode prog_5_method_4_code 36 = .ok (.iconst 0, 1) := by decide +kernel
theorem d_No_isBetter_33 : decode prog_5_method_4_code 33 = .ok (.goto 4, 3) := by decide +kernel
theorem d_No_isBetter_32 : decode prog_5_method_4_code 32 = .ok (.iconst 1, 1) := by decide +kernel
theorem d_No_isBetter_29 : decode prog_5_method_4_code 29 = .ok (.ifCond .ge 7, 3) := by decide +kernel
theorem d_No_isBetter_28 : decode prog_5_method_4_code 28 = .ok (.lcmp, 1) := by decide +kernel
theorem d_No_isBetter_27 : decode prog_5_method_4_code 27 = .ok (.laload, 1) := by decide +kernel
theorem d_No_isBetter_23 : decode prog_5_method_4_code 23 = .ok (.getfield 24, 3) := by decide +kernel
theorem d_No_isBetter_21 : decode prog_5_method_4_code 21 = .ok (.laload, 1) := by decide +kernel
theorem d_No_isBetter_17 : decode prog_5_method_4_code 17 = .ok (.getfield 24, 3) := by decide +kernel
theorem d_No_isBetter_13 : decode prog_5_method_4_code 13 = .ok (.ifCond .eq 25, 3) := by decide +kernel
theorem d_No_isBetter_12 : decode prog_5_method_4_code 12 = .ok (.lcmp, 1) := by decide +kernel
theorem d_No_isBetter_11 : decode prog_5_method_4_code 11 = .ok (.laload, 1) := by decide +kernel
theorem d_No_isBetter_7 : decode prog_5_method_4_code 7 = .ok (.getfield 24, 3) := by decide +kernel
theorem d_No_isBetter_5 : decode prog_5_method_4_code 5 = .ok (.laload, 1) := by decide +kernel
theorem d_No_isBetter_1 : decode prog_5_method_4_code 1 = .ok (.getfield 24, 3) := by decide +kernel
theorem d_Se_isPreferred_0 : decode prog_9_method_9_code 0 = .ok (.aload_n 0, 1) := by decide +kernel
theorem d_Se_isPreferred_7 : decode prog_9_method_9_code 7 = .ok (.iload_n 1, 1) := by decide +kernel
theorem d_Se_isPreferred_9 : decode prog_9_method_9_code 9 = .ok (.istore 5, 2) := by decide +kernel
theorem d_Se_isPreferred_11 : decode prog_9_method_9_code 11 = .ok (.aload_n 0, 1) := by decide +kernel
theorem d_Se_isPreferred_18 : decode prog_9_method_9_code 18 = .ok (.iload_n 3, 1) := by decide +kernel
theorem d_Se_isPreferred_20 : decode prog_9_method_9_code 20 = .ok (.iload 4, 2) := by decide +kernel
theorem d_Se_isPreferred_25 : decode prog_9_method_9_code 25 = .ok (.istore 6, 2) := by decide +kernel
theorem d_Se_isPreferred_27 : decode prog_9_method_9_code 27 = .ok (.aload_n 0, 1) := by decide +kernel
theorem d_Se_isPreferred_34 : decode prog_9_method_9_code 34 = .ok (.iload_n 3, 1) := by decide +kernel
theorem d_Se_isPreferred_36 : decode prog_9_method_9_code 36 = .ok (.iload 4, 2) := by decide +kernel
theorem d_Se_isPreferred_41 : decode prog_9_method_9_code 41 = .ok (.istore 7, 2) := by decide +kernel
theorem d_Se_isPreferred_43 : decode prog_9_method_9_code 43 = .ok (.iload 5, 2) := by decide +kernel
theorem d_Se_isPreferred_45 : decode prog_9_method_9_code 45 = .ok (.iload 6, 2) := by decide +kernel
theorem d_Se_isPreferred_58 : decode prog_9_method_9_code 58 = .ok (.ireturn, 1) := by decide +kernel
theorem d_Se_isPreferred_57 : decode prog_9_method_9_code 57 = .ok (.iconst 0, 1) := by decide +kernel
theorem d_Se_isPreferred_50 : decode prog_9_method_9_code 50 = .ok (.iload 5, 2) := by decide +kernel
theorem d_Se_isPreferred_52 : decode prog_9_method_9_code 52 = .ok (.iload 7, 2) := by decide +kernel
theorem d_Se_isPreferred_59 : decode prog_9_method_9_code 59 = .ok (.iload 5, 2) := by decide +kernel
theorem d_Se_isPreferred_61 : decode prog_9_method_9_code 61 = .ok (.iload 4, 2) := by decide +kernel
theorem d_Se_isPreferred_67 : decode prog_9_method_9_code 67 = .ok (.istore 8, 2) := by decide +kernel
theorem d_Se_isPreferred_69 : decode prog_9_method_9_code 69 = .ok (.aload_n 0, 1) := by decide +kernel
theorem d_Se_isPreferred_76 : decode prog_9_method_9_code 76 = .ok (.iload_n 2, 1) := by decide +kernel
theorem d_Se_isPreferred_78 : decode prog_9_method_9_code 78 = .ok (.iload 4, 2) := by decide +kernel
theorem d_Se_isPreferred_84 : decode prog_9_method_9_code 84 = .ok (.istore 9, 2) := by decide +kernel
theorem d_Se_isPreferred_86 : decode prog_9_method_9_code 86 = .ok (.iload 8, 2) := by decide +kernel
theorem d_Se_isPreferred_88 : decode prog_9_method_9_code 88 = .ok (.iload 9, 2) := by decide +kernel
theorem d_Se_isPreferred_117 : decode prog_9_method_9_code 117 = .ok (.ireturn, 1) := by decide +kernel
theorem d_Se_isPreferred_113 : decode prog_9_method_9_code 113 = .ok (.goto 4, 3) := by decide +kernel
theorem d_Se_isPreferred_112 : decode prog_9_method_9_code 112 = .ok (.iconst 1, 1) := by decide +kernel
theorem d_Se_isPreferred_93 : decode prog_9_method_9_code 93 = .ok (.iload 8, 2) := by decide +kernel
theorem d_Se_isPreferred_95 : decode prog_9_method_9_code 95 = .ok (.iload 9, 2) := by decide +kernel
theorem d_Se_isPreferred_116 : decode prog_9_method_9_code 116 = .ok (.iconst 0, 1) := by decide +kernel
theorem d_Se_isPreferred_100 : decode prog_9_method_9_code 100 = .ok (.aload_n 0, 1) := by decide +kernel
theorem d_Se_isPreferred_104 : decode prog_9_method_9_code 104 = .ok (.iload_n 1, 1) := by decide +kernel
theorem d_Se_isPreferred_105 : decode prog_9_method_9_code 105 = .ok (.iload_n 2, 1) := by decide +kernel
theorem d_Se_isPreferred_109 : decode prog_9_method_9_code 109 = .ok (.ifCond .eq 7, 3) := by decide +kernel
theorem d_Se_isPreferred_106 : decode prog_9_method_9_code 106 = .ok (.invokevirtual 159, 3) := by decide +kernel
theorem d_Se_isPreferred_101 : decode prog_9_method_9_code 101 = .ok (.getfield 31, 3) := by decide +kernel
theorem d_Se_isPreferred_97 : decode prog_9_method_9_code 97 = .ok (.if_icmp .ne 19, 3) := by decide +kernel
theorem d_Se_isPreferred_90 : decode prog_9_method_9_code 90 = .ok (.if_icmp .lt 22, 3) := by decide +kernel
theorem d_Se_isPreferred_81 : decode prog_9_method_9_code 81 = .ok (.invokestatic 153, 3) := by decide +kernel
theorem d_Se_isPreferred_80 : decode prog_9_method_9_code 80 = .ok (.isub, 1) := by decide +kernel
theorem d_Se_isPreferred_77 : decode prog_9_method_9_code 77 = .ok (.iaload, 1) := by decide +kernel
theorem d_Se_isPreferred_73 : decode prog_9_method_9_code 73 = .ok (.getfield 108, 3) := by decide +kernel
theorem d_Se_isPreferred_70 : decode prog_9_method_9_code 70 = .ok (.getfield 31, 3) := by decide +kernel
theorem d_Se_isPreferred_64 : decode prog_9_method_9_code 64 = .ok (.invokestatic 153, 3) := by decide +kernel
theorem d_Se_isPreferred_63 : decode prog_9_method_9_code 63 = .ok (.isub, 1) := by decide +kernel
theorem d_Se_isPreferred_54 : decode prog_9_method_9_code 54 = .ok (.if_icmp .le 5, 3) := by decide +kernel
theorem d_Se_isPreferred_47 : decode prog_9_method_9_code 47 = .ok (.if_icmp .lt 10, 3) := by decide +kernel
theorem d_Se_isPreferred_38 : decode prog_9_method_9_code 38 = .ok (.invokestatic 171, 3) := by decide +kernel
theorem d_Se_isPreferred_35 : decode prog_9_method_9_code 35 = .ok (.iaload, 1) := by decide +kernel
theorem d_Se_isPreferred_31 : decode prog_9_method_9_code 31 = .ok (.getfield 108, 3) := by decide +kernel
theorem d_Se_isPreferred_28 : decode prog_9_method_9_code 28 = .ok (.getfield 31, 3) := by decide +kernel
theorem d_Se_isPreferred_22 : decode prog_9_method_9_code 22 = .ok (.invokestatic 167, 3) := by decide +kernel
theorem d_Se_isPreferred_19 : decode prog_9_method_9_code 19 = .ok (.iaload, 1) := by decide +kernel
theorem d_Se_isPreferred_15 : decode prog_9_method_9_code 15 = .ok (.getfield 108, 3) := by decide +kernel
theorem d_Se_isPreferred_12 : decode prog_9_method_9_code 12 = .ok (.getfield 31, 3) := by decide +kernel
theorem d_Se_isPreferred_8 : decode prog_9_method_9_code 8 = .ok (.iaload, 1) := by decide +kernel
theorem d_Se_isPreferred_4 : decode prog_9_method_9_code 4 = .ok (.getfield 108, 3) := by decide +kernel
theorem d_Se_isPreferred_1 : decode prog_9_method_9_code 1 = .ok (.getfield 31, 3) := by decide +kernel
theorem d_Se_choose_81 : decode prog_9_method_8_code 81 = .ok (.iload 4, 2) := by decide +kernel
theorem d_Se_choose_83 : decode prog_9_method_8_code 83 = .ok (.aload_n 0, 1) := by decide +kernel
theorem d_Se_choose_114 : decode prog_9_method_8_code 114 = .ok (.aload_n 0, 1) := by decide +kernel
theorem d_Se_choose_134 : decode prog_9_method_8_code 134 = .ok (.iload_n 3, 1) := by decide +kernel
theorem d_Se_choose_139 : decode prog_9_method_8_code 139 = .ok (.ireturn, 1) := by decide +kernel
theorem d_Se_choose_135 : decode prog_9_method_8_code 135 = .ok (.goto 4, 3) := by decide +kernel
theorem d_Se_choose_121 : decode prog_9_method_8_code 121 = .ok (.aload_n 0, 1) := by decide +kernel
theorem d_Se_choose_128 : decode prog_9_method_8_code 128 = .ok (.iload_n 3, 1) := by decide +kernel
theorem d_Se_choose_130 : decode prog_9_method_8_code 130 = .ok (.iload_n 2, 1) := by decide +kernel
theorem d_Se_choose_138 : decode prog_9_method_8_code 138 = .ok (.iconst 0, 1) := by decide +kernel
theorem d_Se_choose_131 : decode prog_9_method_8_code 131 = .ok (.if_icmp .ne 7, 3) := by decide +kernel
theorem d_Se_choose_129 : decode prog_9_method_8_code 129 = .ok (.iaload, 1) := by decide +kernel
theorem d_Se_choose_125 : decode prog_9_method_8_code 125 = .ok (.getfield 108, 3) := by decide +kernel
theorem d_Se_choose_122 : decode prog_9_method_8_code 122 = .ok (.getfield 31, 3) := by decide +kernel
theorem d_Se_choose_118 : decode prog_9_method_8_code 118 = .ok (.ifCond .ne 16, 3) := by decide +kernel
theorem d_Se_choose_115 : decode prog_9_method_8_code 115 = .ok (.getfield 55, 3) := by decide +kernel
theorem d_Se_choose_93 : decode prog_9_method_8_code 93 = .ok (.aload_n 0, 1) := by decide +kernel
theorem d_Se_choose_94 : decode prog_9_method_8_code 94 = .ok (.iload 4, 2) := by decide +kernel
theorem d_Se_choose_96 : decode prog_9_method_8_code 96 = .ok (.iload_n 3, 1) := by decide +kernel
theorem d_Se_choose_97 : decode prog_9_method_8_code 97 = .ok (.iload_n 1, 1) := by decide +kernel
theorem d_Se_choose_98 : decode prog_9_method_8_code 98 = .ok (.iload_n 2, 1) := by decide +kernel
theorem d_Se_choose_111 : decode prog_9_method_8_code 111 = .ok (.goto (-30), 3) := by decide +kernel
theorem d_Se_choose_108 : decode prog_9_method_8_code 108 = .ok (.iinc 4 1, 3) := by decide +kernel
theorem d_Se_choose_105 : decode prog_9_method_8_code 105 = .ok (.iload 4, 2) := by decide +kernel
theorem d_Se_choose_107 : decode prog_9_method_8_code 107 = .ok (.istore_n 3, 1) := by decide +kernel
theorem d_Se_choose_102 : decode prog_9_method_8_code 102 = .ok (.ifCond .eq 6, 3) := by decide +kernel
theorem d_Se_choose_99 : decode prog_9_method_8_code 99 = .ok (.invokevirtual 163, 3) := by decide +kernel
theorem d_Se_choose_90 : decode prog_9_method_8_code 90 = .ok (.if_icmp .ge 24, 3) := by decide +kernel
theorem d_Se_choose_87 : decode prog_9_method_8_code 87 = .ok (.getfield 132, 3) := by decide +kernel
theorem d_Se_choose_84 : decode prog_9_method_8_code 84 = .ok (.getfield 31, 3) := by decide +kernel
theorem d_Se_choose_21 : decode prog_9_method_8_code 21 = .ok (.iload_n 2, 1) := by decide +kernel
theorem d_Se_choose_22 : decode prog_9_method_8_code 22 = .ok (.aload_n 0, 1) := by decide +kernel
theorem d_Se_choose_52 : decode prog_9_method_8_code 52 = .ok (.aload_n 0, 1) := by decide +kernel
theorem d_Se_choose_59 : decode prog_9_method_8_code 59 = .ok (.iload_n 1, 1) := by decide +kernel
theorem d_Se_choose_61 : decode prog_9_method_8_code 61 = .ok (.aload_n 0, 1) := by decide +kernel
theorem d_Se_choose_72 : decode prog_9_method_8_code 72 = .ok (.istore_n 2, 1) := by decide +kernel
theorem d_Se_choose_73 : decode prog_9_method_8_code 73 = .ok (.iload_n 1, 1) := by decide +kernel
theorem d_Se_choose_74 : decode prog_9_method_8_code 74 = .ok (.istore_n 3, 1) := by decide +kernel
theorem d_Se_choose_75 : decode prog_9_method_8_code 75 = .ok (.aload_n 0, 1) := by decide +kernel
theorem d_Se_choose_79 : decode prog_9_method_8_code 79 = .ok (.istore 4, 2) := by decide +kernel
theorem d_Se_choose_76 : decode prog_9_method_8_code 76 = .ok (.getfield 135, 3) := by decide +kernel
theorem d_Se_choose_71 : decode prog_9_method_8_code 71 = .ok (.iadd, 1) := by decide +kernel
theorem d_Se_choose_70 : decode prog_9_method_8_code 70 = .ok (.iaload, 1) := by decide +kernel
theorem d_Se_choose_68 : decode prog_9_method_8_code 68 = .ok (.bipush 9, 2) := by decide +kernel
theorem d_Se_choose_65 : decode prog_9_method_8_code 65 = .ok (.getfield 46, 3) := by decide +kernel
theorem d_Se_choose_62 : decode prog_9_method_8_code 62 = .ok (.getfield 15, 3) := by decide +kernel
theorem d_Se_choose_60 : decode prog_9_method_8_code 60 = .ok (.iaload, 1) := by decide +kernel
theorem d_Se_choose_56 : decode prog_9_method_8_code 56 = .ok (.getfield 108, 3) := by decide +kernel
theorem d_Se_choose_53 : decode prog_9_method_8_code 53 = .ok (.getfield 31, 3) := by decide +kernel
theorem d_Se_choose_32 : decode prog_9_method_8_code 32 = .ok (.aload_n 0, 1) := by decide +kernel
theorem d_Se_choose_36 : decode prog_9_method_8_code 36 = .ok (.iload_n 2, 1) := by decide +kernel
theorem d_Se_choose_37 : decode prog_9_method_8_code 37 = .ok (.iload_n 1, 1) := by decide +kernel
theorem d_Se_choose_49 : decode prog_9_method_8_code 49 = .ok (.goto (-28), 3) := by decide +kernel
theorem d_Se_choose_46 : decode prog_9_method_8_code 46 = .ok (.iinc 2 1, 3) := by decide +kernel
theorem d_Se_choose_44 : decode prog_9_method_8_code 44 = .ok (.iload_n 2, 1) := by decide +kernel
theorem d_Se_choose_45 : decode prog_9_method_8_code 45 = .ok (.istore_n 1, 1) := by decide +kernel
theorem d_Se_choose_41 : decode prog_9_method_8_code 41 = .ok (.ifCond .eq 5, 3) := by decide +kernel
theorem d_Se_choose_38 : decode prog_9_method_8_code 38 = .ok (.invokevirtual 159, 3) := by decide +kernel
theorem d_Se_choose_33 : decode prog_9_method_8_code 33 = .ok (.getfield 31, 3) := by decide +kernel
theorem d_Se_choose_29 : decode prog_9_method_8_code 29 = .ok (.if_icmp .ge 23, 3) := by decide +kernel
theorem d_Se_choose_26 : decode prog_9_method_8_code 26 = .ok (.getfield 132, 3) := by decide +kernel
theorem d_Se_choose_23 : decode prog_9_method_8_code 23 = .ok (.getfield 31, 3) := by decide +kernel
theorem d_Se_choose_0 : decode prog_9_method_8_code 0 = .ok (.aload_n 0, 1) := by decide +kernel
theorem d_Se_choose_9 : decode prog_9_method_8_code 9 = .ok (.aload_n 0, 1) := by decide +kernel
theorem d_Se_choose_13 : decode prog_9_method_8_code 13 = .ok (.istore_n 1, 1) := by decide +kernel
theorem d_Se_choose_14 : decode prog_9_method_8_code 14 = .ok (.aload_n 0, 1) := by decide +kernel
theorem d_Se_choose_20 : decode prog_9_method_8_code 20 = .ok (.istore_n 2, 1) := by decide +kernel
theorem d_Se_choose_19 : decode prog_9_method_8_code 19 = .ok (.iadd, 1) := by decide +kernel
theorem d_Se_choose_18 : decode prog_9_method_8_code 18 = .ok (.iconst 1, 1) := by decide +kernel
theorem d_Se_choose_15 : decode prog_9_method_8_code 15 = .ok (.getfield 135, 3) := by decide +kernel
theorem d_Se_choose_10 : decode prog_9_method_8_code 10 = .ok (.getfield 135, 3) := by decide +kernel
theorem d_Se_choose_8 : decode prog_9_method_8_code 8 = .ok (.ireturn, 1) := by decide +kernel
theorem d_Se_choose_7 : decode prog_9_method_8_code 7 = .ok (.iconst 0, 1) := by decide +kernel
theorem d_Se_choose_4 : decode prog_9_method_8_code 4 = .ok (.ifCond .ne 5, 3) := by decide +kernel
theorem d_Se_choose_1 : decode prog_9_method_8_code 1 = .ok (.getfield 66, 3) := by decide +kernel
theorem d_Se_run_137 : decode prog_9_method_2_code 137 = .ok (.aload_n 0, 1) := by decide +kernel
theorem d_Se_run_141 : decode prog_9_method_2_code 141 = .ok (.ireturn, 1) := by decide +kernel
theorem d_Se_run_138 : decode prog_9_method_2_code 138 = .ok (.invokevirtual 82, 3) := by decide +kernel
theorem d_Se_run_134 : decode prog_9_method_2_code 134 = .ok (.goto (-53), 3) := by decide +kernel
theorem d_Se_run_131 : decode prog_9_method_2_code 131 = .ok (.iinc 3 1, 3) := by decide +kernel
theorem d_Se_run_120 : decode prog_9_method_2_code 120 = .ok (.aload_n 0, 1) := by decide +kernel
theorem d_Se_run_121 : decode prog_9_method_2_code 121 = .ok (.iload_n 3, 1) := by decide +kernel
theorem d_Se_run_130 : decode prog_9_method_2_code 130 = .ok (.ireturn, 1) := by decide +kernel
theorem d_Se_run_128 : decode prog_9_method_2_code 128 = .ok (.bipush (-2), 2) := by decide +kernel
theorem d_Se_run_125 : decode prog_9_method_2_code 125 = .ok (.ifCond .ne 6, 3) := by decide +kernel
theorem d_Se_run_122 : decode prog_9_method_2_code 122 = .ok (.invokevirtual 78, 3) := by decide +kernel
theorem d_Se_run_117 : decode prog_9_method_2_code 117 = .ok (.ifCond .eq 14, 3) := by decide +kernel
theorem d_Se_run_114 : decode prog_9_method_2_code 114 = .ok (.invokevirtual 74, 3) := by decide +kernel
theorem d_Se_run_81 : decode prog_9_method_2_code 81 = .ok (.iload_n 3, 1) := by decide +kernel
theorem d_Se_run_82 : decode prog_9_method_2_code 82 = .ok (.aload_n 0, 1) := by decide +kernel
theorem d_Se_run_92 : decode prog_9_method_2_code 92 = .ok (.aload_n 0, 1) := by decide +kernel
theorem d_Se_run_99 : decode prog_9_method_2_code 99 = .ok (.aload_n 0, 1) := by decide +kernel
theorem d_Se_run_103 : decode prog_9_method_2_code 103 = .ok (.iload_n 3, 1) := by decide +kernel
theorem d_Se_run_104 : decode prog_9_method_2_code 104 = .ok (.iload_n 1, 1) := by decide +kernel
theorem d_Se_run_113 : decode prog_9_method_2_code 113 = .ok (.iconst 0, 1) := by decide +kernel
theorem d_Se_run_110 : decode prog_9_method_2_code 110 = .ok (.goto 4, 3) := by decide +kernel
theorem d_Se_run_109 : decode prog_9_method_2_code 109 = .ok (.iconst 1, 1) := by decide +kernel
theorem d_Se_run_106 : decode prog_9_method_2_code 106 = .ok (.if_icmp .le 7, 3) := by decide +kernel
theorem d_Se_run_105 : decode prog_9_method_2_code 105 = .ok (.iconst 1, 1) := by decide +kernel
theorem d_Se_run_100 : decode prog_9_method_2_code 100 = .ok (.getfield 9, 3) := by decide +kernel
theorem d_Se_run_96 : decode prog_9_method_2_code 96 = .ok (.ifCond .le 41, 3) := by decide +kernel
theorem d_Se_run_93 : decode prog_9_method_2_code 93 = .ok (.getfield 66, 3) := by decide +kernel
theorem d_Se_run_89 : decode prog_9_method_2_code 89 = .ok (.if_icmp .gt 48, 3) := by decide +kernel
theorem d_Se_run_86 : decode prog_9_method_2_code 86 = .ok (.getfield 69, 3) := by decide +kernel
theorem d_Se_run_83 : decode prog_9_method_2_code 83 = .ok (.getfield 9, 3) := by decide +kernel
theorem d_Se_run_53 : decode prog_9_method_2_code 53 = .ok (.aload_n 0, 1) := by decide +kernel
theorem d_Se_run_60 : decode prog_9_method_2_code 60 = .ok (.aload_n 0, 1) := by decide +kernel
theorem d_Se_run_67 : decode prog_9_method_2_code 67 = .ok (.aload_n 0, 1) := by decide +kernel
theorem d_Se_run_74 : decode prog_9_method_2_code 74 = .ok (.aload_n 0, 1) := by decide +kernel
theorem d_Se_run_80 : decode prog_9_method_2_code 80 = .ok (.istore_n 3, 1) := by decide +kernel
theorem d_Se_run_79 : decode prog_9_method_2_code 79 = .ok (.iconst 0, 1) := by decide +kernel
theorem d_Se_run_76 : decode prog_9_method_2_code 76 = .ok (.putfield 66, 3) := by decide +kernel
theorem d_Se_run_75 : decode prog_9_method_2_code 75 = .ok (.iconst 1, 1) := by decide +kernel
theorem d_Se_run_73 : decode prog_9_method_2_code 73 = .ok (.iastore, 1) := by decide +kernel
theorem d_Se_run_72 : decode prog_9_method_2_code 72 = .ok (.iconst 0, 1) := by decide +kernel
theorem d_Se_run_71 : decode prog_9_method_2_code 71 = .ok (.iconst 0, 1) := by decide +kernel
theorem d_Se_run_68 : decode prog_9_method_2_code 68 = .ok (.getfield 42, 3) := by decide +kernel
theorem d_Se_run_64 : decode prog_9_method_2_code 64 = .ok (.invokevirtual 65, 3) := by decide +kernel
theorem d_Se_run_61 : decode prog_9_method_2_code 61 = .ok (.getfield 38, 3) := by decide +kernel
theorem d_Se_run_57 : decode prog_9_method_2_code 57 = .ok (.invokevirtual 63, 3) := by decide +kernel
theorem d_Se_run_54 : decode prog_9_method_2_code 54 = .ok (.getfield 31, 3) := by decide +kernel
theorem d_Se_run_50 : decode prog_9_method_2_code 50 = .ok (.invokevirtual 59, 3) := by decide +kernel
theorem d_Se_run_22 : decode prog_9_method_2_code 22 = .ok (.aload_n 0, 1) := by decide +kernel
theorem d_Se_run_23 : decode prog_9_method_2_code 23 = .ok (.iload_n 2, 1) := by decide +kernel
theorem d_Se_run_27 : decode prog_9_method_2_code 27 = .ok (.aload_n 0, 1) := by decide +kernel
theorem d_Se_run_31 : decode prog_9_method_2_code 31 = .ok (.iload_n 1, 1) := by decide +kernel
theorem d_Se_run_49 : decode prog_9_method_2_code 49 = .ok (.iconst 0, 1) := by decide +kernel
theorem d_Se_run_36 : decode prog_9_method_2_code 36 = .ok (.aload_n 0, 1) := by decide +kernel
theorem d_Se_run_46 : decode prog_9_method_2_code 46 = .ok (.goto 4, 3) := by decide +kernel
theorem d_Se_run_45 : decode prog_9_method_2_code 45 = .ok (.iaload, 1) := by decide +kernel
theorem d_Se_run_43 : decode prog_9_method_2_code 43 = .ok (.bipush 8, 2) := by decide +kernel
theorem d_Se_run_40 : decode prog_9_method_2_code 40 = .ok (.getfield 46, 3) := by decide +kernel
theorem d_Se_run_37 : decode prog_9_method_2_code 37 = .ok (.getfield 15, 3) := by decide +kernel
theorem d_Se_run_33 : decode prog_9_method_2_code 33 = .ok (.if_icmp .ne 16, 3) := by decide +kernel
theorem d_Se_run_32 : decode prog_9_method_2_code 32 = .ok (.iconst 3, 1) := by decide +kernel
theorem d_Se_run_28 : decode prog_9_method_2_code 28 = .ok (.getfield 24, 3) := by decide +kernel
theorem d_Se_run_24 : decode prog_9_method_2_code 24 = .ok (.putfield 55, 3) := by decide +kernel
theorem d_Se_run_19 : decode prog_9_method_2_code 19 = .ok (.putfield 51, 3) := by decide +kernel
theorem d_Se_run_18 : decode prog_9_method_2_code 18 = .ok (.iaload, 1) := by decide +kernel
theorem d_Se_run_0 : decode prog_9_method_2_code 0 = .ok (.aload_n 0, 1) := by decide +kernel
theorem d_Se_run_1 : decode prog_9_method_2_code 1 = .ok (.aload_n 0, 1) := by decide +kernel
theorem d_Se_run_8 : decode prog_9_method_2_code 8 = .ok (.iload_n 1, 1) := by decide +kernel
theorem d_Se_run_17 : decode prog_9_method_2_code 17 = .ok (.iconst 1, 1) := by decide +kernel
theorem d_Se_run_14 : decode prog_9_method_2_code 14 = .ok (.goto 4, 3) := by decide +kernel
theorem d_Se_run_13 : decode prog_9_method_2_code 13 = .ok (.iconst 0, 1) := by decide +kernel
theorem d_Se_run_10 : decode prog_9_method_2_code 10 = .ok (.if_icmp .ne 7, 3) := by decide +kernel
theorem d_Se_run_9 : decode prog_9_method_2_code 9 = .ok (.iconst 1, 1) := by decide +kernel
theorem d_Se_run_5 : decode prog_9_method_2_code 5 = .ok (.getfield 46, 3) := by decide +kernel
theorem d_Se_run_2 : decode prog_9_method_2_code 2 = .ok (.getfield 15, 3) := by decide +kernel
abbrev y_Gu_start : MethodName := ⟨"LineBreaker$Gauge", "start", "(I)V"⟩
abbrev rm_Gu_start : Room := { frames := 0, cells := 0, slots := 0, locals := 0 }
set_option maxRecDepth 100000 in
def wp_Gu_start (S : ST) (p1 : Int32) (post : Int32 → Int32 → Prop) : Prop := post p1 (-1)
abbrev y_No_start : MethodName := ⟨"LineBreaker$Nodes", "start", "()V"⟩
abbrev rm_No_start : Room := { frames := 0, cells := 0, slots := 0, locals := 0 }
set_option maxRecDepth 100000 in
def wp_No_start (S : ST) (post : (Nat → Int32) → (Nat → Int32) → (Nat → Int32) → (Nat → Int32) → (Nat → Int64) → Int32 → Prop) : Prop := (vp_in 0 8001 ∧ ∀ f1 : Nat → Int32, f1 = upd (S.1 32) ((0 : Int32).toNatClampNeg) (-1) → (vp_in 0 8001 ∧ ∀ f2 : Nat → Int32, f2 = upd (S.1 33) ((0 : Int32).toNatClampNeg) 0 → (vp_in 0 8001 ∧ ∀ f3 : Nat → Int32, f3 = upd (S.1 34) ((0 : Int32).toNatClampNeg) 2 → (vp_in 0 8001 ∧ ∀ f4 : Nat → Int32, f4 = upd (S.1 35) ((0 : Int32).toNatClampNeg) 0 → (vp_in 0 8001 ∧ ∀ f5 : Nat → Int64, f5 = vp_updL (S.2.1 36) ((0 : Int32).toNatClampNeg) 0 → post f1 f2 f3 f4 f5 1)))))
abbrev y_Ar_fill : MethodName := ⟨"java/util/Arrays", "fill", "([II)V"⟩
abbrev rm_Ar_fill : Room := { frames := 0, cells := 0, slots := 0, locals := 0 }
set_option maxRecDepth 100000 in
def wl_Ar_fill_5 (S : ST) (post : (Nat → Int32) → Prop) : Nat → (Nat → Int32) → Int32 → Int32 → Int32 → Prop
  | 0, _, _, _, _ => False
  | n + 1, a39, x1, x2, x3 => ((x3 ≤ x2 → post a39) ∧ (¬ x3 ≤ x2 → (vp_in x2 1608 ∧ ∀ f1 : Nat → Int32, f1 = upd a39 x2.toNatClampNeg x1 → (∀ v2 : Int32, v2 = x2 + 1 → wl_Ar_fill_5 S post n f1 x1 v2 x3))))
set_option maxRecDepth 100000 in
def wp_Ar_fill (S : ST) (p2 : Int32) (post : (Nat → Int32) → Prop) : Prop := (∃ k9 : Nat, wl_Ar_fill_5 S post  k9 (S.1 39) p2 0 1608)
abbrev y_Of_start : MethodName := ⟨"LineBreaker$Offers", "start", "()V"⟩
abbrev rm_Of_start : Room := { frames := 1, cells := 0, slots := 0, locals := 23 }
set_option maxRecDepth 100000 in
def wp_Of_start (S : ST) (post : (Nat → Int32) → Int32 → Int32 → Prop) : Prop := wp_Ar_fill S (-1) (fun f1 => post f1 401 0)
abbrev y_Ga_isPlace : MethodName := ⟨"LineBreaker$Galley", "isPlace", "(IZ)Z"⟩
abbrev rm_Ga_isPlace : Room := { frames := 0, cells := 0, slots := 0, locals := 0 }
set_option maxRecDepth 100000 in
def wp_Ga_isPlace (S : ST) (p1 : Int32) (p2 : Int32) (post : Int32 → Prop) : Prop := (vp_in p1 403 ∧ ((((S.1 20) p1.toNatClampNeg) = 0 → post 0) ∧ (¬ ((S.1 20) p1.toNatClampNeg) = 0 → ((¬ p2 = 0 → post 1) ∧ (p2 = 0 → (vp_in p1 403 ∧ ((((S.1 18) p1.toNatClampNeg) = 5 → post 0) ∧ (¬ ((S.1 18) p1.toNatClampNeg) = 5 → post 1))))))))
abbrev y_Ga_isHyphen : MethodName := ⟨"LineBreaker$Galley", "isHyphen", "(I)Z"⟩
abbrev rm_Ga_isHyphen : Room := { frames := 0, cells := 0, slots := 0, locals := 0 }
set_option maxRecDepth 100000 in
def wp_Ga_isHyphen (S : ST) (p1 : Int32) (post : Int32 → Prop) : Prop := ((p1 = (-1) → post 0) ∧ (¬ p1 = (-1) → (vp_in p1 403 ∧ ((¬ ((S.1 18) p1.toNatClampNeg) = 5 → post 0) ∧ (((S.1 18) p1.toNatClampNeg) = 5 → post 1)))))
abbrev y_Se_demerits : MethodName := ⟨"LineBreaker$Search", "demerits", "(II)J"⟩
abbrev rm_Se_demerits : Room := { frames := 1, cells := 0, slots := 0, locals := 29 }
set_option maxRecDepth 100000 in
def wl_Se_demerits_164 (S : ST) (post : Int64 → Prop) (x1 : Int32) (x5 : Int64) : Prop := (vp_in x1 8001 ∧ (∀ v1 : Int32, v1 = (if (0 : Int32) ≤ (((S.1 34) x1.toNatClampNeg) - (S.2.2 1925)) then (((S.1 34) x1.toNatClampNeg) - (S.2.2 1925)) else 0 - (((S.1 34) x1.toNatClampNeg) - (S.2.2 1925))) → ((v1 ≤ 1 → post x5) ∧ (¬ v1 ≤ 1 → (vp_in 7 10 ∧ (∀ v2 : Int64, v2 = (x5 + (((S.1 12) (7 : Int32).toNatClampNeg).toInt64)) → post v2))))))
set_option maxRecDepth 100000 in
def wl_Se_demerits_89 (S : ST) (post : Int64 → Prop) (x1 : Int32) (x2 : Int32) (x5 : Int64) : Prop := (vp_in x1 8001 ∧ wp_Ga_isHyphen S ((S.1 32) x1.toNatClampNeg) (fun r1 => ((r1 = 0 → wl_Se_demerits_164 S post  x1 x5) ∧ (¬ r1 = 0 → wp_Ga_isHyphen S x2 (fun r2 => ((r2 = 0 → ((¬ x2 = (S.2.2 1099) → wl_Se_demerits_164 S post  x1 x5) ∧ (x2 = (S.2.2 1099) → (vp_in 6 10 ∧ (∀ v3 : Int64, v3 = (x5 + (((S.1 12) (6 : Int32).toNatClampNeg).toInt64)) → wl_Se_demerits_164 S post  x1 v3))))) ∧ (¬ r2 = 0 → (vp_in 5 10 ∧ (∀ v4 : Int64, v4 = (x5 + (((S.1 12) (5 : Int32).toNatClampNeg).toInt64)) → wl_Se_demerits_164 S post  x1 v4)))))))))
set_option maxRecDepth 100000 in
def wl_Se_demerits_36 (S : ST) (post : Int64 → Prop) (x1 : Int32) (x2 : Int32) (z0 : Int64) : Prop := (vp_in x2 403 ∧ (∀ v1 : Int64, v1 = (((S.1 19) x2.toNatClampNeg).toInt64) → (((lg_cmp v1 0) ≤ 0 → (((lg_cmp v1 (-10000)) = 0 → wl_Se_demerits_89 S post  x1 x2 z0) ∧ (¬ (lg_cmp v1 (-10000)) = 0 → (∀ v2 : Int64, v2 = (z0 - (v1 * v1)) → wl_Se_demerits_89 S post  x1 x2 v2)))) ∧ (¬ (lg_cmp v1 0) ≤ 0 → (∀ v3 : Int64, v3 = (z0 + (v1 * v1)) → wl_Se_demerits_89 S post  x1 x2 v3)))))
set_option maxRecDepth 100000 in
def wp_Se_demerits (S : ST) (p1 : Int32) (p2 : Int32) (post : Int64 → Prop) : Prop := (vp_in 2 10 ∧ (∀ v1 : Int64, v1 = ((((S.1 12) (2 : Int32).toNatClampNeg) + (S.2.2 1924)).toInt64) → (((lg_cmp v1 10000) < 0 → wl_Se_demerits_36 S post  p1 p2 (v1 * v1)) ∧ (¬ (lg_cmp v1 10000) < 0 → wl_Se_demerits_36 S post  p1 p2 100000000))))
abbrev y_Of_take : MethodName := ⟨"LineBreaker$Offers", "take", "(IIIJ)V"⟩
abbrev rm_Of_take : Room := { frames := 1, cells := 0, slots := 0, locals := 29 }
set_option maxRecDepth 100000 in
def wl_Of_take_48 (S : ST) (post : (Nat → Int32) → (Nat → Int64) → Int32 → Int32 → Prop) (a39 : (Nat → Int32)) (l38 : (Nat → Int64)) (x2 : Int32) : Prop := (∀ v1 : Int32, v1 = (if x2 < (S.2.2 2370) then x2 else (S.2.2 2370)) → (∀ v2 : Int32, v2 = (if (S.2.2 2371) < x2 then x2 else (S.2.2 2371)) → post a39 l38 v1 v2))
set_option maxRecDepth 100000 in
def wl_Of_take_31 (S : ST) (post : (Nat → Int32) → (Nat → Int64) → Int32 → Int32 → Prop) (x1 : Int32) (x2 : Int32) (x4 : Int64) (x6 : Int32) : Prop := (vp_in x6 1608 ∧ ∀ f1 : Nat → Int32, f1 = upd (S.1 39) x6.toNatClampNeg x1 → (vp_in x6 1608 ∧ ∀ f2 : Nat → Int64, f2 = vp_updL (S.2.1 38) x6.toNatClampNeg x4 → wl_Of_take_48 S post  f1 f2 x2))
set_option maxRecDepth 100000 in
def wp_Of_take (S : ST) (p1 : Int32) (p2 : Int32) (p3 : Int32) (p4 : Int64) (post : (Nat → Int32) → (Nat → Int64) → Int32 → Int32 → Prop) : Prop := (∀ v1 : Int32, v1 = ((p2 * 4) + p3) → (vp_in v1 1608 ∧ ((((S.1 39) v1.toNatClampNeg) = (-1) → wl_Of_take_31 S post  p1 p2 p4 v1) ∧ (¬ ((S.1 39) v1.toNatClampNeg) = (-1) → (vp_in v1 1608 ∧ ((0 ≤ (lg_cmp p4 ((S.2.1 38) v1.toNatClampNeg)) → wl_Of_take_48 S post  (S.1 39) (S.2.1 38) p2) ∧ (¬ 0 ≤ (lg_cmp p4 ((S.2.1 38) v1.toNatClampNeg)) → wl_Of_take_31 S post  p1 p2 p4 v1)))))))
abbrev y_Se_offerFrom : MethodName := ⟨"LineBreaker$Search", "offerFrom", "(IJ)V"⟩
abbrev rm_Se_offerFrom : Room := { frames := 2, cells := 0, slots := 0, locals := 55 }
set_option maxRecDepth 100000 in
def wp_Se_offerFrom (S : ST) (p1 : Int32) (p2 : Int64) (post : (Nat → Int32) → (Nat → Int64) → Int32 → Int32 → Prop) : Prop := (vp_in p1 8001 ∧ wp_Of_take S p1 (((S.1 33) p1.toNatClampNeg) + 1) (S.2.2 1925) p2 (fun f1 f2 v3 v4 => post f1 f2 v3 v4))
abbrev y_Of_isEmpty : MethodName := ⟨"LineBreaker$Offers", "isEmpty", "()Z"⟩
abbrev rm_Of_isEmpty : Room := { frames := 0, cells := 0, slots := 0, locals := 0 }
set_option maxRecDepth 100000 in
def wp_Of_isEmpty (S : ST) (post : Int32 → Prop) : Prop := (((S.2.2 2370) ≤ (S.2.2 2371) → post 0) ∧ (¬ (S.2.2 2370) ≤ (S.2.2 2371) → post 1))
abbrev y_No_isFull : MethodName := ⟨"LineBreaker$Nodes", "isFull", "()Z"⟩
abbrev rm_No_isFull : Room := { frames := 0, cells := 0, slots := 0, locals := 0 }
set_option maxRecDepth 100000 in
def wp_No_isFull (S : ST) (post : Int32 → Prop) : Prop := (((S.2.2 1989) ≤ 8000 → post 0) ∧ (¬ (S.2.2 1989) ≤ 8000 → post 1))
abbrev y_Of_turnInto : MethodName := ⟨"LineBreaker$Offers", "turnInto", "(LLineBreaker$Nodes;I)Z"⟩
abbrev rm_Of_turnInto : Room := { frames := 1, cells := 0, slots := 0, locals := 20 }
set_option maxRecDepth 100000 in
def wl_Of_turnInto_16 (S : ST) (post : Int32 → (Nat → Int32) → (Nat → Int32) → (Nat → Int32) → (Nat → Int32) → (Nat → Int32) → (Nat → Int64) → Int32 → Int32 → Int32 → Prop) (K5 : (Nat → Int32) → (Nat → Int32) → (Nat → Int32) → (Nat → Int32) → (Nat → Int32) → (Nat → Int64) → Int32 → Int32 → Int32 → Prop) : Nat → (Nat → Int32) → (Nat → Int32) → (Nat → Int32) → (Nat → Int32) → (Nat → Int32) → (Nat → Int64) → Int32 → Int32 → Int32 → Int32 → Prop
  | 0, _, _, _, _, _, _, _, _, _, _ => False
  | n + 1, a32, a33, a34, a35, a39, l36, i1989, x2, x3, x4 => ((x4 < 0 → (∀ v1 : Int32, v1 = x3 + 1 → K5 a32 a33 a34 a35 a39 l36 i1989 x2 v1)) ∧ (¬ x4 < 0 → (∀ v2 : Int32, v2 = ((x3 * 4) + x4) → (vp_in v2 1608 ∧ ((¬ (a39 v2.toNatClampNeg) = (-1) → wp_No_isFull (sI (sL (sA (sA (sA (sA (sA S 32 a32) 33 a33) 34 a34) 35 a35) 39 a39) 36 l36) 1989 i1989)  (fun r3 => ((r3 = 0 → (vp_in i1989 8001 ∧ ∀ f4 : Nat → Int32, f4 = upd a32 i1989.toNatClampNeg x2 → (vp_in i1989 8001 ∧ ∀ f5 : Nat → Int32, f5 = upd a33 i1989.toNatClampNeg x3 → (vp_in i1989 8001 ∧ ∀ f6 : Nat → Int32, f6 = upd a34 i1989.toNatClampNeg x4 → (vp_in v2 1608 ∧ (vp_in i1989 8001 ∧ ∀ f7 : Nat → Int32, f7 = upd a35 i1989.toNatClampNeg (a39 v2.toNatClampNeg) → (vp_in v2 1608 ∧ (vp_in i1989 8001 ∧ ∀ f8 : Nat → Int64, f8 = vp_updL l36 i1989.toNatClampNeg ((S.2.1 38) v2.toNatClampNeg) → (∀ v9 : Int32, v9 = (i1989 + 1) → (vp_in v2 1608 ∧ ∀ f10 : Nat → Int32, f10 = upd a39 v2.toNatClampNeg (-1) → (∀ v11 : Int32, v11 = x4 + (-1) → wl_Of_turnInto_16 S post K5 n f4 f5 f6 f7 f10 f8 v9 x2 x3 v11))))))))))) ∧ (¬ r3 = 0 → post 0 a32 a33 a34 a35 a39 l36 i1989 (S.2.2 2370) (S.2.2 2371))))) ∧ ((a39 v2.toNatClampNeg) = (-1) → (∀ v12 : Int32, v12 = x4 + (-1) → wl_Of_turnInto_16 S post K5 n a32 a33 a34 a35 a39 l36 i1989 x2 x3 v12)))))))
set_option maxRecDepth 100000 in
def wl_Of_turnInto_5 (S : ST) (post : Int32 → (Nat → Int32) → (Nat → Int32) → (Nat → Int32) → (Nat → Int32) → (Nat → Int32) → (Nat → Int64) → Int32 → Int32 → Int32 → Prop) : Nat → (Nat → Int32) → (Nat → Int32) → (Nat → Int32) → (Nat → Int32) → (Nat → Int32) → (Nat → Int64) → Int32 → Int32 → Int32 → Prop
  | 0, _, _, _, _, _, _, _, _, _ => False
  | n + 1, a32, a33, a34, a35, a39, l36, i1989, x2, x3 => (((S.2.2 2371) < x3 → post 1 a32 a33 a34 a35 a39 l36 i1989 401 0) ∧ (¬ (S.2.2 2371) < x3 → (∃ k9 : Nat, wl_Of_turnInto_16 S post (fun a32 a33 a34 a35 a39 l36 i1989 x2 x3 => wl_Of_turnInto_5 S post n a32 a33 a34 a35 a39 l36 i1989 x2 x3) k9 a32 a33 a34 a35 a39 l36 i1989 x2 x3 3)))
set_option maxRecDepth 100000 in
def wp_Of_turnInto (S : ST) (p2 : Int32) (post : Int32 → (Nat → Int32) → (Nat → Int32) → (Nat → Int32) → (Nat → Int32) → (Nat → Int32) → (Nat → Int64) → Int32 → Int32 → Int32 → Prop) : Prop := (∀ v1 : Int32, v1 = (S.2.2 2370) → (∃ k9 : Nat, wl_Of_turnInto_5 S post  k9 (S.1 32) (S.1 33) (S.1 34) (S.1 35) (S.1 39) (S.2.1 36) (S.2.2 1989) p2 v1))
abbrev y_Se_settle : MethodName := ⟨"LineBreaker$Search", "settle", "(I)Z"⟩
abbrev rm_Se_settle : Room := { frames := 2, cells := 0, slots := 0, locals := 46 }
set_option maxRecDepth 100000 in
def wl_Se_settle_33 (S : ST) (post : Int32 → (Nat → Int32) → (Nat → Int32) → (Nat → Int32) → (Nat → Int32) → (Nat → Int32) → (Nat → Int32) → (Nat → Int64) → Int32 → Int32 → Int32 → Int32 → Int32 → Prop) : Nat → (Nat → Int32) → (Nat → Int32) → (Nat → Int32) → (Nat → Int32) → (Nat → Int32) → (Nat → Int32) → (Nat → Int64) → Int32 → Int32 → Int32 → Int32 → Int32 → Int32 → Prop
  | 0, _, _, _, _, _, _, _, _, _, _, _, _, _ => False
  | n + 1, a32, a33, a34, a35, a39, a40, l36, i1862, i1863, i1989, i2370, i2371, x2 => ((i1989 ≤ x2 → post 1 a32 a33 a34 a35 a39 a40 l36 i1862 i1863 i1989 i2370 i2371) ∧ (¬ i1989 ≤ x2 → (vp_in i1862 8001 ∧ ∀ f1 : Nat → Int32, f1 = upd a40 i1862.toNatClampNeg x2 → (∀ v2 : Int32, v2 = (i1862 + 1) → (∀ v3 : Int32, v3 = x2 + 1 → wl_Se_settle_33 S post n a32 a33 a34 a35 a39 f1 l36 v2 i1863 i1989 i2370 i2371 v3)))))
set_option maxRecDepth 100000 in
def wp_Se_settle (S : ST) (p1 : Int32) (post : Int32 → (Nat → Int32) → (Nat → Int32) → (Nat → Int32) → (Nat → Int32) → (Nat → Int32) → (Nat → Int32) → (Nat → Int64) → Int32 → Int32 → Int32 → Int32 → Int32 → Prop) : Prop := (∀ v1 : Int32, v1 = (S.2.2 1989) → wp_Of_turnInto (sI S 1863 v1) p1 (fun r11 f2 f3 f4 f5 f6 f7 v8 v9 v10 => ((¬ r11 = 0 → (∃ k9 : Nat, wl_Se_settle_33 S post  k9 f2 f3 f4 f5 f6 (S.1 40) f7 (S.2.2 1862) v1 v8 v9 v10 v1)) ∧ (r11 = 0 → post 0 f2 f3 f4 f5 f6 (S.1 40) f7 (S.2.2 1862) v1 v8 v9 v10))))
abbrev y_Se_visit : MethodName := ⟨"LineBreaker$Search", "visit", "(I)Z"⟩
abbrev rm_Se_visit : Room := { frames := 4, cells := 0, slots := 0, locals := 103 }
set_option maxRecDepth 100000 in
def wl_Se_visit_217 (S : ST) (post : Int32 → (Nat → Int32) → (Nat → Int32) → (Nat → Int32) → (Nat → Int32) → (Nat → Int32) → (Nat → Int32) → (Nat → Int64) → (Nat → Int64) → Int32 → Int32 → Int32 → Int32 → Int32 → Int32 → Int32 → Int32 → Int32 → Int32 → Int32 → Prop) (a39 : (Nat → Int32)) (a40 : (Nat → Int32)) (l38 : (Nat → Int64)) (i1862 : Int32) (i1923 : Int32) (i1924 : Int32) (i1925 : Int32) (i1926 : Int32) (i1927 : Int32) (i1928 : Int32) (i2370 : Int32) (i2371 : Int32) (x1 : Int32) : Prop := wp_Se_settle (sI (sI (sI (sI (sI (sI (sI (sI (sI (sL (sA (sA S 39 a39) 40 a40) 38 l38) 1862 i1862) 1923 i1923) 1924 i1924) 1925 i1925) 1926 i1926) 1927 i1927) 1928 i1928) 2370 i2370) 2371 i2371) x1 (fun r13 f1 f2 f3 f4 f5 f6 f7 v8 v9 v10 v11 v12 => ((r13 = 0 ∨ r13 = 1) ∧ post r13 f1 f2 f3 f4 f5 f6 f7 l38 v8 v9 i1923 i1924 i1925 i1926 i1927 i1928 v10 v11 v12))
set_option maxRecDepth 100000 in
def wl_Se_visit_123 (S : ST) (post : Int32 → (Nat → Int32) → (Nat → Int32) → (Nat → Int32) → (Nat → Int32) → (Nat → Int32) → (Nat → Int32) → (Nat → Int64) → (Nat → Int64) → Int32 → Int32 → Int32 → Int32 → Int32 → Int32 → Int32 → Int32 → Int32 → Int32 → Int32 → Prop) (K29 : (Nat → Int32) → (Nat → Int32) → (Nat → Int64) → Int32 → Int32 → Int32 → Int32 → Int32 → Int32 → Int32 → Int32 → Int32 → Int32 → Int32 → Int32 → Int32 → Prop) (a39 : (Nat → Int32)) (a40 : (Nat → Int32)) (l38 : (Nat → Int64)) (i1923 : Int32) (i1924 : Int32) (i1925 : Int32) (i1926 : Int32) (i1927 : Int32) (i1928 : Int32) (i2370 : Int32) (i2371 : Int32) (x1 : Int32) (x2 : Int32) (x3 : Int32) (x4 : Int32) (x5 : Int32) (x6 : Int32) : Prop := ((x4 = (-1) → (∀ v1 : Int32, v1 = x5 + 1 → K29 a39 a40 l38 i1923 i1924 i1925 i1926 i1927 i1928 i2370 i2371 x1 x2 x3 x6 v1)) ∧ (¬ x4 = (-1) → (vp_in x6 8001 ∧ (vp_in x4 8001 ∧ ((((S.1 33) x6.toNatClampNeg) ≤ ((S.1 33) x4.toNatClampNeg) → (∀ v2 : Int32, v2 = x5 + 1 → K29 a39 a40 l38 i1923 i1924 i1925 i1926 i1927 i1928 i2370 i2371 x1 x2 x3 x4 v2)) ∧ (¬ ((S.1 33) x6.toNatClampNeg) ≤ ((S.1 33) x4.toNatClampNeg) → (∀ v3 : Int32, v3 = x5 + 1 → K29 a39 a40 l38 i1923 i1924 i1925 i1926 i1927 i1928 i2370 i2371 x1 x2 x3 x6 v3)))))))
set_option maxRecDepth 100000 in
def wl_Se_visit_92 (S : ST) (post : Int32 → (Nat → Int32) → (Nat → Int32) → (Nat → Int32) → (Nat → Int32) → (Nat → Int32) → (Nat → Int32) → (Nat → Int64) → (Nat → Int64) → Int32 → Int32 → Int32 → Int32 → Int32 → Int32 → Int32 → Int32 → Int32 → Int32 → Int32 → Prop) (K29 : (Nat → Int32) → (Nat → Int32) → (Nat → Int64) → Int32 → Int32 → Int32 → Int32 → Int32 → Int32 → Int32 → Int32 → Int32 → Int32 → Int32 → Int32 → Int32 → Prop) (a39 : (Nat → Int32)) (a40 : (Nat → Int32)) (l38 : (Nat → Int64)) (i1923 : Int32) (i1924 : Int32) (i1925 : Int32) (i1926 : Int32) (i1927 : Int32) (i1928 : Int32) (i2370 : Int32) (i2371 : Int32) (x1 : Int32) (x2 : Int32) (x3 : Int32) (x4 : Int32) (x5 : Int32) (x6 : Int32) : Prop := ((¬ x2 = 0 → wl_Se_visit_123 S post K29 a39 a40 l38 i1923 i1924 i1925 i1926 i1927 i1928 i2370 i2371 x1 x2 x3 x4 x5 x6) ∧ (x2 = 0 → ((i1924 = 10001 → wl_Se_visit_123 S post K29 a39 a40 l38 i1923 i1924 i1925 i1926 i1927 i1928 i2370 i2371 x1 x2 x3 x4 x5 x6) ∧ (¬ i1924 = 10001 → (vp_in x3 8001 ∧ ∀ f1 : Nat → Int32, f1 = upd a40 x3.toNatClampNeg x6 → (∀ v2 : Int32, v2 = x3 + 1 → (∀ v3 : Int32, v3 = x5 + 1 → K29 a39 f1 l38 i1923 i1924 i1925 i1926 i1927 i1928 i2370 i2371 x1 x2 v2 x4 v3)))))))
set_option maxRecDepth 100000 in
def wl_Se_visit_29 (S : ST) (post : Int32 → (Nat → Int32) → (Nat → Int32) → (Nat → Int32) → (Nat → Int32) → (Nat → Int32) → (Nat → Int32) → (Nat → Int64) → (Nat → Int64) → Int32 → Int32 → Int32 → Int32 → Int32 → Int32 → Int32 → Int32 → Int32 → Int32 → Int32 → Prop) : Nat → (Nat → Int32) → (Nat → Int32) → (Nat → Int64) → Int32 → Int32 → Int32 → Int32 → Int32 → Int32 → Int32 → Int32 → Int32 → Int32 → Int32 → Int32 → Int32 → Prop
  | 0, _, _, _, _, _, _, _, _, _, _, _, _, _, _, _, _ => False
  | n + 1, a39, a40, l38, i1923, i1924, i1925, i1926, i1927, i1928, i2370, i2371, x1, x2, x3, x4, x5 => (((S.2.2 1862) ≤ x5 → (((S.2.2 1865) = 0 → wl_Se_visit_217 S post  a39 a40 l38 x3 i1923 i1924 i1925 i1926 i1927 i1928 i2370 i2371 x1) ∧ (¬ (S.2.2 1865) = 0 → ((¬ x3 = 0 → wl_Se_visit_217 S post  a39 a40 l38 x3 i1923 i1924 i1925 i1926 i1927 i1928 i2370 i2371 x1) ∧ (x3 = 0 → wp_Of_isEmpty (sI (sI (sI (sI (sI (sI (sI (sI (sI (sL (sA (sA S 39 a39) 40 a40) 38 l38) 1862 x3) 1923 i1923) 1924 i1924) 1925 i1925) 1926 i1926) 1927 i1927) 1928 i1928) 2370 i2370) 2371 i2371)  (fun r1 => ((r1 = 0 → wl_Se_visit_217 S post  a39 a40 l38 x3 i1923 i1924 i1925 i1926 i1927 i1928 i2370 i2371 x1) ∧ (¬ r1 = 0 → ((x4 = (-1) → wl_Se_visit_217 S post  a39 a40 l38 x3 i1923 i1924 i1925 i1926 i1927 i1928 i2370 i2371 x1) ∧ (¬ x4 = (-1) → wp_Se_measureFrom (sI (sI (sI (sI (sI (sI (sI (sI (sI (sL (sA (sA S 39 a39) 40 a40) 38 l38) 1862 x3) 1923 i1923) 1924 i1924) 1925 i1925) 1926 i1926) 1927 i1927) 1928 i1928) 2370 i2370) 2371 i2371) x4 x1 (fun v2 v3 v4 v5 v6 v7 => (vp_in x4 8001 ∧ wp_Se_offerFrom (sI (sI (sI (sI (sI (sI (sI (sI (sI (sL (sA (sA S 39 a39) 40 a40) 38 l38) 1862 x3) 1923 v2) 1924 v3) 1925 v4) 1926 v5) 1927 v6) 1928 v7) 2370 i2370) 2371 i2371) x4 ((S.2.1 36) x4.toNatClampNeg) (fun f8 f9 v10 v11 => wl_Se_visit_217 S post  f8 a40 f9 x3 v2 v3 v4 v5 v6 v7 v10 v11 x1))))))))))))) ∧ (¬ (S.2.2 1862) ≤ x5 → (vp_in x5 8001 ∧ (∀ v12 : Int32, v12 = (a40 x5.toNatClampNeg) → wp_Se_measureFrom (sI (sI (sI (sI (sI (sI (sI (sI (sL (sA (sA S 39 a39) 40 a40) 38 l38) 1923 i1923) 1924 i1924) 1925 i1925) 1926 i1926) 1927 i1927) 1928 i1928) 2370 i2370) 2371 i2371) v12 x1 (fun v13 v14 v15 v16 v17 v18 => (((S.2.2 1864) < v14 → wl_Se_visit_92 S post (fun a39 a40 l38 i1923 i1924 i1925 i1926 i1927 i1928 i2370 i2371 x1 x2 x3 x4 x5 => wl_Se_visit_29 S post n a39 a40 l38 i1923 i1924 i1925 i1926 i1927 i1928 i2370 i2371 x1 x2 x3 x4 x5) a39 a40 l38 v13 v14 v15 v16 v17 v18 i2370 i2371 x1 x2 x3 x4 x5 v12) ∧ (¬ (S.2.2 1864) < v14 → (vp_in v12 8001 ∧ wp_Se_demerits (sI (sI (sI (sI (sI (sI (sI (sI (sL (sA (sA S 39 a39) 40 a40) 38 l38) 1923 v13) 1924 v14) 1925 v15) 1926 v16) 1927 v17) 1928 v18) 2370 i2370) 2371 i2371) v12 x1 (fun r19 => wp_Se_offerFrom (sI (sI (sI (sI (sI (sI (sI (sI (sL (sA (sA S 39 a39) 40 a40) 38 l38) 1923 v13) 1924 v14) 1925 v15) 1926 v16) 1927 v17) 1928 v18) 2370 i2370) 2371 i2371) v12 (((S.2.1 36) v12.toNatClampNeg) + r19) (fun f20 f21 v22 v23 => wl_Se_visit_92 S post (fun a39 a40 l38 i1923 i1924 i1925 i1926 i1927 i1928 i2370 i2371 x1 x2 x3 x4 x5 => wl_Se_visit_29 S post n a39 a40 l38 i1923 i1924 i1925 i1926 i1927 i1928 i2370 i2371 x1 x2 x3 x4 x5) f20 a40 f21 v13 v14 v15 v16 v17 v18 v22 v23 x1 x2 x3 x4 x5 v12))))))))))
set_option maxRecDepth 100000 in
def wl_Se_visit_20 (S : ST) (post : Int32 → (Nat → Int32) → (Nat → Int32) → (Nat → Int32) → (Nat → Int32) → (Nat → Int32) → (Nat → Int32) → (Nat → Int64) → (Nat → Int64) → Int32 → Int32 → Int32 → Int32 → Int32 → Int32 → Int32 → Int32 → Int32 → Int32 → Int32 → Prop) (x1 : Int32) (z0 : Int32) : Prop := (∃ k9 : Nat, wl_Se_visit_29 S post  k9 (S.1 39) (S.1 40) (S.2.1 38) (S.2.2 1923) (S.2.2 1924) (S.2.2 1925) (S.2.2 1926) (S.2.2 1927) (S.2.2 1928) (S.2.2 2370) (S.2.2 2371) x1 z0 0 (-1) 0)
set_option maxRecDepth 100000 in
def wp_Se_visit (S : ST) (p1 : Int32) (post : Int32 → (Nat → Int32) → (Nat → Int32) → (Nat → Int32) → (Nat → Int32) → (Nat → Int32) → (Nat → Int32) → (Nat → Int64) → (Nat → Int64) → Int32 → Int32 → Int32 → Int32 → Int32 → Int32 → Int32 → Int32 → Int32 → Int32 → Int32 → Prop) : Prop := (vp_in p1 403 ∧ ((¬ ((S.1 19) p1.toNatClampNeg) = (-10000) → wl_Se_visit_20 S post  p1 0) ∧ (((S.1 19) p1.toNatClampNeg) = (-10000) → wl_Se_visit_20 S post  p1 1)))
abbrev y_No_isBetter : MethodName := ⟨"LineBreaker$Nodes", "isBetter", "(II)Z"⟩
abbrev rm_No_isBetter : Room := { frames := 0, cells := 0, slots := 0, locals := 0 }
set_option maxRecDepth 100000 in
def wp_No_isBetter (S : ST) (p1 : Int32) (p2 : Int32) (post : Int32 → Prop) : Prop := (vp_in p1 8001 ∧ (vp_in p2 8001 ∧ (((lg_cmp ((S.2.1 36) p1.toNatClampNeg) ((S.2.1 36) p2.toNatClampNeg)) = 0 → (vp_in p1 8001 ∧ (vp_in p2 8001 ∧ ((((S.1 33) p1.toNatClampNeg) = ((S.1 33) p2.toNatClampNeg) → (vp_in p1 8001 ∧ (vp_in p2 8001 ∧ ((((S.1 34) p2.toNatClampNeg) ≤ ((S.1 34) p1.toNatClampNeg) → post 0) ∧ (¬ ((S.1 34) p2.toNatClampNeg) ≤ ((S.1 34) p1.toNatClampNeg) → post 1))))) ∧ (¬ ((S.1 33) p1.toNatClampNeg) = ((S.1 33) p2.toNatClampNeg) → (vp_in p1 8001 ∧ (vp_in p2 8001 ∧ ((((S.1 33) p2.toNatClampNeg) ≤ ((S.1 33) p1.toNatClampNeg) → post 0) ∧ (¬ ((S.1 33) p2.toNatClampNeg) ≤ ((S.1 33) p1.toNatClampNeg) → post 1))))))))) ∧ (¬ (lg_cmp ((S.2.1 36) p1.toNatClampNeg) ((S.2.1 36) p2.toNatClampNeg)) = 0 → (vp_in p1 8001 ∧ (vp_in p2 8001 ∧ ((0 ≤ (lg_cmp ((S.2.1 36) p1.toNatClampNeg) ((S.2.1 36) p2.toNatClampNeg)) → post 0) ∧ (¬ 0 ≤ (lg_cmp ((S.2.1 36) p1.toNatClampNeg) ((S.2.1 36) p2.toNatClampNeg)) → post 1))))))))
abbrev y_Se_isPreferred : MethodName := ⟨"LineBreaker$Search", "isPreferred", "(IIII)Z"⟩
abbrev rm_Se_isPreferred : Room := { frames := 1, cells := 0, slots := 0, locals := 29 }
set_option maxRecDepth 100000 in
def wp_Se_isPreferred (S : ST) (p1 : Int32) (p2 : Int32) (p3 : Int32) (p4 : Int32) (post : Int32 → Prop) : Prop := (vp_in p1 8001 ∧ (∀ v1 : Int32, v1 = ((S.1 33) p1.toNatClampNeg) → (vp_in p3 8001 ∧ (∀ v2 : Int32, v2 = (if p4 < ((S.1 33) p3.toNatClampNeg) then p4 else ((S.1 33) p3.toNatClampNeg)) → (vp_in p3 8001 ∧ (∀ v3 : Int32, v3 = (if ((S.1 33) p3.toNatClampNeg) < p4 then p4 else ((S.1 33) p3.toNatClampNeg)) → ((v1 < v2 → post 0) ∧ (¬ v1 < v2 → ((v1 ≤ v3 → (∀ v4 : Int32, v4 = (if (0 : Int32) ≤ (v1 - p4) then (v1 - p4) else 0 - (v1 - p4)) → (vp_in p2 8001 ∧ (∀ v5 : Int32, v5 = (if (0 : Int32) ≤ (((S.1 33) p2.toNatClampNeg) - p4) then (((S.1 33) p2.toNatClampNeg) - p4) else 0 - (((S.1 33) p2.toNatClampNeg) - p4)) → ((v4 < v5 → post 1) ∧ (¬ v4 < v5 → ((¬ v4 = v5 → post 0) ∧ (v4 = v5 → wp_No_isBetter S p1 p2 (fun r6 => ((r6 = 0 → post 0) ∧ (¬ r6 = 0 → post 1))))))))))) ∧ (¬ v1 ≤ v3 → post 0))))))))))
abbrev y_Se_choose : MethodName := ⟨"LineBreaker$Search", "choose", "()I"⟩
abbrev rm_Se_choose : Room := { frames := 2, cells := 0, slots := 0, locals := 58 }
set_option maxRecDepth 100000 in
def wl_Se_choose_81 (S : ST) (post : Int32 → Prop) : Nat → Int32 → Int32 → Int32 → Int32 → Prop
  | 0, _, _, _, _ => False
  | n + 1, x1, x2, x3, x4 => (((S.2.2 1989) ≤ x4 → ((¬ (S.2.2 1865) = 0 → post x3) ∧ ((S.2.2 1865) = 0 → (vp_in x3 8001 ∧ ((¬ ((S.1 33) x3.toNatClampNeg) = x2 → post 0) ∧ (((S.1 33) x3.toNatClampNeg) = x2 → post x3)))))) ∧ (¬ (S.2.2 1989) ≤ x4 → wp_Se_isPreferred S x4 x3 x1 x2 (fun r1 => ((r1 = 0 → (∀ v2 : Int32, v2 = x4 + 1 → wl_Se_choose_81 S post n x1 x2 x3 v2)) ∧ (¬ r1 = 0 → (∀ v3 : Int32, v3 = x4 + 1 → wl_Se_choose_81 S post n x1 x2 x4 v3))))))
set_option maxRecDepth 100000 in
def wl_Se_choose_21 (S : ST) (post : Int32 → Prop) : Nat → Int32 → Int32 → Prop
  | 0, _, _ => False
  | n + 1, x1, x2 => (((S.2.2 1989) ≤ x2 → (vp_in x1 8001 ∧ (vp_in 9 10 ∧ (∀ v1 : Int32, v1 = (((S.1 33) x1.toNatClampNeg) + ((S.1 12) (9 : Int32).toNatClampNeg)) → (∀ v2 : Int32, v2 = (S.2.2 1863) → (∃ k9 : Nat, wl_Se_choose_81 S post  k9 x1 v1 x1 v2)))))) ∧ (¬ (S.2.2 1989) ≤ x2 → wp_No_isBetter S x2 x1 (fun r3 => ((r3 = 0 → (∀ v4 : Int32, v4 = x2 + 1 → wl_Se_choose_21 S post n x1 v4)) ∧ (¬ r3 = 0 → (∀ v5 : Int32, v5 = x2 + 1 → wl_Se_choose_21 S post n x2 v5))))))
set_option maxRecDepth 100000 in
def wp_Se_choose (S : ST) (post : Int32 → Prop) : Prop := ((¬ (S.2.2 1862) = 0 → (∀ v1 : Int32, v1 = (S.2.2 1863) → (∀ v2 : Int32, v2 = ((S.2.2 1863) + 1) → (∃ k9 : Nat, wl_Se_choose_21 S post  k9 v1 v2)))) ∧ ((S.2.2 1862) = 0 → post 0))
abbrev y_Se_run : MethodName := ⟨"LineBreaker$Search", "run", "(IZ)I"⟩
abbrev rm_Se_run : Room := { frames := 5, cells := 0, slots := 0, locals := 129 }
set_option maxRecDepth 100000 in
def wl_Se_run_137 (S : ST) (post : Int32 → (Nat → Int32) → (Nat → Int32) → (Nat → Int32) → (Nat → Int32) → (Nat → Int32) → (Nat → Int32) → (Nat → Int64) → (Nat → Int64) → Int32 → Int32 → Int32 → Int32 → Int32 → Int32 → Int32 → Int32 → Int32 → Int32 → Int32 → Int32 → Int32 → Int32 → Prop) (a32 : (Nat → Int32)) (a33 : (Nat → Int32)) (a34 : (Nat → Int32)) (a35 : (Nat → Int32)) (a39 : (Nat → Int32)) (a40 : (Nat → Int32)) (l36 : (Nat → Int64)) (l38 : (Nat → Int64)) (i1862 : Int32) (i1863 : Int32) (i1864 : Int32) (i1865 : Int32) (i1922 : Int32) (i1923 : Int32) (i1924 : Int32) (i1925 : Int32) (i1926 : Int32) (i1927 : Int32) (i1928 : Int32) (i1989 : Int32) (i2370 : Int32) (i2371 : Int32) : Prop := wp_Se_choose (sI (sI (sI (sI (sI (sI (sI (sI (sI (sI (sI (sI (sI (sI (sL (sL (sA (sA (sA (sA (sA (sA S 32 a32) 33 a33) 34 a34) 35 a35) 39 a39) 40 a40) 36 l36) 38 l38) 1862 i1862) 1863 i1863) 1864 i1864) 1865 i1865) 1922 i1922) 1923 i1923) 1924 i1924) 1925 i1925) 1926 i1926) 1927 i1927) 1928 i1928) 1989 i1989) 2370 i2370) 2371 i2371)  (fun r1 => post r1 a32 a33 a34 a35 a39 a40 l36 l38 i1862 i1863 i1864 i1865 i1922 i1923 i1924 i1925 i1926 i1927 i1928 i1989 i2370 i2371)
set_option maxRecDepth 100000 in
def wl_Se_run_114 (S : ST) (post : Int32 → (Nat → Int32) → (Nat → Int32) → (Nat → Int32) → (Nat → Int32) → (Nat → Int32) → (Nat → Int32) → (Nat → Int64) → (Nat → Int64) → Int32 → Int32 → Int32 → Int32 → Int32 → Int32 → Int32 → Int32 → Int32 → Int32 → Int32 → Int32 → Int32 → Int32 → Prop) (K81 : (Nat → Int32) → (Nat → Int32) → (Nat → Int32) → (Nat → Int32) → (Nat → Int32) → (Nat → Int32) → (Nat → Int64) → (Nat → Int64) → Int32 → Int32 → Int32 → Int32 → Int32 → Int32 → Int32 → Int32 → Int32 → Int32 → Int32 → Int32 → Int32 → Int32 → Int32 → Int32 → Prop) (a32 : (Nat → Int32)) (a33 : (Nat → Int32)) (a34 : (Nat → Int32)) (a35 : (Nat → Int32)) (a39 : (Nat → Int32)) (a40 : (Nat → Int32)) (l36 : (Nat → Int64)) (l38 : (Nat → Int64)) (i1862 : Int32) (i1863 : Int32) (i1864 : Int32) (i1865 : Int32) (i1922 : Int32) (i1923 : Int32) (i1924 : Int32) (i1925 : Int32) (i1926 : Int32) (i1927 : Int32) (i1928 : Int32) (i1989 : Int32) (i2370 : Int32) (i2371 : Int32) (x1 : Int32) (x3 : Int32) (z1 : Int32) (z2 : Int32) : Prop := wp_Ga_isPlace (sI (sI (sI (sI (sI (sI (sI (sI (sI (sI (sI (sI (sI (sI (sL (sL (sA (sA (sA (sA (sA (sA S 32 a32) 33 a33) 34 a34) 35 a35) 39 a39) 40 a40) 36 l36) 38 l38) 1862 i1862) 1863 i1863) 1864 i1864) 1865 i1865) 1922 i1922) 1923 i1923) 1924 i1924) 1925 i1925) 1926 i1926) 1927 i1927) 1928 i1928) 1989 i1989) 2370 i2370) 2371 i2371) z1 z2 (fun r1 => ((r1 = 0 → (∀ v2 : Int32, v2 = x3 + 1 → K81 a32 a33 a34 a35 a39 a40 l36 l38 i1862 i1863 i1864 i1865 i1922 i1923 i1924 i1925 i1926 i1927 i1928 i1989 i2370 i2371 x1 v2)) ∧ (¬ r1 = 0 → wp_Se_visit (sI (sI (sI (sI (sI (sI (sI (sI (sI (sI (sI (sI (sI (sI (sL (sL (sA (sA (sA (sA (sA (sA S 32 a32) 33 a33) 34 a34) 35 a35) 39 a39) 40 a40) 36 l36) 38 l38) 1862 i1862) 1863 i1863) 1864 i1864) 1865 i1865) 1922 i1922) 1923 i1923) 1924 i1924) 1925 i1925) 1926 i1926) 1927 i1927) 1928 i1928) 1989 i1989) 2370 i2370) 2371 i2371) x3 (fun r22 f3 f4 f5 f6 f7 f8 f9 f10 v11 v12 v13 v14 v15 v16 v17 v18 v19 v20 v21 => ((¬ r22 = 0 → (∀ v23 : Int32, v23 = x3 + 1 → K81 f3 f4 f5 f6 f7 f8 f9 f10 v11 v12 i1864 i1865 i1922 v13 v14 v15 v16 v17 v18 v19 v20 v21 x1 v23)) ∧ (r22 = 0 → post (-2) f3 f4 f5 f6 f7 f8 f9 f10 v11 v12 i1864 i1865 i1922 v13 v14 v15 v16 v17 v18 v19 v20 v21))))))
set_option maxRecDepth 100000 in
def wl_Se_run_81 (S : ST) (post : Int32 → (Nat → Int32) → (Nat → Int32) → (Nat → Int32) → (Nat → Int32) → (Nat → Int32) → (Nat → Int32) → (Nat → Int64) → (Nat → Int64) → Int32 → Int32 → Int32 → Int32 → Int32 → Int32 → Int32 → Int32 → Int32 → Int32 → Int32 → Int32 → Int32 → Int32 → Prop) : Nat → (Nat → Int32) → (Nat → Int32) → (Nat → Int32) → (Nat → Int32) → (Nat → Int32) → (Nat → Int32) → (Nat → Int64) → (Nat → Int64) → Int32 → Int32 → Int32 → Int32 → Int32 → Int32 → Int32 → Int32 → Int32 → Int32 → Int32 → Int32 → Int32 → Int32 → Int32 → Int32 → Prop
  | 0, _, _, _, _, _, _, _, _, _, _, _, _, _, _, _, _, _, _, _, _, _, _, _, _ => False
  | n + 1, a32, a33, a34, a35, a39, a40, l36, l38, i1862, i1863, i1864, i1865, i1922, i1923, i1924, i1925, i1926, i1927, i1928, i1989, i2370, i2371, x1, x3 => (((S.2.2 1099) < x3 → wl_Se_run_137 S post  a32 a33 a34 a35 a39 a40 l36 l38 i1862 i1863 i1864 i1865 i1922 i1923 i1924 i1925 i1926 i1927 i1928 i1989 i2370 i2371) ∧ (¬ (S.2.2 1099) < x3 → ((i1862 ≤ 0 → wl_Se_run_137 S post  a32 a33 a34 a35 a39 a40 l36 l38 i1862 i1863 i1864 i1865 i1922 i1923 i1924 i1925 i1926 i1927 i1928 i1989 i2370 i2371) ∧ (¬ i1862 ≤ 0 → ((x1 ≤ 1 → wl_Se_run_114 S post (fun a32 a33 a34 a35 a39 a40 l36 l38 i1862 i1863 i1864 i1865 i1922 i1923 i1924 i1925 i1926 i1927 i1928 i1989 i2370 i2371 x1 x3 => wl_Se_run_81 S post n a32 a33 a34 a35 a39 a40 l36 l38 i1862 i1863 i1864 i1865 i1922 i1923 i1924 i1925 i1926 i1927 i1928 i1989 i2370 i2371 x1 x3) a32 a33 a34 a35 a39 a40 l36 l38 i1862 i1863 i1864 i1865 i1922 i1923 i1924 i1925 i1926 i1927 i1928 i1989 i2370 i2371 x1 x3 x3 0) ∧ (¬ x1 ≤ 1 → wl_Se_run_114 S post (fun a32 a33 a34 a35 a39 a40 l36 l38 i1862 i1863 i1864 i1865 i1922 i1923 i1924 i1925 i1926 i1927 i1928 i1989 i2370 i2371 x1 x3 => wl_Se_run_81 S post n a32 a33 a34 a35 a39 a40 l36 l38 i1862 i1863 i1864 i1865 i1922 i1923 i1924 i1925 i1926 i1927 i1928 i1989 i2370 i2371 x1 x3) a32 a33 a34 a35 a39 a40 l36 l38 i1862 i1863 i1864 i1865 i1922 i1923 i1924 i1925 i1926 i1927 i1928 i1989 i2370 i2371 x1 x3 x3 1))))))
set_option maxRecDepth 100000 in
def wl_Se_run_50 (S : ST) (post : Int32 → (Nat → Int32) → (Nat → Int32) → (Nat → Int32) → (Nat → Int32) → (Nat → Int32) → (Nat → Int32) → (Nat → Int64) → (Nat → Int64) → Int32 → Int32 → Int32 → Int32 → Int32 → Int32 → Int32 → Int32 → Int32 → Int32 → Int32 → Int32 → Int32 → Int32 → Prop) (i1864 : Int32) (i1865 : Int32) (x1 : Int32) (z1 : Int32) : Prop := wp_Gu_start (sI (sI S 1864 i1864) 1865 i1865) z1 (fun v1 v2 => wp_No_start (sI (sI (sI (sI S 1864 i1864) 1865 i1865) 1922 v1) 1927 v2)  (fun f3 f4 f5 f6 f7 v8 => wp_Of_start (sI (sI (sI (sI (sI (sL (sA (sA (sA (sA S 32 f3) 33 f4) 34 f5) 35 f6) 36 f7) 1864 i1864) 1865 i1865) 1922 v1) 1927 v2) 1989 v8)  (fun f9 v10 v11 => (vp_in 0 8001 ∧ ∀ f12 : Nat → Int32, f12 = upd (S.1 40) ((0 : Int32).toNatClampNeg) 0 → (∃ k9 : Nat, wl_Se_run_81 S post  k9 f3 f4 f5 f6 f9 f12 f7 (S.2.1 38) 1 (S.2.2 1863) i1864 i1865 v1 (S.2.2 1923) (S.2.2 1924) (S.2.2 1925) (S.2.2 1926) v2 (S.2.2 1928) v8 v10 v11 x1 0)))))
set_option maxRecDepth 100000 in
def wl_Se_run_18 (S : ST) (post : Int32 → (Nat → Int32) → (Nat → Int32) → (Nat → Int32) → (Nat → Int32) → (Nat → Int32) → (Nat → Int32) → (Nat → Int64) → (Nat → Int64) → Int32 → Int32 → Int32 → Int32 → Int32 → Int32 → Int32 → Int32 → Int32 → Int32 → Int32 → Int32 → Int32 → Int32 → Prop) (x1 : Int32) (x2 : Int32) (z2 : Int32) : Prop := (vp_in z2 10 ∧ (∀ v1 : Int32, v1 = ((S.1 12) z2.toNatClampNeg) → ((x2 = 0 ∨ x2 = 1) ∧ ((¬ x1 = 3 → wl_Se_run_50 S post  v1 x2 x1 0) ∧ (x1 = 3 → (vp_in 8 10 ∧ wl_Se_run_50 S post  v1 x2 x1 ((S.1 12) (8 : Int32).toNatClampNeg)))))))
set_option maxRecDepth 100000 in
def wp_Se_run (S : ST) (p1 : Int32) (p2 : Int32) (post : Int32 → (Nat → Int32) → (Nat → Int32) → (Nat → Int32) → (Nat → Int32) → (Nat → Int32) → (Nat → Int32) → (Nat → Int64) → (Nat → Int64) → Int32 → Int32 → Int32 → Int32 → Int32 → Int32 → Int32 → Int32 → Int32 → Int32 → Int32 → Int32 → Int32 → Int32 → Prop) : Prop := ((¬ p1 = 1 → wl_Se_run_18 S post  p1 p2 1) ∧ (p1 = 1 → wl_Se_run_18 S post  p1 p2 0))
section
variable {p : Program} {l : Launch} {e : Env} {s : State} {m : MethodId} {args : Array Value} {below : List Frame} {meth : Method} {c : Code} {n0 : Nat} {G : va_G} {K : KT} {ad : Nat → Nat} {X : va_W}
set_option maxHeartbeats 4000000 in
set_option maxRecDepth 100000 in
theorem c_Gu_start (l : Launch) (n0 : Nat) (G : va_G) (K : KT) (ad : Nat → Nat) (X : va_W) (S : ST) (p1 : Int32) (post : Int32 → Int32 → Prop) (hw : wp_Gu_start S p1 post) : Met l y_Gu_start (Cond.code y_Gu_start prog_3_method_2_code 2 none :: gw) rm_Gu_start (va_Pc [.ref (ad 30), .int p1] (wb n0 G K (wC K ad S ++ X))) (va_Qv (fun (u : Int32 × Int32) => post u.1 u.2) (fun (u : Int32 × Int32) t => we n0 G (wC K ad (sI (sI S 1922 u.1) 1927 u.2) ++ X) t) (al n0)) 0 0 (al n0) := by
  refine kb_start (own := "LineBreaker$Gauge") (by decide +kernel) rfl ?_
  intro p e s m below meth c C hr hne w
  have hx := C.1
  have hb := C.2.1
  have hts := C.2.2.2.2.1
  have hl := lv_entry ([.ref (ad 30), .int p1]) (n := 2) (Nat.le_of_ble_eq_true rfl)
  rw [lg_entry_eq]
  generalize (lg_sl ([.ref (ad 30), .int p1]) ++ List.replicate (2 - (lg_sl ([.ref (ad 30), .int p1])).length) Slot.unset).toArray = ls at hl ⊢
  have hl : lv_has ls 2 [(0, .ref (ad 30)), (1, .int p1)] := hl
  unfold wp_Gu_start at hw
  refine lv_aload_n hx hb d_Gu_start_0 rfl (lv_at hl 0 rfl) ?_
  refine lv_iload_n hx hb d_Gu_start_1 rfl (lv_at hl 1 rfl) ?_
  refine kp (C1 := R_Gu) (T := F_Gu) (N := 9) (ci := 1) (ty0 := t_Gu) (ref := "LineBreaker$Gauge") (w2 := wC K ad (sI S 1922 p1) ++ X) C w 30 2 iw_Gu tk_Gu n_Gu rfl rfl (by decide) kw_201 rfl rfl rfl rfl (Nat.le_of_ble_eq_true rfl) rfl d_Gu_start_2 (fun H locs w => ?_)
  refine lv_aload_n hx hb d_Gu_start_5 rfl (lv_at hl 0 rfl) ?_
  refine lv_iconst (v := (-1)) hx hb d_Gu_start_6 (by decide) ?_
  refine kp (C1 := R_Gu) (T := F_Gu) (N := 9) (ci := 1) (ty0 := t_Gu) (ref := "LineBreaker$Gauge") (w2 := wC K ad (sI (sI S 1922 p1) 1927 (-1)) ++ X) C w 30 7 iw_Gu tk_Gu n_Gu rfl rfl (by decide) kw_211 rfl rfl rfl rfl (Nat.le_of_ble_eq_true rfl) rfl d_Gu_start_7 (fun H locs w => ?_)
  exact ke_v (post := (fun (u : Int32 × Int32) => post u.1 u.2)) (st := (fun (u : Int32 × Int32) => wC K ad (sI (sI S 1922 u.1) 1927 u.2) ++ X)) (u := (p1, (-1))) C hr d_Gu_start_10 (wn_eq w rfl) hw
set_option maxHeartbeats 4000000 in
set_option maxRecDepth 100000 in
theorem c_No_start (l : Launch) (n0 : Nat) (G : va_G) (K : KT) (ad : Nat → Nat) (X : va_W) (S : ST) (post : (Nat → Int32) → (Nat → Int32) → (Nat → Int32) → (Nat → Int32) → (Nat → Int64) → Int32 → Prop) (hw : wp_No_start S  post) : Met l y_No_start (Cond.code y_No_start prog_5_method_2_code 1 none :: gw) rm_No_start (va_Pc [.ref (ad 31)] (wb n0 G K (wC K ad S ++ X))) (va_Qv (fun (u : (Nat → Int32) × (Nat → Int32) × (Nat → Int32) × (Nat → Int32) × (Nat → Int64) × Int32) => post u.1 u.2.1 u.2.2.1 u.2.2.2.1 u.2.2.2.2.1 u.2.2.2.2.2) (fun (u : (Nat → Int32) × (Nat → Int32) × (Nat → Int32) × (Nat → Int32) × (Nat → Int64) × Int32) t => we n0 G (wC K ad (sI (sL (sA (sA (sA (sA S 32 u.1) 33 u.2.1) 34 u.2.2.1) 35 u.2.2.2.1) 36 u.2.2.2.2.1) 1989 u.2.2.2.2.2) ++ X) t) (al n0)) 0 0 (al n0) := by
  refine kb_start (own := "LineBreaker$Nodes") (by decide +kernel) rfl ?_
  intro p e s m below meth c C hr hne w
  have hx := C.1
  have hb := C.2.1
  have hts := C.2.2.2.2.1
  have hl := lv_entry ([.ref (ad 31)]) (n := 1) (Nat.le_of_ble_eq_true rfl)
  rw [lg_entry_eq]
  generalize (lg_sl ([.ref (ad 31)]) ++ List.replicate (1 - (lg_sl ([.ref (ad 31)])).length) Slot.unset).toArray = ls at hl ⊢
  have hl : lv_has ls 1 [(0, .ref (ad 31))] := hl
  unfold wp_No_start at hw
  refine lv_aload_n hx hb d_No_start_0 rfl (lv_at hl 0 rfl) ?_
  refine kg (C1 := R_No) (T := F_No) (N := 6) (ci := 3) (ref := "LineBreaker$Nodes") (v := .ref (ad 32)) C w 31 0 iw_No rfl rfl (by decide) kw_238 rfl rfl d_No_start_1 ?_
  refine lv_iconst (v := 0) hx hb d_No_start_4 (by decide) ?_
  refine lv_iconst (v := (-1)) hx hb d_No_start_5 (by decide) ?_
  obtain ⟨f1, ef1⟩ : ∃ z : Nat → Int32, z = upd (S.1 32) ((0 : Int32).toNatClampNeg) (-1) := ⟨_, rfl⟩
  refine ks_i (f := (S.1 32)) (w2 := wC K ad (sA S 32 f1) ++ X) C w 32 rfl hw.1 (by rw [← ef1]; rfl) d_No_start_6 (fun H locs w => ?_)
  have hw := hw.2 f1 ef1
  refine lv_aload_n hx hb d_No_start_7 rfl (lv_at hl 0 rfl) ?_
  refine kg (C1 := R_No) (T := F_No) (N := 6) (ci := 3) (ref := "LineBreaker$Nodes") (v := .ref (ad 33)) C w 31 1 iw_No rfl rfl (by decide) kw_242 rfl rfl d_No_start_8 ?_
  refine lv_iconst (v := 0) hx hb d_No_start_11 (by decide) ?_
  refine lv_iconst (v := 0) hx hb d_No_start_12 (by decide) ?_
  obtain ⟨f2, ef2⟩ : ∃ z : Nat → Int32, z = upd (S.1 33) ((0 : Int32).toNatClampNeg) 0 := ⟨_, rfl⟩
  refine ks_i (f := (S.1 33)) (w2 := wC K ad (sA (sA S 32 f1) 33 f2) ++ X) C w 33 rfl hw.1 (by rw [← ef2]; rfl) d_No_start_13 (fun H locs w => ?_)
  have hw := hw.2 f2 ef2
  refine lv_aload_n hx hb d_No_start_14 rfl (lv_at hl 0 rfl) ?_
  refine kg (C1 := R_No) (T := F_No) (N := 6) (ci := 3) (ref := "LineBreaker$Nodes") (v := .ref (ad 34)) C w 31 2 iw_No rfl rfl (by decide) kw_246 rfl rfl d_No_start_15 ?_
  refine lv_iconst (v := 0) hx hb d_No_start_18 (by decide) ?_
  refine lv_iconst (v := 2) hx hb d_No_start_19 (by decide) ?_
  obtain ⟨f3, ef3⟩ : ∃ z : Nat → Int32, z = upd (S.1 34) ((0 : Int32).toNatClampNeg) 2 := ⟨_, rfl⟩
  refine ks_i (f := (S.1 34)) (w2 := wC K ad (sA (sA (sA S 32 f1) 33 f2) 34 f3) ++ X) C w 34 rfl hw.1 (by rw [← ef3]; rfl) d_No_start_20 (fun H locs w => ?_)
  have hw := hw.2 f3 ef3
  refine lv_aload_n hx hb d_No_start_21 rfl (lv_at hl 0 rfl) ?_
  refine kg (C1 := R_No) (T := F_No) (N := 6) (ci := 3) (ref := "LineBreaker$Nodes") (v := .ref (ad 35)) C w 31 3 iw_No rfl rfl (by decide) kw_249 rfl rfl d_No_start_22 ?_
  refine lv_iconst (v := 0) hx hb d_No_start_25 (by decide) ?_
  refine lv_iconst (v := 0) hx hb d_No_start_26 (by decide) ?_
  obtain ⟨f4, ef4⟩ : ∃ z : Nat → Int32, z = upd (S.1 35) ((0 : Int32).toNatClampNeg) 0 := ⟨_, rfl⟩
  refine ks_i (f := (S.1 35)) (w2 := wC K ad (sA (sA (sA (sA S 32 f1) 33 f2) 34 f3) 35 f4) ++ X) C w 35 rfl hw.1 (by rw [← ef4]; rfl) d_No_start_27 (fun H locs w => ?_)
  have hw := hw.2 f4 ef4
  refine lv_aload_n hx hb d_No_start_28 rfl (lv_at hl 0 rfl) ?_
  refine kg (C1 := R_No) (T := F_No) (N := 6) (ci := 3) (ref := "LineBreaker$Nodes") (v := .ref (ad 36)) C w 31 4 iw_No rfl rfl (by decide) kw_252 rfl rfl d_No_start_29 ?_
  refine lv_iconst (v := 0) hx hb d_No_start_32 (by decide) ?_
  refine lv_lconst (v := 0) hx hb d_No_start_33 (by decide) ?_
  obtain ⟨f5, ef5⟩ : ∃ z : Nat → Int64, z = vp_updL (S.2.1 36) ((0 : Int32).toNatClampNeg) 0 := ⟨_, rfl⟩
  refine ks_l (f := (S.2.1 36)) (w2 := wC K ad (sL (sA (sA (sA (sA S 32 f1) 33 f2) 34 f3) 35 f4) 36 f5) ++ X) C w 36 rfl hw.1 (by rw [← ef5]; rfl) d_No_start_34 (fun H locs w => ?_)
  have hw := hw.2 f5 ef5
  refine lv_aload_n hx hb d_No_start_35 rfl (lv_at hl 0 rfl) ?_
  refine lv_iconst (v := 1) hx hb d_No_start_36 (by decide) ?_
  refine kp (C1 := R_No) (T := F_No) (N := 6) (ci := 3) (ty0 := t_No) (ref := "LineBreaker$Nodes") (w2 := wC K ad (sI (sL (sA (sA (sA (sA S 32 f1) 33 f2) 34 f3) 35 f4) 36 f5) 1989 1) ++ X) C w 31 5 iw_No tk_No n_No rfl rfl (by decide) kw_256 rfl rfl rfl rfl (Nat.le_of_ble_eq_true rfl) rfl d_No_start_37 (fun H locs w => ?_)
  exact ke_v (post := (fun (u : (Nat → Int32) × (Nat → Int32) × (Nat → Int32) × (Nat → Int32) × (Nat → Int64) × Int32) => post u.1 u.2.1 u.2.2.1 u.2.2.2.1 u.2.2.2.2.1 u.2.2.2.2.2)) (st := (fun (u : (Nat → Int32) × (Nat → Int32) × (Nat → Int32) × (Nat → Int32) × (Nat → Int64) × Int32) => wC K ad (sI (sL (sA (sA (sA (sA S 32 u.1) 33 u.2.1) 34 u.2.2.1) 35 u.2.2.2.1) 36 u.2.2.2.2.1) 1989 u.2.2.2.2.2) ++ X)) (u := (f1, f2, f3, f4, f5, 1)) C hr d_No_start_40 (wn_eq w rfl) hw
set_option maxHeartbeats 4000000 in
set_option maxRecDepth 100000 in
theorem w_Ar_fill_5 {S : ST} {post : (Nat → Int32) → Prop} (C : cx p s m args meth c prog_22_method_103_code 4 "java/util/Arrays" n0 G K) (hr : meth.sig.returnType = none) : ∀ (n : Nat) (a39 : (Nat → Int32)) (x1 : Int32) (x2 : Int32) (x3 : Int32), wl_Ar_fill_5 S post n a39 x1 x2 x3 → ∀ (H : Heap) (locs : List Loc) (ls : Array Slot), wn n0 G (wC K ad (sA S 39 a39) ++ X) s H locs → lv_has ls 4 [(0, .ref (ad 39)), (1, .int x1), (2, .int x2), (3, .int x3)] → W p l e rm_Ar_fill s m args below meth c H locs 0 0 (MQ below (va_Qv (fun (u : (Nat → Int32)) => post u) (fun (u : (Nat → Int32)) t => we n0 G (wC K ad (sA S 39 u) ++ X) t) (al n0)) args s 0 0 (al n0)) (F0 m 5 ls []) := by
  have hx := C.1
  have hb := C.2.1
  have hts := C.2.2.2.2.1
  intro n
  induction n with
  | zero =>
    intro a39 x1 x2 x3 hw
    unfold wl_Ar_fill_5 at hw
    exact hw.elim
  | succ n ih =>
    intro a39 x1 x2 x3 hw H locs ls w hl
    unfold wl_Ar_fill_5 at hw
    refine lv_iload_n hx hb d_Ar_fill_5 rfl (lv_at hl 2 rfl) ?_
    refine lv_iload_n hx hb d_Ar_fill_6 rfl (lv_at hl 3 rfl) ?_
    refine lv_icmp_ge (tgt := 20) hx hb d_Ar_fill_7 (by decide) (fun hc => ?_) (fun hc => ?_)
    · have hw := hw.1 hc
      exact ke_v (post := (fun (u : (Nat → Int32)) => post u)) (st := (fun (u : (Nat → Int32)) => wC K ad (sA S 39 u) ++ X)) (u := a39) C hr d_Ar_fill_20 (wn_eq w rfl) hw
    · have hw := hw.2 hc
      refine lv_aload_n hx hb d_Ar_fill_10 rfl (lv_at hl 0 rfl) ?_
      refine lv_iload_n hx hb d_Ar_fill_11 rfl (lv_at hl 2 rfl) ?_
      refine lv_iload_n hx hb d_Ar_fill_12 rfl (lv_at hl 1 rfl) ?_
      obtain ⟨f1, ef1⟩ : ∃ z : Nat → Int32, z = upd a39 x2.toNatClampNeg x1 := ⟨_, rfl⟩
      refine ks_i (f := a39) (w2 := wC K ad (sA S 39 f1) ++ X) C w 39 rfl hw.1 (by rw [← ef1]; rfl) d_Ar_fill_13 (fun H locs w => ?_)
      have hw := hw.2 f1 ef1
      obtain ⟨v2, ev2⟩ : ∃ y : Int32, y = x2 + 1 := ⟨_, rfl⟩
      refine lv_iinc (v := v2) (lv' := [(2, .int v2), (0, .ref (ad 39)), (1, .int x1), (3, .int x3)]) hx hb d_Ar_fill_14 hl (k := 2) rfl (by rw [ev2]; rfl) (by decide) rfl (fun ls hl => ?_)
      have hw := hw v2 ev2
      refine lv_goto (tgt := 5) hx hb d_Ar_fill_17 (by decide) ?_
      exact ih f1 x1 v2 x3 hw _ _ _ (wn_eq w rfl) (lv_sub hl [1, 2, 0, 3] rfl)
set_option maxHeartbeats 4000000 in
set_option maxRecDepth 100000 in
theorem c_Ar_fill (l : Launch) (n0 : Nat) (G : va_G) (K : KT) (ad : Nat → Nat) (X : va_W) (S : ST) (p2 : Int32) (post : (Nat → Int32) → Prop) (hw : wp_Ar_fill S p2 post) : Met l y_Ar_fill (Cond.code y_Ar_fill prog_22_method_103_code 4 none :: gw) rm_Ar_fill (va_Pc [.ref (ad 39), .int p2] (wb n0 G K (wC K ad S ++ X))) (va_Qv (fun (u : (Nat → Int32)) => post u) (fun (u : (Nat → Int32)) t => we n0 G (wC K ad (sA S 39 u) ++ X) t) (al n0)) 0 0 (al n0) := by
  refine kb_start (own := "java/util/Arrays") (by decide +kernel) rfl ?_
  intro p e s m below meth c C hr hne w
  have hx := C.1
  have hb := C.2.1
  have hts := C.2.2.2.2.1
  have hl := lv_entry ([.ref (ad 39), .int p2]) (n := 4) (Nat.le_of_ble_eq_true rfl)
  rw [lg_entry_eq]
  generalize (lg_sl ([.ref (ad 39), .int p2]) ++ List.replicate (4 - (lg_sl ([.ref (ad 39), .int p2])).length) Slot.unset).toArray = ls at hl ⊢
  have hl : lv_has ls 4 [(0, .ref (ad 39)), (1, .int p2)] := hl
  unfold wp_Ar_fill at hw
  refine lv_iconst (v := 0) hx hb d_Ar_fill_0 (by decide) ?_
  refine lv_istore_n (lv' := [(2, .int 0), (0, .ref (ad 39)), (1, .int p2)]) hx hb d_Ar_fill_1 rfl hl (by decide) rfl (fun ls hl => ?_)
  refine lv_aload_n hx hb d_Ar_fill_2 rfl (lv_at hl 1 rfl) ?_
  refine va_alen hx hb C.2.2.2.2.2.2.1 w.1 39 0 (x := (1608, .inl (S.1 39))) rfl rfl (v := 1608) rfl d_Ar_fill_3 ?_
  refine lv_istore_n (lv' := [(3, .int 1608), (2, .int 0), (0, .ref (ad 39)), (1, .int p2)]) hx hb d_Ar_fill_4 rfl hl (by decide) rfl (fun ls hl => ?_)
  obtain ⟨n9, hw⟩ := hw
  exact w_Ar_fill_5 C hr  n9 (S.1 39) p2 0 1608 hw _ _ _ (wn_eq w rfl) (lv_sub hl [2, 3, 1, 0] rfl)
set_option maxHeartbeats 4000000 in
set_option maxRecDepth 100000 in
theorem c_Of_start (l : Launch) (n0 : Nat) (G : va_G) (K : KT) (ad : Nat → Nat) (X : va_W) (S : ST) (post : (Nat → Int32) → Int32 → Int32 → Prop) (hw : wp_Of_start S  post) : Met l y_Of_start (Cond.code y_Of_start prog_6_method_2_code 1 none :: gw) rm_Of_start (va_Pc [.ref (ad 37)] (wb n0 G K (wC K ad S ++ X))) (va_Qv (fun (u : (Nat → Int32) × Int32 × Int32) => post u.1 u.2.1 u.2.2) (fun (u : (Nat → Int32) × Int32 × Int32) t => we n0 G (wC K ad (sI (sI (sA S 39 u.1) 2370 u.2.1) 2371 u.2.2) ++ X) t) (al n0)) 0 0 (al n0) := by
  refine kb_start (own := "LineBreaker$Offers") (by decide +kernel) rfl ?_
  intro p e s m below meth c C hr hne w
  have hx := C.1
  have hb := C.2.1
  have hts := C.2.2.2.2.1
  have hl := lv_entry ([.ref (ad 37)]) (n := 1) (Nat.le_of_ble_eq_true rfl)
  rw [lg_entry_eq]
  generalize (lg_sl ([.ref (ad 37)]) ++ List.replicate (1 - (lg_sl ([.ref (ad 37)])).length) Slot.unset).toArray = ls at hl ⊢
  have hl : lv_has ls 1 [(0, .ref (ad 37))] := hl
  unfold wp_Of_start at hw
  refine lv_aload_n hx hb d_Of_start_0 rfl (lv_at hl 0 rfl) ?_
  refine kg (C1 := R_Of) (T := F_Of) (N := 4) (ci := 4) (ref := "LineBreaker$Offers") (v := .ref (ad 39)) C w 37 1 iw_Of rfl rfl (by decide) kw_281 rfl rfl d_Of_start_1 ?_
  refine lv_iconst (v := (-1)) hx hb d_Of_start_4 (by decide) ?_
  refine kc_v (st := fun (u : (Nat → Int32)) => wC K ad (sA S 39 u) ++ X) w (kr_S (y := y_Ar_fill) (As := [.ref (ad 39), .int (-1)]) (n := 2) C w (c_Ar_fill l n0 G K ad X S (-1) _ hw) (gw_S kw_727 kw_728 kw_19 kw_729) (by decide +kernel) rfl rfl ⟨Nat.le_of_ble_eq_true rfl, Nat.le_of_ble_eq_true rfl⟩ rfl hl.1 rfl (Nat.le_of_ble_eq_true rfl) d_Of_start_5 ⟨Nat.le_of_ble_eq_true rfl, Nat.le_of_ble_eq_true rfl⟩) (fun u H locs hw w => ?_)
  obtain ⟨f1, rfl⟩ : ∃ z, z = u := ⟨_, rfl⟩
  have w : wn n0 G (wC K ad (sA S 39 f1) ++ X) s H locs := w
  refine lv_aload_n hx hb d_Of_start_8 rfl (lv_at hl 0 rfl) ?_
  refine lv_sipush (v := 401) hx hb d_Of_start_9 (by decide) ?_
  refine kp (C1 := R_Of) (T := F_Of) (N := 4) (ci := 4) (ty0 := t_Of) (ref := "LineBreaker$Offers") (w2 := wC K ad (sI (sA S 39 f1) 2370 401) ++ X) C w 37 2 iw_Of tk_Of n_Of rfl rfl (by decide) kw_282 rfl rfl rfl rfl (Nat.le_of_ble_eq_true rfl) rfl d_Of_start_12 (fun H locs w => ?_)
  refine lv_aload_n hx hb d_Of_start_15 rfl (lv_at hl 0 rfl) ?_
  refine lv_iconst (v := 0) hx hb d_Of_start_16 (by decide) ?_
  refine kp (C1 := R_Of) (T := F_Of) (N := 4) (ci := 4) (ty0 := t_Of) (ref := "LineBreaker$Offers") (w2 := wC K ad (sI (sI (sA S 39 f1) 2370 401) 2371 0) ++ X) C w 37 3 iw_Of tk_Of n_Of rfl rfl (by decide) kw_283 rfl rfl rfl rfl (Nat.le_of_ble_eq_true rfl) rfl d_Of_start_17 (fun H locs w => ?_)
  exact ke_v (post := (fun (u : (Nat → Int32) × Int32 × Int32) => post u.1 u.2.1 u.2.2)) (st := (fun (u : (Nat → Int32) × Int32 × Int32) => wC K ad (sI (sI (sA S 39 u.1) 2370 u.2.1) 2371 u.2.2) ++ X)) (u := (f1, 401, 0)) C hr d_Of_start_20 (wn_eq w rfl) hw
set_option maxHeartbeats 4000000 in
set_option maxRecDepth 100000 in
theorem c_Ga_isPlace (l : Launch) (n0 : Nat) (G : va_G) (K : KT) (ad : Nat → Nat) (X : va_W) (S : ST) (p1 : Int32) (p2 : Int32) (post : Int32 → Prop) (hw : wp_Ga_isPlace S p1 p2 post) : Met l y_Ga_isPlace (Cond.code y_Ga_isPlace prog_2_method_3_code 3 (some .boolean) :: gw) rm_Ga_isPlace (va_Pc [.ref (ad 17), .int p1, .int p2] (wb n0 G K (wC K ad S ++ X))) (rq_i post) 0 0 (fun _ => False) := by
  refine kb_start (own := "LineBreaker$Galley") (by decide +kernel) rfl ?_
  intro p e s m below meth c C hr hne w
  have hx := C.1
  have hb := C.2.1
  have hts := C.2.2.2.2.1
  have hl := lv_entry ([.ref (ad 17), .int p1, .int p2]) (n := 3) (Nat.le_of_ble_eq_true rfl)
  rw [lg_entry_eq]
  generalize (lg_sl ([.ref (ad 17), .int p1, .int p2]) ++ List.replicate (3 - (lg_sl ([.ref (ad 17), .int p1, .int p2])).length) Slot.unset).toArray = ls at hl ⊢
  have hl : lv_has ls 3 [(0, .ref (ad 17)), (1, .int p1), (2, .int p2)] := hl
  unfold wp_Ga_isPlace at hw
  refine lv_aload_n hx hb d_Ga_isPlace_0 rfl (lv_at hl 0 rfl) ?_
  refine kg (C1 := R_Ga) (T := F_Ga) (N := 12) (ci := 0) (ref := "LineBreaker$Galley") (v := .ref (ad 20)) C w 17 2 iw_Ga rfl rfl (by decide) kw_145 rfl rfl d_Ga_isPlace_1 ?_
  refine lv_iload_n hx hb d_Ga_isPlace_4 rfl (lv_at hl 1 rfl) ?_
  refine ka_z (f := (S.1 20)) C w 20 rfl hw.1 d_Ga_isPlace_5 ?_
  have hw := hw.2
  refine lv_if_eq (tgt := 27) hx hb d_Ga_isPlace_6 (by decide) (fun hc => ?_) (fun hc => ?_)
  · have hw := hw.1 hc
    refine lv_iconst (v := 0) hx hb d_Ga_isPlace_27 (by decide) ?_
    exact kf_z C hr d_Ga_isPlace_28 (Or.inl rfl) hw
  · have hw := hw.2 hc
    refine lv_iload_n hx hb d_Ga_isPlace_9 rfl (lv_at hl 2 rfl) ?_
    refine lv_if_ne (tgt := 23) hx hb d_Ga_isPlace_10 (by decide) (fun hc => ?_) (fun hc => ?_)
    · have hw := hw.1 hc
      refine lv_iconst (v := 1) hx hb d_Ga_isPlace_23 (by decide) ?_
      refine lv_goto (tgt := 28) hx hb d_Ga_isPlace_24 (by decide) ?_
      exact kf_z C hr d_Ga_isPlace_28 (Or.inr rfl) hw
    · have hw := hw.2 hc
      refine lv_aload_n hx hb d_Ga_isPlace_13 rfl (lv_at hl 0 rfl) ?_
      refine kg (C1 := R_Ga) (T := F_Ga) (N := 12) (ci := 0) (ref := "LineBreaker$Galley") (v := .ref (ad 18)) C w 17 0 iw_Ga rfl rfl (by decide) kw_142 rfl rfl d_Ga_isPlace_14 ?_
      refine lv_iload_n hx hb d_Ga_isPlace_17 rfl (lv_at hl 1 rfl) ?_
      refine ka_i (f := (S.1 18)) C w 18 rfl hw.1 d_Ga_isPlace_18 ?_
      have hw := hw.2
      refine lv_iconst (v := 5) hx hb d_Ga_isPlace_19 (by decide) ?_
      refine lv_icmp_eq (tgt := 27) hx hb d_Ga_isPlace_20 (by decide) (fun hc => ?_) (fun hc => ?_)
      · have hw := hw.1 hc
        refine lv_iconst (v := 0) hx hb d_Ga_isPlace_27 (by decide) ?_
        exact kf_z C hr d_Ga_isPlace_28 (Or.inl rfl) hw
      · have hw := hw.2 hc
        refine lv_iconst (v := 1) hx hb d_Ga_isPlace_23 (by decide) ?_
        refine lv_goto (tgt := 28) hx hb d_Ga_isPlace_24 (by decide) ?_
        exact kf_z C hr d_Ga_isPlace_28 (Or.inr rfl) hw
set_option maxHeartbeats 4000000 in
set_option maxRecDepth 100000 in
theorem c_Ga_isHyphen (l : Launch) (n0 : Nat) (G : va_G) (K : KT) (ad : Nat → Nat) (X : va_W) (S : ST) (p1 : Int32) (post : Int32 → Prop) (hw : wp_Ga_isHyphen S p1 post) : Met l y_Ga_isHyphen (Cond.code y_Ga_isHyphen prog_2_method_4_code 2 (some .boolean) :: gw) rm_Ga_isHyphen (va_Pc [.ref (ad 17), .int p1] (wb n0 G K (wC K ad S ++ X))) (rq_i post) 0 0 (fun _ => False) := by
  refine kb_start (own := "LineBreaker$Galley") (by decide +kernel) rfl ?_
  intro p e s m below meth c C hr hne w
  have hx := C.1
  have hb := C.2.1
  have hts := C.2.2.2.2.1
  have hl := lv_entry ([.ref (ad 17), .int p1]) (n := 2) (Nat.le_of_ble_eq_true rfl)
  rw [lg_entry_eq]
  generalize (lg_sl ([.ref (ad 17), .int p1]) ++ List.replicate (2 - (lg_sl ([.ref (ad 17), .int p1])).length) Slot.unset).toArray = ls at hl ⊢
  have hl : lv_has ls 2 [(0, .ref (ad 17)), (1, .int p1)] := hl
  unfold wp_Ga_isHyphen at hw
  refine lv_iload_n hx hb d_Ga_isHyphen_0 rfl (lv_at hl 1 rfl) ?_
  refine lv_iconst (v := (-1)) hx hb d_Ga_isHyphen_1 (by decide) ?_
  refine lv_icmp_eq (tgt := 19) hx hb d_Ga_isHyphen_2 (by decide) (fun hc => ?_) (fun hc => ?_)
  · have hw := hw.1 hc
    refine lv_iconst (v := 0) hx hb d_Ga_isHyphen_19 (by decide) ?_
    exact kf_z C hr d_Ga_isHyphen_20 (Or.inl rfl) hw
  · have hw := hw.2 hc
    refine lv_aload_n hx hb d_Ga_isHyphen_5 rfl (lv_at hl 0 rfl) ?_
    refine kg (C1 := R_Ga) (T := F_Ga) (N := 12) (ci := 0) (ref := "LineBreaker$Galley") (v := .ref (ad 18)) C w 17 0 iw_Ga rfl rfl (by decide) kw_142 rfl rfl d_Ga_isHyphen_6 ?_
    refine lv_iload_n hx hb d_Ga_isHyphen_9 rfl (lv_at hl 1 rfl) ?_
    refine ka_i (f := (S.1 18)) C w 18 rfl hw.1 d_Ga_isHyphen_10 ?_
    have hw := hw.2
    refine lv_iconst (v := 5) hx hb d_Ga_isHyphen_11 (by decide) ?_
    refine lv_icmp_ne (tgt := 19) hx hb d_Ga_isHyphen_12 (by decide) (fun hc => ?_) (fun hc => ?_)
    · have hw := hw.1 hc
      refine lv_iconst (v := 0) hx hb d_Ga_isHyphen_19 (by decide) ?_
      exact kf_z C hr d_Ga_isHyphen_20 (Or.inl rfl) hw
    · have hw := hw.2 hc
      refine lv_iconst (v := 1) hx hb d_Ga_isHyphen_15 (by decide) ?_
      refine lv_goto (tgt := 20) hx hb d_Ga_isHyphen_16 (by decide) ?_
      exact kf_z C hr d_Ga_isHyphen_20 (Or.inr rfl) hw
set_option maxHeartbeats 4000000 in
set_option maxRecDepth 100000 in
theorem w_Se_demerits_164 {S : ST} {post : Int64 → Prop} (C : cx p s m args meth c prog_9_method_7_code 9 "LineBreaker$Search" n0 G K) (hr : meth.sig.returnType = (some .long)) : ∀ (x1 : Int32) (x5 : Int64), wl_Se_demerits_164 S post x1 x5 → ∀ (ls : Array Slot), wn n0 G (wC K ad S ++ X) s s.heap [] → lv_has ls 9 [(0, .ref (ad 29)), (1, .int x1), (5, .long x5)] → W p l e rm_Se_demerits s m args below meth c s.heap [] 0 0 (MQ below (rq_l post) args s 0 0 (fun _ => False)) (F0 m 164 ls []) := by
  have hx := C.1
  have hb := C.2.1
  have hts := C.2.2.2.2.1
  intro x1 x5 hw ls w hl
  unfold wl_Se_demerits_164 at hw
  refine lv_aload_n hx hb d_Se_demerits_164 rfl (lv_at hl 0 rfl) ?_
  refine kg (C1 := R_Se) (T := F_Se) (N := 10) (ci := 7) (ref := "LineBreaker$Search") (v := .ref (ad 31)) C w 29 3 iw_Se rfl rfl (by decide) kw_298 rfl rfl d_Se_demerits_165 ?_
  refine kg (C1 := R_No) (T := F_No) (N := 6) (ci := 3) (ref := "LineBreaker$Nodes") (v := .ref (ad 34)) C w 31 2 iw_No rfl rfl (by decide) kw_248 rfl rfl d_Se_demerits_168 ?_
  refine lv_iload_n hx hb d_Se_demerits_171 rfl (lv_at hl 1 rfl) ?_
  refine ka_i (f := (S.1 34)) C w 34 rfl hw.1 d_Se_demerits_172 ?_
  have hw := hw.2
  refine lv_aload_n hx hb d_Se_demerits_173 rfl (lv_at hl 0 rfl) ?_
  refine kg (C1 := R_Se) (T := F_Se) (N := 10) (ci := 7) (ref := "LineBreaker$Search") (v := .ref (ad 30)) C w 29 2 iw_Se rfl rfl (by decide) kw_296 rfl rfl d_Se_demerits_174 ?_
  refine kg (C1 := R_Gu) (T := F_Gu) (N := 9) (ci := 1) (ref := "LineBreaker$Gauge") (v := .int (S.2.2 1925)) C w 30 5 iw_Gu rfl rfl (by decide) kw_209 rfl rfl d_Se_demerits_177 ?_
  refine lv_isub hx hb d_Se_demerits_180 ?_
  refine va_mabs hx hb (C.2.2.1.trans hl.1.symm) C.2.2.2.1 (hts _ kw_787) (hts _ kw_645) (hts _ kw_17) (hts _ kw_646) (Nat.le_of_ble_eq_true rfl) (Nat.le_of_ble_eq_true rfl) (Nat.le_of_ble_eq_true rfl) (Nat.le_of_ble_eq_true rfl) d_Se_demerits_181 ?_
  refine lv_topi (fun v1 ev1 => ?_)
  have hw := hw v1 ev1
  refine lv_iconst (v := 1) hx hb d_Se_demerits_184 (by decide) ?_
  refine lv_icmp_le (tgt := 204) hx hb d_Se_demerits_185 (by decide) (fun hc => ?_) (fun hc => ?_)
  · have hw := hw.1 hc
    refine lv_lload hx hb d_Se_demerits_204 (lv_at hl 2 rfl) ?_
    exact kf_l C hr d_Se_demerits_206 hw
  · have hw := hw.2 hc
    refine lv_lload hx hb d_Se_demerits_188 (lv_at hl 2 rfl) ?_
    refine lv_aload_n hx hb d_Se_demerits_190 rfl (lv_at hl 0 rfl) ?_
    refine kg (C1 := R_Se) (T := F_Se) (N := 10) (ci := 7) (ref := "LineBreaker$Search") (v := .ref (ad 11)) C w 29 1 iw_Se rfl rfl (by decide) kw_295 rfl rfl d_Se_demerits_191 ?_
    refine kg (C1 := R_St) (T := F_St) (N := 5) (ci := 8) (ref := "LineBreaker$Settings") (v := .ref (ad 12)) C w 11 0 iw_St rfl rfl (by decide) kw_111 rfl rfl d_Se_demerits_194 ?_
    refine lv_bipush (v := 7) hx hb d_Se_demerits_197 (by decide) ?_
    refine ka_i (f := (S.1 12)) C w 12 rfl hw.1 d_Se_demerits_199 ?_
    have hw := hw.2
    refine lv_i2l hx hb d_Se_demerits_200 rfl ?_
    refine lv_ladd hx hb d_Se_demerits_201 ?_
    refine lv_topl (fun v2 ev2 => ?_)
    have hw := hw v2 ev2
    refine lv_lstore (lv' := [(5, .long v2), (0, .ref (ad 29)), (1, .int x1)]) hx hb d_Se_demerits_202 hl (by decide) rfl (fun ls hl => ?_)
    refine lv_lload hx hb d_Se_demerits_204 (lv_at hl 0 rfl) ?_
    exact kf_l C hr d_Se_demerits_206 hw
set_option maxHeartbeats 4000000 in
set_option maxRecDepth 100000 in
theorem w_Se_demerits_89 {S : ST} {post : Int64 → Prop} (C : cx p s m args meth c prog_9_method_7_code 9 "LineBreaker$Search" n0 G K) (hr : meth.sig.returnType = (some .long)) : ∀ (x1 : Int32) (x2 : Int32) (x5 : Int64), wl_Se_demerits_89 S post x1 x2 x5 → ∀ (ls : Array Slot), wn n0 G (wC K ad S ++ X) s s.heap [] → lv_has ls 9 [(0, .ref (ad 29)), (1, .int x1), (2, .int x2), (5, .long x5)] → W p l e rm_Se_demerits s m args below meth c s.heap [] 0 0 (MQ below (rq_l post) args s 0 0 (fun _ => False)) (F0 m 89 ls []) := by
  have hx := C.1
  have hb := C.2.1
  have hts := C.2.2.2.2.1
  intro x1 x2 x5 hw ls w hl
  unfold wl_Se_demerits_89 at hw
  refine lv_aload_n hx hb d_Se_demerits_89 rfl (lv_at hl 0 rfl) ?_
  refine kg (C1 := R_Se) (T := F_Se) (N := 10) (ci := 7) (ref := "LineBreaker$Search") (v := .ref (ad 17)) C w 29 0 iw_Se rfl rfl (by decide) kw_293 rfl rfl d_Se_demerits_90 ?_
  refine lv_aload_n hx hb d_Se_demerits_93 rfl (lv_at hl 0 rfl) ?_
  refine kg (C1 := R_Se) (T := F_Se) (N := 10) (ci := 7) (ref := "LineBreaker$Search") (v := .ref (ad 31)) C w 29 3 iw_Se rfl rfl (by decide) kw_298 rfl rfl d_Se_demerits_94 ?_
  refine kg (C1 := R_No) (T := F_No) (N := 6) (ci := 3) (ref := "LineBreaker$Nodes") (v := .ref (ad 32)) C w 31 0 iw_No rfl rfl (by decide) kw_240 rfl rfl d_Se_demerits_97 ?_
  refine lv_iload_n hx hb d_Se_demerits_100 rfl (lv_at hl 1 rfl) ?_
  refine ka_i (f := (S.1 32)) C w 32 rfl hw.1 d_Se_demerits_101 ?_
  have hw := hw.2
  refine kd_i (kr_V (y := y_Ga_isHyphen) (C1 := R_Ga) (T := F_Ga) (N := 12) (ci := 0) (q0 := 17) (As := [.int ((S.1 32) x1.toNatClampNeg)]) (n := 1) C w (c_Ga_isHyphen l n0 G K ad X S ((S.1 32) x1.toNatClampNeg) _ hw) (gw_V kw_783 kw_784 kw_785 kw_5 kw_786) (by decide +kernel) rfl rfl ⟨Nat.le_of_ble_eq_true rfl, Nat.le_of_ble_eq_true rfl⟩ rfl rfl rfl hl.1 rfl (Nat.le_of_ble_eq_true rfl) d_Se_demerits_102 ⟨Nat.le_of_ble_eq_true rfl, Nat.le_of_ble_eq_true rfl⟩) (fun r1 hw => ?_)
  refine lv_if_eq (tgt := 164) hx hb d_Se_demerits_105 (by decide) (fun hc => ?_) (fun hc => ?_)
  · have hw := hw.1 hc
    exact w_Se_demerits_164 C hr  x1 x5 hw _ w (lv_sub hl [0, 1, 3] rfl)
  · have hw := hw.2 hc
    refine lv_aload_n hx hb d_Se_demerits_108 rfl (lv_at hl 0 rfl) ?_
    refine kg (C1 := R_Se) (T := F_Se) (N := 10) (ci := 7) (ref := "LineBreaker$Search") (v := .ref (ad 17)) C w 29 0 iw_Se rfl rfl (by decide) kw_293 rfl rfl d_Se_demerits_109 ?_
    refine lv_iload_n hx hb d_Se_demerits_112 rfl (lv_at hl 2 rfl) ?_
    refine kd_i (kr_V (y := y_Ga_isHyphen) (C1 := R_Ga) (T := F_Ga) (N := 12) (ci := 0) (q0 := 17) (As := [.int x2]) (n := 1) C w (c_Ga_isHyphen l n0 G K ad X S x2 _ hw) (gw_V kw_783 kw_784 kw_785 kw_5 kw_786) (by decide +kernel) rfl rfl ⟨Nat.le_of_ble_eq_true rfl, Nat.le_of_ble_eq_true rfl⟩ rfl rfl rfl hl.1 rfl (Nat.le_of_ble_eq_true rfl) d_Se_demerits_113 ⟨Nat.le_of_ble_eq_true rfl, Nat.le_of_ble_eq_true rfl⟩) (fun r2 hw => ?_)
    refine lv_if_eq (tgt := 137) hx hb d_Se_demerits_116 (by decide) (fun hc => ?_) (fun hc => ?_)
    · have hw := hw.1 hc
      refine lv_iload_n hx hb d_Se_demerits_137 rfl (lv_at hl 2 rfl) ?_
      refine lv_aload_n hx hb d_Se_demerits_138 rfl (lv_at hl 0 rfl) ?_
      refine kg (C1 := R_Se) (T := F_Se) (N := 10) (ci := 7) (ref := "LineBreaker$Search") (v := .ref (ad 17)) C w 29 0 iw_Se rfl rfl (by decide) kw_293 rfl rfl d_Se_demerits_139 ?_
      refine kg (C1 := R_Ga) (T := F_Ga) (N := 12) (ci := 0) (ref := "LineBreaker$Galley") (v := .int (S.2.2 1099)) C w 17 11 iw_Ga rfl rfl (by decide) kw_160 rfl rfl d_Se_demerits_142 ?_
      refine lv_icmp_ne (tgt := 164) hx hb d_Se_demerits_145 (by decide) (fun hc => ?_) (fun hc => ?_)
      · have hw := hw.1 hc
        exact w_Se_demerits_164 C hr  x1 x5 hw _ w (lv_sub hl [0, 1, 3] rfl)
      · have hw := hw.2 hc
        refine lv_lload hx hb d_Se_demerits_148 (lv_at hl 3 rfl) ?_
        refine lv_aload_n hx hb d_Se_demerits_150 rfl (lv_at hl 0 rfl) ?_
        refine kg (C1 := R_Se) (T := F_Se) (N := 10) (ci := 7) (ref := "LineBreaker$Search") (v := .ref (ad 11)) C w 29 1 iw_Se rfl rfl (by decide) kw_295 rfl rfl d_Se_demerits_151 ?_
        refine kg (C1 := R_St) (T := F_St) (N := 5) (ci := 8) (ref := "LineBreaker$Settings") (v := .ref (ad 12)) C w 11 0 iw_St rfl rfl (by decide) kw_111 rfl rfl d_Se_demerits_154 ?_
        refine lv_bipush (v := 6) hx hb d_Se_demerits_157 (by decide) ?_
        refine ka_i (f := (S.1 12)) C w 12 rfl hw.1 d_Se_demerits_159 ?_
        have hw := hw.2
        refine lv_i2l hx hb d_Se_demerits_160 rfl ?_
        refine lv_ladd hx hb d_Se_demerits_161 ?_
        refine lv_topl (fun v3 ev3 => ?_)
        have hw := hw v3 ev3
        refine lv_lstore (lv' := [(5, .long v3), (0, .ref (ad 29)), (1, .int x1), (2, .int x2)]) hx hb d_Se_demerits_162 hl (by decide) rfl (fun ls hl => ?_)
        exact w_Se_demerits_164 C hr  x1 v3 hw _ w (lv_sub hl [1, 2, 0] rfl)
    · have hw := hw.2 hc
      refine lv_lload hx hb d_Se_demerits_119 (lv_at hl 3 rfl) ?_
      refine lv_aload_n hx hb d_Se_demerits_121 rfl (lv_at hl 0 rfl) ?_
      refine kg (C1 := R_Se) (T := F_Se) (N := 10) (ci := 7) (ref := "LineBreaker$Search") (v := .ref (ad 11)) C w 29 1 iw_Se rfl rfl (by decide) kw_295 rfl rfl d_Se_demerits_122 ?_
      refine kg (C1 := R_St) (T := F_St) (N := 5) (ci := 8) (ref := "LineBreaker$Settings") (v := .ref (ad 12)) C w 11 0 iw_St rfl rfl (by decide) kw_111 rfl rfl d_Se_demerits_125 ?_
      refine lv_iconst (v := 5) hx hb d_Se_demerits_128 (by decide) ?_
      refine ka_i (f := (S.1 12)) C w 12 rfl hw.1 d_Se_demerits_129 ?_
      have hw := hw.2
      refine lv_i2l hx hb d_Se_demerits_130 rfl ?_
      refine lv_ladd hx hb d_Se_demerits_131 ?_
      refine lv_topl (fun v4 ev4 => ?_)
      have hw := hw v4 ev4
      refine lv_lstore (lv' := [(5, .long v4), (0, .ref (ad 29)), (1, .int x1), (2, .int x2)]) hx hb d_Se_demerits_132 hl (by decide) rfl (fun ls hl => ?_)
      refine lv_goto (tgt := 164) hx hb d_Se_demerits_134 (by decide) ?_
      exact w_Se_demerits_164 C hr  x1 v4 hw _ w (lv_sub hl [1, 2, 0] rfl)
set_option maxHeartbeats 4000000 in
set_option maxRecDepth 100000 in
theorem w_Se_demerits_36 {S : ST} {post : Int64 → Prop} (C : cx p s m args meth c prog_9_method_7_code 9 "LineBreaker$Search" n0 G K) (hr : meth.sig.returnType = (some .long)) : ∀ (x1 : Int32) (x2 : Int32) (z0 : Int64), wl_Se_demerits_36 S post x1 x2 z0 → ∀ (ls : Array Slot), wn n0 G (wC K ad S ++ X) s s.heap [] → lv_has ls 9 [(0, .ref (ad 29)), (1, .int x1), (2, .int x2)] → W p l e rm_Se_demerits s m args below meth c s.heap [] 0 0 (MQ below (rq_l post) args s 0 0 (fun _ => False)) (F0 m 36 ls [.long z0]) := by
  have hx := C.1
  have hb := C.2.1
  have hts := C.2.2.2.2.1
  intro x1 x2 z0 hw ls w hl
  unfold wl_Se_demerits_36 at hw
  refine lv_lstore (lv' := [(5, .long z0), (0, .ref (ad 29)), (1, .int x1), (2, .int x2)]) hx hb d_Se_demerits_36 hl (by decide) rfl (fun ls hl => ?_)
  refine lv_aload_n hx hb d_Se_demerits_38 rfl (lv_at hl 1 rfl) ?_
  refine kg (C1 := R_Se) (T := F_Se) (N := 10) (ci := 7) (ref := "LineBreaker$Search") (v := .ref (ad 17)) C w 29 0 iw_Se rfl rfl (by decide) kw_293 rfl rfl d_Se_demerits_39 ?_
  refine kg (C1 := R_Ga) (T := F_Ga) (N := 12) (ci := 0) (ref := "LineBreaker$Galley") (v := .ref (ad 19)) C w 17 1 iw_Ga rfl rfl (by decide) kw_144 rfl rfl d_Se_demerits_42 ?_
  refine lv_iload_n hx hb d_Se_demerits_45 rfl (lv_at hl 3 rfl) ?_
  refine ka_i (f := (S.1 19)) C w 19 rfl hw.1 d_Se_demerits_46 ?_
  have hw := hw.2
  refine lv_i2l hx hb d_Se_demerits_47 rfl ?_
  refine lv_topl (fun v1 ev1 => ?_)
  have hw := hw v1 ev1
  refine lv_lstore (lv' := [(7, .long v1), (5, .long z0), (0, .ref (ad 29)), (1, .int x1), (2, .int x2)]) hx hb d_Se_demerits_48 hl (by decide) rfl (fun ls hl => ?_)
  refine lv_lload hx hb d_Se_demerits_50 (lv_at hl 0 rfl) ?_
  refine lv_lconst (v := 0) hx hb d_Se_demerits_52 (by decide) ?_
  refine W.lcmp hx hb d_Se_demerits_53 ?_
  refine lv_if_le (tgt := 70) hx hb d_Se_demerits_54 (by decide) (fun hc => ?_) (fun hc => ?_)
  · have hw := hw.1 hc
    refine lv_lload hx hb d_Se_demerits_70 (lv_at hl 0 rfl) ?_
    refine lv_ldc2 (v := (-10000)) hx hb C.2.2.2.1 (hts _ kw_782) d_Se_demerits_72 ?_
    refine W.lcmp hx hb d_Se_demerits_75 ?_
    refine lv_if_eq (tgt := 89) hx hb d_Se_demerits_76 (by decide) (fun hc => ?_) (fun hc => ?_)
    · have hw := hw.1 hc
      exact w_Se_demerits_89 C hr  x1 x2 z0 hw _ w (lv_sub hl [2, 3, 4, 1] rfl)
    · have hw := hw.2 hc
      refine lv_lload hx hb d_Se_demerits_79 (lv_at hl 1 rfl) ?_
      refine lv_lload hx hb d_Se_demerits_81 (lv_at hl 0 rfl) ?_
      refine lv_lload hx hb d_Se_demerits_83 (lv_at hl 0 rfl) ?_
      refine lv_lmul hx hb d_Se_demerits_85 ?_
      refine lv_lsub hx hb d_Se_demerits_86 ?_
      refine lv_topl (fun v2 ev2 => ?_)
      have hw := hw v2 ev2
      refine lv_lstore (lv' := [(5, .long v2), (7, .long v1), (0, .ref (ad 29)), (1, .int x1), (2, .int x2)]) hx hb d_Se_demerits_87 hl (by decide) rfl (fun ls hl => ?_)
      exact w_Se_demerits_89 C hr  x1 x2 v2 hw _ w (lv_sub hl [2, 3, 4, 0] rfl)
  · have hw := hw.2 hc
    refine lv_lload hx hb d_Se_demerits_57 (lv_at hl 1 rfl) ?_
    refine lv_lload hx hb d_Se_demerits_59 (lv_at hl 0 rfl) ?_
    refine lv_lload hx hb d_Se_demerits_61 (lv_at hl 0 rfl) ?_
    refine lv_lmul hx hb d_Se_demerits_63 ?_
    refine lv_ladd hx hb d_Se_demerits_64 ?_
    refine lv_topl (fun v3 ev3 => ?_)
    have hw := hw v3 ev3
    refine lv_lstore (lv' := [(5, .long v3), (7, .long v1), (0, .ref (ad 29)), (1, .int x1), (2, .int x2)]) hx hb d_Se_demerits_65 hl (by decide) rfl (fun ls hl => ?_)
    refine lv_goto (tgt := 89) hx hb d_Se_demerits_67 (by decide) ?_
    exact w_Se_demerits_89 C hr  x1 x2 v3 hw _ w (lv_sub hl [2, 3, 4, 0] rfl)
set_option maxHeartbeats 4000000 in
set_option maxRecDepth 100000 in
theorem c_Se_demerits (l : Launch) (n0 : Nat) (G : va_G) (K : KT) (ad : Nat → Nat) (X : va_W) (S : ST) (p1 : Int32) (p2 : Int32) (post : Int64 → Prop) (hw : wp_Se_demerits S p1 p2 post) : Met l y_Se_demerits (Cond.code y_Se_demerits prog_9_method_7_code 9 (some .long) :: gw) rm_Se_demerits (va_Pc [.ref (ad 29), .int p1, .int p2] (wb n0 G K (wC K ad S ++ X))) (rq_l post) 0 0 (fun _ => False) := by
  refine kb_start (own := "LineBreaker$Search") (by decide +kernel) rfl ?_
  intro p e s m below meth c C hr hne w
  have hx := C.1
  have hb := C.2.1
  have hts := C.2.2.2.2.1
  have hl := lv_entry ([.ref (ad 29), .int p1, .int p2]) (n := 9) (Nat.le_of_ble_eq_true rfl)
  rw [lg_entry_eq]
  generalize (lg_sl ([.ref (ad 29), .int p1, .int p2]) ++ List.replicate (9 - (lg_sl ([.ref (ad 29), .int p1, .int p2])).length) Slot.unset).toArray = ls at hl ⊢
  have hl : lv_has ls 9 [(0, .ref (ad 29)), (1, .int p1), (2, .int p2)] := hl
  unfold wp_Se_demerits at hw
  refine lv_aload_n hx hb d_Se_demerits_0 rfl (lv_at hl 0 rfl) ?_
  refine kg (C1 := R_Se) (T := F_Se) (N := 10) (ci := 7) (ref := "LineBreaker$Search") (v := .ref (ad 11)) C w 29 1 iw_Se rfl rfl (by decide) kw_295 rfl rfl d_Se_demerits_1 ?_
  refine kg (C1 := R_St) (T := F_St) (N := 5) (ci := 8) (ref := "LineBreaker$Settings") (v := .ref (ad 12)) C w 11 0 iw_St rfl rfl (by decide) kw_111 rfl rfl d_Se_demerits_4 ?_
  refine lv_iconst (v := 2) hx hb d_Se_demerits_7 (by decide) ?_
  refine ka_i (f := (S.1 12)) C w 12 rfl hw.1 d_Se_demerits_8 ?_
  have hw := hw.2
  refine lv_aload_n hx hb d_Se_demerits_9 rfl (lv_at hl 0 rfl) ?_
  refine kg (C1 := R_Se) (T := F_Se) (N := 10) (ci := 7) (ref := "LineBreaker$Search") (v := .ref (ad 30)) C w 29 2 iw_Se rfl rfl (by decide) kw_296 rfl rfl d_Se_demerits_10 ?_
  refine kg (C1 := R_Gu) (T := F_Gu) (N := 9) (ci := 1) (ref := "LineBreaker$Gauge") (v := .int (S.2.2 1924)) C w 30 4 iw_Gu rfl rfl (by decide) kw_204 rfl rfl d_Se_demerits_13 ?_
  refine lv_iadd hx hb d_Se_demerits_16 ?_
  refine lv_i2l hx hb d_Se_demerits_17 rfl ?_
  refine lv_topl (fun v1 ev1 => ?_)
  have hw := hw v1 ev1
  refine lv_lstore_n (lv' := [(3, .long v1), (0, .ref (ad 29)), (1, .int p1), (2, .int p2)]) hx hb d_Se_demerits_18 rfl hl (by decide) rfl (fun ls hl => ?_)
  refine lv_lload_n hx hb d_Se_demerits_19 rfl (lv_at hl 0 rfl) ?_
  refine lv_ldc2 (v := 10000) hx hb C.2.2.2.1 (hts _ kw_780) d_Se_demerits_20 ?_
  refine W.lcmp hx hb d_Se_demerits_23 ?_
  refine lv_if_lt (tgt := 33) hx hb d_Se_demerits_24 (by decide) (fun hc => ?_) (fun hc => ?_)
  · have hw := hw.1 hc
    refine lv_lload_n hx hb d_Se_demerits_33 rfl (lv_at hl 0 rfl) ?_
    refine lv_lload_n hx hb d_Se_demerits_34 rfl (lv_at hl 0 rfl) ?_
    refine lv_lmul hx hb d_Se_demerits_35 ?_
    exact w_Se_demerits_36 C hr  p1 p2 (v1 * v1) hw _ w (lv_sub hl [1, 2, 3] rfl)
  · have hw := hw.2 hc
    refine lv_ldc2 (v := 100000000) hx hb C.2.2.2.1 (hts _ kw_781) d_Se_demerits_27 ?_
    refine lv_goto (tgt := 36) hx hb d_Se_demerits_30 (by decide) ?_
    exact w_Se_demerits_36 C hr  p1 p2 100000000 hw _ w (lv_sub hl [1, 2, 3] rfl)
set_option maxHeartbeats 4000000 in
set_option maxRecDepth 100000 in
theorem w_Of_take_48 {S : ST} {post : (Nat → Int32) → (Nat → Int64) → Int32 → Int32 → Prop} (C : cx p s m args meth c prog_6_method_4_code 7 "LineBreaker$Offers" n0 G K) (hr : meth.sig.returnType = none) : ∀ (a39 : (Nat → Int32)) (l38 : (Nat → Int64)) (x2 : Int32), wl_Of_take_48 S post a39 l38 x2 → ∀ (H : Heap) (locs : List Loc) (ls : Array Slot), wn n0 G (wC K ad (sL (sA S 39 a39) 38 l38) ++ X) s H locs → lv_has ls 7 [(0, .ref (ad 37)), (2, .int x2)] → W p l e rm_Of_take s m args below meth c H locs 0 0 (MQ below (va_Qv (fun (u : (Nat → Int32) × (Nat → Int64) × Int32 × Int32) => post u.1 u.2.1 u.2.2.1 u.2.2.2) (fun (u : (Nat → Int32) × (Nat → Int64) × Int32 × Int32) t => we n0 G (wC K ad (sI (sI (sL (sA S 39 u.1) 38 u.2.1) 2370 u.2.2.1) 2371 u.2.2.2) ++ X) t) (al n0)) args s 0 0 (al n0)) (F0 m 48 ls []) := by
  have hx := C.1
  have hb := C.2.1
  have hts := C.2.2.2.2.1
  intro a39 l38 x2 hw H locs ls w hl
  unfold wl_Of_take_48 at hw
  refine lv_aload_n hx hb d_Of_take_48 rfl (lv_at hl 0 rfl) ?_
  refine lv_aload_n hx hb d_Of_take_49 rfl (lv_at hl 0 rfl) ?_
  refine kg (C1 := R_Of) (T := F_Of) (N := 4) (ci := 4) (ref := "LineBreaker$Offers") (v := .int (S.2.2 2370)) C w 37 2 iw_Of rfl rfl (by decide) kw_282 rfl rfl d_Of_take_50 ?_
  refine lv_iload_n hx hb d_Of_take_53 rfl (lv_at hl 1 rfl) ?_
  refine va_mmin hx hb (C.2.2.1.trans hl.1.symm) C.2.2.2.1 (hts _ kw_796) (hts _ kw_563) (hts _ kw_17) (hts _ kw_564) (Nat.le_of_ble_eq_true rfl) (Nat.le_of_ble_eq_true rfl) (Nat.le_of_ble_eq_true rfl) (Nat.le_of_ble_eq_true rfl) d_Of_take_54 ?_
  refine lv_topi (fun v1 ev1 => ?_)
  have hw := hw v1 ev1
  refine kp (C1 := R_Of) (T := F_Of) (N := 4) (ci := 4) (ty0 := t_Of) (ref := "LineBreaker$Offers") (w2 := wC K ad (sI (sL (sA S 39 a39) 38 l38) 2370 v1) ++ X) C w 37 2 iw_Of tk_Of n_Of rfl rfl (by decide) kw_282 rfl rfl rfl rfl (Nat.le_of_ble_eq_true rfl) rfl d_Of_take_57 (fun H locs w => ?_)
  refine lv_aload_n hx hb d_Of_take_60 rfl (lv_at hl 0 rfl) ?_
  refine lv_aload_n hx hb d_Of_take_61 rfl (lv_at hl 0 rfl) ?_
  refine kg (C1 := R_Of) (T := F_Of) (N := 4) (ci := 4) (ref := "LineBreaker$Offers") (v := .int (S.2.2 2371)) C w 37 3 iw_Of rfl rfl (by decide) kw_283 rfl rfl d_Of_take_62 ?_
  refine lv_iload_n hx hb d_Of_take_65 rfl (lv_at hl 1 rfl) ?_
  refine va_mmax hx hb (C.2.2.1.trans hl.1.symm) C.2.2.2.1 (hts _ kw_797) (hts _ kw_525) (hts _ kw_17) (hts _ kw_526) (Nat.le_of_ble_eq_true rfl) (Nat.le_of_ble_eq_true rfl) (Nat.le_of_ble_eq_true rfl) (Nat.le_of_ble_eq_true rfl) d_Of_take_66 ?_
  refine lv_topi (fun v2 ev2 => ?_)
  have hw := hw v2 ev2
  refine kp (C1 := R_Of) (T := F_Of) (N := 4) (ci := 4) (ty0 := t_Of) (ref := "LineBreaker$Offers") (w2 := wC K ad (sI (sI (sL (sA S 39 a39) 38 l38) 2370 v1) 2371 v2) ++ X) C w 37 3 iw_Of tk_Of n_Of rfl rfl (by decide) kw_283 rfl rfl rfl rfl (Nat.le_of_ble_eq_true rfl) rfl d_Of_take_69 (fun H locs w => ?_)
  exact ke_v (post := (fun (u : (Nat → Int32) × (Nat → Int64) × Int32 × Int32) => post u.1 u.2.1 u.2.2.1 u.2.2.2)) (st := (fun (u : (Nat → Int32) × (Nat → Int64) × Int32 × Int32) => wC K ad (sI (sI (sL (sA S 39 u.1) 38 u.2.1) 2370 u.2.2.1) 2371 u.2.2.2) ++ X)) (u := (a39, l38, v1, v2)) C hr d_Of_take_72 (wn_eq w rfl) hw
set_option maxHeartbeats 4000000 in
set_option maxRecDepth 100000 in
theorem w_Of_take_31 {S : ST} {post : (Nat → Int32) → (Nat → Int64) → Int32 → Int32 → Prop} (C : cx p s m args meth c prog_6_method_4_code 7 "LineBreaker$Offers" n0 G K) (hr : meth.sig.returnType = none) : ∀ (x1 : Int32) (x2 : Int32) (x4 : Int64) (x6 : Int32), wl_Of_take_31 S post x1 x2 x4 x6 → ∀ (H : Heap) (locs : List Loc) (ls : Array Slot), wn n0 G (wC K ad S ++ X) s H locs → lv_has ls 7 [(0, .ref (ad 37)), (1, .int x1), (2, .int x2), (4, .long x4), (6, .int x6)] → W p l e rm_Of_take s m args below meth c H locs 0 0 (MQ below (va_Qv (fun (u : (Nat → Int32) × (Nat → Int64) × Int32 × Int32) => post u.1 u.2.1 u.2.2.1 u.2.2.2) (fun (u : (Nat → Int32) × (Nat → Int64) × Int32 × Int32) t => we n0 G (wC K ad (sI (sI (sL (sA S 39 u.1) 38 u.2.1) 2370 u.2.2.1) 2371 u.2.2.2) ++ X) t) (al n0)) args s 0 0 (al n0)) (F0 m 31 ls []) := by
  have hx := C.1
  have hb := C.2.1
  have hts := C.2.2.2.2.1
  intro x1 x2 x4 x6 hw H locs ls w hl
  unfold wl_Of_take_31 at hw
  refine lv_aload_n hx hb d_Of_take_31 rfl (lv_at hl 0 rfl) ?_
  refine kg (C1 := R_Of) (T := F_Of) (N := 4) (ci := 4) (ref := "LineBreaker$Offers") (v := .ref (ad 39)) C w 37 1 iw_Of rfl rfl (by decide) kw_281 rfl rfl d_Of_take_32 ?_
  refine lv_iload hx hb d_Of_take_35 (lv_at hl 4 rfl) ?_
  refine lv_iload_n hx hb d_Of_take_37 rfl (lv_at hl 1 rfl) ?_
  obtain ⟨f1, ef1⟩ : ∃ z : Nat → Int32, z = upd (S.1 39) x6.toNatClampNeg x1 := ⟨_, rfl⟩
  refine ks_i (f := (S.1 39)) (w2 := wC K ad (sA S 39 f1) ++ X) C w 39 rfl hw.1 (by rw [← ef1]; rfl) d_Of_take_38 (fun H locs w => ?_)
  have hw := hw.2 f1 ef1
  refine lv_aload_n hx hb d_Of_take_39 rfl (lv_at hl 0 rfl) ?_
  refine kg (C1 := R_Of) (T := F_Of) (N := 4) (ci := 4) (ref := "LineBreaker$Offers") (v := .ref (ad 38)) C w 37 0 iw_Of rfl rfl (by decide) kw_280 rfl rfl d_Of_take_40 ?_
  refine lv_iload hx hb d_Of_take_43 (lv_at hl 4 rfl) ?_
  refine lv_lload hx hb d_Of_take_45 (lv_at hl 3 rfl) ?_
  obtain ⟨f2, ef2⟩ : ∃ z : Nat → Int64, z = vp_updL (S.2.1 38) x6.toNatClampNeg x4 := ⟨_, rfl⟩
  refine ks_l (f := (S.2.1 38)) (w2 := wC K ad (sL (sA S 39 f1) 38 f2) ++ X) C w 38 rfl hw.1 (by rw [← ef2]; rfl) d_Of_take_47 (fun H locs w => ?_)
  have hw := hw.2 f2 ef2
  exact w_Of_take_48 C hr  f1 f2 x2 hw _ _ _ (wn_eq w rfl) (lv_sub hl [0, 2] rfl)
set_option maxHeartbeats 4000000 in
set_option maxRecDepth 100000 in
theorem c_Of_take (l : Launch) (n0 : Nat) (G : va_G) (K : KT) (ad : Nat → Nat) (X : va_W) (S : ST) (p1 : Int32) (p2 : Int32) (p3 : Int32) (p4 : Int64) (post : (Nat → Int32) → (Nat → Int64) → Int32 → Int32 → Prop) (hw : wp_Of_take S p1 p2 p3 p4 post) : Met l y_Of_take (Cond.code y_Of_take prog_6_method_4_code 7 none :: gw) rm_Of_take (va_Pc [.ref (ad 37), .int p1, .int p2, .int p3, .long p4] (wb n0 G K (wC K ad S ++ X))) (va_Qv (fun (u : (Nat → Int32) × (Nat → Int64) × Int32 × Int32) => post u.1 u.2.1 u.2.2.1 u.2.2.2) (fun (u : (Nat → Int32) × (Nat → Int64) × Int32 × Int32) t => we n0 G (wC K ad (sI (sI (sL (sA S 39 u.1) 38 u.2.1) 2370 u.2.2.1) 2371 u.2.2.2) ++ X) t) (al n0)) 0 0 (al n0) := by
  refine kb_start (own := "LineBreaker$Offers") (by decide +kernel) rfl ?_
  intro p e s m below meth c C hr hne w
  have hx := C.1
  have hb := C.2.1
  have hts := C.2.2.2.2.1
  have hl := lv_entry ([.ref (ad 37), .int p1, .int p2, .int p3, .long p4]) (n := 7) (Nat.le_of_ble_eq_true rfl)
  rw [lg_entry_eq]
  generalize (lg_sl ([.ref (ad 37), .int p1, .int p2, .int p3, .long p4]) ++ List.replicate (7 - (lg_sl ([.ref (ad 37), .int p1, .int p2, .int p3, .long p4])).length) Slot.unset).toArray = ls at hl ⊢
  have hl : lv_has ls 7 [(0, .ref (ad 37)), (1, .int p1), (2, .int p2), (3, .int p3), (4, .long p4)] := hl
  unfold wp_Of_take at hw
  refine lv_iload_n hx hb d_Of_take_0 rfl (lv_at hl 2 rfl) ?_
  refine lv_iconst (v := 4) hx hb d_Of_take_1 (by decide) ?_
  refine lv_imul hx hb d_Of_take_2 ?_
  refine lv_iload_n hx hb d_Of_take_3 rfl (lv_at hl 3 rfl) ?_
  refine lv_iadd hx hb d_Of_take_4 ?_
  refine lv_topi (fun v1 ev1 => ?_)
  have hw := hw v1 ev1
  refine lv_istore (lv' := [(6, .int v1), (0, .ref (ad 37)), (1, .int p1), (2, .int p2), (3, .int p3), (4, .long p4)]) hx hb d_Of_take_5 hl (by decide) rfl (fun ls hl => ?_)
  refine lv_aload_n hx hb d_Of_take_7 rfl (lv_at hl 1 rfl) ?_
  refine kg (C1 := R_Of) (T := F_Of) (N := 4) (ci := 4) (ref := "LineBreaker$Offers") (v := .ref (ad 39)) C w 37 1 iw_Of rfl rfl (by decide) kw_281 rfl rfl d_Of_take_8 ?_
  refine lv_iload hx hb d_Of_take_11 (lv_at hl 0 rfl) ?_
  refine ka_i (f := (S.1 39)) C w 39 rfl hw.1 d_Of_take_13 ?_
  have hw := hw.2
  refine lv_iconst (v := (-1)) hx hb d_Of_take_14 (by decide) ?_
  refine lv_icmp_eq (tgt := 31) hx hb d_Of_take_15 (by decide) (fun hc => ?_) (fun hc => ?_)
  · have hw := hw.1 hc
    exact w_Of_take_31 C hr  p1 p2 p4 v1 hw _ _ _ (wn_eq w rfl) (lv_sub hl [1, 2, 3, 5, 0] rfl)
  · have hw := hw.2 hc
    refine lv_lload hx hb d_Of_take_18 (lv_at hl 5 rfl) ?_
    refine lv_aload_n hx hb d_Of_take_20 rfl (lv_at hl 1 rfl) ?_
    refine kg (C1 := R_Of) (T := F_Of) (N := 4) (ci := 4) (ref := "LineBreaker$Offers") (v := .ref (ad 38)) C w 37 0 iw_Of rfl rfl (by decide) kw_280 rfl rfl d_Of_take_21 ?_
    refine lv_iload hx hb d_Of_take_24 (lv_at hl 0 rfl) ?_
    refine ka_l (f := (S.2.1 38)) C w 38 rfl hw.1 d_Of_take_26 ?_
    have hw := hw.2
    refine W.lcmp hx hb d_Of_take_27 ?_
    refine lv_if_ge (tgt := 48) hx hb d_Of_take_28 (by decide) (fun hc => ?_) (fun hc => ?_)
    · have hw := hw.1 hc
      exact w_Of_take_48 C hr  (S.1 39) (S.2.1 38) p2 hw _ _ _ (wn_eq w rfl) (lv_sub hl [1, 3] rfl)
    · have hw := hw.2 hc
      exact w_Of_take_31 C hr  p1 p2 p4 v1 hw _ _ _ (wn_eq w rfl) (lv_sub hl [1, 2, 3, 5, 0] rfl)
set_option maxHeartbeats 4000000 in
set_option maxRecDepth 100000 in
theorem c_Se_offerFrom (l : Launch) (n0 : Nat) (G : va_G) (K : KT) (ad : Nat → Nat) (X : va_W) (S : ST) (p1 : Int32) (p2 : Int64) (post : (Nat → Int32) → (Nat → Int64) → Int32 → Int32 → Prop) (hw : wp_Se_offerFrom S p1 p2 post) : Met l y_Se_offerFrom (Cond.code y_Se_offerFrom prog_9_method_5_code 4 none :: gw) rm_Se_offerFrom (va_Pc [.ref (ad 29), .int p1, .long p2] (wb n0 G K (wC K ad S ++ X))) (va_Qv (fun (u : (Nat → Int32) × (Nat → Int64) × Int32 × Int32) => post u.1 u.2.1 u.2.2.1 u.2.2.2) (fun (u : (Nat → Int32) × (Nat → Int64) × Int32 × Int32) t => we n0 G (wC K ad (sI (sI (sL (sA S 39 u.1) 38 u.2.1) 2370 u.2.2.1) 2371 u.2.2.2) ++ X) t) (al n0)) 0 0 (al n0) := by
  refine kb_start (own := "LineBreaker$Search") (by decide +kernel) rfl ?_
  intro p e s m below meth c C hr hne w
  have hx := C.1
  have hb := C.2.1
  have hts := C.2.2.2.2.1
  have hl := lv_entry ([.ref (ad 29), .int p1, .long p2]) (n := 4) (Nat.le_of_ble_eq_true rfl)
  rw [lg_entry_eq]
  generalize (lg_sl ([.ref (ad 29), .int p1, .long p2]) ++ List.replicate (4 - (lg_sl ([.ref (ad 29), .int p1, .long p2])).length) Slot.unset).toArray = ls at hl ⊢
  have hl : lv_has ls 4 [(0, .ref (ad 29)), (1, .int p1), (2, .long p2)] := hl
  unfold wp_Se_offerFrom at hw
  refine lv_aload_n hx hb d_Se_offerFrom_0 rfl (lv_at hl 0 rfl) ?_
  refine kg (C1 := R_Se) (T := F_Se) (N := 10) (ci := 7) (ref := "LineBreaker$Search") (v := .ref (ad 37)) C w 29 4 iw_Se rfl rfl (by decide) kw_300 rfl rfl d_Se_offerFrom_1 ?_
  refine lv_iload_n hx hb d_Se_offerFrom_4 rfl (lv_at hl 1 rfl) ?_
  refine lv_aload_n hx hb d_Se_offerFrom_5 rfl (lv_at hl 0 rfl) ?_
  refine kg (C1 := R_Se) (T := F_Se) (N := 10) (ci := 7) (ref := "LineBreaker$Search") (v := .ref (ad 31)) C w 29 3 iw_Se rfl rfl (by decide) kw_298 rfl rfl d_Se_offerFrom_6 ?_
  refine kg (C1 := R_No) (T := F_No) (N := 6) (ci := 3) (ref := "LineBreaker$Nodes") (v := .ref (ad 33)) C w 31 1 iw_No rfl rfl (by decide) kw_244 rfl rfl d_Se_offerFrom_9 ?_
  refine lv_iload_n hx hb d_Se_offerFrom_12 rfl (lv_at hl 1 rfl) ?_
  refine ka_i (f := (S.1 33)) C w 33 rfl hw.1 d_Se_offerFrom_13 ?_
  have hw := hw.2
  refine lv_iconst (v := 1) hx hb d_Se_offerFrom_14 (by decide) ?_
  refine lv_iadd hx hb d_Se_offerFrom_15 ?_
  refine lv_aload_n hx hb d_Se_offerFrom_16 rfl (lv_at hl 0 rfl) ?_
  refine kg (C1 := R_Se) (T := F_Se) (N := 10) (ci := 7) (ref := "LineBreaker$Search") (v := .ref (ad 30)) C w 29 2 iw_Se rfl rfl (by decide) kw_296 rfl rfl d_Se_offerFrom_17 ?_
  refine kg (C1 := R_Gu) (T := F_Gu) (N := 9) (ci := 1) (ref := "LineBreaker$Gauge") (v := .int (S.2.2 1925)) C w 30 5 iw_Gu rfl rfl (by decide) kw_209 rfl rfl d_Se_offerFrom_20 ?_
  refine lv_lload_n hx hb d_Se_offerFrom_23 rfl (lv_at hl 2 rfl) ?_
  refine kc_v (st := fun (u : (Nat → Int32) × (Nat → Int64) × Int32 × Int32) => wC K ad (sI (sI (sL (sA S 39 u.1) 38 u.2.1) 2370 u.2.2.1) 2371 u.2.2.2) ++ X) w (kr_V (y := y_Of_take) (C1 := R_Of) (T := F_Of) (N := 4) (ci := 4) (q0 := 37) (As := [.int p1, .int (((S.1 33) p1.toNatClampNeg) + 1), .int (S.2.2 1925), .long p2]) (n := 4) C w (c_Of_take l n0 G K ad X S p1 (((S.1 33) p1.toNatClampNeg) + 1) (S.2.2 1925) p2 _ hw) (gw_V kw_792 kw_793 kw_794 kw_9 kw_795) (by decide +kernel) rfl rfl ⟨Nat.le_of_ble_eq_true rfl, Nat.le_of_ble_eq_true rfl⟩ rfl rfl rfl hl.1 rfl (Nat.le_of_ble_eq_true rfl) d_Se_offerFrom_24 ⟨Nat.le_of_ble_eq_true rfl, Nat.le_of_ble_eq_true rfl⟩) (fun u H locs hw w => ?_)
  obtain ⟨f1, f2, v3, v4⟩ := u
  dsimp only at hw
  have w : wn n0 G (wC K ad (sI (sI (sL (sA S 39 f1) 38 f2) 2370 v3) 2371 v4) ++ X) s H locs := w
  exact ke_v (post := (fun (u : (Nat → Int32) × (Nat → Int64) × Int32 × Int32) => post u.1 u.2.1 u.2.2.1 u.2.2.2)) (st := (fun (u : (Nat → Int32) × (Nat → Int64) × Int32 × Int32) => wC K ad (sI (sI (sL (sA S 39 u.1) 38 u.2.1) 2370 u.2.2.1) 2371 u.2.2.2) ++ X)) (u := (f1, f2, v3, v4)) C hr d_Se_offerFrom_27 (wn_eq w rfl) hw
set_option maxHeartbeats 4000000 in
set_option maxRecDepth 100000 in
theorem c_Of_isEmpty (l : Launch) (n0 : Nat) (G : va_G) (K : KT) (ad : Nat → Nat) (X : va_W) (S : ST) (post : Int32 → Prop) (hw : wp_Of_isEmpty S  post) : Met l y_Of_isEmpty (Cond.code y_Of_isEmpty prog_6_method_3_code 1 (some .boolean) :: gw) rm_Of_isEmpty (va_Pc [.ref (ad 37)] (wb n0 G K (wC K ad S ++ X))) (rq_i post) 0 0 (fun _ => False) := by
  refine kb_start (own := "LineBreaker$Offers") (by decide +kernel) rfl ?_
  intro p e s m below meth c C hr hne w
  have hx := C.1
  have hb := C.2.1
  have hts := C.2.2.2.2.1
  have hl := lv_entry ([.ref (ad 37)]) (n := 1) (Nat.le_of_ble_eq_true rfl)
  rw [lg_entry_eq]
  generalize (lg_sl ([.ref (ad 37)]) ++ List.replicate (1 - (lg_sl ([.ref (ad 37)])).length) Slot.unset).toArray = ls at hl ⊢
  have hl : lv_has ls 1 [(0, .ref (ad 37))] := hl
  unfold wp_Of_isEmpty at hw
  refine lv_aload_n hx hb d_Of_isEmpty_0 rfl (lv_at hl 0 rfl) ?_
  refine kg (C1 := R_Of) (T := F_Of) (N := 4) (ci := 4) (ref := "LineBreaker$Offers") (v := .int (S.2.2 2371)) C w 37 3 iw_Of rfl rfl (by decide) kw_283 rfl rfl d_Of_isEmpty_1 ?_
  refine lv_aload_n hx hb d_Of_isEmpty_4 rfl (lv_at hl 0 rfl) ?_
  refine kg (C1 := R_Of) (T := F_Of) (N := 4) (ci := 4) (ref := "LineBreaker$Offers") (v := .int (S.2.2 2370)) C w 37 2 iw_Of rfl rfl (by decide) kw_282 rfl rfl d_Of_isEmpty_5 ?_
  refine lv_icmp_ge (tgt := 15) hx hb d_Of_isEmpty_8 (by decide) (fun hc => ?_) (fun hc => ?_)
  · have hw := hw.1 hc
    refine lv_iconst (v := 0) hx hb d_Of_isEmpty_15 (by decide) ?_
    exact kf_z C hr d_Of_isEmpty_16 (Or.inl rfl) hw
  · have hw := hw.2 hc
    refine lv_iconst (v := 1) hx hb d_Of_isEmpty_11 (by decide) ?_
    refine lv_goto (tgt := 16) hx hb d_Of_isEmpty_12 (by decide) ?_
    exact kf_z C hr d_Of_isEmpty_16 (Or.inr rfl) hw
set_option maxHeartbeats 4000000 in
set_option maxRecDepth 100000 in
theorem c_No_isFull (l : Launch) (n0 : Nat) (G : va_G) (K : KT) (ad : Nat → Nat) (X : va_W) (S : ST) (post : Int32 → Prop) (hw : wp_No_isFull S  post) : Met l y_No_isFull (Cond.code y_No_isFull prog_5_method_3_code 1 (some .boolean) :: gw) rm_No_isFull (va_Pc [.ref (ad 31)] (wb n0 G K (wC K ad S ++ X))) (rq_i post) 0 0 (fun _ => False) := by
  refine kb_start (own := "LineBreaker$Nodes") (by decide +kernel) rfl ?_
  intro p e s m below meth c C hr hne w
  have hx := C.1
  have hb := C.2.1
  have hts := C.2.2.2.2.1
  have hl := lv_entry ([.ref (ad 31)]) (n := 1) (Nat.le_of_ble_eq_true rfl)
  rw [lg_entry_eq]
  generalize (lg_sl ([.ref (ad 31)]) ++ List.replicate (1 - (lg_sl ([.ref (ad 31)])).length) Slot.unset).toArray = ls at hl ⊢
  have hl : lv_has ls 1 [(0, .ref (ad 31))] := hl
  unfold wp_No_isFull at hw
  refine lv_aload_n hx hb d_No_isFull_0 rfl (lv_at hl 0 rfl) ?_
  refine kg (C1 := R_No) (T := F_No) (N := 6) (ci := 3) (ref := "LineBreaker$Nodes") (v := .int (S.2.2 1989)) C w 31 5 iw_No rfl rfl (by decide) kw_256 rfl rfl d_No_isFull_1 ?_
  refine lv_sipush (v := 8000) hx hb d_No_isFull_4 (by decide) ?_
  refine lv_icmp_le (tgt := 14) hx hb d_No_isFull_7 (by decide) (fun hc => ?_) (fun hc => ?_)
  · have hw := hw.1 hc
    refine lv_iconst (v := 0) hx hb d_No_isFull_14 (by decide) ?_
    exact kf_z C hr d_No_isFull_15 (Or.inl rfl) hw
  · have hw := hw.2 hc
    refine lv_iconst (v := 1) hx hb d_No_isFull_10 (by decide) ?_
    refine lv_goto (tgt := 15) hx hb d_No_isFull_11 (by decide) ?_
    exact kf_z C hr d_No_isFull_15 (Or.inr rfl) hw
set_option maxHeartbeats 4000000 in
set_option maxRecDepth 100000 in
theorem w_Of_turnInto_16 {S : ST} {post : Int32 → (Nat → Int32) → (Nat → Int32) → (Nat → Int32) → (Nat → Int32) → (Nat → Int32) → (Nat → Int64) → Int32 → Int32 → Int32 → Prop} (C : cx p s m args meth c prog_6_method_5_code 7 "LineBreaker$Offers" n0 G K) (hr : meth.sig.returnType = (some .boolean)) {K5 : (Nat → Int32) → (Nat → Int32) → (Nat → Int32) → (Nat → Int32) → (Nat → Int32) → (Nat → Int64) → Int32 → Int32 → Int32 → Prop} (hk5 : ∀ (a32 : (Nat → Int32)) (a33 : (Nat → Int32)) (a34 : (Nat → Int32)) (a35 : (Nat → Int32)) (a39 : (Nat → Int32)) (l36 : (Nat → Int64)) (i1989 : Int32) (x2 : Int32) (x3 : Int32), K5 a32 a33 a34 a35 a39 l36 i1989 x2 x3 → ∀ (H : Heap) (locs : List Loc) (ls : Array Slot), wn n0 G (wC K ad (sI (sL (sA (sA (sA (sA (sA S 32 a32) 33 a33) 34 a34) 35 a35) 39 a39) 36 l36) 1989 i1989) ++ X) s H locs → lv_has ls 7 [(0, .ref (ad 37)), (1, .ref (ad 31)), (2, .int x2), (3, .int x3)] → W p l e rm_Of_turnInto s m args below meth c H locs 0 0 (MQ below (va_Qi (fun r (u : (Nat → Int32) × (Nat → Int32) × (Nat → Int32) × (Nat → Int32) × (Nat → Int32) × (Nat → Int64) × Int32 × Int32 × Int32) => post r u.1 u.2.1 u.2.2.1 u.2.2.2.1 u.2.2.2.2.1 u.2.2.2.2.2.1 u.2.2.2.2.2.2.1 u.2.2.2.2.2.2.2.1 u.2.2.2.2.2.2.2.2) (fun (u : (Nat → Int32) × (Nat → Int32) × (Nat → Int32) × (Nat → Int32) × (Nat → Int32) × (Nat → Int64) × Int32 × Int32 × Int32) t => we n0 G (wC K ad (sI (sI (sI (sL (sA (sA (sA (sA (sA S 32 u.1) 33 u.2.1) 34 u.2.2.1) 35 u.2.2.2.1) 39 u.2.2.2.2.1) 36 u.2.2.2.2.2.1) 1989 u.2.2.2.2.2.2.1) 2370 u.2.2.2.2.2.2.2.1) 2371 u.2.2.2.2.2.2.2.2) ++ X) t) (al n0)) args s 0 0 (al n0)) (F0 m 5 ls [])) : ∀ (n : Nat) (a32 : (Nat → Int32)) (a33 : (Nat → Int32)) (a34 : (Nat → Int32)) (a35 : (Nat → Int32)) (a39 : (Nat → Int32)) (l36 : (Nat → Int64)) (i1989 : Int32) (x2 : Int32) (x3 : Int32) (x4 : Int32), wl_Of_turnInto_16 S post K5 n a32 a33 a34 a35 a39 l36 i1989 x2 x3 x4 → ∀ (H : Heap) (locs : List Loc) (ls : Array Slot), wn n0 G (wC K ad (sI (sL (sA (sA (sA (sA (sA S 32 a32) 33 a33) 34 a34) 35 a35) 39 a39) 36 l36) 1989 i1989) ++ X) s H locs → lv_has ls 7 [(0, .ref (ad 37)), (1, .ref (ad 31)), (2, .int x2), (3, .int x3), (4, .int x4)] → W p l e rm_Of_turnInto s m args below meth c H locs 0 0 (MQ below (va_Qi (fun r (u : (Nat → Int32) × (Nat → Int32) × (Nat → Int32) × (Nat → Int32) × (Nat → Int32) × (Nat → Int64) × Int32 × Int32 × Int32) => post r u.1 u.2.1 u.2.2.1 u.2.2.2.1 u.2.2.2.2.1 u.2.2.2.2.2.1 u.2.2.2.2.2.2.1 u.2.2.2.2.2.2.2.1 u.2.2.2.2.2.2.2.2) (fun (u : (Nat → Int32) × (Nat → Int32) × (Nat → Int32) × (Nat → Int32) × (Nat → Int32) × (Nat → Int64) × Int32 × Int32 × Int32) t => we n0 G (wC K ad (sI (sI (sI (sL (sA (sA (sA (sA (sA S 32 u.1) 33 u.2.1) 34 u.2.2.1) 35 u.2.2.2.1) 39 u.2.2.2.2.1) 36 u.2.2.2.2.2.1) 1989 u.2.2.2.2.2.2.1) 2370 u.2.2.2.2.2.2.2.1) 2371 u.2.2.2.2.2.2.2.2) ++ X) t) (al n0)) args s 0 0 (al n0)) (F0 m 16 ls []) := by
  have hx := C.1
  have hb := C.2.1
  have hts := C.2.2.2.2.1
  intro n
  induction n with
  | zero =>
    intro a32 a33 a34 a35 a39 l36 i1989 x2 x3 x4 hw
    unfold wl_Of_turnInto_16 at hw
    exact hw.elim
  | succ n ih =>
    intro a32 a33 a34 a35 a39 l36 i1989 x2 x3 x4 hw H locs ls w hl
    unfold wl_Of_turnInto_16 at hw
    refine lv_iload hx hb d_Of_turnInto_16 (lv_at hl 4 rfl) ?_
    refine lv_if_lt (tgt := 133) hx hb d_Of_turnInto_18 (by decide) (fun hc => ?_) (fun hc => ?_)
    · have hw := hw.1 hc
      obtain ⟨v1, ev1⟩ : ∃ y : Int32, y = x3 + 1 := ⟨_, rfl⟩
      refine lv_iinc (v := v1) (lv' := [(3, .int v1), (0, .ref (ad 37)), (1, .ref (ad 31)), (2, .int x2), (4, .int x4)]) hx hb d_Of_turnInto_133 hl (k := 3) rfl (by rw [ev1]; rfl) (by decide) rfl (fun ls hl => ?_)
      have hw := hw v1 ev1
      refine lv_goto (tgt := 5) hx hb d_Of_turnInto_136 (by decide) ?_
      exact hk5 a32 a33 a34 a35 a39 l36 i1989 x2 v1 hw _ _ _ (wn_eq w rfl) (lv_sub hl [1, 2, 3, 0] rfl)
    · have hw := hw.2 hc
      refine lv_iload_n hx hb d_Of_turnInto_21 rfl (lv_at hl 3 rfl) ?_
      refine lv_iconst (v := 4) hx hb d_Of_turnInto_22 (by decide) ?_
      refine lv_imul hx hb d_Of_turnInto_23 ?_
      refine lv_iload hx hb d_Of_turnInto_24 (lv_at hl 4 rfl) ?_
      refine lv_iadd hx hb d_Of_turnInto_26 ?_
      refine lv_topi (fun v2 ev2 => ?_)
      have hw := hw v2 ev2
      refine lv_istore (lv' := [(5, .int v2), (0, .ref (ad 37)), (1, .ref (ad 31)), (2, .int x2), (3, .int x3), (4, .int x4)]) hx hb d_Of_turnInto_27 hl (by decide) rfl (fun ls hl => ?_)
      refine lv_aload_n hx hb d_Of_turnInto_29 rfl (lv_at hl 1 rfl) ?_
      refine kg (C1 := R_Of) (T := F_Of) (N := 4) (ci := 4) (ref := "LineBreaker$Offers") (v := .ref (ad 39)) C w 37 1 iw_Of rfl rfl (by decide) kw_281 rfl rfl d_Of_turnInto_30 ?_
      refine lv_iload hx hb d_Of_turnInto_33 (lv_at hl 0 rfl) ?_
      refine ka_i (f := a39) C w 39 rfl hw.1 d_Of_turnInto_35 ?_
      have hw := hw.2
      refine lv_iconst (v := (-1)) hx hb d_Of_turnInto_36 (by decide) ?_
      refine lv_icmp_ne (tgt := 43) hx hb d_Of_turnInto_37 (by decide) (fun hc => ?_) (fun hc => ?_)
      · have hw := hw.1 hc
        refine lv_aload_n hx hb d_Of_turnInto_43 rfl (lv_at hl 2 rfl) ?_
        refine kd_i (kr_V (y := y_No_isFull) (C1 := R_No) (T := F_No) (N := 6) (ci := 3) (q0 := 31) (As := []) (n := 0) C w (c_No_isFull l n0 G K ad X (sI (sL (sA (sA (sA (sA (sA S 32 a32) 33 a33) 34 a34) 35 a35) 39 a39) 36 l36) 1989 i1989)  _ hw) (gw_V kw_810 kw_811 kw_812 kw_8 kw_813) (by decide +kernel) rfl rfl ⟨Nat.le_of_ble_eq_true rfl, Nat.le_of_ble_eq_true rfl⟩ rfl rfl rfl hl.1 rfl (Nat.le_of_ble_eq_true rfl) d_Of_turnInto_44 ⟨Nat.le_of_ble_eq_true rfl, Nat.le_of_ble_eq_true rfl⟩) (fun r3 hw => ?_)
        refine lv_if_eq (tgt := 52) hx hb d_Of_turnInto_47 (by decide) (fun hc => ?_) (fun hc => ?_)
        · have hw := hw.1 hc
          refine lv_aload_n hx hb d_Of_turnInto_52 rfl (lv_at hl 2 rfl) ?_
          refine kg (C1 := R_No) (T := F_No) (N := 6) (ci := 3) (ref := "LineBreaker$Nodes") (v := .int i1989) C w 31 5 iw_No rfl rfl (by decide) kw_258 rfl rfl d_Of_turnInto_53 ?_
          refine lv_istore (lv' := [(6, .int i1989), (5, .int v2), (0, .ref (ad 37)), (1, .ref (ad 31)), (2, .int x2), (3, .int x3), (4, .int x4)]) hx hb d_Of_turnInto_56 hl (by decide) rfl (fun ls hl => ?_)
          refine lv_aload_n hx hb d_Of_turnInto_58 rfl (lv_at hl 3 rfl) ?_
          refine kg (C1 := R_No) (T := F_No) (N := 6) (ci := 3) (ref := "LineBreaker$Nodes") (v := .ref (ad 32)) C w 31 0 iw_No rfl rfl (by decide) kw_241 rfl rfl d_Of_turnInto_59 ?_
          refine lv_iload hx hb d_Of_turnInto_62 (lv_at hl 0 rfl) ?_
          refine lv_iload_n hx hb d_Of_turnInto_64 rfl (lv_at hl 4 rfl) ?_
          obtain ⟨f4, ef4⟩ : ∃ z : Nat → Int32, z = upd a32 i1989.toNatClampNeg x2 := ⟨_, rfl⟩
          refine ks_i (f := a32) (w2 := wC K ad (sI (sL (sA (sA (sA (sA (sA S 32 f4) 33 a33) 34 a34) 35 a35) 39 a39) 36 l36) 1989 i1989) ++ X) C w 32 rfl hw.1 (by rw [← ef4]; rfl) d_Of_turnInto_65 (fun H locs w => ?_)
          have hw := hw.2 f4 ef4
          refine lv_aload_n hx hb d_Of_turnInto_66 rfl (lv_at hl 3 rfl) ?_
          refine kg (C1 := R_No) (T := F_No) (N := 6) (ci := 3) (ref := "LineBreaker$Nodes") (v := .ref (ad 33)) C w 31 1 iw_No rfl rfl (by decide) kw_245 rfl rfl d_Of_turnInto_67 ?_
          refine lv_iload hx hb d_Of_turnInto_70 (lv_at hl 0 rfl) ?_
          refine lv_iload_n hx hb d_Of_turnInto_72 rfl (lv_at hl 5 rfl) ?_
          obtain ⟨f5, ef5⟩ : ∃ z : Nat → Int32, z = upd a33 i1989.toNatClampNeg x3 := ⟨_, rfl⟩
          refine ks_i (f := a33) (w2 := wC K ad (sI (sL (sA (sA (sA (sA (sA S 32 f4) 33 f5) 34 a34) 35 a35) 39 a39) 36 l36) 1989 i1989) ++ X) C w 33 rfl hw.1 (by rw [← ef5]; rfl) d_Of_turnInto_73 (fun H locs w => ?_)
          have hw := hw.2 f5 ef5
          refine lv_aload_n hx hb d_Of_turnInto_74 rfl (lv_at hl 3 rfl) ?_
          refine kg (C1 := R_No) (T := F_No) (N := 6) (ci := 3) (ref := "LineBreaker$Nodes") (v := .ref (ad 34)) C w 31 2 iw_No rfl rfl (by decide) kw_247 rfl rfl d_Of_turnInto_75 ?_
          refine lv_iload hx hb d_Of_turnInto_78 (lv_at hl 0 rfl) ?_
          refine lv_iload hx hb d_Of_turnInto_80 (lv_at hl 6 rfl) ?_
          obtain ⟨f6, ef6⟩ : ∃ z : Nat → Int32, z = upd a34 i1989.toNatClampNeg x4 := ⟨_, rfl⟩
          refine ks_i (f := a34) (w2 := wC K ad (sI (sL (sA (sA (sA (sA (sA S 32 f4) 33 f5) 34 f6) 35 a35) 39 a39) 36 l36) 1989 i1989) ++ X) C w 34 rfl hw.1 (by rw [← ef6]; rfl) d_Of_turnInto_82 (fun H locs w => ?_)
          have hw := hw.2 f6 ef6
          refine lv_aload_n hx hb d_Of_turnInto_83 rfl (lv_at hl 3 rfl) ?_
          refine kg (C1 := R_No) (T := F_No) (N := 6) (ci := 3) (ref := "LineBreaker$Nodes") (v := .ref (ad 35)) C w 31 3 iw_No rfl rfl (by decide) kw_251 rfl rfl d_Of_turnInto_84 ?_
          refine lv_iload hx hb d_Of_turnInto_87 (lv_at hl 0 rfl) ?_
          refine lv_aload_n hx hb d_Of_turnInto_89 rfl (lv_at hl 2 rfl) ?_
          refine kg (C1 := R_Of) (T := F_Of) (N := 4) (ci := 4) (ref := "LineBreaker$Offers") (v := .ref (ad 39)) C w 37 1 iw_Of rfl rfl (by decide) kw_281 rfl rfl d_Of_turnInto_90 ?_
          refine lv_iload hx hb d_Of_turnInto_93 (lv_at hl 1 rfl) ?_
          refine ka_i (f := a39) C w 39 rfl hw.1 d_Of_turnInto_95 ?_
          have hw := hw.2
          obtain ⟨f7, ef7⟩ : ∃ z : Nat → Int32, z = upd a35 i1989.toNatClampNeg (a39 v2.toNatClampNeg) := ⟨_, rfl⟩
          refine ks_i (f := a35) (w2 := wC K ad (sI (sL (sA (sA (sA (sA (sA S 32 f4) 33 f5) 34 f6) 35 f7) 39 a39) 36 l36) 1989 i1989) ++ X) C w 35 rfl hw.1 (by rw [← ef7]; rfl) d_Of_turnInto_96 (fun H locs w => ?_)
          have hw := hw.2 f7 ef7
          refine lv_aload_n hx hb d_Of_turnInto_97 rfl (lv_at hl 3 rfl) ?_
          refine kg (C1 := R_No) (T := F_No) (N := 6) (ci := 3) (ref := "LineBreaker$Nodes") (v := .ref (ad 36)) C w 31 4 iw_No rfl rfl (by decide) kw_255 rfl rfl d_Of_turnInto_98 ?_
          refine lv_iload hx hb d_Of_turnInto_101 (lv_at hl 0 rfl) ?_
          refine lv_aload_n hx hb d_Of_turnInto_103 rfl (lv_at hl 2 rfl) ?_
          refine kg (C1 := R_Of) (T := F_Of) (N := 4) (ci := 4) (ref := "LineBreaker$Offers") (v := .ref (ad 38)) C w 37 0 iw_Of rfl rfl (by decide) kw_280 rfl rfl d_Of_turnInto_104 ?_
          refine lv_iload hx hb d_Of_turnInto_107 (lv_at hl 1 rfl) ?_
          refine ka_l (f := (S.2.1 38)) C w 38 rfl hw.1 d_Of_turnInto_109 ?_
          have hw := hw.2
          obtain ⟨f8, ef8⟩ : ∃ z : Nat → Int64, z = vp_updL l36 i1989.toNatClampNeg ((S.2.1 38) v2.toNatClampNeg) := ⟨_, rfl⟩
          refine ks_l (f := l36) (w2 := wC K ad (sI (sL (sA (sA (sA (sA (sA S 32 f4) 33 f5) 34 f6) 35 f7) 39 a39) 36 f8) 1989 i1989) ++ X) C w 36 rfl hw.1 (by rw [← ef8]; rfl) d_Of_turnInto_110 (fun H locs w => ?_)
          have hw := hw.2 f8 ef8
          refine lv_aload_n hx hb d_Of_turnInto_111 rfl (lv_at hl 3 rfl) ?_
          refine lv_iload hx hb d_Of_turnInto_112 (lv_at hl 0 rfl) ?_
          refine lv_iconst (v := 1) hx hb d_Of_turnInto_114 (by decide) ?_
          refine lv_iadd hx hb d_Of_turnInto_115 ?_
          refine lv_topi (fun v9 ev9 => ?_)
          have hw := hw v9 ev9
          refine kp (C1 := R_No) (T := F_No) (N := 6) (ci := 3) (ty0 := t_No) (ref := "LineBreaker$Nodes") (w2 := wC K ad (sI (sL (sA (sA (sA (sA (sA S 32 f4) 33 f5) 34 f6) 35 f7) 39 a39) 36 f8) 1989 v9) ++ X) C w 31 5 iw_No tk_No n_No rfl rfl (by decide) kw_258 rfl rfl rfl rfl (Nat.le_of_ble_eq_true rfl) rfl d_Of_turnInto_116 (fun H locs w => ?_)
          refine lv_aload_n hx hb d_Of_turnInto_119 rfl (lv_at hl 2 rfl) ?_
          refine kg (C1 := R_Of) (T := F_Of) (N := 4) (ci := 4) (ref := "LineBreaker$Offers") (v := .ref (ad 39)) C w 37 1 iw_Of rfl rfl (by decide) kw_281 rfl rfl d_Of_turnInto_120 ?_
          refine lv_iload hx hb d_Of_turnInto_123 (lv_at hl 1 rfl) ?_
          refine lv_iconst (v := (-1)) hx hb d_Of_turnInto_125 (by decide) ?_
          obtain ⟨f10, ef10⟩ : ∃ z : Nat → Int32, z = upd a39 v2.toNatClampNeg (-1) := ⟨_, rfl⟩
          refine ks_i (f := a39) (w2 := wC K ad (sI (sL (sA (sA (sA (sA (sA S 32 f4) 33 f5) 34 f6) 35 f7) 39 f10) 36 f8) 1989 v9) ++ X) C w 39 rfl hw.1 (by rw [← ef10]; rfl) d_Of_turnInto_126 (fun H locs w => ?_)
          have hw := hw.2 f10 ef10
          obtain ⟨v11, ev11⟩ : ∃ y : Int32, y = x4 + (-1) := ⟨_, rfl⟩
          refine lv_iinc (v := v11) (lv' := [(4, .int v11), (6, .int i1989), (5, .int v2), (0, .ref (ad 37)), (1, .ref (ad 31)), (2, .int x2), (3, .int x3)]) hx hb d_Of_turnInto_127 hl (k := 6) rfl (by rw [ev11]; rfl) (by decide) rfl (fun ls hl => ?_)
          have hw := hw v11 ev11
          refine lv_goto (tgt := 16) hx hb d_Of_turnInto_130 (by decide) ?_
          exact ih f4 f5 f6 f7 f10 f8 v9 x2 x3 v11 hw _ _ _ (wn_eq w rfl) (lv_sub hl [3, 4, 5, 6, 0] rfl)
        · have hw := hw.2 hc
          refine lv_iconst (v := 0) hx hb d_Of_turnInto_50 (by decide) ?_
          exact ke_z (post := (fun r (u : (Nat → Int32) × (Nat → Int32) × (Nat → Int32) × (Nat → Int32) × (Nat → Int32) × (Nat → Int64) × Int32 × Int32 × Int32) => post r u.1 u.2.1 u.2.2.1 u.2.2.2.1 u.2.2.2.2.1 u.2.2.2.2.2.1 u.2.2.2.2.2.2.1 u.2.2.2.2.2.2.2.1 u.2.2.2.2.2.2.2.2)) (st := (fun (u : (Nat → Int32) × (Nat → Int32) × (Nat → Int32) × (Nat → Int32) × (Nat → Int32) × (Nat → Int64) × Int32 × Int32 × Int32) => wC K ad (sI (sI (sI (sL (sA (sA (sA (sA (sA S 32 u.1) 33 u.2.1) 34 u.2.2.1) 35 u.2.2.2.1) 39 u.2.2.2.2.1) 36 u.2.2.2.2.2.1) 1989 u.2.2.2.2.2.2.1) 2370 u.2.2.2.2.2.2.2.1) 2371 u.2.2.2.2.2.2.2.2) ++ X)) (u := (a32, a33, a34, a35, a39, l36, i1989, (S.2.2 2370), (S.2.2 2371))) C hr d_Of_turnInto_51 (wn_eq w rfl) (Or.inl rfl) hw
      · have hw := hw.2 hc
        refine lv_goto (tgt := 127) hx hb d_Of_turnInto_40 (by decide) ?_
        obtain ⟨v12, ev12⟩ : ∃ y : Int32, y = x4 + (-1) := ⟨_, rfl⟩
        refine lv_iinc (v := v12) (lv' := [(4, .int v12), (5, .int v2), (0, .ref (ad 37)), (1, .ref (ad 31)), (2, .int x2), (3, .int x3)]) hx hb d_Of_turnInto_127 hl (k := 5) rfl (by rw [ev12]; rfl) (by decide) rfl (fun ls hl => ?_)
        have hw := hw v12 ev12
        refine lv_goto (tgt := 16) hx hb d_Of_turnInto_130 (by decide) ?_
        exact ih a32 a33 a34 a35 a39 l36 i1989 x2 x3 v12 hw _ _ _ (wn_eq w rfl) (lv_sub hl [2, 3, 4, 5, 0] rfl)
set_option maxHeartbeats 4000000 in
set_option maxRecDepth 100000 in
theorem w_Of_turnInto_5 {S : ST} {post : Int32 → (Nat → Int32) → (Nat → Int32) → (Nat → Int32) → (Nat → Int32) → (Nat → Int32) → (Nat → Int64) → Int32 → Int32 → Int32 → Prop} (C : cx p s m args meth c prog_6_method_5_code 7 "LineBreaker$Offers" n0 G K) (hr : meth.sig.returnType = (some .boolean)) : ∀ (n : Nat) (a32 : (Nat → Int32)) (a33 : (Nat → Int32)) (a34 : (Nat → Int32)) (a35 : (Nat → Int32)) (a39 : (Nat → Int32)) (l36 : (Nat → Int64)) (i1989 : Int32) (x2 : Int32) (x3 : Int32), wl_Of_turnInto_5 S post n a32 a33 a34 a35 a39 l36 i1989 x2 x3 → ∀ (H : Heap) (locs : List Loc) (ls : Array Slot), wn n0 G (wC K ad (sI (sL (sA (sA (sA (sA (sA S 32 a32) 33 a33) 34 a34) 35 a35) 39 a39) 36 l36) 1989 i1989) ++ X) s H locs → lv_has ls 7 [(0, .ref (ad 37)), (1, .ref (ad 31)), (2, .int x2), (3, .int x3)] → W p l e rm_Of_turnInto s m args below meth c H locs 0 0 (MQ below (va_Qi (fun r (u : (Nat → Int32) × (Nat → Int32) × (Nat → Int32) × (Nat → Int32) × (Nat → Int32) × (Nat → Int64) × Int32 × Int32 × Int32) => post r u.1 u.2.1 u.2.2.1 u.2.2.2.1 u.2.2.2.2.1 u.2.2.2.2.2.1 u.2.2.2.2.2.2.1 u.2.2.2.2.2.2.2.1 u.2.2.2.2.2.2.2.2) (fun (u : (Nat → Int32) × (Nat → Int32) × (Nat → Int32) × (Nat → Int32) × (Nat → Int32) × (Nat → Int64) × Int32 × Int32 × Int32) t => we n0 G (wC K ad (sI (sI (sI (sL (sA (sA (sA (sA (sA S 32 u.1) 33 u.2.1) 34 u.2.2.1) 35 u.2.2.2.1) 39 u.2.2.2.2.1) 36 u.2.2.2.2.2.1) 1989 u.2.2.2.2.2.2.1) 2370 u.2.2.2.2.2.2.2.1) 2371 u.2.2.2.2.2.2.2.2) ++ X) t) (al n0)) args s 0 0 (al n0)) (F0 m 5 ls []) := by
  have hx := C.1
  have hb := C.2.1
  have hts := C.2.2.2.2.1
  intro n
  induction n with
  | zero =>
    intro a32 a33 a34 a35 a39 l36 i1989 x2 x3 hw
    unfold wl_Of_turnInto_5 at hw
    exact hw.elim
  | succ n ih =>
    intro a32 a33 a34 a35 a39 l36 i1989 x2 x3 hw H locs ls w hl
    unfold wl_Of_turnInto_5 at hw
    refine lv_iload_n hx hb d_Of_turnInto_5 rfl (lv_at hl 3 rfl) ?_
    refine lv_aload_n hx hb d_Of_turnInto_6 rfl (lv_at hl 0 rfl) ?_
    refine kg (C1 := R_Of) (T := F_Of) (N := 4) (ci := 4) (ref := "LineBreaker$Offers") (v := .int (S.2.2 2371)) C w 37 3 iw_Of rfl rfl (by decide) kw_283 rfl rfl d_Of_turnInto_7 ?_
    refine lv_icmp_gt (tgt := 139) hx hb d_Of_turnInto_10 (by decide) (fun hc => ?_) (fun hc => ?_)
    · have hw := hw.1 hc
      refine lv_aload_n hx hb d_Of_turnInto_139 rfl (lv_at hl 0 rfl) ?_
      refine lv_sipush (v := 401) hx hb d_Of_turnInto_140 (by decide) ?_
      refine kp (C1 := R_Of) (T := F_Of) (N := 4) (ci := 4) (ty0 := t_Of) (ref := "LineBreaker$Offers") (w2 := wC K ad (sI (sI (sL (sA (sA (sA (sA (sA S 32 a32) 33 a33) 34 a34) 35 a35) 39 a39) 36 l36) 1989 i1989) 2370 401) ++ X) C w 37 2 iw_Of tk_Of n_Of rfl rfl (by decide) kw_282 rfl rfl rfl rfl (Nat.le_of_ble_eq_true rfl) rfl d_Of_turnInto_143 (fun H locs w => ?_)
      refine lv_aload_n hx hb d_Of_turnInto_146 rfl (lv_at hl 0 rfl) ?_
      refine lv_iconst (v := 0) hx hb d_Of_turnInto_147 (by decide) ?_
      refine kp (C1 := R_Of) (T := F_Of) (N := 4) (ci := 4) (ty0 := t_Of) (ref := "LineBreaker$Offers") (w2 := wC K ad (sI (sI (sI (sL (sA (sA (sA (sA (sA S 32 a32) 33 a33) 34 a34) 35 a35) 39 a39) 36 l36) 1989 i1989) 2370 401) 2371 0) ++ X) C w 37 3 iw_Of tk_Of n_Of rfl rfl (by decide) kw_283 rfl rfl rfl rfl (Nat.le_of_ble_eq_true rfl) rfl d_Of_turnInto_148 (fun H locs w => ?_)
      refine lv_iconst (v := 1) hx hb d_Of_turnInto_151 (by decide) ?_
      exact ke_z (post := (fun r (u : (Nat → Int32) × (Nat → Int32) × (Nat → Int32) × (Nat → Int32) × (Nat → Int32) × (Nat → Int64) × Int32 × Int32 × Int32) => post r u.1 u.2.1 u.2.2.1 u.2.2.2.1 u.2.2.2.2.1 u.2.2.2.2.2.1 u.2.2.2.2.2.2.1 u.2.2.2.2.2.2.2.1 u.2.2.2.2.2.2.2.2)) (st := (fun (u : (Nat → Int32) × (Nat → Int32) × (Nat → Int32) × (Nat → Int32) × (Nat → Int32) × (Nat → Int64) × Int32 × Int32 × Int32) => wC K ad (sI (sI (sI (sL (sA (sA (sA (sA (sA S 32 u.1) 33 u.2.1) 34 u.2.2.1) 35 u.2.2.2.1) 39 u.2.2.2.2.1) 36 u.2.2.2.2.2.1) 1989 u.2.2.2.2.2.2.1) 2370 u.2.2.2.2.2.2.2.1) 2371 u.2.2.2.2.2.2.2.2) ++ X)) (u := (a32, a33, a34, a35, a39, l36, i1989, 401, 0)) C hr d_Of_turnInto_152 (wn_eq w rfl) (Or.inr rfl) hw
    · have hw := hw.2 hc
      refine lv_iconst (v := 3) hx hb d_Of_turnInto_13 (by decide) ?_
      refine lv_istore (lv' := [(4, .int 3), (0, .ref (ad 37)), (1, .ref (ad 31)), (2, .int x2), (3, .int x3)]) hx hb d_Of_turnInto_14 hl (by decide) rfl (fun ls hl => ?_)
      obtain ⟨n9, hw⟩ := hw
      exact w_Of_turnInto_16 C hr ih n9 a32 a33 a34 a35 a39 l36 i1989 x2 x3 3 hw _ _ _ (wn_eq w rfl) (lv_sub hl [1, 2, 3, 4, 0] rfl)
set_option maxHeartbeats 4000000 in
set_option maxRecDepth 100000 in
theorem c_Of_turnInto (l : Launch) (n0 : Nat) (G : va_G) (K : KT) (ad : Nat → Nat) (X : va_W) (S : ST) (p2 : Int32) (post : Int32 → (Nat → Int32) → (Nat → Int32) → (Nat → Int32) → (Nat → Int32) → (Nat → Int32) → (Nat → Int64) → Int32 → Int32 → Int32 → Prop) (hw : wp_Of_turnInto S p2 post) : Met l y_Of_turnInto (Cond.code y_Of_turnInto prog_6_method_5_code 7 (some .boolean) :: gw) rm_Of_turnInto (va_Pc [.ref (ad 37), .ref (ad 31), .int p2] (wb n0 G K (wC K ad S ++ X))) (va_Qi (fun r (u : (Nat → Int32) × (Nat → Int32) × (Nat → Int32) × (Nat → Int32) × (Nat → Int32) × (Nat → Int64) × Int32 × Int32 × Int32) => post r u.1 u.2.1 u.2.2.1 u.2.2.2.1 u.2.2.2.2.1 u.2.2.2.2.2.1 u.2.2.2.2.2.2.1 u.2.2.2.2.2.2.2.1 u.2.2.2.2.2.2.2.2) (fun (u : (Nat → Int32) × (Nat → Int32) × (Nat → Int32) × (Nat → Int32) × (Nat → Int32) × (Nat → Int64) × Int32 × Int32 × Int32) t => we n0 G (wC K ad (sI (sI (sI (sL (sA (sA (sA (sA (sA S 32 u.1) 33 u.2.1) 34 u.2.2.1) 35 u.2.2.2.1) 39 u.2.2.2.2.1) 36 u.2.2.2.2.2.1) 1989 u.2.2.2.2.2.2.1) 2370 u.2.2.2.2.2.2.2.1) 2371 u.2.2.2.2.2.2.2.2) ++ X) t) (al n0)) 0 0 (al n0) := by
  refine kb_start (own := "LineBreaker$Offers") (by decide +kernel) rfl ?_
  intro p e s m below meth c C hr hne w
  have hx := C.1
  have hb := C.2.1
  have hts := C.2.2.2.2.1
  have hl := lv_entry ([.ref (ad 37), .ref (ad 31), .int p2]) (n := 7) (Nat.le_of_ble_eq_true rfl)
  rw [lg_entry_eq]
  generalize (lg_sl ([.ref (ad 37), .ref (ad 31), .int p2]) ++ List.replicate (7 - (lg_sl ([.ref (ad 37), .ref (ad 31), .int p2])).length) Slot.unset).toArray = ls at hl ⊢
  have hl : lv_has ls 7 [(0, .ref (ad 37)), (1, .ref (ad 31)), (2, .int p2)] := hl
  unfold wp_Of_turnInto at hw
  refine lv_aload_n hx hb d_Of_turnInto_0 rfl (lv_at hl 0 rfl) ?_
  refine kg (C1 := R_Of) (T := F_Of) (N := 4) (ci := 4) (ref := "LineBreaker$Offers") (v := .int (S.2.2 2370)) C w 37 2 iw_Of rfl rfl (by decide) kw_282 rfl rfl d_Of_turnInto_1 ?_
  refine lv_topi (fun v1 ev1 => ?_)
  have hw := hw v1 ev1
  refine lv_istore_n (lv' := [(3, .int v1), (0, .ref (ad 37)), (1, .ref (ad 31)), (2, .int p2)]) hx hb d_Of_turnInto_4 rfl hl (by decide) rfl (fun ls hl => ?_)
  obtain ⟨n9, hw⟩ := hw
  exact w_Of_turnInto_5 C hr  n9 (S.1 32) (S.1 33) (S.1 34) (S.1 35) (S.1 39) (S.2.1 36) (S.2.2 1989) p2 v1 hw _ _ _ (wn_eq w rfl) (lv_sub hl [1, 2, 3, 0] rfl)
set_option maxHeartbeats 4000000 in
set_option maxRecDepth 100000 in
theorem w_Se_settle_33 {S : ST} {post : Int32 → (Nat → Int32) → (Nat → Int32) → (Nat → Int32) → (Nat → Int32) → (Nat → Int32) → (Nat → Int32) → (Nat → Int64) → Int32 → Int32 → Int32 → Int32 → Int32 → Prop} (C : cx p s m args meth c prog_9_method_6_code 3 "LineBreaker$Search" n0 G K) (hr : meth.sig.returnType = (some .boolean)) : ∀ (n : Nat) (a32 : (Nat → Int32)) (a33 : (Nat → Int32)) (a34 : (Nat → Int32)) (a35 : (Nat → Int32)) (a39 : (Nat → Int32)) (a40 : (Nat → Int32)) (l36 : (Nat → Int64)) (i1862 : Int32) (i1863 : Int32) (i1989 : Int32) (i2370 : Int32) (i2371 : Int32) (x2 : Int32), wl_Se_settle_33 S post n a32 a33 a34 a35 a39 a40 l36 i1862 i1863 i1989 i2370 i2371 x2 → ∀ (H : Heap) (locs : List Loc) (ls : Array Slot), wn n0 G (wC K ad (sI (sI (sI (sI (sI (sL (sA (sA (sA (sA (sA (sA S 32 a32) 33 a33) 34 a34) 35 a35) 39 a39) 40 a40) 36 l36) 1862 i1862) 1863 i1863) 1989 i1989) 2370 i2370) 2371 i2371) ++ X) s H locs → lv_has ls 3 [(0, .ref (ad 29)), (2, .int x2)] → W p l e rm_Se_settle s m args below meth c H locs 0 0 (MQ below (va_Qi (fun r (u : (Nat → Int32) × (Nat → Int32) × (Nat → Int32) × (Nat → Int32) × (Nat → Int32) × (Nat → Int32) × (Nat → Int64) × Int32 × Int32 × Int32 × Int32 × Int32) => post r u.1 u.2.1 u.2.2.1 u.2.2.2.1 u.2.2.2.2.1 u.2.2.2.2.2.1 u.2.2.2.2.2.2.1 u.2.2.2.2.2.2.2.1 u.2.2.2.2.2.2.2.2.1 u.2.2.2.2.2.2.2.2.2.1 u.2.2.2.2.2.2.2.2.2.2.1 u.2.2.2.2.2.2.2.2.2.2.2) (fun (u : (Nat → Int32) × (Nat → Int32) × (Nat → Int32) × (Nat → Int32) × (Nat → Int32) × (Nat → Int32) × (Nat → Int64) × Int32 × Int32 × Int32 × Int32 × Int32) t => we n0 G (wC K ad (sI (sI (sI (sI (sI (sL (sA (sA (sA (sA (sA (sA S 32 u.1) 33 u.2.1) 34 u.2.2.1) 35 u.2.2.2.1) 39 u.2.2.2.2.1) 40 u.2.2.2.2.2.1) 36 u.2.2.2.2.2.2.1) 1862 u.2.2.2.2.2.2.2.1) 1863 u.2.2.2.2.2.2.2.2.1) 1989 u.2.2.2.2.2.2.2.2.2.1) 2370 u.2.2.2.2.2.2.2.2.2.2.1) 2371 u.2.2.2.2.2.2.2.2.2.2.2) ++ X) t) (al n0)) args s 0 0 (al n0)) (F0 m 33 ls []) := by
  have hx := C.1
  have hb := C.2.1
  have hts := C.2.2.2.2.1
  intro n
  induction n with
  | zero =>
    intro a32 a33 a34 a35 a39 a40 l36 i1862 i1863 i1989 i2370 i2371 x2 hw
    unfold wl_Se_settle_33 at hw
    exact hw.elim
  | succ n ih =>
    intro a32 a33 a34 a35 a39 a40 l36 i1862 i1863 i1989 i2370 i2371 x2 hw H locs ls w hl
    unfold wl_Se_settle_33 at hw
    refine lv_iload_n hx hb d_Se_settle_33 rfl (lv_at hl 1 rfl) ?_
    refine lv_aload_n hx hb d_Se_settle_34 rfl (lv_at hl 0 rfl) ?_
    refine kg (C1 := R_Se) (T := F_Se) (N := 10) (ci := 7) (ref := "LineBreaker$Search") (v := .ref (ad 31)) C w 29 3 iw_Se rfl rfl (by decide) kw_298 rfl rfl d_Se_settle_35 ?_
    refine kg (C1 := R_No) (T := F_No) (N := 6) (ci := 3) (ref := "LineBreaker$Nodes") (v := .int i1989) C w 31 5 iw_No rfl rfl (by decide) kw_259 rfl rfl d_Se_settle_38 ?_
    refine lv_icmp_ge (tgt := 70) hx hb d_Se_settle_41 (by decide) (fun hc => ?_) (fun hc => ?_)
    · have hw := hw.1 hc
      refine lv_iconst (v := 1) hx hb d_Se_settle_70 (by decide) ?_
      exact ke_z (post := (fun r (u : (Nat → Int32) × (Nat → Int32) × (Nat → Int32) × (Nat → Int32) × (Nat → Int32) × (Nat → Int32) × (Nat → Int64) × Int32 × Int32 × Int32 × Int32 × Int32) => post r u.1 u.2.1 u.2.2.1 u.2.2.2.1 u.2.2.2.2.1 u.2.2.2.2.2.1 u.2.2.2.2.2.2.1 u.2.2.2.2.2.2.2.1 u.2.2.2.2.2.2.2.2.1 u.2.2.2.2.2.2.2.2.2.1 u.2.2.2.2.2.2.2.2.2.2.1 u.2.2.2.2.2.2.2.2.2.2.2)) (st := (fun (u : (Nat → Int32) × (Nat → Int32) × (Nat → Int32) × (Nat → Int32) × (Nat → Int32) × (Nat → Int32) × (Nat → Int64) × Int32 × Int32 × Int32 × Int32 × Int32) => wC K ad (sI (sI (sI (sI (sI (sL (sA (sA (sA (sA (sA (sA S 32 u.1) 33 u.2.1) 34 u.2.2.1) 35 u.2.2.2.1) 39 u.2.2.2.2.1) 40 u.2.2.2.2.2.1) 36 u.2.2.2.2.2.2.1) 1862 u.2.2.2.2.2.2.2.1) 1863 u.2.2.2.2.2.2.2.2.1) 1989 u.2.2.2.2.2.2.2.2.2.1) 2370 u.2.2.2.2.2.2.2.2.2.2.1) 2371 u.2.2.2.2.2.2.2.2.2.2.2) ++ X)) (u := (a32, a33, a34, a35, a39, a40, l36, i1862, i1863, i1989, i2370, i2371)) C hr d_Se_settle_71 (wn_eq w rfl) (Or.inr rfl) hw
    · have hw := hw.2 hc
      refine lv_aload_n hx hb d_Se_settle_44 rfl (lv_at hl 0 rfl) ?_
      refine kg (C1 := R_Se) (T := F_Se) (N := 10) (ci := 7) (ref := "LineBreaker$Search") (v := .ref (ad 40)) C w 29 5 iw_Se rfl rfl (by decide) kw_301 rfl rfl d_Se_settle_45 ?_
      refine lv_aload_n hx hb d_Se_settle_48 rfl (lv_at hl 0 rfl) ?_
      refine kg (C1 := R_Se) (T := F_Se) (N := 10) (ci := 7) (ref := "LineBreaker$Search") (v := .int i1862) C w 29 6 iw_Se rfl rfl (by decide) kw_302 rfl rfl d_Se_settle_49 ?_
      refine lv_iload_n hx hb d_Se_settle_52 rfl (lv_at hl 1 rfl) ?_
      obtain ⟨f1, ef1⟩ : ∃ z : Nat → Int32, z = upd a40 i1862.toNatClampNeg x2 := ⟨_, rfl⟩
      refine ks_i (f := a40) (w2 := wC K ad (sI (sI (sI (sI (sI (sL (sA (sA (sA (sA (sA (sA S 32 a32) 33 a33) 34 a34) 35 a35) 39 a39) 40 f1) 36 l36) 1862 i1862) 1863 i1863) 1989 i1989) 2370 i2370) 2371 i2371) ++ X) C w 40 rfl hw.1 (by rw [← ef1]; rfl) d_Se_settle_53 (fun H locs w => ?_)
      have hw := hw.2 f1 ef1
      refine lv_aload_n hx hb d_Se_settle_54 rfl (lv_at hl 0 rfl) ?_
      refine lv_dup hx hb d_Se_settle_55 rfl ?_
      refine kg (C1 := R_Se) (T := F_Se) (N := 10) (ci := 7) (ref := "LineBreaker$Search") (v := .int i1862) C w 29 6 iw_Se rfl rfl (by decide) kw_302 rfl rfl d_Se_settle_56 ?_
      refine lv_iconst (v := 1) hx hb d_Se_settle_59 (by decide) ?_
      refine lv_iadd hx hb d_Se_settle_60 ?_
      refine lv_topi (fun v2 ev2 => ?_)
      have hw := hw v2 ev2
      refine kp (C1 := R_Se) (T := F_Se) (N := 10) (ci := 7) (ty0 := t_Se) (ref := "LineBreaker$Search") (w2 := wC K ad (sI (sI (sI (sI (sI (sL (sA (sA (sA (sA (sA (sA S 32 a32) 33 a33) 34 a34) 35 a35) 39 a39) 40 f1) 36 l36) 1862 v2) 1863 i1863) 1989 i1989) 2370 i2370) 2371 i2371) ++ X) C w 29 6 iw_Se tk_Se n_Se rfl rfl (by decide) kw_302 rfl rfl rfl rfl (Nat.le_of_ble_eq_true rfl) rfl d_Se_settle_61 (fun H locs w => ?_)
      obtain ⟨v3, ev3⟩ : ∃ y : Int32, y = x2 + 1 := ⟨_, rfl⟩
      refine lv_iinc (v := v3) (lv' := [(2, .int v3), (0, .ref (ad 29))]) hx hb d_Se_settle_64 hl (k := 1) rfl (by rw [ev3]; rfl) (by decide) rfl (fun ls hl => ?_)
      have hw := hw v3 ev3
      refine lv_goto (tgt := 33) hx hb d_Se_settle_67 (by decide) ?_
      exact ih a32 a33 a34 a35 a39 f1 l36 v2 i1863 i1989 i2370 i2371 v3 hw _ _ _ (wn_eq w rfl) (lv_sub hl [1, 0] rfl)
set_option maxHeartbeats 4000000 in
set_option maxRecDepth 100000 in
theorem c_Se_settle (l : Launch) (n0 : Nat) (G : va_G) (K : KT) (ad : Nat → Nat) (X : va_W) (S : ST) (p1 : Int32) (post : Int32 → (Nat → Int32) → (Nat → Int32) → (Nat → Int32) → (Nat → Int32) → (Nat → Int32) → (Nat → Int32) → (Nat → Int64) → Int32 → Int32 → Int32 → Int32 → Int32 → Prop) (hw : wp_Se_settle S p1 post) : Met l y_Se_settle (Cond.code y_Se_settle prog_9_method_6_code 3 (some .boolean) :: gw) rm_Se_settle (va_Pc [.ref (ad 29), .int p1] (wb n0 G K (wC K ad S ++ X))) (va_Qi (fun r (u : (Nat → Int32) × (Nat → Int32) × (Nat → Int32) × (Nat → Int32) × (Nat → Int32) × (Nat → Int32) × (Nat → Int64) × Int32 × Int32 × Int32 × Int32 × Int32) => post r u.1 u.2.1 u.2.2.1 u.2.2.2.1 u.2.2.2.2.1 u.2.2.2.2.2.1 u.2.2.2.2.2.2.1 u.2.2.2.2.2.2.2.1 u.2.2.2.2.2.2.2.2.1 u.2.2.2.2.2.2.2.2.2.1 u.2.2.2.2.2.2.2.2.2.2.1 u.2.2.2.2.2.2.2.2.2.2.2) (fun (u : (Nat → Int32) × (Nat → Int32) × (Nat → Int32) × (Nat → Int32) × (Nat → Int32) × (Nat → Int32) × (Nat → Int64) × Int32 × Int32 × Int32 × Int32 × Int32) t => we n0 G (wC K ad (sI (sI (sI (sI (sI (sL (sA (sA (sA (sA (sA (sA S 32 u.1) 33 u.2.1) 34 u.2.2.1) 35 u.2.2.2.1) 39 u.2.2.2.2.1) 40 u.2.2.2.2.2.1) 36 u.2.2.2.2.2.2.1) 1862 u.2.2.2.2.2.2.2.1) 1863 u.2.2.2.2.2.2.2.2.1) 1989 u.2.2.2.2.2.2.2.2.2.1) 2370 u.2.2.2.2.2.2.2.2.2.2.1) 2371 u.2.2.2.2.2.2.2.2.2.2.2) ++ X) t) (al n0)) 0 0 (al n0) := by
  refine kb_start (own := "LineBreaker$Search") (by decide +kernel) rfl ?_
  intro p e s m below meth c C hr hne w
  have hx := C.1
  have hb := C.2.1
  have hts := C.2.2.2.2.1
  have hl := lv_entry ([.ref (ad 29), .int p1]) (n := 3) (Nat.le_of_ble_eq_true rfl)
  rw [lg_entry_eq]
  generalize (lg_sl ([.ref (ad 29), .int p1]) ++ List.replicate (3 - (lg_sl ([.ref (ad 29), .int p1])).length) Slot.unset).toArray = ls at hl ⊢
  have hl : lv_has ls 3 [(0, .ref (ad 29)), (1, .int p1)] := hl
  unfold wp_Se_settle at hw
  refine lv_aload_n hx hb d_Se_settle_0 rfl (lv_at hl 0 rfl) ?_
  refine lv_aload_n hx hb d_Se_settle_1 rfl (lv_at hl 0 rfl) ?_
  refine kg (C1 := R_Se) (T := F_Se) (N := 10) (ci := 7) (ref := "LineBreaker$Search") (v := .ref (ad 31)) C w 29 3 iw_Se rfl rfl (by decide) kw_298 rfl rfl d_Se_settle_2 ?_
  refine kg (C1 := R_No) (T := F_No) (N := 6) (ci := 3) (ref := "LineBreaker$Nodes") (v := .int (S.2.2 1989)) C w 31 5 iw_No rfl rfl (by decide) kw_259 rfl rfl d_Se_settle_5 ?_
  refine lv_topi (fun v1 ev1 => ?_)
  have hw := hw v1 ev1
  refine kp (C1 := R_Se) (T := F_Se) (N := 10) (ci := 7) (ty0 := t_Se) (ref := "LineBreaker$Search") (w2 := wC K ad (sI S 1863 v1) ++ X) C w 29 7 iw_Se tk_Se n_Se rfl rfl (by decide) kw_303 rfl rfl rfl rfl (Nat.le_of_ble_eq_true rfl) rfl d_Se_settle_8 (fun H locs w => ?_)
  refine lv_aload_n hx hb d_Se_settle_11 rfl (lv_at hl 0 rfl) ?_
  refine kg (C1 := R_Se) (T := F_Se) (N := 10) (ci := 7) (ref := "LineBreaker$Search") (v := .ref (ad 37)) C w 29 4 iw_Se rfl rfl (by decide) kw_300 rfl rfl d_Se_settle_12 ?_
  refine lv_aload_n hx hb d_Se_settle_15 rfl (lv_at hl 0 rfl) ?_
  refine kg (C1 := R_Se) (T := F_Se) (N := 10) (ci := 7) (ref := "LineBreaker$Search") (v := .ref (ad 31)) C w 29 3 iw_Se rfl rfl (by decide) kw_298 rfl rfl d_Se_settle_16 ?_
  refine lv_iload_n hx hb d_Se_settle_19 rfl (lv_at hl 1 rfl) ?_
  refine kc_i (st := fun (u : (Nat → Int32) × (Nat → Int32) × (Nat → Int32) × (Nat → Int32) × (Nat → Int32) × (Nat → Int64) × Int32 × Int32 × Int32) => wC K ad (sI (sI (sI (sL (sA (sA (sA (sA (sA (sI S 1863 v1) 32 u.1) 33 u.2.1) 34 u.2.2.1) 35 u.2.2.2.1) 39 u.2.2.2.2.1) 36 u.2.2.2.2.2.1) 1989 u.2.2.2.2.2.2.1) 2370 u.2.2.2.2.2.2.2.1) 2371 u.2.2.2.2.2.2.2.2) ++ X) w (kr_V (y := y_Of_turnInto) (C1 := R_Of) (T := F_Of) (N := 4) (ci := 4) (q0 := 37) (As := [.ref (ad 31), .int p1]) (n := 2) C w (c_Of_turnInto l n0 G K ad X (sI S 1863 v1) p1 _ hw) (gw_V kw_806 kw_807 kw_808 kw_9 kw_809) (by decide +kernel) rfl rfl ⟨Nat.le_of_ble_eq_true rfl, Nat.le_of_ble_eq_true rfl⟩ rfl rfl rfl hl.1 rfl (Nat.le_of_ble_eq_true rfl) d_Se_settle_20 ⟨Nat.le_of_ble_eq_true rfl, Nat.le_of_ble_eq_true rfl⟩) (fun r11 u H locs hw w => ?_)
  obtain ⟨f2, f3, f4, f5, f6, f7, v8, v9, v10⟩ := u
  dsimp only at hw
  have w : wn n0 G (wC K ad (sI (sI (sI (sI (sL (sA (sA (sA (sA (sA S 32 f2) 33 f3) 34 f4) 35 f5) 39 f6) 36 f7) 1863 v1) 1989 v8) 2370 v9) 2371 v10) ++ X) s H locs := w
  refine lv_if_ne (tgt := 28) hx hb d_Se_settle_23 (by decide) (fun hc => ?_) (fun hc => ?_)
  · have hw := hw.1 hc
    refine lv_aload_n hx hb d_Se_settle_28 rfl (lv_at hl 0 rfl) ?_
    refine kg (C1 := R_Se) (T := F_Se) (N := 10) (ci := 7) (ref := "LineBreaker$Search") (v := .int v1) C w 29 7 iw_Se rfl rfl (by decide) kw_303 rfl rfl d_Se_settle_29 ?_
    refine lv_istore_n (lv' := [(2, .int v1), (0, .ref (ad 29)), (1, .int p1)]) hx hb d_Se_settle_32 rfl hl (by decide) rfl (fun ls hl => ?_)
    obtain ⟨n9, hw⟩ := hw
    exact w_Se_settle_33 C hr  n9 f2 f3 f4 f5 f6 (S.1 40) f7 (S.2.2 1862) v1 v8 v9 v10 v1 hw _ _ _ (wn_eq w rfl) (lv_sub hl [1, 0] rfl)
  · have hw := hw.2 hc
    refine lv_iconst (v := 0) hx hb d_Se_settle_26 (by decide) ?_
    exact ke_z (post := (fun r (u : (Nat → Int32) × (Nat → Int32) × (Nat → Int32) × (Nat → Int32) × (Nat → Int32) × (Nat → Int32) × (Nat → Int64) × Int32 × Int32 × Int32 × Int32 × Int32) => post r u.1 u.2.1 u.2.2.1 u.2.2.2.1 u.2.2.2.2.1 u.2.2.2.2.2.1 u.2.2.2.2.2.2.1 u.2.2.2.2.2.2.2.1 u.2.2.2.2.2.2.2.2.1 u.2.2.2.2.2.2.2.2.2.1 u.2.2.2.2.2.2.2.2.2.2.1 u.2.2.2.2.2.2.2.2.2.2.2)) (st := (fun (u : (Nat → Int32) × (Nat → Int32) × (Nat → Int32) × (Nat → Int32) × (Nat → Int32) × (Nat → Int32) × (Nat → Int64) × Int32 × Int32 × Int32 × Int32 × Int32) => wC K ad (sI (sI (sI (sI (sI (sL (sA (sA (sA (sA (sA (sA S 32 u.1) 33 u.2.1) 34 u.2.2.1) 35 u.2.2.2.1) 39 u.2.2.2.2.1) 40 u.2.2.2.2.2.1) 36 u.2.2.2.2.2.2.1) 1862 u.2.2.2.2.2.2.2.1) 1863 u.2.2.2.2.2.2.2.2.1) 1989 u.2.2.2.2.2.2.2.2.2.1) 2370 u.2.2.2.2.2.2.2.2.2.2.1) 2371 u.2.2.2.2.2.2.2.2.2.2.2) ++ X)) (u := (f2, f3, f4, f5, f6, (S.1 40), f7, (S.2.2 1862), v1, v8, v9, v10)) C hr d_Se_settle_27 (wn_eq w rfl) (Or.inl rfl) hw
set_option maxHeartbeats 4000000 in
set_option maxRecDepth 100000 in
theorem w_Se_visit_217 {S : ST} {post : Int32 → (Nat → Int32) → (Nat → Int32) → (Nat → Int32) → (Nat → Int32) → (Nat → Int32) → (Nat → Int32) → (Nat → Int64) → (Nat → Int64) → Int32 → Int32 → Int32 → Int32 → Int32 → Int32 → Int32 → Int32 → Int32 → Int32 → Int32 → Prop} (C : cx p s m args meth c prog_9_method_3_code 7 "LineBreaker$Search" n0 G K) (hr : meth.sig.returnType = (some .boolean)) : ∀ (a39 : (Nat → Int32)) (a40 : (Nat → Int32)) (l38 : (Nat → Int64)) (i1862 : Int32) (i1923 : Int32) (i1924 : Int32) (i1925 : Int32) (i1926 : Int32) (i1927 : Int32) (i1928 : Int32) (i2370 : Int32) (i2371 : Int32) (x1 : Int32), wl_Se_visit_217 S post a39 a40 l38 i1862 i1923 i1924 i1925 i1926 i1927 i1928 i2370 i2371 x1 → ∀ (H : Heap) (locs : List Loc) (ls : Array Slot), wn n0 G (wC K ad (sI (sI (sI (sI (sI (sI (sI (sI (sI (sL (sA (sA S 39 a39) 40 a40) 38 l38) 1862 i1862) 1923 i1923) 1924 i1924) 1925 i1925) 1926 i1926) 1927 i1927) 1928 i1928) 2370 i2370) 2371 i2371) ++ X) s H locs → lv_has ls 7 [(0, .ref (ad 29)), (1, .int x1)] → W p l e rm_Se_visit s m args below meth c H locs 0 0 (MQ below (va_Qi (fun r (u : (Nat → Int32) × (Nat → Int32) × (Nat → Int32) × (Nat → Int32) × (Nat → Int32) × (Nat → Int32) × (Nat → Int64) × (Nat → Int64) × Int32 × Int32 × Int32 × Int32 × Int32 × Int32 × Int32 × Int32 × Int32 × Int32 × Int32) => post r u.1 u.2.1 u.2.2.1 u.2.2.2.1 u.2.2.2.2.1 u.2.2.2.2.2.1 u.2.2.2.2.2.2.1 u.2.2.2.2.2.2.2.1 u.2.2.2.2.2.2.2.2.1 u.2.2.2.2.2.2.2.2.2.1 u.2.2.2.2.2.2.2.2.2.2.1 u.2.2.2.2.2.2.2.2.2.2.2.1 u.2.2.2.2.2.2.2.2.2.2.2.2.1 u.2.2.2.2.2.2.2.2.2.2.2.2.2.1 u.2.2.2.2.2.2.2.2.2.2.2.2.2.2.1 u.2.2.2.2.2.2.2.2.2.2.2.2.2.2.2.1 u.2.2.2.2.2.2.2.2.2.2.2.2.2.2.2.2.1 u.2.2.2.2.2.2.2.2.2.2.2.2.2.2.2.2.2.1 u.2.2.2.2.2.2.2.2.2.2.2.2.2.2.2.2.2.2) (fun (u : (Nat → Int32) × (Nat → Int32) × (Nat → Int32) × (Nat → Int32) × (Nat → Int32) × (Nat → Int32) × (Nat → Int64) × (Nat → Int64) × Int32 × Int32 × Int32 × Int32 × Int32 × Int32 × Int32 × Int32 × Int32 × Int32 × Int32) t => we n0 G (wC K ad (sI (sI (sI (sI (sI (sI (sI (sI (sI (sI (sI (sL (sL (sA (sA (sA (sA (sA (sA S 32 u.1) 33 u.2.1) 34 u.2.2.1) 35 u.2.2.2.1) 39 u.2.2.2.2.1) 40 u.2.2.2.2.2.1) 36 u.2.2.2.2.2.2.1) 38 u.2.2.2.2.2.2.2.1) 1862 u.2.2.2.2.2.2.2.2.1) 1863 u.2.2.2.2.2.2.2.2.2.1) 1923 u.2.2.2.2.2.2.2.2.2.2.1) 1924 u.2.2.2.2.2.2.2.2.2.2.2.1) 1925 u.2.2.2.2.2.2.2.2.2.2.2.2.1) 1926 u.2.2.2.2.2.2.2.2.2.2.2.2.2.1) 1927 u.2.2.2.2.2.2.2.2.2.2.2.2.2.2.1) 1928 u.2.2.2.2.2.2.2.2.2.2.2.2.2.2.2.1) 1989 u.2.2.2.2.2.2.2.2.2.2.2.2.2.2.2.2.1) 2370 u.2.2.2.2.2.2.2.2.2.2.2.2.2.2.2.2.2.1) 2371 u.2.2.2.2.2.2.2.2.2.2.2.2.2.2.2.2.2.2) ++ X) t) (al n0)) args s 0 0 (al n0)) (F0 m 217 ls []) := by
  have hx := C.1
  have hb := C.2.1
  have hts := C.2.2.2.2.1
  intro a39 a40 l38 i1862 i1923 i1924 i1925 i1926 i1927 i1928 i2370 i2371 x1 hw H locs ls w hl
  unfold wl_Se_visit_217 at hw
  refine lv_aload_n hx hb d_Se_visit_217 rfl (lv_at hl 0 rfl) ?_
  refine lv_iload_n hx hb d_Se_visit_218 rfl (lv_at hl 1 rfl) ?_
  refine kc_i (st := fun (u : (Nat → Int32) × (Nat → Int32) × (Nat → Int32) × (Nat → Int32) × (Nat → Int32) × (Nat → Int32) × (Nat → Int64) × Int32 × Int32 × Int32 × Int32 × Int32) => wC K ad (sI (sI (sI (sI (sI (sL (sA (sA (sA (sA (sA (sA (sI (sI (sI (sI (sI (sI (sI (sI (sI (sL (sA (sA S 39 a39) 40 a40) 38 l38) 1862 i1862) 1923 i1923) 1924 i1924) 1925 i1925) 1926 i1926) 1927 i1927) 1928 i1928) 2370 i2370) 2371 i2371) 32 u.1) 33 u.2.1) 34 u.2.2.1) 35 u.2.2.2.1) 39 u.2.2.2.2.1) 40 u.2.2.2.2.2.1) 36 u.2.2.2.2.2.2.1) 1862 u.2.2.2.2.2.2.2.1) 1863 u.2.2.2.2.2.2.2.2.1) 1989 u.2.2.2.2.2.2.2.2.2.1) 2370 u.2.2.2.2.2.2.2.2.2.2.1) 2371 u.2.2.2.2.2.2.2.2.2.2.2) ++ X) w (kr_V (y := y_Se_settle) (C1 := R_Se) (T := F_Se) (N := 10) (ci := 7) (q0 := 29) (As := [.int x1]) (n := 1) C w (c_Se_settle l n0 G K ad X (sI (sI (sI (sI (sI (sI (sI (sI (sI (sL (sA (sA S 39 a39) 40 a40) 38 l38) 1862 i1862) 1923 i1923) 1924 i1924) 1925 i1925) 1926 i1926) 1927 i1927) 1928 i1928) 2370 i2370) 2371 i2371) x1 _ hw) (gw_V kw_802 kw_804 kp_15 kw_6 kw_805) (by decide +kernel) rfl rfl ⟨Nat.le_of_ble_eq_true rfl, Nat.le_of_ble_eq_true rfl⟩ rfl rfl rfl hl.1 rfl (Nat.le_of_ble_eq_true rfl) d_Se_visit_219 ⟨Nat.le_of_ble_eq_true rfl, Nat.le_of_ble_eq_true rfl⟩) (fun r13 u H locs hw w => ?_)
  obtain ⟨f1, f2, f3, f4, f5, f6, f7, v8, v9, v10, v11, v12⟩ := u
  dsimp only at hw
  have w : wn n0 G (wC K ad (sI (sI (sI (sI (sI (sI (sI (sI (sI (sI (sI (sL (sL (sA (sA (sA (sA (sA (sA S 32 f1) 33 f2) 34 f3) 35 f4) 39 f5) 40 f6) 36 f7) 38 l38) 1862 v8) 1863 v9) 1923 i1923) 1924 i1924) 1925 i1925) 1926 i1926) 1927 i1927) 1928 i1928) 1989 v10) 2370 v11) 2371 v12) ++ X) s H locs := w
  exact ke_z (post := (fun r (u : (Nat → Int32) × (Nat → Int32) × (Nat → Int32) × (Nat → Int32) × (Nat → Int32) × (Nat → Int32) × (Nat → Int64) × (Nat → Int64) × Int32 × Int32 × Int32 × Int32 × Int32 × Int32 × Int32 × Int32 × Int32 × Int32 × Int32) => post r u.1 u.2.1 u.2.2.1 u.2.2.2.1 u.2.2.2.2.1 u.2.2.2.2.2.1 u.2.2.2.2.2.2.1 u.2.2.2.2.2.2.2.1 u.2.2.2.2.2.2.2.2.1 u.2.2.2.2.2.2.2.2.2.1 u.2.2.2.2.2.2.2.2.2.2.1 u.2.2.2.2.2.2.2.2.2.2.2.1 u.2.2.2.2.2.2.2.2.2.2.2.2.1 u.2.2.2.2.2.2.2.2.2.2.2.2.2.1 u.2.2.2.2.2.2.2.2.2.2.2.2.2.2.1 u.2.2.2.2.2.2.2.2.2.2.2.2.2.2.2.1 u.2.2.2.2.2.2.2.2.2.2.2.2.2.2.2.2.1 u.2.2.2.2.2.2.2.2.2.2.2.2.2.2.2.2.2.1 u.2.2.2.2.2.2.2.2.2.2.2.2.2.2.2.2.2.2)) (st := (fun (u : (Nat → Int32) × (Nat → Int32) × (Nat → Int32) × (Nat → Int32) × (Nat → Int32) × (Nat → Int32) × (Nat → Int64) × (Nat → Int64) × Int32 × Int32 × Int32 × Int32 × Int32 × Int32 × Int32 × Int32 × Int32 × Int32 × Int32) => wC K ad (sI (sI (sI (sI (sI (sI (sI (sI (sI (sI (sI (sL (sL (sA (sA (sA (sA (sA (sA S 32 u.1) 33 u.2.1) 34 u.2.2.1) 35 u.2.2.2.1) 39 u.2.2.2.2.1) 40 u.2.2.2.2.2.1) 36 u.2.2.2.2.2.2.1) 38 u.2.2.2.2.2.2.2.1) 1862 u.2.2.2.2.2.2.2.2.1) 1863 u.2.2.2.2.2.2.2.2.2.1) 1923 u.2.2.2.2.2.2.2.2.2.2.1) 1924 u.2.2.2.2.2.2.2.2.2.2.2.1) 1925 u.2.2.2.2.2.2.2.2.2.2.2.2.1) 1926 u.2.2.2.2.2.2.2.2.2.2.2.2.2.1) 1927 u.2.2.2.2.2.2.2.2.2.2.2.2.2.2.1) 1928 u.2.2.2.2.2.2.2.2.2.2.2.2.2.2.2.1) 1989 u.2.2.2.2.2.2.2.2.2.2.2.2.2.2.2.2.1) 2370 u.2.2.2.2.2.2.2.2.2.2.2.2.2.2.2.2.2.1) 2371 u.2.2.2.2.2.2.2.2.2.2.2.2.2.2.2.2.2.2) ++ X)) (u := (f1, f2, f3, f4, f5, f6, f7, l38, v8, v9, i1923, i1924, i1925, i1926, i1927, i1928, v10, v11, v12)) C hr d_Se_visit_222 (wn_eq w rfl) hw.1 hw.2
set_option maxHeartbeats 4000000 in
set_option maxRecDepth 100000 in
theorem w_Se_visit_123 {S : ST} {post : Int32 → (Nat → Int32) → (Nat → Int32) → (Nat → Int32) → (Nat → Int32) → (Nat → Int32) → (Nat → Int32) → (Nat → Int64) → (Nat → Int64) → Int32 → Int32 → Int32 → Int32 → Int32 → Int32 → Int32 → Int32 → Int32 → Int32 → Int32 → Prop} (C : cx p s m args meth c prog_9_method_3_code 7 "LineBreaker$Search" n0 G K) (hr : meth.sig.returnType = (some .boolean)) {K29 : (Nat → Int32) → (Nat → Int32) → (Nat → Int64) → Int32 → Int32 → Int32 → Int32 → Int32 → Int32 → Int32 → Int32 → Int32 → Int32 → Int32 → Int32 → Int32 → Prop} (hk29 : ∀ (a39 : (Nat → Int32)) (a40 : (Nat → Int32)) (l38 : (Nat → Int64)) (i1923 : Int32) (i1924 : Int32) (i1925 : Int32) (i1926 : Int32) (i1927 : Int32) (i1928 : Int32) (i2370 : Int32) (i2371 : Int32) (x1 : Int32) (x2 : Int32) (x3 : Int32) (x4 : Int32) (x5 : Int32), K29 a39 a40 l38 i1923 i1924 i1925 i1926 i1927 i1928 i2370 i2371 x1 x2 x3 x4 x5 → ∀ (H : Heap) (locs : List Loc) (ls : Array Slot), wn n0 G (wC K ad (sI (sI (sI (sI (sI (sI (sI (sI (sL (sA (sA S 39 a39) 40 a40) 38 l38) 1923 i1923) 1924 i1924) 1925 i1925) 1926 i1926) 1927 i1927) 1928 i1928) 2370 i2370) 2371 i2371) ++ X) s H locs → lv_has ls 7 [(0, .ref (ad 29)), (1, .int x1), (2, .int x2), (3, .int x3), (4, .int x4), (5, .int x5)] → W p l e rm_Se_visit s m args below meth c H locs 0 0 (MQ below (va_Qi (fun r (u : (Nat → Int32) × (Nat → Int32) × (Nat → Int32) × (Nat → Int32) × (Nat → Int32) × (Nat → Int32) × (Nat → Int64) × (Nat → Int64) × Int32 × Int32 × Int32 × Int32 × Int32 × Int32 × Int32 × Int32 × Int32 × Int32 × Int32) => post r u.1 u.2.1 u.2.2.1 u.2.2.2.1 u.2.2.2.2.1 u.2.2.2.2.2.1 u.2.2.2.2.2.2.1 u.2.2.2.2.2.2.2.1 u.2.2.2.2.2.2.2.2.1 u.2.2.2.2.2.2.2.2.2.1 u.2.2.2.2.2.2.2.2.2.2.1 u.2.2.2.2.2.2.2.2.2.2.2.1 u.2.2.2.2.2.2.2.2.2.2.2.2.1 u.2.2.2.2.2.2.2.2.2.2.2.2.2.1 u.2.2.2.2.2.2.2.2.2.2.2.2.2.2.1 u.2.2.2.2.2.2.2.2.2.2.2.2.2.2.2.1 u.2.2.2.2.2.2.2.2.2.2.2.2.2.2.2.2.1 u.2.2.2.2.2.2.2.2.2.2.2.2.2.2.2.2.2.1 u.2.2.2.2.2.2.2.2.2.2.2.2.2.2.2.2.2.2) (fun (u : (Nat → Int32) × (Nat → Int32) × (Nat → Int32) × (Nat → Int32) × (Nat → Int32) × (Nat → Int32) × (Nat → Int64) × (Nat → Int64) × Int32 × Int32 × Int32 × Int32 × Int32 × Int32 × Int32 × Int32 × Int32 × Int32 × Int32) t => we n0 G (wC K ad (sI (sI (sI (sI (sI (sI (sI (sI (sI (sI (sI (sL (sL (sA (sA (sA (sA (sA (sA S 32 u.1) 33 u.2.1) 34 u.2.2.1) 35 u.2.2.2.1) 39 u.2.2.2.2.1) 40 u.2.2.2.2.2.1) 36 u.2.2.2.2.2.2.1) 38 u.2.2.2.2.2.2.2.1) 1862 u.2.2.2.2.2.2.2.2.1) 1863 u.2.2.2.2.2.2.2.2.2.1) 1923 u.2.2.2.2.2.2.2.2.2.2.1) 1924 u.2.2.2.2.2.2.2.2.2.2.2.1) 1925 u.2.2.2.2.2.2.2.2.2.2.2.2.1) 1926 u.2.2.2.2.2.2.2.2.2.2.2.2.2.1) 1927 u.2.2.2.2.2.2.2.2.2.2.2.2.2.2.1) 1928 u.2.2.2.2.2.2.2.2.2.2.2.2.2.2.2.1) 1989 u.2.2.2.2.2.2.2.2.2.2.2.2.2.2.2.2.1) 2370 u.2.2.2.2.2.2.2.2.2.2.2.2.2.2.2.2.2.1) 2371 u.2.2.2.2.2.2.2.2.2.2.2.2.2.2.2.2.2.2) ++ X) t) (al n0)) args s 0 0 (al n0)) (F0 m 29 ls [])) : ∀ (a39 : (Nat → Int32)) (a40 : (Nat → Int32)) (l38 : (Nat → Int64)) (i1923 : Int32) (i1924 : Int32) (i1925 : Int32) (i1926 : Int32) (i1927 : Int32) (i1928 : Int32) (i2370 : Int32) (i2371 : Int32) (x1 : Int32) (x2 : Int32) (x3 : Int32) (x4 : Int32) (x5 : Int32) (x6 : Int32), wl_Se_visit_123 S post K29 a39 a40 l38 i1923 i1924 i1925 i1926 i1927 i1928 i2370 i2371 x1 x2 x3 x4 x5 x6 → ∀ (H : Heap) (locs : List Loc) (ls : Array Slot), wn n0 G (wC K ad (sI (sI (sI (sI (sI (sI (sI (sI (sL (sA (sA S 39 a39) 40 a40) 38 l38) 1923 i1923) 1924 i1924) 1925 i1925) 1926 i1926) 1927 i1927) 1928 i1928) 2370 i2370) 2371 i2371) ++ X) s H locs → lv_has ls 7 [(0, .ref (ad 29)), (1, .int x1), (2, .int x2), (3, .int x3), (4, .int x4), (5, .int x5), (6, .int x6)] → W p l e rm_Se_visit s m args below meth c H locs 0 0 (MQ below (va_Qi (fun r (u : (Nat → Int32) × (Nat → Int32) × (Nat → Int32) × (Nat → Int32) × (Nat → Int32) × (Nat → Int32) × (Nat → Int64) × (Nat → Int64) × Int32 × Int32 × Int32 × Int32 × Int32 × Int32 × Int32 × Int32 × Int32 × Int32 × Int32) => post r u.1 u.2.1 u.2.2.1 u.2.2.2.1 u.2.2.2.2.1 u.2.2.2.2.2.1 u.2.2.2.2.2.2.1 u.2.2.2.2.2.2.2.1 u.2.2.2.2.2.2.2.2.1 u.2.2.2.2.2.2.2.2.2.1 u.2.2.2.2.2.2.2.2.2.2.1 u.2.2.2.2.2.2.2.2.2.2.2.1 u.2.2.2.2.2.2.2.2.2.2.2.2.1 u.2.2.2.2.2.2.2.2.2.2.2.2.2.1 u.2.2.2.2.2.2.2.2.2.2.2.2.2.2.1 u.2.2.2.2.2.2.2.2.2.2.2.2.2.2.2.1 u.2.2.2.2.2.2.2.2.2.2.2.2.2.2.2.2.1 u.2.2.2.2.2.2.2.2.2.2.2.2.2.2.2.2.2.1 u.2.2.2.2.2.2.2.2.2.2.2.2.2.2.2.2.2.2) (fun (u : (Nat → Int32) × (Nat → Int32) × (Nat → Int32) × (Nat → Int32) × (Nat → Int32) × (Nat → Int32) × (Nat → Int64) × (Nat → Int64) × Int32 × Int32 × Int32 × Int32 × Int32 × Int32 × Int32 × Int32 × Int32 × Int32 × Int32) t => we n0 G (wC K ad (sI (sI (sI (sI (sI (sI (sI (sI (sI (sI (sI (sL (sL (sA (sA (sA (sA (sA (sA S 32 u.1) 33 u.2.1) 34 u.2.2.1) 35 u.2.2.2.1) 39 u.2.2.2.2.1) 40 u.2.2.2.2.2.1) 36 u.2.2.2.2.2.2.1) 38 u.2.2.2.2.2.2.2.1) 1862 u.2.2.2.2.2.2.2.2.1) 1863 u.2.2.2.2.2.2.2.2.2.1) 1923 u.2.2.2.2.2.2.2.2.2.2.1) 1924 u.2.2.2.2.2.2.2.2.2.2.2.1) 1925 u.2.2.2.2.2.2.2.2.2.2.2.2.1) 1926 u.2.2.2.2.2.2.2.2.2.2.2.2.2.1) 1927 u.2.2.2.2.2.2.2.2.2.2.2.2.2.2.1) 1928 u.2.2.2.2.2.2.2.2.2.2.2.2.2.2.2.1) 1989 u.2.2.2.2.2.2.2.2.2.2.2.2.2.2.2.2.1) 2370 u.2.2.2.2.2.2.2.2.2.2.2.2.2.2.2.2.2.1) 2371 u.2.2.2.2.2.2.2.2.2.2.2.2.2.2.2.2.2.2) ++ X) t) (al n0)) args s 0 0 (al n0)) (F0 m 123 ls []) := by
  have hx := C.1
  have hb := C.2.1
  have hts := C.2.2.2.2.1
  intro a39 a40 l38 i1923 i1924 i1925 i1926 i1927 i1928 i2370 i2371 x1 x2 x3 x4 x5 x6 hw H locs ls w hl
  unfold wl_Se_visit_123 at hw
  refine lv_iload hx hb d_Se_visit_123 (lv_at hl 4 rfl) ?_
  refine lv_iconst (v := (-1)) hx hb d_Se_visit_125 (by decide) ?_
  refine lv_icmp_eq (tgt := 152) hx hb d_Se_visit_126 (by decide) (fun hc => ?_) (fun hc => ?_)
  · have hw := hw.1 hc
    refine lv_iload hx hb d_Se_visit_152 (lv_at hl 6 rfl) ?_
    refine lv_istore (lv' := [(4, .int x6), (0, .ref (ad 29)), (1, .int x1), (2, .int x2), (3, .int x3), (5, .int x5), (6, .int x6)]) hx hb d_Se_visit_154 hl (by decide) rfl (fun ls hl => ?_)
    obtain ⟨v1, ev1⟩ : ∃ y : Int32, y = x5 + 1 := ⟨_, rfl⟩
    refine lv_iinc (v := v1) (lv' := [(5, .int v1), (4, .int x6), (0, .ref (ad 29)), (1, .int x1), (2, .int x2), (3, .int x3), (6, .int x6)]) hx hb d_Se_visit_156 hl (k := 5) rfl (by rw [ev1]; rfl) (by decide) rfl (fun ls hl => ?_)
    have hw := hw v1 ev1
    refine lv_goto (tgt := 29) hx hb d_Se_visit_159 (by decide) ?_
    exact hk29 a39 a40 l38 i1923 i1924 i1925 i1926 i1927 i1928 i2370 i2371 x1 x2 x3 x6 v1 hw _ _ _ (wn_eq w rfl) (lv_sub hl [2, 3, 4, 5, 1, 0] rfl)
  · have hw := hw.2 hc
    refine lv_aload_n hx hb d_Se_visit_129 rfl (lv_at hl 0 rfl) ?_
    refine kg (C1 := R_Se) (T := F_Se) (N := 10) (ci := 7) (ref := "LineBreaker$Search") (v := .ref (ad 31)) C w 29 3 iw_Se rfl rfl (by decide) kw_298 rfl rfl d_Se_visit_130 ?_
    refine kg (C1 := R_No) (T := F_No) (N := 6) (ci := 3) (ref := "LineBreaker$Nodes") (v := .ref (ad 33)) C w 31 1 iw_No rfl rfl (by decide) kw_244 rfl rfl d_Se_visit_133 ?_
    refine lv_iload hx hb d_Se_visit_136 (lv_at hl 6 rfl) ?_
    refine ka_i (f := (S.1 33)) C w 33 rfl hw.1 d_Se_visit_138 ?_
    have hw := hw.2
    refine lv_aload_n hx hb d_Se_visit_139 rfl (lv_at hl 0 rfl) ?_
    refine kg (C1 := R_Se) (T := F_Se) (N := 10) (ci := 7) (ref := "LineBreaker$Search") (v := .ref (ad 31)) C w 29 3 iw_Se rfl rfl (by decide) kw_298 rfl rfl d_Se_visit_140 ?_
    refine kg (C1 := R_No) (T := F_No) (N := 6) (ci := 3) (ref := "LineBreaker$Nodes") (v := .ref (ad 33)) C w 31 1 iw_No rfl rfl (by decide) kw_244 rfl rfl d_Se_visit_143 ?_
    refine lv_iload hx hb d_Se_visit_146 (lv_at hl 4 rfl) ?_
    refine ka_i (f := (S.1 33)) C w 33 rfl hw.1 d_Se_visit_148 ?_
    have hw := hw.2
    refine lv_icmp_le (tgt := 156) hx hb d_Se_visit_149 (by decide) (fun hc => ?_) (fun hc => ?_)
    · have hw := hw.1 hc
      obtain ⟨v2, ev2⟩ : ∃ y : Int32, y = x5 + 1 := ⟨_, rfl⟩
      refine lv_iinc (v := v2) (lv' := [(5, .int v2), (0, .ref (ad 29)), (1, .int x1), (2, .int x2), (3, .int x3), (4, .int x4), (6, .int x6)]) hx hb d_Se_visit_156 hl (k := 5) rfl (by rw [ev2]; rfl) (by decide) rfl (fun ls hl => ?_)
      have hw := hw v2 ev2
      refine lv_goto (tgt := 29) hx hb d_Se_visit_159 (by decide) ?_
      exact hk29 a39 a40 l38 i1923 i1924 i1925 i1926 i1927 i1928 i2370 i2371 x1 x2 x3 x4 v2 hw _ _ _ (wn_eq w rfl) (lv_sub hl [1, 2, 3, 4, 5, 0] rfl)
    · have hw := hw.2 hc
      refine lv_iload hx hb d_Se_visit_152 (lv_at hl 6 rfl) ?_
      refine lv_istore (lv' := [(4, .int x6), (0, .ref (ad 29)), (1, .int x1), (2, .int x2), (3, .int x3), (5, .int x5), (6, .int x6)]) hx hb d_Se_visit_154 hl (by decide) rfl (fun ls hl => ?_)
      obtain ⟨v3, ev3⟩ : ∃ y : Int32, y = x5 + 1 := ⟨_, rfl⟩
      refine lv_iinc (v := v3) (lv' := [(5, .int v3), (4, .int x6), (0, .ref (ad 29)), (1, .int x1), (2, .int x2), (3, .int x3), (6, .int x6)]) hx hb d_Se_visit_156 hl (k := 5) rfl (by rw [ev3]; rfl) (by decide) rfl (fun ls hl => ?_)
      have hw := hw v3 ev3
      refine lv_goto (tgt := 29) hx hb d_Se_visit_159 (by decide) ?_
      exact hk29 a39 a40 l38 i1923 i1924 i1925 i1926 i1927 i1928 i2370 i2371 x1 x2 x3 x6 v3 hw _ _ _ (wn_eq w rfl) (lv_sub hl [2, 3, 4, 5, 1, 0] rfl)
set_option maxHeartbeats 4000000 in
set_option maxRecDepth 100000 in
theorem w_Se_visit_92 {S : ST} {post : Int32 → (Nat → Int32) → (Nat → Int32) → (Nat → Int32) → (Nat → Int32) → (Nat → Int32) → (Nat → Int32) → (Nat → Int64) → (Nat → Int64) → Int32 → Int32 → Int32 → Int32 → Int32 → Int32 → Int32 → Int32 → Int32 → Int32 → Int32 → Prop} (C : cx p s m args meth c prog_9_method_3_code 7 "LineBreaker$Search" n0 G K) (hr : meth.sig.returnType = (some .boolean)) {K29 : (Nat → Int32) → (Nat → Int32) → (Nat → Int64) → Int32 → Int32 → Int32 → Int32 → Int32 → Int32 → Int32 → Int32 → Int32 → Int32 → Int32 → Int32 → Int32 → Prop} (hk29 : ∀ (a39 : (Nat → Int32)) (a40 : (Nat → Int32)) (l38 : (Nat → Int64)) (i1923 : Int32) (i1924 : Int32) (i1925 : Int32) (i1926 : Int32) (i1927 : Int32) (i1928 : Int32) (i2370 : Int32) (i2371 : Int32) (x1 : Int32) (x2 : Int32) (x3 : Int32) (x4 : Int32) (x5 : Int32), K29 a39 a40 l38 i1923 i1924 i1925 i1926 i1927 i1928 i2370 i2371 x1 x2 x3 x4 x5 → ∀ (H : Heap) (locs : List Loc) (ls : Array Slot), wn n0 G (wC K ad (sI (sI (sI (sI (sI (sI (sI (sI (sL (sA (sA S 39 a39) 40 a40) 38 l38) 1923 i1923) 1924 i1924) 1925 i1925) 1926 i1926) 1927 i1927) 1928 i1928) 2370 i2370) 2371 i2371) ++ X) s H locs → lv_has ls 7 [(0, .ref (ad 29)), (1, .int x1), (2, .int x2), (3, .int x3), (4, .int x4), (5, .int x5)] → W p l e rm_Se_visit s m args below meth c H locs 0 0 (MQ below (va_Qi (fun r (u : (Nat → Int32) × (Nat → Int32) × (Nat → Int32) × (Nat → Int32) × (Nat → Int32) × (Nat → Int32) × (Nat → Int64) × (Nat → Int64) × Int32 × Int32 × Int32 × Int32 × Int32 × Int32 × Int32 × Int32 × Int32 × Int32 × Int32) => post r u.1 u.2.1 u.2.2.1 u.2.2.2.1 u.2.2.2.2.1 u.2.2.2.2.2.1 u.2.2.2.2.2.2.1 u.2.2.2.2.2.2.2.1 u.2.2.2.2.2.2.2.2.1 u.2.2.2.2.2.2.2.2.2.1 u.2.2.2.2.2.2.2.2.2.2.1 u.2.2.2.2.2.2.2.2.2.2.2.1 u.2.2.2.2.2.2.2.2.2.2.2.2.1 u.2.2.2.2.2.2.2.2.2.2.2.2.2.1 u.2.2.2.2.2.2.2.2.2.2.2.2.2.2.1 u.2.2.2.2.2.2.2.2.2.2.2.2.2.2.2.1 u.2.2.2.2.2.2.2.2.2.2.2.2.2.2.2.2.1 u.2.2.2.2.2.2.2.2.2.2.2.2.2.2.2.2.2.1 u.2.2.2.2.2.2.2.2.2.2.2.2.2.2.2.2.2.2) (fun (u : (Nat → Int32) × (Nat → Int32) × (Nat → Int32) × (Nat → Int32) × (Nat → Int32) × (Nat → Int32) × (Nat → Int64) × (Nat → Int64) × Int32 × Int32 × Int32 × Int32 × Int32 × Int32 × Int32 × Int32 × Int32 × Int32 × Int32) t => we n0 G (wC K ad (sI (sI (sI (sI (sI (sI (sI (sI (sI (sI (sI (sL (sL (sA (sA (sA (sA (sA (sA S 32 u.1) 33 u.2.1) 34 u.2.2.1) 35 u.2.2.2.1) 39 u.2.2.2.2.1) 40 u.2.2.2.2.2.1) 36 u.2.2.2.2.2.2.1) 38 u.2.2.2.2.2.2.2.1) 1862 u.2.2.2.2.2.2.2.2.1) 1863 u.2.2.2.2.2.2.2.2.2.1) 1923 u.2.2.2.2.2.2.2.2.2.2.1) 1924 u.2.2.2.2.2.2.2.2.2.2.2.1) 1925 u.2.2.2.2.2.2.2.2.2.2.2.2.1) 1926 u.2.2.2.2.2.2.2.2.2.2.2.2.2.1) 1927 u.2.2.2.2.2.2.2.2.2.2.2.2.2.2.1) 1928 u.2.2.2.2.2.2.2.2.2.2.2.2.2.2.2.1) 1989 u.2.2.2.2.2.2.2.2.2.2.2.2.2.2.2.2.1) 2370 u.2.2.2.2.2.2.2.2.2.2.2.2.2.2.2.2.2.1) 2371 u.2.2.2.2.2.2.2.2.2.2.2.2.2.2.2.2.2.2) ++ X) t) (al n0)) args s 0 0 (al n0)) (F0 m 29 ls [])) : ∀ (a39 : (Nat → Int32)) (a40 : (Nat → Int32)) (l38 : (Nat → Int64)) (i1923 : Int32) (i1924 : Int32) (i1925 : Int32) (i1926 : Int32) (i1927 : Int32) (i1928 : Int32) (i2370 : Int32) (i2371 : Int32) (x1 : Int32) (x2 : Int32) (x3 : Int32) (x4 : Int32) (x5 : Int32) (x6 : Int32), wl_Se_visit_92 S post K29 a39 a40 l38 i1923 i1924 i1925 i1926 i1927 i1928 i2370 i2371 x1 x2 x3 x4 x5 x6 → ∀ (H : Heap) (locs : List Loc) (ls : Array Slot), wn n0 G (wC K ad (sI (sI (sI (sI (sI (sI (sI (sI (sL (sA (sA S 39 a39) 40 a40) 38 l38) 1923 i1923) 1924 i1924) 1925 i1925) 1926 i1926) 1927 i1927) 1928 i1928) 2370 i2370) 2371 i2371) ++ X) s H locs → lv_has ls 7 [(0, .ref (ad 29)), (1, .int x1), (2, .int x2), (3, .int x3), (4, .int x4), (5, .int x5), (6, .int x6)] → W p l e rm_Se_visit s m args below meth c H locs 0 0 (MQ below (va_Qi (fun r (u : (Nat → Int32) × (Nat → Int32) × (Nat → Int32) × (Nat → Int32) × (Nat → Int32) × (Nat → Int32) × (Nat → Int64) × (Nat → Int64) × Int32 × Int32 × Int32 × Int32 × Int32 × Int32 × Int32 × Int32 × Int32 × Int32 × Int32) => post r u.1 u.2.1 u.2.2.1 u.2.2.2.1 u.2.2.2.2.1 u.2.2.2.2.2.1 u.2.2.2.2.2.2.1 u.2.2.2.2.2.2.2.1 u.2.2.2.2.2.2.2.2.1 u.2.2.2.2.2.2.2.2.2.1 u.2.2.2.2.2.2.2.2.2.2.1 u.2.2.2.2.2.2.2.2.2.2.2.1 u.2.2.2.2.2.2.2.2.2.2.2.2.1 u.2.2.2.2.2.2.2.2.2.2.2.2.2.1 u.2.2.2.2.2.2.2.2.2.2.2.2.2.2.1 u.2.2.2.2.2.2.2.2.2.2.2.2.2.2.2.1 u.2.2.2.2.2.2.2.2.2.2.2.2.2.2.2.2.1 u.2.2.2.2.2.2.2.2.2.2.2.2.2.2.2.2.2.1 u.2.2.2.2.2.2.2.2.2.2.2.2.2.2.2.2.2.2) (fun (u : (Nat → Int32) × (Nat → Int32) × (Nat → Int32) × (Nat → Int32) × (Nat → Int32) × (Nat → Int32) × (Nat → Int64) × (Nat → Int64) × Int32 × Int32 × Int32 × Int32 × Int32 × Int32 × Int32 × Int32 × Int32 × Int32 × Int32) t => we n0 G (wC K ad (sI (sI (sI (sI (sI (sI (sI (sI (sI (sI (sI (sL (sL (sA (sA (sA (sA (sA (sA S 32 u.1) 33 u.2.1) 34 u.2.2.1) 35 u.2.2.2.1) 39 u.2.2.2.2.1) 40 u.2.2.2.2.2.1) 36 u.2.2.2.2.2.2.1) 38 u.2.2.2.2.2.2.2.1) 1862 u.2.2.2.2.2.2.2.2.1) 1863 u.2.2.2.2.2.2.2.2.2.1) 1923 u.2.2.2.2.2.2.2.2.2.2.1) 1924 u.2.2.2.2.2.2.2.2.2.2.2.1) 1925 u.2.2.2.2.2.2.2.2.2.2.2.2.1) 1926 u.2.2.2.2.2.2.2.2.2.2.2.2.2.1) 1927 u.2.2.2.2.2.2.2.2.2.2.2.2.2.2.1) 1928 u.2.2.2.2.2.2.2.2.2.2.2.2.2.2.2.1) 1989 u.2.2.2.2.2.2.2.2.2.2.2.2.2.2.2.2.1) 2370 u.2.2.2.2.2.2.2.2.2.2.2.2.2.2.2.2.2.1) 2371 u.2.2.2.2.2.2.2.2.2.2.2.2.2.2.2.2.2.2) ++ X) t) (al n0)) args s 0 0 (al n0)) (F0 m 92 ls []) := by
  have hx := C.1
  have hb := C.2.1
  have hts := C.2.2.2.2.1
  intro a39 a40 l38 i1923 i1924 i1925 i1926 i1927 i1928 i2370 i2371 x1 x2 x3 x4 x5 x6 hw H locs ls w hl
  unfold wl_Se_visit_92 at hw
  refine lv_iload_n hx hb d_Se_visit_92 rfl (lv_at hl 2 rfl) ?_
  refine lv_if_ne (tgt := 123) hx hb d_Se_visit_93 (by decide) (fun hc => ?_) (fun hc => ?_)
  · have hw := hw.1 hc
    exact w_Se_visit_123 C hr hk29 a39 a40 l38 i1923 i1924 i1925 i1926 i1927 i1928 i2370 i2371 x1 x2 x3 x4 x5 x6 hw _ _ _ (wn_eq w rfl) (lv_sub hl [0, 1, 2, 3, 4, 5, 6] rfl)
  · have hw := hw.2 hc
    refine lv_aload_n hx hb d_Se_visit_96 rfl (lv_at hl 0 rfl) ?_
    refine kg (C1 := R_Se) (T := F_Se) (N := 10) (ci := 7) (ref := "LineBreaker$Search") (v := .ref (ad 30)) C w 29 2 iw_Se rfl rfl (by decide) kw_296 rfl rfl d_Se_visit_97 ?_
    refine kg (C1 := R_Gu) (T := F_Gu) (N := 9) (ci := 1) (ref := "LineBreaker$Gauge") (v := .int i1924) C w 30 4 iw_Gu rfl rfl (by decide) kw_204 rfl rfl d_Se_visit_100 ?_
    refine lv_sipush (v := 10001) hx hb d_Se_visit_103 (by decide) ?_
    refine lv_icmp_eq (tgt := 123) hx hb d_Se_visit_106 (by decide) (fun hc => ?_) (fun hc => ?_)
    · have hw := hw.1 hc
      exact w_Se_visit_123 C hr hk29 a39 a40 l38 i1923 i1924 i1925 i1926 i1927 i1928 i2370 i2371 x1 x2 x3 x4 x5 x6 hw _ _ _ (wn_eq w rfl) (lv_sub hl [0, 1, 2, 3, 4, 5, 6] rfl)
    · have hw := hw.2 hc
      refine lv_aload_n hx hb d_Se_visit_109 rfl (lv_at hl 0 rfl) ?_
      refine kg (C1 := R_Se) (T := F_Se) (N := 10) (ci := 7) (ref := "LineBreaker$Search") (v := .ref (ad 40)) C w 29 5 iw_Se rfl rfl (by decide) kw_301 rfl rfl d_Se_visit_110 ?_
      refine lv_iload_n hx hb d_Se_visit_113 rfl (lv_at hl 3 rfl) ?_
      refine lv_iload hx hb d_Se_visit_114 (lv_at hl 6 rfl) ?_
      obtain ⟨f1, ef1⟩ : ∃ z : Nat → Int32, z = upd a40 x3.toNatClampNeg x6 := ⟨_, rfl⟩
      refine ks_i (f := a40) (w2 := wC K ad (sI (sI (sI (sI (sI (sI (sI (sI (sL (sA (sA S 39 a39) 40 f1) 38 l38) 1923 i1923) 1924 i1924) 1925 i1925) 1926 i1926) 1927 i1927) 1928 i1928) 2370 i2370) 2371 i2371) ++ X) C w 40 rfl hw.1 (by rw [← ef1]; rfl) d_Se_visit_116 (fun H locs w => ?_)
      have hw := hw.2 f1 ef1
      obtain ⟨v2, ev2⟩ : ∃ y : Int32, y = x3 + 1 := ⟨_, rfl⟩
      refine lv_iinc (v := v2) (lv' := [(3, .int v2), (0, .ref (ad 29)), (1, .int x1), (2, .int x2), (4, .int x4), (5, .int x5), (6, .int x6)]) hx hb d_Se_visit_117 hl (k := 3) rfl (by rw [ev2]; rfl) (by decide) rfl (fun ls hl => ?_)
      have hw := hw v2 ev2
      refine lv_goto (tgt := 156) hx hb d_Se_visit_120 (by decide) ?_
      obtain ⟨v3, ev3⟩ : ∃ y : Int32, y = x5 + 1 := ⟨_, rfl⟩
      refine lv_iinc (v := v3) (lv' := [(5, .int v3), (3, .int v2), (0, .ref (ad 29)), (1, .int x1), (2, .int x2), (4, .int x4), (6, .int x6)]) hx hb d_Se_visit_156 hl (k := 5) rfl (by rw [ev3]; rfl) (by decide) rfl (fun ls hl => ?_)
      have hw := hw v3 ev3
      refine lv_goto (tgt := 29) hx hb d_Se_visit_159 (by decide) ?_
      exact hk29 a39 f1 l38 i1923 i1924 i1925 i1926 i1927 i1928 i2370 i2371 x1 x2 v2 x4 v3 hw _ _ _ (wn_eq w rfl) (lv_sub hl [2, 3, 4, 1, 5, 0] rfl)
set_option maxHeartbeats 4000000 in
set_option maxRecDepth 100000 in
theorem w_Se_visit_29 {S : ST} {post : Int32 → (Nat → Int32) → (Nat → Int32) → (Nat → Int32) → (Nat → Int32) → (Nat → Int32) → (Nat → Int32) → (Nat → Int64) → (Nat → Int64) → Int32 → Int32 → Int32 → Int32 → Int32 → Int32 → Int32 → Int32 → Int32 → Int32 → Int32 → Prop} (C : cx p s m args meth c prog_9_method_3_code 7 "LineBreaker$Search" n0 G K) (hr : meth.sig.returnType = (some .boolean)) : ∀ (n : Nat) (a39 : (Nat → Int32)) (a40 : (Nat → Int32)) (l38 : (Nat → Int64)) (i1923 : Int32) (i1924 : Int32) (i1925 : Int32) (i1926 : Int32) (i1927 : Int32) (i1928 : Int32) (i2370 : Int32) (i2371 : Int32) (x1 : Int32) (x2 : Int32) (x3 : Int32) (x4 : Int32) (x5 : Int32), wl_Se_visit_29 S post n a39 a40 l38 i1923 i1924 i1925 i1926 i1927 i1928 i2370 i2371 x1 x2 x3 x4 x5 → ∀ (H : Heap) (locs : List Loc) (ls : Array Slot), wn n0 G (wC K ad (sI (sI (sI (sI (sI (sI (sI (sI (sL (sA (sA S 39 a39) 40 a40) 38 l38) 1923 i1923) 1924 i1924) 1925 i1925) 1926 i1926) 1927 i1927) 1928 i1928) 2370 i2370) 2371 i2371) ++ X) s H locs → lv_has ls 7 [(0, .ref (ad 29)), (1, .int x1), (2, .int x2), (3, .int x3), (4, .int x4), (5, .int x5)] → W p l e rm_Se_visit s m args below meth c H locs 0 0 (MQ below (va_Qi (fun r (u : (Nat → Int32) × (Nat → Int32) × (Nat → Int32) × (Nat → Int32) × (Nat → Int32) × (Nat → Int32) × (Nat → Int64) × (Nat → Int64) × Int32 × Int32 × Int32 × Int32 × Int32 × Int32 × Int32 × Int32 × Int32 × Int32 × Int32) => post r u.1 u.2.1 u.2.2.1 u.2.2.2.1 u.2.2.2.2.1 u.2.2.2.2.2.1 u.2.2.2.2.2.2.1 u.2.2.2.2.2.2.2.1 u.2.2.2.2.2.2.2.2.1 u.2.2.2.2.2.2.2.2.2.1 u.2.2.2.2.2.2.2.2.2.2.1 u.2.2.2.2.2.2.2.2.2.2.2.1 u.2.2.2.2.2.2.2.2.2.2.2.2.1 u.2.2.2.2.2.2.2.2.2.2.2.2.2.1 u.2.2.2.2.2.2.2.2.2.2.2.2.2.2.1 u.2.2.2.2.2.2.2.2.2.2.2.2.2.2.2.1 u.2.2.2.2.2.2.2.2.2.2.2.2.2.2.2.2.1 u.2.2.2.2.2.2.2.2.2.2.2.2.2.2.2.2.2.1 u.2.2.2.2.2.2.2.2.2.2.2.2.2.2.2.2.2.2) (fun (u : (Nat → Int32) × (Nat → Int32) × (Nat → Int32) × (Nat → Int32) × (Nat → Int32) × (Nat → Int32) × (Nat → Int64) × (Nat → Int64) × Int32 × Int32 × Int32 × Int32 × Int32 × Int32 × Int32 × Int32 × Int32 × Int32 × Int32) t => we n0 G (wC K ad (sI (sI (sI (sI (sI (sI (sI (sI (sI (sI (sI (sL (sL (sA (sA (sA (sA (sA (sA S 32 u.1) 33 u.2.1) 34 u.2.2.1) 35 u.2.2.2.1) 39 u.2.2.2.2.1) 40 u.2.2.2.2.2.1) 36 u.2.2.2.2.2.2.1) 38 u.2.2.2.2.2.2.2.1) 1862 u.2.2.2.2.2.2.2.2.1) 1863 u.2.2.2.2.2.2.2.2.2.1) 1923 u.2.2.2.2.2.2.2.2.2.2.1) 1924 u.2.2.2.2.2.2.2.2.2.2.2.1) 1925 u.2.2.2.2.2.2.2.2.2.2.2.2.1) 1926 u.2.2.2.2.2.2.2.2.2.2.2.2.2.1) 1927 u.2.2.2.2.2.2.2.2.2.2.2.2.2.2.1) 1928 u.2.2.2.2.2.2.2.2.2.2.2.2.2.2.2.1) 1989 u.2.2.2.2.2.2.2.2.2.2.2.2.2.2.2.2.1) 2370 u.2.2.2.2.2.2.2.2.2.2.2.2.2.2.2.2.2.1) 2371 u.2.2.2.2.2.2.2.2.2.2.2.2.2.2.2.2.2.2) ++ X) t) (al n0)) args s 0 0 (al n0)) (F0 m 29 ls []) := by
  have hx := C.1
  have hb := C.2.1
  have hts := C.2.2.2.2.1
  intro n
  induction n with
  | zero =>
    intro a39 a40 l38 i1923 i1924 i1925 i1926 i1927 i1928 i2370 i2371 x1 x2 x3 x4 x5 hw
    unfold wl_Se_visit_29 at hw
    exact hw.elim
  | succ n ih =>
    intro a39 a40 l38 i1923 i1924 i1925 i1926 i1927 i1928 i2370 i2371 x1 x2 x3 x4 x5 hw H locs ls w hl
    unfold wl_Se_visit_29 at hw
    refine lv_iload hx hb d_Se_visit_29 (lv_at hl 5 rfl) ?_
    refine lv_aload_n hx hb d_Se_visit_31 rfl (lv_at hl 0 rfl) ?_
    refine kg (C1 := R_Se) (T := F_Se) (N := 10) (ci := 7) (ref := "LineBreaker$Search") (v := .int (S.2.2 1862)) C w 29 6 iw_Se rfl rfl (by decide) kw_302 rfl rfl d_Se_visit_32 ?_
    refine lv_icmp_ge (tgt := 162) hx hb d_Se_visit_35 (by decide) (fun hc => ?_) (fun hc => ?_)
    · have hw := hw.1 hc
      refine lv_aload_n hx hb d_Se_visit_162 rfl (lv_at hl 0 rfl) ?_
      refine lv_iload_n hx hb d_Se_visit_163 rfl (lv_at hl 3 rfl) ?_
      refine kp (C1 := R_Se) (T := F_Se) (N := 10) (ci := 7) (ty0 := t_Se) (ref := "LineBreaker$Search") (w2 := wC K ad (sI (sI (sI (sI (sI (sI (sI (sI (sI (sL (sA (sA S 39 a39) 40 a40) 38 l38) 1862 x3) 1923 i1923) 1924 i1924) 1925 i1925) 1926 i1926) 1927 i1927) 1928 i1928) 2370 i2370) 2371 i2371) ++ X) C w 29 6 iw_Se tk_Se n_Se rfl rfl (by decide) kw_302 rfl rfl rfl rfl (Nat.le_of_ble_eq_true rfl) rfl d_Se_visit_164 (fun H locs w => ?_)
      refine lv_aload_n hx hb d_Se_visit_167 rfl (lv_at hl 0 rfl) ?_
      refine kg (C1 := R_Se) (T := F_Se) (N := 10) (ci := 7) (ref := "LineBreaker$Search") (v := .int (S.2.2 1865)) C w 29 9 iw_Se rfl rfl (by decide) kw_305 rfl rfl d_Se_visit_168 ?_
      refine lv_if_eq (tgt := 217) hx hb d_Se_visit_171 (by decide) (fun hc => ?_) (fun hc => ?_)
      · have hw := hw.1 hc
        exact w_Se_visit_217 C hr  a39 a40 l38 x3 i1923 i1924 i1925 i1926 i1927 i1928 i2370 i2371 x1 hw _ _ _ (wn_eq w rfl) (lv_sub hl [0, 1] rfl)
      · have hw := hw.2 hc
        refine lv_iload_n hx hb d_Se_visit_174 rfl (lv_at hl 3 rfl) ?_
        refine lv_if_ne (tgt := 217) hx hb d_Se_visit_175 (by decide) (fun hc => ?_) (fun hc => ?_)
        · have hw := hw.1 hc
          exact w_Se_visit_217 C hr  a39 a40 l38 x3 i1923 i1924 i1925 i1926 i1927 i1928 i2370 i2371 x1 hw _ _ _ (wn_eq w rfl) (lv_sub hl [0, 1] rfl)
        · have hw := hw.2 hc
          refine lv_aload_n hx hb d_Se_visit_178 rfl (lv_at hl 0 rfl) ?_
          refine kg (C1 := R_Se) (T := F_Se) (N := 10) (ci := 7) (ref := "LineBreaker$Search") (v := .ref (ad 37)) C w 29 4 iw_Se rfl rfl (by decide) kw_300 rfl rfl d_Se_visit_179 ?_
          refine kd_i (kr_V (y := y_Of_isEmpty) (C1 := R_Of) (T := F_Of) (N := 4) (ci := 4) (q0 := 37) (As := []) (n := 0) C w (c_Of_isEmpty l n0 G K ad X (sI (sI (sI (sI (sI (sI (sI (sI (sI (sL (sA (sA S 39 a39) 40 a40) 38 l38) 1862 x3) 1923 i1923) 1924 i1924) 1925 i1925) 1926 i1926) 1927 i1927) 1928 i1928) 2370 i2370) 2371 i2371)  _ hw) (gw_V kw_798 kw_799 kw_800 kw_9 kw_801) (by decide +kernel) rfl rfl ⟨Nat.le_of_ble_eq_true rfl, Nat.le_of_ble_eq_true rfl⟩ rfl rfl rfl hl.1 rfl (Nat.le_of_ble_eq_true rfl) d_Se_visit_182 ⟨Nat.le_of_ble_eq_true rfl, Nat.le_of_ble_eq_true rfl⟩) (fun r1 hw => ?_)
          refine lv_if_eq (tgt := 217) hx hb d_Se_visit_185 (by decide) (fun hc => ?_) (fun hc => ?_)
          · have hw := hw.1 hc
            exact w_Se_visit_217 C hr  a39 a40 l38 x3 i1923 i1924 i1925 i1926 i1927 i1928 i2370 i2371 x1 hw _ _ _ (wn_eq w rfl) (lv_sub hl [0, 1] rfl)
          · have hw := hw.2 hc
            refine lv_iload hx hb d_Se_visit_188 (lv_at hl 4 rfl) ?_
            refine lv_iconst (v := (-1)) hx hb d_Se_visit_190 (by decide) ?_
            refine lv_icmp_eq (tgt := 217) hx hb d_Se_visit_191 (by decide) (fun hc => ?_) (fun hc => ?_)
            · have hw := hw.1 hc
              exact w_Se_visit_217 C hr  a39 a40 l38 x3 i1923 i1924 i1925 i1926 i1927 i1928 i2370 i2371 x1 hw _ _ _ (wn_eq w rfl) (lv_sub hl [0, 1] rfl)
            · have hw := hw.2 hc
              refine lv_aload_n hx hb d_Se_visit_194 rfl (lv_at hl 0 rfl) ?_
              refine lv_iload hx hb d_Se_visit_195 (lv_at hl 4 rfl) ?_
              refine lv_iload_n hx hb d_Se_visit_197 rfl (lv_at hl 1 rfl) ?_
              refine kc_v (st := fun (u : Int32 × Int32 × Int32 × Int32 × Int32 × Int32) => wC K ad (sI (sI (sI (sI (sI (sI (sI (sI (sI (sI (sI (sI (sI (sI (sI (sL (sA (sA S 39 a39) 40 a40) 38 l38) 1862 x3) 1923 i1923) 1924 i1924) 1925 i1925) 1926 i1926) 1927 i1927) 1928 i1928) 2370 i2370) 2371 i2371) 1923 u.1) 1924 u.2.1) 1925 u.2.2.1) 1926 u.2.2.2.1) 1927 u.2.2.2.2.1) 1928 u.2.2.2.2.2) ++ X) w (kr_V (y := y_Se_measureFrom) (C1 := R_Se) (T := F_Se) (N := 10) (ci := 7) (q0 := 29) (As := [.int x4, .int x1]) (n := 2) C w (c_Se_measureFrom l n0 G K ad X (sI (sI (sI (sI (sI (sI (sI (sI (sI (sL (sA (sA S 39 a39) 40 a40) 38 l38) 1862 x3) 1923 i1923) 1924 i1924) 1925 i1925) 1926 i1926) 1927 i1927) 1928 i1928) 2370 i2370) 2371 i2371) x4 x1 _ hw) (gw_V kw_738 kw_739 kw_740 kw_6 kw_741) (by decide +kernel) rfl rfl ⟨Nat.le_of_ble_eq_true rfl, Nat.le_of_ble_eq_true rfl⟩ rfl rfl rfl hl.1 rfl (Nat.le_of_ble_eq_true rfl) d_Se_visit_198 ⟨Nat.le_of_ble_eq_true rfl, Nat.le_of_ble_eq_true rfl⟩) (fun u H locs hw w => ?_)
              obtain ⟨v2, v3, v4, v5, v6, v7⟩ := u
              dsimp only at hw
              have w : wn n0 G (wC K ad (sI (sI (sI (sI (sI (sI (sI (sI (sI (sL (sA (sA S 39 a39) 40 a40) 38 l38) 1862 x3) 1923 v2) 1924 v3) 1925 v4) 1926 v5) 1927 v6) 1928 v7) 2370 i2370) 2371 i2371) ++ X) s H locs := w
              refine lv_aload_n hx hb d_Se_visit_201 rfl (lv_at hl 0 rfl) ?_
              refine lv_iload hx hb d_Se_visit_202 (lv_at hl 4 rfl) ?_
              refine lv_aload_n hx hb d_Se_visit_204 rfl (lv_at hl 0 rfl) ?_
              refine kg (C1 := R_Se) (T := F_Se) (N := 10) (ci := 7) (ref := "LineBreaker$Search") (v := .ref (ad 31)) C w 29 3 iw_Se rfl rfl (by decide) kw_298 rfl rfl d_Se_visit_205 ?_
              refine kg (C1 := R_No) (T := F_No) (N := 6) (ci := 3) (ref := "LineBreaker$Nodes") (v := .ref (ad 36)) C w 31 4 iw_No rfl rfl (by decide) kw_253 rfl rfl d_Se_visit_208 ?_
              refine lv_iload hx hb d_Se_visit_211 (lv_at hl 4 rfl) ?_
              refine ka_l (f := (S.2.1 36)) C w 36 rfl hw.1 d_Se_visit_213 ?_
              have hw := hw.2
              refine kc_v (st := fun (u : (Nat → Int32) × (Nat → Int64) × Int32 × Int32) => wC K ad (sI (sI (sL (sA (sI (sI (sI (sI (sI (sI (sI (sI (sI (sL (sA (sA S 39 a39) 40 a40) 38 l38) 1862 x3) 1923 v2) 1924 v3) 1925 v4) 1926 v5) 1927 v6) 1928 v7) 2370 i2370) 2371 i2371) 39 u.1) 38 u.2.1) 2370 u.2.2.1) 2371 u.2.2.2) ++ X) w (kr_V (y := y_Se_offerFrom) (C1 := R_Se) (T := F_Se) (N := 10) (ci := 7) (q0 := 29) (As := [.int x4, .long ((S.2.1 36) x4.toNatClampNeg)]) (n := 2) C w (c_Se_offerFrom l n0 G K ad X (sI (sI (sI (sI (sI (sI (sI (sI (sI (sL (sA (sA S 39 a39) 40 a40) 38 l38) 1862 x3) 1923 v2) 1924 v3) 1925 v4) 1926 v5) 1927 v6) 1928 v7) 2370 i2370) 2371 i2371) x4 ((S.2.1 36) x4.toNatClampNeg) _ hw) (gw_V kw_788 kw_790 kp_14 kw_6 kw_791) (by decide +kernel) rfl rfl ⟨Nat.le_of_ble_eq_true rfl, Nat.le_of_ble_eq_true rfl⟩ rfl rfl rfl hl.1 rfl (Nat.le_of_ble_eq_true rfl) d_Se_visit_214 ⟨Nat.le_of_ble_eq_true rfl, Nat.le_of_ble_eq_true rfl⟩) (fun u H locs hw w => ?_)
              obtain ⟨f8, f9, v10, v11⟩ := u
              dsimp only at hw
              have w : wn n0 G (wC K ad (sI (sI (sI (sI (sI (sI (sI (sI (sI (sL (sA (sA S 39 f8) 40 a40) 38 f9) 1862 x3) 1923 v2) 1924 v3) 1925 v4) 1926 v5) 1927 v6) 1928 v7) 2370 v10) 2371 v11) ++ X) s H locs := w
              exact w_Se_visit_217 C hr  f8 a40 f9 x3 v2 v3 v4 v5 v6 v7 v10 v11 x1 hw _ _ _ (wn_eq w rfl) (lv_sub hl [0, 1] rfl)
    · have hw := hw.2 hc
      refine lv_aload_n hx hb d_Se_visit_38 rfl (lv_at hl 0 rfl) ?_
      refine kg (C1 := R_Se) (T := F_Se) (N := 10) (ci := 7) (ref := "LineBreaker$Search") (v := .ref (ad 40)) C w 29 5 iw_Se rfl rfl (by decide) kw_301 rfl rfl d_Se_visit_39 ?_
      refine lv_iload hx hb d_Se_visit_42 (lv_at hl 5 rfl) ?_
      refine ka_i (f := a40) C w 40 rfl hw.1 d_Se_visit_44 ?_
      have hw := hw.2
      refine lv_topi (fun v12 ev12 => ?_)
      have hw := hw v12 ev12
      refine lv_istore (lv' := [(6, .int v12), (0, .ref (ad 29)), (1, .int x1), (2, .int x2), (3, .int x3), (4, .int x4), (5, .int x5)]) hx hb d_Se_visit_45 hl (by decide) rfl (fun ls hl => ?_)
      refine lv_aload_n hx hb d_Se_visit_47 rfl (lv_at hl 1 rfl) ?_
      refine lv_iload hx hb d_Se_visit_48 (lv_at hl 0 rfl) ?_
      refine lv_iload_n hx hb d_Se_visit_50 rfl (lv_at hl 2 rfl) ?_
      refine kc_v (st := fun (u : Int32 × Int32 × Int32 × Int32 × Int32 × Int32) => wC K ad (sI (sI (sI (sI (sI (sI (sI (sI (sI (sI (sI (sI (sI (sI (sL (sA (sA S 39 a39) 40 a40) 38 l38) 1923 i1923) 1924 i1924) 1925 i1925) 1926 i1926) 1927 i1927) 1928 i1928) 2370 i2370) 2371 i2371) 1923 u.1) 1924 u.2.1) 1925 u.2.2.1) 1926 u.2.2.2.1) 1927 u.2.2.2.2.1) 1928 u.2.2.2.2.2) ++ X) w (kr_V (y := y_Se_measureFrom) (C1 := R_Se) (T := F_Se) (N := 10) (ci := 7) (q0 := 29) (As := [.int v12, .int x1]) (n := 2) C w (c_Se_measureFrom l n0 G K ad X (sI (sI (sI (sI (sI (sI (sI (sI (sL (sA (sA S 39 a39) 40 a40) 38 l38) 1923 i1923) 1924 i1924) 1925 i1925) 1926 i1926) 1927 i1927) 1928 i1928) 2370 i2370) 2371 i2371) v12 x1 _ hw) (gw_V kw_738 kw_739 kw_740 kw_6 kw_741) (by decide +kernel) rfl rfl ⟨Nat.le_of_ble_eq_true rfl, Nat.le_of_ble_eq_true rfl⟩ rfl rfl rfl hl.1 rfl (Nat.le_of_ble_eq_true rfl) d_Se_visit_51 ⟨Nat.le_of_ble_eq_true rfl, Nat.le_of_ble_eq_true rfl⟩) (fun u H locs hw w => ?_)
      obtain ⟨v13, v14, v15, v16, v17, v18⟩ := u
      dsimp only at hw
      have w : wn n0 G (wC K ad (sI (sI (sI (sI (sI (sI (sI (sI (sL (sA (sA S 39 a39) 40 a40) 38 l38) 1923 v13) 1924 v14) 1925 v15) 1926 v16) 1927 v17) 1928 v18) 2370 i2370) 2371 i2371) ++ X) s H locs := w
      refine lv_aload_n hx hb d_Se_visit_54 rfl (lv_at hl 1 rfl) ?_
      refine kg (C1 := R_Se) (T := F_Se) (N := 10) (ci := 7) (ref := "LineBreaker$Search") (v := .ref (ad 30)) C w 29 2 iw_Se rfl rfl (by decide) kw_296 rfl rfl d_Se_visit_55 ?_
      refine kg (C1 := R_Gu) (T := F_Gu) (N := 9) (ci := 1) (ref := "LineBreaker$Gauge") (v := .int v14) C w 30 4 iw_Gu rfl rfl (by decide) kw_204 rfl rfl d_Se_visit_58 ?_
      refine lv_aload_n hx hb d_Se_visit_61 rfl (lv_at hl 1 rfl) ?_
      refine kg (C1 := R_Se) (T := F_Se) (N := 10) (ci := 7) (ref := "LineBreaker$Search") (v := .int (S.2.2 1864)) C w 29 8 iw_Se rfl rfl (by decide) kw_304 rfl rfl d_Se_visit_62 ?_
      refine lv_icmp_gt (tgt := 92) hx hb d_Se_visit_65 (by decide) (fun hc => ?_) (fun hc => ?_)
      · have hw := hw.1 hc
        exact w_Se_visit_92 C hr ih a39 a40 l38 v13 v14 v15 v16 v17 v18 i2370 i2371 x1 x2 x3 x4 x5 v12 hw _ _ _ (wn_eq w rfl) (lv_sub hl [1, 2, 3, 4, 5, 6, 0] rfl)
      · have hw := hw.2 hc
        refine lv_aload_n hx hb d_Se_visit_68 rfl (lv_at hl 1 rfl) ?_
        refine lv_iload hx hb d_Se_visit_69 (lv_at hl 0 rfl) ?_
        refine lv_aload_n hx hb d_Se_visit_71 rfl (lv_at hl 1 rfl) ?_
        refine kg (C1 := R_Se) (T := F_Se) (N := 10) (ci := 7) (ref := "LineBreaker$Search") (v := .ref (ad 31)) C w 29 3 iw_Se rfl rfl (by decide) kw_298 rfl rfl d_Se_visit_72 ?_
        refine kg (C1 := R_No) (T := F_No) (N := 6) (ci := 3) (ref := "LineBreaker$Nodes") (v := .ref (ad 36)) C w 31 4 iw_No rfl rfl (by decide) kw_253 rfl rfl d_Se_visit_75 ?_
        refine lv_iload hx hb d_Se_visit_78 (lv_at hl 0 rfl) ?_
        refine ka_l (f := (S.2.1 36)) C w 36 rfl hw.1 d_Se_visit_80 ?_
        have hw := hw.2
        refine lv_aload_n hx hb d_Se_visit_81 rfl (lv_at hl 1 rfl) ?_
        refine lv_iload hx hb d_Se_visit_82 (lv_at hl 0 rfl) ?_
        refine lv_iload_n hx hb d_Se_visit_84 rfl (lv_at hl 2 rfl) ?_
        refine kd_l (kr_V (y := y_Se_demerits) (C1 := R_Se) (T := F_Se) (N := 10) (ci := 7) (q0 := 29) (As := [.int v12, .int x1]) (n := 2) C w (c_Se_demerits l n0 G K ad X (sI (sI (sI (sI (sI (sI (sI (sI (sL (sA (sA S 39 a39) 40 a40) 38 l38) 1923 v13) 1924 v14) 1925 v15) 1926 v16) 1927 v17) 1928 v18) 2370 i2370) 2371 i2371) v12 x1 _ hw) (gw_V kw_776 kw_778 kp_13 kw_6 kw_779) (by decide +kernel) rfl rfl ⟨Nat.le_of_ble_eq_true rfl, Nat.le_of_ble_eq_true rfl⟩ rfl rfl rfl hl.1 rfl (Nat.le_of_ble_eq_true rfl) d_Se_visit_85 ⟨Nat.le_of_ble_eq_true rfl, Nat.le_of_ble_eq_true rfl⟩) (fun r19 hw => ?_)
        refine lv_ladd hx hb d_Se_visit_88 ?_
        refine kc_v (st := fun (u : (Nat → Int32) × (Nat → Int64) × Int32 × Int32) => wC K ad (sI (sI (sL (sA (sI (sI (sI (sI (sI (sI (sI (sI (sL (sA (sA S 39 a39) 40 a40) 38 l38) 1923 v13) 1924 v14) 1925 v15) 1926 v16) 1927 v17) 1928 v18) 2370 i2370) 2371 i2371) 39 u.1) 38 u.2.1) 2370 u.2.2.1) 2371 u.2.2.2) ++ X) w (kr_V (y := y_Se_offerFrom) (C1 := R_Se) (T := F_Se) (N := 10) (ci := 7) (q0 := 29) (As := [.int v12, .long (((S.2.1 36) v12.toNatClampNeg) + r19)]) (n := 2) C w (c_Se_offerFrom l n0 G K ad X (sI (sI (sI (sI (sI (sI (sI (sI (sL (sA (sA S 39 a39) 40 a40) 38 l38) 1923 v13) 1924 v14) 1925 v15) 1926 v16) 1927 v17) 1928 v18) 2370 i2370) 2371 i2371) v12 (((S.2.1 36) v12.toNatClampNeg) + r19) _ hw) (gw_V kw_788 kw_790 kp_14 kw_6 kw_791) (by decide +kernel) rfl rfl ⟨Nat.le_of_ble_eq_true rfl, Nat.le_of_ble_eq_true rfl⟩ rfl rfl rfl hl.1 rfl (Nat.le_of_ble_eq_true rfl) d_Se_visit_89 ⟨Nat.le_of_ble_eq_true rfl, Nat.le_of_ble_eq_true rfl⟩) (fun u H locs hw w => ?_)
        obtain ⟨f20, f21, v22, v23⟩ := u
        dsimp only at hw
        have w : wn n0 G (wC K ad (sI (sI (sI (sI (sI (sI (sI (sI (sL (sA (sA S 39 f20) 40 a40) 38 f21) 1923 v13) 1924 v14) 1925 v15) 1926 v16) 1927 v17) 1928 v18) 2370 v22) 2371 v23) ++ X) s H locs := w
        exact w_Se_visit_92 C hr ih f20 a40 f21 v13 v14 v15 v16 v17 v18 v22 v23 x1 x2 x3 x4 x5 v12 hw _ _ _ (wn_eq w rfl) (lv_sub hl [1, 2, 3, 4, 5, 6, 0] rfl)
set_option maxHeartbeats 4000000 in
set_option maxRecDepth 100000 in
theorem w_Se_visit_20 {S : ST} {post : Int32 → (Nat → Int32) → (Nat → Int32) → (Nat → Int32) → (Nat → Int32) → (Nat → Int32) → (Nat → Int32) → (Nat → Int64) → (Nat → Int64) → Int32 → Int32 → Int32 → Int32 → Int32 → Int32 → Int32 → Int32 → Int32 → Int32 → Int32 → Prop} (C : cx p s m args meth c prog_9_method_3_code 7 "LineBreaker$Search" n0 G K) (hr : meth.sig.returnType = (some .boolean)) : ∀ (x1 : Int32) (z0 : Int32), wl_Se_visit_20 S post x1 z0 → ∀ (H : Heap) (locs : List Loc) (ls : Array Slot), wn n0 G (wC K ad S ++ X) s H locs → lv_has ls 7 [(0, .ref (ad 29)), (1, .int x1)] → W p l e rm_Se_visit s m args below meth c H locs 0 0 (MQ below (va_Qi (fun r (u : (Nat → Int32) × (Nat → Int32) × (Nat → Int32) × (Nat → Int32) × (Nat → Int32) × (Nat → Int32) × (Nat → Int64) × (Nat → Int64) × Int32 × Int32 × Int32 × Int32 × Int32 × Int32 × Int32 × Int32 × Int32 × Int32 × Int32) => post r u.1 u.2.1 u.2.2.1 u.2.2.2.1 u.2.2.2.2.1 u.2.2.2.2.2.1 u.2.2.2.2.2.2.1 u.2.2.2.2.2.2.2.1 u.2.2.2.2.2.2.2.2.1 u.2.2.2.2.2.2.2.2.2.1 u.2.2.2.2.2.2.2.2.2.2.1 u.2.2.2.2.2.2.2.2.2.2.2.1 u.2.2.2.2.2.2.2.2.2.2.2.2.1 u.2.2.2.2.2.2.2.2.2.2.2.2.2.1 u.2.2.2.2.2.2.2.2.2.2.2.2.2.2.1 u.2.2.2.2.2.2.2.2.2.2.2.2.2.2.2.1 u.2.2.2.2.2.2.2.2.2.2.2.2.2.2.2.2.1 u.2.2.2.2.2.2.2.2.2.2.2.2.2.2.2.2.2.1 u.2.2.2.2.2.2.2.2.2.2.2.2.2.2.2.2.2.2) (fun (u : (Nat → Int32) × (Nat → Int32) × (Nat → Int32) × (Nat → Int32) × (Nat → Int32) × (Nat → Int32) × (Nat → Int64) × (Nat → Int64) × Int32 × Int32 × Int32 × Int32 × Int32 × Int32 × Int32 × Int32 × Int32 × Int32 × Int32) t => we n0 G (wC K ad (sI (sI (sI (sI (sI (sI (sI (sI (sI (sI (sI (sL (sL (sA (sA (sA (sA (sA (sA S 32 u.1) 33 u.2.1) 34 u.2.2.1) 35 u.2.2.2.1) 39 u.2.2.2.2.1) 40 u.2.2.2.2.2.1) 36 u.2.2.2.2.2.2.1) 38 u.2.2.2.2.2.2.2.1) 1862 u.2.2.2.2.2.2.2.2.1) 1863 u.2.2.2.2.2.2.2.2.2.1) 1923 u.2.2.2.2.2.2.2.2.2.2.1) 1924 u.2.2.2.2.2.2.2.2.2.2.2.1) 1925 u.2.2.2.2.2.2.2.2.2.2.2.2.1) 1926 u.2.2.2.2.2.2.2.2.2.2.2.2.2.1) 1927 u.2.2.2.2.2.2.2.2.2.2.2.2.2.2.1) 1928 u.2.2.2.2.2.2.2.2.2.2.2.2.2.2.2.1) 1989 u.2.2.2.2.2.2.2.2.2.2.2.2.2.2.2.2.1) 2370 u.2.2.2.2.2.2.2.2.2.2.2.2.2.2.2.2.2.1) 2371 u.2.2.2.2.2.2.2.2.2.2.2.2.2.2.2.2.2.2) ++ X) t) (al n0)) args s 0 0 (al n0)) (F0 m 20 ls [.int z0]) := by
  have hx := C.1
  have hb := C.2.1
  have hts := C.2.2.2.2.1
  intro x1 z0 hw H locs ls w hl
  unfold wl_Se_visit_20 at hw
  refine lv_istore_n (lv' := [(2, .int z0), (0, .ref (ad 29)), (1, .int x1)]) hx hb d_Se_visit_20 rfl hl (by decide) rfl (fun ls hl => ?_)
  refine lv_iconst (v := 0) hx hb d_Se_visit_21 (by decide) ?_
  refine lv_istore_n (lv' := [(3, .int 0), (2, .int z0), (0, .ref (ad 29)), (1, .int x1)]) hx hb d_Se_visit_22 rfl hl (by decide) rfl (fun ls hl => ?_)
  refine lv_iconst (v := (-1)) hx hb d_Se_visit_23 (by decide) ?_
  refine lv_istore (lv' := [(4, .int (-1)), (3, .int 0), (2, .int z0), (0, .ref (ad 29)), (1, .int x1)]) hx hb d_Se_visit_24 hl (by decide) rfl (fun ls hl => ?_)
  refine lv_iconst (v := 0) hx hb d_Se_visit_26 (by decide) ?_
  refine lv_istore (lv' := [(5, .int 0), (4, .int (-1)), (3, .int 0), (2, .int z0), (0, .ref (ad 29)), (1, .int x1)]) hx hb d_Se_visit_27 hl (by decide) rfl (fun ls hl => ?_)
  obtain ⟨n9, hw⟩ := hw
  exact w_Se_visit_29 C hr  n9 (S.1 39) (S.1 40) (S.2.1 38) (S.2.2 1923) (S.2.2 1924) (S.2.2 1925) (S.2.2 1926) (S.2.2 1927) (S.2.2 1928) (S.2.2 2370) (S.2.2 2371) x1 z0 0 (-1) 0 hw _ _ _ (wn_eq w rfl) (lv_sub hl [4, 5, 3, 2, 1, 0] rfl)
set_option maxHeartbeats 4000000 in
set_option maxRecDepth 100000 in
theorem c_Se_visit (l : Launch) (n0 : Nat) (G : va_G) (K : KT) (ad : Nat → Nat) (X : va_W) (S : ST) (p1 : Int32) (post : Int32 → (Nat → Int32) → (Nat → Int32) → (Nat → Int32) → (Nat → Int32) → (Nat → Int32) → (Nat → Int32) → (Nat → Int64) → (Nat → Int64) → Int32 → Int32 → Int32 → Int32 → Int32 → Int32 → Int32 → Int32 → Int32 → Int32 → Int32 → Prop) (hw : wp_Se_visit S p1 post) : Met l y_Se_visit (Cond.code y_Se_visit prog_9_method_3_code 7 (some .boolean) :: gw) rm_Se_visit (va_Pc [.ref (ad 29), .int p1] (wb n0 G K (wC K ad S ++ X))) (va_Qi (fun r (u : (Nat → Int32) × (Nat → Int32) × (Nat → Int32) × (Nat → Int32) × (Nat → Int32) × (Nat → Int32) × (Nat → Int64) × (Nat → Int64) × Int32 × Int32 × Int32 × Int32 × Int32 × Int32 × Int32 × Int32 × Int32 × Int32 × Int32) => post r u.1 u.2.1 u.2.2.1 u.2.2.2.1 u.2.2.2.2.1 u.2.2.2.2.2.1 u.2.2.2.2.2.2.1 u.2.2.2.2.2.2.2.1 u.2.2.2.2.2.2.2.2.1 u.2.2.2.2.2.2.2.2.2.1 u.2.2.2.2.2.2.2.2.2.2.1 u.2.2.2.2.2.2.2.2.2.2.2.1 u.2.2.2.2.2.2.2.2.2.2.2.2.1 u.2.2.2.2.2.2.2.2.2.2.2.2.2.1 u.2.2.2.2.2.2.2.2.2.2.2.2.2.2.1 u.2.2.2.2.2.2.2.2.2.2.2.2.2.2.2.1 u.2.2.2.2.2.2.2.2.2.2.2.2.2.2.2.2.1 u.2.2.2.2.2.2.2.2.2.2.2.2.2.2.2.2.2.1 u.2.2.2.2.2.2.2.2.2.2.2.2.2.2.2.2.2.2) (fun (u : (Nat → Int32) × (Nat → Int32) × (Nat → Int32) × (Nat → Int32) × (Nat → Int32) × (Nat → Int32) × (Nat → Int64) × (Nat → Int64) × Int32 × Int32 × Int32 × Int32 × Int32 × Int32 × Int32 × Int32 × Int32 × Int32 × Int32) t => we n0 G (wC K ad (sI (sI (sI (sI (sI (sI (sI (sI (sI (sI (sI (sL (sL (sA (sA (sA (sA (sA (sA S 32 u.1) 33 u.2.1) 34 u.2.2.1) 35 u.2.2.2.1) 39 u.2.2.2.2.1) 40 u.2.2.2.2.2.1) 36 u.2.2.2.2.2.2.1) 38 u.2.2.2.2.2.2.2.1) 1862 u.2.2.2.2.2.2.2.2.1) 1863 u.2.2.2.2.2.2.2.2.2.1) 1923 u.2.2.2.2.2.2.2.2.2.2.1) 1924 u.2.2.2.2.2.2.2.2.2.2.2.1) 1925 u.2.2.2.2.2.2.2.2.2.2.2.2.1) 1926 u.2.2.2.2.2.2.2.2.2.2.2.2.2.1) 1927 u.2.2.2.2.2.2.2.2.2.2.2.2.2.2.1) 1928 u.2.2.2.2.2.2.2.2.2.2.2.2.2.2.2.1) 1989 u.2.2.2.2.2.2.2.2.2.2.2.2.2.2.2.2.1) 2370 u.2.2.2.2.2.2.2.2.2.2.2.2.2.2.2.2.2.1) 2371 u.2.2.2.2.2.2.2.2.2.2.2.2.2.2.2.2.2.2) ++ X) t) (al n0)) 0 0 (al n0) := by
  refine kb_start (own := "LineBreaker$Search") (by decide +kernel) rfl ?_
  intro p e s m below meth c C hr hne w
  have hx := C.1
  have hb := C.2.1
  have hts := C.2.2.2.2.1
  have hl := lv_entry ([.ref (ad 29), .int p1]) (n := 7) (Nat.le_of_ble_eq_true rfl)
  rw [lg_entry_eq]
  generalize (lg_sl ([.ref (ad 29), .int p1]) ++ List.replicate (7 - (lg_sl ([.ref (ad 29), .int p1])).length) Slot.unset).toArray = ls at hl ⊢
  have hl : lv_has ls 7 [(0, .ref (ad 29)), (1, .int p1)] := hl
  unfold wp_Se_visit at hw
  refine lv_aload_n hx hb d_Se_visit_0 rfl (lv_at hl 0 rfl) ?_
  refine kg (C1 := R_Se) (T := F_Se) (N := 10) (ci := 7) (ref := "LineBreaker$Search") (v := .ref (ad 17)) C w 29 0 iw_Se rfl rfl (by decide) kw_293 rfl rfl d_Se_visit_1 ?_
  refine kg (C1 := R_Ga) (T := F_Ga) (N := 12) (ci := 0) (ref := "LineBreaker$Galley") (v := .ref (ad 19)) C w 17 1 iw_Ga rfl rfl (by decide) kw_144 rfl rfl d_Se_visit_4 ?_
  refine lv_iload_n hx hb d_Se_visit_7 rfl (lv_at hl 1 rfl) ?_
  refine ka_i (f := (S.1 19)) C w 19 rfl hw.1 d_Se_visit_8 ?_
  have hw := hw.2
  refine lv_sipush (v := (-10000)) hx hb d_Se_visit_9 (by decide) ?_
  refine lv_icmp_ne (tgt := 19) hx hb d_Se_visit_12 (by decide) (fun hc => ?_) (fun hc => ?_)
  · have hw := hw.1 hc
    refine lv_iconst (v := 0) hx hb d_Se_visit_19 (by decide) ?_
    exact w_Se_visit_20 C hr  p1 0 hw _ _ _ (wn_eq w rfl) (lv_sub hl [0, 1] rfl)
  · have hw := hw.2 hc
    refine lv_iconst (v := 1) hx hb d_Se_visit_15 (by decide) ?_
    refine lv_goto (tgt := 20) hx hb d_Se_visit_16 (by decide) ?_
    exact w_Se_visit_20 C hr  p1 1 hw _ _ _ (wn_eq w rfl) (lv_sub hl [0, 1] rfl)
set_option maxHeartbeats 4000000 in
set_option maxRecDepth 100000 in
theorem c_No_isBetter (l : Launch) (n0 : Nat) (G : va_G) (K : KT) (ad : Nat → Nat) (X : va_W) (S : ST) (p1 : Int32) (p2 : Int32) (post : Int32 → Prop) (hw : wp_No_isBetter S p1 p2 post) : Met l y_No_isBetter (Cond.code y_No_isBetter prog_5_method_4_code 3 (some .boolean) :: gw) rm_No_isBetter (va_Pc [.ref (ad 31), .int p1, .int p2] (wb n0 G K (wC K ad S ++ X))) (rq_i post) 0 0 (fun _ => False) := by
  refine kb_start (own := "LineBreaker$Nodes") (by decide +kernel) rfl ?_
  intro p e s m below meth c C hr hne w
  have hx := C.1
  have hb := C.2.1
  have hts := C.2.2.2.2.1
  have hl := lv_entry ([.ref (ad 31), .int p1, .int p2]) (n := 3) (Nat.le_of_ble_eq_true rfl)
  rw [lg_entry_eq]
  generalize (lg_sl ([.ref (ad 31), .int p1, .int p2]) ++ List.replicate (3 - (lg_sl ([.ref (ad 31), .int p1, .int p2])).length) Slot.unset).toArray = ls at hl ⊢
  have hl : lv_has ls 3 [(0, .ref (ad 31)), (1, .int p1), (2, .int p2)] := hl
  unfold wp_No_isBetter at hw
  refine lv_aload_n hx hb d_No_isBetter_0 rfl (lv_at hl 0 rfl) ?_
  refine kg (C1 := R_No) (T := F_No) (N := 6) (ci := 3) (ref := "LineBreaker$Nodes") (v := .ref (ad 36)) C w 31 4 iw_No rfl rfl (by decide) kw_252 rfl rfl d_No_isBetter_1 ?_
  refine lv_iload_n hx hb d_No_isBetter_4 rfl (lv_at hl 1 rfl) ?_
  refine ka_l (f := (S.2.1 36)) C w 36 rfl hw.1 d_No_isBetter_5 ?_
  have hw := hw.2
  refine lv_aload_n hx hb d_No_isBetter_6 rfl (lv_at hl 0 rfl) ?_
  refine kg (C1 := R_No) (T := F_No) (N := 6) (ci := 3) (ref := "LineBreaker$Nodes") (v := .ref (ad 36)) C w 31 4 iw_No rfl rfl (by decide) kw_252 rfl rfl d_No_isBetter_7 ?_
  refine lv_iload_n hx hb d_No_isBetter_10 rfl (lv_at hl 2 rfl) ?_
  refine ka_l (f := (S.2.1 36)) C w 36 rfl hw.1 d_No_isBetter_11 ?_
  have hw := hw.2
  refine W.lcmp hx hb d_No_isBetter_12 ?_
  refine lv_if_eq (tgt := 38) hx hb d_No_isBetter_13 (by decide) (fun hc => ?_) (fun hc => ?_)
  · have hw := hw.1 hc
    refine lv_aload_n hx hb d_No_isBetter_38 rfl (lv_at hl 0 rfl) ?_
    refine kg (C1 := R_No) (T := F_No) (N := 6) (ci := 3) (ref := "LineBreaker$Nodes") (v := .ref (ad 33)) C w 31 1 iw_No rfl rfl (by decide) kw_242 rfl rfl d_No_isBetter_39 ?_
    refine lv_iload_n hx hb d_No_isBetter_42 rfl (lv_at hl 1 rfl) ?_
    refine ka_i (f := (S.1 33)) C w 33 rfl hw.1 d_No_isBetter_43 ?_
    have hw := hw.2
    refine lv_aload_n hx hb d_No_isBetter_44 rfl (lv_at hl 0 rfl) ?_
    refine kg (C1 := R_No) (T := F_No) (N := 6) (ci := 3) (ref := "LineBreaker$Nodes") (v := .ref (ad 33)) C w 31 1 iw_No rfl rfl (by decide) kw_242 rfl rfl d_No_isBetter_45 ?_
    refine lv_iload_n hx hb d_No_isBetter_48 rfl (lv_at hl 2 rfl) ?_
    refine ka_i (f := (S.1 33)) C w 33 rfl hw.1 d_No_isBetter_49 ?_
    have hw := hw.2
    refine lv_icmp_eq (tgt := 74) hx hb d_No_isBetter_50 (by decide) (fun hc => ?_) (fun hc => ?_)
    · have hw := hw.1 hc
      refine lv_aload_n hx hb d_No_isBetter_74 rfl (lv_at hl 0 rfl) ?_
      refine kg (C1 := R_No) (T := F_No) (N := 6) (ci := 3) (ref := "LineBreaker$Nodes") (v := .ref (ad 34)) C w 31 2 iw_No rfl rfl (by decide) kw_246 rfl rfl d_No_isBetter_75 ?_
      refine lv_iload_n hx hb d_No_isBetter_78 rfl (lv_at hl 1 rfl) ?_
      refine ka_i (f := (S.1 34)) C w 34 rfl hw.1 d_No_isBetter_79 ?_
      have hw := hw.2
      refine lv_aload_n hx hb d_No_isBetter_80 rfl (lv_at hl 0 rfl) ?_
      refine kg (C1 := R_No) (T := F_No) (N := 6) (ci := 3) (ref := "LineBreaker$Nodes") (v := .ref (ad 34)) C w 31 2 iw_No rfl rfl (by decide) kw_246 rfl rfl d_No_isBetter_81 ?_
      refine lv_iload_n hx hb d_No_isBetter_84 rfl (lv_at hl 2 rfl) ?_
      refine ka_i (f := (S.1 34)) C w 34 rfl hw.1 d_No_isBetter_85 ?_
      have hw := hw.2
      refine lv_icmp_ge (tgt := 93) hx hb d_No_isBetter_86 (by decide) (fun hc => ?_) (fun hc => ?_)
      · have hw := hw.1 hc
        refine lv_iconst (v := 0) hx hb d_No_isBetter_93 (by decide) ?_
        exact kf_z C hr d_No_isBetter_94 (Or.inl rfl) hw
      · have hw := hw.2 hc
        refine lv_iconst (v := 1) hx hb d_No_isBetter_89 (by decide) ?_
        refine lv_goto (tgt := 94) hx hb d_No_isBetter_90 (by decide) ?_
        exact kf_z C hr d_No_isBetter_94 (Or.inr rfl) hw
    · have hw := hw.2 hc
      refine lv_aload_n hx hb d_No_isBetter_53 rfl (lv_at hl 0 rfl) ?_
      refine kg (C1 := R_No) (T := F_No) (N := 6) (ci := 3) (ref := "LineBreaker$Nodes") (v := .ref (ad 33)) C w 31 1 iw_No rfl rfl (by decide) kw_242 rfl rfl d_No_isBetter_54 ?_
      refine lv_iload_n hx hb d_No_isBetter_57 rfl (lv_at hl 1 rfl) ?_
      refine ka_i (f := (S.1 33)) C w 33 rfl hw.1 d_No_isBetter_58 ?_
      have hw := hw.2
      refine lv_aload_n hx hb d_No_isBetter_59 rfl (lv_at hl 0 rfl) ?_
      refine kg (C1 := R_No) (T := F_No) (N := 6) (ci := 3) (ref := "LineBreaker$Nodes") (v := .ref (ad 33)) C w 31 1 iw_No rfl rfl (by decide) kw_242 rfl rfl d_No_isBetter_60 ?_
      refine lv_iload_n hx hb d_No_isBetter_63 rfl (lv_at hl 2 rfl) ?_
      refine ka_i (f := (S.1 33)) C w 33 rfl hw.1 d_No_isBetter_64 ?_
      have hw := hw.2
      refine lv_icmp_ge (tgt := 72) hx hb d_No_isBetter_65 (by decide) (fun hc => ?_) (fun hc => ?_)
      · have hw := hw.1 hc
        refine lv_iconst (v := 0) hx hb d_No_isBetter_72 (by decide) ?_
        exact kf_z C hr d_No_isBetter_73 (Or.inl rfl) hw
      · have hw := hw.2 hc
        refine lv_iconst (v := 1) hx hb d_No_isBetter_68 (by decide) ?_
        refine lv_goto (tgt := 73) hx hb d_No_isBetter_69 (by decide) ?_
        exact kf_z C hr d_No_isBetter_73 (Or.inr rfl) hw
  · have hw := hw.2 hc
    refine lv_aload_n hx hb d_No_isBetter_16 rfl (lv_at hl 0 rfl) ?_
    refine kg (C1 := R_No) (T := F_No) (N := 6) (ci := 3) (ref := "LineBreaker$Nodes") (v := .ref (ad 36)) C w 31 4 iw_No rfl rfl (by decide) kw_252 rfl rfl d_No_isBetter_17 ?_
    refine lv_iload_n hx hb d_No_isBetter_20 rfl (lv_at hl 1 rfl) ?_
    refine ka_l (f := (S.2.1 36)) C w 36 rfl hw.1 d_No_isBetter_21 ?_
    have hw := hw.2
    refine lv_aload_n hx hb d_No_isBetter_22 rfl (lv_at hl 0 rfl) ?_
    refine kg (C1 := R_No) (T := F_No) (N := 6) (ci := 3) (ref := "LineBreaker$Nodes") (v := .ref (ad 36)) C w 31 4 iw_No rfl rfl (by decide) kw_252 rfl rfl d_No_isBetter_23 ?_
    refine lv_iload_n hx hb d_No_isBetter_26 rfl (lv_at hl 2 rfl) ?_
    refine ka_l (f := (S.2.1 36)) C w 36 rfl hw.1 d_No_isBetter_27 ?_
    have hw := hw.2
    refine W.lcmp hx hb d_No_isBetter_28 ?_
    refine lv_if_ge (tgt := 36) hx hb d_No_isBetter_29 (by decide) (fun hc => ?_) (fun hc => ?_)
    · have hw := hw.1 hc
      refine lv_iconst (v := 0) hx hb d_No_isBetter_36 (by decide) ?_
      exact kf_z C hr d_No_isBetter_37 (Or.inl rfl) hw
    · have hw := hw.2 hc
      refine lv_iconst (v := 1) hx hb d_No_isBetter_32 (by decide) ?_
      refine lv_goto (tgt := 37) hx hb d_No_isBetter_33 (by decide) ?_
      exact kf_z C hr d_No_isBetter_37 (Or.inr rfl) hw
set_option maxHeartbeats 4000000 in
set_option maxRecDepth 100000 in
theorem c_Se_isPreferred (l : Launch) (n0 : Nat) (G : va_G) (K : KT) (ad : Nat → Nat) (X : va_W) (S : ST) (p1 : Int32) (p2 : Int32) (p3 : Int32) (p4 : Int32) (post : Int32 → Prop) (hw : wp_Se_isPreferred S p1 p2 p3 p4 post) : Met l y_Se_isPreferred (Cond.code y_Se_isPreferred prog_9_method_9_code 10 (some .boolean) :: gw) rm_Se_isPreferred (va_Pc [.ref (ad 29), .int p1, .int p2, .int p3, .int p4] (wb n0 G K (wC K ad S ++ X))) (rq_i post) 0 0 (fun _ => False) := by
  refine kb_start (own := "LineBreaker$Search") (by decide +kernel) rfl ?_
  intro p e s m below meth c C hr hne w
  have hx := C.1
  have hb := C.2.1
  have hts := C.2.2.2.2.1
  have hl := lv_entry ([.ref (ad 29), .int p1, .int p2, .int p3, .int p4]) (n := 10) (Nat.le_of_ble_eq_true rfl)
  rw [lg_entry_eq]
  generalize (lg_sl ([.ref (ad 29), .int p1, .int p2, .int p3, .int p4]) ++ List.replicate (10 - (lg_sl ([.ref (ad 29), .int p1, .int p2, .int p3, .int p4])).length) Slot.unset).toArray = ls at hl ⊢
  have hl : lv_has ls 10 [(0, .ref (ad 29)), (1, .int p1), (2, .int p2), (3, .int p3), (4, .int p4)] := hl
  unfold wp_Se_isPreferred at hw
  refine lv_aload_n hx hb d_Se_isPreferred_0 rfl (lv_at hl 0 rfl) ?_
  refine kg (C1 := R_Se) (T := F_Se) (N := 10) (ci := 7) (ref := "LineBreaker$Search") (v := .ref (ad 31)) C w 29 3 iw_Se rfl rfl (by decide) kw_298 rfl rfl d_Se_isPreferred_1 ?_
  refine kg (C1 := R_No) (T := F_No) (N := 6) (ci := 3) (ref := "LineBreaker$Nodes") (v := .ref (ad 33)) C w 31 1 iw_No rfl rfl (by decide) kw_244 rfl rfl d_Se_isPreferred_4 ?_
  refine lv_iload_n hx hb d_Se_isPreferred_7 rfl (lv_at hl 1 rfl) ?_
  refine ka_i (f := (S.1 33)) C w 33 rfl hw.1 d_Se_isPreferred_8 ?_
  have hw := hw.2
  refine lv_topi (fun v1 ev1 => ?_)
  have hw := hw v1 ev1
  refine lv_istore (lv' := [(5, .int v1), (0, .ref (ad 29)), (1, .int p1), (2, .int p2), (3, .int p3), (4, .int p4)]) hx hb d_Se_isPreferred_9 hl (by decide) rfl (fun ls hl => ?_)
  refine lv_aload_n hx hb d_Se_isPreferred_11 rfl (lv_at hl 1 rfl) ?_
  refine kg (C1 := R_Se) (T := F_Se) (N := 10) (ci := 7) (ref := "LineBreaker$Search") (v := .ref (ad 31)) C w 29 3 iw_Se rfl rfl (by decide) kw_298 rfl rfl d_Se_isPreferred_12 ?_
  refine kg (C1 := R_No) (T := F_No) (N := 6) (ci := 3) (ref := "LineBreaker$Nodes") (v := .ref (ad 33)) C w 31 1 iw_No rfl rfl (by decide) kw_244 rfl rfl d_Se_isPreferred_15 ?_
  refine lv_iload_n hx hb d_Se_isPreferred_18 rfl (lv_at hl 4 rfl) ?_
  refine ka_i (f := (S.1 33)) C w 33 rfl hw.1 d_Se_isPreferred_19 ?_
  have hw := hw.2
  refine lv_iload hx hb d_Se_isPreferred_20 (lv_at hl 5 rfl) ?_
  refine va_mmin hx hb (C.2.2.1.trans hl.1.symm) C.2.2.2.1 (hts _ kw_826) (hts _ kw_563) (hts _ kw_17) (hts _ kw_564) (Nat.le_of_ble_eq_true rfl) (Nat.le_of_ble_eq_true rfl) (Nat.le_of_ble_eq_true rfl) (Nat.le_of_ble_eq_true rfl) d_Se_isPreferred_22 ?_
  refine lv_topi (fun v2 ev2 => ?_)
  have hw := hw v2 ev2
  refine lv_istore (lv' := [(6, .int v2), (5, .int v1), (0, .ref (ad 29)), (1, .int p1), (2, .int p2), (3, .int p3), (4, .int p4)]) hx hb d_Se_isPreferred_25 hl (by decide) rfl (fun ls hl => ?_)
  refine lv_aload_n hx hb d_Se_isPreferred_27 rfl (lv_at hl 2 rfl) ?_
  refine kg (C1 := R_Se) (T := F_Se) (N := 10) (ci := 7) (ref := "LineBreaker$Search") (v := .ref (ad 31)) C w 29 3 iw_Se rfl rfl (by decide) kw_298 rfl rfl d_Se_isPreferred_28 ?_
  refine kg (C1 := R_No) (T := F_No) (N := 6) (ci := 3) (ref := "LineBreaker$Nodes") (v := .ref (ad 33)) C w 31 1 iw_No rfl rfl (by decide) kw_244 rfl rfl d_Se_isPreferred_31 ?_
  refine lv_iload_n hx hb d_Se_isPreferred_34 rfl (lv_at hl 5 rfl) ?_
  refine ka_i (f := (S.1 33)) C w 33 rfl hw.1 d_Se_isPreferred_35 ?_
  have hw := hw.2
  refine lv_iload hx hb d_Se_isPreferred_36 (lv_at hl 6 rfl) ?_
  refine va_mmax hx hb (C.2.2.1.trans hl.1.symm) C.2.2.2.1 (hts _ kw_827) (hts _ kw_525) (hts _ kw_17) (hts _ kw_526) (Nat.le_of_ble_eq_true rfl) (Nat.le_of_ble_eq_true rfl) (Nat.le_of_ble_eq_true rfl) (Nat.le_of_ble_eq_true rfl) d_Se_isPreferred_38 ?_
  refine lv_topi (fun v3 ev3 => ?_)
  have hw := hw v3 ev3
  refine lv_istore (lv' := [(7, .int v3), (6, .int v2), (5, .int v1), (0, .ref (ad 29)), (1, .int p1), (2, .int p2), (3, .int p3), (4, .int p4)]) hx hb d_Se_isPreferred_41 hl (by decide) rfl (fun ls hl => ?_)
  refine lv_iload hx hb d_Se_isPreferred_43 (lv_at hl 2 rfl) ?_
  refine lv_iload hx hb d_Se_isPreferred_45 (lv_at hl 1 rfl) ?_
  refine lv_icmp_lt (tgt := 57) hx hb d_Se_isPreferred_47 (by decide) (fun hc => ?_) (fun hc => ?_)
  · have hw := hw.1 hc
    refine lv_iconst (v := 0) hx hb d_Se_isPreferred_57 (by decide) ?_
    exact kf_z C hr d_Se_isPreferred_58 (Or.inl rfl) hw
  · have hw := hw.2 hc
    refine lv_iload hx hb d_Se_isPreferred_50 (lv_at hl 2 rfl) ?_
    refine lv_iload hx hb d_Se_isPreferred_52 (lv_at hl 0 rfl) ?_
    refine lv_icmp_le (tgt := 59) hx hb d_Se_isPreferred_54 (by decide) (fun hc => ?_) (fun hc => ?_)
    · have hw := hw.1 hc
      refine lv_iload hx hb d_Se_isPreferred_59 (lv_at hl 2 rfl) ?_
      refine lv_iload hx hb d_Se_isPreferred_61 (lv_at hl 7 rfl) ?_
      refine lv_isub hx hb d_Se_isPreferred_63 ?_
      refine va_mabs hx hb (C.2.2.1.trans hl.1.symm) C.2.2.2.1 (hts _ kw_787) (hts _ kw_645) (hts _ kw_17) (hts _ kw_646) (Nat.le_of_ble_eq_true rfl) (Nat.le_of_ble_eq_true rfl) (Nat.le_of_ble_eq_true rfl) (Nat.le_of_ble_eq_true rfl) d_Se_isPreferred_64 ?_
      refine lv_topi (fun v4 ev4 => ?_)
      have hw := hw v4 ev4
      refine lv_istore (lv' := [(8, .int v4), (7, .int v3), (6, .int v2), (5, .int v1), (0, .ref (ad 29)), (1, .int p1), (2, .int p2), (3, .int p3), (4, .int p4)]) hx hb d_Se_isPreferred_67 hl (by decide) rfl (fun ls hl => ?_)
      refine lv_aload_n hx hb d_Se_isPreferred_69 rfl (lv_at hl 4 rfl) ?_
      refine kg (C1 := R_Se) (T := F_Se) (N := 10) (ci := 7) (ref := "LineBreaker$Search") (v := .ref (ad 31)) C w 29 3 iw_Se rfl rfl (by decide) kw_298 rfl rfl d_Se_isPreferred_70 ?_
      refine kg (C1 := R_No) (T := F_No) (N := 6) (ci := 3) (ref := "LineBreaker$Nodes") (v := .ref (ad 33)) C w 31 1 iw_No rfl rfl (by decide) kw_244 rfl rfl d_Se_isPreferred_73 ?_
      refine lv_iload_n hx hb d_Se_isPreferred_76 rfl (lv_at hl 6 rfl) ?_
      refine ka_i (f := (S.1 33)) C w 33 rfl hw.1 d_Se_isPreferred_77 ?_
      have hw := hw.2
      refine lv_iload hx hb d_Se_isPreferred_78 (lv_at hl 8 rfl) ?_
      refine lv_isub hx hb d_Se_isPreferred_80 ?_
      refine va_mabs hx hb (C.2.2.1.trans hl.1.symm) C.2.2.2.1 (hts _ kw_787) (hts _ kw_645) (hts _ kw_17) (hts _ kw_646) (Nat.le_of_ble_eq_true rfl) (Nat.le_of_ble_eq_true rfl) (Nat.le_of_ble_eq_true rfl) (Nat.le_of_ble_eq_true rfl) d_Se_isPreferred_81 ?_
      refine lv_topi (fun v5 ev5 => ?_)
      have hw := hw v5 ev5
      refine lv_istore (lv' := [(9, .int v5), (8, .int v4), (7, .int v3), (6, .int v2), (5, .int v1), (0, .ref (ad 29)), (1, .int p1), (2, .int p2), (3, .int p3), (4, .int p4)]) hx hb d_Se_isPreferred_84 hl (by decide) rfl (fun ls hl => ?_)
      refine lv_iload hx hb d_Se_isPreferred_86 (lv_at hl 1 rfl) ?_
      refine lv_iload hx hb d_Se_isPreferred_88 (lv_at hl 0 rfl) ?_
      refine lv_icmp_lt (tgt := 112) hx hb d_Se_isPreferred_90 (by decide) (fun hc => ?_) (fun hc => ?_)
      · have hw := hw.1 hc
        refine lv_iconst (v := 1) hx hb d_Se_isPreferred_112 (by decide) ?_
        refine lv_goto (tgt := 117) hx hb d_Se_isPreferred_113 (by decide) ?_
        exact kf_z C hr d_Se_isPreferred_117 (Or.inr rfl) hw
      · have hw := hw.2 hc
        refine lv_iload hx hb d_Se_isPreferred_93 (lv_at hl 1 rfl) ?_
        refine lv_iload hx hb d_Se_isPreferred_95 (lv_at hl 0 rfl) ?_
        refine lv_icmp_ne (tgt := 116) hx hb d_Se_isPreferred_97 (by decide) (fun hc => ?_) (fun hc => ?_)
        · have hw := hw.1 hc
          refine lv_iconst (v := 0) hx hb d_Se_isPreferred_116 (by decide) ?_
          exact kf_z C hr d_Se_isPreferred_117 (Or.inl rfl) hw
        · have hw := hw.2 hc
          refine lv_aload_n hx hb d_Se_isPreferred_100 rfl (lv_at hl 5 rfl) ?_
          refine kg (C1 := R_Se) (T := F_Se) (N := 10) (ci := 7) (ref := "LineBreaker$Search") (v := .ref (ad 31)) C w 29 3 iw_Se rfl rfl (by decide) kw_298 rfl rfl d_Se_isPreferred_101 ?_
          refine lv_iload_n hx hb d_Se_isPreferred_104 rfl (lv_at hl 6 rfl) ?_
          refine lv_iload_n hx hb d_Se_isPreferred_105 rfl (lv_at hl 7 rfl) ?_
          refine kd_i (kr_V (y := y_No_isBetter) (C1 := R_No) (T := F_No) (N := 6) (ci := 3) (q0 := 31) (As := [.int p1, .int p2]) (n := 2) C w (c_No_isBetter l n0 G K ad X S p1 p2 _ hw) (gw_V kw_818 kw_819 kw_820 kw_8 kw_821) (by decide +kernel) rfl rfl ⟨Nat.le_of_ble_eq_true rfl, Nat.le_of_ble_eq_true rfl⟩ rfl rfl rfl hl.1 rfl (Nat.le_of_ble_eq_true rfl) d_Se_isPreferred_106 ⟨Nat.le_of_ble_eq_true rfl, Nat.le_of_ble_eq_true rfl⟩) (fun r6 hw => ?_)
          refine lv_if_eq (tgt := 116) hx hb d_Se_isPreferred_109 (by decide) (fun hc => ?_) (fun hc => ?_)
          · have hw := hw.1 hc
            refine lv_iconst (v := 0) hx hb d_Se_isPreferred_116 (by decide) ?_
            exact kf_z C hr d_Se_isPreferred_117 (Or.inl rfl) hw
          · have hw := hw.2 hc
            refine lv_iconst (v := 1) hx hb d_Se_isPreferred_112 (by decide) ?_
            refine lv_goto (tgt := 117) hx hb d_Se_isPreferred_113 (by decide) ?_
            exact kf_z C hr d_Se_isPreferred_117 (Or.inr rfl) hw
    · have hw := hw.2 hc
      refine lv_iconst (v := 0) hx hb d_Se_isPreferred_57 (by decide) ?_
      exact kf_z C hr d_Se_isPreferred_58 (Or.inl rfl) hw
set_option maxHeartbeats 4000000 in
set_option maxRecDepth 100000 in
theorem w_Se_choose_81 {S : ST} {post : Int32 → Prop} (C : cx p s m args meth c prog_9_method_8_code 5 "LineBreaker$Search" n0 G K) (hr : meth.sig.returnType = (some .int)) : ∀ (n : Nat) (x1 : Int32) (x2 : Int32) (x3 : Int32) (x4 : Int32), wl_Se_choose_81 S post n x1 x2 x3 x4 → ∀ (ls : Array Slot), wn n0 G (wC K ad S ++ X) s s.heap [] → lv_has ls 5 [(0, .ref (ad 29)), (1, .int x1), (2, .int x2), (3, .int x3), (4, .int x4)] → W p l e rm_Se_choose s m args below meth c s.heap [] 0 0 (MQ below (rq_i post) args s 0 0 (fun _ => False)) (F0 m 81 ls []) := by
  have hx := C.1
  have hb := C.2.1
  have hts := C.2.2.2.2.1
  intro n
  induction n with
  | zero =>
    intro x1 x2 x3 x4 hw
    unfold wl_Se_choose_81 at hw
    exact hw.elim
  | succ n ih =>
    intro x1 x2 x3 x4 hw ls w hl
    unfold wl_Se_choose_81 at hw
    refine lv_iload hx hb d_Se_choose_81 (lv_at hl 4 rfl) ?_
    refine lv_aload_n hx hb d_Se_choose_83 rfl (lv_at hl 0 rfl) ?_
    refine kg (C1 := R_Se) (T := F_Se) (N := 10) (ci := 7) (ref := "LineBreaker$Search") (v := .ref (ad 31)) C w 29 3 iw_Se rfl rfl (by decide) kw_298 rfl rfl d_Se_choose_84 ?_
    refine kg (C1 := R_No) (T := F_No) (N := 6) (ci := 3) (ref := "LineBreaker$Nodes") (v := .int (S.2.2 1989)) C w 31 5 iw_No rfl rfl (by decide) kw_259 rfl rfl d_Se_choose_87 ?_
    refine lv_icmp_ge (tgt := 114) hx hb d_Se_choose_90 (by decide) (fun hc => ?_) (fun hc => ?_)
    · have hw := hw.1 hc
      refine lv_aload_n hx hb d_Se_choose_114 rfl (lv_at hl 0 rfl) ?_
      refine kg (C1 := R_Se) (T := F_Se) (N := 10) (ci := 7) (ref := "LineBreaker$Search") (v := .int (S.2.2 1865)) C w 29 9 iw_Se rfl rfl (by decide) kw_305 rfl rfl d_Se_choose_115 ?_
      refine lv_if_ne (tgt := 134) hx hb d_Se_choose_118 (by decide) (fun hc => ?_) (fun hc => ?_)
      · have hw := hw.1 hc
        refine lv_iload_n hx hb d_Se_choose_134 rfl (lv_at hl 3 rfl) ?_
        refine lv_goto (tgt := 139) hx hb d_Se_choose_135 (by decide) ?_
        exact kf_i C hr d_Se_choose_139 hw
      · have hw := hw.2 hc
        refine lv_aload_n hx hb d_Se_choose_121 rfl (lv_at hl 0 rfl) ?_
        refine kg (C1 := R_Se) (T := F_Se) (N := 10) (ci := 7) (ref := "LineBreaker$Search") (v := .ref (ad 31)) C w 29 3 iw_Se rfl rfl (by decide) kw_298 rfl rfl d_Se_choose_122 ?_
        refine kg (C1 := R_No) (T := F_No) (N := 6) (ci := 3) (ref := "LineBreaker$Nodes") (v := .ref (ad 33)) C w 31 1 iw_No rfl rfl (by decide) kw_244 rfl rfl d_Se_choose_125 ?_
        refine lv_iload_n hx hb d_Se_choose_128 rfl (lv_at hl 3 rfl) ?_
        refine ka_i (f := (S.1 33)) C w 33 rfl hw.1 d_Se_choose_129 ?_
        have hw := hw.2
        refine lv_iload_n hx hb d_Se_choose_130 rfl (lv_at hl 2 rfl) ?_
        refine lv_icmp_ne (tgt := 138) hx hb d_Se_choose_131 (by decide) (fun hc => ?_) (fun hc => ?_)
        · have hw := hw.1 hc
          refine lv_iconst (v := 0) hx hb d_Se_choose_138 (by decide) ?_
          exact kf_i C hr d_Se_choose_139 hw
        · have hw := hw.2 hc
          refine lv_iload_n hx hb d_Se_choose_134 rfl (lv_at hl 3 rfl) ?_
          refine lv_goto (tgt := 139) hx hb d_Se_choose_135 (by decide) ?_
          exact kf_i C hr d_Se_choose_139 hw
    · have hw := hw.2 hc
      refine lv_aload_n hx hb d_Se_choose_93 rfl (lv_at hl 0 rfl) ?_
      refine lv_iload hx hb d_Se_choose_94 (lv_at hl 4 rfl) ?_
      refine lv_iload_n hx hb d_Se_choose_96 rfl (lv_at hl 3 rfl) ?_
      refine lv_iload_n hx hb d_Se_choose_97 rfl (lv_at hl 1 rfl) ?_
      refine lv_iload_n hx hb d_Se_choose_98 rfl (lv_at hl 2 rfl) ?_
      refine kd_i (kr_V (y := y_Se_isPreferred) (C1 := R_Se) (T := F_Se) (N := 10) (ci := 7) (q0 := 29) (As := [.int x4, .int x3, .int x1, .int x2]) (n := 4) C w (c_Se_isPreferred l n0 G K ad X S x4 x3 x1 x2 _ hw) (gw_V kw_822 kw_824 kp_17 kw_6 kw_825) (by decide +kernel) rfl rfl ⟨Nat.le_of_ble_eq_true rfl, Nat.le_of_ble_eq_true rfl⟩ rfl rfl rfl hl.1 rfl (Nat.le_of_ble_eq_true rfl) d_Se_choose_99 ⟨Nat.le_of_ble_eq_true rfl, Nat.le_of_ble_eq_true rfl⟩) (fun r1 hw => ?_)
      refine lv_if_eq (tgt := 108) hx hb d_Se_choose_102 (by decide) (fun hc => ?_) (fun hc => ?_)
      · have hw := hw.1 hc
        obtain ⟨v2, ev2⟩ : ∃ y : Int32, y = x4 + 1 := ⟨_, rfl⟩
        refine lv_iinc (v := v2) (lv' := [(4, .int v2), (0, .ref (ad 29)), (1, .int x1), (2, .int x2), (3, .int x3)]) hx hb d_Se_choose_108 hl (k := 4) rfl (by rw [ev2]; rfl) (by decide) rfl (fun ls hl => ?_)
        have hw := hw v2 ev2
        refine lv_goto (tgt := 81) hx hb d_Se_choose_111 (by decide) ?_
        exact ih x1 x2 x3 v2 hw _ w (lv_sub hl [1, 2, 3, 4, 0] rfl)
      · have hw := hw.2 hc
        refine lv_iload hx hb d_Se_choose_105 (lv_at hl 4 rfl) ?_
        refine lv_istore_n (lv' := [(3, .int x4), (0, .ref (ad 29)), (1, .int x1), (2, .int x2), (4, .int x4)]) hx hb d_Se_choose_107 rfl hl (by decide) rfl (fun ls hl => ?_)
        obtain ⟨v3, ev3⟩ : ∃ y : Int32, y = x4 + 1 := ⟨_, rfl⟩
        refine lv_iinc (v := v3) (lv' := [(4, .int v3), (3, .int x4), (0, .ref (ad 29)), (1, .int x1), (2, .int x2)]) hx hb d_Se_choose_108 hl (k := 4) rfl (by rw [ev3]; rfl) (by decide) rfl (fun ls hl => ?_)
        have hw := hw v3 ev3
        refine lv_goto (tgt := 81) hx hb d_Se_choose_111 (by decide) ?_
        exact ih x1 x2 x4 v3 hw _ w (lv_sub hl [2, 3, 4, 1, 0] rfl)
set_option maxHeartbeats 4000000 in
set_option maxRecDepth 100000 in
theorem w_Se_choose_21 {S : ST} {post : Int32 → Prop} (C : cx p s m args meth c prog_9_method_8_code 5 "LineBreaker$Search" n0 G K) (hr : meth.sig.returnType = (some .int)) : ∀ (n : Nat) (x1 : Int32) (x2 : Int32), wl_Se_choose_21 S post n x1 x2 → ∀ (ls : Array Slot), wn n0 G (wC K ad S ++ X) s s.heap [] → lv_has ls 5 [(0, .ref (ad 29)), (1, .int x1), (2, .int x2)] → W p l e rm_Se_choose s m args below meth c s.heap [] 0 0 (MQ below (rq_i post) args s 0 0 (fun _ => False)) (F0 m 21 ls []) := by
  have hx := C.1
  have hb := C.2.1
  have hts := C.2.2.2.2.1
  intro n
  induction n with
  | zero =>
    intro x1 x2 hw
    unfold wl_Se_choose_21 at hw
    exact hw.elim
  | succ n ih =>
    intro x1 x2 hw ls w hl
    unfold wl_Se_choose_21 at hw
    refine lv_iload_n hx hb d_Se_choose_21 rfl (lv_at hl 2 rfl) ?_
    refine lv_aload_n hx hb d_Se_choose_22 rfl (lv_at hl 0 rfl) ?_
    refine kg (C1 := R_Se) (T := F_Se) (N := 10) (ci := 7) (ref := "LineBreaker$Search") (v := .ref (ad 31)) C w 29 3 iw_Se rfl rfl (by decide) kw_298 rfl rfl d_Se_choose_23 ?_
    refine kg (C1 := R_No) (T := F_No) (N := 6) (ci := 3) (ref := "LineBreaker$Nodes") (v := .int (S.2.2 1989)) C w 31 5 iw_No rfl rfl (by decide) kw_259 rfl rfl d_Se_choose_26 ?_
    refine lv_icmp_ge (tgt := 52) hx hb d_Se_choose_29 (by decide) (fun hc => ?_) (fun hc => ?_)
    · have hw := hw.1 hc
      refine lv_aload_n hx hb d_Se_choose_52 rfl (lv_at hl 0 rfl) ?_
      refine kg (C1 := R_Se) (T := F_Se) (N := 10) (ci := 7) (ref := "LineBreaker$Search") (v := .ref (ad 31)) C w 29 3 iw_Se rfl rfl (by decide) kw_298 rfl rfl d_Se_choose_53 ?_
      refine kg (C1 := R_No) (T := F_No) (N := 6) (ci := 3) (ref := "LineBreaker$Nodes") (v := .ref (ad 33)) C w 31 1 iw_No rfl rfl (by decide) kw_244 rfl rfl d_Se_choose_56 ?_
      refine lv_iload_n hx hb d_Se_choose_59 rfl (lv_at hl 1 rfl) ?_
      refine ka_i (f := (S.1 33)) C w 33 rfl hw.1 d_Se_choose_60 ?_
      have hw := hw.2
      refine lv_aload_n hx hb d_Se_choose_61 rfl (lv_at hl 0 rfl) ?_
      refine kg (C1 := R_Se) (T := F_Se) (N := 10) (ci := 7) (ref := "LineBreaker$Search") (v := .ref (ad 11)) C w 29 1 iw_Se rfl rfl (by decide) kw_295 rfl rfl d_Se_choose_62 ?_
      refine kg (C1 := R_St) (T := F_St) (N := 5) (ci := 8) (ref := "LineBreaker$Settings") (v := .ref (ad 12)) C w 11 0 iw_St rfl rfl (by decide) kw_111 rfl rfl d_Se_choose_65 ?_
      refine lv_bipush (v := 9) hx hb d_Se_choose_68 (by decide) ?_
      refine ka_i (f := (S.1 12)) C w 12 rfl hw.1 d_Se_choose_70 ?_
      have hw := hw.2
      refine lv_iadd hx hb d_Se_choose_71 ?_
      refine lv_topi (fun v1 ev1 => ?_)
      have hw := hw v1 ev1
      refine lv_istore_n (lv' := [(2, .int v1), (0, .ref (ad 29)), (1, .int x1)]) hx hb d_Se_choose_72 rfl hl (by decide) rfl (fun ls hl => ?_)
      refine lv_iload_n hx hb d_Se_choose_73 rfl (lv_at hl 2 rfl) ?_
      refine lv_istore_n (lv' := [(3, .int x1), (2, .int v1), (0, .ref (ad 29)), (1, .int x1)]) hx hb d_Se_choose_74 rfl hl (by decide) rfl (fun ls hl => ?_)
      refine lv_aload_n hx hb d_Se_choose_75 rfl (lv_at hl 2 rfl) ?_
      refine kg (C1 := R_Se) (T := F_Se) (N := 10) (ci := 7) (ref := "LineBreaker$Search") (v := .int (S.2.2 1863)) C w 29 7 iw_Se rfl rfl (by decide) kw_303 rfl rfl d_Se_choose_76 ?_
      refine lv_topi (fun v2 ev2 => ?_)
      have hw := hw v2 ev2
      refine lv_istore (lv' := [(4, .int v2), (3, .int x1), (2, .int v1), (0, .ref (ad 29)), (1, .int x1)]) hx hb d_Se_choose_79 hl (by decide) rfl (fun ls hl => ?_)
      obtain ⟨n9, hw⟩ := hw
      exact w_Se_choose_81 C hr  n9 x1 v1 x1 v2 hw _ w (lv_sub hl [3, 4, 2, 1, 0] rfl)
    · have hw := hw.2 hc
      refine lv_aload_n hx hb d_Se_choose_32 rfl (lv_at hl 0 rfl) ?_
      refine kg (C1 := R_Se) (T := F_Se) (N := 10) (ci := 7) (ref := "LineBreaker$Search") (v := .ref (ad 31)) C w 29 3 iw_Se rfl rfl (by decide) kw_298 rfl rfl d_Se_choose_33 ?_
      refine lv_iload_n hx hb d_Se_choose_36 rfl (lv_at hl 2 rfl) ?_
      refine lv_iload_n hx hb d_Se_choose_37 rfl (lv_at hl 1 rfl) ?_
      refine kd_i (kr_V (y := y_No_isBetter) (C1 := R_No) (T := F_No) (N := 6) (ci := 3) (q0 := 31) (As := [.int x2, .int x1]) (n := 2) C w (c_No_isBetter l n0 G K ad X S x2 x1 _ hw) (gw_V kw_818 kw_819 kw_820 kw_8 kw_821) (by decide +kernel) rfl rfl ⟨Nat.le_of_ble_eq_true rfl, Nat.le_of_ble_eq_true rfl⟩ rfl rfl rfl hl.1 rfl (Nat.le_of_ble_eq_true rfl) d_Se_choose_38 ⟨Nat.le_of_ble_eq_true rfl, Nat.le_of_ble_eq_true rfl⟩) (fun r3 hw => ?_)
      refine lv_if_eq (tgt := 46) hx hb d_Se_choose_41 (by decide) (fun hc => ?_) (fun hc => ?_)
      · have hw := hw.1 hc
        obtain ⟨v4, ev4⟩ : ∃ y : Int32, y = x2 + 1 := ⟨_, rfl⟩
        refine lv_iinc (v := v4) (lv' := [(2, .int v4), (0, .ref (ad 29)), (1, .int x1)]) hx hb d_Se_choose_46 hl (k := 2) rfl (by rw [ev4]; rfl) (by decide) rfl (fun ls hl => ?_)
        have hw := hw v4 ev4
        refine lv_goto (tgt := 21) hx hb d_Se_choose_49 (by decide) ?_
        exact ih x1 v4 hw _ w (lv_sub hl [1, 2, 0] rfl)
      · have hw := hw.2 hc
        refine lv_iload_n hx hb d_Se_choose_44 rfl (lv_at hl 2 rfl) ?_
        refine lv_istore_n (lv' := [(1, .int x2), (0, .ref (ad 29)), (2, .int x2)]) hx hb d_Se_choose_45 rfl hl (by decide) rfl (fun ls hl => ?_)
        obtain ⟨v5, ev5⟩ : ∃ y : Int32, y = x2 + 1 := ⟨_, rfl⟩
        refine lv_iinc (v := v5) (lv' := [(2, .int v5), (1, .int x2), (0, .ref (ad 29))]) hx hb d_Se_choose_46 hl (k := 2) rfl (by rw [ev5]; rfl) (by decide) rfl (fun ls hl => ?_)
        have hw := hw v5 ev5
        refine lv_goto (tgt := 21) hx hb d_Se_choose_49 (by decide) ?_
        exact ih x2 v5 hw _ w (lv_sub hl [2, 1, 0] rfl)
set_option maxHeartbeats 4000000 in
set_option maxRecDepth 100000 in
theorem c_Se_choose (l : Launch) (n0 : Nat) (G : va_G) (K : KT) (ad : Nat → Nat) (X : va_W) (S : ST) (post : Int32 → Prop) (hw : wp_Se_choose S  post) : Met l y_Se_choose (Cond.code y_Se_choose prog_9_method_8_code 5 (some .int) :: gw) rm_Se_choose (va_Pc [.ref (ad 29)] (wb n0 G K (wC K ad S ++ X))) (rq_i post) 0 0 (fun _ => False) := by
  refine kb_start (own := "LineBreaker$Search") (by decide +kernel) rfl ?_
  intro p e s m below meth c C hr hne w
  have hx := C.1
  have hb := C.2.1
  have hts := C.2.2.2.2.1
  have hl := lv_entry ([.ref (ad 29)]) (n := 5) (Nat.le_of_ble_eq_true rfl)
  rw [lg_entry_eq]
  generalize (lg_sl ([.ref (ad 29)]) ++ List.replicate (5 - (lg_sl ([.ref (ad 29)])).length) Slot.unset).toArray = ls at hl ⊢
  have hl : lv_has ls 5 [(0, .ref (ad 29))] := hl
  unfold wp_Se_choose at hw
  refine lv_aload_n hx hb d_Se_choose_0 rfl (lv_at hl 0 rfl) ?_
  refine kg (C1 := R_Se) (T := F_Se) (N := 10) (ci := 7) (ref := "LineBreaker$Search") (v := .int (S.2.2 1862)) C w 29 6 iw_Se rfl rfl (by decide) kw_302 rfl rfl d_Se_choose_1 ?_
  refine lv_if_ne (tgt := 9) hx hb d_Se_choose_4 (by decide) (fun hc => ?_) (fun hc => ?_)
  · have hw := hw.1 hc
    refine lv_aload_n hx hb d_Se_choose_9 rfl (lv_at hl 0 rfl) ?_
    refine kg (C1 := R_Se) (T := F_Se) (N := 10) (ci := 7) (ref := "LineBreaker$Search") (v := .int (S.2.2 1863)) C w 29 7 iw_Se rfl rfl (by decide) kw_303 rfl rfl d_Se_choose_10 ?_
    refine lv_topi (fun v1 ev1 => ?_)
    have hw := hw v1 ev1
    refine lv_istore_n (lv' := [(1, .int v1), (0, .ref (ad 29))]) hx hb d_Se_choose_13 rfl hl (by decide) rfl (fun ls hl => ?_)
    refine lv_aload_n hx hb d_Se_choose_14 rfl (lv_at hl 1 rfl) ?_
    refine kg (C1 := R_Se) (T := F_Se) (N := 10) (ci := 7) (ref := "LineBreaker$Search") (v := .int (S.2.2 1863)) C w 29 7 iw_Se rfl rfl (by decide) kw_303 rfl rfl d_Se_choose_15 ?_
    refine lv_iconst (v := 1) hx hb d_Se_choose_18 (by decide) ?_
    refine lv_iadd hx hb d_Se_choose_19 ?_
    refine lv_topi (fun v2 ev2 => ?_)
    have hw := hw v2 ev2
    refine lv_istore_n (lv' := [(2, .int v2), (1, .int v1), (0, .ref (ad 29))]) hx hb d_Se_choose_20 rfl hl (by decide) rfl (fun ls hl => ?_)
    obtain ⟨n9, hw⟩ := hw
    exact w_Se_choose_21 C hr  n9 v1 v2 hw _ w (lv_sub hl [2, 1, 0] rfl)
  · have hw := hw.2 hc
    refine lv_iconst (v := 0) hx hb d_Se_choose_7 (by decide) ?_
    exact kf_i C hr d_Se_choose_8 hw
set_option maxHeartbeats 4000000 in
set_option maxRecDepth 100000 in
theorem w_Se_run_137 {S : ST} {post : Int32 → (Nat → Int32) → (Nat → Int32) → (Nat → Int32) → (Nat → Int32) → (Nat → Int32) → (Nat → Int32) → (Nat → Int64) → (Nat → Int64) → Int32 → Int32 → Int32 → Int32 → Int32 → Int32 → Int32 → Int32 → Int32 → Int32 → Int32 → Int32 → Int32 → Int32 → Prop} (C : cx p s m args meth c prog_9_method_2_code 4 "LineBreaker$Search" n0 G K) (hr : meth.sig.returnType = (some .int)) : ∀ (a32 : (Nat → Int32)) (a33 : (Nat → Int32)) (a34 : (Nat → Int32)) (a35 : (Nat → Int32)) (a39 : (Nat → Int32)) (a40 : (Nat → Int32)) (l36 : (Nat → Int64)) (l38 : (Nat → Int64)) (i1862 : Int32) (i1863 : Int32) (i1864 : Int32) (i1865 : Int32) (i1922 : Int32) (i1923 : Int32) (i1924 : Int32) (i1925 : Int32) (i1926 : Int32) (i1927 : Int32) (i1928 : Int32) (i1989 : Int32) (i2370 : Int32) (i2371 : Int32), wl_Se_run_137 S post a32 a33 a34 a35 a39 a40 l36 l38 i1862 i1863 i1864 i1865 i1922 i1923 i1924 i1925 i1926 i1927 i1928 i1989 i2370 i2371 → ∀ (H : Heap) (locs : List Loc) (ls : Array Slot), wn n0 G (wC K ad (sI (sI (sI (sI (sI (sI (sI (sI (sI (sI (sI (sI (sI (sI (sL (sL (sA (sA (sA (sA (sA (sA S 32 a32) 33 a33) 34 a34) 35 a35) 39 a39) 40 a40) 36 l36) 38 l38) 1862 i1862) 1863 i1863) 1864 i1864) 1865 i1865) 1922 i1922) 1923 i1923) 1924 i1924) 1925 i1925) 1926 i1926) 1927 i1927) 1928 i1928) 1989 i1989) 2370 i2370) 2371 i2371) ++ X) s H locs → lv_has ls 4 [(0, .ref (ad 29))] → W p l e rm_Se_run s m args below meth c H locs 0 0 (MQ below (va_Qi (fun r (u : (Nat → Int32) × (Nat → Int32) × (Nat → Int32) × (Nat → Int32) × (Nat → Int32) × (Nat → Int32) × (Nat → Int64) × (Nat → Int64) × Int32 × Int32 × Int32 × Int32 × Int32 × Int32 × Int32 × Int32 × Int32 × Int32 × Int32 × Int32 × Int32 × Int32) => post r u.1 u.2.1 u.2.2.1 u.2.2.2.1 u.2.2.2.2.1 u.2.2.2.2.2.1 u.2.2.2.2.2.2.1 u.2.2.2.2.2.2.2.1 u.2.2.2.2.2.2.2.2.1 u.2.2.2.2.2.2.2.2.2.1 u.2.2.2.2.2.2.2.2.2.2.1 u.2.2.2.2.2.2.2.2.2.2.2.1 u.2.2.2.2.2.2.2.2.2.2.2.2.1 u.2.2.2.2.2.2.2.2.2.2.2.2.2.1 u.2.2.2.2.2.2.2.2.2.2.2.2.2.2.1 u.2.2.2.2.2.2.2.2.2.2.2.2.2.2.2.1 u.2.2.2.2.2.2.2.2.2.2.2.2.2.2.2.2.1 u.2.2.2.2.2.2.2.2.2.2.2.2.2.2.2.2.2.1 u.2.2.2.2.2.2.2.2.2.2.2.2.2.2.2.2.2.2.1 u.2.2.2.2.2.2.2.2.2.2.2.2.2.2.2.2.2.2.2.1 u.2.2.2.2.2.2.2.2.2.2.2.2.2.2.2.2.2.2.2.2.1 u.2.2.2.2.2.2.2.2.2.2.2.2.2.2.2.2.2.2.2.2.2) (fun (u : (Nat → Int32) × (Nat → Int32) × (Nat → Int32) × (Nat → Int32) × (Nat → Int32) × (Nat → Int32) × (Nat → Int64) × (Nat → Int64) × Int32 × Int32 × Int32 × Int32 × Int32 × Int32 × Int32 × Int32 × Int32 × Int32 × Int32 × Int32 × Int32 × Int32) t => we n0 G (wC K ad (sI (sI (sI (sI (sI (sI (sI (sI (sI (sI (sI (sI (sI (sI (sL (sL (sA (sA (sA (sA (sA (sA S 32 u.1) 33 u.2.1) 34 u.2.2.1) 35 u.2.2.2.1) 39 u.2.2.2.2.1) 40 u.2.2.2.2.2.1) 36 u.2.2.2.2.2.2.1) 38 u.2.2.2.2.2.2.2.1) 1862 u.2.2.2.2.2.2.2.2.1) 1863 u.2.2.2.2.2.2.2.2.2.1) 1864 u.2.2.2.2.2.2.2.2.2.2.1) 1865 u.2.2.2.2.2.2.2.2.2.2.2.1) 1922 u.2.2.2.2.2.2.2.2.2.2.2.2.1) 1923 u.2.2.2.2.2.2.2.2.2.2.2.2.2.1) 1924 u.2.2.2.2.2.2.2.2.2.2.2.2.2.2.1) 1925 u.2.2.2.2.2.2.2.2.2.2.2.2.2.2.2.1) 1926 u.2.2.2.2.2.2.2.2.2.2.2.2.2.2.2.2.1) 1927 u.2.2.2.2.2.2.2.2.2.2.2.2.2.2.2.2.2.1) 1928 u.2.2.2.2.2.2.2.2.2.2.2.2.2.2.2.2.2.2.1) 1989 u.2.2.2.2.2.2.2.2.2.2.2.2.2.2.2.2.2.2.2.1) 2370 u.2.2.2.2.2.2.2.2.2.2.2.2.2.2.2.2.2.2.2.2.1) 2371 u.2.2.2.2.2.2.2.2.2.2.2.2.2.2.2.2.2.2.2.2.2) ++ X) t) (al n0)) args s 0 0 (al n0)) (F0 m 137 ls []) := by
  have hx := C.1
  have hb := C.2.1
  have hts := C.2.2.2.2.1
  intro a32 a33 a34 a35 a39 a40 l36 l38 i1862 i1863 i1864 i1865 i1922 i1923 i1924 i1925 i1926 i1927 i1928 i1989 i2370 i2371 hw H locs ls w hl
  unfold wl_Se_run_137 at hw
  refine lv_aload_n hx hb d_Se_run_137 rfl (lv_at hl 0 rfl) ?_
  refine kd_i (kr_V (y := y_Se_choose) (C1 := R_Se) (T := F_Se) (N := 10) (ci := 7) (q0 := 29) (As := []) (n := 0) C w (c_Se_choose l n0 G K ad X (sI (sI (sI (sI (sI (sI (sI (sI (sI (sI (sI (sI (sI (sI (sL (sL (sA (sA (sA (sA (sA (sA S 32 a32) 33 a33) 34 a34) 35 a35) 39 a39) 40 a40) 36 l36) 38 l38) 1862 i1862) 1863 i1863) 1864 i1864) 1865 i1865) 1922 i1922) 1923 i1923) 1924 i1924) 1925 i1925) 1926 i1926) 1927 i1927) 1928 i1928) 1989 i1989) 2370 i2370) 2371 i2371)  _ hw) (gw_V kw_814 kw_816 kp_16 kw_6 kw_817) (by decide +kernel) rfl rfl ⟨Nat.le_of_ble_eq_true rfl, Nat.le_of_ble_eq_true rfl⟩ rfl rfl rfl hl.1 rfl (Nat.le_of_ble_eq_true rfl) d_Se_run_138 ⟨Nat.le_of_ble_eq_true rfl, Nat.le_of_ble_eq_true rfl⟩) (fun r1 hw => ?_)
  exact ke_i (post := (fun r (u : (Nat → Int32) × (Nat → Int32) × (Nat → Int32) × (Nat → Int32) × (Nat → Int32) × (Nat → Int32) × (Nat → Int64) × (Nat → Int64) × Int32 × Int32 × Int32 × Int32 × Int32 × Int32 × Int32 × Int32 × Int32 × Int32 × Int32 × Int32 × Int32 × Int32) => post r u.1 u.2.1 u.2.2.1 u.2.2.2.1 u.2.2.2.2.1 u.2.2.2.2.2.1 u.2.2.2.2.2.2.1 u.2.2.2.2.2.2.2.1 u.2.2.2.2.2.2.2.2.1 u.2.2.2.2.2.2.2.2.2.1 u.2.2.2.2.2.2.2.2.2.2.1 u.2.2.2.2.2.2.2.2.2.2.2.1 u.2.2.2.2.2.2.2.2.2.2.2.2.1 u.2.2.2.2.2.2.2.2.2.2.2.2.2.1 u.2.2.2.2.2.2.2.2.2.2.2.2.2.2.1 u.2.2.2.2.2.2.2.2.2.2.2.2.2.2.2.1 u.2.2.2.2.2.2.2.2.2.2.2.2.2.2.2.2.1 u.2.2.2.2.2.2.2.2.2.2.2.2.2.2.2.2.2.1 u.2.2.2.2.2.2.2.2.2.2.2.2.2.2.2.2.2.2.1 u.2.2.2.2.2.2.2.2.2.2.2.2.2.2.2.2.2.2.2.1 u.2.2.2.2.2.2.2.2.2.2.2.2.2.2.2.2.2.2.2.2.1 u.2.2.2.2.2.2.2.2.2.2.2.2.2.2.2.2.2.2.2.2.2)) (st := (fun (u : (Nat → Int32) × (Nat → Int32) × (Nat → Int32) × (Nat → Int32) × (Nat → Int32) × (Nat → Int32) × (Nat → Int64) × (Nat → Int64) × Int32 × Int32 × Int32 × Int32 × Int32 × Int32 × Int32 × Int32 × Int32 × Int32 × Int32 × Int32 × Int32 × Int32) => wC K ad (sI (sI (sI (sI (sI (sI (sI (sI (sI (sI (sI (sI (sI (sI (sL (sL (sA (sA (sA (sA (sA (sA S 32 u.1) 33 u.2.1) 34 u.2.2.1) 35 u.2.2.2.1) 39 u.2.2.2.2.1) 40 u.2.2.2.2.2.1) 36 u.2.2.2.2.2.2.1) 38 u.2.2.2.2.2.2.2.1) 1862 u.2.2.2.2.2.2.2.2.1) 1863 u.2.2.2.2.2.2.2.2.2.1) 1864 u.2.2.2.2.2.2.2.2.2.2.1) 1865 u.2.2.2.2.2.2.2.2.2.2.2.1) 1922 u.2.2.2.2.2.2.2.2.2.2.2.2.1) 1923 u.2.2.2.2.2.2.2.2.2.2.2.2.2.1) 1924 u.2.2.2.2.2.2.2.2.2.2.2.2.2.2.1) 1925 u.2.2.2.2.2.2.2.2.2.2.2.2.2.2.2.1) 1926 u.2.2.2.2.2.2.2.2.2.2.2.2.2.2.2.2.1) 1927 u.2.2.2.2.2.2.2.2.2.2.2.2.2.2.2.2.2.1) 1928 u.2.2.2.2.2.2.2.2.2.2.2.2.2.2.2.2.2.2.1) 1989 u.2.2.2.2.2.2.2.2.2.2.2.2.2.2.2.2.2.2.2.1) 2370 u.2.2.2.2.2.2.2.2.2.2.2.2.2.2.2.2.2.2.2.2.1) 2371 u.2.2.2.2.2.2.2.2.2.2.2.2.2.2.2.2.2.2.2.2.2) ++ X)) (u := (a32, a33, a34, a35, a39, a40, l36, l38, i1862, i1863, i1864, i1865, i1922, i1923, i1924, i1925, i1926, i1927, i1928, i1989, i2370, i2371)) C hr d_Se_run_141 (wn_eq w rfl) hw
set_option maxHeartbeats 4000000 in
set_option maxRecDepth 100000 in
theorem w_Se_run_114 {S : ST} {post : Int32 → (Nat → Int32) → (Nat → Int32) → (Nat → Int32) → (Nat → Int32) → (Nat → Int32) → (Nat → Int32) → (Nat → Int64) → (Nat → Int64) → Int32 → Int32 → Int32 → Int32 → Int32 → Int32 → Int32 → Int32 → Int32 → Int32 → Int32 → Int32 → Int32 → Int32 → Prop} (C : cx p s m args meth c prog_9_method_2_code 4 "LineBreaker$Search" n0 G K) (hr : meth.sig.returnType = (some .int)) {K81 : (Nat → Int32) → (Nat → Int32) → (Nat → Int32) → (Nat → Int32) → (Nat → Int32) → (Nat → Int32) → (Nat → Int64) → (Nat → Int64) → Int32 → Int32 → Int32 → Int32 → Int32 → Int32 → Int32 → Int32 → Int32 → Int32 → Int32 → Int32 → Int32 → Int32 → Int32 → Int32 → Prop} (hk81 : ∀ (a32 : (Nat → Int32)) (a33 : (Nat → Int32)) (a34 : (Nat → Int32)) (a35 : (Nat → Int32)) (a39 : (Nat → Int32)) (a40 : (Nat → Int32)) (l36 : (Nat → Int64)) (l38 : (Nat → Int64)) (i1862 : Int32) (i1863 : Int32) (i1864 : Int32) (i1865 : Int32) (i1922 : Int32) (i1923 : Int32) (i1924 : Int32) (i1925 : Int32) (i1926 : Int32) (i1927 : Int32) (i1928 : Int32) (i1989 : Int32) (i2370 : Int32) (i2371 : Int32) (x1 : Int32) (x3 : Int32), K81 a32 a33 a34 a35 a39 a40 l36 l38 i1862 i1863 i1864 i1865 i1922 i1923 i1924 i1925 i1926 i1927 i1928 i1989 i2370 i2371 x1 x3 → ∀ (H : Heap) (locs : List Loc) (ls : Array Slot), wn n0 G (wC K ad (sI (sI (sI (sI (sI (sI (sI (sI (sI (sI (sI (sI (sI (sI (sL (sL (sA (sA (sA (sA (sA (sA S 32 a32) 33 a33) 34 a34) 35 a35) 39 a39) 40 a40) 36 l36) 38 l38) 1862 i1862) 1863 i1863) 1864 i1864) 1865 i1865) 1922 i1922) 1923 i1923) 1924 i1924) 1925 i1925) 1926 i1926) 1927 i1927) 1928 i1928) 1989 i1989) 2370 i2370) 2371 i2371) ++ X) s H locs → lv_has ls 4 [(0, .ref (ad 29)), (1, .int x1), (3, .int x3)] → W p l e rm_Se_run s m args below meth c H locs 0 0 (MQ below (va_Qi (fun r (u : (Nat → Int32) × (Nat → Int32) × (Nat → Int32) × (Nat → Int32) × (Nat → Int32) × (Nat → Int32) × (Nat → Int64) × (Nat → Int64) × Int32 × Int32 × Int32 × Int32 × Int32 × Int32 × Int32 × Int32 × Int32 × Int32 × Int32 × Int32 × Int32 × Int32) => post r u.1 u.2.1 u.2.2.1 u.2.2.2.1 u.2.2.2.2.1 u.2.2.2.2.2.1 u.2.2.2.2.2.2.1 u.2.2.2.2.2.2.2.1 u.2.2.2.2.2.2.2.2.1 u.2.2.2.2.2.2.2.2.2.1 u.2.2.2.2.2.2.2.2.2.2.1 u.2.2.2.2.2.2.2.2.2.2.2.1 u.2.2.2.2.2.2.2.2.2.2.2.2.1 u.2.2.2.2.2.2.2.2.2.2.2.2.2.1 u.2.2.2.2.2.2.2.2.2.2.2.2.2.2.1 u.2.2.2.2.2.2.2.2.2.2.2.2.2.2.2.1 u.2.2.2.2.2.2.2.2.2.2.2.2.2.2.2.2.1 u.2.2.2.2.2.2.2.2.2.2.2.2.2.2.2.2.2.1 u.2.2.2.2.2.2.2.2.2.2.2.2.2.2.2.2.2.2.1 u.2.2.2.2.2.2.2.2.2.2.2.2.2.2.2.2.2.2.2.1 u.2.2.2.2.2.2.2.2.2.2.2.2.2.2.2.2.2.2.2.2.1 u.2.2.2.2.2.2.2.2.2.2.2.2.2.2.2.2.2.2.2.2.2) (fun (u : (Nat → Int32) × (Nat → Int32) × (Nat → Int32) × (Nat → Int32) × (Nat → Int32) × (Nat → Int32) × (Nat → Int64) × (Nat → Int64) × Int32 × Int32 × Int32 × Int32 × Int32 × Int32 × Int32 × Int32 × Int32 × Int32 × Int32 × Int32 × Int32 × Int32) t => we n0 G (wC K ad (sI (sI (sI (sI (sI (sI (sI (sI (sI (sI (sI (sI (sI (sI (sL (sL (sA (sA (sA (sA (sA (sA S 32 u.1) 33 u.2.1) 34 u.2.2.1) 35 u.2.2.2.1) 39 u.2.2.2.2.1) 40 u.2.2.2.2.2.1) 36 u.2.2.2.2.2.2.1) 38 u.2.2.2.2.2.2.2.1) 1862 u.2.2.2.2.2.2.2.2.1) 1863 u.2.2.2.2.2.2.2.2.2.1) 1864 u.2.2.2.2.2.2.2.2.2.2.1) 1865 u.2.2.2.2.2.2.2.2.2.2.2.1) 1922 u.2.2.2.2.2.2.2.2.2.2.2.2.1) 1923 u.2.2.2.2.2.2.2.2.2.2.2.2.2.1) 1924 u.2.2.2.2.2.2.2.2.2.2.2.2.2.2.1) 1925 u.2.2.2.2.2.2.2.2.2.2.2.2.2.2.2.1) 1926 u.2.2.2.2.2.2.2.2.2.2.2.2.2.2.2.2.1) 1927 u.2.2.2.2.2.2.2.2.2.2.2.2.2.2.2.2.2.1) 1928 u.2.2.2.2.2.2.2.2.2.2.2.2.2.2.2.2.2.2.1) 1989 u.2.2.2.2.2.2.2.2.2.2.2.2.2.2.2.2.2.2.2.1) 2370 u.2.2.2.2.2.2.2.2.2.2.2.2.2.2.2.2.2.2.2.2.1) 2371 u.2.2.2.2.2.2.2.2.2.2.2.2.2.2.2.2.2.2.2.2.2) ++ X) t) (al n0)) args s 0 0 (al n0)) (F0 m 81 ls [])) : ∀ (a32 : (Nat → Int32)) (a33 : (Nat → Int32)) (a34 : (Nat → Int32)) (a35 : (Nat → Int32)) (a39 : (Nat → Int32)) (a40 : (Nat → Int32)) (l36 : (Nat → Int64)) (l38 : (Nat → Int64)) (i1862 : Int32) (i1863 : Int32) (i1864 : Int32) (i1865 : Int32) (i1922 : Int32) (i1923 : Int32) (i1924 : Int32) (i1925 : Int32) (i1926 : Int32) (i1927 : Int32) (i1928 : Int32) (i1989 : Int32) (i2370 : Int32) (i2371 : Int32) (x1 : Int32) (x3 : Int32) (z1 : Int32) (z2 : Int32), wl_Se_run_114 S post K81 a32 a33 a34 a35 a39 a40 l36 l38 i1862 i1863 i1864 i1865 i1922 i1923 i1924 i1925 i1926 i1927 i1928 i1989 i2370 i2371 x1 x3 z1 z2 → ∀ (H : Heap) (locs : List Loc) (ls : Array Slot), wn n0 G (wC K ad (sI (sI (sI (sI (sI (sI (sI (sI (sI (sI (sI (sI (sI (sI (sL (sL (sA (sA (sA (sA (sA (sA S 32 a32) 33 a33) 34 a34) 35 a35) 39 a39) 40 a40) 36 l36) 38 l38) 1862 i1862) 1863 i1863) 1864 i1864) 1865 i1865) 1922 i1922) 1923 i1923) 1924 i1924) 1925 i1925) 1926 i1926) 1927 i1927) 1928 i1928) 1989 i1989) 2370 i2370) 2371 i2371) ++ X) s H locs → lv_has ls 4 [(0, .ref (ad 29)), (1, .int x1), (3, .int x3)] → W p l e rm_Se_run s m args below meth c H locs 0 0 (MQ below (va_Qi (fun r (u : (Nat → Int32) × (Nat → Int32) × (Nat → Int32) × (Nat → Int32) × (Nat → Int32) × (Nat → Int32) × (Nat → Int64) × (Nat → Int64) × Int32 × Int32 × Int32 × Int32 × Int32 × Int32 × Int32 × Int32 × Int32 × Int32 × Int32 × Int32 × Int32 × Int32) => post r u.1 u.2.1 u.2.2.1 u.2.2.2.1 u.2.2.2.2.1 u.2.2.2.2.2.1 u.2.2.2.2.2.2.1 u.2.2.2.2.2.2.2.1 u.2.2.2.2.2.2.2.2.1 u.2.2.2.2.2.2.2.2.2.1 u.2.2.2.2.2.2.2.2.2.2.1 u.2.2.2.2.2.2.2.2.2.2.2.1 u.2.2.2.2.2.2.2.2.2.2.2.2.1 u.2.2.2.2.2.2.2.2.2.2.2.2.2.1 u.2.2.2.2.2.2.2.2.2.2.2.2.2.2.1 u.2.2.2.2.2.2.2.2.2.2.2.2.2.2.2.1 u.2.2.2.2.2.2.2.2.2.2.2.2.2.2.2.2.1 u.2.2.2.2.2.2.2.2.2.2.2.2.2.2.2.2.2.1 u.2.2.2.2.2.2.2.2.2.2.2.2.2.2.2.2.2.2.1 u.2.2.2.2.2.2.2.2.2.2.2.2.2.2.2.2.2.2.2.1 u.2.2.2.2.2.2.2.2.2.2.2.2.2.2.2.2.2.2.2.2.1 u.2.2.2.2.2.2.2.2.2.2.2.2.2.2.2.2.2.2.2.2.2) (fun (u : (Nat → Int32) × (Nat → Int32) × (Nat → Int32) × (Nat → Int32) × (Nat → Int32) × (Nat → Int32) × (Nat → Int64) × (Nat → Int64) × Int32 × Int32 × Int32 × Int32 × Int32 × Int32 × Int32 × Int32 × Int32 × Int32 × Int32 × Int32 × Int32 × Int32) t => we n0 G (wC K ad (sI (sI (sI (sI (sI (sI (sI (sI (sI (sI (sI (sI (sI (sI (sL (sL (sA (sA (sA (sA (sA (sA S 32 u.1) 33 u.2.1) 34 u.2.2.1) 35 u.2.2.2.1) 39 u.2.2.2.2.1) 40 u.2.2.2.2.2.1) 36 u.2.2.2.2.2.2.1) 38 u.2.2.2.2.2.2.2.1) 1862 u.2.2.2.2.2.2.2.2.1) 1863 u.2.2.2.2.2.2.2.2.2.1) 1864 u.2.2.2.2.2.2.2.2.2.2.1) 1865 u.2.2.2.2.2.2.2.2.2.2.2.1) 1922 u.2.2.2.2.2.2.2.2.2.2.2.2.1) 1923 u.2.2.2.2.2.2.2.2.2.2.2.2.2.1) 1924 u.2.2.2.2.2.2.2.2.2.2.2.2.2.2.1) 1925 u.2.2.2.2.2.2.2.2.2.2.2.2.2.2.2.1) 1926 u.2.2.2.2.2.2.2.2.2.2.2.2.2.2.2.2.1) 1927 u.2.2.2.2.2.2.2.2.2.2.2.2.2.2.2.2.2.1) 1928 u.2.2.2.2.2.2.2.2.2.2.2.2.2.2.2.2.2.2.1) 1989 u.2.2.2.2.2.2.2.2.2.2.2.2.2.2.2.2.2.2.2.1) 2370 u.2.2.2.2.2.2.2.2.2.2.2.2.2.2.2.2.2.2.2.2.1) 2371 u.2.2.2.2.2.2.2.2.2.2.2.2.2.2.2.2.2.2.2.2.2) ++ X) t) (al n0)) args s 0 0 (al n0)) (F0 m 114 ls [.int z2, .int z1, .ref (ad 17)]) := by
  have hx := C.1
  have hb := C.2.1
  have hts := C.2.2.2.2.1
  intro a32 a33 a34 a35 a39 a40 l36 l38 i1862 i1863 i1864 i1865 i1922 i1923 i1924 i1925 i1926 i1927 i1928 i1989 i2370 i2371 x1 x3 z1 z2 hw H locs ls w hl
  unfold wl_Se_run_114 at hw
  refine kd_i (kr_V (y := y_Ga_isPlace) (C1 := R_Ga) (T := F_Ga) (N := 12) (ci := 0) (q0 := 17) (As := [.int z1, .int z2]) (n := 2) C w (c_Ga_isPlace l n0 G K ad X (sI (sI (sI (sI (sI (sI (sI (sI (sI (sI (sI (sI (sI (sI (sL (sL (sA (sA (sA (sA (sA (sA S 32 a32) 33 a33) 34 a34) 35 a35) 39 a39) 40 a40) 36 l36) 38 l38) 1862 i1862) 1863 i1863) 1864 i1864) 1865 i1865) 1922 i1922) 1923 i1923) 1924 i1924) 1925 i1925) 1926 i1926) 1927 i1927) 1928 i1928) 1989 i1989) 2370 i2370) 2371 i2371) z1 z2 _ hw) (gw_V kw_730 kw_731 kw_732 kw_5 kw_733) (by decide +kernel) rfl rfl ⟨Nat.le_of_ble_eq_true rfl, Nat.le_of_ble_eq_true rfl⟩ rfl rfl rfl hl.1 rfl (Nat.le_of_ble_eq_true rfl) d_Se_run_114 ⟨Nat.le_of_ble_eq_true rfl, Nat.le_of_ble_eq_true rfl⟩) (fun r1 hw => ?_)
  refine lv_if_eq (tgt := 131) hx hb d_Se_run_117 (by decide) (fun hc => ?_) (fun hc => ?_)
  · have hw := hw.1 hc
    obtain ⟨v2, ev2⟩ : ∃ y : Int32, y = x3 + 1 := ⟨_, rfl⟩
    refine lv_iinc (v := v2) (lv' := [(3, .int v2), (0, .ref (ad 29)), (1, .int x1)]) hx hb d_Se_run_131 hl (k := 2) rfl (by rw [ev2]; rfl) (by decide) rfl (fun ls hl => ?_)
    have hw := hw v2 ev2
    refine lv_goto (tgt := 81) hx hb d_Se_run_134 (by decide) ?_
    exact hk81 a32 a33 a34 a35 a39 a40 l36 l38 i1862 i1863 i1864 i1865 i1922 i1923 i1924 i1925 i1926 i1927 i1928 i1989 i2370 i2371 x1 v2 hw _ _ _ (wn_eq w rfl) (lv_sub hl [1, 2, 0] rfl)
  · have hw := hw.2 hc
    refine lv_aload_n hx hb d_Se_run_120 rfl (lv_at hl 0 rfl) ?_
    refine lv_iload_n hx hb d_Se_run_121 rfl (lv_at hl 2 rfl) ?_
    refine kc_i (st := fun (u : (Nat → Int32) × (Nat → Int32) × (Nat → Int32) × (Nat → Int32) × (Nat → Int32) × (Nat → Int32) × (Nat → Int64) × (Nat → Int64) × Int32 × Int32 × Int32 × Int32 × Int32 × Int32 × Int32 × Int32 × Int32 × Int32 × Int32) => wC K ad (sI (sI (sI (sI (sI (sI (sI (sI (sI (sI (sI (sL (sL (sA (sA (sA (sA (sA (sA (sI (sI (sI (sI (sI (sI (sI (sI (sI (sI (sI (sI (sI (sI (sL (sL (sA (sA (sA (sA (sA (sA S 32 a32) 33 a33) 34 a34) 35 a35) 39 a39) 40 a40) 36 l36) 38 l38) 1862 i1862) 1863 i1863) 1864 i1864) 1865 i1865) 1922 i1922) 1923 i1923) 1924 i1924) 1925 i1925) 1926 i1926) 1927 i1927) 1928 i1928) 1989 i1989) 2370 i2370) 2371 i2371) 32 u.1) 33 u.2.1) 34 u.2.2.1) 35 u.2.2.2.1) 39 u.2.2.2.2.1) 40 u.2.2.2.2.2.1) 36 u.2.2.2.2.2.2.1) 38 u.2.2.2.2.2.2.2.1) 1862 u.2.2.2.2.2.2.2.2.1) 1863 u.2.2.2.2.2.2.2.2.2.1) 1923 u.2.2.2.2.2.2.2.2.2.2.1) 1924 u.2.2.2.2.2.2.2.2.2.2.2.1) 1925 u.2.2.2.2.2.2.2.2.2.2.2.2.1) 1926 u.2.2.2.2.2.2.2.2.2.2.2.2.2.1) 1927 u.2.2.2.2.2.2.2.2.2.2.2.2.2.2.1) 1928 u.2.2.2.2.2.2.2.2.2.2.2.2.2.2.2.1) 1989 u.2.2.2.2.2.2.2.2.2.2.2.2.2.2.2.2.1) 2370 u.2.2.2.2.2.2.2.2.2.2.2.2.2.2.2.2.2.1) 2371 u.2.2.2.2.2.2.2.2.2.2.2.2.2.2.2.2.2.2) ++ X) w (kr_V (y := y_Se_visit) (C1 := R_Se) (T := F_Se) (N := 10) (ci := 7) (q0 := 29) (As := [.int x3]) (n := 1) C w (c_Se_visit l n0 G K ad X (sI (sI (sI (sI (sI (sI (sI (sI (sI (sI (sI (sI (sI (sI (sL (sL (sA (sA (sA (sA (sA (sA S 32 a32) 33 a33) 34 a34) 35 a35) 39 a39) 40 a40) 36 l36) 38 l38) 1862 i1862) 1863 i1863) 1864 i1864) 1865 i1865) 1922 i1922) 1923 i1923) 1924 i1924) 1925 i1925) 1926 i1926) 1927 i1927) 1928 i1928) 1989 i1989) 2370 i2370) 2371 i2371) x3 _ hw) (gw_V kw_734 kw_736 kp_10 kw_6 kw_737) (by decide +kernel) rfl rfl ⟨Nat.le_of_ble_eq_true rfl, Nat.le_of_ble_eq_true rfl⟩ rfl rfl rfl hl.1 rfl (Nat.le_of_ble_eq_true rfl) d_Se_run_122 ⟨Nat.le_of_ble_eq_true rfl, Nat.le_of_ble_eq_true rfl⟩) (fun r22 u H locs hw w => ?_)
    obtain ⟨f3, f4, f5, f6, f7, f8, f9, f10, v11, v12, v13, v14, v15, v16, v17, v18, v19, v20, v21⟩ := u
    dsimp only at hw
    have w : wn n0 G (wC K ad (sI (sI (sI (sI (sI (sI (sI (sI (sI (sI (sI (sI (sI (sI (sL (sL (sA (sA (sA (sA (sA (sA S 32 f3) 33 f4) 34 f5) 35 f6) 39 f7) 40 f8) 36 f9) 38 f10) 1862 v11) 1863 v12) 1864 i1864) 1865 i1865) 1922 i1922) 1923 v13) 1924 v14) 1925 v15) 1926 v16) 1927 v17) 1928 v18) 1989 v19) 2370 v20) 2371 v21) ++ X) s H locs := w
    refine lv_if_ne (tgt := 131) hx hb d_Se_run_125 (by decide) (fun hc => ?_) (fun hc => ?_)
    · have hw := hw.1 hc
      obtain ⟨v23, ev23⟩ : ∃ y : Int32, y = x3 + 1 := ⟨_, rfl⟩
      refine lv_iinc (v := v23) (lv' := [(3, .int v23), (0, .ref (ad 29)), (1, .int x1)]) hx hb d_Se_run_131 hl (k := 2) rfl (by rw [ev23]; rfl) (by decide) rfl (fun ls hl => ?_)
      have hw := hw v23 ev23
      refine lv_goto (tgt := 81) hx hb d_Se_run_134 (by decide) ?_
      exact hk81 f3 f4 f5 f6 f7 f8 f9 f10 v11 v12 i1864 i1865 i1922 v13 v14 v15 v16 v17 v18 v19 v20 v21 x1 v23 hw _ _ _ (wn_eq w rfl) (lv_sub hl [1, 2, 0] rfl)
    · have hw := hw.2 hc
      refine lv_bipush (v := (-2)) hx hb d_Se_run_128 (by decide) ?_
      exact ke_i (post := (fun r (u : (Nat → Int32) × (Nat → Int32) × (Nat → Int32) × (Nat → Int32) × (Nat → Int32) × (Nat → Int32) × (Nat → Int64) × (Nat → Int64) × Int32 × Int32 × Int32 × Int32 × Int32 × Int32 × Int32 × Int32 × Int32 × Int32 × Int32 × Int32 × Int32 × Int32) => post r u.1 u.2.1 u.2.2.1 u.2.2.2.1 u.2.2.2.2.1 u.2.2.2.2.2.1 u.2.2.2.2.2.2.1 u.2.2.2.2.2.2.2.1 u.2.2.2.2.2.2.2.2.1 u.2.2.2.2.2.2.2.2.2.1 u.2.2.2.2.2.2.2.2.2.2.1 u.2.2.2.2.2.2.2.2.2.2.2.1 u.2.2.2.2.2.2.2.2.2.2.2.2.1 u.2.2.2.2.2.2.2.2.2.2.2.2.2.1 u.2.2.2.2.2.2.2.2.2.2.2.2.2.2.1 u.2.2.2.2.2.2.2.2.2.2.2.2.2.2.2.1 u.2.2.2.2.2.2.2.2.2.2.2.2.2.2.2.2.1 u.2.2.2.2.2.2.2.2.2.2.2.2.2.2.2.2.2.1 u.2.2.2.2.2.2.2.2.2.2.2.2.2.2.2.2.2.2.1 u.2.2.2.2.2.2.2.2.2.2.2.2.2.2.2.2.2.2.2.1 u.2.2.2.2.2.2.2.2.2.2.2.2.2.2.2.2.2.2.2.2.1 u.2.2.2.2.2.2.2.2.2.2.2.2.2.2.2.2.2.2.2.2.2)) (st := (fun (u : (Nat → Int32) × (Nat → Int32) × (Nat → Int32) × (Nat → Int32) × (Nat → Int32) × (Nat → Int32) × (Nat → Int64) × (Nat → Int64) × Int32 × Int32 × Int32 × Int32 × Int32 × Int32 × Int32 × Int32 × Int32 × Int32 × Int32 × Int32 × Int32 × Int32) => wC K ad (sI (sI (sI (sI (sI (sI (sI (sI (sI (sI (sI (sI (sI (sI (sL (sL (sA (sA (sA (sA (sA (sA S 32 u.1) 33 u.2.1) 34 u.2.2.1) 35 u.2.2.2.1) 39 u.2.2.2.2.1) 40 u.2.2.2.2.2.1) 36 u.2.2.2.2.2.2.1) 38 u.2.2.2.2.2.2.2.1) 1862 u.2.2.2.2.2.2.2.2.1) 1863 u.2.2.2.2.2.2.2.2.2.1) 1864 u.2.2.2.2.2.2.2.2.2.2.1) 1865 u.2.2.2.2.2.2.2.2.2.2.2.1) 1922 u.2.2.2.2.2.2.2.2.2.2.2.2.1) 1923 u.2.2.2.2.2.2.2.2.2.2.2.2.2.1) 1924 u.2.2.2.2.2.2.2.2.2.2.2.2.2.2.1) 1925 u.2.2.2.2.2.2.2.2.2.2.2.2.2.2.2.1) 1926 u.2.2.2.2.2.2.2.2.2.2.2.2.2.2.2.2.1) 1927 u.2.2.2.2.2.2.2.2.2.2.2.2.2.2.2.2.2.1) 1928 u.2.2.2.2.2.2.2.2.2.2.2.2.2.2.2.2.2.2.1) 1989 u.2.2.2.2.2.2.2.2.2.2.2.2.2.2.2.2.2.2.2.1) 2370 u.2.2.2.2.2.2.2.2.2.2.2.2.2.2.2.2.2.2.2.2.1) 2371 u.2.2.2.2.2.2.2.2.2.2.2.2.2.2.2.2.2.2.2.2.2) ++ X)) (u := (f3, f4, f5, f6, f7, f8, f9, f10, v11, v12, i1864, i1865, i1922, v13, v14, v15, v16, v17, v18, v19, v20, v21)) C hr d_Se_run_130 (wn_eq w rfl) hw
set_option maxHeartbeats 4000000 in
set_option maxRecDepth 100000 in
theorem w_Se_run_81 {S : ST} {post : Int32 → (Nat → Int32) → (Nat → Int32) → (Nat → Int32) → (Nat → Int32) → (Nat → Int32) → (Nat → Int32) → (Nat → Int64) → (Nat → Int64) → Int32 → Int32 → Int32 → Int32 → Int32 → Int32 → Int32 → Int32 → Int32 → Int32 → Int32 → Int32 → Int32 → Int32 → Prop} (C : cx p s m args meth c prog_9_method_2_code 4 "LineBreaker$Search" n0 G K) (hr : meth.sig.returnType = (some .int)) : ∀ (n : Nat) (a32 : (Nat → Int32)) (a33 : (Nat → Int32)) (a34 : (Nat → Int32)) (a35 : (Nat → Int32)) (a39 : (Nat → Int32)) (a40 : (Nat → Int32)) (l36 : (Nat → Int64)) (l38 : (Nat → Int64)) (i1862 : Int32) (i1863 : Int32) (i1864 : Int32) (i1865 : Int32) (i1922 : Int32) (i1923 : Int32) (i1924 : Int32) (i1925 : Int32) (i1926 : Int32) (i1927 : Int32) (i1928 : Int32) (i1989 : Int32) (i2370 : Int32) (i2371 : Int32) (x1 : Int32) (x3 : Int32), wl_Se_run_81 S post n a32 a33 a34 a35 a39 a40 l36 l38 i1862 i1863 i1864 i1865 i1922 i1923 i1924 i1925 i1926 i1927 i1928 i1989 i2370 i2371 x1 x3 → ∀ (H : Heap) (locs : List Loc) (ls : Array Slot), wn n0 G (wC K ad (sI (sI (sI (sI (sI (sI (sI (sI (sI (sI (sI (sI (sI (sI (sL (sL (sA (sA (sA (sA (sA (sA S 32 a32) 33 a33) 34 a34) 35 a35) 39 a39) 40 a40) 36 l36) 38 l38) 1862 i1862) 1863 i1863) 1864 i1864) 1865 i1865) 1922 i1922) 1923 i1923) 1924 i1924) 1925 i1925) 1926 i1926) 1927 i1927) 1928 i1928) 1989 i1989) 2370 i2370) 2371 i2371) ++ X) s H locs → lv_has ls 4 [(0, .ref (ad 29)), (1, .int x1), (3, .int x3)] → W p l e rm_Se_run s m args below meth c H locs 0 0 (MQ below (va_Qi (fun r (u : (Nat → Int32) × (Nat → Int32) × (Nat → Int32) × (Nat → Int32) × (Nat → Int32) × (Nat → Int32) × (Nat → Int64) × (Nat → Int64) × Int32 × Int32 × Int32 × Int32 × Int32 × Int32 × Int32 × Int32 × Int32 × Int32 × Int32 × Int32 × Int32 × Int32) => post r u.1 u.2.1 u.2.2.1 u.2.2.2.1 u.2.2.2.2.1 u.2.2.2.2.2.1 u.2.2.2.2.2.2.1 u.2.2.2.2.2.2.2.1 u.2.2.2.2.2.2.2.2.1 u.2.2.2.2.2.2.2.2.2.1 u.2.2.2.2.2.2.2.2.2.2.1 u.2.2.2.2.2.2.2.2.2.2.2.1 u.2.2.2.2.2.2.2.2.2.2.2.2.1 u.2.2.2.2.2.2.2.2.2.2.2.2.2.1 u.2.2.2.2.2.2.2.2.2.2.2.2.2.2.1 u.2.2.2.2.2.2.2.2.2.2.2.2.2.2.2.1 u.2.2.2.2.2.2.2.2.2.2.2.2.2.2.2.2.1 u.2.2.2.2.2.2.2.2.2.2.2.2.2.2.2.2.2.1 u.2.2.2.2.2.2.2.2.2.2.2.2.2.2.2.2.2.2.1 u.2.2.2.2.2.2.2.2.2.2.2.2.2.2.2.2.2.2.2.1 u.2.2.2.2.2.2.2.2.2.2.2.2.2.2.2.2.2.2.2.2.1 u.2.2.2.2.2.2.2.2.2.2.2.2.2.2.2.2.2.2.2.2.2) (fun (u : (Nat → Int32) × (Nat → Int32) × (Nat → Int32) × (Nat → Int32) × (Nat → Int32) × (Nat → Int32) × (Nat → Int64) × (Nat → Int64) × Int32 × Int32 × Int32 × Int32 × Int32 × Int32 × Int32 × Int32 × Int32 × Int32 × Int32 × Int32 × Int32 × Int32) t => we n0 G (wC K ad (sI (sI (sI (sI (sI (sI (sI (sI (sI (sI (sI (sI (sI (sI (sL (sL (sA (sA (sA (sA (sA (sA S 32 u.1) 33 u.2.1) 34 u.2.2.1) 35 u.2.2.2.1) 39 u.2.2.2.2.1) 40 u.2.2.2.2.2.1) 36 u.2.2.2.2.2.2.1) 38 u.2.2.2.2.2.2.2.1) 1862 u.2.2.2.2.2.2.2.2.1) 1863 u.2.2.2.2.2.2.2.2.2.1) 1864 u.2.2.2.2.2.2.2.2.2.2.1) 1865 u.2.2.2.2.2.2.2.2.2.2.2.1) 1922 u.2.2.2.2.2.2.2.2.2.2.2.2.1) 1923 u.2.2.2.2.2.2.2.2.2.2.2.2.2.1) 1924 u.2.2.2.2.2.2.2.2.2.2.2.2.2.2.1) 1925 u.2.2.2.2.2.2.2.2.2.2.2.2.2.2.2.1) 1926 u.2.2.2.2.2.2.2.2.2.2.2.2.2.2.2.2.1) 1927 u.2.2.2.2.2.2.2.2.2.2.2.2.2.2.2.2.2.1) 1928 u.2.2.2.2.2.2.2.2.2.2.2.2.2.2.2.2.2.2.1) 1989 u.2.2.2.2.2.2.2.2.2.2.2.2.2.2.2.2.2.2.2.1) 2370 u.2.2.2.2.2.2.2.2.2.2.2.2.2.2.2.2.2.2.2.2.1) 2371 u.2.2.2.2.2.2.2.2.2.2.2.2.2.2.2.2.2.2.2.2.2) ++ X) t) (al n0)) args s 0 0 (al n0)) (F0 m 81 ls []) := by
  have hx := C.1
  have hb := C.2.1
  have hts := C.2.2.2.2.1
  intro n
  induction n with
  | zero =>
    intro a32 a33 a34 a35 a39 a40 l36 l38 i1862 i1863 i1864 i1865 i1922 i1923 i1924 i1925 i1926 i1927 i1928 i1989 i2370 i2371 x1 x3 hw
    unfold wl_Se_run_81 at hw
    exact hw.elim
  | succ n ih =>
    intro a32 a33 a34 a35 a39 a40 l36 l38 i1862 i1863 i1864 i1865 i1922 i1923 i1924 i1925 i1926 i1927 i1928 i1989 i2370 i2371 x1 x3 hw H locs ls w hl
    unfold wl_Se_run_81 at hw
    refine lv_iload_n hx hb d_Se_run_81 rfl (lv_at hl 2 rfl) ?_
    refine lv_aload_n hx hb d_Se_run_82 rfl (lv_at hl 0 rfl) ?_
    refine kg (C1 := R_Se) (T := F_Se) (N := 10) (ci := 7) (ref := "LineBreaker$Search") (v := .ref (ad 17)) C w 29 0 iw_Se rfl rfl (by decide) kw_293 rfl rfl d_Se_run_83 ?_
    refine kg (C1 := R_Ga) (T := F_Ga) (N := 12) (ci := 0) (ref := "LineBreaker$Galley") (v := .int (S.2.2 1099)) C w 17 11 iw_Ga rfl rfl (by decide) kw_160 rfl rfl d_Se_run_86 ?_
    refine lv_icmp_gt (tgt := 137) hx hb d_Se_run_89 (by decide) (fun hc => ?_) (fun hc => ?_)
    · have hw := hw.1 hc
      exact w_Se_run_137 C hr  a32 a33 a34 a35 a39 a40 l36 l38 i1862 i1863 i1864 i1865 i1922 i1923 i1924 i1925 i1926 i1927 i1928 i1989 i2370 i2371 hw _ _ _ (wn_eq w rfl) (lv_sub hl [0] rfl)
    · have hw := hw.2 hc
      refine lv_aload_n hx hb d_Se_run_92 rfl (lv_at hl 0 rfl) ?_
      refine kg (C1 := R_Se) (T := F_Se) (N := 10) (ci := 7) (ref := "LineBreaker$Search") (v := .int i1862) C w 29 6 iw_Se rfl rfl (by decide) kw_302 rfl rfl d_Se_run_93 ?_
      refine lv_if_le (tgt := 137) hx hb d_Se_run_96 (by decide) (fun hc => ?_) (fun hc => ?_)
      · have hw := hw.1 hc
        exact w_Se_run_137 C hr  a32 a33 a34 a35 a39 a40 l36 l38 i1862 i1863 i1864 i1865 i1922 i1923 i1924 i1925 i1926 i1927 i1928 i1989 i2370 i2371 hw _ _ _ (wn_eq w rfl) (lv_sub hl [0] rfl)
      · have hw := hw.2 hc
        refine lv_aload_n hx hb d_Se_run_99 rfl (lv_at hl 0 rfl) ?_
        refine kg (C1 := R_Se) (T := F_Se) (N := 10) (ci := 7) (ref := "LineBreaker$Search") (v := .ref (ad 17)) C w 29 0 iw_Se rfl rfl (by decide) kw_293 rfl rfl d_Se_run_100 ?_
        refine lv_iload_n hx hb d_Se_run_103 rfl (lv_at hl 2 rfl) ?_
        refine lv_iload_n hx hb d_Se_run_104 rfl (lv_at hl 1 rfl) ?_
        refine lv_iconst (v := 1) hx hb d_Se_run_105 (by decide) ?_
        refine lv_icmp_le (tgt := 113) hx hb d_Se_run_106 (by decide) (fun hc => ?_) (fun hc => ?_)
        · have hw := hw.1 hc
          refine lv_iconst (v := 0) hx hb d_Se_run_113 (by decide) ?_
          exact w_Se_run_114 C hr ih a32 a33 a34 a35 a39 a40 l36 l38 i1862 i1863 i1864 i1865 i1922 i1923 i1924 i1925 i1926 i1927 i1928 i1989 i2370 i2371 x1 x3 x3 0 hw _ _ _ (wn_eq w rfl) (lv_sub hl [0, 1, 2] rfl)
        · have hw := hw.2 hc
          refine lv_iconst (v := 1) hx hb d_Se_run_109 (by decide) ?_
          refine lv_goto (tgt := 114) hx hb d_Se_run_110 (by decide) ?_
          exact w_Se_run_114 C hr ih a32 a33 a34 a35 a39 a40 l36 l38 i1862 i1863 i1864 i1865 i1922 i1923 i1924 i1925 i1926 i1927 i1928 i1989 i2370 i2371 x1 x3 x3 1 hw _ _ _ (wn_eq w rfl) (lv_sub hl [0, 1, 2] rfl)
set_option maxHeartbeats 4000000 in
set_option maxRecDepth 100000 in
theorem w_Se_run_50 {S : ST} {post : Int32 → (Nat → Int32) → (Nat → Int32) → (Nat → Int32) → (Nat → Int32) → (Nat → Int32) → (Nat → Int32) → (Nat → Int64) → (Nat → Int64) → Int32 → Int32 → Int32 → Int32 → Int32 → Int32 → Int32 → Int32 → Int32 → Int32 → Int32 → Int32 → Int32 → Int32 → Prop} (C : cx p s m args meth c prog_9_method_2_code 4 "LineBreaker$Search" n0 G K) (hr : meth.sig.returnType = (some .int)) : ∀ (i1864 : Int32) (i1865 : Int32) (x1 : Int32) (z1 : Int32), wl_Se_run_50 S post i1864 i1865 x1 z1 → ∀ (H : Heap) (locs : List Loc) (ls : Array Slot), wn n0 G (wC K ad (sI (sI S 1864 i1864) 1865 i1865) ++ X) s H locs → lv_has ls 4 [(0, .ref (ad 29)), (1, .int x1)] → W p l e rm_Se_run s m args below meth c H locs 0 0 (MQ below (va_Qi (fun r (u : (Nat → Int32) × (Nat → Int32) × (Nat → Int32) × (Nat → Int32) × (Nat → Int32) × (Nat → Int32) × (Nat → Int64) × (Nat → Int64) × Int32 × Int32 × Int32 × Int32 × Int32 × Int32 × Int32 × Int32 × Int32 × Int32 × Int32 × Int32 × Int32 × Int32) => post r u.1 u.2.1 u.2.2.1 u.2.2.2.1 u.2.2.2.2.1 u.2.2.2.2.2.1 u.2.2.2.2.2.2.1 u.2.2.2.2.2.2.2.1 u.2.2.2.2.2.2.2.2.1 u.2.2.2.2.2.2.2.2.2.1 u.2.2.2.2.2.2.2.2.2.2.1 u.2.2.2.2.2.2.2.2.2.2.2.1 u.2.2.2.2.2.2.2.2.2.2.2.2.1 u.2.2.2.2.2.2.2.2.2.2.2.2.2.1 u.2.2.2.2.2.2.2.2.2.2.2.2.2.2.1 u.2.2.2.2.2.2.2.2.2.2.2.2.2.2.2.1 u.2.2.2.2.2.2.2.2.2.2.2.2.2.2.2.2.1 u.2.2.2.2.2.2.2.2.2.2.2.2.2.2.2.2.2.1 u.2.2.2.2.2.2.2.2.2.2.2.2.2.2.2.2.2.2.1 u.2.2.2.2.2.2.2.2.2.2.2.2.2.2.2.2.2.2.2.1 u.2.2.2.2.2.2.2.2.2.2.2.2.2.2.2.2.2.2.2.2.1 u.2.2.2.2.2.2.2.2.2.2.2.2.2.2.2.2.2.2.2.2.2) (fun (u : (Nat → Int32) × (Nat → Int32) × (Nat → Int32) × (Nat → Int32) × (Nat → Int32) × (Nat → Int32) × (Nat → Int64) × (Nat → Int64) × Int32 × Int32 × Int32 × Int32 × Int32 × Int32 × Int32 × Int32 × Int32 × Int32 × Int32 × Int32 × Int32 × Int32) t => we n0 G (wC K ad (sI (sI (sI (sI (sI (sI (sI (sI (sI (sI (sI (sI (sI (sI (sL (sL (sA (sA (sA (sA (sA (sA S 32 u.1) 33 u.2.1) 34 u.2.2.1) 35 u.2.2.2.1) 39 u.2.2.2.2.1) 40 u.2.2.2.2.2.1) 36 u.2.2.2.2.2.2.1) 38 u.2.2.2.2.2.2.2.1) 1862 u.2.2.2.2.2.2.2.2.1) 1863 u.2.2.2.2.2.2.2.2.2.1) 1864 u.2.2.2.2.2.2.2.2.2.2.1) 1865 u.2.2.2.2.2.2.2.2.2.2.2.1) 1922 u.2.2.2.2.2.2.2.2.2.2.2.2.1) 1923 u.2.2.2.2.2.2.2.2.2.2.2.2.2.1) 1924 u.2.2.2.2.2.2.2.2.2.2.2.2.2.2.1) 1925 u.2.2.2.2.2.2.2.2.2.2.2.2.2.2.2.1) 1926 u.2.2.2.2.2.2.2.2.2.2.2.2.2.2.2.2.1) 1927 u.2.2.2.2.2.2.2.2.2.2.2.2.2.2.2.2.2.1) 1928 u.2.2.2.2.2.2.2.2.2.2.2.2.2.2.2.2.2.2.1) 1989 u.2.2.2.2.2.2.2.2.2.2.2.2.2.2.2.2.2.2.2.1) 2370 u.2.2.2.2.2.2.2.2.2.2.2.2.2.2.2.2.2.2.2.2.1) 2371 u.2.2.2.2.2.2.2.2.2.2.2.2.2.2.2.2.2.2.2.2.2) ++ X) t) (al n0)) args s 0 0 (al n0)) (F0 m 50 ls [.int z1, .ref (ad 30)]) := by
  have hx := C.1
  have hb := C.2.1
  have hts := C.2.2.2.2.1
  intro i1864 i1865 x1 z1 hw H locs ls w hl
  unfold wl_Se_run_50 at hw
  refine kc_v (st := fun (u : Int32 × Int32) => wC K ad (sI (sI (sI (sI S 1864 i1864) 1865 i1865) 1922 u.1) 1927 u.2) ++ X) w (kr_V (y := y_Gu_start) (C1 := R_Gu) (T := F_Gu) (N := 9) (ci := 1) (q0 := 30) (As := [.int z1]) (n := 1) C w (c_Gu_start l n0 G K ad X (sI (sI S 1864 i1864) 1865 i1865) z1 _ hw) (gw_V kw_715 kw_716 kw_717 kw_7 kw_718) (by decide +kernel) rfl rfl ⟨Nat.le_of_ble_eq_true rfl, Nat.le_of_ble_eq_true rfl⟩ rfl rfl rfl hl.1 rfl (Nat.le_of_ble_eq_true rfl) d_Se_run_50 ⟨Nat.le_of_ble_eq_true rfl, Nat.le_of_ble_eq_true rfl⟩) (fun u H locs hw w => ?_)
  obtain ⟨v1, v2⟩ := u
  dsimp only at hw
  have w : wn n0 G (wC K ad (sI (sI (sI (sI S 1864 i1864) 1865 i1865) 1922 v1) 1927 v2) ++ X) s H locs := w
  refine lv_aload_n hx hb d_Se_run_53 rfl (lv_at hl 0 rfl) ?_
  refine kg (C1 := R_Se) (T := F_Se) (N := 10) (ci := 7) (ref := "LineBreaker$Search") (v := .ref (ad 31)) C w 29 3 iw_Se rfl rfl (by decide) kw_298 rfl rfl d_Se_run_54 ?_
  refine kc_v (st := fun (u : (Nat → Int32) × (Nat → Int32) × (Nat → Int32) × (Nat → Int32) × (Nat → Int64) × Int32) => wC K ad (sI (sL (sA (sA (sA (sA (sI (sI (sI (sI S 1864 i1864) 1865 i1865) 1922 v1) 1927 v2) 32 u.1) 33 u.2.1) 34 u.2.2.1) 35 u.2.2.2.1) 36 u.2.2.2.2.1) 1989 u.2.2.2.2.2) ++ X) w (kr_V (y := y_No_start) (C1 := R_No) (T := F_No) (N := 6) (ci := 3) (q0 := 31) (As := []) (n := 0) C w (c_No_start l n0 G K ad X (sI (sI (sI (sI S 1864 i1864) 1865 i1865) 1922 v1) 1927 v2)  _ hw) (gw_V kw_719 kw_720 kw_721 kw_8 kw_722) (by decide +kernel) rfl rfl ⟨Nat.le_of_ble_eq_true rfl, Nat.le_of_ble_eq_true rfl⟩ rfl rfl rfl hl.1 rfl (Nat.le_of_ble_eq_true rfl) d_Se_run_57 ⟨Nat.le_of_ble_eq_true rfl, Nat.le_of_ble_eq_true rfl⟩) (fun u H locs hw w => ?_)
  obtain ⟨f3, f4, f5, f6, f7, v8⟩ := u
  dsimp only at hw
  have w : wn n0 G (wC K ad (sI (sI (sI (sI (sI (sL (sA (sA (sA (sA S 32 f3) 33 f4) 34 f5) 35 f6) 36 f7) 1864 i1864) 1865 i1865) 1922 v1) 1927 v2) 1989 v8) ++ X) s H locs := w
  refine lv_aload_n hx hb d_Se_run_60 rfl (lv_at hl 0 rfl) ?_
  refine kg (C1 := R_Se) (T := F_Se) (N := 10) (ci := 7) (ref := "LineBreaker$Search") (v := .ref (ad 37)) C w 29 4 iw_Se rfl rfl (by decide) kw_300 rfl rfl d_Se_run_61 ?_
  refine kc_v (st := fun (u : (Nat → Int32) × Int32 × Int32) => wC K ad (sI (sI (sA (sI (sI (sI (sI (sI (sL (sA (sA (sA (sA S 32 f3) 33 f4) 34 f5) 35 f6) 36 f7) 1864 i1864) 1865 i1865) 1922 v1) 1927 v2) 1989 v8) 39 u.1) 2370 u.2.1) 2371 u.2.2) ++ X) w (kr_V (y := y_Of_start) (C1 := R_Of) (T := F_Of) (N := 4) (ci := 4) (q0 := 37) (As := []) (n := 0) C w (c_Of_start l n0 G K ad X (sI (sI (sI (sI (sI (sL (sA (sA (sA (sA S 32 f3) 33 f4) 34 f5) 35 f6) 36 f7) 1864 i1864) 1865 i1865) 1922 v1) 1927 v2) 1989 v8)  _ hw) (gw_V kw_723 kw_724 kw_725 kw_9 kw_726) (by decide +kernel) rfl rfl ⟨Nat.le_of_ble_eq_true rfl, Nat.le_of_ble_eq_true rfl⟩ rfl rfl rfl hl.1 rfl (Nat.le_of_ble_eq_true rfl) d_Se_run_64 ⟨Nat.le_of_ble_eq_true rfl, Nat.le_of_ble_eq_true rfl⟩) (fun u H locs hw w => ?_)
  obtain ⟨f9, v10, v11⟩ := u
  dsimp only at hw
  have w : wn n0 G (wC K ad (sI (sI (sI (sI (sI (sI (sI (sL (sA (sA (sA (sA (sA S 32 f3) 33 f4) 34 f5) 35 f6) 39 f9) 36 f7) 1864 i1864) 1865 i1865) 1922 v1) 1927 v2) 1989 v8) 2370 v10) 2371 v11) ++ X) s H locs := w
  refine lv_aload_n hx hb d_Se_run_67 rfl (lv_at hl 0 rfl) ?_
  refine kg (C1 := R_Se) (T := F_Se) (N := 10) (ci := 7) (ref := "LineBreaker$Search") (v := .ref (ad 40)) C w 29 5 iw_Se rfl rfl (by decide) kw_301 rfl rfl d_Se_run_68 ?_
  refine lv_iconst (v := 0) hx hb d_Se_run_71 (by decide) ?_
  refine lv_iconst (v := 0) hx hb d_Se_run_72 (by decide) ?_
  obtain ⟨f12, ef12⟩ : ∃ z : Nat → Int32, z = upd (S.1 40) ((0 : Int32).toNatClampNeg) 0 := ⟨_, rfl⟩
  refine ks_i (f := (S.1 40)) (w2 := wC K ad (sI (sI (sI (sI (sI (sI (sI (sL (sA (sA (sA (sA (sA (sA S 32 f3) 33 f4) 34 f5) 35 f6) 39 f9) 40 f12) 36 f7) 1864 i1864) 1865 i1865) 1922 v1) 1927 v2) 1989 v8) 2370 v10) 2371 v11) ++ X) C w 40 rfl hw.1 (by rw [← ef12]; rfl) d_Se_run_73 (fun H locs w => ?_)
  have hw := hw.2 f12 ef12
  refine lv_aload_n hx hb d_Se_run_74 rfl (lv_at hl 0 rfl) ?_
  refine lv_iconst (v := 1) hx hb d_Se_run_75 (by decide) ?_
  refine kp (C1 := R_Se) (T := F_Se) (N := 10) (ci := 7) (ty0 := t_Se) (ref := "LineBreaker$Search") (w2 := wC K ad (sI (sI (sI (sI (sI (sI (sI (sI (sL (sA (sA (sA (sA (sA (sA S 32 f3) 33 f4) 34 f5) 35 f6) 39 f9) 40 f12) 36 f7) 1862 1) 1864 i1864) 1865 i1865) 1922 v1) 1927 v2) 1989 v8) 2370 v10) 2371 v11) ++ X) C w 29 6 iw_Se tk_Se n_Se rfl rfl (by decide) kw_302 rfl rfl rfl rfl (Nat.le_of_ble_eq_true rfl) rfl d_Se_run_76 (fun H locs w => ?_)
  refine lv_iconst (v := 0) hx hb d_Se_run_79 (by decide) ?_
  refine lv_istore_n (lv' := [(3, .int 0), (0, .ref (ad 29)), (1, .int x1)]) hx hb d_Se_run_80 rfl hl (by decide) rfl (fun ls hl => ?_)
  obtain ⟨n9, hw⟩ := hw
  exact w_Se_run_81 C hr  n9 f3 f4 f5 f6 f9 f12 f7 (S.2.1 38) 1 (S.2.2 1863) i1864 i1865 v1 (S.2.2 1923) (S.2.2 1924) (S.2.2 1925) (S.2.2 1926) v2 (S.2.2 1928) v8 v10 v11 x1 0 hw _ _ _ (wn_eq w rfl) (lv_sub hl [1, 2, 0] rfl)
set_option maxHeartbeats 4000000 in
set_option maxRecDepth 100000 in
theorem w_Se_run_18 {S : ST} {post : Int32 → (Nat → Int32) → (Nat → Int32) → (Nat → Int32) → (Nat → Int32) → (Nat → Int32) → (Nat → Int32) → (Nat → Int64) → (Nat → Int64) → Int32 → Int32 → Int32 → Int32 → Int32 → Int32 → Int32 → Int32 → Int32 → Int32 → Int32 → Int32 → Int32 → Int32 → Prop} (C : cx p s m args meth c prog_9_method_2_code 4 "LineBreaker$Search" n0 G K) (hr : meth.sig.returnType = (some .int)) : ∀ (x1 : Int32) (x2 : Int32) (z2 : Int32), wl_Se_run_18 S post x1 x2 z2 → ∀ (H : Heap) (locs : List Loc) (ls : Array Slot), wn n0 G (wC K ad S ++ X) s H locs → lv_has ls 4 [(0, .ref (ad 29)), (1, .int x1), (2, .int x2)] → W p l e rm_Se_run s m args below meth c H locs 0 0 (MQ below (va_Qi (fun r (u : (Nat → Int32) × (Nat → Int32) × (Nat → Int32) × (Nat → Int32) × (Nat → Int32) × (Nat → Int32) × (Nat → Int64) × (Nat → Int64) × Int32 × Int32 × Int32 × Int32 × Int32 × Int32 × Int32 × Int32 × Int32 × Int32 × Int32 × Int32 × Int32 × Int32) => post r u.1 u.2.1 u.2.2.1 u.2.2.2.1 u.2.2.2.2.1 u.2.2.2.2.2.1 u.2.2.2.2.2.2.1 u.2.2.2.2.2.2.2.1 u.2.2.2.2.2.2.2.2.1 u.2.2.2.2.2.2.2.2.2.1 u.2.2.2.2.2.2.2.2.2.2.1 u.2.2.2.2.2.2.2.2.2.2.2.1 u.2.2.2.2.2.2.2.2.2.2.2.2.1 u.2.2.2.2.2.2.2.2.2.2.2.2.2.1 u.2.2.2.2.2.2.2.2.2.2.2.2.2.2.1 u.2.2.2.2.2.2.2.2.2.2.2.2.2.2.2.1 u.2.2.2.2.2.2.2.2.2.2.2.2.2.2.2.2.1 u.2.2.2.2.2.2.2.2.2.2.2.2.2.2.2.2.2.1 u.2.2.2.2.2.2.2.2.2.2.2.2.2.2.2.2.2.2.1 u.2.2.2.2.2.2.2.2.2.2.2.2.2.2.2.2.2.2.2.1 u.2.2.2.2.2.2.2.2.2.2.2.2.2.2.2.2.2.2.2.2.1 u.2.2.2.2.2.2.2.2.2.2.2.2.2.2.2.2.2.2.2.2.2) (fun (u : (Nat → Int32) × (Nat → Int32) × (Nat → Int32) × (Nat → Int32) × (Nat → Int32) × (Nat → Int32) × (Nat → Int64) × (Nat → Int64) × Int32 × Int32 × Int32 × Int32 × Int32 × Int32 × Int32 × Int32 × Int32 × Int32 × Int32 × Int32 × Int32 × Int32) t => we n0 G (wC K ad (sI (sI (sI (sI (sI (sI (sI (sI (sI (sI (sI (sI (sI (sI (sL (sL (sA (sA (sA (sA (sA (sA S 32 u.1) 33 u.2.1) 34 u.2.2.1) 35 u.2.2.2.1) 39 u.2.2.2.2.1) 40 u.2.2.2.2.2.1) 36 u.2.2.2.2.2.2.1) 38 u.2.2.2.2.2.2.2.1) 1862 u.2.2.2.2.2.2.2.2.1) 1863 u.2.2.2.2.2.2.2.2.2.1) 1864 u.2.2.2.2.2.2.2.2.2.2.1) 1865 u.2.2.2.2.2.2.2.2.2.2.2.1) 1922 u.2.2.2.2.2.2.2.2.2.2.2.2.1) 1923 u.2.2.2.2.2.2.2.2.2.2.2.2.2.1) 1924 u.2.2.2.2.2.2.2.2.2.2.2.2.2.2.1) 1925 u.2.2.2.2.2.2.2.2.2.2.2.2.2.2.2.1) 1926 u.2.2.2.2.2.2.2.2.2.2.2.2.2.2.2.2.1) 1927 u.2.2.2.2.2.2.2.2.2.2.2.2.2.2.2.2.2.1) 1928 u.2.2.2.2.2.2.2.2.2.2.2.2.2.2.2.2.2.2.1) 1989 u.2.2.2.2.2.2.2.2.2.2.2.2.2.2.2.2.2.2.2.1) 2370 u.2.2.2.2.2.2.2.2.2.2.2.2.2.2.2.2.2.2.2.2.1) 2371 u.2.2.2.2.2.2.2.2.2.2.2.2.2.2.2.2.2.2.2.2.2) ++ X) t) (al n0)) args s 0 0 (al n0)) (F0 m 18 ls [.int z2, .ref (ad 12), .ref (ad 29)]) := by
  have hx := C.1
  have hb := C.2.1
  have hts := C.2.2.2.2.1
  intro x1 x2 z2 hw H locs ls w hl
  unfold wl_Se_run_18 at hw
  refine ka_i (f := (S.1 12)) C w 12 rfl hw.1 d_Se_run_18 ?_
  have hw := hw.2
  refine lv_topi (fun v1 ev1 => ?_)
  have hw := hw v1 ev1
  refine kp (C1 := R_Se) (T := F_Se) (N := 10) (ci := 7) (ty0 := t_Se) (ref := "LineBreaker$Search") (w2 := wC K ad (sI S 1864 v1) ++ X) C w 29 8 iw_Se tk_Se n_Se rfl rfl (by decide) kw_304 rfl rfl rfl rfl (Nat.le_of_ble_eq_true rfl) rfl d_Se_run_19 (fun H locs w => ?_)
  refine lv_aload_n hx hb d_Se_run_22 rfl (lv_at hl 0 rfl) ?_
  refine lv_iload_n hx hb d_Se_run_23 rfl (lv_at hl 2 rfl) ?_
  have hz := hw.1
  have hw := hw.2
  refine kp (C1 := R_Se) (T := F_Se) (N := 10) (ci := 7) (ty0 := t_Se) (ref := "LineBreaker$Search") (w2 := wC K ad (sI (sI S 1864 v1) 1865 x2) ++ X) C w 29 9 iw_Se tk_Se n_Se rfl rfl (by decide) kw_305 rfl rfl (kz_n hz).1 (kz_n hz).2 (Nat.le_of_ble_eq_true rfl) rfl d_Se_run_24 (fun H locs w => ?_)
  refine lv_aload_n hx hb d_Se_run_27 rfl (lv_at hl 0 rfl) ?_
  refine kg (C1 := R_Se) (T := F_Se) (N := 10) (ci := 7) (ref := "LineBreaker$Search") (v := .ref (ad 30)) C w 29 2 iw_Se rfl rfl (by decide) kw_296 rfl rfl d_Se_run_28 ?_
  refine lv_iload_n hx hb d_Se_run_31 rfl (lv_at hl 1 rfl) ?_
  refine lv_iconst (v := 3) hx hb d_Se_run_32 (by decide) ?_
  refine lv_icmp_ne (tgt := 49) hx hb d_Se_run_33 (by decide) (fun hc => ?_) (fun hc => ?_)
  · have hw := hw.1 hc
    refine lv_iconst (v := 0) hx hb d_Se_run_49 (by decide) ?_
    exact w_Se_run_50 C hr  v1 x2 x1 0 hw _ _ _ (wn_eq w rfl) (lv_sub hl [0, 1] rfl)
  · have hw := hw.2 hc
    refine lv_aload_n hx hb d_Se_run_36 rfl (lv_at hl 0 rfl) ?_
    refine kg (C1 := R_Se) (T := F_Se) (N := 10) (ci := 7) (ref := "LineBreaker$Search") (v := .ref (ad 11)) C w 29 1 iw_Se rfl rfl (by decide) kw_295 rfl rfl d_Se_run_37 ?_
    refine kg (C1 := R_St) (T := F_St) (N := 5) (ci := 8) (ref := "LineBreaker$Settings") (v := .ref (ad 12)) C w 11 0 iw_St rfl rfl (by decide) kw_111 rfl rfl d_Se_run_40 ?_
    refine lv_bipush (v := 8) hx hb d_Se_run_43 (by decide) ?_
    refine ka_i (f := (S.1 12)) C w 12 rfl hw.1 d_Se_run_45 ?_
    have hw := hw.2
    refine lv_goto (tgt := 50) hx hb d_Se_run_46 (by decide) ?_
    exact w_Se_run_50 C hr  v1 x2 x1 ((S.1 12) (8 : Int32).toNatClampNeg) hw _ _ _ (wn_eq w rfl) (lv_sub hl [0, 1] rfl)
set_option maxHeartbeats 4000000 in
set_option maxRecDepth 100000 in
theorem c_Se_run (l : Launch) (n0 : Nat) (G : va_G) (K : KT) (ad : Nat → Nat) (X : va_W) (S : ST) (p1 : Int32) (p2 : Int32) (post : Int32 → (Nat → Int32) → (Nat → Int32) → (Nat → Int32) → (Nat → Int32) → (Nat → Int32) → (Nat → Int32) → (Nat → Int64) → (Nat → Int64) → Int32 → Int32 → Int32 → Int32 → Int32 → Int32 → Int32 → Int32 → Int32 → Int32 → Int32 → Int32 → Int32 → Int32 → Prop) (hw : wp_Se_run S p1 p2 post) : Met l y_Se_run (Cond.code y_Se_run prog_9_method_2_code 4 (some .int) :: gw) rm_Se_run (va_Pc [.ref (ad 29), .int p1, .int p2] (wb n0 G K (wC K ad S ++ X))) (va_Qi (fun r (u : (Nat → Int32) × (Nat → Int32) × (Nat → Int32) × (Nat → Int32) × (Nat → Int32) × (Nat → Int32) × (Nat → Int64) × (Nat → Int64) × Int32 × Int32 × Int32 × Int32 × Int32 × Int32 × Int32 × Int32 × Int32 × Int32 × Int32 × Int32 × Int32 × Int32) => post r u.1 u.2.1 u.2.2.1 u.2.2.2.1 u.2.2.2.2.1 u.2.2.2.2.2.1 u.2.2.2.2.2.2.1 u.2.2.2.2.2.2.2.1 u.2.2.2.2.2.2.2.2.1 u.2.2.2.2.2.2.2.2.2.1 u.2.2.2.2.2.2.2.2.2.2.1 u.2.2.2.2.2.2.2.2.2.2.2.1 u.2.2.2.2.2.2.2.2.2.2.2.2.1 u.2.2.2.2.2.2.2.2.2.2.2.2.2.1 u.2.2.2.2.2.2.2.2.2.2.2.2.2.2.1 u.2.2.2.2.2.2.2.2.2.2.2.2.2.2.2.1 u.2.2.2.2.2.2.2.2.2.2.2.2.2.2.2.2.1 u.2.2.2.2.2.2.2.2.2.2.2.2.2.2.2.2.2.1 u.2.2.2.2.2.2.2.2.2.2.2.2.2.2.2.2.2.2.1 u.2.2.2.2.2.2.2.2.2.2.2.2.2.2.2.2.2.2.2.1 u.2.2.2.2.2.2.2.2.2.2.2.2.2.2.2.2.2.2.2.2.1 u.2.2.2.2.2.2.2.2.2.2.2.2.2.2.2.2.2.2.2.2.2) (fun (u : (Nat → Int32) × (Nat → Int32) × (Nat → Int32) × (Nat → Int32) × (Nat → Int32) × (Nat → Int32) × (Nat → Int64) × (Nat → Int64) × Int32 × Int32 × Int32 × Int32 × Int32 × Int32 × Int32 × Int32 × Int32 × Int32 × Int32 × Int32 × Int32 × Int32) t => we n0 G (wC K ad (sI (sI (sI (sI (sI (sI (sI (sI (sI (sI (sI (sI (sI (sI (sL (sL (sA (sA (sA (sA (sA (sA S 32 u.1) 33 u.2.1) 34 u.2.2.1) 35 u.2.2.2.1) 39 u.2.2.2.2.1) 40 u.2.2.2.2.2.1) 36 u.2.2.2.2.2.2.1) 38 u.2.2.2.2.2.2.2.1) 1862 u.2.2.2.2.2.2.2.2.1) 1863 u.2.2.2.2.2.2.2.2.2.1) 1864 u.2.2.2.2.2.2.2.2.2.2.1) 1865 u.2.2.2.2.2.2.2.2.2.2.2.1) 1922 u.2.2.2.2.2.2.2.2.2.2.2.2.1) 1923 u.2.2.2.2.2.2.2.2.2.2.2.2.2.1) 1924 u.2.2.2.2.2.2.2.2.2.2.2.2.2.2.1) 1925 u.2.2.2.2.2.2.2.2.2.2.2.2.2.2.2.1) 1926 u.2.2.2.2.2.2.2.2.2.2.2.2.2.2.2.2.1) 1927 u.2.2.2.2.2.2.2.2.2.2.2.2.2.2.2.2.2.1) 1928 u.2.2.2.2.2.2.2.2.2.2.2.2.2.2.2.2.2.2.1) 1989 u.2.2.2.2.2.2.2.2.2.2.2.2.2.2.2.2.2.2.2.1) 2370 u.2.2.2.2.2.2.2.2.2.2.2.2.2.2.2.2.2.2.2.2.1) 2371 u.2.2.2.2.2.2.2.2.2.2.2.2.2.2.2.2.2.2.2.2.2) ++ X) t) (al n0)) 0 0 (al n0) := by
  refine kb_start (own := "LineBreaker$Search") (by decide +kernel) rfl ?_
  intro p e s m below meth c C hr hne w
  have hx := C.1
  have hb := C.2.1
  have hts := C.2.2.2.2.1
  have hl := lv_entry ([.ref (ad 29), .int p1, .int p2]) (n := 4) (Nat.le_of_ble_eq_true rfl)
  rw [lg_entry_eq]
  generalize (lg_sl ([.ref (ad 29), .int p1, .int p2]) ++ List.replicate (4 - (lg_sl ([.ref (ad 29), .int p1, .int p2])).length) Slot.unset).toArray = ls at hl ⊢
  have hl : lv_has ls 4 [(0, .ref (ad 29)), (1, .int p1), (2, .int p2)] := hl
  unfold wp_Se_run at hw
  refine lv_aload_n hx hb d_Se_run_0 rfl (lv_at hl 0 rfl) ?_
  refine lv_aload_n hx hb d_Se_run_1 rfl (lv_at hl 0 rfl) ?_
  refine kg (C1 := R_Se) (T := F_Se) (N := 10) (ci := 7) (ref := "LineBreaker$Search") (v := .ref (ad 11)) C w 29 1 iw_Se rfl rfl (by decide) kw_295 rfl rfl d_Se_run_2 ?_
  refine kg (C1 := R_St) (T := F_St) (N := 5) (ci := 8) (ref := "LineBreaker$Settings") (v := .ref (ad 12)) C w 11 0 iw_St rfl rfl (by decide) kw_111 rfl rfl d_Se_run_5 ?_
  refine lv_iload_n hx hb d_Se_run_8 rfl (lv_at hl 1 rfl) ?_
  refine lv_iconst (v := 1) hx hb d_Se_run_9 (by decide) ?_
  refine lv_icmp_ne (tgt := 17) hx hb d_Se_run_10 (by decide) (fun hc => ?_) (fun hc => ?_)
  · have hw := hw.1 hc
    refine lv_iconst (v := 1) hx hb d_Se_run_17 (by decide) ?_
    exact w_Se_run_18 C hr  p1 p2 1 hw _ _ _ (wn_eq w rfl) (lv_sub hl [0, 1, 2] rfl)
  · have hw := hw.2 hc
    refine lv_iconst (v := 0) hx hb d_Se_run_13 (by decide) ?_
    refine lv_goto (tgt := 18) hx hb d_Se_run_14 (by decide) ?_
    exact w_Se_run_18 C hr  p1 p2 0 hw _ _ _ (wn_eq w rfl) (lv_sub hl [0, 1, 2] rfl)
end
