section
-- ===== PART A: goes FIRST, ahead of the names: the tables' words, and 'selects' of the private methods out of them =====
/-- a private method of a class that the tables say can be made, by its rows of tables_1 -/
def lw_okq (q : MethodName × Nat) : Prop := (q.1.cls ≠ "java/lang/invoke/MethodHandle" ∧ q.1.cls ≠ "java/lang/invoke/VarHandle") ∧ Cond.instantiable q.1.cls q.2 ∈ tables_1 ∧ Cond.privateMethod q.1 ∈ tables_1 ∧ Cond.instanceMethod q.1 ∈ tables_1
theorem lw_p0 : lw_okq (⟨"java/lang/Throwable", "fillInStackTrace", "(I)Ljava/lang/Throwable;"⟩, 6) := ⟨⟨by decide +kernel, by decide +kernel⟩, List.mem_of_getElem? (i := 449) (by decide +kernel), List.mem_of_getElem? (i := 447) (by decide +kernel), List.mem_of_getElem? (i := 448) (by decide +kernel)⟩
theorem lw_p1 : lw_okq (⟨"LineBreaker", "requireRoom", "()V"⟩, 5) := ⟨⟨by decide +kernel, by decide +kernel⟩, List.mem_of_getElem? (i := 22) (by decide +kernel), List.mem_of_getElem? (i := 479) (by decide +kernel), List.mem_of_getElem? (i := 480) (by decide +kernel)⟩
theorem lw_p2 : lw_okq (⟨"LineBreaker", "requireNotReplaced", "()V"⟩, 5) := ⟨⟨by decide +kernel, by decide +kernel⟩, List.mem_of_getElem? (i := 22) (by decide +kernel), List.mem_of_getElem? (i := 517) (by decide +kernel), List.mem_of_getElem? (i := 518) (by decide +kernel)⟩
theorem lw_p3 : lw_okq (⟨"LineBreaker", "sumsAreSizes", "()Z"⟩, 5) := ⟨⟨by decide +kernel, by decide +kernel⟩, List.mem_of_getElem? (i := 22) (by decide +kernel), List.mem_of_getElem? (i := 629) (by decide +kernel), List.mem_of_getElem? (i := 630) (by decide +kernel)⟩
theorem lw_p4 : lw_okq (⟨"LineBreaker$Galley", "copyItems", "(LLineBreaker$Paragraph;LLineBreaker$Settings;I)V"⟩, 12) := ⟨⟨by decide +kernel, by decide +kernel⟩, List.mem_of_getElem? (i := 137) (by decide +kernel), List.mem_of_getElem? (i := 674) (by decide +kernel), List.mem_of_getElem? (i := 675) (by decide +kernel)⟩
theorem lw_p5 : lw_okq (⟨"LineBreaker$Galley", "close", "(I)V"⟩, 12) := ⟨⟨by decide +kernel, by decide +kernel⟩, List.mem_of_getElem? (i := 137) (by decide +kernel), List.mem_of_getElem? (i := 680) (by decide +kernel), List.mem_of_getElem? (i := 681) (by decide +kernel)⟩
theorem lw_p6 : lw_okq (⟨"LineBreaker$Galley", "sumUp", "(LLineBreaker$Paragraph;LLineBreaker$Glue;I)V"⟩, 12) := ⟨⟨by decide +kernel, by decide +kernel⟩, List.mem_of_getElem? (i := 137) (by decide +kernel), List.mem_of_getElem? (i := 684) (by decide +kernel), List.mem_of_getElem? (i := 685) (by decide +kernel)⟩
theorem lw_p7 : lw_okq (⟨"LineBreaker$Galley", "markPlaces", "(LLineBreaker$Paragraph;I)V"⟩, 12) := ⟨⟨by decide +kernel, by decide +kernel⟩, List.mem_of_getElem? (i := 137) (by decide +kernel), List.mem_of_getElem? (i := 696) (by decide +kernel), List.mem_of_getElem? (i := 697) (by decide +kernel)⟩
theorem lw_p8 : lw_okq (⟨"LineBreaker$Galley", "mayBreak", "(II)Z"⟩, 12) := ⟨⟨by decide +kernel, by decide +kernel⟩, List.mem_of_getElem? (i := 137) (by decide +kernel), List.mem_of_getElem? (i := 700) (by decide +kernel), List.mem_of_getElem? (i := 701) (by decide +kernel)⟩
theorem lw_p9 : lw_okq (⟨"LineBreaker$Galley", "findFirstOnes", "(LLineBreaker$Paragraph;I)V"⟩, 12) := ⟨⟨by decide +kernel, by decide +kernel⟩, List.mem_of_getElem? (i := 137) (by decide +kernel), List.mem_of_getElem? (i := 704) (by decide +kernel), List.mem_of_getElem? (i := 705) (by decide +kernel)⟩
theorem lw_p10 : lw_okq (⟨"LineBreaker$Search", "visit", "(I)Z"⟩, 10) := ⟨⟨by decide +kernel, by decide +kernel⟩, List.mem_of_getElem? (i := 188) (by decide +kernel), List.mem_of_getElem? (i := 735) (by decide +kernel), List.mem_of_getElem? (i := 736) (by decide +kernel)⟩
theorem lw_p11 : lw_okq (⟨"LineBreaker$Gauge", "judgeStretched", "(II)V"⟩, 9) := ⟨⟨by decide +kernel, by decide +kernel⟩, List.mem_of_getElem? (i := 194) (by decide +kernel), List.mem_of_getElem? (i := 762) (by decide +kernel), List.mem_of_getElem? (i := 763) (by decide +kernel)⟩
theorem lw_p12 : lw_okq (⟨"LineBreaker$Gauge", "judgeShrunk", "(I)V"⟩, 9) := ⟨⟨by decide +kernel, by decide +kernel⟩, List.mem_of_getElem? (i := 194) (by decide +kernel), List.mem_of_getElem? (i := 773) (by decide +kernel), List.mem_of_getElem? (i := 774) (by decide +kernel)⟩
theorem lw_p13 : lw_okq (⟨"LineBreaker$Search", "demerits", "(II)J"⟩, 10) := ⟨⟨by decide +kernel, by decide +kernel⟩, List.mem_of_getElem? (i := 188) (by decide +kernel), List.mem_of_getElem? (i := 777) (by decide +kernel), List.mem_of_getElem? (i := 778) (by decide +kernel)⟩
theorem lw_p14 : lw_okq (⟨"LineBreaker$Search", "offerFrom", "(IJ)V"⟩, 10) := ⟨⟨by decide +kernel, by decide +kernel⟩, List.mem_of_getElem? (i := 188) (by decide +kernel), List.mem_of_getElem? (i := 789) (by decide +kernel), List.mem_of_getElem? (i := 790) (by decide +kernel)⟩
theorem lw_p15 : lw_okq (⟨"LineBreaker$Search", "settle", "(I)Z"⟩, 10) := ⟨⟨by decide +kernel, by decide +kernel⟩, List.mem_of_getElem? (i := 188) (by decide +kernel), List.mem_of_getElem? (i := 803) (by decide +kernel), List.mem_of_getElem? (i := 804) (by decide +kernel)⟩
def lw_privs_1 : List (MethodName × Nat) := [(⟨"java/lang/Throwable", "fillInStackTrace", "(I)Ljava/lang/Throwable;"⟩, 6), (⟨"LineBreaker", "requireRoom", "()V"⟩, 5), (⟨"LineBreaker", "requireNotReplaced", "()V"⟩, 5), (⟨"LineBreaker", "sumsAreSizes", "()Z"⟩, 5), (⟨"LineBreaker$Galley", "copyItems", "(LLineBreaker$Paragraph;LLineBreaker$Settings;I)V"⟩, 12), (⟨"LineBreaker$Galley", "close", "(I)V"⟩, 12), (⟨"LineBreaker$Galley", "sumUp", "(LLineBreaker$Paragraph;LLineBreaker$Glue;I)V"⟩, 12), (⟨"LineBreaker$Galley", "markPlaces", "(LLineBreaker$Paragraph;I)V"⟩, 12), (⟨"LineBreaker$Galley", "mayBreak", "(II)Z"⟩, 12), (⟨"LineBreaker$Galley", "findFirstOnes", "(LLineBreaker$Paragraph;I)V"⟩, 12), (⟨"LineBreaker$Search", "visit", "(I)Z"⟩, 10), (⟨"LineBreaker$Gauge", "judgeStretched", "(II)V"⟩, 9), (⟨"LineBreaker$Gauge", "judgeShrunk", "(I)V"⟩, 9), (⟨"LineBreaker$Search", "demerits", "(II)J"⟩, 10), (⟨"LineBreaker$Search", "offerFrom", "(IJ)V"⟩, 10), (⟨"LineBreaker$Search", "settle", "(I)Z"⟩, 10)]
theorem lw_r1 : ∀ q ∈ lw_privs_1, lw_okq q := List.forall_mem_cons.mpr ⟨lw_p0, List.forall_mem_cons.mpr ⟨lw_p1, List.forall_mem_cons.mpr ⟨lw_p2, List.forall_mem_cons.mpr ⟨lw_p3, List.forall_mem_cons.mpr ⟨lw_p4, List.forall_mem_cons.mpr ⟨lw_p5, List.forall_mem_cons.mpr ⟨lw_p6, List.forall_mem_cons.mpr ⟨lw_p7, List.forall_mem_cons.mpr ⟨lw_p8, List.forall_mem_cons.mpr ⟨lw_p9, List.forall_mem_cons.mpr ⟨lw_p10, List.forall_mem_cons.mpr ⟨lw_p11, List.forall_mem_cons.mpr ⟨lw_p12, List.forall_mem_cons.mpr ⟨lw_p13, List.forall_mem_cons.mpr ⟨lw_p14, List.forall_mem_cons.mpr ⟨lw_p15, fun _ h => absurd h List.not_mem_nil⟩⟩⟩⟩⟩⟩⟩⟩⟩⟩⟩⟩⟩⟩⟩⟩
theorem lw_p16 : lw_okq (⟨"LineBreaker$Search", "choose", "()I"⟩, 10) := ⟨⟨by decide +kernel, by decide +kernel⟩, List.mem_of_getElem? (i := 188) (by decide +kernel), List.mem_of_getElem? (i := 815) (by decide +kernel), List.mem_of_getElem? (i := 816) (by decide +kernel)⟩
theorem lw_p17 : lw_okq (⟨"LineBreaker$Search", "isPreferred", "(IIII)Z"⟩, 10) := ⟨⟨by decide +kernel, by decide +kernel⟩, List.mem_of_getElem? (i := 188) (by decide +kernel), List.mem_of_getElem? (i := 823) (by decide +kernel), List.mem_of_getElem? (i := 824) (by decide +kernel)⟩
theorem lw_p18 : lw_okq (⟨"LineBreaker", "requireLine", "(I)V"⟩, 5) := ⟨⟨by decide +kernel, by decide +kernel⟩, List.mem_of_getElem? (i := 22) (by decide +kernel), List.mem_of_getElem? (i := 843) (by decide +kernel), List.mem_of_getElem? (i := 844) (by decide +kernel)⟩
theorem lw_p19 : lw_okq (⟨"LineBreakerModel", "append", "(IIIIIII)I"⟩, 43) := ⟨⟨by decide +kernel, by decide +kernel⟩, List.mem_of_getElem? (i := 871) (by decide +kernel), List.mem_of_getElem? (i := 1021) (by decide +kernel), List.mem_of_getElem? (i := 1022) (by decide +kernel)⟩
theorem lw_p20 : lw_okq (⟨"LineBreakerModel", "replacer", "(I)I"⟩, 43) := ⟨⟨by decide +kernel, by decide +kernel⟩, List.mem_of_getElem? (i := 871) (by decide +kernel), List.mem_of_getElem? (i := 1036) (by decide +kernel), List.mem_of_getElem? (i := 1037) (by decide +kernel)⟩
theorem lw_p21 : lw_okq (⟨"LineBreakerModel", "fitsInSizes", "()Z"⟩, 43) := ⟨⟨by decide +kernel, by decide +kernel⟩, List.mem_of_getElem? (i := 871) (by decide +kernel), List.mem_of_getElem? (i := 1088) (by decide +kernel), List.mem_of_getElem? (i := 1089) (by decide +kernel)⟩
theorem lw_p22 : lw_okq (⟨"LineBreakerModel", "make", "()Z"⟩, 43) := ⟨⟨by decide +kernel, by decide +kernel⟩, List.mem_of_getElem? (i := 871) (by decide +kernel), List.mem_of_getElem? (i := 1095) (by decide +kernel), List.mem_of_getElem? (i := 1096) (by decide +kernel)⟩
theorem lw_p23 : lw_okq (⟨"LineBreakerModel", "isPlace", "(I)Z"⟩, 43) := ⟨⟨by decide +kernel, by decide +kernel⟩, List.mem_of_getElem? (i := 871) (by decide +kernel), List.mem_of_getElem? (i := 1099) (by decide +kernel), List.mem_of_getElem? (i := 1100) (by decide +kernel)⟩
theorem lw_p24 : lw_okq (⟨"LineBreakerModel", "fine", "(I)I"⟩, 43) := ⟨⟨by decide +kernel, by decide +kernel⟩, List.mem_of_getElem? (i := 871) (by decide +kernel), List.mem_of_getElem? (i := 1103) (by decide +kernel), List.mem_of_getElem? (i := 1104) (by decide +kernel)⟩
theorem lw_p25 : lw_okq (⟨"LineBreakerModel", "ask", "(I)Z"⟩, 43) := ⟨⟨by decide +kernel, by decide +kernel⟩, List.mem_of_getElem? (i := 871) (by decide +kernel), List.mem_of_getElem? (i := 1107) (by decide +kernel), List.mem_of_getElem? (i := 1108) (by decide +kernel)⟩
theorem lw_p26 : lw_okq (⟨"LineBreakerModel", "measure", "(II)V"⟩, 43) := ⟨⟨by decide +kernel, by decide +kernel⟩, List.mem_of_getElem? (i := 871) (by decide +kernel), List.mem_of_getElem? (i := 1111) (by decide +kernel), List.mem_of_getElem? (i := 1112) (by decide +kernel)⟩
theorem lw_p27 : lw_okq (⟨"LineBreakerModel", "addGlue", "(IIII)V"⟩, 43) := ⟨⟨by decide +kernel, by decide +kernel⟩, List.mem_of_getElem? (i := 871) (by decide +kernel), List.mem_of_getElem? (i := 1115) (by decide +kernel), List.mem_of_getElem? (i := 1116) (by decide +kernel)⟩
theorem lw_p28 : lw_okq (⟨"LineBreakerModel", "isHyphen", "(I)Z"⟩, 43) := ⟨⟨by decide +kernel, by decide +kernel⟩, List.mem_of_getElem? (i := 871) (by decide +kernel), List.mem_of_getElem? (i := 1119) (by decide +kernel), List.mem_of_getElem? (i := 1120) (by decide +kernel)⟩
theorem lw_p29 : lw_okq (⟨"LineBreakerModel", "firstOf", "(I)I"⟩, 43) := ⟨⟨by decide +kernel, by decide +kernel⟩, List.mem_of_getElem? (i := 871) (by decide +kernel), List.mem_of_getElem? (i := 1123) (by decide +kernel), List.mem_of_getElem? (i := 1124) (by decide +kernel)⟩
theorem lw_p30 : lw_okq (⟨"LineBreakerModel", "isDropped", "(I)Z"⟩, 43) := ⟨⟨by decide +kernel, by decide +kernel⟩, List.mem_of_getElem? (i := 871) (by decide +kernel), List.mem_of_getElem? (i := 1127) (by decide +kernel), List.mem_of_getElem? (i := 1128) (by decide +kernel)⟩
theorem lw_p31 : lw_okq (⟨"LineBreakerModel", "judge", "(I)V"⟩, 43) := ⟨⟨by decide +kernel, by decide +kernel⟩, List.mem_of_getElem? (i := 871) (by decide +kernel), List.mem_of_getElem? (i := 1131) (by decide +kernel), List.mem_of_getElem? (i := 1132) (by decide +kernel)⟩
def lw_privs_2 : List (MethodName × Nat) := [(⟨"LineBreaker$Search", "choose", "()I"⟩, 10), (⟨"LineBreaker$Search", "isPreferred", "(IIII)Z"⟩, 10), (⟨"LineBreaker", "requireLine", "(I)V"⟩, 5), (⟨"LineBreakerModel", "append", "(IIIIIII)I"⟩, 43), (⟨"LineBreakerModel", "replacer", "(I)I"⟩, 43), (⟨"LineBreakerModel", "fitsInSizes", "()Z"⟩, 43), (⟨"LineBreakerModel", "make", "()Z"⟩, 43), (⟨"LineBreakerModel", "isPlace", "(I)Z"⟩, 43), (⟨"LineBreakerModel", "fine", "(I)I"⟩, 43), (⟨"LineBreakerModel", "ask", "(I)Z"⟩, 43), (⟨"LineBreakerModel", "measure", "(II)V"⟩, 43), (⟨"LineBreakerModel", "addGlue", "(IIII)V"⟩, 43), (⟨"LineBreakerModel", "isHyphen", "(I)Z"⟩, 43), (⟨"LineBreakerModel", "firstOf", "(I)I"⟩, 43), (⟨"LineBreakerModel", "isDropped", "(I)Z"⟩, 43), (⟨"LineBreakerModel", "judge", "(I)V"⟩, 43)]
theorem lw_r2 : ∀ q ∈ lw_privs_2, lw_okq q := List.forall_mem_cons.mpr ⟨lw_p16, List.forall_mem_cons.mpr ⟨lw_p17, List.forall_mem_cons.mpr ⟨lw_p18, List.forall_mem_cons.mpr ⟨lw_p19, List.forall_mem_cons.mpr ⟨lw_p20, List.forall_mem_cons.mpr ⟨lw_p21, List.forall_mem_cons.mpr ⟨lw_p22, List.forall_mem_cons.mpr ⟨lw_p23, List.forall_mem_cons.mpr ⟨lw_p24, List.forall_mem_cons.mpr ⟨lw_p25, List.forall_mem_cons.mpr ⟨lw_p26, List.forall_mem_cons.mpr ⟨lw_p27, List.forall_mem_cons.mpr ⟨lw_p28, List.forall_mem_cons.mpr ⟨lw_p29, List.forall_mem_cons.mpr ⟨lw_p30, List.forall_mem_cons.mpr ⟨lw_p31, fun _ h => absurd h List.not_mem_nil⟩⟩⟩⟩⟩⟩⟩⟩⟩⟩⟩⟩⟩⟩⟩⟩
theorem lw_p32 : lw_okq (⟨"LineBreakerModel", "reach", "(III)Z"⟩, 43) := ⟨⟨by decide +kernel, by decide +kernel⟩, List.mem_of_getElem? (i := 871) (by decide +kernel), List.mem_of_getElem? (i := 1144) (by decide +kernel), List.mem_of_getElem? (i := 1145) (by decide +kernel)⟩
theorem lw_p33 : lw_okq (⟨"LineBreakerModel", "demerits", "(II)J"⟩, 43) := ⟨⟨by decide +kernel, by decide +kernel⟩, List.mem_of_getElem? (i := 871) (by decide +kernel), List.mem_of_getElem? (i := 1148) (by decide +kernel), List.mem_of_getElem? (i := 1149) (by decide +kernel)⟩
theorem lw_p34 : lw_okq (⟨"LineBreakerModel", "write", "(IIIJ)V"⟩, 43) := ⟨⟨by decide +kernel, by decide +kernel⟩, List.mem_of_getElem? (i := 871) (by decide +kernel), List.mem_of_getElem? (i := 1155) (by decide +kernel), List.mem_of_getElem? (i := 1156) (by decide +kernel)⟩
theorem lw_p35 : lw_okq (⟨"LineBreakerModel", "isBefore", "(II)Z"⟩, 43) := ⟨⟨by decide +kernel, by decide +kernel⟩, List.mem_of_getElem? (i := 871) (by decide +kernel), List.mem_of_getElem? (i := 1159) (by decide +kernel), List.mem_of_getElem? (i := 1160) (by decide +kernel)⟩
theorem lw_p36 : lw_okq (⟨"LineBreakerModel", "choose", "()I"⟩, 43) := ⟨⟨by decide +kernel, by decide +kernel⟩, List.mem_of_getElem? (i := 871) (by decide +kernel), List.mem_of_getElem? (i := 1163) (by decide +kernel), List.mem_of_getElem? (i := 1164) (by decide +kernel)⟩
theorem lw_p37 : lw_okq (⟨"LineBreakerModel", "isLess", "(II)Z"⟩, 43) := ⟨⟨by decide +kernel, by decide +kernel⟩, List.mem_of_getElem? (i := 871) (by decide +kernel), List.mem_of_getElem? (i := 1167) (by decide +kernel), List.mem_of_getElem? (i := 1168) (by decide +kernel)⟩
theorem lw_p38 : lw_okq (⟨"LineBreakerModel", "tell", "(I)I"⟩, 43) := ⟨⟨by decide +kernel, by decide +kernel⟩, List.mem_of_getElem? (i := 871) (by decide +kernel), List.mem_of_getElem? (i := 1174) (by decide +kernel), List.mem_of_getElem? (i := 1175) (by decide +kernel)⟩
theorem lw_p39 : lw_okq (⟨"LineBreakerModel", "isLine", "(I)Z"⟩, 43) := ⟨⟨by decide +kernel, by decide +kernel⟩, List.mem_of_getElem? (i := 871) (by decide +kernel), List.mem_of_getElem? (i := 1190) (by decide +kernel), List.mem_of_getElem? (i := 1191) (by decide +kernel)⟩
def lw_privs_3 : List (MethodName × Nat) := [(⟨"LineBreakerModel", "reach", "(III)Z"⟩, 43), (⟨"LineBreakerModel", "demerits", "(II)J"⟩, 43), (⟨"LineBreakerModel", "write", "(IIIJ)V"⟩, 43), (⟨"LineBreakerModel", "isBefore", "(II)Z"⟩, 43), (⟨"LineBreakerModel", "choose", "()I"⟩, 43), (⟨"LineBreakerModel", "isLess", "(II)Z"⟩, 43), (⟨"LineBreakerModel", "tell", "(I)I"⟩, 43), (⟨"LineBreakerModel", "isLine", "(I)Z"⟩, 43)]
theorem lw_r3 : ∀ q ∈ lw_privs_3, lw_okq q := List.forall_mem_cons.mpr ⟨lw_p32, List.forall_mem_cons.mpr ⟨lw_p33, List.forall_mem_cons.mpr ⟨lw_p34, List.forall_mem_cons.mpr ⟨lw_p35, List.forall_mem_cons.mpr ⟨lw_p36, List.forall_mem_cons.mpr ⟨lw_p37, List.forall_mem_cons.mpr ⟨lw_p38, List.forall_mem_cons.mpr ⟨lw_p39, fun _ h => absurd h List.not_mem_nil⟩⟩⟩⟩⟩⟩⟩⟩
def lw_privs : List (MethodName × Nat) := lw_privs_1 ++ (lw_privs_2 ++ (lw_privs_3))
def lw_tbl : List Cond := k2_sels lw_privs ++ tables_1
theorem lw_privs_ok : ∀ q ∈ lw_privs, lw_okq q := by
  show ∀ q ∈ lw_privs_1 ++ (lw_privs_2 ++ (lw_privs_3)), lw_okq q
  exact List.forall_mem_append.mpr ⟨lw_r1, List.forall_mem_append.mpr ⟨lw_r2, lw_r3⟩⟩
-- ===== end of PART A; then your names; then what follows =====
end
section
/-! the rows that all methods share: the words, the world, calls -/
def gw : List Cond := lw_tbl.filter goodWord
theorem gw_of {w : Cond} (h : w ∈ lw_tbl) (g : goodWord w = true) : w ∈ gw := List.mem_filter.mpr ⟨h, g⟩
theorem gw_t {w : Cond} (h : w ∈ tables_1) (g : goodWord w = true) : w ∈ gw := gw_of (List.mem_append_right _ h) g
theorem gw_s {w : Cond} (h : w ∈ k2_sels lw_privs) (g : goodWord w = true) : w ∈ gw := gw_of (List.mem_append_left _ h) g
theorem gw_ok {w : Cond} (h : w ∈ gw) : w ∈ gw ∧ ((w.onTables && w.keeps) = true ∨ ∃ ty, w = .arrayClass ty) := ⟨h, good_of_word (List.mem_filter.mp h).2⟩
theorem gw_cons {c : Cond} (hc : c ∈ gw) : GoodIn gw (c :: gw) := fun w h => (List.mem_cons.mp h).elim (fun e => by rw [e]; exact gw_ok hc) gw_ok
theorem gw_V {own C : String} {idx : Nat} {y : MethodName} {c : Cond} (h1 : Cond.methodLink own idx y ∈ gw) (h2 : Cond.instanceMethod y ∈ gw) (h3 : Cond.selects C y y ∈ gw) (h4 : Cond.initialized C ∈ gw) (h5 : c ∈ gw) : GoodIn gw (wsV own idx C y (c :: gw)) := by
  intro w h
  rcases List.mem_append.mp h with h | h
  · simp only [List.mem_cons, List.not_mem_nil, or_false] at h
    rcases h with rfl | rfl | rfl | rfl
    · exact gw_ok h1
    · exact gw_ok h2
    · exact gw_ok h3
    · exact gw_ok h4
  · exact gw_cons h5 w h
theorem gw_S {own : String} {idx : Nat} {y : MethodName} {c : Cond} (h1 : Cond.methodLink own idx y ∈ gw) (h2 : Cond.static y ∈ gw) (h4 : Cond.initialized y.cls ∈ gw) (h5 : c ∈ gw) : GoodIn gw (va_wsS own idx y (c :: gw)) := by
  intro w h
  rcases List.mem_append.mp h with h | h
  · simp only [List.mem_cons, List.not_mem_nil, or_false] at h
    rcases h with rfl | rfl | rfl
    · exact gw_ok h1
    · exact gw_ok h2
    · exact gw_ok h4
  · exact gw_cons h5 w h
theorem in_ps {ws : List Cond} (ps : List Nat) (h : ws = ps.filterMap (fun i => tables_1[i]?)) (g : ws.all goodWord = true) : ∀ w ∈ ws, w ∈ gw := by
  intro w hw
  have h1 := List.all_eq_true.mp g w hw
  rw [h] at hw
  obtain ⟨i, -, hi⟩ := List.mem_filterMap.mp hw
  exact gw_t (List.mem_of_getElem? hi) h1
end
section
def R_Ga : String := "LineBreaker$Galley"
def F_Ga : u_T := fun k => match k with
  | 0 => ("LineBreaker$Galley", "kind", "[I", true)
  | 1 => ("LineBreaker$Galley", "penalty", "[I", true)
  | 2 => ("LineBreaker$Galley", "breakable", "[Z", true)
  | 3 => ("LineBreaker$Galley", "first", "[I", true)
  | 4 => ("LineBreaker$Galley", "before", "[I", true)
  | 5 => ("LineBreaker$Galley", "behind", "[I", true)
  | 6 => ("LineBreaker$Galley", "widthUpTo", "[I", true)
  | 7 => ("LineBreaker$Galley", "finiteUpTo", "[I", true)
  | 8 => ("LineBreaker$Galley", "endlessUpTo", "[I", true)
  | 9 => ("LineBreaker$Galley", "shrinkUpTo", "[I", true)
  | 10 => ("LineBreaker$Galley", "nextKept", "[I", true)
  | _ => ("LineBreaker$Galley", "last", "I", false)
def t_Ga : Nat → FieldType := fun k => match k with
  | 0 => .array .int
  | 1 => .array .int
  | 2 => .array .boolean
  | 3 => .array .int
  | 4 => .array .int
  | 5 => .array .int
  | 6 => .array .int
  | 7 => .array .int
  | 8 => .array .int
  | 9 => .array .int
  | 10 => .array .int
  | _ => .int
theorem n_Ga : ∀ a, a < 12 → ∀ b, b < 12 → a ≠ b → (F_Ga a).2.1 ≠ (F_Ga b).2.1 := by decide +kernel
theorem tk_Ga : ∀ k, k < 12 → parseFieldDescriptor (F_Ga k).2.2.1 = some (t_Ga k) := by decide +kernel
theorem iw_Ga : ∀ w ∈ u_ws R_Ga F_Ga 12, w ∈ gw := in_ps [161, 163, 165, 167, 169, 171, 173, 175, 177, 179, 181, 183] (by decide +kernel) (by decide +kernel)
def R_Gu : String := "LineBreaker$Gauge"
def F_Gu : u_T := fun k => match k with
  | 0 => ("LineBreaker$Gauge", "galley", "LLineBreaker$Galley;", true)
  | 1 => ("LineBreaker$Gauge", "settings", "LLineBreaker$Settings;", true)
  | 2 => ("LineBreaker$Gauge", "moreStretch", "I", false)
  | 3 => ("LineBreaker$Gauge", "shortfall", "I", false)
  | 4 => ("LineBreaker$Gauge", "badness", "I", false)
  | 5 => ("LineBreaker$Gauge", "fit", "I", false)
  | 6 => ("LineBreaker$Gauge", "knownFrom", "I", false)
  | 7 => ("LineBreaker$Gauge", "knownTo", "I", false)
  | _ => ("LineBreaker$Gauge", "knownWidth", "I", false)
def t_Gu : Nat → FieldType := fun k => match k with
  | 0 => .object "LineBreaker$Galley"
  | 1 => .object "LineBreaker$Settings"
  | 2 => .int
  | 3 => .int
  | 4 => .int
  | 5 => .int
  | 6 => .int
  | 7 => .int
  | _ => .int
theorem n_Gu : ∀ a, a < 9 → ∀ b, b < 9 → a ≠ b → (F_Gu a).2.1 ≠ (F_Gu b).2.1 := by decide +kernel
theorem tk_Gu : ∀ k, k < 9 → parseFieldDescriptor (F_Gu k).2.2.1 = some (t_Gu k) := by decide +kernel
theorem iw_Gu : ∀ w ∈ u_ws R_Gu F_Gu 9, w ∈ gw := in_ps [213, 215, 217, 219, 221, 223, 225, 227, 229] (by decide +kernel) (by decide +kernel)
def R_Gl : String := "LineBreaker$Glue"
def F_Gl : u_T := fun k => match k with
  | 0 => ("LineBreaker$Glue", "width", "I", false)
  | 1 => ("LineBreaker$Glue", "stretch", "I", false)
  | 2 => ("LineBreaker$Glue", "order", "I", false)
  | _ => ("LineBreaker$Glue", "shrink", "I", false)
def t_Gl : Nat → FieldType := fun k => match k with
  | 0 => .int
  | 1 => .int
  | 2 => .int
  | _ => .int
theorem n_Gl : ∀ a, a < 4 → ∀ b, b < 4 → a ≠ b → (F_Gl a).2.1 ≠ (F_Gl b).2.1 := by decide +kernel
theorem tk_Gl : ∀ k, k < 4 → parseFieldDescriptor (F_Gl k).2.2.1 = some (t_Gl k) := by decide +kernel
theorem iw_Gl : ∀ w ∈ u_ws R_Gl F_Gl 4, w ∈ gw := in_ps [100, 102, 104, 106] (by decide +kernel) (by decide +kernel)
def R_No : String := "LineBreaker$Nodes"
def F_No : u_T := fun k => match k with
  | 0 => ("LineBreaker$Nodes", "place", "[I", true)
  | 1 => ("LineBreaker$Nodes", "lines", "[I", true)
  | 2 => ("LineBreaker$Nodes", "fit", "[I", true)
  | 3 => ("LineBreaker$Nodes", "former", "[I", true)
  | 4 => ("LineBreaker$Nodes", "total", "[J", true)
  | _ => ("LineBreaker$Nodes", "count", "I", false)
def t_No : Nat → FieldType := fun k => match k with
  | 0 => .array .int
  | 1 => .array .int
  | 2 => .array .int
  | 3 => .array .int
  | 4 => .array .long
  | _ => .int
theorem n_No : ∀ a, a < 6 → ∀ b, b < 6 → a ≠ b → (F_No a).2.1 ≠ (F_No b).2.1 := by decide +kernel
theorem tk_No : ∀ k, k < 6 → parseFieldDescriptor (F_No k).2.2.1 = some (t_No k) := by decide +kernel
theorem iw_No : ∀ w ∈ u_ws R_No F_No 6, w ∈ gw := in_ps [260, 262, 264, 266, 268, 270] (by decide +kernel) (by decide +kernel)
def R_Of : String := "LineBreaker$Offers"
def F_Of : u_T := fun k => match k with
  | 0 => ("LineBreaker$Offers", "total", "[J", true)
  | 1 => ("LineBreaker$Offers", "former", "[I", true)
  | 2 => ("LineBreaker$Offers", "fewest", "I", false)
  | _ => ("LineBreaker$Offers", "most", "I", false)
def t_Of : Nat → FieldType := fun k => match k with
  | 0 => .array .long
  | 1 => .array .int
  | 2 => .int
  | _ => .int
theorem n_Of : ∀ a, a < 4 → ∀ b, b < 4 → a ≠ b → (F_Of a).2.1 ≠ (F_Of b).2.1 := by decide +kernel
theorem tk_Of : ∀ k, k < 4 → parseFieldDescriptor (F_Of k).2.2.1 = some (t_Of k) := by decide +kernel
theorem iw_Of : ∀ w ∈ u_ws R_Of F_Of 4, w ∈ gw := in_ps [284, 286, 288, 290] (by decide +kernel) (by decide +kernel)
def R_Ou : String := "LineBreaker$Outcome"
def F_Ou : u_T := fun k => match k with
  | 0 => ("LineBreaker$Outcome", "facts", "[[I", true)
  | 1 => ("LineBreaker$Outcome", "totals", "[J", true)
  | 2 => ("LineBreaker$Outcome", "count", "I", false)
  | 3 => ("LineBreaker$Outcome", "passNumber", "I", false)
  | _ => ("LineBreaker$Outcome", "nodesMade", "I", false)
def t_Ou : Nat → FieldType := fun k => match k with
  | 0 => .array (.array .int)
  | 1 => .array .long
  | 2 => .int
  | 3 => .int
  | _ => .int
theorem n_Ou : ∀ a, a < 5 → ∀ b, b < 5 → a ≠ b → (F_Ou a).2.1 ≠ (F_Ou b).2.1 := by decide +kernel
theorem tk_Ou : ∀ k, k < 5 → parseFieldDescriptor (F_Ou k).2.2.1 = some (t_Ou k) := by decide +kernel
theorem iw_Ou : ∀ w ∈ u_ws R_Ou F_Ou 5, w ∈ gw := in_ps [345, 347, 349, 351, 353] (by decide +kernel) (by decide +kernel)
def R_Pa : String := "LineBreaker$Paragraph"
def F_Pa : u_T := fun k => match k with
  | 0 => ("LineBreaker$Paragraph", "kind", "[I", true)
  | 1 => ("LineBreaker$Paragraph", "width", "[I", true)
  | 2 => ("LineBreaker$Paragraph", "stretch", "[I", true)
  | 3 => ("LineBreaker$Paragraph", "order", "[I", true)
  | 4 => ("LineBreaker$Paragraph", "shrink", "[I", true)
  | 5 => ("LineBreaker$Paragraph", "penalty", "[I", true)
  | 6 => ("LineBreaker$Paragraph", "before", "[I", true)
  | 7 => ("LineBreaker$Paragraph", "behind", "[I", true)
  | 8 => ("LineBreaker$Paragraph", "replaced", "[I", true)
  | _ => ("LineBreaker$Paragraph", "count", "I", false)
def t_Pa : Nat → FieldType := fun k => match k with
  | 0 => .array .int
  | 1 => .array .int
  | 2 => .array .int
  | 3 => .array .int
  | 4 => .array .int
  | 5 => .array .int
  | 6 => .array .int
  | 7 => .array .int
  | 8 => .array .int
  | _ => .int
theorem n_Pa : ∀ a, a < 10 → ∀ b, b < 10 → a ≠ b → (F_Pa a).2.1 ≠ (F_Pa b).2.1 := by decide +kernel
theorem tk_Pa : ∀ k, k < 10 → parseFieldDescriptor (F_Pa k).2.2.1 = some (t_Pa k) := by decide +kernel
theorem iw_Pa : ∀ w ∈ u_ws R_Pa F_Pa 10, w ∈ gw := in_ps [55, 57, 59, 61, 63, 65, 67, 69, 71, 73] (by decide +kernel) (by decide +kernel)
def R_Se : String := "LineBreaker$Search"
def F_Se : u_T := fun k => match k with
  | 0 => ("LineBreaker$Search", "galley", "LLineBreaker$Galley;", true)
  | 1 => ("LineBreaker$Search", "settings", "LLineBreaker$Settings;", true)
  | 2 => ("LineBreaker$Search", "gauge", "LLineBreaker$Gauge;", true)
  | 3 => ("LineBreaker$Search", "nodes", "LLineBreaker$Nodes;", true)
  | 4 => ("LineBreaker$Search", "offers", "LLineBreaker$Offers;", true)
  | 5 => ("LineBreaker$Search", "alive", "[I", true)
  | 6 => ("LineBreaker$Search", "aliveCount", "I", false)
  | 7 => ("LineBreaker$Search", "firstAtPlace", "I", false)
  | 8 => ("LineBreaker$Search", "tolerance", "I", false)
  | _ => ("LineBreaker$Search", "isLast", "Z", false)
def t_Se : Nat → FieldType := fun k => match k with
  | 0 => .object "LineBreaker$Galley"
  | 1 => .object "LineBreaker$Settings"
  | 2 => .object "LineBreaker$Gauge"
  | 3 => .object "LineBreaker$Nodes"
  | 4 => .object "LineBreaker$Offers"
  | 5 => .array .int
  | 6 => .int
  | 7 => .int
  | 8 => .int
  | _ => .boolean
theorem n_Se : ∀ a, a < 10 → ∀ b, b < 10 → a ≠ b → (F_Se a).2.1 ≠ (F_Se b).2.1 := by decide +kernel
theorem tk_Se : ∀ k, k < 10 → parseFieldDescriptor (F_Se k).2.2.1 = some (t_Se k) := by decide +kernel
theorem iw_Se : ∀ w ∈ u_ws R_Se F_Se 10, w ∈ gw := in_ps [306, 308, 310, 312, 314, 316, 318, 320, 322, 324] (by decide +kernel) (by decide +kernel)
def R_St : String := "LineBreaker$Settings"
def F_St : u_T := fun k => match k with
  | 0 => ("LineBreaker$Settings", "values", "[I", true)
  | 1 => ("LineBreaker$Settings", "widths", "[I", true)
  | 2 => ("LineBreaker$Settings", "left", "LLineBreaker$Glue;", true)
  | 3 => ("LineBreaker$Settings", "right", "LLineBreaker$Glue;", true)
  | _ => ("LineBreaker$Settings", "fill", "LLineBreaker$Glue;", true)
def t_St : Nat → FieldType := fun k => match k with
  | 0 => .array .int
  | 1 => .array .int
  | 2 => .object "LineBreaker$Glue"
  | 3 => .object "LineBreaker$Glue"
  | _ => .object "LineBreaker$Glue"
theorem n_St : ∀ a, a < 5 → ∀ b, b < 5 → a ≠ b → (F_St a).2.1 ≠ (F_St b).2.1 := by decide +kernel
theorem tk_St : ∀ k, k < 5 → parseFieldDescriptor (F_St k).2.2.1 = some (t_St k) := by decide +kernel
theorem iw_St : ∀ w ∈ u_ws R_St F_St 5, w ∈ gw := in_ps [125, 127, 129, 131, 133] (by decide +kernel) (by decide +kernel)
def R_Lb : String := "LineBreaker"
def F_Lb : u_T := fun k => match k with
  | 0 => ("LineBreaker", "paragraph", "LLineBreaker$Paragraph;", true)
  | 1 => ("LineBreaker", "settings", "LLineBreaker$Settings;", true)
  | 2 => ("LineBreaker", "galley", "LLineBreaker$Galley;", true)
  | 3 => ("LineBreaker", "search", "LLineBreaker$Search;", true)
  | _ => ("LineBreaker", "outcome", "LLineBreaker$Outcome;", true)
def t_Lb : Nat → FieldType := fun k => match k with
  | 0 => .object "LineBreaker$Paragraph"
  | 1 => .object "LineBreaker$Settings"
  | 2 => .object "LineBreaker$Galley"
  | 3 => .object "LineBreaker$Search"
  | _ => .object "LineBreaker$Outcome"
theorem n_Lb : ∀ a, a < 5 → ∀ b, b < 5 → a ≠ b → (F_Lb a).2.1 ≠ (F_Lb b).2.1 := by decide +kernel
theorem tk_Lb : ∀ k, k < 5 → parseFieldDescriptor (F_Lb k).2.2.1 = some (t_Lb k) := by decide +kernel
theorem iw_Lb : ∀ w ∈ u_ws R_Lb F_Lb 5, w ∈ gw := in_ps [361, 363, 365, 367, 369] (by decide +kernel) (by decide +kernel)
def R_Mo : String := "LineBreakerModel"
def F_Mo : u_T := fun k => match k with
  | 0 => ("LineBreakerModel", "thrown", "I", false)
  | 1 => ("LineBreakerModel", "count", "I", false)
  | 2 => ("LineBreakerModel", "kinds", "[I", true)
  | 3 => ("LineBreakerModel", "widths", "[I", true)
  | 4 => ("LineBreakerModel", "stretches", "[I", true)
  | 5 => ("LineBreakerModel", "orders", "[I", true)
  | 6 => ("LineBreakerModel", "shrinks", "[I", true)
  | 7 => ("LineBreakerModel", "befores", "[I", true)
  | 8 => ("LineBreakerModel", "behinds", "[I", true)
  | 9 => ("LineBreakerModel", "replaces", "[I", true)
  | 10 => ("LineBreakerModel", "settings", "[I", true)
  | 11 => ("LineBreakerModel", "wide", "[I", true)
  | 12 => ("LineBreakerModel", "aroundWidth", "[I", true)
  | 13 => ("LineBreakerModel", "aroundStretch", "[I", true)
  | 14 => ("LineBreakerModel", "aroundOrder", "[I", true)
  | 15 => ("LineBreakerModel", "aroundShrink", "[I", true)
  | 16 => ("LineBreakerModel", "pass", "I", false)
  | 17 => ("LineBreakerModel", "last", "I", false)
  | 18 => ("LineBreakerModel", "tolerance", "I", false)
  | 19 => ("LineBreakerModel", "more", "I", false)
  | 20 => ("LineBreakerModel", "nodes", "I", false)
  | 21 => ("LineBreakerModel", "place", "[I", true)
  | 22 => ("LineBreakerModel", "lines", "[I", true)
  | 23 => ("LineBreakerModel", "fits", "[I", true)
  | 24 => ("LineBreakerModel", "totals", "[J", true)
  | 25 => ("LineBreakerModel", "former", "[I", true)
  | 26 => ("LineBreakerModel", "dead", "[Z", true)
  | 27 => ("LineBreakerModel", "first", "I", false)
  | 28 => ("LineBreakerModel", "width", "I", false)
  | 29 => ("LineBreakerModel", "stretch", "[I", true)
  | 30 => ("LineBreakerModel", "shrink", "I", false)
  | 31 => ("LineBreakerModel", "shortfall", "I", false)
  | 32 => ("LineBreakerModel", "badness", "I", false)
  | 33 => ("LineBreakerModel", "fit", "I", false)
  | 34 => ("LineBreakerModel", "brokenPass", "I", false)
  | 35 => ("LineBreakerModel", "brokenNodes", "I", false)
  | 36 => ("LineBreakerModel", "brokenLines", "I", false)
  | 37 => ("LineBreakerModel", "lineEnd", "[I", true)
  | 38 => ("LineBreakerModel", "lineFirst", "[I", true)
  | 39 => ("LineBreakerModel", "lineShort", "[I", true)
  | 40 => ("LineBreakerModel", "lineBad", "[I", true)
  | 41 => ("LineBreakerModel", "lineFit", "[I", true)
  | _ => ("LineBreakerModel", "lineTotal", "[J", true)
def t_Mo : Nat → FieldType := fun k => match k with
  | 0 => .int
  | 1 => .int
  | 2 => .array .int
  | 3 => .array .int
  | 4 => .array .int
  | 5 => .array .int
  | 6 => .array .int
  | 7 => .array .int
  | 8 => .array .int
  | 9 => .array .int
  | 10 => .array .int
  | 11 => .array .int
  | 12 => .array .int
  | 13 => .array .int
  | 14 => .array .int
  | 15 => .array .int
  | 16 => .int
  | 17 => .int
  | 18 => .int
  | 19 => .int
  | 20 => .int
  | 21 => .array .int
  | 22 => .array .int
  | 23 => .array .int
  | 24 => .array .long
  | 25 => .array .int
  | 26 => .array .boolean
  | 27 => .int
  | 28 => .int
  | 29 => .array .int
  | 30 => .int
  | 31 => .int
  | 32 => .int
  | 33 => .int
  | 34 => .int
  | 35 => .int
  | 36 => .int
  | 37 => .array .int
  | 38 => .array .int
  | 39 => .array .int
  | 40 => .array .int
  | 41 => .array .int
  | _ => .array .long
theorem n_Mo : ∀ a, a < 43 → ∀ b, b < 43 → a ≠ b → (F_Mo a).2.1 ≠ (F_Mo b).2.1 := by decide +kernel
theorem tk_Mo : ∀ k, k < 43 → parseFieldDescriptor (F_Mo k).2.2.1 = some (t_Mo k) := by decide +kernel
theorem iw_Mo : ∀ w ∈ u_ws R_Mo F_Mo 43, w ∈ gw := in_ps [920, 922, 924, 926, 928, 930, 932, 934, 936, 938, 940, 942, 944, 946, 948, 950, 952, 954, 956, 958, 960, 962, 964, 966, 968, 970, 972, 974, 976, 978, 980, 982, 984, 986, 988, 990, 992, 994, 996, 998, 1000, 1002, 1004] (by decide +kernel) (by decide +kernel)
abbrev cl : List vw_C := [(R_Ga, F_Ga, 12), (R_Gu, F_Gu, 9), (R_Gl, F_Gl, 4), (R_No, F_No, 6), (R_Of, F_Of, 4), (R_Ou, F_Ou, 5), (R_Pa, F_Pa, 10), (R_Se, F_Se, 10), (R_St, F_St, 5), (R_Lb, F_Lb, 5), (R_Mo, F_Mo, 43)]
/-- what lies from n0 on is ours -/
def al (n0 : Nat) : Nat → Prop := fun q => n0 ≤ q
abbrev KT : Type := ClassId × ClassId × ClassId × ClassId
abbrev tys (K : KT) : List (ClassId × FieldType) := [(K.1, .int), (K.2.1, .long), (K.2.2.1, .boolean), (K.2.2.2, .array .int)]
/-- a state: the int (and boolean) arrays, the long arrays, the int fields, by number -/
abbrev ST : Type := (Nat → Nat → Int32) × (Nat → Nat → Int64) × (Nat → Int32)
def sA (S : ST) (k : Nat) (f : Nat → Int32) : ST := (fun a => cond (Nat.beq a k) f (S.1 a), S.2.1, S.2.2)
def sL (S : ST) (k : Nat) (f : Nat → Int64) : ST := (S.1, fun a => cond (Nat.beq a k) f (S.2.1 a), S.2.2)
def sI (S : ST) (k : Nat) (v : Int32) : ST := (S.1, S.2.1, fun a => cond (Nat.beq a k) v (S.2.2 a))
def wC (K : KT) (ad : Nat → Nat) (S : ST) : va_W := [
(ad 0, .inr (9, [.ref (ad 1), .ref (ad 11), .ref (ad 17), .ref (ad 29), .ref (ad 41)])),
  (ad 1, .inr (6, [.ref (ad 2), .ref (ad 3), .ref (ad 4), .ref (ad 5), .ref (ad 6), .ref (ad 7), .ref (ad 8), .ref (ad 9), .ref (ad 10), .int (S.2.2 73)])),
  (ad 2, .inl (K.1, 400, .inl (S.1 2))),
  (ad 3, .inl (K.1, 400, .inl (S.1 3))),
  (ad 4, .inl (K.1, 400, .inl (S.1 4))),
  (ad 5, .inl (K.1, 400, .inl (S.1 5))),
  (ad 6, .inl (K.1, 400, .inl (S.1 6))),
  (ad 7, .inl (K.1, 400, .inl (S.1 7))),
  (ad 8, .inl (K.1, 400, .inl (S.1 8))),
  (ad 9, .inl (K.1, 400, .inl (S.1 9))),
  (ad 10, .inl (K.1, 400, .inl (S.1 10))),
  (ad 11, .inr (8, [.ref (ad 12), .ref (ad 13), .ref (ad 14), .ref (ad 15), .ref (ad 16)])),
  (ad 12, .inl (K.1, 10, .inl (S.1 12))),
  (ad 13, .inl (K.1, 20, .inl (S.1 13))),
  (ad 14, .inr (2, [.int (S.2.2 896), .int (S.2.2 897), .int (S.2.2 898), .int (S.2.2 899)])),
  (ad 15, .inr (2, [.int (S.2.2 960), .int (S.2.2 961), .int (S.2.2 962), .int (S.2.2 963)])),
  (ad 16, .inr (2, [.int (S.2.2 1024), .int (S.2.2 1025), .int (S.2.2 1026), .int (S.2.2 1027)])),
  (ad 17, .inr (0, [.ref (ad 18), .ref (ad 19), .ref (ad 20), .ref (ad 21), .ref (ad 22), .ref (ad 23), .ref (ad 24), .ref (ad 25), .ref (ad 26), .ref (ad 27), .ref (ad 28), .int (S.2.2 1099)])),
  (ad 18, .inl (K.1, 403, .inl (S.1 18))),
  (ad 19, .inl (K.1, 403, .inl (S.1 19))),
  (ad 20, .inl (K.2.2.1, 403, .inl (S.1 20))),
  (ad 21, .inl (K.1, 403, .inl (S.1 21))),
  (ad 22, .inl (K.1, 403, .inl (S.1 22))),
  (ad 23, .inl (K.1, 403, .inl (S.1 23))),
  (ad 24, .inl (K.1, 403, .inl (S.1 24))),
  (ad 25, .inl (K.1, 403, .inl (S.1 25))),
  (ad 26, .inl (K.1, 403, .inl (S.1 26))),
  (ad 27, .inl (K.1, 403, .inl (S.1 27))),
  (ad 28, .inl (K.1, 404, .inl (S.1 28))),
  (ad 29, .inr (7, [.ref (ad 17), .ref (ad 11), .ref (ad 30), .ref (ad 31), .ref (ad 37), .ref (ad 40), .int (S.2.2 1862), .int (S.2.2 1863), .int (S.2.2 1864), .int (S.2.2 1865)])),
  (ad 30, .inr (1, [.ref (ad 17), .ref (ad 11), .int (S.2.2 1922), .int (S.2.2 1923), .int (S.2.2 1924), .int (S.2.2 1925), .int (S.2.2 1926), .int (S.2.2 1927), .int (S.2.2 1928)])),
  (ad 31, .inr (3, [.ref (ad 32), .ref (ad 33), .ref (ad 34), .ref (ad 35), .ref (ad 36), .int (S.2.2 1989)])),
  (ad 32, .inl (K.1, 8001, .inl (S.1 32))),
  (ad 33, .inl (K.1, 8001, .inl (S.1 33))),
  (ad 34, .inl (K.1, 8001, .inl (S.1 34))),
  (ad 35, .inl (K.1, 8001, .inl (S.1 35))),
  (ad 36, .inl (K.2.1, 8001, .inr (.inl (S.2.1 36)))),
  (ad 37, .inr (4, [.ref (ad 38), .ref (ad 39), .int (S.2.2 2370), .int (S.2.2 2371)])),
  (ad 38, .inl (K.2.1, 1608, .inr (.inl (S.2.1 38)))),
  (ad 39, .inl (K.1, 1608, .inl (S.1 39))),
  (ad 40, .inl (K.1, 8001, .inl (S.1 40))),
  (ad 41, .inr (5, [.ref (ad 42), .ref (ad 48), .int (S.2.2 2626), .int (S.2.2 2627), .int (S.2.2 2628)])),
  (ad 42, .inl (K.2.2.2, 5, .inr (.inr (.inr (.inr (fun j => some (ad (43 + j)))))))),
  (ad 43, .inl (K.1, 401, .inl (S.1 43))),
  (ad 44, .inl (K.1, 401, .inl (S.1 44))),
  (ad 45, .inl (K.1, 401, .inl (S.1 45))),
  (ad 46, .inl (K.1, 401, .inl (S.1 46))),
  (ad 47, .inl (K.1, 401, .inl (S.1 47))),
  (ad 48, .inl (K.2.1, 401, .inr (.inl (S.2.1 48))))]
def wM (K : KT) (ad : Nat → Nat) (S : ST) : va_W := [
(ad 0, .inr (10, [.int (S.2.2 0), .int (S.2.2 1), .ref (ad 1), .ref (ad 2), .ref (ad 3), .ref (ad 4), .ref (ad 5), .ref (ad 6), .ref (ad 7), .ref (ad 8), .ref (ad 9), .ref (ad 10), .ref (ad 11), .ref (ad 12), .ref (ad 13), .ref (ad 14), .int (S.2.2 16), .int (S.2.2 17), .int (S.2.2 18), .int (S.2.2 19), .int (S.2.2 20), .ref (ad 15), .ref (ad 16), .ref (ad 17), .ref (ad 18), .ref (ad 19), .ref (ad 20), .int (S.2.2 27), .int (S.2.2 28), .ref (ad 21), .int (S.2.2 30), .int (S.2.2 31), .int (S.2.2 32), .int (S.2.2 33), .int (S.2.2 34), .int (S.2.2 35), .int (S.2.2 36), .ref (ad 22), .ref (ad 23), .ref (ad 24), .ref (ad 25), .ref (ad 26), .ref (ad 27)])),
  (ad 1, .inl (K.1, 410, .inl (S.1 1))),
  (ad 2, .inl (K.1, 410, .inl (S.1 2))),
  (ad 3, .inl (K.1, 410, .inl (S.1 3))),
  (ad 4, .inl (K.1, 410, .inl (S.1 4))),
  (ad 5, .inl (K.1, 410, .inl (S.1 5))),
  (ad 6, .inl (K.1, 410, .inl (S.1 6))),
  (ad 7, .inl (K.1, 410, .inl (S.1 7))),
  (ad 8, .inl (K.1, 410, .inl (S.1 8))),
  (ad 9, .inl (K.1, 10, .inl (S.1 9))),
  (ad 10, .inl (K.1, 20, .inl (S.1 10))),
  (ad 11, .inl (K.1, 3, .inl (S.1 11))),
  (ad 12, .inl (K.1, 3, .inl (S.1 12))),
  (ad 13, .inl (K.1, 3, .inl (S.1 13))),
  (ad 14, .inl (K.1, 3, .inl (S.1 14))),
  (ad 15, .inl (K.1, 8001, .inl (S.1 15))),
  (ad 16, .inl (K.1, 8001, .inl (S.1 16))),
  (ad 17, .inl (K.1, 8001, .inl (S.1 17))),
  (ad 18, .inl (K.2.1, 8001, .inr (.inl (S.2.1 18)))),
  (ad 19, .inl (K.1, 8001, .inl (S.1 19))),
  (ad 20, .inl (K.2.2.1, 8001, .inl (S.1 20))),
  (ad 21, .inl (K.1, 4, .inl (S.1 21))),
  (ad 22, .inl (K.1, 410, .inl (S.1 22))),
  (ad 23, .inl (K.1, 410, .inl (S.1 23))),
  (ad 24, .inl (K.1, 410, .inl (S.1 24))),
  (ad 25, .inl (K.1, 410, .inl (S.1 25))),
  (ad 26, .inl (K.1, 410, .inl (S.1 26))),
  (ad 27, .inl (K.2.1, 410, .inr (.inl (S.2.1 27))))]
end
section
/-- what holds at every entry beside the good words: the law's own start s0, of which the tables are warmer here, and of which all that lay below n0 lies here as it was -/
def fx (n0 : Nat) (U : State) : Prop := ∃ (s0 : State) (a0 : Array Value), s0.heap.size = n0 ∧ s0.WarmedH U.vm ∧ (∀ q : Nat, q < n0 → U.heap[q]? = s0.heap[q]?) ∧ (∀ w ∈ lw_tbl, w.before a0 s0 = true) ∧ (Jvm.Cond.and given_1 narrow_1).before a0 s0 = true
theorem fx_moved {n0 : Nat} {s U : State} (hW : s.WarmedH U.vm) (hq : ∀ q : Nat, q < n0 → U.heap[q]? = s.heap[q]?) (h : fx n0 s) : fx n0 U := by
  obtain ⟨s0, a0, h1, h2, h3, h4, h5⟩ := h
  exact ⟨s0, a0, h1, State.WarmedH.trans h2 hW, fun q hl => (hq q hl).trans (h3 q hl), h4, h5⟩
theorem fx_same {n0 : Nat} {s U : State} (hv : s.vm = U.vm) (hq : U.heap = s.heap) (h : fx n0 s) : fx n0 U := by
  obtain ⟨s0, a0, h1, h2, h3, h4, h5⟩ := h
  exact ⟨s0, a0, h1, hv ▸ h2, fun q hl => by rw [hq]; exact h3 q hl, h4, h5⟩
theorem fx_t {w : Cond} {i : Nat} (h : tables_1[i]? = some w) : w ∈ lw_tbl := List.mem_append_right _ (List.mem_of_getElem? h)
theorem fx_nest {n0 i : Nat} {U : State} {own : String} {idx : Nat} {y : MethodName} {host : String} (h : fx n0 U) (hi : tables_1[i]? = some (.methodLinkNest own idx y host)) : va_Nw (.methodLinkNest own idx y host) U := by
  obtain ⟨s0, a0, h1, h2, h3, h4, h5⟩ := h
  exact va_Nw.warmM h2 (va_Nw.of rfl (h4 _ (fx_t hi)))
/-- the start of a method: its world, the classes, what lies below -/
def wb (n0 : Nat) (G : va_G) (K : KT) (ws : va_W) (U : State) : Prop := n0 ≤ U.heap.size ∧ va_P G cl ws U.heap ∧ va_K G cl (tys K) U ∧ va_D (al n0) ws ∧ fx n0 U
/-- its end -/
def we (n0 : Nat) (G : va_G) (ws : va_W) (t : State) : Prop := va_P G cl ws t.heap ∧ va_D (al n0) ws
theorem wb_blind {n0 : Nat} {G : va_G} {K : KT} {ws : va_W} {av : List Value} : FrameBlind (va_Pc av (wb n0 G K ws)) := fun a U g mk q => by
  obtain ⟨q0, q1, qP, qK, qD, qF⟩ := q
  exact ⟨q0, q1, qP, va_K.moved (u := U) (U := U.calling g mk a) (Vm.Alike.refl U.vm) qK, qD, fx_same (s := U) (U := U.calling g mk a) rfl rfl qF⟩
section BASE
variable {p : Program} {l : Launch} {e : Env} {R : Room} {s : State} {m : MethodId} {args : Array Value} {below : List Frame} {meth : Method} {c : Code} {H : Heap} {locs : List Loc} {cells slots : Nat} {Q : State → Prop}
/-- what stays through a body -/
def cx (p : Program) (s : State) (m : MethodId) (args : Array Value) (meth : Method) (c : Code) (cc : ByteArray) (nL : Nat) (own : String) (n0 : Nat) (G : va_G) (K : KT) : Prop :=
  p.tables.exec = Jvm.exec ∧ c.code = cc ∧ c.maxLocals = nL ∧ s.vm.findClass own = some m.cls ∧ (∀ w ∈ gw, w.before args s = true) ∧ meth.locks = false ∧ va_K G cl (tys K) s ∧ n0 ≤ s.heap.size ∧ fx n0 s
/-- the world of a body now -/
def wn (n0 : Nat) (G : va_G) (ws : va_W) (s : State) (H : Heap) (locs : List Loc) : Prop := va_P G cl ws H ∧ va_D (al n0) ws ∧ va_S (al n0) s.heap H locs
variable {cc : ByteArray} {nL : Nat} {own : String} {n0 : Nat} {G : va_G} {K : KT} {ws : va_W} {pc : Nat} {ls : Array Slot} {rest : List Value}
theorem wn_eq {w2 : va_W} (h : wn n0 G ws s H locs) (e : ws = w2) : wn n0 G w2 s H locs := e ▸ h
theorem wb_of (C : cx p s m args meth c cc nL own n0 G K) (w : wn n0 G ws s H locs) {av : List Value} : ∀ U : State, U.heap = H → s.WarmedH U.vm → va_Pc av (wb n0 G K ws) av.toArray U := by
  obtain ⟨-, -, -, -, -, -, hK, hn, hF⟩ := C
  intro U hU hW
  exact ⟨rfl, Nat.le_trans hn (by rw [hU]; exact w.2.2.1), by rw [hU]; exact w.1, va_K.moved hW.alike hK, w.2.1, fx_moved hW (fun q hq => by rw [hU]; exact w.2.2.2.1 q (Nat.lt_of_lt_of_le hq hn) (Nat.not_le.mpr hq)) hF⟩
theorem rc_i {x : Int32} {i : Nat} {sh : Int32} (h : ls[i]? = some (.val (.int x))) : ls[i]? = some (.val (.int x)) := h
/-- a virtual call's run -/
theorem kr_V {y : MethodName} {bytes : ByteArray} {maxL mc ms n index ci q0 : Nat} {ret : Option FieldType} {rm : Room} {C1 : String} {T : u_T} {N : Nat} {fs : List Value} {b : Addr} {As st0 : List Value} {Qc : Array Value → State → Outcome → State → Prop} {free : Addr → Prop}
    (C : cx p s m args meth c cc nL own n0 G K) (w : wn n0 G ws s H locs) (hM : Met l y (Cond.code y bytes maxL ret :: gw) rm (va_Pc (.ref b :: As) (wb n0 G K ws)) Qc mc ms free)
    (hg : GoodIn gw (wsV own index C1 y (Cond.code y bytes maxL ret :: gw))) (hd : y.cls = C1 ∧ y.cls ≠ "java/lang/invoke/MethodHandle" ∧ y.cls ≠ "java/lang/invoke/VarHandle" ∧ (parseMethodDescriptor y.desc).map (fun d => d.parameters.length) = some n)
    (hrc : rm.cells = mc) (hrs : rm.slots = ms) (hR : rm.frames + 1 ≤ R.frames ∧ 8 + (maxL + 11) + rm.locals ≤ R.locals) (hc : cl[ci]? = some (C1, T, N)) (he : ws[q0]? = some (b, .inr (ci, fs))) (hn : As.length = n) (hl : ls.size = nL) (hst : st0 = As.reverse ++ .ref b :: rest) (hr : (rest.map fun v => v.category).sum ≤ 8) (hdg : decode cc pc = .ok (.invokevirtual index, 3)) (hf : cells + mc ≤ R.cells ∧ slots + ms ≤ R.slots) :
    va_Run p l e R s m args below meth c H locs cells slots mc ms (F0 m pc ls st0) rest (Qc (Value.ref b :: As).toArray) free := by
  have C' := C
  obtain ⟨hx, hb, hml, hown, hts, -, hK, -, -⟩ := C'
  exact va_runV (Ts := gw) (As := As) (rest := rest) ⟨hx, hb, hml, hown, hts⟩ hM (cwV n hts hg rfl hrc hrs hd hR) ⟨wb_blind, va_recv hK w.1 hc he, wb_of C w⟩ rfl hn hl hst (lv_room hr) hdg hf
/-- a static call's run -/
theorem kr_S {y : MethodName} {bytes : ByteArray} {maxL mc ms n index : Nat} {ret : Option FieldType} {rm : Room} {As st0 : List Value} {Qc : Array Value → State → Outcome → State → Prop} {free : Addr → Prop}
    (C : cx p s m args meth c cc nL own n0 G K) (w : wn n0 G ws s H locs) (hM : Met l y (Cond.code y bytes maxL ret :: gw) rm (va_Pc As (wb n0 G K ws)) Qc mc ms free)
    (hg : GoodIn gw (va_wsS own index y (Cond.code y bytes maxL ret :: gw))) (hd : y.cls ≠ "java/lang/invoke/MethodHandle" ∧ y.cls ≠ "java/lang/invoke/VarHandle" ∧ (parseMethodDescriptor y.desc).map (fun d => d.parameters.length) = some n)
    (hrc : rm.cells = mc) (hrs : rm.slots = ms) (hR : rm.frames + 1 ≤ R.frames ∧ 8 + (maxL + 11) + rm.locals ≤ R.locals) (hn : As.length = n) (hl : ls.size = nL) (hst : st0 = As.reverse ++ rest) (hr : (rest.map fun v => v.category).sum ≤ 8) (hdg : decode cc pc = .ok (.invokestatic index, 3)) (hf : cells + mc ≤ R.cells ∧ slots + ms ≤ R.slots) :
    va_Run p l e R s m args below meth c H locs cells slots mc ms (F0 m pc ls st0) rest (Qc As.toArray) free := by
  have C' := C
  obtain ⟨hx, hb, hml, hown, hts, -, hK, -, -⟩ := C'
  exact va_runS (Ts := gw) (As := As) (rest := rest) ⟨hx, hb, hml, hown, hts⟩ hM (va_cwS n hts hg rfl hrc hrs hd hR) ⟨wb_blind, wb_of C w⟩ rfl hn hl hst (lv_room hr) hdg hf
/-- a nest mate's static method -/
theorem kr_N {y : MethodName} {bytes : ByteArray} {maxL mc ms n index : Nat} {host : String} {ret : Option FieldType} {rm : Room} {As st0 : List Value} {Qc : Array Value → State → Outcome → State → Prop} {free : Addr → Prop}
    (C : cx p s m args meth c cc nL own n0 G K) (w : wn n0 G ws s H locs) (hM : Met l y (Cond.code y bytes maxL ret :: gw) rm (va_Pc As (wb n0 G K ws)) Qc mc ms free)
    (hk : Cond.code y bytes maxL ret ∈ gw) (hN : va_Nw (.methodLinkNest own index y host) s) (hi : Cond.initialized y.cls ∈ gw) (hsta : Cond.static y ∈ gw) (hd : y.cls ≠ "java/lang/invoke/MethodHandle" ∧ y.cls ≠ "java/lang/invoke/VarHandle" ∧ (parseMethodDescriptor y.desc).map (fun d => d.parameters.length) = some n)
    (hrc : rm.cells = mc) (hrs : rm.slots = ms) (hR : rm.frames + 1 ≤ R.frames ∧ 8 + (maxL + 11) + rm.locals ≤ R.locals) (hn : As.length = n) (hl : ls.size = nL) (hst : st0 = As.reverse ++ rest) (hr : (rest.map fun v => v.category).sum ≤ 8) (hdg : decode cc pc = .ok (.invokestatic index, 3)) (hf : cells + mc ≤ R.cells ∧ slots + ms ≤ R.slots) :
    va_Run p l e R s m args below meth c H locs cells slots mc ms (F0 m pc ls st0) rest (Qc As.toArray) free := by
  have C' := C
  obtain ⟨hx, hb, hml, hown, hts, -, hK, -, -⟩ := C'
  exact va_runSN (Ts := gw) (As := As) (rest := rest) ⟨hx, hb, hml, hown, hts⟩ hM ⟨va_cnB n hts (gw_cons hk) rfl hrc hrs hN (hts _ hi) hd hR, hts _ hsta, trivial⟩ ⟨wb_blind, wb_of C w⟩ rfl hn hl hst (lv_room hr) hdg hf
theorem kc_i {S : Type} {post : Int32 → S → Prop} {st : S → va_W} {mc ms : Nat} {st0 : List Value} {a : Array Value} (w : wn n0 G ws s H locs) (hr : va_Run p l e R s m args below meth c H locs cells slots mc ms (F0 m pc ls st0) rest (va_Qi post (fun u t => we n0 G (st u) t) (al n0) a) (al n0))
    (kk : ∀ (r : Int32) (u : S) (H1 : Heap) (locs1 : List Loc), post r u → wn n0 G (st u) s H1 locs1 → W p l e R s m args below meth c H1 locs1 (cells + mc) (slots + ms) Q (F0 m (pc + 3) ls (.int r :: rest))) : W p l e R s m args below meth c H locs cells slots Q (F0 m pc ls st0) := by
  refine va_calli hr w.2.2 (fun _ _ h => h) (fun _ h => h) (fun r u t H1 locs1 ht hvm hp hB hz hk hS => kk r u H1 locs1 hp ⟨by rw [← ht]; exact hB.1, hB.2, hS⟩)
theorem kc_l {S : Type} {post : Int64 → S → Prop} {st : S → va_W} {mc ms : Nat} {st0 : List Value} {a : Array Value} (w : wn n0 G ws s H locs) (hr : va_Run p l e R s m args below meth c H locs cells slots mc ms (F0 m pc ls st0) rest (va_Ql post (fun u t => we n0 G (st u) t) (al n0) a) (al n0))
    (kk : ∀ (r : Int64) (u : S) (H1 : Heap) (locs1 : List Loc), post r u → wn n0 G (st u) s H1 locs1 → W p l e R s m args below meth c H1 locs1 (cells + mc) (slots + ms) Q (F0 m (pc + 3) ls (.long r :: rest))) : W p l e R s m args below meth c H locs cells slots Q (F0 m pc ls st0) := by
  refine va_calll hr w.2.2 (fun _ _ h => h) (fun _ h => h) (fun r u t H1 locs1 ht hvm hp hB hz hk hS => kk r u H1 locs1 hp ⟨by rw [← ht]; exact hB.1, hB.2, hS⟩)
theorem kc_v {S : Type} {post : S → Prop} {st : S → va_W} {mc ms : Nat} {st0 : List Value} {a : Array Value} (w : wn n0 G ws s H locs) (hr : va_Run p l e R s m args below meth c H locs cells slots mc ms (F0 m pc ls st0) rest (va_Qv post (fun u t => we n0 G (st u) t) (al n0) a) (al n0))
    (kk : ∀ (u : S) (H1 : Heap) (locs1 : List Loc), post u → wn n0 G (st u) s H1 locs1 → W p l e R s m args below meth c H1 locs1 (cells + mc) (slots + ms) Q (F0 m (pc + 3) ls rest)) : W p l e R s m args below meth c H locs cells slots Q (F0 m pc ls st0) := by
  refine va_callv hr w.2.2 (fun _ _ h => h) (fun _ h => h) (fun u t H1 locs1 ht hvm hp hB hz hk hS => kk u H1 locs1 hp ⟨by rw [← ht]; exact hB.1, hB.2, hS⟩)
/-- the ends -/
theorem ke_i {S : Type} {post : Int32 → S → Prop} {st : S → va_W} {v : Int32} {u : S} (C : cx p s m args meth c cc nL own n0 G K) (hr : meth.sig.returnType = some .int) (hd : decode cc pc = .ok (.ireturn, 1)) (w : wn n0 G (st u) s H locs) (hp : post v u) : W p l e R s m args below meth c H locs cells slots (MQ below (va_Qi post (fun u t => we n0 G (st u) t) (al n0)) args s cells slots (al n0)) (F0 m pc ls [.int v]) :=
  W.iret (v := v) C.1 C.2.1 hr (fun t ht hW => ⟨⟨v, u, rfl, hp, by rw [ht]; exact w.1, w.2.1⟩, w.2.2.F ht⟩) w.2.2.2.2 hd C.2.2.2.2.2.1
theorem ke_z {S : Type} {post : Int32 → S → Prop} {st : S → va_W} {v : Int32} {u : S} (C : cx p s m args meth c cc nL own n0 G K) (hr : meth.sig.returnType = some .boolean) (hd : decode cc pc = .ok (.ireturn, 1)) (w : wn n0 G (st u) s H locs) (hz : v = 0 ∨ v = 1) (hp : post v u) : W p l e R s m args below meth c H locs cells slots (MQ below (va_Qi post (fun u t => we n0 G (st u) t) (al n0)) args s cells slots (al n0)) (F0 m pc ls [.int v]) :=
  W.zret (v := v) C.1 C.2.1 hr (by rcases hz with rfl | rfl <;> rfl) (fun t ht hW => ⟨⟨v, u, rfl, hp, by rw [ht]; exact w.1, w.2.1⟩, w.2.2.F ht⟩) w.2.2.2.2 hd C.2.2.2.2.2.1
theorem ke_l {S : Type} {post : Int64 → S → Prop} {st : S → va_W} {v : Int64} {u : S} (C : cx p s m args meth c cc nL own n0 G K) (hr : meth.sig.returnType = some .long) (hd : decode cc pc = .ok (.lreturn, 1)) (w : wn n0 G (st u) s H locs) (hp : post v u) : W p l e R s m args below meth c H locs cells slots (MQ below (va_Ql post (fun u t => we n0 G (st u) t) (al n0)) args s cells slots (al n0)) (F0 m pc ls [.long v]) :=
  W.lret (v := v) C.1 C.2.1 hr (fun t ht hW => ⟨⟨v, u, rfl, hp, by rw [ht]; exact w.1, w.2.1⟩, w.2.2.F ht⟩) w.2.2.2.2 hd C.2.2.2.2.2.1
theorem ke_v {S : Type} {post : S → Prop} {st : S → va_W} {u : S} (C : cx p s m args meth c cc nL own n0 G K) (hr : meth.sig.returnType = none) (hd : decode cc pc = .ok (.return_, 1)) (w : wn n0 G (st u) s H locs) (hp : post u) : W p l e R s m args below meth c H locs cells slots (MQ below (va_Qv post (fun u t => we n0 G (st u) t) (al n0)) args s cells slots (al n0)) (F0 m pc ls []) :=
  W.vret C.1 C.2.1 hr (fun t ht hW => ⟨⟨u, rfl, hp, by rw [ht]; exact w.1, w.2.1⟩, w.2.2.F ht⟩) w.2.2.2.2 hd C.2.2.2.2.2.1
/-- methods that only read: the heap stays -/
def rq_i (post : Int32 → Prop) : Array Value → State → Outcome → State → Prop := fun _ st oc t => (∃ r : Int32, oc = .returned (some (.int r)) ∧ post r) ∧ t.heap = st.heap
def rq_l (post : Int64 → Prop) : Array Value → State → Outcome → State → Prop := fun _ st oc t => (∃ r : Int64, oc = .returned (some (.long r)) ∧ post r) ∧ t.heap = st.heap
theorem kd_i {post : Int32 → Prop} {st0 : List Value} {a : Array Value} (hr : va_Run p l e R s m args below meth c H locs cells slots 0 0 (F0 m pc ls st0) rest (rq_i post a) (fun _ => False))
    (kk : ∀ r : Int32, post r → W p l e R s m args below meth c H locs cells slots Q (F0 m (pc + 3) ls (.int r :: rest))) : W p l e R s m args below meth c H locs cells slots Q (F0 m pc ls st0) := by
  intro T hT X
  obtain ⟨v, st₀, t, T', L, h0, X', hL, e1, e2, ⟨⟨r, hv, hp⟩, hh⟩, st⟩ := hr T hT X
  cases hv
  obtain ⟨t2, a1, b1⟩ := kk r hp T' (by rw [e1, hh, h0]) (Stand.forget X' (fun q h => (hL q h).elim))
  exact ⟨t2, st t2 a1, b1⟩
theorem kd_l {post : Int64 → Prop} {st0 : List Value} {a : Array Value} (hr : va_Run p l e R s m args below meth c H locs cells slots 0 0 (F0 m pc ls st0) rest (rq_l post a) (fun _ => False))
    (kk : ∀ r : Int64, post r → W p l e R s m args below meth c H locs cells slots Q (F0 m (pc + 3) ls (.long r :: rest))) : W p l e R s m args below meth c H locs cells slots Q (F0 m pc ls st0) := by
  intro T hT X
  obtain ⟨v, st₀, t, T', L, h0, X', hL, e1, e2, ⟨⟨r, hv, hp⟩, hh⟩, st⟩ := hr T hT X
  cases hv
  obtain ⟨t2, a1, b1⟩ := kk r hp T' (by rw [e1, hh, h0]) (Stand.forget X' (fun q h => (hL q h).elim))
  exact ⟨t2, st t2 a1, b1⟩
theorem kf_i {post : Int32 → Prop} {v : Int32} (C : cx p s m args meth c cc nL own n0 G K) (hr : meth.sig.returnType = some .int) (hd : decode cc pc = .ok (.ireturn, 1)) (hp : post v) : W p l e R s m args below meth c s.heap [] cells slots (MQ below (rq_i post) args s cells slots (fun _ => False)) (F0 m pc ls [.int v]) :=
  W.iret (v := v) C.1 C.2.1 hr (fun t ht hW => ⟨⟨v, rfl, hp⟩, ht⟩) (fun _ h => nomatch h) hd C.2.2.2.2.2.1
theorem kf_z {post : Int32 → Prop} {v : Int32} (C : cx p s m args meth c cc nL own n0 G K) (hr : meth.sig.returnType = some .boolean) (hd : decode cc pc = .ok (.ireturn, 1)) (hz : v = 0 ∨ v = 1) (hp : post v) : W p l e R s m args below meth c s.heap [] cells slots (MQ below (rq_i post) args s cells slots (fun _ => False)) (F0 m pc ls [.int v]) :=
  W.zret (v := v) C.1 C.2.1 hr (by rcases hz with rfl | rfl <;> rfl) (fun t ht hW => ⟨⟨v, rfl, hp⟩, ht⟩) (fun _ h => nomatch h) hd C.2.2.2.2.2.1
theorem kf_l {post : Int64 → Prop} {v : Int64} (C : cx p s m args meth c cc nL own n0 G K) (hr : meth.sig.returnType = some .long) (hd : decode cc pc = .ok (.lreturn, 1)) (hp : post v) : W p l e R s m args below meth c s.heap [] cells slots (MQ below (rq_l post) args s cells slots (fun _ => False)) (F0 m pc ls [.long v]) :=
  W.lret (v := v) C.1 C.2.1 hr (fun t ht hW => ⟨⟨v, rfl, hp⟩, ht⟩) (fun _ h => nomatch h) hd C.2.2.2.2.2.1
/-- a body's start out of its contract's -/
theorem kb_start {y : MethodName} {bytes : ByteArray} {maxL : Nat} {ret : Option FieldType} {rm : Room} {Qc : Array Value → State → Outcome → State → Prop} {mc ms : Nat} {av : List Value} {free : Addr → Prop}
    (hy : plainName y.cls = true) (hc : y.cls = own)
    (body : ∀ (p : Program) (e : Env) (s : State) (m : MethodId) (below : List Frame) (meth : Method) (c : Code), cx p s m av.toArray meth c bytes maxL own n0 G K → meth.sig.returnType = ret → (own = own → meth.name = y.name) → wn n0 G ws s s.heap [] → W p l e rm s m av.toArray below meth c s.heap [] 0 0 (MQ below Qc av.toArray s mc ms free) (entryFrame m av.toArray maxL)) :
    Met l y (Cond.code y bytes maxL ret :: gw) rm (va_Pc av (wb n0 G K ws)) Qc mc ms free := by
  refine Met.ofW (cc := bytes) (maxL := maxL) (ret := ret) hy rfl ?_
  intro p e s m args below meth c s₁ B hml hv
  obtain ⟨rfl, hn, hP, hK, hD, hF⟩ := hv
  have hts := atoms_spec (ws := Cond.code y bytes maxL ret :: gw) B.pre
  have hown : s.vm.findClass own = some m.cls := hc ▸ findClass_of_methodNamed B.named
  exact body p e s m below meth c ⟨B.exec, B.bytes, hml, hown, fun w h => hts w (List.mem_cons_of_mem _ h), B.notSynchronized, hK, hn, hF⟩ B.returns (fun _ => (name_of_methodNamed B.named B.method).1) ⟨hP, hD, va_S.rf⟩
/-- the rows of the world's cells -/
theorem ka_i (C : cx p s m args meth c cc nL own n0 G K) (w : wn n0 G ws s H locs) (q0 : Nat) {a n : Nat} {f : Nat → Int32} (ha : ws[q0]? = some (a, .inl (K.1, n, .inl f))) {i : Int32} (hin : vp_in i n) (hdg : decode cc pc = .ok (.iaload, 1))
    (kk : W p l e R s m args below meth c H locs cells slots Q (F0 m (pc + 1) ls (.int (f i.toNatClampNeg) :: rest))) : W p l e R s m args below meth c H locs cells slots Q (F0 m pc ls (.int i :: .ref a :: rest)) := va_iald C.1 C.2.1 C.2.2.2.2.2.2.1 w.1 q0 0 ha rfl hin hdg kk
theorem ka_l (C : cx p s m args meth c cc nL own n0 G K) (w : wn n0 G ws s H locs) (q0 : Nat) {a n : Nat} {f : Nat → Int64} (ha : ws[q0]? = some (a, .inl (K.2.1, n, .inr (.inl f)))) {i : Int32} (hin : vp_in i n) (hdg : decode cc pc = .ok (.laload, 1))
    (kk : W p l e R s m args below meth c H locs cells slots Q (F0 m (pc + 1) ls (.long (f i.toNatClampNeg) :: rest))) : W p l e R s m args below meth c H locs cells slots Q (F0 m pc ls (.int i :: .ref a :: rest)) := va_lald C.1 C.2.1 C.2.2.2.2.2.2.1 w.1 q0 1 ha rfl hin hdg kk
theorem ka_z (C : cx p s m args meth c cc nL own n0 G K) (w : wn n0 G ws s H locs) (q0 : Nat) {a n : Nat} {f : Nat → Int32} (ha : ws[q0]? = some (a, .inl (K.2.2.1, n, .inl f))) {i : Int32} (hin : vp_in i n) (hdg : decode cc pc = .ok (.baload, 1))
    (kk : W p l e R s m args below meth c H locs cells slots Q (F0 m (pc + 1) ls (.int (f i.toNatClampNeg) :: rest))) : W p l e R s m args below meth c H locs cells slots Q (F0 m pc ls (.int i :: .ref a :: rest)) := va_zald C.1 C.2.1 C.2.2.2.2.2.2.1 w.1 q0 2 ha rfl hin hdg kk
theorem ks_i (C : cx p s m args meth c cc nL own n0 G K) (w : wn n0 G ws s H locs) (q0 : Nat) {a n : Nat} {f : Nat → Int32} {w2 : va_W} (ha : ws[q0]? = some (a, .inl (K.1, n, .inl f))) {i x : Int32} (hin : vp_in i n) (h2 : ws.set q0 (a, .inl (K.1, n, .inl (upd f i.toNatClampNeg x))) = w2) (hdg : decode cc pc = .ok (.iastore, 1))
    (kk : ∀ (H1 : Heap) (locs1 : List Loc), wn n0 G w2 s H1 locs1 → W p l e R s m args below meth c H1 locs1 cells slots Q (F0 m (pc + 1) ls rest)) : W p l e R s m args below meth c H locs cells slots Q (F0 m pc ls (.int x :: .int i :: .ref a :: rest)) := by
  subst h2
  exact va_iast C.1 C.2.1 C.2.2.2.2.2.2.1 w.1 w.2.1 w.2.2 q0 0 ha rfl hin hdg (fun H1 locs1 hP hD hS => kk H1 locs1 ⟨hP, hD, hS⟩)
theorem ks_l (C : cx p s m args meth c cc nL own n0 G K) (w : wn n0 G ws s H locs) (q0 : Nat) {a n : Nat} {f : Nat → Int64} {w2 : va_W} (ha : ws[q0]? = some (a, .inl (K.2.1, n, .inr (.inl f)))) {i : Int32} {x : Int64} (hin : vp_in i n) (h2 : ws.set q0 (a, .inl (K.2.1, n, .inr (.inl (vp_updL f i.toNatClampNeg x)))) = w2) (hdg : decode cc pc = .ok (.lastore, 1))
    (kk : ∀ (H1 : Heap) (locs1 : List Loc), wn n0 G w2 s H1 locs1 → W p l e R s m args below meth c H1 locs1 cells slots Q (F0 m (pc + 1) ls rest)) : W p l e R s m args below meth c H locs cells slots Q (F0 m pc ls (.long x :: .int i :: .ref a :: rest)) := by
  subst h2
  exact va_last C.1 C.2.1 C.2.2.2.2.2.2.1 w.1 w.2.1 w.2.2 q0 1 ha rfl hin hdg (fun H1 locs1 hP hD hS => kk H1 locs1 ⟨hP, hD, hS⟩)
theorem ks_z (C : cx p s m args meth c cc nL own n0 G K) (w : wn n0 G ws s H locs) (q0 : Nat) {a n : Nat} {f : Nat → Int32} {w2 : va_W} (ha : ws[q0]? = some (a, .inl (K.2.2.1, n, .inl f))) {i x : Int32} (hin : vp_in i n) (h2 : ws.set q0 (a, .inl (K.2.2.1, n, .inl (upd f i.toNatClampNeg (vp_nar .boolean x)))) = w2) (hdg : decode cc pc = .ok (.bastore, 1))
    (kk : ∀ (H1 : Heap) (locs1 : List Loc), wn n0 G w2 s H1 locs1 → W p l e R s m args below meth c H1 locs1 cells slots Q (F0 m (pc + 1) ls rest)) : W p l e R s m args below meth c H locs cells slots Q (F0 m pc ls (.int x :: .int i :: .ref a :: rest)) := by
  subst h2
  exact va_zast C.1 C.2.1 C.2.2.2.2.2.2.1 w.1 w.2.1 w.2.2 q0 2 ha rfl hin hdg (fun H1 locs1 hP hD hS => kk H1 locs1 ⟨hP, hD, hS⟩)
theorem ka_a (C : cx p s m args meth c cc nL own n0 G K) (w : wn n0 G ws s H locs) (q0 : Nat) {a n : Nat} {f : Nat → Option Nat} {v : Value} (ha : ws[q0]? = some (a, .inl (K.2.2.2, n, .inr (.inr (.inr (.inr f)))))) {i : Int32} (hin : vp_in i n) (hv : va_rf (f i.toNatClampNeg) = v) (hdg : decode cc pc = .ok (.aaload, 1))
    (kk : W p l e R s m args below meth c H locs cells slots Q (F0 m (pc + 1) ls (v :: rest))) : W p l e R s m args below meth c H locs cells slots Q (F0 m pc ls (.int i :: .ref a :: rest)) := by
  have hlt : i.toNatClampNeg < n := Nat.not_le.mp fun q => hin (Or.inr q)
  subst hv
  exact W.aald (v := va_rf (f i.toNatClampNeg)) (ty := .array .int) C.1 C.2.1 (w.1 q0 _ ha) ((C.2.2.2.2.2.2.1.2 3 _ rfl).1 n (fun j => va_rf (f j))) rfl (fun q => by cases q) (by show ¬ (i < 0 ∨ (arrV _ _ _).slots.size ≤ _); rw [arrV_size]; exact hin) (by show (arrV _ _ _).slots[_]? = _; rw [arrV_read _ _ hlt]) rfl rfl hdg kk
theorem kg {C1 ref : String} {T : u_T} {N ci index : Nat} (C : cx p s m args meth c cc nL own n0 G K) (w : wn n0 G ws s H locs) (q0 k : Nat) (hin : ∀ w ∈ u_ws C1 T N, w ∈ gw) {a : Nat} {fs : List Value} {v : Value} (hc : cl[ci]? = some (C1, T, N)) (he : ws[q0]? = some (a, .inr (ci, fs))) (hk : k < N) (hlink : Cond.fieldLink own index ref (T k).2.1 (T k).2.2.1 ∈ gw) (hsame : (T k).1 = ref) (hv : fs[k]? = some v) (hdg : decode cc pc = .ok (.getfield index, 3))
    (kk : W p l e R s m args below meth c H locs cells slots Q (F0 m (pc + 3) ls (v :: rest))) : W p l e R s m args below meth c H locs cells slots Q (F0 m pc ls (.ref a :: rest)) :=
  va_get (D := G) (ci := ci) (v := v) (C := C1) (T := T) (N := N) C.1 C.2.1 C.2.2.2.2.1 hin C.2.2.2.1 C.2.2.2.2.2.2.1 w.1 q0 he hc k hk (C.2.2.2.2.1 _ hlink) (fun _ h => by rw [hsame] at h; exact h) hv hdg kk
theorem kp {C1 ref : String} {T : u_T} {N ci index : Nat} {ty0 : Nat → FieldType} (C : cx p s m args meth c cc nL own n0 G K) (w : wn n0 G ws s H locs) (q0 k : Nat) (hin : ∀ w ∈ u_ws C1 T N, w ∈ gw) (hty : ∀ k, k < N → parseFieldDescriptor (T k).2.2.1 = some (ty0 k)) (hnm : ∀ a, a < N → ∀ b, b < N → a ≠ b → (T a).2.1 ≠ (T b).2.1) {a : Nat} {fs : List Value} {v : Value} {w2 : va_W} (hc : cl[ci]? = some (C1, T, N)) (he : ws[q0]? = some (a, .inr (ci, fs))) (hk : k < N) (hlink : Cond.fieldLink own index ref (T k).2.1 (T k).2.2.1 ∈ gw) (hsame : (T k).1 = ref) (hfin : (T k).2.2.2 = false) (hn : narrow (ty0 k) v = v) (hfit : fits (ty0 k) v = true) (hl : k < fs.length) (h2 : ws.set q0 (a, .inr (ci, fs.set k v)) = w2) (hdg : decode cc pc = .ok (.putfield index, 3))
    (kk : ∀ (H1 : Heap) (locs1 : List Loc), wn n0 G w2 s H1 locs1 → W p l e R s m args below meth c H1 locs1 cells slots Q (F0 m (pc + 3) ls rest)) : W p l e R s m args below meth c H locs cells slots Q (F0 m pc ls (v :: .ref a :: rest)) := by
  subst h2
  exact va_put (D := G) (ci := ci) (v := v) (ty := ty0 k) (C := C1) (T := T) (N := N) C.1 C.2.1 C.2.2.2.2.1 hin ty0 hty hnm C.2.2.2.1 C.2.2.2.2.2.2.1 w.1 w.2.1 w.2.2 q0 he hc k hk (C.2.2.2.2.1 _ hlink) (fun _ h => by rw [hsame] at h; exact h) hfin (hty k hk) hn hfit hl hdg (fun H1 locs1 hP hD hS => kk H1 locs1 ⟨hP, hD, hS⟩)
theorem in_5 {x : Int32} (h : vp_in x 5) : x = 0 ∨ x = 1 ∨ x = 2 ∨ x = 3 ∨ x = 4 := by
  obtain ⟨j, hj, rfl⟩ := vp_in_of h (by decide)
  rcases (show j = 0 ∨ j = 1 ∨ j = 2 ∨ j = 3 ∨ j = 4 by omega) with rfl | rfl | rfl | rfl | rfl
  · exact Or.inl rfl
  · exact Or.inr (Or.inl rfl)
  · exact Or.inr (Or.inr (Or.inl rfl))
  · exact Or.inr (Or.inr (Or.inr (Or.inl rfl)))
  · exact Or.inr (Or.inr (Or.inr (Or.inr rfl)))
theorem kz_n {v : Int32} (h : v = 0 ∨ v = 1) : narrow .boolean (.int v) = .int v ∧ fits .boolean (.int v) = true := by rcases h with rfl | rfl <;> exact ⟨rfl, rfl⟩
end BASE
end
section
/-! methods that may throw: a contract with two ends; what is thrown is new, and nothing that was there has changed -/
section THROW
/-- the two ends of a method -/
def tq (Qc : Array Value → State → Outcome → State → Prop) (Xc : String → Prop) (mc ms : Nat) (free : Addr → Prop) : Array Value → State → Outcome → State → Prop := fun a st o t =>
  (Qc a st o t ∧ ∃ L, FrameEnd st o t L mc ms ∧ ∀ q ∈ L, free q.base) ∨
  ∃ (x : Addr) (E : String) (ce : Cell), o = .threw x ∧ Xc E ∧ t.heap[x]? = some ce ∧ ce.vm = .none ∧ st.vm.findClass E = some ce.cls ∧ st.WarmedH t.vm ∧ st.sameButNew ({ t with vm := st.vm } : State) [] mc ms
def tmet (l : Launch) (y : MethodName) (ws : List Cond) (rm : Room) (Pc : Array Value → State → Prop) (Qc : Array Value → State → Outcome → State → Prop) (Xc : String → Prop) (mc ms : Nat) (free : Addr → Prop) : Prop :=
  MetFree l y (headSpec ws rm) Pc (fun _ _ _ _ _ => True) (tq Qc Xc mc ms free)
theorem tm_keeps {s U : State} {k n : Nat} (h : s.sameButNew U [] k n) : s.heap.size ≤ U.heap.size ∧ ∀ q : Nat, q < s.heap.size → U.heap[q]? = s.heap[q]? := by
  obtain ⟨-, h2, -, -, -, h6⟩ := h
  refine ⟨h2, fun q hq => ?_⟩
  obtain ⟨c9, e1, e2, -, e4⟩ := h6 q _ (Array.getElem?_eq_getElem hq)
  have hs : c9.slots = (s.heap[q]).slots := Array.ext_getElem? fun i => e4 i (fun hm => nomatch hm)
  rw [hs] at e2
  rw [e1, Array.getElem?_eq_getElem hq]
  exact congrArg some e2
variable {p : Program} {l : Launch} {e : Env} {R : Room} {s : State} {m : MethodId} {args : Array Value} {below : List Frame} {meth : Method} {c : Code} {T : State} {locs : List Loc} {cells slots : Nat}
/-- a callee of two ends, from its invocation on -/
theorem tm_inv {y : MethodName} {ws : List Cond} {rm : Room} {Pc : Array Value → State → Prop} {Qc : Array Value → State → Outcome → State → Prop} {Xc : String → Prop} {mc ms len w9 maxL : Nat} {free : Addr → Prop} {bytes : ByteArray} {ret : Option FieldType} {mk : MethodId} {a : Array Value} {g : JFrame} {ig : Instr}
    (X : Stand p l e R s m args below meth c T locs cells slots) (hM : tmet l y ws rm Pc Qc Xc mc ms free) (hbl : FrameBlind Pc) (hrc : rm.cells = mc) (hrs : rm.slots = ms) (hfr : rm.frames + 1 ≤ R.frames) (hlo : w9 + (maxL + 11) + rm.locals ≤ R.locals)
    (hws : ∀ w ∈ ws, ∀ (a' : Array Value) (U : State), s.WarmedH U.vm → w.before a' U = true) (hcode : Cond.code y bytes maxL ret ∈ ws) (hinit : (Cond.initialized y.cls).before args s = true)
    (hg : g.method = m) (hsize : g.locals.size = c.maxLocals) (hdg : decode c.code g.pc = .ok (ig, len)) (hW : 2 * g.monitorRoom + (g.stack.map fun v => v.category).sum ≤ w9) (hn : T.methodNamed? y = some mk) (hf : cells + mc ≤ R.cells ∧ slots + ms ≤ R.slots) (hP : Pc a T) :
    (∃ (v : Option Value) (t T' : State) (L : List Loc), Stand p l e R s m args below meth c T' (locs ++ L) (cells + mc) (slots + ms) ∧ (∀ q ∈ L, free q.base) ∧ T'.heap = t.heap ∧ T'.vm = t.vm ∧ Qc a (T.calling g mk a) (.returned v) t ∧
      Steps p.tables e below (doInvoke e (T.setTop g) [] mk a).1 (T'.setTop { g with pc := g.pc + len, stack := v.toList ++ g.stack })) ∨
    (∃ (x : Addr) (E : String) (ce : Cell) (T' : State), Stand p l e R s m args below meth c T' locs (cells + mc) (slots + ms) ∧ T.heap.size ≤ T'.heap.size ∧ (∀ q : Nat, q < T.heap.size → T'.heap[q]? = T.heap[q]?) ∧ Xc E ∧ T'.heap[x]? = some ce ∧ ce.vm = .none ∧ s.vm.findClass E = some ce.cls ∧
      Steps p.tables e below (doInvoke e (T.setTop g) [] mk a).1 ((T'.setTop g).pushFrame (.throwing x))) := by
  have h1 : (headSpec ws rm).pre.before a T = true := atoms_intro fun w hw => hws w hw _ _ X.warmed
  have h2 : (Cond.code y bytes maxL ret).before a T = true := hws _ hcode _ _ X.warmed
  have h3 : (Cond.initialized y.cls).before a T = true := word_at X.warmed (Or.inl (by first | rfl | simp [Cond.onTables, Cond.keeps, Cond.steady])) hinit
  obtain ⟨my, cy, hmy, hcy, -, hly, -, -, -, -⟩ := Cond.code_spec hn h2
  obtain ⟨ky, hky, -⟩ := className_of_methodNamed hn
  have hiy : ky.init = .initialized := Cond.initialized_spec (findClass_of_methodNamed hn) hky h3
  have hat : At T g.method c below := by rw [hg]; exact X.here
  have happ : (headSpec ws rm).appliesLoose y e.platform (T.calling g mk a) = true :=
    Spec.appliesLoose_calling (g := g) hat hdg hn hky hiy (X.room_calling (g := g) (R' := (headSpec ws rm).room) hsize hmy hcy hfr (by rw [hly]; show _ + _ + rm.locals ≤ _; omega) (by show cells + rm.cells ≤ _; rw [hrc]; exact hf.1) (by show slots + rm.slots ≤ _; rw [hrs]; exact hf.2)) h1
  have hff : (T.setTop g).frames = .java g :: below := by rw [State.frames_setTop' g X.here.top, X.tail]
  obtain ⟨o, s2, hst, -, hend, hq⟩ := Steps.callFree hM p X.admits X.cas X.clock (acts := []) (mid := [.java g]) (below := below) hff happ (hbl _ _ _ _ hP) trivial
  rw [hff] at hend
  rcases hq with ⟨hqc, L, ⟨⟨v, rfl⟩, hw2, hsm⟩, hL⟩ | ⟨x, E, ce, rfl, hxc, hce, hcv, hcl, hw2, hsm⟩
  · obtain ⟨T', X', -, -, ht⟩ := X.outOf hg hdg hend hw2 hsm
    have hh : T'.heap = s2.heap := by rw [ht]; rfl
    have hv : T'.vm = s2.vm := by rw [ht]; rfl
    exact Or.inl ⟨v, s2, T', L, X', hL, hh, hv, hqc, by rw [← ht]; exact hst⟩
  · obtain ⟨T', X', -, hsm2, ht⟩ := X.outOfThrown hg hend hw2 hsm
    rw [List.append_nil] at X'
    obtain ⟨k1, k2⟩ := tm_keeps hsm2
    have hh : T'.heap = s2.heap := by rw [ht, throwing_heap]
    refine Or.inr ⟨x, E, ce, T', X', k1, k2, hxc, by rw [hh]; exact hce, hcv, ?_, by rw [← ht]; exact hst⟩
    have h9 : T.vm.findClass E = some ce.cls := hcl
    rw [X.warmed.alike.findClass] at h9
    exact h9
/-- what is thrown stands over the frame -/
def wx (p : Program) (l : Launch) (e : Env) (R : Room) (s : State) (m : MethodId) (args : Array Value) (below : List Frame) (meth : Method) (c : Code) (H : Heap) (locs : List Loc) (cells slots : Nat) (Q : State → Prop) (g : JFrame) (x : Addr) : Prop :=
  ∀ T : State, T.heap = H → Stand p l e R s m args below meth c T locs cells slots → ∃ t, Steps p.tables e below ((T.setTop g).pushFrame (.throwing x)) t ∧ Q t
def tmq (below : List Frame) (Qc : Array Value → State → Outcome → State → Prop) (Xc : String → Prop) (a : Array Value) (s : State) (mc ms : Nat) (free : Addr → Prop) : State → Prop := fun t =>
  ∃ o, t.status = .running ∧ Ended t below o ∧ tq Qc Xc mc ms free a s o t
def trun (p : Program) (l : Launch) (e : Env) (R : Room) (s : State) (m : MethodId) (args : Array Value) (below : List Frame) (meth : Method) (c : Code) (H : Heap) (locs : List Loc) (cells slots mc ms : Nat) (g : JFrame) (rest : List Value) (Qa : State → Outcome → State → Prop) (Xc : String → Prop) (free : Addr → Prop) : Prop :=
  ∀ T : State, T.heap = H → Stand p l e R s m args below meth c T locs cells slots →
    (∃ (v : Option Value) (st0 t T' : State) (L : List Loc), st0.heap = H ∧ Stand p l e R s m args below meth c T' (locs ++ L) (cells + mc) (slots + ms) ∧ (∀ q ∈ L, free q.base) ∧ T'.heap = t.heap ∧ T'.vm = t.vm ∧ Qa st0 (.returned v) t ∧
      ∀ tg, Steps p.tables e below (T'.setTop { g with pc := g.pc + 3, stack := v.toList ++ rest }) tg → Steps p.tables e below (T.setTop g) tg) ∨
    (∃ (x : Addr) (E : String) (ce : Cell) (T' : State), Stand p l e R s m args below meth c T' locs (cells + mc) (slots + ms) ∧ H.size ≤ T'.heap.size ∧ (∀ q : Nat, q < H.size → T'.heap[q]? = H[q]?) ∧ Xc E ∧ T'.heap[x]? = some ce ∧ ce.vm = .none ∧ s.vm.findClass E = some ce.cls ∧
      ∀ tg, Steps p.tables e below ((T'.setTop { g with stack := rest }).pushFrame (.throwing x)) tg → Steps p.tables e below (T.setTop g) tg)
section TROWS
variable {H : Heap} {Q : State → Prop} {cc : ByteArray} {nL : Nat} {own : String} {n0 : Nat} {G : va_G} {K : KT} {ws : va_W} {pc : Nat} {ls : Array Slot} {rest : List Value}
variable {y : MethodName} {bytes : ByteArray} {maxL mc ms n index : Nat} {ret : Option FieldType} {rm : Room} {As st0 : List Value} {Qc : Array Value → State → Outcome → State → Prop} {Xc : String → Prop} {free : Addr → Prop}
theorem tr_V {ci q0 : Nat} {C1 : String} {Tf : u_T} {N : Nat} {fs : List Value} {b : Addr}
    (C : cx p s m args meth c cc nL own n0 G K) (w : wn n0 G ws s H locs) (hM : tmet l y (Cond.code y bytes maxL ret :: gw) rm (va_Pc (.ref b :: As) (wb n0 G K ws)) Qc Xc mc ms free)
    (k1 : Cond.methodLink own index y ∈ gw) (k2 : Cond.instanceMethod y ∈ gw) (k3 : Cond.selects C1 y y ∈ gw) (k4 : Cond.initialized C1 ∈ gw) (k5 : Cond.code y bytes maxL ret ∈ gw) (hd : y.cls = C1 ∧ y.cls ≠ "java/lang/invoke/MethodHandle" ∧ y.cls ≠ "java/lang/invoke/VarHandle" ∧ (parseMethodDescriptor y.desc).map (fun d => d.parameters.length) = some n)
    (hrc : rm.cells = mc) (hrs : rm.slots = ms) (hR : rm.frames + 1 ≤ R.frames ∧ 8 + (maxL + 11) + rm.locals ≤ R.locals) (hc : cl[ci]? = some (C1, Tf, N)) (he : ws[q0]? = some (b, .inr (ci, fs))) (hn : As.length = n) (hl : ls.size = nL) (hst : st0 = As.reverse ++ .ref b :: rest) (hr : (rest.map fun v => v.category).sum ≤ 8) (hdg : decode cc pc = .ok (.invokevirtual index, 3)) (hf : cells + mc ≤ R.cells ∧ slots + ms ≤ R.slots) :
    trun p l e R s m args below meth c H locs cells slots mc ms (F0 m pc ls st0) rest (Qc (Value.ref b :: As).toArray) Xc free := by
  have C' := C
  obtain ⟨hx, hb, hml, hown, hts, -, hK, -, -⟩ := C'
  obtain ⟨hC, hy1, hy2, hlen⟩ := hd
  obtain ⟨cellB, hcB, hoB, hclB⟩ := va_recv hK w.1 hc he
  obtain ⟨mk, methM, hnamed, hmethM, hstM, habM⟩ := Cond.instanceMethod_spec (hts _ k2)
  obtain ⟨methM', cM, hmethM', -, -, -, -, -, -, hsigM⟩ := Cond.code_spec hnamed (hts _ k5)
  cases hmethM.symm.trans hmethM'
  obtain ⟨c2, r2, m2, q1, q2, q3, q4, kP, hkP, hkPi⟩ := Cond.selects_spec (hts _ k3)
  cases hclB.symm.trans q1
  cases (State.methodFound?_of_named hnamed ⟨hy1, hy2⟩).symm.trans q2
  cases hnamed.symm.trans q3
  intro T hT X
  have hselP : selectMethod e.platform s.vm cellB.cls mk = .method mk := by rw [Launch.admits_selectMethod X.admits]; exact q4
  have hAl : As.length = methM.sig.parameters.length := by
    rw [hsigM] at hlen
    exact hn.trans (Option.some.inj hlen).symm
  obtain ⟨vm1, X1, hs1⟩ := X.invokevirtual hx hown (hts _ k1) hnamed hmethM hstM hkP hkPi ⟨hy1, hy2⟩ (a := b) (cell := cellB) (by rw [hT]; exact hcB)
    (fun z h => by rw [h] at hoB; cases hoB) hselP hmethM habM hkP hkPi (g := F0 m pc ls st0) rfl (argsL := As) (rest := rest) hAl hst (by rw [hb]; exact hdg)
  have hinit : (Cond.initialized y.cls).before args s = true := by rw [hC]; exact hts _ k4
  rcases tm_inv (g := { F0 m pc ls st0 with stack := rest }) (a := (Value.ref b :: As).toArray) X1 hM wb_blind hrc hrs hR.1 hR.2 (pay_in hts (gw_cons k5)) List.mem_cons_self hinit rfl (hl.trans hml.symm) (by rw [hb]; exact hdg) (lv_room (m := m) (pc := pc) (ls := ls) (rest := rest) hr) (X1.named hnamed) hf
    (wb_of C w (T.setVm vm1) hT X1.warmed) with ⟨v, t, T', L, X', hL, e1, e2, hq, st⟩ | ⟨x, E, ce, T', X', e1, e2, h1, h2, h3, h4, st⟩
  · refine Or.inl ⟨v, _, t, T', L, ?_, X', hL, e1, e2, hq, fun tg h => hs1 _ fun acts => by rw [doInvoke_state]; exact st.trans h⟩
    exact hT
  · have e1' : H.size ≤ T'.heap.size := by rw [← hT]; exact e1
    have e2' : ∀ q : Nat, q < H.size → T'.heap[q]? = H[q]? := by rw [← hT]; exact e2
    exact Or.inr ⟨x, E, ce, T', X', e1', e2', h1, h2, h3, h4, fun tg h => hs1 _ fun acts => by rw [doInvoke_state]; exact st.trans h⟩
theorem tr_S
    (C : cx p s m args meth c cc nL own n0 G K) (w : wn n0 G ws s H locs) (hM : tmet l y (Cond.code y bytes maxL ret :: gw) rm (va_Pc As (wb n0 G K ws)) Qc Xc mc ms free)
    (k1 : Cond.methodLink own index y ∈ gw) (k2 : Cond.static y ∈ gw) (k4 : Cond.initialized y.cls ∈ gw) (k5 : Cond.code y bytes maxL ret ∈ gw) (hd : y.cls ≠ "java/lang/invoke/MethodHandle" ∧ y.cls ≠ "java/lang/invoke/VarHandle" ∧ (parseMethodDescriptor y.desc).map (fun d => d.parameters.length) = some n)
    (hrc : rm.cells = mc) (hrs : rm.slots = ms) (hR : rm.frames + 1 ≤ R.frames ∧ 8 + (maxL + 11) + rm.locals ≤ R.locals) (hn : As.length = n) (hl : ls.size = nL) (hst : st0 = As.reverse ++ rest) (hr : (rest.map fun v => v.category).sum ≤ 8) (hdg : decode cc pc = .ok (.invokestatic index, 3)) (hf : cells + mc ≤ R.cells ∧ slots + ms ≤ R.slots) :
    trun p l e R s m args below meth c H locs cells slots mc ms (F0 m pc ls st0) rest (Qc As.toArray) Xc free := by
  have C' := C
  obtain ⟨hx, hb, hml, hown, hts, -, hK, -, -⟩ := C'
  obtain ⟨hy1, hy2, hlen⟩ := hd
  obtain ⟨mk, hnamed⟩ := Cond.code_named (hts _ k5)
  obtain ⟨methM, cM, hmethM, -, -, -, -, -, -, hsigM⟩ := Cond.code_spec hnamed (hts _ k5)
  have hstatic : methM.isStatic = true := Cond.static_spec hnamed hmethM (hts _ k2)
  obtain ⟨kP, hkP, -⟩ := className_of_methodNamed hnamed
  have hinitP : kP.init = .initialized := Cond.initialized_spec (findClass_of_methodNamed hnamed) hkP (hts _ k4)
  intro T hT X
  have hAl : As.length = methM.sig.parameters.length := by
    rw [hsigM] at hlen
    exact hn.trans (Option.some.inj hlen).symm
  obtain ⟨vm1, X1, hs1⟩ := X.invokestatic hx hown (hts _ k1) hnamed hmethM hstatic hkP hinitP ⟨hy1, hy2⟩ (g := F0 m pc ls st0) rfl (argsL := As) (rest := rest) hAl hst (by rw [hb]; exact hdg)
  rcases tm_inv (g := { F0 m pc ls st0 with stack := rest }) (a := As.toArray) X1 hM wb_blind hrc hrs hR.1 hR.2 (pay_in hts (gw_cons k5)) List.mem_cons_self (hts _ k4) rfl (hl.trans hml.symm) (by rw [hb]; exact hdg) (lv_room (m := m) (pc := pc) (ls := ls) (rest := rest) hr) (X1.named hnamed) hf
    (wb_of C w (T.setVm vm1) hT X1.warmed) with ⟨v, t, T', L, X', hL, e1, e2, hq, st⟩ | ⟨x, E, ce, T', X', e1, e2, h1, h2, h3, h4, st⟩
  · refine Or.inl ⟨v, _, t, T', L, ?_, X', hL, e1, e2, hq, fun tg h => hs1 _ fun acts => by rw [doInvoke_state]; exact st.trans h⟩
    exact hT
  · have e1' : H.size ≤ T'.heap.size := by rw [← hT]; exact e1
    have e2' : ∀ q : Nat, q < H.size → T'.heap[q]? = H[q]? := by rw [← hT]; exact e2
    exact Or.inr ⟨x, E, ce, T', X', e1', e2', h1, h2, h3, h4, fun tg h => hs1 _ fun acts => by rw [doInvoke_state]; exact st.trans h⟩
def rq_v (post : Prop) : Array Value → State → Outcome → State → Prop := fun _ st oc t => (oc = .returned none ∧ post) ∧ t.heap = st.heap
/-- what the throwing side of a call hands on -/
def tkx (p : Program) (l : Launch) (e : Env) (R : Room) (s : State) (m : MethodId) (args : Array Value) (below : List Frame) (meth : Method) (c : Code) (H : Heap) (locs : List Loc) (cells slots : Nat) (Q : State → Prop) (g : JFrame) (Xc : String → Prop) : Prop :=
  ∀ (x : Addr) (E : String) (ce : Cell) (H1 : Heap), H.size ≤ H1.size → (∀ q : Nat, q < H.size → H1[q]? = H[q]?) → Xc E → H1[x]? = some ce → ce.vm = .none → s.vm.findClass E = some ce.cls → wx p l e R s m args below meth c H1 locs cells slots Q g x
theorem td_v {post : Prop} {a : Array Value} (hr : trun p l e R s m args below meth c H locs cells slots mc ms (F0 m pc ls st0) rest (rq_v post a) Xc (fun _ => False))
    (kx : tkx p l e R s m args below meth c H locs (cells + mc) (slots + ms) Q (F0 m pc ls rest) Xc)
    (kk : post → W p l e R s m args below meth c H locs (cells + mc) (slots + ms) Q (F0 m (pc + 3) ls rest)) : W p l e R s m args below meth c H locs cells slots Q (F0 m pc ls st0) := by
  intro T hT X
  rcases hr T hT X with ⟨v, s0, t, T', L, h0, X', hL, e1, e2, ⟨⟨hv, hp⟩, hh⟩, st⟩ | ⟨x, E, ce, T', X', e1, e2, h1, h2, h3, h4, st⟩
  · cases hv
    obtain ⟨t2, a1, b1⟩ := kk hp T' (by rw [e1, hh, h0]) (Stand.forget X' (fun q h => (hL q h).elim))
    exact ⟨t2, st t2 a1, b1⟩
  · obtain ⟨t2, a1, b1⟩ := kx x E ce T'.heap e1 e2 h1 h2 h3 h4 T' rfl X'
    exact ⟨t2, st t2 a1, b1⟩
theorem tc_i {S : Type} {post : Int32 → S → Prop} {st : S → va_W} {a : Array Value} (w : wn n0 G ws s H locs) (hr : trun p l e R s m args below meth c H locs cells slots mc ms (F0 m pc ls st0) rest (va_Qi post (fun u t => we n0 G (st u) t) (al n0) a) Xc (al n0))
    (kx : tkx p l e R s m args below meth c H locs (cells + mc) (slots + ms) Q (F0 m pc ls rest) Xc)
    (kk : ∀ (r : Int32) (u : S) (H1 : Heap) (locs1 : List Loc), post r u → wn n0 G (st u) s H1 locs1 → W p l e R s m args below meth c H1 locs1 (cells + mc) (slots + ms) Q (F0 m (pc + 3) ls (.int r :: rest))) : W p l e R s m args below meth c H locs cells slots Q (F0 m pc ls st0) := by
  intro T hT X
  rcases hr T hT X with ⟨v, s0, t, T', L, h0, X', hL, e1, e2, ⟨⟨r, u, hv, hp, hB⟩, hz, hk⟩, st'⟩ | ⟨x, E, ce, T', X', e1, e2, h1, h2, h3, h4, st'⟩
  · cases hv
    rw [h0] at hz hk
    obtain ⟨t2, a1, b1⟩ := kk r u T'.heap (locs ++ L) hp ⟨by rw [e1]; exact hB.1, hB.2, Nat.le_trans w.2.2.1 (by rw [e1]; exact hz), fun q g1 g2 => by rw [e1, hk q (Nat.lt_of_lt_of_le g1 w.2.2.1) g2]; exact w.2.2.2.1 q g1 g2, fun q hq => by
      rcases List.mem_append.mp hq with h | h
      · exact w.2.2.2.2 q h
      · exact hL q h⟩ T' rfl X'
    exact ⟨t2, st' t2 a1, b1⟩
  · obtain ⟨t2, a1, b1⟩ := kx x E ce T'.heap e1 e2 h1 h2 h3 h4 T' rfl X'
    exact ⟨t2, st' t2 a1, b1⟩
theorem tc_l {S : Type} {post : Int64 → S → Prop} {st : S → va_W} {a : Array Value} (w : wn n0 G ws s H locs) (hr : trun p l e R s m args below meth c H locs cells slots mc ms (F0 m pc ls st0) rest (va_Ql post (fun u t => we n0 G (st u) t) (al n0) a) Xc (al n0))
    (kx : tkx p l e R s m args below meth c H locs (cells + mc) (slots + ms) Q (F0 m pc ls rest) Xc)
    (kk : ∀ (r : Int64) (u : S) (H1 : Heap) (locs1 : List Loc), post r u → wn n0 G (st u) s H1 locs1 → W p l e R s m args below meth c H1 locs1 (cells + mc) (slots + ms) Q (F0 m (pc + 3) ls (.long r :: rest))) : W p l e R s m args below meth c H locs cells slots Q (F0 m pc ls st0) := by
  intro T hT X
  rcases hr T hT X with ⟨v, s0, t, T', L, h0, X', hL, e1, e2, ⟨⟨r, u, hv, hp, hB⟩, hz, hk⟩, st'⟩ | ⟨x, E, ce, T', X', e1, e2, h1, h2, h3, h4, st'⟩
  · cases hv
    rw [h0] at hz hk
    obtain ⟨t2, a1, b1⟩ := kk r u T'.heap (locs ++ L) hp ⟨by rw [e1]; exact hB.1, hB.2, Nat.le_trans w.2.2.1 (by rw [e1]; exact hz), fun q g1 g2 => by rw [e1, hk q (Nat.lt_of_lt_of_le g1 w.2.2.1) g2]; exact w.2.2.2.1 q g1 g2, fun q hq => by
      rcases List.mem_append.mp hq with h | h
      · exact w.2.2.2.2 q h
      · exact hL q h⟩ T' rfl X'
    exact ⟨t2, st' t2 a1, b1⟩
  · obtain ⟨t2, a1, b1⟩ := kx x E ce T'.heap e1 e2 h1 h2 h3 h4 T' rfl X'
    exact ⟨t2, st' t2 a1, b1⟩
theorem tc_v {S : Type} {post : S → Prop} {st : S → va_W} {a : Array Value} (w : wn n0 G ws s H locs) (hr : trun p l e R s m args below meth c H locs cells slots mc ms (F0 m pc ls st0) rest (va_Qv post (fun u t => we n0 G (st u) t) (al n0) a) Xc (al n0))
    (kx : tkx p l e R s m args below meth c H locs (cells + mc) (slots + ms) Q (F0 m pc ls rest) Xc)
    (kk : ∀ (u : S) (H1 : Heap) (locs1 : List Loc), post u → wn n0 G (st u) s H1 locs1 → W p l e R s m args below meth c H1 locs1 (cells + mc) (slots + ms) Q (F0 m (pc + 3) ls rest)) : W p l e R s m args below meth c H locs cells slots Q (F0 m pc ls st0) := by
  intro T hT X
  rcases hr T hT X with ⟨v, s0, t, T', L, h0, X', hL, e1, e2, ⟨⟨u, hv, hp, hB⟩, hz, hk⟩, st'⟩ | ⟨x, E, ce, T', X', e1, e2, h1, h2, h3, h4, st'⟩
  · cases hv
    rw [h0] at hz hk
    obtain ⟨t2, a1, b1⟩ := kk u T'.heap (locs ++ L) hp ⟨by rw [e1]; exact hB.1, hB.2, Nat.le_trans w.2.2.1 (by rw [e1]; exact hz), fun q g1 g2 => by rw [e1, hk q (Nat.lt_of_lt_of_le g1 w.2.2.1) g2]; exact w.2.2.2.1 q g1 g2, fun q hq => by
      rcases List.mem_append.mp hq with h | h
      · exact w.2.2.2.2 q h
      · exact hL q h⟩ T' rfl X'
    exact ⟨t2, st' t2 a1, b1⟩
  · obtain ⟨t2, a1, b1⟩ := kx x E ce T'.heap e1 e2 h1 h2 h3 h4 T' rfl X'
    exact ⟨t2, st' t2 a1, b1⟩
theorem td_i {post : Int32 → Prop} {a : Array Value} (hr : trun p l e R s m args below meth c H locs cells slots mc ms (F0 m pc ls st0) rest (rq_i post a) Xc (fun _ => False))
    (kx : tkx p l e R s m args below meth c H locs (cells + mc) (slots + ms) Q (F0 m pc ls rest) Xc)
    (kk : ∀ r : Int32, post r → W p l e R s m args below meth c H locs (cells + mc) (slots + ms) Q (F0 m (pc + 3) ls (.int r :: rest))) : W p l e R s m args below meth c H locs cells slots Q (F0 m pc ls st0) := by
  intro T hT X
  rcases hr T hT X with ⟨v, s0, t, T', L, h0, X', hL, e1, e2, ⟨⟨r, hv, hp⟩, hh⟩, st⟩ | ⟨x, E, ce, T', X', e1, e2, h1, h2, h3, h4, st⟩
  · cases hv
    obtain ⟨t2, a1, b1⟩ := kk r hp T' (by rw [e1, hh, h0]) (Stand.forget X' (fun q h => (hL q h).elim))
    exact ⟨t2, st t2 a1, b1⟩
  · obtain ⟨t2, a1, b1⟩ := kx x E ce T'.heap e1 e2 h1 h2 h3 h4 T' rfl X'
    exact ⟨t2, st t2 a1, b1⟩
theorem td_l {post : Int64 → Prop} {a : Array Value} (hr : trun p l e R s m args below meth c H locs cells slots mc ms (F0 m pc ls st0) rest (rq_l post a) Xc (fun _ => False))
    (kx : tkx p l e R s m args below meth c H locs (cells + mc) (slots + ms) Q (F0 m pc ls rest) Xc)
    (kk : ∀ r : Int64, post r → W p l e R s m args below meth c H locs (cells + mc) (slots + ms) Q (F0 m (pc + 3) ls (.long r :: rest))) : W p l e R s m args below meth c H locs cells slots Q (F0 m pc ls st0) := by
  intro T hT X
  rcases hr T hT X with ⟨v, s0, t, T', L, h0, X', hL, e1, e2, ⟨⟨r, hv, hp⟩, hh⟩, st⟩ | ⟨x, E, ce, T', X', e1, e2, h1, h2, h3, h4, st⟩
  · cases hv
    obtain ⟨t2, a1, b1⟩ := kk r hp T' (by rw [e1, hh, h0]) (Stand.forget X' (fun q h => (hL q h).elim))
    exact ⟨t2, st t2 a1, b1⟩
  · obtain ⟨t2, a1, b1⟩ := kx x E ce T'.heap e1 e2 h1 h2 h3 h4 T' rfl X'
    exact ⟨t2, st t2 a1, b1⟩
/-- not caught here -/
theorem tx_pass (C : cx p s m args meth c cc nL own n0 G K) (hne : c.exceptionTable.toList = []) (hc : cells ≤ mc) (hs : slots ≤ ms) (hloc : locs = []) :
    tkx p l e R s m args below meth c H locs cells slots (tmq below Qc Xc args s mc ms free) (F0 m pc ls rest) Xc := by
  subst hloc
  intro x E ce H1 h1 h2 hx hce hv hcl T hT X
  obtain ⟨st1, hrun, hend, hW, hsm⟩ := X.leaveThrown x (g := F0 m pc ls rest) rfl rfl rfl (by rw [hne]; exact fun _ h => nomatch h) C.2.2.2.2.2.1
  exact ⟨_, st1, .threw x, hrun, hend, Or.inr ⟨x, E, ce, rfl, hx, by show T.heap[x]? = _; rw [hT]; exact hce, hv, hcl, hW, hsm.mono hc hs⟩⟩
theorem tx_ret {g : JFrame} (k : W p l e R s m args below meth c H locs cells slots (MQ below Qc args s mc ms free) g) : W p l e R s m args below meth c H locs cells slots (tmq below Qc Xc args s mc ms free) g := by
  intro T hT X
  obtain ⟨t, a1, o, b1, b2, b3, b4⟩ := k T hT X
  exact ⟨t, a1, o, b1, b2, Or.inl ⟨b3, b4⟩⟩
theorem kt_start {av : List Value}
    (hy : plainName y.cls = true) (hc : y.cls = own)
    (body : ∀ (p : Program) (e : Env) (s : State) (m : MethodId) (below : List Frame) (meth : Method) (c : Code), cx p s m av.toArray meth c bytes maxL own n0 G K → meth.sig.returnType = ret → c.exceptionTable.toList = [] → wn n0 G ws s s.heap [] → W p l e rm s m av.toArray below meth c s.heap [] 0 0 (tmq below Qc Xc av.toArray s mc ms free) (entryFrame m av.toArray maxL)) :
    tmet l y (Cond.code y bytes maxL ret :: gw) rm (va_Pc av (wb n0 G K ws)) Qc Xc mc ms free := by
  refine MetFree.of_bodyS (code := bytes) (maxLocals := maxL) (ret := ret) hy ?_ ?_
  · intro args s m h hn
    obtain ⟨meth, c, h1, h2, h3, h4, h5, h6, -, -⟩ := Cond.code_spec hn (atoms_spec (ws := Cond.code y bytes maxL ret :: gw) h _ List.mem_cons_self)
    exact ⟨meth, c, h1, h2, h3, h4, h5, h6⟩
  · intro p e s m args below meth c s1 B hml0 hv _
    obtain ⟨rfl, hn, hP, hK, hD, hF⟩ := hv
    have hts := atoms_spec (ws := Cond.code y bytes maxL ret :: gw) B.pre
    have hown : s.vm.findClass own = some m.cls := hc ▸ findClass_of_methodNamed B.named
    have hml : c.maxLocals = maxL := B.maxLocals_eq (hts _ List.mem_cons_self)
    have hne : c.exceptionTable.toList = [] := by
      have h9 := B.noHandlers (hts _ List.mem_cons_self)
      rw [Array.isEmpty_iff] at h9
      rw [h9]
    have hh0 : s1.heap = s.heap := by rw [B.state]; rfl
    obtain ⟨t, a1, o, b1, b2, b3⟩ := body p e s m below meth c ⟨B.exec, B.bytes, hml, hown, fun w h => hts w (List.mem_cons_of_mem _ h), B.notSynchronized, hK, hn, hF⟩ B.returns hne ⟨hP, hD, va_S.rf⟩ s1 hh0 (Stand.of_body B)
    exact ⟨t, o, a1, b1, b2, b3⟩
/-- throw new E("text") -/
theorem tx_throw {cls text : String} {names : List String} {ik is ic sa : Nat}
    (C : cx p s m args meth c cc nL own n0 G K) (w : wn n0 G ws s H []) (hne : c.exceptionTable.toList = []) (htr : l.stackTraces = false) (hcls : Bundle.fit cls = true) (hnames : ∀ n ∈ names, Bundle.fit n = true)
    (h : ∀ w ∈ Bundle.ownAtoms own ic cls names, w.before args s = true) (hk : Cond.classLink own ik cls ∈ gw) (hins : Cond.instantiable cls 6 ∈ gw) (hini : Cond.initialized cls ∈ gw) (hstr : vk_R own is text sa s) (hl : ls.size = nL)
    (d0 : decode cc pc = .ok (.new ik, 3)) (d3 : decode cc (pc + 3) = .ok (.dup, 1)) (d4 : decode cc (pc + 4) = .ok (.ldc is, 2)) (d6 : decode cc (pc + 6) = .ok (.invokespecial ic, 3)) (d9 : decode cc (pc + 9) = .ok (.athrow, 1))
    (hF : names.length + 3 < R.frames) (hL : (rest.map fun v => v.category).sum + (13 * (names.length + 1) + 43) ≤ R.locals) (hRc : cells + 1 ≤ R.cells) (hRs : slots + 6 ≤ R.slots) (hx : Xc cls) (hc : cells + 1 ≤ mc) (hs : slots + 6 ≤ ms) :
    W p l e R s m args below meth c H [] cells slots (tmq below Qc Xc args s mc ms free) (F0 m pc ls rest) := by
  have C' := C
  obtain ⟨hx0, hb, hml, hown, hts, hlocks, hK, -, -⟩ := C'
  refine W.newc hx0 hb hown (hts _ hk) (hts _ hins) (hts _ hini) rfl d0 hRc hRs (fun cC kC hf hkC hord hn => ?_)
  refine lv_dup hx0 hb d3 rfl ?_
  refine va_ldcS hx0 hb hown hstr d4 ?_
  intro T hT X
  have htr' : e.platform.stackTraces = false := (show e.platform.stackTraces = l.stackTraces by rw [X.admits.platform]).trans htr
  obtain ⟨U, h1, h2, h3, h4, h5, ce, h6, h7⟩ := X.ctorThrowS hx0 htr' (own := own) (cls := cls) (names := names) (ic := ic) hown hcls hnames h (fun _ h => nomatch h) hf hkC (a := H.size)
    (by rw [hT]; simp [freshCell]) w.2.2.1 (msg := .ref sa) rfl
    (g := F0 m (pc + 6) ls (.ref sa :: .ref H.size :: .ref H.size :: rest)) rfl (hl.trans hml.symm) rfl rfl (rest := rest) rfl (by rw [hb]; exact d6) (by rw [hb]; exact d9) (by rw [hne]; exact fun _ h => nomatch h) hF
    (by show 2 * 0 + _ + _ ≤ _; simp only [List.map_cons, List.sum_cons]; show 2 * 0 + (1 + _) + _ ≤ _; omega) hlocks
  exact ⟨U, h1, .threw H.size, h2, h3, Or.inr ⟨H.size, cls, ce, rfl, hx, h6, h7.vm, h7.cls, h4, h5.mono hc hs⟩⟩
end TROWS
end THROW
/-- the statics that a Throwable's constructor reads -/
theorem fx_static {n0 : Nat} {U : State} {args : Array Value} (h : fx n0 U) {C n d : String} {i j : Nat} (hl : tables_1[i]? = some (.laysStatic C n d)) (hi : tables_1[j]? = some (.initialized C)) (hr : ∀ (a0 : Array Value) (s0 : State), (Jvm.Cond.and given_1 narrow_1).before a0 s0 = true → (Cond.isRef (.static C n d)).before a0 s0 = true) :
    (Cond.laysStatic C n d).before args U = true ∧ (Cond.isRef (.static C n d)).before args U = true := by
  obtain ⟨s0, a0, h1, h2, h3, h4, h5⟩ := h
  have hl0 := h4 _ (fx_t hl)
  have hk : ∀ a : Nat, a < s0.heap.size → ¬ al n0 a → U.heap[a]? = s0.heap[a]? := fun a ha _ => h3 a (by rw [← h1]; exact ha)
  have hz := va_Zqof (A := al n0) hl0 (h4 _ (fx_t hi)) (hr a0 s0 h5) (fun a ha => Nat.not_le.mpr (by rw [← h1]; exact ha))
  constructor
  · obtain ⟨c, k, i, f, a, cell, hc, hf, hst, ha, hcell, hs, hcls, hlt, hty⟩ := Cond.laysStatic_spec hl0
    obtain ⟨k', hf9, he⟩ := State.fieldFound?_setVm h2.alike hf
    have hf' : U.fieldFound? C n d = some (c, k', i, f) := hf9
    have hc' : U.vm.findClass C = some c := by rw [h2.alike.findClass]; exact hc
    have hcell' : U.heap[a]? = some cell := by rw [h3 a (by rw [← h1]; exact (Array.getElem?_eq_some_iff.mp hcell).1)]; exact hcell
    have ha' : k'.statics = some a := by rw [he]; exact ha
    have hty' : k'.staticTypes[f.slot]? = some f.type := by rw [he]; exact hty
    simp [Cond.before, Cond.holds, Cond.value, hc', hf', ha', hcell', hst, hs, hcls, hlt, hty']
  · have key : ∀ v : Value, v.isRef = true → va_Z C n d v (al n0) U U.heap → (Cond.isRef (.static C n d)).before args U = true := by
      intro v hv hz
      obtain ⟨cf, kf, fi, f, a, cell, g1, g2, g3, g4, g5, g6, g7, g8⟩ := hz
      cases v <;> simp [Value.isRef] at hv <;> simp [Cond.before, Cond.holds, Cond.value, Term.eval, State.fieldNamed?, g1, g2, g4, g5, g6, g7]
    rcases hz with hz | ⟨t, hz⟩
    · exact key _ rfl (va_Z.moved h2.alike (hz.kept hk))
    · exact key _ rfl (va_Z.moved h2.alike (hz.kept hk))
end
