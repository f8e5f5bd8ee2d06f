section
-- ===== PART A: goes FIRST, ahead of the names: the tables' words, and 'selects' of the private methods out of them =====
/-- a private method of a class that the tables say can be made, by its rows of tables_1 -/
def lw_okq (q : MethodName × Nat) : Prop := (q.1.cls ≠ "java/lang/invoke/MethodHandle" ∧ q.1.cls ≠ "java/lang/invoke/VarHandle") ∧ Cond.instantiable q.1.cls q.2 ∈ tables_1 ∧ Cond.privateMethod q.1 ∈ tables_1 ∧ Cond.instanceMethod q.1 ∈ tables_1
theorem lw_p0 : lw_okq (⟨"java/lang/Throwable", "fillInStackTrace", "(I)Ljava/lang/Throwable;"⟩, 6) := ⟨⟨by decide +kernel, by decide +kernel⟩, List.mem_of_getElem? (i := 449) (by decide +kernel), List.mem_of_getElem? (i := 447) (by decide +kernel), List.mem_of_getElem? (i := 448) (by decide +kernel)⟩
theorem lw_p1 : lw_okq (⟨"LineBreaker", "requireRoom", "()V"⟩, 5) := ⟨⟨by decide +kernel, by decide +kernel⟩, List.mem_of_getElem? (i := 22) (by decide +kernel), List.mem_of_getElem? (i := 479) (by decide +kernel), List.mem_of_getElem? (i := 480) (by decide +kernel)⟩
theorem lw_p2 : lw_okq (⟨"LineBreaker", "requireNotReplaced", "()V"⟩, 5) := ⟨⟨by decide +kernel, by decide +kernel⟩, List.mem_of_getElem? (i := 22) (by decide +kernel), List.mem_of_getElem? (i := 517) (by decide +kernel), List.mem_of_getElem? (i := 518) (by decide +kernel)⟩
theorem lw_p3 : lw_okq (⟨"LineBreaker", "sumsAreSizes", "()Z"⟩, 5) := ⟨⟨by decide +kernel, by decide +kernel⟩, List.mem_of_getElem? (i := 22) (by decide +kernel), List.mem_of_getElem? (i := 629) (by decide +kernel), List.mem_of_getElem? (i := 630) (by decide +kernel)⟩
theorem lw_p4 : lw_okq (⟨"LineBreaker$Galley", "copyItems", "(LLineBreaker$Paragraph;LLineBreaker$Settings;I)V"⟩, 12) := ⟨⟨by decide +kernel, by decide +kernel⟩, List.mem_of_getElem? (i := 137) (by decide +kernel), List.mem_of_getElem? (i := 674) (by decide +kernel), List.mem_of_getElem? (i := 675) (by decide +kernel)⟩
theorem lw_p5 : lw_okq (⟨"LineBreaker$Galley", "close", "(I)V"⟩, 12) := ⟨⟨by decide +kernel, by decide +kernel⟩, List.mem_of_getElem? (i := 137) (by decide +kernel), List.mem_of_getElem? (i := 680) (by decide +kernel), List.mem_of_getElem? (i := 681) (by decide +kernel)⟩
theorem lw_p6 : lw_okq (⟨"LineBreaker$Galley", "sumUp", "(LLineBreaker$Paragraph;LLineBreaker$Glue;I)V"⟩, 12) := ⟨⟨by decide +kernel, by decide +kernel⟩, List.mem_of_getElem? (i := 137) (by decide +kernel), List.mem_of_getElem? (i := 684) (by decide +kernel), List.mem_of_getElem? (i := 685) (by decide +kernel)⟩
theorem lw_p7 : lw_okq (⟨"LineBreaker$Galley", "markPlaces", "(LLineBreaker$Paragraph;I)V"⟩, 12) := ⟨⟨by decide +kernel, by decide +kernel⟩, List.mem_of_getElem? (i := 137) (by decide +kernel), List.mem_of_getElem? (i := 696) (by decide +kernel), List.mem_of_getElem? (i := 697) (by decide +kernel)⟩
theorem lw_p8 : lw_okq (⟨"LineBreaker$Galley", "mayBreak", "(II)Z"⟩, 12) := ⟨⟨by decide +kernel, by decide +kernel⟩, List.mem_of_getElem? (i := 137) (by decide +kernel), List.mem_of_getElem? (i := 700) (by decide +kernel), List.mem_of_getElem? (i := 701) (by decide +kernel)⟩
theorem lw_p9 : lw_okq (⟨"LineBreaker$Galley", "findFirstOnes", "(LLineBreaker$Paragraph;I)V"⟩, 12) := ⟨⟨by decide +kernel, by decide +kernel⟩, List.mem_of_getElem? (i := 137) (by decide +kernel), List.mem_of_getElem? (i := 704) (by decide +kernel), List.mem_of_getElem? (i := 705) (by decide +kernel)⟩
theorem lw_p10 : lw_okq (⟨"LineBreaker$Search", "visit", "(I)Z"⟩, 10) := ⟨⟨by decide +kernel, by decide +kernel⟩, List.mem_of_getElem? (i := 188) (by decide +kernel), List.mem_of_getElem? (i := 735) (by decide +kernel), List.mem_of_getElem? (i := 736) (by decide +kernel)⟩
theorem lw_p11 : lw_okq (⟨"LineBreaker$Gauge", "judgeStretched", "(II)V"⟩, 9) := ⟨⟨by decide +kernel, by decide +kernel⟩, List.mem_of_getElem? (i := 194) (by decide +kernel), List.mem_of_getElem? (i := 762) (by decide +kernel), List.mem_of_getElem? (i := 763) (by decide +kernel)⟩
theorem lw_p12 : lw_okq (⟨"LineBreaker$Gauge", "judgeShrunk", "(I)V"⟩, 9) := ⟨⟨by decide +kernel, by decide +kernel⟩, List.mem_of_getElem? (i := 194) (by decide +kernel), List.mem_of_getElem? (i := 773) (by decide +kernel), List.mem_of_getElem? (i := 774) (by decide +kernel)⟩
theorem lw_p13 : lw_okq (⟨"LineBreaker$Search", "demerits", "(II)J"⟩, 10) := ⟨⟨by decide +kernel, by decide +kernel⟩, List.mem_of_getElem? (i := 188) (by decide +kernel), List.mem_of_getElem? (i := 777) (by decide +kernel), List.mem_of_getElem? (i := 778) (by decide +kernel)⟩
theorem lw_p14 : lw_okq (⟨"LineBreaker$Search", "offerFrom", "(IJ)V"⟩, 10) := ⟨⟨by decide +kernel, by decide +kernel⟩, List.mem_of_getElem? (i := 188) (by decide +kernel), List.mem_of_getElem? (i := 789) (by decide +kernel), List.mem_of_getElem? (i := 790) (by decide +kernel)⟩
theorem lw_p15 : lw_okq (⟨"LineBreaker$Search", "settle", "(I)Z"⟩, 10) := ⟨⟨by decide +kernel, by decide +kernel⟩, List.mem_of_getElem? (i := 188) (by decide +kernel), List.mem_of_getElem? (i := 803) (by decide +kernel), List.mem_of_getElem? (i := 804) (by decide +kernel)⟩
def lw_privs_1 : List (MethodName × Nat) := [(⟨"java/lang/Throwable", "fillInStackTrace", "(I)Ljava/lang/Throwable;"⟩, 6), (⟨"LineBreaker", "requireRoom", "()V"⟩, 5), (⟨"LineBreaker", "requireNotReplaced", "()V"⟩, 5), (⟨"LineBreaker", "sumsAreSizes", "()Z"⟩, 5), (⟨"LineBreaker$Galley", "copyItems", "(LLineBreaker$Paragraph;LLineBreaker$Settings;I)V"⟩, 12), (⟨"LineBreaker$Galley", "close", "(I)V"⟩, 12), (⟨"LineBreaker$Galley", "sumUp", "(LLineBreaker$Paragraph;LLineBreaker$Glue;I)V"⟩, 12), (⟨"LineBreaker$Galley", "markPlaces", "(LLineBreaker$Paragraph;I)V"⟩, 12), (⟨"LineBreaker$Galley", "mayBreak", "(II)Z"⟩, 12), (⟨"LineBreaker$Galley", "findFirstOnes", "(LLineBreaker$Paragraph;I)V"⟩, 12), (⟨"LineBreaker$Search", "visit", "(I)Z"⟩, 10), (⟨"LineBreaker$Gauge", "judgeStretched", "(II)V"⟩, 9), (⟨"LineBreaker$Gauge", "judgeShrunk", "(I)V"⟩, 9), (⟨"LineBreaker$Search", "demerits", "(II)J"⟩, 10), (⟨"LineBreaker$Search", "offerFrom", "(IJ)V"⟩, 10), (⟨"LineBreaker$Search", "settle", "(I)Z"⟩, 10)]
theorem lw_r1 : ∀ q ∈ lw_privs_1, lw_okq q := List.forall_mem_cons.mpr ⟨lw_p0, List.forall_mem_cons.mpr ⟨lw_p1, List.forall_mem_cons.mpr ⟨lw_p2, List.forall_mem_cons.mpr ⟨lw_p3, List.forall_mem_cons.mpr ⟨lw_p4, List.forall_mem_cons.mpr ⟨lw_p5, List.forall_mem_cons.mpr ⟨lw_p6, List.forall_mem_cons.mpr ⟨lw_p7, List.forall_mem_cons.mpr ⟨lw_p8, List.forall_mem_cons.mpr ⟨lw_p9, List.forall_mem_cons.mpr ⟨lw_p10, List.forall_mem_cons.mpr ⟨lw_p11, List.forall_mem_cons.mpr ⟨lw_p12, List.forall_mem_cons.mpr ⟨lw_p13, List.forall_mem_cons.mpr ⟨lw_p14, List.forall_mem_cons.mpr ⟨lw_p15, fun _ h => absurd h List.not_mem_nil⟩⟩⟩⟩⟩⟩⟩⟩⟩⟩⟩⟩⟩⟩⟩⟩
theorem lw_p16 : lw_okq (⟨"LineBreaker$Search", "choose", "()I"⟩, 10) := ⟨⟨by decide +kernel, by decide +kernel⟩, List.mem_of_getElem? (i := 188) (by decide +kernel), List.mem_of_getElem? (i := 815) (by decide +kernel), List.mem_of_getElem? (i := 816) (by decide +kernel)⟩
theorem lw_p17 : lw_okq (⟨"LineBreaker$Search", "isPreferred", "(IIII)Z"⟩, 10) := ⟨⟨by decide +kernel, by decide +kernel⟩, List.mem_of_getElem? (i := 188) (by decide +kernel), List.mem_of_getElem? (i := 823) (by decide +kernel), List.mem_of_getElem? (i := 824) (by decide +kernel)⟩
theorem lw_p18 : lw_okq (⟨"LineBreaker", "requireLine", "(I)V"⟩, 5) := ⟨⟨by decide +kernel, by decide +kernel⟩, List.mem_of_getElem? (i := 22) (by decide +kernel), List.mem_of_getElem? (i := 843) (by decide +kernel), List.mem_of_getElem? (i := 844) (by decide +kernel)⟩
theorem lw_p19 : lw_okq (⟨"LineBreakerModel", "append", "(IIIIIII)I"⟩, 43) := ⟨⟨by decide +kernel, by decide +kernel⟩, List.mem_of_getElem? (i := 871) (by decide +kernel), List.mem_of_getElem? (i := 1021) (by decide +kernel), List.mem_of_getElem? (i := 1022) (by decide +kernel)⟩
theorem lw_p20 : lw_okq (⟨"LineBreakerModel", "replacer", "(I)I"⟩, 43) := ⟨⟨by decide +kernel, by decide +kernel⟩, List.mem_of_getElem? (i := 871) (by decide +kernel), List.mem_of_getElem? (i := 1036) (by decide +kernel), List.mem_of_getElem? (i := 1037) (by decide +kernel)⟩
theorem lw_p21 : lw_okq (⟨"LineBreakerModel", "fitsInSizes", "()Z"⟩, 43) := ⟨⟨by decide +kernel, by decide +kernel⟩, List.mem_of_getElem? (i := 871) (by decide +kernel), List.mem_of_getElem? (i := 1088) (by decide +kernel), List.mem_of_getElem? (i := 1089) (by decide +kernel)⟩
theorem lw_p22 : lw_okq (⟨"LineBreakerModel", "make", "()Z"⟩, 43) := ⟨⟨by decide +kernel, by decide +kernel⟩, List.mem_of_getElem? (i := 871) (by decide +kernel), List.mem_of_getElem? (i := 1095) (by decide +kernel), List.mem_of_getElem? (i := 1096) (by decide +kernel)⟩
theorem lw_p23 : lw_okq (⟨"LineBreakerModel", "isPlace", "(I)Z"⟩, 43) := ⟨⟨by decide +kernel, by decide +kernel⟩, List.mem_of_getElem? (i := 871) (by decide +kernel), List.mem_of_getElem? (i := 1099) (by decide +kernel), List.mem_of_getElem? (i := 1100) (by decide +kernel)⟩
theorem lw_p24 : lw_okq (⟨"LineBreakerModel", "fine", "(I)I"⟩, 43) := ⟨⟨by decide +kernel, by decide +kernel⟩, List.mem_of_getElem? (i := 871) (by decide +kernel), List.mem_of_getElem? (i := 1103) (by decide +kernel), List.mem_of_getElem? (i := 1104) (by decide +kernel)⟩
theorem lw_p25 : lw_okq (⟨"LineBreakerModel", "ask", "(I)Z"⟩, 43) := ⟨⟨by decide +kernel, by decide +kernel⟩, List.mem_of_getElem? (i := 871) (by decide +kernel), List.mem_of_getElem? (i := 1107) (by decide +kernel), List.mem_of_getElem? (i := 1108) (by decide +kernel)⟩
theorem lw_p26 : lw_okq (⟨"LineBreakerModel", "measure", "(II)V"⟩, 43) := ⟨⟨by decide +kernel, by decide +kernel⟩, List.mem_of_getElem? (i := 871) (by decide +kernel), List.mem_of_getElem? (i := 1111) (by decide +kernel), List.mem_of_getElem? (i := 1112) (by decide +kernel)⟩
theorem lw_p27 : lw_okq (⟨"LineBreakerModel", "addGlue", "(IIII)V"⟩, 43) := ⟨⟨by decide +kernel, by decide +kernel⟩, List.mem_of_getElem? (i := 871) (by decide +kernel), List.mem_of_getElem? (i := 1115) (by decide +kernel), List.mem_of_getElem? (i := 1116) (by decide +kernel)⟩
theorem lw_p28 : lw_okq (⟨"LineBreakerModel", "isHyphen", "(I)Z"⟩, 43) := ⟨⟨by decide +kernel, by decide +kernel⟩, List.mem_of_getElem? (i := 871) (by decide +kernel), List.mem_of_getElem? (i := 1119) (by decide +kernel), List.mem_of_getElem? (i := 1120) (by decide +kernel)⟩
theorem lw_p29 : lw_okq (⟨"LineBreakerModel", "firstOf", "(I)I"⟩, 43) := ⟨⟨by decide +kernel, by decide +kernel⟩, List.mem_of_getElem? (i := 871) (by decide +kernel), List.mem_of_getElem? (i := 1123) (by decide +kernel), List.mem_of_getElem? (i := 1124) (by decide +kernel)⟩
theorem lw_p30 : lw_okq (⟨"LineBreakerModel", "isDropped", "(I)Z"⟩, 43) := ⟨⟨by decide +kernel, by decide +kernel⟩, List.mem_of_getElem? (i := 871) (by decide +kernel), List.mem_of_getElem? (i := 1127) (by decide +kernel), List.mem_of_getElem? (i := 1128) (by decide +kernel)⟩
theorem lw_p31 : lw_okq (⟨"LineBreakerModel", "judge", "(I)V"⟩, 43) := ⟨⟨by decide +kernel, by decide +kernel⟩, List.mem_of_getElem? (i := 871) (by decide +kernel), List.mem_of_getElem? (i := 1131) (by decide +kernel), List.mem_of_getElem? (i := 1132) (by decide +kernel)⟩
def lw_privs_2 : List (MethodName × Nat) := [(⟨"LineBreaker$Search", "choose", "()I"⟩, 10), (⟨"LineBreaker$Search", "isPreferred", "(IIII)Z"⟩, 10), (⟨"LineBreaker", "requireLine", "(I)V"⟩, 5), (⟨"LineBreakerModel", "append", "(IIIIIII)I"⟩, 43), (⟨"LineBreakerModel", "replacer", "(I)I"⟩, 43), (⟨"LineBreakerModel", "fitsInSizes", "()Z"⟩, 43), (⟨"LineBreakerModel", "make", "()Z"⟩, 43), (⟨"LineBreakerModel", "isPlace", "(I)Z"⟩, 43), (⟨"LineBreakerModel", "fine", "(I)I"⟩, 43), (⟨"LineBreakerModel", "ask", "(I)Z"⟩, 43), (⟨"LineBreakerModel", "measure", "(II)V"⟩, 43), (⟨"LineBreakerModel", "addGlue", "(IIII)V"⟩, 43), (⟨"LineBreakerModel", "isHyphen", "(I)Z"⟩, 43), (⟨"LineBreakerModel", "firstOf", "(I)I"⟩, 43), (⟨"LineBreakerModel", "isDropped", "(I)Z"⟩, 43), (⟨"LineBreakerModel", "judge", "(I)V"⟩, 43)]
theorem lw_r2 : ∀ q ∈ lw_privs_2, lw_okq q := List.forall_mem_cons.mpr ⟨lw_p16, List.forall_mem_cons.mpr ⟨lw_p17, List.forall_mem_cons.mpr ⟨lw_p18, List.forall_mem_cons.mpr ⟨lw_p19, List.forall_mem_cons.mpr ⟨lw_p20, List.forall_mem_cons.mpr ⟨lw_p21, List.forall_mem_cons.mpr ⟨lw_p22, List.forall_mem_cons.mpr ⟨lw_p23, List.forall_mem_cons.mpr ⟨lw_p24, List.forall_mem_cons.mpr ⟨lw_p25, List.forall_mem_cons.mpr ⟨lw_p26, List.forall_mem_cons.mpr ⟨lw_p27, List.forall_mem_cons.mpr ⟨lw_p28, List.forall_mem_cons.mpr ⟨lw_p29, List.forall_mem_cons.mpr ⟨lw_p30, List.forall_mem_cons.mpr ⟨lw_p31, fun _ h => absurd h List.not_mem_nil⟩⟩⟩⟩⟩⟩⟩⟩⟩⟩⟩⟩⟩⟩⟩⟩
theorem lw_p32 : lw_okq (⟨"LineBreakerModel", "reach", "(III)Z"⟩, 43) := ⟨⟨by decide +kernel, by decide +kernel⟩, List.mem_of_getElem? (i := 871) (by decide +kernel), List.mem_of_getElem? (i := 1144) (by decide +kernel), List.mem_of_getElem? (i := 1145) (by decide +kernel)⟩
theorem lw_p33 : lw_okq (⟨"LineBreakerModel", "demerits", "(II)J"⟩, 43) := ⟨⟨by decide +kernel, by decide +kernel⟩, List.mem_of_getElem? (i := 871) (by decide +kernel), List.mem_of_getElem? (i := 1148) (by decide +kernel), List.mem_of_getElem? (i := 1149) (by decide +kernel)⟩
theorem lw_p34 : lw_okq (⟨"LineBreakerModel", "write", "(IIIJ)V"⟩, 43) := ⟨⟨by decide +kernel, by decide +kernel⟩, List.mem_of_getElem? (i := 871) (by decide +kernel), List.mem_of_getElem? (i := 1155) (by decide +kernel), List.mem_of_getElem? (i := 1156) (by decide +kernel)⟩
theorem lw_p35 : lw_okq (⟨"LineBreakerModel", "isBefore", "(II)Z"⟩, 43) := ⟨⟨by decide +kernel, by decide +kernel⟩, List.mem_of_getElem? (i := 871) (by decide +kernel), List.mem_of_getElem? (i := 1159) (by decide +kernel), List.mem_of_getElem? (i := 1160) (by decide +kernel)⟩
theorem lw_p36 : lw_okq (⟨"LineBreakerModel", "choose", "()I"⟩, 43) := ⟨⟨by decide +kernel, by decide +kernel⟩, List.mem_of_getElem? (i := 871) (by decide +kernel), List.mem_of_getElem? (i := 1163) (by decide +kernel), List.mem_of_getElem? (i := 1164) (by decide +kernel)⟩
theorem lw_p37 : lw_okq (⟨"LineBreakerModel", "isLess", "(II)Z"⟩, 43) := ⟨⟨by decide +kernel, by decide +kernel⟩, List.mem_of_getElem? (i := 871) (by decide +kernel), List.mem_of_getElem? (i := 1167) (by decide +kernel), List.mem_of_getElem? (i := 1168) (by decide +kernel)⟩
theorem lw_p38 : lw_okq (⟨"LineBreakerModel", "tell", "(I)I"⟩, 43) := ⟨⟨by decide +kernel, by decide +kernel⟩, List.mem_of_getElem? (i := 871) (by decide +kernel), List.mem_of_getElem? (i := 1174) (by decide +kernel), List.mem_of_getElem? (i := 1175) (by decide +kernel)⟩
theorem lw_p39 : lw_okq (⟨"LineBreakerModel", "isLine", "(I)Z"⟩, 43) := ⟨⟨by decide +kernel, by decide +kernel⟩, List.mem_of_getElem? (i := 871) (by decide +kernel), List.mem_of_getElem? (i := 1190) (by decide +kernel), List.mem_of_getElem? (i := 1191) (by decide +kernel)⟩
def lw_privs_3 : List (MethodName × Nat) := [(⟨"LineBreakerModel", "reach", "(III)Z"⟩, 43), (⟨"LineBreakerModel", "demerits", "(II)J"⟩, 43), (⟨"LineBreakerModel", "write", "(IIIJ)V"⟩, 43), (⟨"LineBreakerModel", "isBefore", "(II)Z"⟩, 43), (⟨"LineBreakerModel", "choose", "()I"⟩, 43), (⟨"LineBreakerModel", "isLess", "(II)Z"⟩, 43), (⟨"LineBreakerModel", "tell", "(I)I"⟩, 43), (⟨"LineBreakerModel", "isLine", "(I)Z"⟩, 43)]
theorem lw_r3 : ∀ q ∈ lw_privs_3, lw_okq q := List.forall_mem_cons.mpr ⟨lw_p32, List.forall_mem_cons.mpr ⟨lw_p33, List.forall_mem_cons.mpr ⟨lw_p34, List.forall_mem_cons.mpr ⟨lw_p35, List.forall_mem_cons.mpr ⟨lw_p36, List.forall_mem_cons.mpr ⟨lw_p37, List.forall_mem_cons.mpr ⟨lw_p38, List.forall_mem_cons.mpr ⟨lw_p39, fun _ h => absurd h List.not_mem_nil⟩⟩⟩⟩⟩⟩⟩⟩
def lw_privs : List (MethodName × Nat) := lw_privs_1 ++ (lw_privs_2 ++ (lw_privs_3))
def lw_tbl : List Cond := k2_sels lw_privs ++ tables_1
theorem lw_privs_ok : ∀ q ∈ lw_privs, lw_okq q := by
  show ∀ q ∈ lw_privs_1 ++ (lw_privs_2 ++ (lw_privs_3)), lw_okq q
  exact List.forall_mem_append.mpr ⟨lw_r1, List.forall_mem_append.mpr ⟨lw_r2, lw_r3⟩⟩
-- ===== end of PART A; then your names; then what follows =====
end
section
/-! the rows that all methods share: the words, the world, calls -/
def gw : List Cond := lw_tbl.filter goodWord
theorem gw_of {w : Cond} (h : w ∈ lw_tbl) (g : goodWord w = true) : w ∈ gw := List.mem_filter.mpr ⟨h, g⟩
theorem gw_t {w : Cond} (h : w ∈ tables_1) (g : goodWord w = true) : w ∈ gw := gw_of (List.mem_append_right _ h) g
theorem gw_s {w : Cond} (h : w ∈ k2_sels lw_privs) (g : goodWord w = true) : w ∈ gw := gw_of (List.mem_append_left _ h) g
theorem gw_ok {w : Cond} (h : w ∈ gw) : w ∈ gw ∧ ((w.onTables && w.keeps) = true ∨ ∃ ty, w = .arrayClass ty) := ⟨h, good_of_word (List.mem_filter.mp h).2⟩
theorem gw_cons {c : Cond} (hc : c ∈ gw) : GoodIn gw (c :: gw) := fun w h => (List.mem_cons.mp h).elim (fun e => by rw [e]; exact gw_ok hc) gw_ok
theorem gw_V {own C : String} {idx : Nat} {y : MethodName} {c : Cond} (h1 : Cond.methodLink own idx y ∈ gw) (h2 : Cond.instanceMethod y ∈ gw) (h3 : Cond.selects C y y ∈ gw) (h4 : Cond.initialized C ∈ gw) (h5 : c ∈ gw) : GoodIn gw (wsV own idx C y (c :: gw)) := by
  intro w h
  rcases List.mem_append.mp h with h | h
  · simp only [List.mem_cons, List.not_mem_nil, or_false] at h
    rcases h with rfl | rfl | rfl | rfl
    · exact gw_ok h1
    · exact gw_ok h2
    · exact gw_ok h3
    · exact gw_ok h4
  · exact gw_cons h5 w h
theorem gw_S {own : String} {idx : Nat} {y : MethodName} {c : Cond} (h1 : Cond.methodLink own idx y ∈ gw) (h2 : Cond.static y ∈ gw) (h4 : Cond.initialized y.cls ∈ gw) (h5 : c ∈ gw) : GoodIn gw (va_wsS own idx y (c :: gw)) := by
  intro w h
  rcases List.mem_append.mp h with h | h
  · simp only [List.mem_cons, List.not_mem_nil, or_false] at h
    rcases h with rfl | rfl | rfl
    · exact gw_ok h1
    · exact gw_ok h2
    · exact gw_ok h4
  · exact gw_cons h5 w h
theorem in_ps {ws : List Cond} (ps : List Nat) (h : ws = ps.filterMap (fun i => tables_1[i]?)) (g : ws.all goodWord = true) : ∀ w ∈ ws, w ∈ gw := by
  intro w hw
  have h1 := List.all_eq_true.mp g w hw
  rw [h] at hw
  obtain ⟨i, -, hi⟩ := List.mem_filterMap.mp hw
  exact gw_t (List.mem_of_getElem? hi) h1
end
section
def R_Ga : String := "LineBreaker$Galley"
def F_Ga : u_T := fun k => match k with
  | 0 => ("LineBreaker$Galley", "kind", "[I", true)
  | 1 => ("LineBreaker$Galley", "penalty", "[I", true)
  | 2 => ("LineBreaker$Galley", "breakable", "[Z", true)
  | 3 => ("LineBreaker$Galley", "first", "[I", true)
  | 4 => ("LineBreaker$Galley", "before", "[I", true)
  | 5 => ("LineBreaker$Galley", "behind", "[I", true)
  | 6 => ("LineBreaker$Galley", "widthUpTo", "[I", true)
  | 7 => ("LineBreaker$Galley", "finiteUpTo", "[I", true)
  | 8 => ("LineBreaker$Galley", "endlessUpTo", "[I", true)
  | 9 => ("LineBreaker$Galley", "shrinkUpTo", "[I", true)
  | 10 => ("LineBreaker$Galley", "nextKept", "[I", true)
  | _ => ("LineBreaker$Galley", "last", "I", false)
def t_Ga : Nat → FieldType := fun k => match k with
  | 0 => .array .int
  | 1 => .array .int
  | 2 => .array .boolean
  | 3 => .array .int
  | 4 => .array .int
  | 5 => .array .int
  | 6 => .array .int
  | 7 => .array .int
  | 8 => .array .int
  | 9 => .array .int
  | 10 => .array .int
  | _ => .int
theorem n_Ga : ∀ a, a < 12 → ∀ b, b < 12 → a ≠ b → (F_Ga a).2.1 ≠ (F_Ga b).2.1 := by decide +kernel
theorem tk_Ga : ∀ k, k < 12 → parseFieldDescriptor (F_Ga k).2.2.1 = some (t_Ga k) := by decide +kernel
theorem iw_Ga : ∀ w ∈ u_ws R_Ga F_Ga 12, w ∈ gw := in_ps [161, 163, 165, 167, 169, 171, 173, 175, 177, 179, 181, 183] (by decide +kernel) (by decide +kernel)
def R_Gu : String := "LineBreaker$Gauge"
def F_Gu : u_T := fun k => match k with
  | 0 => ("LineBreaker$Gauge", "galley", "LLineBreaker$Galley;", true)
  | 1 => ("LineBreaker$Gauge", "settings", "LLineBreaker$Settings;", true)
  | 2 => ("LineBreaker$Gauge", "moreStretch", "I", false)
  | 3 => ("LineBreaker$Gauge", "shortfall", "I", false)
  | 4 => ("LineBreaker$Gauge", "badness", "I", false)
  | 5 => ("LineBreaker$Gauge", "fit", "I", false)
  | 6 => ("LineBreaker$Gauge", "knownFrom", "I", false)
  | 7 => ("LineBreaker$Gauge", "knownTo", "I", false)
  | _ => ("LineBreaker$Gauge", "knownWidth", "I", false)
def t_Gu : Nat → FieldType := fun k => match k with
  | 0 => .object "LineBreaker$Galley"
  | 1 => .object "LineBreaker$Settings"
  | 2 => .int
  | 3 => .int
  | 4 => .int
  | 5 => .int
  | 6 => .int
  | 7 => .int
  | _ => .int
theorem n_Gu : ∀ a, a < 9 → ∀ b, b < 9 → a ≠ b → (F_Gu a).2.1 ≠ (F_Gu b).2.1 := by decide +kernel
theorem tk_Gu : ∀ k, k < 9 → parseFieldDescriptor (F_Gu k).2.2.1 = some (t_Gu k) := by decide +kernel
theorem iw_Gu : ∀ w ∈ u_ws R_Gu F_Gu 9, w ∈ gw := in_ps [213, 215, 217, 219, 221, 223, 225, 227, 229] (by decide +kernel) (by decide +kernel)
def R_Gl : String := "LineBreaker$Glue"
def F_Gl : u_T := fun k => match k with
  | 0 => ("LineBreaker$Glue", "width", "I", false)
  | 1 => ("LineBreaker$Glue", "stretch", "I", false)
  | 2 => ("LineBreaker$Glue", "order", "I", false)
  | _ => ("LineBreaker$Glue", "shrink", "I", false)
def t_Gl : Nat → FieldType := fun k => match k with
  | 0 => .int
  | 1 => .int
  | 2 => .int
  | _ => .int
theorem n_Gl : ∀ a, a < 4 → ∀ b, b < 4 → a ≠ b → (F_Gl a).2.1 ≠ (F_Gl b).2.1 := by decide +kernel
theorem tk_Gl : ∀ k, k < 4 → parseFieldDescriptor (F_Gl k).2.2.1 = some (t_Gl k) := by decide +kernel
theorem iw_Gl : ∀ w ∈ u_ws R_Gl F_Gl 4, w ∈ gw := in_ps [100, 102, 104, 106] (by decide +kernel) (by decide +kernel)
def R_No : String := "LineBreaker$Nodes"
def F_No : u_T := fun k => match k with
  | 0 => ("LineBreaker$Nodes", "place", "[I", true)
  | 1 => ("LineBreaker$Nodes", "lines", "[I", true)
  | 2 => ("LineBreaker$Nodes", "fit", "[I", true)
  | 3 => ("LineBreaker$Nodes", "former", "[I", true)
  | 4 => ("LineBreaker$Nodes", "total", "[J", true)
  | _ => ("LineBreaker$Nodes", "count", "I", false)
def t_No : Nat → FieldType := fun k => match k with
  | 0 => .array .int
  | 1 => .array .int
  | 2 => .array .int
  | 3 => .array .int
  | 4 => .array .long
  | _ => .int
theorem n_No : ∀ a, a < 6 → ∀ b, b < 6 → a ≠ b → (F_No a).2.1 ≠ (F_No b).2.1 := by decide +kernel
theorem tk_No : ∀ k, k < 6 → parseFieldDescriptor (F_No k).2.2.1 = some (t_No k) := by decide +kernel
theorem iw_No : ∀ w ∈ u_ws R_No F_No 6, w ∈ gw := in_ps [260, 262, 264, 266, 268, 270] (by decide +kernel) (by decide +kernel)
def R_Of : String := "LineBreaker$Offers"
def F_Of : u_T := fun k => match k with
  | 0 => ("LineBreaker$Offers", "total", "[J", true)
  | 1 => ("LineBreaker$Offers", "former", "[I", true)
  | 2 => ("LineBreaker$Offers", "fewest", "I", false)
  | _ => ("LineBreaker$Offers", "most", "I", false)
def t_Of : Nat → FieldType := fun k => match k with
  | 0 => .array .long
  | 1 => .array .int
  | 2 => .int
  | _ => .int
theorem n_Of : ∀ a, a < 4 → ∀ b, b < 4 → a ≠ b → (F_Of a).2.1 ≠ (F_Of b).2.1 := by decide +kernel
theorem tk_Of : ∀ k, k < 4 → parseFieldDescriptor (F_Of k).2.2.1 = some (t_Of k) := by decide +kernel
theorem iw_Of : ∀ w ∈ u_ws R_Of F_Of 4, w ∈ gw := in_ps [284, 286, 288, 290] (by decide +kernel) (by decide +kernel)
def R_Ou : String := "LineBreaker$Outcome"
def F_Ou : u_T := fun k => match k with
  | 0 => ("LineBreaker$Outcome", "facts", "[[I", true)
  | 1 => ("LineBreaker$Outcome", "totals", "[J", true)
  | 2 => ("LineBreaker$Outcome", "count", "I", false)
  | 3 => ("LineBreaker$Outcome", "passNumber", "I", false)
  | _ => ("LineBreaker$Outcome", "nodesMade", "I", false)
def t_Ou : Nat → FieldType := fun k => match k with
  | 0 => .array (.array .int)
  | 1 => .array .long
  | 2 => .int
  | 3 => .int
  | _ => .int
theorem n_Ou : ∀ a, a < 5 → ∀ b, b < 5 → a ≠ b → (F_Ou a).2.1 ≠ (F_Ou b).2.1 := by decide +kernel
theorem tk_Ou : ∀ k, k < 5 → parseFieldDescriptor (F_Ou k).2.2.1 = some (t_Ou k) := by decide +kernel
theorem iw_Ou : ∀ w ∈ u_ws R_Ou F_Ou 5, w ∈ gw := in_ps [345, 347, 349, 351, 353] (by decide +kernel) (by decide +kernel)
def R_Pa : String := "LineBreaker$Paragraph"
def F_Pa : u_T := fun k => match k with
  | 0 => ("LineBreaker$Paragraph", "kind", "[I", true)
  | 1 => ("LineBreaker$Paragraph", "width", "[I", true)
  | 2 => ("LineBreaker$Paragraph", "stretch", "[I", true)
  | 3 => ("LineBreaker$Paragraph", "order", "[I", true)
  | 4 => ("LineBreaker$Paragraph", "shrink", "[I", true)
  | 5 => ("LineBreaker$Paragraph", "penalty", "[I", true)
  | 6 => ("LineBreaker$Paragraph", "before", "[I", true)
  | 7 => ("LineBreaker$Paragraph", "behind", "[I", true)
  | 8 => ("LineBreaker$Paragraph", "replaced", "[I", true)
  | _ => ("LineBreaker$Paragraph", "count", "I", false)
def t_Pa : Nat → FieldType := fun k => match k with
  | 0 => .array .int
  | 1 => .array .int
  | 2 => .array .int
  | 3 => .array .int
  | 4 => .array .int
  | 5 => .array .int
  | 6 => .array .int
  | 7 => .array .int
  | 8 => .array .int
  | _ => .int
theorem n_Pa : ∀ a, a < 10 → ∀ b, b < 10 → a ≠ b → (F_Pa a).2.1 ≠ (F_Pa b).2.1 := by decide +kernel
theorem tk_Pa : ∀ k, k < 10 → parseFieldDescriptor (F_Pa k).2.2.1 = some (t_Pa k) := by decide +kernel
theorem iw_Pa : ∀ w ∈ u_ws R_Pa F_Pa 10, w ∈ gw := in_ps [55, 57, 59, 61, 63, 65, 67, 69, 71, 73] (by decide +kernel) (by decide +kernel)
def R_Se : String := "LineBreaker$Search"
def F_Se : u_T := fun k => match k with
  | 0 => ("LineBreaker$Search", "galley", "LLineBreaker$Galley;", true)
  | 1 => ("LineBreaker$Search", "settings", "LLineBreaker$Settings;", true)
  | 2 => ("LineBreaker$Search", "gauge", "LLineBreaker$Gauge;", true)
  | 3 => ("LineBreaker$Search", "nodes", "LLineBreaker$Nodes;", true)
  | 4 => ("LineBreaker$Search", "offers", "LLineBreaker$Offers;", true)
  | 5 => ("LineBreaker$Search", "alive", "[I", true)
  | 6 => ("LineBreaker$Search", "aliveCount", "I", false)
  | 7 => ("LineBreaker$Search", "firstAtPlace", "I", false)
  | 8 => ("LineBreaker$Search", "tolerance", "I", false)
  | _ => ("LineBreaker$Search", "isLast", "Z", false)
def t_Se : Nat → FieldType := fun k => match k with
  | 0 => .object "LineBreaker$Galley"
  | 1 => .object "LineBreaker$Settings"
  | 2 => .object "LineBreaker$Gauge"
  | 3 => .object "LineBreaker$Nodes"
  | 4 => .object "LineBreaker$Offers"
  | 5 => .array .int
  | 6 => .int
  | 7 => .int
  | 8 => .int
  | _ => .boolean
theorem n_Se : ∀ a, a < 10 → ∀ b, b < 10 → a ≠ b → (F_Se a).2.1 ≠ (F_Se b).2.1 := by decide +kernel
theorem tk_Se : ∀ k, k < 10 → parseFieldDescriptor (F_Se k).2.2.1 = some (t_Se k) := by decide +kernel
theorem iw_Se : ∀ w ∈ u_ws R_Se F_Se 10, w ∈ gw := in_ps [306, 308, 310, 312, 314, 316, 318, 320, 322, 324] (by decide +kernel) (by decide +kernel)
def R_St : String := "LineBreaker$Settings"
def F_St : u_T := fun k => match k with
  | 0 => ("LineBreaker$Settings", "values", "[I", true)
  | 1 => ("LineBreaker$Settings", "widths", "[I", true)
  | 2 => ("LineBreaker$Settings", "left", "LLineBreaker$Glue;", true)
  | 3 => ("LineBreaker$Settings", "right", "LLineBreaker$Glue;", true)
  | _ => ("LineBreaker$Settings", "fill", "LLineBreaker$Glue;", true)
def t_St : Nat → FieldType := fun k => match k with
  | 0 => .array .int
  | 1 => .array .int
  | 2 => .object "LineBreaker$Glue"
  | 3 => .object "LineBreaker$Glue"
  | _ => .object "LineBreaker$Glue"
theorem n_St : ∀ a, a < 5 → ∀ b, b < 5 → a ≠ b → (F_St a).2.1 ≠ (F_St b).2.1 := by decide +kernel
theorem tk_St : ∀ k, k < 5 → parseFieldDescriptor (F_St k).2.2.1 = some (t_St k) := by decide +kernel
theorem iw_St : ∀ w ∈ u_ws R_St F_St 5, w ∈ gw := in_ps [125, 127, 129, 131, 133] (by decide +kernel) (by decide +kernel)
def R_Lb : String := "LineBreaker"
def F_Lb : u_T := fun k => match k with
  | 0 => ("LineBreaker", "paragraph", "LLineBreaker$Paragraph;", true)
  | 1 => ("LineBreaker", "settings", "LLineBreaker$Settings;", true)
  | 2 => ("LineBreaker", "galley", "LLineBreaker$Galley;", true)
  | 3 => ("LineBreaker", "search", "LLineBreaker$Search;", true)
  | _ => ("LineBreaker", "outcome", "LLineBreaker$Outcome;", true)
def t_Lb : Nat → FieldType := fun k => match k with
  | 0 => .object "LineBreaker$Paragraph"
  | 1 => .object "LineBreaker$Settings"
  | 2 => .object "LineBreaker$Galley"
  | 3 => .object "LineBreaker$Search"
  | _ => .object "LineBreaker$Outcome"
theorem n_Lb : ∀ a, a < 5 → ∀ b, b < 5 → a ≠ b → (F_Lb a).2.1 ≠ (F_Lb b).2.1 := by decide +kernel
theorem tk_Lb : ∀ k, k < 5 → parseFieldDescriptor (F_Lb k).2.2.1 = some (t_Lb k) := by decide +kernel
theorem iw_Lb : ∀ w ∈ u_ws R_Lb F_Lb 5, w ∈ gw := in_ps [361, 363, 365, 367, 369] (by decide +kernel) (by decide +kernel)
def R_Mo : String := "LineBreakerModel"
def F_Mo : u_T := fun k => match k with
  | 0 => ("LineBreakerModel", "thrown", "I", false)
  | 1 => ("LineBreakerModel", "count", "I", false)
  | 2 => ("LineBreakerModel", "kinds", "[I", true)
  | 3 => ("LineBreakerModel", "widths", "[I", true)
  | 4 => ("LineBreakerModel", "stretches", "[I", true)
  | 5 => ("LineBreakerModel", "orders", "[I", true)
  | 6 => ("LineBreakerModel", "shrinks", "[I", true)
  | 7 => ("LineBreakerModel", "befores", "[I", true)
  | 8 => ("LineBreakerModel", "behinds", "[I", true)
  | 9 => ("LineBreakerModel", "replaces", "[I", true)
  | 10 => ("LineBreakerModel", "settings", "[I", true)
  | 11 => ("LineBreakerModel", "wide", "[I", true)
  | 12 => ("LineBreakerModel", "aroundWidth", "[I", true)
  | 13 => ("LineBreakerModel", "aroundStretch", "[I", true)
  | 14 => ("LineBreakerModel", "aroundOrder", "[I", true)
  | 15 => ("LineBreakerModel", "aroundShrink", "[I", true)
  | 16 => ("LineBreakerModel", "pass", "I", false)
  | 17 => ("LineBreakerModel", "last", "I", false)
  | 18 => ("LineBreakerModel", "tolerance", "I", false)
  | 19 => ("LineBreakerModel", "more", "I", false)
  | 20 => ("LineBreakerModel", "nodes", "I", false)
  | 21 => ("LineBreakerModel", "place", "[I", true)
  | 22 => ("LineBreakerModel", "lines", "[I", true)
  | 23 => ("LineBreakerModel", "fits", "[I", true)
  | 24 => ("LineBreakerModel", "totals", "[J", true)
  | 25 => ("LineBreakerModel", "former", "[I", true)
  | 26 => ("LineBreakerModel", "dead", "[Z", true)
  | 27 => ("LineBreakerModel", "first", "I", false)
  | 28 => ("LineBreakerModel", "width", "I", false)
  | 29 => ("LineBreakerModel", "stretch", "[I", true)
  | 30 => ("LineBreakerModel", "shrink", "I", false)
  | 31 => ("LineBreakerModel", "shortfall", "I", false)
  | 32 => ("LineBreakerModel", "badness", "I", false)
  | 33 => ("LineBreakerModel", "fit", "I", false)
  | 34 => ("LineBreakerModel", "brokenPass", "I", false)
  | 35 => ("LineBreakerModel", "brokenNodes", "I", false)
  | 36 => ("LineBreakerModel", "brokenLines", "I", false)
  | 37 => ("LineBreakerModel", "lineEnd", "[I", true)
  | 38 => ("LineBreakerModel", "lineFirst", "[I", true)
  | 39 => ("LineBreakerModel", "lineShort", "[I", true)
  | 40 => ("LineBreakerModel", "lineBad", "[I", true)
  | 41 => ("LineBreakerModel", "lineFit", "[I", true)
  | _ => ("LineBreakerModel", "lineTotal", "[J", true)
def t_Mo : Nat → FieldType := fun k => match k with
  | 0 => .int
  | 1 => .int
  | 2 => .array .int
  | 3 => .array .int
  | 4 => .array .int
  | 5 => .array .int
  | 6 => .array .int
  | 7 => .array .int
  | 8 => .array .int
  | 9 => .array .int
  | 10 => .array .int
  | 11 => .array .int
  | 12 => .array .int
  | 13 => .array .int
  | 14 => .array .int
  | 15 => .array .int
  | 16 => .int
  | 17 => .int
  | 18 => .int
  | 19 => .int
  | 20 => .int
  | 21 => .array .int
  | 22 => .array .int
  | 23 => .array .int
  | 24 => .array .long
  | 25 => .array .int
  | 26 => .array .boolean
  | 27 => .int
  | 28 => .int
  | 29 => .array .int
  | 30 => .int
  | 31 => .int
  | 32 => .int
  | 33 => .int
  | 34 => .int
  | 35 => .int
  | 36 => .int
  | 37 => .array .int
  | 38 => .array .int
  | 39 => .array .int
  | 40 => .array .int
  | 41 => .array .int
  | _ => .array .long
theorem n_Mo : ∀ a, a < 43 → ∀ b, b < 43 → a ≠ b → (F_Mo a).2.1 ≠ (F_Mo b).2.1 := by decide +kernel
theorem tk_Mo : ∀ k, k < 43 → parseFieldDescriptor (F_Mo k).2.2.1 = some (t_Mo k) := by decide +kernel
theorem iw_Mo : ∀ w ∈ u_ws R_Mo F_Mo 43, w ∈ gw := in_ps [920, 922, 924, 926, 928, 930, 932, 934, 936, 938, 940, 942, 944, 946, 948, 950, 952, 954, 956, 958, 960, 962, 964, 966, 968, 970, 972, 974, 976, 978, 980, 982, 984, 986, 988, 990, 992, 994, 996, 998, 1000, 1002, 1004] (by decide +kernel) (by decide +kernel)
abbrev cl : List vw_C := [(R_Ga, F_Ga, 12), (R_Gu, F_Gu, 9), (R_Gl, F_Gl, 4), (R_No, F_No, 6), (R_Of, F_Of, 4), (R_Ou, F_Ou, 5), (R_Pa, F_Pa, 10), (R_Se, F_Se, 10), (R_St, F_St, 5), (R_Lb, F_Lb, 5), (R_Mo, F_Mo, 43)]
/-- what lies from n0 on is ours -/
def al (n0 : Nat) : Nat → Prop := fun q => n0 ≤ q
abbrev KT : Type := ClassId × ClassId × ClassId × ClassId
abbrev tys (K : KT) : List (ClassId × FieldType) := [(K.1, .int), (K.2.1, .long), (K.2.2.1, .boolean), (K.2.2.2, .array .int)]
/-- a state: the int (and boolean) arrays, the long arrays, the int fields, by number -/
abbrev ST : Type := (Nat → Nat → Int32) × (Nat → Nat → Int64) × (Nat → Int32)
def sA (S : ST) (k : Nat) (f : Nat → Int32) : ST := (fun a => cond (Nat.beq a k) f (S.1 a), S.2.1, S.2.2)
def sL (S : ST) (k : Nat) (f : Nat → Int64) : ST := (S.1, fun a => cond (Nat.beq a k) f (S.2.1 a), S.2.2)
def sI (S : ST) (k : Nat) (v : Int32) : ST := (S.1, S.2.1, fun a => cond (Nat.beq a k) v (S.2.2 a))
def wC (K : KT) (ad : Nat → Nat) (S : ST) : va_W := [
(ad 0, .inr (9, [.ref (ad 1), .ref (ad 11), .ref (ad 17), .ref (ad 29), .ref (ad 41)])),
  (ad 1, .inr (6, [.ref (ad 2), .ref (ad 3), .ref (ad 4), .ref (ad 5), .ref (ad 6), .ref (ad 7), .ref (ad 8), .ref (ad 9), .ref (ad 10), .int (S.2.2 73)])),
  (ad 2, .inl (K.1, 400, .inl (S.1 2))),
  (ad 3, .inl (K.1, 400, .inl (S.1 3))),
  (ad 4, .inl (K.1, 400, .inl (S.1 4))),
  (ad 5, .inl (K.1, 400, .inl (S.1 5))),
  (ad 6, .inl (K.1, 400, .inl (S.1 6))),
  (ad 7, .inl (K.1, 400, .inl (S.1 7))),
  (ad 8, .inl (K.1, 400, .inl (S.1 8))),
  (ad 9, .inl (K.1, 400, .inl (S.1 9))),
  (ad 10, .inl (K.1, 400, .inl (S.1 10))),
  (ad 11, .inr (8, [.ref (ad 12), .ref (ad 13), .ref (ad 14), .ref (ad 15), .ref (ad 16)])),
  (ad 12, .inl (K.1, 10, .inl (S.1 12))),
  (ad 13, .inl (K.1, 20, .inl (S.1 13))),
  (ad 14, .inr (2, [.int (S.2.2 896), .int (S.2.2 897), .int (S.2.2 898), .int (S.2.2 899)])),
  (ad 15, .inr (2, [.int (S.2.2 960), .int (S.2.2 961), .int (S.2.2 962), .int (S.2.2 963)])),
  (ad 16, .inr (2, [.int (S.2.2 1024), .int (S.2.2 1025), .int (S.2.2 1026), .int (S.2.2 1027)])),
  (ad 17, .inr (0, [.ref (ad 18), .ref (ad 19), .ref (ad 20), .ref (ad 21), .ref (ad 22), .ref (ad 23), .ref (ad 24), .ref (ad 25), .ref (ad 26), .ref (ad 27), .ref (ad 28), .int (S.2.2 1099)])),
  (ad 18, .inl (K.1, 403, .inl (S.1 18))),
  (ad 19, .inl (K.1, 403, .inl (S.1 19))),
  (ad 20, .inl (K.2.2.1, 403, .inl (S.1 20))),
  (ad 21, .inl (K.1, 403, .inl (S.1 21))),
  (ad 22, .inl (K.1, 403, .inl (S.1 22))),
  (ad 23, .inl (K.1, 403, .inl (S.1 23))),
  (ad 24, .inl (K.1, 403, .inl (S.1 24))),
  (ad 25, .inl (K.1, 403, .inl (S.1 25))),
  (ad 26, .inl (K.1, 403, .inl (S.1 26))),
  (ad 27, .inl (K.1, 403, .inl (S.1 27))),
  (ad 28, .inl (K.1, 404, .inl (S.1 28))),
  (ad 29, .inr (7, [.ref (ad 17), .ref (ad 11), .ref (ad 30), .ref (ad 31), .ref (ad 37), .ref (ad 40), .int (S.2.2 1862), .int (S.2.2 1863), .int (S.2.2 1864), .int (S.2.2 1865)])),
  (ad 30, .inr (1, [.ref (ad 17), .ref (ad 11), .int (S.2.2 1922), .int (S.2.2 1923), .int (S.2.2 1924), .int (S.2.2 1925), .int (S.2.2 1926), .int (S.2.2 1927), .int (S.2.2 1928)])),
  (ad 31, .inr (3, [.ref (ad 32), .ref (ad 33), .ref (ad 34), .ref (ad 35), .ref (ad 36), .int (S.2.2 1989)])),
  (ad 32, .inl (K.1, 8001, .inl (S.1 32))),
  (ad 33, .inl (K.1, 8001, .inl (S.1 33))),
  (ad 34, .inl (K.1, 8001, .inl (S.1 34))),
  (ad 35, .inl (K.1, 8001, .inl (S.1 35))),
  (ad 36, .inl (K.2.1, 8001, .inr (.inl (S.2.1 36)))),
  (ad 37, .inr (4, [.ref (ad 38), .ref (ad 39), .int (S.2.2 2370), .int (S.2.2 2371)])),
  (ad 38, .inl (K.2.1, 1608, .inr (.inl (S.2.1 38)))),
  (ad 39, .inl (K.1, 1608, .inl (S.1 39))),
  (ad 40, .inl (K.1, 8001, .inl (S.1 40))),
  (ad 41, .inr (5, [.ref (ad 42), .ref (ad 48), .int (S.2.2 2626), .int (S.2.2 2627), .int (S.2.2 2628)])),
  (ad 42, .inl (K.2.2.2, 5, .inr (.inr (.inr (.inr (fun j => some (ad (43 + j)))))))),
  (ad 43, .inl (K.1, 401, .inl (S.1 43))),
  (ad 44, .inl (K.1, 401, .inl (S.1 44))),
  (ad 45, .inl (K.1, 401, .inl (S.1 45))),
  (ad 46, .inl (K.1, 401, .inl (S.1 46))),
  (ad 47, .inl (K.1, 401, .inl (S.1 47))),
  (ad 48, .inl (K.2.1, 401, .inr (.inl (S.2.1 48))))]
def wM (K : KT) (ad : Nat → Nat) (S : ST) : va_W := [
(ad 0, .inr (10, [.int (S.2.2 0), .int (S.2.2 1), .ref (ad 1), .ref (ad 2), .ref (ad 3), .ref (ad 4), .ref (ad 5), .ref (ad 6), .ref (ad 7), .ref (ad 8), .ref (ad 9), .ref (ad 10), .ref (ad 11), .ref (ad 12), .ref (ad 13), .ref (ad 14), .int (S.2.2 16), .int (S.2.2 17), .int (S.2.2 18), .int (S.2.2 19), .int (S.2.2 20), .ref (ad 15), .ref (ad 16), .ref (ad 17), .ref (ad 18), .ref (ad 19), .ref (ad 20), .int (S.2.2 27), .int (S.2.2 28), .ref (ad 21), .int (S.2.2 30), .int (S.2.2 31), .int (S.2.2 32), .int (S.2.2 33), .int (S.2.2 34), .int (S.2.2 35), .int (S.2.2 36), .ref (ad 22), .ref (ad 23), .ref (ad 24), .ref (ad 25), .ref (ad 26), .ref (ad 27)])),
  (ad 1, .inl (K.1, 410, .inl (S.1 1))),
  (ad 2, .inl (K.1, 410, .inl (S.1 2))),
  (ad 3, .inl (K.1, 410, .inl (S.1 3))),
  (ad 4, .inl (K.1, 410, .inl (S.1 4))),
  (ad 5, .inl (K.1, 410, .inl (S.1 5))),
  (ad 6, .inl (K.1, 410, .inl (S.1 6))),
  (ad 7, .inl (K.1, 410, .inl (S.1 7))),
  (ad 8, .inl (K.1, 410, .inl (S.1 8))),
  (ad 9, .inl (K.1, 10, .inl (S.1 9))),
  (ad 10, .inl (K.1, 20, .inl (S.1 10))),
  (ad 11, .inl (K.1, 3, .inl (S.1 11))),
  (ad 12, .inl (K.1, 3, .inl (S.1 12))),
  (ad 13, .inl (K.1, 3, .inl (S.1 13))),
  (ad 14, .inl (K.1, 3, .inl (S.1 14))),
  (ad 15, .inl (K.1, 8001, .inl (S.1 15))),
  (ad 16, .inl (K.1, 8001, .inl (S.1 16))),
  (ad 17, .inl (K.1, 8001, .inl (S.1 17))),
  (ad 18, .inl (K.2.1, 8001, .inr (.inl (S.2.1 18)))),
  (ad 19, .inl (K.1, 8001, .inl (S.1 19))),
  (ad 20, .inl (K.2.2.1, 8001, .inl (S.1 20))),
  (ad 21, .inl (K.1, 4, .inl (S.1 21))),
  (ad 22, .inl (K.1, 410, .inl (S.1 22))),
  (ad 23, .inl (K.1, 410, .inl (S.1 23))),
  (ad 24, .inl (K.1, 410, .inl (S.1 24))),
  (ad 25, .inl (K.1, 410, .inl (S.1 25))),
  (ad 26, .inl (K.1, 410, .inl (S.1 26))),
  (ad 27, .inl (K.2.1, 410, .inr (.inl (S.2.1 27))))]
end
section
/-- what holds at every entry beside the good words: it speaks of the tables and of what lies below n0 -/
def fx (n0 : Nat) (U : State) : Prop := n0 ≤ n0 ∧ va_Nw (.methodLinkNest "LineBreaker$Paragraph" 57 ⟨"LineBreaker", "widthOf", "(I)I"⟩ "LineBreaker") U ∧ va_Nw (.methodLinkNest "LineBreaker$Galley" 88 ⟨"LineBreaker", "widthOf", "(I)I"⟩ "LineBreaker") U
theorem fx_moved {n0 : Nat} {s U : State} (hW : s.WarmedH U.vm) (hq : ∀ q : Nat, q < n0 → U.heap[q]? = s.heap[q]?) (h : fx n0 s) : fx n0 U := ⟨h.1, va_Nw.warmM hW h.2.1, va_Nw.warmM hW h.2.2⟩
theorem fx_same {n0 : Nat} {s U : State} (hv : s.vm = U.vm) (hq : U.heap = s.heap) (h : fx n0 s) : fx n0 U := ⟨h.1, va_Nw.same rfl hv h.2.1, va_Nw.same rfl hv h.2.2⟩
/-- the start of a method: its world, the classes, what lies below -/
def wb (n0 : Nat) (G : va_G) (K : KT) (ws : va_W) (U : State) : Prop := n0 ≤ U.heap.size ∧ va_P G cl ws U.heap ∧ va_K G cl (tys K) U ∧ va_D (al n0) ws ∧ fx n0 U
/-- its end -/
def we (n0 : Nat) (G : va_G) (ws : va_W) (t : State) : Prop := va_P G cl ws t.heap ∧ va_D (al n0) ws
theorem wb_blind {n0 : Nat} {G : va_G} {K : KT} {ws : va_W} {av : List Value} : FrameBlind (va_Pc av (wb n0 G K ws)) := fun a U g mk q => by
  obtain ⟨q0, q1, qP, qK, qD, qF⟩ := q
  exact ⟨q0, q1, qP, va_K.moved (u := U) (U := U.calling g mk a) (Vm.Alike.refl U.vm) qK, qD, fx_same (s := U) (U := U.calling g mk a) rfl rfl qF⟩
section BASE
variable {p : Program} {l : Launch} {e : Env} {R : Room} {s : State} {m : MethodId} {args : Array Value} {below : List Frame} {meth : Method} {c : Code} {H : Heap} {locs : List Loc} {cells slots : Nat} {Q : State → Prop}
/-- what stays through a body -/
def cx (p : Program) (s : State) (m : MethodId) (args : Array Value) (meth : Method) (c : Code) (cc : ByteArray) (nL : Nat) (own : String) (n0 : Nat) (G : va_G) (K : KT) : Prop :=
  p.tables.exec = Jvm.exec ∧ c.code = cc ∧ c.maxLocals = nL ∧ s.vm.findClass own = some m.cls ∧ (∀ w ∈ gw, w.before args s = true) ∧ meth.locks = false ∧ va_K G cl (tys K) s ∧ n0 ≤ s.heap.size ∧ fx n0 s
/-- the world of a body now -/
def wn (n0 : Nat) (G : va_G) (ws : va_W) (s : State) (H : Heap) (locs : List Loc) : Prop := va_P G cl ws H ∧ va_D (al n0) ws ∧ va_S (al n0) s.heap H locs
variable {cc : ByteArray} {nL : Nat} {own : String} {n0 : Nat} {G : va_G} {K : KT} {ws : va_W} {pc : Nat} {ls : Array Slot} {rest : List Value}
theorem wn_eq {w2 : va_W} (h : wn n0 G ws s H locs) (e : ws = w2) : wn n0 G w2 s H locs := e ▸ h
theorem wb_of (C : cx p s m args meth c cc nL own n0 G K) (w : wn n0 G ws s H locs) {av : List Value} : ∀ U : State, U.heap = H → s.WarmedH U.vm → va_Pc av (wb n0 G K ws) av.toArray U := by
  obtain ⟨-, -, -, -, -, -, hK, hn, hF⟩ := C
  intro U hU hW
  exact ⟨rfl, Nat.le_trans hn (by rw [hU]; exact w.2.2.1), by rw [hU]; exact w.1, va_K.moved hW.alike hK, w.2.1, fx_moved hW (fun q hq => by rw [hU]; exact w.2.2.2.1 q (Nat.lt_of_lt_of_le hq hn) (Nat.not_le.mpr hq)) hF⟩
theorem rc_i {x : Int32} {i : Nat} {sh : Int32} (h : ls[i]? = some (.val (.int x))) : ls[i]? = some (.val (.int x)) := h
/-- a virtual call's run -/
theorem kr_V {y : MethodName} {bytes : ByteArray} {maxL mc ms n index ci q0 : Nat} {ret : Option FieldType} {rm : Room} {C1 : String} {T : u_T} {N : Nat} {fs : List Value} {b : Addr} {As st0 : List Value} {Qc : Array Value → State → Outcome → State → Prop}
    (C : cx p s m args meth c cc nL own n0 G K) (w : wn n0 G ws s H locs) (hM : Met l y (Cond.code y bytes maxL ret :: gw) rm (va_Pc (.ref b :: As) (wb n0 G K ws)) Qc mc ms (al n0))
    (hg : GoodIn gw (wsV own index C1 y (Cond.code y bytes maxL ret :: gw))) (hd : y.cls = C1 ∧ y.cls ≠ "java/lang/invoke/MethodHandle" ∧ y.cls ≠ "java/lang/invoke/VarHandle" ∧ (parseMethodDescriptor y.desc).map (fun d => d.parameters.length) = some n)
    (hrc : rm.cells = mc) (hrs : rm.slots = ms) (hR : rm.frames + 1 ≤ R.frames ∧ 8 + (maxL + 11) + rm.locals ≤ R.locals) (hc : cl[ci]? = some (C1, T, N)) (he : ws[q0]? = some (b, .inr (ci, fs))) (hn : As.length = n) (hl : ls.size = nL) (hst : st0 = As.reverse ++ .ref b :: rest) (hr : (rest.map fun v => v.category).sum ≤ 8) (hdg : decode cc pc = .ok (.invokevirtual index, 3)) (hf : cells + mc ≤ R.cells ∧ slots + ms ≤ R.slots) :
    va_Run p l e R s m args below meth c H locs cells slots mc ms (F0 m pc ls st0) rest (Qc (Value.ref b :: As).toArray) (al n0) := by
  have C' := C
  obtain ⟨hx, hb, hml, hown, hts, -, hK, -, -⟩ := C'
  exact va_runV (Ts := gw) (As := As) (rest := rest) ⟨hx, hb, hml, hown, hts⟩ hM (cwV n hts hg rfl hrc hrs hd hR) ⟨wb_blind, va_recv hK w.1 hc he, wb_of C w⟩ rfl hn hl hst (lv_room hr) hdg hf
/-- a static call's run -/
theorem kr_S {y : MethodName} {bytes : ByteArray} {maxL mc ms n index : Nat} {ret : Option FieldType} {rm : Room} {As st0 : List Value} {Qc : Array Value → State → Outcome → State → Prop}
    (C : cx p s m args meth c cc nL own n0 G K) (w : wn n0 G ws s H locs) (hM : Met l y (Cond.code y bytes maxL ret :: gw) rm (va_Pc As (wb n0 G K ws)) Qc mc ms (al n0))
    (hg : GoodIn gw (va_wsS own index y (Cond.code y bytes maxL ret :: gw))) (hd : y.cls ≠ "java/lang/invoke/MethodHandle" ∧ y.cls ≠ "java/lang/invoke/VarHandle" ∧ (parseMethodDescriptor y.desc).map (fun d => d.parameters.length) = some n)
    (hrc : rm.cells = mc) (hrs : rm.slots = ms) (hR : rm.frames + 1 ≤ R.frames ∧ 8 + (maxL + 11) + rm.locals ≤ R.locals) (hn : As.length = n) (hl : ls.size = nL) (hst : st0 = As.reverse ++ rest) (hr : (rest.map fun v => v.category).sum ≤ 8) (hdg : decode cc pc = .ok (.invokestatic index, 3)) (hf : cells + mc ≤ R.cells ∧ slots + ms ≤ R.slots) :
    va_Run p l e R s m args below meth c H locs cells slots mc ms (F0 m pc ls st0) rest (Qc As.toArray) (al n0) := by
  have C' := C
  obtain ⟨hx, hb, hml, hown, hts, -, hK, -, -⟩ := C'
  exact va_runS (Ts := gw) (As := As) (rest := rest) ⟨hx, hb, hml, hown, hts⟩ hM (va_cwS n hts hg rfl hrc hrs hd hR) ⟨wb_blind, wb_of C w⟩ rfl hn hl hst (lv_room hr) hdg hf
/-- a nest mate's static method -/
theorem kr_N {y : MethodName} {bytes : ByteArray} {maxL mc ms n index : Nat} {host : String} {ret : Option FieldType} {rm : Room} {As st0 : List Value} {Qc : Array Value → State → Outcome → State → Prop}
    (C : cx p s m args meth c cc nL own n0 G K) (w : wn n0 G ws s H locs) (hM : Met l y (Cond.code y bytes maxL ret :: gw) rm (va_Pc As (wb n0 G K ws)) Qc mc ms (al n0))
    (hk : Cond.code y bytes maxL ret ∈ gw) (hN : va_Nw (.methodLinkNest own index y host) s) (hi : Cond.initialized y.cls ∈ gw) (hsta : Cond.static y ∈ gw) (hd : y.cls ≠ "java/lang/invoke/MethodHandle" ∧ y.cls ≠ "java/lang/invoke/VarHandle" ∧ (parseMethodDescriptor y.desc).map (fun d => d.parameters.length) = some n)
    (hrc : rm.cells = mc) (hrs : rm.slots = ms) (hR : rm.frames + 1 ≤ R.frames ∧ 8 + (maxL + 11) + rm.locals ≤ R.locals) (hn : As.length = n) (hl : ls.size = nL) (hst : st0 = As.reverse ++ rest) (hr : (rest.map fun v => v.category).sum ≤ 8) (hdg : decode cc pc = .ok (.invokestatic index, 3)) (hf : cells + mc ≤ R.cells ∧ slots + ms ≤ R.slots) :
    va_Run p l e R s m args below meth c H locs cells slots mc ms (F0 m pc ls st0) rest (Qc As.toArray) (al n0) := by
  have C' := C
  obtain ⟨hx, hb, hml, hown, hts, -, hK, -, -⟩ := C'
  exact va_runSN (Ts := gw) (As := As) (rest := rest) ⟨hx, hb, hml, hown, hts⟩ hM ⟨va_cnB n hts (gw_cons hk) rfl hrc hrs hN (hts _ hi) hd hR, hts _ hsta, trivial⟩ ⟨wb_blind, wb_of C w⟩ rfl hn hl hst (lv_room hr) hdg hf
theorem kc_i {S : Type} {post : Int32 → S → Prop} {st : S → va_W} {mc ms : Nat} {st0 : List Value} {a : Array Value} (w : wn n0 G ws s H locs) (hr : va_Run p l e R s m args below meth c H locs cells slots mc ms (F0 m pc ls st0) rest (va_Qi post (fun u t => we n0 G (st u) t) (al n0) a) (al n0))
    (kk : ∀ (r : Int32) (u : S) (H1 : Heap) (locs1 : List Loc), post r u → wn n0 G (st u) s H1 locs1 → W p l e R s m args below meth c H1 locs1 (cells + mc) (slots + ms) Q (F0 m (pc + 3) ls (.int r :: rest))) : W p l e R s m args below meth c H locs cells slots Q (F0 m pc ls st0) := by
  refine va_calli hr w.2.2 (fun _ _ h => h) (fun _ h => h) (fun r u t H1 locs1 ht hvm hp hB hz hk hS => kk r u H1 locs1 hp ⟨by rw [← ht]; exact hB.1, hB.2, hS⟩)
theorem kc_l {S : Type} {post : Int64 → S → Prop} {st : S → va_W} {mc ms : Nat} {st0 : List Value} {a : Array Value} (w : wn n0 G ws s H locs) (hr : va_Run p l e R s m args below meth c H locs cells slots mc ms (F0 m pc ls st0) rest (va_Ql post (fun u t => we n0 G (st u) t) (al n0) a) (al n0))
    (kk : ∀ (r : Int64) (u : S) (H1 : Heap) (locs1 : List Loc), post r u → wn n0 G (st u) s H1 locs1 → W p l e R s m args below meth c H1 locs1 (cells + mc) (slots + ms) Q (F0 m (pc + 3) ls (.long r :: rest))) : W p l e R s m args below meth c H locs cells slots Q (F0 m pc ls st0) := by
  refine va_calll hr w.2.2 (fun _ _ h => h) (fun _ h => h) (fun r u t H1 locs1 ht hvm hp hB hz hk hS => kk r u H1 locs1 hp ⟨by rw [← ht]; exact hB.1, hB.2, hS⟩)
theorem kc_v {S : Type} {post : S → Prop} {st : S → va_W} {mc ms : Nat} {st0 : List Value} {a : Array Value} (w : wn n0 G ws s H locs) (hr : va_Run p l e R s m args below meth c H locs cells slots mc ms (F0 m pc ls st0) rest (va_Qv post (fun u t => we n0 G (st u) t) (al n0) a) (al n0))
    (kk : ∀ (u : S) (H1 : Heap) (locs1 : List Loc), post u → wn n0 G (st u) s H1 locs1 → W p l e R s m args below meth c H1 locs1 (cells + mc) (slots + ms) Q (F0 m (pc + 3) ls rest)) : W p l e R s m args below meth c H locs cells slots Q (F0 m pc ls st0) := by
  refine va_callv hr w.2.2 (fun _ _ h => h) (fun _ h => h) (fun u t H1 locs1 ht hvm hp hB hz hk hS => kk u H1 locs1 hp ⟨by rw [← ht]; exact hB.1, hB.2, hS⟩)
/-- the ends -/
theorem ke_i {S : Type} {post : Int32 → S → Prop} {st : S → va_W} {v : Int32} {u : S} (C : cx p s m args meth c cc nL own n0 G K) (hr : meth.sig.returnType = some .int) (hd : decode cc pc = .ok (.ireturn, 1)) (w : wn n0 G (st u) s H locs) (hp : post v u) : W p l e R s m args below meth c H locs cells slots (MQ below (va_Qi post (fun u t => we n0 G (st u) t) (al n0)) args s cells slots (al n0)) (F0 m pc ls [.int v]) :=
  W.iret (v := v) C.1 C.2.1 hr (fun t ht hW => ⟨⟨v, u, rfl, hp, by rw [ht]; exact w.1, w.2.1⟩, w.2.2.F ht⟩) w.2.2.2.2 hd C.2.2.2.2.2.1
theorem ke_z {S : Type} {post : Int32 → S → Prop} {st : S → va_W} {v : Int32} {u : S} (C : cx p s m args meth c cc nL own n0 G K) (hr : meth.sig.returnType = some .boolean) (hd : decode cc pc = .ok (.ireturn, 1)) (w : wn n0 G (st u) s H locs) (hz : v = 0 ∨ v = 1) (hp : post v u) : W p l e R s m args below meth c H locs cells slots (MQ below (va_Qi post (fun u t => we n0 G (st u) t) (al n0)) args s cells slots (al n0)) (F0 m pc ls [.int v]) :=
  W.zret (v := v) C.1 C.2.1 hr (by rcases hz with rfl | rfl <;> rfl) (fun t ht hW => ⟨⟨v, u, rfl, hp, by rw [ht]; exact w.1, w.2.1⟩, w.2.2.F ht⟩) w.2.2.2.2 hd C.2.2.2.2.2.1
theorem ke_l {S : Type} {post : Int64 → S → Prop} {st : S → va_W} {v : Int64} {u : S} (C : cx p s m args meth c cc nL own n0 G K) (hr : meth.sig.returnType = some .long) (hd : decode cc pc = .ok (.lreturn, 1)) (w : wn n0 G (st u) s H locs) (hp : post v u) : W p l e R s m args below meth c H locs cells slots (MQ below (va_Ql post (fun u t => we n0 G (st u) t) (al n0)) args s cells slots (al n0)) (F0 m pc ls [.long v]) :=
  W.lret (v := v) C.1 C.2.1 hr (fun t ht hW => ⟨⟨v, u, rfl, hp, by rw [ht]; exact w.1, w.2.1⟩, w.2.2.F ht⟩) w.2.2.2.2 hd C.2.2.2.2.2.1
theorem ke_v {S : Type} {post : S → Prop} {st : S → va_W} {u : S} (C : cx p s m args meth c cc nL own n0 G K) (hr : meth.sig.returnType = none) (hd : decode cc pc = .ok (.return_, 1)) (w : wn n0 G (st u) s H locs) (hp : post u) : W p l e R s m args below meth c H locs cells slots (MQ below (va_Qv post (fun u t => we n0 G (st u) t) (al n0)) args s cells slots (al n0)) (F0 m pc ls []) :=
  W.vret C.1 C.2.1 hr (fun t ht hW => ⟨⟨u, rfl, hp, by rw [ht]; exact w.1, w.2.1⟩, w.2.2.F ht⟩) w.2.2.2.2 hd C.2.2.2.2.2.1
/-- a body's start out of its contract's -/
theorem kb_start {y : MethodName} {bytes : ByteArray} {maxL : Nat} {ret : Option FieldType} {rm : Room} {Qc : Array Value → State → Outcome → State → Prop} {mc ms : Nat} {av : List Value}
    (hy : plainName y.cls = true) (hc : y.cls = own)
    (body : ∀ (p : Program) (e : Env) (s : State) (m : MethodId) (below : List Frame) (meth : Method) (c : Code), cx p s m av.toArray meth c bytes maxL own n0 G K → meth.sig.returnType = ret → (own = own → meth.name = y.name) → wn n0 G ws s s.heap [] → W p l e rm s m av.toArray below meth c s.heap [] 0 0 (MQ below Qc av.toArray s mc ms (al n0)) (entryFrame m av.toArray maxL)) :
    Met l y (Cond.code y bytes maxL ret :: gw) rm (va_Pc av (wb n0 G K ws)) Qc mc ms (al n0) := by
  refine Met.ofW (cc := bytes) (maxL := maxL) (ret := ret) hy rfl ?_
  intro p e s m args below meth c s₁ B hml hv
  obtain ⟨rfl, hn, hP, hK, hD, hF⟩ := hv
  have hts := atoms_spec (ws := Cond.code y bytes maxL ret :: gw) B.pre
  have hown : s.vm.findClass own = some m.cls := hc ▸ findClass_of_methodNamed B.named
  exact body p e s m below meth c ⟨B.exec, B.bytes, hml, hown, fun w h => hts w (List.mem_cons_of_mem _ h), B.notSynchronized, hK, hn, hF⟩ B.returns (fun _ => (name_of_methodNamed B.named B.method).1) ⟨hP, hD, va_S.rf⟩
/-- the rows of the world's cells -/
theorem ka_i (C : cx p s m args meth c cc nL own n0 G K) (w : wn n0 G ws s H locs) (q0 : Nat) {a n : Nat} {f : Nat → Int32} (ha : ws[q0]? = some (a, .inl (K.1, n, .inl f))) {i : Int32} (hin : vp_in i n) (hdg : decode cc pc = .ok (.iaload, 1))
    (kk : W p l e R s m args below meth c H locs cells slots Q (F0 m (pc + 1) ls (.int (f i.toNatClampNeg) :: rest))) : W p l e R s m args below meth c H locs cells slots Q (F0 m pc ls (.int i :: .ref a :: rest)) := va_iald C.1 C.2.1 C.2.2.2.2.2.2.1 w.1 q0 0 ha rfl hin hdg kk
theorem ka_l (C : cx p s m args meth c cc nL own n0 G K) (w : wn n0 G ws s H locs) (q0 : Nat) {a n : Nat} {f : Nat → Int64} (ha : ws[q0]? = some (a, .inl (K.2.1, n, .inr (.inl f)))) {i : Int32} (hin : vp_in i n) (hdg : decode cc pc = .ok (.laload, 1))
    (kk : W p l e R s m args below meth c H locs cells slots Q (F0 m (pc + 1) ls (.long (f i.toNatClampNeg) :: rest))) : W p l e R s m args below meth c H locs cells slots Q (F0 m pc ls (.int i :: .ref a :: rest)) := va_lald C.1 C.2.1 C.2.2.2.2.2.2.1 w.1 q0 1 ha rfl hin hdg kk
theorem ka_z (C : cx p s m args meth c cc nL own n0 G K) (w : wn n0 G ws s H locs) (q0 : Nat) {a n : Nat} {f : Nat → Int32} (ha : ws[q0]? = some (a, .inl (K.2.2.1, n, .inl f))) {i : Int32} (hin : vp_in i n) (hdg : decode cc pc = .ok (.baload, 1))
    (kk : W p l e R s m args below meth c H locs cells slots Q (F0 m (pc + 1) ls (.int (f i.toNatClampNeg) :: rest))) : W p l e R s m args below meth c H locs cells slots Q (F0 m pc ls (.int i :: .ref a :: rest)) := va_zald C.1 C.2.1 C.2.2.2.2.2.2.1 w.1 q0 2 ha rfl hin hdg kk
theorem ks_i (C : cx p s m args meth c cc nL own n0 G K) (w : wn n0 G ws s H locs) (q0 : Nat) {a n : Nat} {f : Nat → Int32} {w2 : va_W} (ha : ws[q0]? = some (a, .inl (K.1, n, .inl f))) {i x : Int32} (hin : vp_in i n) (h2 : ws.set q0 (a, .inl (K.1, n, .inl (upd f i.toNatClampNeg x))) = w2) (hdg : decode cc pc = .ok (.iastore, 1))
    (kk : ∀ (H1 : Heap) (locs1 : List Loc), wn n0 G w2 s H1 locs1 → W p l e R s m args below meth c H1 locs1 cells slots Q (F0 m (pc + 1) ls rest)) : W p l e R s m args below meth c H locs cells slots Q (F0 m pc ls (.int x :: .int i :: .ref a :: rest)) := by
  subst h2
  exact va_iast C.1 C.2.1 C.2.2.2.2.2.2.1 w.1 w.2.1 w.2.2 q0 0 ha rfl hin hdg (fun H1 locs1 hP hD hS => kk H1 locs1 ⟨hP, hD, hS⟩)
theorem ks_l (C : cx p s m args meth c cc nL own n0 G K) (w : wn n0 G ws s H locs) (q0 : Nat) {a n : Nat} {f : Nat → Int64} {w2 : va_W} (ha : ws[q0]? = some (a, .inl (K.2.1, n, .inr (.inl f)))) {i : Int32} {x : Int64} (hin : vp_in i n) (h2 : ws.set q0 (a, .inl (K.2.1, n, .inr (.inl (vp_updL f i.toNatClampNeg x)))) = w2) (hdg : decode cc pc = .ok (.lastore, 1))
    (kk : ∀ (H1 : Heap) (locs1 : List Loc), wn n0 G w2 s H1 locs1 → W p l e R s m args below meth c H1 locs1 cells slots Q (F0 m (pc + 1) ls rest)) : W p l e R s m args below meth c H locs cells slots Q (F0 m pc ls (.long x :: .int i :: .ref a :: rest)) := by
  subst h2
  exact va_last C.1 C.2.1 C.2.2.2.2.2.2.1 w.1 w.2.1 w.2.2 q0 1 ha rfl hin hdg (fun H1 locs1 hP hD hS => kk H1 locs1 ⟨hP, hD, hS⟩)
theorem ks_z (C : cx p s m args meth c cc nL own n0 G K) (w : wn n0 G ws s H locs) (q0 : Nat) {a n : Nat} {f : Nat → Int32} {w2 : va_W} (ha : ws[q0]? = some (a, .inl (K.2.2.1, n, .inl f))) {i x : Int32} (hin : vp_in i n) (h2 : ws.set q0 (a, .inl (K.2.2.1, n, .inl (upd f i.toNatClampNeg (vp_nar .boolean x)))) = w2) (hdg : decode cc pc = .ok (.bastore, 1))
    (kk : ∀ (H1 : Heap) (locs1 : List Loc), wn n0 G w2 s H1 locs1 → W p l e R s m args below meth c H1 locs1 cells slots Q (F0 m (pc + 1) ls rest)) : W p l e R s m args below meth c H locs cells slots Q (F0 m pc ls (.int x :: .int i :: .ref a :: rest)) := by
  subst h2
  exact va_zast C.1 C.2.1 C.2.2.2.2.2.2.1 w.1 w.2.1 w.2.2 q0 2 ha rfl hin hdg (fun H1 locs1 hP hD hS => kk H1 locs1 ⟨hP, hD, hS⟩)
theorem ka_a (C : cx p s m args meth c cc nL own n0 G K) (w : wn n0 G ws s H locs) (q0 : Nat) {a n : Nat} {f : Nat → Option Nat} {v : Value} (ha : ws[q0]? = some (a, .inl (K.2.2.2, n, .inr (.inr (.inr (.inr f)))))) {i : Int32} (hin : vp_in i n) (hv : va_rf (f i.toNatClampNeg) = v) (hdg : decode cc pc = .ok (.aaload, 1))
    (kk : W p l e R s m args below meth c H locs cells slots Q (F0 m (pc + 1) ls (v :: rest))) : W p l e R s m args below meth c H locs cells slots Q (F0 m pc ls (.int i :: .ref a :: rest)) := by
  have hlt : i.toNatClampNeg < n := Nat.not_le.mp fun q => hin (Or.inr q)
  subst hv
  exact W.aald (v := va_rf (f i.toNatClampNeg)) (ty := .array .int) C.1 C.2.1 (w.1 q0 _ ha) ((C.2.2.2.2.2.2.1.2 3 _ rfl).1 n (fun j => va_rf (f j))) rfl (fun q => by cases q) (by show ¬ (i < 0 ∨ (arrV _ _ _).slots.size ≤ _); rw [arrV_size]; exact hin) (by show (arrV _ _ _).slots[_]? = _; rw [arrV_read _ _ hlt]) rfl rfl hdg kk
theorem kg {C1 ref : String} {T : u_T} {N ci index : Nat} (C : cx p s m args meth c cc nL own n0 G K) (w : wn n0 G ws s H locs) (q0 k : Nat) (hin : ∀ w ∈ u_ws C1 T N, w ∈ gw) {a : Nat} {fs : List Value} {v : Value} (hc : cl[ci]? = some (C1, T, N)) (he : ws[q0]? = some (a, .inr (ci, fs))) (hk : k < N) (hlink : Cond.fieldLink own index ref (T k).2.1 (T k).2.2.1 ∈ gw) (hsame : (T k).1 = ref) (hv : fs[k]? = some v) (hdg : decode cc pc = .ok (.getfield index, 3))
    (kk : W p l e R s m args below meth c H locs cells slots Q (F0 m (pc + 3) ls (v :: rest))) : W p l e R s m args below meth c H locs cells slots Q (F0 m pc ls (.ref a :: rest)) :=
  va_get (D := G) (ci := ci) (v := v) (C := C1) (T := T) (N := N) C.1 C.2.1 C.2.2.2.2.1 hin C.2.2.2.1 C.2.2.2.2.2.2.1 w.1 q0 he hc k hk (C.2.2.2.2.1 _ hlink) (fun _ h => by rw [hsame] at h; exact h) hv hdg kk
theorem kp {C1 ref : String} {T : u_T} {N ci index : Nat} {ty0 : Nat → FieldType} (C : cx p s m args meth c cc nL own n0 G K) (w : wn n0 G ws s H locs) (q0 k : Nat) (hin : ∀ w ∈ u_ws C1 T N, w ∈ gw) (hty : ∀ k, k < N → parseFieldDescriptor (T k).2.2.1 = some (ty0 k)) (hnm : ∀ a, a < N → ∀ b, b < N → a ≠ b → (T a).2.1 ≠ (T b).2.1) {a : Nat} {fs : List Value} {v : Value} {w2 : va_W} (hc : cl[ci]? = some (C1, T, N)) (he : ws[q0]? = some (a, .inr (ci, fs))) (hk : k < N) (hlink : Cond.fieldLink own index ref (T k).2.1 (T k).2.2.1 ∈ gw) (hsame : (T k).1 = ref) (hfin : (T k).2.2.2 = false) (hn : narrow (ty0 k) v = v) (hfit : fits (ty0 k) v = true) (hl : k < fs.length) (h2 : ws.set q0 (a, .inr (ci, fs.set k v)) = w2) (hdg : decode cc pc = .ok (.putfield index, 3))
    (kk : ∀ (H1 : Heap) (locs1 : List Loc), wn n0 G w2 s H1 locs1 → W p l e R s m args below meth c H1 locs1 cells slots Q (F0 m (pc + 3) ls rest)) : W p l e R s m args below meth c H locs cells slots Q (F0 m pc ls (v :: .ref a :: rest)) := by
  subst h2
  exact va_put (D := G) (ci := ci) (v := v) (ty := ty0 k) (C := C1) (T := T) (N := N) C.1 C.2.1 C.2.2.2.2.1 hin ty0 hty hnm C.2.2.2.1 C.2.2.2.2.2.2.1 w.1 w.2.1 w.2.2 q0 he hc k hk (C.2.2.2.2.1 _ hlink) (fun _ h => by rw [hsame] at h; exact h) hfin (hty k hk) hn hfit hl hdg (fun H1 locs1 hP hD hS => kk H1 locs1 ⟨hP, hD, hS⟩)
theorem in_5 {x : Int32} (h : vp_in x 5) : x = 0 ∨ x = 1 ∨ x = 2 ∨ x = 3 ∨ x = 4 := by
  obtain ⟨j, hj, rfl⟩ := vp_in_of h (by decide)
  rcases (show j = 0 ∨ j = 1 ∨ j = 2 ∨ j = 3 ∨ j = 4 by omega) with rfl | rfl | rfl | rfl | rfl
  · exact Or.inl rfl
  · exact Or.inr (Or.inl rfl)
  · exact Or.inr (Or.inr (Or.inl rfl))
  · exact Or.inr (Or.inr (Or.inr (Or.inl rfl)))
  · exact Or.inr (Or.inr (Or.inr (Or.inr rfl)))
theorem kz_n {v : Int32} (h : v = 0 ∨ v = 1) : narrow .boolean (.int v) = .int v ∧ fits .boolean (.int v) = true := by rcases h with rfl | rfl <;> exact ⟨rfl, rfl⟩
end BASE
end
section
theorem kw_114 : (Jvm.Cond.fieldLink "LineBreaker$Settings" (15 : Nat) "LineBreaker$Settings" "widths" "[I") ∈ gw := gw_t (List.mem_of_getElem? (i := 114) (by decide +kernel)) (by decide +kernel)
theorem kw_750 : (Jvm.Cond.methodLink "LineBreaker$Settings" (34 : Nat) ({ cls := "java/lang/Math", name := "min", desc := "(II)I" } : Jvm.MethodName)) ∈ gw := gw_t (List.mem_of_getElem? (i := 750) (by decide +kernel)) (by decide +kernel)
theorem kw_563 : (Jvm.Cond.static ({ cls := "java/lang/Math", name := "min", desc := "(II)I" } : Jvm.MethodName)) ∈ gw := gw_t (List.mem_of_getElem? (i := 563) (by decide +kernel)) (by decide +kernel)
theorem kw_17 : (Jvm.Cond.initialized "java/lang/Math") ∈ gw := gw_t (List.mem_of_getElem? (i := 17) (by decide +kernel)) (by decide +kernel)
theorem kw_564 : (Jvm.Cond.code ({ cls := "java/lang/Math", name := "min", desc := "(II)I" } : Jvm.MethodName) prog_17_method_69_code (2 : Nat) (Option.some Jvm.ClassFile.FieldType.int)) ∈ gw := gw_t (List.mem_of_getElem? (i := 564) (by decide +kernel)) (by decide +kernel)
theorem kw_149 : (Jvm.Cond.fieldLink "LineBreaker$Galley" (28 : Nat) "LineBreaker$Galley" "behind" "[I") ∈ gw := gw_t (List.mem_of_getElem? (i := 149) (by decide +kernel)) (by decide +kernel)
theorem kw_95 : (Jvm.Cond.fieldLink "LineBreaker$Glue" (16 : Nat) "LineBreaker$Glue" "order" "I") ∈ gw := gw_t (List.mem_of_getElem? (i := 95) (by decide +kernel)) (by decide +kernel)
theorem kw_93 : (Jvm.Cond.fieldLink "LineBreaker$Glue" (13 : Nat) "LineBreaker$Glue" "stretch" "I") ∈ gw := gw_t (List.mem_of_getElem? (i := 93) (by decide +kernel)) (by decide +kernel)
theorem kw_146 : (Jvm.Cond.fieldLink "LineBreaker$Galley" (22 : Nat) "LineBreaker$Galley" "first" "[I") ∈ gw := gw_t (List.mem_of_getElem? (i := 146) (by decide +kernel)) (by decide +kernel)
theorem kw_770 : (Jvm.Cond.constant "LineBreaker$Gauge" (107 : Nat) (131072 : Int32)) ∈ gw := gw_t (List.mem_of_getElem? (i := 770) (by decide +kernel)) (by decide +kernel)
theorem kw_771 : (Jvm.Cond.constant "LineBreaker$Gauge" (108 : Nat) (262144 : Int32)) ∈ gw := gw_t (List.mem_of_getElem? (i := 771) (by decide +kernel)) (by decide +kernel)
theorem kw_768 : (Jvm.Cond.constant "LineBreaker$Gauge" (105 : Nat) (7230584 : Int32)) ∈ gw := gw_t (List.mem_of_getElem? (i := 768) (by decide +kernel)) (by decide +kernel)
theorem kw_769 : (Jvm.Cond.constant "LineBreaker$Gauge" (106 : Nat) (1663497 : Int32)) ∈ gw := gw_t (List.mem_of_getElem? (i := 769) (by decide +kernel)) (by decide +kernel)
theorem kw_206 : (Jvm.Cond.fieldLink "LineBreaker$Gauge" (99 : Nat) "LineBreaker$Gauge" "badness" "I") ∈ gw := gw_t (List.mem_of_getElem? (i := 206) (by decide +kernel)) (by decide +kernel)
theorem kw_208 : (Jvm.Cond.fieldLink "LineBreaker$Gauge" (102 : Nat) "LineBreaker$Gauge" "fit" "I") ∈ gw := gw_t (List.mem_of_getElem? (i := 208) (by decide +kernel)) (by decide +kernel)
theorem kw_203 : (Jvm.Cond.fieldLink "LineBreaker$Gauge" (84 : Nat) "LineBreaker$Gauge" "shortfall" "I") ∈ gw := gw_t (List.mem_of_getElem? (i := 203) (by decide +kernel)) (by decide +kernel)
theorem kw_767 : (Jvm.Cond.code ({ cls := "LineBreaker$Gauge", name := "bad", desc := "(II)I" } : Jvm.MethodName) prog_3_method_6_code (3 : Nat) (Option.some Jvm.ClassFile.FieldType.int)) ∈ gw := gw_t (List.mem_of_getElem? (i := 767) (by decide +kernel)) (by decide +kernel)
theorem kw_766 : (Jvm.Cond.static ({ cls := "LineBreaker$Gauge", name := "bad", desc := "(II)I" } : Jvm.MethodName)) ∈ gw := gw_t (List.mem_of_getElem? (i := 766) (by decide +kernel)) (by decide +kernel)
theorem kw_7 : (Jvm.Cond.initialized "LineBreaker$Gauge") ∈ gw := gw_t (List.mem_of_getElem? (i := 7) (by decide +kernel)) (by decide +kernel)
theorem kw_765 : (Jvm.Cond.methodLink "LineBreaker$Gauge" (95 : Nat) ({ cls := "LineBreaker$Gauge", name := "bad", desc := "(II)I" } : Jvm.MethodName)) ∈ gw := gw_t (List.mem_of_getElem? (i := 765) (by decide +kernel)) (by decide +kernel)
theorem kw_775 : (Jvm.Cond.code ({ cls := "LineBreaker$Gauge", name := "judgeShrunk", desc := "(I)V" } : Jvm.MethodName) prog_3_method_5_code (3 : Nat) (Option.none : Option Jvm.ClassFile.FieldType)) ∈ gw := gw_t (List.mem_of_getElem? (i := 775) (by decide +kernel)) (by decide +kernel)
theorem kw_772 : (Jvm.Cond.methodLink "LineBreaker$Gauge" (91 : Nat) ({ cls := "LineBreaker$Gauge", name := "judgeShrunk", desc := "(I)V" } : Jvm.MethodName)) ∈ gw := gw_t (List.mem_of_getElem? (i := 772) (by decide +kernel)) (by decide +kernel)
theorem kw_774 : (Jvm.Cond.instanceMethod ({ cls := "LineBreaker$Gauge", name := "judgeShrunk", desc := "(I)V" } : Jvm.MethodName)) ∈ gw := gw_t (List.mem_of_getElem? (i := 774) (by decide +kernel)) (by decide +kernel)
theorem kp_12 : Cond.selects "LineBreaker$Gauge" ⟨"LineBreaker$Gauge", "judgeShrunk", "(I)V"⟩ ⟨"LineBreaker$Gauge", "judgeShrunk", "(I)V"⟩ ∈ gw := gw_s (List.mem_of_getElem? (i := 12) (by decide +kernel)) (by decide +kernel)
theorem kw_764 : (Jvm.Cond.code ({ cls := "LineBreaker$Gauge", name := "judgeStretched", desc := "(II)V" } : Jvm.MethodName) prog_3_method_4_code (3 : Nat) (Option.none : Option Jvm.ClassFile.FieldType)) ∈ gw := gw_t (List.mem_of_getElem? (i := 764) (by decide +kernel)) (by decide +kernel)
theorem kw_761 : (Jvm.Cond.methodLink "LineBreaker$Gauge" (87 : Nat) ({ cls := "LineBreaker$Gauge", name := "judgeStretched", desc := "(II)V" } : Jvm.MethodName)) ∈ gw := gw_t (List.mem_of_getElem? (i := 761) (by decide +kernel)) (by decide +kernel)
theorem kw_763 : (Jvm.Cond.instanceMethod ({ cls := "LineBreaker$Gauge", name := "judgeStretched", desc := "(II)V" } : Jvm.MethodName)) ∈ gw := gw_t (List.mem_of_getElem? (i := 763) (by decide +kernel)) (by decide +kernel)
theorem kp_11 : Cond.selects "LineBreaker$Gauge" ⟨"LineBreaker$Gauge", "judgeStretched", "(II)V"⟩ ⟨"LineBreaker$Gauge", "judgeStretched", "(II)V"⟩ ∈ gw := gw_s (List.mem_of_getElem? (i := 11) (by decide +kernel)) (by decide +kernel)
theorem kw_211 : (Jvm.Cond.fieldLink "LineBreaker$Gauge" (23 : Nat) "LineBreaker$Gauge" "knownTo" "I") ∈ gw := gw_t (List.mem_of_getElem? (i := 211) (by decide +kernel)) (by decide +kernel)
theorem kw_210 : (Jvm.Cond.fieldLink "LineBreaker$Gauge" (32 : Nat) "LineBreaker$Gauge" "knownFrom" "I") ∈ gw := gw_t (List.mem_of_getElem? (i := 210) (by decide +kernel)) (by decide +kernel)
theorem kw_212 : (Jvm.Cond.fieldLink "LineBreaker$Gauge" (35 : Nat) "LineBreaker$Gauge" "knownWidth" "I") ∈ gw := gw_t (List.mem_of_getElem? (i := 212) (by decide +kernel)) (by decide +kernel)
theorem kw_200 : (Jvm.Cond.fieldLink "LineBreaker$Gauge" (15 : Nat) "LineBreaker$Gauge" "settings" "LLineBreaker$Settings;") ∈ gw := gw_t (List.mem_of_getElem? (i := 200) (by decide +kernel)) (by decide +kernel)
theorem kw_117 : (Jvm.Cond.fieldLink "LineBreaker$Gauge" (38 : Nat) "LineBreaker$Settings" "left" "LLineBreaker$Glue;") ∈ gw := gw_t (List.mem_of_getElem? (i := 117) (by decide +kernel)) (by decide +kernel)
theorem kw_120 : (Jvm.Cond.fieldLink "LineBreaker$Gauge" (42 : Nat) "LineBreaker$Settings" "right" "LLineBreaker$Glue;") ∈ gw := gw_t (List.mem_of_getElem? (i := 120) (by decide +kernel)) (by decide +kernel)
theorem kw_91 : (Jvm.Cond.fieldLink "LineBreaker$Gauge" (45 : Nat) "LineBreaker$Glue" "width" "I") ∈ gw := gw_t (List.mem_of_getElem? (i := 91) (by decide +kernel)) (by decide +kernel)
theorem kw_199 : (Jvm.Cond.fieldLink "LineBreaker$Gauge" (9 : Nat) "LineBreaker$Gauge" "galley" "LLineBreaker$Galley;") ∈ gw := gw_t (List.mem_of_getElem? (i := 199) (by decide +kernel)) (by decide +kernel)
theorem kw_148 : (Jvm.Cond.fieldLink "LineBreaker$Gauge" (55 : Nat) "LineBreaker$Galley" "before" "[I") ∈ gw := gw_t (List.mem_of_getElem? (i := 148) (by decide +kernel)) (by decide +kernel)
theorem kw_201 : (Jvm.Cond.fieldLink "LineBreaker$Gauge" (19 : Nat) "LineBreaker$Gauge" "moreStretch" "I") ∈ gw := gw_t (List.mem_of_getElem? (i := 201) (by decide +kernel)) (by decide +kernel)
theorem kw_97 : (Jvm.Cond.fieldLink "LineBreaker$Gauge" (66 : Nat) "LineBreaker$Glue" "shrink" "I") ∈ gw := gw_t (List.mem_of_getElem? (i := 97) (by decide +kernel)) (by decide +kernel)
theorem kw_151 : (Jvm.Cond.fieldLink "LineBreaker$Gauge" (72 : Nat) "LineBreaker$Galley" "widthUpTo" "[I") ∈ gw := gw_t (List.mem_of_getElem? (i := 151) (by decide +kernel)) (by decide +kernel)
theorem kw_153 : (Jvm.Cond.fieldLink "LineBreaker$Gauge" (75 : Nat) "LineBreaker$Galley" "finiteUpTo" "[I") ∈ gw := gw_t (List.mem_of_getElem? (i := 153) (by decide +kernel)) (by decide +kernel)
theorem kw_155 : (Jvm.Cond.fieldLink "LineBreaker$Gauge" (78 : Nat) "LineBreaker$Galley" "endlessUpTo" "[I") ∈ gw := gw_t (List.mem_of_getElem? (i := 155) (by decide +kernel)) (by decide +kernel)
theorem kw_157 : (Jvm.Cond.fieldLink "LineBreaker$Gauge" (81 : Nat) "LineBreaker$Galley" "shrinkUpTo" "[I") ∈ gw := gw_t (List.mem_of_getElem? (i := 157) (by decide +kernel)) (by decide +kernel)
theorem kw_760 : (Jvm.Cond.code ({ cls := "LineBreaker$Galley", name := "firstOneFrom", desc := "(I)I" } : Jvm.MethodName) prog_2_method_5_code (2 : Nat) (Option.some Jvm.ClassFile.FieldType.int)) ∈ gw := gw_t (List.mem_of_getElem? (i := 760) (by decide +kernel)) (by decide +kernel)
theorem kw_757 : (Jvm.Cond.methodLink "LineBreaker$Gauge" (69 : Nat) ({ cls := "LineBreaker$Galley", name := "firstOneFrom", desc := "(I)I" } : Jvm.MethodName)) ∈ gw := gw_t (List.mem_of_getElem? (i := 757) (by decide +kernel)) (by decide +kernel)
theorem kw_758 : (Jvm.Cond.instanceMethod ({ cls := "LineBreaker$Galley", name := "firstOneFrom", desc := "(I)I" } : Jvm.MethodName)) ∈ gw := gw_t (List.mem_of_getElem? (i := 758) (by decide +kernel)) (by decide +kernel)
theorem kw_759 : (Jvm.Cond.selects "LineBreaker$Galley" ({ cls := "LineBreaker$Galley", name := "firstOneFrom", desc := "(I)I" } : Jvm.MethodName) ({ cls := "LineBreaker$Galley", name := "firstOneFrom", desc := "(I)I" } : Jvm.MethodName)) ∈ gw := gw_t (List.mem_of_getElem? (i := 759) (by decide +kernel)) (by decide +kernel)
theorem kw_5 : (Jvm.Cond.initialized "LineBreaker$Galley") ∈ gw := gw_t (List.mem_of_getElem? (i := 5) (by decide +kernel)) (by decide +kernel)
theorem kw_694 : (Jvm.Cond.code ({ cls := "LineBreaker$Glue", name := "endlessStretch", desc := "()I" } : Jvm.MethodName) prog_4_method_4_code (1 : Nat) (Option.some Jvm.ClassFile.FieldType.int)) ∈ gw := gw_t (List.mem_of_getElem? (i := 694) (by decide +kernel)) (by decide +kernel)
theorem kw_756 : (Jvm.Cond.methodLink "LineBreaker$Gauge" (63 : Nat) ({ cls := "LineBreaker$Glue", name := "endlessStretch", desc := "()I" } : Jvm.MethodName)) ∈ gw := gw_t (List.mem_of_getElem? (i := 756) (by decide +kernel)) (by decide +kernel)
theorem kw_692 : (Jvm.Cond.instanceMethod ({ cls := "LineBreaker$Glue", name := "endlessStretch", desc := "()I" } : Jvm.MethodName)) ∈ gw := gw_t (List.mem_of_getElem? (i := 692) (by decide +kernel)) (by decide +kernel)
theorem kw_693 : (Jvm.Cond.selects "LineBreaker$Glue" ({ cls := "LineBreaker$Glue", name := "endlessStretch", desc := "()I" } : Jvm.MethodName) ({ cls := "LineBreaker$Glue", name := "endlessStretch", desc := "()I" } : Jvm.MethodName)) ∈ gw := gw_t (List.mem_of_getElem? (i := 693) (by decide +kernel)) (by decide +kernel)
theorem kw_4 : (Jvm.Cond.initialized "LineBreaker$Glue") ∈ gw := gw_t (List.mem_of_getElem? (i := 4) (by decide +kernel)) (by decide +kernel)
theorem kw_690 : (Jvm.Cond.code ({ cls := "LineBreaker$Glue", name := "finiteStretch", desc := "()I" } : Jvm.MethodName) prog_4_method_3_code (1 : Nat) (Option.some Jvm.ClassFile.FieldType.int)) ∈ gw := gw_t (List.mem_of_getElem? (i := 690) (by decide +kernel)) (by decide +kernel)
theorem kw_755 : (Jvm.Cond.methodLink "LineBreaker$Gauge" (59 : Nat) ({ cls := "LineBreaker$Glue", name := "finiteStretch", desc := "()I" } : Jvm.MethodName)) ∈ gw := gw_t (List.mem_of_getElem? (i := 755) (by decide +kernel)) (by decide +kernel)
theorem kw_688 : (Jvm.Cond.instanceMethod ({ cls := "LineBreaker$Glue", name := "finiteStretch", desc := "()I" } : Jvm.MethodName)) ∈ gw := gw_t (List.mem_of_getElem? (i := 688) (by decide +kernel)) (by decide +kernel)
theorem kw_689 : (Jvm.Cond.selects "LineBreaker$Glue" ({ cls := "LineBreaker$Glue", name := "finiteStretch", desc := "()I" } : Jvm.MethodName) ({ cls := "LineBreaker$Glue", name := "finiteStretch", desc := "()I" } : Jvm.MethodName)) ∈ gw := gw_t (List.mem_of_getElem? (i := 689) (by decide +kernel)) (by decide +kernel)
theorem kw_754 : (Jvm.Cond.code ({ cls := "LineBreaker$Galley", name := "widthBehind", desc := "(I)I" } : Jvm.MethodName) prog_2_method_6_code (2 : Nat) (Option.some Jvm.ClassFile.FieldType.int)) ∈ gw := gw_t (List.mem_of_getElem? (i := 754) (by decide +kernel)) (by decide +kernel)
theorem kw_751 : (Jvm.Cond.methodLink "LineBreaker$Gauge" (50 : Nat) ({ cls := "LineBreaker$Galley", name := "widthBehind", desc := "(I)I" } : Jvm.MethodName)) ∈ gw := gw_t (List.mem_of_getElem? (i := 751) (by decide +kernel)) (by decide +kernel)
theorem kw_752 : (Jvm.Cond.instanceMethod ({ cls := "LineBreaker$Galley", name := "widthBehind", desc := "(I)I" } : Jvm.MethodName)) ∈ gw := gw_t (List.mem_of_getElem? (i := 752) (by decide +kernel)) (by decide +kernel)
theorem kw_753 : (Jvm.Cond.selects "LineBreaker$Galley" ({ cls := "LineBreaker$Galley", name := "widthBehind", desc := "(I)I" } : Jvm.MethodName) ({ cls := "LineBreaker$Galley", name := "widthBehind", desc := "(I)I" } : Jvm.MethodName)) ∈ gw := gw_t (List.mem_of_getElem? (i := 753) (by decide +kernel)) (by decide +kernel)
theorem kw_749 : (Jvm.Cond.code ({ cls := "LineBreaker$Settings", name := "widthOfLine", desc := "(I)I" } : Jvm.MethodName) prog_10_method_2_code (2 : Nat) (Option.some Jvm.ClassFile.FieldType.int)) ∈ gw := gw_t (List.mem_of_getElem? (i := 749) (by decide +kernel)) (by decide +kernel)
theorem kw_746 : (Jvm.Cond.methodLink "LineBreaker$Gauge" (26 : Nat) ({ cls := "LineBreaker$Settings", name := "widthOfLine", desc := "(I)I" } : Jvm.MethodName)) ∈ gw := gw_t (List.mem_of_getElem? (i := 746) (by decide +kernel)) (by decide +kernel)
theorem kw_747 : (Jvm.Cond.instanceMethod ({ cls := "LineBreaker$Settings", name := "widthOfLine", desc := "(I)I" } : Jvm.MethodName)) ∈ gw := gw_t (List.mem_of_getElem? (i := 747) (by decide +kernel)) (by decide +kernel)
theorem kw_748 : (Jvm.Cond.selects "LineBreaker$Settings" ({ cls := "LineBreaker$Settings", name := "widthOfLine", desc := "(I)I" } : Jvm.MethodName) ({ cls := "LineBreaker$Settings", name := "widthOfLine", desc := "(I)I" } : Jvm.MethodName)) ∈ gw := gw_t (List.mem_of_getElem? (i := 748) (by decide +kernel)) (by decide +kernel)
theorem kw_3 : (Jvm.Cond.initialized "LineBreaker$Settings") ∈ gw := gw_t (List.mem_of_getElem? (i := 3) (by decide +kernel)) (by decide +kernel)
theorem kw_296 : (Jvm.Cond.fieldLink "LineBreaker$Search" (24 : Nat) "LineBreaker$Search" "gauge" "LLineBreaker$Gauge;") ∈ gw := gw_t (List.mem_of_getElem? (i := 296) (by decide +kernel)) (by decide +kernel)
theorem kw_298 : (Jvm.Cond.fieldLink "LineBreaker$Search" (31 : Nat) "LineBreaker$Search" "nodes" "LLineBreaker$Nodes;") ∈ gw := gw_t (List.mem_of_getElem? (i := 298) (by decide +kernel)) (by decide +kernel)
theorem kw_240 : (Jvm.Cond.fieldLink "LineBreaker$Search" (118 : Nat) "LineBreaker$Nodes" "place" "[I") ∈ gw := gw_t (List.mem_of_getElem? (i := 240) (by decide +kernel)) (by decide +kernel)
theorem kw_244 : (Jvm.Cond.fieldLink "LineBreaker$Search" (108 : Nat) "LineBreaker$Nodes" "lines" "[I") ∈ gw := gw_t (List.mem_of_getElem? (i := 244) (by decide +kernel)) (by decide +kernel)
theorem kw_745 : (Jvm.Cond.code ({ cls := "LineBreaker$Gauge", name := "measure", desc := "(III)V" } : Jvm.MethodName) prog_3_method_3_code (12 : Nat) (Option.none : Option Jvm.ClassFile.FieldType)) ∈ gw := gw_t (List.mem_of_getElem? (i := 745) (by decide +kernel)) (by decide +kernel)
theorem kw_742 : (Jvm.Cond.methodLink "LineBreaker$Search" (121 : Nat) ({ cls := "LineBreaker$Gauge", name := "measure", desc := "(III)V" } : Jvm.MethodName)) ∈ gw := gw_t (List.mem_of_getElem? (i := 742) (by decide +kernel)) (by decide +kernel)
theorem kw_743 : (Jvm.Cond.instanceMethod ({ cls := "LineBreaker$Gauge", name := "measure", desc := "(III)V" } : Jvm.MethodName)) ∈ gw := gw_t (List.mem_of_getElem? (i := 743) (by decide +kernel)) (by decide +kernel)
theorem kw_744 : (Jvm.Cond.selects "LineBreaker$Gauge" ({ cls := "LineBreaker$Gauge", name := "measure", desc := "(III)V" } : Jvm.MethodName) ({ cls := "LineBreaker$Gauge", name := "measure", desc := "(III)V" } : Jvm.MethodName)) ∈ gw := gw_t (List.mem_of_getElem? (i := 744) (by decide +kernel)) (by decide +kernel)
theorem d_St_widthOfLine_0 : decode prog_10_method_2_code 0 = .ok (.aload_n 0, 1) := by decide +kernel
theorem d_St_widthOfLine_4 : decode prog_10_method_2_code 4 = .ok (.iload_n 1, 1) := by decide +kernel
theorem d_St_widthOfLine_11 : decode prog_10_method_2_code 11 = .ok (.ireturn, 1) := by decide +kernel
theorem d_St_widthOfLine_10 : decode prog_10_method_2_code 10 = .ok (.iaload, 1) := by decide +kernel
theorem d_St_widthOfLine_7 : decode prog_10_method_2_code 7 = .ok (.invokestatic 34, 3) := by decide +kernel
theorem d_St_widthOfLine_5 : decode prog_10_method_2_code 5 = .ok (.bipush 19, 2) := by decide +kernel
theorem d_St_widthOfLine_1 : decode prog_10_method_2_code 1 = .ok (.getfield 15, 3) := by decide +kernel
theorem d_Ga_widthBehind_0 : decode prog_2_method_6_code 0 = .ok (.iload_n 1, 1) := by decide +kernel
theorem d_Ga_widthBehind_9 : decode prog_2_method_6_code 9 = .ok (.aload_n 0, 1) := by decide +kernel
theorem d_Ga_widthBehind_13 : decode prog_2_method_6_code 13 = .ok (.iload_n 1, 1) := by decide +kernel
theorem d_Ga_widthBehind_15 : decode prog_2_method_6_code 15 = .ok (.ireturn, 1) := by decide +kernel
theorem d_Ga_widthBehind_14 : decode prog_2_method_6_code 14 = .ok (.iaload, 1) := by decide +kernel
theorem d_Ga_widthBehind_10 : decode prog_2_method_6_code 10 = .ok (.getfield 28, 3) := by decide +kernel
theorem d_Ga_widthBehind_6 : decode prog_2_method_6_code 6 = .ok (.goto 9, 3) := by decide +kernel
theorem d_Ga_widthBehind_5 : decode prog_2_method_6_code 5 = .ok (.iconst 0, 1) := by decide +kernel
theorem d_Ga_widthBehind_2 : decode prog_2_method_6_code 2 = .ok (.if_icmp .ne 7, 3) := by decide +kernel
theorem d_Ga_widthBehind_1 : decode prog_2_method_6_code 1 = .ok (.iconst (-1), 1) := by decide +kernel
theorem d_Gl_finiteStretch_0 : decode prog_4_method_3_code 0 = .ok (.aload_n 0, 1) := by decide +kernel
theorem d_Gl_finiteStretch_15 : decode prog_4_method_3_code 15 = .ok (.ireturn, 1) := by decide +kernel
theorem d_Gl_finiteStretch_14 : decode prog_4_method_3_code 14 = .ok (.iconst 0, 1) := by decide +kernel
theorem d_Gl_finiteStretch_7 : decode prog_4_method_3_code 7 = .ok (.aload_n 0, 1) := by decide +kernel
theorem d_Gl_finiteStretch_11 : decode prog_4_method_3_code 11 = .ok (.goto 4, 3) := by decide +kernel
theorem d_Gl_finiteStretch_8 : decode prog_4_method_3_code 8 = .ok (.getfield 13, 3) := by decide +kernel
theorem d_Gl_finiteStretch_4 : decode prog_4_method_3_code 4 = .ok (.ifCond .ne 10, 3) := by decide +kernel
theorem d_Gl_finiteStretch_1 : decode prog_4_method_3_code 1 = .ok (.getfield 16, 3) := by decide +kernel
theorem d_Gl_endlessStretch_0 : decode prog_4_method_4_code 0 = .ok (.aload_n 0, 1) := by decide +kernel
theorem d_Gl_endlessStretch_11 : decode prog_4_method_4_code 11 = .ok (.aload_n 0, 1) := by decide +kernel
theorem d_Gl_endlessStretch_15 : decode prog_4_method_4_code 15 = .ok (.ireturn, 1) := by decide +kernel
theorem d_Gl_endlessStretch_12 : decode prog_4_method_4_code 12 = .ok (.getfield 13, 3) := by decide +kernel
theorem d_Gl_endlessStretch_8 : decode prog_4_method_4_code 8 = .ok (.goto 7, 3) := by decide +kernel
theorem d_Gl_endlessStretch_7 : decode prog_4_method_4_code 7 = .ok (.iconst 0, 1) := by decide +kernel
theorem d_Gl_endlessStretch_4 : decode prog_4_method_4_code 4 = .ok (.ifCond .ne 7, 3) := by decide +kernel
theorem d_Gl_endlessStretch_1 : decode prog_4_method_4_code 1 = .ok (.getfield 16, 3) := by decide +kernel
theorem d_Ga_firstOneFrom_0 : decode prog_2_method_5_code 0 = .ok (.iload_n 1, 1) := by decide +kernel
theorem d_Ga_firstOneFrom_9 : decode prog_2_method_5_code 9 = .ok (.aload_n 0, 1) := by decide +kernel
theorem d_Ga_firstOneFrom_13 : decode prog_2_method_5_code 13 = .ok (.iload_n 1, 1) := by decide +kernel
theorem d_Ga_firstOneFrom_15 : decode prog_2_method_5_code 15 = .ok (.ireturn, 1) := by decide +kernel
theorem d_Ga_firstOneFrom_14 : decode prog_2_method_5_code 14 = .ok (.iaload, 1) := by decide +kernel
theorem d_Ga_firstOneFrom_10 : decode prog_2_method_5_code 10 = .ok (.getfield 22, 3) := by decide +kernel
theorem d_Ga_firstOneFrom_6 : decode prog_2_method_5_code 6 = .ok (.goto 9, 3) := by decide +kernel
theorem d_Ga_firstOneFrom_5 : decode prog_2_method_5_code 5 = .ok (.iconst 0, 1) := by decide +kernel
theorem d_Ga_firstOneFrom_2 : decode prog_2_method_5_code 2 = .ok (.if_icmp .ne 7, 3) := by decide +kernel
theorem d_Ga_firstOneFrom_1 : decode prog_2_method_5_code 1 = .ok (.iconst (-1), 1) := by decide +kernel
theorem d_Gu_bad_47 : decode prog_3_method_6_code 47 = .ok (.iload_n 2, 1) := by decide +kernel
theorem d_Gu_bad_58 : decode prog_3_method_6_code 58 = .ok (.iload_n 2, 1) := by decide +kernel
theorem d_Gu_bad_59 : decode prog_3_method_6_code 59 = .ok (.iload_n 2, 1) := by decide +kernel
theorem d_Gu_bad_61 : decode prog_3_method_6_code 61 = .ok (.iload_n 2, 1) := by decide +kernel
theorem d_Gu_bad_69 : decode prog_3_method_6_code 69 = .ok (.ireturn, 1) := by decide +kernel
theorem d_Gu_bad_68 : decode prog_3_method_6_code 68 = .ok (.idiv, 1) := by decide +kernel
theorem d_Gu_bad_66 : decode prog_3_method_6_code 66 = .ok (.ldc 108, 2) := by decide +kernel
theorem d_Gu_bad_65 : decode prog_3_method_6_code 65 = .ok (.iadd, 1) := by decide +kernel
theorem d_Gu_bad_63 : decode prog_3_method_6_code 63 = .ok (.ldc 107, 2) := by decide +kernel
theorem d_Gu_bad_62 : decode prog_3_method_6_code 62 = .ok (.imul, 1) := by decide +kernel
theorem d_Gu_bad_60 : decode prog_3_method_6_code 60 = .ok (.imul, 1) := by decide +kernel
theorem d_Gu_bad_57 : decode prog_3_method_6_code 57 = .ok (.ireturn, 1) := by decide +kernel
theorem d_Gu_bad_54 : decode prog_3_method_6_code 54 = .ok (.sipush 10000, 3) := by decide +kernel
theorem d_Gu_bad_51 : decode prog_3_method_6_code 51 = .ok (.if_icmp .le 7, 3) := by decide +kernel
theorem d_Gu_bad_48 : decode prog_3_method_6_code 48 = .ok (.sipush 1290, 3) := by decide +kernel
theorem d_Gu_bad_0 : decode prog_3_method_6_code 0 = .ok (.iload_n 0, 1) := by decide +kernel
theorem d_Gu_bad_6 : decode prog_3_method_6_code 6 = .ok (.iload_n 1, 1) := by decide +kernel
theorem d_Gu_bad_14 : decode prog_3_method_6_code 14 = .ok (.iload_n 0, 1) := by decide +kernel
theorem d_Gu_bad_15 : decode prog_3_method_6_code 15 = .ok (.istore_n 2, 1) := by decide +kernel
theorem d_Gu_bad_16 : decode prog_3_method_6_code 16 = .ok (.iload_n 0, 1) := by decide +kernel
theorem d_Gu_bad_33 : decode prog_3_method_6_code 33 = .ok (.iload_n 1, 1) := by decide +kernel
theorem d_Gu_bad_39 : decode prog_3_method_6_code 39 = .ok (.iload_n 0, 1) := by decide +kernel
theorem d_Gu_bad_40 : decode prog_3_method_6_code 40 = .ok (.iload_n 1, 1) := by decide +kernel
theorem d_Gu_bad_46 : decode prog_3_method_6_code 46 = .ok (.istore_n 2, 1) := by decide +kernel
theorem d_Gu_bad_45 : decode prog_3_method_6_code 45 = .ok (.idiv, 1) := by decide +kernel
theorem d_Gu_bad_44 : decode prog_3_method_6_code 44 = .ok (.idiv, 1) := by decide +kernel
theorem d_Gu_bad_41 : decode prog_3_method_6_code 41 = .ok (.sipush 297, 3) := by decide +kernel
theorem d_Gu_bad_36 : decode prog_3_method_6_code 36 = .ok (.if_icmp .lt 11, 3) := by decide +kernel
theorem d_Gu_bad_34 : decode prog_3_method_6_code 34 = .ok (.ldc 106, 2) := by decide +kernel
theorem d_Gu_bad_25 : decode prog_3_method_6_code 25 = .ok (.iload_n 0, 1) := by decide +kernel
theorem d_Gu_bad_27 : decode prog_3_method_6_code 27 = .ok (.iload_n 1, 1) := by decide +kernel
theorem d_Gu_bad_29 : decode prog_3_method_6_code 29 = .ok (.istore_n 2, 1) := by decide +kernel
theorem d_Gu_bad_30 : decode prog_3_method_6_code 30 = .ok (.goto 17, 3) := by decide +kernel
theorem d_Gu_bad_28 : decode prog_3_method_6_code 28 = .ok (.idiv, 1) := by decide +kernel
theorem d_Gu_bad_26 : decode prog_3_method_6_code 26 = .ok (.imul, 1) := by decide +kernel
theorem d_Gu_bad_22 : decode prog_3_method_6_code 22 = .ok (.sipush 297, 3) := by decide +kernel
theorem d_Gu_bad_19 : decode prog_3_method_6_code 19 = .ok (.if_icmp .gt 14, 3) := by decide +kernel
theorem d_Gu_bad_17 : decode prog_3_method_6_code 17 = .ok (.ldc 105, 2) := by decide +kernel
theorem d_Gu_bad_13 : decode prog_3_method_6_code 13 = .ok (.ireturn, 1) := by decide +kernel
theorem d_Gu_bad_10 : decode prog_3_method_6_code 10 = .ok (.sipush 10000, 3) := by decide +kernel
theorem d_Gu_bad_7 : decode prog_3_method_6_code 7 = .ok (.ifCond .gt 7, 3) := by decide +kernel
theorem d_Gu_bad_5 : decode prog_3_method_6_code 5 = .ok (.ireturn, 1) := by decide +kernel
theorem d_Gu_bad_4 : decode prog_3_method_6_code 4 = .ok (.iconst 0, 1) := by decide +kernel
theorem d_Gu_bad_1 : decode prog_3_method_6_code 1 = .ok (.ifCond .gt 5, 3) := by decide +kernel
theorem d_Gu_judgeStretched_20 : decode prog_3_method_4_code 20 = .ok (.aload_n 0, 1) := by decide +kernel
theorem d_Gu_judgeStretched_21 : decode prog_3_method_4_code 21 = .ok (.aload_n 0, 1) := by decide +kernel
theorem d_Gu_judgeStretched_34 : decode prog_3_method_4_code 34 = .ok (.aload_n 0, 1) := by decide +kernel
theorem d_Gu_judgeStretched_51 : decode prog_3_method_4_code 51 = .ok (.return_, 1) := by decide +kernel
theorem d_Gu_judgeStretched_48 : decode prog_3_method_4_code 48 = .ok (.putfield 102, 3) := by decide +kernel
theorem d_Gu_judgeStretched_47 : decode prog_3_method_4_code 47 = .ok (.iconst 2, 1) := by decide +kernel
theorem d_Gu_judgeStretched_44 : decode prog_3_method_4_code 44 = .ok (.goto 4, 3) := by decide +kernel
theorem d_Gu_judgeStretched_43 : decode prog_3_method_4_code 43 = .ok (.iconst 1, 1) := by decide +kernel
theorem d_Gu_judgeStretched_40 : decode prog_3_method_4_code 40 = .ok (.if_icmp .le 7, 3) := by decide +kernel
theorem d_Gu_judgeStretched_38 : decode prog_3_method_4_code 38 = .ok (.bipush 12, 2) := by decide +kernel
theorem d_Gu_judgeStretched_35 : decode prog_3_method_4_code 35 = .ok (.getfield 99, 3) := by decide +kernel
theorem d_Gu_judgeStretched_31 : decode prog_3_method_4_code 31 = .ok (.goto 17, 3) := by decide +kernel
theorem d_Gu_judgeStretched_30 : decode prog_3_method_4_code 30 = .ok (.iconst 0, 1) := by decide +kernel
theorem d_Gu_judgeStretched_27 : decode prog_3_method_4_code 27 = .ok (.if_icmp .le 7, 3) := by decide +kernel
theorem d_Gu_judgeStretched_25 : decode prog_3_method_4_code 25 = .ok (.bipush 99, 2) := by decide +kernel
theorem d_Gu_judgeStretched_22 : decode prog_3_method_4_code 22 = .ok (.getfield 99, 3) := by decide +kernel
theorem d_Gu_judgeStretched_17 : decode prog_3_method_4_code 17 = .ok (.putfield 99, 3) := by decide +kernel
theorem d_Gu_judgeStretched_0 : decode prog_3_method_4_code 0 = .ok (.aload_n 0, 1) := by decide +kernel
theorem d_Gu_judgeStretched_1 : decode prog_3_method_4_code 1 = .ok (.iload_n 2, 1) := by decide +kernel
theorem d_Gu_judgeStretched_9 : decode prog_3_method_4_code 9 = .ok (.aload_n 0, 1) := by decide +kernel
theorem d_Gu_judgeStretched_13 : decode prog_3_method_4_code 13 = .ok (.iload_n 1, 1) := by decide +kernel
theorem d_Gu_judgeStretched_14 : decode prog_3_method_4_code 14 = .ok (.invokestatic 95, 3) := by decide +kernel
theorem d_Gu_judgeStretched_10 : decode prog_3_method_4_code 10 = .ok (.getfield 84, 3) := by decide +kernel
theorem d_Gu_judgeStretched_6 : decode prog_3_method_4_code 6 = .ok (.goto 11, 3) := by decide +kernel
theorem d_Gu_judgeStretched_5 : decode prog_3_method_4_code 5 = .ok (.iconst 0, 1) := by decide +kernel
theorem d_Gu_judgeStretched_2 : decode prog_3_method_4_code 2 = .ok (.ifCond .le 7, 3) := by decide +kernel
theorem d_Gu_judgeShrunk_0 : decode prog_3_method_5_code 0 = .ok (.aload_n 0, 1) := by decide +kernel
theorem d_Gu_judgeShrunk_5 : decode prog_3_method_5_code 5 = .ok (.istore_n 2, 1) := by decide +kernel
theorem d_Gu_judgeShrunk_6 : decode prog_3_method_5_code 6 = .ok (.iload_n 1, 1) := by decide +kernel
theorem d_Gu_judgeShrunk_7 : decode prog_3_method_5_code 7 = .ok (.iload_n 2, 1) := by decide +kernel
theorem d_Gu_judgeShrunk_24 : decode prog_3_method_5_code 24 = .ok (.aload_n 0, 1) := by decide +kernel
theorem d_Gu_judgeShrunk_25 : decode prog_3_method_5_code 25 = .ok (.iload_n 2, 1) := by decide +kernel
theorem d_Gu_judgeShrunk_26 : decode prog_3_method_5_code 26 = .ok (.iload_n 1, 1) := by decide +kernel
theorem d_Gu_judgeShrunk_33 : decode prog_3_method_5_code 33 = .ok (.aload_n 0, 1) := by decide +kernel
theorem d_Gu_judgeShrunk_34 : decode prog_3_method_5_code 34 = .ok (.aload_n 0, 1) := by decide +kernel
theorem d_Gu_judgeShrunk_51 : decode prog_3_method_5_code 51 = .ok (.return_, 1) := by decide +kernel
theorem d_Gu_judgeShrunk_48 : decode prog_3_method_5_code 48 = .ok (.putfield 102, 3) := by decide +kernel
theorem d_Gu_judgeShrunk_47 : decode prog_3_method_5_code 47 = .ok (.iconst 2, 1) := by decide +kernel
theorem d_Gu_judgeShrunk_44 : decode prog_3_method_5_code 44 = .ok (.goto 4, 3) := by decide +kernel
theorem d_Gu_judgeShrunk_43 : decode prog_3_method_5_code 43 = .ok (.iconst 3, 1) := by decide +kernel
theorem d_Gu_judgeShrunk_40 : decode prog_3_method_5_code 40 = .ok (.if_icmp .le 7, 3) := by decide +kernel
theorem d_Gu_judgeShrunk_38 : decode prog_3_method_5_code 38 = .ok (.bipush 12, 2) := by decide +kernel
theorem d_Gu_judgeShrunk_35 : decode prog_3_method_5_code 35 = .ok (.getfield 99, 3) := by decide +kernel
theorem d_Gu_judgeShrunk_30 : decode prog_3_method_5_code 30 = .ok (.putfield 99, 3) := by decide +kernel
theorem d_Gu_judgeShrunk_27 : decode prog_3_method_5_code 27 = .ok (.invokestatic 95, 3) := by decide +kernel
theorem d_Gu_judgeShrunk_11 : decode prog_3_method_5_code 11 = .ok (.aload_n 0, 1) := by decide +kernel
theorem d_Gu_judgeShrunk_18 : decode prog_3_method_5_code 18 = .ok (.aload_n 0, 1) := by decide +kernel
theorem d_Gu_judgeShrunk_23 : decode prog_3_method_5_code 23 = .ok (.return_, 1) := by decide +kernel
theorem d_Gu_judgeShrunk_20 : decode prog_3_method_5_code 20 = .ok (.putfield 102, 3) := by decide +kernel
theorem d_Gu_judgeShrunk_19 : decode prog_3_method_5_code 19 = .ok (.iconst 3, 1) := by decide +kernel
theorem d_Gu_judgeShrunk_15 : decode prog_3_method_5_code 15 = .ok (.putfield 99, 3) := by decide +kernel
theorem d_Gu_judgeShrunk_12 : decode prog_3_method_5_code 12 = .ok (.sipush 10001, 3) := by decide +kernel
theorem d_Gu_judgeShrunk_8 : decode prog_3_method_5_code 8 = .ok (.if_icmp .ge 16, 3) := by decide +kernel
theorem d_Gu_judgeShrunk_4 : decode prog_3_method_5_code 4 = .ok (.ineg, 1) := by decide +kernel
theorem d_Gu_judgeShrunk_1 : decode prog_3_method_5_code 1 = .ok (.getfield 84, 3) := by decide +kernel
theorem d_Gu_measure_262 : decode prog_3_method_3_code 262 = .ok (.aload_n 0, 1) := by decide +kernel
theorem d_Gu_measure_263 : decode prog_3_method_3_code 263 = .ok (.iload 4, 2) := by decide +kernel
theorem d_Gu_measure_265 : decode prog_3_method_3_code 265 = .ok (.iload 7, 2) := by decide +kernel
theorem d_Gu_measure_271 : decode prog_3_method_3_code 271 = .ok (.aload_n 0, 1) := by decide +kernel
theorem d_Gu_measure_289 : decode prog_3_method_3_code 289 = .ok (.aload_n 0, 1) := by decide +kernel
theorem d_Gu_measure_290 : decode prog_3_method_3_code 290 = .ok (.iload 10, 2) := by decide +kernel
theorem d_Gu_measure_295 : decode prog_3_method_3_code 295 = .ok (.return_, 1) := by decide +kernel
theorem d_Gu_measure_292 : decode prog_3_method_3_code 292 = .ok (.invokevirtual 91, 3) := by decide +kernel
theorem d_Gu_measure_278 : decode prog_3_method_3_code 278 = .ok (.aload_n 0, 1) := by decide +kernel
theorem d_Gu_measure_279 : decode prog_3_method_3_code 279 = .ok (.iload 8, 2) := by decide +kernel
theorem d_Gu_measure_281 : decode prog_3_method_3_code 281 = .ok (.iload 9, 2) := by decide +kernel
theorem d_Gu_measure_286 : decode prog_3_method_3_code 286 = .ok (.goto 9, 3) := by decide +kernel
theorem d_Gu_measure_283 : decode prog_3_method_3_code 283 = .ok (.invokevirtual 87, 3) := by decide +kernel
theorem d_Gu_measure_275 : decode prog_3_method_3_code 275 = .ok (.ifCond .le 14, 3) := by decide +kernel
theorem d_Gu_measure_272 : decode prog_3_method_3_code 272 = .ok (.getfield 84, 3) := by decide +kernel
theorem d_Gu_measure_268 : decode prog_3_method_3_code 268 = .ok (.putfield 84, 3) := by decide +kernel
theorem d_Gu_measure_267 : decode prog_3_method_3_code 267 = .ok (.isub, 1) := by decide +kernel
theorem d_Gu_measure_36 : decode prog_3_method_3_code 36 = .ok (.aload_n 0, 1) := by decide +kernel
theorem d_Gu_measure_37 : decode prog_3_method_3_code 37 = .ok (.iload_n 2, 1) := by decide +kernel
theorem d_Gu_measure_41 : decode prog_3_method_3_code 41 = .ok (.aload_n 0, 1) := by decide +kernel
theorem d_Gu_measure_42 : decode prog_3_method_3_code 42 = .ok (.iload_n 1, 1) := by decide +kernel
theorem d_Gu_measure_46 : decode prog_3_method_3_code 46 = .ok (.aload_n 0, 1) := by decide +kernel
theorem d_Gu_measure_47 : decode prog_3_method_3_code 47 = .ok (.iload 4, 2) := by decide +kernel
theorem d_Gu_measure_52 : decode prog_3_method_3_code 52 = .ok (.aload_n 0, 1) := by decide +kernel
theorem d_Gu_measure_59 : decode prog_3_method_3_code 59 = .ok (.astore 5, 2) := by decide +kernel
theorem d_Gu_measure_61 : decode prog_3_method_3_code 61 = .ok (.aload_n 0, 1) := by decide +kernel
theorem d_Gu_measure_68 : decode prog_3_method_3_code 68 = .ok (.astore 6, 2) := by decide +kernel
theorem d_Gu_measure_70 : decode prog_3_method_3_code 70 = .ok (.aload 5, 2) := by decide +kernel
theorem d_Gu_measure_75 : decode prog_3_method_3_code 75 = .ok (.aload 6, 2) := by decide +kernel
theorem d_Gu_measure_81 : decode prog_3_method_3_code 81 = .ok (.aload_n 0, 1) := by decide +kernel
theorem d_Gu_measure_85 : decode prog_3_method_3_code 85 = .ok (.iload_n 1, 1) := by decide +kernel
theorem d_Gu_measure_90 : decode prog_3_method_3_code 90 = .ok (.aload_n 0, 1) := by decide +kernel
theorem d_Gu_measure_97 : decode prog_3_method_3_code 97 = .ok (.iload_n 2, 1) := by decide +kernel
theorem d_Gu_measure_100 : decode prog_3_method_3_code 100 = .ok (.istore 7, 2) := by decide +kernel
theorem d_Gu_measure_102 : decode prog_3_method_3_code 102 = .ok (.aload 5, 2) := by decide +kernel
theorem d_Gu_measure_107 : decode prog_3_method_3_code 107 = .ok (.aload 6, 2) := by decide +kernel
theorem d_Gu_measure_113 : decode prog_3_method_3_code 113 = .ok (.aload_n 0, 1) := by decide +kernel
theorem d_Gu_measure_118 : decode prog_3_method_3_code 118 = .ok (.istore 8, 2) := by decide +kernel
theorem d_Gu_measure_120 : decode prog_3_method_3_code 120 = .ok (.aload 5, 2) := by decide +kernel
theorem d_Gu_measure_125 : decode prog_3_method_3_code 125 = .ok (.aload 6, 2) := by decide +kernel
theorem d_Gu_measure_131 : decode prog_3_method_3_code 131 = .ok (.istore 9, 2) := by decide +kernel
theorem d_Gu_measure_133 : decode prog_3_method_3_code 133 = .ok (.aload 5, 2) := by decide +kernel
theorem d_Gu_measure_138 : decode prog_3_method_3_code 138 = .ok (.aload 6, 2) := by decide +kernel
theorem d_Gu_measure_144 : decode prog_3_method_3_code 144 = .ok (.istore 10, 2) := by decide +kernel
theorem d_Gu_measure_146 : decode prog_3_method_3_code 146 = .ok (.aload_n 0, 1) := by decide +kernel
theorem d_Gu_measure_150 : decode prog_3_method_3_code 150 = .ok (.iload_n 1, 1) := by decide +kernel
theorem d_Gu_measure_154 : decode prog_3_method_3_code 154 = .ok (.istore 11, 2) := by decide +kernel
theorem d_Gu_measure_156 : decode prog_3_method_3_code 156 = .ok (.iload 11, 2) := by decide +kernel
theorem d_Gu_measure_158 : decode prog_3_method_3_code 158 = .ok (.iload_n 2, 1) := by decide +kernel
theorem d_Gu_measure_162 : decode prog_3_method_3_code 162 = .ok (.iload 7, 2) := by decide +kernel
theorem d_Gu_measure_164 : decode prog_3_method_3_code 164 = .ok (.aload_n 0, 1) := by decide +kernel
theorem d_Gu_measure_171 : decode prog_3_method_3_code 171 = .ok (.iload_n 2, 1) := by decide +kernel
theorem d_Gu_measure_173 : decode prog_3_method_3_code 173 = .ok (.aload_n 0, 1) := by decide +kernel
theorem d_Gu_measure_180 : decode prog_3_method_3_code 180 = .ok (.iload 11, 2) := by decide +kernel
theorem d_Gu_measure_185 : decode prog_3_method_3_code 185 = .ok (.istore 7, 2) := by decide +kernel
theorem d_Gu_measure_187 : decode prog_3_method_3_code 187 = .ok (.iload 8, 2) := by decide +kernel
theorem d_Gu_measure_189 : decode prog_3_method_3_code 189 = .ok (.aload_n 0, 1) := by decide +kernel
theorem d_Gu_measure_196 : decode prog_3_method_3_code 196 = .ok (.iload_n 2, 1) := by decide +kernel
theorem d_Gu_measure_198 : decode prog_3_method_3_code 198 = .ok (.aload_n 0, 1) := by decide +kernel
theorem d_Gu_measure_205 : decode prog_3_method_3_code 205 = .ok (.iload 11, 2) := by decide +kernel
theorem d_Gu_measure_210 : decode prog_3_method_3_code 210 = .ok (.istore 8, 2) := by decide +kernel
theorem d_Gu_measure_212 : decode prog_3_method_3_code 212 = .ok (.iload 9, 2) := by decide +kernel
theorem d_Gu_measure_214 : decode prog_3_method_3_code 214 = .ok (.aload_n 0, 1) := by decide +kernel
theorem d_Gu_measure_221 : decode prog_3_method_3_code 221 = .ok (.iload_n 2, 1) := by decide +kernel
theorem d_Gu_measure_223 : decode prog_3_method_3_code 223 = .ok (.aload_n 0, 1) := by decide +kernel
theorem d_Gu_measure_230 : decode prog_3_method_3_code 230 = .ok (.iload 11, 2) := by decide +kernel
theorem d_Gu_measure_235 : decode prog_3_method_3_code 235 = .ok (.istore 9, 2) := by decide +kernel
theorem d_Gu_measure_237 : decode prog_3_method_3_code 237 = .ok (.iload 10, 2) := by decide +kernel
theorem d_Gu_measure_239 : decode prog_3_method_3_code 239 = .ok (.aload_n 0, 1) := by decide +kernel
theorem d_Gu_measure_246 : decode prog_3_method_3_code 246 = .ok (.iload_n 2, 1) := by decide +kernel
theorem d_Gu_measure_248 : decode prog_3_method_3_code 248 = .ok (.aload_n 0, 1) := by decide +kernel
theorem d_Gu_measure_255 : decode prog_3_method_3_code 255 = .ok (.iload 11, 2) := by decide +kernel
theorem d_Gu_measure_260 : decode prog_3_method_3_code 260 = .ok (.istore 10, 2) := by decide +kernel
theorem d_Gu_measure_259 : decode prog_3_method_3_code 259 = .ok (.iadd, 1) := by decide +kernel
theorem d_Gu_measure_258 : decode prog_3_method_3_code 258 = .ok (.isub, 1) := by decide +kernel
theorem d_Gu_measure_257 : decode prog_3_method_3_code 257 = .ok (.iaload, 1) := by decide +kernel
theorem d_Gu_measure_252 : decode prog_3_method_3_code 252 = .ok (.getfield 81, 3) := by decide +kernel
theorem d_Gu_measure_249 : decode prog_3_method_3_code 249 = .ok (.getfield 9, 3) := by decide +kernel
theorem d_Gu_measure_247 : decode prog_3_method_3_code 247 = .ok (.iaload, 1) := by decide +kernel
theorem d_Gu_measure_243 : decode prog_3_method_3_code 243 = .ok (.getfield 81, 3) := by decide +kernel
theorem d_Gu_measure_240 : decode prog_3_method_3_code 240 = .ok (.getfield 9, 3) := by decide +kernel
theorem d_Gu_measure_234 : decode prog_3_method_3_code 234 = .ok (.iadd, 1) := by decide +kernel
theorem d_Gu_measure_233 : decode prog_3_method_3_code 233 = .ok (.isub, 1) := by decide +kernel
theorem d_Gu_measure_232 : decode prog_3_method_3_code 232 = .ok (.iaload, 1) := by decide +kernel
theorem d_Gu_measure_227 : decode prog_3_method_3_code 227 = .ok (.getfield 78, 3) := by decide +kernel
theorem d_Gu_measure_224 : decode prog_3_method_3_code 224 = .ok (.getfield 9, 3) := by decide +kernel
theorem d_Gu_measure_222 : decode prog_3_method_3_code 222 = .ok (.iaload, 1) := by decide +kernel
theorem d_Gu_measure_218 : decode prog_3_method_3_code 218 = .ok (.getfield 78, 3) := by decide +kernel
theorem d_Gu_measure_215 : decode prog_3_method_3_code 215 = .ok (.getfield 9, 3) := by decide +kernel
theorem d_Gu_measure_209 : decode prog_3_method_3_code 209 = .ok (.iadd, 1) := by decide +kernel
theorem d_Gu_measure_208 : decode prog_3_method_3_code 208 = .ok (.isub, 1) := by decide +kernel
theorem d_Gu_measure_207 : decode prog_3_method_3_code 207 = .ok (.iaload, 1) := by decide +kernel
theorem d_Gu_measure_202 : decode prog_3_method_3_code 202 = .ok (.getfield 75, 3) := by decide +kernel
theorem d_Gu_measure_199 : decode prog_3_method_3_code 199 = .ok (.getfield 9, 3) := by decide +kernel
theorem d_Gu_measure_197 : decode prog_3_method_3_code 197 = .ok (.iaload, 1) := by decide +kernel
theorem d_Gu_measure_193 : decode prog_3_method_3_code 193 = .ok (.getfield 75, 3) := by decide +kernel
theorem d_Gu_measure_190 : decode prog_3_method_3_code 190 = .ok (.getfield 9, 3) := by decide +kernel
theorem d_Gu_measure_184 : decode prog_3_method_3_code 184 = .ok (.iadd, 1) := by decide +kernel
theorem d_Gu_measure_183 : decode prog_3_method_3_code 183 = .ok (.isub, 1) := by decide +kernel
theorem d_Gu_measure_182 : decode prog_3_method_3_code 182 = .ok (.iaload, 1) := by decide +kernel
theorem d_Gu_measure_177 : decode prog_3_method_3_code 177 = .ok (.getfield 72, 3) := by decide +kernel
theorem d_Gu_measure_174 : decode prog_3_method_3_code 174 = .ok (.getfield 9, 3) := by decide +kernel
theorem d_Gu_measure_172 : decode prog_3_method_3_code 172 = .ok (.iaload, 1) := by decide +kernel
theorem d_Gu_measure_168 : decode prog_3_method_3_code 168 = .ok (.getfield 72, 3) := by decide +kernel
theorem d_Gu_measure_165 : decode prog_3_method_3_code 165 = .ok (.getfield 9, 3) := by decide +kernel
theorem d_Gu_measure_159 : decode prog_3_method_3_code 159 = .ok (.if_icmp .ge 103, 3) := by decide +kernel
theorem d_Gu_measure_151 : decode prog_3_method_3_code 151 = .ok (.invokevirtual 69, 3) := by decide +kernel
theorem d_Gu_measure_147 : decode prog_3_method_3_code 147 = .ok (.getfield 9, 3) := by decide +kernel
theorem d_Gu_measure_143 : decode prog_3_method_3_code 143 = .ok (.iadd, 1) := by decide +kernel
theorem d_Gu_measure_140 : decode prog_3_method_3_code 140 = .ok (.getfield 66, 3) := by decide +kernel
theorem d_Gu_measure_135 : decode prog_3_method_3_code 135 = .ok (.getfield 66, 3) := by decide +kernel
theorem d_Gu_measure_130 : decode prog_3_method_3_code 130 = .ok (.iadd, 1) := by decide +kernel
theorem d_Gu_measure_127 : decode prog_3_method_3_code 127 = .ok (.invokevirtual 63, 3) := by decide +kernel
theorem d_Gu_measure_122 : decode prog_3_method_3_code 122 = .ok (.invokevirtual 63, 3) := by decide +kernel
theorem d_Gu_measure_117 : decode prog_3_method_3_code 117 = .ok (.iadd, 1) := by decide +kernel
theorem d_Gu_measure_114 : decode prog_3_method_3_code 114 = .ok (.getfield 19, 3) := by decide +kernel
theorem d_Gu_measure_112 : decode prog_3_method_3_code 112 = .ok (.iadd, 1) := by decide +kernel
theorem d_Gu_measure_109 : decode prog_3_method_3_code 109 = .ok (.invokevirtual 59, 3) := by decide +kernel
theorem d_Gu_measure_104 : decode prog_3_method_3_code 104 = .ok (.invokevirtual 59, 3) := by decide +kernel
theorem d_Gu_measure_99 : decode prog_3_method_3_code 99 = .ok (.iadd, 1) := by decide +kernel
theorem d_Gu_measure_98 : decode prog_3_method_3_code 98 = .ok (.iaload, 1) := by decide +kernel
theorem d_Gu_measure_94 : decode prog_3_method_3_code 94 = .ok (.getfield 55, 3) := by decide +kernel
theorem d_Gu_measure_91 : decode prog_3_method_3_code 91 = .ok (.getfield 9, 3) := by decide +kernel
theorem d_Gu_measure_89 : decode prog_3_method_3_code 89 = .ok (.iadd, 1) := by decide +kernel
theorem d_Gu_measure_86 : decode prog_3_method_3_code 86 = .ok (.invokevirtual 50, 3) := by decide +kernel
theorem d_Gu_measure_82 : decode prog_3_method_3_code 82 = .ok (.getfield 9, 3) := by decide +kernel
theorem d_Gu_measure_80 : decode prog_3_method_3_code 80 = .ok (.iadd, 1) := by decide +kernel
theorem d_Gu_measure_77 : decode prog_3_method_3_code 77 = .ok (.getfield 45, 3) := by decide +kernel
theorem d_Gu_measure_72 : decode prog_3_method_3_code 72 = .ok (.getfield 45, 3) := by decide +kernel
theorem d_Gu_measure_65 : decode prog_3_method_3_code 65 = .ok (.getfield 42, 3) := by decide +kernel
theorem d_Gu_measure_62 : decode prog_3_method_3_code 62 = .ok (.getfield 15, 3) := by decide +kernel
theorem d_Gu_measure_56 : decode prog_3_method_3_code 56 = .ok (.getfield 38, 3) := by decide +kernel
theorem d_Gu_measure_53 : decode prog_3_method_3_code 53 = .ok (.getfield 15, 3) := by decide +kernel
theorem d_Gu_measure_49 : decode prog_3_method_3_code 49 = .ok (.putfield 35, 3) := by decide +kernel
theorem d_Gu_measure_43 : decode prog_3_method_3_code 43 = .ok (.putfield 32, 3) := by decide +kernel
theorem d_Gu_measure_38 : decode prog_3_method_3_code 38 = .ok (.putfield 23, 3) := by decide +kernel
theorem d_Gu_measure_0 : decode prog_3_method_3_code 0 = .ok (.aload_n 0, 1) := by decide +kernel
theorem d_Gu_measure_4 : decode prog_3_method_3_code 4 = .ok (.iload_n 3, 1) := by decide +kernel
theorem d_Gu_measure_8 : decode prog_3_method_3_code 8 = .ok (.istore 4, 2) := by decide +kernel
theorem d_Gu_measure_10 : decode prog_3_method_3_code 10 = .ok (.iload_n 2, 1) := by decide +kernel
theorem d_Gu_measure_11 : decode prog_3_method_3_code 11 = .ok (.aload_n 0, 1) := by decide +kernel
theorem d_Gu_measure_18 : decode prog_3_method_3_code 18 = .ok (.iload_n 1, 1) := by decide +kernel
theorem d_Gu_measure_19 : decode prog_3_method_3_code 19 = .ok (.aload_n 0, 1) := by decide +kernel
theorem d_Gu_measure_26 : decode prog_3_method_3_code 26 = .ok (.iload 4, 2) := by decide +kernel
theorem d_Gu_measure_28 : decode prog_3_method_3_code 28 = .ok (.aload_n 0, 1) := by decide +kernel
theorem d_Gu_measure_35 : decode prog_3_method_3_code 35 = .ok (.return_, 1) := by decide +kernel
theorem d_Gu_measure_32 : decode prog_3_method_3_code 32 = .ok (.if_icmp .ne 4, 3) := by decide +kernel
theorem d_Gu_measure_29 : decode prog_3_method_3_code 29 = .ok (.getfield 35, 3) := by decide +kernel
theorem d_Gu_measure_23 : decode prog_3_method_3_code 23 = .ok (.if_icmp .ne 13, 3) := by decide +kernel
theorem d_Gu_measure_20 : decode prog_3_method_3_code 20 = .ok (.getfield 32, 3) := by decide +kernel
theorem d_Gu_measure_15 : decode prog_3_method_3_code 15 = .ok (.if_icmp .ne 21, 3) := by decide +kernel
theorem d_Gu_measure_12 : decode prog_3_method_3_code 12 = .ok (.getfield 23, 3) := by decide +kernel
theorem d_Gu_measure_5 : decode prog_3_method_3_code 5 = .ok (.invokevirtual 26, 3) := by decide +kernel
theorem d_Gu_measure_1 : decode prog_3_method_3_code 1 = .ok (.getfield 15, 3) := by decide +kernel
theorem d_Se_measureFrom_0 : decode prog_9_method_4_code 0 = .ok (.aload_n 0, 1) := by decide +kernel
theorem d_Se_measureFrom_4 : decode prog_9_method_4_code 4 = .ok (.aload_n 0, 1) := by decide +kernel
theorem d_Se_measureFrom_11 : decode prog_9_method_4_code 11 = .ok (.iload_n 1, 1) := by decide +kernel
theorem d_Se_measureFrom_13 : decode prog_9_method_4_code 13 = .ok (.iload_n 2, 1) := by decide +kernel
theorem d_Se_measureFrom_14 : decode prog_9_method_4_code 14 = .ok (.aload_n 0, 1) := by decide +kernel
theorem d_Se_measureFrom_21 : decode prog_9_method_4_code 21 = .ok (.iload_n 1, 1) := by decide +kernel
theorem d_Se_measureFrom_26 : decode prog_9_method_4_code 26 = .ok (.return_, 1) := by decide +kernel
theorem d_Se_measureFrom_23 : decode prog_9_method_4_code 23 = .ok (.invokevirtual 121, 3) := by decide +kernel
theorem d_Se_measureFrom_22 : decode prog_9_method_4_code 22 = .ok (.iaload, 1) := by decide +kernel
theorem d_Se_measureFrom_18 : decode prog_9_method_4_code 18 = .ok (.getfield 108, 3) := by decide +kernel
theorem d_Se_measureFrom_15 : decode prog_9_method_4_code 15 = .ok (.getfield 31, 3) := by decide +kernel
theorem d_Se_measureFrom_12 : decode prog_9_method_4_code 12 = .ok (.iaload, 1) := by decide +kernel
theorem d_Se_measureFrom_8 : decode prog_9_method_4_code 8 = .ok (.getfield 118, 3) := by decide +kernel
theorem d_Se_measureFrom_5 : decode prog_9_method_4_code 5 = .ok (.getfield 31, 3) := by decide +kernel
theorem d_Se_measureFrom_1 : decode prog_9_method_4_code 1 = .ok (.getfield 24, 3) := by decide +kernel
abbrev y_St_widthOfLine : MethodName := ⟨"LineBreaker$Settings", "widthOfLine", "(I)I"⟩
abbrev rm_St_widthOfLine : Room := { frames := 1, cells := 0, slots := 0, locals := 29 }
set_option maxRecDepth 100000 in
def wp_St_widthOfLine (S : ST) (p1 : Int32) (post : Int32 → Prop) : Prop := (∀ v1 : Int32, v1 = (if 19 < p1 then 19 else p1) → (vp_in v1 20 ∧ post ((S.1 13) v1.toNatClampNeg)))
abbrev y_Ga_widthBehind : MethodName := ⟨"LineBreaker$Galley", "widthBehind", "(I)I"⟩
abbrev rm_Ga_widthBehind : Room := { frames := 0, cells := 0, slots := 0, locals := 0 }
set_option maxRecDepth 100000 in
def wp_Ga_widthBehind (S : ST) (p1 : Int32) (post : Int32 → Prop) : Prop := ((¬ p1 = (-1) → (vp_in p1 403 ∧ post ((S.1 23) p1.toNatClampNeg))) ∧ (p1 = (-1) → post 0))
abbrev y_Gl_finiteStretch : MethodName := ⟨"LineBreaker$Glue", "finiteStretch", "()I"⟩
abbrev rm_Gl_finiteStretch : Room := { frames := 0, cells := 0, slots := 0, locals := 0 }
set_option maxRecDepth 100000 in
def wp_Gl_finiteStretch (S : ST) (post : Int32 → Prop) : Prop := ((¬ (S.2.2 898) = 0 → post 0) ∧ ((S.2.2 898) = 0 → post (S.2.2 897)))
abbrev rm_Gl_finiteStretch_15 : Room := { frames := 0, cells := 0, slots := 0, locals := 0 }
set_option maxRecDepth 100000 in
def wp_Gl_finiteStretch_15 (S : ST) (post : Int32 → Prop) : Prop := ((¬ (S.2.2 962) = 0 → post 0) ∧ ((S.2.2 962) = 0 → post (S.2.2 961)))
abbrev y_Gl_endlessStretch : MethodName := ⟨"LineBreaker$Glue", "endlessStretch", "()I"⟩
abbrev rm_Gl_endlessStretch : Room := { frames := 0, cells := 0, slots := 0, locals := 0 }
set_option maxRecDepth 100000 in
def wp_Gl_endlessStretch (S : ST) (post : Int32 → Prop) : Prop := ((¬ (S.2.2 898) = 0 → post (S.2.2 897)) ∧ ((S.2.2 898) = 0 → post 0))
abbrev rm_Gl_endlessStretch_15 : Room := { frames := 0, cells := 0, slots := 0, locals := 0 }
set_option maxRecDepth 100000 in
def wp_Gl_endlessStretch_15 (S : ST) (post : Int32 → Prop) : Prop := ((¬ (S.2.2 962) = 0 → post (S.2.2 961)) ∧ ((S.2.2 962) = 0 → post 0))
abbrev y_Ga_firstOneFrom : MethodName := ⟨"LineBreaker$Galley", "firstOneFrom", "(I)I"⟩
abbrev rm_Ga_firstOneFrom : Room := { frames := 0, cells := 0, slots := 0, locals := 0 }
set_option maxRecDepth 100000 in
def wp_Ga_firstOneFrom (S : ST) (p1 : Int32) (post : Int32 → Prop) : Prop := ((¬ p1 = (-1) → (vp_in p1 403 ∧ post ((S.1 21) p1.toNatClampNeg))) ∧ (p1 = (-1) → post 0))
abbrev y_Gu_bad : MethodName := ⟨"LineBreaker$Gauge", "bad", "(II)I"⟩
abbrev rm_Gu_bad : Room := { frames := 0, cells := 0, slots := 0, locals := 0 }
set_option maxRecDepth 100000 in
def wl_Gu_bad_47 (S : ST) (post : Int32 → Prop) (x2 : Int32) : Prop := ((x2 ≤ 1290 → (¬ (262144 : Int32) = 0 ∧ post ((((x2 * x2) * x2) + 131072) / 262144))) ∧ (¬ x2 ≤ 1290 → post 10000))
set_option maxRecDepth 100000 in
def wp_Gu_bad (S : ST) (p1 : Int32) (p2 : Int32) (post : Int32 → Prop) : Prop := ((0 < p1 → ((0 < p2 → ((7230584 < p1 → ((p2 < 1663497 → wl_Gu_bad_47 S post  p1) ∧ (¬ p2 < 1663497 → (¬ (297 : Int32) = 0 ∧ (¬ ((p2 / 297) : Int32) = 0 ∧ (∀ v1 : Int32, v1 = (p1 / (p2 / 297)) → wl_Gu_bad_47 S post  v1)))))) ∧ (¬ 7230584 < p1 → (¬ (p2 : Int32) = 0 ∧ (∀ v2 : Int32, v2 = ((297 * p1) / p2) → wl_Gu_bad_47 S post  v2))))) ∧ (¬ 0 < p2 → post 10000))) ∧ (¬ 0 < p1 → post 0))
abbrev y_Gu_judgeStretched : MethodName := ⟨"LineBreaker$Gauge", "judgeStretched", "(II)V"⟩
abbrev rm_Gu_judgeStretched : Room := { frames := 1, cells := 0, slots := 0, locals := 22 }
set_option maxRecDepth 100000 in
def wl_Gu_judgeStretched_17 (S : ST) (post : Int32 → Int32 → Prop) (z1 : Int32) : Prop := ((z1 ≤ 99 → ((z1 ≤ 12 → post z1 2) ∧ (¬ z1 ≤ 12 → post z1 1))) ∧ (¬ z1 ≤ 99 → post z1 0))
set_option maxRecDepth 100000 in
def wp_Gu_judgeStretched (S : ST) (p1 : Int32) (p2 : Int32) (post : Int32 → Int32 → Prop) : Prop := ((p2 ≤ 0 → wp_Gu_bad S (S.2.2 1923) p1 (fun r1 => wl_Gu_judgeStretched_17 S post  r1)) ∧ (¬ p2 ≤ 0 → wl_Gu_judgeStretched_17 S post  0))
abbrev y_Gu_judgeShrunk : MethodName := ⟨"LineBreaker$Gauge", "judgeShrunk", "(I)V"⟩
abbrev rm_Gu_judgeShrunk : Room := { frames := 1, cells := 0, slots := 0, locals := 22 }
set_option maxRecDepth 100000 in
def wp_Gu_judgeShrunk (S : ST) (p1 : Int32) (post : Int32 → Int32 → Prop) : Prop := (∀ v1 : Int32, v1 = (-(S.2.2 1923)) → ((v1 ≤ p1 → wp_Gu_bad S v1 p1 (fun r2 => ((r2 ≤ 12 → post r2 2) ∧ (¬ r2 ≤ 12 → post r2 3)))) ∧ (¬ v1 ≤ p1 → post 10001 3)))
abbrev y_Gu_measure : MethodName := ⟨"LineBreaker$Gauge", "measure", "(III)V"⟩
abbrev rm_Gu_measure : Room := { frames := 2, cells := 0, slots := 0, locals := 50 }
set_option maxRecDepth 100000 in
def wl_Gu_measure_262 (S : ST) (post : Int32 → Int32 → Int32 → Int32 → Int32 → Int32 → Prop) (i1926 : Int32) (i1927 : Int32) (i1928 : Int32) (x4 : Int32) (x7 : Int32) (x8 : Int32) (x9 : Int32) (x10 : Int32) : Prop := (∀ v1 : Int32, v1 = (x4 - x7) → ((v1 ≤ 0 → wp_Gu_judgeShrunk (sI (sI (sI (sI S 1923 v1) 1926 i1926) 1927 i1927) 1928 i1928) x10 (fun v2 v3 => post v1 v2 v3 i1926 i1927 i1928)) ∧ (¬ v1 ≤ 0 → wp_Gu_judgeStretched (sI (sI (sI (sI S 1923 v1) 1926 i1926) 1927 i1927) 1928 i1928) x8 x9 (fun v4 v5 => post v1 v4 v5 i1926 i1927 i1928))))
set_option maxRecDepth 100000 in
def wl_Gu_measure_36 (S : ST) (post : Int32 → Int32 → Int32 → Int32 → Int32 → Int32 → Prop) (x1 : Int32) (x2 : Int32) (x4 : Int32) : Prop := wp_Ga_widthBehind (sI (sI (sI S 1926 x1) 1927 x2) 1928 x4) x1 (fun r1 => (vp_in x2 403 ∧ (∀ v2 : Int32, v2 = ((((S.2.2 896) + (S.2.2 960)) + r1) + ((S.1 22) x2.toNatClampNeg)) → wp_Gl_finiteStretch (sI (sI (sI S 1926 x1) 1927 x2) 1928 x4)  (fun r3 => wp_Gl_finiteStretch_15 (sI (sI (sI S 1926 x1) 1927 x2) 1928 x4)  (fun r4 => (∀ v5 : Int32, v5 = ((r3 + r4) + (S.2.2 1922)) → wp_Gl_endlessStretch (sI (sI (sI S 1926 x1) 1927 x2) 1928 x4)  (fun r6 => wp_Gl_endlessStretch_15 (sI (sI (sI S 1926 x1) 1927 x2) 1928 x4)  (fun r7 => (∀ v8 : Int32, v8 = (r6 + r7) → (∀ v9 : Int32, v9 = ((S.2.2 899) + (S.2.2 963)) → wp_Ga_firstOneFrom (sI (sI (sI S 1926 x1) 1927 x2) 1928 x4) x1 (fun r10 => ((x2 ≤ r10 → wl_Gu_measure_262 S post  x1 x2 x4 x4 v2 v5 v8 v9) ∧ (¬ x2 ≤ r10 → (vp_in x2 403 ∧ (vp_in r10 403 ∧ (∀ v11 : Int32, v11 = (v2 + (((S.1 24) x2.toNatClampNeg) - ((S.1 24) r10.toNatClampNeg))) → (vp_in x2 403 ∧ (vp_in r10 403 ∧ (∀ v12 : Int32, v12 = (v5 + (((S.1 25) x2.toNatClampNeg) - ((S.1 25) r10.toNatClampNeg))) → (vp_in x2 403 ∧ (vp_in r10 403 ∧ (∀ v13 : Int32, v13 = (v8 + (((S.1 26) x2.toNatClampNeg) - ((S.1 26) r10.toNatClampNeg))) → (vp_in x2 403 ∧ (vp_in r10 403 ∧ (∀ v14 : Int32, v14 = (v9 + (((S.1 27) x2.toNatClampNeg) - ((S.1 27) r10.toNatClampNeg))) → wl_Gu_measure_262 S post  x1 x2 x4 x4 v11 v12 v13 v14)))))))))))))))))))))))))
set_option maxRecDepth 100000 in
def wp_Gu_measure (S : ST) (p1 : Int32) (p2 : Int32) (p3 : Int32) (post : Int32 → Int32 → Int32 → Int32 → Int32 → Int32 → Prop) : Prop := wp_St_widthOfLine S p3 (fun r1 => ((¬ p2 = (S.2.2 1927) → wl_Gu_measure_36 S post  p1 p2 r1) ∧ (p2 = (S.2.2 1927) → ((¬ p1 = (S.2.2 1926) → wl_Gu_measure_36 S post  p1 p2 r1) ∧ (p1 = (S.2.2 1926) → ((¬ r1 = (S.2.2 1928) → wl_Gu_measure_36 S post  p1 p2 r1) ∧ (r1 = (S.2.2 1928) → post (S.2.2 1923) (S.2.2 1924) (S.2.2 1925) (S.2.2 1926) (S.2.2 1927) (S.2.2 1928))))))))
abbrev y_Se_measureFrom : MethodName := ⟨"LineBreaker$Search", "measureFrom", "(II)V"⟩
abbrev rm_Se_measureFrom : Room := { frames := 3, cells := 0, slots := 0, locals := 81 }
set_option maxRecDepth 100000 in
def wp_Se_measureFrom (S : ST) (p1 : Int32) (p2 : Int32) (post : Int32 → Int32 → Int32 → Int32 → Int32 → Int32 → Prop) : Prop := (vp_in p1 8001 ∧ (vp_in p1 8001 ∧ wp_Gu_measure S ((S.1 32) p1.toNatClampNeg) p2 ((S.1 33) p1.toNatClampNeg) (fun v1 v2 v3 v4 v5 v6 => post v1 v2 v3 v4 v5 v6)))
section
variable {p : Program} {l : Launch} {e : Env} {s : State} {m : MethodId} {args : Array Value} {below : List Frame} {meth : Method} {c : Code} {n0 : Nat} {G : va_G} {K : KT} {ad : Nat → Nat} {X : va_W}
set_option maxHeartbeats 4000000 in
set_option maxRecDepth 100000 in
theorem c_St_widthOfLine (l : Launch) (n0 : Nat) (G : va_G) (K : KT) (ad : Nat → Nat) (X : va_W) (S : ST) (p1 : Int32) (post : Int32 → Prop) (hw : wp_St_widthOfLine S p1 post) : Met l y_St_widthOfLine (Cond.code y_St_widthOfLine prog_10_method_2_code 2 (some .int) :: gw) rm_St_widthOfLine (va_Pc [.ref (ad 11), .int p1] (wb n0 G K (wC K ad S ++ X))) (va_Qi (fun r (u : Unit) => post r) (fun (u : Unit) t => we n0 G (wC K ad S ++ X) t) (al n0)) 0 0 (al n0) := by
  refine kb_start (own := "LineBreaker$Settings") (by decide +kernel) rfl ?_
  intro p e s m below meth c C hr hnm w
  have hx := C.1
  have hb := C.2.1
  have hts := C.2.2.2.2.1
  have hl := lv_entry ([.ref (ad 11), .int p1]) (n := 2) (Nat.le_of_ble_eq_true rfl)
  rw [lg_entry_eq]
  generalize (lg_sl ([.ref (ad 11), .int p1]) ++ List.replicate (2 - (lg_sl ([.ref (ad 11), .int p1])).length) Slot.unset).toArray = ls at hl ⊢
  have hl : lv_has ls 2 [(0, .ref (ad 11)), (1, .int p1)] := hl
  unfold wp_St_widthOfLine at hw
  refine lv_aload_n hx hb d_St_widthOfLine_0 rfl (lv_at hl 0 rfl) ?_
  refine kg (C1 := R_St) (T := F_St) (N := 5) (ci := 8) (ref := "LineBreaker$Settings") (v := .ref (ad 13)) C w 11 1 iw_St rfl rfl (by decide) kw_114 rfl rfl d_St_widthOfLine_1 ?_
  refine lv_iload_n hx hb d_St_widthOfLine_4 rfl (lv_at hl 1 rfl) ?_
  refine lv_bipush (v := 19) hx hb d_St_widthOfLine_5 (by decide) ?_
  refine va_mmin hx hb (C.2.2.1.trans hl.1.symm) C.2.2.2.1 (hts _ kw_750) (hts _ kw_563) (hts _ kw_17) (hts _ kw_564) (Nat.le_of_ble_eq_true rfl) (Nat.le_of_ble_eq_true rfl) (Nat.zero_le _) (Nat.zero_le _) d_St_widthOfLine_7 ?_
  refine lv_topi (fun v1 ev1 => ?_)
  have hw := hw v1 ev1
  refine ka_i (f := (S.1 13)) C w 13 rfl hw.1 d_St_widthOfLine_10 ?_
  have hw := hw.2
  exact ke_i (post := (fun r (u : Unit) => post r)) (st := (fun (u : Unit) => wC K ad S ++ X)) (u := ()) C hr d_St_widthOfLine_11 (wn_eq w rfl) hw
set_option maxHeartbeats 4000000 in
set_option maxRecDepth 100000 in
theorem c_Ga_widthBehind (l : Launch) (n0 : Nat) (G : va_G) (K : KT) (ad : Nat → Nat) (X : va_W) (S : ST) (p1 : Int32) (post : Int32 → Prop) (hw : wp_Ga_widthBehind S p1 post) : Met l y_Ga_widthBehind (Cond.code y_Ga_widthBehind prog_2_method_6_code 2 (some .int) :: gw) rm_Ga_widthBehind (va_Pc [.ref (ad 17), .int p1] (wb n0 G K (wC K ad S ++ X))) (va_Qi (fun r (u : Unit) => post r) (fun (u : Unit) t => we n0 G (wC K ad S ++ X) t) (al n0)) 0 0 (al n0) := by
  refine kb_start (own := "LineBreaker$Galley") (by decide +kernel) rfl ?_
  intro p e s m below meth c C hr hnm w
  have hx := C.1
  have hb := C.2.1
  have hts := C.2.2.2.2.1
  have hl := lv_entry ([.ref (ad 17), .int p1]) (n := 2) (Nat.le_of_ble_eq_true rfl)
  rw [lg_entry_eq]
  generalize (lg_sl ([.ref (ad 17), .int p1]) ++ List.replicate (2 - (lg_sl ([.ref (ad 17), .int p1])).length) Slot.unset).toArray = ls at hl ⊢
  have hl : lv_has ls 2 [(0, .ref (ad 17)), (1, .int p1)] := hl
  unfold wp_Ga_widthBehind at hw
  refine lv_iload_n hx hb d_Ga_widthBehind_0 rfl (lv_at hl 1 rfl) ?_
  refine lv_iconst (v := (-1)) hx hb d_Ga_widthBehind_1 (by decide) ?_
  refine lv_icmp_ne (tgt := 9) hx hb d_Ga_widthBehind_2 (by decide) (fun hc => ?_) (fun hc => ?_)
  · have hw := hw.1 hc
    refine lv_aload_n hx hb d_Ga_widthBehind_9 rfl (lv_at hl 0 rfl) ?_
    refine kg (C1 := R_Ga) (T := F_Ga) (N := 12) (ci := 0) (ref := "LineBreaker$Galley") (v := .ref (ad 23)) C w 17 5 iw_Ga rfl rfl (by decide) kw_149 rfl rfl d_Ga_widthBehind_10 ?_
    refine lv_iload_n hx hb d_Ga_widthBehind_13 rfl (lv_at hl 1 rfl) ?_
    refine ka_i (f := (S.1 23)) C w 23 rfl hw.1 d_Ga_widthBehind_14 ?_
    have hw := hw.2
    exact ke_i (post := (fun r (u : Unit) => post r)) (st := (fun (u : Unit) => wC K ad S ++ X)) (u := ()) C hr d_Ga_widthBehind_15 (wn_eq w rfl) hw
  · have hw := hw.2 hc
    refine lv_iconst (v := 0) hx hb d_Ga_widthBehind_5 (by decide) ?_
    refine lv_goto (tgt := 15) hx hb d_Ga_widthBehind_6 (by decide) ?_
    exact ke_i (post := (fun r (u : Unit) => post r)) (st := (fun (u : Unit) => wC K ad S ++ X)) (u := ()) C hr d_Ga_widthBehind_15 (wn_eq w rfl) hw
set_option maxHeartbeats 4000000 in
set_option maxRecDepth 100000 in
theorem c_Gl_finiteStretch (l : Launch) (n0 : Nat) (G : va_G) (K : KT) (ad : Nat → Nat) (X : va_W) (S : ST) (post : Int32 → Prop) (hw : wp_Gl_finiteStretch S  post) : Met l y_Gl_finiteStretch (Cond.code y_Gl_finiteStretch prog_4_method_3_code 1 (some .int) :: gw) rm_Gl_finiteStretch (va_Pc [.ref (ad 14)] (wb n0 G K (wC K ad S ++ X))) (va_Qi (fun r (u : Unit) => post r) (fun (u : Unit) t => we n0 G (wC K ad S ++ X) t) (al n0)) 0 0 (al n0) := by
  refine kb_start (own := "LineBreaker$Glue") (by decide +kernel) rfl ?_
  intro p e s m below meth c C hr hnm w
  have hx := C.1
  have hb := C.2.1
  have hts := C.2.2.2.2.1
  have hl := lv_entry ([.ref (ad 14)]) (n := 1) (Nat.le_of_ble_eq_true rfl)
  rw [lg_entry_eq]
  generalize (lg_sl ([.ref (ad 14)]) ++ List.replicate (1 - (lg_sl ([.ref (ad 14)])).length) Slot.unset).toArray = ls at hl ⊢
  have hl : lv_has ls 1 [(0, .ref (ad 14))] := hl
  unfold wp_Gl_finiteStretch at hw
  refine lv_aload_n hx hb d_Gl_finiteStretch_0 rfl (lv_at hl 0 rfl) ?_
  refine kg (C1 := R_Gl) (T := F_Gl) (N := 4) (ci := 2) (ref := "LineBreaker$Glue") (v := .int (S.2.2 898)) C w 14 2 iw_Gl rfl rfl (by decide) kw_95 rfl rfl d_Gl_finiteStretch_1 ?_
  refine lv_if_ne (tgt := 14) hx hb d_Gl_finiteStretch_4 (by decide) (fun hc => ?_) (fun hc => ?_)
  · have hw := hw.1 hc
    refine lv_iconst (v := 0) hx hb d_Gl_finiteStretch_14 (by decide) ?_
    exact ke_i (post := (fun r (u : Unit) => post r)) (st := (fun (u : Unit) => wC K ad S ++ X)) (u := ()) C hr d_Gl_finiteStretch_15 (wn_eq w rfl) hw
  · have hw := hw.2 hc
    refine lv_aload_n hx hb d_Gl_finiteStretch_7 rfl (lv_at hl 0 rfl) ?_
    refine kg (C1 := R_Gl) (T := F_Gl) (N := 4) (ci := 2) (ref := "LineBreaker$Glue") (v := .int (S.2.2 897)) C w 14 1 iw_Gl rfl rfl (by decide) kw_93 rfl rfl d_Gl_finiteStretch_8 ?_
    refine lv_goto (tgt := 15) hx hb d_Gl_finiteStretch_11 (by decide) ?_
    exact ke_i (post := (fun r (u : Unit) => post r)) (st := (fun (u : Unit) => wC K ad S ++ X)) (u := ()) C hr d_Gl_finiteStretch_15 (wn_eq w rfl) hw
set_option maxHeartbeats 4000000 in
set_option maxRecDepth 100000 in
theorem c_Gl_finiteStretch_15 (l : Launch) (n0 : Nat) (G : va_G) (K : KT) (ad : Nat → Nat) (X : va_W) (S : ST) (post : Int32 → Prop) (hw : wp_Gl_finiteStretch_15 S  post) : Met l y_Gl_finiteStretch (Cond.code y_Gl_finiteStretch prog_4_method_3_code 1 (some .int) :: gw) rm_Gl_finiteStretch_15 (va_Pc [.ref (ad 15)] (wb n0 G K (wC K ad S ++ X))) (va_Qi (fun r (u : Unit) => post r) (fun (u : Unit) t => we n0 G (wC K ad S ++ X) t) (al n0)) 0 0 (al n0) := by
  refine kb_start (own := "LineBreaker$Glue") (by decide +kernel) rfl ?_
  intro p e s m below meth c C hr hnm w
  have hx := C.1
  have hb := C.2.1
  have hts := C.2.2.2.2.1
  have hl := lv_entry ([.ref (ad 15)]) (n := 1) (Nat.le_of_ble_eq_true rfl)
  rw [lg_entry_eq]
  generalize (lg_sl ([.ref (ad 15)]) ++ List.replicate (1 - (lg_sl ([.ref (ad 15)])).length) Slot.unset).toArray = ls at hl ⊢
  have hl : lv_has ls 1 [(0, .ref (ad 15))] := hl
  unfold wp_Gl_finiteStretch_15 at hw
  refine lv_aload_n hx hb d_Gl_finiteStretch_0 rfl (lv_at hl 0 rfl) ?_
  refine kg (C1 := R_Gl) (T := F_Gl) (N := 4) (ci := 2) (ref := "LineBreaker$Glue") (v := .int (S.2.2 962)) C w 15 2 iw_Gl rfl rfl (by decide) kw_95 rfl rfl d_Gl_finiteStretch_1 ?_
  refine lv_if_ne (tgt := 14) hx hb d_Gl_finiteStretch_4 (by decide) (fun hc => ?_) (fun hc => ?_)
  · have hw := hw.1 hc
    refine lv_iconst (v := 0) hx hb d_Gl_finiteStretch_14 (by decide) ?_
    exact ke_i (post := (fun r (u : Unit) => post r)) (st := (fun (u : Unit) => wC K ad S ++ X)) (u := ()) C hr d_Gl_finiteStretch_15 (wn_eq w rfl) hw
  · have hw := hw.2 hc
    refine lv_aload_n hx hb d_Gl_finiteStretch_7 rfl (lv_at hl 0 rfl) ?_
    refine kg (C1 := R_Gl) (T := F_Gl) (N := 4) (ci := 2) (ref := "LineBreaker$Glue") (v := .int (S.2.2 961)) C w 15 1 iw_Gl rfl rfl (by decide) kw_93 rfl rfl d_Gl_finiteStretch_8 ?_
    refine lv_goto (tgt := 15) hx hb d_Gl_finiteStretch_11 (by decide) ?_
    exact ke_i (post := (fun r (u : Unit) => post r)) (st := (fun (u : Unit) => wC K ad S ++ X)) (u := ()) C hr d_Gl_finiteStretch_15 (wn_eq w rfl) hw
set_option maxHeartbeats 4000000 in
set_option maxRecDepth 100000 in
theorem c_Gl_endlessStretch (l : Launch) (n0 : Nat) (G : va_G) (K : KT) (ad : Nat → Nat) (X : va_W) (S : ST) (post : Int32 → Prop) (hw : wp_Gl_endlessStretch S  post) : Met l y_Gl_endlessStretch (Cond.code y_Gl_endlessStretch prog_4_method_4_code 1 (some .int) :: gw) rm_Gl_endlessStretch (va_Pc [.ref (ad 14)] (wb n0 G K (wC K ad S ++ X))) (va_Qi (fun r (u : Unit) => post r) (fun (u : Unit) t => we n0 G (wC K ad S ++ X) t) (al n0)) 0 0 (al n0) := by
  refine kb_start (own := "LineBreaker$Glue") (by decide +kernel) rfl ?_
  intro p e s m below meth c C hr hnm w
  have hx := C.1
  have hb := C.2.1
  have hts := C.2.2.2.2.1
  have hl := lv_entry ([.ref (ad 14)]) (n := 1) (Nat.le_of_ble_eq_true rfl)
  rw [lg_entry_eq]
  generalize (lg_sl ([.ref (ad 14)]) ++ List.replicate (1 - (lg_sl ([.ref (ad 14)])).length) Slot.unset).toArray = ls at hl ⊢
  have hl : lv_has ls 1 [(0, .ref (ad 14))] := hl
  unfold wp_Gl_endlessStretch at hw
  refine lv_aload_n hx hb d_Gl_endlessStretch_0 rfl (lv_at hl 0 rfl) ?_
  refine kg (C1 := R_Gl) (T := F_Gl) (N := 4) (ci := 2) (ref := "LineBreaker$Glue") (v := .int (S.2.2 898)) C w 14 2 iw_Gl rfl rfl (by decide) kw_95 rfl rfl d_Gl_endlessStretch_1 ?_
  refine lv_if_ne (tgt := 11) hx hb d_Gl_endlessStretch_4 (by decide) (fun hc => ?_) (fun hc => ?_)
  · have hw := hw.1 hc
    refine lv_aload_n hx hb d_Gl_endlessStretch_11 rfl (lv_at hl 0 rfl) ?_
    refine kg (C1 := R_Gl) (T := F_Gl) (N := 4) (ci := 2) (ref := "LineBreaker$Glue") (v := .int (S.2.2 897)) C w 14 1 iw_Gl rfl rfl (by decide) kw_93 rfl rfl d_Gl_endlessStretch_12 ?_
    exact ke_i (post := (fun r (u : Unit) => post r)) (st := (fun (u : Unit) => wC K ad S ++ X)) (u := ()) C hr d_Gl_endlessStretch_15 (wn_eq w rfl) hw
  · have hw := hw.2 hc
    refine lv_iconst (v := 0) hx hb d_Gl_endlessStretch_7 (by decide) ?_
    refine lv_goto (tgt := 15) hx hb d_Gl_endlessStretch_8 (by decide) ?_
    exact ke_i (post := (fun r (u : Unit) => post r)) (st := (fun (u : Unit) => wC K ad S ++ X)) (u := ()) C hr d_Gl_endlessStretch_15 (wn_eq w rfl) hw
set_option maxHeartbeats 4000000 in
set_option maxRecDepth 100000 in
theorem c_Gl_endlessStretch_15 (l : Launch) (n0 : Nat) (G : va_G) (K : KT) (ad : Nat → Nat) (X : va_W) (S : ST) (post : Int32 → Prop) (hw : wp_Gl_endlessStretch_15 S  post) : Met l y_Gl_endlessStretch (Cond.code y_Gl_endlessStretch prog_4_method_4_code 1 (some .int) :: gw) rm_Gl_endlessStretch_15 (va_Pc [.ref (ad 15)] (wb n0 G K (wC K ad S ++ X))) (va_Qi (fun r (u : Unit) => post r) (fun (u : Unit) t => we n0 G (wC K ad S ++ X) t) (al n0)) 0 0 (al n0) := by
  refine kb_start (own := "LineBreaker$Glue") (by decide +kernel) rfl ?_
  intro p e s m below meth c C hr hnm w
  have hx := C.1
  have hb := C.2.1
  have hts := C.2.2.2.2.1
  have hl := lv_entry ([.ref (ad 15)]) (n := 1) (Nat.le_of_ble_eq_true rfl)
  rw [lg_entry_eq]
  generalize (lg_sl ([.ref (ad 15)]) ++ List.replicate (1 - (lg_sl ([.ref (ad 15)])).length) Slot.unset).toArray = ls at hl ⊢
  have hl : lv_has ls 1 [(0, .ref (ad 15))] := hl
  unfold wp_Gl_endlessStretch_15 at hw
  refine lv_aload_n hx hb d_Gl_endlessStretch_0 rfl (lv_at hl 0 rfl) ?_
  refine kg (C1 := R_Gl) (T := F_Gl) (N := 4) (ci := 2) (ref := "LineBreaker$Glue") (v := .int (S.2.2 962)) C w 15 2 iw_Gl rfl rfl (by decide) kw_95 rfl rfl d_Gl_endlessStretch_1 ?_
  refine lv_if_ne (tgt := 11) hx hb d_Gl_endlessStretch_4 (by decide) (fun hc => ?_) (fun hc => ?_)
  · have hw := hw.1 hc
    refine lv_aload_n hx hb d_Gl_endlessStretch_11 rfl (lv_at hl 0 rfl) ?_
    refine kg (C1 := R_Gl) (T := F_Gl) (N := 4) (ci := 2) (ref := "LineBreaker$Glue") (v := .int (S.2.2 961)) C w 15 1 iw_Gl rfl rfl (by decide) kw_93 rfl rfl d_Gl_endlessStretch_12 ?_
    exact ke_i (post := (fun r (u : Unit) => post r)) (st := (fun (u : Unit) => wC K ad S ++ X)) (u := ()) C hr d_Gl_endlessStretch_15 (wn_eq w rfl) hw
  · have hw := hw.2 hc
    refine lv_iconst (v := 0) hx hb d_Gl_endlessStretch_7 (by decide) ?_
    refine lv_goto (tgt := 15) hx hb d_Gl_endlessStretch_8 (by decide) ?_
    exact ke_i (post := (fun r (u : Unit) => post r)) (st := (fun (u : Unit) => wC K ad S ++ X)) (u := ()) C hr d_Gl_endlessStretch_15 (wn_eq w rfl) hw
set_option maxHeartbeats 4000000 in
set_option maxRecDepth 100000 in
theorem c_Ga_firstOneFrom (l : Launch) (n0 : Nat) (G : va_G) (K : KT) (ad : Nat → Nat) (X : va_W) (S : ST) (p1 : Int32) (post : Int32 → Prop) (hw : wp_Ga_firstOneFrom S p1 post) : Met l y_Ga_firstOneFrom (Cond.code y_Ga_firstOneFrom prog_2_method_5_code 2 (some .int) :: gw) rm_Ga_firstOneFrom (va_Pc [.ref (ad 17), .int p1] (wb n0 G K (wC K ad S ++ X))) (va_Qi (fun r (u : Unit) => post r) (fun (u : Unit) t => we n0 G (wC K ad S ++ X) t) (al n0)) 0 0 (al n0) := by
  refine kb_start (own := "LineBreaker$Galley") (by decide +kernel) rfl ?_
  intro p e s m below meth c C hr hnm w
  have hx := C.1
  have hb := C.2.1
  have hts := C.2.2.2.2.1
  have hl := lv_entry ([.ref (ad 17), .int p1]) (n := 2) (Nat.le_of_ble_eq_true rfl)
  rw [lg_entry_eq]
  generalize (lg_sl ([.ref (ad 17), .int p1]) ++ List.replicate (2 - (lg_sl ([.ref (ad 17), .int p1])).length) Slot.unset).toArray = ls at hl ⊢
  have hl : lv_has ls 2 [(0, .ref (ad 17)), (1, .int p1)] := hl
  unfold wp_Ga_firstOneFrom at hw
  refine lv_iload_n hx hb d_Ga_firstOneFrom_0 rfl (lv_at hl 1 rfl) ?_
  refine lv_iconst (v := (-1)) hx hb d_Ga_firstOneFrom_1 (by decide) ?_
  refine lv_icmp_ne (tgt := 9) hx hb d_Ga_firstOneFrom_2 (by decide) (fun hc => ?_) (fun hc => ?_)
  · have hw := hw.1 hc
    refine lv_aload_n hx hb d_Ga_firstOneFrom_9 rfl (lv_at hl 0 rfl) ?_
    refine kg (C1 := R_Ga) (T := F_Ga) (N := 12) (ci := 0) (ref := "LineBreaker$Galley") (v := .ref (ad 21)) C w 17 3 iw_Ga rfl rfl (by decide) kw_146 rfl rfl d_Ga_firstOneFrom_10 ?_
    refine lv_iload_n hx hb d_Ga_firstOneFrom_13 rfl (lv_at hl 1 rfl) ?_
    refine ka_i (f := (S.1 21)) C w 21 rfl hw.1 d_Ga_firstOneFrom_14 ?_
    have hw := hw.2
    exact ke_i (post := (fun r (u : Unit) => post r)) (st := (fun (u : Unit) => wC K ad S ++ X)) (u := ()) C hr d_Ga_firstOneFrom_15 (wn_eq w rfl) hw
  · have hw := hw.2 hc
    refine lv_iconst (v := 0) hx hb d_Ga_firstOneFrom_5 (by decide) ?_
    refine lv_goto (tgt := 15) hx hb d_Ga_firstOneFrom_6 (by decide) ?_
    exact ke_i (post := (fun r (u : Unit) => post r)) (st := (fun (u : Unit) => wC K ad S ++ X)) (u := ()) C hr d_Ga_firstOneFrom_15 (wn_eq w rfl) hw
set_option maxHeartbeats 4000000 in
set_option maxRecDepth 100000 in
theorem w_Gu_bad_47 {S : ST} {post : Int32 → Prop} (C : cx p s m args meth c prog_3_method_6_code 3 "LineBreaker$Gauge" n0 G K) (hr : meth.sig.returnType = (some .int)) : ∀ (x2 : Int32), wl_Gu_bad_47 S post x2 → ∀ (H : Heap) (locs : List Loc) (ls : Array Slot), wn n0 G (wC K ad S ++ X) s H locs → lv_has ls 3 [(2, .int x2)] → W p l e rm_Gu_bad s m args below meth c H locs 0 0 (MQ below (va_Qi (fun r (u : Unit) => post r) (fun (u : Unit) t => we n0 G (wC K ad S ++ X) t) (al n0)) args s 0 0 (al n0)) (F0 m 47 ls []) := by
  have hx := C.1
  have hb := C.2.1
  have hts := C.2.2.2.2.1
  intro x2 hw H locs ls w hl
  unfold wl_Gu_bad_47 at hw
  refine lv_iload_n hx hb d_Gu_bad_47 rfl (lv_at hl 0 rfl) ?_
  refine lv_sipush (v := 1290) hx hb d_Gu_bad_48 (by decide) ?_
  refine lv_icmp_le (tgt := 58) hx hb d_Gu_bad_51 (by decide) (fun hc => ?_) (fun hc => ?_)
  · have hw := hw.1 hc
    refine lv_iload_n hx hb d_Gu_bad_58 rfl (lv_at hl 0 rfl) ?_
    refine lv_iload_n hx hb d_Gu_bad_59 rfl (lv_at hl 0 rfl) ?_
    refine lv_imul hx hb d_Gu_bad_60 ?_
    refine lv_iload_n hx hb d_Gu_bad_61 rfl (lv_at hl 0 rfl) ?_
    refine lv_imul hx hb d_Gu_bad_62 ?_
    refine lv_ldc (v := 131072) hx hb C.2.2.2.1 (hts _ kw_770) d_Gu_bad_63 ?_
    refine lv_iadd hx hb d_Gu_bad_65 ?_
    refine lv_ldc (v := 262144) hx hb C.2.2.2.1 (hts _ kw_771) d_Gu_bad_66 ?_
    refine lv_idiv hx hb d_Gu_bad_68 hw.1 ?_
    have hw := hw.2
    exact ke_i (post := (fun r (u : Unit) => post r)) (st := (fun (u : Unit) => wC K ad S ++ X)) (u := ()) C hr d_Gu_bad_69 (wn_eq w rfl) hw
  · have hw := hw.2 hc
    refine lv_sipush (v := 10000) hx hb d_Gu_bad_54 (by decide) ?_
    exact ke_i (post := (fun r (u : Unit) => post r)) (st := (fun (u : Unit) => wC K ad S ++ X)) (u := ()) C hr d_Gu_bad_57 (wn_eq w rfl) hw
set_option maxHeartbeats 4000000 in
set_option maxRecDepth 100000 in
theorem c_Gu_bad (l : Launch) (n0 : Nat) (G : va_G) (K : KT) (ad : Nat → Nat) (X : va_W) (S : ST) (p1 : Int32) (p2 : Int32) (post : Int32 → Prop) (hw : wp_Gu_bad S p1 p2 post) : Met l y_Gu_bad (Cond.code y_Gu_bad prog_3_method_6_code 3 (some .int) :: gw) rm_Gu_bad (va_Pc [.int p1, .int p2] (wb n0 G K (wC K ad S ++ X))) (va_Qi (fun r (u : Unit) => post r) (fun (u : Unit) t => we n0 G (wC K ad S ++ X) t) (al n0)) 0 0 (al n0) := by
  refine kb_start (own := "LineBreaker$Gauge") (by decide +kernel) rfl ?_
  intro p e s m below meth c C hr hnm w
  have hx := C.1
  have hb := C.2.1
  have hts := C.2.2.2.2.1
  have hl := lv_entry ([.int p1, .int p2]) (n := 3) (Nat.le_of_ble_eq_true rfl)
  rw [lg_entry_eq]
  generalize (lg_sl ([.int p1, .int p2]) ++ List.replicate (3 - (lg_sl ([.int p1, .int p2])).length) Slot.unset).toArray = ls at hl ⊢
  have hl : lv_has ls 3 [(0, .int p1), (1, .int p2)] := hl
  unfold wp_Gu_bad at hw
  refine lv_iload_n hx hb d_Gu_bad_0 rfl (lv_at hl 0 rfl) ?_
  refine lv_if_gt (tgt := 6) hx hb d_Gu_bad_1 (by decide) (fun hc => ?_) (fun hc => ?_)
  · have hw := hw.1 hc
    refine lv_iload_n hx hb d_Gu_bad_6 rfl (lv_at hl 1 rfl) ?_
    refine lv_if_gt (tgt := 14) hx hb d_Gu_bad_7 (by decide) (fun hc => ?_) (fun hc => ?_)
    · have hw := hw.1 hc
      refine lv_iload_n hx hb d_Gu_bad_14 rfl (lv_at hl 0 rfl) ?_
      refine lv_istore_n (lv' := [(2, .int p1), (0, .int p1), (1, .int p2)]) hx hb d_Gu_bad_15 rfl hl (by decide) rfl (fun ls hl => ?_)
      refine lv_iload_n hx hb d_Gu_bad_16 rfl (lv_at hl 1 rfl) ?_
      refine lv_ldc (v := 7230584) hx hb C.2.2.2.1 (hts _ kw_768) d_Gu_bad_17 ?_
      refine lv_icmp_gt (tgt := 33) hx hb d_Gu_bad_19 (by decide) (fun hc => ?_) (fun hc => ?_)
      · have hw := hw.1 hc
        refine lv_iload_n hx hb d_Gu_bad_33 rfl (lv_at hl 2 rfl) ?_
        refine lv_ldc (v := 1663497) hx hb C.2.2.2.1 (hts _ kw_769) d_Gu_bad_34 ?_
        refine lv_icmp_lt (tgt := 47) hx hb d_Gu_bad_36 (by decide) (fun hc => ?_) (fun hc => ?_)
        · have hw := hw.1 hc
          exact w_Gu_bad_47 C hr  p1 hw _ _ _ (wn_eq w rfl) (lv_sub hl [0] rfl)
        · have hw := hw.2 hc
          refine lv_iload_n hx hb d_Gu_bad_39 rfl (lv_at hl 1 rfl) ?_
          refine lv_iload_n hx hb d_Gu_bad_40 rfl (lv_at hl 2 rfl) ?_
          refine lv_sipush (v := 297) hx hb d_Gu_bad_41 (by decide) ?_
          refine lv_idiv hx hb d_Gu_bad_44 hw.1 ?_
          have hw := hw.2
          refine lv_idiv hx hb d_Gu_bad_45 hw.1 ?_
          have hw := hw.2
          refine lv_topi (fun v1 ev1 => ?_)
          have hw := hw v1 ev1
          refine lv_istore_n (lv' := [(2, .int v1), (0, .int p1), (1, .int p2)]) hx hb d_Gu_bad_46 rfl hl (by decide) rfl (fun ls hl => ?_)
          exact w_Gu_bad_47 C hr  v1 hw _ _ _ (wn_eq w rfl) (lv_sub hl [0] rfl)
      · have hw := hw.2 hc
        refine lv_sipush (v := 297) hx hb d_Gu_bad_22 (by decide) ?_
        refine lv_iload_n hx hb d_Gu_bad_25 rfl (lv_at hl 1 rfl) ?_
        refine lv_imul hx hb d_Gu_bad_26 ?_
        refine lv_iload_n hx hb d_Gu_bad_27 rfl (lv_at hl 2 rfl) ?_
        refine lv_idiv hx hb d_Gu_bad_28 hw.1 ?_
        have hw := hw.2
        refine lv_topi (fun v2 ev2 => ?_)
        have hw := hw v2 ev2
        refine lv_istore_n (lv' := [(2, .int v2), (0, .int p1), (1, .int p2)]) hx hb d_Gu_bad_29 rfl hl (by decide) rfl (fun ls hl => ?_)
        refine lv_goto (tgt := 47) hx hb d_Gu_bad_30 (by decide) ?_
        exact w_Gu_bad_47 C hr  v2 hw _ _ _ (wn_eq w rfl) (lv_sub hl [0] rfl)
    · have hw := hw.2 hc
      refine lv_sipush (v := 10000) hx hb d_Gu_bad_10 (by decide) ?_
      exact ke_i (post := (fun r (u : Unit) => post r)) (st := (fun (u : Unit) => wC K ad S ++ X)) (u := ()) C hr d_Gu_bad_13 (wn_eq w rfl) hw
  · have hw := hw.2 hc
    refine lv_iconst (v := 0) hx hb d_Gu_bad_4 (by decide) ?_
    exact ke_i (post := (fun r (u : Unit) => post r)) (st := (fun (u : Unit) => wC K ad S ++ X)) (u := ()) C hr d_Gu_bad_5 (wn_eq w rfl) hw
set_option maxHeartbeats 4000000 in
set_option maxRecDepth 100000 in
theorem w_Gu_judgeStretched_17 {S : ST} {post : Int32 → Int32 → Prop} (C : cx p s m args meth c prog_3_method_4_code 3 "LineBreaker$Gauge" n0 G K) (hr : meth.sig.returnType = none) : ∀ (z1 : Int32), wl_Gu_judgeStretched_17 S post z1 → ∀ (H : Heap) (locs : List Loc) (ls : Array Slot), wn n0 G (wC K ad S ++ X) s H locs → lv_has ls 3 [(0, .ref (ad 30))] → W p l e rm_Gu_judgeStretched s m args below meth c H locs 0 0 (MQ below (va_Qv (fun (u : Int32 × Int32) => post u.1 u.2) (fun (u : Int32 × Int32) t => we n0 G (wC K ad (sI (sI S 1924 u.1) 1925 u.2) ++ X) t) (al n0)) args s 0 0 (al n0)) (F0 m 17 ls [.int z1, .ref (ad 30)]) := by
  have hx := C.1
  have hb := C.2.1
  have hts := C.2.2.2.2.1
  intro z1 hw H locs ls w hl
  unfold wl_Gu_judgeStretched_17 at hw
  refine kp (C1 := R_Gu) (T := F_Gu) (N := 9) (ci := 1) (ty0 := t_Gu) (ref := "LineBreaker$Gauge") (w2 := wC K ad (sI S 1924 z1) ++ X) C w 30 4 iw_Gu tk_Gu n_Gu rfl rfl (by decide) kw_206 rfl rfl rfl rfl (Nat.le_of_ble_eq_true rfl) rfl d_Gu_judgeStretched_17 (fun H locs w => ?_)
  refine lv_aload_n hx hb d_Gu_judgeStretched_20 rfl (lv_at hl 0 rfl) ?_
  refine lv_aload_n hx hb d_Gu_judgeStretched_21 rfl (lv_at hl 0 rfl) ?_
  refine kg (C1 := R_Gu) (T := F_Gu) (N := 9) (ci := 1) (ref := "LineBreaker$Gauge") (v := .int z1) C w 30 4 iw_Gu rfl rfl (by decide) kw_206 rfl rfl d_Gu_judgeStretched_22 ?_
  refine lv_bipush (v := 99) hx hb d_Gu_judgeStretched_25 (by decide) ?_
  refine lv_icmp_le (tgt := 34) hx hb d_Gu_judgeStretched_27 (by decide) (fun hc => ?_) (fun hc => ?_)
  · have hw := hw.1 hc
    refine lv_aload_n hx hb d_Gu_judgeStretched_34 rfl (lv_at hl 0 rfl) ?_
    refine kg (C1 := R_Gu) (T := F_Gu) (N := 9) (ci := 1) (ref := "LineBreaker$Gauge") (v := .int z1) C w 30 4 iw_Gu rfl rfl (by decide) kw_206 rfl rfl d_Gu_judgeStretched_35 ?_
    refine lv_bipush (v := 12) hx hb d_Gu_judgeStretched_38 (by decide) ?_
    refine lv_icmp_le (tgt := 47) hx hb d_Gu_judgeStretched_40 (by decide) (fun hc => ?_) (fun hc => ?_)
    · have hw := hw.1 hc
      refine lv_iconst (v := 2) hx hb d_Gu_judgeStretched_47 (by decide) ?_
      refine kp (C1 := R_Gu) (T := F_Gu) (N := 9) (ci := 1) (ty0 := t_Gu) (ref := "LineBreaker$Gauge") (w2 := wC K ad (sI (sI S 1924 z1) 1925 2) ++ X) C w 30 5 iw_Gu tk_Gu n_Gu rfl rfl (by decide) kw_208 rfl rfl rfl rfl (Nat.le_of_ble_eq_true rfl) rfl d_Gu_judgeStretched_48 (fun H locs w => ?_)
      exact ke_v (post := (fun (u : Int32 × Int32) => post u.1 u.2)) (st := (fun (u : Int32 × Int32) => wC K ad (sI (sI S 1924 u.1) 1925 u.2) ++ X)) (u := (z1, 2)) C hr d_Gu_judgeStretched_51 (wn_eq w rfl) hw
    · have hw := hw.2 hc
      refine lv_iconst (v := 1) hx hb d_Gu_judgeStretched_43 (by decide) ?_
      refine lv_goto (tgt := 48) hx hb d_Gu_judgeStretched_44 (by decide) ?_
      refine kp (C1 := R_Gu) (T := F_Gu) (N := 9) (ci := 1) (ty0 := t_Gu) (ref := "LineBreaker$Gauge") (w2 := wC K ad (sI (sI S 1924 z1) 1925 1) ++ X) C w 30 5 iw_Gu tk_Gu n_Gu rfl rfl (by decide) kw_208 rfl rfl rfl rfl (Nat.le_of_ble_eq_true rfl) rfl d_Gu_judgeStretched_48 (fun H locs w => ?_)
      exact ke_v (post := (fun (u : Int32 × Int32) => post u.1 u.2)) (st := (fun (u : Int32 × Int32) => wC K ad (sI (sI S 1924 u.1) 1925 u.2) ++ X)) (u := (z1, 1)) C hr d_Gu_judgeStretched_51 (wn_eq w rfl) hw
  · have hw := hw.2 hc
    refine lv_iconst (v := 0) hx hb d_Gu_judgeStretched_30 (by decide) ?_
    refine lv_goto (tgt := 48) hx hb d_Gu_judgeStretched_31 (by decide) ?_
    refine kp (C1 := R_Gu) (T := F_Gu) (N := 9) (ci := 1) (ty0 := t_Gu) (ref := "LineBreaker$Gauge") (w2 := wC K ad (sI (sI S 1924 z1) 1925 0) ++ X) C w 30 5 iw_Gu tk_Gu n_Gu rfl rfl (by decide) kw_208 rfl rfl rfl rfl (Nat.le_of_ble_eq_true rfl) rfl d_Gu_judgeStretched_48 (fun H locs w => ?_)
    exact ke_v (post := (fun (u : Int32 × Int32) => post u.1 u.2)) (st := (fun (u : Int32 × Int32) => wC K ad (sI (sI S 1924 u.1) 1925 u.2) ++ X)) (u := (z1, 0)) C hr d_Gu_judgeStretched_51 (wn_eq w rfl) hw
set_option maxHeartbeats 4000000 in
set_option maxRecDepth 100000 in
theorem c_Gu_judgeStretched (l : Launch) (n0 : Nat) (G : va_G) (K : KT) (ad : Nat → Nat) (X : va_W) (S : ST) (p1 : Int32) (p2 : Int32) (post : Int32 → Int32 → Prop) (hw : wp_Gu_judgeStretched S p1 p2 post) : Met l y_Gu_judgeStretched (Cond.code y_Gu_judgeStretched prog_3_method_4_code 3 none :: gw) rm_Gu_judgeStretched (va_Pc [.ref (ad 30), .int p1, .int p2] (wb n0 G K (wC K ad S ++ X))) (va_Qv (fun (u : Int32 × Int32) => post u.1 u.2) (fun (u : Int32 × Int32) t => we n0 G (wC K ad (sI (sI S 1924 u.1) 1925 u.2) ++ X) t) (al n0)) 0 0 (al n0) := by
  refine kb_start (own := "LineBreaker$Gauge") (by decide +kernel) rfl ?_
  intro p e s m below meth c C hr hnm w
  have hx := C.1
  have hb := C.2.1
  have hts := C.2.2.2.2.1
  have hl := lv_entry ([.ref (ad 30), .int p1, .int p2]) (n := 3) (Nat.le_of_ble_eq_true rfl)
  rw [lg_entry_eq]
  generalize (lg_sl ([.ref (ad 30), .int p1, .int p2]) ++ List.replicate (3 - (lg_sl ([.ref (ad 30), .int p1, .int p2])).length) Slot.unset).toArray = ls at hl ⊢
  have hl : lv_has ls 3 [(0, .ref (ad 30)), (1, .int p1), (2, .int p2)] := hl
  unfold wp_Gu_judgeStretched at hw
  refine lv_aload_n hx hb d_Gu_judgeStretched_0 rfl (lv_at hl 0 rfl) ?_
  refine lv_iload_n hx hb d_Gu_judgeStretched_1 rfl (lv_at hl 2 rfl) ?_
  refine lv_if_le (tgt := 9) hx hb d_Gu_judgeStretched_2 (by decide) (fun hc => ?_) (fun hc => ?_)
  · have hw := hw.1 hc
    refine lv_aload_n hx hb d_Gu_judgeStretched_9 rfl (lv_at hl 0 rfl) ?_
    refine kg (C1 := R_Gu) (T := F_Gu) (N := 9) (ci := 1) (ref := "LineBreaker$Gauge") (v := .int (S.2.2 1923)) C w 30 3 iw_Gu rfl rfl (by decide) kw_203 rfl rfl d_Gu_judgeStretched_10 ?_
    refine lv_iload_n hx hb d_Gu_judgeStretched_13 rfl (lv_at hl 1 rfl) ?_
    refine kc_i (st := fun (u : Unit) => wC K ad S ++ X) w (kr_S (y := y_Gu_bad) (As := [.int (S.2.2 1923), .int p1]) (n := 2) C w (c_Gu_bad l n0 G K ad X S (S.2.2 1923) p1 _ hw) (gw_S kw_765 kw_766 kw_7 kw_767) (by decide +kernel) rfl rfl ⟨Nat.le_of_ble_eq_true rfl, Nat.le_of_ble_eq_true rfl⟩ rfl hl.1 rfl (Nat.le_of_ble_eq_true rfl) d_Gu_judgeStretched_14 ⟨Nat.le_of_ble_eq_true rfl, Nat.le_of_ble_eq_true rfl⟩) (fun r1 u H locs hw w => ?_)
    exact w_Gu_judgeStretched_17 C hr  r1 hw _ _ _ (wn_eq w rfl) (lv_sub hl [0] rfl)
  · have hw := hw.2 hc
    refine lv_iconst (v := 0) hx hb d_Gu_judgeStretched_5 (by decide) ?_
    refine lv_goto (tgt := 17) hx hb d_Gu_judgeStretched_6 (by decide) ?_
    exact w_Gu_judgeStretched_17 C hr  0 hw _ _ _ (wn_eq w rfl) (lv_sub hl [0] rfl)
set_option maxHeartbeats 4000000 in
set_option maxRecDepth 100000 in
theorem c_Gu_judgeShrunk (l : Launch) (n0 : Nat) (G : va_G) (K : KT) (ad : Nat → Nat) (X : va_W) (S : ST) (p1 : Int32) (post : Int32 → Int32 → Prop) (hw : wp_Gu_judgeShrunk S p1 post) : Met l y_Gu_judgeShrunk (Cond.code y_Gu_judgeShrunk prog_3_method_5_code 3 none :: gw) rm_Gu_judgeShrunk (va_Pc [.ref (ad 30), .int p1] (wb n0 G K (wC K ad S ++ X))) (va_Qv (fun (u : Int32 × Int32) => post u.1 u.2) (fun (u : Int32 × Int32) t => we n0 G (wC K ad (sI (sI S 1924 u.1) 1925 u.2) ++ X) t) (al n0)) 0 0 (al n0) := by
  refine kb_start (own := "LineBreaker$Gauge") (by decide +kernel) rfl ?_
  intro p e s m below meth c C hr hnm w
  have hx := C.1
  have hb := C.2.1
  have hts := C.2.2.2.2.1
  have hl := lv_entry ([.ref (ad 30), .int p1]) (n := 3) (Nat.le_of_ble_eq_true rfl)
  rw [lg_entry_eq]
  generalize (lg_sl ([.ref (ad 30), .int p1]) ++ List.replicate (3 - (lg_sl ([.ref (ad 30), .int p1])).length) Slot.unset).toArray = ls at hl ⊢
  have hl : lv_has ls 3 [(0, .ref (ad 30)), (1, .int p1)] := hl
  unfold wp_Gu_judgeShrunk at hw
  refine lv_aload_n hx hb d_Gu_judgeShrunk_0 rfl (lv_at hl 0 rfl) ?_
  refine kg (C1 := R_Gu) (T := F_Gu) (N := 9) (ci := 1) (ref := "LineBreaker$Gauge") (v := .int (S.2.2 1923)) C w 30 3 iw_Gu rfl rfl (by decide) kw_203 rfl rfl d_Gu_judgeShrunk_1 ?_
  refine lv_ineg hx hb d_Gu_judgeShrunk_4 ?_
  refine lv_topi (fun v1 ev1 => ?_)
  have hw := hw v1 ev1
  refine lv_istore_n (lv' := [(2, .int v1), (0, .ref (ad 30)), (1, .int p1)]) hx hb d_Gu_judgeShrunk_5 rfl hl (by decide) rfl (fun ls hl => ?_)
  refine lv_iload_n hx hb d_Gu_judgeShrunk_6 rfl (lv_at hl 2 rfl) ?_
  refine lv_iload_n hx hb d_Gu_judgeShrunk_7 rfl (lv_at hl 0 rfl) ?_
  refine lv_icmp_ge (tgt := 24) hx hb d_Gu_judgeShrunk_8 (by decide) (fun hc => ?_) (fun hc => ?_)
  · have hw := hw.1 hc
    refine lv_aload_n hx hb d_Gu_judgeShrunk_24 rfl (lv_at hl 1 rfl) ?_
    refine lv_iload_n hx hb d_Gu_judgeShrunk_25 rfl (lv_at hl 0 rfl) ?_
    refine lv_iload_n hx hb d_Gu_judgeShrunk_26 rfl (lv_at hl 2 rfl) ?_
    refine kc_i (st := fun (u : Unit) => wC K ad S ++ X) w (kr_S (y := y_Gu_bad) (As := [.int v1, .int p1]) (n := 2) C w (c_Gu_bad l n0 G K ad X S v1 p1 _ hw) (gw_S kw_765 kw_766 kw_7 kw_767) (by decide +kernel) rfl rfl ⟨Nat.le_of_ble_eq_true rfl, Nat.le_of_ble_eq_true rfl⟩ rfl hl.1 rfl (Nat.le_of_ble_eq_true rfl) d_Gu_judgeShrunk_27 ⟨Nat.le_of_ble_eq_true rfl, Nat.le_of_ble_eq_true rfl⟩) (fun r2 u H locs hw w => ?_)
    refine kp (C1 := R_Gu) (T := F_Gu) (N := 9) (ci := 1) (ty0 := t_Gu) (ref := "LineBreaker$Gauge") (w2 := wC K ad (sI S 1924 r2) ++ X) C w 30 4 iw_Gu tk_Gu n_Gu rfl rfl (by decide) kw_206 rfl rfl rfl rfl (Nat.le_of_ble_eq_true rfl) rfl d_Gu_judgeShrunk_30 (fun H locs w => ?_)
    refine lv_aload_n hx hb d_Gu_judgeShrunk_33 rfl (lv_at hl 1 rfl) ?_
    refine lv_aload_n hx hb d_Gu_judgeShrunk_34 rfl (lv_at hl 1 rfl) ?_
    refine kg (C1 := R_Gu) (T := F_Gu) (N := 9) (ci := 1) (ref := "LineBreaker$Gauge") (v := .int r2) C w 30 4 iw_Gu rfl rfl (by decide) kw_206 rfl rfl d_Gu_judgeShrunk_35 ?_
    refine lv_bipush (v := 12) hx hb d_Gu_judgeShrunk_38 (by decide) ?_
    refine lv_icmp_le (tgt := 47) hx hb d_Gu_judgeShrunk_40 (by decide) (fun hc => ?_) (fun hc => ?_)
    · have hw := hw.1 hc
      refine lv_iconst (v := 2) hx hb d_Gu_judgeShrunk_47 (by decide) ?_
      refine kp (C1 := R_Gu) (T := F_Gu) (N := 9) (ci := 1) (ty0 := t_Gu) (ref := "LineBreaker$Gauge") (w2 := wC K ad (sI (sI S 1924 r2) 1925 2) ++ X) C w 30 5 iw_Gu tk_Gu n_Gu rfl rfl (by decide) kw_208 rfl rfl rfl rfl (Nat.le_of_ble_eq_true rfl) rfl d_Gu_judgeShrunk_48 (fun H locs w => ?_)
      exact ke_v (post := (fun (u : Int32 × Int32) => post u.1 u.2)) (st := (fun (u : Int32 × Int32) => wC K ad (sI (sI S 1924 u.1) 1925 u.2) ++ X)) (u := (r2, 2)) C hr d_Gu_judgeShrunk_51 (wn_eq w rfl) hw
    · have hw := hw.2 hc
      refine lv_iconst (v := 3) hx hb d_Gu_judgeShrunk_43 (by decide) ?_
      refine lv_goto (tgt := 48) hx hb d_Gu_judgeShrunk_44 (by decide) ?_
      refine kp (C1 := R_Gu) (T := F_Gu) (N := 9) (ci := 1) (ty0 := t_Gu) (ref := "LineBreaker$Gauge") (w2 := wC K ad (sI (sI S 1924 r2) 1925 3) ++ X) C w 30 5 iw_Gu tk_Gu n_Gu rfl rfl (by decide) kw_208 rfl rfl rfl rfl (Nat.le_of_ble_eq_true rfl) rfl d_Gu_judgeShrunk_48 (fun H locs w => ?_)
      exact ke_v (post := (fun (u : Int32 × Int32) => post u.1 u.2)) (st := (fun (u : Int32 × Int32) => wC K ad (sI (sI S 1924 u.1) 1925 u.2) ++ X)) (u := (r2, 3)) C hr d_Gu_judgeShrunk_51 (wn_eq w rfl) hw
  · have hw := hw.2 hc
    refine lv_aload_n hx hb d_Gu_judgeShrunk_11 rfl (lv_at hl 1 rfl) ?_
    refine lv_sipush (v := 10001) hx hb d_Gu_judgeShrunk_12 (by decide) ?_
    refine kp (C1 := R_Gu) (T := F_Gu) (N := 9) (ci := 1) (ty0 := t_Gu) (ref := "LineBreaker$Gauge") (w2 := wC K ad (sI S 1924 10001) ++ X) C w 30 4 iw_Gu tk_Gu n_Gu rfl rfl (by decide) kw_206 rfl rfl rfl rfl (Nat.le_of_ble_eq_true rfl) rfl d_Gu_judgeShrunk_15 (fun H locs w => ?_)
    refine lv_aload_n hx hb d_Gu_judgeShrunk_18 rfl (lv_at hl 1 rfl) ?_
    refine lv_iconst (v := 3) hx hb d_Gu_judgeShrunk_19 (by decide) ?_
    refine kp (C1 := R_Gu) (T := F_Gu) (N := 9) (ci := 1) (ty0 := t_Gu) (ref := "LineBreaker$Gauge") (w2 := wC K ad (sI (sI S 1924 10001) 1925 3) ++ X) C w 30 5 iw_Gu tk_Gu n_Gu rfl rfl (by decide) kw_208 rfl rfl rfl rfl (Nat.le_of_ble_eq_true rfl) rfl d_Gu_judgeShrunk_20 (fun H locs w => ?_)
    exact ke_v (post := (fun (u : Int32 × Int32) => post u.1 u.2)) (st := (fun (u : Int32 × Int32) => wC K ad (sI (sI S 1924 u.1) 1925 u.2) ++ X)) (u := (10001, 3)) C hr d_Gu_judgeShrunk_23 (wn_eq w rfl) hw
set_option maxHeartbeats 4000000 in
set_option maxRecDepth 100000 in
theorem w_Gu_measure_262 {S : ST} {post : Int32 → Int32 → Int32 → Int32 → Int32 → Int32 → Prop} (C : cx p s m args meth c prog_3_method_3_code 12 "LineBreaker$Gauge" n0 G K) (hr : meth.sig.returnType = none) : ∀ (i1926 : Int32) (i1927 : Int32) (i1928 : Int32) (x4 : Int32) (x7 : Int32) (x8 : Int32) (x9 : Int32) (x10 : Int32), wl_Gu_measure_262 S post i1926 i1927 i1928 x4 x7 x8 x9 x10 → ∀ (H : Heap) (locs : List Loc) (ls : Array Slot), wn n0 G (wC K ad (sI (sI (sI S 1926 i1926) 1927 i1927) 1928 i1928) ++ X) s H locs → lv_has ls 12 [(0, .ref (ad 30)), (4, .int x4), (7, .int x7), (8, .int x8), (9, .int x9), (10, .int x10)] → W p l e rm_Gu_measure s m args below meth c H locs 0 0 (MQ below (va_Qv (fun (u : Int32 × Int32 × Int32 × Int32 × Int32 × Int32) => post u.1 u.2.1 u.2.2.1 u.2.2.2.1 u.2.2.2.2.1 u.2.2.2.2.2) (fun (u : Int32 × Int32 × Int32 × Int32 × Int32 × Int32) t => we n0 G (wC K ad (sI (sI (sI (sI (sI (sI S 1923 u.1) 1924 u.2.1) 1925 u.2.2.1) 1926 u.2.2.2.1) 1927 u.2.2.2.2.1) 1928 u.2.2.2.2.2) ++ X) t) (al n0)) args s 0 0 (al n0)) (F0 m 262 ls []) := by
  have hx := C.1
  have hb := C.2.1
  have hts := C.2.2.2.2.1
  intro i1926 i1927 i1928 x4 x7 x8 x9 x10 hw H locs ls w hl
  unfold wl_Gu_measure_262 at hw
  refine lv_aload_n hx hb d_Gu_measure_262 rfl (lv_at hl 0 rfl) ?_
  refine lv_iload hx hb d_Gu_measure_263 (lv_at hl 1 rfl) ?_
  refine lv_iload hx hb d_Gu_measure_265 (lv_at hl 2 rfl) ?_
  refine lv_isub hx hb d_Gu_measure_267 ?_
  refine lv_topi (fun v1 ev1 => ?_)
  have hw := hw v1 ev1
  refine kp (C1 := R_Gu) (T := F_Gu) (N := 9) (ci := 1) (ty0 := t_Gu) (ref := "LineBreaker$Gauge") (w2 := wC K ad (sI (sI (sI (sI S 1923 v1) 1926 i1926) 1927 i1927) 1928 i1928) ++ X) C w 30 3 iw_Gu tk_Gu n_Gu rfl rfl (by decide) kw_203 rfl rfl rfl rfl (Nat.le_of_ble_eq_true rfl) rfl d_Gu_measure_268 (fun H locs w => ?_)
  refine lv_aload_n hx hb d_Gu_measure_271 rfl (lv_at hl 0 rfl) ?_
  refine kg (C1 := R_Gu) (T := F_Gu) (N := 9) (ci := 1) (ref := "LineBreaker$Gauge") (v := .int v1) C w 30 3 iw_Gu rfl rfl (by decide) kw_203 rfl rfl d_Gu_measure_272 ?_
  refine lv_if_le (tgt := 289) hx hb d_Gu_measure_275 (by decide) (fun hc => ?_) (fun hc => ?_)
  · have hw := hw.1 hc
    refine lv_aload_n hx hb d_Gu_measure_289 rfl (lv_at hl 0 rfl) ?_
    refine lv_iload hx hb d_Gu_measure_290 (lv_at hl 5 rfl) ?_
    refine kc_v (st := fun (u : Int32 × Int32) => wC K ad (sI (sI (sI (sI (sI (sI S 1923 v1) 1926 i1926) 1927 i1927) 1928 i1928) 1924 u.1) 1925 u.2) ++ X) w (kr_V (y := y_Gu_judgeShrunk) (C1 := R_Gu) (T := F_Gu) (N := 9) (ci := 1) (q0 := 30) (As := [.int x10]) (n := 1) C w (c_Gu_judgeShrunk l n0 G K ad X (sI (sI (sI (sI S 1923 v1) 1926 i1926) 1927 i1927) 1928 i1928) x10 _ hw) (gw_V kw_772 kw_774 kp_12 kw_7 kw_775) (by decide +kernel) rfl rfl ⟨Nat.le_of_ble_eq_true rfl, Nat.le_of_ble_eq_true rfl⟩ rfl rfl rfl hl.1 rfl (Nat.le_of_ble_eq_true rfl) d_Gu_measure_292 ⟨Nat.le_of_ble_eq_true rfl, Nat.le_of_ble_eq_true rfl⟩) (fun u H locs hw w => ?_)
    obtain ⟨v2, v3⟩ := u
    dsimp only at hw
    have w : wn n0 G (wC K ad (sI (sI (sI (sI (sI (sI S 1923 v1) 1924 v2) 1925 v3) 1926 i1926) 1927 i1927) 1928 i1928) ++ X) s H locs := w
    exact ke_v (post := (fun (u : Int32 × Int32 × Int32 × Int32 × Int32 × Int32) => post u.1 u.2.1 u.2.2.1 u.2.2.2.1 u.2.2.2.2.1 u.2.2.2.2.2)) (st := (fun (u : Int32 × Int32 × Int32 × Int32 × Int32 × Int32) => wC K ad (sI (sI (sI (sI (sI (sI S 1923 u.1) 1924 u.2.1) 1925 u.2.2.1) 1926 u.2.2.2.1) 1927 u.2.2.2.2.1) 1928 u.2.2.2.2.2) ++ X)) (u := (v1, v2, v3, i1926, i1927, i1928)) C hr d_Gu_measure_295 (wn_eq w rfl) hw
  · have hw := hw.2 hc
    refine lv_aload_n hx hb d_Gu_measure_278 rfl (lv_at hl 0 rfl) ?_
    refine lv_iload hx hb d_Gu_measure_279 (lv_at hl 3 rfl) ?_
    refine lv_iload hx hb d_Gu_measure_281 (lv_at hl 4 rfl) ?_
    refine kc_v (st := fun (u : Int32 × Int32) => wC K ad (sI (sI (sI (sI (sI (sI S 1923 v1) 1926 i1926) 1927 i1927) 1928 i1928) 1924 u.1) 1925 u.2) ++ X) w (kr_V (y := y_Gu_judgeStretched) (C1 := R_Gu) (T := F_Gu) (N := 9) (ci := 1) (q0 := 30) (As := [.int x8, .int x9]) (n := 2) C w (c_Gu_judgeStretched l n0 G K ad X (sI (sI (sI (sI S 1923 v1) 1926 i1926) 1927 i1927) 1928 i1928) x8 x9 _ hw) (gw_V kw_761 kw_763 kp_11 kw_7 kw_764) (by decide +kernel) rfl rfl ⟨Nat.le_of_ble_eq_true rfl, Nat.le_of_ble_eq_true rfl⟩ rfl rfl rfl hl.1 rfl (Nat.le_of_ble_eq_true rfl) d_Gu_measure_283 ⟨Nat.le_of_ble_eq_true rfl, Nat.le_of_ble_eq_true rfl⟩) (fun u H locs hw w => ?_)
    obtain ⟨v4, v5⟩ := u
    dsimp only at hw
    have w : wn n0 G (wC K ad (sI (sI (sI (sI (sI (sI S 1923 v1) 1924 v4) 1925 v5) 1926 i1926) 1927 i1927) 1928 i1928) ++ X) s H locs := w
    refine lv_goto (tgt := 295) hx hb d_Gu_measure_286 (by decide) ?_
    exact ke_v (post := (fun (u : Int32 × Int32 × Int32 × Int32 × Int32 × Int32) => post u.1 u.2.1 u.2.2.1 u.2.2.2.1 u.2.2.2.2.1 u.2.2.2.2.2)) (st := (fun (u : Int32 × Int32 × Int32 × Int32 × Int32 × Int32) => wC K ad (sI (sI (sI (sI (sI (sI S 1923 u.1) 1924 u.2.1) 1925 u.2.2.1) 1926 u.2.2.2.1) 1927 u.2.2.2.2.1) 1928 u.2.2.2.2.2) ++ X)) (u := (v1, v4, v5, i1926, i1927, i1928)) C hr d_Gu_measure_295 (wn_eq w rfl) hw
set_option maxHeartbeats 4000000 in
set_option maxRecDepth 100000 in
theorem w_Gu_measure_36 {S : ST} {post : Int32 → Int32 → Int32 → Int32 → Int32 → Int32 → Prop} (C : cx p s m args meth c prog_3_method_3_code 12 "LineBreaker$Gauge" n0 G K) (hr : meth.sig.returnType = none) : ∀ (x1 : Int32) (x2 : Int32) (x4 : Int32), wl_Gu_measure_36 S post x1 x2 x4 → ∀ (H : Heap) (locs : List Loc) (ls : Array Slot), wn n0 G (wC K ad S ++ X) s H locs → lv_has ls 12 [(0, .ref (ad 30)), (1, .int x1), (2, .int x2), (4, .int x4)] → W p l e rm_Gu_measure s m args below meth c H locs 0 0 (MQ below (va_Qv (fun (u : Int32 × Int32 × Int32 × Int32 × Int32 × Int32) => post u.1 u.2.1 u.2.2.1 u.2.2.2.1 u.2.2.2.2.1 u.2.2.2.2.2) (fun (u : Int32 × Int32 × Int32 × Int32 × Int32 × Int32) t => we n0 G (wC K ad (sI (sI (sI (sI (sI (sI S 1923 u.1) 1924 u.2.1) 1925 u.2.2.1) 1926 u.2.2.2.1) 1927 u.2.2.2.2.1) 1928 u.2.2.2.2.2) ++ X) t) (al n0)) args s 0 0 (al n0)) (F0 m 36 ls []) := by
  have hx := C.1
  have hb := C.2.1
  have hts := C.2.2.2.2.1
  intro x1 x2 x4 hw H locs ls w hl
  unfold wl_Gu_measure_36 at hw
  refine lv_aload_n hx hb d_Gu_measure_36 rfl (lv_at hl 0 rfl) ?_
  refine lv_iload_n hx hb d_Gu_measure_37 rfl (lv_at hl 2 rfl) ?_
  refine kp (C1 := R_Gu) (T := F_Gu) (N := 9) (ci := 1) (ty0 := t_Gu) (ref := "LineBreaker$Gauge") (w2 := wC K ad (sI S 1927 x2) ++ X) C w 30 7 iw_Gu tk_Gu n_Gu rfl rfl (by decide) kw_211 rfl rfl rfl rfl (Nat.le_of_ble_eq_true rfl) rfl d_Gu_measure_38 (fun H locs w => ?_)
  refine lv_aload_n hx hb d_Gu_measure_41 rfl (lv_at hl 0 rfl) ?_
  refine lv_iload_n hx hb d_Gu_measure_42 rfl (lv_at hl 1 rfl) ?_
  refine kp (C1 := R_Gu) (T := F_Gu) (N := 9) (ci := 1) (ty0 := t_Gu) (ref := "LineBreaker$Gauge") (w2 := wC K ad (sI (sI S 1926 x1) 1927 x2) ++ X) C w 30 6 iw_Gu tk_Gu n_Gu rfl rfl (by decide) kw_210 rfl rfl rfl rfl (Nat.le_of_ble_eq_true rfl) rfl d_Gu_measure_43 (fun H locs w => ?_)
  refine lv_aload_n hx hb d_Gu_measure_46 rfl (lv_at hl 0 rfl) ?_
  refine lv_iload hx hb d_Gu_measure_47 (lv_at hl 3 rfl) ?_
  refine kp (C1 := R_Gu) (T := F_Gu) (N := 9) (ci := 1) (ty0 := t_Gu) (ref := "LineBreaker$Gauge") (w2 := wC K ad (sI (sI (sI S 1926 x1) 1927 x2) 1928 x4) ++ X) C w 30 8 iw_Gu tk_Gu n_Gu rfl rfl (by decide) kw_212 rfl rfl rfl rfl (Nat.le_of_ble_eq_true rfl) rfl d_Gu_measure_49 (fun H locs w => ?_)
  refine lv_aload_n hx hb d_Gu_measure_52 rfl (lv_at hl 0 rfl) ?_
  refine kg (C1 := R_Gu) (T := F_Gu) (N := 9) (ci := 1) (ref := "LineBreaker$Gauge") (v := .ref (ad 11)) C w 30 1 iw_Gu rfl rfl (by decide) kw_200 rfl rfl d_Gu_measure_53 ?_
  refine kg (C1 := R_St) (T := F_St) (N := 5) (ci := 8) (ref := "LineBreaker$Settings") (v := .ref (ad 14)) C w 11 2 iw_St rfl rfl (by decide) kw_117 rfl rfl d_Gu_measure_56 ?_
  refine lv_astore (lv' := [(5, .ref (ad 14)), (0, .ref (ad 30)), (1, .int x1), (2, .int x2), (4, .int x4)]) hx hb d_Gu_measure_59 hl (by decide) rfl (fun ls hl => ?_)
  refine lv_aload_n hx hb d_Gu_measure_61 rfl (lv_at hl 1 rfl) ?_
  refine kg (C1 := R_Gu) (T := F_Gu) (N := 9) (ci := 1) (ref := "LineBreaker$Gauge") (v := .ref (ad 11)) C w 30 1 iw_Gu rfl rfl (by decide) kw_200 rfl rfl d_Gu_measure_62 ?_
  refine kg (C1 := R_St) (T := F_St) (N := 5) (ci := 8) (ref := "LineBreaker$Settings") (v := .ref (ad 15)) C w 11 3 iw_St rfl rfl (by decide) kw_120 rfl rfl d_Gu_measure_65 ?_
  refine lv_astore (lv' := [(6, .ref (ad 15)), (5, .ref (ad 14)), (0, .ref (ad 30)), (1, .int x1), (2, .int x2), (4, .int x4)]) hx hb d_Gu_measure_68 hl (by decide) rfl (fun ls hl => ?_)
  refine lv_aload hx hb d_Gu_measure_70 (lv_at hl 1 rfl) ?_
  refine kg (C1 := R_Gl) (T := F_Gl) (N := 4) (ci := 2) (ref := "LineBreaker$Glue") (v := .int (S.2.2 896)) C w 14 0 iw_Gl rfl rfl (by decide) kw_91 rfl rfl d_Gu_measure_72 ?_
  refine lv_aload hx hb d_Gu_measure_75 (lv_at hl 0 rfl) ?_
  refine kg (C1 := R_Gl) (T := F_Gl) (N := 4) (ci := 2) (ref := "LineBreaker$Glue") (v := .int (S.2.2 960)) C w 15 0 iw_Gl rfl rfl (by decide) kw_91 rfl rfl d_Gu_measure_77 ?_
  refine lv_iadd hx hb d_Gu_measure_80 ?_
  refine lv_aload_n hx hb d_Gu_measure_81 rfl (lv_at hl 2 rfl) ?_
  refine kg (C1 := R_Gu) (T := F_Gu) (N := 9) (ci := 1) (ref := "LineBreaker$Gauge") (v := .ref (ad 17)) C w 30 0 iw_Gu rfl rfl (by decide) kw_199 rfl rfl d_Gu_measure_82 ?_
  refine lv_iload_n hx hb d_Gu_measure_85 rfl (lv_at hl 3 rfl) ?_
  refine kc_i (st := fun (u : Unit) => wC K ad (sI (sI (sI S 1926 x1) 1927 x2) 1928 x4) ++ X) w (kr_V (y := y_Ga_widthBehind) (C1 := R_Ga) (T := F_Ga) (N := 12) (ci := 0) (q0 := 17) (As := [.int x1]) (n := 1) C w (c_Ga_widthBehind l n0 G K ad X (sI (sI (sI S 1926 x1) 1927 x2) 1928 x4) x1 _ hw) (gw_V kw_751 kw_752 kw_753 kw_5 kw_754) (by decide +kernel) rfl rfl ⟨Nat.le_of_ble_eq_true rfl, Nat.le_of_ble_eq_true rfl⟩ rfl rfl rfl hl.1 rfl (Nat.le_of_ble_eq_true rfl) d_Gu_measure_86 ⟨Nat.le_of_ble_eq_true rfl, Nat.le_of_ble_eq_true rfl⟩) (fun r1 u H locs hw w => ?_)
  refine lv_iadd hx hb d_Gu_measure_89 ?_
  refine lv_aload_n hx hb d_Gu_measure_90 rfl (lv_at hl 2 rfl) ?_
  refine kg (C1 := R_Gu) (T := F_Gu) (N := 9) (ci := 1) (ref := "LineBreaker$Gauge") (v := .ref (ad 17)) C w 30 0 iw_Gu rfl rfl (by decide) kw_199 rfl rfl d_Gu_measure_91 ?_
  refine kg (C1 := R_Ga) (T := F_Ga) (N := 12) (ci := 0) (ref := "LineBreaker$Galley") (v := .ref (ad 22)) C w 17 4 iw_Ga rfl rfl (by decide) kw_148 rfl rfl d_Gu_measure_94 ?_
  refine lv_iload_n hx hb d_Gu_measure_97 rfl (lv_at hl 4 rfl) ?_
  refine ka_i (f := (S.1 22)) C w 22 rfl hw.1 d_Gu_measure_98 ?_
  have hw := hw.2
  refine lv_iadd hx hb d_Gu_measure_99 ?_
  refine lv_topi (fun v2 ev2 => ?_)
  have hw := hw v2 ev2
  refine lv_istore (lv' := [(7, .int v2), (6, .ref (ad 15)), (5, .ref (ad 14)), (0, .ref (ad 30)), (1, .int x1), (2, .int x2), (4, .int x4)]) hx hb d_Gu_measure_100 hl (by decide) rfl (fun ls hl => ?_)
  refine lv_aload hx hb d_Gu_measure_102 (lv_at hl 2 rfl) ?_
  refine kc_i (st := fun (u : Unit) => wC K ad (sI (sI (sI S 1926 x1) 1927 x2) 1928 x4) ++ X) w (kr_V (y := y_Gl_finiteStretch) (C1 := R_Gl) (T := F_Gl) (N := 4) (ci := 2) (q0 := 14) (As := []) (n := 0) C w (c_Gl_finiteStretch l n0 G K ad X (sI (sI (sI S 1926 x1) 1927 x2) 1928 x4)  _ hw) (gw_V kw_755 kw_688 kw_689 kw_4 kw_690) (by decide +kernel) rfl rfl ⟨Nat.le_of_ble_eq_true rfl, Nat.le_of_ble_eq_true rfl⟩ rfl rfl rfl hl.1 rfl (Nat.le_of_ble_eq_true rfl) d_Gu_measure_104 ⟨Nat.le_of_ble_eq_true rfl, Nat.le_of_ble_eq_true rfl⟩) (fun r3 u H locs hw w => ?_)
  refine lv_aload hx hb d_Gu_measure_107 (lv_at hl 1 rfl) ?_
  refine kc_i (st := fun (u : Unit) => wC K ad (sI (sI (sI S 1926 x1) 1927 x2) 1928 x4) ++ X) w (kr_V (y := y_Gl_finiteStretch) (C1 := R_Gl) (T := F_Gl) (N := 4) (ci := 2) (q0 := 15) (As := []) (n := 0) C w (c_Gl_finiteStretch_15 l n0 G K ad X (sI (sI (sI S 1926 x1) 1927 x2) 1928 x4)  _ hw) (gw_V kw_755 kw_688 kw_689 kw_4 kw_690) (by decide +kernel) rfl rfl ⟨Nat.le_of_ble_eq_true rfl, Nat.le_of_ble_eq_true rfl⟩ rfl rfl rfl hl.1 rfl (Nat.le_of_ble_eq_true rfl) d_Gu_measure_109 ⟨Nat.le_of_ble_eq_true rfl, Nat.le_of_ble_eq_true rfl⟩) (fun r4 u H locs hw w => ?_)
  refine lv_iadd hx hb d_Gu_measure_112 ?_
  refine lv_aload_n hx hb d_Gu_measure_113 rfl (lv_at hl 3 rfl) ?_
  refine kg (C1 := R_Gu) (T := F_Gu) (N := 9) (ci := 1) (ref := "LineBreaker$Gauge") (v := .int (S.2.2 1922)) C w 30 2 iw_Gu rfl rfl (by decide) kw_201 rfl rfl d_Gu_measure_114 ?_
  refine lv_iadd hx hb d_Gu_measure_117 ?_
  refine lv_topi (fun v5 ev5 => ?_)
  have hw := hw v5 ev5
  refine lv_istore (lv' := [(8, .int v5), (7, .int v2), (6, .ref (ad 15)), (5, .ref (ad 14)), (0, .ref (ad 30)), (1, .int x1), (2, .int x2), (4, .int x4)]) hx hb d_Gu_measure_118 hl (by decide) rfl (fun ls hl => ?_)
  refine lv_aload hx hb d_Gu_measure_120 (lv_at hl 3 rfl) ?_
  refine kc_i (st := fun (u : Unit) => wC K ad (sI (sI (sI S 1926 x1) 1927 x2) 1928 x4) ++ X) w (kr_V (y := y_Gl_endlessStretch) (C1 := R_Gl) (T := F_Gl) (N := 4) (ci := 2) (q0 := 14) (As := []) (n := 0) C w (c_Gl_endlessStretch l n0 G K ad X (sI (sI (sI S 1926 x1) 1927 x2) 1928 x4)  _ hw) (gw_V kw_756 kw_692 kw_693 kw_4 kw_694) (by decide +kernel) rfl rfl ⟨Nat.le_of_ble_eq_true rfl, Nat.le_of_ble_eq_true rfl⟩ rfl rfl rfl hl.1 rfl (Nat.le_of_ble_eq_true rfl) d_Gu_measure_122 ⟨Nat.le_of_ble_eq_true rfl, Nat.le_of_ble_eq_true rfl⟩) (fun r6 u H locs hw w => ?_)
  refine lv_aload hx hb d_Gu_measure_125 (lv_at hl 2 rfl) ?_
  refine kc_i (st := fun (u : Unit) => wC K ad (sI (sI (sI S 1926 x1) 1927 x2) 1928 x4) ++ X) w (kr_V (y := y_Gl_endlessStretch) (C1 := R_Gl) (T := F_Gl) (N := 4) (ci := 2) (q0 := 15) (As := []) (n := 0) C w (c_Gl_endlessStretch_15 l n0 G K ad X (sI (sI (sI S 1926 x1) 1927 x2) 1928 x4)  _ hw) (gw_V kw_756 kw_692 kw_693 kw_4 kw_694) (by decide +kernel) rfl rfl ⟨Nat.le_of_ble_eq_true rfl, Nat.le_of_ble_eq_true rfl⟩ rfl rfl rfl hl.1 rfl (Nat.le_of_ble_eq_true rfl) d_Gu_measure_127 ⟨Nat.le_of_ble_eq_true rfl, Nat.le_of_ble_eq_true rfl⟩) (fun r7 u H locs hw w => ?_)
  refine lv_iadd hx hb d_Gu_measure_130 ?_
  refine lv_topi (fun v8 ev8 => ?_)
  have hw := hw v8 ev8
  refine lv_istore (lv' := [(9, .int v8), (8, .int v5), (7, .int v2), (6, .ref (ad 15)), (5, .ref (ad 14)), (0, .ref (ad 30)), (1, .int x1), (2, .int x2), (4, .int x4)]) hx hb d_Gu_measure_131 hl (by decide) rfl (fun ls hl => ?_)
  refine lv_aload hx hb d_Gu_measure_133 (lv_at hl 4 rfl) ?_
  refine kg (C1 := R_Gl) (T := F_Gl) (N := 4) (ci := 2) (ref := "LineBreaker$Glue") (v := .int (S.2.2 899)) C w 14 3 iw_Gl rfl rfl (by decide) kw_97 rfl rfl d_Gu_measure_135 ?_
  refine lv_aload hx hb d_Gu_measure_138 (lv_at hl 3 rfl) ?_
  refine kg (C1 := R_Gl) (T := F_Gl) (N := 4) (ci := 2) (ref := "LineBreaker$Glue") (v := .int (S.2.2 963)) C w 15 3 iw_Gl rfl rfl (by decide) kw_97 rfl rfl d_Gu_measure_140 ?_
  refine lv_iadd hx hb d_Gu_measure_143 ?_
  refine lv_topi (fun v9 ev9 => ?_)
  have hw := hw v9 ev9
  refine lv_istore (lv' := [(10, .int v9), (9, .int v8), (8, .int v5), (7, .int v2), (6, .ref (ad 15)), (5, .ref (ad 14)), (0, .ref (ad 30)), (1, .int x1), (2, .int x2), (4, .int x4)]) hx hb d_Gu_measure_144 hl (by decide) rfl (fun ls hl => ?_)
  refine lv_aload_n hx hb d_Gu_measure_146 rfl (lv_at hl 6 rfl) ?_
  refine kg (C1 := R_Gu) (T := F_Gu) (N := 9) (ci := 1) (ref := "LineBreaker$Gauge") (v := .ref (ad 17)) C w 30 0 iw_Gu rfl rfl (by decide) kw_199 rfl rfl d_Gu_measure_147 ?_
  refine lv_iload_n hx hb d_Gu_measure_150 rfl (lv_at hl 7 rfl) ?_
  refine kc_i (st := fun (u : Unit) => wC K ad (sI (sI (sI S 1926 x1) 1927 x2) 1928 x4) ++ X) w (kr_V (y := y_Ga_firstOneFrom) (C1 := R_Ga) (T := F_Ga) (N := 12) (ci := 0) (q0 := 17) (As := [.int x1]) (n := 1) C w (c_Ga_firstOneFrom l n0 G K ad X (sI (sI (sI S 1926 x1) 1927 x2) 1928 x4) x1 _ hw) (gw_V kw_757 kw_758 kw_759 kw_5 kw_760) (by decide +kernel) rfl rfl ⟨Nat.le_of_ble_eq_true rfl, Nat.le_of_ble_eq_true rfl⟩ rfl rfl rfl hl.1 rfl (Nat.le_of_ble_eq_true rfl) d_Gu_measure_151 ⟨Nat.le_of_ble_eq_true rfl, Nat.le_of_ble_eq_true rfl⟩) (fun r10 u H locs hw w => ?_)
  refine lv_istore (lv' := [(11, .int r10), (10, .int v9), (9, .int v8), (8, .int v5), (7, .int v2), (6, .ref (ad 15)), (5, .ref (ad 14)), (0, .ref (ad 30)), (1, .int x1), (2, .int x2), (4, .int x4)]) hx hb d_Gu_measure_154 hl (by decide) rfl (fun ls hl => ?_)
  refine lv_iload hx hb d_Gu_measure_156 (lv_at hl 0 rfl) ?_
  refine lv_iload_n hx hb d_Gu_measure_158 rfl (lv_at hl 9 rfl) ?_
  refine lv_icmp_ge (tgt := 262) hx hb d_Gu_measure_159 (by decide) (fun hc => ?_) (fun hc => ?_)
  · have hw := hw.1 hc
    exact w_Gu_measure_262 C hr  x1 x2 x4 x4 v2 v5 v8 v9 hw _ _ _ (wn_eq w rfl) (lv_sub hl [7, 10, 4, 3, 2, 1] rfl)
  · have hw := hw.2 hc
    refine lv_iload hx hb d_Gu_measure_162 (lv_at hl 4 rfl) ?_
    refine lv_aload_n hx hb d_Gu_measure_164 rfl (lv_at hl 7 rfl) ?_
    refine kg (C1 := R_Gu) (T := F_Gu) (N := 9) (ci := 1) (ref := "LineBreaker$Gauge") (v := .ref (ad 17)) C w 30 0 iw_Gu rfl rfl (by decide) kw_199 rfl rfl d_Gu_measure_165 ?_
    refine kg (C1 := R_Ga) (T := F_Ga) (N := 12) (ci := 0) (ref := "LineBreaker$Galley") (v := .ref (ad 24)) C w 17 6 iw_Ga rfl rfl (by decide) kw_151 rfl rfl d_Gu_measure_168 ?_
    refine lv_iload_n hx hb d_Gu_measure_171 rfl (lv_at hl 9 rfl) ?_
    refine ka_i (f := (S.1 24)) C w 24 rfl hw.1 d_Gu_measure_172 ?_
    have hw := hw.2
    refine lv_aload_n hx hb d_Gu_measure_173 rfl (lv_at hl 7 rfl) ?_
    refine kg (C1 := R_Gu) (T := F_Gu) (N := 9) (ci := 1) (ref := "LineBreaker$Gauge") (v := .ref (ad 17)) C w 30 0 iw_Gu rfl rfl (by decide) kw_199 rfl rfl d_Gu_measure_174 ?_
    refine kg (C1 := R_Ga) (T := F_Ga) (N := 12) (ci := 0) (ref := "LineBreaker$Galley") (v := .ref (ad 24)) C w 17 6 iw_Ga rfl rfl (by decide) kw_151 rfl rfl d_Gu_measure_177 ?_
    refine lv_iload hx hb d_Gu_measure_180 (lv_at hl 0 rfl) ?_
    refine ka_i (f := (S.1 24)) C w 24 rfl hw.1 d_Gu_measure_182 ?_
    have hw := hw.2
    refine lv_isub hx hb d_Gu_measure_183 ?_
    refine lv_iadd hx hb d_Gu_measure_184 ?_
    refine lv_topi (fun v11 ev11 => ?_)
    have hw := hw v11 ev11
    refine lv_istore (lv' := [(7, .int v11), (11, .int r10), (10, .int v9), (9, .int v8), (8, .int v5), (6, .ref (ad 15)), (5, .ref (ad 14)), (0, .ref (ad 30)), (1, .int x1), (2, .int x2), (4, .int x4)]) hx hb d_Gu_measure_185 hl (by decide) rfl (fun ls hl => ?_)
    refine lv_iload hx hb d_Gu_measure_187 (lv_at hl 4 rfl) ?_
    refine lv_aload_n hx hb d_Gu_measure_189 rfl (lv_at hl 7 rfl) ?_
    refine kg (C1 := R_Gu) (T := F_Gu) (N := 9) (ci := 1) (ref := "LineBreaker$Gauge") (v := .ref (ad 17)) C w 30 0 iw_Gu rfl rfl (by decide) kw_199 rfl rfl d_Gu_measure_190 ?_
    refine kg (C1 := R_Ga) (T := F_Ga) (N := 12) (ci := 0) (ref := "LineBreaker$Galley") (v := .ref (ad 25)) C w 17 7 iw_Ga rfl rfl (by decide) kw_153 rfl rfl d_Gu_measure_193 ?_
    refine lv_iload_n hx hb d_Gu_measure_196 rfl (lv_at hl 9 rfl) ?_
    refine ka_i (f := (S.1 25)) C w 25 rfl hw.1 d_Gu_measure_197 ?_
    have hw := hw.2
    refine lv_aload_n hx hb d_Gu_measure_198 rfl (lv_at hl 7 rfl) ?_
    refine kg (C1 := R_Gu) (T := F_Gu) (N := 9) (ci := 1) (ref := "LineBreaker$Gauge") (v := .ref (ad 17)) C w 30 0 iw_Gu rfl rfl (by decide) kw_199 rfl rfl d_Gu_measure_199 ?_
    refine kg (C1 := R_Ga) (T := F_Ga) (N := 12) (ci := 0) (ref := "LineBreaker$Galley") (v := .ref (ad 25)) C w 17 7 iw_Ga rfl rfl (by decide) kw_153 rfl rfl d_Gu_measure_202 ?_
    refine lv_iload hx hb d_Gu_measure_205 (lv_at hl 1 rfl) ?_
    refine ka_i (f := (S.1 25)) C w 25 rfl hw.1 d_Gu_measure_207 ?_
    have hw := hw.2
    refine lv_isub hx hb d_Gu_measure_208 ?_
    refine lv_iadd hx hb d_Gu_measure_209 ?_
    refine lv_topi (fun v12 ev12 => ?_)
    have hw := hw v12 ev12
    refine lv_istore (lv' := [(8, .int v12), (7, .int v11), (11, .int r10), (10, .int v9), (9, .int v8), (6, .ref (ad 15)), (5, .ref (ad 14)), (0, .ref (ad 30)), (1, .int x1), (2, .int x2), (4, .int x4)]) hx hb d_Gu_measure_210 hl (by decide) rfl (fun ls hl => ?_)
    refine lv_iload hx hb d_Gu_measure_212 (lv_at hl 4 rfl) ?_
    refine lv_aload_n hx hb d_Gu_measure_214 rfl (lv_at hl 7 rfl) ?_
    refine kg (C1 := R_Gu) (T := F_Gu) (N := 9) (ci := 1) (ref := "LineBreaker$Gauge") (v := .ref (ad 17)) C w 30 0 iw_Gu rfl rfl (by decide) kw_199 rfl rfl d_Gu_measure_215 ?_
    refine kg (C1 := R_Ga) (T := F_Ga) (N := 12) (ci := 0) (ref := "LineBreaker$Galley") (v := .ref (ad 26)) C w 17 8 iw_Ga rfl rfl (by decide) kw_155 rfl rfl d_Gu_measure_218 ?_
    refine lv_iload_n hx hb d_Gu_measure_221 rfl (lv_at hl 9 rfl) ?_
    refine ka_i (f := (S.1 26)) C w 26 rfl hw.1 d_Gu_measure_222 ?_
    have hw := hw.2
    refine lv_aload_n hx hb d_Gu_measure_223 rfl (lv_at hl 7 rfl) ?_
    refine kg (C1 := R_Gu) (T := F_Gu) (N := 9) (ci := 1) (ref := "LineBreaker$Gauge") (v := .ref (ad 17)) C w 30 0 iw_Gu rfl rfl (by decide) kw_199 rfl rfl d_Gu_measure_224 ?_
    refine kg (C1 := R_Ga) (T := F_Ga) (N := 12) (ci := 0) (ref := "LineBreaker$Galley") (v := .ref (ad 26)) C w 17 8 iw_Ga rfl rfl (by decide) kw_155 rfl rfl d_Gu_measure_227 ?_
    refine lv_iload hx hb d_Gu_measure_230 (lv_at hl 2 rfl) ?_
    refine ka_i (f := (S.1 26)) C w 26 rfl hw.1 d_Gu_measure_232 ?_
    have hw := hw.2
    refine lv_isub hx hb d_Gu_measure_233 ?_
    refine lv_iadd hx hb d_Gu_measure_234 ?_
    refine lv_topi (fun v13 ev13 => ?_)
    have hw := hw v13 ev13
    refine lv_istore (lv' := [(9, .int v13), (8, .int v12), (7, .int v11), (11, .int r10), (10, .int v9), (6, .ref (ad 15)), (5, .ref (ad 14)), (0, .ref (ad 30)), (1, .int x1), (2, .int x2), (4, .int x4)]) hx hb d_Gu_measure_235 hl (by decide) rfl (fun ls hl => ?_)
    refine lv_iload hx hb d_Gu_measure_237 (lv_at hl 4 rfl) ?_
    refine lv_aload_n hx hb d_Gu_measure_239 rfl (lv_at hl 7 rfl) ?_
    refine kg (C1 := R_Gu) (T := F_Gu) (N := 9) (ci := 1) (ref := "LineBreaker$Gauge") (v := .ref (ad 17)) C w 30 0 iw_Gu rfl rfl (by decide) kw_199 rfl rfl d_Gu_measure_240 ?_
    refine kg (C1 := R_Ga) (T := F_Ga) (N := 12) (ci := 0) (ref := "LineBreaker$Galley") (v := .ref (ad 27)) C w 17 9 iw_Ga rfl rfl (by decide) kw_157 rfl rfl d_Gu_measure_243 ?_
    refine lv_iload_n hx hb d_Gu_measure_246 rfl (lv_at hl 9 rfl) ?_
    refine ka_i (f := (S.1 27)) C w 27 rfl hw.1 d_Gu_measure_247 ?_
    have hw := hw.2
    refine lv_aload_n hx hb d_Gu_measure_248 rfl (lv_at hl 7 rfl) ?_
    refine kg (C1 := R_Gu) (T := F_Gu) (N := 9) (ci := 1) (ref := "LineBreaker$Gauge") (v := .ref (ad 17)) C w 30 0 iw_Gu rfl rfl (by decide) kw_199 rfl rfl d_Gu_measure_249 ?_
    refine kg (C1 := R_Ga) (T := F_Ga) (N := 12) (ci := 0) (ref := "LineBreaker$Galley") (v := .ref (ad 27)) C w 17 9 iw_Ga rfl rfl (by decide) kw_157 rfl rfl d_Gu_measure_252 ?_
    refine lv_iload hx hb d_Gu_measure_255 (lv_at hl 3 rfl) ?_
    refine ka_i (f := (S.1 27)) C w 27 rfl hw.1 d_Gu_measure_257 ?_
    have hw := hw.2
    refine lv_isub hx hb d_Gu_measure_258 ?_
    refine lv_iadd hx hb d_Gu_measure_259 ?_
    refine lv_topi (fun v14 ev14 => ?_)
    have hw := hw v14 ev14
    refine lv_istore (lv' := [(10, .int v14), (9, .int v13), (8, .int v12), (7, .int v11), (11, .int r10), (6, .ref (ad 15)), (5, .ref (ad 14)), (0, .ref (ad 30)), (1, .int x1), (2, .int x2), (4, .int x4)]) hx hb d_Gu_measure_260 hl (by decide) rfl (fun ls hl => ?_)
    exact w_Gu_measure_262 C hr  x1 x2 x4 x4 v11 v12 v13 v14 hw _ _ _ (wn_eq w rfl) (lv_sub hl [7, 10, 3, 2, 1, 0] rfl)
set_option maxHeartbeats 4000000 in
set_option maxRecDepth 100000 in
theorem c_Gu_measure (l : Launch) (n0 : Nat) (G : va_G) (K : KT) (ad : Nat → Nat) (X : va_W) (S : ST) (p1 : Int32) (p2 : Int32) (p3 : Int32) (post : Int32 → Int32 → Int32 → Int32 → Int32 → Int32 → Prop) (hw : wp_Gu_measure S p1 p2 p3 post) : Met l y_Gu_measure (Cond.code y_Gu_measure prog_3_method_3_code 12 none :: gw) rm_Gu_measure (va_Pc [.ref (ad 30), .int p1, .int p2, .int p3] (wb n0 G K (wC K ad S ++ X))) (va_Qv (fun (u : Int32 × Int32 × Int32 × Int32 × Int32 × Int32) => post u.1 u.2.1 u.2.2.1 u.2.2.2.1 u.2.2.2.2.1 u.2.2.2.2.2) (fun (u : Int32 × Int32 × Int32 × Int32 × Int32 × Int32) t => we n0 G (wC K ad (sI (sI (sI (sI (sI (sI S 1923 u.1) 1924 u.2.1) 1925 u.2.2.1) 1926 u.2.2.2.1) 1927 u.2.2.2.2.1) 1928 u.2.2.2.2.2) ++ X) t) (al n0)) 0 0 (al n0) := by
  refine kb_start (own := "LineBreaker$Gauge") (by decide +kernel) rfl ?_
  intro p e s m below meth c C hr hnm w
  have hx := C.1
  have hb := C.2.1
  have hts := C.2.2.2.2.1
  have hl := lv_entry ([.ref (ad 30), .int p1, .int p2, .int p3]) (n := 12) (Nat.le_of_ble_eq_true rfl)
  rw [lg_entry_eq]
  generalize (lg_sl ([.ref (ad 30), .int p1, .int p2, .int p3]) ++ List.replicate (12 - (lg_sl ([.ref (ad 30), .int p1, .int p2, .int p3])).length) Slot.unset).toArray = ls at hl ⊢
  have hl : lv_has ls 12 [(0, .ref (ad 30)), (1, .int p1), (2, .int p2), (3, .int p3)] := hl
  unfold wp_Gu_measure at hw
  refine lv_aload_n hx hb d_Gu_measure_0 rfl (lv_at hl 0 rfl) ?_
  refine kg (C1 := R_Gu) (T := F_Gu) (N := 9) (ci := 1) (ref := "LineBreaker$Gauge") (v := .ref (ad 11)) C w 30 1 iw_Gu rfl rfl (by decide) kw_200 rfl rfl d_Gu_measure_1 ?_
  refine lv_iload_n hx hb d_Gu_measure_4 rfl (lv_at hl 3 rfl) ?_
  refine kc_i (st := fun (u : Unit) => wC K ad S ++ X) w (kr_V (y := y_St_widthOfLine) (C1 := R_St) (T := F_St) (N := 5) (ci := 8) (q0 := 11) (As := [.int p3]) (n := 1) C w (c_St_widthOfLine l n0 G K ad X S p3 _ hw) (gw_V kw_746 kw_747 kw_748 kw_3 kw_749) (by decide +kernel) rfl rfl ⟨Nat.le_of_ble_eq_true rfl, Nat.le_of_ble_eq_true rfl⟩ rfl rfl rfl hl.1 rfl (Nat.le_of_ble_eq_true rfl) d_Gu_measure_5 ⟨Nat.le_of_ble_eq_true rfl, Nat.le_of_ble_eq_true rfl⟩) (fun r1 u H locs hw w => ?_)
  refine lv_istore (lv' := [(4, .int r1), (0, .ref (ad 30)), (1, .int p1), (2, .int p2), (3, .int p3)]) hx hb d_Gu_measure_8 hl (by decide) rfl (fun ls hl => ?_)
  refine lv_iload_n hx hb d_Gu_measure_10 rfl (lv_at hl 3 rfl) ?_
  refine lv_aload_n hx hb d_Gu_measure_11 rfl (lv_at hl 1 rfl) ?_
  refine kg (C1 := R_Gu) (T := F_Gu) (N := 9) (ci := 1) (ref := "LineBreaker$Gauge") (v := .int (S.2.2 1927)) C w 30 7 iw_Gu rfl rfl (by decide) kw_211 rfl rfl d_Gu_measure_12 ?_
  refine lv_icmp_ne (tgt := 36) hx hb d_Gu_measure_15 (by decide) (fun hc => ?_) (fun hc => ?_)
  · have hw := hw.1 hc
    exact w_Gu_measure_36 C hr  p1 p2 r1 hw _ _ _ (wn_eq w rfl) (lv_sub hl [1, 2, 3, 0] rfl)
  · have hw := hw.2 hc
    refine lv_iload_n hx hb d_Gu_measure_18 rfl (lv_at hl 2 rfl) ?_
    refine lv_aload_n hx hb d_Gu_measure_19 rfl (lv_at hl 1 rfl) ?_
    refine kg (C1 := R_Gu) (T := F_Gu) (N := 9) (ci := 1) (ref := "LineBreaker$Gauge") (v := .int (S.2.2 1926)) C w 30 6 iw_Gu rfl rfl (by decide) kw_210 rfl rfl d_Gu_measure_20 ?_
    refine lv_icmp_ne (tgt := 36) hx hb d_Gu_measure_23 (by decide) (fun hc => ?_) (fun hc => ?_)
    · have hw := hw.1 hc
      exact w_Gu_measure_36 C hr  p1 p2 r1 hw _ _ _ (wn_eq w rfl) (lv_sub hl [1, 2, 3, 0] rfl)
    · have hw := hw.2 hc
      refine lv_iload hx hb d_Gu_measure_26 (lv_at hl 0 rfl) ?_
      refine lv_aload_n hx hb d_Gu_measure_28 rfl (lv_at hl 1 rfl) ?_
      refine kg (C1 := R_Gu) (T := F_Gu) (N := 9) (ci := 1) (ref := "LineBreaker$Gauge") (v := .int (S.2.2 1928)) C w 30 8 iw_Gu rfl rfl (by decide) kw_212 rfl rfl d_Gu_measure_29 ?_
      refine lv_icmp_ne (tgt := 36) hx hb d_Gu_measure_32 (by decide) (fun hc => ?_) (fun hc => ?_)
      · have hw := hw.1 hc
        exact w_Gu_measure_36 C hr  p1 p2 r1 hw _ _ _ (wn_eq w rfl) (lv_sub hl [1, 2, 3, 0] rfl)
      · have hw := hw.2 hc
        exact ke_v (post := (fun (u : Int32 × Int32 × Int32 × Int32 × Int32 × Int32) => post u.1 u.2.1 u.2.2.1 u.2.2.2.1 u.2.2.2.2.1 u.2.2.2.2.2)) (st := (fun (u : Int32 × Int32 × Int32 × Int32 × Int32 × Int32) => wC K ad (sI (sI (sI (sI (sI (sI S 1923 u.1) 1924 u.2.1) 1925 u.2.2.1) 1926 u.2.2.2.1) 1927 u.2.2.2.2.1) 1928 u.2.2.2.2.2) ++ X)) (u := ((S.2.2 1923), (S.2.2 1924), (S.2.2 1925), (S.2.2 1926), (S.2.2 1927), (S.2.2 1928))) C hr d_Gu_measure_35 (wn_eq w rfl) hw
set_option maxHeartbeats 4000000 in
set_option maxRecDepth 100000 in
theorem c_Se_measureFrom (l : Launch) (n0 : Nat) (G : va_G) (K : KT) (ad : Nat → Nat) (X : va_W) (S : ST) (p1 : Int32) (p2 : Int32) (post : Int32 → Int32 → Int32 → Int32 → Int32 → Int32 → Prop) (hw : wp_Se_measureFrom S p1 p2 post) : Met l y_Se_measureFrom (Cond.code y_Se_measureFrom prog_9_method_4_code 3 none :: gw) rm_Se_measureFrom (va_Pc [.ref (ad 29), .int p1, .int p2] (wb n0 G K (wC K ad S ++ X))) (va_Qv (fun (u : Int32 × Int32 × Int32 × Int32 × Int32 × Int32) => post u.1 u.2.1 u.2.2.1 u.2.2.2.1 u.2.2.2.2.1 u.2.2.2.2.2) (fun (u : Int32 × Int32 × Int32 × Int32 × Int32 × Int32) t => we n0 G (wC K ad (sI (sI (sI (sI (sI (sI S 1923 u.1) 1924 u.2.1) 1925 u.2.2.1) 1926 u.2.2.2.1) 1927 u.2.2.2.2.1) 1928 u.2.2.2.2.2) ++ X) t) (al n0)) 0 0 (al n0) := by
  refine kb_start (own := "LineBreaker$Search") (by decide +kernel) rfl ?_
  intro p e s m below meth c C hr hnm w
  have hx := C.1
  have hb := C.2.1
  have hts := C.2.2.2.2.1
  have hl := lv_entry ([.ref (ad 29), .int p1, .int p2]) (n := 3) (Nat.le_of_ble_eq_true rfl)
  rw [lg_entry_eq]
  generalize (lg_sl ([.ref (ad 29), .int p1, .int p2]) ++ List.replicate (3 - (lg_sl ([.ref (ad 29), .int p1, .int p2])).length) Slot.unset).toArray = ls at hl ⊢
  have hl : lv_has ls 3 [(0, .ref (ad 29)), (1, .int p1), (2, .int p2)] := hl
  unfold wp_Se_measureFrom at hw
  refine lv_aload_n hx hb d_Se_measureFrom_0 rfl (lv_at hl 0 rfl) ?_
  refine kg (C1 := R_Se) (T := F_Se) (N := 10) (ci := 7) (ref := "LineBreaker$Search") (v := .ref (ad 30)) C w 29 2 iw_Se rfl rfl (by decide) kw_296 rfl rfl d_Se_measureFrom_1 ?_
  refine lv_aload_n hx hb d_Se_measureFrom_4 rfl (lv_at hl 0 rfl) ?_
  refine kg (C1 := R_Se) (T := F_Se) (N := 10) (ci := 7) (ref := "LineBreaker$Search") (v := .ref (ad 31)) C w 29 3 iw_Se rfl rfl (by decide) kw_298 rfl rfl d_Se_measureFrom_5 ?_
  refine kg (C1 := R_No) (T := F_No) (N := 6) (ci := 3) (ref := "LineBreaker$Nodes") (v := .ref (ad 32)) C w 31 0 iw_No rfl rfl (by decide) kw_240 rfl rfl d_Se_measureFrom_8 ?_
  refine lv_iload_n hx hb d_Se_measureFrom_11 rfl (lv_at hl 1 rfl) ?_
  refine ka_i (f := (S.1 32)) C w 32 rfl hw.1 d_Se_measureFrom_12 ?_
  have hw := hw.2
  refine lv_iload_n hx hb d_Se_measureFrom_13 rfl (lv_at hl 2 rfl) ?_
  refine lv_aload_n hx hb d_Se_measureFrom_14 rfl (lv_at hl 0 rfl) ?_
  refine kg (C1 := R_Se) (T := F_Se) (N := 10) (ci := 7) (ref := "LineBreaker$Search") (v := .ref (ad 31)) C w 29 3 iw_Se rfl rfl (by decide) kw_298 rfl rfl d_Se_measureFrom_15 ?_
  refine kg (C1 := R_No) (T := F_No) (N := 6) (ci := 3) (ref := "LineBreaker$Nodes") (v := .ref (ad 33)) C w 31 1 iw_No rfl rfl (by decide) kw_244 rfl rfl d_Se_measureFrom_18 ?_
  refine lv_iload_n hx hb d_Se_measureFrom_21 rfl (lv_at hl 1 rfl) ?_
  refine ka_i (f := (S.1 33)) C w 33 rfl hw.1 d_Se_measureFrom_22 ?_
  have hw := hw.2
  refine kc_v (st := fun (u : Int32 × Int32 × Int32 × Int32 × Int32 × Int32) => wC K ad (sI (sI (sI (sI (sI (sI S 1923 u.1) 1924 u.2.1) 1925 u.2.2.1) 1926 u.2.2.2.1) 1927 u.2.2.2.2.1) 1928 u.2.2.2.2.2) ++ X) w (kr_V (y := y_Gu_measure) (C1 := R_Gu) (T := F_Gu) (N := 9) (ci := 1) (q0 := 30) (As := [.int ((S.1 32) p1.toNatClampNeg), .int p2, .int ((S.1 33) p1.toNatClampNeg)]) (n := 3) C w (c_Gu_measure l n0 G K ad X S ((S.1 32) p1.toNatClampNeg) p2 ((S.1 33) p1.toNatClampNeg) _ hw) (gw_V kw_742 kw_743 kw_744 kw_7 kw_745) (by decide +kernel) rfl rfl ⟨Nat.le_of_ble_eq_true rfl, Nat.le_of_ble_eq_true rfl⟩ rfl rfl rfl hl.1 rfl (Nat.le_of_ble_eq_true rfl) d_Se_measureFrom_23 ⟨Nat.le_of_ble_eq_true rfl, Nat.le_of_ble_eq_true rfl⟩) (fun u H locs hw w => ?_)
  obtain ⟨v1, v2, v3, v4, v5, v6⟩ := u
  dsimp only at hw
  have w : wn n0 G (wC K ad (sI (sI (sI (sI (sI (sI S 1923 v1) 1924 v2) 1925 v3) 1926 v4) 1927 v5) 1928 v6) ++ X) s H locs := w
  exact ke_v (post := (fun (u : Int32 × Int32 × Int32 × Int32 × Int32 × Int32) => post u.1 u.2.1 u.2.2.1 u.2.2.2.1 u.2.2.2.2.1 u.2.2.2.2.2)) (st := (fun (u : Int32 × Int32 × Int32 × Int32 × Int32 × Int32) => wC K ad (sI (sI (sI (sI (sI (sI S 1923 u.1) 1924 u.2.1) 1925 u.2.2.1) 1926 u.2.2.2.1) 1927 u.2.2.2.2.1) 1928 u.2.2.2.2.2) ++ X)) (u := (v1, v2, v3, v4, v5, v6)) C hr d_Se_measureFrom_26 (wn_eq w rfl) hw
end
end
section
theorem kw_238 : (Jvm.Cond.fieldLink "LineBreaker$Nodes" (9 : Nat) "LineBreaker$Nodes" "place" "[I") ∈ gw := gw_t (List.mem_of_getElem? (i := 238) (by decide +kernel)) (by decide +kernel)
theorem kw_242 : (Jvm.Cond.fieldLink "LineBreaker$Nodes" (15 : Nat) "LineBreaker$Nodes" "lines" "[I") ∈ gw := gw_t (List.mem_of_getElem? (i := 242) (by decide +kernel)) (by decide +kernel)
theorem kw_246 : (Jvm.Cond.fieldLink "LineBreaker$Nodes" (18 : Nat) "LineBreaker$Nodes" "fit" "[I") ∈ gw := gw_t (List.mem_of_getElem? (i := 246) (by decide +kernel)) (by decide +kernel)
theorem kw_249 : (Jvm.Cond.fieldLink "LineBreaker$Nodes" (21 : Nat) "LineBreaker$Nodes" "former" "[I") ∈ gw := gw_t (List.mem_of_getElem? (i := 249) (by decide +kernel)) (by decide +kernel)
theorem kw_252 : (Jvm.Cond.fieldLink "LineBreaker$Nodes" (24 : Nat) "LineBreaker$Nodes" "total" "[J") ∈ gw := gw_t (List.mem_of_getElem? (i := 252) (by decide +kernel)) (by decide +kernel)
theorem kw_256 : (Jvm.Cond.fieldLink "LineBreaker$Nodes" (28 : Nat) "LineBreaker$Nodes" "count" "I") ∈ gw := gw_t (List.mem_of_getElem? (i := 256) (by decide +kernel)) (by decide +kernel)
theorem kw_281 : (Jvm.Cond.fieldLink "LineBreaker$Offers" (15 : Nat) "LineBreaker$Offers" "former" "[I") ∈ gw := gw_t (List.mem_of_getElem? (i := 281) (by decide +kernel)) (by decide +kernel)
theorem kw_282 : (Jvm.Cond.fieldLink "LineBreaker$Offers" (25 : Nat) "LineBreaker$Offers" "fewest" "I") ∈ gw := gw_t (List.mem_of_getElem? (i := 282) (by decide +kernel)) (by decide +kernel)
theorem kw_283 : (Jvm.Cond.fieldLink "LineBreaker$Offers" (29 : Nat) "LineBreaker$Offers" "most" "I") ∈ gw := gw_t (List.mem_of_getElem? (i := 283) (by decide +kernel)) (by decide +kernel)
theorem kw_729 : (Jvm.Cond.code ({ cls := "java/util/Arrays", name := "fill", desc := "([II)V" } : Jvm.MethodName) prog_22_method_103_code (4 : Nat) (Option.none : Option Jvm.ClassFile.FieldType)) ∈ gw := gw_t (List.mem_of_getElem? (i := 729) (by decide +kernel)) (by decide +kernel)
theorem kw_728 : (Jvm.Cond.static ({ cls := "java/util/Arrays", name := "fill", desc := "([II)V" } : Jvm.MethodName)) ∈ gw := gw_t (List.mem_of_getElem? (i := 728) (by decide +kernel)) (by decide +kernel)
theorem kw_19 : (Jvm.Cond.initialized "java/util/Arrays") ∈ gw := gw_t (List.mem_of_getElem? (i := 19) (by decide +kernel)) (by decide +kernel)
theorem kw_727 : (Jvm.Cond.methodLink "LineBreaker$Offers" (19 : Nat) ({ cls := "java/util/Arrays", name := "fill", desc := "([II)V" } : Jvm.MethodName)) ∈ gw := gw_t (List.mem_of_getElem? (i := 727) (by decide +kernel)) (by decide +kernel)
theorem kw_145 : (Jvm.Cond.fieldLink "LineBreaker$Galley" (18 : Nat) "LineBreaker$Galley" "breakable" "[Z") ∈ gw := gw_t (List.mem_of_getElem? (i := 145) (by decide +kernel)) (by decide +kernel)
theorem kw_142 : (Jvm.Cond.fieldLink "LineBreaker$Galley" (9 : Nat) "LineBreaker$Galley" "kind" "[I") ∈ gw := gw_t (List.mem_of_getElem? (i := 142) (by decide +kernel)) (by decide +kernel)
theorem kw_248 : (Jvm.Cond.fieldLink "LineBreaker$Search" (151 : Nat) "LineBreaker$Nodes" "fit" "[I") ∈ gw := gw_t (List.mem_of_getElem? (i := 248) (by decide +kernel)) (by decide +kernel)
theorem kw_209 : (Jvm.Cond.fieldLink "LineBreaker$Search" (125 : Nat) "LineBreaker$Gauge" "fit" "I") ∈ gw := gw_t (List.mem_of_getElem? (i := 209) (by decide +kernel)) (by decide +kernel)
theorem kw_787 : (Jvm.Cond.methodLink "LineBreaker$Search" (153 : Nat) ({ cls := "java/lang/Math", name := "abs", desc := "(I)I" } : Jvm.MethodName)) ∈ gw := gw_t (List.mem_of_getElem? (i := 787) (by decide +kernel)) (by decide +kernel)
theorem kw_645 : (Jvm.Cond.static ({ cls := "java/lang/Math", name := "abs", desc := "(I)I" } : Jvm.MethodName)) ∈ gw := gw_t (List.mem_of_getElem? (i := 645) (by decide +kernel)) (by decide +kernel)
theorem kw_646 : (Jvm.Cond.code ({ cls := "java/lang/Math", name := "abs", desc := "(I)I" } : Jvm.MethodName) prog_17_method_59_code (1 : Nat) (Option.some Jvm.ClassFile.FieldType.int)) ∈ gw := gw_t (List.mem_of_getElem? (i := 646) (by decide +kernel)) (by decide +kernel)
theorem kw_295 : (Jvm.Cond.fieldLink "LineBreaker$Search" (15 : Nat) "LineBreaker$Search" "settings" "LLineBreaker$Settings;") ∈ gw := gw_t (List.mem_of_getElem? (i := 295) (by decide +kernel)) (by decide +kernel)
theorem kw_111 : (Jvm.Cond.fieldLink "LineBreaker$Search" (46 : Nat) "LineBreaker$Settings" "values" "[I") ∈ gw := gw_t (List.mem_of_getElem? (i := 111) (by decide +kernel)) (by decide +kernel)
theorem kw_293 : (Jvm.Cond.fieldLink "LineBreaker$Search" (9 : Nat) "LineBreaker$Search" "galley" "LLineBreaker$Galley;") ∈ gw := gw_t (List.mem_of_getElem? (i := 293) (by decide +kernel)) (by decide +kernel)
theorem kw_160 : (Jvm.Cond.fieldLink "LineBreaker$Search" (69 : Nat) "LineBreaker$Galley" "last" "I") ∈ gw := gw_t (List.mem_of_getElem? (i := 160) (by decide +kernel)) (by decide +kernel)
theorem kw_786 : (Jvm.Cond.code ({ cls := "LineBreaker$Galley", name := "isHyphen", desc := "(I)Z" } : Jvm.MethodName) prog_2_method_4_code (2 : Nat) (Option.some Jvm.ClassFile.FieldType.boolean)) ∈ gw := gw_t (List.mem_of_getElem? (i := 786) (by decide +kernel)) (by decide +kernel)
theorem kw_783 : (Jvm.Cond.methodLink "LineBreaker$Search" (148 : Nat) ({ cls := "LineBreaker$Galley", name := "isHyphen", desc := "(I)Z" } : Jvm.MethodName)) ∈ gw := gw_t (List.mem_of_getElem? (i := 783) (by decide +kernel)) (by decide +kernel)
theorem kw_784 : (Jvm.Cond.instanceMethod ({ cls := "LineBreaker$Galley", name := "isHyphen", desc := "(I)Z" } : Jvm.MethodName)) ∈ gw := gw_t (List.mem_of_getElem? (i := 784) (by decide +kernel)) (by decide +kernel)
theorem kw_785 : (Jvm.Cond.selects "LineBreaker$Galley" ({ cls := "LineBreaker$Galley", name := "isHyphen", desc := "(I)Z" } : Jvm.MethodName) ({ cls := "LineBreaker$Galley", name := "isHyphen", desc := "(I)Z" } : Jvm.MethodName)) ∈ gw := gw_t (List.mem_of_getElem? (i := 785) (by decide +kernel)) (by decide +kernel)
theorem kw_144 : (Jvm.Cond.fieldLink "LineBreaker$Search" (86 : Nat) "LineBreaker$Galley" "penalty" "[I") ∈ gw := gw_t (List.mem_of_getElem? (i := 144) (by decide +kernel)) (by decide +kernel)
theorem kw_782 : (Jvm.Cond.constantLong "LineBreaker$Search" (146 : Nat) (-10000 : Int64)) ∈ gw := gw_t (List.mem_of_getElem? (i := 782) (by decide +kernel)) (by decide +kernel)
theorem kw_204 : (Jvm.Cond.fieldLink "LineBreaker$Search" (93 : Nat) "LineBreaker$Gauge" "badness" "I") ∈ gw := gw_t (List.mem_of_getElem? (i := 204) (by decide +kernel)) (by decide +kernel)
theorem kw_780 : (Jvm.Cond.constantLong "LineBreaker$Search" (142 : Nat) (10000 : Int64)) ∈ gw := gw_t (List.mem_of_getElem? (i := 780) (by decide +kernel)) (by decide +kernel)
theorem kw_781 : (Jvm.Cond.constantLong "LineBreaker$Search" (144 : Nat) (100000000 : Int64)) ∈ gw := gw_t (List.mem_of_getElem? (i := 781) (by decide +kernel)) (by decide +kernel)
theorem kw_796 : (Jvm.Cond.methodLink "LineBreaker$Offers" (32 : Nat) ({ cls := "java/lang/Math", name := "min", desc := "(II)I" } : Jvm.MethodName)) ∈ gw := gw_t (List.mem_of_getElem? (i := 796) (by decide +kernel)) (by decide +kernel)
theorem kw_797 : (Jvm.Cond.methodLink "LineBreaker$Offers" (38 : Nat) ({ cls := "java/lang/Math", name := "max", desc := "(II)I" } : Jvm.MethodName)) ∈ gw := gw_t (List.mem_of_getElem? (i := 797) (by decide +kernel)) (by decide +kernel)
theorem kw_525 : (Jvm.Cond.static ({ cls := "java/lang/Math", name := "max", desc := "(II)I" } : Jvm.MethodName)) ∈ gw := gw_t (List.mem_of_getElem? (i := 525) (by decide +kernel)) (by decide +kernel)
theorem kw_526 : (Jvm.Cond.code ({ cls := "java/lang/Math", name := "max", desc := "(II)I" } : Jvm.MethodName) prog_17_method_65_code (2 : Nat) (Option.some Jvm.ClassFile.FieldType.int)) ∈ gw := gw_t (List.mem_of_getElem? (i := 526) (by decide +kernel)) (by decide +kernel)
theorem kw_280 : (Jvm.Cond.fieldLink "LineBreaker$Offers" (9 : Nat) "LineBreaker$Offers" "total" "[J") ∈ gw := gw_t (List.mem_of_getElem? (i := 280) (by decide +kernel)) (by decide +kernel)
theorem kw_300 : (Jvm.Cond.fieldLink "LineBreaker$Search" (38 : Nat) "LineBreaker$Search" "offers" "LLineBreaker$Offers;") ∈ gw := gw_t (List.mem_of_getElem? (i := 300) (by decide +kernel)) (by decide +kernel)
theorem kw_795 : (Jvm.Cond.code ({ cls := "LineBreaker$Offers", name := "take", desc := "(IIIJ)V" } : Jvm.MethodName) prog_6_method_4_code (7 : Nat) (Option.none : Option Jvm.ClassFile.FieldType)) ∈ gw := gw_t (List.mem_of_getElem? (i := 795) (by decide +kernel)) (by decide +kernel)
theorem kw_792 : (Jvm.Cond.methodLink "LineBreaker$Search" (128 : Nat) ({ cls := "LineBreaker$Offers", name := "take", desc := "(IIIJ)V" } : Jvm.MethodName)) ∈ gw := gw_t (List.mem_of_getElem? (i := 792) (by decide +kernel)) (by decide +kernel)
theorem kw_793 : (Jvm.Cond.instanceMethod ({ cls := "LineBreaker$Offers", name := "take", desc := "(IIIJ)V" } : Jvm.MethodName)) ∈ gw := gw_t (List.mem_of_getElem? (i := 793) (by decide +kernel)) (by decide +kernel)
theorem kw_794 : (Jvm.Cond.selects "LineBreaker$Offers" ({ cls := "LineBreaker$Offers", name := "take", desc := "(IIIJ)V" } : Jvm.MethodName) ({ cls := "LineBreaker$Offers", name := "take", desc := "(IIIJ)V" } : Jvm.MethodName)) ∈ gw := gw_t (List.mem_of_getElem? (i := 794) (by decide +kernel)) (by decide +kernel)
theorem kw_9 : (Jvm.Cond.initialized "LineBreaker$Offers") ∈ gw := gw_t (List.mem_of_getElem? (i := 9) (by decide +kernel)) (by decide +kernel)
theorem kw_258 : (Jvm.Cond.fieldLink "LineBreaker$Offers" (47 : Nat) "LineBreaker$Nodes" "count" "I") ∈ gw := gw_t (List.mem_of_getElem? (i := 258) (by decide +kernel)) (by decide +kernel)
theorem kw_241 : (Jvm.Cond.fieldLink "LineBreaker$Offers" (50 : Nat) "LineBreaker$Nodes" "place" "[I") ∈ gw := gw_t (List.mem_of_getElem? (i := 241) (by decide +kernel)) (by decide +kernel)
theorem kw_245 : (Jvm.Cond.fieldLink "LineBreaker$Offers" (53 : Nat) "LineBreaker$Nodes" "lines" "[I") ∈ gw := gw_t (List.mem_of_getElem? (i := 245) (by decide +kernel)) (by decide +kernel)
theorem kw_247 : (Jvm.Cond.fieldLink "LineBreaker$Offers" (56 : Nat) "LineBreaker$Nodes" "fit" "[I") ∈ gw := gw_t (List.mem_of_getElem? (i := 247) (by decide +kernel)) (by decide +kernel)
theorem kw_251 : (Jvm.Cond.fieldLink "LineBreaker$Offers" (59 : Nat) "LineBreaker$Nodes" "former" "[I") ∈ gw := gw_t (List.mem_of_getElem? (i := 251) (by decide +kernel)) (by decide +kernel)
theorem kw_255 : (Jvm.Cond.fieldLink "LineBreaker$Offers" (60 : Nat) "LineBreaker$Nodes" "total" "[J") ∈ gw := gw_t (List.mem_of_getElem? (i := 255) (by decide +kernel)) (by decide +kernel)
theorem kw_813 : (Jvm.Cond.code ({ cls := "LineBreaker$Nodes", name := "isFull", desc := "()Z" } : Jvm.MethodName) prog_5_method_3_code (1 : Nat) (Option.some Jvm.ClassFile.FieldType.boolean)) ∈ gw := gw_t (List.mem_of_getElem? (i := 813) (by decide +kernel)) (by decide +kernel)
theorem kw_810 : (Jvm.Cond.methodLink "LineBreaker$Offers" (41 : Nat) ({ cls := "LineBreaker$Nodes", name := "isFull", desc := "()Z" } : Jvm.MethodName)) ∈ gw := gw_t (List.mem_of_getElem? (i := 810) (by decide +kernel)) (by decide +kernel)
theorem kw_811 : (Jvm.Cond.instanceMethod ({ cls := "LineBreaker$Nodes", name := "isFull", desc := "()Z" } : Jvm.MethodName)) ∈ gw := gw_t (List.mem_of_getElem? (i := 811) (by decide +kernel)) (by decide +kernel)
theorem kw_812 : (Jvm.Cond.selects "LineBreaker$Nodes" ({ cls := "LineBreaker$Nodes", name := "isFull", desc := "()Z" } : Jvm.MethodName) ({ cls := "LineBreaker$Nodes", name := "isFull", desc := "()Z" } : Jvm.MethodName)) ∈ gw := gw_t (List.mem_of_getElem? (i := 812) (by decide +kernel)) (by decide +kernel)
theorem kw_8 : (Jvm.Cond.initialized "LineBreaker$Nodes") ∈ gw := gw_t (List.mem_of_getElem? (i := 8) (by decide +kernel)) (by decide +kernel)
theorem kw_259 : (Jvm.Cond.fieldLink "LineBreaker$Search" (132 : Nat) "LineBreaker$Nodes" "count" "I") ∈ gw := gw_t (List.mem_of_getElem? (i := 259) (by decide +kernel)) (by decide +kernel)
theorem kw_301 : (Jvm.Cond.fieldLink "LineBreaker$Search" (42 : Nat) "LineBreaker$Search" "alive" "[I") ∈ gw := gw_t (List.mem_of_getElem? (i := 301) (by decide +kernel)) (by decide +kernel)
theorem kw_302 : (Jvm.Cond.fieldLink "LineBreaker$Search" (66 : Nat) "LineBreaker$Search" "aliveCount" "I") ∈ gw := gw_t (List.mem_of_getElem? (i := 302) (by decide +kernel)) (by decide +kernel)
theorem kw_303 : (Jvm.Cond.fieldLink "LineBreaker$Search" (135 : Nat) "LineBreaker$Search" "firstAtPlace" "I") ∈ gw := gw_t (List.mem_of_getElem? (i := 303) (by decide +kernel)) (by decide +kernel)
theorem kw_809 : (Jvm.Cond.code ({ cls := "LineBreaker$Offers", name := "turnInto", desc := "(LLineBreaker$Nodes;I)Z" } : Jvm.MethodName) prog_6_method_5_code (7 : Nat) (Option.some Jvm.ClassFile.FieldType.boolean)) ∈ gw := gw_t (List.mem_of_getElem? (i := 809) (by decide +kernel)) (by decide +kernel)
theorem kw_806 : (Jvm.Cond.methodLink "LineBreaker$Search" (138 : Nat) ({ cls := "LineBreaker$Offers", name := "turnInto", desc := "(LLineBreaker$Nodes;I)Z" } : Jvm.MethodName)) ∈ gw := gw_t (List.mem_of_getElem? (i := 806) (by decide +kernel)) (by decide +kernel)
theorem kw_807 : (Jvm.Cond.instanceMethod ({ cls := "LineBreaker$Offers", name := "turnInto", desc := "(LLineBreaker$Nodes;I)Z" } : Jvm.MethodName)) ∈ gw := gw_t (List.mem_of_getElem? (i := 807) (by decide +kernel)) (by decide +kernel)
theorem kw_808 : (Jvm.Cond.selects "LineBreaker$Offers" ({ cls := "LineBreaker$Offers", name := "turnInto", desc := "(LLineBreaker$Nodes;I)Z" } : Jvm.MethodName) ({ cls := "LineBreaker$Offers", name := "turnInto", desc := "(LLineBreaker$Nodes;I)Z" } : Jvm.MethodName)) ∈ gw := gw_t (List.mem_of_getElem? (i := 808) (by decide +kernel)) (by decide +kernel)
theorem kw_805 : (Jvm.Cond.code ({ cls := "LineBreaker$Search", name := "settle", desc := "(I)Z" } : Jvm.MethodName) prog_9_method_6_code (3 : Nat) (Option.some Jvm.ClassFile.FieldType.boolean)) ∈ gw := gw_t (List.mem_of_getElem? (i := 805) (by decide +kernel)) (by decide +kernel)
theorem kw_802 : (Jvm.Cond.methodLink "LineBreaker$Search" (115 : Nat) ({ cls := "LineBreaker$Search", name := "settle", desc := "(I)Z" } : Jvm.MethodName)) ∈ gw := gw_t (List.mem_of_getElem? (i := 802) (by decide +kernel)) (by decide +kernel)
theorem kw_804 : (Jvm.Cond.instanceMethod ({ cls := "LineBreaker$Search", name := "settle", desc := "(I)Z" } : Jvm.MethodName)) ∈ gw := gw_t (List.mem_of_getElem? (i := 804) (by decide +kernel)) (by decide +kernel)
theorem kp_15 : Cond.selects "LineBreaker$Search" ⟨"LineBreaker$Search", "settle", "(I)Z"⟩ ⟨"LineBreaker$Search", "settle", "(I)Z"⟩ ∈ gw := gw_s (List.mem_of_getElem? (i := 15) (by decide +kernel)) (by decide +kernel)
theorem kw_6 : (Jvm.Cond.initialized "LineBreaker$Search") ∈ gw := gw_t (List.mem_of_getElem? (i := 6) (by decide +kernel)) (by decide +kernel)
theorem kw_305 : (Jvm.Cond.fieldLink "LineBreaker$Search" (55 : Nat) "LineBreaker$Search" "isLast" "Z") ∈ gw := gw_t (List.mem_of_getElem? (i := 305) (by decide +kernel)) (by decide +kernel)
theorem kw_253 : (Jvm.Cond.fieldLink "LineBreaker$Search" (96 : Nat) "LineBreaker$Nodes" "total" "[J") ∈ gw := gw_t (List.mem_of_getElem? (i := 253) (by decide +kernel)) (by decide +kernel)
theorem kw_791 : (Jvm.Cond.code ({ cls := "LineBreaker$Search", name := "offerFrom", desc := "(IJ)V" } : Jvm.MethodName) prog_9_method_5_code (4 : Nat) (Option.none : Option Jvm.ClassFile.FieldType)) ∈ gw := gw_t (List.mem_of_getElem? (i := 791) (by decide +kernel)) (by decide +kernel)
theorem kw_788 : (Jvm.Cond.methodLink "LineBreaker$Search" (104 : Nat) ({ cls := "LineBreaker$Search", name := "offerFrom", desc := "(IJ)V" } : Jvm.MethodName)) ∈ gw := gw_t (List.mem_of_getElem? (i := 788) (by decide +kernel)) (by decide +kernel)
theorem kw_790 : (Jvm.Cond.instanceMethod ({ cls := "LineBreaker$Search", name := "offerFrom", desc := "(IJ)V" } : Jvm.MethodName)) ∈ gw := gw_t (List.mem_of_getElem? (i := 790) (by decide +kernel)) (by decide +kernel)
theorem kp_14 : Cond.selects "LineBreaker$Search" ⟨"LineBreaker$Search", "offerFrom", "(IJ)V"⟩ ⟨"LineBreaker$Search", "offerFrom", "(IJ)V"⟩ ∈ gw := gw_s (List.mem_of_getElem? (i := 14) (by decide +kernel)) (by decide +kernel)
theorem kw_741 : (Jvm.Cond.code ({ cls := "LineBreaker$Search", name := "measureFrom", desc := "(II)V" } : Jvm.MethodName) prog_9_method_4_code (3 : Nat) (Option.none : Option Jvm.ClassFile.FieldType)) ∈ gw := gw_t (List.mem_of_getElem? (i := 741) (by decide +kernel)) (by decide +kernel)
theorem kw_738 : (Jvm.Cond.methodLink "LineBreaker$Search" (89 : Nat) ({ cls := "LineBreaker$Search", name := "measureFrom", desc := "(II)V" } : Jvm.MethodName)) ∈ gw := gw_t (List.mem_of_getElem? (i := 738) (by decide +kernel)) (by decide +kernel)
theorem kw_739 : (Jvm.Cond.instanceMethod ({ cls := "LineBreaker$Search", name := "measureFrom", desc := "(II)V" } : Jvm.MethodName)) ∈ gw := gw_t (List.mem_of_getElem? (i := 739) (by decide +kernel)) (by decide +kernel)
theorem kw_740 : (Jvm.Cond.selects "LineBreaker$Search" ({ cls := "LineBreaker$Search", name := "measureFrom", desc := "(II)V" } : Jvm.MethodName) ({ cls := "LineBreaker$Search", name := "measureFrom", desc := "(II)V" } : Jvm.MethodName)) ∈ gw := gw_t (List.mem_of_getElem? (i := 740) (by decide +kernel)) (by decide +kernel)
theorem kw_801 : (Jvm.Cond.code ({ cls := "LineBreaker$Offers", name := "isEmpty", desc := "()Z" } : Jvm.MethodName) prog_6_method_3_code (1 : Nat) (Option.some Jvm.ClassFile.FieldType.boolean)) ∈ gw := gw_t (List.mem_of_getElem? (i := 801) (by decide +kernel)) (by decide +kernel)
theorem kw_798 : (Jvm.Cond.methodLink "LineBreaker$Search" (111 : Nat) ({ cls := "LineBreaker$Offers", name := "isEmpty", desc := "()Z" } : Jvm.MethodName)) ∈ gw := gw_t (List.mem_of_getElem? (i := 798) (by decide +kernel)) (by decide +kernel)
theorem kw_799 : (Jvm.Cond.instanceMethod ({ cls := "LineBreaker$Offers", name := "isEmpty", desc := "()Z" } : Jvm.MethodName)) ∈ gw := gw_t (List.mem_of_getElem? (i := 799) (by decide +kernel)) (by decide +kernel)
theorem kw_800 : (Jvm.Cond.selects "LineBreaker$Offers" ({ cls := "LineBreaker$Offers", name := "isEmpty", desc := "()Z" } : Jvm.MethodName) ({ cls := "LineBreaker$Offers", name := "isEmpty", desc := "()Z" } : Jvm.MethodName)) ∈ gw := gw_t (List.mem_of_getElem? (i := 800) (by decide +kernel)) (by decide +kernel)
theorem kw_304 : (Jvm.Cond.fieldLink "LineBreaker$Search" (51 : Nat) "LineBreaker$Search" "tolerance" "I") ∈ gw := gw_t (List.mem_of_getElem? (i := 304) (by decide +kernel)) (by decide +kernel)
theorem kw_779 : (Jvm.Cond.code ({ cls := "LineBreaker$Search", name := "demerits", desc := "(II)J" } : Jvm.MethodName) prog_9_method_7_code (9 : Nat) (Option.some Jvm.ClassFile.FieldType.long)) ∈ gw := gw_t (List.mem_of_getElem? (i := 779) (by decide +kernel)) (by decide +kernel)
theorem kw_776 : (Jvm.Cond.methodLink "LineBreaker$Search" (100 : Nat) ({ cls := "LineBreaker$Search", name := "demerits", desc := "(II)J" } : Jvm.MethodName)) ∈ gw := gw_t (List.mem_of_getElem? (i := 776) (by decide +kernel)) (by decide +kernel)
theorem kw_778 : (Jvm.Cond.instanceMethod ({ cls := "LineBreaker$Search", name := "demerits", desc := "(II)J" } : Jvm.MethodName)) ∈ gw := gw_t (List.mem_of_getElem? (i := 778) (by decide +kernel)) (by decide +kernel)
theorem kp_13 : Cond.selects "LineBreaker$Search" ⟨"LineBreaker$Search", "demerits", "(II)J"⟩ ⟨"LineBreaker$Search", "demerits", "(II)J"⟩ ∈ gw := gw_s (List.mem_of_getElem? (i := 13) (by decide +kernel)) (by decide +kernel)
theorem kw_826 : (Jvm.Cond.methodLink "LineBreaker$Search" (167 : Nat) ({ cls := "java/lang/Math", name := "min", desc := "(II)I" } : Jvm.MethodName)) ∈ gw := gw_t (List.mem_of_getElem? (i := 826) (by decide +kernel)) (by decide +kernel)
theorem kw_827 : (Jvm.Cond.methodLink "LineBreaker$Search" (171 : Nat) ({ cls := "java/lang/Math", name := "max", desc := "(II)I" } : Jvm.MethodName)) ∈ gw := gw_t (List.mem_of_getElem? (i := 827) (by decide +kernel)) (by decide +kernel)
theorem kw_821 : (Jvm.Cond.code ({ cls := "LineBreaker$Nodes", name := "isBetter", desc := "(II)Z" } : Jvm.MethodName) prog_5_method_4_code (3 : Nat) (Option.some Jvm.ClassFile.FieldType.boolean)) ∈ gw := gw_t (List.mem_of_getElem? (i := 821) (by decide +kernel)) (by decide +kernel)
theorem kw_818 : (Jvm.Cond.methodLink "LineBreaker$Search" (159 : Nat) ({ cls := "LineBreaker$Nodes", name := "isBetter", desc := "(II)Z" } : Jvm.MethodName)) ∈ gw := gw_t (List.mem_of_getElem? (i := 818) (by decide +kernel)) (by decide +kernel)
theorem kw_819 : (Jvm.Cond.instanceMethod ({ cls := "LineBreaker$Nodes", name := "isBetter", desc := "(II)Z" } : Jvm.MethodName)) ∈ gw := gw_t (List.mem_of_getElem? (i := 819) (by decide +kernel)) (by decide +kernel)
theorem kw_820 : (Jvm.Cond.selects "LineBreaker$Nodes" ({ cls := "LineBreaker$Nodes", name := "isBetter", desc := "(II)Z" } : Jvm.MethodName) ({ cls := "LineBreaker$Nodes", name := "isBetter", desc := "(II)Z" } : Jvm.MethodName)) ∈ gw := gw_t (List.mem_of_getElem? (i := 820) (by decide +kernel)) (by decide +kernel)
theorem kw_825 : (Jvm.Cond.code ({ cls := "LineBreaker$Search", name := "isPreferred", desc := "(IIII)Z" } : Jvm.MethodName) prog_9_method_9_code (10 : Nat) (Option.some Jvm.ClassFile.FieldType.boolean)) ∈ gw := gw_t (List.mem_of_getElem? (i := 825) (by decide +kernel)) (by decide +kernel)
theorem kw_822 : (Jvm.Cond.methodLink "LineBreaker$Search" (163 : Nat) ({ cls := "LineBreaker$Search", name := "isPreferred", desc := "(IIII)Z" } : Jvm.MethodName)) ∈ gw := gw_t (List.mem_of_getElem? (i := 822) (by decide +kernel)) (by decide +kernel)
theorem kw_824 : (Jvm.Cond.instanceMethod ({ cls := "LineBreaker$Search", name := "isPreferred", desc := "(IIII)Z" } : Jvm.MethodName)) ∈ gw := gw_t (List.mem_of_getElem? (i := 824) (by decide +kernel)) (by decide +kernel)
theorem kp_17 : Cond.selects "LineBreaker$Search" ⟨"LineBreaker$Search", "isPreferred", "(IIII)Z"⟩ ⟨"LineBreaker$Search", "isPreferred", "(IIII)Z"⟩ ∈ gw := gw_s (List.mem_of_getElem? (i := 17) (by decide +kernel)) (by decide +kernel)
theorem kw_817 : (Jvm.Cond.code ({ cls := "LineBreaker$Search", name := "choose", desc := "()I" } : Jvm.MethodName) prog_9_method_8_code (5 : Nat) (Option.some Jvm.ClassFile.FieldType.int)) ∈ gw := gw_t (List.mem_of_getElem? (i := 817) (by decide +kernel)) (by decide +kernel)
theorem kw_814 : (Jvm.Cond.methodLink "LineBreaker$Search" (82 : Nat) ({ cls := "LineBreaker$Search", name := "choose", desc := "()I" } : Jvm.MethodName)) ∈ gw := gw_t (List.mem_of_getElem? (i := 814) (by decide +kernel)) (by decide +kernel)
theorem kw_816 : (Jvm.Cond.instanceMethod ({ cls := "LineBreaker$Search", name := "choose", desc := "()I" } : Jvm.MethodName)) ∈ gw := gw_t (List.mem_of_getElem? (i := 816) (by decide +kernel)) (by decide +kernel)
theorem kp_16 : Cond.selects "LineBreaker$Search" ⟨"LineBreaker$Search", "choose", "()I"⟩ ⟨"LineBreaker$Search", "choose", "()I"⟩ ∈ gw := gw_s (List.mem_of_getElem? (i := 16) (by decide +kernel)) (by decide +kernel)
theorem kw_737 : (Jvm.Cond.code ({ cls := "LineBreaker$Search", name := "visit", desc := "(I)Z" } : Jvm.MethodName) prog_9_method_3_code (7 : Nat) (Option.some Jvm.ClassFile.FieldType.boolean)) ∈ gw := gw_t (List.mem_of_getElem? (i := 737) (by decide +kernel)) (by decide +kernel)
theorem kw_734 : (Jvm.Cond.methodLink "LineBreaker$Search" (78 : Nat) ({ cls := "LineBreaker$Search", name := "visit", desc := "(I)Z" } : Jvm.MethodName)) ∈ gw := gw_t (List.mem_of_getElem? (i := 734) (by decide +kernel)) (by decide +kernel)
theorem kw_736 : (Jvm.Cond.instanceMethod ({ cls := "LineBreaker$Search", name := "visit", desc := "(I)Z" } : Jvm.MethodName)) ∈ gw := gw_t (List.mem_of_getElem? (i := 736) (by decide +kernel)) (by decide +kernel)
theorem kp_10 : Cond.selects "LineBreaker$Search" ⟨"LineBreaker$Search", "visit", "(I)Z"⟩ ⟨"LineBreaker$Search", "visit", "(I)Z"⟩ ∈ gw := gw_s (List.mem_of_getElem? (i := 10) (by decide +kernel)) (by decide +kernel)
theorem kw_733 : (Jvm.Cond.code ({ cls := "LineBreaker$Galley", name := "isPlace", desc := "(IZ)Z" } : Jvm.MethodName) prog_2_method_3_code (3 : Nat) (Option.some Jvm.ClassFile.FieldType.boolean)) ∈ gw := gw_t (List.mem_of_getElem? (i := 733) (by decide +kernel)) (by decide +kernel)
theorem kw_730 : (Jvm.Cond.methodLink "LineBreaker$Search" (74 : Nat) ({ cls := "LineBreaker$Galley", name := "isPlace", desc := "(IZ)Z" } : Jvm.MethodName)) ∈ gw := gw_t (List.mem_of_getElem? (i := 730) (by decide +kernel)) (by decide +kernel)
theorem kw_731 : (Jvm.Cond.instanceMethod ({ cls := "LineBreaker$Galley", name := "isPlace", desc := "(IZ)Z" } : Jvm.MethodName)) ∈ gw := gw_t (List.mem_of_getElem? (i := 731) (by decide +kernel)) (by decide +kernel)
theorem kw_732 : (Jvm.Cond.selects "LineBreaker$Galley" ({ cls := "LineBreaker$Galley", name := "isPlace", desc := "(IZ)Z" } : Jvm.MethodName) ({ cls := "LineBreaker$Galley", name := "isPlace", desc := "(IZ)Z" } : Jvm.MethodName)) ∈ gw := gw_t (List.mem_of_getElem? (i := 732) (by decide +kernel)) (by decide +kernel)
theorem kw_726 : (Jvm.Cond.code ({ cls := "LineBreaker$Offers", name := "start", desc := "()V" } : Jvm.MethodName) prog_6_method_2_code (1 : Nat) (Option.none : Option Jvm.ClassFile.FieldType)) ∈ gw := gw_t (List.mem_of_getElem? (i := 726) (by decide +kernel)) (by decide +kernel)
theorem kw_723 : (Jvm.Cond.methodLink "LineBreaker$Search" (65 : Nat) ({ cls := "LineBreaker$Offers", name := "start", desc := "()V" } : Jvm.MethodName)) ∈ gw := gw_t (List.mem_of_getElem? (i := 723) (by decide +kernel)) (by decide +kernel)
theorem kw_724 : (Jvm.Cond.instanceMethod ({ cls := "LineBreaker$Offers", name := "start", desc := "()V" } : Jvm.MethodName)) ∈ gw := gw_t (List.mem_of_getElem? (i := 724) (by decide +kernel)) (by decide +kernel)
theorem kw_725 : (Jvm.Cond.selects "LineBreaker$Offers" ({ cls := "LineBreaker$Offers", name := "start", desc := "()V" } : Jvm.MethodName) ({ cls := "LineBreaker$Offers", name := "start", desc := "()V" } : Jvm.MethodName)) ∈ gw := gw_t (List.mem_of_getElem? (i := 725) (by decide +kernel)) (by decide +kernel)
theorem kw_722 : (Jvm.Cond.code ({ cls := "LineBreaker$Nodes", name := "start", desc := "()V" } : Jvm.MethodName) prog_5_method_2_code (1 : Nat) (Option.none : Option Jvm.ClassFile.FieldType)) ∈ gw := gw_t (List.mem_of_getElem? (i := 722) (by decide +kernel)) (by decide +kernel)
theorem kw_719 : (Jvm.Cond.methodLink "LineBreaker$Search" (63 : Nat) ({ cls := "LineBreaker$Nodes", name := "start", desc := "()V" } : Jvm.MethodName)) ∈ gw := gw_t (List.mem_of_getElem? (i := 719) (by decide +kernel)) (by decide +kernel)
theorem kw_720 : (Jvm.Cond.instanceMethod ({ cls := "LineBreaker$Nodes", name := "start", desc := "()V" } : Jvm.MethodName)) ∈ gw := gw_t (List.mem_of_getElem? (i := 720) (by decide +kernel)) (by decide +kernel)
theorem kw_721 : (Jvm.Cond.selects "LineBreaker$Nodes" ({ cls := "LineBreaker$Nodes", name := "start", desc := "()V" } : Jvm.MethodName) ({ cls := "LineBreaker$Nodes", name := "start", desc := "()V" } : Jvm.MethodName)) ∈ gw := gw_t (List.mem_of_getElem? (i := 721) (by decide +kernel)) (by decide +kernel)
theorem kw_718 : (Jvm.Cond.code ({ cls := "LineBreaker$Gauge", name := "start", desc := "(I)V" } : Jvm.MethodName) prog_3_method_2_code (2 : Nat) (Option.none : Option Jvm.ClassFile.FieldType)) ∈ gw := gw_t (List.mem_of_getElem? (i := 718) (by decide +kernel)) (by decide +kernel)
theorem kw_715 : (Jvm.Cond.methodLink "LineBreaker$Search" (59 : Nat) ({ cls := "LineBreaker$Gauge", name := "start", desc := "(I)V" } : Jvm.MethodName)) ∈ gw := gw_t (List.mem_of_getElem? (i := 715) (by decide +kernel)) (by decide +kernel)
theorem kw_716 : (Jvm.Cond.instanceMethod ({ cls := "LineBreaker$Gauge", name := "start", desc := "(I)V" } : Jvm.MethodName)) ∈ gw := gw_t (List.mem_of_getElem? (i := 716) (by decide +kernel)) (by decide +kernel)
theorem kw_717 : (Jvm.Cond.selects "LineBreaker$Gauge" ({ cls := "LineBreaker$Gauge", name := "start", desc := "(I)V" } : Jvm.MethodName) ({ cls := "LineBreaker$Gauge", name := "start", desc := "(I)V" } : Jvm.MethodName)) ∈ gw := gw_t (List.mem_of_getElem? (i := 717) (by decide +kernel)) (by decide +kernel)
theorem d_Gu_start_0 : decode prog_3_method_2_code 0 = .ok (.aload_n 0, 1) := by decide +kernel
theorem d_Gu_start_1 : decode prog_3_method_2_code 1 = .ok (.iload_n 1, 1) := by decide +kernel
theorem d_Gu_start_5 : decode prog_3_method_2_code 5 = .ok (.aload_n 0, 1) := by decide +kernel
theorem d_Gu_start_10 : decode prog_3_method_2_code 10 = .ok (.return_, 1) := by decide +kernel
theorem d_Gu_start_7 : decode prog_3_method_2_code 7 = .ok (.putfield 23, 3) := by decide +kernel
theorem d_Gu_start_6 : decode prog_3_method_2_code 6 = .ok (.iconst (-1), 1) := by decide +kernel
theorem d_Gu_start_2 : decode prog_3_method_2_code 2 = .ok (.putfield 19, 3) := by decide +kernel
theorem d_No_start_0 : decode prog_5_method_2_code 0 = .ok (.aload_n 0, 1) := by decide +kernel
theorem d_No_start_7 : decode prog_5_method_2_code 7 = .ok (.aload_n 0, 1) := by decide +kernel
theorem d_No_start_14 : decode prog_5_method_2_code 14 = .ok (.aload_n 0, 1) := by decide +kernel
theorem d_No_start_21 : decode prog_5_method_2_code 21 = .ok (.aload_n 0, 1) := by decide +kernel
theorem d_No_start_28 : decode prog_5_method_2_code 28 = .ok (.aload_n 0, 1) := by decide +kernel
theorem d_No_start_35 : decode prog_5_method_2_code 35 = .ok (.aload_n 0, 1) := by decide +kernel
theorem d_No_start_40 : decode prog_5_method_2_code 40 = .ok (.return_, 1) := by decide +kernel
theorem d_No_start_37 : decode prog_5_method_2_code 37 = .ok (.putfield 28, 3) := by decide +kernel
theorem d_No_start_36 : decode prog_5_method_2_code 36 = .ok (.iconst 1, 1) := by decide +kernel
theorem d_No_start_34 : decode prog_5_method_2_code 34 = .ok (.lastore, 1) := by decide +kernel
theorem d_No_start_33 : decode prog_5_method_2_code 33 = .ok (.lconst 0, 1) := by decide +kernel
theorem d_No_start_32 : decode prog_5_method_2_code 32 = .ok (.iconst 0, 1) := by decide +kernel
theorem d_No_start_29 : decode prog_5_method_2_code 29 = .ok (.getfield 24, 3) := by decide +kernel
theorem d_No_start_27 : decode prog_5_method_2_code 27 = .ok (.iastore, 1) := by decide +kernel
theorem d_No_start_26 : decode prog_5_method_2_code 26 = .ok (.iconst 0, 1) := by decide +kernel
theorem d_No_start_25 : decode prog_5_method_2_code 25 = .ok (.iconst 0, 1) := by decide +kernel
theorem d_No_start_22 : decode prog_5_method_2_code 22 = .ok (.getfield 21, 3) := by decide +kernel
theorem d_No_start_20 : decode prog_5_method_2_code 20 = .ok (.iastore, 1) := by decide +kernel
theorem d_No_start_19 : decode prog_5_method_2_code 19 = .ok (.iconst 2, 1) := by decide +kernel
theorem d_No_start_18 : decode prog_5_method_2_code 18 = .ok (.iconst 0, 1) := by decide +kernel
theorem d_No_start_15 : decode prog_5_method_2_code 15 = .ok (.getfield 18, 3) := by decide +kernel
theorem d_No_start_13 : decode prog_5_method_2_code 13 = .ok (.iastore, 1) := by decide +kernel
theorem d_No_start_12 : decode prog_5_method_2_code 12 = .ok (.iconst 0, 1) := by decide +kernel
theorem d_No_start_11 : decode prog_5_method_2_code 11 = .ok (.iconst 0, 1) := by decide +kernel
theorem d_No_start_8 : decode prog_5_method_2_code 8 = .ok (.getfield 15, 3) := by decide +kernel
theorem d_No_start_6 : decode prog_5_method_2_code 6 = .ok (.iastore, 1) := by decide +kernel
theorem d_No_start_5 : decode prog_5_method_2_code 5 = .ok (.iconst (-1), 1) := by decide +kernel
theorem d_No_start_4 : decode prog_5_method_2_code 4 = .ok (.iconst 0, 1) := by decide +kernel
theorem d_No_start_1 : decode prog_5_method_2_code 1 = .ok (.getfield 9, 3) := by decide +kernel
theorem d_Ar_fill_5 : decode prog_22_method_103_code 5 = .ok (.iload_n 2, 1) := by decide +kernel
theorem d_Ar_fill_6 : decode prog_22_method_103_code 6 = .ok (.iload_n 3, 1) := by decide +kernel
theorem d_Ar_fill_20 : decode prog_22_method_103_code 20 = .ok (.return_, 1) := by decide +kernel
theorem d_Ar_fill_10 : decode prog_22_method_103_code 10 = .ok (.aload_n 0, 1) := by decide +kernel
theorem d_Ar_fill_11 : decode prog_22_method_103_code 11 = .ok (.iload_n 2, 1) := by decide +kernel
theorem d_Ar_fill_12 : decode prog_22_method_103_code 12 = .ok (.iload_n 1, 1) := by decide +kernel
theorem d_Ar_fill_17 : decode prog_22_method_103_code 17 = .ok (.goto (-12), 3) := by decide +kernel
theorem d_Ar_fill_14 : decode prog_22_method_103_code 14 = .ok (.iinc 2 1, 3) := by decide +kernel
theorem d_Ar_fill_13 : decode prog_22_method_103_code 13 = .ok (.iastore, 1) := by decide +kernel
theorem d_Ar_fill_7 : decode prog_22_method_103_code 7 = .ok (.if_icmp .ge 13, 3) := by decide +kernel
theorem d_Ar_fill_1 : decode prog_22_method_103_code 1 = .ok (.istore_n 2, 1) := by decide +kernel
theorem d_Ar_fill_2 : decode prog_22_method_103_code 2 = .ok (.aload_n 0, 1) := by decide +kernel
theorem d_Ar_fill_4 : decode prog_22_method_103_code 4 = .ok (.istore_n 3, 1) := by decide +kernel
theorem d_Ar_fill_3 : decode prog_22_method_103_code 3 = .ok (.arraylength, 1) := by decide +kernel
theorem d_Ar_fill_0 : decode prog_22_method_103_code 0 = .ok (.iconst 0, 1) := by decide +kernel
theorem d_Of_start_0 : decode prog_6_method_2_code 0 = .ok (.aload_n 0, 1) := by decide +kernel
theorem d_Of_start_8 : decode prog_6_method_2_code 8 = .ok (.aload_n 0, 1) := by decide +kernel
theorem d_Of_start_15 : decode prog_6_method_2_code 15 = .ok (.aload_n 0, 1) := by decide +kernel
theorem d_Of_start_20 : decode prog_6_method_2_code 20 = .ok (.return_, 1) := by decide +kernel
theorem d_Of_start_17 : decode prog_6_method_2_code 17 = .ok (.putfield 29, 3) := by decide +kernel
theorem d_Of_start_16 : decode prog_6_method_2_code 16 = .ok (.iconst 0, 1) := by decide +kernel
theorem d_Of_start_12 : decode prog_6_method_2_code 12 = .ok (.putfield 25, 3) := by decide +kernel
theorem d_Of_start_9 : decode prog_6_method_2_code 9 = .ok (.sipush 401, 3) := by decide +kernel
theorem d_Of_start_5 : decode prog_6_method_2_code 5 = .ok (.invokestatic 19, 3) := by decide +kernel
theorem d_Of_start_4 : decode prog_6_method_2_code 4 = .ok (.iconst (-1), 1) := by decide +kernel
theorem d_Of_start_1 : decode prog_6_method_2_code 1 = .ok (.getfield 15, 3) := by decide +kernel
theorem d_Ga_isPlace_0 : decode prog_2_method_3_code 0 = .ok (.aload_n 0, 1) := by decide +kernel
theorem d_Ga_isPlace_4 : decode prog_2_method_3_code 4 = .ok (.iload_n 1, 1) := by decide +kernel
theorem d_Ga_isPlace_28 : decode prog_2_method_3_code 28 = .ok (.ireturn, 1) := by decide +kernel
theorem d_Ga_isPlace_27 : decode prog_2_method_3_code 27 = .ok (.iconst 0, 1) := by decide +kernel
theorem d_Ga_isPlace_9 : decode prog_2_method_3_code 9 = .ok (.iload_n 2, 1) := by decide +kernel
theorem d_Ga_isPlace_24 : decode prog_2_method_3_code 24 = .ok (.goto 4, 3) := by decide +kernel
theorem d_Ga_isPlace_23 : decode prog_2_method_3_code 23 = .ok (.iconst 1, 1) := by decide +kernel
theorem d_Ga_isPlace_13 : decode prog_2_method_3_code 13 = .ok (.aload_n 0, 1) := by decide +kernel
theorem d_Ga_isPlace_17 : decode prog_2_method_3_code 17 = .ok (.iload_n 1, 1) := by decide +kernel
theorem d_Ga_isPlace_20 : decode prog_2_method_3_code 20 = .ok (.if_icmp .eq 7, 3) := by decide +kernel
theorem d_Ga_isPlace_19 : decode prog_2_method_3_code 19 = .ok (.iconst 5, 1) := by decide +kernel
theorem d_Ga_isPlace_18 : decode prog_2_method_3_code 18 = .ok (.iaload, 1) := by decide +kernel
theorem d_Ga_isPlace_14 : decode prog_2_method_3_code 14 = .ok (.getfield 9, 3) := by decide +kernel
theorem d_Ga_isPlace_10 : decode prog_2_method_3_code 10 = .ok (.ifCond .ne 13, 3) := by decide +kernel
theorem d_Ga_isPlace_6 : decode prog_2_method_3_code 6 = .ok (.ifCond .eq 21, 3) := by decide +kernel
theorem d_Ga_isPlace_5 : decode prog_2_method_3_code 5 = .ok (.baload, 1) := by decide +kernel
theorem d_Ga_isPlace_1 : decode prog_2_method_3_code 1 = .ok (.getfield 18, 3) := by decide +kernel
theorem d_Ga_isHyphen_0 : decode prog_2_method_4_code 0 = .ok (.iload_n 1, 1) := by decide +kernel
theorem d_Ga_isHyphen_20 : decode prog_2_method_4_code 20 = .ok (.ireturn, 1) := by decide +kernel
theorem d_Ga_isHyphen_19 : decode prog_2_method_4_code 19 = .ok (.iconst 0, 1) := by decide +kernel
theorem d_Ga_isHyphen_5 : decode prog_2_method_4_code 5 = .ok (.aload_n 0, 1) := by decide +kernel
theorem d_Ga_isHyphen_9 : decode prog_2_method_4_code 9 = .ok (.iload_n 1, 1) := by decide +kernel
theorem d_Ga_isHyphen_16 : decode prog_2_method_4_code 16 = .ok (.goto 4, 3) := by decide +kernel
theorem d_Ga_isHyphen_15 : decode prog_2_method_4_code 15 = .ok (.iconst 1, 1) := by decide +kernel
theorem d_Ga_isHyphen_12 : decode prog_2_method_4_code 12 = .ok (.if_icmp .ne 7, 3) := by decide +kernel
theorem d_Ga_isHyphen_11 : decode prog_2_method_4_code 11 = .ok (.iconst 5, 1) := by decide +kernel
theorem d_Ga_isHyphen_10 : decode prog_2_method_4_code 10 = .ok (.iaload, 1) := by decide +kernel
theorem d_Ga_isHyphen_6 : decode prog_2_method_4_code 6 = .ok (.getfield 9, 3) := by decide +kernel
theorem d_Ga_isHyphen_2 : decode prog_2_method_4_code 2 = .ok (.if_icmp .eq 17, 3) := by decide +kernel
theorem d_Ga_isHyphen_1 : decode prog_2_method_4_code 1 = .ok (.iconst (-1), 1) := by decide +kernel
theorem d_Se_demerits_164 : decode prog_9_method_7_code 164 = .ok (.aload_n 0, 1) := by decide +kernel
theorem d_Se_demerits_171 : decode prog_9_method_7_code 171 = .ok (.iload_n 1, 1) := by decide +kernel
theorem d_Se_demerits_173 : decode prog_9_method_7_code 173 = .ok (.aload_n 0, 1) := by decide +kernel
theorem d_Se_demerits_204 : decode prog_9_method_7_code 204 = .ok (.lload 5, 2) := by decide +kernel
theorem d_Se_demerits_206 : decode prog_9_method_7_code 206 = .ok (.lreturn, 1) := by decide +kernel
theorem d_Se_demerits_188 : decode prog_9_method_7_code 188 = .ok (.lload 5, 2) := by decide +kernel
theorem d_Se_demerits_190 : decode prog_9_method_7_code 190 = .ok (.aload_n 0, 1) := by decide +kernel
theorem d_Se_demerits_202 : decode prog_9_method_7_code 202 = .ok (.lstore 5, 2) := by decide +kernel
theorem d_Se_demerits_201 : decode prog_9_method_7_code 201 = .ok (.ladd, 1) := by decide +kernel
theorem d_Se_demerits_200 : decode prog_9_method_7_code 200 = .ok (.i2l, 1) := by decide +kernel
theorem d_Se_demerits_199 : decode prog_9_method_7_code 199 = .ok (.iaload, 1) := by decide +kernel
theorem d_Se_demerits_197 : decode prog_9_method_7_code 197 = .ok (.bipush 7, 2) := by decide +kernel
theorem d_Se_demerits_194 : decode prog_9_method_7_code 194 = .ok (.getfield 46, 3) := by decide +kernel
theorem d_Se_demerits_191 : decode prog_9_method_7_code 191 = .ok (.getfield 15, 3) := by decide +kernel
theorem d_Se_demerits_185 : decode prog_9_method_7_code 185 = .ok (.if_icmp .le 19, 3) := by decide +kernel
theorem d_Se_demerits_184 : decode prog_9_method_7_code 184 = .ok (.iconst 1, 1) := by decide +kernel
theorem d_Se_demerits_181 : decode prog_9_method_7_code 181 = .ok (.invokestatic 153, 3) := by decide +kernel
theorem d_Se_demerits_180 : decode prog_9_method_7_code 180 = .ok (.isub, 1) := by decide +kernel
theorem d_Se_demerits_177 : decode prog_9_method_7_code 177 = .ok (.getfield 125, 3) := by decide +kernel
theorem d_Se_demerits_174 : decode prog_9_method_7_code 174 = .ok (.getfield 24, 3) := by decide +kernel
theorem d_Se_demerits_172 : decode prog_9_method_7_code 172 = .ok (.iaload, 1) := by decide +kernel
theorem d_Se_demerits_168 : decode prog_9_method_7_code 168 = .ok (.getfield 151, 3) := by decide +kernel
theorem d_Se_demerits_165 : decode prog_9_method_7_code 165 = .ok (.getfield 31, 3) := by decide +kernel
theorem d_Se_demerits_89 : decode prog_9_method_7_code 89 = .ok (.aload_n 0, 1) := by decide +kernel
theorem d_Se_demerits_93 : decode prog_9_method_7_code 93 = .ok (.aload_n 0, 1) := by decide +kernel
theorem d_Se_demerits_100 : decode prog_9_method_7_code 100 = .ok (.iload_n 1, 1) := by decide +kernel
theorem d_Se_demerits_108 : decode prog_9_method_7_code 108 = .ok (.aload_n 0, 1) := by decide +kernel
theorem d_Se_demerits_112 : decode prog_9_method_7_code 112 = .ok (.iload_n 2, 1) := by decide +kernel
theorem d_Se_demerits_137 : decode prog_9_method_7_code 137 = .ok (.iload_n 2, 1) := by decide +kernel
theorem d_Se_demerits_138 : decode prog_9_method_7_code 138 = .ok (.aload_n 0, 1) := by decide +kernel
theorem d_Se_demerits_148 : decode prog_9_method_7_code 148 = .ok (.lload 5, 2) := by decide +kernel
theorem d_Se_demerits_150 : decode prog_9_method_7_code 150 = .ok (.aload_n 0, 1) := by decide +kernel
theorem d_Se_demerits_162 : decode prog_9_method_7_code 162 = .ok (.lstore 5, 2) := by decide +kernel
theorem d_Se_demerits_161 : decode prog_9_method_7_code 161 = .ok (.ladd, 1) := by decide +kernel
theorem d_Se_demerits_160 : decode prog_9_method_7_code 160 = .ok (.i2l, 1) := by decide +kernel
theorem d_Se_demerits_159 : decode prog_9_method_7_code 159 = .ok (.iaload, 1) := by decide +kernel
theorem d_Se_demerits_157 : decode prog_9_method_7_code 157 = .ok (.bipush 6, 2) := by decide +kernel
theorem d_Se_demerits_154 : decode prog_9_method_7_code 154 = .ok (.getfield 46, 3) := by decide +kernel
theorem d_Se_demerits_151 : decode prog_9_method_7_code 151 = .ok (.getfield 15, 3) := by decide +kernel
theorem d_Se_demerits_145 : decode prog_9_method_7_code 145 = .ok (.if_icmp .ne 19, 3) := by decide +kernel
theorem d_Se_demerits_142 : decode prog_9_method_7_code 142 = .ok (.getfield 69, 3) := by decide +kernel
theorem d_Se_demerits_139 : decode prog_9_method_7_code 139 = .ok (.getfield 9, 3) := by decide +kernel
theorem d_Se_demerits_119 : decode prog_9_method_7_code 119 = .ok (.lload 5, 2) := by decide +kernel
theorem d_Se_demerits_121 : decode prog_9_method_7_code 121 = .ok (.aload_n 0, 1) := by decide +kernel
theorem d_Se_demerits_132 : decode prog_9_method_7_code 132 = .ok (.lstore 5, 2) := by decide +kernel
theorem d_Se_demerits_134 : decode prog_9_method_7_code 134 = .ok (.goto 30, 3) := by decide +kernel
theorem d_Se_demerits_131 : decode prog_9_method_7_code 131 = .ok (.ladd, 1) := by decide +kernel
theorem d_Se_demerits_130 : decode prog_9_method_7_code 130 = .ok (.i2l, 1) := by decide +kernel
theorem d_Se_demerits_129 : decode prog_9_method_7_code 129 = .ok (.iaload, 1) := by decide +kernel
theorem d_Se_demerits_128 : decode prog_9_method_7_code 128 = .ok (.iconst 5, 1) := by decide +kernel
theorem d_Se_demerits_125 : decode prog_9_method_7_code 125 = .ok (.getfield 46, 3) := by decide +kernel
theorem d_Se_demerits_122 : decode prog_9_method_7_code 122 = .ok (.getfield 15, 3) := by decide +kernel
theorem d_Se_demerits_116 : decode prog_9_method_7_code 116 = .ok (.ifCond .eq 21, 3) := by decide +kernel
theorem d_Se_demerits_113 : decode prog_9_method_7_code 113 = .ok (.invokevirtual 148, 3) := by decide +kernel
theorem d_Se_demerits_109 : decode prog_9_method_7_code 109 = .ok (.getfield 9, 3) := by decide +kernel
theorem d_Se_demerits_105 : decode prog_9_method_7_code 105 = .ok (.ifCond .eq 59, 3) := by decide +kernel
theorem d_Se_demerits_102 : decode prog_9_method_7_code 102 = .ok (.invokevirtual 148, 3) := by decide +kernel
theorem d_Se_demerits_101 : decode prog_9_method_7_code 101 = .ok (.iaload, 1) := by decide +kernel
theorem d_Se_demerits_97 : decode prog_9_method_7_code 97 = .ok (.getfield 118, 3) := by decide +kernel
theorem d_Se_demerits_94 : decode prog_9_method_7_code 94 = .ok (.getfield 31, 3) := by decide +kernel
theorem d_Se_demerits_90 : decode prog_9_method_7_code 90 = .ok (.getfield 9, 3) := by decide +kernel
theorem d_Se_demerits_36 : decode prog_9_method_7_code 36 = .ok (.lstore 5, 2) := by decide +kernel
theorem d_Se_demerits_38 : decode prog_9_method_7_code 38 = .ok (.aload_n 0, 1) := by decide +kernel
theorem d_Se_demerits_45 : decode prog_9_method_7_code 45 = .ok (.iload_n 2, 1) := by decide +kernel
theorem d_Se_demerits_48 : decode prog_9_method_7_code 48 = .ok (.lstore 7, 2) := by decide +kernel
theorem d_Se_demerits_50 : decode prog_9_method_7_code 50 = .ok (.lload 7, 2) := by decide +kernel
theorem d_Se_demerits_70 : decode prog_9_method_7_code 70 = .ok (.lload 7, 2) := by decide +kernel
theorem d_Se_demerits_79 : decode prog_9_method_7_code 79 = .ok (.lload 5, 2) := by decide +kernel
theorem d_Se_demerits_81 : decode prog_9_method_7_code 81 = .ok (.lload 7, 2) := by decide +kernel
theorem d_Se_demerits_83 : decode prog_9_method_7_code 83 = .ok (.lload 7, 2) := by decide +kernel
theorem d_Se_demerits_87 : decode prog_9_method_7_code 87 = .ok (.lstore 5, 2) := by decide +kernel
theorem d_Se_demerits_86 : decode prog_9_method_7_code 86 = .ok (.lsub, 1) := by decide +kernel
theorem d_Se_demerits_85 : decode prog_9_method_7_code 85 = .ok (.lmul, 1) := by decide +kernel
theorem d_Se_demerits_76 : decode prog_9_method_7_code 76 = .ok (.ifCond .eq 13, 3) := by decide +kernel
theorem d_Se_demerits_75 : decode prog_9_method_7_code 75 = .ok (.lcmp, 1) := by decide +kernel
theorem d_Se_demerits_72 : decode prog_9_method_7_code 72 = .ok (.ldc2_w 146, 3) := by decide +kernel
theorem d_Se_demerits_57 : decode prog_9_method_7_code 57 = .ok (.lload 5, 2) := by decide +kernel
theorem d_Se_demerits_59 : decode prog_9_method_7_code 59 = .ok (.lload 7, 2) := by decide +kernel
theorem d_Se_demerits_61 : decode prog_9_method_7_code 61 = .ok (.lload 7, 2) := by decide +kernel
theorem d_Se_demerits_65 : decode prog_9_method_7_code 65 = .ok (.lstore 5, 2) := by decide +kernel
theorem d_Se_demerits_67 : decode prog_9_method_7_code 67 = .ok (.goto 22, 3) := by decide +kernel
theorem d_Se_demerits_64 : decode prog_9_method_7_code 64 = .ok (.ladd, 1) := by decide +kernel
theorem d_Se_demerits_63 : decode prog_9_method_7_code 63 = .ok (.lmul, 1) := by decide +kernel
theorem d_Se_demerits_54 : decode prog_9_method_7_code 54 = .ok (.ifCond .le 16, 3) := by decide +kernel
theorem d_Se_demerits_53 : decode prog_9_method_7_code 53 = .ok (.lcmp, 1) := by decide +kernel
theorem d_Se_demerits_52 : decode prog_9_method_7_code 52 = .ok (.lconst 0, 1) := by decide +kernel
theorem d_Se_demerits_47 : decode prog_9_method_7_code 47 = .ok (.i2l, 1) := by decide +kernel
theorem d_Se_demerits_46 : decode prog_9_method_7_code 46 = .ok (.iaload, 1) := by decide +kernel
theorem d_Se_demerits_42 : decode prog_9_method_7_code 42 = .ok (.getfield 86, 3) := by decide +kernel
theorem d_Se_demerits_39 : decode prog_9_method_7_code 39 = .ok (.getfield 9, 3) := by decide +kernel
theorem d_Se_demerits_0 : decode prog_9_method_7_code 0 = .ok (.aload_n 0, 1) := by decide +kernel
theorem d_Se_demerits_9 : decode prog_9_method_7_code 9 = .ok (.aload_n 0, 1) := by decide +kernel
theorem d_Se_demerits_18 : decode prog_9_method_7_code 18 = .ok (.lstore_n 3, 1) := by decide +kernel
theorem d_Se_demerits_19 : decode prog_9_method_7_code 19 = .ok (.lload_n 3, 1) := by decide +kernel
theorem d_Se_demerits_33 : decode prog_9_method_7_code 33 = .ok (.lload_n 3, 1) := by decide +kernel
theorem d_Se_demerits_34 : decode prog_9_method_7_code 34 = .ok (.lload_n 3, 1) := by decide +kernel
theorem d_Se_demerits_35 : decode prog_9_method_7_code 35 = .ok (.lmul, 1) := by decide +kernel
theorem d_Se_demerits_30 : decode prog_9_method_7_code 30 = .ok (.goto 6, 3) := by decide +kernel
theorem d_Se_demerits_27 : decode prog_9_method_7_code 27 = .ok (.ldc2_w 144, 3) := by decide +kernel
theorem d_Se_demerits_24 : decode prog_9_method_7_code 24 = .ok (.ifCond .lt 9, 3) := by decide +kernel
theorem d_Se_demerits_23 : decode prog_9_method_7_code 23 = .ok (.lcmp, 1) := by decide +kernel
theorem d_Se_demerits_20 : decode prog_9_method_7_code 20 = .ok (.ldc2_w 142, 3) := by decide +kernel
theorem d_Se_demerits_17 : decode prog_9_method_7_code 17 = .ok (.i2l, 1) := by decide +kernel
theorem d_Se_demerits_16 : decode prog_9_method_7_code 16 = .ok (.iadd, 1) := by decide +kernel
theorem d_Se_demerits_13 : decode prog_9_method_7_code 13 = .ok (.getfield 93, 3) := by decide +kernel
theorem d_Se_demerits_10 : decode prog_9_method_7_code 10 = .ok (.getfield 24, 3) := by decide +kernel
theorem d_Se_demerits_8 : decode prog_9_method_7_code 8 = .ok (.iaload, 1) := by decide +kernel
theorem d_Se_demerits_7 : decode prog_9_method_7_code 7 = .ok (.iconst 2, 1) := by decide +kernel
theorem d_Se_demerits_4 : decode prog_9_method_7_code 4 = .ok (.getfield 46, 3) := by decide +kernel
theorem d_Se_demerits_1 : decode prog_9_method_7_code 1 = .ok (.getfield 15, 3) := by decide +kernel
theorem d_Of_take_48 : decode prog_6_method_4_code 48 = .ok (.aload_n 0, 1) := by decide +kernel
theorem d_Of_take_49 : decode prog_6_method_4_code 49 = .ok (.aload_n 0, 1) := by decide +kernel
theorem d_Of_take_53 : decode prog_6_method_4_code 53 = .ok (.iload_n 2, 1) := by decide +kernel
theorem d_Of_take_60 : decode prog_6_method_4_code 60 = .ok (.aload_n 0, 1) := by decide +kernel
theorem d_Of_take_61 : decode prog_6_method_4_code 61 = .ok (.aload_n 0, 1) := by decide +kernel
theorem d_Of_take_65 : decode prog_6_method_4_code 65 = .ok (.iload_n 2, 1) := by decide +kernel
theorem d_Of_take_72 : decode prog_6_method_4_code 72 = .ok (.return_, 1) := by decide +kernel
theorem d_Of_take_69 : decode prog_6_method_4_code 69 = .ok (.putfield 29, 3) := by decide +kernel
theorem d_Of_take_66 : decode prog_6_method_4_code 66 = .ok (.invokestatic 38, 3) := by decide +kernel
theorem d_Of_take_62 : decode prog_6_method_4_code 62 = .ok (.getfield 29, 3) := by decide +kernel
theorem d_Of_take_57 : decode prog_6_method_4_code 57 = .ok (.putfield 25, 3) := by decide +kernel
theorem d_Of_take_54 : decode prog_6_method_4_code 54 = .ok (.invokestatic 32, 3) := by decide +kernel
theorem d_Of_take_50 : decode prog_6_method_4_code 50 = .ok (.getfield 25, 3) := by decide +kernel
theorem d_Of_take_31 : decode prog_6_method_4_code 31 = .ok (.aload_n 0, 1) := by decide +kernel
theorem d_Of_take_35 : decode prog_6_method_4_code 35 = .ok (.iload 6, 2) := by decide +kernel
theorem d_Of_take_37 : decode prog_6_method_4_code 37 = .ok (.iload_n 1, 1) := by decide +kernel
theorem d_Of_take_39 : decode prog_6_method_4_code 39 = .ok (.aload_n 0, 1) := by decide +kernel
theorem d_Of_take_43 : decode prog_6_method_4_code 43 = .ok (.iload 6, 2) := by decide +kernel
theorem d_Of_take_45 : decode prog_6_method_4_code 45 = .ok (.lload 4, 2) := by decide +kernel
theorem d_Of_take_47 : decode prog_6_method_4_code 47 = .ok (.lastore, 1) := by decide +kernel
theorem d_Of_take_40 : decode prog_6_method_4_code 40 = .ok (.getfield 9, 3) := by decide +kernel
theorem d_Of_take_38 : decode prog_6_method_4_code 38 = .ok (.iastore, 1) := by decide +kernel
theorem d_Of_take_32 : decode prog_6_method_4_code 32 = .ok (.getfield 15, 3) := by decide +kernel
theorem d_Of_take_0 : decode prog_6_method_4_code 0 = .ok (.iload_n 2, 1) := by decide +kernel
theorem d_Of_take_3 : decode prog_6_method_4_code 3 = .ok (.iload_n 3, 1) := by decide +kernel
theorem d_Of_take_5 : decode prog_6_method_4_code 5 = .ok (.istore 6, 2) := by decide +kernel
theorem d_Of_take_7 : decode prog_6_method_4_code 7 = .ok (.aload_n 0, 1) := by decide +kernel
theorem d_Of_take_11 : decode prog_6_method_4_code 11 = .ok (.iload 6, 2) := by decide +kernel
theorem d_Of_take_18 : decode prog_6_method_4_code 18 = .ok (.lload 4, 2) := by decide +kernel
theorem d_Of_take_20 : decode prog_6_method_4_code 20 = .ok (.aload_n 0, 1) := by decide +kernel
theorem d_Of_take_24 : decode prog_6_method_4_code 24 = .ok (.iload 6, 2) := by decide +kernel
theorem d_Of_take_28 : decode prog_6_method_4_code 28 = .ok (.ifCond .ge 20, 3) := by decide +kernel
theorem d_Of_take_27 : decode prog_6_method_4_code 27 = .ok (.lcmp, 1) := by decide +kernel
theorem d_Of_take_26 : decode prog_6_method_4_code 26 = .ok (.laload, 1) := by decide +kernel
theorem d_Of_take_21 : decode prog_6_method_4_code 21 = .ok (.getfield 9, 3) := by decide +kernel
theorem d_Of_take_15 : decode prog_6_method_4_code 15 = .ok (.if_icmp .eq 16, 3) := by decide +kernel
theorem d_Of_take_14 : decode prog_6_method_4_code 14 = .ok (.iconst (-1), 1) := by decide +kernel
theorem d_Of_take_13 : decode prog_6_method_4_code 13 = .ok (.iaload, 1) := by decide +kernel
theorem d_Of_take_8 : decode prog_6_method_4_code 8 = .ok (.getfield 15, 3) := by decide +kernel
theorem d_Of_take_4 : decode prog_6_method_4_code 4 = .ok (.iadd, 1) := by decide +kernel
theorem d_Of_take_2 : decode prog_6_method_4_code 2 = .ok (.imul, 1) := by decide +kernel
theorem d_Of_take_1 : decode prog_6_method_4_code 1 = .ok (.iconst 4, 1) := by decide +kernel
theorem d_Se_offerFrom_0 : decode prog_9_method_5_code 0 = .ok (.aload_n 0, 1) := by decide +kernel
theorem d_Se_offerFrom_4 : decode prog_9_method_5_code 4 = .ok (.iload_n 1, 1) := by decide +kernel
theorem d_Se_offerFrom_5 : decode prog_9_method_5_code 5 = .ok (.aload_n 0, 1) := by decide +kernel
theorem d_Se_offerFrom_12 : decode prog_9_method_5_code 12 = .ok (.iload_n 1, 1) := by decide +kernel
theorem d_Se_offerFrom_16 : decode prog_9_method_5_code 16 = .ok (.aload_n 0, 1) := by decide +kernel
theorem d_Se_offerFrom_23 : decode prog_9_method_5_code 23 = .ok (.lload_n 2, 1) := by decide +kernel
theorem d_Se_offerFrom_27 : decode prog_9_method_5_code 27 = .ok (.return_, 1) := by decide +kernel
theorem d_Se_offerFrom_24 : decode prog_9_method_5_code 24 = .ok (.invokevirtual 128, 3) := by decide +kernel
theorem d_Se_offerFrom_20 : decode prog_9_method_5_code 20 = .ok (.getfield 125, 3) := by decide +kernel
theorem d_Se_offerFrom_17 : decode prog_9_method_5_code 17 = .ok (.getfield 24, 3) := by decide +kernel
theorem d_Se_offerFrom_15 : decode prog_9_method_5_code 15 = .ok (.iadd, 1) := by decide +kernel
theorem d_Se_offerFrom_14 : decode prog_9_method_5_code 14 = .ok (.iconst 1, 1) := by decide +kernel
theorem d_Se_offerFrom_13 : decode prog_9_method_5_code 13 = .ok (.iaload, 1) := by decide +kernel
theorem d_Se_offerFrom_9 : decode prog_9_method_5_code 9 = .ok (.getfield 108, 3) := by decide +kernel
theorem d_Se_offerFrom_6 : decode prog_9_method_5_code 6 = .ok (.getfield 31, 3) := by decide +kernel
theorem d_Se_offerFrom_1 : decode prog_9_method_5_code 1 = .ok (.getfield 38, 3) := by decide +kernel
theorem d_Of_isEmpty_0 : decode prog_6_method_3_code 0 = .ok (.aload_n 0, 1) := by decide +kernel
theorem d_Of_isEmpty_4 : decode prog_6_method_3_code 4 = .ok (.aload_n 0, 1) := by decide +kernel
theorem d_Of_isEmpty_16 : decode prog_6_method_3_code 16 = .ok (.ireturn, 1) := by decide +kernel
theorem d_Of_isEmpty_15 : decode prog_6_method_3_code 15 = .ok (.iconst 0, 1) := by decide +kernel
theorem d_Of_isEmpty_12 : decode prog_6_method_3_code 12 = .ok (.goto 4, 3) := by decide +kernel
theorem d_Of_isEmpty_11 : decode prog_6_method_3_code 11 = .ok (.iconst 1, 1) := by decide +kernel
theorem d_Of_isEmpty_8 : decode prog_6_method_3_code 8 = .ok (.if_icmp .ge 7, 3) := by decide +kernel
theorem d_Of_isEmpty_5 : decode prog_6_method_3_code 5 = .ok (.getfield 25, 3) := by decide +kernel
theorem d_Of_isEmpty_1 : decode prog_6_method_3_code 1 = .ok (.getfield 29, 3) := by decide +kernel
theorem d_No_isFull_0 : decode prog_5_method_3_code 0 = .ok (.aload_n 0, 1) := by decide +kernel
theorem d_No_isFull_15 : decode prog_5_method_3_code 15 = .ok (.ireturn, 1) := by decide +kernel
theorem d_No_isFull_14 : decode prog_5_method_3_code 14 = .ok (.iconst 0, 1) := by decide +kernel
theorem d_No_isFull_11 : decode prog_5_method_3_code 11 = .ok (.goto 4, 3) := by decide +kernel
theorem d_No_isFull_10 : decode prog_5_method_3_code 10 = .ok (.iconst 1, 1) := by decide +kernel
theorem d_No_isFull_7 : decode prog_5_method_3_code 7 = .ok (.if_icmp .le 7, 3) := by decide +kernel
theorem d_No_isFull_4 : decode prog_5_method_3_code 4 = .ok (.sipush 8000, 3) := by decide +kernel
theorem d_No_isFull_1 : decode prog_5_method_3_code 1 = .ok (.getfield 28, 3) := by decide +kernel
theorem d_Of_turnInto_16 : decode prog_6_method_5_code 16 = .ok (.iload 4, 2) := by decide +kernel
theorem d_Of_turnInto_136 : decode prog_6_method_5_code 136 = .ok (.goto (-131), 3) := by decide +kernel
theorem d_Of_turnInto_133 : decode prog_6_method_5_code 133 = .ok (.iinc 3 1, 3) := by decide +kernel
theorem d_Of_turnInto_21 : decode prog_6_method_5_code 21 = .ok (.iload_n 3, 1) := by decide +kernel
theorem d_Of_turnInto_24 : decode prog_6_method_5_code 24 = .ok (.iload 4, 2) := by decide +kernel
theorem d_Of_turnInto_27 : decode prog_6_method_5_code 27 = .ok (.istore 5, 2) := by decide +kernel
theorem d_Of_turnInto_29 : decode prog_6_method_5_code 29 = .ok (.aload_n 0, 1) := by decide +kernel
theorem d_Of_turnInto_33 : decode prog_6_method_5_code 33 = .ok (.iload 5, 2) := by decide +kernel
theorem d_Of_turnInto_43 : decode prog_6_method_5_code 43 = .ok (.aload_n 1, 1) := by decide +kernel
theorem d_Of_turnInto_52 : decode prog_6_method_5_code 52 = .ok (.aload_n 1, 1) := by decide +kernel
theorem d_Of_turnInto_56 : decode prog_6_method_5_code 56 = .ok (.istore 6, 2) := by decide +kernel
theorem d_Of_turnInto_58 : decode prog_6_method_5_code 58 = .ok (.aload_n 1, 1) := by decide +kernel
theorem d_Of_turnInto_62 : decode prog_6_method_5_code 62 = .ok (.iload 6, 2) := by decide +kernel
theorem d_Of_turnInto_64 : decode prog_6_method_5_code 64 = .ok (.iload_n 2, 1) := by decide +kernel
theorem d_Of_turnInto_66 : decode prog_6_method_5_code 66 = .ok (.aload_n 1, 1) := by decide +kernel
theorem d_Of_turnInto_70 : decode prog_6_method_5_code 70 = .ok (.iload 6, 2) := by decide +kernel
theorem d_Of_turnInto_72 : decode prog_6_method_5_code 72 = .ok (.iload_n 3, 1) := by decide +kernel
theorem d_Of_turnInto_74 : decode prog_6_method_5_code 74 = .ok (.aload_n 1, 1) := by decide +kernel
theorem d_Of_turnInto_78 : decode prog_6_method_5_code 78 = .ok (.iload 6, 2) := by decide +kernel
theorem d_Of_turnInto_80 : decode prog_6_method_5_code 80 = .ok (.iload 4, 2) := by decide +kernel
theorem d_Of_turnInto_83 : decode prog_6_method_5_code 83 = .ok (.aload_n 1, 1) := by decide +kernel
theorem d_Of_turnInto_87 : decode prog_6_method_5_code 87 = .ok (.iload 6, 2) := by decide +kernel
theorem d_Of_turnInto_89 : decode prog_6_method_5_code 89 = .ok (.aload_n 0, 1) := by decide +kernel
theorem d_Of_turnInto_93 : decode prog_6_method_5_code 93 = .ok (.iload 5, 2) := by decide +kernel
theorem d_Of_turnInto_97 : decode prog_6_method_5_code 97 = .ok (.aload_n 1, 1) := by decide +kernel
theorem d_Of_turnInto_101 : decode prog_6_method_5_code 101 = .ok (.iload 6, 2) := by decide +kernel
theorem d_Of_turnInto_103 : decode prog_6_method_5_code 103 = .ok (.aload_n 0, 1) := by decide +kernel
theorem d_Of_turnInto_107 : decode prog_6_method_5_code 107 = .ok (.iload 5, 2) := by decide +kernel
theorem d_Of_turnInto_111 : decode prog_6_method_5_code 111 = .ok (.aload_n 1, 1) := by decide +kernel
theorem d_Of_turnInto_112 : decode prog_6_method_5_code 112 = .ok (.iload 6, 2) := by decide +kernel
theorem d_Of_turnInto_119 : decode prog_6_method_5_code 119 = .ok (.aload_n 0, 1) := by decide +kernel
theorem d_Of_turnInto_123 : decode prog_6_method_5_code 123 = .ok (.iload 5, 2) := by decide +kernel
theorem d_Of_turnInto_130 : decode prog_6_method_5_code 130 = .ok (.goto (-114), 3) := by decide +kernel
theorem d_Of_turnInto_127 : decode prog_6_method_5_code 127 = .ok (.iinc 4 (-1), 3) := by decide +kernel
theorem d_Of_turnInto_126 : decode prog_6_method_5_code 126 = .ok (.iastore, 1) := by decide +kernel
theorem d_Of_turnInto_125 : decode prog_6_method_5_code 125 = .ok (.iconst (-1), 1) := by decide +kernel
theorem d_Of_turnInto_120 : decode prog_6_method_5_code 120 = .ok (.getfield 15, 3) := by decide +kernel
theorem d_Of_turnInto_116 : decode prog_6_method_5_code 116 = .ok (.putfield 47, 3) := by decide +kernel
theorem d_Of_turnInto_115 : decode prog_6_method_5_code 115 = .ok (.iadd, 1) := by decide +kernel
theorem d_Of_turnInto_114 : decode prog_6_method_5_code 114 = .ok (.iconst 1, 1) := by decide +kernel
theorem d_Of_turnInto_110 : decode prog_6_method_5_code 110 = .ok (.lastore, 1) := by decide +kernel
theorem d_Of_turnInto_109 : decode prog_6_method_5_code 109 = .ok (.laload, 1) := by decide +kernel
theorem d_Of_turnInto_104 : decode prog_6_method_5_code 104 = .ok (.getfield 9, 3) := by decide +kernel
theorem d_Of_turnInto_98 : decode prog_6_method_5_code 98 = .ok (.getfield 60, 3) := by decide +kernel
theorem d_Of_turnInto_96 : decode prog_6_method_5_code 96 = .ok (.iastore, 1) := by decide +kernel
theorem d_Of_turnInto_95 : decode prog_6_method_5_code 95 = .ok (.iaload, 1) := by decide +kernel
theorem d_Of_turnInto_90 : decode prog_6_method_5_code 90 = .ok (.getfield 15, 3) := by decide +kernel
theorem d_Of_turnInto_84 : decode prog_6_method_5_code 84 = .ok (.getfield 59, 3) := by decide +kernel
theorem d_Of_turnInto_82 : decode prog_6_method_5_code 82 = .ok (.iastore, 1) := by decide +kernel
theorem d_Of_turnInto_75 : decode prog_6_method_5_code 75 = .ok (.getfield 56, 3) := by decide +kernel
theorem d_Of_turnInto_73 : decode prog_6_method_5_code 73 = .ok (.iastore, 1) := by decide +kernel
theorem d_Of_turnInto_67 : decode prog_6_method_5_code 67 = .ok (.getfield 53, 3) := by decide +kernel
theorem d_Of_turnInto_65 : decode prog_6_method_5_code 65 = .ok (.iastore, 1) := by decide +kernel
theorem d_Of_turnInto_59 : decode prog_6_method_5_code 59 = .ok (.getfield 50, 3) := by decide +kernel
theorem d_Of_turnInto_53 : decode prog_6_method_5_code 53 = .ok (.getfield 47, 3) := by decide +kernel
theorem d_Of_turnInto_51 : decode prog_6_method_5_code 51 = .ok (.ireturn, 1) := by decide +kernel
theorem d_Of_turnInto_50 : decode prog_6_method_5_code 50 = .ok (.iconst 0, 1) := by decide +kernel
theorem d_Of_turnInto_47 : decode prog_6_method_5_code 47 = .ok (.ifCond .eq 5, 3) := by decide +kernel
theorem d_Of_turnInto_44 : decode prog_6_method_5_code 44 = .ok (.invokevirtual 41, 3) := by decide +kernel
theorem d_Of_turnInto_40 : decode prog_6_method_5_code 40 = .ok (.goto 87, 3) := by decide +kernel
theorem d_Of_turnInto_37 : decode prog_6_method_5_code 37 = .ok (.if_icmp .ne 6, 3) := by decide +kernel
theorem d_Of_turnInto_36 : decode prog_6_method_5_code 36 = .ok (.iconst (-1), 1) := by decide +kernel
theorem d_Of_turnInto_35 : decode prog_6_method_5_code 35 = .ok (.iaload, 1) := by decide +kernel
theorem d_Of_turnInto_30 : decode prog_6_method_5_code 30 = .ok (.getfield 15, 3) := by decide +kernel
theorem d_Of_turnInto_26 : decode prog_6_method_5_code 26 = .ok (.iadd, 1) := by decide +kernel
theorem d_Of_turnInto_23 : decode prog_6_method_5_code 23 = .ok (.imul, 1) := by decide +kernel
theorem d_Of_turnInto_22 : decode prog_6_method_5_code 22 = .ok (.iconst 4, 1) := by decide +kernel
theorem d_Of_turnInto_18 : decode prog_6_method_5_code 18 = .ok (.ifCond .lt 115, 3) := by decide +kernel
theorem d_Of_turnInto_5 : decode prog_6_method_5_code 5 = .ok (.iload_n 3, 1) := by decide +kernel
theorem d_Of_turnInto_6 : decode prog_6_method_5_code 6 = .ok (.aload_n 0, 1) := by decide +kernel
theorem d_Of_turnInto_139 : decode prog_6_method_5_code 139 = .ok (.aload_n 0, 1) := by decide +kernel
theorem d_Of_turnInto_146 : decode prog_6_method_5_code 146 = .ok (.aload_n 0, 1) := by decide +kernel
theorem d_Of_turnInto_152 : decode prog_6_method_5_code 152 = .ok (.ireturn, 1) := by decide +kernel
theorem d_Of_turnInto_151 : decode prog_6_method_5_code 151 = .ok (.iconst 1, 1) := by decide +kernel
theorem d_Of_turnInto_148 : decode prog_6_method_5_code 148 = .ok (.putfield 29, 3) := by decide +kernel
theorem d_Of_turnInto_147 : decode prog_6_method_5_code 147 = .ok (.iconst 0, 1) := by decide +kernel
theorem d_Of_turnInto_143 : decode prog_6_method_5_code 143 = .ok (.putfield 25, 3) := by decide +kernel
theorem d_Of_turnInto_140 : decode prog_6_method_5_code 140 = .ok (.sipush 401, 3) := by decide +kernel
theorem d_Of_turnInto_14 : decode prog_6_method_5_code 14 = .ok (.istore 4, 2) := by decide +kernel
theorem d_Of_turnInto_13 : decode prog_6_method_5_code 13 = .ok (.iconst 3, 1) := by decide +kernel
theorem d_Of_turnInto_10 : decode prog_6_method_5_code 10 = .ok (.if_icmp .gt 129, 3) := by decide +kernel
theorem d_Of_turnInto_7 : decode prog_6_method_5_code 7 = .ok (.getfield 29, 3) := by decide +kernel
theorem d_Of_turnInto_0 : decode prog_6_method_5_code 0 = .ok (.aload_n 0, 1) := by decide +kernel
theorem d_Of_turnInto_4 : decode prog_6_method_5_code 4 = .ok (.istore_n 3, 1) := by decide +kernel
theorem d_Of_turnInto_1 : decode prog_6_method_5_code 1 = .ok (.getfield 25, 3) := by decide +kernel
theorem d_Se_settle_33 : decode prog_9_method_6_code 33 = .ok (.iload_n 2, 1) := by decide +kernel
theorem d_Se_settle_34 : decode prog_9_method_6_code 34 = .ok (.aload_n 0, 1) := by decide +kernel
theorem d_Se_settle_71 : decode prog_9_method_6_code 71 = .ok (.ireturn, 1) := by decide +kernel
theorem d_Se_settle_70 : decode prog_9_method_6_code 70 = .ok (.iconst 1, 1) := by decide +kernel
theorem d_Se_settle_44 : decode prog_9_method_6_code 44 = .ok (.aload_n 0, 1) := by decide +kernel
theorem d_Se_settle_48 : decode prog_9_method_6_code 48 = .ok (.aload_n 0, 1) := by decide +kernel
theorem d_Se_settle_52 : decode prog_9_method_6_code 52 = .ok (.iload_n 2, 1) := by decide +kernel
theorem d_Se_settle_54 : decode prog_9_method_6_code 54 = .ok (.aload_n 0, 1) := by decide +kernel
theorem d_Se_settle_67 : decode prog_9_method_6_code 67 = .ok (.goto (-34), 3) := by decide +kernel
theorem d_Se_settle_64 : decode prog_9_method_6_code 64 = .ok (.iinc 2 1, 3) := by decide +kernel
theorem d_Se_settle_61 : decode prog_9_method_6_code 61 = .ok (.putfield 66, 3) := by decide +kernel
theorem d_Se_settle_60 : decode prog_9_method_6_code 60 = .ok (.iadd, 1) := by decide +kernel
theorem d_Se_settle_59 : decode prog_9_method_6_code 59 = .ok (.iconst 1, 1) := by decide +kernel
theorem d_Se_settle_56 : decode prog_9_method_6_code 56 = .ok (.getfield 66, 3) := by decide +kernel
theorem d_Se_settle_55 : decode prog_9_method_6_code 55 = .ok (.dup, 1) := by decide +kernel
theorem d_Se_settle_53 : decode prog_9_method_6_code 53 = .ok (.iastore, 1) := by decide +kernel
theorem d_Se_settle_49 : decode prog_9_method_6_code 49 = .ok (.getfield 66, 3) := by decide +kernel
theorem d_Se_settle_45 : decode prog_9_method_6_code 45 = .ok (.getfield 42, 3) := by decide +kernel
theorem d_Se_settle_41 : decode prog_9_method_6_code 41 = .ok (.if_icmp .ge 29, 3) := by decide +kernel
theorem d_Se_settle_38 : decode prog_9_method_6_code 38 = .ok (.getfield 132, 3) := by decide +kernel
theorem d_Se_settle_35 : decode prog_9_method_6_code 35 = .ok (.getfield 31, 3) := by decide +kernel
theorem d_Se_settle_0 : decode prog_9_method_6_code 0 = .ok (.aload_n 0, 1) := by decide +kernel
theorem d_Se_settle_1 : decode prog_9_method_6_code 1 = .ok (.aload_n 0, 1) := by decide +kernel
theorem d_Se_settle_11 : decode prog_9_method_6_code 11 = .ok (.aload_n 0, 1) := by decide +kernel
theorem d_Se_settle_15 : decode prog_9_method_6_code 15 = .ok (.aload_n 0, 1) := by decide +kernel
theorem d_Se_settle_19 : decode prog_9_method_6_code 19 = .ok (.iload_n 1, 1) := by decide +kernel
theorem d_Se_settle_28 : decode prog_9_method_6_code 28 = .ok (.aload_n 0, 1) := by decide +kernel
theorem d_Se_settle_32 : decode prog_9_method_6_code 32 = .ok (.istore_n 2, 1) := by decide +kernel
theorem d_Se_settle_29 : decode prog_9_method_6_code 29 = .ok (.getfield 135, 3) := by decide +kernel
theorem d_Se_settle_27 : decode prog_9_method_6_code 27 = .ok (.ireturn, 1) := by decide +kernel
theorem d_Se_settle_26 : decode prog_9_method_6_code 26 = .ok (.iconst 0, 1) := by decide +kernel
theorem d_Se_settle_23 : decode prog_9_method_6_code 23 = .ok (.ifCond .ne 5, 3) := by decide +kernel
theorem d_Se_settle_20 : decode prog_9_method_6_code 20 = .ok (.invokevirtual 138, 3) := by decide +kernel
theorem d_Se_settle_16 : decode prog_9_method_6_code 16 = .ok (.getfield 31, 3) := by decide +kernel
theorem d_Se_settle_12 : decode prog_9_method_6_code 12 = .ok (.getfield 38, 3) := by decide +kernel
theorem d_Se_settle_8 : decode prog_9_method_6_code 8 = .ok (.putfield 135, 3) := by decide +kernel
theorem d_Se_settle_5 : decode prog_9_method_6_code 5 = .ok (.getfield 132, 3) := by decide +kernel
theorem d_Se_settle_2 : decode prog_9_method_6_code 2 = .ok (.getfield 31, 3) := by decide +kernel
theorem d_Se_visit_217 : decode prog_9_method_3_code 217 = .ok (.aload_n 0, 1) := by decide +kernel
theorem d_Se_visit_218 : decode prog_9_method_3_code 218 = .ok (.iload_n 1, 1) := by decide +kernel
theorem d_Se_visit_222 : decode prog_9_method_3_code 222 = .ok (.ireturn, 1) := by decide +kernel
theorem d_Se_visit_219 : decode prog_9_method_3_code 219 = .ok (.invokevirtual 115, 3) := by decide +kernel
theorem d_Se_visit_123 : decode prog_9_method_3_code 123 = .ok (.iload 4, 2) := by decide +kernel
theorem d_Se_visit_152 : decode prog_9_method_3_code 152 = .ok (.iload 6, 2) := by decide +kernel
theorem d_Se_visit_154 : decode prog_9_method_3_code 154 = .ok (.istore 4, 2) := by decide +kernel
theorem d_Se_visit_159 : decode prog_9_method_3_code 159 = .ok (.goto (-130), 3) := by decide +kernel
theorem d_Se_visit_156 : decode prog_9_method_3_code 156 = .ok (.iinc 5 1, 3) := by decide +kernel
theorem d_Se_visit_129 : decode prog_9_method_3_code 129 = .ok (.aload_n 0, 1) := by decide +kernel
theorem d_Se_visit_136 : decode prog_9_method_3_code 136 = .ok (.iload 6, 2) := by decide +kernel
theorem d_Se_visit_139 : decode prog_9_method_3_code 139 = .ok (.aload_n 0, 1) := by decide +kernel
theorem d_Se_visit_146 : decode prog_9_method_3_code 146 = .ok (.iload 4, 2) := by decide +kernel
theorem d_Se_visit_149 : decode prog_9_method_3_code 149 = .ok (.if_icmp .le 7, 3) := by decide +kernel
theorem d_Se_visit_148 : decode prog_9_method_3_code 148 = .ok (.iaload, 1) := by decide +kernel
theorem d_Se_visit_143 : decode prog_9_method_3_code 143 = .ok (.getfield 108, 3) := by decide +kernel
theorem d_Se_visit_140 : decode prog_9_method_3_code 140 = .ok (.getfield 31, 3) := by decide +kernel
theorem d_Se_visit_138 : decode prog_9_method_3_code 138 = .ok (.iaload, 1) := by decide +kernel
theorem d_Se_visit_133 : decode prog_9_method_3_code 133 = .ok (.getfield 108, 3) := by decide +kernel
theorem d_Se_visit_130 : decode prog_9_method_3_code 130 = .ok (.getfield 31, 3) := by decide +kernel
theorem d_Se_visit_126 : decode prog_9_method_3_code 126 = .ok (.if_icmp .eq 26, 3) := by decide +kernel
theorem d_Se_visit_125 : decode prog_9_method_3_code 125 = .ok (.iconst (-1), 1) := by decide +kernel
theorem d_Se_visit_92 : decode prog_9_method_3_code 92 = .ok (.iload_n 2, 1) := by decide +kernel
theorem d_Se_visit_96 : decode prog_9_method_3_code 96 = .ok (.aload_n 0, 1) := by decide +kernel
theorem d_Se_visit_109 : decode prog_9_method_3_code 109 = .ok (.aload_n 0, 1) := by decide +kernel
theorem d_Se_visit_113 : decode prog_9_method_3_code 113 = .ok (.iload_n 3, 1) := by decide +kernel
theorem d_Se_visit_114 : decode prog_9_method_3_code 114 = .ok (.iload 6, 2) := by decide +kernel
theorem d_Se_visit_120 : decode prog_9_method_3_code 120 = .ok (.goto 36, 3) := by decide +kernel
theorem d_Se_visit_117 : decode prog_9_method_3_code 117 = .ok (.iinc 3 1, 3) := by decide +kernel
theorem d_Se_visit_116 : decode prog_9_method_3_code 116 = .ok (.iastore, 1) := by decide +kernel
theorem d_Se_visit_110 : decode prog_9_method_3_code 110 = .ok (.getfield 42, 3) := by decide +kernel
theorem d_Se_visit_106 : decode prog_9_method_3_code 106 = .ok (.if_icmp .eq 17, 3) := by decide +kernel
theorem d_Se_visit_103 : decode prog_9_method_3_code 103 = .ok (.sipush 10001, 3) := by decide +kernel
theorem d_Se_visit_100 : decode prog_9_method_3_code 100 = .ok (.getfield 93, 3) := by decide +kernel
theorem d_Se_visit_97 : decode prog_9_method_3_code 97 = .ok (.getfield 24, 3) := by decide +kernel
theorem d_Se_visit_93 : decode prog_9_method_3_code 93 = .ok (.ifCond .ne 30, 3) := by decide +kernel
theorem d_Se_visit_29 : decode prog_9_method_3_code 29 = .ok (.iload 5, 2) := by decide +kernel
theorem d_Se_visit_31 : decode prog_9_method_3_code 31 = .ok (.aload_n 0, 1) := by decide +kernel
theorem d_Se_visit_162 : decode prog_9_method_3_code 162 = .ok (.aload_n 0, 1) := by decide +kernel
theorem d_Se_visit_163 : decode prog_9_method_3_code 163 = .ok (.iload_n 3, 1) := by decide +kernel
theorem d_Se_visit_167 : decode prog_9_method_3_code 167 = .ok (.aload_n 0, 1) := by decide +kernel
theorem d_Se_visit_174 : decode prog_9_method_3_code 174 = .ok (.iload_n 3, 1) := by decide +kernel
theorem d_Se_visit_178 : decode prog_9_method_3_code 178 = .ok (.aload_n 0, 1) := by decide +kernel
theorem d_Se_visit_188 : decode prog_9_method_3_code 188 = .ok (.iload 4, 2) := by decide +kernel
theorem d_Se_visit_194 : decode prog_9_method_3_code 194 = .ok (.aload_n 0, 1) := by decide +kernel
theorem d_Se_visit_195 : decode prog_9_method_3_code 195 = .ok (.iload 4, 2) := by decide +kernel
theorem d_Se_visit_197 : decode prog_9_method_3_code 197 = .ok (.iload_n 1, 1) := by decide +kernel
theorem d_Se_visit_201 : decode prog_9_method_3_code 201 = .ok (.aload_n 0, 1) := by decide +kernel
theorem d_Se_visit_202 : decode prog_9_method_3_code 202 = .ok (.iload 4, 2) := by decide +kernel
theorem d_Se_visit_204 : decode prog_9_method_3_code 204 = .ok (.aload_n 0, 1) := by decide +kernel
theorem d_Se_visit_211 : decode prog_9_method_3_code 211 = .ok (.iload 4, 2) := by decide +kernel
theorem d_Se_visit_214 : decode prog_9_method_3_code 214 = .ok (.invokevirtual 104, 3) := by decide +kernel
theorem d_Se_visit_213 : decode prog_9_method_3_code 213 = .ok (.laload, 1) := by decide +kernel
theorem d_Se_visit_208 : decode prog_9_method_3_code 208 = .ok (.getfield 96, 3) := by decide +kernel
theorem d_Se_visit_205 : decode prog_9_method_3_code 205 = .ok (.getfield 31, 3) := by decide +kernel
theorem d_Se_visit_198 : decode prog_9_method_3_code 198 = .ok (.invokevirtual 89, 3) := by decide +kernel
theorem d_Se_visit_191 : decode prog_9_method_3_code 191 = .ok (.if_icmp .eq 26, 3) := by decide +kernel
theorem d_Se_visit_190 : decode prog_9_method_3_code 190 = .ok (.iconst (-1), 1) := by decide +kernel
theorem d_Se_visit_185 : decode prog_9_method_3_code 185 = .ok (.ifCond .eq 32, 3) := by decide +kernel
theorem d_Se_visit_182 : decode prog_9_method_3_code 182 = .ok (.invokevirtual 111, 3) := by decide +kernel
theorem d_Se_visit_179 : decode prog_9_method_3_code 179 = .ok (.getfield 38, 3) := by decide +kernel
theorem d_Se_visit_175 : decode prog_9_method_3_code 175 = .ok (.ifCond .ne 42, 3) := by decide +kernel
theorem d_Se_visit_171 : decode prog_9_method_3_code 171 = .ok (.ifCond .eq 46, 3) := by decide +kernel
theorem d_Se_visit_168 : decode prog_9_method_3_code 168 = .ok (.getfield 55, 3) := by decide +kernel
theorem d_Se_visit_164 : decode prog_9_method_3_code 164 = .ok (.putfield 66, 3) := by decide +kernel
theorem d_Se_visit_38 : decode prog_9_method_3_code 38 = .ok (.aload_n 0, 1) := by decide +kernel
theorem d_Se_visit_42 : decode prog_9_method_3_code 42 = .ok (.iload 5, 2) := by decide +kernel
theorem d_Se_visit_45 : decode prog_9_method_3_code 45 = .ok (.istore 6, 2) := by decide +kernel
theorem d_Se_visit_47 : decode prog_9_method_3_code 47 = .ok (.aload_n 0, 1) := by decide +kernel
theorem d_Se_visit_48 : decode prog_9_method_3_code 48 = .ok (.iload 6, 2) := by decide +kernel
theorem d_Se_visit_50 : decode prog_9_method_3_code 50 = .ok (.iload_n 1, 1) := by decide +kernel
theorem d_Se_visit_54 : decode prog_9_method_3_code 54 = .ok (.aload_n 0, 1) := by decide +kernel
theorem d_Se_visit_61 : decode prog_9_method_3_code 61 = .ok (.aload_n 0, 1) := by decide +kernel
theorem d_Se_visit_68 : decode prog_9_method_3_code 68 = .ok (.aload_n 0, 1) := by decide +kernel
theorem d_Se_visit_69 : decode prog_9_method_3_code 69 = .ok (.iload 6, 2) := by decide +kernel
theorem d_Se_visit_71 : decode prog_9_method_3_code 71 = .ok (.aload_n 0, 1) := by decide +kernel
theorem d_Se_visit_78 : decode prog_9_method_3_code 78 = .ok (.iload 6, 2) := by decide +kernel
theorem d_Se_visit_81 : decode prog_9_method_3_code 81 = .ok (.aload_n 0, 1) := by decide +kernel
theorem d_Se_visit_82 : decode prog_9_method_3_code 82 = .ok (.iload 6, 2) := by decide +kernel
theorem d_Se_visit_84 : decode prog_9_method_3_code 84 = .ok (.iload_n 1, 1) := by decide +kernel
theorem d_Se_visit_89 : decode prog_9_method_3_code 89 = .ok (.invokevirtual 104, 3) := by decide +kernel
theorem d_Se_visit_88 : decode prog_9_method_3_code 88 = .ok (.ladd, 1) := by decide +kernel
theorem d_Se_visit_85 : decode prog_9_method_3_code 85 = .ok (.invokevirtual 100, 3) := by decide +kernel
theorem d_Se_visit_80 : decode prog_9_method_3_code 80 = .ok (.laload, 1) := by decide +kernel
theorem d_Se_visit_75 : decode prog_9_method_3_code 75 = .ok (.getfield 96, 3) := by decide +kernel
theorem d_Se_visit_72 : decode prog_9_method_3_code 72 = .ok (.getfield 31, 3) := by decide +kernel
theorem d_Se_visit_65 : decode prog_9_method_3_code 65 = .ok (.if_icmp .gt 27, 3) := by decide +kernel
theorem d_Se_visit_62 : decode prog_9_method_3_code 62 = .ok (.getfield 51, 3) := by decide +kernel
theorem d_Se_visit_58 : decode prog_9_method_3_code 58 = .ok (.getfield 93, 3) := by decide +kernel
theorem d_Se_visit_55 : decode prog_9_method_3_code 55 = .ok (.getfield 24, 3) := by decide +kernel
theorem d_Se_visit_51 : decode prog_9_method_3_code 51 = .ok (.invokevirtual 89, 3) := by decide +kernel
theorem d_Se_visit_44 : decode prog_9_method_3_code 44 = .ok (.iaload, 1) := by decide +kernel
theorem d_Se_visit_39 : decode prog_9_method_3_code 39 = .ok (.getfield 42, 3) := by decide +kernel
theorem d_Se_visit_35 : decode prog_9_method_3_code 35 = .ok (.if_icmp .ge 127, 3) := by decide +kernel
theorem d_Se_visit_32 : decode prog_9_method_3_code 32 = .ok (.getfield 66, 3) := by decide +kernel
theorem d_Se_visit_20 : decode prog_9_method_3_code 20 = .ok (.istore_n 2, 1) := by decide +kernel
theorem d_Se_visit_22 : decode prog_9_method_3_code 22 = .ok (.istore_n 3, 1) := by decide +kernel
theorem d_Se_visit_24 : decode prog_9_method_3_code 24 = .ok (.istore 4, 2) := by decide +kernel
theorem d_Se_visit_27 : decode prog_9_method_3_code 27 = .ok (.istore 5, 2) := by decide +kernel
theorem d_Se_visit_26 : decode prog_9_method_3_code 26 = .ok (.iconst 0, 1) := by decide +kernel
theorem d_Se_visit_23 : decode prog_9_method_3_code 23 = .ok (.iconst (-1), 1) := by decide +kernel
theorem d_Se_visit_21 : decode prog_9_method_3_code 21 = .ok (.iconst 0, 1) := by decide +kernel
theorem d_Se_visit_0 : decode prog_9_method_3_code 0 = .ok (.aload_n 0, 1) := by decide +kernel
theorem d_Se_visit_7 : decode prog_9_method_3_code 7 = .ok (.iload_n 1, 1) := by decide +kernel
theorem d_Se_visit_19 : decode prog_9_method_3_code 19 = .ok (.iconst 0, 1) := by decide +kernel
theorem d_Se_visit_16 : decode prog_9_method_3_code 16 = .ok (.goto 4, 3) := by decide +kernel
theorem d_Se_visit_15 : decode prog_9_method_3_code 15 = .ok (.iconst 1, 1) := by decide +kernel
theorem d_Se_visit_12 : decode prog_9_method_3_code 12 = .ok (.if_icmp .ne 7, 3) := by decide +kernel
theorem d_Se_visit_9 : decode prog_9_method_3_code 9 = .ok (.sipush (-10000), 3) := by decide +kernel
theorem d_Se_visit_8 : decode prog_9_method_3_code 8 = .ok (.iaload, 1) := by decide +kernel
theorem d_Se_visit_4 : decode prog_9_method_3_code 4 = .ok (.getfield 86, 3) := by decide +kernel
theorem d_Se_visit_1 : decode prog_9_method_3_code 1 = .ok (.getfield 9, 3) := by decide +kernel
theorem d_No_isBetter_0 : decode prog_5_method_4_code 0 = .ok (.aload_n 0, 1) := by decide +kernel
theorem d_No_isBetter_4 : decode prog_5_method_4_code 4 = .ok (.iload_n 1, 1) := by decide +kernel
theorem d_No_isBetter_6 : decode prog_5_method_4_code 6 = .ok (.aload_n 0, 1) := by decide +kernel
theorem d_No_isBetter_10 : decode prog_5_method_4_code 10 = .ok (.iload_n 2, 1) := by decide +kernel
theorem d_No_isBetter_38 : decode prog_5_method_4_code 38 = .ok (.aload_n 0, 1) := by decide +kernel
theorem d_No_isBetter_42 : decode prog_5_method_4_code 42 = .ok (.iload_n 1, 1) := by decide +kernel
theorem d_No_isBetter_44 : decode prog_5_method_4_code 44 = .ok (.aload_n 0, 1) := by decide +kernel
theorem d_No_isBetter_48 : decode prog_5_method_4_code 48 = .ok (.iload_n 2, 1) := by decide +kernel
theorem d_No_isBetter_74 : decode prog_5_method_4_code 74 = .ok (.aload_n 0, 1) := by decide +kernel
theorem d_No_isBetter_78 : decode prog_5_method_4_code 78 = .ok (.iload_n 1, 1) := by decide +kernel
theorem d_No_isBetter_80 : decode prog_5_method_4_code 80 = .ok (.aload_n 0, 1) := by decide +kernel
theorem d_No_isBetter_84 : decode prog_5_method_4_code 84 = .ok (.iload_n 2, 1) := by decide +kernel
theorem d_No_isBetter_94 : decode prog_5_method_4_code 94 = .ok (.ireturn, 1) := by decide +kernel
theorem d_No_isBetter_93 : decode prog_5_method_4_code 93 = .ok (.iconst 0, 1) := by decide +kernel
theorem d_No_isBetter_90 : decode prog_5_method_4_code 90 = .ok (.goto 4, 3) := by decide +kernel
theorem d_No_isBetter_89 : decode prog_5_method_4_code 89 = .ok (.iconst 1, 1) := by decide +kernel
theorem d_No_isBetter_86 : decode prog_5_method_4_code 86 = .ok (.if_icmp .ge 7, 3) := by decide +kernel
theorem d_No_isBetter_85 : decode prog_5_method_4_code 85 = .ok (.iaload, 1) := by decide +kernel
theorem d_No_isBetter_81 : decode prog_5_method_4_code 81 = .ok (.getfield 18, 3) := by decide +kernel
theorem d_No_isBetter_79 : decode prog_5_method_4_code 79 = .ok (.iaload, 1) := by decide +kernel
theorem d_No_isBetter_75 : decode prog_5_method_4_code 75 = .ok (.getfield 18, 3) := by decide +kernel
theorem d_No_isBetter_53 : decode prog_5_method_4_code 53 = .ok (.aload_n 0, 1) := by decide +kernel
theorem d_No_isBetter_57 : decode prog_5_method_4_code 57 = .ok (.iload_n 1, 1) := by decide +kernel
theorem d_No_isBetter_59 : decode prog_5_method_4_code 59 = .ok (.aload_n 0, 1) := by decide +kernel
theorem d_No_isBetter_63 : decode prog_5_method_4_code 63 = .ok (.iload_n 2, 1) := by decide +kernel
theorem d_No_isBetter_73 : decode prog_5_method_4_code 73 = .ok (.ireturn, 1) := by decide +kernel
theorem d_No_isBetter_72 : decode prog_5_method_4_code 72 = .ok (.iconst 0, 1) := by decide +kernel
theorem d_No_isBetter_69 : decode prog_5_method_4_code 69 = .ok (.goto 4, 3) := by decide +kernel
theorem d_No_isBetter_68 : decode prog_5_method_4_code 68 = .ok (.iconst 1, 1) := by decide +kernel
theorem d_No_isBetter_65 : decode prog_5_method_4_code 65 = .ok (.if_icmp .ge 7, 3) := by decide +kernel
theorem d_No_isBetter_64 : decode prog_5_method_4_code 64 = .ok (.iaload, 1) := by decide +kernel
theorem d_No_isBetter_60 : decode prog_5_method_4_code 60 = .ok (.getfield 15, 3) := by decide +kernel
theorem d_No_isBetter_58 : decode prog_5_method_4_code 58 = .ok (.iaload, 1) := by decide +kernel
theorem d_No_isBetter_54 : decode prog_5_method_4_code 54 = .ok (.getfield 15, 3) := by decide +kernel
theorem d_No_isBetter_50 : decode prog_5_method_4_code 50 = .ok (.if_icmp .eq 24, 3) := by decide +kernel
theorem d_No_isBetter_49 : decode prog_5_method_4_code 49 = .ok (.iaload, 1) := by decide +kernel
theorem d_No_isBetter_45 : decode prog_5_method_4_code 45 = .ok (.getfield 15, 3) := by decide +kernel
theorem d_No_isBetter_43 : decode prog_5_method_4_code 43 = .ok (.iaload, 1) := by decide +kernel
theorem d_No_isBetter_39 : decode prog_5_method_4_code 39 = .ok (.getfield 15, 3) := by decide +kernel
theorem d_No_isBetter_16 : decode prog_5_method_4_code 16 = .ok (.aload_n 0, 1) := by decide +kernel
theorem d_No_isBetter_20 : decode prog_5_method_4_code 20 = .ok (.iload_n 1, 1) := by decide +kernel
theorem d_No_isBetter_22 : decode prog_5_method_4_code 22 = .ok (.aload_n 0, 1) := by decide +kernel
theorem d_No_isBetter_26 : decode prog_5_method_4_code 26 = .ok (.iload_n 2, 1) := by decide +kernel
theorem d_No_isBetter_37 : decode prog_5_method_4_code 37 = .ok (.ireturn, 1) := by decide +kernel
theorem d_No_isBetter_36 : decode prog_5_method_4_code 36 = .ok (.iconst 0, 1) := by decide +kernel
theorem d_No_isBetter_33 : decode prog_5_method_4_code 33 = .ok (.goto 4, 3) := by decide +kernel
theorem d_No_isBetter_32 : decode prog_5_method_4_code 32 = .ok (.iconst 1, 1) := by decide +kernel
theorem d_No_isBetter_29 : decode prog_5_method_4_code 29 = .ok (.ifCond .ge 7, 3) := by decide +kernel
theorem d_No_isBetter_28 : decode prog_5_method_4_code 28 = .ok (.lcmp, 1) := by decide +kernel
theorem d_No_isBetter_27 : decode prog_5_method_4_code 27 = .ok (.laload, 1) := by decide +kernel
theorem d_No_isBetter_23 : decode prog_5_method_4_code 23 = .ok (.getfield 24, 3) := by decide +kernel
theorem d_No_isBetter_21 : decode prog_5_method_4_code 21 = .ok (.laload, 1) := by decide +kernel
theorem d_No_isBetter_17 : decode prog_5_method_4_code 17 = .ok (.getfield 24, 3) := by decide +kernel
theorem d_No_isBetter_13 : decode prog_5_method_4_code 13 = .ok (.ifCond .eq 25, 3) := by decide +kernel
theorem d_No_isBetter_12 : decode prog_5_method_4_code 12 = .ok (.lcmp, 1) := by decide +kernel
theorem d_No_isBetter_11 : decode prog_5_method_4_code 11 = .ok (.laload, 1) := by decide +kernel
theorem d_No_isBetter_7 : decode prog_5_method_4_code 7 = .ok (.getfield 24, 3) := by decide +kernel
theorem d_No_isBetter_5 : decode prog_5_method_4_code 5 = .ok (.laload, 1) := by decide +kernel
theorem d_No_isBetter_1 : decode prog_5_method_4_code 1 = .ok (.getfield 24, 3) := by decide +kernel
theorem d_Se_isPreferred_0 : decode prog_9_method_9_code 0 = .ok (.aload_n 0, 1) := by decide +kernel
theorem d_Se_isPreferred_7 : decode prog_9_method_9_code 7 = .ok (.iload_n 1, 1) := by decide +kernel
theorem d_Se_isPreferred_9 : decode prog_9_method_9_code 9 = .ok (.istore 5, 2) := by decide +kernel
theorem d_Se_isPreferred_11 : decode prog_9_method_9_code 11 = .ok (.aload_n 0, 1) := by decide +kernel
theorem d_Se_isPreferred_18 : decode prog_9_method_9_code 18 = .ok (.iload_n 3, 1) := by decide +kernel
theorem d_Se_isPreferred_20 : decode prog_9_method_9_code 20 = .ok (.iload 4, 2) := by decide +kernel
theorem d_Se_isPreferred_25 : decode prog_9_method_9_code 25 = .ok (.istore 6, 2) := by decide +kernel
theorem d_Se_isPreferred_27 : decode prog_9_method_9_code 27 = .ok (.aload_n 0, 1) := by decide +kernel
theorem d_Se_isPreferred_34 : decode prog_9_method_9_code 34 = .ok (.iload_n 3, 1) := by decide +kernel
theorem d_Se_isPreferred_36 : decode prog_9_method_9_code 36 = .ok (.iload 4, 2) := by decide +kernel
theorem d_Se_isPreferred_41 : decode prog_9_method_9_code 41 = .ok (.istore 7, 2) := by decide +kernel
theorem d_Se_isPreferred_43 : decode prog_9_method_9_code 43 = .ok (.iload 5, 2) := by decide +kernel
theorem d_Se_isPreferred_45 : decode prog_9_method_9_code 45 = .ok (.iload 6, 2) := by decide +kernel
theorem d_Se_isPreferred_58 : decode prog_9_method_9_code 58 = .ok (.ireturn, 1) := by decide +kernel
theorem d_Se_isPreferred_57 : decode prog_9_method_9_code 57 = .ok (.iconst 0, 1) := by decide +kernel
theorem d_Se_isPreferred_50 : decode prog_9_method_9_code 50 = .ok (.iload 5, 2) := by decide +kernel
theorem d_Se_isPreferred_52 : decode prog_9_method_9_code 52 = .ok (.iload 7, 2) := by decide +kernel
theorem d_Se_isPreferred_59 : decode prog_9_method_9_code 59 = .ok (.iload 5, 2) := by decide +kernel
theorem d_Se_isPreferred_61 : decode prog_9_method_9_code 61 = .ok (.iload 4, 2) := by decide +kernel
theorem d_Se_isPreferred_67 : decode prog_9_method_9_code 67 = .ok (.istore 8, 2) := by decide +kernel
theorem d_Se_isPreferred_69 : decode prog_9_method_9_code 69 = .ok (.aload_n 0, 1) := by decide +kernel
theorem d_Se_isPreferred_76 : decode prog_9_method_9_code 76 = .ok (.iload_n 2, 1) := by decide +kernel
theorem d_Se_isPreferred_78 : decode prog_9_method_9_code 78 = .ok (.iload 4, 2) := by decide +kernel
theorem d_Se_isPreferred_84 : decode prog_9_method_9_code 84 = .ok (.istore 9, 2) := by decide +kernel
theorem d_Se_isPreferred_86 : decode prog_9_method_9_code 86 = .ok (.iload 8, 2) := by decide +kernel
theorem d_Se_isPreferred_88 : decode prog_9_method_9_code 88 = .ok (.iload 9, 2) := by decide +kernel
theorem d_Se_isPreferred_117 : decode prog_9_method_9_code 117 = .ok (.ireturn, 1) := by decide +kernel
theorem d_Se_isPreferred_113 : decode prog_9_method_9_code 113 = .ok (.goto 4, 3) := by decide +kernel
theorem d_Se_isPreferred_112 : decode prog_9_method_9_code 112 = .ok (.iconst 1, 1) := by decide +kernel
theorem d_Se_isPreferred_93 : decode prog_9_method_9_code 93 = .ok (.iload 8, 2) := by decide +kernel
theorem d_Se_isPreferred_95 : decode prog_9_method_9_code 95 = .ok (.iload 9, 2) := by decide +kernel
theorem d_Se_isPreferred_116 : decode prog_9_method_9_code 116 = .ok (.iconst 0, 1) := by decide +kernel
theorem d_Se_isPreferred_100 : decode prog_9_method_9_code 100 = .ok (.aload_n 0, 1) := by decide +kernel
theorem d_Se_isPreferred_104 : decode prog_9_method_9_code 104 = .ok (.iload_n 1, 1) := by decide +kernel
theorem d_Se_isPreferred_105 : decode prog_9_method_9_code 105 = .ok (.iload_n 2, 1) := by decide +kernel
theorem d_Se_isPreferred_109 : decode prog_9_method_9_code 109 = .ok (.ifCond .eq 7, 3) := by decide +kernel
theorem d_Se_isPreferred_106 : decode prog_9_method_9_code 106 = .ok (.invokevirtual 159, 3) := by decide +kernel
theorem d_Se_isPreferred_101 : decode prog_9_method_9_code 101 = .ok (.getfield 31, 3) := by decide +kernel
theorem d_Se_isPreferred_97 : decode prog_9_method_9_code 97 = .ok (.if_icmp .ne 19, 3) := by decide +kernel
theorem d_Se_isPreferred_90 : decode prog_9_method_9_code 90 = .ok (.if_icmp .lt 22, 3) := by decide +kernel
theorem d_Se_isPreferred_81 : decode prog_9_method_9_code 81 = .ok (.invokestatic 153, 3) := by decide +kernel
theorem d_Se_isPreferred_80 : decode prog_9_method_9_code 80 = .ok (.isub, 1) := by decide +kernel
theorem d_Se_isPreferred_77 : decode prog_9_method_9_code 77 = .ok (.iaload, 1) := by decide +kernel
theorem d_Se_isPreferred_73 : decode prog_9_method_9_code 73 = .ok (.getfield 108, 3) := by decide +kernel
theorem d_Se_isPreferred_70 : decode prog_9_method_9_code 70 = .ok (.getfield 31, 3) := by decide +kernel
theorem d_Se_isPreferred_64 : decode prog_9_method_9_code 64 = .ok (.invokestatic 153, 3) := by decide +kernel
theorem d_Se_isPreferred_63 : decode prog_9_method_9_code 63 = .ok (.isub, 1) := by decide +kernel
theorem d_Se_isPreferred_54 : decode prog_9_method_9_code 54 = .ok (.if_icmp .le 5, 3) := by decide +kernel
theorem d_Se_isPreferred_47 : decode prog_9_method_9_code 47 = .ok (.if_icmp .lt 10, 3) := by decide +kernel
theorem d_Se_isPreferred_38 : decode prog_9_method_9_code 38 = .ok (.invokestatic 171, 3) := by decide +kernel
theorem d_Se_isPreferred_35 : decode prog_9_method_9_code 35 = .ok (.iaload, 1) := by decide +kernel
theorem d_Se_isPreferred_31 : decode prog_9_method_9_code 31 = .ok (.getfield 108, 3) := by decide +kernel
theorem d_Se_isPreferred_28 : decode prog_9_method_9_code 28 = .ok (.getfield 31, 3) := by decide +kernel
theorem d_Se_isPreferred_22 : decode prog_9_method_9_code 22 = .ok (.invokestatic 167, 3) := by decide +kernel
theorem d_Se_isPreferred_19 : decode prog_9_method_9_code 19 = .ok (.iaload, 1) := by decide +kernel
theorem d_Se_isPreferred_15 : decode prog_9_method_9_code 15 = .ok (.getfield 108, 3) := by decide +kernel
theorem d_Se_isPreferred_12 : decode prog_9_method_9_code 12 = .ok (.getfield 31, 3) := by decide +kernel
theorem d_Se_isPreferred_8 : decode prog_9_method_9_code 8 = .ok (.iaload, 1) := by decide +kernel
theorem d_Se_isPreferred_4 : decode prog_9_method_9_code 4 = .ok (.getfield 108, 3) := by decide +kernel
theorem d_Se_isPreferred_1 : decode prog_9_method_9_code 1 = .ok (.getfield 31, 3) := by decide +kernel
theorem d_Se_choose_81 : decode prog_9_method_8_code 81 = .ok (.iload 4, 2) := by decide +kernel
theorem d_Se_choose_83 : decode prog_9_method_8_code 83 = .ok (.aload_n 0, 1) := by decide +kernel
theorem d_Se_choose_114 : decode prog_9_method_8_code 114 = .ok (.aload_n 0, 1) := by decide +kernel
theorem d_Se_choose_134 : decode prog_9_method_8_code 134 = .ok (.iload_n 3, 1) := by decide +kernel
theorem d_Se_choose_139 : decode prog_9_method_8_code 139 = .ok (.ireturn, 1) := by decide +kernel
theorem d_Se_choose_135 : decode prog_9_method_8_code 135 = .ok (.goto 4, 3) := by decide +kernel
theorem d_Se_choose_121 : decode prog_9_method_8_code 121 = .ok (.aload_n 0, 1) := by decide +kernel
theorem d_Se_choose_128 : decode prog_9_method_8_code 128 = .ok (.iload_n 3, 1) := by decide +kernel
theorem d_Se_choose_130 : decode prog_9_method_8_code 130 = .ok (.iload_n 2, 1) := by decide +kernel
theorem d_Se_choose_138 : decode prog_9_method_8_code 138 = .ok (.iconst 0, 1) := by decide +kernel
theorem d_Se_choose_131 : decode prog_9_method_8_code 131 = .ok (.if_icmp .ne 7, 3) := by decide +kernel
theorem d_Se_choose_129 : decode prog_9_method_8_code 129 = .ok (.iaload, 1) := by decide +kernel
theorem d_Se_choose_125 : decode prog_9_method_8_code 125 = .ok (.getfield 108, 3) := by decide +kernel
theorem d_Se_choose_122 : decode prog_9_method_8_code 122 = .ok (.getfield 31, 3) := by decide +kernel
theorem d_Se_choose_118 : decode prog_9_method_8_code 118 = .ok (.ifCond .ne 16, 3) := by decide +kernel
theorem d_Se_choose_115 : decode prog_9_method_8_code 115 = .ok (.getfield 55, 3) := by decide +kernel
theorem d_Se_choose_93 : decode prog_9_method_8_code 93 = .ok (.aload_n 0, 1) := by decide +kernel
theorem d_Se_choose_94 : decode prog_9_method_8_code 94 = .ok (.iload 4, 2) := by decide +kernel
theorem d_Se_choose_96 : decode prog_9_method_8_code 96 = .ok (.iload_n 3, 1) := by decide +kernel
theorem d_Se_choose_97 : decode prog_9_method_8_code 97 = .ok (.iload_n 1, 1) := by decide +kernel
theorem d_Se_choose_98 : decode prog_9_method_8_code 98 = .ok (.iload_n 2, 1) := by decide +kernel
theorem d_Se_choose_111 : decode prog_9_method_8_code 111 = .ok (.goto (-30), 3) := by decide +kernel
theorem d_Se_choose_108 : decode prog_9_method_8_code 108 = .ok (.iinc 4 1, 3) := by decide +kernel
theorem d_Se_choose_105 : decode prog_9_method_8_code 105 = .ok (.iload 4, 2) := by decide +kernel
theorem d_Se_choose_107 : decode prog_9_method_8_code 107 = .ok (.istore_n 3, 1) := by decide +kernel
theorem d_Se_choose_102 : decode prog_9_method_8_code 102 = .ok (.ifCond .eq 6, 3) := by decide +kernel
theorem d_Se_choose_99 : decode prog_9_method_8_code 99 = .ok (.invokevirtual 163, 3) := by decide +kernel
theorem d_Se_choose_90 : decode prog_9_method_8_code 90 = .ok (.if_icmp .ge 24, 3) := by decide +kernel
theorem d_Se_choose_87 : decode prog_9_method_8_code 87 = .ok (.getfield 132, 3) := by decide +kernel
theorem d_Se_choose_84 : decode prog_9_method_8_code 84 = .ok (.getfield 31, 3) := by decide +kernel
theorem d_Se_choose_21 : decode prog_9_method_8_code 21 = .ok (.iload_n 2, 1) := by decide +kernel
theorem d_Se_choose_22 : decode prog_9_method_8_code 22 = .ok (.aload_n 0, 1) := by decide +kernel
theorem d_Se_choose_52 : decode prog_9_method_8_code 52 = .ok (.aload_n 0, 1) := by decide +kernel
theorem d_Se_choose_59 : decode prog_9_method_8_code 59 = .ok (.iload_n 1, 1) := by decide +kernel
theorem d_Se_choose_61 : decode prog_9_method_8_code 61 = .ok (.aload_n 0, 1) := by decide +kernel
theorem d_Se_choose_72 : decode prog_9_method_8_code 72 = .ok (.istore_n 2, 1) := by decide +kernel
theorem d_Se_choose_73 : decode prog_9_method_8_code 73 = .ok (.iload_n 1, 1) := by decide +kernel
theorem d_Se_choose_74 : decode prog_9_method_8_code 74 = .ok (.istore_n 3, 1) := by decide +kernel
theorem d_Se_choose_75 : decode prog_9_method_8_code 75 = .ok (.aload_n 0, 1) := by decide +kernel
theorem d_Se_choose_79 : decode prog_9_method_8_code 79 = .ok (.istore 4, 2) := by decide +kernel
theorem d_Se_choose_76 : decode prog_9_method_8_code 76 = .ok (.getfield 135, 3) := by decide +kernel
theorem d_Se_choose_71 : decode prog_9_method_8_code 71 = .ok (.iadd, 1) := by decide +kernel
theorem d_Se_choose_70 : decode prog_9_method_8_code 70 = .ok (.iaload, 1) := by decide +kernel
theorem d_Se_choose_68 : decode prog_9_method_8_code 68 = .ok (.bipush 9, 2) := by decide +kernel
theorem d_Se_choose_65 : decode prog_9_method_8_code 65 = .ok (.getfield 46, 3) := by decide +kernel
theorem d_Se_choose_62 : decode prog_9_method_8_code 62 = .ok (.getfield 15, 3) := by decide +kernel
theorem d_Se_choose_60 : decode prog_9_method_8_code 60 = .ok (.iaload, 1) := by decide +kernel
theorem d_Se_choose_56 : decode prog_9_method_8_code 56 = .ok (.getfield 108, 3) := by decide +kernel
theorem d_Se_choose_53 : decode prog_9_method_8_code 53 = .ok (.getfield 31, 3) := by decide +kernel
theorem d_Se_choose_32 : decode prog_9_method_8_code 32 = .ok (.aload_n 0, 1) := by decide +kernel
theorem d_Se_choose_36 : decode prog_9_method_8_code 36 = .ok (.iload_n 2, 1) := by decide +kernel
theorem d_Se_choose_37 : decode prog_9_method_8_code 37 = .ok (.iload_n 1, 1) := by decide +kernel
theorem d_Se_choose_49 : decode prog_9_method_8_code 49 = .ok (.goto (-28), 3) := by decide +kernel
theorem d_Se_choose_46 : decode prog_9_method_8_code 46 = .ok (.iinc 2 1, 3) := by decide +kernel
theorem d_Se_choose_44 : decode prog_9_method_8_code 44 = .ok (.iload_n 2, 1) := by decide +kernel
theorem d_Se_choose_45 : decode prog_9_method_8_code 45 = .ok (.istore_n 1, 1) := by decide +kernel
theorem d_Se_choose_41 : decode prog_9_method_8_code 41 = .ok (.ifCond .eq 5, 3) := by decide +kernel
theorem d_Se_choose_38 : decode prog_9_method_8_code 38 = .ok (.invokevirtual 159, 3) := by decide +kernel
theorem d_Se_choose_33 : decode prog_9_method_8_code 33 = .ok (.getfield 31, 3) := by decide +kernel
theorem d_Se_choose_29 : decode prog_9_method_8_code 29 = .ok (.if_icmp .ge 23, 3) := by decide +kernel
theorem d_Se_choose_26 : decode prog_9_method_8_code 26 = .ok (.getfield 132, 3) := by decide +kernel
theorem d_Se_choose_23 : decode prog_9_method_8_code 23 = .ok (.getfield 31, 3) := by decide +kernel
theorem d_Se_choose_0 : decode prog_9_method_8_code 0 = .ok (.aload_n 0, 1) := by decide +kernel
theorem d_Se_choose_9 : decode prog_9_method_8_code 9 = .ok (.aload_n 0, 1) := by decide +kernel
theorem d_Se_choose_13 : decode prog_9_method_8_code 13 = .ok (.istore_n 1, 1) := by decide +kernel
theorem d_Se_choose_14 : decode prog_9_method_8_code 14 = .ok (.aload_n 0, 1) := by decide +kernel
theorem d_Se_choose_20 : decode prog_9_method_8_code 20 = .ok (.istore_n 2, 1) := by decide +kernel
theorem d_Se_choose_19 : decode prog_9_method_8_code 19 = .ok (.iadd, 1) := by decide +kernel
theorem d_Se_choose_18 : decode prog_9_method_8_code 18 = .ok (.iconst 1, 1) := by decide +kernel
theorem d_Se_choose_15 : decode prog_9_method_8_code 15 = .ok (.getfield 135, 3) := by decide +kernel
theorem d_Se_choose_10 : decode prog_9_method_8_code 10 = .ok (.getfield 135, 3) := by decide +kernel
theorem d_Se_choose_8 : decode prog_9_method_8_code 8 = .ok (.ireturn, 1) := by decide +kernel
theorem d_Se_choose_7 : decode prog_9_method_8_code 7 = .ok (.iconst 0, 1) := by decide +kernel
theorem d_Se_choose_4 : decode prog_9_method_8_code 4 = .ok (.ifCond .ne 5, 3) := by decide +kernel
theorem d_Se_choose_1 : decode prog_9_method_8_code 1 = .ok (.getfield 66, 3) := by decide +kernel
theorem d_Se_run_137 : decode prog_9_method_2_code 137 = .ok (.aload_n 0, 1) := by decide +kernel
theorem d_Se_run_141 : decode prog_9_method_2_code 141 = .ok (.ireturn, 1) := by decide +kernel
theorem d_Se_run_138 : decode prog_9_method_2_code 138 = .ok (.invokevirtual 82, 3) := by decide +kernel
theorem d_Se_run_134 : decode prog_9_method_2_code 134 = .ok (.goto (-53), 3) := by decide +kernel
theorem d_Se_run_131 : decode prog_9_method_2_code 131 = .ok (.iinc 3 1, 3) := by decide +kernel
theorem d_Se_run_120 : decode prog_9_method_2_code 120 = .ok (.aload_n 0, 1) := by decide +kernel
theorem d_Se_run_121 : decode prog_9_method_2_code 121 = .ok (.iload_n 3, 1) := by decide +kernel
theorem d_Se_run_130 : decode prog_9_method_2_code 130 = .ok (.ireturn, 1) := by decide +kernel
theorem d_Se_run_128 : decode prog_9_method_2_code 128 = .ok (.bipush (-2), 2) := by decide +kernel
theorem d_Se_run_125 : decode prog_9_method_2_code 125 = .ok (.ifCond .ne 6, 3) := by decide +kernel
theorem d_Se_run_122 : decode prog_9_method_2_code 122 = .ok (.invokevirtual 78, 3) := by decide +kernel
theorem d_Se_run_117 : decode prog_9_method_2_code 117 = .ok (.ifCond .eq 14, 3) := by decide +kernel
theorem d_Se_run_114 : decode prog_9_method_2_code 114 = .ok (.invokevirtual 74, 3) := by decide +kernel
theorem d_Se_run_81 : decode prog_9_method_2_code 81 = .ok (.iload_n 3, 1) := by decide +kernel
theorem d_Se_run_82 : decode prog_9_method_2_code 82 = .ok (.aload_n 0, 1) := by decide +kernel
theorem d_Se_run_92 : decode prog_9_method_2_code 92 = .ok (.aload_n 0, 1) := by decide +kernel
theorem d_Se_run_99 : decode prog_9_method_2_code 99 = .ok (.aload_n 0, 1) := by decide +kernel
theorem d_Se_run_103 : decode prog_9_method_2_code 103 = .ok (.iload_n 3, 1) := by decide +kernel
theorem d_Se_run_104 : decode prog_9_method_2_code 104 = .ok (.iload_n 1, 1) := by decide +kernel
theorem d_Se_run_113 : decode prog_9_method_2_code 113 = .ok (.iconst 0, 1) := by decide +kernel
theorem d_Se_run_110 : decode prog_9_method_2_code 110 = .ok (.goto 4, 3) := by decide +kernel
theorem d_Se_run_109 : decode prog_9_method_2_code 109 = .ok (.iconst 1, 1) := by decide +kernel
theorem d_Se_run_106 : decode prog_9_method_2_code 106 = .ok (.if_icmp .le 7, 3) := by decide +kernel
theorem d_Se_run_105 : decode prog_9_method_2_code 105 = .ok (.iconst 1, 1) := by decide +kernel
theorem d_Se_run_100 : decode prog_9_method_2_code 100 = .ok (.getfield 9, 3) := by decide +kernel
theorem d_Se_run_96 : decode prog_9_method_2_code 96 = .ok (.ifCond .le 41, 3) := by decide +kernel
theorem d_Se_run_93 : decode prog_9_method_2_code 93 = .ok (.getfield 66, 3) := by decide +kernel
theorem d_Se_run_89 : decode prog_9_method_2_code 89 = .ok (.if_icmp .gt 48, 3) := by decide +kernel
theorem d_Se_run_86 : decode prog_9_method_2_code 86 = .ok (.getfield 69, 3) := by decide +kernel
theorem d_Se_run_83 : decode prog_9_method_2_code 83 = .ok (.getfield 9, 3) := by decide +kernel
theorem d_Se_run_53 : decode prog_9_method_2_code 53 = .ok (.aload_n 0, 1) := by decide +kernel
theorem d_Se_run_60 : decode prog_9_method_2_code 60 = .ok (.aload_n 0, 1) := by decide +kernel
theorem d_Se_run_67 : decode prog_9_method_2_code 67 = .ok (.aload_n 0, 1) := by decide +kernel
theorem d_Se_run_74 : decode prog_9_method_2_code 74 = .ok (.aload_n 0, 1) := by decide +kernel
theorem d_Se_run_80 : decode prog_9_method_2_code 80 = .ok (.istore_n 3, 1) := by decide +kernel
theorem d_Se_run_79 : decode prog_9_method_2_code 79 = .ok (.iconst 0, 1) := by decide +kernel
theorem d_Se_run_76 : decode prog_9_method_2_code 76 = .ok (.putfield 66, 3) := by decide +kernel
theorem d_Se_run_75 : decode prog_9_method_2_code 75 = .ok (.iconst 1, 1) := by decide +kernel
theorem d_Se_run_73 : decode prog_9_method_2_code 73 = .ok (.iastore, 1) := by decide +kernel
theorem d_Se_run_72 : decode prog_9_method_2_code 72 = .ok (.iconst 0, 1) := by decide +kernel
theorem d_Se_run_71 : decode prog_9_method_2_code 71 = .ok (.iconst 0, 1) := by decide +kernel
theorem d_Se_run_68 : decode prog_9_method_2_code 68 = .ok (.getfield 42, 3) := by decide +kernel
theorem d_Se_run_64 : decode prog_9_method_2_code 64 = .ok (.invokevirtual 65, 3) := by decide +kernel
theorem d_Se_run_61 : decode prog_9_method_2_code 61 = .ok (.getfield 38, 3) := by decide +kernel
theorem d_Se_run_57 : decode prog_9_method_2_code 57 = .ok (.invokevirtual 63, 3) := by decide +kernel
theorem d_Se_run_54 : decode prog_9_method_2_code 54 = .ok (.getfield 31, 3) := by decide +kernel
theorem d_Se_run_50 : decode prog_9_method_2_code 50 = .ok (.invokevirtual 59, 3) := by decide +kernel
theorem d_Se_run_22 : decode prog_9_method_2_code 22 = .ok (.aload_n 0, 1) := by decide +kernel
theorem d_Se_run_23 : decode prog_9_method_2_code 23 = .ok (.iload_n 2, 1) := by decide +kernel
theorem d_Se_run_27 : decode prog_9_method_2_code 27 = .ok (.aload_n 0, 1) := by decide +kernel
theorem d_Se_run_31 : decode prog_9_method_2_code 31 = .ok (.iload_n 1, 1) := by decide +kernel
theorem d_Se_run_49 : decode prog_9_method_2_code 49 = .ok (.iconst 0, 1) := by decide +kernel
theorem d_Se_run_36 : decode prog_9_method_2_code 36 = .ok (.aload_n 0, 1) := by decide +kernel
theorem d_Se_run_46 : decode prog_9_method_2_code 46 = .ok (.goto 4, 3) := by decide +kernel
theorem d_Se_run_45 : decode prog_9_method_2_code 45 = .ok (.iaload, 1) := by decide +kernel
theorem d_Se_run_43 : decode prog_9_method_2_code 43 = .ok (.bipush 8, 2) := by decide +kernel
theorem d_Se_run_40 : decode prog_9_method_2_code 40 = .ok (.getfield 46, 3) := by decide +kernel
theorem d_Se_run_37 : decode prog_9_method_2_code 37 = .ok (.getfield 15, 3) := by decide +kernel
theorem d_Se_run_33 : decode prog_9_method_2_code 33 = .ok (.if_icmp .ne 16, 3) := by decide +kernel
theorem d_Se_run_32 : decode prog_9_method_2_code 32 = .ok (.iconst 3, 1) := by decide +kernel
theorem d_Se_run_28 : decode prog_9_method_2_code 28 = .ok (.getfield 24, 3) := by decide +kernel
theorem d_Se_run_24 : decode prog_9_method_2_code 24 = .ok (.putfield 55, 3) := by decide +kernel
theorem d_Se_run_19 : decode prog_9_method_2_code 19 = .ok (.putfield 51, 3) := by decide +kernel
theorem d_Se_run_18 : decode prog_9_method_2_code 18 = .ok (.iaload, 1) := by decide +kernel
theorem d_Se_run_0 : decode prog_9_method_2_code 0 = .ok (.aload_n 0, 1) := by decide +kernel
theorem d_Se_run_1 : decode prog_9_method_2_code 1 = .ok (.aload_n 0, 1) := by decide +kernel
theorem d_Se_run_8 : decode prog_9_method_2_code 8 = .ok (.iload_n 1, 1) := by decide +kernel
theorem d_Se_run_17 : decode prog_9_method_2_code 17 = .ok (.iconst 1, 1) := by decide +kernel
theorem d_Se_run_14 : decode prog_9_method_2_code 14 = .ok (.goto 4, 3) := by decide +kernel
theorem d_Se_run_13 : decode prog_9_method_2_code 13 = .ok (.iconst 0, 1) := by decide +kernel
theorem d_Se_run_10 : decode prog_9_method_2_code 10 = .ok (.if_icmp .ne 7, 3) := by decide +kernel
theorem d_Se_run_9 : decode prog_9_method_2_code 9 = .ok (.iconst 1, 1) := by decide +kernel
theorem d_Se_run_5 : decode prog_9_method_2_code 5 = .ok (.getfield 46, 3) := by decide +kernel
theorem d_Se_run_2 : decode prog_9_method_2_code 2 = .ok (.getfield 15, 3) := by decide +kernel
abbrev y_Gu_start : MethodName := ⟨"LineBreaker$Gauge", "start", "(I)V"⟩
abbrev rm_Gu_start : Room := { frames := 0, cells := 0, slots := 0, locals := 0 }
set_option maxRecDepth 100000 in
def wp_Gu_start (S : ST) (p1 : Int32) (post : Int32 → Int32 → Prop) : Prop := post p1 (-1)
abbrev y_No_start : MethodName := ⟨"LineBreaker$Nodes", "start", "()V"⟩
abbrev rm_No_start : Room := { frames := 0, cells := 0, slots := 0, locals := 0 }
set_option maxRecDepth 100000 in
def wp_No_start (S : ST) (post : (Nat → Int32) → (Nat → Int32) → (Nat → Int32) → (Nat → Int32) → (Nat → Int64) → Int32 → Prop) : Prop := (vp_in 0 8001 ∧ ∀ f1 : Nat → Int32, f1 = upd (S.1 32) ((0 : Int32).toNatClampNeg) (-1) → (vp_in 0 8001 ∧ ∀ f2 : Nat → Int32, f2 = upd (S.1 33) ((0 : Int32).toNatClampNeg) 0 → (vp_in 0 8001 ∧ ∀ f3 : Nat → Int32, f3 = upd (S.1 34) ((0 : Int32).toNatClampNeg) 2 → (vp_in 0 8001 ∧ ∀ f4 : Nat → Int32, f4 = upd (S.1 35) ((0 : Int32).toNatClampNeg) 0 → (vp_in 0 8001 ∧ ∀ f5 : Nat → Int64, f5 = vp_updL (S.2.1 36) ((0 : Int32).toNatClampNeg) 0 → post f1 f2 f3 f4 f5 1)))))
abbrev y_Ar_fill : MethodName := ⟨"java/util/Arrays", "fill", "([II)V"⟩
abbrev rm_Ar_fill : Room := { frames := 0, cells := 0, slots := 0, locals := 0 }
set_option maxRecDepth 100000 in
def wl_Ar_fill_5 (S : ST) (post : (Nat → Int32) → Prop) : Nat → (Nat → Int32) → Int32 → Int32 → Int32 → Prop
  | 0, _, _, _, _ => False
  | n + 1, a39, x1, x2, x3 => ((x3 ≤ x2 → post a39) ∧ (¬ x3 ≤ x2 → (vp_in x2 1608 ∧ ∀ f1 : Nat → Int32, f1 = upd a39 x2.toNatClampNeg x1 → (∀ v2 : Int32, v2 = x2 + 1 → wl_Ar_fill_5 S post n f1 x1 v2 x3))))
set_option maxRecDepth 100000 in
def wp_Ar_fill (S : ST) (p2 : Int32) (post : (Nat → Int32) → Prop) : Prop := (∃ k9 : Nat, wl_Ar_fill_5 S post  k9 (S.1 39) p2 0 1608)
abbrev y_Of_start : MethodName := ⟨"LineBreaker$Offers", "start", "()V"⟩
abbrev rm_Of_start : Room := { frames := 1, cells := 0, slots := 0, locals := 23 }
set_option maxRecDepth 100000 in
def wp_Of_start (S : ST) (post : (Nat → Int32) → Int32 → Int32 → Prop) : Prop := wp_Ar_fill S (-1) (fun f1 => post f1 401 0)
abbrev y_Ga_isPlace : MethodName := ⟨"LineBreaker$Galley", "isPlace", "(IZ)Z"⟩
abbrev rm_Ga_isPlace : Room := { frames := 0, cells := 0, slots := 0, locals := 0 }
set_option maxRecDepth 100000 in
def wp_Ga_isPlace (S : ST) (p1 : Int32) (p2 : Int32) (post : Int32 → Prop) : Prop := (vp_in p1 403 ∧ ((((S.1 20) p1.toNatClampNeg) = 0 → post 0) ∧ (¬ ((S.1 20) p1.toNatClampNeg) = 0 → ((¬ p2 = 0 → post 1) ∧ (p2 = 0 → (vp_in p1 403 ∧ ((((S.1 18) p1.toNatClampNeg) = 5 → post 0) ∧ (¬ ((S.1 18) p1.toNatClampNeg) = 5 → post 1))))))))
abbrev y_Ga_isHyphen : MethodName := ⟨"LineBreaker$Galley", "isHyphen", "(I)Z"⟩
abbrev rm_Ga_isHyphen : Room := { frames := 0, cells := 0, slots := 0, locals := 0 }
set_option maxRecDepth 100000 in
def wp_Ga_isHyphen (S : ST) (p1 : Int32) (post : Int32 → Prop) : Prop := ((p1 = (-1) → post 0) ∧ (¬ p1 = (-1) → (vp_in p1 403 ∧ ((¬ ((S.1 18) p1.toNatClampNeg) = 5 → post 0) ∧ (((S.1 18) p1.toNatClampNeg) = 5 → post 1)))))
abbrev y_Se_demerits : MethodName := ⟨"LineBreaker$Search", "demerits", "(II)J"⟩
abbrev rm_Se_demerits : Room := { frames := 1, cells := 0, slots := 0, locals := 29 }
set_option maxRecDepth 100000 in
def wl_Se_demerits_164 (S : ST) (post : Int64 → Prop) (x1 : Int32) (x5 : Int64) : Prop := (vp_in x1 8001 ∧ (∀ v1 : Int32, v1 = (if (0 : Int32) ≤ (((S.1 34) x1.toNatClampNeg) - (S.2.2 1925)) then (((S.1 34) x1.toNatClampNeg) - (S.2.2 1925)) else 0 - (((S.1 34) x1.toNatClampNeg) - (S.2.2 1925))) → ((v1 ≤ 1 → post x5) ∧ (¬ v1 ≤ 1 → (vp_in 7 10 ∧ (∀ v2 : Int64, v2 = (x5 + (((S.1 12) (7 : Int32).toNatClampNeg).toInt64)) → post v2))))))
set_option maxRecDepth 100000 in
def wl_Se_demerits_89 (S : ST) (post : Int64 → Prop) (x1 : Int32) (x2 : Int32) (x5 : Int64) : Prop := (vp_in x1 8001 ∧ wp_Ga_isHyphen S ((S.1 32) x1.toNatClampNeg) (fun r1 => ((r1 = 0 → wl_Se_demerits_164 S post  x1 x5) ∧ (¬ r1 = 0 → wp_Ga_isHyphen S x2 (fun r2 => ((r2 = 0 → ((¬ x2 = (S.2.2 1099) → wl_Se_demerits_164 S post  x1 x5) ∧ (x2 = (S.2.2 1099) → (vp_in 6 10 ∧ (∀ v3 : Int64, v3 = (x5 + (((S.1 12) (6 : Int32).toNatClampNeg).toInt64)) → wl_Se_demerits_164 S post  x1 v3))))) ∧ (¬ r2 = 0 → (vp_in 5 10 ∧ (∀ v4 : Int64, v4 = (x5 + (((S.1 12) (5 : Int32).toNatClampNeg).toInt64)) → wl_Se_demerits_164 S post  x1 v4)))))))))
set_option maxRecDepth 100000 in
def wl_Se_demerits_36 (S : ST) (post : Int64 → Prop) (x1 : Int32) (x2 : Int32) (z0 : Int64) : Prop := (vp_in x2 403 ∧ (∀ v1 : Int64, v1 = (((S.1 19) x2.toNatClampNeg).toInt64) → (((lg_cmp v1 0) ≤ 0 → (((lg_cmp v1 (-10000)) = 0 → wl_Se_demerits_89 S post  x1 x2 z0) ∧ (¬ (lg_cmp v1 (-10000)) = 0 → (∀ v2 : Int64, v2 = (z0 - (v1 * v1)) → wl_Se_demerits_89 S post  x1 x2 v2)))) ∧ (¬ (lg_cmp v1 0) ≤ 0 → (∀ v3 : Int64, v3 = (z0 + (v1 * v1)) → wl_Se_demerits_89 S post  x1 x2 v3)))))
set_option maxRecDepth 100000 in
def wp_Se_demerits (S : ST) (p1 : Int32) (p2 : Int32) (post : Int64 → Prop) : Prop := (vp_in 2 10 ∧ (∀ v1 : Int64, v1 = ((((S.1 12) (2 : Int32).toNatClampNeg) + (S.2.2 1924)).toInt64) → (((lg_cmp v1 10000) < 0 → wl_Se_demerits_36 S post  p1 p2 (v1 * v1)) ∧ (¬ (lg_cmp v1 10000) < 0 → wl_Se_demerits_36 S post  p1 p2 100000000))))
abbrev y_Of_take : MethodName := ⟨"LineBreaker$Offers", "take", "(IIIJ)V"⟩
abbrev rm_Of_take : Room := { frames := 1, cells := 0, slots := 0, locals := 29 }
set_option maxRecDepth 100000 in
def wl_Of_take_48 (S : ST) (post : (Nat → Int32) → (Nat → Int64) → Int32 → Int32 → Prop) (a39 : (Nat → Int32)) (l38 : (Nat → Int64)) (x2 : Int32) : Prop := (∀ v1 : Int32, v1 = (if x2 < (S.2.2 2370) then x2 else (S.2.2 2370)) → (∀ v2 : Int32, v2 = (if (S.2.2 2371) < x2 then x2 else (S.2.2 2371)) → post a39 l38 v1 v2))
set_option maxRecDepth 100000 in
def wl_Of_take_31 (S : ST) (post : (Nat → Int32) → (Nat → Int64) → Int32 → Int32 → Prop) (x1 : Int32) (x2 : Int32) (x4 : Int64) (x6 : Int32) : Prop := (vp_in x6 1608 ∧ ∀ f1 : Nat → Int32, f1 = upd (S.1 39) x6.toNatClampNeg x1 → (vp_in x6 1608 ∧ ∀ f2 : Nat → Int64, f2 = vp_updL (S.2.1 38) x6.toNatClampNeg x4 → wl_Of_take_48 S post  f1 f2 x2))
set_option maxRecDepth 100000 in
def wp_Of_take (S : ST) (p1 : Int32) (p2 : Int32) (p3 : Int32) (p4 : Int64) (post : (Nat → Int32) → (Nat → Int64) → Int32 → Int32 → Prop) : Prop := (∀ v1 : Int32, v1 = ((p2 * 4) + p3) → (vp_in v1 1608 ∧ ((((S.1 39) v1.toNatClampNeg) = (-1) → wl_Of_take_31 S post  p1 p2 p4 v1) ∧ (¬ ((S.1 39) v1.toNatClampNeg) = (-1) → (vp_in v1 1608 ∧ ((0 ≤ (lg_cmp p4 ((S.2.1 38) v1.toNatClampNeg)) → wl_Of_take_48 S post  (S.1 39) (S.2.1 38) p2) ∧ (¬ 0 ≤ (lg_cmp p4 ((S.2.1 38) v1.toNatClampNeg)) → wl_Of_take_31 S post  p1 p2 p4 v1)))))))
abbrev y_Se_offerFrom : MethodName := ⟨"LineBreaker$Search", "offerFrom", "(IJ)V"⟩
abbrev rm_Se_offerFrom : Room := { frames := 2, cells := 0, slots := 0, locals := 55 }
set_option maxRecDepth 100000 in
def wp_Se_offerFrom (S : ST) (p1 : Int32) (p2 : Int64) (post : (Nat → Int32) → (Nat → Int64) → Int32 → Int32 → Prop) : Prop := (vp_in p1 8001 ∧ wp_Of_take S p1 (((S.1 33) p1.toNatClampNeg) + 1) (S.2.2 1925) p2 (fun f1 f2 v3 v4 => post f1 f2 v3 v4))
abbrev y_Of_isEmpty : MethodName := ⟨"LineBreaker$Offers", "isEmpty", "()Z"⟩
abbrev rm_Of_isEmpty : Room := { frames := 0, cells := 0, slots := 0, locals := 0 }
set_option maxRecDepth 100000 in
def wp_Of_isEmpty (S : ST) (post : Int32 → Prop) : Prop := (((S.2.2 2370) ≤ (S.2.2 2371) → post 0) ∧ (¬ (S.2.2 2370) ≤ (S.2.2 2371) → post 1))
abbrev y_No_isFull : MethodName := ⟨"LineBreaker$Nodes", "isFull", "()Z"⟩
abbrev rm_No_isFull : Room := { frames := 0, cells := 0, slots := 0, locals := 0 }
set_option maxRecDepth 100000 in
def wp_No_isFull (S : ST) (post : Int32 → Prop) : Prop := (((S.2.2 1989) ≤ 8000 → post 0) ∧ (¬ (S.2.2 1989) ≤ 8000 → post 1))
abbrev y_Of_turnInto : MethodName := ⟨"LineBreaker$Offers", "turnInto", "(LLineBreaker$Nodes;I)Z"⟩
abbrev rm_Of_turnInto : Room := { frames := 1, cells := 0, slots := 0, locals := 20 }
set_option maxRecDepth 100000 in
def wl_Of_turnInto_16 (S : ST) (post : Int32 → (Nat → Int32) → (Nat → Int32) → (Nat → Int32) → (Nat → Int32) → (Nat → Int32) → (Nat → Int64) → Int32 → Int32 → Int32 → Prop) (K5 : (Nat → Int32) → (Nat → Int32) → (Nat → Int32) → (Nat → Int32) → (Nat → Int32) → (Nat → Int64) → Int32 → Int32 → Int32 → Prop) : Nat → (Nat → Int32) → (Nat → Int32) → (Nat → Int32) → (Nat → Int32) → (Nat → Int32) → (Nat → Int64) → Int32 → Int32 → Int32 → Int32 → Prop
  | 0, _, _, _, _, _, _, _, _, _, _ => False
  | n + 1, a32, a33, a34, a35, a39, l36, i1989, x2, x3, x4 => ((x4 < 0 → (∀ v1 : Int32, v1 = x3 + 1 → K5 a32 a33 a34 a35 a39 l36 i1989 x2 v1)) ∧ (¬ x4 < 0 → (∀ v2 : Int32, v2 = ((x3 * 4) + x4) → (vp_in v2 1608 ∧ ((¬ (a39 v2.toNatClampNeg) = (-1) → wp_No_isFull (sI (sL (sA (sA (sA (sA (sA S 32 a32) 33 a33) 34 a34) 35 a35) 39 a39) 36 l36) 1989 i1989)  (fun r3 => ((r3 = 0 → (vp_in i1989 8001 ∧ ∀ f4 : Nat → Int32, f4 = upd a32 i1989.toNatClampNeg x2 → (vp_in i1989 8001 ∧ ∀ f5 : Nat → Int32, f5 = upd a33 i1989.toNatClampNeg x3 → (vp_in i1989 8001 ∧ ∀ f6 : Nat → Int32, f6 = upd a34 i1989.toNatClampNeg x4 → (vp_in v2 1608 ∧ (vp_in i1989 8001 ∧ ∀ f7 : Nat → Int32, f7 = upd a35 i1989.toNatClampNeg (a39 v2.toNatClampNeg) → (vp_in v2 1608 ∧ (vp_in i1989 8001 ∧ ∀ f8 : Nat → Int64, f8 = vp_updL l36 i1989.toNatClampNeg ((S.2.1 38) v2.toNatClampNeg) → (∀ v9 : Int32, v9 = (i1989 + 1) → (vp_in v2 1608 ∧ ∀ f10 : Nat → Int32, f10 = upd a39 v2.toNatClampNeg (-1) → (∀ v11 : Int32, v11 = x4 + (-1) → wl_Of_turnInto_16 S post K5 n f4 f5 f6 f7 f10 f8 v9 x2 x3 v11))))))))))) ∧ (¬ r3 = 0 → post 0 a32 a33 a34 a35 a39 l36 i1989 (S.2.2 2370) (S.2.2 2371))))) ∧ ((a39 v2.toNatClampNeg) = (-1) → (∀ v12 : Int32, v12 = x4 + (-1) → wl_Of_turnInto_16 S post K5 n a32 a33 a34 a35 a39 l36 i1989 x2 x3 v12)))))))
set_option maxRecDepth 100000 in
def wl_Of_turnInto_5 (S : ST) (post : Int32 → (Nat → Int32) → (Nat → Int32) → (Nat → Int32) → (Nat → Int32) → (Nat → Int32) → (Nat → Int64) → Int32 → Int32 → Int32 → Prop) : Nat → (Nat → Int32) → (Nat → Int32) → (Nat → Int32) → (Nat → Int32) → (Nat → Int32) → (Nat → Int64) → Int32 → Int32 → Int32 → Prop
  | 0, _, _, _, _, _, _, _, _, _ => False
  | n + 1, a32, a33, a34, a35, a39, l36, i1989, x2, x3 => (((S.2.2 2371) < x3 → post 1 a32 a33 a34 a35 a39 l36 i1989 401 0) ∧ (¬ (S.2.2 2371) < x3 → (∃ k9 : Nat, wl_Of_turnInto_16 S post (fun a32 a33 a34 a35 a39 l36 i1989 x2 x3 => wl_Of_turnInto_5 S post n a32 a33 a34 a35 a39 l36 i1989 x2 x3) k9 a32 a33 a34 a35 a39 l36 i1989 x2 x3 3)))
set_option maxRecDepth 100000 in
def wp_Of_turnInto (S : ST) (p2 : Int32) (post : Int32 → (Nat → Int32) → (Nat → Int32) → (Nat → Int32) → (Nat → Int32) → (Nat → Int32) → (Nat → Int64) → Int32 → Int32 → Int32 → Prop) : Prop := (∀ v1 : Int32, v1 = (S.2.2 2370) → (∃ k9 : Nat, wl_Of_turnInto_5 S post  k9 (S.1 32) (S.1 33) (S.1 34) (S.1 35) (S.1 39) (S.2.1 36) (S.2.2 1989) p2 v1))
abbrev y_Se_settle : MethodName := ⟨"LineBreaker$Search", "settle", "(I)Z"⟩
abbrev rm_Se_settle : Room := { frames := 2, cells := 0, slots := 0, locals := 46 }
set_option maxRecDepth 100000 in
def wl_Se_settle_33 (S : ST) (post : Int32 → (Nat → Int32) → (Nat → Int32) → (Nat → Int32) → (Nat → Int32) → (Nat → Int32) → (Nat → Int32) → (Nat → Int64) → Int32 → Int32 → Int32 → Int32 → Int32 → Prop) : Nat → (Nat → Int32) → (Nat → Int32) → (Nat → Int32) → (Nat → Int32) → (Nat → Int32) → (Nat → Int32) → (Nat → Int64) → Int32 → Int32 → Int32 → Int32 → Int32 → Int32 → Prop
  | 0, _, _, _, _, _, _, _, _, _, _, _, _, _ => False
  | n + 1, a32, a33, a34, a35, a39, a40, l36, i1862, i1863, i1989, i2370, i2371, x2 => ((i1989 ≤ x2 → post 1 a32 a33 a34 a35 a39 a40 l36 i1862 i1863 i1989 i2370 i2371) ∧ (¬ i1989 ≤ x2 → (vp_in i1862 8001 ∧ ∀ f1 : Nat → Int32, f1 = upd a40 i1862.toNatClampNeg x2 → (∀ v2 : Int32, v2 = (i1862 + 1) → (∀ v3 : Int32, v3 = x2 + 1 → wl_Se_settle_33 S post n a32 a33 a34 a35 a39 f1 l36 v2 i1863 i1989 i2370 i2371 v3)))))
set_option maxRecDepth 100000 in
def wp_Se_settle (S : ST) (p1 : Int32) (post : Int32 → (Nat → Int32) → (Nat → Int32) → (Nat → Int32) → (Nat → Int32) → (Nat → Int32) → (Nat → Int32) → (Nat → Int64) → Int32 → Int32 → Int32 → Int32 → Int32 → Prop) : Prop := (∀ v1 : Int32, v1 = (S.2.2 1989) → wp_Of_turnInto (sI S 1863 v1) p1 (fun r11 f2 f3 f4 f5 f6 f7 v8 v9 v10 => ((¬ r11 = 0 → (∃ k9 : Nat, wl_Se_settle_33 S post  k9 f2 f3 f4 f5 f6 (S.1 40) f7 (S.2.2 1862) v1 v8 v9 v10 v1)) ∧ (r11 = 0 → post 0 f2 f3 f4 f5 f6 (S.1 40) f7 (S.2.2 1862) v1 v8 v9 v10))))
abbrev y_Se_visit : MethodName := ⟨"LineBreaker$Search", "visit", "(I)Z"⟩
abbrev rm_Se_visit : Room := { frames := 4, cells := 0, slots := 0, locals := 103 }
set_option maxRecDepth 100000 in
def wl_Se_visit_217 (S : ST) (post : Int32 → (Nat → Int32) → (Nat → Int32) → (Nat → Int32) → (Nat → Int32) → (Nat → Int32) → (Nat → Int32) → (Nat → Int64) → (Nat → Int64) → Int32 → Int32 → Int32 → Int32 → Int32 → Int32 → Int32 → Int32 → Int32 → Int32 → Int32 → Prop) (a39 : (Nat → Int32)) (a40 : (Nat → Int32)) (l38 : (Nat → Int64)) (i1862 : Int32) (i1923 : Int32) (i1924 : Int32) (i1925 : Int32) (i1926 : Int32) (i1927 : Int32) (i1928 : Int32) (i2370 : Int32) (i2371 : Int32) (x1 : Int32) : Prop := wp_Se_settle (sI (sI (sI (sI (sI (sI (sI (sI (sI (sL (sA (sA S 39 a39) 40 a40) 38 l38) 1862 i1862) 1923 i1923) 1924 i1924) 1925 i1925) 1926 i1926) 1927 i1927) 1928 i1928) 2370 i2370) 2371 i2371) x1 (fun r13 f1 f2 f3 f4 f5 f6 f7 v8 v9 v10 v11 v12 => ((r13 = 0 ∨ r13 = 1) ∧ post r13 f1 f2 f3 f4 f5 f6 f7 l38 v8 v9 i1923 i1924 i1925 i1926 i1927 i1928 v10 v11 v12))
set_option maxRecDepth 100000 in
def wl_Se_visit_123 (S : ST) (post : Int32 → (Nat → Int32) → (Nat → Int32) → (Nat → Int32) → (Nat → Int32) → (Nat → Int32) → (Nat → Int32) → (Nat → Int64) → (Nat → Int64) → Int32 → Int32 → Int32 → Int32 → Int32 → Int32 → Int32 → Int32 → Int32 → Int32 → Int32 → Prop) (K29 : (Nat → Int32) → (Nat → Int32) → (Nat → Int64) → Int32 → Int32 → Int32 → Int32 → Int32 → Int32 → Int32 → Int32 → Int32 → Int32 → Int32 → Int32 → Int32 → Prop) (a39 : (Nat → Int32)) (a40 : (Nat → Int32)) (l38 : (Nat → Int64)) (i1923 : Int32) (i1924 : Int32) (i1925 : Int32) (i1926 : Int32) (i1927 : Int32) (i1928 : Int32) (i2370 : Int32) (i2371 : Int32) (x1 : Int32) (x2 : Int32) (x3 : Int32) (x4 : Int32) (x5 : Int32) (x6 : Int32) : Prop := ((x4 = (-1) → (∀ v1 : Int32, v1 = x5 + 1 → K29 a39 a40 l38 i1923 i1924 i1925 i1926 i1927 i1928 i2370 i2371 x1 x2 x3 x6 v1)) ∧ (¬ x4 = (-1) → (vp_in x6 8001 ∧ (vp_in x4 8001 ∧ ((((S.1 33) x6.toNatClampNeg) ≤ ((S.1 33) x4.toNatClampNeg) → (∀ v2 : Int32, v2 = x5 + 1 → K29 a39 a40 l38 i1923 i1924 i1925 i1926 i1927 i1928 i2370 i2371 x1 x2 x3 x4 v2)) ∧ (¬ ((S.1 33) x6.toNatClampNeg) ≤ ((S.1 33) x4.toNatClampNeg) → (∀ v3 : Int32, v3 = x5 + 1 → K29 a39 a40 l38 i1923 i1924 i1925 i1926 i1927 i1928 i2370 i2371 x1 x2 x3 x6 v3)))))))
set_option maxRecDepth 100000 in
def wl_Se_visit_92 (S : ST) (post : Int32 → (Nat → Int32) → (Nat → Int32) → (Nat → Int32) → (Nat → Int32) → (Nat → Int32) → (Nat → Int32) → (Nat → Int64) → (Nat → Int64) → Int32 → Int32 → Int32 → Int32 → Int32 → Int32 → Int32 → Int32 → Int32 → Int32 → Int32 → Prop) (K29 : (Nat → Int32) → (Nat → Int32) → (Nat → Int64) → Int32 → Int32 → Int32 → Int32 → Int32 → Int32 → Int32 → Int32 → Int32 → Int32 → Int32 → Int32 → Int32 → Prop) (a39 : (Nat → Int32)) (a40 : (Nat → Int32)) (l38 : (Nat → Int64)) (i1923 : Int32) (i1924 : Int32) (i1925 : Int32) (i1926 : Int32) (i1927 : Int32) (i1928 : Int32) (i2370 : Int32) (i2371 : Int32) (x1 : Int32) (x2 : Int32) (x3 : Int32) (x4 : Int32) (x5 : Int32) (x6 : Int32) : Prop := ((¬ x2 = 0 → wl_Se_visit_123 S post K29 a39 a40 l38 i1923 i1924 i1925 i1926 i1927 i1928 i2370 i2371 x1 x2 x3 x4 x5 x6) ∧ (x2 = 0 → ((i1924 = 10001 → wl_Se_visit_123 S post K29 a39 a40 l38 i1923 i1924 i1925 i1926 i1927 i1928 i2370 i2371 x1 x2 x3 x4 x5 x6) ∧ (¬ i1924 = 10001 → (vp_in x3 8001 ∧ ∀ f1 : Nat → Int32, f1 = upd a40 x3.toNatClampNeg x6 → (∀ v2 : Int32, v2 = x3 + 1 → (∀ v3 : Int32, v3 = x5 + 1 → K29 a39 f1 l38 i1923 i1924 i1925 i1926 i1927 i1928 i2370 i2371 x1 x2 v2 x4 v3)))))))
set_option maxRecDepth 100000 in
def wl_Se_visit_29 (S : ST) (post : Int32 → (Nat → Int32) → (Nat → Int32) → (Nat → Int32) → (Nat → Int32) → (Nat → Int32) → (Nat → Int32) → (Nat → Int64) → (Nat → Int64) → Int32 → Int32 → Int32 → Int32 → Int32 → Int32 → Int32 → Int32 → Int32 → Int32 → Int32 → Prop) : Nat → (Nat → Int32) → (Nat → Int32) → (Nat → Int64) → Int32 → Int32 → Int32 → Int32 → Int32 → Int32 → Int32 → Int32 → Int32 → Int32 → Int32 → Int32 → Int32 → Prop
  | 0, _, _, _, _, _, _, _, _, _, _, _, _, _, _, _, _ => False
  | n + 1, a39, a40, l38, i1923, i1924, i1925, i1926, i1927, i1928, i2370, i2371, x1, x2, x3, x4, x5 => (((S.2.2 1862) ≤ x5 → (((S.2.2 1865) = 0 → wl_Se_visit_217 S post  a39 a40 l38 x3 i1923 i1924 i1925 i1926 i1927 i1928 i2370 i2371 x1) ∧ (¬ (S.2.2 1865) = 0 → ((¬ x3 = 0 → wl_Se_visit_217 S post  a39 a40 l38 x3 i1923 i1924 i1925 i1926 i1927 i1928 i2370 i2371 x1) ∧ (x3 = 0 → wp_Of_isEmpty (sI (sI (sI (sI (sI (sI (sI (sI (sI (sL (sA (sA S 39 a39) 40 a40) 38 l38) 1862 x3) 1923 i1923) 1924 i1924) 1925 i1925) 1926 i1926) 1927 i1927) 1928 i1928) 2370 i2370) 2371 i2371)  (fun r1 => ((r1 = 0 → wl_Se_visit_217 S post  a39 a40 l38 x3 i1923 i1924 i1925 i1926 i1927 i1928 i2370 i2371 x1) ∧ (¬ r1 = 0 → ((x4 = (-1) → wl_Se_visit_217 S post  a39 a40 l38 x3 i1923 i1924 i1925 i1926 i1927 i1928 i2370 i2371 x1) ∧ (¬ x4 = (-1) → wp_Se_measureFrom (sI (sI (sI (sI (sI (sI (sI (sI (sI (sL (sA (sA S 39 a39) 40 a40) 38 l38) 1862 x3) 1923 i1923) 1924 i1924) 1925 i1925) 1926 i1926) 1927 i1927) 1928 i1928) 2370 i2370) 2371 i2371) x4 x1 (fun v2 v3 v4 v5 v6 v7 => (vp_in x4 8001 ∧ wp_Se_offerFrom (sI (sI (sI (sI (sI (sI (sI (sI (sI (sL (sA (sA S 39 a39) 40 a40) 38 l38) 1862 x3) 1923 v2) 1924 v3) 1925 v4) 1926 v5) 1927 v6) 1928 v7) 2370 i2370) 2371 i2371) x4 ((S.2.1 36) x4.toNatClampNeg) (fun f8 f9 v10 v11 => wl_Se_visit_217 S post  f8 a40 f9 x3 v2 v3 v4 v5 v6 v7 v10 v11 x1))))))))))))) ∧ (¬ (S.2.2 1862) ≤ x5 → (vp_in x5 8001 ∧ (∀ v12 : Int32, v12 = (a40 x5.toNatClampNeg) → wp_Se_measureFrom (sI (sI (sI (sI (sI (sI (sI (sI (sL (sA (sA S 39 a39) 40 a40) 38 l38) 1923 i1923) 1924 i1924) 1925 i1925) 1926 i1926) 1927 i1927) 1928 i1928) 2370 i2370) 2371 i2371) v12 x1 (fun v13 v14 v15 v16 v17 v18 => (((S.2.2 1864) < v14 → wl_Se_visit_92 S post (fun a39 a40 l38 i1923 i1924 i1925 i1926 i1927 i1928 i2370 i2371 x1 x2 x3 x4 x5 => wl_Se_visit_29 S post n a39 a40 l38 i1923 i1924 i1925 i1926 i1927 i1928 i2370 i2371 x1 x2 x3 x4 x5) a39 a40 l38 v13 v14 v15 v16 v17 v18 i2370 i2371 x1 x2 x3 x4 x5 v12) ∧ (¬ (S.2.2 1864) < v14 → (vp_in v12 8001 ∧ wp_Se_demerits (sI (sI (sI (sI (sI (sI (sI (sI (sL (sA (sA S 39 a39) 40 a40) 38 l38) 1923 v13) 1924 v14) 1925 v15) 1926 v16) 1927 v17) 1928 v18) 2370 i2370) 2371 i2371) v12 x1 (fun r19 => wp_Se_offerFrom (sI (sI (sI (sI (sI (sI (sI (sI (sL (sA (sA S 39 a39) 40 a40) 38 l38) 1923 v13) 1924 v14) 1925 v15) 1926 v16) 1927 v17) 1928 v18) 2370 i2370) 2371 i2371) v12 (((S.2.1 36) v12.toNatClampNeg) + r19) (fun f20 f21 v22 v23 => wl_Se_visit_92 S post (fun a39 a40 l38 i1923 i1924 i1925 i1926 i1927 i1928 i2370 i2371 x1 x2 x3 x4 x5 => wl_Se_visit_29 S post n a39 a40 l38 i1923 i1924 i1925 i1926 i1927 i1928 i2370 i2371 x1 x2 x3 x4 x5) f20 a40 f21 v13 v14 v15 v16 v17 v18 v22 v23 x1 x2 x3 x4 x5 v12))))))))))
set_option maxRecDepth 100000 in
def wl_Se_visit_20 (S : ST) (post : Int32 → (Nat → Int32) → (Nat → Int32) → (Nat → Int32) → (Nat → Int32) → (Nat → Int32) → (Nat → Int32) → (Nat → Int64) → (Nat → Int64) → Int32 → Int32 → Int32 → Int32 → Int32 → Int32 → Int32 → Int32 → Int32 → Int32 → Int32 → Prop) (x1 : Int32) (z0 : Int32) : Prop := (∃ k9 : Nat, wl_Se_visit_29 S post  k9 (S.1 39) (S.1 40) (S.2.1 38) (S.2.2 1923) (S.2.2 1924) (S.2.2 1925) (S.2.2 1926) (S.2.2 1927) (S.2.2 1928) (S.2.2 2370) (S.2.2 2371) x1 z0 0 (-1) 0)
set_option maxRecDepth 100000 in
def wp_Se_visit (S : ST) (p1 : Int32) (post : Int32 → (Nat → Int32) → (Nat → Int32) → (Nat → Int32) → (Nat → Int32) → (Nat → Int32) → (Nat → Int32) → (Nat → Int64) → (Nat → Int64) → Int32 → Int32 → Int32 → Int32 → Int32 → Int32 → Int32 → Int32 → Int32 → Int32 → Int32 → Prop) : Prop := (vp_in p1 403 ∧ ((¬ ((S.1 19) p1.toNatClampNeg) = (-10000) → wl_Se_visit_20 S post  p1 0) ∧ (((S.1 19) p1.toNatClampNeg) = (-10000) → wl_Se_visit_20 S post  p1 1)))
abbrev y_No_isBetter : MethodName := ⟨"LineBreaker$Nodes", "isBetter", "(II)Z"⟩
abbrev rm_No_isBetter : Room := { frames := 0, cells := 0, slots := 0, locals := 0 }
set_option maxRecDepth 100000 in
def wp_No_isBetter (S : ST) (p1 : Int32) (p2 : Int32) (post : Int32 → Prop) : Prop := (vp_in p1 8001 ∧ (vp_in p2 8001 ∧ (((lg_cmp ((S.2.1 36) p1.toNatClampNeg) ((S.2.1 36) p2.toNatClampNeg)) = 0 → (vp_in p1 8001 ∧ (vp_in p2 8001 ∧ ((((S.1 33) p1.toNatClampNeg) = ((S.1 33) p2.toNatClampNeg) → (vp_in p1 8001 ∧ (vp_in p2 8001 ∧ ((((S.1 34) p2.toNatClampNeg) ≤ ((S.1 34) p1.toNatClampNeg) → post 0) ∧ (¬ ((S.1 34) p2.toNatClampNeg) ≤ ((S.1 34) p1.toNatClampNeg) → post 1))))) ∧ (¬ ((S.1 33) p1.toNatClampNeg) = ((S.1 33) p2.toNatClampNeg) → (vp_in p1 8001 ∧ (vp_in p2 8001 ∧ ((((S.1 33) p2.toNatClampNeg) ≤ ((S.1 33) p1.toNatClampNeg) → post 0) ∧ (¬ ((S.1 33) p2.toNatClampNeg) ≤ ((S.1 33) p1.toNatClampNeg) → post 1))))))))) ∧ (¬ (lg_cmp ((S.2.1 36) p1.toNatClampNeg) ((S.2.1 36) p2.toNatClampNeg)) = 0 → (vp_in p1 8001 ∧ (vp_in p2 8001 ∧ ((0 ≤ (lg_cmp ((S.2.1 36) p1.toNatClampNeg) ((S.2.1 36) p2.toNatClampNeg)) → post 0) ∧ (¬ 0 ≤ (lg_cmp ((S.2.1 36) p1.toNatClampNeg) ((S.2.1 36) p2.toNatClampNeg)) → post 1))))))))
abbrev y_Se_isPreferred : MethodName := ⟨"LineBreaker$Search", "isPreferred", "(IIII)Z"⟩
abbrev rm_Se_isPreferred : Room := { frames := 1, cells := 0, slots := 0, locals := 29 }
set_option maxRecDepth 100000 in
def wp_Se_isPreferred (S : ST) (p1 : Int32) (p2 : Int32) (p3 : Int32) (p4 : Int32) (post : Int32 → Prop) : Prop := (vp_in p1 8001 ∧ (∀ v1 : Int32, v1 = ((S.1 33) p1.toNatClampNeg) → (vp_in p3 8001 ∧ (∀ v2 : Int32, v2 = (if p4 < ((S.1 33) p3.toNatClampNeg) then p4 else ((S.1 33) p3.toNatClampNeg)) → (vp_in p3 8001 ∧ (∀ v3 : Int32, v3 = (if ((S.1 33) p3.toNatClampNeg) < p4 then p4 else ((S.1 33) p3.toNatClampNeg)) → ((v1 < v2 → post 0) ∧ (¬ v1 < v2 → ((v1 ≤ v3 → (∀ v4 : Int32, v4 = (if (0 : Int32) ≤ (v1 - p4) then (v1 - p4) else 0 - (v1 - p4)) → (vp_in p2 8001 ∧ (∀ v5 : Int32, v5 = (if (0 : Int32) ≤ (((S.1 33) p2.toNatClampNeg) - p4) then (((S.1 33) p2.toNatClampNeg) - p4) else 0 - (((S.1 33) p2.toNatClampNeg) - p4)) → ((v4 < v5 → post 1) ∧ (¬ v4 < v5 → ((¬ v4 = v5 → post 0) ∧ (v4 = v5 → wp_No_isBetter S p1 p2 (fun r6 => ((r6 = 0 → post 0) ∧ (¬ r6 = 0 → post 1))))))))))) ∧ (¬ v1 ≤ v3 → post 0))))))))))
abbrev y_Se_choose : MethodName := ⟨"LineBreaker$Search", "choose", "()I"⟩
abbrev rm_Se_choose : Room := { frames := 2, cells := 0, slots := 0, locals := 58 }
set_option maxRecDepth 100000 in
def wl_Se_choose_81 (S : ST) (post : Int32 → Prop) : Nat → Int32 → Int32 → Int32 → Int32 → Prop
  | 0, _, _, _, _ => False
  | n + 1, x1, x2, x3, x4 => (((S.2.2 1989) ≤ x4 → ((¬ (S.2.2 1865) = 0 → post x3) ∧ ((S.2.2 1865) = 0 → (vp_in x3 8001 ∧ ((¬ ((S.1 33) x3.toNatClampNeg) = x2 → post 0) ∧ (((S.1 33) x3.toNatClampNeg) = x2 → post x3)))))) ∧ (¬ (S.2.2 1989) ≤ x4 → wp_Se_isPreferred S x4 x3 x1 x2 (fun r1 => ((r1 = 0 → (∀ v2 : Int32, v2 = x4 + 1 → wl_Se_choose_81 S post n x1 x2 x3 v2)) ∧ (¬ r1 = 0 → (∀ v3 : Int32, v3 = x4 + 1 → wl_Se_choose_81 S post n x1 x2 x4 v3))))))
set_option maxRecDepth 100000 in
def wl_Se_choose_21 (S : ST) (post : Int32 → Prop) : Nat → Int32 → Int32 → Prop
  | 0, _, _ => False
  | n + 1, x1, x2 => (((S.2.2 1989) ≤ x2 → (vp_in x1 8001 ∧ (vp_in 9 10 ∧ (∀ v1 : Int32, v1 = (((S.1 33) x1.toNatClampNeg) + ((S.1 12) (9 : Int32).toNatClampNeg)) → (∀ v2 : Int32, v2 = (S.2.2 1863) → (∃ k9 : Nat, wl_Se_choose_81 S post  k9 x1 v1 x1 v2)))))) ∧ (¬ (S.2.2 1989) ≤ x2 → wp_No_isBetter S x2 x1 (fun r3 => ((r3 = 0 → (∀ v4 : Int32, v4 = x2 + 1 → wl_Se_choose_21 S post n x1 v4)) ∧ (¬ r3 = 0 → (∀ v5 : Int32, v5 = x2 + 1 → wl_Se_choose_21 S post n x2 v5))))))
set_option maxRecDepth 100000 in
def wp_Se_choose (S : ST) (post : Int32 → Prop) : Prop := ((¬ (S.2.2 1862) = 0 → (∀ v1 : Int32, v1 = (S.2.2 1863) → (∀ v2 : Int32, v2 = ((S.2.2 1863) + 1) → (∃ k9 : Nat, wl_Se_choose_21 S post  k9 v1 v2)))) ∧ ((S.2.2 1862) = 0 → post 0))
abbrev y_Se_run : MethodName := ⟨"LineBreaker$Search", "run", "(IZ)I"⟩
abbrev rm_Se_run : Room := { frames := 5, cells := 0, slots := 0, locals := 129 }
set_option maxRecDepth 100000 in
def wl_Se_run_137 (S : ST) (post : Int32 → (Nat → Int32) → (Nat → Int32) → (Nat → Int32) → (Nat → Int32) → (Nat → Int32) → (Nat → Int32) → (Nat → Int64) → (Nat → Int64) → Int32 → Int32 → Int32 → Int32 → Int32 → Int32 → Int32 → Int32 → Int32 → Int32 → Int32 → Int32 → Int32 → Int32 → Prop) (a32 : (Nat → Int32)) (a33 : (Nat → Int32)) (a34 : (Nat → Int32)) (a35 : (Nat → Int32)) (a39 : (Nat → Int32)) (a40 : (Nat → Int32)) (l36 : (Nat → Int64)) (l38 : (Nat → Int64)) (i1862 : Int32) (i1863 : Int32) (i1864 : Int32) (i1865 : Int32) (i1922 : Int32) (i1923 : Int32) (i1924 : Int32) (i1925 : Int32) (i1926 : Int32) (i1927 : Int32) (i1928 : Int32) (i1989 : Int32) (i2370 : Int32) (i2371 : Int32) : Prop := wp_Se_choose (sI (sI (sI (sI (sI (sI (sI (sI (sI (sI (sI (sI (sI (sI (sL (sL (sA (sA (sA (sA (sA (sA S 32 a32) 33 a33) 34 a34) 35 a35) 39 a39) 40 a40) 36 l36) 38 l38) 1862 i1862) 1863 i1863) 1864 i1864) 1865 i1865) 1922 i1922) 1923 i1923) 1924 i1924) 1925 i1925) 1926 i1926) 1927 i1927) 1928 i1928) 1989 i1989) 2370 i2370) 2371 i2371)  (fun r1 => post r1 a32 a33 a34 a35 a39 a40 l36 l38 i1862 i1863 i1864 i1865 i1922 i1923 i1924 i1925 i1926 i1927 i1928 i1989 i2370 i2371)
set_option maxRecDepth 100000 in
def wl_Se_run_114 (S : ST) (post : Int32 → (Nat → Int32) → (Nat → Int32) → (Nat → Int32) → (Nat → Int32) → (Nat → Int32) → (Nat → Int32) → (Nat → Int64) → (Nat → Int64) → Int32 → Int32 → Int32 → Int32 → Int32 → Int32 → Int32 → Int32 → Int32 → Int32 → Int32 → Int32 → Int32 → Int32 → Prop) (K81 : (Nat → Int32) → (Nat → Int32) → (Nat → Int32) → (Nat → Int32) → (Nat → Int32) → (Nat → Int32) → (Nat → Int64) → (Nat → Int64) → Int32 → Int32 → Int32 → Int32 → Int32 → Int32 → Int32 → Int32 → Int32 → Int32 → Int32 → Int32 → Int32 → Int32 → Int32 → Int32 → Prop) (a32 : (Nat → Int32)) (a33 : (Nat → Int32)) (a34 : (Nat → Int32)) (a35 : (Nat → Int32)) (a39 : (Nat → Int32)) (a40 : (Nat → Int32)) (l36 : (Nat → Int64)) (l38 : (Nat → Int64)) (i1862 : Int32) (i1863 : Int32) (i1864 : Int32) (i1865 : Int32) (i1922 : Int32) (i1923 : Int32) (i1924 : Int32) (i1925 : Int32) (i1926 : Int32) (i1927 : Int32) (i1928 : Int32) (i1989 : Int32) (i2370 : Int32) (i2371 : Int32) (x1 : Int32) (x3 : Int32) (z1 : Int32) (z2 : Int32) : Prop := wp_Ga_isPlace (sI (sI (sI (sI (sI (sI (sI (sI (sI (sI (sI (sI (sI (sI (sL (sL (sA (sA (sA (sA (sA (sA S 32 a32) 33 a33) 34 a34) 35 a35) 39 a39) 40 a40) 36 l36) 38 l38) 1862 i1862) 1863 i1863) 1864 i1864) 1865 i1865) 1922 i1922) 1923 i1923) 1924 i1924) 1925 i1925) 1926 i1926) 1927 i1927) 1928 i1928) 1989 i1989) 2370 i2370) 2371 i2371) z1 z2 (fun r1 => ((r1 = 0 → (∀ v2 : Int32, v2 = x3 + 1 → K81 a32 a33 a34 a35 a39 a40 l36 l38 i1862 i1863 i1864 i1865 i1922 i1923 i1924 i1925 i1926 i1927 i1928 i1989 i2370 i2371 x1 v2)) ∧ (¬ r1 = 0 → wp_Se_visit (sI (sI (sI (sI (sI (sI (sI (sI (sI (sI (sI (sI (sI (sI (sL (sL (sA (sA (sA (sA (sA (sA S 32 a32) 33 a33) 34 a34) 35 a35) 39 a39) 40 a40) 36 l36) 38 l38) 1862 i1862) 1863 i1863) 1864 i1864) 1865 i1865) 1922 i1922) 1923 i1923) 1924 i1924) 1925 i1925) 1926 i1926) 1927 i1927) 1928 i1928) 1989 i1989) 2370 i2370) 2371 i2371) x3 (fun r22 f3 f4 f5 f6 f7 f8 f9 f10 v11 v12 v13 v14 v15 v16 v17 v18 v19 v20 v21 => ((¬ r22 = 0 → (∀ v23 : Int32, v23 = x3 + 1 → K81 f3 f4 f5 f6 f7 f8 f9 f10 v11 v12 i1864 i1865 i1922 v13 v14 v15 v16 v17 v18 v19 v20 v21 x1 v23)) ∧ (r22 = 0 → post (-2) f3 f4 f5 f6 f7 f8 f9 f10 v11 v12 i1864 i1865 i1922 v13 v14 v15 v16 v17 v18 v19 v20 v21))))))
set_option maxRecDepth 100000 in
def wl_Se_run_81 (S : ST) (post : Int32 → (Nat → Int32) → (Nat → Int32) → (Nat → Int32) → (Nat → Int32) → (Nat → Int32) → (Nat → Int32) → (Nat → Int64) → (Nat → Int64) → Int32 → Int32 → Int32 → Int32 → Int32 → Int32 → Int32 → Int32 → Int32 → Int32 → Int32 → Int32 → Int32 → Int32 → Prop) : Nat → (Nat → Int32) → (Nat → Int32) → (Nat → Int32) → (Nat → Int32) → (Nat → Int32) → (Nat → Int32) → (Nat → Int64) → (Nat → Int64) → Int32 → Int32 → Int32 → Int32 → Int32 → Int32 → Int32 → Int32 → Int32 → Int32 → Int32 → Int32 → Int32 → Int32 → Int32 → Int32 → Prop
  | 0, _, _, _, _, _, _, _, _, _, _, _, _, _, _, _, _, _, _, _, _, _, _, _, _ => False
  | n + 1, a32, a33, a34, a35, a39, a40, l36, l38, i1862, i1863, i1864, i1865, i1922, i1923, i1924, i1925, i1926, i1927, i1928, i1989, i2370, i2371, x1, x3 => (((S.2.2 1099) < x3 → wl_Se_run_137 S post  a32 a33 a34 a35 a39 a40 l36 l38 i1862 i1863 i1864 i1865 i1922 i1923 i1924 i1925 i1926 i1927 i1928 i1989 i2370 i2371) ∧ (¬ (S.2.2 1099) < x3 → ((i1862 ≤ 0 → wl_Se_run_137 S post  a32 a33 a34 a35 a39 a40 l36 l38 i1862 i1863 i1864 i1865 i1922 i1923 i1924 i1925 i1926 i1927 i1928 i1989 i2370 i2371) ∧ (¬ i1862 ≤ 0 → ((x1 ≤ 1 → wl_Se_run_114 S post (fun a32 a33 a34 a35 a39 a40 l36 l38 i1862 i1863 i1864 i1865 i1922 i1923 i1924 i1925 i1926 i1927 i1928 i1989 i2370 i2371 x1 x3 => wl_Se_run_81 S post n a32 a33 a34 a35 a39 a40 l36 l38 i1862 i1863 i1864 i1865 i1922 i1923 i1924 i1925 i1926 i1927 i1928 i1989 i2370 i2371 x1 x3) a32 a33 a34 a35 a39 a40 l36 l38 i1862 i1863 i1864 i1865 i1922 i1923 i1924 i1925 i1926 i1927 i1928 i1989 i2370 i2371 x1 x3 x3 0) ∧ (¬ x1 ≤ 1 → wl_Se_run_114 S post (fun a32 a33 a34 a35 a39 a40 l36 l38 i1862 i1863 i1864 i1865 i1922 i1923 i1924 i1925 i1926 i1927 i1928 i1989 i2370 i2371 x1 x3 => wl_Se_run_81 S post n a32 a33 a34 a35 a39 a40 l36 l38 i1862 i1863 i1864 i1865 i1922 i1923 i1924 i1925 i1926 i1927 i1928 i1989 i2370 i2371 x1 x3) a32 a33 a34 a35 a39 a40 l36 l38 i1862 i1863 i1864 i1865 i1922 i1923 i1924 i1925 i1926 i1927 i1928 i1989 i2370 i2371 x1 x3 x3 1))))))
set_option maxRecDepth 100000 in
def wl_Se_run_50 (S : ST) (post : Int32 → (Nat → Int32) → (Nat → Int32) → (Nat → Int32) → (Nat → Int32) → (Nat → Int32) → (Nat → Int32) → (Nat → Int64) → (Nat → Int64) → Int32 → Int32 → Int32 → Int32 → Int32 → Int32 → Int32 → Int32 → Int32 → Int32 → Int32 → Int32 → Int32 → Int32 → Prop) (i1864 : Int32) (i1865 : Int32) (x1 : Int32) (z1 : Int32) : Prop := wp_Gu_start (sI (sI S 1864 i1864) 1865 i1865) z1 (fun v1 v2 => wp_No_start (sI (sI (sI (sI S 1864 i1864) 1865 i1865) 1922 v1) 1927 v2)  (fun f3 f4 f5 f6 f7 v8 => wp_Of_start (sI (sI (sI (sI (sI (sL (sA (sA (sA (sA S 32 f3) 33 f4) 34 f5) 35 f6) 36 f7) 1864 i1864) 1865 i1865) 1922 v1) 1927 v2) 1989 v8)  (fun f9 v10 v11 => (vp_in 0 8001 ∧ ∀ f12 : Nat → Int32, f12 = upd (S.1 40) ((0 : Int32).toNatClampNeg) 0 → (∃ k9 : Nat, wl_Se_run_81 S post  k9 f3 f4 f5 f6 f9 f12 f7 (S.2.1 38) 1 (S.2.2 1863) i1864 i1865 v1 (S.2.2 1923) (S.2.2 1924) (S.2.2 1925) (S.2.2 1926) v2 (S.2.2 1928) v8 v10 v11 x1 0)))))
set_option maxRecDepth 100000 in
def wl_Se_run_18 (S : ST) (post : Int32 → (Nat → Int32) → (Nat → Int32) → (Nat → Int32) → (Nat → Int32) → (Nat → Int32) → (Nat → Int32) → (Nat → Int64) → (Nat → Int64) → Int32 → Int32 → Int32 → Int32 → Int32 → Int32 → Int32 → Int32 → Int32 → Int32 → Int32 → Int32 → Int32 → Int32 → Prop) (x1 : Int32) (x2 : Int32) (z2 : Int32) : Prop := (vp_in z2 10 ∧ (∀ v1 : Int32, v1 = ((S.1 12) z2.toNatClampNeg) → ((x2 = 0 ∨ x2 = 1) ∧ ((¬ x1 = 3 → wl_Se_run_50 S post  v1 x2 x1 0) ∧ (x1 = 3 → (vp_in 8 10 ∧ wl_Se_run_50 S post  v1 x2 x1 ((S.1 12) (8 : Int32).toNatClampNeg)))))))
set_option maxRecDepth 100000 in
def wp_Se_run (S : ST) (p1 : Int32) (p2 : Int32) (post : Int32 → (Nat → Int32) → (Nat → Int32) → (Nat → Int32) → (Nat → Int32) → (Nat → Int32) → (Nat → Int32) → (Nat → Int64) → (Nat → Int64) → Int32 → Int32 → Int32 → Int32 → Int32 → Int32 → Int32 → Int32 → Int32 → Int32 → Int32 → Int32 → Int32 → Int32 → Prop) : Prop := ((¬ p1 = 1 → wl_Se_run_18 S post  p1 p2 1) ∧ (p1 = 1 → wl_Se_run_18 S post  p1 p2 0))
section
variable {p : Program} {l : Launch} {e : Env} {s : State} {m : MethodId} {args : Array Value} {below : List Frame} {meth : Method} {c : Code} {n0 : Nat} {G : va_G} {K : KT} {ad : Nat → Nat} {X : va_W}
set_option maxHeartbeats 4000000 in
set_option maxRecDepth 100000 in
theorem c_Gu_start (l : Launch) (n0 : Nat) (G : va_G) (K : KT) (ad : Nat → Nat) (X : va_W) (S : ST) (p1 : Int32) (post : Int32 → Int32 → Prop) (hw : wp_Gu_start S p1 post) : Met l y_Gu_start (Cond.code y_Gu_start prog_3_method_2_code 2 none :: gw) rm_Gu_start (va_Pc [.ref (ad 30), .int p1] (wb n0 G K (wC K ad S ++ X))) (va_Qv (fun (u : Int32 × Int32) => post u.1 u.2) (fun (u : Int32 × Int32) t => we n0 G (wC K ad (sI (sI S 1922 u.1) 1927 u.2) ++ X) t) (al n0)) 0 0 (al n0) := by
  refine kb_start (own := "LineBreaker$Gauge") (by decide +kernel) rfl ?_
  intro p e s m below meth c C hr hnm w
  have hx := C.1
  have hb := C.2.1
  have hts := C.2.2.2.2.1
  have hl := lv_entry ([.ref (ad 30), .int p1]) (n := 2) (Nat.le_of_ble_eq_true rfl)
  rw [lg_entry_eq]
  generalize (lg_sl ([.ref (ad 30), .int p1]) ++ List.replicate (2 - (lg_sl ([.ref (ad 30), .int p1])).length) Slot.unset).toArray = ls at hl ⊢
  have hl : lv_has ls 2 [(0, .ref (ad 30)), (1, .int p1)] := hl
  unfold wp_Gu_start at hw
  refine lv_aload_n hx hb d_Gu_start_0 rfl (lv_at hl 0 rfl) ?_
  refine lv_iload_n hx hb d_Gu_start_1 rfl (lv_at hl 1 rfl) ?_
  refine kp (C1 := R_Gu) (T := F_Gu) (N := 9) (ci := 1) (ty0 := t_Gu) (ref := "LineBreaker$Gauge") (w2 := wC K ad (sI S 1922 p1) ++ X) C w 30 2 iw_Gu tk_Gu n_Gu rfl rfl (by decide) kw_201 rfl rfl rfl rfl (Nat.le_of_ble_eq_true rfl) rfl d_Gu_start_2 (fun H locs w => ?_)
  refine lv_aload_n hx hb d_Gu_start_5 rfl (lv_at hl 0 rfl) ?_
  refine lv_iconst (v := (-1)) hx hb d_Gu_start_6 (by decide) ?_
  refine kp (C1 := R_Gu) (T := F_Gu) (N := 9) (ci := 1) (ty0 := t_Gu) (ref := "LineBreaker$Gauge") (w2 := wC K ad (sI (sI S 1922 p1) 1927 (-1)) ++ X) C w 30 7 iw_Gu tk_Gu n_Gu rfl rfl (by decide) kw_211 rfl rfl rfl rfl (Nat.le_of_ble_eq_true rfl) rfl d_Gu_start_7 (fun H locs w => ?_)
  exact ke_v (post := (fun (u : Int32 × Int32) => post u.1 u.2)) (st := (fun (u : Int32 × Int32) => wC K ad (sI (sI S 1922 u.1) 1927 u.2) ++ X)) (u := (p1, (-1))) C hr d_Gu_start_10 (wn_eq w rfl) hw
set_option maxHeartbeats 4000000 in
set_option maxRecDepth 100000 in
theorem c_No_start (l : Launch) (n0 : Nat) (G : va_G) (K : KT) (ad : Nat → Nat) (X : va_W) (S : ST) (post : (Nat → Int32) → (Nat → Int32) → (Nat → Int32) → (Nat → Int32) → (Nat → Int64) → Int32 → Prop) (hw : wp_No_start S  post) : Met l y_No_start (Cond.code y_No_start prog_5_method_2_code 1 none :: gw) rm_No_start (va_Pc [.ref (ad 31)] (wb n0 G K (wC K ad S ++ X))) (va_Qv (fun (u : (Nat → Int32) × (Nat → Int32) × (Nat → Int32) × (Nat → Int32) × (Nat → Int64) × Int32) => post u.1 u.2.1 u.2.2.1 u.2.2.2.1 u.2.2.2.2.1 u.2.2.2.2.2) (fun (u : (Nat → Int32) × (Nat → Int32) × (Nat → Int32) × (Nat → Int32) × (Nat → Int64) × Int32) t => we n0 G (wC K ad (sI (sL (sA (sA (sA (sA S 32 u.1) 33 u.2.1) 34 u.2.2.1) 35 u.2.2.2.1) 36 u.2.2.2.2.1) 1989 u.2.2.2.2.2) ++ X) t) (al n0)) 0 0 (al n0) := by
  refine kb_start (own := "LineBreaker$Nodes") (by decide +kernel) rfl ?_
  intro p e s m below meth c C hr hnm w
  have hx := C.1
  have hb := C.2.1
  have hts := C.2.2.2.2.1
  have hl := lv_entry ([.ref (ad 31)]) (n := 1) (Nat.le_of_ble_eq_true rfl)
  rw [lg_entry_eq]
  generalize (lg_sl ([.ref (ad 31)]) ++ List.replicate (1 - (lg_sl ([.ref (ad 31)])).length) Slot.unset).toArray = ls at hl ⊢
  have hl : lv_has ls 1 [(0, .ref (ad 31))] := hl
  unfold wp_No_start at hw
  refine lv_aload_n hx hb d_No_start_0 rfl (lv_at hl 0 rfl) ?_
  refine kg (C1 := R_No) (T := F_No) (N := 6) (ci := 3) (ref := "LineBreaker$Nodes") (v := .ref (ad 32)) C w 31 0 iw_No rfl rfl (by decide) kw_238 rfl rfl d_No_start_1 ?_
  refine lv_iconst (v := 0) hx hb d_No_start_4 (by decide) ?_
  refine lv_iconst (v := (-1)) hx hb d_No_start_5 (by decide) ?_
  obtain ⟨f1, ef1⟩ : ∃ z : Nat → Int32, z = upd (S.1 32) ((0 : Int32).toNatClampNeg) (-1) := ⟨_, rfl⟩
  refine ks_i (f := (S.1 32)) (w2 := wC K ad (sA S 32 f1) ++ X) C w 32 rfl hw.1 (by rw [← ef1]; rfl) d_No_start_6 (fun H locs w => ?_)
  have hw := hw.2 f1 ef1
  refine lv_aload_n hx hb d_No_start_7 rfl (lv_at hl 0 rfl) ?_
  refine kg (C1 := R_No) (T := F_No) (N := 6) (ci := 3) (ref := "LineBreaker$Nodes") (v := .ref (ad 33)) C w 31 1 iw_No rfl rfl (by decide) kw_242 rfl rfl d_No_start_8 ?_
  refine lv_iconst (v := 0) hx hb d_No_start_11 (by decide) ?_
  refine lv_iconst (v := 0) hx hb d_No_start_12 (by decide) ?_
  obtain ⟨f2, ef2⟩ : ∃ z : Nat → Int32, z = upd (S.1 33) ((0 : Int32).toNatClampNeg) 0 := ⟨_, rfl⟩
  refine ks_i (f := (S.1 33)) (w2 := wC K ad (sA (sA S 32 f1) 33 f2) ++ X) C w 33 rfl hw.1 (by rw [← ef2]; rfl) d_No_start_13 (fun H locs w => ?_)
  have hw := hw.2 f2 ef2
  refine lv_aload_n hx hb d_No_start_14 rfl (lv_at hl 0 rfl) ?_
  refine kg (C1 := R_No) (T := F_No) (N := 6) (ci := 3) (ref := "LineBreaker$Nodes") (v := .ref (ad 34)) C w 31 2 iw_No rfl rfl (by decide) kw_246 rfl rfl d_No_start_15 ?_
  refine lv_iconst (v := 0) hx hb d_No_start_18 (by decide) ?_
  refine lv_iconst (v := 2) hx hb d_No_start_19 (by decide) ?_
  obtain ⟨f3, ef3⟩ : ∃ z : Nat → Int32, z = upd (S.1 34) ((0 : Int32).toNatClampNeg) 2 := ⟨_, rfl⟩
  refine ks_i (f := (S.1 34)) (w2 := wC K ad (sA (sA (sA S 32 f1) 33 f2) 34 f3) ++ X) C w 34 rfl hw.1 (by rw [← ef3]; rfl) d_No_start_20 (fun H locs w => ?_)
  have hw := hw.2 f3 ef3
  refine lv_aload_n hx hb d_No_start_21 rfl (lv_at hl 0 rfl) ?_
  refine kg (C1 := R_No) (T := F_No) (N := 6) (ci := 3) (ref := "LineBreaker$Nodes") (v := .ref (ad 35)) C w 31 3 iw_No rfl rfl (by decide) kw_249 rfl rfl d_No_start_22 ?_
  refine lv_iconst (v := 0) hx hb d_No_start_25 (by decide) ?_
  refine lv_iconst (v := 0) hx hb d_No_start_26 (by decide) ?_
  obtain ⟨f4, ef4⟩ : ∃ z : Nat → Int32, z = upd (S.1 35) ((0 : Int32).toNatClampNeg) 0 := ⟨_, rfl⟩
  refine ks_i (f := (S.1 35)) (w2 := wC K ad (sA (sA (sA (sA S 32 f1) 33 f2) 34 f3) 35 f4) ++ X) C w 35 rfl hw.1 (by rw [← ef4]; rfl) d_No_start_27 (fun H locs w => ?_)
  have hw := hw.2 f4 ef4
  refine lv_aload_n hx hb d_No_start_28 rfl (lv_at hl 0 rfl) ?_
  refine kg (C1 := R_No) (T := F_No) (N := 6) (ci := 3) (ref := "LineBreaker$Nodes") (v := .ref (ad 36)) C w 31 4 iw_No rfl rfl (by decide) kw_252 rfl rfl d_No_start_29 ?_
  refine lv_iconst (v := 0) hx hb d_No_start_32 (by decide) ?_
  refine lv_lconst (v := 0) hx hb d_No_start_33 (by decide) ?_
  obtain ⟨f5, ef5⟩ : ∃ z : Nat → Int64, z = vp_updL (S.2.1 36) ((0 : Int32).toNatClampNeg) 0 := ⟨_, rfl⟩
  refine ks_l (f := (S.2.1 36)) (w2 := wC K ad (sL (sA (sA (sA (sA S 32 f1) 33 f2) 34 f3) 35 f4) 36 f5) ++ X) C w 36 rfl hw.1 (by rw [← ef5]; rfl) d_No_start_34 (fun H locs w => ?_)
  have hw := hw.2 f5 ef5
  refine lv_aload_n hx hb d_No_start_35 rfl (lv_at hl 0 rfl) ?_
  refine lv_iconst (v := 1) hx hb d_No_start_36 (by decide) ?_
  refine kp (C1 := R_No) (T := F_No) (N := 6) (ci := 3) (ty0 := t_No) (ref := "LineBreaker$Nodes") (w2 := wC K ad (sI (sL (sA (sA (sA (sA S 32 f1) 33 f2) 34 f3) 35 f4) 36 f5) 1989 1) ++ X) C w 31 5 iw_No tk_No n_No rfl rfl (by decide) kw_256 rfl rfl rfl rfl (Nat.le_of_ble_eq_true rfl) rfl d_No_start_37 (fun H locs w => ?_)
  exact ke_v (post := (fun (u : (Nat → Int32) × (Nat → Int32) × (Nat → Int32) × (Nat → Int32) × (Nat → Int64) × Int32) => post u.1 u.2.1 u.2.2.1 u.2.2.2.1 u.2.2.2.2.1 u.2.2.2.2.2)) (st := (fun (u : (Nat → Int32) × (Nat → Int32) × (Nat → Int32) × (Nat → Int32) × (Nat → Int64) × Int32) => wC K ad (sI (sL (sA (sA (sA (sA S 32 u.1) 33 u.2.1) 34 u.2.2.1) 35 u.2.2.2.1) 36 u.2.2.2.2.1) 1989 u.2.2.2.2.2) ++ X)) (u := (f1, f2, f3, f4, f5, 1)) C hr d_No_start_40 (wn_eq w rfl) hw
set_option maxHeartbeats 4000000 in
set_option maxRecDepth 100000 in
theorem w_Ar_fill_5 {S : ST} {post : (Nat → Int32) → Prop} (C : cx p s m args meth c prog_22_method_103_code 4 "java/util/Arrays" n0 G K) (hr : meth.sig.returnType = none) : ∀ (n : Nat) (a39 : (Nat → Int32)) (x1 : Int32) (x2 : Int32) (x3 : Int32), wl_Ar_fill_5 S post n a39 x1 x2 x3 → ∀ (H : Heap) (locs : List Loc) (ls : Array Slot), wn n0 G (wC K ad (sA S 39 a39) ++ X) s H locs → lv_has ls 4 [(0, .ref (ad 39)), (1, .int x1), (2, .int x2), (3, .int x3)] → W p l e rm_Ar_fill s m args below meth c H locs 0 0 (MQ below (va_Qv (fun (u : (Nat → Int32)) => post u) (fun (u : (Nat → Int32)) t => we n0 G (wC K ad (sA S 39 u) ++ X) t) (al n0)) args s 0 0 (al n0)) (F0 m 5 ls []) := by
  have hx := C.1
  have hb := C.2.1
  have hts := C.2.2.2.2.1
  intro n
  induction n with
  | zero =>
    intro a39 x1 x2 x3 hw
    unfold wl_Ar_fill_5 at hw
    exact hw.elim
  | succ n ih =>
    intro a39 x1 x2 x3 hw H locs ls w hl
    unfold wl_Ar_fill_5 at hw
    refine lv_iload_n hx hb d_Ar_fill_5 rfl (lv_at hl 2 rfl) ?_
    refine lv_iload_n hx hb d_Ar_fill_6 rfl (lv_at hl 3 rfl) ?_
    refine lv_icmp_ge (tgt := 20) hx hb d_Ar_fill_7 (by decide) (fun hc => ?_) (fun hc => ?_)
    · have hw := hw.1 hc
      exact ke_v (post := (fun (u : (Nat → Int32)) => post u)) (st := (fun (u : (Nat → Int32)) => wC K ad (sA S 39 u) ++ X)) (u := a39) C hr d_Ar_fill_20 (wn_eq w rfl) hw
    · have hw := hw.2 hc
      refine lv_aload_n hx hb d_Ar_fill_10 rfl (lv_at hl 0 rfl) ?_
      refine lv_iload_n hx hb d_Ar_fill_11 rfl (lv_at hl 2 rfl) ?_
      refine lv_iload_n hx hb d_Ar_fill_12 rfl (lv_at hl 1 rfl) ?_
      obtain ⟨f1, ef1⟩ : ∃ z : Nat → Int32, z = upd a39 x2.toNatClampNeg x1 := ⟨_, rfl⟩
      refine ks_i (f := a39) (w2 := wC K ad (sA S 39 f1) ++ X) C w 39 rfl hw.1 (by rw [← ef1]; rfl) d_Ar_fill_13 (fun H locs w => ?_)
      have hw := hw.2 f1 ef1
      obtain ⟨v2, ev2⟩ : ∃ y : Int32, y = x2 + 1 := ⟨_, rfl⟩
      refine lv_iinc (v := v2) (lv' := [(2, .int v2), (0, .ref (ad 39)), (1, .int x1), (3, .int x3)]) hx hb d_Ar_fill_14 hl (k := 2) rfl (by rw [ev2]; rfl) (by decide) rfl (fun ls hl => ?_)
      have hw := hw v2 ev2
      refine lv_goto (tgt := 5) hx hb d_Ar_fill_17 (by decide) ?_
      exact ih f1 x1 v2 x3 hw _ _ _ (wn_eq w rfl) (lv_sub hl [1, 2, 0, 3] rfl)
set_option maxHeartbeats 4000000 in
set_option maxRecDepth 100000 in
theorem c_Ar_fill (l : Launch) (n0 : Nat) (G : va_G) (K : KT) (ad : Nat → Nat) (X : va_W) (S : ST) (p2 : Int32) (post : (Nat → Int32) → Prop) (hw : wp_Ar_fill S p2 post) : Met l y_Ar_fill (Cond.code y_Ar_fill prog_22_method_103_code 4 none :: gw) rm_Ar_fill (va_Pc [.ref (ad 39), .int p2] (wb n0 G K (wC K ad S ++ X))) (va_Qv (fun (u : (Nat → Int32)) => post u) (fun (u : (Nat → Int32)) t => we n0 G (wC K ad (sA S 39 u) ++ X) t) (al n0)) 0 0 (al n0) := by
  refine kb_start (own := "java/util/Arrays") (by decide +kernel) rfl ?_
  intro p e s m below meth c C hr hnm w
  have hx := C.1
  have hb := C.2.1
  have hts := C.2.2.2.2.1
  have hl := lv_entry ([.ref (ad 39), .int p2]) (n := 4) (Nat.le_of_ble_eq_true rfl)
  rw [lg_entry_eq]
  generalize (lg_sl ([.ref (ad 39), .int p2]) ++ List.replicate (4 - (lg_sl ([.ref (ad 39), .int p2])).length) Slot.unset).toArray = ls at hl ⊢
  have hl : lv_has ls 4 [(0, .ref (ad 39)), (1, .int p2)] := hl
  unfold wp_Ar_fill at hw
  refine lv_iconst (v := 0) hx hb d_Ar_fill_0 (by decide) ?_
  refine lv_istore_n (lv' := [(2, .int 0), (0, .ref (ad 39)), (1, .int p2)]) hx hb d_Ar_fill_1 rfl hl (by decide) rfl (fun ls hl => ?_)
  refine lv_aload_n hx hb d_Ar_fill_2 rfl (lv_at hl 1 rfl) ?_
  refine va_alen hx hb C.2.2.2.2.2.2.1 w.1 39 0 (x := (1608, .inl (S.1 39))) rfl rfl (v := 1608) rfl d_Ar_fill_3 ?_
  refine lv_istore_n (lv' := [(3, .int 1608), (2, .int 0), (0, .ref (ad 39)), (1, .int p2)]) hx hb d_Ar_fill_4 rfl hl (by decide) rfl (fun ls hl => ?_)
  obtain ⟨n9, hw⟩ := hw
  exact w_Ar_fill_5 C hr  n9 (S.1 39) p2 0 1608 hw _ _ _ (wn_eq w rfl) (lv_sub hl [2, 3, 1, 0] rfl)
set_option maxHeartbeats 4000000 in
set_option maxRecDepth 100000 in
theorem c_Of_start (l : Launch) (n0 : Nat) (G : va_G) (K : KT) (ad : Nat → Nat) (X : va_W) (S : ST) (post : (Nat → Int32) → Int32 → Int32 → Prop) (hw : wp_Of_start S  post) : Met l y_Of_start (Cond.code y_Of_start prog_6_method_2_code 1 none :: gw) rm_Of_start (va_Pc [.ref (ad 37)] (wb n0 G K (wC K ad S ++ X))) (va_Qv (fun (u : (Nat → Int32) × Int32 × Int32) => post u.1 u.2.1 u.2.2) (fun (u : (Nat → Int32) × Int32 × Int32) t => we n0 G (wC K ad (sI (sI (sA S 39 u.1) 2370 u.2.1) 2371 u.2.2) ++ X) t) (al n0)) 0 0 (al n0) := by
  refine kb_start (own := "LineBreaker$Offers") (by decide +kernel) rfl ?_
  intro p e s m below meth c C hr hnm w
  have hx := C.1
  have hb := C.2.1
  have hts := C.2.2.2.2.1
  have hl := lv_entry ([.ref (ad 37)]) (n := 1) (Nat.le_of_ble_eq_true rfl)
  rw [lg_entry_eq]
  generalize (lg_sl ([.ref (ad 37)]) ++ List.replicate (1 - (lg_sl ([.ref (ad 37)])).length) Slot.unset).toArray = ls at hl ⊢
  have hl : lv_has ls 1 [(0, .ref (ad 37))] := hl
  unfold wp_Of_start at hw
  refine lv_aload_n hx hb d_Of_start_0 rfl (lv_at hl 0 rfl) ?_
  refine kg (C1 := R_Of) (T := F_Of) (N := 4) (ci := 4) (ref := "LineBreaker$Offers") (v := .ref (ad 39)) C w 37 1 iw_Of rfl rfl (by decide) kw_281 rfl rfl d_Of_start_1 ?_
  refine lv_iconst (v := (-1)) hx hb d_Of_start_4 (by decide) ?_
  refine kc_v (st := fun (u : (Nat → Int32)) => wC K ad (sA S 39 u) ++ X) w (kr_S (y := y_Ar_fill) (As := [.ref (ad 39), .int (-1)]) (n := 2) C w (c_Ar_fill l n0 G K ad X S (-1) _ hw) (gw_S kw_727 kw_728 kw_19 kw_729) (by decide +kernel) rfl rfl ⟨Nat.le_of_ble_eq_true rfl, Nat.le_of_ble_eq_true rfl⟩ rfl hl.1 rfl (Nat.le_of_ble_eq_true rfl) d_Of_start_5 ⟨Nat.le_of_ble_eq_true rfl, Nat.le_of_ble_eq_true rfl⟩) (fun u H locs hw w => ?_)
  obtain ⟨f1, rfl⟩ : ∃ z, z = u := ⟨_, rfl⟩
  have w : wn n0 G (wC K ad (sA S 39 f1) ++ X) s H locs := w
  refine lv_aload_n hx hb d_Of_start_8 rfl (lv_at hl 0 rfl) ?_
  refine lv_sipush (v := 401) hx hb d_Of_start_9 (by decide) ?_
  refine kp (C1 := R_Of) (T := F_Of) (N := 4) (ci := 4) (ty0 := t_Of) (ref := "LineBreaker$Offers") (w2 := wC K ad (sI (sA S 39 f1) 2370 401) ++ X) C w 37 2 iw_Of tk_Of n_Of rfl rfl (by decide) kw_282 rfl rfl rfl rfl (Nat.le_of_ble_eq_true rfl) rfl d_Of_start_12 (fun H locs w => ?_)
  refine lv_aload_n hx hb d_Of_start_15 rfl (lv_at hl 0 rfl) ?_
  refine lv_iconst (v := 0) hx hb d_Of_start_16 (by decide) ?_
  refine kp (C1 := R_Of) (T := F_Of) (N := 4) (ci := 4) (ty0 := t_Of) (ref := "LineBreaker$Offers") (w2 := wC K ad (sI (sI (sA S 39 f1) 2370 401) 2371 0) ++ X) C w 37 3 iw_Of tk_Of n_Of rfl rfl (by decide) kw_283 rfl rfl rfl rfl (Nat.le_of_ble_eq_true rfl) rfl d_Of_start_17 (fun H locs w => ?_)
  exact ke_v (post := (fun (u : (Nat → Int32) × Int32 × Int32) => post u.1 u.2.1 u.2.2)) (st := (fun (u : (Nat → Int32) × Int32 × Int32) => wC K ad (sI (sI (sA S 39 u.1) 2370 u.2.1) 2371 u.2.2) ++ X)) (u := (f1, 401, 0)) C hr d_Of_start_20 (wn_eq w rfl) hw
set_option maxHeartbeats 4000000 in
set_option maxRecDepth 100000 in
theorem c_Ga_isPlace (l : Launch) (n0 : Nat) (G : va_G) (K : KT) (ad : Nat → Nat) (X : va_W) (S : ST) (p1 : Int32) (p2 : Int32) (post : Int32 → Prop) (hw : wp_Ga_isPlace S p1 p2 post) : Met l y_Ga_isPlace (Cond.code y_Ga_isPlace prog_2_method_3_code 3 (some .boolean) :: gw) rm_Ga_isPlace (va_Pc [.ref (ad 17), .int p1, .int p2] (wb n0 G K (wC K ad S ++ X))) (va_Qi (fun r (u : Unit) => post r) (fun (u : Unit) t => we n0 G (wC K ad S ++ X) t) (al n0)) 0 0 (al n0) := by
  refine kb_start (own := "LineBreaker$Galley") (by decide +kernel) rfl ?_
  intro p e s m below meth c C hr hnm w
  have hx := C.1
  have hb := C.2.1
  have hts := C.2.2.2.2.1
  have hl := lv_entry ([.ref (ad 17), .int p1, .int p2]) (n := 3) (Nat.le_of_ble_eq_true rfl)
  rw [lg_entry_eq]
  generalize (lg_sl ([.ref (ad 17), .int p1, .int p2]) ++ List.replicate (3 - (lg_sl ([.ref (ad 17), .int p1, .int p2])).length) Slot.unset).toArray = ls at hl ⊢
  have hl : lv_has ls 3 [(0, .ref (ad 17)), (1, .int p1), (2, .int p2)] := hl
  unfold wp_Ga_isPlace at hw
  refine lv_aload_n hx hb d_Ga_isPlace_0 rfl (lv_at hl 0 rfl) ?_
  refine kg (C1 := R_Ga) (T := F_Ga) (N := 12) (ci := 0) (ref := "LineBreaker$Galley") (v := .ref (ad 20)) C w 17 2 iw_Ga rfl rfl (by decide) kw_145 rfl rfl d_Ga_isPlace_1 ?_
  refine lv_iload_n hx hb d_Ga_isPlace_4 rfl (lv_at hl 1 rfl) ?_
  refine ka_z (f := (S.1 20)) C w 20 rfl hw.1 d_Ga_isPlace_5 ?_
  have hw := hw.2
  refine lv_if_eq (tgt := 27) hx hb d_Ga_isPlace_6 (by decide) (fun hc => ?_) (fun hc => ?_)
  · have hw := hw.1 hc
    refine lv_iconst (v := 0) hx hb d_Ga_isPlace_27 (by decide) ?_
    exact ke_z (post := (fun r (u : Unit) => post r)) (st := (fun (u : Unit) => wC K ad S ++ X)) (u := ()) C hr d_Ga_isPlace_28 (wn_eq w rfl) (Or.inl rfl) hw
  · have hw := hw.2 hc
    refine lv_iload_n hx hb d_Ga_isPlace_9 rfl (lv_at hl 2 rfl) ?_
    refine lv_if_ne (tgt := 23) hx hb d_Ga_isPlace_10 (by decide) (fun hc => ?_) (fun hc => ?_)
    · have hw := hw.1 hc
      refine lv_iconst (v := 1) hx hb d_Ga_isPlace_23 (by decide) ?_
      refine lv_goto (tgt := 28) hx hb d_Ga_isPlace_24 (by decide) ?_
      exact ke_z (post := (fun r (u : Unit) => post r)) (st := (fun (u : Unit) => wC K ad S ++ X)) (u := ()) C hr d_Ga_isPlace_28 (wn_eq w rfl) (Or.inr rfl) hw
    · have hw := hw.2 hc
      refine lv_aload_n hx hb d_Ga_isPlace_13 rfl (lv_at hl 0 rfl) ?_
      refine kg (C1 := R_Ga) (T := F_Ga) (N := 12) (ci := 0) (ref := "LineBreaker$Galley") (v := .ref (ad 18)) C w 17 0 iw_Ga rfl rfl (by decide) kw_142 rfl rfl d_Ga_isPlace_14 ?_
      refine lv_iload_n hx hb d_Ga_isPlace_17 rfl (lv_at hl 1 rfl) ?_
      refine ka_i (f := (S.1 18)) C w 18 rfl hw.1 d_Ga_isPlace_18 ?_
      have hw := hw.2
      refine lv_iconst (v := 5) hx hb d_Ga_isPlace_19 (by decide) ?_
      refine lv_icmp_eq (tgt := 27) hx hb d_Ga_isPlace_20 (by decide) (fun hc => ?_) (fun hc => ?_)
      · have hw := hw.1 hc
        refine lv_iconst (v := 0) hx hb d_Ga_isPlace_27 (by decide) ?_
        exact ke_z (post := (fun r (u : Unit) => post r)) (st := (fun (u : Unit) => wC K ad S ++ X)) (u := ()) C hr d_Ga_isPlace_28 (wn_eq w rfl) (Or.inl rfl) hw
      · have hw := hw.2 hc
        refine lv_iconst (v := 1) hx hb d_Ga_isPlace_23 (by decide) ?_
        refine lv_goto (tgt := 28) hx hb d_Ga_isPlace_24 (by decide) ?_
        exact ke_z (post := (fun r (u : Unit) => post r)) (st := (fun (u : Unit) => wC K ad S ++ X)) (u := ()) C hr d_Ga_isPlace_28 (wn_eq w rfl) (Or.inr rfl) hw
set_option maxHeartbeats 4000000 in
set_option maxRecDepth 100000 in
theorem c_Ga_isHyphen (l : Launch) (n0 : Nat) (G : va_G) (K : KT) (ad : Nat → Nat) (X : va_W) (S : ST) (p1 : Int32) (post : Int32 → Prop) (hw : wp_Ga_isHyphen S p1 post) : Met l y_Ga_isHyphen (Cond.code y_Ga_isHyphen prog_2_method_4_code 2 (some .boolean) :: gw) rm_Ga_isHyphen (va_Pc [.ref (ad 17), .int p1] (wb n0 G K (wC K ad S ++ X))) (va_Qi (fun r (u : Unit) => post r) (fun (u : Unit) t => we n0 G (wC K ad S ++ X) t) (al n0)) 0 0 (al n0) := by
  refine kb_start (own := "LineBreaker$Galley") (by decide +kernel) rfl ?_
  intro p e s m below meth c C hr hnm w
  have hx := C.1
  have hb := C.2.1
  have hts := C.2.2.2.2.1
  have hl := lv_entry ([.ref (ad 17), .int p1]) (n := 2) (Nat.le_of_ble_eq_true rfl)
  rw [lg_entry_eq]
  generalize (lg_sl ([.ref (ad 17), .int p1]) ++ List.replicate (2 - (lg_sl ([.ref (ad 17), .int p1])).length) Slot.unset).toArray = ls at hl ⊢
  have hl : lv_has ls 2 [(0, .ref (ad 17)), (1, .int p1)] := hl
  unfold wp_Ga_isHyphen at hw
  refine lv_iload_n hx hb d_Ga_isHyphen_0 rfl (lv_at hl 1 rfl) ?_
  refine lv_iconst (v := (-1)) hx hb d_Ga_isHyphen_1 (by decide) ?_
  refine lv_icmp_eq (tgt := 19) hx hb d_Ga_isHyphen_2 (by decide) (fun hc => ?_) (fun hc => ?_)
  · have hw := hw.1 hc
    refine lv_iconst (v := 0) hx hb d_Ga_isHyphen_19 (by decide) ?_
    exact ke_z (post := (fun r (u : Unit) => post r)) (st := (fun (u : Unit) => wC K ad S ++ X)) (u := ()) C hr d_Ga_isHyphen_20 (wn_eq w rfl) (Or.inl rfl) hw
  · have hw := hw.2 hc
    refine lv_aload_n hx hb d_Ga_isHyphen_5 rfl (lv_at hl 0 rfl) ?_
    refine kg (C1 := R_Ga) (T := F_Ga) (N := 12) (ci := 0) (ref := "LineBreaker$Galley") (v := .ref (ad 18)) C w 17 0 iw_Ga rfl rfl (by decide) kw_142 rfl rfl d_Ga_isHyphen_6 ?_
    refine lv_iload_n hx hb d_Ga_isHyphen_9 rfl (lv_at hl 1 rfl) ?_
    refine ka_i (f := (S.1 18)) C w 18 rfl hw.1 d_Ga_isHyphen_10 ?_
    have hw := hw.2
    refine lv_iconst (v := 5) hx hb d_Ga_isHyphen_11 (by decide) ?_
    refine lv_icmp_ne (tgt := 19) hx hb d_Ga_isHyphen_12 (by decide) (fun hc => ?_) (fun hc => ?_)
    · have hw := hw.1 hc
      refine lv_iconst (v := 0) hx hb d_Ga_isHyphen_19 (by decide) ?_
      exact ke_z (post := (fun r (u : Unit) => post r)) (st := (fun (u : Unit) => wC K ad S ++ X)) (u := ()) C hr d_Ga_isHyphen_20 (wn_eq w rfl) (Or.inl rfl) hw
    · have hw := hw.2 hc
      refine lv_iconst (v := 1) hx hb d_Ga_isHyphen_15 (by decide) ?_
      refine lv_goto (tgt := 20) hx hb d_Ga_isHyphen_16 (by decide) ?_
      exact ke_z (post := (fun r (u : Unit) => post r)) (st := (fun (u : Unit) => wC K ad S ++ X)) (u := ()) C hr d_Ga_isHyphen_20 (wn_eq w rfl) (Or.inr rfl) hw
set_option maxHeartbeats 4000000 in
set_option maxRecDepth 100000 in
theorem w_Se_demerits_164 {S : ST} {post : Int64 → Prop} (C : cx p s m args meth c prog_9_method_7_code 9 "LineBreaker$Search" n0 G K) (hr : meth.sig.returnType = (some .long)) : ∀ (x1 : Int32) (x5 : Int64), wl_Se_demerits_164 S post x1 x5 → ∀ (H : Heap) (locs : List Loc) (ls : Array Slot), wn n0 G (wC K ad S ++ X) s H locs → lv_has ls 9 [(0, .ref (ad 29)), (1, .int x1), (5, .long x5)] → W p l e rm_Se_demerits s m args below meth c H locs 0 0 (MQ below (va_Ql (fun r (u : Unit) => post r) (fun (u : Unit) t => we n0 G (wC K ad S ++ X) t) (al n0)) args s 0 0 (al n0)) (F0 m 164 ls []) := by
  have hx := C.1
  have hb := C.2.1
  have hts := C.2.2.2.2.1
  intro x1 x5 hw H locs ls w hl
  unfold wl_Se_demerits_164 at hw
  refine lv_aload_n hx hb d_Se_demerits_164 rfl (lv_at hl 0 rfl) ?_
  refine kg (C1 := R_Se) (T := F_Se) (N := 10) (ci := 7) (ref := "LineBreaker$Search") (v := .ref (ad 31)) C w 29 3 iw_Se rfl rfl (by decide) kw_298 rfl rfl d_Se_demerits_165 ?_
  refine kg (C1 := R_No) (T := F_No) (N := 6) (ci := 3) (ref := "LineBreaker$Nodes") (v := .ref (ad 34)) C w 31 2 iw_No rfl rfl (by decide) kw_248 rfl rfl d_Se_demerits_168 ?_
  refine lv_iload_n hx hb d_Se_demerits_171 rfl (lv_at hl 1 rfl) ?_
  refine ka_i (f := (S.1 34)) C w 34 rfl hw.1 d_Se_demerits_172 ?_
  have hw := hw.2
  refine lv_aload_n hx hb d_Se_demerits_173 rfl (lv_at hl 0 rfl) ?_
  refine kg (C1 := R_Se) (T := F_Se) (N := 10) (ci := 7) (ref := "LineBreaker$Search") (v := .ref (ad 30)) C w 29 2 iw_Se rfl rfl (by decide) kw_296 rfl rfl d_Se_demerits_174 ?_
  refine kg (C1 := R_Gu) (T := F_Gu) (N := 9) (ci := 1) (ref := "LineBreaker$Gauge") (v := .int (S.2.2 1925)) C w 30 5 iw_Gu rfl rfl (by decide) kw_209 rfl rfl d_Se_demerits_177 ?_
  refine lv_isub hx hb d_Se_demerits_180 ?_
  refine va_mabs hx hb (C.2.2.1.trans hl.1.symm) C.2.2.2.1 (hts _ kw_787) (hts _ kw_645) (hts _ kw_17) (hts _ kw_646) (Nat.le_of_ble_eq_true rfl) (Nat.le_of_ble_eq_true rfl) (Nat.zero_le _) (Nat.zero_le _) d_Se_demerits_181 ?_
  refine lv_topi (fun v1 ev1 => ?_)
  have hw := hw v1 ev1
  refine lv_iconst (v := 1) hx hb d_Se_demerits_184 (by decide) ?_
  refine lv_icmp_le (tgt := 204) hx hb d_Se_demerits_185 (by decide) (fun hc => ?_) (fun hc => ?_)
  · have hw := hw.1 hc
    refine lv_lload hx hb d_Se_demerits_204 (lv_at hl 2 rfl) ?_
    exact ke_l (post := (fun r (u : Unit) => post r)) (st := (fun (u : Unit) => wC K ad S ++ X)) (u := ()) C hr d_Se_demerits_206 (wn_eq w rfl) hw
  · have hw := hw.2 hc
    refine lv_lload hx hb d_Se_demerits_188 (lv_at hl 2 rfl) ?_
    refine lv_aload_n hx hb d_Se_demerits_190 rfl (lv_at hl 0 rfl) ?_
    refine kg (C1 := R_Se) (T := F_Se) (N := 10) (ci := 7) (ref := "LineBreaker$Search") (v := .ref (ad 11)) C w 29 1 iw_Se rfl rfl (by decide) kw_295 rfl rfl d_Se_demerits_191 ?_
    refine kg (C1 := R_St) (T := F_St) (N := 5) (ci := 8) (ref := "LineBreaker$Settings") (v := .ref (ad 12)) C w 11 0 iw_St rfl rfl (by decide) kw_111 rfl rfl d_Se_demerits_194 ?_
    refine lv_bipush (v := 7) hx hb d_Se_demerits_197 (by decide) ?_
    refine ka_i (f := (S.1 12)) C w 12 rfl hw.1 d_Se_demerits_199 ?_
    have hw := hw.2
    refine lv_i2l hx hb d_Se_demerits_200 rfl ?_
    refine lv_ladd hx hb d_Se_demerits_201 ?_
    refine lv_topl (fun v2 ev2 => ?_)
    have hw := hw v2 ev2
    refine lv_lstore (lv' := [(5, .long v2), (0, .ref (ad 29)), (1, .int x1)]) hx hb d_Se_demerits_202 hl (by decide) rfl (fun ls hl => ?_)
    refine lv_lload hx hb d_Se_demerits_204 (lv_at hl 0 rfl) ?_
    exact ke_l (post := (fun r (u : Unit) => post r)) (st := (fun (u : Unit) => wC K ad S ++ X)) (u := ()) C hr d_Se_demerits_206 (wn_eq w rfl) hw
set_option maxHeartbeats 4000000 in
set_option maxRecDepth 100000 in
theorem w_Se_demerits_89 {S : ST} {post : Int64 → Prop} (C : cx p s m args meth c prog_9_method_7_code 9 "LineBreaker$Search" n0 G K) (hr : meth.sig.returnType = (some .long)) : ∀ (x1 : Int32) (x2 : Int32) (x5 : Int64), wl_Se_demerits_89 S post x1 x2 x5 → ∀ (H : Heap) (locs : List Loc) (ls : Array Slot), wn n0 G (wC K ad S ++ X) s H locs → lv_has ls 9 [(0, .ref (ad 29)), (1, .int x1), (2, .int x2), (5, .long x5)] → W p l e rm_Se_demerits s m args below meth c H locs 0 0 (MQ below (va_Ql (fun r (u : Unit) => post r) (fun (u : Unit) t => we n0 G (wC K ad S ++ X) t) (al n0)) args s 0 0 (al n0)) (F0 m 89 ls []) := by
  have hx := C.1
  have hb := C.2.1
  have hts := C.2.2.2.2.1
  intro x1 x2 x5 hw H locs ls w hl
  unfold wl_Se_demerits_89 at hw
  refine lv_aload_n hx hb d_Se_demerits_89 rfl (lv_at hl 0 rfl) ?_
  refine kg (C1 := R_Se) (T := F_Se) (N := 10) (ci := 7) (ref := "LineBreaker$Search") (v := .ref (ad 17)) C w 29 0 iw_Se rfl rfl (by decide) kw_293 rfl rfl d_Se_demerits_90 ?_
  refine lv_aload_n hx hb d_Se_demerits_93 rfl (lv_at hl 0 rfl) ?_
  refine kg (C1 := R_Se) (T := F_Se) (N := 10) (ci := 7) (ref := "LineBreaker$Search") (v := .ref (ad 31)) C w 29 3 iw_Se rfl rfl (by decide) kw_298 rfl rfl d_Se_demerits_94 ?_
  refine kg (C1 := R_No) (T := F_No) (N := 6) (ci := 3) (ref := "LineBreaker$Nodes") (v := .ref (ad 32)) C w 31 0 iw_No rfl rfl (by decide) kw_240 rfl rfl d_Se_demerits_97 ?_
  refine lv_iload_n hx hb d_Se_demerits_100 rfl (lv_at hl 1 rfl) ?_
  refine ka_i (f := (S.1 32)) C w 32 rfl hw.1 d_Se_demerits_101 ?_
  have hw := hw.2
  refine kc_i (st := fun (u : Unit) => wC K ad S ++ X) w (kr_V (y := y_Ga_isHyphen) (C1 := R_Ga) (T := F_Ga) (N := 12) (ci := 0) (q0 := 17) (As := [.int ((S.1 32) x1.toNatClampNeg)]) (n := 1) C w (c_Ga_isHyphen l n0 G K ad X S ((S.1 32) x1.toNatClampNeg) _ hw) (gw_V kw_783 kw_784 kw_785 kw_5 kw_786) (by decide +kernel) rfl rfl ⟨Nat.le_of_ble_eq_true rfl, Nat.le_of_ble_eq_true rfl⟩ rfl rfl rfl hl.1 rfl (Nat.le_of_ble_eq_true rfl) d_Se_demerits_102 ⟨Nat.le_of_ble_eq_true rfl, Nat.le_of_ble_eq_true rfl⟩) (fun r1 u H locs hw w => ?_)
  refine lv_if_eq (tgt := 164) hx hb d_Se_demerits_105 (by decide) (fun hc => ?_) (fun hc => ?_)
  · have hw := hw.1 hc
    exact w_Se_demerits_164 C hr  x1 x5 hw _ _ _ (wn_eq w rfl) (lv_sub hl [0, 1, 3] rfl)
  · have hw := hw.2 hc
    refine lv_aload_n hx hb d_Se_demerits_108 rfl (lv_at hl 0 rfl) ?_
    refine kg (C1 := R_Se) (T := F_Se) (N := 10) (ci := 7) (ref := "LineBreaker$Search") (v := .ref (ad 17)) C w 29 0 iw_Se rfl rfl (by decide) kw_293 rfl rfl d_Se_demerits_109 ?_
    refine lv_iload_n hx hb d_Se_demerits_112 rfl (lv_at hl 2 rfl) ?_
    refine kc_i (st := fun (u : Unit) => wC K ad S ++ X) w (kr_V (y := y_Ga_isHyphen) (C1 := R_Ga) (T := F_Ga) (N := 12) (ci := 0) (q0 := 17) (As := [.int x2]) (n := 1) C w (c_Ga_isHyphen l n0 G K ad X S x2 _ hw) (gw_V kw_783 kw_784 kw_785 kw_5 kw_786) (by decide +kernel) rfl rfl ⟨Nat.le_of_ble_eq_true rfl, Nat.le_of_ble_eq_true rfl⟩ rfl rfl rfl hl.1 rfl (Nat.le_of_ble_eq_true rfl) d_Se_demerits_113 ⟨Nat.le_of_ble_eq_true rfl, Nat.le_of_ble_eq_true rfl⟩) (fun r2 u H locs hw w => ?_)
    refine lv_if_eq (tgt := 137) hx hb d_Se_demerits_116 (by decide) (fun hc => ?_) (fun hc => ?_)
    · have hw := hw.1 hc
      refine lv_iload_n hx hb d_Se_demerits_137 rfl (lv_at hl 2 rfl) ?_
      refine lv_aload_n hx hb d_Se_demerits_138 rfl (lv_at hl 0 rfl) ?_
      refine kg (C1 := R_Se) (T := F_Se) (N := 10) (ci := 7) (ref := "LineBreaker$Search") (v := .ref (ad 17)) C w 29 0 iw_Se rfl rfl (by decide) kw_293 rfl rfl d_Se_demerits_139 ?_
      refine kg (C1 := R_Ga) (T := F_Ga) (N := 12) (ci := 0) (ref := "LineBreaker$Galley") (v := .int (S.2.2 1099)) C w 17 11 iw_Ga rfl rfl (by decide) kw_160 rfl rfl d_Se_demerits_142 ?_
      refine lv_icmp_ne (tgt := 164) hx hb d_Se_demerits_145 (by decide) (fun hc => ?_) (fun hc => ?_)
      · have hw := hw.1 hc
        exact w_Se_demerits_164 C hr  x1 x5 hw _ _ _ (wn_eq w rfl) (lv_sub hl [0, 1, 3] rfl)
      · have hw := hw.2 hc
        refine lv_lload hx hb d_Se_demerits_148 (lv_at hl 3 rfl) ?_
        refine lv_aload_n hx hb d_Se_demerits_150 rfl (lv_at hl 0 rfl) ?_
        refine kg (C1 := R_Se) (T := F_Se) (N := 10) (ci := 7) (ref := "LineBreaker$Search") (v := .ref (ad 11)) C w 29 1 iw_Se rfl rfl (by decide) kw_295 rfl rfl d_Se_demerits_151 ?_
        refine kg (C1 := R_St) (T := F_St) (N := 5) (ci := 8) (ref := "LineBreaker$Settings") (v := .ref (ad 12)) C w 11 0 iw_St rfl rfl (by decide) kw_111 rfl rfl d_Se_demerits_154 ?_
        refine lv_bipush (v := 6) hx hb d_Se_demerits_157 (by decide) ?_
        refine ka_i (f := (S.1 12)) C w 12 rfl hw.1 d_Se_demerits_159 ?_
        have hw := hw.2
        refine lv_i2l hx hb d_Se_demerits_160 rfl ?_
        refine lv_ladd hx hb d_Se_demerits_161 ?_
        refine lv_topl (fun v3 ev3 => ?_)
        have hw := hw v3 ev3
        refine lv_lstore (lv' := [(5, .long v3), (0, .ref (ad 29)), (1, .int x1), (2, .int x2)]) hx hb d_Se_demerits_162 hl (by decide) rfl (fun ls hl => ?_)
        exact w_Se_demerits_164 C hr  x1 v3 hw _ _ _ (wn_eq w rfl) (lv_sub hl [1, 2, 0] rfl)
    · have hw := hw.2 hc
      refine lv_lload hx hb d_Se_demerits_119 (lv_at hl 3 rfl) ?_
      refine lv_aload_n hx hb d_Se_demerits_121 rfl (lv_at hl 0 rfl) ?_
      refine kg (C1 := R_Se) (T := F_Se) (N := 10) (ci := 7) (ref := "LineBreaker$Search") (v := .ref (ad 11)) C w 29 1 iw_Se rfl rfl (by decide) kw_295 rfl rfl d_Se_demerits_122 ?_
      refine kg (C1 := R_St) (T := F_St) (N := 5) (ci := 8) (ref := "LineBreaker$Settings") (v := .ref (ad 12)) C w 11 0 iw_St rfl rfl (by decide) kw_111 rfl rfl d_Se_demerits_125 ?_
      refine lv_iconst (v := 5) hx hb d_Se_demerits_128 (by decide) ?_
      refine ka_i (f := (S.1 12)) C w 12 rfl hw.1 d_Se_demerits_129 ?_
      have hw := hw.2
      refine lv_i2l hx hb d_Se_demerits_130 rfl ?_
      refine lv_ladd hx hb d_Se_demerits_131 ?_
      refine lv_topl (fun v4 ev4 => ?_)
      have hw := hw v4 ev4
      refine lv_lstore (lv' := [(5, .long v4), (0, .ref (ad 29)), (1, .int x1), (2, .int x2)]) hx hb d_Se_demerits_132 hl (by decide) rfl (fun ls hl => ?_)
      refine lv_goto (tgt := 164) hx hb d_Se_demerits_134 (by decide) ?_
      exact w_Se_demerits_164 C hr  x1 v4 hw _ _ _ (wn_eq w rfl) (lv_sub hl [1, 2, 0] rfl)
set_option maxHeartbeats 4000000 in
set_option maxRecDepth 100000 in
theorem w_Se_demerits_36 {S : ST} {post : Int64 → Prop} (C : cx p s m args meth c prog_9_method_7_code 9 "LineBreaker$Search" n0 G K) (hr : meth.sig.returnType = (some .long)) : ∀ (x1 : Int32) (x2 : Int32) (z0 : Int64), wl_Se_demerits_36 S post x1 x2 z0 → ∀ (H : Heap) (locs : List Loc) (ls : Array Slot), wn n0 G (wC K ad S ++ X) s H locs → lv_has ls 9 [(0, .ref (ad 29)), (1, .int x1), (2, .int x2)] → W p l e rm_Se_demerits s m args below meth c H locs 0 0 (MQ below (va_Ql (fun r (u : Unit) => post r) (fun (u : Unit) t => we n0 G (wC K ad S ++ X) t) (al n0)) args s 0 0 (al n0)) (F0 m 36 ls [.long z0]) := by
  have hx := C.1
  have hb := C.2.1
  have hts := C.2.2.2.2.1
  intro x1 x2 z0 hw H locs ls w hl
  unfold wl_Se_demerits_36 at hw
  refine lv_lstore (lv' := [(5, .long z0), (0, .ref (ad 29)), (1, .int x1), (2, .int x2)]) hx hb d_Se_demerits_36 hl (by decide) rfl (fun ls hl => ?_)
  refine lv_aload_n hx hb d_Se_demerits_38 rfl (lv_at hl 1 rfl) ?_
  refine kg (C1 := R_Se) (T := F_Se) (N := 10) (ci := 7) (ref := "LineBreaker$Search") (v := .ref (ad 17)) C w 29 0 iw_Se rfl rfl (by decide) kw_293 rfl rfl d_Se_demerits_39 ?_
  refine kg (C1 := R_Ga) (T := F_Ga) (N := 12) (ci := 0) (ref := "LineBreaker$Galley") (v := .ref (ad 19)) C w 17 1 iw_Ga rfl rfl (by decide) kw_144 rfl rfl d_Se_demerits_42 ?_
  refine lv_iload_n hx hb d_Se_demerits_45 rfl (lv_at hl 3 rfl) ?_
  refine ka_i (f := (S.1 19)) C w 19 rfl hw.1 d_Se_demerits_46 ?_
  have hw := hw.2
  refine lv_i2l hx hb d_Se_demerits_47 rfl ?_
  refine lv_topl (fun v1 ev1 => ?_)
  have hw := hw v1 ev1
  refine lv_lstore (lv' := [(7, .long v1), (5, .long z0), (0, .ref (ad 29)), (1, .int x1), (2, .int x2)]) hx hb d_Se_demerits_48 hl (by decide) rfl (fun ls hl => ?_)
  refine lv_lload hx hb d_Se_demerits_50 (lv_at hl 0 rfl) ?_
  refine lv_lconst (v := 0) hx hb d_Se_demerits_52 (by decide) ?_
  refine W.lcmp hx hb d_Se_demerits_53 ?_
  refine lv_if_le (tgt := 70) hx hb d_Se_demerits_54 (by decide) (fun hc => ?_) (fun hc => ?_)
  · have hw := hw.1 hc
    refine lv_lload hx hb d_Se_demerits_70 (lv_at hl 0 rfl) ?_
    refine lv_ldc2 (v := (-10000)) hx hb C.2.2.2.1 (hts _ kw_782) d_Se_demerits_72 ?_
    refine W.lcmp hx hb d_Se_demerits_75 ?_
    refine lv_if_eq (tgt := 89) hx hb d_Se_demerits_76 (by decide) (fun hc => ?_) (fun hc => ?_)
    · have hw := hw.1 hc
      exact w_Se_demerits_89 C hr  x1 x2 z0 hw _ _ _ (wn_eq w rfl) (lv_sub hl [2, 3, 4, 1] rfl)
    · have hw := hw.2 hc
      refine lv_lload hx hb d_Se_demerits_79 (lv_at hl 1 rfl) ?_
      refine lv_lload hx hb d_Se_demerits_81 (lv_at hl 0 rfl) ?_
      refine lv_lload hx hb d_Se_demerits_83 (lv_at hl 0 rfl) ?_
      refine lv_lmul hx hb d_Se_demerits_85 ?_
      refine lv_lsub hx hb d_Se_demerits_86 ?_
      refine lv_topl (fun v2 ev2 => ?_)
      have hw := hw v2 ev2
      refine lv_lstore (lv' := [(5, .long v2), (7, .long v1), (0, .ref (ad 29)), (1, .int x1), (2, .int x2)]) hx hb d_Se_demerits_87 hl (by decide) rfl (fun ls hl => ?_)
      exact w_Se_demerits_89 C hr  x1 x2 v2 hw _ _ _ (wn_eq w rfl) (lv_sub hl [2, 3, 4, 0] rfl)
  · have hw := hw.2 hc
    refine lv_lload hx hb d_Se_demerits_57 (lv_at hl 1 rfl) ?_
    refine lv_lload hx hb d_Se_demerits_59 (lv_at hl 0 rfl) ?_
    refine lv_lload hx hb d_Se_demerits_61 (lv_at hl 0 rfl) ?_
    refine lv_lmul hx hb d_Se_demerits_63 ?_
    refine lv_ladd hx hb d_Se_demerits_64 ?_
    refine lv_topl (fun v3 ev3 => ?_)
    have hw := hw v3 ev3
    refine lv_lstore (lv' := [(5, .long v3), (7, .long v1), (0, .ref (ad 29)), (1, .int x1), (2, .int x2)]) hx hb d_Se_demerits_65 hl (by decide) rfl (fun ls hl => ?_)
    refine lv_goto (tgt := 89) hx hb d_Se_demerits_67 (by decide) ?_
    exact w_Se_demerits_89 C hr  x1 x2 v3 hw _ _ _ (wn_eq w rfl) (lv_sub hl [2, 3, 4, 0] rfl)
set_option maxHeartbeats 4000000 in
set_option maxRecDepth 100000 in
theorem c_Se_demerits (l : Launch) (n0 : Nat) (G : va_G) (K : KT) (ad : Nat → Nat) (X : va_W) (S : ST) (p1 : Int32) (p2 : Int32) (post : Int64 → Prop) (hw : wp_Se_demerits S p1 p2 post) : Met l y_Se_demerits (Cond.code y_Se_demerits prog_9_method_7_code 9 (some .long) :: gw) rm_Se_demerits (va_Pc [.ref (ad 29), .int p1, .int p2] (wb n0 G K (wC K ad S ++ X))) (va_Ql (fun r (u : Unit) => post r) (fun (u : Unit) t => we n0 G (wC K ad S ++ X) t) (al n0)) 0 0 (al n0) := by
  refine kb_start (own := "LineBreaker$Search") (by decide +kernel) rfl ?_
  intro p e s m below meth c C hr hnm w
  have hx := C.1
  have hb := C.2.1
  have hts := C.2.2.2.2.1
  have hl := lv_entry ([.ref (ad 29), .int p1, .int p2]) (n := 9) (Nat.le_of_ble_eq_true rfl)
  rw [lg_entry_eq]
  generalize (lg_sl ([.ref (ad 29), .int p1, .int p2]) ++ List.replicate (9 - (lg_sl ([.ref (ad 29), .int p1, .int p2])).length) Slot.unset).toArray = ls at hl ⊢
  have hl : lv_has ls 9 [(0, .ref (ad 29)), (1, .int p1), (2, .int p2)] := hl
  unfold wp_Se_demerits at hw
  refine lv_aload_n hx hb d_Se_demerits_0 rfl (lv_at hl 0 rfl) ?_
  refine kg (C1 := R_Se) (T := F_Se) (N := 10) (ci := 7) (ref := "LineBreaker$Search") (v := .ref (ad 11)) C w 29 1 iw_Se rfl rfl (by decide) kw_295 rfl rfl d_Se_demerits_1 ?_
  refine kg (C1 := R_St) (T := F_St) (N := 5) (ci := 8) (ref := "LineBreaker$Settings") (v := .ref (ad 12)) C w 11 0 iw_St rfl rfl (by decide) kw_111 rfl rfl d_Se_demerits_4 ?_
  refine lv_iconst (v := 2) hx hb d_Se_demerits_7 (by decide) ?_
  refine ka_i (f := (S.1 12)) C w 12 rfl hw.1 d_Se_demerits_8 ?_
  have hw := hw.2
  refine lv_aload_n hx hb d_Se_demerits_9 rfl (lv_at hl 0 rfl) ?_
  refine kg (C1 := R_Se) (T := F_Se) (N := 10) (ci := 7) (ref := "LineBreaker$Search") (v := .ref (ad 30)) C w 29 2 iw_Se rfl rfl (by decide) kw_296 rfl rfl d_Se_demerits_10 ?_
  refine kg (C1 := R_Gu) (T := F_Gu) (N := 9) (ci := 1) (ref := "LineBreaker$Gauge") (v := .int (S.2.2 1924)) C w 30 4 iw_Gu rfl rfl (by decide) kw_204 rfl rfl d_Se_demerits_13 ?_
  refine lv_iadd hx hb d_Se_demerits_16 ?_
  refine lv_i2l hx hb d_Se_demerits_17 rfl ?_
  refine lv_topl (fun v1 ev1 => ?_)
  have hw := hw v1 ev1
  refine lv_lstore_n (lv' := [(3, .long v1), (0, .ref (ad 29)), (1, .int p1), (2, .int p2)]) hx hb d_Se_demerits_18 rfl hl (by decide) rfl (fun ls hl => ?_)
  refine lv_lload_n hx hb d_Se_demerits_19 rfl (lv_at hl 0 rfl) ?_
  refine lv_ldc2 (v := 10000) hx hb C.2.2.2.1 (hts _ kw_780) d_Se_demerits_20 ?_
  refine W.lcmp hx hb d_Se_demerits_23 ?_
  refine lv_if_lt (tgt := 33) hx hb d_Se_demerits_24 (by decide) (fun hc => ?_) (fun hc => ?_)
  · have hw := hw.1 hc
    refine lv_lload_n hx hb d_Se_demerits_33 rfl (lv_at hl 0 rfl) ?_
    refine lv_lload_n hx hb d_Se_demerits_34 rfl (lv_at hl 0 rfl) ?_
    refine lv_lmul hx hb d_Se_demerits_35 ?_
    exact w_Se_demerits_36 C hr  p1 p2 (v1 * v1) hw _ _ _ (wn_eq w rfl) (lv_sub hl [1, 2, 3] rfl)
  · have hw := hw.2 hc
    refine lv_ldc2 (v := 100000000) hx hb C.2.2.2.1 (hts _ kw_781) d_Se_demerits_27 ?_
    refine lv_goto (tgt := 36) hx hb d_Se_demerits_30 (by decide) ?_
    exact w_Se_demerits_36 C hr  p1 p2 100000000 hw _ _ _ (wn_eq w rfl) (lv_sub hl [1, 2, 3] rfl)
set_option maxHeartbeats 4000000 in
set_option maxRecDepth 100000 in
theorem w_Of_take_48 {S : ST} {post : (Nat → Int32) → (Nat → Int64) → Int32 → Int32 → Prop} (C : cx p s m args meth c prog_6_method_4_code 7 "LineBreaker$Offers" n0 G K) (hr : meth.sig.returnType = none) : ∀ (a39 : (Nat → Int32)) (l38 : (Nat → Int64)) (x2 : Int32), wl_Of_take_48 S post a39 l38 x2 → ∀ (H : Heap) (locs : List Loc) (ls : Array Slot), wn n0 G (wC K ad (sL (sA S 39 a39) 38 l38) ++ X) s H locs → lv_has ls 7 [(0, .ref (ad 37)), (2, .int x2)] → W p l e rm_Of_take s m args below meth c H locs 0 0 (MQ below (va_Qv (fun (u : (Nat → Int32) × (Nat → Int64) × Int32 × Int32) => post u.1 u.2.1 u.2.2.1 u.2.2.2) (fun (u : (Nat → Int32) × (Nat → Int64) × Int32 × Int32) t => we n0 G (wC K ad (sI (sI (sL (sA S 39 u.1) 38 u.2.1) 2370 u.2.2.1) 2371 u.2.2.2) ++ X) t) (al n0)) args s 0 0 (al n0)) (F0 m 48 ls []) := by
  have hx := C.1
  have hb := C.2.1
  have hts := C.2.2.2.2.1
  intro a39 l38 x2 hw H locs ls w hl
  unfold wl_Of_take_48 at hw
  refine lv_aload_n hx hb d_Of_take_48 rfl (lv_at hl 0 rfl) ?_
  refine lv_aload_n hx hb d_Of_take_49 rfl (lv_at hl 0 rfl) ?_
  refine kg (C1 := R_Of) (T := F_Of) (N := 4) (ci := 4) (ref := "LineBreaker$Offers") (v := .int (S.2.2 2370)) C w 37 2 iw_Of rfl rfl (by decide) kw_282 rfl rfl d_Of_take_50 ?_
  refine lv_iload_n hx hb d_Of_take_53 rfl (lv_at hl 1 rfl) ?_
  refine va_mmin hx hb (C.2.2.1.trans hl.1.symm) C.2.2.2.1 (hts _ kw_796) (hts _ kw_563) (hts _ kw_17) (hts _ kw_564) (Nat.le_of_ble_eq_true rfl) (Nat.le_of_ble_eq_true rfl) (Nat.zero_le _) (Nat.zero_le _) d_Of_take_54 ?_
  refine lv_topi (fun v1 ev1 => ?_)
  have hw := hw v1 ev1
  refine kp (C1 := R_Of) (T := F_Of) (N := 4) (ci := 4) (ty0 := t_Of) (ref := "LineBreaker$Offers") (w2 := wC K ad (sI (sL (sA S 39 a39) 38 l38) 2370 v1) ++ X) C w 37 2 iw_Of tk_Of n_Of rfl rfl (by decide) kw_282 rfl rfl rfl rfl (Nat.le_of_ble_eq_true rfl) rfl d_Of_take_57 (fun H locs w => ?_)
  refine lv_aload_n hx hb d_Of_take_60 rfl (lv_at hl 0 rfl) ?_
  refine lv_aload_n hx hb d_Of_take_61 rfl (lv_at hl 0 rfl) ?_
  refine kg (C1 := R_Of) (T := F_Of) (N := 4) (ci := 4) (ref := "LineBreaker$Offers") (v := .int (S.2.2 2371)) C w 37 3 iw_Of rfl rfl (by decide) kw_283 rfl rfl d_Of_take_62 ?_
  refine lv_iload_n hx hb d_Of_take_65 rfl (lv_at hl 1 rfl) ?_
  refine va_mmax hx hb (C.2.2.1.trans hl.1.symm) C.2.2.2.1 (hts _ kw_797) (hts _ kw_525) (hts _ kw_17) (hts _ kw_526) (Nat.le_of_ble_eq_true rfl) (Nat.le_of_ble_eq_true rfl) (Nat.zero_le _) (Nat.zero_le _) d_Of_take_66 ?_
  refine lv_topi (fun v2 ev2 => ?_)
  have hw := hw v2 ev2
  refine kp (C1 := R_Of) (T := F_Of) (N := 4) (ci := 4) (ty0 := t_Of) (ref := "LineBreaker$Offers") (w2 := wC K ad (sI (sI (sL (sA S 39 a39) 38 l38) 2370 v1) 2371 v2) ++ X) C w 37 3 iw_Of tk_Of n_Of rfl rfl (by decide) kw_283 rfl rfl rfl rfl (Nat.le_of_ble_eq_true rfl) rfl d_Of_take_69 (fun H locs w => ?_)
  exact ke_v (post := (fun (u : (Nat → Int32) × (Nat → Int64) × Int32 × Int32) => post u.1 u.2.1 u.2.2.1 u.2.2.2)) (st := (fun (u : (Nat → Int32) × (Nat → Int64) × Int32 × Int32) => wC K ad (sI (sI (sL (sA S 39 u.1) 38 u.2.1) 2370 u.2.2.1) 2371 u.2.2.2) ++ X)) (u := (a39, l38, v1, v2)) C hr d_Of_take_72 (wn_eq w rfl) hw
set_option maxHeartbeats 4000000 in
set_option maxRecDepth 100000 in
theorem w_Of_take_31 {S : ST} {post : (Nat → Int32) → (Nat → Int64) → Int32 → Int32 → Prop} (C : cx p s m args meth c prog_6_method_4_code 7 "LineBreaker$Offers" n0 G K) (hr : meth.sig.returnType = none) : ∀ (x1 : Int32) (x2 : Int32) (x4 : Int64) (x6 : Int32), wl_Of_take_31 S post x1 x2 x4 x6 → ∀ (H : Heap) (locs : List Loc) (ls : Array Slot), wn n0 G (wC K ad S ++ X) s H locs → lv_has ls 7 [(0, .ref (ad 37)), (1, .int x1), (2, .int x2), (4, .long x4), (6, .int x6)] → W p l e rm_Of_take s m args below meth c H locs 0 0 (MQ below (va_Qv (fun (u : (Nat → Int32) × (Nat → Int64) × Int32 × Int32) => post u.1 u.2.1 u.2.2.1 u.2.2.2) (fun (u : (Nat → Int32) × (Nat → Int64) × Int32 × Int32) t => we n0 G (wC K ad (sI (sI (sL (sA S 39 u.1) 38 u.2.1) 2370 u.2.2.1) 2371 u.2.2.2) ++ X) t) (al n0)) args s 0 0 (al n0)) (F0 m 31 ls []) := by
  have hx := C.1
  have hb := C.2.1
  have hts := C.2.2.2.2.1
  intro x1 x2 x4 x6 hw H locs ls w hl
  unfold wl_Of_take_31 at hw
  refine lv_aload_n hx hb d_Of_take_31 rfl (lv_at hl 0 rfl) ?_
  refine kg (C1 := R_Of) (T := F_Of) (N := 4) (ci := 4) (ref := "LineBreaker$Offers") (v := .ref (ad 39)) C w 37 1 iw_Of rfl rfl (by decide) kw_281 rfl rfl d_Of_take_32 ?_
  refine lv_iload hx hb d_Of_take_35 (lv_at hl 4 rfl) ?_
  refine lv_iload_n hx hb d_Of_take_37 rfl (lv_at hl 1 rfl) ?_
  obtain ⟨f1, ef1⟩ : ∃ z : Nat → Int32, z = upd (S.1 39) x6.toNatClampNeg x1 := ⟨_, rfl⟩
  refine ks_i (f := (S.1 39)) (w2 := wC K ad (sA S 39 f1) ++ X) C w 39 rfl hw.1 (by rw [← ef1]; rfl) d_Of_take_38 (fun H locs w => ?_)
  have hw := hw.2 f1 ef1
  refine lv_aload_n hx hb d_Of_take_39 rfl (lv_at hl 0 rfl) ?_
  refine kg (C1 := R_Of) (T := F_Of) (N := 4) (ci := 4) (ref := "LineBreaker$Offers") (v := .ref (ad 38)) C w 37 0 iw_Of rfl rfl (by decide) kw_280 rfl rfl d_Of_take_40 ?_
  refine lv_iload hx hb d_Of_take_43 (lv_at hl 4 rfl) ?_
  refine lv_lload hx hb d_Of_take_45 (lv_at hl 3 rfl) ?_
  obtain ⟨f2, ef2⟩ : ∃ z : Nat → Int64, z = vp_updL (S.2.1 38) x6.toNatClampNeg x4 := ⟨_, rfl⟩
  refine ks_l (f := (S.2.1 38)) (w2 := wC K ad (sL (sA S 39 f1) 38 f2) ++ X) C w 38 rfl hw.1 (by rw [← ef2]; rfl) d_Of_take_47 (fun H locs w => ?_)
  have hw := hw.2 f2 ef2
  exact w_Of_take_48 C hr  f1 f2 x2 hw _ _ _ (wn_eq w rfl) (lv_sub hl [0, 2] rfl)
set_option maxHeartbeats 4000000 in
set_option maxRecDepth 100000 in
theorem c_Of_take (l : Launch) (n0 : Nat) (G : va_G) (K : KT) (ad : Nat → Nat) (X : va_W) (S : ST) (p1 : Int32) (p2 : Int32) (p3 : Int32) (p4 : Int64) (post : (Nat → Int32) → (Nat → Int64) → Int32 → Int32 → Prop) (hw : wp_Of_take S p1 p2 p3 p4 post) : Met l y_Of_take (Cond.code y_Of_take prog_6_method_4_code 7 none :: gw) rm_Of_take (va_Pc [.ref (ad 37), .int p1, .int p2, .int p3, .long p4] (wb n0 G K (wC K ad S ++ X))) (va_Qv (fun (u : (Nat → Int32) × (Nat → Int64) × Int32 × Int32) => post u.1 u.2.1 u.2.2.1 u.2.2.2) (fun (u : (Nat → Int32) × (Nat → Int64) × Int32 × Int32) t => we n0 G (wC K ad (sI (sI (sL (sA S 39 u.1) 38 u.2.1) 2370 u.2.2.1) 2371 u.2.2.2) ++ X) t) (al n0)) 0 0 (al n0) := by
  refine kb_start (own := "LineBreaker$Offers") (by decide +kernel) rfl ?_
  intro p e s m below meth c C hr hnm w
  have hx := C.1
  have hb := C.2.1
  have hts := C.2.2.2.2.1
  have hl := lv_entry ([.ref (ad 37), .int p1, .int p2, .int p3, .long p4]) (n := 7) (Nat.le_of_ble_eq_true rfl)
  rw [lg_entry_eq]
  generalize (lg_sl ([.ref (ad 37), .int p1, .int p2, .int p3, .long p4]) ++ List.replicate (7 - (lg_sl ([.ref (ad 37), .int p1, .int p2, .int p3, .long p4])).length) Slot.unset).toArray = ls at hl ⊢
  have hl : lv_has ls 7 [(0, .ref (ad 37)), (1, .int p1), (2, .int p2), (3, .int p3), (4, .long p4)] := hl
  unfold wp_Of_take at hw
  refine lv_iload_n hx hb d_Of_take_0 rfl (lv_at hl 2 rfl) ?_
  refine lv_iconst (v := 4) hx hb d_Of_take_1 (by decide) ?_
  refine lv_imul hx hb d_Of_take_2 ?_
  refine lv_iload_n hx hb d_Of_take_3 rfl (lv_at hl 3 rfl) ?_
  refine lv_iadd hx hb d_Of_take_4 ?_
  refine lv_topi (fun v1 ev1 => ?_)
  have hw := hw v1 ev1
  refine lv_istore (lv' := [(6, .int v1), (0, .ref (ad 37)), (1, .int p1), (2, .int p2), (3, .int p3), (4, .long p4)]) hx hb d_Of_take_5 hl (by decide) rfl (fun ls hl => ?_)
  refine lv_aload_n hx hb d_Of_take_7 rfl (lv_at hl 1 rfl) ?_
  refine kg (C1 := R_Of) (T := F_Of) (N := 4) (ci := 4) (ref := "LineBreaker$Offers") (v := .ref (ad 39)) C w 37 1 iw_Of rfl rfl (by decide) kw_281 rfl rfl d_Of_take_8 ?_
  refine lv_iload hx hb d_Of_take_11 (lv_at hl 0 rfl) ?_
  refine ka_i (f := (S.1 39)) C w 39 rfl hw.1 d_Of_take_13 ?_
  have hw := hw.2
  refine lv_iconst (v := (-1)) hx hb d_Of_take_14 (by decide) ?_
  refine lv_icmp_eq (tgt := 31) hx hb d_Of_take_15 (by decide) (fun hc => ?_) (fun hc => ?_)
  · have hw := hw.1 hc
    exact w_Of_take_31 C hr  p1 p2 p4 v1 hw _ _ _ (wn_eq w rfl) (lv_sub hl [1, 2, 3, 5, 0] rfl)
  · have hw := hw.2 hc
    refine lv_lload hx hb d_Of_take_18 (lv_at hl 5 rfl) ?_
    refine lv_aload_n hx hb d_Of_take_20 rfl (lv_at hl 1 rfl) ?_
    refine kg (C1 := R_Of) (T := F_Of) (N := 4) (ci := 4) (ref := "LineBreaker$Offers") (v := .ref (ad 38)) C w 37 0 iw_Of rfl rfl (by decide) kw_280 rfl rfl d_Of_take_21 ?_
    refine lv_iload hx hb d_Of_take_24 (lv_at hl 0 rfl) ?_
    refine ka_l (f := (S.2.1 38)) C w 38 rfl hw.1 d_Of_take_26 ?_
    have hw := hw.2
    refine W.lcmp hx hb d_Of_take_27 ?_
    refine lv_if_ge (tgt := 48) hx hb d_Of_take_28 (by decide) (fun hc => ?_) (fun hc => ?_)
    · have hw := hw.1 hc
      exact w_Of_take_48 C hr  (S.1 39) (S.2.1 38) p2 hw _ _ _ (wn_eq w rfl) (lv_sub hl [1, 3] rfl)
    · have hw := hw.2 hc
      exact w_Of_take_31 C hr  p1 p2 p4 v1 hw _ _ _ (wn_eq w rfl) (lv_sub hl [1, 2, 3, 5, 0] rfl)
set_option maxHeartbeats 4000000 in
set_option maxRecDepth 100000 in
theorem c_Se_offerFrom (l : Launch) (n0 : Nat) (G : va_G) (K : KT) (ad : Nat → Nat) (X : va_W) (S : ST) (p1 : Int32) (p2 : Int64) (post : (Nat → Int32) → (Nat → Int64) → Int32 → Int32 → Prop) (hw : wp_Se_offerFrom S p1 p2 post) : Met l y_Se_offerFrom (Cond.code y_Se_offerFrom prog_9_method_5_code 4 none :: gw) rm_Se_offerFrom (va_Pc [.ref (ad 29), .int p1, .long p2] (wb n0 G K (wC K ad S ++ X))) (va_Qv (fun (u : (Nat → Int32) × (Nat → Int64) × Int32 × Int32) => post u.1 u.2.1 u.2.2.1 u.2.2.2) (fun (u : (Nat → Int32) × (Nat → Int64) × Int32 × Int32) t => we n0 G (wC K ad (sI (sI (sL (sA S 39 u.1) 38 u.2.1) 2370 u.2.2.1) 2371 u.2.2.2) ++ X) t) (al n0)) 0 0 (al n0) := by
  refine kb_start (own := "LineBreaker$Search") (by decide +kernel) rfl ?_
  intro p e s m below meth c C hr hnm w
  have hx := C.1
  have hb := C.2.1
  have hts := C.2.2.2.2.1
  have hl := lv_entry ([.ref (ad 29), .int p1, .long p2]) (n := 4) (Nat.le_of_ble_eq_true rfl)
  rw [lg_entry_eq]
  generalize (lg_sl ([.ref (ad 29), .int p1, .long p2]) ++ List.replicate (4 - (lg_sl ([.ref (ad 29), .int p1, .long p2])).length) Slot.unset).toArray = ls at hl ⊢
  have hl : lv_has ls 4 [(0, .ref (ad 29)), (1, .int p1), (2, .long p2)] := hl
  unfold wp_Se_offerFrom at hw
  refine lv_aload_n hx hb d_Se_offerFrom_0 rfl (lv_at hl 0 rfl) ?_
  refine kg (C1 := R_Se) (T := F_Se) (N := 10) (ci := 7) (ref := "LineBreaker$Search") (v := .ref (ad 37)) C w 29 4 iw_Se rfl rfl (by decide) kw_300 rfl rfl d_Se_offerFrom_1 ?_
  refine lv_iload_n hx hb d_Se_offerFrom_4 rfl (lv_at hl 1 rfl) ?_
  refine lv_aload_n hx hb d_Se_offerFrom_5 rfl (lv_at hl 0 rfl) ?_
  refine kg (C1 := R_Se) (T := F_Se) (N := 10) (ci := 7) (ref := "LineBreaker$Search") (v := .ref (ad 31)) C w 29 3 iw_Se rfl rfl (by decide) kw_298 rfl rfl d_Se_offerFrom_6 ?_
  refine kg (C1 := R_No) (T := F_No) (N := 6) (ci := 3) (ref := "LineBreaker$Nodes") (v := .ref (ad 33)) C w 31 1 iw_No rfl rfl (by decide) kw_244 rfl rfl d_Se_offerFrom_9 ?_
  refine lv_iload_n hx hb d_Se_offerFrom_12 rfl (lv_at hl 1 rfl) ?_
  refine ka_i (f := (S.1 33)) C w 33 rfl hw.1 d_Se_offerFrom_13 ?_
  have hw := hw.2
  refine lv_iconst (v := 1) hx hb d_Se_offerFrom_14 (by decide) ?_
  refine lv_iadd hx hb d_Se_offerFrom_15 ?_
  refine lv_aload_n hx hb d_Se_offerFrom_16 rfl (lv_at hl 0 rfl) ?_
  refine kg (C1 := R_Se) (T := F_Se) (N := 10) (ci := 7) (ref := "LineBreaker$Search") (v := .ref (ad 30)) C w 29 2 iw_Se rfl rfl (by decide) kw_296 rfl rfl d_Se_offerFrom_17 ?_
  refine kg (C1 := R_Gu) (T := F_Gu) (N := 9) (ci := 1) (ref := "LineBreaker$Gauge") (v := .int (S.2.2 1925)) C w 30 5 iw_Gu rfl rfl (by decide) kw_209 rfl rfl d_Se_offerFrom_20 ?_
  refine lv_lload_n hx hb d_Se_offerFrom_23 rfl (lv_at hl 2 rfl) ?_
  refine kc_v (st := fun (u : (Nat → Int32) × (Nat → Int64) × Int32 × Int32) => wC K ad (sI (sI (sL (sA S 39 u.1) 38 u.2.1) 2370 u.2.2.1) 2371 u.2.2.2) ++ X) w (kr_V (y := y_Of_take) (C1 := R_Of) (T := F_Of) (N := 4) (ci := 4) (q0 := 37) (As := [.int p1, .int (((S.1 33) p1.toNatClampNeg) + 1), .int (S.2.2 1925), .long p2]) (n := 4) C w (c_Of_take l n0 G K ad X S p1 (((S.1 33) p1.toNatClampNeg) + 1) (S.2.2 1925) p2 _ hw) (gw_V kw_792 kw_793 kw_794 kw_9 kw_795) (by decide +kernel) rfl rfl ⟨Nat.le_of_ble_eq_true rfl, Nat.le_of_ble_eq_true rfl⟩ rfl rfl rfl hl.1 rfl (Nat.le_of_ble_eq_true rfl) d_Se_offerFrom_24 ⟨Nat.le_of_ble_eq_true rfl, Nat.le_of_ble_eq_true rfl⟩) (fun u H locs hw w => ?_)
  obtain ⟨f1, f2, v3, v4⟩ := u
  dsimp only at hw
  have w : wn n0 G (wC K ad (sI (sI (sL (sA S 39 f1) 38 f2) 2370 v3) 2371 v4) ++ X) s H locs := w
  exact ke_v (post := (fun (u : (Nat → Int32) × (Nat → Int64) × Int32 × Int32) => post u.1 u.2.1 u.2.2.1 u.2.2.2)) (st := (fun (u : (Nat → Int32) × (Nat → Int64) × Int32 × Int32) => wC K ad (sI (sI (sL (sA S 39 u.1) 38 u.2.1) 2370 u.2.2.1) 2371 u.2.2.2) ++ X)) (u := (f1, f2, v3, v4)) C hr d_Se_offerFrom_27 (wn_eq w rfl) hw
set_option maxHeartbeats 4000000 in
set_option maxRecDepth 100000 in
theorem c_Of_isEmpty (l : Launch) (n0 : Nat) (G : va_G) (K : KT) (ad : Nat → Nat) (X : va_W) (S : ST) (post : Int32 → Prop) (hw : wp_Of_isEmpty S  post) : Met l y_Of_isEmpty (Cond.code y_Of_isEmpty prog_6_method_3_code 1 (some .boolean) :: gw) rm_Of_isEmpty (va_Pc [.ref (ad 37)] (wb n0 G K (wC K ad S ++ X))) (va_Qi (fun r (u : Unit) => post r) (fun (u : Unit) t => we n0 G (wC K ad S ++ X) t) (al n0)) 0 0 (al n0) := by
  refine kb_start (own := "LineBreaker$Offers") (by decide +kernel) rfl ?_
  intro p e s m below meth c C hr hnm w
  have hx := C.1
  have hb := C.2.1
  have hts := C.2.2.2.2.1
  have hl := lv_entry ([.ref (ad 37)]) (n := 1) (Nat.le_of_ble_eq_true rfl)
  rw [lg_entry_eq]
  generalize (lg_sl ([.ref (ad 37)]) ++ List.replicate (1 - (lg_sl ([.ref (ad 37)])).length) Slot.unset).toArray = ls at hl ⊢
  have hl : lv_has ls 1 [(0, .ref (ad 37))] := hl
  unfold wp_Of_isEmpty at hw
  refine lv_aload_n hx hb d_Of_isEmpty_0 rfl (lv_at hl 0 rfl) ?_
  refine kg (C1 := R_Of) (T := F_Of) (N := 4) (ci := 4) (ref := "LineBreaker$Offers") (v := .int (S.2.2 2371)) C w 37 3 iw_Of rfl rfl (by decide) kw_283 rfl rfl d_Of_isEmpty_1 ?_
  refine lv_aload_n hx hb d_Of_isEmpty_4 rfl (lv_at hl 0 rfl) ?_
  refine kg (C1 := R_Of) (T := F_Of) (N := 4) (ci := 4) (ref := "LineBreaker$Offers") (v := .int (S.2.2 2370)) C w 37 2 iw_Of rfl rfl (by decide) kw_282 rfl rfl d_Of_isEmpty_5 ?_
  refine lv_icmp_ge (tgt := 15) hx hb d_Of_isEmpty_8 (by decide) (fun hc => ?_) (fun hc => ?_)
  · have hw := hw.1 hc
    refine lv_iconst (v := 0) hx hb d_Of_isEmpty_15 (by decide) ?_
    exact ke_z (post := (fun r (u : Unit) => post r)) (st := (fun (u : Unit) => wC K ad S ++ X)) (u := ()) C hr d_Of_isEmpty_16 (wn_eq w rfl) (Or.inl rfl) hw
  · have hw := hw.2 hc
    refine lv_iconst (v := 1) hx hb d_Of_isEmpty_11 (by decide) ?_
    refine lv_goto (tgt := 16) hx hb d_Of_isEmpty_12 (by decide) ?_
    exact ke_z (post := (fun r (u : Unit) => post r)) (st := (fun (u : Unit) => wC K ad S ++ X)) (u := ()) C hr d_Of_isEmpty_16 (wn_eq w rfl) (Or.inr rfl) hw
set_option maxHeartbeats 4000000 in
set_option maxRecDepth 100000 in
theorem c_No_isFull (l : Launch) (n0 : Nat) (G : va_G) (K : KT) (ad : Nat → Nat) (X : va_W) (S : ST) (post : Int32 → Prop) (hw : wp_No_isFull S  post) : Met l y_No_isFull (Cond.code y_No_isFull prog_5_method_3_code 1 (some .boolean) :: gw) rm_No_isFull (va_Pc [.ref (ad 31)] (wb n0 G K (wC K ad S ++ X))) (va_Qi (fun r (u : Unit) => post r) (fun (u : Unit) t => we n0 G (wC K ad S ++ X) t) (al n0)) 0 0 (al n0) := by
  refine kb_start (own := "LineBreaker$Nodes") (by decide +kernel) rfl ?_
  intro p e s m below meth c C hr hnm w
  have hx := C.1
  have hb := C.2.1
  have hts := C.2.2.2.2.1
  have hl := lv_entry ([.ref (ad 31)]) (n := 1) (Nat.le_of_ble_eq_true rfl)
  rw [lg_entry_eq]
  generalize (lg_sl ([.ref (ad 31)]) ++ List.replicate (1 - (lg_sl ([.ref (ad 31)])).length) Slot.unset).toArray = ls at hl ⊢
  have hl : lv_has ls 1 [(0, .ref (ad 31))] := hl
  unfold wp_No_isFull at hw
  refine lv_aload_n hx hb d_No_isFull_0 rfl (lv_at hl 0 rfl) ?_
  refine kg (C1 := R_No) (T := F_No) (N := 6) (ci := 3) (ref := "LineBreaker$Nodes") (v := .int (S.2.2 1989)) C w 31 5 iw_No rfl rfl (by decide) kw_256 rfl rfl d_No_isFull_1 ?_
  refine lv_sipush (v := 8000) hx hb d_No_isFull_4 (by decide) ?_
  refine lv_icmp_le (tgt := 14) hx hb d_No_isFull_7 (by decide) (fun hc => ?_) (fun hc => ?_)
  · have hw := hw.1 hc
    refine lv_iconst (v := 0) hx hb d_No_isFull_14 (by decide) ?_
    exact ke_z (post := (fun r (u : Unit) => post r)) (st := (fun (u : Unit) => wC K ad S ++ X)) (u := ()) C hr d_No_isFull_15 (wn_eq w rfl) (Or.inl rfl) hw
  · have hw := hw.2 hc
    refine lv_iconst (v := 1) hx hb d_No_isFull_10 (by decide) ?_
    refine lv_goto (tgt := 15) hx hb d_No_isFull_11 (by decide) ?_
    exact ke_z (post := (fun r (u : Unit) => post r)) (st := (fun (u : Unit) => wC K ad S ++ X)) (u := ()) C hr d_No_isFull_15 (wn_eq w rfl) (Or.inr rfl) hw
set_option maxHeartbeats 4000000 in
set_option maxRecDepth 100000 in
theorem w_Of_turnInto_16 {S : ST} {post : Int32 → (Nat → Int32) → (Nat → Int32) → (Nat → Int32) → (Nat → Int32) → (Nat → Int32) → (Nat → Int64) → Int32 → Int32 → Int32 → Prop} (C : cx p s m args meth c prog_6_method_5_code 7 "LineBreaker$Offers" n0 G K) (hr : meth.sig.returnType = (some .boolean)) {K5 : (Nat → Int32) → (Nat → Int32) → (Nat → Int32) → (Nat → Int32) → (Nat → Int32) → (Nat → Int64) → Int32 → Int32 → Int32 → Prop} (hk5 : ∀ (a32 : (Nat → Int32)) (a33 : (Nat → Int32)) (a34 : (Nat → Int32)) (a35 : (Nat → Int32)) (a39 : (Nat → Int32)) (l36 : (Nat → Int64)) (i1989 : Int32) (x2 : Int32) (x3 : Int32), K5 a32 a33 a34 a35 a39 l36 i1989 x2 x3 → ∀ (H : Heap) (locs : List Loc) (ls : Array Slot), wn n0 G (wC K ad (sI (sL (sA (sA (sA (sA (sA S 32 a32) 33 a33) 34 a34) 35 a35) 39 a39) 36 l36) 1989 i1989) ++ X) s H locs → lv_has ls 7 [(0, .ref (ad 37)), (1, .ref (ad 31)), (2, .int x2), (3, .int x3)] → W p l e rm_Of_turnInto s m args below meth c H locs 0 0 (MQ below (va_Qi (fun r (u : (Nat → Int32) × (Nat → Int32) × (Nat → Int32) × (Nat → Int32) × (Nat → Int32) × (Nat → Int64) × Int32 × Int32 × Int32) => post r u.1 u.2.1 u.2.2.1 u.2.2.2.1 u.2.2.2.2.1 u.2.2.2.2.2.1 u.2.2.2.2.2.2.1 u.2.2.2.2.2.2.2.1 u.2.2.2.2.2.2.2.2) (fun (u : (Nat → Int32) × (Nat → Int32) × (Nat → Int32) × (Nat → Int32) × (Nat → Int32) × (Nat → Int64) × Int32 × Int32 × Int32) t => we n0 G (wC K ad (sI (sI (sI (sL (sA (sA (sA (sA (sA S 32 u.1) 33 u.2.1) 34 u.2.2.1) 35 u.2.2.2.1) 39 u.2.2.2.2.1) 36 u.2.2.2.2.2.1) 1989 u.2.2.2.2.2.2.1) 2370 u.2.2.2.2.2.2.2.1) 2371 u.2.2.2.2.2.2.2.2) ++ X) t) (al n0)) args s 0 0 (al n0)) (F0 m 5 ls [])) : ∀ (n : Nat) (a32 : (Nat → Int32)) (a33 : (Nat → Int32)) (a34 : (Nat → Int32)) (a35 : (Nat → Int32)) (a39 : (Nat → Int32)) (l36 : (Nat → Int64)) (i1989 : Int32) (x2 : Int32) (x3 : Int32) (x4 : Int32), wl_Of_turnInto_16 S post K5 n a32 a33 a34 a35 a39 l36 i1989 x2 x3 x4 → ∀ (H : Heap) (locs : List Loc) (ls : Array Slot), wn n0 G (wC K ad (sI (sL (sA (sA (sA (sA (sA S 32 a32) 33 a33) 34 a34) 35 a35) 39 a39) 36 l36) 1989 i1989) ++ X) s H locs → lv_has ls 7 [(0, .ref (ad 37)), (1, .ref (ad 31)), (2, .int x2), (3, .int x3), (4, .int x4)] → W p l e rm_Of_turnInto s m args below meth c H locs 0 0 (MQ below (va_Qi (fun r (u : (Nat → Int32) × (Nat → Int32) × (Nat → Int32) × (Nat → Int32) × (Nat → Int32) × (Nat → Int64) × Int32 × Int32 × Int32) => post r u.1 u.2.1 u.2.2.1 u.2.2.2.1 u.2.2.2.2.1 u.2.2.2.2.2.1 u.2.2.2.2.2.2.1 u.2.2.2.2.2.2.2.1 u.2.2.2.2.2.2.2.2) (fun (u : (Nat → Int32) × (Nat → Int32) × (Nat → Int32) × (Nat → Int32) × (Nat → Int32) × (Nat → Int64) × Int32 × Int32 × Int32) t => we n0 G (wC K ad (sI (sI (sI (sL (sA (sA (sA (sA (sA S 32 u.1) 33 u.2.1) 34 u.2.2.1) 35 u.2.2.2.1) 39 u.2.2.2.2.1) 36 u.2.2.2.2.2.1) 1989 u.2.2.2.2.2.2.1) 2370 u.2.2.2.2.2.2.2.1) 2371 u.2.2.2.2.2.2.2.2) ++ X) t) (al n0)) args s 0 0 (al n0)) (F0 m 16 ls []) := by
  have hx := C.1
  have hb := C.2.1
  have hts := C.2.2.2.2.1
  intro n
  induction n with
  | zero =>
    intro a32 a33 a34 a35 a39 l36 i1989 x2 x3 x4 hw
    unfold wl_Of_turnInto_16 at hw
    exact hw.elim
  | succ n ih =>
    intro a32 a33 a34 a35 a39 l36 i1989 x2 x3 x4 hw H locs ls w hl
    unfold wl_Of_turnInto_16 at hw
    refine lv_iload hx hb d_Of_turnInto_16 (lv_at hl 4 rfl) ?_
    refine lv_if_lt (tgt := 133) hx hb d_Of_turnInto_18 (by decide) (fun hc => ?_) (fun hc => ?_)
    · have hw := hw.1 hc
      obtain ⟨v1, ev1⟩ : ∃ y : Int32, y = x3 + 1 := ⟨_, rfl⟩
      refine lv_iinc (v := v1) (lv' := [(3, .int v1), (0, .ref (ad 37)), (1, .ref (ad 31)), (2, .int x2), (4, .int x4)]) hx hb d_Of_turnInto_133 hl (k := 3) rfl (by rw [ev1]; rfl) (by decide) rfl (fun ls hl => ?_)
      have hw := hw v1 ev1
      refine lv_goto (tgt := 5) hx hb d_Of_turnInto_136 (by decide) ?_
      exact hk5 a32 a33 a34 a35 a39 l36 i1989 x2 v1 hw _ _ _ (wn_eq w rfl) (lv_sub hl [1, 2, 3, 0] rfl)
    · have hw := hw.2 hc
      refine lv_iload_n hx hb d_Of_turnInto_21 rfl (lv_at hl 3 rfl) ?_
      refine lv_iconst (v := 4) hx hb d_Of_turnInto_22 (by decide) ?_
      refine lv_imul hx hb d_Of_turnInto_23 ?_
      refine lv_iload hx hb d_Of_turnInto_24 (lv_at hl 4 rfl) ?_
      refine lv_iadd hx hb d_Of_turnInto_26 ?_
      refine lv_topi (fun v2 ev2 => ?_)
      have hw := hw v2 ev2
      refine lv_istore (lv' := [(5, .int v2), (0, .ref (ad 37)), (1, .ref (ad 31)), (2, .int x2), (3, .int x3), (4, .int x4)]) hx hb d_Of_turnInto_27 hl (by decide) rfl (fun ls hl => ?_)
      refine lv_aload_n hx hb d_Of_turnInto_29 rfl (lv_at hl 1 rfl) ?_
      refine kg (C1 := R_Of) (T := F_Of) (N := 4) (ci := 4) (ref := "LineBreaker$Offers") (v := .ref (ad 39)) C w 37 1 iw_Of rfl rfl (by decide) kw_281 rfl rfl d_Of_turnInto_30 ?_
      refine lv_iload hx hb d_Of_turnInto_33 (lv_at hl 0 rfl) ?_
      refine ka_i (f := a39) C w 39 rfl hw.1 d_Of_turnInto_35 ?_
      have hw := hw.2
      refine lv_iconst (v := (-1)) hx hb d_Of_turnInto_36 (by decide) ?_
      refine lv_icmp_ne (tgt := 43) hx hb d_Of_turnInto_37 (by decide) (fun hc => ?_) (fun hc => ?_)
      · have hw := hw.1 hc
        refine lv_aload_n hx hb d_Of_turnInto_43 rfl (lv_at hl 2 rfl) ?_
        refine kc_i (st := fun (u : Unit) => wC K ad (sI (sL (sA (sA (sA (sA (sA S 32 a32) 33 a33) 34 a34) 35 a35) 39 a39) 36 l36) 1989 i1989) ++ X) w (kr_V (y := y_No_isFull) (C1 := R_No) (T := F_No) (N := 6) (ci := 3) (q0 := 31) (As := []) (n := 0) C w (c_No_isFull l n0 G K ad X (sI (sL (sA (sA (sA (sA (sA S 32 a32) 33 a33) 34 a34) 35 a35) 39 a39) 36 l36) 1989 i1989)  _ hw) (gw_V kw_810 kw_811 kw_812 kw_8 kw_813) (by decide +kernel) rfl rfl ⟨Nat.le_of_ble_eq_true rfl, Nat.le_of_ble_eq_true rfl⟩ rfl rfl rfl hl.1 rfl (Nat.le_of_ble_eq_true rfl) d_Of_turnInto_44 ⟨Nat.le_of_ble_eq_true rfl, Nat.le_of_ble_eq_true rfl⟩) (fun r3 u H locs hw w => ?_)
        refine lv_if_eq (tgt := 52) hx hb d_Of_turnInto_47 (by decide) (fun hc => ?_) (fun hc => ?_)
        · have hw := hw.1 hc
          refine lv_aload_n hx hb d_Of_turnInto_52 rfl (lv_at hl 2 rfl) ?_
          refine kg (C1 := R_No) (T := F_No) (N := 6) (ci := 3) (ref := "LineBreaker$Nodes") (v := .int i1989) C w 31 5 iw_No rfl rfl (by decide) kw_258 rfl rfl d_Of_turnInto_53 ?_
          refine lv_istore (lv' := [(6, .int i1989), (5, .int v2), (0, .ref (ad 37)), (1, .ref (ad 31)), (2, .int x2), (3, .int x3), (4, .int x4)]) hx hb d_Of_turnInto_56 hl (by decide) rfl (fun ls hl => ?_)
          refine lv_aload_n hx hb d_Of_turnInto_58 rfl (lv_at hl 3 rfl) ?_
          refine kg (C1 := R_No) (T := F_No) (N := 6) (ci := 3) (ref := "LineBreaker$Nodes") (v := .ref (ad 32)) C w 31 0 iw_No rfl rfl (by decide) kw_241 rfl rfl d_Of_turnInto_59 ?_
          refine lv_iload hx hb d_Of_turnInto_62 (lv_at hl 0 rfl) ?_
          refine lv_iload_n hx hb d_Of_turnInto_64 rfl (lv_at hl 4 rfl) ?_
          obtain ⟨f4, ef4⟩ : ∃ z : Nat → Int32, z = upd a32 i1989.toNatClampNeg x2 := ⟨_, rfl⟩
          refine ks_i (f := a32) (w2 := wC K ad (sI (sL (sA (sA (sA (sA (sA S 32 f4) 33 a33) 34 a34) 35 a35) 39 a39) 36 l36) 1989 i1989) ++ X) C w 32 rfl hw.1 (by rw [← ef4]; rfl) d_Of_turnInto_65 (fun H locs w => ?_)
          have hw := hw.2 f4 ef4
          refine lv_aload_n hx hb d_Of_turnInto_66 rfl (lv_at hl 3 rfl) ?_
          refine kg (C1 := R_No) (T := F_No) (N := 6) (ci := 3) (ref := "LineBreaker$Nodes") (v := .ref (ad 33)) C w 31 1 iw_No rfl rfl (by decide) kw_245 rfl rfl d_Of_turnInto_67 ?_
          refine lv_iload hx hb d_Of_turnInto_70 (lv_at hl 0 rfl) ?_
          refine lv_iload_n hx hb d_Of_turnInto_72 rfl (lv_at hl 5 rfl) ?_
          obtain ⟨f5, ef5⟩ : ∃ z : Nat → Int32, z = upd a33 i1989.toNatClampNeg x3 := ⟨_, rfl⟩
          refine ks_i (f := a33) (w2 := wC K ad (sI (sL (sA (sA (sA (sA (sA S 32 f4) 33 f5) 34 a34) 35 a35) 39 a39) 36 l36) 1989 i1989) ++ X) C w 33 rfl hw.1 (by rw [← ef5]; rfl) d_Of_turnInto_73 (fun H locs w => ?_)
          have hw := hw.2 f5 ef5
          refine lv_aload_n hx hb d_Of_turnInto_74 rfl (lv_at hl 3 rfl) ?_
          refine kg (C1 := R_No) (T := F_No) (N := 6) (ci := 3) (ref := "LineBreaker$Nodes") (v := .ref (ad 34)) C w 31 2 iw_No rfl rfl (by decide) kw_247 rfl rfl d_Of_turnInto_75 ?_
          refine lv_iload hx hb d_Of_turnInto_78 (lv_at hl 0 rfl) ?_
          refine lv_iload hx hb d_Of_turnInto_80 (lv_at hl 6 rfl) ?_
          obtain ⟨f6, ef6⟩ : ∃ z : Nat → Int32, z = upd a34 i1989.toNatClampNeg x4 := ⟨_, rfl⟩
          refine ks_i (f := a34) (w2 := wC K ad (sI (sL (sA (sA (sA (sA (sA S 32 f4) 33 f5) 34 f6) 35 a35) 39 a39) 36 l36) 1989 i1989) ++ X) C w 34 rfl hw.1 (by rw [← ef6]; rfl) d_Of_turnInto_82 (fun H locs w => ?_)
          have hw := hw.2 f6 ef6
          refine lv_aload_n hx hb d_Of_turnInto_83 rfl (lv_at hl 3 rfl) ?_
          refine kg (C1 := R_No) (T := F_No) (N := 6) (ci := 3) (ref := "LineBreaker$Nodes") (v := .ref (ad 35)) C w 31 3 iw_No rfl rfl (by decide) kw_251 rfl rfl d_Of_turnInto_84 ?_
          refine lv_iload hx hb d_Of_turnInto_87 (lv_at hl 0 rfl) ?_
          refine lv_aload_n hx hb d_Of_turnInto_89 rfl (lv_at hl 2 rfl) ?_
          refine kg (C1 := R_Of) (T := F_Of) (N := 4) (ci := 4) (ref := "LineBreaker$Offers") (v := .ref (ad 39)) C w 37 1 iw_Of rfl rfl (by decide) kw_281 rfl rfl d_Of_turnInto_90 ?_
          refine lv_iload hx hb d_Of_turnInto_93 (lv_at hl 1 rfl) ?_
          refine ka_i (f := a39) C w 39 rfl hw.1 d_Of_turnInto_95 ?_
          have hw := hw.2
          obtain ⟨f7, ef7⟩ : ∃ z : Nat → Int32, z = upd a35 i1989.toNatClampNeg (a39 v2.toNatClampNeg) := ⟨_, rfl⟩
          refine ks_i (f := a35) (w2 := wC K ad (sI (sL (sA (sA (sA (sA (sA S 32 f4) 33 f5) 34 f6) 35 f7) 39 a39) 36 l36) 1989 i1989) ++ X) C w 35 rfl hw.1 (by rw [← ef7]; rfl) d_Of_turnInto_96 (fun H locs w => ?_)
          have hw := hw.2 f7 ef7
          refine lv_aload_n hx hb d_Of_turnInto_97 rfl (lv_at hl 3 rfl) ?_
          refine kg (C1 := R_No) (T := F_No) (N := 6) (ci := 3) (ref := "LineBreaker$Nodes") (v := .ref (ad 36)) C w 31 4 iw_No rfl rfl (by decide) kw_255 rfl rfl d_Of_turnInto_98 ?_
          refine lv_iload hx hb d_Of_turnInto_101 (lv_at hl 0 rfl) ?_
          refine lv_aload_n hx hb d_Of_turnInto_103 rfl (lv_at hl 2 rfl) ?_
          refine kg (C1 := R_Of) (T := F_Of) (N := 4) (ci := 4) (ref := "LineBreaker$Offers") (v := .ref (ad 38)) C w 37 0 iw_Of rfl rfl (by decide) kw_280 rfl rfl d_Of_turnInto_104 ?_
          refine lv_iload hx hb d_Of_turnInto_107 (lv_at hl 1 rfl) ?_
          refine ka_l (f := (S.2.1 38)) C w 38 rfl hw.1 d_Of_turnInto_109 ?_
          have hw := hw.2
          obtain ⟨f8, ef8⟩ : ∃ z : Nat → Int64, z = vp_updL l36 i1989.toNatClampNeg ((S.2.1 38) v2.toNatClampNeg) := ⟨_, rfl⟩
          refine ks_l (f := l36) (w2 := wC K ad (sI (sL (sA (sA (sA (sA (sA S 32 f4) 33 f5) 34 f6) 35 f7) 39 a39) 36 f8) 1989 i1989) ++ X) C w 36 rfl hw.1 (by rw [← ef8]; rfl) d_Of_turnInto_110 (fun H locs w => ?_)
          have hw := hw.2 f8 ef8
          refine lv_aload_n hx hb d_Of_turnInto_111 rfl (lv_at hl 3 rfl) ?_
          refine lv_iload hx hb d_Of_turnInto_112 (lv_at hl 0 rfl) ?_
          refine lv_iconst (v := 1) hx hb d_Of_turnInto_114 (by decide) ?_
          refine lv_iadd hx hb d_Of_turnInto_115 ?_
          refine lv_topi (fun v9 ev9 => ?_)
          have hw := hw v9 ev9
          refine kp (C1 := R_No) (T := F_No) (N := 6) (ci := 3) (ty0 := t_No) (ref := "LineBreaker$Nodes") (w2 := wC K ad (sI (sL (sA (sA (sA (sA (sA S 32 f4) 33 f5) 34 f6) 35 f7) 39 a39) 36 f8) 1989 v9) ++ X) C w 31 5 iw_No tk_No n_No rfl rfl (by decide) kw_258 rfl rfl rfl rfl (Nat.le_of_ble_eq_true rfl) rfl d_Of_turnInto_116 (fun H locs w => ?_)
          refine lv_aload_n hx hb d_Of_turnInto_119 rfl (lv_at hl 2 rfl) ?_
          refine kg (C1 := R_Of) (T := F_Of) (N := 4) (ci := 4) (ref := "LineBreaker$Offers") (v := .ref (ad 39)) C w 37 1 iw_Of rfl rfl (by decide) kw_281 rfl rfl d_Of_turnInto_120 ?_
          refine lv_iload hx hb d_Of_turnInto_123 (lv_at hl 1 rfl) ?_
          refine lv_iconst (v := (-1)) hx hb d_Of_turnInto_125 (by decide) ?_
          obtain ⟨f10, ef10⟩ : ∃ z : Nat → Int32, z = upd a39 v2.toNatClampNeg (-1) := ⟨_, rfl⟩
          refine ks_i (f := a39) (w2 := wC K ad (sI (sL (sA (sA (sA (sA (sA S 32 f4) 33 f5) 34 f6) 35 f7) 39 f10) 36 f8) 1989 v9) ++ X) C w 39 rfl hw.1 (by rw [← ef10]; rfl) d_Of_turnInto_126 (fun H locs w => ?_)
          have hw := hw.2 f10 ef10
          obtain ⟨v11, ev11⟩ : ∃ y : Int32, y = x4 + (-1) := ⟨_, rfl⟩
          refine lv_iinc (v := v11) (lv' := [(4, .int v11), (6, .int i1989), (5, .int v2), (0, .ref (ad 37)), (1, .ref (ad 31)), (2, .int x2), (3, .int x3)]) hx hb d_Of_turnInto_127 hl (k := 6) rfl (by rw [ev11]; rfl) (by decide) rfl (fun ls hl => ?_)
          have hw := hw v11 ev11
          refine lv_goto (tgt := 16) hx hb d_Of_turnInto_130 (by decide) ?_
          exact ih f4 f5 f6 f7 f10 f8 v9 x2 x3 v11 hw _ _ _ (wn_eq w rfl) (lv_sub hl [3, 4, 5, 6, 0] rfl)
        · have hw := hw.2 hc
          refine lv_iconst (v := 0) hx hb d_Of_turnInto_50 (by decide) ?_
          exact ke_z (post := (fun r (u : (Nat → Int32) × (Nat → Int32) × (Nat → Int32) × (Nat → Int32) × (Nat → Int32) × (Nat → Int64) × Int32 × Int32 × Int32) => post r u.1 u.2.1 u.2.2.1 u.2.2.2.1 u.2.2.2.2.1 u.2.2.2.2.2.1 u.2.2.2.2.2.2.1 u.2.2.2.2.2.2.2.1 u.2.2.2.2.2.2.2.2)) (st := (fun (u : (Nat → Int32) × (Nat → Int32) × (Nat → Int32) × (Nat → Int32) × (Nat → Int32) × (Nat → Int64) × Int32 × Int32 × Int32) => wC K ad (sI (sI (sI (sL (sA (sA (sA (sA (sA S 32 u.1) 33 u.2.1) 34 u.2.2.1) 35 u.2.2.2.1) 39 u.2.2.2.2.1) 36 u.2.2.2.2.2.1) 1989 u.2.2.2.2.2.2.1) 2370 u.2.2.2.2.2.2.2.1) 2371 u.2.2.2.2.2.2.2.2) ++ X)) (u := (a32, a33, a34, a35, a39, l36, i1989, (S.2.2 2370), (S.2.2 2371))) C hr d_Of_turnInto_51 (wn_eq w rfl) (Or.inl rfl) hw
      · have hw := hw.2 hc
        refine lv_goto (tgt := 127) hx hb d_Of_turnInto_40 (by decide) ?_
        obtain ⟨v12, ev12⟩ : ∃ y : Int32, y = x4 + (-1) := ⟨_, rfl⟩
        refine lv_iinc (v := v12) (lv' := [(4, .int v12), (5, .int v2), (0, .ref (ad 37)), (1, .ref (ad 31)), (2, .int x2), (3, .int x3)]) hx hb d_Of_turnInto_127 hl (k := 5) rfl (by rw [ev12]; rfl) (by decide) rfl (fun ls hl => ?_)
        have hw := hw v12 ev12
        refine lv_goto (tgt := 16) hx hb d_Of_turnInto_130 (by decide) ?_
        exact ih a32 a33 a34 a35 a39 l36 i1989 x2 x3 v12 hw _ _ _ (wn_eq w rfl) (lv_sub hl [2, 3, 4, 5, 0] rfl)
set_option maxHeartbeats 4000000 in
set_option maxRecDepth 100000 in
theorem w_Of_turnInto_5 {S : ST} {post : Int32 → (Nat → Int32) → (Nat → Int32) → (Nat → Int32) → (Nat → Int32) → (Nat → Int32) → (Nat → Int64) → Int32 → Int32 → Int32 → Prop} (C : cx p s m args meth c prog_6_method_5_code 7 "LineBreaker$Offers" n0 G K) (hr : meth.sig.returnType = (some .boolean)) : ∀ (n : Nat) (a32 : (Nat → Int32)) (a33 : (Nat → Int32)) (a34 : (Nat → Int32)) (a35 : (Nat → Int32)) (a39 : (Nat → Int32)) (l36 : (Nat → Int64)) (i1989 : Int32) (x2 : Int32) (x3 : Int32), wl_Of_turnInto_5 S post n a32 a33 a34 a35 a39 l36 i1989 x2 x3 → ∀ (H : Heap) (locs : List Loc) (ls : Array Slot), wn n0 G (wC K ad (sI (sL (sA (sA (sA (sA (sA S 32 a32) 33 a33) 34 a34) 35 a35) 39 a39) 36 l36) 1989 i1989) ++ X) s H locs → lv_has ls 7 [(0, .ref (ad 37)), (1, .ref (ad 31)), (2, .int x2), (3, .int x3)] → W p l e rm_Of_turnInto s m args below meth c H locs 0 0 (MQ below (va_Qi (fun r (u : (Nat → Int32) × (Nat → Int32) × (Nat → Int32) × (Nat → Int32) × (Nat → Int32) × (Nat → Int64) × Int32 × Int32 × Int32) => post r u.1 u.2.1 u.2.2.1 u.2.2.2.1 u.2.2.2.2.1 u.2.2.2.2.2.1 u.2.2.2.2.2.2.1 u.2.2.2.2.2.2.2.1 u.2.2.2.2.2.2.2.2) (fun (u : (Nat → Int32) × (Nat → Int32) × (Nat → Int32) × (Nat → Int32) × (Nat → Int32) × (Nat → Int64) × Int32 × Int32 × Int32) t => we n0 G (wC K ad (sI (sI (sI (sL (sA (sA (sA (sA (sA S 32 u.1) 33 u.2.1) 34 u.2.2.1) 35 u.2.2.2.1) 39 u.2.2.2.2.1) 36 u.2.2.2.2.2.1) 1989 u.2.2.2.2.2.2.1) 2370 u.2.2.2.2.2.2.2.1) 2371 u.2.2.2.2.2.2.2.2) ++ X) t) (al n0)) args s 0 0 (al n0)) (F0 m 5 ls []) := by
  have hx := C.1
  have hb := C.2.1
  have hts := C.2.2.2.2.1
  intro n
  induction n with
  | zero =>
    intro a32 a33 a34 a35 a39 l36 i1989 x2 x3 hw
    unfold wl_Of_turnInto_5 at hw
    exact hw.elim
  | succ n ih =>
    intro a32 a33 a34 a35 a39 l36 i1989 x2 x3 hw H locs ls w hl
    unfold wl_Of_turnInto_5 at hw
    refine lv_iload_n hx hb d_Of_turnInto_5 rfl (lv_at hl 3 rfl) ?_
    refine lv_aload_n hx hb d_Of_turnInto_6 rfl (lv_at hl 0 rfl) ?_
    refine kg (C1 := R_Of) (T := F_Of) (N := 4) (ci := 4) (ref := "LineBreaker$Offers") (v := .int (S.2.2 2371)) C w 37 3 iw_Of rfl rfl (by decide) kw_283 rfl rfl d_Of_turnInto_7 ?_
    refine lv_icmp_gt (tgt := 139) hx hb d_Of_turnInto_10 (by decide) (fun hc => ?_) (fun hc => ?_)
    · have hw := hw.1 hc
      refine lv_aload_n hx hb d_Of_turnInto_139 rfl (lv_at hl 0 rfl) ?_
      refine lv_sipush (v := 401) hx hb d_Of_turnInto_140 (by decide) ?_
      refine kp (C1 := R_Of) (T := F_Of) (N := 4) (ci := 4) (ty0 := t_Of) (ref := "LineBreaker$Offers") (w2 := wC K ad (sI (sI (sL (sA (sA (sA (sA (sA S 32 a32) 33 a33) 34 a34) 35 a35) 39 a39) 36 l36) 1989 i1989) 2370 401) ++ X) C w 37 2 iw_Of tk_Of n_Of rfl rfl (by decide) kw_282 rfl rfl rfl rfl (Nat.le_of_ble_eq_true rfl) rfl d_Of_turnInto_143 (fun H locs w => ?_)
      refine lv_aload_n hx hb d_Of_turnInto_146 rfl (lv_at hl 0 rfl) ?_
      refine lv_iconst (v := 0) hx hb d_Of_turnInto_147 (by decide) ?_
      refine kp (C1 := R_Of) (T := F_Of) (N := 4) (ci := 4) (ty0 := t_Of) (ref := "LineBreaker$Offers") (w2 := wC K ad (sI (sI (sI (sL (sA (sA (sA (sA (sA S 32 a32) 33 a33) 34 a34) 35 a35) 39 a39) 36 l36) 1989 i1989) 2370 401) 2371 0) ++ X) C w 37 3 iw_Of tk_Of n_Of rfl rfl (by decide) kw_283 rfl rfl rfl rfl (Nat.le_of_ble_eq_true rfl) rfl d_Of_turnInto_148 (fun H locs w => ?_)
      refine lv_iconst (v := 1) hx hb d_Of_turnInto_151 (by decide) ?_
      exact ke_z (post := (fun r (u : (Nat → Int32) × (Nat → Int32) × (Nat → Int32) × (Nat → Int32) × (Nat → Int32) × (Nat → Int64) × Int32 × Int32 × Int32) => post r u.1 u.2.1 u.2.2.1 u.2.2.2.1 u.2.2.2.2.1 u.2.2.2.2.2.1 u.2.2.2.2.2.2.1 u.2.2.2.2.2.2.2.1 u.2.2.2.2.2.2.2.2)) (st := (fun (u : (Nat → Int32) × (Nat → Int32) × (Nat → Int32) × (Nat → Int32) × (Nat → Int32) × (Nat → Int64) × Int32 × Int32 × Int32) => wC K ad (sI (sI (sI (sL (sA (sA (sA (sA (sA S 32 u.1) 33 u.2.1) 34 u.2.2.1) 35 u.2.2.2.1) 39 u.2.2.2.2.1) 36 u.2.2.2.2.2.1) 1989 u.2.2.2.2.2.2.1) 2370 u.2.2.2.2.2.2.2.1) 2371 u.2.2.2.2.2.2.2.2) ++ X)) (u := (a32, a33, a34, a35, a39, l36, i1989, 401, 0)) C hr d_Of_turnInto_152 (wn_eq w rfl) (Or.inr rfl) hw
    · have hw := hw.2 hc
      refine lv_iconst (v := 3) hx hb d_Of_turnInto_13 (by decide) ?_
      refine lv_istore (lv' := [(4, .int 3), (0, .ref (ad 37)), (1, .ref (ad 31)), (2, .int x2), (3, .int x3)]) hx hb d_Of_turnInto_14 hl (by decide) rfl (fun ls hl => ?_)
      obtain ⟨n9, hw⟩ := hw
      exact w_Of_turnInto_16 C hr ih n9 a32 a33 a34 a35 a39 l36 i1989 x2 x3 3 hw _ _ _ (wn_eq w rfl) (lv_sub hl [1, 2, 3, 4, 0] rfl)
set_option maxHeartbeats 4000000 in
set_option maxRecDepth 100000 in
theorem c_Of_turnInto (l : Launch) (n0 : Nat) (G : va_G) (K : KT) (ad : Nat → Nat) (X : va_W) (S : ST) (p2 : Int32) (post : Int32 → (Nat → Int32) → (Nat → Int32) → (Nat → Int32) → (Nat → Int32) → (Nat → Int32) → (Nat → Int64) → Int32 → Int32 → Int32 → Prop) (hw : wp_Of_turnInto S p2 post) : Met l y_Of_turnInto (Cond.code y_Of_turnInto prog_6_method_5_code 7 (some .boolean) :: gw) rm_Of_turnInto (va_Pc [.ref (ad 37), .ref (ad 31), .int p2] (wb n0 G K (wC K ad S ++ X))) (va_Qi (fun r (u : (Nat → Int32) × (Nat → Int32) × (Nat → Int32) × (Nat → Int32) × (Nat → Int32) × (Nat → Int64) × Int32 × Int32 × Int32) => post r u.1 u.2.1 u.2.2.1 u.2.2.2.1 u.2.2.2.2.1 u.2.2.2.2.2.1 u.2.2.2.2.2.2.1 u.2.2.2.2.2.2.2.1 u.2.2.2.2.2.2.2.2) (fun (u : (Nat → Int32) × (Nat → Int32) × (Nat → Int32) × (Nat → Int32) × (Nat → Int32) × (Nat → Int64) × Int32 × Int32 × Int32) t => we n0 G (wC K ad (sI (sI (sI (sL (sA (sA (sA (sA (sA S 32 u.1) 33 u.2.1) 34 u.2.2.1) 35 u.2.2.2.1) 39 u.2.2.2.2.1) 36 u.2.2.2.2.2.1) 1989 u.2.2.2.2.2.2.1) 2370 u.2.2.2.2.2.2.2.1) 2371 u.2.2.2.2.2.2.2.2) ++ X) t) (al n0)) 0 0 (al n0) := by
  refine kb_start (own := "LineBreaker$Offers") (by decide +kernel) rfl ?_
  intro p e s m below meth c C hr hnm w
  have hx := C.1
  have hb := C.2.1
  have hts := C.2.2.2.2.1
  have hl := lv_entry ([.ref (ad 37), .ref (ad 31), .int p2]) (n := 7) (Nat.le_of_ble_eq_true rfl)
  rw [lg_entry_eq]
  generalize (lg_sl ([.ref (ad 37), .ref (ad 31), .int p2]) ++ List.replicate (7 - (lg_sl ([.ref (ad 37), .ref (ad 31), .int p2])).length) Slot.unset).toArray = ls at hl ⊢
  have hl : lv_has ls 7 [(0, .ref (ad 37)), (1, .ref (ad 31)), (2, .int p2)] := hl
  unfold wp_Of_turnInto at hw
  refine lv_aload_n hx hb d_Of_turnInto_0 rfl (lv_at hl 0 rfl) ?_
  refine kg (C1 := R_Of) (T := F_Of) (N := 4) (ci := 4) (ref := "LineBreaker$Offers") (v := .int (S.2.2 2370)) C w 37 2 iw_Of rfl rfl (by decide) kw_282 rfl rfl d_Of_turnInto_1 ?_
  refine lv_topi (fun v1 ev1 => ?_)
  have hw := hw v1 ev1
  refine lv_istore_n (lv' := [(3, .int v1), (0, .ref (ad 37)), (1, .ref (ad 31)), (2, .int p2)]) hx hb d_Of_turnInto_4 rfl hl (by decide) rfl (fun ls hl => ?_)
  obtain ⟨n9, hw⟩ := hw
  exact w_Of_turnInto_5 C hr  n9 (S.1 32) (S.1 33) (S.1 34) (S.1 35) (S.1 39) (S.2.1 36) (S.2.2 1989) p2 v1 hw _ _ _ (wn_eq w rfl) (lv_sub hl [1, 2, 3, 0] rfl)
set_option maxHeartbeats 4000000 in
set_option maxRecDepth 100000 in
theorem w_Se_settle_33 {S : ST} {post : Int32 → (Nat → Int32) → (Nat → Int32) → (Nat → Int32) → (Nat → Int32) → (Nat → Int32) → (Nat → Int32) → (Nat → Int64) → Int32 → Int32 → Int32 → Int32 → Int32 → Prop} (C : cx p s m args meth c prog_9_method_6_code 3 "LineBreaker$Search" n0 G K) (hr : meth.sig.returnType = (some .boolean)) : ∀ (n : Nat) (a32 : (Nat → Int32)) (a33 : (Nat → Int32)) (a34 : (Nat → Int32)) (a35 : (Nat → Int32)) (a39 : (Nat → Int32)) (a40 : (Nat → Int32)) (l36 : (Nat → Int64)) (i1862 : Int32) (i1863 : Int32) (i1989 : Int32) (i2370 : Int32) (i2371 : Int32) (x2 : Int32), wl_Se_settle_33 S post n a32 a33 a34 a35 a39 a40 l36 i1862 i1863 i1989 i2370 i2371 x2 → ∀ (H : Heap) (locs : List Loc) (ls : Array Slot), wn n0 G (wC K ad (sI (sI (sI (sI (sI (sL (sA (sA (sA (sA (sA (sA S 32 a32) 33 a33) 34 a34) 35 a35) 39 a39) 40 a40) 36 l36) 1862 i1862) 1863 i1863) 1989 i1989) 2370 i2370) 2371 i2371) ++ X) s H locs → lv_has ls 3 [(0, .ref (ad 29)), (2, .int x2)] → W p l e rm_Se_settle s m args below meth c H locs 0 0 (MQ below (va_Qi (fun r (u : (Nat → Int32) × (Nat → Int32) × (Nat → Int32) × (Nat → Int32) × (Nat → Int32) × (Nat → Int32) × (Nat → Int64) × Int32 × Int32 × Int32 × Int32 × Int32) => post r u.1 u.2.1 u.2.2.1 u.2.2.2.1 u.2.2.2.2.1 u.2.2.2.2.2.1 u.2.2.2.2.2.2.1 u.2.2.2.2.2.2.2.1 u.2.2.2.2.2.2.2.2.1 u.2.2.2.2.2.2.2.2.2.1 u.2.2.2.2.2.2.2.2.2.2.1 u.2.2.2.2.2.2.2.2.2.2.2) (fun (u : (Nat → Int32) × (Nat → Int32) × (Nat → Int32) × (Nat → Int32) × (Nat → Int32) × (Nat → Int32) × (Nat → Int64) × Int32 × Int32 × Int32 × Int32 × Int32) t => we n0 G (wC K ad (sI (sI (sI (sI (sI (sL (sA (sA (sA (sA (sA (sA S 32 u.1) 33 u.2.1) 34 u.2.2.1) 35 u.2.2.2.1) 39 u.2.2.2.2.1) 40 u.2.2.2.2.2.1) 36 u.2.2.2.2.2.2.1) 1862 u.2.2.2.2.2.2.2.1) 1863 u.2.2.2.2.2.2.2.2.1) 1989 u.2.2.2.2.2.2.2.2.2.1) 2370 u.2.2.2.2.2.2.2.2.2.2.1) 2371 u.2.2.2.2.2.2.2.2.2.2.2) ++ X) t) (al n0)) args s 0 0 (al n0)) (F0 m 33 ls []) := by
  have hx := C.1
  have hb := C.2.1
  have hts := C.2.2.2.2.1
  intro n
  induction n with
  | zero =>
    intro a32 a33 a34 a35 a39 a40 l36 i1862 i1863 i1989 i2370 i2371 x2 hw
    unfold wl_Se_settle_33 at hw
    exact hw.elim
  | succ n ih =>
    intro a32 a33 a34 a35 a39 a40 l36 i1862 i1863 i1989 i2370 i2371 x2 hw H locs ls w hl
    unfold wl_Se_settle_33 at hw
    refine lv_iload_n hx hb d_Se_settle_33 rfl (lv_at hl 1 rfl) ?_
    refine lv_aload_n hx hb d_Se_settle_34 rfl (lv_at hl 0 rfl) ?_
    refine kg (C1 := R_Se) (T := F_Se) (N := 10) (ci := 7) (ref := "LineBreaker$Search") (v := .ref (ad 31)) C w 29 3 iw_Se rfl rfl (by decide) kw_298 rfl rfl d_Se_settle_35 ?_
    refine kg (C1 := R_No) (T := F_No) (N := 6) (ci := 3) (ref := "LineBreaker$Nodes") (v := .int i1989) C w 31 5 iw_No rfl rfl (by decide) kw_259 rfl rfl d_Se_settle_38 ?_
    refine lv_icmp_ge (tgt := 70) hx hb d_Se_settle_41 (by decide) (fun hc => ?_) (fun hc => ?_)
    · have hw := hw.1 hc
      refine lv_iconst (v := 1) hx hb d_Se_settle_70 (by decide) ?_
      exact ke_z (post := (fun r (u : (Nat → Int32) × (Nat → Int32) × (Nat → Int32) × (Nat → Int32) × (Nat → Int32) × (Nat → Int32) × (Nat → Int64) × Int32 × Int32 × Int32 × Int32 × Int32) => post r u.1 u.2.1 u.2.2.1 u.2.2.2.1 u.2.2.2.2.1 u.2.2.2.2.2.1 u.2.2.2.2.2.2.1 u.2.2.2.2.2.2.2.1 u.2.2.2.2.2.2.2.2.1 u.2.2.2.2.2.2.2.2.2.1 u.2.2.2.2.2.2.2.2.2.2.1 u.2.2.2.2.2.2.2.2.2.2.2)) (st := (fun (u : (Nat → Int32) × (Nat → Int32) × (Nat → Int32) × (Nat → Int32) × (Nat → Int32) × (Nat → Int32) × (Nat → Int64) × Int32 × Int32 × Int32 × Int32 × Int32) => wC K ad (sI (sI (sI (sI (sI (sL (sA (sA (sA (sA (sA (sA S 32 u.1) 33 u.2.1) 34 u.2.2.1) 35 u.2.2.2.1) 39 u.2.2.2.2.1) 40 u.2.2.2.2.2.1) 36 u.2.2.2.2.2.2.1) 1862 u.2.2.2.2.2.2.2.1) 1863 u.2.2.2.2.2.2.2.2.1) 1989 u.2.2.2.2.2.2.2.2.2.1) 2370 u.2.2.2.2.2.2.2.2.2.2.1) 2371 u.2.2.2.2.2.2.2.2.2.2.2) ++ X)) (u := (a32, a33, a34, a35, a39, a40, l36, i1862, i1863, i1989, i2370, i2371)) C hr d_Se_settle_71 (wn_eq w rfl) (Or.inr rfl) hw
    · have hw := hw.2 hc
      refine lv_aload_n hx hb d_Se_settle_44 rfl (lv_at hl 0 rfl) ?_
      refine kg (C1 := R_Se) (T := F_Se) (N := 10) (ci := 7) (ref := "LineBreaker$Search") (v := .ref (ad 40)) C w 29 5 iw_Se rfl rfl (by decide) kw_301 rfl rfl d_Se_settle_45 ?_
      refine lv_aload_n hx hb d_Se_settle_48 rfl (lv_at hl 0 rfl) ?_
      refine kg (C1 := R_Se) (T := F_Se) (N := 10) (ci := 7) (ref := "LineBreaker$Search") (v := .int i1862) C w 29 6 iw_Se rfl rfl (by decide) kw_302 rfl rfl d_Se_settle_49 ?_
      refine lv_iload_n hx hb d_Se_settle_52 rfl (lv_at hl 1 rfl) ?_
      obtain ⟨f1, ef1⟩ : ∃ z : Nat → Int32, z = upd a40 i1862.toNatClampNeg x2 := ⟨_, rfl⟩
      refine ks_i (f := a40) (w2 := wC K ad (sI (sI (sI (sI (sI (sL (sA (sA (sA (sA (sA (sA S 32 a32) 33 a33) 34 a34) 35 a35) 39 a39) 40 f1) 36 l36) 1862 i1862) 1863 i1863) 1989 i1989) 2370 i2370) 2371 i2371) ++ X) C w 40 rfl hw.1 (by rw [← ef1]; rfl) d_Se_settle_53 (fun H locs w => ?_)
      have hw := hw.2 f1 ef1
      refine lv_aload_n hx hb d_Se_settle_54 rfl (lv_at hl 0 rfl) ?_
      refine lv_dup hx hb d_Se_settle_55 rfl ?_
      refine kg (C1 := R_Se) (T := F_Se) (N := 10) (ci := 7) (ref := "LineBreaker$Search") (v := .int i1862) C w 29 6 iw_Se rfl rfl (by decide) kw_302 rfl rfl d_Se_settle_56 ?_
      refine lv_iconst (v := 1) hx hb d_Se_settle_59 (by decide) ?_
      refine lv_iadd hx hb d_Se_settle_60 ?_
      refine lv_topi (fun v2 ev2 => ?_)
      have hw := hw v2 ev2
      refine kp (C1 := R_Se) (T := F_Se) (N := 10) (ci := 7) (ty0 := t_Se) (ref := "LineBreaker$Search") (w2 := wC K ad (sI (sI (sI (sI (sI (sL (sA (sA (sA (sA (sA (sA S 32 a32) 33 a33) 34 a34) 35 a35) 39 a39) 40 f1) 36 l36) 1862 v2) 1863 i1863) 1989 i1989) 2370 i2370) 2371 i2371) ++ X) C w 29 6 iw_Se tk_Se n_Se rfl rfl (by decide) kw_302 rfl rfl rfl rfl (Nat.le_of_ble_eq_true rfl) rfl d_Se_settle_61 (fun H locs w => ?_)
      obtain ⟨v3, ev3⟩ : ∃ y : Int32, y = x2 + 1 := ⟨_, rfl⟩
      refine lv_iinc (v := v3) (lv' := [(2, .int v3), (0, .ref (ad 29))]) hx hb d_Se_settle_64 hl (k := 1) rfl (by rw [ev3]; rfl) (by decide) rfl (fun ls hl => ?_)
      have hw := hw v3 ev3
      refine lv_goto (tgt := 33) hx hb d_Se_settle_67 (by decide) ?_
      exact ih a32 a33 a34 a35 a39 f1 l36 v2 i1863 i1989 i2370 i2371 v3 hw _ _ _ (wn_eq w rfl) (lv_sub hl [1, 0] rfl)
set_option maxHeartbeats 4000000 in
set_option maxRecDepth 100000 in
theorem c_Se_settle (l : Launch) (n0 : Nat) (G : va_G) (K : KT) (ad : Nat → Nat) (X : va_W) (S : ST) (p1 : Int32) (post : Int32 → (Nat → Int32) → (Nat → Int32) → (Nat → Int32) → (Nat → Int32) → (Nat → Int32) → (Nat → Int32) → (Nat → Int64) → Int32 → Int32 → Int32 → Int32 → Int32 → Prop) (hw : wp_Se_settle S p1 post) : Met l y_Se_settle (Cond.code y_Se_settle prog_9_method_6_code 3 (some .boolean) :: gw) rm_Se_settle (va_Pc [.ref (ad 29), .int p1] (wb n0 G K (wC K ad S ++ X))) (va_Qi (fun r (u : (Nat → Int32) × (Nat → Int32) × (Nat → Int32) × (Nat → Int32) × (Nat → Int32) × (Nat → Int32) × (Nat → Int64) × Int32 × Int32 × Int32 × Int32 × Int32) => post r u.1 u.2.1 u.2.2.1 u.2.2.2.1 u.2.2.2.2.1 u.2.2.2.2.2.1 u.2.2.2.2.2.2.1 u.2.2.2.2.2.2.2.1 u.2.2.2.2.2.2.2.2.1 u.2.2.2.2.2.2.2.2.2.1 u.2.2.2.2.2.2.2.2.2.2.1 u.2.2.2.2.2.2.2.2.2.2.2) (fun (u : (Nat → Int32) × (Nat → Int32) × (Nat → Int32) × (Nat → Int32) × (Nat → Int32) × (Nat → Int32) × (Nat → Int64) × Int32 × Int32 × Int32 × Int32 × Int32) t => we n0 G (wC K ad (sI (sI (sI (sI (sI (sL (sA (sA (sA (sA (sA (sA S 32 u.1) 33 u.2.1) 34 u.2.2.1) 35 u.2.2.2.1) 39 u.2.2.2.2.1) 40 u.2.2.2.2.2.1) 36 u.2.2.2.2.2.2.1) 1862 u.2.2.2.2.2.2.2.1) 1863 u.2.2.2.2.2.2.2.2.1) 1989 u.2.2.2.2.2.2.2.2.2.1) 2370 u.2.2.2.2.2.2.2.2.2.2.1) 2371 u.2.2.2.2.2.2.2.2.2.2.2) ++ X) t) (al n0)) 0 0 (al n0) := by
  refine kb_start (own := "LineBreaker$Search") (by decide +kernel) rfl ?_
  intro p e s m below meth c C hr hnm w
  have hx := C.1
  have hb := C.2.1
  have hts := C.2.2.2.2.1
  have hl := lv_entry ([.ref (ad 29), .int p1]) (n := 3) (Nat.le_of_ble_eq_true rfl)
  rw [lg_entry_eq]
  generalize (lg_sl ([.ref (ad 29), .int p1]) ++ List.replicate (3 - (lg_sl ([.ref (ad 29), .int p1])).length) Slot.unset).toArray = ls at hl ⊢
  have hl : lv_has ls 3 [(0, .ref (ad 29)), (1, .int p1)] := hl
  unfold wp_Se_settle at hw
  refine lv_aload_n hx hb d_Se_settle_0 rfl (lv_at hl 0 rfl) ?_
  refine lv_aload_n hx hb d_Se_settle_1 rfl (lv_at hl 0 rfl) ?_
  refine kg (C1 := R_Se) (T := F_Se) (N := 10) (ci := 7) (ref := "LineBreaker$Search") (v := .ref (ad 31)) C w 29 3 iw_Se rfl rfl (by decide) kw_298 rfl rfl d_Se_settle_2 ?_
  refine kg (C1 := R_No) (T := F_No) (N := 6) (ci := 3) (ref := "LineBreaker$Nodes") (v := .int (S.2.2 1989)) C w 31 5 iw_No rfl rfl (by decide) kw_259 rfl rfl d_Se_settle_5 ?_
  refine lv_topi (fun v1 ev1 => ?_)
  have hw := hw v1 ev1
  refine kp (C1 := R_Se) (T := F_Se) (N := 10) (ci := 7) (ty0 := t_Se) (ref := "LineBreaker$Search") (w2 := wC K ad (sI S 1863 v1) ++ X) C w 29 7 iw_Se tk_Se n_Se rfl rfl (by decide) kw_303 rfl rfl rfl rfl (Nat.le_of_ble_eq_true rfl) rfl d_Se_settle_8 (fun H locs w => ?_)
  refine lv_aload_n hx hb d_Se_settle_11 rfl (lv_at hl 0 rfl) ?_
  refine kg (C1 := R_Se) (T := F_Se) (N := 10) (ci := 7) (ref := "LineBreaker$Search") (v := .ref (ad 37)) C w 29 4 iw_Se rfl rfl (by decide) kw_300 rfl rfl d_Se_settle_12 ?_
  refine lv_aload_n hx hb d_Se_settle_15 rfl (lv_at hl 0 rfl) ?_
  refine kg (C1 := R_Se) (T := F_Se) (N := 10) (ci := 7) (ref := "LineBreaker$Search") (v := .ref (ad 31)) C w 29 3 iw_Se rfl rfl (by decide) kw_298 rfl rfl d_Se_settle_16 ?_
  refine lv_iload_n hx hb d_Se_settle_19 rfl (lv_at hl 1 rfl) ?_
  refine kc_i (st := fun (u : (Nat → Int32) × (Nat → Int32) × (Nat → Int32) × (Nat → Int32) × (Nat → Int32) × (Nat → Int64) × Int32 × Int32 × Int32) => wC K ad (sI (sI (sI (sL (sA (sA (sA (sA (sA (sI S 1863 v1) 32 u.1) 33 u.2.1) 34 u.2.2.1) 35 u.2.2.2.1) 39 u.2.2.2.2.1) 36 u.2.2.2.2.2.1) 1989 u.2.2.2.2.2.2.1) 2370 u.2.2.2.2.2.2.2.1) 2371 u.2.2.2.2.2.2.2.2) ++ X) w (kr_V (y := y_Of_turnInto) (C1 := R_Of) (T := F_Of) (N := 4) (ci := 4) (q0 := 37) (As := [.ref (ad 31), .int p1]) (n := 2) C w (c_Of_turnInto l n0 G K ad X (sI S 1863 v1) p1 _ hw) (gw_V kw_806 kw_807 kw_808 kw_9 kw_809) (by decide +kernel) rfl rfl ⟨Nat.le_of_ble_eq_true rfl, Nat.le_of_ble_eq_true rfl⟩ rfl rfl rfl hl.1 rfl (Nat.le_of_ble_eq_true rfl) d_Se_settle_20 ⟨Nat.le_of_ble_eq_true rfl, Nat.le_of_ble_eq_true rfl⟩) (fun r11 u H locs hw w => ?_)
  obtain ⟨f2, f3, f4, f5, f6, f7, v8, v9, v10⟩ := u
  dsimp only at hw
  have w : wn n0 G (wC K ad (sI (sI (sI (sI (sL (sA (sA (sA (sA (sA S 32 f2) 33 f3) 34 f4) 35 f5) 39 f6) 36 f7) 1863 v1) 1989 v8) 2370 v9) 2371 v10) ++ X) s H locs := w
  refine lv_if_ne (tgt := 28) hx hb d_Se_settle_23 (by decide) (fun hc => ?_) (fun hc => ?_)
  · have hw := hw.1 hc
    refine lv_aload_n hx hb d_Se_settle_28 rfl (lv_at hl 0 rfl) ?_
    refine kg (C1 := R_Se) (T := F_Se) (N := 10) (ci := 7) (ref := "LineBreaker$Search") (v := .int v1) C w 29 7 iw_Se rfl rfl (by decide) kw_303 rfl rfl d_Se_settle_29 ?_
    refine lv_istore_n (lv' := [(2, .int v1), (0, .ref (ad 29)), (1, .int p1)]) hx hb d_Se_settle_32 rfl hl (by decide) rfl (fun ls hl => ?_)
    obtain ⟨n9, hw⟩ := hw
    exact w_Se_settle_33 C hr  n9 f2 f3 f4 f5 f6 (S.1 40) f7 (S.2.2 1862) v1 v8 v9 v10 v1 hw _ _ _ (wn_eq w rfl) (lv_sub hl [1, 0] rfl)
  · have hw := hw.2 hc
    refine lv_iconst (v := 0) hx hb d_Se_settle_26 (by decide) ?_
    exact ke_z (post := (fun r (u : (Nat → Int32) × (Nat → Int32) × (Nat → Int32) × (Nat → Int32) × (Nat → Int32) × (Nat → Int32) × (Nat → Int64) × Int32 × Int32 × Int32 × Int32 × Int32) => post r u.1 u.2.1 u.2.2.1 u.2.2.2.1 u.2.2.2.2.1 u.2.2.2.2.2.1 u.2.2.2.2.2.2.1 u.2.2.2.2.2.2.2.1 u.2.2.2.2.2.2.2.2.1 u.2.2.2.2.2.2.2.2.2.1 u.2.2.2.2.2.2.2.2.2.2.1 u.2.2.2.2.2.2.2.2.2.2.2)) (st := (fun (u : (Nat → Int32) × (Nat → Int32) × (Nat → Int32) × (Nat → Int32) × (Nat → Int32) × (Nat → Int32) × (Nat → Int64) × Int32 × Int32 × Int32 × Int32 × Int32) => wC K ad (sI (sI (sI (sI (sI (sL (sA (sA (sA (sA (sA (sA S 32 u.1) 33 u.2.1) 34 u.2.2.1) 35 u.2.2.2.1) 39 u.2.2.2.2.1) 40 u.2.2.2.2.2.1) 36 u.2.2.2.2.2.2.1) 1862 u.2.2.2.2.2.2.2.1) 1863 u.2.2.2.2.2.2.2.2.1) 1989 u.2.2.2.2.2.2.2.2.2.1) 2370 u.2.2.2.2.2.2.2.2.2.2.1) 2371 u.2.2.2.2.2.2.2.2.2.2.2) ++ X)) (u := (f2, f3, f4, f5, f6, (S.1 40), f7, (S.2.2 1862), v1, v8, v9, v10)) C hr d_Se_settle_27 (wn_eq w rfl) (Or.inl rfl) hw
set_option maxHeartbeats 4000000 in
set_option maxRecDepth 100000 in
theorem w_Se_visit_217 {S : ST} {post : Int32 → (Nat → Int32) → (Nat → Int32) → (Nat → Int32) → (Nat → Int32) → (Nat → Int32) → (Nat → Int32) → (Nat → Int64) → (Nat → Int64) → Int32 → Int32 → Int32 → Int32 → Int32 → Int32 → Int32 → Int32 → Int32 → Int32 → Int32 → Prop} (C : cx p s m args meth c prog_9_method_3_code 7 "LineBreaker$Search" n0 G K) (hr : meth.sig.returnType = (some .boolean)) : ∀ (a39 : (Nat → Int32)) (a40 : (Nat → Int32)) (l38 : (Nat → Int64)) (i1862 : Int32) (i1923 : Int32) (i1924 : Int32) (i1925 : Int32) (i1926 : Int32) (i1927 : Int32) (i1928 : Int32) (i2370 : Int32) (i2371 : Int32) (x1 : Int32), wl_Se_visit_217 S post a39 a40 l38 i1862 i1923 i1924 i1925 i1926 i1927 i1928 i2370 i2371 x1 → ∀ (H : Heap) (locs : List Loc) (ls : Array Slot), wn n0 G (wC K ad (sI (sI (sI (sI (sI (sI (sI (sI (sI (sL (sA (sA S 39 a39) 40 a40) 38 l38) 1862 i1862) 1923 i1923) 1924 i1924) 1925 i1925) 1926 i1926) 1927 i1927) 1928 i1928) 2370 i2370) 2371 i2371) ++ X) s H locs → lv_has ls 7 [(0, .ref (ad 29)), (1, .int x1)] → W p l e rm_Se_visit s m args below meth c H locs 0 0 (MQ below (va_Qi (fun r (u : (Nat → Int32) × (Nat → Int32) × (Nat → Int32) × (Nat → Int32) × (Nat → Int32) × (Nat → Int32) × (Nat → Int64) × (Nat → Int64) × Int32 × Int32 × Int32 × Int32 × Int32 × Int32 × Int32 × Int32 × Int32 × Int32 × Int32) => post r u.1 u.2.1 u.2.2.1 u.2.2.2.1 u.2.2.2.2.1 u.2.2.2.2.2.1 u.2.2.2.2.2.2.1 u.2.2.2.2.2.2.2.1 u.2.2.2.2.2.2.2.2.1 u.2.2.2.2.2.2.2.2.2.1 u.2.2.2.2.2.2.2.2.2.2.1 u.2.2.2.2.2.2.2.2.2.2.2.1 u.2.2.2.2.2.2.2.2.2.2.2.2.1 u.2.2.2.2.2.2.2.2.2.2.2.2.2.1 u.2.2.2.2.2.2.2.2.2.2.2.2.2.2.1 u.2.2.2.2.2.2.2.2.2.2.2.2.2.2.2.1 u.2.2.2.2.2.2.2.2.2.2.2.2.2.2.2.2.1 u.2.2.2.2.2.2.2.2.2.2.2.2.2.2.2.2.2.1 u.2.2.2.2.2.2.2.2.2.2.2.2.2.2.2.2.2.2) (fun (u : (Nat → Int32) × (Nat → Int32) × (Nat → Int32) × (Nat → Int32) × (Nat → Int32) × (Nat → Int32) × (Nat → Int64) × (Nat → Int64) × Int32 × Int32 × Int32 × Int32 × Int32 × Int32 × Int32 × Int32 × Int32 × Int32 × Int32) t => we n0 G (wC K ad (sI (sI (sI (sI (sI (sI (sI (sI (sI (sI (sI (sL (sL (sA (sA (sA (sA (sA (sA S 32 u.1) 33 u.2.1) 34 u.2.2.1) 35 u.2.2.2.1) 39 u.2.2.2.2.1) 40 u.2.2.2.2.2.1) 36 u.2.2.2.2.2.2.1) 38 u.2.2.2.2.2.2.2.1) 1862 u.2.2.2.2.2.2.2.2.1) 1863 u.2.2.2.2.2.2.2.2.2.1) 1923 u.2.2.2.2.2.2.2.2.2.2.1) 1924 u.2.2.2.2.2.2.2.2.2.2.2.1) 1925 u.2.2.2.2.2.2.2.2.2.2.2.2.1) 1926 u.2.2.2.2.2.2.2.2.2.2.2.2.2.1) 1927 u.2.2.2.2.2.2.2.2.2.2.2.2.2.2.1) 1928 u.2.2.2.2.2.2.2.2.2.2.2.2.2.2.2.1) 1989 u.2.2.2.2.2.2.2.2.2.2.2.2.2.2.2.2.1) 2370 u.2.2.2.2.2.2.2.2.2.2.2.2.2.2.2.2.2.1) 2371 u.2.2.2.2.2.2.2.2.2.2.2.2.2.2.2.2.2.2) ++ X) t) (al n0)) args s 0 0 (al n0)) (F0 m 217 ls []) := by
  have hx := C.1
  have hb := C.2.1
  have hts := C.2.2.2.2.1
  intro a39 a40 l38 i1862 i1923 i1924 i1925 i1926 i1927 i1928 i2370 i2371 x1 hw H locs ls w hl
  unfold wl_Se_visit_217 at hw
  refine lv_aload_n hx hb d_Se_visit_217 rfl (lv_at hl 0 rfl) ?_
  refine lv_iload_n hx hb d_Se_visit_218 rfl (lv_at hl 1 rfl) ?_
  refine kc_i (st := fun (u : (Nat → Int32) × (Nat → Int32) × (Nat → Int32) × (Nat → Int32) × (Nat → Int32) × (Nat → Int32) × (Nat → Int64) × Int32 × Int32 × Int32 × Int32 × Int32) => wC K ad (sI (sI (sI (sI (sI (sL (sA (sA (sA (sA (sA (sA (sI (sI (sI (sI (sI (sI (sI (sI (sI (sL (sA (sA S 39 a39) 40 a40) 38 l38) 1862 i1862) 1923 i1923) 1924 i1924) 1925 i1925) 1926 i1926) 1927 i1927) 1928 i1928) 2370 i2370) 2371 i2371) 32 u.1) 33 u.2.1) 34 u.2.2.1) 35 u.2.2.2.1) 39 u.2.2.2.2.1) 40 u.2.2.2.2.2.1) 36 u.2.2.2.2.2.2.1) 1862 u.2.2.2.2.2.2.2.1) 1863 u.2.2.2.2.2.2.2.2.1) 1989 u.2.2.2.2.2.2.2.2.2.1) 2370 u.2.2.2.2.2.2.2.2.2.2.1) 2371 u.2.2.2.2.2.2.2.2.2.2.2) ++ X) w (kr_V (y := y_Se_settle) (C1 := R_Se) (T := F_Se) (N := 10) (ci := 7) (q0 := 29) (As := [.int x1]) (n := 1) C w (c_Se_settle l n0 G K ad X (sI (sI (sI (sI (sI (sI (sI (sI (sI (sL (sA (sA S 39 a39) 40 a40) 38 l38) 1862 i1862) 1923 i1923) 1924 i1924) 1925 i1925) 1926 i1926) 1927 i1927) 1928 i1928) 2370 i2370) 2371 i2371) x1 _ hw) (gw_V kw_802 kw_804 kp_15 kw_6 kw_805) (by decide +kernel) rfl rfl ⟨Nat.le_of_ble_eq_true rfl, Nat.le_of_ble_eq_true rfl⟩ rfl rfl rfl hl.1 rfl (Nat.le_of_ble_eq_true rfl) d_Se_visit_219 ⟨Nat.le_of_ble_eq_true rfl, Nat.le_of_ble_eq_true rfl⟩) (fun r13 u H locs hw w => ?_)
  obtain ⟨f1, f2, f3, f4, f5, f6, f7, v8, v9, v10, v11, v12⟩ := u
  dsimp only at hw
  have w : wn n0 G (wC K ad (sI (sI (sI (sI (sI (sI (sI (sI (sI (sI (sI (sL (sL (sA (sA (sA (sA (sA (sA S 32 f1) 33 f2) 34 f3) 35 f4) 39 f5) 40 f6) 36 f7) 38 l38) 1862 v8) 1863 v9) 1923 i1923) 1924 i1924) 1925 i1925) 1926 i1926) 1927 i1927) 1928 i1928) 1989 v10) 2370 v11) 2371 v12) ++ X) s H locs := w
  exact ke_z (post := (fun r (u : (Nat → Int32) × (Nat → Int32) × (Nat → Int32) × (Nat → Int32) × (Nat → Int32) × (Nat → Int32) × (Nat → Int64) × (Nat → Int64) × Int32 × Int32 × Int32 × Int32 × Int32 × Int32 × Int32 × Int32 × Int32 × Int32 × Int32) => post r u.1 u.2.1 u.2.2.1 u.2.2.2.1 u.2.2.2.2.1 u.2.2.2.2.2.1 u.2.2.2.2.2.2.1 u.2.2.2.2.2.2.2.1 u.2.2.2.2.2.2.2.2.1 u.2.2.2.2.2.2.2.2.2.1 u.2.2.2.2.2.2.2.2.2.2.1 u.2.2.2.2.2.2.2.2.2.2.2.1 u.2.2.2.2.2.2.2.2.2.2.2.2.1 u.2.2.2.2.2.2.2.2.2.2.2.2.2.1 u.2.2.2.2.2.2.2.2.2.2.2.2.2.2.1 u.2.2.2.2.2.2.2.2.2.2.2.2.2.2.2.1 u.2.2.2.2.2.2.2.2.2.2.2.2.2.2.2.2.1 u.2.2.2.2.2.2.2.2.2.2.2.2.2.2.2.2.2.1 u.2.2.2.2.2.2.2.2.2.2.2.2.2.2.2.2.2.2)) (st := (fun (u : (Nat → Int32) × (Nat → Int32) × (Nat → Int32) × (Nat → Int32) × (Nat → Int32) × (Nat → Int32) × (Nat → Int64) × (Nat → Int64) × Int32 × Int32 × Int32 × Int32 × Int32 × Int32 × Int32 × Int32 × Int32 × Int32 × Int32) => wC K ad (sI (sI (sI (sI (sI (sI (sI (sI (sI (sI (sI (sL (sL (sA (sA (sA (sA (sA (sA S 32 u.1) 33 u.2.1) 34 u.2.2.1) 35 u.2.2.2.1) 39 u.2.2.2.2.1) 40 u.2.2.2.2.2.1) 36 u.2.2.2.2.2.2.1) 38 u.2.2.2.2.2.2.2.1) 1862 u.2.2.2.2.2.2.2.2.1) 1863 u.2.2.2.2.2.2.2.2.2.1) 1923 u.2.2.2.2.2.2.2.2.2.2.1) 1924 u.2.2.2.2.2.2.2.2.2.2.2.1) 1925 u.2.2.2.2.2.2.2.2.2.2.2.2.1) 1926 u.2.2.2.2.2.2.2.2.2.2.2.2.2.1) 1927 u.2.2.2.2.2.2.2.2.2.2.2.2.2.2.1) 1928 u.2.2.2.2.2.2.2.2.2.2.2.2.2.2.2.1) 1989 u.2.2.2.2.2.2.2.2.2.2.2.2.2.2.2.2.1) 2370 u.2.2.2.2.2.2.2.2.2.2.2.2.2.2.2.2.2.1) 2371 u.2.2.2.2.2.2.2.2.2.2.2.2.2.2.2.2.2.2) ++ X)) (u := (f1, f2, f3, f4, f5, f6, f7, l38, v8, v9, i1923, i1924, i1925, i1926, i1927, i1928, v10, v11, v12)) C hr d_Se_visit_222 (wn_eq w rfl) hw.1 hw.2
set_option maxHeartbeats 4000000 in
set_option maxRecDepth 100000 in
theorem w_Se_visit_123 {S : ST} {post : Int32 → (Nat → Int32) → (Nat → Int32) → (Nat → Int32) → (Nat → Int32) → (Nat → Int32) → (Nat → Int32) → (Nat → Int64) → (Nat → Int64) → Int32 → Int32 → Int32 → Int32 → Int32 → Int32 → Int32 → Int32 → Int32 → Int32 → Int32 → Prop} (C : cx p s m args meth c prog_9_method_3_code 7 "LineBreaker$Search" n0 G K) (hr : meth.sig.returnType = (some .boolean)) {K29 : (Nat → Int32) → (Nat → Int32) → (Nat → Int64) → Int32 → Int32 → Int32 → Int32 → Int32 → Int32 → Int32 → Int32 → Int32 → Int32 → Int32 → Int32 → Int32 → Prop} (hk29 : ∀ (a39 : (Nat → Int32)) (a40 : (Nat → Int32)) (l38 : (Nat → Int64)) (i1923 : Int32) (i1924 : Int32) (i1925 : Int32) (i1926 : Int32) (i1927 : Int32) (i1928 : Int32) (i2370 : Int32) (i2371 : Int32) (x1 : Int32) (x2 : Int32) (x3 : Int32) (x4 : Int32) (x5 : Int32), K29 a39 a40 l38 i1923 i1924 i1925 i1926 i1927 i1928 i2370 i2371 x1 x2 x3 x4 x5 → ∀ (H : Heap) (locs : List Loc) (ls : Array Slot), wn n0 G (wC K ad (sI (sI (sI (sI (sI (sI (sI (sI (sL (sA (sA S 39 a39) 40 a40) 38 l38) 1923 i1923) 1924 i1924) 1925 i1925) 1926 i1926) 1927 i1927) 1928 i1928) 2370 i2370) 2371 i2371) ++ X) s H locs → lv_has ls 7 [(0, .ref (ad 29)), (1, .int x1), (2, .int x2), (3, .int x3), (4, .int x4), (5, .int x5)] → W p l e rm_Se_visit s m args below meth c H locs 0 0 (MQ below (va_Qi (fun r (u : (Nat → Int32) × (Nat → Int32) × (Nat → Int32) × (Nat → Int32) × (Nat → Int32) × (Nat → Int32) × (Nat → Int64) × (Nat → Int64) × Int32 × Int32 × Int32 × Int32 × Int32 × Int32 × Int32 × Int32 × Int32 × Int32 × Int32) => post r u.1 u.2.1 u.2.2.1 u.2.2.2.1 u.2.2.2.2.1 u.2.2.2.2.2.1 u.2.2.2.2.2.2.1 u.2.2.2.2.2.2.2.1 u.2.2.2.2.2.2.2.2.1 u.2.2.2.2.2.2.2.2.2.1 u.2.2.2.2.2.2.2.2.2.2.1 u.2.2.2.2.2.2.2.2.2.2.2.1 u.2.2.2.2.2.2.2.2.2.2.2.2.1 u.2.2.2.2.2.2.2.2.2.2.2.2.2.1 u.2.2.2.2.2.2.2.2.2.2.2.2.2.2.1 u.2.2.2.2.2.2.2.2.2.2.2.2.2.2.2.1 u.2.2.2.2.2.2.2.2.2.2.2.2.2.2.2.2.1 u.2.2.2.2.2.2.2.2.2.2.2.2.2.2.2.2.2.1 u.2.2.2.2.2.2.2.2.2.2.2.2.2.2.2.2.2.2) (fun (u : (Nat → Int32) × (Nat → Int32) × (Nat → Int32) × (Nat → Int32) × (Nat → Int32) × (Nat → Int32) × (Nat → Int64) × (Nat → Int64) × Int32 × Int32 × Int32 × Int32 × Int32 × Int32 × Int32 × Int32 × Int32 × Int32 × Int32) t => we n0 G (wC K ad (sI (sI (sI (sI (sI (sI (sI (sI (sI (sI (sI (sL (sL (sA (sA (sA (sA (sA (sA S 32 u.1) 33 u.2.1) 34 u.2.2.1) 35 u.2.2.2.1) 39 u.2.2.2.2.1) 40 u.2.2.2.2.2.1) 36 u.2.2.2.2.2.2.1) 38 u.2.2.2.2.2.2.2.1) 1862 u.2.2.2.2.2.2.2.2.1) 1863 u.2.2.2.2.2.2.2.2.2.1) 1923 u.2.2.2.2.2.2.2.2.2.2.1) 1924 u.2.2.2.2.2.2.2.2.2.2.2.1) 1925 u.2.2.2.2.2.2.2.2.2.2.2.2.1) 1926 u.2.2.2.2.2.2.2.2.2.2.2.2.2.1) 1927 u.2.2.2.2.2.2.2.2.2.2.2.2.2.2.1) 1928 u.2.2.2.2.2.2.2.2.2.2.2.2.2.2.2.1) 1989 u.2.2.2.2.2.2.2.2.2.2.2.2.2.2.2.2.1) 2370 u.2.2.2.2.2.2.2.2.2.2.2.2.2.2.2.2.2.1) 2371 u.2.2.2.2.2.2.2.2.2.2.2.2.2.2.2.2.2.2) ++ X) t) (al n0)) args s 0 0 (al n0)) (F0 m 29 ls [])) : ∀ (a39 : (Nat → Int32)) (a40 : (Nat → Int32)) (l38 : (Nat → Int64)) (i1923 : Int32) (i1924 : Int32) (i1925 : Int32) (i1926 : Int32) (i1927 : Int32) (i1928 : Int32) (i2370 : Int32) (i2371 : Int32) (x1 : Int32) (x2 : Int32) (x3 : Int32) (x4 : Int32) (x5 : Int32) (x6 : Int32), wl_Se_visit_123 S post K29 a39 a40 l38 i1923 i1924 i1925 i1926 i1927 i1928 i2370 i2371 x1 x2 x3 x4 x5 x6 → ∀ (H : Heap) (locs : List Loc) (ls : Array Slot), wn n0 G (wC K ad (sI (sI (sI (sI (sI (sI (sI (sI (sL (sA (sA S 39 a39) 40 a40) 38 l38) 1923 i1923) 1924 i1924) 1925 i1925) 1926 i1926) 1927 i1927) 1928 i1928) 2370 i2370) 2371 i2371) ++ X) s H locs → lv_has ls 7 [(0, .ref (ad 29)), (1, .int x1), (2, .int x2), (3, .int x3), (4, .int x4), (5, .int x5), (6, .int x6)] → W p l e rm_Se_visit s m args below meth c H locs 0 0 (MQ below (va_Qi (fun r (u : (Nat → Int32) × (Nat → Int32) × (Nat → Int32) × (Nat → Int32) × (Nat → Int32) × (Nat → Int32) × (Nat → Int64) × (Nat → Int64) × Int32 × Int32 × Int32 × Int32 × Int32 × Int32 × Int32 × Int32 × Int32 × Int32 × Int32) => post r u.1 u.2.1 u.2.2.1 u.2.2.2.1 u.2.2.2.2.1 u.2.2.2.2.2.1 u.2.2.2.2.2.2.1 u.2.2.2.2.2.2.2.1 u.2.2.2.2.2.2.2.2.1 u.2.2.2.2.2.2.2.2.2.1 u.2.2.2.2.2.2.2.2.2.2.1 u.2.2.2.2.2.2.2.2.2.2.2.1 u.2.2.2.2.2.2.2.2.2.2.2.2.1 u.2.2.2.2.2.2.2.2.2.2.2.2.2.1 u.2.2.2.2.2.2.2.2.2.2.2.2.2.2.1 u.2.2.2.2.2.2.2.2.2.2.2.2.2.2.2.1 u.2.2.2.2.2.2.2.2.2.2.2.2.2.2.2.2.1 u.2.2.2.2.2.2.2.2.2.2.2.2.2.2.2.2.2.1 u.2.2.2.2.2.2.2.2.2.2.2.2.2.2.2.2.2.2) (fun (u : (Nat → Int32) × (Nat → Int32) × (Nat → Int32) × (Nat → Int32) × (Nat → Int32) × (Nat → Int32) × (Nat → Int64) × (Nat → Int64) × Int32 × Int32 × Int32 × Int32 × Int32 × Int32 × Int32 × Int32 × Int32 × Int32 × Int32) t => we n0 G (wC K ad (sI (sI (sI (sI (sI (sI (sI (sI (sI (sI (sI (sL (sL (sA (sA (sA (sA (sA (sA S 32 u.1) 33 u.2.1) 34 u.2.2.1) 35 u.2.2.2.1) 39 u.2.2.2.2.1) 40 u.2.2.2.2.2.1) 36 u.2.2.2.2.2.2.1) 38 u.2.2.2.2.2.2.2.1) 1862 u.2.2.2.2.2.2.2.2.1) 1863 u.2.2.2.2.2.2.2.2.2.1) 1923 u.2.2.2.2.2.2.2.2.2.2.1) 1924 u.2.2.2.2.2.2.2.2.2.2.2.1) 1925 u.2.2.2.2.2.2.2.2.2.2.2.2.1) 1926 u.2.2.2.2.2.2.2.2.2.2.2.2.2.1) 1927 u.2.2.2.2.2.2.2.2.2.2.2.2.2.2.1) 1928 u.2.2.2.2.2.2.2.2.2.2.2.2.2.2.2.1) 1989 u.2.2.2.2.2.2.2.2.2.2.2.2.2.2.2.2.1) 2370 u.2.2.2.2.2.2.2.2.2.2.2.2.2.2.2.2.2.1) 2371 u.2.2.2.2.2.2.2.2.2.2.2.2.2.2.2.2.2.2) ++ X) t) (al n0)) args s 0 0 (al n0)) (F0 m 123 ls []) := by
  have hx := C.1
  have hb := C.2.1
  have hts := C.2.2.2.2.1
  intro a39 a40 l38 i1923 i1924 i1925 i1926 i1927 i1928 i2370 i2371 x1 x2 x3 x4 x5 x6 hw H locs ls w hl
  unfold wl_Se_visit_123 at hw
  refine lv_iload hx hb d_Se_visit_123 (lv_at hl 4 rfl) ?_
  refine lv_iconst (v := (-1)) hx hb d_Se_visit_125 (by decide) ?_
  refine lv_icmp_eq (tgt := 152) hx hb d_Se_visit_126 (by decide) (fun hc => ?_) (fun hc => ?_)
  · have hw := hw.1 hc
    refine lv_iload hx hb d_Se_visit_152 (lv_at hl 6 rfl) ?_
    refine lv_istore (lv' := [(4, .int x6), (0, .ref (ad 29)), (1, .int x1), (2, .int x2), (3, .int x3), (5, .int x5), (6, .int x6)]) hx hb d_Se_visit_154 hl (by decide) rfl (fun ls hl => ?_)
    obtain ⟨v1, ev1⟩ : ∃ y : Int32, y = x5 + 1 := ⟨_, rfl⟩
    refine lv_iinc (v := v1) (lv' := [(5, .int v1), (4, .int x6), (0, .ref (ad 29)), (1, .int x1), (2, .int x2), (3, .int x3), (6, .int x6)]) hx hb d_Se_visit_156 hl (k := 5) rfl (by rw [ev1]; rfl) (by decide) rfl (fun ls hl => ?_)
    have hw := hw v1 ev1
    refine lv_goto (tgt := 29) hx hb d_Se_visit_159 (by decide) ?_
    exact hk29 a39 a40 l38 i1923 i1924 i1925 i1926 i1927 i1928 i2370 i2371 x1 x2 x3 x6 v1 hw _ _ _ (wn_eq w rfl) (lv_sub hl [2, 3, 4, 5, 1, 0] rfl)
  · have hw := hw.2 hc
    refine lv_aload_n hx hb d_Se_visit_129 rfl (lv_at hl 0 rfl) ?_
    refine kg (C1 := R_Se) (T := F_Se) (N := 10) (ci := 7) (ref := "LineBreaker$Search") (v := .ref (ad 31)) C w 29 3 iw_Se rfl rfl (by decide) kw_298 rfl rfl d_Se_visit_130 ?_
    refine kg (C1 := R_No) (T := F_No) (N := 6) (ci := 3) (ref := "LineBreaker$Nodes") (v := .ref (ad 33)) C w 31 1 iw_No rfl rfl (by decide) kw_244 rfl rfl d_Se_visit_133 ?_
    refine lv_iload hx hb d_Se_visit_136 (lv_at hl 6 rfl) ?_
    refine ka_i (f := (S.1 33)) C w 33 rfl hw.1 d_Se_visit_138 ?_
    have hw := hw.2
    refine lv_aload_n hx hb d_Se_visit_139 rfl (lv_at hl 0 rfl) ?_
    refine kg (C1 := R_Se) (T := F_Se) (N := 10) (ci := 7) (ref := "LineBreaker$Search") (v := .ref (ad 31)) C w 29 3 iw_Se rfl rfl (by decide) kw_298 rfl rfl d_Se_visit_140 ?_
    refine kg (C1 := R_No) (T := F_No) (N := 6) (ci := 3) (ref := "LineBreaker$Nodes") (v := .ref (ad 33)) C w 31 1 iw_No rfl rfl (by decide) kw_244 rfl rfl d_Se_visit_143 ?_
    refine lv_iload hx hb d_Se_visit_146 (lv_at hl 4 rfl) ?_
    refine ka_i (f := (S.1 33)) C w 33 rfl hw.1 d_Se_visit_148 ?_
    have hw := hw.2
    refine lv_icmp_le (tgt := 156) hx hb d_Se_visit_149 (by decide) (fun hc => ?_) (fun hc => ?_)
    · have hw := hw.1 hc
      obtain ⟨v2, ev2⟩ : ∃ y : Int32, y = x5 + 1 := ⟨_, rfl⟩
      refine lv_iinc (v := v2) (lv' := [(5, .int v2), (0, .ref (ad 29)), (1, .int x1), (2, .int x2), (3, .int x3), (4, .int x4), (6, .int x6)]) hx hb d_Se_visit_156 hl (k := 5) rfl (by rw [ev2]; rfl) (by decide) rfl (fun ls hl => ?_)
      have hw := hw v2 ev2
      refine lv_goto (tgt := 29) hx hb d_Se_visit_159 (by decide) ?_
      exact hk29 a39 a40 l38 i1923 i1924 i1925 i1926 i1927 i1928 i2370 i2371 x1 x2 x3 x4 v2 hw _ _ _ (wn_eq w rfl) (lv_sub hl [1, 2, 3, 4, 5, 0] rfl)
    · have hw := hw.2 hc
      refine lv_iload hx hb d_Se_visit_152 (lv_at hl 6 rfl) ?_
      refine lv_istore (lv' := [(4, .int x6), (0, .ref (ad 29)), (1, .int x1), (2, .int x2), (3, .int x3), (5, .int x5), (6, .int x6)]) hx hb d_Se_visit_154 hl (by decide) rfl (fun ls hl => ?_)
      obtain ⟨v3, ev3⟩ : ∃ y : Int32, y = x5 + 1 := ⟨_, rfl⟩
      refine lv_iinc (v := v3) (lv' := [(5, .int v3), (4, .int x6), (0, .ref (ad 29)), (1, .int x1), (2, .int x2), (3, .int x3), (6, .int x6)]) hx hb d_Se_visit_156 hl (k := 5) rfl (by rw [ev3]; rfl) (by decide) rfl (fun ls hl => ?_)
      have hw := hw v3 ev3
      refine lv_goto (tgt := 29) hx hb d_Se_visit_159 (by decide) ?_
      exact hk29 a39 a40 l38 i1923 i1924 i1925 i1926 i1927 i1928 i2370 i2371 x1 x2 x3 x6 v3 hw _ _ _ (wn_eq w rfl) (lv_sub hl [2, 3, 4, 5, 1, 0] rfl)
set_option maxHeartbeats 4000000 in
set_option maxRecDepth 100000 in
theorem w_Se_visit_92 {S : ST} {post : Int32 → (Nat → Int32) → (Nat → Int32) → (Nat → Int32) → (Nat → Int32) → (Nat → Int32) → (Nat → Int32) → (Nat → Int64) → (Nat → Int64) → Int32 → Int32 → Int32 → Int32 → Int32 → Int32 → Int32 → Int32 → Int32 → Int32 → Int32 → Prop} (C : cx p s m args meth c prog_9_method_3_code 7 "LineBreaker$Search" n0 G K) (hr : meth.sig.returnType = (some .boolean)) {K29 : (Nat → Int32) → (Nat → Int32) → (Nat → Int64) → Int32 → Int32 → Int32 → Int32 → Int32 → Int32 → Int32 → Int32 → Int32 → Int32 → Int32 → Int32 → Int32 → Prop} (hk29 : ∀ (a39 : (Nat → Int32)) (a40 : (Nat → Int32)) (l38 : (Nat → Int64)) (i1923 : Int32) (i1924 : Int32) (i1925 : Int32) (i1926 : Int32) (i1927 : Int32) (i1928 : Int32) (i2370 : Int32) (i2371 : Int32) (x1 : Int32) (x2 : Int32) (x3 : Int32) (x4 : Int32) (x5 : Int32), K29 a39 a40 l38 i1923 i1924 i1925 i1926 i1927 i1928 i2370 i2371 x1 x2 x3 x4 x5 → ∀ (H : Heap) (locs : List Loc) (ls : Array Slot), wn n0 G (wC K ad (sI (sI (sI (sI (sI (sI (sI (sI (sL (sA (sA S 39 a39) 40 a40) 38 l38) 1923 i1923) 1924 i1924) 1925 i1925) 1926 i1926) 1927 i1927) 1928 i1928) 2370 i2370) 2371 i2371) ++ X) s H locs → lv_has ls 7 [(0, .ref (ad 29)), (1, .int x1), (2, .int x2), (3, .int x3), (4, .int x4), (5, .int x5)] → W p l e rm_Se_visit s m args below meth c H locs 0 0 (MQ below (va_Qi (fun r (u : (Nat → Int32) × (Nat → Int32) × (Nat → Int32) × (Nat → Int32) × (Nat → Int32) × (Nat → Int32) × (Nat → Int64) × (Nat → Int64) × Int32 × Int32 × Int32 × Int32 × Int32 × Int32 × Int32 × Int32 × Int32 × Int32 × Int32) => post r u.1 u.2.1 u.2.2.1 u.2.2.2.1 u.2.2.2.2.1 u.2.2.2.2.2.1 u.2.2.2.2.2.2.1 u.2.2.2.2.2.2.2.1 u.2.2.2.2.2.2.2.2.1 u.2.2.2.2.2.2.2.2.2.1 u.2.2.2.2.2.2.2.2.2.2.1 u.2.2.2.2.2.2.2.2.2.2.2.1 u.2.2.2.2.2.2.2.2.2.2.2.2.1 u.2.2.2.2.2.2.2.2.2.2.2.2.2.1 u.2.2.2.2.2.2.2.2.2.2.2.2.2.2.1 u.2.2.2.2.2.2.2.2.2.2.2.2.2.2.2.1 u.2.2.2.2.2.2.2.2.2.2.2.2.2.2.2.2.1 u.2.2.2.2.2.2.2.2.2.2.2.2.2.2.2.2.2.1 u.2.2.2.2.2.2.2.2.2.2.2.2.2.2.2.2.2.2) (fun (u : (Nat → Int32) × (Nat → Int32) × (Nat → Int32) × (Nat → Int32) × (Nat → Int32) × (Nat → Int32) × (Nat → Int64) × (Nat → Int64) × Int32 × Int32 × Int32 × Int32 × Int32 × Int32 × Int32 × Int32 × Int32 × Int32 × Int32) t => we n0 G (wC K ad (sI (sI (sI (sI (sI (sI (sI (sI (sI (sI (sI (sL (sL (sA (sA (sA (sA (sA (sA S 32 u.1) 33 u.2.1) 34 u.2.2.1) 35 u.2.2.2.1) 39 u.2.2.2.2.1) 40 u.2.2.2.2.2.1) 36 u.2.2.2.2.2.2.1) 38 u.2.2.2.2.2.2.2.1) 1862 u.2.2.2.2.2.2.2.2.1) 1863 u.2.2.2.2.2.2.2.2.2.1) 1923 u.2.2.2.2.2.2.2.2.2.2.1) 1924 u.2.2.2.2.2.2.2.2.2.2.2.1) 1925 u.2.2.2.2.2.2.2.2.2.2.2.2.1) 1926 u.2.2.2.2.2.2.2.2.2.2.2.2.2.1) 1927 u.2.2.2.2.2.2.2.2.2.2.2.2.2.2.1) 1928 u.2.2.2.2.2.2.2.2.2.2.2.2.2.2.2.1) 1989 u.2.2.2.2.2.2.2.2.2.2.2.2.2.2.2.2.1) 2370 u.2.2.2.2.2.2.2.2.2.2.2.2.2.2.2.2.2.1) 2371 u.2.2.2.2.2.2.2.2.2.2.2.2.2.2.2.2.2.2) ++ X) t) (al n0)) args s 0 0 (al n0)) (F0 m 29 ls [])) : ∀ (a39 : (Nat → Int32)) (a40 : (Nat → Int32)) (l38 : (Nat → Int64)) (i1923 : Int32) (i1924 : Int32) (i1925 : Int32) (i1926 : Int32) (i1927 : Int32) (i1928 : Int32) (i2370 : Int32) (i2371 : Int32) (x1 : Int32) (x2 : Int32) (x3 : Int32) (x4 : Int32) (x5 : Int32) (x6 : Int32), wl_Se_visit_92 S post K29 a39 a40 l38 i1923 i1924 i1925 i1926 i1927 i1928 i2370 i2371 x1 x2 x3 x4 x5 x6 → ∀ (H : Heap) (locs : List Loc) (ls : Array Slot), wn n0 G (wC K ad (sI (sI (sI (sI (sI (sI (sI (sI (sL (sA (sA S 39 a39) 40 a40) 38 l38) 1923 i1923) 1924 i1924) 1925 i1925) 1926 i1926) 1927 i1927) 1928 i1928) 2370 i2370) 2371 i2371) ++ X) s H locs → lv_has ls 7 [(0, .ref (ad 29)), (1, .int x1), (2, .int x2), (3, .int x3), (4, .int x4), (5, .int x5), (6, .int x6)] → W p l e rm_Se_visit s m args below meth c H locs 0 0 (MQ below (va_Qi (fun r (u : (Nat → Int32) × (Nat → Int32) × (Nat → Int32) × (Nat → Int32) × (Nat → Int32) × (Nat → Int32) × (Nat → Int64) × (Nat → Int64) × Int32 × Int32 × Int32 × Int32 × Int32 × Int32 × Int32 × Int32 × Int32 × Int32 × Int32) => post r u.1 u.2.1 u.2.2.1 u.2.2.2.1 u.2.2.2.2.1 u.2.2.2.2.2.1 u.2.2.2.2.2.2.1 u.2.2.2.2.2.2.2.1 u.2.2.2.2.2.2.2.2.1 u.2.2.2.2.2.2.2.2.2.1 u.2.2.2.2.2.2.2.2.2.2.1 u.2.2.2.2.2.2.2.2.2.2.2.1 u.2.2.2.2.2.2.2.2.2.2.2.2.1 u.2.2.2.2.2.2.2.2.2.2.2.2.2.1 u.2.2.2.2.2.2.2.2.2.2.2.2.2.2.1 u.2.2.2.2.2.2.2.2.2.2.2.2.2.2.2.1 u.2.2.2.2.2.2.2.2.2.2.2.2.2.2.2.2.1 u.2.2.2.2.2.2.2.2.2.2.2.2.2.2.2.2.2.1 u.2.2.2.2.2.2.2.2.2.2.2.2.2.2.2.2.2.2) (fun (u : (Nat → Int32) × (Nat → Int32) × (Nat → Int32) × (Nat → Int32) × (Nat → Int32) × (Nat → Int32) × (Nat → Int64) × (Nat → Int64) × Int32 × Int32 × Int32 × Int32 × Int32 × Int32 × Int32 × Int32 × Int32 × Int32 × Int32) t => we n0 G (wC K ad (sI (sI (sI (sI (sI (sI (sI (sI (sI (sI (sI (sL (sL (sA (sA (sA (sA (sA (sA S 32 u.1) 33 u.2.1) 34 u.2.2.1) 35 u.2.2.2.1) 39 u.2.2.2.2.1) 40 u.2.2.2.2.2.1) 36 u.2.2.2.2.2.2.1) 38 u.2.2.2.2.2.2.2.1) 1862 u.2.2.2.2.2.2.2.2.1) 1863 u.2.2.2.2.2.2.2.2.2.1) 1923 u.2.2.2.2.2.2.2.2.2.2.1) 1924 u.2.2.2.2.2.2.2.2.2.2.2.1) 1925 u.2.2.2.2.2.2.2.2.2.2.2.2.1) 1926 u.2.2.2.2.2.2.2.2.2.2.2.2.2.1) 1927 u.2.2.2.2.2.2.2.2.2.2.2.2.2.2.1) 1928 u.2.2.2.2.2.2.2.2.2.2.2.2.2.2.2.1) 1989 u.2.2.2.2.2.2.2.2.2.2.2.2.2.2.2.2.1) 2370 u.2.2.2.2.2.2.2.2.2.2.2.2.2.2.2.2.2.1) 2371 u.2.2.2.2.2.2.2.2.2.2.2.2.2.2.2.2.2.2) ++ X) t) (al n0)) args s 0 0 (al n0)) (F0 m 92 ls []) := by
  have hx := C.1
  have hb := C.2.1
  have hts := C.2.2.2.2.1
  intro a39 a40 l38 i1923 i1924 i1925 i1926 i1927 i1928 i2370 i2371 x1 x2 x3 x4 x5 x6 hw H locs ls w hl
  unfold wl_Se_visit_92 at hw
  refine lv_iload_n hx hb d_Se_visit_92 rfl (lv_at hl 2 rfl) ?_
  refine lv_if_ne (tgt := 123) hx hb d_Se_visit_93 (by decide) (fun hc => ?_) (fun hc => ?_)
  · have hw := hw.1 hc
    exact w_Se_visit_123 C hr hk29 a39 a40 l38 i1923 i1924 i1925 i1926 i1927 i1928 i2370 i2371 x1 x2 x3 x4 x5 x6 hw _ _ _ (wn_eq w rfl) (lv_sub hl [0, 1, 2, 3, 4, 5, 6] rfl)
  · have hw := hw.2 hc
    refine lv_aload_n hx hb d_Se_visit_96 rfl (lv_at hl 0 rfl) ?_
    refine kg (C1 := R_Se) (T := F_Se) (N := 10) (ci := 7) (ref := "LineBreaker$Search") (v := .ref (ad 30)) C w 29 2 iw_Se rfl rfl (by decide) kw_296 rfl rfl d_Se_visit_97 ?_
    refine kg (C1 := R_Gu) (T := F_Gu) (N := 9) (ci := 1) (ref := "LineBreaker$Gauge") (v := .int i1924) C w 30 4 iw_Gu rfl rfl (by decide) kw_204 rfl rfl d_Se_visit_100 ?_
    refine lv_sipush (v := 10001) hx hb d_Se_visit_103 (by decide) ?_
    refine lv_icmp_eq (tgt := 123) hx hb d_Se_visit_106 (by decide) (fun hc => ?_) (fun hc => ?_)
    · have hw := hw.1 hc
      exact w_Se_visit_123 C hr hk29 a39 a40 l38 i1923 i1924 i1925 i1926 i1927 i1928 i2370 i2371 x1 x2 x3 x4 x5 x6 hw _ _ _ (wn_eq w rfl) (lv_sub hl [0, 1, 2, 3, 4, 5, 6] rfl)
    · have hw := hw.2 hc
      refine lv_aload_n hx hb d_Se_visit_109 rfl (lv_at hl 0 rfl) ?_
      refine kg (C1 := R_Se) (T := F_Se) (N := 10) (ci := 7) (ref := "LineBreaker$Search") (v := .ref (ad 40)) C w 29 5 iw_Se rfl rfl (by decide) kw_301 rfl rfl d_Se_visit_110 ?_
      refine lv_iload_n hx hb d_Se_visit_113 rfl (lv_at hl 3 rfl) ?_
      refine lv_iload hx hb d_Se_visit_114 (lv_at hl 6 rfl) ?_
      obtain ⟨f1, ef1⟩ : ∃ z : Nat → Int32, z = upd a40 x3.toNatClampNeg x6 := ⟨_, rfl⟩
      refine ks_i (f := a40) (w2 := wC K ad (sI (sI (sI (sI (sI (sI (sI (sI (sL (sA (sA S 39 a39) 40 f1) 38 l38) 1923 i1923) 1924 i1924) 1925 i1925) 1926 i1926) 1927 i1927) 1928 i1928) 2370 i2370) 2371 i2371) ++ X) C w 40 rfl hw.1 (by rw [← ef1]; rfl) d_Se_visit_116 (fun H locs w => ?_)
      have hw := hw.2 f1 ef1
      obtain ⟨v2, ev2⟩ : ∃ y : Int32, y = x3 + 1 := ⟨_, rfl⟩
      refine lv_iinc (v := v2) (lv' := [(3, .int v2), (0, .ref (ad 29)), (1, .int x1), (2, .int x2), (4, .int x4), (5, .int x5), (6, .int x6)]) hx hb d_Se_visit_117 hl (k := 3) rfl (by rw [ev2]; rfl) (by decide) rfl (fun ls hl => ?_)
      have hw := hw v2 ev2
      refine lv_goto (tgt := 156) hx hb d_Se_visit_120 (by decide) ?_
      obtain ⟨v3, ev3⟩ : ∃ y : Int32, y = x5 + 1 := ⟨_, rfl⟩
      refine lv_iinc (v := v3) (lv' := [(5, .int v3), (3, .int v2), (0, .ref (ad 29)), (1, .int x1), (2, .int x2), (4, .int x4), (6, .int x6)]) hx hb d_Se_visit_156 hl (k := 5) rfl (by rw [ev3]; rfl) (by decide) rfl (fun ls hl => ?_)
      have hw := hw v3 ev3
      refine lv_goto (tgt := 29) hx hb d_Se_visit_159 (by decide) ?_
      exact hk29 a39 f1 l38 i1923 i1924 i1925 i1926 i1927 i1928 i2370 i2371 x1 x2 v2 x4 v3 hw _ _ _ (wn_eq w rfl) (lv_sub hl [2, 3, 4, 1, 5, 0] rfl)
set_option maxHeartbeats 4000000 in
set_option maxRecDepth 100000 in
theorem w_Se_visit_29 {S : ST} {post : Int32 → (Nat → Int32) → (Nat → Int32) → (Nat → Int32) → (Nat → Int32) → (Nat → Int32) → (Nat → Int32) → (Nat → Int64) → (Nat → Int64) → Int32 → Int32 → Int32 → Int32 → Int32 → Int32 → Int32 → Int32 → Int32 → Int32 → Int32 → Prop} (C : cx p s m args meth c prog_9_method_3_code 7 "LineBreaker$Search" n0 G K) (hr : meth.sig.returnType = (some .boolean)) : ∀ (n : Nat) (a39 : (Nat → Int32)) (a40 : (Nat → Int32)) (l38 : (Nat → Int64)) (i1923 : Int32) (i1924 : Int32) (i1925 : Int32) (i1926 : Int32) (i1927 : Int32) (i1928 : Int32) (i2370 : Int32) (i2371 : Int32) (x1 : Int32) (x2 : Int32) (x3 : Int32) (x4 : Int32) (x5 : Int32), wl_Se_visit_29 S post n a39 a40 l38 i1923 i1924 i1925 i1926 i1927 i1928 i2370 i2371 x1 x2 x3 x4 x5 → ∀ (H : Heap) (locs : List Loc) (ls : Array Slot), wn n0 G (wC K ad (sI (sI (sI (sI (sI (sI (sI (sI (sL (sA (sA S 39 a39) 40 a40) 38 l38) 1923 i1923) 1924 i1924) 1925 i1925) 1926 i1926) 1927 i1927) 1928 i1928) 2370 i2370) 2371 i2371) ++ X) s H locs → lv_has ls 7 [(0, .ref (ad 29)), (1, .int x1), (2, .int x2), (3, .int x3), (4, .int x4), (5, .int x5)] → W p l e rm_Se_visit s m args below meth c H locs 0 0 (MQ below (va_Qi (fun r (u : (Nat → Int32) × (Nat → Int32) × (Nat → Int32) × (Nat → Int32) × (Nat → Int32) × (Nat → Int32) × (Nat → Int64) × (Nat → Int64) × Int32 × Int32 × Int32 × Int32 × Int32 × Int32 × Int32 × Int32 × Int32 × Int32 × Int32) => post r u.1 u.2.1 u.2.2.1 u.2.2.2.1 u.2.2.2.2.1 u.2.2.2.2.2.1 u.2.2.2.2.2.2.1 u.2.2.2.2.2.2.2.1 u.2.2.2.2.2.2.2.2.1 u.2.2.2.2.2.2.2.2.2.1 u.2.2.2.2.2.2.2.2.2.2.1 u.2.2.2.2.2.2.2.2.2.2.2.1 u.2.2.2.2.2.2.2.2.2.2.2.2.1 u.2.2.2.2.2.2.2.2.2.2.2.2.2.1 u.2.2.2.2.2.2.2.2.2.2.2.2.2.2.1 u.2.2.2.2.2.2.2.2.2.2.2.2.2.2.2.1 u.2.2.2.2.2.2.2.2.2.2.2.2.2.2.2.2.1 u.2.2.2.2.2.2.2.2.2.2.2.2.2.2.2.2.2.1 u.2.2.2.2.2.2.2.2.2.2.2.2.2.2.2.2.2.2) (fun (u : (Nat → Int32) × (Nat → Int32) × (Nat → Int32) × (Nat → Int32) × (Nat → Int32) × (Nat → Int32) × (Nat → Int64) × (Nat → Int64) × Int32 × Int32 × Int32 × Int32 × Int32 × Int32 × Int32 × Int32 × Int32 × Int32 × Int32) t => we n0 G (wC K ad (sI (sI (sI (sI (sI (sI (sI (sI (sI (sI (sI (sL (sL (sA (sA (sA (sA (sA (sA S 32 u.1) 33 u.2.1) 34 u.2.2.1) 35 u.2.2.2.1) 39 u.2.2.2.2.1) 40 u.2.2.2.2.2.1) 36 u.2.2.2.2.2.2.1) 38 u.2.2.2.2.2.2.2.1) 1862 u.2.2.2.2.2.2.2.2.1) 1863 u.2.2.2.2.2.2.2.2.2.1) 1923 u.2.2.2.2.2.2.2.2.2.2.1) 1924 u.2.2.2.2.2.2.2.2.2.2.2.1) 1925 u.2.2.2.2.2.2.2.2.2.2.2.2.1) 1926 u.2.2.2.2.2.2.2.2.2.2.2.2.2.1) 1927 u.2.2.2.2.2.2.2.2.2.2.2.2.2.2.1) 1928 u.2.2.2.2.2.2.2.2.2.2.2.2.2.2.2.1) 1989 u.2.2.2.2.2.2.2.2.2.2.2.2.2.2.2.2.1) 2370 u.2.2.2.2.2.2.2.2.2.2.2.2.2.2.2.2.2.1) 2371 u.2.2.2.2.2.2.2.2.2.2.2.2.2.2.2.2.2.2) ++ X) t) (al n0)) args s 0 0 (al n0)) (F0 m 29 ls []) := by
  have hx := C.1
  have hb := C.2.1
  have hts := C.2.2.2.2.1
  intro n
  induction n with
  | zero =>
    intro a39 a40 l38 i1923 i1924 i1925 i1926 i1927 i1928 i2370 i2371 x1 x2 x3 x4 x5 hw
    unfold wl_Se_visit_29 at hw
    exact hw.elim
  | succ n ih =>
    intro a39 a40 l38 i1923 i1924 i1925 i1926 i1927 i1928 i2370 i2371 x1 x2 x3 x4 x5 hw H locs ls w hl
    unfold wl_Se_visit_29 at hw
    refine lv_iload hx hb d_Se_visit_29 (lv_at hl 5 rfl) ?_
    refine lv_aload_n hx hb d_Se_visit_31 rfl (lv_at hl 0 rfl) ?_
    refine kg (C1 := R_Se) (T := F_Se) (N := 10) (ci := 7) (ref := "LineBreaker$Search") (v := .int (S.2.2 1862)) C w 29 6 iw_Se rfl rfl (by decide) kw_302 rfl rfl d_Se_visit_32 ?_
    refine lv_icmp_ge (tgt := 162) hx hb d_Se_visit_35 (by decide) (fun hc => ?_) (fun hc => ?_)
    · have hw := hw.1 hc
      refine lv_aload_n hx hb d_Se_visit_162 rfl (lv_at hl 0 rfl) ?_
      refine lv_iload_n hx hb d_Se_visit_163 rfl (lv_at hl 3 rfl) ?_
      refine kp (C1 := R_Se) (T := F_Se) (N := 10) (ci := 7) (ty0 := t_Se) (ref := "LineBreaker$Search") (w2 := wC K ad (sI (sI (sI (sI (sI (sI (sI (sI (sI (sL (sA (sA S 39 a39) 40 a40) 38 l38) 1862 x3) 1923 i1923) 1924 i1924) 1925 i1925) 1926 i1926) 1927 i1927) 1928 i1928) 2370 i2370) 2371 i2371) ++ X) C w 29 6 iw_Se tk_Se n_Se rfl rfl (by decide) kw_302 rfl rfl rfl rfl (Nat.le_of_ble_eq_true rfl) rfl d_Se_visit_164 (fun H locs w => ?_)
      refine lv_aload_n hx hb d_Se_visit_167 rfl (lv_at hl 0 rfl) ?_
      refine kg (C1 := R_Se) (T := F_Se) (N := 10) (ci := 7) (ref := "LineBreaker$Search") (v := .int (S.2.2 1865)) C w 29 9 iw_Se rfl rfl (by decide) kw_305 rfl rfl d_Se_visit_168 ?_
      refine lv_if_eq (tgt := 217) hx hb d_Se_visit_171 (by decide) (fun hc => ?_) (fun hc => ?_)
      · have hw := hw.1 hc
        exact w_Se_visit_217 C hr  a39 a40 l38 x3 i1923 i1924 i1925 i1926 i1927 i1928 i2370 i2371 x1 hw _ _ _ (wn_eq w rfl) (lv_sub hl [0, 1] rfl)
      · have hw := hw.2 hc
        refine lv_iload_n hx hb d_Se_visit_174 rfl (lv_at hl 3 rfl) ?_
        refine lv_if_ne (tgt := 217) hx hb d_Se_visit_175 (by decide) (fun hc => ?_) (fun hc => ?_)
        · have hw := hw.1 hc
          exact w_Se_visit_217 C hr  a39 a40 l38 x3 i1923 i1924 i1925 i1926 i1927 i1928 i2370 i2371 x1 hw _ _ _ (wn_eq w rfl) (lv_sub hl [0, 1] rfl)
        · have hw := hw.2 hc
          refine lv_aload_n hx hb d_Se_visit_178 rfl (lv_at hl 0 rfl) ?_
          refine kg (C1 := R_Se) (T := F_Se) (N := 10) (ci := 7) (ref := "LineBreaker$Search") (v := .ref (ad 37)) C w 29 4 iw_Se rfl rfl (by decide) kw_300 rfl rfl d_Se_visit_179 ?_
          refine kc_i (st := fun (u : Unit) => wC K ad (sI (sI (sI (sI (sI (sI (sI (sI (sI (sL (sA (sA S 39 a39) 40 a40) 38 l38) 1862 x3) 1923 i1923) 1924 i1924) 1925 i1925) 1926 i1926) 1927 i1927) 1928 i1928) 2370 i2370) 2371 i2371) ++ X) w (kr_V (y := y_Of_isEmpty) (C1 := R_Of) (T := F_Of) (N := 4) (ci := 4) (q0 := 37) (As := []) (n := 0) C w (c_Of_isEmpty l n0 G K ad X (sI (sI (sI (sI (sI (sI (sI (sI (sI (sL (sA (sA S 39 a39) 40 a40) 38 l38) 1862 x3) 1923 i1923) 1924 i1924) 1925 i1925) 1926 i1926) 1927 i1927) 1928 i1928) 2370 i2370) 2371 i2371)  _ hw) (gw_V kw_798 kw_799 kw_800 kw_9 kw_801) (by decide +kernel) rfl rfl ⟨Nat.le_of_ble_eq_true rfl, Nat.le_of_ble_eq_true rfl⟩ rfl rfl rfl hl.1 rfl (Nat.le_of_ble_eq_true rfl) d_Se_visit_182 ⟨Nat.le_of_ble_eq_true rfl, Nat.le_of_ble_eq_true rfl⟩) (fun r1 u H locs hw w => ?_)
          refine lv_if_eq (tgt := 217) hx hb d_Se_visit_185 (by decide) (fun hc => ?_) (fun hc => ?_)
          · have hw := hw.1 hc
            exact w_Se_visit_217 C hr  a39 a40 l38 x3 i1923 i1924 i1925 i1926 i1927 i1928 i2370 i2371 x1 hw _ _ _ (wn_eq w rfl) (lv_sub hl [0, 1] rfl)
          · have hw := hw.2 hc
            refine lv_iload hx hb d_Se_visit_188 (lv_at hl 4 rfl) ?_
            refine lv_iconst (v := (-1)) hx hb d_Se_visit_190 (by decide) ?_
            refine lv_icmp_eq (tgt := 217) hx hb d_Se_visit_191 (by decide) (fun hc => ?_) (fun hc => ?_)
            · have hw := hw.1 hc
              exact w_Se_visit_217 C hr  a39 a40 l38 x3 i1923 i1924 i1925 i1926 i1927 i1928 i2370 i2371 x1 hw _ _ _ (wn_eq w rfl) (lv_sub hl [0, 1] rfl)
            · have hw := hw.2 hc
              refine lv_aload_n hx hb d_Se_visit_194 rfl (lv_at hl 0 rfl) ?_
              refine lv_iload hx hb d_Se_visit_195 (lv_at hl 4 rfl) ?_
              refine lv_iload_n hx hb d_Se_visit_197 rfl (lv_at hl 1 rfl) ?_
              refine kc_v (st := fun (u : Int32 × Int32 × Int32 × Int32 × Int32 × Int32) => wC K ad (sI (sI (sI (sI (sI (sI (sI (sI (sI (sI (sI (sI (sI (sI (sI (sL (sA (sA S 39 a39) 40 a40) 38 l38) 1862 x3) 1923 i1923) 1924 i1924) 1925 i1925) 1926 i1926) 1927 i1927) 1928 i1928) 2370 i2370) 2371 i2371) 1923 u.1) 1924 u.2.1) 1925 u.2.2.1) 1926 u.2.2.2.1) 1927 u.2.2.2.2.1) 1928 u.2.2.2.2.2) ++ X) w (kr_V (y := y_Se_measureFrom) (C1 := R_Se) (T := F_Se) (N := 10) (ci := 7) (q0 := 29) (As := [.int x4, .int x1]) (n := 2) C w (c_Se_measureFrom l n0 G K ad X (sI (sI (sI (sI (sI (sI (sI (sI (sI (sL (sA (sA S 39 a39) 40 a40) 38 l38) 1862 x3) 1923 i1923) 1924 i1924) 1925 i1925) 1926 i1926) 1927 i1927) 1928 i1928) 2370 i2370) 2371 i2371) x4 x1 _ hw) (gw_V kw_738 kw_739 kw_740 kw_6 kw_741) (by decide +kernel) rfl rfl ⟨Nat.le_of_ble_eq_true rfl, Nat.le_of_ble_eq_true rfl⟩ rfl rfl rfl hl.1 rfl (Nat.le_of_ble_eq_true rfl) d_Se_visit_198 ⟨Nat.le_of_ble_eq_true rfl, Nat.le_of_ble_eq_true rfl⟩) (fun u H locs hw w => ?_)
              obtain ⟨v2, v3, v4, v5, v6, v7⟩ := u
              dsimp only at hw
              have w : wn n0 G (wC K ad (sI (sI (sI (sI (sI (sI (sI (sI (sI (sL (sA (sA S 39 a39) 40 a40) 38 l38) 1862 x3) 1923 v2) 1924 v3) 1925 v4) 1926 v5) 1927 v6) 1928 v7) 2370 i2370) 2371 i2371) ++ X) s H locs := w
              refine lv_aload_n hx hb d_Se_visit_201 rfl (lv_at hl 0 rfl) ?_
              refine lv_iload hx hb d_Se_visit_202 (lv_at hl 4 rfl) ?_
              refine lv_aload_n hx hb d_Se_visit_204 rfl (lv_at hl 0 rfl) ?_
              refine kg (C1 := R_Se) (T := F_Se) (N := 10) (ci := 7) (ref := "LineBreaker$Search") (v := .ref (ad 31)) C w 29 3 iw_Se rfl rfl (by decide) kw_298 rfl rfl d_Se_visit_205 ?_
              refine kg (C1 := R_No) (T := F_No) (N := 6) (ci := 3) (ref := "LineBreaker$Nodes") (v := .ref (ad 36)) C w 31 4 iw_No rfl rfl (by decide) kw_253 rfl rfl d_Se_visit_208 ?_
              refine lv_iload hx hb d_Se_visit_211 (lv_at hl 4 rfl) ?_
              refine ka_l (f := (S.2.1 36)) C w 36 rfl hw.1 d_Se_visit_213 ?_
              have hw := hw.2
              refine kc_v (st := fun (u : (Nat → Int32) × (Nat → Int64) × Int32 × Int32) => wC K ad (sI (sI (sL (sA (sI (sI (sI (sI (sI (sI (sI (sI (sI (sL (sA (sA S 39 a39) 40 a40) 38 l38) 1862 x3) 1923 v2) 1924 v3) 1925 v4) 1926 v5) 1927 v6) 1928 v7) 2370 i2370) 2371 i2371) 39 u.1) 38 u.2.1) 2370 u.2.2.1) 2371 u.2.2.2) ++ X) w (kr_V (y := y_Se_offerFrom) (C1 := R_Se) (T := F_Se) (N := 10) (ci := 7) (q0 := 29) (As := [.int x4, .long ((S.2.1 36) x4.toNatClampNeg)]) (n := 2) C w (c_Se_offerFrom l n0 G K ad X (sI (sI (sI (sI (sI (sI (sI (sI (sI (sL (sA (sA S 39 a39) 40 a40) 38 l38) 1862 x3) 1923 v2) 1924 v3) 1925 v4) 1926 v5) 1927 v6) 1928 v7) 2370 i2370) 2371 i2371) x4 ((S.2.1 36) x4.toNatClampNeg) _ hw) (gw_V kw_788 kw_790 kp_14 kw_6 kw_791) (by decide +kernel) rfl rfl ⟨Nat.le_of_ble_eq_true rfl, Nat.le_of_ble_eq_true rfl⟩ rfl rfl rfl hl.1 rfl (Nat.le_of_ble_eq_true rfl) d_Se_visit_214 ⟨Nat.le_of_ble_eq_true rfl, Nat.le_of_ble_eq_true rfl⟩) (fun u H locs hw w => ?_)
              obtain ⟨f8, f9, v10, v11⟩ := u
              dsimp only at hw
              have w : wn n0 G (wC K ad (sI (sI (sI (sI (sI (sI (sI (sI (sI (sL (sA (sA S 39 f8) 40 a40) 38 f9) 1862 x3) 1923 v2) 1924 v3) 1925 v4) 1926 v5) 1927 v6) 1928 v7) 2370 v10) 2371 v11) ++ X) s H locs := w
              exact w_Se_visit_217 C hr  f8 a40 f9 x3 v2 v3 v4 v5 v6 v7 v10 v11 x1 hw _ _ _ (wn_eq w rfl) (lv_sub hl [0, 1] rfl)
    · have hw := hw.2 hc
      refine lv_aload_n hx hb d_Se_visit_38 rfl (lv_at hl 0 rfl) ?_
      refine kg (C1 := R_Se) (T := F_Se) (N := 10) (ci := 7) (ref := "LineBreaker$Search") (v := .ref (ad 40)) C w 29 5 iw_Se rfl rfl (by decide) kw_301 rfl rfl d_Se_visit_39 ?_
      refine lv_iload hx hb d_Se_visit_42 (lv_at hl 5 rfl) ?_
      refine ka_i (f := a40) C w 40 rfl hw.1 d_Se_visit_44 ?_
      have hw := hw.2
      refine lv_topi (fun v12 ev12 => ?_)
      have hw := hw v12 ev12
      refine lv_istore (lv' := [(6, .int v12), (0, .ref (ad 29)), (1, .int x1), (2, .int x2), (3, .int x3), (4, .int x4), (5, .int x5)]) hx hb d_Se_visit_45 hl (by decide) rfl (fun ls hl => ?_)
      refine lv_aload_n hx hb d_Se_visit_47 rfl (lv_at hl 1 rfl) ?_
      refine lv_iload hx hb d_Se_visit_48 (lv_at hl 0 rfl) ?_
      refine lv_iload_n hx hb d_Se_visit_50 rfl (lv_at hl 2 rfl) ?_
      refine kc_v (st := fun (u : Int32 × Int32 × Int32 × Int32 × Int32 × Int32) => wC K ad (sI (sI (sI (sI (sI (sI (sI (sI (sI (sI (sI (sI (sI (sI (sL (sA (sA S 39 a39) 40 a40) 38 l38) 1923 i1923) 1924 i1924) 1925 i1925) 1926 i1926) 1927 i1927) 1928 i1928) 2370 i2370) 2371 i2371) 1923 u.1) 1924 u.2.1) 1925 u.2.2.1) 1926 u.2.2.2.1) 1927 u.2.2.2.2.1) 1928 u.2.2.2.2.2) ++ X) w (kr_V (y := y_Se_measureFrom) (C1 := R_Se) (T := F_Se) (N := 10) (ci := 7) (q0 := 29) (As := [.int v12, .int x1]) (n := 2) C w (c_Se_measureFrom l n0 G K ad X (sI (sI (sI (sI (sI (sI (sI (sI (sL (sA (sA S 39 a39) 40 a40) 38 l38) 1923 i1923) 1924 i1924) 1925 i1925) 1926 i1926) 1927 i1927) 1928 i1928) 2370 i2370) 2371 i2371) v12 x1 _ hw) (gw_V kw_738 kw_739 kw_740 kw_6 kw_741) (by decide +kernel) rfl rfl ⟨Nat.le_of_ble_eq_true rfl, Nat.le_of_ble_eq_true rfl⟩ rfl rfl rfl hl.1 rfl (Nat.le_of_ble_eq_true rfl) d_Se_visit_51 ⟨Nat.le_of_ble_eq_true rfl, Nat.le_of_ble_eq_true rfl⟩) (fun u H locs hw w => ?_)
      obtain ⟨v13, v14, v15, v16, v17, v18⟩ := u
      dsimp only at hw
      have w : wn n0 G (wC K ad (sI (sI (sI (sI (sI (sI (sI (sI (sL (sA (sA S 39 a39) 40 a40) 38 l38) 1923 v13) 1924 v14) 1925 v15) 1926 v16) 1927 v17) 1928 v18) 2370 i2370) 2371 i2371) ++ X) s H locs := w
      refine lv_aload_n hx hb d_Se_visit_54 rfl (lv_at hl 1 rfl) ?_
      refine kg (C1 := R_Se) (T := F_Se) (N := 10) (ci := 7) (ref := "LineBreaker$Search") (v := .ref (ad 30)) C w 29 2 iw_Se rfl rfl (by decide) kw_296 rfl rfl d_Se_visit_55 ?_
      refine kg (C1 := R_Gu) (T := F_Gu) (N := 9) (ci := 1) (ref := "LineBreaker$Gauge") (v := .int v14) C w 30 4 iw_Gu rfl rfl (by decide) kw_204 rfl rfl d_Se_visit_58 ?_
      refine lv_aload_n hx hb d_Se_visit_61 rfl (lv_at hl 1 rfl) ?_
      refine kg (C1 := R_Se) (T := F_Se) (N := 10) (ci := 7) (ref := "LineBreaker$Search") (v := .int (S.2.2 1864)) C w 29 8 iw_Se rfl rfl (by decide) kw_304 rfl rfl d_Se_visit_62 ?_
      refine lv_icmp_gt (tgt := 92) hx hb d_Se_visit_65 (by decide) (fun hc => ?_) (fun hc => ?_)
      · have hw := hw.1 hc
        exact w_Se_visit_92 C hr ih a39 a40 l38 v13 v14 v15 v16 v17 v18 i2370 i2371 x1 x2 x3 x4 x5 v12 hw _ _ _ (wn_eq w rfl) (lv_sub hl [1, 2, 3, 4, 5, 6, 0] rfl)
      · have hw := hw.2 hc
        refine lv_aload_n hx hb d_Se_visit_68 rfl (lv_at hl 1 rfl) ?_
        refine lv_iload hx hb d_Se_visit_69 (lv_at hl 0 rfl) ?_
        refine lv_aload_n hx hb d_Se_visit_71 rfl (lv_at hl 1 rfl) ?_
        refine kg (C1 := R_Se) (T := F_Se) (N := 10) (ci := 7) (ref := "LineBreaker$Search") (v := .ref (ad 31)) C w 29 3 iw_Se rfl rfl (by decide) kw_298 rfl rfl d_Se_visit_72 ?_
        refine kg (C1 := R_No) (T := F_No) (N := 6) (ci := 3) (ref := "LineBreaker$Nodes") (v := .ref (ad 36)) C w 31 4 iw_No rfl rfl (by decide) kw_253 rfl rfl d_Se_visit_75 ?_
        refine lv_iload hx hb d_Se_visit_78 (lv_at hl 0 rfl) ?_
        refine ka_l (f := (S.2.1 36)) C w 36 rfl hw.1 d_Se_visit_80 ?_
        have hw := hw.2
        refine lv_aload_n hx hb d_Se_visit_81 rfl (lv_at hl 1 rfl) ?_
        refine lv_iload hx hb d_Se_visit_82 (lv_at hl 0 rfl) ?_
        refine lv_iload_n hx hb d_Se_visit_84 rfl (lv_at hl 2 rfl) ?_
        refine kc_l (st := fun (u : Unit) => wC K ad (sI (sI (sI (sI (sI (sI (sI (sI (sL (sA (sA S 39 a39) 40 a40) 38 l38) 1923 v13) 1924 v14) 1925 v15) 1926 v16) 1927 v17) 1928 v18) 2370 i2370) 2371 i2371) ++ X) w (kr_V (y := y_Se_demerits) (C1 := R_Se) (T := F_Se) (N := 10) (ci := 7) (q0 := 29) (As := [.int v12, .int x1]) (n := 2) C w (c_Se_demerits l n0 G K ad X (sI (sI (sI (sI (sI (sI (sI (sI (sL (sA (sA S 39 a39) 40 a40) 38 l38) 1923 v13) 1924 v14) 1925 v15) 1926 v16) 1927 v17) 1928 v18) 2370 i2370) 2371 i2371) v12 x1 _ hw) (gw_V kw_776 kw_778 kp_13 kw_6 kw_779) (by decide +kernel) rfl rfl ⟨Nat.le_of_ble_eq_true rfl, Nat.le_of_ble_eq_true rfl⟩ rfl rfl rfl hl.1 rfl (Nat.le_of_ble_eq_true rfl) d_Se_visit_85 ⟨Nat.le_of_ble_eq_true rfl, Nat.le_of_ble_eq_true rfl⟩) (fun r19 u H locs hw w => ?_)
        refine lv_ladd hx hb d_Se_visit_88 ?_
        refine kc_v (st := fun (u : (Nat → Int32) × (Nat → Int64) × Int32 × Int32) => wC K ad (sI (sI (sL (sA (sI (sI (sI (sI (sI (sI (sI (sI (sL (sA (sA S 39 a39) 40 a40) 38 l38) 1923 v13) 1924 v14) 1925 v15) 1926 v16) 1927 v17) 1928 v18) 2370 i2370) 2371 i2371) 39 u.1) 38 u.2.1) 2370 u.2.2.1) 2371 u.2.2.2) ++ X) w (kr_V (y := y_Se_offerFrom) (C1 := R_Se) (T := F_Se) (N := 10) (ci := 7) (q0 := 29) (As := [.int v12, .long (((S.2.1 36) v12.toNatClampNeg) + r19)]) (n := 2) C w (c_Se_offerFrom l n0 G K ad X (sI (sI (sI (sI (sI (sI (sI (sI (sL (sA (sA S 39 a39) 40 a40) 38 l38) 1923 v13) 1924 v14) 1925 v15) 1926 v16) 1927 v17) 1928 v18) 2370 i2370) 2371 i2371) v12 (((S.2.1 36) v12.toNatClampNeg) + r19) _ hw) (gw_V kw_788 kw_790 kp_14 kw_6 kw_791) (by decide +kernel) rfl rfl ⟨Nat.le_of_ble_eq_true rfl, Nat.le_of_ble_eq_true rfl⟩ rfl rfl rfl hl.1 rfl (Nat.le_of_ble_eq_true rfl) d_Se_visit_89 ⟨Nat.le_of_ble_eq_true rfl, Nat.le_of_ble_eq_true rfl⟩) (fun u H locs hw w => ?_)
        obtain ⟨f20, f21, v22, v23⟩ := u
        dsimp only at hw
        have w : wn n0 G (wC K ad (sI (sI (sI (sI (sI (sI (sI (sI (sL (sA (sA S 39 f20) 40 a40) 38 f21) 1923 v13) 1924 v14) 1925 v15) 1926 v16) 1927 v17) 1928 v18) 2370 v22) 2371 v23) ++ X) s H locs := w
        exact w_Se_visit_92 C hr ih f20 a40 f21 v13 v14 v15 v16 v17 v18 v22 v23 x1 x2 x3 x4 x5 v12 hw _ _ _ (wn_eq w rfl) (lv_sub hl [1, 2, 3, 4, 5, 6, 0] rfl)
set_option maxHeartbeats 4000000 in
set_option maxRecDepth 100000 in
theorem w_Se_visit_20 {S : ST} {post : Int32 → (Nat → Int32) → (Nat → Int32) → (Nat → Int32) → (Nat → Int32) → (Nat → Int32) → (Nat → Int32) → (Nat → Int64) → (Nat → Int64) → Int32 → Int32 → Int32 → Int32 → Int32 → Int32 → Int32 → Int32 → Int32 → Int32 → Int32 → Prop} (C : cx p s m args meth c prog_9_method_3_code 7 "LineBreaker$Search" n0 G K) (hr : meth.sig.returnType = (some .boolean)) : ∀ (x1 : Int32) (z0 : Int32), wl_Se_visit_20 S post x1 z0 → ∀ (H : Heap) (locs : List Loc) (ls : Array Slot), wn n0 G (wC K ad S ++ X) s H locs → lv_has ls 7 [(0, .ref (ad 29)), (1, .int x1)] → W p l e rm_Se_visit s m args below meth c H locs 0 0 (MQ below (va_Qi (fun r (u : (Nat → Int32) × (Nat → Int32) × (Nat → Int32) × (Nat → Int32) × (Nat → Int32) × (Nat → Int32) × (Nat → Int64) × (Nat → Int64) × Int32 × Int32 × Int32 × Int32 × Int32 × Int32 × Int32 × Int32 × Int32 × Int32 × Int32) => post r u.1 u.2.1 u.2.2.1 u.2.2.2.1 u.2.2.2.2.1 u.2.2.2.2.2.1 u.2.2.2.2.2.2.1 u.2.2.2.2.2.2.2.1 u.2.2.2.2.2.2.2.2.1 u.2.2.2.2.2.2.2.2.2.1 u.2.2.2.2.2.2.2.2.2.2.1 u.2.2.2.2.2.2.2.2.2.2.2.1 u.2.2.2.2.2.2.2.2.2.2.2.2.1 u.2.2.2.2.2.2.2.2.2.2.2.2.2.1 u.2.2.2.2.2.2.2.2.2.2.2.2.2.2.1 u.2.2.2.2.2.2.2.2.2.2.2.2.2.2.2.1 u.2.2.2.2.2.2.2.2.2.2.2.2.2.2.2.2.1 u.2.2.2.2.2.2.2.2.2.2.2.2.2.2.2.2.2.1 u.2.2.2.2.2.2.2.2.2.2.2.2.2.2.2.2.2.2) (fun (u : (Nat → Int32) × (Nat → Int32) × (Nat → Int32) × (Nat → Int32) × (Nat → Int32) × (Nat → Int32) × (Nat → Int64) × (Nat → Int64) × Int32 × Int32 × Int32 × Int32 × Int32 × Int32 × Int32 × Int32 × Int32 × Int32 × Int32) t => we n0 G (wC K ad (sI (sI (sI (sI (sI (sI (sI (sI (sI (sI (sI (sL (sL (sA (sA (sA (sA (sA (sA S 32 u.1) 33 u.2.1) 34 u.2.2.1) 35 u.2.2.2.1) 39 u.2.2.2.2.1) 40 u.2.2.2.2.2.1) 36 u.2.2.2.2.2.2.1) 38 u.2.2.2.2.2.2.2.1) 1862 u.2.2.2.2.2.2.2.2.1) 1863 u.2.2.2.2.2.2.2.2.2.1) 1923 u.2.2.2.2.2.2.2.2.2.2.1) 1924 u.2.2.2.2.2.2.2.2.2.2.2.1) 1925 u.2.2.2.2.2.2.2.2.2.2.2.2.1) 1926 u.2.2.2.2.2.2.2.2.2.2.2.2.2.1) 1927 u.2.2.2.2.2.2.2.2.2.2.2.2.2.2.1) 1928 u.2.2.2.2.2.2.2.2.2.2.2.2.2.2.2.1) 1989 u.2.2.2.2.2.2.2.2.2.2.2.2.2.2.2.2.1) 2370 u.2.2.2.2.2.2.2.2.2.2.2.2.2.2.2.2.2.1) 2371 u.2.2.2.2.2.2.2.2.2.2.2.2.2.2.2.2.2.2) ++ X) t) (al n0)) args s 0 0 (al n0)) (F0 m 20 ls [.int z0]) := by
  have hx := C.1
  have hb := C.2.1
  have hts := C.2.2.2.2.1
  intro x1 z0 hw H locs ls w hl
  unfold wl_Se_visit_20 at hw
  refine lv_istore_n (lv' := [(2, .int z0), (0, .ref (ad 29)), (1, .int x1)]) hx hb d_Se_visit_20 rfl hl (by decide) rfl (fun ls hl => ?_)
  refine lv_iconst (v := 0) hx hb d_Se_visit_21 (by decide) ?_
  refine lv_istore_n (lv' := [(3, .int 0), (2, .int z0), (0, .ref (ad 29)), (1, .int x1)]) hx hb d_Se_visit_22 rfl hl (by decide) rfl (fun ls hl => ?_)
  refine lv_iconst (v := (-1)) hx hb d_Se_visit_23 (by decide) ?_
  refine lv_istore (lv' := [(4, .int (-1)), (3, .int 0), (2, .int z0), (0, .ref (ad 29)), (1, .int x1)]) hx hb d_Se_visit_24 hl (by decide) rfl (fun ls hl => ?_)
  refine lv_iconst (v := 0) hx hb d_Se_visit_26 (by decide) ?_
  refine lv_istore (lv' := [(5, .int 0), (4, .int (-1)), (3, .int 0), (2, .int z0), (0, .ref (ad 29)), (1, .int x1)]) hx hb d_Se_visit_27 hl (by decide) rfl (fun ls hl => ?_)
  obtain ⟨n9, hw⟩ := hw
  exact w_Se_visit_29 C hr  n9 (S.1 39) (S.1 40) (S.2.1 38) (S.2.2 1923) (S.2.2 1924) (S.2.2 1925) (S.2.2 1926) (S.2.2 1927) (S.2.2 1928) (S.2.2 2370) (S.2.2 2371) x1 z0 0 (-1) 0 hw _ _ _ (wn_eq w rfl) (lv_sub hl [4, 5, 3, 2, 1, 0] rfl)
set_option maxHeartbeats 4000000 in
set_option maxRecDepth 100000 in
theorem c_Se_visit (l : Launch) (n0 : Nat) (G : va_G) (K : KT) (ad : Nat → Nat) (X : va_W) (S : ST) (p1 : Int32) (post : Int32 → (Nat → Int32) → (Nat → Int32) → (Nat → Int32) → (Nat → Int32) → (Nat → Int32) → (Nat → Int32) → (Nat → Int64) → (Nat → Int64) → Int32 → Int32 → Int32 → Int32 → Int32 → Int32 → Int32 → Int32 → Int32 → Int32 → Int32 → Prop) (hw : wp_Se_visit S p1 post) : Met l y_Se_visit (Cond.code y_Se_visit prog_9_method_3_code 7 (some .boolean) :: gw) rm_Se_visit (va_Pc [.ref (ad 29), .int p1] (wb n0 G K (wC K ad S ++ X))) (va_Qi (fun r (u : (Nat → Int32) × (Nat → Int32) × (Nat → Int32) × (Nat → Int32) × (Nat → Int32) × (Nat → Int32) × (Nat → Int64) × (Nat → Int64) × Int32 × Int32 × Int32 × Int32 × Int32 × Int32 × Int32 × Int32 × Int32 × Int32 × Int32) => post r u.1 u.2.1 u.2.2.1 u.2.2.2.1 u.2.2.2.2.1 u.2.2.2.2.2.1 u.2.2.2.2.2.2.1 u.2.2.2.2.2.2.2.1 u.2.2.2.2.2.2.2.2.1 u.2.2.2.2.2.2.2.2.2.1 u.2.2.2.2.2.2.2.2.2.2.1 u.2.2.2.2.2.2.2.2.2.2.2.1 u.2.2.2.2.2.2.2.2.2.2.2.2.1 u.2.2.2.2.2.2.2.2.2.2.2.2.2.1 u.2.2.2.2.2.2.2.2.2.2.2.2.2.2.1 u.2.2.2.2.2.2.2.2.2.2.2.2.2.2.2.1 u.2.2.2.2.2.2.2.2.2.2.2.2.2.2.2.2.1 u.2.2.2.2.2.2.2.2.2.2.2.2.2.2.2.2.2.1 u.2.2.2.2.2.2.2.2.2.2.2.2.2.2.2.2.2.2) (fun (u : (Nat → Int32) × (Nat → Int32) × (Nat → Int32) × (Nat → Int32) × (Nat → Int32) × (Nat → Int32) × (Nat → Int64) × (Nat → Int64) × Int32 × Int32 × Int32 × Int32 × Int32 × Int32 × Int32 × Int32 × Int32 × Int32 × Int32) t => we n0 G (wC K ad (sI (sI (sI (sI (sI (sI (sI (sI (sI (sI (sI (sL (sL (sA (sA (sA (sA (sA (sA S 32 u.1) 33 u.2.1) 34 u.2.2.1) 35 u.2.2.2.1) 39 u.2.2.2.2.1) 40 u.2.2.2.2.2.1) 36 u.2.2.2.2.2.2.1) 38 u.2.2.2.2.2.2.2.1) 1862 u.2.2.2.2.2.2.2.2.1) 1863 u.2.2.2.2.2.2.2.2.2.1) 1923 u.2.2.2.2.2.2.2.2.2.2.1) 1924 u.2.2.2.2.2.2.2.2.2.2.2.1) 1925 u.2.2.2.2.2.2.2.2.2.2.2.2.1) 1926 u.2.2.2.2.2.2.2.2.2.2.2.2.2.1) 1927 u.2.2.2.2.2.2.2.2.2.2.2.2.2.2.1) 1928 u.2.2.2.2.2.2.2.2.2.2.2.2.2.2.2.1) 1989 u.2.2.2.2.2.2.2.2.2.2.2.2.2.2.2.2.1) 2370 u.2.2.2.2.2.2.2.2.2.2.2.2.2.2.2.2.2.1) 2371 u.2.2.2.2.2.2.2.2.2.2.2.2.2.2.2.2.2.2) ++ X) t) (al n0)) 0 0 (al n0) := by
  refine kb_start (own := "LineBreaker$Search") (by decide +kernel) rfl ?_
  intro p e s m below meth c C hr hnm w
  have hx := C.1
  have hb := C.2.1
  have hts := C.2.2.2.2.1
  have hl := lv_entry ([.ref (ad 29), .int p1]) (n := 7) (Nat.le_of_ble_eq_true rfl)
  rw [lg_entry_eq]
  generalize (lg_sl ([.ref (ad 29), .int p1]) ++ List.replicate (7 - (lg_sl ([.ref (ad 29), .int p1])).length) Slot.unset).toArray = ls at hl ⊢
  have hl : lv_has ls 7 [(0, .ref (ad 29)), (1, .int p1)] := hl
  unfold wp_Se_visit at hw
  refine lv_aload_n hx hb d_Se_visit_0 rfl (lv_at hl 0 rfl) ?_
  refine kg (C1 := R_Se) (T := F_Se) (N := 10) (ci := 7) (ref := "LineBreaker$Search") (v := .ref (ad 17)) C w 29 0 iw_Se rfl rfl (by decide) kw_293 rfl rfl d_Se_visit_1 ?_
  refine kg (C1 := R_Ga) (T := F_Ga) (N := 12) (ci := 0) (ref := "LineBreaker$Galley") (v := .ref (ad 19)) C w 17 1 iw_Ga rfl rfl (by decide) kw_144 rfl rfl d_Se_visit_4 ?_
  refine lv_iload_n hx hb d_Se_visit_7 rfl (lv_at hl 1 rfl) ?_
  refine ka_i (f := (S.1 19)) C w 19 rfl hw.1 d_Se_visit_8 ?_
  have hw := hw.2
  refine lv_sipush (v := (-10000)) hx hb d_Se_visit_9 (by decide) ?_
  refine lv_icmp_ne (tgt := 19) hx hb d_Se_visit_12 (by decide) (fun hc => ?_) (fun hc => ?_)
  · have hw := hw.1 hc
    refine lv_iconst (v := 0) hx hb d_Se_visit_19 (by decide) ?_
    exact w_Se_visit_20 C hr  p1 0 hw _ _ _ (wn_eq w rfl) (lv_sub hl [0, 1] rfl)
  · have hw := hw.2 hc
    refine lv_iconst (v := 1) hx hb d_Se_visit_15 (by decide) ?_
    refine lv_goto (tgt := 20) hx hb d_Se_visit_16 (by decide) ?_
    exact w_Se_visit_20 C hr  p1 1 hw _ _ _ (wn_eq w rfl) (lv_sub hl [0, 1] rfl)
set_option maxHeartbeats 4000000 in
set_option maxRecDepth 100000 in
theorem c_No_isBetter (l : Launch) (n0 : Nat) (G : va_G) (K : KT) (ad : Nat → Nat) (X : va_W) (S : ST) (p1 : Int32) (p2 : Int32) (post : Int32 → Prop) (hw : wp_No_isBetter S p1 p2 post) : Met l y_No_isBetter (Cond.code y_No_isBetter prog_5_method_4_code 3 (some .boolean) :: gw) rm_No_isBetter (va_Pc [.ref (ad 31), .int p1, .int p2] (wb n0 G K (wC K ad S ++ X))) (va_Qi (fun r (u : Unit) => post r) (fun (u : Unit) t => we n0 G (wC K ad S ++ X) t) (al n0)) 0 0 (al n0) := by
  refine kb_start (own := "LineBreaker$Nodes") (by decide +kernel) rfl ?_
  intro p e s m below meth c C hr hnm w
  have hx := C.1
  have hb := C.2.1
  have hts := C.2.2.2.2.1
  have hl := lv_entry ([.ref (ad 31), .int p1, .int p2]) (n := 3) (Nat.le_of_ble_eq_true rfl)
  rw [lg_entry_eq]
  generalize (lg_sl ([.ref (ad 31), .int p1, .int p2]) ++ List.replicate (3 - (lg_sl ([.ref (ad 31), .int p1, .int p2])).length) Slot.unset).toArray = ls at hl ⊢
  have hl : lv_has ls 3 [(0, .ref (ad 31)), (1, .int p1), (2, .int p2)] := hl
  unfold wp_No_isBetter at hw
  refine lv_aload_n hx hb d_No_isBetter_0 rfl (lv_at hl 0 rfl) ?_
  refine kg (C1 := R_No) (T := F_No) (N := 6) (ci := 3) (ref := "LineBreaker$Nodes") (v := .ref (ad 36)) C w 31 4 iw_No rfl rfl (by decide) kw_252 rfl rfl d_No_isBetter_1 ?_
  refine lv_iload_n hx hb d_No_isBetter_4 rfl (lv_at hl 1 rfl) ?_
  refine ka_l (f := (S.2.1 36)) C w 36 rfl hw.1 d_No_isBetter_5 ?_
  have hw := hw.2
  refine lv_aload_n hx hb d_No_isBetter_6 rfl (lv_at hl 0 rfl) ?_
  refine kg (C1 := R_No) (T := F_No) (N := 6) (ci := 3) (ref := "LineBreaker$Nodes") (v := .ref (ad 36)) C w 31 4 iw_No rfl rfl (by decide) kw_252 rfl rfl d_No_isBetter_7 ?_
  refine lv_iload_n hx hb d_No_isBetter_10 rfl (lv_at hl 2 rfl) ?_
  refine ka_l (f := (S.2.1 36)) C w 36 rfl hw.1 d_No_isBetter_11 ?_
  have hw := hw.2
  refine W.lcmp hx hb d_No_isBetter_12 ?_
  refine lv_if_eq (tgt := 38) hx hb d_No_isBetter_13 (by decide) (fun hc => ?_) (fun hc => ?_)
  · have hw := hw.1 hc
    refine lv_aload_n hx hb d_No_isBetter_38 rfl (lv_at hl 0 rfl) ?_
    refine kg (C1 := R_No) (T := F_No) (N := 6) (ci := 3) (ref := "LineBreaker$Nodes") (v := .ref (ad 33)) C w 31 1 iw_No rfl rfl (by decide) kw_242 rfl rfl d_No_isBetter_39 ?_
    refine lv_iload_n hx hb d_No_isBetter_42 rfl (lv_at hl 1 rfl) ?_
    refine ka_i (f := (S.1 33)) C w 33 rfl hw.1 d_No_isBetter_43 ?_
    have hw := hw.2
    refine lv_aload_n hx hb d_No_isBetter_44 rfl (lv_at hl 0 rfl) ?_
    refine kg (C1 := R_No) (T := F_No) (N := 6) (ci := 3) (ref := "LineBreaker$Nodes") (v := .ref (ad 33)) C w 31 1 iw_No rfl rfl (by decide) kw_242 rfl rfl d_No_isBetter_45 ?_
    refine lv_iload_n hx hb d_No_isBetter_48 rfl (lv_at hl 2 rfl) ?_
    refine ka_i (f := (S.1 33)) C w 33 rfl hw.1 d_No_isBetter_49 ?_
    have hw := hw.2
    refine lv_icmp_eq (tgt := 74) hx hb d_No_isBetter_50 (by decide) (fun hc => ?_) (fun hc => ?_)
    · have hw := hw.1 hc
      refine lv_aload_n hx hb d_No_isBetter_74 rfl (lv_at hl 0 rfl) ?_
      refine kg (C1 := R_No) (T := F_No) (N := 6) (ci := 3) (ref := "LineBreaker$Nodes") (v := .ref (ad 34)) C w 31 2 iw_No rfl rfl (by decide) kw_246 rfl rfl d_No_isBetter_75 ?_
      refine lv_iload_n hx hb d_No_isBetter_78 rfl (lv_at hl 1 rfl) ?_
      refine ka_i (f := (S.1 34)) C w 34 rfl hw.1 d_No_isBetter_79 ?_
      have hw := hw.2
      refine lv_aload_n hx hb d_No_isBetter_80 rfl (lv_at hl 0 rfl) ?_
      refine kg (C1 := R_No) (T := F_No) (N := 6) (ci := 3) (ref := "LineBreaker$Nodes") (v := .ref (ad 34)) C w 31 2 iw_No rfl rfl (by decide) kw_246 rfl rfl d_No_isBetter_81 ?_
      refine lv_iload_n hx hb d_No_isBetter_84 rfl (lv_at hl 2 rfl) ?_
      refine ka_i (f := (S.1 34)) C w 34 rfl hw.1 d_No_isBetter_85 ?_
      have hw := hw.2
      refine lv_icmp_ge (tgt := 93) hx hb d_No_isBetter_86 (by decide) (fun hc => ?_) (fun hc => ?_)
      · have hw := hw.1 hc
        refine lv_iconst (v := 0) hx hb d_No_isBetter_93 (by decide) ?_
        exact ke_z (post := (fun r (u : Unit) => post r)) (st := (fun (u : Unit) => wC K ad S ++ X)) (u := ()) C hr d_No_isBetter_94 (wn_eq w rfl) (Or.inl rfl) hw
      · have hw := hw.2 hc
        refine lv_iconst (v := 1) hx hb d_No_isBetter_89 (by decide) ?_
        refine lv_goto (tgt := 94) hx hb d_No_isBetter_90 (by decide) ?_
        exact ke_z (post := (fun r (u : Unit) => post r)) (st := (fun (u : Unit) => wC K ad S ++ X)) (u := ()) C hr d_No_isBetter_94 (wn_eq w rfl) (Or.inr rfl) hw
    · have hw := hw.2 hc
      refine lv_aload_n hx hb d_No_isBetter_53 rfl (lv_at hl 0 rfl) ?_
      refine kg (C1 := R_No) (T := F_No) (N := 6) (ci := 3) (ref := "LineBreaker$Nodes") (v := .ref (ad 33)) C w 31 1 iw_No rfl rfl (by decide) kw_242 rfl rfl d_No_isBetter_54 ?_
      refine lv_iload_n hx hb d_No_isBetter_57 rfl (lv_at hl 1 rfl) ?_
      refine ka_i (f := (S.1 33)) C w 33 rfl hw.1 d_No_isBetter_58 ?_
      have hw := hw.2
      refine lv_aload_n hx hb d_No_isBetter_59 rfl (lv_at hl 0 rfl) ?_
      refine kg (C1 := R_No) (T := F_No) (N := 6) (ci := 3) (ref := "LineBreaker$Nodes") (v := .ref (ad 33)) C w 31 1 iw_No rfl rfl (by decide) kw_242 rfl rfl d_No_isBetter_60 ?_
      refine lv_iload_n hx hb d_No_isBetter_63 rfl (lv_at hl 2 rfl) ?_
      refine ka_i (f := (S.1 33)) C w 33 rfl hw.1 d_No_isBetter_64 ?_
      have hw := hw.2
      refine lv_icmp_ge (tgt := 72) hx hb d_No_isBetter_65 (by decide) (fun hc => ?_) (fun hc => ?_)
      · have hw := hw.1 hc
        refine lv_iconst (v := 0) hx hb d_No_isBetter_72 (by decide) ?_
        exact ke_z (post := (fun r (u : Unit) => post r)) (st := (fun (u : Unit) => wC K ad S ++ X)) (u := ()) C hr d_No_isBetter_73 (wn_eq w rfl) (Or.inl rfl) hw
      · have hw := hw.2 hc
        refine lv_iconst (v := 1) hx hb d_No_isBetter_68 (by decide) ?_
        refine lv_goto (tgt := 73) hx hb d_No_isBetter_69 (by decide) ?_
        exact ke_z (post := (fun r (u : Unit) => post r)) (st := (fun (u : Unit) => wC K ad S ++ X)) (u := ()) C hr d_No_isBetter_73 (wn_eq w rfl) (Or.inr rfl) hw
  · have hw := hw.2 hc
    refine lv_aload_n hx hb d_No_isBetter_16 rfl (lv_at hl 0 rfl) ?_
    refine kg (C1 := R_No) (T := F_No) (N := 6) (ci := 3) (ref := "LineBreaker$Nodes") (v := .ref (ad 36)) C w 31 4 iw_No rfl rfl (by decide) kw_252 rfl rfl d_No_isBetter_17 ?_
    refine lv_iload_n hx hb d_No_isBetter_20 rfl (lv_at hl 1 rfl) ?_
    refine ka_l (f := (S.2.1 36)) C w 36 rfl hw.1 d_No_isBetter_21 ?_
    have hw := hw.2
    refine lv_aload_n hx hb d_No_isBetter_22 rfl (lv_at hl 0 rfl) ?_
    refine kg (C1 := R_No) (T := F_No) (N := 6) (ci := 3) (ref := "LineBreaker$Nodes") (v := .ref (ad 36)) C w 31 4 iw_No rfl rfl (by decide) kw_252 rfl rfl d_No_isBetter_23 ?_
    refine lv_iload_n hx hb d_No_isBetter_26 rfl (lv_at hl 2 rfl) ?_
    refine ka_l (f := (S.2.1 36)) C w 36 rfl hw.1 d_No_isBetter_27 ?_
    have hw := hw.2
    refine W.lcmp hx hb d_No_isBetter_28 ?_
    refine lv_if_ge (tgt := 36) hx hb d_No_isBetter_29 (by decide) (fun hc => ?_) (fun hc => ?_)
    · have hw := hw.1 hc
      refine lv_iconst (v := 0) hx hb d_No_isBetter_36 (by decide) ?_
      exact ke_z (post := (fun r (u : Unit) => post r)) (st := (fun (u : Unit) => wC K ad S ++ X)) (u := ()) C hr d_No_isBetter_37 (wn_eq w rfl) (Or.inl rfl) hw
    · have hw := hw.2 hc
      refine lv_iconst (v := 1) hx hb d_No_isBetter_32 (by decide) ?_
      refine lv_goto (tgt := 37) hx hb d_No_isBetter_33 (by decide) ?_
      exact ke_z (post := (fun r (u : Unit) => post r)) (st := (fun (u : Unit) => wC K ad S ++ X)) (u := ()) C hr d_No_isBetter_37 (wn_eq w rfl) (Or.inr rfl) hw
set_option maxHeartbeats 4000000 in
set_option maxRecDepth 100000 in
theorem c_Se_isPreferred (l : Launch) (n0 : Nat) (G : va_G) (K : KT) (ad : Nat → Nat) (X : va_W) (S : ST) (p1 : Int32) (p2 : Int32) (p3 : Int32) (p4 : Int32) (post : Int32 → Prop) (hw : wp_Se_isPreferred S p1 p2 p3 p4 post) : Met l y_Se_isPreferred (Cond.code y_Se_isPreferred prog_9_method_9_code 10 (some .boolean) :: gw) rm_Se_isPreferred (va_Pc [.ref (ad 29), .int p1, .int p2, .int p3, .int p4] (wb n0 G K (wC K ad S ++ X))) (va_Qi (fun r (u : Unit) => post r) (fun (u : Unit) t => we n0 G (wC K ad S ++ X) t) (al n0)) 0 0 (al n0) := by
  refine kb_start (own := "LineBreaker$Search") (by decide +kernel) rfl ?_
  intro p e s m below meth c C hr hnm w
  have hx := C.1
  have hb := C.2.1
  have hts := C.2.2.2.2.1
  have hl := lv_entry ([.ref (ad 29), .int p1, .int p2, .int p3, .int p4]) (n := 10) (Nat.le_of_ble_eq_true rfl)
  rw [lg_entry_eq]
  generalize (lg_sl ([.ref (ad 29), .int p1, .int p2, .int p3, .int p4]) ++ List.replicate (10 - (lg_sl ([.ref (ad 29), .int p1, .int p2, .int p3, .int p4])).length) Slot.unset).toArray = ls at hl ⊢
  have hl : lv_has ls 10 [(0, .ref (ad 29)), (1, .int p1), (2, .int p2), (3, .int p3), (4, .int p4)] := hl
  unfold wp_Se_isPreferred at hw
  refine lv_aload_n hx hb d_Se_isPreferred_0 rfl (lv_at hl 0 rfl) ?_
  refine kg (C1 := R_Se) (T := F_Se) (N := 10) (ci := 7) (ref := "LineBreaker$Search") (v := .ref (ad 31)) C w 29 3 iw_Se rfl rfl (by decide) kw_298 rfl rfl d_Se_isPreferred_1 ?_
  refine kg (C1 := R_No) (T := F_No) (N := 6) (ci := 3) (ref := "LineBreaker$Nodes") (v := .ref (ad 33)) C w 31 1 iw_No rfl rfl (by decide) kw_244 rfl rfl d_Se_isPreferred_4 ?_
  refine lv_iload_n hx hb d_Se_isPreferred_7 rfl (lv_at hl 1 rfl) ?_
  refine ka_i (f := (S.1 33)) C w 33 rfl hw.1 d_Se_isPreferred_8 ?_
  have hw := hw.2
  refine lv_topi (fun v1 ev1 => ?_)
  have hw := hw v1 ev1
  refine lv_istore (lv' := [(5, .int v1), (0, .ref (ad 29)), (1, .int p1), (2, .int p2), (3, .int p3), (4, .int p4)]) hx hb d_Se_isPreferred_9 hl (by decide) rfl (fun ls hl => ?_)
  refine lv_aload_n hx hb d_Se_isPreferred_11 rfl (lv_at hl 1 rfl) ?_
  refine kg (C1 := R_Se) (T := F_Se) (N := 10) (ci := 7) (ref := "LineBreaker$Search") (v := .ref (ad 31)) C w 29 3 iw_Se rfl rfl (by decide) kw_298 rfl rfl d_Se_isPreferred_12 ?_
  refine kg (C1 := R_No) (T := F_No) (N := 6) (ci := 3) (ref := "LineBreaker$Nodes") (v := .ref (ad 33)) C w 31 1 iw_No rfl rfl (by decide) kw_244 rfl rfl d_Se_isPreferred_15 ?_
  refine lv_iload_n hx hb d_Se_isPreferred_18 rfl (lv_at hl 4 rfl) ?_
  refine ka_i (f := (S.1 33)) C w 33 rfl hw.1 d_Se_isPreferred_19 ?_
  have hw := hw.2
  refine lv_iload hx hb d_Se_isPreferred_20 (lv_at hl 5 rfl) ?_
  refine va_mmin hx hb (C.2.2.1.trans hl.1.symm) C.2.2.2.1 (hts _ kw_826) (hts _ kw_563) (hts _ kw_17) (hts _ kw_564) (Nat.le_of_ble_eq_true rfl) (Nat.le_of_ble_eq_true rfl) (Nat.zero_le _) (Nat.zero_le _) d_Se_isPreferred_22 ?_
  refine lv_topi (fun v2 ev2 => ?_)
  have hw := hw v2 ev2
  refine lv_istore (lv' := [(6, .int v2), (5, .int v1), (0, .ref (ad 29)), (1, .int p1), (2, .int p2), (3, .int p3), (4, .int p4)]) hx hb d_Se_isPreferred_25 hl (by decide) rfl (fun ls hl => ?_)
  refine lv_aload_n hx hb d_Se_isPreferred_27 rfl (lv_at hl 2 rfl) ?_
  refine kg (C1 := R_Se) (T := F_Se) (N := 10) (ci := 7) (ref := "LineBreaker$Search") (v := .ref (ad 31)) C w 29 3 iw_Se rfl rfl (by decide) kw_298 rfl rfl d_Se_isPreferred_28 ?_
  refine kg (C1 := R_No) (T := F_No) (N := 6) (ci := 3) (ref := "LineBreaker$Nodes") (v := .ref (ad 33)) C w 31 1 iw_No rfl rfl (by decide) kw_244 rfl rfl d_Se_isPreferred_31 ?_
  refine lv_iload_n hx hb d_Se_isPreferred_34 rfl (lv_at hl 5 rfl) ?_
  refine ka_i (f := (S.1 33)) C w 33 rfl hw.1 d_Se_isPreferred_35 ?_
  have hw := hw.2
  refine lv_iload hx hb d_Se_isPreferred_36 (lv_at hl 6 rfl) ?_
  refine va_mmax hx hb (C.2.2.1.trans hl.1.symm) C.2.2.2.1 (hts _ kw_827) (hts _ kw_525) (hts _ kw_17) (hts _ kw_526) (Nat.le_of_ble_eq_true rfl) (Nat.le_of_ble_eq_true rfl) (Nat.zero_le _) (Nat.zero_le _) d_Se_isPreferred_38 ?_
  refine lv_topi (fun v3 ev3 => ?_)
  have hw := hw v3 ev3
  refine lv_istore (lv' := [(7, .int v3), (6, .int v2), (5, .int v1), (0, .ref (ad 29)), (1, .int p1), (2, .int p2), (3, .int p3), (4, .int p4)]) hx hb d_Se_isPreferred_41 hl (by decide) rfl (fun ls hl => ?_)
  refine lv_iload hx hb d_Se_isPreferred_43 (lv_at hl 2 rfl) ?_
  refine lv_iload hx hb d_Se_isPreferred_45 (lv_at hl 1 rfl) ?_
  refine lv_icmp_lt (tgt := 57) hx hb d_Se_isPreferred_47 (by decide) (fun hc => ?_) (fun hc => ?_)
  · have hw := hw.1 hc
    refine lv_iconst (v := 0) hx hb d_Se_isPreferred_57 (by decide) ?_
    exact ke_z (post := (fun r (u : Unit) => post r)) (st := (fun (u : Unit) => wC K ad S ++ X)) (u := ()) C hr d_Se_isPreferred_58 (wn_eq w rfl) (Or.inl rfl) hw
  · have hw := hw.2 hc
    refine lv_iload hx hb d_Se_isPreferred_50 (lv_at hl 2 rfl) ?_
    refine lv_iload hx hb d_Se_isPreferred_52 (lv_at hl 0 rfl) ?_
    refine lv_icmp_le (tgt := 59) hx hb d_Se_isPreferred_54 (by decide) (fun hc => ?_) (fun hc => ?_)
    · have hw := hw.1 hc
      refine lv_iload hx hb d_Se_isPreferred_59 (lv_at hl 2 rfl) ?_
      refine lv_iload hx hb d_Se_isPreferred_61 (lv_at hl 7 rfl) ?_
      refine lv_isub hx hb d_Se_isPreferred_63 ?_
      refine va_mabs hx hb (C.2.2.1.trans hl.1.symm) C.2.2.2.1 (hts _ kw_787) (hts _ kw_645) (hts _ kw_17) (hts _ kw_646) (Nat.le_of_ble_eq_true rfl) (Nat.le_of_ble_eq_true rfl) (Nat.zero_le _) (Nat.zero_le _) d_Se_isPreferred_64 ?_
      refine lv_topi (fun v4 ev4 => ?_)
      have hw := hw v4 ev4
      refine lv_istore (lv' := [(8, .int v4), (7, .int v3), (6, .int v2), (5, .int v1), (0, .ref (ad 29)), (1, .int p1), (2, .int p2), (3, .int p3), (4, .int p4)]) hx hb d_Se_isPreferred_67 hl (by decide) rfl (fun ls hl => ?_)
      refine lv_aload_n hx hb d_Se_isPreferred_69 rfl (lv_at hl 4 rfl) ?_
      refine kg (C1 := R_Se) (T := F_Se) (N := 10) (ci := 7) (ref := "LineBreaker$Search") (v := .ref (ad 31)) C w 29 3 iw_Se rfl rfl (by decide) kw_298 rfl rfl d_Se_isPreferred_70 ?_
      refine kg (C1 := R_No) (T := F_No) (N := 6) (ci := 3) (ref := "LineBreaker$Nodes") (v := .ref (ad 33)) C w 31 1 iw_No rfl rfl (by decide) kw_244 rfl rfl d_Se_isPreferred_73 ?_
      refine lv_iload_n hx hb d_Se_isPreferred_76 rfl (lv_at hl 6 rfl) ?_
      refine ka_i (f := (S.1 33)) C w 33 rfl hw.1 d_Se_isPreferred_77 ?_
      have hw := hw.2
      refine lv_iload hx hb d_Se_isPreferred_78 (lv_at hl 8 rfl) ?_
      refine lv_isub hx hb d_Se_isPreferred_80 ?_
      refine va_mabs hx hb (C.2.2.1.trans hl.1.symm) C.2.2.2.1 (hts _ kw_787) (hts _ kw_645) (hts _ kw_17) (hts _ kw_646) (Nat.le_of_ble_eq_true rfl) (Nat.le_of_ble_eq_true rfl) (Nat.zero_le _) (Nat.zero_le _) d_Se_isPreferred_81 ?_
      refine lv_topi (fun v5 ev5 => ?_)
      have hw := hw v5 ev5
      refine lv_istore (lv' := [(9, .int v5), (8, .int v4), (7, .int v3), (6, .int v2), (5, .int v1), (0, .ref (ad 29)), (1, .int p1), (2, .int p2), (3, .int p3), (4, .int p4)]) hx hb d_Se_isPreferred_84 hl (by decide) rfl (fun ls hl => ?_)
      refine lv_iload hx hb d_Se_isPreferred_86 (lv_at hl 1 rfl) ?_
      refine lv_iload hx hb d_Se_isPreferred_88 (lv_at hl 0 rfl) ?_
      refine lv_icmp_lt (tgt := 112) hx hb d_Se_isPreferred_90 (by decide) (fun hc => ?_) (fun hc => ?_)
      · have hw := hw.1 hc
        refine lv_iconst (v := 1) hx hb d_Se_isPreferred_112 (by decide) ?_
        refine lv_goto (tgt := 117) hx hb d_Se_isPreferred_113 (by decide) ?_
        exact ke_z (post := (fun r (u : Unit) => post r)) (st := (fun (u : Unit) => wC K ad S ++ X)) (u := ()) C hr d_Se_isPreferred_117 (wn_eq w rfl) (Or.inr rfl) hw
      · have hw := hw.2 hc
        refine lv_iload hx hb d_Se_isPreferred_93 (lv_at hl 1 rfl) ?_
        refine lv_iload hx hb d_Se_isPreferred_95 (lv_at hl 0 rfl) ?_
        refine lv_icmp_ne (tgt := 116) hx hb d_Se_isPreferred_97 (by decide) (fun hc => ?_) (fun hc => ?_)
        · have hw := hw.1 hc
          refine lv_iconst (v := 0) hx hb d_Se_isPreferred_116 (by decide) ?_
          exact ke_z (post := (fun r (u : Unit) => post r)) (st := (fun (u : Unit) => wC K ad S ++ X)) (u := ()) C hr d_Se_isPreferred_117 (wn_eq w rfl) (Or.inl rfl) hw
        · have hw := hw.2 hc
          refine lv_aload_n hx hb d_Se_isPreferred_100 rfl (lv_at hl 5 rfl) ?_
          refine kg (C1 := R_Se) (T := F_Se) (N := 10) (ci := 7) (ref := "LineBreaker$Search") (v := .ref (ad 31)) C w 29 3 iw_Se rfl rfl (by decide) kw_298 rfl rfl d_Se_isPreferred_101 ?_
          refine lv_iload_n hx hb d_Se_isPreferred_104 rfl (lv_at hl 6 rfl) ?_
          refine lv_iload_n hx hb d_Se_isPreferred_105 rfl (lv_at hl 7 rfl) ?_
          refine kc_i (st := fun (u : Unit) => wC K ad S ++ X) w (kr_V (y := y_No_isBetter) (C1 := R_No) (T := F_No) (N := 6) (ci := 3) (q0 := 31) (As := [.int p1, .int p2]) (n := 2) C w (c_No_isBetter l n0 G K ad X S p1 p2 _ hw) (gw_V kw_818 kw_819 kw_820 kw_8 kw_821) (by decide +kernel) rfl rfl ⟨Nat.le_of_ble_eq_true rfl, Nat.le_of_ble_eq_true rfl⟩ rfl rfl rfl hl.1 rfl (Nat.le_of_ble_eq_true rfl) d_Se_isPreferred_106 ⟨Nat.le_of_ble_eq_true rfl, Nat.le_of_ble_eq_true rfl⟩) (fun r6 u H locs hw w => ?_)
          refine lv_if_eq (tgt := 116) hx hb d_Se_isPreferred_109 (by decide) (fun hc => ?_) (fun hc => ?_)
          · have hw := hw.1 hc
            refine lv_iconst (v := 0) hx hb d_Se_isPreferred_116 (by decide) ?_
            exact ke_z (post := (fun r (u : Unit) => post r)) (st := (fun (u : Unit) => wC K ad S ++ X)) (u := ()) C hr d_Se_isPreferred_117 (wn_eq w rfl) (Or.inl rfl) hw
          · have hw := hw.2 hc
            refine lv_iconst (v := 1) hx hb d_Se_isPreferred_112 (by decide) ?_
            refine lv_goto (tgt := 117) hx hb d_Se_isPreferred_113 (by decide) ?_
            exact ke_z (post := (fun r (u : Unit) => post r)) (st := (fun (u : Unit) => wC K ad S ++ X)) (u := ()) C hr d_Se_isPreferred_117 (wn_eq w rfl) (Or.inr rfl) hw
    · have hw := hw.2 hc
      refine lv_iconst (v := 0) hx hb d_Se_isPreferred_57 (by decide) ?_
      exact ke_z (post := (fun r (u : Unit) => post r)) (st := (fun (u : Unit) => wC K ad S ++ X)) (u := ()) C hr d_Se_isPreferred_58 (wn_eq w rfl) (Or.inl rfl) hw
set_option maxHeartbeats 4000000 in
set_option maxRecDepth 100000 in
theorem w_Se_choose_81 {S : ST} {post : Int32 → Prop} (C : cx p s m args meth c prog_9_method_8_code 5 "LineBreaker$Search" n0 G K) (hr : meth.sig.returnType = (some .int)) : ∀ (n : Nat) (x1 : Int32) (x2 : Int32) (x3 : Int32) (x4 : Int32), wl_Se_choose_81 S post n x1 x2 x3 x4 → ∀ (H : Heap) (locs : List Loc) (ls : Array Slot), wn n0 G (wC K ad S ++ X) s H locs → lv_has ls 5 [(0, .ref (ad 29)), (1, .int x1), (2, .int x2), (3, .int x3), (4, .int x4)] → W p l e rm_Se_choose s m args below meth c H locs 0 0 (MQ below (va_Qi (fun r (u : Unit) => post r) (fun (u : Unit) t => we n0 G (wC K ad S ++ X) t) (al n0)) args s 0 0 (al n0)) (F0 m 81 ls []) := by
  have hx := C.1
  have hb := C.2.1
  have hts := C.2.2.2.2.1
  intro n
  induction n with
  | zero =>
    intro x1 x2 x3 x4 hw
    unfold wl_Se_choose_81 at hw
    exact hw.elim
  | succ n ih =>
    intro x1 x2 x3 x4 hw H locs ls w hl
    unfold wl_Se_choose_81 at hw
    refine lv_iload hx hb d_Se_choose_81 (lv_at hl 4 rfl) ?_
    refine lv_aload_n hx hb d_Se_choose_83 rfl (lv_at hl 0 rfl) ?_
    refine kg (C1 := R_Se) (T := F_Se) (N := 10) (ci := 7) (ref := "LineBreaker$Search") (v := .ref (ad 31)) C w 29 3 iw_Se rfl rfl (by decide) kw_298 rfl rfl d_Se_choose_84 ?_
    refine kg (C1 := R_No) (T := F_No) (N := 6) (ci := 3) (ref := "LineBreaker$Nodes") (v := .int (S.2.2 1989)) C w 31 5 iw_No rfl rfl (by decide) kw_259 rfl rfl d_Se_choose_87 ?_
    refine lv_icmp_ge (tgt := 114) hx hb d_Se_choose_90 (by decide) (fun hc => ?_) (fun hc => ?_)
    · have hw := hw.1 hc
      refine lv_aload_n hx hb d_Se_choose_114 rfl (lv_at hl 0 rfl) ?_
      refine kg (C1 := R_Se) (T := F_Se) (N := 10) (ci := 7) (ref := "LineBreaker$Search") (v := .int (S.2.2 1865)) C w 29 9 iw_Se rfl rfl (by decide) kw_305 rfl rfl d_Se_choose_115 ?_
      refine lv_if_ne (tgt := 134) hx hb d_Se_choose_118 (by decide) (fun hc => ?_) (fun hc => ?_)
      · have hw := hw.1 hc
        refine lv_iload_n hx hb d_Se_choose_134 rfl (lv_at hl 3 rfl) ?_
        refine lv_goto (tgt := 139) hx hb d_Se_choose_135 (by decide) ?_
        exact ke_i (post := (fun r (u : Unit) => post r)) (st := (fun (u : Unit) => wC K ad S ++ X)) (u := ()) C hr d_Se_choose_139 (wn_eq w rfl) hw
      · have hw := hw.2 hc
        refine lv_aload_n hx hb d_Se_choose_121 rfl (lv_at hl 0 rfl) ?_
        refine kg (C1 := R_Se) (T := F_Se) (N := 10) (ci := 7) (ref := "LineBreaker$Search") (v := .ref (ad 31)) C w 29 3 iw_Se rfl rfl (by decide) kw_298 rfl rfl d_Se_choose_122 ?_
        refine kg (C1 := R_No) (T := F_No) (N := 6) (ci := 3) (ref := "LineBreaker$Nodes") (v := .ref (ad 33)) C w 31 1 iw_No rfl rfl (by decide) kw_244 rfl rfl d_Se_choose_125 ?_
        refine lv_iload_n hx hb d_Se_choose_128 rfl (lv_at hl 3 rfl) ?_
        refine ka_i (f := (S.1 33)) C w 33 rfl hw.1 d_Se_choose_129 ?_
        have hw := hw.2
        refine lv_iload_n hx hb d_Se_choose_130 rfl (lv_at hl 2 rfl) ?_
        refine lv_icmp_ne (tgt := 138) hx hb d_Se_choose_131 (by decide) (fun hc => ?_) (fun hc => ?_)
        · have hw := hw.1 hc
          refine lv_iconst (v := 0) hx hb d_Se_choose_138 (by decide) ?_
          exact ke_i (post := (fun r (u : Unit) => post r)) (st := (fun (u : Unit) => wC K ad S ++ X)) (u := ()) C hr d_Se_choose_139 (wn_eq w rfl) hw
        · have hw := hw.2 hc
          refine lv_iload_n hx hb d_Se_choose_134 rfl (lv_at hl 3 rfl) ?_
          refine lv_goto (tgt := 139) hx hb d_Se_choose_135 (by decide) ?_
          exact ke_i (post := (fun r (u : Unit) => post r)) (st := (fun (u : Unit) => wC K ad S ++ X)) (u := ()) C hr d_Se_choose_139 (wn_eq w rfl) hw
    · have hw := hw.2 hc
      refine lv_aload_n hx hb d_Se_choose_93 rfl (lv_at hl 0 rfl) ?_
      refine lv_iload hx hb d_Se_choose_94 (lv_at hl 4 rfl) ?_
      refine lv_iload_n hx hb d_Se_choose_96 rfl (lv_at hl 3 rfl) ?_
      refine lv_iload_n hx hb d_Se_choose_97 rfl (lv_at hl 1 rfl) ?_
      refine lv_iload_n hx hb d_Se_choose_98 rfl (lv_at hl 2 rfl) ?_
      refine kc_i (st := fun (u : Unit) => wC K ad S ++ X) w (kr_V (y := y_Se_isPreferred) (C1 := R_Se) (T := F_Se) (N := 10) (ci := 7) (q0 := 29) (As := [.int x4, .int x3, .int x1, .int x2]) (n := 4) C w (c_Se_isPreferred l n0 G K ad X S x4 x3 x1 x2 _ hw) (gw_V kw_822 kw_824 kp_17 kw_6 kw_825) (by decide +kernel) rfl rfl ⟨Nat.le_of_ble_eq_true rfl, Nat.le_of_ble_eq_true rfl⟩ rfl rfl rfl hl.1 rfl (Nat.le_of_ble_eq_true rfl) d_Se_choose_99 ⟨Nat.le_of_ble_eq_true rfl, Nat.le_of_ble_eq_true rfl⟩) (fun r1 u H locs hw w => ?_)
      refine lv_if_eq (tgt := 108) hx hb d_Se_choose_102 (by decide) (fun hc => ?_) (fun hc => ?_)
      · have hw := hw.1 hc
        obtain ⟨v2, ev2⟩ : ∃ y : Int32, y = x4 + 1 := ⟨_, rfl⟩
        refine lv_iinc (v := v2) (lv' := [(4, .int v2), (0, .ref (ad 29)), (1, .int x1), (2, .int x2), (3, .int x3)]) hx hb d_Se_choose_108 hl (k := 4) rfl (by rw [ev2]; rfl) (by decide) rfl (fun ls hl => ?_)
        have hw := hw v2 ev2
        refine lv_goto (tgt := 81) hx hb d_Se_choose_111 (by decide) ?_
        exact ih x1 x2 x3 v2 hw _ _ _ (wn_eq w rfl) (lv_sub hl [1, 2, 3, 4, 0] rfl)
      · have hw := hw.2 hc
        refine lv_iload hx hb d_Se_choose_105 (lv_at hl 4 rfl) ?_
        refine lv_istore_n (lv' := [(3, .int x4), (0, .ref (ad 29)), (1, .int x1), (2, .int x2), (4, .int x4)]) hx hb d_Se_choose_107 rfl hl (by decide) rfl (fun ls hl => ?_)
        obtain ⟨v3, ev3⟩ : ∃ y : Int32, y = x4 + 1 := ⟨_, rfl⟩
        refine lv_iinc (v := v3) (lv' := [(4, .int v3), (3, .int x4), (0, .ref (ad 29)), (1, .int x1), (2, .int x2)]) hx hb d_Se_choose_108 hl (k := 4) rfl (by rw [ev3]; rfl) (by decide) rfl (fun ls hl => ?_)
        have hw := hw v3 ev3
        refine lv_goto (tgt := 81) hx hb d_Se_choose_111 (by decide) ?_
        exact ih x1 x2 x4 v3 hw _ _ _ (wn_eq w rfl) (lv_sub hl [2, 3, 4, 1, 0] rfl)
set_option maxHeartbeats 4000000 in
set_option maxRecDepth 100000 in
theorem w_Se_choose_21 {S : ST} {post : Int32 → Prop} (C : cx p s m args meth c prog_9_method_8_code 5 "LineBreaker$Search" n0 G K) (hr : meth.sig.returnType = (some .int)) : ∀ (n : Nat) (x1 : Int32) (x2 : Int32), wl_Se_choose_21 S post n x1 x2 → ∀ (H : Heap) (locs : List Loc) (ls : Array Slot), wn n0 G (wC K ad S ++ X) s H locs → lv_has ls 5 [(0, .ref (ad 29)), (1, .int x1), (2, .int x2)] → W p l e rm_Se_choose s m args below meth c H locs 0 0 (MQ below (va_Qi (fun r (u : Unit) => post r) (fun (u : Unit) t => we n0 G (wC K ad S ++ X) t) (al n0)) args s 0 0 (al n0)) (F0 m 21 ls []) := by
  have hx := C.1
  have hb := C.2.1
  have hts := C.2.2.2.2.1
  intro n
  induction n with
  | zero =>
    intro x1 x2 hw
    unfold wl_Se_choose_21 at hw
    exact hw.elim
  | succ n ih =>
    intro x1 x2 hw H locs ls w hl
    unfold wl_Se_choose_21 at hw
    refine lv_iload_n hx hb d_Se_choose_21 rfl (lv_at hl 2 rfl) ?_
    refine lv_aload_n hx hb d_Se_choose_22 rfl (lv_at hl 0 rfl) ?_
    refine kg (C1 := R_Se) (T := F_Se) (N := 10) (ci := 7) (ref := "LineBreaker$Search") (v := .ref (ad 31)) C w 29 3 iw_Se rfl rfl (by decide) kw_298 rfl rfl d_Se_choose_23 ?_
    refine kg (C1 := R_No) (T := F_No) (N := 6) (ci := 3) (ref := "LineBreaker$Nodes") (v := .int (S.2.2 1989)) C w 31 5 iw_No rfl rfl (by decide) kw_259 rfl rfl d_Se_choose_26 ?_
    refine lv_icmp_ge (tgt := 52) hx hb d_Se_choose_29 (by decide) (fun hc => ?_) (fun hc => ?_)
    · have hw := hw.1 hc
      refine lv_aload_n hx hb d_Se_choose_52 rfl (lv_at hl 0 rfl) ?_
      refine kg (C1 := R_Se) (T := F_Se) (N := 10) (ci := 7) (ref := "LineBreaker$Search") (v := .ref (ad 31)) C w 29 3 iw_Se rfl rfl (by decide) kw_298 rfl rfl d_Se_choose_53 ?_
      refine kg (C1 := R_No) (T := F_No) (N := 6) (ci := 3) (ref := "LineBreaker$Nodes") (v := .ref (ad 33)) C w 31 1 iw_No rfl rfl (by decide) kw_244 rfl rfl d_Se_choose_56 ?_
      refine lv_iload_n hx hb d_Se_choose_59 rfl (lv_at hl 1 rfl) ?_
      refine ka_i (f := (S.1 33)) C w 33 rfl hw.1 d_Se_choose_60 ?_
      have hw := hw.2
      refine lv_aload_n hx hb d_Se_choose_61 rfl (lv_at hl 0 rfl) ?_
      refine kg (C1 := R_Se) (T := F_Se) (N := 10) (ci := 7) (ref := "LineBreaker$Search") (v := .ref (ad 11)) C w 29 1 iw_Se rfl rfl (by decide) kw_295 rfl rfl d_Se_choose_62 ?_
      refine kg (C1 := R_St) (T := F_St) (N := 5) (ci := 8) (ref := "LineBreaker$Settings") (v := .ref (ad 12)) C w 11 0 iw_St rfl rfl (by decide) kw_111 rfl rfl d_Se_choose_65 ?_
      refine lv_bipush (v := 9) hx hb d_Se_choose_68 (by decide) ?_
      refine ka_i (f := (S.1 12)) C w 12 rfl hw.1 d_Se_choose_70 ?_
      have hw := hw.2
      refine lv_iadd hx hb d_Se_choose_71 ?_
      refine lv_topi (fun v1 ev1 => ?_)
      have hw := hw v1 ev1
      refine lv_istore_n (lv' := [(2, .int v1), (0, .ref (ad 29)), (1, .int x1)]) hx hb d_Se_choose_72 rfl hl (by decide) rfl (fun ls hl => ?_)
      refine lv_iload_n hx hb d_Se_choose_73 rfl (lv_at hl 2 rfl) ?_
      refine lv_istore_n (lv' := [(3, .int x1), (2, .int v1), (0, .ref (ad 29)), (1, .int x1)]) hx hb d_Se_choose_74 rfl hl (by decide) rfl (fun ls hl => ?_)
      refine lv_aload_n hx hb d_Se_choose_75 rfl (lv_at hl 2 rfl) ?_
      refine kg (C1 := R_Se) (T := F_Se) (N := 10) (ci := 7) (ref := "LineBreaker$Search") (v := .int (S.2.2 1863)) C w 29 7 iw_Se rfl rfl (by decide) kw_303 rfl rfl d_Se_choose_76 ?_
      refine lv_topi (fun v2 ev2 => ?_)
      have hw := hw v2 ev2
      refine lv_istore (lv' := [(4, .int v2), (3, .int x1), (2, .int v1), (0, .ref (ad 29)), (1, .int x1)]) hx hb d_Se_choose_79 hl (by decide) rfl (fun ls hl => ?_)
      obtain ⟨n9, hw⟩ := hw
      exact w_Se_choose_81 C hr  n9 x1 v1 x1 v2 hw _ _ _ (wn_eq w rfl) (lv_sub hl [3, 4, 2, 1, 0] rfl)
    · have hw := hw.2 hc
      refine lv_aload_n hx hb d_Se_choose_32 rfl (lv_at hl 0 rfl) ?_
      refine kg (C1 := R_Se) (T := F_Se) (N := 10) (ci := 7) (ref := "LineBreaker$Search") (v := .ref (ad 31)) C w 29 3 iw_Se rfl rfl (by decide) kw_298 rfl rfl d_Se_choose_33 ?_
      refine lv_iload_n hx hb d_Se_choose_36 rfl (lv_at hl 2 rfl) ?_
      refine lv_iload_n hx hb d_Se_choose_37 rfl (lv_at hl 1 rfl) ?_
      refine kc_i (st := fun (u : Unit) => wC K ad S ++ X) w (kr_V (y := y_No_isBetter) (C1 := R_No) (T := F_No) (N := 6) (ci := 3) (q0 := 31) (As := [.int x2, .int x1]) (n := 2) C w (c_No_isBetter l n0 G K ad X S x2 x1 _ hw) (gw_V kw_818 kw_819 kw_820 kw_8 kw_821) (by decide +kernel) rfl rfl ⟨Nat.le_of_ble_eq_true rfl, Nat.le_of_ble_eq_true rfl⟩ rfl rfl rfl hl.1 rfl (Nat.le_of_ble_eq_true rfl) d_Se_choose_38 ⟨Nat.le_of_ble_eq_true rfl, Nat.le_of_ble_eq_true rfl⟩) (fun r3 u H locs hw w => ?_)
      refine lv_if_eq (tgt := 46) hx hb d_Se_choose_41 (by decide) (fun hc => ?_) (fun hc => ?_)
      · have hw := hw.1 hc
        obtain ⟨v4, ev4⟩ : ∃ y : Int32, y = x2 + 1 := ⟨_, rfl⟩
        refine lv_iinc (v := v4) (lv' := [(2, .int v4), (0, .ref (ad 29)), (1, .int x1)]) hx hb d_Se_choose_46 hl (k := 2) rfl (by rw [ev4]; rfl) (by decide) rfl (fun ls hl => ?_)
        have hw := hw v4 ev4
        refine lv_goto (tgt := 21) hx hb d_Se_choose_49 (by decide) ?_
        exact ih x1 v4 hw _ _ _ (wn_eq w rfl) (lv_sub hl [1, 2, 0] rfl)
      · have hw := hw.2 hc
        refine lv_iload_n hx hb d_Se_choose_44 rfl (lv_at hl 2 rfl) ?_
        refine lv_istore_n (lv' := [(1, .int x2), (0, .ref (ad 29)), (2, .int x2)]) hx hb d_Se_choose_45 rfl hl (by decide) rfl (fun ls hl => ?_)
        obtain ⟨v5, ev5⟩ : ∃ y : Int32, y = x2 + 1 := ⟨_, rfl⟩
        refine lv_iinc (v := v5) (lv' := [(2, .int v5), (1, .int x2), (0, .ref (ad 29))]) hx hb d_Se_choose_46 hl (k := 2) rfl (by rw [ev5]; rfl) (by decide) rfl (fun ls hl => ?_)
        have hw := hw v5 ev5
        refine lv_goto (tgt := 21) hx hb d_Se_choose_49 (by decide) ?_
        exact ih x2 v5 hw _ _ _ (wn_eq w rfl) (lv_sub hl [2, 1, 0] rfl)
set_option maxHeartbeats 4000000 in
set_option maxRecDepth 100000 in
theorem c_Se_choose (l : Launch) (n0 : Nat) (G : va_G) (K : KT) (ad : Nat → Nat) (X : va_W) (S : ST) (post : Int32 → Prop) (hw : wp_Se_choose S  post) : Met l y_Se_choose (Cond.code y_Se_choose prog_9_method_8_code 5 (some .int) :: gw) rm_Se_choose (va_Pc [.ref (ad 29)] (wb n0 G K (wC K ad S ++ X))) (va_Qi (fun r (u : Unit) => post r) (fun (u : Unit) t => we n0 G (wC K ad S ++ X) t) (al n0)) 0 0 (al n0) := by
  refine kb_start (own := "LineBreaker$Search") (by decide +kernel) rfl ?_
  intro p e s m below meth c C hr hnm w
  have hx := C.1
  have hb := C.2.1
  have hts := C.2.2.2.2.1
  have hl := lv_entry ([.ref (ad 29)]) (n := 5) (Nat.le_of_ble_eq_true rfl)
  rw [lg_entry_eq]
  generalize (lg_sl ([.ref (ad 29)]) ++ List.replicate (5 - (lg_sl ([.ref (ad 29)])).length) Slot.unset).toArray = ls at hl ⊢
  have hl : lv_has ls 5 [(0, .ref (ad 29))] := hl
  unfold wp_Se_choose at hw
  refine lv_aload_n hx hb d_Se_choose_0 rfl (lv_at hl 0 rfl) ?_
  refine kg (C1 := R_Se) (T := F_Se) (N := 10) (ci := 7) (ref := "LineBreaker$Search") (v := .int (S.2.2 1862)) C w 29 6 iw_Se rfl rfl (by decide) kw_302 rfl rfl d_Se_choose_1 ?_
  refine lv_if_ne (tgt := 9) hx hb d_Se_choose_4 (by decide) (fun hc => ?_) (fun hc => ?_)
  · have hw := hw.1 hc
    refine lv_aload_n hx hb d_Se_choose_9 rfl (lv_at hl 0 rfl) ?_
    refine kg (C1 := R_Se) (T := F_Se) (N := 10) (ci := 7) (ref := "LineBreaker$Search") (v := .int (S.2.2 1863)) C w 29 7 iw_Se rfl rfl (by decide) kw_303 rfl rfl d_Se_choose_10 ?_
    refine lv_topi (fun v1 ev1 => ?_)
    have hw := hw v1 ev1
    refine lv_istore_n (lv' := [(1, .int v1), (0, .ref (ad 29))]) hx hb d_Se_choose_13 rfl hl (by decide) rfl (fun ls hl => ?_)
    refine lv_aload_n hx hb d_Se_choose_14 rfl (lv_at hl 1 rfl) ?_
    refine kg (C1 := R_Se) (T := F_Se) (N := 10) (ci := 7) (ref := "LineBreaker$Search") (v := .int (S.2.2 1863)) C w 29 7 iw_Se rfl rfl (by decide) kw_303 rfl rfl d_Se_choose_15 ?_
    refine lv_iconst (v := 1) hx hb d_Se_choose_18 (by decide) ?_
    refine lv_iadd hx hb d_Se_choose_19 ?_
    refine lv_topi (fun v2 ev2 => ?_)
    have hw := hw v2 ev2
    refine lv_istore_n (lv' := [(2, .int v2), (1, .int v1), (0, .ref (ad 29))]) hx hb d_Se_choose_20 rfl hl (by decide) rfl (fun ls hl => ?_)
    obtain ⟨n9, hw⟩ := hw
    exact w_Se_choose_21 C hr  n9 v1 v2 hw _ _ _ (wn_eq w rfl) (lv_sub hl [2, 1, 0] rfl)
  · have hw := hw.2 hc
    refine lv_iconst (v := 0) hx hb d_Se_choose_7 (by decide) ?_
    exact ke_i (post := (fun r (u : Unit) => post r)) (st := (fun (u : Unit) => wC K ad S ++ X)) (u := ()) C hr d_Se_choose_8 (wn_eq w rfl) hw
set_option maxHeartbeats 4000000 in
set_option maxRecDepth 100000 in
theorem w_Se_run_137 {S : ST} {post : Int32 → (Nat → Int32) → (Nat → Int32) → (Nat → Int32) → (Nat → Int32) → (Nat → Int32) → (Nat → Int32) → (Nat → Int64) → (Nat → Int64) → Int32 → Int32 → Int32 → Int32 → Int32 → Int32 → Int32 → Int32 → Int32 → Int32 → Int32 → Int32 → Int32 → Int32 → Prop} (C : cx p s m args meth c prog_9_method_2_code 4 "LineBreaker$Search" n0 G K) (hr : meth.sig.returnType = (some .int)) : ∀ (a32 : (Nat → Int32)) (a33 : (Nat → Int32)) (a34 : (Nat → Int32)) (a35 : (Nat → Int32)) (a39 : (Nat → Int32)) (a40 : (Nat → Int32)) (l36 : (Nat → Int64)) (l38 : (Nat → Int64)) (i1862 : Int32) (i1863 : Int32) (i1864 : Int32) (i1865 : Int32) (i1922 : Int32) (i1923 : Int32) (i1924 : Int32) (i1925 : Int32) (i1926 : Int32) (i1927 : Int32) (i1928 : Int32) (i1989 : Int32) (i2370 : Int32) (i2371 : Int32), wl_Se_run_137 S post a32 a33 a34 a35 a39 a40 l36 l38 i1862 i1863 i1864 i1865 i1922 i1923 i1924 i1925 i1926 i1927 i1928 i1989 i2370 i2371 → ∀ (H : Heap) (locs : List Loc) (ls : Array Slot), wn n0 G (wC K ad (sI (sI (sI (sI (sI (sI (sI (sI (sI (sI (sI (sI (sI (sI (sL (sL (sA (sA (sA (sA (sA (sA S 32 a32) 33 a33) 34 a34) 35 a35) 39 a39) 40 a40) 36 l36) 38 l38) 1862 i1862) 1863 i1863) 1864 i1864) 1865 i1865) 1922 i1922) 1923 i1923) 1924 i1924) 1925 i1925) 1926 i1926) 1927 i1927) 1928 i1928) 1989 i1989) 2370 i2370) 2371 i2371) ++ X) s H locs → lv_has ls 4 [(0, .ref (ad 29))] → W p l e rm_Se_run s m args below meth c H locs 0 0 (MQ below (va_Qi (fun r (u : (Nat → Int32) × (Nat → Int32) × (Nat → Int32) × (Nat → Int32) × (Nat → Int32) × (Nat → Int32) × (Nat → Int64) × (Nat → Int64) × Int32 × Int32 × Int32 × Int32 × Int32 × Int32 × Int32 × Int32 × Int32 × Int32 × Int32 × Int32 × Int32 × Int32) => post r u.1 u.2.1 u.2.2.1 u.2.2.2.1 u.2.2.2.2.1 u.2.2.2.2.2.1 u.2.2.2.2.2.2.1 u.2.2.2.2.2.2.2.1 u.2.2.2.2.2.2.2.2.1 u.2.2.2.2.2.2.2.2.2.1 u.2.2.2.2.2.2.2.2.2.2.1 u.2.2.2.2.2.2.2.2.2.2.2.1 u.2.2.2.2.2.2.2.2.2.2.2.2.1 u.2.2.2.2.2.2.2.2.2.2.2.2.2.1 u.2.2.2.2.2.2.2.2.2.2.2.2.2.2.1 u.2.2.2.2.2.2.2.2.2.2.2.2.2.2.2.1 u.2.2.2.2.2.2.2.2.2.2.2.2.2.2.2.2.1 u.2.2.2.2.2.2.2.2.2.2.2.2.2.2.2.2.2.1 u.2.2.2.2.2.2.2.2.2.2.2.2.2.2.2.2.2.2.1 u.2.2.2.2.2.2.2.2.2.2.2.2.2.2.2.2.2.2.2.1 u.2.2.2.2.2.2.2.2.2.2.2.2.2.2.2.2.2.2.2.2.1 u.2.2.2.2.2.2.2.2.2.2.2.2.2.2.2.2.2.2.2.2.2) (fun (u : (Nat → Int32) × (Nat → Int32) × (Nat → Int32) × (Nat → Int32) × (Nat → Int32) × (Nat → Int32) × (Nat → Int64) × (Nat → Int64) × Int32 × Int32 × Int32 × Int32 × Int32 × Int32 × Int32 × Int32 × Int32 × Int32 × Int32 × Int32 × Int32 × Int32) t => we n0 G (wC K ad (sI (sI (sI (sI (sI (sI (sI (sI (sI (sI (sI (sI (sI (sI (sL (sL (sA (sA (sA (sA (sA (sA S 32 u.1) 33 u.2.1) 34 u.2.2.1) 35 u.2.2.2.1) 39 u.2.2.2.2.1) 40 u.2.2.2.2.2.1) 36 u.2.2.2.2.2.2.1) 38 u.2.2.2.2.2.2.2.1) 1862 u.2.2.2.2.2.2.2.2.1) 1863 u.2.2.2.2.2.2.2.2.2.1) 1864 u.2.2.2.2.2.2.2.2.2.2.1) 1865 u.2.2.2.2.2.2.2.2.2.2.2.1) 1922 u.2.2.2.2.2.2.2.2.2.2.2.2.1) 1923 u.2.2.2.2.2.2.2.2.2.2.2.2.2.1) 1924 u.2.2.2.2.2.2.2.2.2.2.2.2.2.2.1) 1925 u.2.2.2.2.2.2.2.2.2.2.2.2.2.2.2.1) 1926 u.2.2.2.2.2.2.2.2.2.2.2.2.2.2.2.2.1) 1927 u.2.2.2.2.2.2.2.2.2.2.2.2.2.2.2.2.2.1) 1928 u.2.2.2.2.2.2.2.2.2.2.2.2.2.2.2.2.2.2.1) 1989 u.2.2.2.2.2.2.2.2.2.2.2.2.2.2.2.2.2.2.2.1) 2370 u.2.2.2.2.2.2.2.2.2.2.2.2.2.2.2.2.2.2.2.2.1) 2371 u.2.2.2.2.2.2.2.2.2.2.2.2.2.2.2.2.2.2.2.2.2) ++ X) t) (al n0)) args s 0 0 (al n0)) (F0 m 137 ls []) := by
  have hx := C.1
  have hb := C.2.1
  have hts := C.2.2.2.2.1
  intro a32 a33 a34 a35 a39 a40 l36 l38 i1862 i1863 i1864 i1865 i1922 i1923 i1924 i1925 i1926 i1927 i1928 i1989 i2370 i2371 hw H locs ls w hl
  unfold wl_Se_run_137 at hw
  refine lv_aload_n hx hb d_Se_run_137 rfl (lv_at hl 0 rfl) ?_
  refine kc_i (st := fun (u : Unit) => wC K ad (sI (sI (sI (sI (sI (sI (sI (sI (sI (sI (sI (sI (sI (sI (sL (sL (sA (sA (sA (sA (sA (sA S 32 a32) 33 a33) 34 a34) 35 a35) 39 a39) 40 a40) 36 l36) 38 l38) 1862 i1862) 1863 i1863) 1864 i1864) 1865 i1865) 1922 i1922) 1923 i1923) 1924 i1924) 1925 i1925) 1926 i1926) 1927 i1927) 1928 i1928) 1989 i1989) 2370 i2370) 2371 i2371) ++ X) w (kr_V (y := y_Se_choose) (C1 := R_Se) (T := F_Se) (N := 10) (ci := 7) (q0 := 29) (As := []) (n := 0) C w (c_Se_choose l n0 G K ad X (sI (sI (sI (sI (sI (sI (sI (sI (sI (sI (sI (sI (sI (sI (sL (sL (sA (sA (sA (sA (sA (sA S 32 a32) 33 a33) 34 a34) 35 a35) 39 a39) 40 a40) 36 l36) 38 l38) 1862 i1862) 1863 i1863) 1864 i1864) 1865 i1865) 1922 i1922) 1923 i1923) 1924 i1924) 1925 i1925) 1926 i1926) 1927 i1927) 1928 i1928) 1989 i1989) 2370 i2370) 2371 i2371)  _ hw) (gw_V kw_814 kw_816 kp_16 kw_6 kw_817) (by decide +kernel) rfl rfl ⟨Nat.le_of_ble_eq_true rfl, Nat.le_of_ble_eq_true rfl⟩ rfl rfl rfl hl.1 rfl (Nat.le_of_ble_eq_true rfl) d_Se_run_138 ⟨Nat.le_of_ble_eq_true rfl, Nat.le_of_ble_eq_true rfl⟩) (fun r1 u H locs hw w => ?_)
  exact ke_i (post := (fun r (u : (Nat → Int32) × (Nat → Int32) × (Nat → Int32) × (Nat → Int32) × (Nat → Int32) × (Nat → Int32) × (Nat → Int64) × (Nat → Int64) × Int32 × Int32 × Int32 × Int32 × Int32 × Int32 × Int32 × Int32 × Int32 × Int32 × Int32 × Int32 × Int32 × Int32) => post r u.1 u.2.1 u.2.2.1 u.2.2.2.1 u.2.2.2.2.1 u.2.2.2.2.2.1 u.2.2.2.2.2.2.1 u.2.2.2.2.2.2.2.1 u.2.2.2.2.2.2.2.2.1 u.2.2.2.2.2.2.2.2.2.1 u.2.2.2.2.2.2.2.2.2.2.1 u.2.2.2.2.2.2.2.2.2.2.2.1 u.2.2.2.2.2.2.2.2.2.2.2.2.1 u.2.2.2.2.2.2.2.2.2.2.2.2.2.1 u.2.2.2.2.2.2.2.2.2.2.2.2.2.2.1 u.2.2.2.2.2.2.2.2.2.2.2.2.2.2.2.1 u.2.2.2.2.2.2.2.2.2.2.2.2.2.2.2.2.1 u.2.2.2.2.2.2.2.2.2.2.2.2.2.2.2.2.2.1 u.2.2.2.2.2.2.2.2.2.2.2.2.2.2.2.2.2.2.1 u.2.2.2.2.2.2.2.2.2.2.2.2.2.2.2.2.2.2.2.1 u.2.2.2.2.2.2.2.2.2.2.2.2.2.2.2.2.2.2.2.2.1 u.2.2.2.2.2.2.2.2.2.2.2.2.2.2.2.2.2.2.2.2.2)) (st := (fun (u : (Nat → Int32) × (Nat → Int32) × (Nat → Int32) × (Nat → Int32) × (Nat → Int32) × (Nat → Int32) × (Nat → Int64) × (Nat → Int64) × Int32 × Int32 × Int32 × Int32 × Int32 × Int32 × Int32 × Int32 × Int32 × Int32 × Int32 × Int32 × Int32 × Int32) => wC K ad (sI (sI (sI (sI (sI (sI (sI (sI (sI (sI (sI (sI (sI (sI (sL (sL (sA (sA (sA (sA (sA (sA S 32 u.1) 33 u.2.1) 34 u.2.2.1) 35 u.2.2.2.1) 39 u.2.2.2.2.1) 40 u.2.2.2.2.2.1) 36 u.2.2.2.2.2.2.1) 38 u.2.2.2.2.2.2.2.1) 1862 u.2.2.2.2.2.2.2.2.1) 1863 u.2.2.2.2.2.2.2.2.2.1) 1864 u.2.2.2.2.2.2.2.2.2.2.1) 1865 u.2.2.2.2.2.2.2.2.2.2.2.1) 1922 u.2.2.2.2.2.2.2.2.2.2.2.2.1) 1923 u.2.2.2.2.2.2.2.2.2.2.2.2.2.1) 1924 u.2.2.2.2.2.2.2.2.2.2.2.2.2.2.1) 1925 u.2.2.2.2.2.2.2.2.2.2.2.2.2.2.2.1) 1926 u.2.2.2.2.2.2.2.2.2.2.2.2.2.2.2.2.1) 1927 u.2.2.2.2.2.2.2.2.2.2.2.2.2.2.2.2.2.1) 1928 u.2.2.2.2.2.2.2.2.2.2.2.2.2.2.2.2.2.2.1) 1989 u.2.2.2.2.2.2.2.2.2.2.2.2.2.2.2.2.2.2.2.1) 2370 u.2.2.2.2.2.2.2.2.2.2.2.2.2.2.2.2.2.2.2.2.1) 2371 u.2.2.2.2.2.2.2.2.2.2.2.2.2.2.2.2.2.2.2.2.2) ++ X)) (u := (a32, a33, a34, a35, a39, a40, l36, l38, i1862, i1863, i1864, i1865, i1922, i1923, i1924, i1925, i1926, i1927, i1928, i1989, i2370, i2371)) C hr d_Se_run_141 (wn_eq w rfl) hw
set_option maxHeartbeats 4000000 in
set_option maxRecDepth 100000 in
theorem w_Se_run_114 {S : ST} {post : Int32 → (Nat → Int32) → (Nat → Int32) → (Nat → Int32) → (Nat → Int32) → (Nat → Int32) → (Nat → Int32) → (Nat → Int64) → (Nat → Int64) → Int32 → Int32 → Int32 → Int32 → Int32 → Int32 → Int32 → Int32 → Int32 → Int32 → Int32 → Int32 → Int32 → Int32 → Prop} (C : cx p s m args meth c prog_9_method_2_code 4 "LineBreaker$Search" n0 G K) (hr : meth.sig.returnType = (some .int)) {K81 : (Nat → Int32) → (Nat → Int32) → (Nat → Int32) → (Nat → Int32) → (Nat → Int32) → (Nat → Int32) → (Nat → Int64) → (Nat → Int64) → Int32 → Int32 → Int32 → Int32 → Int32 → Int32 → Int32 → Int32 → Int32 → Int32 → Int32 → Int32 → Int32 → Int32 → Int32 → Int32 → Prop} (hk81 : ∀ (a32 : (Nat → Int32)) (a33 : (Nat → Int32)) (a34 : (Nat → Int32)) (a35 : (Nat → Int32)) (a39 : (Nat → Int32)) (a40 : (Nat → Int32)) (l36 : (Nat → Int64)) (l38 : (Nat → Int64)) (i1862 : Int32) (i1863 : Int32) (i1864 : Int32) (i1865 : Int32) (i1922 : Int32) (i1923 : Int32) (i1924 : Int32) (i1925 : Int32) (i1926 : Int32) (i1927 : Int32) (i1928 : Int32) (i1989 : Int32) (i2370 : Int32) (i2371 : Int32) (x1 : Int32) (x3 : Int32), K81 a32 a33 a34 a35 a39 a40 l36 l38 i1862 i1863 i1864 i1865 i1922 i1923 i1924 i1925 i1926 i1927 i1928 i1989 i2370 i2371 x1 x3 → ∀ (H : Heap) (locs : List Loc) (ls : Array Slot), wn n0 G (wC K ad (sI (sI (sI (sI (sI (sI (sI (sI (sI (sI (sI (sI (sI (sI (sL (sL (sA (sA (sA (sA (sA (sA S 32 a32) 33 a33) 34 a34) 35 a35) 39 a39) 40 a40) 36 l36) 38 l38) 1862 i1862) 1863 i1863) 1864 i1864) 1865 i1865) 1922 i1922) 1923 i1923) 1924 i1924) 1925 i1925) 1926 i1926) 1927 i1927) 1928 i1928) 1989 i1989) 2370 i2370) 2371 i2371) ++ X) s H locs → lv_has ls 4 [(0, .ref (ad 29)), (1, .int x1), (3, .int x3)] → W p l e rm_Se_run s m args below meth c H locs 0 0 (MQ below (va_Qi (fun r (u : (Nat → Int32) × (Nat → Int32) × (Nat → Int32) × (Nat → Int32) × (Nat → Int32) × (Nat → Int32) × (Nat → Int64) × (Nat → Int64) × Int32 × Int32 × Int32 × Int32 × Int32 × Int32 × Int32 × Int32 × Int32 × Int32 × Int32 × Int32 × Int32 × Int32) => post r u.1 u.2.1 u.2.2.1 u.2.2.2.1 u.2.2.2.2.1 u.2.2.2.2.2.1 u.2.2.2.2.2.2.1 u.2.2.2.2.2.2.2.1 u.2.2.2.2.2.2.2.2.1 u.2.2.2.2.2.2.2.2.2.1 u.2.2.2.2.2.2.2.2.2.2.1 u.2.2.2.2.2.2.2.2.2.2.2.1 u.2.2.2.2.2.2.2.2.2.2.2.2.1 u.2.2.2.2.2.2.2.2.2.2.2.2.2.1 u.2.2.2.2.2.2.2.2.2.2.2.2.2.2.1 u.2.2.2.2.2.2.2.2.2.2.2.2.2.2.2.1 u.2.2.2.2.2.2.2.2.2.2.2.2.2.2.2.2.1 u.2.2.2.2.2.2.2.2.2.2.2.2.2.2.2.2.2.1 u.2.2.2.2.2.2.2.2.2.2.2.2.2.2.2.2.2.2.1 u.2.2.2.2.2.2.2.2.2.2.2.2.2.2.2.2.2.2.2.1 u.2.2.2.2.2.2.2.2.2.2.2.2.2.2.2.2.2.2.2.2.1 u.2.2.2.2.2.2.2.2.2.2.2.2.2.2.2.2.2.2.2.2.2) (fun (u : (Nat → Int32) × (Nat → Int32) × (Nat → Int32) × (Nat → Int32) × (Nat → Int32) × (Nat → Int32) × (Nat → Int64) × (Nat → Int64) × Int32 × Int32 × Int32 × Int32 × Int32 × Int32 × Int32 × Int32 × Int32 × Int32 × Int32 × Int32 × Int32 × Int32) t => we n0 G (wC K ad (sI (sI (sI (sI (sI (sI (sI (sI (sI (sI (sI (sI (sI (sI (sL (sL (sA (sA (sA (sA (sA (sA S 32 u.1) 33 u.2.1) 34 u.2.2.1) 35 u.2.2.2.1) 39 u.2.2.2.2.1) 40 u.2.2.2.2.2.1) 36 u.2.2.2.2.2.2.1) 38 u.2.2.2.2.2.2.2.1) 1862 u.2.2.2.2.2.2.2.2.1) 1863 u.2.2.2.2.2.2.2.2.2.1) 1864 u.2.2.2.2.2.2.2.2.2.2.1) 1865 u.2.2.2.2.2.2.2.2.2.2.2.1) 1922 u.2.2.2.2.2.2.2.2.2.2.2.2.1) 1923 u.2.2.2.2.2.2.2.2.2.2.2.2.2.1) 1924 u.2.2.2.2.2.2.2.2.2.2.2.2.2.2.1) 1925 u.2.2.2.2.2.2.2.2.2.2.2.2.2.2.2.1) 1926 u.2.2.2.2.2.2.2.2.2.2.2.2.2.2.2.2.1) 1927 u.2.2.2.2.2.2.2.2.2.2.2.2.2.2.2.2.2.1) 1928 u.2.2.2.2.2.2.2.2.2.2.2.2.2.2.2.2.2.2.1) 1989 u.2.2.2.2.2.2.2.2.2.2.2.2.2.2.2.2.2.2.2.1) 2370 u.2.2.2.2.2.2.2.2.2.2.2.2.2.2.2.2.2.2.2.2.1) 2371 u.2.2.2.2.2.2.2.2.2.2.2.2.2.2.2.2.2.2.2.2.2) ++ X) t) (al n0)) args s 0 0 (al n0)) (F0 m 81 ls [])) : ∀ (a32 : (Nat → Int32)) (a33 : (Nat → Int32)) (a34 : (Nat → Int32)) (a35 : (Nat → Int32)) (a39 : (Nat → Int32)) (a40 : (Nat → Int32)) (l36 : (Nat → Int64)) (l38 : (Nat → Int64)) (i1862 : Int32) (i1863 : Int32) (i1864 : Int32) (i1865 : Int32) (i1922 : Int32) (i1923 : Int32) (i1924 : Int32) (i1925 : Int32) (i1926 : Int32) (i1927 : Int32) (i1928 : Int32) (i1989 : Int32) (i2370 : Int32) (i2371 : Int32) (x1 : Int32) (x3 : Int32) (z1 : Int32) (z2 : Int32), wl_Se_run_114 S post K81 a32 a33 a34 a35 a39 a40 l36 l38 i1862 i1863 i1864 i1865 i1922 i1923 i1924 i1925 i1926 i1927 i1928 i1989 i2370 i2371 x1 x3 z1 z2 → ∀ (H : Heap) (locs : List Loc) (ls : Array Slot), wn n0 G (wC K ad (sI (sI (sI (sI (sI (sI (sI (sI (sI (sI (sI (sI (sI (sI (sL (sL (sA (sA (sA (sA (sA (sA S 32 a32) 33 a33) 34 a34) 35 a35) 39 a39) 40 a40) 36 l36) 38 l38) 1862 i1862) 1863 i1863) 1864 i1864) 1865 i1865) 1922 i1922) 1923 i1923) 1924 i1924) 1925 i1925) 1926 i1926) 1927 i1927) 1928 i1928) 1989 i1989) 2370 i2370) 2371 i2371) ++ X) s H locs → lv_has ls 4 [(0, .ref (ad 29)), (1, .int x1), (3, .int x3)] → W p l e rm_Se_run s m args below meth c H locs 0 0 (MQ below (va_Qi (fun r (u : (Nat → Int32) × (Nat → Int32) × (Nat → Int32) × (Nat → Int32) × (Nat → Int32) × (Nat → Int32) × (Nat → Int64) × (Nat → Int64) × Int32 × Int32 × Int32 × Int32 × Int32 × Int32 × Int32 × Int32 × Int32 × Int32 × Int32 × Int32 × Int32 × Int32) => post r u.1 u.2.1 u.2.2.1 u.2.2.2.1 u.2.2.2.2.1 u.2.2.2.2.2.1 u.2.2.2.2.2.2.1 u.2.2.2.2.2.2.2.1 u.2.2.2.2.2.2.2.2.1 u.2.2.2.2.2.2.2.2.2.1 u.2.2.2.2.2.2.2.2.2.2.1 u.2.2.2.2.2.2.2.2.2.2.2.1 u.2.2.2.2.2.2.2.2.2.2.2.2.1 u.2.2.2.2.2.2.2.2.2.2.2.2.2.1 u.2.2.2.2.2.2.2.2.2.2.2.2.2.2.1 u.2.2.2.2.2.2.2.2.2.2.2.2.2.2.2.1 u.2.2.2.2.2.2.2.2.2.2.2.2.2.2.2.2.1 u.2.2.2.2.2.2.2.2.2.2.2.2.2.2.2.2.2.1 u.2.2.2.2.2.2.2.2.2.2.2.2.2.2.2.2.2.2.1 u.2.2.2.2.2.2.2.2.2.2.2.2.2.2.2.2.2.2.2.1 u.2.2.2.2.2.2.2.2.2.2.2.2.2.2.2.2.2.2.2.2.1 u.2.2.2.2.2.2.2.2.2.2.2.2.2.2.2.2.2.2.2.2.2) (fun (u : (Nat → Int32) × (Nat → Int32) × (Nat → Int32) × (Nat → Int32) × (Nat → Int32) × (Nat → Int32) × (Nat → Int64) × (Nat → Int64) × Int32 × Int32 × Int32 × Int32 × Int32 × Int32 × Int32 × Int32 × Int32 × Int32 × Int32 × Int32 × Int32 × Int32) t => we n0 G (wC K ad (sI (sI (sI (sI (sI (sI (sI (sI (sI (sI (sI (sI (sI (sI (sL (sL (sA (sA (sA (sA (sA (sA S 32 u.1) 33 u.2.1) 34 u.2.2.1) 35 u.2.2.2.1) 39 u.2.2.2.2.1) 40 u.2.2.2.2.2.1) 36 u.2.2.2.2.2.2.1) 38 u.2.2.2.2.2.2.2.1) 1862 u.2.2.2.2.2.2.2.2.1) 1863 u.2.2.2.2.2.2.2.2.2.1) 1864 u.2.2.2.2.2.2.2.2.2.2.1) 1865 u.2.2.2.2.2.2.2.2.2.2.2.1) 1922 u.2.2.2.2.2.2.2.2.2.2.2.2.1) 1923 u.2.2.2.2.2.2.2.2.2.2.2.2.2.1) 1924 u.2.2.2.2.2.2.2.2.2.2.2.2.2.2.1) 1925 u.2.2.2.2.2.2.2.2.2.2.2.2.2.2.2.1) 1926 u.2.2.2.2.2.2.2.2.2.2.2.2.2.2.2.2.1) 1927 u.2.2.2.2.2.2.2.2.2.2.2.2.2.2.2.2.2.1) 1928 u.2.2.2.2.2.2.2.2.2.2.2.2.2.2.2.2.2.2.1) 1989 u.2.2.2.2.2.2.2.2.2.2.2.2.2.2.2.2.2.2.2.1) 2370 u.2.2.2.2.2.2.2.2.2.2.2.2.2.2.2.2.2.2.2.2.1) 2371 u.2.2.2.2.2.2.2.2.2.2.2.2.2.2.2.2.2.2.2.2.2) ++ X) t) (al n0)) args s 0 0 (al n0)) (F0 m 114 ls [.int z2, .int z1, .ref (ad 17)]) := by
  have hx := C.1
  have hb := C.2.1
  have hts := C.2.2.2.2.1
  intro a32 a33 a34 a35 a39 a40 l36 l38 i1862 i1863 i1864 i1865 i1922 i1923 i1924 i1925 i1926 i1927 i1928 i1989 i2370 i2371 x1 x3 z1 z2 hw H locs ls w hl
  unfold wl_Se_run_114 at hw
  refine kc_i (st := fun (u : Unit) => wC K ad (sI (sI (sI (sI (sI (sI (sI (sI (sI (sI (sI (sI (sI (sI (sL (sL (sA (sA (sA (sA (sA (sA S 32 a32) 33 a33) 34 a34) 35 a35) 39 a39) 40 a40) 36 l36) 38 l38) 1862 i1862) 1863 i1863) 1864 i1864) 1865 i1865) 1922 i1922) 1923 i1923) 1924 i1924) 1925 i1925) 1926 i1926) 1927 i1927) 1928 i1928) 1989 i1989) 2370 i2370) 2371 i2371) ++ X) w (kr_V (y := y_Ga_isPlace) (C1 := R_Ga) (T := F_Ga) (N := 12) (ci := 0) (q0 := 17) (As := [.int z1, .int z2]) (n := 2) C w (c_Ga_isPlace l n0 G K ad X (sI (sI (sI (sI (sI (sI (sI (sI (sI (sI (sI (sI (sI (sI (sL (sL (sA (sA (sA (sA (sA (sA S 32 a32) 33 a33) 34 a34) 35 a35) 39 a39) 40 a40) 36 l36) 38 l38) 1862 i1862) 1863 i1863) 1864 i1864) 1865 i1865) 1922 i1922) 1923 i1923) 1924 i1924) 1925 i1925) 1926 i1926) 1927 i1927) 1928 i1928) 1989 i1989) 2370 i2370) 2371 i2371) z1 z2 _ hw) (gw_V kw_730 kw_731 kw_732 kw_5 kw_733) (by decide +kernel) rfl rfl ⟨Nat.le_of_ble_eq_true rfl, Nat.le_of_ble_eq_true rfl⟩ rfl rfl rfl hl.1 rfl (Nat.le_of_ble_eq_true rfl) d_Se_run_114 ⟨Nat.le_of_ble_eq_true rfl, Nat.le_of_ble_eq_true rfl⟩) (fun r1 u H locs hw w => ?_)
  refine lv_if_eq (tgt := 131) hx hb d_Se_run_117 (by decide) (fun hc => ?_) (fun hc => ?_)
  · have hw := hw.1 hc
    obtain ⟨v2, ev2⟩ : ∃ y : Int32, y = x3 + 1 := ⟨_, rfl⟩
    refine lv_iinc (v := v2) (lv' := [(3, .int v2), (0, .ref (ad 29)), (1, .int x1)]) hx hb d_Se_run_131 hl (k := 2) rfl (by rw [ev2]; rfl) (by decide) rfl (fun ls hl => ?_)
    have hw := hw v2 ev2
    refine lv_goto (tgt := 81) hx hb d_Se_run_134 (by decide) ?_
    exact hk81 a32 a33 a34 a35 a39 a40 l36 l38 i1862 i1863 i1864 i1865 i1922 i1923 i1924 i1925 i1926 i1927 i1928 i1989 i2370 i2371 x1 v2 hw _ _ _ (wn_eq w rfl) (lv_sub hl [1, 2, 0] rfl)
  · have hw := hw.2 hc
    refine lv_aload_n hx hb d_Se_run_120 rfl (lv_at hl 0 rfl) ?_
    refine lv_iload_n hx hb d_Se_run_121 rfl (lv_at hl 2 rfl) ?_
    refine kc_i (st := fun (u : (Nat → Int32) × (Nat → Int32) × (Nat → Int32) × (Nat → Int32) × (Nat → Int32) × (Nat → Int32) × (Nat → Int64) × (Nat → Int64) × Int32 × Int32 × Int32 × Int32 × Int32 × Int32 × Int32 × Int32 × Int32 × Int32 × Int32) => wC K ad (sI (sI (sI (sI (sI (sI (sI (sI (sI (sI (sI (sL (sL (sA (sA (sA (sA (sA (sA (sI (sI (sI (sI (sI (sI (sI (sI (sI (sI (sI (sI (sI (sI (sL (sL (sA (sA (sA (sA (sA (sA S 32 a32) 33 a33) 34 a34) 35 a35) 39 a39) 40 a40) 36 l36) 38 l38) 1862 i1862) 1863 i1863) 1864 i1864) 1865 i1865) 1922 i1922) 1923 i1923) 1924 i1924) 1925 i1925) 1926 i1926) 1927 i1927) 1928 i1928) 1989 i1989) 2370 i2370) 2371 i2371) 32 u.1) 33 u.2.1) 34 u.2.2.1) 35 u.2.2.2.1) 39 u.2.2.2.2.1) 40 u.2.2.2.2.2.1) 36 u.2.2.2.2.2.2.1) 38 u.2.2.2.2.2.2.2.1) 1862 u.2.2.2.2.2.2.2.2.1) 1863 u.2.2.2.2.2.2.2.2.2.1) 1923 u.2.2.2.2.2.2.2.2.2.2.1) 1924 u.2.2.2.2.2.2.2.2.2.2.2.1) 1925 u.2.2.2.2.2.2.2.2.2.2.2.2.1) 1926 u.2.2.2.2.2.2.2.2.2.2.2.2.2.1) 1927 u.2.2.2.2.2.2.2.2.2.2.2.2.2.2.1) 1928 u.2.2.2.2.2.2.2.2.2.2.2.2.2.2.2.1) 1989 u.2.2.2.2.2.2.2.2.2.2.2.2.2.2.2.2.1) 2370 u.2.2.2.2.2.2.2.2.2.2.2.2.2.2.2.2.2.1) 2371 u.2.2.2.2.2.2.2.2.2.2.2.2.2.2.2.2.2.2) ++ X) w (kr_V (y := y_Se_visit) (C1 := R_Se) (T := F_Se) (N := 10) (ci := 7) (q0 := 29) (As := [.int x3]) (n := 1) C w (c_Se_visit l n0 G K ad X (sI (sI (sI (sI (sI (sI (sI (sI (sI (sI (sI (sI (sI (sI (sL (sL (sA (sA (sA (sA (sA (sA S 32 a32) 33 a33) 34 a34) 35 a35) 39 a39) 40 a40) 36 l36) 38 l38) 1862 i1862) 1863 i1863) 1864 i1864) 1865 i1865) 1922 i1922) 1923 i1923) 1924 i1924) 1925 i1925) 1926 i1926) 1927 i1927) 1928 i1928) 1989 i1989) 2370 i2370) 2371 i2371) x3 _ hw) (gw_V kw_734 kw_736 kp_10 kw_6 kw_737) (by decide +kernel) rfl rfl ⟨Nat.le_of_ble_eq_true rfl, Nat.le_of_ble_eq_true rfl⟩ rfl rfl rfl hl.1 rfl (Nat.le_of_ble_eq_true rfl) d_Se_run_122 ⟨Nat.le_of_ble_eq_true rfl, Nat.le_of_ble_eq_true rfl⟩) (fun r22 u H locs hw w => ?_)
    obtain ⟨f3, f4, f5, f6, f7, f8, f9, f10, v11, v12, v13, v14, v15, v16, v17, v18, v19, v20, v21⟩ := u
    dsimp only at hw
    have w : wn n0 G (wC K ad (sI (sI (sI (sI (sI (sI (sI (sI (sI (sI (sI (sI (sI (sI (sL (sL (sA (sA (sA (sA (sA (sA S 32 f3) 33 f4) 34 f5) 35 f6) 39 f7) 40 f8) 36 f9) 38 f10) 1862 v11) 1863 v12) 1864 i1864) 1865 i1865) 1922 i1922) 1923 v13) 1924 v14) 1925 v15) 1926 v16) 1927 v17) 1928 v18) 1989 v19) 2370 v20) 2371 v21) ++ X) s H locs := w
    refine lv_if_ne (tgt := 131) hx hb d_Se_run_125 (by decide) (fun hc => ?_) (fun hc => ?_)
    · have hw := hw.1 hc
      obtain ⟨v23, ev23⟩ : ∃ y : Int32, y = x3 + 1 := ⟨_, rfl⟩
      refine lv_iinc (v := v23) (lv' := [(3, .int v23), (0, .ref (ad 29)), (1, .int x1)]) hx hb d_Se_run_131 hl (k := 2) rfl (by rw [ev23]; rfl) (by decide) rfl (fun ls hl => ?_)
      have hw := hw v23 ev23
      refine lv_goto (tgt := 81) hx hb d_Se_run_134 (by decide) ?_
      exact hk81 f3 f4 f5 f6 f7 f8 f9 f10 v11 v12 i1864 i1865 i1922 v13 v14 v15 v16 v17 v18 v19 v20 v21 x1 v23 hw _ _ _ (wn_eq w rfl) (lv_sub hl [1, 2, 0] rfl)
    · have hw := hw.2 hc
      refine lv_bipush (v := (-2)) hx hb d_Se_run_128 (by decide) ?_
      exact ke_i (post := (fun r (u : (Nat → Int32) × (Nat → Int32) × (Nat → Int32) × (Nat → Int32) × (Nat → Int32) × (Nat → Int32) × (Nat → Int64) × (Nat → Int64) × Int32 × Int32 × Int32 × Int32 × Int32 × Int32 × Int32 × Int32 × Int32 × Int32 × Int32 × Int32 × Int32 × Int32) => post r u.1 u.2.1 u.2.2.1 u.2.2.2.1 u.2.2.2.2.1 u.2.2.2.2.2.1 u.2.2.2.2.2.2.1 u.2.2.2.2.2.2.2.1 u.2.2.2.2.2.2.2.2.1 u.2.2.2.2.2.2.2.2.2.1 u.2.2.2.2.2.2.2.2.2.2.1 u.2.2.2.2.2.2.2.2.2.2.2.1 u.2.2.2.2.2.2.2.2.2.2.2.2.1 u.2.2.2.2.2.2.2.2.2.2.2.2.2.1 u.2.2.2.2.2.2.2.2.2.2.2.2.2.2.1 u.2.2.2.2.2.2.2.2.2.2.2.2.2.2.2.1 u.2.2.2.2.2.2.2.2.2.2.2.2.2.2.2.2.1 u.2.2.2.2.2.2.2.2.2.2.2.2.2.2.2.2.2.1 u.2.2.2.2.2.2.2.2.2.2.2.2.2.2.2.2.2.2.1 u.2.2.2.2.2.2.2.2.2.2.2.2.2.2.2.2.2.2.2.1 u.2.2.2.2.2.2.2.2.2.2.2.2.2.2.2.2.2.2.2.2.1 u.2.2.2.2.2.2.2.2.2.2.2.2.2.2.2.2.2.2.2.2.2)) (st := (fun (u : (Nat → Int32) × (Nat → Int32) × (Nat → Int32) × (Nat → Int32) × (Nat → Int32) × (Nat → Int32) × (Nat → Int64) × (Nat → Int64) × Int32 × Int32 × Int32 × Int32 × Int32 × Int32 × Int32 × Int32 × Int32 × Int32 × Int32 × Int32 × Int32 × Int32) => wC K ad (sI (sI (sI (sI (sI (sI (sI (sI (sI (sI (sI (sI (sI (sI (sL (sL (sA (sA (sA (sA (sA (sA S 32 u.1) 33 u.2.1) 34 u.2.2.1) 35 u.2.2.2.1) 39 u.2.2.2.2.1) 40 u.2.2.2.2.2.1) 36 u.2.2.2.2.2.2.1) 38 u.2.2.2.2.2.2.2.1) 1862 u.2.2.2.2.2.2.2.2.1) 1863 u.2.2.2.2.2.2.2.2.2.1) 1864 u.2.2.2.2.2.2.2.2.2.2.1) 1865 u.2.2.2.2.2.2.2.2.2.2.2.1) 1922 u.2.2.2.2.2.2.2.2.2.2.2.2.1) 1923 u.2.2.2.2.2.2.2.2.2.2.2.2.2.1) 1924 u.2.2.2.2.2.2.2.2.2.2.2.2.2.2.1) 1925 u.2.2.2.2.2.2.2.2.2.2.2.2.2.2.2.1) 1926 u.2.2.2.2.2.2.2.2.2.2.2.2.2.2.2.2.1) 1927 u.2.2.2.2.2.2.2.2.2.2.2.2.2.2.2.2.2.1) 1928 u.2.2.2.2.2.2.2.2.2.2.2.2.2.2.2.2.2.2.1) 1989 u.2.2.2.2.2.2.2.2.2.2.2.2.2.2.2.2.2.2.2.1) 2370 u.2.2.2.2.2.2.2.2.2.2.2.2.2.2.2.2.2.2.2.2.1) 2371 u.2.2.2.2.2.2.2.2.2.2.2.2.2.2.2.2.2.2.2.2.2) ++ X)) (u := (f3, f4, f5, f6, f7, f8, f9, f10, v11, v12, i1864, i1865, i1922, v13, v14, v15, v16, v17, v18, v19, v20, v21)) C hr d_Se_run_130 (wn_eq w rfl) hw
set_option maxHeartbeats 4000000 in
set_option maxRecDepth 100000 in
theorem w_Se_run_81 {S : ST} {post : Int32 → (Nat → Int32) → (Nat → Int32) → (Nat → Int32) → (Nat → Int32) → (Nat → Int32) → (Nat → Int32) → (Nat → Int64) → (Nat → Int64) → Int32 → Int32 → Int32 → Int32 → Int32 → Int32 → Int32 → Int32 → Int32 → Int32 → Int32 → Int32 → Int32 → Int32 → Prop} (C : cx p s m args meth c prog_9_method_2_code 4 "LineBreaker$Search" n0 G K) (hr : meth.sig.returnType = (some .int)) : ∀ (n : Nat) (a32 : (Nat → Int32)) (a33 : (Nat → Int32)) (a34 : (Nat → Int32)) (a35 : (Nat → Int32)) (a39 : (Nat → Int32)) (a40 : (Nat → Int32)) (l36 : (Nat → Int64)) (l38 : (Nat → Int64)) (i1862 : Int32) (i1863 : Int32) (i1864 : Int32) (i1865 : Int32) (i1922 : Int32) (i1923 : Int32) (i1924 : Int32) (i1925 : Int32) (i1926 : Int32) (i1927 : Int32) (i1928 : Int32) (i1989 : Int32) (i2370 : Int32) (i2371 : Int32) (x1 : Int32) (x3 : Int32), wl_Se_run_81 S post n a32 a33 a34 a35 a39 a40 l36 l38 i1862 i1863 i1864 i1865 i1922 i1923 i1924 i1925 i1926 i1927 i1928 i1989 i2370 i2371 x1 x3 → ∀ (H : Heap) (locs : List Loc) (ls : Array Slot), wn n0 G (wC K ad (sI (sI (sI (sI (sI (sI (sI (sI (sI (sI (sI (sI (sI (sI (sL (sL (sA (sA (sA (sA (sA (sA S 32 a32) 33 a33) 34 a34) 35 a35) 39 a39) 40 a40) 36 l36) 38 l38) 1862 i1862) 1863 i1863) 1864 i1864) 1865 i1865) 1922 i1922) 1923 i1923) 1924 i1924) 1925 i1925) 1926 i1926) 1927 i1927) 1928 i1928) 1989 i1989) 2370 i2370) 2371 i2371) ++ X) s H locs → lv_has ls 4 [(0, .ref (ad 29)), (1, .int x1), (3, .int x3)] → W p l e rm_Se_run s m args below meth c H locs 0 0 (MQ below (va_Qi (fun r (u : (Nat → Int32) × (Nat → Int32) × (Nat → Int32) × (Nat → Int32) × (Nat → Int32) × (Nat → Int32) × (Nat → Int64) × (Nat → Int64) × Int32 × Int32 × Int32 × Int32 × Int32 × Int32 × Int32 × Int32 × Int32 × Int32 × Int32 × Int32 × Int32 × Int32) => post r u.1 u.2.1 u.2.2.1 u.2.2.2.1 u.2.2.2.2.1 u.2.2.2.2.2.1 u.2.2.2.2.2.2.1 u.2.2.2.2.2.2.2.1 u.2.2.2.2.2.2.2.2.1 u.2.2.2.2.2.2.2.2.2.1 u.2.2.2.2.2.2.2.2.2.2.1 u.2.2.2.2.2.2.2.2.2.2.2.1 u.2.2.2.2.2.2.2.2.2.2.2.2.1 u.2.2.2.2.2.2.2.2.2.2.2.2.2.1 u.2.2.2.2.2.2.2.2.2.2.2.2.2.2.1 u.2.2.2.2.2.2.2.2.2.2.2.2.2.2.2.1 u.2.2.2.2.2.2.2.2.2.2.2.2.2.2.2.2.1 u.2.2.2.2.2.2.2.2.2.2.2.2.2.2.2.2.2.1 u.2.2.2.2.2.2.2.2.2.2.2.2.2.2.2.2.2.2.1 u.2.2.2.2.2.2.2.2.2.2.2.2.2.2.2.2.2.2.2.1 u.2.2.2.2.2.2.2.2.2.2.2.2.2.2.2.2.2.2.2.2.1 u.2.2.2.2.2.2.2.2.2.2.2.2.2.2.2.2.2.2.2.2.2) (fun (u : (Nat → Int32) × (Nat → Int32) × (Nat → Int32) × (Nat → Int32) × (Nat → Int32) × (Nat → Int32) × (Nat → Int64) × (Nat → Int64) × Int32 × Int32 × Int32 × Int32 × Int32 × Int32 × Int32 × Int32 × Int32 × Int32 × Int32 × Int32 × Int32 × Int32) t => we n0 G (wC K ad (sI (sI (sI (sI (sI (sI (sI (sI (sI (sI (sI (sI (sI (sI (sL (sL (sA (sA (sA (sA (sA (sA S 32 u.1) 33 u.2.1) 34 u.2.2.1) 35 u.2.2.2.1) 39 u.2.2.2.2.1) 40 u.2.2.2.2.2.1) 36 u.2.2.2.2.2.2.1) 38 u.2.2.2.2.2.2.2.1) 1862 u.2.2.2.2.2.2.2.2.1) 1863 u.2.2.2.2.2.2.2.2.2.1) 1864 u.2.2.2.2.2.2.2.2.2.2.1) 1865 u.2.2.2.2.2.2.2.2.2.2.2.1) 1922 u.2.2.2.2.2.2.2.2.2.2.2.2.1) 1923 u.2.2.2.2.2.2.2.2.2.2.2.2.2.1) 1924 u.2.2.2.2.2.2.2.2.2.2.2.2.2.2.1) 1925 u.2.2.2.2.2.2.2.2.2.2.2.2.2.2.2.1) 1926 u.2.2.2.2.2.2.2.2.2.2.2.2.2.2.2.2.1) 1927 u.2.2.2.2.2.2.2.2.2.2.2.2.2.2.2.2.2.1) 1928 u.2.2.2.2.2.2.2.2.2.2.2.2.2.2.2.2.2.2.1) 1989 u.2.2.2.2.2.2.2.2.2.2.2.2.2.2.2.2.2.2.2.1) 2370 u.2.2.2.2.2.2.2.2.2.2.2.2.2.2.2.2.2.2.2.2.1) 2371 u.2.2.2.2.2.2.2.2.2.2.2.2.2.2.2.2.2.2.2.2.2) ++ X) t) (al n0)) args s 0 0 (al n0)) (F0 m 81 ls []) := by
  have hx := C.1
  have hb := C.2.1
  have hts := C.2.2.2.2.1
  intro n
  induction n with
  | zero =>
    intro a32 a33 a34 a35 a39 a40 l36 l38 i1862 i1863 i1864 i1865 i1922 i1923 i1924 i1925 i1926 i1927 i1928 i1989 i2370 i2371 x1 x3 hw
    unfold wl_Se_run_81 at hw
    exact hw.elim
  | succ n ih =>
    intro a32 a33 a34 a35 a39 a40 l36 l38 i1862 i1863 i1864 i1865 i1922 i1923 i1924 i1925 i1926 i1927 i1928 i1989 i2370 i2371 x1 x3 hw H locs ls w hl
    unfold wl_Se_run_81 at hw
    refine lv_iload_n hx hb d_Se_run_81 rfl (lv_at hl 2 rfl) ?_
    refine lv_aload_n hx hb d_Se_run_82 rfl (lv_at hl 0 rfl) ?_
    refine kg (C1 := R_Se) (T := F_Se) (N := 10) (ci := 7) (ref := "LineBreaker$Search") (v := .ref (ad 17)) C w 29 0 iw_Se rfl rfl (by decide) kw_293 rfl rfl d_Se_run_83 ?_
    refine kg (C1 := R_Ga) (T := F_Ga) (N := 12) (ci := 0) (ref := "LineBreaker$Galley") (v := .int (S.2.2 1099)) C w 17 11 iw_Ga rfl rfl (by decide) kw_160 rfl rfl d_Se_run_86 ?_
    refine lv_icmp_gt (tgt := 137) hx hb d_Se_run_89 (by decide) (fun hc => ?_) (fun hc => ?_)
    · have hw := hw.1 hc
      exact w_Se_run_137 C hr  a32 a33 a34 a35 a39 a40 l36 l38 i1862 i1863 i1864 i1865 i1922 i1923 i1924 i1925 i1926 i1927 i1928 i1989 i2370 i2371 hw _ _ _ (wn_eq w rfl) (lv_sub hl [0] rfl)
    · have hw := hw.2 hc
      refine lv_aload_n hx hb d_Se_run_92 rfl (lv_at hl 0 rfl) ?_
      refine kg (C1 := R_Se) (T := F_Se) (N := 10) (ci := 7) (ref := "LineBreaker$Search") (v := .int i1862) C w 29 6 iw_Se rfl rfl (by decide) kw_302 rfl rfl d_Se_run_93 ?_
      refine lv_if_le (tgt := 137) hx hb d_Se_run_96 (by decide) (fun hc => ?_) (fun hc => ?_)
      · have hw := hw.1 hc
        exact w_Se_run_137 C hr  a32 a33 a34 a35 a39 a40 l36 l38 i1862 i1863 i1864 i1865 i1922 i1923 i1924 i1925 i1926 i1927 i1928 i1989 i2370 i2371 hw _ _ _ (wn_eq w rfl) (lv_sub hl [0] rfl)
      · have hw := hw.2 hc
        refine lv_aload_n hx hb d_Se_run_99 rfl (lv_at hl 0 rfl) ?_
        refine kg (C1 := R_Se) (T := F_Se) (N := 10) (ci := 7) (ref := "LineBreaker$Search") (v := .ref (ad 17)) C w 29 0 iw_Se rfl rfl (by decide) kw_293 rfl rfl d_Se_run_100 ?_
        refine lv_iload_n hx hb d_Se_run_103 rfl (lv_at hl 2 rfl) ?_
        refine lv_iload_n hx hb d_Se_run_104 rfl (lv_at hl 1 rfl) ?_
        refine lv_iconst (v := 1) hx hb d_Se_run_105 (by decide) ?_
        refine lv_icmp_le (tgt := 113) hx hb d_Se_run_106 (by decide) (fun hc => ?_) (fun hc => ?_)
        · have hw := hw.1 hc
          refine lv_iconst (v := 0) hx hb d_Se_run_113 (by decide) ?_
          exact w_Se_run_114 C hr ih a32 a33 a34 a35 a39 a40 l36 l38 i1862 i1863 i1864 i1865 i1922 i1923 i1924 i1925 i1926 i1927 i1928 i1989 i2370 i2371 x1 x3 x3 0 hw _ _ _ (wn_eq w rfl) (lv_sub hl [0, 1, 2] rfl)
        · have hw := hw.2 hc
          refine lv_iconst (v := 1) hx hb d_Se_run_109 (by decide) ?_
          refine lv_goto (tgt := 114) hx hb d_Se_run_110 (by decide) ?_
          exact w_Se_run_114 C hr ih a32 a33 a34 a35 a39 a40 l36 l38 i1862 i1863 i1864 i1865 i1922 i1923 i1924 i1925 i1926 i1927 i1928 i1989 i2370 i2371 x1 x3 x3 1 hw _ _ _ (wn_eq w rfl) (lv_sub hl [0, 1, 2] rfl)
set_option maxHeartbeats 4000000 in
set_option maxRecDepth 100000 in
theorem w_Se_run_50 {S : ST} {post : Int32 → (Nat → Int32) → (Nat → Int32) → (Nat → Int32) → (Nat → Int32) → (Nat → Int32) → (Nat → Int32) → (Nat → Int64) → (Nat → Int64) → Int32 → Int32 → Int32 → Int32 → Int32 → Int32 → Int32 → Int32 → Int32 → Int32 → Int32 → Int32 → Int32 → Int32 → Prop} (C : cx p s m args meth c prog_9_method_2_code 4 "LineBreaker$Search" n0 G K) (hr : meth.sig.returnType = (some .int)) : ∀ (i1864 : Int32) (i1865 : Int32) (x1 : Int32) (z1 : Int32), wl_Se_run_50 S post i1864 i1865 x1 z1 → ∀ (H : Heap) (locs : List Loc) (ls : Array Slot), wn n0 G (wC K ad (sI (sI S 1864 i1864) 1865 i1865) ++ X) s H locs → lv_has ls 4 [(0, .ref (ad 29)), (1, .int x1)] → W p l e rm_Se_run s m args below meth c H locs 0 0 (MQ below (va_Qi (fun r (u : (Nat → Int32) × (Nat → Int32) × (Nat → Int32) × (Nat → Int32) × (Nat → Int32) × (Nat → Int32) × (Nat → Int64) × (Nat → Int64) × Int32 × Int32 × Int32 × Int32 × Int32 × Int32 × Int32 × Int32 × Int32 × Int32 × Int32 × Int32 × Int32 × Int32) => post r u.1 u.2.1 u.2.2.1 u.2.2.2.1 u.2.2.2.2.1 u.2.2.2.2.2.1 u.2.2.2.2.2.2.1 u.2.2.2.2.2.2.2.1 u.2.2.2.2.2.2.2.2.1 u.2.2.2.2.2.2.2.2.2.1 u.2.2.2.2.2.2.2.2.2.2.1 u.2.2.2.2.2.2.2.2.2.2.2.1 u.2.2.2.2.2.2.2.2.2.2.2.2.1 u.2.2.2.2.2.2.2.2.2.2.2.2.2.1 u.2.2.2.2.2.2.2.2.2.2.2.2.2.2.1 u.2.2.2.2.2.2.2.2.2.2.2.2.2.2.2.1 u.2.2.2.2.2.2.2.2.2.2.2.2.2.2.2.2.1 u.2.2.2.2.2.2.2.2.2.2.2.2.2.2.2.2.2.1 u.2.2.2.2.2.2.2.2.2.2.2.2.2.2.2.2.2.2.1 u.2.2.2.2.2.2.2.2.2.2.2.2.2.2.2.2.2.2.2.1 u.2.2.2.2.2.2.2.2.2.2.2.2.2.2.2.2.2.2.2.2.1 u.2.2.2.2.2.2.2.2.2.2.2.2.2.2.2.2.2.2.2.2.2) (fun (u : (Nat → Int32) × (Nat → Int32) × (Nat → Int32) × (Nat → Int32) × (Nat → Int32) × (Nat → Int32) × (Nat → Int64) × (Nat → Int64) × Int32 × Int32 × Int32 × Int32 × Int32 × Int32 × Int32 × Int32 × Int32 × Int32 × Int32 × Int32 × Int32 × Int32) t => we n0 G (wC K ad (sI (sI (sI (sI (sI (sI (sI (sI (sI (sI (sI (sI (sI (sI (sL (sL (sA (sA (sA (sA (sA (sA S 32 u.1) 33 u.2.1) 34 u.2.2.1) 35 u.2.2.2.1) 39 u.2.2.2.2.1) 40 u.2.2.2.2.2.1) 36 u.2.2.2.2.2.2.1) 38 u.2.2.2.2.2.2.2.1) 1862 u.2.2.2.2.2.2.2.2.1) 1863 u.2.2.2.2.2.2.2.2.2.1) 1864 u.2.2.2.2.2.2.2.2.2.2.1) 1865 u.2.2.2.2.2.2.2.2.2.2.2.1) 1922 u.2.2.2.2.2.2.2.2.2.2.2.2.1) 1923 u.2.2.2.2.2.2.2.2.2.2.2.2.2.1) 1924 u.2.2.2.2.2.2.2.2.2.2.2.2.2.2.1) 1925 u.2.2.2.2.2.2.2.2.2.2.2.2.2.2.2.1) 1926 u.2.2.2.2.2.2.2.2.2.2.2.2.2.2.2.2.1) 1927 u.2.2.2.2.2.2.2.2.2.2.2.2.2.2.2.2.2.1) 1928 u.2.2.2.2.2.2.2.2.2.2.2.2.2.2.2.2.2.2.1) 1989 u.2.2.2.2.2.2.2.2.2.2.2.2.2.2.2.2.2.2.2.1) 2370 u.2.2.2.2.2.2.2.2.2.2.2.2.2.2.2.2.2.2.2.2.1) 2371 u.2.2.2.2.2.2.2.2.2.2.2.2.2.2.2.2.2.2.2.2.2) ++ X) t) (al n0)) args s 0 0 (al n0)) (F0 m 50 ls [.int z1, .ref (ad 30)]) := by
  have hx := C.1
  have hb := C.2.1
  have hts := C.2.2.2.2.1
  intro i1864 i1865 x1 z1 hw H locs ls w hl
  unfold wl_Se_run_50 at hw
  refine kc_v (st := fun (u : Int32 × Int32) => wC K ad (sI (sI (sI (sI S 1864 i1864) 1865 i1865) 1922 u.1) 1927 u.2) ++ X) w (kr_V (y := y_Gu_start) (C1 := R_Gu) (T := F_Gu) (N := 9) (ci := 1) (q0 := 30) (As := [.int z1]) (n := 1) C w (c_Gu_start l n0 G K ad X (sI (sI S 1864 i1864) 1865 i1865) z1 _ hw) (gw_V kw_715 kw_716 kw_717 kw_7 kw_718) (by decide +kernel) rfl rfl ⟨Nat.le_of_ble_eq_true rfl, Nat.le_of_ble_eq_true rfl⟩ rfl rfl rfl hl.1 rfl (Nat.le_of_ble_eq_true rfl) d_Se_run_50 ⟨Nat.le_of_ble_eq_true rfl, Nat.le_of_ble_eq_true rfl⟩) (fun u H locs hw w => ?_)
  obtain ⟨v1, v2⟩ := u
  dsimp only at hw
  have w : wn n0 G (wC K ad (sI (sI (sI (sI S 1864 i1864) 1865 i1865) 1922 v1) 1927 v2) ++ X) s H locs := w
  refine lv_aload_n hx hb d_Se_run_53 rfl (lv_at hl 0 rfl) ?_
  refine kg (C1 := R_Se) (T := F_Se) (N := 10) (ci := 7) (ref := "LineBreaker$Search") (v := .ref (ad 31)) C w 29 3 iw_Se rfl rfl (by decide) kw_298 rfl rfl d_Se_run_54 ?_
  refine kc_v (st := fun (u : (Nat → Int32) × (Nat → Int32) × (Nat → Int32) × (Nat → Int32) × (Nat → Int64) × Int32) => wC K ad (sI (sL (sA (sA (sA (sA (sI (sI (sI (sI S 1864 i1864) 1865 i1865) 1922 v1) 1927 v2) 32 u.1) 33 u.2.1) 34 u.2.2.1) 35 u.2.2.2.1) 36 u.2.2.2.2.1) 1989 u.2.2.2.2.2) ++ X) w (kr_V (y := y_No_start) (C1 := R_No) (T := F_No) (N := 6) (ci := 3) (q0 := 31) (As := []) (n := 0) C w (c_No_start l n0 G K ad X (sI (sI (sI (sI S 1864 i1864) 1865 i1865) 1922 v1) 1927 v2)  _ hw) (gw_V kw_719 kw_720 kw_721 kw_8 kw_722) (by decide +kernel) rfl rfl ⟨Nat.le_of_ble_eq_true rfl, Nat.le_of_ble_eq_true rfl⟩ rfl rfl rfl hl.1 rfl (Nat.le_of_ble_eq_true rfl) d_Se_run_57 ⟨Nat.le_of_ble_eq_true rfl, Nat.le_of_ble_eq_true rfl⟩) (fun u H locs hw w => ?_)
  obtain ⟨f3, f4, f5, f6, f7, v8⟩ := u
  dsimp only at hw
  have w : wn n0 G (wC K ad (sI (sI (sI (sI (sI (sL (sA (sA (sA (sA S 32 f3) 33 f4) 34 f5) 35 f6) 36 f7) 1864 i1864) 1865 i1865) 1922 v1) 1927 v2) 1989 v8) ++ X) s H locs := w
  refine lv_aload_n hx hb d_Se_run_60 rfl (lv_at hl 0 rfl) ?_
  refine kg (C1 := R_Se) (T := F_Se) (N := 10) (ci := 7) (ref := "LineBreaker$Search") (v := .ref (ad 37)) C w 29 4 iw_Se rfl rfl (by decide) kw_300 rfl rfl d_Se_run_61 ?_
  refine kc_v (st := fun (u : (Nat → Int32) × Int32 × Int32) => wC K ad (sI (sI (sA (sI (sI (sI (sI (sI (sL (sA (sA (sA (sA S 32 f3) 33 f4) 34 f5) 35 f6) 36 f7) 1864 i1864) 1865 i1865) 1922 v1) 1927 v2) 1989 v8) 39 u.1) 2370 u.2.1) 2371 u.2.2) ++ X) w (kr_V (y := y_Of_start) (C1 := R_Of) (T := F_Of) (N := 4) (ci := 4) (q0 := 37) (As := []) (n := 0) C w (c_Of_start l n0 G K ad X (sI (sI (sI (sI (sI (sL (sA (sA (sA (sA S 32 f3) 33 f4) 34 f5) 35 f6) 36 f7) 1864 i1864) 1865 i1865) 1922 v1) 1927 v2) 1989 v8)  _ hw) (gw_V kw_723 kw_724 kw_725 kw_9 kw_726) (by decide +kernel) rfl rfl ⟨Nat.le_of_ble_eq_true rfl, Nat.le_of_ble_eq_true rfl⟩ rfl rfl rfl hl.1 rfl (Nat.le_of_ble_eq_true rfl) d_Se_run_64 ⟨Nat.le_of_ble_eq_true rfl, Nat.le_of_ble_eq_true rfl⟩) (fun u H locs hw w => ?_)
  obtain ⟨f9, v10, v11⟩ := u
  dsimp only at hw
  have w : wn n0 G (wC K ad (sI (sI (sI (sI (sI (sI (sI (sL (sA (sA (sA (sA (sA S 32 f3) 33 f4) 34 f5) 35 f6) 39 f9) 36 f7) 1864 i1864) 1865 i1865) 1922 v1) 1927 v2) 1989 v8) 2370 v10) 2371 v11) ++ X) s H locs := w
  refine lv_aload_n hx hb d_Se_run_67 rfl (lv_at hl 0 rfl) ?_
  refine kg (C1 := R_Se) (T := F_Se) (N := 10) (ci := 7) (ref := "LineBreaker$Search") (v := .ref (ad 40)) C w 29 5 iw_Se rfl rfl (by decide) kw_301 rfl rfl d_Se_run_68 ?_
  refine lv_iconst (v := 0) hx hb d_Se_run_71 (by decide) ?_
  refine lv_iconst (v := 0) hx hb d_Se_run_72 (by decide) ?_
  obtain ⟨f12, ef12⟩ : ∃ z : Nat → Int32, z = upd (S.1 40) ((0 : Int32).toNatClampNeg) 0 := ⟨_, rfl⟩
  refine ks_i (f := (S.1 40)) (w2 := wC K ad (sI (sI (sI (sI (sI (sI (sI (sL (sA (sA (sA (sA (sA (sA S 32 f3) 33 f4) 34 f5) 35 f6) 39 f9) 40 f12) 36 f7) 1864 i1864) 1865 i1865) 1922 v1) 1927 v2) 1989 v8) 2370 v10) 2371 v11) ++ X) C w 40 rfl hw.1 (by rw [← ef12]; rfl) d_Se_run_73 (fun H locs w => ?_)
  have hw := hw.2 f12 ef12
  refine lv_aload_n hx hb d_Se_run_74 rfl (lv_at hl 0 rfl) ?_
  refine lv_iconst (v := 1) hx hb d_Se_run_75 (by decide) ?_
  refine kp (C1 := R_Se) (T := F_Se) (N := 10) (ci := 7) (ty0 := t_Se) (ref := "LineBreaker$Search") (w2 := wC K ad (sI (sI (sI (sI (sI (sI (sI (sI (sL (sA (sA (sA (sA (sA (sA S 32 f3) 33 f4) 34 f5) 35 f6) 39 f9) 40 f12) 36 f7) 1862 1) 1864 i1864) 1865 i1865) 1922 v1) 1927 v2) 1989 v8) 2370 v10) 2371 v11) ++ X) C w 29 6 iw_Se tk_Se n_Se rfl rfl (by decide) kw_302 rfl rfl rfl rfl (Nat.le_of_ble_eq_true rfl) rfl d_Se_run_76 (fun H locs w => ?_)
  refine lv_iconst (v := 0) hx hb d_Se_run_79 (by decide) ?_
  refine lv_istore_n (lv' := [(3, .int 0), (0, .ref (ad 29)), (1, .int x1)]) hx hb d_Se_run_80 rfl hl (by decide) rfl (fun ls hl => ?_)
  obtain ⟨n9, hw⟩ := hw
  exact w_Se_run_81 C hr  n9 f3 f4 f5 f6 f9 f12 f7 (S.2.1 38) 1 (S.2.2 1863) i1864 i1865 v1 (S.2.2 1923) (S.2.2 1924) (S.2.2 1925) (S.2.2 1926) v2 (S.2.2 1928) v8 v10 v11 x1 0 hw _ _ _ (wn_eq w rfl) (lv_sub hl [1, 2, 0] rfl)
set_option maxHeartbeats 4000000 in
set_option maxRecDepth 100000 in
theorem w_Se_run_18 {S : ST} {post : Int32 → (Nat → Int32) → (Nat → Int32) → (Nat → Int32) → (Nat → Int32) → (Nat → Int32) → (Nat → Int32) → (Nat → Int64) → (Nat → Int64) → Int32 → Int32 → Int32 → Int32 → Int32 → Int32 → Int32 → Int32 → Int32 → Int32 → Int32 → Int32 → Int32 → Int32 → Prop} (C : cx p s m args meth c prog_9_method_2_code 4 "LineBreaker$Search" n0 G K) (hr : meth.sig.returnType = (some .int)) : ∀ (x1 : Int32) (x2 : Int32) (z2 : Int32), wl_Se_run_18 S post x1 x2 z2 → ∀ (H : Heap) (locs : List Loc) (ls : Array Slot), wn n0 G (wC K ad S ++ X) s H locs → lv_has ls 4 [(0, .ref (ad 29)), (1, .int x1), (2, .int x2)] → W p l e rm_Se_run s m args below meth c H locs 0 0 (MQ below (va_Qi (fun r (u : (Nat → Int32) × (Nat → Int32) × (Nat → Int32) × (Nat → Int32) × (Nat → Int32) × (Nat → Int32) × (Nat → Int64) × (Nat → Int64) × Int32 × Int32 × Int32 × Int32 × Int32 × Int32 × Int32 × Int32 × Int32 × Int32 × Int32 × Int32 × Int32 × Int32) => post r u.1 u.2.1 u.2.2.1 u.2.2.2.1 u.2.2.2.2.1 u.2.2.2.2.2.1 u.2.2.2.2.2.2.1 u.2.2.2.2.2.2.2.1 u.2.2.2.2.2.2.2.2.1 u.2.2.2.2.2.2.2.2.2.1 u.2.2.2.2.2.2.2.2.2.2.1 u.2.2.2.2.2.2.2.2.2.2.2.1 u.2.2.2.2.2.2.2.2.2.2.2.2.1 u.2.2.2.2.2.2.2.2.2.2.2.2.2.1 u.2.2.2.2.2.2.2.2.2.2.2.2.2.2.1 u.2.2.2.2.2.2.2.2.2.2.2.2.2.2.2.1 u.2.2.2.2.2.2.2.2.2.2.2.2.2.2.2.2.1 u.2.2.2.2.2.2.2.2.2.2.2.2.2.2.2.2.2.1 u.2.2.2.2.2.2.2.2.2.2.2.2.2.2.2.2.2.2.1 u.2.2.2.2.2.2.2.2.2.2.2.2.2.2.2.2.2.2.2.1 u.2.2.2.2.2.2.2.2.2.2.2.2.2.2.2.2.2.2.2.2.1 u.2.2.2.2.2.2.2.2.2.2.2.2.2.2.2.2.2.2.2.2.2) (fun (u : (Nat → Int32) × (Nat → Int32) × (Nat → Int32) × (Nat → Int32) × (Nat → Int32) × (Nat → Int32) × (Nat → Int64) × (Nat → Int64) × Int32 × Int32 × Int32 × Int32 × Int32 × Int32 × Int32 × Int32 × Int32 × Int32 × Int32 × Int32 × Int32 × Int32) t => we n0 G (wC K ad (sI (sI (sI (sI (sI (sI (sI (sI (sI (sI (sI (sI (sI (sI (sL (sL (sA (sA (sA (sA (sA (sA S 32 u.1) 33 u.2.1) 34 u.2.2.1) 35 u.2.2.2.1) 39 u.2.2.2.2.1) 40 u.2.2.2.2.2.1) 36 u.2.2.2.2.2.2.1) 38 u.2.2.2.2.2.2.2.1) 1862 u.2.2.2.2.2.2.2.2.1) 1863 u.2.2.2.2.2.2.2.2.2.1) 1864 u.2.2.2.2.2.2.2.2.2.2.1) 1865 u.2.2.2.2.2.2.2.2.2.2.2.1) 1922 u.2.2.2.2.2.2.2.2.2.2.2.2.1) 1923 u.2.2.2.2.2.2.2.2.2.2.2.2.2.1) 1924 u.2.2.2.2.2.2.2.2.2.2.2.2.2.2.1) 1925 u.2.2.2.2.2.2.2.2.2.2.2.2.2.2.2.1) 1926 u.2.2.2.2.2.2.2.2.2.2.2.2.2.2.2.2.1) 1927 u.2.2.2.2.2.2.2.2.2.2.2.2.2.2.2.2.2.1) 1928 u.2.2.2.2.2.2.2.2.2.2.2.2.2.2.2.2.2.2.1) 1989 u.2.2.2.2.2.2.2.2.2.2.2.2.2.2.2.2.2.2.2.1) 2370 u.2.2.2.2.2.2.2.2.2.2.2.2.2.2.2.2.2.2.2.2.1) 2371 u.2.2.2.2.2.2.2.2.2.2.2.2.2.2.2.2.2.2.2.2.2) ++ X) t) (al n0)) args s 0 0 (al n0)) (F0 m 18 ls [.int z2, .ref (ad 12), .ref (ad 29)]) := by
  have hx := C.1
  have hb := C.2.1
  have hts := C.2.2.2.2.1
  intro x1 x2 z2 hw H locs ls w hl
  unfold wl_Se_run_18 at hw
  refine ka_i (f := (S.1 12)) C w 12 rfl hw.1 d_Se_run_18 ?_
  have hw := hw.2
  refine lv_topi (fun v1 ev1 => ?_)
  have hw := hw v1 ev1
  refine kp (C1 := R_Se) (T := F_Se) (N := 10) (ci := 7) (ty0 := t_Se) (ref := "LineBreaker$Search") (w2 := wC K ad (sI S 1864 v1) ++ X) C w 29 8 iw_Se tk_Se n_Se rfl rfl (by decide) kw_304 rfl rfl rfl rfl (Nat.le_of_ble_eq_true rfl) rfl d_Se_run_19 (fun H locs w => ?_)
  refine lv_aload_n hx hb d_Se_run_22 rfl (lv_at hl 0 rfl) ?_
  refine lv_iload_n hx hb d_Se_run_23 rfl (lv_at hl 2 rfl) ?_
  have hz := hw.1
  have hw := hw.2
  refine kp (C1 := R_Se) (T := F_Se) (N := 10) (ci := 7) (ty0 := t_Se) (ref := "LineBreaker$Search") (w2 := wC K ad (sI (sI S 1864 v1) 1865 x2) ++ X) C w 29 9 iw_Se tk_Se n_Se rfl rfl (by decide) kw_305 rfl rfl (kz_n hz).1 (kz_n hz).2 (Nat.le_of_ble_eq_true rfl) rfl d_Se_run_24 (fun H locs w => ?_)
  refine lv_aload_n hx hb d_Se_run_27 rfl (lv_at hl 0 rfl) ?_
  refine kg (C1 := R_Se) (T := F_Se) (N := 10) (ci := 7) (ref := "LineBreaker$Search") (v := .ref (ad 30)) C w 29 2 iw_Se rfl rfl (by decide) kw_296 rfl rfl d_Se_run_28 ?_
  refine lv_iload_n hx hb d_Se_run_31 rfl (lv_at hl 1 rfl) ?_
  refine lv_iconst (v := 3) hx hb d_Se_run_32 (by decide) ?_
  refine lv_icmp_ne (tgt := 49) hx hb d_Se_run_33 (by decide) (fun hc => ?_) (fun hc => ?_)
  · have hw := hw.1 hc
    refine lv_iconst (v := 0) hx hb d_Se_run_49 (by decide) ?_
    exact w_Se_run_50 C hr  v1 x2 x1 0 hw _ _ _ (wn_eq w rfl) (lv_sub hl [0, 1] rfl)
  · have hw := hw.2 hc
    refine lv_aload_n hx hb d_Se_run_36 rfl (lv_at hl 0 rfl) ?_
    refine kg (C1 := R_Se) (T := F_Se) (N := 10) (ci := 7) (ref := "LineBreaker$Search") (v := .ref (ad 11)) C w 29 1 iw_Se rfl rfl (by decide) kw_295 rfl rfl d_Se_run_37 ?_
    refine kg (C1 := R_St) (T := F_St) (N := 5) (ci := 8) (ref := "LineBreaker$Settings") (v := .ref (ad 12)) C w 11 0 iw_St rfl rfl (by decide) kw_111 rfl rfl d_Se_run_40 ?_
    refine lv_bipush (v := 8) hx hb d_Se_run_43 (by decide) ?_
    refine ka_i (f := (S.1 12)) C w 12 rfl hw.1 d_Se_run_45 ?_
    have hw := hw.2
    refine lv_goto (tgt := 50) hx hb d_Se_run_46 (by decide) ?_
    exact w_Se_run_50 C hr  v1 x2 x1 ((S.1 12) (8 : Int32).toNatClampNeg) hw _ _ _ (wn_eq w rfl) (lv_sub hl [0, 1] rfl)
set_option maxHeartbeats 4000000 in
set_option maxRecDepth 100000 in
theorem c_Se_run (l : Launch) (n0 : Nat) (G : va_G) (K : KT) (ad : Nat → Nat) (X : va_W) (S : ST) (p1 : Int32) (p2 : Int32) (post : Int32 → (Nat → Int32) → (Nat → Int32) → (Nat → Int32) → (Nat → Int32) → (Nat → Int32) → (Nat → Int32) → (Nat → Int64) → (Nat → Int64) → Int32 → Int32 → Int32 → Int32 → Int32 → Int32 → Int32 → Int32 → Int32 → Int32 → Int32 → Int32 → Int32 → Int32 → Prop) (hw : wp_Se_run S p1 p2 post) : Met l y_Se_run (Cond.code y_Se_run prog_9_method_2_code 4 (some .int) :: gw) rm_Se_run (va_Pc [.ref (ad 29), .int p1, .int p2] (wb n0 G K (wC K ad S ++ X))) (va_Qi (fun r (u : (Nat → Int32) × (Nat → Int32) × (Nat → Int32) × (Nat → Int32) × (Nat → Int32) × (Nat → Int32) × (Nat → Int64) × (Nat → Int64) × Int32 × Int32 × Int32 × Int32 × Int32 × Int32 × Int32 × Int32 × Int32 × Int32 × Int32 × Int32 × Int32 × Int32) => post r u.1 u.2.1 u.2.2.1 u.2.2.2.1 u.2.2.2.2.1 u.2.2.2.2.2.1 u.2.2.2.2.2.2.1 u.2.2.2.2.2.2.2.1 u.2.2.2.2.2.2.2.2.1 u.2.2.2.2.2.2.2.2.2.1 u.2.2.2.2.2.2.2.2.2.2.1 u.2.2.2.2.2.2.2.2.2.2.2.1 u.2.2.2.2.2.2.2.2.2.2.2.2.1 u.2.2.2.2.2.2.2.2.2.2.2.2.2.1 u.2.2.2.2.2.2.2.2.2.2.2.2.2.2.1 u.2.2.2.2.2.2.2.2.2.2.2.2.2.2.2.1 u.2.2.2.2.2.2.2.2.2.2.2.2.2.2.2.2.1 u.2.2.2.2.2.2.2.2.2.2.2.2.2.2.2.2.2.1 u.2.2.2.2.2.2.2.2.2.2.2.2.2.2.2.2.2.2.1 u.2.2.2.2.2.2.2.2.2.2.2.2.2.2.2.2.2.2.2.1 u.2.2.2.2.2.2.2.2.2.2.2.2.2.2.2.2.2.2.2.2.1 u.2.2.2.2.2.2.2.2.2.2.2.2.2.2.2.2.2.2.2.2.2) (fun (u : (Nat → Int32) × (Nat → Int32) × (Nat → Int32) × (Nat → Int32) × (Nat → Int32) × (Nat → Int32) × (Nat → Int64) × (Nat → Int64) × Int32 × Int32 × Int32 × Int32 × Int32 × Int32 × Int32 × Int32 × Int32 × Int32 × Int32 × Int32 × Int32 × Int32) t => we n0 G (wC K ad (sI (sI (sI (sI (sI (sI (sI (sI (sI (sI (sI (sI (sI (sI (sL (sL (sA (sA (sA (sA (sA (sA S 32 u.1) 33 u.2.1) 34 u.2.2.1) 35 u.2.2.2.1) 39 u.2.2.2.2.1) 40 u.2.2.2.2.2.1) 36 u.2.2.2.2.2.2.1) 38 u.2.2.2.2.2.2.2.1) 1862 u.2.2.2.2.2.2.2.2.1) 1863 u.2.2.2.2.2.2.2.2.2.1) 1864 u.2.2.2.2.2.2.2.2.2.2.1) 1865 u.2.2.2.2.2.2.2.2.2.2.2.1) 1922 u.2.2.2.2.2.2.2.2.2.2.2.2.1) 1923 u.2.2.2.2.2.2.2.2.2.2.2.2.2.1) 1924 u.2.2.2.2.2.2.2.2.2.2.2.2.2.2.1) 1925 u.2.2.2.2.2.2.2.2.2.2.2.2.2.2.2.1) 1926 u.2.2.2.2.2.2.2.2.2.2.2.2.2.2.2.2.1) 1927 u.2.2.2.2.2.2.2.2.2.2.2.2.2.2.2.2.2.1) 1928 u.2.2.2.2.2.2.2.2.2.2.2.2.2.2.2.2.2.2.1) 1989 u.2.2.2.2.2.2.2.2.2.2.2.2.2.2.2.2.2.2.2.1) 2370 u.2.2.2.2.2.2.2.2.2.2.2.2.2.2.2.2.2.2.2.2.1) 2371 u.2.2.2.2.2.2.2.2.2.2.2.2.2.2.2.2.2.2.2.2.2) ++ X) t) (al n0)) 0 0 (al n0) := by
  refine kb_start (own := "LineBreaker$Search") (by decide +kernel) rfl ?_
  intro p e s m below meth c C hr hnm w
  have hx := C.1
  have hb := C.2.1
  have hts := C.2.2.2.2.1
  have hl := lv_entry ([.ref (ad 29), .int p1, .int p2]) (n := 4) (Nat.le_of_ble_eq_true rfl)
  rw [lg_entry_eq]
  generalize (lg_sl ([.ref (ad 29), .int p1, .int p2]) ++ List.replicate (4 - (lg_sl ([.ref (ad 29), .int p1, .int p2])).length) Slot.unset).toArray = ls at hl ⊢
  have hl : lv_has ls 4 [(0, .ref (ad 29)), (1, .int p1), (2, .int p2)] := hl
  unfold wp_Se_run at hw
  refine lv_aload_n hx hb d_Se_run_0 rfl (lv_at hl 0 rfl) ?_
  refine lv_aload_n hx hb d_Se_run_1 rfl (lv_at hl 0 rfl) ?_
  refine kg (C1 := R_Se) (T := F_Se) (N := 10) (ci := 7) (ref := "LineBreaker$Search") (v := .ref (ad 11)) C w 29 1 iw_Se rfl rfl (by decide) kw_295 rfl rfl d_Se_run_2 ?_
  refine kg (C1 := R_St) (T := F_St) (N := 5) (ci := 8) (ref := "LineBreaker$Settings") (v := .ref (ad 12)) C w 11 0 iw_St rfl rfl (by decide) kw_111 rfl rfl d_Se_run_5 ?_
  refine lv_iload_n hx hb d_Se_run_8 rfl (lv_at hl 1 rfl) ?_
  refine lv_iconst (v := 1) hx hb d_Se_run_9 (by decide) ?_
  refine lv_icmp_ne (tgt := 17) hx hb d_Se_run_10 (by decide) (fun hc => ?_) (fun hc => ?_)
  · have hw := hw.1 hc
    refine lv_iconst (v := 1) hx hb d_Se_run_17 (by decide) ?_
    exact w_Se_run_18 C hr  p1 p2 1 hw _ _ _ (wn_eq w rfl) (lv_sub hl [0, 1, 2] rfl)
  · have hw := hw.2 hc
    refine lv_iconst (v := 0) hx hb d_Se_run_13 (by decide) ?_
    refine lv_goto (tgt := 18) hx hb d_Se_run_14 (by decide) ?_
    exact w_Se_run_18 C hr  p1 p2 0 hw _ _ _ (wn_eq w rfl) (lv_sub hl [0, 1, 2] rfl)
end
end
section
theorem kw_53 : (Jvm.Cond.fieldLink "LineBreaker$Paragraph" (39 : Nat) "LineBreaker$Paragraph" "count" "I") ∈ gw := gw_t (List.mem_of_getElem? (i := 53) (by decide +kernel)) (by decide +kernel)
theorem kw_35 : (Jvm.Cond.fieldLink "LineBreaker$Paragraph" (9 : Nat) "LineBreaker$Paragraph" "kind" "[I") ∈ gw := gw_t (List.mem_of_getElem? (i := 35) (by decide +kernel)) (by decide +kernel)
theorem kw_580 : (Jvm.Cond.constant "LineBreaker" (222 : Nat) (-1073741824 : Int32)) ∈ gw := gw_t (List.mem_of_getElem? (i := 580) (by decide +kernel)) (by decide +kernel)
theorem kw_147 : (Jvm.Cond.fieldLink "LineBreaker$Galley" (25 : Nat) "LineBreaker$Galley" "before" "[I") ∈ gw := gw_t (List.mem_of_getElem? (i := 147) (by decide +kernel)) (by decide +kernel)
theorem kw_48 : (Jvm.Cond.fieldLink "LineBreaker$Galley" (83 : Nat) "LineBreaker$Paragraph" "before" "[I") ∈ gw := gw_t (List.mem_of_getElem? (i := 48) (by decide +kernel)) (by decide +kernel)
theorem kw_50 : (Jvm.Cond.fieldLink "LineBreaker$Galley" (92 : Nat) "LineBreaker$Paragraph" "behind" "[I") ∈ gw := gw_t (List.mem_of_getElem? (i := 50) (by decide +kernel)) (by decide +kernel)
theorem kw_649 : (Jvm.Cond.code ({ cls := "LineBreaker", name := "widthOf", desc := "(I)I" } : Jvm.MethodName) prog_1_method_25_code (1 : Nat) (Option.some Jvm.ClassFile.FieldType.int)) ∈ gw := gw_t (List.mem_of_getElem? (i := 649) (by decide +kernel)) (by decide +kernel)
theorem kw_648 : (Jvm.Cond.static ({ cls := "LineBreaker", name := "widthOf", desc := "(I)I" } : Jvm.MethodName)) ∈ gw := gw_t (List.mem_of_getElem? (i := 648) (by decide +kernel)) (by decide +kernel)
theorem kw_1 : (Jvm.Cond.initialized "LineBreaker") ∈ gw := gw_t (List.mem_of_getElem? (i := 1) (by decide +kernel)) (by decide +kernel)
theorem kw_143 : (Jvm.Cond.fieldLink "LineBreaker$Galley" (15 : Nat) "LineBreaker$Galley" "penalty" "[I") ∈ gw := gw_t (List.mem_of_getElem? (i := 143) (by decide +kernel)) (by decide +kernel)
theorem kw_112 : (Jvm.Cond.fieldLink "LineBreaker$Galley" (85 : Nat) "LineBreaker$Settings" "values" "[I") ∈ gw := gw_t (List.mem_of_getElem? (i := 112) (by decide +kernel)) (by decide +kernel)
theorem kw_36 : (Jvm.Cond.fieldLink "LineBreaker$Galley" (81 : Nat) "LineBreaker$Paragraph" "kind" "[I") ∈ gw := gw_t (List.mem_of_getElem? (i := 36) (by decide +kernel)) (by decide +kernel)
theorem kw_46 : (Jvm.Cond.fieldLink "LineBreaker$Galley" (82 : Nat) "LineBreaker$Paragraph" "penalty" "[I") ∈ gw := gw_t (List.mem_of_getElem? (i := 46) (by decide +kernel)) (by decide +kernel)
theorem kw_677 : (Jvm.Cond.constant "LineBreaker$Galley" (84 : Nat) (-1073741824 : Int32)) ∈ gw := gw_t (List.mem_of_getElem? (i := 677) (by decide +kernel)) (by decide +kernel)
theorem kw_159 : (Jvm.Cond.fieldLink "LineBreaker$Galley" (52 : Nat) "LineBreaker$Galley" "last" "I") ∈ gw := gw_t (List.mem_of_getElem? (i := 159) (by decide +kernel)) (by decide +kernel)
theorem kw_156 : (Jvm.Cond.fieldLink "LineBreaker$Galley" (40 : Nat) "LineBreaker$Galley" "shrinkUpTo" "[I") ∈ gw := gw_t (List.mem_of_getElem? (i := 156) (by decide +kernel)) (by decide +kernel)
theorem kw_44 : (Jvm.Cond.fieldLink "LineBreaker$Galley" (102 : Nat) "LineBreaker$Paragraph" "shrink" "[I") ∈ gw := gw_t (List.mem_of_getElem? (i := 44) (by decide +kernel)) (by decide +kernel)
theorem kw_154 : (Jvm.Cond.fieldLink "LineBreaker$Galley" (37 : Nat) "LineBreaker$Galley" "endlessUpTo" "[I") ∈ gw := gw_t (List.mem_of_getElem? (i := 154) (by decide +kernel)) (by decide +kernel)
theorem kw_40 : (Jvm.Cond.fieldLink "LineBreaker$Galley" (96 : Nat) "LineBreaker$Paragraph" "stretch" "[I") ∈ gw := gw_t (List.mem_of_getElem? (i := 40) (by decide +kernel)) (by decide +kernel)
theorem kw_150 : (Jvm.Cond.fieldLink "LineBreaker$Galley" (31 : Nat) "LineBreaker$Galley" "widthUpTo" "[I") ∈ gw := gw_t (List.mem_of_getElem? (i := 150) (by decide +kernel)) (by decide +kernel)
theorem kw_38 : (Jvm.Cond.fieldLink "LineBreaker$Galley" (99 : Nat) "LineBreaker$Paragraph" "width" "[I") ∈ gw := gw_t (List.mem_of_getElem? (i := 38) (by decide +kernel)) (by decide +kernel)
theorem kw_152 : (Jvm.Cond.fieldLink "LineBreaker$Galley" (34 : Nat) "LineBreaker$Galley" "finiteUpTo" "[I") ∈ gw := gw_t (List.mem_of_getElem? (i := 152) (by decide +kernel)) (by decide +kernel)
theorem kw_92 : (Jvm.Cond.fieldLink "LineBreaker$Galley" (105 : Nat) "LineBreaker$Glue" "width" "I") ∈ gw := gw_t (List.mem_of_getElem? (i := 92) (by decide +kernel)) (by decide +kernel)
theorem kw_99 : (Jvm.Cond.fieldLink "LineBreaker$Galley" (115 : Nat) "LineBreaker$Glue" "shrink" "I") ∈ gw := gw_t (List.mem_of_getElem? (i := 99) (by decide +kernel)) (by decide +kernel)
theorem kw_691 : (Jvm.Cond.methodLink "LineBreaker$Galley" (112 : Nat) ({ cls := "LineBreaker$Glue", name := "endlessStretch", desc := "()I" } : Jvm.MethodName)) ∈ gw := gw_t (List.mem_of_getElem? (i := 691) (by decide +kernel)) (by decide +kernel)
theorem kw_687 : (Jvm.Cond.methodLink "LineBreaker$Galley" (109 : Nat) ({ cls := "LineBreaker$Glue", name := "finiteStretch", desc := "()I" } : Jvm.MethodName)) ∈ gw := gw_t (List.mem_of_getElem? (i := 687) (by decide +kernel)) (by decide +kernel)
theorem kw_42 : (Jvm.Cond.fieldLink "LineBreaker$Galley" (93 : Nat) "LineBreaker$Paragraph" "order" "[I") ∈ gw := gw_t (List.mem_of_getElem? (i := 42) (by decide +kernel)) (by decide +kernel)
theorem kw_52 : (Jvm.Cond.fieldLink "LineBreaker$Galley" (121 : Nat) "LineBreaker$Paragraph" "replaced" "[I") ∈ gw := gw_t (List.mem_of_getElem? (i := 52) (by decide +kernel)) (by decide +kernel)
theorem kw_702 : (Jvm.Cond.code ({ cls := "LineBreaker$Galley", name := "mayBreak", desc := "(II)Z" } : Jvm.MethodName) prog_2_method_11_code (3 : Nat) (Option.some Jvm.ClassFile.FieldType.boolean)) ∈ gw := gw_t (List.mem_of_getElem? (i := 702) (by decide +kernel)) (by decide +kernel)
theorem kw_699 : (Jvm.Cond.methodLink "LineBreaker$Galley" (117 : Nat) ({ cls := "LineBreaker$Galley", name := "mayBreak", desc := "(II)Z" } : Jvm.MethodName)) ∈ gw := gw_t (List.mem_of_getElem? (i := 699) (by decide +kernel)) (by decide +kernel)
theorem kw_701 : (Jvm.Cond.instanceMethod ({ cls := "LineBreaker$Galley", name := "mayBreak", desc := "(II)Z" } : Jvm.MethodName)) ∈ gw := gw_t (List.mem_of_getElem? (i := 701) (by decide +kernel)) (by decide +kernel)
theorem kp_8 : Cond.selects "LineBreaker$Galley" ⟨"LineBreaker$Galley", "mayBreak", "(II)Z"⟩ ⟨"LineBreaker$Galley", "mayBreak", "(II)Z"⟩ ∈ gw := gw_s (List.mem_of_getElem? (i := 8) (by decide +kernel)) (by decide +kernel)
theorem kw_158 : (Jvm.Cond.fieldLink "LineBreaker$Galley" (43 : Nat) "LineBreaker$Galley" "nextKept" "[I") ∈ gw := gw_t (List.mem_of_getElem? (i := 158) (by decide +kernel)) (by decide +kernel)
theorem kw_710 : (Jvm.Cond.methodLink "LineBreaker$Galley" (128 : Nat) ({ cls := "java/lang/Math", name := "min", desc := "(II)I" } : Jvm.MethodName)) ∈ gw := gw_t (List.mem_of_getElem? (i := 710) (by decide +kernel)) (by decide +kernel)
theorem kw_709 : (Jvm.Cond.code ({ cls := "LineBreaker$Galley", name := "isLeftOut", desc := "(I)Z" } : Jvm.MethodName) prog_2_method_13_code (1 : Nat) (Option.some Jvm.ClassFile.FieldType.boolean)) ∈ gw := gw_t (List.mem_of_getElem? (i := 709) (by decide +kernel)) (by decide +kernel)
theorem kw_708 : (Jvm.Cond.static ({ cls := "LineBreaker$Galley", name := "isLeftOut", desc := "(I)Z" } : Jvm.MethodName)) ∈ gw := gw_t (List.mem_of_getElem? (i := 708) (by decide +kernel)) (by decide +kernel)
theorem kw_707 : (Jvm.Cond.methodLink "LineBreaker$Galley" (124 : Nat) ({ cls := "LineBreaker$Galley", name := "isLeftOut", desc := "(I)Z" } : Jvm.MethodName)) ∈ gw := gw_t (List.mem_of_getElem? (i := 707) (by decide +kernel)) (by decide +kernel)
theorem kw_123 : (Jvm.Cond.fieldLink "LineBreaker$Galley" (64 : Nat) "LineBreaker$Settings" "fill" "LLineBreaker$Glue;") ∈ gw := gw_t (List.mem_of_getElem? (i := 123) (by decide +kernel)) (by decide +kernel)
theorem kw_706 : (Jvm.Cond.code ({ cls := "LineBreaker$Galley", name := "findFirstOnes", desc := "(LLineBreaker$Paragraph;I)V" } : Jvm.MethodName) prog_2_method_12_code (5 : Nat) (Option.none : Option Jvm.ClassFile.FieldType)) ∈ gw := gw_t (List.mem_of_getElem? (i := 706) (by decide +kernel)) (by decide +kernel)
theorem kw_703 : (Jvm.Cond.methodLink "LineBreaker$Galley" (78 : Nat) ({ cls := "LineBreaker$Galley", name := "findFirstOnes", desc := "(LLineBreaker$Paragraph;I)V" } : Jvm.MethodName)) ∈ gw := gw_t (List.mem_of_getElem? (i := 703) (by decide +kernel)) (by decide +kernel)
theorem kw_705 : (Jvm.Cond.instanceMethod ({ cls := "LineBreaker$Galley", name := "findFirstOnes", desc := "(LLineBreaker$Paragraph;I)V" } : Jvm.MethodName)) ∈ gw := gw_t (List.mem_of_getElem? (i := 705) (by decide +kernel)) (by decide +kernel)
theorem kp_9 : Cond.selects "LineBreaker$Galley" ⟨"LineBreaker$Galley", "findFirstOnes", "(LLineBreaker$Paragraph;I)V"⟩ ⟨"LineBreaker$Galley", "findFirstOnes", "(LLineBreaker$Paragraph;I)V"⟩ ∈ gw := gw_s (List.mem_of_getElem? (i := 9) (by decide +kernel)) (by decide +kernel)
theorem kw_698 : (Jvm.Cond.code ({ cls := "LineBreaker$Galley", name := "markPlaces", desc := "(LLineBreaker$Paragraph;I)V" } : Jvm.MethodName) prog_2_method_10_code (5 : Nat) (Option.none : Option Jvm.ClassFile.FieldType)) ∈ gw := gw_t (List.mem_of_getElem? (i := 698) (by decide +kernel)) (by decide +kernel)
theorem kw_695 : (Jvm.Cond.methodLink "LineBreaker$Galley" (74 : Nat) ({ cls := "LineBreaker$Galley", name := "markPlaces", desc := "(LLineBreaker$Paragraph;I)V" } : Jvm.MethodName)) ∈ gw := gw_t (List.mem_of_getElem? (i := 695) (by decide +kernel)) (by decide +kernel)
theorem kw_697 : (Jvm.Cond.instanceMethod ({ cls := "LineBreaker$Galley", name := "markPlaces", desc := "(LLineBreaker$Paragraph;I)V" } : Jvm.MethodName)) ∈ gw := gw_t (List.mem_of_getElem? (i := 697) (by decide +kernel)) (by decide +kernel)
theorem kp_7 : Cond.selects "LineBreaker$Galley" ⟨"LineBreaker$Galley", "markPlaces", "(LLineBreaker$Paragraph;I)V"⟩ ⟨"LineBreaker$Galley", "markPlaces", "(LLineBreaker$Paragraph;I)V"⟩ ∈ gw := gw_s (List.mem_of_getElem? (i := 7) (by decide +kernel)) (by decide +kernel)
theorem kw_686 : (Jvm.Cond.code ({ cls := "LineBreaker$Galley", name := "sumUp", desc := "(LLineBreaker$Paragraph;LLineBreaker$Glue;I)V" } : Jvm.MethodName) prog_2_method_9_code (7 : Nat) (Option.none : Option Jvm.ClassFile.FieldType)) ∈ gw := gw_t (List.mem_of_getElem? (i := 686) (by decide +kernel)) (by decide +kernel)
theorem kw_683 : (Jvm.Cond.methodLink "LineBreaker$Galley" (70 : Nat) ({ cls := "LineBreaker$Galley", name := "sumUp", desc := "(LLineBreaker$Paragraph;LLineBreaker$Glue;I)V" } : Jvm.MethodName)) ∈ gw := gw_t (List.mem_of_getElem? (i := 683) (by decide +kernel)) (by decide +kernel)
theorem kw_685 : (Jvm.Cond.instanceMethod ({ cls := "LineBreaker$Galley", name := "sumUp", desc := "(LLineBreaker$Paragraph;LLineBreaker$Glue;I)V" } : Jvm.MethodName)) ∈ gw := gw_t (List.mem_of_getElem? (i := 685) (by decide +kernel)) (by decide +kernel)
theorem kp_6 : Cond.selects "LineBreaker$Galley" ⟨"LineBreaker$Galley", "sumUp", "(LLineBreaker$Paragraph;LLineBreaker$Glue;I)V"⟩ ⟨"LineBreaker$Galley", "sumUp", "(LLineBreaker$Paragraph;LLineBreaker$Glue;I)V"⟩ ∈ gw := gw_s (List.mem_of_getElem? (i := 6) (by decide +kernel)) (by decide +kernel)
theorem kw_682 : (Jvm.Cond.code ({ cls := "LineBreaker$Galley", name := "close", desc := "(I)V" } : Jvm.MethodName) prog_2_method_8_code (3 : Nat) (Option.none : Option Jvm.ClassFile.FieldType)) ∈ gw := gw_t (List.mem_of_getElem? (i := 682) (by decide +kernel)) (by decide +kernel)
theorem kw_679 : (Jvm.Cond.methodLink "LineBreaker$Galley" (60 : Nat) ({ cls := "LineBreaker$Galley", name := "close", desc := "(I)V" } : Jvm.MethodName)) ∈ gw := gw_t (List.mem_of_getElem? (i := 679) (by decide +kernel)) (by decide +kernel)
theorem kw_681 : (Jvm.Cond.instanceMethod ({ cls := "LineBreaker$Galley", name := "close", desc := "(I)V" } : Jvm.MethodName)) ∈ gw := gw_t (List.mem_of_getElem? (i := 681) (by decide +kernel)) (by decide +kernel)
theorem kp_5 : Cond.selects "LineBreaker$Galley" ⟨"LineBreaker$Galley", "close", "(I)V"⟩ ⟨"LineBreaker$Galley", "close", "(I)V"⟩ ∈ gw := gw_s (List.mem_of_getElem? (i := 5) (by decide +kernel)) (by decide +kernel)
theorem kw_676 : (Jvm.Cond.code ({ cls := "LineBreaker$Galley", name := "copyItems", desc := "(LLineBreaker$Paragraph;LLineBreaker$Settings;I)V" } : Jvm.MethodName) prog_2_method_7_code (6 : Nat) (Option.none : Option Jvm.ClassFile.FieldType)) ∈ gw := gw_t (List.mem_of_getElem? (i := 676) (by decide +kernel)) (by decide +kernel)
theorem kw_673 : (Jvm.Cond.methodLink "LineBreaker$Galley" (56 : Nat) ({ cls := "LineBreaker$Galley", name := "copyItems", desc := "(LLineBreaker$Paragraph;LLineBreaker$Settings;I)V" } : Jvm.MethodName)) ∈ gw := gw_t (List.mem_of_getElem? (i := 673) (by decide +kernel)) (by decide +kernel)
theorem kw_675 : (Jvm.Cond.instanceMethod ({ cls := "LineBreaker$Galley", name := "copyItems", desc := "(LLineBreaker$Paragraph;LLineBreaker$Settings;I)V" } : Jvm.MethodName)) ∈ gw := gw_t (List.mem_of_getElem? (i := 675) (by decide +kernel)) (by decide +kernel)
theorem kp_4 : Cond.selects "LineBreaker$Galley" ⟨"LineBreaker$Galley", "copyItems", "(LLineBreaker$Paragraph;LLineBreaker$Settings;I)V"⟩ ⟨"LineBreaker$Galley", "copyItems", "(LLineBreaker$Paragraph;LLineBreaker$Settings;I)V"⟩ ∈ gw := gw_s (List.mem_of_getElem? (i := 4) (by decide +kernel)) (by decide +kernel)
theorem kw_672 : (Jvm.Cond.code ({ cls := "LineBreaker$Paragraph", name := "countWithoutLastGlue", desc := "()I" } : Jvm.MethodName) prog_8_method_7_code (1 : Nat) (Option.some Jvm.ClassFile.FieldType.int)) ∈ gw := gw_t (List.mem_of_getElem? (i := 672) (by decide +kernel)) (by decide +kernel)
theorem kw_669 : (Jvm.Cond.methodLink "LineBreaker$Galley" (46 : Nat) ({ cls := "LineBreaker$Paragraph", name := "countWithoutLastGlue", desc := "()I" } : Jvm.MethodName)) ∈ gw := gw_t (List.mem_of_getElem? (i := 669) (by decide +kernel)) (by decide +kernel)
theorem kw_670 : (Jvm.Cond.instanceMethod ({ cls := "LineBreaker$Paragraph", name := "countWithoutLastGlue", desc := "()I" } : Jvm.MethodName)) ∈ gw := gw_t (List.mem_of_getElem? (i := 670) (by decide +kernel)) (by decide +kernel)
theorem kw_671 : (Jvm.Cond.selects "LineBreaker$Paragraph" ({ cls := "LineBreaker$Paragraph", name := "countWithoutLastGlue", desc := "()I" } : Jvm.MethodName) ({ cls := "LineBreaker$Paragraph", name := "countWithoutLastGlue", desc := "()I" } : Jvm.MethodName)) ∈ gw := gw_t (List.mem_of_getElem? (i := 671) (by decide +kernel)) (by decide +kernel)
theorem kw_2 : (Jvm.Cond.initialized "LineBreaker$Paragraph") ∈ gw := gw_t (List.mem_of_getElem? (i := 2) (by decide +kernel)) (by decide +kernel)
theorem kw_339 : (Jvm.Cond.fieldLink "LineBreaker$Outcome" (20 : Nat) "LineBreaker$Outcome" "count" "I") ∈ gw := gw_t (List.mem_of_getElem? (i := 339) (by decide +kernel)) (by decide +kernel)
theorem kw_341 : (Jvm.Cond.fieldLink "LineBreaker$Outcome" (24 : Nat) "LineBreaker$Outcome" "passNumber" "I") ∈ gw := gw_t (List.mem_of_getElem? (i := 341) (by decide +kernel)) (by decide +kernel)
theorem kw_343 : (Jvm.Cond.fieldLink "LineBreaker$Outcome" (27 : Nat) "LineBreaker$Outcome" "nodesMade" "I") ∈ gw := gw_t (List.mem_of_getElem? (i := 343) (by decide +kernel)) (by decide +kernel)
theorem kw_250 : (Jvm.Cond.fieldLink "LineBreaker$Outcome" (43 : Nat) "LineBreaker$Nodes" "former" "[I") ∈ gw := gw_t (List.mem_of_getElem? (i := 250) (by decide +kernel)) (by decide +kernel)
theorem kw_239 : (Jvm.Cond.fieldLink "LineBreaker$Outcome" (46 : Nat) "LineBreaker$Nodes" "place" "[I") ∈ gw := gw_t (List.mem_of_getElem? (i := 239) (by decide +kernel)) (by decide +kernel)
theorem kw_335 : (Jvm.Cond.fieldLink "LineBreaker$Outcome" (13 : Nat) "LineBreaker$Outcome" "facts" "[[I") ∈ gw := gw_t (List.mem_of_getElem? (i := 335) (by decide +kernel)) (by decide +kernel)
theorem kw_294 : (Jvm.Cond.fieldLink "LineBreaker$Outcome" (53 : Nat) "LineBreaker$Search" "galley" "LLineBreaker$Galley;") ∈ gw := gw_t (List.mem_of_getElem? (i := 294) (by decide +kernel)) (by decide +kernel)
theorem kw_297 : (Jvm.Cond.fieldLink "LineBreaker$Outcome" (63 : Nat) "LineBreaker$Search" "gauge" "LLineBreaker$Gauge;") ∈ gw := gw_t (List.mem_of_getElem? (i := 297) (by decide +kernel)) (by decide +kernel)
theorem kw_202 : (Jvm.Cond.fieldLink "LineBreaker$Outcome" (67 : Nat) "LineBreaker$Gauge" "shortfall" "I") ∈ gw := gw_t (List.mem_of_getElem? (i := 202) (by decide +kernel)) (by decide +kernel)
theorem kw_205 : (Jvm.Cond.fieldLink "LineBreaker$Outcome" (72 : Nat) "LineBreaker$Gauge" "badness" "I") ∈ gw := gw_t (List.mem_of_getElem? (i := 205) (by decide +kernel)) (by decide +kernel)
theorem kw_207 : (Jvm.Cond.fieldLink "LineBreaker$Outcome" (75 : Nat) "LineBreaker$Gauge" "fit" "I") ∈ gw := gw_t (List.mem_of_getElem? (i := 207) (by decide +kernel)) (by decide +kernel)
theorem kw_337 : (Jvm.Cond.fieldLink "LineBreaker$Outcome" (16 : Nat) "LineBreaker$Outcome" "totals" "[J") ∈ gw := gw_t (List.mem_of_getElem? (i := 337) (by decide +kernel)) (by decide +kernel)
theorem kw_254 : (Jvm.Cond.fieldLink "LineBreaker$Outcome" (78 : Nat) "LineBreaker$Nodes" "total" "[J") ∈ gw := gw_t (List.mem_of_getElem? (i := 254) (by decide +kernel)) (by decide +kernel)
theorem kw_833 : (Jvm.Cond.methodLink "LineBreaker$Outcome" (57 : Nat) ({ cls := "LineBreaker$Galley", name := "firstOneFrom", desc := "(I)I" } : Jvm.MethodName)) ∈ gw := gw_t (List.mem_of_getElem? (i := 833) (by decide +kernel)) (by decide +kernel)
theorem kw_832 : (Jvm.Cond.methodLink "LineBreaker$Outcome" (49 : Nat) ({ cls := "LineBreaker$Search", name := "measureFrom", desc := "(II)V" } : Jvm.MethodName)) ∈ gw := gw_t (List.mem_of_getElem? (i := 832) (by decide +kernel)) (by decide +kernel)
theorem kw_299 : (Jvm.Cond.fieldLink "LineBreaker$Outcome" (30 : Nat) "LineBreaker$Search" "nodes" "LLineBreaker$Nodes;") ∈ gw := gw_t (List.mem_of_getElem? (i := 299) (by decide +kernel)) (by decide +kernel)
theorem kw_243 : (Jvm.Cond.fieldLink "LineBreaker$Outcome" (36 : Nat) "LineBreaker$Nodes" "lines" "[I") ∈ gw := gw_t (List.mem_of_getElem? (i := 243) (by decide +kernel)) (by decide +kernel)
theorem kw_257 : (Jvm.Cond.fieldLink "LineBreaker$Outcome" (42 : Nat) "LineBreaker$Nodes" "count" "I") ∈ gw := gw_t (List.mem_of_getElem? (i := 257) (by decide +kernel)) (by decide +kernel)
theorem kw_37 : (Jvm.Cond.fieldLink "LineBreaker$Paragraph" (15 : Nat) "LineBreaker$Paragraph" "width" "[I") ∈ gw := gw_t (List.mem_of_getElem? (i := 37) (by decide +kernel)) (by decide +kernel)
theorem kw_39 : (Jvm.Cond.fieldLink "LineBreaker$Paragraph" (18 : Nat) "LineBreaker$Paragraph" "stretch" "[I") ∈ gw := gw_t (List.mem_of_getElem? (i := 39) (by decide +kernel)) (by decide +kernel)
theorem kw_41 : (Jvm.Cond.fieldLink "LineBreaker$Paragraph" (21 : Nat) "LineBreaker$Paragraph" "order" "[I") ∈ gw := gw_t (List.mem_of_getElem? (i := 41) (by decide +kernel)) (by decide +kernel)
theorem kw_43 : (Jvm.Cond.fieldLink "LineBreaker$Paragraph" (24 : Nat) "LineBreaker$Paragraph" "shrink" "[I") ∈ gw := gw_t (List.mem_of_getElem? (i := 43) (by decide +kernel)) (by decide +kernel)
theorem kw_45 : (Jvm.Cond.fieldLink "LineBreaker$Paragraph" (27 : Nat) "LineBreaker$Paragraph" "penalty" "[I") ∈ gw := gw_t (List.mem_of_getElem? (i := 45) (by decide +kernel)) (by decide +kernel)
theorem kw_47 : (Jvm.Cond.fieldLink "LineBreaker$Paragraph" (30 : Nat) "LineBreaker$Paragraph" "before" "[I") ∈ gw := gw_t (List.mem_of_getElem? (i := 47) (by decide +kernel)) (by decide +kernel)
theorem kw_502 : (Jvm.Cond.constant "LineBreaker$Paragraph" (43 : Nat) (-1073741824 : Int32)) ∈ gw := gw_t (List.mem_of_getElem? (i := 502) (by decide +kernel)) (by decide +kernel)
theorem kw_49 : (Jvm.Cond.fieldLink "LineBreaker$Paragraph" (33 : Nat) "LineBreaker$Paragraph" "behind" "[I") ∈ gw := gw_t (List.mem_of_getElem? (i := 49) (by decide +kernel)) (by decide +kernel)
theorem kw_51 : (Jvm.Cond.fieldLink "LineBreaker$Paragraph" (36 : Nat) "LineBreaker$Paragraph" "replaced" "[I") ∈ gw := gw_t (List.mem_of_getElem? (i := 51) (by decide +kernel)) (by decide +kernel)
theorem kw_501 : (Jvm.Cond.code ({ cls := "LineBreaker$Paragraph", name := "append", desc := "(II)I" } : Jvm.MethodName) prog_8_method_2_code (4 : Nat) (Option.some Jvm.ClassFile.FieldType.int)) ∈ gw := gw_t (List.mem_of_getElem? (i := 501) (by decide +kernel)) (by decide +kernel)
theorem kw_547 : (Jvm.Cond.methodLink "LineBreaker$Paragraph" (44 : Nat) ({ cls := "LineBreaker$Paragraph", name := "append", desc := "(II)I" } : Jvm.MethodName)) ∈ gw := gw_t (List.mem_of_getElem? (i := 547) (by decide +kernel)) (by decide +kernel)
theorem kw_499 : (Jvm.Cond.instanceMethod ({ cls := "LineBreaker$Paragraph", name := "append", desc := "(II)I" } : Jvm.MethodName)) ∈ gw := gw_t (List.mem_of_getElem? (i := 499) (by decide +kernel)) (by decide +kernel)
theorem kw_500 : (Jvm.Cond.selects "LineBreaker$Paragraph" ({ cls := "LineBreaker$Paragraph", name := "append", desc := "(II)I" } : Jvm.MethodName) ({ cls := "LineBreaker$Paragraph", name := "append", desc := "(II)I" } : Jvm.MethodName)) ∈ gw := gw_t (List.mem_of_getElem? (i := 500) (by decide +kernel)) (by decide +kernel)
theorem kw_524 : (Jvm.Cond.methodLink "LineBreaker$Paragraph" (48 : Nat) ({ cls := "java/lang/Math", name := "max", desc := "(II)I" } : Jvm.MethodName)) ∈ gw := gw_t (List.mem_of_getElem? (i := 524) (by decide +kernel)) (by decide +kernel)
theorem kw_356 : (Jvm.Cond.fieldLink "LineBreaker" (12 : Nat) "LineBreaker" "paragraph" "LLineBreaker$Paragraph;") ∈ gw := gw_t (List.mem_of_getElem? (i := 356) (by decide +kernel)) (by decide +kernel)
theorem kw_54 : (Jvm.Cond.fieldLink "LineBreaker" (97 : Nat) "LineBreaker$Paragraph" "count" "I") ∈ gw := gw_t (List.mem_of_getElem? (i := 54) (by decide +kernel)) (by decide +kernel)
theorem kw_360 : (Jvm.Cond.fieldLink "LineBreaker" (42 : Nat) "LineBreaker" "outcome" "LLineBreaker$Outcome;") ∈ gw := gw_t (List.mem_of_getElem? (i := 360) (by decide +kernel)) (by decide +kernel)
theorem kw_379 : (Jvm.Cond.code ({ cls := "LineBreaker$Outcome", name := "forget", desc := "()V" } : Jvm.MethodName) prog_7_method_2_code (1 : Nat) (Option.none : Option Jvm.ClassFile.FieldType)) ∈ gw := gw_t (List.mem_of_getElem? (i := 379) (by decide +kernel)) (by decide +kernel)
theorem kw_376 : (Jvm.Cond.methodLink "LineBreaker" (53 : Nat) ({ cls := "LineBreaker$Outcome", name := "forget", desc := "()V" } : Jvm.MethodName)) ∈ gw := gw_t (List.mem_of_getElem? (i := 376) (by decide +kernel)) (by decide +kernel)
theorem kw_377 : (Jvm.Cond.instanceMethod ({ cls := "LineBreaker$Outcome", name := "forget", desc := "()V" } : Jvm.MethodName)) ∈ gw := gw_t (List.mem_of_getElem? (i := 377) (by decide +kernel)) (by decide +kernel)
theorem kw_378 : (Jvm.Cond.selects "LineBreaker$Outcome" ({ cls := "LineBreaker$Outcome", name := "forget", desc := "()V" } : Jvm.MethodName) ({ cls := "LineBreaker$Outcome", name := "forget", desc := "()V" } : Jvm.MethodName)) ∈ gw := gw_t (List.mem_of_getElem? (i := 378) (by decide +kernel)) (by decide +kernel)
theorem kw_10 : (Jvm.Cond.initialized "LineBreaker$Outcome") ∈ gw := gw_t (List.mem_of_getElem? (i := 10) (by decide +kernel)) (by decide +kernel)
theorem kw_342 : (Jvm.Cond.fieldLink "LineBreaker" (167 : Nat) "LineBreaker$Outcome" "passNumber" "I") ∈ gw := gw_t (List.mem_of_getElem? (i := 342) (by decide +kernel)) (by decide +kernel)
theorem kw_344 : (Jvm.Cond.fieldLink "LineBreaker" (170 : Nat) "LineBreaker$Outcome" "nodesMade" "I") ∈ gw := gw_t (List.mem_of_getElem? (i := 344) (by decide +kernel)) (by decide +kernel)
theorem kw_116 : (Jvm.Cond.fieldLink "LineBreaker$Settings" (23 : Nat) "LineBreaker$Settings" "left" "LLineBreaker$Glue;") ∈ gw := gw_t (List.mem_of_getElem? (i := 116) (by decide +kernel)) (by decide +kernel)
theorem kw_94 : (Jvm.Cond.fieldLink "LineBreaker$Settings" (48 : Nat) "LineBreaker$Glue" "stretch" "I") ∈ gw := gw_t (List.mem_of_getElem? (i := 94) (by decide +kernel)) (by decide +kernel)
theorem kw_119 : (Jvm.Cond.fieldLink "LineBreaker$Settings" (27 : Nat) "LineBreaker$Settings" "right" "LLineBreaker$Glue;") ∈ gw := gw_t (List.mem_of_getElem? (i := 119) (by decide +kernel)) (by decide +kernel)
theorem kw_122 : (Jvm.Cond.fieldLink "LineBreaker$Settings" (31 : Nat) "LineBreaker$Settings" "fill" "LLineBreaker$Glue;") ∈ gw := gw_t (List.mem_of_getElem? (i := 122) (by decide +kernel)) (by decide +kernel)
theorem kw_644 : (Jvm.Cond.methodLink "LineBreaker$Paragraph" (53 : Nat) ({ cls := "java/lang/Math", name := "abs", desc := "(I)I" } : Jvm.MethodName)) ∈ gw := gw_t (List.mem_of_getElem? (i := 644) (by decide +kernel)) (by decide +kernel)
theorem kw_90 : (Jvm.Cond.fieldLink "LineBreaker$Settings" (40 : Nat) "LineBreaker$Glue" "width" "I") ∈ gw := gw_t (List.mem_of_getElem? (i := 90) (by decide +kernel)) (by decide +kernel)
theorem kw_654 : (Jvm.Cond.methodLink "LineBreaker$Settings" (44 : Nat) ({ cls := "java/lang/Math", name := "abs", desc := "(I)I" } : Jvm.MethodName)) ∈ gw := gw_t (List.mem_of_getElem? (i := 654) (by decide +kernel)) (by decide +kernel)
theorem kw_98 : (Jvm.Cond.fieldLink "LineBreaker$Settings" (51 : Nat) "LineBreaker$Glue" "shrink" "I") ∈ gw := gw_t (List.mem_of_getElem? (i := 98) (by decide +kernel)) (by decide +kernel)
theorem kw_357 : (Jvm.Cond.fieldLink "LineBreaker" (19 : Nat) "LineBreaker" "settings" "LLineBreaker$Settings;") ∈ gw := gw_t (List.mem_of_getElem? (i := 357) (by decide +kernel)) (by decide +kernel)
theorem kw_113 : (Jvm.Cond.fieldLink "LineBreaker" (112 : Nat) "LineBreaker$Settings" "values" "[I") ∈ gw := gw_t (List.mem_of_getElem? (i := 113) (by decide +kernel)) (by decide +kernel)
theorem kw_655 : (Jvm.Cond.constantLong "LineBreaker" (202 : Nat) (1073741823 : Int64)) ∈ gw := gw_t (List.mem_of_getElem? (i := 655) (by decide +kernel)) (by decide +kernel)
theorem kw_663 : (Jvm.Cond.code ({ cls := "LineBreaker$Settings", name := "shrinkAround", desc := "()J" } : Jvm.MethodName) prog_10_method_5_code (1 : Nat) (Option.some Jvm.ClassFile.FieldType.long)) ∈ gw := gw_t (List.mem_of_getElem? (i := 663) (by decide +kernel)) (by decide +kernel)
theorem kw_660 : (Jvm.Cond.methodLink "LineBreaker" (207 : Nat) ({ cls := "LineBreaker$Settings", name := "shrinkAround", desc := "()J" } : Jvm.MethodName)) ∈ gw := gw_t (List.mem_of_getElem? (i := 660) (by decide +kernel)) (by decide +kernel)
theorem kw_661 : (Jvm.Cond.instanceMethod ({ cls := "LineBreaker$Settings", name := "shrinkAround", desc := "()J" } : Jvm.MethodName)) ∈ gw := gw_t (List.mem_of_getElem? (i := 661) (by decide +kernel)) (by decide +kernel)
theorem kw_662 : (Jvm.Cond.selects "LineBreaker$Settings" ({ cls := "LineBreaker$Settings", name := "shrinkAround", desc := "()J" } : Jvm.MethodName) ({ cls := "LineBreaker$Settings", name := "shrinkAround", desc := "()J" } : Jvm.MethodName)) ∈ gw := gw_t (List.mem_of_getElem? (i := 662) (by decide +kernel)) (by decide +kernel)
theorem kw_659 : (Jvm.Cond.code ({ cls := "LineBreaker$Paragraph", name := "allShrink", desc := "()J" } : Jvm.MethodName) prog_8_method_10_code (4 : Nat) (Option.some Jvm.ClassFile.FieldType.long)) ∈ gw := gw_t (List.mem_of_getElem? (i := 659) (by decide +kernel)) (by decide +kernel)
theorem kw_656 : (Jvm.Cond.methodLink "LineBreaker" (204 : Nat) ({ cls := "LineBreaker$Paragraph", name := "allShrink", desc := "()J" } : Jvm.MethodName)) ∈ gw := gw_t (List.mem_of_getElem? (i := 656) (by decide +kernel)) (by decide +kernel)
theorem kw_657 : (Jvm.Cond.instanceMethod ({ cls := "LineBreaker$Paragraph", name := "allShrink", desc := "()J" } : Jvm.MethodName)) ∈ gw := gw_t (List.mem_of_getElem? (i := 657) (by decide +kernel)) (by decide +kernel)
theorem kw_658 : (Jvm.Cond.selects "LineBreaker$Paragraph" ({ cls := "LineBreaker$Paragraph", name := "allShrink", desc := "()J" } : Jvm.MethodName) ({ cls := "LineBreaker$Paragraph", name := "allShrink", desc := "()J" } : Jvm.MethodName)) ∈ gw := gw_t (List.mem_of_getElem? (i := 658) (by decide +kernel)) (by decide +kernel)
theorem kw_653 : (Jvm.Cond.code ({ cls := "LineBreaker$Settings", name := "widthsAround", desc := "()J" } : Jvm.MethodName) prog_10_method_3_code (1 : Nat) (Option.some Jvm.ClassFile.FieldType.long)) ∈ gw := gw_t (List.mem_of_getElem? (i := 653) (by decide +kernel)) (by decide +kernel)
theorem kw_650 : (Jvm.Cond.methodLink "LineBreaker" (199 : Nat) ({ cls := "LineBreaker$Settings", name := "widthsAround", desc := "()J" } : Jvm.MethodName)) ∈ gw := gw_t (List.mem_of_getElem? (i := 650) (by decide +kernel)) (by decide +kernel)
theorem kw_651 : (Jvm.Cond.instanceMethod ({ cls := "LineBreaker$Settings", name := "widthsAround", desc := "()J" } : Jvm.MethodName)) ∈ gw := gw_t (List.mem_of_getElem? (i := 651) (by decide +kernel)) (by decide +kernel)
theorem kw_652 : (Jvm.Cond.selects "LineBreaker$Settings" ({ cls := "LineBreaker$Settings", name := "widthsAround", desc := "()J" } : Jvm.MethodName) ({ cls := "LineBreaker$Settings", name := "widthsAround", desc := "()J" } : Jvm.MethodName)) ∈ gw := gw_t (List.mem_of_getElem? (i := 652) (by decide +kernel)) (by decide +kernel)
theorem kw_643 : (Jvm.Cond.code ({ cls := "LineBreaker$Paragraph", name := "allWidths", desc := "()J" } : Jvm.MethodName) prog_8_method_8_code (4 : Nat) (Option.some Jvm.ClassFile.FieldType.long)) ∈ gw := gw_t (List.mem_of_getElem? (i := 643) (by decide +kernel)) (by decide +kernel)
theorem kw_640 : (Jvm.Cond.methodLink "LineBreaker" (196 : Nat) ({ cls := "LineBreaker$Paragraph", name := "allWidths", desc := "()J" } : Jvm.MethodName)) ∈ gw := gw_t (List.mem_of_getElem? (i := 640) (by decide +kernel)) (by decide +kernel)
theorem kw_641 : (Jvm.Cond.instanceMethod ({ cls := "LineBreaker$Paragraph", name := "allWidths", desc := "()J" } : Jvm.MethodName)) ∈ gw := gw_t (List.mem_of_getElem? (i := 641) (by decide +kernel)) (by decide +kernel)
theorem kw_642 : (Jvm.Cond.selects "LineBreaker$Paragraph" ({ cls := "LineBreaker$Paragraph", name := "allWidths", desc := "()J" } : Jvm.MethodName) ({ cls := "LineBreaker$Paragraph", name := "allWidths", desc := "()J" } : Jvm.MethodName)) ∈ gw := gw_t (List.mem_of_getElem? (i := 642) (by decide +kernel)) (by decide +kernel)
theorem kw_639 : (Jvm.Cond.code ({ cls := "LineBreaker$Settings", name := "stretchAround", desc := "()J" } : Jvm.MethodName) prog_10_method_4_code (1 : Nat) (Option.some Jvm.ClassFile.FieldType.long)) ∈ gw := gw_t (List.mem_of_getElem? (i := 639) (by decide +kernel)) (by decide +kernel)
theorem kw_636 : (Jvm.Cond.methodLink "LineBreaker" (193 : Nat) ({ cls := "LineBreaker$Settings", name := "stretchAround", desc := "()J" } : Jvm.MethodName)) ∈ gw := gw_t (List.mem_of_getElem? (i := 636) (by decide +kernel)) (by decide +kernel)
theorem kw_637 : (Jvm.Cond.instanceMethod ({ cls := "LineBreaker$Settings", name := "stretchAround", desc := "()J" } : Jvm.MethodName)) ∈ gw := gw_t (List.mem_of_getElem? (i := 637) (by decide +kernel)) (by decide +kernel)
theorem kw_638 : (Jvm.Cond.selects "LineBreaker$Settings" ({ cls := "LineBreaker$Settings", name := "stretchAround", desc := "()J" } : Jvm.MethodName) ({ cls := "LineBreaker$Settings", name := "stretchAround", desc := "()J" } : Jvm.MethodName)) ∈ gw := gw_t (List.mem_of_getElem? (i := 638) (by decide +kernel)) (by decide +kernel)
theorem kw_635 : (Jvm.Cond.code ({ cls := "LineBreaker$Paragraph", name := "allStretch", desc := "()J" } : Jvm.MethodName) prog_8_method_9_code (4 : Nat) (Option.some Jvm.ClassFile.FieldType.long)) ∈ gw := gw_t (List.mem_of_getElem? (i := 635) (by decide +kernel)) (by decide +kernel)
theorem kw_632 : (Jvm.Cond.methodLink "LineBreaker" (189 : Nat) ({ cls := "LineBreaker$Paragraph", name := "allStretch", desc := "()J" } : Jvm.MethodName)) ∈ gw := gw_t (List.mem_of_getElem? (i := 632) (by decide +kernel)) (by decide +kernel)
theorem kw_633 : (Jvm.Cond.instanceMethod ({ cls := "LineBreaker$Paragraph", name := "allStretch", desc := "()J" } : Jvm.MethodName)) ∈ gw := gw_t (List.mem_of_getElem? (i := 633) (by decide +kernel)) (by decide +kernel)
theorem kw_634 : (Jvm.Cond.selects "LineBreaker$Paragraph" ({ cls := "LineBreaker$Paragraph", name := "allStretch", desc := "()J" } : Jvm.MethodName) ({ cls := "LineBreaker$Paragraph", name := "allStretch", desc := "()J" } : Jvm.MethodName)) ∈ gw := gw_t (List.mem_of_getElem? (i := 634) (by decide +kernel)) (by decide +kernel)
theorem kw_407 : (Jvm.Cond.constant "LineBreaker" (229 : Nat) (-1073741823 : Int32)) ∈ gw := gw_t (List.mem_of_getElem? (i := 407) (by decide +kernel)) (by decide +kernel)
theorem kw_408 : (Jvm.Cond.constant "LineBreaker" (230 : Nat) (1073741823 : Int32)) ∈ gw := gw_t (List.mem_of_getElem? (i := 408) (by decide +kernel)) (by decide +kernel)
theorem kw_89 : (Jvm.Cond.fieldLink "LineBreaker$Glue" (7 : Nat) "LineBreaker$Glue" "width" "I") ∈ gw := gw_t (List.mem_of_getElem? (i := 89) (by decide +kernel)) (by decide +kernel)
theorem kw_96 : (Jvm.Cond.fieldLink "LineBreaker$Glue" (19 : Nat) "LineBreaker$Glue" "shrink" "I") ∈ gw := gw_t (List.mem_of_getElem? (i := 96) (by decide +kernel)) (by decide +kernel)
theorem d_Pa_countWithoutLastGlue_0 : decode prog_8_method_7_code 0 = .ok (.aload_n 0, 1) := by decide +kernel
theorem d_Pa_countWithoutLastGlue_31 : decode prog_8_method_7_code 31 = .ok (.aload_n 0, 1) := by decide +kernel
theorem d_Pa_countWithoutLastGlue_35 : decode prog_8_method_7_code 35 = .ok (.ireturn, 1) := by decide +kernel
theorem d_Pa_countWithoutLastGlue_32 : decode prog_8_method_7_code 32 = .ok (.getfield 39, 3) := by decide +kernel
theorem d_Pa_countWithoutLastGlue_7 : decode prog_8_method_7_code 7 = .ok (.aload_n 0, 1) := by decide +kernel
theorem d_Pa_countWithoutLastGlue_11 : decode prog_8_method_7_code 11 = .ok (.aload_n 0, 1) := by decide +kernel
theorem d_Pa_countWithoutLastGlue_22 : decode prog_8_method_7_code 22 = .ok (.aload_n 0, 1) := by decide +kernel
theorem d_Pa_countWithoutLastGlue_28 : decode prog_8_method_7_code 28 = .ok (.goto 7, 3) := by decide +kernel
theorem d_Pa_countWithoutLastGlue_27 : decode prog_8_method_7_code 27 = .ok (.isub, 1) := by decide +kernel
theorem d_Pa_countWithoutLastGlue_26 : decode prog_8_method_7_code 26 = .ok (.iconst 1, 1) := by decide +kernel
theorem d_Pa_countWithoutLastGlue_23 : decode prog_8_method_7_code 23 = .ok (.getfield 39, 3) := by decide +kernel
theorem d_Pa_countWithoutLastGlue_19 : decode prog_8_method_7_code 19 = .ok (.if_icmp .ne 12, 3) := by decide +kernel
theorem d_Pa_countWithoutLastGlue_18 : decode prog_8_method_7_code 18 = .ok (.iconst 1, 1) := by decide +kernel
theorem d_Pa_countWithoutLastGlue_17 : decode prog_8_method_7_code 17 = .ok (.iaload, 1) := by decide +kernel
theorem d_Pa_countWithoutLastGlue_16 : decode prog_8_method_7_code 16 = .ok (.isub, 1) := by decide +kernel
theorem d_Pa_countWithoutLastGlue_15 : decode prog_8_method_7_code 15 = .ok (.iconst 1, 1) := by decide +kernel
theorem d_Pa_countWithoutLastGlue_12 : decode prog_8_method_7_code 12 = .ok (.getfield 39, 3) := by decide +kernel
theorem d_Pa_countWithoutLastGlue_8 : decode prog_8_method_7_code 8 = .ok (.getfield 9, 3) := by decide +kernel
theorem d_Pa_countWithoutLastGlue_4 : decode prog_8_method_7_code 4 = .ok (.ifCond .le 27, 3) := by decide +kernel
theorem d_Pa_countWithoutLastGlue_1 : decode prog_8_method_7_code 1 = .ok (.getfield 39, 3) := by decide +kernel
theorem d_Lb_widthOf_0 : decode prog_1_method_25_code 0 = .ok (.iload_n 0, 1) := by decide +kernel
theorem d_Lb_widthOf_10 : decode prog_1_method_25_code 10 = .ok (.iload_n 0, 1) := by decide +kernel
theorem d_Lb_widthOf_11 : decode prog_1_method_25_code 11 = .ok (.ireturn, 1) := by decide +kernel
theorem d_Lb_widthOf_7 : decode prog_1_method_25_code 7 = .ok (.goto 4, 3) := by decide +kernel
theorem d_Lb_widthOf_6 : decode prog_1_method_25_code 6 = .ok (.iconst 0, 1) := by decide +kernel
theorem d_Lb_widthOf_3 : decode prog_1_method_25_code 3 = .ok (.if_icmp .ne 7, 3) := by decide +kernel
theorem d_Lb_widthOf_1 : decode prog_1_method_25_code 1 = .ok (.ldc 222, 2) := by decide +kernel
theorem d_Ga_copyItems_89 : decode prog_2_method_7_code 89 = .ok (.aload_n 0, 1) := by decide +kernel
theorem d_Ga_copyItems_93 : decode prog_2_method_7_code 93 = .ok (.iload 4, 2) := by decide +kernel
theorem d_Ga_copyItems_95 : decode prog_2_method_7_code 95 = .ok (.aload_n 1, 1) := by decide +kernel
theorem d_Ga_copyItems_99 : decode prog_2_method_7_code 99 = .ok (.iload 4, 2) := by decide +kernel
theorem d_Ga_copyItems_106 : decode prog_2_method_7_code 106 = .ok (.aload_n 0, 1) := by decide +kernel
theorem d_Ga_copyItems_110 : decode prog_2_method_7_code 110 = .ok (.iload 4, 2) := by decide +kernel
theorem d_Ga_copyItems_112 : decode prog_2_method_7_code 112 = .ok (.aload_n 1, 1) := by decide +kernel
theorem d_Ga_copyItems_116 : decode prog_2_method_7_code 116 = .ok (.iload 4, 2) := by decide +kernel
theorem d_Ga_copyItems_126 : decode prog_2_method_7_code 126 = .ok (.goto (-123), 3) := by decide +kernel
theorem d_Ga_copyItems_123 : decode prog_2_method_7_code 123 = .ok (.iinc 4 1, 3) := by decide +kernel
theorem d_Ga_copyItems_122 : decode prog_2_method_7_code 122 = .ok (.iastore, 1) := by decide +kernel
theorem d_Ga_copyItems_119 : decode prog_2_method_7_code 119 = .ok (.invokestatic 88, 3) := by decide +kernel
theorem d_Ga_copyItems_118 : decode prog_2_method_7_code 118 = .ok (.iaload, 1) := by decide +kernel
theorem d_Ga_copyItems_113 : decode prog_2_method_7_code 113 = .ok (.getfield 92, 3) := by decide +kernel
theorem d_Ga_copyItems_107 : decode prog_2_method_7_code 107 = .ok (.getfield 28, 3) := by decide +kernel
theorem d_Ga_copyItems_105 : decode prog_2_method_7_code 105 = .ok (.iastore, 1) := by decide +kernel
theorem d_Ga_copyItems_102 : decode prog_2_method_7_code 102 = .ok (.invokestatic 88, 3) := by decide +kernel
theorem d_Ga_copyItems_101 : decode prog_2_method_7_code 101 = .ok (.iaload, 1) := by decide +kernel
theorem d_Ga_copyItems_96 : decode prog_2_method_7_code 96 = .ok (.getfield 83, 3) := by decide +kernel
theorem d_Ga_copyItems_90 : decode prog_2_method_7_code 90 = .ok (.getfield 25, 3) := by decide +kernel
theorem d_Ga_copyItems_88 : decode prog_2_method_7_code 88 = .ok (.iastore, 1) := by decide +kernel
theorem d_Ga_copyItems_87 : decode prog_2_method_7_code 87 = .ok (.iaload, 1) := by decide +kernel
theorem d_Ga_copyItems_65 : decode prog_2_method_7_code 65 = .ok (.istore 5, 2) := by decide +kernel
theorem d_Ga_copyItems_67 : decode prog_2_method_7_code 67 = .ok (.aload_n 0, 1) := by decide +kernel
theorem d_Ga_copyItems_71 : decode prog_2_method_7_code 71 = .ok (.iload 4, 2) := by decide +kernel
theorem d_Ga_copyItems_73 : decode prog_2_method_7_code 73 = .ok (.aload_n 2, 1) := by decide +kernel
theorem d_Ga_copyItems_77 : decode prog_2_method_7_code 77 = .ok (.iload 5, 2) := by decide +kernel
theorem d_Ga_copyItems_86 : decode prog_2_method_7_code 86 = .ok (.iconst 3, 1) := by decide +kernel
theorem d_Ga_copyItems_83 : decode prog_2_method_7_code 83 = .ok (.goto 4, 3) := by decide +kernel
theorem d_Ga_copyItems_82 : decode prog_2_method_7_code 82 = .ok (.iconst 4, 1) := by decide +kernel
theorem d_Ga_copyItems_79 : decode prog_2_method_7_code 79 = .ok (.ifCond .eq 7, 3) := by decide +kernel
theorem d_Ga_copyItems_74 : decode prog_2_method_7_code 74 = .ok (.getfield 85, 3) := by decide +kernel
theorem d_Ga_copyItems_68 : decode prog_2_method_7_code 68 = .ok (.getfield 15, 3) := by decide +kernel
theorem d_Ga_copyItems_3 : decode prog_2_method_7_code 3 = .ok (.iload 4, 2) := by decide +kernel
theorem d_Ga_copyItems_5 : decode prog_2_method_7_code 5 = .ok (.iload_n 3, 1) := by decide +kernel
theorem d_Ga_copyItems_129 : decode prog_2_method_7_code 129 = .ok (.return_, 1) := by decide +kernel
theorem d_Ga_copyItems_9 : decode prog_2_method_7_code 9 = .ok (.aload_n 0, 1) := by decide +kernel
theorem d_Ga_copyItems_13 : decode prog_2_method_7_code 13 = .ok (.iload 4, 2) := by decide +kernel
theorem d_Ga_copyItems_15 : decode prog_2_method_7_code 15 = .ok (.aload_n 1, 1) := by decide +kernel
theorem d_Ga_copyItems_19 : decode prog_2_method_7_code 19 = .ok (.iload 4, 2) := by decide +kernel
theorem d_Ga_copyItems_23 : decode prog_2_method_7_code 23 = .ok (.aload_n 0, 1) := by decide +kernel
theorem d_Ga_copyItems_27 : decode prog_2_method_7_code 27 = .ok (.iload 4, 2) := by decide +kernel
theorem d_Ga_copyItems_29 : decode prog_2_method_7_code 29 = .ok (.aload_n 1, 1) := by decide +kernel
theorem d_Ga_copyItems_33 : decode prog_2_method_7_code 33 = .ok (.iload 4, 2) := by decide +kernel
theorem d_Ga_copyItems_37 : decode prog_2_method_7_code 37 = .ok (.aload_n 0, 1) := by decide +kernel
theorem d_Ga_copyItems_41 : decode prog_2_method_7_code 41 = .ok (.iload 4, 2) := by decide +kernel
theorem d_Ga_copyItems_48 : decode prog_2_method_7_code 48 = .ok (.aload_n 1, 1) := by decide +kernel
theorem d_Ga_copyItems_52 : decode prog_2_method_7_code 52 = .ok (.iload 4, 2) := by decide +kernel
theorem d_Ga_copyItems_64 : decode prog_2_method_7_code 64 = .ok (.iconst 0, 1) := by decide +kernel
theorem d_Ga_copyItems_61 : decode prog_2_method_7_code 61 = .ok (.goto 4, 3) := by decide +kernel
theorem d_Ga_copyItems_60 : decode prog_2_method_7_code 60 = .ok (.iconst 1, 1) := by decide +kernel
theorem d_Ga_copyItems_57 : decode prog_2_method_7_code 57 = .ok (.if_icmp .ne 7, 3) := by decide +kernel
theorem d_Ga_copyItems_55 : decode prog_2_method_7_code 55 = .ok (.ldc 84, 2) := by decide +kernel
theorem d_Ga_copyItems_54 : decode prog_2_method_7_code 54 = .ok (.iaload, 1) := by decide +kernel
theorem d_Ga_copyItems_49 : decode prog_2_method_7_code 49 = .ok (.getfield 83, 3) := by decide +kernel
theorem d_Ga_copyItems_45 : decode prog_2_method_7_code 45 = .ok (.if_icmp .ne 44, 3) := by decide +kernel
theorem d_Ga_copyItems_44 : decode prog_2_method_7_code 44 = .ok (.iconst 5, 1) := by decide +kernel
theorem d_Ga_copyItems_43 : decode prog_2_method_7_code 43 = .ok (.iaload, 1) := by decide +kernel
theorem d_Ga_copyItems_38 : decode prog_2_method_7_code 38 = .ok (.getfield 9, 3) := by decide +kernel
theorem d_Ga_copyItems_36 : decode prog_2_method_7_code 36 = .ok (.iastore, 1) := by decide +kernel
theorem d_Ga_copyItems_35 : decode prog_2_method_7_code 35 = .ok (.iaload, 1) := by decide +kernel
theorem d_Ga_copyItems_30 : decode prog_2_method_7_code 30 = .ok (.getfield 82, 3) := by decide +kernel
theorem d_Ga_copyItems_24 : decode prog_2_method_7_code 24 = .ok (.getfield 15, 3) := by decide +kernel
theorem d_Ga_copyItems_22 : decode prog_2_method_7_code 22 = .ok (.iastore, 1) := by decide +kernel
theorem d_Ga_copyItems_21 : decode prog_2_method_7_code 21 = .ok (.iaload, 1) := by decide +kernel
theorem d_Ga_copyItems_16 : decode prog_2_method_7_code 16 = .ok (.getfield 81, 3) := by decide +kernel
theorem d_Ga_copyItems_10 : decode prog_2_method_7_code 10 = .ok (.getfield 9, 3) := by decide +kernel
theorem d_Ga_copyItems_6 : decode prog_2_method_7_code 6 = .ok (.if_icmp .ge 123, 3) := by decide +kernel
theorem d_Ga_copyItems_1 : decode prog_2_method_7_code 1 = .ok (.istore 4, 2) := by decide +kernel
theorem d_Ga_copyItems_0 : decode prog_2_method_7_code 0 = .ok (.iconst 0, 1) := by decide +kernel
theorem d_Ga_close_58 : decode prog_2_method_8_code 58 = .ok (.iload_n 2, 1) := by decide +kernel
theorem d_Ga_close_59 : decode prog_2_method_8_code 59 = .ok (.aload_n 0, 1) := by decide +kernel
theorem d_Ga_close_86 : decode prog_2_method_8_code 86 = .ok (.return_, 1) := by decide +kernel
theorem d_Ga_close_66 : decode prog_2_method_8_code 66 = .ok (.aload_n 0, 1) := by decide +kernel
theorem d_Ga_close_70 : decode prog_2_method_8_code 70 = .ok (.iload_n 2, 1) := by decide +kernel
theorem d_Ga_close_73 : decode prog_2_method_8_code 73 = .ok (.aload_n 0, 1) := by decide +kernel
theorem d_Ga_close_77 : decode prog_2_method_8_code 77 = .ok (.iload_n 2, 1) := by decide +kernel
theorem d_Ga_close_83 : decode prog_2_method_8_code 83 = .ok (.goto (-25), 3) := by decide +kernel
theorem d_Ga_close_80 : decode prog_2_method_8_code 80 = .ok (.iinc 2 1, 3) := by decide +kernel
theorem d_Ga_close_79 : decode prog_2_method_8_code 79 = .ok (.iastore, 1) := by decide +kernel
theorem d_Ga_close_78 : decode prog_2_method_8_code 78 = .ok (.iconst 0, 1) := by decide +kernel
theorem d_Ga_close_74 : decode prog_2_method_8_code 74 = .ok (.getfield 28, 3) := by decide +kernel
theorem d_Ga_close_72 : decode prog_2_method_8_code 72 = .ok (.iastore, 1) := by decide +kernel
theorem d_Ga_close_71 : decode prog_2_method_8_code 71 = .ok (.iconst 0, 1) := by decide +kernel
theorem d_Ga_close_67 : decode prog_2_method_8_code 67 = .ok (.getfield 25, 3) := by decide +kernel
theorem d_Ga_close_63 : decode prog_2_method_8_code 63 = .ok (.if_icmp .gt 23, 3) := by decide +kernel
theorem d_Ga_close_60 : decode prog_2_method_8_code 60 = .ok (.getfield 52, 3) := by decide +kernel
theorem d_Ga_close_0 : decode prog_2_method_8_code 0 = .ok (.aload_n 0, 1) := by decide +kernel
theorem d_Ga_close_4 : decode prog_2_method_8_code 4 = .ok (.iload_n 1, 1) := by decide +kernel
theorem d_Ga_close_7 : decode prog_2_method_8_code 7 = .ok (.aload_n 0, 1) := by decide +kernel
theorem d_Ga_close_11 : decode prog_2_method_8_code 11 = .ok (.iload_n 1, 1) := by decide +kernel
theorem d_Ga_close_16 : decode prog_2_method_8_code 16 = .ok (.aload_n 0, 1) := by decide +kernel
theorem d_Ga_close_20 : decode prog_2_method_8_code 20 = .ok (.iload_n 1, 1) := by decide +kernel
theorem d_Ga_close_25 : decode prog_2_method_8_code 25 = .ok (.aload_n 0, 1) := by decide +kernel
theorem d_Ga_close_29 : decode prog_2_method_8_code 29 = .ok (.iload_n 1, 1) := by decide +kernel
theorem d_Ga_close_34 : decode prog_2_method_8_code 34 = .ok (.aload_n 0, 1) := by decide +kernel
theorem d_Ga_close_38 : decode prog_2_method_8_code 38 = .ok (.aload_n 0, 1) := by decide +kernel
theorem d_Ga_close_44 : decode prog_2_method_8_code 44 = .ok (.aload_n 0, 1) := by decide +kernel
theorem d_Ga_close_48 : decode prog_2_method_8_code 48 = .ok (.aload_n 0, 1) := by decide +kernel
theorem d_Ga_close_56 : decode prog_2_method_8_code 56 = .ok (.iload_n 1, 1) := by decide +kernel
theorem d_Ga_close_57 : decode prog_2_method_8_code 57 = .ok (.istore_n 2, 1) := by decide +kernel
theorem d_Ga_close_55 : decode prog_2_method_8_code 55 = .ok (.iastore, 1) := by decide +kernel
theorem d_Ga_close_52 : decode prog_2_method_8_code 52 = .ok (.sipush (-10000), 3) := by decide +kernel
theorem d_Ga_close_49 : decode prog_2_method_8_code 49 = .ok (.getfield 52, 3) := by decide +kernel
theorem d_Ga_close_45 : decode prog_2_method_8_code 45 = .ok (.getfield 15, 3) := by decide +kernel
theorem d_Ga_close_43 : decode prog_2_method_8_code 43 = .ok (.iastore, 1) := by decide +kernel
theorem d_Ga_close_42 : decode prog_2_method_8_code 42 = .ok (.iconst 4, 1) := by decide +kernel
theorem d_Ga_close_39 : decode prog_2_method_8_code 39 = .ok (.getfield 52, 3) := by decide +kernel
theorem d_Ga_close_35 : decode prog_2_method_8_code 35 = .ok (.getfield 9, 3) := by decide +kernel
theorem d_Ga_close_33 : decode prog_2_method_8_code 33 = .ok (.iastore, 1) := by decide +kernel
theorem d_Ga_close_32 : decode prog_2_method_8_code 32 = .ok (.iconst 0, 1) := by decide +kernel
theorem d_Ga_close_31 : decode prog_2_method_8_code 31 = .ok (.iadd, 1) := by decide +kernel
theorem d_Ga_close_30 : decode prog_2_method_8_code 30 = .ok (.iconst 1, 1) := by decide +kernel
theorem d_Ga_close_26 : decode prog_2_method_8_code 26 = .ok (.getfield 15, 3) := by decide +kernel
theorem d_Ga_close_24 : decode prog_2_method_8_code 24 = .ok (.iastore, 1) := by decide +kernel
theorem d_Ga_close_23 : decode prog_2_method_8_code 23 = .ok (.iconst 1, 1) := by decide +kernel
theorem d_Ga_close_22 : decode prog_2_method_8_code 22 = .ok (.iadd, 1) := by decide +kernel
theorem d_Ga_close_21 : decode prog_2_method_8_code 21 = .ok (.iconst 1, 1) := by decide +kernel
theorem d_Ga_close_17 : decode prog_2_method_8_code 17 = .ok (.getfield 9, 3) := by decide +kernel
theorem d_Ga_close_15 : decode prog_2_method_8_code 15 = .ok (.iastore, 1) := by decide +kernel
theorem d_Ga_close_12 : decode prog_2_method_8_code 12 = .ok (.sipush 10000, 3) := by decide +kernel
theorem d_Ga_close_8 : decode prog_2_method_8_code 8 = .ok (.getfield 15, 3) := by decide +kernel
theorem d_Ga_close_6 : decode prog_2_method_8_code 6 = .ok (.iastore, 1) := by decide +kernel
theorem d_Ga_close_5 : decode prog_2_method_8_code 5 = .ok (.iconst 4, 1) := by decide +kernel
theorem d_Ga_close_1 : decode prog_2_method_8_code 1 = .ok (.getfield 9, 3) := by decide +kernel
theorem d_Ga_sumUp_115 : decode prog_2_method_9_code 115 = .ok (.aload_n 0, 1) := by decide +kernel
theorem d_Ga_sumUp_119 : decode prog_2_method_9_code 119 = .ok (.iload 4, 2) := by decide +kernel
theorem d_Ga_sumUp_123 : decode prog_2_method_9_code 123 = .ok (.aload_n 0, 1) := by decide +kernel
theorem d_Ga_sumUp_127 : decode prog_2_method_9_code 127 = .ok (.iload 4, 2) := by decide +kernel
theorem d_Ga_sumUp_130 : decode prog_2_method_9_code 130 = .ok (.aload_n 1, 1) := by decide +kernel
theorem d_Ga_sumUp_134 : decode prog_2_method_9_code 134 = .ok (.iload 4, 2) := by decide +kernel
theorem d_Ga_sumUp_142 : decode prog_2_method_9_code 142 = .ok (.goto (-139), 3) := by decide +kernel
theorem d_Ga_sumUp_139 : decode prog_2_method_9_code 139 = .ok (.iinc 4 1, 3) := by decide +kernel
theorem d_Ga_sumUp_138 : decode prog_2_method_9_code 138 = .ok (.iastore, 1) := by decide +kernel
theorem d_Ga_sumUp_137 : decode prog_2_method_9_code 137 = .ok (.iadd, 1) := by decide +kernel
theorem d_Ga_sumUp_136 : decode prog_2_method_9_code 136 = .ok (.iaload, 1) := by decide +kernel
theorem d_Ga_sumUp_131 : decode prog_2_method_9_code 131 = .ok (.getfield 102, 3) := by decide +kernel
theorem d_Ga_sumUp_129 : decode prog_2_method_9_code 129 = .ok (.iaload, 1) := by decide +kernel
theorem d_Ga_sumUp_124 : decode prog_2_method_9_code 124 = .ok (.getfield 40, 3) := by decide +kernel
theorem d_Ga_sumUp_122 : decode prog_2_method_9_code 122 = .ok (.iadd, 1) := by decide +kernel
theorem d_Ga_sumUp_121 : decode prog_2_method_9_code 121 = .ok (.iconst 1, 1) := by decide +kernel
theorem d_Ga_sumUp_116 : decode prog_2_method_9_code 116 = .ok (.getfield 40, 3) := by decide +kernel
theorem d_Ga_sumUp_114 : decode prog_2_method_9_code 114 = .ok (.iastore, 1) := by decide +kernel
theorem d_Ga_sumUp_113 : decode prog_2_method_9_code 113 = .ok (.iadd, 1) := by decide +kernel
theorem d_Ga_sumUp_87 : decode prog_2_method_9_code 87 = .ok (.aload_n 0, 1) := by decide +kernel
theorem d_Ga_sumUp_91 : decode prog_2_method_9_code 91 = .ok (.iload 4, 2) := by decide +kernel
theorem d_Ga_sumUp_95 : decode prog_2_method_9_code 95 = .ok (.aload_n 0, 1) := by decide +kernel
theorem d_Ga_sumUp_99 : decode prog_2_method_9_code 99 = .ok (.iload 4, 2) := by decide +kernel
theorem d_Ga_sumUp_102 : decode prog_2_method_9_code 102 = .ok (.iload 5, 2) := by decide +kernel
theorem d_Ga_sumUp_111 : decode prog_2_method_9_code 111 = .ok (.iload 6, 2) := by decide +kernel
theorem d_Ga_sumUp_108 : decode prog_2_method_9_code 108 = .ok (.goto 5, 3) := by decide +kernel
theorem d_Ga_sumUp_107 : decode prog_2_method_9_code 107 = .ok (.iconst 0, 1) := by decide +kernel
theorem d_Ga_sumUp_104 : decode prog_2_method_9_code 104 = .ok (.ifCond .eq 7, 3) := by decide +kernel
theorem d_Ga_sumUp_101 : decode prog_2_method_9_code 101 = .ok (.iaload, 1) := by decide +kernel
theorem d_Ga_sumUp_96 : decode prog_2_method_9_code 96 = .ok (.getfield 37, 3) := by decide +kernel
theorem d_Ga_sumUp_94 : decode prog_2_method_9_code 94 = .ok (.iadd, 1) := by decide +kernel
theorem d_Ga_sumUp_93 : decode prog_2_method_9_code 93 = .ok (.iconst 1, 1) := by decide +kernel
theorem d_Ga_sumUp_88 : decode prog_2_method_9_code 88 = .ok (.getfield 37, 3) := by decide +kernel
theorem d_Ga_sumUp_86 : decode prog_2_method_9_code 86 = .ok (.iastore, 1) := by decide +kernel
theorem d_Ga_sumUp_85 : decode prog_2_method_9_code 85 = .ok (.iadd, 1) := by decide +kernel
theorem d_Ga_sumUp_24 : decode prog_2_method_9_code 24 = .ok (.istore 5, 2) := by decide +kernel
theorem d_Ga_sumUp_26 : decode prog_2_method_9_code 26 = .ok (.aload_n 1, 1) := by decide +kernel
theorem d_Ga_sumUp_30 : decode prog_2_method_9_code 30 = .ok (.iload 4, 2) := by decide +kernel
theorem d_Ga_sumUp_33 : decode prog_2_method_9_code 33 = .ok (.istore 6, 2) := by decide +kernel
theorem d_Ga_sumUp_35 : decode prog_2_method_9_code 35 = .ok (.aload_n 0, 1) := by decide +kernel
theorem d_Ga_sumUp_39 : decode prog_2_method_9_code 39 = .ok (.iload 4, 2) := by decide +kernel
theorem d_Ga_sumUp_43 : decode prog_2_method_9_code 43 = .ok (.aload_n 0, 1) := by decide +kernel
theorem d_Ga_sumUp_47 : decode prog_2_method_9_code 47 = .ok (.iload 4, 2) := by decide +kernel
theorem d_Ga_sumUp_50 : decode prog_2_method_9_code 50 = .ok (.aload_n 1, 1) := by decide +kernel
theorem d_Ga_sumUp_54 : decode prog_2_method_9_code 54 = .ok (.iload 4, 2) := by decide +kernel
theorem d_Ga_sumUp_59 : decode prog_2_method_9_code 59 = .ok (.aload_n 0, 1) := by decide +kernel
theorem d_Ga_sumUp_63 : decode prog_2_method_9_code 63 = .ok (.iload 4, 2) := by decide +kernel
theorem d_Ga_sumUp_67 : decode prog_2_method_9_code 67 = .ok (.aload_n 0, 1) := by decide +kernel
theorem d_Ga_sumUp_71 : decode prog_2_method_9_code 71 = .ok (.iload 4, 2) := by decide +kernel
theorem d_Ga_sumUp_74 : decode prog_2_method_9_code 74 = .ok (.iload 5, 2) := by decide +kernel
theorem d_Ga_sumUp_84 : decode prog_2_method_9_code 84 = .ok (.iconst 0, 1) := by decide +kernel
theorem d_Ga_sumUp_79 : decode prog_2_method_9_code 79 = .ok (.iload 6, 2) := by decide +kernel
theorem d_Ga_sumUp_81 : decode prog_2_method_9_code 81 = .ok (.goto 4, 3) := by decide +kernel
theorem d_Ga_sumUp_76 : decode prog_2_method_9_code 76 = .ok (.ifCond .eq 8, 3) := by decide +kernel
theorem d_Ga_sumUp_73 : decode prog_2_method_9_code 73 = .ok (.iaload, 1) := by decide +kernel
theorem d_Ga_sumUp_68 : decode prog_2_method_9_code 68 = .ok (.getfield 34, 3) := by decide +kernel
theorem d_Ga_sumUp_66 : decode prog_2_method_9_code 66 = .ok (.iadd, 1) := by decide +kernel
theorem d_Ga_sumUp_65 : decode prog_2_method_9_code 65 = .ok (.iconst 1, 1) := by decide +kernel
theorem d_Ga_sumUp_60 : decode prog_2_method_9_code 60 = .ok (.getfield 34, 3) := by decide +kernel
theorem d_Ga_sumUp_58 : decode prog_2_method_9_code 58 = .ok (.iastore, 1) := by decide +kernel
theorem d_Ga_sumUp_57 : decode prog_2_method_9_code 57 = .ok (.iadd, 1) := by decide +kernel
theorem d_Ga_sumUp_56 : decode prog_2_method_9_code 56 = .ok (.iaload, 1) := by decide +kernel
theorem d_Ga_sumUp_51 : decode prog_2_method_9_code 51 = .ok (.getfield 99, 3) := by decide +kernel
theorem d_Ga_sumUp_49 : decode prog_2_method_9_code 49 = .ok (.iaload, 1) := by decide +kernel
theorem d_Ga_sumUp_44 : decode prog_2_method_9_code 44 = .ok (.getfield 31, 3) := by decide +kernel
theorem d_Ga_sumUp_42 : decode prog_2_method_9_code 42 = .ok (.iadd, 1) := by decide +kernel
theorem d_Ga_sumUp_41 : decode prog_2_method_9_code 41 = .ok (.iconst 1, 1) := by decide +kernel
theorem d_Ga_sumUp_36 : decode prog_2_method_9_code 36 = .ok (.getfield 31, 3) := by decide +kernel
theorem d_Ga_sumUp_32 : decode prog_2_method_9_code 32 = .ok (.iaload, 1) := by decide +kernel
theorem d_Ga_sumUp_27 : decode prog_2_method_9_code 27 = .ok (.getfield 96, 3) := by decide +kernel
theorem d_Ga_sumUp_3 : decode prog_2_method_9_code 3 = .ok (.iload 4, 2) := by decide +kernel
theorem d_Ga_sumUp_5 : decode prog_2_method_9_code 5 = .ok (.iload_n 3, 1) := by decide +kernel
theorem d_Ga_sumUp_145 : decode prog_2_method_9_code 145 = .ok (.iload_n 3, 1) := by decide +kernel
theorem d_Ga_sumUp_148 : decode prog_2_method_9_code 148 = .ok (.istore 4, 2) := by decide +kernel
theorem d_Ga_sumUp_150 : decode prog_2_method_9_code 150 = .ok (.aload_n 0, 1) := by decide +kernel
theorem d_Ga_sumUp_154 : decode prog_2_method_9_code 154 = .ok (.iload 4, 2) := by decide +kernel
theorem d_Ga_sumUp_156 : decode prog_2_method_9_code 156 = .ok (.aload_n 0, 1) := by decide +kernel
theorem d_Ga_sumUp_160 : decode prog_2_method_9_code 160 = .ok (.iload_n 3, 1) := by decide +kernel
theorem d_Ga_sumUp_163 : decode prog_2_method_9_code 163 = .ok (.aload_n 0, 1) := by decide +kernel
theorem d_Ga_sumUp_167 : decode prog_2_method_9_code 167 = .ok (.iload 4, 2) := by decide +kernel
theorem d_Ga_sumUp_169 : decode prog_2_method_9_code 169 = .ok (.aload_n 0, 1) := by decide +kernel
theorem d_Ga_sumUp_173 : decode prog_2_method_9_code 173 = .ok (.iload_n 3, 1) := by decide +kernel
theorem d_Ga_sumUp_176 : decode prog_2_method_9_code 176 = .ok (.aload_n 0, 1) := by decide +kernel
theorem d_Ga_sumUp_180 : decode prog_2_method_9_code 180 = .ok (.iload 4, 2) := by decide +kernel
theorem d_Ga_sumUp_182 : decode prog_2_method_9_code 182 = .ok (.aload_n 0, 1) := by decide +kernel
theorem d_Ga_sumUp_186 : decode prog_2_method_9_code 186 = .ok (.iload_n 3, 1) := by decide +kernel
theorem d_Ga_sumUp_189 : decode prog_2_method_9_code 189 = .ok (.aload_n 0, 1) := by decide +kernel
theorem d_Ga_sumUp_193 : decode prog_2_method_9_code 193 = .ok (.iload 4, 2) := by decide +kernel
theorem d_Ga_sumUp_195 : decode prog_2_method_9_code 195 = .ok (.aload_n 0, 1) := by decide +kernel
theorem d_Ga_sumUp_199 : decode prog_2_method_9_code 199 = .ok (.iload_n 3, 1) := by decide +kernel
theorem d_Ga_sumUp_202 : decode prog_2_method_9_code 202 = .ok (.aload_n 0, 1) := by decide +kernel
theorem d_Ga_sumUp_206 : decode prog_2_method_9_code 206 = .ok (.aload_n 0, 1) := by decide +kernel
theorem d_Ga_sumUp_210 : decode prog_2_method_9_code 210 = .ok (.aload_n 0, 1) := by decide +kernel
theorem d_Ga_sumUp_214 : decode prog_2_method_9_code 214 = .ok (.iload 4, 2) := by decide +kernel
theorem d_Ga_sumUp_217 : decode prog_2_method_9_code 217 = .ok (.aload_n 2, 1) := by decide +kernel
theorem d_Ga_sumUp_223 : decode prog_2_method_9_code 223 = .ok (.aload_n 0, 1) := by decide +kernel
theorem d_Ga_sumUp_227 : decode prog_2_method_9_code 227 = .ok (.aload_n 0, 1) := by decide +kernel
theorem d_Ga_sumUp_231 : decode prog_2_method_9_code 231 = .ok (.aload_n 0, 1) := by decide +kernel
theorem d_Ga_sumUp_235 : decode prog_2_method_9_code 235 = .ok (.iload 4, 2) := by decide +kernel
theorem d_Ga_sumUp_238 : decode prog_2_method_9_code 238 = .ok (.aload_n 2, 1) := by decide +kernel
theorem d_Ga_sumUp_244 : decode prog_2_method_9_code 244 = .ok (.aload_n 0, 1) := by decide +kernel
theorem d_Ga_sumUp_248 : decode prog_2_method_9_code 248 = .ok (.aload_n 0, 1) := by decide +kernel
theorem d_Ga_sumUp_252 : decode prog_2_method_9_code 252 = .ok (.aload_n 0, 1) := by decide +kernel
theorem d_Ga_sumUp_256 : decode prog_2_method_9_code 256 = .ok (.iload 4, 2) := by decide +kernel
theorem d_Ga_sumUp_259 : decode prog_2_method_9_code 259 = .ok (.aload_n 2, 1) := by decide +kernel
theorem d_Ga_sumUp_265 : decode prog_2_method_9_code 265 = .ok (.aload_n 0, 1) := by decide +kernel
theorem d_Ga_sumUp_269 : decode prog_2_method_9_code 269 = .ok (.aload_n 0, 1) := by decide +kernel
theorem d_Ga_sumUp_273 : decode prog_2_method_9_code 273 = .ok (.aload_n 0, 1) := by decide +kernel
theorem d_Ga_sumUp_277 : decode prog_2_method_9_code 277 = .ok (.iload 4, 2) := by decide +kernel
theorem d_Ga_sumUp_280 : decode prog_2_method_9_code 280 = .ok (.aload_n 2, 1) := by decide +kernel
theorem d_Ga_sumUp_286 : decode prog_2_method_9_code 286 = .ok (.return_, 1) := by decide +kernel
theorem d_Ga_sumUp_285 : decode prog_2_method_9_code 285 = .ok (.iastore, 1) := by decide +kernel
theorem d_Ga_sumUp_284 : decode prog_2_method_9_code 284 = .ok (.iadd, 1) := by decide +kernel
theorem d_Ga_sumUp_281 : decode prog_2_method_9_code 281 = .ok (.getfield 115, 3) := by decide +kernel
theorem d_Ga_sumUp_279 : decode prog_2_method_9_code 279 = .ok (.iaload, 1) := by decide +kernel
theorem d_Ga_sumUp_274 : decode prog_2_method_9_code 274 = .ok (.getfield 40, 3) := by decide +kernel
theorem d_Ga_sumUp_270 : decode prog_2_method_9_code 270 = .ok (.getfield 52, 3) := by decide +kernel
theorem d_Ga_sumUp_266 : decode prog_2_method_9_code 266 = .ok (.getfield 40, 3) := by decide +kernel
theorem d_Ga_sumUp_264 : decode prog_2_method_9_code 264 = .ok (.iastore, 1) := by decide +kernel
theorem d_Ga_sumUp_263 : decode prog_2_method_9_code 263 = .ok (.iadd, 1) := by decide +kernel
theorem d_Ga_sumUp_260 : decode prog_2_method_9_code 260 = .ok (.invokevirtual 112, 3) := by decide +kernel
theorem d_Ga_sumUp_258 : decode prog_2_method_9_code 258 = .ok (.iaload, 1) := by decide +kernel
theorem d_Ga_sumUp_253 : decode prog_2_method_9_code 253 = .ok (.getfield 37, 3) := by decide +kernel
theorem d_Ga_sumUp_249 : decode prog_2_method_9_code 249 = .ok (.getfield 52, 3) := by decide +kernel
theorem d_Ga_sumUp_245 : decode prog_2_method_9_code 245 = .ok (.getfield 37, 3) := by decide +kernel
theorem d_Ga_sumUp_243 : decode prog_2_method_9_code 243 = .ok (.iastore, 1) := by decide +kernel
theorem d_Ga_sumUp_242 : decode prog_2_method_9_code 242 = .ok (.iadd, 1) := by decide +kernel
theorem d_Ga_sumUp_239 : decode prog_2_method_9_code 239 = .ok (.invokevirtual 109, 3) := by decide +kernel
theorem d_Ga_sumUp_237 : decode prog_2_method_9_code 237 = .ok (.iaload, 1) := by decide +kernel
theorem d_Ga_sumUp_232 : decode prog_2_method_9_code 232 = .ok (.getfield 34, 3) := by decide +kernel
theorem d_Ga_sumUp_228 : decode prog_2_method_9_code 228 = .ok (.getfield 52, 3) := by decide +kernel
theorem d_Ga_sumUp_224 : decode prog_2_method_9_code 224 = .ok (.getfield 34, 3) := by decide +kernel
theorem d_Ga_sumUp_222 : decode prog_2_method_9_code 222 = .ok (.iastore, 1) := by decide +kernel
theorem d_Ga_sumUp_221 : decode prog_2_method_9_code 221 = .ok (.iadd, 1) := by decide +kernel
theorem d_Ga_sumUp_218 : decode prog_2_method_9_code 218 = .ok (.getfield 105, 3) := by decide +kernel
theorem d_Ga_sumUp_216 : decode prog_2_method_9_code 216 = .ok (.iaload, 1) := by decide +kernel
theorem d_Ga_sumUp_211 : decode prog_2_method_9_code 211 = .ok (.getfield 31, 3) := by decide +kernel
theorem d_Ga_sumUp_207 : decode prog_2_method_9_code 207 = .ok (.getfield 52, 3) := by decide +kernel
theorem d_Ga_sumUp_203 : decode prog_2_method_9_code 203 = .ok (.getfield 31, 3) := by decide +kernel
theorem d_Ga_sumUp_201 : decode prog_2_method_9_code 201 = .ok (.iastore, 1) := by decide +kernel
theorem d_Ga_sumUp_200 : decode prog_2_method_9_code 200 = .ok (.iaload, 1) := by decide +kernel
theorem d_Ga_sumUp_196 : decode prog_2_method_9_code 196 = .ok (.getfield 40, 3) := by decide +kernel
theorem d_Ga_sumUp_190 : decode prog_2_method_9_code 190 = .ok (.getfield 40, 3) := by decide +kernel
theorem d_Ga_sumUp_188 : decode prog_2_method_9_code 188 = .ok (.iastore, 1) := by decide +kernel
theorem d_Ga_sumUp_187 : decode prog_2_method_9_code 187 = .ok (.iaload, 1) := by decide +kernel
theorem d_Ga_sumUp_183 : decode prog_2_method_9_code 183 = .ok (.getfield 37, 3) := by decide +kernel
theorem d_Ga_sumUp_177 : decode prog_2_method_9_code 177 = .ok (.getfield 37, 3) := by decide +kernel
theorem d_Ga_sumUp_175 : decode prog_2_method_9_code 175 = .ok (.iastore, 1) := by decide +kernel
theorem d_Ga_sumUp_174 : decode prog_2_method_9_code 174 = .ok (.iaload, 1) := by decide +kernel
theorem d_Ga_sumUp_170 : decode prog_2_method_9_code 170 = .ok (.getfield 34, 3) := by decide +kernel
theorem d_Ga_sumUp_164 : decode prog_2_method_9_code 164 = .ok (.getfield 34, 3) := by decide +kernel
theorem d_Ga_sumUp_162 : decode prog_2_method_9_code 162 = .ok (.iastore, 1) := by decide +kernel
theorem d_Ga_sumUp_161 : decode prog_2_method_9_code 161 = .ok (.iaload, 1) := by decide +kernel
theorem d_Ga_sumUp_157 : decode prog_2_method_9_code 157 = .ok (.getfield 31, 3) := by decide +kernel
theorem d_Ga_sumUp_151 : decode prog_2_method_9_code 151 = .ok (.getfield 31, 3) := by decide +kernel
theorem d_Ga_sumUp_147 : decode prog_2_method_9_code 147 = .ok (.iadd, 1) := by decide +kernel
theorem d_Ga_sumUp_146 : decode prog_2_method_9_code 146 = .ok (.iconst 1, 1) := by decide +kernel
theorem d_Ga_sumUp_9 : decode prog_2_method_9_code 9 = .ok (.aload_n 1, 1) := by decide +kernel
theorem d_Ga_sumUp_13 : decode prog_2_method_9_code 13 = .ok (.iload 4, 2) := by decide +kernel
theorem d_Ga_sumUp_23 : decode prog_2_method_9_code 23 = .ok (.iconst 0, 1) := by decide +kernel
theorem d_Ga_sumUp_20 : decode prog_2_method_9_code 20 = .ok (.goto 4, 3) := by decide +kernel
theorem d_Ga_sumUp_19 : decode prog_2_method_9_code 19 = .ok (.iconst 1, 1) := by decide +kernel
theorem d_Ga_sumUp_16 : decode prog_2_method_9_code 16 = .ok (.ifCond .ne 7, 3) := by decide +kernel
theorem d_Ga_sumUp_15 : decode prog_2_method_9_code 15 = .ok (.iaload, 1) := by decide +kernel
theorem d_Ga_sumUp_10 : decode prog_2_method_9_code 10 = .ok (.getfield 93, 3) := by decide +kernel
theorem d_Ga_sumUp_6 : decode prog_2_method_9_code 6 = .ok (.if_icmp .ge 139, 3) := by decide +kernel
theorem d_Ga_sumUp_1 : decode prog_2_method_9_code 1 = .ok (.istore 4, 2) := by decide +kernel
theorem d_Ga_sumUp_0 : decode prog_2_method_9_code 0 = .ok (.iconst 0, 1) := by decide +kernel
theorem d_Ga_mayBreak_0 : decode prog_2_method_11_code 0 = .ok (.aload_n 0, 1) := by decide +kernel
theorem d_Ga_mayBreak_4 : decode prog_2_method_11_code 4 = .ok (.iload_n 1, 1) := by decide +kernel
theorem d_Ga_mayBreak_42 : decode prog_2_method_11_code 42 = .ok (.iload_n 1, 1) := by decide +kernel
theorem d_Ga_mayBreak_79 : decode prog_2_method_11_code 79 = .ok (.ireturn, 1) := by decide +kernel
theorem d_Ga_mayBreak_78 : decode prog_2_method_11_code 78 = .ok (.iconst 0, 1) := by decide +kernel
theorem d_Ga_mayBreak_46 : decode prog_2_method_11_code 46 = .ok (.iload_n 1, 1) := by decide +kernel
theorem d_Ga_mayBreak_47 : decode prog_2_method_11_code 47 = .ok (.iload_n 2, 1) := by decide +kernel
theorem d_Ga_mayBreak_75 : decode prog_2_method_11_code 75 = .ok (.goto 4, 3) := by decide +kernel
theorem d_Ga_mayBreak_74 : decode prog_2_method_11_code 74 = .ok (.iconst 1, 1) := by decide +kernel
theorem d_Ga_mayBreak_51 : decode prog_2_method_11_code 51 = .ok (.aload_n 0, 1) := by decide +kernel
theorem d_Ga_mayBreak_55 : decode prog_2_method_11_code 55 = .ok (.iload_n 1, 1) := by decide +kernel
theorem d_Ga_mayBreak_62 : decode prog_2_method_11_code 62 = .ok (.aload_n 0, 1) := by decide +kernel
theorem d_Ga_mayBreak_66 : decode prog_2_method_11_code 66 = .ok (.iload_n 1, 1) := by decide +kernel
theorem d_Ga_mayBreak_71 : decode prog_2_method_11_code 71 = .ok (.if_icmp .ne 7, 3) := by decide +kernel
theorem d_Ga_mayBreak_70 : decode prog_2_method_11_code 70 = .ok (.iconst 2, 1) := by decide +kernel
theorem d_Ga_mayBreak_69 : decode prog_2_method_11_code 69 = .ok (.iaload, 1) := by decide +kernel
theorem d_Ga_mayBreak_68 : decode prog_2_method_11_code 68 = .ok (.isub, 1) := by decide +kernel
theorem d_Ga_mayBreak_67 : decode prog_2_method_11_code 67 = .ok (.iconst 1, 1) := by decide +kernel
theorem d_Ga_mayBreak_63 : decode prog_2_method_11_code 63 = .ok (.getfield 9, 3) := by decide +kernel
theorem d_Ga_mayBreak_59 : decode prog_2_method_11_code 59 = .ok (.ifCond .eq 15, 3) := by decide +kernel
theorem d_Ga_mayBreak_58 : decode prog_2_method_11_code 58 = .ok (.iaload, 1) := by decide +kernel
theorem d_Ga_mayBreak_57 : decode prog_2_method_11_code 57 = .ok (.isub, 1) := by decide +kernel
theorem d_Ga_mayBreak_56 : decode prog_2_method_11_code 56 = .ok (.iconst 1, 1) := by decide +kernel
theorem d_Ga_mayBreak_52 : decode prog_2_method_11_code 52 = .ok (.getfield 9, 3) := by decide +kernel
theorem d_Ga_mayBreak_48 : decode prog_2_method_11_code 48 = .ok (.if_icmp .eq 26, 3) := by decide +kernel
theorem d_Ga_mayBreak_43 : decode prog_2_method_11_code 43 = .ok (.ifCond .le 35, 3) := by decide +kernel
theorem d_Ga_mayBreak_6 : decode prog_2_method_11_code 6 = .ok (.tableswitch 105 1 5 #[36, 105, 74, 34, 34], 34) := by decide +kernel
theorem d_Ga_mayBreak_112 : decode prog_2_method_11_code 112 = .ok (.ireturn, 1) := by decide +kernel
theorem d_Ga_mayBreak_111 : decode prog_2_method_11_code 111 = .ok (.iconst 0, 1) := by decide +kernel
theorem d_Ga_mayBreak_80 : decode prog_2_method_11_code 80 = .ok (.iload_n 1, 1) := by decide +kernel
theorem d_Ga_mayBreak_81 : decode prog_2_method_11_code 81 = .ok (.iload_n 2, 1) := by decide +kernel
theorem d_Ga_mayBreak_110 : decode prog_2_method_11_code 110 = .ok (.ireturn, 1) := by decide +kernel
theorem d_Ga_mayBreak_109 : decode prog_2_method_11_code 109 = .ok (.iconst 0, 1) := by decide +kernel
theorem d_Ga_mayBreak_85 : decode prog_2_method_11_code 85 = .ok (.iload_n 1, 1) := by decide +kernel
theorem d_Ga_mayBreak_86 : decode prog_2_method_11_code 86 = .ok (.aload_n 0, 1) := by decide +kernel
theorem d_Ga_mayBreak_93 : decode prog_2_method_11_code 93 = .ok (.aload_n 0, 1) := by decide +kernel
theorem d_Ga_mayBreak_97 : decode prog_2_method_11_code 97 = .ok (.iload_n 1, 1) := by decide +kernel
theorem d_Ga_mayBreak_106 : decode prog_2_method_11_code 106 = .ok (.goto 4, 3) := by decide +kernel
theorem d_Ga_mayBreak_105 : decode prog_2_method_11_code 105 = .ok (.iconst 1, 1) := by decide +kernel
theorem d_Ga_mayBreak_102 : decode prog_2_method_11_code 102 = .ok (.if_icmp .ne 7, 3) := by decide +kernel
theorem d_Ga_mayBreak_101 : decode prog_2_method_11_code 101 = .ok (.iconst 1, 1) := by decide +kernel
theorem d_Ga_mayBreak_100 : decode prog_2_method_11_code 100 = .ok (.iaload, 1) := by decide +kernel
theorem d_Ga_mayBreak_99 : decode prog_2_method_11_code 99 = .ok (.iadd, 1) := by decide +kernel
theorem d_Ga_mayBreak_98 : decode prog_2_method_11_code 98 = .ok (.iconst 1, 1) := by decide +kernel
theorem d_Ga_mayBreak_94 : decode prog_2_method_11_code 94 = .ok (.getfield 9, 3) := by decide +kernel
theorem d_Ga_mayBreak_90 : decode prog_2_method_11_code 90 = .ok (.if_icmp .ge 19, 3) := by decide +kernel
theorem d_Ga_mayBreak_87 : decode prog_2_method_11_code 87 = .ok (.getfield 52, 3) := by decide +kernel
theorem d_Ga_mayBreak_82 : decode prog_2_method_11_code 82 = .ok (.if_icmp .lt 27, 3) := by decide +kernel
theorem d_Ga_mayBreak_41 : decode prog_2_method_11_code 41 = .ok (.ireturn, 1) := by decide +kernel
theorem d_Ga_mayBreak_40 : decode prog_2_method_11_code 40 = .ok (.iconst 1, 1) := by decide +kernel
theorem d_Ga_mayBreak_5 : decode prog_2_method_11_code 5 = .ok (.iaload, 1) := by decide +kernel
theorem d_Ga_mayBreak_1 : decode prog_2_method_11_code 1 = .ok (.getfield 9, 3) := by decide +kernel
theorem d_Ga_markPlaces_49 : decode prog_2_method_10_code 49 = .ok (.iload 4, 2) := by decide +kernel
theorem d_Ga_markPlaces_51 : decode prog_2_method_10_code 51 = .ok (.iload_n 2, 1) := by decide +kernel
theorem d_Ga_markPlaces_82 : decode prog_2_method_10_code 82 = .ok (.goto (-77), 3) := by decide +kernel
theorem d_Ga_markPlaces_79 : decode prog_2_method_10_code 79 = .ok (.iinc 4 1, 3) := by decide +kernel
theorem d_Ga_markPlaces_55 : decode prog_2_method_10_code 55 = .ok (.aload_n 0, 1) := by decide +kernel
theorem d_Ga_markPlaces_59 : decode prog_2_method_10_code 59 = .ok (.iload 4, 2) := by decide +kernel
theorem d_Ga_markPlaces_66 : decode prog_2_method_10_code 66 = .ok (.iload 4, 2) := by decide +kernel
theorem d_Ga_markPlaces_70 : decode prog_2_method_10_code 70 = .ok (.aload_n 1, 1) := by decide +kernel
theorem d_Ga_markPlaces_74 : decode prog_2_method_10_code 74 = .ok (.iload 4, 2) := by decide +kernel
theorem d_Ga_markPlaces_78 : decode prog_2_method_10_code 78 = .ok (.istore_n 3, 1) := by decide +kernel
theorem d_Ga_markPlaces_77 : decode prog_2_method_10_code 77 = .ok (.iadd, 1) := by decide +kernel
theorem d_Ga_markPlaces_76 : decode prog_2_method_10_code 76 = .ok (.iaload, 1) := by decide +kernel
theorem d_Ga_markPlaces_71 : decode prog_2_method_10_code 71 = .ok (.getfield 121, 3) := by decide +kernel
theorem d_Ga_markPlaces_69 : decode prog_2_method_10_code 69 = .ok (.iadd, 1) := by decide +kernel
theorem d_Ga_markPlaces_68 : decode prog_2_method_10_code 68 = .ok (.iconst 1, 1) := by decide +kernel
theorem d_Ga_markPlaces_63 : decode prog_2_method_10_code 63 = .ok (.if_icmp .ne 16, 3) := by decide +kernel
theorem d_Ga_markPlaces_62 : decode prog_2_method_10_code 62 = .ok (.iconst 5, 1) := by decide +kernel
theorem d_Ga_markPlaces_61 : decode prog_2_method_10_code 61 = .ok (.iaload, 1) := by decide +kernel
theorem d_Ga_markPlaces_56 : decode prog_2_method_10_code 56 = .ok (.getfield 9, 3) := by decide +kernel
theorem d_Ga_markPlaces_52 : decode prog_2_method_10_code 52 = .ok (.if_icmp .ge 27, 3) := by decide +kernel
theorem d_Ga_markPlaces_48 : decode prog_2_method_10_code 48 = .ok (.bastore, 1) := by decide +kernel
theorem d_Ga_markPlaces_47 : decode prog_2_method_10_code 47 = .ok (.iconst 0, 1) := by decide +kernel
theorem d_Ga_markPlaces_5 : decode prog_2_method_10_code 5 = .ok (.iload 4, 2) := by decide +kernel
theorem d_Ga_markPlaces_7 : decode prog_2_method_10_code 7 = .ok (.aload_n 0, 1) := by decide +kernel
theorem d_Ga_markPlaces_85 : decode prog_2_method_10_code 85 = .ok (.return_, 1) := by decide +kernel
theorem d_Ga_markPlaces_14 : decode prog_2_method_10_code 14 = .ok (.aload_n 0, 1) := by decide +kernel
theorem d_Ga_markPlaces_18 : decode prog_2_method_10_code 18 = .ok (.iload 4, 2) := by decide +kernel
theorem d_Ga_markPlaces_20 : decode prog_2_method_10_code 20 = .ok (.aload_n 0, 1) := by decide +kernel
theorem d_Ga_markPlaces_24 : decode prog_2_method_10_code 24 = .ok (.iload 4, 2) := by decide +kernel
theorem d_Ga_markPlaces_33 : decode prog_2_method_10_code 33 = .ok (.aload_n 0, 1) := by decide +kernel
theorem d_Ga_markPlaces_34 : decode prog_2_method_10_code 34 = .ok (.iload 4, 2) := by decide +kernel
theorem d_Ga_markPlaces_36 : decode prog_2_method_10_code 36 = .ok (.iload_n 3, 1) := by decide +kernel
theorem d_Ga_markPlaces_44 : decode prog_2_method_10_code 44 = .ok (.goto 4, 3) := by decide +kernel
theorem d_Ga_markPlaces_43 : decode prog_2_method_10_code 43 = .ok (.iconst 1, 1) := by decide +kernel
theorem d_Ga_markPlaces_40 : decode prog_2_method_10_code 40 = .ok (.ifCond .eq 7, 3) := by decide +kernel
theorem d_Ga_markPlaces_37 : decode prog_2_method_10_code 37 = .ok (.invokevirtual 117, 3) := by decide +kernel
theorem d_Ga_markPlaces_30 : decode prog_2_method_10_code 30 = .ok (.if_icmp .eq 17, 3) := by decide +kernel
theorem d_Ga_markPlaces_27 : decode prog_2_method_10_code 27 = .ok (.sipush 10000, 3) := by decide +kernel
theorem d_Ga_markPlaces_26 : decode prog_2_method_10_code 26 = .ok (.iaload, 1) := by decide +kernel
theorem d_Ga_markPlaces_21 : decode prog_2_method_10_code 21 = .ok (.getfield 15, 3) := by decide +kernel
theorem d_Ga_markPlaces_15 : decode prog_2_method_10_code 15 = .ok (.getfield 18, 3) := by decide +kernel
theorem d_Ga_markPlaces_11 : decode prog_2_method_10_code 11 = .ok (.if_icmp .gt 74, 3) := by decide +kernel
theorem d_Ga_markPlaces_8 : decode prog_2_method_10_code 8 = .ok (.getfield 52, 3) := by decide +kernel
theorem d_Ga_markPlaces_1 : decode prog_2_method_10_code 1 = .ok (.istore_n 3, 1) := by decide +kernel
theorem d_Ga_markPlaces_3 : decode prog_2_method_10_code 3 = .ok (.istore 4, 2) := by decide +kernel
theorem d_Ga_markPlaces_2 : decode prog_2_method_10_code 2 = .ok (.iconst 0, 1) := by decide +kernel
theorem d_Ga_markPlaces_0 : decode prog_2_method_10_code 0 = .ok (.iconst 0, 1) := by decide +kernel
theorem d_Ga_isLeftOut_0 : decode prog_2_method_13_code 0 = .ok (.iload_n 0, 1) := by decide +kernel
theorem d_Ga_isLeftOut_20 : decode prog_2_method_13_code 20 = .ok (.ireturn, 1) := by decide +kernel
theorem d_Ga_isLeftOut_16 : decode prog_2_method_13_code 16 = .ok (.goto 4, 3) := by decide +kernel
theorem d_Ga_isLeftOut_15 : decode prog_2_method_13_code 15 = .ok (.iconst 1, 1) := by decide +kernel
theorem d_Ga_isLeftOut_5 : decode prog_2_method_13_code 5 = .ok (.iload_n 0, 1) := by decide +kernel
theorem d_Ga_isLeftOut_10 : decode prog_2_method_13_code 10 = .ok (.iload_n 0, 1) := by decide +kernel
theorem d_Ga_isLeftOut_19 : decode prog_2_method_13_code 19 = .ok (.iconst 0, 1) := by decide +kernel
theorem d_Ga_isLeftOut_12 : decode prog_2_method_13_code 12 = .ok (.if_icmp .ne 7, 3) := by decide +kernel
theorem d_Ga_isLeftOut_11 : decode prog_2_method_13_code 11 = .ok (.iconst 4, 1) := by decide +kernel
theorem d_Ga_isLeftOut_7 : decode prog_2_method_13_code 7 = .ok (.if_icmp .eq 8, 3) := by decide +kernel
theorem d_Ga_isLeftOut_6 : decode prog_2_method_13_code 6 = .ok (.iconst 3, 1) := by decide +kernel
theorem d_Ga_isLeftOut_2 : decode prog_2_method_13_code 2 = .ok (.if_icmp .eq 13, 3) := by decide +kernel
theorem d_Ga_isLeftOut_1 : decode prog_2_method_13_code 1 = .ok (.iconst 1, 1) := by decide +kernel
theorem d_Ga_findFirstOnes_56 : decode prog_2_method_12_code 56 = .ok (.aload_n 0, 1) := by decide +kernel
theorem d_Ga_findFirstOnes_60 : decode prog_2_method_12_code 60 = .ok (.iload_n 3, 1) := by decide +kernel
theorem d_Ga_findFirstOnes_61 : decode prog_2_method_12_code 61 = .ok (.aload_n 0, 1) := by decide +kernel
theorem d_Ga_findFirstOnes_65 : decode prog_2_method_12_code 65 = .ok (.iload_n 3, 1) := by decide +kernel
theorem d_Ga_findFirstOnes_68 : decode prog_2_method_12_code 68 = .ok (.iload_n 3, 1) := by decide +kernel
theorem d_Ga_findFirstOnes_69 : decode prog_2_method_12_code 69 = .ok (.iload_n 2, 1) := by decide +kernel
theorem d_Ga_findFirstOnes_134 : decode prog_2_method_12_code 134 = .ok (.goto (-112), 3) := by decide +kernel
theorem d_Ga_findFirstOnes_131 : decode prog_2_method_12_code 131 = .ok (.iinc 3 (-1), 3) := by decide +kernel
theorem d_Ga_findFirstOnes_73 : decode prog_2_method_12_code 73 = .ok (.aload_n 0, 1) := by decide +kernel
theorem d_Ga_findFirstOnes_77 : decode prog_2_method_12_code 77 = .ok (.iload_n 3, 1) := by decide +kernel
theorem d_Ga_findFirstOnes_83 : decode prog_2_method_12_code 83 = .ok (.iload_n 3, 1) := by decide +kernel
theorem d_Ga_findFirstOnes_86 : decode prog_2_method_12_code 86 = .ok (.aload_n 1, 1) := by decide +kernel
theorem d_Ga_findFirstOnes_90 : decode prog_2_method_12_code 90 = .ok (.iload_n 3, 1) := by decide +kernel
theorem d_Ga_findFirstOnes_93 : decode prog_2_method_12_code 93 = .ok (.aload_n 0, 1) := by decide +kernel
theorem d_Ga_findFirstOnes_100 : decode prog_2_method_12_code 100 = .ok (.istore 4, 2) := by decide +kernel
theorem d_Ga_findFirstOnes_102 : decode prog_2_method_12_code 102 = .ok (.aload_n 0, 1) := by decide +kernel
theorem d_Ga_findFirstOnes_106 : decode prog_2_method_12_code 106 = .ok (.iload_n 3, 1) := by decide +kernel
theorem d_Ga_findFirstOnes_107 : decode prog_2_method_12_code 107 = .ok (.aload_n 1, 1) := by decide +kernel
theorem d_Ga_findFirstOnes_111 : decode prog_2_method_12_code 111 = .ok (.iload_n 3, 1) := by decide +kernel
theorem d_Ga_findFirstOnes_128 : decode prog_2_method_12_code 128 = .ok (.iload 4, 2) := by decide +kernel
theorem d_Ga_findFirstOnes_130 : decode prog_2_method_12_code 130 = .ok (.iastore, 1) := by decide +kernel
theorem d_Ga_findFirstOnes_118 : decode prog_2_method_12_code 118 = .ok (.aload_n 0, 1) := by decide +kernel
theorem d_Ga_findFirstOnes_122 : decode prog_2_method_12_code 122 = .ok (.iload 4, 2) := by decide +kernel
theorem d_Ga_findFirstOnes_125 : decode prog_2_method_12_code 125 = .ok (.goto 5, 3) := by decide +kernel
theorem d_Ga_findFirstOnes_124 : decode prog_2_method_12_code 124 = .ok (.iaload, 1) := by decide +kernel
theorem d_Ga_findFirstOnes_119 : decode prog_2_method_12_code 119 = .ok (.getfield 43, 3) := by decide +kernel
theorem d_Ga_findFirstOnes_115 : decode prog_2_method_12_code 115 = .ok (.if_icmp .ne 13, 3) := by decide +kernel
theorem d_Ga_findFirstOnes_113 : decode prog_2_method_12_code 113 = .ok (.ldc 84, 2) := by decide +kernel
theorem d_Ga_findFirstOnes_112 : decode prog_2_method_12_code 112 = .ok (.iaload, 1) := by decide +kernel
theorem d_Ga_findFirstOnes_108 : decode prog_2_method_12_code 108 = .ok (.getfield 92, 3) := by decide +kernel
theorem d_Ga_findFirstOnes_103 : decode prog_2_method_12_code 103 = .ok (.getfield 22, 3) := by decide +kernel
theorem d_Ga_findFirstOnes_97 : decode prog_2_method_12_code 97 = .ok (.invokestatic 128, 3) := by decide +kernel
theorem d_Ga_findFirstOnes_94 : decode prog_2_method_12_code 94 = .ok (.getfield 52, 3) := by decide +kernel
theorem d_Ga_findFirstOnes_92 : decode prog_2_method_12_code 92 = .ok (.iadd, 1) := by decide +kernel
theorem d_Ga_findFirstOnes_91 : decode prog_2_method_12_code 91 = .ok (.iaload, 1) := by decide +kernel
theorem d_Ga_findFirstOnes_87 : decode prog_2_method_12_code 87 = .ok (.getfield 121, 3) := by decide +kernel
theorem d_Ga_findFirstOnes_85 : decode prog_2_method_12_code 85 = .ok (.iadd, 1) := by decide +kernel
theorem d_Ga_findFirstOnes_84 : decode prog_2_method_12_code 84 = .ok (.iconst 1, 1) := by decide +kernel
theorem d_Ga_findFirstOnes_80 : decode prog_2_method_12_code 80 = .ok (.if_icmp .ne 51, 3) := by decide +kernel
theorem d_Ga_findFirstOnes_79 : decode prog_2_method_12_code 79 = .ok (.iconst 5, 1) := by decide +kernel
theorem d_Ga_findFirstOnes_78 : decode prog_2_method_12_code 78 = .ok (.iaload, 1) := by decide +kernel
theorem d_Ga_findFirstOnes_74 : decode prog_2_method_12_code 74 = .ok (.getfield 9, 3) := by decide +kernel
theorem d_Ga_findFirstOnes_70 : decode prog_2_method_12_code 70 = .ok (.if_icmp .ge 61, 3) := by decide +kernel
theorem d_Ga_findFirstOnes_67 : decode prog_2_method_12_code 67 = .ok (.iastore, 1) := by decide +kernel
theorem d_Ga_findFirstOnes_66 : decode prog_2_method_12_code 66 = .ok (.iaload, 1) := by decide +kernel
theorem d_Ga_findFirstOnes_62 : decode prog_2_method_12_code 62 = .ok (.getfield 43, 3) := by decide +kernel
theorem d_Ga_findFirstOnes_57 : decode prog_2_method_12_code 57 = .ok (.getfield 22, 3) := by decide +kernel
theorem d_Ga_findFirstOnes_55 : decode prog_2_method_12_code 55 = .ok (.iastore, 1) := by decide +kernel
theorem d_Ga_findFirstOnes_22 : decode prog_2_method_12_code 22 = .ok (.iload_n 3, 1) := by decide +kernel
theorem d_Ga_findFirstOnes_137 : decode prog_2_method_12_code 137 = .ok (.return_, 1) := by decide +kernel
theorem d_Ga_findFirstOnes_26 : decode prog_2_method_12_code 26 = .ok (.aload_n 0, 1) := by decide +kernel
theorem d_Ga_findFirstOnes_30 : decode prog_2_method_12_code 30 = .ok (.iload_n 3, 1) := by decide +kernel
theorem d_Ga_findFirstOnes_31 : decode prog_2_method_12_code 31 = .ok (.aload_n 0, 1) := by decide +kernel
theorem d_Ga_findFirstOnes_35 : decode prog_2_method_12_code 35 = .ok (.iload_n 3, 1) := by decide +kernel
theorem d_Ga_findFirstOnes_54 : decode prog_2_method_12_code 54 = .ok (.iload_n 3, 1) := by decide +kernel
theorem d_Ga_findFirstOnes_43 : decode prog_2_method_12_code 43 = .ok (.aload_n 0, 1) := by decide +kernel
theorem d_Ga_findFirstOnes_47 : decode prog_2_method_12_code 47 = .ok (.iload_n 3, 1) := by decide +kernel
theorem d_Ga_findFirstOnes_51 : decode prog_2_method_12_code 51 = .ok (.goto 4, 3) := by decide +kernel
theorem d_Ga_findFirstOnes_50 : decode prog_2_method_12_code 50 = .ok (.iaload, 1) := by decide +kernel
theorem d_Ga_findFirstOnes_49 : decode prog_2_method_12_code 49 = .ok (.iadd, 1) := by decide +kernel
theorem d_Ga_findFirstOnes_48 : decode prog_2_method_12_code 48 = .ok (.iconst 1, 1) := by decide +kernel
theorem d_Ga_findFirstOnes_44 : decode prog_2_method_12_code 44 = .ok (.getfield 43, 3) := by decide +kernel
theorem d_Ga_findFirstOnes_40 : decode prog_2_method_12_code 40 = .ok (.ifCond .eq 14, 3) := by decide +kernel
theorem d_Ga_findFirstOnes_37 : decode prog_2_method_12_code 37 = .ok (.invokestatic 124, 3) := by decide +kernel
theorem d_Ga_findFirstOnes_36 : decode prog_2_method_12_code 36 = .ok (.iaload, 1) := by decide +kernel
theorem d_Ga_findFirstOnes_32 : decode prog_2_method_12_code 32 = .ok (.getfield 9, 3) := by decide +kernel
theorem d_Ga_findFirstOnes_27 : decode prog_2_method_12_code 27 = .ok (.getfield 43, 3) := by decide +kernel
theorem d_Ga_findFirstOnes_23 : decode prog_2_method_12_code 23 = .ok (.ifCond .lt 114, 3) := by decide +kernel
theorem d_Ga_findFirstOnes_0 : decode prog_2_method_12_code 0 = .ok (.aload_n 0, 1) := by decide +kernel
theorem d_Ga_findFirstOnes_4 : decode prog_2_method_12_code 4 = .ok (.aload_n 0, 1) := by decide +kernel
theorem d_Ga_findFirstOnes_10 : decode prog_2_method_12_code 10 = .ok (.aload_n 0, 1) := by decide +kernel
theorem d_Ga_findFirstOnes_17 : decode prog_2_method_12_code 17 = .ok (.aload_n 0, 1) := by decide +kernel
theorem d_Ga_findFirstOnes_21 : decode prog_2_method_12_code 21 = .ok (.istore_n 3, 1) := by decide +kernel
theorem d_Ga_findFirstOnes_18 : decode prog_2_method_12_code 18 = .ok (.getfield 52, 3) := by decide +kernel
theorem d_Ga_findFirstOnes_16 : decode prog_2_method_12_code 16 = .ok (.iastore, 1) := by decide +kernel
theorem d_Ga_findFirstOnes_15 : decode prog_2_method_12_code 15 = .ok (.iadd, 1) := by decide +kernel
theorem d_Ga_findFirstOnes_14 : decode prog_2_method_12_code 14 = .ok (.iconst 1, 1) := by decide +kernel
theorem d_Ga_findFirstOnes_11 : decode prog_2_method_12_code 11 = .ok (.getfield 52, 3) := by decide +kernel
theorem d_Ga_findFirstOnes_9 : decode prog_2_method_12_code 9 = .ok (.iadd, 1) := by decide +kernel
theorem d_Ga_findFirstOnes_8 : decode prog_2_method_12_code 8 = .ok (.iconst 1, 1) := by decide +kernel
theorem d_Ga_findFirstOnes_5 : decode prog_2_method_12_code 5 = .ok (.getfield 52, 3) := by decide +kernel
theorem d_Ga_findFirstOnes_1 : decode prog_2_method_12_code 1 = .ok (.getfield 43, 3) := by decide +kernel
theorem d_Ga_prepare_0 : decode prog_2_method_2_code 0 = .ok (.aload_n 1, 1) := by decide +kernel
theorem d_Ga_prepare_4 : decode prog_2_method_2_code 4 = .ok (.istore_n 3, 1) := by decide +kernel
theorem d_Ga_prepare_5 : decode prog_2_method_2_code 5 = .ok (.aload_n 0, 1) := by decide +kernel
theorem d_Ga_prepare_6 : decode prog_2_method_2_code 6 = .ok (.iload_n 3, 1) := by decide +kernel
theorem d_Ga_prepare_14 : decode prog_2_method_2_code 14 = .ok (.aload_n 0, 1) := by decide +kernel
theorem d_Ga_prepare_15 : decode prog_2_method_2_code 15 = .ok (.aload_n 1, 1) := by decide +kernel
theorem d_Ga_prepare_16 : decode prog_2_method_2_code 16 = .ok (.aload_n 2, 1) := by decide +kernel
theorem d_Ga_prepare_17 : decode prog_2_method_2_code 17 = .ok (.iload_n 3, 1) := by decide +kernel
theorem d_Ga_prepare_21 : decode prog_2_method_2_code 21 = .ok (.aload_n 0, 1) := by decide +kernel
theorem d_Ga_prepare_22 : decode prog_2_method_2_code 22 = .ok (.iload_n 3, 1) := by decide +kernel
theorem d_Ga_prepare_26 : decode prog_2_method_2_code 26 = .ok (.aload_n 0, 1) := by decide +kernel
theorem d_Ga_prepare_27 : decode prog_2_method_2_code 27 = .ok (.aload_n 1, 1) := by decide +kernel
theorem d_Ga_prepare_28 : decode prog_2_method_2_code 28 = .ok (.aload_n 2, 1) := by decide +kernel
theorem d_Ga_prepare_32 : decode prog_2_method_2_code 32 = .ok (.iload_n 3, 1) := by decide +kernel
theorem d_Ga_prepare_36 : decode prog_2_method_2_code 36 = .ok (.aload_n 0, 1) := by decide +kernel
theorem d_Ga_prepare_37 : decode prog_2_method_2_code 37 = .ok (.aload_n 1, 1) := by decide +kernel
theorem d_Ga_prepare_38 : decode prog_2_method_2_code 38 = .ok (.iload_n 3, 1) := by decide +kernel
theorem d_Ga_prepare_42 : decode prog_2_method_2_code 42 = .ok (.aload_n 0, 1) := by decide +kernel
theorem d_Ga_prepare_43 : decode prog_2_method_2_code 43 = .ok (.aload_n 1, 1) := by decide +kernel
theorem d_Ga_prepare_44 : decode prog_2_method_2_code 44 = .ok (.iload_n 3, 1) := by decide +kernel
theorem d_Ga_prepare_48 : decode prog_2_method_2_code 48 = .ok (.return_, 1) := by decide +kernel
theorem d_Ga_prepare_45 : decode prog_2_method_2_code 45 = .ok (.invokevirtual 78, 3) := by decide +kernel
theorem d_Ga_prepare_39 : decode prog_2_method_2_code 39 = .ok (.invokevirtual 74, 3) := by decide +kernel
theorem d_Ga_prepare_33 : decode prog_2_method_2_code 33 = .ok (.invokevirtual 70, 3) := by decide +kernel
theorem d_Ga_prepare_29 : decode prog_2_method_2_code 29 = .ok (.getfield 64, 3) := by decide +kernel
theorem d_Ga_prepare_23 : decode prog_2_method_2_code 23 = .ok (.invokevirtual 60, 3) := by decide +kernel
theorem d_Ga_prepare_18 : decode prog_2_method_2_code 18 = .ok (.invokevirtual 56, 3) := by decide +kernel
theorem d_Ga_prepare_11 : decode prog_2_method_2_code 11 = .ok (.putfield 52, 3) := by decide +kernel
theorem d_Ga_prepare_10 : decode prog_2_method_2_code 10 = .ok (.isub, 1) := by decide +kernel
theorem d_Ga_prepare_9 : decode prog_2_method_2_code 9 = .ok (.iconst 1, 1) := by decide +kernel
theorem d_Ga_prepare_8 : decode prog_2_method_2_code 8 = .ok (.iadd, 1) := by decide +kernel
theorem d_Ga_prepare_7 : decode prog_2_method_2_code 7 = .ok (.iconst 3, 1) := by decide +kernel
theorem d_Ga_prepare_1 : decode prog_2_method_2_code 1 = .ok (.invokevirtual 46, 3) := by decide +kernel
theorem d_Ou_forget_0 : decode prog_7_method_2_code 0 = .ok (.aload_n 0, 1) := by decide +kernel
theorem d_Ou_forget_5 : decode prog_7_method_2_code 5 = .ok (.aload_n 0, 1) := by decide +kernel
theorem d_Ou_forget_10 : decode prog_7_method_2_code 10 = .ok (.aload_n 0, 1) := by decide +kernel
theorem d_Ou_forget_15 : decode prog_7_method_2_code 15 = .ok (.return_, 1) := by decide +kernel
theorem d_Ou_forget_12 : decode prog_7_method_2_code 12 = .ok (.putfield 27, 3) := by decide +kernel
theorem d_Ou_forget_11 : decode prog_7_method_2_code 11 = .ok (.iconst 0, 1) := by decide +kernel
theorem d_Ou_forget_7 : decode prog_7_method_2_code 7 = .ok (.putfield 24, 3) := by decide +kernel
theorem d_Ou_forget_6 : decode prog_7_method_2_code 6 = .ok (.iconst 0, 1) := by decide +kernel
theorem d_Ou_forget_2 : decode prog_7_method_2_code 2 = .ok (.putfield 20, 3) := by decide +kernel
theorem d_Ou_forget_1 : decode prog_7_method_2_code 1 = .ok (.iconst 0, 1) := by decide +kernel
theorem d_Ou_record_44 : decode prog_7_method_3_code 44 = .ok (.iload 6, 2) := by decide +kernel
theorem d_Ou_record_187 : decode prog_7_method_3_code 187 = .ok (.return_, 1) := by decide +kernel
theorem d_Ou_record_49 : decode prog_7_method_3_code 49 = .ok (.aload 4, 2) := by decide +kernel
theorem d_Ou_record_54 : decode prog_7_method_3_code 54 = .ok (.iload 5, 2) := by decide +kernel
theorem d_Ou_record_57 : decode prog_7_method_3_code 57 = .ok (.istore 7, 2) := by decide +kernel
theorem d_Ou_record_59 : decode prog_7_method_3_code 59 = .ok (.aload_n 1, 1) := by decide +kernel
theorem d_Ou_record_60 : decode prog_7_method_3_code 60 = .ok (.iload 7, 2) := by decide +kernel
theorem d_Ou_record_62 : decode prog_7_method_3_code 62 = .ok (.aload 4, 2) := by decide +kernel
theorem d_Ou_record_67 : decode prog_7_method_3_code 67 = .ok (.iload 5, 2) := by decide +kernel
theorem d_Ou_record_73 : decode prog_7_method_3_code 73 = .ok (.aload_n 0, 1) := by decide +kernel
theorem d_Ou_record_79 : decode prog_7_method_3_code 79 = .ok (.iload 6, 2) := by decide +kernel
theorem d_Ou_record_81 : decode prog_7_method_3_code 81 = .ok (.aload 4, 2) := by decide +kernel
theorem d_Ou_record_86 : decode prog_7_method_3_code 86 = .ok (.iload 5, 2) := by decide +kernel
theorem d_Ou_record_90 : decode prog_7_method_3_code 90 = .ok (.aload_n 0, 1) := by decide +kernel
theorem d_Ou_record_96 : decode prog_7_method_3_code 96 = .ok (.iload 6, 2) := by decide +kernel
theorem d_Ou_record_98 : decode prog_7_method_3_code 98 = .ok (.aload_n 1, 1) := by decide +kernel
theorem d_Ou_record_102 : decode prog_7_method_3_code 102 = .ok (.aload 4, 2) := by decide +kernel
theorem d_Ou_record_107 : decode prog_7_method_3_code 107 = .ok (.iload 7, 2) := by decide +kernel
theorem d_Ou_record_114 : decode prog_7_method_3_code 114 = .ok (.aload_n 0, 1) := by decide +kernel
theorem d_Ou_record_120 : decode prog_7_method_3_code 120 = .ok (.iload 6, 2) := by decide +kernel
theorem d_Ou_record_122 : decode prog_7_method_3_code 122 = .ok (.aload_n 1, 1) := by decide +kernel
theorem d_Ou_record_130 : decode prog_7_method_3_code 130 = .ok (.aload_n 0, 1) := by decide +kernel
theorem d_Ou_record_136 : decode prog_7_method_3_code 136 = .ok (.iload 6, 2) := by decide +kernel
theorem d_Ou_record_138 : decode prog_7_method_3_code 138 = .ok (.aload_n 1, 1) := by decide +kernel
theorem d_Ou_record_146 : decode prog_7_method_3_code 146 = .ok (.aload_n 0, 1) := by decide +kernel
theorem d_Ou_record_152 : decode prog_7_method_3_code 152 = .ok (.iload 6, 2) := by decide +kernel
theorem d_Ou_record_154 : decode prog_7_method_3_code 154 = .ok (.aload_n 1, 1) := by decide +kernel
theorem d_Ou_record_162 : decode prog_7_method_3_code 162 = .ok (.aload_n 0, 1) := by decide +kernel
theorem d_Ou_record_166 : decode prog_7_method_3_code 166 = .ok (.iload 6, 2) := by decide +kernel
theorem d_Ou_record_168 : decode prog_7_method_3_code 168 = .ok (.aload 4, 2) := by decide +kernel
theorem d_Ou_record_173 : decode prog_7_method_3_code 173 = .ok (.iload 5, 2) := by decide +kernel
theorem d_Ou_record_177 : decode prog_7_method_3_code 177 = .ok (.iload 7, 2) := by decide +kernel
theorem d_Ou_record_179 : decode prog_7_method_3_code 179 = .ok (.istore 5, 2) := by decide +kernel
theorem d_Ou_record_184 : decode prog_7_method_3_code 184 = .ok (.goto (-140), 3) := by decide +kernel
theorem d_Ou_record_181 : decode prog_7_method_3_code 181 = .ok (.iinc 6 (-1), 3) := by decide +kernel
theorem d_Ou_record_176 : decode prog_7_method_3_code 176 = .ok (.lastore, 1) := by decide +kernel
theorem d_Ou_record_175 : decode prog_7_method_3_code 175 = .ok (.laload, 1) := by decide +kernel
theorem d_Ou_record_170 : decode prog_7_method_3_code 170 = .ok (.getfield 78, 3) := by decide +kernel
theorem d_Ou_record_163 : decode prog_7_method_3_code 163 = .ok (.getfield 16, 3) := by decide +kernel
theorem d_Ou_record_161 : decode prog_7_method_3_code 161 = .ok (.iastore, 1) := by decide +kernel
theorem d_Ou_record_158 : decode prog_7_method_3_code 158 = .ok (.getfield 75, 3) := by decide +kernel
theorem d_Ou_record_155 : decode prog_7_method_3_code 155 = .ok (.getfield 63, 3) := by decide +kernel
theorem d_Ou_record_151 : decode prog_7_method_3_code 151 = .ok (.aaload, 1) := by decide +kernel
theorem d_Ou_record_150 : decode prog_7_method_3_code 150 = .ok (.iconst 4, 1) := by decide +kernel
theorem d_Ou_record_147 : decode prog_7_method_3_code 147 = .ok (.getfield 13, 3) := by decide +kernel
theorem d_Ou_record_145 : decode prog_7_method_3_code 145 = .ok (.iastore, 1) := by decide +kernel
theorem d_Ou_record_142 : decode prog_7_method_3_code 142 = .ok (.getfield 72, 3) := by decide +kernel
theorem d_Ou_record_139 : decode prog_7_method_3_code 139 = .ok (.getfield 63, 3) := by decide +kernel
theorem d_Ou_record_135 : decode prog_7_method_3_code 135 = .ok (.aaload, 1) := by decide +kernel
theorem d_Ou_record_134 : decode prog_7_method_3_code 134 = .ok (.iconst 3, 1) := by decide +kernel
theorem d_Ou_record_131 : decode prog_7_method_3_code 131 = .ok (.getfield 13, 3) := by decide +kernel
theorem d_Ou_record_129 : decode prog_7_method_3_code 129 = .ok (.iastore, 1) := by decide +kernel
theorem d_Ou_record_126 : decode prog_7_method_3_code 126 = .ok (.getfield 67, 3) := by decide +kernel
theorem d_Ou_record_123 : decode prog_7_method_3_code 123 = .ok (.getfield 63, 3) := by decide +kernel
theorem d_Ou_record_119 : decode prog_7_method_3_code 119 = .ok (.aaload, 1) := by decide +kernel
theorem d_Ou_record_118 : decode prog_7_method_3_code 118 = .ok (.iconst 2, 1) := by decide +kernel
theorem d_Ou_record_115 : decode prog_7_method_3_code 115 = .ok (.getfield 13, 3) := by decide +kernel
theorem d_Ou_record_113 : decode prog_7_method_3_code 113 = .ok (.iastore, 1) := by decide +kernel
theorem d_Ou_record_110 : decode prog_7_method_3_code 110 = .ok (.invokevirtual 57, 3) := by decide +kernel
theorem d_Ou_record_109 : decode prog_7_method_3_code 109 = .ok (.iaload, 1) := by decide +kernel
theorem d_Ou_record_104 : decode prog_7_method_3_code 104 = .ok (.getfield 46, 3) := by decide +kernel
theorem d_Ou_record_99 : decode prog_7_method_3_code 99 = .ok (.getfield 53, 3) := by decide +kernel
theorem d_Ou_record_95 : decode prog_7_method_3_code 95 = .ok (.aaload, 1) := by decide +kernel
theorem d_Ou_record_94 : decode prog_7_method_3_code 94 = .ok (.iconst 1, 1) := by decide +kernel
theorem d_Ou_record_91 : decode prog_7_method_3_code 91 = .ok (.getfield 13, 3) := by decide +kernel
theorem d_Ou_record_89 : decode prog_7_method_3_code 89 = .ok (.iastore, 1) := by decide +kernel
theorem d_Ou_record_88 : decode prog_7_method_3_code 88 = .ok (.iaload, 1) := by decide +kernel
theorem d_Ou_record_83 : decode prog_7_method_3_code 83 = .ok (.getfield 46, 3) := by decide +kernel
theorem d_Ou_record_78 : decode prog_7_method_3_code 78 = .ok (.aaload, 1) := by decide +kernel
theorem d_Ou_record_77 : decode prog_7_method_3_code 77 = .ok (.iconst 0, 1) := by decide +kernel
theorem d_Ou_record_74 : decode prog_7_method_3_code 74 = .ok (.getfield 13, 3) := by decide +kernel
theorem d_Ou_record_70 : decode prog_7_method_3_code 70 = .ok (.invokevirtual 49, 3) := by decide +kernel
theorem d_Ou_record_69 : decode prog_7_method_3_code 69 = .ok (.iaload, 1) := by decide +kernel
theorem d_Ou_record_64 : decode prog_7_method_3_code 64 = .ok (.getfield 46, 3) := by decide +kernel
theorem d_Ou_record_56 : decode prog_7_method_3_code 56 = .ok (.iaload, 1) := by decide +kernel
theorem d_Ou_record_51 : decode prog_7_method_3_code 51 = .ok (.getfield 43, 3) := by decide +kernel
theorem d_Ou_record_46 : decode prog_7_method_3_code 46 = .ok (.ifCond .lt 141, 3) := by decide +kernel
theorem d_Ou_record_0 : decode prog_7_method_3_code 0 = .ok (.aload_n 1, 1) := by decide +kernel
theorem d_Ou_record_4 : decode prog_7_method_3_code 4 = .ok (.astore 4, 2) := by decide +kernel
theorem d_Ou_record_6 : decode prog_7_method_3_code 6 = .ok (.aload_n 0, 1) := by decide +kernel
theorem d_Ou_record_7 : decode prog_7_method_3_code 7 = .ok (.aload 4, 2) := by decide +kernel
theorem d_Ou_record_12 : decode prog_7_method_3_code 12 = .ok (.iload_n 2, 1) := by decide +kernel
theorem d_Ou_record_17 : decode prog_7_method_3_code 17 = .ok (.aload_n 0, 1) := by decide +kernel
theorem d_Ou_record_18 : decode prog_7_method_3_code 18 = .ok (.iload_n 3, 1) := by decide +kernel
theorem d_Ou_record_22 : decode prog_7_method_3_code 22 = .ok (.aload_n 0, 1) := by decide +kernel
theorem d_Ou_record_23 : decode prog_7_method_3_code 23 = .ok (.aload 4, 2) := by decide +kernel
theorem d_Ou_record_33 : decode prog_7_method_3_code 33 = .ok (.iload_n 2, 1) := by decide +kernel
theorem d_Ou_record_34 : decode prog_7_method_3_code 34 = .ok (.istore 5, 2) := by decide +kernel
theorem d_Ou_record_36 : decode prog_7_method_3_code 36 = .ok (.aload_n 0, 1) := by decide +kernel
theorem d_Ou_record_42 : decode prog_7_method_3_code 42 = .ok (.istore 6, 2) := by decide +kernel
theorem d_Ou_record_41 : decode prog_7_method_3_code 41 = .ok (.isub, 1) := by decide +kernel
theorem d_Ou_record_40 : decode prog_7_method_3_code 40 = .ok (.iconst 1, 1) := by decide +kernel
theorem d_Ou_record_37 : decode prog_7_method_3_code 37 = .ok (.getfield 20, 3) := by decide +kernel
theorem d_Ou_record_30 : decode prog_7_method_3_code 30 = .ok (.putfield 27, 3) := by decide +kernel
theorem d_Ou_record_29 : decode prog_7_method_3_code 29 = .ok (.isub, 1) := by decide +kernel
theorem d_Ou_record_28 : decode prog_7_method_3_code 28 = .ok (.iconst 1, 1) := by decide +kernel
theorem d_Ou_record_25 : decode prog_7_method_3_code 25 = .ok (.getfield 42, 3) := by decide +kernel
theorem d_Ou_record_19 : decode prog_7_method_3_code 19 = .ok (.putfield 24, 3) := by decide +kernel
theorem d_Ou_record_14 : decode prog_7_method_3_code 14 = .ok (.putfield 20, 3) := by decide +kernel
theorem d_Ou_record_13 : decode prog_7_method_3_code 13 = .ok (.iaload, 1) := by decide +kernel
theorem d_Ou_record_9 : decode prog_7_method_3_code 9 = .ok (.getfield 36, 3) := by decide +kernel
theorem d_Ou_record_1 : decode prog_7_method_3_code 1 = .ok (.getfield 30, 3) := by decide +kernel
theorem d_Pa_append_0 : decode prog_8_method_2_code 0 = .ok (.aload_n 0, 1) := by decide +kernel
theorem d_Pa_append_4 : decode prog_8_method_2_code 4 = .ok (.istore_n 3, 1) := by decide +kernel
theorem d_Pa_append_5 : decode prog_8_method_2_code 5 = .ok (.aload_n 0, 1) := by decide +kernel
theorem d_Pa_append_9 : decode prog_8_method_2_code 9 = .ok (.iload_n 3, 1) := by decide +kernel
theorem d_Pa_append_10 : decode prog_8_method_2_code 10 = .ok (.iload_n 1, 1) := by decide +kernel
theorem d_Pa_append_12 : decode prog_8_method_2_code 12 = .ok (.aload_n 0, 1) := by decide +kernel
theorem d_Pa_append_16 : decode prog_8_method_2_code 16 = .ok (.iload_n 3, 1) := by decide +kernel
theorem d_Pa_append_17 : decode prog_8_method_2_code 17 = .ok (.iload_n 2, 1) := by decide +kernel
theorem d_Pa_append_19 : decode prog_8_method_2_code 19 = .ok (.aload_n 0, 1) := by decide +kernel
theorem d_Pa_append_23 : decode prog_8_method_2_code 23 = .ok (.iload_n 3, 1) := by decide +kernel
theorem d_Pa_append_26 : decode prog_8_method_2_code 26 = .ok (.aload_n 0, 1) := by decide +kernel
theorem d_Pa_append_30 : decode prog_8_method_2_code 30 = .ok (.iload_n 3, 1) := by decide +kernel
theorem d_Pa_append_33 : decode prog_8_method_2_code 33 = .ok (.aload_n 0, 1) := by decide +kernel
theorem d_Pa_append_37 : decode prog_8_method_2_code 37 = .ok (.iload_n 3, 1) := by decide +kernel
theorem d_Pa_append_40 : decode prog_8_method_2_code 40 = .ok (.aload_n 0, 1) := by decide +kernel
theorem d_Pa_append_44 : decode prog_8_method_2_code 44 = .ok (.iload_n 3, 1) := by decide +kernel
theorem d_Pa_append_47 : decode prog_8_method_2_code 47 = .ok (.aload_n 0, 1) := by decide +kernel
theorem d_Pa_append_51 : decode prog_8_method_2_code 51 = .ok (.iload_n 3, 1) := by decide +kernel
theorem d_Pa_append_55 : decode prog_8_method_2_code 55 = .ok (.aload_n 0, 1) := by decide +kernel
theorem d_Pa_append_59 : decode prog_8_method_2_code 59 = .ok (.iload_n 3, 1) := by decide +kernel
theorem d_Pa_append_63 : decode prog_8_method_2_code 63 = .ok (.aload_n 0, 1) := by decide +kernel
theorem d_Pa_append_67 : decode prog_8_method_2_code 67 = .ok (.iload_n 3, 1) := by decide +kernel
theorem d_Pa_append_70 : decode prog_8_method_2_code 70 = .ok (.aload_n 0, 1) := by decide +kernel
theorem d_Pa_append_71 : decode prog_8_method_2_code 71 = .ok (.iload_n 3, 1) := by decide +kernel
theorem d_Pa_append_77 : decode prog_8_method_2_code 77 = .ok (.iload_n 3, 1) := by decide +kernel
theorem d_Pa_append_78 : decode prog_8_method_2_code 78 = .ok (.ireturn, 1) := by decide +kernel
theorem d_Pa_append_74 : decode prog_8_method_2_code 74 = .ok (.putfield 39, 3) := by decide +kernel
theorem d_Pa_append_73 : decode prog_8_method_2_code 73 = .ok (.iadd, 1) := by decide +kernel
theorem d_Pa_append_72 : decode prog_8_method_2_code 72 = .ok (.iconst 1, 1) := by decide +kernel
theorem d_Pa_append_69 : decode prog_8_method_2_code 69 = .ok (.iastore, 1) := by decide +kernel
theorem d_Pa_append_68 : decode prog_8_method_2_code 68 = .ok (.iconst 0, 1) := by decide +kernel
theorem d_Pa_append_64 : decode prog_8_method_2_code 64 = .ok (.getfield 36, 3) := by decide +kernel
theorem d_Pa_append_62 : decode prog_8_method_2_code 62 = .ok (.iastore, 1) := by decide +kernel
theorem d_Pa_append_60 : decode prog_8_method_2_code 60 = .ok (.ldc 43, 2) := by decide +kernel
theorem d_Pa_append_56 : decode prog_8_method_2_code 56 = .ok (.getfield 33, 3) := by decide +kernel
theorem d_Pa_append_54 : decode prog_8_method_2_code 54 = .ok (.iastore, 1) := by decide +kernel
theorem d_Pa_append_52 : decode prog_8_method_2_code 52 = .ok (.ldc 43, 2) := by decide +kernel
theorem d_Pa_append_48 : decode prog_8_method_2_code 48 = .ok (.getfield 30, 3) := by decide +kernel
theorem d_Pa_append_46 : decode prog_8_method_2_code 46 = .ok (.iastore, 1) := by decide +kernel
theorem d_Pa_append_45 : decode prog_8_method_2_code 45 = .ok (.iconst 0, 1) := by decide +kernel
theorem d_Pa_append_41 : decode prog_8_method_2_code 41 = .ok (.getfield 27, 3) := by decide +kernel
theorem d_Pa_append_39 : decode prog_8_method_2_code 39 = .ok (.iastore, 1) := by decide +kernel
theorem d_Pa_append_38 : decode prog_8_method_2_code 38 = .ok (.iconst 0, 1) := by decide +kernel
theorem d_Pa_append_34 : decode prog_8_method_2_code 34 = .ok (.getfield 24, 3) := by decide +kernel
theorem d_Pa_append_32 : decode prog_8_method_2_code 32 = .ok (.iastore, 1) := by decide +kernel
theorem d_Pa_append_31 : decode prog_8_method_2_code 31 = .ok (.iconst 0, 1) := by decide +kernel
theorem d_Pa_append_27 : decode prog_8_method_2_code 27 = .ok (.getfield 21, 3) := by decide +kernel
theorem d_Pa_append_25 : decode prog_8_method_2_code 25 = .ok (.iastore, 1) := by decide +kernel
theorem d_Pa_append_24 : decode prog_8_method_2_code 24 = .ok (.iconst 0, 1) := by decide +kernel
theorem d_Pa_append_20 : decode prog_8_method_2_code 20 = .ok (.getfield 18, 3) := by decide +kernel
theorem d_Pa_append_18 : decode prog_8_method_2_code 18 = .ok (.iastore, 1) := by decide +kernel
theorem d_Pa_append_13 : decode prog_8_method_2_code 13 = .ok (.getfield 15, 3) := by decide +kernel
theorem d_Pa_append_11 : decode prog_8_method_2_code 11 = .ok (.iastore, 1) := by decide +kernel
theorem d_Pa_append_6 : decode prog_8_method_2_code 6 = .ok (.getfield 9, 3) := by decide +kernel
theorem d_Pa_append_1 : decode prog_8_method_2_code 1 = .ok (.getfield 39, 3) := by decide +kernel
theorem d_Pa_appendGlue_0 : decode prog_8_method_3_code 0 = .ok (.aload_n 0, 1) := by decide +kernel
theorem d_Pa_appendGlue_2 : decode prog_8_method_3_code 2 = .ok (.iload_n 1, 1) := by decide +kernel
theorem d_Pa_appendGlue_6 : decode prog_8_method_3_code 6 = .ok (.istore 5, 2) := by decide +kernel
theorem d_Pa_appendGlue_8 : decode prog_8_method_3_code 8 = .ok (.aload_n 0, 1) := by decide +kernel
theorem d_Pa_appendGlue_12 : decode prog_8_method_3_code 12 = .ok (.iload 5, 2) := by decide +kernel
theorem d_Pa_appendGlue_14 : decode prog_8_method_3_code 14 = .ok (.iload_n 2, 1) := by decide +kernel
theorem d_Pa_appendGlue_16 : decode prog_8_method_3_code 16 = .ok (.aload_n 0, 1) := by decide +kernel
theorem d_Pa_appendGlue_20 : decode prog_8_method_3_code 20 = .ok (.iload 5, 2) := by decide +kernel
theorem d_Pa_appendGlue_22 : decode prog_8_method_3_code 22 = .ok (.iload_n 3, 1) := by decide +kernel
theorem d_Pa_appendGlue_24 : decode prog_8_method_3_code 24 = .ok (.aload_n 0, 1) := by decide +kernel
theorem d_Pa_appendGlue_28 : decode prog_8_method_3_code 28 = .ok (.iload 5, 2) := by decide +kernel
theorem d_Pa_appendGlue_30 : decode prog_8_method_3_code 30 = .ok (.iload 4, 2) := by decide +kernel
theorem d_Pa_appendGlue_33 : decode prog_8_method_3_code 33 = .ok (.iload 5, 2) := by decide +kernel
theorem d_Pa_appendGlue_35 : decode prog_8_method_3_code 35 = .ok (.ireturn, 1) := by decide +kernel
theorem d_Pa_appendGlue_32 : decode prog_8_method_3_code 32 = .ok (.iastore, 1) := by decide +kernel
theorem d_Pa_appendGlue_25 : decode prog_8_method_3_code 25 = .ok (.getfield 24, 3) := by decide +kernel
theorem d_Pa_appendGlue_23 : decode prog_8_method_3_code 23 = .ok (.iastore, 1) := by decide +kernel
theorem d_Pa_appendGlue_17 : decode prog_8_method_3_code 17 = .ok (.getfield 21, 3) := by decide +kernel
theorem d_Pa_appendGlue_15 : decode prog_8_method_3_code 15 = .ok (.iastore, 1) := by decide +kernel
theorem d_Pa_appendGlue_9 : decode prog_8_method_3_code 9 = .ok (.getfield 18, 3) := by decide +kernel
theorem d_Pa_appendGlue_3 : decode prog_8_method_3_code 3 = .ok (.invokevirtual 44, 3) := by decide +kernel
theorem d_Pa_appendGlue_1 : decode prog_8_method_3_code 1 = .ok (.iconst 1, 1) := by decide +kernel
theorem d_Pa_appendPenalty_0 : decode prog_8_method_4_code 0 = .ok (.aload_n 0, 1) := by decide +kernel
theorem d_Pa_appendPenalty_6 : decode prog_8_method_4_code 6 = .ok (.istore_n 2, 1) := by decide +kernel
theorem d_Pa_appendPenalty_7 : decode prog_8_method_4_code 7 = .ok (.aload_n 0, 1) := by decide +kernel
theorem d_Pa_appendPenalty_11 : decode prog_8_method_4_code 11 = .ok (.iload_n 2, 1) := by decide +kernel
theorem d_Pa_appendPenalty_12 : decode prog_8_method_4_code 12 = .ok (.iload_n 1, 1) := by decide +kernel
theorem d_Pa_appendPenalty_14 : decode prog_8_method_4_code 14 = .ok (.iload_n 2, 1) := by decide +kernel
theorem d_Pa_appendPenalty_15 : decode prog_8_method_4_code 15 = .ok (.ireturn, 1) := by decide +kernel
theorem d_Pa_appendPenalty_13 : decode prog_8_method_4_code 13 = .ok (.iastore, 1) := by decide +kernel
theorem d_Pa_appendPenalty_8 : decode prog_8_method_4_code 8 = .ok (.getfield 27, 3) := by decide +kernel
theorem d_Pa_appendPenalty_3 : decode prog_8_method_4_code 3 = .ok (.invokevirtual 44, 3) := by decide +kernel
theorem d_Pa_appendPenalty_2 : decode prog_8_method_4_code 2 = .ok (.iconst 0, 1) := by decide +kernel
theorem d_Pa_appendPenalty_1 : decode prog_8_method_4_code 1 = .ok (.iconst 4, 1) := by decide +kernel
theorem d_Pa_appendHyphen_0 : decode prog_8_method_5_code 0 = .ok (.aload_n 0, 1) := by decide +kernel
theorem d_Pa_appendHyphen_6 : decode prog_8_method_5_code 6 = .ok (.istore 4, 2) := by decide +kernel
theorem d_Pa_appendHyphen_8 : decode prog_8_method_5_code 8 = .ok (.aload_n 0, 1) := by decide +kernel
theorem d_Pa_appendHyphen_12 : decode prog_8_method_5_code 12 = .ok (.iload 4, 2) := by decide +kernel
theorem d_Pa_appendHyphen_14 : decode prog_8_method_5_code 14 = .ok (.iload_n 1, 1) := by decide +kernel
theorem d_Pa_appendHyphen_16 : decode prog_8_method_5_code 16 = .ok (.aload_n 0, 1) := by decide +kernel
theorem d_Pa_appendHyphen_20 : decode prog_8_method_5_code 20 = .ok (.iload 4, 2) := by decide +kernel
theorem d_Pa_appendHyphen_22 : decode prog_8_method_5_code 22 = .ok (.iload_n 2, 1) := by decide +kernel
theorem d_Pa_appendHyphen_24 : decode prog_8_method_5_code 24 = .ok (.aload_n 0, 1) := by decide +kernel
theorem d_Pa_appendHyphen_28 : decode prog_8_method_5_code 28 = .ok (.iload 4, 2) := by decide +kernel
theorem d_Pa_appendHyphen_30 : decode prog_8_method_5_code 30 = .ok (.iload_n 3, 1) := by decide +kernel
theorem d_Pa_appendHyphen_32 : decode prog_8_method_5_code 32 = .ok (.iload 4, 2) := by decide +kernel
theorem d_Pa_appendHyphen_34 : decode prog_8_method_5_code 34 = .ok (.ireturn, 1) := by decide +kernel
theorem d_Pa_appendHyphen_31 : decode prog_8_method_5_code 31 = .ok (.iastore, 1) := by decide +kernel
theorem d_Pa_appendHyphen_25 : decode prog_8_method_5_code 25 = .ok (.getfield 36, 3) := by decide +kernel
theorem d_Pa_appendHyphen_23 : decode prog_8_method_5_code 23 = .ok (.iastore, 1) := by decide +kernel
theorem d_Pa_appendHyphen_17 : decode prog_8_method_5_code 17 = .ok (.getfield 33, 3) := by decide +kernel
theorem d_Pa_appendHyphen_15 : decode prog_8_method_5_code 15 = .ok (.iastore, 1) := by decide +kernel
theorem d_Pa_appendHyphen_9 : decode prog_8_method_5_code 9 = .ok (.getfield 30, 3) := by decide +kernel
theorem d_Pa_appendHyphen_3 : decode prog_8_method_5_code 3 = .ok (.invokevirtual 44, 3) := by decide +kernel
theorem d_Pa_appendHyphen_2 : decode prog_8_method_5_code 2 = .ok (.iconst 0, 1) := by decide +kernel
theorem d_Pa_appendHyphen_1 : decode prog_8_method_5_code 1 = .ok (.iconst 5, 1) := by decide +kernel
theorem d_Pa_awaitsReplaced_19 : decode prog_8_method_6_code 19 = .ok (.iload_n 2, 1) := by decide +kernel
theorem d_Pa_awaitsReplaced_20 : decode prog_8_method_6_code 20 = .ok (.iload_n 1, 1) := by decide +kernel
theorem d_Pa_awaitsReplaced_62 : decode prog_8_method_6_code 62 = .ok (.ireturn, 1) := by decide +kernel
theorem d_Pa_awaitsReplaced_61 : decode prog_8_method_6_code 61 = .ok (.iconst 0, 1) := by decide +kernel
theorem d_Pa_awaitsReplaced_24 : decode prog_8_method_6_code 24 = .ok (.aload_n 0, 1) := by decide +kernel
theorem d_Pa_awaitsReplaced_28 : decode prog_8_method_6_code 28 = .ok (.iload_n 2, 1) := by decide +kernel
theorem d_Pa_awaitsReplaced_58 : decode prog_8_method_6_code 58 = .ok (.goto (-39), 3) := by decide +kernel
theorem d_Pa_awaitsReplaced_55 : decode prog_8_method_6_code 55 = .ok (.iinc 2 (-1), 3) := by decide +kernel
theorem d_Pa_awaitsReplaced_34 : decode prog_8_method_6_code 34 = .ok (.iload_n 2, 1) := by decide +kernel
theorem d_Pa_awaitsReplaced_35 : decode prog_8_method_6_code 35 = .ok (.aload_n 0, 1) := by decide +kernel
theorem d_Pa_awaitsReplaced_39 : decode prog_8_method_6_code 39 = .ok (.iload_n 2, 1) := by decide +kernel
theorem d_Pa_awaitsReplaced_42 : decode prog_8_method_6_code 42 = .ok (.aload_n 0, 1) := by decide +kernel
theorem d_Pa_awaitsReplaced_54 : decode prog_8_method_6_code 54 = .ok (.ireturn, 1) := by decide +kernel
theorem d_Pa_awaitsReplaced_53 : decode prog_8_method_6_code 53 = .ok (.iconst 0, 1) := by decide +kernel
theorem d_Pa_awaitsReplaced_50 : decode prog_8_method_6_code 50 = .ok (.goto 4, 3) := by decide +kernel
theorem d_Pa_awaitsReplaced_49 : decode prog_8_method_6_code 49 = .ok (.iconst 1, 1) := by decide +kernel
theorem d_Pa_awaitsReplaced_46 : decode prog_8_method_6_code 46 = .ok (.if_icmp .lt 7, 3) := by decide +kernel
theorem d_Pa_awaitsReplaced_43 : decode prog_8_method_6_code 43 = .ok (.getfield 39, 3) := by decide +kernel
theorem d_Pa_awaitsReplaced_41 : decode prog_8_method_6_code 41 = .ok (.iadd, 1) := by decide +kernel
theorem d_Pa_awaitsReplaced_40 : decode prog_8_method_6_code 40 = .ok (.iaload, 1) := by decide +kernel
theorem d_Pa_awaitsReplaced_36 : decode prog_8_method_6_code 36 = .ok (.getfield 36, 3) := by decide +kernel
theorem d_Pa_awaitsReplaced_31 : decode prog_8_method_6_code 31 = .ok (.if_icmp .ne 24, 3) := by decide +kernel
theorem d_Pa_awaitsReplaced_30 : decode prog_8_method_6_code 30 = .ok (.iconst 5, 1) := by decide +kernel
theorem d_Pa_awaitsReplaced_29 : decode prog_8_method_6_code 29 = .ok (.iaload, 1) := by decide +kernel
theorem d_Pa_awaitsReplaced_25 : decode prog_8_method_6_code 25 = .ok (.getfield 9, 3) := by decide +kernel
theorem d_Pa_awaitsReplaced_21 : decode prog_8_method_6_code 21 = .ok (.if_icmp .lt 40, 3) := by decide +kernel
theorem d_Pa_awaitsReplaced_1 : decode prog_8_method_6_code 1 = .ok (.aload_n 0, 1) := by decide +kernel
theorem d_Pa_awaitsReplaced_11 : decode prog_8_method_6_code 11 = .ok (.istore_n 1, 1) := by decide +kernel
theorem d_Pa_awaitsReplaced_12 : decode prog_8_method_6_code 12 = .ok (.aload_n 0, 1) := by decide +kernel
theorem d_Pa_awaitsReplaced_18 : decode prog_8_method_6_code 18 = .ok (.istore_n 2, 1) := by decide +kernel
theorem d_Pa_awaitsReplaced_17 : decode prog_8_method_6_code 17 = .ok (.isub, 1) := by decide +kernel
theorem d_Pa_awaitsReplaced_16 : decode prog_8_method_6_code 16 = .ok (.iconst 1, 1) := by decide +kernel
theorem d_Pa_awaitsReplaced_13 : decode prog_8_method_6_code 13 = .ok (.getfield 39, 3) := by decide +kernel
theorem d_Pa_awaitsReplaced_8 : decode prog_8_method_6_code 8 = .ok (.invokestatic 48, 3) := by decide +kernel
theorem d_Pa_awaitsReplaced_7 : decode prog_8_method_6_code 7 = .ok (.isub, 1) := by decide +kernel
theorem d_Pa_awaitsReplaced_5 : decode prog_8_method_6_code 5 = .ok (.bipush 10, 2) := by decide +kernel
theorem d_Pa_awaitsReplaced_2 : decode prog_8_method_6_code 2 = .ok (.getfield 39, 3) := by decide +kernel
theorem d_Pa_awaitsReplaced_0 : decode prog_8_method_6_code 0 = .ok (.iconst 0, 1) := by decide +kernel
theorem d_Lb_keep_0 : decode prog_1_method_7_code 0 = .ok (.iload_n 1, 1) := by decide +kernel
theorem d_Lb_keep_16 : decode prog_1_method_7_code 16 = .ok (.ireturn, 1) := by decide +kernel
theorem d_Lb_keep_15 : decode prog_1_method_7_code 15 = .ok (.iconst 0, 1) := by decide +kernel
theorem d_Lb_keep_4 : decode prog_1_method_7_code 4 = .ok (.iload_n 1, 1) := by decide +kernel
theorem d_Lb_keep_5 : decode prog_1_method_7_code 5 = .ok (.aload_n 0, 1) := by decide +kernel
theorem d_Lb_keep_17 : decode prog_1_method_7_code 17 = .ok (.aload_n 0, 1) := by decide +kernel
theorem d_Lb_keep_21 : decode prog_1_method_7_code 21 = .ok (.iload_n 1, 1) := by decide +kernel
theorem d_Lb_keep_25 : decode prog_1_method_7_code 25 = .ok (.aload_n 0, 1) := by decide +kernel
theorem d_Lb_keep_33 : decode prog_1_method_7_code 33 = .ok (.ireturn, 1) := by decide +kernel
theorem d_Lb_keep_32 : decode prog_1_method_7_code 32 = .ok (.iconst 1, 1) := by decide +kernel
theorem d_Lb_keep_29 : decode prog_1_method_7_code 29 = .ok (.invokevirtual 53, 3) := by decide +kernel
theorem d_Lb_keep_26 : decode prog_1_method_7_code 26 = .ok (.getfield 42, 3) := by decide +kernel
theorem d_Lb_keep_22 : decode prog_1_method_7_code 22 = .ok (.putfield 97, 3) := by decide +kernel
theorem d_Lb_keep_18 : decode prog_1_method_7_code 18 = .ok (.getfield 12, 3) := by decide +kernel
theorem d_Lb_keep_12 : decode prog_1_method_7_code 12 = .ok (.if_icmp .le 5, 3) := by decide +kernel
theorem d_Lb_keep_9 : decode prog_1_method_7_code 9 = .ok (.getfield 97, 3) := by decide +kernel
theorem d_Lb_keep_6 : decode prog_1_method_7_code 6 = .ok (.getfield 12, 3) := by decide +kernel
theorem d_Lb_keep_1 : decode prog_1_method_7_code 1 = .ok (.ifCond .lt 14, 3) := by decide +kernel
theorem d_Lb_items_0 : decode prog_1_method_8_code 0 = .ok (.aload_n 0, 1) := by decide +kernel
theorem d_Lb_items_7 : decode prog_1_method_8_code 7 = .ok (.ireturn, 1) := by decide +kernel
theorem d_Lb_items_4 : decode prog_1_method_8_code 4 = .ok (.getfield 97, 3) := by decide +kernel
theorem d_Lb_items_1 : decode prog_1_method_8_code 1 = .ok (.getfield 12, 3) := by decide +kernel
theorem d_Lb_pass_0 : decode prog_1_method_13_code 0 = .ok (.aload_n 0, 1) := by decide +kernel
theorem d_Lb_pass_7 : decode prog_1_method_13_code 7 = .ok (.ireturn, 1) := by decide +kernel
theorem d_Lb_pass_4 : decode prog_1_method_13_code 4 = .ok (.getfield 167, 3) := by decide +kernel
theorem d_Lb_pass_1 : decode prog_1_method_13_code 1 = .ok (.getfield 42, 3) := by decide +kernel
theorem d_Lb_nodes_0 : decode prog_1_method_14_code 0 = .ok (.aload_n 0, 1) := by decide +kernel
theorem d_Lb_nodes_7 : decode prog_1_method_14_code 7 = .ok (.ireturn, 1) := by decide +kernel
theorem d_Lb_nodes_4 : decode prog_1_method_14_code 4 = .ok (.getfield 170, 3) := by decide +kernel
theorem d_Lb_nodes_1 : decode prog_1_method_14_code 1 = .ok (.getfield 42, 3) := by decide +kernel
theorem d_Pa_allStretch_4 : decode prog_8_method_9_code 4 = .ok (.iload_n 3, 1) := by decide +kernel
theorem d_Pa_allStretch_5 : decode prog_8_method_9_code 5 = .ok (.aload_n 0, 1) := by decide +kernel
theorem d_Pa_allStretch_28 : decode prog_8_method_9_code 28 = .ok (.lload_n 1, 1) := by decide +kernel
theorem d_Pa_allStretch_29 : decode prog_8_method_9_code 29 = .ok (.lreturn, 1) := by decide +kernel
theorem d_Pa_allStretch_12 : decode prog_8_method_9_code 12 = .ok (.lload_n 1, 1) := by decide +kernel
theorem d_Pa_allStretch_13 : decode prog_8_method_9_code 13 = .ok (.aload_n 0, 1) := by decide +kernel
theorem d_Pa_allStretch_17 : decode prog_8_method_9_code 17 = .ok (.iload_n 3, 1) := by decide +kernel
theorem d_Pa_allStretch_21 : decode prog_8_method_9_code 21 = .ok (.lstore_n 1, 1) := by decide +kernel
theorem d_Pa_allStretch_25 : decode prog_8_method_9_code 25 = .ok (.goto (-21), 3) := by decide +kernel
theorem d_Pa_allStretch_22 : decode prog_8_method_9_code 22 = .ok (.iinc 3 1, 3) := by decide +kernel
theorem d_Pa_allStretch_20 : decode prog_8_method_9_code 20 = .ok (.ladd, 1) := by decide +kernel
theorem d_Pa_allStretch_19 : decode prog_8_method_9_code 19 = .ok (.i2l, 1) := by decide +kernel
theorem d_Pa_allStretch_18 : decode prog_8_method_9_code 18 = .ok (.iaload, 1) := by decide +kernel
theorem d_Pa_allStretch_14 : decode prog_8_method_9_code 14 = .ok (.getfield 18, 3) := by decide +kernel
theorem d_Pa_allStretch_9 : decode prog_8_method_9_code 9 = .ok (.if_icmp .ge 19, 3) := by decide +kernel
theorem d_Pa_allStretch_6 : decode prog_8_method_9_code 6 = .ok (.getfield 39, 3) := by decide +kernel
theorem d_Pa_allStretch_1 : decode prog_8_method_9_code 1 = .ok (.lstore_n 1, 1) := by decide +kernel
theorem d_Pa_allStretch_3 : decode prog_8_method_9_code 3 = .ok (.istore_n 3, 1) := by decide +kernel
theorem d_Pa_allStretch_2 : decode prog_8_method_9_code 2 = .ok (.iconst 0, 1) := by decide +kernel
theorem d_Pa_allStretch_0 : decode prog_8_method_9_code 0 = .ok (.lconst 0, 1) := by decide +kernel
theorem d_St_stretchAround_0 : decode prog_10_method_4_code 0 = .ok (.aload_n 0, 1) := by decide +kernel
theorem d_St_stretchAround_8 : decode prog_10_method_4_code 8 = .ok (.aload_n 0, 1) := by decide +kernel
theorem d_St_stretchAround_17 : decode prog_10_method_4_code 17 = .ok (.aload_n 0, 1) := by decide +kernel
theorem d_St_stretchAround_26 : decode prog_10_method_4_code 26 = .ok (.lreturn, 1) := by decide +kernel
theorem d_St_stretchAround_25 : decode prog_10_method_4_code 25 = .ok (.ladd, 1) := by decide +kernel
theorem d_St_stretchAround_24 : decode prog_10_method_4_code 24 = .ok (.i2l, 1) := by decide +kernel
theorem d_St_stretchAround_21 : decode prog_10_method_4_code 21 = .ok (.getfield 48, 3) := by decide +kernel
theorem d_St_stretchAround_18 : decode prog_10_method_4_code 18 = .ok (.getfield 31, 3) := by decide +kernel
theorem d_St_stretchAround_16 : decode prog_10_method_4_code 16 = .ok (.ladd, 1) := by decide +kernel
theorem d_St_stretchAround_15 : decode prog_10_method_4_code 15 = .ok (.i2l, 1) := by decide +kernel
theorem d_St_stretchAround_12 : decode prog_10_method_4_code 12 = .ok (.getfield 48, 3) := by decide +kernel
theorem d_St_stretchAround_9 : decode prog_10_method_4_code 9 = .ok (.getfield 27, 3) := by decide +kernel
theorem d_St_stretchAround_7 : decode prog_10_method_4_code 7 = .ok (.i2l, 1) := by decide +kernel
theorem d_St_stretchAround_4 : decode prog_10_method_4_code 4 = .ok (.getfield 48, 3) := by decide +kernel
theorem d_St_stretchAround_1 : decode prog_10_method_4_code 1 = .ok (.getfield 23, 3) := by decide +kernel
theorem d_Pa_allWidths_4 : decode prog_8_method_8_code 4 = .ok (.iload_n 3, 1) := by decide +kernel
theorem d_Pa_allWidths_5 : decode prog_8_method_8_code 5 = .ok (.aload_n 0, 1) := by decide +kernel
theorem d_Pa_allWidths_63 : decode prog_8_method_8_code 63 = .ok (.lload_n 1, 1) := by decide +kernel
theorem d_Pa_allWidths_64 : decode prog_8_method_8_code 64 = .ok (.lreturn, 1) := by decide +kernel
theorem d_Pa_allWidths_12 : decode prog_8_method_8_code 12 = .ok (.lload_n 1, 1) := by decide +kernel
theorem d_Pa_allWidths_13 : decode prog_8_method_8_code 13 = .ok (.aload_n 0, 1) := by decide +kernel
theorem d_Pa_allWidths_17 : decode prog_8_method_8_code 17 = .ok (.iload_n 3, 1) := by decide +kernel
theorem d_Pa_allWidths_24 : decode prog_8_method_8_code 24 = .ok (.lstore_n 1, 1) := by decide +kernel
theorem d_Pa_allWidths_25 : decode prog_8_method_8_code 25 = .ok (.lload_n 1, 1) := by decide +kernel
theorem d_Pa_allWidths_26 : decode prog_8_method_8_code 26 = .ok (.aload_n 0, 1) := by decide +kernel
theorem d_Pa_allWidths_30 : decode prog_8_method_8_code 30 = .ok (.iload_n 3, 1) := by decide +kernel
theorem d_Pa_allWidths_40 : decode prog_8_method_8_code 40 = .ok (.lstore_n 1, 1) := by decide +kernel
theorem d_Pa_allWidths_41 : decode prog_8_method_8_code 41 = .ok (.lload_n 1, 1) := by decide +kernel
theorem d_Pa_allWidths_42 : decode prog_8_method_8_code 42 = .ok (.aload_n 0, 1) := by decide +kernel
theorem d_Pa_allWidths_46 : decode prog_8_method_8_code 46 = .ok (.iload_n 3, 1) := by decide +kernel
theorem d_Pa_allWidths_56 : decode prog_8_method_8_code 56 = .ok (.lstore_n 1, 1) := by decide +kernel
theorem d_Pa_allWidths_60 : decode prog_8_method_8_code 60 = .ok (.goto (-56), 3) := by decide +kernel
theorem d_Pa_allWidths_57 : decode prog_8_method_8_code 57 = .ok (.iinc 3 1, 3) := by decide +kernel
theorem d_Pa_allWidths_55 : decode prog_8_method_8_code 55 = .ok (.ladd, 1) := by decide +kernel
theorem d_Pa_allWidths_54 : decode prog_8_method_8_code 54 = .ok (.i2l, 1) := by decide +kernel
theorem d_Pa_allWidths_51 : decode prog_8_method_8_code 51 = .ok (.invokestatic 53, 3) := by decide +kernel
theorem d_Pa_allWidths_48 : decode prog_8_method_8_code 48 = .ok (.invokestatic 57, 3) := by decide +kernel
theorem d_Pa_allWidths_47 : decode prog_8_method_8_code 47 = .ok (.iaload, 1) := by decide +kernel
theorem d_Pa_allWidths_43 : decode prog_8_method_8_code 43 = .ok (.getfield 33, 3) := by decide +kernel
theorem d_Pa_allWidths_39 : decode prog_8_method_8_code 39 = .ok (.ladd, 1) := by decide +kernel
theorem d_Pa_allWidths_38 : decode prog_8_method_8_code 38 = .ok (.i2l, 1) := by decide +kernel
theorem d_Pa_allWidths_35 : decode prog_8_method_8_code 35 = .ok (.invokestatic 53, 3) := by decide +kernel
theorem d_Pa_allWidths_32 : decode prog_8_method_8_code 32 = .ok (.invokestatic 57, 3) := by decide +kernel
theorem d_Pa_allWidths_31 : decode prog_8_method_8_code 31 = .ok (.iaload, 1) := by decide +kernel
theorem d_Pa_allWidths_27 : decode prog_8_method_8_code 27 = .ok (.getfield 30, 3) := by decide +kernel
theorem d_Pa_allWidths_23 : decode prog_8_method_8_code 23 = .ok (.ladd, 1) := by decide +kernel
theorem d_Pa_allWidths_22 : decode prog_8_method_8_code 22 = .ok (.i2l, 1) := by decide +kernel
theorem d_Pa_allWidths_19 : decode prog_8_method_8_code 19 = .ok (.invokestatic 53, 3) := by decide +kernel
theorem d_Pa_allWidths_18 : decode prog_8_method_8_code 18 = .ok (.iaload, 1) := by decide +kernel
theorem d_Pa_allWidths_14 : decode prog_8_method_8_code 14 = .ok (.getfield 15, 3) := by decide +kernel
theorem d_Pa_allWidths_9 : decode prog_8_method_8_code 9 = .ok (.if_icmp .ge 54, 3) := by decide +kernel
theorem d_Pa_allWidths_6 : decode prog_8_method_8_code 6 = .ok (.getfield 39, 3) := by decide +kernel
theorem d_Pa_allWidths_1 : decode prog_8_method_8_code 1 = .ok (.lstore_n 1, 1) := by decide +kernel
theorem d_Pa_allWidths_3 : decode prog_8_method_8_code 3 = .ok (.istore_n 3, 1) := by decide +kernel
theorem d_Pa_allWidths_2 : decode prog_8_method_8_code 2 = .ok (.iconst 0, 1) := by decide +kernel
theorem d_Pa_allWidths_0 : decode prog_8_method_8_code 0 = .ok (.lconst 0, 1) := by decide +kernel
theorem d_St_widthsAround_0 : decode prog_10_method_3_code 0 = .ok (.aload_n 0, 1) := by decide +kernel
theorem d_St_widthsAround_11 : decode prog_10_method_3_code 11 = .ok (.aload_n 0, 1) := by decide +kernel
theorem d_St_widthsAround_23 : decode prog_10_method_3_code 23 = .ok (.aload_n 0, 1) := by decide +kernel
theorem d_St_widthsAround_35 : decode prog_10_method_3_code 35 = .ok (.lreturn, 1) := by decide +kernel
theorem d_St_widthsAround_34 : decode prog_10_method_3_code 34 = .ok (.ladd, 1) := by decide +kernel
theorem d_St_widthsAround_33 : decode prog_10_method_3_code 33 = .ok (.i2l, 1) := by decide +kernel
theorem d_St_widthsAround_30 : decode prog_10_method_3_code 30 = .ok (.invokestatic 44, 3) := by decide +kernel
theorem d_St_widthsAround_27 : decode prog_10_method_3_code 27 = .ok (.getfield 40, 3) := by decide +kernel
theorem d_St_widthsAround_24 : decode prog_10_method_3_code 24 = .ok (.getfield 31, 3) := by decide +kernel
theorem d_St_widthsAround_22 : decode prog_10_method_3_code 22 = .ok (.ladd, 1) := by decide +kernel
theorem d_St_widthsAround_21 : decode prog_10_method_3_code 21 = .ok (.i2l, 1) := by decide +kernel
theorem d_St_widthsAround_18 : decode prog_10_method_3_code 18 = .ok (.invokestatic 44, 3) := by decide +kernel
theorem d_St_widthsAround_15 : decode prog_10_method_3_code 15 = .ok (.getfield 40, 3) := by decide +kernel
theorem d_St_widthsAround_12 : decode prog_10_method_3_code 12 = .ok (.getfield 27, 3) := by decide +kernel
theorem d_St_widthsAround_10 : decode prog_10_method_3_code 10 = .ok (.i2l, 1) := by decide +kernel
theorem d_St_widthsAround_7 : decode prog_10_method_3_code 7 = .ok (.invokestatic 44, 3) := by decide +kernel
theorem d_St_widthsAround_4 : decode prog_10_method_3_code 4 = .ok (.getfield 40, 3) := by decide +kernel
theorem d_St_widthsAround_1 : decode prog_10_method_3_code 1 = .ok (.getfield 23, 3) := by decide +kernel
theorem d_Pa_allShrink_4 : decode prog_8_method_10_code 4 = .ok (.iload_n 3, 1) := by decide +kernel
theorem d_Pa_allShrink_5 : decode prog_8_method_10_code 5 = .ok (.aload_n 0, 1) := by decide +kernel
theorem d_Pa_allShrink_28 : decode prog_8_method_10_code 28 = .ok (.lload_n 1, 1) := by decide +kernel
theorem d_Pa_allShrink_29 : decode prog_8_method_10_code 29 = .ok (.lreturn, 1) := by decide +kernel
theorem d_Pa_allShrink_12 : decode prog_8_method_10_code 12 = .ok (.lload_n 1, 1) := by decide +kernel
theorem d_Pa_allShrink_13 : decode prog_8_method_10_code 13 = .ok (.aload_n 0, 1) := by decide +kernel
theorem d_Pa_allShrink_17 : decode prog_8_method_10_code 17 = .ok (.iload_n 3, 1) := by decide +kernel
theorem d_Pa_allShrink_21 : decode prog_8_method_10_code 21 = .ok (.lstore_n 1, 1) := by decide +kernel
theorem d_Pa_allShrink_25 : decode prog_8_method_10_code 25 = .ok (.goto (-21), 3) := by decide +kernel
theorem d_Pa_allShrink_22 : decode prog_8_method_10_code 22 = .ok (.iinc 3 1, 3) := by decide +kernel
theorem d_Pa_allShrink_20 : decode prog_8_method_10_code 20 = .ok (.ladd, 1) := by decide +kernel
theorem d_Pa_allShrink_19 : decode prog_8_method_10_code 19 = .ok (.i2l, 1) := by decide +kernel
theorem d_Pa_allShrink_18 : decode prog_8_method_10_code 18 = .ok (.iaload, 1) := by decide +kernel
theorem d_Pa_allShrink_14 : decode prog_8_method_10_code 14 = .ok (.getfield 24, 3) := by decide +kernel
theorem d_Pa_allShrink_9 : decode prog_8_method_10_code 9 = .ok (.if_icmp .ge 19, 3) := by decide +kernel
theorem d_Pa_allShrink_6 : decode prog_8_method_10_code 6 = .ok (.getfield 39, 3) := by decide +kernel
theorem d_Pa_allShrink_1 : decode prog_8_method_10_code 1 = .ok (.lstore_n 1, 1) := by decide +kernel
theorem d_Pa_allShrink_3 : decode prog_8_method_10_code 3 = .ok (.istore_n 3, 1) := by decide +kernel
theorem d_Pa_allShrink_2 : decode prog_8_method_10_code 2 = .ok (.iconst 0, 1) := by decide +kernel
theorem d_Pa_allShrink_0 : decode prog_8_method_10_code 0 = .ok (.lconst 0, 1) := by decide +kernel
theorem d_St_shrinkAround_0 : decode prog_10_method_5_code 0 = .ok (.aload_n 0, 1) := by decide +kernel
theorem d_St_shrinkAround_8 : decode prog_10_method_5_code 8 = .ok (.aload_n 0, 1) := by decide +kernel
theorem d_St_shrinkAround_17 : decode prog_10_method_5_code 17 = .ok (.aload_n 0, 1) := by decide +kernel
theorem d_St_shrinkAround_26 : decode prog_10_method_5_code 26 = .ok (.lreturn, 1) := by decide +kernel
theorem d_St_shrinkAround_25 : decode prog_10_method_5_code 25 = .ok (.ladd, 1) := by decide +kernel
theorem d_St_shrinkAround_24 : decode prog_10_method_5_code 24 = .ok (.i2l, 1) := by decide +kernel
theorem d_St_shrinkAround_21 : decode prog_10_method_5_code 21 = .ok (.getfield 51, 3) := by decide +kernel
theorem d_St_shrinkAround_18 : decode prog_10_method_5_code 18 = .ok (.getfield 31, 3) := by decide +kernel
theorem d_St_shrinkAround_16 : decode prog_10_method_5_code 16 = .ok (.ladd, 1) := by decide +kernel
theorem d_St_shrinkAround_15 : decode prog_10_method_5_code 15 = .ok (.i2l, 1) := by decide +kernel
theorem d_St_shrinkAround_12 : decode prog_10_method_5_code 12 = .ok (.getfield 51, 3) := by decide +kernel
theorem d_St_shrinkAround_9 : decode prog_10_method_5_code 9 = .ok (.getfield 27, 3) := by decide +kernel
theorem d_St_shrinkAround_7 : decode prog_10_method_5_code 7 = .ok (.i2l, 1) := by decide +kernel
theorem d_St_shrinkAround_4 : decode prog_10_method_5_code 4 = .ok (.getfield 51, 3) := by decide +kernel
theorem d_St_shrinkAround_1 : decode prog_10_method_5_code 1 = .ok (.getfield 23, 3) := by decide +kernel
theorem d_Lb_sumsAreSizes_0 : decode prog_1_method_17_code 0 = .ok (.aload_n 0, 1) := by decide +kernel
theorem d_Lb_sumsAreSizes_7 : decode prog_1_method_17_code 7 = .ok (.aload_n 0, 1) := by decide +kernel
theorem d_Lb_sumsAreSizes_15 : decode prog_1_method_17_code 15 = .ok (.aload_n 0, 1) := by decide +kernel
theorem d_Lb_sumsAreSizes_27 : decode prog_1_method_17_code 27 = .ok (.lstore_n 1, 1) := by decide +kernel
theorem d_Lb_sumsAreSizes_28 : decode prog_1_method_17_code 28 = .ok (.aload_n 0, 1) := by decide +kernel
theorem d_Lb_sumsAreSizes_35 : decode prog_1_method_17_code 35 = .ok (.aload_n 0, 1) := by decide +kernel
theorem d_Lb_sumsAreSizes_85 : decode prog_1_method_17_code 85 = .ok (.ireturn, 1) := by decide +kernel
theorem d_Lb_sumsAreSizes_84 : decode prog_1_method_17_code 84 = .ok (.iconst 0, 1) := by decide +kernel
theorem d_Lb_sumsAreSizes_50 : decode prog_1_method_17_code 50 = .ok (.lload_n 1, 1) := by decide +kernel
theorem d_Lb_sumsAreSizes_58 : decode prog_1_method_17_code 58 = .ok (.aload_n 0, 1) := by decide +kernel
theorem d_Lb_sumsAreSizes_65 : decode prog_1_method_17_code 65 = .ok (.aload_n 0, 1) := by decide +kernel
theorem d_Lb_sumsAreSizes_81 : decode prog_1_method_17_code 81 = .ok (.goto 4, 3) := by decide +kernel
theorem d_Lb_sumsAreSizes_80 : decode prog_1_method_17_code 80 = .ok (.iconst 1, 1) := by decide +kernel
theorem d_Lb_sumsAreSizes_77 : decode prog_1_method_17_code 77 = .ok (.ifCond .gt 7, 3) := by decide +kernel
theorem d_Lb_sumsAreSizes_76 : decode prog_1_method_17_code 76 = .ok (.lcmp, 1) := by decide +kernel
theorem d_Lb_sumsAreSizes_73 : decode prog_1_method_17_code 73 = .ok (.ldc2_w 202, 3) := by decide +kernel
theorem d_Lb_sumsAreSizes_72 : decode prog_1_method_17_code 72 = .ok (.ladd, 1) := by decide +kernel
theorem d_Lb_sumsAreSizes_69 : decode prog_1_method_17_code 69 = .ok (.invokevirtual 207, 3) := by decide +kernel
theorem d_Lb_sumsAreSizes_66 : decode prog_1_method_17_code 66 = .ok (.getfield 19, 3) := by decide +kernel
theorem d_Lb_sumsAreSizes_62 : decode prog_1_method_17_code 62 = .ok (.invokevirtual 204, 3) := by decide +kernel
theorem d_Lb_sumsAreSizes_59 : decode prog_1_method_17_code 59 = .ok (.getfield 12, 3) := by decide +kernel
theorem d_Lb_sumsAreSizes_55 : decode prog_1_method_17_code 55 = .ok (.ifCond .gt 29, 3) := by decide +kernel
theorem d_Lb_sumsAreSizes_54 : decode prog_1_method_17_code 54 = .ok (.lcmp, 1) := by decide +kernel
theorem d_Lb_sumsAreSizes_51 : decode prog_1_method_17_code 51 = .ok (.ldc2_w 202, 3) := by decide +kernel
theorem d_Lb_sumsAreSizes_47 : decode prog_1_method_17_code 47 = .ok (.ifCond .gt 37, 3) := by decide +kernel
theorem d_Lb_sumsAreSizes_46 : decode prog_1_method_17_code 46 = .ok (.lcmp, 1) := by decide +kernel
theorem d_Lb_sumsAreSizes_43 : decode prog_1_method_17_code 43 = .ok (.ldc2_w 202, 3) := by decide +kernel
theorem d_Lb_sumsAreSizes_42 : decode prog_1_method_17_code 42 = .ok (.ladd, 1) := by decide +kernel
theorem d_Lb_sumsAreSizes_39 : decode prog_1_method_17_code 39 = .ok (.invokevirtual 199, 3) := by decide +kernel
theorem d_Lb_sumsAreSizes_36 : decode prog_1_method_17_code 36 = .ok (.getfield 19, 3) := by decide +kernel
theorem d_Lb_sumsAreSizes_32 : decode prog_1_method_17_code 32 = .ok (.invokevirtual 196, 3) := by decide +kernel
theorem d_Lb_sumsAreSizes_29 : decode prog_1_method_17_code 29 = .ok (.getfield 12, 3) := by decide +kernel
theorem d_Lb_sumsAreSizes_26 : decode prog_1_method_17_code 26 = .ok (.ladd, 1) := by decide +kernel
theorem d_Lb_sumsAreSizes_25 : decode prog_1_method_17_code 25 = .ok (.i2l, 1) := by decide +kernel
theorem d_Lb_sumsAreSizes_24 : decode prog_1_method_17_code 24 = .ok (.iaload, 1) := by decide +kernel
theorem d_Lb_sumsAreSizes_22 : decode prog_1_method_17_code 22 = .ok (.bipush 8, 2) := by decide +kernel
theorem d_Lb_sumsAreSizes_19 : decode prog_1_method_17_code 19 = .ok (.getfield 112, 3) := by decide +kernel
theorem d_Lb_sumsAreSizes_16 : decode prog_1_method_17_code 16 = .ok (.getfield 19, 3) := by decide +kernel
theorem d_Lb_sumsAreSizes_14 : decode prog_1_method_17_code 14 = .ok (.ladd, 1) := by decide +kernel
theorem d_Lb_sumsAreSizes_11 : decode prog_1_method_17_code 11 = .ok (.invokevirtual 193, 3) := by decide +kernel
theorem d_Lb_sumsAreSizes_8 : decode prog_1_method_17_code 8 = .ok (.getfield 19, 3) := by decide +kernel
theorem d_Lb_sumsAreSizes_4 : decode prog_1_method_17_code 4 = .ok (.invokevirtual 189, 3) := by decide +kernel
theorem d_Lb_sumsAreSizes_1 : decode prog_1_method_17_code 1 = .ok (.getfield 12, 3) := by decide +kernel
theorem d_Lb_isSize_0 : decode prog_1_method_24_code 0 = .ok (.iload_n 0, 1) := by decide +kernel
theorem d_Lb_isSize_17 : decode prog_1_method_24_code 17 = .ok (.ireturn, 1) := by decide +kernel
theorem d_Lb_isSize_16 : decode prog_1_method_24_code 16 = .ok (.iconst 0, 1) := by decide +kernel
theorem d_Lb_isSize_6 : decode prog_1_method_24_code 6 = .ok (.iload_n 0, 1) := by decide +kernel
theorem d_Lb_isSize_13 : decode prog_1_method_24_code 13 = .ok (.goto 4, 3) := by decide +kernel
theorem d_Lb_isSize_12 : decode prog_1_method_24_code 12 = .ok (.iconst 1, 1) := by decide +kernel
theorem d_Lb_isSize_9 : decode prog_1_method_24_code 9 = .ok (.if_icmp .gt 7, 3) := by decide +kernel
theorem d_Lb_isSize_7 : decode prog_1_method_24_code 7 = .ok (.ldc 230, 2) := by decide +kernel
theorem d_Lb_isSize_3 : decode prog_1_method_24_code 3 = .ok (.if_icmp .lt 13, 3) := by decide +kernel
theorem d_Lb_isSize_1 : decode prog_1_method_24_code 1 = .ok (.ldc 229, 2) := by decide +kernel
theorem d_Gl_become_0 : decode prog_4_method_2_code 0 = .ok (.aload_n 0, 1) := by decide +kernel
theorem d_Gl_become_1 : decode prog_4_method_2_code 1 = .ok (.iload_n 1, 1) := by decide +kernel
theorem d_Gl_become_5 : decode prog_4_method_2_code 5 = .ok (.aload_n 0, 1) := by decide +kernel
theorem d_Gl_become_6 : decode prog_4_method_2_code 6 = .ok (.iload_n 2, 1) := by decide +kernel
theorem d_Gl_become_10 : decode prog_4_method_2_code 10 = .ok (.aload_n 0, 1) := by decide +kernel
theorem d_Gl_become_11 : decode prog_4_method_2_code 11 = .ok (.iload_n 3, 1) := by decide +kernel
theorem d_Gl_become_15 : decode prog_4_method_2_code 15 = .ok (.aload_n 0, 1) := by decide +kernel
theorem d_Gl_become_16 : decode prog_4_method_2_code 16 = .ok (.iload 4, 2) := by decide +kernel
theorem d_Gl_become_21 : decode prog_4_method_2_code 21 = .ok (.return_, 1) := by decide +kernel
theorem d_Gl_become_18 : decode prog_4_method_2_code 18 = .ok (.putfield 19, 3) := by decide +kernel
theorem d_Gl_become_12 : decode prog_4_method_2_code 12 = .ok (.putfield 16, 3) := by decide +kernel
theorem d_Gl_become_7 : decode prog_4_method_2_code 7 = .ok (.putfield 13, 3) := by decide +kernel
theorem d_Gl_become_2 : decode prog_4_method_2_code 2 = .ok (.putfield 7, 3) := by decide +kernel
abbrev y_Pa_countWithoutLastGlue : MethodName := ⟨"LineBreaker$Paragraph", "countWithoutLastGlue", "()I"⟩
abbrev rm_Pa_countWithoutLastGlue : Room := { frames := 0, cells := 0, slots := 0, locals := 0 }
set_option maxRecDepth 100000 in
def wp_Pa_countWithoutLastGlue (S : ST) (post : Int32 → Prop) : Prop := (((S.2.2 73) ≤ 0 → post (S.2.2 73)) ∧ (¬ (S.2.2 73) ≤ 0 → (vp_in ((S.2.2 73) - 1) 400 ∧ ((¬ ((S.1 2) ((S.2.2 73) - 1).toNatClampNeg) = 1 → post (S.2.2 73)) ∧ (((S.1 2) ((S.2.2 73) - 1).toNatClampNeg) = 1 → post ((S.2.2 73) - 1))))))
abbrev y_Lb_widthOf : MethodName := ⟨"LineBreaker", "widthOf", "(I)I"⟩
abbrev rm_Lb_widthOf : Room := { frames := 0, cells := 0, slots := 0, locals := 0 }
set_option maxRecDepth 100000 in
def wp_Lb_widthOf (S : ST) (p1 : Int32) (post : Int32 → Prop) : Prop := ((¬ p1 = (-1073741824) → post p1) ∧ (p1 = (-1073741824) → post 0))
abbrev y_Ga_copyItems : MethodName := ⟨"LineBreaker$Galley", "copyItems", "(LLineBreaker$Paragraph;LLineBreaker$Settings;I)V"⟩
abbrev rm_Ga_copyItems : Room := { frames := 1, cells := 0, slots := 0, locals := 20 }
set_option maxRecDepth 100000 in
def wl_Ga_copyItems_89 (S : ST) (post : (Nat → Int32) → (Nat → Int32) → (Nat → Int32) → (Nat → Int32) → Prop) (K3 : (Nat → Int32) → (Nat → Int32) → (Nat → Int32) → (Nat → Int32) → Int32 → Int32 → Prop) (a18 : (Nat → Int32)) (a19 : (Nat → Int32)) (a22 : (Nat → Int32)) (a23 : (Nat → Int32)) (x3 : Int32) (x4 : Int32) : Prop := (vp_in x4 400 ∧ wp_Lb_widthOf (sA (sA (sA (sA S 18 a18) 19 a19) 22 a22) 23 a23) ((S.1 8) x4.toNatClampNeg) (fun r1 => (vp_in x4 403 ∧ ∀ f2 : Nat → Int32, f2 = upd a22 x4.toNatClampNeg r1 → (vp_in x4 400 ∧ wp_Lb_widthOf (sA (sA (sA (sA S 18 a18) 19 a19) 22 f2) 23 a23) ((S.1 9) x4.toNatClampNeg) (fun r3 => (vp_in x4 403 ∧ ∀ f4 : Nat → Int32, f4 = upd a23 x4.toNatClampNeg r3 → (∀ v5 : Int32, v5 = x4 + 1 → K3 a18 a19 f2 f4 x3 v5)))))))
set_option maxRecDepth 100000 in
def wl_Ga_copyItems_87 (S : ST) (post : (Nat → Int32) → (Nat → Int32) → (Nat → Int32) → (Nat → Int32) → Prop) (K3 : (Nat → Int32) → (Nat → Int32) → (Nat → Int32) → (Nat → Int32) → Int32 → Int32 → Prop) (a18 : (Nat → Int32)) (a19 : (Nat → Int32)) (a22 : (Nat → Int32)) (a23 : (Nat → Int32)) (x3 : Int32) (x4 : Int32) (z1 : Int32) (z3 : Int32) : Prop := (vp_in z3 10 ∧ (vp_in z1 403 ∧ ∀ f1 : Nat → Int32, f1 = upd a19 z1.toNatClampNeg ((S.1 12) z3.toNatClampNeg) → wl_Ga_copyItems_89 S post K3 a18 f1 a22 a23 x3 x4))
set_option maxRecDepth 100000 in
def wl_Ga_copyItems_65 (S : ST) (post : (Nat → Int32) → (Nat → Int32) → (Nat → Int32) → (Nat → Int32) → Prop) (K3 : (Nat → Int32) → (Nat → Int32) → (Nat → Int32) → (Nat → Int32) → Int32 → Int32 → Prop) (a18 : (Nat → Int32)) (a19 : (Nat → Int32)) (a22 : (Nat → Int32)) (a23 : (Nat → Int32)) (x3 : Int32) (x4 : Int32) (z0 : Int32) : Prop := ((z0 = 0 → wl_Ga_copyItems_87 S post K3 a18 a19 a22 a23 x3 x4 x4 3) ∧ (¬ z0 = 0 → wl_Ga_copyItems_87 S post K3 a18 a19 a22 a23 x3 x4 x4 4))
set_option maxRecDepth 100000 in
def wl_Ga_copyItems_3 (S : ST) (post : (Nat → Int32) → (Nat → Int32) → (Nat → Int32) → (Nat → Int32) → Prop) : Nat → (Nat → Int32) → (Nat → Int32) → (Nat → Int32) → (Nat → Int32) → Int32 → Int32 → Prop
  | 0, _, _, _, _, _, _ => False
  | n + 1, a18, a19, a22, a23, x3, x4 => ((x3 ≤ x4 → post a18 a19 a22 a23) ∧ (¬ x3 ≤ x4 → (vp_in x4 400 ∧ (vp_in x4 403 ∧ ∀ f1 : Nat → Int32, f1 = upd a18 x4.toNatClampNeg ((S.1 2) x4.toNatClampNeg) → (vp_in x4 400 ∧ (vp_in x4 403 ∧ ∀ f2 : Nat → Int32, f2 = upd a19 x4.toNatClampNeg ((S.1 7) x4.toNatClampNeg) → (vp_in x4 403 ∧ ((¬ (f1 x4.toNatClampNeg) = 5 → wl_Ga_copyItems_89 S post (fun a18 a19 a22 a23 x3 x4 => wl_Ga_copyItems_3 S post n a18 a19 a22 a23 x3 x4) f1 f2 a22 a23 x3 x4) ∧ ((f1 x4.toNatClampNeg) = 5 → (vp_in x4 400 ∧ ((¬ ((S.1 8) x4.toNatClampNeg) = (-1073741824) → wl_Ga_copyItems_65 S post (fun a18 a19 a22 a23 x3 x4 => wl_Ga_copyItems_3 S post n a18 a19 a22 a23 x3 x4) f1 f2 a22 a23 x3 x4 0) ∧ (((S.1 8) x4.toNatClampNeg) = (-1073741824) → wl_Ga_copyItems_65 S post (fun a18 a19 a22 a23 x3 x4 => wl_Ga_copyItems_3 S post n a18 a19 a22 a23 x3 x4) f1 f2 a22 a23 x3 x4 1))))))))))))
set_option maxRecDepth 100000 in
def wp_Ga_copyItems (S : ST) (p3 : Int32) (post : (Nat → Int32) → (Nat → Int32) → (Nat → Int32) → (Nat → Int32) → Prop) : Prop := (∃ k9 : Nat, wl_Ga_copyItems_3 S post  k9 (S.1 18) (S.1 19) (S.1 22) (S.1 23) p3 0)
abbrev y_Ga_close : MethodName := ⟨"LineBreaker$Galley", "close", "(I)V"⟩
abbrev rm_Ga_close : Room := { frames := 0, cells := 0, slots := 0, locals := 0 }
set_option maxRecDepth 100000 in
def wl_Ga_close_58 (S : ST) (post : (Nat → Int32) → (Nat → Int32) → (Nat → Int32) → (Nat → Int32) → Prop) : Nat → (Nat → Int32) → (Nat → Int32) → (Nat → Int32) → (Nat → Int32) → Int32 → Prop
  | 0, _, _, _, _, _ => False
  | n + 1, a18, a19, a22, a23, x2 => (((S.2.2 1099) < x2 → post a18 a19 a22 a23) ∧ (¬ (S.2.2 1099) < x2 → (vp_in x2 403 ∧ ∀ f1 : Nat → Int32, f1 = upd a22 x2.toNatClampNeg 0 → (vp_in x2 403 ∧ ∀ f2 : Nat → Int32, f2 = upd a23 x2.toNatClampNeg 0 → (∀ v3 : Int32, v3 = x2 + 1 → wl_Ga_close_58 S post n a18 a19 f1 f2 v3)))))
set_option maxRecDepth 100000 in
def wp_Ga_close (S : ST) (p1 : Int32) (post : (Nat → Int32) → (Nat → Int32) → (Nat → Int32) → (Nat → Int32) → Prop) : Prop := (vp_in p1 403 ∧ ∀ f1 : Nat → Int32, f1 = upd (S.1 18) p1.toNatClampNeg 4 → (vp_in p1 403 ∧ ∀ f2 : Nat → Int32, f2 = upd (S.1 19) p1.toNatClampNeg 10000 → (vp_in (p1 + 1) 403 ∧ ∀ f3 : Nat → Int32, f3 = upd f1 ((p1 + 1).toNatClampNeg) 1 → (vp_in (p1 + 1) 403 ∧ ∀ f4 : Nat → Int32, f4 = upd f2 ((p1 + 1).toNatClampNeg) 0 → (vp_in (S.2.2 1099) 403 ∧ ∀ f5 : Nat → Int32, f5 = upd f3 ((S.2.2 1099).toNatClampNeg) 4 → (vp_in (S.2.2 1099) 403 ∧ ∀ f6 : Nat → Int32, f6 = upd f4 ((S.2.2 1099).toNatClampNeg) (-10000) → (∃ k9 : Nat, wl_Ga_close_58 S post  k9 f5 f6 (S.1 22) (S.1 23) p1)))))))
abbrev rm_Gl_finiteStretch_16 : Room := { frames := 0, cells := 0, slots := 0, locals := 0 }
set_option maxRecDepth 100000 in
def wp_Gl_finiteStretch_16 (S : ST) (post : Int32 → Prop) : Prop := ((¬ (S.2.2 1026) = 0 → post 0) ∧ ((S.2.2 1026) = 0 → post (S.2.2 1025)))
abbrev rm_Gl_endlessStretch_16 : Room := { frames := 0, cells := 0, slots := 0, locals := 0 }
set_option maxRecDepth 100000 in
def wp_Gl_endlessStretch_16 (S : ST) (post : Int32 → Prop) : Prop := ((¬ (S.2.2 1026) = 0 → post (S.2.2 1025)) ∧ ((S.2.2 1026) = 0 → post 0))
abbrev y_Ga_sumUp : MethodName := ⟨"LineBreaker$Galley", "sumUp", "(LLineBreaker$Paragraph;LLineBreaker$Glue;I)V"⟩
abbrev rm_Ga_sumUp : Room := { frames := 1, cells := 0, slots := 0, locals := 20 }
set_option maxRecDepth 100000 in
def wl_Ga_sumUp_113 (S : ST) (post : (Nat → Int32) → (Nat → Int32) → (Nat → Int32) → (Nat → Int32) → Prop) (K3 : (Nat → Int32) → (Nat → Int32) → (Nat → Int32) → (Nat → Int32) → Int32 → Int32 → Prop) (a24 : (Nat → Int32)) (a25 : (Nat → Int32)) (a26 : (Nat → Int32)) (a27 : (Nat → Int32)) (x3 : Int32) (x4 : Int32) (z1 : Int32) (z2 : Int32) (z3 : Int32) : Prop := (vp_in z1 403 ∧ ∀ f1 : Nat → Int32, f1 = upd a26 z1.toNatClampNeg (z2 + z3) → (vp_in x4 403 ∧ (vp_in x4 400 ∧ (vp_in (x4 + 1) 403 ∧ ∀ f2 : Nat → Int32, f2 = upd a27 ((x4 + 1).toNatClampNeg) ((a27 x4.toNatClampNeg) + ((S.1 6) x4.toNatClampNeg)) → (∀ v3 : Int32, v3 = x4 + 1 → K3 a24 a25 f1 f2 x3 v3)))))
set_option maxRecDepth 100000 in
def wl_Ga_sumUp_85 (S : ST) (post : (Nat → Int32) → (Nat → Int32) → (Nat → Int32) → (Nat → Int32) → Prop) (K3 : (Nat → Int32) → (Nat → Int32) → (Nat → Int32) → (Nat → Int32) → Int32 → Int32 → Prop) (a24 : (Nat → Int32)) (a25 : (Nat → Int32)) (a26 : (Nat → Int32)) (a27 : (Nat → Int32)) (x3 : Int32) (x4 : Int32) (x5 : Int32) (x6 : Int32) (z1 : Int32) (z2 : Int32) (z3 : Int32) : Prop := (vp_in z1 403 ∧ ∀ f1 : Nat → Int32, f1 = upd a25 z1.toNatClampNeg (z2 + z3) → (vp_in x4 403 ∧ ((x5 = 0 → wl_Ga_sumUp_113 S post K3 a24 f1 a26 a27 x3 x4 (x4 + 1) (a26 x4.toNatClampNeg) x6) ∧ (¬ x5 = 0 → wl_Ga_sumUp_113 S post K3 a24 f1 a26 a27 x3 x4 (x4 + 1) (a26 x4.toNatClampNeg) 0))))
set_option maxRecDepth 100000 in
def wl_Ga_sumUp_24 (S : ST) (post : (Nat → Int32) → (Nat → Int32) → (Nat → Int32) → (Nat → Int32) → Prop) (K3 : (Nat → Int32) → (Nat → Int32) → (Nat → Int32) → (Nat → Int32) → Int32 → Int32 → Prop) (a24 : (Nat → Int32)) (a25 : (Nat → Int32)) (a26 : (Nat → Int32)) (a27 : (Nat → Int32)) (x3 : Int32) (x4 : Int32) (z0 : Int32) : Prop := (vp_in x4 400 ∧ (∀ v1 : Int32, v1 = ((S.1 4) x4.toNatClampNeg) → (vp_in x4 403 ∧ (vp_in x4 400 ∧ (vp_in (x4 + 1) 403 ∧ ∀ f2 : Nat → Int32, f2 = upd a24 ((x4 + 1).toNatClampNeg) ((a24 x4.toNatClampNeg) + ((S.1 3) x4.toNatClampNeg)) → (vp_in x4 403 ∧ ((z0 = 0 → wl_Ga_sumUp_85 S post K3 f2 a25 a26 a27 x3 x4 z0 v1 (x4 + 1) (a25 x4.toNatClampNeg) 0) ∧ (¬ z0 = 0 → wl_Ga_sumUp_85 S post K3 f2 a25 a26 a27 x3 x4 z0 v1 (x4 + 1) (a25 x4.toNatClampNeg) v1))))))))
set_option maxRecDepth 100000 in
def wl_Ga_sumUp_3 (S : ST) (post : (Nat → Int32) → (Nat → Int32) → (Nat → Int32) → (Nat → Int32) → Prop) : Nat → (Nat → Int32) → (Nat → Int32) → (Nat → Int32) → (Nat → Int32) → Int32 → Int32 → Prop
  | 0, _, _, _, _, _, _ => False
  | n + 1, a24, a25, a26, a27, x3, x4 => ((x3 ≤ x4 → (∀ v1 : Int32, v1 = (x3 + 1) → (vp_in x3 403 ∧ (vp_in v1 403 ∧ ∀ f2 : Nat → Int32, f2 = upd a24 v1.toNatClampNeg (a24 x3.toNatClampNeg) → (vp_in x3 403 ∧ (vp_in v1 403 ∧ ∀ f3 : Nat → Int32, f3 = upd a25 v1.toNatClampNeg (a25 x3.toNatClampNeg) → (vp_in x3 403 ∧ (vp_in v1 403 ∧ ∀ f4 : Nat → Int32, f4 = upd a26 v1.toNatClampNeg (a26 x3.toNatClampNeg) → (vp_in x3 403 ∧ (vp_in v1 403 ∧ ∀ f5 : Nat → Int32, f5 = upd a27 v1.toNatClampNeg (a27 x3.toNatClampNeg) → (vp_in v1 403 ∧ (vp_in (S.2.2 1099) 403 ∧ ∀ f6 : Nat → Int32, f6 = upd f2 ((S.2.2 1099).toNatClampNeg) ((f2 v1.toNatClampNeg) + (S.2.2 1024)) → (vp_in v1 403 ∧ wp_Gl_finiteStretch_16 (sA (sA (sA (sA S 24 f6) 25 f3) 26 f4) 27 f5)  (fun r7 => (vp_in (S.2.2 1099) 403 ∧ ∀ f8 : Nat → Int32, f8 = upd f3 ((S.2.2 1099).toNatClampNeg) ((f3 v1.toNatClampNeg) + r7) → (vp_in v1 403 ∧ wp_Gl_endlessStretch_16 (sA (sA (sA (sA S 24 f6) 25 f8) 26 f4) 27 f5)  (fun r9 => (vp_in (S.2.2 1099) 403 ∧ ∀ f10 : Nat → Int32, f10 = upd f4 ((S.2.2 1099).toNatClampNeg) ((f4 v1.toNatClampNeg) + r9) → (vp_in v1 403 ∧ (vp_in (S.2.2 1099) 403 ∧ ∀ f11 : Nat → Int32, f11 = upd f5 ((S.2.2 1099).toNatClampNeg) ((f5 v1.toNatClampNeg) + (S.2.2 1027)) → post f6 f8 f10 f11)))))))))))))))))))) ∧ (¬ x3 ≤ x4 → (vp_in x4 400 ∧ ((¬ ((S.1 5) x4.toNatClampNeg) = 0 → wl_Ga_sumUp_24 S post (fun a24 a25 a26 a27 x3 x4 => wl_Ga_sumUp_3 S post n a24 a25 a26 a27 x3 x4) a24 a25 a26 a27 x3 x4 0) ∧ (((S.1 5) x4.toNatClampNeg) = 0 → wl_Ga_sumUp_24 S post (fun a24 a25 a26 a27 x3 x4 => wl_Ga_sumUp_3 S post n a24 a25 a26 a27 x3 x4) a24 a25 a26 a27 x3 x4 1)))))
set_option maxRecDepth 100000 in
def wp_Ga_sumUp (S : ST) (p3 : Int32) (post : (Nat → Int32) → (Nat → Int32) → (Nat → Int32) → (Nat → Int32) → Prop) : Prop := (∃ k9 : Nat, wl_Ga_sumUp_3 S post  k9 (S.1 24) (S.1 25) (S.1 26) (S.1 27) p3 0)
abbrev y_Ga_mayBreak : MethodName := ⟨"LineBreaker$Galley", "mayBreak", "(II)Z"⟩
abbrev rm_Ga_mayBreak : Room := { frames := 0, cells := 0, slots := 0, locals := 0 }
set_option maxRecDepth 100000 in
def wp_Ga_mayBreak (S : ST) (p1 : Int32) (p2 : Int32) (post : Int32 → Prop) : Prop := (vp_in p1 403 ∧ ((((S.1 18) p1.toNatClampNeg) = 1 → ((p1 ≤ 0 → post 0) ∧ (¬ p1 ≤ 0 → ((p1 = p2 → post 1) ∧ (¬ p1 = p2 → (vp_in (p1 - 1) 403 ∧ ((((S.1 18) (p1 - 1).toNatClampNeg) = 0 → post 1) ∧ (¬ ((S.1 18) (p1 - 1).toNatClampNeg) = 0 → (vp_in (p1 - 1) 403 ∧ ((¬ ((S.1 18) (p1 - 1).toNatClampNeg) = 2 → post 0) ∧ (((S.1 18) (p1 - 1).toNatClampNeg) = 2 → post 1))))))))))) ∧ (((S.1 18) p1.toNatClampNeg) = 2 → post 0) ∧ (((S.1 18) p1.toNatClampNeg) = 3 → ((p1 < p2 → post 0) ∧ (¬ p1 < p2 → (((S.2.2 1099) ≤ p1 → post 0) ∧ (¬ (S.2.2 1099) ≤ p1 → (vp_in (p1 + 1) 403 ∧ ((¬ ((S.1 18) (p1 + 1).toNatClampNeg) = 1 → post 0) ∧ (((S.1 18) (p1 + 1).toNatClampNeg) = 1 → post 1)))))))) ∧ (((S.1 18) p1.toNatClampNeg) = 4 → post 1) ∧ (((S.1 18) p1.toNatClampNeg) = 5 → post 1) ∧ (¬ ((S.1 18) p1.toNatClampNeg) = 1 → ¬ ((S.1 18) p1.toNatClampNeg) = 2 → ¬ ((S.1 18) p1.toNatClampNeg) = 3 → ¬ ((S.1 18) p1.toNatClampNeg) = 4 → ¬ ((S.1 18) p1.toNatClampNeg) = 5 → post 0)))
abbrev y_Ga_markPlaces : MethodName := ⟨"LineBreaker$Galley", "markPlaces", "(LLineBreaker$Paragraph;I)V"⟩
abbrev rm_Ga_markPlaces : Room := { frames := 1, cells := 0, slots := 0, locals := 22 }
set_option maxRecDepth 100000 in
def wl_Ga_markPlaces_48 (S : ST) (post : (Nat → Int32) → Prop) (K5 : (Nat → Int32) → Int32 → Int32 → Int32 → Prop) (a20 : (Nat → Int32)) (x2 : Int32) (x3 : Int32) (x4 : Int32) (z1 : Int32) (z2 : Int32) : Prop := (vp_in z1 403 ∧ ∀ f1 : Nat → Int32, f1 = upd a20 z1.toNatClampNeg (vp_nar .boolean z2) → ((x2 ≤ x4 → (∀ v2 : Int32, v2 = x4 + 1 → K5 f1 x2 x3 v2)) ∧ (¬ x2 ≤ x4 → (vp_in x4 403 ∧ ((¬ ((S.1 18) x4.toNatClampNeg) = 5 → (∀ v3 : Int32, v3 = x4 + 1 → K5 f1 x2 x3 v3)) ∧ (((S.1 18) x4.toNatClampNeg) = 5 → (vp_in x4 400 ∧ (∀ v4 : Int32, v4 = ((x4 + 1) + ((S.1 10) x4.toNatClampNeg)) → (∀ v5 : Int32, v5 = x4 + 1 → K5 f1 x2 v4 v5)))))))))
set_option maxRecDepth 100000 in
def wl_Ga_markPlaces_47 (S : ST) (post : (Nat → Int32) → Prop) (K5 : (Nat → Int32) → Int32 → Int32 → Int32 → Prop) (a20 : (Nat → Int32)) (x2 : Int32) (x3 : Int32) (x4 : Int32) (z1 : Int32) : Prop := wl_Ga_markPlaces_48 S post K5 a20 x2 x3 x4 z1 0
set_option maxRecDepth 100000 in
def wl_Ga_markPlaces_5 (S : ST) (post : (Nat → Int32) → Prop) : Nat → (Nat → Int32) → Int32 → Int32 → Int32 → Prop
  | 0, _, _, _, _ => False
  | n + 1, a20, x2, x3, x4 => (((S.2.2 1099) < x4 → post a20) ∧ (¬ (S.2.2 1099) < x4 → (vp_in x4 403 ∧ ((((S.1 19) x4.toNatClampNeg) = 10000 → wl_Ga_markPlaces_47 S post (fun a20 x2 x3 x4 => wl_Ga_markPlaces_5 S post n a20 x2 x3 x4) a20 x2 x3 x4 x4) ∧ (¬ ((S.1 19) x4.toNatClampNeg) = 10000 → wp_Ga_mayBreak (sA S 20 a20) x4 x3 (fun r1 => ((r1 = 0 → wl_Ga_markPlaces_47 S post (fun a20 x2 x3 x4 => wl_Ga_markPlaces_5 S post n a20 x2 x3 x4) a20 x2 x3 x4 x4) ∧ (¬ r1 = 0 → wl_Ga_markPlaces_48 S post (fun a20 x2 x3 x4 => wl_Ga_markPlaces_5 S post n a20 x2 x3 x4) a20 x2 x3 x4 x4 1))))))))
set_option maxRecDepth 100000 in
def wp_Ga_markPlaces (S : ST) (p2 : Int32) (post : (Nat → Int32) → Prop) : Prop := (∃ k9 : Nat, wl_Ga_markPlaces_5 S post  k9 (S.1 20) p2 0 0)
abbrev y_Ga_isLeftOut : MethodName := ⟨"LineBreaker$Galley", "isLeftOut", "(I)Z"⟩
abbrev rm_Ga_isLeftOut : Room := { frames := 0, cells := 0, slots := 0, locals := 0 }
set_option maxRecDepth 100000 in
def wp_Ga_isLeftOut (S : ST) (p1 : Int32) (post : Int32 → Prop) : Prop := ((p1 = 1 → post 1) ∧ (¬ p1 = 1 → ((p1 = 3 → post 1) ∧ (¬ p1 = 3 → ((¬ p1 = 4 → post 0) ∧ (p1 = 4 → post 1))))))
abbrev y_Ga_findFirstOnes : MethodName := ⟨"LineBreaker$Galley", "findFirstOnes", "(LLineBreaker$Paragraph;I)V"⟩
abbrev rm_Ga_findFirstOnes : Room := { frames := 1, cells := 0, slots := 0, locals := 29 }
set_option maxRecDepth 100000 in
def wl_Ga_findFirstOnes_55 (S : ST) (post : (Nat → Int32) → (Nat → Int32) → Prop) (K22 : (Nat → Int32) → (Nat → Int32) → Int32 → Int32 → Prop) (a21 : (Nat → Int32)) (a28 : (Nat → Int32)) (x2 : Int32) (x3 : Int32) (z1 : Int32) (z2 : Int32) : Prop := (vp_in z1 404 ∧ ∀ f1 : Nat → Int32, f1 = upd a28 z1.toNatClampNeg z2 → (vp_in x3 404 ∧ (vp_in x3 403 ∧ ∀ f2 : Nat → Int32, f2 = upd a21 x3.toNatClampNeg (f1 x3.toNatClampNeg) → ((x2 ≤ x3 → (∀ v3 : Int32, v3 = x3 + (-1) → K22 f2 f1 x2 v3)) ∧ (¬ x2 ≤ x3 → (vp_in x3 403 ∧ ((¬ ((S.1 18) x3.toNatClampNeg) = 5 → (∀ v4 : Int32, v4 = x3 + (-1) → K22 f2 f1 x2 v4)) ∧ (((S.1 18) x3.toNatClampNeg) = 5 → (vp_in x3 400 ∧ (∀ v5 : Int32, v5 = (if (S.2.2 1099) < ((x3 + 1) + ((S.1 10) x3.toNatClampNeg)) then (S.2.2 1099) else ((x3 + 1) + ((S.1 10) x3.toNatClampNeg))) → (vp_in x3 400 ∧ ((¬ ((S.1 9) x3.toNatClampNeg) = (-1073741824) → (vp_in x3 403 ∧ ∀ f6 : Nat → Int32, f6 = upd f2 x3.toNatClampNeg v5 → (∀ v7 : Int32, v7 = x3 + (-1) → K22 f6 f1 x2 v7))) ∧ (((S.1 9) x3.toNatClampNeg) = (-1073741824) → (vp_in v5 404 ∧ (vp_in x3 403 ∧ ∀ f8 : Nat → Int32, f8 = upd f2 x3.toNatClampNeg (f1 v5.toNatClampNeg) → (∀ v9 : Int32, v9 = x3 + (-1) → K22 f8 f1 x2 v9))))))))))))))))
set_option maxRecDepth 100000 in
def wl_Ga_findFirstOnes_22 (S : ST) (post : (Nat → Int32) → (Nat → Int32) → Prop) : Nat → (Nat → Int32) → (Nat → Int32) → Int32 → Int32 → Prop
  | 0, _, _, _, _ => False
  | n + 1, a21, a28, x2, x3 => ((x3 < 0 → post a21 a28) ∧ (¬ x3 < 0 → (vp_in x3 403 ∧ wp_Ga_isLeftOut (sA (sA S 21 a21) 28 a28) ((S.1 18) x3.toNatClampNeg) (fun r1 => ((r1 = 0 → wl_Ga_findFirstOnes_55 S post (fun a21 a28 x2 x3 => wl_Ga_findFirstOnes_22 S post n a21 a28 x2 x3) a21 a28 x2 x3 x3 x3) ∧ (¬ r1 = 0 → (vp_in (x3 + 1) 404 ∧ wl_Ga_findFirstOnes_55 S post (fun a21 a28 x2 x3 => wl_Ga_findFirstOnes_22 S post n a21 a28 x2 x3) a21 a28 x2 x3 x3 (a28 (x3 + 1).toNatClampNeg))))))))
set_option maxRecDepth 100000 in
def wp_Ga_findFirstOnes (S : ST) (p2 : Int32) (post : (Nat → Int32) → (Nat → Int32) → Prop) : Prop := (vp_in ((S.2.2 1099) + 1) 404 ∧ ∀ f1 : Nat → Int32, f1 = upd (S.1 28) (((S.2.2 1099) + 1).toNatClampNeg) ((S.2.2 1099) + 1) → (∀ v2 : Int32, v2 = (S.2.2 1099) → (∃ k9 : Nat, wl_Ga_findFirstOnes_22 S post  k9 (S.1 21) f1 p2 v2)))
abbrev y_Ga_prepare : MethodName := ⟨"LineBreaker$Galley", "prepare", "(LLineBreaker$Paragraph;LLineBreaker$Settings;)V"⟩
abbrev rm_Ga_prepare : Room := { frames := 2, cells := 0, slots := 0, locals := 53 }
set_option maxRecDepth 100000 in
def wp_Ga_prepare (S : ST) (post : (Nat → Int32) → (Nat → Int32) → (Nat → Int32) → (Nat → Int32) → (Nat → Int32) → (Nat → Int32) → (Nat → Int32) → (Nat → Int32) → (Nat → Int32) → (Nat → Int32) → (Nat → Int32) → Int32 → Prop) : Prop := wp_Pa_countWithoutLastGlue S  (fun r1 => (∀ v2 : Int32, v2 = ((r1 + 3) - 1) → wp_Ga_copyItems (sI S 1099 v2) r1 (fun f3 f4 f5 f6 => wp_Ga_close (sI (sA (sA (sA (sA S 18 f3) 19 f4) 22 f5) 23 f6) 1099 v2) r1 (fun f7 f8 f9 f10 => wp_Ga_sumUp (sI (sA (sA (sA (sA S 18 f7) 19 f8) 22 f9) 23 f10) 1099 v2) r1 (fun f11 f12 f13 f14 => wp_Ga_markPlaces (sI (sA (sA (sA (sA (sA (sA (sA (sA S 18 f7) 19 f8) 22 f9) 23 f10) 24 f11) 25 f12) 26 f13) 27 f14) 1099 v2) r1 (fun f15 => wp_Ga_findFirstOnes (sI (sA (sA (sA (sA (sA (sA (sA (sA (sA S 18 f7) 19 f8) 20 f15) 22 f9) 23 f10) 24 f11) 25 f12) 26 f13) 27 f14) 1099 v2) r1 (fun f16 f17 => post f7 f8 f15 f16 f9 f10 f11 f12 f13 f14 f17 v2)))))))
abbrev y_Ou_forget : MethodName := ⟨"LineBreaker$Outcome", "forget", "()V"⟩
abbrev rm_Ou_forget : Room := { frames := 0, cells := 0, slots := 0, locals := 0 }
set_option maxRecDepth 100000 in
def wp_Ou_forget (S : ST) (post : Int32 → Int32 → Int32 → Prop) : Prop := post 0 0 0
abbrev y_Ou_record : MethodName := ⟨"LineBreaker$Outcome", "record", "(LLineBreaker$Search;II)V"⟩
abbrev rm_Ou_record : Room := { frames := 4, cells := 0, slots := 0, locals := 103 }
set_option maxRecDepth 100000 in
def wl_Ou_record_44 (S : ST) (post : (Nat → Int32) → (Nat → Int32) → (Nat → Int32) → (Nat → Int32) → (Nat → Int32) → (Nat → Int64) → Int32 → Int32 → Int32 → Int32 → Int32 → Int32 → Int32 → Int32 → Int32 → Prop) : Nat → (Nat → Int32) → (Nat → Int32) → (Nat → Int32) → (Nat → Int32) → (Nat → Int32) → (Nat → Int64) → Int32 → Int32 → Int32 → Int32 → Int32 → Int32 → Int32 → Int32 → Int32 → Int32 → Int32 → Prop
  | 0, _, _, _, _, _, _, _, _, _, _, _, _, _, _, _, _, _ => False
  | n + 1, a43, a44, a45, a46, a47, l48, i1923, i1924, i1925, i1926, i1927, i1928, i2626, i2627, i2628, x5, x6 => ((x6 < 0 → post a43 a44 a45 a46 a47 l48 i1923 i1924 i1925 i1926 i1927 i1928 i2626 i2627 i2628) ∧ (¬ x6 < 0 → (vp_in x5 8001 ∧ (∀ v1 : Int32, v1 = ((S.1 35) x5.toNatClampNeg) → (vp_in x5 8001 ∧ wp_Se_measureFrom (sI (sI (sI (sI (sI (sI (sI (sI (sI (sL (sA (sA (sA (sA (sA S 43 a43) 44 a44) 45 a45) 46 a46) 47 a47) 48 l48) 1923 i1923) 1924 i1924) 1925 i1925) 1926 i1926) 1927 i1927) 1928 i1928) 2626 i2626) 2627 i2627) 2628 i2628) v1 ((S.1 32) x5.toNatClampNeg) (fun v2 v3 v4 v5 v6 v7 => (vp_in x5 8001 ∧ (vp_in x6 401 ∧ ∀ f8 : Nat → Int32, f8 = upd a43 x6.toNatClampNeg ((S.1 32) x5.toNatClampNeg) → (vp_in v1 8001 ∧ wp_Ga_firstOneFrom (sI (sI (sI (sI (sI (sI (sI (sI (sI (sL (sA (sA (sA (sA (sA S 43 f8) 44 a44) 45 a45) 46 a46) 47 a47) 48 l48) 1923 v2) 1924 v3) 1925 v4) 1926 v5) 1927 v6) 1928 v7) 2626 i2626) 2627 i2627) 2628 i2628) ((S.1 32) v1.toNatClampNeg) (fun r9 => (vp_in x6 401 ∧ ∀ f10 : Nat → Int32, f10 = upd a44 x6.toNatClampNeg r9 → (vp_in x6 401 ∧ ∀ f11 : Nat → Int32, f11 = upd a45 x6.toNatClampNeg v2 → (vp_in x6 401 ∧ ∀ f12 : Nat → Int32, f12 = upd a46 x6.toNatClampNeg v3 → (vp_in x6 401 ∧ ∀ f13 : Nat → Int32, f13 = upd a47 x6.toNatClampNeg v4 → (vp_in x5 8001 ∧ (vp_in x6 401 ∧ ∀ f14 : Nat → Int64, f14 = vp_updL l48 x6.toNatClampNeg ((S.2.1 36) x5.toNatClampNeg) → (∀ v15 : Int32, v15 = x6 + (-1) → wl_Ou_record_44 S post n f8 f10 f11 f12 f13 f14 v2 v3 v4 v5 v6 v7 i2626 i2627 i2628 v1 v15)))))))))))))))))
set_option maxRecDepth 100000 in
def wp_Ou_record (S : ST) (p2 : Int32) (p3 : Int32) (post : (Nat → Int32) → (Nat → Int32) → (Nat → Int32) → (Nat → Int32) → (Nat → Int32) → (Nat → Int64) → Int32 → Int32 → Int32 → Int32 → Int32 → Int32 → Int32 → Int32 → Int32 → Prop) : Prop := (vp_in p2 8001 ∧ (∀ v1 : Int32, v1 = ((S.1 33) p2.toNatClampNeg) → (∀ v2 : Int32, v2 = ((S.2.2 1989) - 1) → (∀ v3 : Int32, v3 = (v1 - 1) → (∃ k9 : Nat, wl_Ou_record_44 S post  k9 (S.1 43) (S.1 44) (S.1 45) (S.1 46) (S.1 47) (S.2.1 48) (S.2.2 1923) (S.2.2 1924) (S.2.2 1925) (S.2.2 1926) (S.2.2 1927) (S.2.2 1928) v1 p3 v2 p2 v3)))))
abbrev y_Pa_append : MethodName := ⟨"LineBreaker$Paragraph", "append", "(II)I"⟩
abbrev rm_Pa_append : Room := { frames := 0, cells := 0, slots := 0, locals := 0 }
set_option maxRecDepth 100000 in
def wp_Pa_append (S : ST) (p1 : Int32) (p2 : Int32) (post : Int32 → (Nat → Int32) → (Nat → Int32) → (Nat → Int32) → (Nat → Int32) → (Nat → Int32) → (Nat → Int32) → (Nat → Int32) → (Nat → Int32) → (Nat → Int32) → Int32 → Prop) : Prop := (∀ v1 : Int32, v1 = (S.2.2 73) → (vp_in v1 400 ∧ ∀ f2 : Nat → Int32, f2 = upd (S.1 2) v1.toNatClampNeg p1 → (vp_in v1 400 ∧ ∀ f3 : Nat → Int32, f3 = upd (S.1 3) v1.toNatClampNeg p2 → (vp_in v1 400 ∧ ∀ f4 : Nat → Int32, f4 = upd (S.1 4) v1.toNatClampNeg 0 → (vp_in v1 400 ∧ ∀ f5 : Nat → Int32, f5 = upd (S.1 5) v1.toNatClampNeg 0 → (vp_in v1 400 ∧ ∀ f6 : Nat → Int32, f6 = upd (S.1 6) v1.toNatClampNeg 0 → (vp_in v1 400 ∧ ∀ f7 : Nat → Int32, f7 = upd (S.1 7) v1.toNatClampNeg 0 → (vp_in v1 400 ∧ ∀ f8 : Nat → Int32, f8 = upd (S.1 8) v1.toNatClampNeg (-1073741824) → (vp_in v1 400 ∧ ∀ f9 : Nat → Int32, f9 = upd (S.1 9) v1.toNatClampNeg (-1073741824) → (vp_in v1 400 ∧ ∀ f10 : Nat → Int32, f10 = upd (S.1 10) v1.toNatClampNeg 0 → (∀ v11 : Int32, v11 = (v1 + 1) → post v1 f2 f3 f4 f5 f6 f7 f8 f9 f10 v11)))))))))))
abbrev y_Pa_appendGlue : MethodName := ⟨"LineBreaker$Paragraph", "appendGlue", "(IIII)I"⟩
abbrev rm_Pa_appendGlue : Room := { frames := 1, cells := 0, slots := 0, locals := 23 }
set_option maxRecDepth 100000 in
def wp_Pa_appendGlue (S : ST) (p1 : Int32) (p2 : Int32) (p3 : Int32) (p4 : Int32) (post : Int32 → (Nat → Int32) → (Nat → Int32) → (Nat → Int32) → (Nat → Int32) → (Nat → Int32) → (Nat → Int32) → (Nat → Int32) → (Nat → Int32) → (Nat → Int32) → Int32 → Prop) : Prop := wp_Pa_append S 1 p1 (fun r11 f1 f2 f3 f4 f5 f6 f7 f8 f9 v10 => (vp_in r11 400 ∧ ∀ f12 : Nat → Int32, f12 = upd f3 r11.toNatClampNeg p2 → (vp_in r11 400 ∧ ∀ f13 : Nat → Int32, f13 = upd f4 r11.toNatClampNeg p3 → (vp_in r11 400 ∧ ∀ f14 : Nat → Int32, f14 = upd f5 r11.toNatClampNeg p4 → post r11 f1 f2 f12 f13 f14 f6 f7 f8 f9 v10))))
abbrev y_Pa_appendPenalty : MethodName := ⟨"LineBreaker$Paragraph", "appendPenalty", "(I)I"⟩
abbrev rm_Pa_appendPenalty : Room := { frames := 1, cells := 0, slots := 0, locals := 23 }
set_option maxRecDepth 100000 in
def wp_Pa_appendPenalty (S : ST) (p1 : Int32) (post : Int32 → (Nat → Int32) → (Nat → Int32) → (Nat → Int32) → (Nat → Int32) → (Nat → Int32) → (Nat → Int32) → (Nat → Int32) → (Nat → Int32) → (Nat → Int32) → Int32 → Prop) : Prop := wp_Pa_append S 4 0 (fun r11 f1 f2 f3 f4 f5 f6 f7 f8 f9 v10 => (vp_in r11 400 ∧ ∀ f12 : Nat → Int32, f12 = upd f6 r11.toNatClampNeg p1 → post r11 f1 f2 f3 f4 f5 f12 f7 f8 f9 v10))
abbrev y_Pa_appendHyphen : MethodName := ⟨"LineBreaker$Paragraph", "appendHyphen", "(III)I"⟩
abbrev rm_Pa_appendHyphen : Room := { frames := 1, cells := 0, slots := 0, locals := 23 }
set_option maxRecDepth 100000 in
def wp_Pa_appendHyphen (S : ST) (p1 : Int32) (p2 : Int32) (p3 : Int32) (post : Int32 → (Nat → Int32) → (Nat → Int32) → (Nat → Int32) → (Nat → Int32) → (Nat → Int32) → (Nat → Int32) → (Nat → Int32) → (Nat → Int32) → (Nat → Int32) → Int32 → Prop) : Prop := wp_Pa_append S 5 0 (fun r11 f1 f2 f3 f4 f5 f6 f7 f8 f9 v10 => (vp_in r11 400 ∧ ∀ f12 : Nat → Int32, f12 = upd f7 r11.toNatClampNeg p1 → (vp_in r11 400 ∧ ∀ f13 : Nat → Int32, f13 = upd f8 r11.toNatClampNeg p2 → (vp_in r11 400 ∧ ∀ f14 : Nat → Int32, f14 = upd f9 r11.toNatClampNeg p3 → post r11 f1 f2 f3 f4 f5 f6 f12 f13 f14 v10))))
abbrev y_Pa_awaitsReplaced : MethodName := ⟨"LineBreaker$Paragraph", "awaitsReplaced", "()Z"⟩
abbrev rm_Pa_awaitsReplaced : Room := { frames := 1, cells := 0, slots := 0, locals := 29 }
set_option maxRecDepth 100000 in
def wl_Pa_awaitsReplaced_19 (S : ST) (post : Int32 → Prop) : Nat → Int32 → Int32 → Prop
  | 0, _, _ => False
  | n + 1, x1, x2 => ((x2 < x1 → post 0) ∧ (¬ x2 < x1 → (vp_in x2 400 ∧ ((¬ ((S.1 2) x2.toNatClampNeg) = 5 → (∀ v1 : Int32, v1 = x2 + (-1) → wl_Pa_awaitsReplaced_19 S post n x1 v1)) ∧ (((S.1 2) x2.toNatClampNeg) = 5 → (vp_in x2 400 ∧ (((x2 + ((S.1 10) x2.toNatClampNeg)) < (S.2.2 73) → post 0) ∧ (¬ (x2 + ((S.1 10) x2.toNatClampNeg)) < (S.2.2 73) → post 1))))))))
set_option maxRecDepth 100000 in
def wp_Pa_awaitsReplaced (S : ST) (post : Int32 → Prop) : Prop := (∀ v1 : Int32, v1 = (if 0 < ((S.2.2 73) - 10) then ((S.2.2 73) - 10) else 0) → (∀ v2 : Int32, v2 = ((S.2.2 73) - 1) → (∃ k9 : Nat, wl_Pa_awaitsReplaced_19 S post  k9 v1 v2)))
abbrev y_Lb_keep : MethodName := ⟨"LineBreaker", "keep", "(I)Z"⟩
abbrev rm_Lb_keep : Room := { frames := 1, cells := 0, slots := 0, locals := 20 }
set_option maxRecDepth 100000 in
def wp_Lb_keep (S : ST) (p1 : Int32) (post : Int32 → Int32 → Int32 → Int32 → Int32 → Prop) : Prop := ((p1 < 0 → post 0 (S.2.2 73) (S.2.2 2626) (S.2.2 2627) (S.2.2 2628)) ∧ (¬ p1 < 0 → ((p1 ≤ (S.2.2 73) → wp_Ou_forget (sI S 73 p1)  (fun v1 v2 v3 => post 1 p1 v1 v2 v3)) ∧ (¬ p1 ≤ (S.2.2 73) → post 0 (S.2.2 73) (S.2.2 2626) (S.2.2 2627) (S.2.2 2628)))))
abbrev y_Lb_items : MethodName := ⟨"LineBreaker", "items", "()I"⟩
abbrev rm_Lb_items : Room := { frames := 0, cells := 0, slots := 0, locals := 0 }
set_option maxRecDepth 100000 in
def wp_Lb_items (S : ST) (post : Int32 → Prop) : Prop := post (S.2.2 73)
abbrev y_Lb_pass : MethodName := ⟨"LineBreaker", "pass", "()I"⟩
abbrev rm_Lb_pass : Room := { frames := 0, cells := 0, slots := 0, locals := 0 }
set_option maxRecDepth 100000 in
def wp_Lb_pass (S : ST) (post : Int32 → Prop) : Prop := post (S.2.2 2627)
abbrev y_Lb_nodes : MethodName := ⟨"LineBreaker", "nodes", "()I"⟩
abbrev rm_Lb_nodes : Room := { frames := 0, cells := 0, slots := 0, locals := 0 }
set_option maxRecDepth 100000 in
def wp_Lb_nodes (S : ST) (post : Int32 → Prop) : Prop := post (S.2.2 2628)
abbrev y_Pa_allStretch : MethodName := ⟨"LineBreaker$Paragraph", "allStretch", "()J"⟩
abbrev rm_Pa_allStretch : Room := { frames := 0, cells := 0, slots := 0, locals := 0 }
set_option maxRecDepth 100000 in
def wl_Pa_allStretch_4 (S : ST) (post : Int64 → Prop) : Nat → Int64 → Int32 → Prop
  | 0, _, _ => False
  | n + 1, x1, x3 => (((S.2.2 73) ≤ x3 → post x1) ∧ (¬ (S.2.2 73) ≤ x3 → (vp_in x3 400 ∧ (∀ v1 : Int64, v1 = (x1 + (((S.1 4) x3.toNatClampNeg).toInt64)) → (∀ v2 : Int32, v2 = x3 + 1 → wl_Pa_allStretch_4 S post n v1 v2)))))
set_option maxRecDepth 100000 in
def wp_Pa_allStretch (S : ST) (post : Int64 → Prop) : Prop := (∃ k9 : Nat, wl_Pa_allStretch_4 S post  k9 0 0)
abbrev y_St_stretchAround : MethodName := ⟨"LineBreaker$Settings", "stretchAround", "()J"⟩
abbrev rm_St_stretchAround : Room := { frames := 0, cells := 0, slots := 0, locals := 0 }
set_option maxRecDepth 100000 in
def wp_St_stretchAround (S : ST) (post : Int64 → Prop) : Prop := post ((((S.2.2 897).toInt64) + ((S.2.2 961).toInt64)) + ((S.2.2 1025).toInt64))
abbrev y_Pa_allWidths : MethodName := ⟨"LineBreaker$Paragraph", "allWidths", "()J"⟩
abbrev rm_Pa_allWidths : Room := { frames := 1, cells := 0, slots := 0, locals := 29 }
set_option maxRecDepth 100000 in
def wl_Pa_allWidths_4 (S : ST) (post : Int64 → Prop) : Nat → Int64 → Int32 → Prop
  | 0, _, _ => False
  | n + 1, x1, x3 => (((S.2.2 73) ≤ x3 → post x1) ∧ (¬ (S.2.2 73) ≤ x3 → (vp_in x3 400 ∧ (∀ v1 : Int32, v1 = (if (0 : Int32) ≤ ((S.1 3) x3.toNatClampNeg) then ((S.1 3) x3.toNatClampNeg) else 0 - ((S.1 3) x3.toNatClampNeg)) → (∀ v2 : Int64, v2 = (x1 + (v1.toInt64)) → (vp_in x3 400 ∧ wp_Lb_widthOf S ((S.1 8) x3.toNatClampNeg) (fun r3 => (∀ v4 : Int32, v4 = (if (0 : Int32) ≤ r3 then r3 else 0 - r3) → (∀ v5 : Int64, v5 = (v2 + (v4.toInt64)) → (vp_in x3 400 ∧ wp_Lb_widthOf S ((S.1 9) x3.toNatClampNeg) (fun r6 => (∀ v7 : Int32, v7 = (if (0 : Int32) ≤ r6 then r6 else 0 - r6) → (∀ v8 : Int64, v8 = (v5 + (v7.toInt64)) → (∀ v9 : Int32, v9 = x3 + 1 → wl_Pa_allWidths_4 S post n v8 v9))))))))))))))
set_option maxRecDepth 100000 in
def wp_Pa_allWidths (S : ST) (post : Int64 → Prop) : Prop := (∃ k9 : Nat, wl_Pa_allWidths_4 S post  k9 0 0)
abbrev y_St_widthsAround : MethodName := ⟨"LineBreaker$Settings", "widthsAround", "()J"⟩
abbrev rm_St_widthsAround : Room := { frames := 1, cells := 0, slots := 0, locals := 29 }
set_option maxRecDepth 100000 in
def wp_St_widthsAround (S : ST) (post : Int64 → Prop) : Prop := (∀ v1 : Int32, v1 = (if (0 : Int32) ≤ (S.2.2 896) then (S.2.2 896) else 0 - (S.2.2 896)) → (∀ v2 : Int32, v2 = (if (0 : Int32) ≤ (S.2.2 960) then (S.2.2 960) else 0 - (S.2.2 960)) → (∀ v3 : Int32, v3 = (if (0 : Int32) ≤ (S.2.2 1024) then (S.2.2 1024) else 0 - (S.2.2 1024)) → post (((v1.toInt64) + (v2.toInt64)) + (v3.toInt64)))))
abbrev y_Pa_allShrink : MethodName := ⟨"LineBreaker$Paragraph", "allShrink", "()J"⟩
abbrev rm_Pa_allShrink : Room := { frames := 0, cells := 0, slots := 0, locals := 0 }
set_option maxRecDepth 100000 in
def wl_Pa_allShrink_4 (S : ST) (post : Int64 → Prop) : Nat → Int64 → Int32 → Prop
  | 0, _, _ => False
  | n + 1, x1, x3 => (((S.2.2 73) ≤ x3 → post x1) ∧ (¬ (S.2.2 73) ≤ x3 → (vp_in x3 400 ∧ (∀ v1 : Int64, v1 = (x1 + (((S.1 6) x3.toNatClampNeg).toInt64)) → (∀ v2 : Int32, v2 = x3 + 1 → wl_Pa_allShrink_4 S post n v1 v2)))))
set_option maxRecDepth 100000 in
def wp_Pa_allShrink (S : ST) (post : Int64 → Prop) : Prop := (∃ k9 : Nat, wl_Pa_allShrink_4 S post  k9 0 0)
abbrev y_St_shrinkAround : MethodName := ⟨"LineBreaker$Settings", "shrinkAround", "()J"⟩
abbrev rm_St_shrinkAround : Room := { frames := 0, cells := 0, slots := 0, locals := 0 }
set_option maxRecDepth 100000 in
def wp_St_shrinkAround (S : ST) (post : Int64 → Prop) : Prop := post ((((S.2.2 899).toInt64) + ((S.2.2 963).toInt64)) + ((S.2.2 1027).toInt64))
abbrev y_Lb_sumsAreSizes : MethodName := ⟨"LineBreaker", "sumsAreSizes", "()Z"⟩
abbrev rm_Lb_sumsAreSizes : Room := { frames := 2, cells := 0, slots := 0, locals := 52 }
set_option maxRecDepth 100000 in
def wp_Lb_sumsAreSizes (S : ST) (post : Int32 → Prop) : Prop := wp_Pa_allStretch S  (fun r1 => wp_St_stretchAround S  (fun r2 => (vp_in 8 10 ∧ (∀ v3 : Int64, v3 = ((r1 + r2) + (((S.1 12) (8 : Int32).toNatClampNeg).toInt64)) → wp_Pa_allWidths S  (fun r4 => wp_St_widthsAround S  (fun r5 => ((0 < (lg_cmp (r4 + r5) 1073741823) → post 0) ∧ (¬ 0 < (lg_cmp (r4 + r5) 1073741823) → ((0 < (lg_cmp v3 1073741823) → post 0) ∧ (¬ 0 < (lg_cmp v3 1073741823) → wp_Pa_allShrink S  (fun r6 => wp_St_shrinkAround S  (fun r7 => ((0 < (lg_cmp (r6 + r7) 1073741823) → post 0) ∧ (¬ 0 < (lg_cmp (r6 + r7) 1073741823) → post 1))))))))))))))
abbrev y_Lb_isSize : MethodName := ⟨"LineBreaker", "isSize", "(I)Z"⟩
abbrev rm_Lb_isSize : Room := { frames := 0, cells := 0, slots := 0, locals := 0 }
set_option maxRecDepth 100000 in
def wp_Lb_isSize (S : ST) (p1 : Int32) (post : Int32 → Prop) : Prop := ((p1 < (-1073741823) → post 0) ∧ (¬ p1 < (-1073741823) → ((1073741823 < p1 → post 0) ∧ (¬ 1073741823 < p1 → post 1))))
abbrev y_Gl_become : MethodName := ⟨"LineBreaker$Glue", "become", "(IIII)V"⟩
abbrev rm_Gl_become : Room := { frames := 0, cells := 0, slots := 0, locals := 0 }
set_option maxRecDepth 100000 in
def wp_Gl_become (S : ST) (p1 : Int32) (p2 : Int32) (p3 : Int32) (p4 : Int32) (post : Int32 → Int32 → Int32 → Int32 → Prop) : Prop := post p1 p2 p3 p4
abbrev rm_Gl_become_15 : Room := { frames := 0, cells := 0, slots := 0, locals := 0 }
set_option maxRecDepth 100000 in
def wp_Gl_become_15 (S : ST) (p1 : Int32) (p2 : Int32) (p3 : Int32) (p4 : Int32) (post : Int32 → Int32 → Int32 → Int32 → Prop) : Prop := post p1 p2 p3 p4
abbrev rm_Gl_become_16 : Room := { frames := 0, cells := 0, slots := 0, locals := 0 }
set_option maxRecDepth 100000 in
def wp_Gl_become_16 (S : ST) (p1 : Int32) (p2 : Int32) (p3 : Int32) (p4 : Int32) (post : Int32 → Int32 → Int32 → Int32 → Prop) : Prop := post p1 p2 p3 p4
section
variable {p : Program} {l : Launch} {e : Env} {s : State} {m : MethodId} {args : Array Value} {below : List Frame} {meth : Method} {c : Code} {n0 : Nat} {G : va_G} {K : KT} {ad : Nat → Nat} {X : va_W}
set_option maxHeartbeats 4000000 in
set_option maxRecDepth 100000 in
theorem c_Pa_countWithoutLastGlue (l : Launch) (n0 : Nat) (G : va_G) (K : KT) (ad : Nat → Nat) (X : va_W) (S : ST) (post : Int32 → Prop) (hw : wp_Pa_countWithoutLastGlue S  post) : Met l y_Pa_countWithoutLastGlue (Cond.code y_Pa_countWithoutLastGlue prog_8_method_7_code 1 (some .int) :: gw) rm_Pa_countWithoutLastGlue (va_Pc [.ref (ad 1)] (wb n0 G K (wC K ad S ++ X))) (va_Qi (fun r (u : Unit) => post r) (fun (u : Unit) t => we n0 G (wC K ad S ++ X) t) (al n0)) 0 0 (al n0) := by
  refine kb_start (own := "LineBreaker$Paragraph") (by decide +kernel) rfl ?_
  intro p e s m below meth c C hr hnm w
  have hx := C.1
  have hb := C.2.1
  have hts := C.2.2.2.2.1
  have hl := lv_entry ([.ref (ad 1)]) (n := 1) (Nat.le_of_ble_eq_true rfl)
  rw [lg_entry_eq]
  generalize (lg_sl ([.ref (ad 1)]) ++ List.replicate (1 - (lg_sl ([.ref (ad 1)])).length) Slot.unset).toArray = ls at hl ⊢
  have hl : lv_has ls 1 [(0, .ref (ad 1))] := hl
  unfold wp_Pa_countWithoutLastGlue at hw
  refine lv_aload_n hx hb d_Pa_countWithoutLastGlue_0 rfl (lv_at hl 0 rfl) ?_
  refine kg (C1 := R_Pa) (T := F_Pa) (N := 10) (ci := 6) (ref := "LineBreaker$Paragraph") (v := .int (S.2.2 73)) C w 1 9 iw_Pa rfl rfl (by decide) kw_53 rfl rfl d_Pa_countWithoutLastGlue_1 ?_
  refine lv_if_le (tgt := 31) hx hb d_Pa_countWithoutLastGlue_4 (by decide) (fun hc => ?_) (fun hc => ?_)
  · have hw := hw.1 hc
    refine lv_aload_n hx hb d_Pa_countWithoutLastGlue_31 rfl (lv_at hl 0 rfl) ?_
    refine kg (C1 := R_Pa) (T := F_Pa) (N := 10) (ci := 6) (ref := "LineBreaker$Paragraph") (v := .int (S.2.2 73)) C w 1 9 iw_Pa rfl rfl (by decide) kw_53 rfl rfl d_Pa_countWithoutLastGlue_32 ?_
    exact ke_i (post := (fun r (u : Unit) => post r)) (st := (fun (u : Unit) => wC K ad S ++ X)) (u := ()) C hr d_Pa_countWithoutLastGlue_35 (wn_eq w rfl) hw
  · have hw := hw.2 hc
    refine lv_aload_n hx hb d_Pa_countWithoutLastGlue_7 rfl (lv_at hl 0 rfl) ?_
    refine kg (C1 := R_Pa) (T := F_Pa) (N := 10) (ci := 6) (ref := "LineBreaker$Paragraph") (v := .ref (ad 2)) C w 1 0 iw_Pa rfl rfl (by decide) kw_35 rfl rfl d_Pa_countWithoutLastGlue_8 ?_
    refine lv_aload_n hx hb d_Pa_countWithoutLastGlue_11 rfl (lv_at hl 0 rfl) ?_
    refine kg (C1 := R_Pa) (T := F_Pa) (N := 10) (ci := 6) (ref := "LineBreaker$Paragraph") (v := .int (S.2.2 73)) C w 1 9 iw_Pa rfl rfl (by decide) kw_53 rfl rfl d_Pa_countWithoutLastGlue_12 ?_
    refine lv_iconst (v := 1) hx hb d_Pa_countWithoutLastGlue_15 (by decide) ?_
    refine lv_isub hx hb d_Pa_countWithoutLastGlue_16 ?_
    refine ka_i (f := (S.1 2)) C w 2 rfl hw.1 d_Pa_countWithoutLastGlue_17 ?_
    have hw := hw.2
    refine lv_iconst (v := 1) hx hb d_Pa_countWithoutLastGlue_18 (by decide) ?_
    refine lv_icmp_ne (tgt := 31) hx hb d_Pa_countWithoutLastGlue_19 (by decide) (fun hc => ?_) (fun hc => ?_)
    · have hw := hw.1 hc
      refine lv_aload_n hx hb d_Pa_countWithoutLastGlue_31 rfl (lv_at hl 0 rfl) ?_
      refine kg (C1 := R_Pa) (T := F_Pa) (N := 10) (ci := 6) (ref := "LineBreaker$Paragraph") (v := .int (S.2.2 73)) C w 1 9 iw_Pa rfl rfl (by decide) kw_53 rfl rfl d_Pa_countWithoutLastGlue_32 ?_
      exact ke_i (post := (fun r (u : Unit) => post r)) (st := (fun (u : Unit) => wC K ad S ++ X)) (u := ()) C hr d_Pa_countWithoutLastGlue_35 (wn_eq w rfl) hw
    · have hw := hw.2 hc
      refine lv_aload_n hx hb d_Pa_countWithoutLastGlue_22 rfl (lv_at hl 0 rfl) ?_
      refine kg (C1 := R_Pa) (T := F_Pa) (N := 10) (ci := 6) (ref := "LineBreaker$Paragraph") (v := .int (S.2.2 73)) C w 1 9 iw_Pa rfl rfl (by decide) kw_53 rfl rfl d_Pa_countWithoutLastGlue_23 ?_
      refine lv_iconst (v := 1) hx hb d_Pa_countWithoutLastGlue_26 (by decide) ?_
      refine lv_isub hx hb d_Pa_countWithoutLastGlue_27 ?_
      refine lv_goto (tgt := 35) hx hb d_Pa_countWithoutLastGlue_28 (by decide) ?_
      exact ke_i (post := (fun r (u : Unit) => post r)) (st := (fun (u : Unit) => wC K ad S ++ X)) (u := ()) C hr d_Pa_countWithoutLastGlue_35 (wn_eq w rfl) hw
set_option maxHeartbeats 4000000 in
set_option maxRecDepth 100000 in
theorem c_Lb_widthOf (l : Launch) (n0 : Nat) (G : va_G) (K : KT) (ad : Nat → Nat) (X : va_W) (S : ST) (p1 : Int32) (post : Int32 → Prop) (hw : wp_Lb_widthOf S p1 post) : Met l y_Lb_widthOf (Cond.code y_Lb_widthOf prog_1_method_25_code 1 (some .int) :: gw) rm_Lb_widthOf (va_Pc [.int p1] (wb n0 G K (wC K ad S ++ X))) (va_Qi (fun r (u : Unit) => post r) (fun (u : Unit) t => we n0 G (wC K ad S ++ X) t) (al n0)) 0 0 (al n0) := by
  refine kb_start (own := "LineBreaker") (by decide +kernel) rfl ?_
  intro p e s m below meth c C hr hnm w
  have hx := C.1
  have hb := C.2.1
  have hts := C.2.2.2.2.1
  have hl := lv_entry ([.int p1]) (n := 1) (Nat.le_of_ble_eq_true rfl)
  rw [lg_entry_eq]
  generalize (lg_sl ([.int p1]) ++ List.replicate (1 - (lg_sl ([.int p1])).length) Slot.unset).toArray = ls at hl ⊢
  have hl : lv_has ls 1 [(0, .int p1)] := hl
  unfold wp_Lb_widthOf at hw
  refine lv_iload_n hx hb d_Lb_widthOf_0 rfl (lv_at hl 0 rfl) ?_
  refine lv_ldc (v := (-1073741824)) hx hb C.2.2.2.1 (hts _ kw_580) d_Lb_widthOf_1 ?_
  refine lv_icmp_ne (tgt := 10) hx hb d_Lb_widthOf_3 (by decide) (fun hc => ?_) (fun hc => ?_)
  · have hw := hw.1 hc
    refine lv_iload_n hx hb d_Lb_widthOf_10 rfl (lv_at hl 0 rfl) ?_
    exact ke_i (post := (fun r (u : Unit) => post r)) (st := (fun (u : Unit) => wC K ad S ++ X)) (u := ()) C hr d_Lb_widthOf_11 (wn_eq w rfl) hw
  · have hw := hw.2 hc
    refine lv_iconst (v := 0) hx hb d_Lb_widthOf_6 (by decide) ?_
    refine lv_goto (tgt := 11) hx hb d_Lb_widthOf_7 (by decide) ?_
    exact ke_i (post := (fun r (u : Unit) => post r)) (st := (fun (u : Unit) => wC K ad S ++ X)) (u := ()) C hr d_Lb_widthOf_11 (wn_eq w rfl) hw
set_option maxHeartbeats 4000000 in
set_option maxRecDepth 100000 in
theorem w_Ga_copyItems_89 {S : ST} {post : (Nat → Int32) → (Nat → Int32) → (Nat → Int32) → (Nat → Int32) → Prop} (C : cx p s m args meth c prog_2_method_7_code 6 "LineBreaker$Galley" n0 G K) (hr : meth.sig.returnType = none) {K3 : (Nat → Int32) → (Nat → Int32) → (Nat → Int32) → (Nat → Int32) → Int32 → Int32 → Prop} (hk3 : ∀ (a18 : (Nat → Int32)) (a19 : (Nat → Int32)) (a22 : (Nat → Int32)) (a23 : (Nat → Int32)) (x3 : Int32) (x4 : Int32), K3 a18 a19 a22 a23 x3 x4 → ∀ (H : Heap) (locs : List Loc) (ls : Array Slot), wn n0 G (wC K ad (sA (sA (sA (sA S 18 a18) 19 a19) 22 a22) 23 a23) ++ X) s H locs → lv_has ls 6 [(0, .ref (ad 17)), (1, .ref (ad 1)), (2, .ref (ad 11)), (3, .int x3), (4, .int x4)] → W p l e rm_Ga_copyItems s m args below meth c H locs 0 0 (MQ below (va_Qv (fun (u : (Nat → Int32) × (Nat → Int32) × (Nat → Int32) × (Nat → Int32)) => post u.1 u.2.1 u.2.2.1 u.2.2.2) (fun (u : (Nat → Int32) × (Nat → Int32) × (Nat → Int32) × (Nat → Int32)) t => we n0 G (wC K ad (sA (sA (sA (sA S 18 u.1) 19 u.2.1) 22 u.2.2.1) 23 u.2.2.2) ++ X) t) (al n0)) args s 0 0 (al n0)) (F0 m 3 ls [])) : ∀ (a18 : (Nat → Int32)) (a19 : (Nat → Int32)) (a22 : (Nat → Int32)) (a23 : (Nat → Int32)) (x3 : Int32) (x4 : Int32), wl_Ga_copyItems_89 S post K3 a18 a19 a22 a23 x3 x4 → ∀ (H : Heap) (locs : List Loc) (ls : Array Slot), wn n0 G (wC K ad (sA (sA (sA (sA S 18 a18) 19 a19) 22 a22) 23 a23) ++ X) s H locs → lv_has ls 6 [(0, .ref (ad 17)), (1, .ref (ad 1)), (2, .ref (ad 11)), (3, .int x3), (4, .int x4)] → W p l e rm_Ga_copyItems s m args below meth c H locs 0 0 (MQ below (va_Qv (fun (u : (Nat → Int32) × (Nat → Int32) × (Nat → Int32) × (Nat → Int32)) => post u.1 u.2.1 u.2.2.1 u.2.2.2) (fun (u : (Nat → Int32) × (Nat → Int32) × (Nat → Int32) × (Nat → Int32)) t => we n0 G (wC K ad (sA (sA (sA (sA S 18 u.1) 19 u.2.1) 22 u.2.2.1) 23 u.2.2.2) ++ X) t) (al n0)) args s 0 0 (al n0)) (F0 m 89 ls []) := by
  have hx := C.1
  have hb := C.2.1
  have hts := C.2.2.2.2.1
  intro a18 a19 a22 a23 x3 x4 hw H locs ls w hl
  unfold wl_Ga_copyItems_89 at hw
  refine lv_aload_n hx hb d_Ga_copyItems_89 rfl (lv_at hl 0 rfl) ?_
  refine kg (C1 := R_Ga) (T := F_Ga) (N := 12) (ci := 0) (ref := "LineBreaker$Galley") (v := .ref (ad 22)) C w 17 4 iw_Ga rfl rfl (by decide) kw_147 rfl rfl d_Ga_copyItems_90 ?_
  refine lv_iload hx hb d_Ga_copyItems_93 (lv_at hl 4 rfl) ?_
  refine lv_aload_n hx hb d_Ga_copyItems_95 rfl (lv_at hl 1 rfl) ?_
  refine kg (C1 := R_Pa) (T := F_Pa) (N := 10) (ci := 6) (ref := "LineBreaker$Paragraph") (v := .ref (ad 8)) C w 1 6 iw_Pa rfl rfl (by decide) kw_48 rfl rfl d_Ga_copyItems_96 ?_
  refine lv_iload hx hb d_Ga_copyItems_99 (lv_at hl 4 rfl) ?_
  refine ka_i (f := (S.1 8)) C w 8 rfl hw.1 d_Ga_copyItems_101 ?_
  have hw := hw.2
  refine kc_i (st := fun (u : Unit) => wC K ad (sA (sA (sA (sA S 18 a18) 19 a19) 22 a22) 23 a23) ++ X) w (kr_N (y := y_Lb_widthOf) (As := [.int ((S.1 8) x4.toNatClampNeg)]) (n := 1) C w (c_Lb_widthOf l n0 G K ad X (sA (sA (sA (sA S 18 a18) 19 a19) 22 a22) 23 a23) ((S.1 8) x4.toNatClampNeg) _ hw) kw_649 C.2.2.2.2.2.2.2.2.2.2 kw_1 kw_648 (by decide +kernel) rfl rfl ⟨Nat.le_of_ble_eq_true rfl, Nat.le_of_ble_eq_true rfl⟩ rfl hl.1 rfl (Nat.le_of_ble_eq_true rfl) d_Ga_copyItems_102 ⟨Nat.le_of_ble_eq_true rfl, Nat.le_of_ble_eq_true rfl⟩) (fun r1 u H locs hw w => ?_)
  obtain ⟨f2, ef2⟩ : ∃ z : Nat → Int32, z = upd a22 x4.toNatClampNeg r1 := ⟨_, rfl⟩
  refine ks_i (f := a22) (w2 := wC K ad (sA (sA (sA (sA S 18 a18) 19 a19) 22 f2) 23 a23) ++ X) C w 22 rfl hw.1 (by rw [← ef2]; rfl) d_Ga_copyItems_105 (fun H locs w => ?_)
  have hw := hw.2 f2 ef2
  refine lv_aload_n hx hb d_Ga_copyItems_106 rfl (lv_at hl 0 rfl) ?_
  refine kg (C1 := R_Ga) (T := F_Ga) (N := 12) (ci := 0) (ref := "LineBreaker$Galley") (v := .ref (ad 23)) C w 17 5 iw_Ga rfl rfl (by decide) kw_149 rfl rfl d_Ga_copyItems_107 ?_
  refine lv_iload hx hb d_Ga_copyItems_110 (lv_at hl 4 rfl) ?_
  refine lv_aload_n hx hb d_Ga_copyItems_112 rfl (lv_at hl 1 rfl) ?_
  refine kg (C1 := R_Pa) (T := F_Pa) (N := 10) (ci := 6) (ref := "LineBreaker$Paragraph") (v := .ref (ad 9)) C w 1 7 iw_Pa rfl rfl (by decide) kw_50 rfl rfl d_Ga_copyItems_113 ?_
  refine lv_iload hx hb d_Ga_copyItems_116 (lv_at hl 4 rfl) ?_
  refine ka_i (f := (S.1 9)) C w 9 rfl hw.1 d_Ga_copyItems_118 ?_
  have hw := hw.2
  refine kc_i (st := fun (u : Unit) => wC K ad (sA (sA (sA (sA S 18 a18) 19 a19) 22 f2) 23 a23) ++ X) w (kr_N (y := y_Lb_widthOf) (As := [.int ((S.1 9) x4.toNatClampNeg)]) (n := 1) C w (c_Lb_widthOf l n0 G K ad X (sA (sA (sA (sA S 18 a18) 19 a19) 22 f2) 23 a23) ((S.1 9) x4.toNatClampNeg) _ hw) kw_649 C.2.2.2.2.2.2.2.2.2.2 kw_1 kw_648 (by decide +kernel) rfl rfl ⟨Nat.le_of_ble_eq_true rfl, Nat.le_of_ble_eq_true rfl⟩ rfl hl.1 rfl (Nat.le_of_ble_eq_true rfl) d_Ga_copyItems_119 ⟨Nat.le_of_ble_eq_true rfl, Nat.le_of_ble_eq_true rfl⟩) (fun r3 u H locs hw w => ?_)
  obtain ⟨f4, ef4⟩ : ∃ z : Nat → Int32, z = upd a23 x4.toNatClampNeg r3 := ⟨_, rfl⟩
  refine ks_i (f := a23) (w2 := wC K ad (sA (sA (sA (sA S 18 a18) 19 a19) 22 f2) 23 f4) ++ X) C w 23 rfl hw.1 (by rw [← ef4]; rfl) d_Ga_copyItems_122 (fun H locs w => ?_)
  have hw := hw.2 f4 ef4
  obtain ⟨v5, ev5⟩ : ∃ y : Int32, y = x4 + 1 := ⟨_, rfl⟩
  refine lv_iinc (v := v5) (lv' := [(4, .int v5), (0, .ref (ad 17)), (1, .ref (ad 1)), (2, .ref (ad 11)), (3, .int x3)]) hx hb d_Ga_copyItems_123 hl (k := 4) rfl (by rw [ev5]; rfl) (by decide) rfl (fun ls hl => ?_)
  have hw := hw v5 ev5
  refine lv_goto (tgt := 3) hx hb d_Ga_copyItems_126 (by decide) ?_
  exact hk3 a18 a19 f2 f4 x3 v5 hw _ _ _ (wn_eq w rfl) (lv_sub hl [1, 2, 3, 4, 0] rfl)
set_option maxHeartbeats 4000000 in
set_option maxRecDepth 100000 in
theorem w_Ga_copyItems_87 {S : ST} {post : (Nat → Int32) → (Nat → Int32) → (Nat → Int32) → (Nat → Int32) → Prop} (C : cx p s m args meth c prog_2_method_7_code 6 "LineBreaker$Galley" n0 G K) (hr : meth.sig.returnType = none) {K3 : (Nat → Int32) → (Nat → Int32) → (Nat → Int32) → (Nat → Int32) → Int32 → Int32 → Prop} (hk3 : ∀ (a18 : (Nat → Int32)) (a19 : (Nat → Int32)) (a22 : (Nat → Int32)) (a23 : (Nat → Int32)) (x3 : Int32) (x4 : Int32), K3 a18 a19 a22 a23 x3 x4 → ∀ (H : Heap) (locs : List Loc) (ls : Array Slot), wn n0 G (wC K ad (sA (sA (sA (sA S 18 a18) 19 a19) 22 a22) 23 a23) ++ X) s H locs → lv_has ls 6 [(0, .ref (ad 17)), (1, .ref (ad 1)), (2, .ref (ad 11)), (3, .int x3), (4, .int x4)] → W p l e rm_Ga_copyItems s m args below meth c H locs 0 0 (MQ below (va_Qv (fun (u : (Nat → Int32) × (Nat → Int32) × (Nat → Int32) × (Nat → Int32)) => post u.1 u.2.1 u.2.2.1 u.2.2.2) (fun (u : (Nat → Int32) × (Nat → Int32) × (Nat → Int32) × (Nat → Int32)) t => we n0 G (wC K ad (sA (sA (sA (sA S 18 u.1) 19 u.2.1) 22 u.2.2.1) 23 u.2.2.2) ++ X) t) (al n0)) args s 0 0 (al n0)) (F0 m 3 ls [])) : ∀ (a18 : (Nat → Int32)) (a19 : (Nat → Int32)) (a22 : (Nat → Int32)) (a23 : (Nat → Int32)) (x3 : Int32) (x4 : Int32) (z1 : Int32) (z3 : Int32), wl_Ga_copyItems_87 S post K3 a18 a19 a22 a23 x3 x4 z1 z3 → ∀ (H : Heap) (locs : List Loc) (ls : Array Slot), wn n0 G (wC K ad (sA (sA (sA (sA S 18 a18) 19 a19) 22 a22) 23 a23) ++ X) s H locs → lv_has ls 6 [(0, .ref (ad 17)), (1, .ref (ad 1)), (2, .ref (ad 11)), (3, .int x3), (4, .int x4)] → W p l e rm_Ga_copyItems s m args below meth c H locs 0 0 (MQ below (va_Qv (fun (u : (Nat → Int32) × (Nat → Int32) × (Nat → Int32) × (Nat → Int32)) => post u.1 u.2.1 u.2.2.1 u.2.2.2) (fun (u : (Nat → Int32) × (Nat → Int32) × (Nat → Int32) × (Nat → Int32)) t => we n0 G (wC K ad (sA (sA (sA (sA S 18 u.1) 19 u.2.1) 22 u.2.2.1) 23 u.2.2.2) ++ X) t) (al n0)) args s 0 0 (al n0)) (F0 m 87 ls [.int z3, .ref (ad 12), .int z1, .ref (ad 19)]) := by
  have hx := C.1
  have hb := C.2.1
  have hts := C.2.2.2.2.1
  intro a18 a19 a22 a23 x3 x4 z1 z3 hw H locs ls w hl
  unfold wl_Ga_copyItems_87 at hw
  refine ka_i (f := (S.1 12)) C w 12 rfl hw.1 d_Ga_copyItems_87 ?_
  have hw := hw.2
  obtain ⟨f1, ef1⟩ : ∃ z : Nat → Int32, z = upd a19 z1.toNatClampNeg ((S.1 12) z3.toNatClampNeg) := ⟨_, rfl⟩
  refine ks_i (f := a19) (w2 := wC K ad (sA (sA (sA (sA S 18 a18) 19 f1) 22 a22) 23 a23) ++ X) C w 19 rfl hw.1 (by rw [← ef1]; rfl) d_Ga_copyItems_88 (fun H locs w => ?_)
  have hw := hw.2 f1 ef1
  exact w_Ga_copyItems_89 C hr hk3 a18 f1 a22 a23 x3 x4 hw _ _ _ (wn_eq w rfl) (lv_sub hl [0, 1, 2, 3, 4] rfl)
set_option maxHeartbeats 4000000 in
set_option maxRecDepth 100000 in
theorem w_Ga_copyItems_65 {S : ST} {post : (Nat → Int32) → (Nat → Int32) → (Nat → Int32) → (Nat → Int32) → Prop} (C : cx p s m args meth c prog_2_method_7_code 6 "LineBreaker$Galley" n0 G K) (hr : meth.sig.returnType = none) {K3 : (Nat → Int32) → (Nat → Int32) → (Nat → Int32) → (Nat → Int32) → Int32 → Int32 → Prop} (hk3 : ∀ (a18 : (Nat → Int32)) (a19 : (Nat → Int32)) (a22 : (Nat → Int32)) (a23 : (Nat → Int32)) (x3 : Int32) (x4 : Int32), K3 a18 a19 a22 a23 x3 x4 → ∀ (H : Heap) (locs : List Loc) (ls : Array Slot), wn n0 G (wC K ad (sA (sA (sA (sA S 18 a18) 19 a19) 22 a22) 23 a23) ++ X) s H locs → lv_has ls 6 [(0, .ref (ad 17)), (1, .ref (ad 1)), (2, .ref (ad 11)), (3, .int x3), (4, .int x4)] → W p l e rm_Ga_copyItems s m args below meth c H locs 0 0 (MQ below (va_Qv (fun (u : (Nat → Int32) × (Nat → Int32) × (Nat → Int32) × (Nat → Int32)) => post u.1 u.2.1 u.2.2.1 u.2.2.2) (fun (u : (Nat → Int32) × (Nat → Int32) × (Nat → Int32) × (Nat → Int32)) t => we n0 G (wC K ad (sA (sA (sA (sA S 18 u.1) 19 u.2.1) 22 u.2.2.1) 23 u.2.2.2) ++ X) t) (al n0)) args s 0 0 (al n0)) (F0 m 3 ls [])) : ∀ (a18 : (Nat → Int32)) (a19 : (Nat → Int32)) (a22 : (Nat → Int32)) (a23 : (Nat → Int32)) (x3 : Int32) (x4 : Int32) (z0 : Int32), wl_Ga_copyItems_65 S post K3 a18 a19 a22 a23 x3 x4 z0 → ∀ (H : Heap) (locs : List Loc) (ls : Array Slot), wn n0 G (wC K ad (sA (sA (sA (sA S 18 a18) 19 a19) 22 a22) 23 a23) ++ X) s H locs → lv_has ls 6 [(0, .ref (ad 17)), (1, .ref (ad 1)), (2, .ref (ad 11)), (3, .int x3), (4, .int x4)] → W p l e rm_Ga_copyItems s m args below meth c H locs 0 0 (MQ below (va_Qv (fun (u : (Nat → Int32) × (Nat → Int32) × (Nat → Int32) × (Nat → Int32)) => post u.1 u.2.1 u.2.2.1 u.2.2.2) (fun (u : (Nat → Int32) × (Nat → Int32) × (Nat → Int32) × (Nat → Int32)) t => we n0 G (wC K ad (sA (sA (sA (sA S 18 u.1) 19 u.2.1) 22 u.2.2.1) 23 u.2.2.2) ++ X) t) (al n0)) args s 0 0 (al n0)) (F0 m 65 ls [.int z0]) := by
  have hx := C.1
  have hb := C.2.1
  have hts := C.2.2.2.2.1
  intro a18 a19 a22 a23 x3 x4 z0 hw H locs ls w hl
  unfold wl_Ga_copyItems_65 at hw
  refine lv_istore (lv' := [(5, .int z0), (0, .ref (ad 17)), (1, .ref (ad 1)), (2, .ref (ad 11)), (3, .int x3), (4, .int x4)]) hx hb d_Ga_copyItems_65 hl (by decide) rfl (fun ls hl => ?_)
  refine lv_aload_n hx hb d_Ga_copyItems_67 rfl (lv_at hl 1 rfl) ?_
  refine kg (C1 := R_Ga) (T := F_Ga) (N := 12) (ci := 0) (ref := "LineBreaker$Galley") (v := .ref (ad 19)) C w 17 1 iw_Ga rfl rfl (by decide) kw_143 rfl rfl d_Ga_copyItems_68 ?_
  refine lv_iload hx hb d_Ga_copyItems_71 (lv_at hl 5 rfl) ?_
  refine lv_aload_n hx hb d_Ga_copyItems_73 rfl (lv_at hl 3 rfl) ?_
  refine kg (C1 := R_St) (T := F_St) (N := 5) (ci := 8) (ref := "LineBreaker$Settings") (v := .ref (ad 12)) C w 11 0 iw_St rfl rfl (by decide) kw_112 rfl rfl d_Ga_copyItems_74 ?_
  refine lv_iload hx hb d_Ga_copyItems_77 (lv_at hl 0 rfl) ?_
  refine lv_if_eq (tgt := 86) hx hb d_Ga_copyItems_79 (by decide) (fun hc => ?_) (fun hc => ?_)
  · have hw := hw.1 hc
    refine lv_iconst (v := 3) hx hb d_Ga_copyItems_86 (by decide) ?_
    exact w_Ga_copyItems_87 C hr hk3 a18 a19 a22 a23 x3 x4 x4 3 hw _ _ _ (wn_eq w rfl) (lv_sub hl [1, 2, 3, 4, 5] rfl)
  · have hw := hw.2 hc
    refine lv_iconst (v := 4) hx hb d_Ga_copyItems_82 (by decide) ?_
    refine lv_goto (tgt := 87) hx hb d_Ga_copyItems_83 (by decide) ?_
    exact w_Ga_copyItems_87 C hr hk3 a18 a19 a22 a23 x3 x4 x4 4 hw _ _ _ (wn_eq w rfl) (lv_sub hl [1, 2, 3, 4, 5] rfl)
set_option maxHeartbeats 4000000 in
set_option maxRecDepth 100000 in
theorem w_Ga_copyItems_3 {S : ST} {post : (Nat → Int32) → (Nat → Int32) → (Nat → Int32) → (Nat → Int32) → Prop} (C : cx p s m args meth c prog_2_method_7_code 6 "LineBreaker$Galley" n0 G K) (hr : meth.sig.returnType = none) : ∀ (n : Nat) (a18 : (Nat → Int32)) (a19 : (Nat → Int32)) (a22 : (Nat → Int32)) (a23 : (Nat → Int32)) (x3 : Int32) (x4 : Int32), wl_Ga_copyItems_3 S post n a18 a19 a22 a23 x3 x4 → ∀ (H : Heap) (locs : List Loc) (ls : Array Slot), wn n0 G (wC K ad (sA (sA (sA (sA S 18 a18) 19 a19) 22 a22) 23 a23) ++ X) s H locs → lv_has ls 6 [(0, .ref (ad 17)), (1, .ref (ad 1)), (2, .ref (ad 11)), (3, .int x3), (4, .int x4)] → W p l e rm_Ga_copyItems s m args below meth c H locs 0 0 (MQ below (va_Qv (fun (u : (Nat → Int32) × (Nat → Int32) × (Nat → Int32) × (Nat → Int32)) => post u.1 u.2.1 u.2.2.1 u.2.2.2) (fun (u : (Nat → Int32) × (Nat → Int32) × (Nat → Int32) × (Nat → Int32)) t => we n0 G (wC K ad (sA (sA (sA (sA S 18 u.1) 19 u.2.1) 22 u.2.2.1) 23 u.2.2.2) ++ X) t) (al n0)) args s 0 0 (al n0)) (F0 m 3 ls []) := by
  have hx := C.1
  have hb := C.2.1
  have hts := C.2.2.2.2.1
  intro n
  induction n with
  | zero =>
    intro a18 a19 a22 a23 x3 x4 hw
    unfold wl_Ga_copyItems_3 at hw
    exact hw.elim
  | succ n ih =>
    intro a18 a19 a22 a23 x3 x4 hw H locs ls w hl
    unfold wl_Ga_copyItems_3 at hw
    refine lv_iload hx hb d_Ga_copyItems_3 (lv_at hl 4 rfl) ?_
    refine lv_iload_n hx hb d_Ga_copyItems_5 rfl (lv_at hl 3 rfl) ?_
    refine lv_icmp_ge (tgt := 129) hx hb d_Ga_copyItems_6 (by decide) (fun hc => ?_) (fun hc => ?_)
    · have hw := hw.1 hc
      exact ke_v (post := (fun (u : (Nat → Int32) × (Nat → Int32) × (Nat → Int32) × (Nat → Int32)) => post u.1 u.2.1 u.2.2.1 u.2.2.2)) (st := (fun (u : (Nat → Int32) × (Nat → Int32) × (Nat → Int32) × (Nat → Int32)) => wC K ad (sA (sA (sA (sA S 18 u.1) 19 u.2.1) 22 u.2.2.1) 23 u.2.2.2) ++ X)) (u := (a18, a19, a22, a23)) C hr d_Ga_copyItems_129 (wn_eq w rfl) hw
    · have hw := hw.2 hc
      refine lv_aload_n hx hb d_Ga_copyItems_9 rfl (lv_at hl 0 rfl) ?_
      refine kg (C1 := R_Ga) (T := F_Ga) (N := 12) (ci := 0) (ref := "LineBreaker$Galley") (v := .ref (ad 18)) C w 17 0 iw_Ga rfl rfl (by decide) kw_142 rfl rfl d_Ga_copyItems_10 ?_
      refine lv_iload hx hb d_Ga_copyItems_13 (lv_at hl 4 rfl) ?_
      refine lv_aload_n hx hb d_Ga_copyItems_15 rfl (lv_at hl 1 rfl) ?_
      refine kg (C1 := R_Pa) (T := F_Pa) (N := 10) (ci := 6) (ref := "LineBreaker$Paragraph") (v := .ref (ad 2)) C w 1 0 iw_Pa rfl rfl (by decide) kw_36 rfl rfl d_Ga_copyItems_16 ?_
      refine lv_iload hx hb d_Ga_copyItems_19 (lv_at hl 4 rfl) ?_
      refine ka_i (f := (S.1 2)) C w 2 rfl hw.1 d_Ga_copyItems_21 ?_
      have hw := hw.2
      obtain ⟨f1, ef1⟩ : ∃ z : Nat → Int32, z = upd a18 x4.toNatClampNeg ((S.1 2) x4.toNatClampNeg) := ⟨_, rfl⟩
      refine ks_i (f := a18) (w2 := wC K ad (sA (sA (sA (sA S 18 f1) 19 a19) 22 a22) 23 a23) ++ X) C w 18 rfl hw.1 (by rw [← ef1]; rfl) d_Ga_copyItems_22 (fun H locs w => ?_)
      have hw := hw.2 f1 ef1
      refine lv_aload_n hx hb d_Ga_copyItems_23 rfl (lv_at hl 0 rfl) ?_
      refine kg (C1 := R_Ga) (T := F_Ga) (N := 12) (ci := 0) (ref := "LineBreaker$Galley") (v := .ref (ad 19)) C w 17 1 iw_Ga rfl rfl (by decide) kw_143 rfl rfl d_Ga_copyItems_24 ?_
      refine lv_iload hx hb d_Ga_copyItems_27 (lv_at hl 4 rfl) ?_
      refine lv_aload_n hx hb d_Ga_copyItems_29 rfl (lv_at hl 1 rfl) ?_
      refine kg (C1 := R_Pa) (T := F_Pa) (N := 10) (ci := 6) (ref := "LineBreaker$Paragraph") (v := .ref (ad 7)) C w 1 5 iw_Pa rfl rfl (by decide) kw_46 rfl rfl d_Ga_copyItems_30 ?_
      refine lv_iload hx hb d_Ga_copyItems_33 (lv_at hl 4 rfl) ?_
      refine ka_i (f := (S.1 7)) C w 7 rfl hw.1 d_Ga_copyItems_35 ?_
      have hw := hw.2
      obtain ⟨f2, ef2⟩ : ∃ z : Nat → Int32, z = upd a19 x4.toNatClampNeg ((S.1 7) x4.toNatClampNeg) := ⟨_, rfl⟩
      refine ks_i (f := a19) (w2 := wC K ad (sA (sA (sA (sA S 18 f1) 19 f2) 22 a22) 23 a23) ++ X) C w 19 rfl hw.1 (by rw [← ef2]; rfl) d_Ga_copyItems_36 (fun H locs w => ?_)
      have hw := hw.2 f2 ef2
      refine lv_aload_n hx hb d_Ga_copyItems_37 rfl (lv_at hl 0 rfl) ?_
      refine kg (C1 := R_Ga) (T := F_Ga) (N := 12) (ci := 0) (ref := "LineBreaker$Galley") (v := .ref (ad 18)) C w 17 0 iw_Ga rfl rfl (by decide) kw_142 rfl rfl d_Ga_copyItems_38 ?_
      refine lv_iload hx hb d_Ga_copyItems_41 (lv_at hl 4 rfl) ?_
      refine ka_i (f := f1) C w 18 rfl hw.1 d_Ga_copyItems_43 ?_
      have hw := hw.2
      refine lv_iconst (v := 5) hx hb d_Ga_copyItems_44 (by decide) ?_
      refine lv_icmp_ne (tgt := 89) hx hb d_Ga_copyItems_45 (by decide) (fun hc => ?_) (fun hc => ?_)
      · have hw := hw.1 hc
        exact w_Ga_copyItems_89 C hr ih f1 f2 a22 a23 x3 x4 hw _ _ _ (wn_eq w rfl) (lv_sub hl [0, 1, 2, 3, 4] rfl)
      · have hw := hw.2 hc
        refine lv_aload_n hx hb d_Ga_copyItems_48 rfl (lv_at hl 1 rfl) ?_
        refine kg (C1 := R_Pa) (T := F_Pa) (N := 10) (ci := 6) (ref := "LineBreaker$Paragraph") (v := .ref (ad 8)) C w 1 6 iw_Pa rfl rfl (by decide) kw_48 rfl rfl d_Ga_copyItems_49 ?_
        refine lv_iload hx hb d_Ga_copyItems_52 (lv_at hl 4 rfl) ?_
        refine ka_i (f := (S.1 8)) C w 8 rfl hw.1 d_Ga_copyItems_54 ?_
        have hw := hw.2
        refine lv_ldc (v := (-1073741824)) hx hb C.2.2.2.1 (hts _ kw_677) d_Ga_copyItems_55 ?_
        refine lv_icmp_ne (tgt := 64) hx hb d_Ga_copyItems_57 (by decide) (fun hc => ?_) (fun hc => ?_)
        · have hw := hw.1 hc
          refine lv_iconst (v := 0) hx hb d_Ga_copyItems_64 (by decide) ?_
          exact w_Ga_copyItems_65 C hr ih f1 f2 a22 a23 x3 x4 0 hw _ _ _ (wn_eq w rfl) (lv_sub hl [0, 1, 2, 3, 4] rfl)
        · have hw := hw.2 hc
          refine lv_iconst (v := 1) hx hb d_Ga_copyItems_60 (by decide) ?_
          refine lv_goto (tgt := 65) hx hb d_Ga_copyItems_61 (by decide) ?_
          exact w_Ga_copyItems_65 C hr ih f1 f2 a22 a23 x3 x4 1 hw _ _ _ (wn_eq w rfl) (lv_sub hl [0, 1, 2, 3, 4] rfl)
set_option maxHeartbeats 4000000 in
set_option maxRecDepth 100000 in
theorem c_Ga_copyItems (l : Launch) (n0 : Nat) (G : va_G) (K : KT) (ad : Nat → Nat) (X : va_W) (S : ST) (p3 : Int32) (post : (Nat → Int32) → (Nat → Int32) → (Nat → Int32) → (Nat → Int32) → Prop) (hw : wp_Ga_copyItems S p3 post) : Met l y_Ga_copyItems (Cond.code y_Ga_copyItems prog_2_method_7_code 6 none :: gw) rm_Ga_copyItems (va_Pc [.ref (ad 17), .ref (ad 1), .ref (ad 11), .int p3] (wb n0 G K (wC K ad S ++ X))) (va_Qv (fun (u : (Nat → Int32) × (Nat → Int32) × (Nat → Int32) × (Nat → Int32)) => post u.1 u.2.1 u.2.2.1 u.2.2.2) (fun (u : (Nat → Int32) × (Nat → Int32) × (Nat → Int32) × (Nat → Int32)) t => we n0 G (wC K ad (sA (sA (sA (sA S 18 u.1) 19 u.2.1) 22 u.2.2.1) 23 u.2.2.2) ++ X) t) (al n0)) 0 0 (al n0) := by
  refine kb_start (own := "LineBreaker$Galley") (by decide +kernel) rfl ?_
  intro p e s m below meth c C hr hnm w
  have hx := C.1
  have hb := C.2.1
  have hts := C.2.2.2.2.1
  have hl := lv_entry ([.ref (ad 17), .ref (ad 1), .ref (ad 11), .int p3]) (n := 6) (Nat.le_of_ble_eq_true rfl)
  rw [lg_entry_eq]
  generalize (lg_sl ([.ref (ad 17), .ref (ad 1), .ref (ad 11), .int p3]) ++ List.replicate (6 - (lg_sl ([.ref (ad 17), .ref (ad 1), .ref (ad 11), .int p3])).length) Slot.unset).toArray = ls at hl ⊢
  have hl : lv_has ls 6 [(0, .ref (ad 17)), (1, .ref (ad 1)), (2, .ref (ad 11)), (3, .int p3)] := hl
  unfold wp_Ga_copyItems at hw
  refine lv_iconst (v := 0) hx hb d_Ga_copyItems_0 (by decide) ?_
  refine lv_istore (lv' := [(4, .int 0), (0, .ref (ad 17)), (1, .ref (ad 1)), (2, .ref (ad 11)), (3, .int p3)]) hx hb d_Ga_copyItems_1 hl (by decide) rfl (fun ls hl => ?_)
  obtain ⟨n9, hw⟩ := hw
  exact w_Ga_copyItems_3 C hr  n9 (S.1 18) (S.1 19) (S.1 22) (S.1 23) p3 0 hw _ _ _ (wn_eq w rfl) (lv_sub hl [1, 2, 3, 4, 0] rfl)
set_option maxHeartbeats 4000000 in
set_option maxRecDepth 100000 in
theorem w_Ga_close_58 {S : ST} {post : (Nat → Int32) → (Nat → Int32) → (Nat → Int32) → (Nat → Int32) → Prop} (C : cx p s m args meth c prog_2_method_8_code 3 "LineBreaker$Galley" n0 G K) (hr : meth.sig.returnType = none) : ∀ (n : Nat) (a18 : (Nat → Int32)) (a19 : (Nat → Int32)) (a22 : (Nat → Int32)) (a23 : (Nat → Int32)) (x2 : Int32), wl_Ga_close_58 S post n a18 a19 a22 a23 x2 → ∀ (H : Heap) (locs : List Loc) (ls : Array Slot), wn n0 G (wC K ad (sA (sA (sA (sA S 18 a18) 19 a19) 22 a22) 23 a23) ++ X) s H locs → lv_has ls 3 [(0, .ref (ad 17)), (2, .int x2)] → W p l e rm_Ga_close s m args below meth c H locs 0 0 (MQ below (va_Qv (fun (u : (Nat → Int32) × (Nat → Int32) × (Nat → Int32) × (Nat → Int32)) => post u.1 u.2.1 u.2.2.1 u.2.2.2) (fun (u : (Nat → Int32) × (Nat → Int32) × (Nat → Int32) × (Nat → Int32)) t => we n0 G (wC K ad (sA (sA (sA (sA S 18 u.1) 19 u.2.1) 22 u.2.2.1) 23 u.2.2.2) ++ X) t) (al n0)) args s 0 0 (al n0)) (F0 m 58 ls []) := by
  have hx := C.1
  have hb := C.2.1
  have hts := C.2.2.2.2.1
  intro n
  induction n with
  | zero =>
    intro a18 a19 a22 a23 x2 hw
    unfold wl_Ga_close_58 at hw
    exact hw.elim
  | succ n ih =>
    intro a18 a19 a22 a23 x2 hw H locs ls w hl
    unfold wl_Ga_close_58 at hw
    refine lv_iload_n hx hb d_Ga_close_58 rfl (lv_at hl 1 rfl) ?_
    refine lv_aload_n hx hb d_Ga_close_59 rfl (lv_at hl 0 rfl) ?_
    refine kg (C1 := R_Ga) (T := F_Ga) (N := 12) (ci := 0) (ref := "LineBreaker$Galley") (v := .int (S.2.2 1099)) C w 17 11 iw_Ga rfl rfl (by decide) kw_159 rfl rfl d_Ga_close_60 ?_
    refine lv_icmp_gt (tgt := 86) hx hb d_Ga_close_63 (by decide) (fun hc => ?_) (fun hc => ?_)
    · have hw := hw.1 hc
      exact ke_v (post := (fun (u : (Nat → Int32) × (Nat → Int32) × (Nat → Int32) × (Nat → Int32)) => post u.1 u.2.1 u.2.2.1 u.2.2.2)) (st := (fun (u : (Nat → Int32) × (Nat → Int32) × (Nat → Int32) × (Nat → Int32)) => wC K ad (sA (sA (sA (sA S 18 u.1) 19 u.2.1) 22 u.2.2.1) 23 u.2.2.2) ++ X)) (u := (a18, a19, a22, a23)) C hr d_Ga_close_86 (wn_eq w rfl) hw
    · have hw := hw.2 hc
      refine lv_aload_n hx hb d_Ga_close_66 rfl (lv_at hl 0 rfl) ?_
      refine kg (C1 := R_Ga) (T := F_Ga) (N := 12) (ci := 0) (ref := "LineBreaker$Galley") (v := .ref (ad 22)) C w 17 4 iw_Ga rfl rfl (by decide) kw_147 rfl rfl d_Ga_close_67 ?_
      refine lv_iload_n hx hb d_Ga_close_70 rfl (lv_at hl 1 rfl) ?_
      refine lv_iconst (v := 0) hx hb d_Ga_close_71 (by decide) ?_
      obtain ⟨f1, ef1⟩ : ∃ z : Nat → Int32, z = upd a22 x2.toNatClampNeg 0 := ⟨_, rfl⟩
      refine ks_i (f := a22) (w2 := wC K ad (sA (sA (sA (sA S 18 a18) 19 a19) 22 f1) 23 a23) ++ X) C w 22 rfl hw.1 (by rw [← ef1]; rfl) d_Ga_close_72 (fun H locs w => ?_)
      have hw := hw.2 f1 ef1
      refine lv_aload_n hx hb d_Ga_close_73 rfl (lv_at hl 0 rfl) ?_
      refine kg (C1 := R_Ga) (T := F_Ga) (N := 12) (ci := 0) (ref := "LineBreaker$Galley") (v := .ref (ad 23)) C w 17 5 iw_Ga rfl rfl (by decide) kw_149 rfl rfl d_Ga_close_74 ?_
      refine lv_iload_n hx hb d_Ga_close_77 rfl (lv_at hl 1 rfl) ?_
      refine lv_iconst (v := 0) hx hb d_Ga_close_78 (by decide) ?_
      obtain ⟨f2, ef2⟩ : ∃ z : Nat → Int32, z = upd a23 x2.toNatClampNeg 0 := ⟨_, rfl⟩
      refine ks_i (f := a23) (w2 := wC K ad (sA (sA (sA (sA S 18 a18) 19 a19) 22 f1) 23 f2) ++ X) C w 23 rfl hw.1 (by rw [← ef2]; rfl) d_Ga_close_79 (fun H locs w => ?_)
      have hw := hw.2 f2 ef2
      obtain ⟨v3, ev3⟩ : ∃ y : Int32, y = x2 + 1 := ⟨_, rfl⟩
      refine lv_iinc (v := v3) (lv' := [(2, .int v3), (0, .ref (ad 17))]) hx hb d_Ga_close_80 hl (k := 1) rfl (by rw [ev3]; rfl) (by decide) rfl (fun ls hl => ?_)
      have hw := hw v3 ev3
      refine lv_goto (tgt := 58) hx hb d_Ga_close_83 (by decide) ?_
      exact ih a18 a19 f1 f2 v3 hw _ _ _ (wn_eq w rfl) (lv_sub hl [1, 0] rfl)
set_option maxHeartbeats 4000000 in
set_option maxRecDepth 100000 in
theorem c_Ga_close (l : Launch) (n0 : Nat) (G : va_G) (K : KT) (ad : Nat → Nat) (X : va_W) (S : ST) (p1 : Int32) (post : (Nat → Int32) → (Nat → Int32) → (Nat → Int32) → (Nat → Int32) → Prop) (hw : wp_Ga_close S p1 post) : Met l y_Ga_close (Cond.code y_Ga_close prog_2_method_8_code 3 none :: gw) rm_Ga_close (va_Pc [.ref (ad 17), .int p1] (wb n0 G K (wC K ad S ++ X))) (va_Qv (fun (u : (Nat → Int32) × (Nat → Int32) × (Nat → Int32) × (Nat → Int32)) => post u.1 u.2.1 u.2.2.1 u.2.2.2) (fun (u : (Nat → Int32) × (Nat → Int32) × (Nat → Int32) × (Nat → Int32)) t => we n0 G (wC K ad (sA (sA (sA (sA S 18 u.1) 19 u.2.1) 22 u.2.2.1) 23 u.2.2.2) ++ X) t) (al n0)) 0 0 (al n0) := by
  refine kb_start (own := "LineBreaker$Galley") (by decide +kernel) rfl ?_
  intro p e s m below meth c C hr hnm w
  have hx := C.1
  have hb := C.2.1
  have hts := C.2.2.2.2.1
  have hl := lv_entry ([.ref (ad 17), .int p1]) (n := 3) (Nat.le_of_ble_eq_true rfl)
  rw [lg_entry_eq]
  generalize (lg_sl ([.ref (ad 17), .int p1]) ++ List.replicate (3 - (lg_sl ([.ref (ad 17), .int p1])).length) Slot.unset).toArray = ls at hl ⊢
  have hl : lv_has ls 3 [(0, .ref (ad 17)), (1, .int p1)] := hl
  unfold wp_Ga_close at hw
  refine lv_aload_n hx hb d_Ga_close_0 rfl (lv_at hl 0 rfl) ?_
  refine kg (C1 := R_Ga) (T := F_Ga) (N := 12) (ci := 0) (ref := "LineBreaker$Galley") (v := .ref (ad 18)) C w 17 0 iw_Ga rfl rfl (by decide) kw_142 rfl rfl d_Ga_close_1 ?_
  refine lv_iload_n hx hb d_Ga_close_4 rfl (lv_at hl 1 rfl) ?_
  refine lv_iconst (v := 4) hx hb d_Ga_close_5 (by decide) ?_
  obtain ⟨f1, ef1⟩ : ∃ z : Nat → Int32, z = upd (S.1 18) p1.toNatClampNeg 4 := ⟨_, rfl⟩
  refine ks_i (f := (S.1 18)) (w2 := wC K ad (sA S 18 f1) ++ X) C w 18 rfl hw.1 (by rw [← ef1]; rfl) d_Ga_close_6 (fun H locs w => ?_)
  have hw := hw.2 f1 ef1
  refine lv_aload_n hx hb d_Ga_close_7 rfl (lv_at hl 0 rfl) ?_
  refine kg (C1 := R_Ga) (T := F_Ga) (N := 12) (ci := 0) (ref := "LineBreaker$Galley") (v := .ref (ad 19)) C w 17 1 iw_Ga rfl rfl (by decide) kw_143 rfl rfl d_Ga_close_8 ?_
  refine lv_iload_n hx hb d_Ga_close_11 rfl (lv_at hl 1 rfl) ?_
  refine lv_sipush (v := 10000) hx hb d_Ga_close_12 (by decide) ?_
  obtain ⟨f2, ef2⟩ : ∃ z : Nat → Int32, z = upd (S.1 19) p1.toNatClampNeg 10000 := ⟨_, rfl⟩
  refine ks_i (f := (S.1 19)) (w2 := wC K ad (sA (sA S 18 f1) 19 f2) ++ X) C w 19 rfl hw.1 (by rw [← ef2]; rfl) d_Ga_close_15 (fun H locs w => ?_)
  have hw := hw.2 f2 ef2
  refine lv_aload_n hx hb d_Ga_close_16 rfl (lv_at hl 0 rfl) ?_
  refine kg (C1 := R_Ga) (T := F_Ga) (N := 12) (ci := 0) (ref := "LineBreaker$Galley") (v := .ref (ad 18)) C w 17 0 iw_Ga rfl rfl (by decide) kw_142 rfl rfl d_Ga_close_17 ?_
  refine lv_iload_n hx hb d_Ga_close_20 rfl (lv_at hl 1 rfl) ?_
  refine lv_iconst (v := 1) hx hb d_Ga_close_21 (by decide) ?_
  refine lv_iadd hx hb d_Ga_close_22 ?_
  refine lv_iconst (v := 1) hx hb d_Ga_close_23 (by decide) ?_
  obtain ⟨f3, ef3⟩ : ∃ z : Nat → Int32, z = upd f1 ((p1 + 1).toNatClampNeg) 1 := ⟨_, rfl⟩
  refine ks_i (f := f1) (w2 := wC K ad (sA (sA S 18 f3) 19 f2) ++ X) C w 18 rfl hw.1 (by rw [← ef3]; rfl) d_Ga_close_24 (fun H locs w => ?_)
  have hw := hw.2 f3 ef3
  refine lv_aload_n hx hb d_Ga_close_25 rfl (lv_at hl 0 rfl) ?_
  refine kg (C1 := R_Ga) (T := F_Ga) (N := 12) (ci := 0) (ref := "LineBreaker$Galley") (v := .ref (ad 19)) C w 17 1 iw_Ga rfl rfl (by decide) kw_143 rfl rfl d_Ga_close_26 ?_
  refine lv_iload_n hx hb d_Ga_close_29 rfl (lv_at hl 1 rfl) ?_
  refine lv_iconst (v := 1) hx hb d_Ga_close_30 (by decide) ?_
  refine lv_iadd hx hb d_Ga_close_31 ?_
  refine lv_iconst (v := 0) hx hb d_Ga_close_32 (by decide) ?_
  obtain ⟨f4, ef4⟩ : ∃ z : Nat → Int32, z = upd f2 ((p1 + 1).toNatClampNeg) 0 := ⟨_, rfl⟩
  refine ks_i (f := f2) (w2 := wC K ad (sA (sA S 18 f3) 19 f4) ++ X) C w 19 rfl hw.1 (by rw [← ef4]; rfl) d_Ga_close_33 (fun H locs w => ?_)
  have hw := hw.2 f4 ef4
  refine lv_aload_n hx hb d_Ga_close_34 rfl (lv_at hl 0 rfl) ?_
  refine kg (C1 := R_Ga) (T := F_Ga) (N := 12) (ci := 0) (ref := "LineBreaker$Galley") (v := .ref (ad 18)) C w 17 0 iw_Ga rfl rfl (by decide) kw_142 rfl rfl d_Ga_close_35 ?_
  refine lv_aload_n hx hb d_Ga_close_38 rfl (lv_at hl 0 rfl) ?_
  refine kg (C1 := R_Ga) (T := F_Ga) (N := 12) (ci := 0) (ref := "LineBreaker$Galley") (v := .int (S.2.2 1099)) C w 17 11 iw_Ga rfl rfl (by decide) kw_159 rfl rfl d_Ga_close_39 ?_
  refine lv_iconst (v := 4) hx hb d_Ga_close_42 (by decide) ?_
  obtain ⟨f5, ef5⟩ : ∃ z : Nat → Int32, z = upd f3 ((S.2.2 1099).toNatClampNeg) 4 := ⟨_, rfl⟩
  refine ks_i (f := f3) (w2 := wC K ad (sA (sA S 18 f5) 19 f4) ++ X) C w 18 rfl hw.1 (by rw [← ef5]; rfl) d_Ga_close_43 (fun H locs w => ?_)
  have hw := hw.2 f5 ef5
  refine lv_aload_n hx hb d_Ga_close_44 rfl (lv_at hl 0 rfl) ?_
  refine kg (C1 := R_Ga) (T := F_Ga) (N := 12) (ci := 0) (ref := "LineBreaker$Galley") (v := .ref (ad 19)) C w 17 1 iw_Ga rfl rfl (by decide) kw_143 rfl rfl d_Ga_close_45 ?_
  refine lv_aload_n hx hb d_Ga_close_48 rfl (lv_at hl 0 rfl) ?_
  refine kg (C1 := R_Ga) (T := F_Ga) (N := 12) (ci := 0) (ref := "LineBreaker$Galley") (v := .int (S.2.2 1099)) C w 17 11 iw_Ga rfl rfl (by decide) kw_159 rfl rfl d_Ga_close_49 ?_
  refine lv_sipush (v := (-10000)) hx hb d_Ga_close_52 (by decide) ?_
  obtain ⟨f6, ef6⟩ : ∃ z : Nat → Int32, z = upd f4 ((S.2.2 1099).toNatClampNeg) (-10000) := ⟨_, rfl⟩
  refine ks_i (f := f4) (w2 := wC K ad (sA (sA S 18 f5) 19 f6) ++ X) C w 19 rfl hw.1 (by rw [← ef6]; rfl) d_Ga_close_55 (fun H locs w => ?_)
  have hw := hw.2 f6 ef6
  refine lv_iload_n hx hb d_Ga_close_56 rfl (lv_at hl 1 rfl) ?_
  refine lv_istore_n (lv' := [(2, .int p1), (0, .ref (ad 17)), (1, .int p1)]) hx hb d_Ga_close_57 rfl hl (by decide) rfl (fun ls hl => ?_)
  obtain ⟨n9, hw⟩ := hw
  exact w_Ga_close_58 C hr  n9 f5 f6 (S.1 22) (S.1 23) p1 hw _ _ _ (wn_eq w rfl) (lv_sub hl [1, 0] rfl)
set_option maxHeartbeats 4000000 in
set_option maxRecDepth 100000 in
theorem c_Gl_finiteStretch_16 (l : Launch) (n0 : Nat) (G : va_G) (K : KT) (ad : Nat → Nat) (X : va_W) (S : ST) (post : Int32 → Prop) (hw : wp_Gl_finiteStretch_16 S  post) : Met l y_Gl_finiteStretch (Cond.code y_Gl_finiteStretch prog_4_method_3_code 1 (some .int) :: gw) rm_Gl_finiteStretch_16 (va_Pc [.ref (ad 16)] (wb n0 G K (wC K ad S ++ X))) (va_Qi (fun r (u : Unit) => post r) (fun (u : Unit) t => we n0 G (wC K ad S ++ X) t) (al n0)) 0 0 (al n0) := by
  refine kb_start (own := "LineBreaker$Glue") (by decide +kernel) rfl ?_
  intro p e s m below meth c C hr hnm w
  have hx := C.1
  have hb := C.2.1
  have hts := C.2.2.2.2.1
  have hl := lv_entry ([.ref (ad 16)]) (n := 1) (Nat.le_of_ble_eq_true rfl)
  rw [lg_entry_eq]
  generalize (lg_sl ([.ref (ad 16)]) ++ List.replicate (1 - (lg_sl ([.ref (ad 16)])).length) Slot.unset).toArray = ls at hl ⊢
  have hl : lv_has ls 1 [(0, .ref (ad 16))] := hl
  unfold wp_Gl_finiteStretch_16 at hw
  refine lv_aload_n hx hb d_Gl_finiteStretch_0 rfl (lv_at hl 0 rfl) ?_
  refine kg (C1 := R_Gl) (T := F_Gl) (N := 4) (ci := 2) (ref := "LineBreaker$Glue") (v := .int (S.2.2 1026)) C w 16 2 iw_Gl rfl rfl (by decide) kw_95 rfl rfl d_Gl_finiteStretch_1 ?_
  refine lv_if_ne (tgt := 14) hx hb d_Gl_finiteStretch_4 (by decide) (fun hc => ?_) (fun hc => ?_)
  · have hw := hw.1 hc
    refine lv_iconst (v := 0) hx hb d_Gl_finiteStretch_14 (by decide) ?_
    exact ke_i (post := (fun r (u : Unit) => post r)) (st := (fun (u : Unit) => wC K ad S ++ X)) (u := ()) C hr d_Gl_finiteStretch_15 (wn_eq w rfl) hw
  · have hw := hw.2 hc
    refine lv_aload_n hx hb d_Gl_finiteStretch_7 rfl (lv_at hl 0 rfl) ?_
    refine kg (C1 := R_Gl) (T := F_Gl) (N := 4) (ci := 2) (ref := "LineBreaker$Glue") (v := .int (S.2.2 1025)) C w 16 1 iw_Gl rfl rfl (by decide) kw_93 rfl rfl d_Gl_finiteStretch_8 ?_
    refine lv_goto (tgt := 15) hx hb d_Gl_finiteStretch_11 (by decide) ?_
    exact ke_i (post := (fun r (u : Unit) => post r)) (st := (fun (u : Unit) => wC K ad S ++ X)) (u := ()) C hr d_Gl_finiteStretch_15 (wn_eq w rfl) hw
set_option maxHeartbeats 4000000 in
set_option maxRecDepth 100000 in
theorem c_Gl_endlessStretch_16 (l : Launch) (n0 : Nat) (G : va_G) (K : KT) (ad : Nat → Nat) (X : va_W) (S : ST) (post : Int32 → Prop) (hw : wp_Gl_endlessStretch_16 S  post) : Met l y_Gl_endlessStretch (Cond.code y_Gl_endlessStretch prog_4_method_4_code 1 (some .int) :: gw) rm_Gl_endlessStretch_16 (va_Pc [.ref (ad 16)] (wb n0 G K (wC K ad S ++ X))) (va_Qi (fun r (u : Unit) => post r) (fun (u : Unit) t => we n0 G (wC K ad S ++ X) t) (al n0)) 0 0 (al n0) := by
  refine kb_start (own := "LineBreaker$Glue") (by decide +kernel) rfl ?_
  intro p e s m below meth c C hr hnm w
  have hx := C.1
  have hb := C.2.1
  have hts := C.2.2.2.2.1
  have hl := lv_entry ([.ref (ad 16)]) (n := 1) (Nat.le_of_ble_eq_true rfl)
  rw [lg_entry_eq]
  generalize (lg_sl ([.ref (ad 16)]) ++ List.replicate (1 - (lg_sl ([.ref (ad 16)])).length) Slot.unset).toArray = ls at hl ⊢
  have hl : lv_has ls 1 [(0, .ref (ad 16))] := hl
  unfold wp_Gl_endlessStretch_16 at hw
  refine lv_aload_n hx hb d_Gl_endlessStretch_0 rfl (lv_at hl 0 rfl) ?_
  refine kg (C1 := R_Gl) (T := F_Gl) (N := 4) (ci := 2) (ref := "LineBreaker$Glue") (v := .int (S.2.2 1026)) C w 16 2 iw_Gl rfl rfl (by decide) kw_95 rfl rfl d_Gl_endlessStretch_1 ?_
  refine lv_if_ne (tgt := 11) hx hb d_Gl_endlessStretch_4 (by decide) (fun hc => ?_) (fun hc => ?_)
  · have hw := hw.1 hc
    refine lv_aload_n hx hb d_Gl_endlessStretch_11 rfl (lv_at hl 0 rfl) ?_
    refine kg (C1 := R_Gl) (T := F_Gl) (N := 4) (ci := 2) (ref := "LineBreaker$Glue") (v := .int (S.2.2 1025)) C w 16 1 iw_Gl rfl rfl (by decide) kw_93 rfl rfl d_Gl_endlessStretch_12 ?_
    exact ke_i (post := (fun r (u : Unit) => post r)) (st := (fun (u : Unit) => wC K ad S ++ X)) (u := ()) C hr d_Gl_endlessStretch_15 (wn_eq w rfl) hw
  · have hw := hw.2 hc
    refine lv_iconst (v := 0) hx hb d_Gl_endlessStretch_7 (by decide) ?_
    refine lv_goto (tgt := 15) hx hb d_Gl_endlessStretch_8 (by decide) ?_
    exact ke_i (post := (fun r (u : Unit) => post r)) (st := (fun (u : Unit) => wC K ad S ++ X)) (u := ()) C hr d_Gl_endlessStretch_15 (wn_eq w rfl) hw
set_option maxHeartbeats 4000000 in
set_option maxRecDepth 100000 in
theorem w_Ga_sumUp_113 {S : ST} {post : (Nat → Int32) → (Nat → Int32) → (Nat → Int32) → (Nat → Int32) → Prop} (C : cx p s m args meth c prog_2_method_9_code 7 "LineBreaker$Galley" n0 G K) (hr : meth.sig.returnType = none) {K3 : (Nat → Int32) → (Nat → Int32) → (Nat → Int32) → (Nat → Int32) → Int32 → Int32 → Prop} (hk3 : ∀ (a24 : (Nat → Int32)) (a25 : (Nat → Int32)) (a26 : (Nat → Int32)) (a27 : (Nat → Int32)) (x3 : Int32) (x4 : Int32), K3 a24 a25 a26 a27 x3 x4 → ∀ (H : Heap) (locs : List Loc) (ls : Array Slot), wn n0 G (wC K ad (sA (sA (sA (sA S 24 a24) 25 a25) 26 a26) 27 a27) ++ X) s H locs → lv_has ls 7 [(0, .ref (ad 17)), (1, .ref (ad 1)), (2, .ref (ad 16)), (3, .int x3), (4, .int x4)] → W p l e rm_Ga_sumUp s m args below meth c H locs 0 0 (MQ below (va_Qv (fun (u : (Nat → Int32) × (Nat → Int32) × (Nat → Int32) × (Nat → Int32)) => post u.1 u.2.1 u.2.2.1 u.2.2.2) (fun (u : (Nat → Int32) × (Nat → Int32) × (Nat → Int32) × (Nat → Int32)) t => we n0 G (wC K ad (sA (sA (sA (sA S 24 u.1) 25 u.2.1) 26 u.2.2.1) 27 u.2.2.2) ++ X) t) (al n0)) args s 0 0 (al n0)) (F0 m 3 ls [])) : ∀ (a24 : (Nat → Int32)) (a25 : (Nat → Int32)) (a26 : (Nat → Int32)) (a27 : (Nat → Int32)) (x3 : Int32) (x4 : Int32) (z1 : Int32) (z2 : Int32) (z3 : Int32), wl_Ga_sumUp_113 S post K3 a24 a25 a26 a27 x3 x4 z1 z2 z3 → ∀ (H : Heap) (locs : List Loc) (ls : Array Slot), wn n0 G (wC K ad (sA (sA (sA (sA S 24 a24) 25 a25) 26 a26) 27 a27) ++ X) s H locs → lv_has ls 7 [(0, .ref (ad 17)), (1, .ref (ad 1)), (2, .ref (ad 16)), (3, .int x3), (4, .int x4)] → W p l e rm_Ga_sumUp s m args below meth c H locs 0 0 (MQ below (va_Qv (fun (u : (Nat → Int32) × (Nat → Int32) × (Nat → Int32) × (Nat → Int32)) => post u.1 u.2.1 u.2.2.1 u.2.2.2) (fun (u : (Nat → Int32) × (Nat → Int32) × (Nat → Int32) × (Nat → Int32)) t => we n0 G (wC K ad (sA (sA (sA (sA S 24 u.1) 25 u.2.1) 26 u.2.2.1) 27 u.2.2.2) ++ X) t) (al n0)) args s 0 0 (al n0)) (F0 m 113 ls [.int z3, .int z2, .int z1, .ref (ad 26)]) := by
  have hx := C.1
  have hb := C.2.1
  have hts := C.2.2.2.2.1
  intro a24 a25 a26 a27 x3 x4 z1 z2 z3 hw H locs ls w hl
  unfold wl_Ga_sumUp_113 at hw
  refine lv_iadd hx hb d_Ga_sumUp_113 ?_
  obtain ⟨f1, ef1⟩ : ∃ z : Nat → Int32, z = upd a26 z1.toNatClampNeg (z2 + z3) := ⟨_, rfl⟩
  refine ks_i (f := a26) (w2 := wC K ad (sA (sA (sA (sA S 24 a24) 25 a25) 26 f1) 27 a27) ++ X) C w 26 rfl hw.1 (by rw [← ef1]; rfl) d_Ga_sumUp_114 (fun H locs w => ?_)
  have hw := hw.2 f1 ef1
  refine lv_aload_n hx hb d_Ga_sumUp_115 rfl (lv_at hl 0 rfl) ?_
  refine kg (C1 := R_Ga) (T := F_Ga) (N := 12) (ci := 0) (ref := "LineBreaker$Galley") (v := .ref (ad 27)) C w 17 9 iw_Ga rfl rfl (by decide) kw_156 rfl rfl d_Ga_sumUp_116 ?_
  refine lv_iload hx hb d_Ga_sumUp_119 (lv_at hl 4 rfl) ?_
  refine lv_iconst (v := 1) hx hb d_Ga_sumUp_121 (by decide) ?_
  refine lv_iadd hx hb d_Ga_sumUp_122 ?_
  refine lv_aload_n hx hb d_Ga_sumUp_123 rfl (lv_at hl 0 rfl) ?_
  refine kg (C1 := R_Ga) (T := F_Ga) (N := 12) (ci := 0) (ref := "LineBreaker$Galley") (v := .ref (ad 27)) C w 17 9 iw_Ga rfl rfl (by decide) kw_156 rfl rfl d_Ga_sumUp_124 ?_
  refine lv_iload hx hb d_Ga_sumUp_127 (lv_at hl 4 rfl) ?_
  refine ka_i (f := a27) C w 27 rfl hw.1 d_Ga_sumUp_129 ?_
  have hw := hw.2
  refine lv_aload_n hx hb d_Ga_sumUp_130 rfl (lv_at hl 1 rfl) ?_
  refine kg (C1 := R_Pa) (T := F_Pa) (N := 10) (ci := 6) (ref := "LineBreaker$Paragraph") (v := .ref (ad 6)) C w 1 4 iw_Pa rfl rfl (by decide) kw_44 rfl rfl d_Ga_sumUp_131 ?_
  refine lv_iload hx hb d_Ga_sumUp_134 (lv_at hl 4 rfl) ?_
  refine ka_i (f := (S.1 6)) C w 6 rfl hw.1 d_Ga_sumUp_136 ?_
  have hw := hw.2
  refine lv_iadd hx hb d_Ga_sumUp_137 ?_
  obtain ⟨f2, ef2⟩ : ∃ z : Nat → Int32, z = upd a27 ((x4 + 1).toNatClampNeg) ((a27 x4.toNatClampNeg) + ((S.1 6) x4.toNatClampNeg)) := ⟨_, rfl⟩
  refine ks_i (f := a27) (w2 := wC K ad (sA (sA (sA (sA S 24 a24) 25 a25) 26 f1) 27 f2) ++ X) C w 27 rfl hw.1 (by rw [← ef2]; rfl) d_Ga_sumUp_138 (fun H locs w => ?_)
  have hw := hw.2 f2 ef2
  obtain ⟨v3, ev3⟩ : ∃ y : Int32, y = x4 + 1 := ⟨_, rfl⟩
  refine lv_iinc (v := v3) (lv' := [(4, .int v3), (0, .ref (ad 17)), (1, .ref (ad 1)), (2, .ref (ad 16)), (3, .int x3)]) hx hb d_Ga_sumUp_139 hl (k := 4) rfl (by rw [ev3]; rfl) (by decide) rfl (fun ls hl => ?_)
  have hw := hw v3 ev3
  refine lv_goto (tgt := 3) hx hb d_Ga_sumUp_142 (by decide) ?_
  exact hk3 a24 a25 f1 f2 x3 v3 hw _ _ _ (wn_eq w rfl) (lv_sub hl [1, 2, 3, 4, 0] rfl)
set_option maxHeartbeats 4000000 in
set_option maxRecDepth 100000 in
theorem w_Ga_sumUp_85 {S : ST} {post : (Nat → Int32) → (Nat → Int32) → (Nat → Int32) → (Nat → Int32) → Prop} (C : cx p s m args meth c prog_2_method_9_code 7 "LineBreaker$Galley" n0 G K) (hr : meth.sig.returnType = none) {K3 : (Nat → Int32) → (Nat → Int32) → (Nat → Int32) → (Nat → Int32) → Int32 → Int32 → Prop} (hk3 : ∀ (a24 : (Nat → Int32)) (a25 : (Nat → Int32)) (a26 : (Nat → Int32)) (a27 : (Nat → Int32)) (x3 : Int32) (x4 : Int32), K3 a24 a25 a26 a27 x3 x4 → ∀ (H : Heap) (locs : List Loc) (ls : Array Slot), wn n0 G (wC K ad (sA (sA (sA (sA S 24 a24) 25 a25) 26 a26) 27 a27) ++ X) s H locs → lv_has ls 7 [(0, .ref (ad 17)), (1, .ref (ad 1)), (2, .ref (ad 16)), (3, .int x3), (4, .int x4)] → W p l e rm_Ga_sumUp s m args below meth c H locs 0 0 (MQ below (va_Qv (fun (u : (Nat → Int32) × (Nat → Int32) × (Nat → Int32) × (Nat → Int32)) => post u.1 u.2.1 u.2.2.1 u.2.2.2) (fun (u : (Nat → Int32) × (Nat → Int32) × (Nat → Int32) × (Nat → Int32)) t => we n0 G (wC K ad (sA (sA (sA (sA S 24 u.1) 25 u.2.1) 26 u.2.2.1) 27 u.2.2.2) ++ X) t) (al n0)) args s 0 0 (al n0)) (F0 m 3 ls [])) : ∀ (a24 : (Nat → Int32)) (a25 : (Nat → Int32)) (a26 : (Nat → Int32)) (a27 : (Nat → Int32)) (x3 : Int32) (x4 : Int32) (x5 : Int32) (x6 : Int32) (z1 : Int32) (z2 : Int32) (z3 : Int32), wl_Ga_sumUp_85 S post K3 a24 a25 a26 a27 x3 x4 x5 x6 z1 z2 z3 → ∀ (H : Heap) (locs : List Loc) (ls : Array Slot), wn n0 G (wC K ad (sA (sA (sA (sA S 24 a24) 25 a25) 26 a26) 27 a27) ++ X) s H locs → lv_has ls 7 [(0, .ref (ad 17)), (1, .ref (ad 1)), (2, .ref (ad 16)), (3, .int x3), (4, .int x4), (5, .int x5), (6, .int x6)] → W p l e rm_Ga_sumUp s m args below meth c H locs 0 0 (MQ below (va_Qv (fun (u : (Nat → Int32) × (Nat → Int32) × (Nat → Int32) × (Nat → Int32)) => post u.1 u.2.1 u.2.2.1 u.2.2.2) (fun (u : (Nat → Int32) × (Nat → Int32) × (Nat → Int32) × (Nat → Int32)) t => we n0 G (wC K ad (sA (sA (sA (sA S 24 u.1) 25 u.2.1) 26 u.2.2.1) 27 u.2.2.2) ++ X) t) (al n0)) args s 0 0 (al n0)) (F0 m 85 ls [.int z3, .int z2, .int z1, .ref (ad 25)]) := by
  have hx := C.1
  have hb := C.2.1
  have hts := C.2.2.2.2.1
  intro a24 a25 a26 a27 x3 x4 x5 x6 z1 z2 z3 hw H locs ls w hl
  unfold wl_Ga_sumUp_85 at hw
  refine lv_iadd hx hb d_Ga_sumUp_85 ?_
  obtain ⟨f1, ef1⟩ : ∃ z : Nat → Int32, z = upd a25 z1.toNatClampNeg (z2 + z3) := ⟨_, rfl⟩
  refine ks_i (f := a25) (w2 := wC K ad (sA (sA (sA (sA S 24 a24) 25 f1) 26 a26) 27 a27) ++ X) C w 25 rfl hw.1 (by rw [← ef1]; rfl) d_Ga_sumUp_86 (fun H locs w => ?_)
  have hw := hw.2 f1 ef1
  refine lv_aload_n hx hb d_Ga_sumUp_87 rfl (lv_at hl 0 rfl) ?_
  refine kg (C1 := R_Ga) (T := F_Ga) (N := 12) (ci := 0) (ref := "LineBreaker$Galley") (v := .ref (ad 26)) C w 17 8 iw_Ga rfl rfl (by decide) kw_154 rfl rfl d_Ga_sumUp_88 ?_
  refine lv_iload hx hb d_Ga_sumUp_91 (lv_at hl 4 rfl) ?_
  refine lv_iconst (v := 1) hx hb d_Ga_sumUp_93 (by decide) ?_
  refine lv_iadd hx hb d_Ga_sumUp_94 ?_
  refine lv_aload_n hx hb d_Ga_sumUp_95 rfl (lv_at hl 0 rfl) ?_
  refine kg (C1 := R_Ga) (T := F_Ga) (N := 12) (ci := 0) (ref := "LineBreaker$Galley") (v := .ref (ad 26)) C w 17 8 iw_Ga rfl rfl (by decide) kw_154 rfl rfl d_Ga_sumUp_96 ?_
  refine lv_iload hx hb d_Ga_sumUp_99 (lv_at hl 4 rfl) ?_
  refine ka_i (f := a26) C w 26 rfl hw.1 d_Ga_sumUp_101 ?_
  have hw := hw.2
  refine lv_iload hx hb d_Ga_sumUp_102 (lv_at hl 5 rfl) ?_
  refine lv_if_eq (tgt := 111) hx hb d_Ga_sumUp_104 (by decide) (fun hc => ?_) (fun hc => ?_)
  · have hw := hw.1 hc
    refine lv_iload hx hb d_Ga_sumUp_111 (lv_at hl 6 rfl) ?_
    exact w_Ga_sumUp_113 C hr hk3 a24 f1 a26 a27 x3 x4 (x4 + 1) (a26 x4.toNatClampNeg) x6 hw _ _ _ (wn_eq w rfl) (lv_sub hl [0, 1, 2, 3, 4] rfl)
  · have hw := hw.2 hc
    refine lv_iconst (v := 0) hx hb d_Ga_sumUp_107 (by decide) ?_
    refine lv_goto (tgt := 113) hx hb d_Ga_sumUp_108 (by decide) ?_
    exact w_Ga_sumUp_113 C hr hk3 a24 f1 a26 a27 x3 x4 (x4 + 1) (a26 x4.toNatClampNeg) 0 hw _ _ _ (wn_eq w rfl) (lv_sub hl [0, 1, 2, 3, 4] rfl)
set_option maxHeartbeats 4000000 in
set_option maxRecDepth 100000 in
theorem w_Ga_sumUp_24 {S : ST} {post : (Nat → Int32) → (Nat → Int32) → (Nat → Int32) → (Nat → Int32) → Prop} (C : cx p s m args meth c prog_2_method_9_code 7 "LineBreaker$Galley" n0 G K) (hr : meth.sig.returnType = none) {K3 : (Nat → Int32) → (Nat → Int32) → (Nat → Int32) → (Nat → Int32) → Int32 → Int32 → Prop} (hk3 : ∀ (a24 : (Nat → Int32)) (a25 : (Nat → Int32)) (a26 : (Nat → Int32)) (a27 : (Nat → Int32)) (x3 : Int32) (x4 : Int32), K3 a24 a25 a26 a27 x3 x4 → ∀ (H : Heap) (locs : List Loc) (ls : Array Slot), wn n0 G (wC K ad (sA (sA (sA (sA S 24 a24) 25 a25) 26 a26) 27 a27) ++ X) s H locs → lv_has ls 7 [(0, .ref (ad 17)), (1, .ref (ad 1)), (2, .ref (ad 16)), (3, .int x3), (4, .int x4)] → W p l e rm_Ga_sumUp s m args below meth c H locs 0 0 (MQ below (va_Qv (fun (u : (Nat → Int32) × (Nat → Int32) × (Nat → Int32) × (Nat → Int32)) => post u.1 u.2.1 u.2.2.1 u.2.2.2) (fun (u : (Nat → Int32) × (Nat → Int32) × (Nat → Int32) × (Nat → Int32)) t => we n0 G (wC K ad (sA (sA (sA (sA S 24 u.1) 25 u.2.1) 26 u.2.2.1) 27 u.2.2.2) ++ X) t) (al n0)) args s 0 0 (al n0)) (F0 m 3 ls [])) : ∀ (a24 : (Nat → Int32)) (a25 : (Nat → Int32)) (a26 : (Nat → Int32)) (a27 : (Nat → Int32)) (x3 : Int32) (x4 : Int32) (z0 : Int32), wl_Ga_sumUp_24 S post K3 a24 a25 a26 a27 x3 x4 z0 → ∀ (H : Heap) (locs : List Loc) (ls : Array Slot), wn n0 G (wC K ad (sA (sA (sA (sA S 24 a24) 25 a25) 26 a26) 27 a27) ++ X) s H locs → lv_has ls 7 [(0, .ref (ad 17)), (1, .ref (ad 1)), (2, .ref (ad 16)), (3, .int x3), (4, .int x4)] → W p l e rm_Ga_sumUp s m args below meth c H locs 0 0 (MQ below (va_Qv (fun (u : (Nat → Int32) × (Nat → Int32) × (Nat → Int32) × (Nat → Int32)) => post u.1 u.2.1 u.2.2.1 u.2.2.2) (fun (u : (Nat → Int32) × (Nat → Int32) × (Nat → Int32) × (Nat → Int32)) t => we n0 G (wC K ad (sA (sA (sA (sA S 24 u.1) 25 u.2.1) 26 u.2.2.1) 27 u.2.2.2) ++ X) t) (al n0)) args s 0 0 (al n0)) (F0 m 24 ls [.int z0]) := by
  have hx := C.1
  have hb := C.2.1
  have hts := C.2.2.2.2.1
  intro a24 a25 a26 a27 x3 x4 z0 hw H locs ls w hl
  unfold wl_Ga_sumUp_24 at hw
  refine lv_istore (lv' := [(5, .int z0), (0, .ref (ad 17)), (1, .ref (ad 1)), (2, .ref (ad 16)), (3, .int x3), (4, .int x4)]) hx hb d_Ga_sumUp_24 hl (by decide) rfl (fun ls hl => ?_)
  refine lv_aload_n hx hb d_Ga_sumUp_26 rfl (lv_at hl 2 rfl) ?_
  refine kg (C1 := R_Pa) (T := F_Pa) (N := 10) (ci := 6) (ref := "LineBreaker$Paragraph") (v := .ref (ad 4)) C w 1 2 iw_Pa rfl rfl (by decide) kw_40 rfl rfl d_Ga_sumUp_27 ?_
  refine lv_iload hx hb d_Ga_sumUp_30 (lv_at hl 5 rfl) ?_
  refine ka_i (f := (S.1 4)) C w 4 rfl hw.1 d_Ga_sumUp_32 ?_
  have hw := hw.2
  refine lv_topi (fun v1 ev1 => ?_)
  have hw := hw v1 ev1
  refine lv_istore (lv' := [(6, .int v1), (5, .int z0), (0, .ref (ad 17)), (1, .ref (ad 1)), (2, .ref (ad 16)), (3, .int x3), (4, .int x4)]) hx hb d_Ga_sumUp_33 hl (by decide) rfl (fun ls hl => ?_)
  refine lv_aload_n hx hb d_Ga_sumUp_35 rfl (lv_at hl 2 rfl) ?_
  refine kg (C1 := R_Ga) (T := F_Ga) (N := 12) (ci := 0) (ref := "LineBreaker$Galley") (v := .ref (ad 24)) C w 17 6 iw_Ga rfl rfl (by decide) kw_150 rfl rfl d_Ga_sumUp_36 ?_
  refine lv_iload hx hb d_Ga_sumUp_39 (lv_at hl 6 rfl) ?_
  refine lv_iconst (v := 1) hx hb d_Ga_sumUp_41 (by decide) ?_
  refine lv_iadd hx hb d_Ga_sumUp_42 ?_
  refine lv_aload_n hx hb d_Ga_sumUp_43 rfl (lv_at hl 2 rfl) ?_
  refine kg (C1 := R_Ga) (T := F_Ga) (N := 12) (ci := 0) (ref := "LineBreaker$Galley") (v := .ref (ad 24)) C w 17 6 iw_Ga rfl rfl (by decide) kw_150 rfl rfl d_Ga_sumUp_44 ?_
  refine lv_iload hx hb d_Ga_sumUp_47 (lv_at hl 6 rfl) ?_
  refine ka_i (f := a24) C w 24 rfl hw.1 d_Ga_sumUp_49 ?_
  have hw := hw.2
  refine lv_aload_n hx hb d_Ga_sumUp_50 rfl (lv_at hl 3 rfl) ?_
  refine kg (C1 := R_Pa) (T := F_Pa) (N := 10) (ci := 6) (ref := "LineBreaker$Paragraph") (v := .ref (ad 3)) C w 1 1 iw_Pa rfl rfl (by decide) kw_38 rfl rfl d_Ga_sumUp_51 ?_
  refine lv_iload hx hb d_Ga_sumUp_54 (lv_at hl 6 rfl) ?_
  refine ka_i (f := (S.1 3)) C w 3 rfl hw.1 d_Ga_sumUp_56 ?_
  have hw := hw.2
  refine lv_iadd hx hb d_Ga_sumUp_57 ?_
  obtain ⟨f2, ef2⟩ : ∃ z : Nat → Int32, z = upd a24 ((x4 + 1).toNatClampNeg) ((a24 x4.toNatClampNeg) + ((S.1 3) x4.toNatClampNeg)) := ⟨_, rfl⟩
  refine ks_i (f := a24) (w2 := wC K ad (sA (sA (sA (sA S 24 f2) 25 a25) 26 a26) 27 a27) ++ X) C w 24 rfl hw.1 (by rw [← ef2]; rfl) d_Ga_sumUp_58 (fun H locs w => ?_)
  have hw := hw.2 f2 ef2
  refine lv_aload_n hx hb d_Ga_sumUp_59 rfl (lv_at hl 2 rfl) ?_
  refine kg (C1 := R_Ga) (T := F_Ga) (N := 12) (ci := 0) (ref := "LineBreaker$Galley") (v := .ref (ad 25)) C w 17 7 iw_Ga rfl rfl (by decide) kw_152 rfl rfl d_Ga_sumUp_60 ?_
  refine lv_iload hx hb d_Ga_sumUp_63 (lv_at hl 6 rfl) ?_
  refine lv_iconst (v := 1) hx hb d_Ga_sumUp_65 (by decide) ?_
  refine lv_iadd hx hb d_Ga_sumUp_66 ?_
  refine lv_aload_n hx hb d_Ga_sumUp_67 rfl (lv_at hl 2 rfl) ?_
  refine kg (C1 := R_Ga) (T := F_Ga) (N := 12) (ci := 0) (ref := "LineBreaker$Galley") (v := .ref (ad 25)) C w 17 7 iw_Ga rfl rfl (by decide) kw_152 rfl rfl d_Ga_sumUp_68 ?_
  refine lv_iload hx hb d_Ga_sumUp_71 (lv_at hl 6 rfl) ?_
  refine ka_i (f := a25) C w 25 rfl hw.1 d_Ga_sumUp_73 ?_
  have hw := hw.2
  refine lv_iload hx hb d_Ga_sumUp_74 (lv_at hl 1 rfl) ?_
  refine lv_if_eq (tgt := 84) hx hb d_Ga_sumUp_76 (by decide) (fun hc => ?_) (fun hc => ?_)
  · have hw := hw.1 hc
    refine lv_iconst (v := 0) hx hb d_Ga_sumUp_84 (by decide) ?_
    exact w_Ga_sumUp_85 C hr hk3 f2 a25 a26 a27 x3 x4 z0 v1 (x4 + 1) (a25 x4.toNatClampNeg) 0 hw _ _ _ (wn_eq w rfl) (lv_sub hl [2, 3, 4, 5, 6, 1, 0] rfl)
  · have hw := hw.2 hc
    refine lv_iload hx hb d_Ga_sumUp_79 (lv_at hl 0 rfl) ?_
    refine lv_goto (tgt := 85) hx hb d_Ga_sumUp_81 (by decide) ?_
    exact w_Ga_sumUp_85 C hr hk3 f2 a25 a26 a27 x3 x4 z0 v1 (x4 + 1) (a25 x4.toNatClampNeg) v1 hw _ _ _ (wn_eq w rfl) (lv_sub hl [2, 3, 4, 5, 6, 1, 0] rfl)
set_option maxHeartbeats 4000000 in
set_option maxRecDepth 100000 in
theorem w_Ga_sumUp_3 {S : ST} {post : (Nat → Int32) → (Nat → Int32) → (Nat → Int32) → (Nat → Int32) → Prop} (C : cx p s m args meth c prog_2_method_9_code 7 "LineBreaker$Galley" n0 G K) (hr : meth.sig.returnType = none) : ∀ (n : Nat) (a24 : (Nat → Int32)) (a25 : (Nat → Int32)) (a26 : (Nat → Int32)) (a27 : (Nat → Int32)) (x3 : Int32) (x4 : Int32), wl_Ga_sumUp_3 S post n a24 a25 a26 a27 x3 x4 → ∀ (H : Heap) (locs : List Loc) (ls : Array Slot), wn n0 G (wC K ad (sA (sA (sA (sA S 24 a24) 25 a25) 26 a26) 27 a27) ++ X) s H locs → lv_has ls 7 [(0, .ref (ad 17)), (1, .ref (ad 1)), (2, .ref (ad 16)), (3, .int x3), (4, .int x4)] → W p l e rm_Ga_sumUp s m args below meth c H locs 0 0 (MQ below (va_Qv (fun (u : (Nat → Int32) × (Nat → Int32) × (Nat → Int32) × (Nat → Int32)) => post u.1 u.2.1 u.2.2.1 u.2.2.2) (fun (u : (Nat → Int32) × (Nat → Int32) × (Nat → Int32) × (Nat → Int32)) t => we n0 G (wC K ad (sA (sA (sA (sA S 24 u.1) 25 u.2.1) 26 u.2.2.1) 27 u.2.2.2) ++ X) t) (al n0)) args s 0 0 (al n0)) (F0 m 3 ls []) := by
  have hx := C.1
  have hb := C.2.1
  have hts := C.2.2.2.2.1
  intro n
  induction n with
  | zero =>
    intro a24 a25 a26 a27 x3 x4 hw
    unfold wl_Ga_sumUp_3 at hw
    exact hw.elim
  | succ n ih =>
    intro a24 a25 a26 a27 x3 x4 hw H locs ls w hl
    unfold wl_Ga_sumUp_3 at hw
    refine lv_iload hx hb d_Ga_sumUp_3 (lv_at hl 4 rfl) ?_
    refine lv_iload_n hx hb d_Ga_sumUp_5 rfl (lv_at hl 3 rfl) ?_
    refine lv_icmp_ge (tgt := 145) hx hb d_Ga_sumUp_6 (by decide) (fun hc => ?_) (fun hc => ?_)
    · have hw := hw.1 hc
      refine lv_iload_n hx hb d_Ga_sumUp_145 rfl (lv_at hl 3 rfl) ?_
      refine lv_iconst (v := 1) hx hb d_Ga_sumUp_146 (by decide) ?_
      refine lv_iadd hx hb d_Ga_sumUp_147 ?_
      refine lv_topi (fun v1 ev1 => ?_)
      have hw := hw v1 ev1
      refine lv_istore (lv' := [(4, .int v1), (0, .ref (ad 17)), (1, .ref (ad 1)), (2, .ref (ad 16)), (3, .int x3)]) hx hb d_Ga_sumUp_148 hl (by decide) rfl (fun ls hl => ?_)
      refine lv_aload_n hx hb d_Ga_sumUp_150 rfl (lv_at hl 1 rfl) ?_
      refine kg (C1 := R_Ga) (T := F_Ga) (N := 12) (ci := 0) (ref := "LineBreaker$Galley") (v := .ref (ad 24)) C w 17 6 iw_Ga rfl rfl (by decide) kw_150 rfl rfl d_Ga_sumUp_151 ?_
      refine lv_iload hx hb d_Ga_sumUp_154 (lv_at hl 0 rfl) ?_
      refine lv_aload_n hx hb d_Ga_sumUp_156 rfl (lv_at hl 1 rfl) ?_
      refine kg (C1 := R_Ga) (T := F_Ga) (N := 12) (ci := 0) (ref := "LineBreaker$Galley") (v := .ref (ad 24)) C w 17 6 iw_Ga rfl rfl (by decide) kw_150 rfl rfl d_Ga_sumUp_157 ?_
      refine lv_iload_n hx hb d_Ga_sumUp_160 rfl (lv_at hl 4 rfl) ?_
      refine ka_i (f := a24) C w 24 rfl hw.1 d_Ga_sumUp_161 ?_
      have hw := hw.2
      obtain ⟨f2, ef2⟩ : ∃ z : Nat → Int32, z = upd a24 v1.toNatClampNeg (a24 x3.toNatClampNeg) := ⟨_, rfl⟩
      refine ks_i (f := a24) (w2 := wC K ad (sA (sA (sA (sA S 24 f2) 25 a25) 26 a26) 27 a27) ++ X) C w 24 rfl hw.1 (by rw [← ef2]; rfl) d_Ga_sumUp_162 (fun H locs w => ?_)
      have hw := hw.2 f2 ef2
      refine lv_aload_n hx hb d_Ga_sumUp_163 rfl (lv_at hl 1 rfl) ?_
      refine kg (C1 := R_Ga) (T := F_Ga) (N := 12) (ci := 0) (ref := "LineBreaker$Galley") (v := .ref (ad 25)) C w 17 7 iw_Ga rfl rfl (by decide) kw_152 rfl rfl d_Ga_sumUp_164 ?_
      refine lv_iload hx hb d_Ga_sumUp_167 (lv_at hl 0 rfl) ?_
      refine lv_aload_n hx hb d_Ga_sumUp_169 rfl (lv_at hl 1 rfl) ?_
      refine kg (C1 := R_Ga) (T := F_Ga) (N := 12) (ci := 0) (ref := "LineBreaker$Galley") (v := .ref (ad 25)) C w 17 7 iw_Ga rfl rfl (by decide) kw_152 rfl rfl d_Ga_sumUp_170 ?_
      refine lv_iload_n hx hb d_Ga_sumUp_173 rfl (lv_at hl 4 rfl) ?_
      refine ka_i (f := a25) C w 25 rfl hw.1 d_Ga_sumUp_174 ?_
      have hw := hw.2
      obtain ⟨f3, ef3⟩ : ∃ z : Nat → Int32, z = upd a25 v1.toNatClampNeg (a25 x3.toNatClampNeg) := ⟨_, rfl⟩
      refine ks_i (f := a25) (w2 := wC K ad (sA (sA (sA (sA S 24 f2) 25 f3) 26 a26) 27 a27) ++ X) C w 25 rfl hw.1 (by rw [← ef3]; rfl) d_Ga_sumUp_175 (fun H locs w => ?_)
      have hw := hw.2 f3 ef3
      refine lv_aload_n hx hb d_Ga_sumUp_176 rfl (lv_at hl 1 rfl) ?_
      refine kg (C1 := R_Ga) (T := F_Ga) (N := 12) (ci := 0) (ref := "LineBreaker$Galley") (v := .ref (ad 26)) C w 17 8 iw_Ga rfl rfl (by decide) kw_154 rfl rfl d_Ga_sumUp_177 ?_
      refine lv_iload hx hb d_Ga_sumUp_180 (lv_at hl 0 rfl) ?_
      refine lv_aload_n hx hb d_Ga_sumUp_182 rfl (lv_at hl 1 rfl) ?_
      refine kg (C1 := R_Ga) (T := F_Ga) (N := 12) (ci := 0) (ref := "LineBreaker$Galley") (v := .ref (ad 26)) C w 17 8 iw_Ga rfl rfl (by decide) kw_154 rfl rfl d_Ga_sumUp_183 ?_
      refine lv_iload_n hx hb d_Ga_sumUp_186 rfl (lv_at hl 4 rfl) ?_
      refine ka_i (f := a26) C w 26 rfl hw.1 d_Ga_sumUp_187 ?_
      have hw := hw.2
      obtain ⟨f4, ef4⟩ : ∃ z : Nat → Int32, z = upd a26 v1.toNatClampNeg (a26 x3.toNatClampNeg) := ⟨_, rfl⟩
      refine ks_i (f := a26) (w2 := wC K ad (sA (sA (sA (sA S 24 f2) 25 f3) 26 f4) 27 a27) ++ X) C w 26 rfl hw.1 (by rw [← ef4]; rfl) d_Ga_sumUp_188 (fun H locs w => ?_)
      have hw := hw.2 f4 ef4
      refine lv_aload_n hx hb d_Ga_sumUp_189 rfl (lv_at hl 1 rfl) ?_
      refine kg (C1 := R_Ga) (T := F_Ga) (N := 12) (ci := 0) (ref := "LineBreaker$Galley") (v := .ref (ad 27)) C w 17 9 iw_Ga rfl rfl (by decide) kw_156 rfl rfl d_Ga_sumUp_190 ?_
      refine lv_iload hx hb d_Ga_sumUp_193 (lv_at hl 0 rfl) ?_
      refine lv_aload_n hx hb d_Ga_sumUp_195 rfl (lv_at hl 1 rfl) ?_
      refine kg (C1 := R_Ga) (T := F_Ga) (N := 12) (ci := 0) (ref := "LineBreaker$Galley") (v := .ref (ad 27)) C w 17 9 iw_Ga rfl rfl (by decide) kw_156 rfl rfl d_Ga_sumUp_196 ?_
      refine lv_iload_n hx hb d_Ga_sumUp_199 rfl (lv_at hl 4 rfl) ?_
      refine ka_i (f := a27) C w 27 rfl hw.1 d_Ga_sumUp_200 ?_
      have hw := hw.2
      obtain ⟨f5, ef5⟩ : ∃ z : Nat → Int32, z = upd a27 v1.toNatClampNeg (a27 x3.toNatClampNeg) := ⟨_, rfl⟩
      refine ks_i (f := a27) (w2 := wC K ad (sA (sA (sA (sA S 24 f2) 25 f3) 26 f4) 27 f5) ++ X) C w 27 rfl hw.1 (by rw [← ef5]; rfl) d_Ga_sumUp_201 (fun H locs w => ?_)
      have hw := hw.2 f5 ef5
      refine lv_aload_n hx hb d_Ga_sumUp_202 rfl (lv_at hl 1 rfl) ?_
      refine kg (C1 := R_Ga) (T := F_Ga) (N := 12) (ci := 0) (ref := "LineBreaker$Galley") (v := .ref (ad 24)) C w 17 6 iw_Ga rfl rfl (by decide) kw_150 rfl rfl d_Ga_sumUp_203 ?_
      refine lv_aload_n hx hb d_Ga_sumUp_206 rfl (lv_at hl 1 rfl) ?_
      refine kg (C1 := R_Ga) (T := F_Ga) (N := 12) (ci := 0) (ref := "LineBreaker$Galley") (v := .int (S.2.2 1099)) C w 17 11 iw_Ga rfl rfl (by decide) kw_159 rfl rfl d_Ga_sumUp_207 ?_
      refine lv_aload_n hx hb d_Ga_sumUp_210 rfl (lv_at hl 1 rfl) ?_
      refine kg (C1 := R_Ga) (T := F_Ga) (N := 12) (ci := 0) (ref := "LineBreaker$Galley") (v := .ref (ad 24)) C w 17 6 iw_Ga rfl rfl (by decide) kw_150 rfl rfl d_Ga_sumUp_211 ?_
      refine lv_iload hx hb d_Ga_sumUp_214 (lv_at hl 0 rfl) ?_
      refine ka_i (f := f2) C w 24 rfl hw.1 d_Ga_sumUp_216 ?_
      have hw := hw.2
      refine lv_aload_n hx hb d_Ga_sumUp_217 rfl (lv_at hl 3 rfl) ?_
      refine kg (C1 := R_Gl) (T := F_Gl) (N := 4) (ci := 2) (ref := "LineBreaker$Glue") (v := .int (S.2.2 1024)) C w 16 0 iw_Gl rfl rfl (by decide) kw_92 rfl rfl d_Ga_sumUp_218 ?_
      refine lv_iadd hx hb d_Ga_sumUp_221 ?_
      obtain ⟨f6, ef6⟩ : ∃ z : Nat → Int32, z = upd f2 ((S.2.2 1099).toNatClampNeg) ((f2 v1.toNatClampNeg) + (S.2.2 1024)) := ⟨_, rfl⟩
      refine ks_i (f := f2) (w2 := wC K ad (sA (sA (sA (sA S 24 f6) 25 f3) 26 f4) 27 f5) ++ X) C w 24 rfl hw.1 (by rw [← ef6]; rfl) d_Ga_sumUp_222 (fun H locs w => ?_)
      have hw := hw.2 f6 ef6
      refine lv_aload_n hx hb d_Ga_sumUp_223 rfl (lv_at hl 1 rfl) ?_
      refine kg (C1 := R_Ga) (T := F_Ga) (N := 12) (ci := 0) (ref := "LineBreaker$Galley") (v := .ref (ad 25)) C w 17 7 iw_Ga rfl rfl (by decide) kw_152 rfl rfl d_Ga_sumUp_224 ?_
      refine lv_aload_n hx hb d_Ga_sumUp_227 rfl (lv_at hl 1 rfl) ?_
      refine kg (C1 := R_Ga) (T := F_Ga) (N := 12) (ci := 0) (ref := "LineBreaker$Galley") (v := .int (S.2.2 1099)) C w 17 11 iw_Ga rfl rfl (by decide) kw_159 rfl rfl d_Ga_sumUp_228 ?_
      refine lv_aload_n hx hb d_Ga_sumUp_231 rfl (lv_at hl 1 rfl) ?_
      refine kg (C1 := R_Ga) (T := F_Ga) (N := 12) (ci := 0) (ref := "LineBreaker$Galley") (v := .ref (ad 25)) C w 17 7 iw_Ga rfl rfl (by decide) kw_152 rfl rfl d_Ga_sumUp_232 ?_
      refine lv_iload hx hb d_Ga_sumUp_235 (lv_at hl 0 rfl) ?_
      refine ka_i (f := f3) C w 25 rfl hw.1 d_Ga_sumUp_237 ?_
      have hw := hw.2
      refine lv_aload_n hx hb d_Ga_sumUp_238 rfl (lv_at hl 3 rfl) ?_
      refine kc_i (st := fun (u : Unit) => wC K ad (sA (sA (sA (sA S 24 f6) 25 f3) 26 f4) 27 f5) ++ X) w (kr_V (y := y_Gl_finiteStretch) (C1 := R_Gl) (T := F_Gl) (N := 4) (ci := 2) (q0 := 16) (As := []) (n := 0) C w (c_Gl_finiteStretch_16 l n0 G K ad X (sA (sA (sA (sA S 24 f6) 25 f3) 26 f4) 27 f5)  _ hw) (gw_V kw_687 kw_688 kw_689 kw_4 kw_690) (by decide +kernel) rfl rfl ⟨Nat.le_of_ble_eq_true rfl, Nat.le_of_ble_eq_true rfl⟩ rfl rfl rfl hl.1 rfl (Nat.le_of_ble_eq_true rfl) d_Ga_sumUp_239 ⟨Nat.le_of_ble_eq_true rfl, Nat.le_of_ble_eq_true rfl⟩) (fun r7 u H locs hw w => ?_)
      refine lv_iadd hx hb d_Ga_sumUp_242 ?_
      obtain ⟨f8, ef8⟩ : ∃ z : Nat → Int32, z = upd f3 ((S.2.2 1099).toNatClampNeg) ((f3 v1.toNatClampNeg) + r7) := ⟨_, rfl⟩
      refine ks_i (f := f3) (w2 := wC K ad (sA (sA (sA (sA S 24 f6) 25 f8) 26 f4) 27 f5) ++ X) C w 25 rfl hw.1 (by rw [← ef8]; rfl) d_Ga_sumUp_243 (fun H locs w => ?_)
      have hw := hw.2 f8 ef8
      refine lv_aload_n hx hb d_Ga_sumUp_244 rfl (lv_at hl 1 rfl) ?_
      refine kg (C1 := R_Ga) (T := F_Ga) (N := 12) (ci := 0) (ref := "LineBreaker$Galley") (v := .ref (ad 26)) C w 17 8 iw_Ga rfl rfl (by decide) kw_154 rfl rfl d_Ga_sumUp_245 ?_
      refine lv_aload_n hx hb d_Ga_sumUp_248 rfl (lv_at hl 1 rfl) ?_
      refine kg (C1 := R_Ga) (T := F_Ga) (N := 12) (ci := 0) (ref := "LineBreaker$Galley") (v := .int (S.2.2 1099)) C w 17 11 iw_Ga rfl rfl (by decide) kw_159 rfl rfl d_Ga_sumUp_249 ?_
      refine lv_aload_n hx hb d_Ga_sumUp_252 rfl (lv_at hl 1 rfl) ?_
      refine kg (C1 := R_Ga) (T := F_Ga) (N := 12) (ci := 0) (ref := "LineBreaker$Galley") (v := .ref (ad 26)) C w 17 8 iw_Ga rfl rfl (by decide) kw_154 rfl rfl d_Ga_sumUp_253 ?_
      refine lv_iload hx hb d_Ga_sumUp_256 (lv_at hl 0 rfl) ?_
      refine ka_i (f := f4) C w 26 rfl hw.1 d_Ga_sumUp_258 ?_
      have hw := hw.2
      refine lv_aload_n hx hb d_Ga_sumUp_259 rfl (lv_at hl 3 rfl) ?_
      refine kc_i (st := fun (u : Unit) => wC K ad (sA (sA (sA (sA S 24 f6) 25 f8) 26 f4) 27 f5) ++ X) w (kr_V (y := y_Gl_endlessStretch) (C1 := R_Gl) (T := F_Gl) (N := 4) (ci := 2) (q0 := 16) (As := []) (n := 0) C w (c_Gl_endlessStretch_16 l n0 G K ad X (sA (sA (sA (sA S 24 f6) 25 f8) 26 f4) 27 f5)  _ hw) (gw_V kw_691 kw_692 kw_693 kw_4 kw_694) (by decide +kernel) rfl rfl ⟨Nat.le_of_ble_eq_true rfl, Nat.le_of_ble_eq_true rfl⟩ rfl rfl rfl hl.1 rfl (Nat.le_of_ble_eq_true rfl) d_Ga_sumUp_260 ⟨Nat.le_of_ble_eq_true rfl, Nat.le_of_ble_eq_true rfl⟩) (fun r9 u H locs hw w => ?_)
      refine lv_iadd hx hb d_Ga_sumUp_263 ?_
      obtain ⟨f10, ef10⟩ : ∃ z : Nat → Int32, z = upd f4 ((S.2.2 1099).toNatClampNeg) ((f4 v1.toNatClampNeg) + r9) := ⟨_, rfl⟩
      refine ks_i (f := f4) (w2 := wC K ad (sA (sA (sA (sA S 24 f6) 25 f8) 26 f10) 27 f5) ++ X) C w 26 rfl hw.1 (by rw [← ef10]; rfl) d_Ga_sumUp_264 (fun H locs w => ?_)
      have hw := hw.2 f10 ef10
      refine lv_aload_n hx hb d_Ga_sumUp_265 rfl (lv_at hl 1 rfl) ?_
      refine kg (C1 := R_Ga) (T := F_Ga) (N := 12) (ci := 0) (ref := "LineBreaker$Galley") (v := .ref (ad 27)) C w 17 9 iw_Ga rfl rfl (by decide) kw_156 rfl rfl d_Ga_sumUp_266 ?_
      refine lv_aload_n hx hb d_Ga_sumUp_269 rfl (lv_at hl 1 rfl) ?_
      refine kg (C1 := R_Ga) (T := F_Ga) (N := 12) (ci := 0) (ref := "LineBreaker$Galley") (v := .int (S.2.2 1099)) C w 17 11 iw_Ga rfl rfl (by decide) kw_159 rfl rfl d_Ga_sumUp_270 ?_
      refine lv_aload_n hx hb d_Ga_sumUp_273 rfl (lv_at hl 1 rfl) ?_
      refine kg (C1 := R_Ga) (T := F_Ga) (N := 12) (ci := 0) (ref := "LineBreaker$Galley") (v := .ref (ad 27)) C w 17 9 iw_Ga rfl rfl (by decide) kw_156 rfl rfl d_Ga_sumUp_274 ?_
      refine lv_iload hx hb d_Ga_sumUp_277 (lv_at hl 0 rfl) ?_
      refine ka_i (f := f5) C w 27 rfl hw.1 d_Ga_sumUp_279 ?_
      have hw := hw.2
      refine lv_aload_n hx hb d_Ga_sumUp_280 rfl (lv_at hl 3 rfl) ?_
      refine kg (C1 := R_Gl) (T := F_Gl) (N := 4) (ci := 2) (ref := "LineBreaker$Glue") (v := .int (S.2.2 1027)) C w 16 3 iw_Gl rfl rfl (by decide) kw_99 rfl rfl d_Ga_sumUp_281 ?_
      refine lv_iadd hx hb d_Ga_sumUp_284 ?_
      obtain ⟨f11, ef11⟩ : ∃ z : Nat → Int32, z = upd f5 ((S.2.2 1099).toNatClampNeg) ((f5 v1.toNatClampNeg) + (S.2.2 1027)) := ⟨_, rfl⟩
      refine ks_i (f := f5) (w2 := wC K ad (sA (sA (sA (sA S 24 f6) 25 f8) 26 f10) 27 f11) ++ X) C w 27 rfl hw.1 (by rw [← ef11]; rfl) d_Ga_sumUp_285 (fun H locs w => ?_)
      have hw := hw.2 f11 ef11
      exact ke_v (post := (fun (u : (Nat → Int32) × (Nat → Int32) × (Nat → Int32) × (Nat → Int32)) => post u.1 u.2.1 u.2.2.1 u.2.2.2)) (st := (fun (u : (Nat → Int32) × (Nat → Int32) × (Nat → Int32) × (Nat → Int32)) => wC K ad (sA (sA (sA (sA S 24 u.1) 25 u.2.1) 26 u.2.2.1) 27 u.2.2.2) ++ X)) (u := (f6, f8, f10, f11)) C hr d_Ga_sumUp_286 (wn_eq w rfl) hw
    · have hw := hw.2 hc
      refine lv_aload_n hx hb d_Ga_sumUp_9 rfl (lv_at hl 1 rfl) ?_
      refine kg (C1 := R_Pa) (T := F_Pa) (N := 10) (ci := 6) (ref := "LineBreaker$Paragraph") (v := .ref (ad 5)) C w 1 3 iw_Pa rfl rfl (by decide) kw_42 rfl rfl d_Ga_sumUp_10 ?_
      refine lv_iload hx hb d_Ga_sumUp_13 (lv_at hl 4 rfl) ?_
      refine ka_i (f := (S.1 5)) C w 5 rfl hw.1 d_Ga_sumUp_15 ?_
      have hw := hw.2
      refine lv_if_ne (tgt := 23) hx hb d_Ga_sumUp_16 (by decide) (fun hc => ?_) (fun hc => ?_)
      · have hw := hw.1 hc
        refine lv_iconst (v := 0) hx hb d_Ga_sumUp_23 (by decide) ?_
        exact w_Ga_sumUp_24 C hr ih a24 a25 a26 a27 x3 x4 0 hw _ _ _ (wn_eq w rfl) (lv_sub hl [0, 1, 2, 3, 4] rfl)
      · have hw := hw.2 hc
        refine lv_iconst (v := 1) hx hb d_Ga_sumUp_19 (by decide) ?_
        refine lv_goto (tgt := 24) hx hb d_Ga_sumUp_20 (by decide) ?_
        exact w_Ga_sumUp_24 C hr ih a24 a25 a26 a27 x3 x4 1 hw _ _ _ (wn_eq w rfl) (lv_sub hl [0, 1, 2, 3, 4] rfl)
set_option maxHeartbeats 4000000 in
set_option maxRecDepth 100000 in
theorem c_Ga_sumUp (l : Launch) (n0 : Nat) (G : va_G) (K : KT) (ad : Nat → Nat) (X : va_W) (S : ST) (p3 : Int32) (post : (Nat → Int32) → (Nat → Int32) → (Nat → Int32) → (Nat → Int32) → Prop) (hw : wp_Ga_sumUp S p3 post) : Met l y_Ga_sumUp (Cond.code y_Ga_sumUp prog_2_method_9_code 7 none :: gw) rm_Ga_sumUp (va_Pc [.ref (ad 17), .ref (ad 1), .ref (ad 16), .int p3] (wb n0 G K (wC K ad S ++ X))) (va_Qv (fun (u : (Nat → Int32) × (Nat → Int32) × (Nat → Int32) × (Nat → Int32)) => post u.1 u.2.1 u.2.2.1 u.2.2.2) (fun (u : (Nat → Int32) × (Nat → Int32) × (Nat → Int32) × (Nat → Int32)) t => we n0 G (wC K ad (sA (sA (sA (sA S 24 u.1) 25 u.2.1) 26 u.2.2.1) 27 u.2.2.2) ++ X) t) (al n0)) 0 0 (al n0) := by
  refine kb_start (own := "LineBreaker$Galley") (by decide +kernel) rfl ?_
  intro p e s m below meth c C hr hnm w
  have hx := C.1
  have hb := C.2.1
  have hts := C.2.2.2.2.1
  have hl := lv_entry ([.ref (ad 17), .ref (ad 1), .ref (ad 16), .int p3]) (n := 7) (Nat.le_of_ble_eq_true rfl)
  rw [lg_entry_eq]
  generalize (lg_sl ([.ref (ad 17), .ref (ad 1), .ref (ad 16), .int p3]) ++ List.replicate (7 - (lg_sl ([.ref (ad 17), .ref (ad 1), .ref (ad 16), .int p3])).length) Slot.unset).toArray = ls at hl ⊢
  have hl : lv_has ls 7 [(0, .ref (ad 17)), (1, .ref (ad 1)), (2, .ref (ad 16)), (3, .int p3)] := hl
  unfold wp_Ga_sumUp at hw
  refine lv_iconst (v := 0) hx hb d_Ga_sumUp_0 (by decide) ?_
  refine lv_istore (lv' := [(4, .int 0), (0, .ref (ad 17)), (1, .ref (ad 1)), (2, .ref (ad 16)), (3, .int p3)]) hx hb d_Ga_sumUp_1 hl (by decide) rfl (fun ls hl => ?_)
  obtain ⟨n9, hw⟩ := hw
  exact w_Ga_sumUp_3 C hr  n9 (S.1 24) (S.1 25) (S.1 26) (S.1 27) p3 0 hw _ _ _ (wn_eq w rfl) (lv_sub hl [1, 2, 3, 4, 0] rfl)
set_option maxHeartbeats 4000000 in
set_option maxRecDepth 100000 in
theorem c_Ga_mayBreak (l : Launch) (n0 : Nat) (G : va_G) (K : KT) (ad : Nat → Nat) (X : va_W) (S : ST) (p1 : Int32) (p2 : Int32) (post : Int32 → Prop) (hw : wp_Ga_mayBreak S p1 p2 post) : Met l y_Ga_mayBreak (Cond.code y_Ga_mayBreak prog_2_method_11_code 3 (some .boolean) :: gw) rm_Ga_mayBreak (va_Pc [.ref (ad 17), .int p1, .int p2] (wb n0 G K (wC K ad S ++ X))) (va_Qi (fun r (u : Unit) => post r) (fun (u : Unit) t => we n0 G (wC K ad S ++ X) t) (al n0)) 0 0 (al n0) := by
  refine kb_start (own := "LineBreaker$Galley") (by decide +kernel) rfl ?_
  intro p e s m below meth c C hr hnm w
  have hx := C.1
  have hb := C.2.1
  have hts := C.2.2.2.2.1
  have hl := lv_entry ([.ref (ad 17), .int p1, .int p2]) (n := 3) (Nat.le_of_ble_eq_true rfl)
  rw [lg_entry_eq]
  generalize (lg_sl ([.ref (ad 17), .int p1, .int p2]) ++ List.replicate (3 - (lg_sl ([.ref (ad 17), .int p1, .int p2])).length) Slot.unset).toArray = ls at hl ⊢
  have hl : lv_has ls 3 [(0, .ref (ad 17)), (1, .int p1), (2, .int p2)] := hl
  unfold wp_Ga_mayBreak at hw
  refine lv_aload_n hx hb d_Ga_mayBreak_0 rfl (lv_at hl 0 rfl) ?_
  refine kg (C1 := R_Ga) (T := F_Ga) (N := 12) (ci := 0) (ref := "LineBreaker$Galley") (v := .ref (ad 18)) C w 17 0 iw_Ga rfl rfl (by decide) kw_142 rfl rfl d_Ga_mayBreak_1 ?_
  refine lv_iload_n hx hb d_Ga_mayBreak_4 rfl (lv_at hl 1 rfl) ?_
  refine ka_i (f := (S.1 18)) C w 18 rfl hw.1 d_Ga_mayBreak_5 ?_
  have hw := hw.2
  by_cases h6_0 : ((S.1 18) p1.toNatClampNeg) = 1
  · have hw := hw.1 h6_0
    refine lv_tableIn (tgt := 42) hx hb d_Ga_mayBreak_6 (by rw [h6_0]; decide) (by rw [h6_0]; decide) (by rw [h6_0]; rfl) (by decide) ?_
    refine lv_iload_n hx hb d_Ga_mayBreak_42 rfl (lv_at hl 1 rfl) ?_
    refine lv_if_le (tgt := 78) hx hb d_Ga_mayBreak_43 (by decide) (fun hc => ?_) (fun hc => ?_)
    · have hw := hw.1 hc
      refine lv_iconst (v := 0) hx hb d_Ga_mayBreak_78 (by decide) ?_
      exact ke_z (post := (fun r (u : Unit) => post r)) (st := (fun (u : Unit) => wC K ad S ++ X)) (u := ()) C hr d_Ga_mayBreak_79 (wn_eq w rfl) (Or.inl rfl) hw
    · have hw := hw.2 hc
      refine lv_iload_n hx hb d_Ga_mayBreak_46 rfl (lv_at hl 1 rfl) ?_
      refine lv_iload_n hx hb d_Ga_mayBreak_47 rfl (lv_at hl 2 rfl) ?_
      refine lv_icmp_eq (tgt := 74) hx hb d_Ga_mayBreak_48 (by decide) (fun hc => ?_) (fun hc => ?_)
      · have hw := hw.1 hc
        refine lv_iconst (v := 1) hx hb d_Ga_mayBreak_74 (by decide) ?_
        refine lv_goto (tgt := 79) hx hb d_Ga_mayBreak_75 (by decide) ?_
        exact ke_z (post := (fun r (u : Unit) => post r)) (st := (fun (u : Unit) => wC K ad S ++ X)) (u := ()) C hr d_Ga_mayBreak_79 (wn_eq w rfl) (Or.inr rfl) hw
      · have hw := hw.2 hc
        refine lv_aload_n hx hb d_Ga_mayBreak_51 rfl (lv_at hl 0 rfl) ?_
        refine kg (C1 := R_Ga) (T := F_Ga) (N := 12) (ci := 0) (ref := "LineBreaker$Galley") (v := .ref (ad 18)) C w 17 0 iw_Ga rfl rfl (by decide) kw_142 rfl rfl d_Ga_mayBreak_52 ?_
        refine lv_iload_n hx hb d_Ga_mayBreak_55 rfl (lv_at hl 1 rfl) ?_
        refine lv_iconst (v := 1) hx hb d_Ga_mayBreak_56 (by decide) ?_
        refine lv_isub hx hb d_Ga_mayBreak_57 ?_
        refine ka_i (f := (S.1 18)) C w 18 rfl hw.1 d_Ga_mayBreak_58 ?_
        have hw := hw.2
        refine lv_if_eq (tgt := 74) hx hb d_Ga_mayBreak_59 (by decide) (fun hc => ?_) (fun hc => ?_)
        · have hw := hw.1 hc
          refine lv_iconst (v := 1) hx hb d_Ga_mayBreak_74 (by decide) ?_
          refine lv_goto (tgt := 79) hx hb d_Ga_mayBreak_75 (by decide) ?_
          exact ke_z (post := (fun r (u : Unit) => post r)) (st := (fun (u : Unit) => wC K ad S ++ X)) (u := ()) C hr d_Ga_mayBreak_79 (wn_eq w rfl) (Or.inr rfl) hw
        · have hw := hw.2 hc
          refine lv_aload_n hx hb d_Ga_mayBreak_62 rfl (lv_at hl 0 rfl) ?_
          refine kg (C1 := R_Ga) (T := F_Ga) (N := 12) (ci := 0) (ref := "LineBreaker$Galley") (v := .ref (ad 18)) C w 17 0 iw_Ga rfl rfl (by decide) kw_142 rfl rfl d_Ga_mayBreak_63 ?_
          refine lv_iload_n hx hb d_Ga_mayBreak_66 rfl (lv_at hl 1 rfl) ?_
          refine lv_iconst (v := 1) hx hb d_Ga_mayBreak_67 (by decide) ?_
          refine lv_isub hx hb d_Ga_mayBreak_68 ?_
          refine ka_i (f := (S.1 18)) C w 18 rfl hw.1 d_Ga_mayBreak_69 ?_
          have hw := hw.2
          refine lv_iconst (v := 2) hx hb d_Ga_mayBreak_70 (by decide) ?_
          refine lv_icmp_ne (tgt := 78) hx hb d_Ga_mayBreak_71 (by decide) (fun hc => ?_) (fun hc => ?_)
          · have hw := hw.1 hc
            refine lv_iconst (v := 0) hx hb d_Ga_mayBreak_78 (by decide) ?_
            exact ke_z (post := (fun r (u : Unit) => post r)) (st := (fun (u : Unit) => wC K ad S ++ X)) (u := ()) C hr d_Ga_mayBreak_79 (wn_eq w rfl) (Or.inl rfl) hw
          · have hw := hw.2 hc
            refine lv_iconst (v := 1) hx hb d_Ga_mayBreak_74 (by decide) ?_
            refine lv_goto (tgt := 79) hx hb d_Ga_mayBreak_75 (by decide) ?_
            exact ke_z (post := (fun r (u : Unit) => post r)) (st := (fun (u : Unit) => wC K ad S ++ X)) (u := ()) C hr d_Ga_mayBreak_79 (wn_eq w rfl) (Or.inr rfl) hw
  by_cases h6_1 : ((S.1 18) p1.toNatClampNeg) = 2
  · have hw := hw.2.1 h6_1
    refine lv_tableIn (tgt := 111) hx hb d_Ga_mayBreak_6 (by rw [h6_1]; decide) (by rw [h6_1]; decide) (by rw [h6_1]; rfl) (by decide) ?_
    refine lv_iconst (v := 0) hx hb d_Ga_mayBreak_111 (by decide) ?_
    exact ke_z (post := (fun r (u : Unit) => post r)) (st := (fun (u : Unit) => wC K ad S ++ X)) (u := ()) C hr d_Ga_mayBreak_112 (wn_eq w rfl) (Or.inl rfl) hw
  by_cases h6_2 : ((S.1 18) p1.toNatClampNeg) = 3
  · have hw := hw.2.2.1 h6_2
    refine lv_tableIn (tgt := 80) hx hb d_Ga_mayBreak_6 (by rw [h6_2]; decide) (by rw [h6_2]; decide) (by rw [h6_2]; rfl) (by decide) ?_
    refine lv_iload_n hx hb d_Ga_mayBreak_80 rfl (lv_at hl 1 rfl) ?_
    refine lv_iload_n hx hb d_Ga_mayBreak_81 rfl (lv_at hl 2 rfl) ?_
    refine lv_icmp_lt (tgt := 109) hx hb d_Ga_mayBreak_82 (by decide) (fun hc => ?_) (fun hc => ?_)
    · have hw := hw.1 hc
      refine lv_iconst (v := 0) hx hb d_Ga_mayBreak_109 (by decide) ?_
      exact ke_z (post := (fun r (u : Unit) => post r)) (st := (fun (u : Unit) => wC K ad S ++ X)) (u := ()) C hr d_Ga_mayBreak_110 (wn_eq w rfl) (Or.inl rfl) hw
    · have hw := hw.2 hc
      refine lv_iload_n hx hb d_Ga_mayBreak_85 rfl (lv_at hl 1 rfl) ?_
      refine lv_aload_n hx hb d_Ga_mayBreak_86 rfl (lv_at hl 0 rfl) ?_
      refine kg (C1 := R_Ga) (T := F_Ga) (N := 12) (ci := 0) (ref := "LineBreaker$Galley") (v := .int (S.2.2 1099)) C w 17 11 iw_Ga rfl rfl (by decide) kw_159 rfl rfl d_Ga_mayBreak_87 ?_
      refine lv_icmp_ge (tgt := 109) hx hb d_Ga_mayBreak_90 (by decide) (fun hc => ?_) (fun hc => ?_)
      · have hw := hw.1 hc
        refine lv_iconst (v := 0) hx hb d_Ga_mayBreak_109 (by decide) ?_
        exact ke_z (post := (fun r (u : Unit) => post r)) (st := (fun (u : Unit) => wC K ad S ++ X)) (u := ()) C hr d_Ga_mayBreak_110 (wn_eq w rfl) (Or.inl rfl) hw
      · have hw := hw.2 hc
        refine lv_aload_n hx hb d_Ga_mayBreak_93 rfl (lv_at hl 0 rfl) ?_
        refine kg (C1 := R_Ga) (T := F_Ga) (N := 12) (ci := 0) (ref := "LineBreaker$Galley") (v := .ref (ad 18)) C w 17 0 iw_Ga rfl rfl (by decide) kw_142 rfl rfl d_Ga_mayBreak_94 ?_
        refine lv_iload_n hx hb d_Ga_mayBreak_97 rfl (lv_at hl 1 rfl) ?_
        refine lv_iconst (v := 1) hx hb d_Ga_mayBreak_98 (by decide) ?_
        refine lv_iadd hx hb d_Ga_mayBreak_99 ?_
        refine ka_i (f := (S.1 18)) C w 18 rfl hw.1 d_Ga_mayBreak_100 ?_
        have hw := hw.2
        refine lv_iconst (v := 1) hx hb d_Ga_mayBreak_101 (by decide) ?_
        refine lv_icmp_ne (tgt := 109) hx hb d_Ga_mayBreak_102 (by decide) (fun hc => ?_) (fun hc => ?_)
        · have hw := hw.1 hc
          refine lv_iconst (v := 0) hx hb d_Ga_mayBreak_109 (by decide) ?_
          exact ke_z (post := (fun r (u : Unit) => post r)) (st := (fun (u : Unit) => wC K ad S ++ X)) (u := ()) C hr d_Ga_mayBreak_110 (wn_eq w rfl) (Or.inl rfl) hw
        · have hw := hw.2 hc
          refine lv_iconst (v := 1) hx hb d_Ga_mayBreak_105 (by decide) ?_
          refine lv_goto (tgt := 110) hx hb d_Ga_mayBreak_106 (by decide) ?_
          exact ke_z (post := (fun r (u : Unit) => post r)) (st := (fun (u : Unit) => wC K ad S ++ X)) (u := ()) C hr d_Ga_mayBreak_110 (wn_eq w rfl) (Or.inr rfl) hw
  by_cases h6_3 : ((S.1 18) p1.toNatClampNeg) = 4
  · have hw := hw.2.2.2.1 h6_3
    refine lv_tableIn (tgt := 40) hx hb d_Ga_mayBreak_6 (by rw [h6_3]; decide) (by rw [h6_3]; decide) (by rw [h6_3]; rfl) (by decide) ?_
    refine lv_iconst (v := 1) hx hb d_Ga_mayBreak_40 (by decide) ?_
    exact ke_z (post := (fun r (u : Unit) => post r)) (st := (fun (u : Unit) => wC K ad S ++ X)) (u := ()) C hr d_Ga_mayBreak_41 (wn_eq w rfl) (Or.inr rfl) hw
  by_cases h6_4 : ((S.1 18) p1.toNatClampNeg) = 5
  · have hw := hw.2.2.2.2.1 h6_4
    refine lv_tableIn (tgt := 40) hx hb d_Ga_mayBreak_6 (by rw [h6_4]; decide) (by rw [h6_4]; decide) (by rw [h6_4]; rfl) (by decide) ?_
    refine lv_iconst (v := 1) hx hb d_Ga_mayBreak_40 (by decide) ?_
    exact ke_z (post := (fun r (u : Unit) => post r)) (st := (fun (u : Unit) => wC K ad S ++ X)) (u := ()) C hr d_Ga_mayBreak_41 (wn_eq w rfl) (Or.inr rfl) hw
  have hw := hw.2.2.2.2.2 h6_0 h6_1 h6_2 h6_3 h6_4
  have t6_0 := lv_neT h6_0 (show (1 : Int32).toInt = 1 by decide)
  have t6_1 := lv_neT h6_1 (show (2 : Int32).toInt = 2 by decide)
  have t6_2 := lv_neT h6_2 (show (3 : Int32).toInt = 3 by decide)
  have t6_3 := lv_neT h6_3 (show (4 : Int32).toInt = 4 by decide)
  have t6_4 := lv_neT h6_4 (show (5 : Int32).toInt = 5 by decide)
  refine lv_tableOut (tgt := 111) hx hb d_Ga_mayBreak_6 (by omega) (by decide) ?_
  refine lv_iconst (v := 0) hx hb d_Ga_mayBreak_111 (by decide) ?_
  exact ke_z (post := (fun r (u : Unit) => post r)) (st := (fun (u : Unit) => wC K ad S ++ X)) (u := ()) C hr d_Ga_mayBreak_112 (wn_eq w rfl) (Or.inl rfl) hw
set_option maxHeartbeats 4000000 in
set_option maxRecDepth 100000 in
theorem w_Ga_markPlaces_48 {S : ST} {post : (Nat → Int32) → Prop} (C : cx p s m args meth c prog_2_method_10_code 5 "LineBreaker$Galley" n0 G K) (hr : meth.sig.returnType = none) {K5 : (Nat → Int32) → Int32 → Int32 → Int32 → Prop} (hk5 : ∀ (a20 : (Nat → Int32)) (x2 : Int32) (x3 : Int32) (x4 : Int32), K5 a20 x2 x3 x4 → ∀ (H : Heap) (locs : List Loc) (ls : Array Slot), wn n0 G (wC K ad (sA S 20 a20) ++ X) s H locs → lv_has ls 5 [(0, .ref (ad 17)), (1, .ref (ad 1)), (2, .int x2), (3, .int x3), (4, .int x4)] → W p l e rm_Ga_markPlaces s m args below meth c H locs 0 0 (MQ below (va_Qv (fun (u : (Nat → Int32)) => post u) (fun (u : (Nat → Int32)) t => we n0 G (wC K ad (sA S 20 u) ++ X) t) (al n0)) args s 0 0 (al n0)) (F0 m 5 ls [])) : ∀ (a20 : (Nat → Int32)) (x2 : Int32) (x3 : Int32) (x4 : Int32) (z1 : Int32) (z2 : Int32), wl_Ga_markPlaces_48 S post K5 a20 x2 x3 x4 z1 z2 → ∀ (H : Heap) (locs : List Loc) (ls : Array Slot), wn n0 G (wC K ad (sA S 20 a20) ++ X) s H locs → lv_has ls 5 [(0, .ref (ad 17)), (1, .ref (ad 1)), (2, .int x2), (3, .int x3), (4, .int x4)] → W p l e rm_Ga_markPlaces s m args below meth c H locs 0 0 (MQ below (va_Qv (fun (u : (Nat → Int32)) => post u) (fun (u : (Nat → Int32)) t => we n0 G (wC K ad (sA S 20 u) ++ X) t) (al n0)) args s 0 0 (al n0)) (F0 m 48 ls [.int z2, .int z1, .ref (ad 20)]) := by
  have hx := C.1
  have hb := C.2.1
  have hts := C.2.2.2.2.1
  intro a20 x2 x3 x4 z1 z2 hw H locs ls w hl
  unfold wl_Ga_markPlaces_48 at hw
  obtain ⟨f1, ef1⟩ : ∃ z : Nat → Int32, z = upd a20 z1.toNatClampNeg (vp_nar .boolean z2) := ⟨_, rfl⟩
  refine ks_z (f := a20) (w2 := wC K ad (sA S 20 f1) ++ X) C w 20 rfl hw.1 (by rw [← ef1]; rfl) d_Ga_markPlaces_48 (fun H locs w => ?_)
  have hw := hw.2 f1 ef1
  refine lv_iload hx hb d_Ga_markPlaces_49 (lv_at hl 4 rfl) ?_
  refine lv_iload_n hx hb d_Ga_markPlaces_51 rfl (lv_at hl 2 rfl) ?_
  refine lv_icmp_ge (tgt := 79) hx hb d_Ga_markPlaces_52 (by decide) (fun hc => ?_) (fun hc => ?_)
  · have hw := hw.1 hc
    obtain ⟨v2, ev2⟩ : ∃ y : Int32, y = x4 + 1 := ⟨_, rfl⟩
    refine lv_iinc (v := v2) (lv' := [(4, .int v2), (0, .ref (ad 17)), (1, .ref (ad 1)), (2, .int x2), (3, .int x3)]) hx hb d_Ga_markPlaces_79 hl (k := 4) rfl (by rw [ev2]; rfl) (by decide) rfl (fun ls hl => ?_)
    have hw := hw v2 ev2
    refine lv_goto (tgt := 5) hx hb d_Ga_markPlaces_82 (by decide) ?_
    exact hk5 f1 x2 x3 v2 hw _ _ _ (wn_eq w rfl) (lv_sub hl [1, 2, 3, 4, 0] rfl)
  · have hw := hw.2 hc
    refine lv_aload_n hx hb d_Ga_markPlaces_55 rfl (lv_at hl 0 rfl) ?_
    refine kg (C1 := R_Ga) (T := F_Ga) (N := 12) (ci := 0) (ref := "LineBreaker$Galley") (v := .ref (ad 18)) C w 17 0 iw_Ga rfl rfl (by decide) kw_142 rfl rfl d_Ga_markPlaces_56 ?_
    refine lv_iload hx hb d_Ga_markPlaces_59 (lv_at hl 4 rfl) ?_
    refine ka_i (f := (S.1 18)) C w 18 rfl hw.1 d_Ga_markPlaces_61 ?_
    have hw := hw.2
    refine lv_iconst (v := 5) hx hb d_Ga_markPlaces_62 (by decide) ?_
    refine lv_icmp_ne (tgt := 79) hx hb d_Ga_markPlaces_63 (by decide) (fun hc => ?_) (fun hc => ?_)
    · have hw := hw.1 hc
      obtain ⟨v3, ev3⟩ : ∃ y : Int32, y = x4 + 1 := ⟨_, rfl⟩
      refine lv_iinc (v := v3) (lv' := [(4, .int v3), (0, .ref (ad 17)), (1, .ref (ad 1)), (2, .int x2), (3, .int x3)]) hx hb d_Ga_markPlaces_79 hl (k := 4) rfl (by rw [ev3]; rfl) (by decide) rfl (fun ls hl => ?_)
      have hw := hw v3 ev3
      refine lv_goto (tgt := 5) hx hb d_Ga_markPlaces_82 (by decide) ?_
      exact hk5 f1 x2 x3 v3 hw _ _ _ (wn_eq w rfl) (lv_sub hl [1, 2, 3, 4, 0] rfl)
    · have hw := hw.2 hc
      refine lv_iload hx hb d_Ga_markPlaces_66 (lv_at hl 4 rfl) ?_
      refine lv_iconst (v := 1) hx hb d_Ga_markPlaces_68 (by decide) ?_
      refine lv_iadd hx hb d_Ga_markPlaces_69 ?_
      refine lv_aload_n hx hb d_Ga_markPlaces_70 rfl (lv_at hl 1 rfl) ?_
      refine kg (C1 := R_Pa) (T := F_Pa) (N := 10) (ci := 6) (ref := "LineBreaker$Paragraph") (v := .ref (ad 10)) C w 1 8 iw_Pa rfl rfl (by decide) kw_52 rfl rfl d_Ga_markPlaces_71 ?_
      refine lv_iload hx hb d_Ga_markPlaces_74 (lv_at hl 4 rfl) ?_
      refine ka_i (f := (S.1 10)) C w 10 rfl hw.1 d_Ga_markPlaces_76 ?_
      have hw := hw.2
      refine lv_iadd hx hb d_Ga_markPlaces_77 ?_
      refine lv_topi (fun v4 ev4 => ?_)
      have hw := hw v4 ev4
      refine lv_istore_n (lv' := [(3, .int v4), (0, .ref (ad 17)), (1, .ref (ad 1)), (2, .int x2), (4, .int x4)]) hx hb d_Ga_markPlaces_78 rfl hl (by decide) rfl (fun ls hl => ?_)
      obtain ⟨v5, ev5⟩ : ∃ y : Int32, y = x4 + 1 := ⟨_, rfl⟩
      refine lv_iinc (v := v5) (lv' := [(4, .int v5), (3, .int v4), (0, .ref (ad 17)), (1, .ref (ad 1)), (2, .int x2)]) hx hb d_Ga_markPlaces_79 hl (k := 4) rfl (by rw [ev5]; rfl) (by decide) rfl (fun ls hl => ?_)
      have hw := hw v5 ev5
      refine lv_goto (tgt := 5) hx hb d_Ga_markPlaces_82 (by decide) ?_
      exact hk5 f1 x2 v4 v5 hw _ _ _ (wn_eq w rfl) (lv_sub hl [2, 3, 4, 1, 0] rfl)
set_option maxHeartbeats 4000000 in
set_option maxRecDepth 100000 in
theorem w_Ga_markPlaces_47 {S : ST} {post : (Nat → Int32) → Prop} (C : cx p s m args meth c prog_2_method_10_code 5 "LineBreaker$Galley" n0 G K) (hr : meth.sig.returnType = none) {K5 : (Nat → Int32) → Int32 → Int32 → Int32 → Prop} (hk5 : ∀ (a20 : (Nat → Int32)) (x2 : Int32) (x3 : Int32) (x4 : Int32), K5 a20 x2 x3 x4 → ∀ (H : Heap) (locs : List Loc) (ls : Array Slot), wn n0 G (wC K ad (sA S 20 a20) ++ X) s H locs → lv_has ls 5 [(0, .ref (ad 17)), (1, .ref (ad 1)), (2, .int x2), (3, .int x3), (4, .int x4)] → W p l e rm_Ga_markPlaces s m args below meth c H locs 0 0 (MQ below (va_Qv (fun (u : (Nat → Int32)) => post u) (fun (u : (Nat → Int32)) t => we n0 G (wC K ad (sA S 20 u) ++ X) t) (al n0)) args s 0 0 (al n0)) (F0 m 5 ls [])) : ∀ (a20 : (Nat → Int32)) (x2 : Int32) (x3 : Int32) (x4 : Int32) (z1 : Int32), wl_Ga_markPlaces_47 S post K5 a20 x2 x3 x4 z1 → ∀ (H : Heap) (locs : List Loc) (ls : Array Slot), wn n0 G (wC K ad (sA S 20 a20) ++ X) s H locs → lv_has ls 5 [(0, .ref (ad 17)), (1, .ref (ad 1)), (2, .int x2), (3, .int x3), (4, .int x4)] → W p l e rm_Ga_markPlaces s m args below meth c H locs 0 0 (MQ below (va_Qv (fun (u : (Nat → Int32)) => post u) (fun (u : (Nat → Int32)) t => we n0 G (wC K ad (sA S 20 u) ++ X) t) (al n0)) args s 0 0 (al n0)) (F0 m 47 ls [.int z1, .ref (ad 20)]) := by
  have hx := C.1
  have hb := C.2.1
  have hts := C.2.2.2.2.1
  intro a20 x2 x3 x4 z1 hw H locs ls w hl
  unfold wl_Ga_markPlaces_47 at hw
  refine lv_iconst (v := 0) hx hb d_Ga_markPlaces_47 (by decide) ?_
  exact w_Ga_markPlaces_48 C hr hk5 a20 x2 x3 x4 z1 0 hw _ _ _ (wn_eq w rfl) (lv_sub hl [0, 1, 2, 3, 4] rfl)
set_option maxHeartbeats 4000000 in
set_option maxRecDepth 100000 in
theorem w_Ga_markPlaces_5 {S : ST} {post : (Nat → Int32) → Prop} (C : cx p s m args meth c prog_2_method_10_code 5 "LineBreaker$Galley" n0 G K) (hr : meth.sig.returnType = none) : ∀ (n : Nat) (a20 : (Nat → Int32)) (x2 : Int32) (x3 : Int32) (x4 : Int32), wl_Ga_markPlaces_5 S post n a20 x2 x3 x4 → ∀ (H : Heap) (locs : List Loc) (ls : Array Slot), wn n0 G (wC K ad (sA S 20 a20) ++ X) s H locs → lv_has ls 5 [(0, .ref (ad 17)), (1, .ref (ad 1)), (2, .int x2), (3, .int x3), (4, .int x4)] → W p l e rm_Ga_markPlaces s m args below meth c H locs 0 0 (MQ below (va_Qv (fun (u : (Nat → Int32)) => post u) (fun (u : (Nat → Int32)) t => we n0 G (wC K ad (sA S 20 u) ++ X) t) (al n0)) args s 0 0 (al n0)) (F0 m 5 ls []) := by
  have hx := C.1
  have hb := C.2.1
  have hts := C.2.2.2.2.1
  intro n
  induction n with
  | zero =>
    intro a20 x2 x3 x4 hw
    unfold wl_Ga_markPlaces_5 at hw
    exact hw.elim
  | succ n ih =>
    intro a20 x2 x3 x4 hw H locs ls w hl
    unfold wl_Ga_markPlaces_5 at hw
    refine lv_iload hx hb d_Ga_markPlaces_5 (lv_at hl 4 rfl) ?_
    refine lv_aload_n hx hb d_Ga_markPlaces_7 rfl (lv_at hl 0 rfl) ?_
    refine kg (C1 := R_Ga) (T := F_Ga) (N := 12) (ci := 0) (ref := "LineBreaker$Galley") (v := .int (S.2.2 1099)) C w 17 11 iw_Ga rfl rfl (by decide) kw_159 rfl rfl d_Ga_markPlaces_8 ?_
    refine lv_icmp_gt (tgt := 85) hx hb d_Ga_markPlaces_11 (by decide) (fun hc => ?_) (fun hc => ?_)
    · have hw := hw.1 hc
      exact ke_v (post := (fun (u : (Nat → Int32)) => post u)) (st := (fun (u : (Nat → Int32)) => wC K ad (sA S 20 u) ++ X)) (u := a20) C hr d_Ga_markPlaces_85 (wn_eq w rfl) hw
    · have hw := hw.2 hc
      refine lv_aload_n hx hb d_Ga_markPlaces_14 rfl (lv_at hl 0 rfl) ?_
      refine kg (C1 := R_Ga) (T := F_Ga) (N := 12) (ci := 0) (ref := "LineBreaker$Galley") (v := .ref (ad 20)) C w 17 2 iw_Ga rfl rfl (by decide) kw_145 rfl rfl d_Ga_markPlaces_15 ?_
      refine lv_iload hx hb d_Ga_markPlaces_18 (lv_at hl 4 rfl) ?_
      refine lv_aload_n hx hb d_Ga_markPlaces_20 rfl (lv_at hl 0 rfl) ?_
      refine kg (C1 := R_Ga) (T := F_Ga) (N := 12) (ci := 0) (ref := "LineBreaker$Galley") (v := .ref (ad 19)) C w 17 1 iw_Ga rfl rfl (by decide) kw_143 rfl rfl d_Ga_markPlaces_21 ?_
      refine lv_iload hx hb d_Ga_markPlaces_24 (lv_at hl 4 rfl) ?_
      refine ka_i (f := (S.1 19)) C w 19 rfl hw.1 d_Ga_markPlaces_26 ?_
      have hw := hw.2
      refine lv_sipush (v := 10000) hx hb d_Ga_markPlaces_27 (by decide) ?_
      refine lv_icmp_eq (tgt := 47) hx hb d_Ga_markPlaces_30 (by decide) (fun hc => ?_) (fun hc => ?_)
      · have hw := hw.1 hc
        exact w_Ga_markPlaces_47 C hr ih a20 x2 x3 x4 x4 hw _ _ _ (wn_eq w rfl) (lv_sub hl [0, 1, 2, 3, 4] rfl)
      · have hw := hw.2 hc
        refine lv_aload_n hx hb d_Ga_markPlaces_33 rfl (lv_at hl 0 rfl) ?_
        refine lv_iload hx hb d_Ga_markPlaces_34 (lv_at hl 4 rfl) ?_
        refine lv_iload_n hx hb d_Ga_markPlaces_36 rfl (lv_at hl 3 rfl) ?_
        refine kc_i (st := fun (u : Unit) => wC K ad (sA S 20 a20) ++ X) w (kr_V (y := y_Ga_mayBreak) (C1 := R_Ga) (T := F_Ga) (N := 12) (ci := 0) (q0 := 17) (As := [.int x4, .int x3]) (n := 2) C w (c_Ga_mayBreak l n0 G K ad X (sA S 20 a20) x4 x3 _ hw) (gw_V kw_699 kw_701 kp_8 kw_5 kw_702) (by decide +kernel) rfl rfl ⟨Nat.le_of_ble_eq_true rfl, Nat.le_of_ble_eq_true rfl⟩ rfl rfl rfl hl.1 rfl (Nat.le_of_ble_eq_true rfl) d_Ga_markPlaces_37 ⟨Nat.le_of_ble_eq_true rfl, Nat.le_of_ble_eq_true rfl⟩) (fun r1 u H locs hw w => ?_)
        refine lv_if_eq (tgt := 47) hx hb d_Ga_markPlaces_40 (by decide) (fun hc => ?_) (fun hc => ?_)
        · have hw := hw.1 hc
          exact w_Ga_markPlaces_47 C hr ih a20 x2 x3 x4 x4 hw _ _ _ (wn_eq w rfl) (lv_sub hl [0, 1, 2, 3, 4] rfl)
        · have hw := hw.2 hc
          refine lv_iconst (v := 1) hx hb d_Ga_markPlaces_43 (by decide) ?_
          refine lv_goto (tgt := 48) hx hb d_Ga_markPlaces_44 (by decide) ?_
          exact w_Ga_markPlaces_48 C hr ih a20 x2 x3 x4 x4 1 hw _ _ _ (wn_eq w rfl) (lv_sub hl [0, 1, 2, 3, 4] rfl)
set_option maxHeartbeats 4000000 in
set_option maxRecDepth 100000 in
theorem c_Ga_markPlaces (l : Launch) (n0 : Nat) (G : va_G) (K : KT) (ad : Nat → Nat) (X : va_W) (S : ST) (p2 : Int32) (post : (Nat → Int32) → Prop) (hw : wp_Ga_markPlaces S p2 post) : Met l y_Ga_markPlaces (Cond.code y_Ga_markPlaces prog_2_method_10_code 5 none :: gw) rm_Ga_markPlaces (va_Pc [.ref (ad 17), .ref (ad 1), .int p2] (wb n0 G K (wC K ad S ++ X))) (va_Qv (fun (u : (Nat → Int32)) => post u) (fun (u : (Nat → Int32)) t => we n0 G (wC K ad (sA S 20 u) ++ X) t) (al n0)) 0 0 (al n0) := by
  refine kb_start (own := "LineBreaker$Galley") (by decide +kernel) rfl ?_
  intro p e s m below meth c C hr hnm w
  have hx := C.1
  have hb := C.2.1
  have hts := C.2.2.2.2.1
  have hl := lv_entry ([.ref (ad 17), .ref (ad 1), .int p2]) (n := 5) (Nat.le_of_ble_eq_true rfl)
  rw [lg_entry_eq]
  generalize (lg_sl ([.ref (ad 17), .ref (ad 1), .int p2]) ++ List.replicate (5 - (lg_sl ([.ref (ad 17), .ref (ad 1), .int p2])).length) Slot.unset).toArray = ls at hl ⊢
  have hl : lv_has ls 5 [(0, .ref (ad 17)), (1, .ref (ad 1)), (2, .int p2)] := hl
  unfold wp_Ga_markPlaces at hw
  refine lv_iconst (v := 0) hx hb d_Ga_markPlaces_0 (by decide) ?_
  refine lv_istore_n (lv' := [(3, .int 0), (0, .ref (ad 17)), (1, .ref (ad 1)), (2, .int p2)]) hx hb d_Ga_markPlaces_1 rfl hl (by decide) rfl (fun ls hl => ?_)
  refine lv_iconst (v := 0) hx hb d_Ga_markPlaces_2 (by decide) ?_
  refine lv_istore (lv' := [(4, .int 0), (3, .int 0), (0, .ref (ad 17)), (1, .ref (ad 1)), (2, .int p2)]) hx hb d_Ga_markPlaces_3 hl (by decide) rfl (fun ls hl => ?_)
  obtain ⟨n9, hw⟩ := hw
  exact w_Ga_markPlaces_5 C hr  n9 (S.1 20) p2 0 0 hw _ _ _ (wn_eq w rfl) (lv_sub hl [2, 3, 4, 1, 0] rfl)
set_option maxHeartbeats 4000000 in
set_option maxRecDepth 100000 in
theorem c_Ga_isLeftOut (l : Launch) (n0 : Nat) (G : va_G) (K : KT) (ad : Nat → Nat) (X : va_W) (S : ST) (p1 : Int32) (post : Int32 → Prop) (hw : wp_Ga_isLeftOut S p1 post) : Met l y_Ga_isLeftOut (Cond.code y_Ga_isLeftOut prog_2_method_13_code 1 (some .boolean) :: gw) rm_Ga_isLeftOut (va_Pc [.int p1] (wb n0 G K (wC K ad S ++ X))) (va_Qi (fun r (u : Unit) => post r) (fun (u : Unit) t => we n0 G (wC K ad S ++ X) t) (al n0)) 0 0 (al n0) := by
  refine kb_start (own := "LineBreaker$Galley") (by decide +kernel) rfl ?_
  intro p e s m below meth c C hr hnm w
  have hx := C.1
  have hb := C.2.1
  have hts := C.2.2.2.2.1
  have hl := lv_entry ([.int p1]) (n := 1) (Nat.le_of_ble_eq_true rfl)
  rw [lg_entry_eq]
  generalize (lg_sl ([.int p1]) ++ List.replicate (1 - (lg_sl ([.int p1])).length) Slot.unset).toArray = ls at hl ⊢
  have hl : lv_has ls 1 [(0, .int p1)] := hl
  unfold wp_Ga_isLeftOut at hw
  refine lv_iload_n hx hb d_Ga_isLeftOut_0 rfl (lv_at hl 0 rfl) ?_
  refine lv_iconst (v := 1) hx hb d_Ga_isLeftOut_1 (by decide) ?_
  refine lv_icmp_eq (tgt := 15) hx hb d_Ga_isLeftOut_2 (by decide) (fun hc => ?_) (fun hc => ?_)
  · have hw := hw.1 hc
    refine lv_iconst (v := 1) hx hb d_Ga_isLeftOut_15 (by decide) ?_
    refine lv_goto (tgt := 20) hx hb d_Ga_isLeftOut_16 (by decide) ?_
    exact ke_z (post := (fun r (u : Unit) => post r)) (st := (fun (u : Unit) => wC K ad S ++ X)) (u := ()) C hr d_Ga_isLeftOut_20 (wn_eq w rfl) (Or.inr rfl) hw
  · have hw := hw.2 hc
    refine lv_iload_n hx hb d_Ga_isLeftOut_5 rfl (lv_at hl 0 rfl) ?_
    refine lv_iconst (v := 3) hx hb d_Ga_isLeftOut_6 (by decide) ?_
    refine lv_icmp_eq (tgt := 15) hx hb d_Ga_isLeftOut_7 (by decide) (fun hc => ?_) (fun hc => ?_)
    · have hw := hw.1 hc
      refine lv_iconst (v := 1) hx hb d_Ga_isLeftOut_15 (by decide) ?_
      refine lv_goto (tgt := 20) hx hb d_Ga_isLeftOut_16 (by decide) ?_
      exact ke_z (post := (fun r (u : Unit) => post r)) (st := (fun (u : Unit) => wC K ad S ++ X)) (u := ()) C hr d_Ga_isLeftOut_20 (wn_eq w rfl) (Or.inr rfl) hw
    · have hw := hw.2 hc
      refine lv_iload_n hx hb d_Ga_isLeftOut_10 rfl (lv_at hl 0 rfl) ?_
      refine lv_iconst (v := 4) hx hb d_Ga_isLeftOut_11 (by decide) ?_
      refine lv_icmp_ne (tgt := 19) hx hb d_Ga_isLeftOut_12 (by decide) (fun hc => ?_) (fun hc => ?_)
      · have hw := hw.1 hc
        refine lv_iconst (v := 0) hx hb d_Ga_isLeftOut_19 (by decide) ?_
        exact ke_z (post := (fun r (u : Unit) => post r)) (st := (fun (u : Unit) => wC K ad S ++ X)) (u := ()) C hr d_Ga_isLeftOut_20 (wn_eq w rfl) (Or.inl rfl) hw
      · have hw := hw.2 hc
        refine lv_iconst (v := 1) hx hb d_Ga_isLeftOut_15 (by decide) ?_
        refine lv_goto (tgt := 20) hx hb d_Ga_isLeftOut_16 (by decide) ?_
        exact ke_z (post := (fun r (u : Unit) => post r)) (st := (fun (u : Unit) => wC K ad S ++ X)) (u := ()) C hr d_Ga_isLeftOut_20 (wn_eq w rfl) (Or.inr rfl) hw
set_option maxHeartbeats 4000000 in
set_option maxRecDepth 100000 in
theorem w_Ga_findFirstOnes_55 {S : ST} {post : (Nat → Int32) → (Nat → Int32) → Prop} (C : cx p s m args meth c prog_2_method_12_code 5 "LineBreaker$Galley" n0 G K) (hr : meth.sig.returnType = none) {K22 : (Nat → Int32) → (Nat → Int32) → Int32 → Int32 → Prop} (hk22 : ∀ (a21 : (Nat → Int32)) (a28 : (Nat → Int32)) (x2 : Int32) (x3 : Int32), K22 a21 a28 x2 x3 → ∀ (H : Heap) (locs : List Loc) (ls : Array Slot), wn n0 G (wC K ad (sA (sA S 21 a21) 28 a28) ++ X) s H locs → lv_has ls 5 [(0, .ref (ad 17)), (1, .ref (ad 1)), (2, .int x2), (3, .int x3)] → W p l e rm_Ga_findFirstOnes s m args below meth c H locs 0 0 (MQ below (va_Qv (fun (u : (Nat → Int32) × (Nat → Int32)) => post u.1 u.2) (fun (u : (Nat → Int32) × (Nat → Int32)) t => we n0 G (wC K ad (sA (sA S 21 u.1) 28 u.2) ++ X) t) (al n0)) args s 0 0 (al n0)) (F0 m 22 ls [])) : ∀ (a21 : (Nat → Int32)) (a28 : (Nat → Int32)) (x2 : Int32) (x3 : Int32) (z1 : Int32) (z2 : Int32), wl_Ga_findFirstOnes_55 S post K22 a21 a28 x2 x3 z1 z2 → ∀ (H : Heap) (locs : List Loc) (ls : Array Slot), wn n0 G (wC K ad (sA (sA S 21 a21) 28 a28) ++ X) s H locs → lv_has ls 5 [(0, .ref (ad 17)), (1, .ref (ad 1)), (2, .int x2), (3, .int x3)] → W p l e rm_Ga_findFirstOnes s m args below meth c H locs 0 0 (MQ below (va_Qv (fun (u : (Nat → Int32) × (Nat → Int32)) => post u.1 u.2) (fun (u : (Nat → Int32) × (Nat → Int32)) t => we n0 G (wC K ad (sA (sA S 21 u.1) 28 u.2) ++ X) t) (al n0)) args s 0 0 (al n0)) (F0 m 55 ls [.int z2, .int z1, .ref (ad 28)]) := by
  have hx := C.1
  have hb := C.2.1
  have hts := C.2.2.2.2.1
  intro a21 a28 x2 x3 z1 z2 hw H locs ls w hl
  unfold wl_Ga_findFirstOnes_55 at hw
  obtain ⟨f1, ef1⟩ : ∃ z : Nat → Int32, z = upd a28 z1.toNatClampNeg z2 := ⟨_, rfl⟩
  refine ks_i (f := a28) (w2 := wC K ad (sA (sA S 21 a21) 28 f1) ++ X) C w 28 rfl hw.1 (by rw [← ef1]; rfl) d_Ga_findFirstOnes_55 (fun H locs w => ?_)
  have hw := hw.2 f1 ef1
  refine lv_aload_n hx hb d_Ga_findFirstOnes_56 rfl (lv_at hl 0 rfl) ?_
  refine kg (C1 := R_Ga) (T := F_Ga) (N := 12) (ci := 0) (ref := "LineBreaker$Galley") (v := .ref (ad 21)) C w 17 3 iw_Ga rfl rfl (by decide) kw_146 rfl rfl d_Ga_findFirstOnes_57 ?_
  refine lv_iload_n hx hb d_Ga_findFirstOnes_60 rfl (lv_at hl 3 rfl) ?_
  refine lv_aload_n hx hb d_Ga_findFirstOnes_61 rfl (lv_at hl 0 rfl) ?_
  refine kg (C1 := R_Ga) (T := F_Ga) (N := 12) (ci := 0) (ref := "LineBreaker$Galley") (v := .ref (ad 28)) C w 17 10 iw_Ga rfl rfl (by decide) kw_158 rfl rfl d_Ga_findFirstOnes_62 ?_
  refine lv_iload_n hx hb d_Ga_findFirstOnes_65 rfl (lv_at hl 3 rfl) ?_
  refine ka_i (f := f1) C w 28 rfl hw.1 d_Ga_findFirstOnes_66 ?_
  have hw := hw.2
  obtain ⟨f2, ef2⟩ : ∃ z : Nat → Int32, z = upd a21 x3.toNatClampNeg (f1 x3.toNatClampNeg) := ⟨_, rfl⟩
  refine ks_i (f := a21) (w2 := wC K ad (sA (sA S 21 f2) 28 f1) ++ X) C w 21 rfl hw.1 (by rw [← ef2]; rfl) d_Ga_findFirstOnes_67 (fun H locs w => ?_)
  have hw := hw.2 f2 ef2
  refine lv_iload_n hx hb d_Ga_findFirstOnes_68 rfl (lv_at hl 3 rfl) ?_
  refine lv_iload_n hx hb d_Ga_findFirstOnes_69 rfl (lv_at hl 2 rfl) ?_
  refine lv_icmp_ge (tgt := 131) hx hb d_Ga_findFirstOnes_70 (by decide) (fun hc => ?_) (fun hc => ?_)
  · have hw := hw.1 hc
    obtain ⟨v3, ev3⟩ : ∃ y : Int32, y = x3 + (-1) := ⟨_, rfl⟩
    refine lv_iinc (v := v3) (lv' := [(3, .int v3), (0, .ref (ad 17)), (1, .ref (ad 1)), (2, .int x2)]) hx hb d_Ga_findFirstOnes_131 hl (k := 3) rfl (by rw [ev3]; rfl) (by decide) rfl (fun ls hl => ?_)
    have hw := hw v3 ev3
    refine lv_goto (tgt := 22) hx hb d_Ga_findFirstOnes_134 (by decide) ?_
    exact hk22 f2 f1 x2 v3 hw _ _ _ (wn_eq w rfl) (lv_sub hl [1, 2, 3, 0] rfl)
  · have hw := hw.2 hc
    refine lv_aload_n hx hb d_Ga_findFirstOnes_73 rfl (lv_at hl 0 rfl) ?_
    refine kg (C1 := R_Ga) (T := F_Ga) (N := 12) (ci := 0) (ref := "LineBreaker$Galley") (v := .ref (ad 18)) C w 17 0 iw_Ga rfl rfl (by decide) kw_142 rfl rfl d_Ga_findFirstOnes_74 ?_
    refine lv_iload_n hx hb d_Ga_findFirstOnes_77 rfl (lv_at hl 3 rfl) ?_
    refine ka_i (f := (S.1 18)) C w 18 rfl hw.1 d_Ga_findFirstOnes_78 ?_
    have hw := hw.2
    refine lv_iconst (v := 5) hx hb d_Ga_findFirstOnes_79 (by decide) ?_
    refine lv_icmp_ne (tgt := 131) hx hb d_Ga_findFirstOnes_80 (by decide) (fun hc => ?_) (fun hc => ?_)
    · have hw := hw.1 hc
      obtain ⟨v4, ev4⟩ : ∃ y : Int32, y = x3 + (-1) := ⟨_, rfl⟩
      refine lv_iinc (v := v4) (lv' := [(3, .int v4), (0, .ref (ad 17)), (1, .ref (ad 1)), (2, .int x2)]) hx hb d_Ga_findFirstOnes_131 hl (k := 3) rfl (by rw [ev4]; rfl) (by decide) rfl (fun ls hl => ?_)
      have hw := hw v4 ev4
      refine lv_goto (tgt := 22) hx hb d_Ga_findFirstOnes_134 (by decide) ?_
      exact hk22 f2 f1 x2 v4 hw _ _ _ (wn_eq w rfl) (lv_sub hl [1, 2, 3, 0] rfl)
    · have hw := hw.2 hc
      refine lv_iload_n hx hb d_Ga_findFirstOnes_83 rfl (lv_at hl 3 rfl) ?_
      refine lv_iconst (v := 1) hx hb d_Ga_findFirstOnes_84 (by decide) ?_
      refine lv_iadd hx hb d_Ga_findFirstOnes_85 ?_
      refine lv_aload_n hx hb d_Ga_findFirstOnes_86 rfl (lv_at hl 1 rfl) ?_
      refine kg (C1 := R_Pa) (T := F_Pa) (N := 10) (ci := 6) (ref := "LineBreaker$Paragraph") (v := .ref (ad 10)) C w 1 8 iw_Pa rfl rfl (by decide) kw_52 rfl rfl d_Ga_findFirstOnes_87 ?_
      refine lv_iload_n hx hb d_Ga_findFirstOnes_90 rfl (lv_at hl 3 rfl) ?_
      refine ka_i (f := (S.1 10)) C w 10 rfl hw.1 d_Ga_findFirstOnes_91 ?_
      have hw := hw.2
      refine lv_iadd hx hb d_Ga_findFirstOnes_92 ?_
      refine lv_aload_n hx hb d_Ga_findFirstOnes_93 rfl (lv_at hl 0 rfl) ?_
      refine kg (C1 := R_Ga) (T := F_Ga) (N := 12) (ci := 0) (ref := "LineBreaker$Galley") (v := .int (S.2.2 1099)) C w 17 11 iw_Ga rfl rfl (by decide) kw_159 rfl rfl d_Ga_findFirstOnes_94 ?_
      refine va_mmin hx hb (C.2.2.1.trans hl.1.symm) C.2.2.2.1 (hts _ kw_710) (hts _ kw_563) (hts _ kw_17) (hts _ kw_564) (Nat.le_of_ble_eq_true rfl) (Nat.le_of_ble_eq_true rfl) (Nat.zero_le _) (Nat.zero_le _) d_Ga_findFirstOnes_97 ?_
      refine lv_topi (fun v5 ev5 => ?_)
      have hw := hw v5 ev5
      refine lv_istore (lv' := [(4, .int v5), (0, .ref (ad 17)), (1, .ref (ad 1)), (2, .int x2), (3, .int x3)]) hx hb d_Ga_findFirstOnes_100 hl (by decide) rfl (fun ls hl => ?_)
      refine lv_aload_n hx hb d_Ga_findFirstOnes_102 rfl (lv_at hl 1 rfl) ?_
      refine kg (C1 := R_Ga) (T := F_Ga) (N := 12) (ci := 0) (ref := "LineBreaker$Galley") (v := .ref (ad 21)) C w 17 3 iw_Ga rfl rfl (by decide) kw_146 rfl rfl d_Ga_findFirstOnes_103 ?_
      refine lv_iload_n hx hb d_Ga_findFirstOnes_106 rfl (lv_at hl 4 rfl) ?_
      refine lv_aload_n hx hb d_Ga_findFirstOnes_107 rfl (lv_at hl 2 rfl) ?_
      refine kg (C1 := R_Pa) (T := F_Pa) (N := 10) (ci := 6) (ref := "LineBreaker$Paragraph") (v := .ref (ad 9)) C w 1 7 iw_Pa rfl rfl (by decide) kw_50 rfl rfl d_Ga_findFirstOnes_108 ?_
      refine lv_iload_n hx hb d_Ga_findFirstOnes_111 rfl (lv_at hl 4 rfl) ?_
      refine ka_i (f := (S.1 9)) C w 9 rfl hw.1 d_Ga_findFirstOnes_112 ?_
      have hw := hw.2
      refine lv_ldc (v := (-1073741824)) hx hb C.2.2.2.1 (hts _ kw_677) d_Ga_findFirstOnes_113 ?_
      refine lv_icmp_ne (tgt := 128) hx hb d_Ga_findFirstOnes_115 (by decide) (fun hc => ?_) (fun hc => ?_)
      · have hw := hw.1 hc
        refine lv_iload hx hb d_Ga_findFirstOnes_128 (lv_at hl 0 rfl) ?_
        obtain ⟨f6, ef6⟩ : ∃ z : Nat → Int32, z = upd f2 x3.toNatClampNeg v5 := ⟨_, rfl⟩
        refine ks_i (f := f2) (w2 := wC K ad (sA (sA S 21 f6) 28 f1) ++ X) C w 21 rfl hw.1 (by rw [← ef6]; rfl) d_Ga_findFirstOnes_130 (fun H locs w => ?_)
        have hw := hw.2 f6 ef6
        obtain ⟨v7, ev7⟩ : ∃ y : Int32, y = x3 + (-1) := ⟨_, rfl⟩
        refine lv_iinc (v := v7) (lv' := [(3, .int v7), (4, .int v5), (0, .ref (ad 17)), (1, .ref (ad 1)), (2, .int x2)]) hx hb d_Ga_findFirstOnes_131 hl (k := 4) rfl (by rw [ev7]; rfl) (by decide) rfl (fun ls hl => ?_)
        have hw := hw v7 ev7
        refine lv_goto (tgt := 22) hx hb d_Ga_findFirstOnes_134 (by decide) ?_
        exact hk22 f6 f1 x2 v7 hw _ _ _ (wn_eq w rfl) (lv_sub hl [2, 3, 4, 0] rfl)
      · have hw := hw.2 hc
        refine lv_aload_n hx hb d_Ga_findFirstOnes_118 rfl (lv_at hl 1 rfl) ?_
        refine kg (C1 := R_Ga) (T := F_Ga) (N := 12) (ci := 0) (ref := "LineBreaker$Galley") (v := .ref (ad 28)) C w 17 10 iw_Ga rfl rfl (by decide) kw_158 rfl rfl d_Ga_findFirstOnes_119 ?_
        refine lv_iload hx hb d_Ga_findFirstOnes_122 (lv_at hl 0 rfl) ?_
        refine ka_i (f := f1) C w 28 rfl hw.1 d_Ga_findFirstOnes_124 ?_
        have hw := hw.2
        refine lv_goto (tgt := 130) hx hb d_Ga_findFirstOnes_125 (by decide) ?_
        obtain ⟨f8, ef8⟩ : ∃ z : Nat → Int32, z = upd f2 x3.toNatClampNeg (f1 v5.toNatClampNeg) := ⟨_, rfl⟩
        refine ks_i (f := f2) (w2 := wC K ad (sA (sA S 21 f8) 28 f1) ++ X) C w 21 rfl hw.1 (by rw [← ef8]; rfl) d_Ga_findFirstOnes_130 (fun H locs w => ?_)
        have hw := hw.2 f8 ef8
        obtain ⟨v9, ev9⟩ : ∃ y : Int32, y = x3 + (-1) := ⟨_, rfl⟩
        refine lv_iinc (v := v9) (lv' := [(3, .int v9), (4, .int v5), (0, .ref (ad 17)), (1, .ref (ad 1)), (2, .int x2)]) hx hb d_Ga_findFirstOnes_131 hl (k := 4) rfl (by rw [ev9]; rfl) (by decide) rfl (fun ls hl => ?_)
        have hw := hw v9 ev9
        refine lv_goto (tgt := 22) hx hb d_Ga_findFirstOnes_134 (by decide) ?_
        exact hk22 f8 f1 x2 v9 hw _ _ _ (wn_eq w rfl) (lv_sub hl [2, 3, 4, 0] rfl)
set_option maxHeartbeats 4000000 in
set_option maxRecDepth 100000 in
theorem w_Ga_findFirstOnes_22 {S : ST} {post : (Nat → Int32) → (Nat → Int32) → Prop} (C : cx p s m args meth c prog_2_method_12_code 5 "LineBreaker$Galley" n0 G K) (hr : meth.sig.returnType = none) : ∀ (n : Nat) (a21 : (Nat → Int32)) (a28 : (Nat → Int32)) (x2 : Int32) (x3 : Int32), wl_Ga_findFirstOnes_22 S post n a21 a28 x2 x3 → ∀ (H : Heap) (locs : List Loc) (ls : Array Slot), wn n0 G (wC K ad (sA (sA S 21 a21) 28 a28) ++ X) s H locs → lv_has ls 5 [(0, .ref (ad 17)), (1, .ref (ad 1)), (2, .int x2), (3, .int x3)] → W p l e rm_Ga_findFirstOnes s m args below meth c H locs 0 0 (MQ below (va_Qv (fun (u : (Nat → Int32) × (Nat → Int32)) => post u.1 u.2) (fun (u : (Nat → Int32) × (Nat → Int32)) t => we n0 G (wC K ad (sA (sA S 21 u.1) 28 u.2) ++ X) t) (al n0)) args s 0 0 (al n0)) (F0 m 22 ls []) := by
  have hx := C.1
  have hb := C.2.1
  have hts := C.2.2.2.2.1
  intro n
  induction n with
  | zero =>
    intro a21 a28 x2 x3 hw
    unfold wl_Ga_findFirstOnes_22 at hw
    exact hw.elim
  | succ n ih =>
    intro a21 a28 x2 x3 hw H locs ls w hl
    unfold wl_Ga_findFirstOnes_22 at hw
    refine lv_iload_n hx hb d_Ga_findFirstOnes_22 rfl (lv_at hl 3 rfl) ?_
    refine lv_if_lt (tgt := 137) hx hb d_Ga_findFirstOnes_23 (by decide) (fun hc => ?_) (fun hc => ?_)
    · have hw := hw.1 hc
      exact ke_v (post := (fun (u : (Nat → Int32) × (Nat → Int32)) => post u.1 u.2)) (st := (fun (u : (Nat → Int32) × (Nat → Int32)) => wC K ad (sA (sA S 21 u.1) 28 u.2) ++ X)) (u := (a21, a28)) C hr d_Ga_findFirstOnes_137 (wn_eq w rfl) hw
    · have hw := hw.2 hc
      refine lv_aload_n hx hb d_Ga_findFirstOnes_26 rfl (lv_at hl 0 rfl) ?_
      refine kg (C1 := R_Ga) (T := F_Ga) (N := 12) (ci := 0) (ref := "LineBreaker$Galley") (v := .ref (ad 28)) C w 17 10 iw_Ga rfl rfl (by decide) kw_158 rfl rfl d_Ga_findFirstOnes_27 ?_
      refine lv_iload_n hx hb d_Ga_findFirstOnes_30 rfl (lv_at hl 3 rfl) ?_
      refine lv_aload_n hx hb d_Ga_findFirstOnes_31 rfl (lv_at hl 0 rfl) ?_
      refine kg (C1 := R_Ga) (T := F_Ga) (N := 12) (ci := 0) (ref := "LineBreaker$Galley") (v := .ref (ad 18)) C w 17 0 iw_Ga rfl rfl (by decide) kw_142 rfl rfl d_Ga_findFirstOnes_32 ?_
      refine lv_iload_n hx hb d_Ga_findFirstOnes_35 rfl (lv_at hl 3 rfl) ?_
      refine ka_i (f := (S.1 18)) C w 18 rfl hw.1 d_Ga_findFirstOnes_36 ?_
      have hw := hw.2
      refine kc_i (st := fun (u : Unit) => wC K ad (sA (sA S 21 a21) 28 a28) ++ X) w (kr_S (y := y_Ga_isLeftOut) (As := [.int ((S.1 18) x3.toNatClampNeg)]) (n := 1) C w (c_Ga_isLeftOut l n0 G K ad X (sA (sA S 21 a21) 28 a28) ((S.1 18) x3.toNatClampNeg) _ hw) (gw_S kw_707 kw_708 kw_5 kw_709) (by decide +kernel) rfl rfl ⟨Nat.le_of_ble_eq_true rfl, Nat.le_of_ble_eq_true rfl⟩ rfl hl.1 rfl (Nat.le_of_ble_eq_true rfl) d_Ga_findFirstOnes_37 ⟨Nat.le_of_ble_eq_true rfl, Nat.le_of_ble_eq_true rfl⟩) (fun r1 u H locs hw w => ?_)
      refine lv_if_eq (tgt := 54) hx hb d_Ga_findFirstOnes_40 (by decide) (fun hc => ?_) (fun hc => ?_)
      · have hw := hw.1 hc
        refine lv_iload_n hx hb d_Ga_findFirstOnes_54 rfl (lv_at hl 3 rfl) ?_
        exact w_Ga_findFirstOnes_55 C hr ih a21 a28 x2 x3 x3 x3 hw _ _ _ (wn_eq w rfl) (lv_sub hl [0, 1, 2, 3] rfl)
      · have hw := hw.2 hc
        refine lv_aload_n hx hb d_Ga_findFirstOnes_43 rfl (lv_at hl 0 rfl) ?_
        refine kg (C1 := R_Ga) (T := F_Ga) (N := 12) (ci := 0) (ref := "LineBreaker$Galley") (v := .ref (ad 28)) C w 17 10 iw_Ga rfl rfl (by decide) kw_158 rfl rfl d_Ga_findFirstOnes_44 ?_
        refine lv_iload_n hx hb d_Ga_findFirstOnes_47 rfl (lv_at hl 3 rfl) ?_
        refine lv_iconst (v := 1) hx hb d_Ga_findFirstOnes_48 (by decide) ?_
        refine lv_iadd hx hb d_Ga_findFirstOnes_49 ?_
        refine ka_i (f := a28) C w 28 rfl hw.1 d_Ga_findFirstOnes_50 ?_
        have hw := hw.2
        refine lv_goto (tgt := 55) hx hb d_Ga_findFirstOnes_51 (by decide) ?_
        exact w_Ga_findFirstOnes_55 C hr ih a21 a28 x2 x3 x3 (a28 (x3 + 1).toNatClampNeg) hw _ _ _ (wn_eq w rfl) (lv_sub hl [0, 1, 2, 3] rfl)
set_option maxHeartbeats 4000000 in
set_option maxRecDepth 100000 in
theorem c_Ga_findFirstOnes (l : Launch) (n0 : Nat) (G : va_G) (K : KT) (ad : Nat → Nat) (X : va_W) (S : ST) (p2 : Int32) (post : (Nat → Int32) → (Nat → Int32) → Prop) (hw : wp_Ga_findFirstOnes S p2 post) : Met l y_Ga_findFirstOnes (Cond.code y_Ga_findFirstOnes prog_2_method_12_code 5 none :: gw) rm_Ga_findFirstOnes (va_Pc [.ref (ad 17), .ref (ad 1), .int p2] (wb n0 G K (wC K ad S ++ X))) (va_Qv (fun (u : (Nat → Int32) × (Nat → Int32)) => post u.1 u.2) (fun (u : (Nat → Int32) × (Nat → Int32)) t => we n0 G (wC K ad (sA (sA S 21 u.1) 28 u.2) ++ X) t) (al n0)) 0 0 (al n0) := by
  refine kb_start (own := "LineBreaker$Galley") (by decide +kernel) rfl ?_
  intro p e s m below meth c C hr hnm w
  have hx := C.1
  have hb := C.2.1
  have hts := C.2.2.2.2.1
  have hl := lv_entry ([.ref (ad 17), .ref (ad 1), .int p2]) (n := 5) (Nat.le_of_ble_eq_true rfl)
  rw [lg_entry_eq]
  generalize (lg_sl ([.ref (ad 17), .ref (ad 1), .int p2]) ++ List.replicate (5 - (lg_sl ([.ref (ad 17), .ref (ad 1), .int p2])).length) Slot.unset).toArray = ls at hl ⊢
  have hl : lv_has ls 5 [(0, .ref (ad 17)), (1, .ref (ad 1)), (2, .int p2)] := hl
  unfold wp_Ga_findFirstOnes at hw
  refine lv_aload_n hx hb d_Ga_findFirstOnes_0 rfl (lv_at hl 0 rfl) ?_
  refine kg (C1 := R_Ga) (T := F_Ga) (N := 12) (ci := 0) (ref := "LineBreaker$Galley") (v := .ref (ad 28)) C w 17 10 iw_Ga rfl rfl (by decide) kw_158 rfl rfl d_Ga_findFirstOnes_1 ?_
  refine lv_aload_n hx hb d_Ga_findFirstOnes_4 rfl (lv_at hl 0 rfl) ?_
  refine kg (C1 := R_Ga) (T := F_Ga) (N := 12) (ci := 0) (ref := "LineBreaker$Galley") (v := .int (S.2.2 1099)) C w 17 11 iw_Ga rfl rfl (by decide) kw_159 rfl rfl d_Ga_findFirstOnes_5 ?_
  refine lv_iconst (v := 1) hx hb d_Ga_findFirstOnes_8 (by decide) ?_
  refine lv_iadd hx hb d_Ga_findFirstOnes_9 ?_
  refine lv_aload_n hx hb d_Ga_findFirstOnes_10 rfl (lv_at hl 0 rfl) ?_
  refine kg (C1 := R_Ga) (T := F_Ga) (N := 12) (ci := 0) (ref := "LineBreaker$Galley") (v := .int (S.2.2 1099)) C w 17 11 iw_Ga rfl rfl (by decide) kw_159 rfl rfl d_Ga_findFirstOnes_11 ?_
  refine lv_iconst (v := 1) hx hb d_Ga_findFirstOnes_14 (by decide) ?_
  refine lv_iadd hx hb d_Ga_findFirstOnes_15 ?_
  obtain ⟨f1, ef1⟩ : ∃ z : Nat → Int32, z = upd (S.1 28) (((S.2.2 1099) + 1).toNatClampNeg) ((S.2.2 1099) + 1) := ⟨_, rfl⟩
  refine ks_i (f := (S.1 28)) (w2 := wC K ad (sA S 28 f1) ++ X) C w 28 rfl hw.1 (by rw [← ef1]; rfl) d_Ga_findFirstOnes_16 (fun H locs w => ?_)
  have hw := hw.2 f1 ef1
  refine lv_aload_n hx hb d_Ga_findFirstOnes_17 rfl (lv_at hl 0 rfl) ?_
  refine kg (C1 := R_Ga) (T := F_Ga) (N := 12) (ci := 0) (ref := "LineBreaker$Galley") (v := .int (S.2.2 1099)) C w 17 11 iw_Ga rfl rfl (by decide) kw_159 rfl rfl d_Ga_findFirstOnes_18 ?_
  refine lv_topi (fun v2 ev2 => ?_)
  have hw := hw v2 ev2
  refine lv_istore_n (lv' := [(3, .int v2), (0, .ref (ad 17)), (1, .ref (ad 1)), (2, .int p2)]) hx hb d_Ga_findFirstOnes_21 rfl hl (by decide) rfl (fun ls hl => ?_)
  obtain ⟨n9, hw⟩ := hw
  exact w_Ga_findFirstOnes_22 C hr  n9 (S.1 21) f1 p2 v2 hw _ _ _ (wn_eq w rfl) (lv_sub hl [1, 2, 3, 0] rfl)
set_option maxHeartbeats 4000000 in
set_option maxRecDepth 100000 in
theorem c_Ga_prepare (l : Launch) (n0 : Nat) (G : va_G) (K : KT) (ad : Nat → Nat) (X : va_W) (S : ST) (post : (Nat → Int32) → (Nat → Int32) → (Nat → Int32) → (Nat → Int32) → (Nat → Int32) → (Nat → Int32) → (Nat → Int32) → (Nat → Int32) → (Nat → Int32) → (Nat → Int32) → (Nat → Int32) → Int32 → Prop) (hw : wp_Ga_prepare S  post) : Met l y_Ga_prepare (Cond.code y_Ga_prepare prog_2_method_2_code 4 none :: gw) rm_Ga_prepare (va_Pc [.ref (ad 17), .ref (ad 1), .ref (ad 11)] (wb n0 G K (wC K ad S ++ X))) (va_Qv (fun (u : (Nat → Int32) × (Nat → Int32) × (Nat → Int32) × (Nat → Int32) × (Nat → Int32) × (Nat → Int32) × (Nat → Int32) × (Nat → Int32) × (Nat → Int32) × (Nat → Int32) × (Nat → Int32) × Int32) => post u.1 u.2.1 u.2.2.1 u.2.2.2.1 u.2.2.2.2.1 u.2.2.2.2.2.1 u.2.2.2.2.2.2.1 u.2.2.2.2.2.2.2.1 u.2.2.2.2.2.2.2.2.1 u.2.2.2.2.2.2.2.2.2.1 u.2.2.2.2.2.2.2.2.2.2.1 u.2.2.2.2.2.2.2.2.2.2.2) (fun (u : (Nat → Int32) × (Nat → Int32) × (Nat → Int32) × (Nat → Int32) × (Nat → Int32) × (Nat → Int32) × (Nat → Int32) × (Nat → Int32) × (Nat → Int32) × (Nat → Int32) × (Nat → Int32) × Int32) t => we n0 G (wC K ad (sI (sA (sA (sA (sA (sA (sA (sA (sA (sA (sA (sA S 18 u.1) 19 u.2.1) 20 u.2.2.1) 21 u.2.2.2.1) 22 u.2.2.2.2.1) 23 u.2.2.2.2.2.1) 24 u.2.2.2.2.2.2.1) 25 u.2.2.2.2.2.2.2.1) 26 u.2.2.2.2.2.2.2.2.1) 27 u.2.2.2.2.2.2.2.2.2.1) 28 u.2.2.2.2.2.2.2.2.2.2.1) 1099 u.2.2.2.2.2.2.2.2.2.2.2) ++ X) t) (al n0)) 0 0 (al n0) := by
  refine kb_start (own := "LineBreaker$Galley") (by decide +kernel) rfl ?_
  intro p e s m below meth c C hr hnm w
  have hx := C.1
  have hb := C.2.1
  have hts := C.2.2.2.2.1
  have hl := lv_entry ([.ref (ad 17), .ref (ad 1), .ref (ad 11)]) (n := 4) (Nat.le_of_ble_eq_true rfl)
  rw [lg_entry_eq]
  generalize (lg_sl ([.ref (ad 17), .ref (ad 1), .ref (ad 11)]) ++ List.replicate (4 - (lg_sl ([.ref (ad 17), .ref (ad 1), .ref (ad 11)])).length) Slot.unset).toArray = ls at hl ⊢
  have hl : lv_has ls 4 [(0, .ref (ad 17)), (1, .ref (ad 1)), (2, .ref (ad 11))] := hl
  unfold wp_Ga_prepare at hw
  refine lv_aload_n hx hb d_Ga_prepare_0 rfl (lv_at hl 1 rfl) ?_
  refine kc_i (st := fun (u : Unit) => wC K ad S ++ X) w (kr_V (y := y_Pa_countWithoutLastGlue) (C1 := R_Pa) (T := F_Pa) (N := 10) (ci := 6) (q0 := 1) (As := []) (n := 0) C w (c_Pa_countWithoutLastGlue l n0 G K ad X S  _ hw) (gw_V kw_669 kw_670 kw_671 kw_2 kw_672) (by decide +kernel) rfl rfl ⟨Nat.le_of_ble_eq_true rfl, Nat.le_of_ble_eq_true rfl⟩ rfl rfl rfl hl.1 rfl (Nat.le_of_ble_eq_true rfl) d_Ga_prepare_1 ⟨Nat.le_of_ble_eq_true rfl, Nat.le_of_ble_eq_true rfl⟩) (fun r1 u H locs hw w => ?_)
  refine lv_istore_n (lv' := [(3, .int r1), (0, .ref (ad 17)), (1, .ref (ad 1)), (2, .ref (ad 11))]) hx hb d_Ga_prepare_4 rfl hl (by decide) rfl (fun ls hl => ?_)
  refine lv_aload_n hx hb d_Ga_prepare_5 rfl (lv_at hl 1 rfl) ?_
  refine lv_iload_n hx hb d_Ga_prepare_6 rfl (lv_at hl 0 rfl) ?_
  refine lv_iconst (v := 3) hx hb d_Ga_prepare_7 (by decide) ?_
  refine lv_iadd hx hb d_Ga_prepare_8 ?_
  refine lv_iconst (v := 1) hx hb d_Ga_prepare_9 (by decide) ?_
  refine lv_isub hx hb d_Ga_prepare_10 ?_
  refine lv_topi (fun v2 ev2 => ?_)
  have hw := hw v2 ev2
  refine kp (C1 := R_Ga) (T := F_Ga) (N := 12) (ci := 0) (ty0 := t_Ga) (ref := "LineBreaker$Galley") (w2 := wC K ad (sI S 1099 v2) ++ X) C w 17 11 iw_Ga tk_Ga n_Ga rfl rfl (by decide) kw_159 rfl rfl rfl rfl (Nat.le_of_ble_eq_true rfl) rfl d_Ga_prepare_11 (fun H locs w => ?_)
  refine lv_aload_n hx hb d_Ga_prepare_14 rfl (lv_at hl 1 rfl) ?_
  refine lv_aload_n hx hb d_Ga_prepare_15 rfl (lv_at hl 2 rfl) ?_
  refine lv_aload_n hx hb d_Ga_prepare_16 rfl (lv_at hl 3 rfl) ?_
  refine lv_iload_n hx hb d_Ga_prepare_17 rfl (lv_at hl 0 rfl) ?_
  refine kc_v (st := fun (u : (Nat → Int32) × (Nat → Int32) × (Nat → Int32) × (Nat → Int32)) => wC K ad (sA (sA (sA (sA (sI S 1099 v2) 18 u.1) 19 u.2.1) 22 u.2.2.1) 23 u.2.2.2) ++ X) w (kr_V (y := y_Ga_copyItems) (C1 := R_Ga) (T := F_Ga) (N := 12) (ci := 0) (q0 := 17) (As := [.ref (ad 1), .ref (ad 11), .int r1]) (n := 3) C w (c_Ga_copyItems l n0 G K ad X (sI S 1099 v2) r1 _ hw) (gw_V kw_673 kw_675 kp_4 kw_5 kw_676) (by decide +kernel) rfl rfl ⟨Nat.le_of_ble_eq_true rfl, Nat.le_of_ble_eq_true rfl⟩ rfl rfl rfl hl.1 rfl (Nat.le_of_ble_eq_true rfl) d_Ga_prepare_18 ⟨Nat.le_of_ble_eq_true rfl, Nat.le_of_ble_eq_true rfl⟩) (fun u H locs hw w => ?_)
  obtain ⟨f3, f4, f5, f6⟩ := u
  dsimp only at hw
  have w : wn n0 G (wC K ad (sI (sA (sA (sA (sA S 18 f3) 19 f4) 22 f5) 23 f6) 1099 v2) ++ X) s H locs := w
  refine lv_aload_n hx hb d_Ga_prepare_21 rfl (lv_at hl 1 rfl) ?_
  refine lv_iload_n hx hb d_Ga_prepare_22 rfl (lv_at hl 0 rfl) ?_
  refine kc_v (st := fun (u : (Nat → Int32) × (Nat → Int32) × (Nat → Int32) × (Nat → Int32)) => wC K ad (sA (sA (sA (sA (sI (sA (sA (sA (sA S 18 f3) 19 f4) 22 f5) 23 f6) 1099 v2) 18 u.1) 19 u.2.1) 22 u.2.2.1) 23 u.2.2.2) ++ X) w (kr_V (y := y_Ga_close) (C1 := R_Ga) (T := F_Ga) (N := 12) (ci := 0) (q0 := 17) (As := [.int r1]) (n := 1) C w (c_Ga_close l n0 G K ad X (sI (sA (sA (sA (sA S 18 f3) 19 f4) 22 f5) 23 f6) 1099 v2) r1 _ hw) (gw_V kw_679 kw_681 kp_5 kw_5 kw_682) (by decide +kernel) rfl rfl ⟨Nat.le_of_ble_eq_true rfl, Nat.le_of_ble_eq_true rfl⟩ rfl rfl rfl hl.1 rfl (Nat.le_of_ble_eq_true rfl) d_Ga_prepare_23 ⟨Nat.le_of_ble_eq_true rfl, Nat.le_of_ble_eq_true rfl⟩) (fun u H locs hw w => ?_)
  obtain ⟨f7, f8, f9, f10⟩ := u
  dsimp only at hw
  have w : wn n0 G (wC K ad (sI (sA (sA (sA (sA S 18 f7) 19 f8) 22 f9) 23 f10) 1099 v2) ++ X) s H locs := w
  refine lv_aload_n hx hb d_Ga_prepare_26 rfl (lv_at hl 1 rfl) ?_
  refine lv_aload_n hx hb d_Ga_prepare_27 rfl (lv_at hl 2 rfl) ?_
  refine lv_aload_n hx hb d_Ga_prepare_28 rfl (lv_at hl 3 rfl) ?_
  refine kg (C1 := R_St) (T := F_St) (N := 5) (ci := 8) (ref := "LineBreaker$Settings") (v := .ref (ad 16)) C w 11 4 iw_St rfl rfl (by decide) kw_123 rfl rfl d_Ga_prepare_29 ?_
  refine lv_iload_n hx hb d_Ga_prepare_32 rfl (lv_at hl 0 rfl) ?_
  refine kc_v (st := fun (u : (Nat → Int32) × (Nat → Int32) × (Nat → Int32) × (Nat → Int32)) => wC K ad (sA (sA (sA (sA (sI (sA (sA (sA (sA S 18 f7) 19 f8) 22 f9) 23 f10) 1099 v2) 24 u.1) 25 u.2.1) 26 u.2.2.1) 27 u.2.2.2) ++ X) w (kr_V (y := y_Ga_sumUp) (C1 := R_Ga) (T := F_Ga) (N := 12) (ci := 0) (q0 := 17) (As := [.ref (ad 1), .ref (ad 16), .int r1]) (n := 3) C w (c_Ga_sumUp l n0 G K ad X (sI (sA (sA (sA (sA S 18 f7) 19 f8) 22 f9) 23 f10) 1099 v2) r1 _ hw) (gw_V kw_683 kw_685 kp_6 kw_5 kw_686) (by decide +kernel) rfl rfl ⟨Nat.le_of_ble_eq_true rfl, Nat.le_of_ble_eq_true rfl⟩ rfl rfl rfl hl.1 rfl (Nat.le_of_ble_eq_true rfl) d_Ga_prepare_33 ⟨Nat.le_of_ble_eq_true rfl, Nat.le_of_ble_eq_true rfl⟩) (fun u H locs hw w => ?_)
  obtain ⟨f11, f12, f13, f14⟩ := u
  dsimp only at hw
  have w : wn n0 G (wC K ad (sI (sA (sA (sA (sA (sA (sA (sA (sA S 18 f7) 19 f8) 22 f9) 23 f10) 24 f11) 25 f12) 26 f13) 27 f14) 1099 v2) ++ X) s H locs := w
  refine lv_aload_n hx hb d_Ga_prepare_36 rfl (lv_at hl 1 rfl) ?_
  refine lv_aload_n hx hb d_Ga_prepare_37 rfl (lv_at hl 2 rfl) ?_
  refine lv_iload_n hx hb d_Ga_prepare_38 rfl (lv_at hl 0 rfl) ?_
  refine kc_v (st := fun (u : (Nat → Int32)) => wC K ad (sA (sI (sA (sA (sA (sA (sA (sA (sA (sA S 18 f7) 19 f8) 22 f9) 23 f10) 24 f11) 25 f12) 26 f13) 27 f14) 1099 v2) 20 u) ++ X) w (kr_V (y := y_Ga_markPlaces) (C1 := R_Ga) (T := F_Ga) (N := 12) (ci := 0) (q0 := 17) (As := [.ref (ad 1), .int r1]) (n := 2) C w (c_Ga_markPlaces l n0 G K ad X (sI (sA (sA (sA (sA (sA (sA (sA (sA S 18 f7) 19 f8) 22 f9) 23 f10) 24 f11) 25 f12) 26 f13) 27 f14) 1099 v2) r1 _ hw) (gw_V kw_695 kw_697 kp_7 kw_5 kw_698) (by decide +kernel) rfl rfl ⟨Nat.le_of_ble_eq_true rfl, Nat.le_of_ble_eq_true rfl⟩ rfl rfl rfl hl.1 rfl (Nat.le_of_ble_eq_true rfl) d_Ga_prepare_39 ⟨Nat.le_of_ble_eq_true rfl, Nat.le_of_ble_eq_true rfl⟩) (fun u H locs hw w => ?_)
  obtain ⟨f15, rfl⟩ : ∃ z, z = u := ⟨_, rfl⟩
  have w : wn n0 G (wC K ad (sI (sA (sA (sA (sA (sA (sA (sA (sA (sA S 18 f7) 19 f8) 20 f15) 22 f9) 23 f10) 24 f11) 25 f12) 26 f13) 27 f14) 1099 v2) ++ X) s H locs := w
  refine lv_aload_n hx hb d_Ga_prepare_42 rfl (lv_at hl 1 rfl) ?_
  refine lv_aload_n hx hb d_Ga_prepare_43 rfl (lv_at hl 2 rfl) ?_
  refine lv_iload_n hx hb d_Ga_prepare_44 rfl (lv_at hl 0 rfl) ?_
  refine kc_v (st := fun (u : (Nat → Int32) × (Nat → Int32)) => wC K ad (sA (sA (sI (sA (sA (sA (sA (sA (sA (sA (sA (sA S 18 f7) 19 f8) 20 f15) 22 f9) 23 f10) 24 f11) 25 f12) 26 f13) 27 f14) 1099 v2) 21 u.1) 28 u.2) ++ X) w (kr_V (y := y_Ga_findFirstOnes) (C1 := R_Ga) (T := F_Ga) (N := 12) (ci := 0) (q0 := 17) (As := [.ref (ad 1), .int r1]) (n := 2) C w (c_Ga_findFirstOnes l n0 G K ad X (sI (sA (sA (sA (sA (sA (sA (sA (sA (sA S 18 f7) 19 f8) 20 f15) 22 f9) 23 f10) 24 f11) 25 f12) 26 f13) 27 f14) 1099 v2) r1 _ hw) (gw_V kw_703 kw_705 kp_9 kw_5 kw_706) (by decide +kernel) rfl rfl ⟨Nat.le_of_ble_eq_true rfl, Nat.le_of_ble_eq_true rfl⟩ rfl rfl rfl hl.1 rfl (Nat.le_of_ble_eq_true rfl) d_Ga_prepare_45 ⟨Nat.le_of_ble_eq_true rfl, Nat.le_of_ble_eq_true rfl⟩) (fun u H locs hw w => ?_)
  obtain ⟨f16, f17⟩ := u
  dsimp only at hw
  have w : wn n0 G (wC K ad (sI (sA (sA (sA (sA (sA (sA (sA (sA (sA (sA (sA S 18 f7) 19 f8) 20 f15) 21 f16) 22 f9) 23 f10) 24 f11) 25 f12) 26 f13) 27 f14) 28 f17) 1099 v2) ++ X) s H locs := w
  exact ke_v (post := (fun (u : (Nat → Int32) × (Nat → Int32) × (Nat → Int32) × (Nat → Int32) × (Nat → Int32) × (Nat → Int32) × (Nat → Int32) × (Nat → Int32) × (Nat → Int32) × (Nat → Int32) × (Nat → Int32) × Int32) => post u.1 u.2.1 u.2.2.1 u.2.2.2.1 u.2.2.2.2.1 u.2.2.2.2.2.1 u.2.2.2.2.2.2.1 u.2.2.2.2.2.2.2.1 u.2.2.2.2.2.2.2.2.1 u.2.2.2.2.2.2.2.2.2.1 u.2.2.2.2.2.2.2.2.2.2.1 u.2.2.2.2.2.2.2.2.2.2.2)) (st := (fun (u : (Nat → Int32) × (Nat → Int32) × (Nat → Int32) × (Nat → Int32) × (Nat → Int32) × (Nat → Int32) × (Nat → Int32) × (Nat → Int32) × (Nat → Int32) × (Nat → Int32) × (Nat → Int32) × Int32) => wC K ad (sI (sA (sA (sA (sA (sA (sA (sA (sA (sA (sA (sA S 18 u.1) 19 u.2.1) 20 u.2.2.1) 21 u.2.2.2.1) 22 u.2.2.2.2.1) 23 u.2.2.2.2.2.1) 24 u.2.2.2.2.2.2.1) 25 u.2.2.2.2.2.2.2.1) 26 u.2.2.2.2.2.2.2.2.1) 27 u.2.2.2.2.2.2.2.2.2.1) 28 u.2.2.2.2.2.2.2.2.2.2.1) 1099 u.2.2.2.2.2.2.2.2.2.2.2) ++ X)) (u := (f7, f8, f15, f16, f9, f10, f11, f12, f13, f14, f17, v2)) C hr d_Ga_prepare_48 (wn_eq w rfl) hw
set_option maxHeartbeats 4000000 in
set_option maxRecDepth 100000 in
theorem c_Ou_forget (l : Launch) (n0 : Nat) (G : va_G) (K : KT) (ad : Nat → Nat) (X : va_W) (S : ST) (post : Int32 → Int32 → Int32 → Prop) (hw : wp_Ou_forget S  post) : Met l y_Ou_forget (Cond.code y_Ou_forget prog_7_method_2_code 1 none :: gw) rm_Ou_forget (va_Pc [.ref (ad 41)] (wb n0 G K (wC K ad S ++ X))) (va_Qv (fun (u : Int32 × Int32 × Int32) => post u.1 u.2.1 u.2.2) (fun (u : Int32 × Int32 × Int32) t => we n0 G (wC K ad (sI (sI (sI S 2626 u.1) 2627 u.2.1) 2628 u.2.2) ++ X) t) (al n0)) 0 0 (al n0) := by
  refine kb_start (own := "LineBreaker$Outcome") (by decide +kernel) rfl ?_
  intro p e s m below meth c C hr hnm w
  have hx := C.1
  have hb := C.2.1
  have hts := C.2.2.2.2.1
  have hl := lv_entry ([.ref (ad 41)]) (n := 1) (Nat.le_of_ble_eq_true rfl)
  rw [lg_entry_eq]
  generalize (lg_sl ([.ref (ad 41)]) ++ List.replicate (1 - (lg_sl ([.ref (ad 41)])).length) Slot.unset).toArray = ls at hl ⊢
  have hl : lv_has ls 1 [(0, .ref (ad 41))] := hl
  unfold wp_Ou_forget at hw
  refine lv_aload_n hx hb d_Ou_forget_0 rfl (lv_at hl 0 rfl) ?_
  refine lv_iconst (v := 0) hx hb d_Ou_forget_1 (by decide) ?_
  refine kp (C1 := R_Ou) (T := F_Ou) (N := 5) (ci := 5) (ty0 := t_Ou) (ref := "LineBreaker$Outcome") (w2 := wC K ad (sI S 2626 0) ++ X) C w 41 2 iw_Ou tk_Ou n_Ou rfl rfl (by decide) kw_339 rfl rfl rfl rfl (Nat.le_of_ble_eq_true rfl) rfl d_Ou_forget_2 (fun H locs w => ?_)
  refine lv_aload_n hx hb d_Ou_forget_5 rfl (lv_at hl 0 rfl) ?_
  refine lv_iconst (v := 0) hx hb d_Ou_forget_6 (by decide) ?_
  refine kp (C1 := R_Ou) (T := F_Ou) (N := 5) (ci := 5) (ty0 := t_Ou) (ref := "LineBreaker$Outcome") (w2 := wC K ad (sI (sI S 2626 0) 2627 0) ++ X) C w 41 3 iw_Ou tk_Ou n_Ou rfl rfl (by decide) kw_341 rfl rfl rfl rfl (Nat.le_of_ble_eq_true rfl) rfl d_Ou_forget_7 (fun H locs w => ?_)
  refine lv_aload_n hx hb d_Ou_forget_10 rfl (lv_at hl 0 rfl) ?_
  refine lv_iconst (v := 0) hx hb d_Ou_forget_11 (by decide) ?_
  refine kp (C1 := R_Ou) (T := F_Ou) (N := 5) (ci := 5) (ty0 := t_Ou) (ref := "LineBreaker$Outcome") (w2 := wC K ad (sI (sI (sI S 2626 0) 2627 0) 2628 0) ++ X) C w 41 4 iw_Ou tk_Ou n_Ou rfl rfl (by decide) kw_343 rfl rfl rfl rfl (Nat.le_of_ble_eq_true rfl) rfl d_Ou_forget_12 (fun H locs w => ?_)
  exact ke_v (post := (fun (u : Int32 × Int32 × Int32) => post u.1 u.2.1 u.2.2)) (st := (fun (u : Int32 × Int32 × Int32) => wC K ad (sI (sI (sI S 2626 u.1) 2627 u.2.1) 2628 u.2.2) ++ X)) (u := (0, 0, 0)) C hr d_Ou_forget_15 (wn_eq w rfl) hw
set_option maxHeartbeats 4000000 in
set_option maxRecDepth 100000 in
theorem w_Ou_record_44 {S : ST} {post : (Nat → Int32) → (Nat → Int32) → (Nat → Int32) → (Nat → Int32) → (Nat → Int32) → (Nat → Int64) → Int32 → Int32 → Int32 → Int32 → Int32 → Int32 → Int32 → Int32 → Int32 → Prop} (C : cx p s m args meth c prog_7_method_3_code 8 "LineBreaker$Outcome" n0 G K) (hr : meth.sig.returnType = none) : ∀ (n : Nat) (a43 : (Nat → Int32)) (a44 : (Nat → Int32)) (a45 : (Nat → Int32)) (a46 : (Nat → Int32)) (a47 : (Nat → Int32)) (l48 : (Nat → Int64)) (i1923 : Int32) (i1924 : Int32) (i1925 : Int32) (i1926 : Int32) (i1927 : Int32) (i1928 : Int32) (i2626 : Int32) (i2627 : Int32) (i2628 : Int32) (x5 : Int32) (x6 : Int32), wl_Ou_record_44 S post n a43 a44 a45 a46 a47 l48 i1923 i1924 i1925 i1926 i1927 i1928 i2626 i2627 i2628 x5 x6 → ∀ (H : Heap) (locs : List Loc) (ls : Array Slot), wn n0 G (wC K ad (sI (sI (sI (sI (sI (sI (sI (sI (sI (sL (sA (sA (sA (sA (sA S 43 a43) 44 a44) 45 a45) 46 a46) 47 a47) 48 l48) 1923 i1923) 1924 i1924) 1925 i1925) 1926 i1926) 1927 i1927) 1928 i1928) 2626 i2626) 2627 i2627) 2628 i2628) ++ X) s H locs → lv_has ls 8 [(0, .ref (ad 41)), (1, .ref (ad 29)), (4, .ref (ad 31)), (5, .int x5), (6, .int x6)] → W p l e rm_Ou_record s m args below meth c H locs 0 0 (MQ below (va_Qv (fun (u : (Nat → Int32) × (Nat → Int32) × (Nat → Int32) × (Nat → Int32) × (Nat → Int32) × (Nat → Int64) × Int32 × Int32 × Int32 × Int32 × Int32 × Int32 × Int32 × Int32 × Int32) => post u.1 u.2.1 u.2.2.1 u.2.2.2.1 u.2.2.2.2.1 u.2.2.2.2.2.1 u.2.2.2.2.2.2.1 u.2.2.2.2.2.2.2.1 u.2.2.2.2.2.2.2.2.1 u.2.2.2.2.2.2.2.2.2.1 u.2.2.2.2.2.2.2.2.2.2.1 u.2.2.2.2.2.2.2.2.2.2.2.1 u.2.2.2.2.2.2.2.2.2.2.2.2.1 u.2.2.2.2.2.2.2.2.2.2.2.2.2.1 u.2.2.2.2.2.2.2.2.2.2.2.2.2.2) (fun (u : (Nat → Int32) × (Nat → Int32) × (Nat → Int32) × (Nat → Int32) × (Nat → Int32) × (Nat → Int64) × Int32 × Int32 × Int32 × Int32 × Int32 × Int32 × Int32 × Int32 × Int32) t => we n0 G (wC K ad (sI (sI (sI (sI (sI (sI (sI (sI (sI (sL (sA (sA (sA (sA (sA S 43 u.1) 44 u.2.1) 45 u.2.2.1) 46 u.2.2.2.1) 47 u.2.2.2.2.1) 48 u.2.2.2.2.2.1) 1923 u.2.2.2.2.2.2.1) 1924 u.2.2.2.2.2.2.2.1) 1925 u.2.2.2.2.2.2.2.2.1) 1926 u.2.2.2.2.2.2.2.2.2.1) 1927 u.2.2.2.2.2.2.2.2.2.2.1) 1928 u.2.2.2.2.2.2.2.2.2.2.2.1) 2626 u.2.2.2.2.2.2.2.2.2.2.2.2.1) 2627 u.2.2.2.2.2.2.2.2.2.2.2.2.2.1) 2628 u.2.2.2.2.2.2.2.2.2.2.2.2.2.2) ++ X) t) (al n0)) args s 0 0 (al n0)) (F0 m 44 ls []) := by
  have hx := C.1
  have hb := C.2.1
  have hts := C.2.2.2.2.1
  intro n
  induction n with
  | zero =>
    intro a43 a44 a45 a46 a47 l48 i1923 i1924 i1925 i1926 i1927 i1928 i2626 i2627 i2628 x5 x6 hw
    unfold wl_Ou_record_44 at hw
    exact hw.elim
  | succ n ih =>
    intro a43 a44 a45 a46 a47 l48 i1923 i1924 i1925 i1926 i1927 i1928 i2626 i2627 i2628 x5 x6 hw H locs ls w hl
    unfold wl_Ou_record_44 at hw
    refine lv_iload hx hb d_Ou_record_44 (lv_at hl 4 rfl) ?_
    refine lv_if_lt (tgt := 187) hx hb d_Ou_record_46 (by decide) (fun hc => ?_) (fun hc => ?_)
    · have hw := hw.1 hc
      exact ke_v (post := (fun (u : (Nat → Int32) × (Nat → Int32) × (Nat → Int32) × (Nat → Int32) × (Nat → Int32) × (Nat → Int64) × Int32 × Int32 × Int32 × Int32 × Int32 × Int32 × Int32 × Int32 × Int32) => post u.1 u.2.1 u.2.2.1 u.2.2.2.1 u.2.2.2.2.1 u.2.2.2.2.2.1 u.2.2.2.2.2.2.1 u.2.2.2.2.2.2.2.1 u.2.2.2.2.2.2.2.2.1 u.2.2.2.2.2.2.2.2.2.1 u.2.2.2.2.2.2.2.2.2.2.1 u.2.2.2.2.2.2.2.2.2.2.2.1 u.2.2.2.2.2.2.2.2.2.2.2.2.1 u.2.2.2.2.2.2.2.2.2.2.2.2.2.1 u.2.2.2.2.2.2.2.2.2.2.2.2.2.2)) (st := (fun (u : (Nat → Int32) × (Nat → Int32) × (Nat → Int32) × (Nat → Int32) × (Nat → Int32) × (Nat → Int64) × Int32 × Int32 × Int32 × Int32 × Int32 × Int32 × Int32 × Int32 × Int32) => wC K ad (sI (sI (sI (sI (sI (sI (sI (sI (sI (sL (sA (sA (sA (sA (sA S 43 u.1) 44 u.2.1) 45 u.2.2.1) 46 u.2.2.2.1) 47 u.2.2.2.2.1) 48 u.2.2.2.2.2.1) 1923 u.2.2.2.2.2.2.1) 1924 u.2.2.2.2.2.2.2.1) 1925 u.2.2.2.2.2.2.2.2.1) 1926 u.2.2.2.2.2.2.2.2.2.1) 1927 u.2.2.2.2.2.2.2.2.2.2.1) 1928 u.2.2.2.2.2.2.2.2.2.2.2.1) 2626 u.2.2.2.2.2.2.2.2.2.2.2.2.1) 2627 u.2.2.2.2.2.2.2.2.2.2.2.2.2.1) 2628 u.2.2.2.2.2.2.2.2.2.2.2.2.2.2) ++ X)) (u := (a43, a44, a45, a46, a47, l48, i1923, i1924, i1925, i1926, i1927, i1928, i2626, i2627, i2628)) C hr d_Ou_record_187 (wn_eq w rfl) hw
    · have hw := hw.2 hc
      refine lv_aload hx hb d_Ou_record_49 (lv_at hl 2 rfl) ?_
      refine kg (C1 := R_No) (T := F_No) (N := 6) (ci := 3) (ref := "LineBreaker$Nodes") (v := .ref (ad 35)) C w 31 3 iw_No rfl rfl (by decide) kw_250 rfl rfl d_Ou_record_51 ?_
      refine lv_iload hx hb d_Ou_record_54 (lv_at hl 3 rfl) ?_
      refine ka_i (f := (S.1 35)) C w 35 rfl hw.1 d_Ou_record_56 ?_
      have hw := hw.2
      refine lv_topi (fun v1 ev1 => ?_)
      have hw := hw v1 ev1
      refine lv_istore (lv' := [(7, .int v1), (0, .ref (ad 41)), (1, .ref (ad 29)), (4, .ref (ad 31)), (5, .int x5), (6, .int x6)]) hx hb d_Ou_record_57 hl (by decide) rfl (fun ls hl => ?_)
      refine lv_aload_n hx hb d_Ou_record_59 rfl (lv_at hl 2 rfl) ?_
      refine lv_iload hx hb d_Ou_record_60 (lv_at hl 0 rfl) ?_
      refine lv_aload hx hb d_Ou_record_62 (lv_at hl 3 rfl) ?_
      refine kg (C1 := R_No) (T := F_No) (N := 6) (ci := 3) (ref := "LineBreaker$Nodes") (v := .ref (ad 32)) C w 31 0 iw_No rfl rfl (by decide) kw_239 rfl rfl d_Ou_record_64 ?_
      refine lv_iload hx hb d_Ou_record_67 (lv_at hl 4 rfl) ?_
      refine ka_i (f := (S.1 32)) C w 32 rfl hw.1 d_Ou_record_69 ?_
      have hw := hw.2
      refine kc_v (st := fun (u : Int32 × Int32 × Int32 × Int32 × Int32 × Int32) => wC K ad (sI (sI (sI (sI (sI (sI (sI (sI (sI (sI (sI (sI (sI (sI (sI (sL (sA (sA (sA (sA (sA S 43 a43) 44 a44) 45 a45) 46 a46) 47 a47) 48 l48) 1923 i1923) 1924 i1924) 1925 i1925) 1926 i1926) 1927 i1927) 1928 i1928) 2626 i2626) 2627 i2627) 2628 i2628) 1923 u.1) 1924 u.2.1) 1925 u.2.2.1) 1926 u.2.2.2.1) 1927 u.2.2.2.2.1) 1928 u.2.2.2.2.2) ++ X) w (kr_V (y := y_Se_measureFrom) (C1 := R_Se) (T := F_Se) (N := 10) (ci := 7) (q0 := 29) (As := [.int v1, .int ((S.1 32) x5.toNatClampNeg)]) (n := 2) C w (c_Se_measureFrom l n0 G K ad X (sI (sI (sI (sI (sI (sI (sI (sI (sI (sL (sA (sA (sA (sA (sA S 43 a43) 44 a44) 45 a45) 46 a46) 47 a47) 48 l48) 1923 i1923) 1924 i1924) 1925 i1925) 1926 i1926) 1927 i1927) 1928 i1928) 2626 i2626) 2627 i2627) 2628 i2628) v1 ((S.1 32) x5.toNatClampNeg) _ hw) (gw_V kw_832 kw_739 kw_740 kw_6 kw_741) (by decide +kernel) rfl rfl ⟨Nat.le_of_ble_eq_true rfl, Nat.le_of_ble_eq_true rfl⟩ rfl rfl rfl hl.1 rfl (Nat.le_of_ble_eq_true rfl) d_Ou_record_70 ⟨Nat.le_of_ble_eq_true rfl, Nat.le_of_ble_eq_true rfl⟩) (fun u H locs hw w => ?_)
      obtain ⟨v2, v3, v4, v5, v6, v7⟩ := u
      dsimp only at hw
      have w : wn n0 G (wC K ad (sI (sI (sI (sI (sI (sI (sI (sI (sI (sL (sA (sA (sA (sA (sA S 43 a43) 44 a44) 45 a45) 46 a46) 47 a47) 48 l48) 1923 v2) 1924 v3) 1925 v4) 1926 v5) 1927 v6) 1928 v7) 2626 i2626) 2627 i2627) 2628 i2628) ++ X) s H locs := w
      refine lv_aload_n hx hb d_Ou_record_73 rfl (lv_at hl 1 rfl) ?_
      refine kg (C1 := R_Ou) (T := F_Ou) (N := 5) (ci := 5) (ref := "LineBreaker$Outcome") (v := .ref (ad 42)) C w 41 0 iw_Ou rfl rfl (by decide) kw_335 rfl rfl d_Ou_record_74 ?_
      refine lv_iconst (v := 0) hx hb d_Ou_record_77 (by decide) ?_
      refine ka_a (v := .ref (ad 43)) C w 42 rfl (vp_in_nI (n := 0) (N := 5) (by decide) (by decide)) rfl d_Ou_record_78 ?_
      refine lv_iload hx hb d_Ou_record_79 (lv_at hl 5 rfl) ?_
      refine lv_aload hx hb d_Ou_record_81 (lv_at hl 3 rfl) ?_
      refine kg (C1 := R_No) (T := F_No) (N := 6) (ci := 3) (ref := "LineBreaker$Nodes") (v := .ref (ad 32)) C w 31 0 iw_No rfl rfl (by decide) kw_239 rfl rfl d_Ou_record_83 ?_
      refine lv_iload hx hb d_Ou_record_86 (lv_at hl 4 rfl) ?_
      refine ka_i (f := (S.1 32)) C w 32 rfl hw.1 d_Ou_record_88 ?_
      have hw := hw.2
      obtain ⟨f8, ef8⟩ : ∃ z : Nat → Int32, z = upd a43 x6.toNatClampNeg ((S.1 32) x5.toNatClampNeg) := ⟨_, rfl⟩
      refine ks_i (f := a43) (w2 := wC K ad (sI (sI (sI (sI (sI (sI (sI (sI (sI (sL (sA (sA (sA (sA (sA S 43 f8) 44 a44) 45 a45) 46 a46) 47 a47) 48 l48) 1923 v2) 1924 v3) 1925 v4) 1926 v5) 1927 v6) 1928 v7) 2626 i2626) 2627 i2627) 2628 i2628) ++ X) C w 43 rfl hw.1 (by rw [← ef8]; rfl) d_Ou_record_89 (fun H locs w => ?_)
      have hw := hw.2 f8 ef8
      refine lv_aload_n hx hb d_Ou_record_90 rfl (lv_at hl 1 rfl) ?_
      refine kg (C1 := R_Ou) (T := F_Ou) (N := 5) (ci := 5) (ref := "LineBreaker$Outcome") (v := .ref (ad 42)) C w 41 0 iw_Ou rfl rfl (by decide) kw_335 rfl rfl d_Ou_record_91 ?_
      refine lv_iconst (v := 1) hx hb d_Ou_record_94 (by decide) ?_
      refine ka_a (v := .ref (ad 44)) C w 42 rfl (vp_in_nI (n := 1) (N := 5) (by decide) (by decide)) rfl d_Ou_record_95 ?_
      refine lv_iload hx hb d_Ou_record_96 (lv_at hl 5 rfl) ?_
      refine lv_aload_n hx hb d_Ou_record_98 rfl (lv_at hl 2 rfl) ?_
      refine kg (C1 := R_Se) (T := F_Se) (N := 10) (ci := 7) (ref := "LineBreaker$Search") (v := .ref (ad 17)) C w 29 0 iw_Se rfl rfl (by decide) kw_294 rfl rfl d_Ou_record_99 ?_
      refine lv_aload hx hb d_Ou_record_102 (lv_at hl 3 rfl) ?_
      refine kg (C1 := R_No) (T := F_No) (N := 6) (ci := 3) (ref := "LineBreaker$Nodes") (v := .ref (ad 32)) C w 31 0 iw_No rfl rfl (by decide) kw_239 rfl rfl d_Ou_record_104 ?_
      refine lv_iload hx hb d_Ou_record_107 (lv_at hl 0 rfl) ?_
      refine ka_i (f := (S.1 32)) C w 32 rfl hw.1 d_Ou_record_109 ?_
      have hw := hw.2
      refine kc_i (st := fun (u : Unit) => wC K ad (sI (sI (sI (sI (sI (sI (sI (sI (sI (sL (sA (sA (sA (sA (sA S 43 f8) 44 a44) 45 a45) 46 a46) 47 a47) 48 l48) 1923 v2) 1924 v3) 1925 v4) 1926 v5) 1927 v6) 1928 v7) 2626 i2626) 2627 i2627) 2628 i2628) ++ X) w (kr_V (y := y_Ga_firstOneFrom) (C1 := R_Ga) (T := F_Ga) (N := 12) (ci := 0) (q0 := 17) (As := [.int ((S.1 32) v1.toNatClampNeg)]) (n := 1) C w (c_Ga_firstOneFrom l n0 G K ad X (sI (sI (sI (sI (sI (sI (sI (sI (sI (sL (sA (sA (sA (sA (sA S 43 f8) 44 a44) 45 a45) 46 a46) 47 a47) 48 l48) 1923 v2) 1924 v3) 1925 v4) 1926 v5) 1927 v6) 1928 v7) 2626 i2626) 2627 i2627) 2628 i2628) ((S.1 32) v1.toNatClampNeg) _ hw) (gw_V kw_833 kw_758 kw_759 kw_5 kw_760) (by decide +kernel) rfl rfl ⟨Nat.le_of_ble_eq_true rfl, Nat.le_of_ble_eq_true rfl⟩ rfl rfl rfl hl.1 rfl (Nat.le_of_ble_eq_true rfl) d_Ou_record_110 ⟨Nat.le_of_ble_eq_true rfl, Nat.le_of_ble_eq_true rfl⟩) (fun r9 u H locs hw w => ?_)
      obtain ⟨f10, ef10⟩ : ∃ z : Nat → Int32, z = upd a44 x6.toNatClampNeg r9 := ⟨_, rfl⟩
      refine ks_i (f := a44) (w2 := wC K ad (sI (sI (sI (sI (sI (sI (sI (sI (sI (sL (sA (sA (sA (sA (sA S 43 f8) 44 f10) 45 a45) 46 a46) 47 a47) 48 l48) 1923 v2) 1924 v3) 1925 v4) 1926 v5) 1927 v6) 1928 v7) 2626 i2626) 2627 i2627) 2628 i2628) ++ X) C w 44 rfl hw.1 (by rw [← ef10]; rfl) d_Ou_record_113 (fun H locs w => ?_)
      have hw := hw.2 f10 ef10
      refine lv_aload_n hx hb d_Ou_record_114 rfl (lv_at hl 1 rfl) ?_
      refine kg (C1 := R_Ou) (T := F_Ou) (N := 5) (ci := 5) (ref := "LineBreaker$Outcome") (v := .ref (ad 42)) C w 41 0 iw_Ou rfl rfl (by decide) kw_335 rfl rfl d_Ou_record_115 ?_
      refine lv_iconst (v := 2) hx hb d_Ou_record_118 (by decide) ?_
      refine ka_a (v := .ref (ad 45)) C w 42 rfl (vp_in_nI (n := 2) (N := 5) (by decide) (by decide)) rfl d_Ou_record_119 ?_
      refine lv_iload hx hb d_Ou_record_120 (lv_at hl 5 rfl) ?_
      refine lv_aload_n hx hb d_Ou_record_122 rfl (lv_at hl 2 rfl) ?_
      refine kg (C1 := R_Se) (T := F_Se) (N := 10) (ci := 7) (ref := "LineBreaker$Search") (v := .ref (ad 30)) C w 29 2 iw_Se rfl rfl (by decide) kw_297 rfl rfl d_Ou_record_123 ?_
      refine kg (C1 := R_Gu) (T := F_Gu) (N := 9) (ci := 1) (ref := "LineBreaker$Gauge") (v := .int v2) C w 30 3 iw_Gu rfl rfl (by decide) kw_202 rfl rfl d_Ou_record_126 ?_
      obtain ⟨f11, ef11⟩ : ∃ z : Nat → Int32, z = upd a45 x6.toNatClampNeg v2 := ⟨_, rfl⟩
      refine ks_i (f := a45) (w2 := wC K ad (sI (sI (sI (sI (sI (sI (sI (sI (sI (sL (sA (sA (sA (sA (sA S 43 f8) 44 f10) 45 f11) 46 a46) 47 a47) 48 l48) 1923 v2) 1924 v3) 1925 v4) 1926 v5) 1927 v6) 1928 v7) 2626 i2626) 2627 i2627) 2628 i2628) ++ X) C w 45 rfl hw.1 (by rw [← ef11]; rfl) d_Ou_record_129 (fun H locs w => ?_)
      have hw := hw.2 f11 ef11
      refine lv_aload_n hx hb d_Ou_record_130 rfl (lv_at hl 1 rfl) ?_
      refine kg (C1 := R_Ou) (T := F_Ou) (N := 5) (ci := 5) (ref := "LineBreaker$Outcome") (v := .ref (ad 42)) C w 41 0 iw_Ou rfl rfl (by decide) kw_335 rfl rfl d_Ou_record_131 ?_
      refine lv_iconst (v := 3) hx hb d_Ou_record_134 (by decide) ?_
      refine ka_a (v := .ref (ad 46)) C w 42 rfl (vp_in_nI (n := 3) (N := 5) (by decide) (by decide)) rfl d_Ou_record_135 ?_
      refine lv_iload hx hb d_Ou_record_136 (lv_at hl 5 rfl) ?_
      refine lv_aload_n hx hb d_Ou_record_138 rfl (lv_at hl 2 rfl) ?_
      refine kg (C1 := R_Se) (T := F_Se) (N := 10) (ci := 7) (ref := "LineBreaker$Search") (v := .ref (ad 30)) C w 29 2 iw_Se rfl rfl (by decide) kw_297 rfl rfl d_Ou_record_139 ?_
      refine kg (C1 := R_Gu) (T := F_Gu) (N := 9) (ci := 1) (ref := "LineBreaker$Gauge") (v := .int v3) C w 30 4 iw_Gu rfl rfl (by decide) kw_205 rfl rfl d_Ou_record_142 ?_
      obtain ⟨f12, ef12⟩ : ∃ z : Nat → Int32, z = upd a46 x6.toNatClampNeg v3 := ⟨_, rfl⟩
      refine ks_i (f := a46) (w2 := wC K ad (sI (sI (sI (sI (sI (sI (sI (sI (sI (sL (sA (sA (sA (sA (sA S 43 f8) 44 f10) 45 f11) 46 f12) 47 a47) 48 l48) 1923 v2) 1924 v3) 1925 v4) 1926 v5) 1927 v6) 1928 v7) 2626 i2626) 2627 i2627) 2628 i2628) ++ X) C w 46 rfl hw.1 (by rw [← ef12]; rfl) d_Ou_record_145 (fun H locs w => ?_)
      have hw := hw.2 f12 ef12
      refine lv_aload_n hx hb d_Ou_record_146 rfl (lv_at hl 1 rfl) ?_
      refine kg (C1 := R_Ou) (T := F_Ou) (N := 5) (ci := 5) (ref := "LineBreaker$Outcome") (v := .ref (ad 42)) C w 41 0 iw_Ou rfl rfl (by decide) kw_335 rfl rfl d_Ou_record_147 ?_
      refine lv_iconst (v := 4) hx hb d_Ou_record_150 (by decide) ?_
      refine ka_a (v := .ref (ad 47)) C w 42 rfl (vp_in_nI (n := 4) (N := 5) (by decide) (by decide)) rfl d_Ou_record_151 ?_
      refine lv_iload hx hb d_Ou_record_152 (lv_at hl 5 rfl) ?_
      refine lv_aload_n hx hb d_Ou_record_154 rfl (lv_at hl 2 rfl) ?_
      refine kg (C1 := R_Se) (T := F_Se) (N := 10) (ci := 7) (ref := "LineBreaker$Search") (v := .ref (ad 30)) C w 29 2 iw_Se rfl rfl (by decide) kw_297 rfl rfl d_Ou_record_155 ?_
      refine kg (C1 := R_Gu) (T := F_Gu) (N := 9) (ci := 1) (ref := "LineBreaker$Gauge") (v := .int v4) C w 30 5 iw_Gu rfl rfl (by decide) kw_207 rfl rfl d_Ou_record_158 ?_
      obtain ⟨f13, ef13⟩ : ∃ z : Nat → Int32, z = upd a47 x6.toNatClampNeg v4 := ⟨_, rfl⟩
      refine ks_i (f := a47) (w2 := wC K ad (sI (sI (sI (sI (sI (sI (sI (sI (sI (sL (sA (sA (sA (sA (sA S 43 f8) 44 f10) 45 f11) 46 f12) 47 f13) 48 l48) 1923 v2) 1924 v3) 1925 v4) 1926 v5) 1927 v6) 1928 v7) 2626 i2626) 2627 i2627) 2628 i2628) ++ X) C w 47 rfl hw.1 (by rw [← ef13]; rfl) d_Ou_record_161 (fun H locs w => ?_)
      have hw := hw.2 f13 ef13
      refine lv_aload_n hx hb d_Ou_record_162 rfl (lv_at hl 1 rfl) ?_
      refine kg (C1 := R_Ou) (T := F_Ou) (N := 5) (ci := 5) (ref := "LineBreaker$Outcome") (v := .ref (ad 48)) C w 41 1 iw_Ou rfl rfl (by decide) kw_337 rfl rfl d_Ou_record_163 ?_
      refine lv_iload hx hb d_Ou_record_166 (lv_at hl 5 rfl) ?_
      refine lv_aload hx hb d_Ou_record_168 (lv_at hl 3 rfl) ?_
      refine kg (C1 := R_No) (T := F_No) (N := 6) (ci := 3) (ref := "LineBreaker$Nodes") (v := .ref (ad 36)) C w 31 4 iw_No rfl rfl (by decide) kw_254 rfl rfl d_Ou_record_170 ?_
      refine lv_iload hx hb d_Ou_record_173 (lv_at hl 4 rfl) ?_
      refine ka_l (f := (S.2.1 36)) C w 36 rfl hw.1 d_Ou_record_175 ?_
      have hw := hw.2
      obtain ⟨f14, ef14⟩ : ∃ z : Nat → Int64, z = vp_updL l48 x6.toNatClampNeg ((S.2.1 36) x5.toNatClampNeg) := ⟨_, rfl⟩
      refine ks_l (f := l48) (w2 := wC K ad (sI (sI (sI (sI (sI (sI (sI (sI (sI (sL (sA (sA (sA (sA (sA S 43 f8) 44 f10) 45 f11) 46 f12) 47 f13) 48 f14) 1923 v2) 1924 v3) 1925 v4) 1926 v5) 1927 v6) 1928 v7) 2626 i2626) 2627 i2627) 2628 i2628) ++ X) C w 48 rfl hw.1 (by rw [← ef14]; rfl) d_Ou_record_176 (fun H locs w => ?_)
      have hw := hw.2 f14 ef14
      refine lv_iload hx hb d_Ou_record_177 (lv_at hl 0 rfl) ?_
      refine lv_istore (lv' := [(5, .int v1), (7, .int v1), (0, .ref (ad 41)), (1, .ref (ad 29)), (4, .ref (ad 31)), (6, .int x6)]) hx hb d_Ou_record_179 hl (by decide) rfl (fun ls hl => ?_)
      obtain ⟨v15, ev15⟩ : ∃ y : Int32, y = x6 + (-1) := ⟨_, rfl⟩
      refine lv_iinc (v := v15) (lv' := [(6, .int v15), (5, .int v1), (7, .int v1), (0, .ref (ad 41)), (1, .ref (ad 29)), (4, .ref (ad 31))]) hx hb d_Ou_record_181 hl (k := 5) rfl (by rw [ev15]; rfl) (by decide) rfl (fun ls hl => ?_)
      have hw := hw v15 ev15
      refine lv_goto (tgt := 44) hx hb d_Ou_record_184 (by decide) ?_
      exact ih f8 f10 f11 f12 f13 f14 v2 v3 v4 v5 v6 v7 i2626 i2627 i2628 v1 v15 hw _ _ _ (wn_eq w rfl) (lv_sub hl [3, 4, 5, 1, 0] rfl)
set_option maxHeartbeats 4000000 in
set_option maxRecDepth 100000 in
theorem c_Ou_record (l : Launch) (n0 : Nat) (G : va_G) (K : KT) (ad : Nat → Nat) (X : va_W) (S : ST) (p2 : Int32) (p3 : Int32) (post : (Nat → Int32) → (Nat → Int32) → (Nat → Int32) → (Nat → Int32) → (Nat → Int32) → (Nat → Int64) → Int32 → Int32 → Int32 → Int32 → Int32 → Int32 → Int32 → Int32 → Int32 → Prop) (hw : wp_Ou_record S p2 p3 post) : Met l y_Ou_record (Cond.code y_Ou_record prog_7_method_3_code 8 none :: gw) rm_Ou_record (va_Pc [.ref (ad 41), .ref (ad 29), .int p2, .int p3] (wb n0 G K (wC K ad S ++ X))) (va_Qv (fun (u : (Nat → Int32) × (Nat → Int32) × (Nat → Int32) × (Nat → Int32) × (Nat → Int32) × (Nat → Int64) × Int32 × Int32 × Int32 × Int32 × Int32 × Int32 × Int32 × Int32 × Int32) => post u.1 u.2.1 u.2.2.1 u.2.2.2.1 u.2.2.2.2.1 u.2.2.2.2.2.1 u.2.2.2.2.2.2.1 u.2.2.2.2.2.2.2.1 u.2.2.2.2.2.2.2.2.1 u.2.2.2.2.2.2.2.2.2.1 u.2.2.2.2.2.2.2.2.2.2.1 u.2.2.2.2.2.2.2.2.2.2.2.1 u.2.2.2.2.2.2.2.2.2.2.2.2.1 u.2.2.2.2.2.2.2.2.2.2.2.2.2.1 u.2.2.2.2.2.2.2.2.2.2.2.2.2.2) (fun (u : (Nat → Int32) × (Nat → Int32) × (Nat → Int32) × (Nat → Int32) × (Nat → Int32) × (Nat → Int64) × Int32 × Int32 × Int32 × Int32 × Int32 × Int32 × Int32 × Int32 × Int32) t => we n0 G (wC K ad (sI (sI (sI (sI (sI (sI (sI (sI (sI (sL (sA (sA (sA (sA (sA S 43 u.1) 44 u.2.1) 45 u.2.2.1) 46 u.2.2.2.1) 47 u.2.2.2.2.1) 48 u.2.2.2.2.2.1) 1923 u.2.2.2.2.2.2.1) 1924 u.2.2.2.2.2.2.2.1) 1925 u.2.2.2.2.2.2.2.2.1) 1926 u.2.2.2.2.2.2.2.2.2.1) 1927 u.2.2.2.2.2.2.2.2.2.2.1) 1928 u.2.2.2.2.2.2.2.2.2.2.2.1) 2626 u.2.2.2.2.2.2.2.2.2.2.2.2.1) 2627 u.2.2.2.2.2.2.2.2.2.2.2.2.2.1) 2628 u.2.2.2.2.2.2.2.2.2.2.2.2.2.2) ++ X) t) (al n0)) 0 0 (al n0) := by
  refine kb_start (own := "LineBreaker$Outcome") (by decide +kernel) rfl ?_
  intro p e s m below meth c C hr hnm w
  have hx := C.1
  have hb := C.2.1
  have hts := C.2.2.2.2.1
  have hl := lv_entry ([.ref (ad 41), .ref (ad 29), .int p2, .int p3]) (n := 8) (Nat.le_of_ble_eq_true rfl)
  rw [lg_entry_eq]
  generalize (lg_sl ([.ref (ad 41), .ref (ad 29), .int p2, .int p3]) ++ List.replicate (8 - (lg_sl ([.ref (ad 41), .ref (ad 29), .int p2, .int p3])).length) Slot.unset).toArray = ls at hl ⊢
  have hl : lv_has ls 8 [(0, .ref (ad 41)), (1, .ref (ad 29)), (2, .int p2), (3, .int p3)] := hl
  unfold wp_Ou_record at hw
  refine lv_aload_n hx hb d_Ou_record_0 rfl (lv_at hl 1 rfl) ?_
  refine kg (C1 := R_Se) (T := F_Se) (N := 10) (ci := 7) (ref := "LineBreaker$Search") (v := .ref (ad 31)) C w 29 3 iw_Se rfl rfl (by decide) kw_299 rfl rfl d_Ou_record_1 ?_
  refine lv_astore (lv' := [(4, .ref (ad 31)), (0, .ref (ad 41)), (1, .ref (ad 29)), (2, .int p2), (3, .int p3)]) hx hb d_Ou_record_4 hl (by decide) rfl (fun ls hl => ?_)
  refine lv_aload_n hx hb d_Ou_record_6 rfl (lv_at hl 1 rfl) ?_
  refine lv_aload hx hb d_Ou_record_7 (lv_at hl 0 rfl) ?_
  refine kg (C1 := R_No) (T := F_No) (N := 6) (ci := 3) (ref := "LineBreaker$Nodes") (v := .ref (ad 33)) C w 31 1 iw_No rfl rfl (by decide) kw_243 rfl rfl d_Ou_record_9 ?_
  refine lv_iload_n hx hb d_Ou_record_12 rfl (lv_at hl 3 rfl) ?_
  refine ka_i (f := (S.1 33)) C w 33 rfl hw.1 d_Ou_record_13 ?_
  have hw := hw.2
  refine lv_topi (fun v1 ev1 => ?_)
  have hw := hw v1 ev1
  refine kp (C1 := R_Ou) (T := F_Ou) (N := 5) (ci := 5) (ty0 := t_Ou) (ref := "LineBreaker$Outcome") (w2 := wC K ad (sI S 2626 v1) ++ X) C w 41 2 iw_Ou tk_Ou n_Ou rfl rfl (by decide) kw_339 rfl rfl rfl rfl (Nat.le_of_ble_eq_true rfl) rfl d_Ou_record_14 (fun H locs w => ?_)
  refine lv_aload_n hx hb d_Ou_record_17 rfl (lv_at hl 1 rfl) ?_
  refine lv_iload_n hx hb d_Ou_record_18 rfl (lv_at hl 4 rfl) ?_
  refine kp (C1 := R_Ou) (T := F_Ou) (N := 5) (ci := 5) (ty0 := t_Ou) (ref := "LineBreaker$Outcome") (w2 := wC K ad (sI (sI S 2626 v1) 2627 p3) ++ X) C w 41 3 iw_Ou tk_Ou n_Ou rfl rfl (by decide) kw_341 rfl rfl rfl rfl (Nat.le_of_ble_eq_true rfl) rfl d_Ou_record_19 (fun H locs w => ?_)
  refine lv_aload_n hx hb d_Ou_record_22 rfl (lv_at hl 1 rfl) ?_
  refine lv_aload hx hb d_Ou_record_23 (lv_at hl 0 rfl) ?_
  refine kg (C1 := R_No) (T := F_No) (N := 6) (ci := 3) (ref := "LineBreaker$Nodes") (v := .int (S.2.2 1989)) C w 31 5 iw_No rfl rfl (by decide) kw_257 rfl rfl d_Ou_record_25 ?_
  refine lv_iconst (v := 1) hx hb d_Ou_record_28 (by decide) ?_
  refine lv_isub hx hb d_Ou_record_29 ?_
  refine lv_topi (fun v2 ev2 => ?_)
  have hw := hw v2 ev2
  refine kp (C1 := R_Ou) (T := F_Ou) (N := 5) (ci := 5) (ty0 := t_Ou) (ref := "LineBreaker$Outcome") (w2 := wC K ad (sI (sI (sI S 2626 v1) 2627 p3) 2628 v2) ++ X) C w 41 4 iw_Ou tk_Ou n_Ou rfl rfl (by decide) kw_343 rfl rfl rfl rfl (Nat.le_of_ble_eq_true rfl) rfl d_Ou_record_30 (fun H locs w => ?_)
  refine lv_iload_n hx hb d_Ou_record_33 rfl (lv_at hl 3 rfl) ?_
  refine lv_istore (lv' := [(5, .int p2), (4, .ref (ad 31)), (0, .ref (ad 41)), (1, .ref (ad 29)), (2, .int p2), (3, .int p3)]) hx hb d_Ou_record_34 hl (by decide) rfl (fun ls hl => ?_)
  refine lv_aload_n hx hb d_Ou_record_36 rfl (lv_at hl 2 rfl) ?_
  refine kg (C1 := R_Ou) (T := F_Ou) (N := 5) (ci := 5) (ref := "LineBreaker$Outcome") (v := .int v1) C w 41 2 iw_Ou rfl rfl (by decide) kw_339 rfl rfl d_Ou_record_37 ?_
  refine lv_iconst (v := 1) hx hb d_Ou_record_40 (by decide) ?_
  refine lv_isub hx hb d_Ou_record_41 ?_
  refine lv_topi (fun v3 ev3 => ?_)
  have hw := hw v3 ev3
  refine lv_istore (lv' := [(6, .int v3), (5, .int p2), (4, .ref (ad 31)), (0, .ref (ad 41)), (1, .ref (ad 29)), (2, .int p2), (3, .int p3)]) hx hb d_Ou_record_42 hl (by decide) rfl (fun ls hl => ?_)
  obtain ⟨n9, hw⟩ := hw
  exact w_Ou_record_44 C hr  n9 (S.1 43) (S.1 44) (S.1 45) (S.1 46) (S.1 47) (S.2.1 48) (S.2.2 1923) (S.2.2 1924) (S.2.2 1925) (S.2.2 1926) (S.2.2 1927) (S.2.2 1928) v1 p3 v2 p2 v3 hw _ _ _ (wn_eq w rfl) (lv_sub hl [3, 4, 2, 1, 0] rfl)
set_option maxHeartbeats 4000000 in
set_option maxRecDepth 100000 in
theorem c_Pa_append (l : Launch) (n0 : Nat) (G : va_G) (K : KT) (ad : Nat → Nat) (X : va_W) (S : ST) (p1 : Int32) (p2 : Int32) (post : Int32 → (Nat → Int32) → (Nat → Int32) → (Nat → Int32) → (Nat → Int32) → (Nat → Int32) → (Nat → Int32) → (Nat → Int32) → (Nat → Int32) → (Nat → Int32) → Int32 → Prop) (hw : wp_Pa_append S p1 p2 post) : Met l y_Pa_append (Cond.code y_Pa_append prog_8_method_2_code 4 (some .int) :: gw) rm_Pa_append (va_Pc [.ref (ad 1), .int p1, .int p2] (wb n0 G K (wC K ad S ++ X))) (va_Qi (fun r (u : (Nat → Int32) × (Nat → Int32) × (Nat → Int32) × (Nat → Int32) × (Nat → Int32) × (Nat → Int32) × (Nat → Int32) × (Nat → Int32) × (Nat → Int32) × Int32) => post r u.1 u.2.1 u.2.2.1 u.2.2.2.1 u.2.2.2.2.1 u.2.2.2.2.2.1 u.2.2.2.2.2.2.1 u.2.2.2.2.2.2.2.1 u.2.2.2.2.2.2.2.2.1 u.2.2.2.2.2.2.2.2.2) (fun (u : (Nat → Int32) × (Nat → Int32) × (Nat → Int32) × (Nat → Int32) × (Nat → Int32) × (Nat → Int32) × (Nat → Int32) × (Nat → Int32) × (Nat → Int32) × Int32) t => we n0 G (wC K ad (sI (sA (sA (sA (sA (sA (sA (sA (sA (sA S 2 u.1) 3 u.2.1) 4 u.2.2.1) 5 u.2.2.2.1) 6 u.2.2.2.2.1) 7 u.2.2.2.2.2.1) 8 u.2.2.2.2.2.2.1) 9 u.2.2.2.2.2.2.2.1) 10 u.2.2.2.2.2.2.2.2.1) 73 u.2.2.2.2.2.2.2.2.2) ++ X) t) (al n0)) 0 0 (al n0) := by
  refine kb_start (own := "LineBreaker$Paragraph") (by decide +kernel) rfl ?_
  intro p e s m below meth c C hr hnm w
  have hx := C.1
  have hb := C.2.1
  have hts := C.2.2.2.2.1
  have hl := lv_entry ([.ref (ad 1), .int p1, .int p2]) (n := 4) (Nat.le_of_ble_eq_true rfl)
  rw [lg_entry_eq]
  generalize (lg_sl ([.ref (ad 1), .int p1, .int p2]) ++ List.replicate (4 - (lg_sl ([.ref (ad 1), .int p1, .int p2])).length) Slot.unset).toArray = ls at hl ⊢
  have hl : lv_has ls 4 [(0, .ref (ad 1)), (1, .int p1), (2, .int p2)] := hl
  unfold wp_Pa_append at hw
  refine lv_aload_n hx hb d_Pa_append_0 rfl (lv_at hl 0 rfl) ?_
  refine kg (C1 := R_Pa) (T := F_Pa) (N := 10) (ci := 6) (ref := "LineBreaker$Paragraph") (v := .int (S.2.2 73)) C w 1 9 iw_Pa rfl rfl (by decide) kw_53 rfl rfl d_Pa_append_1 ?_
  refine lv_topi (fun v1 ev1 => ?_)
  have hw := hw v1 ev1
  refine lv_istore_n (lv' := [(3, .int v1), (0, .ref (ad 1)), (1, .int p1), (2, .int p2)]) hx hb d_Pa_append_4 rfl hl (by decide) rfl (fun ls hl => ?_)
  refine lv_aload_n hx hb d_Pa_append_5 rfl (lv_at hl 1 rfl) ?_
  refine kg (C1 := R_Pa) (T := F_Pa) (N := 10) (ci := 6) (ref := "LineBreaker$Paragraph") (v := .ref (ad 2)) C w 1 0 iw_Pa rfl rfl (by decide) kw_35 rfl rfl d_Pa_append_6 ?_
  refine lv_iload_n hx hb d_Pa_append_9 rfl (lv_at hl 0 rfl) ?_
  refine lv_iload_n hx hb d_Pa_append_10 rfl (lv_at hl 2 rfl) ?_
  obtain ⟨f2, ef2⟩ : ∃ z : Nat → Int32, z = upd (S.1 2) v1.toNatClampNeg p1 := ⟨_, rfl⟩
  refine ks_i (f := (S.1 2)) (w2 := wC K ad (sA S 2 f2) ++ X) C w 2 rfl hw.1 (by rw [← ef2]; rfl) d_Pa_append_11 (fun H locs w => ?_)
  have hw := hw.2 f2 ef2
  refine lv_aload_n hx hb d_Pa_append_12 rfl (lv_at hl 1 rfl) ?_
  refine kg (C1 := R_Pa) (T := F_Pa) (N := 10) (ci := 6) (ref := "LineBreaker$Paragraph") (v := .ref (ad 3)) C w 1 1 iw_Pa rfl rfl (by decide) kw_37 rfl rfl d_Pa_append_13 ?_
  refine lv_iload_n hx hb d_Pa_append_16 rfl (lv_at hl 0 rfl) ?_
  refine lv_iload_n hx hb d_Pa_append_17 rfl (lv_at hl 3 rfl) ?_
  obtain ⟨f3, ef3⟩ : ∃ z : Nat → Int32, z = upd (S.1 3) v1.toNatClampNeg p2 := ⟨_, rfl⟩
  refine ks_i (f := (S.1 3)) (w2 := wC K ad (sA (sA S 2 f2) 3 f3) ++ X) C w 3 rfl hw.1 (by rw [← ef3]; rfl) d_Pa_append_18 (fun H locs w => ?_)
  have hw := hw.2 f3 ef3
  refine lv_aload_n hx hb d_Pa_append_19 rfl (lv_at hl 1 rfl) ?_
  refine kg (C1 := R_Pa) (T := F_Pa) (N := 10) (ci := 6) (ref := "LineBreaker$Paragraph") (v := .ref (ad 4)) C w 1 2 iw_Pa rfl rfl (by decide) kw_39 rfl rfl d_Pa_append_20 ?_
  refine lv_iload_n hx hb d_Pa_append_23 rfl (lv_at hl 0 rfl) ?_
  refine lv_iconst (v := 0) hx hb d_Pa_append_24 (by decide) ?_
  obtain ⟨f4, ef4⟩ : ∃ z : Nat → Int32, z = upd (S.1 4) v1.toNatClampNeg 0 := ⟨_, rfl⟩
  refine ks_i (f := (S.1 4)) (w2 := wC K ad (sA (sA (sA S 2 f2) 3 f3) 4 f4) ++ X) C w 4 rfl hw.1 (by rw [← ef4]; rfl) d_Pa_append_25 (fun H locs w => ?_)
  have hw := hw.2 f4 ef4
  refine lv_aload_n hx hb d_Pa_append_26 rfl (lv_at hl 1 rfl) ?_
  refine kg (C1 := R_Pa) (T := F_Pa) (N := 10) (ci := 6) (ref := "LineBreaker$Paragraph") (v := .ref (ad 5)) C w 1 3 iw_Pa rfl rfl (by decide) kw_41 rfl rfl d_Pa_append_27 ?_
  refine lv_iload_n hx hb d_Pa_append_30 rfl (lv_at hl 0 rfl) ?_
  refine lv_iconst (v := 0) hx hb d_Pa_append_31 (by decide) ?_
  obtain ⟨f5, ef5⟩ : ∃ z : Nat → Int32, z = upd (S.1 5) v1.toNatClampNeg 0 := ⟨_, rfl⟩
  refine ks_i (f := (S.1 5)) (w2 := wC K ad (sA (sA (sA (sA S 2 f2) 3 f3) 4 f4) 5 f5) ++ X) C w 5 rfl hw.1 (by rw [← ef5]; rfl) d_Pa_append_32 (fun H locs w => ?_)
  have hw := hw.2 f5 ef5
  refine lv_aload_n hx hb d_Pa_append_33 rfl (lv_at hl 1 rfl) ?_
  refine kg (C1 := R_Pa) (T := F_Pa) (N := 10) (ci := 6) (ref := "LineBreaker$Paragraph") (v := .ref (ad 6)) C w 1 4 iw_Pa rfl rfl (by decide) kw_43 rfl rfl d_Pa_append_34 ?_
  refine lv_iload_n hx hb d_Pa_append_37 rfl (lv_at hl 0 rfl) ?_
  refine lv_iconst (v := 0) hx hb d_Pa_append_38 (by decide) ?_
  obtain ⟨f6, ef6⟩ : ∃ z : Nat → Int32, z = upd (S.1 6) v1.toNatClampNeg 0 := ⟨_, rfl⟩
  refine ks_i (f := (S.1 6)) (w2 := wC K ad (sA (sA (sA (sA (sA S 2 f2) 3 f3) 4 f4) 5 f5) 6 f6) ++ X) C w 6 rfl hw.1 (by rw [← ef6]; rfl) d_Pa_append_39 (fun H locs w => ?_)
  have hw := hw.2 f6 ef6
  refine lv_aload_n hx hb d_Pa_append_40 rfl (lv_at hl 1 rfl) ?_
  refine kg (C1 := R_Pa) (T := F_Pa) (N := 10) (ci := 6) (ref := "LineBreaker$Paragraph") (v := .ref (ad 7)) C w 1 5 iw_Pa rfl rfl (by decide) kw_45 rfl rfl d_Pa_append_41 ?_
  refine lv_iload_n hx hb d_Pa_append_44 rfl (lv_at hl 0 rfl) ?_
  refine lv_iconst (v := 0) hx hb d_Pa_append_45 (by decide) ?_
  obtain ⟨f7, ef7⟩ : ∃ z : Nat → Int32, z = upd (S.1 7) v1.toNatClampNeg 0 := ⟨_, rfl⟩
  refine ks_i (f := (S.1 7)) (w2 := wC K ad (sA (sA (sA (sA (sA (sA S 2 f2) 3 f3) 4 f4) 5 f5) 6 f6) 7 f7) ++ X) C w 7 rfl hw.1 (by rw [← ef7]; rfl) d_Pa_append_46 (fun H locs w => ?_)
  have hw := hw.2 f7 ef7
  refine lv_aload_n hx hb d_Pa_append_47 rfl (lv_at hl 1 rfl) ?_
  refine kg (C1 := R_Pa) (T := F_Pa) (N := 10) (ci := 6) (ref := "LineBreaker$Paragraph") (v := .ref (ad 8)) C w 1 6 iw_Pa rfl rfl (by decide) kw_47 rfl rfl d_Pa_append_48 ?_
  refine lv_iload_n hx hb d_Pa_append_51 rfl (lv_at hl 0 rfl) ?_
  refine lv_ldc (v := (-1073741824)) hx hb C.2.2.2.1 (hts _ kw_502) d_Pa_append_52 ?_
  obtain ⟨f8, ef8⟩ : ∃ z : Nat → Int32, z = upd (S.1 8) v1.toNatClampNeg (-1073741824) := ⟨_, rfl⟩
  refine ks_i (f := (S.1 8)) (w2 := wC K ad (sA (sA (sA (sA (sA (sA (sA S 2 f2) 3 f3) 4 f4) 5 f5) 6 f6) 7 f7) 8 f8) ++ X) C w 8 rfl hw.1 (by rw [← ef8]; rfl) d_Pa_append_54 (fun H locs w => ?_)
  have hw := hw.2 f8 ef8
  refine lv_aload_n hx hb d_Pa_append_55 rfl (lv_at hl 1 rfl) ?_
  refine kg (C1 := R_Pa) (T := F_Pa) (N := 10) (ci := 6) (ref := "LineBreaker$Paragraph") (v := .ref (ad 9)) C w 1 7 iw_Pa rfl rfl (by decide) kw_49 rfl rfl d_Pa_append_56 ?_
  refine lv_iload_n hx hb d_Pa_append_59 rfl (lv_at hl 0 rfl) ?_
  refine lv_ldc (v := (-1073741824)) hx hb C.2.2.2.1 (hts _ kw_502) d_Pa_append_60 ?_
  obtain ⟨f9, ef9⟩ : ∃ z : Nat → Int32, z = upd (S.1 9) v1.toNatClampNeg (-1073741824) := ⟨_, rfl⟩
  refine ks_i (f := (S.1 9)) (w2 := wC K ad (sA (sA (sA (sA (sA (sA (sA (sA S 2 f2) 3 f3) 4 f4) 5 f5) 6 f6) 7 f7) 8 f8) 9 f9) ++ X) C w 9 rfl hw.1 (by rw [← ef9]; rfl) d_Pa_append_62 (fun H locs w => ?_)
  have hw := hw.2 f9 ef9
  refine lv_aload_n hx hb d_Pa_append_63 rfl (lv_at hl 1 rfl) ?_
  refine kg (C1 := R_Pa) (T := F_Pa) (N := 10) (ci := 6) (ref := "LineBreaker$Paragraph") (v := .ref (ad 10)) C w 1 8 iw_Pa rfl rfl (by decide) kw_51 rfl rfl d_Pa_append_64 ?_
  refine lv_iload_n hx hb d_Pa_append_67 rfl (lv_at hl 0 rfl) ?_
  refine lv_iconst (v := 0) hx hb d_Pa_append_68 (by decide) ?_
  obtain ⟨f10, ef10⟩ : ∃ z : Nat → Int32, z = upd (S.1 10) v1.toNatClampNeg 0 := ⟨_, rfl⟩
  refine ks_i (f := (S.1 10)) (w2 := wC K ad (sA (sA (sA (sA (sA (sA (sA (sA (sA S 2 f2) 3 f3) 4 f4) 5 f5) 6 f6) 7 f7) 8 f8) 9 f9) 10 f10) ++ X) C w 10 rfl hw.1 (by rw [← ef10]; rfl) d_Pa_append_69 (fun H locs w => ?_)
  have hw := hw.2 f10 ef10
  refine lv_aload_n hx hb d_Pa_append_70 rfl (lv_at hl 1 rfl) ?_
  refine lv_iload_n hx hb d_Pa_append_71 rfl (lv_at hl 0 rfl) ?_
  refine lv_iconst (v := 1) hx hb d_Pa_append_72 (by decide) ?_
  refine lv_iadd hx hb d_Pa_append_73 ?_
  refine lv_topi (fun v11 ev11 => ?_)
  have hw := hw v11 ev11
  refine kp (C1 := R_Pa) (T := F_Pa) (N := 10) (ci := 6) (ty0 := t_Pa) (ref := "LineBreaker$Paragraph") (w2 := wC K ad (sI (sA (sA (sA (sA (sA (sA (sA (sA (sA S 2 f2) 3 f3) 4 f4) 5 f5) 6 f6) 7 f7) 8 f8) 9 f9) 10 f10) 73 v11) ++ X) C w 1 9 iw_Pa tk_Pa n_Pa rfl rfl (by decide) kw_53 rfl rfl rfl rfl (Nat.le_of_ble_eq_true rfl) rfl d_Pa_append_74 (fun H locs w => ?_)
  refine lv_iload_n hx hb d_Pa_append_77 rfl (lv_at hl 0 rfl) ?_
  exact ke_i (post := (fun r (u : (Nat → Int32) × (Nat → Int32) × (Nat → Int32) × (Nat → Int32) × (Nat → Int32) × (Nat → Int32) × (Nat → Int32) × (Nat → Int32) × (Nat → Int32) × Int32) => post r u.1 u.2.1 u.2.2.1 u.2.2.2.1 u.2.2.2.2.1 u.2.2.2.2.2.1 u.2.2.2.2.2.2.1 u.2.2.2.2.2.2.2.1 u.2.2.2.2.2.2.2.2.1 u.2.2.2.2.2.2.2.2.2)) (st := (fun (u : (Nat → Int32) × (Nat → Int32) × (Nat → Int32) × (Nat → Int32) × (Nat → Int32) × (Nat → Int32) × (Nat → Int32) × (Nat → Int32) × (Nat → Int32) × Int32) => wC K ad (sI (sA (sA (sA (sA (sA (sA (sA (sA (sA S 2 u.1) 3 u.2.1) 4 u.2.2.1) 5 u.2.2.2.1) 6 u.2.2.2.2.1) 7 u.2.2.2.2.2.1) 8 u.2.2.2.2.2.2.1) 9 u.2.2.2.2.2.2.2.1) 10 u.2.2.2.2.2.2.2.2.1) 73 u.2.2.2.2.2.2.2.2.2) ++ X)) (u := (f2, f3, f4, f5, f6, f7, f8, f9, f10, v11)) C hr d_Pa_append_78 (wn_eq w rfl) hw
set_option maxHeartbeats 4000000 in
set_option maxRecDepth 100000 in
theorem c_Pa_appendGlue (l : Launch) (n0 : Nat) (G : va_G) (K : KT) (ad : Nat → Nat) (X : va_W) (S : ST) (p1 : Int32) (p2 : Int32) (p3 : Int32) (p4 : Int32) (post : Int32 → (Nat → Int32) → (Nat → Int32) → (Nat → Int32) → (Nat → Int32) → (Nat → Int32) → (Nat → Int32) → (Nat → Int32) → (Nat → Int32) → (Nat → Int32) → Int32 → Prop) (hw : wp_Pa_appendGlue S p1 p2 p3 p4 post) : Met l y_Pa_appendGlue (Cond.code y_Pa_appendGlue prog_8_method_3_code 6 (some .int) :: gw) rm_Pa_appendGlue (va_Pc [.ref (ad 1), .int p1, .int p2, .int p3, .int p4] (wb n0 G K (wC K ad S ++ X))) (va_Qi (fun r (u : (Nat → Int32) × (Nat → Int32) × (Nat → Int32) × (Nat → Int32) × (Nat → Int32) × (Nat → Int32) × (Nat → Int32) × (Nat → Int32) × (Nat → Int32) × Int32) => post r u.1 u.2.1 u.2.2.1 u.2.2.2.1 u.2.2.2.2.1 u.2.2.2.2.2.1 u.2.2.2.2.2.2.1 u.2.2.2.2.2.2.2.1 u.2.2.2.2.2.2.2.2.1 u.2.2.2.2.2.2.2.2.2) (fun (u : (Nat → Int32) × (Nat → Int32) × (Nat → Int32) × (Nat → Int32) × (Nat → Int32) × (Nat → Int32) × (Nat → Int32) × (Nat → Int32) × (Nat → Int32) × Int32) t => we n0 G (wC K ad (sI (sA (sA (sA (sA (sA (sA (sA (sA (sA S 2 u.1) 3 u.2.1) 4 u.2.2.1) 5 u.2.2.2.1) 6 u.2.2.2.2.1) 7 u.2.2.2.2.2.1) 8 u.2.2.2.2.2.2.1) 9 u.2.2.2.2.2.2.2.1) 10 u.2.2.2.2.2.2.2.2.1) 73 u.2.2.2.2.2.2.2.2.2) ++ X) t) (al n0)) 0 0 (al n0) := by
  refine kb_start (own := "LineBreaker$Paragraph") (by decide +kernel) rfl ?_
  intro p e s m below meth c C hr hnm w
  have hx := C.1
  have hb := C.2.1
  have hts := C.2.2.2.2.1
  have hl := lv_entry ([.ref (ad 1), .int p1, .int p2, .int p3, .int p4]) (n := 6) (Nat.le_of_ble_eq_true rfl)
  rw [lg_entry_eq]
  generalize (lg_sl ([.ref (ad 1), .int p1, .int p2, .int p3, .int p4]) ++ List.replicate (6 - (lg_sl ([.ref (ad 1), .int p1, .int p2, .int p3, .int p4])).length) Slot.unset).toArray = ls at hl ⊢
  have hl : lv_has ls 6 [(0, .ref (ad 1)), (1, .int p1), (2, .int p2), (3, .int p3), (4, .int p4)] := hl
  unfold wp_Pa_appendGlue at hw
  refine lv_aload_n hx hb d_Pa_appendGlue_0 rfl (lv_at hl 0 rfl) ?_
  refine lv_iconst (v := 1) hx hb d_Pa_appendGlue_1 (by decide) ?_
  refine lv_iload_n hx hb d_Pa_appendGlue_2 rfl (lv_at hl 1 rfl) ?_
  refine kc_i (st := fun (u : (Nat → Int32) × (Nat → Int32) × (Nat → Int32) × (Nat → Int32) × (Nat → Int32) × (Nat → Int32) × (Nat → Int32) × (Nat → Int32) × (Nat → Int32) × Int32) => wC K ad (sI (sA (sA (sA (sA (sA (sA (sA (sA (sA S 2 u.1) 3 u.2.1) 4 u.2.2.1) 5 u.2.2.2.1) 6 u.2.2.2.2.1) 7 u.2.2.2.2.2.1) 8 u.2.2.2.2.2.2.1) 9 u.2.2.2.2.2.2.2.1) 10 u.2.2.2.2.2.2.2.2.1) 73 u.2.2.2.2.2.2.2.2.2) ++ X) w (kr_V (y := y_Pa_append) (C1 := R_Pa) (T := F_Pa) (N := 10) (ci := 6) (q0 := 1) (As := [.int 1, .int p1]) (n := 2) C w (c_Pa_append l n0 G K ad X S 1 p1 _ hw) (gw_V kw_547 kw_499 kw_500 kw_2 kw_501) (by decide +kernel) rfl rfl ⟨Nat.le_of_ble_eq_true rfl, Nat.le_of_ble_eq_true rfl⟩ rfl rfl rfl hl.1 rfl (Nat.le_of_ble_eq_true rfl) d_Pa_appendGlue_3 ⟨Nat.le_of_ble_eq_true rfl, Nat.le_of_ble_eq_true rfl⟩) (fun r11 u H locs hw w => ?_)
  obtain ⟨f1, f2, f3, f4, f5, f6, f7, f8, f9, v10⟩ := u
  dsimp only at hw
  have w : wn n0 G (wC K ad (sI (sA (sA (sA (sA (sA (sA (sA (sA (sA S 2 f1) 3 f2) 4 f3) 5 f4) 6 f5) 7 f6) 8 f7) 9 f8) 10 f9) 73 v10) ++ X) s H locs := w
  refine lv_istore (lv' := [(5, .int r11), (0, .ref (ad 1)), (1, .int p1), (2, .int p2), (3, .int p3), (4, .int p4)]) hx hb d_Pa_appendGlue_6 hl (by decide) rfl (fun ls hl => ?_)
  refine lv_aload_n hx hb d_Pa_appendGlue_8 rfl (lv_at hl 1 rfl) ?_
  refine kg (C1 := R_Pa) (T := F_Pa) (N := 10) (ci := 6) (ref := "LineBreaker$Paragraph") (v := .ref (ad 4)) C w 1 2 iw_Pa rfl rfl (by decide) kw_39 rfl rfl d_Pa_appendGlue_9 ?_
  refine lv_iload hx hb d_Pa_appendGlue_12 (lv_at hl 0 rfl) ?_
  refine lv_iload_n hx hb d_Pa_appendGlue_14 rfl (lv_at hl 3 rfl) ?_
  obtain ⟨f12, ef12⟩ : ∃ z : Nat → Int32, z = upd f3 r11.toNatClampNeg p2 := ⟨_, rfl⟩
  refine ks_i (f := f3) (w2 := wC K ad (sI (sA (sA (sA (sA (sA (sA (sA (sA (sA S 2 f1) 3 f2) 4 f12) 5 f4) 6 f5) 7 f6) 8 f7) 9 f8) 10 f9) 73 v10) ++ X) C w 4 rfl hw.1 (by rw [← ef12]; rfl) d_Pa_appendGlue_15 (fun H locs w => ?_)
  have hw := hw.2 f12 ef12
  refine lv_aload_n hx hb d_Pa_appendGlue_16 rfl (lv_at hl 1 rfl) ?_
  refine kg (C1 := R_Pa) (T := F_Pa) (N := 10) (ci := 6) (ref := "LineBreaker$Paragraph") (v := .ref (ad 5)) C w 1 3 iw_Pa rfl rfl (by decide) kw_41 rfl rfl d_Pa_appendGlue_17 ?_
  refine lv_iload hx hb d_Pa_appendGlue_20 (lv_at hl 0 rfl) ?_
  refine lv_iload_n hx hb d_Pa_appendGlue_22 rfl (lv_at hl 4 rfl) ?_
  obtain ⟨f13, ef13⟩ : ∃ z : Nat → Int32, z = upd f4 r11.toNatClampNeg p3 := ⟨_, rfl⟩
  refine ks_i (f := f4) (w2 := wC K ad (sI (sA (sA (sA (sA (sA (sA (sA (sA (sA S 2 f1) 3 f2) 4 f12) 5 f13) 6 f5) 7 f6) 8 f7) 9 f8) 10 f9) 73 v10) ++ X) C w 5 rfl hw.1 (by rw [← ef13]; rfl) d_Pa_appendGlue_23 (fun H locs w => ?_)
  have hw := hw.2 f13 ef13
  refine lv_aload_n hx hb d_Pa_appendGlue_24 rfl (lv_at hl 1 rfl) ?_
  refine kg (C1 := R_Pa) (T := F_Pa) (N := 10) (ci := 6) (ref := "LineBreaker$Paragraph") (v := .ref (ad 6)) C w 1 4 iw_Pa rfl rfl (by decide) kw_43 rfl rfl d_Pa_appendGlue_25 ?_
  refine lv_iload hx hb d_Pa_appendGlue_28 (lv_at hl 0 rfl) ?_
  refine lv_iload hx hb d_Pa_appendGlue_30 (lv_at hl 5 rfl) ?_
  obtain ⟨f14, ef14⟩ : ∃ z : Nat → Int32, z = upd f5 r11.toNatClampNeg p4 := ⟨_, rfl⟩
  refine ks_i (f := f5) (w2 := wC K ad (sI (sA (sA (sA (sA (sA (sA (sA (sA (sA S 2 f1) 3 f2) 4 f12) 5 f13) 6 f14) 7 f6) 8 f7) 9 f8) 10 f9) 73 v10) ++ X) C w 6 rfl hw.1 (by rw [← ef14]; rfl) d_Pa_appendGlue_32 (fun H locs w => ?_)
  have hw := hw.2 f14 ef14
  refine lv_iload hx hb d_Pa_appendGlue_33 (lv_at hl 0 rfl) ?_
  exact ke_i (post := (fun r (u : (Nat → Int32) × (Nat → Int32) × (Nat → Int32) × (Nat → Int32) × (Nat → Int32) × (Nat → Int32) × (Nat → Int32) × (Nat → Int32) × (Nat → Int32) × Int32) => post r u.1 u.2.1 u.2.2.1 u.2.2.2.1 u.2.2.2.2.1 u.2.2.2.2.2.1 u.2.2.2.2.2.2.1 u.2.2.2.2.2.2.2.1 u.2.2.2.2.2.2.2.2.1 u.2.2.2.2.2.2.2.2.2)) (st := (fun (u : (Nat → Int32) × (Nat → Int32) × (Nat → Int32) × (Nat → Int32) × (Nat → Int32) × (Nat → Int32) × (Nat → Int32) × (Nat → Int32) × (Nat → Int32) × Int32) => wC K ad (sI (sA (sA (sA (sA (sA (sA (sA (sA (sA S 2 u.1) 3 u.2.1) 4 u.2.2.1) 5 u.2.2.2.1) 6 u.2.2.2.2.1) 7 u.2.2.2.2.2.1) 8 u.2.2.2.2.2.2.1) 9 u.2.2.2.2.2.2.2.1) 10 u.2.2.2.2.2.2.2.2.1) 73 u.2.2.2.2.2.2.2.2.2) ++ X)) (u := (f1, f2, f12, f13, f14, f6, f7, f8, f9, v10)) C hr d_Pa_appendGlue_35 (wn_eq w rfl) hw
set_option maxHeartbeats 4000000 in
set_option maxRecDepth 100000 in
theorem c_Pa_appendPenalty (l : Launch) (n0 : Nat) (G : va_G) (K : KT) (ad : Nat → Nat) (X : va_W) (S : ST) (p1 : Int32) (post : Int32 → (Nat → Int32) → (Nat → Int32) → (Nat → Int32) → (Nat → Int32) → (Nat → Int32) → (Nat → Int32) → (Nat → Int32) → (Nat → Int32) → (Nat → Int32) → Int32 → Prop) (hw : wp_Pa_appendPenalty S p1 post) : Met l y_Pa_appendPenalty (Cond.code y_Pa_appendPenalty prog_8_method_4_code 3 (some .int) :: gw) rm_Pa_appendPenalty (va_Pc [.ref (ad 1), .int p1] (wb n0 G K (wC K ad S ++ X))) (va_Qi (fun r (u : (Nat → Int32) × (Nat → Int32) × (Nat → Int32) × (Nat → Int32) × (Nat → Int32) × (Nat → Int32) × (Nat → Int32) × (Nat → Int32) × (Nat → Int32) × Int32) => post r u.1 u.2.1 u.2.2.1 u.2.2.2.1 u.2.2.2.2.1 u.2.2.2.2.2.1 u.2.2.2.2.2.2.1 u.2.2.2.2.2.2.2.1 u.2.2.2.2.2.2.2.2.1 u.2.2.2.2.2.2.2.2.2) (fun (u : (Nat → Int32) × (Nat → Int32) × (Nat → Int32) × (Nat → Int32) × (Nat → Int32) × (Nat → Int32) × (Nat → Int32) × (Nat → Int32) × (Nat → Int32) × Int32) t => we n0 G (wC K ad (sI (sA (sA (sA (sA (sA (sA (sA (sA (sA S 2 u.1) 3 u.2.1) 4 u.2.2.1) 5 u.2.2.2.1) 6 u.2.2.2.2.1) 7 u.2.2.2.2.2.1) 8 u.2.2.2.2.2.2.1) 9 u.2.2.2.2.2.2.2.1) 10 u.2.2.2.2.2.2.2.2.1) 73 u.2.2.2.2.2.2.2.2.2) ++ X) t) (al n0)) 0 0 (al n0) := by
  refine kb_start (own := "LineBreaker$Paragraph") (by decide +kernel) rfl ?_
  intro p e s m below meth c C hr hnm w
  have hx := C.1
  have hb := C.2.1
  have hts := C.2.2.2.2.1
  have hl := lv_entry ([.ref (ad 1), .int p1]) (n := 3) (Nat.le_of_ble_eq_true rfl)
  rw [lg_entry_eq]
  generalize (lg_sl ([.ref (ad 1), .int p1]) ++ List.replicate (3 - (lg_sl ([.ref (ad 1), .int p1])).length) Slot.unset).toArray = ls at hl ⊢
  have hl : lv_has ls 3 [(0, .ref (ad 1)), (1, .int p1)] := hl
  unfold wp_Pa_appendPenalty at hw
  refine lv_aload_n hx hb d_Pa_appendPenalty_0 rfl (lv_at hl 0 rfl) ?_
  refine lv_iconst (v := 4) hx hb d_Pa_appendPenalty_1 (by decide) ?_
  refine lv_iconst (v := 0) hx hb d_Pa_appendPenalty_2 (by decide) ?_
  refine kc_i (st := fun (u : (Nat → Int32) × (Nat → Int32) × (Nat → Int32) × (Nat → Int32) × (Nat → Int32) × (Nat → Int32) × (Nat → Int32) × (Nat → Int32) × (Nat → Int32) × Int32) => wC K ad (sI (sA (sA (sA (sA (sA (sA (sA (sA (sA S 2 u.1) 3 u.2.1) 4 u.2.2.1) 5 u.2.2.2.1) 6 u.2.2.2.2.1) 7 u.2.2.2.2.2.1) 8 u.2.2.2.2.2.2.1) 9 u.2.2.2.2.2.2.2.1) 10 u.2.2.2.2.2.2.2.2.1) 73 u.2.2.2.2.2.2.2.2.2) ++ X) w (kr_V (y := y_Pa_append) (C1 := R_Pa) (T := F_Pa) (N := 10) (ci := 6) (q0 := 1) (As := [.int 4, .int 0]) (n := 2) C w (c_Pa_append l n0 G K ad X S 4 0 _ hw) (gw_V kw_547 kw_499 kw_500 kw_2 kw_501) (by decide +kernel) rfl rfl ⟨Nat.le_of_ble_eq_true rfl, Nat.le_of_ble_eq_true rfl⟩ rfl rfl rfl hl.1 rfl (Nat.le_of_ble_eq_true rfl) d_Pa_appendPenalty_3 ⟨Nat.le_of_ble_eq_true rfl, Nat.le_of_ble_eq_true rfl⟩) (fun r11 u H locs hw w => ?_)
  obtain ⟨f1, f2, f3, f4, f5, f6, f7, f8, f9, v10⟩ := u
  dsimp only at hw
  have w : wn n0 G (wC K ad (sI (sA (sA (sA (sA (sA (sA (sA (sA (sA S 2 f1) 3 f2) 4 f3) 5 f4) 6 f5) 7 f6) 8 f7) 9 f8) 10 f9) 73 v10) ++ X) s H locs := w
  refine lv_istore_n (lv' := [(2, .int r11), (0, .ref (ad 1)), (1, .int p1)]) hx hb d_Pa_appendPenalty_6 rfl hl (by decide) rfl (fun ls hl => ?_)
  refine lv_aload_n hx hb d_Pa_appendPenalty_7 rfl (lv_at hl 1 rfl) ?_
  refine kg (C1 := R_Pa) (T := F_Pa) (N := 10) (ci := 6) (ref := "LineBreaker$Paragraph") (v := .ref (ad 7)) C w 1 5 iw_Pa rfl rfl (by decide) kw_45 rfl rfl d_Pa_appendPenalty_8 ?_
  refine lv_iload_n hx hb d_Pa_appendPenalty_11 rfl (lv_at hl 0 rfl) ?_
  refine lv_iload_n hx hb d_Pa_appendPenalty_12 rfl (lv_at hl 2 rfl) ?_
  obtain ⟨f12, ef12⟩ : ∃ z : Nat → Int32, z = upd f6 r11.toNatClampNeg p1 := ⟨_, rfl⟩
  refine ks_i (f := f6) (w2 := wC K ad (sI (sA (sA (sA (sA (sA (sA (sA (sA (sA S 2 f1) 3 f2) 4 f3) 5 f4) 6 f5) 7 f12) 8 f7) 9 f8) 10 f9) 73 v10) ++ X) C w 7 rfl hw.1 (by rw [← ef12]; rfl) d_Pa_appendPenalty_13 (fun H locs w => ?_)
  have hw := hw.2 f12 ef12
  refine lv_iload_n hx hb d_Pa_appendPenalty_14 rfl (lv_at hl 0 rfl) ?_
  exact ke_i (post := (fun r (u : (Nat → Int32) × (Nat → Int32) × (Nat → Int32) × (Nat → Int32) × (Nat → Int32) × (Nat → Int32) × (Nat → Int32) × (Nat → Int32) × (Nat → Int32) × Int32) => post r u.1 u.2.1 u.2.2.1 u.2.2.2.1 u.2.2.2.2.1 u.2.2.2.2.2.1 u.2.2.2.2.2.2.1 u.2.2.2.2.2.2.2.1 u.2.2.2.2.2.2.2.2.1 u.2.2.2.2.2.2.2.2.2)) (st := (fun (u : (Nat → Int32) × (Nat → Int32) × (Nat → Int32) × (Nat → Int32) × (Nat → Int32) × (Nat → Int32) × (Nat → Int32) × (Nat → Int32) × (Nat → Int32) × Int32) => wC K ad (sI (sA (sA (sA (sA (sA (sA (sA (sA (sA S 2 u.1) 3 u.2.1) 4 u.2.2.1) 5 u.2.2.2.1) 6 u.2.2.2.2.1) 7 u.2.2.2.2.2.1) 8 u.2.2.2.2.2.2.1) 9 u.2.2.2.2.2.2.2.1) 10 u.2.2.2.2.2.2.2.2.1) 73 u.2.2.2.2.2.2.2.2.2) ++ X)) (u := (f1, f2, f3, f4, f5, f12, f7, f8, f9, v10)) C hr d_Pa_appendPenalty_15 (wn_eq w rfl) hw
set_option maxHeartbeats 4000000 in
set_option maxRecDepth 100000 in
theorem c_Pa_appendHyphen (l : Launch) (n0 : Nat) (G : va_G) (K : KT) (ad : Nat → Nat) (X : va_W) (S : ST) (p1 : Int32) (p2 : Int32) (p3 : Int32) (post : Int32 → (Nat → Int32) → (Nat → Int32) → (Nat → Int32) → (Nat → Int32) → (Nat → Int32) → (Nat → Int32) → (Nat → Int32) → (Nat → Int32) → (Nat → Int32) → Int32 → Prop) (hw : wp_Pa_appendHyphen S p1 p2 p3 post) : Met l y_Pa_appendHyphen (Cond.code y_Pa_appendHyphen prog_8_method_5_code 5 (some .int) :: gw) rm_Pa_appendHyphen (va_Pc [.ref (ad 1), .int p1, .int p2, .int p3] (wb n0 G K (wC K ad S ++ X))) (va_Qi (fun r (u : (Nat → Int32) × (Nat → Int32) × (Nat → Int32) × (Nat → Int32) × (Nat → Int32) × (Nat → Int32) × (Nat → Int32) × (Nat → Int32) × (Nat → Int32) × Int32) => post r u.1 u.2.1 u.2.2.1 u.2.2.2.1 u.2.2.2.2.1 u.2.2.2.2.2.1 u.2.2.2.2.2.2.1 u.2.2.2.2.2.2.2.1 u.2.2.2.2.2.2.2.2.1 u.2.2.2.2.2.2.2.2.2) (fun (u : (Nat → Int32) × (Nat → Int32) × (Nat → Int32) × (Nat → Int32) × (Nat → Int32) × (Nat → Int32) × (Nat → Int32) × (Nat → Int32) × (Nat → Int32) × Int32) t => we n0 G (wC K ad (sI (sA (sA (sA (sA (sA (sA (sA (sA (sA S 2 u.1) 3 u.2.1) 4 u.2.2.1) 5 u.2.2.2.1) 6 u.2.2.2.2.1) 7 u.2.2.2.2.2.1) 8 u.2.2.2.2.2.2.1) 9 u.2.2.2.2.2.2.2.1) 10 u.2.2.2.2.2.2.2.2.1) 73 u.2.2.2.2.2.2.2.2.2) ++ X) t) (al n0)) 0 0 (al n0) := by
  refine kb_start (own := "LineBreaker$Paragraph") (by decide +kernel) rfl ?_
  intro p e s m below meth c C hr hnm w
  have hx := C.1
  have hb := C.2.1
  have hts := C.2.2.2.2.1
  have hl := lv_entry ([.ref (ad 1), .int p1, .int p2, .int p3]) (n := 5) (Nat.le_of_ble_eq_true rfl)
  rw [lg_entry_eq]
  generalize (lg_sl ([.ref (ad 1), .int p1, .int p2, .int p3]) ++ List.replicate (5 - (lg_sl ([.ref (ad 1), .int p1, .int p2, .int p3])).length) Slot.unset).toArray = ls at hl ⊢
  have hl : lv_has ls 5 [(0, .ref (ad 1)), (1, .int p1), (2, .int p2), (3, .int p3)] := hl
  unfold wp_Pa_appendHyphen at hw
  refine lv_aload_n hx hb d_Pa_appendHyphen_0 rfl (lv_at hl 0 rfl) ?_
  refine lv_iconst (v := 5) hx hb d_Pa_appendHyphen_1 (by decide) ?_
  refine lv_iconst (v := 0) hx hb d_Pa_appendHyphen_2 (by decide) ?_
  refine kc_i (st := fun (u : (Nat → Int32) × (Nat → Int32) × (Nat → Int32) × (Nat → Int32) × (Nat → Int32) × (Nat → Int32) × (Nat → Int32) × (Nat → Int32) × (Nat → Int32) × Int32) => wC K ad (sI (sA (sA (sA (sA (sA (sA (sA (sA (sA S 2 u.1) 3 u.2.1) 4 u.2.2.1) 5 u.2.2.2.1) 6 u.2.2.2.2.1) 7 u.2.2.2.2.2.1) 8 u.2.2.2.2.2.2.1) 9 u.2.2.2.2.2.2.2.1) 10 u.2.2.2.2.2.2.2.2.1) 73 u.2.2.2.2.2.2.2.2.2) ++ X) w (kr_V (y := y_Pa_append) (C1 := R_Pa) (T := F_Pa) (N := 10) (ci := 6) (q0 := 1) (As := [.int 5, .int 0]) (n := 2) C w (c_Pa_append l n0 G K ad X S 5 0 _ hw) (gw_V kw_547 kw_499 kw_500 kw_2 kw_501) (by decide +kernel) rfl rfl ⟨Nat.le_of_ble_eq_true rfl, Nat.le_of_ble_eq_true rfl⟩ rfl rfl rfl hl.1 rfl (Nat.le_of_ble_eq_true rfl) d_Pa_appendHyphen_3 ⟨Nat.le_of_ble_eq_true rfl, Nat.le_of_ble_eq_true rfl⟩) (fun r11 u H locs hw w => ?_)
  obtain ⟨f1, f2, f3, f4, f5, f6, f7, f8, f9, v10⟩ := u
  dsimp only at hw
  have w : wn n0 G (wC K ad (sI (sA (sA (sA (sA (sA (sA (sA (sA (sA S 2 f1) 3 f2) 4 f3) 5 f4) 6 f5) 7 f6) 8 f7) 9 f8) 10 f9) 73 v10) ++ X) s H locs := w
  refine lv_istore (lv' := [(4, .int r11), (0, .ref (ad 1)), (1, .int p1), (2, .int p2), (3, .int p3)]) hx hb d_Pa_appendHyphen_6 hl (by decide) rfl (fun ls hl => ?_)
  refine lv_aload_n hx hb d_Pa_appendHyphen_8 rfl (lv_at hl 1 rfl) ?_
  refine kg (C1 := R_Pa) (T := F_Pa) (N := 10) (ci := 6) (ref := "LineBreaker$Paragraph") (v := .ref (ad 8)) C w 1 6 iw_Pa rfl rfl (by decide) kw_47 rfl rfl d_Pa_appendHyphen_9 ?_
  refine lv_iload hx hb d_Pa_appendHyphen_12 (lv_at hl 0 rfl) ?_
  refine lv_iload_n hx hb d_Pa_appendHyphen_14 rfl (lv_at hl 2 rfl) ?_
  obtain ⟨f12, ef12⟩ : ∃ z : Nat → Int32, z = upd f7 r11.toNatClampNeg p1 := ⟨_, rfl⟩
  refine ks_i (f := f7) (w2 := wC K ad (sI (sA (sA (sA (sA (sA (sA (sA (sA (sA S 2 f1) 3 f2) 4 f3) 5 f4) 6 f5) 7 f6) 8 f12) 9 f8) 10 f9) 73 v10) ++ X) C w 8 rfl hw.1 (by rw [← ef12]; rfl) d_Pa_appendHyphen_15 (fun H locs w => ?_)
  have hw := hw.2 f12 ef12
  refine lv_aload_n hx hb d_Pa_appendHyphen_16 rfl (lv_at hl 1 rfl) ?_
  refine kg (C1 := R_Pa) (T := F_Pa) (N := 10) (ci := 6) (ref := "LineBreaker$Paragraph") (v := .ref (ad 9)) C w 1 7 iw_Pa rfl rfl (by decide) kw_49 rfl rfl d_Pa_appendHyphen_17 ?_
  refine lv_iload hx hb d_Pa_appendHyphen_20 (lv_at hl 0 rfl) ?_
  refine lv_iload_n hx hb d_Pa_appendHyphen_22 rfl (lv_at hl 3 rfl) ?_
  obtain ⟨f13, ef13⟩ : ∃ z : Nat → Int32, z = upd f8 r11.toNatClampNeg p2 := ⟨_, rfl⟩
  refine ks_i (f := f8) (w2 := wC K ad (sI (sA (sA (sA (sA (sA (sA (sA (sA (sA S 2 f1) 3 f2) 4 f3) 5 f4) 6 f5) 7 f6) 8 f12) 9 f13) 10 f9) 73 v10) ++ X) C w 9 rfl hw.1 (by rw [← ef13]; rfl) d_Pa_appendHyphen_23 (fun H locs w => ?_)
  have hw := hw.2 f13 ef13
  refine lv_aload_n hx hb d_Pa_appendHyphen_24 rfl (lv_at hl 1 rfl) ?_
  refine kg (C1 := R_Pa) (T := F_Pa) (N := 10) (ci := 6) (ref := "LineBreaker$Paragraph") (v := .ref (ad 10)) C w 1 8 iw_Pa rfl rfl (by decide) kw_51 rfl rfl d_Pa_appendHyphen_25 ?_
  refine lv_iload hx hb d_Pa_appendHyphen_28 (lv_at hl 0 rfl) ?_
  refine lv_iload_n hx hb d_Pa_appendHyphen_30 rfl (lv_at hl 4 rfl) ?_
  obtain ⟨f14, ef14⟩ : ∃ z : Nat → Int32, z = upd f9 r11.toNatClampNeg p3 := ⟨_, rfl⟩
  refine ks_i (f := f9) (w2 := wC K ad (sI (sA (sA (sA (sA (sA (sA (sA (sA (sA S 2 f1) 3 f2) 4 f3) 5 f4) 6 f5) 7 f6) 8 f12) 9 f13) 10 f14) 73 v10) ++ X) C w 10 rfl hw.1 (by rw [← ef14]; rfl) d_Pa_appendHyphen_31 (fun H locs w => ?_)
  have hw := hw.2 f14 ef14
  refine lv_iload hx hb d_Pa_appendHyphen_32 (lv_at hl 0 rfl) ?_
  exact ke_i (post := (fun r (u : (Nat → Int32) × (Nat → Int32) × (Nat → Int32) × (Nat → Int32) × (Nat → Int32) × (Nat → Int32) × (Nat → Int32) × (Nat → Int32) × (Nat → Int32) × Int32) => post r u.1 u.2.1 u.2.2.1 u.2.2.2.1 u.2.2.2.2.1 u.2.2.2.2.2.1 u.2.2.2.2.2.2.1 u.2.2.2.2.2.2.2.1 u.2.2.2.2.2.2.2.2.1 u.2.2.2.2.2.2.2.2.2)) (st := (fun (u : (Nat → Int32) × (Nat → Int32) × (Nat → Int32) × (Nat → Int32) × (Nat → Int32) × (Nat → Int32) × (Nat → Int32) × (Nat → Int32) × (Nat → Int32) × Int32) => wC K ad (sI (sA (sA (sA (sA (sA (sA (sA (sA (sA S 2 u.1) 3 u.2.1) 4 u.2.2.1) 5 u.2.2.2.1) 6 u.2.2.2.2.1) 7 u.2.2.2.2.2.1) 8 u.2.2.2.2.2.2.1) 9 u.2.2.2.2.2.2.2.1) 10 u.2.2.2.2.2.2.2.2.1) 73 u.2.2.2.2.2.2.2.2.2) ++ X)) (u := (f1, f2, f3, f4, f5, f6, f12, f13, f14, v10)) C hr d_Pa_appendHyphen_34 (wn_eq w rfl) hw
set_option maxHeartbeats 4000000 in
set_option maxRecDepth 100000 in
theorem w_Pa_awaitsReplaced_19 {S : ST} {post : Int32 → Prop} (C : cx p s m args meth c prog_8_method_6_code 3 "LineBreaker$Paragraph" n0 G K) (hr : meth.sig.returnType = (some .boolean)) : ∀ (n : Nat) (x1 : Int32) (x2 : Int32), wl_Pa_awaitsReplaced_19 S post n x1 x2 → ∀ (H : Heap) (locs : List Loc) (ls : Array Slot), wn n0 G (wC K ad S ++ X) s H locs → lv_has ls 3 [(0, .ref (ad 1)), (1, .int x1), (2, .int x2)] → W p l e rm_Pa_awaitsReplaced s m args below meth c H locs 0 0 (MQ below (va_Qi (fun r (u : Unit) => post r) (fun (u : Unit) t => we n0 G (wC K ad S ++ X) t) (al n0)) args s 0 0 (al n0)) (F0 m 19 ls []) := by
  have hx := C.1
  have hb := C.2.1
  have hts := C.2.2.2.2.1
  intro n
  induction n with
  | zero =>
    intro x1 x2 hw
    unfold wl_Pa_awaitsReplaced_19 at hw
    exact hw.elim
  | succ n ih =>
    intro x1 x2 hw H locs ls w hl
    unfold wl_Pa_awaitsReplaced_19 at hw
    refine lv_iload_n hx hb d_Pa_awaitsReplaced_19 rfl (lv_at hl 2 rfl) ?_
    refine lv_iload_n hx hb d_Pa_awaitsReplaced_20 rfl (lv_at hl 1 rfl) ?_
    refine lv_icmp_lt (tgt := 61) hx hb d_Pa_awaitsReplaced_21 (by decide) (fun hc => ?_) (fun hc => ?_)
    · have hw := hw.1 hc
      refine lv_iconst (v := 0) hx hb d_Pa_awaitsReplaced_61 (by decide) ?_
      exact ke_z (post := (fun r (u : Unit) => post r)) (st := (fun (u : Unit) => wC K ad S ++ X)) (u := ()) C hr d_Pa_awaitsReplaced_62 (wn_eq w rfl) (Or.inl rfl) hw
    · have hw := hw.2 hc
      refine lv_aload_n hx hb d_Pa_awaitsReplaced_24 rfl (lv_at hl 0 rfl) ?_
      refine kg (C1 := R_Pa) (T := F_Pa) (N := 10) (ci := 6) (ref := "LineBreaker$Paragraph") (v := .ref (ad 2)) C w 1 0 iw_Pa rfl rfl (by decide) kw_35 rfl rfl d_Pa_awaitsReplaced_25 ?_
      refine lv_iload_n hx hb d_Pa_awaitsReplaced_28 rfl (lv_at hl 2 rfl) ?_
      refine ka_i (f := (S.1 2)) C w 2 rfl hw.1 d_Pa_awaitsReplaced_29 ?_
      have hw := hw.2
      refine lv_iconst (v := 5) hx hb d_Pa_awaitsReplaced_30 (by decide) ?_
      refine lv_icmp_ne (tgt := 55) hx hb d_Pa_awaitsReplaced_31 (by decide) (fun hc => ?_) (fun hc => ?_)
      · have hw := hw.1 hc
        obtain ⟨v1, ev1⟩ : ∃ y : Int32, y = x2 + (-1) := ⟨_, rfl⟩
        refine lv_iinc (v := v1) (lv' := [(2, .int v1), (0, .ref (ad 1)), (1, .int x1)]) hx hb d_Pa_awaitsReplaced_55 hl (k := 2) rfl (by rw [ev1]; rfl) (by decide) rfl (fun ls hl => ?_)
        have hw := hw v1 ev1
        refine lv_goto (tgt := 19) hx hb d_Pa_awaitsReplaced_58 (by decide) ?_
        exact ih x1 v1 hw _ _ _ (wn_eq w rfl) (lv_sub hl [1, 2, 0] rfl)
      · have hw := hw.2 hc
        refine lv_iload_n hx hb d_Pa_awaitsReplaced_34 rfl (lv_at hl 2 rfl) ?_
        refine lv_aload_n hx hb d_Pa_awaitsReplaced_35 rfl (lv_at hl 0 rfl) ?_
        refine kg (C1 := R_Pa) (T := F_Pa) (N := 10) (ci := 6) (ref := "LineBreaker$Paragraph") (v := .ref (ad 10)) C w 1 8 iw_Pa rfl rfl (by decide) kw_51 rfl rfl d_Pa_awaitsReplaced_36 ?_
        refine lv_iload_n hx hb d_Pa_awaitsReplaced_39 rfl (lv_at hl 2 rfl) ?_
        refine ka_i (f := (S.1 10)) C w 10 rfl hw.1 d_Pa_awaitsReplaced_40 ?_
        have hw := hw.2
        refine lv_iadd hx hb d_Pa_awaitsReplaced_41 ?_
        refine lv_aload_n hx hb d_Pa_awaitsReplaced_42 rfl (lv_at hl 0 rfl) ?_
        refine kg (C1 := R_Pa) (T := F_Pa) (N := 10) (ci := 6) (ref := "LineBreaker$Paragraph") (v := .int (S.2.2 73)) C w 1 9 iw_Pa rfl rfl (by decide) kw_53 rfl rfl d_Pa_awaitsReplaced_43 ?_
        refine lv_icmp_lt (tgt := 53) hx hb d_Pa_awaitsReplaced_46 (by decide) (fun hc => ?_) (fun hc => ?_)
        · have hw := hw.1 hc
          refine lv_iconst (v := 0) hx hb d_Pa_awaitsReplaced_53 (by decide) ?_
          exact ke_z (post := (fun r (u : Unit) => post r)) (st := (fun (u : Unit) => wC K ad S ++ X)) (u := ()) C hr d_Pa_awaitsReplaced_54 (wn_eq w rfl) (Or.inl rfl) hw
        · have hw := hw.2 hc
          refine lv_iconst (v := 1) hx hb d_Pa_awaitsReplaced_49 (by decide) ?_
          refine lv_goto (tgt := 54) hx hb d_Pa_awaitsReplaced_50 (by decide) ?_
          exact ke_z (post := (fun r (u : Unit) => post r)) (st := (fun (u : Unit) => wC K ad S ++ X)) (u := ()) C hr d_Pa_awaitsReplaced_54 (wn_eq w rfl) (Or.inr rfl) hw
set_option maxHeartbeats 4000000 in
set_option maxRecDepth 100000 in
theorem c_Pa_awaitsReplaced (l : Launch) (n0 : Nat) (G : va_G) (K : KT) (ad : Nat → Nat) (X : va_W) (S : ST) (post : Int32 → Prop) (hw : wp_Pa_awaitsReplaced S  post) : Met l y_Pa_awaitsReplaced (Cond.code y_Pa_awaitsReplaced prog_8_method_6_code 3 (some .boolean) :: gw) rm_Pa_awaitsReplaced (va_Pc [.ref (ad 1)] (wb n0 G K (wC K ad S ++ X))) (va_Qi (fun r (u : Unit) => post r) (fun (u : Unit) t => we n0 G (wC K ad S ++ X) t) (al n0)) 0 0 (al n0) := by
  refine kb_start (own := "LineBreaker$Paragraph") (by decide +kernel) rfl ?_
  intro p e s m below meth c C hr hnm w
  have hx := C.1
  have hb := C.2.1
  have hts := C.2.2.2.2.1
  have hl := lv_entry ([.ref (ad 1)]) (n := 3) (Nat.le_of_ble_eq_true rfl)
  rw [lg_entry_eq]
  generalize (lg_sl ([.ref (ad 1)]) ++ List.replicate (3 - (lg_sl ([.ref (ad 1)])).length) Slot.unset).toArray = ls at hl ⊢
  have hl : lv_has ls 3 [(0, .ref (ad 1))] := hl
  unfold wp_Pa_awaitsReplaced at hw
  refine lv_iconst (v := 0) hx hb d_Pa_awaitsReplaced_0 (by decide) ?_
  refine lv_aload_n hx hb d_Pa_awaitsReplaced_1 rfl (lv_at hl 0 rfl) ?_
  refine kg (C1 := R_Pa) (T := F_Pa) (N := 10) (ci := 6) (ref := "LineBreaker$Paragraph") (v := .int (S.2.2 73)) C w 1 9 iw_Pa rfl rfl (by decide) kw_53 rfl rfl d_Pa_awaitsReplaced_2 ?_
  refine lv_bipush (v := 10) hx hb d_Pa_awaitsReplaced_5 (by decide) ?_
  refine lv_isub hx hb d_Pa_awaitsReplaced_7 ?_
  refine va_mmax hx hb (C.2.2.1.trans hl.1.symm) C.2.2.2.1 (hts _ kw_524) (hts _ kw_525) (hts _ kw_17) (hts _ kw_526) (Nat.le_of_ble_eq_true rfl) (Nat.le_of_ble_eq_true rfl) (Nat.zero_le _) (Nat.zero_le _) d_Pa_awaitsReplaced_8 ?_
  refine lv_topi (fun v1 ev1 => ?_)
  have hw := hw v1 ev1
  refine lv_istore_n (lv' := [(1, .int v1), (0, .ref (ad 1))]) hx hb d_Pa_awaitsReplaced_11 rfl hl (by decide) rfl (fun ls hl => ?_)
  refine lv_aload_n hx hb d_Pa_awaitsReplaced_12 rfl (lv_at hl 1 rfl) ?_
  refine kg (C1 := R_Pa) (T := F_Pa) (N := 10) (ci := 6) (ref := "LineBreaker$Paragraph") (v := .int (S.2.2 73)) C w 1 9 iw_Pa rfl rfl (by decide) kw_53 rfl rfl d_Pa_awaitsReplaced_13 ?_
  refine lv_iconst (v := 1) hx hb d_Pa_awaitsReplaced_16 (by decide) ?_
  refine lv_isub hx hb d_Pa_awaitsReplaced_17 ?_
  refine lv_topi (fun v2 ev2 => ?_)
  have hw := hw v2 ev2
  refine lv_istore_n (lv' := [(2, .int v2), (1, .int v1), (0, .ref (ad 1))]) hx hb d_Pa_awaitsReplaced_18 rfl hl (by decide) rfl (fun ls hl => ?_)
  obtain ⟨n9, hw⟩ := hw
  exact w_Pa_awaitsReplaced_19 C hr  n9 v1 v2 hw _ _ _ (wn_eq w rfl) (lv_sub hl [2, 1, 0] rfl)
set_option maxHeartbeats 4000000 in
set_option maxRecDepth 100000 in
theorem c_Lb_keep (l : Launch) (n0 : Nat) (G : va_G) (K : KT) (ad : Nat → Nat) (X : va_W) (S : ST) (p1 : Int32) (post : Int32 → Int32 → Int32 → Int32 → Int32 → Prop) (hw : wp_Lb_keep S p1 post) : Met l y_Lb_keep (Cond.code y_Lb_keep prog_1_method_7_code 2 (some .boolean) :: gw) rm_Lb_keep (va_Pc [.ref (ad 0), .int p1] (wb n0 G K (wC K ad S ++ X))) (va_Qi (fun r (u : Int32 × Int32 × Int32 × Int32) => post r u.1 u.2.1 u.2.2.1 u.2.2.2) (fun (u : Int32 × Int32 × Int32 × Int32) t => we n0 G (wC K ad (sI (sI (sI (sI S 73 u.1) 2626 u.2.1) 2627 u.2.2.1) 2628 u.2.2.2) ++ X) t) (al n0)) 0 0 (al n0) := by
  refine kb_start (own := "LineBreaker") (by decide +kernel) rfl ?_
  intro p e s m below meth c C hr hnm w
  have hx := C.1
  have hb := C.2.1
  have hts := C.2.2.2.2.1
  have hl := lv_entry ([.ref (ad 0), .int p1]) (n := 2) (Nat.le_of_ble_eq_true rfl)
  rw [lg_entry_eq]
  generalize (lg_sl ([.ref (ad 0), .int p1]) ++ List.replicate (2 - (lg_sl ([.ref (ad 0), .int p1])).length) Slot.unset).toArray = ls at hl ⊢
  have hl : lv_has ls 2 [(0, .ref (ad 0)), (1, .int p1)] := hl
  unfold wp_Lb_keep at hw
  refine lv_iload_n hx hb d_Lb_keep_0 rfl (lv_at hl 1 rfl) ?_
  refine lv_if_lt (tgt := 15) hx hb d_Lb_keep_1 (by decide) (fun hc => ?_) (fun hc => ?_)
  · have hw := hw.1 hc
    refine lv_iconst (v := 0) hx hb d_Lb_keep_15 (by decide) ?_
    exact ke_z (post := (fun r (u : Int32 × Int32 × Int32 × Int32) => post r u.1 u.2.1 u.2.2.1 u.2.2.2)) (st := (fun (u : Int32 × Int32 × Int32 × Int32) => wC K ad (sI (sI (sI (sI S 73 u.1) 2626 u.2.1) 2627 u.2.2.1) 2628 u.2.2.2) ++ X)) (u := ((S.2.2 73), (S.2.2 2626), (S.2.2 2627), (S.2.2 2628))) C hr d_Lb_keep_16 (wn_eq w rfl) (Or.inl rfl) hw
  · have hw := hw.2 hc
    refine lv_iload_n hx hb d_Lb_keep_4 rfl (lv_at hl 1 rfl) ?_
    refine lv_aload_n hx hb d_Lb_keep_5 rfl (lv_at hl 0 rfl) ?_
    refine kg (C1 := R_Lb) (T := F_Lb) (N := 5) (ci := 9) (ref := "LineBreaker") (v := .ref (ad 1)) C w 0 0 iw_Lb rfl rfl (by decide) kw_356 rfl rfl d_Lb_keep_6 ?_
    refine kg (C1 := R_Pa) (T := F_Pa) (N := 10) (ci := 6) (ref := "LineBreaker$Paragraph") (v := .int (S.2.2 73)) C w 1 9 iw_Pa rfl rfl (by decide) kw_54 rfl rfl d_Lb_keep_9 ?_
    refine lv_icmp_le (tgt := 17) hx hb d_Lb_keep_12 (by decide) (fun hc => ?_) (fun hc => ?_)
    · have hw := hw.1 hc
      refine lv_aload_n hx hb d_Lb_keep_17 rfl (lv_at hl 0 rfl) ?_
      refine kg (C1 := R_Lb) (T := F_Lb) (N := 5) (ci := 9) (ref := "LineBreaker") (v := .ref (ad 1)) C w 0 0 iw_Lb rfl rfl (by decide) kw_356 rfl rfl d_Lb_keep_18 ?_
      refine lv_iload_n hx hb d_Lb_keep_21 rfl (lv_at hl 1 rfl) ?_
      refine kp (C1 := R_Pa) (T := F_Pa) (N := 10) (ci := 6) (ty0 := t_Pa) (ref := "LineBreaker$Paragraph") (w2 := wC K ad (sI S 73 p1) ++ X) C w 1 9 iw_Pa tk_Pa n_Pa rfl rfl (by decide) kw_54 rfl rfl rfl rfl (Nat.le_of_ble_eq_true rfl) rfl d_Lb_keep_22 (fun H locs w => ?_)
      refine lv_aload_n hx hb d_Lb_keep_25 rfl (lv_at hl 0 rfl) ?_
      refine kg (C1 := R_Lb) (T := F_Lb) (N := 5) (ci := 9) (ref := "LineBreaker") (v := .ref (ad 41)) C w 0 4 iw_Lb rfl rfl (by decide) kw_360 rfl rfl d_Lb_keep_26 ?_
      refine kc_v (st := fun (u : Int32 × Int32 × Int32) => wC K ad (sI (sI (sI (sI S 73 p1) 2626 u.1) 2627 u.2.1) 2628 u.2.2) ++ X) w (kr_V (y := y_Ou_forget) (C1 := R_Ou) (T := F_Ou) (N := 5) (ci := 5) (q0 := 41) (As := []) (n := 0) C w (c_Ou_forget l n0 G K ad X (sI S 73 p1)  _ hw) (gw_V kw_376 kw_377 kw_378 kw_10 kw_379) (by decide +kernel) rfl rfl ⟨Nat.le_of_ble_eq_true rfl, Nat.le_of_ble_eq_true rfl⟩ rfl rfl rfl hl.1 rfl (Nat.le_of_ble_eq_true rfl) d_Lb_keep_29 ⟨Nat.le_of_ble_eq_true rfl, Nat.le_of_ble_eq_true rfl⟩) (fun u H locs hw w => ?_)
      obtain ⟨v1, v2, v3⟩ := u
      dsimp only at hw
      have w : wn n0 G (wC K ad (sI (sI (sI (sI S 73 p1) 2626 v1) 2627 v2) 2628 v3) ++ X) s H locs := w
      refine lv_iconst (v := 1) hx hb d_Lb_keep_32 (by decide) ?_
      exact ke_z (post := (fun r (u : Int32 × Int32 × Int32 × Int32) => post r u.1 u.2.1 u.2.2.1 u.2.2.2)) (st := (fun (u : Int32 × Int32 × Int32 × Int32) => wC K ad (sI (sI (sI (sI S 73 u.1) 2626 u.2.1) 2627 u.2.2.1) 2628 u.2.2.2) ++ X)) (u := (p1, v1, v2, v3)) C hr d_Lb_keep_33 (wn_eq w rfl) (Or.inr rfl) hw
    · have hw := hw.2 hc
      refine lv_iconst (v := 0) hx hb d_Lb_keep_15 (by decide) ?_
      exact ke_z (post := (fun r (u : Int32 × Int32 × Int32 × Int32) => post r u.1 u.2.1 u.2.2.1 u.2.2.2)) (st := (fun (u : Int32 × Int32 × Int32 × Int32) => wC K ad (sI (sI (sI (sI S 73 u.1) 2626 u.2.1) 2627 u.2.2.1) 2628 u.2.2.2) ++ X)) (u := ((S.2.2 73), (S.2.2 2626), (S.2.2 2627), (S.2.2 2628))) C hr d_Lb_keep_16 (wn_eq w rfl) (Or.inl rfl) hw
set_option maxHeartbeats 4000000 in
set_option maxRecDepth 100000 in
theorem c_Lb_items (l : Launch) (n0 : Nat) (G : va_G) (K : KT) (ad : Nat → Nat) (X : va_W) (S : ST) (post : Int32 → Prop) (hw : wp_Lb_items S  post) : Met l y_Lb_items (Cond.code y_Lb_items prog_1_method_8_code 1 (some .int) :: gw) rm_Lb_items (va_Pc [.ref (ad 0)] (wb n0 G K (wC K ad S ++ X))) (va_Qi (fun r (u : Unit) => post r) (fun (u : Unit) t => we n0 G (wC K ad S ++ X) t) (al n0)) 0 0 (al n0) := by
  refine kb_start (own := "LineBreaker") (by decide +kernel) rfl ?_
  intro p e s m below meth c C hr hnm w
  have hx := C.1
  have hb := C.2.1
  have hts := C.2.2.2.2.1
  have hl := lv_entry ([.ref (ad 0)]) (n := 1) (Nat.le_of_ble_eq_true rfl)
  rw [lg_entry_eq]
  generalize (lg_sl ([.ref (ad 0)]) ++ List.replicate (1 - (lg_sl ([.ref (ad 0)])).length) Slot.unset).toArray = ls at hl ⊢
  have hl : lv_has ls 1 [(0, .ref (ad 0))] := hl
  unfold wp_Lb_items at hw
  refine lv_aload_n hx hb d_Lb_items_0 rfl (lv_at hl 0 rfl) ?_
  refine kg (C1 := R_Lb) (T := F_Lb) (N := 5) (ci := 9) (ref := "LineBreaker") (v := .ref (ad 1)) C w 0 0 iw_Lb rfl rfl (by decide) kw_356 rfl rfl d_Lb_items_1 ?_
  refine kg (C1 := R_Pa) (T := F_Pa) (N := 10) (ci := 6) (ref := "LineBreaker$Paragraph") (v := .int (S.2.2 73)) C w 1 9 iw_Pa rfl rfl (by decide) kw_54 rfl rfl d_Lb_items_4 ?_
  exact ke_i (post := (fun r (u : Unit) => post r)) (st := (fun (u : Unit) => wC K ad S ++ X)) (u := ()) C hr d_Lb_items_7 (wn_eq w rfl) hw
set_option maxHeartbeats 4000000 in
set_option maxRecDepth 100000 in
theorem c_Lb_pass (l : Launch) (n0 : Nat) (G : va_G) (K : KT) (ad : Nat → Nat) (X : va_W) (S : ST) (post : Int32 → Prop) (hw : wp_Lb_pass S  post) : Met l y_Lb_pass (Cond.code y_Lb_pass prog_1_method_13_code 1 (some .int) :: gw) rm_Lb_pass (va_Pc [.ref (ad 0)] (wb n0 G K (wC K ad S ++ X))) (va_Qi (fun r (u : Unit) => post r) (fun (u : Unit) t => we n0 G (wC K ad S ++ X) t) (al n0)) 0 0 (al n0) := by
  refine kb_start (own := "LineBreaker") (by decide +kernel) rfl ?_
  intro p e s m below meth c C hr hnm w
  have hx := C.1
  have hb := C.2.1
  have hts := C.2.2.2.2.1
  have hl := lv_entry ([.ref (ad 0)]) (n := 1) (Nat.le_of_ble_eq_true rfl)
  rw [lg_entry_eq]
  generalize (lg_sl ([.ref (ad 0)]) ++ List.replicate (1 - (lg_sl ([.ref (ad 0)])).length) Slot.unset).toArray = ls at hl ⊢
  have hl : lv_has ls 1 [(0, .ref (ad 0))] := hl
  unfold wp_Lb_pass at hw
  refine lv_aload_n hx hb d_Lb_pass_0 rfl (lv_at hl 0 rfl) ?_
  refine kg (C1 := R_Lb) (T := F_Lb) (N := 5) (ci := 9) (ref := "LineBreaker") (v := .ref (ad 41)) C w 0 4 iw_Lb rfl rfl (by decide) kw_360 rfl rfl d_Lb_pass_1 ?_
  refine kg (C1 := R_Ou) (T := F_Ou) (N := 5) (ci := 5) (ref := "LineBreaker$Outcome") (v := .int (S.2.2 2627)) C w 41 3 iw_Ou rfl rfl (by decide) kw_342 rfl rfl d_Lb_pass_4 ?_
  exact ke_i (post := (fun r (u : Unit) => post r)) (st := (fun (u : Unit) => wC K ad S ++ X)) (u := ()) C hr d_Lb_pass_7 (wn_eq w rfl) hw
set_option maxHeartbeats 4000000 in
set_option maxRecDepth 100000 in
theorem c_Lb_nodes (l : Launch) (n0 : Nat) (G : va_G) (K : KT) (ad : Nat → Nat) (X : va_W) (S : ST) (post : Int32 → Prop) (hw : wp_Lb_nodes S  post) : Met l y_Lb_nodes (Cond.code y_Lb_nodes prog_1_method_14_code 1 (some .int) :: gw) rm_Lb_nodes (va_Pc [.ref (ad 0)] (wb n0 G K (wC K ad S ++ X))) (va_Qi (fun r (u : Unit) => post r) (fun (u : Unit) t => we n0 G (wC K ad S ++ X) t) (al n0)) 0 0 (al n0) := by
  refine kb_start (own := "LineBreaker") (by decide +kernel) rfl ?_
  intro p e s m below meth c C hr hnm w
  have hx := C.1
  have hb := C.2.1
  have hts := C.2.2.2.2.1
  have hl := lv_entry ([.ref (ad 0)]) (n := 1) (Nat.le_of_ble_eq_true rfl)
  rw [lg_entry_eq]
  generalize (lg_sl ([.ref (ad 0)]) ++ List.replicate (1 - (lg_sl ([.ref (ad 0)])).length) Slot.unset).toArray = ls at hl ⊢
  have hl : lv_has ls 1 [(0, .ref (ad 0))] := hl
  unfold wp_Lb_nodes at hw
  refine lv_aload_n hx hb d_Lb_nodes_0 rfl (lv_at hl 0 rfl) ?_
  refine kg (C1 := R_Lb) (T := F_Lb) (N := 5) (ci := 9) (ref := "LineBreaker") (v := .ref (ad 41)) C w 0 4 iw_Lb rfl rfl (by decide) kw_360 rfl rfl d_Lb_nodes_1 ?_
  refine kg (C1 := R_Ou) (T := F_Ou) (N := 5) (ci := 5) (ref := "LineBreaker$Outcome") (v := .int (S.2.2 2628)) C w 41 4 iw_Ou rfl rfl (by decide) kw_344 rfl rfl d_Lb_nodes_4 ?_
  exact ke_i (post := (fun r (u : Unit) => post r)) (st := (fun (u : Unit) => wC K ad S ++ X)) (u := ()) C hr d_Lb_nodes_7 (wn_eq w rfl) hw
set_option maxHeartbeats 4000000 in
set_option maxRecDepth 100000 in
theorem w_Pa_allStretch_4 {S : ST} {post : Int64 → Prop} (C : cx p s m args meth c prog_8_method_9_code 4 "LineBreaker$Paragraph" n0 G K) (hr : meth.sig.returnType = (some .long)) : ∀ (n : Nat) (x1 : Int64) (x3 : Int32), wl_Pa_allStretch_4 S post n x1 x3 → ∀ (H : Heap) (locs : List Loc) (ls : Array Slot), wn n0 G (wC K ad S ++ X) s H locs → lv_has ls 4 [(0, .ref (ad 1)), (1, .long x1), (3, .int x3)] → W p l e rm_Pa_allStretch s m args below meth c H locs 0 0 (MQ below (va_Ql (fun r (u : Unit) => post r) (fun (u : Unit) t => we n0 G (wC K ad S ++ X) t) (al n0)) args s 0 0 (al n0)) (F0 m 4 ls []) := by
  have hx := C.1
  have hb := C.2.1
  have hts := C.2.2.2.2.1
  intro n
  induction n with
  | zero =>
    intro x1 x3 hw
    unfold wl_Pa_allStretch_4 at hw
    exact hw.elim
  | succ n ih =>
    intro x1 x3 hw H locs ls w hl
    unfold wl_Pa_allStretch_4 at hw
    refine lv_iload_n hx hb d_Pa_allStretch_4 rfl (lv_at hl 2 rfl) ?_
    refine lv_aload_n hx hb d_Pa_allStretch_5 rfl (lv_at hl 0 rfl) ?_
    refine kg (C1 := R_Pa) (T := F_Pa) (N := 10) (ci := 6) (ref := "LineBreaker$Paragraph") (v := .int (S.2.2 73)) C w 1 9 iw_Pa rfl rfl (by decide) kw_53 rfl rfl d_Pa_allStretch_6 ?_
    refine lv_icmp_ge (tgt := 28) hx hb d_Pa_allStretch_9 (by decide) (fun hc => ?_) (fun hc => ?_)
    · have hw := hw.1 hc
      refine lv_lload_n hx hb d_Pa_allStretch_28 rfl (lv_at hl 1 rfl) ?_
      exact ke_l (post := (fun r (u : Unit) => post r)) (st := (fun (u : Unit) => wC K ad S ++ X)) (u := ()) C hr d_Pa_allStretch_29 (wn_eq w rfl) hw
    · have hw := hw.2 hc
      refine lv_lload_n hx hb d_Pa_allStretch_12 rfl (lv_at hl 1 rfl) ?_
      refine lv_aload_n hx hb d_Pa_allStretch_13 rfl (lv_at hl 0 rfl) ?_
      refine kg (C1 := R_Pa) (T := F_Pa) (N := 10) (ci := 6) (ref := "LineBreaker$Paragraph") (v := .ref (ad 4)) C w 1 2 iw_Pa rfl rfl (by decide) kw_39 rfl rfl d_Pa_allStretch_14 ?_
      refine lv_iload_n hx hb d_Pa_allStretch_17 rfl (lv_at hl 2 rfl) ?_
      refine ka_i (f := (S.1 4)) C w 4 rfl hw.1 d_Pa_allStretch_18 ?_
      have hw := hw.2
      refine lv_i2l hx hb d_Pa_allStretch_19 rfl ?_
      refine lv_ladd hx hb d_Pa_allStretch_20 ?_
      refine lv_topl (fun v1 ev1 => ?_)
      have hw := hw v1 ev1
      refine lv_lstore_n (lv' := [(1, .long v1), (0, .ref (ad 1)), (3, .int x3)]) hx hb d_Pa_allStretch_21 rfl hl (by decide) rfl (fun ls hl => ?_)
      obtain ⟨v2, ev2⟩ : ∃ y : Int32, y = x3 + 1 := ⟨_, rfl⟩
      refine lv_iinc (v := v2) (lv' := [(3, .int v2), (1, .long v1), (0, .ref (ad 1))]) hx hb d_Pa_allStretch_22 hl (k := 2) rfl (by rw [ev2]; rfl) (by decide) rfl (fun ls hl => ?_)
      have hw := hw v2 ev2
      refine lv_goto (tgt := 4) hx hb d_Pa_allStretch_25 (by decide) ?_
      exact ih v1 v2 hw _ _ _ (wn_eq w rfl) (lv_sub hl [2, 1, 0] rfl)
set_option maxHeartbeats 4000000 in
set_option maxRecDepth 100000 in
theorem c_Pa_allStretch (l : Launch) (n0 : Nat) (G : va_G) (K : KT) (ad : Nat → Nat) (X : va_W) (S : ST) (post : Int64 → Prop) (hw : wp_Pa_allStretch S  post) : Met l y_Pa_allStretch (Cond.code y_Pa_allStretch prog_8_method_9_code 4 (some .long) :: gw) rm_Pa_allStretch (va_Pc [.ref (ad 1)] (wb n0 G K (wC K ad S ++ X))) (va_Ql (fun r (u : Unit) => post r) (fun (u : Unit) t => we n0 G (wC K ad S ++ X) t) (al n0)) 0 0 (al n0) := by
  refine kb_start (own := "LineBreaker$Paragraph") (by decide +kernel) rfl ?_
  intro p e s m below meth c C hr hnm w
  have hx := C.1
  have hb := C.2.1
  have hts := C.2.2.2.2.1
  have hl := lv_entry ([.ref (ad 1)]) (n := 4) (Nat.le_of_ble_eq_true rfl)
  rw [lg_entry_eq]
  generalize (lg_sl ([.ref (ad 1)]) ++ List.replicate (4 - (lg_sl ([.ref (ad 1)])).length) Slot.unset).toArray = ls at hl ⊢
  have hl : lv_has ls 4 [(0, .ref (ad 1))] := hl
  unfold wp_Pa_allStretch at hw
  refine lv_lconst (v := 0) hx hb d_Pa_allStretch_0 (by decide) ?_
  refine lv_lstore_n (lv' := [(1, .long 0), (0, .ref (ad 1))]) hx hb d_Pa_allStretch_1 rfl hl (by decide) rfl (fun ls hl => ?_)
  refine lv_iconst (v := 0) hx hb d_Pa_allStretch_2 (by decide) ?_
  refine lv_istore_n (lv' := [(3, .int 0), (1, .long 0), (0, .ref (ad 1))]) hx hb d_Pa_allStretch_3 rfl hl (by decide) rfl (fun ls hl => ?_)
  obtain ⟨n9, hw⟩ := hw
  exact w_Pa_allStretch_4 C hr  n9 0 0 hw _ _ _ (wn_eq w rfl) (lv_sub hl [2, 1, 0] rfl)
set_option maxHeartbeats 4000000 in
set_option maxRecDepth 100000 in
theorem c_St_stretchAround (l : Launch) (n0 : Nat) (G : va_G) (K : KT) (ad : Nat → Nat) (X : va_W) (S : ST) (post : Int64 → Prop) (hw : wp_St_stretchAround S  post) : Met l y_St_stretchAround (Cond.code y_St_stretchAround prog_10_method_4_code 1 (some .long) :: gw) rm_St_stretchAround (va_Pc [.ref (ad 11)] (wb n0 G K (wC K ad S ++ X))) (va_Ql (fun r (u : Unit) => post r) (fun (u : Unit) t => we n0 G (wC K ad S ++ X) t) (al n0)) 0 0 (al n0) := by
  refine kb_start (own := "LineBreaker$Settings") (by decide +kernel) rfl ?_
  intro p e s m below meth c C hr hnm w
  have hx := C.1
  have hb := C.2.1
  have hts := C.2.2.2.2.1
  have hl := lv_entry ([.ref (ad 11)]) (n := 1) (Nat.le_of_ble_eq_true rfl)
  rw [lg_entry_eq]
  generalize (lg_sl ([.ref (ad 11)]) ++ List.replicate (1 - (lg_sl ([.ref (ad 11)])).length) Slot.unset).toArray = ls at hl ⊢
  have hl : lv_has ls 1 [(0, .ref (ad 11))] := hl
  unfold wp_St_stretchAround at hw
  refine lv_aload_n hx hb d_St_stretchAround_0 rfl (lv_at hl 0 rfl) ?_
  refine kg (C1 := R_St) (T := F_St) (N := 5) (ci := 8) (ref := "LineBreaker$Settings") (v := .ref (ad 14)) C w 11 2 iw_St rfl rfl (by decide) kw_116 rfl rfl d_St_stretchAround_1 ?_
  refine kg (C1 := R_Gl) (T := F_Gl) (N := 4) (ci := 2) (ref := "LineBreaker$Glue") (v := .int (S.2.2 897)) C w 14 1 iw_Gl rfl rfl (by decide) kw_94 rfl rfl d_St_stretchAround_4 ?_
  refine lv_i2l hx hb d_St_stretchAround_7 rfl ?_
  refine lv_aload_n hx hb d_St_stretchAround_8 rfl (lv_at hl 0 rfl) ?_
  refine kg (C1 := R_St) (T := F_St) (N := 5) (ci := 8) (ref := "LineBreaker$Settings") (v := .ref (ad 15)) C w 11 3 iw_St rfl rfl (by decide) kw_119 rfl rfl d_St_stretchAround_9 ?_
  refine kg (C1 := R_Gl) (T := F_Gl) (N := 4) (ci := 2) (ref := "LineBreaker$Glue") (v := .int (S.2.2 961)) C w 15 1 iw_Gl rfl rfl (by decide) kw_94 rfl rfl d_St_stretchAround_12 ?_
  refine lv_i2l hx hb d_St_stretchAround_15 rfl ?_
  refine lv_ladd hx hb d_St_stretchAround_16 ?_
  refine lv_aload_n hx hb d_St_stretchAround_17 rfl (lv_at hl 0 rfl) ?_
  refine kg (C1 := R_St) (T := F_St) (N := 5) (ci := 8) (ref := "LineBreaker$Settings") (v := .ref (ad 16)) C w 11 4 iw_St rfl rfl (by decide) kw_122 rfl rfl d_St_stretchAround_18 ?_
  refine kg (C1 := R_Gl) (T := F_Gl) (N := 4) (ci := 2) (ref := "LineBreaker$Glue") (v := .int (S.2.2 1025)) C w 16 1 iw_Gl rfl rfl (by decide) kw_94 rfl rfl d_St_stretchAround_21 ?_
  refine lv_i2l hx hb d_St_stretchAround_24 rfl ?_
  refine lv_ladd hx hb d_St_stretchAround_25 ?_
  exact ke_l (post := (fun r (u : Unit) => post r)) (st := (fun (u : Unit) => wC K ad S ++ X)) (u := ()) C hr d_St_stretchAround_26 (wn_eq w rfl) hw
set_option maxHeartbeats 4000000 in
set_option maxRecDepth 100000 in
theorem w_Pa_allWidths_4 {S : ST} {post : Int64 → Prop} (C : cx p s m args meth c prog_8_method_8_code 4 "LineBreaker$Paragraph" n0 G K) (hr : meth.sig.returnType = (some .long)) : ∀ (n : Nat) (x1 : Int64) (x3 : Int32), wl_Pa_allWidths_4 S post n x1 x3 → ∀ (H : Heap) (locs : List Loc) (ls : Array Slot), wn n0 G (wC K ad S ++ X) s H locs → lv_has ls 4 [(0, .ref (ad 1)), (1, .long x1), (3, .int x3)] → W p l e rm_Pa_allWidths s m args below meth c H locs 0 0 (MQ below (va_Ql (fun r (u : Unit) => post r) (fun (u : Unit) t => we n0 G (wC K ad S ++ X) t) (al n0)) args s 0 0 (al n0)) (F0 m 4 ls []) := by
  have hx := C.1
  have hb := C.2.1
  have hts := C.2.2.2.2.1
  intro n
  induction n with
  | zero =>
    intro x1 x3 hw
    unfold wl_Pa_allWidths_4 at hw
    exact hw.elim
  | succ n ih =>
    intro x1 x3 hw H locs ls w hl
    unfold wl_Pa_allWidths_4 at hw
    refine lv_iload_n hx hb d_Pa_allWidths_4 rfl (lv_at hl 2 rfl) ?_
    refine lv_aload_n hx hb d_Pa_allWidths_5 rfl (lv_at hl 0 rfl) ?_
    refine kg (C1 := R_Pa) (T := F_Pa) (N := 10) (ci := 6) (ref := "LineBreaker$Paragraph") (v := .int (S.2.2 73)) C w 1 9 iw_Pa rfl rfl (by decide) kw_53 rfl rfl d_Pa_allWidths_6 ?_
    refine lv_icmp_ge (tgt := 63) hx hb d_Pa_allWidths_9 (by decide) (fun hc => ?_) (fun hc => ?_)
    · have hw := hw.1 hc
      refine lv_lload_n hx hb d_Pa_allWidths_63 rfl (lv_at hl 1 rfl) ?_
      exact ke_l (post := (fun r (u : Unit) => post r)) (st := (fun (u : Unit) => wC K ad S ++ X)) (u := ()) C hr d_Pa_allWidths_64 (wn_eq w rfl) hw
    · have hw := hw.2 hc
      refine lv_lload_n hx hb d_Pa_allWidths_12 rfl (lv_at hl 1 rfl) ?_
      refine lv_aload_n hx hb d_Pa_allWidths_13 rfl (lv_at hl 0 rfl) ?_
      refine kg (C1 := R_Pa) (T := F_Pa) (N := 10) (ci := 6) (ref := "LineBreaker$Paragraph") (v := .ref (ad 3)) C w 1 1 iw_Pa rfl rfl (by decide) kw_37 rfl rfl d_Pa_allWidths_14 ?_
      refine lv_iload_n hx hb d_Pa_allWidths_17 rfl (lv_at hl 2 rfl) ?_
      refine ka_i (f := (S.1 3)) C w 3 rfl hw.1 d_Pa_allWidths_18 ?_
      have hw := hw.2
      refine va_mabs hx hb (C.2.2.1.trans hl.1.symm) C.2.2.2.1 (hts _ kw_644) (hts _ kw_645) (hts _ kw_17) (hts _ kw_646) (Nat.le_of_ble_eq_true rfl) (Nat.le_of_ble_eq_true rfl) (Nat.zero_le _) (Nat.zero_le _) d_Pa_allWidths_19 ?_
      refine lv_topi (fun v1 ev1 => ?_)
      have hw := hw v1 ev1
      refine lv_i2l hx hb d_Pa_allWidths_22 rfl ?_
      refine lv_ladd hx hb d_Pa_allWidths_23 ?_
      refine lv_topl (fun v2 ev2 => ?_)
      have hw := hw v2 ev2
      refine lv_lstore_n (lv' := [(1, .long v2), (0, .ref (ad 1)), (3, .int x3)]) hx hb d_Pa_allWidths_24 rfl hl (by decide) rfl (fun ls hl => ?_)
      refine lv_lload_n hx hb d_Pa_allWidths_25 rfl (lv_at hl 0 rfl) ?_
      refine lv_aload_n hx hb d_Pa_allWidths_26 rfl (lv_at hl 1 rfl) ?_
      refine kg (C1 := R_Pa) (T := F_Pa) (N := 10) (ci := 6) (ref := "LineBreaker$Paragraph") (v := .ref (ad 8)) C w 1 6 iw_Pa rfl rfl (by decide) kw_47 rfl rfl d_Pa_allWidths_27 ?_
      refine lv_iload_n hx hb d_Pa_allWidths_30 rfl (lv_at hl 2 rfl) ?_
      refine ka_i (f := (S.1 8)) C w 8 rfl hw.1 d_Pa_allWidths_31 ?_
      have hw := hw.2
      refine kc_i (st := fun (u : Unit) => wC K ad S ++ X) w (kr_N (y := y_Lb_widthOf) (As := [.int ((S.1 8) x3.toNatClampNeg)]) (n := 1) C w (c_Lb_widthOf l n0 G K ad X S ((S.1 8) x3.toNatClampNeg) _ hw) kw_649 C.2.2.2.2.2.2.2.2.2.1 kw_1 kw_648 (by decide +kernel) rfl rfl ⟨Nat.le_of_ble_eq_true rfl, Nat.le_of_ble_eq_true rfl⟩ rfl hl.1 rfl (Nat.le_of_ble_eq_true rfl) d_Pa_allWidths_32 ⟨Nat.le_of_ble_eq_true rfl, Nat.le_of_ble_eq_true rfl⟩) (fun r3 u H locs hw w => ?_)
      refine va_mabs hx hb (C.2.2.1.trans hl.1.symm) C.2.2.2.1 (hts _ kw_644) (hts _ kw_645) (hts _ kw_17) (hts _ kw_646) (Nat.le_of_ble_eq_true rfl) (Nat.le_of_ble_eq_true rfl) (Nat.zero_le _) (Nat.zero_le _) d_Pa_allWidths_35 ?_
      refine lv_topi (fun v4 ev4 => ?_)
      have hw := hw v4 ev4
      refine lv_i2l hx hb d_Pa_allWidths_38 rfl ?_
      refine lv_ladd hx hb d_Pa_allWidths_39 ?_
      refine lv_topl (fun v5 ev5 => ?_)
      have hw := hw v5 ev5
      refine lv_lstore_n (lv' := [(1, .long v5), (0, .ref (ad 1)), (3, .int x3)]) hx hb d_Pa_allWidths_40 rfl hl (by decide) rfl (fun ls hl => ?_)
      refine lv_lload_n hx hb d_Pa_allWidths_41 rfl (lv_at hl 0 rfl) ?_
      refine lv_aload_n hx hb d_Pa_allWidths_42 rfl (lv_at hl 1 rfl) ?_
      refine kg (C1 := R_Pa) (T := F_Pa) (N := 10) (ci := 6) (ref := "LineBreaker$Paragraph") (v := .ref (ad 9)) C w 1 7 iw_Pa rfl rfl (by decide) kw_49 rfl rfl d_Pa_allWidths_43 ?_
      refine lv_iload_n hx hb d_Pa_allWidths_46 rfl (lv_at hl 2 rfl) ?_
      refine ka_i (f := (S.1 9)) C w 9 rfl hw.1 d_Pa_allWidths_47 ?_
      have hw := hw.2
      refine kc_i (st := fun (u : Unit) => wC K ad S ++ X) w (kr_N (y := y_Lb_widthOf) (As := [.int ((S.1 9) x3.toNatClampNeg)]) (n := 1) C w (c_Lb_widthOf l n0 G K ad X S ((S.1 9) x3.toNatClampNeg) _ hw) kw_649 C.2.2.2.2.2.2.2.2.2.1 kw_1 kw_648 (by decide +kernel) rfl rfl ⟨Nat.le_of_ble_eq_true rfl, Nat.le_of_ble_eq_true rfl⟩ rfl hl.1 rfl (Nat.le_of_ble_eq_true rfl) d_Pa_allWidths_48 ⟨Nat.le_of_ble_eq_true rfl, Nat.le_of_ble_eq_true rfl⟩) (fun r6 u H locs hw w => ?_)
      refine va_mabs hx hb (C.2.2.1.trans hl.1.symm) C.2.2.2.1 (hts _ kw_644) (hts _ kw_645) (hts _ kw_17) (hts _ kw_646) (Nat.le_of_ble_eq_true rfl) (Nat.le_of_ble_eq_true rfl) (Nat.zero_le _) (Nat.zero_le _) d_Pa_allWidths_51 ?_
      refine lv_topi (fun v7 ev7 => ?_)
      have hw := hw v7 ev7
      refine lv_i2l hx hb d_Pa_allWidths_54 rfl ?_
      refine lv_ladd hx hb d_Pa_allWidths_55 ?_
      refine lv_topl (fun v8 ev8 => ?_)
      have hw := hw v8 ev8
      refine lv_lstore_n (lv' := [(1, .long v8), (0, .ref (ad 1)), (3, .int x3)]) hx hb d_Pa_allWidths_56 rfl hl (by decide) rfl (fun ls hl => ?_)
      obtain ⟨v9, ev9⟩ : ∃ y : Int32, y = x3 + 1 := ⟨_, rfl⟩
      refine lv_iinc (v := v9) (lv' := [(3, .int v9), (1, .long v8), (0, .ref (ad 1))]) hx hb d_Pa_allWidths_57 hl (k := 2) rfl (by rw [ev9]; rfl) (by decide) rfl (fun ls hl => ?_)
      have hw := hw v9 ev9
      refine lv_goto (tgt := 4) hx hb d_Pa_allWidths_60 (by decide) ?_
      exact ih v8 v9 hw _ _ _ (wn_eq w rfl) (lv_sub hl [2, 1, 0] rfl)
set_option maxHeartbeats 4000000 in
set_option maxRecDepth 100000 in
theorem c_Pa_allWidths (l : Launch) (n0 : Nat) (G : va_G) (K : KT) (ad : Nat → Nat) (X : va_W) (S : ST) (post : Int64 → Prop) (hw : wp_Pa_allWidths S  post) : Met l y_Pa_allWidths (Cond.code y_Pa_allWidths prog_8_method_8_code 4 (some .long) :: gw) rm_Pa_allWidths (va_Pc [.ref (ad 1)] (wb n0 G K (wC K ad S ++ X))) (va_Ql (fun r (u : Unit) => post r) (fun (u : Unit) t => we n0 G (wC K ad S ++ X) t) (al n0)) 0 0 (al n0) := by
  refine kb_start (own := "LineBreaker$Paragraph") (by decide +kernel) rfl ?_
  intro p e s m below meth c C hr hnm w
  have hx := C.1
  have hb := C.2.1
  have hts := C.2.2.2.2.1
  have hl := lv_entry ([.ref (ad 1)]) (n := 4) (Nat.le_of_ble_eq_true rfl)
  rw [lg_entry_eq]
  generalize (lg_sl ([.ref (ad 1)]) ++ List.replicate (4 - (lg_sl ([.ref (ad 1)])).length) Slot.unset).toArray = ls at hl ⊢
  have hl : lv_has ls 4 [(0, .ref (ad 1))] := hl
  unfold wp_Pa_allWidths at hw
  refine lv_lconst (v := 0) hx hb d_Pa_allWidths_0 (by decide) ?_
  refine lv_lstore_n (lv' := [(1, .long 0), (0, .ref (ad 1))]) hx hb d_Pa_allWidths_1 rfl hl (by decide) rfl (fun ls hl => ?_)
  refine lv_iconst (v := 0) hx hb d_Pa_allWidths_2 (by decide) ?_
  refine lv_istore_n (lv' := [(3, .int 0), (1, .long 0), (0, .ref (ad 1))]) hx hb d_Pa_allWidths_3 rfl hl (by decide) rfl (fun ls hl => ?_)
  obtain ⟨n9, hw⟩ := hw
  exact w_Pa_allWidths_4 C hr  n9 0 0 hw _ _ _ (wn_eq w rfl) (lv_sub hl [2, 1, 0] rfl)
set_option maxHeartbeats 4000000 in
set_option maxRecDepth 100000 in
theorem c_St_widthsAround (l : Launch) (n0 : Nat) (G : va_G) (K : KT) (ad : Nat → Nat) (X : va_W) (S : ST) (post : Int64 → Prop) (hw : wp_St_widthsAround S  post) : Met l y_St_widthsAround (Cond.code y_St_widthsAround prog_10_method_3_code 1 (some .long) :: gw) rm_St_widthsAround (va_Pc [.ref (ad 11)] (wb n0 G K (wC K ad S ++ X))) (va_Ql (fun r (u : Unit) => post r) (fun (u : Unit) t => we n0 G (wC K ad S ++ X) t) (al n0)) 0 0 (al n0) := by
  refine kb_start (own := "LineBreaker$Settings") (by decide +kernel) rfl ?_
  intro p e s m below meth c C hr hnm w
  have hx := C.1
  have hb := C.2.1
  have hts := C.2.2.2.2.1
  have hl := lv_entry ([.ref (ad 11)]) (n := 1) (Nat.le_of_ble_eq_true rfl)
  rw [lg_entry_eq]
  generalize (lg_sl ([.ref (ad 11)]) ++ List.replicate (1 - (lg_sl ([.ref (ad 11)])).length) Slot.unset).toArray = ls at hl ⊢
  have hl : lv_has ls 1 [(0, .ref (ad 11))] := hl
  unfold wp_St_widthsAround at hw
  refine lv_aload_n hx hb d_St_widthsAround_0 rfl (lv_at hl 0 rfl) ?_
  refine kg (C1 := R_St) (T := F_St) (N := 5) (ci := 8) (ref := "LineBreaker$Settings") (v := .ref (ad 14)) C w 11 2 iw_St rfl rfl (by decide) kw_116 rfl rfl d_St_widthsAround_1 ?_
  refine kg (C1 := R_Gl) (T := F_Gl) (N := 4) (ci := 2) (ref := "LineBreaker$Glue") (v := .int (S.2.2 896)) C w 14 0 iw_Gl rfl rfl (by decide) kw_90 rfl rfl d_St_widthsAround_4 ?_
  refine va_mabs hx hb (C.2.2.1.trans hl.1.symm) C.2.2.2.1 (hts _ kw_654) (hts _ kw_645) (hts _ kw_17) (hts _ kw_646) (Nat.le_of_ble_eq_true rfl) (Nat.le_of_ble_eq_true rfl) (Nat.zero_le _) (Nat.zero_le _) d_St_widthsAround_7 ?_
  refine lv_topi (fun v1 ev1 => ?_)
  have hw := hw v1 ev1
  refine lv_i2l hx hb d_St_widthsAround_10 rfl ?_
  refine lv_aload_n hx hb d_St_widthsAround_11 rfl (lv_at hl 0 rfl) ?_
  refine kg (C1 := R_St) (T := F_St) (N := 5) (ci := 8) (ref := "LineBreaker$Settings") (v := .ref (ad 15)) C w 11 3 iw_St rfl rfl (by decide) kw_119 rfl rfl d_St_widthsAround_12 ?_
  refine kg (C1 := R_Gl) (T := F_Gl) (N := 4) (ci := 2) (ref := "LineBreaker$Glue") (v := .int (S.2.2 960)) C w 15 0 iw_Gl rfl rfl (by decide) kw_90 rfl rfl d_St_widthsAround_15 ?_
  refine va_mabs hx hb (C.2.2.1.trans hl.1.symm) C.2.2.2.1 (hts _ kw_654) (hts _ kw_645) (hts _ kw_17) (hts _ kw_646) (Nat.le_of_ble_eq_true rfl) (Nat.le_of_ble_eq_true rfl) (Nat.zero_le _) (Nat.zero_le _) d_St_widthsAround_18 ?_
  refine lv_topi (fun v2 ev2 => ?_)
  have hw := hw v2 ev2
  refine lv_i2l hx hb d_St_widthsAround_21 rfl ?_
  refine lv_ladd hx hb d_St_widthsAround_22 ?_
  refine lv_aload_n hx hb d_St_widthsAround_23 rfl (lv_at hl 0 rfl) ?_
  refine kg (C1 := R_St) (T := F_St) (N := 5) (ci := 8) (ref := "LineBreaker$Settings") (v := .ref (ad 16)) C w 11 4 iw_St rfl rfl (by decide) kw_122 rfl rfl d_St_widthsAround_24 ?_
  refine kg (C1 := R_Gl) (T := F_Gl) (N := 4) (ci := 2) (ref := "LineBreaker$Glue") (v := .int (S.2.2 1024)) C w 16 0 iw_Gl rfl rfl (by decide) kw_90 rfl rfl d_St_widthsAround_27 ?_
  refine va_mabs hx hb (C.2.2.1.trans hl.1.symm) C.2.2.2.1 (hts _ kw_654) (hts _ kw_645) (hts _ kw_17) (hts _ kw_646) (Nat.le_of_ble_eq_true rfl) (Nat.le_of_ble_eq_true rfl) (Nat.zero_le _) (Nat.zero_le _) d_St_widthsAround_30 ?_
  refine lv_topi (fun v3 ev3 => ?_)
  have hw := hw v3 ev3
  refine lv_i2l hx hb d_St_widthsAround_33 rfl ?_
  refine lv_ladd hx hb d_St_widthsAround_34 ?_
  exact ke_l (post := (fun r (u : Unit) => post r)) (st := (fun (u : Unit) => wC K ad S ++ X)) (u := ()) C hr d_St_widthsAround_35 (wn_eq w rfl) hw
set_option maxHeartbeats 4000000 in
set_option maxRecDepth 100000 in
theorem w_Pa_allShrink_4 {S : ST} {post : Int64 → Prop} (C : cx p s m args meth c prog_8_method_10_code 4 "LineBreaker$Paragraph" n0 G K) (hr : meth.sig.returnType = (some .long)) : ∀ (n : Nat) (x1 : Int64) (x3 : Int32), wl_Pa_allShrink_4 S post n x1 x3 → ∀ (H : Heap) (locs : List Loc) (ls : Array Slot), wn n0 G (wC K ad S ++ X) s H locs → lv_has ls 4 [(0, .ref (ad 1)), (1, .long x1), (3, .int x3)] → W p l e rm_Pa_allShrink s m args below meth c H locs 0 0 (MQ below (va_Ql (fun r (u : Unit) => post r) (fun (u : Unit) t => we n0 G (wC K ad S ++ X) t) (al n0)) args s 0 0 (al n0)) (F0 m 4 ls []) := by
  have hx := C.1
  have hb := C.2.1
  have hts := C.2.2.2.2.1
  intro n
  induction n with
  | zero =>
    intro x1 x3 hw
    unfold wl_Pa_allShrink_4 at hw
    exact hw.elim
  | succ n ih =>
    intro x1 x3 hw H locs ls w hl
    unfold wl_Pa_allShrink_4 at hw
    refine lv_iload_n hx hb d_Pa_allShrink_4 rfl (lv_at hl 2 rfl) ?_
    refine lv_aload_n hx hb d_Pa_allShrink_5 rfl (lv_at hl 0 rfl) ?_
    refine kg (C1 := R_Pa) (T := F_Pa) (N := 10) (ci := 6) (ref := "LineBreaker$Paragraph") (v := .int (S.2.2 73)) C w 1 9 iw_Pa rfl rfl (by decide) kw_53 rfl rfl d_Pa_allShrink_6 ?_
    refine lv_icmp_ge (tgt := 28) hx hb d_Pa_allShrink_9 (by decide) (fun hc => ?_) (fun hc => ?_)
    · have hw := hw.1 hc
      refine lv_lload_n hx hb d_Pa_allShrink_28 rfl (lv_at hl 1 rfl) ?_
      exact ke_l (post := (fun r (u : Unit) => post r)) (st := (fun (u : Unit) => wC K ad S ++ X)) (u := ()) C hr d_Pa_allShrink_29 (wn_eq w rfl) hw
    · have hw := hw.2 hc
      refine lv_lload_n hx hb d_Pa_allShrink_12 rfl (lv_at hl 1 rfl) ?_
      refine lv_aload_n hx hb d_Pa_allShrink_13 rfl (lv_at hl 0 rfl) ?_
      refine kg (C1 := R_Pa) (T := F_Pa) (N := 10) (ci := 6) (ref := "LineBreaker$Paragraph") (v := .ref (ad 6)) C w 1 4 iw_Pa rfl rfl (by decide) kw_43 rfl rfl d_Pa_allShrink_14 ?_
      refine lv_iload_n hx hb d_Pa_allShrink_17 rfl (lv_at hl 2 rfl) ?_
      refine ka_i (f := (S.1 6)) C w 6 rfl hw.1 d_Pa_allShrink_18 ?_
      have hw := hw.2
      refine lv_i2l hx hb d_Pa_allShrink_19 rfl ?_
      refine lv_ladd hx hb d_Pa_allShrink_20 ?_
      refine lv_topl (fun v1 ev1 => ?_)
      have hw := hw v1 ev1
      refine lv_lstore_n (lv' := [(1, .long v1), (0, .ref (ad 1)), (3, .int x3)]) hx hb d_Pa_allShrink_21 rfl hl (by decide) rfl (fun ls hl => ?_)
      obtain ⟨v2, ev2⟩ : ∃ y : Int32, y = x3 + 1 := ⟨_, rfl⟩
      refine lv_iinc (v := v2) (lv' := [(3, .int v2), (1, .long v1), (0, .ref (ad 1))]) hx hb d_Pa_allShrink_22 hl (k := 2) rfl (by rw [ev2]; rfl) (by decide) rfl (fun ls hl => ?_)
      have hw := hw v2 ev2
      refine lv_goto (tgt := 4) hx hb d_Pa_allShrink_25 (by decide) ?_
      exact ih v1 v2 hw _ _ _ (wn_eq w rfl) (lv_sub hl [2, 1, 0] rfl)
set_option maxHeartbeats 4000000 in
set_option maxRecDepth 100000 in
theorem c_Pa_allShrink (l : Launch) (n0 : Nat) (G : va_G) (K : KT) (ad : Nat → Nat) (X : va_W) (S : ST) (post : Int64 → Prop) (hw : wp_Pa_allShrink S  post) : Met l y_Pa_allShrink (Cond.code y_Pa_allShrink prog_8_method_10_code 4 (some .long) :: gw) rm_Pa_allShrink (va_Pc [.ref (ad 1)] (wb n0 G K (wC K ad S ++ X))) (va_Ql (fun r (u : Unit) => post r) (fun (u : Unit) t => we n0 G (wC K ad S ++ X) t) (al n0)) 0 0 (al n0) := by
  refine kb_start (own := "LineBreaker$Paragraph") (by decide +kernel) rfl ?_
  intro p e s m below meth c C hr hnm w
  have hx := C.1
  have hb := C.2.1
  have hts := C.2.2.2.2.1
  have hl := lv_entry ([.ref (ad 1)]) (n := 4) (Nat.le_of_ble_eq_true rfl)
  rw [lg_entry_eq]
  generalize (lg_sl ([.ref (ad 1)]) ++ List.replicate (4 - (lg_sl ([.ref (ad 1)])).length) Slot.unset).toArray = ls at hl ⊢
  have hl : lv_has ls 4 [(0, .ref (ad 1))] := hl
  unfold wp_Pa_allShrink at hw
  refine lv_lconst (v := 0) hx hb d_Pa_allShrink_0 (by decide) ?_
  refine lv_lstore_n (lv' := [(1, .long 0), (0, .ref (ad 1))]) hx hb d_Pa_allShrink_1 rfl hl (by decide) rfl (fun ls hl => ?_)
  refine lv_iconst (v := 0) hx hb d_Pa_allShrink_2 (by decide) ?_
  refine lv_istore_n (lv' := [(3, .int 0), (1, .long 0), (0, .ref (ad 1))]) hx hb d_Pa_allShrink_3 rfl hl (by decide) rfl (fun ls hl => ?_)
  obtain ⟨n9, hw⟩ := hw
  exact w_Pa_allShrink_4 C hr  n9 0 0 hw _ _ _ (wn_eq w rfl) (lv_sub hl [2, 1, 0] rfl)
set_option maxHeartbeats 4000000 in
set_option maxRecDepth 100000 in
theorem c_St_shrinkAround (l : Launch) (n0 : Nat) (G : va_G) (K : KT) (ad : Nat → Nat) (X : va_W) (S : ST) (post : Int64 → Prop) (hw : wp_St_shrinkAround S  post) : Met l y_St_shrinkAround (Cond.code y_St_shrinkAround prog_10_method_5_code 1 (some .long) :: gw) rm_St_shrinkAround (va_Pc [.ref (ad 11)] (wb n0 G K (wC K ad S ++ X))) (va_Ql (fun r (u : Unit) => post r) (fun (u : Unit) t => we n0 G (wC K ad S ++ X) t) (al n0)) 0 0 (al n0) := by
  refine kb_start (own := "LineBreaker$Settings") (by decide +kernel) rfl ?_
  intro p e s m below meth c C hr hnm w
  have hx := C.1
  have hb := C.2.1
  have hts := C.2.2.2.2.1
  have hl := lv_entry ([.ref (ad 11)]) (n := 1) (Nat.le_of_ble_eq_true rfl)
  rw [lg_entry_eq]
  generalize (lg_sl ([.ref (ad 11)]) ++ List.replicate (1 - (lg_sl ([.ref (ad 11)])).length) Slot.unset).toArray = ls at hl ⊢
  have hl : lv_has ls 1 [(0, .ref (ad 11))] := hl
  unfold wp_St_shrinkAround at hw
  refine lv_aload_n hx hb d_St_shrinkAround_0 rfl (lv_at hl 0 rfl) ?_
  refine kg (C1 := R_St) (T := F_St) (N := 5) (ci := 8) (ref := "LineBreaker$Settings") (v := .ref (ad 14)) C w 11 2 iw_St rfl rfl (by decide) kw_116 rfl rfl d_St_shrinkAround_1 ?_
  refine kg (C1 := R_Gl) (T := F_Gl) (N := 4) (ci := 2) (ref := "LineBreaker$Glue") (v := .int (S.2.2 899)) C w 14 3 iw_Gl rfl rfl (by decide) kw_98 rfl rfl d_St_shrinkAround_4 ?_
  refine lv_i2l hx hb d_St_shrinkAround_7 rfl ?_
  refine lv_aload_n hx hb d_St_shrinkAround_8 rfl (lv_at hl 0 rfl) ?_
  refine kg (C1 := R_St) (T := F_St) (N := 5) (ci := 8) (ref := "LineBreaker$Settings") (v := .ref (ad 15)) C w 11 3 iw_St rfl rfl (by decide) kw_119 rfl rfl d_St_shrinkAround_9 ?_
  refine kg (C1 := R_Gl) (T := F_Gl) (N := 4) (ci := 2) (ref := "LineBreaker$Glue") (v := .int (S.2.2 963)) C w 15 3 iw_Gl rfl rfl (by decide) kw_98 rfl rfl d_St_shrinkAround_12 ?_
  refine lv_i2l hx hb d_St_shrinkAround_15 rfl ?_
  refine lv_ladd hx hb d_St_shrinkAround_16 ?_
  refine lv_aload_n hx hb d_St_shrinkAround_17 rfl (lv_at hl 0 rfl) ?_
  refine kg (C1 := R_St) (T := F_St) (N := 5) (ci := 8) (ref := "LineBreaker$Settings") (v := .ref (ad 16)) C w 11 4 iw_St rfl rfl (by decide) kw_122 rfl rfl d_St_shrinkAround_18 ?_
  refine kg (C1 := R_Gl) (T := F_Gl) (N := 4) (ci := 2) (ref := "LineBreaker$Glue") (v := .int (S.2.2 1027)) C w 16 3 iw_Gl rfl rfl (by decide) kw_98 rfl rfl d_St_shrinkAround_21 ?_
  refine lv_i2l hx hb d_St_shrinkAround_24 rfl ?_
  refine lv_ladd hx hb d_St_shrinkAround_25 ?_
  exact ke_l (post := (fun r (u : Unit) => post r)) (st := (fun (u : Unit) => wC K ad S ++ X)) (u := ()) C hr d_St_shrinkAround_26 (wn_eq w rfl) hw
set_option maxHeartbeats 4000000 in
set_option maxRecDepth 100000 in
theorem c_Lb_sumsAreSizes (l : Launch) (n0 : Nat) (G : va_G) (K : KT) (ad : Nat → Nat) (X : va_W) (S : ST) (post : Int32 → Prop) (hw : wp_Lb_sumsAreSizes S  post) : Met l y_Lb_sumsAreSizes (Cond.code y_Lb_sumsAreSizes prog_1_method_17_code 3 (some .boolean) :: gw) rm_Lb_sumsAreSizes (va_Pc [.ref (ad 0)] (wb n0 G K (wC K ad S ++ X))) (va_Qi (fun r (u : Unit) => post r) (fun (u : Unit) t => we n0 G (wC K ad S ++ X) t) (al n0)) 0 0 (al n0) := by
  refine kb_start (own := "LineBreaker") (by decide +kernel) rfl ?_
  intro p e s m below meth c C hr hnm w
  have hx := C.1
  have hb := C.2.1
  have hts := C.2.2.2.2.1
  have hl := lv_entry ([.ref (ad 0)]) (n := 3) (Nat.le_of_ble_eq_true rfl)
  rw [lg_entry_eq]
  generalize (lg_sl ([.ref (ad 0)]) ++ List.replicate (3 - (lg_sl ([.ref (ad 0)])).length) Slot.unset).toArray = ls at hl ⊢
  have hl : lv_has ls 3 [(0, .ref (ad 0))] := hl
  unfold wp_Lb_sumsAreSizes at hw
  refine lv_aload_n hx hb d_Lb_sumsAreSizes_0 rfl (lv_at hl 0 rfl) ?_
  refine kg (C1 := R_Lb) (T := F_Lb) (N := 5) (ci := 9) (ref := "LineBreaker") (v := .ref (ad 1)) C w 0 0 iw_Lb rfl rfl (by decide) kw_356 rfl rfl d_Lb_sumsAreSizes_1 ?_
  refine kc_l (st := fun (u : Unit) => wC K ad S ++ X) w (kr_V (y := y_Pa_allStretch) (C1 := R_Pa) (T := F_Pa) (N := 10) (ci := 6) (q0 := 1) (As := []) (n := 0) C w (c_Pa_allStretch l n0 G K ad X S  _ hw) (gw_V kw_632 kw_633 kw_634 kw_2 kw_635) (by decide +kernel) rfl rfl ⟨Nat.le_of_ble_eq_true rfl, Nat.le_of_ble_eq_true rfl⟩ rfl rfl rfl hl.1 rfl (Nat.le_of_ble_eq_true rfl) d_Lb_sumsAreSizes_4 ⟨Nat.le_of_ble_eq_true rfl, Nat.le_of_ble_eq_true rfl⟩) (fun r1 u H locs hw w => ?_)
  refine lv_aload_n hx hb d_Lb_sumsAreSizes_7 rfl (lv_at hl 0 rfl) ?_
  refine kg (C1 := R_Lb) (T := F_Lb) (N := 5) (ci := 9) (ref := "LineBreaker") (v := .ref (ad 11)) C w 0 1 iw_Lb rfl rfl (by decide) kw_357 rfl rfl d_Lb_sumsAreSizes_8 ?_
  refine kc_l (st := fun (u : Unit) => wC K ad S ++ X) w (kr_V (y := y_St_stretchAround) (C1 := R_St) (T := F_St) (N := 5) (ci := 8) (q0 := 11) (As := []) (n := 0) C w (c_St_stretchAround l n0 G K ad X S  _ hw) (gw_V kw_636 kw_637 kw_638 kw_3 kw_639) (by decide +kernel) rfl rfl ⟨Nat.le_of_ble_eq_true rfl, Nat.le_of_ble_eq_true rfl⟩ rfl rfl rfl hl.1 rfl (Nat.le_of_ble_eq_true rfl) d_Lb_sumsAreSizes_11 ⟨Nat.le_of_ble_eq_true rfl, Nat.le_of_ble_eq_true rfl⟩) (fun r2 u H locs hw w => ?_)
  refine lv_ladd hx hb d_Lb_sumsAreSizes_14 ?_
  refine lv_aload_n hx hb d_Lb_sumsAreSizes_15 rfl (lv_at hl 0 rfl) ?_
  refine kg (C1 := R_Lb) (T := F_Lb) (N := 5) (ci := 9) (ref := "LineBreaker") (v := .ref (ad 11)) C w 0 1 iw_Lb rfl rfl (by decide) kw_357 rfl rfl d_Lb_sumsAreSizes_16 ?_
  refine kg (C1 := R_St) (T := F_St) (N := 5) (ci := 8) (ref := "LineBreaker$Settings") (v := .ref (ad 12)) C w 11 0 iw_St rfl rfl (by decide) kw_113 rfl rfl d_Lb_sumsAreSizes_19 ?_
  refine lv_bipush (v := 8) hx hb d_Lb_sumsAreSizes_22 (by decide) ?_
  refine ka_i (f := (S.1 12)) C w 12 rfl hw.1 d_Lb_sumsAreSizes_24 ?_
  have hw := hw.2
  refine lv_i2l hx hb d_Lb_sumsAreSizes_25 rfl ?_
  refine lv_ladd hx hb d_Lb_sumsAreSizes_26 ?_
  refine lv_topl (fun v3 ev3 => ?_)
  have hw := hw v3 ev3
  refine lv_lstore_n (lv' := [(1, .long v3), (0, .ref (ad 0))]) hx hb d_Lb_sumsAreSizes_27 rfl hl (by decide) rfl (fun ls hl => ?_)
  refine lv_aload_n hx hb d_Lb_sumsAreSizes_28 rfl (lv_at hl 1 rfl) ?_
  refine kg (C1 := R_Lb) (T := F_Lb) (N := 5) (ci := 9) (ref := "LineBreaker") (v := .ref (ad 1)) C w 0 0 iw_Lb rfl rfl (by decide) kw_356 rfl rfl d_Lb_sumsAreSizes_29 ?_
  refine kc_l (st := fun (u : Unit) => wC K ad S ++ X) w (kr_V (y := y_Pa_allWidths) (C1 := R_Pa) (T := F_Pa) (N := 10) (ci := 6) (q0 := 1) (As := []) (n := 0) C w (c_Pa_allWidths l n0 G K ad X S  _ hw) (gw_V kw_640 kw_641 kw_642 kw_2 kw_643) (by decide +kernel) rfl rfl ⟨Nat.le_of_ble_eq_true rfl, Nat.le_of_ble_eq_true rfl⟩ rfl rfl rfl hl.1 rfl (Nat.le_of_ble_eq_true rfl) d_Lb_sumsAreSizes_32 ⟨Nat.le_of_ble_eq_true rfl, Nat.le_of_ble_eq_true rfl⟩) (fun r4 u H locs hw w => ?_)
  refine lv_aload_n hx hb d_Lb_sumsAreSizes_35 rfl (lv_at hl 1 rfl) ?_
  refine kg (C1 := R_Lb) (T := F_Lb) (N := 5) (ci := 9) (ref := "LineBreaker") (v := .ref (ad 11)) C w 0 1 iw_Lb rfl rfl (by decide) kw_357 rfl rfl d_Lb_sumsAreSizes_36 ?_
  refine kc_l (st := fun (u : Unit) => wC K ad S ++ X) w (kr_V (y := y_St_widthsAround) (C1 := R_St) (T := F_St) (N := 5) (ci := 8) (q0 := 11) (As := []) (n := 0) C w (c_St_widthsAround l n0 G K ad X S  _ hw) (gw_V kw_650 kw_651 kw_652 kw_3 kw_653) (by decide +kernel) rfl rfl ⟨Nat.le_of_ble_eq_true rfl, Nat.le_of_ble_eq_true rfl⟩ rfl rfl rfl hl.1 rfl (Nat.le_of_ble_eq_true rfl) d_Lb_sumsAreSizes_39 ⟨Nat.le_of_ble_eq_true rfl, Nat.le_of_ble_eq_true rfl⟩) (fun r5 u H locs hw w => ?_)
  refine lv_ladd hx hb d_Lb_sumsAreSizes_42 ?_
  refine lv_ldc2 (v := 1073741823) hx hb C.2.2.2.1 (hts _ kw_655) d_Lb_sumsAreSizes_43 ?_
  refine W.lcmp hx hb d_Lb_sumsAreSizes_46 ?_
  refine lv_if_gt (tgt := 84) hx hb d_Lb_sumsAreSizes_47 (by decide) (fun hc => ?_) (fun hc => ?_)
  · have hw := hw.1 hc
    refine lv_iconst (v := 0) hx hb d_Lb_sumsAreSizes_84 (by decide) ?_
    exact ke_z (post := (fun r (u : Unit) => post r)) (st := (fun (u : Unit) => wC K ad S ++ X)) (u := ()) C hr d_Lb_sumsAreSizes_85 (wn_eq w rfl) (Or.inl rfl) hw
  · have hw := hw.2 hc
    refine lv_lload_n hx hb d_Lb_sumsAreSizes_50 rfl (lv_at hl 0 rfl) ?_
    refine lv_ldc2 (v := 1073741823) hx hb C.2.2.2.1 (hts _ kw_655) d_Lb_sumsAreSizes_51 ?_
    refine W.lcmp hx hb d_Lb_sumsAreSizes_54 ?_
    refine lv_if_gt (tgt := 84) hx hb d_Lb_sumsAreSizes_55 (by decide) (fun hc => ?_) (fun hc => ?_)
    · have hw := hw.1 hc
      refine lv_iconst (v := 0) hx hb d_Lb_sumsAreSizes_84 (by decide) ?_
      exact ke_z (post := (fun r (u : Unit) => post r)) (st := (fun (u : Unit) => wC K ad S ++ X)) (u := ()) C hr d_Lb_sumsAreSizes_85 (wn_eq w rfl) (Or.inl rfl) hw
    · have hw := hw.2 hc
      refine lv_aload_n hx hb d_Lb_sumsAreSizes_58 rfl (lv_at hl 1 rfl) ?_
      refine kg (C1 := R_Lb) (T := F_Lb) (N := 5) (ci := 9) (ref := "LineBreaker") (v := .ref (ad 1)) C w 0 0 iw_Lb rfl rfl (by decide) kw_356 rfl rfl d_Lb_sumsAreSizes_59 ?_
      refine kc_l (st := fun (u : Unit) => wC K ad S ++ X) w (kr_V (y := y_Pa_allShrink) (C1 := R_Pa) (T := F_Pa) (N := 10) (ci := 6) (q0 := 1) (As := []) (n := 0) C w (c_Pa_allShrink l n0 G K ad X S  _ hw) (gw_V kw_656 kw_657 kw_658 kw_2 kw_659) (by decide +kernel) rfl rfl ⟨Nat.le_of_ble_eq_true rfl, Nat.le_of_ble_eq_true rfl⟩ rfl rfl rfl hl.1 rfl (Nat.le_of_ble_eq_true rfl) d_Lb_sumsAreSizes_62 ⟨Nat.le_of_ble_eq_true rfl, Nat.le_of_ble_eq_true rfl⟩) (fun r6 u H locs hw w => ?_)
      refine lv_aload_n hx hb d_Lb_sumsAreSizes_65 rfl (lv_at hl 1 rfl) ?_
      refine kg (C1 := R_Lb) (T := F_Lb) (N := 5) (ci := 9) (ref := "LineBreaker") (v := .ref (ad 11)) C w 0 1 iw_Lb rfl rfl (by decide) kw_357 rfl rfl d_Lb_sumsAreSizes_66 ?_
      refine kc_l (st := fun (u : Unit) => wC K ad S ++ X) w (kr_V (y := y_St_shrinkAround) (C1 := R_St) (T := F_St) (N := 5) (ci := 8) (q0 := 11) (As := []) (n := 0) C w (c_St_shrinkAround l n0 G K ad X S  _ hw) (gw_V kw_660 kw_661 kw_662 kw_3 kw_663) (by decide +kernel) rfl rfl ⟨Nat.le_of_ble_eq_true rfl, Nat.le_of_ble_eq_true rfl⟩ rfl rfl rfl hl.1 rfl (Nat.le_of_ble_eq_true rfl) d_Lb_sumsAreSizes_69 ⟨Nat.le_of_ble_eq_true rfl, Nat.le_of_ble_eq_true rfl⟩) (fun r7 u H locs hw w => ?_)
      refine lv_ladd hx hb d_Lb_sumsAreSizes_72 ?_
      refine lv_ldc2 (v := 1073741823) hx hb C.2.2.2.1 (hts _ kw_655) d_Lb_sumsAreSizes_73 ?_
      refine W.lcmp hx hb d_Lb_sumsAreSizes_76 ?_
      refine lv_if_gt (tgt := 84) hx hb d_Lb_sumsAreSizes_77 (by decide) (fun hc => ?_) (fun hc => ?_)
      · have hw := hw.1 hc
        refine lv_iconst (v := 0) hx hb d_Lb_sumsAreSizes_84 (by decide) ?_
        exact ke_z (post := (fun r (u : Unit) => post r)) (st := (fun (u : Unit) => wC K ad S ++ X)) (u := ()) C hr d_Lb_sumsAreSizes_85 (wn_eq w rfl) (Or.inl rfl) hw
      · have hw := hw.2 hc
        refine lv_iconst (v := 1) hx hb d_Lb_sumsAreSizes_80 (by decide) ?_
        refine lv_goto (tgt := 85) hx hb d_Lb_sumsAreSizes_81 (by decide) ?_
        exact ke_z (post := (fun r (u : Unit) => post r)) (st := (fun (u : Unit) => wC K ad S ++ X)) (u := ()) C hr d_Lb_sumsAreSizes_85 (wn_eq w rfl) (Or.inr rfl) hw
set_option maxHeartbeats 4000000 in
set_option maxRecDepth 100000 in
theorem c_Lb_isSize (l : Launch) (n0 : Nat) (G : va_G) (K : KT) (ad : Nat → Nat) (X : va_W) (S : ST) (p1 : Int32) (post : Int32 → Prop) (hw : wp_Lb_isSize S p1 post) : Met l y_Lb_isSize (Cond.code y_Lb_isSize prog_1_method_24_code 1 (some .boolean) :: gw) rm_Lb_isSize (va_Pc [.int p1] (wb n0 G K (wC K ad S ++ X))) (va_Qi (fun r (u : Unit) => post r) (fun (u : Unit) t => we n0 G (wC K ad S ++ X) t) (al n0)) 0 0 (al n0) := by
  refine kb_start (own := "LineBreaker") (by decide +kernel) rfl ?_
  intro p e s m below meth c C hr hnm w
  have hx := C.1
  have hb := C.2.1
  have hts := C.2.2.2.2.1
  have hl := lv_entry ([.int p1]) (n := 1) (Nat.le_of_ble_eq_true rfl)
  rw [lg_entry_eq]
  generalize (lg_sl ([.int p1]) ++ List.replicate (1 - (lg_sl ([.int p1])).length) Slot.unset).toArray = ls at hl ⊢
  have hl : lv_has ls 1 [(0, .int p1)] := hl
  unfold wp_Lb_isSize at hw
  refine lv_iload_n hx hb d_Lb_isSize_0 rfl (lv_at hl 0 rfl) ?_
  refine lv_ldc (v := (-1073741823)) hx hb C.2.2.2.1 (hts _ kw_407) d_Lb_isSize_1 ?_
  refine lv_icmp_lt (tgt := 16) hx hb d_Lb_isSize_3 (by decide) (fun hc => ?_) (fun hc => ?_)
  · have hw := hw.1 hc
    refine lv_iconst (v := 0) hx hb d_Lb_isSize_16 (by decide) ?_
    exact ke_z (post := (fun r (u : Unit) => post r)) (st := (fun (u : Unit) => wC K ad S ++ X)) (u := ()) C hr d_Lb_isSize_17 (wn_eq w rfl) (Or.inl rfl) hw
  · have hw := hw.2 hc
    refine lv_iload_n hx hb d_Lb_isSize_6 rfl (lv_at hl 0 rfl) ?_
    refine lv_ldc (v := 1073741823) hx hb C.2.2.2.1 (hts _ kw_408) d_Lb_isSize_7 ?_
    refine lv_icmp_gt (tgt := 16) hx hb d_Lb_isSize_9 (by decide) (fun hc => ?_) (fun hc => ?_)
    · have hw := hw.1 hc
      refine lv_iconst (v := 0) hx hb d_Lb_isSize_16 (by decide) ?_
      exact ke_z (post := (fun r (u : Unit) => post r)) (st := (fun (u : Unit) => wC K ad S ++ X)) (u := ()) C hr d_Lb_isSize_17 (wn_eq w rfl) (Or.inl rfl) hw
    · have hw := hw.2 hc
      refine lv_iconst (v := 1) hx hb d_Lb_isSize_12 (by decide) ?_
      refine lv_goto (tgt := 17) hx hb d_Lb_isSize_13 (by decide) ?_
      exact ke_z (post := (fun r (u : Unit) => post r)) (st := (fun (u : Unit) => wC K ad S ++ X)) (u := ()) C hr d_Lb_isSize_17 (wn_eq w rfl) (Or.inr rfl) hw
set_option maxHeartbeats 4000000 in
set_option maxRecDepth 100000 in
theorem c_Gl_become (l : Launch) (n0 : Nat) (G : va_G) (K : KT) (ad : Nat → Nat) (X : va_W) (S : ST) (p1 : Int32) (p2 : Int32) (p3 : Int32) (p4 : Int32) (post : Int32 → Int32 → Int32 → Int32 → Prop) (hw : wp_Gl_become S p1 p2 p3 p4 post) : Met l y_Gl_become (Cond.code y_Gl_become prog_4_method_2_code 5 none :: gw) rm_Gl_become (va_Pc [.ref (ad 14), .int p1, .int p2, .int p3, .int p4] (wb n0 G K (wC K ad S ++ X))) (va_Qv (fun (u : Int32 × Int32 × Int32 × Int32) => post u.1 u.2.1 u.2.2.1 u.2.2.2) (fun (u : Int32 × Int32 × Int32 × Int32) t => we n0 G (wC K ad (sI (sI (sI (sI S 896 u.1) 897 u.2.1) 898 u.2.2.1) 899 u.2.2.2) ++ X) t) (al n0)) 0 0 (al n0) := by
  refine kb_start (own := "LineBreaker$Glue") (by decide +kernel) rfl ?_
  intro p e s m below meth c C hr hnm w
  have hx := C.1
  have hb := C.2.1
  have hts := C.2.2.2.2.1
  have hl := lv_entry ([.ref (ad 14), .int p1, .int p2, .int p3, .int p4]) (n := 5) (Nat.le_of_ble_eq_true rfl)
  rw [lg_entry_eq]
  generalize (lg_sl ([.ref (ad 14), .int p1, .int p2, .int p3, .int p4]) ++ List.replicate (5 - (lg_sl ([.ref (ad 14), .int p1, .int p2, .int p3, .int p4])).length) Slot.unset).toArray = ls at hl ⊢
  have hl : lv_has ls 5 [(0, .ref (ad 14)), (1, .int p1), (2, .int p2), (3, .int p3), (4, .int p4)] := hl
  unfold wp_Gl_become at hw
  refine lv_aload_n hx hb d_Gl_become_0 rfl (lv_at hl 0 rfl) ?_
  refine lv_iload_n hx hb d_Gl_become_1 rfl (lv_at hl 1 rfl) ?_
  refine kp (C1 := R_Gl) (T := F_Gl) (N := 4) (ci := 2) (ty0 := t_Gl) (ref := "LineBreaker$Glue") (w2 := wC K ad (sI S 896 p1) ++ X) C w 14 0 iw_Gl tk_Gl n_Gl rfl rfl (by decide) kw_89 rfl rfl rfl rfl (Nat.le_of_ble_eq_true rfl) rfl d_Gl_become_2 (fun H locs w => ?_)
  refine lv_aload_n hx hb d_Gl_become_5 rfl (lv_at hl 0 rfl) ?_
  refine lv_iload_n hx hb d_Gl_become_6 rfl (lv_at hl 2 rfl) ?_
  refine kp (C1 := R_Gl) (T := F_Gl) (N := 4) (ci := 2) (ty0 := t_Gl) (ref := "LineBreaker$Glue") (w2 := wC K ad (sI (sI S 896 p1) 897 p2) ++ X) C w 14 1 iw_Gl tk_Gl n_Gl rfl rfl (by decide) kw_93 rfl rfl rfl rfl (Nat.le_of_ble_eq_true rfl) rfl d_Gl_become_7 (fun H locs w => ?_)
  refine lv_aload_n hx hb d_Gl_become_10 rfl (lv_at hl 0 rfl) ?_
  refine lv_iload_n hx hb d_Gl_become_11 rfl (lv_at hl 3 rfl) ?_
  refine kp (C1 := R_Gl) (T := F_Gl) (N := 4) (ci := 2) (ty0 := t_Gl) (ref := "LineBreaker$Glue") (w2 := wC K ad (sI (sI (sI S 896 p1) 897 p2) 898 p3) ++ X) C w 14 2 iw_Gl tk_Gl n_Gl rfl rfl (by decide) kw_95 rfl rfl rfl rfl (Nat.le_of_ble_eq_true rfl) rfl d_Gl_become_12 (fun H locs w => ?_)
  refine lv_aload_n hx hb d_Gl_become_15 rfl (lv_at hl 0 rfl) ?_
  refine lv_iload hx hb d_Gl_become_16 (lv_at hl 4 rfl) ?_
  refine kp (C1 := R_Gl) (T := F_Gl) (N := 4) (ci := 2) (ty0 := t_Gl) (ref := "LineBreaker$Glue") (w2 := wC K ad (sI (sI (sI (sI S 896 p1) 897 p2) 898 p3) 899 p4) ++ X) C w 14 3 iw_Gl tk_Gl n_Gl rfl rfl (by decide) kw_96 rfl rfl rfl rfl (Nat.le_of_ble_eq_true rfl) rfl d_Gl_become_18 (fun H locs w => ?_)
  exact ke_v (post := (fun (u : Int32 × Int32 × Int32 × Int32) => post u.1 u.2.1 u.2.2.1 u.2.2.2)) (st := (fun (u : Int32 × Int32 × Int32 × Int32) => wC K ad (sI (sI (sI (sI S 896 u.1) 897 u.2.1) 898 u.2.2.1) 899 u.2.2.2) ++ X)) (u := (p1, p2, p3, p4)) C hr d_Gl_become_21 (wn_eq w rfl) hw
set_option maxHeartbeats 4000000 in
set_option maxRecDepth 100000 in
theorem c_Gl_become_15 (l : Launch) (n0 : Nat) (G : va_G) (K : KT) (ad : Nat → Nat) (X : va_W) (S : ST) (p1 : Int32) (p2 : Int32) (p3 : Int32) (p4 : Int32) (post : Int32 → Int32 → Int32 → Int32 → Prop) (hw : wp_Gl_become_15 S p1 p2 p3 p4 post) : Met l y_Gl_become (Cond.code y_Gl_become prog_4_method_2_code 5 none :: gw) rm_Gl_become_15 (va_Pc [.ref (ad 15), .int p1, .int p2, .int p3, .int p4] (wb n0 G K (wC K ad S ++ X))) (va_Qv (fun (u : Int32 × Int32 × Int32 × Int32) => post u.1 u.2.1 u.2.2.1 u.2.2.2) (fun (u : Int32 × Int32 × Int32 × Int32) t => we n0 G (wC K ad (sI (sI (sI (sI S 960 u.1) 961 u.2.1) 962 u.2.2.1) 963 u.2.2.2) ++ X) t) (al n0)) 0 0 (al n0) := by
  refine kb_start (own := "LineBreaker$Glue") (by decide +kernel) rfl ?_
  intro p e s m below meth c C hr hnm w
  have hx := C.1
  have hb := C.2.1
  have hts := C.2.2.2.2.1
  have hl := lv_entry ([.ref (ad 15), .int p1, .int p2, .int p3, .int p4]) (n := 5) (Nat.le_of_ble_eq_true rfl)
  rw [lg_entry_eq]
  generalize (lg_sl ([.ref (ad 15), .int p1, .int p2, .int p3, .int p4]) ++ List.replicate (5 - (lg_sl ([.ref (ad 15), .int p1, .int p2, .int p3, .int p4])).length) Slot.unset).toArray = ls at hl ⊢
  have hl : lv_has ls 5 [(0, .ref (ad 15)), (1, .int p1), (2, .int p2), (3, .int p3), (4, .int p4)] := hl
  unfold wp_Gl_become_15 at hw
  refine lv_aload_n hx hb d_Gl_become_0 rfl (lv_at hl 0 rfl) ?_
  refine lv_iload_n hx hb d_Gl_become_1 rfl (lv_at hl 1 rfl) ?_
  refine kp (C1 := R_Gl) (T := F_Gl) (N := 4) (ci := 2) (ty0 := t_Gl) (ref := "LineBreaker$Glue") (w2 := wC K ad (sI S 960 p1) ++ X) C w 15 0 iw_Gl tk_Gl n_Gl rfl rfl (by decide) kw_89 rfl rfl rfl rfl (Nat.le_of_ble_eq_true rfl) rfl d_Gl_become_2 (fun H locs w => ?_)
  refine lv_aload_n hx hb d_Gl_become_5 rfl (lv_at hl 0 rfl) ?_
  refine lv_iload_n hx hb d_Gl_become_6 rfl (lv_at hl 2 rfl) ?_
  refine kp (C1 := R_Gl) (T := F_Gl) (N := 4) (ci := 2) (ty0 := t_Gl) (ref := "LineBreaker$Glue") (w2 := wC K ad (sI (sI S 960 p1) 961 p2) ++ X) C w 15 1 iw_Gl tk_Gl n_Gl rfl rfl (by decide) kw_93 rfl rfl rfl rfl (Nat.le_of_ble_eq_true rfl) rfl d_Gl_become_7 (fun H locs w => ?_)
  refine lv_aload_n hx hb d_Gl_become_10 rfl (lv_at hl 0 rfl) ?_
  refine lv_iload_n hx hb d_Gl_become_11 rfl (lv_at hl 3 rfl) ?_
  refine kp (C1 := R_Gl) (T := F_Gl) (N := 4) (ci := 2) (ty0 := t_Gl) (ref := "LineBreaker$Glue") (w2 := wC K ad (sI (sI (sI S 960 p1) 961 p2) 962 p3) ++ X) C w 15 2 iw_Gl tk_Gl n_Gl rfl rfl (by decide) kw_95 rfl rfl rfl rfl (Nat.le_of_ble_eq_true rfl) rfl d_Gl_become_12 (fun H locs w => ?_)
  refine lv_aload_n hx hb d_Gl_become_15 rfl (lv_at hl 0 rfl) ?_
  refine lv_iload hx hb d_Gl_become_16 (lv_at hl 4 rfl) ?_
  refine kp (C1 := R_Gl) (T := F_Gl) (N := 4) (ci := 2) (ty0 := t_Gl) (ref := "LineBreaker$Glue") (w2 := wC K ad (sI (sI (sI (sI S 960 p1) 961 p2) 962 p3) 963 p4) ++ X) C w 15 3 iw_Gl tk_Gl n_Gl rfl rfl (by decide) kw_96 rfl rfl rfl rfl (Nat.le_of_ble_eq_true rfl) rfl d_Gl_become_18 (fun H locs w => ?_)
  exact ke_v (post := (fun (u : Int32 × Int32 × Int32 × Int32) => post u.1 u.2.1 u.2.2.1 u.2.2.2)) (st := (fun (u : Int32 × Int32 × Int32 × Int32) => wC K ad (sI (sI (sI (sI S 960 u.1) 961 u.2.1) 962 u.2.2.1) 963 u.2.2.2) ++ X)) (u := (p1, p2, p3, p4)) C hr d_Gl_become_21 (wn_eq w rfl) hw
set_option maxHeartbeats 4000000 in
set_option maxRecDepth 100000 in
theorem c_Gl_become_16 (l : Launch) (n0 : Nat) (G : va_G) (K : KT) (ad : Nat → Nat) (X : va_W) (S : ST) (p1 : Int32) (p2 : Int32) (p3 : Int32) (p4 : Int32) (post : Int32 → Int32 → Int32 → Int32 → Prop) (hw : wp_Gl_become_16 S p1 p2 p3 p4 post) : Met l y_Gl_become (Cond.code y_Gl_become prog_4_method_2_code 5 none :: gw) rm_Gl_become_16 (va_Pc [.ref (ad 16), .int p1, .int p2, .int p3, .int p4] (wb n0 G K (wC K ad S ++ X))) (va_Qv (fun (u : Int32 × Int32 × Int32 × Int32) => post u.1 u.2.1 u.2.2.1 u.2.2.2) (fun (u : Int32 × Int32 × Int32 × Int32) t => we n0 G (wC K ad (sI (sI (sI (sI S 1024 u.1) 1025 u.2.1) 1026 u.2.2.1) 1027 u.2.2.2) ++ X) t) (al n0)) 0 0 (al n0) := by
  refine kb_start (own := "LineBreaker$Glue") (by decide +kernel) rfl ?_
  intro p e s m below meth c C hr hnm w
  have hx := C.1
  have hb := C.2.1
  have hts := C.2.2.2.2.1
  have hl := lv_entry ([.ref (ad 16), .int p1, .int p2, .int p3, .int p4]) (n := 5) (Nat.le_of_ble_eq_true rfl)
  rw [lg_entry_eq]
  generalize (lg_sl ([.ref (ad 16), .int p1, .int p2, .int p3, .int p4]) ++ List.replicate (5 - (lg_sl ([.ref (ad 16), .int p1, .int p2, .int p3, .int p4])).length) Slot.unset).toArray = ls at hl ⊢
  have hl : lv_has ls 5 [(0, .ref (ad 16)), (1, .int p1), (2, .int p2), (3, .int p3), (4, .int p4)] := hl
  unfold wp_Gl_become_16 at hw
  refine lv_aload_n hx hb d_Gl_become_0 rfl (lv_at hl 0 rfl) ?_
  refine lv_iload_n hx hb d_Gl_become_1 rfl (lv_at hl 1 rfl) ?_
  refine kp (C1 := R_Gl) (T := F_Gl) (N := 4) (ci := 2) (ty0 := t_Gl) (ref := "LineBreaker$Glue") (w2 := wC K ad (sI S 1024 p1) ++ X) C w 16 0 iw_Gl tk_Gl n_Gl rfl rfl (by decide) kw_89 rfl rfl rfl rfl (Nat.le_of_ble_eq_true rfl) rfl d_Gl_become_2 (fun H locs w => ?_)
  refine lv_aload_n hx hb d_Gl_become_5 rfl (lv_at hl 0 rfl) ?_
  refine lv_iload_n hx hb d_Gl_become_6 rfl (lv_at hl 2 rfl) ?_
  refine kp (C1 := R_Gl) (T := F_Gl) (N := 4) (ci := 2) (ty0 := t_Gl) (ref := "LineBreaker$Glue") (w2 := wC K ad (sI (sI S 1024 p1) 1025 p2) ++ X) C w 16 1 iw_Gl tk_Gl n_Gl rfl rfl (by decide) kw_93 rfl rfl rfl rfl (Nat.le_of_ble_eq_true rfl) rfl d_Gl_become_7 (fun H locs w => ?_)
  refine lv_aload_n hx hb d_Gl_become_10 rfl (lv_at hl 0 rfl) ?_
  refine lv_iload_n hx hb d_Gl_become_11 rfl (lv_at hl 3 rfl) ?_
  refine kp (C1 := R_Gl) (T := F_Gl) (N := 4) (ci := 2) (ty0 := t_Gl) (ref := "LineBreaker$Glue") (w2 := wC K ad (sI (sI (sI S 1024 p1) 1025 p2) 1026 p3) ++ X) C w 16 2 iw_Gl tk_Gl n_Gl rfl rfl (by decide) kw_95 rfl rfl rfl rfl (Nat.le_of_ble_eq_true rfl) rfl d_Gl_become_12 (fun H locs w => ?_)
  refine lv_aload_n hx hb d_Gl_become_15 rfl (lv_at hl 0 rfl) ?_
  refine lv_iload hx hb d_Gl_become_16 (lv_at hl 4 rfl) ?_
  refine kp (C1 := R_Gl) (T := F_Gl) (N := 4) (ci := 2) (ty0 := t_Gl) (ref := "LineBreaker$Glue") (w2 := wC K ad (sI (sI (sI (sI S 1024 p1) 1025 p2) 1026 p3) 1027 p4) ++ X) C w 16 3 iw_Gl tk_Gl n_Gl rfl rfl (by decide) kw_96 rfl rfl rfl rfl (Nat.le_of_ble_eq_true rfl) rfl d_Gl_become_18 (fun H locs w => ?_)
  exact ke_v (post := (fun (u : Int32 × Int32 × Int32 × Int32) => post u.1 u.2.1 u.2.2.1 u.2.2.2)) (st := (fun (u : Int32 × Int32 × Int32 × Int32) => wC K ad (sI (sI (sI (sI S 1024 u.1) 1025 u.2.1) 1026 u.2.2.1) 1027 u.2.2.2) ++ X)) (u := (p1, p2, p3, p4)) C hr d_Gl_become_21 (wn_eq w rfl) hw
end
end
