def R_law : String := "LineBreakerLaw"
def lw_P (b : Addr) (xs : List Int32) (args : Array Value) (s : State) : Prop := args = #[.ref b] ∧ s.IntsAt b xs ∧ xs.length ≤ 3072 ∧ (Jvm.Cond.and given_1 narrow_1).before args s = true
def lw_Q (_ : Array Value) (s : State) (o : Outcome) (t : State) : Prop := o = .returned (some (.int 1)) ∧ Framed s o t [] 601024 7293034
def lw_Z (below : List Frame) (a : Array Value) (s : State) : State → Prop := fun t => ∃ o, t.status = .running ∧ Ended t below o ∧ lw_Q a s o t
/-- the law's own end, with 1 on the stack, nothing written that was there before, its room as the claim has it -/
theorem lw_ret {p : Program} {l : Launch} {e : Env} {s : State} {m : MethodId} {below : List Frame} {meth : Method} {c : Code} {b : Nat} (hx : p.tables.exec = Jvm.exec) (hb : c.code = code) (hr : meth.sig.returnType = ret) (hlocks : meth.locks = false) {pc : Nat} {H : Heap} {ls : Array Slot} (hdg : decode code pc = .ok (.ireturn, 1)) : W p l e room_1 s m #[Value.ref b] below meth c H [] 601024 7293034 (lw_Z below #[Value.ref b] s) (F0 m pc ls [.int 1]) := by
  intro T hT X
  obtain ⟨fs, hret, hrun, hended, hW, hframe⟩ := X.leave (v := some (.int 1)) (hlocks := hlocks) (fun h => by rw [hr] at h; cases h)
  have hmeth' : T.vm.method? m = some meth := X.method'
  refine ⟨T.setFrames fs, ?_, .returned (some (.int 1)), hrun, hended, rfl, ⟨_, rfl⟩, hW, hframe⟩
  jvm_step X.here [X.here.top, hx, hb, hdg, hmeth', hr, ret, narrow_b1]
  (try refine ⟨rfl, ?_⟩); (try refine ⟨rfl, ?_⟩)
  first | (intro acts; rw [hret _ acts rfl rfl rfl]) | rw [hret _ _ rfl rfl rfl]
  exact Steps.refl _
/-- what holds at the law's entry: the machine, the code, the tables' words (any of lw_tbl by 'hts w (by decide +kernel)'), the script of L ints xs at the cell b, what the Statement gives of the start (any of its parts by flat_of_before) -/
def lw_At (p : Program) (s : State) (m : MethodId) (meth : Method) (c : Code) (b L : Nat) (xs : Nat → Int32) : Prop :=
  p.tables.exec = Jvm.exec ∧ c.code = code ∧ meth.sig.returnType = ret ∧ c.maxLocals = 8 ∧ s.vm.findClass R_law = some m.cls ∧ (∀ w ∈ lw_tbl, w.before #[Value.ref b] s = true) ∧ va_X b L xs s s.heap ∧ b < s.heap.size ∧ meth.locks = false ∧ (Jvm.Cond.and given_1 narrow_1).before #[Value.ref b] s = true
theorem lw_toM {n0 : Nat} {G : va_G} {s : State} {H : Heap} {locs : List Loc} {A B : va_W} {o : Nat × va_E} (w : wn n0 G (A ++ (o :: B)) s H locs) : wn n0 G (B ++ (A ++ [o])) s H locs := by
  have e : A ++ (o :: B) = ([] ++ (A ++ [o])) ++ B := by simp
  have h1 : va_P G cl (([] ++ (A ++ [o])) ++ B) H := e ▸ w.1
  have h2 : va_D (al n0) (([] ++ (A ++ [o])) ++ B) := e ▸ w.2.1
  exact ⟨va_P.swap h1, va_D.swap h2, w.2.2⟩
theorem lw_toC {n0 : Nat} {G : va_G} {s : State} {H : Heap} {locs : List Loc} {A B : va_W} {o : Nat × va_E} (w : wn n0 G (B ++ (A ++ [o])) s H locs) : wn n0 G (A ++ (o :: B)) s H locs := by
  have e : A ++ (o :: B) = (A ++ [o]) ++ B := by simp
  have h1 : va_P G cl (([] ++ B) ++ (A ++ [o])) H := w.1
  have h2 : va_D (al n0) (([] ++ B) ++ (A ++ [o])) := w.2.1
  refine ⟨?_, ?_, w.2.2⟩
  · rw [e]
    exact va_P.swap (a := []) (b := B) (c := A ++ [o]) h1
  · rw [e]
    exact va_D.swap (a := []) (b := B) (c := A ++ [o]) h2
theorem kw_1007 : (Jvm.Cond.methodLink "LineBreakerLaw" (69 : Nat) ({ cls := "LineBreakerModel", name := "thrown", desc := "()I" } : Jvm.MethodName)) ∈ gw := gw_t (List.mem_of_getElem? (i := 1007) (by decide +kernel)) (by decide +kernel)
theorem kw_1010 : (Jvm.Cond.code ({ cls := "LineBreakerModel", name := "thrown", desc := "()I" } : Jvm.MethodName) prog_12_method_2_code (1 : Nat) (Option.some Jvm.ClassFile.FieldType.int)) ∈ gw := gw_t (List.mem_of_getElem? (i := 1010) (by decide +kernel)) (by decide +kernel)
theorem kw_1008 : (Jvm.Cond.instanceMethod ({ cls := "LineBreakerModel", name := "thrown", desc := "()I" } : Jvm.MethodName)) ∈ gw := gw_t (List.mem_of_getElem? (i := 1008) (by decide +kernel)) (by decide +kernel)
theorem kw_1009 : (Jvm.Cond.selects "LineBreakerModel" ({ cls := "LineBreakerModel", name := "thrown", desc := "()I" } : Jvm.MethodName) ({ cls := "LineBreakerModel", name := "thrown", desc := "()I" } : Jvm.MethodName)) ∈ gw := gw_t (List.mem_of_getElem? (i := 1009) (by decide +kernel)) (by decide +kernel)
theorem kw_1011 : (Jvm.Cond.methodLink "LineBreakerLaw" (68 : Nat) ({ cls := "LineBreakerModel", name := "box", desc := "(I)I" } : Jvm.MethodName)) ∈ gw := gw_t (List.mem_of_getElem? (i := 1011) (by decide +kernel)) (by decide +kernel)
theorem kw_1014 : (Jvm.Cond.code ({ cls := "LineBreakerModel", name := "box", desc := "(I)I" } : Jvm.MethodName) prog_12_method_7_code (2 : Nat) (Option.some Jvm.ClassFile.FieldType.int)) ∈ gw := gw_t (List.mem_of_getElem? (i := 1014) (by decide +kernel)) (by decide +kernel)
theorem kw_1012 : (Jvm.Cond.instanceMethod ({ cls := "LineBreakerModel", name := "box", desc := "(I)I" } : Jvm.MethodName)) ∈ gw := gw_t (List.mem_of_getElem? (i := 1012) (by decide +kernel)) (by decide +kernel)
theorem kw_1013 : (Jvm.Cond.selects "LineBreakerModel" ({ cls := "LineBreakerModel", name := "box", desc := "(I)I" } : Jvm.MethodName) ({ cls := "LineBreakerModel", name := "box", desc := "(I)I" } : Jvm.MethodName)) ∈ gw := gw_t (List.mem_of_getElem? (i := 1013) (by decide +kernel)) (by decide +kernel)
theorem kw_392 : (Jvm.Cond.methodLink "LineBreakerLaw" (63 : Nat) ({ cls := "LineBreakerLaw", name := "box", desc := "(LLineBreaker;I[J)I" } : Jvm.MethodName)) ∈ gw := gw_t (List.mem_of_getElem? (i := 392) (by decide +kernel)) (by decide +kernel)
theorem kw_0 : (Jvm.Cond.initialized "LineBreakerLaw") ∈ gw := gw_t (List.mem_of_getElem? (i := 0) (by decide +kernel)) (by decide +kernel)
theorem kw_394 : (Jvm.Cond.codeWith ({ cls := "LineBreakerLaw", name := "box", desc := "(LLineBreaker;I[J)I" } : Jvm.MethodName) method_3_code (4 : Nat) (Option.some Jvm.ClassFile.FieldType.int) [((0 : Nat), (9 : Nat), (12 : Nat), (13 : Nat)), ((0 : Nat), (9 : Nat), (15 : Nat), (15 : Nat))]) ∈ gw := gw_t (List.mem_of_getElem? (i := 394) (by decide +kernel)) (by decide +kernel)
theorem kw_393 : (Jvm.Cond.static ({ cls := "LineBreakerLaw", name := "box", desc := "(LLineBreaker;I[J)I" } : Jvm.MethodName)) ∈ gw := gw_t (List.mem_of_getElem? (i := 393) (by decide +kernel)) (by decide +kernel)
theorem kw_1024 : (Jvm.Cond.methodLink "LineBreakerLaw" (75 : Nat) ({ cls := "LineBreakerModel", name := "glue", desc := "(IIII)I" } : Jvm.MethodName)) ∈ gw := gw_t (List.mem_of_getElem? (i := 1024) (by decide +kernel)) (by decide +kernel)
theorem kw_1027 : (Jvm.Cond.code ({ cls := "LineBreakerModel", name := "glue", desc := "(IIII)I" } : Jvm.MethodName) prog_12_method_9_code (5 : Nat) (Option.some Jvm.ClassFile.FieldType.int)) ∈ gw := gw_t (List.mem_of_getElem? (i := 1027) (by decide +kernel)) (by decide +kernel)
theorem kw_1025 : (Jvm.Cond.instanceMethod ({ cls := "LineBreakerModel", name := "glue", desc := "(IIII)I" } : Jvm.MethodName)) ∈ gw := gw_t (List.mem_of_getElem? (i := 1025) (by decide +kernel)) (by decide +kernel)
theorem kw_1026 : (Jvm.Cond.selects "LineBreakerModel" ({ cls := "LineBreakerModel", name := "glue", desc := "(IIII)I" } : Jvm.MethodName) ({ cls := "LineBreakerModel", name := "glue", desc := "(IIII)I" } : Jvm.MethodName)) ∈ gw := gw_t (List.mem_of_getElem? (i := 1026) (by decide +kernel)) (by decide +kernel)
theorem kw_503 : (Jvm.Cond.methodLink "LineBreakerLaw" (72 : Nat) ({ cls := "LineBreakerLaw", name := "glue", desc := "(LLineBreaker;IIII[J)I" } : Jvm.MethodName)) ∈ gw := gw_t (List.mem_of_getElem? (i := 503) (by decide +kernel)) (by decide +kernel)
theorem kw_505 : (Jvm.Cond.codeWith ({ cls := "LineBreakerLaw", name := "glue", desc := "(LLineBreaker;IIII[J)I" } : Jvm.MethodName) method_4_code (7 : Nat) (Option.some Jvm.ClassFile.FieldType.int) [((0 : Nat), (14 : Nat), (17 : Nat), (13 : Nat)), ((0 : Nat), (14 : Nat), (21 : Nat), (21 : Nat)), ((0 : Nat), (14 : Nat), (25 : Nat), (15 : Nat))]) ∈ gw := gw_t (List.mem_of_getElem? (i := 505) (by decide +kernel)) (by decide +kernel)
theorem kw_504 : (Jvm.Cond.static ({ cls := "LineBreakerLaw", name := "glue", desc := "(LLineBreaker;IIII[J)I" } : Jvm.MethodName)) ∈ gw := gw_t (List.mem_of_getElem? (i := 504) (by decide +kernel)) (by decide +kernel)
theorem kw_1039 : (Jvm.Cond.methodLink "LineBreakerLaw" (79 : Nat) ({ cls := "LineBreakerModel", name := "kern", desc := "(IZ)I" } : Jvm.MethodName)) ∈ gw := gw_t (List.mem_of_getElem? (i := 1039) (by decide +kernel)) (by decide +kernel)
theorem kw_1042 : (Jvm.Cond.code ({ cls := "LineBreakerModel", name := "kern", desc := "(IZ)I" } : Jvm.MethodName) prog_12_method_10_code (3 : Nat) (Option.some Jvm.ClassFile.FieldType.int)) ∈ gw := gw_t (List.mem_of_getElem? (i := 1042) (by decide +kernel)) (by decide +kernel)
theorem kw_1040 : (Jvm.Cond.instanceMethod ({ cls := "LineBreakerModel", name := "kern", desc := "(IZ)I" } : Jvm.MethodName)) ∈ gw := gw_t (List.mem_of_getElem? (i := 1040) (by decide +kernel)) (by decide +kernel)
theorem kw_1041 : (Jvm.Cond.selects "LineBreakerModel" ({ cls := "LineBreakerModel", name := "kern", desc := "(IZ)I" } : Jvm.MethodName) ({ cls := "LineBreakerModel", name := "kern", desc := "(IZ)I" } : Jvm.MethodName)) ∈ gw := gw_t (List.mem_of_getElem? (i := 1041) (by decide +kernel)) (by decide +kernel)
theorem kw_548 : (Jvm.Cond.methodLink "LineBreakerLaw" (76 : Nat) ({ cls := "LineBreakerLaw", name := "kern", desc := "(LLineBreaker;IZ[J)I" } : Jvm.MethodName)) ∈ gw := gw_t (List.mem_of_getElem? (i := 548) (by decide +kernel)) (by decide +kernel)
theorem kw_550 : (Jvm.Cond.codeWith ({ cls := "LineBreakerLaw", name := "kern", desc := "(LLineBreaker;IZ[J)I" } : Jvm.MethodName) method_5_code (5 : Nat) (Option.some Jvm.ClassFile.FieldType.int) [((0 : Nat), (10 : Nat), (13 : Nat), (13 : Nat)), ((0 : Nat), (10 : Nat), (17 : Nat), (15 : Nat))]) ∈ gw := gw_t (List.mem_of_getElem? (i := 550) (by decide +kernel)) (by decide +kernel)
theorem kw_549 : (Jvm.Cond.static ({ cls := "LineBreakerLaw", name := "kern", desc := "(LLineBreaker;IZ[J)I" } : Jvm.MethodName)) ∈ gw := gw_t (List.mem_of_getElem? (i := 549) (by decide +kernel)) (by decide +kernel)
theorem kw_1043 : (Jvm.Cond.methodLink "LineBreakerLaw" (82 : Nat) ({ cls := "LineBreakerModel", name := "penalty", desc := "(I)I" } : Jvm.MethodName)) ∈ gw := gw_t (List.mem_of_getElem? (i := 1043) (by decide +kernel)) (by decide +kernel)
theorem kw_1046 : (Jvm.Cond.code ({ cls := "LineBreakerModel", name := "penalty", desc := "(I)I" } : Jvm.MethodName) prog_12_method_11_code (2 : Nat) (Option.some Jvm.ClassFile.FieldType.int)) ∈ gw := gw_t (List.mem_of_getElem? (i := 1046) (by decide +kernel)) (by decide +kernel)
theorem kw_1044 : (Jvm.Cond.instanceMethod ({ cls := "LineBreakerModel", name := "penalty", desc := "(I)I" } : Jvm.MethodName)) ∈ gw := gw_t (List.mem_of_getElem? (i := 1044) (by decide +kernel)) (by decide +kernel)
theorem kw_1045 : (Jvm.Cond.selects "LineBreakerModel" ({ cls := "LineBreakerModel", name := "penalty", desc := "(I)I" } : Jvm.MethodName) ({ cls := "LineBreakerModel", name := "penalty", desc := "(I)I" } : Jvm.MethodName)) ∈ gw := gw_t (List.mem_of_getElem? (i := 1045) (by decide +kernel)) (by decide +kernel)
theorem kw_555 : (Jvm.Cond.methodLink "LineBreakerLaw" (80 : Nat) ({ cls := "LineBreakerLaw", name := "penalty", desc := "(LLineBreaker;I[J)I" } : Jvm.MethodName)) ∈ gw := gw_t (List.mem_of_getElem? (i := 555) (by decide +kernel)) (by decide +kernel)
theorem kw_557 : (Jvm.Cond.codeWith ({ cls := "LineBreakerLaw", name := "penalty", desc := "(LLineBreaker;I[J)I" } : Jvm.MethodName) method_6_code (4 : Nat) (Option.some Jvm.ClassFile.FieldType.int) [((0 : Nat), (9 : Nat), (12 : Nat), (21 : Nat)), ((0 : Nat), (9 : Nat), (15 : Nat), (15 : Nat))]) ∈ gw := gw_t (List.mem_of_getElem? (i := 557) (by decide +kernel)) (by decide +kernel)
theorem kw_556 : (Jvm.Cond.static ({ cls := "LineBreakerLaw", name := "penalty", desc := "(LLineBreaker;I[J)I" } : Jvm.MethodName)) ∈ gw := gw_t (List.mem_of_getElem? (i := 556) (by decide +kernel)) (by decide +kernel)
theorem kw_1047 : (Jvm.Cond.methodLink "LineBreakerLaw" (86 : Nat) ({ cls := "LineBreakerModel", name := "hyphen", desc := "(III)I" } : Jvm.MethodName)) ∈ gw := gw_t (List.mem_of_getElem? (i := 1047) (by decide +kernel)) (by decide +kernel)
theorem kw_1050 : (Jvm.Cond.code ({ cls := "LineBreakerModel", name := "hyphen", desc := "(III)I" } : Jvm.MethodName) prog_12_method_13_code (4 : Nat) (Option.some Jvm.ClassFile.FieldType.int)) ∈ gw := gw_t (List.mem_of_getElem? (i := 1050) (by decide +kernel)) (by decide +kernel)
theorem kw_1048 : (Jvm.Cond.instanceMethod ({ cls := "LineBreakerModel", name := "hyphen", desc := "(III)I" } : Jvm.MethodName)) ∈ gw := gw_t (List.mem_of_getElem? (i := 1048) (by decide +kernel)) (by decide +kernel)
theorem kw_1049 : (Jvm.Cond.selects "LineBreakerModel" ({ cls := "LineBreakerModel", name := "hyphen", desc := "(III)I" } : Jvm.MethodName) ({ cls := "LineBreakerModel", name := "hyphen", desc := "(III)I" } : Jvm.MethodName)) ∈ gw := gw_t (List.mem_of_getElem? (i := 1049) (by decide +kernel)) (by decide +kernel)
theorem kw_570 : (Jvm.Cond.methodLink "LineBreakerLaw" (83 : Nat) ({ cls := "LineBreakerLaw", name := "hyphen", desc := "(LLineBreaker;III[J)I" } : Jvm.MethodName)) ∈ gw := gw_t (List.mem_of_getElem? (i := 570) (by decide +kernel)) (by decide +kernel)
theorem kw_572 : (Jvm.Cond.codeWith ({ cls := "LineBreakerLaw", name := "hyphen", desc := "(LLineBreaker;III[J)I" } : Jvm.MethodName) method_7_code (6 : Nat) (Option.some Jvm.ClassFile.FieldType.int) [((0 : Nat), (12 : Nat), (15 : Nat), (13 : Nat)), ((0 : Nat), (12 : Nat), (19 : Nat), (21 : Nat)), ((0 : Nat), (12 : Nat), (23 : Nat), (15 : Nat))]) ∈ gw := gw_t (List.mem_of_getElem? (i := 572) (by decide +kernel)) (by decide +kernel)
theorem kw_571 : (Jvm.Cond.static ({ cls := "LineBreakerLaw", name := "hyphen", desc := "(LLineBreaker;III[J)I" } : Jvm.MethodName)) ∈ gw := gw_t (List.mem_of_getElem? (i := 571) (by decide +kernel)) (by decide +kernel)
theorem kw_1055 : (Jvm.Cond.methodLink "LineBreakerLaw" (91 : Nat) ({ cls := "LineBreakerModel", name := "keep", desc := "(I)Z" } : Jvm.MethodName)) ∈ gw := gw_t (List.mem_of_getElem? (i := 1055) (by decide +kernel)) (by decide +kernel)
theorem kw_1058 : (Jvm.Cond.code ({ cls := "LineBreakerModel", name := "keep", desc := "(I)Z" } : Jvm.MethodName) prog_12_method_14_code (2 : Nat) (Option.some Jvm.ClassFile.FieldType.boolean)) ∈ gw := gw_t (List.mem_of_getElem? (i := 1058) (by decide +kernel)) (by decide +kernel)
theorem kw_1056 : (Jvm.Cond.instanceMethod ({ cls := "LineBreakerModel", name := "keep", desc := "(I)Z" } : Jvm.MethodName)) ∈ gw := gw_t (List.mem_of_getElem? (i := 1056) (by decide +kernel)) (by decide +kernel)
theorem kw_1057 : (Jvm.Cond.selects "LineBreakerModel" ({ cls := "LineBreakerModel", name := "keep", desc := "(I)Z" } : Jvm.MethodName) ({ cls := "LineBreakerModel", name := "keep", desc := "(I)Z" } : Jvm.MethodName)) ∈ gw := gw_t (List.mem_of_getElem? (i := 1057) (by decide +kernel)) (by decide +kernel)
theorem kw_372 : (Jvm.Cond.methodLink "LineBreakerLaw" (87 : Nat) ({ cls := "LineBreaker", name := "keep", desc := "(I)Z" } : Jvm.MethodName)) ∈ gw := gw_t (List.mem_of_getElem? (i := 372) (by decide +kernel)) (by decide +kernel)
theorem kw_375 : (Jvm.Cond.code ({ cls := "LineBreaker", name := "keep", desc := "(I)Z" } : Jvm.MethodName) prog_1_method_7_code (2 : Nat) (Option.some Jvm.ClassFile.FieldType.boolean)) ∈ gw := gw_t (List.mem_of_getElem? (i := 375) (by decide +kernel)) (by decide +kernel)
theorem kw_373 : (Jvm.Cond.instanceMethod ({ cls := "LineBreaker", name := "keep", desc := "(I)Z" } : Jvm.MethodName)) ∈ gw := gw_t (List.mem_of_getElem? (i := 373) (by decide +kernel)) (by decide +kernel)
theorem kw_374 : (Jvm.Cond.selects "LineBreaker" ({ cls := "LineBreaker", name := "keep", desc := "(I)Z" } : Jvm.MethodName) ({ cls := "LineBreaker", name := "keep", desc := "(I)Z" } : Jvm.MethodName)) ∈ gw := gw_t (List.mem_of_getElem? (i := 374) (by decide +kernel)) (by decide +kernel)
theorem kw_1059 : (Jvm.Cond.methodLink "LineBreakerLaw" (95 : Nat) ({ cls := "LineBreakerModel", name := "items", desc := "()I" } : Jvm.MethodName)) ∈ gw := gw_t (List.mem_of_getElem? (i := 1059) (by decide +kernel)) (by decide +kernel)
theorem kw_1062 : (Jvm.Cond.code ({ cls := "LineBreakerModel", name := "items", desc := "()I" } : Jvm.MethodName) prog_12_method_15_code (1 : Nat) (Option.some Jvm.ClassFile.FieldType.int)) ∈ gw := gw_t (List.mem_of_getElem? (i := 1062) (by decide +kernel)) (by decide +kernel)
theorem kw_1060 : (Jvm.Cond.instanceMethod ({ cls := "LineBreakerModel", name := "items", desc := "()I" } : Jvm.MethodName)) ∈ gw := gw_t (List.mem_of_getElem? (i := 1060) (by decide +kernel)) (by decide +kernel)
theorem kw_1061 : (Jvm.Cond.selects "LineBreakerModel" ({ cls := "LineBreakerModel", name := "items", desc := "()I" } : Jvm.MethodName) ({ cls := "LineBreakerModel", name := "items", desc := "()I" } : Jvm.MethodName)) ∈ gw := gw_t (List.mem_of_getElem? (i := 1061) (by decide +kernel)) (by decide +kernel)
theorem kw_380 : (Jvm.Cond.methodLink "LineBreakerLaw" (92 : Nat) ({ cls := "LineBreaker", name := "items", desc := "()I" } : Jvm.MethodName)) ∈ gw := gw_t (List.mem_of_getElem? (i := 380) (by decide +kernel)) (by decide +kernel)
theorem kw_383 : (Jvm.Cond.code ({ cls := "LineBreaker", name := "items", desc := "()I" } : Jvm.MethodName) prog_1_method_8_code (1 : Nat) (Option.some Jvm.ClassFile.FieldType.int)) ∈ gw := gw_t (List.mem_of_getElem? (i := 383) (by decide +kernel)) (by decide +kernel)
theorem kw_381 : (Jvm.Cond.instanceMethod ({ cls := "LineBreaker", name := "items", desc := "()I" } : Jvm.MethodName)) ∈ gw := gw_t (List.mem_of_getElem? (i := 381) (by decide +kernel)) (by decide +kernel)
theorem kw_382 : (Jvm.Cond.selects "LineBreaker" ({ cls := "LineBreaker", name := "items", desc := "()I" } : Jvm.MethodName) ({ cls := "LineBreaker", name := "items", desc := "()I" } : Jvm.MethodName)) ∈ gw := gw_t (List.mem_of_getElem? (i := 382) (by decide +kernel)) (by decide +kernel)
theorem kw_1063 : (Jvm.Cond.methodLink "LineBreakerLaw" (99 : Nat) ({ cls := "LineBreakerModel", name := "set", desc := "(II)V" } : Jvm.MethodName)) ∈ gw := gw_t (List.mem_of_getElem? (i := 1063) (by decide +kernel)) (by decide +kernel)
theorem kw_1066 : (Jvm.Cond.code ({ cls := "LineBreakerModel", name := "set", desc := "(II)V" } : Jvm.MethodName) prog_12_method_18_code (3 : Nat) (Option.none : Option Jvm.ClassFile.FieldType)) ∈ gw := gw_t (List.mem_of_getElem? (i := 1066) (by decide +kernel)) (by decide +kernel)
theorem kw_1064 : (Jvm.Cond.instanceMethod ({ cls := "LineBreakerModel", name := "set", desc := "(II)V" } : Jvm.MethodName)) ∈ gw := gw_t (List.mem_of_getElem? (i := 1064) (by decide +kernel)) (by decide +kernel)
theorem kw_1065 : (Jvm.Cond.selects "LineBreakerModel" ({ cls := "LineBreakerModel", name := "set", desc := "(II)V" } : Jvm.MethodName) ({ cls := "LineBreakerModel", name := "set", desc := "(II)V" } : Jvm.MethodName)) ∈ gw := gw_t (List.mem_of_getElem? (i := 1065) (by decide +kernel)) (by decide +kernel)
theorem kw_587 : (Jvm.Cond.methodLink "LineBreakerLaw" (96 : Nat) ({ cls := "LineBreakerLaw", name := "set", desc := "(LLineBreaker;II)I" } : Jvm.MethodName)) ∈ gw := gw_t (List.mem_of_getElem? (i := 587) (by decide +kernel)) (by decide +kernel)
theorem kw_589 : (Jvm.Cond.codeWith ({ cls := "LineBreakerLaw", name := "set", desc := "(LLineBreaker;II)I" } : Jvm.MethodName) method_8_code (4 : Nat) (Option.some Jvm.ClassFile.FieldType.int) [((0 : Nat), (6 : Nat), (9 : Nat), (13 : Nat))]) ∈ gw := gw_t (List.mem_of_getElem? (i := 589) (by decide +kernel)) (by decide +kernel)
theorem kw_588 : (Jvm.Cond.static ({ cls := "LineBreakerLaw", name := "set", desc := "(LLineBreaker;II)I" } : Jvm.MethodName)) ∈ gw := gw_t (List.mem_of_getElem? (i := 588) (by decide +kernel)) (by decide +kernel)
theorem kw_1075 : (Jvm.Cond.methodLink "LineBreakerLaw" (102 : Nat) ({ cls := "LineBreakerModel", name := "wide", desc := "(II)V" } : Jvm.MethodName)) ∈ gw := gw_t (List.mem_of_getElem? (i := 1075) (by decide +kernel)) (by decide +kernel)
theorem kw_1078 : (Jvm.Cond.code ({ cls := "LineBreakerModel", name := "wide", desc := "(II)V" } : Jvm.MethodName) prog_12_method_19_code (4 : Nat) (Option.none : Option Jvm.ClassFile.FieldType)) ∈ gw := gw_t (List.mem_of_getElem? (i := 1078) (by decide +kernel)) (by decide +kernel)
theorem kw_1076 : (Jvm.Cond.instanceMethod ({ cls := "LineBreakerModel", name := "wide", desc := "(II)V" } : Jvm.MethodName)) ∈ gw := gw_t (List.mem_of_getElem? (i := 1076) (by decide +kernel)) (by decide +kernel)
theorem kw_1077 : (Jvm.Cond.selects "LineBreakerModel" ({ cls := "LineBreakerModel", name := "wide", desc := "(II)V" } : Jvm.MethodName) ({ cls := "LineBreakerModel", name := "wide", desc := "(II)V" } : Jvm.MethodName)) ∈ gw := gw_t (List.mem_of_getElem? (i := 1077) (by decide +kernel)) (by decide +kernel)
theorem kw_600 : (Jvm.Cond.methodLink "LineBreakerLaw" (100 : Nat) ({ cls := "LineBreakerLaw", name := "wide", desc := "(LLineBreaker;II)I" } : Jvm.MethodName)) ∈ gw := gw_t (List.mem_of_getElem? (i := 600) (by decide +kernel)) (by decide +kernel)
theorem kw_602 : (Jvm.Cond.codeWith ({ cls := "LineBreakerLaw", name := "wide", desc := "(LLineBreaker;II)I" } : Jvm.MethodName) method_9_code (4 : Nat) (Option.some Jvm.ClassFile.FieldType.int) [((0 : Nat), (6 : Nat), (9 : Nat), (13 : Nat))]) ∈ gw := gw_t (List.mem_of_getElem? (i := 602) (by decide +kernel)) (by decide +kernel)
theorem kw_601 : (Jvm.Cond.static ({ cls := "LineBreakerLaw", name := "wide", desc := "(LLineBreaker;II)I" } : Jvm.MethodName)) ∈ gw := gw_t (List.mem_of_getElem? (i := 601) (by decide +kernel)) (by decide +kernel)
theorem kw_1079 : (Jvm.Cond.methodLink "LineBreakerLaw" (106 : Nat) ({ cls := "LineBreakerModel", name := "around", desc := "(IIIII)V" } : Jvm.MethodName)) ∈ gw := gw_t (List.mem_of_getElem? (i := 1079) (by decide +kernel)) (by decide +kernel)
theorem kw_1082 : (Jvm.Cond.code ({ cls := "LineBreakerModel", name := "around", desc := "(IIIII)V" } : Jvm.MethodName) prog_12_method_20_code (6 : Nat) (Option.none : Option Jvm.ClassFile.FieldType)) ∈ gw := gw_t (List.mem_of_getElem? (i := 1082) (by decide +kernel)) (by decide +kernel)
theorem kw_1080 : (Jvm.Cond.instanceMethod ({ cls := "LineBreakerModel", name := "around", desc := "(IIIII)V" } : Jvm.MethodName)) ∈ gw := gw_t (List.mem_of_getElem? (i := 1080) (by decide +kernel)) (by decide +kernel)
theorem kw_1081 : (Jvm.Cond.selects "LineBreakerModel" ({ cls := "LineBreakerModel", name := "around", desc := "(IIIII)V" } : Jvm.MethodName) ({ cls := "LineBreakerModel", name := "around", desc := "(IIIII)V" } : Jvm.MethodName)) ∈ gw := gw_t (List.mem_of_getElem? (i := 1081) (by decide +kernel)) (by decide +kernel)
theorem kw_608 : (Jvm.Cond.methodLink "LineBreakerLaw" (103 : Nat) ({ cls := "LineBreakerLaw", name := "around", desc := "(LLineBreaker;IIIII)I" } : Jvm.MethodName)) ∈ gw := gw_t (List.mem_of_getElem? (i := 608) (by decide +kernel)) (by decide +kernel)
theorem kw_610 : (Jvm.Cond.codeWith ({ cls := "LineBreakerLaw", name := "around", desc := "(LLineBreaker;IIIII)I" } : Jvm.MethodName) method_10_code (7 : Nat) (Option.some Jvm.ClassFile.FieldType.int) [((0 : Nat), (11 : Nat), (14 : Nat), (13 : Nat))]) ∈ gw := gw_t (List.mem_of_getElem? (i := 610) (by decide +kernel)) (by decide +kernel)
theorem kw_609 : (Jvm.Cond.static ({ cls := "LineBreakerLaw", name := "around", desc := "(LLineBreaker;IIIII)I" } : Jvm.MethodName)) ∈ gw := gw_t (List.mem_of_getElem? (i := 609) (by decide +kernel)) (by decide +kernel)
theorem kw_1083 : (Jvm.Cond.methodLink "LineBreakerLaw" (110 : Nat) ({ cls := "LineBreakerModel", name := "breakUp", desc := "()I" } : Jvm.MethodName)) ∈ gw := gw_t (List.mem_of_getElem? (i := 1083) (by decide +kernel)) (by decide +kernel)
theorem kw_1086 : (Jvm.Cond.code ({ cls := "LineBreakerModel", name := "breakUp", desc := "()I" } : Jvm.MethodName) prog_12_method_42_code (14 : Nat) (Option.some Jvm.ClassFile.FieldType.int)) ∈ gw := gw_t (List.mem_of_getElem? (i := 1086) (by decide +kernel)) (by decide +kernel)
theorem kw_1084 : (Jvm.Cond.instanceMethod ({ cls := "LineBreakerModel", name := "breakUp", desc := "()I" } : Jvm.MethodName)) ∈ gw := gw_t (List.mem_of_getElem? (i := 1084) (by decide +kernel)) (by decide +kernel)
theorem kw_1085 : (Jvm.Cond.selects "LineBreakerModel" ({ cls := "LineBreakerModel", name := "breakUp", desc := "()I" } : Jvm.MethodName) ({ cls := "LineBreakerModel", name := "breakUp", desc := "()I" } : Jvm.MethodName)) ∈ gw := gw_t (List.mem_of_getElem? (i := 1085) (by decide +kernel)) (by decide +kernel)
theorem kw_620 : (Jvm.Cond.methodLink "LineBreakerLaw" (107 : Nat) ({ cls := "LineBreakerLaw", name := "breakUp", desc := "(LLineBreaker;[J)I" } : Jvm.MethodName)) ∈ gw := gw_t (List.mem_of_getElem? (i := 620) (by decide +kernel)) (by decide +kernel)
theorem kw_622 : (Jvm.Cond.codeWith ({ cls := "LineBreakerLaw", name := "breakUp", desc := "(LLineBreaker;[J)I" } : Jvm.MethodName) method_11_code (3 : Nat) (Option.some Jvm.ClassFile.FieldType.int) [((0 : Nat), (8 : Nat), (11 : Nat), (21 : Nat)), ((0 : Nat), (8 : Nat), (14 : Nat), (15 : Nat))]) ∈ gw := gw_t (List.mem_of_getElem? (i := 622) (by decide +kernel)) (by decide +kernel)
theorem kw_621 : (Jvm.Cond.static ({ cls := "LineBreakerLaw", name := "breakUp", desc := "(LLineBreaker;[J)I" } : Jvm.MethodName)) ∈ gw := gw_t (List.mem_of_getElem? (i := 621) (by decide +kernel)) (by decide +kernel)
theorem kw_1177 : (Jvm.Cond.methodLink "LineBreakerLaw" (114 : Nat) ({ cls := "LineBreakerModel", name := "pass", desc := "()I" } : Jvm.MethodName)) ∈ gw := gw_t (List.mem_of_getElem? (i := 1177) (by decide +kernel)) (by decide +kernel)
theorem kw_1180 : (Jvm.Cond.code ({ cls := "LineBreakerModel", name := "pass", desc := "()I" } : Jvm.MethodName) prog_12_method_43_code (1 : Nat) (Option.some Jvm.ClassFile.FieldType.int)) ∈ gw := gw_t (List.mem_of_getElem? (i := 1180) (by decide +kernel)) (by decide +kernel)
theorem kw_1178 : (Jvm.Cond.instanceMethod ({ cls := "LineBreakerModel", name := "pass", desc := "()I" } : Jvm.MethodName)) ∈ gw := gw_t (List.mem_of_getElem? (i := 1178) (by decide +kernel)) (by decide +kernel)
theorem kw_1179 : (Jvm.Cond.selects "LineBreakerModel" ({ cls := "LineBreakerModel", name := "pass", desc := "()I" } : Jvm.MethodName) ({ cls := "LineBreakerModel", name := "pass", desc := "()I" } : Jvm.MethodName)) ∈ gw := gw_t (List.mem_of_getElem? (i := 1179) (by decide +kernel)) (by decide +kernel)
theorem kw_384 : (Jvm.Cond.methodLink "LineBreakerLaw" (111 : Nat) ({ cls := "LineBreaker", name := "pass", desc := "()I" } : Jvm.MethodName)) ∈ gw := gw_t (List.mem_of_getElem? (i := 384) (by decide +kernel)) (by decide +kernel)
theorem kw_387 : (Jvm.Cond.code ({ cls := "LineBreaker", name := "pass", desc := "()I" } : Jvm.MethodName) prog_1_method_13_code (1 : Nat) (Option.some Jvm.ClassFile.FieldType.int)) ∈ gw := gw_t (List.mem_of_getElem? (i := 387) (by decide +kernel)) (by decide +kernel)
theorem kw_385 : (Jvm.Cond.instanceMethod ({ cls := "LineBreaker", name := "pass", desc := "()I" } : Jvm.MethodName)) ∈ gw := gw_t (List.mem_of_getElem? (i := 385) (by decide +kernel)) (by decide +kernel)
theorem kw_386 : (Jvm.Cond.selects "LineBreaker" ({ cls := "LineBreaker", name := "pass", desc := "()I" } : Jvm.MethodName) ({ cls := "LineBreaker", name := "pass", desc := "()I" } : Jvm.MethodName)) ∈ gw := gw_t (List.mem_of_getElem? (i := 386) (by decide +kernel)) (by decide +kernel)
theorem kw_1181 : (Jvm.Cond.methodLink "LineBreakerLaw" (118 : Nat) ({ cls := "LineBreakerModel", name := "nodes", desc := "()I" } : Jvm.MethodName)) ∈ gw := gw_t (List.mem_of_getElem? (i := 1181) (by decide +kernel)) (by decide +kernel)
theorem kw_1184 : (Jvm.Cond.code ({ cls := "LineBreakerModel", name := "nodes", desc := "()I" } : Jvm.MethodName) prog_12_method_44_code (1 : Nat) (Option.some Jvm.ClassFile.FieldType.int)) ∈ gw := gw_t (List.mem_of_getElem? (i := 1184) (by decide +kernel)) (by decide +kernel)
theorem kw_1182 : (Jvm.Cond.instanceMethod ({ cls := "LineBreakerModel", name := "nodes", desc := "()I" } : Jvm.MethodName)) ∈ gw := gw_t (List.mem_of_getElem? (i := 1182) (by decide +kernel)) (by decide +kernel)
theorem kw_1183 : (Jvm.Cond.selects "LineBreakerModel" ({ cls := "LineBreakerModel", name := "nodes", desc := "()I" } : Jvm.MethodName) ({ cls := "LineBreakerModel", name := "nodes", desc := "()I" } : Jvm.MethodName)) ∈ gw := gw_t (List.mem_of_getElem? (i := 1183) (by decide +kernel)) (by decide +kernel)
theorem kw_388 : (Jvm.Cond.methodLink "LineBreakerLaw" (115 : Nat) ({ cls := "LineBreaker", name := "nodes", desc := "()I" } : Jvm.MethodName)) ∈ gw := gw_t (List.mem_of_getElem? (i := 388) (by decide +kernel)) (by decide +kernel)
theorem kw_391 : (Jvm.Cond.code ({ cls := "LineBreaker", name := "nodes", desc := "()I" } : Jvm.MethodName) prog_1_method_14_code (1 : Nat) (Option.some Jvm.ClassFile.FieldType.int)) ∈ gw := gw_t (List.mem_of_getElem? (i := 391) (by decide +kernel)) (by decide +kernel)
theorem kw_389 : (Jvm.Cond.instanceMethod ({ cls := "LineBreaker", name := "nodes", desc := "()I" } : Jvm.MethodName)) ∈ gw := gw_t (List.mem_of_getElem? (i := 389) (by decide +kernel)) (by decide +kernel)
theorem kw_390 : (Jvm.Cond.selects "LineBreaker" ({ cls := "LineBreaker", name := "nodes", desc := "()I" } : Jvm.MethodName) ({ cls := "LineBreaker", name := "nodes", desc := "()I" } : Jvm.MethodName)) ∈ gw := gw_t (List.mem_of_getElem? (i := 390) (by decide +kernel)) (by decide +kernel)
theorem kw_1185 : (Jvm.Cond.methodLink "LineBreakerLaw" (122 : Nat) ({ cls := "LineBreakerModel", name := "line", desc := "(II)I" } : Jvm.MethodName)) ∈ gw := gw_t (List.mem_of_getElem? (i := 1185) (by decide +kernel)) (by decide +kernel)
theorem kw_1188 : (Jvm.Cond.code ({ cls := "LineBreakerModel", name := "line", desc := "(II)I" } : Jvm.MethodName) prog_12_method_46_code (3 : Nat) (Option.some Jvm.ClassFile.FieldType.int)) ∈ gw := gw_t (List.mem_of_getElem? (i := 1188) (by decide +kernel)) (by decide +kernel)
theorem kw_1186 : (Jvm.Cond.instanceMethod ({ cls := "LineBreakerModel", name := "line", desc := "(II)I" } : Jvm.MethodName)) ∈ gw := gw_t (List.mem_of_getElem? (i := 1186) (by decide +kernel)) (by decide +kernel)
theorem kw_1187 : (Jvm.Cond.selects "LineBreakerModel" ({ cls := "LineBreakerModel", name := "line", desc := "(II)I" } : Jvm.MethodName) ({ cls := "LineBreakerModel", name := "line", desc := "(II)I" } : Jvm.MethodName)) ∈ gw := gw_t (List.mem_of_getElem? (i := 1187) (by decide +kernel)) (by decide +kernel)
theorem kw_834 : (Jvm.Cond.methodLink "LineBreakerLaw" (119 : Nat) ({ cls := "LineBreakerLaw", name := "line", desc := "(LLineBreaker;II[J)I" } : Jvm.MethodName)) ∈ gw := gw_t (List.mem_of_getElem? (i := 834) (by decide +kernel)) (by decide +kernel)
theorem kw_836 : (Jvm.Cond.codeWith ({ cls := "LineBreakerLaw", name := "line", desc := "(LLineBreaker;II[J)I" } : Jvm.MethodName) method_12_code (5 : Nat) (Option.some Jvm.ClassFile.FieldType.int) [((0 : Nat), (10 : Nat), (13 : Nat), (53 : Nat))]) ∈ gw := gw_t (List.mem_of_getElem? (i := 836) (by decide +kernel)) (by decide +kernel)
theorem kw_835 : (Jvm.Cond.static ({ cls := "LineBreakerLaw", name := "line", desc := "(LLineBreaker;II[J)I" } : Jvm.MethodName)) ∈ gw := gw_t (List.mem_of_getElem? (i := 835) (by decide +kernel)) (by decide +kernel)
theorem kw_1193 : (Jvm.Cond.methodLink "LineBreakerLaw" (125 : Nat) ({ cls := "LineBreakerModel", name := "total", desc := "(I)J" } : Jvm.MethodName)) ∈ gw := gw_t (List.mem_of_getElem? (i := 1193) (by decide +kernel)) (by decide +kernel)
theorem kw_1196 : (Jvm.Cond.code ({ cls := "LineBreakerModel", name := "total", desc := "(I)J" } : Jvm.MethodName) prog_12_method_47_code (2 : Nat) (Option.some Jvm.ClassFile.FieldType.long)) ∈ gw := gw_t (List.mem_of_getElem? (i := 1196) (by decide +kernel)) (by decide +kernel)
theorem kw_1194 : (Jvm.Cond.instanceMethod ({ cls := "LineBreakerModel", name := "total", desc := "(I)J" } : Jvm.MethodName)) ∈ gw := gw_t (List.mem_of_getElem? (i := 1194) (by decide +kernel)) (by decide +kernel)
theorem kw_1195 : (Jvm.Cond.selects "LineBreakerModel" ({ cls := "LineBreakerModel", name := "total", desc := "(I)J" } : Jvm.MethodName) ({ cls := "LineBreakerModel", name := "total", desc := "(I)J" } : Jvm.MethodName)) ∈ gw := gw_t (List.mem_of_getElem? (i := 1195) (by decide +kernel)) (by decide +kernel)
theorem kw_863 : (Jvm.Cond.methodLink "LineBreakerLaw" (123 : Nat) ({ cls := "LineBreakerLaw", name := "total", desc := "(LLineBreaker;I[J)I" } : Jvm.MethodName)) ∈ gw := gw_t (List.mem_of_getElem? (i := 863) (by decide +kernel)) (by decide +kernel)
theorem kw_865 : (Jvm.Cond.codeWith ({ cls := "LineBreakerLaw", name := "total", desc := "(LLineBreaker;I[J)I" } : Jvm.MethodName) method_13_code (4 : Nat) (Option.some Jvm.ClassFile.FieldType.int) [((0 : Nat), (8 : Nat), (11 : Nat), (53 : Nat))]) ∈ gw := gw_t (List.mem_of_getElem? (i := 865) (by decide +kernel)) (by decide +kernel)
theorem kw_864 : (Jvm.Cond.static ({ cls := "LineBreakerLaw", name := "total", desc := "(LLineBreaker;I[J)I" } : Jvm.MethodName)) ∈ gw := gw_t (List.mem_of_getElem? (i := 864) (by decide +kernel)) (by decide +kernel)
theorem d_law_116 : decode code 116 = .ok (.aload_n 1, 1) := by decide +kernel
theorem d_law_117 : decode code 117 = .ok (.aload_n 0, 1) := by decide +kernel
theorem d_law_118 : decode code 118 = .ok (.iload 4, 2) := by decide +kernel
theorem d_law_123 : decode code 123 = .ok (.aload_n 3, 1) := by decide +kernel
theorem d_law_127 : decode code 127 = .ok (.istore 5, 2) := by decide +kernel
theorem d_law_129 : decode code 129 = .ok (.aload_n 2, 1) := by decide +kernel
theorem d_law_130 : decode code 130 = .ok (.aload_n 0, 1) := by decide +kernel
theorem d_law_131 : decode code 131 = .ok (.iload 4, 2) := by decide +kernel
theorem d_law_139 : decode code 139 = .ok (.istore 6, 2) := by decide +kernel
theorem d_law_141 : decode code 141 = .ok (.aload_n 2, 1) := by decide +kernel
theorem d_law_145 : decode code 145 = .ok (.iload 5, 2) := by decide +kernel
theorem d_law_152 : decode code 152 = .ok (.iload 5, 2) := by decide +kernel
theorem d_law_898 : decode code 898 = .ok (.goto (-875), 3) := by decide +kernel
theorem d_law_895 : decode code 895 = .ok (.iinc 4 6, 3) := by decide +kernel
theorem d_law_169 : decode code 169 = .ok (.goto 726, 3) := by decide +kernel
theorem d_law_157 : decode code 157 = .ok (.aload_n 3, 1) := by decide +kernel
theorem d_law_160 : decode code 160 = .ok (.iload 6, 2) := by decide +kernel
theorem d_law_167 : decode code 167 = .ok (.iconst 0, 1) := by decide +kernel
theorem d_law_164 : decode code 164 = .ok (.ifCond .eq 5, 3) := by decide +kernel
theorem d_law_163 : decode code 163 = .ok (.lcmp, 1) := by decide +kernel
theorem d_law_162 : decode code 162 = .ok (.i2l, 1) := by decide +kernel
theorem d_law_159 : decode code 159 = .ok (.laload, 1) := by decide +kernel
theorem d_law_158 : decode code 158 = .ok (.iconst 0, 1) := by decide +kernel
theorem d_law_154 : decode code 154 = .ok (.ifCond .ne 15, 3) := by decide +kernel
theorem d_law_150 : decode code 150 = .ok (.iconst 0, 1) := by decide +kernel
theorem d_law_147 : decode code 147 = .ok (.if_icmp .eq 5, 3) := by decide +kernel
theorem d_law_142 : decode code 142 = .ok (.invokevirtual 69, 3) := by decide +kernel
theorem d_law_136 : decode code 136 = .ok (.invokevirtual 68, 3) := by decide +kernel
theorem d_law_135 : decode code 135 = .ok (.iaload, 1) := by decide +kernel
theorem d_law_134 : decode code 134 = .ok (.iadd, 1) := by decide +kernel
theorem d_law_133 : decode code 133 = .ok (.iconst 1, 1) := by decide +kernel
theorem d_law_124 : decode code 124 = .ok (.invokestatic 63, 3) := by decide +kernel
theorem d_law_122 : decode code 122 = .ok (.iaload, 1) := by decide +kernel
theorem d_law_121 : decode code 121 = .ok (.iadd, 1) := by decide +kernel
theorem d_law_120 : decode code 120 = .ok (.iconst 1, 1) := by decide +kernel
theorem d_law_172 : decode code 172 = .ok (.aload_n 1, 1) := by decide +kernel
theorem d_law_173 : decode code 173 = .ok (.aload_n 0, 1) := by decide +kernel
theorem d_law_174 : decode code 174 = .ok (.iload 4, 2) := by decide +kernel
theorem d_law_179 : decode code 179 = .ok (.aload_n 0, 1) := by decide +kernel
theorem d_law_180 : decode code 180 = .ok (.iload 4, 2) := by decide +kernel
theorem d_law_185 : decode code 185 = .ok (.aload_n 0, 1) := by decide +kernel
theorem d_law_186 : decode code 186 = .ok (.iload 4, 2) := by decide +kernel
theorem d_law_191 : decode code 191 = .ok (.aload_n 0, 1) := by decide +kernel
theorem d_law_192 : decode code 192 = .ok (.iload 4, 2) := by decide +kernel
theorem d_law_197 : decode code 197 = .ok (.aload_n 3, 1) := by decide +kernel
theorem d_law_201 : decode code 201 = .ok (.istore 5, 2) := by decide +kernel
theorem d_law_203 : decode code 203 = .ok (.aload_n 2, 1) := by decide +kernel
theorem d_law_204 : decode code 204 = .ok (.aload_n 0, 1) := by decide +kernel
theorem d_law_205 : decode code 205 = .ok (.iload 4, 2) := by decide +kernel
theorem d_law_210 : decode code 210 = .ok (.aload_n 0, 1) := by decide +kernel
theorem d_law_211 : decode code 211 = .ok (.iload 4, 2) := by decide +kernel
theorem d_law_216 : decode code 216 = .ok (.aload_n 0, 1) := by decide +kernel
theorem d_law_217 : decode code 217 = .ok (.iload 4, 2) := by decide +kernel
theorem d_law_222 : decode code 222 = .ok (.aload_n 0, 1) := by decide +kernel
theorem d_law_223 : decode code 223 = .ok (.iload 4, 2) := by decide +kernel
theorem d_law_231 : decode code 231 = .ok (.istore 6, 2) := by decide +kernel
theorem d_law_233 : decode code 233 = .ok (.aload_n 2, 1) := by decide +kernel
theorem d_law_237 : decode code 237 = .ok (.iload 5, 2) := by decide +kernel
theorem d_law_244 : decode code 244 = .ok (.iload 5, 2) := by decide +kernel
theorem d_law_261 : decode code 261 = .ok (.goto 634, 3) := by decide +kernel
theorem d_law_249 : decode code 249 = .ok (.aload_n 3, 1) := by decide +kernel
theorem d_law_252 : decode code 252 = .ok (.iload 6, 2) := by decide +kernel
theorem d_law_259 : decode code 259 = .ok (.iconst 0, 1) := by decide +kernel
theorem d_law_256 : decode code 256 = .ok (.ifCond .eq 5, 3) := by decide +kernel
theorem d_law_255 : decode code 255 = .ok (.lcmp, 1) := by decide +kernel
theorem d_law_254 : decode code 254 = .ok (.i2l, 1) := by decide +kernel
theorem d_law_251 : decode code 251 = .ok (.laload, 1) := by decide +kernel
theorem d_law_250 : decode code 250 = .ok (.iconst 0, 1) := by decide +kernel
theorem d_law_246 : decode code 246 = .ok (.ifCond .ne 15, 3) := by decide +kernel
theorem d_law_242 : decode code 242 = .ok (.iconst 0, 1) := by decide +kernel
theorem d_law_239 : decode code 239 = .ok (.if_icmp .eq 5, 3) := by decide +kernel
theorem d_law_234 : decode code 234 = .ok (.invokevirtual 69, 3) := by decide +kernel
theorem d_law_228 : decode code 228 = .ok (.invokevirtual 75, 3) := by decide +kernel
theorem d_law_227 : decode code 227 = .ok (.iaload, 1) := by decide +kernel
theorem d_law_226 : decode code 226 = .ok (.iadd, 1) := by decide +kernel
theorem d_law_225 : decode code 225 = .ok (.iconst 4, 1) := by decide +kernel
theorem d_law_221 : decode code 221 = .ok (.iaload, 1) := by decide +kernel
theorem d_law_220 : decode code 220 = .ok (.iadd, 1) := by decide +kernel
theorem d_law_219 : decode code 219 = .ok (.iconst 3, 1) := by decide +kernel
theorem d_law_215 : decode code 215 = .ok (.iaload, 1) := by decide +kernel
theorem d_law_214 : decode code 214 = .ok (.iadd, 1) := by decide +kernel
theorem d_law_213 : decode code 213 = .ok (.iconst 2, 1) := by decide +kernel
theorem d_law_209 : decode code 209 = .ok (.iaload, 1) := by decide +kernel
theorem d_law_208 : decode code 208 = .ok (.iadd, 1) := by decide +kernel
theorem d_law_207 : decode code 207 = .ok (.iconst 1, 1) := by decide +kernel
theorem d_law_198 : decode code 198 = .ok (.invokestatic 72, 3) := by decide +kernel
theorem d_law_196 : decode code 196 = .ok (.iaload, 1) := by decide +kernel
theorem d_law_195 : decode code 195 = .ok (.iadd, 1) := by decide +kernel
theorem d_law_194 : decode code 194 = .ok (.iconst 4, 1) := by decide +kernel
theorem d_law_190 : decode code 190 = .ok (.iaload, 1) := by decide +kernel
theorem d_law_189 : decode code 189 = .ok (.iadd, 1) := by decide +kernel
theorem d_law_188 : decode code 188 = .ok (.iconst 3, 1) := by decide +kernel
theorem d_law_184 : decode code 184 = .ok (.iaload, 1) := by decide +kernel
theorem d_law_183 : decode code 183 = .ok (.iadd, 1) := by decide +kernel
theorem d_law_182 : decode code 182 = .ok (.iconst 2, 1) := by decide +kernel
theorem d_law_178 : decode code 178 = .ok (.iaload, 1) := by decide +kernel
theorem d_law_177 : decode code 177 = .ok (.iadd, 1) := by decide +kernel
theorem d_law_176 : decode code 176 = .ok (.iconst 1, 1) := by decide +kernel
theorem d_law_264 : decode code 264 = .ok (.aload_n 1, 1) := by decide +kernel
theorem d_law_265 : decode code 265 = .ok (.aload_n 0, 1) := by decide +kernel
theorem d_law_266 : decode code 266 = .ok (.iload 4, 2) := by decide +kernel
theorem d_law_271 : decode code 271 = .ok (.aload_n 0, 1) := by decide +kernel
theorem d_law_272 : decode code 272 = .ok (.iload 4, 2) := by decide +kernel
theorem d_law_285 : decode code 285 = .ok (.aload_n 3, 1) := by decide +kernel
theorem d_law_289 : decode code 289 = .ok (.istore 5, 2) := by decide +kernel
theorem d_law_291 : decode code 291 = .ok (.aload_n 2, 1) := by decide +kernel
theorem d_law_292 : decode code 292 = .ok (.aload_n 0, 1) := by decide +kernel
theorem d_law_293 : decode code 293 = .ok (.iload 4, 2) := by decide +kernel
theorem d_law_298 : decode code 298 = .ok (.aload_n 0, 1) := by decide +kernel
theorem d_law_299 : decode code 299 = .ok (.iload 4, 2) := by decide +kernel
theorem d_law_315 : decode code 315 = .ok (.istore 6, 2) := by decide +kernel
theorem d_law_317 : decode code 317 = .ok (.aload_n 2, 1) := by decide +kernel
theorem d_law_321 : decode code 321 = .ok (.iload 5, 2) := by decide +kernel
theorem d_law_328 : decode code 328 = .ok (.iload 5, 2) := by decide +kernel
theorem d_law_345 : decode code 345 = .ok (.goto 550, 3) := by decide +kernel
theorem d_law_333 : decode code 333 = .ok (.aload_n 3, 1) := by decide +kernel
theorem d_law_336 : decode code 336 = .ok (.iload 6, 2) := by decide +kernel
theorem d_law_343 : decode code 343 = .ok (.iconst 0, 1) := by decide +kernel
theorem d_law_340 : decode code 340 = .ok (.ifCond .eq 5, 3) := by decide +kernel
theorem d_law_339 : decode code 339 = .ok (.lcmp, 1) := by decide +kernel
theorem d_law_338 : decode code 338 = .ok (.i2l, 1) := by decide +kernel
theorem d_law_335 : decode code 335 = .ok (.laload, 1) := by decide +kernel
theorem d_law_334 : decode code 334 = .ok (.iconst 0, 1) := by decide +kernel
theorem d_law_330 : decode code 330 = .ok (.ifCond .ne 15, 3) := by decide +kernel
theorem d_law_326 : decode code 326 = .ok (.iconst 0, 1) := by decide +kernel
theorem d_law_323 : decode code 323 = .ok (.if_icmp .eq 5, 3) := by decide +kernel
theorem d_law_318 : decode code 318 = .ok (.invokevirtual 69, 3) := by decide +kernel
theorem d_law_312 : decode code 312 = .ok (.invokevirtual 79, 3) := by decide +kernel
theorem d_law_311 : decode code 311 = .ok (.iconst 0, 1) := by decide +kernel
theorem d_law_308 : decode code 308 = .ok (.goto 4, 3) := by decide +kernel
theorem d_law_307 : decode code 307 = .ok (.iconst 1, 1) := by decide +kernel
theorem d_law_304 : decode code 304 = .ok (.ifCond .eq 7, 3) := by decide +kernel
theorem d_law_303 : decode code 303 = .ok (.iaload, 1) := by decide +kernel
theorem d_law_302 : decode code 302 = .ok (.iadd, 1) := by decide +kernel
theorem d_law_301 : decode code 301 = .ok (.iconst 2, 1) := by decide +kernel
theorem d_law_297 : decode code 297 = .ok (.iaload, 1) := by decide +kernel
theorem d_law_296 : decode code 296 = .ok (.iadd, 1) := by decide +kernel
theorem d_law_295 : decode code 295 = .ok (.iconst 1, 1) := by decide +kernel
theorem d_law_286 : decode code 286 = .ok (.invokestatic 76, 3) := by decide +kernel
theorem d_law_284 : decode code 284 = .ok (.iconst 0, 1) := by decide +kernel
theorem d_law_281 : decode code 281 = .ok (.goto 4, 3) := by decide +kernel
theorem d_law_280 : decode code 280 = .ok (.iconst 1, 1) := by decide +kernel
theorem d_law_277 : decode code 277 = .ok (.ifCond .eq 7, 3) := by decide +kernel
theorem d_law_276 : decode code 276 = .ok (.iaload, 1) := by decide +kernel
theorem d_law_275 : decode code 275 = .ok (.iadd, 1) := by decide +kernel
theorem d_law_274 : decode code 274 = .ok (.iconst 2, 1) := by decide +kernel
theorem d_law_270 : decode code 270 = .ok (.iaload, 1) := by decide +kernel
theorem d_law_269 : decode code 269 = .ok (.iadd, 1) := by decide +kernel
theorem d_law_268 : decode code 268 = .ok (.iconst 1, 1) := by decide +kernel
theorem d_law_348 : decode code 348 = .ok (.aload_n 1, 1) := by decide +kernel
theorem d_law_349 : decode code 349 = .ok (.aload_n 0, 1) := by decide +kernel
theorem d_law_350 : decode code 350 = .ok (.iload 4, 2) := by decide +kernel
theorem d_law_355 : decode code 355 = .ok (.aload_n 3, 1) := by decide +kernel
theorem d_law_359 : decode code 359 = .ok (.istore 5, 2) := by decide +kernel
theorem d_law_361 : decode code 361 = .ok (.aload_n 2, 1) := by decide +kernel
theorem d_law_362 : decode code 362 = .ok (.aload_n 0, 1) := by decide +kernel
theorem d_law_363 : decode code 363 = .ok (.iload 4, 2) := by decide +kernel
theorem d_law_371 : decode code 371 = .ok (.istore 6, 2) := by decide +kernel
theorem d_law_373 : decode code 373 = .ok (.aload_n 2, 1) := by decide +kernel
theorem d_law_377 : decode code 377 = .ok (.iload 5, 2) := by decide +kernel
theorem d_law_384 : decode code 384 = .ok (.iload 5, 2) := by decide +kernel
theorem d_law_401 : decode code 401 = .ok (.goto 494, 3) := by decide +kernel
theorem d_law_389 : decode code 389 = .ok (.aload_n 3, 1) := by decide +kernel
theorem d_law_392 : decode code 392 = .ok (.iload 6, 2) := by decide +kernel
theorem d_law_399 : decode code 399 = .ok (.iconst 0, 1) := by decide +kernel
theorem d_law_396 : decode code 396 = .ok (.ifCond .eq 5, 3) := by decide +kernel
theorem d_law_395 : decode code 395 = .ok (.lcmp, 1) := by decide +kernel
theorem d_law_394 : decode code 394 = .ok (.i2l, 1) := by decide +kernel
theorem d_law_391 : decode code 391 = .ok (.laload, 1) := by decide +kernel
theorem d_law_390 : decode code 390 = .ok (.iconst 0, 1) := by decide +kernel
theorem d_law_386 : decode code 386 = .ok (.ifCond .ne 15, 3) := by decide +kernel
theorem d_law_382 : decode code 382 = .ok (.iconst 0, 1) := by decide +kernel
theorem d_law_379 : decode code 379 = .ok (.if_icmp .eq 5, 3) := by decide +kernel
theorem d_law_374 : decode code 374 = .ok (.invokevirtual 69, 3) := by decide +kernel
theorem d_law_368 : decode code 368 = .ok (.invokevirtual 82, 3) := by decide +kernel
theorem d_law_367 : decode code 367 = .ok (.iaload, 1) := by decide +kernel
theorem d_law_366 : decode code 366 = .ok (.iadd, 1) := by decide +kernel
theorem d_law_365 : decode code 365 = .ok (.iconst 1, 1) := by decide +kernel
theorem d_law_356 : decode code 356 = .ok (.invokestatic 80, 3) := by decide +kernel
theorem d_law_354 : decode code 354 = .ok (.iaload, 1) := by decide +kernel
theorem d_law_353 : decode code 353 = .ok (.iadd, 1) := by decide +kernel
theorem d_law_352 : decode code 352 = .ok (.iconst 1, 1) := by decide +kernel
theorem d_law_404 : decode code 404 = .ok (.aload_n 1, 1) := by decide +kernel
theorem d_law_405 : decode code 405 = .ok (.aload_n 0, 1) := by decide +kernel
theorem d_law_406 : decode code 406 = .ok (.iload 4, 2) := by decide +kernel
theorem d_law_411 : decode code 411 = .ok (.aload_n 0, 1) := by decide +kernel
theorem d_law_412 : decode code 412 = .ok (.iload 4, 2) := by decide +kernel
theorem d_law_417 : decode code 417 = .ok (.aload_n 0, 1) := by decide +kernel
theorem d_law_418 : decode code 418 = .ok (.iload 4, 2) := by decide +kernel
theorem d_law_423 : decode code 423 = .ok (.aload_n 3, 1) := by decide +kernel
theorem d_law_427 : decode code 427 = .ok (.istore 5, 2) := by decide +kernel
theorem d_law_429 : decode code 429 = .ok (.aload_n 2, 1) := by decide +kernel
theorem d_law_430 : decode code 430 = .ok (.aload_n 0, 1) := by decide +kernel
theorem d_law_431 : decode code 431 = .ok (.iload 4, 2) := by decide +kernel
theorem d_law_436 : decode code 436 = .ok (.aload_n 0, 1) := by decide +kernel
theorem d_law_437 : decode code 437 = .ok (.iload 4, 2) := by decide +kernel
theorem d_law_442 : decode code 442 = .ok (.aload_n 0, 1) := by decide +kernel
theorem d_law_443 : decode code 443 = .ok (.iload 4, 2) := by decide +kernel
theorem d_law_451 : decode code 451 = .ok (.istore 6, 2) := by decide +kernel
theorem d_law_453 : decode code 453 = .ok (.aload_n 2, 1) := by decide +kernel
theorem d_law_457 : decode code 457 = .ok (.iload 5, 2) := by decide +kernel
theorem d_law_464 : decode code 464 = .ok (.iload 5, 2) := by decide +kernel
theorem d_law_481 : decode code 481 = .ok (.goto 414, 3) := by decide +kernel
theorem d_law_469 : decode code 469 = .ok (.aload_n 3, 1) := by decide +kernel
theorem d_law_472 : decode code 472 = .ok (.iload 6, 2) := by decide +kernel
theorem d_law_479 : decode code 479 = .ok (.iconst 0, 1) := by decide +kernel
theorem d_law_476 : decode code 476 = .ok (.ifCond .eq 5, 3) := by decide +kernel
theorem d_law_475 : decode code 475 = .ok (.lcmp, 1) := by decide +kernel
theorem d_law_474 : decode code 474 = .ok (.i2l, 1) := by decide +kernel
theorem d_law_471 : decode code 471 = .ok (.laload, 1) := by decide +kernel
theorem d_law_470 : decode code 470 = .ok (.iconst 0, 1) := by decide +kernel
theorem d_law_466 : decode code 466 = .ok (.ifCond .ne 15, 3) := by decide +kernel
theorem d_law_462 : decode code 462 = .ok (.iconst 0, 1) := by decide +kernel
theorem d_law_459 : decode code 459 = .ok (.if_icmp .eq 5, 3) := by decide +kernel
theorem d_law_454 : decode code 454 = .ok (.invokevirtual 69, 3) := by decide +kernel
theorem d_law_448 : decode code 448 = .ok (.invokevirtual 86, 3) := by decide +kernel
theorem d_law_447 : decode code 447 = .ok (.iaload, 1) := by decide +kernel
theorem d_law_446 : decode code 446 = .ok (.iadd, 1) := by decide +kernel
theorem d_law_445 : decode code 445 = .ok (.iconst 3, 1) := by decide +kernel
theorem d_law_441 : decode code 441 = .ok (.iaload, 1) := by decide +kernel
theorem d_law_440 : decode code 440 = .ok (.iadd, 1) := by decide +kernel
theorem d_law_439 : decode code 439 = .ok (.iconst 2, 1) := by decide +kernel
theorem d_law_435 : decode code 435 = .ok (.iaload, 1) := by decide +kernel
theorem d_law_434 : decode code 434 = .ok (.iadd, 1) := by decide +kernel
theorem d_law_433 : decode code 433 = .ok (.iconst 1, 1) := by decide +kernel
theorem d_law_424 : decode code 424 = .ok (.invokestatic 83, 3) := by decide +kernel
theorem d_law_422 : decode code 422 = .ok (.iaload, 1) := by decide +kernel
theorem d_law_421 : decode code 421 = .ok (.iadd, 1) := by decide +kernel
theorem d_law_420 : decode code 420 = .ok (.iconst 3, 1) := by decide +kernel
theorem d_law_416 : decode code 416 = .ok (.iaload, 1) := by decide +kernel
theorem d_law_415 : decode code 415 = .ok (.iadd, 1) := by decide +kernel
theorem d_law_414 : decode code 414 = .ok (.iconst 2, 1) := by decide +kernel
theorem d_law_410 : decode code 410 = .ok (.iaload, 1) := by decide +kernel
theorem d_law_409 : decode code 409 = .ok (.iadd, 1) := by decide +kernel
theorem d_law_408 : decode code 408 = .ok (.iconst 1, 1) := by decide +kernel
theorem d_law_484 : decode code 484 = .ok (.aload_n 1, 1) := by decide +kernel
theorem d_law_485 : decode code 485 = .ok (.aload_n 0, 1) := by decide +kernel
theorem d_law_486 : decode code 486 = .ok (.iload 4, 2) := by decide +kernel
theorem d_law_494 : decode code 494 = .ok (.aload_n 2, 1) := by decide +kernel
theorem d_law_495 : decode code 495 = .ok (.aload_n 0, 1) := by decide +kernel
theorem d_law_496 : decode code 496 = .ok (.iload 4, 2) := by decide +kernel
theorem d_law_507 : decode code 507 = .ok (.iconst 0, 1) := by decide +kernel
theorem d_law_504 : decode code 504 = .ok (.if_icmp .eq 391, 3) := by decide +kernel
theorem d_law_501 : decode code 501 = .ok (.invokevirtual 91, 3) := by decide +kernel
theorem d_law_500 : decode code 500 = .ok (.iaload, 1) := by decide +kernel
theorem d_law_499 : decode code 499 = .ok (.iadd, 1) := by decide +kernel
theorem d_law_498 : decode code 498 = .ok (.iconst 1, 1) := by decide +kernel
theorem d_law_491 : decode code 491 = .ok (.invokevirtual 87, 3) := by decide +kernel
theorem d_law_490 : decode code 490 = .ok (.iaload, 1) := by decide +kernel
theorem d_law_489 : decode code 489 = .ok (.iadd, 1) := by decide +kernel
theorem d_law_488 : decode code 488 = .ok (.iconst 1, 1) := by decide +kernel
theorem d_law_509 : decode code 509 = .ok (.aload_n 1, 1) := by decide +kernel
theorem d_law_513 : decode code 513 = .ok (.aload_n 2, 1) := by decide +kernel
theorem d_law_520 : decode code 520 = .ok (.iconst 0, 1) := by decide +kernel
theorem d_law_517 : decode code 517 = .ok (.if_icmp .eq 378, 3) := by decide +kernel
theorem d_law_514 : decode code 514 = .ok (.invokevirtual 95, 3) := by decide +kernel
theorem d_law_510 : decode code 510 = .ok (.invokevirtual 92, 3) := by decide +kernel
theorem d_law_522 : decode code 522 = .ok (.aload_n 1, 1) := by decide +kernel
theorem d_law_523 : decode code 523 = .ok (.aload_n 0, 1) := by decide +kernel
theorem d_law_524 : decode code 524 = .ok (.iload 4, 2) := by decide +kernel
theorem d_law_529 : decode code 529 = .ok (.aload_n 0, 1) := by decide +kernel
theorem d_law_530 : decode code 530 = .ok (.iload 4, 2) := by decide +kernel
theorem d_law_538 : decode code 538 = .ok (.istore 5, 2) := by decide +kernel
theorem d_law_540 : decode code 540 = .ok (.aload_n 2, 1) := by decide +kernel
theorem d_law_541 : decode code 541 = .ok (.aload_n 0, 1) := by decide +kernel
theorem d_law_542 : decode code 542 = .ok (.iload 4, 2) := by decide +kernel
theorem d_law_547 : decode code 547 = .ok (.aload_n 0, 1) := by decide +kernel
theorem d_law_548 : decode code 548 = .ok (.iload 4, 2) := by decide +kernel
theorem d_law_556 : decode code 556 = .ok (.aload_n 2, 1) := by decide +kernel
theorem d_law_560 : decode code 560 = .ok (.iload 5, 2) := by decide +kernel
theorem d_law_567 : decode code 567 = .ok (.goto 328, 3) := by decide +kernel
theorem d_law_565 : decode code 565 = .ok (.iconst 0, 1) := by decide +kernel
theorem d_law_562 : decode code 562 = .ok (.if_icmp .eq 5, 3) := by decide +kernel
theorem d_law_557 : decode code 557 = .ok (.invokevirtual 69, 3) := by decide +kernel
theorem d_law_553 : decode code 553 = .ok (.invokevirtual 99, 3) := by decide +kernel
theorem d_law_552 : decode code 552 = .ok (.iaload, 1) := by decide +kernel
theorem d_law_551 : decode code 551 = .ok (.iadd, 1) := by decide +kernel
theorem d_law_550 : decode code 550 = .ok (.iconst 2, 1) := by decide +kernel
theorem d_law_546 : decode code 546 = .ok (.iaload, 1) := by decide +kernel
theorem d_law_545 : decode code 545 = .ok (.iadd, 1) := by decide +kernel
theorem d_law_544 : decode code 544 = .ok (.iconst 1, 1) := by decide +kernel
theorem d_law_535 : decode code 535 = .ok (.invokestatic 96, 3) := by decide +kernel
theorem d_law_534 : decode code 534 = .ok (.iaload, 1) := by decide +kernel
theorem d_law_533 : decode code 533 = .ok (.iadd, 1) := by decide +kernel
theorem d_law_532 : decode code 532 = .ok (.iconst 2, 1) := by decide +kernel
theorem d_law_528 : decode code 528 = .ok (.iaload, 1) := by decide +kernel
theorem d_law_527 : decode code 527 = .ok (.iadd, 1) := by decide +kernel
theorem d_law_526 : decode code 526 = .ok (.iconst 1, 1) := by decide +kernel
theorem d_law_570 : decode code 570 = .ok (.aload_n 1, 1) := by decide +kernel
theorem d_law_571 : decode code 571 = .ok (.aload_n 0, 1) := by decide +kernel
theorem d_law_572 : decode code 572 = .ok (.iload 4, 2) := by decide +kernel
theorem d_law_577 : decode code 577 = .ok (.aload_n 0, 1) := by decide +kernel
theorem d_law_578 : decode code 578 = .ok (.iload 4, 2) := by decide +kernel
theorem d_law_586 : decode code 586 = .ok (.istore 5, 2) := by decide +kernel
theorem d_law_588 : decode code 588 = .ok (.aload_n 2, 1) := by decide +kernel
theorem d_law_589 : decode code 589 = .ok (.aload_n 0, 1) := by decide +kernel
theorem d_law_590 : decode code 590 = .ok (.iload 4, 2) := by decide +kernel
theorem d_law_595 : decode code 595 = .ok (.aload_n 0, 1) := by decide +kernel
theorem d_law_596 : decode code 596 = .ok (.iload 4, 2) := by decide +kernel
theorem d_law_604 : decode code 604 = .ok (.aload_n 2, 1) := by decide +kernel
theorem d_law_608 : decode code 608 = .ok (.iload 5, 2) := by decide +kernel
theorem d_law_615 : decode code 615 = .ok (.goto 280, 3) := by decide +kernel
theorem d_law_613 : decode code 613 = .ok (.iconst 0, 1) := by decide +kernel
theorem d_law_610 : decode code 610 = .ok (.if_icmp .eq 5, 3) := by decide +kernel
theorem d_law_605 : decode code 605 = .ok (.invokevirtual 69, 3) := by decide +kernel
theorem d_law_601 : decode code 601 = .ok (.invokevirtual 102, 3) := by decide +kernel
theorem d_law_600 : decode code 600 = .ok (.iaload, 1) := by decide +kernel
theorem d_law_599 : decode code 599 = .ok (.iadd, 1) := by decide +kernel
theorem d_law_598 : decode code 598 = .ok (.iconst 2, 1) := by decide +kernel
theorem d_law_594 : decode code 594 = .ok (.iaload, 1) := by decide +kernel
theorem d_law_593 : decode code 593 = .ok (.iadd, 1) := by decide +kernel
theorem d_law_592 : decode code 592 = .ok (.iconst 1, 1) := by decide +kernel
theorem d_law_583 : decode code 583 = .ok (.invokestatic 100, 3) := by decide +kernel
theorem d_law_582 : decode code 582 = .ok (.iaload, 1) := by decide +kernel
theorem d_law_581 : decode code 581 = .ok (.iadd, 1) := by decide +kernel
theorem d_law_580 : decode code 580 = .ok (.iconst 2, 1) := by decide +kernel
theorem d_law_576 : decode code 576 = .ok (.iaload, 1) := by decide +kernel
theorem d_law_575 : decode code 575 = .ok (.iadd, 1) := by decide +kernel
theorem d_law_574 : decode code 574 = .ok (.iconst 1, 1) := by decide +kernel
theorem d_law_618 : decode code 618 = .ok (.aload_n 1, 1) := by decide +kernel
theorem d_law_619 : decode code 619 = .ok (.aload_n 0, 1) := by decide +kernel
theorem d_law_620 : decode code 620 = .ok (.iload 4, 2) := by decide +kernel
theorem d_law_625 : decode code 625 = .ok (.aload_n 0, 1) := by decide +kernel
theorem d_law_626 : decode code 626 = .ok (.iload 4, 2) := by decide +kernel
theorem d_law_631 : decode code 631 = .ok (.aload_n 0, 1) := by decide +kernel
theorem d_law_632 : decode code 632 = .ok (.iload 4, 2) := by decide +kernel
theorem d_law_637 : decode code 637 = .ok (.aload_n 0, 1) := by decide +kernel
theorem d_law_638 : decode code 638 = .ok (.iload 4, 2) := by decide +kernel
theorem d_law_643 : decode code 643 = .ok (.aload_n 0, 1) := by decide +kernel
theorem d_law_644 : decode code 644 = .ok (.iload 4, 2) := by decide +kernel
theorem d_law_652 : decode code 652 = .ok (.istore 5, 2) := by decide +kernel
theorem d_law_654 : decode code 654 = .ok (.aload_n 2, 1) := by decide +kernel
theorem d_law_655 : decode code 655 = .ok (.aload_n 0, 1) := by decide +kernel
theorem d_law_656 : decode code 656 = .ok (.iload 4, 2) := by decide +kernel
theorem d_law_661 : decode code 661 = .ok (.aload_n 0, 1) := by decide +kernel
theorem d_law_662 : decode code 662 = .ok (.iload 4, 2) := by decide +kernel
theorem d_law_667 : decode code 667 = .ok (.aload_n 0, 1) := by decide +kernel
theorem d_law_668 : decode code 668 = .ok (.iload 4, 2) := by decide +kernel
theorem d_law_673 : decode code 673 = .ok (.aload_n 0, 1) := by decide +kernel
theorem d_law_674 : decode code 674 = .ok (.iload 4, 2) := by decide +kernel
theorem d_law_679 : decode code 679 = .ok (.aload_n 0, 1) := by decide +kernel
theorem d_law_680 : decode code 680 = .ok (.iload 4, 2) := by decide +kernel
theorem d_law_688 : decode code 688 = .ok (.aload_n 2, 1) := by decide +kernel
theorem d_law_692 : decode code 692 = .ok (.iload 5, 2) := by decide +kernel
theorem d_law_699 : decode code 699 = .ok (.goto 196, 3) := by decide +kernel
theorem d_law_697 : decode code 697 = .ok (.iconst 0, 1) := by decide +kernel
theorem d_law_694 : decode code 694 = .ok (.if_icmp .eq 5, 3) := by decide +kernel
theorem d_law_689 : decode code 689 = .ok (.invokevirtual 69, 3) := by decide +kernel
theorem d_law_685 : decode code 685 = .ok (.invokevirtual 106, 3) := by decide +kernel
theorem d_law_684 : decode code 684 = .ok (.iaload, 1) := by decide +kernel
theorem d_law_683 : decode code 683 = .ok (.iadd, 1) := by decide +kernel
theorem d_law_682 : decode code 682 = .ok (.iconst 5, 1) := by decide +kernel
theorem d_law_678 : decode code 678 = .ok (.iaload, 1) := by decide +kernel
theorem d_law_677 : decode code 677 = .ok (.iadd, 1) := by decide +kernel
theorem d_law_676 : decode code 676 = .ok (.iconst 4, 1) := by decide +kernel
theorem d_law_672 : decode code 672 = .ok (.iaload, 1) := by decide +kernel
theorem d_law_671 : decode code 671 = .ok (.iadd, 1) := by decide +kernel
theorem d_law_670 : decode code 670 = .ok (.iconst 3, 1) := by decide +kernel
theorem d_law_666 : decode code 666 = .ok (.iaload, 1) := by decide +kernel
theorem d_law_665 : decode code 665 = .ok (.iadd, 1) := by decide +kernel
theorem d_law_664 : decode code 664 = .ok (.iconst 2, 1) := by decide +kernel
theorem d_law_660 : decode code 660 = .ok (.iaload, 1) := by decide +kernel
theorem d_law_659 : decode code 659 = .ok (.iadd, 1) := by decide +kernel
theorem d_law_658 : decode code 658 = .ok (.iconst 1, 1) := by decide +kernel
theorem d_law_649 : decode code 649 = .ok (.invokestatic 103, 3) := by decide +kernel
theorem d_law_648 : decode code 648 = .ok (.iaload, 1) := by decide +kernel
theorem d_law_647 : decode code 647 = .ok (.iadd, 1) := by decide +kernel
theorem d_law_646 : decode code 646 = .ok (.iconst 5, 1) := by decide +kernel
theorem d_law_642 : decode code 642 = .ok (.iaload, 1) := by decide +kernel
theorem d_law_641 : decode code 641 = .ok (.iadd, 1) := by decide +kernel
theorem d_law_640 : decode code 640 = .ok (.iconst 4, 1) := by decide +kernel
theorem d_law_636 : decode code 636 = .ok (.iaload, 1) := by decide +kernel
theorem d_law_635 : decode code 635 = .ok (.iadd, 1) := by decide +kernel
theorem d_law_634 : decode code 634 = .ok (.iconst 3, 1) := by decide +kernel
theorem d_law_630 : decode code 630 = .ok (.iaload, 1) := by decide +kernel
theorem d_law_629 : decode code 629 = .ok (.iadd, 1) := by decide +kernel
theorem d_law_628 : decode code 628 = .ok (.iconst 2, 1) := by decide +kernel
theorem d_law_624 : decode code 624 = .ok (.iaload, 1) := by decide +kernel
theorem d_law_623 : decode code 623 = .ok (.iadd, 1) := by decide +kernel
theorem d_law_622 : decode code 622 = .ok (.iconst 1, 1) := by decide +kernel
theorem d_law_702 : decode code 702 = .ok (.aload_n 1, 1) := by decide +kernel
theorem d_law_703 : decode code 703 = .ok (.aload_n 3, 1) := by decide +kernel
theorem d_law_707 : decode code 707 = .ok (.istore 5, 2) := by decide +kernel
theorem d_law_709 : decode code 709 = .ok (.aload_n 2, 1) := by decide +kernel
theorem d_law_713 : decode code 713 = .ok (.istore 6, 2) := by decide +kernel
theorem d_law_715 : decode code 715 = .ok (.aload_n 2, 1) := by decide +kernel
theorem d_law_719 : decode code 719 = .ok (.iload 5, 2) := by decide +kernel
theorem d_law_726 : decode code 726 = .ok (.iload 5, 2) := by decide +kernel
theorem d_law_743 : decode code 743 = .ok (.goto 152, 3) := by decide +kernel
theorem d_law_731 : decode code 731 = .ok (.aload_n 3, 1) := by decide +kernel
theorem d_law_734 : decode code 734 = .ok (.iload 6, 2) := by decide +kernel
theorem d_law_741 : decode code 741 = .ok (.iconst 0, 1) := by decide +kernel
theorem d_law_738 : decode code 738 = .ok (.ifCond .eq 5, 3) := by decide +kernel
theorem d_law_737 : decode code 737 = .ok (.lcmp, 1) := by decide +kernel
theorem d_law_736 : decode code 736 = .ok (.i2l, 1) := by decide +kernel
theorem d_law_733 : decode code 733 = .ok (.laload, 1) := by decide +kernel
theorem d_law_732 : decode code 732 = .ok (.iconst 0, 1) := by decide +kernel
theorem d_law_728 : decode code 728 = .ok (.ifCond .ne 15, 3) := by decide +kernel
theorem d_law_724 : decode code 724 = .ok (.iconst 0, 1) := by decide +kernel
theorem d_law_721 : decode code 721 = .ok (.if_icmp .eq 5, 3) := by decide +kernel
theorem d_law_716 : decode code 716 = .ok (.invokevirtual 69, 3) := by decide +kernel
theorem d_law_710 : decode code 710 = .ok (.invokevirtual 110, 3) := by decide +kernel
theorem d_law_704 : decode code 704 = .ok (.invokestatic 107, 3) := by decide +kernel
theorem d_law_746 : decode code 746 = .ok (.aload_n 1, 1) := by decide +kernel
theorem d_law_750 : decode code 750 = .ok (.aload_n 2, 1) := by decide +kernel
theorem d_law_757 : decode code 757 = .ok (.iconst 0, 1) := by decide +kernel
theorem d_law_754 : decode code 754 = .ok (.if_icmp .eq 141, 3) := by decide +kernel
theorem d_law_751 : decode code 751 = .ok (.invokevirtual 114, 3) := by decide +kernel
theorem d_law_747 : decode code 747 = .ok (.invokevirtual 111, 3) := by decide +kernel
theorem d_law_759 : decode code 759 = .ok (.aload_n 1, 1) := by decide +kernel
theorem d_law_763 : decode code 763 = .ok (.aload_n 2, 1) := by decide +kernel
theorem d_law_770 : decode code 770 = .ok (.iconst 0, 1) := by decide +kernel
theorem d_law_767 : decode code 767 = .ok (.if_icmp .eq 128, 3) := by decide +kernel
theorem d_law_764 : decode code 764 = .ok (.invokevirtual 118, 3) := by decide +kernel
theorem d_law_760 : decode code 760 = .ok (.invokevirtual 115, 3) := by decide +kernel
theorem d_law_772 : decode code 772 = .ok (.aload_n 1, 1) := by decide +kernel
theorem d_law_773 : decode code 773 = .ok (.aload_n 0, 1) := by decide +kernel
theorem d_law_774 : decode code 774 = .ok (.iload 4, 2) := by decide +kernel
theorem d_law_779 : decode code 779 = .ok (.aload_n 0, 1) := by decide +kernel
theorem d_law_780 : decode code 780 = .ok (.iload 4, 2) := by decide +kernel
theorem d_law_785 : decode code 785 = .ok (.aload_n 3, 1) := by decide +kernel
theorem d_law_789 : decode code 789 = .ok (.istore 5, 2) := by decide +kernel
theorem d_law_791 : decode code 791 = .ok (.aload_n 2, 1) := by decide +kernel
theorem d_law_792 : decode code 792 = .ok (.aload_n 0, 1) := by decide +kernel
theorem d_law_793 : decode code 793 = .ok (.iload 4, 2) := by decide +kernel
theorem d_law_798 : decode code 798 = .ok (.aload_n 0, 1) := by decide +kernel
theorem d_law_799 : decode code 799 = .ok (.iload 4, 2) := by decide +kernel
theorem d_law_807 : decode code 807 = .ok (.istore 6, 2) := by decide +kernel
theorem d_law_809 : decode code 809 = .ok (.aload_n 2, 1) := by decide +kernel
theorem d_law_813 : decode code 813 = .ok (.iload 5, 2) := by decide +kernel
theorem d_law_820 : decode code 820 = .ok (.iload 5, 2) := by decide +kernel
theorem d_law_837 : decode code 837 = .ok (.goto 58, 3) := by decide +kernel
theorem d_law_825 : decode code 825 = .ok (.aload_n 3, 1) := by decide +kernel
theorem d_law_828 : decode code 828 = .ok (.iload 6, 2) := by decide +kernel
theorem d_law_835 : decode code 835 = .ok (.iconst 0, 1) := by decide +kernel
theorem d_law_832 : decode code 832 = .ok (.ifCond .eq 5, 3) := by decide +kernel
theorem d_law_831 : decode code 831 = .ok (.lcmp, 1) := by decide +kernel
theorem d_law_830 : decode code 830 = .ok (.i2l, 1) := by decide +kernel
theorem d_law_827 : decode code 827 = .ok (.laload, 1) := by decide +kernel
theorem d_law_826 : decode code 826 = .ok (.iconst 0, 1) := by decide +kernel
theorem d_law_822 : decode code 822 = .ok (.ifCond .ne 15, 3) := by decide +kernel
theorem d_law_818 : decode code 818 = .ok (.iconst 0, 1) := by decide +kernel
theorem d_law_815 : decode code 815 = .ok (.if_icmp .eq 5, 3) := by decide +kernel
theorem d_law_810 : decode code 810 = .ok (.invokevirtual 69, 3) := by decide +kernel
theorem d_law_804 : decode code 804 = .ok (.invokevirtual 122, 3) := by decide +kernel
theorem d_law_803 : decode code 803 = .ok (.iaload, 1) := by decide +kernel
theorem d_law_802 : decode code 802 = .ok (.iadd, 1) := by decide +kernel
theorem d_law_801 : decode code 801 = .ok (.iconst 2, 1) := by decide +kernel
theorem d_law_797 : decode code 797 = .ok (.iaload, 1) := by decide +kernel
theorem d_law_796 : decode code 796 = .ok (.iadd, 1) := by decide +kernel
theorem d_law_795 : decode code 795 = .ok (.iconst 1, 1) := by decide +kernel
theorem d_law_786 : decode code 786 = .ok (.invokestatic 119, 3) := by decide +kernel
theorem d_law_784 : decode code 784 = .ok (.iaload, 1) := by decide +kernel
theorem d_law_783 : decode code 783 = .ok (.iadd, 1) := by decide +kernel
theorem d_law_782 : decode code 782 = .ok (.iconst 2, 1) := by decide +kernel
theorem d_law_778 : decode code 778 = .ok (.iaload, 1) := by decide +kernel
theorem d_law_777 : decode code 777 = .ok (.iadd, 1) := by decide +kernel
theorem d_law_776 : decode code 776 = .ok (.iconst 1, 1) := by decide +kernel
theorem d_law_840 : decode code 840 = .ok (.aload_n 1, 1) := by decide +kernel
theorem d_law_841 : decode code 841 = .ok (.aload_n 0, 1) := by decide +kernel
theorem d_law_842 : decode code 842 = .ok (.iload 4, 2) := by decide +kernel
theorem d_law_847 : decode code 847 = .ok (.aload_n 3, 1) := by decide +kernel
theorem d_law_851 : decode code 851 = .ok (.istore 5, 2) := by decide +kernel
theorem d_law_853 : decode code 853 = .ok (.aload_n 2, 1) := by decide +kernel
theorem d_law_854 : decode code 854 = .ok (.aload_n 0, 1) := by decide +kernel
theorem d_law_855 : decode code 855 = .ok (.iload 4, 2) := by decide +kernel
theorem d_law_863 : decode code 863 = .ok (.lstore 6, 2) := by decide +kernel
theorem d_law_865 : decode code 865 = .ok (.aload_n 2, 1) := by decide +kernel
theorem d_law_869 : decode code 869 = .ok (.iload 5, 2) := by decide +kernel
theorem d_law_876 : decode code 876 = .ok (.iload 5, 2) := by decide +kernel
theorem d_law_892 : decode code 892 = .ok (.goto 3, 3) := by decide +kernel
theorem d_law_881 : decode code 881 = .ok (.aload_n 3, 1) := by decide +kernel
theorem d_law_884 : decode code 884 = .ok (.lload 6, 2) := by decide +kernel
theorem d_law_890 : decode code 890 = .ok (.iconst 0, 1) := by decide +kernel
theorem d_law_887 : decode code 887 = .ok (.ifCond .eq 5, 3) := by decide +kernel
theorem d_law_886 : decode code 886 = .ok (.lcmp, 1) := by decide +kernel
theorem d_law_883 : decode code 883 = .ok (.laload, 1) := by decide +kernel
theorem d_law_882 : decode code 882 = .ok (.iconst 0, 1) := by decide +kernel
theorem d_law_878 : decode code 878 = .ok (.ifCond .ne 14, 3) := by decide +kernel
theorem d_law_874 : decode code 874 = .ok (.iconst 0, 1) := by decide +kernel
theorem d_law_871 : decode code 871 = .ok (.if_icmp .eq 5, 3) := by decide +kernel
theorem d_law_866 : decode code 866 = .ok (.invokevirtual 69, 3) := by decide +kernel
theorem d_law_860 : decode code 860 = .ok (.invokevirtual 125, 3) := by decide +kernel
theorem d_law_859 : decode code 859 = .ok (.iaload, 1) := by decide +kernel
theorem d_law_858 : decode code 858 = .ok (.iadd, 1) := by decide +kernel
theorem d_law_857 : decode code 857 = .ok (.iconst 1, 1) := by decide +kernel
theorem d_law_848 : decode code 848 = .ok (.invokestatic 123, 3) := by decide +kernel
theorem d_law_846 : decode code 846 = .ok (.iaload, 1) := by decide +kernel
theorem d_law_845 : decode code 845 = .ok (.iadd, 1) := by decide +kernel
theorem d_law_844 : decode code 844 = .ok (.iconst 1, 1) := by decide +kernel
theorem d_law_23 : decode code 23 = .ok (.iload 4, 2) := by decide +kernel
theorem d_law_25 : decode code 25 = .ok (.aload_n 0, 1) := by decide +kernel
theorem d_law_902 : decode code 902 = .ok (.ireturn, 1) := by decide +kernel
theorem d_law_901 : decode code 901 = .ok (.iconst 1, 1) := by decide +kernel
theorem d_law_33 : decode code 33 = .ok (.aload_n 0, 1) := by decide +kernel
theorem d_law_34 : decode code 34 = .ok (.iload 4, 2) := by decide +kernel
theorem d_law_40 : decode code 40 = .ok (.tableswitch 855 0 14 #[76, 132, 224, 308, 364, 444, 469, 482, 530, 578, 662, 706, 719, 732, 800], 76) := by decide +kernel
theorem d_law_39 : decode code 39 = .ok (.iand, 1) := by decide +kernel
theorem d_law_37 : decode code 37 = .ok (.bipush 15, 2) := by decide +kernel
theorem d_law_36 : decode code 36 = .ok (.iaload, 1) := by decide +kernel
theorem d_law_30 : decode code 30 = .ok (.if_icmp .gt 871, 3) := by decide +kernel
theorem d_law_29 : decode code 29 = .ok (.isub, 1) := by decide +kernel
theorem d_law_27 : decode code 27 = .ok (.bipush 6, 2) := by decide +kernel
theorem d_law_26 : decode code 26 = .ok (.arraylength, 1) := by decide +kernel
set_option maxRecDepth 100000 in
def wl_law_116 (L : Nat) (xs : Nat → Int32) (Kh : ST → ST → Int32 → Prop) (S T : ST) (x4 : Int32) : Prop := (vp_in (x4 + 1) L ∧ wp_La_box S (xs (x4 + 1).toNatClampNeg) (fun r15 f1 f2 f3 f4 f5 f6 f7 f8 f9 f10 v11 v12 v13 v14 => (vp_in (x4 + 1) L ∧ wp_Mo_box T (xs (x4 + 1).toNatClampNeg) (fun r27 f16 f17 f18 f19 f20 f21 f22 f23 v24 v25 v26 => wp_Mo_thrown (sI (sI (sI (sA (sA (sA (sA (sA (sA (sA (sA T 1 f16) 2 f17) 3 f18) 4 f19) 5 f20) 6 f21) 7 f22) 8 f23) 0 v24) 1 v25) 34 v26)  (fun r28 => ((r28 = r15 → ((¬ r15 = 0 → (∀ v29 : Int32, v29 = x4 + 6 → Kh (sI (sI (sI (sI (sL (sA (sA (sA (sA (sA (sA (sA (sA (sA S 2 f1) 3 f2) 4 f3) 5 f4) 6 f5) 7 f6) 8 f7) 9 f8) 10 f9) 49 f10) 73 v11) 2626 v12) 2627 v13) 2628 v14) (sI (sI (sI (sA (sA (sA (sA (sA (sA (sA (sA T 1 f16) 2 f17) 3 f18) 4 f19) 5 f20) 6 f21) 7 f22) 8 f23) 0 v24) 1 v25) 34 v26) v29)) ∧ (r15 = 0 → (((lg_cmp (f10 (0 : Int32).toNatClampNeg) (r27.toInt64)) = 0 → (∀ v30 : Int32, v30 = x4 + 6 → Kh (sI (sI (sI (sI (sL (sA (sA (sA (sA (sA (sA (sA (sA (sA S 2 f1) 3 f2) 4 f3) 5 f4) 6 f5) 7 f6) 8 f7) 9 f8) 10 f9) 49 f10) 73 v11) 2626 v12) 2627 v13) 2628 v14) (sI (sI (sI (sA (sA (sA (sA (sA (sA (sA (sA T 1 f16) 2 f17) 3 f18) 4 f19) 5 f20) 6 f21) 7 f22) 8 f23) 0 v24) 1 v25) 34 v26) v30)) ∧ (¬ (lg_cmp (f10 (0 : Int32).toNatClampNeg) (r27.toInt64)) = 0 → False))))) ∧ (¬ r28 = r15 → False)))))))
set_option maxRecDepth 100000 in
def wl_law_172 (L : Nat) (xs : Nat → Int32) (Kh : ST → ST → Int32 → Prop) (S T : ST) (x4 : Int32) : Prop := (vp_in (x4 + 1) L ∧ (vp_in (x4 + 2) L ∧ (vp_in (x4 + 3) L ∧ (vp_in (x4 + 4) L ∧ wp_La_glue S (xs (x4 + 1).toNatClampNeg) (xs (x4 + 2).toNatClampNeg) (xs (x4 + 3).toNatClampNeg) (xs (x4 + 4).toNatClampNeg) (fun r15 f1 f2 f3 f4 f5 f6 f7 f8 f9 f10 v11 v12 v13 v14 => (vp_in (x4 + 1) L ∧ (vp_in (x4 + 2) L ∧ (vp_in (x4 + 3) L ∧ (vp_in (x4 + 4) L ∧ wp_Mo_glue T (xs (x4 + 1).toNatClampNeg) (xs (x4 + 2).toNatClampNeg) (xs (x4 + 3).toNatClampNeg) (xs (x4 + 4).toNatClampNeg) (fun r27 f16 f17 f18 f19 f20 f21 f22 f23 v24 v25 v26 => wp_Mo_thrown (sI (sI (sI (sA (sA (sA (sA (sA (sA (sA (sA T 1 f16) 2 f17) 3 f18) 4 f19) 5 f20) 6 f21) 7 f22) 8 f23) 0 v24) 1 v25) 34 v26)  (fun r28 => ((r28 = r15 → ((¬ r15 = 0 → (∀ v29 : Int32, v29 = x4 + 6 → Kh (sI (sI (sI (sI (sL (sA (sA (sA (sA (sA (sA (sA (sA (sA S 2 f1) 3 f2) 4 f3) 5 f4) 6 f5) 7 f6) 8 f7) 9 f8) 10 f9) 49 f10) 73 v11) 2626 v12) 2627 v13) 2628 v14) (sI (sI (sI (sA (sA (sA (sA (sA (sA (sA (sA T 1 f16) 2 f17) 3 f18) 4 f19) 5 f20) 6 f21) 7 f22) 8 f23) 0 v24) 1 v25) 34 v26) v29)) ∧ (r15 = 0 → (((lg_cmp (f10 (0 : Int32).toNatClampNeg) (r27.toInt64)) = 0 → (∀ v30 : Int32, v30 = x4 + 6 → Kh (sI (sI (sI (sI (sL (sA (sA (sA (sA (sA (sA (sA (sA (sA S 2 f1) 3 f2) 4 f3) 5 f4) 6 f5) 7 f6) 8 f7) 9 f8) 10 f9) 49 f10) 73 v11) 2626 v12) 2627 v13) 2628 v14) (sI (sI (sI (sA (sA (sA (sA (sA (sA (sA (sA T 1 f16) 2 f17) 3 f18) 4 f19) 5 f20) 6 f21) 7 f22) 8 f23) 0 v24) 1 v25) 34 v26) v30)) ∧ (¬ (lg_cmp (f10 (0 : Int32).toNatClampNeg) (r27.toInt64)) = 0 → False))))) ∧ (¬ r28 = r15 → False)))))))))))))
set_option maxRecDepth 100000 in
def wl_law_264 (L : Nat) (xs : Nat → Int32) (Kh : ST → ST → Int32 → Prop) (S T : ST) (x4 : Int32) : Prop := (vp_in (x4 + 1) L ∧ (vp_in (x4 + 2) L ∧ (((xs (x4 + 2).toNatClampNeg) = 0 → wp_La_kern S (xs (x4 + 1).toNatClampNeg) 0 (fun r15 f1 f2 f3 f4 f5 f6 f7 f8 f9 f10 v11 v12 v13 v14 => (vp_in (x4 + 1) L ∧ (vp_in (x4 + 2) L ∧ (((xs (x4 + 2).toNatClampNeg) = 0 → wp_Mo_kern T (xs (x4 + 1).toNatClampNeg) 0 (fun r27 f16 f17 f18 f19 f20 f21 f22 f23 v24 v25 v26 => wp_Mo_thrown (sI (sI (sI (sA (sA (sA (sA (sA (sA (sA (sA T 1 f16) 2 f17) 3 f18) 4 f19) 5 f20) 6 f21) 7 f22) 8 f23) 0 v24) 1 v25) 34 v26)  (fun r28 => ((r28 = r15 → ((¬ r15 = 0 → (∀ v29 : Int32, v29 = x4 + 6 → Kh (sI (sI (sI (sI (sL (sA (sA (sA (sA (sA (sA (sA (sA (sA S 2 f1) 3 f2) 4 f3) 5 f4) 6 f5) 7 f6) 8 f7) 9 f8) 10 f9) 49 f10) 73 v11) 2626 v12) 2627 v13) 2628 v14) (sI (sI (sI (sA (sA (sA (sA (sA (sA (sA (sA T 1 f16) 2 f17) 3 f18) 4 f19) 5 f20) 6 f21) 7 f22) 8 f23) 0 v24) 1 v25) 34 v26) v29)) ∧ (r15 = 0 → (((lg_cmp (f10 (0 : Int32).toNatClampNeg) (r27.toInt64)) = 0 → (∀ v30 : Int32, v30 = x4 + 6 → Kh (sI (sI (sI (sI (sL (sA (sA (sA (sA (sA (sA (sA (sA (sA S 2 f1) 3 f2) 4 f3) 5 f4) 6 f5) 7 f6) 8 f7) 9 f8) 10 f9) 49 f10) 73 v11) 2626 v12) 2627 v13) 2628 v14) (sI (sI (sI (sA (sA (sA (sA (sA (sA (sA (sA T 1 f16) 2 f17) 3 f18) 4 f19) 5 f20) 6 f21) 7 f22) 8 f23) 0 v24) 1 v25) 34 v26) v30)) ∧ (¬ (lg_cmp (f10 (0 : Int32).toNatClampNeg) (r27.toInt64)) = 0 → False))))) ∧ (¬ r28 = r15 → False))))) ∧ (¬ (xs (x4 + 2).toNatClampNeg) = 0 → wp_Mo_kern T (xs (x4 + 1).toNatClampNeg) 1 (fun r42 f31 f32 f33 f34 f35 f36 f37 f38 v39 v40 v41 => wp_Mo_thrown (sI (sI (sI (sA (sA (sA (sA (sA (sA (sA (sA T 1 f31) 2 f32) 3 f33) 4 f34) 5 f35) 6 f36) 7 f37) 8 f38) 0 v39) 1 v40) 34 v41)  (fun r43 => ((r43 = r15 → ((¬ r15 = 0 → (∀ v44 : Int32, v44 = x4 + 6 → Kh (sI (sI (sI (sI (sL (sA (sA (sA (sA (sA (sA (sA (sA (sA S 2 f1) 3 f2) 4 f3) 5 f4) 6 f5) 7 f6) 8 f7) 9 f8) 10 f9) 49 f10) 73 v11) 2626 v12) 2627 v13) 2628 v14) (sI (sI (sI (sA (sA (sA (sA (sA (sA (sA (sA T 1 f31) 2 f32) 3 f33) 4 f34) 5 f35) 6 f36) 7 f37) 8 f38) 0 v39) 1 v40) 34 v41) v44)) ∧ (r15 = 0 → (((lg_cmp (f10 (0 : Int32).toNatClampNeg) (r42.toInt64)) = 0 → (∀ v45 : Int32, v45 = x4 + 6 → Kh (sI (sI (sI (sI (sL (sA (sA (sA (sA (sA (sA (sA (sA (sA S 2 f1) 3 f2) 4 f3) 5 f4) 6 f5) 7 f6) 8 f7) 9 f8) 10 f9) 49 f10) 73 v11) 2626 v12) 2627 v13) 2628 v14) (sI (sI (sI (sA (sA (sA (sA (sA (sA (sA (sA T 1 f31) 2 f32) 3 f33) 4 f34) 5 f35) 6 f36) 7 f37) 8 f38) 0 v39) 1 v40) 34 v41) v45)) ∧ (¬ (lg_cmp (f10 (0 : Int32).toNatClampNeg) (r42.toInt64)) = 0 → False))))) ∧ (¬ r43 = r15 → False)))))))))) ∧ (¬ (xs (x4 + 2).toNatClampNeg) = 0 → wp_La_kern S (xs (x4 + 1).toNatClampNeg) 1 (fun r60 f46 f47 f48 f49 f50 f51 f52 f53 f54 f55 v56 v57 v58 v59 => (vp_in (x4 + 1) L ∧ (vp_in (x4 + 2) L ∧ (((xs (x4 + 2).toNatClampNeg) = 0 → wp_Mo_kern T (xs (x4 + 1).toNatClampNeg) 0 (fun r72 f61 f62 f63 f64 f65 f66 f67 f68 v69 v70 v71 => wp_Mo_thrown (sI (sI (sI (sA (sA (sA (sA (sA (sA (sA (sA T 1 f61) 2 f62) 3 f63) 4 f64) 5 f65) 6 f66) 7 f67) 8 f68) 0 v69) 1 v70) 34 v71)  (fun r73 => ((r73 = r60 → ((¬ r60 = 0 → (∀ v74 : Int32, v74 = x4 + 6 → Kh (sI (sI (sI (sI (sL (sA (sA (sA (sA (sA (sA (sA (sA (sA S 2 f46) 3 f47) 4 f48) 5 f49) 6 f50) 7 f51) 8 f52) 9 f53) 10 f54) 49 f55) 73 v56) 2626 v57) 2627 v58) 2628 v59) (sI (sI (sI (sA (sA (sA (sA (sA (sA (sA (sA T 1 f61) 2 f62) 3 f63) 4 f64) 5 f65) 6 f66) 7 f67) 8 f68) 0 v69) 1 v70) 34 v71) v74)) ∧ (r60 = 0 → (((lg_cmp (f55 (0 : Int32).toNatClampNeg) (r72.toInt64)) = 0 → (∀ v75 : Int32, v75 = x4 + 6 → Kh (sI (sI (sI (sI (sL (sA (sA (sA (sA (sA (sA (sA (sA (sA S 2 f46) 3 f47) 4 f48) 5 f49) 6 f50) 7 f51) 8 f52) 9 f53) 10 f54) 49 f55) 73 v56) 2626 v57) 2627 v58) 2628 v59) (sI (sI (sI (sA (sA (sA (sA (sA (sA (sA (sA T 1 f61) 2 f62) 3 f63) 4 f64) 5 f65) 6 f66) 7 f67) 8 f68) 0 v69) 1 v70) 34 v71) v75)) ∧ (¬ (lg_cmp (f55 (0 : Int32).toNatClampNeg) (r72.toInt64)) = 0 → False))))) ∧ (¬ r73 = r60 → False))))) ∧ (¬ (xs (x4 + 2).toNatClampNeg) = 0 → wp_Mo_kern T (xs (x4 + 1).toNatClampNeg) 1 (fun r87 f76 f77 f78 f79 f80 f81 f82 f83 v84 v85 v86 => wp_Mo_thrown (sI (sI (sI (sA (sA (sA (sA (sA (sA (sA (sA T 1 f76) 2 f77) 3 f78) 4 f79) 5 f80) 6 f81) 7 f82) 8 f83) 0 v84) 1 v85) 34 v86)  (fun r88 => ((r88 = r60 → ((¬ r60 = 0 → (∀ v89 : Int32, v89 = x4 + 6 → Kh (sI (sI (sI (sI (sL (sA (sA (sA (sA (sA (sA (sA (sA (sA S 2 f46) 3 f47) 4 f48) 5 f49) 6 f50) 7 f51) 8 f52) 9 f53) 10 f54) 49 f55) 73 v56) 2626 v57) 2627 v58) 2628 v59) (sI (sI (sI (sA (sA (sA (sA (sA (sA (sA (sA T 1 f76) 2 f77) 3 f78) 4 f79) 5 f80) 6 f81) 7 f82) 8 f83) 0 v84) 1 v85) 34 v86) v89)) ∧ (r60 = 0 → (((lg_cmp (f55 (0 : Int32).toNatClampNeg) (r87.toInt64)) = 0 → (∀ v90 : Int32, v90 = x4 + 6 → Kh (sI (sI (sI (sI (sL (sA (sA (sA (sA (sA (sA (sA (sA (sA S 2 f46) 3 f47) 4 f48) 5 f49) 6 f50) 7 f51) 8 f52) 9 f53) 10 f54) 49 f55) 73 v56) 2626 v57) 2627 v58) 2628 v59) (sI (sI (sI (sA (sA (sA (sA (sA (sA (sA (sA T 1 f76) 2 f77) 3 f78) 4 f79) 5 f80) 6 f81) 7 f82) 8 f83) 0 v84) 1 v85) 34 v86) v90)) ∧ (¬ (lg_cmp (f55 (0 : Int32).toNatClampNeg) (r87.toInt64)) = 0 → False))))) ∧ (¬ r88 = r60 → False)))))))))))))
set_option maxRecDepth 100000 in
def wl_law_348 (L : Nat) (xs : Nat → Int32) (Kh : ST → ST → Int32 → Prop) (S T : ST) (x4 : Int32) : Prop := (vp_in (x4 + 1) L ∧ wp_La_penalty S (xs (x4 + 1).toNatClampNeg) (fun r15 f1 f2 f3 f4 f5 f6 f7 f8 f9 f10 v11 v12 v13 v14 => (vp_in (x4 + 1) L ∧ wp_Mo_penalty T (xs (x4 + 1).toNatClampNeg) (fun r27 f16 f17 f18 f19 f20 f21 f22 f23 v24 v25 v26 => wp_Mo_thrown (sI (sI (sI (sA (sA (sA (sA (sA (sA (sA (sA T 1 f16) 2 f17) 3 f18) 4 f19) 5 f20) 6 f21) 7 f22) 8 f23) 0 v24) 1 v25) 34 v26)  (fun r28 => ((r28 = r15 → ((¬ r15 = 0 → (∀ v29 : Int32, v29 = x4 + 6 → Kh (sI (sI (sI (sI (sL (sA (sA (sA (sA (sA (sA (sA (sA (sA S 2 f1) 3 f2) 4 f3) 5 f4) 6 f5) 7 f6) 8 f7) 9 f8) 10 f9) 49 f10) 73 v11) 2626 v12) 2627 v13) 2628 v14) (sI (sI (sI (sA (sA (sA (sA (sA (sA (sA (sA T 1 f16) 2 f17) 3 f18) 4 f19) 5 f20) 6 f21) 7 f22) 8 f23) 0 v24) 1 v25) 34 v26) v29)) ∧ (r15 = 0 → (((lg_cmp (f10 (0 : Int32).toNatClampNeg) (r27.toInt64)) = 0 → (∀ v30 : Int32, v30 = x4 + 6 → Kh (sI (sI (sI (sI (sL (sA (sA (sA (sA (sA (sA (sA (sA (sA S 2 f1) 3 f2) 4 f3) 5 f4) 6 f5) 7 f6) 8 f7) 9 f8) 10 f9) 49 f10) 73 v11) 2626 v12) 2627 v13) 2628 v14) (sI (sI (sI (sA (sA (sA (sA (sA (sA (sA (sA T 1 f16) 2 f17) 3 f18) 4 f19) 5 f20) 6 f21) 7 f22) 8 f23) 0 v24) 1 v25) 34 v26) v30)) ∧ (¬ (lg_cmp (f10 (0 : Int32).toNatClampNeg) (r27.toInt64)) = 0 → False))))) ∧ (¬ r28 = r15 → False)))))))
set_option maxRecDepth 100000 in
def wl_law_404 (L : Nat) (xs : Nat → Int32) (Kh : ST → ST → Int32 → Prop) (S T : ST) (x4 : Int32) : Prop := (vp_in (x4 + 1) L ∧ (vp_in (x4 + 2) L ∧ (vp_in (x4 + 3) L ∧ wp_La_hyphen S (xs (x4 + 1).toNatClampNeg) (xs (x4 + 2).toNatClampNeg) (xs (x4 + 3).toNatClampNeg) (fun r15 f1 f2 f3 f4 f5 f6 f7 f8 f9 f10 v11 v12 v13 v14 => (vp_in (x4 + 1) L ∧ (vp_in (x4 + 2) L ∧ (vp_in (x4 + 3) L ∧ wp_Mo_hyphen T (xs (x4 + 1).toNatClampNeg) (xs (x4 + 2).toNatClampNeg) (xs (x4 + 3).toNatClampNeg) (fun r27 f16 f17 f18 f19 f20 f21 f22 f23 v24 v25 v26 => wp_Mo_thrown (sI (sI (sI (sA (sA (sA (sA (sA (sA (sA (sA T 1 f16) 2 f17) 3 f18) 4 f19) 5 f20) 6 f21) 7 f22) 8 f23) 0 v24) 1 v25) 34 v26)  (fun r28 => ((r28 = r15 → ((¬ r15 = 0 → (∀ v29 : Int32, v29 = x4 + 6 → Kh (sI (sI (sI (sI (sL (sA (sA (sA (sA (sA (sA (sA (sA (sA S 2 f1) 3 f2) 4 f3) 5 f4) 6 f5) 7 f6) 8 f7) 9 f8) 10 f9) 49 f10) 73 v11) 2626 v12) 2627 v13) 2628 v14) (sI (sI (sI (sA (sA (sA (sA (sA (sA (sA (sA T 1 f16) 2 f17) 3 f18) 4 f19) 5 f20) 6 f21) 7 f22) 8 f23) 0 v24) 1 v25) 34 v26) v29)) ∧ (r15 = 0 → (((lg_cmp (f10 (0 : Int32).toNatClampNeg) (r27.toInt64)) = 0 → (∀ v30 : Int32, v30 = x4 + 6 → Kh (sI (sI (sI (sI (sL (sA (sA (sA (sA (sA (sA (sA (sA (sA S 2 f1) 3 f2) 4 f3) 5 f4) 6 f5) 7 f6) 8 f7) 9 f8) 10 f9) 49 f10) 73 v11) 2626 v12) 2627 v13) 2628 v14) (sI (sI (sI (sA (sA (sA (sA (sA (sA (sA (sA T 1 f16) 2 f17) 3 f18) 4 f19) 5 f20) 6 f21) 7 f22) 8 f23) 0 v24) 1 v25) 34 v26) v30)) ∧ (¬ (lg_cmp (f10 (0 : Int32).toNatClampNeg) (r27.toInt64)) = 0 → False))))) ∧ (¬ r28 = r15 → False)))))))))))
set_option maxRecDepth 100000 in
def wl_law_484 (L : Nat) (xs : Nat → Int32) (Kh : ST → ST → Int32 → Prop) (S T : ST) (x4 : Int32) : Prop := (vp_in (x4 + 1) L ∧ wp_Lb_keep S (xs (x4 + 1).toNatClampNeg) (fun r5 v1 v2 v3 v4 => (vp_in (x4 + 1) L ∧ wp_Mo_keep T (xs (x4 + 1).toNatClampNeg) (fun r9 v6 v7 v8 => ((r5 = r9 → (∀ v10 : Int32, v10 = x4 + 6 → Kh (sI (sI (sI (sI S 73 v1) 2626 v2) 2627 v3) 2628 v4) (sI (sI (sI T 0 v6) 1 v7) 34 v8) v10)) ∧ (¬ r5 = r9 → False))))))
set_option maxRecDepth 100000 in
def wl_law_509 (L : Nat) (xs : Nat → Int32) (Kh : ST → ST → Int32 → Prop) (S T : ST) (x4 : Int32) : Prop := wp_Lb_items S  (fun r1 => wp_Mo_items T  (fun r3 v2 => ((r1 = r3 → (∀ v4 : Int32, v4 = x4 + 6 → Kh S (sI T 0 v2) v4)) ∧ (¬ r1 = r3 → False))))
set_option maxRecDepth 100000 in
def wl_law_522 (L : Nat) (xs : Nat → Int32) (Kh : ST → ST → Int32 → Prop) (S T : ST) (x4 : Int32) : Prop := (vp_in (x4 + 1) L ∧ (vp_in (x4 + 2) L ∧ wp_La_set S (xs (x4 + 1).toNatClampNeg) (xs (x4 + 2).toNatClampNeg) (fun r2 f1 => (vp_in (x4 + 1) L ∧ (vp_in (x4 + 2) L ∧ wp_Mo_set T (xs (x4 + 1).toNatClampNeg) (xs (x4 + 2).toNatClampNeg) (fun f3 v4 => wp_Mo_thrown (sI (sA T 9 f3) 0 v4)  (fun r5 => ((r5 = r2 → (∀ v6 : Int32, v6 = x4 + 6 → Kh (sA S 12 f1) (sI (sA T 9 f3) 0 v4) v6)) ∧ (¬ r5 = r2 → False)))))))))
set_option maxRecDepth 100000 in
def wl_law_570 (L : Nat) (xs : Nat → Int32) (Kh : ST → ST → Int32 → Prop) (S T : ST) (x4 : Int32) : Prop := (vp_in (x4 + 1) L ∧ (vp_in (x4 + 2) L ∧ wp_La_wide S (xs (x4 + 1).toNatClampNeg) (xs (x4 + 2).toNatClampNeg) (fun r2 f1 => (vp_in (x4 + 1) L ∧ (vp_in (x4 + 2) L ∧ wp_Mo_wide T (xs (x4 + 1).toNatClampNeg) (xs (x4 + 2).toNatClampNeg) (fun f3 v4 => wp_Mo_thrown (sI (sA T 10 f3) 0 v4)  (fun r5 => ((r5 = r2 → (∀ v6 : Int32, v6 = x4 + 6 → Kh (sA S 13 f1) (sI (sA T 10 f3) 0 v4) v6)) ∧ (¬ r5 = r2 → False)))))))))
set_option maxRecDepth 100000 in
def wl_law_618 (L : Nat) (xs : Nat → Int32) (Kh : ST → ST → Int32 → Prop) (S T : ST) (x4 : Int32) : Prop := (vp_in (x4 + 1) L ∧ (vp_in (x4 + 2) L ∧ (vp_in (x4 + 3) L ∧ (vp_in (x4 + 4) L ∧ (vp_in (x4 + 5) L ∧ wp_La_around S (xs (x4 + 1).toNatClampNeg) (xs (x4 + 2).toNatClampNeg) (xs (x4 + 3).toNatClampNeg) (xs (x4 + 4).toNatClampNeg) (xs (x4 + 5).toNatClampNeg) (fun r13 v1 v2 v3 v4 v5 v6 v7 v8 v9 v10 v11 v12 => (vp_in (x4 + 1) L ∧ (vp_in (x4 + 2) L ∧ (vp_in (x4 + 3) L ∧ (vp_in (x4 + 4) L ∧ (vp_in (x4 + 5) L ∧ wp_Mo_around T (xs (x4 + 1).toNatClampNeg) (xs (x4 + 2).toNatClampNeg) (xs (x4 + 3).toNatClampNeg) (xs (x4 + 4).toNatClampNeg) (xs (x4 + 5).toNatClampNeg) (fun f14 f15 f16 f17 v18 => wp_Mo_thrown (sI (sA (sA (sA (sA T 11 f14) 12 f15) 13 f16) 14 f17) 0 v18)  (fun r19 => ((r19 = r13 → (∀ v20 : Int32, v20 = x4 + 6 → Kh (sI (sI (sI (sI (sI (sI (sI (sI (sI (sI (sI (sI S 896 v1) 897 v2) 898 v3) 899 v4) 960 v5) 961 v6) 962 v7) 963 v8) 1024 v9) 1025 v10) 1026 v11) 1027 v12) (sI (sA (sA (sA (sA T 11 f14) 12 f15) 13 f16) 14 f17) 0 v18) v20)) ∧ (¬ r19 = r13 → False)))))))))))))))
set_option maxRecDepth 100000 in
def wl_law_702 (L : Nat) (xs : Nat → Int32) (Kh : ST → ST → Int32 → Prop) (S T : ST) (x4 : Int32) : Prop := wp_La_breakUp S  (fun r45 f1 f2 f3 f4 f5 f6 f7 f8 f9 f10 f11 f12 f13 f14 f15 f16 f17 f18 f19 f20 f21 f22 f23 f24 f25 f26 v27 v28 v29 v30 v31 v32 v33 v34 v35 v36 v37 v38 v39 v40 v41 v42 v43 v44 => wp_Mo_breakUp T  (fun r83 f46 f47 f48 f49 f50 f51 f52 f53 f54 f55 f56 f57 f58 f59 f60 f61 f62 f63 f64 f65 f66 v67 v68 v69 v70 v71 v72 v73 v74 v75 v76 v77 v78 v79 v80 v81 v82 => wp_Mo_thrown (sI (sI (sI (sI (sI (sI (sI (sI (sI (sI (sI (sI (sI (sI (sI (sI (sL (sL (sA (sA (sA (sA (sA (sA (sA (sA (sA (sA (sA (sA (sA (sA (sA (sA (sA (sA (sA T 1 f46) 2 f47) 3 f48) 4 f49) 5 f50) 6 f51) 7 f52) 8 f53) 15 f54) 16 f55) 17 f56) 19 f57) 20 f58) 21 f59) 22 f60) 23 f61) 24 f62) 25 f63) 26 f64) 18 f65) 27 f66) 0 v67) 1 v68) 16 v69) 17 v70) 18 v71) 19 v72) 20 v73) 27 v74) 28 v75) 30 v76) 31 v77) 32 v78) 33 v79) 34 v80) 35 v81) 36 v82)  (fun r84 => ((r84 = r45 → ((¬ r45 = 0 → (∀ v85 : Int32, v85 = x4 + 6 → Kh (sI (sI (sI (sI (sI (sI (sI (sI (sI (sI (sI (sI (sI (sI (sI (sI (sI (sI (sL (sL (sL (sL (sA (sA (sA (sA (sA (sA (sA (sA (sA (sA (sA (sA (sA (sA (sA (sA (sA (sA (sA (sA (sA (sA S 18 f1) 19 f2) 20 f3) 21 f4) 22 f5) 23 f6) 24 f7) 25 f8) 26 f9) 27 f10) 28 f11) 32 f12) 33 f13) 34 f14) 35 f15) 39 f16) 40 f17) 43 f18) 44 f19) 45 f20) 46 f21) 47 f22) 36 f23) 38 f24) 48 f25) 49 f26) 1099 v27) 1862 v28) 1863 v29) 1864 v30) 1865 v31) 1922 v32) 1923 v33) 1924 v34) 1925 v35) 1926 v36) 1927 v37) 1928 v38) 1989 v39) 2370 v40) 2371 v41) 2626 v42) 2627 v43) 2628 v44) (sI (sI (sI (sI (sI (sI (sI (sI (sI (sI (sI (sI (sI (sI (sI (sI (sL (sL (sA (sA (sA (sA (sA (sA (sA (sA (sA (sA (sA (sA (sA (sA (sA (sA (sA (sA (sA T 1 f46) 2 f47) 3 f48) 4 f49) 5 f50) 6 f51) 7 f52) 8 f53) 15 f54) 16 f55) 17 f56) 19 f57) 20 f58) 21 f59) 22 f60) 23 f61) 24 f62) 25 f63) 26 f64) 18 f65) 27 f66) 0 v67) 1 v68) 16 v69) 17 v70) 18 v71) 19 v72) 20 v73) 27 v74) 28 v75) 30 v76) 31 v77) 32 v78) 33 v79) 34 v80) 35 v81) 36 v82) v85)) ∧ (r45 = 0 → (((lg_cmp (f26 (0 : Int32).toNatClampNeg) (r83.toInt64)) = 0 → (∀ v86 : Int32, v86 = x4 + 6 → Kh (sI (sI (sI (sI (sI (sI (sI (sI (sI (sI (sI (sI (sI (sI (sI (sI (sI (sI (sL (sL (sL (sL (sA (sA (sA (sA (sA (sA (sA (sA (sA (sA (sA (sA (sA (sA (sA (sA (sA (sA (sA (sA (sA (sA S 18 f1) 19 f2) 20 f3) 21 f4) 22 f5) 23 f6) 24 f7) 25 f8) 26 f9) 27 f10) 28 f11) 32 f12) 33 f13) 34 f14) 35 f15) 39 f16) 40 f17) 43 f18) 44 f19) 45 f20) 46 f21) 47 f22) 36 f23) 38 f24) 48 f25) 49 f26) 1099 v27) 1862 v28) 1863 v29) 1864 v30) 1865 v31) 1922 v32) 1923 v33) 1924 v34) 1925 v35) 1926 v36) 1927 v37) 1928 v38) 1989 v39) 2370 v40) 2371 v41) 2626 v42) 2627 v43) 2628 v44) (sI (sI (sI (sI (sI (sI (sI (sI (sI (sI (sI (sI (sI (sI (sI (sI (sL (sL (sA (sA (sA (sA (sA (sA (sA (sA (sA (sA (sA (sA (sA (sA (sA (sA (sA (sA (sA T 1 f46) 2 f47) 3 f48) 4 f49) 5 f50) 6 f51) 7 f52) 8 f53) 15 f54) 16 f55) 17 f56) 19 f57) 20 f58) 21 f59) 22 f60) 23 f61) 24 f62) 25 f63) 26 f64) 18 f65) 27 f66) 0 v67) 1 v68) 16 v69) 17 v70) 18 v71) 19 v72) 20 v73) 27 v74) 28 v75) 30 v76) 31 v77) 32 v78) 33 v79) 34 v80) 35 v81) 36 v82) v86)) ∧ (¬ (lg_cmp (f26 (0 : Int32).toNatClampNeg) (r83.toInt64)) = 0 → False))))) ∧ (¬ r84 = r45 → False)))))
set_option maxRecDepth 100000 in
def wl_law_746 (L : Nat) (xs : Nat → Int32) (Kh : ST → ST → Int32 → Prop) (S T : ST) (x4 : Int32) : Prop := wp_Lb_pass S  (fun r1 => wp_Mo_pass T  (fun r3 v2 => ((r1 = r3 → (∀ v4 : Int32, v4 = x4 + 6 → Kh S (sI T 0 v2) v4)) ∧ (¬ r1 = r3 → False))))
set_option maxRecDepth 100000 in
def wl_law_759 (L : Nat) (xs : Nat → Int32) (Kh : ST → ST → Int32 → Prop) (S T : ST) (x4 : Int32) : Prop := wp_Lb_nodes S  (fun r1 => wp_Mo_nodes T  (fun r3 v2 => ((r1 = r3 → (∀ v4 : Int32, v4 = x4 + 6 → Kh S (sI T 0 v2) v4)) ∧ (¬ r1 = r3 → False))))
set_option maxRecDepth 100000 in
def wl_law_772 (L : Nat) (xs : Nat → Int32) (Kh : ST → ST → Int32 → Prop) (S T : ST) (x4 : Int32) : Prop := (vp_in (x4 + 1) L ∧ (vp_in (x4 + 2) L ∧ wp_La_line S (xs (x4 + 1).toNatClampNeg) (xs (x4 + 2).toNatClampNeg) (fun r2 f1 => (vp_in (x4 + 1) L ∧ (vp_in (x4 + 2) L ∧ wp_Mo_line T (xs (x4 + 1).toNatClampNeg) (xs (x4 + 2).toNatClampNeg) (fun r4 v3 => wp_Mo_thrown (sI T 0 v3)  (fun r5 => ((r5 = r2 → ((¬ r2 = 0 → (∀ v6 : Int32, v6 = x4 + 6 → Kh (sL S 49 f1) (sI T 0 v3) v6)) ∧ (r2 = 0 → (((lg_cmp (f1 (0 : Int32).toNatClampNeg) (r4.toInt64)) = 0 → (∀ v7 : Int32, v7 = x4 + 6 → Kh (sL S 49 f1) (sI T 0 v3) v7)) ∧ (¬ (lg_cmp (f1 (0 : Int32).toNatClampNeg) (r4.toInt64)) = 0 → False))))) ∧ (¬ r5 = r2 → False)))))))))
set_option maxRecDepth 100000 in
def wl_law_840 (L : Nat) (xs : Nat → Int32) (Kh : ST → ST → Int32 → Prop) (S T : ST) (x4 : Int32) : Prop := (vp_in (x4 + 1) L ∧ wp_La_total S (xs (x4 + 1).toNatClampNeg) (fun r2 f1 => (vp_in (x4 + 1) L ∧ wp_Mo_total T (xs (x4 + 1).toNatClampNeg) (fun r4 v3 => wp_Mo_thrown (sI T 0 v3)  (fun r5 => ((r5 = r2 → ((¬ r2 = 0 → (∀ v6 : Int32, v6 = x4 + 6 → Kh (sL S 49 f1) (sI T 0 v3) v6)) ∧ (r2 = 0 → (((lg_cmp (f1 (0 : Int32).toNatClampNeg) r4) = 0 → (∀ v7 : Int32, v7 = x4 + 6 → Kh (sL S 49 f1) (sI T 0 v3) v7)) ∧ (¬ (lg_cmp (f1 (0 : Int32).toNatClampNeg) r4) = 0 → False))))) ∧ (¬ r5 = r2 → False)))))))
set_option maxRecDepth 100000 in
def wl_law (L : Nat) (xs : Nat → Int32) : Nat → ST → ST → Int32 → Prop
  | 0, _, _, _ => False
  | n + 1, S, T, x4 => ((((Int32.ofNat L) - 6) < x4 → True) ∧ (¬ ((Int32.ofNat L) - 6) < x4 → (vp_in x4 L ∧ (∀ v1 : Int32, v1 = ((xs x4.toNatClampNeg) &&& 15) → (v1 = 0 → wl_law_116 L xs (fun S T x4 => wl_law L xs n S T x4) S T x4) ∧ (v1 = 1 → wl_law_172 L xs (fun S T x4 => wl_law L xs n S T x4) S T x4) ∧ (v1 = 2 → wl_law_264 L xs (fun S T x4 => wl_law L xs n S T x4) S T x4) ∧ (v1 = 3 → wl_law_348 L xs (fun S T x4 => wl_law L xs n S T x4) S T x4) ∧ (v1 = 4 → wl_law_404 L xs (fun S T x4 => wl_law L xs n S T x4) S T x4) ∧ (v1 = 5 → wl_law_484 L xs (fun S T x4 => wl_law L xs n S T x4) S T x4) ∧ (v1 = 6 → wl_law_509 L xs (fun S T x4 => wl_law L xs n S T x4) S T x4) ∧ (v1 = 7 → wl_law_522 L xs (fun S T x4 => wl_law L xs n S T x4) S T x4) ∧ (v1 = 8 → wl_law_570 L xs (fun S T x4 => wl_law L xs n S T x4) S T x4) ∧ (v1 = 9 → wl_law_618 L xs (fun S T x4 => wl_law L xs n S T x4) S T x4) ∧ (v1 = 10 → wl_law_702 L xs (fun S T x4 => wl_law L xs n S T x4) S T x4) ∧ (v1 = 11 → wl_law_746 L xs (fun S T x4 => wl_law L xs n S T x4) S T x4) ∧ (v1 = 12 → wl_law_759 L xs (fun S T x4 => wl_law L xs n S T x4) S T x4) ∧ (v1 = 13 → wl_law_772 L xs (fun S T x4 => wl_law L xs n S T x4) S T x4) ∧ (v1 = 14 → wl_law_840 L xs (fun S T x4 => wl_law L xs n S T x4) S T x4) ∧ (¬ v1 = 0 → ¬ v1 = 1 → ¬ v1 = 2 → ¬ v1 = 3 → ¬ v1 = 4 → ¬ v1 = 5 → ¬ v1 = 6 → ¬ v1 = 7 → ¬ v1 = 8 → ¬ v1 = 9 → ¬ v1 = 10 → ¬ v1 = 11 → ¬ v1 = 12 → ¬ v1 = 13 → ¬ v1 = 14 → (∀ v2 : Int32, v2 = x4 + 6 → wl_law L xs n S T v2))))))
section
variable {p : Program} {l : Launch} {e : Env} {s : State} {m : MethodId} {below : List Frame} {meth : Method} {c : Code} {n0 : Nat} {G : va_G} {K : KT} {ad bd : Nat → Nat} {b L : Nat} {xs : Nat → Int32}
set_option maxHeartbeats 8000000 in
set_option maxRecDepth 100000 in
theorem w_law_116 (C : cx p s m #[Value.ref b] meth c code 8 "LineBreakerLaw" n0 G K) (hr : meth.sig.returnType = ret) (htr : l.stackTraces = false) (hX : va_X b L xs s s.heap) (hbl : b < n0) {cc dd : Nat} (hc9 : cc + 6 ≤ 601024) (hd9 : dd + 36 ≤ 7293034) {Kh : ST → ST → Int32 → Prop} (hk : ∀ (S T : ST) (x4 : Int32), Kh S T x4 → ∀ (H : Heap) (locs : List Loc) (ls : Array Slot), wn n0 G (wC K ad S ++ xo K ad S (wM K bd T)) s H locs → lv_has ls 8 [(0, .ref b), (1, .ref (ad 0)), (2, .ref (bd 0)), (3, .ref (ad 49)), (4, .int x4)] → W p l e room_1 s m #[Value.ref b] below meth c H locs (cc + 6) (dd + 36) (lw_Z below #[Value.ref b] s) (F0 m 23 ls [])) : ∀ (S T : ST) (x4 : Int32), wl_law_116 L xs Kh S T x4 → ∀ (H : Heap) (locs : List Loc) (ls : Array Slot), wn n0 G (wC K ad S ++ xo K ad S (wM K bd T)) s H locs → lv_has ls 8 [(0, .ref b), (1, .ref (ad 0)), (2, .ref (bd 0)), (3, .ref (ad 49)), (4, .int x4)] → W p l e room_1 s m #[Value.ref b] below meth c H locs cc dd (lw_Z below #[Value.ref b] s) (F0 m 116 ls []) := by
  have hx := C.1
  have hb := C.2.1
  have hts := C.2.2.2.2.1
  have hn0 := C.2.2.2.2.2.2.2.1
  have hbA : ¬ al n0 b := Nat.not_le.mpr hbl
  have hbl := Nat.lt_of_lt_of_le hbl hn0
  intro S T x4 hw H locs ls w hl
  unfold wl_law_116 at hw
  refine lv_aload_n hx hb d_law_116 rfl (lv_at hl 1 rfl) ?_
  refine lv_aload_n hx hb d_law_117 rfl (lv_at hl 0 rfl) ?_
  refine lv_iload hx hb d_law_118 (lv_at hl 4 rfl) ?_
  refine lv_iconst (v := 1) hx hb d_law_120 (by decide) ?_
  refine lv_iadd hx hb d_law_121 ?_
  refine va_sld hx hb hX hbl hbA w.2.2 hw.1 d_law_122 ?_
  have hw := hw.2
  refine lv_aload_n hx hb d_law_123 rfl (lv_at hl 3 rfl) ?_
  refine kc_i (st := fun (u : (Nat → Int32) × (Nat → Int32) × (Nat → Int32) × (Nat → Int32) × (Nat → Int32) × (Nat → Int32) × (Nat → Int32) × (Nat → Int32) × (Nat → Int32) × (Nat → Int64) × Int32 × Int32 × Int32 × Int32) => wC K ad (sI (sI (sI (sI (sL (sA (sA (sA (sA (sA (sA (sA (sA (sA S 2 u.1) 3 u.2.1) 4 u.2.2.1) 5 u.2.2.2.1) 6 u.2.2.2.2.1) 7 u.2.2.2.2.2.1) 8 u.2.2.2.2.2.2.1) 9 u.2.2.2.2.2.2.2.1) 10 u.2.2.2.2.2.2.2.2.1) 49 u.2.2.2.2.2.2.2.2.2.1) 73 u.2.2.2.2.2.2.2.2.2.2.1) 2626 u.2.2.2.2.2.2.2.2.2.2.2.1) 2627 u.2.2.2.2.2.2.2.2.2.2.2.2.1) 2628 u.2.2.2.2.2.2.2.2.2.2.2.2.2) ++ xo K ad (sI (sI (sI (sI (sL (sA (sA (sA (sA (sA (sA (sA (sA (sA S 2 u.1) 3 u.2.1) 4 u.2.2.1) 5 u.2.2.2.1) 6 u.2.2.2.2.1) 7 u.2.2.2.2.2.1) 8 u.2.2.2.2.2.2.1) 9 u.2.2.2.2.2.2.2.1) 10 u.2.2.2.2.2.2.2.2.1) 49 u.2.2.2.2.2.2.2.2.2.1) 73 u.2.2.2.2.2.2.2.2.2.2.1) 2626 u.2.2.2.2.2.2.2.2.2.2.2.1) 2627 u.2.2.2.2.2.2.2.2.2.2.2.2.1) 2628 u.2.2.2.2.2.2.2.2.2.2.2.2.2) (wM K bd T)) w (kr_W (y := y_La_box) (As := [.ref (ad 0), .int (xs (x4 + 1).toNatClampNeg), .ref (ad 49)]) (n := 3) C w (c_La_box l htr n0 G K ad (wM K bd T) S (xs (x4 + 1).toNatClampNeg) _ hw) kw_392 kw_393 kw_0 kw_394 (by decide +kernel) rfl rfl ⟨Nat.le_of_ble_eq_true rfl, Nat.le_of_ble_eq_true rfl⟩ rfl hl.1 rfl (Nat.le_of_ble_eq_true rfl) d_law_124 ⟨by show _ ≤ 601024; omega, by show _ ≤ 7293034; omega⟩) (fun r15 u H locs hw w => ?_)
  obtain ⟨f1, f2, f3, f4, f5, f6, f7, f8, f9, f10, v11, v12, v13, v14⟩ := u
  dsimp only at hw
  have w : wn n0 G (wC K ad (sI (sI (sI (sI (sL (sA (sA (sA (sA (sA (sA (sA (sA (sA S 2 f1) 3 f2) 4 f3) 5 f4) 6 f5) 7 f6) 8 f7) 9 f8) 10 f9) 49 f10) 73 v11) 2626 v12) 2627 v13) 2628 v14) ++ xo K ad (sI (sI (sI (sI (sL (sA (sA (sA (sA (sA (sA (sA (sA (sA S 2 f1) 3 f2) 4 f3) 5 f4) 6 f5) 7 f6) 8 f7) 9 f8) 10 f9) 49 f10) 73 v11) 2626 v12) 2627 v13) 2628 v14) (wM K bd T)) s H locs := w
  refine lv_istore (lv' := [(5, .int r15), (0, .ref b), (1, .ref (ad 0)), (2, .ref (bd 0)), (3, .ref (ad 49)), (4, .int x4)]) hx hb d_law_127 hl (by decide) rfl (fun ls hl => ?_)
  refine lv_aload_n hx hb d_law_129 rfl (lv_at hl 3 rfl) ?_
  refine lv_aload_n hx hb d_law_130 rfl (lv_at hl 1 rfl) ?_
  refine lv_iload hx hb d_law_131 (lv_at hl 5 rfl) ?_
  refine lv_iconst (v := 1) hx hb d_law_133 (by decide) ?_
  refine lv_iadd hx hb d_law_134 ?_
  refine va_sld hx hb hX hbl hbA w.2.2 hw.1 d_law_135 ?_
  have hw := hw.2
  have wm := lw_toM w
  refine kc_i (st := fun (u : (Nat → Int32) × (Nat → Int32) × (Nat → Int32) × (Nat → Int32) × (Nat → Int32) × (Nat → Int32) × (Nat → Int32) × (Nat → Int32) × Int32 × Int32 × Int32) => wM K bd (sI (sI (sI (sA (sA (sA (sA (sA (sA (sA (sA T 1 u.1) 2 u.2.1) 3 u.2.2.1) 4 u.2.2.2.1) 5 u.2.2.2.2.1) 6 u.2.2.2.2.2.1) 7 u.2.2.2.2.2.2.1) 8 u.2.2.2.2.2.2.2.1) 0 u.2.2.2.2.2.2.2.2.1) 1 u.2.2.2.2.2.2.2.2.2.1) 34 u.2.2.2.2.2.2.2.2.2.2) ++ (wC K ad (sI (sI (sI (sI (sL (sA (sA (sA (sA (sA (sA (sA (sA (sA S 2 f1) 3 f2) 4 f3) 5 f4) 6 f5) 7 f6) 8 f7) 9 f8) 10 f9) 49 f10) 73 v11) 2626 v12) 2627 v13) 2628 v14) ++ xo K ad (sI (sI (sI (sI (sL (sA (sA (sA (sA (sA (sA (sA (sA (sA S 2 f1) 3 f2) 4 f3) 5 f4) 6 f5) 7 f6) 8 f7) 9 f8) 10 f9) 49 f10) 73 v11) 2626 v12) 2627 v13) 2628 v14) [])) wm (kr_V (y := y_Mo_box) (C1 := R_Mo) (T := F_Mo) (N := 43) (ci := 10) (q0 := 0) (As := [.int (xs (x4 + 1).toNatClampNeg)]) (n := 1) C wm (c_Mo_box l n0 G K bd (wC K ad (sI (sI (sI (sI (sL (sA (sA (sA (sA (sA (sA (sA (sA (sA S 2 f1) 3 f2) 4 f3) 5 f4) 6 f5) 7 f6) 8 f7) 9 f8) 10 f9) 49 f10) 73 v11) 2626 v12) 2627 v13) 2628 v14) ++ xo K ad (sI (sI (sI (sI (sL (sA (sA (sA (sA (sA (sA (sA (sA (sA S 2 f1) 3 f2) 4 f3) 5 f4) 6 f5) 7 f6) 8 f7) 9 f8) 10 f9) 49 f10) 73 v11) 2626 v12) 2627 v13) 2628 v14) []) T (xs (x4 + 1).toNatClampNeg) _ hw) (gw_V kw_1011 kw_1012 kw_1013 kw_11 kw_1014) (by decide +kernel) rfl rfl ⟨Nat.le_of_ble_eq_true rfl, Nat.le_of_ble_eq_true rfl⟩ rfl rfl rfl hl.1 rfl (Nat.le_of_ble_eq_true rfl) d_law_136 ⟨by show _ ≤ 601024; omega, by show _ ≤ 7293034; omega⟩) (fun r27 u H locs hw w => ?_)
  obtain ⟨f16, f17, f18, f19, f20, f21, f22, f23, v24, v25, v26⟩ := u
  dsimp only at hw
  have w : wn n0 G (wM K bd (sI (sI (sI (sA (sA (sA (sA (sA (sA (sA (sA T 1 f16) 2 f17) 3 f18) 4 f19) 5 f20) 6 f21) 7 f22) 8 f23) 0 v24) 1 v25) 34 v26) ++ (wC K ad (sI (sI (sI (sI (sL (sA (sA (sA (sA (sA (sA (sA (sA (sA S 2 f1) 3 f2) 4 f3) 5 f4) 6 f5) 7 f6) 8 f7) 9 f8) 10 f9) 49 f10) 73 v11) 2626 v12) 2627 v13) 2628 v14) ++ xo K ad (sI (sI (sI (sI (sL (sA (sA (sA (sA (sA (sA (sA (sA (sA S 2 f1) 3 f2) 4 f3) 5 f4) 6 f5) 7 f6) 8 f7) 9 f8) 10 f9) 49 f10) 73 v11) 2626 v12) 2627 v13) 2628 v14) [])) s H locs := w
  have w := lw_toC w
  refine lv_istore (lv' := [(6, .int r27), (5, .int r15), (0, .ref b), (1, .ref (ad 0)), (2, .ref (bd 0)), (3, .ref (ad 49)), (4, .int x4)]) hx hb d_law_139 hl (by decide) rfl (fun ls hl => ?_)
  refine lv_aload_n hx hb d_law_141 rfl (lv_at hl 4 rfl) ?_
  have wm := lw_toM w
  refine kd_i (kr_V (y := y_Mo_thrown) (C1 := R_Mo) (T := F_Mo) (N := 43) (ci := 10) (q0 := 0) (As := []) (n := 0) C wm (c_Mo_thrown l n0 G K bd (wC K ad (sI (sI (sI (sI (sL (sA (sA (sA (sA (sA (sA (sA (sA (sA S 2 f1) 3 f2) 4 f3) 5 f4) 6 f5) 7 f6) 8 f7) 9 f8) 10 f9) 49 f10) 73 v11) 2626 v12) 2627 v13) 2628 v14) ++ xo K ad (sI (sI (sI (sI (sL (sA (sA (sA (sA (sA (sA (sA (sA (sA S 2 f1) 3 f2) 4 f3) 5 f4) 6 f5) 7 f6) 8 f7) 9 f8) 10 f9) 49 f10) 73 v11) 2626 v12) 2627 v13) 2628 v14) []) (sI (sI (sI (sA (sA (sA (sA (sA (sA (sA (sA T 1 f16) 2 f17) 3 f18) 4 f19) 5 f20) 6 f21) 7 f22) 8 f23) 0 v24) 1 v25) 34 v26)  _ hw) (gw_V kw_1007 kw_1008 kw_1009 kw_11 kw_1010) (by decide +kernel) rfl rfl ⟨Nat.le_of_ble_eq_true rfl, Nat.le_of_ble_eq_true rfl⟩ rfl rfl rfl hl.1 rfl (Nat.le_of_ble_eq_true rfl) d_law_142 ⟨by show _ ≤ 601024; omega, by show _ ≤ 7293034; omega⟩) (fun r28 hw => ?_)
  refine lv_iload hx hb d_law_145 (lv_at hl 1 rfl) ?_
  refine lv_icmp_eq (tgt := 152) hx hb d_law_147 (by decide) (fun hc => ?_) (fun hc => ?_)
  · have hw := hw.1 hc
    refine lv_iload hx hb d_law_152 (lv_at hl 1 rfl) ?_
    refine lv_if_ne (tgt := 169) hx hb d_law_154 (by decide) (fun hc => ?_) (fun hc => ?_)
    · have hw := hw.1 hc
      refine lv_goto (tgt := 895) hx hb d_law_169 (by decide) ?_
      obtain ⟨v29, ev29⟩ : ∃ y : Int32, y = x4 + 6 := ⟨_, rfl⟩
      refine lv_iinc (v := v29) (lv' := [(4, .int v29), (6, .int r27), (5, .int r15), (0, .ref b), (1, .ref (ad 0)), (2, .ref (bd 0)), (3, .ref (ad 49))]) hx hb d_law_895 hl (k := 6) rfl (by rw [ev29]; rfl) (by decide) rfl (fun ls hl => ?_)
      have hw := hw v29 ev29
      refine lv_goto (tgt := 23) hx hb d_law_898 (by decide) ?_
      refine W.widen (k := cc + 6) (n := dd + 36) (by omega) (by omega) ?_
      exact hk (sI (sI (sI (sI (sL (sA (sA (sA (sA (sA (sA (sA (sA (sA S 2 f1) 3 f2) 4 f3) 5 f4) 6 f5) 7 f6) 8 f7) 9 f8) 10 f9) 49 f10) 73 v11) 2626 v12) 2627 v13) 2628 v14) (sI (sI (sI (sA (sA (sA (sA (sA (sA (sA (sA T 1 f16) 2 f17) 3 f18) 4 f19) 5 f20) 6 f21) 7 f22) 8 f23) 0 v24) 1 v25) 34 v26) v29 hw _ _ _ (wn_eq w rfl) (lv_sub hl [3, 4, 5, 6, 0] rfl)
    · have hw := hw.2 hc
      refine lv_aload_n hx hb d_law_157 rfl (lv_at hl 5 rfl) ?_
      refine lv_iconst (v := 0) hx hb d_law_158 (by decide) ?_
      refine ka_l (f := f10) C w 49 rfl (vp_in_nI (n := 0) (N := 1) (by decide) (by decide)) d_law_159 ?_
      refine lv_iload hx hb d_law_160 (lv_at hl 0 rfl) ?_
      refine lv_i2l hx hb d_law_162 rfl ?_
      refine W.lcmp hx hb d_law_163 ?_
      refine lv_if_eq (tgt := 169) hx hb d_law_164 (by decide) (fun hc => ?_) (fun hc => ?_)
      · have hw := hw.1 hc
        refine lv_goto (tgt := 895) hx hb d_law_169 (by decide) ?_
        obtain ⟨v30, ev30⟩ : ∃ y : Int32, y = x4 + 6 := ⟨_, rfl⟩
        refine lv_iinc (v := v30) (lv' := [(4, .int v30), (6, .int r27), (5, .int r15), (0, .ref b), (1, .ref (ad 0)), (2, .ref (bd 0)), (3, .ref (ad 49))]) hx hb d_law_895 hl (k := 6) rfl (by rw [ev30]; rfl) (by decide) rfl (fun ls hl => ?_)
        have hw := hw v30 ev30
        refine lv_goto (tgt := 23) hx hb d_law_898 (by decide) ?_
        refine W.widen (k := cc + 6) (n := dd + 36) (by omega) (by omega) ?_
        exact hk (sI (sI (sI (sI (sL (sA (sA (sA (sA (sA (sA (sA (sA (sA S 2 f1) 3 f2) 4 f3) 5 f4) 6 f5) 7 f6) 8 f7) 9 f8) 10 f9) 49 f10) 73 v11) 2626 v12) 2627 v13) 2628 v14) (sI (sI (sI (sA (sA (sA (sA (sA (sA (sA (sA T 1 f16) 2 f17) 3 f18) 4 f19) 5 f20) 6 f21) 7 f22) 8 f23) 0 v24) 1 v25) 34 v26) v30 hw _ _ _ (wn_eq w rfl) (lv_sub hl [3, 4, 5, 6, 0] rfl)
      · have hw := hw.2 hc
        refine lv_iconst (v := 0) hx hb d_law_167 (by decide) ?_
        exact hw.elim
  · have hw := hw.2 hc
    refine lv_iconst (v := 0) hx hb d_law_150 (by decide) ?_
    exact hw.elim
set_option maxHeartbeats 8000000 in
set_option maxRecDepth 100000 in
theorem w_law_172 (C : cx p s m #[Value.ref b] meth c code 8 "LineBreakerLaw" n0 G K) (hr : meth.sig.returnType = ret) (htr : l.stackTraces = false) (hX : va_X b L xs s s.heap) (hbl : b < n0) {cc dd : Nat} (hc9 : cc + 6 ≤ 601024) (hd9 : dd + 36 ≤ 7293034) {Kh : ST → ST → Int32 → Prop} (hk : ∀ (S T : ST) (x4 : Int32), Kh S T x4 → ∀ (H : Heap) (locs : List Loc) (ls : Array Slot), wn n0 G (wC K ad S ++ xo K ad S (wM K bd T)) s H locs → lv_has ls 8 [(0, .ref b), (1, .ref (ad 0)), (2, .ref (bd 0)), (3, .ref (ad 49)), (4, .int x4)] → W p l e room_1 s m #[Value.ref b] below meth c H locs (cc + 6) (dd + 36) (lw_Z below #[Value.ref b] s) (F0 m 23 ls [])) : ∀ (S T : ST) (x4 : Int32), wl_law_172 L xs Kh S T x4 → ∀ (H : Heap) (locs : List Loc) (ls : Array Slot), wn n0 G (wC K ad S ++ xo K ad S (wM K bd T)) s H locs → lv_has ls 8 [(0, .ref b), (1, .ref (ad 0)), (2, .ref (bd 0)), (3, .ref (ad 49)), (4, .int x4)] → W p l e room_1 s m #[Value.ref b] below meth c H locs cc dd (lw_Z below #[Value.ref b] s) (F0 m 172 ls []) := by
  have hx := C.1
  have hb := C.2.1
  have hts := C.2.2.2.2.1
  have hn0 := C.2.2.2.2.2.2.2.1
  have hbA : ¬ al n0 b := Nat.not_le.mpr hbl
  have hbl := Nat.lt_of_lt_of_le hbl hn0
  intro S T x4 hw H locs ls w hl
  unfold wl_law_172 at hw
  refine lv_aload_n hx hb d_law_172 rfl (lv_at hl 1 rfl) ?_
  refine lv_aload_n hx hb d_law_173 rfl (lv_at hl 0 rfl) ?_
  refine lv_iload hx hb d_law_174 (lv_at hl 4 rfl) ?_
  refine lv_iconst (v := 1) hx hb d_law_176 (by decide) ?_
  refine lv_iadd hx hb d_law_177 ?_
  refine va_sld hx hb hX hbl hbA w.2.2 hw.1 d_law_178 ?_
  have hw := hw.2
  refine lv_aload_n hx hb d_law_179 rfl (lv_at hl 0 rfl) ?_
  refine lv_iload hx hb d_law_180 (lv_at hl 4 rfl) ?_
  refine lv_iconst (v := 2) hx hb d_law_182 (by decide) ?_
  refine lv_iadd hx hb d_law_183 ?_
  refine va_sld hx hb hX hbl hbA w.2.2 hw.1 d_law_184 ?_
  have hw := hw.2
  refine lv_aload_n hx hb d_law_185 rfl (lv_at hl 0 rfl) ?_
  refine lv_iload hx hb d_law_186 (lv_at hl 4 rfl) ?_
  refine lv_iconst (v := 3) hx hb d_law_188 (by decide) ?_
  refine lv_iadd hx hb d_law_189 ?_
  refine va_sld hx hb hX hbl hbA w.2.2 hw.1 d_law_190 ?_
  have hw := hw.2
  refine lv_aload_n hx hb d_law_191 rfl (lv_at hl 0 rfl) ?_
  refine lv_iload hx hb d_law_192 (lv_at hl 4 rfl) ?_
  refine lv_iconst (v := 4) hx hb d_law_194 (by decide) ?_
  refine lv_iadd hx hb d_law_195 ?_
  refine va_sld hx hb hX hbl hbA w.2.2 hw.1 d_law_196 ?_
  have hw := hw.2
  refine lv_aload_n hx hb d_law_197 rfl (lv_at hl 3 rfl) ?_
  refine kc_i (st := fun (u : (Nat → Int32) × (Nat → Int32) × (Nat → Int32) × (Nat → Int32) × (Nat → Int32) × (Nat → Int32) × (Nat → Int32) × (Nat → Int32) × (Nat → Int32) × (Nat → Int64) × Int32 × Int32 × Int32 × Int32) => wC K ad (sI (sI (sI (sI (sL (sA (sA (sA (sA (sA (sA (sA (sA (sA S 2 u.1) 3 u.2.1) 4 u.2.2.1) 5 u.2.2.2.1) 6 u.2.2.2.2.1) 7 u.2.2.2.2.2.1) 8 u.2.2.2.2.2.2.1) 9 u.2.2.2.2.2.2.2.1) 10 u.2.2.2.2.2.2.2.2.1) 49 u.2.2.2.2.2.2.2.2.2.1) 73 u.2.2.2.2.2.2.2.2.2.2.1) 2626 u.2.2.2.2.2.2.2.2.2.2.2.1) 2627 u.2.2.2.2.2.2.2.2.2.2.2.2.1) 2628 u.2.2.2.2.2.2.2.2.2.2.2.2.2) ++ xo K ad (sI (sI (sI (sI (sL (sA (sA (sA (sA (sA (sA (sA (sA (sA S 2 u.1) 3 u.2.1) 4 u.2.2.1) 5 u.2.2.2.1) 6 u.2.2.2.2.1) 7 u.2.2.2.2.2.1) 8 u.2.2.2.2.2.2.1) 9 u.2.2.2.2.2.2.2.1) 10 u.2.2.2.2.2.2.2.2.1) 49 u.2.2.2.2.2.2.2.2.2.1) 73 u.2.2.2.2.2.2.2.2.2.2.1) 2626 u.2.2.2.2.2.2.2.2.2.2.2.1) 2627 u.2.2.2.2.2.2.2.2.2.2.2.2.1) 2628 u.2.2.2.2.2.2.2.2.2.2.2.2.2) (wM K bd T)) w (kr_W (y := y_La_glue) (As := [.ref (ad 0), .int (xs (x4 + 1).toNatClampNeg), .int (xs (x4 + 2).toNatClampNeg), .int (xs (x4 + 3).toNatClampNeg), .int (xs (x4 + 4).toNatClampNeg), .ref (ad 49)]) (n := 6) C w (c_La_glue l htr n0 G K ad (wM K bd T) S (xs (x4 + 1).toNatClampNeg) (xs (x4 + 2).toNatClampNeg) (xs (x4 + 3).toNatClampNeg) (xs (x4 + 4).toNatClampNeg) _ hw) kw_503 kw_504 kw_0 kw_505 (by decide +kernel) rfl rfl ⟨Nat.le_of_ble_eq_true rfl, Nat.le_of_ble_eq_true rfl⟩ rfl hl.1 rfl (Nat.le_of_ble_eq_true rfl) d_law_198 ⟨by show _ ≤ 601024; omega, by show _ ≤ 7293034; omega⟩) (fun r15 u H locs hw w => ?_)
  obtain ⟨f1, f2, f3, f4, f5, f6, f7, f8, f9, f10, v11, v12, v13, v14⟩ := u
  dsimp only at hw
  have w : wn n0 G (wC K ad (sI (sI (sI (sI (sL (sA (sA (sA (sA (sA (sA (sA (sA (sA S 2 f1) 3 f2) 4 f3) 5 f4) 6 f5) 7 f6) 8 f7) 9 f8) 10 f9) 49 f10) 73 v11) 2626 v12) 2627 v13) 2628 v14) ++ xo K ad (sI (sI (sI (sI (sL (sA (sA (sA (sA (sA (sA (sA (sA (sA S 2 f1) 3 f2) 4 f3) 5 f4) 6 f5) 7 f6) 8 f7) 9 f8) 10 f9) 49 f10) 73 v11) 2626 v12) 2627 v13) 2628 v14) (wM K bd T)) s H locs := w
  refine lv_istore (lv' := [(5, .int r15), (0, .ref b), (1, .ref (ad 0)), (2, .ref (bd 0)), (3, .ref (ad 49)), (4, .int x4)]) hx hb d_law_201 hl (by decide) rfl (fun ls hl => ?_)
  refine lv_aload_n hx hb d_law_203 rfl (lv_at hl 3 rfl) ?_
  refine lv_aload_n hx hb d_law_204 rfl (lv_at hl 1 rfl) ?_
  refine lv_iload hx hb d_law_205 (lv_at hl 5 rfl) ?_
  refine lv_iconst (v := 1) hx hb d_law_207 (by decide) ?_
  refine lv_iadd hx hb d_law_208 ?_
  refine va_sld hx hb hX hbl hbA w.2.2 hw.1 d_law_209 ?_
  have hw := hw.2
  refine lv_aload_n hx hb d_law_210 rfl (lv_at hl 1 rfl) ?_
  refine lv_iload hx hb d_law_211 (lv_at hl 5 rfl) ?_
  refine lv_iconst (v := 2) hx hb d_law_213 (by decide) ?_
  refine lv_iadd hx hb d_law_214 ?_
  refine va_sld hx hb hX hbl hbA w.2.2 hw.1 d_law_215 ?_
  have hw := hw.2
  refine lv_aload_n hx hb d_law_216 rfl (lv_at hl 1 rfl) ?_
  refine lv_iload hx hb d_law_217 (lv_at hl 5 rfl) ?_
  refine lv_iconst (v := 3) hx hb d_law_219 (by decide) ?_
  refine lv_iadd hx hb d_law_220 ?_
  refine va_sld hx hb hX hbl hbA w.2.2 hw.1 d_law_221 ?_
  have hw := hw.2
  refine lv_aload_n hx hb d_law_222 rfl (lv_at hl 1 rfl) ?_
  refine lv_iload hx hb d_law_223 (lv_at hl 5 rfl) ?_
  refine lv_iconst (v := 4) hx hb d_law_225 (by decide) ?_
  refine lv_iadd hx hb d_law_226 ?_
  refine va_sld hx hb hX hbl hbA w.2.2 hw.1 d_law_227 ?_
  have hw := hw.2
  have wm := lw_toM w
  refine kc_i (st := fun (u : (Nat → Int32) × (Nat → Int32) × (Nat → Int32) × (Nat → Int32) × (Nat → Int32) × (Nat → Int32) × (Nat → Int32) × (Nat → Int32) × Int32 × Int32 × Int32) => wM K bd (sI (sI (sI (sA (sA (sA (sA (sA (sA (sA (sA T 1 u.1) 2 u.2.1) 3 u.2.2.1) 4 u.2.2.2.1) 5 u.2.2.2.2.1) 6 u.2.2.2.2.2.1) 7 u.2.2.2.2.2.2.1) 8 u.2.2.2.2.2.2.2.1) 0 u.2.2.2.2.2.2.2.2.1) 1 u.2.2.2.2.2.2.2.2.2.1) 34 u.2.2.2.2.2.2.2.2.2.2) ++ (wC K ad (sI (sI (sI (sI (sL (sA (sA (sA (sA (sA (sA (sA (sA (sA S 2 f1) 3 f2) 4 f3) 5 f4) 6 f5) 7 f6) 8 f7) 9 f8) 10 f9) 49 f10) 73 v11) 2626 v12) 2627 v13) 2628 v14) ++ xo K ad (sI (sI (sI (sI (sL (sA (sA (sA (sA (sA (sA (sA (sA (sA S 2 f1) 3 f2) 4 f3) 5 f4) 6 f5) 7 f6) 8 f7) 9 f8) 10 f9) 49 f10) 73 v11) 2626 v12) 2627 v13) 2628 v14) [])) wm (kr_V (y := y_Mo_glue) (C1 := R_Mo) (T := F_Mo) (N := 43) (ci := 10) (q0 := 0) (As := [.int (xs (x4 + 1).toNatClampNeg), .int (xs (x4 + 2).toNatClampNeg), .int (xs (x4 + 3).toNatClampNeg), .int (xs (x4 + 4).toNatClampNeg)]) (n := 4) C wm (c_Mo_glue l n0 G K bd (wC K ad (sI (sI (sI (sI (sL (sA (sA (sA (sA (sA (sA (sA (sA (sA S 2 f1) 3 f2) 4 f3) 5 f4) 6 f5) 7 f6) 8 f7) 9 f8) 10 f9) 49 f10) 73 v11) 2626 v12) 2627 v13) 2628 v14) ++ xo K ad (sI (sI (sI (sI (sL (sA (sA (sA (sA (sA (sA (sA (sA (sA S 2 f1) 3 f2) 4 f3) 5 f4) 6 f5) 7 f6) 8 f7) 9 f8) 10 f9) 49 f10) 73 v11) 2626 v12) 2627 v13) 2628 v14) []) T (xs (x4 + 1).toNatClampNeg) (xs (x4 + 2).toNatClampNeg) (xs (x4 + 3).toNatClampNeg) (xs (x4 + 4).toNatClampNeg) _ hw) (gw_V kw_1024 kw_1025 kw_1026 kw_11 kw_1027) (by decide +kernel) rfl rfl ⟨Nat.le_of_ble_eq_true rfl, Nat.le_of_ble_eq_true rfl⟩ rfl rfl rfl hl.1 rfl (Nat.le_of_ble_eq_true rfl) d_law_228 ⟨by show _ ≤ 601024; omega, by show _ ≤ 7293034; omega⟩) (fun r27 u H locs hw w => ?_)
  obtain ⟨f16, f17, f18, f19, f20, f21, f22, f23, v24, v25, v26⟩ := u
  dsimp only at hw
  have w : wn n0 G (wM K bd (sI (sI (sI (sA (sA (sA (sA (sA (sA (sA (sA T 1 f16) 2 f17) 3 f18) 4 f19) 5 f20) 6 f21) 7 f22) 8 f23) 0 v24) 1 v25) 34 v26) ++ (wC K ad (sI (sI (sI (sI (sL (sA (sA (sA (sA (sA (sA (sA (sA (sA S 2 f1) 3 f2) 4 f3) 5 f4) 6 f5) 7 f6) 8 f7) 9 f8) 10 f9) 49 f10) 73 v11) 2626 v12) 2627 v13) 2628 v14) ++ xo K ad (sI (sI (sI (sI (sL (sA (sA (sA (sA (sA (sA (sA (sA (sA S 2 f1) 3 f2) 4 f3) 5 f4) 6 f5) 7 f6) 8 f7) 9 f8) 10 f9) 49 f10) 73 v11) 2626 v12) 2627 v13) 2628 v14) [])) s H locs := w
  have w := lw_toC w
  refine lv_istore (lv' := [(6, .int r27), (5, .int r15), (0, .ref b), (1, .ref (ad 0)), (2, .ref (bd 0)), (3, .ref (ad 49)), (4, .int x4)]) hx hb d_law_231 hl (by decide) rfl (fun ls hl => ?_)
  refine lv_aload_n hx hb d_law_233 rfl (lv_at hl 4 rfl) ?_
  have wm := lw_toM w
  refine kd_i (kr_V (y := y_Mo_thrown) (C1 := R_Mo) (T := F_Mo) (N := 43) (ci := 10) (q0 := 0) (As := []) (n := 0) C wm (c_Mo_thrown l n0 G K bd (wC K ad (sI (sI (sI (sI (sL (sA (sA (sA (sA (sA (sA (sA (sA (sA S 2 f1) 3 f2) 4 f3) 5 f4) 6 f5) 7 f6) 8 f7) 9 f8) 10 f9) 49 f10) 73 v11) 2626 v12) 2627 v13) 2628 v14) ++ xo K ad (sI (sI (sI (sI (sL (sA (sA (sA (sA (sA (sA (sA (sA (sA S 2 f1) 3 f2) 4 f3) 5 f4) 6 f5) 7 f6) 8 f7) 9 f8) 10 f9) 49 f10) 73 v11) 2626 v12) 2627 v13) 2628 v14) []) (sI (sI (sI (sA (sA (sA (sA (sA (sA (sA (sA T 1 f16) 2 f17) 3 f18) 4 f19) 5 f20) 6 f21) 7 f22) 8 f23) 0 v24) 1 v25) 34 v26)  _ hw) (gw_V kw_1007 kw_1008 kw_1009 kw_11 kw_1010) (by decide +kernel) rfl rfl ⟨Nat.le_of_ble_eq_true rfl, Nat.le_of_ble_eq_true rfl⟩ rfl rfl rfl hl.1 rfl (Nat.le_of_ble_eq_true rfl) d_law_234 ⟨by show _ ≤ 601024; omega, by show _ ≤ 7293034; omega⟩) (fun r28 hw => ?_)
  refine lv_iload hx hb d_law_237 (lv_at hl 1 rfl) ?_
  refine lv_icmp_eq (tgt := 244) hx hb d_law_239 (by decide) (fun hc => ?_) (fun hc => ?_)
  · have hw := hw.1 hc
    refine lv_iload hx hb d_law_244 (lv_at hl 1 rfl) ?_
    refine lv_if_ne (tgt := 261) hx hb d_law_246 (by decide) (fun hc => ?_) (fun hc => ?_)
    · have hw := hw.1 hc
      refine lv_goto (tgt := 895) hx hb d_law_261 (by decide) ?_
      obtain ⟨v29, ev29⟩ : ∃ y : Int32, y = x4 + 6 := ⟨_, rfl⟩
      refine lv_iinc (v := v29) (lv' := [(4, .int v29), (6, .int r27), (5, .int r15), (0, .ref b), (1, .ref (ad 0)), (2, .ref (bd 0)), (3, .ref (ad 49))]) hx hb d_law_895 hl (k := 6) rfl (by rw [ev29]; rfl) (by decide) rfl (fun ls hl => ?_)
      have hw := hw v29 ev29
      refine lv_goto (tgt := 23) hx hb d_law_898 (by decide) ?_
      refine W.widen (k := cc + 6) (n := dd + 36) (by omega) (by omega) ?_
      exact hk (sI (sI (sI (sI (sL (sA (sA (sA (sA (sA (sA (sA (sA (sA S 2 f1) 3 f2) 4 f3) 5 f4) 6 f5) 7 f6) 8 f7) 9 f8) 10 f9) 49 f10) 73 v11) 2626 v12) 2627 v13) 2628 v14) (sI (sI (sI (sA (sA (sA (sA (sA (sA (sA (sA T 1 f16) 2 f17) 3 f18) 4 f19) 5 f20) 6 f21) 7 f22) 8 f23) 0 v24) 1 v25) 34 v26) v29 hw _ _ _ (wn_eq w rfl) (lv_sub hl [3, 4, 5, 6, 0] rfl)
    · have hw := hw.2 hc
      refine lv_aload_n hx hb d_law_249 rfl (lv_at hl 5 rfl) ?_
      refine lv_iconst (v := 0) hx hb d_law_250 (by decide) ?_
      refine ka_l (f := f10) C w 49 rfl (vp_in_nI (n := 0) (N := 1) (by decide) (by decide)) d_law_251 ?_
      refine lv_iload hx hb d_law_252 (lv_at hl 0 rfl) ?_
      refine lv_i2l hx hb d_law_254 rfl ?_
      refine W.lcmp hx hb d_law_255 ?_
      refine lv_if_eq (tgt := 261) hx hb d_law_256 (by decide) (fun hc => ?_) (fun hc => ?_)
      · have hw := hw.1 hc
        refine lv_goto (tgt := 895) hx hb d_law_261 (by decide) ?_
        obtain ⟨v30, ev30⟩ : ∃ y : Int32, y = x4 + 6 := ⟨_, rfl⟩
        refine lv_iinc (v := v30) (lv' := [(4, .int v30), (6, .int r27), (5, .int r15), (0, .ref b), (1, .ref (ad 0)), (2, .ref (bd 0)), (3, .ref (ad 49))]) hx hb d_law_895 hl (k := 6) rfl (by rw [ev30]; rfl) (by decide) rfl (fun ls hl => ?_)
        have hw := hw v30 ev30
        refine lv_goto (tgt := 23) hx hb d_law_898 (by decide) ?_
        refine W.widen (k := cc + 6) (n := dd + 36) (by omega) (by omega) ?_
        exact hk (sI (sI (sI (sI (sL (sA (sA (sA (sA (sA (sA (sA (sA (sA S 2 f1) 3 f2) 4 f3) 5 f4) 6 f5) 7 f6) 8 f7) 9 f8) 10 f9) 49 f10) 73 v11) 2626 v12) 2627 v13) 2628 v14) (sI (sI (sI (sA (sA (sA (sA (sA (sA (sA (sA T 1 f16) 2 f17) 3 f18) 4 f19) 5 f20) 6 f21) 7 f22) 8 f23) 0 v24) 1 v25) 34 v26) v30 hw _ _ _ (wn_eq w rfl) (lv_sub hl [3, 4, 5, 6, 0] rfl)
      · have hw := hw.2 hc
        refine lv_iconst (v := 0) hx hb d_law_259 (by decide) ?_
        exact hw.elim
  · have hw := hw.2 hc
    refine lv_iconst (v := 0) hx hb d_law_242 (by decide) ?_
    exact hw.elim
set_option maxHeartbeats 8000000 in
set_option maxRecDepth 100000 in
theorem w_law_264 (C : cx p s m #[Value.ref b] meth c code 8 "LineBreakerLaw" n0 G K) (hr : meth.sig.returnType = ret) (htr : l.stackTraces = false) (hX : va_X b L xs s s.heap) (hbl : b < n0) {cc dd : Nat} (hc9 : cc + 6 ≤ 601024) (hd9 : dd + 36 ≤ 7293034) {Kh : ST → ST → Int32 → Prop} (hk : ∀ (S T : ST) (x4 : Int32), Kh S T x4 → ∀ (H : Heap) (locs : List Loc) (ls : Array Slot), wn n0 G (wC K ad S ++ xo K ad S (wM K bd T)) s H locs → lv_has ls 8 [(0, .ref b), (1, .ref (ad 0)), (2, .ref (bd 0)), (3, .ref (ad 49)), (4, .int x4)] → W p l e room_1 s m #[Value.ref b] below meth c H locs (cc + 6) (dd + 36) (lw_Z below #[Value.ref b] s) (F0 m 23 ls [])) : ∀ (S T : ST) (x4 : Int32), wl_law_264 L xs Kh S T x4 → ∀ (H : Heap) (locs : List Loc) (ls : Array Slot), wn n0 G (wC K ad S ++ xo K ad S (wM K bd T)) s H locs → lv_has ls 8 [(0, .ref b), (1, .ref (ad 0)), (2, .ref (bd 0)), (3, .ref (ad 49)), (4, .int x4)] → W p l e room_1 s m #[Value.ref b] below meth c H locs cc dd (lw_Z below #[Value.ref b] s) (F0 m 264 ls []) := by
  have hx := C.1
  have hb := C.2.1
  have hts := C.2.2.2.2.1
  have hn0 := C.2.2.2.2.2.2.2.1
  have hbA : ¬ al n0 b := Nat.not_le.mpr hbl
  have hbl := Nat.lt_of_lt_of_le hbl hn0
  intro S T x4 hw H locs ls w hl
  unfold wl_law_264 at hw
  refine lv_aload_n hx hb d_law_264 rfl (lv_at hl 1 rfl) ?_
  refine lv_aload_n hx hb d_law_265 rfl (lv_at hl 0 rfl) ?_
  refine lv_iload hx hb d_law_266 (lv_at hl 4 rfl) ?_
  refine lv_iconst (v := 1) hx hb d_law_268 (by decide) ?_
  refine lv_iadd hx hb d_law_269 ?_
  refine va_sld hx hb hX hbl hbA w.2.2 hw.1 d_law_270 ?_
  have hw := hw.2
  refine lv_aload_n hx hb d_law_271 rfl (lv_at hl 0 rfl) ?_
  refine lv_iload hx hb d_law_272 (lv_at hl 4 rfl) ?_
  refine lv_iconst (v := 2) hx hb d_law_274 (by decide) ?_
  refine lv_iadd hx hb d_law_275 ?_
  refine va_sld hx hb hX hbl hbA w.2.2 hw.1 d_law_276 ?_
  have hw := hw.2
  refine lv_if_eq (tgt := 284) hx hb d_law_277 (by decide) (fun hc => ?_) (fun hc => ?_)
  · have hw := hw.1 hc
    refine lv_iconst (v := 0) hx hb d_law_284 (by decide) ?_
    refine lv_aload_n hx hb d_law_285 rfl (lv_at hl 3 rfl) ?_
    refine kc_i (st := fun (u : (Nat → Int32) × (Nat → Int32) × (Nat → Int32) × (Nat → Int32) × (Nat → Int32) × (Nat → Int32) × (Nat → Int32) × (Nat → Int32) × (Nat → Int32) × (Nat → Int64) × Int32 × Int32 × Int32 × Int32) => wC K ad (sI (sI (sI (sI (sL (sA (sA (sA (sA (sA (sA (sA (sA (sA S 2 u.1) 3 u.2.1) 4 u.2.2.1) 5 u.2.2.2.1) 6 u.2.2.2.2.1) 7 u.2.2.2.2.2.1) 8 u.2.2.2.2.2.2.1) 9 u.2.2.2.2.2.2.2.1) 10 u.2.2.2.2.2.2.2.2.1) 49 u.2.2.2.2.2.2.2.2.2.1) 73 u.2.2.2.2.2.2.2.2.2.2.1) 2626 u.2.2.2.2.2.2.2.2.2.2.2.1) 2627 u.2.2.2.2.2.2.2.2.2.2.2.2.1) 2628 u.2.2.2.2.2.2.2.2.2.2.2.2.2) ++ xo K ad (sI (sI (sI (sI (sL (sA (sA (sA (sA (sA (sA (sA (sA (sA S 2 u.1) 3 u.2.1) 4 u.2.2.1) 5 u.2.2.2.1) 6 u.2.2.2.2.1) 7 u.2.2.2.2.2.1) 8 u.2.2.2.2.2.2.1) 9 u.2.2.2.2.2.2.2.1) 10 u.2.2.2.2.2.2.2.2.1) 49 u.2.2.2.2.2.2.2.2.2.1) 73 u.2.2.2.2.2.2.2.2.2.2.1) 2626 u.2.2.2.2.2.2.2.2.2.2.2.1) 2627 u.2.2.2.2.2.2.2.2.2.2.2.2.1) 2628 u.2.2.2.2.2.2.2.2.2.2.2.2.2) (wM K bd T)) w (kr_W (y := y_La_kern) (As := [.ref (ad 0), .int (xs (x4 + 1).toNatClampNeg), .int 0, .ref (ad 49)]) (n := 4) C w (c_La_kern l htr n0 G K ad (wM K bd T) S (xs (x4 + 1).toNatClampNeg) 0 _ hw) kw_548 kw_549 kw_0 kw_550 (by decide +kernel) rfl rfl ⟨Nat.le_of_ble_eq_true rfl, Nat.le_of_ble_eq_true rfl⟩ rfl hl.1 rfl (Nat.le_of_ble_eq_true rfl) d_law_286 ⟨by show _ ≤ 601024; omega, by show _ ≤ 7293034; omega⟩) (fun r15 u H locs hw w => ?_)
    obtain ⟨f1, f2, f3, f4, f5, f6, f7, f8, f9, f10, v11, v12, v13, v14⟩ := u
    dsimp only at hw
    have w : wn n0 G (wC K ad (sI (sI (sI (sI (sL (sA (sA (sA (sA (sA (sA (sA (sA (sA S 2 f1) 3 f2) 4 f3) 5 f4) 6 f5) 7 f6) 8 f7) 9 f8) 10 f9) 49 f10) 73 v11) 2626 v12) 2627 v13) 2628 v14) ++ xo K ad (sI (sI (sI (sI (sL (sA (sA (sA (sA (sA (sA (sA (sA (sA S 2 f1) 3 f2) 4 f3) 5 f4) 6 f5) 7 f6) 8 f7) 9 f8) 10 f9) 49 f10) 73 v11) 2626 v12) 2627 v13) 2628 v14) (wM K bd T)) s H locs := w
    refine lv_istore (lv' := [(5, .int r15), (0, .ref b), (1, .ref (ad 0)), (2, .ref (bd 0)), (3, .ref (ad 49)), (4, .int x4)]) hx hb d_law_289 hl (by decide) rfl (fun ls hl => ?_)
    refine lv_aload_n hx hb d_law_291 rfl (lv_at hl 3 rfl) ?_
    refine lv_aload_n hx hb d_law_292 rfl (lv_at hl 1 rfl) ?_
    refine lv_iload hx hb d_law_293 (lv_at hl 5 rfl) ?_
    refine lv_iconst (v := 1) hx hb d_law_295 (by decide) ?_
    refine lv_iadd hx hb d_law_296 ?_
    refine va_sld hx hb hX hbl hbA w.2.2 hw.1 d_law_297 ?_
    have hw := hw.2
    refine lv_aload_n hx hb d_law_298 rfl (lv_at hl 1 rfl) ?_
    refine lv_iload hx hb d_law_299 (lv_at hl 5 rfl) ?_
    refine lv_iconst (v := 2) hx hb d_law_301 (by decide) ?_
    refine lv_iadd hx hb d_law_302 ?_
    refine va_sld hx hb hX hbl hbA w.2.2 hw.1 d_law_303 ?_
    have hw := hw.2
    refine lv_if_eq (tgt := 311) hx hb d_law_304 (by decide) (fun hc => ?_) (fun hc => ?_)
    · have hw := hw.1 hc
      refine lv_iconst (v := 0) hx hb d_law_311 (by decide) ?_
      have wm := lw_toM w
      refine kc_i (st := fun (u : (Nat → Int32) × (Nat → Int32) × (Nat → Int32) × (Nat → Int32) × (Nat → Int32) × (Nat → Int32) × (Nat → Int32) × (Nat → Int32) × Int32 × Int32 × Int32) => wM K bd (sI (sI (sI (sA (sA (sA (sA (sA (sA (sA (sA T 1 u.1) 2 u.2.1) 3 u.2.2.1) 4 u.2.2.2.1) 5 u.2.2.2.2.1) 6 u.2.2.2.2.2.1) 7 u.2.2.2.2.2.2.1) 8 u.2.2.2.2.2.2.2.1) 0 u.2.2.2.2.2.2.2.2.1) 1 u.2.2.2.2.2.2.2.2.2.1) 34 u.2.2.2.2.2.2.2.2.2.2) ++ (wC K ad (sI (sI (sI (sI (sL (sA (sA (sA (sA (sA (sA (sA (sA (sA S 2 f1) 3 f2) 4 f3) 5 f4) 6 f5) 7 f6) 8 f7) 9 f8) 10 f9) 49 f10) 73 v11) 2626 v12) 2627 v13) 2628 v14) ++ xo K ad (sI (sI (sI (sI (sL (sA (sA (sA (sA (sA (sA (sA (sA (sA S 2 f1) 3 f2) 4 f3) 5 f4) 6 f5) 7 f6) 8 f7) 9 f8) 10 f9) 49 f10) 73 v11) 2626 v12) 2627 v13) 2628 v14) [])) wm (kr_V (y := y_Mo_kern) (C1 := R_Mo) (T := F_Mo) (N := 43) (ci := 10) (q0 := 0) (As := [.int (xs (x4 + 1).toNatClampNeg), .int 0]) (n := 2) C wm (c_Mo_kern l n0 G K bd (wC K ad (sI (sI (sI (sI (sL (sA (sA (sA (sA (sA (sA (sA (sA (sA S 2 f1) 3 f2) 4 f3) 5 f4) 6 f5) 7 f6) 8 f7) 9 f8) 10 f9) 49 f10) 73 v11) 2626 v12) 2627 v13) 2628 v14) ++ xo K ad (sI (sI (sI (sI (sL (sA (sA (sA (sA (sA (sA (sA (sA (sA S 2 f1) 3 f2) 4 f3) 5 f4) 6 f5) 7 f6) 8 f7) 9 f8) 10 f9) 49 f10) 73 v11) 2626 v12) 2627 v13) 2628 v14) []) T (xs (x4 + 1).toNatClampNeg) 0 _ hw) (gw_V kw_1039 kw_1040 kw_1041 kw_11 kw_1042) (by decide +kernel) rfl rfl ⟨Nat.le_of_ble_eq_true rfl, Nat.le_of_ble_eq_true rfl⟩ rfl rfl rfl hl.1 rfl (Nat.le_of_ble_eq_true rfl) d_law_312 ⟨by show _ ≤ 601024; omega, by show _ ≤ 7293034; omega⟩) (fun r27 u H locs hw w => ?_)
      obtain ⟨f16, f17, f18, f19, f20, f21, f22, f23, v24, v25, v26⟩ := u
      dsimp only at hw
      have w : wn n0 G (wM K bd (sI (sI (sI (sA (sA (sA (sA (sA (sA (sA (sA T 1 f16) 2 f17) 3 f18) 4 f19) 5 f20) 6 f21) 7 f22) 8 f23) 0 v24) 1 v25) 34 v26) ++ (wC K ad (sI (sI (sI (sI (sL (sA (sA (sA (sA (sA (sA (sA (sA (sA S 2 f1) 3 f2) 4 f3) 5 f4) 6 f5) 7 f6) 8 f7) 9 f8) 10 f9) 49 f10) 73 v11) 2626 v12) 2627 v13) 2628 v14) ++ xo K ad (sI (sI (sI (sI (sL (sA (sA (sA (sA (sA (sA (sA (sA (sA S 2 f1) 3 f2) 4 f3) 5 f4) 6 f5) 7 f6) 8 f7) 9 f8) 10 f9) 49 f10) 73 v11) 2626 v12) 2627 v13) 2628 v14) [])) s H locs := w
      have w := lw_toC w
      refine lv_istore (lv' := [(6, .int r27), (5, .int r15), (0, .ref b), (1, .ref (ad 0)), (2, .ref (bd 0)), (3, .ref (ad 49)), (4, .int x4)]) hx hb d_law_315 hl (by decide) rfl (fun ls hl => ?_)
      refine lv_aload_n hx hb d_law_317 rfl (lv_at hl 4 rfl) ?_
      have wm := lw_toM w
      refine kd_i (kr_V (y := y_Mo_thrown) (C1 := R_Mo) (T := F_Mo) (N := 43) (ci := 10) (q0 := 0) (As := []) (n := 0) C wm (c_Mo_thrown l n0 G K bd (wC K ad (sI (sI (sI (sI (sL (sA (sA (sA (sA (sA (sA (sA (sA (sA S 2 f1) 3 f2) 4 f3) 5 f4) 6 f5) 7 f6) 8 f7) 9 f8) 10 f9) 49 f10) 73 v11) 2626 v12) 2627 v13) 2628 v14) ++ xo K ad (sI (sI (sI (sI (sL (sA (sA (sA (sA (sA (sA (sA (sA (sA S 2 f1) 3 f2) 4 f3) 5 f4) 6 f5) 7 f6) 8 f7) 9 f8) 10 f9) 49 f10) 73 v11) 2626 v12) 2627 v13) 2628 v14) []) (sI (sI (sI (sA (sA (sA (sA (sA (sA (sA (sA T 1 f16) 2 f17) 3 f18) 4 f19) 5 f20) 6 f21) 7 f22) 8 f23) 0 v24) 1 v25) 34 v26)  _ hw) (gw_V kw_1007 kw_1008 kw_1009 kw_11 kw_1010) (by decide +kernel) rfl rfl ⟨Nat.le_of_ble_eq_true rfl, Nat.le_of_ble_eq_true rfl⟩ rfl rfl rfl hl.1 rfl (Nat.le_of_ble_eq_true rfl) d_law_318 ⟨by show _ ≤ 601024; omega, by show _ ≤ 7293034; omega⟩) (fun r28 hw => ?_)
      refine lv_iload hx hb d_law_321 (lv_at hl 1 rfl) ?_
      refine lv_icmp_eq (tgt := 328) hx hb d_law_323 (by decide) (fun hc => ?_) (fun hc => ?_)
      · have hw := hw.1 hc
        refine lv_iload hx hb d_law_328 (lv_at hl 1 rfl) ?_
        refine lv_if_ne (tgt := 345) hx hb d_law_330 (by decide) (fun hc => ?_) (fun hc => ?_)
        · have hw := hw.1 hc
          refine lv_goto (tgt := 895) hx hb d_law_345 (by decide) ?_
          obtain ⟨v29, ev29⟩ : ∃ y : Int32, y = x4 + 6 := ⟨_, rfl⟩
          refine lv_iinc (v := v29) (lv' := [(4, .int v29), (6, .int r27), (5, .int r15), (0, .ref b), (1, .ref (ad 0)), (2, .ref (bd 0)), (3, .ref (ad 49))]) hx hb d_law_895 hl (k := 6) rfl (by rw [ev29]; rfl) (by decide) rfl (fun ls hl => ?_)
          have hw := hw v29 ev29
          refine lv_goto (tgt := 23) hx hb d_law_898 (by decide) ?_
          refine W.widen (k := cc + 6) (n := dd + 36) (by omega) (by omega) ?_
          exact hk (sI (sI (sI (sI (sL (sA (sA (sA (sA (sA (sA (sA (sA (sA S 2 f1) 3 f2) 4 f3) 5 f4) 6 f5) 7 f6) 8 f7) 9 f8) 10 f9) 49 f10) 73 v11) 2626 v12) 2627 v13) 2628 v14) (sI (sI (sI (sA (sA (sA (sA (sA (sA (sA (sA T 1 f16) 2 f17) 3 f18) 4 f19) 5 f20) 6 f21) 7 f22) 8 f23) 0 v24) 1 v25) 34 v26) v29 hw _ _ _ (wn_eq w rfl) (lv_sub hl [3, 4, 5, 6, 0] rfl)
        · have hw := hw.2 hc
          refine lv_aload_n hx hb d_law_333 rfl (lv_at hl 5 rfl) ?_
          refine lv_iconst (v := 0) hx hb d_law_334 (by decide) ?_
          refine ka_l (f := f10) C w 49 rfl (vp_in_nI (n := 0) (N := 1) (by decide) (by decide)) d_law_335 ?_
          refine lv_iload hx hb d_law_336 (lv_at hl 0 rfl) ?_
          refine lv_i2l hx hb d_law_338 rfl ?_
          refine W.lcmp hx hb d_law_339 ?_
          refine lv_if_eq (tgt := 345) hx hb d_law_340 (by decide) (fun hc => ?_) (fun hc => ?_)
          · have hw := hw.1 hc
            refine lv_goto (tgt := 895) hx hb d_law_345 (by decide) ?_
            obtain ⟨v30, ev30⟩ : ∃ y : Int32, y = x4 + 6 := ⟨_, rfl⟩
            refine lv_iinc (v := v30) (lv' := [(4, .int v30), (6, .int r27), (5, .int r15), (0, .ref b), (1, .ref (ad 0)), (2, .ref (bd 0)), (3, .ref (ad 49))]) hx hb d_law_895 hl (k := 6) rfl (by rw [ev30]; rfl) (by decide) rfl (fun ls hl => ?_)
            have hw := hw v30 ev30
            refine lv_goto (tgt := 23) hx hb d_law_898 (by decide) ?_
            refine W.widen (k := cc + 6) (n := dd + 36) (by omega) (by omega) ?_
            exact hk (sI (sI (sI (sI (sL (sA (sA (sA (sA (sA (sA (sA (sA (sA S 2 f1) 3 f2) 4 f3) 5 f4) 6 f5) 7 f6) 8 f7) 9 f8) 10 f9) 49 f10) 73 v11) 2626 v12) 2627 v13) 2628 v14) (sI (sI (sI (sA (sA (sA (sA (sA (sA (sA (sA T 1 f16) 2 f17) 3 f18) 4 f19) 5 f20) 6 f21) 7 f22) 8 f23) 0 v24) 1 v25) 34 v26) v30 hw _ _ _ (wn_eq w rfl) (lv_sub hl [3, 4, 5, 6, 0] rfl)
          · have hw := hw.2 hc
            refine lv_iconst (v := 0) hx hb d_law_343 (by decide) ?_
            exact hw.elim
      · have hw := hw.2 hc
        refine lv_iconst (v := 0) hx hb d_law_326 (by decide) ?_
        exact hw.elim
    · have hw := hw.2 hc
      refine lv_iconst (v := 1) hx hb d_law_307 (by decide) ?_
      refine lv_goto (tgt := 312) hx hb d_law_308 (by decide) ?_
      have wm := lw_toM w
      refine kc_i (st := fun (u : (Nat → Int32) × (Nat → Int32) × (Nat → Int32) × (Nat → Int32) × (Nat → Int32) × (Nat → Int32) × (Nat → Int32) × (Nat → Int32) × Int32 × Int32 × Int32) => wM K bd (sI (sI (sI (sA (sA (sA (sA (sA (sA (sA (sA T 1 u.1) 2 u.2.1) 3 u.2.2.1) 4 u.2.2.2.1) 5 u.2.2.2.2.1) 6 u.2.2.2.2.2.1) 7 u.2.2.2.2.2.2.1) 8 u.2.2.2.2.2.2.2.1) 0 u.2.2.2.2.2.2.2.2.1) 1 u.2.2.2.2.2.2.2.2.2.1) 34 u.2.2.2.2.2.2.2.2.2.2) ++ (wC K ad (sI (sI (sI (sI (sL (sA (sA (sA (sA (sA (sA (sA (sA (sA S 2 f1) 3 f2) 4 f3) 5 f4) 6 f5) 7 f6) 8 f7) 9 f8) 10 f9) 49 f10) 73 v11) 2626 v12) 2627 v13) 2628 v14) ++ xo K ad (sI (sI (sI (sI (sL (sA (sA (sA (sA (sA (sA (sA (sA (sA S 2 f1) 3 f2) 4 f3) 5 f4) 6 f5) 7 f6) 8 f7) 9 f8) 10 f9) 49 f10) 73 v11) 2626 v12) 2627 v13) 2628 v14) [])) wm (kr_V (y := y_Mo_kern) (C1 := R_Mo) (T := F_Mo) (N := 43) (ci := 10) (q0 := 0) (As := [.int (xs (x4 + 1).toNatClampNeg), .int 1]) (n := 2) C wm (c_Mo_kern l n0 G K bd (wC K ad (sI (sI (sI (sI (sL (sA (sA (sA (sA (sA (sA (sA (sA (sA S 2 f1) 3 f2) 4 f3) 5 f4) 6 f5) 7 f6) 8 f7) 9 f8) 10 f9) 49 f10) 73 v11) 2626 v12) 2627 v13) 2628 v14) ++ xo K ad (sI (sI (sI (sI (sL (sA (sA (sA (sA (sA (sA (sA (sA (sA S 2 f1) 3 f2) 4 f3) 5 f4) 6 f5) 7 f6) 8 f7) 9 f8) 10 f9) 49 f10) 73 v11) 2626 v12) 2627 v13) 2628 v14) []) T (xs (x4 + 1).toNatClampNeg) 1 _ hw) (gw_V kw_1039 kw_1040 kw_1041 kw_11 kw_1042) (by decide +kernel) rfl rfl ⟨Nat.le_of_ble_eq_true rfl, Nat.le_of_ble_eq_true rfl⟩ rfl rfl rfl hl.1 rfl (Nat.le_of_ble_eq_true rfl) d_law_312 ⟨by show _ ≤ 601024; omega, by show _ ≤ 7293034; omega⟩) (fun r42 u H locs hw w => ?_)
      obtain ⟨f31, f32, f33, f34, f35, f36, f37, f38, v39, v40, v41⟩ := u
      dsimp only at hw
      have w : wn n0 G (wM K bd (sI (sI (sI (sA (sA (sA (sA (sA (sA (sA (sA T 1 f31) 2 f32) 3 f33) 4 f34) 5 f35) 6 f36) 7 f37) 8 f38) 0 v39) 1 v40) 34 v41) ++ (wC K ad (sI (sI (sI (sI (sL (sA (sA (sA (sA (sA (sA (sA (sA (sA S 2 f1) 3 f2) 4 f3) 5 f4) 6 f5) 7 f6) 8 f7) 9 f8) 10 f9) 49 f10) 73 v11) 2626 v12) 2627 v13) 2628 v14) ++ xo K ad (sI (sI (sI (sI (sL (sA (sA (sA (sA (sA (sA (sA (sA (sA S 2 f1) 3 f2) 4 f3) 5 f4) 6 f5) 7 f6) 8 f7) 9 f8) 10 f9) 49 f10) 73 v11) 2626 v12) 2627 v13) 2628 v14) [])) s H locs := w
      have w := lw_toC w
      refine lv_istore (lv' := [(6, .int r42), (5, .int r15), (0, .ref b), (1, .ref (ad 0)), (2, .ref (bd 0)), (3, .ref (ad 49)), (4, .int x4)]) hx hb d_law_315 hl (by decide) rfl (fun ls hl => ?_)
      refine lv_aload_n hx hb d_law_317 rfl (lv_at hl 4 rfl) ?_
      have wm := lw_toM w
      refine kd_i (kr_V (y := y_Mo_thrown) (C1 := R_Mo) (T := F_Mo) (N := 43) (ci := 10) (q0 := 0) (As := []) (n := 0) C wm (c_Mo_thrown l n0 G K bd (wC K ad (sI (sI (sI (sI (sL (sA (sA (sA (sA (sA (sA (sA (sA (sA S 2 f1) 3 f2) 4 f3) 5 f4) 6 f5) 7 f6) 8 f7) 9 f8) 10 f9) 49 f10) 73 v11) 2626 v12) 2627 v13) 2628 v14) ++ xo K ad (sI (sI (sI (sI (sL (sA (sA (sA (sA (sA (sA (sA (sA (sA S 2 f1) 3 f2) 4 f3) 5 f4) 6 f5) 7 f6) 8 f7) 9 f8) 10 f9) 49 f10) 73 v11) 2626 v12) 2627 v13) 2628 v14) []) (sI (sI (sI (sA (sA (sA (sA (sA (sA (sA (sA T 1 f31) 2 f32) 3 f33) 4 f34) 5 f35) 6 f36) 7 f37) 8 f38) 0 v39) 1 v40) 34 v41)  _ hw) (gw_V kw_1007 kw_1008 kw_1009 kw_11 kw_1010) (by decide +kernel) rfl rfl ⟨Nat.le_of_ble_eq_true rfl, Nat.le_of_ble_eq_true rfl⟩ rfl rfl rfl hl.1 rfl (Nat.le_of_ble_eq_true rfl) d_law_318 ⟨by show _ ≤ 601024; omega, by show _ ≤ 7293034; omega⟩) (fun r43 hw => ?_)
      refine lv_iload hx hb d_law_321 (lv_at hl 1 rfl) ?_
      refine lv_icmp_eq (tgt := 328) hx hb d_law_323 (by decide) (fun hc => ?_) (fun hc => ?_)
      · have hw := hw.1 hc
        refine lv_iload hx hb d_law_328 (lv_at hl 1 rfl) ?_
        refine lv_if_ne (tgt := 345) hx hb d_law_330 (by decide) (fun hc => ?_) (fun hc => ?_)
        · have hw := hw.1 hc
          refine lv_goto (tgt := 895) hx hb d_law_345 (by decide) ?_
          obtain ⟨v44, ev44⟩ : ∃ y : Int32, y = x4 + 6 := ⟨_, rfl⟩
          refine lv_iinc (v := v44) (lv' := [(4, .int v44), (6, .int r42), (5, .int r15), (0, .ref b), (1, .ref (ad 0)), (2, .ref (bd 0)), (3, .ref (ad 49))]) hx hb d_law_895 hl (k := 6) rfl (by rw [ev44]; rfl) (by decide) rfl (fun ls hl => ?_)
          have hw := hw v44 ev44
          refine lv_goto (tgt := 23) hx hb d_law_898 (by decide) ?_
          refine W.widen (k := cc + 6) (n := dd + 36) (by omega) (by omega) ?_
          exact hk (sI (sI (sI (sI (sL (sA (sA (sA (sA (sA (sA (sA (sA (sA S 2 f1) 3 f2) 4 f3) 5 f4) 6 f5) 7 f6) 8 f7) 9 f8) 10 f9) 49 f10) 73 v11) 2626 v12) 2627 v13) 2628 v14) (sI (sI (sI (sA (sA (sA (sA (sA (sA (sA (sA T 1 f31) 2 f32) 3 f33) 4 f34) 5 f35) 6 f36) 7 f37) 8 f38) 0 v39) 1 v40) 34 v41) v44 hw _ _ _ (wn_eq w rfl) (lv_sub hl [3, 4, 5, 6, 0] rfl)
        · have hw := hw.2 hc
          refine lv_aload_n hx hb d_law_333 rfl (lv_at hl 5 rfl) ?_
          refine lv_iconst (v := 0) hx hb d_law_334 (by decide) ?_
          refine ka_l (f := f10) C w 49 rfl (vp_in_nI (n := 0) (N := 1) (by decide) (by decide)) d_law_335 ?_
          refine lv_iload hx hb d_law_336 (lv_at hl 0 rfl) ?_
          refine lv_i2l hx hb d_law_338 rfl ?_
          refine W.lcmp hx hb d_law_339 ?_
          refine lv_if_eq (tgt := 345) hx hb d_law_340 (by decide) (fun hc => ?_) (fun hc => ?_)
          · have hw := hw.1 hc
            refine lv_goto (tgt := 895) hx hb d_law_345 (by decide) ?_
            obtain ⟨v45, ev45⟩ : ∃ y : Int32, y = x4 + 6 := ⟨_, rfl⟩
            refine lv_iinc (v := v45) (lv' := [(4, .int v45), (6, .int r42), (5, .int r15), (0, .ref b), (1, .ref (ad 0)), (2, .ref (bd 0)), (3, .ref (ad 49))]) hx hb d_law_895 hl (k := 6) rfl (by rw [ev45]; rfl) (by decide) rfl (fun ls hl => ?_)
            have hw := hw v45 ev45
            refine lv_goto (tgt := 23) hx hb d_law_898 (by decide) ?_
            refine W.widen (k := cc + 6) (n := dd + 36) (by omega) (by omega) ?_
            exact hk (sI (sI (sI (sI (sL (sA (sA (sA (sA (sA (sA (sA (sA (sA S 2 f1) 3 f2) 4 f3) 5 f4) 6 f5) 7 f6) 8 f7) 9 f8) 10 f9) 49 f10) 73 v11) 2626 v12) 2627 v13) 2628 v14) (sI (sI (sI (sA (sA (sA (sA (sA (sA (sA (sA T 1 f31) 2 f32) 3 f33) 4 f34) 5 f35) 6 f36) 7 f37) 8 f38) 0 v39) 1 v40) 34 v41) v45 hw _ _ _ (wn_eq w rfl) (lv_sub hl [3, 4, 5, 6, 0] rfl)
          · have hw := hw.2 hc
            refine lv_iconst (v := 0) hx hb d_law_343 (by decide) ?_
            exact hw.elim
      · have hw := hw.2 hc
        refine lv_iconst (v := 0) hx hb d_law_326 (by decide) ?_
        exact hw.elim
  · have hw := hw.2 hc
    refine lv_iconst (v := 1) hx hb d_law_280 (by decide) ?_
    refine lv_goto (tgt := 285) hx hb d_law_281 (by decide) ?_
    refine lv_aload_n hx hb d_law_285 rfl (lv_at hl 3 rfl) ?_
    refine kc_i (st := fun (u : (Nat → Int32) × (Nat → Int32) × (Nat → Int32) × (Nat → Int32) × (Nat → Int32) × (Nat → Int32) × (Nat → Int32) × (Nat → Int32) × (Nat → Int32) × (Nat → Int64) × Int32 × Int32 × Int32 × Int32) => wC K ad (sI (sI (sI (sI (sL (sA (sA (sA (sA (sA (sA (sA (sA (sA S 2 u.1) 3 u.2.1) 4 u.2.2.1) 5 u.2.2.2.1) 6 u.2.2.2.2.1) 7 u.2.2.2.2.2.1) 8 u.2.2.2.2.2.2.1) 9 u.2.2.2.2.2.2.2.1) 10 u.2.2.2.2.2.2.2.2.1) 49 u.2.2.2.2.2.2.2.2.2.1) 73 u.2.2.2.2.2.2.2.2.2.2.1) 2626 u.2.2.2.2.2.2.2.2.2.2.2.1) 2627 u.2.2.2.2.2.2.2.2.2.2.2.2.1) 2628 u.2.2.2.2.2.2.2.2.2.2.2.2.2) ++ xo K ad (sI (sI (sI (sI (sL (sA (sA (sA (sA (sA (sA (sA (sA (sA S 2 u.1) 3 u.2.1) 4 u.2.2.1) 5 u.2.2.2.1) 6 u.2.2.2.2.1) 7 u.2.2.2.2.2.1) 8 u.2.2.2.2.2.2.1) 9 u.2.2.2.2.2.2.2.1) 10 u.2.2.2.2.2.2.2.2.1) 49 u.2.2.2.2.2.2.2.2.2.1) 73 u.2.2.2.2.2.2.2.2.2.2.1) 2626 u.2.2.2.2.2.2.2.2.2.2.2.1) 2627 u.2.2.2.2.2.2.2.2.2.2.2.2.1) 2628 u.2.2.2.2.2.2.2.2.2.2.2.2.2) (wM K bd T)) w (kr_W (y := y_La_kern) (As := [.ref (ad 0), .int (xs (x4 + 1).toNatClampNeg), .int 1, .ref (ad 49)]) (n := 4) C w (c_La_kern l htr n0 G K ad (wM K bd T) S (xs (x4 + 1).toNatClampNeg) 1 _ hw) kw_548 kw_549 kw_0 kw_550 (by decide +kernel) rfl rfl ⟨Nat.le_of_ble_eq_true rfl, Nat.le_of_ble_eq_true rfl⟩ rfl hl.1 rfl (Nat.le_of_ble_eq_true rfl) d_law_286 ⟨by show _ ≤ 601024; omega, by show _ ≤ 7293034; omega⟩) (fun r60 u H locs hw w => ?_)
    obtain ⟨f46, f47, f48, f49, f50, f51, f52, f53, f54, f55, v56, v57, v58, v59⟩ := u
    dsimp only at hw
    have w : wn n0 G (wC K ad (sI (sI (sI (sI (sL (sA (sA (sA (sA (sA (sA (sA (sA (sA S 2 f46) 3 f47) 4 f48) 5 f49) 6 f50) 7 f51) 8 f52) 9 f53) 10 f54) 49 f55) 73 v56) 2626 v57) 2627 v58) 2628 v59) ++ xo K ad (sI (sI (sI (sI (sL (sA (sA (sA (sA (sA (sA (sA (sA (sA S 2 f46) 3 f47) 4 f48) 5 f49) 6 f50) 7 f51) 8 f52) 9 f53) 10 f54) 49 f55) 73 v56) 2626 v57) 2627 v58) 2628 v59) (wM K bd T)) s H locs := w
    refine lv_istore (lv' := [(5, .int r60), (0, .ref b), (1, .ref (ad 0)), (2, .ref (bd 0)), (3, .ref (ad 49)), (4, .int x4)]) hx hb d_law_289 hl (by decide) rfl (fun ls hl => ?_)
    refine lv_aload_n hx hb d_law_291 rfl (lv_at hl 3 rfl) ?_
    refine lv_aload_n hx hb d_law_292 rfl (lv_at hl 1 rfl) ?_
    refine lv_iload hx hb d_law_293 (lv_at hl 5 rfl) ?_
    refine lv_iconst (v := 1) hx hb d_law_295 (by decide) ?_
    refine lv_iadd hx hb d_law_296 ?_
    refine va_sld hx hb hX hbl hbA w.2.2 hw.1 d_law_297 ?_
    have hw := hw.2
    refine lv_aload_n hx hb d_law_298 rfl (lv_at hl 1 rfl) ?_
    refine lv_iload hx hb d_law_299 (lv_at hl 5 rfl) ?_
    refine lv_iconst (v := 2) hx hb d_law_301 (by decide) ?_
    refine lv_iadd hx hb d_law_302 ?_
    refine va_sld hx hb hX hbl hbA w.2.2 hw.1 d_law_303 ?_
    have hw := hw.2
    refine lv_if_eq (tgt := 311) hx hb d_law_304 (by decide) (fun hc => ?_) (fun hc => ?_)
    · have hw := hw.1 hc
      refine lv_iconst (v := 0) hx hb d_law_311 (by decide) ?_
      have wm := lw_toM w
      refine kc_i (st := fun (u : (Nat → Int32) × (Nat → Int32) × (Nat → Int32) × (Nat → Int32) × (Nat → Int32) × (Nat → Int32) × (Nat → Int32) × (Nat → Int32) × Int32 × Int32 × Int32) => wM K bd (sI (sI (sI (sA (sA (sA (sA (sA (sA (sA (sA T 1 u.1) 2 u.2.1) 3 u.2.2.1) 4 u.2.2.2.1) 5 u.2.2.2.2.1) 6 u.2.2.2.2.2.1) 7 u.2.2.2.2.2.2.1) 8 u.2.2.2.2.2.2.2.1) 0 u.2.2.2.2.2.2.2.2.1) 1 u.2.2.2.2.2.2.2.2.2.1) 34 u.2.2.2.2.2.2.2.2.2.2) ++ (wC K ad (sI (sI (sI (sI (sL (sA (sA (sA (sA (sA (sA (sA (sA (sA S 2 f46) 3 f47) 4 f48) 5 f49) 6 f50) 7 f51) 8 f52) 9 f53) 10 f54) 49 f55) 73 v56) 2626 v57) 2627 v58) 2628 v59) ++ xo K ad (sI (sI (sI (sI (sL (sA (sA (sA (sA (sA (sA (sA (sA (sA S 2 f46) 3 f47) 4 f48) 5 f49) 6 f50) 7 f51) 8 f52) 9 f53) 10 f54) 49 f55) 73 v56) 2626 v57) 2627 v58) 2628 v59) [])) wm (kr_V (y := y_Mo_kern) (C1 := R_Mo) (T := F_Mo) (N := 43) (ci := 10) (q0 := 0) (As := [.int (xs (x4 + 1).toNatClampNeg), .int 0]) (n := 2) C wm (c_Mo_kern l n0 G K bd (wC K ad (sI (sI (sI (sI (sL (sA (sA (sA (sA (sA (sA (sA (sA (sA S 2 f46) 3 f47) 4 f48) 5 f49) 6 f50) 7 f51) 8 f52) 9 f53) 10 f54) 49 f55) 73 v56) 2626 v57) 2627 v58) 2628 v59) ++ xo K ad (sI (sI (sI (sI (sL (sA (sA (sA (sA (sA (sA (sA (sA (sA S 2 f46) 3 f47) 4 f48) 5 f49) 6 f50) 7 f51) 8 f52) 9 f53) 10 f54) 49 f55) 73 v56) 2626 v57) 2627 v58) 2628 v59) []) T (xs (x4 + 1).toNatClampNeg) 0 _ hw) (gw_V kw_1039 kw_1040 kw_1041 kw_11 kw_1042) (by decide +kernel) rfl rfl ⟨Nat.le_of_ble_eq_true rfl, Nat.le_of_ble_eq_true rfl⟩ rfl rfl rfl hl.1 rfl (Nat.le_of_ble_eq_true rfl) d_law_312 ⟨by show _ ≤ 601024; omega, by show _ ≤ 7293034; omega⟩) (fun r72 u H locs hw w => ?_)
      obtain ⟨f61, f62, f63, f64, f65, f66, f67, f68, v69, v70, v71⟩ := u
      dsimp only at hw
      have w : wn n0 G (wM K bd (sI (sI (sI (sA (sA (sA (sA (sA (sA (sA (sA T 1 f61) 2 f62) 3 f63) 4 f64) 5 f65) 6 f66) 7 f67) 8 f68) 0 v69) 1 v70) 34 v71) ++ (wC K ad (sI (sI (sI (sI (sL (sA (sA (sA (sA (sA (sA (sA (sA (sA S 2 f46) 3 f47) 4 f48) 5 f49) 6 f50) 7 f51) 8 f52) 9 f53) 10 f54) 49 f55) 73 v56) 2626 v57) 2627 v58) 2628 v59) ++ xo K ad (sI (sI (sI (sI (sL (sA (sA (sA (sA (sA (sA (sA (sA (sA S 2 f46) 3 f47) 4 f48) 5 f49) 6 f50) 7 f51) 8 f52) 9 f53) 10 f54) 49 f55) 73 v56) 2626 v57) 2627 v58) 2628 v59) [])) s H locs := w
      have w := lw_toC w
      refine lv_istore (lv' := [(6, .int r72), (5, .int r60), (0, .ref b), (1, .ref (ad 0)), (2, .ref (bd 0)), (3, .ref (ad 49)), (4, .int x4)]) hx hb d_law_315 hl (by decide) rfl (fun ls hl => ?_)
      refine lv_aload_n hx hb d_law_317 rfl (lv_at hl 4 rfl) ?_
      have wm := lw_toM w
      refine kd_i (kr_V (y := y_Mo_thrown) (C1 := R_Mo) (T := F_Mo) (N := 43) (ci := 10) (q0 := 0) (As := []) (n := 0) C wm (c_Mo_thrown l n0 G K bd (wC K ad (sI (sI (sI (sI (sL (sA (sA (sA (sA (sA (sA (sA (sA (sA S 2 f46) 3 f47) 4 f48) 5 f49) 6 f50) 7 f51) 8 f52) 9 f53) 10 f54) 49 f55) 73 v56) 2626 v57) 2627 v58) 2628 v59) ++ xo K ad (sI (sI (sI (sI (sL (sA (sA (sA (sA (sA (sA (sA (sA (sA S 2 f46) 3 f47) 4 f48) 5 f49) 6 f50) 7 f51) 8 f52) 9 f53) 10 f54) 49 f55) 73 v56) 2626 v57) 2627 v58) 2628 v59) []) (sI (sI (sI (sA (sA (sA (sA (sA (sA (sA (sA T 1 f61) 2 f62) 3 f63) 4 f64) 5 f65) 6 f66) 7 f67) 8 f68) 0 v69) 1 v70) 34 v71)  _ hw) (gw_V kw_1007 kw_1008 kw_1009 kw_11 kw_1010) (by decide +kernel) rfl rfl ⟨Nat.le_of_ble_eq_true rfl, Nat.le_of_ble_eq_true rfl⟩ rfl rfl rfl hl.1 rfl (Nat.le_of_ble_eq_true rfl) d_law_318 ⟨by show _ ≤ 601024; omega, by show _ ≤ 7293034; omega⟩) (fun r73 hw => ?_)
      refine lv_iload hx hb d_law_321 (lv_at hl 1 rfl) ?_
      refine lv_icmp_eq (tgt := 328) hx hb d_law_323 (by decide) (fun hc => ?_) (fun hc => ?_)
      · have hw := hw.1 hc
        refine lv_iload hx hb d_law_328 (lv_at hl 1 rfl) ?_
        refine lv_if_ne (tgt := 345) hx hb d_law_330 (by decide) (fun hc => ?_) (fun hc => ?_)
        · have hw := hw.1 hc
          refine lv_goto (tgt := 895) hx hb d_law_345 (by decide) ?_
          obtain ⟨v74, ev74⟩ : ∃ y : Int32, y = x4 + 6 := ⟨_, rfl⟩
          refine lv_iinc (v := v74) (lv' := [(4, .int v74), (6, .int r72), (5, .int r60), (0, .ref b), (1, .ref (ad 0)), (2, .ref (bd 0)), (3, .ref (ad 49))]) hx hb d_law_895 hl (k := 6) rfl (by rw [ev74]; rfl) (by decide) rfl (fun ls hl => ?_)
          have hw := hw v74 ev74
          refine lv_goto (tgt := 23) hx hb d_law_898 (by decide) ?_
          refine W.widen (k := cc + 6) (n := dd + 36) (by omega) (by omega) ?_
          exact hk (sI (sI (sI (sI (sL (sA (sA (sA (sA (sA (sA (sA (sA (sA S 2 f46) 3 f47) 4 f48) 5 f49) 6 f50) 7 f51) 8 f52) 9 f53) 10 f54) 49 f55) 73 v56) 2626 v57) 2627 v58) 2628 v59) (sI (sI (sI (sA (sA (sA (sA (sA (sA (sA (sA T 1 f61) 2 f62) 3 f63) 4 f64) 5 f65) 6 f66) 7 f67) 8 f68) 0 v69) 1 v70) 34 v71) v74 hw _ _ _ (wn_eq w rfl) (lv_sub hl [3, 4, 5, 6, 0] rfl)
        · have hw := hw.2 hc
          refine lv_aload_n hx hb d_law_333 rfl (lv_at hl 5 rfl) ?_
          refine lv_iconst (v := 0) hx hb d_law_334 (by decide) ?_
          refine ka_l (f := f55) C w 49 rfl (vp_in_nI (n := 0) (N := 1) (by decide) (by decide)) d_law_335 ?_
          refine lv_iload hx hb d_law_336 (lv_at hl 0 rfl) ?_
          refine lv_i2l hx hb d_law_338 rfl ?_
          refine W.lcmp hx hb d_law_339 ?_
          refine lv_if_eq (tgt := 345) hx hb d_law_340 (by decide) (fun hc => ?_) (fun hc => ?_)
          · have hw := hw.1 hc
            refine lv_goto (tgt := 895) hx hb d_law_345 (by decide) ?_
            obtain ⟨v75, ev75⟩ : ∃ y : Int32, y = x4 + 6 := ⟨_, rfl⟩
            refine lv_iinc (v := v75) (lv' := [(4, .int v75), (6, .int r72), (5, .int r60), (0, .ref b), (1, .ref (ad 0)), (2, .ref (bd 0)), (3, .ref (ad 49))]) hx hb d_law_895 hl (k := 6) rfl (by rw [ev75]; rfl) (by decide) rfl (fun ls hl => ?_)
            have hw := hw v75 ev75
            refine lv_goto (tgt := 23) hx hb d_law_898 (by decide) ?_
            refine W.widen (k := cc + 6) (n := dd + 36) (by omega) (by omega) ?_
            exact hk (sI (sI (sI (sI (sL (sA (sA (sA (sA (sA (sA (sA (sA (sA S 2 f46) 3 f47) 4 f48) 5 f49) 6 f50) 7 f51) 8 f52) 9 f53) 10 f54) 49 f55) 73 v56) 2626 v57) 2627 v58) 2628 v59) (sI (sI (sI (sA (sA (sA (sA (sA (sA (sA (sA T 1 f61) 2 f62) 3 f63) 4 f64) 5 f65) 6 f66) 7 f67) 8 f68) 0 v69) 1 v70) 34 v71) v75 hw _ _ _ (wn_eq w rfl) (lv_sub hl [3, 4, 5, 6, 0] rfl)
          · have hw := hw.2 hc
            refine lv_iconst (v := 0) hx hb d_law_343 (by decide) ?_
            exact hw.elim
      · have hw := hw.2 hc
        refine lv_iconst (v := 0) hx hb d_law_326 (by decide) ?_
        exact hw.elim
    · have hw := hw.2 hc
      refine lv_iconst (v := 1) hx hb d_law_307 (by decide) ?_
      refine lv_goto (tgt := 312) hx hb d_law_308 (by decide) ?_
      have wm := lw_toM w
      refine kc_i (st := fun (u : (Nat → Int32) × (Nat → Int32) × (Nat → Int32) × (Nat → Int32) × (Nat → Int32) × (Nat → Int32) × (Nat → Int32) × (Nat → Int32) × Int32 × Int32 × Int32) => wM K bd (sI (sI (sI (sA (sA (sA (sA (sA (sA (sA (sA T 1 u.1) 2 u.2.1) 3 u.2.2.1) 4 u.2.2.2.1) 5 u.2.2.2.2.1) 6 u.2.2.2.2.2.1) 7 u.2.2.2.2.2.2.1) 8 u.2.2.2.2.2.2.2.1) 0 u.2.2.2.2.2.2.2.2.1) 1 u.2.2.2.2.2.2.2.2.2.1) 34 u.2.2.2.2.2.2.2.2.2.2) ++ (wC K ad (sI (sI (sI (sI (sL (sA (sA (sA (sA (sA (sA (sA (sA (sA S 2 f46) 3 f47) 4 f48) 5 f49) 6 f50) 7 f51) 8 f52) 9 f53) 10 f54) 49 f55) 73 v56) 2626 v57) 2627 v58) 2628 v59) ++ xo K ad (sI (sI (sI (sI (sL (sA (sA (sA (sA (sA (sA (sA (sA (sA S 2 f46) 3 f47) 4 f48) 5 f49) 6 f50) 7 f51) 8 f52) 9 f53) 10 f54) 49 f55) 73 v56) 2626 v57) 2627 v58) 2628 v59) [])) wm (kr_V (y := y_Mo_kern) (C1 := R_Mo) (T := F_Mo) (N := 43) (ci := 10) (q0 := 0) (As := [.int (xs (x4 + 1).toNatClampNeg), .int 1]) (n := 2) C wm (c_Mo_kern l n0 G K bd (wC K ad (sI (sI (sI (sI (sL (sA (sA (sA (sA (sA (sA (sA (sA (sA S 2 f46) 3 f47) 4 f48) 5 f49) 6 f50) 7 f51) 8 f52) 9 f53) 10 f54) 49 f55) 73 v56) 2626 v57) 2627 v58) 2628 v59) ++ xo K ad (sI (sI (sI (sI (sL (sA (sA (sA (sA (sA (sA (sA (sA (sA S 2 f46) 3 f47) 4 f48) 5 f49) 6 f50) 7 f51) 8 f52) 9 f53) 10 f54) 49 f55) 73 v56) 2626 v57) 2627 v58) 2628 v59) []) T (xs (x4 + 1).toNatClampNeg) 1 _ hw) (gw_V kw_1039 kw_1040 kw_1041 kw_11 kw_1042) (by decide +kernel) rfl rfl ⟨Nat.le_of_ble_eq_true rfl, Nat.le_of_ble_eq_true rfl⟩ rfl rfl rfl hl.1 rfl (Nat.le_of_ble_eq_true rfl) d_law_312 ⟨by show _ ≤ 601024; omega, by show _ ≤ 7293034; omega⟩) (fun r87 u H locs hw w => ?_)
      obtain ⟨f76, f77, f78, f79, f80, f81, f82, f83, v84, v85, v86⟩ := u
      dsimp only at hw
      have w : wn n0 G (wM K bd (sI (sI (sI (sA (sA (sA (sA (sA (sA (sA (sA T 1 f76) 2 f77) 3 f78) 4 f79) 5 f80) 6 f81) 7 f82) 8 f83) 0 v84) 1 v85) 34 v86) ++ (wC K ad (sI (sI (sI (sI (sL (sA (sA (sA (sA (sA (sA (sA (sA (sA S 2 f46) 3 f47) 4 f48) 5 f49) 6 f50) 7 f51) 8 f52) 9 f53) 10 f54) 49 f55) 73 v56) 2626 v57) 2627 v58) 2628 v59) ++ xo K ad (sI (sI (sI (sI (sL (sA (sA (sA (sA (sA (sA (sA (sA (sA S 2 f46) 3 f47) 4 f48) 5 f49) 6 f50) 7 f51) 8 f52) 9 f53) 10 f54) 49 f55) 73 v56) 2626 v57) 2627 v58) 2628 v59) [])) s H locs := w
      have w := lw_toC w
      refine lv_istore (lv' := [(6, .int r87), (5, .int r60), (0, .ref b), (1, .ref (ad 0)), (2, .ref (bd 0)), (3, .ref (ad 49)), (4, .int x4)]) hx hb d_law_315 hl (by decide) rfl (fun ls hl => ?_)
      refine lv_aload_n hx hb d_law_317 rfl (lv_at hl 4 rfl) ?_
      have wm := lw_toM w
      refine kd_i (kr_V (y := y_Mo_thrown) (C1 := R_Mo) (T := F_Mo) (N := 43) (ci := 10) (q0 := 0) (As := []) (n := 0) C wm (c_Mo_thrown l n0 G K bd (wC K ad (sI (sI (sI (sI (sL (sA (sA (sA (sA (sA (sA (sA (sA (sA S 2 f46) 3 f47) 4 f48) 5 f49) 6 f50) 7 f51) 8 f52) 9 f53) 10 f54) 49 f55) 73 v56) 2626 v57) 2627 v58) 2628 v59) ++ xo K ad (sI (sI (sI (sI (sL (sA (sA (sA (sA (sA (sA (sA (sA (sA S 2 f46) 3 f47) 4 f48) 5 f49) 6 f50) 7 f51) 8 f52) 9 f53) 10 f54) 49 f55) 73 v56) 2626 v57) 2627 v58) 2628 v59) []) (sI (sI (sI (sA (sA (sA (sA (sA (sA (sA (sA T 1 f76) 2 f77) 3 f78) 4 f79) 5 f80) 6 f81) 7 f82) 8 f83) 0 v84) 1 v85) 34 v86)  _ hw) (gw_V kw_1007 kw_1008 kw_1009 kw_11 kw_1010) (by decide +kernel) rfl rfl ⟨Nat.le_of_ble_eq_true rfl, Nat.le_of_ble_eq_true rfl⟩ rfl rfl rfl hl.1 rfl (Nat.le_of_ble_eq_true rfl) d_law_318 ⟨by show _ ≤ 601024; omega, by show _ ≤ 7293034; omega⟩) (fun r88 hw => ?_)
      refine lv_iload hx hb d_law_321 (lv_at hl 1 rfl) ?_
      refine lv_icmp_eq (tgt := 328) hx hb d_law_323 (by decide) (fun hc => ?_) (fun hc => ?_)
      · have hw := hw.1 hc
        refine lv_iload hx hb d_law_328 (lv_at hl 1 rfl) ?_
        refine lv_if_ne (tgt := 345) hx hb d_law_330 (by decide) (fun hc => ?_) (fun hc => ?_)
        · have hw := hw.1 hc
          refine lv_goto (tgt := 895) hx hb d_law_345 (by decide) ?_
          obtain ⟨v89, ev89⟩ : ∃ y : Int32, y = x4 + 6 := ⟨_, rfl⟩
          refine lv_iinc (v := v89) (lv' := [(4, .int v89), (6, .int r87), (5, .int r60), (0, .ref b), (1, .ref (ad 0)), (2, .ref (bd 0)), (3, .ref (ad 49))]) hx hb d_law_895 hl (k := 6) rfl (by rw [ev89]; rfl) (by decide) rfl (fun ls hl => ?_)
          have hw := hw v89 ev89
          refine lv_goto (tgt := 23) hx hb d_law_898 (by decide) ?_
          refine W.widen (k := cc + 6) (n := dd + 36) (by omega) (by omega) ?_
          exact hk (sI (sI (sI (sI (sL (sA (sA (sA (sA (sA (sA (sA (sA (sA S 2 f46) 3 f47) 4 f48) 5 f49) 6 f50) 7 f51) 8 f52) 9 f53) 10 f54) 49 f55) 73 v56) 2626 v57) 2627 v58) 2628 v59) (sI (sI (sI (sA (sA (sA (sA (sA (sA (sA (sA T 1 f76) 2 f77) 3 f78) 4 f79) 5 f80) 6 f81) 7 f82) 8 f83) 0 v84) 1 v85) 34 v86) v89 hw _ _ _ (wn_eq w rfl) (lv_sub hl [3, 4, 5, 6, 0] rfl)
        · have hw := hw.2 hc
          refine lv_aload_n hx hb d_law_333 rfl (lv_at hl 5 rfl) ?_
          refine lv_iconst (v := 0) hx hb d_law_334 (by decide) ?_
          refine ka_l (f := f55) C w 49 rfl (vp_in_nI (n := 0) (N := 1) (by decide) (by decide)) d_law_335 ?_
          refine lv_iload hx hb d_law_336 (lv_at hl 0 rfl) ?_
          refine lv_i2l hx hb d_law_338 rfl ?_
          refine W.lcmp hx hb d_law_339 ?_
          refine lv_if_eq (tgt := 345) hx hb d_law_340 (by decide) (fun hc => ?_) (fun hc => ?_)
          · have hw := hw.1 hc
            refine lv_goto (tgt := 895) hx hb d_law_345 (by decide) ?_
            obtain ⟨v90, ev90⟩ : ∃ y : Int32, y = x4 + 6 := ⟨_, rfl⟩
            refine lv_iinc (v := v90) (lv' := [(4, .int v90), (6, .int r87), (5, .int r60), (0, .ref b), (1, .ref (ad 0)), (2, .ref (bd 0)), (3, .ref (ad 49))]) hx hb d_law_895 hl (k := 6) rfl (by rw [ev90]; rfl) (by decide) rfl (fun ls hl => ?_)
            have hw := hw v90 ev90
            refine lv_goto (tgt := 23) hx hb d_law_898 (by decide) ?_
            refine W.widen (k := cc + 6) (n := dd + 36) (by omega) (by omega) ?_
            exact hk (sI (sI (sI (sI (sL (sA (sA (sA (sA (sA (sA (sA (sA (sA S 2 f46) 3 f47) 4 f48) 5 f49) 6 f50) 7 f51) 8 f52) 9 f53) 10 f54) 49 f55) 73 v56) 2626 v57) 2627 v58) 2628 v59) (sI (sI (sI (sA (sA (sA (sA (sA (sA (sA (sA T 1 f76) 2 f77) 3 f78) 4 f79) 5 f80) 6 f81) 7 f82) 8 f83) 0 v84) 1 v85) 34 v86) v90 hw _ _ _ (wn_eq w rfl) (lv_sub hl [3, 4, 5, 6, 0] rfl)
          · have hw := hw.2 hc
            refine lv_iconst (v := 0) hx hb d_law_343 (by decide) ?_
            exact hw.elim
      · have hw := hw.2 hc
        refine lv_iconst (v := 0) hx hb d_law_326 (by decide) ?_
        exact hw.elim
set_option maxHeartbeats 8000000 in
set_option maxRecDepth 100000 in
theorem w_law_348 (C : cx p s m #[Value.ref b] meth c code 8 "LineBreakerLaw" n0 G K) (hr : meth.sig.returnType = ret) (htr : l.stackTraces = false) (hX : va_X b L xs s s.heap) (hbl : b < n0) {cc dd : Nat} (hc9 : cc + 6 ≤ 601024) (hd9 : dd + 36 ≤ 7293034) {Kh : ST → ST → Int32 → Prop} (hk : ∀ (S T : ST) (x4 : Int32), Kh S T x4 → ∀ (H : Heap) (locs : List Loc) (ls : Array Slot), wn n0 G (wC K ad S ++ xo K ad S (wM K bd T)) s H locs → lv_has ls 8 [(0, .ref b), (1, .ref (ad 0)), (2, .ref (bd 0)), (3, .ref (ad 49)), (4, .int x4)] → W p l e room_1 s m #[Value.ref b] below meth c H locs (cc + 6) (dd + 36) (lw_Z below #[Value.ref b] s) (F0 m 23 ls [])) : ∀ (S T : ST) (x4 : Int32), wl_law_348 L xs Kh S T x4 → ∀ (H : Heap) (locs : List Loc) (ls : Array Slot), wn n0 G (wC K ad S ++ xo K ad S (wM K bd T)) s H locs → lv_has ls 8 [(0, .ref b), (1, .ref (ad 0)), (2, .ref (bd 0)), (3, .ref (ad 49)), (4, .int x4)] → W p l e room_1 s m #[Value.ref b] below meth c H locs cc dd (lw_Z below #[Value.ref b] s) (F0 m 348 ls []) := by
  have hx := C.1
  have hb := C.2.1
  have hts := C.2.2.2.2.1
  have hn0 := C.2.2.2.2.2.2.2.1
  have hbA : ¬ al n0 b := Nat.not_le.mpr hbl
  have hbl := Nat.lt_of_lt_of_le hbl hn0
  intro S T x4 hw H locs ls w hl
  unfold wl_law_348 at hw
  refine lv_aload_n hx hb d_law_348 rfl (lv_at hl 1 rfl) ?_
  refine lv_aload_n hx hb d_law_349 rfl (lv_at hl 0 rfl) ?_
  refine lv_iload hx hb d_law_350 (lv_at hl 4 rfl) ?_
  refine lv_iconst (v := 1) hx hb d_law_352 (by decide) ?_
  refine lv_iadd hx hb d_law_353 ?_
  refine va_sld hx hb hX hbl hbA w.2.2 hw.1 d_law_354 ?_
  have hw := hw.2
  refine lv_aload_n hx hb d_law_355 rfl (lv_at hl 3 rfl) ?_
  refine kc_i (st := fun (u : (Nat → Int32) × (Nat → Int32) × (Nat → Int32) × (Nat → Int32) × (Nat → Int32) × (Nat → Int32) × (Nat → Int32) × (Nat → Int32) × (Nat → Int32) × (Nat → Int64) × Int32 × Int32 × Int32 × Int32) => wC K ad (sI (sI (sI (sI (sL (sA (sA (sA (sA (sA (sA (sA (sA (sA S 2 u.1) 3 u.2.1) 4 u.2.2.1) 5 u.2.2.2.1) 6 u.2.2.2.2.1) 7 u.2.2.2.2.2.1) 8 u.2.2.2.2.2.2.1) 9 u.2.2.2.2.2.2.2.1) 10 u.2.2.2.2.2.2.2.2.1) 49 u.2.2.2.2.2.2.2.2.2.1) 73 u.2.2.2.2.2.2.2.2.2.2.1) 2626 u.2.2.2.2.2.2.2.2.2.2.2.1) 2627 u.2.2.2.2.2.2.2.2.2.2.2.2.1) 2628 u.2.2.2.2.2.2.2.2.2.2.2.2.2) ++ xo K ad (sI (sI (sI (sI (sL (sA (sA (sA (sA (sA (sA (sA (sA (sA S 2 u.1) 3 u.2.1) 4 u.2.2.1) 5 u.2.2.2.1) 6 u.2.2.2.2.1) 7 u.2.2.2.2.2.1) 8 u.2.2.2.2.2.2.1) 9 u.2.2.2.2.2.2.2.1) 10 u.2.2.2.2.2.2.2.2.1) 49 u.2.2.2.2.2.2.2.2.2.1) 73 u.2.2.2.2.2.2.2.2.2.2.1) 2626 u.2.2.2.2.2.2.2.2.2.2.2.1) 2627 u.2.2.2.2.2.2.2.2.2.2.2.2.1) 2628 u.2.2.2.2.2.2.2.2.2.2.2.2.2) (wM K bd T)) w (kr_W (y := y_La_penalty) (As := [.ref (ad 0), .int (xs (x4 + 1).toNatClampNeg), .ref (ad 49)]) (n := 3) C w (c_La_penalty l htr n0 G K ad (wM K bd T) S (xs (x4 + 1).toNatClampNeg) _ hw) kw_555 kw_556 kw_0 kw_557 (by decide +kernel) rfl rfl ⟨Nat.le_of_ble_eq_true rfl, Nat.le_of_ble_eq_true rfl⟩ rfl hl.1 rfl (Nat.le_of_ble_eq_true rfl) d_law_356 ⟨by show _ ≤ 601024; omega, by show _ ≤ 7293034; omega⟩) (fun r15 u H locs hw w => ?_)
  obtain ⟨f1, f2, f3, f4, f5, f6, f7, f8, f9, f10, v11, v12, v13, v14⟩ := u
  dsimp only at hw
  have w : wn n0 G (wC K ad (sI (sI (sI (sI (sL (sA (sA (sA (sA (sA (sA (sA (sA (sA S 2 f1) 3 f2) 4 f3) 5 f4) 6 f5) 7 f6) 8 f7) 9 f8) 10 f9) 49 f10) 73 v11) 2626 v12) 2627 v13) 2628 v14) ++ xo K ad (sI (sI (sI (sI (sL (sA (sA (sA (sA (sA (sA (sA (sA (sA S 2 f1) 3 f2) 4 f3) 5 f4) 6 f5) 7 f6) 8 f7) 9 f8) 10 f9) 49 f10) 73 v11) 2626 v12) 2627 v13) 2628 v14) (wM K bd T)) s H locs := w
  refine lv_istore (lv' := [(5, .int r15), (0, .ref b), (1, .ref (ad 0)), (2, .ref (bd 0)), (3, .ref (ad 49)), (4, .int x4)]) hx hb d_law_359 hl (by decide) rfl (fun ls hl => ?_)
  refine lv_aload_n hx hb d_law_361 rfl (lv_at hl 3 rfl) ?_
  refine lv_aload_n hx hb d_law_362 rfl (lv_at hl 1 rfl) ?_
  refine lv_iload hx hb d_law_363 (lv_at hl 5 rfl) ?_
  refine lv_iconst (v := 1) hx hb d_law_365 (by decide) ?_
  refine lv_iadd hx hb d_law_366 ?_
  refine va_sld hx hb hX hbl hbA w.2.2 hw.1 d_law_367 ?_
  have hw := hw.2
  have wm := lw_toM w
  refine kc_i (st := fun (u : (Nat → Int32) × (Nat → Int32) × (Nat → Int32) × (Nat → Int32) × (Nat → Int32) × (Nat → Int32) × (Nat → Int32) × (Nat → Int32) × Int32 × Int32 × Int32) => wM K bd (sI (sI (sI (sA (sA (sA (sA (sA (sA (sA (sA T 1 u.1) 2 u.2.1) 3 u.2.2.1) 4 u.2.2.2.1) 5 u.2.2.2.2.1) 6 u.2.2.2.2.2.1) 7 u.2.2.2.2.2.2.1) 8 u.2.2.2.2.2.2.2.1) 0 u.2.2.2.2.2.2.2.2.1) 1 u.2.2.2.2.2.2.2.2.2.1) 34 u.2.2.2.2.2.2.2.2.2.2) ++ (wC K ad (sI (sI (sI (sI (sL (sA (sA (sA (sA (sA (sA (sA (sA (sA S 2 f1) 3 f2) 4 f3) 5 f4) 6 f5) 7 f6) 8 f7) 9 f8) 10 f9) 49 f10) 73 v11) 2626 v12) 2627 v13) 2628 v14) ++ xo K ad (sI (sI (sI (sI (sL (sA (sA (sA (sA (sA (sA (sA (sA (sA S 2 f1) 3 f2) 4 f3) 5 f4) 6 f5) 7 f6) 8 f7) 9 f8) 10 f9) 49 f10) 73 v11) 2626 v12) 2627 v13) 2628 v14) [])) wm (kr_V (y := y_Mo_penalty) (C1 := R_Mo) (T := F_Mo) (N := 43) (ci := 10) (q0 := 0) (As := [.int (xs (x4 + 1).toNatClampNeg)]) (n := 1) C wm (c_Mo_penalty l n0 G K bd (wC K ad (sI (sI (sI (sI (sL (sA (sA (sA (sA (sA (sA (sA (sA (sA S 2 f1) 3 f2) 4 f3) 5 f4) 6 f5) 7 f6) 8 f7) 9 f8) 10 f9) 49 f10) 73 v11) 2626 v12) 2627 v13) 2628 v14) ++ xo K ad (sI (sI (sI (sI (sL (sA (sA (sA (sA (sA (sA (sA (sA (sA S 2 f1) 3 f2) 4 f3) 5 f4) 6 f5) 7 f6) 8 f7) 9 f8) 10 f9) 49 f10) 73 v11) 2626 v12) 2627 v13) 2628 v14) []) T (xs (x4 + 1).toNatClampNeg) _ hw) (gw_V kw_1043 kw_1044 kw_1045 kw_11 kw_1046) (by decide +kernel) rfl rfl ⟨Nat.le_of_ble_eq_true rfl, Nat.le_of_ble_eq_true rfl⟩ rfl rfl rfl hl.1 rfl (Nat.le_of_ble_eq_true rfl) d_law_368 ⟨by show _ ≤ 601024; omega, by show _ ≤ 7293034; omega⟩) (fun r27 u H locs hw w => ?_)
  obtain ⟨f16, f17, f18, f19, f20, f21, f22, f23, v24, v25, v26⟩ := u
  dsimp only at hw
  have w : wn n0 G (wM K bd (sI (sI (sI (sA (sA (sA (sA (sA (sA (sA (sA T 1 f16) 2 f17) 3 f18) 4 f19) 5 f20) 6 f21) 7 f22) 8 f23) 0 v24) 1 v25) 34 v26) ++ (wC K ad (sI (sI (sI (sI (sL (sA (sA (sA (sA (sA (sA (sA (sA (sA S 2 f1) 3 f2) 4 f3) 5 f4) 6 f5) 7 f6) 8 f7) 9 f8) 10 f9) 49 f10) 73 v11) 2626 v12) 2627 v13) 2628 v14) ++ xo K ad (sI (sI (sI (sI (sL (sA (sA (sA (sA (sA (sA (sA (sA (sA S 2 f1) 3 f2) 4 f3) 5 f4) 6 f5) 7 f6) 8 f7) 9 f8) 10 f9) 49 f10) 73 v11) 2626 v12) 2627 v13) 2628 v14) [])) s H locs := w
  have w := lw_toC w
  refine lv_istore (lv' := [(6, .int r27), (5, .int r15), (0, .ref b), (1, .ref (ad 0)), (2, .ref (bd 0)), (3, .ref (ad 49)), (4, .int x4)]) hx hb d_law_371 hl (by decide) rfl (fun ls hl => ?_)
  refine lv_aload_n hx hb d_law_373 rfl (lv_at hl 4 rfl) ?_
  have wm := lw_toM w
  refine kd_i (kr_V (y := y_Mo_thrown) (C1 := R_Mo) (T := F_Mo) (N := 43) (ci := 10) (q0 := 0) (As := []) (n := 0) C wm (c_Mo_thrown l n0 G K bd (wC K ad (sI (sI (sI (sI (sL (sA (sA (sA (sA (sA (sA (sA (sA (sA S 2 f1) 3 f2) 4 f3) 5 f4) 6 f5) 7 f6) 8 f7) 9 f8) 10 f9) 49 f10) 73 v11) 2626 v12) 2627 v13) 2628 v14) ++ xo K ad (sI (sI (sI (sI (sL (sA (sA (sA (sA (sA (sA (sA (sA (sA S 2 f1) 3 f2) 4 f3) 5 f4) 6 f5) 7 f6) 8 f7) 9 f8) 10 f9) 49 f10) 73 v11) 2626 v12) 2627 v13) 2628 v14) []) (sI (sI (sI (sA (sA (sA (sA (sA (sA (sA (sA T 1 f16) 2 f17) 3 f18) 4 f19) 5 f20) 6 f21) 7 f22) 8 f23) 0 v24) 1 v25) 34 v26)  _ hw) (gw_V kw_1007 kw_1008 kw_1009 kw_11 kw_1010) (by decide +kernel) rfl rfl ⟨Nat.le_of_ble_eq_true rfl, Nat.le_of_ble_eq_true rfl⟩ rfl rfl rfl hl.1 rfl (Nat.le_of_ble_eq_true rfl) d_law_374 ⟨by show _ ≤ 601024; omega, by show _ ≤ 7293034; omega⟩) (fun r28 hw => ?_)
  refine lv_iload hx hb d_law_377 (lv_at hl 1 rfl) ?_
  refine lv_icmp_eq (tgt := 384) hx hb d_law_379 (by decide) (fun hc => ?_) (fun hc => ?_)
  · have hw := hw.1 hc
    refine lv_iload hx hb d_law_384 (lv_at hl 1 rfl) ?_
    refine lv_if_ne (tgt := 401) hx hb d_law_386 (by decide) (fun hc => ?_) (fun hc => ?_)
    · have hw := hw.1 hc
      refine lv_goto (tgt := 895) hx hb d_law_401 (by decide) ?_
      obtain ⟨v29, ev29⟩ : ∃ y : Int32, y = x4 + 6 := ⟨_, rfl⟩
      refine lv_iinc (v := v29) (lv' := [(4, .int v29), (6, .int r27), (5, .int r15), (0, .ref b), (1, .ref (ad 0)), (2, .ref (bd 0)), (3, .ref (ad 49))]) hx hb d_law_895 hl (k := 6) rfl (by rw [ev29]; rfl) (by decide) rfl (fun ls hl => ?_)
      have hw := hw v29 ev29
      refine lv_goto (tgt := 23) hx hb d_law_898 (by decide) ?_
      refine W.widen (k := cc + 6) (n := dd + 36) (by omega) (by omega) ?_
      exact hk (sI (sI (sI (sI (sL (sA (sA (sA (sA (sA (sA (sA (sA (sA S 2 f1) 3 f2) 4 f3) 5 f4) 6 f5) 7 f6) 8 f7) 9 f8) 10 f9) 49 f10) 73 v11) 2626 v12) 2627 v13) 2628 v14) (sI (sI (sI (sA (sA (sA (sA (sA (sA (sA (sA T 1 f16) 2 f17) 3 f18) 4 f19) 5 f20) 6 f21) 7 f22) 8 f23) 0 v24) 1 v25) 34 v26) v29 hw _ _ _ (wn_eq w rfl) (lv_sub hl [3, 4, 5, 6, 0] rfl)
    · have hw := hw.2 hc
      refine lv_aload_n hx hb d_law_389 rfl (lv_at hl 5 rfl) ?_
      refine lv_iconst (v := 0) hx hb d_law_390 (by decide) ?_
      refine ka_l (f := f10) C w 49 rfl (vp_in_nI (n := 0) (N := 1) (by decide) (by decide)) d_law_391 ?_
      refine lv_iload hx hb d_law_392 (lv_at hl 0 rfl) ?_
      refine lv_i2l hx hb d_law_394 rfl ?_
      refine W.lcmp hx hb d_law_395 ?_
      refine lv_if_eq (tgt := 401) hx hb d_law_396 (by decide) (fun hc => ?_) (fun hc => ?_)
      · have hw := hw.1 hc
        refine lv_goto (tgt := 895) hx hb d_law_401 (by decide) ?_
        obtain ⟨v30, ev30⟩ : ∃ y : Int32, y = x4 + 6 := ⟨_, rfl⟩
        refine lv_iinc (v := v30) (lv' := [(4, .int v30), (6, .int r27), (5, .int r15), (0, .ref b), (1, .ref (ad 0)), (2, .ref (bd 0)), (3, .ref (ad 49))]) hx hb d_law_895 hl (k := 6) rfl (by rw [ev30]; rfl) (by decide) rfl (fun ls hl => ?_)
        have hw := hw v30 ev30
        refine lv_goto (tgt := 23) hx hb d_law_898 (by decide) ?_
        refine W.widen (k := cc + 6) (n := dd + 36) (by omega) (by omega) ?_
        exact hk (sI (sI (sI (sI (sL (sA (sA (sA (sA (sA (sA (sA (sA (sA S 2 f1) 3 f2) 4 f3) 5 f4) 6 f5) 7 f6) 8 f7) 9 f8) 10 f9) 49 f10) 73 v11) 2626 v12) 2627 v13) 2628 v14) (sI (sI (sI (sA (sA (sA (sA (sA (sA (sA (sA T 1 f16) 2 f17) 3 f18) 4 f19) 5 f20) 6 f21) 7 f22) 8 f23) 0 v24) 1 v25) 34 v26) v30 hw _ _ _ (wn_eq w rfl) (lv_sub hl [3, 4, 5, 6, 0] rfl)
      · have hw := hw.2 hc
        refine lv_iconst (v := 0) hx hb d_law_399 (by decide) ?_
        exact hw.elim
  · have hw := hw.2 hc
    refine lv_iconst (v := 0) hx hb d_law_382 (by decide) ?_
    exact hw.elim
set_option maxHeartbeats 8000000 in
set_option maxRecDepth 100000 in
theorem w_law_404 (C : cx p s m #[Value.ref b] meth c code 8 "LineBreakerLaw" n0 G K) (hr : meth.sig.returnType = ret) (htr : l.stackTraces = false) (hX : va_X b L xs s s.heap) (hbl : b < n0) {cc dd : Nat} (hc9 : cc + 6 ≤ 601024) (hd9 : dd + 36 ≤ 7293034) {Kh : ST → ST → Int32 → Prop} (hk : ∀ (S T : ST) (x4 : Int32), Kh S T x4 → ∀ (H : Heap) (locs : List Loc) (ls : Array Slot), wn n0 G (wC K ad S ++ xo K ad S (wM K bd T)) s H locs → lv_has ls 8 [(0, .ref b), (1, .ref (ad 0)), (2, .ref (bd 0)), (3, .ref (ad 49)), (4, .int x4)] → W p l e room_1 s m #[Value.ref b] below meth c H locs (cc + 6) (dd + 36) (lw_Z below #[Value.ref b] s) (F0 m 23 ls [])) : ∀ (S T : ST) (x4 : Int32), wl_law_404 L xs Kh S T x4 → ∀ (H : Heap) (locs : List Loc) (ls : Array Slot), wn n0 G (wC K ad S ++ xo K ad S (wM K bd T)) s H locs → lv_has ls 8 [(0, .ref b), (1, .ref (ad 0)), (2, .ref (bd 0)), (3, .ref (ad 49)), (4, .int x4)] → W p l e room_1 s m #[Value.ref b] below meth c H locs cc dd (lw_Z below #[Value.ref b] s) (F0 m 404 ls []) := by
  have hx := C.1
  have hb := C.2.1
  have hts := C.2.2.2.2.1
  have hn0 := C.2.2.2.2.2.2.2.1
  have hbA : ¬ al n0 b := Nat.not_le.mpr hbl
  have hbl := Nat.lt_of_lt_of_le hbl hn0
  intro S T x4 hw H locs ls w hl
  unfold wl_law_404 at hw
  refine lv_aload_n hx hb d_law_404 rfl (lv_at hl 1 rfl) ?_
  refine lv_aload_n hx hb d_law_405 rfl (lv_at hl 0 rfl) ?_
  refine lv_iload hx hb d_law_406 (lv_at hl 4 rfl) ?_
  refine lv_iconst (v := 1) hx hb d_law_408 (by decide) ?_
  refine lv_iadd hx hb d_law_409 ?_
  refine va_sld hx hb hX hbl hbA w.2.2 hw.1 d_law_410 ?_
  have hw := hw.2
  refine lv_aload_n hx hb d_law_411 rfl (lv_at hl 0 rfl) ?_
  refine lv_iload hx hb d_law_412 (lv_at hl 4 rfl) ?_
  refine lv_iconst (v := 2) hx hb d_law_414 (by decide) ?_
  refine lv_iadd hx hb d_law_415 ?_
  refine va_sld hx hb hX hbl hbA w.2.2 hw.1 d_law_416 ?_
  have hw := hw.2
  refine lv_aload_n hx hb d_law_417 rfl (lv_at hl 0 rfl) ?_
  refine lv_iload hx hb d_law_418 (lv_at hl 4 rfl) ?_
  refine lv_iconst (v := 3) hx hb d_law_420 (by decide) ?_
  refine lv_iadd hx hb d_law_421 ?_
  refine va_sld hx hb hX hbl hbA w.2.2 hw.1 d_law_422 ?_
  have hw := hw.2
  refine lv_aload_n hx hb d_law_423 rfl (lv_at hl 3 rfl) ?_
  refine kc_i (st := fun (u : (Nat → Int32) × (Nat → Int32) × (Nat → Int32) × (Nat → Int32) × (Nat → Int32) × (Nat → Int32) × (Nat → Int32) × (Nat → Int32) × (Nat → Int32) × (Nat → Int64) × Int32 × Int32 × Int32 × Int32) => wC K ad (sI (sI (sI (sI (sL (sA (sA (sA (sA (sA (sA (sA (sA (sA S 2 u.1) 3 u.2.1) 4 u.2.2.1) 5 u.2.2.2.1) 6 u.2.2.2.2.1) 7 u.2.2.2.2.2.1) 8 u.2.2.2.2.2.2.1) 9 u.2.2.2.2.2.2.2.1) 10 u.2.2.2.2.2.2.2.2.1) 49 u.2.2.2.2.2.2.2.2.2.1) 73 u.2.2.2.2.2.2.2.2.2.2.1) 2626 u.2.2.2.2.2.2.2.2.2.2.2.1) 2627 u.2.2.2.2.2.2.2.2.2.2.2.2.1) 2628 u.2.2.2.2.2.2.2.2.2.2.2.2.2) ++ xo K ad (sI (sI (sI (sI (sL (sA (sA (sA (sA (sA (sA (sA (sA (sA S 2 u.1) 3 u.2.1) 4 u.2.2.1) 5 u.2.2.2.1) 6 u.2.2.2.2.1) 7 u.2.2.2.2.2.1) 8 u.2.2.2.2.2.2.1) 9 u.2.2.2.2.2.2.2.1) 10 u.2.2.2.2.2.2.2.2.1) 49 u.2.2.2.2.2.2.2.2.2.1) 73 u.2.2.2.2.2.2.2.2.2.2.1) 2626 u.2.2.2.2.2.2.2.2.2.2.2.1) 2627 u.2.2.2.2.2.2.2.2.2.2.2.2.1) 2628 u.2.2.2.2.2.2.2.2.2.2.2.2.2) (wM K bd T)) w (kr_W (y := y_La_hyphen) (As := [.ref (ad 0), .int (xs (x4 + 1).toNatClampNeg), .int (xs (x4 + 2).toNatClampNeg), .int (xs (x4 + 3).toNatClampNeg), .ref (ad 49)]) (n := 5) C w (c_La_hyphen l htr n0 G K ad (wM K bd T) S (xs (x4 + 1).toNatClampNeg) (xs (x4 + 2).toNatClampNeg) (xs (x4 + 3).toNatClampNeg) _ hw) kw_570 kw_571 kw_0 kw_572 (by decide +kernel) rfl rfl ⟨Nat.le_of_ble_eq_true rfl, Nat.le_of_ble_eq_true rfl⟩ rfl hl.1 rfl (Nat.le_of_ble_eq_true rfl) d_law_424 ⟨by show _ ≤ 601024; omega, by show _ ≤ 7293034; omega⟩) (fun r15 u H locs hw w => ?_)
  obtain ⟨f1, f2, f3, f4, f5, f6, f7, f8, f9, f10, v11, v12, v13, v14⟩ := u
  dsimp only at hw
  have w : wn n0 G (wC K ad (sI (sI (sI (sI (sL (sA (sA (sA (sA (sA (sA (sA (sA (sA S 2 f1) 3 f2) 4 f3) 5 f4) 6 f5) 7 f6) 8 f7) 9 f8) 10 f9) 49 f10) 73 v11) 2626 v12) 2627 v13) 2628 v14) ++ xo K ad (sI (sI (sI (sI (sL (sA (sA (sA (sA (sA (sA (sA (sA (sA S 2 f1) 3 f2) 4 f3) 5 f4) 6 f5) 7 f6) 8 f7) 9 f8) 10 f9) 49 f10) 73 v11) 2626 v12) 2627 v13) 2628 v14) (wM K bd T)) s H locs := w
  refine lv_istore (lv' := [(5, .int r15), (0, .ref b), (1, .ref (ad 0)), (2, .ref (bd 0)), (3, .ref (ad 49)), (4, .int x4)]) hx hb d_law_427 hl (by decide) rfl (fun ls hl => ?_)
  refine lv_aload_n hx hb d_law_429 rfl (lv_at hl 3 rfl) ?_
  refine lv_aload_n hx hb d_law_430 rfl (lv_at hl 1 rfl) ?_
  refine lv_iload hx hb d_law_431 (lv_at hl 5 rfl) ?_
  refine lv_iconst (v := 1) hx hb d_law_433 (by decide) ?_
  refine lv_iadd hx hb d_law_434 ?_
  refine va_sld hx hb hX hbl hbA w.2.2 hw.1 d_law_435 ?_
  have hw := hw.2
  refine lv_aload_n hx hb d_law_436 rfl (lv_at hl 1 rfl) ?_
  refine lv_iload hx hb d_law_437 (lv_at hl 5 rfl) ?_
  refine lv_iconst (v := 2) hx hb d_law_439 (by decide) ?_
  refine lv_iadd hx hb d_law_440 ?_
  refine va_sld hx hb hX hbl hbA w.2.2 hw.1 d_law_441 ?_
  have hw := hw.2
  refine lv_aload_n hx hb d_law_442 rfl (lv_at hl 1 rfl) ?_
  refine lv_iload hx hb d_law_443 (lv_at hl 5 rfl) ?_
  refine lv_iconst (v := 3) hx hb d_law_445 (by decide) ?_
  refine lv_iadd hx hb d_law_446 ?_
  refine va_sld hx hb hX hbl hbA w.2.2 hw.1 d_law_447 ?_
  have hw := hw.2
  have wm := lw_toM w
  refine kc_i (st := fun (u : (Nat → Int32) × (Nat → Int32) × (Nat → Int32) × (Nat → Int32) × (Nat → Int32) × (Nat → Int32) × (Nat → Int32) × (Nat → Int32) × Int32 × Int32 × Int32) => wM K bd (sI (sI (sI (sA (sA (sA (sA (sA (sA (sA (sA T 1 u.1) 2 u.2.1) 3 u.2.2.1) 4 u.2.2.2.1) 5 u.2.2.2.2.1) 6 u.2.2.2.2.2.1) 7 u.2.2.2.2.2.2.1) 8 u.2.2.2.2.2.2.2.1) 0 u.2.2.2.2.2.2.2.2.1) 1 u.2.2.2.2.2.2.2.2.2.1) 34 u.2.2.2.2.2.2.2.2.2.2) ++ (wC K ad (sI (sI (sI (sI (sL (sA (sA (sA (sA (sA (sA (sA (sA (sA S 2 f1) 3 f2) 4 f3) 5 f4) 6 f5) 7 f6) 8 f7) 9 f8) 10 f9) 49 f10) 73 v11) 2626 v12) 2627 v13) 2628 v14) ++ xo K ad (sI (sI (sI (sI (sL (sA (sA (sA (sA (sA (sA (sA (sA (sA S 2 f1) 3 f2) 4 f3) 5 f4) 6 f5) 7 f6) 8 f7) 9 f8) 10 f9) 49 f10) 73 v11) 2626 v12) 2627 v13) 2628 v14) [])) wm (kr_V (y := y_Mo_hyphen) (C1 := R_Mo) (T := F_Mo) (N := 43) (ci := 10) (q0 := 0) (As := [.int (xs (x4 + 1).toNatClampNeg), .int (xs (x4 + 2).toNatClampNeg), .int (xs (x4 + 3).toNatClampNeg)]) (n := 3) C wm (c_Mo_hyphen l n0 G K bd (wC K ad (sI (sI (sI (sI (sL (sA (sA (sA (sA (sA (sA (sA (sA (sA S 2 f1) 3 f2) 4 f3) 5 f4) 6 f5) 7 f6) 8 f7) 9 f8) 10 f9) 49 f10) 73 v11) 2626 v12) 2627 v13) 2628 v14) ++ xo K ad (sI (sI (sI (sI (sL (sA (sA (sA (sA (sA (sA (sA (sA (sA S 2 f1) 3 f2) 4 f3) 5 f4) 6 f5) 7 f6) 8 f7) 9 f8) 10 f9) 49 f10) 73 v11) 2626 v12) 2627 v13) 2628 v14) []) T (xs (x4 + 1).toNatClampNeg) (xs (x4 + 2).toNatClampNeg) (xs (x4 + 3).toNatClampNeg) _ hw) (gw_V kw_1047 kw_1048 kw_1049 kw_11 kw_1050) (by decide +kernel) rfl rfl ⟨Nat.le_of_ble_eq_true rfl, Nat.le_of_ble_eq_true rfl⟩ rfl rfl rfl hl.1 rfl (Nat.le_of_ble_eq_true rfl) d_law_448 ⟨by show _ ≤ 601024; omega, by show _ ≤ 7293034; omega⟩) (fun r27 u H locs hw w => ?_)
  obtain ⟨f16, f17, f18, f19, f20, f21, f22, f23, v24, v25, v26⟩ := u
  dsimp only at hw
  have w : wn n0 G (wM K bd (sI (sI (sI (sA (sA (sA (sA (sA (sA (sA (sA T 1 f16) 2 f17) 3 f18) 4 f19) 5 f20) 6 f21) 7 f22) 8 f23) 0 v24) 1 v25) 34 v26) ++ (wC K ad (sI (sI (sI (sI (sL (sA (sA (sA (sA (sA (sA (sA (sA (sA S 2 f1) 3 f2) 4 f3) 5 f4) 6 f5) 7 f6) 8 f7) 9 f8) 10 f9) 49 f10) 73 v11) 2626 v12) 2627 v13) 2628 v14) ++ xo K ad (sI (sI (sI (sI (sL (sA (sA (sA (sA (sA (sA (sA (sA (sA S 2 f1) 3 f2) 4 f3) 5 f4) 6 f5) 7 f6) 8 f7) 9 f8) 10 f9) 49 f10) 73 v11) 2626 v12) 2627 v13) 2628 v14) [])) s H locs := w
  have w := lw_toC w
  refine lv_istore (lv' := [(6, .int r27), (5, .int r15), (0, .ref b), (1, .ref (ad 0)), (2, .ref (bd 0)), (3, .ref (ad 49)), (4, .int x4)]) hx hb d_law_451 hl (by decide) rfl (fun ls hl => ?_)
  refine lv_aload_n hx hb d_law_453 rfl (lv_at hl 4 rfl) ?_
  have wm := lw_toM w
  refine kd_i (kr_V (y := y_Mo_thrown) (C1 := R_Mo) (T := F_Mo) (N := 43) (ci := 10) (q0 := 0) (As := []) (n := 0) C wm (c_Mo_thrown l n0 G K bd (wC K ad (sI (sI (sI (sI (sL (sA (sA (sA (sA (sA (sA (sA (sA (sA S 2 f1) 3 f2) 4 f3) 5 f4) 6 f5) 7 f6) 8 f7) 9 f8) 10 f9) 49 f10) 73 v11) 2626 v12) 2627 v13) 2628 v14) ++ xo K ad (sI (sI (sI (sI (sL (sA (sA (sA (sA (sA (sA (sA (sA (sA S 2 f1) 3 f2) 4 f3) 5 f4) 6 f5) 7 f6) 8 f7) 9 f8) 10 f9) 49 f10) 73 v11) 2626 v12) 2627 v13) 2628 v14) []) (sI (sI (sI (sA (sA (sA (sA (sA (sA (sA (sA T 1 f16) 2 f17) 3 f18) 4 f19) 5 f20) 6 f21) 7 f22) 8 f23) 0 v24) 1 v25) 34 v26)  _ hw) (gw_V kw_1007 kw_1008 kw_1009 kw_11 kw_1010) (by decide +kernel) rfl rfl ⟨Nat.le_of_ble_eq_true rfl, Nat.le_of_ble_eq_true rfl⟩ rfl rfl rfl hl.1 rfl (Nat.le_of_ble_eq_true rfl) d_law_454 ⟨by show _ ≤ 601024; omega, by show _ ≤ 7293034; omega⟩) (fun r28 hw => ?_)
  refine lv_iload hx hb d_law_457 (lv_at hl 1 rfl) ?_
  refine lv_icmp_eq (tgt := 464) hx hb d_law_459 (by decide) (fun hc => ?_) (fun hc => ?_)
  · have hw := hw.1 hc
    refine lv_iload hx hb d_law_464 (lv_at hl 1 rfl) ?_
    refine lv_if_ne (tgt := 481) hx hb d_law_466 (by decide) (fun hc => ?_) (fun hc => ?_)
    · have hw := hw.1 hc
      refine lv_goto (tgt := 895) hx hb d_law_481 (by decide) ?_
      obtain ⟨v29, ev29⟩ : ∃ y : Int32, y = x4 + 6 := ⟨_, rfl⟩
      refine lv_iinc (v := v29) (lv' := [(4, .int v29), (6, .int r27), (5, .int r15), (0, .ref b), (1, .ref (ad 0)), (2, .ref (bd 0)), (3, .ref (ad 49))]) hx hb d_law_895 hl (k := 6) rfl (by rw [ev29]; rfl) (by decide) rfl (fun ls hl => ?_)
      have hw := hw v29 ev29
      refine lv_goto (tgt := 23) hx hb d_law_898 (by decide) ?_
      refine W.widen (k := cc + 6) (n := dd + 36) (by omega) (by omega) ?_
      exact hk (sI (sI (sI (sI (sL (sA (sA (sA (sA (sA (sA (sA (sA (sA S 2 f1) 3 f2) 4 f3) 5 f4) 6 f5) 7 f6) 8 f7) 9 f8) 10 f9) 49 f10) 73 v11) 2626 v12) 2627 v13) 2628 v14) (sI (sI (sI (sA (sA (sA (sA (sA (sA (sA (sA T 1 f16) 2 f17) 3 f18) 4 f19) 5 f20) 6 f21) 7 f22) 8 f23) 0 v24) 1 v25) 34 v26) v29 hw _ _ _ (wn_eq w rfl) (lv_sub hl [3, 4, 5, 6, 0] rfl)
    · have hw := hw.2 hc
      refine lv_aload_n hx hb d_law_469 rfl (lv_at hl 5 rfl) ?_
      refine lv_iconst (v := 0) hx hb d_law_470 (by decide) ?_
      refine ka_l (f := f10) C w 49 rfl (vp_in_nI (n := 0) (N := 1) (by decide) (by decide)) d_law_471 ?_
      refine lv_iload hx hb d_law_472 (lv_at hl 0 rfl) ?_
      refine lv_i2l hx hb d_law_474 rfl ?_
      refine W.lcmp hx hb d_law_475 ?_
      refine lv_if_eq (tgt := 481) hx hb d_law_476 (by decide) (fun hc => ?_) (fun hc => ?_)
      · have hw := hw.1 hc
        refine lv_goto (tgt := 895) hx hb d_law_481 (by decide) ?_
        obtain ⟨v30, ev30⟩ : ∃ y : Int32, y = x4 + 6 := ⟨_, rfl⟩
        refine lv_iinc (v := v30) (lv' := [(4, .int v30), (6, .int r27), (5, .int r15), (0, .ref b), (1, .ref (ad 0)), (2, .ref (bd 0)), (3, .ref (ad 49))]) hx hb d_law_895 hl (k := 6) rfl (by rw [ev30]; rfl) (by decide) rfl (fun ls hl => ?_)
        have hw := hw v30 ev30
        refine lv_goto (tgt := 23) hx hb d_law_898 (by decide) ?_
        refine W.widen (k := cc + 6) (n := dd + 36) (by omega) (by omega) ?_
        exact hk (sI (sI (sI (sI (sL (sA (sA (sA (sA (sA (sA (sA (sA (sA S 2 f1) 3 f2) 4 f3) 5 f4) 6 f5) 7 f6) 8 f7) 9 f8) 10 f9) 49 f10) 73 v11) 2626 v12) 2627 v13) 2628 v14) (sI (sI (sI (sA (sA (sA (sA (sA (sA (sA (sA T 1 f16) 2 f17) 3 f18) 4 f19) 5 f20) 6 f21) 7 f22) 8 f23) 0 v24) 1 v25) 34 v26) v30 hw _ _ _ (wn_eq w rfl) (lv_sub hl [3, 4, 5, 6, 0] rfl)
      · have hw := hw.2 hc
        refine lv_iconst (v := 0) hx hb d_law_479 (by decide) ?_
        exact hw.elim
  · have hw := hw.2 hc
    refine lv_iconst (v := 0) hx hb d_law_462 (by decide) ?_
    exact hw.elim
set_option maxHeartbeats 8000000 in
set_option maxRecDepth 100000 in
theorem w_law_484 (C : cx p s m #[Value.ref b] meth c code 8 "LineBreakerLaw" n0 G K) (hr : meth.sig.returnType = ret) (htr : l.stackTraces = false) (hX : va_X b L xs s s.heap) (hbl : b < n0) {cc dd : Nat} (hc9 : cc + 6 ≤ 601024) (hd9 : dd + 36 ≤ 7293034) {Kh : ST → ST → Int32 → Prop} (hk : ∀ (S T : ST) (x4 : Int32), Kh S T x4 → ∀ (H : Heap) (locs : List Loc) (ls : Array Slot), wn n0 G (wC K ad S ++ xo K ad S (wM K bd T)) s H locs → lv_has ls 8 [(0, .ref b), (1, .ref (ad 0)), (2, .ref (bd 0)), (3, .ref (ad 49)), (4, .int x4)] → W p l e room_1 s m #[Value.ref b] below meth c H locs (cc + 6) (dd + 36) (lw_Z below #[Value.ref b] s) (F0 m 23 ls [])) : ∀ (S T : ST) (x4 : Int32), wl_law_484 L xs Kh S T x4 → ∀ (H : Heap) (locs : List Loc) (ls : Array Slot), wn n0 G (wC K ad S ++ xo K ad S (wM K bd T)) s H locs → lv_has ls 8 [(0, .ref b), (1, .ref (ad 0)), (2, .ref (bd 0)), (3, .ref (ad 49)), (4, .int x4)] → W p l e room_1 s m #[Value.ref b] below meth c H locs cc dd (lw_Z below #[Value.ref b] s) (F0 m 484 ls []) := by
  have hx := C.1
  have hb := C.2.1
  have hts := C.2.2.2.2.1
  have hn0 := C.2.2.2.2.2.2.2.1
  have hbA : ¬ al n0 b := Nat.not_le.mpr hbl
  have hbl := Nat.lt_of_lt_of_le hbl hn0
  intro S T x4 hw H locs ls w hl
  unfold wl_law_484 at hw
  refine lv_aload_n hx hb d_law_484 rfl (lv_at hl 1 rfl) ?_
  refine lv_aload_n hx hb d_law_485 rfl (lv_at hl 0 rfl) ?_
  refine lv_iload hx hb d_law_486 (lv_at hl 4 rfl) ?_
  refine lv_iconst (v := 1) hx hb d_law_488 (by decide) ?_
  refine lv_iadd hx hb d_law_489 ?_
  refine va_sld hx hb hX hbl hbA w.2.2 hw.1 d_law_490 ?_
  have hw := hw.2
  refine kc_i (st := fun (u : Int32 × Int32 × Int32 × Int32) => wC K ad (sI (sI (sI (sI S 73 u.1) 2626 u.2.1) 2627 u.2.2.1) 2628 u.2.2.2) ++ xo K ad S (wM K bd T)) w (kr_V (y := y_Lb_keep) (C1 := R_Lb) (T := F_Lb) (N := 5) (ci := 9) (q0 := 0) (As := [.int (xs (x4 + 1).toNatClampNeg)]) (n := 1) C w (c_Lb_keep l n0 G K ad (xo K ad S (wM K bd T)) S (xs (x4 + 1).toNatClampNeg) _ hw) (gw_V kw_372 kw_373 kw_374 kw_1 kw_375) (by decide +kernel) rfl rfl ⟨Nat.le_of_ble_eq_true rfl, Nat.le_of_ble_eq_true rfl⟩ rfl rfl rfl hl.1 rfl (Nat.le_of_ble_eq_true rfl) d_law_491 ⟨by show _ ≤ 601024; omega, by show _ ≤ 7293034; omega⟩) (fun r5 u H locs hw w => ?_)
  obtain ⟨v1, v2, v3, v4⟩ := u
  dsimp only at hw
  have w : wn n0 G (wC K ad (sI (sI (sI (sI S 73 v1) 2626 v2) 2627 v3) 2628 v4) ++ xo K ad (sI (sI (sI (sI S 73 v1) 2626 v2) 2627 v3) 2628 v4) (wM K bd T)) s H locs := w
  refine lv_aload_n hx hb d_law_494 rfl (lv_at hl 2 rfl) ?_
  refine lv_aload_n hx hb d_law_495 rfl (lv_at hl 0 rfl) ?_
  refine lv_iload hx hb d_law_496 (lv_at hl 4 rfl) ?_
  refine lv_iconst (v := 1) hx hb d_law_498 (by decide) ?_
  refine lv_iadd hx hb d_law_499 ?_
  refine va_sld hx hb hX hbl hbA w.2.2 hw.1 d_law_500 ?_
  have hw := hw.2
  have wm := lw_toM w
  refine kc_i (st := fun (u : Int32 × Int32 × Int32) => wM K bd (sI (sI (sI T 0 u.1) 1 u.2.1) 34 u.2.2) ++ (wC K ad (sI (sI (sI (sI S 73 v1) 2626 v2) 2627 v3) 2628 v4) ++ xo K ad (sI (sI (sI (sI S 73 v1) 2626 v2) 2627 v3) 2628 v4) [])) wm (kr_V (y := y_Mo_keep) (C1 := R_Mo) (T := F_Mo) (N := 43) (ci := 10) (q0 := 0) (As := [.int (xs (x4 + 1).toNatClampNeg)]) (n := 1) C wm (c_Mo_keep l n0 G K bd (wC K ad (sI (sI (sI (sI S 73 v1) 2626 v2) 2627 v3) 2628 v4) ++ xo K ad (sI (sI (sI (sI S 73 v1) 2626 v2) 2627 v3) 2628 v4) []) T (xs (x4 + 1).toNatClampNeg) _ hw) (gw_V kw_1055 kw_1056 kw_1057 kw_11 kw_1058) (by decide +kernel) rfl rfl ⟨Nat.le_of_ble_eq_true rfl, Nat.le_of_ble_eq_true rfl⟩ rfl rfl rfl hl.1 rfl (Nat.le_of_ble_eq_true rfl) d_law_501 ⟨by show _ ≤ 601024; omega, by show _ ≤ 7293034; omega⟩) (fun r9 u H locs hw w => ?_)
  obtain ⟨v6, v7, v8⟩ := u
  dsimp only at hw
  have w : wn n0 G (wM K bd (sI (sI (sI T 0 v6) 1 v7) 34 v8) ++ (wC K ad (sI (sI (sI (sI S 73 v1) 2626 v2) 2627 v3) 2628 v4) ++ xo K ad (sI (sI (sI (sI S 73 v1) 2626 v2) 2627 v3) 2628 v4) [])) s H locs := w
  have w := lw_toC w
  refine lv_icmp_eq (tgt := 895) hx hb d_law_504 (by decide) (fun hc => ?_) (fun hc => ?_)
  · have hw := hw.1 hc
    obtain ⟨v10, ev10⟩ : ∃ y : Int32, y = x4 + 6 := ⟨_, rfl⟩
    refine lv_iinc (v := v10) (lv' := [(4, .int v10), (0, .ref b), (1, .ref (ad 0)), (2, .ref (bd 0)), (3, .ref (ad 49))]) hx hb d_law_895 hl (k := 4) rfl (by rw [ev10]; rfl) (by decide) rfl (fun ls hl => ?_)
    have hw := hw v10 ev10
    refine lv_goto (tgt := 23) hx hb d_law_898 (by decide) ?_
    refine W.widen (k := cc + 6) (n := dd + 36) (by omega) (by omega) ?_
    exact hk (sI (sI (sI (sI S 73 v1) 2626 v2) 2627 v3) 2628 v4) (sI (sI (sI T 0 v6) 1 v7) 34 v8) v10 hw _ _ _ (wn_eq w rfl) (lv_sub hl [1, 2, 3, 4, 0] rfl)
  · have hw := hw.2 hc
    refine lv_iconst (v := 0) hx hb d_law_507 (by decide) ?_
    exact hw.elim
set_option maxHeartbeats 8000000 in
set_option maxRecDepth 100000 in
theorem w_law_509 (C : cx p s m #[Value.ref b] meth c code 8 "LineBreakerLaw" n0 G K) (hr : meth.sig.returnType = ret) (htr : l.stackTraces = false) (hX : va_X b L xs s s.heap) (hbl : b < n0) {cc dd : Nat} (hc9 : cc + 6 ≤ 601024) (hd9 : dd + 36 ≤ 7293034) {Kh : ST → ST → Int32 → Prop} (hk : ∀ (S T : ST) (x4 : Int32), Kh S T x4 → ∀ (H : Heap) (locs : List Loc) (ls : Array Slot), wn n0 G (wC K ad S ++ xo K ad S (wM K bd T)) s H locs → lv_has ls 8 [(0, .ref b), (1, .ref (ad 0)), (2, .ref (bd 0)), (3, .ref (ad 49)), (4, .int x4)] → W p l e room_1 s m #[Value.ref b] below meth c H locs (cc + 6) (dd + 36) (lw_Z below #[Value.ref b] s) (F0 m 23 ls [])) : ∀ (S T : ST) (x4 : Int32), wl_law_509 L xs Kh S T x4 → ∀ (H : Heap) (locs : List Loc) (ls : Array Slot), wn n0 G (wC K ad S ++ xo K ad S (wM K bd T)) s H locs → lv_has ls 8 [(0, .ref b), (1, .ref (ad 0)), (2, .ref (bd 0)), (3, .ref (ad 49)), (4, .int x4)] → W p l e room_1 s m #[Value.ref b] below meth c H locs cc dd (lw_Z below #[Value.ref b] s) (F0 m 509 ls []) := by
  have hx := C.1
  have hb := C.2.1
  have hts := C.2.2.2.2.1
  have hn0 := C.2.2.2.2.2.2.2.1
  have hbA : ¬ al n0 b := Nat.not_le.mpr hbl
  have hbl := Nat.lt_of_lt_of_le hbl hn0
  intro S T x4 hw H locs ls w hl
  unfold wl_law_509 at hw
  refine lv_aload_n hx hb d_law_509 rfl (lv_at hl 1 rfl) ?_
  refine kd_i (kr_V (y := y_Lb_items) (C1 := R_Lb) (T := F_Lb) (N := 5) (ci := 9) (q0 := 0) (As := []) (n := 0) C w (c_Lb_items l n0 G K ad (xo K ad S (wM K bd T)) S  _ hw) (gw_V kw_380 kw_381 kw_382 kw_1 kw_383) (by decide +kernel) rfl rfl ⟨Nat.le_of_ble_eq_true rfl, Nat.le_of_ble_eq_true rfl⟩ rfl rfl rfl hl.1 rfl (Nat.le_of_ble_eq_true rfl) d_law_510 ⟨by show _ ≤ 601024; omega, by show _ ≤ 7293034; omega⟩) (fun r1 hw => ?_)
  refine lv_aload_n hx hb d_law_513 rfl (lv_at hl 2 rfl) ?_
  have wm := lw_toM w
  refine kc_i (st := fun (u : Int32) => wM K bd (sI T 0 u) ++ (wC K ad S ++ xo K ad S [])) wm (kr_V (y := y_Mo_items) (C1 := R_Mo) (T := F_Mo) (N := 43) (ci := 10) (q0 := 0) (As := []) (n := 0) C wm (c_Mo_items l n0 G K bd (wC K ad S ++ xo K ad S []) T  _ hw) (gw_V kw_1059 kw_1060 kw_1061 kw_11 kw_1062) (by decide +kernel) rfl rfl ⟨Nat.le_of_ble_eq_true rfl, Nat.le_of_ble_eq_true rfl⟩ rfl rfl rfl hl.1 rfl (Nat.le_of_ble_eq_true rfl) d_law_514 ⟨by show _ ≤ 601024; omega, by show _ ≤ 7293034; omega⟩) (fun r3 u H locs hw w => ?_)
  obtain ⟨v2, rfl⟩ : ∃ z, z = u := ⟨_, rfl⟩
  have w : wn n0 G (wM K bd (sI T 0 v2) ++ (wC K ad S ++ xo K ad S [])) s H locs := w
  have w := lw_toC w
  refine lv_icmp_eq (tgt := 895) hx hb d_law_517 (by decide) (fun hc => ?_) (fun hc => ?_)
  · have hw := hw.1 hc
    obtain ⟨v4, ev4⟩ : ∃ y : Int32, y = x4 + 6 := ⟨_, rfl⟩
    refine lv_iinc (v := v4) (lv' := [(4, .int v4), (0, .ref b), (1, .ref (ad 0)), (2, .ref (bd 0)), (3, .ref (ad 49))]) hx hb d_law_895 hl (k := 4) rfl (by rw [ev4]; rfl) (by decide) rfl (fun ls hl => ?_)
    have hw := hw v4 ev4
    refine lv_goto (tgt := 23) hx hb d_law_898 (by decide) ?_
    refine W.widen (k := cc + 6) (n := dd + 36) (by omega) (by omega) ?_
    exact hk S (sI T 0 v2) v4 hw _ _ _ (wn_eq w rfl) (lv_sub hl [1, 2, 3, 4, 0] rfl)
  · have hw := hw.2 hc
    refine lv_iconst (v := 0) hx hb d_law_520 (by decide) ?_
    exact hw.elim
set_option maxHeartbeats 8000000 in
set_option maxRecDepth 100000 in
theorem w_law_522 (C : cx p s m #[Value.ref b] meth c code 8 "LineBreakerLaw" n0 G K) (hr : meth.sig.returnType = ret) (htr : l.stackTraces = false) (hX : va_X b L xs s s.heap) (hbl : b < n0) {cc dd : Nat} (hc9 : cc + 6 ≤ 601024) (hd9 : dd + 36 ≤ 7293034) {Kh : ST → ST → Int32 → Prop} (hk : ∀ (S T : ST) (x4 : Int32), Kh S T x4 → ∀ (H : Heap) (locs : List Loc) (ls : Array Slot), wn n0 G (wC K ad S ++ xo K ad S (wM K bd T)) s H locs → lv_has ls 8 [(0, .ref b), (1, .ref (ad 0)), (2, .ref (bd 0)), (3, .ref (ad 49)), (4, .int x4)] → W p l e room_1 s m #[Value.ref b] below meth c H locs (cc + 6) (dd + 36) (lw_Z below #[Value.ref b] s) (F0 m 23 ls [])) : ∀ (S T : ST) (x4 : Int32), wl_law_522 L xs Kh S T x4 → ∀ (H : Heap) (locs : List Loc) (ls : Array Slot), wn n0 G (wC K ad S ++ xo K ad S (wM K bd T)) s H locs → lv_has ls 8 [(0, .ref b), (1, .ref (ad 0)), (2, .ref (bd 0)), (3, .ref (ad 49)), (4, .int x4)] → W p l e room_1 s m #[Value.ref b] below meth c H locs cc dd (lw_Z below #[Value.ref b] s) (F0 m 522 ls []) := by
  have hx := C.1
  have hb := C.2.1
  have hts := C.2.2.2.2.1
  have hn0 := C.2.2.2.2.2.2.2.1
  have hbA : ¬ al n0 b := Nat.not_le.mpr hbl
  have hbl := Nat.lt_of_lt_of_le hbl hn0
  intro S T x4 hw H locs ls w hl
  unfold wl_law_522 at hw
  refine lv_aload_n hx hb d_law_522 rfl (lv_at hl 1 rfl) ?_
  refine lv_aload_n hx hb d_law_523 rfl (lv_at hl 0 rfl) ?_
  refine lv_iload hx hb d_law_524 (lv_at hl 4 rfl) ?_
  refine lv_iconst (v := 1) hx hb d_law_526 (by decide) ?_
  refine lv_iadd hx hb d_law_527 ?_
  refine va_sld hx hb hX hbl hbA w.2.2 hw.1 d_law_528 ?_
  have hw := hw.2
  refine lv_aload_n hx hb d_law_529 rfl (lv_at hl 0 rfl) ?_
  refine lv_iload hx hb d_law_530 (lv_at hl 4 rfl) ?_
  refine lv_iconst (v := 2) hx hb d_law_532 (by decide) ?_
  refine lv_iadd hx hb d_law_533 ?_
  refine va_sld hx hb hX hbl hbA w.2.2 hw.1 d_law_534 ?_
  have hw := hw.2
  refine kc_i (st := fun (u : (Nat → Int32)) => wC K ad (sA S 12 u) ++ xo K ad (sA S 12 u) (wM K bd T)) w (kr_W (y := y_La_set) (As := [.ref (ad 0), .int (xs (x4 + 1).toNatClampNeg), .int (xs (x4 + 2).toNatClampNeg)]) (n := 3) C w (c_La_set l htr n0 G K ad (wM K bd T) S (xs (x4 + 1).toNatClampNeg) (xs (x4 + 2).toNatClampNeg) _ hw) kw_587 kw_588 kw_0 kw_589 (by decide +kernel) rfl rfl ⟨Nat.le_of_ble_eq_true rfl, Nat.le_of_ble_eq_true rfl⟩ rfl hl.1 rfl (Nat.le_of_ble_eq_true rfl) d_law_535 ⟨by show _ ≤ 601024; omega, by show _ ≤ 7293034; omega⟩) (fun r2 u H locs hw w => ?_)
  obtain ⟨f1, rfl⟩ : ∃ z, z = u := ⟨_, rfl⟩
  have w : wn n0 G (wC K ad (sA S 12 f1) ++ xo K ad (sA S 12 f1) (wM K bd T)) s H locs := w
  refine lv_istore (lv' := [(5, .int r2), (0, .ref b), (1, .ref (ad 0)), (2, .ref (bd 0)), (3, .ref (ad 49)), (4, .int x4)]) hx hb d_law_538 hl (by decide) rfl (fun ls hl => ?_)
  refine lv_aload_n hx hb d_law_540 rfl (lv_at hl 3 rfl) ?_
  refine lv_aload_n hx hb d_law_541 rfl (lv_at hl 1 rfl) ?_
  refine lv_iload hx hb d_law_542 (lv_at hl 5 rfl) ?_
  refine lv_iconst (v := 1) hx hb d_law_544 (by decide) ?_
  refine lv_iadd hx hb d_law_545 ?_
  refine va_sld hx hb hX hbl hbA w.2.2 hw.1 d_law_546 ?_
  have hw := hw.2
  refine lv_aload_n hx hb d_law_547 rfl (lv_at hl 1 rfl) ?_
  refine lv_iload hx hb d_law_548 (lv_at hl 5 rfl) ?_
  refine lv_iconst (v := 2) hx hb d_law_550 (by decide) ?_
  refine lv_iadd hx hb d_law_551 ?_
  refine va_sld hx hb hX hbl hbA w.2.2 hw.1 d_law_552 ?_
  have hw := hw.2
  have wm := lw_toM w
  refine kc_v (st := fun (u : (Nat → Int32) × Int32) => wM K bd (sI (sA T 9 u.1) 0 u.2) ++ (wC K ad (sA S 12 f1) ++ xo K ad (sA S 12 f1) [])) wm (kr_V (y := y_Mo_set) (C1 := R_Mo) (T := F_Mo) (N := 43) (ci := 10) (q0 := 0) (As := [.int (xs (x4 + 1).toNatClampNeg), .int (xs (x4 + 2).toNatClampNeg)]) (n := 2) C wm (c_Mo_set l n0 G K bd (wC K ad (sA S 12 f1) ++ xo K ad (sA S 12 f1) []) T (xs (x4 + 1).toNatClampNeg) (xs (x4 + 2).toNatClampNeg) _ hw) (gw_V kw_1063 kw_1064 kw_1065 kw_11 kw_1066) (by decide +kernel) rfl rfl ⟨Nat.le_of_ble_eq_true rfl, Nat.le_of_ble_eq_true rfl⟩ rfl rfl rfl hl.1 rfl (Nat.le_of_ble_eq_true rfl) d_law_553 ⟨by show _ ≤ 601024; omega, by show _ ≤ 7293034; omega⟩) (fun u H locs hw w => ?_)
  obtain ⟨f3, v4⟩ := u
  dsimp only at hw
  have w : wn n0 G (wM K bd (sI (sA T 9 f3) 0 v4) ++ (wC K ad (sA S 12 f1) ++ xo K ad (sA S 12 f1) [])) s H locs := w
  have w := lw_toC w
  refine lv_aload_n hx hb d_law_556 rfl (lv_at hl 3 rfl) ?_
  have wm := lw_toM w
  refine kd_i (kr_V (y := y_Mo_thrown) (C1 := R_Mo) (T := F_Mo) (N := 43) (ci := 10) (q0 := 0) (As := []) (n := 0) C wm (c_Mo_thrown l n0 G K bd (wC K ad (sA S 12 f1) ++ xo K ad (sA S 12 f1) []) (sI (sA T 9 f3) 0 v4)  _ hw) (gw_V kw_1007 kw_1008 kw_1009 kw_11 kw_1010) (by decide +kernel) rfl rfl ⟨Nat.le_of_ble_eq_true rfl, Nat.le_of_ble_eq_true rfl⟩ rfl rfl rfl hl.1 rfl (Nat.le_of_ble_eq_true rfl) d_law_557 ⟨by show _ ≤ 601024; omega, by show _ ≤ 7293034; omega⟩) (fun r5 hw => ?_)
  refine lv_iload hx hb d_law_560 (lv_at hl 0 rfl) ?_
  refine lv_icmp_eq (tgt := 567) hx hb d_law_562 (by decide) (fun hc => ?_) (fun hc => ?_)
  · have hw := hw.1 hc
    refine lv_goto (tgt := 895) hx hb d_law_567 (by decide) ?_
    obtain ⟨v6, ev6⟩ : ∃ y : Int32, y = x4 + 6 := ⟨_, rfl⟩
    refine lv_iinc (v := v6) (lv' := [(4, .int v6), (5, .int r2), (0, .ref b), (1, .ref (ad 0)), (2, .ref (bd 0)), (3, .ref (ad 49))]) hx hb d_law_895 hl (k := 5) rfl (by rw [ev6]; rfl) (by decide) rfl (fun ls hl => ?_)
    have hw := hw v6 ev6
    refine lv_goto (tgt := 23) hx hb d_law_898 (by decide) ?_
    refine W.widen (k := cc + 6) (n := dd + 36) (by omega) (by omega) ?_
    exact hk (sA S 12 f1) (sI (sA T 9 f3) 0 v4) v6 hw _ _ _ (wn_eq w rfl) (lv_sub hl [2, 3, 4, 5, 0] rfl)
  · have hw := hw.2 hc
    refine lv_iconst (v := 0) hx hb d_law_565 (by decide) ?_
    exact hw.elim
set_option maxHeartbeats 8000000 in
set_option maxRecDepth 100000 in
theorem w_law_570 (C : cx p s m #[Value.ref b] meth c code 8 "LineBreakerLaw" n0 G K) (hr : meth.sig.returnType = ret) (htr : l.stackTraces = false) (hX : va_X b L xs s s.heap) (hbl : b < n0) {cc dd : Nat} (hc9 : cc + 6 ≤ 601024) (hd9 : dd + 36 ≤ 7293034) {Kh : ST → ST → Int32 → Prop} (hk : ∀ (S T : ST) (x4 : Int32), Kh S T x4 → ∀ (H : Heap) (locs : List Loc) (ls : Array Slot), wn n0 G (wC K ad S ++ xo K ad S (wM K bd T)) s H locs → lv_has ls 8 [(0, .ref b), (1, .ref (ad 0)), (2, .ref (bd 0)), (3, .ref (ad 49)), (4, .int x4)] → W p l e room_1 s m #[Value.ref b] below meth c H locs (cc + 6) (dd + 36) (lw_Z below #[Value.ref b] s) (F0 m 23 ls [])) : ∀ (S T : ST) (x4 : Int32), wl_law_570 L xs Kh S T x4 → ∀ (H : Heap) (locs : List Loc) (ls : Array Slot), wn n0 G (wC K ad S ++ xo K ad S (wM K bd T)) s H locs → lv_has ls 8 [(0, .ref b), (1, .ref (ad 0)), (2, .ref (bd 0)), (3, .ref (ad 49)), (4, .int x4)] → W p l e room_1 s m #[Value.ref b] below meth c H locs cc dd (lw_Z below #[Value.ref b] s) (F0 m 570 ls []) := by
  have hx := C.1
  have hb := C.2.1
  have hts := C.2.2.2.2.1
  have hn0 := C.2.2.2.2.2.2.2.1
  have hbA : ¬ al n0 b := Nat.not_le.mpr hbl
  have hbl := Nat.lt_of_lt_of_le hbl hn0
  intro S T x4 hw H locs ls w hl
  unfold wl_law_570 at hw
  refine lv_aload_n hx hb d_law_570 rfl (lv_at hl 1 rfl) ?_
  refine lv_aload_n hx hb d_law_571 rfl (lv_at hl 0 rfl) ?_
  refine lv_iload hx hb d_law_572 (lv_at hl 4 rfl) ?_
  refine lv_iconst (v := 1) hx hb d_law_574 (by decide) ?_
  refine lv_iadd hx hb d_law_575 ?_
  refine va_sld hx hb hX hbl hbA w.2.2 hw.1 d_law_576 ?_
  have hw := hw.2
  refine lv_aload_n hx hb d_law_577 rfl (lv_at hl 0 rfl) ?_
  refine lv_iload hx hb d_law_578 (lv_at hl 4 rfl) ?_
  refine lv_iconst (v := 2) hx hb d_law_580 (by decide) ?_
  refine lv_iadd hx hb d_law_581 ?_
  refine va_sld hx hb hX hbl hbA w.2.2 hw.1 d_law_582 ?_
  have hw := hw.2
  refine kc_i (st := fun (u : (Nat → Int32)) => wC K ad (sA S 13 u) ++ xo K ad (sA S 13 u) (wM K bd T)) w (kr_W (y := y_La_wide) (As := [.ref (ad 0), .int (xs (x4 + 1).toNatClampNeg), .int (xs (x4 + 2).toNatClampNeg)]) (n := 3) C w (c_La_wide l htr n0 G K ad (wM K bd T) S (xs (x4 + 1).toNatClampNeg) (xs (x4 + 2).toNatClampNeg) _ hw) kw_600 kw_601 kw_0 kw_602 (by decide +kernel) rfl rfl ⟨Nat.le_of_ble_eq_true rfl, Nat.le_of_ble_eq_true rfl⟩ rfl hl.1 rfl (Nat.le_of_ble_eq_true rfl) d_law_583 ⟨by show _ ≤ 601024; omega, by show _ ≤ 7293034; omega⟩) (fun r2 u H locs hw w => ?_)
  obtain ⟨f1, rfl⟩ : ∃ z, z = u := ⟨_, rfl⟩
  have w : wn n0 G (wC K ad (sA S 13 f1) ++ xo K ad (sA S 13 f1) (wM K bd T)) s H locs := w
  refine lv_istore (lv' := [(5, .int r2), (0, .ref b), (1, .ref (ad 0)), (2, .ref (bd 0)), (3, .ref (ad 49)), (4, .int x4)]) hx hb d_law_586 hl (by decide) rfl (fun ls hl => ?_)
  refine lv_aload_n hx hb d_law_588 rfl (lv_at hl 3 rfl) ?_
  refine lv_aload_n hx hb d_law_589 rfl (lv_at hl 1 rfl) ?_
  refine lv_iload hx hb d_law_590 (lv_at hl 5 rfl) ?_
  refine lv_iconst (v := 1) hx hb d_law_592 (by decide) ?_
  refine lv_iadd hx hb d_law_593 ?_
  refine va_sld hx hb hX hbl hbA w.2.2 hw.1 d_law_594 ?_
  have hw := hw.2
  refine lv_aload_n hx hb d_law_595 rfl (lv_at hl 1 rfl) ?_
  refine lv_iload hx hb d_law_596 (lv_at hl 5 rfl) ?_
  refine lv_iconst (v := 2) hx hb d_law_598 (by decide) ?_
  refine lv_iadd hx hb d_law_599 ?_
  refine va_sld hx hb hX hbl hbA w.2.2 hw.1 d_law_600 ?_
  have hw := hw.2
  have wm := lw_toM w
  refine kc_v (st := fun (u : (Nat → Int32) × Int32) => wM K bd (sI (sA T 10 u.1) 0 u.2) ++ (wC K ad (sA S 13 f1) ++ xo K ad (sA S 13 f1) [])) wm (kr_V (y := y_Mo_wide) (C1 := R_Mo) (T := F_Mo) (N := 43) (ci := 10) (q0 := 0) (As := [.int (xs (x4 + 1).toNatClampNeg), .int (xs (x4 + 2).toNatClampNeg)]) (n := 2) C wm (c_Mo_wide l n0 G K bd (wC K ad (sA S 13 f1) ++ xo K ad (sA S 13 f1) []) T (xs (x4 + 1).toNatClampNeg) (xs (x4 + 2).toNatClampNeg) _ hw) (gw_V kw_1075 kw_1076 kw_1077 kw_11 kw_1078) (by decide +kernel) rfl rfl ⟨Nat.le_of_ble_eq_true rfl, Nat.le_of_ble_eq_true rfl⟩ rfl rfl rfl hl.1 rfl (Nat.le_of_ble_eq_true rfl) d_law_601 ⟨by show _ ≤ 601024; omega, by show _ ≤ 7293034; omega⟩) (fun u H locs hw w => ?_)
  obtain ⟨f3, v4⟩ := u
  dsimp only at hw
  have w : wn n0 G (wM K bd (sI (sA T 10 f3) 0 v4) ++ (wC K ad (sA S 13 f1) ++ xo K ad (sA S 13 f1) [])) s H locs := w
  have w := lw_toC w
  refine lv_aload_n hx hb d_law_604 rfl (lv_at hl 3 rfl) ?_
  have wm := lw_toM w
  refine kd_i (kr_V (y := y_Mo_thrown) (C1 := R_Mo) (T := F_Mo) (N := 43) (ci := 10) (q0 := 0) (As := []) (n := 0) C wm (c_Mo_thrown l n0 G K bd (wC K ad (sA S 13 f1) ++ xo K ad (sA S 13 f1) []) (sI (sA T 10 f3) 0 v4)  _ hw) (gw_V kw_1007 kw_1008 kw_1009 kw_11 kw_1010) (by decide +kernel) rfl rfl ⟨Nat.le_of_ble_eq_true rfl, Nat.le_of_ble_eq_true rfl⟩ rfl rfl rfl hl.1 rfl (Nat.le_of_ble_eq_true rfl) d_law_605 ⟨by show _ ≤ 601024; omega, by show _ ≤ 7293034; omega⟩) (fun r5 hw => ?_)
  refine lv_iload hx hb d_law_608 (lv_at hl 0 rfl) ?_
  refine lv_icmp_eq (tgt := 615) hx hb d_law_610 (by decide) (fun hc => ?_) (fun hc => ?_)
  · have hw := hw.1 hc
    refine lv_goto (tgt := 895) hx hb d_law_615 (by decide) ?_
    obtain ⟨v6, ev6⟩ : ∃ y : Int32, y = x4 + 6 := ⟨_, rfl⟩
    refine lv_iinc (v := v6) (lv' := [(4, .int v6), (5, .int r2), (0, .ref b), (1, .ref (ad 0)), (2, .ref (bd 0)), (3, .ref (ad 49))]) hx hb d_law_895 hl (k := 5) rfl (by rw [ev6]; rfl) (by decide) rfl (fun ls hl => ?_)
    have hw := hw v6 ev6
    refine lv_goto (tgt := 23) hx hb d_law_898 (by decide) ?_
    refine W.widen (k := cc + 6) (n := dd + 36) (by omega) (by omega) ?_
    exact hk (sA S 13 f1) (sI (sA T 10 f3) 0 v4) v6 hw _ _ _ (wn_eq w rfl) (lv_sub hl [2, 3, 4, 5, 0] rfl)
  · have hw := hw.2 hc
    refine lv_iconst (v := 0) hx hb d_law_613 (by decide) ?_
    exact hw.elim
set_option maxHeartbeats 8000000 in
set_option maxRecDepth 100000 in
theorem w_law_618 (C : cx p s m #[Value.ref b] meth c code 8 "LineBreakerLaw" n0 G K) (hr : meth.sig.returnType = ret) (htr : l.stackTraces = false) (hX : va_X b L xs s s.heap) (hbl : b < n0) {cc dd : Nat} (hc9 : cc + 6 ≤ 601024) (hd9 : dd + 36 ≤ 7293034) {Kh : ST → ST → Int32 → Prop} (hk : ∀ (S T : ST) (x4 : Int32), Kh S T x4 → ∀ (H : Heap) (locs : List Loc) (ls : Array Slot), wn n0 G (wC K ad S ++ xo K ad S (wM K bd T)) s H locs → lv_has ls 8 [(0, .ref b), (1, .ref (ad 0)), (2, .ref (bd 0)), (3, .ref (ad 49)), (4, .int x4)] → W p l e room_1 s m #[Value.ref b] below meth c H locs (cc + 6) (dd + 36) (lw_Z below #[Value.ref b] s) (F0 m 23 ls [])) : ∀ (S T : ST) (x4 : Int32), wl_law_618 L xs Kh S T x4 → ∀ (H : Heap) (locs : List Loc) (ls : Array Slot), wn n0 G (wC K ad S ++ xo K ad S (wM K bd T)) s H locs → lv_has ls 8 [(0, .ref b), (1, .ref (ad 0)), (2, .ref (bd 0)), (3, .ref (ad 49)), (4, .int x4)] → W p l e room_1 s m #[Value.ref b] below meth c H locs cc dd (lw_Z below #[Value.ref b] s) (F0 m 618 ls []) := by
  have hx := C.1
  have hb := C.2.1
  have hts := C.2.2.2.2.1
  have hn0 := C.2.2.2.2.2.2.2.1
  have hbA : ¬ al n0 b := Nat.not_le.mpr hbl
  have hbl := Nat.lt_of_lt_of_le hbl hn0
  intro S T x4 hw H locs ls w hl
  unfold wl_law_618 at hw
  refine lv_aload_n hx hb d_law_618 rfl (lv_at hl 1 rfl) ?_
  refine lv_aload_n hx hb d_law_619 rfl (lv_at hl 0 rfl) ?_
  refine lv_iload hx hb d_law_620 (lv_at hl 4 rfl) ?_
  refine lv_iconst (v := 1) hx hb d_law_622 (by decide) ?_
  refine lv_iadd hx hb d_law_623 ?_
  refine va_sld hx hb hX hbl hbA w.2.2 hw.1 d_law_624 ?_
  have hw := hw.2
  refine lv_aload_n hx hb d_law_625 rfl (lv_at hl 0 rfl) ?_
  refine lv_iload hx hb d_law_626 (lv_at hl 4 rfl) ?_
  refine lv_iconst (v := 2) hx hb d_law_628 (by decide) ?_
  refine lv_iadd hx hb d_law_629 ?_
  refine va_sld hx hb hX hbl hbA w.2.2 hw.1 d_law_630 ?_
  have hw := hw.2
  refine lv_aload_n hx hb d_law_631 rfl (lv_at hl 0 rfl) ?_
  refine lv_iload hx hb d_law_632 (lv_at hl 4 rfl) ?_
  refine lv_iconst (v := 3) hx hb d_law_634 (by decide) ?_
  refine lv_iadd hx hb d_law_635 ?_
  refine va_sld hx hb hX hbl hbA w.2.2 hw.1 d_law_636 ?_
  have hw := hw.2
  refine lv_aload_n hx hb d_law_637 rfl (lv_at hl 0 rfl) ?_
  refine lv_iload hx hb d_law_638 (lv_at hl 4 rfl) ?_
  refine lv_iconst (v := 4) hx hb d_law_640 (by decide) ?_
  refine lv_iadd hx hb d_law_641 ?_
  refine va_sld hx hb hX hbl hbA w.2.2 hw.1 d_law_642 ?_
  have hw := hw.2
  refine lv_aload_n hx hb d_law_643 rfl (lv_at hl 0 rfl) ?_
  refine lv_iload hx hb d_law_644 (lv_at hl 4 rfl) ?_
  refine lv_iconst (v := 5) hx hb d_law_646 (by decide) ?_
  refine lv_iadd hx hb d_law_647 ?_
  refine va_sld hx hb hX hbl hbA w.2.2 hw.1 d_law_648 ?_
  have hw := hw.2
  refine kc_i (st := fun (u : Int32 × Int32 × Int32 × Int32 × Int32 × Int32 × Int32 × Int32 × Int32 × Int32 × Int32 × Int32) => wC K ad (sI (sI (sI (sI (sI (sI (sI (sI (sI (sI (sI (sI S 896 u.1) 897 u.2.1) 898 u.2.2.1) 899 u.2.2.2.1) 960 u.2.2.2.2.1) 961 u.2.2.2.2.2.1) 962 u.2.2.2.2.2.2.1) 963 u.2.2.2.2.2.2.2.1) 1024 u.2.2.2.2.2.2.2.2.1) 1025 u.2.2.2.2.2.2.2.2.2.1) 1026 u.2.2.2.2.2.2.2.2.2.2.1) 1027 u.2.2.2.2.2.2.2.2.2.2.2) ++ xo K ad (sI (sI (sI (sI (sI (sI (sI (sI (sI (sI (sI (sI S 896 u.1) 897 u.2.1) 898 u.2.2.1) 899 u.2.2.2.1) 960 u.2.2.2.2.1) 961 u.2.2.2.2.2.1) 962 u.2.2.2.2.2.2.1) 963 u.2.2.2.2.2.2.2.1) 1024 u.2.2.2.2.2.2.2.2.1) 1025 u.2.2.2.2.2.2.2.2.2.1) 1026 u.2.2.2.2.2.2.2.2.2.2.1) 1027 u.2.2.2.2.2.2.2.2.2.2.2) (wM K bd T)) w (kr_W (y := y_La_around) (As := [.ref (ad 0), .int (xs (x4 + 1).toNatClampNeg), .int (xs (x4 + 2).toNatClampNeg), .int (xs (x4 + 3).toNatClampNeg), .int (xs (x4 + 4).toNatClampNeg), .int (xs (x4 + 5).toNatClampNeg)]) (n := 6) C w (c_La_around l htr n0 G K ad (wM K bd T) S (xs (x4 + 1).toNatClampNeg) (xs (x4 + 2).toNatClampNeg) (xs (x4 + 3).toNatClampNeg) (xs (x4 + 4).toNatClampNeg) (xs (x4 + 5).toNatClampNeg) _ hw) kw_608 kw_609 kw_0 kw_610 (by decide +kernel) rfl rfl ⟨Nat.le_of_ble_eq_true rfl, Nat.le_of_ble_eq_true rfl⟩ rfl hl.1 rfl (Nat.le_of_ble_eq_true rfl) d_law_649 ⟨by show _ ≤ 601024; omega, by show _ ≤ 7293034; omega⟩) (fun r13 u H locs hw w => ?_)
  obtain ⟨v1, v2, v3, v4, v5, v6, v7, v8, v9, v10, v11, v12⟩ := u
  dsimp only at hw
  have w : wn n0 G (wC K ad (sI (sI (sI (sI (sI (sI (sI (sI (sI (sI (sI (sI S 896 v1) 897 v2) 898 v3) 899 v4) 960 v5) 961 v6) 962 v7) 963 v8) 1024 v9) 1025 v10) 1026 v11) 1027 v12) ++ xo K ad (sI (sI (sI (sI (sI (sI (sI (sI (sI (sI (sI (sI S 896 v1) 897 v2) 898 v3) 899 v4) 960 v5) 961 v6) 962 v7) 963 v8) 1024 v9) 1025 v10) 1026 v11) 1027 v12) (wM K bd T)) s H locs := w
  refine lv_istore (lv' := [(5, .int r13), (0, .ref b), (1, .ref (ad 0)), (2, .ref (bd 0)), (3, .ref (ad 49)), (4, .int x4)]) hx hb d_law_652 hl (by decide) rfl (fun ls hl => ?_)
  refine lv_aload_n hx hb d_law_654 rfl (lv_at hl 3 rfl) ?_
  refine lv_aload_n hx hb d_law_655 rfl (lv_at hl 1 rfl) ?_
  refine lv_iload hx hb d_law_656 (lv_at hl 5 rfl) ?_
  refine lv_iconst (v := 1) hx hb d_law_658 (by decide) ?_
  refine lv_iadd hx hb d_law_659 ?_
  refine va_sld hx hb hX hbl hbA w.2.2 hw.1 d_law_660 ?_
  have hw := hw.2
  refine lv_aload_n hx hb d_law_661 rfl (lv_at hl 1 rfl) ?_
  refine lv_iload hx hb d_law_662 (lv_at hl 5 rfl) ?_
  refine lv_iconst (v := 2) hx hb d_law_664 (by decide) ?_
  refine lv_iadd hx hb d_law_665 ?_
  refine va_sld hx hb hX hbl hbA w.2.2 hw.1 d_law_666 ?_
  have hw := hw.2
  refine lv_aload_n hx hb d_law_667 rfl (lv_at hl 1 rfl) ?_
  refine lv_iload hx hb d_law_668 (lv_at hl 5 rfl) ?_
  refine lv_iconst (v := 3) hx hb d_law_670 (by decide) ?_
  refine lv_iadd hx hb d_law_671 ?_
  refine va_sld hx hb hX hbl hbA w.2.2 hw.1 d_law_672 ?_
  have hw := hw.2
  refine lv_aload_n hx hb d_law_673 rfl (lv_at hl 1 rfl) ?_
  refine lv_iload hx hb d_law_674 (lv_at hl 5 rfl) ?_
  refine lv_iconst (v := 4) hx hb d_law_676 (by decide) ?_
  refine lv_iadd hx hb d_law_677 ?_
  refine va_sld hx hb hX hbl hbA w.2.2 hw.1 d_law_678 ?_
  have hw := hw.2
  refine lv_aload_n hx hb d_law_679 rfl (lv_at hl 1 rfl) ?_
  refine lv_iload hx hb d_law_680 (lv_at hl 5 rfl) ?_
  refine lv_iconst (v := 5) hx hb d_law_682 (by decide) ?_
  refine lv_iadd hx hb d_law_683 ?_
  refine va_sld hx hb hX hbl hbA w.2.2 hw.1 d_law_684 ?_
  have hw := hw.2
  have wm := lw_toM w
  refine kc_v (st := fun (u : (Nat → Int32) × (Nat → Int32) × (Nat → Int32) × (Nat → Int32) × Int32) => wM K bd (sI (sA (sA (sA (sA T 11 u.1) 12 u.2.1) 13 u.2.2.1) 14 u.2.2.2.1) 0 u.2.2.2.2) ++ (wC K ad (sI (sI (sI (sI (sI (sI (sI (sI (sI (sI (sI (sI S 896 v1) 897 v2) 898 v3) 899 v4) 960 v5) 961 v6) 962 v7) 963 v8) 1024 v9) 1025 v10) 1026 v11) 1027 v12) ++ xo K ad (sI (sI (sI (sI (sI (sI (sI (sI (sI (sI (sI (sI S 896 v1) 897 v2) 898 v3) 899 v4) 960 v5) 961 v6) 962 v7) 963 v8) 1024 v9) 1025 v10) 1026 v11) 1027 v12) [])) wm (kr_V (y := y_Mo_around) (C1 := R_Mo) (T := F_Mo) (N := 43) (ci := 10) (q0 := 0) (As := [.int (xs (x4 + 1).toNatClampNeg), .int (xs (x4 + 2).toNatClampNeg), .int (xs (x4 + 3).toNatClampNeg), .int (xs (x4 + 4).toNatClampNeg), .int (xs (x4 + 5).toNatClampNeg)]) (n := 5) C wm (c_Mo_around l n0 G K bd (wC K ad (sI (sI (sI (sI (sI (sI (sI (sI (sI (sI (sI (sI S 896 v1) 897 v2) 898 v3) 899 v4) 960 v5) 961 v6) 962 v7) 963 v8) 1024 v9) 1025 v10) 1026 v11) 1027 v12) ++ xo K ad (sI (sI (sI (sI (sI (sI (sI (sI (sI (sI (sI (sI S 896 v1) 897 v2) 898 v3) 899 v4) 960 v5) 961 v6) 962 v7) 963 v8) 1024 v9) 1025 v10) 1026 v11) 1027 v12) []) T (xs (x4 + 1).toNatClampNeg) (xs (x4 + 2).toNatClampNeg) (xs (x4 + 3).toNatClampNeg) (xs (x4 + 4).toNatClampNeg) (xs (x4 + 5).toNatClampNeg) _ hw) (gw_V kw_1079 kw_1080 kw_1081 kw_11 kw_1082) (by decide +kernel) rfl rfl ⟨Nat.le_of_ble_eq_true rfl, Nat.le_of_ble_eq_true rfl⟩ rfl rfl rfl hl.1 rfl (Nat.le_of_ble_eq_true rfl) d_law_685 ⟨by show _ ≤ 601024; omega, by show _ ≤ 7293034; omega⟩) (fun u H locs hw w => ?_)
  obtain ⟨f14, f15, f16, f17, v18⟩ := u
  dsimp only at hw
  have w : wn n0 G (wM K bd (sI (sA (sA (sA (sA T 11 f14) 12 f15) 13 f16) 14 f17) 0 v18) ++ (wC K ad (sI (sI (sI (sI (sI (sI (sI (sI (sI (sI (sI (sI S 896 v1) 897 v2) 898 v3) 899 v4) 960 v5) 961 v6) 962 v7) 963 v8) 1024 v9) 1025 v10) 1026 v11) 1027 v12) ++ xo K ad (sI (sI (sI (sI (sI (sI (sI (sI (sI (sI (sI (sI S 896 v1) 897 v2) 898 v3) 899 v4) 960 v5) 961 v6) 962 v7) 963 v8) 1024 v9) 1025 v10) 1026 v11) 1027 v12) [])) s H locs := w
  have w := lw_toC w
  refine lv_aload_n hx hb d_law_688 rfl (lv_at hl 3 rfl) ?_
  have wm := lw_toM w
  refine kd_i (kr_V (y := y_Mo_thrown) (C1 := R_Mo) (T := F_Mo) (N := 43) (ci := 10) (q0 := 0) (As := []) (n := 0) C wm (c_Mo_thrown l n0 G K bd (wC K ad (sI (sI (sI (sI (sI (sI (sI (sI (sI (sI (sI (sI S 896 v1) 897 v2) 898 v3) 899 v4) 960 v5) 961 v6) 962 v7) 963 v8) 1024 v9) 1025 v10) 1026 v11) 1027 v12) ++ xo K ad (sI (sI (sI (sI (sI (sI (sI (sI (sI (sI (sI (sI S 896 v1) 897 v2) 898 v3) 899 v4) 960 v5) 961 v6) 962 v7) 963 v8) 1024 v9) 1025 v10) 1026 v11) 1027 v12) []) (sI (sA (sA (sA (sA T 11 f14) 12 f15) 13 f16) 14 f17) 0 v18)  _ hw) (gw_V kw_1007 kw_1008 kw_1009 kw_11 kw_1010) (by decide +kernel) rfl rfl ⟨Nat.le_of_ble_eq_true rfl, Nat.le_of_ble_eq_true rfl⟩ rfl rfl rfl hl.1 rfl (Nat.le_of_ble_eq_true rfl) d_law_689 ⟨by show _ ≤ 601024; omega, by show _ ≤ 7293034; omega⟩) (fun r19 hw => ?_)
  refine lv_iload hx hb d_law_692 (lv_at hl 0 rfl) ?_
  refine lv_icmp_eq (tgt := 699) hx hb d_law_694 (by decide) (fun hc => ?_) (fun hc => ?_)
  · have hw := hw.1 hc
    refine lv_goto (tgt := 895) hx hb d_law_699 (by decide) ?_
    obtain ⟨v20, ev20⟩ : ∃ y : Int32, y = x4 + 6 := ⟨_, rfl⟩
    refine lv_iinc (v := v20) (lv' := [(4, .int v20), (5, .int r13), (0, .ref b), (1, .ref (ad 0)), (2, .ref (bd 0)), (3, .ref (ad 49))]) hx hb d_law_895 hl (k := 5) rfl (by rw [ev20]; rfl) (by decide) rfl (fun ls hl => ?_)
    have hw := hw v20 ev20
    refine lv_goto (tgt := 23) hx hb d_law_898 (by decide) ?_
    refine W.widen (k := cc + 6) (n := dd + 36) (by omega) (by omega) ?_
    exact hk (sI (sI (sI (sI (sI (sI (sI (sI (sI (sI (sI (sI S 896 v1) 897 v2) 898 v3) 899 v4) 960 v5) 961 v6) 962 v7) 963 v8) 1024 v9) 1025 v10) 1026 v11) 1027 v12) (sI (sA (sA (sA (sA T 11 f14) 12 f15) 13 f16) 14 f17) 0 v18) v20 hw _ _ _ (wn_eq w rfl) (lv_sub hl [2, 3, 4, 5, 0] rfl)
  · have hw := hw.2 hc
    refine lv_iconst (v := 0) hx hb d_law_697 (by decide) ?_
    exact hw.elim
set_option maxHeartbeats 8000000 in
set_option maxRecDepth 100000 in
theorem w_law_702 (C : cx p s m #[Value.ref b] meth c code 8 "LineBreakerLaw" n0 G K) (hr : meth.sig.returnType = ret) (htr : l.stackTraces = false) (hX : va_X b L xs s s.heap) (hbl : b < n0) {cc dd : Nat} (hc9 : cc + 6 ≤ 601024) (hd9 : dd + 36 ≤ 7293034) {Kh : ST → ST → Int32 → Prop} (hk : ∀ (S T : ST) (x4 : Int32), Kh S T x4 → ∀ (H : Heap) (locs : List Loc) (ls : Array Slot), wn n0 G (wC K ad S ++ xo K ad S (wM K bd T)) s H locs → lv_has ls 8 [(0, .ref b), (1, .ref (ad 0)), (2, .ref (bd 0)), (3, .ref (ad 49)), (4, .int x4)] → W p l e room_1 s m #[Value.ref b] below meth c H locs (cc + 6) (dd + 36) (lw_Z below #[Value.ref b] s) (F0 m 23 ls [])) : ∀ (S T : ST) (x4 : Int32), wl_law_702 L xs Kh S T x4 → ∀ (H : Heap) (locs : List Loc) (ls : Array Slot), wn n0 G (wC K ad S ++ xo K ad S (wM K bd T)) s H locs → lv_has ls 8 [(0, .ref b), (1, .ref (ad 0)), (2, .ref (bd 0)), (3, .ref (ad 49)), (4, .int x4)] → W p l e room_1 s m #[Value.ref b] below meth c H locs cc dd (lw_Z below #[Value.ref b] s) (F0 m 702 ls []) := by
  have hx := C.1
  have hb := C.2.1
  have hts := C.2.2.2.2.1
  have hn0 := C.2.2.2.2.2.2.2.1
  have hbA : ¬ al n0 b := Nat.not_le.mpr hbl
  have hbl := Nat.lt_of_lt_of_le hbl hn0
  intro S T x4 hw H locs ls w hl
  unfold wl_law_702 at hw
  refine lv_aload_n hx hb d_law_702 rfl (lv_at hl 1 rfl) ?_
  refine lv_aload_n hx hb d_law_703 rfl (lv_at hl 3 rfl) ?_
  refine kc_i (st := fun (u : (Nat → Int32) × (Nat → Int32) × (Nat → Int32) × (Nat → Int32) × (Nat → Int32) × (Nat → Int32) × (Nat → Int32) × (Nat → Int32) × (Nat → Int32) × (Nat → Int32) × (Nat → Int32) × (Nat → Int32) × (Nat → Int32) × (Nat → Int32) × (Nat → Int32) × (Nat → Int32) × (Nat → Int32) × (Nat → Int32) × (Nat → Int32) × (Nat → Int32) × (Nat → Int32) × (Nat → Int32) × (Nat → Int64) × (Nat → Int64) × (Nat → Int64) × (Nat → Int64) × Int32 × Int32 × Int32 × Int32 × Int32 × Int32 × Int32 × Int32 × Int32 × Int32 × Int32 × Int32 × Int32 × Int32 × Int32 × Int32 × Int32 × Int32) => wC K ad (sI (sI (sI (sI (sI (sI (sI (sI (sI (sI (sI (sI (sI (sI (sI (sI (sI (sI (sL (sL (sL (sL (sA (sA (sA (sA (sA (sA (sA (sA (sA (sA (sA (sA (sA (sA (sA (sA (sA (sA (sA (sA (sA (sA S 18 u.1) 19 u.2.1) 20 u.2.2.1) 21 u.2.2.2.1) 22 u.2.2.2.2.1) 23 u.2.2.2.2.2.1) 24 u.2.2.2.2.2.2.1) 25 u.2.2.2.2.2.2.2.1) 26 u.2.2.2.2.2.2.2.2.1) 27 u.2.2.2.2.2.2.2.2.2.1) 28 u.2.2.2.2.2.2.2.2.2.2.1) 32 u.2.2.2.2.2.2.2.2.2.2.2.1) 33 u.2.2.2.2.2.2.2.2.2.2.2.2.1) 34 u.2.2.2.2.2.2.2.2.2.2.2.2.2.1) 35 u.2.2.2.2.2.2.2.2.2.2.2.2.2.2.1) 39 u.2.2.2.2.2.2.2.2.2.2.2.2.2.2.2.1) 40 u.2.2.2.2.2.2.2.2.2.2.2.2.2.2.2.2.1) 43 u.2.2.2.2.2.2.2.2.2.2.2.2.2.2.2.2.2.1) 44 u.2.2.2.2.2.2.2.2.2.2.2.2.2.2.2.2.2.2.1) 45 u.2.2.2.2.2.2.2.2.2.2.2.2.2.2.2.2.2.2.2.1) 46 u.2.2.2.2.2.2.2.2.2.2.2.2.2.2.2.2.2.2.2.2.1) 47 u.2.2.2.2.2.2.2.2.2.2.2.2.2.2.2.2.2.2.2.2.2.1) 36 u.2.2.2.2.2.2.2.2.2.2.2.2.2.2.2.2.2.2.2.2.2.2.1) 38 u.2.2.2.2.2.2.2.2.2.2.2.2.2.2.2.2.2.2.2.2.2.2.2.1) 48 u.2.2.2.2.2.2.2.2.2.2.2.2.2.2.2.2.2.2.2.2.2.2.2.2.1) 49 u.2.2.2.2.2.2.2.2.2.2.2.2.2.2.2.2.2.2.2.2.2.2.2.2.2.1) 1099 u.2.2.2.2.2.2.2.2.2.2.2.2.2.2.2.2.2.2.2.2.2.2.2.2.2.2.1) 1862 u.2.2.2.2.2.2.2.2.2.2.2.2.2.2.2.2.2.2.2.2.2.2.2.2.2.2.2.1) 1863 u.2.2.2.2.2.2.2.2.2.2.2.2.2.2.2.2.2.2.2.2.2.2.2.2.2.2.2.2.1) 1864 u.2.2.2.2.2.2.2.2.2.2.2.2.2.2.2.2.2.2.2.2.2.2.2.2.2.2.2.2.2.1) 1865 u.2.2.2.2.2.2.2.2.2.2.2.2.2.2.2.2.2.2.2.2.2.2.2.2.2.2.2.2.2.2.1) 1922 u.2.2.2.2.2.2.2.2.2.2.2.2.2.2.2.2.2.2.2.2.2.2.2.2.2.2.2.2.2.2.2.1) 1923 u.2.2.2.2.2.2.2.2.2.2.2.2.2.2.2.2.2.2.2.2.2.2.2.2.2.2.2.2.2.2.2.2.1) 1924 u.2.2.2.2.2.2.2.2.2.2.2.2.2.2.2.2.2.2.2.2.2.2.2.2.2.2.2.2.2.2.2.2.2.1) 1925 u.2.2.2.2.2.2.2.2.2.2.2.2.2.2.2.2.2.2.2.2.2.2.2.2.2.2.2.2.2.2.2.2.2.2.1) 1926 u.2.2.2.2.2.2.2.2.2.2.2.2.2.2.2.2.2.2.2.2.2.2.2.2.2.2.2.2.2.2.2.2.2.2.2.1) 1927 u.2.2.2.2.2.2.2.2.2.2.2.2.2.2.2.2.2.2.2.2.2.2.2.2.2.2.2.2.2.2.2.2.2.2.2.2.1) 1928 u.2.2.2.2.2.2.2.2.2.2.2.2.2.2.2.2.2.2.2.2.2.2.2.2.2.2.2.2.2.2.2.2.2.2.2.2.2.1) 1989 u.2.2.2.2.2.2.2.2.2.2.2.2.2.2.2.2.2.2.2.2.2.2.2.2.2.2.2.2.2.2.2.2.2.2.2.2.2.2.1) 2370 u.2.2.2.2.2.2.2.2.2.2.2.2.2.2.2.2.2.2.2.2.2.2.2.2.2.2.2.2.2.2.2.2.2.2.2.2.2.2.2.1) 2371 u.2.2.2.2.2.2.2.2.2.2.2.2.2.2.2.2.2.2.2.2.2.2.2.2.2.2.2.2.2.2.2.2.2.2.2.2.2.2.2.2.1) 2626 u.2.2.2.2.2.2.2.2.2.2.2.2.2.2.2.2.2.2.2.2.2.2.2.2.2.2.2.2.2.2.2.2.2.2.2.2.2.2.2.2.2.1) 2627 u.2.2.2.2.2.2.2.2.2.2.2.2.2.2.2.2.2.2.2.2.2.2.2.2.2.2.2.2.2.2.2.2.2.2.2.2.2.2.2.2.2.2.1) 2628 u.2.2.2.2.2.2.2.2.2.2.2.2.2.2.2.2.2.2.2.2.2.2.2.2.2.2.2.2.2.2.2.2.2.2.2.2.2.2.2.2.2.2.2) ++ xo K ad (sI (sI (sI (sI (sI (sI (sI (sI (sI (sI (sI (sI (sI (sI (sI (sI (sI (sI (sL (sL (sL (sL (sA (sA (sA (sA (sA (sA (sA (sA (sA (sA (sA (sA (sA (sA (sA (sA (sA (sA (sA (sA (sA (sA S 18 u.1) 19 u.2.1) 20 u.2.2.1) 21 u.2.2.2.1) 22 u.2.2.2.2.1) 23 u.2.2.2.2.2.1) 24 u.2.2.2.2.2.2.1) 25 u.2.2.2.2.2.2.2.1) 26 u.2.2.2.2.2.2.2.2.1) 27 u.2.2.2.2.2.2.2.2.2.1) 28 u.2.2.2.2.2.2.2.2.2.2.1) 32 u.2.2.2.2.2.2.2.2.2.2.2.1) 33 u.2.2.2.2.2.2.2.2.2.2.2.2.1) 34 u.2.2.2.2.2.2.2.2.2.2.2.2.2.1) 35 u.2.2.2.2.2.2.2.2.2.2.2.2.2.2.1) 39 u.2.2.2.2.2.2.2.2.2.2.2.2.2.2.2.1) 40 u.2.2.2.2.2.2.2.2.2.2.2.2.2.2.2.2.1) 43 u.2.2.2.2.2.2.2.2.2.2.2.2.2.2.2.2.2.1) 44 u.2.2.2.2.2.2.2.2.2.2.2.2.2.2.2.2.2.2.1) 45 u.2.2.2.2.2.2.2.2.2.2.2.2.2.2.2.2.2.2.2.1) 46 u.2.2.2.2.2.2.2.2.2.2.2.2.2.2.2.2.2.2.2.2.1) 47 u.2.2.2.2.2.2.2.2.2.2.2.2.2.2.2.2.2.2.2.2.2.1) 36 u.2.2.2.2.2.2.2.2.2.2.2.2.2.2.2.2.2.2.2.2.2.2.1) 38 u.2.2.2.2.2.2.2.2.2.2.2.2.2.2.2.2.2.2.2.2.2.2.2.1) 48 u.2.2.2.2.2.2.2.2.2.2.2.2.2.2.2.2.2.2.2.2.2.2.2.2.1) 49 u.2.2.2.2.2.2.2.2.2.2.2.2.2.2.2.2.2.2.2.2.2.2.2.2.2.1) 1099 u.2.2.2.2.2.2.2.2.2.2.2.2.2.2.2.2.2.2.2.2.2.2.2.2.2.2.1) 1862 u.2.2.2.2.2.2.2.2.2.2.2.2.2.2.2.2.2.2.2.2.2.2.2.2.2.2.2.1) 1863 u.2.2.2.2.2.2.2.2.2.2.2.2.2.2.2.2.2.2.2.2.2.2.2.2.2.2.2.2.1) 1864 u.2.2.2.2.2.2.2.2.2.2.2.2.2.2.2.2.2.2.2.2.2.2.2.2.2.2.2.2.2.1) 1865 u.2.2.2.2.2.2.2.2.2.2.2.2.2.2.2.2.2.2.2.2.2.2.2.2.2.2.2.2.2.2.1) 1922 u.2.2.2.2.2.2.2.2.2.2.2.2.2.2.2.2.2.2.2.2.2.2.2.2.2.2.2.2.2.2.2.1) 1923 u.2.2.2.2.2.2.2.2.2.2.2.2.2.2.2.2.2.2.2.2.2.2.2.2.2.2.2.2.2.2.2.2.1) 1924 u.2.2.2.2.2.2.2.2.2.2.2.2.2.2.2.2.2.2.2.2.2.2.2.2.2.2.2.2.2.2.2.2.2.1) 1925 u.2.2.2.2.2.2.2.2.2.2.2.2.2.2.2.2.2.2.2.2.2.2.2.2.2.2.2.2.2.2.2.2.2.2.1) 1926 u.2.2.2.2.2.2.2.2.2.2.2.2.2.2.2.2.2.2.2.2.2.2.2.2.2.2.2.2.2.2.2.2.2.2.2.1) 1927 u.2.2.2.2.2.2.2.2.2.2.2.2.2.2.2.2.2.2.2.2.2.2.2.2.2.2.2.2.2.2.2.2.2.2.2.2.1) 1928 u.2.2.2.2.2.2.2.2.2.2.2.2.2.2.2.2.2.2.2.2.2.2.2.2.2.2.2.2.2.2.2.2.2.2.2.2.2.1) 1989 u.2.2.2.2.2.2.2.2.2.2.2.2.2.2.2.2.2.2.2.2.2.2.2.2.2.2.2.2.2.2.2.2.2.2.2.2.2.2.1) 2370 u.2.2.2.2.2.2.2.2.2.2.2.2.2.2.2.2.2.2.2.2.2.2.2.2.2.2.2.2.2.2.2.2.2.2.2.2.2.2.2.1) 2371 u.2.2.2.2.2.2.2.2.2.2.2.2.2.2.2.2.2.2.2.2.2.2.2.2.2.2.2.2.2.2.2.2.2.2.2.2.2.2.2.2.1) 2626 u.2.2.2.2.2.2.2.2.2.2.2.2.2.2.2.2.2.2.2.2.2.2.2.2.2.2.2.2.2.2.2.2.2.2.2.2.2.2.2.2.2.1) 2627 u.2.2.2.2.2.2.2.2.2.2.2.2.2.2.2.2.2.2.2.2.2.2.2.2.2.2.2.2.2.2.2.2.2.2.2.2.2.2.2.2.2.2.1) 2628 u.2.2.2.2.2.2.2.2.2.2.2.2.2.2.2.2.2.2.2.2.2.2.2.2.2.2.2.2.2.2.2.2.2.2.2.2.2.2.2.2.2.2.2) (wM K bd T)) w (kr_W (y := y_La_breakUp) (As := [.ref (ad 0), .ref (ad 49)]) (n := 2) C w (c_La_breakUp l htr n0 G K ad (wM K bd T) S  _ hw) kw_620 kw_621 kw_0 kw_622 (by decide +kernel) rfl rfl ⟨Nat.le_of_ble_eq_true rfl, Nat.le_of_ble_eq_true rfl⟩ rfl hl.1 rfl (Nat.le_of_ble_eq_true rfl) d_law_704 ⟨by show _ ≤ 601024; omega, by show _ ≤ 7293034; omega⟩) (fun r45 u H locs hw w => ?_)
  obtain ⟨f1, f2, f3, f4, f5, f6, f7, f8, f9, f10, f11, f12, f13, f14, f15, f16, f17, f18, f19, f20, f21, f22, f23, f24, f25, f26, v27, v28, v29, v30, v31, v32, v33, v34, v35, v36, v37, v38, v39, v40, v41, v42, v43, v44⟩ := u
  dsimp only at hw
  have w : wn n0 G (wC K ad (sI (sI (sI (sI (sI (sI (sI (sI (sI (sI (sI (sI (sI (sI (sI (sI (sI (sI (sL (sL (sL (sL (sA (sA (sA (sA (sA (sA (sA (sA (sA (sA (sA (sA (sA (sA (sA (sA (sA (sA (sA (sA (sA (sA S 18 f1) 19 f2) 20 f3) 21 f4) 22 f5) 23 f6) 24 f7) 25 f8) 26 f9) 27 f10) 28 f11) 32 f12) 33 f13) 34 f14) 35 f15) 39 f16) 40 f17) 43 f18) 44 f19) 45 f20) 46 f21) 47 f22) 36 f23) 38 f24) 48 f25) 49 f26) 1099 v27) 1862 v28) 1863 v29) 1864 v30) 1865 v31) 1922 v32) 1923 v33) 1924 v34) 1925 v35) 1926 v36) 1927 v37) 1928 v38) 1989 v39) 2370 v40) 2371 v41) 2626 v42) 2627 v43) 2628 v44) ++ xo K ad (sI (sI (sI (sI (sI (sI (sI (sI (sI (sI (sI (sI (sI (sI (sI (sI (sI (sI (sL (sL (sL (sL (sA (sA (sA (sA (sA (sA (sA (sA (sA (sA (sA (sA (sA (sA (sA (sA (sA (sA (sA (sA (sA (sA S 18 f1) 19 f2) 20 f3) 21 f4) 22 f5) 23 f6) 24 f7) 25 f8) 26 f9) 27 f10) 28 f11) 32 f12) 33 f13) 34 f14) 35 f15) 39 f16) 40 f17) 43 f18) 44 f19) 45 f20) 46 f21) 47 f22) 36 f23) 38 f24) 48 f25) 49 f26) 1099 v27) 1862 v28) 1863 v29) 1864 v30) 1865 v31) 1922 v32) 1923 v33) 1924 v34) 1925 v35) 1926 v36) 1927 v37) 1928 v38) 1989 v39) 2370 v40) 2371 v41) 2626 v42) 2627 v43) 2628 v44) (wM K bd T)) s H locs := w
  refine lv_istore (lv' := [(5, .int r45), (0, .ref b), (1, .ref (ad 0)), (2, .ref (bd 0)), (3, .ref (ad 49)), (4, .int x4)]) hx hb d_law_707 hl (by decide) rfl (fun ls hl => ?_)
  refine lv_aload_n hx hb d_law_709 rfl (lv_at hl 3 rfl) ?_
  have wm := lw_toM w
  refine kc_i (st := fun (u : (Nat → Int32) × (Nat → Int32) × (Nat → Int32) × (Nat → Int32) × (Nat → Int32) × (Nat → Int32) × (Nat → Int32) × (Nat → Int32) × (Nat → Int32) × (Nat → Int32) × (Nat → Int32) × (Nat → Int32) × (Nat → Int32) × (Nat → Int32) × (Nat → Int32) × (Nat → Int32) × (Nat → Int32) × (Nat → Int32) × (Nat → Int32) × (Nat → Int64) × (Nat → Int64) × Int32 × Int32 × Int32 × Int32 × Int32 × Int32 × Int32 × Int32 × Int32 × Int32 × Int32 × Int32 × Int32 × Int32 × Int32 × Int32) => wM K bd (sI (sI (sI (sI (sI (sI (sI (sI (sI (sI (sI (sI (sI (sI (sI (sI (sL (sL (sA (sA (sA (sA (sA (sA (sA (sA (sA (sA (sA (sA (sA (sA (sA (sA (sA (sA (sA T 1 u.1) 2 u.2.1) 3 u.2.2.1) 4 u.2.2.2.1) 5 u.2.2.2.2.1) 6 u.2.2.2.2.2.1) 7 u.2.2.2.2.2.2.1) 8 u.2.2.2.2.2.2.2.1) 15 u.2.2.2.2.2.2.2.2.1) 16 u.2.2.2.2.2.2.2.2.2.1) 17 u.2.2.2.2.2.2.2.2.2.2.1) 19 u.2.2.2.2.2.2.2.2.2.2.2.1) 20 u.2.2.2.2.2.2.2.2.2.2.2.2.1) 21 u.2.2.2.2.2.2.2.2.2.2.2.2.2.1) 22 u.2.2.2.2.2.2.2.2.2.2.2.2.2.2.1) 23 u.2.2.2.2.2.2.2.2.2.2.2.2.2.2.2.1) 24 u.2.2.2.2.2.2.2.2.2.2.2.2.2.2.2.2.1) 25 u.2.2.2.2.2.2.2.2.2.2.2.2.2.2.2.2.2.1) 26 u.2.2.2.2.2.2.2.2.2.2.2.2.2.2.2.2.2.2.1) 18 u.2.2.2.2.2.2.2.2.2.2.2.2.2.2.2.2.2.2.2.1) 27 u.2.2.2.2.2.2.2.2.2.2.2.2.2.2.2.2.2.2.2.2.1) 0 u.2.2.2.2.2.2.2.2.2.2.2.2.2.2.2.2.2.2.2.2.2.1) 1 u.2.2.2.2.2.2.2.2.2.2.2.2.2.2.2.2.2.2.2.2.2.2.1) 16 u.2.2.2.2.2.2.2.2.2.2.2.2.2.2.2.2.2.2.2.2.2.2.2.1) 17 u.2.2.2.2.2.2.2.2.2.2.2.2.2.2.2.2.2.2.2.2.2.2.2.2.1) 18 u.2.2.2.2.2.2.2.2.2.2.2.2.2.2.2.2.2.2.2.2.2.2.2.2.2.1) 19 u.2.2.2.2.2.2.2.2.2.2.2.2.2.2.2.2.2.2.2.2.2.2.2.2.2.2.1) 20 u.2.2.2.2.2.2.2.2.2.2.2.2.2.2.2.2.2.2.2.2.2.2.2.2.2.2.2.1) 27 u.2.2.2.2.2.2.2.2.2.2.2.2.2.2.2.2.2.2.2.2.2.2.2.2.2.2.2.2.1) 28 u.2.2.2.2.2.2.2.2.2.2.2.2.2.2.2.2.2.2.2.2.2.2.2.2.2.2.2.2.2.1) 30 u.2.2.2.2.2.2.2.2.2.2.2.2.2.2.2.2.2.2.2.2.2.2.2.2.2.2.2.2.2.2.1) 31 u.2.2.2.2.2.2.2.2.2.2.2.2.2.2.2.2.2.2.2.2.2.2.2.2.2.2.2.2.2.2.2.1) 32 u.2.2.2.2.2.2.2.2.2.2.2.2.2.2.2.2.2.2.2.2.2.2.2.2.2.2.2.2.2.2.2.2.1) 33 u.2.2.2.2.2.2.2.2.2.2.2.2.2.2.2.2.2.2.2.2.2.2.2.2.2.2.2.2.2.2.2.2.2.1) 34 u.2.2.2.2.2.2.2.2.2.2.2.2.2.2.2.2.2.2.2.2.2.2.2.2.2.2.2.2.2.2.2.2.2.2.1) 35 u.2.2.2.2.2.2.2.2.2.2.2.2.2.2.2.2.2.2.2.2.2.2.2.2.2.2.2.2.2.2.2.2.2.2.2.1) 36 u.2.2.2.2.2.2.2.2.2.2.2.2.2.2.2.2.2.2.2.2.2.2.2.2.2.2.2.2.2.2.2.2.2.2.2.2) ++ (wC K ad (sI (sI (sI (sI (sI (sI (sI (sI (sI (sI (sI (sI (sI (sI (sI (sI (sI (sI (sL (sL (sL (sL (sA (sA (sA (sA (sA (sA (sA (sA (sA (sA (sA (sA (sA (sA (sA (sA (sA (sA (sA (sA (sA (sA S 18 f1) 19 f2) 20 f3) 21 f4) 22 f5) 23 f6) 24 f7) 25 f8) 26 f9) 27 f10) 28 f11) 32 f12) 33 f13) 34 f14) 35 f15) 39 f16) 40 f17) 43 f18) 44 f19) 45 f20) 46 f21) 47 f22) 36 f23) 38 f24) 48 f25) 49 f26) 1099 v27) 1862 v28) 1863 v29) 1864 v30) 1865 v31) 1922 v32) 1923 v33) 1924 v34) 1925 v35) 1926 v36) 1927 v37) 1928 v38) 1989 v39) 2370 v40) 2371 v41) 2626 v42) 2627 v43) 2628 v44) ++ xo K ad (sI (sI (sI (sI (sI (sI (sI (sI (sI (sI (sI (sI (sI (sI (sI (sI (sI (sI (sL (sL (sL (sL (sA (sA (sA (sA (sA (sA (sA (sA (sA (sA (sA (sA (sA (sA (sA (sA (sA (sA (sA (sA (sA (sA S 18 f1) 19 f2) 20 f3) 21 f4) 22 f5) 23 f6) 24 f7) 25 f8) 26 f9) 27 f10) 28 f11) 32 f12) 33 f13) 34 f14) 35 f15) 39 f16) 40 f17) 43 f18) 44 f19) 45 f20) 46 f21) 47 f22) 36 f23) 38 f24) 48 f25) 49 f26) 1099 v27) 1862 v28) 1863 v29) 1864 v30) 1865 v31) 1922 v32) 1923 v33) 1924 v34) 1925 v35) 1926 v36) 1927 v37) 1928 v38) 1989 v39) 2370 v40) 2371 v41) 2626 v42) 2627 v43) 2628 v44) [])) wm (kr_V (y := y_Mo_breakUp) (C1 := R_Mo) (T := F_Mo) (N := 43) (ci := 10) (q0 := 0) (As := []) (n := 0) C wm (c_Mo_breakUp l n0 G K bd (wC K ad (sI (sI (sI (sI (sI (sI (sI (sI (sI (sI (sI (sI (sI (sI (sI (sI (sI (sI (sL (sL (sL (sL (sA (sA (sA (sA (sA (sA (sA (sA (sA (sA (sA (sA (sA (sA (sA (sA (sA (sA (sA (sA (sA (sA S 18 f1) 19 f2) 20 f3) 21 f4) 22 f5) 23 f6) 24 f7) 25 f8) 26 f9) 27 f10) 28 f11) 32 f12) 33 f13) 34 f14) 35 f15) 39 f16) 40 f17) 43 f18) 44 f19) 45 f20) 46 f21) 47 f22) 36 f23) 38 f24) 48 f25) 49 f26) 1099 v27) 1862 v28) 1863 v29) 1864 v30) 1865 v31) 1922 v32) 1923 v33) 1924 v34) 1925 v35) 1926 v36) 1927 v37) 1928 v38) 1989 v39) 2370 v40) 2371 v41) 2626 v42) 2627 v43) 2628 v44) ++ xo K ad (sI (sI (sI (sI (sI (sI (sI (sI (sI (sI (sI (sI (sI (sI (sI (sI (sI (sI (sL (sL (sL (sL (sA (sA (sA (sA (sA (sA (sA (sA (sA (sA (sA (sA (sA (sA (sA (sA (sA (sA (sA (sA (sA (sA S 18 f1) 19 f2) 20 f3) 21 f4) 22 f5) 23 f6) 24 f7) 25 f8) 26 f9) 27 f10) 28 f11) 32 f12) 33 f13) 34 f14) 35 f15) 39 f16) 40 f17) 43 f18) 44 f19) 45 f20) 46 f21) 47 f22) 36 f23) 38 f24) 48 f25) 49 f26) 1099 v27) 1862 v28) 1863 v29) 1864 v30) 1865 v31) 1922 v32) 1923 v33) 1924 v34) 1925 v35) 1926 v36) 1927 v37) 1928 v38) 1989 v39) 2370 v40) 2371 v41) 2626 v42) 2627 v43) 2628 v44) []) T  _ hw) (gw_V kw_1083 kw_1084 kw_1085 kw_11 kw_1086) (by decide +kernel) rfl rfl ⟨Nat.le_of_ble_eq_true rfl, Nat.le_of_ble_eq_true rfl⟩ rfl rfl rfl hl.1 rfl (Nat.le_of_ble_eq_true rfl) d_law_710 ⟨by show _ ≤ 601024; omega, by show _ ≤ 7293034; omega⟩) (fun r83 u H locs hw w => ?_)
  obtain ⟨f46, f47, f48, f49, f50, f51, f52, f53, f54, f55, f56, f57, f58, f59, f60, f61, f62, f63, f64, f65, f66, v67, v68, v69, v70, v71, v72, v73, v74, v75, v76, v77, v78, v79, v80, v81, v82⟩ := u
  dsimp only at hw
  have w : wn n0 G (wM K bd (sI (sI (sI (sI (sI (sI (sI (sI (sI (sI (sI (sI (sI (sI (sI (sI (sL (sL (sA (sA (sA (sA (sA (sA (sA (sA (sA (sA (sA (sA (sA (sA (sA (sA (sA (sA (sA T 1 f46) 2 f47) 3 f48) 4 f49) 5 f50) 6 f51) 7 f52) 8 f53) 15 f54) 16 f55) 17 f56) 19 f57) 20 f58) 21 f59) 22 f60) 23 f61) 24 f62) 25 f63) 26 f64) 18 f65) 27 f66) 0 v67) 1 v68) 16 v69) 17 v70) 18 v71) 19 v72) 20 v73) 27 v74) 28 v75) 30 v76) 31 v77) 32 v78) 33 v79) 34 v80) 35 v81) 36 v82) ++ (wC K ad (sI (sI (sI (sI (sI (sI (sI (sI (sI (sI (sI (sI (sI (sI (sI (sI (sI (sI (sL (sL (sL (sL (sA (sA (sA (sA (sA (sA (sA (sA (sA (sA (sA (sA (sA (sA (sA (sA (sA (sA (sA (sA (sA (sA S 18 f1) 19 f2) 20 f3) 21 f4) 22 f5) 23 f6) 24 f7) 25 f8) 26 f9) 27 f10) 28 f11) 32 f12) 33 f13) 34 f14) 35 f15) 39 f16) 40 f17) 43 f18) 44 f19) 45 f20) 46 f21) 47 f22) 36 f23) 38 f24) 48 f25) 49 f26) 1099 v27) 1862 v28) 1863 v29) 1864 v30) 1865 v31) 1922 v32) 1923 v33) 1924 v34) 1925 v35) 1926 v36) 1927 v37) 1928 v38) 1989 v39) 2370 v40) 2371 v41) 2626 v42) 2627 v43) 2628 v44) ++ xo K ad (sI (sI (sI (sI (sI (sI (sI (sI (sI (sI (sI (sI (sI (sI (sI (sI (sI (sI (sL (sL (sL (sL (sA (sA (sA (sA (sA (sA (sA (sA (sA (sA (sA (sA (sA (sA (sA (sA (sA (sA (sA (sA (sA (sA S 18 f1) 19 f2) 20 f3) 21 f4) 22 f5) 23 f6) 24 f7) 25 f8) 26 f9) 27 f10) 28 f11) 32 f12) 33 f13) 34 f14) 35 f15) 39 f16) 40 f17) 43 f18) 44 f19) 45 f20) 46 f21) 47 f22) 36 f23) 38 f24) 48 f25) 49 f26) 1099 v27) 1862 v28) 1863 v29) 1864 v30) 1865 v31) 1922 v32) 1923 v33) 1924 v34) 1925 v35) 1926 v36) 1927 v37) 1928 v38) 1989 v39) 2370 v40) 2371 v41) 2626 v42) 2627 v43) 2628 v44) [])) s H locs := w
  have w := lw_toC w
  refine lv_istore (lv' := [(6, .int r83), (5, .int r45), (0, .ref b), (1, .ref (ad 0)), (2, .ref (bd 0)), (3, .ref (ad 49)), (4, .int x4)]) hx hb d_law_713 hl (by decide) rfl (fun ls hl => ?_)
  refine lv_aload_n hx hb d_law_715 rfl (lv_at hl 4 rfl) ?_
  have wm := lw_toM w
  refine kd_i (kr_V (y := y_Mo_thrown) (C1 := R_Mo) (T := F_Mo) (N := 43) (ci := 10) (q0 := 0) (As := []) (n := 0) C wm (c_Mo_thrown l n0 G K bd (wC K ad (sI (sI (sI (sI (sI (sI (sI (sI (sI (sI (sI (sI (sI (sI (sI (sI (sI (sI (sL (sL (sL (sL (sA (sA (sA (sA (sA (sA (sA (sA (sA (sA (sA (sA (sA (sA (sA (sA (sA (sA (sA (sA (sA (sA S 18 f1) 19 f2) 20 f3) 21 f4) 22 f5) 23 f6) 24 f7) 25 f8) 26 f9) 27 f10) 28 f11) 32 f12) 33 f13) 34 f14) 35 f15) 39 f16) 40 f17) 43 f18) 44 f19) 45 f20) 46 f21) 47 f22) 36 f23) 38 f24) 48 f25) 49 f26) 1099 v27) 1862 v28) 1863 v29) 1864 v30) 1865 v31) 1922 v32) 1923 v33) 1924 v34) 1925 v35) 1926 v36) 1927 v37) 1928 v38) 1989 v39) 2370 v40) 2371 v41) 2626 v42) 2627 v43) 2628 v44) ++ xo K ad (sI (sI (sI (sI (sI (sI (sI (sI (sI (sI (sI (sI (sI (sI (sI (sI (sI (sI (sL (sL (sL (sL (sA (sA (sA (sA (sA (sA (sA (sA (sA (sA (sA (sA (sA (sA (sA (sA (sA (sA (sA (sA (sA (sA S 18 f1) 19 f2) 20 f3) 21 f4) 22 f5) 23 f6) 24 f7) 25 f8) 26 f9) 27 f10) 28 f11) 32 f12) 33 f13) 34 f14) 35 f15) 39 f16) 40 f17) 43 f18) 44 f19) 45 f20) 46 f21) 47 f22) 36 f23) 38 f24) 48 f25) 49 f26) 1099 v27) 1862 v28) 1863 v29) 1864 v30) 1865 v31) 1922 v32) 1923 v33) 1924 v34) 1925 v35) 1926 v36) 1927 v37) 1928 v38) 1989 v39) 2370 v40) 2371 v41) 2626 v42) 2627 v43) 2628 v44) []) (sI (sI (sI (sI (sI (sI (sI (sI (sI (sI (sI (sI (sI (sI (sI (sI (sL (sL (sA (sA (sA (sA (sA (sA (sA (sA (sA (sA (sA (sA (sA (sA (sA (sA (sA (sA (sA T 1 f46) 2 f47) 3 f48) 4 f49) 5 f50) 6 f51) 7 f52) 8 f53) 15 f54) 16 f55) 17 f56) 19 f57) 20 f58) 21 f59) 22 f60) 23 f61) 24 f62) 25 f63) 26 f64) 18 f65) 27 f66) 0 v67) 1 v68) 16 v69) 17 v70) 18 v71) 19 v72) 20 v73) 27 v74) 28 v75) 30 v76) 31 v77) 32 v78) 33 v79) 34 v80) 35 v81) 36 v82)  _ hw) (gw_V kw_1007 kw_1008 kw_1009 kw_11 kw_1010) (by decide +kernel) rfl rfl ⟨Nat.le_of_ble_eq_true rfl, Nat.le_of_ble_eq_true rfl⟩ rfl rfl rfl hl.1 rfl (Nat.le_of_ble_eq_true rfl) d_law_716 ⟨by show _ ≤ 601024; omega, by show _ ≤ 7293034; omega⟩) (fun r84 hw => ?_)
  refine lv_iload hx hb d_law_719 (lv_at hl 1 rfl) ?_
  refine lv_icmp_eq (tgt := 726) hx hb d_law_721 (by decide) (fun hc => ?_) (fun hc => ?_)
  · have hw := hw.1 hc
    refine lv_iload hx hb d_law_726 (lv_at hl 1 rfl) ?_
    refine lv_if_ne (tgt := 743) hx hb d_law_728 (by decide) (fun hc => ?_) (fun hc => ?_)
    · have hw := hw.1 hc
      refine lv_goto (tgt := 895) hx hb d_law_743 (by decide) ?_
      obtain ⟨v85, ev85⟩ : ∃ y : Int32, y = x4 + 6 := ⟨_, rfl⟩
      refine lv_iinc (v := v85) (lv' := [(4, .int v85), (6, .int r83), (5, .int r45), (0, .ref b), (1, .ref (ad 0)), (2, .ref (bd 0)), (3, .ref (ad 49))]) hx hb d_law_895 hl (k := 6) rfl (by rw [ev85]; rfl) (by decide) rfl (fun ls hl => ?_)
      have hw := hw v85 ev85
      refine lv_goto (tgt := 23) hx hb d_law_898 (by decide) ?_
      refine W.widen (k := cc + 6) (n := dd + 36) (by omega) (by omega) ?_
      exact hk (sI (sI (sI (sI (sI (sI (sI (sI (sI (sI (sI (sI (sI (sI (sI (sI (sI (sI (sL (sL (sL (sL (sA (sA (sA (sA (sA (sA (sA (sA (sA (sA (sA (sA (sA (sA (sA (sA (sA (sA (sA (sA (sA (sA S 18 f1) 19 f2) 20 f3) 21 f4) 22 f5) 23 f6) 24 f7) 25 f8) 26 f9) 27 f10) 28 f11) 32 f12) 33 f13) 34 f14) 35 f15) 39 f16) 40 f17) 43 f18) 44 f19) 45 f20) 46 f21) 47 f22) 36 f23) 38 f24) 48 f25) 49 f26) 1099 v27) 1862 v28) 1863 v29) 1864 v30) 1865 v31) 1922 v32) 1923 v33) 1924 v34) 1925 v35) 1926 v36) 1927 v37) 1928 v38) 1989 v39) 2370 v40) 2371 v41) 2626 v42) 2627 v43) 2628 v44) (sI (sI (sI (sI (sI (sI (sI (sI (sI (sI (sI (sI (sI (sI (sI (sI (sL (sL (sA (sA (sA (sA (sA (sA (sA (sA (sA (sA (sA (sA (sA (sA (sA (sA (sA (sA (sA T 1 f46) 2 f47) 3 f48) 4 f49) 5 f50) 6 f51) 7 f52) 8 f53) 15 f54) 16 f55) 17 f56) 19 f57) 20 f58) 21 f59) 22 f60) 23 f61) 24 f62) 25 f63) 26 f64) 18 f65) 27 f66) 0 v67) 1 v68) 16 v69) 17 v70) 18 v71) 19 v72) 20 v73) 27 v74) 28 v75) 30 v76) 31 v77) 32 v78) 33 v79) 34 v80) 35 v81) 36 v82) v85 hw _ _ _ (wn_eq w rfl) (lv_sub hl [3, 4, 5, 6, 0] rfl)
    · have hw := hw.2 hc
      refine lv_aload_n hx hb d_law_731 rfl (lv_at hl 5 rfl) ?_
      refine lv_iconst (v := 0) hx hb d_law_732 (by decide) ?_
      refine ka_l (f := f26) C w 49 rfl (vp_in_nI (n := 0) (N := 1) (by decide) (by decide)) d_law_733 ?_
      refine lv_iload hx hb d_law_734 (lv_at hl 0 rfl) ?_
      refine lv_i2l hx hb d_law_736 rfl ?_
      refine W.lcmp hx hb d_law_737 ?_
      refine lv_if_eq (tgt := 743) hx hb d_law_738 (by decide) (fun hc => ?_) (fun hc => ?_)
      · have hw := hw.1 hc
        refine lv_goto (tgt := 895) hx hb d_law_743 (by decide) ?_
        obtain ⟨v86, ev86⟩ : ∃ y : Int32, y = x4 + 6 := ⟨_, rfl⟩
        refine lv_iinc (v := v86) (lv' := [(4, .int v86), (6, .int r83), (5, .int r45), (0, .ref b), (1, .ref (ad 0)), (2, .ref (bd 0)), (3, .ref (ad 49))]) hx hb d_law_895 hl (k := 6) rfl (by rw [ev86]; rfl) (by decide) rfl (fun ls hl => ?_)
        have hw := hw v86 ev86
        refine lv_goto (tgt := 23) hx hb d_law_898 (by decide) ?_
        refine W.widen (k := cc + 6) (n := dd + 36) (by omega) (by omega) ?_
        exact hk (sI (sI (sI (sI (sI (sI (sI (sI (sI (sI (sI (sI (sI (sI (sI (sI (sI (sI (sL (sL (sL (sL (sA (sA (sA (sA (sA (sA (sA (sA (sA (sA (sA (sA (sA (sA (sA (sA (sA (sA (sA (sA (sA (sA S 18 f1) 19 f2) 20 f3) 21 f4) 22 f5) 23 f6) 24 f7) 25 f8) 26 f9) 27 f10) 28 f11) 32 f12) 33 f13) 34 f14) 35 f15) 39 f16) 40 f17) 43 f18) 44 f19) 45 f20) 46 f21) 47 f22) 36 f23) 38 f24) 48 f25) 49 f26) 1099 v27) 1862 v28) 1863 v29) 1864 v30) 1865 v31) 1922 v32) 1923 v33) 1924 v34) 1925 v35) 1926 v36) 1927 v37) 1928 v38) 1989 v39) 2370 v40) 2371 v41) 2626 v42) 2627 v43) 2628 v44) (sI (sI (sI (sI (sI (sI (sI (sI (sI (sI (sI (sI (sI (sI (sI (sI (sL (sL (sA (sA (sA (sA (sA (sA (sA (sA (sA (sA (sA (sA (sA (sA (sA (sA (sA (sA (sA T 1 f46) 2 f47) 3 f48) 4 f49) 5 f50) 6 f51) 7 f52) 8 f53) 15 f54) 16 f55) 17 f56) 19 f57) 20 f58) 21 f59) 22 f60) 23 f61) 24 f62) 25 f63) 26 f64) 18 f65) 27 f66) 0 v67) 1 v68) 16 v69) 17 v70) 18 v71) 19 v72) 20 v73) 27 v74) 28 v75) 30 v76) 31 v77) 32 v78) 33 v79) 34 v80) 35 v81) 36 v82) v86 hw _ _ _ (wn_eq w rfl) (lv_sub hl [3, 4, 5, 6, 0] rfl)
      · have hw := hw.2 hc
        refine lv_iconst (v := 0) hx hb d_law_741 (by decide) ?_
        exact hw.elim
  · have hw := hw.2 hc
    refine lv_iconst (v := 0) hx hb d_law_724 (by decide) ?_
    exact hw.elim
set_option maxHeartbeats 8000000 in
set_option maxRecDepth 100000 in
theorem w_law_746 (C : cx p s m #[Value.ref b] meth c code 8 "LineBreakerLaw" n0 G K) (hr : meth.sig.returnType = ret) (htr : l.stackTraces = false) (hX : va_X b L xs s s.heap) (hbl : b < n0) {cc dd : Nat} (hc9 : cc + 6 ≤ 601024) (hd9 : dd + 36 ≤ 7293034) {Kh : ST → ST → Int32 → Prop} (hk : ∀ (S T : ST) (x4 : Int32), Kh S T x4 → ∀ (H : Heap) (locs : List Loc) (ls : Array Slot), wn n0 G (wC K ad S ++ xo K ad S (wM K bd T)) s H locs → lv_has ls 8 [(0, .ref b), (1, .ref (ad 0)), (2, .ref (bd 0)), (3, .ref (ad 49)), (4, .int x4)] → W p l e room_1 s m #[Value.ref b] below meth c H locs (cc + 6) (dd + 36) (lw_Z below #[Value.ref b] s) (F0 m 23 ls [])) : ∀ (S T : ST) (x4 : Int32), wl_law_746 L xs Kh S T x4 → ∀ (H : Heap) (locs : List Loc) (ls : Array Slot), wn n0 G (wC K ad S ++ xo K ad S (wM K bd T)) s H locs → lv_has ls 8 [(0, .ref b), (1, .ref (ad 0)), (2, .ref (bd 0)), (3, .ref (ad 49)), (4, .int x4)] → W p l e room_1 s m #[Value.ref b] below meth c H locs cc dd (lw_Z below #[Value.ref b] s) (F0 m 746 ls []) := by
  have hx := C.1
  have hb := C.2.1
  have hts := C.2.2.2.2.1
  have hn0 := C.2.2.2.2.2.2.2.1
  have hbA : ¬ al n0 b := Nat.not_le.mpr hbl
  have hbl := Nat.lt_of_lt_of_le hbl hn0
  intro S T x4 hw H locs ls w hl
  unfold wl_law_746 at hw
  refine lv_aload_n hx hb d_law_746 rfl (lv_at hl 1 rfl) ?_
  refine kd_i (kr_V (y := y_Lb_pass) (C1 := R_Lb) (T := F_Lb) (N := 5) (ci := 9) (q0 := 0) (As := []) (n := 0) C w (c_Lb_pass l n0 G K ad (xo K ad S (wM K bd T)) S  _ hw) (gw_V kw_384 kw_385 kw_386 kw_1 kw_387) (by decide +kernel) rfl rfl ⟨Nat.le_of_ble_eq_true rfl, Nat.le_of_ble_eq_true rfl⟩ rfl rfl rfl hl.1 rfl (Nat.le_of_ble_eq_true rfl) d_law_747 ⟨by show _ ≤ 601024; omega, by show _ ≤ 7293034; omega⟩) (fun r1 hw => ?_)
  refine lv_aload_n hx hb d_law_750 rfl (lv_at hl 2 rfl) ?_
  have wm := lw_toM w
  refine kc_i (st := fun (u : Int32) => wM K bd (sI T 0 u) ++ (wC K ad S ++ xo K ad S [])) wm (kr_V (y := y_Mo_pass) (C1 := R_Mo) (T := F_Mo) (N := 43) (ci := 10) (q0 := 0) (As := []) (n := 0) C wm (c_Mo_pass l n0 G K bd (wC K ad S ++ xo K ad S []) T  _ hw) (gw_V kw_1177 kw_1178 kw_1179 kw_11 kw_1180) (by decide +kernel) rfl rfl ⟨Nat.le_of_ble_eq_true rfl, Nat.le_of_ble_eq_true rfl⟩ rfl rfl rfl hl.1 rfl (Nat.le_of_ble_eq_true rfl) d_law_751 ⟨by show _ ≤ 601024; omega, by show _ ≤ 7293034; omega⟩) (fun r3 u H locs hw w => ?_)
  obtain ⟨v2, rfl⟩ : ∃ z, z = u := ⟨_, rfl⟩
  have w : wn n0 G (wM K bd (sI T 0 v2) ++ (wC K ad S ++ xo K ad S [])) s H locs := w
  have w := lw_toC w
  refine lv_icmp_eq (tgt := 895) hx hb d_law_754 (by decide) (fun hc => ?_) (fun hc => ?_)
  · have hw := hw.1 hc
    obtain ⟨v4, ev4⟩ : ∃ y : Int32, y = x4 + 6 := ⟨_, rfl⟩
    refine lv_iinc (v := v4) (lv' := [(4, .int v4), (0, .ref b), (1, .ref (ad 0)), (2, .ref (bd 0)), (3, .ref (ad 49))]) hx hb d_law_895 hl (k := 4) rfl (by rw [ev4]; rfl) (by decide) rfl (fun ls hl => ?_)
    have hw := hw v4 ev4
    refine lv_goto (tgt := 23) hx hb d_law_898 (by decide) ?_
    refine W.widen (k := cc + 6) (n := dd + 36) (by omega) (by omega) ?_
    exact hk S (sI T 0 v2) v4 hw _ _ _ (wn_eq w rfl) (lv_sub hl [1, 2, 3, 4, 0] rfl)
  · have hw := hw.2 hc
    refine lv_iconst (v := 0) hx hb d_law_757 (by decide) ?_
    exact hw.elim
set_option maxHeartbeats 8000000 in
set_option maxRecDepth 100000 in
theorem w_law_759 (C : cx p s m #[Value.ref b] meth c code 8 "LineBreakerLaw" n0 G K) (hr : meth.sig.returnType = ret) (htr : l.stackTraces = false) (hX : va_X b L xs s s.heap) (hbl : b < n0) {cc dd : Nat} (hc9 : cc + 6 ≤ 601024) (hd9 : dd + 36 ≤ 7293034) {Kh : ST → ST → Int32 → Prop} (hk : ∀ (S T : ST) (x4 : Int32), Kh S T x4 → ∀ (H : Heap) (locs : List Loc) (ls : Array Slot), wn n0 G (wC K ad S ++ xo K ad S (wM K bd T)) s H locs → lv_has ls 8 [(0, .ref b), (1, .ref (ad 0)), (2, .ref (bd 0)), (3, .ref (ad 49)), (4, .int x4)] → W p l e room_1 s m #[Value.ref b] below meth c H locs (cc + 6) (dd + 36) (lw_Z below #[Value.ref b] s) (F0 m 23 ls [])) : ∀ (S T : ST) (x4 : Int32), wl_law_759 L xs Kh S T x4 → ∀ (H : Heap) (locs : List Loc) (ls : Array Slot), wn n0 G (wC K ad S ++ xo K ad S (wM K bd T)) s H locs → lv_has ls 8 [(0, .ref b), (1, .ref (ad 0)), (2, .ref (bd 0)), (3, .ref (ad 49)), (4, .int x4)] → W p l e room_1 s m #[Value.ref b] below meth c H locs cc dd (lw_Z below #[Value.ref b] s) (F0 m 759 ls []) := by
  have hx := C.1
  have hb := C.2.1
  have hts := C.2.2.2.2.1
  have hn0 := C.2.2.2.2.2.2.2.1
  have hbA : ¬ al n0 b := Nat.not_le.mpr hbl
  have hbl := Nat.lt_of_lt_of_le hbl hn0
  intro S T x4 hw H locs ls w hl
  unfold wl_law_759 at hw
  refine lv_aload_n hx hb d_law_759 rfl (lv_at hl 1 rfl) ?_
  refine kd_i (kr_V (y := y_Lb_nodes) (C1 := R_Lb) (T := F_Lb) (N := 5) (ci := 9) (q0 := 0) (As := []) (n := 0) C w (c_Lb_nodes l n0 G K ad (xo K ad S (wM K bd T)) S  _ hw) (gw_V kw_388 kw_389 kw_390 kw_1 kw_391) (by decide +kernel) rfl rfl ⟨Nat.le_of_ble_eq_true rfl, Nat.le_of_ble_eq_true rfl⟩ rfl rfl rfl hl.1 rfl (Nat.le_of_ble_eq_true rfl) d_law_760 ⟨by show _ ≤ 601024; omega, by show _ ≤ 7293034; omega⟩) (fun r1 hw => ?_)
  refine lv_aload_n hx hb d_law_763 rfl (lv_at hl 2 rfl) ?_
  have wm := lw_toM w
  refine kc_i (st := fun (u : Int32) => wM K bd (sI T 0 u) ++ (wC K ad S ++ xo K ad S [])) wm (kr_V (y := y_Mo_nodes) (C1 := R_Mo) (T := F_Mo) (N := 43) (ci := 10) (q0 := 0) (As := []) (n := 0) C wm (c_Mo_nodes l n0 G K bd (wC K ad S ++ xo K ad S []) T  _ hw) (gw_V kw_1181 kw_1182 kw_1183 kw_11 kw_1184) (by decide +kernel) rfl rfl ⟨Nat.le_of_ble_eq_true rfl, Nat.le_of_ble_eq_true rfl⟩ rfl rfl rfl hl.1 rfl (Nat.le_of_ble_eq_true rfl) d_law_764 ⟨by show _ ≤ 601024; omega, by show _ ≤ 7293034; omega⟩) (fun r3 u H locs hw w => ?_)
  obtain ⟨v2, rfl⟩ : ∃ z, z = u := ⟨_, rfl⟩
  have w : wn n0 G (wM K bd (sI T 0 v2) ++ (wC K ad S ++ xo K ad S [])) s H locs := w
  have w := lw_toC w
  refine lv_icmp_eq (tgt := 895) hx hb d_law_767 (by decide) (fun hc => ?_) (fun hc => ?_)
  · have hw := hw.1 hc
    obtain ⟨v4, ev4⟩ : ∃ y : Int32, y = x4 + 6 := ⟨_, rfl⟩
    refine lv_iinc (v := v4) (lv' := [(4, .int v4), (0, .ref b), (1, .ref (ad 0)), (2, .ref (bd 0)), (3, .ref (ad 49))]) hx hb d_law_895 hl (k := 4) rfl (by rw [ev4]; rfl) (by decide) rfl (fun ls hl => ?_)
    have hw := hw v4 ev4
    refine lv_goto (tgt := 23) hx hb d_law_898 (by decide) ?_
    refine W.widen (k := cc + 6) (n := dd + 36) (by omega) (by omega) ?_
    exact hk S (sI T 0 v2) v4 hw _ _ _ (wn_eq w rfl) (lv_sub hl [1, 2, 3, 4, 0] rfl)
  · have hw := hw.2 hc
    refine lv_iconst (v := 0) hx hb d_law_770 (by decide) ?_
    exact hw.elim
set_option maxHeartbeats 8000000 in
set_option maxRecDepth 100000 in
theorem w_law_772 (C : cx p s m #[Value.ref b] meth c code 8 "LineBreakerLaw" n0 G K) (hr : meth.sig.returnType = ret) (htr : l.stackTraces = false) (hX : va_X b L xs s s.heap) (hbl : b < n0) {cc dd : Nat} (hc9 : cc + 6 ≤ 601024) (hd9 : dd + 36 ≤ 7293034) {Kh : ST → ST → Int32 → Prop} (hk : ∀ (S T : ST) (x4 : Int32), Kh S T x4 → ∀ (H : Heap) (locs : List Loc) (ls : Array Slot), wn n0 G (wC K ad S ++ xo K ad S (wM K bd T)) s H locs → lv_has ls 8 [(0, .ref b), (1, .ref (ad 0)), (2, .ref (bd 0)), (3, .ref (ad 49)), (4, .int x4)] → W p l e room_1 s m #[Value.ref b] below meth c H locs (cc + 6) (dd + 36) (lw_Z below #[Value.ref b] s) (F0 m 23 ls [])) : ∀ (S T : ST) (x4 : Int32), wl_law_772 L xs Kh S T x4 → ∀ (H : Heap) (locs : List Loc) (ls : Array Slot), wn n0 G (wC K ad S ++ xo K ad S (wM K bd T)) s H locs → lv_has ls 8 [(0, .ref b), (1, .ref (ad 0)), (2, .ref (bd 0)), (3, .ref (ad 49)), (4, .int x4)] → W p l e room_1 s m #[Value.ref b] below meth c H locs cc dd (lw_Z below #[Value.ref b] s) (F0 m 772 ls []) := by
  have hx := C.1
  have hb := C.2.1
  have hts := C.2.2.2.2.1
  have hn0 := C.2.2.2.2.2.2.2.1
  have hbA : ¬ al n0 b := Nat.not_le.mpr hbl
  have hbl := Nat.lt_of_lt_of_le hbl hn0
  intro S T x4 hw H locs ls w hl
  unfold wl_law_772 at hw
  refine lv_aload_n hx hb d_law_772 rfl (lv_at hl 1 rfl) ?_
  refine lv_aload_n hx hb d_law_773 rfl (lv_at hl 0 rfl) ?_
  refine lv_iload hx hb d_law_774 (lv_at hl 4 rfl) ?_
  refine lv_iconst (v := 1) hx hb d_law_776 (by decide) ?_
  refine lv_iadd hx hb d_law_777 ?_
  refine va_sld hx hb hX hbl hbA w.2.2 hw.1 d_law_778 ?_
  have hw := hw.2
  refine lv_aload_n hx hb d_law_779 rfl (lv_at hl 0 rfl) ?_
  refine lv_iload hx hb d_law_780 (lv_at hl 4 rfl) ?_
  refine lv_iconst (v := 2) hx hb d_law_782 (by decide) ?_
  refine lv_iadd hx hb d_law_783 ?_
  refine va_sld hx hb hX hbl hbA w.2.2 hw.1 d_law_784 ?_
  have hw := hw.2
  refine lv_aload_n hx hb d_law_785 rfl (lv_at hl 3 rfl) ?_
  refine kc_i (st := fun (u : (Nat → Int64)) => wC K ad (sL S 49 u) ++ xo K ad (sL S 49 u) (wM K bd T)) w (kr_W (y := y_La_line) (As := [.ref (ad 0), .int (xs (x4 + 1).toNatClampNeg), .int (xs (x4 + 2).toNatClampNeg), .ref (ad 49)]) (n := 4) C w (c_La_line l htr n0 G K ad (wM K bd T) S (xs (x4 + 1).toNatClampNeg) (xs (x4 + 2).toNatClampNeg) _ hw) kw_834 kw_835 kw_0 kw_836 (by decide +kernel) rfl rfl ⟨Nat.le_of_ble_eq_true rfl, Nat.le_of_ble_eq_true rfl⟩ rfl hl.1 rfl (Nat.le_of_ble_eq_true rfl) d_law_786 ⟨by show _ ≤ 601024; omega, by show _ ≤ 7293034; omega⟩) (fun r2 u H locs hw w => ?_)
  obtain ⟨f1, rfl⟩ : ∃ z, z = u := ⟨_, rfl⟩
  have w : wn n0 G (wC K ad (sL S 49 f1) ++ xo K ad (sL S 49 f1) (wM K bd T)) s H locs := w
  refine lv_istore (lv' := [(5, .int r2), (0, .ref b), (1, .ref (ad 0)), (2, .ref (bd 0)), (3, .ref (ad 49)), (4, .int x4)]) hx hb d_law_789 hl (by decide) rfl (fun ls hl => ?_)
  refine lv_aload_n hx hb d_law_791 rfl (lv_at hl 3 rfl) ?_
  refine lv_aload_n hx hb d_law_792 rfl (lv_at hl 1 rfl) ?_
  refine lv_iload hx hb d_law_793 (lv_at hl 5 rfl) ?_
  refine lv_iconst (v := 1) hx hb d_law_795 (by decide) ?_
  refine lv_iadd hx hb d_law_796 ?_
  refine va_sld hx hb hX hbl hbA w.2.2 hw.1 d_law_797 ?_
  have hw := hw.2
  refine lv_aload_n hx hb d_law_798 rfl (lv_at hl 1 rfl) ?_
  refine lv_iload hx hb d_law_799 (lv_at hl 5 rfl) ?_
  refine lv_iconst (v := 2) hx hb d_law_801 (by decide) ?_
  refine lv_iadd hx hb d_law_802 ?_
  refine va_sld hx hb hX hbl hbA w.2.2 hw.1 d_law_803 ?_
  have hw := hw.2
  have wm := lw_toM w
  refine kc_i (st := fun (u : Int32) => wM K bd (sI T 0 u) ++ (wC K ad (sL S 49 f1) ++ xo K ad (sL S 49 f1) [])) wm (kr_V (y := y_Mo_line) (C1 := R_Mo) (T := F_Mo) (N := 43) (ci := 10) (q0 := 0) (As := [.int (xs (x4 + 1).toNatClampNeg), .int (xs (x4 + 2).toNatClampNeg)]) (n := 2) C wm (c_Mo_line l n0 G K bd (wC K ad (sL S 49 f1) ++ xo K ad (sL S 49 f1) []) T (xs (x4 + 1).toNatClampNeg) (xs (x4 + 2).toNatClampNeg) _ hw) (gw_V kw_1185 kw_1186 kw_1187 kw_11 kw_1188) (by decide +kernel) rfl rfl ⟨Nat.le_of_ble_eq_true rfl, Nat.le_of_ble_eq_true rfl⟩ rfl rfl rfl hl.1 rfl (Nat.le_of_ble_eq_true rfl) d_law_804 ⟨by show _ ≤ 601024; omega, by show _ ≤ 7293034; omega⟩) (fun r4 u H locs hw w => ?_)
  obtain ⟨v3, rfl⟩ : ∃ z, z = u := ⟨_, rfl⟩
  have w : wn n0 G (wM K bd (sI T 0 v3) ++ (wC K ad (sL S 49 f1) ++ xo K ad (sL S 49 f1) [])) s H locs := w
  have w := lw_toC w
  refine lv_istore (lv' := [(6, .int r4), (5, .int r2), (0, .ref b), (1, .ref (ad 0)), (2, .ref (bd 0)), (3, .ref (ad 49)), (4, .int x4)]) hx hb d_law_807 hl (by decide) rfl (fun ls hl => ?_)
  refine lv_aload_n hx hb d_law_809 rfl (lv_at hl 4 rfl) ?_
  have wm := lw_toM w
  refine kd_i (kr_V (y := y_Mo_thrown) (C1 := R_Mo) (T := F_Mo) (N := 43) (ci := 10) (q0 := 0) (As := []) (n := 0) C wm (c_Mo_thrown l n0 G K bd (wC K ad (sL S 49 f1) ++ xo K ad (sL S 49 f1) []) (sI T 0 v3)  _ hw) (gw_V kw_1007 kw_1008 kw_1009 kw_11 kw_1010) (by decide +kernel) rfl rfl ⟨Nat.le_of_ble_eq_true rfl, Nat.le_of_ble_eq_true rfl⟩ rfl rfl rfl hl.1 rfl (Nat.le_of_ble_eq_true rfl) d_law_810 ⟨by show _ ≤ 601024; omega, by show _ ≤ 7293034; omega⟩) (fun r5 hw => ?_)
  refine lv_iload hx hb d_law_813 (lv_at hl 1 rfl) ?_
  refine lv_icmp_eq (tgt := 820) hx hb d_law_815 (by decide) (fun hc => ?_) (fun hc => ?_)
  · have hw := hw.1 hc
    refine lv_iload hx hb d_law_820 (lv_at hl 1 rfl) ?_
    refine lv_if_ne (tgt := 837) hx hb d_law_822 (by decide) (fun hc => ?_) (fun hc => ?_)
    · have hw := hw.1 hc
      refine lv_goto (tgt := 895) hx hb d_law_837 (by decide) ?_
      obtain ⟨v6, ev6⟩ : ∃ y : Int32, y = x4 + 6 := ⟨_, rfl⟩
      refine lv_iinc (v := v6) (lv' := [(4, .int v6), (6, .int r4), (5, .int r2), (0, .ref b), (1, .ref (ad 0)), (2, .ref (bd 0)), (3, .ref (ad 49))]) hx hb d_law_895 hl (k := 6) rfl (by rw [ev6]; rfl) (by decide) rfl (fun ls hl => ?_)
      have hw := hw v6 ev6
      refine lv_goto (tgt := 23) hx hb d_law_898 (by decide) ?_
      refine W.widen (k := cc + 6) (n := dd + 36) (by omega) (by omega) ?_
      exact hk (sL S 49 f1) (sI T 0 v3) v6 hw _ _ _ (wn_eq w rfl) (lv_sub hl [3, 4, 5, 6, 0] rfl)
    · have hw := hw.2 hc
      refine lv_aload_n hx hb d_law_825 rfl (lv_at hl 5 rfl) ?_
      refine lv_iconst (v := 0) hx hb d_law_826 (by decide) ?_
      refine ka_l (f := f1) C w 49 rfl (vp_in_nI (n := 0) (N := 1) (by decide) (by decide)) d_law_827 ?_
      refine lv_iload hx hb d_law_828 (lv_at hl 0 rfl) ?_
      refine lv_i2l hx hb d_law_830 rfl ?_
      refine W.lcmp hx hb d_law_831 ?_
      refine lv_if_eq (tgt := 837) hx hb d_law_832 (by decide) (fun hc => ?_) (fun hc => ?_)
      · have hw := hw.1 hc
        refine lv_goto (tgt := 895) hx hb d_law_837 (by decide) ?_
        obtain ⟨v7, ev7⟩ : ∃ y : Int32, y = x4 + 6 := ⟨_, rfl⟩
        refine lv_iinc (v := v7) (lv' := [(4, .int v7), (6, .int r4), (5, .int r2), (0, .ref b), (1, .ref (ad 0)), (2, .ref (bd 0)), (3, .ref (ad 49))]) hx hb d_law_895 hl (k := 6) rfl (by rw [ev7]; rfl) (by decide) rfl (fun ls hl => ?_)
        have hw := hw v7 ev7
        refine lv_goto (tgt := 23) hx hb d_law_898 (by decide) ?_
        refine W.widen (k := cc + 6) (n := dd + 36) (by omega) (by omega) ?_
        exact hk (sL S 49 f1) (sI T 0 v3) v7 hw _ _ _ (wn_eq w rfl) (lv_sub hl [3, 4, 5, 6, 0] rfl)
      · have hw := hw.2 hc
        refine lv_iconst (v := 0) hx hb d_law_835 (by decide) ?_
        exact hw.elim
  · have hw := hw.2 hc
    refine lv_iconst (v := 0) hx hb d_law_818 (by decide) ?_
    exact hw.elim
set_option maxHeartbeats 8000000 in
set_option maxRecDepth 100000 in
theorem w_law_840 (C : cx p s m #[Value.ref b] meth c code 8 "LineBreakerLaw" n0 G K) (hr : meth.sig.returnType = ret) (htr : l.stackTraces = false) (hX : va_X b L xs s s.heap) (hbl : b < n0) {cc dd : Nat} (hc9 : cc + 6 ≤ 601024) (hd9 : dd + 36 ≤ 7293034) {Kh : ST → ST → Int32 → Prop} (hk : ∀ (S T : ST) (x4 : Int32), Kh S T x4 → ∀ (H : Heap) (locs : List Loc) (ls : Array Slot), wn n0 G (wC K ad S ++ xo K ad S (wM K bd T)) s H locs → lv_has ls 8 [(0, .ref b), (1, .ref (ad 0)), (2, .ref (bd 0)), (3, .ref (ad 49)), (4, .int x4)] → W p l e room_1 s m #[Value.ref b] below meth c H locs (cc + 6) (dd + 36) (lw_Z below #[Value.ref b] s) (F0 m 23 ls [])) : ∀ (S T : ST) (x4 : Int32), wl_law_840 L xs Kh S T x4 → ∀ (H : Heap) (locs : List Loc) (ls : Array Slot), wn n0 G (wC K ad S ++ xo K ad S (wM K bd T)) s H locs → lv_has ls 8 [(0, .ref b), (1, .ref (ad 0)), (2, .ref (bd 0)), (3, .ref (ad 49)), (4, .int x4)] → W p l e room_1 s m #[Value.ref b] below meth c H locs cc dd (lw_Z below #[Value.ref b] s) (F0 m 840 ls []) := by
  have hx := C.1
  have hb := C.2.1
  have hts := C.2.2.2.2.1
  have hn0 := C.2.2.2.2.2.2.2.1
  have hbA : ¬ al n0 b := Nat.not_le.mpr hbl
  have hbl := Nat.lt_of_lt_of_le hbl hn0
  intro S T x4 hw H locs ls w hl
  unfold wl_law_840 at hw
  refine lv_aload_n hx hb d_law_840 rfl (lv_at hl 1 rfl) ?_
  refine lv_aload_n hx hb d_law_841 rfl (lv_at hl 0 rfl) ?_
  refine lv_iload hx hb d_law_842 (lv_at hl 4 rfl) ?_
  refine lv_iconst (v := 1) hx hb d_law_844 (by decide) ?_
  refine lv_iadd hx hb d_law_845 ?_
  refine va_sld hx hb hX hbl hbA w.2.2 hw.1 d_law_846 ?_
  have hw := hw.2
  refine lv_aload_n hx hb d_law_847 rfl (lv_at hl 3 rfl) ?_
  refine kc_i (st := fun (u : (Nat → Int64)) => wC K ad (sL S 49 u) ++ xo K ad (sL S 49 u) (wM K bd T)) w (kr_W (y := y_La_total) (As := [.ref (ad 0), .int (xs (x4 + 1).toNatClampNeg), .ref (ad 49)]) (n := 3) C w (c_La_total l htr n0 G K ad (wM K bd T) S (xs (x4 + 1).toNatClampNeg) _ hw) kw_863 kw_864 kw_0 kw_865 (by decide +kernel) rfl rfl ⟨Nat.le_of_ble_eq_true rfl, Nat.le_of_ble_eq_true rfl⟩ rfl hl.1 rfl (Nat.le_of_ble_eq_true rfl) d_law_848 ⟨by show _ ≤ 601024; omega, by show _ ≤ 7293034; omega⟩) (fun r2 u H locs hw w => ?_)
  obtain ⟨f1, rfl⟩ : ∃ z, z = u := ⟨_, rfl⟩
  have w : wn n0 G (wC K ad (sL S 49 f1) ++ xo K ad (sL S 49 f1) (wM K bd T)) s H locs := w
  refine lv_istore (lv' := [(5, .int r2), (0, .ref b), (1, .ref (ad 0)), (2, .ref (bd 0)), (3, .ref (ad 49)), (4, .int x4)]) hx hb d_law_851 hl (by decide) rfl (fun ls hl => ?_)
  refine lv_aload_n hx hb d_law_853 rfl (lv_at hl 3 rfl) ?_
  refine lv_aload_n hx hb d_law_854 rfl (lv_at hl 1 rfl) ?_
  refine lv_iload hx hb d_law_855 (lv_at hl 5 rfl) ?_
  refine lv_iconst (v := 1) hx hb d_law_857 (by decide) ?_
  refine lv_iadd hx hb d_law_858 ?_
  refine va_sld hx hb hX hbl hbA w.2.2 hw.1 d_law_859 ?_
  have hw := hw.2
  have wm := lw_toM w
  refine kc_l (st := fun (u : Int32) => wM K bd (sI T 0 u) ++ (wC K ad (sL S 49 f1) ++ xo K ad (sL S 49 f1) [])) wm (kr_V (y := y_Mo_total) (C1 := R_Mo) (T := F_Mo) (N := 43) (ci := 10) (q0 := 0) (As := [.int (xs (x4 + 1).toNatClampNeg)]) (n := 1) C wm (c_Mo_total l n0 G K bd (wC K ad (sL S 49 f1) ++ xo K ad (sL S 49 f1) []) T (xs (x4 + 1).toNatClampNeg) _ hw) (gw_V kw_1193 kw_1194 kw_1195 kw_11 kw_1196) (by decide +kernel) rfl rfl ⟨Nat.le_of_ble_eq_true rfl, Nat.le_of_ble_eq_true rfl⟩ rfl rfl rfl hl.1 rfl (Nat.le_of_ble_eq_true rfl) d_law_860 ⟨by show _ ≤ 601024; omega, by show _ ≤ 7293034; omega⟩) (fun r4 u H locs hw w => ?_)
  obtain ⟨v3, rfl⟩ : ∃ z, z = u := ⟨_, rfl⟩
  have w : wn n0 G (wM K bd (sI T 0 v3) ++ (wC K ad (sL S 49 f1) ++ xo K ad (sL S 49 f1) [])) s H locs := w
  have w := lw_toC w
  refine lv_lstore (lv' := [(6, .long r4), (5, .int r2), (0, .ref b), (1, .ref (ad 0)), (2, .ref (bd 0)), (3, .ref (ad 49)), (4, .int x4)]) hx hb d_law_863 hl (by decide) rfl (fun ls hl => ?_)
  refine lv_aload_n hx hb d_law_865 rfl (lv_at hl 4 rfl) ?_
  have wm := lw_toM w
  refine kd_i (kr_V (y := y_Mo_thrown) (C1 := R_Mo) (T := F_Mo) (N := 43) (ci := 10) (q0 := 0) (As := []) (n := 0) C wm (c_Mo_thrown l n0 G K bd (wC K ad (sL S 49 f1) ++ xo K ad (sL S 49 f1) []) (sI T 0 v3)  _ hw) (gw_V kw_1007 kw_1008 kw_1009 kw_11 kw_1010) (by decide +kernel) rfl rfl ⟨Nat.le_of_ble_eq_true rfl, Nat.le_of_ble_eq_true rfl⟩ rfl rfl rfl hl.1 rfl (Nat.le_of_ble_eq_true rfl) d_law_866 ⟨by show _ ≤ 601024; omega, by show _ ≤ 7293034; omega⟩) (fun r5 hw => ?_)
  refine lv_iload hx hb d_law_869 (lv_at hl 1 rfl) ?_
  refine lv_icmp_eq (tgt := 876) hx hb d_law_871 (by decide) (fun hc => ?_) (fun hc => ?_)
  · have hw := hw.1 hc
    refine lv_iload hx hb d_law_876 (lv_at hl 1 rfl) ?_
    refine lv_if_ne (tgt := 892) hx hb d_law_878 (by decide) (fun hc => ?_) (fun hc => ?_)
    · have hw := hw.1 hc
      refine lv_goto (tgt := 895) hx hb d_law_892 (by decide) ?_
      obtain ⟨v6, ev6⟩ : ∃ y : Int32, y = x4 + 6 := ⟨_, rfl⟩
      refine lv_iinc (v := v6) (lv' := [(4, .int v6), (6, .long r4), (5, .int r2), (0, .ref b), (1, .ref (ad 0)), (2, .ref (bd 0)), (3, .ref (ad 49))]) hx hb d_law_895 hl (k := 6) rfl (by rw [ev6]; rfl) (by decide) rfl (fun ls hl => ?_)
      have hw := hw v6 ev6
      refine lv_goto (tgt := 23) hx hb d_law_898 (by decide) ?_
      refine W.widen (k := cc + 6) (n := dd + 36) (by omega) (by omega) ?_
      exact hk (sL S 49 f1) (sI T 0 v3) v6 hw _ _ _ (wn_eq w rfl) (lv_sub hl [3, 4, 5, 6, 0] rfl)
    · have hw := hw.2 hc
      refine lv_aload_n hx hb d_law_881 rfl (lv_at hl 5 rfl) ?_
      refine lv_iconst (v := 0) hx hb d_law_882 (by decide) ?_
      refine ka_l (f := f1) C w 49 rfl (vp_in_nI (n := 0) (N := 1) (by decide) (by decide)) d_law_883 ?_
      refine lv_lload hx hb d_law_884 (lv_at hl 0 rfl) ?_
      refine W.lcmp hx hb d_law_886 ?_
      refine lv_if_eq (tgt := 892) hx hb d_law_887 (by decide) (fun hc => ?_) (fun hc => ?_)
      · have hw := hw.1 hc
        refine lv_goto (tgt := 895) hx hb d_law_892 (by decide) ?_
        obtain ⟨v7, ev7⟩ : ∃ y : Int32, y = x4 + 6 := ⟨_, rfl⟩
        refine lv_iinc (v := v7) (lv' := [(4, .int v7), (6, .long r4), (5, .int r2), (0, .ref b), (1, .ref (ad 0)), (2, .ref (bd 0)), (3, .ref (ad 49))]) hx hb d_law_895 hl (k := 6) rfl (by rw [ev7]; rfl) (by decide) rfl (fun ls hl => ?_)
        have hw := hw v7 ev7
        refine lv_goto (tgt := 23) hx hb d_law_898 (by decide) ?_
        refine W.widen (k := cc + 6) (n := dd + 36) (by omega) (by omega) ?_
        exact hk (sL S 49 f1) (sI T 0 v3) v7 hw _ _ _ (wn_eq w rfl) (lv_sub hl [3, 4, 5, 6, 0] rfl)
      · have hw := hw.2 hc
        refine lv_iconst (v := 0) hx hb d_law_890 (by decide) ?_
        exact hw.elim
  · have hw := hw.2 hc
    refine lv_iconst (v := 0) hx hb d_law_874 (by decide) ?_
    exact hw.elim
set_option maxHeartbeats 8000000 in
set_option maxRecDepth 100000 in
theorem w_law (C : cx p s m #[Value.ref b] meth c code 8 "LineBreakerLaw" n0 G K) (hr : meth.sig.returnType = ret) (htr : l.stackTraces = false) (hX : va_X b L xs s s.heap) (hbl : b < n0) (hn : n0 = s.heap.size) : ∀ (n cc dd : Nat), cc + n * 6 ≤ 601024 → dd + n * 36 ≤ 7293034 → ∀ (S T : ST) (x4 : Int32), wl_law L xs n S T x4 → ∀ (H : Heap) (locs : List Loc) (ls : Array Slot), wn n0 G (wC K ad S ++ xo K ad S (wM K bd T)) s H locs → lv_has ls 8 [(0, .ref b), (1, .ref (ad 0)), (2, .ref (bd 0)), (3, .ref (ad 49)), (4, .int x4)] → W p l e room_1 s m #[Value.ref b] below meth c H locs cc dd (lw_Z below #[Value.ref b] s) (F0 m 23 ls []) := by
  have hx := C.1
  have hb := C.2.1
  have hts := C.2.2.2.2.1
  have hn0 := C.2.2.2.2.2.2.2.1
  have hbA : ¬ al n0 b := Nat.not_le.mpr hbl
  have hbl0 := hbl
  have hbl := Nat.lt_of_lt_of_le hbl hn0
  intro n
  induction n with
  | zero =>
    intro cc dd hcc hdd S T x4 hw
    unfold wl_law at hw
    exact hw.elim
  | succ n ih =>
    intro cc dd hcc hdd S T x4 hw H locs ls w hl
    have hc9 : cc + 6 ≤ 601024 := by omega
    have hd9 : dd + 36 ≤ 7293034 := by omega
    unfold wl_law at hw
    refine lv_iload hx hb d_law_23 (lv_at hl 4 rfl) ?_
    refine lv_aload_n hx hb d_law_25 rfl (lv_at hl 0 rfl) ?_
    refine va_slen hx hb hX hbl hbA w.2.2 d_law_26 ?_
    refine lv_bipush (v := 6) hx hb d_law_27 (by decide) ?_
    refine lv_isub hx hb d_law_29 ?_
    refine lv_icmp_gt (tgt := 901) hx hb d_law_30 (by decide) (fun hc => ?_) (fun hc => ?_)
    · have hw := hw.1 hc
      refine lv_iconst (v := 1) hx hb d_law_901 (by decide) ?_
      refine va_forget (fun q hq => by have h9 := w.2.2.2.2 q hq; rw [← hn]; exact h9) ?_
      refine W.widen (k := 601024) (n := 7293034) (by omega) (by omega) ?_
      exact lw_ret hx hb hr C.2.2.2.2.2.1 d_law_902
    · have hw := hw.2 hc
      refine lv_aload_n hx hb d_law_33 rfl (lv_at hl 0 rfl) ?_
      refine lv_iload hx hb d_law_34 (lv_at hl 4 rfl) ?_
      refine va_sld hx hb hX hbl hbA w.2.2 hw.1 d_law_36 ?_
      have hw := hw.2
      refine lv_bipush (v := 15) hx hb d_law_37 (by decide) ?_
      refine lv_iand hx hb d_law_39 ?_
      refine lv_topi (fun v1 ev1 => ?_)
      have hw := hw v1 ev1
      by_cases h0 : v1 = 0
      · have hzz := hw.1 h0
        clear hw
        subst h0
        have hw := hzz
        refine lv_tableIn (tgt := 116) hx hb d_law_40 (by decide) (by decide) rfl (by decide) ?_
        exact w_law_116 C hr htr hX hbl0 (ad := ad) (bd := bd) hc9 hd9 (ih (cc + 6) (dd + 36) (by omega) (by omega)) S T x4 hw _ _ _ (wn_eq w rfl) (lv_sub hl [0, 1, 2, 3, 4] rfl)
      by_cases h1 : v1 = 1
      · have hzz := hw.2.1 h1
        clear hw
        subst h1
        have hw := hzz
        refine lv_tableIn (tgt := 172) hx hb d_law_40 (by decide) (by decide) rfl (by decide) ?_
        exact w_law_172 C hr htr hX hbl0 (ad := ad) (bd := bd) hc9 hd9 (ih (cc + 6) (dd + 36) (by omega) (by omega)) S T x4 hw _ _ _ (wn_eq w rfl) (lv_sub hl [0, 1, 2, 3, 4] rfl)
      by_cases h2 : v1 = 2
      · have hzz := hw.2.2.1 h2
        clear hw
        subst h2
        have hw := hzz
        refine lv_tableIn (tgt := 264) hx hb d_law_40 (by decide) (by decide) rfl (by decide) ?_
        exact w_law_264 C hr htr hX hbl0 (ad := ad) (bd := bd) hc9 hd9 (ih (cc + 6) (dd + 36) (by omega) (by omega)) S T x4 hw _ _ _ (wn_eq w rfl) (lv_sub hl [0, 1, 2, 3, 4] rfl)
      by_cases h3 : v1 = 3
      · have hzz := hw.2.2.2.1 h3
        clear hw
        subst h3
        have hw := hzz
        refine lv_tableIn (tgt := 348) hx hb d_law_40 (by decide) (by decide) rfl (by decide) ?_
        exact w_law_348 C hr htr hX hbl0 (ad := ad) (bd := bd) hc9 hd9 (ih (cc + 6) (dd + 36) (by omega) (by omega)) S T x4 hw _ _ _ (wn_eq w rfl) (lv_sub hl [0, 1, 2, 3, 4] rfl)
      by_cases h4 : v1 = 4
      · have hzz := hw.2.2.2.2.1 h4
        clear hw
        subst h4
        have hw := hzz
        refine lv_tableIn (tgt := 404) hx hb d_law_40 (by decide) (by decide) rfl (by decide) ?_
        exact w_law_404 C hr htr hX hbl0 (ad := ad) (bd := bd) hc9 hd9 (ih (cc + 6) (dd + 36) (by omega) (by omega)) S T x4 hw _ _ _ (wn_eq w rfl) (lv_sub hl [0, 1, 2, 3, 4] rfl)
      by_cases h5 : v1 = 5
      · have hzz := hw.2.2.2.2.2.1 h5
        clear hw
        subst h5
        have hw := hzz
        refine lv_tableIn (tgt := 484) hx hb d_law_40 (by decide) (by decide) rfl (by decide) ?_
        exact w_law_484 C hr htr hX hbl0 (ad := ad) (bd := bd) hc9 hd9 (ih (cc + 6) (dd + 36) (by omega) (by omega)) S T x4 hw _ _ _ (wn_eq w rfl) (lv_sub hl [0, 1, 2, 3, 4] rfl)
      by_cases h6 : v1 = 6
      · have hzz := hw.2.2.2.2.2.2.1 h6
        clear hw
        subst h6
        have hw := hzz
        refine lv_tableIn (tgt := 509) hx hb d_law_40 (by decide) (by decide) rfl (by decide) ?_
        exact w_law_509 C hr htr hX hbl0 (ad := ad) (bd := bd) hc9 hd9 (ih (cc + 6) (dd + 36) (by omega) (by omega)) S T x4 hw _ _ _ (wn_eq w rfl) (lv_sub hl [0, 1, 2, 3, 4] rfl)
      by_cases h7 : v1 = 7
      · have hzz := hw.2.2.2.2.2.2.2.1 h7
        clear hw
        subst h7
        have hw := hzz
        refine lv_tableIn (tgt := 522) hx hb d_law_40 (by decide) (by decide) rfl (by decide) ?_
        exact w_law_522 C hr htr hX hbl0 (ad := ad) (bd := bd) hc9 hd9 (ih (cc + 6) (dd + 36) (by omega) (by omega)) S T x4 hw _ _ _ (wn_eq w rfl) (lv_sub hl [0, 1, 2, 3, 4] rfl)
      by_cases h8 : v1 = 8
      · have hzz := hw.2.2.2.2.2.2.2.2.1 h8
        clear hw
        subst h8
        have hw := hzz
        refine lv_tableIn (tgt := 570) hx hb d_law_40 (by decide) (by decide) rfl (by decide) ?_
        exact w_law_570 C hr htr hX hbl0 (ad := ad) (bd := bd) hc9 hd9 (ih (cc + 6) (dd + 36) (by omega) (by omega)) S T x4 hw _ _ _ (wn_eq w rfl) (lv_sub hl [0, 1, 2, 3, 4] rfl)
      by_cases h9 : v1 = 9
      · have hzz := hw.2.2.2.2.2.2.2.2.2.1 h9
        clear hw
        subst h9
        have hw := hzz
        refine lv_tableIn (tgt := 618) hx hb d_law_40 (by decide) (by decide) rfl (by decide) ?_
        exact w_law_618 C hr htr hX hbl0 (ad := ad) (bd := bd) hc9 hd9 (ih (cc + 6) (dd + 36) (by omega) (by omega)) S T x4 hw _ _ _ (wn_eq w rfl) (lv_sub hl [0, 1, 2, 3, 4] rfl)
      by_cases h10 : v1 = 10
      · have hzz := hw.2.2.2.2.2.2.2.2.2.2.1 h10
        clear hw
        subst h10
        have hw := hzz
        refine lv_tableIn (tgt := 702) hx hb d_law_40 (by decide) (by decide) rfl (by decide) ?_
        exact w_law_702 C hr htr hX hbl0 (ad := ad) (bd := bd) hc9 hd9 (ih (cc + 6) (dd + 36) (by omega) (by omega)) S T x4 hw _ _ _ (wn_eq w rfl) (lv_sub hl [0, 1, 2, 3, 4] rfl)
      by_cases h11 : v1 = 11
      · have hzz := hw.2.2.2.2.2.2.2.2.2.2.2.1 h11
        clear hw
        subst h11
        have hw := hzz
        refine lv_tableIn (tgt := 746) hx hb d_law_40 (by decide) (by decide) rfl (by decide) ?_
        exact w_law_746 C hr htr hX hbl0 (ad := ad) (bd := bd) hc9 hd9 (ih (cc + 6) (dd + 36) (by omega) (by omega)) S T x4 hw _ _ _ (wn_eq w rfl) (lv_sub hl [0, 1, 2, 3, 4] rfl)
      by_cases h12 : v1 = 12
      · have hzz := hw.2.2.2.2.2.2.2.2.2.2.2.2.1 h12
        clear hw
        subst h12
        have hw := hzz
        refine lv_tableIn (tgt := 759) hx hb d_law_40 (by decide) (by decide) rfl (by decide) ?_
        exact w_law_759 C hr htr hX hbl0 (ad := ad) (bd := bd) hc9 hd9 (ih (cc + 6) (dd + 36) (by omega) (by omega)) S T x4 hw _ _ _ (wn_eq w rfl) (lv_sub hl [0, 1, 2, 3, 4] rfl)
      by_cases h13 : v1 = 13
      · have hzz := hw.2.2.2.2.2.2.2.2.2.2.2.2.2.1 h13
        clear hw
        subst h13
        have hw := hzz
        refine lv_tableIn (tgt := 772) hx hb d_law_40 (by decide) (by decide) rfl (by decide) ?_
        exact w_law_772 C hr htr hX hbl0 (ad := ad) (bd := bd) hc9 hd9 (ih (cc + 6) (dd + 36) (by omega) (by omega)) S T x4 hw _ _ _ (wn_eq w rfl) (lv_sub hl [0, 1, 2, 3, 4] rfl)
      by_cases h14 : v1 = 14
      · have hzz := hw.2.2.2.2.2.2.2.2.2.2.2.2.2.2.1 h14
        clear hw
        subst h14
        have hw := hzz
        refine lv_tableIn (tgt := 840) hx hb d_law_40 (by decide) (by decide) rfl (by decide) ?_
        exact w_law_840 C hr htr hX hbl0 (ad := ad) (bd := bd) hc9 hd9 (ih (cc + 6) (dd + 36) (by omega) (by omega)) S T x4 hw _ _ _ (wn_eq w rfl) (lv_sub hl [0, 1, 2, 3, 4] rfl)
      have hw := hw.2.2.2.2.2.2.2.2.2.2.2.2.2.2.2 h0 h1 h2 h3 h4 h5 h6 h7 h8 h9 h10 h11 h12 h13 h14
      have t0 := lv_neT h0 (show (0 : Int32).toInt = 0 by decide)
      have t1 := lv_neT h1 (show (1 : Int32).toInt = 1 by decide)
      have t2 := lv_neT h2 (show (2 : Int32).toInt = 2 by decide)
      have t3 := lv_neT h3 (show (3 : Int32).toInt = 3 by decide)
      have t4 := lv_neT h4 (show (4 : Int32).toInt = 4 by decide)
      have t5 := lv_neT h5 (show (5 : Int32).toInt = 5 by decide)
      have t6 := lv_neT h6 (show (6 : Int32).toInt = 6 by decide)
      have t7 := lv_neT h7 (show (7 : Int32).toInt = 7 by decide)
      have t8 := lv_neT h8 (show (8 : Int32).toInt = 8 by decide)
      have t9 := lv_neT h9 (show (9 : Int32).toInt = 9 by decide)
      have t10 := lv_neT h10 (show (10 : Int32).toInt = 10 by decide)
      have t11 := lv_neT h11 (show (11 : Int32).toInt = 11 by decide)
      have t12 := lv_neT h12 (show (12 : Int32).toInt = 12 by decide)
      have t13 := lv_neT h13 (show (13 : Int32).toInt = 13 by decide)
      have t14 := lv_neT h14 (show (14 : Int32).toInt = 14 by decide)
      refine lv_tableOut (tgt := 895) hx hb d_law_40 (by omega) (by decide) ?_
      obtain ⟨v2, ev2⟩ : ∃ y : Int32, y = x4 + 6 := ⟨_, rfl⟩
      refine lv_iinc (v := v2) (lv' := [(4, .int v2), (0, .ref b), (1, .ref (ad 0)), (2, .ref (bd 0)), (3, .ref (ad 49))]) hx hb d_law_895 hl (k := 4) rfl (by rw [ev2]; rfl) (by decide) rfl (fun ls hl => ?_)
      have hw := hw v2 ev2
      refine lv_goto (tgt := 23) hx hb d_law_898 (by decide) ?_
      refine W.widen (k := cc + 6) (n := dd + 36) (by omega) (by omega) ?_
      exact (ih (cc + 6) (dd + 36) (by omega) (by omega)) S T v2 hw _ _ _ (wn_eq w rfl) (lv_sub hl [1, 2, 3, 4, 0] rfl)
end
