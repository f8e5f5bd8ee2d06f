/-! methods that may throw: a contract with two ends; what is thrown is new, and nothing that was there has changed -/
section THROW
/-- the two ends of a method -/
def tq (Qc : Array Value → State → Outcome → State → Prop) (Xc : String → Prop) (mc ms : Nat) (free : Addr → Prop) : Array Value → State → Outcome → State → Prop := fun a st o t =>
  (Qc a st o t ∧ ∃ L, FrameEnd st o t L mc ms ∧ ∀ q ∈ L, free q.base) ∨
  ∃ (x : Addr) (E : String) (ce : Cell), o = .threw x ∧ Xc E ∧ t.heap[x]? = some ce ∧ ce.vm = .none ∧ st.vm.findClass E = some ce.cls ∧ st.WarmedH t.vm ∧ st.sameButNew ({ t with vm := st.vm } : State) [] mc ms
def tmet (l : Launch) (y : MethodName) (ws : List Cond) (rm : Room) (Pc : Array Value → State → Prop) (Qc : Array Value → State → Outcome → State → Prop) (Xc : String → Prop) (mc ms : Nat) (free : Addr → Prop) : Prop :=
  MetFree l y (headSpec ws rm) Pc (fun _ _ _ _ _ => True) (tq Qc Xc mc ms free)
theorem tm_keeps {s U : State} {k n : Nat} (h : s.sameButNew U [] k n) : s.heap.size ≤ U.heap.size ∧ ∀ q : Nat, q < s.heap.size → U.heap[q]? = s.heap[q]? := by
  obtain ⟨-, h2, -, -, -, h6⟩ := h
  refine ⟨h2, fun q hq => ?_⟩
  obtain ⟨c9, e1, e2, -, e4⟩ := h6 q _ (Array.getElem?_eq_getElem hq)
  have hs : c9.slots = (s.heap[q]).slots := Array.ext_getElem? fun i => e4 i (fun hm => nomatch hm)
  rw [hs] at e2
  rw [e1, Array.getElem?_eq_getElem hq]
  exact congrArg some e2
variable {p : Program} {l : Launch} {e : Env} {R : Room} {s : State} {m : MethodId} {args : Array Value} {below : List Frame} {meth : Method} {c : Code} {T : State} {locs : List Loc} {cells slots : Nat}
/-- a callee of two ends, from its invocation on -/
theorem tm_inv {y : MethodName} {ws : List Cond} {rm : Room} {Pc : Array Value → State → Prop} {Qc : Array Value → State → Outcome → State → Prop} {Xc : String → Prop} {mc ms len w9 maxL : Nat} {free : Addr → Prop} {bytes : ByteArray} {ret : Option FieldType} {mk : MethodId} {a : Array Value} {g : JFrame} {ig : Instr}
    (X : Stand p l e R s m args below meth c T locs cells slots) (hM : tmet l y ws rm Pc Qc Xc mc ms free) (hbl : FrameBlind Pc) (hrc : rm.cells = mc) (hrs : rm.slots = ms) (hfr : rm.frames + 1 ≤ R.frames) (hlo : w9 + (maxL + 11) + rm.locals ≤ R.locals)
    (hws : ∀ w ∈ ws, ∀ (a' : Array Value) (U : State), s.WarmedH U.vm → w.before a' U = true) (hcode : Cond.code y bytes maxL ret ∈ ws) (hinit : (Cond.initialized y.cls).before args s = true)
    (hg : g.method = m) (hsize : g.locals.size = c.maxLocals) (hdg : decode c.code g.pc = .ok (ig, len)) (hW : 2 * g.monitorRoom + (g.stack.map fun v => v.category).sum ≤ w9) (hn : T.methodNamed? y = some mk) (hf : cells + mc ≤ R.cells ∧ slots + ms ≤ R.slots) (hP : Pc a T) :
    (∃ (v : Option Value) (t T' : State) (L : List Loc), Stand p l e R s m args below meth c T' (locs ++ L) (cells + mc) (slots + ms) ∧ (∀ q ∈ L, free q.base) ∧ T'.heap = t.heap ∧ T'.vm = t.vm ∧ Qc a (T.calling g mk a) (.returned v) t ∧
      Steps p.tables e below (doInvoke e (T.setTop g) [] mk a).1 (T'.setTop { g with pc := g.pc + len, stack := v.toList ++ g.stack })) ∨
    (∃ (x : Addr) (E : String) (ce : Cell) (T' : State), Stand p l e R s m args below meth c T' locs (cells + mc) (slots + ms) ∧ T.heap.size ≤ T'.heap.size ∧ (∀ q : Nat, q < T.heap.size → T'.heap[q]? = T.heap[q]?) ∧ Xc E ∧ T'.heap[x]? = some ce ∧ ce.vm = .none ∧ s.vm.findClass E = some ce.cls ∧
      Steps p.tables e below (doInvoke e (T.setTop g) [] mk a).1 ((T'.setTop g).pushFrame (.throwing x))) := by
  have h1 : (headSpec ws rm).pre.before a T = true := atoms_intro fun w hw => hws w hw _ _ X.warmed
  have h2 : (Cond.code y bytes maxL ret).before a T = true := hws _ hcode _ _ X.warmed
  have h3 : (Cond.initialized y.cls).before a T = true := word_at X.warmed (Or.inl (by first | rfl | simp [Cond.onTables, Cond.keeps, Cond.steady])) hinit
  obtain ⟨my, cy, hmy, hcy, -, hly, -, -, -, -⟩ := Cond.code_spec hn h2
  obtain ⟨ky, hky, -⟩ := className_of_methodNamed hn
  have hiy : ky.init = .initialized := Cond.initialized_spec (findClass_of_methodNamed hn) hky h3
  have hat : At T g.method c below := by rw [hg]; exact X.here
  have happ : (headSpec ws rm).appliesLoose y e.platform (T.calling g mk a) = true :=
    Spec.appliesLoose_calling (g := g) hat hdg hn hky hiy (X.room_calling (g := g) (R' := (headSpec ws rm).room) hsize hmy hcy hfr (by rw [hly]; show _ + _ + rm.locals ≤ _; omega) (by show cells + rm.cells ≤ _; rw [hrc]; exact hf.1) (by show slots + rm.slots ≤ _; rw [hrs]; exact hf.2)) h1
  have hff : (T.setTop g).frames = .java g :: below := by rw [State.frames_setTop' g X.here.top, X.tail]
  obtain ⟨o, s2, hst, -, hend, hq⟩ := Steps.callFree hM p X.admits X.cas X.clock (acts := []) (mid := [.java g]) (below := below) hff happ (hbl _ _ _ _ hP) trivial
  rw [hff] at hend
  rcases hq with ⟨hqc, L, ⟨⟨v, rfl⟩, hw2, hsm⟩, hL⟩ | ⟨x, E, ce, rfl, hxc, hce, hcv, hcl, hw2, hsm⟩
  · obtain ⟨T', X', -, -, ht⟩ := X.outOf hg hdg hend hw2 hsm
    have hh : T'.heap = s2.heap := by rw [ht]; rfl
    have hv : T'.vm = s2.vm := by rw [ht]; rfl
    exact Or.inl ⟨v, s2, T', L, X', hL, hh, hv, hqc, by rw [← ht]; exact hst⟩
  · obtain ⟨T', X', -, hsm2, ht⟩ := X.outOfThrown hg hend hw2 hsm
    rw [List.append_nil] at X'
    obtain ⟨k1, k2⟩ := tm_keeps hsm2
    have hh : T'.heap = s2.heap := by rw [ht, throwing_heap]
    refine Or.inr ⟨x, E, ce, T', X', k1, k2, hxc, by rw [hh]; exact hce, hcv, ?_, by rw [← ht]; exact hst⟩
    have h9 : T.vm.findClass E = some ce.cls := hcl
    rw [X.warmed.alike.findClass] at h9
    exact h9
/-- what is thrown stands over the frame -/
def wx (p : Program) (l : Launch) (e : Env) (R : Room) (s : State) (m : MethodId) (args : Array Value) (below : List Frame) (meth : Method) (c : Code) (H : Heap) (locs : List Loc) (cells slots : Nat) (Q : State → Prop) (g : JFrame) (x : Addr) : Prop :=
  ∀ T : State, T.heap = H → Stand p l e R s m args below meth c T locs cells slots → ∃ t, Steps p.tables e below ((T.setTop g).pushFrame (.throwing x)) t ∧ Q t
def tmq (below : List Frame) (Qc : Array Value → State → Outcome → State → Prop) (Xc : String → Prop) (a : Array Value) (s : State) (mc ms : Nat) (free : Addr → Prop) : State → Prop := fun t =>
  ∃ o, t.status = .running ∧ Ended t below o ∧ tq Qc Xc mc ms free a s o t
def trun (p : Program) (l : Launch) (e : Env) (R : Room) (s : State) (m : MethodId) (args : Array Value) (below : List Frame) (meth : Method) (c : Code) (H : Heap) (locs : List Loc) (cells slots mc ms : Nat) (g : JFrame) (rest : List Value) (Qa : State → Outcome → State → Prop) (Xc : String → Prop) (free : Addr → Prop) : Prop :=
  ∀ T : State, T.heap = H → Stand p l e R s m args below meth c T locs cells slots →
    (∃ (v : Option Value) (st0 t T' : State) (L : List Loc), st0.heap = H ∧ Stand p l e R s m args below meth c T' (locs ++ L) (cells + mc) (slots + ms) ∧ (∀ q ∈ L, free q.base) ∧ T'.heap = t.heap ∧ T'.vm = t.vm ∧ Qa st0 (.returned v) t ∧
      ∀ tg, Steps p.tables e below (T'.setTop { g with pc := g.pc + 3, stack := v.toList ++ rest }) tg → Steps p.tables e below (T.setTop g) tg) ∨
    (∃ (x : Addr) (E : String) (ce : Cell) (T' : State), Stand p l e R s m args below meth c T' locs (cells + mc) (slots + ms) ∧ H.size ≤ T'.heap.size ∧ (∀ q : Nat, q < H.size → T'.heap[q]? = H[q]?) ∧ Xc E ∧ T'.heap[x]? = some ce ∧ ce.vm = .none ∧ s.vm.findClass E = some ce.cls ∧
      ∀ tg, Steps p.tables e below ((T'.setTop { g with stack := rest }).pushFrame (.throwing x)) tg → Steps p.tables e below (T.setTop g) tg)
section TROWS
variable {H : Heap} {Q : State → Prop} {cc : ByteArray} {nL : Nat} {own : String} {n0 : Nat} {G : va_G} {K : KT} {ws : va_W} {pc : Nat} {ls : Array Slot} {rest : List Value}
variable {y : MethodName} {bytes : ByteArray} {maxL mc ms n index : Nat} {ret : Option FieldType} {rm : Room} {As st0 : List Value} {Qc : Array Value → State → Outcome → State → Prop} {Xc : String → Prop} {free : Addr → Prop}
theorem tr_V {ci q0 : Nat} {C1 : String} {Tf : u_T} {N : Nat} {fs : List Value} {b : Addr}
    (C : cx p s m args meth c cc nL own n0 G K) (w : wn n0 G ws s H locs) (hM : tmet l y (Cond.code y bytes maxL ret :: gw) rm (va_Pc (.ref b :: As) (wb n0 G K ws)) Qc Xc mc ms free)
    (k1 : Cond.methodLink own index y ∈ gw) (k2 : Cond.instanceMethod y ∈ gw) (k3 : Cond.selects C1 y y ∈ gw) (k4 : Cond.initialized C1 ∈ gw) (k5 : Cond.code y bytes maxL ret ∈ gw) (hd : y.cls = C1 ∧ y.cls ≠ "java/lang/invoke/MethodHandle" ∧ y.cls ≠ "java/lang/invoke/VarHandle" ∧ (parseMethodDescriptor y.desc).map (fun d => d.parameters.length) = some n)
    (hrc : rm.cells = mc) (hrs : rm.slots = ms) (hR : rm.frames + 1 ≤ R.frames ∧ 8 + (maxL + 11) + rm.locals ≤ R.locals) (hc : cl[ci]? = some (C1, Tf, N)) (he : ws[q0]? = some (b, .inr (ci, fs))) (hn : As.length = n) (hl : ls.size = nL) (hst : st0 = As.reverse ++ .ref b :: rest) (hr : (rest.map fun v => v.category).sum ≤ 8) (hdg : decode cc pc = .ok (.invokevirtual index, 3)) (hf : cells + mc ≤ R.cells ∧ slots + ms ≤ R.slots) :
    trun p l e R s m args below meth c H locs cells slots mc ms (F0 m pc ls st0) rest (Qc (Value.ref b :: As).toArray) Xc free := by
  have C' := C
  obtain ⟨hx, hb, hml, hown, hts, -, hK, -, -⟩ := C'
  obtain ⟨hC, hy1, hy2, hlen⟩ := hd
  obtain ⟨cellB, hcB, hoB, hclB⟩ := va_recv hK w.1 hc he
  obtain ⟨mk, methM, hnamed, hmethM, hstM, habM⟩ := Cond.instanceMethod_spec (hts _ k2)
  obtain ⟨methM', cM, hmethM', -, -, -, -, -, -, hsigM⟩ := Cond.code_spec hnamed (hts _ k5)
  cases hmethM.symm.trans hmethM'
  obtain ⟨c2, r2, m2, q1, q2, q3, q4, kP, hkP, hkPi⟩ := Cond.selects_spec (hts _ k3)
  cases hclB.symm.trans q1
  cases (State.methodFound?_of_named hnamed ⟨hy1, hy2⟩).symm.trans q2
  cases hnamed.symm.trans q3
  intro T hT X
  have hselP : selectMethod e.platform s.vm cellB.cls mk = .method mk := by rw [Launch.admits_selectMethod X.admits]; exact q4
  have hAl : As.length = methM.sig.parameters.length := by
    rw [hsigM] at hlen
    exact hn.trans (Option.some.inj hlen).symm
  obtain ⟨vm1, X1, hs1⟩ := X.invokevirtual hx hown (hts _ k1) hnamed hmethM hstM hkP hkPi ⟨hy1, hy2⟩ (a := b) (cell := cellB) (by rw [hT]; exact hcB)
    (fun z h => by rw [h] at hoB; cases hoB) hselP hmethM habM hkP hkPi (g := F0 m pc ls st0) rfl (argsL := As) (rest := rest) hAl hst (by rw [hb]; exact hdg)
  have hinit : (Cond.initialized y.cls).before args s = true := by rw [hC]; exact hts _ k4
  rcases tm_inv (g := { F0 m pc ls st0 with stack := rest }) (a := (Value.ref b :: As).toArray) X1 hM wb_blind hrc hrs hR.1 hR.2 (pay_in hts (gw_cons k5)) List.mem_cons_self hinit rfl (hl.trans hml.symm) (by rw [hb]; exact hdg) (lv_room (m := m) (pc := pc) (ls := ls) (rest := rest) hr) (X1.named hnamed) hf
    (wb_of C w (T.setVm vm1) hT X1.warmed) with ⟨v, t, T', L, X', hL, e1, e2, hq, st⟩ | ⟨x, E, ce, T', X', e1, e2, h1, h2, h3, h4, st⟩
  · refine Or.inl ⟨v, _, t, T', L, ?_, X', hL, e1, e2, hq, fun tg h => hs1 _ fun acts => by rw [doInvoke_state]; exact st.trans h⟩
    exact hT
  · have e1' : H.size ≤ T'.heap.size := by rw [← hT]; exact e1
    have e2' : ∀ q : Nat, q < H.size → T'.heap[q]? = H[q]? := by rw [← hT]; exact e2
    exact Or.inr ⟨x, E, ce, T', X', e1', e2', h1, h2, h3, h4, fun tg h => hs1 _ fun acts => by rw [doInvoke_state]; exact st.trans h⟩
theorem tr_S
    (C : cx p s m args meth c cc nL own n0 G K) (w : wn n0 G ws s H locs) (hM : tmet l y (Cond.code y bytes maxL ret :: gw) rm (va_Pc As (wb n0 G K ws)) Qc Xc mc ms free)
    (k1 : Cond.methodLink own index y ∈ gw) (k2 : Cond.static y ∈ gw) (k4 : Cond.initialized y.cls ∈ gw) (k5 : Cond.code y bytes maxL ret ∈ gw) (hd : y.cls ≠ "java/lang/invoke/MethodHandle" ∧ y.cls ≠ "java/lang/invoke/VarHandle" ∧ (parseMethodDescriptor y.desc).map (fun d => d.parameters.length) = some n)
    (hrc : rm.cells = mc) (hrs : rm.slots = ms) (hR : rm.frames + 1 ≤ R.frames ∧ 8 + (maxL + 11) + rm.locals ≤ R.locals) (hn : As.length = n) (hl : ls.size = nL) (hst : st0 = As.reverse ++ rest) (hr : (rest.map fun v => v.category).sum ≤ 8) (hdg : decode cc pc = .ok (.invokestatic index, 3)) (hf : cells + mc ≤ R.cells ∧ slots + ms ≤ R.slots) :
    trun p l e R s m args below meth c H locs cells slots mc ms (F0 m pc ls st0) rest (Qc As.toArray) Xc free := by
  have C' := C
  obtain ⟨hx, hb, hml, hown, hts, -, hK, -, -⟩ := C'
  obtain ⟨hy1, hy2, hlen⟩ := hd
  obtain ⟨mk, hnamed⟩ := Cond.code_named (hts _ k5)
  obtain ⟨methM, cM, hmethM, -, -, -, -, -, -, hsigM⟩ := Cond.code_spec hnamed (hts _ k5)
  have hstatic : methM.isStatic = true := Cond.static_spec hnamed hmethM (hts _ k2)
  obtain ⟨kP, hkP, -⟩ := className_of_methodNamed hnamed
  have hinitP : kP.init = .initialized := Cond.initialized_spec (findClass_of_methodNamed hnamed) hkP (hts _ k4)
  intro T hT X
  have hAl : As.length = methM.sig.parameters.length := by
    rw [hsigM] at hlen
    exact hn.trans (Option.some.inj hlen).symm
  obtain ⟨vm1, X1, hs1⟩ := X.invokestatic hx hown (hts _ k1) hnamed hmethM hstatic hkP hinitP ⟨hy1, hy2⟩ (g := F0 m pc ls st0) rfl (argsL := As) (rest := rest) hAl hst (by rw [hb]; exact hdg)
  rcases tm_inv (g := { F0 m pc ls st0 with stack := rest }) (a := As.toArray) X1 hM wb_blind hrc hrs hR.1 hR.2 (pay_in hts (gw_cons k5)) List.mem_cons_self (hts _ k4) rfl (hl.trans hml.symm) (by rw [hb]; exact hdg) (lv_room (m := m) (pc := pc) (ls := ls) (rest := rest) hr) (X1.named hnamed) hf
    (wb_of C w (T.setVm vm1) hT X1.warmed) with ⟨v, t, T', L, X', hL, e1, e2, hq, st⟩ | ⟨x, E, ce, T', X', e1, e2, h1, h2, h3, h4, st⟩
  · refine Or.inl ⟨v, _, t, T', L, ?_, X', hL, e1, e2, hq, fun tg h => hs1 _ fun acts => by rw [doInvoke_state]; exact st.trans h⟩
    exact hT
  · have e1' : H.size ≤ T'.heap.size := by rw [← hT]; exact e1
    have e2' : ∀ q : Nat, q < H.size → T'.heap[q]? = H[q]? := by rw [← hT]; exact e2
    exact Or.inr ⟨x, E, ce, T', X', e1', e2', h1, h2, h3, h4, fun tg h => hs1 _ fun acts => by rw [doInvoke_state]; exact st.trans h⟩
def rq_v (post : Prop) : Array Value → State → Outcome → State → Prop := fun _ st oc t => (oc = .returned none ∧ post) ∧ t.heap = st.heap
/-- what the throwing side of a call hands on -/
def tkx (p : Program) (l : Launch) (e : Env) (R : Room) (s : State) (m : MethodId) (args : Array Value) (below : List Frame) (meth : Method) (c : Code) (H : Heap) (locs : List Loc) (cells slots : Nat) (Q : State → Prop) (g : JFrame) (Xc : String → Prop) : Prop :=
  ∀ (x : Addr) (E : String) (ce : Cell) (H1 : Heap), H.size ≤ H1.size → (∀ q : Nat, q < H.size → H1[q]? = H[q]?) → Xc E → H1[x]? = some ce → ce.vm = .none → s.vm.findClass E = some ce.cls → wx p l e R s m args below meth c H1 locs cells slots Q g x
theorem td_v {post : Prop} {a : Array Value} (hr : trun p l e R s m args below meth c H locs cells slots mc ms (F0 m pc ls st0) rest (rq_v post a) Xc (fun _ => False))
    (kx : tkx p l e R s m args below meth c H locs (cells + mc) (slots + ms) Q (F0 m pc ls rest) Xc)
    (kk : post → W p l e R s m args below meth c H locs (cells + mc) (slots + ms) Q (F0 m (pc + 3) ls rest)) : W p l e R s m args below meth c H locs cells slots Q (F0 m pc ls st0) := by
  intro T hT X
  rcases hr T hT X with ⟨v, s0, t, T', L, h0, X', hL, e1, e2, ⟨⟨hv, hp⟩, hh⟩, st⟩ | ⟨x, E, ce, T', X', e1, e2, h1, h2, h3, h4, st⟩
  · cases hv
    obtain ⟨t2, a1, b1⟩ := kk hp T' (by rw [e1, hh, h0]) (Stand.forget X' (fun q h => (hL q h).elim))
    exact ⟨t2, st t2 a1, b1⟩
  · obtain ⟨t2, a1, b1⟩ := kx x E ce T'.heap e1 e2 h1 h2 h3 h4 T' rfl X'
    exact ⟨t2, st t2 a1, b1⟩
theorem tc_i {S : Type} {post : Int32 → S → Prop} {st : S → va_W} {a : Array Value} (w : wn n0 G ws s H locs) (hr : trun p l e R s m args below meth c H locs cells slots mc ms (F0 m pc ls st0) rest (va_Qi post (fun u t => we n0 G (st u) t) (al n0) a) Xc (al n0))
    (kx : tkx p l e R s m args below meth c H locs (cells + mc) (slots + ms) Q (F0 m pc ls rest) Xc)
    (kk : ∀ (r : Int32) (u : S) (H1 : Heap) (locs1 : List Loc), post r u → wn n0 G (st u) s H1 locs1 → W p l e R s m args below meth c H1 locs1 (cells + mc) (slots + ms) Q (F0 m (pc + 3) ls (.int r :: rest))) : W p l e R s m args below meth c H locs cells slots Q (F0 m pc ls st0) := by
  intro T hT X
  rcases hr T hT X with ⟨v, s0, t, T', L, h0, X', hL, e1, e2, ⟨⟨r, u, hv, hp, hB⟩, hz, hk⟩, st'⟩ | ⟨x, E, ce, T', X', e1, e2, h1, h2, h3, h4, st'⟩
  · cases hv
    rw [h0] at hz hk
    obtain ⟨t2, a1, b1⟩ := kk r u T'.heap (locs ++ L) hp ⟨by rw [e1]; exact hB.1, hB.2, Nat.le_trans w.2.2.1 (by rw [e1]; exact hz), fun q g1 g2 => by rw [e1, hk q (Nat.lt_of_lt_of_le g1 w.2.2.1) g2]; exact w.2.2.2.1 q g1 g2, fun q hq => by
      rcases List.mem_append.mp hq with h | h
      · exact w.2.2.2.2 q h
      · exact hL q h⟩ T' rfl X'
    exact ⟨t2, st' t2 a1, b1⟩
  · obtain ⟨t2, a1, b1⟩ := kx x E ce T'.heap e1 e2 h1 h2 h3 h4 T' rfl X'
    exact ⟨t2, st' t2 a1, b1⟩
theorem tc_l {S : Type} {post : Int64 → S → Prop} {st : S → va_W} {a : Array Value} (w : wn n0 G ws s H locs) (hr : trun p l e R s m args below meth c H locs cells slots mc ms (F0 m pc ls st0) rest (va_Ql post (fun u t => we n0 G (st u) t) (al n0) a) Xc (al n0))
    (kx : tkx p l e R s m args below meth c H locs (cells + mc) (slots + ms) Q (F0 m pc ls rest) Xc)
    (kk : ∀ (r : Int64) (u : S) (H1 : Heap) (locs1 : List Loc), post r u → wn n0 G (st u) s H1 locs1 → W p l e R s m args below meth c H1 locs1 (cells + mc) (slots + ms) Q (F0 m (pc + 3) ls (.long r :: rest))) : W p l e R s m args below meth c H locs cells slots Q (F0 m pc ls st0) := by
  intro T hT X
  rcases hr T hT X with ⟨v, s0, t, T', L, h0, X', hL, e1, e2, ⟨⟨r, u, hv, hp, hB⟩, hz, hk⟩, st'⟩ | ⟨x, E, ce, T', X', e1, e2, h1, h2, h3, h4, st'⟩
  · cases hv
    rw [h0] at hz hk
    obtain ⟨t2, a1, b1⟩ := kk r u T'.heap (locs ++ L) hp ⟨by rw [e1]; exact hB.1, hB.2, Nat.le_trans w.2.2.1 (by rw [e1]; exact hz), fun q g1 g2 => by rw [e1, hk q (Nat.lt_of_lt_of_le g1 w.2.2.1) g2]; exact w.2.2.2.1 q g1 g2, fun q hq => by
      rcases List.mem_append.mp hq with h | h
      · exact w.2.2.2.2 q h
      · exact hL q h⟩ T' rfl X'
    exact ⟨t2, st' t2 a1, b1⟩
  · obtain ⟨t2, a1, b1⟩ := kx x E ce T'.heap e1 e2 h1 h2 h3 h4 T' rfl X'
    exact ⟨t2, st' t2 a1, b1⟩
theorem tc_v {S : Type} {post : S → Prop} {st : S → va_W} {a : Array Value} (w : wn n0 G ws s H locs) (hr : trun p l e R s m args below meth c H locs cells slots mc ms (F0 m pc ls st0) rest (va_Qv post (fun u t => we n0 G (st u) t) (al n0) a) Xc (al n0))
    (kx : tkx p l e R s m args below meth c H locs (cells + mc) (slots + ms) Q (F0 m pc ls rest) Xc)
    (kk : ∀ (u : S) (H1 : Heap) (locs1 : List Loc), post u → wn n0 G (st u) s H1 locs1 → W p l e R s m args below meth c H1 locs1 (cells + mc) (slots + ms) Q (F0 m (pc + 3) ls rest)) : W p l e R s m args below meth c H locs cells slots Q (F0 m pc ls st0) := by
  intro T hT X
  rcases hr T hT X with ⟨v, s0, t, T', L, h0, X', hL, e1, e2, ⟨⟨u, hv, hp, hB⟩, hz, hk⟩, st'⟩ | ⟨x, E, ce, T', X', e1, e2, h1, h2, h3, h4, st'⟩
  · cases hv
    rw [h0] at hz hk
    obtain ⟨t2, a1, b1⟩ := kk u T'.heap (locs ++ L) hp ⟨by rw [e1]; exact hB.1, hB.2, Nat.le_trans w.2.2.1 (by rw [e1]; exact hz), fun q g1 g2 => by rw [e1, hk q (Nat.lt_of_lt_of_le g1 w.2.2.1) g2]; exact w.2.2.2.1 q g1 g2, fun q hq => by
      rcases List.mem_append.mp hq with h | h
      · exact w.2.2.2.2 q h
      · exact hL q h⟩ T' rfl X'
    exact ⟨t2, st' t2 a1, b1⟩
  · obtain ⟨t2, a1, b1⟩ := kx x E ce T'.heap e1 e2 h1 h2 h3 h4 T' rfl X'
    exact ⟨t2, st' t2 a1, b1⟩
theorem td_i {post : Int32 → Prop} {a : Array Value} (hr : trun p l e R s m args below meth c H locs cells slots mc ms (F0 m pc ls st0) rest (rq_i post a) Xc (fun _ => False))
    (kx : tkx p l e R s m args below meth c H locs (cells + mc) (slots + ms) Q (F0 m pc ls rest) Xc)
    (kk : ∀ r : Int32, post r → W p l e R s m args below meth c H locs (cells + mc) (slots + ms) Q (F0 m (pc + 3) ls (.int r :: rest))) : W p l e R s m args below meth c H locs cells slots Q (F0 m pc ls st0) := by
  intro T hT X
  rcases hr T hT X with ⟨v, s0, t, T', L, h0, X', hL, e1, e2, ⟨⟨r, hv, hp⟩, hh⟩, st⟩ | ⟨x, E, ce, T', X', e1, e2, h1, h2, h3, h4, st⟩
  · cases hv
    obtain ⟨t2, a1, b1⟩ := kk r hp T' (by rw [e1, hh, h0]) (Stand.forget X' (fun q h => (hL q h).elim))
    exact ⟨t2, st t2 a1, b1⟩
  · obtain ⟨t2, a1, b1⟩ := kx x E ce T'.heap e1 e2 h1 h2 h3 h4 T' rfl X'
    exact ⟨t2, st t2 a1, b1⟩
theorem td_l {post : Int64 → Prop} {a : Array Value} (hr : trun p l e R s m args below meth c H locs cells slots mc ms (F0 m pc ls st0) rest (rq_l post a) Xc (fun _ => False))
    (kx : tkx p l e R s m args below meth c H locs (cells + mc) (slots + ms) Q (F0 m pc ls rest) Xc)
    (kk : ∀ r : Int64, post r → W p l e R s m args below meth c H locs (cells + mc) (slots + ms) Q (F0 m (pc + 3) ls (.long r :: rest))) : W p l e R s m args below meth c H locs cells slots Q (F0 m pc ls st0) := by
  intro T hT X
  rcases hr T hT X with ⟨v, s0, t, T', L, h0, X', hL, e1, e2, ⟨⟨r, hv, hp⟩, hh⟩, st⟩ | ⟨x, E, ce, T', X', e1, e2, h1, h2, h3, h4, st⟩
  · cases hv
    obtain ⟨t2, a1, b1⟩ := kk r hp T' (by rw [e1, hh, h0]) (Stand.forget X' (fun q h => (hL q h).elim))
    exact ⟨t2, st t2 a1, b1⟩
  · obtain ⟨t2, a1, b1⟩ := kx x E ce T'.heap e1 e2 h1 h2 h3 h4 T' rfl X'
    exact ⟨t2, st t2 a1, b1⟩
/-- not caught here -/
theorem tx_pass (C : cx p s m args meth c cc nL own n0 G K) (hne : c.exceptionTable.toList = []) (hc : cells ≤ mc) (hs : slots ≤ ms) (hloc : locs = []) :
    tkx p l e R s m args below meth c H locs cells slots (tmq below Qc Xc args s mc ms free) (F0 m pc ls rest) Xc := by
  subst hloc
  intro x E ce H1 h1 h2 hx hce hv hcl T hT X
  obtain ⟨st1, hrun, hend, hW, hsm⟩ := X.leaveThrown x (g := F0 m pc ls rest) rfl rfl rfl (by rw [hne]; exact fun _ h => nomatch h) C.2.2.2.2.2.1
  exact ⟨_, st1, .threw x, hrun, hend, Or.inr ⟨x, E, ce, rfl, hx, by show T.heap[x]? = _; rw [hT]; exact hce, hv, hcl, hW, hsm.mono hc hs⟩⟩
theorem tx_ret {g : JFrame} (k : W p l e R s m args below meth c H locs cells slots (MQ below Qc args s mc ms free) g) : W p l e R s m args below meth c H locs cells slots (tmq below Qc Xc args s mc ms free) g := by
  intro T hT X
  obtain ⟨t, a1, o, b1, b2, b3, b4⟩ := k T hT X
  exact ⟨t, a1, o, b1, b2, Or.inl ⟨b3, b4⟩⟩
theorem kt_start {av : List Value}
    (hy : plainName y.cls = true) (hc : y.cls = own)
    (body : ∀ (p : Program) (e : Env) (s : State) (m : MethodId) (below : List Frame) (meth : Method) (c : Code), cx p s m av.toArray meth c bytes maxL own n0 G K → meth.sig.returnType = ret → c.exceptionTable.toList = [] → wn n0 G ws s s.heap [] → W p l e rm s m av.toArray below meth c s.heap [] 0 0 (tmq below Qc Xc av.toArray s mc ms free) (entryFrame m av.toArray maxL)) :
    tmet l y (Cond.code y bytes maxL ret :: gw) rm (va_Pc av (wb n0 G K ws)) Qc Xc mc ms free := by
  refine MetFree.of_bodyS (code := bytes) (maxLocals := maxL) (ret := ret) hy ?_ ?_
  · intro args s m h hn
    obtain ⟨meth, c, h1, h2, h3, h4, h5, h6, -, -⟩ := Cond.code_spec hn (atoms_spec (ws := Cond.code y bytes maxL ret :: gw) h _ List.mem_cons_self)
    exact ⟨meth, c, h1, h2, h3, h4, h5, h6⟩
  · intro p e s m args below meth c s1 B hml0 hv _
    obtain ⟨rfl, hn, hP, hK, hD, hF⟩ := hv
    have hts := atoms_spec (ws := Cond.code y bytes maxL ret :: gw) B.pre
    have hown : s.vm.findClass own = some m.cls := hc ▸ findClass_of_methodNamed B.named
    have hml : c.maxLocals = maxL := B.maxLocals_eq (hts _ List.mem_cons_self)
    have hne : c.exceptionTable.toList = [] := by
      have h9 := B.noHandlers (hts _ List.mem_cons_self)
      rw [Array.isEmpty_iff] at h9
      rw [h9]
    have hh0 : s1.heap = s.heap := by rw [B.state]; rfl
    obtain ⟨t, a1, o, b1, b2, b3⟩ := body p e s m below meth c ⟨B.exec, B.bytes, hml, hown, fun w h => hts w (List.mem_cons_of_mem _ h), B.notSynchronized, hK, hn, hF⟩ B.returns hne ⟨hP, hD, va_S.rf⟩ s1 hh0 (Stand.of_body B)
    exact ⟨t, o, a1, b1, b2, b3⟩
/-- throw new E("text") -/
theorem tx_throw {cls text : String} {names : List String} {ik is ic sa : Nat}
    (C : cx p s m args meth c cc nL own n0 G K) (w : wn n0 G ws s H []) (hne : c.exceptionTable.toList = []) (htr : l.stackTraces = false) (hcls : Bundle.fit cls = true) (hnames : ∀ n ∈ names, Bundle.fit n = true)
    (h : ∀ w ∈ Bundle.ownAtoms own ic cls names, w.before args s = true) (hk : Cond.classLink own ik cls ∈ gw) (hins : Cond.instantiable cls 6 ∈ gw) (hini : Cond.initialized cls ∈ gw) (hstr : vk_R own is text sa s) (hl : ls.size = nL)
    (d0 : decode cc pc = .ok (.new ik, 3)) (d3 : decode cc (pc + 3) = .ok (.dup, 1)) (d4 : decode cc (pc + 4) = .ok (.ldc is, 2)) (d6 : decode cc (pc + 6) = .ok (.invokespecial ic, 3)) (d9 : decode cc (pc + 9) = .ok (.athrow, 1))
    (hF : names.length + 3 < R.frames) (hL : (rest.map fun v => v.category).sum + (13 * (names.length + 1) + 43) ≤ R.locals) (hRc : cells + 1 ≤ R.cells) (hRs : slots + 6 ≤ R.slots) (hx : Xc cls) (hc : cells + 1 ≤ mc) (hs : slots + 6 ≤ ms) :
    W p l e R s m args below meth c H [] cells slots (tmq below Qc Xc args s mc ms free) (F0 m pc ls rest) := by
  have C' := C
  obtain ⟨hx0, hb, hml, hown, hts, hlocks, hK, -, -⟩ := C'
  refine W.newc hx0 hb hown (hts _ hk) (hts _ hins) (hts _ hini) rfl d0 hRc hRs (fun cC kC hf hkC hord hn => ?_)
  refine lv_dup hx0 hb d3 rfl ?_
  refine va_ldcS hx0 hb hown hstr d4 ?_
  intro T hT X
  have htr' : e.platform.stackTraces = false := (show e.platform.stackTraces = l.stackTraces by rw [X.admits.platform]).trans htr
  obtain ⟨U, h1, h2, h3, h4, h5, ce, h6, h7⟩ := X.ctorThrowS hx0 htr' (own := own) (cls := cls) (names := names) (ic := ic) hown hcls hnames h (fun _ h => nomatch h) hf hkC (a := H.size)
    (by rw [hT]; simp [freshCell]) w.2.2.1 (msg := .ref sa) rfl
    (g := F0 m (pc + 6) ls (.ref sa :: .ref H.size :: .ref H.size :: rest)) rfl (hl.trans hml.symm) rfl rfl (rest := rest) rfl (by rw [hb]; exact d6) (by rw [hb]; exact d9) (by rw [hne]; exact fun _ h => nomatch h) hF
    (by show 2 * 0 + _ + _ ≤ _; simp only [List.map_cons, List.sum_cons]; show 2 * 0 + (1 + _) + _ ≤ _; omega) hlocks
  exact ⟨U, h1, .threw H.size, h2, h3, Or.inr ⟨H.size, cls, ce, rfl, hx, h6, h7.vm, h7.cls, h4, h5.mono hc hs⟩⟩
end TROWS
end THROW
/-- the statics that a Throwable's constructor reads -/
theorem fx_static {n0 : Nat} {U : State} {args : Array Value} (h : fx n0 U) {C n d : String} {i j : Nat} (hl : tables_1[i]? = some (.laysStatic C n d)) (hi : tables_1[j]? = some (.initialized C)) (hr : ∀ (a0 : Array Value) (s0 : State), (Jvm.Cond.and given_1 narrow_1).before a0 s0 = true → (Cond.isRef (.static C n d)).before a0 s0 = true) :
    (Cond.laysStatic C n d).before args U = true ∧ (Cond.isRef (.static C n d)).before args U = true := by
  obtain ⟨s0, a0, h1, h2, h3, h4, h5⟩ := h
  have hl0 := h4 _ (fx_t hl)
  have hk : ∀ a : Nat, a < s0.heap.size → ¬ al n0 a → U.heap[a]? = s0.heap[a]? := fun a ha _ => h3 a (by rw [← h1]; exact ha)
  have hz := va_Zqof (A := al n0) hl0 (h4 _ (fx_t hi)) (hr a0 s0 h5) (fun a ha => Nat.not_le.mpr (by rw [← h1]; exact ha))
  constructor
  · obtain ⟨c, k, i, f, a, cell, hc, hf, hst, ha, hcell, hs, hcls, hlt, hty⟩ := Cond.laysStatic_spec hl0
    obtain ⟨k', hf9, he⟩ := State.fieldFound?_setVm h2.alike hf
    have hf' : U.fieldFound? C n d = some (c, k', i, f) := hf9
    have hc' : U.vm.findClass C = some c := by rw [h2.alike.findClass]; exact hc
    have hcell' : U.heap[a]? = some cell := by rw [h3 a (by rw [← h1]; exact (Array.getElem?_eq_some_iff.mp hcell).1)]; exact hcell
    have ha' : k'.statics = some a := by rw [he]; exact ha
    have hty' : k'.staticTypes[f.slot]? = some f.type := by rw [he]; exact hty
    simp [Cond.before, Cond.holds, Cond.value, hc', hf', ha', hcell', hst, hs, hcls, hlt, hty']
  · have key : ∀ v : Value, v.isRef = true → va_Z C n d v (al n0) U U.heap → (Cond.isRef (.static C n d)).before args U = true := by
      intro v hv hz
      obtain ⟨cf, kf, fi, f, a, cell, g1, g2, g3, g4, g5, g6, g7, g8⟩ := hz
      cases v <;> simp [Value.isRef] at hv <;> simp [Cond.before, Cond.holds, Cond.value, Term.eval, State.fieldNamed?, g1, g2, g4, g5, g6, g7]
    rcases hz with hz | ⟨t, hz⟩
    · exact key _ rfl (va_Z.moved h2.alike (hz.kept hk))
    · exact key _ rfl (va_Z.moved h2.alike (hz.kept hk))
