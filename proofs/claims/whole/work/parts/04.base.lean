/-- what holds at every entry beside the good words: the law's own start s0, of which the tables are warmer here, and of which all that lay below n0 lies here as it was -/
def fx (n0 : Nat) (U : State) : Prop := ∃ (s0 : State) (a0 : Array Value), s0.heap.size = n0 ∧ s0.WarmedH U.vm ∧ (∀ q : Nat, q < n0 → U.heap[q]? = s0.heap[q]?) ∧ (∀ w ∈ lw_tbl, w.before a0 s0 = true) ∧ (Jvm.Cond.and given_1 narrow_1).before a0 s0 = true
theorem fx_moved {n0 : Nat} {s U : State} (hW : s.WarmedH U.vm) (hq : ∀ q : Nat, q < n0 → U.heap[q]? = s.heap[q]?) (h : fx n0 s) : fx n0 U := by
  obtain ⟨s0, a0, h1, h2, h3, h4, h5⟩ := h
  exact ⟨s0, a0, h1, State.WarmedH.trans h2 hW, fun q hl => (hq q hl).trans (h3 q hl), h4, h5⟩
theorem fx_same {n0 : Nat} {s U : State} (hv : s.vm = U.vm) (hq : U.heap = s.heap) (h : fx n0 s) : fx n0 U := by
  obtain ⟨s0, a0, h1, h2, h3, h4, h5⟩ := h
  exact ⟨s0, a0, h1, hv ▸ h2, fun q hl => by rw [hq]; exact h3 q hl, h4, h5⟩
theorem fx_t {w : Cond} {i : Nat} (h : tables_1[i]? = some w) : w ∈ lw_tbl := List.mem_append_right _ (List.mem_of_getElem? h)
theorem fx_nest {n0 i : Nat} {U : State} {own : String} {idx : Nat} {y : MethodName} {host : String} (h : fx n0 U) (hi : tables_1[i]? = some (.methodLinkNest own idx y host)) : va_Nw (.methodLinkNest own idx y host) U := by
  obtain ⟨s0, a0, h1, h2, h3, h4, h5⟩ := h
  exact va_Nw.warmM h2 (va_Nw.of rfl (h4 _ (fx_t hi)))
/-- the start of a method: its world, the classes, what lies below -/
def wb (n0 : Nat) (G : va_G) (K : KT) (ws : va_W) (U : State) : Prop := n0 ≤ U.heap.size ∧ va_P G cl ws U.heap ∧ va_K G cl (tys K) U ∧ va_D (al n0) ws ∧ fx n0 U
/-- its end -/
def we (n0 : Nat) (G : va_G) (ws : va_W) (t : State) : Prop := va_P G cl ws t.heap ∧ va_D (al n0) ws
theorem wb_blind {n0 : Nat} {G : va_G} {K : KT} {ws : va_W} {av : List Value} : FrameBlind (va_Pc av (wb n0 G K ws)) := fun a U g mk q => by
  obtain ⟨q0, q1, qP, qK, qD, qF⟩ := q
  exact ⟨q0, q1, qP, va_K.moved (u := U) (U := U.calling g mk a) (Vm.Alike.refl U.vm) qK, qD, fx_same (s := U) (U := U.calling g mk a) rfl rfl qF⟩
section BASE
variable {p : Program} {l : Launch} {e : Env} {R : Room} {s : State} {m : MethodId} {args : Array Value} {below : List Frame} {meth : Method} {c : Code} {H : Heap} {locs : List Loc} {cells slots : Nat} {Q : State → Prop}
/-- what stays through a body -/
def cx (p : Program) (s : State) (m : MethodId) (args : Array Value) (meth : Method) (c : Code) (cc : ByteArray) (nL : Nat) (own : String) (n0 : Nat) (G : va_G) (K : KT) : Prop :=
  p.tables.exec = Jvm.exec ∧ c.code = cc ∧ c.maxLocals = nL ∧ s.vm.findClass own = some m.cls ∧ (∀ w ∈ gw, w.before args s = true) ∧ meth.locks = false ∧ va_K G cl (tys K) s ∧ n0 ≤ s.heap.size ∧ fx n0 s
/-- the world of a body now -/
def wn (n0 : Nat) (G : va_G) (ws : va_W) (s : State) (H : Heap) (locs : List Loc) : Prop := va_P G cl ws H ∧ va_D (al n0) ws ∧ va_S (al n0) s.heap H locs
variable {cc : ByteArray} {nL : Nat} {own : String} {n0 : Nat} {G : va_G} {K : KT} {ws : va_W} {pc : Nat} {ls : Array Slot} {rest : List Value}
theorem wn_eq {w2 : va_W} (h : wn n0 G ws s H locs) (e : ws = w2) : wn n0 G w2 s H locs := e ▸ h
theorem wb_of (C : cx p s m args meth c cc nL own n0 G K) (w : wn n0 G ws s H locs) {av : List Value} : ∀ U : State, U.heap = H → s.WarmedH U.vm → va_Pc av (wb n0 G K ws) av.toArray U := by
  obtain ⟨-, -, -, -, -, -, hK, hn, hF⟩ := C
  intro U hU hW
  exact ⟨rfl, Nat.le_trans hn (by rw [hU]; exact w.2.2.1), by rw [hU]; exact w.1, va_K.moved hW.alike hK, w.2.1, fx_moved hW (fun q hq => by rw [hU]; exact w.2.2.2.1 q (Nat.lt_of_lt_of_le hq hn) (Nat.not_le.mpr hq)) hF⟩
theorem rc_i {x : Int32} {i : Nat} {sh : Int32} (h : ls[i]? = some (.val (.int x))) : ls[i]? = some (.val (.int x)) := h
/-- a virtual call's run -/
theorem kr_V {y : MethodName} {bytes : ByteArray} {maxL mc ms n index ci q0 : Nat} {ret : Option FieldType} {rm : Room} {C1 : String} {T : u_T} {N : Nat} {fs : List Value} {b : Addr} {As st0 : List Value} {Qc : Array Value → State → Outcome → State → Prop} {free : Addr → Prop}
    (C : cx p s m args meth c cc nL own n0 G K) (w : wn n0 G ws s H locs) (hM : Met l y (Cond.code y bytes maxL ret :: gw) rm (va_Pc (.ref b :: As) (wb n0 G K ws)) Qc mc ms free)
    (hg : GoodIn gw (wsV own index C1 y (Cond.code y bytes maxL ret :: gw))) (hd : y.cls = C1 ∧ y.cls ≠ "java/lang/invoke/MethodHandle" ∧ y.cls ≠ "java/lang/invoke/VarHandle" ∧ (parseMethodDescriptor y.desc).map (fun d => d.parameters.length) = some n)
    (hrc : rm.cells = mc) (hrs : rm.slots = ms) (hR : rm.frames + 1 ≤ R.frames ∧ 8 + (maxL + 11) + rm.locals ≤ R.locals) (hc : cl[ci]? = some (C1, T, N)) (he : ws[q0]? = some (b, .inr (ci, fs))) (hn : As.length = n) (hl : ls.size = nL) (hst : st0 = As.reverse ++ .ref b :: rest) (hr : (rest.map fun v => v.category).sum ≤ 8) (hdg : decode cc pc = .ok (.invokevirtual index, 3)) (hf : cells + mc ≤ R.cells ∧ slots + ms ≤ R.slots) :
    va_Run p l e R s m args below meth c H locs cells slots mc ms (F0 m pc ls st0) rest (Qc (Value.ref b :: As).toArray) free := by
  have C' := C
  obtain ⟨hx, hb, hml, hown, hts, -, hK, -, -⟩ := C'
  exact va_runV (Ts := gw) (As := As) (rest := rest) ⟨hx, hb, hml, hown, hts⟩ hM (cwV n hts hg rfl hrc hrs hd hR) ⟨wb_blind, va_recv hK w.1 hc he, wb_of C w⟩ rfl hn hl hst (lv_room hr) hdg hf
/-- a static call's run -/
theorem kr_S {y : MethodName} {bytes : ByteArray} {maxL mc ms n index : Nat} {ret : Option FieldType} {rm : Room} {As st0 : List Value} {Qc : Array Value → State → Outcome → State → Prop} {free : Addr → Prop}
    (C : cx p s m args meth c cc nL own n0 G K) (w : wn n0 G ws s H locs) (hM : Met l y (Cond.code y bytes maxL ret :: gw) rm (va_Pc As (wb n0 G K ws)) Qc mc ms free)
    (hg : GoodIn gw (va_wsS own index y (Cond.code y bytes maxL ret :: gw))) (hd : y.cls ≠ "java/lang/invoke/MethodHandle" ∧ y.cls ≠ "java/lang/invoke/VarHandle" ∧ (parseMethodDescriptor y.desc).map (fun d => d.parameters.length) = some n)
    (hrc : rm.cells = mc) (hrs : rm.slots = ms) (hR : rm.frames + 1 ≤ R.frames ∧ 8 + (maxL + 11) + rm.locals ≤ R.locals) (hn : As.length = n) (hl : ls.size = nL) (hst : st0 = As.reverse ++ rest) (hr : (rest.map fun v => v.category).sum ≤ 8) (hdg : decode cc pc = .ok (.invokestatic index, 3)) (hf : cells + mc ≤ R.cells ∧ slots + ms ≤ R.slots) :
    va_Run p l e R s m args below meth c H locs cells slots mc ms (F0 m pc ls st0) rest (Qc As.toArray) free := by
  have C' := C
  obtain ⟨hx, hb, hml, hown, hts, -, hK, -, -⟩ := C'
  exact va_runS (Ts := gw) (As := As) (rest := rest) ⟨hx, hb, hml, hown, hts⟩ hM (va_cwS n hts hg rfl hrc hrs hd hR) ⟨wb_blind, wb_of C w⟩ rfl hn hl hst (lv_room hr) hdg hf
/-- a nest mate's static method -/
theorem kr_N {y : MethodName} {bytes : ByteArray} {maxL mc ms n index : Nat} {host : String} {ret : Option FieldType} {rm : Room} {As st0 : List Value} {Qc : Array Value → State → Outcome → State → Prop} {free : Addr → Prop}
    (C : cx p s m args meth c cc nL own n0 G K) (w : wn n0 G ws s H locs) (hM : Met l y (Cond.code y bytes maxL ret :: gw) rm (va_Pc As (wb n0 G K ws)) Qc mc ms free)
    (hk : Cond.code y bytes maxL ret ∈ gw) (hN : va_Nw (.methodLinkNest own index y host) s) (hi : Cond.initialized y.cls ∈ gw) (hsta : Cond.static y ∈ gw) (hd : y.cls ≠ "java/lang/invoke/MethodHandle" ∧ y.cls ≠ "java/lang/invoke/VarHandle" ∧ (parseMethodDescriptor y.desc).map (fun d => d.parameters.length) = some n)
    (hrc : rm.cells = mc) (hrs : rm.slots = ms) (hR : rm.frames + 1 ≤ R.frames ∧ 8 + (maxL + 11) + rm.locals ≤ R.locals) (hn : As.length = n) (hl : ls.size = nL) (hst : st0 = As.reverse ++ rest) (hr : (rest.map fun v => v.category).sum ≤ 8) (hdg : decode cc pc = .ok (.invokestatic index, 3)) (hf : cells + mc ≤ R.cells ∧ slots + ms ≤ R.slots) :
    va_Run p l e R s m args below meth c H locs cells slots mc ms (F0 m pc ls st0) rest (Qc As.toArray) free := by
  have C' := C
  obtain ⟨hx, hb, hml, hown, hts, -, hK, -, -⟩ := C'
  exact va_runSN (Ts := gw) (As := As) (rest := rest) ⟨hx, hb, hml, hown, hts⟩ hM ⟨va_cnB n hts (gw_cons hk) rfl hrc hrs hN (hts _ hi) hd hR, hts _ hsta, trivial⟩ ⟨wb_blind, wb_of C w⟩ rfl hn hl hst (lv_room hr) hdg hf
theorem kc_i {S : Type} {post : Int32 → S → Prop} {st : S → va_W} {mc ms : Nat} {st0 : List Value} {a : Array Value} (w : wn n0 G ws s H locs) (hr : va_Run p l e R s m args below meth c H locs cells slots mc ms (F0 m pc ls st0) rest (va_Qi post (fun u t => we n0 G (st u) t) (al n0) a) (al n0))
    (kk : ∀ (r : Int32) (u : S) (H1 : Heap) (locs1 : List Loc), post r u → wn n0 G (st u) s H1 locs1 → W p l e R s m args below meth c H1 locs1 (cells + mc) (slots + ms) Q (F0 m (pc + 3) ls (.int r :: rest))) : W p l e R s m args below meth c H locs cells slots Q (F0 m pc ls st0) := by
  refine va_calli hr w.2.2 (fun _ _ h => h) (fun _ h => h) (fun r u t H1 locs1 ht hvm hp hB hz hk hS => kk r u H1 locs1 hp ⟨by rw [← ht]; exact hB.1, hB.2, hS⟩)
theorem kc_l {S : Type} {post : Int64 → S → Prop} {st : S → va_W} {mc ms : Nat} {st0 : List Value} {a : Array Value} (w : wn n0 G ws s H locs) (hr : va_Run p l e R s m args below meth c H locs cells slots mc ms (F0 m pc ls st0) rest (va_Ql post (fun u t => we n0 G (st u) t) (al n0) a) (al n0))
    (kk : ∀ (r : Int64) (u : S) (H1 : Heap) (locs1 : List Loc), post r u → wn n0 G (st u) s H1 locs1 → W p l e R s m args below meth c H1 locs1 (cells + mc) (slots + ms) Q (F0 m (pc + 3) ls (.long r :: rest))) : W p l e R s m args below meth c H locs cells slots Q (F0 m pc ls st0) := by
  refine va_calll hr w.2.2 (fun _ _ h => h) (fun _ h => h) (fun r u t H1 locs1 ht hvm hp hB hz hk hS => kk r u H1 locs1 hp ⟨by rw [← ht]; exact hB.1, hB.2, hS⟩)
theorem kc_v {S : Type} {post : S → Prop} {st : S → va_W} {mc ms : Nat} {st0 : List Value} {a : Array Value} (w : wn n0 G ws s H locs) (hr : va_Run p l e R s m args below meth c H locs cells slots mc ms (F0 m pc ls st0) rest (va_Qv post (fun u t => we n0 G (st u) t) (al n0) a) (al n0))
    (kk : ∀ (u : S) (H1 : Heap) (locs1 : List Loc), post u → wn n0 G (st u) s H1 locs1 → W p l e R s m args below meth c H1 locs1 (cells + mc) (slots + ms) Q (F0 m (pc + 3) ls rest)) : W p l e R s m args below meth c H locs cells slots Q (F0 m pc ls st0) := by
  refine va_callv hr w.2.2 (fun _ _ h => h) (fun _ h => h) (fun u t H1 locs1 ht hvm hp hB hz hk hS => kk u H1 locs1 hp ⟨by rw [← ht]; exact hB.1, hB.2, hS⟩)
/-- the ends -/
theorem ke_i {S : Type} {post : Int32 → S → Prop} {st : S → va_W} {v : Int32} {u : S} (C : cx p s m args meth c cc nL own n0 G K) (hr : meth.sig.returnType = some .int) (hd : decode cc pc = .ok (.ireturn, 1)) (w : wn n0 G (st u) s H locs) (hp : post v u) : W p l e R s m args below meth c H locs cells slots (MQ below (va_Qi post (fun u t => we n0 G (st u) t) (al n0)) args s cells slots (al n0)) (F0 m pc ls [.int v]) :=
  W.iret (v := v) C.1 C.2.1 hr (fun t ht hW => ⟨⟨v, u, rfl, hp, by rw [ht]; exact w.1, w.2.1⟩, w.2.2.F ht⟩) w.2.2.2.2 hd C.2.2.2.2.2.1
theorem ke_z {S : Type} {post : Int32 → S → Prop} {st : S → va_W} {v : Int32} {u : S} (C : cx p s m args meth c cc nL own n0 G K) (hr : meth.sig.returnType = some .boolean) (hd : decode cc pc = .ok (.ireturn, 1)) (w : wn n0 G (st u) s H locs) (hz : v = 0 ∨ v = 1) (hp : post v u) : W p l e R s m args below meth c H locs cells slots (MQ below (va_Qi post (fun u t => we n0 G (st u) t) (al n0)) args s cells slots (al n0)) (F0 m pc ls [.int v]) :=
  W.zret (v := v) C.1 C.2.1 hr (by rcases hz with rfl | rfl <;> rfl) (fun t ht hW => ⟨⟨v, u, rfl, hp, by rw [ht]; exact w.1, w.2.1⟩, w.2.2.F ht⟩) w.2.2.2.2 hd C.2.2.2.2.2.1
theorem ke_l {S : Type} {post : Int64 → S → Prop} {st : S → va_W} {v : Int64} {u : S} (C : cx p s m args meth c cc nL own n0 G K) (hr : meth.sig.returnType = some .long) (hd : decode cc pc = .ok (.lreturn, 1)) (w : wn n0 G (st u) s H locs) (hp : post v u) : W p l e R s m args below meth c H locs cells slots (MQ below (va_Ql post (fun u t => we n0 G (st u) t) (al n0)) args s cells slots (al n0)) (F0 m pc ls [.long v]) :=
  W.lret (v := v) C.1 C.2.1 hr (fun t ht hW => ⟨⟨v, u, rfl, hp, by rw [ht]; exact w.1, w.2.1⟩, w.2.2.F ht⟩) w.2.2.2.2 hd C.2.2.2.2.2.1
theorem ke_v {S : Type} {post : S → Prop} {st : S → va_W} {u : S} (C : cx p s m args meth c cc nL own n0 G K) (hr : meth.sig.returnType = none) (hd : decode cc pc = .ok (.return_, 1)) (w : wn n0 G (st u) s H locs) (hp : post u) : W p l e R s m args below meth c H locs cells slots (MQ below (va_Qv post (fun u t => we n0 G (st u) t) (al n0)) args s cells slots (al n0)) (F0 m pc ls []) :=
  W.vret C.1 C.2.1 hr (fun t ht hW => ⟨⟨u, rfl, hp, by rw [ht]; exact w.1, w.2.1⟩, w.2.2.F ht⟩) w.2.2.2.2 hd C.2.2.2.2.2.1
/-- methods that only read: the heap stays -/
def rq_i (post : Int32 → Prop) : Array Value → State → Outcome → State → Prop := fun _ st oc t => (∃ r : Int32, oc = .returned (some (.int r)) ∧ post r) ∧ t.heap = st.heap
def rq_l (post : Int64 → Prop) : Array Value → State → Outcome → State → Prop := fun _ st oc t => (∃ r : Int64, oc = .returned (some (.long r)) ∧ post r) ∧ t.heap = st.heap
theorem kd_i {post : Int32 → Prop} {st0 : List Value} {a : Array Value} (hr : va_Run p l e R s m args below meth c H locs cells slots 0 0 (F0 m pc ls st0) rest (rq_i post a) (fun _ => False))
    (kk : ∀ r : Int32, post r → W p l e R s m args below meth c H locs cells slots Q (F0 m (pc + 3) ls (.int r :: rest))) : W p l e R s m args below meth c H locs cells slots Q (F0 m pc ls st0) := by
  intro T hT X
  obtain ⟨v, st₀, t, T', L, h0, X', hL, e1, e2, ⟨⟨r, hv, hp⟩, hh⟩, st⟩ := hr T hT X
  cases hv
  obtain ⟨t2, a1, b1⟩ := kk r hp T' (by rw [e1, hh, h0]) (Stand.forget X' (fun q h => (hL q h).elim))
  exact ⟨t2, st t2 a1, b1⟩
theorem kd_l {post : Int64 → Prop} {st0 : List Value} {a : Array Value} (hr : va_Run p l e R s m args below meth c H locs cells slots 0 0 (F0 m pc ls st0) rest (rq_l post a) (fun _ => False))
    (kk : ∀ r : Int64, post r → W p l e R s m args below meth c H locs cells slots Q (F0 m (pc + 3) ls (.long r :: rest))) : W p l e R s m args below meth c H locs cells slots Q (F0 m pc ls st0) := by
  intro T hT X
  obtain ⟨v, st₀, t, T', L, h0, X', hL, e1, e2, ⟨⟨r, hv, hp⟩, hh⟩, st⟩ := hr T hT X
  cases hv
  obtain ⟨t2, a1, b1⟩ := kk r hp T' (by rw [e1, hh, h0]) (Stand.forget X' (fun q h => (hL q h).elim))
  exact ⟨t2, st t2 a1, b1⟩
theorem kf_i {post : Int32 → Prop} {v : Int32} (C : cx p s m args meth c cc nL own n0 G K) (hr : meth.sig.returnType = some .int) (hd : decode cc pc = .ok (.ireturn, 1)) (hp : post v) : W p l e R s m args below meth c s.heap [] cells slots (MQ below (rq_i post) args s cells slots (fun _ => False)) (F0 m pc ls [.int v]) :=
  W.iret (v := v) C.1 C.2.1 hr (fun t ht hW => ⟨⟨v, rfl, hp⟩, ht⟩) (fun _ h => nomatch h) hd C.2.2.2.2.2.1
theorem kf_z {post : Int32 → Prop} {v : Int32} (C : cx p s m args meth c cc nL own n0 G K) (hr : meth.sig.returnType = some .boolean) (hd : decode cc pc = .ok (.ireturn, 1)) (hz : v = 0 ∨ v = 1) (hp : post v) : W p l e R s m args below meth c s.heap [] cells slots (MQ below (rq_i post) args s cells slots (fun _ => False)) (F0 m pc ls [.int v]) :=
  W.zret (v := v) C.1 C.2.1 hr (by rcases hz with rfl | rfl <;> rfl) (fun t ht hW => ⟨⟨v, rfl, hp⟩, ht⟩) (fun _ h => nomatch h) hd C.2.2.2.2.2.1
theorem kf_l {post : Int64 → Prop} {v : Int64} (C : cx p s m args meth c cc nL own n0 G K) (hr : meth.sig.returnType = some .long) (hd : decode cc pc = .ok (.lreturn, 1)) (hp : post v) : W p l e R s m args below meth c s.heap [] cells slots (MQ below (rq_l post) args s cells slots (fun _ => False)) (F0 m pc ls [.long v]) :=
  W.lret (v := v) C.1 C.2.1 hr (fun t ht hW => ⟨⟨v, rfl, hp⟩, ht⟩) (fun _ h => nomatch h) hd C.2.2.2.2.2.1
/-- a body's start out of its contract's -/
theorem kb_start {y : MethodName} {bytes : ByteArray} {maxL : Nat} {ret : Option FieldType} {rm : Room} {Qc : Array Value → State → Outcome → State → Prop} {mc ms : Nat} {av : List Value} {free : Addr → Prop}
    (hy : plainName y.cls = true) (hc : y.cls = own)
    (body : ∀ (p : Program) (e : Env) (s : State) (m : MethodId) (below : List Frame) (meth : Method) (c : Code), cx p s m av.toArray meth c bytes maxL own n0 G K → meth.sig.returnType = ret → (own = own → meth.name = y.name) → wn n0 G ws s s.heap [] → W p l e rm s m av.toArray below meth c s.heap [] 0 0 (MQ below Qc av.toArray s mc ms free) (entryFrame m av.toArray maxL)) :
    Met l y (Cond.code y bytes maxL ret :: gw) rm (va_Pc av (wb n0 G K ws)) Qc mc ms free := by
  refine Met.ofW (cc := bytes) (maxL := maxL) (ret := ret) hy rfl ?_
  intro p e s m args below meth c s₁ B hml hv
  obtain ⟨rfl, hn, hP, hK, hD, hF⟩ := hv
  have hts := atoms_spec (ws := Cond.code y bytes maxL ret :: gw) B.pre
  have hown : s.vm.findClass own = some m.cls := hc ▸ findClass_of_methodNamed B.named
  exact body p e s m below meth c ⟨B.exec, B.bytes, hml, hown, fun w h => hts w (List.mem_cons_of_mem _ h), B.notSynchronized, hK, hn, hF⟩ B.returns (fun _ => (name_of_methodNamed B.named B.method).1) ⟨hP, hD, va_S.rf⟩
/-- the rows of the world's cells -/
theorem ka_i (C : cx p s m args meth c cc nL own n0 G K) (w : wn n0 G ws s H locs) (q0 : Nat) {a n : Nat} {f : Nat → Int32} (ha : ws[q0]? = some (a, .inl (K.1, n, .inl f))) {i : Int32} (hin : vp_in i n) (hdg : decode cc pc = .ok (.iaload, 1))
    (kk : W p l e R s m args below meth c H locs cells slots Q (F0 m (pc + 1) ls (.int (f i.toNatClampNeg) :: rest))) : W p l e R s m args below meth c H locs cells slots Q (F0 m pc ls (.int i :: .ref a :: rest)) := va_iald C.1 C.2.1 C.2.2.2.2.2.2.1 w.1 q0 0 ha rfl hin hdg kk
theorem ka_l (C : cx p s m args meth c cc nL own n0 G K) (w : wn n0 G ws s H locs) (q0 : Nat) {a n : Nat} {f : Nat → Int64} (ha : ws[q0]? = some (a, .inl (K.2.1, n, .inr (.inl f)))) {i : Int32} (hin : vp_in i n) (hdg : decode cc pc = .ok (.laload, 1))
    (kk : W p l e R s m args below meth c H locs cells slots Q (F0 m (pc + 1) ls (.long (f i.toNatClampNeg) :: rest))) : W p l e R s m args below meth c H locs cells slots Q (F0 m pc ls (.int i :: .ref a :: rest)) := va_lald C.1 C.2.1 C.2.2.2.2.2.2.1 w.1 q0 1 ha rfl hin hdg kk
theorem ka_z (C : cx p s m args meth c cc nL own n0 G K) (w : wn n0 G ws s H locs) (q0 : Nat) {a n : Nat} {f : Nat → Int32} (ha : ws[q0]? = some (a, .inl (K.2.2.1, n, .inl f))) {i : Int32} (hin : vp_in i n) (hdg : decode cc pc = .ok (.baload, 1))
    (kk : W p l e R s m args below meth c H locs cells slots Q (F0 m (pc + 1) ls (.int (f i.toNatClampNeg) :: rest))) : W p l e R s m args below meth c H locs cells slots Q (F0 m pc ls (.int i :: .ref a :: rest)) := va_zald C.1 C.2.1 C.2.2.2.2.2.2.1 w.1 q0 2 ha rfl hin hdg kk
theorem ks_i (C : cx p s m args meth c cc nL own n0 G K) (w : wn n0 G ws s H locs) (q0 : Nat) {a n : Nat} {f : Nat → Int32} {w2 : va_W} (ha : ws[q0]? = some (a, .inl (K.1, n, .inl f))) {i x : Int32} (hin : vp_in i n) (h2 : ws.set q0 (a, .inl (K.1, n, .inl (upd f i.toNatClampNeg x))) = w2) (hdg : decode cc pc = .ok (.iastore, 1))
    (kk : ∀ (H1 : Heap) (locs1 : List Loc), wn n0 G w2 s H1 locs1 → W p l e R s m args below meth c H1 locs1 cells slots Q (F0 m (pc + 1) ls rest)) : W p l e R s m args below meth c H locs cells slots Q (F0 m pc ls (.int x :: .int i :: .ref a :: rest)) := by
  subst h2
  exact va_iast C.1 C.2.1 C.2.2.2.2.2.2.1 w.1 w.2.1 w.2.2 q0 0 ha rfl hin hdg (fun H1 locs1 hP hD hS => kk H1 locs1 ⟨hP, hD, hS⟩)
theorem ks_l (C : cx p s m args meth c cc nL own n0 G K) (w : wn n0 G ws s H locs) (q0 : Nat) {a n : Nat} {f : Nat → Int64} {w2 : va_W} (ha : ws[q0]? = some (a, .inl (K.2.1, n, .inr (.inl f)))) {i : Int32} {x : Int64} (hin : vp_in i n) (h2 : ws.set q0 (a, .inl (K.2.1, n, .inr (.inl (vp_updL f i.toNatClampNeg x)))) = w2) (hdg : decode cc pc = .ok (.lastore, 1))
    (kk : ∀ (H1 : Heap) (locs1 : List Loc), wn n0 G w2 s H1 locs1 → W p l e R s m args below meth c H1 locs1 cells slots Q (F0 m (pc + 1) ls rest)) : W p l e R s m args below meth c H locs cells slots Q (F0 m pc ls (.long x :: .int i :: .ref a :: rest)) := by
  subst h2
  exact va_last C.1 C.2.1 C.2.2.2.2.2.2.1 w.1 w.2.1 w.2.2 q0 1 ha rfl hin hdg (fun H1 locs1 hP hD hS => kk H1 locs1 ⟨hP, hD, hS⟩)
theorem ks_z (C : cx p s m args meth c cc nL own n0 G K) (w : wn n0 G ws s H locs) (q0 : Nat) {a n : Nat} {f : Nat → Int32} {w2 : va_W} (ha : ws[q0]? = some (a, .inl (K.2.2.1, n, .inl f))) {i x : Int32} (hin : vp_in i n) (h2 : ws.set q0 (a, .inl (K.2.2.1, n, .inl (upd f i.toNatClampNeg (vp_nar .boolean x)))) = w2) (hdg : decode cc pc = .ok (.bastore, 1))
    (kk : ∀ (H1 : Heap) (locs1 : List Loc), wn n0 G w2 s H1 locs1 → W p l e R s m args below meth c H1 locs1 cells slots Q (F0 m (pc + 1) ls rest)) : W p l e R s m args below meth c H locs cells slots Q (F0 m pc ls (.int x :: .int i :: .ref a :: rest)) := by
  subst h2
  exact va_zast C.1 C.2.1 C.2.2.2.2.2.2.1 w.1 w.2.1 w.2.2 q0 2 ha rfl hin hdg (fun H1 locs1 hP hD hS => kk H1 locs1 ⟨hP, hD, hS⟩)
theorem ka_a (C : cx p s m args meth c cc nL own n0 G K) (w : wn n0 G ws s H locs) (q0 : Nat) {a n : Nat} {f : Nat → Option Nat} {v : Value} (ha : ws[q0]? = some (a, .inl (K.2.2.2, n, .inr (.inr (.inr (.inr f)))))) {i : Int32} (hin : vp_in i n) (hv : va_rf (f i.toNatClampNeg) = v) (hdg : decode cc pc = .ok (.aaload, 1))
    (kk : W p l e R s m args below meth c H locs cells slots Q (F0 m (pc + 1) ls (v :: rest))) : W p l e R s m args below meth c H locs cells slots Q (F0 m pc ls (.int i :: .ref a :: rest)) := by
  have hlt : i.toNatClampNeg < n := Nat.not_le.mp fun q => hin (Or.inr q)
  subst hv
  exact W.aald (v := va_rf (f i.toNatClampNeg)) (ty := .array .int) C.1 C.2.1 (w.1 q0 _ ha) ((C.2.2.2.2.2.2.1.2 3 _ rfl).1 n (fun j => va_rf (f j))) rfl (fun q => by cases q) (by show ¬ (i < 0 ∨ (arrV _ _ _).slots.size ≤ _); rw [arrV_size]; exact hin) (by show (arrV _ _ _).slots[_]? = _; rw [arrV_read _ _ hlt]) rfl rfl hdg kk
theorem kg {C1 ref : String} {T : u_T} {N ci index : Nat} (C : cx p s m args meth c cc nL own n0 G K) (w : wn n0 G ws s H locs) (q0 k : Nat) (hin : ∀ w ∈ u_ws C1 T N, w ∈ gw) {a : Nat} {fs : List Value} {v : Value} (hc : cl[ci]? = some (C1, T, N)) (he : ws[q0]? = some (a, .inr (ci, fs))) (hk : k < N) (hlink : Cond.fieldLink own index ref (T k).2.1 (T k).2.2.1 ∈ gw) (hsame : (T k).1 = ref) (hv : fs[k]? = some v) (hdg : decode cc pc = .ok (.getfield index, 3))
    (kk : W p l e R s m args below meth c H locs cells slots Q (F0 m (pc + 3) ls (v :: rest))) : W p l e R s m args below meth c H locs cells slots Q (F0 m pc ls (.ref a :: rest)) :=
  va_get (D := G) (ci := ci) (v := v) (C := C1) (T := T) (N := N) C.1 C.2.1 C.2.2.2.2.1 hin C.2.2.2.1 C.2.2.2.2.2.2.1 w.1 q0 he hc k hk (C.2.2.2.2.1 _ hlink) (fun _ h => by rw [hsame] at h; exact h) hv hdg kk
theorem kp {C1 ref : String} {T : u_T} {N ci index : Nat} {ty0 : Nat → FieldType} (C : cx p s m args meth c cc nL own n0 G K) (w : wn n0 G ws s H locs) (q0 k : Nat) (hin : ∀ w ∈ u_ws C1 T N, w ∈ gw) (hty : ∀ k, k < N → parseFieldDescriptor (T k).2.2.1 = some (ty0 k)) (hnm : ∀ a, a < N → ∀ b, b < N → a ≠ b → (T a).2.1 ≠ (T b).2.1) {a : Nat} {fs : List Value} {v : Value} {w2 : va_W} (hc : cl[ci]? = some (C1, T, N)) (he : ws[q0]? = some (a, .inr (ci, fs))) (hk : k < N) (hlink : Cond.fieldLink own index ref (T k).2.1 (T k).2.2.1 ∈ gw) (hsame : (T k).1 = ref) (hfin : (T k).2.2.2 = false) (hn : narrow (ty0 k) v = v) (hfit : fits (ty0 k) v = true) (hl : k < fs.length) (h2 : ws.set q0 (a, .inr (ci, fs.set k v)) = w2) (hdg : decode cc pc = .ok (.putfield index, 3))
    (kk : ∀ (H1 : Heap) (locs1 : List Loc), wn n0 G w2 s H1 locs1 → W p l e R s m args below meth c H1 locs1 cells slots Q (F0 m (pc + 3) ls rest)) : W p l e R s m args below meth c H locs cells slots Q (F0 m pc ls (v :: .ref a :: rest)) := by
  subst h2
  exact va_put (D := G) (ci := ci) (v := v) (ty := ty0 k) (C := C1) (T := T) (N := N) C.1 C.2.1 C.2.2.2.2.1 hin ty0 hty hnm C.2.2.2.1 C.2.2.2.2.2.2.1 w.1 w.2.1 w.2.2 q0 he hc k hk (C.2.2.2.2.1 _ hlink) (fun _ h => by rw [hsame] at h; exact h) hfin (hty k hk) hn hfit hl hdg (fun H1 locs1 hP hD hS => kk H1 locs1 ⟨hP, hD, hS⟩)
theorem in_5 {x : Int32} (h : vp_in x 5) : x = 0 ∨ x = 1 ∨ x = 2 ∨ x = 3 ∨ x = 4 := by
  obtain ⟨j, hj, rfl⟩ := vp_in_of h (by decide)
  rcases (show j = 0 ∨ j = 1 ∨ j = 2 ∨ j = 3 ∨ j = 4 by omega) with rfl | rfl | rfl | rfl | rfl
  · exact Or.inl rfl
  · exact Or.inr (Or.inl rfl)
  · exact Or.inr (Or.inr (Or.inl rfl))
  · exact Or.inr (Or.inr (Or.inr (Or.inl rfl)))
  · exact Or.inr (Or.inr (Or.inr (Or.inr rfl)))
theorem kz_n {v : Int32} (h : v = 0 ∨ v = 1) : narrow .boolean (.int v) = .int v ∧ fits .boolean (.int v) = true := by rcases h with rfl | rfl <;> exact ⟨rfl, rfl⟩
end BASE
