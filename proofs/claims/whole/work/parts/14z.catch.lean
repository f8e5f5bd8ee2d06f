/-! the law's wrappers: a method with a table of handlers, and what it catches -/
def tbl (hh : List (Nat × Nat × Nat × Nat)) : List ExceptionTableEntry := hh.map fun q => ⟨q.1, q.2.1, q.2.2.1, q.2.2.2⟩
theorem tbl_eq {L : List ExceptionTableEntry} {hh : List (Nat × Nat × Nat × Nat)} (h : L.map (fun h => (h.startPc, h.endPc, h.handlerPc, h.catchType)) = hh) : L = tbl hh := by
  subst h
  induction L with
  | nil => rfl
  | cons a l ih =>
    exact congrArg (a :: ·) ih
theorem wn_grow {n0 : Nat} {G : va_G} {ws : va_W} {s : State} {H H1 : Heap} {locs : List Loc} (w : wn n0 G ws s H locs) (h1 : H.size ≤ H1.size) (h2 : ∀ q : Nat, q < H.size → H1[q]? = H[q]?) : wn n0 G ws s H1 locs :=
  ⟨w.1.kept (fun k q hk => h2 q.1 (w.1 k q hk).lt), w.2.1, Nat.le_trans w.2.2.1 h1, fun q g1 g2 => by rw [h2 q (Nat.lt_of_lt_of_le g1 w.2.2.1)]; exact w.2.2.2.1 q g1 g2, w.2.2.2.2⟩
theorem fx_nc {n0 : Nat} {U : State} {A B : String} (h : fx n0 U) (hm : Cond.not (.castable A B) ∈ flatC (Jvm.Cond.and given_1 narrow_1)) : va_Nc A B U := by
  obtain ⟨s0, a0, h1, h2, h3, h4, h5⟩ := h
  exact va_Nc.moved h2.alike (va_Nc.of (flat_of_before _ h5 _ hm))
/-- the class's world, and behind it the law's array of one long -/
abbrev xo (K : KT) (ad : Nat → Nat) (S : ST) (X : va_W) : va_W := (ad 49, .inl (K.2.1, 1, .inr (.inl (S.2.1 49)))) :: X
section CATCH
variable {p : Program} {l : Launch} {e : Env} {R : Room} {s : State} {m : MethodId} {args : Array Value} {below : List Frame} {meth : Method} {c : Code} {H : Heap} {locs : List Loc} {cells slots : Nat} {Q : State → Prop} {cc : ByteArray} {nL : Nat} {own : String} {n0 : Nat} {G : va_G} {K : KT} {ws : va_W} {pc : Nat} {ls : Array Slot} {rest : List Value}
theorem tx_catch {E name : String} {ce : Cell} {x : Addr} (C : cx p s m args meth c cc nL own n0 G K) (pre : List ExceptionTableEntry) (y : ExceptionTableEntry) (suf : List ExceptionTableEntry) (hsplit : c.exceptionTable.toList = pre ++ y :: suf)
    (hpass : ∀ z ∈ pre, z.catchType ≠ 0 ∧ ∃ nm : String, Cond.classLink own z.catchType nm ∈ gw ∧ va_Nc E nm s) (hy : covers y pc = true) (h0 : y.catchType ≠ 0) (hlink : Cond.classLink own y.catchType name ∈ gw) (hcast : Cond.castable E name ∈ tables_1)
    (hce : H[x]? = some ce) (hv : ce.vm = .none) (hcl : s.vm.findClass E = some ce.cls)
    (kk : W p l e R s m args below meth c H locs cells slots Q (F0 m y.handlerPc ls [.ref x])) : wx p l e R s m args below meth c H locs cells slots Q (F0 m pc ls rest) x := by
  have C' := C
  obtain ⟨-, -, -, hown, hts, -, -, -, hF⟩ := C'
  intro T hT X
  have hpl : e.platform.magicAccessors = ({} : Platform).magicAccessors := by rw [X.admits.platform]
  obtain ⟨c3, c4, hc3, hc4, hasg⟩ := Cond.castable_spec (fx_kd2 (args := args) hF hcast rfl)
  obtain ⟨c5, hc5, hcl5⟩ := Cond.classLink_spec hown (hts _ hlink) e.platform hpl
  cases hc3.symm.trans hcl
  cases hc4.symm.trans hc5
  obtain ⟨k9, h9, -⟩ := Vm.findClass_spec hcl
  obtain ⟨vm1, hW1, hf⟩ := sk_all (f := F0 m pc ls rest) (x := x) (suf := suf) hy h0 hcl5 hasg hv ⟨k9, h9⟩ pre ((T.setTop (F0 m pc ls rest)).pushFrame (.throwing x)) (by rw [Stand.throwing_vm]; exact X.warmed) (by rw [Stand.throwing_heap, hT]; exact hce)
    (fun z hz => by
      obtain ⟨hz0, nm, hl1, a8, b8, g1, g2, g3⟩ := hpass z hz
      obtain ⟨c6, hc6, hcl6⟩ := Cond.classLink_spec hown (hts _ hl1) e.platform hpl
      cases g1.symm.trans hcl
      cases g2.symm.trans hc6
      exact ⟨hz0, _, hcl6, g3⟩)
  obtain ⟨t, a1, b1⟩ := kk (T.setVm vm1) hT (X.noted hW1)
  refine ⟨t, sk_go (g := F0 m pc ls rest) (h := y.handlerPc) (vm1 := vm1) X.here (fun Q9 E9 d9 a9 => ?_) a1, b1⟩
  rw [Jvm.W.findHandler_eq (meth := meth) (code := c) (by rw [Stand.throwing_vm]; exact X.method') X.code, hsplit]
  exact hf Q9 E9 d9 a9
variable {y : MethodName} {bytes : ByteArray} {maxL mc ms n index : Nat} {ret : Option FieldType} {rm : Room} {As st0 : List Value} {Qc : Array Value → State → Outcome → State → Prop} {free : Addr → Prop} {hh : List (Nat × Nat × Nat × Nat)}
/-- the start of a body with handlers -/
theorem kw_start {av : List Value}
    (hy : plainName y.cls = true) (hc : y.cls = own)
    (body : ∀ (p : Program) (e : Env) (s : State) (m : MethodId) (below : List Frame) (meth : Method) (c : Code), cx p s m av.toArray meth c bytes maxL own n0 G K → meth.sig.returnType = ret → c.exceptionTable.toList = tbl hh → wn n0 G ws s s.heap [] → W p l e rm s m av.toArray below meth c s.heap [] 0 0 (MQ below Qc av.toArray s mc ms free) (entryFrame m av.toArray maxL)) :
    Met l y (Cond.codeWith y bytes maxL ret hh :: gw) rm (va_Pc av (wb n0 G K ws)) Qc mc ms free := by
  refine va_MetW (cc := bytes) (maxL := maxL) (ret := ret) (hh := hh) hy rfl ?_
  intro p e s m args below meth c s1 B hml hv
  obtain ⟨rfl, hn, hP, hK, hD, hF⟩ := hv
  have hts := atoms_spec (ws := Cond.codeWith y bytes maxL ret hh :: gw) B.pre
  have hown : s.vm.findClass own = some m.cls := hc ▸ findClass_of_methodNamed B.named
  obtain ⟨m9, meth9, c9, hn9, h1, h2, -, -, h6, -⟩ := Cond.codeWith_spec (hts _ List.mem_cons_self)
  cases hn9.symm.trans B.named
  cases h1.symm.trans B.method
  cases h2.symm.trans (Stand.of_body B).code
  exact body p e s m below meth c ⟨B.exec, B.bytes, hml, hown, fun w h => hts w (List.mem_cons_of_mem _ h), B.notSynchronized, hK, hn, hF⟩ B.returns (tbl_eq h6) ⟨hP, hD, va_S.rf⟩
/-- a static call of such a method -/
theorem kr_W
    (C : cx p s m args meth c cc nL own n0 G K) (w : wn n0 G ws s H locs) (hM : Met l y (Cond.codeWith y bytes maxL ret hh :: gw) rm (va_Pc As (wb n0 G K ws)) Qc mc ms free)
    (k1 : Cond.methodLink own index y ∈ gw) (k2 : Cond.static y ∈ gw) (k4 : Cond.initialized y.cls ∈ gw) (k5 : Cond.codeWith y bytes maxL ret hh ∈ gw) (hd : y.cls ≠ "java/lang/invoke/MethodHandle" ∧ y.cls ≠ "java/lang/invoke/VarHandle" ∧ (parseMethodDescriptor y.desc).map (fun d => d.parameters.length) = some n)
    (hrc : rm.cells = mc) (hrs : rm.slots = ms) (hR : rm.frames + 1 ≤ R.frames ∧ 8 + (maxL + 11) + rm.locals ≤ R.locals) (hn : As.length = n) (hl : ls.size = nL) (hst : st0 = As.reverse ++ rest) (hr : (rest.map fun v => v.category).sum ≤ 8) (hdg : decode cc pc = .ok (.invokestatic index, 3)) (hf : cells + mc ≤ R.cells ∧ slots + ms ≤ R.slots) :
    va_Run p l e R s m args below meth c H locs cells slots mc ms (F0 m pc ls st0) rest (Qc As.toArray) free := by
  have C' := C
  obtain ⟨hx, hb, hml, hown, hts, -, hK, -, -⟩ := C'
  obtain ⟨hy1, hy2, hlen⟩ := hd
  obtain ⟨mk, methM, cM, hnamed, hmethM, -, -, -, -, -, -, hsigM⟩ := Cond.codeWith_spec (hts _ k5)
  have hstatic : methM.isStatic = true := Cond.static_spec hnamed hmethM (hts _ k2)
  obtain ⟨kP, hkP, -⟩ := className_of_methodNamed hnamed
  have hinitP : kP.init = .initialized := Cond.initialized_spec (findClass_of_methodNamed hnamed) hkP (hts _ k4)
  have hAl : As.length = methM.sig.parameters.length := by
    rw [hsigM] at hlen
    exact hn.trans (Option.some.inj hlen).symm
  have hB : Back l R p e below s args y 3 8 (PreOf R mc ms (va_Pc As (wb n0 G K ws))) (PostOf Qc mc ms free) :=
    va_backW (bytes := bytes) (maxL := maxL) (ret := ret) (hh := hh) hM wb_blind hrc hrs hR.1 hR.2 (pay_in hts (gw_cons k5)) List.mem_cons_self (fun a' U hW => word_at hW (Or.inl (by first | rfl | simp [Cond.onTables, Cond.keeps, Cond.steady])) (hts _ k4))
  intro T hT X
  obtain ⟨vm1, X1, hs1⟩ := X.invokestatic hx hown (hts _ k1) hnamed hmethM hstatic hkP hinitP ⟨hy1, hy2⟩ (g := F0 m pc ls st0) rfl (argsL := As) (rest := rest) hAl hst (by rw [hb]; exact hdg)
  obtain ⟨v, ⟨U', l2, c2, s2⟩, X', ⟨g', mk', t, L, e1, e2, hq, h1, hL, h2, h3⟩, hst2⟩ := hB m meth c ⟨T.setVm vm1, locs, cells, slots⟩ { F0 m pc ls st0 with stack := rest } (.invokestatic index) mk As.toArray X1 rfl (hl.trans hml.symm) (by rw [hb]; exact hdg) (lv_room (m := m) (pc := pc) (ls := ls) (rest := rest) hr) (X1.named hnamed) ⟨hf.1, hf.2, wb_of C w (T.setVm vm1) hT X1.warmed⟩
  dsimp only [Pt.U, Pt.locs, Pt.cells, Pt.slots] at X' e1 e2 h1 h2 h3 hst2
  subst h1; subst h2; subst h3
  exact ⟨v, (T.setVm vm1).calling g' mk' As.toArray, t, U', L, hT, X', hL, e1, e2, hq, fun tg h => hs1 _ fun acts => by rw [doInvoke_state]; exact hst2.trans h⟩
end CATCH
