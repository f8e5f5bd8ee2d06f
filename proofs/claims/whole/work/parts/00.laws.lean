/-! laws of my own, over the machine: a throw that some handlers pass on and one takes; what the word arrayOver says of an array of arrays; the making of an int[5][401] -/
section SEEK
variable {e : Env} {s : State} {f : JFrame} {x : Addr} {ce : Cell}
/-- one row of a handler table whose class links: it takes the object, or passes it on; the tables are warmer then -/
theorem sk_row {U : State} {y : ExceptionTableEntry} {k : ClassId} (hW : s.WarmedH U.vm) (hc : covers y f.pc = true) (h0 : y.catchType ≠ 0) (hl : s.vm.ClassLinks e.platform f.method.cls y.catchType k) (hx : U.heap[x]? = some ce) (hv : ce.vm = .none) (hk : ∃ q, s.vm.classes[ce.cls]? = some q) :
    ∃ vm1 : Vm, s.WarmedH vm1 ∧ ∀ (t : List ExceptionTableEntry) (Q : Handler → Pre) (E : CtlPost) (d : Bool) (acts : List Action),
      wp (findHandler.go f x (y :: t)) Q E e d acts U ↔ if s.vm.assignable ce.cls k = true then Q (.found y.handlerPc) d acts (U.setVm vm1) else wp (findHandler.go f x t) Q E e d acts (U.setVm vm1) := by
  obtain ⟨hg, hw1, -⟩ := State.classEntry (e := e) hW hl
  obtain ⟨ha, ht⟩ := hg.op (op := VmOp.resolveClass f.method.cls y.catchType) rfl
  obtain ⟨q1, hq1⟩ := hk
  obtain ⟨_, _, _, q2, _, _, _, _, _, hq2, _, _⟩ := hl.here
  obtain ⟨q3, hq3, -⟩ := hw1.alike.2.2 _ _ hq1
  obtain ⟨q4, hq4, -⟩ := hw1.alike.2.2 _ _ hq2
  have hs : ∀ j, ce.vm ≠ .statics j := fun j => VmData.ne_statics_of (by rw [hv]; rfl) j
  have ht2 := hw1.alike.assignable ce.cls k
  have hc2 : (decide (y.startPc ≤ f.pc) && decide (f.pc < y.endPc)) = true := hc
  refine ⟨_, hw1, fun t Q E d acts => ?_⟩
  cases hfit : s.vm.assignable ce.cls k <;> rw [hfit] at ht2 <;>
    simp [findHandler.go, hc2, h0, ha, ht, hx, hs, hq3, hq4, ht2, VmOp.dirties, VmOp.acts]
/-- the whole table: rows that pass the object on, or don't cover the place, then the one that takes it -/
theorem sk_all {y : ExceptionTableEntry} {k : ClassId} {suf : List ExceptionTableEntry} (hc : covers y f.pc = true) (h0 : y.catchType ≠ 0) (hl : s.vm.ClassLinks e.platform f.method.cls y.catchType k) (hfit : s.vm.assignable ce.cls k = true) (hv : ce.vm = .none) (hk : ∃ q, s.vm.classes[ce.cls]? = some q) :
    ∀ (pre : List ExceptionTableEntry) (U : State), s.WarmedH U.vm → U.heap[x]? = some ce → (∀ z ∈ pre, z.catchType ≠ 0 ∧ ∃ j : ClassId, s.vm.ClassLinks e.platform f.method.cls z.catchType j ∧ s.vm.assignable ce.cls j = false) →
      ∃ vm1 : Vm, s.WarmedH vm1 ∧ ∀ (Q : Handler → Pre) (E : CtlPost) (d : Bool) (acts : List Action), wp (findHandler.go f x (pre ++ y :: suf)) Q E e d acts U ↔ Q (.found y.handlerPc) d acts (U.setVm vm1)
  | [], U, hW, hx, _ => by
    obtain ⟨vm1, h1, h2⟩ := sk_row hW hc h0 hl hx hv hk
    exact ⟨vm1, h1, fun Q E d acts => by rw [List.nil_append, h2, if_pos hfit]⟩
  | z :: zs, U, hW, hx, hp => by
    obtain ⟨z0, j, zl, zn⟩ := hp z List.mem_cons_self
    have hp2 : ∀ z' ∈ zs, z'.catchType ≠ 0 ∧ ∃ j : ClassId, s.vm.ClassLinks e.platform f.method.cls z'.catchType j ∧ s.vm.assignable ce.cls j = false := fun z' h => hp z' (List.mem_cons_of_mem _ h)
    cases hz : covers z f.pc with
    | false =>
      obtain ⟨vm1, h1, h2⟩ := sk_all hc h0 hl hfit hv hk zs U hW hx hp2
      exact ⟨vm1, h1, fun Q E d acts => by rw [List.cons_append, Jvm.W.findHandler_go_skip hz]; exact h2 Q E d acts⟩
    | true =>
      obtain ⟨vm0, h3, h4⟩ := sk_row hW hz z0 zl hx hv hk
      obtain ⟨vm1, h1, h2⟩ := sk_all hc h0 hl hfit hv hk zs (U.setVm vm0) h3 hx hp2
      exact ⟨vm1, h1, fun Q E d acts => by rw [List.cons_append, h4, if_neg (by rw [zn]; decide)]; exact h2 Q E d acts⟩
/-- the machine's step at the note, where the search leaves other tables -/
theorem sk_step {U : State} {r : List Frame} {h : Nat} {vm1 : Vm} (hf : ∀ (Q : Handler → Pre) (E : CtlPost) (d : Bool) (acts : List Action), wp (findHandler f x) Q E e d acts U ↔ Q (.found h) d acts (U.setVm vm1)) :
    (stepThrowing e U x (.java f :: r)).1 = (U.setVm vm1).setFrames (.java { f with pc := h, stack := [.ref x] } :: r) := by
  simp only [stepThrowing, searchFrame, vmDo]
  generalize hq : Sem.go _ e false [] U = res
  obtain ⟨as, rfl, -⟩ := Sem.eq_ok_of hq (a := Handler.found h) (s' := U.setVm vm1) (acts' := []) (by simp [hf _ _ _ _])
  rfl
theorem sk_sf (U : State) (v : Vm) (F : List Frame) : (U.setFrames F).setVm v = (U.setVm v).setFrames F := rfl
theorem sk_go {tb : Tables} {T t : State} {g : JFrame} {c : Code} {below : List Frame} {h : Nat} {vm1 : Vm} (A : At T g.method c below)
    (hf : ∀ (Q : Handler → Pre) (E : CtlPost) (d : Bool) (acts : List Action), wp (findHandler g x) Q E e d acts ((T.setTop g).pushFrame (.throwing x)) ↔ Q (.found h) d acts (((T.setTop g).pushFrame (.throwing x)).setVm vm1))
    (hr : Steps tb e below ((T.setVm vm1).setTop { g with pc := h, stack := [.ref x] }) t) : Steps tb e below ((T.setTop g).pushFrame (.throwing x)) t := by
  obtain ⟨h1, h2⟩ := A.throwing x
  refine Steps.head h1 h2 ?_
  obtain ⟨g0, hg⟩ := Option.isSome_iff_exists.mp A.top
  obtain ⟨r, hr0⟩ := State.topJava?_eq_some.mp hg
  have hr1 : (T.setVm vm1).frames = .java g0 :: r := hr0
  rw [stepThread_throwing (frames_entered A.top _), sk_step hf]
  rw [State.setTop_of_frames _ hr1] at hr
  rw [hr0, List.tail_cons, State.pushFrame, State.setTop_of_frames _ hr0, sk_sf, sk_sf, State.setFrames_setFrames, State.setFrames_setFrames]
  exact hr
end SEEK
theorem av_over {s : State} {args : Array Value} (h : (Cond.arrayOver (.array .int)).before args s = true) :
    ∃ (cI cA : ClassId) (kA : Class), s.vm.findClass (FieldType.array .int).toString = some cI ∧ s.vm.classes[cA]? = some kA ∧ kA.kind = .array cI (.array .int) ∧ s.vm.findClass ("[" ++ (FieldType.array .int).toString) = some cA := by
  simp only [Cond.before, Cond.holds, Cond.value, beq_iff_eq, Option.bind_eq_some_iff, Option.map_eq_some_iff] at h
  obtain ⟨cI, h1, cA, h2, kA, h3, h4⟩ := h
  obtain ⟨hlt, hp, -⟩ := Array.findIdx?_eq_some_iff_getElem.mp h2
  rw [(Array.getElem?_eq_some_iff.mp h3).2] at hp
  cases hk : kA.kind with
  | array comp ty =>
    rw [hk] at h4 hp
    have h5 : (comp == cI) = true := hp
    have h6 : (decide (ty = .array .int) && decide (s.vm.findClass ("[" ++ (FieldType.array .int).toString) = some cA)) = true := h4
    rw [Bool.and_eq_true, decide_eq_true_eq, decide_eq_true_eq] at h6
    exact ⟨cI, cA, kA, h1, h3, by rw [hk, eq_of_beq h5, h6.1], h6.2⟩
  | _ => rw [hk] at h4; exact Bool.noConfusion (show false = true from h4)
/-- the outer array when j rows hang in it; a row; the state then -/
def mw_o (cA : ClassId) (h0 j : Nat) : Cell := arrV cA 5 (fun i => if i < j then Value.ref (h0 + 1 + i) else Value.null)
def mw_r (cI : ClassId) : Cell := arrV cI 401 (fun _ => Value.int 0)
def mw_s (U : State) (cA cI : ClassId) : Nat → State
  | 0 => U.pushCell (mw_o cA U.heap.size 0)
  | j + 1 => ((mw_s U cA cI j).pushCell (mw_r cI)).setCell U.heap.size (mw_o cA U.heap.size (j + 1))
theorem mw_o0 (cA : ClassId) (h0 : Nat) : ({ cls := cA, slots := Array.replicate 5 Value.null, vm := .none } : Cell) = mw_o cA h0 0 := by
  rw [arrV_new]
  exact congrArg (arrV cA 5) (funext fun i => (if_neg (Nat.not_lt_zero i)).symm)
theorem mw_r0 (cI : ClassId) : ({ cls := cI, slots := Array.replicate 401 (defaultValue .int), vm := .none } : Cell) = mw_r cI := arrV_new cI 401 _
theorem mw_on (cA : ClassId) (h0 j : Nat) : (mw_o cA h0 j).slots.size = 5 := arrV_size cA 5 _
theorem mw_rn (cI : ClassId) : (mw_r cI).slots.size = 401 := arrV_size cI 401 _
theorem mw_oS (cA : ClassId) (h0 j : Nat) : (mw_o cA h0 j).setSlot j (.ref (h0 + 1 + j)) = mw_o cA h0 (j + 1) := by
  unfold mw_o
  rw [arrV_store]
  refine congrArg (arrV cA 5) (funext fun i => ?_)
  show (if i = j then Value.ref (h0 + 1 + j) else (if i < j then Value.ref (h0 + 1 + i) else Value.null)) = if i < j + 1 then Value.ref (h0 + 1 + i) else Value.null
  by_cases e : i = j
  · rw [if_pos e, if_pos (by omega), e]
  · rw [if_neg e]
    by_cases h : i < j
    · rw [if_pos h, if_pos (by omega)]
    · rw [if_neg h, if_neg (by omega)]
theorem mw_f (U : State) (cA cI : ClassId) : ∀ j : Nat, (mw_s U cA cI j).heap.size = U.heap.size + 1 + j ∧ (mw_s U cA cI j).heap[U.heap.size]? = some (mw_o cA U.heap.size j) ∧ (mw_s U cA cI j).vm = U.vm ∧ (mw_s U cA cI j).slotsUsed = U.slotsUsed + 5 + j * 401
  | 0 => by
    refine ⟨size_pushCell U _, State.heap_pushCell_size _ _, rfl, ?_⟩
    have h9 := mw_on cA U.heap.size 0
    show U.slotsUsed + (mw_o cA U.heap.size 0).slots.size = U.slotsUsed + 5 + 0 * 401
    omega
  | j + 1 => by
    obtain ⟨f1, f2, f3, f4⟩ := mw_f U cA cI j
    have hlt : U.heap.size < (mw_s U cA cI j).heap.size := by rw [f1]; omega
    have h2 : ((mw_s U cA cI j).pushCell (mw_r cI)).heap[U.heap.size]? = some (mw_o cA U.heap.size j) := by rw [State.heap_pushCell_of_lt (h := hlt)]; exact f2
    refine ⟨?_, State.heap_setCell_self h2, f3, ?_⟩
    · have h5 := size_setCell ((mw_s U cA cI j).pushCell (mw_r cI)) U.heap.size (mw_o cA U.heap.size (j + 1))
      have h6 := size_pushCell (mw_s U cA cI j) (mw_r cI)
      show (((mw_s U cA cI j).pushCell (mw_r cI)).setCell U.heap.size (mw_o cA U.heap.size (j + 1))).heap.size = U.heap.size + 1 + (j + 1)
      omega
    · have h5 := mw_rn cI
      show (mw_s U cA cI j).slotsUsed + (mw_r cI).slots.size = U.slotsUsed + 5 + (j + 1) * 401
      omega
theorem mw_old (U : State) (cA cI : ClassId) {a : Nat} (ha : a < U.heap.size) : ∀ j : Nat, (mw_s U cA cI j).heap[a]? = U.heap[a]?
  | 0 => State.heap_pushCell_of_lt _ _ ha
  | j + 1 => by
    have f1 := (mw_f U cA cI j).1
    have hlt : a < (mw_s U cA cI j).heap.size := Nat.lt_of_lt_of_le ha (by rw [f1]; omega)
    show (((mw_s U cA cI j).pushCell (mw_r cI)).setCell U.heap.size _).heap[a]? = _
    rw [State.heap_setCell_other (Nat.ne_of_gt ha), State.heap_pushCell_of_lt (h := hlt)]
    exact mw_old U cA cI ha j
theorem mw_row (U : State) (cA cI : ClassId) : ∀ j i : Nat, i < j → (mw_s U cA cI j).heap[U.heap.size + 1 + i]? = some (mw_r cI)
  | 0, _, h => absurd h (Nat.not_lt_zero _)
  | j + 1, i, h => by
    have f1 := (mw_f U cA cI j).1
    show (((mw_s U cA cI j).pushCell (mw_r cI)).setCell U.heap.size _).heap[U.heap.size + 1 + i]? = _
    rw [State.heap_setCell_other (show U.heap.size ≠ U.heap.size + 1 + i by omega)]
    by_cases e : i = j
    · rw [e, ← f1]
      exact State.heap_pushCell_size _ _
    · have hlt : U.heap.size + 1 + i < (mw_s U cA cI j).heap.size := by rw [f1]; omega
      rw [State.heap_pushCell_of_lt (h := hlt)]
      exact mw_row U cA cI j i (by omega)
theorem mw_top (U : State) (f : JFrame) (cA cI : ClassId) : ∀ j : Nat, mw_s (U.setTop f) cA cI j = (mw_s U cA cI j).setTop f
  | 0 => rfl
  | j + 1 => by
    show ((mw_s (U.setTop f) cA cI j).pushCell (mw_r cI)).setCell U.heap.size (mw_o cA U.heap.size (j + 1)) = _
    rw [mw_top U f cA cI j]
    rfl
section MAKE
variable {E : CtlPost} {e : Env} {d : Bool} {acts : List Action} {U : State} {cA cI cc : ClassId} {kA kI : Class} {n k : Int32} {Q : Addr → Pre}
theorem mw_make1 (hI : U.vm.classes[cI]? = some kI) (hkI : kI.kind = .array cc .int) (hk : ¬ k < 0) (hk4 : k.toNatClampNeg = 401) (hl : ¬ 401 > e.platform.arrayLengthLimit) (hh : ¬ 401 * componentBytes .int > e.platform.maxHeapBytes) (hc : U.heap.size < e.platform.maxCells) (hs : U.slotsUsed + 401 ≤ e.platform.maxSlots)
    (hq : ∀ acts', Q U.heap.size d acts' (U.pushCell (mw_r cI))) : wp (Jvm.Op.multianewarray.make cI [k]) Q E e d acts U := by
  rw [Jvm.Op.multianewarray.make]
  simp only [wp_bind', Jvm.W.ite, hk, if_false, wp_pure', Jvm.W.theClass, hI, hkI, Option.some.injEq, exists_eq_left']
  rw [hk4]
  exact Jvm.W.newArray_of (howMany := 401) (init := defaultValue .int) hI hkI hl hh hc hs rfl (fun acts' => by have h9 := hq acts'; rw [← mw_r0 cI] at h9; exact h9)
theorem mw_make (hA : U.vm.classes[cA]? = some kA) (hkA : kA.kind = .array cI (.array .int)) (hI : U.vm.classes[cI]? = some kI) (hkI : kI.kind = .array cc .int) (hn : ¬ n < 0) (hn5 : n.toNatClampNeg = 5) (hk : ¬ k < 0) (hk4 : k.toNatClampNeg = 401)
    (hl : 401 ≤ e.platform.arrayLengthLimit) (hh : 401 * 4 ≤ e.platform.maxHeapBytes) (hc : U.heap.size + 6 ≤ e.platform.maxCells) (hs : U.slotsUsed + 2010 ≤ e.platform.maxSlots)
    (hq : ∀ d' acts', Q U.heap.size d' acts' (mw_s U cA cI 5)) : wp (Jvm.Op.multianewarray.make cA [n, k]) Q E e d acts U := by
  have hb1 : componentBytes (.array .int) = 4 := rfl
  have hb2 : componentBytes .int = 4 := rfl
  have hfr : ∀ a : Addr, fits (.array .int) (.ref a) = true := fun _ => rfl
  have hfind : ([k].find? (· < 0)) = none := by simp [hk]
  rw [Jvm.Op.multianewarray.make]
  simp only [wp_bind', Jvm.W.ite, hn, if_false, wp_pure', Jvm.W.theClass, hA, hkA, Option.some.injEq, exists_eq_left']
  refine Jvm.W.newArray_of hA hkA (by rw [hn5]; omega) (by rw [hn5, hb1]; omega) (by omega) (by rw [hn5]; omega) rfl (fun acts1 => ?_)
  simp only [hfind]
  rw [ite_self, wp_bind', Std.Legacy.Range.forIn_eq_forIn_range']
  have hsz : ([:n.toNatClampNeg] : Std.Legacy.Range).size = n.toNatClampNeg := by simp [Std.Legacy.Range.size]
  rw [hsz, hn5]
  show wp (forIn (List.range' 0 5 1) PUnit.unit _) _ E e d acts1 _
  refine wp_forIn_inv (fun rest s' => ∃ i, i + rest.length = 5 ∧ rest = List.range' i rest.length ∧ s' = mw_s U cA cI i) _ _ ⟨0, rfl, rfl, congrArg U.pushCell (mw_o0 cA U.heap.size)⟩ ?_ ?_
  · rintro x rest s' d' acts' Q' ⟨i, hi, hl2, rfl⟩ hnext
    rw [List.length_cons] at hi hl2
    rw [List.range'_succ] at hl2
    obtain ⟨hxi, hr⟩ := List.cons.inj hl2
    subst hxi
    obtain ⟨f1, f2, f3, f4⟩ := mw_f U cA cI x
    have hlt : U.heap.size < (mw_s U cA cI x).heap.size := by rw [f1]; omega
    simp only [wp_bind']
    refine mw_make1 (by rw [f3]; exact hI) hkI hk hk4 (by omega) (by rw [hb2]; omega) (by rw [f1]; omega) (by rw [f4]; omega) (fun acts2 => ?_)
    simp only [wp_bind', Jvm.W.writeLoc, wp_pure']
    refine ⟨mw_o cA U.heap.size x, by rw [State.heap_pushCell_of_lt (h := hlt)]; exact f2, (show VmData.none ≠ VmData.unknown from fun h => nomatch h), by rw [mw_on]; omega, ?_, hnext _ _ _ ⟨x + 1, by omega, hr, ?_⟩⟩
    · show ((mw_s U cA cI x).pushCell (mw_r cI)).fitsSlot cA .none x _ = true
      simp [State.fitsSlot, State.slotType?, f3, hA, hkA, hfr]
    · show _ = ((mw_s U cA cI x).pushCell (mw_r cI)).setCell U.heap.size (mw_o cA U.heap.size (x + 1))
      rw [f1, mw_oS]
  · rintro s' d' acts' ⟨i, hi, -, rfl⟩
    have e5 : i = 5 := by simpa using hi
    subst e5
    simp only [wp_pure']
    exact hq _ _
end MAKE
section MULTI
variable {p : Program} {l : Launch} {e : Env} {R : Room} {s : State} {m : MethodId} {args : Array Value} {below : List Frame} {meth : Method} {c : Code} {T : State} {locs : List Loc} {cells slots : Nat}
theorem mw_X (X : Stand p l e R s m args below meth c T locs cells slots) (cA cI : ClassId) : ∀ j : Nat, Stand p l e R s m args below meth c (mw_s T cA cI j) locs (cells + 1 + j) (slots + 5 + j * 401)
  | 0 => by
    have h := X.pushed (mw_o cA T.heap.size 0)
    rw [mw_on] at h
    show Stand p l e R s m args below meth c (T.pushCell (mw_o cA T.heap.size 0)) locs (cells + 1) (slots + 5 + 0 * 401)
    rw [Nat.zero_mul]
    exact h
  | j + 1 => by
    have h0 := mw_X X cA cI j
    obtain ⟨f1, f2, -, -⟩ := mw_f T cA cI j
    have hlt : T.heap.size < (mw_s T cA cI j).heap.size := by rw [f1]; omega
    have h2 : ((mw_s T cA cI j).pushCell (mw_r cI)).heap[T.heap.size]? = some (mw_o cA T.heap.size j) := by rw [State.heap_pushCell_of_lt (h := hlt)]; exact f2
    have h := (h0.pushed (mw_r cI)).stored h2 j (.ref (T.heap.size + 1 + j))
    rw [mw_oS, mw_rn] at h
    have h9 := h.dropFresh (fun x hx => by rw [List.mem_singleton.mp hx]; exact X.heapGrown)
    have e3 : slots + 5 + (j + 1) * 401 = slots + 5 + j * 401 + 401 := by omega
    rw [e3]
    exact h9
theorem mw_go (X : Stand p l e R s m args below meth c T locs cells slots) (hexec : p.tables.exec = Jvm.exec) {own : String} {index : Nat} (hown : s.vm.findClass own = some m.cls)
    (hclink : (Cond.classLink own index ("[" ++ (FieldType.array .int).toString)).before args s = true) (hover : (Cond.arrayOver (.array .int)).before args s = true) (harr : (Cond.arrayClass .int).before args s = true)
    {g : JFrame} (hg : g.method = m) (hdg : decode c.code g.pc = .ok (.multianewarray index 2, 4)) {n k : Int32} {rest : List Value} (hst : g.stack = .int k :: .int n :: rest) (hn : ¬ n < 0) (hn5 : n.toNatClampNeg = 5) (hk : ¬ k < 0) (hk4 : k.toNatClampNeg = 401)
    (hc : cells + 6 ≤ R.cells) (hs : slots + 2010 ≤ R.slots) :
    ∃ (vm1 : Vm) (cA cI : ClassId), s.vm.findClass ("[" ++ (FieldType.array .int).toString) = some cA ∧ s.vm.findClass (FieldType.array .int).toString = some cI ∧ Stand p l e R s m args below meth c (mw_s (T.setVm vm1) cA cI 5) locs (cells + 1 + 5) (slots + 5 + 5 * 401) ∧
      ∀ t, Steps p.tables e below ((mw_s (T.setVm vm1) cA cI 5).setTop { g with pc := g.pc + 4, stack := .ref T.heap.size :: rest }) t → Steps p.tables e below (T.setTop g) t := by
  subst hg
  have hpl : e.platform.magicAccessors = ({} : Platform).magicAccessors := by rw [X.admits.platform]
  obtain ⟨cI, cA, kA, hI0, hA0, hkA, hAn⟩ := av_over hover
  obtain ⟨cJ, kI, cc, hJ0, hI1, hkI⟩ := Cond.arrayClass_spec harr
  have eJ : cJ = cI := Option.some.inj (hJ0.symm.trans hI0)
  subst eJ
  obtain ⟨c0, hc0, hcl⟩ := Cond.classLink_spec hown hclink e.platform hpl
  cases hAn.symm.trans hc0
  obtain ⟨hg1, hw1, -⟩ := State.classEntry (e := e) X.warmed hcl
  generalize T.vm.noted g.method.cls index (.cls cA) = vm1 at hg1 hw1
  obtain ⟨kA1, hA2, eA⟩ := hw1.alike.2.2 _ _ hA0
  obtain ⟨kI1, hI2, eI⟩ := hw1.alike.2.2 _ _ hI1
  have qA : kA1.kind = .array cJ (.array .int) := by rw [eA]; exact hkA
  have qI : kI1.kind = .array cc .int := by rw [eI]; exact hkI
  obtain ⟨r1, r2⟩ := X.roomAbove hc hs
  have XF := mw_X (X.noted hw1) cA cJ 5
  refine ⟨vm1, cA, cJ, hAn, hI0, XF, fun t ht => ?_⟩
  have hl : 401 ≤ e.platform.arrayLengthLimit := by rw [Launch.admits_arrayLengthLimit X.admits]; omega
  have hh : 401 * 4 ≤ e.platform.maxHeapBytes := by rw [Launch.admits_maxHeapBytes X.admits]; omega
  jvm_step X.here [hexec, hdg]
  simp only [Jvm.Op.multianewarray.sem, wp_bind', Jvm.W.resolveClassAt_links (State.method?_setTop g X.here.top) hg1]
  rw [Jvm.W.popN, if_neg (by decide)]
  refine ⟨g, State.topJava?_setTop' (s := T.setVm vm1) g X.here.top, [.int n, .int k], rest, rfl, hst, ?_⟩
  simp only [List.mapM_cons, List.mapM_nil, wp_bind', wp_pure']
  refine mw_make (kA := kA1) (kI := kI1) (cc := cc) hA2 qA hI2 qI hn hn5 hk hk4 hl hh (by show T.heap.size + 6 ≤ _; exact r1) (by show T.slotsUsed + 2010 ≤ _; exact r2) (fun d' acts' => ?_)
  have eS : ((T.setTop g).setVm vm1).setTop { g with stack := rest } = (T.setVm vm1).setTop { g with stack := rest } := by
    show ((T.setVm vm1).setTop g).setTop _ = _
    rw [State.setTop_setTop]
  rw [eS, mw_top]
  simp only [wp_bind', Jvm.W.mark, Jvm.W.pushRef, State.topJava?_setTop' _ XF.here.top, Option.some.injEq, exists_eq_left', State.setTop_setTop, State.heap_setTop]
  intro acts
  simp [jvm, XF.here.top]
  exact ht
end MULTI
