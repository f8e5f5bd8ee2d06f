/-! new cells: what is made comes behind the known cells, ahead of the rest X -/
section NEW
variable {p : Program} {l : Launch} {e : Env} {R : Room} {s : State} {m : MethodId} {args : Array Value} {below : List Frame} {meth : Method} {c : Code} {H : Heap} {locs : List Loc} {cells slots : Nat} {Q : State → Prop} {cc : ByteArray} {nL : Nat} {own : String} {n0 : Nat} {G : va_G} {K : KT} {cs X : va_W} {pc : Nat} {ls : Array Slot} {rest : List Value}
theorem wn_front {us : va_W} (w : wn n0 G ((cs ++ us) ++ X) s H locs) : wn n0 G (us ++ (cs ++ X)) s H locs := by
  have h1 : va_P G cl (([] ++ (cs ++ X)) ++ us) H := va_P.swap (a := cs) (b := us) (c := X) w.1
  have h2 : va_D (al n0) (([] ++ (cs ++ X)) ++ us) := va_D.swap (a := cs) (b := us) (c := X) w.2.1
  exact ⟨va_P.swap h1, va_D.swap h2, w.2.2⟩
theorem wn_back {us : va_W} (w : wn n0 G (us ++ (cs ++ X)) s H locs) : wn n0 G ((cs ++ us) ++ X) s H locs :=
  by
  have h1 : va_P G cl (([] ++ us) ++ (cs ++ X)) H := w.1
  have h2 : va_D (al n0) (([] ++ us) ++ (cs ++ X)) := w.2.1
  have g1 : va_P G cl ((cs ++ X) ++ us) H := va_P.swap (a := []) (b := us) (c := cs ++ X) h1
  have g2 : va_D (al n0) ((cs ++ X) ++ us) := va_D.swap (a := []) (b := us) (c := cs ++ X) h2
  exact ⟨va_P.swap g1, va_D.swap g2, w.2.2⟩
theorem al_new (C : cx p s m args meth c cc nL own n0 G K) : ∀ q : Nat, s.heap.size ≤ q → al n0 q := fun _ h => Nat.le_trans C.2.2.2.2.2.2.2.1 h
theorem kn_i (C : cx p s m args meth c cc nL own n0 G K) (w : wn n0 G (cs ++ X) s H locs) (ha : Cond.arrayClass .int ∈ gw) {n : Int32} {N : Nat} (hn : ¬ n < 0) (hN : n.toNatClampNeg = N) (hb : N * 4 ≤ 536870912) (hc : cells + 1 ≤ R.cells) (hs : slots + N ≤ R.slots) (hdg : decode cc pc = .ok (.newarray .int, 2))
    (kk : ∀ (q : Nat) (H1 : Heap), wn n0 G ((cs ++ [(q, .inl (K.1, N, .inl (fun _ => 0)))]) ++ X) s H1 locs → W p l e R s m args below meth c H1 locs (cells + 1) (slots + N) Q (F0 m (pc + 2) ls (.ref q :: rest))) : W p l e R s m args below meth c H locs cells slots Q (F0 m pc ls (.int n :: rest)) := by
  refine va_newa (atype := .int) (ty := .int) (a0 := (N, .inl (fun _ => 0))) C.1 C.2.1 (C.2.2.2.2.1 _ ha) rfl C.2.2.2.2.2.2.1 w.1 w.2.1 w.2.2 (al_new C) (fun _ => rfl) hn hN hb hc hs hdg (fun q cA H1 hK hP hD hS => ?_)
  have h1 : s.vm.findClass ("[" ++ FieldType.int.toString) = some cA := (hK.2 4 _ rfl).2
  have h2 : s.vm.findClass ("[" ++ FieldType.int.toString) = some K.1 := (C.2.2.2.2.2.2.1.2 0 _ rfl).2
  have e9 : cA = K.1 := Option.some.inj (h1.symm.trans h2)
  subst e9
  exact kk q H1 ⟨va_P.swap hP, va_D.swap hD, hS⟩
theorem kn_l (C : cx p s m args meth c cc nL own n0 G K) (w : wn n0 G (cs ++ X) s H locs) (ha : Cond.arrayClass .long ∈ gw) {n : Int32} {N : Nat} (hn : ¬ n < 0) (hN : n.toNatClampNeg = N) (hb : N * 8 ≤ 536870912) (hc : cells + 1 ≤ R.cells) (hs : slots + N ≤ R.slots) (hdg : decode cc pc = .ok (.newarray .long, 2))
    (kk : ∀ (q : Nat) (H1 : Heap), wn n0 G ((cs ++ [(q, .inl (K.2.1, N, .inr (.inl (fun _ => 0))))]) ++ X) s H1 locs → W p l e R s m args below meth c H1 locs (cells + 1) (slots + N) Q (F0 m (pc + 2) ls (.ref q :: rest))) : W p l e R s m args below meth c H locs cells slots Q (F0 m pc ls (.int n :: rest)) := by
  refine va_newa (atype := .long) (ty := .long) (a0 := (N, .inr (.inl (fun _ => 0)))) C.1 C.2.1 (C.2.2.2.2.1 _ ha) rfl C.2.2.2.2.2.2.1 w.1 w.2.1 w.2.2 (al_new C) (fun _ => rfl) hn hN hb hc hs hdg (fun q cA H1 hK hP hD hS => ?_)
  have h1 : s.vm.findClass ("[" ++ FieldType.long.toString) = some cA := (hK.2 4 _ rfl).2
  have h2 : s.vm.findClass ("[" ++ FieldType.long.toString) = some K.2.1 := (C.2.2.2.2.2.2.1.2 1 _ rfl).2
  have e9 : cA = K.2.1 := Option.some.inj (h1.symm.trans h2)
  subst e9
  exact kk q H1 ⟨va_P.swap hP, va_D.swap hD, hS⟩
theorem kn_z (C : cx p s m args meth c cc nL own n0 G K) (w : wn n0 G (cs ++ X) s H locs) (ha : Cond.arrayClass .boolean ∈ gw) {n : Int32} {N : Nat} (hn : ¬ n < 0) (hN : n.toNatClampNeg = N) (hb : N * 1 ≤ 536870912) (hc : cells + 1 ≤ R.cells) (hs : slots + N ≤ R.slots) (hdg : decode cc pc = .ok (.newarray .boolean, 2))
    (kk : ∀ (q : Nat) (H1 : Heap), wn n0 G ((cs ++ [(q, .inl (K.2.2.1, N, .inl (fun _ => 0)))]) ++ X) s H1 locs → W p l e R s m args below meth c H1 locs (cells + 1) (slots + N) Q (F0 m (pc + 2) ls (.ref q :: rest))) : W p l e R s m args below meth c H locs cells slots Q (F0 m pc ls (.int n :: rest)) := by
  refine va_newa (atype := .boolean) (ty := .boolean) (a0 := (N, .inl (fun _ => 0))) C.1 C.2.1 (C.2.2.2.2.1 _ ha) rfl C.2.2.2.2.2.2.1 w.1 w.2.1 w.2.2 (al_new C) (fun _ => rfl) hn hN hb hc hs hdg (fun q cA H1 hK hP hD hS => ?_)
  have h1 : s.vm.findClass ("[" ++ FieldType.boolean.toString) = some cA := (hK.2 4 _ rfl).2
  have h2 : s.vm.findClass ("[" ++ FieldType.boolean.toString) = some K.2.2.1 := (C.2.2.2.2.2.2.1.2 2 _ rfl).2
  have e9 : cA = K.2.2.1 := Option.some.inj (h1.symm.trans h2)
  subst e9
  exact kk q H1 ⟨va_P.swap hP, va_D.swap hD, hS⟩
theorem kn_o {C1 : String} {T : u_T} {N ci index : Nat} {ty : Nat → FieldType} {fs : List Value} (C : cx p s m args meth c cc nL own n0 G K) (w : wn n0 G (cs ++ X) s H locs) (hin : ∀ w ∈ u_ws C1 T N, w ∈ gw) (hty : ∀ k, k < N → parseFieldDescriptor (T k).2.2.1 = some (ty k)) (hcl : Cond.classLink own index C1 ∈ gw) (hinst : Cond.instantiable C1 N ∈ gw) (hini : Cond.initialized C1 ∈ gw) (hc : cl[ci]? = some (C1, T, N)) (hfs : ∀ j, j < N → defaultValue (ty j) = vp_V fs j) (hcells : cells + 1 ≤ R.cells) (hslots : slots + N ≤ R.slots) (hdg : decode cc pc = .ok (.new index, 3))
    (kk : ∀ (q : Nat) (H1 : Heap), wn n0 G ((cs ++ [(q, .inr (ci, fs))]) ++ X) s H1 locs → W p l e R s m args below meth c H1 locs (cells + 1) (slots + N) Q (F0 m (pc + 3) ls (.ref q :: rest))) : W p l e R s m args below meth c H locs cells slots Q (F0 m pc ls rest) :=
  va_new (ci := ci) (fs := fs) (C := C1) (T := T) (N := N) C.1 C.2.1 C.2.2.2.2.1 hin ty hty C.2.2.2.1 (C.2.2.2.2.1 _ hcl) (C.2.2.2.2.1 _ hinst) (C.2.2.2.2.1 _ hini) C.2.2.2.2.2.2.1 w.1 w.2.1 w.2.2 (al_new C) hc hfs hcells hslots hdg (fun q H1 hP hD hS => kk q H1 ⟨va_P.swap hP, va_D.swap hD, hS⟩)
theorem kpF {ws : va_W} {C1 ref : String} {T : u_T} {N ci index : Nat} {ty0 : Nat → FieldType} (C : cx p s m args meth c cc nL own n0 G K) (hnm : meth.name = "<init>") (w : wn n0 G ws s H locs) (q0 k : Nat) (hin : ∀ w ∈ u_ws C1 T N, w ∈ gw) (hty : ∀ k, k < N → parseFieldDescriptor (T k).2.2.1 = some (ty0 k)) (hn0 : ∀ a, a < N → ∀ b, b < N → a ≠ b → (T a).2.1 ≠ (T b).2.1) {a : Nat} {fs : List Value} {v : Value} {w2 : va_W} (hc : cl[ci]? = some (C1, T, N)) (he : ws[q0]? = some (a, .inr (ci, fs))) (hk : k < N) (hlink : Cond.fieldLink own index ref (T k).2.1 (T k).2.2.1 ∈ gw) (hsame : (T k).1 = ref) (hfin : (T k).2.2.2 = true) (hdecl : (T k).1 = own) (hn : narrow (ty0 k) v = v) (hfit : fits (ty0 k) v = true) (hl : k < fs.length) (h2 : ws.set q0 (a, .inr (ci, fs.set k v)) = w2) (hdg : decode cc pc = .ok (.putfield index, 3))
    (kk : ∀ (H1 : Heap) (locs1 : List Loc), wn n0 G w2 s H1 locs1 → W p l e R s m args below meth c H1 locs1 cells slots Q (F0 m (pc + 3) ls rest)) : W p l e R s m args below meth c H locs cells slots Q (F0 m pc ls (v :: .ref a :: rest)) := by
  subst h2
  exact va_putF (D := G) (ci := ci) (v := v) (ty := ty0 k) (C := C1) (T := T) (N := N) C.1 C.2.1 C.2.2.2.2.1 hin ty0 hty hn0 C.2.2.2.1 C.2.2.2.2.2.2.1 w.1 w.2.1 w.2.2 q0 he hc k hk (C.2.2.2.2.1 _ hlink) (fun _ h => by rw [hsame] at h; exact h) hfin hnm hdecl (hty k hk) hn hfit hl hdg (fun H1 locs1 hP hD hS => kk H1 locs1 ⟨hP, hD, hS⟩)
theorem ko_init (C : cx p s m args meth c cc nL own n0 G K) {index a : Nat} (k1 : Cond.methodLink own index objectInit ∈ gw) (k2 : Cond.instanceMethod objectInit ∈ gw) (k3 : Cond.code objectInit ⟨#[0xb1]⟩ 1 none ∈ gw) (hl : ls.size = nL) (hf : 1 ≤ R.frames) (hlo : (rest.map fun v => v.category).sum + 12 ≤ R.locals) (hdg : decode cc pc = .ok (.invokespecial index, 3))
    (kk : W p l e R s m args below meth c H locs cells slots Q (F0 m (pc + 3) ls rest)) : W p l e R s m args below meth c H locs cells slots Q (F0 m pc ls (.ref a :: rest)) :=
  W.objInit C.1 C.2.1 C.2.2.2.1 (C.2.2.2.2.1 _ k1) (C.2.2.2.2.1 _ k2) (C.2.2.2.2.1 _ k3) rfl (by rw [C.2.2.1]; exact hl) rfl hdg hf (by show 2 * 0 + _ + 12 ≤ _; omega) kk
theorem kr_I {ws : va_W} {y : MethodName} {bytes : ByteArray} {maxL mc ms n index : Nat} {rm : Room} {b : Addr} {As st0 : List Value} {Qc : Array Value → State → Outcome → State → Prop} {free : Addr → Prop}
    (C : cx p s m args meth c cc nL own n0 G K) (w : wn n0 G ws s H locs) (hM : Met l y (Cond.code y bytes maxL none :: gw) rm (va_Pc (.ref b :: As) (wb n0 G K ws)) Qc mc ms free)
    (k1 : Cond.methodLink own index y ∈ gw) (k2 : Cond.instanceMethod y ∈ gw) (k4 : Cond.initialized y.cls ∈ gw) (k5 : Cond.code y bytes maxL none ∈ gw) (hy1 : y.name = "<init>") (hd : y.cls ≠ "java/lang/invoke/MethodHandle" ∧ y.cls ≠ "java/lang/invoke/VarHandle" ∧ (parseMethodDescriptor y.desc).map (fun d => d.parameters.length) = some n)
    (hrc : rm.cells = mc) (hrs : rm.slots = ms) (hR : rm.frames + 1 ≤ R.frames ∧ 8 + (maxL + 11) + rm.locals ≤ R.locals) (hn : As.length = n) (hl : ls.size = nL) (hst : st0 = As.reverse ++ .ref b :: rest) (hr : (rest.map fun v => v.category).sum ≤ 8) (hdg : decode cc pc = .ok (.invokespecial index, 3)) (hf : cells + mc ≤ R.cells ∧ slots + ms ≤ R.slots) :
    va_Run p l e R s m args below meth c H locs cells slots mc ms (F0 m pc ls st0) rest (Qc (Value.ref b :: As).toArray) free := by
  have C' := C
  obtain ⟨hx, hb, hml, hown, hts, -, hK, -, -⟩ := C'
  exact va_runI (Ts := gw) (As := As) (rest := rest) ⟨hx, hb, hml, hown, hts⟩ hM (cwI n hts (gw_cons k5) rfl hrc hrs (hts _ k4) (hts _ k1) (hts _ k2) hy1 hd hR) ⟨wb_blind, wb_of C w⟩ rfl hn hl hst (lv_room hr) hdg hf
theorem fx_over {i : Nat} {U : State} {ty : FieldType} (h : fx n0 U) (hi : tables_1[i]? = some (.arrayOver ty)) {a : Array Value} : (Cond.arrayOver ty).before a U = true := by
  obtain ⟨s0, a0, h1, h2, h3, h4, h5⟩ := h
  have h0 := h4 _ (fx_t hi)
  rw [← Cond.arrayOver_setVmC h2.alike] at h0
  exact h0
theorem mu_outer (cA : ClassId) (h0 : Nat) : mw_o cA h0 5 = vp_cell cA (5, .inr (.inr (.inr (.inr (fun j => ([h0 + 1, h0 + 1 + 1, h0 + 1 + 2, h0 + 1 + 3, h0 + 1 + 4] : List Nat)[j]?))))) := by
  show arrV cA 5 (fun j => if j < 5 then Value.ref (h0 + 1 + j) else Value.null) = _
  rw [vp_cell_q]
  unfold arrV
  have e : (fun j : Fin 5 => (if j.val < 5 then Value.ref (h0 + 1 + j.val) else Value.null)) = fun j : Fin 5 => va_rf (([h0 + 1, h0 + 1 + 1, h0 + 1 + 2, h0 + 1 + 3, h0 + 1 + 4] : List Nat)[j.val]?) := by
    funext j
    match j with
    | ⟨0, _⟩ => rfl
    | ⟨1, _⟩ => rfl
    | ⟨2, _⟩ => rfl
    | ⟨3, _⟩ => rfl
    | ⟨4, _⟩ => rfl
  rw [e]
/-- new int[5][401] -/
theorem kn_m (C : cx p s m args meth c cc nL own n0 G K) (w : wn n0 G (cs ++ X) s H locs) {index i : Nat} (hcl : Cond.classLink own index "[[I" ∈ gw) (hov : tables_1[i]? = some (.arrayOver (.array .int))) (ha : Cond.arrayClass .int ∈ gw) (hc : cells + (1 + 5) ≤ R.cells) (hs : slots + (5 + 5 * 401) ≤ R.slots) (hdg : decode cc pc = .ok (.multianewarray index 2, 4))
    (kk : ∀ (q : Nat) (H1 : Heap), wn n0 G ((cs ++ [(q, .inl (K.2.2.2, 5, .inr (.inr (.inr (.inr (fun j => ([q + 1, q + 1 + 1, q + 1 + 2, q + 1 + 3, q + 1 + 4] : List Nat)[j]?)))))), (q + 1, .inl (K.1, 401, .inl (fun _ => 0))), (q + 1 + 1, .inl (K.1, 401, .inl (fun _ => 0))), (q + 1 + 2, .inl (K.1, 401, .inl (fun _ => 0))), (q + 1 + 3, .inl (K.1, 401, .inl (fun _ => 0))), (q + 1 + 4, .inl (K.1, 401, .inl (fun _ => 0)))]) ++ X) s H1 locs → W p l e R s m args below meth c H1 locs (cells + 1 + 5) (slots + 5 + 5 * 401) Q (F0 m (pc + 4) ls (.ref q :: rest))) : W p l e R s m args below meth c H locs cells slots Q (F0 m pc ls (.int 401 :: .int 5 :: rest)) := by
  have C' := C
  obtain ⟨hx, hb, hml, hown, hts, -, hK, hn0, hF⟩ := C'
  intro T hT Xs
  obtain ⟨vm1, cA, comp, fA, fC, X', step⟩ := mw_go Xs hx hown (index := index) (hts _ hcl) (fx_over hF hov) (hts _ ha) (g := F0 m pc ls (.int 401 :: .int 5 :: rest)) rfl (by rw [hb]; exact hdg) rfl (by decide) (by decide) (by decide) (by decide) (by omega) (by omega)
  have e1 : cA = K.2.2.2 := Option.some.inj (fA.symm.trans (hK.2 3 _ rfl).2)
  have e2 : comp = K.1 := Option.some.inj (fC.symm.trans (hK.2 0 _ rfl).2)
  subst e1; subst e2
  generalize hFi : mw_s (T.setVm vm1) K.2.2.2 K.1 5 = F at X' step
  have hTh : (T.setVm vm1).heap = H := hT
  obtain ⟨f1, f2, -, -⟩ := mw_f (T.setVm vm1) K.2.2.2 K.1 5
  rw [hFi, hTh] at f1 f2
  rw [mu_outer] at f2
  have hold : ∀ x : Nat, x < H.size → F.heap[x]? = H[x]? := fun x hx => by
    have := mw_old (T.setVm vm1) K.2.2.2 K.1 (a := x) (by rw [hTh]; exact hx) 5
    rw [hFi, hTh] at this
    exact this
  have hrow : ∀ j : Nat, j < 5 → F.heap[H.size + 1 + j]? = some (vp_cell K.1 (401, .inl (fun _ => 0))) := fun j hj => by
    have := mw_row (T.setVm vm1) K.2.2.2 K.1 5 j hj
    rw [hFi, hTh] at this
    rw [this, vp_cell_i]
    rfl
  have hP0 : va_P G cl (cs ++ X) F.heap := w.1.kept (fun k x hk => hold x.1 ((w.1 k x hk).lt))
  have hw9 : wn n0 G ((cs ++ [(H.size, .inl (K.2.2.2, 5, .inr (.inr (.inr (.inr (fun j => ([H.size + 1, H.size + 1 + 1, H.size + 1 + 2, H.size + 1 + 3, H.size + 1 + 4] : List Nat)[j]?)))))), (H.size + 1, .inl (K.1, 401, .inl (fun _ => 0))), (H.size + 1 + 1, .inl (K.1, 401, .inl (fun _ => 0))), (H.size + 1 + 2, .inl (K.1, 401, .inl (fun _ => 0))), (H.size + 1 + 3, .inl (K.1, 401, .inl (fun _ => 0))), (H.size + 1 + 4, .inl (K.1, 401, .inl (fun _ => 0)))]) ++ X) s F.heap locs → ∃ t, Steps p.tables e below (T.setTop (F0 m pc ls (.int 401 :: .int 5 :: rest))) t ∧ Q t := by
    intro hw
    obtain ⟨t, a1, b1⟩ := kk H.size F.heap hw F rfl X'
    refine ⟨t, step t ?_, b1⟩
    rw [← hT] at a1
    exact a1
  refine hw9 ⟨?_, ?_, ?_⟩
  · refine va_P.swap (a := cs) (b := X) ?_
    refine hP0.app ?_
    intro k q hk
    match k, hk with
    | 0, hk => cases hk; exact f2
    | 1, hk => cases hk; exact hrow 0 (by decide)
    | 2, hk => cases hk; exact hrow 1 (by decide)
    | 3, hk => cases hk; exact hrow 2 (by decide)
    | 4, hk => cases hk; exact hrow 3 (by decide)
    | 5, hk => cases hk; exact hrow 4 (by decide)
    | k + 6, hk => simp at hk
  · refine va_D.swap (a := cs) (b := X) ?_
    refine w.2.1.app ?_ ?_
    · refine ⟨?_, ?_⟩
      · intro i j p q hi hj e
        match i, j, hi, hj with
        | 0, 0, _, _ => rfl
        | 1, 1, _, _ => rfl
        | 2, 2, _, _ => rfl
        | 3, 3, _, _ => rfl
        | 4, 4, _, _ => rfl
        | 5, 5, _, _ => rfl
        | i + 6, _, hi, _ => simp at hi
        | _, j + 6, _, hj => simp at hj
        | 0, 1, hi, hj => cases hi; cases hj; simp at e
        | 0, 2, hi, hj => cases hi; cases hj; simp at e; omega
        | 0, 3, hi, hj => cases hi; cases hj; simp at e; omega
        | 0, 4, hi, hj => cases hi; cases hj; simp at e; omega
        | 0, 5, hi, hj => cases hi; cases hj; simp at e; omega
        | 1, 0, hi, hj => cases hi; cases hj; simp at e
        | 1, 2, hi, hj => cases hi; cases hj; simp at e
        | 1, 3, hi, hj => cases hi; cases hj; simp at e
        | 1, 4, hi, hj => cases hi; cases hj; simp at e
        | 1, 5, hi, hj => cases hi; cases hj; simp at e
        | 2, 0, hi, hj => cases hi; cases hj; simp at e; omega
        | 2, 1, hi, hj => cases hi; cases hj; simp at e
        | 2, 3, hi, hj => cases hi; cases hj; simp at e
        | 2, 4, hi, hj => cases hi; cases hj; simp at e
        | 2, 5, hi, hj => cases hi; cases hj; simp at e
        | 3, 0, hi, hj => cases hi; cases hj; simp at e; omega
        | 3, 1, hi, hj => cases hi; cases hj; simp at e
        | 3, 2, hi, hj => cases hi; cases hj; simp at e
        | 3, 4, hi, hj => cases hi; cases hj; simp at e
        | 3, 5, hi, hj => cases hi; cases hj; simp at e
        | 4, 0, hi, hj => cases hi; cases hj; simp at e; omega
        | 4, 1, hi, hj => cases hi; cases hj; simp at e
        | 4, 2, hi, hj => cases hi; cases hj; simp at e
        | 4, 3, hi, hj => cases hi; cases hj; simp at e
        | 4, 5, hi, hj => cases hi; cases hj; simp at e
        | 5, 0, hi, hj => cases hi; cases hj; simp at e; omega
        | 5, 1, hi, hj => cases hi; cases hj; simp at e
        | 5, 2, hi, hj => cases hi; cases hj; simp at e
        | 5, 3, hi, hj => cases hi; cases hj; simp at e
        | 5, 4, hi, hj => cases hi; cases hj; simp at e
      · intro k q hk
        have hz : n0 ≤ H.size := Nat.le_trans hn0 w.2.2.1
        match k, hk with
        | 0, hk => cases hk; exact hz
        | 1, hk => cases hk; exact Nat.le_trans hz (by show H.size ≤ H.size + 1; omega)
        | 2, hk => cases hk; exact Nat.le_trans hz (by show H.size ≤ H.size + 1 + 1; omega)
        | 3, hk => cases hk; exact Nat.le_trans hz (by show H.size ≤ H.size + 1 + 2; omega)
        | 4, hk => cases hk; exact Nat.le_trans hz (by show H.size ≤ H.size + 1 + 3; omega)
        | 5, hk => cases hk; exact Nat.le_trans hz (by show H.size ≤ H.size + 1 + 4; omega)
        | k + 6, hk => simp at hk
    · intro i j p q hi hj
      have hlt := (w.1 i p hi).lt
      have hge : H.size ≤ q.1 := by
        match j, hj with
        | 0, hj => cases hj; exact Nat.le_refl _
        | 1, hj => cases hj; show H.size ≤ H.size + 1; omega
        | 2, hj => cases hj; show H.size ≤ H.size + 1 + 1; omega
        | 3, hj => cases hj; show H.size ≤ H.size + 1 + 2; omega
        | 4, hj => cases hj; show H.size ≤ H.size + 1 + 3; omega
        | 5, hj => cases hj; show H.size ≤ H.size + 1 + 4; omega
        | j + 6, hj => simp at hj
      omega
  · exact ⟨Nat.le_trans w.2.2.1 (by rw [f1]; omega), fun x g1 g2 => (hold x (Nat.lt_of_lt_of_le g1 w.2.2.1)).trans (w.2.2.2.1 x g1 g2), w.2.2.2.2⟩
end NEW
