/-! what the throwing methods of the class read of the start: texts, tables, the words of a throw -/
theorem fx_str {n0 i : Nat} {U : State} {own text : String} {k : Nat} (h : fx n0 U) (hi : tables_1[i]? = some (.stringRef own k text)) : ∃ a : Nat, vk_R own k text a U := by
  obtain ⟨s0, a0, h1, h2, h3, h4, h5⟩ := h
  have hw := h4 _ (fx_t hi)
  have hw0 : (Cond.stringRef own k text).before #[] s0 = true := by
    simp only [Cond.before, Cond.holds, Cond.value] at hw ⊢
    exact hw
  obtain ⟨a, ha⟩ : ∃ a : Nat, (Term.string own k).eval #[] s0 none [] s0 = some (.ref a) := by
    simp only [Cond.before, Cond.holds, Cond.value, State.resolvedAt?] at hw
    simp only [Term.eval]
    cases hc : s0.vm.findClass own with
    | none => simp [hc] at hw
    | some c =>
      cases hk : s0.vm.classes[c]? with
      | none => simp [hc, hk] at hw
      | some kk =>
        cases hr : kk.resolved[k]? with
        | none => simp [hc, hk, hr] at hw
        | some o =>
          cases o with
          | none => simp [hc, hk, hr] at hw
          | some r =>
            cases r <;> simp_all
  exact ⟨a, vk_R.warm h2 (vk_R.of hw0 ha)⟩
theorem fx_tab {n0 i j N : Nat} {U : State} {C nm : String} (f : Nat → Int32) (h : fx n0 U) (hN : N < 2 ^ 31) (hl : tables_1[i]? = some (.laysStatic C nm "[I")) (hi : tables_1[j]? = some (.initialized C))
    (harr : Cond.arrayOf (.static C nm "[I") .int ∈ flatC (Jvm.Cond.and given_1 narrow_1)) (hlen : Cond.eq (.length (.static C nm "[I")) (.int (Int32.ofNat N)) ∈ flatC (Jvm.Cond.and given_1 narrow_1))
    (hel : ∀ j : Nat, j < N → Cond.eq (.elem (.static C nm "[I") (.int (Int32.ofNat j))) (.int (f j)) ∈ flatC (Jvm.Cond.and given_1 narrow_1)) :
    ∃ t : Nat, va_Z C nm "[I" (.ref t) (al n0) U U.heap ∧ va_T .int t N (fun j => .int (f j)) (al n0) U U.heap := by
  obtain ⟨s0, a0, h1, h2, h3, h4, h5⟩ := h
  have hs := flat_of_before _ h5
  have hA : ∀ a : Nat, a < s0.heap.size → ¬ al n0 a := fun a ha => Nat.not_le.mpr (by rw [← h1]; exact ha)
  have hk : ∀ a : Nat, a < s0.heap.size → ¬ al n0 a → U.heap[a]? = s0.heap[a]? := fun a ha _ => h3 a (by rw [← h1]; exact ha)
  obtain ⟨t, ht, hT⟩ := va_Tof (A := al n0) (f := fun j => .int (f j)) hN (hs _ harr) (va_eqt (hs _ hlen)) (fun j hj => va_eqt (hs _ (hel j hj))) hA
  exact ⟨t, va_Z.moved h2.alike ((va_Zref (h4 _ (fx_t hl)) (h4 _ (fx_t hi)) ht hA).kept hk), va_T.moved h2.alike (hT.kept hk)⟩
def tb_least : Nat → Int32 := fun j => ([-1, 0, -10000, -10000, -10000, -1000000, -1000000, -1000000, 0, -100] : List Int32).getD j 0
def tb_most : Nat → Int32 := fun j => ([10000, 10000, 10000, 10000, 10000, 1000000, 1000000, 1000000, 1073741823, 100] : List Int32).getD j 0
set_option maxRecDepth 100000 in
theorem fx_least {n0 : Nat} {U : State} (h : fx n0 U) : ∃ t : Nat, va_Z "LineBreaker" "LEAST_VALUE" "[I" (.ref t) (al n0) U U.heap ∧ va_T .int t 10 (fun j => .int (tb_least j)) (al n0) U U.heap :=
  fx_tab tb_least h (by decide) (i := 596) (j := 1) (by decide +kernel) (by decide +kernel) (by decide +kernel) (by decide +kernel) (by decide +kernel)
set_option maxRecDepth 100000 in
theorem fx_most {n0 : Nat} {U : State} (h : fx n0 U) : ∃ t : Nat, va_Z "LineBreaker" "GREATEST_VALUE" "[I" (.ref t) (al n0) U U.heap ∧ va_T .int t 10 (fun j => .int (tb_most j)) (al n0) U U.heap :=
  fx_tab tb_most h (by decide) (i := 598) (j := 1) (by decide +kernel) (by decide +kernel) (by decide +kernel) (by decide +kernel) (by decide +kernel)
/-- all words of a throw but the four that speak of the heap -/
def no4 (w : Cond) : Bool := match w with
  | .isRef _ => false
  | .laysStatic .. => false
  | _ => true
/-- two kinds of words that no reader of good words carries -/
def kd2 (w : Cond) : Bool := match w with
  | .declares _ => true
  | .castable .. => true
  | _ => false
theorem fx_kd2 {n0 : Nat} {U : State} {args : Array Value} {w : Cond} (h : fx n0 U) (hw : w ∈ tables_1) (hk : kd2 w = true) : w.before args U = true := by
  obtain ⟨s0, a0, h1, h2, h3, h4, h5⟩ := h
  have h0 := h4 w (List.mem_append_right _ hw)
  have tr : w.onTables = true → w.before args (s0.setVm U.vm) = true → w.before args U = true := by
    intro hc h
    have e := Cond.onTables_vm (A := args) (A' := args) (U := s0) (U' := U) U.vm w hc
    have hU : U.setVm U.vm = U := rfl
    rw [hU] at e
    rw [← e]
    exact h
  cases w <;> simp only [kd2, Bool.false_eq_true] at hk
  · exact tr rfl (by rw [Cond.declares_setVm h2.alike]; exact va_any rfl h0)
  · exact tr rfl (by rw [Cond.castable_setVm h2.alike]; exact va_any rfl h0)
theorem tw_split {own cls : String} {ic : Nat} {names : List String} {args : Array Value} {s : State} {n0 : Nat} (hts : ∀ w ∈ gw, w.before args s = true) (hF : fx n0 s)
    (h1 : ((Bundle.ownAtoms own ic cls names).filter no4).all (fun w => decide (w ∈ tables_1) && (goodWord w || kd2 w)) = true)
    (h2 : ((Bundle.ownAtoms own ic cls names).filter (fun w => !no4 w)).all (fun w => decide (w ∈ [Cond.laysStatic "java/lang/Throwable" "UNASSIGNED_STACK" "[Ljava/lang/StackTraceElement;", Cond.laysStatic "java/lang/Throwable" "SUPPRESSED_SENTINEL" "Ljava/util/List;", Cond.isRef (.static "java/lang/Throwable" "UNASSIGNED_STACK" "[Ljava/lang/StackTraceElement;"), Cond.isRef (.static "java/lang/Throwable" "SUPPRESSED_SENTINEL" "Ljava/util/List;")])) = true) :
    ∀ w ∈ Bundle.ownAtoms own ic cls names, w.before args s = true := by
  have e1 := fx_static (args := args) hF (C := "java/lang/Throwable") (n := "UNASSIGNED_STACK") (d := "[Ljava/lang/StackTraceElement;") (i := 436) (j := 12) (by decide +kernel) (by decide +kernel) (fun a0 s0 h => flat_of_before _ h _ (by decide +kernel))
  have e2 := fx_static (args := args) hF (C := "java/lang/Throwable") (n := "SUPPRESSED_SENTINEL") (d := "Ljava/util/List;") (i := 438) (j := 12) (by decide +kernel) (by decide +kernel) (fun a0 s0 h => flat_of_before _ h _ (by decide +kernel))
  intro w hw
  by_cases hn : no4 w = true
  · have h9 := List.all_eq_true.mp h1 w (List.mem_filter.mpr ⟨hw, hn⟩)
    simp only [Bool.and_eq_true, decide_eq_true_eq, Bool.or_eq_true] at h9
    rcases h9.2 with h8 | h8
    · exact hts w (gw_t h9.1 h8)
    · exact fx_kd2 hF h9.1 h8
  · have h9 := List.all_eq_true.mp h2 w (List.mem_filter.mpr ⟨hw, by simpa using hn⟩)
    simp only [decide_eq_true_eq, List.mem_cons, List.not_mem_nil, or_false] at h9
    rcases h9 with rfl | rfl | rfl | rfl
    · exact e1.1
    · exact e2.1
    · exact e1.2
    · exact e2.2
theorem kf_v {p : Program} {l : Launch} {e : Env} {R : Room} {s : State} {m : MethodId} {args : Array Value} {below : List Frame} {meth : Method} {c : Code} {cells slots : Nat} {cc : ByteArray} {nL : Nat} {own : String} {n0 : Nat} {G : va_G} {K : KT} {pc : Nat} {ls : Array Slot} {post : Prop} (C : cx p s m args meth c cc nL own n0 G K) (hr : meth.sig.returnType = none) (hd : decode cc pc = .ok (.return_, 1)) (hp : post) : W p l e R s m args below meth c s.heap [] cells slots (MQ below (rq_v post) args s cells slots (fun _ => False)) (F0 m pc ls []) :=
  W.vret C.1 C.2.1 hr (fun t ht hW => ⟨⟨rfl, hp⟩, ht⟩) (fun _ h => nomatch h) hd C.2.2.2.2.2.1
