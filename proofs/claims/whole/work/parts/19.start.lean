theorem kw_22 : (Jvm.Cond.instantiable "LineBreaker" (5 : Nat)) ∈ gw := gw_t (List.mem_of_getElem? (i := 22) (by decide +kernel)) (by decide +kernel)
theorem kw_871 : (Jvm.Cond.instantiable "LineBreakerModel" (43 : Nat)) ∈ gw := gw_t (List.mem_of_getElem? (i := 871) (by decide +kernel)) (by decide +kernel)
theorem kw_21 : (Jvm.Cond.classLink "LineBreakerLaw" (8 : Nat) "LineBreaker") ∈ gw := gw_t (List.mem_of_getElem? (i := 21) (by decide +kernel)) (by decide +kernel)
theorem kw_23 : (Jvm.Cond.methodLink "LineBreakerLaw" (59 : Nat) ({ cls := "LineBreaker", name := "<init>", desc := "()V" } : Jvm.MethodName)) ∈ gw := gw_t (List.mem_of_getElem? (i := 23) (by decide +kernel)) (by decide +kernel)
theorem kw_24 : (Jvm.Cond.instanceMethod ({ cls := "LineBreaker", name := "<init>", desc := "()V" } : Jvm.MethodName)) ∈ gw := gw_t (List.mem_of_getElem? (i := 24) (by decide +kernel)) (by decide +kernel)
theorem kw_25 : (Jvm.Cond.code ({ cls := "LineBreaker", name := "<init>", desc := "()V" } : Jvm.MethodName) prog_1_method_1_code (1 : Nat) (Option.none : Option Jvm.ClassFile.FieldType)) ∈ gw := gw_t (List.mem_of_getElem? (i := 25) (by decide +kernel)) (by decide +kernel)
theorem kw_870 : (Jvm.Cond.classLink "LineBreakerLaw" (60 : Nat) "LineBreakerModel") ∈ gw := gw_t (List.mem_of_getElem? (i := 870) (by decide +kernel)) (by decide +kernel)
theorem kw_872 : (Jvm.Cond.methodLink "LineBreakerLaw" (62 : Nat) ({ cls := "LineBreakerModel", name := "<init>", desc := "()V" } : Jvm.MethodName)) ∈ gw := gw_t (List.mem_of_getElem? (i := 872) (by decide +kernel)) (by decide +kernel)
theorem kw_873 : (Jvm.Cond.instanceMethod ({ cls := "LineBreakerModel", name := "<init>", desc := "()V" } : Jvm.MethodName)) ∈ gw := gw_t (List.mem_of_getElem? (i := 873) (by decide +kernel)) (by decide +kernel)
theorem kw_874 : (Jvm.Cond.code ({ cls := "LineBreakerModel", name := "<init>", desc := "()V" } : Jvm.MethodName) prog_12_method_1_code (1 : Nat) (Option.none : Option Jvm.ClassFile.FieldType)) ∈ gw := gw_t (List.mem_of_getElem? (i := 874) (by decide +kernel)) (by decide +kernel)
theorem d_law_0 : decode code 0 = .ok (.new 8, 3) := by decide +kernel
theorem d_law_3 : decode code 3 = .ok (.dup, 1) := by decide +kernel
theorem d_law_4 : decode code 4 = .ok (.invokespecial 59, 3) := by decide +kernel
theorem d_law_7 : decode code 7 = .ok (.astore_n 1, 1) := by decide +kernel
theorem d_law_8 : decode code 8 = .ok (.new 60, 3) := by decide +kernel
theorem d_law_11 : decode code 11 = .ok (.dup, 1) := by decide +kernel
theorem d_law_12 : decode code 12 = .ok (.invokespecial 62, 3) := by decide +kernel
theorem d_law_15 : decode code 15 = .ok (.astore_n 2, 1) := by decide +kernel
theorem d_law_16 : decode code 16 = .ok (.iconst 1, 1) := by decide +kernel
theorem d_law_17 : decode code 17 = .ok (.newarray .long, 2) := by decide +kernel
theorem d_law_19 : decode code 19 = .ok (.astore_n 3, 1) := by decide +kernel
theorem d_law_20 : decode code 20 = .ok (.iconst 0, 1) := by decide +kernel
theorem d_law_21 : decode code 21 = .ok (.istore 4, 2) := by decide +kernel
theorem ar_of {s : State} {args : Array Value} {t : FieldType} (h : (Cond.arrayClass t).before args s = true) (ho : ∀ C, t ≠ .object C) : ∃ c : ClassId, ArrOfT s c t ∧ va_RA s c t := by
  simp only [Cond.before, Cond.holds, Cond.value] at h
  cases hc : s.vm.findClass ("[" ++ t.toString) with
  | none => simp [hc] at h
  | some c =>
    cases hk : s.vm.classes[c]? with
    | none => simp [hc, hk] at h
    | some k =>
      cases hkk : k.kind with
      | array comp ty =>
        simp [hc, hk, hkk] at h
        subst h
        exact ⟨c, fun n z => ⟨fun _ h => (by cases h), k, hk, comp, hkk⟩, by cases ty <;> first | exact hc | exact absurd rfl (ho _)⟩
      | _ => simp [hc, hk, hkk] at h
theorem ar_ov {s : State} {args : Array Value} (h : (Cond.arrayOver (.array .int)).before args s = true) : ∃ c : ClassId, ArrOfT s c (.array .int) ∧ va_RA s c (.array .int) := by
  obtain ⟨comp, c, k, h1, h3, h4, h5⟩ := av_over h
  exact ⟨c, fun n z => ⟨fun _ h => (by cases h), k, h3, comp, h4⟩, h5⟩
set_option maxHeartbeats 16000000 in
set_option maxRecDepth 100000 in
theorem start_of {p : Program} {e : Env} {s : State} {m : MethodId} {below : List Frame} {meth : Method} {c : Code} (l : Launch) (htr : l.stackTraces = false) {b L : Nat} {xs : Nat → Int32} (hL : L ≤ 3072) (hok : ∃ n : Nat, n ≤ 520 ∧ wl_law L xs n s0C s0M 0) (C0 : lw_At p s m meth c b L xs) : W p l e room_1 s m #[Value.ref b] below meth c s.heap [] 0 0 (lw_Z below #[Value.ref b] s) (entryFrame m ([Value.ref b] : List Value).toArray 8) := by
  obtain ⟨hx, hb, hr, hml, hown, hts0, hX, hbl, hlocks, hgv⟩ := C0
  have hts : ∀ w ∈ gw, w.before #[Value.ref b] s = true := fun w h => hts0 w (List.mem_filter.mp h).1
  obtain ⟨c0, i0, hk0⟩ := u_known (C := R_Ga) (T := F_Ga) (N := 12) (n := 12) hts iw_Ga (hts _ kw_137)
  obtain ⟨c1, i1, hk1⟩ := u_known (C := R_Gu) (T := F_Gu) (N := 9) (n := 9) hts iw_Gu (hts _ kw_194)
  obtain ⟨c2, i2, hk2⟩ := u_known (C := R_Gl) (T := F_Gl) (N := 4) (n := 4) hts iw_Gl (hts _ kw_84)
  obtain ⟨c3, i3, hk3⟩ := u_known (C := R_No) (T := F_No) (N := 6) (n := 6) hts iw_No (hts _ kw_233)
  obtain ⟨c4, i4, hk4⟩ := u_known (C := R_Of) (T := F_Of) (N := 4) (n := 4) hts iw_Of (hts _ kw_275)
  obtain ⟨c5, i5, hk5⟩ := u_known (C := R_Ou) (T := F_Ou) (N := 5) (n := 5) hts iw_Ou (hts _ kw_328)
  obtain ⟨c6, i6, hk6⟩ := u_known (C := R_Pa) (T := F_Pa) (N := 10) (n := 10) hts iw_Pa (hts _ kw_30)
  obtain ⟨c7, i7, hk7⟩ := u_known (C := R_Se) (T := F_Se) (N := 10) (n := 10) hts iw_Se (hts _ kw_188)
  obtain ⟨c8, i8, hk8⟩ := u_known (C := R_St) (T := F_St) (N := 5) (n := 5) hts iw_St (hts _ kw_78)
  obtain ⟨c9, i9, hk9⟩ := u_known (C := R_Lb) (T := F_Lb) (N := 5) (n := 5) hts iw_Lb (hts _ kw_22)
  obtain ⟨c10, i10, hk10⟩ := u_known (C := R_Mo) (T := F_Mo) (N := 43) (n := 43) hts iw_Mo (hts _ kw_871)
  obtain ⟨dC, dI, hKc⟩ : ∃ (dC : Nat → ClassId) (dI : Nat → Nat → Nat), ∀ (k : Nat) (q : vw_C), cl[k]? = some q → u_Kn s q.1 q.2.1 q.2.2 (dC k) (dI k) := by
    refine ⟨fun k => match k with | 0 => c0 | 1 => c1 | 2 => c2 | 3 => c3 | 4 => c4 | 5 => c5 | 6 => c6 | 7 => c7 | 8 => c8 | 9 => c9 | _ => c10, fun k => match k with | 0 => i0 | 1 => i1 | 2 => i2 | 3 => i3 | 4 => i4 | 5 => i5 | 6 => i6 | 7 => i7 | 8 => i8 | 9 => i9 | _ => i10, ?_⟩
    intro k q hq
    match k, hq with
    | 0, hq => cases hq; exact hk0
    | 1, hq => cases hq; exact hk1
    | 2, hq => cases hq; exact hk2
    | 3, hq => cases hq; exact hk3
    | 4, hq => cases hq; exact hk4
    | 5, hq => cases hq; exact hk5
    | 6, hq => cases hq; exact hk6
    | 7, hq => cases hq; exact hk7
    | 8, hq => cases hq; exact hk8
    | 9, hq => cases hq; exact hk9
    | 10, hq => cases hq; exact hk10
    | k + 11, hq => simp [cl] at hq
  obtain ⟨q1, g1⟩ := ar_of (hts _ kw_76) (fun _ h => by cases h)
  obtain ⟨q2, g2⟩ := ar_of (hts _ kw_273) (fun _ h => by cases h)
  obtain ⟨q3, g3⟩ := ar_of (hts _ kw_186) (fun _ h => by cases h)
  obtain ⟨q4, g4⟩ := ar_ov (hts0 _ (fx_t (i := 334) (by decide +kernel)))
  have hK : va_K (dC, dI) cl (tys (q1, q2, q3, q4)) s := ⟨hKc, fun k q h => by
    match k, h with
    | 0, h => cases h; exact g1
    | 1, h => cases h; exact g2
    | 2, h => cases h; exact g3
    | 3, h => cases h; exact g4
    | k + 4, h => simp at h⟩
  have hF : fx s.heap.size s := ⟨s, #[Value.ref b], rfl, State.WarmedH.refl s, fun _ _ => rfl, hts0, hgv⟩
  have C : cx p s m #[Value.ref b] meth c code 8 "LineBreakerLaw" s.heap.size (dC, dI) (q1, q2, q3, q4) := ⟨hx, hb, hml, hown, hts, hlocks, hK, Nat.le_refl _, hF⟩
  have w : wn s.heap.size (dC, dI) ([] ++ []) s s.heap [] := ⟨fun k q h => by simp at h, ⟨fun i j p q h => by simp at h, fun k q h => by simp at h⟩, va_S.rf⟩
  have hl := lv_entry ([.ref b]) (n := 8) (Nat.le_of_ble_eq_true rfl)
  rw [lg_entry_eq]
  generalize (lg_sl ([.ref b]) ++ List.replicate (8 - (lg_sl ([.ref b])).length) Slot.unset).toArray = ls at hl ⊢
  have hl : lv_has ls 8 [(0, .ref b)] := hl
  refine kn_o (cs := []) (X := []) (C1 := R_Lb) (T := F_Lb) (N := 5) (ci := 9) (ty := t_Lb) (fs := [.null, .null, .null, .null, .null]) C w iw_Lb tk_Lb kw_21 kw_22 kw_1 rfl (fun j hj => by rcases (show j = 0 ∨ j = 1 ∨ j = 2 ∨ j = 3 ∨ j = 4 by omega) with rfl | rfl | rfl | rfl | rfl <;> rfl) (Nat.le_of_ble_eq_true rfl) (Nat.le_of_ble_eq_true rfl) d_law_0 (fun h0 H w => ?_)
  refine lv_dup hx hb d_law_3 rfl ?_
  have w := wn_front (cs := []) (us := [(h0, .inr (9, [.null, .null, .null, .null, .null]))]) (X := []) w
  refine kc_v (st := fun (u : Nat → Nat) => wC (q1, q2, q3, q4) u s0C ++ ([] ++ [])) w (kr_I (y := y_Lb_init) (As := []) (n := 0) C w (c_Lb_init l s.heap.size (dC, dI) (q1, q2, q3, q4) ([] ++ []) h0) kw_23 kw_24 kw_1 kw_25 rfl (by decide +kernel) rfl rfl ⟨Nat.le_of_ble_eq_true rfl, Nat.le_of_ble_eq_true rfl⟩ rfl hl.1 rfl (Nat.le_of_ble_eq_true rfl) d_law_4 ⟨Nat.le_of_ble_eq_true rfl, Nat.le_of_ble_eq_true rfl⟩) (fun ad H locs had w => ?_)
  have w := wn_back (cs := []) (us := wC (q1, q2, q3, q4) ad s0C) (X := []) w
  refine lv_astore_n (lv' := [(1, .ref h0), (0, .ref b)]) hx hb d_law_7 rfl hl (by decide) rfl (fun ls hl => ?_)
  refine kn_o (cs := [] ++ wC (q1, q2, q3, q4) ad s0C) (X := []) (C1 := R_Mo) (T := F_Mo) (N := 43) (ci := 10) (ty := t_Mo) (fs := [.int 0, .int 0, .null, .null, .null, .null, .null, .null, .null, .null, .null, .null, .null, .null, .null, .null, .int 0, .int 0, .int 0, .int 0, .int 0, .null, .null, .null, .null, .null, .null, .int 0, .int 0, .null, .int 0, .int 0, .int 0, .int 0, .int 0, .int 0, .int 0, .null, .null, .null, .null, .null, .null]) C w iw_Mo tk_Mo kw_870 kw_871 kw_11 rfl (fun j hj => by rcases (show j = 0 ∨ j = 1 ∨ j = 2 ∨ j = 3 ∨ j = 4 ∨ j = 5 ∨ j = 6 ∨ j = 7 ∨ j = 8 ∨ j = 9 ∨ j = 10 ∨ j = 11 ∨ j = 12 ∨ j = 13 ∨ j = 14 ∨ j = 15 ∨ j = 16 ∨ j = 17 ∨ j = 18 ∨ j = 19 ∨ j = 20 ∨ j = 21 ∨ j = 22 ∨ j = 23 ∨ j = 24 ∨ j = 25 ∨ j = 26 ∨ j = 27 ∨ j = 28 ∨ j = 29 ∨ j = 30 ∨ j = 31 ∨ j = 32 ∨ j = 33 ∨ j = 34 ∨ j = 35 ∨ j = 36 ∨ j = 37 ∨ j = 38 ∨ j = 39 ∨ j = 40 ∨ j = 41 ∨ j = 42 by omega) with rfl | rfl | rfl | rfl | rfl | rfl | rfl | rfl | rfl | rfl | rfl | rfl | rfl | rfl | rfl | rfl | rfl | rfl | rfl | rfl | rfl | rfl | rfl | rfl | rfl | rfl | rfl | rfl | rfl | rfl | rfl | rfl | rfl | rfl | rfl | rfl | rfl | rfl | rfl | rfl | rfl | rfl | rfl <;> rfl) (Nat.le_of_ble_eq_true rfl) (Nat.le_of_ble_eq_true rfl) d_law_8 (fun h1 H w => ?_)
  refine lv_dup hx hb d_law_11 rfl ?_
  have w := wn_front (cs := ([] ++ wC (q1, q2, q3, q4) ad s0C)) (us := [(h1, .inr (10, [.int 0, .int 0, .null, .null, .null, .null, .null, .null, .null, .null, .null, .null, .null, .null, .null, .null, .int 0, .int 0, .int 0, .int 0, .int 0, .null, .null, .null, .null, .null, .null, .int 0, .int 0, .null, .int 0, .int 0, .int 0, .int 0, .int 0, .int 0, .int 0, .null, .null, .null, .null, .null, .null]))]) (X := []) w
  refine kc_v (st := fun (u : Nat → Nat) => wM (q1, q2, q3, q4) u s0M ++ (([] ++ wC (q1, q2, q3, q4) ad s0C) ++ [])) w (kr_I (y := y_Mo_init) (As := []) (n := 0) C w (c_Mo_init l s.heap.size (dC, dI) (q1, q2, q3, q4) (([] ++ wC (q1, q2, q3, q4) ad s0C) ++ []) h1) kw_872 kw_873 kw_11 kw_874 rfl (by decide +kernel) rfl rfl ⟨Nat.le_of_ble_eq_true rfl, Nat.le_of_ble_eq_true rfl⟩ rfl hl.1 rfl (Nat.le_of_ble_eq_true rfl) d_law_12 ⟨Nat.le_of_ble_eq_true rfl, Nat.le_of_ble_eq_true rfl⟩) (fun bd H locs hbd w => ?_)
  have w := wn_back (cs := ([] ++ wC (q1, q2, q3, q4) ad s0C)) (us := wM (q1, q2, q3, q4) bd s0M) (X := []) w
  refine lv_astore_n (lv' := [(2, .ref h1), (1, .ref h0), (0, .ref b)]) hx hb d_law_15 rfl hl (by decide) rfl (fun ls hl => ?_)
  refine lv_iconst (v := 1) hx hb d_law_16 (by decide) ?_
  refine kn_l (cs := ([] ++ wC (q1, q2, q3, q4) ad s0C) ++ wM (q1, q2, q3, q4) bd s0M) (X := []) (N := 1) C w kw_273 (by decide) (by decide) (by decide) (Nat.le_of_ble_eq_true rfl) (Nat.le_of_ble_eq_true rfl) d_law_17 (fun h2 H w => ?_)
  refine lv_astore_n (lv' := [(3, .ref h2), (2, .ref h1), (1, .ref h0), (0, .ref b)]) hx hb d_law_19 rfl hl (by decide) rfl (fun ls hl => ?_)
  refine lv_iconst (v := 0) hx hb d_law_20 (by decide) ?_
  refine lv_istore (lv' := [(4, .int 0), (3, .ref h2), (2, .ref h1), (1, .ref h0), (0, .ref b)]) hx hb d_law_21 hl (by decide) rfl (fun ls hl => ?_)
  have w : wn s.heap.size (dC, dI) (((wC (q1, q2, q3, q4) ad s0C) ++ wM (q1, q2, q3, q4) bd s0M) ++ [(h2, .inl (q2, 1, .inr (.inl (fun _ => 0))))]) s H locs := by
    have h9 := w
    rw [List.append_nil, List.nil_append] at h9
    exact h9
  have w : wn s.heap.size (dC, dI) (wC (q1, q2, q3, q4) ad s0C ++ ((h2, .inl (q2, 1, .inr (.inl (fun _ => 0)))) :: wM (q1, q2, q3, q4) bd s0M)) s H locs := by
    have e9 : wC (q1, q2, q3, q4) ad s0C ++ ((h2, .inl (q2, 1, .inr (.inl (fun _ => 0)))) :: wM (q1, q2, q3, q4) bd s0M) = (wC (q1, q2, q3, q4) ad s0C ++ [(h2, .inl (q2, 1, .inr (.inl (fun _ => 0))))]) ++ wM (q1, q2, q3, q4) bd s0M := by simp
    rw [e9]
    exact ⟨va_P.swap w.1, va_D.swap w.2.1, w.2.2⟩
  obtain ⟨n, hn9, hw⟩ := hok
  rw [← had, ← hbd] at hl
  exact w_law C hr htr hX hbl (ad := fun k => cond (Nat.beq k 49) h2 (ad k)) (bd := bd) rfl n _ _ (by omega) (by omega) s0C s0M 0 hw _ _ _ (wn_eq w rfl) (lv_sub hl [4, 3, 2, 1, 0] rfl)
