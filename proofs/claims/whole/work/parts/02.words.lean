/-! the rows that all methods share: the words, the world, calls -/
def gw : List Cond := lw_tbl.filter goodWord
theorem gw_of {w : Cond} (h : w ∈ lw_tbl) (g : goodWord w = true) : w ∈ gw := List.mem_filter.mpr ⟨h, g⟩
theorem gw_t {w : Cond} (h : w ∈ tables_1) (g : goodWord w = true) : w ∈ gw := gw_of (List.mem_append_right _ h) g
theorem gw_s {w : Cond} (h : w ∈ k2_sels lw_privs) (g : goodWord w = true) : w ∈ gw := gw_of (List.mem_append_left _ h) g
theorem gw_ok {w : Cond} (h : w ∈ gw) : w ∈ gw ∧ ((w.onTables && w.keeps) = true ∨ ∃ ty, w = .arrayClass ty) := ⟨h, good_of_word (List.mem_filter.mp h).2⟩
theorem gw_cons {c : Cond} (hc : c ∈ gw) : GoodIn gw (c :: gw) := fun w h => (List.mem_cons.mp h).elim (fun e => by rw [e]; exact gw_ok hc) gw_ok
theorem gw_V {own C : String} {idx : Nat} {y : MethodName} {c : Cond} (h1 : Cond.methodLink own idx y ∈ gw) (h2 : Cond.instanceMethod y ∈ gw) (h3 : Cond.selects C y y ∈ gw) (h4 : Cond.initialized C ∈ gw) (h5 : c ∈ gw) : GoodIn gw (wsV own idx C y (c :: gw)) := by
  intro w h
  rcases List.mem_append.mp h with h | h
  · simp only [List.mem_cons, List.not_mem_nil, or_false] at h
    rcases h with rfl | rfl | rfl | rfl
    · exact gw_ok h1
    · exact gw_ok h2
    · exact gw_ok h3
    · exact gw_ok h4
  · exact gw_cons h5 w h
theorem gw_S {own : String} {idx : Nat} {y : MethodName} {c : Cond} (h1 : Cond.methodLink own idx y ∈ gw) (h2 : Cond.static y ∈ gw) (h4 : Cond.initialized y.cls ∈ gw) (h5 : c ∈ gw) : GoodIn gw (va_wsS own idx y (c :: gw)) := by
  intro w h
  rcases List.mem_append.mp h with h | h
  · simp only [List.mem_cons, List.not_mem_nil, or_false] at h
    rcases h with rfl | rfl | rfl
    · exact gw_ok h1
    · exact gw_ok h2
    · exact gw_ok h4
  · exact gw_cons h5 w h
theorem in_ps {ws : List Cond} (ps : List Nat) (h : ws = ps.filterMap (fun i => tables_1[i]?)) (g : ws.all goodWord = true) : ∀ w ∈ ws, w ∈ gw := by
  intro w hw
  have h1 := List.all_eq_true.mp g w hw
  rw [h] at hw
  obtain ⟨i, -, hi⟩ := List.mem_filterMap.mp hw
  exact gw_t (List.mem_of_getElem? hi) h1
