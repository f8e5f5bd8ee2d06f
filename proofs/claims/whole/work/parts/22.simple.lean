theorem rel_thr {S T : ST} (v : Int32) (h : Rel S T) : Rel S (sI T 0 v) := h
theorem n6 (i : Nat) : nI i + 6 = nI (i + 6) := by rw [show (6 : Int32) = nI 6 from rfl, nI_add]
theorem ok_509 : stepok wl_law_509 := by
  intro L xs Kh S T i hi hL hR hk
  obtain ⟨c, hc, hS, hT, h⟩ := id hR
  unfold wl_law_509 wp_Lb_items wp_Mo_items
  refine ⟨fun _ v e => ?_, fun q => absurd (hS.trans hT.symm) q⟩
  rw [e, n6]
  exact hk _ _ (rel_thr _ hR)
theorem ok_746 : stepok wl_law_746 := by
  intro L xs Kh S T i hi hL hR hk
  obtain ⟨c, hc, hS, hT, h1, h2, h3, h4, h5⟩ := id hR
  unfold wl_law_746 wp_Lb_pass wp_Mo_pass
  have e0 : S.2.2 2627 = T.2.2 34 := by
    rcases h5 with ⟨a, b, -⟩ | ⟨a, -⟩
    · rw [a, b]
    · exact a
  refine ⟨fun _ v e => ?_, fun q => absurd e0 q⟩
  rw [e, n6]
  exact hk _ _ (rel_thr _ hR)
theorem ok_759 : stepok wl_law_759 := by
  intro L xs Kh S T i hi hL hR hk
  obtain ⟨c, hc, hS, hT, h1, h2, h3, h4, h5⟩ := id hR
  unfold wl_law_759 wp_Lb_nodes wp_Mo_nodes
  rcases h5 with ⟨a, b, c1, d⟩ | ⟨a, b, c1, d, -⟩
  · refine ⟨fun q => ?_, fun q => ?_⟩
    · refine ⟨fun _ v e => ?_, fun z => absurd d z⟩
      rw [e, n6]
      exact hk _ _ (rel_thr _ hR)
    · exact absurd b (by rw [i_eq]; intro z; exact q (by rw [i_le]; show (T.2.2 34).toInt ≤ (0 : Int32).toInt; omega))
  · refine ⟨fun q => ?_, fun q => ?_⟩
    · exact absurd q (by rw [i_le]; show ¬ (T.2.2 34).toInt ≤ 0; omega)
    · refine ⟨fun _ v e => ?_, fun z => absurd d z⟩
      rw [e, n6]
      exact hk _ _ (rel_thr _ hR)
