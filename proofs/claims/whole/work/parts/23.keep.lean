theorem ok_484 : stepok wl_law_484 := by
  intro L xs Kh S T i hi hL hR hk
  obtain ⟨c, hc, hS, hT, h1, h2, h3, h4, h5⟩ := id hR
  have hin : vp_in (nI i + 1) L := by rw [nI_1]; exact vp_in_nI (by omega) (by omega)
  unfold wl_law_484
  generalize xs (nI i + 1).toNatClampNeg = p
  refine ⟨hin, ?_⟩
  unfold wp_Lb_keep wp_Ou_forget wp_Mo_keep
  have same : ∀ v : Int32, v = nI i + 6 → Kh (sI (sI (sI (sI S 73 (S.2.2 73)) 2626 (S.2.2 2626)) 2627 (S.2.2 2627)) 2628 (S.2.2 2628)) (sI (sI (sI T 0 0) 1 (T.2.2 1)) 34 (T.2.2 34)) v := by
    intro v e
    rw [e, n6]
    exact hk _ _ (show Rel (sI (sI (sI (sI S 73 (S.2.2 73)) 2626 (S.2.2 2626)) 2627 (S.2.2 2627)) 2628 (S.2.2 2628)) (sI (sI (sI T 0 0) 1 (T.2.2 1)) 34 (T.2.2 34)) from ⟨c, hc, hS, hT, h1, h2, h3, h4, h5⟩)
  refine ⟨fun q => ⟨hin, fun _ => ⟨fun _ => same, fun z => absurd rfl z⟩, fun z => absurd q z⟩, fun q => ⟨fun q2 => ⟨hin, fun z => absurd z q, fun _ => ⟨fun _ => ⟨fun _ v e => ?_, fun z => absurd rfl z⟩, fun z => absurd (by rw [hT, ← hS]; exact q2) z⟩⟩, fun q2 => ⟨hin, fun z => absurd z q, fun _ => ⟨fun z => absurd (by rw [hS, ← hT]; exact z) q2, fun _ => ⟨fun _ => same, fun z => absurd rfl z⟩⟩⟩⟩⟩
  obtain ⟨j, hj, rfl⟩ := nI_of q
  have hjc : j ≤ c := by
    rw [hS] at q2
    exact (nI_leI hj (by omega)).mp q2
  rw [e, n6]
  refine hk _ _ ⟨j, by omega, rfl, rfl, fun k hk => h1 k (by omega), fun h k a b => h2 h k a (by omega), h3, h4, Or.inl ⟨rfl, rfl, rfl, rfl⟩⟩
