/-! set -/
theorem bi {c A B : Prop} [Decidable c] : ((c → A) ∧ (¬ c → B)) ↔ if c then A else B := by
  by_cases h : c <;> simp [h]
theorem bi' {c A B : Prop} [Decidable c] : ((¬ c → A) ∧ (c → B)) ↔ if c then B else A := by
  by_cases h : c <;> simp [h]
theorem nme {α : Sort _} {e : α} {P : α → Prop} : (∀ x, x = e → P x) ↔ P e := ⟨fun h => h e rfl, fun h x ex => ex ▸ h⟩
theorem s_least {S : ST} {j : Nat} {post : Int32 → Prop} (hj : j < 10) (h : post (tb_least j)) : wp_Mo_least S (nI j) post := by
  unfold wp_Mo_least
  have key : ∀ j, j < 10 → tb_least j = if nI j = 0 then -1 else if nI j = 1 then 0 else if nI j = 8 then 0 else if 5 ≤ nI j then if 8 ≤ nI j then -100 else -1000000 else -10000 := by decide +kernel
  rw [key j hj] at h
  simp only [bi, bi']
  split <;> simp_all
  split <;> simp_all
  split <;> simp_all
  split <;> simp_all
  split <;> simp_all
theorem s_most {S : ST} {j : Nat} {post : Int32 → Prop} (hj : j < 10) (h : post (tb_most j)) : wp_Mo_most S (nI j) post := by
  unfold wp_Mo_most
  have key : ∀ j, j < 10 → tb_most j = if 5 ≤ nI j then if 8 ≤ nI j then if nI j = 8 then 1073741823 else 100 else 1000000 else 10000 := by decide +kernel
  rw [key j hj] at h
  simp only [bi, bi']
  split <;> simp_all
  split <;> simp_all
  split <;> simp_all
theorem xin {L i d : Nat} (h : i + d < L) (hL : L ≤ 3072) : vp_in (nI i + nI d) L := by rw [nI_add]; exact vp_in_nI h (by omega)
theorem ok_522 : stepok wl_law_522 := by
  intro L xs Kh S T i hi hL hR hk
  obtain ⟨c, hc, hS, hT, h1, h2, h3, h4, h5⟩ := id hR
  unfold wl_law_522
  have hin1 : vp_in (nI i + 1) L := xin (d := 1) (by omega) hL
  have hin2 : vp_in (nI i + 2) L := xin (d := 2) (by omega) hL
  generalize xs (nI i + 1).toNatClampNeg = p
  generalize xs (nI i + 2).toNatClampNeg = q
  refine ⟨hin1, hin2, ?_⟩
  have same : ∀ v : Int32, v = nI i + 6 → Kh (sA S 12 (S.1 12)) (sI (sA T 9 (T.1 9)) 0 1) v := by
    intro v e
    rw [e, n6]
    exact hk _ _ ⟨c, hc, hS, hT, h1, h2, h3, h4, h5⟩
  unfold wp_La_set wp_Lb_set wl_Lb_set_10 wl_Lb_set_38 wp_Mo_set wl_Mo_set_27 wl_Mo_set_32 wp_Mo_thrown
  by_cases a1 : p < 0
  · simp only [a1, hin1, hin2, true_implies, not_true, false_implies, true_and, and_true]
    exact ⟨fun _ => ⟨fun _ => same, fun z => absurd rfl z⟩, fun z => absurd z (by decide)⟩
  · obtain ⟨j, hj, rfl⟩ := nI_of a1
    by_cases a2 : j < 10
    · have b1 : nI j < 10 := (nI_ltI (b := 10) hj (by omega)).mpr a2
      have b2 : ¬ 9 < nI j := fun z => by have := (nI_ltI (a := 9) (by omega) hj).mp z; omega
      have b3 : vp_in (nI j) 10 := vp_in_nI a2 (by omega)
      have b4 : (nI j).toNatClampNeg = j := nI_clamp hj
      simp only [a1, b1, b2, b3, b4, hin1, hin2, true_implies, not_true, false_implies, true_and, and_true, not_false_eq_true]
      refine ⟨fun q1 => s_least a2 ⟨fun _ => ⟨fun _ => ⟨fun _ => same, fun z => absurd rfl z⟩, fun z => absurd z (by decide)⟩, fun z => absurd q1 z⟩, fun q1 => ⟨fun q2 f3 e3 => s_least a2 ⟨fun z => absurd z q1, fun _ => s_most a2 ⟨fun _ f1 e1 => ⟨fun _ v e => ?_, fun z => absurd rfl z⟩, fun z => absurd q2 z⟩⟩, fun q2 => s_least a2 ⟨fun z => absurd z q1, fun _ => s_most a2 ⟨fun z => absurd z q2, fun _ => ⟨fun _ => ⟨fun _ => same, fun z => absurd rfl z⟩, fun z => absurd z (by decide)⟩⟩⟩⟩⟩
      rw [e, n6]
      refine hk _ _ ⟨c, hc, hS, hT, h1, h2, h3, ⟨fun k hk => ?_, h4.2⟩, h5⟩
      show f3 k = f1 k ∧ (tb_least k).toInt ≤ (f1 k).toInt ∧ (f1 k).toInt ≤ (tb_most k).toInt
      rw [e1, e3]
      by_cases hkj : k = j
      · subst hkj
        rw [pk_us, pk_us]
        rw [i_lt] at q1
        rw [i_le] at q2
        exact ⟨rfl, by omega, q2⟩
      · rw [pk_un hkj, pk_un hkj]
        exact h4.1 k hk
    · have b1 : ¬ nI j < 10 := fun z => a2 ((nI_ltI (b := 10) hj (by omega)).mp z)
      have b2 : 9 < nI j := (nI_ltI (a := 9) (by omega) hj).mpr (by omega)
      simp only [a1, b1, b2, hin1, hin2, true_implies, not_true, false_implies, true_and, and_true, not_false_eq_true]
      exact ⟨fun _ => ⟨fun _ => same, fun z => absurd rfl z⟩, fun z => absurd z (by decide)⟩
