/-! line and total -/
theorem out_n {S T : ST} (h : outc S T) : ∃ n : Nat, n ≤ 401 ∧ S.2.2 2626 = nI n ∧ (n = 0 ∨ (0 < (T.2.2 34).toInt ∧ T.2.2 36 = nI n)) ∧ ((T.2.2 34).toInt ≤ 0 → n = 0) ∧ ∀ i : Nat, i < n → S.1 43 i = T.1 22 i ∧ S.1 44 i = T.1 23 i ∧ S.1 45 i = T.1 24 i ∧ S.1 46 i = T.1 25 i ∧ S.1 47 i = T.1 26 i ∧ S.2.1 48 i = T.2.1 27 i := by
  rcases h with ⟨a, b, c, d⟩ | ⟨a, b, c, d, n, hn, e, f⟩
  · exact ⟨0, by omega, c, Or.inl rfl, fun _ => rfl, fun i hi => absurd hi (Nat.not_lt_zero i)⟩
  · exact ⟨n, hn, c.trans e, Or.inr ⟨b, e⟩, fun z => absurd b (by omega), f⟩
theorem s_reqLine {S : ST} {n : Nat} {p : Int32} {A : Prop} {px : String → Prop} (hn : n ≤ 401) (hS : S.2.2 2626 = nI n) (h1 : ∀ k, k < n → p = nI k → A) (h2 : (∀ k, k < n → p ≠ nI k) → px "java/lang/IndexOutOfBoundsException") : wp_Lb_requireLine S p A px := by
  unfold wp_Lb_requireLine wl_Lb_requireLine_15
  rw [hS]
  refine ⟨fun q => h2 fun k hk e => ?_, fun q => ?_⟩
  · rw [e, i_lt, nI_toInt (by omega)] at q
    exact absurd q (by show ¬ (k : Int) < 0; omega)
  · obtain ⟨j, hj, rfl⟩ := nI_of q
    refine ⟨fun q2 => h1 j ((nI_ltI hj (by omega)).mp q2) rfl, fun q2 => h2 fun k hk e => ?_⟩
    have := (nI_eq hj (by omega)).mp e
    exact q2 ((nI_ltI hj (by omega)).mpr (by omega))
theorem s_isLine {T : ST} {n : Nat} {p : Int32} {post : Int32 → Prop} (hn : n ≤ 401) (ha : n = 0 ∨ (0 < (T.2.2 34).toInt ∧ T.2.2 36 = nI n)) (hb : (T.2.2 34).toInt ≤ 0 → n = 0) (hx : n = 0 → (T.2.2 34).toInt ≤ 0 ∨ T.2.2 36 = nI 0) (h1 : ∀ k, k < n → p = nI k → post 1) (h2 : (∀ k, k < n → p ≠ nI k) → post 0) : wp_Mo_isLine T p post := by
  unfold wp_Mo_isLine
  refine ⟨fun q => h2 fun k hk e => ?_, fun q => ⟨fun q2 => h2 fun k hk e => ?_, fun q2 => ?_⟩⟩
  · have := hb (by rw [i_le] at q; exact q)
    omega
  · rw [e, i_lt, nI_toInt (by omega)] at q2
    exact absurd q2 (by show ¬ (k : Int) < 0; omega)
  · obtain ⟨j, hj, rfl⟩ := nI_of q2
    have e : T.2.2 36 = nI n := by
      rcases ha with z | ⟨_, z⟩
      · rcases hx z with w | w
        · exact absurd (show T.2.2 34 ≤ 0 by rw [i_le]; exact w) q
        · rw [w, z]
      · exact z
    rw [e]
    refine ⟨fun q3 => h2 fun k hk e => ?_, fun q3 => h1 j ?_ rfl⟩
    · have := (nI_eq hj (by omega)).mp e
      have := (nI_leI (by omega) hj).mp q3
      omega
    · by_cases z : j < n
      · exact z
      · exact absurd ((nI_leI (by omega) hj).mpr (by omega)) q3
theorem out_x {S T : ST} (h : outc S T) : ∃ n : Nat, n ≤ 401 ∧ S.2.2 2626 = nI n ∧ (n = 0 ∨ (0 < (T.2.2 34).toInt ∧ T.2.2 36 = nI n)) ∧ ((T.2.2 34).toInt ≤ 0 → n = 0) ∧ (n = 0 → (T.2.2 34).toInt ≤ 0 ∨ T.2.2 36 = nI 0) ∧ ∀ i : Nat, i < n → S.1 43 i = T.1 22 i ∧ S.1 44 i = T.1 23 i ∧ S.1 45 i = T.1 24 i ∧ S.1 46 i = T.1 25 i ∧ S.1 47 i = T.1 26 i ∧ S.2.1 48 i = T.2.1 27 i := by
  rcases h with ⟨a, b, c, d⟩ | ⟨a, b, c, d, n, hn, e, f⟩
  · exact ⟨0, by omega, c, Or.inl rfl, fun _ => rfl, fun _ => Or.inl (by rw [b]; decide), fun i hi => absurd hi (Nat.not_lt_zero i)⟩
  · exact ⟨n, hn, c.trans e, Or.inr ⟨b, e⟩, fun z => absurd b (by omega), fun z => Or.inr (by rw [e, z]), f⟩
theorem in01 : vp_in 0 1 := by unfold vp_in; decide
theorem ok_840 : stepok wl_law_840 := by
  intro L xs Kh S T i hi hL hR hk
  obtain ⟨c, hc, hS, hT, h1, h2, h3, h4, h5⟩ := id hR
  obtain ⟨n, hn, a1, a2, a3, a4, a5⟩ := out_x h5
  unfold wl_law_840
  have hin1 : vp_in (nI i + 1) L := xin (d := 1) (by omega) hL
  generalize xs (nI i + 1).toNatClampNeg = p
  refine ⟨hin1, ?_⟩
  unfold wp_La_total wp_Lb_total wp_Mo_total wl_Mo_total_14 wp_Mo_thrown
  have same : ∀ (f : Nat → Int64) (x v : Int32), v = nI i + 6 → Kh (sL S 49 f) (sI T 0 x) v := by
    intro f x v e
    rw [e, n6]
    exact hk _ _ ⟨c, hc, hS, hT, h1, h2, h3, h4, h5⟩
  refine s_reqLine hn a1 (fun k hk e => ⟨by rw [e]; exact vp_in_nI (by omega) (by omega), in01, fun f2 e2 => ⟨hin1, s_isLine hn a2 a3 a4 (fun _ _ _ => ⟨fun z => absurd z (by decide), fun _ => ⟨fun _ => ⟨by rw [e]; exact vp_in_nI (by omega) (by omega), fun _ => ⟨fun z => absurd rfl z, fun _ => ⟨fun _ => same _ _, fun z => z ?_⟩⟩, fun z => absurd rfl z⟩, fun z => absurd (by decide) z⟩⟩) (fun z => absurd e (z k hk))⟩⟩) (fun z => ⟨rfl, hin1, s_isLine hn a2 a3 a4 (fun k hk e => absurd e (z k hk)) (fun _ => ⟨fun _ => ⟨fun z => absurd z (by decide), fun _ => ⟨fun _ => ⟨fun _ => same _ _, fun z => absurd z (by decide)⟩, fun z => absurd rfl z⟩⟩, fun z => absurd rfl z⟩)⟩)
  rw [e2, lc_eq, show (0 : Int32).toNatClampNeg = 0 from rfl, pk_uLs, e, nI_clamp (by omega), (a5 k hk).2.2.2.2.2]
theorem five {j : Nat} (h : j < 5) {P : Nat → Prop} (h0 : P 0) (h1 : P 1) (h2 : P 2) (h3 : P 3) (h4 : P 4) : P j := by
  rcases (by omega : j = 0 ∨ j = 1 ∨ j = 2 ∨ j = 3 ∨ j = 4) with rfl | rfl | rfl | rfl | rfl <;> assumption
theorem s_line23 {T : ST} {k j : Nat} {post : Int32 → Int32 → Prop} (hk : k < 401) (hj : j < 5) : post (T.1 (22 + j) k) 0 → wl_Mo_line_23 T post (nI k) (nI j) 0 := by
  have hp : vp_in (nI k) 410 := vp_in_nI (by omega) (by omega)
  unfold wl_Mo_line_23
  rw [nI_clamp (by omega)]
  rcases (by omega : j = 0 ∨ j = 1 ∨ j = 2 ∨ j = 3 ∨ j = 4) with rfl | rfl | rfl | rfl | rfl <;> intro w <;> refine ⟨fun _ => ⟨fun z => ?_, fun z => ?_, fun z => ?_, fun z => ?_, fun z1 z2 z3 z4 => ?_⟩, fun z => absurd (by decide) z⟩
  all_goals first | exact ⟨hp, w⟩ | exact absurd z (by decide) | exact absurd rfl z1 | exact absurd rfl z2 | exact absurd rfl z3 | exact absurd rfl z4
theorem s_Mline {T : ST} {n k j : Nat} {post : Int32 → Int32 → Prop} (hn : n ≤ 401) (ha : n = 0 ∨ (0 < (T.2.2 34).toInt ∧ T.2.2 36 = nI n)) (hb : (T.2.2 34).toInt ≤ 0 → n = 0) (hx : n = 0 → (T.2.2 34).toInt ≤ 0 ∨ T.2.2 36 = nI 0) (hk : k < n) (hj : j < 5) (h : post (T.1 (22 + j) k) 0) : wp_Mo_line T (nI k) (nI j) post := by
  unfold wp_Mo_line
  refine s_isLine hn ha hb hx (fun k' hk' e => ⟨fun z => absurd z (by decide), fun _ => ⟨fun z => absurd z (by rw [i_lt, nI_toInt (by omega)]; show ¬ (j : Int) < 0; omega), fun _ => ⟨fun _ => s_line23 (by omega) hj h, fun z => absurd ((nI_leI (b := 4) (by omega) (by omega)).mpr (by omega)) z⟩⟩⟩) (fun z => absurd rfl (z k hk))
theorem s_Mline_no {T : ST} {n : Nat} {p w : Int32} {post : Int32 → Int32 → Prop} (hn : n ≤ 401) (ha : n = 0 ∨ (0 < (T.2.2 34).toInt ∧ T.2.2 36 = nI n)) (hb : (T.2.2 34).toInt ≤ 0 → n = 0) (hx : n = 0 → (T.2.2 34).toInt ≤ 0 ∨ T.2.2 36 = nI 0) (h : post 0 1) (h2 : (∀ k, k < n → p ≠ nI k) ∨ w < 0 ∨ ¬ w ≤ 4) : wp_Mo_line T p w post := by
  have h1 : wl_Mo_line_18 T post p w := by
    unfold wl_Mo_line_18 wl_Mo_line_23
    exact ⟨fun z => absurd z (by decide), fun _ => h⟩
  unfold wp_Mo_line
  refine s_isLine hn ha hb hx (fun k' hk' e => ⟨fun z => absurd z (by decide), fun _ => ⟨fun _ => h1, fun z1 => ⟨fun z2 => ?_, fun _ => h1⟩⟩⟩) (fun z => ⟨fun _ => h1, fun z => absurd rfl z⟩)
  rcases h2 with y | y | y
  · exact absurd e (y k' hk')
  · exact absurd y z1
  · exact absurd z2 y
theorem ok_772 : stepok wl_law_772 := by
  intro L xs Kh S T i hi hL hR hk
  obtain ⟨c, hc, hS, hT, h1, h2, h3, h4, h5⟩ := id hR
  obtain ⟨n, hn, a1, a2, a3, a4, a5⟩ := out_x h5
  unfold wl_law_772
  have hin1 : vp_in (nI i + 1) L := xin (d := 1) (by omega) hL
  have hin2 : vp_in (nI i + 2) L := xin (d := 2) (by omega) hL
  generalize xs (nI i + 1).toNatClampNeg = p
  generalize xs (nI i + 2).toNatClampNeg = w
  refine ⟨hin1, hin2, ?_⟩
  have same : ∀ (f : Nat → Int64) (x v : Int32), v = nI i + 6 → Kh (sL S 49 f) (sI T 0 x) v := by
    intro f x v e
    rw [e, n6]
    exact hk _ _ ⟨c, hc, hS, hT, h1, h2, h3, h4, h5⟩
  have no : ((∀ k, k < n → p ≠ nI k) ∨ w < 0 ∨ ¬ w ≤ 4) → "java/lang/IndexOutOfBoundsException" = "java/lang/IndexOutOfBoundsException" ∧ vp_in (nI i + 1) L ∧ vp_in (nI i + 2) L ∧ wp_Mo_line T p w (fun r4 v3 => wp_Mo_thrown (sI T 0 v3)  (fun r5 => ((r5 = 1 → ((¬ (1 : Int32) = 0 → (∀ v6 : Int32, v6 = nI i + 6 → Kh (sL S 49 (S.2.1 49)) (sI T 0 v3) v6)) ∧ ((1 : Int32) = 0 → (((lg_cmp (S.2.1 49 (0 : Int32).toNatClampNeg) (r4.toInt64)) = 0 → (∀ v7 : Int32, v7 = nI i + 6 → Kh (sL S 49 (S.2.1 49)) (sI T 0 v3) v7)) ∧ (¬ (lg_cmp (S.2.1 49 (0 : Int32).toNatClampNeg) (r4.toInt64)) = 0 → False))))) ∧ (¬ r5 = 1 → False)))) := by
    intro z
    refine ⟨rfl, hin1, hin2, s_Mline_no hn a2 a3 a4 ?_ z⟩
    exact ⟨fun _ => ⟨fun _ => same _ _, fun z => absurd z (by decide)⟩, fun z => absurd rfl z⟩
  unfold wp_La_line wp_Lb_line wl_Lb_line_14
  refine s_reqLine hn a1 (fun k hk e => ⟨fun z => no (Or.inr (Or.inl z)), fun q => ⟨fun q2 => ?_, fun q2 => no (Or.inr (Or.inr ?_))⟩⟩) (fun z => no (Or.inl z))
  · obtain ⟨j, hj, rfl⟩ := nI_of q
    have hj5 : j < 5 := (nI_ltI (b := 5) hj (by omega)).mp q2
    refine ⟨vp_in_nI hj5 (by omega), ?_⟩
    rw [e, nI_clamp (by omega)]
    have hp1 : vp_in (nI k) 401 := vp_in_nI (by omega) (by omega)
    have go : S.1 (43 + j) k = T.1 (22 + j) k → (vp_in (nI k) 401 ∧ vp_in 0 1 ∧ ∀ f2 : Nat → Int64, f2 = vp_updL (S.2.1 49) ((0 : Int32).toNatClampNeg) ((S.1 (43 + j) k).toInt64) → vp_in (nI i + 1) L ∧ vp_in (nI i + 2) L ∧ wp_Mo_line T (nI k) (nI j) (fun r4 v3 => wp_Mo_thrown (sI T 0 v3)  (fun r5 => ((r5 = 0 → ((¬ (0 : Int32) = 0 → (∀ v6 : Int32, v6 = nI i + 6 → Kh (sL S 49 f2) (sI T 0 v3) v6)) ∧ ((0 : Int32) = 0 → (((lg_cmp (f2 (0 : Int32).toNatClampNeg) (r4.toInt64)) = 0 → (∀ v7 : Int32, v7 = nI i + 6 → Kh (sL S 49 f2) (sI T 0 v3) v7)) ∧ (¬ (lg_cmp (f2 (0 : Int32).toNatClampNeg) (r4.toInt64)) = 0 → False))))) ∧ (¬ r5 = 0 → False))))) := by
      intro e5
      refine ⟨hp1, in01, fun f2 e2 => ⟨hin1, hin2, s_Mline hn a2 a3 a4 hk hj5 ⟨fun _ => ⟨fun z => absurd rfl z, fun _ => ⟨fun _ => same _ _, fun z => z ?_⟩⟩, fun z => absurd rfl z⟩⟩⟩
      rw [e2, lc_eq, show (0 : Int32).toNatClampNeg = 0 from rfl, pk_uLs, e5]
    have b := a5 k hk
    have e5 : S.1 (43 + j) k = T.1 (22 + j) k := five (P := fun j => S.1 (43 + j) k = T.1 (22 + j) k) hj5 b.1 b.2.1 b.2.2.1 b.2.2.2.1 b.2.2.2.2.1
    have go := go e5
    clear e5 b
    rcases (by omega : j = 0 ∨ j = 1 ∨ j = 2 ∨ j = 3 ∨ j = 4) with rfl | rfl | rfl | rfl | rfl <;> refine ⟨fun z => ?_, fun z => ?_, fun z => ?_, fun z => ?_, fun z => ?_⟩
    all_goals first | exact go | exact absurd z (by decide)
  · rw [i_le]
    rw [i_lt] at q2
    show ¬ w.toInt ≤ 4
    have : ¬ w.toInt < 5 := q2
    omega
