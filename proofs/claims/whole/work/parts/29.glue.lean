/-! glue, penalty, hyphen -/
theorem ok_172 : stepok wl_law_172 := by
  intro L xs Kh S T i hi hL hR hk
  obtain ⟨c, hc, hS, hT, h1, h2, h3, h4, h5⟩ := id hR
  unfold wl_law_172
  have hin1 : vp_in (nI i + 1) L := xin (d := 1) (by omega) hL
  have hin2 : vp_in (nI i + 2) L := xin (d := 2) (by omega) hL
  have hin3 : vp_in (nI i + 3) L := xin (d := 3) (by omega) hL
  have hin4 : vp_in (nI i + 4) L := xin (d := 4) (by omega) hL
  generalize xs (nI i + 1).toNatClampNeg = a
  generalize xs (nI i + 2).toNatClampNeg = b
  generalize xs (nI i + 3).toNatClampNeg = o
  generalize xs (nI i + 4).toNatClampNeg = d
  refine ⟨hin1, hin2, hin3, hin4, ?_⟩
  unfold wp_La_glue wp_Lb_glue wp_Ou_forget wp_Pa_appendGlue wp_Mo_glue
  refine s_reqGlue (fun z => s_notRep hc hS h1 h2 (fun nc => s_room hc hS (fun hc4 => s_append (S := sI (sI (sI S 2626 0) 2627 0) 2628 0) hc4 hS ?_) (fun hc4 => Or.inr (Or.inr ⟨rfl, hin1, hin2, hin3, hin4, s_isGlue (fun _ => ⟨fun _ => s_repl hc hT h1 (fun _ => ⟨fun _ => ⟨fun y => absurd (hT.trans ((eq400 hc).mpr hc4)) y, fun _ => ?_⟩, fun y => absurd (by decide) y⟩) (fun h hh => absurd hh (nc h)), fun y => absurd y (by decide)⟩) (fun y => absurd z y)⟩))) (fun h hh => Or.inr (Or.inl ⟨rfl, hin1, hin2, hin3, hin4, s_isGlue (fun _ => ⟨fun _ => s_repl hc hT h1 (fun y => absurd hh (y h)) (fun h' hh' => ⟨fun y => absurd y (nI_n0 hc hh'.1), fun _ => ?_⟩), fun y => absurd y (by decide)⟩) (fun y => absurd z y)⟩))) (fun z => Or.inl ⟨rfl, hin1, hin2, hin3, hin4, s_isGlue (fun y => absurd y z) (fun _ => ⟨fun y => absurd rfl y, fun _ => ?_⟩)⟩)
  · have hp : vp_in (nI c) 400 := vp_in_nI hc4 (by omega)
    rw [nI_clamp (by omega)]
    refine ⟨hp, fun f12 e12 => ⟨hp, fun f13 e13 => ⟨hp, fun f14 e14 => ⟨in01, fun f15 e15 => ⟨hin1, hin2, hin3, hin4, s_isGlue (fun _ => ⟨fun _ => s_repl hc hT h1 (fun _ => ⟨fun _ => ⟨fun _ => ?_, fun y => absurd ((eq400 hc).mp (hT ▸ y)) (by omega)⟩, fun y => absurd (by decide) y⟩) (fun h hh => absurd hh (nc h)), fun y => absurd y (by decide)⟩) (fun y => absurd z y)⟩⟩⟩⟩⟩
    rw [upd2] at e12 e13 e14
    subst e12 e13 e14
    unfold wl_Mo_glue_46
    refine ⟨fun _ => s_Mappend (S := sI T 0 0) (by omega) hT ?_, fun y => absurd (by decide) y⟩
    exact fin5_app hk hc4 h1 h2 h3 h4 ⟨rfl, rfl, Or.inr (Or.inl ⟨rfl, rfl, z.1, rfl, z.2.1, rfl, z.2.2.1, z.2.2.2.1, rfl, z.2.2.2.2, rfl, rfl, rfl, rfl⟩)⟩ (fun h a b e => absurd ⟨a, b, e⟩ (nc h)) e15
  · unfold wl_Mo_glue_46
    exact ⟨fun y => absurd y (by decide), fun _ => fin5_thr hR hk (by decide)⟩
  · unfold wl_Mo_glue_46
    exact ⟨fun y => absurd y (by decide), fun _ => fin5_thr hR hk (by decide)⟩
  · unfold wl_Mo_glue_46
    exact ⟨fun y => absurd y (by decide), fun _ => fin5_thr hR hk (by decide)⟩
theorem clampP {p v4 v5 : Int32} (e4 : v4 = if p < 10000 then p else 10000) (e5 : v5 = if -10000 < v4 then v4 else -10000) : -10000 ≤ v5.toInt ∧ v5.toInt ≤ 10000 ∧ (-10000 ≤ p → p ≤ 10000 → v5 = p) ∧ (-10000 ≤ p → ¬ p ≤ 10000 → v5 = 10000) ∧ (¬ -10000 ≤ p → v5 = -10000) := by
  have l1 : (10000 : Int32).toInt = 10000 := rfl
  have l2 : (-10000 : Int32).toInt = -10000 := rfl
  rw [i_le, i_le, i_eq, i_eq, i_eq, l1, l2]
  by_cases a : p < 10000
  · rw [if_pos a] at e4
    subst e4
    rw [i_lt, l1] at a
    by_cases b : -10000 < v4
    · rw [if_pos b] at e5
      rw [i_lt, l2] at b
      subst e5
      omega
    · rw [if_neg b] at e5
      rw [i_lt, l2] at b
      subst e5
      rw [l2]
      omega
  · rw [if_neg a] at e4
    subst e4
    rw [if_pos (by decide)] at e5
    rw [i_lt, l1] at a
    subst e5
    rw [l1]
    omega
theorem ok_348 : stepok wl_law_348 := by
  intro L xs Kh S T i hi hL hR hk
  obtain ⟨c, hc, hS, hT, h1, h2, h3, h4, h5⟩ := id hR
  unfold wl_law_348
  have hin1 : vp_in (nI i + 1) L := xin (d := 1) (by omega) hL
  generalize xs (nI i + 1).toNatClampNeg = p
  refine ⟨hin1, ?_⟩
  unfold wp_La_penalty wp_Lb_penalty wp_Ou_forget wp_Pa_appendPenalty wp_Mo_penalty
  refine s_notRep hc hS h1 h2 (fun nc => s_room hc hS (fun hc4 v4 e4 v5 e5 => s_append (S := sI (sI (sI S 2626 0) 2627 0) 2628 0) hc4 hS ?_) (fun hc4 => Or.inr ⟨rfl, hin1, s_repl hc hT h1 (fun _ => ⟨fun _ => ⟨fun y => absurd (hT.trans ((eq400 hc).mpr hc4)) y, fun _ => ?_⟩, fun y => absurd (by decide) y⟩) (fun h hh => absurd hh (nc h))⟩)) (fun h hh => Or.inl ⟨rfl, hin1, s_repl hc hT h1 (fun y => absurd hh (y h)) (fun h' hh' => ⟨fun y => absurd y (nI_n0 hc hh'.1), fun _ => ?_⟩)⟩)
  · have hp : vp_in (nI c) 400 := vp_in_nI hc4 (by omega)
    rw [nI_clamp (by omega)]
    refine ⟨hp, fun f12 e12 => ⟨in01, fun f15 e15 => ⟨hin1, s_repl hc hT h1 (fun _ => ⟨fun _ => ⟨fun _ => ?_, fun y => absurd ((eq400 hc).mp (hT ▸ y)) (by omega)⟩, fun y => absurd (by decide) y⟩) (fun h hh => absurd hh (nc h))⟩⟩⟩
    rw [upd2] at e12
    subst e12
    obtain ⟨b1, b2, b3, b4, b5⟩ := clampP e4 e5
    have fin := fin5_app (k := 4) (w := 0) (st := 0) (o := 0) (sh := 0) (pe := v5) (be := -1073741824) (bh := -1073741824) (re := 0) (k' := 4) (w' := v5) (st' := 0) (o' := 0) (sh' := 0) (bh' := 0) (re' := 0) hk hc4 h1 h2 h3 h4 ⟨rfl, rfl, Or.inr (Or.inr (Or.inl ⟨rfl, rfl, rfl, rfl, rfl, rfl, rfl, rfl, rfl, b1, b2, rfl, rfl, rfl⟩))⟩ (fun h a b e => absurd ⟨a, b, e⟩ (nc h)) e15
    unfold wl_Mo_penalty_31 wl_Mo_penalty_74
    refine ⟨fun _ => ⟨fun q1 => ⟨fun q2 => s_Mappend (S := sI T 0 0) (by omega) hT ?_, fun q2 => s_Mappend (S := sI T 0 0) (by omega) hT ?_⟩, fun q1 => s_Mappend (S := sI T 0 0) (by omega) hT ?_⟩, fun y => absurd (by decide) y⟩
    · rw [b3 q1 q2] at fin ⊢
      exact fin
    · rw [b4 q1 q2] at fin ⊢
      exact fin
    · rw [b5 q1] at fin ⊢
      exact fin
  · unfold wl_Mo_penalty_31
    exact ⟨fun y => absurd y (by decide), fun _ => fin5_thr hR hk (by decide)⟩
  · unfold wl_Mo_penalty_31
    exact ⟨fun y => absurd y (by decide), fun _ => fin5_thr hR hk (by decide)⟩
theorem s_reqSN {S : ST} {p : Int32} {A : Prop} {px : String → Prop} (h1 : mk p → A) (h2 : ¬ mk p → px "java/lang/IllegalArgumentException") : wp_Lb_requireSizeOrNothing S p A px := by
  unfold wp_Lb_requireSizeOrNothing
  refine ⟨fun z => h1 (Or.inl z), fun z => s_isSize (fun y => ⟨fun _ => h1 (Or.inr y), fun w => absurd w (by decide)⟩) (fun y => ⟨fun w => absurd rfl w, fun _ => h2 ?_⟩)⟩
  rintro (w | w)
  · exact z w
  · exact y w
theorem s_mayStand {S : ST} {p : Int32} {post : Int32 → Prop} (h1 : mk p → post 1) (h2 : ¬ mk p → post 0) : wp_Mo_mayStand S p post := by
  unfold wp_Mo_mayStand
  refine ⟨fun z => h1 (Or.inl z), fun z => s_MisSize (fun y => ⟨fun w => absurd w (by decide), fun _ => h1 (Or.inr y)⟩) (fun y => ⟨fun _ => h2 ?_, fun w => absurd rfl w⟩)⟩
  rintro (w | w)
  · exact z w
  · exact y w
theorem s_Mhyphen {T : ST} {a b r : Int32} {post : Int32 → (Nat → Int32) → (Nat → Int32) → (Nat → Int32) → (Nat → Int32) → (Nat → Int32) → (Nat → Int32) → (Nat → Int32) → (Nat → Int32) → Int32 → Int32 → Int32 → Prop}
    (h1 : mk a → mk b → ¬ r < 0 → r ≤ 10 → wp_Mo_replacer T (T.2.2 1) (fun r3 => ((r3 < 0 → ((¬ (T.2.2 1) = 400 → wl_Mo_hyphen_59 T post  a b r 0) ∧ ((T.2.2 1) = 400 → wl_Mo_hyphen_59 T post  a b r 3))) ∧ (¬ r3 < 0 → wl_Mo_hyphen_59 T post  a b r 2))))
    (h2 : ¬ (mk a ∧ mk b ∧ ¬ r < 0 ∧ r ≤ 10) → post 0 (T.1 1) (T.1 2) (T.1 3) (T.1 4) (T.1 5) (T.1 6) (T.1 7) (T.1 8) 1 (T.2.2 1) (T.2.2 34)) : wp_Mo_hyphen T a b r post := by
  have h3 : ¬ (mk a ∧ mk b ∧ ¬ r < 0 ∧ r ≤ 10) → wl_Mo_hyphen_25 T post a b r := by
    intro z
    unfold wl_Mo_hyphen_25 wl_Mo_hyphen_59
    exact ⟨fun y => absurd y (by decide), fun _ => h2 z⟩
  unfold wp_Mo_hyphen
  refine s_mayStand (fun z1 => ⟨fun y => absurd y (by decide), fun _ => s_mayStand (fun z2 => ⟨fun y => absurd y (by decide), fun _ => ⟨fun q => h3 fun y => y.2.2.1 q, fun q => ⟨fun q2 => h1 z1 z2 q q2, fun q2 => h3 fun y => q2 y.2.2.2⟩⟩⟩) (fun z2 => ⟨fun _ => h3 fun y => z2 y.2.1, fun y => absurd rfl y⟩)⟩) (fun z1 => ⟨fun _ => h3 fun y => z1 y.1, fun y => absurd rfl y⟩)
theorem ok_404 : stepok wl_law_404 := by
  intro L xs Kh S T i hi hL hR hk
  obtain ⟨c, hc, hS, hT, h1, h2, h3, h4, h5⟩ := id hR
  unfold wl_law_404
  have hin1 : vp_in (nI i + 1) L := xin (d := 1) (by omega) hL
  have hin2 : vp_in (nI i + 2) L := xin (d := 2) (by omega) hL
  have hin3 : vp_in (nI i + 3) L := xin (d := 3) (by omega) hL
  generalize xs (nI i + 1).toNatClampNeg = a
  generalize xs (nI i + 2).toNatClampNeg = b
  generalize xs (nI i + 3).toNatClampNeg = r
  refine ⟨hin1, hin2, hin3, ?_⟩
  unfold wp_La_hyphen wp_Lb_hyphen wl_Lb_hyphen_18 wp_Ou_forget wp_Pa_appendHyphen
  have bad : ¬ (mk a ∧ mk b ∧ ¬ r < 0 ∧ r ≤ 10) → _ := fun z => s_Mhyphen (T := T) (a := a) (b := b) (r := r) (post := fin5 Kh S T (nI i) 1 (S.1 2) (S.1 3) (S.1 4) (S.1 5) (S.1 6) (S.1 7) (S.1 8) (S.1 9) (S.1 10) (S.2.1 49) (S.2.2 73) (S.2.2 2626) (S.2.2 2627) (S.2.2 2628)) (fun x1 x2 x3 x4 => absurd ⟨x1, x2, x3, x4⟩ z) (fun _ => fin5_thr hR hk (by decide))
  refine s_reqSN (fun z1 => s_reqSN (fun z2 => ⟨fun q => Or.inl ⟨rfl, hin1, hin2, hin3, bad fun y => y.2.2.1 q⟩, fun q => ⟨fun q2 => s_notRep hc hS h1 h2 (fun nc => s_room hc hS (fun hc4 => s_append (S := sI (sI (sI S 2626 0) 2627 0) 2628 0) hc4 hS ?_) (fun hc4 => Or.inr (Or.inr ⟨rfl, hin1, hin2, hin3, s_Mhyphen (fun _ _ _ _ => s_repl hc hT h1 (fun _ => ⟨fun _ => ⟨fun y => absurd (hT.trans ((eq400 hc).mpr hc4)) y, fun _ => ?_⟩, fun y => absurd (by decide) y⟩) (fun h hh => absurd hh (nc h))) (fun y => absurd ⟨z1, z2, q, q2⟩ y)⟩))) (fun h hh => Or.inr (Or.inl ⟨rfl, hin1, hin2, hin3, s_Mhyphen (fun _ _ _ _ => s_repl hc hT h1 (fun y => absurd hh (y h)) (fun h' hh' => ⟨fun y => absurd y (nI_n0 hc hh'.1), fun _ => ?_⟩)) (fun y => absurd ⟨z1, z2, q, q2⟩ y)⟩)), fun q2 => Or.inl ⟨rfl, hin1, hin2, hin3, bad fun y => q2 y.2.2.2⟩⟩⟩) (fun z2 => Or.inl ⟨rfl, hin1, hin2, hin3, bad fun y => z2 y.2.1⟩)) (fun z1 => Or.inl ⟨rfl, hin1, hin2, hin3, bad fun y => z1 y.1⟩)
  · have hp : vp_in (nI c) 400 := vp_in_nI hc4 (by omega)
    rw [nI_clamp (by omega)]
    refine ⟨hp, fun f12 e12 => ⟨hp, fun f13 e13 => ⟨hp, fun f14 e14 => ⟨in01, fun f15 e15 => ⟨hin1, hin2, hin3, s_Mhyphen (fun _ _ _ _ => s_repl hc hT h1 (fun _ => ⟨fun _ => ⟨fun _ => ?_, fun y => absurd ((eq400 hc).mp (hT ▸ y)) (by omega)⟩, fun y => absurd (by decide) y⟩) (fun h hh => absurd hh (nc h))) (fun y => absurd ⟨z1, z2, q, q2⟩ y)⟩⟩⟩⟩⟩
    rw [upd2] at e12 e13 e14
    subst e12 e13 e14
    unfold wl_Mo_hyphen_59
    refine ⟨fun _ => s_Mappend (S := sI T 0 0) (by omega) hT ?_, fun y => absurd (by decide) y⟩
    rw [i_lt] at q
    rw [i_le] at q2
    have q : ¬ r.toInt < 0 := q
    have q2 : r.toInt ≤ 10 := q2
    exact fin5_app hk hc4 h1 h2 h3 h4 ⟨rfl, rfl, Or.inr (Or.inr (Or.inr ⟨rfl, rfl, rfl, rfl, rfl, rfl, rfl, rfl, rfl, rfl, rfl, z1, rfl, z2, by omega, q2⟩))⟩ (fun h a b e => absurd ⟨a, b, e⟩ (nc h)) e15
  · unfold wl_Mo_hyphen_59
    exact ⟨fun y => absurd y (by decide), fun _ => fin5_thr hR hk (by decide)⟩
  · unfold wl_Mo_hyphen_59
    exact ⟨fun y => absurd y (by decide), fun _ => fin5_thr hR hk (by decide)⟩
