/-! fitsInSizes, and the reference's look for an open hyphen -/
theorem s_without {T : ST} {x : Int32} {post : Int64 → Prop} (h : ∀ r : Int64, r.toInt = wo x → post r) : wp_Mo_without T x post := by
  unfold wp_Mo_without
  have l0 : (0 : Int32).toInt = 0 := rfl
  refine ⟨fun z => ⟨fun z2 => h _ ?_, fun z2 => h _ ?_⟩, fun z => h _ ?_⟩
  · rw [i_le, l0] at z2
    unfold wo
    rw [if_neg z, if_pos z2, j_of]
  · rw [i_le, l0] at z2
    unfold wo
    have := i_bd x
    rw [if_neg z, if_neg z2, Int64.toInt_neg, j_of, Int.bmod_eq_of_le (by omega) (by omega)]
  · unfold wo
    rw [if_pos z]
    rfl
theorem s_fits3 {T : ST} {c : Nat} {post : Int32 → Prop} {a b d : Int64} {A B D : Int} (ea : a.toInt = A) (eb : b.toInt = B) (ed : d.toInt = D)
    (g0 : gl4 (T.1 11 0) (T.1 12 0) (T.1 13 0) (T.1 14 0)) (g1 : gl4 (T.1 11 1) (T.1 12 1) (T.1 13 1) (T.1 14 1)) (g2 : gl4 (T.1 11 2) (T.1 12 2) (T.1 13 2) (T.1 14 2))
    (bA : 0 ≤ A ∧ A ≤ 3221225469 * 401) (bB : 0 ≤ B ∧ B ≤ 3221225469 * 401) (bD : 0 ≤ D ∧ D ≤ 3221225469 * 401)
    (h1 : A + (wo (T.1 11 0) + wo (T.1 11 1) + wo (T.1 11 2)) ≤ 1073741823 → B + ((T.1 12 0).toInt + (T.1 12 1).toInt + (T.1 12 2).toInt) ≤ 1073741823 → D + ((T.1 14 0).toInt + (T.1 14 1).toInt + (T.1 14 2).toInt) ≤ 1073741823 → post 1)
    (h0 : ¬ (A + (wo (T.1 11 0) + wo (T.1 11 1) + wo (T.1 11 2)) ≤ 1073741823 ∧ B + ((T.1 12 0).toInt + (T.1 12 1).toInt + (T.1 12 2).toInt) ≤ 1073741823 ∧ D + ((T.1 14 0).toInt + (T.1 14 1).toInt + (T.1 14 2).toInt) ≤ 1073741823) → post 0) : ∃ k9 : Nat, wl_Mo_fitsInSizes_115 T post k9 a b d 0 := by
  unfold gl4 po at g0 g1 g2
  have w0 := wo_bd (Or.inr g0.1)
  have w1 := wo_bd (Or.inr g1.1)
  have w2 := wo_bd (Or.inr g2.1)
  have i0 : vp_in 0 3 := by unfold vp_in; decide
  have i1 : vp_in 1 3 := by unfold vp_in; decide
  have i2 : vp_in 2 3 := by unfold vp_in; decide
  refine ⟨4, ?_⟩
  unfold wl_Mo_fitsInSizes_115
  refine ⟨fun q => absurd q (by decide), fun _ => ⟨i0, s_without fun r4 e4 v5 q5 => ⟨i0, fun v6 q6 => ⟨i0, fun v7 q7 v8 q8 => ?_⟩⟩⟩⟩
  rw [show (0 : Int32).toNatClampNeg = 0 from rfl] at *
  have t5 : v5.toInt = A + wo (T.1 11 0) := by rw [q5, j_add (by rw [ea, e4]; omega) (by rw [ea, e4]; omega), ea, e4]
  have t6 : v6.toInt = B + (T.1 12 0).toInt := by rw [q6, j_add (by rw [eb, j_of]; omega) (by rw [eb, j_of]; omega), eb, j_of]
  have t7 : v7.toInt = D + (T.1 14 0).toInt := by rw [q7, j_add (by rw [ed, j_of]; omega) (by rw [ed, j_of]; omega), ed, j_of]
  have t8 : v8 = 1 := by rw [q8]; rfl
  subst t8
  unfold wl_Mo_fitsInSizes_115
  refine ⟨fun q => absurd q (by decide), fun _ => ⟨i1, s_without fun r4' e4' v5' q5' => ⟨i1, fun v6' q6' => ⟨i1, fun v7' q7' v8' q8' => ?_⟩⟩⟩⟩
  rw [show (1 : Int32).toNatClampNeg = 1 from rfl] at *
  have t5' : v5'.toInt = A + wo (T.1 11 0) + wo (T.1 11 1) := by rw [q5', j_add (by rw [t5, e4']; omega) (by rw [t5, e4']; omega), t5, e4']
  have t6' : v6'.toInt = B + (T.1 12 0).toInt + (T.1 12 1).toInt := by rw [q6', j_add (by rw [t6, j_of]; omega) (by rw [t6, j_of]; omega), t6, j_of]
  have t7' : v7'.toInt = D + (T.1 14 0).toInt + (T.1 14 1).toInt := by rw [q7', j_add (by rw [t7, j_of]; omega) (by rw [t7, j_of]; omega), t7, j_of]
  have t8 : v8' = 2 := by rw [q8']; rfl
  subst t8
  unfold wl_Mo_fitsInSizes_115
  refine ⟨fun q => absurd q (by decide), fun _ => ⟨i2, s_without fun r4'' e4'' v5'' q5'' => ⟨i2, fun v6'' q6'' => ⟨i2, fun v7'' q7'' v8'' q8'' => ?_⟩⟩⟩⟩
  rw [show (2 : Int32).toNatClampNeg = 2 from rfl] at *
  have t5'' : v5''.toInt = A + wo (T.1 11 0) + wo (T.1 11 1) + wo (T.1 11 2) := by rw [q5'', j_add (by rw [t5', e4'']; omega) (by rw [t5', e4'']; omega), t5', e4'']
  have t6'' : v6''.toInt = B + (T.1 12 0).toInt + (T.1 12 1).toInt + (T.1 12 2).toInt := by rw [q6'', j_add (by rw [t6', j_of]; omega) (by rw [t6', j_of]; omega), t6', j_of]
  have t7'' : v7''.toInt = D + (T.1 14 0).toInt + (T.1 14 1).toInt + (T.1 14 2).toInt := by rw [q7'', j_add (by rw [t7', j_of]; omega) (by rw [t7', j_of]; omega), t7', j_of]
  have t8 : v8'' = 3 := by rw [q8'']; rfl
  subst t8
  unfold wl_Mo_fitsInSizes_115
  refine ⟨fun _ => s_MisSizeJ (fun _ u1 => ⟨fun z => absurd z (by decide), fun _ => s_MisSizeJ (fun _ u2 => ⟨fun z => absurd z (by decide), fun _ => s_MisSizeJ (fun _ u3 => ⟨fun z => absurd z (by decide), fun _ => h1 (by omega) (by omega) (by omega)⟩) (fun u => ⟨fun _ => h0 fun z => by omega, fun z => absurd rfl z⟩)⟩) (fun u => ⟨fun _ => h0 fun z => by omega, fun z => absurd rfl z⟩)⟩) (fun u => ⟨fun _ => h0 fun z => by omega, fun z => absurd rfl z⟩), fun q => absurd (by decide) q⟩
theorem itm_wT {S T : ST} {k : Nat} (h : itm S T k) : (T.1 1 k = 4 ∨ mk (T.1 2 k)) ∧ (T.1 1 k = 5 → mk (T.1 7 k)) := by
  unfold itm at h
  obtain ⟨e1, e2, h⟩ := h
  rw [← e1]
  rcases h with ⟨a, b, c1, -⟩ | ⟨a, b, c1, -⟩ | ⟨a, -⟩ | ⟨a, b, c1, d, e, f, g, p, q, r, s, t, u, v, w, x⟩
  · rw [b] at c1
    exact ⟨Or.inr (Or.inr c1), fun z => by rw [z] at a; exact absurd a (by decide)⟩
  · rw [b] at c1
    exact ⟨Or.inr (Or.inr c1), fun z => by rw [z] at a; exact absurd a (by decide)⟩
  · exact ⟨Or.inl a, fun z => by rw [z] at a; exact absurd a (by decide)⟩
  · rw [u] at v
    rw [s, ← r]
    exact ⟨Or.inr t, fun _ => v⟩
theorem s_fits_l {S T : ST} {c : Nat} {post : Int32 → Prop} (hc : c ≤ 400) (hT : T.2.2 1 = nI c) (h1 : ∀ k, k < c → itm S T k) (h3 : arnd S T) (h4 : sets S T) (ha : fitOK T c → post 1) (hb : ¬ fitOK T c → post 0) :
    ∀ (n k : Nat) (a b d : Int64), k ≤ c → c < k + n → a.toInt = psum (itW T) k → b.toInt = (T.1 9 8).toInt + psum (fun k => (T.1 3 k).toInt) k → d.toInt = psum (fun k => (T.1 5 k).toInt) k → wl_Mo_fitsInSizes_17 T post n a b d (nI k) := by
  have bW := psum_bd (c := c) (f := itW T) (B := 3221225469) (fun k hk => ⟨(itm_wid (h1 k hk)).2.2.2.2.1, (itm_wid (h1 k hk)).2.2.2.2.2.1⟩)
  have bS := psum_bd (c := c) (f := fun k => (T.1 3 k).toInt) (B := 1073741823) (fun k hk => (itm_wid (h1 k hk)).2.2.2.2.2.2.2.1)
  have bH := psum_bd (c := c) (f := fun k => (T.1 5 k).toInt) (B := 1073741823) (fun k hk => (itm_wid (h1 k hk)).2.2.2.2.2.2.2.2.2)
  have h8 := h4.1 8 (by omega)
  have m8 : (tb_most 8).toInt = 1073741823 := rfl
  have l8 : (tb_least 8).toInt = 0 := rfl
  rw [m8, l8] at h8
  intro n
  induction n with
  | zero => intro k a b d _ h; omega
  | succ n ih =>
    intro k a b d hk hn ea eb ed
    unfold wl_Mo_fitsInSizes_17
    rw [hT]
    have bk := bW k hk
    have bk2 := bS k hk
    have bk3 := bH k hk
    refine ⟨fun q => ?_, fun q => ?_⟩
    · have := (nI_leI (by omega) (by omega)).mp q
      have : k = c := by omega
      subst this
      unfold fitOK at ha hb
      refine s_fits3 (c := k) ea eb ed h3.1.2.2.2.2 h3.2.1.2.2.2.2 h3.2.2.2.2.2.2 (by omega) (by omega) (by omega) (fun z1 z2 z3 => ha ⟨z1, by omega, z3⟩) (fun z => hb fun y => z ⟨y.1, by omega, y.2.2⟩)
    · have hkc : k < c := by
        rcases Nat.lt_or_ge k c with z | z
        · exact z
        · exact absurd ((nI_leI (by omega) (by omega)).mpr z) q
      have hin : vp_in (nI k) 410 := vp_in_nI (by omega) (by omega)
      rw [nI_clamp (by omega)]
      obtain ⟨-, -, -, -, c5, c6, -, c8, -, c10⟩ := itm_wid (h1 k hkc)
      unfold po at c8 c10
      have fin : ∀ z : Int64, z.toInt = psum (itW T) k + itW T k → wl_Mo_fitsInSizes_81 T post (fun x1 x3 x5 x7 => wl_Mo_fitsInSizes_17 T post n x1 x3 x5 x7) b d (nI k) z := by
        intro z ez
        unfold wl_Mo_fitsInSizes_81
        rw [nI_clamp (by omega)]
        refine ⟨hin, fun v1 e1 => ⟨hin, fun v2 e2 v3 e3 => ?_⟩⟩
        rw [e3, nI_1]
        refine ih (k + 1) z v1 v2 (by omega) (by omega) ez ?_ ?_
        · rw [e1, j_add (by rw [eb, j_of]; omega) (by rw [eb, j_of]; omega), eb, j_of]
          show _ = _ + (psum (fun k => (T.1 3 k).toInt) k + (T.1 3 k).toInt)
          omega
        · rw [e2, j_add (by rw [ed, j_of]; omega) (by rw [ed, j_of]; omega), ed, j_of]
          rfl
      have w2 := (itm_wT (h1 k hkc)).1
      have w7 := (itm_wT (h1 k hkc)).2
      have fin2 : ∀ z : Int64, z.toInt = psum (itW T) k + (if T.1 1 k = 4 then 0 else wo (T.1 2 k)) → wl_Mo_fitsInSizes_53 T post (fun x1 x3 x5 x7 => wl_Mo_fitsInSizes_17 T post n x1 x3 x5 x7) b d (nI k) z := by
        intro z ez
        have b4 : 0 ≤ (if T.1 1 k = 4 then 0 else wo (T.1 2 k)) ∧ (if T.1 1 k = 4 then 0 else wo (T.1 2 k)) ≤ 1073741823 := by
          by_cases y : T.1 1 k = 4
          · rw [if_pos y]; omega
          · rw [if_neg y]; exact wo_bd (w2.resolve_left y)
        unfold wl_Mo_fitsInSizes_53
        rw [nI_clamp (by omega)]
        refine ⟨hin, fun y => fin z ?_, fun y => ⟨hin, s_without fun r e => fin _ ?_⟩⟩
        · rw [show itW T k = (if T.1 1 k = 4 then 0 else wo (T.1 2 k)) + (if T.1 1 k = 5 then wo (T.1 7 k) else 0) from rfl, if_neg y, ez]
          omega
        · have := wo_bd (w7 y)
          rw [show itW T k = (if T.1 1 k = 4 then 0 else wo (T.1 2 k)) + (if T.1 1 k = 5 then wo (T.1 7 k) else 0) from rfl, if_pos y, j_add (by rw [ez, e]; omega) (by rw [ez, e]; omega), ez, e]
          omega
      refine ⟨hin, fun y => ⟨hin, s_without fun r e => fin2 _ ?_⟩, fun y => fin2 _ ?_⟩
      · have := wo_bd (w2.resolve_left y)
        rw [if_neg y, j_add (by rw [ea, e]; omega) (by rw [ea, e]; omega), ea, e]
      · rw [if_pos y, ea]
        omega
theorem s_fits {S T : ST} {c : Nat} {post : Int32 → Prop} (hc : c ≤ 400) (hT : T.2.2 1 = nI c) (h1 : ∀ k, k < c → itm S T k) (h3 : arnd S T) (h4 : sets S T) (ha : fitOK T c → post 1) (hb : ¬ fitOK T c → post 0) : wp_Mo_fitsInSizes T post := by
  unfold wp_Mo_fitsInSizes
  refine ⟨in810, fun v1 e1 => ⟨c + 1, s_fits_l hc hT h1 h3 h4 ha hb (c + 1) 0 0 v1 0 (by omega) (by omega) rfl ?_ rfl⟩⟩
  rw [e1, j_of]
  show _ = (T.1 9 8).toInt + 0
  rw [show (8 : Int32).toNatClampNeg = 8 from rfl]
  omega
theorem s_Mopen_l {S T : ST} {c : Nat} {post : Int32 → (Nat → Int32) → (Nat → Int32) → (Nat → Int32) → (Nat → Int32) → (Nat → Int32) → (Nat → Int32) → (Nat → Int32) → (Nat → Int32) → (Nat → Int32) → (Nat → Int32) → (Nat → Int32) → (Nat → Int32) → (Nat → Int32) → (Nat → Int32) → (Nat → Int32) → (Nat → Int32) → (Nat → Int32) → (Nat → Int32) → (Nat → Int32) → (Nat → Int64) → (Nat → Int64) → Int32 → Int32 → Int32 → Int32 → Int32 → Int32 → Int32 → Int32 → Int32 → Int32 → Int32 → Int32 → Int32 → Int32 → Int32 → Int32 → Prop} (hc : c ≤ 400) (hT : T.2.2 1 = nI c) (h1 : ∀ k, k < c → itm S T k) (h3 : arnd S T) (h4 : sets S T)
    (ha : (∀ h, ¬ cov (S.1 2) (S.1 10) c h) → fitOK T c → wl_Mo_breakUp_74 T post 0) (hb : (∀ h, ¬ cov (S.1 2) (S.1 10) c h) → ¬ fitOK T c → wl_Mo_breakUp_74 T post 2) (hd : ∀ h, cov (S.1 2) (S.1 10) c h → wl_Mo_breakUp_74 T post 1) :
    ∀ (n k : Nat) (x : Int32), k ≤ c → c < k + n → ((x = 0 ∧ ∀ h, h < k → ¬ cov (S.1 2) (S.1 10) c h) ∨ (x = 1 ∧ ∃ h, cov (S.1 2) (S.1 10) c h)) → wl_Mo_breakUp_4 T post n x (nI k) := by
  intro n
  induction n with
  | zero => intro k x _ h; omega
  | succ n ih =>
    intro k x hk hn hx
    unfold wl_Mo_breakUp_4
    rw [hT]
    refine ⟨fun q => ?_, fun q => ?_⟩
    · have := (nI_leI (by omega) (by omega)).mp q
      have : k = c := by omega
      subst this
      rcases hx with ⟨rfl, hx⟩ | ⟨rfl, h, hx⟩
      · have nc : ∀ h, ¬ cov (S.1 2) (S.1 10) k h := fun h y => hx h y.1 y
        exact ⟨fun _ => s_fits hc hT h1 h3 h4 (fun f => ⟨fun z => absurd z (by decide), fun _ => ha nc f⟩) (fun f => ⟨fun _ => hb nc f, fun z => absurd rfl z⟩), fun z => absurd rfl z⟩
      · exact ⟨fun z => absurd z (by decide), fun _ => hd h hx⟩
    · have hkc : k < c := by
        rcases Nat.lt_or_ge k c with z | z
        · exact z
        · exact absurd ((nI_leI (by omega) (by omega)).mpr z) q
      have hin : vp_in (nI k) 410 := vp_in_nI (by omega) (by omega)
      rw [nI_clamp (by omega)]
      rcases hx with ⟨rfl, hx⟩ | ⟨rfl, h, hx⟩
      · obtain ⟨e1, e2⟩ := itm_k (h1 k hkc)
        refine ⟨fun z => absurd rfl z, fun _ => ⟨hin, fun y v e => ?_, fun y => ⟨hin, fun y2 v e => ?_, fun y2 v e => ?_⟩⟩⟩
        · rw [e, nI_1]
          refine ih (k + 1) 0 (by omega) (by omega) (Or.inl ⟨rfl, fun h hh hcv => ?_⟩)
          by_cases z : h = k
          · subst z; exact y (e1 ▸ hcv.2.1)
          · exact hx h (by omega) hcv
        · rw [e, nI_1]
          have b := itm_hb (h1 k hkc) (e1.trans y)
          rw [e2] at b
          rw [i_lt, i_add (by rw [nI_toInt (by omega)]; omega) (by rw [nI_toInt (by omega)]; omega), nI_toInt (by omega), nI_toInt (by omega)] at y2
          refine ih (k + 1) 0 (by omega) (by omega) (Or.inl ⟨rfl, fun h hh hcv => ?_⟩)
          by_cases z : h = k
          · subst z
            have := hcv.2.2
            rw [e2] at this
            omega
          · exact hx h (by omega) hcv
        · rw [e, nI_1]
          have b := itm_hb (h1 k hkc) (e1.trans y)
          rw [e2] at b
          rw [i_lt, i_add (by rw [nI_toInt (by omega)]; omega) (by rw [nI_toInt (by omega)]; omega), nI_toInt (by omega), nI_toInt (by omega)] at y2
          refine ih (k + 1) 1 (by omega) (by omega) (Or.inr ⟨rfl, k, hkc, e1.trans y, ?_⟩)
          rw [e2]
          omega
      · refine ⟨fun _ v e => ?_, fun z => absurd z (by decide)⟩
        rw [e, nI_1]
        exact ih (k + 1) 1 (by omega) (by omega) (Or.inr ⟨rfl, h, hx⟩)
