/-! breakUp: both sides -/
theorem s_Mbreak126 {T : ST} {c m : Nat} {X : Nat → Nat → Int32} {post : Int32 → (Nat → Int32) → (Nat → Int32) → (Nat → Int32) → (Nat → Int32) → (Nat → Int32) → (Nat → Int32) → (Nat → Int32) → (Nat → Int32) → (Nat → Int32) → (Nat → Int32) → (Nat → Int32) → (Nat → Int32) → (Nat → Int32) → (Nat → Int32) → (Nat → Int32) → (Nat → Int32) → (Nat → Int32) → (Nat → Int32) → (Nat → Int32) → (Nat → Int64) → (Nat → Int64) → Int32 → Int32 → Int32 → Int32 → Int32 → Int32 → Int32 → Int32 → Int32 → Int32 → Int32 → Int32 → Int32 → Int32 → Int32 → Int32 → Prop} (hX : X = cloX T m) (hG : Gd X m) (hcm : c ≤ 400)
    (rA : ∀ num, fpX X ≤ num → num ≤ lpX X → (∀ j, fpX X ≤ j → j < num → noneP X m (lpX X) j) → FullN (NNx X m (lpX X) num) → ∀ (a15 a16 a17 a19 a20 a21 : Nat → Int32) (a22 a23 a24 a25 a26 : Nat → Int32) (l18 l27 : Nat → Int64) (i16 i17 i18 i19 i20 i27 i28 i30 i31 i32 i33 i35 i36 : Int32), post (-2) (upd (cl3 (T.1 1) m 4 1 4) m (T.1 1 m)) (upd (cl3 (T.1 2) m 10000 (T.1 11 2) (-10000)) m (T.1 2 m)) (upd (cl3 (T.1 3) m 0 (T.1 12 2) 0) m (T.1 3 m)) (upd (cl3 (T.1 4) m 0 (T.1 13 2) 0) m (T.1 4 m)) (upd (cl3 (T.1 5) m 0 (T.1 14 2) 0) m (T.1 5 m)) (cl3 (T.1 6) m 10000 (T.1 11 2) (-10000)) (cl3 (T.1 7) m 0 0 0) (cl3 (T.1 8) m 0 0 0) a15 a16 a17 a19 a20 a21 a22 a23 a24 a25 a26 l18 l27 0 (nI c) i16 i17 i18 i19 i20 i27 i28 i30 i31 i32 i33 0 i35 i36)
    (rB : ∀ num, fpX X ≤ num → num ≤ lpX X → (∀ j, fpX X ≤ j → j < num → noneP X m (lpX X) j) → ∀ (n Ln : Nat) (k : KEY) (a22 a23 a24 a25 a26 : Nat → Int32) (l27 : Nat → Int64), (∃ (p l f fm : Nat → Int32) (t : Nat → Int64), Rep p l f fm t n (NNx X m (lpX X) num)) → Cho X (num = lpX X) (NNx X m (lpX X) num) m k → k.2.1 = nI Ln → Ln ≤ 401 → (∀ i, i < Ln → OutI X m (moX X num) (NNx X m (lpX X) num) k Ln i (a22 i) (a23 i) (a24 i) (a25 i) (a26 i) (l27 i)) → ∀ (a15 a16 a17 a19 a20 a21 : Nat → Int32) (l18 : Nat → Int64) (i16 i17 i18 i19 i20 i27 i28 i30 i31 i32 i33 : Int32), post (nI Ln) (upd (cl3 (T.1 1) m 4 1 4) m (T.1 1 m)) (upd (cl3 (T.1 2) m 10000 (T.1 11 2) (-10000)) m (T.1 2 m)) (upd (cl3 (T.1 3) m 0 (T.1 12 2) 0) m (T.1 3 m)) (upd (cl3 (T.1 4) m 0 (T.1 13 2) 0) m (T.1 4 m)) (upd (cl3 (T.1 5) m 0 (T.1 14 2) 0) m (T.1 5 m)) (cl3 (T.1 6) m 10000 (T.1 11 2) (-10000)) (cl3 (T.1 7) m 0 0 0) (cl3 (T.1 8) m 0 0 0) a15 a16 a17 a19 a20 a21 a22 a23 a24 a25 a26 l18 l27 0 (nI c) i16 i17 i18 i19 i20 i27 i28 i30 i31 i32 i33 (nI num) (nI (n - 1)) (nI Ln))
    (rC : (∀ j, fpX X ≤ j → j ≤ lpX X → noneP X m (lpX X) j) → ∀ (a15 a16 a17 a19 a20 a21 : Nat → Int32) (a22 a23 a24 a25 a26 : Nat → Int32) (l18 l27 : Nat → Int64) (i16 i17 i18 i19 i20 i27 i28 i30 i31 i32 i33 i35 i36 : Int32), post 0 (upd (cl3 (T.1 1) m 4 1 4) m (T.1 1 m)) (upd (cl3 (T.1 2) m 10000 (T.1 11 2) (-10000)) m (T.1 2 m)) (upd (cl3 (T.1 3) m 0 (T.1 12 2) 0) m (T.1 3 m)) (upd (cl3 (T.1 4) m 0 (T.1 13 2) 0) m (T.1 4 m)) (upd (cl3 (T.1 5) m 0 (T.1 14 2) 0) m (T.1 5 m)) (cl3 (T.1 6) m 10000 (T.1 11 2) (-10000)) (cl3 (T.1 7) m 0 0 0) (cl3 (T.1 8) m 0 0 0) a15 a16 a17 a19 a20 a21 a22 a23 a24 a25 a26 l18 l27 0 (nI c) i16 i17 i18 i19 i20 i27 i28 i30 i31 i32 i33 0 i35 i36) : wl_Mo_breakUp_126 T post 0 (nI c) (nI m) := by
  have hm := hG.1
  have pm : vp_in (nI m) 410 := vp_in_nI (by omega) (by omega)
  have p2 : vp_in 2 3 := by unfold vp_in; decide
  have hX9 : X 9 = T.1 9 := by rw [hX]; rfl
  have l0 : (0 : Int32).toInt = 0 := rfl
  unfold wl_Mo_breakUp_126
  rw [nI_clamp (by omega), show (2 : Int32).toNatClampNeg = 2 from rfl, show (8 : Int32).toNatClampNeg = 8 from rfl]
  refine ⟨pm, fun v1 e1 => ⟨pm, fun v2 e2 => ⟨pm, fun v3 e3 => ⟨pm, fun v4 e4 => ⟨pm, fun v5 e5 => ?_⟩⟩⟩⟩⟩
  subst e1 e2 e3 e4 e5
  refine s_Mappend (S := sI (sI T 0 0) 1 (nI m)) (c := m) (by omega) rfl ⟨p2, p2, p2, p2, ?_⟩
  refine s_Mappend (c := m + 1) (by omega) rfl ?_
  refine s_Mappend (c := m + 2) (by omega) rfl ⟨in810, ?_⟩
  have w283 : ∀ (num lp : Nat), num = fpX X → lp = lpX X → ∃ k9 : Nat, wl_Mo_breakUp_283 T post k9 (cl3 (T.1 1) m 4 1 4) (cl3 (T.1 2) m 10000 (T.1 11 2) (-10000)) (cl3 (T.1 3) m 0 (T.1 12 2) 0) (cl3 (T.1 4) m 0 (T.1 13 2) 0) (cl3 (T.1 5) m 0 (T.1 14 2) 0) (cl3 (T.1 6) m 10000 (T.1 11 2) (-10000)) (cl3 (T.1 7) m 0 0 0) (cl3 (T.1 8) m 0 0 0) (T.1 15) (T.1 16) (T.1 17) (T.1 19) (T.1 20) (T.1 21) (T.1 22) (T.1 23) (T.1 24) (T.1 25) (T.1 26) (T.2.1 18) (T.2.1 27) 0 (nI (m + 3)) (nI num) (nI (m + 2)) (T.2.2 18) (T.2.2 19) (T.2.2 20) (T.2.2 27) (T.2.2 28) (T.2.2 30) (T.2.2 31) (T.2.2 32) (T.2.2 33) 0 (T.2.2 35) (T.2.2 36) (nI c) (nI m) (T.1 1 m) (T.1 2 m) (T.1 3 m) (T.1 4 m) (T.1 5 m) 0 0 (nI lp) := by
    intro num lp hn hl
    subst hn hl
    refine ⟨6, s_Mbreak_l hX hG hcm rA rB rC 6 (fpX X) _ _ _ _ _ _ _ _ _ _ _ _ _ _ _ _ _ _ _ _ _ _ _ _ _ (by omega) ?_ ?_ (fun j j1 j2 => absurd j2 (by omega))⟩
    · unfold fpX lpX; split <;> split <;> omega
    · unfold fpX lpX; split <;> split <;> omega
  have w263 : ∀ lp : Nat, lp = lpX X → wl_Mo_breakUp_263 T post (cl3 (T.1 1) m 4 1 4) (cl3 (T.1 2) m 10000 (T.1 11 2) (-10000)) (cl3 (T.1 3) m 0 (T.1 12 2) 0) (cl3 (T.1 4) m 0 (T.1 13 2) 0) (cl3 (T.1 5) m 0 (T.1 14 2) 0) (cl3 (T.1 6) m 10000 (T.1 11 2) (-10000)) (cl3 (T.1 7) m 0 0 0) (cl3 (T.1 8) m 0 0 0) 0 (nI (m + 3)) (nI (m + 2)) 0 (nI c) (nI m) (T.1 1 m) (T.1 2 m) (T.1 3 m) (T.1 4 m) (T.1 5 m) 0 0 (nI lp) := by
    intro lp hl
    unfold wl_Mo_breakUp_263
    rw [show (0 : Int32).toNatClampNeg = 0 from rfl, i_le, l0]
    refine ⟨in010, fun y => w283 1 lp ?_ hl, fun y => w283 2 lp ?_ hl⟩
    · unfold fpX; rw [hX9, if_neg (by omega)]
    · unfold fpX; rw [hX9, if_pos (by omega)]
  rw [i_le, l0]
  refine ⟨fun y => w263 2 ?_, fun y => w263 3 ?_⟩
  · unfold lpX; rw [hX9, if_neg (by omega)]
  · unfold lpX; rw [hX9, if_pos (by omega)]
theorem s_Mbreak {S T : ST} {c m : Nat} {X : Nat → Nat → Int32} {post : Int32 → (Nat → Int32) → (Nat → Int32) → (Nat → Int32) → (Nat → Int32) → (Nat → Int32) → (Nat → Int32) → (Nat → Int32) → (Nat → Int32) → (Nat → Int32) → (Nat → Int32) → (Nat → Int32) → (Nat → Int32) → (Nat → Int32) → (Nat → Int32) → (Nat → Int32) → (Nat → Int32) → (Nat → Int32) → (Nat → Int32) → (Nat → Int32) → (Nat → Int64) → (Nat → Int64) → Int32 → Int32 → Int32 → Int32 → Int32 → Int32 → Int32 → Int32 → Int32 → Int32 → Int32 → Int32 → Int32 → Int32 → Int32 → Int32 → Prop}
    (hc : c ≤ 400) (hT : T.2.2 1 = nI c) (h1 : ∀ k, k < c → itm S T k) (h2 : rep S c) (h3 : arnd S T) (h4 : sets S T) (hm : m = mB (T.1 1) c) (hX : X = cloX T m)
    (hi : ∀ h, cov (S.1 2) (S.1 10) c h → post 0 (T.1 1) (T.1 2) (T.1 3) (T.1 4) (T.1 5) (T.1 6) (T.1 7) (T.1 8) (T.1 15) (T.1 16) (T.1 17) (T.1 19) (T.1 20) (T.1 21) (T.1 22) (T.1 23) (T.1 24) (T.1 25) (T.1 26) (T.2.1 18) (T.2.1 27) 1 (T.2.2 1) (T.2.2 16) (T.2.2 17) (T.2.2 18) (T.2.2 19) (T.2.2 20) (T.2.2 27) (T.2.2 28) (T.2.2 30) (T.2.2 31) (T.2.2 32) (T.2.2 33) (T.2.2 34) (T.2.2 35) (T.2.2 36)) (hu : (∀ h, ¬ cov (S.1 2) (S.1 10) c h) → ¬ fitOK T c → post 0 (T.1 1) (T.1 2) (T.1 3) (T.1 4) (T.1 5) (T.1 6) (T.1 7) (T.1 8) (T.1 15) (T.1 16) (T.1 17) (T.1 19) (T.1 20) (T.1 21) (T.1 22) (T.1 23) (T.1 24) (T.1 25) (T.1 26) (T.2.1 18) (T.2.1 27) 2 (T.2.2 1) (T.2.2 16) (T.2.2 17) (T.2.2 18) (T.2.2 19) (T.2.2 20) (T.2.2 27) (T.2.2 28) (T.2.2 30) (T.2.2 31) (T.2.2 32) (T.2.2 33) (T.2.2 34) (T.2.2 35) (T.2.2 36))
    (rA : (∀ h, ¬ cov (S.1 2) (S.1 10) c h) → fitOK T c → ∀ num, fpX X ≤ num → num ≤ lpX X → (∀ j, fpX X ≤ j → j < num → noneP X m (lpX X) j) → FullN (NNx X m (lpX X) num) → ∀ (a15 a16 a17 a19 a20 a21 : Nat → Int32) (a22 a23 a24 a25 a26 : Nat → Int32) (l18 l27 : Nat → Int64) (i16 i17 i18 i19 i20 i27 i28 i30 i31 i32 i33 i35 i36 : Int32), post (-2) (upd (cl3 (T.1 1) m 4 1 4) m (T.1 1 m)) (upd (cl3 (T.1 2) m 10000 (T.1 11 2) (-10000)) m (T.1 2 m)) (upd (cl3 (T.1 3) m 0 (T.1 12 2) 0) m (T.1 3 m)) (upd (cl3 (T.1 4) m 0 (T.1 13 2) 0) m (T.1 4 m)) (upd (cl3 (T.1 5) m 0 (T.1 14 2) 0) m (T.1 5 m)) (cl3 (T.1 6) m 10000 (T.1 11 2) (-10000)) (cl3 (T.1 7) m 0 0 0) (cl3 (T.1 8) m 0 0 0) a15 a16 a17 a19 a20 a21 a22 a23 a24 a25 a26 l18 l27 0 (nI c) i16 i17 i18 i19 i20 i27 i28 i30 i31 i32 i33 0 i35 i36)
    (rB : (∀ h, ¬ cov (S.1 2) (S.1 10) c h) → fitOK T c → ∀ num, fpX X ≤ num → num ≤ lpX X → (∀ j, fpX X ≤ j → j < num → noneP X m (lpX X) j) → ∀ (n Ln : Nat) (k : KEY) (a22 a23 a24 a25 a26 : Nat → Int32) (l27 : Nat → Int64), (∃ (p l f fm : Nat → Int32) (t : Nat → Int64), Rep p l f fm t n (NNx X m (lpX X) num)) → Cho X (num = lpX X) (NNx X m (lpX X) num) m k → k.2.1 = nI Ln → Ln ≤ 401 → (∀ i, i < Ln → OutI X m (moX X num) (NNx X m (lpX X) num) k Ln i (a22 i) (a23 i) (a24 i) (a25 i) (a26 i) (l27 i)) → ∀ (a15 a16 a17 a19 a20 a21 : Nat → Int32) (l18 : Nat → Int64) (i16 i17 i18 i19 i20 i27 i28 i30 i31 i32 i33 : Int32), post (nI Ln) (upd (cl3 (T.1 1) m 4 1 4) m (T.1 1 m)) (upd (cl3 (T.1 2) m 10000 (T.1 11 2) (-10000)) m (T.1 2 m)) (upd (cl3 (T.1 3) m 0 (T.1 12 2) 0) m (T.1 3 m)) (upd (cl3 (T.1 4) m 0 (T.1 13 2) 0) m (T.1 4 m)) (upd (cl3 (T.1 5) m 0 (T.1 14 2) 0) m (T.1 5 m)) (cl3 (T.1 6) m 10000 (T.1 11 2) (-10000)) (cl3 (T.1 7) m 0 0 0) (cl3 (T.1 8) m 0 0 0) a15 a16 a17 a19 a20 a21 a22 a23 a24 a25 a26 l18 l27 0 (nI c) i16 i17 i18 i19 i20 i27 i28 i30 i31 i32 i33 (nI num) (nI (n - 1)) (nI Ln))
    (rC : (∀ h, ¬ cov (S.1 2) (S.1 10) c h) → fitOK T c → (∀ j, fpX X ≤ j → j ≤ lpX X → noneP X m (lpX X) j) → ∀ (a15 a16 a17 a19 a20 a21 : Nat → Int32) (a22 a23 a24 a25 a26 : Nat → Int32) (l18 l27 : Nat → Int64) (i16 i17 i18 i19 i20 i27 i28 i30 i31 i32 i33 i35 i36 : Int32), post 0 (upd (cl3 (T.1 1) m 4 1 4) m (T.1 1 m)) (upd (cl3 (T.1 2) m 10000 (T.1 11 2) (-10000)) m (T.1 2 m)) (upd (cl3 (T.1 3) m 0 (T.1 12 2) 0) m (T.1 3 m)) (upd (cl3 (T.1 4) m 0 (T.1 13 2) 0) m (T.1 4 m)) (upd (cl3 (T.1 5) m 0 (T.1 14 2) 0) m (T.1 5 m)) (cl3 (T.1 6) m 10000 (T.1 11 2) (-10000)) (cl3 (T.1 7) m 0 0 0) (cl3 (T.1 8) m 0 0 0) a15 a16 a17 a19 a20 a21 a22 a23 a24 a25 a26 l18 l27 0 (nI c) i16 i17 i18 i19 i20 i27 i28 i30 i31 i32 i33 0 i35 i36) : wp_Mo_breakUp T post := by
  unfold wp_Mo_breakUp
  refine ⟨c + 1, s_Mopen_l hc hT h1 h3 h4 (fun nc ok => ?_) (fun nc ok => ?_) (fun h hh => ?_) (c + 1) 0 0 (by omega) (by omega) (Or.inl ⟨rfl, fun h hh => absurd hh (Nat.not_lt_zero h)⟩)⟩
  · have hG : Gd X m := by rw [hX, hm]; exact Gd_of hc h1 h2 h3 h4 ok nc
    have w := s_Mbreak126 (c := c) hX hG hc (rA nc ok) (rB nc ok) (rC nc ok)
    unfold wl_Mo_breakUp_74 wl_Mo_breakUp_122
    refine ⟨fun _ v1 e1 => ?_, fun y => absurd (by decide) y⟩
    rw [hT] at e1
    subst e1
    rw [hT]
    refine ⟨fun y => ?_, fun y => ?_⟩
    · have : c ≤ 0 := (nI_leI (b := 0) (by omega) (by omega)).mp y
      have em : m = c := by rw [hm]; unfold mB; rw [if_neg (by omega)]
      rw [em] at w
      exact w
    · have h0 : 0 < c := by
        rcases Nat.lt_or_ge 0 c with z | z
        · exact z
        · exact absurd ((nI_leI (b := 0) (by omega) (by omega)).mpr z) y
      have e1 : nI c - 1 = nI (c - 1) := pk_sub (b := 1) (by omega)
      rw [e1, nI_clamp (by omega)]
      refine ⟨vp_in_nI (by omega) (by omega), fun z => ?_, fun z => ?_⟩
      · have em : m = c := by rw [hm]; unfold mB; rw [if_neg (fun u => z u.2)]
        rw [em] at w
        exact w
      · have em : m = c - 1 := by rw [hm]; unfold mB; rw [if_pos ⟨h0, z⟩]
        rw [em] at w
        exact w
  · unfold wl_Mo_breakUp_74
    exact ⟨fun y => absurd y (by decide), fun _ => hu nc ok⟩
  · unfold wl_Mo_breakUp_74
    exact ⟨fun y => absurd y (by decide), fun _ => hi h hh⟩
theorem itmB_ok {S T : ST} {c m : Nat} (h1 : ∀ k, k < c → itm S T k) (hm : m = mB (T.1 1) c) : itmB T c (upd (cl3 (T.1 1) m 4 1 4) m (T.1 1 m)) (upd (cl3 (T.1 2) m 10000 (T.1 11 2) (-10000)) m (T.1 2 m)) (upd (cl3 (T.1 3) m 0 (T.1 12 2) 0) m (T.1 3 m)) (upd (cl3 (T.1 4) m 0 (T.1 13 2) 0) m (T.1 4 m)) (upd (cl3 (T.1 5) m 0 (T.1 14 2) 0) m (T.1 5 m)) (cl3 (T.1 6) m 10000 (T.1 11 2) (-10000)) (cl3 (T.1 7) m 0 0 0) (cl3 (T.1 8) m 0 0 0) := by
  have hmc := mB_le (f := T.1 1) (c := c)
  rw [← hm] at hmc
  intro k hk
  by_cases w : k = m
  · subst w
    have g1 : T.1 1 k = 1 := by
      have e : mB (T.1 1) c = k := hm.symm
      unfold mB at e
      by_cases z : 0 < c ∧ T.1 1 (c - 1) = 1
      · rw [if_pos z] at e; rw [← e]; exact z.2
      · rw [if_neg z] at e; omega
    have hi := h1 k hk
    unfold itm at hi
    obtain ⟨e1, e2, hi⟩ := hi
    rw [e1, g1] at hi
    have r0 : S.1 10 k = 0 := by
      rcases hi with hi | hi | hi | hi
      · exact absurd hi.1 (by decide)
      · exact hi.2.2.2.2.2.2.2.2.2.2.2.2.2
      · exact absurd hi.1 (by decide)
      · exact absurd hi.1 (by decide)
    refine ⟨pk_us, pk_us, pk_us, pk_us, pk_us, ?_, fun z => absurd g1 z⟩
    rw [cl3_0, ← e2, r0]
  · have hlt : k < m := by omega
    rw [pk_un w, pk_un w, pk_un w, pk_un w, pk_un w, cl3_lt hlt, cl3_lt hlt, cl3_lt hlt, cl3_lt hlt, cl3_lt hlt, cl3_lt hlt, cl3_lt hlt, cl3_lt hlt]
    exact ⟨rfl, rfl, rfl, rfl, rfl, rfl, fun _ => ⟨rfl, rfl⟩⟩
theorem rep_n {p l f fm p' l' f' fm' : Nat → Int32} {t t' : Nat → Int64} {n n' : Nat} {N : KEY → Int64 → KEY → Prop} (h : Rep p l f fm t n N) (h' : Rep p' l' f' fm' t' n' N) : n' ≤ n := by
  rcases Nat.lt_or_ge n n' with z | z
  · exfalso
    have hx : ∀ i, ∃ j, i < n' → (j < n ∧ keyA p' l' f' i = keyA p l f j) := by
      intro i
      by_cases y : i < n'
      · have hN := (h'.1 _ _ _).mpr ⟨i, y, rfl, rfl, rfl⟩
        obtain ⟨j, a, b, -⟩ := (h.1 _ _ _).mp hN
        exact ⟨j, fun _ => ⟨a, b⟩⟩
      · exact ⟨0, fun w => absurd w y⟩
    have hf : ∃ F : Nat → Nat, ∀ i, i < n' → (F i < n ∧ keyA p' l' f' i = keyA p l f (F i)) := ⟨fun i => Classical.choose (hx i), fun i => Classical.choose_spec (hx i)⟩
    obtain ⟨F, hF⟩ := hf
    refine pigeon n F (fun i hi => (hF i (by omega)).1) (fun i j hi hj e => h'.2.1 i j (by omega) (by omega) ?_)
    rw [(hF i (by omega)).2, (hF j (by omega)).2, e]
  · exact z
theorem ok_702 : stepok wl_law_702 := by
  intro L xs Kh S T i hi hL hR hk
  obtain ⟨c, hc, hS, hT, h1, h2, h3, h4, h5⟩ := id hR
  refine law7 ?_
  unfold wp_La_breakUp
  have hb := itmB_ok (m := mB (T.1 1) c) h1 rfl
  have hNf : ∀ (X : Nat → Nat → Int32) (m num : Nat), Gd X m → ∀ k t g t' g', NNx X m (lpX X) num k t g → NNx X m (lpX X) num k t' g' → t = t' ∧ g = g' := fun X m num hG => (run_inv hG (m + 3) (by omega)).2.2.1
  refine s_Lbreak (m := mB (T.1 1) c) (X := cloX T (mB (T.1 1) c)) hc hS h1 h2 h3 h4 rfl rfl (fun h hh => Or.inl ⟨rfl, ?_⟩) (fun nc ok => Or.inr ⟨rfl, ?_⟩) ?_ ?_ ?_
  · refine s_Mbreak (S := S) hc hT h1 h2 h3 h4 rfl rfl (fun _ _ => fin7_thr hR hk (by decide)) (fun nc => absurd hh (nc h)) (fun nc => absurd hh (nc h)) (fun nc => absurd hh (nc h)) (fun nc => absurd hh (nc h))
  · refine s_Mbreak (S := S) hc hT h1 h2 h3 h4 rfl rfl (fun h hh => absurd hh (nc h)) (fun _ _ => fin7_thr hR hk (by decide)) (fun _ o => absurd o ok) (fun _ o => absurd o ok) (fun _ o => absurd o ok)
  · -- the class says FULL
    intro nc ok num n1 n2 n3 hFull a18 a19 a20 a21 a22 a23 a24 a25 a26 a27 a28 a32 a33 a34 a35 a39 a40 l36 l38 i1099 i1862 i1863 i1864 i1865 i1922 i1923 i1924 i1925 i1926 i1927 i1928 i1989 i2370 i2371
    refine ⟨in01, fun f45 e45 => ?_⟩
    refine s_Mbreak (S := S) hc hT h1 h2 h3 h4 rfl rfl (fun h hh => absurd hh (nc h)) (fun _ o => absurd ok o) (fun _ _ num' m1 m2 m3 hF' => ?_) (fun _ _ num' m1 m2 m3 n Ln k b22 b23 b24 b25 b26 k27 hRep hCho => ?_) (fun _ _ hNo => absurd hFull (hNo num n1 n2).1)
    · intro a15 a16 a17 a19 a20 a21 a22 a23 a24 a25 a26 l18 l27 i16 i17 i18 i19 i20 i27 i28 i30 i31 i32 i33 i35 i36
      exact fin7_ok hk hc hS h1 h2 h3 h4 hb rfl (Or.inl ⟨rfl, rfl, rfl, rfl⟩) e45
    · rcases Nat.lt_trichotomy num' num with z | z | z
      · exact absurd hCho ((n3 num' m1 z).2 k)
      · subst z
        obtain ⟨p, l, f, fm, t, hRep⟩ := hRep
        exact (rep_full hRep hFull).elim
      · exact absurd hFull (m3 num n1 z).1
  · -- the class has chosen
    intro nc ok num n1 n2 n3 n Ln k a43 a44 a45 a46 a47 l48 hRep hCho hkl hLn hOut a18 a19 a20 a21 a22 a23 a24 a25 a26 a27 a28 a32 a33 a34 a35 a39 a40 l36 l38 i1099 i1862 i1863 i1864 i1865 i1922 i1923 i1924 i1925 i1926 i1927 i1928 i1989 i2370 i2371
    have hG : Gd (cloX T (mB (T.1 1) c)) (mB (T.1 1) c) := Gd_of hc h1 h2 h3 h4 ok nc
    have hl3 : lpX (cloX T (mB (T.1 1) c)) ≤ 3 := by unfold lpX; split <;> omega
    have hf1 : 1 ≤ fpX (cloX T (mB (T.1 1) c)) := by unfold fpX; split <;> omega
    refine ⟨in01, fun f45 e45 => ?_⟩
    refine s_Mbreak (S := S) hc hT h1 h2 h3 h4 rfl rfl (fun h hh => absurd hh (nc h)) (fun _ o => absurd ok o) (fun _ _ num' m1 m2 m3 hF' => ?_) (fun _ _ num' m1 m2 m3 n' Ln' k' b22 b23 b24 b25 b26 k27 hRep' hCho' hkl' hLn' hOut' => ?_) (fun _ _ hNo => absurd hCho ((hNo num n1 n2).2 k))
    · rcases Nat.lt_trichotomy num' num with z | z | z
      · exact absurd hF' (n3 num' m1 z).1
      · subst z
        obtain ⟨p, l, f, fm, t, hRep⟩ := hRep
        exact (rep_full hRep hF').elim
      · exact absurd hCho ((m3 num n1 z).2 k)
    · rcases Nat.lt_trichotomy num' num with z | z | z
      · exact absurd hCho' ((n3 num' m1 z).2 k')
      · subst z
        have ek := cho_uniq hCho hCho'
        subst ek
        have eL : Ln = Ln' := (nI_eq (by omega) (by omega)).mp (hkl.symm.trans hkl')
        subst eL
        obtain ⟨p, l, f, fm, t, hRep⟩ := hRep
        obtain ⟨p', l', f', fm', t', hRep'⟩ := hRep'
        have en : n = n' := Nat.le_antisymm (rep_n hRep' hRep) (rep_n hRep hRep')
        subst en
        intro a15 a16 a17 a19 a20 a21 l18 i16 i17 i18 i19 i20 i27 i28 i30 i31 i32 i33
        refine fin7_ok hk hc hS h1 h2 h3 h4 hb rfl (Or.inr ⟨rfl, ?_, rfl, rfl, Ln, hLn, rfl, fun i hi => out_fun hG.1 (hNf _ _ _ hG) (hOut i hi) (hOut' i hi)⟩) e45
        rw [nI_toInt (by omega)]
        omega
      · exact absurd hCho ((m3 num n1 z).2 k)
  · -- the class has found nothing
    intro nc ok hNo a18 a19 a20 a21 a22 a23 a24 a25 a26 a27 a28 a32 a33 a34 a35 a39 a40 l36 l38 i1099 i1862 i1863 i1864 i1865 i1922 i1923 i1924 i1925 i1926 i1927 i1928 i1989 i2370 i2371
    refine ⟨in01, fun f45 e45 => ?_⟩
    refine s_Mbreak (S := S) hc hT h1 h2 h3 h4 rfl rfl (fun h hh => absurd hh (nc h)) (fun _ o => absurd ok o) (fun _ _ num' m1 m2 m3 hF' => absurd hF' (hNo num' m1 m2).1) (fun _ _ num' m1 m2 m3 n' Ln' k' b22 b23 b24 b25 b26 k27 hRep' hCho' => absurd hCho' ((hNo num' m1 m2).2 k')) (fun _ _ _ => ?_)
    intro a15 a16 a17 a19 a20 a21 a22 a23 a24 a25 a26 l18 l27 i16 i17 i18 i19 i20 i27 i28 i30 i31 i32 i33 i35 i36
    exact fin7_ok hk hc hS h1 h2 h3 h4 hb rfl (Or.inl ⟨rfl, rfl, rfl, rfl⟩) e45
