/-! Galley.prepare: its arrays are functions of X -/
theorem gal_item {S T : ST} {m k : Nat} (hk : k < m) (h : itm S T k) : S.1 2 k = cloX T m 1 k ∧ S.1 10 k = cloX T m 8 k ∧ (¬ S.1 2 k = 5 → S.1 7 k = fineX (cloX T m) k) ∧ (S.1 2 k = 5 → S.1 8 k = -1073741824 → T.1 9 4 = fineX (cloX T m) k) ∧ (S.1 2 k = 5 → ¬ S.1 8 k = -1073741824 → T.1 9 3 = fineX (cloX T m) k) ∧ hyw (S.1 8 k) = befX (cloX T m) k ∧ hyw (S.1 9 k) = bhdX (cloX T m) k ∧ S.1 3 k = iwX (cloX T m) k ∧ (S.1 5 k = 0 → S.1 4 k = ifX (cloX T m) k ∧ 0 = ieX (cloX T m) k) ∧ (¬ S.1 5 k = 0 → 0 = ifX (cloX T m) k ∧ S.1 4 k = ieX (cloX T m) k) ∧ S.1 6 k = isX (cloX T m) k ∧ (S.1 2 k = 5 → S.1 9 k = cloX T m 7 k) := by
  unfold fineX befX bhdX iwX ifX ieX isX
  simp only [clo_1, clo_2, clo_3, clo_4, clo_5, clo_6, clo_7, clo_8, clo_9, cl3_lt hk]
  have hn : hyw (-1073741824) = 0 := by decide
  unfold itm at h
  obtain ⟨e1, e2, h⟩ := h
  rw [← e1]
  rcases h with ⟨a, b, c1, d, e, f, g, p, q, r, s, t, u⟩ | ⟨a, b, c1, d, e, f, g, g2, p, q, r, s, t, u⟩ | ⟨a, b, c1, d, e, f, g, p, q, r, r2, s, t, u⟩ | ⟨a, b, c1, d, e, f, g, p, q, r, s, t, u, v, w, x⟩
  · have n1 : ¬ S.1 2 k = 1 := by intro z; rw [z] at a; exact absurd a (by decide)
    have n4 : ¬ S.1 2 k = 4 := by intro z; rw [z] at a; exact absurd a (by decide)
    have n5 : ¬ S.1 2 k = 5 := by intro z; rw [z] at a; exact absurd a (by decide)
    simp [n1, n4, n5, s, t, hn, b, d, f, p, r, e2]
  · simp [a, s, t, hn, b, d, f, p, r, e2]
    exact ⟨fun a => ⟨fun b => absurd a b, fun b => absurd a b⟩, fun a => ⟨fun b => absurd b a, fun b => absurd b a⟩⟩
  · simp [a, s, t, hn, b, c1, e, g, q, e2]
  · simp [a, hn, b, c1, e, g, r, s, u, q, e2]
    exact ⟨fun a b => absurd a b, fun a b => absurd b a⟩
theorem s_cwlg {S : ST} {c : Nat} {post : Int32 → Prop} (hc : c ≤ 400) (hS : S.2.2 73 = nI c) (h : post (nI (mB (S.1 2) c))) : wp_Pa_countWithoutLastGlue S post := by
  unfold wp_Pa_countWithoutLastGlue
  rw [hS]
  unfold mB at h
  refine ⟨fun q => ?_, fun q => ?_⟩
  · have : c ≤ 0 := (nI_leI (b := 0) (by omega) (by omega)).mp q
    rw [if_neg (by omega)] at h
    exact h
  · have h0 : 0 < c := by
      rcases Nat.lt_or_ge 0 c with z | z
      · exact z
      · exact absurd ((nI_leI (b := 0) (by omega) (by omega)).mpr z) q
    have e1 : nI c - 1 = nI (c - 1) := pk_sub (b := 1) (by omega)
    rw [e1, nI_clamp (by omega)]
    refine ⟨vp_in_nI (by omega) (by omega), fun z => ?_, fun z => ?_⟩
    · rw [if_neg (fun y => z y.2)] at h
      exact h
    · rw [if_pos ⟨h0, z⟩] at h
      exact h
def gCopy (X : Nat → Nat → Int32) (k : Nat) (a18 a19 a22 a23 : Nat → Int32) : Prop := a18 k = X 1 k ∧ a19 k = fineX X k ∧ a22 k = befX X k ∧ a23 k = bhdX X k
theorem s_widthOf {S : ST} {x : Int32} {post : Int32 → Prop} (h : post (hyw x)) : wp_Lb_widthOf S x post := by
  unfold wp_Lb_widthOf
  unfold hyw at h
  refine ⟨fun z => ?_, fun z => ?_⟩
  · rw [if_neg z] at h; exact h
  · rw [if_pos z] at h; exact h
theorem s_copy_l {S T : ST} {m : Nat} {post : (Nat → Int32) → (Nat → Int32) → (Nat → Int32) → (Nat → Int32) → Prop} (hm : m ≤ 400) (h1 : ∀ k, k < m → itm S T k) (h4 : sets S T) (hp : ∀ a18 a19 a22 a23 : Nat → Int32, (∀ k, k < m → gCopy (cloX T m) k a18 a19 a22 a23) → post a18 a19 a22 a23) :
    ∀ (n i : Nat) (a18 a19 a22 a23 : Nat → Int32), i ≤ m → m < i + n → (∀ k, k < i → gCopy (cloX T m) k a18 a19 a22 a23) → wl_Ga_copyItems_3 S post n a18 a19 a22 a23 (nI m) (nI i) := by
  intro n
  induction n with
  | zero => intro i _ _ _ _ _ h; omega
  | succ n ih =>
    intro i a18 a19 a22 a23 hi hn hI
    unfold wl_Ga_copyItems_3
    refine ⟨fun q => hp a18 a19 a22 a23 fun k hk => hI k ?_, fun q => ?_⟩
    · have := (nI_leI (by omega) (by omega)).mp q
      omega
    · have him : i < m := by
        rcases Nat.lt_or_ge i m with z | z
        · exact z
        · exact absurd ((nI_leI (by omega) (by omega)).mpr z) q
      have hp4 : vp_in (nI i) 400 := vp_in_nI (by omega) (by omega)
      have hp3 : vp_in (nI i) 403 := vp_in_nI (by omega) (by omega)
      obtain ⟨g1, -, g2, g3, g4, g5, g6, -⟩ := gal_item him (h1 i him)
      have fin : ∀ f1 f2 : Nat → Int32, f1 = upd a18 i (S.1 2 i) → (∃ f, f2 = upd f i (fineX (cloX T m) i) ∧ ∀ k, k ≠ i → f k = a19 k) → wl_Ga_copyItems_89 S post (fun a18 a19 a22 a23 x3 x4 => wl_Ga_copyItems_3 S post n a18 a19 a22 a23 x3 x4) f1 f2 a22 a23 (nI m) (nI i) := by
        rintro f1 f2 e1 ⟨f, e2, ef⟩
        unfold wl_Ga_copyItems_89
        rw [nI_clamp (by omega)]
        refine ⟨hp4, s_widthOf ⟨hp3, fun f3 e3 => ⟨hp4, s_widthOf ⟨hp3, fun f4 e4 v e => ?_⟩⟩⟩⟩
        rw [e, nI_1]
        refine ih (i + 1) _ _ _ _ (by omega) (by omega) fun k hk => ?_
        unfold gCopy
        rw [e1, e2, e3, e4]
        by_cases z : k = i
        · subst z
          rw [pk_us, pk_us, pk_us, pk_us]
          exact ⟨g1, rfl, g5, g6⟩
        · rw [pk_un z, pk_un z, pk_un z, pk_un z, ef k z]
          exact hI k (by omega)
      rw [nI_clamp (by omega)]
      refine ⟨hp4, hp3, fun f1 e1 => ⟨hp4, hp3, fun f2 e2 => ⟨hp3, fun z => ?_, fun z => ⟨hp4, fun z2 => ?_, fun z2 => ?_⟩⟩⟩⟩
      · rw [e1, pk_us] at z
        refine fin f1 f2 e1 ⟨a19, ?_, fun _ _ => rfl⟩
        rw [e2, g2 z]
      · rw [e1, pk_us] at z
        unfold wl_Ga_copyItems_65 wl_Ga_copyItems_87
        refine ⟨fun _ => ⟨by unfold vp_in; decide, hp3, fun f3 e3 => fin f1 f3 e1 ⟨f2, ?_, fun k hk => ?_⟩⟩, fun y => absurd rfl y⟩
        · rw [e3, nI_clamp (by omega), show (3 : Int32).toNatClampNeg = 3 from rfl, (h4.1 3 (by omega)).1, g4 z z2]
        · rw [e2, pk_un hk]
      · rw [e1, pk_us] at z
        unfold wl_Ga_copyItems_65 wl_Ga_copyItems_87
        refine ⟨fun y => absurd y (by decide), fun _ => ⟨by unfold vp_in; decide, hp3, fun f3 e3 => fin f1 f3 e1 ⟨f2, ?_, fun k hk => ?_⟩⟩⟩
        · rw [e3, nI_clamp (by omega), show (4 : Int32).toNatClampNeg = 4 from rfl, (h4.1 4 (by omega)).1, g3 z z2]
        · rw [e2, pk_un hk]
theorem s_close_l {S : ST} {m : Nat} {post : (Nat → Int32) → (Nat → Int32) → (Nat → Int32) → (Nat → Int32) → Prop} {a18 a19 : Nat → Int32} (hm : m ≤ 400) (hS : S.2.2 1099 = nI (m + 2)) {b22 b23 : Nat → Int32} (hp : ∀ a22 a23 : Nat → Int32, (∀ k, k < m → a22 k = b22 k ∧ a23 k = b23 k) → (∀ k, m ≤ k → k < m + 3 → a22 k = 0 ∧ a23 k = 0) → post a18 a19 a22 a23) :
    ∀ (n i : Nat) (a22 a23 : Nat → Int32), m ≤ i → i ≤ m + 3 → m + 3 < i + n → (∀ k, k < m → a22 k = b22 k ∧ a23 k = b23 k) → (∀ k, m ≤ k → k < i → a22 k = 0 ∧ a23 k = 0) → wl_Ga_close_58 S post n a18 a19 a22 a23 (nI i) := by
  intro n
  induction n with
  | zero => intro i _ _ _ _ h; omega
  | succ n ih =>
    intro i a22 a23 h0 hi hn hI hJ
    unfold wl_Ga_close_58
    rw [hS]
    refine ⟨fun q => hp a22 a23 hI fun k hk hk2 => hJ k hk ?_, fun q => ?_⟩
    · have := (nI_ltI (by omega) (by omega)).mp q
      omega
    · have him : i < m + 3 := by
        rcases Nat.lt_or_ge i (m + 3) with z | z
        · exact z
        · exact absurd ((nI_ltI (by omega) (by omega)).mpr (by omega)) q
      have hp3 : vp_in (nI i) 403 := vp_in_nI (by omega) (by omega)
      rw [nI_clamp (by omega)]
      refine ⟨hp3, fun f1 e1 => ⟨hp3, fun f2 e2 v e => ?_⟩⟩
      rw [e, nI_1]
      refine ih (i + 1) _ _ (by omega) (by omega) (by omega) (fun k hk => ?_) (fun k hk hk2 => ?_)
      · rw [e1, e2, pk_un (by omega), pk_un (by omega)]
        exact hI k hk
      · rw [e1, e2]
        by_cases z : k = i
        · subst z
          rw [pk_us, pk_us]
          exact ⟨rfl, rfl⟩
        · rw [pk_un z, pk_un z]
          exact hJ k hk (by omega)
theorem s_close {S T : ST} {m : Nat} {post : (Nat → Int32) → (Nat → Int32) → (Nat → Int32) → (Nat → Int32) → Prop} (hm : m ≤ 400) (hS : S.2.2 1099 = nI (m + 2)) (hg : ∀ k, k < m → gCopy (cloX T m) k (S.1 18) (S.1 19) (S.1 22) (S.1 23)) (hp : ∀ a18 a19 a22 a23 : Nat → Int32, (∀ k, k < m + 3 → gCopy (cloX T m) k a18 a19 a22 a23) → post a18 a19 a22 a23) : wp_Ga_close S (nI m) post := by
  unfold wp_Ga_close
  rw [hS, nI_1, nI_clamp (by omega), nI_clamp (by omega), nI_clamp (by omega)]
  have p0 : vp_in (nI m) 403 := vp_in_nI (by omega) (by omega)
  have p1 : vp_in (nI (m + 1)) 403 := vp_in_nI (by omega) (by omega)
  have p2 : vp_in (nI (m + 2)) 403 := vp_in_nI (by omega) (by omega)
  refine ⟨p0, fun f1 e1 => ⟨p0, fun f2 e2 => ⟨p1, fun f3 e3 => ⟨p1, fun f4 e4 => ⟨p2, fun f5 e5 => ⟨p2, fun f6 e6 => ⟨5, s_close_l (b22 := S.1 22) (b23 := S.1 23) hm hS (fun a22 a23 hI hJ => hp f5 f6 a22 a23 fun k hk => ?_) 5 m (S.1 22) (S.1 23) (by omega) (by omega) (by omega) (fun k _ => ⟨rfl, rfl⟩) (fun k hk hk2 => absurd hk2 (by omega))⟩⟩⟩⟩⟩⟩⟩
  unfold gCopy
  rw [e5, e6, e3, e4, e1, e2]
  rcases (by omega : k < m ∨ k = m ∨ k = m + 1 ∨ k = m + 2) with z | z | z | z
  · rw [pk_un (by omega), pk_un (by omega), pk_un (by omega), pk_un (by omega), pk_un (by omega), pk_un (by omega), (hI k z).1, (hI k z).2]
    exact hg k z
  · subst z
    rw [pk_un (by omega), pk_un (by omega), pk_us, pk_un (by omega), pk_un (by omega), pk_us, (hJ k (by omega) (by omega)).1, (hJ k (by omega) (by omega)).2]
    unfold fineX befX bhdX
    simp only [clo_1, clo_2, cl3_0]
    refine ⟨?_, ?_, ?_, ?_⟩ <;> first | trivial | rfl
  · subst z
    rw [pk_un (by omega), pk_us, pk_un (by omega), pk_us, (hJ (m + 1) (by omega) (by omega)).1, (hJ (m + 1) (by omega) (by omega)).2]
    unfold fineX befX bhdX
    simp only [clo_1, clo_2, cl3_1]
    refine ⟨?_, ?_, ?_, ?_⟩ <;> first | trivial | rfl
  · subst z
    rw [pk_us, pk_us, (hJ (m + 2) (by omega) (by omega)).1, (hJ (m + 2) (by omega) (by omega)).2]
    unfold fineX befX bhdX
    simp only [clo_1, clo_2, cl3_2]
    refine ⟨?_, ?_, ?_, ?_⟩ <;> first | trivial | rfl
def gSum (X : Nat → Nat → Int32) (k : Nat) (a24 a25 a26 a27 : Nat → Int32) : Prop := a24 (k + 1) = a24 k + iwX X k ∧ a25 (k + 1) = a25 k + ifX X k ∧ a26 (k + 1) = a26 k + ieX X k ∧ a27 (k + 1) = a27 k + isX X k
theorem s_sumUp_l {S T : ST} {m : Nat} {post : (Nat → Int32) → (Nat → Int32) → (Nat → Int32) → (Nat → Int32) → Prop} (hm : m ≤ 400) (hS : S.2.2 1099 = nI (m + 2)) (h1 : ∀ k, k < m → itm S T k) (h3 : arnd S T) (hp : ∀ a24 a25 a26 a27 : Nat → Int32, (∀ k, k < m + 2 → gSum (cloX T m) k a24 a25 a26 a27) → post a24 a25 a26 a27) :
    ∀ (n i : Nat) (a24 a25 a26 a27 : Nat → Int32), i ≤ m → m < i + n → (∀ k, k < i → gSum (cloX T m) k a24 a25 a26 a27) → wl_Ga_sumUp_3 S post n a24 a25 a26 a27 (nI m) (nI i) := by
  intro n
  induction n with
  | zero => intro i _ _ _ _ _ h; omega
  | succ n ih =>
    intro i a24 a25 a26 a27 hi hn hI
    unfold wl_Ga_sumUp_3
    refine ⟨fun q v1 ev => ?_, fun q => ?_⟩
    · have := (nI_leI (by omega) (by omega)).mp q
      have him : i = m := by omega
      subst him
      rw [ev, nI_1, hS, nI_clamp (by omega), nI_clamp (by omega), nI_clamp (by omega)]
      have p0 : vp_in (nI i) 403 := vp_in_nI (by omega) (by omega)
      have p1 : vp_in (nI (i + 1)) 403 := vp_in_nI (by omega) (by omega)
      have p2 : vp_in (nI (i + 2)) 403 := vp_in_nI (by omega) (by omega)
      obtain ⟨-, -, ⟨c1, c2, c3, c4, g3⟩⟩ := h3
      have fin : ∀ r7 r9 : Int32, r7 = ifX (cloX T i) (i + 1) → r9 = ieX (cloX T i) (i + 1) → ∀ f2 f3 f4 f5 f6 f8 f10 f11 : Nat → Int32, f2 = upd a24 (i + 1) (a24 i) → f3 = upd a25 (i + 1) (a25 i) → f4 = upd a26 (i + 1) (a26 i) → f5 = upd a27 (i + 1) (a27 i) → f6 = upd f2 (i + 2) (f2 (i + 1) + S.2.2 1024) → f8 = upd f3 (i + 2) (f3 (i + 1) + r7) → f10 = upd f4 (i + 2) (f4 (i + 1) + r9) → f11 = upd f5 (i + 2) (f5 (i + 1) + S.2.2 1027) → post f6 f8 f10 f11 := by
        intro r7 r9 h7 h9 f2 f3 f4 f5 f6 f8 f10 f11 e2 e3 e4 e5 e6 e8 e10 e11
        refine hp f6 f8 f10 f11 fun k hk => ?_
        have z0 : ∀ x : Int32, x = x + 0 := fun x => (Int32.add_zero x).symm
        unfold gSum
        rw [e6, e8, e10, e11, e2, e3, e4, e5]
        rcases (by omega : k < i ∨ k = i ∨ k = i + 1) with z | z | z
        · rw [pk_un (by omega), pk_un (by omega), pk_un (by omega), pk_un (by omega), pk_un (by omega), pk_un (by omega), pk_un (by omega), pk_un (by omega), pk_un (by omega), pk_un (by omega), pk_un (by omega), pk_un (by omega), pk_un (by omega), pk_un (by omega), pk_un (by omega), pk_un (by omega)]
          exact hI k z
        · subst z
          rw [pk_un (by omega), pk_us, pk_un (by omega), pk_un (by omega), pk_un (by omega), pk_us, pk_un (by omega), pk_un (by omega), pk_un (by omega), pk_us, pk_un (by omega), pk_un (by omega), pk_un (by omega), pk_us, pk_un (by omega), pk_un (by omega)]
          unfold iwX ifX ieX isX
          simp only [clo_1, clo_4, cl3_0]
          exact ⟨z0 _, z0 _, z0 _, z0 _⟩
        · subst z
          rw [show i + 1 + 1 = i + 2 from rfl, pk_us, pk_us, pk_us, pk_us, pk_us, pk_us, pk_us, pk_us]
          rw [pk_un (by omega), pk_us, pk_un (by omega), pk_us, pk_un (by omega), pk_us, pk_un (by omega), pk_us, h7, h9, c1, c4]
          unfold iwX isX
          simp only [clo_1, clo_2, clo_5, cl3_1]
          refine ⟨?_, ?_, ?_, ?_⟩ <;> first | trivial | rfl
      have k1 : ∀ r : Int32, T.1 13 2 = 0 → r = T.1 12 2 → r = ifX (cloX T i) (i + 1) ∧ (0 : Int32) = ieX (cloX T i) (i + 1) := by
        intro r y e
        unfold ifX ieX
        simp only [clo_1, clo_3, clo_4, cl3_1]
        rw [if_pos ⟨trivial, y⟩, if_neg (fun z => z.2 y)]
        exact ⟨e, rfl⟩
      have k2 : ∀ r : Int32, ¬ T.1 13 2 = 0 → r = T.1 12 2 → (0 : Int32) = ifX (cloX T i) (i + 1) ∧ r = ieX (cloX T i) (i + 1) := by
        intro r y e
        unfold ifX ieX
        simp only [clo_1, clo_3, clo_4, cl3_1]
        rw [if_neg (fun z => y z.2), if_pos ⟨trivial, y⟩]
        exact ⟨rfl, e⟩
      refine ⟨p0, p1, fun f2 e2 => ⟨p0, p1, fun f3 e3 => ⟨p0, p1, fun f4 e4 => ⟨p0, p1, fun f5 e5 => ⟨p1, p2, fun f6 e6 => ⟨p1, ?_⟩⟩⟩⟩⟩⟩
      unfold wp_Gl_finiteStretch_16 wp_Gl_endlessStretch_16
      refine ⟨fun y => ⟨p2, fun f8 e8 => ⟨p1, fun y2 => ⟨p2, fun f10 e10 => ⟨p1, p2, fun f11 e11 => ?_⟩⟩, fun y2 => absurd y2 y⟩⟩, fun y => ⟨p2, fun f8 e8 => ⟨p1, fun y2 => absurd y y2, fun y2 => ⟨p2, fun f10 e10 => ⟨p1, p2, fun f11 e11 => ?_⟩⟩⟩⟩⟩
      · have y' : ¬ T.1 13 2 = 0 := by rw [← c3]; exact y
        exact fin _ _ (k2 (S.2.2 1025) y' c2).1 (k2 (S.2.2 1025) y' c2).2 f2 f3 f4 f5 f6 f8 f10 f11 e2 e3 e4 e5 e6 e8 e10 e11
      · have y' : T.1 13 2 = 0 := by rw [← c3]; exact y
        exact fin _ _ (k1 (S.2.2 1025) y' c2).1 (k1 (S.2.2 1025) y' c2).2 f2 f3 f4 f5 f6 f8 f10 f11 e2 e3 e4 e5 e6 e8 e10 e11
    · have him : i < m := by
        rcases Nat.lt_or_ge i m with z | z
        · exact z
        · exact absurd ((nI_leI (by omega) (by omega)).mpr z) q
      have p4 : vp_in (nI i) 400 := vp_in_nI (by omega) (by omega)
      have p0 : vp_in (nI i) 403 := vp_in_nI (by omega) (by omega)
      have p1 : vp_in (nI (i + 1)) 403 := vp_in_nI (by omega) (by omega)
      obtain ⟨-, -, -, -, -, -, -, g8, g9, g10, g11, -⟩ := gal_item him (h1 i him)
      have fin : ∀ (f1 f2 f3 f4 : Nat → Int32), f1 = upd a24 (i + 1) (a24 i + S.1 3 i) → f2 = upd a25 (i + 1) (a25 i + ifX (cloX T m) i) → f3 = upd a26 (i + 1) (a26 i + ieX (cloX T m) i) → f4 = upd a27 (i + 1) (a27 i + S.1 6 i) → wl_Ga_sumUp_3 S post n f1 f2 f3 f4 (nI m) (nI (i + 1)) := by
        intro f1 f2 f3 f4 e1 e2 e3 e4
        refine ih (i + 1) f1 f2 f3 f4 (by omega) (by omega) fun k hk => ?_
        unfold gSum
        rw [e1, e2, e3, e4]
        by_cases z : k = i
        · subst z
          rw [pk_us, pk_us, pk_us, pk_us, pk_un (by omega), pk_un (by omega), pk_un (by omega), pk_un (by omega), g8, g11]
          refine ⟨?_, ?_, ?_, ?_⟩ <;> first | trivial | rfl
        · rw [pk_un (by omega), pk_un (by omega), pk_un (by omega), pk_un (by omega), pk_un (by omega), pk_un (by omega), pk_un (by omega), pk_un (by omega)]
          exact hI k (by omega)
      rw [nI_clamp (by omega)]
      refine ⟨p4, fun y => ?_, fun y => ?_⟩
      · unfold wl_Ga_sumUp_24 wl_Ga_sumUp_85 wl_Ga_sumUp_113
        rw [nI_1, nI_clamp (by omega), nI_clamp (by omega)]
        refine ⟨p4, fun v1 e1 => ⟨p0, p4, p1, fun f2 e2 => ⟨p0, fun _ => ⟨p1, fun f3 e3 => ⟨p0, fun _ => ⟨p1, fun f4 e4 => ⟨p0, p4, p1, fun f5 e5 v3 e6 => ?_⟩⟩, fun z => absurd rfl z⟩⟩, fun z => absurd rfl z⟩⟩⟩
        rw [e6]
        exact fin f2 f3 f4 f5 e2 (by rw [e3, ← (g10 y).1]) (by rw [e4, e1, ← (g10 y).2]) e5
      · unfold wl_Ga_sumUp_24 wl_Ga_sumUp_85 wl_Ga_sumUp_113
        rw [nI_1, nI_clamp (by omega), nI_clamp (by omega)]
        refine ⟨p4, fun v1 e1 => ⟨p0, p4, p1, fun f2 e2 => ⟨p0, fun z => absurd z (by decide), fun _ => ⟨p1, fun f3 e3 => ⟨p0, fun z => absurd z (by decide), fun _ => ⟨p1, fun f4 e4 => ⟨p0, p4, p1, fun f5 e5 v3 e6 => ?_⟩⟩⟩⟩⟩⟩⟩
        rw [e6]
        exact fin f2 f3 f4 f5 e2 (by rw [e3, e1, ← (g9 y).1]) (by rw [e4, ← (g9 y).2]) e5
