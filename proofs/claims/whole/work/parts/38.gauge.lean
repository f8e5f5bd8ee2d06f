/-! Gauge.measure -/
theorem dif {a g : Nat → Int32} {n : Nat} (h : ∀ k, k < n → a (k + 1) = a k + g k) : ∀ e s, s ≤ e → e ≤ n → a e - a s = Int32.ofInt (psum (fun k => (g k).toInt) e - psum (fun k => (g k).toInt) s) := by
  intro e
  induction e with
  | zero =>
    intro s hs _
    have : s = 0 := by omega
    subst this
    rw [Int32.sub_self, Int.sub_self]
    rfl
  | succ e ih =>
    intro s hs he
    by_cases z : s = e + 1
    · subst z
      rw [Int32.sub_self, Int.sub_self]
      rfl
    · have h1 := ih s (by omega) (by omega)
      have h2 := h e (by omega)
      rw [h2]
      have : psum (fun k => (g k).toInt) (e + 1) - psum (fun k => (g k).toInt) s = (psum (fun k => (g k).toInt) e - psum (fun k => (g k).toInt) s) + (g e).toInt := by
        show psum (fun k => (g k).toInt) e + (g e).toInt - _ = _
        omega
      rw [this, Int32.ofInt_add, ← h1, Int32.ofInt_toInt, Int32.sub_eq_add_neg, Int32.sub_eq_add_neg, Int32.add_assoc, Int32.add_comm (g e), ← Int32.add_assoc]
/-- the class's galley and what stands around lines, as X has them -/
def GalS (X : Nat → Nat → Int32) (m : Nat) (S : ST) : Prop :=
  S.2.2 1099 = nI (m + 2) ∧ GalF X m (S.1 18) (S.1 19) (S.1 20) (S.1 21) (S.1 22) (S.1 23) (S.1 24) (S.1 25) (S.1 26) (S.1 27) ∧
  S.2.2 896 = X 11 0 ∧ S.2.2 897 = X 12 0 ∧ S.2.2 898 = X 13 0 ∧ S.2.2 899 = X 14 0 ∧ S.2.2 960 = X 11 1 ∧ S.2.2 961 = X 12 1 ∧ S.2.2 962 = X 13 1 ∧ S.2.2 963 = X 14 1 ∧
  (∀ j, j < 10 → S.1 12 j = X 9 j) ∧ (∀ j, j < 20 → S.1 13 j = X 10 j)
/-- the wished width of line l -/
def wiX (X : Nat → Nat → Int32) (l : Nat) : Int32 := X 10 (if l < 20 then l else 19)
/-- what is said of a line from a to e, l lines before it -/
def msS (X : Nat → Nat → Int32) (m : Nat) (more a : Int32) (e : Nat) (w : Int32) : Int32 := jS w.toInt (W1 X m a e) (F1 X m more a e) (E1 X m a e) (H1 X m a e)
def msB (X : Nat → Nat → Int32) (m : Nat) (more a : Int32) (e : Nat) (w : Int32) : Int32 := jB w.toInt (W1 X m a e) (F1 X m more a e) (E1 X m a e) (H1 X m a e)
def msF (X : Nat → Nat → Int32) (m : Nat) (more a : Int32) (e : Nat) (w : Int32) : Int32 := jF w.toInt (W1 X m a e) (F1 X m more a e) (E1 X m a e) (H1 X m a e)
theorem s_measure36 {S : ST} {X : Nat → Nat → Int32} {m e : Nat} {a w : Int32} {post : Int32 → Int32 → Int32 → Int32 → Int32 → Int32 → Prop} (hG : Gd X m) (hS : GalS X m S) (he : e < m + 3) (ha : befo a e) (hw : sz w) (hm0 : 0 ≤ (S.2.2 1922).toInt) (hm1 : (S.2.2 1922).toInt ≤ (X 9 8).toInt)
    (hp : post (msS X m (S.2.2 1922) a e w) (msB X m (S.2.2 1922) a e w) (msF X m (S.2.2 1922) a e w) a (nI e) w) : wl_Gu_measure_36 S post a (nI e) w := by
  obtain ⟨bW, bF, bE, bH, bs⟩ := meas_bd hG he ha hm0 hm1
  obtain ⟨hm, -⟩ := hG
  obtain ⟨-, ⟨g1, g2⟩, a1, a2, a3, a4, b1, b2, b3, b4, -, -⟩ := hS
  have ofadd := fun x y : Int => (Int32.ofInt_add x y)
  have fin : ∀ x7 x8 x9 x10 : Int32, x7 = Int32.ofInt (W1 X m a e) → x8 = Int32.ofInt (F1 X m (S.2.2 1922) a e) → x9 = Int32.ofInt (E1 X m a e) → x10 = Int32.ofInt (H1 X m a e) → wl_Gu_measure_262 S post a (nI e) w w x7 x8 x9 x10 := by
    intro x7 x8 x9 x10 e7 e8 e9 e10
    have cW := bW
    have cF := bF
    have cE := bE
    have cH := bH
    unfold szI at cW
    unfold poI at cF cE cH
    exact s_judge262 rfl (by rw [e7]; exact o_I (by omega) (by omega)) (by rw [e8]; exact o_I (by omega) (by omega)) (by rw [e9]; exact o_I (by omega) (by omega)) (by rw [e10]; exact o_I (by omega) (by omega)) hw bW hp
  have pe : vp_in (nI e) 403 := vp_in_nI (by omega) (by omega)
  have ce : (nI e).toNatClampNeg = e := nI_clamp (by omega)
  -- the two callees that look at a
  have cbh : ∀ (S' : ST) (q : Int32 → Prop), S'.1 23 = S.1 23 → q (Int32.ofInt (bhI X a)) → wp_Ga_widthBehind S' a q := by
    intro S' q e23 hq
    unfold wp_Ga_widthBehind
    rw [e23]
    unfold bhI at hq
    rcases befo_cases (by omega) ha with ⟨z, z2⟩ | ⟨j, hj, ej, z2, cj⟩
    · rw [if_pos z2] at hq
      exact ⟨fun y => absurd z y, fun _ => hq⟩
    · rw [if_neg z2, Int32.ofInt_toInt] at hq
      refine ⟨fun _ => ⟨?_, ?_⟩, fun y => absurd y ?_⟩
      · rw [ej]; exact vp_in_nI (by omega) (by omega)
      · rw [cj] at hq ⊢
        rw [(g1 j (by omega)).1.2.2.2]
        exact hq
      · intro y
        rw [y] at z2
        exact absurd z2 (by decide)
  have cfs : ∀ (S' : ST) (q : Int32 → Prop), S'.1 21 = S.1 21 → q (nI (fsX X (m + 2) a)) → wp_Ga_firstOneFrom S' a q := by
    intro S' q e21 hq
    unfold wp_Ga_firstOneFrom
    rw [e21]
    unfold fsX at hq
    rcases befo_cases (by omega) ha with ⟨z, z2⟩ | ⟨j, hj, ej, z2, cj⟩
    · rw [if_pos z2] at hq
      exact ⟨fun y => absurd z y, fun _ => hq⟩
    · rw [if_neg z2] at hq
      refine ⟨fun _ => ⟨?_, ?_⟩, fun y => absurd y ?_⟩
      · rw [ej]; exact vp_in_nI (by omega) (by omega)
      · rw [cj] at hq ⊢
        rw [(g1 j (by omega)).2.2]
        exact hq
      · intro y
        rw [y] at z2
        exact absurd z2 (by decide)
  have o0 : Int32.ofInt 0 = 0 := rfl
  unfold wl_Gu_measure_36
  refine cbh _ _ rfl ⟨pe, fun v2 e2 => ?_⟩
  have rF : ∀ (q : Int32 → Prop), q (Int32.ofInt (if X 13 0 = 0 then (X 12 0).toInt else 0)) → wp_Gl_finiteStretch (sI (sI (sI S 1926 a) 1927 (nI e)) 1928 w) q := by
    intro q hq
    show (¬ S.2.2 898 = 0 → q 0) ∧ (S.2.2 898 = 0 → q (S.2.2 897))
    rw [a3, a2]
    by_cases z : X 13 0 = 0
    · rw [if_pos z, Int32.ofInt_toInt] at hq; exact ⟨fun y => absurd z y, fun _ => hq⟩
    · rw [if_neg z, o0] at hq; exact ⟨fun _ => hq, fun y => absurd y z⟩
  have rF2 : ∀ (q : Int32 → Prop), q (Int32.ofInt (if X 13 1 = 0 then (X 12 1).toInt else 0)) → wp_Gl_finiteStretch_15 (sI (sI (sI S 1926 a) 1927 (nI e)) 1928 w) q := by
    intro q hq
    show (¬ S.2.2 962 = 0 → q 0) ∧ (S.2.2 962 = 0 → q (S.2.2 961))
    rw [b3, b2]
    by_cases z : X 13 1 = 0
    · rw [if_pos z, Int32.ofInt_toInt] at hq; exact ⟨fun y => absurd z y, fun _ => hq⟩
    · rw [if_neg z, o0] at hq; exact ⟨fun _ => hq, fun y => absurd y z⟩
  have rE : ∀ (q : Int32 → Prop), q (Int32.ofInt (if X 13 0 = 0 then 0 else (X 12 0).toInt)) → wp_Gl_endlessStretch (sI (sI (sI S 1926 a) 1927 (nI e)) 1928 w) q := by
    intro q hq
    show (¬ S.2.2 898 = 0 → q (S.2.2 897)) ∧ (S.2.2 898 = 0 → q 0)
    rw [a3, a2]
    by_cases z : X 13 0 = 0
    · rw [if_pos z, o0] at hq; exact ⟨fun y => absurd z y, fun _ => hq⟩
    · rw [if_neg z, Int32.ofInt_toInt] at hq; exact ⟨fun _ => hq, fun y => absurd y z⟩
  have rE2 : ∀ (q : Int32 → Prop), q (Int32.ofInt (if X 13 1 = 0 then 0 else (X 12 1).toInt)) → wp_Gl_endlessStretch_15 (sI (sI (sI S 1926 a) 1927 (nI e)) 1928 w) q := by
    intro q hq
    show (¬ S.2.2 962 = 0 → q (S.2.2 961)) ∧ (S.2.2 962 = 0 → q 0)
    rw [b3, b2]
    by_cases z : X 13 1 = 0
    · rw [if_pos z, o0] at hq; exact ⟨fun y => absurd z y, fun _ => hq⟩
    · rw [if_neg z, Int32.ofInt_toInt] at hq; exact ⟨fun _ => hq, fun y => absurd y z⟩
  refine rF _ (rF2 _ fun v5 e5 => rE _ (rE2 _ fun v8 e8 v9 e9 => cfs _ _ rfl ?_))
  rw [a1, b1, ce, (g1 e he).1.2.2.1] at e2
  rw [a4, b4] at e9
  refine ⟨fun q => ?_, fun q => ?_⟩
  · have hs : e ≤ fsX X (m + 2) a := (nI_leI (by omega) (by omega)).mp q
    refine fin v2 v5 v8 v9 ?_ ?_ ?_ ?_
    · unfold W1 rg
      rw [if_neg (show ¬ fsX X (m + 2) a < e by omega), Int32.ofInt_add, Int32.ofInt_add, Int32.ofInt_add, Int32.ofInt_add, Int32.ofInt_toInt, Int32.ofInt_toInt, Int32.ofInt_toInt, o0, Int32.add_zero]
      exact e2
    · unfold F1 rg
      rw [if_neg (show ¬ fsX X (m + 2) a < e by omega), Int32.ofInt_add, Int32.ofInt_add, Int32.ofInt_add, Int32.ofInt_toInt, o0, Int32.add_zero]
      exact e5
    · unfold E1 rg
      rw [if_neg (show ¬ fsX X (m + 2) a < e by omega), Int32.ofInt_add, Int32.ofInt_add, o0, Int32.add_zero]
      exact e8
    · unfold H1 rg
      rw [if_neg (show ¬ fsX X (m + 2) a < e by omega), Int32.ofInt_add, Int32.ofInt_add, Int32.ofInt_toInt, Int32.ofInt_toInt, o0, Int32.add_zero]
      exact e9
  · have hs : fsX X (m + 2) a < e := by
      rcases Nat.lt_or_ge (fsX X (m + 2) a) e with z | z
      · exact z
      · exact absurd ((nI_leI (by omega) (by omega)).mpr z) q
    have ps : vp_in (nI (fsX X (m + 2) a)) 403 := vp_in_nI (by omega) (by omega)
    have cs : (nI (fsX X (m + 2) a)).toNatClampNeg = fsX X (m + 2) a := nI_clamp (by omega)
    rw [ce, cs]
    rw [dif (fun k hk => (g2 k hk).1) e (fsX X (m + 2) a) (by omega) (by omega), dif (fun k hk => (g2 k hk).2.1) e (fsX X (m + 2) a) (by omega) (by omega), dif (fun k hk => (g2 k hk).2.2.1) e (fsX X (m + 2) a) (by omega) (by omega), dif (fun k hk => (g2 k hk).2.2.2) e (fsX X (m + 2) a) (by omega) (by omega)]
    refine ⟨pe, ps, fun v11 e11 => ⟨pe, ps, fun v12 e12 => ⟨pe, ps, fun v13 e13 => ⟨pe, ps, fun v14 e14 => fin v11 v12 v13 v14 ?_ ?_ ?_ ?_⟩⟩⟩⟩
    · unfold W1 rg
      rw [if_pos hs, Int32.ofInt_add, Int32.ofInt_add, Int32.ofInt_add, Int32.ofInt_add, Int32.ofInt_toInt, Int32.ofInt_toInt, Int32.ofInt_toInt, ← e2]
      exact e11
    · unfold F1 rg
      rw [if_pos hs, Int32.ofInt_add, Int32.ofInt_add, Int32.ofInt_add, Int32.ofInt_toInt, ← e5]
      exact e12
    · unfold E1 rg
      rw [if_pos hs, Int32.ofInt_add, Int32.ofInt_add, ← e8]
      exact e13
    · unfold H1 rg
      rw [if_pos hs, Int32.ofInt_add, Int32.ofInt_add, Int32.ofInt_toInt, Int32.ofInt_toInt, ← e9]
      exact e14
/-- what the gauge keeps: the last line that it measured -/
def kept (X : Nat → Nat → Int32) (m : Nat) (S : ST) : Prop := S.2.2 1927 = -1 ∨ ∃ e : Nat, e < m + 3 ∧ S.2.2 1927 = nI e ∧ S.2.2 1923 = msS X m (S.2.2 1922) (S.2.2 1926) e (S.2.2 1928) ∧ S.2.2 1924 = msB X m (S.2.2 1922) (S.2.2 1926) e (S.2.2 1928) ∧ S.2.2 1925 = msF X m (S.2.2 1922) (S.2.2 1926) e (S.2.2 1928)
theorem s_measure {S : ST} {X : Nat → Nat → Int32} {m e l : Nat} {a : Int32} {post : Int32 → Int32 → Int32 → Int32 → Int32 → Int32 → Prop} (hG : Gd X m) (hS : GalS X m S) (hK : kept X m S) (he : e < m + 3) (ha : befo a e) (hl : l ≤ 1000) (hm0 : 0 ≤ (S.2.2 1922).toInt) (hm1 : (S.2.2 1922).toInt ≤ (X 9 8).toInt)
    (hp : post (msS X m (S.2.2 1922) a e (wiX X l)) (msB X m (S.2.2 1922) a e (wiX X l)) (msF X m (S.2.2 1922) a e (wiX X l)) a (nI e) (wiX X l)) : wp_Gu_measure S a (nI e) (nI l) post := by
  have hG' := hG
  have hS' := hS
  obtain ⟨hm, -, -, -, ⟨-, hz, -⟩, -⟩ := hG'
  obtain ⟨-, -, -, -, -, -, -, -, -, -, -, h13⟩ := hS'
  unfold wp_Gu_measure wp_St_widthOfLine
  intro v1 e1
  have ev : v1 = nI (if l < 20 then l else 19) := by
    rw [e1]
    by_cases z : l < 20
    · rw [if_pos z, if_neg]
      intro y
      have := (nI_ltI (a := 19) (by omega) (by omega)).mp y
      omega
    · rw [if_neg z, if_pos]
      · rfl
      · exact (nI_ltI (a := 19) (by omega) (by omega)).mpr (by omega)
  have hj : (if l < 20 then l else 19) < 20 := by split <;> omega
  rw [ev, nI_clamp (by omega), h13 _ hj]
  have full : wl_Gu_measure_36 S post a (nI e) (wiX X l) := s_measure36 hG hS he ha (hz _ hj) hm0 hm1 hp
  refine ⟨vp_in_nI hj (by omega), fun _ => full, fun q => ⟨fun _ => full, fun q2 => ⟨fun _ => full, fun q3 => ?_⟩⟩⟩
  rcases hK with hK | ⟨e', he', k1, k2, k3, k4⟩
  · rw [hK] at q
    have : (nI e).toInt = (-1 : Int32).toInt := by rw [q]
    rw [nI_toInt (by omega)] at this
    have : (e : Int) = -1 := this
    omega
  · rw [k1] at q
    have : e = e' := (nI_eq (by omega) (by omega)).mp q
    subst this
    have q3 : wiX X l = S.2.2 1928 := q3
    rw [k2, k3, k4, ← q2, ← q3, k1]
    exact hp
