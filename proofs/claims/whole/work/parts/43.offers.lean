/-! Search.visit: measuring from a node, offering -/
theorem gal_cg {X : Nat → Nat → Int32} {m : Nat} {S S' : ST} (h : GalS X m S) (h1 : ∀ j, j < 29 → S'.1 j = S.1 j) (h2 : ∀ j, j < 1100 → S'.2.2 j = S.2.2 j) : GalS X m S' := by
  unfold GalS at *
  rw [h1 12 (by omega), h1 13 (by omega), h1 18 (by omega), h1 19 (by omega), h1 20 (by omega), h1 21 (by omega), h1 22 (by omega), h1 23 (by omega), h1 24 (by omega), h1 25 (by omega), h1 26 (by omega), h1 27 (by omega), h2 1099 (by omega), h2 896 (by omega), h2 897 (by omega), h2 898 (by omega), h2 899 (by omega), h2 960 (by omega), h2 961 (by omega), h2 962 (by omega), h2 963 (by omega)]
  exact h
/-- what the gauge keeps, by its values -/
def keptV (X : Nat → Nat → Int32) (m : Nat) (more i1923 i1924 i1925 i1926 i1927 i1928 : Int32) : Prop := i1927 = -1 ∨ ∃ e : Nat, e < m + 3 ∧ i1927 = nI e ∧ i1923 = msS X m more i1926 e i1928 ∧ i1924 = msB X m more i1926 e i1928 ∧ i1925 = msF X m more i1926 e i1928
theorem s_mfrom {S : ST} {X : Nat → Nat → Int32} {m e i : Nat} {more : Int32} {k : KEY} {post : Int32 → Int32 → Int32 → Int32 → Int32 → Int32 → Prop} (hG : Gd X m) (hS : GalS X m S) (hM : S.2.2 1922 = more) (hK : keptV X m more (S.2.2 1923) (S.2.2 1924) (S.2.2 1925) (S.2.2 1926) (S.2.2 1927) (S.2.2 1928)) (he : e < m + 3) (hi : i < 8001) (ek : keyA (S.1 32) (S.1 33) (S.1 34) i = k) (ok : okK m e k) (hm0 : 0 ≤ more.toInt) (hm1 : more.toInt ≤ (X 9 8).toInt)
    (hp : post (sfX X m more k e) (bdX X m more k e) (ftX X m more k e) k.1 (nI e) (wdX X k)) : wp_Se_measureFrom S (nI i) (nI e) post := by
  have hm := hG.1
  have pi : vp_in (nI i) 8001 := vp_in_nI hi (by omega)
  unfold wp_Se_measureFrom
  rw [nI_clamp (by omega)]
  obtain ⟨l, el, ll, cl⟩ := okK_l hm ok
  have e1 : S.1 32 i = k.1 := congrArg Prod.fst ek
  have e2 : S.1 33 i = k.2.1 := congrArg (fun z : KEY => z.2.1) ek
  rw [e1, e2, el]
  refine ⟨pi, pi, s_measure hG hS (by unfold kept; rw [hM]; exact hK) he (okK_p ok) (by omega) (by rw [hM]; exact hm0) (by rw [hM]; exact hm1) ?_⟩
  rw [hM]
  unfold sfX bdX ftX wdX at hp
  rw [cl] at hp
  exact hp
theorem keptV_of {X : Nat → Nat → Int32} {m e : Nat} {more : Int32} {k : KEY} (he : e < m + 3) : keptV X m more (sfX X m more k e) (bdX X m more k e) (ftX X m more k e) k.1 (nI e) (wdX X k) := Or.inr ⟨e, he, rfl, rfl, rfl, rfl⟩
theorem s_take {S : ST} {i l f fe mo : Nat} {t : Int64} {post : (Nat → Int32) → (Nat → Int64) → Int32 → Int32 → Prop} (hl : l ≤ 401) (hf : f < 4) (h1 : S.2.2 2370 = nI fe) (h2 : S.2.2 2371 = nI mo) (hfe : fe ≤ 401) (hmo : mo ≤ 401)
    (hp1 : (S.1 39 (l * 4 + f) = -1 ∨ t.toInt < (S.2.1 38 (l * 4 + f)).toInt) → post (upd (S.1 39) (l * 4 + f) (nI i)) (vp_updL (S.2.1 38) (l * 4 + f) t) (nI (if l < fe then l else fe)) (nI (if mo < l then l else mo)))
    (hp2 : ¬ (S.1 39 (l * 4 + f) = -1 ∨ t.toInt < (S.2.1 38 (l * 4 + f)).toInt) → post (S.1 39) (S.2.1 38) (nI (if l < fe then l else fe)) (nI (if mo < l then l else mo))) : wp_Of_take S (nI i) (nI l) (nI f) t post := by
  have fin : ∀ (a : Nat → Int32) (b : Nat → Int64), post a b (nI (if l < fe then l else fe)) (nI (if mo < l then l else mo)) → wl_Of_take_48 S post a b (nI l) := by
    intro a b h
    unfold wl_Of_take_48
    intro v1 e1 v2 e2
    rw [h1] at e1
    rw [h2] at e2
    have t1 : v1 = nI (if l < fe then l else fe) := by
      rw [e1]
      by_cases z : l < fe
      · rw [if_pos z, if_pos ((nI_ltI (by omega) (by omega)).mpr z)]
      · rw [if_neg z, if_neg (fun y => z ((nI_ltI (by omega) (by omega)).mp y))]
    have t2 : v2 = nI (if mo < l then l else mo) := by
      rw [e2]
      by_cases z : mo < l
      · rw [if_pos z, if_pos ((nI_ltI (by omega) (by omega)).mpr z)]
      · rw [if_neg z, if_neg (fun y => z ((nI_ltI (by omega) (by omega)).mp y))]
    rw [t1, t2]
    exact h
  unfold wp_Of_take
  intro v1 e1
  have ev : v1 = nI (l * 4 + f) := by rw [e1, show (4 : Int32) = nI 4 from rfl, pk_mul, nI_add]
  have pv : vp_in (nI (l * 4 + f)) 1608 := vp_in_nI (by omega) (by omega)
  have t31 : post (upd (S.1 39) (l * 4 + f) (nI i)) (vp_updL (S.2.1 38) (l * 4 + f) t) (nI (if l < fe then l else fe)) (nI (if mo < l then l else mo)) → wl_Of_take_31 S post (nI i) (nI l) t (nI (l * 4 + f)) := by
    intro h
    unfold wl_Of_take_31
    rw [nI_clamp (by omega)]
    refine ⟨pv, fun f1 q1 => ⟨pv, fun f2 q2 => fin f1 f2 ?_⟩⟩
    rw [q1, q2]
    exact h
  rw [ev, nI_clamp (by omega), lc_ge]
  refine ⟨pv, fun y => t31 (hp1 (Or.inl y)), fun y => ⟨pv, fun y2 => fin _ _ (hp2 ?_), fun y2 => t31 (hp1 (Or.inr (by omega)))⟩⟩
  rintro (z | z)
  · exact y z
  · omega
/-- the offers of the alive ones before the i-th: y its number among them, b y its node -/
def OffI (X : Nat → Nat → Int32) (m : Nat) (more tol : Int32) (p l f : Nat → Int32) (tt : Nat → Int64) (b : Nat → Nat) (e y sl sf : Nat) (t : Int64) : Prop :=
  (bdX X m more (keyA p l f (b y)) e).toInt ≤ tol.toInt ∧ nI sl = l (b y) + 1 ∧ nI sf = ftX X m more (keyA p l f (b y)) e ∧ t = tt (b y) + demX X m more (keyA p l f (b y)) e
def tabI (X : Nat → Nat → Int32) (m : Nat) (more tol : Int32) (p l f : Nat → Int32) (tt : Nat → Int64) (b : Nat → Nat) (e i : Nat) (a39 : Nat → Int32) (l38 : Nat → Int64) : Prop :=
  ∀ sl sf, sl ≤ 401 → sf < 4 → (a39 (sl * 4 + sf) = -1 ∧ ∀ y t, y < i → ¬ OffI X m more tol p l f tt b e y sl sf t) ∨
    ∃ y, y < i ∧ a39 (sl * 4 + sf) = nI (b y) ∧ OffI X m more tol p l f tt b e y sl sf (l38 (sl * 4 + sf)) ∧ ∀ y' t', y' < i → OffI X m more tol p l f tt b e y' sl sf t' → (l38 (sl * 4 + sf)).toInt < t'.toInt ∨ ((l38 (sl * 4 + sf)).toInt = t'.toInt ∧ y ≤ y')
def rngI (X : Nat → Nat → Int32) (m : Nat) (more tol : Int32) (p l f : Nat → Int32) (tt : Nat → Int64) (b : Nat → Nat) (e i fe mo : Nat) : Prop :=
  fe ≤ 401 ∧ mo ≤ 401 ∧ (∀ y sl sf t, y < i → OffI X m more tol p l f tt b e y sl sf t → sl ≤ 401 → fe ≤ sl ∧ sl ≤ mo) ∧
  ((mo < fe ∧ ∀ y t sl sf, y < i → sl ≤ 401 → ¬ OffI X m more tol p l f tt b e y sl sf t) ∨ (1 ≤ fe ∧ fe ≤ mo ∧ ∃ y t sl sf, y < i ∧ sl ≤ 401 ∧ sf < 4 ∧ OffI X m more tol p l f tt b e y sl sf t))
theorem off_uniq {X : Nat → Nat → Int32} {m : Nat} {more tol : Int32} {p l f : Nat → Int32} {tt : Nat → Int64} {b : Nat → Nat} {e y sl sf sl' sf' : Nat} {t t' : Int64} (h : OffI X m more tol p l f tt b e y sl sf t) (h' : OffI X m more tol p l f tt b e y sl' sf' t') (a : sl ≤ 401) (a' : sl' ≤ 401) (c : sf < 4) (c' : sf' < 4) : sl = sl' ∧ sf = sf' ∧ t = t' :=
  ⟨(nI_eq (by omega) (by omega)).mp (h.2.1.trans h'.2.1.symm), (nI_eq (by omega) (by omega)).mp (h.2.2.1.trans h'.2.2.1.symm), h.2.2.2.trans h'.2.2.2.symm⟩
/-- the i-th offers -/
theorem nI_m1 {j : Nat} (hj : j < 8001) : ¬ nI j = -1 := by
  intro h
  have h1 := congrArg Int32.toInt h
  rw [nI_toInt (by omega)] at h1
  have h2 : (j : Int) = -1 := h1
  omega
theorem tab_take {X : Nat → Nat → Int32} {m : Nat} {more tol : Int32} {p l f : Nat → Int32} {tt : Nat → Int64} {b : Nat → Nat} {e i sl sf : Nat} {t : Int64} {a39 a' : Nat → Int32} {l38 l' : Nat → Int64} (hT : tabI X m more tol p l f tt b e i a39 l38) (hO : OffI X m more tol p l f tt b e i sl sf t) (hl : sl ≤ 401) (hf : sf < 4) (hb : ∀ y, y < i → b y < 8001)
    (h : ((a39 (sl * 4 + sf) = -1 ∨ t.toInt < (l38 (sl * 4 + sf)).toInt) ∧ a' = upd a39 (sl * 4 + sf) (nI (b i)) ∧ l' = vp_updL l38 (sl * 4 + sf) t) ∨ (¬ (a39 (sl * 4 + sf) = -1 ∨ t.toInt < (l38 (sl * 4 + sf)).toInt) ∧ a' = a39 ∧ l' = l38)) : tabI X m more tol p l f tt b e (i + 1) a' l' := by
  intro ql qf hql hqf
  by_cases z : ql = sl ∧ qf = sf
  · obtain ⟨rfl, rfl⟩ := z
    rcases h with ⟨h, rfl, rfl⟩ | ⟨h, rfl, rfl⟩
    · refine Or.inr ⟨i, by omega, pk_us, by rw [pk_uLs]; exact hO, fun y' t' hy' ho' => ?_⟩
      rw [pk_uLs]
      by_cases w : y' = i
      · subst w
        have := (off_uniq hO ho' hl hl hf hf).2.2
        rw [this]
        exact Or.inr ⟨rfl, by omega⟩
      · rcases hT ql qf hql hqf with ⟨-, c2⟩ | ⟨y, c1, c2, c3, c4⟩
        · exact absurd ho' (c2 y' t' (by omega))
        · have := c4 y' t' (by omega) ho'
          rcases h with h | h
          · rw [c2] at h
            exfalso
            exact nI_m1 (hb y c1) h
          · exact Or.inl (by omega)
    · rcases hT ql qf hql hqf with ⟨c1, -⟩ | ⟨y, c1, c2, c3, c4⟩
      · exact absurd (Or.inl c1) h
      · refine Or.inr ⟨y, by omega, c2, c3, fun y' t' hy' ho' => ?_⟩
        by_cases w : y' = i
        · subst w
          have := (off_uniq hO ho' hl hl hf hf).2.2
          rw [← this]
          have : ¬ t.toInt < (l' (ql * 4 + qf)).toInt := fun q => h (Or.inr q)
          omega
        · exact c4 y' t' (by omega) ho'
  · have hne : ql * 4 + qf ≠ sl * 4 + sf := by omega
    have e1 : a' (ql * 4 + qf) = a39 (ql * 4 + qf) := by
      rcases h with ⟨-, rfl, -⟩ | ⟨-, rfl, -⟩
      · exact pk_un hne
      · rfl
    have e2 : l' (ql * 4 + qf) = l38 (ql * 4 + qf) := by
      rcases h with ⟨-, -, rfl⟩ | ⟨-, -, rfl⟩
      · exact pk_uLn hne
      · rfl
    rw [e1, e2]
    have no : ∀ t', ¬ OffI X m more tol p l f tt b e i ql qf t' := by
      intro t' ho
      have := off_uniq hO ho hl hql hf hqf
      exact z ⟨this.1.symm, this.2.1.symm⟩
    rcases hT ql qf hql hqf with ⟨c1, c2⟩ | ⟨y, c1, c2, c3, c4⟩
    · refine Or.inl ⟨c1, fun y t' hy => ?_⟩
      by_cases w : y = i
      · subst w; exact no t'
      · exact c2 y t' (by omega)
    · refine Or.inr ⟨y, by omega, c2, c3, fun y' t' hy' ho' => ?_⟩
      by_cases w : y' = i
      · subst w; exact absurd ho' (no t')
      · exact c4 y' t' (by omega) ho'
theorem rng_take {X : Nat → Nat → Int32} {m : Nat} {more tol : Int32} {p l f : Nat → Int32} {tt : Nat → Int64} {b : Nat → Nat} {e i sl sf fe mo : Nat} {t : Int64} (hR : rngI X m more tol p l f tt b e i fe mo) (hO : OffI X m more tol p l f tt b e i sl sf t) (h1 : 1 ≤ sl) (hl : sl ≤ 401) (hf : sf < 4) : rngI X m more tol p l f tt b e (i + 1) (if sl < fe then sl else fe) (if mo < sl then sl else mo) := by
  obtain ⟨a, b', c, d⟩ := hR
  refine ⟨by split <;> omega, by split <;> omega, fun y ql qf t' hy ho hql => ?_, Or.inr ⟨?_, ?_, i, t, sl, sf, by omega, hl, hf, hO⟩⟩
  · by_cases w : y = i
    · subst w
      have : sl = ql := (nI_eq (by omega) (by omega)).mp (hO.2.1.trans ho.2.1.symm)
      split <;> split <;> omega
    · have := c y ql qf t' (by omega) ho hql
      split <;> split <;> omega
  · rcases d with ⟨d, -⟩ | ⟨d, -⟩ <;> split <;> omega
  · split <;> split <;> omega
theorem tab_skip {X : Nat → Nat → Int32} {m : Nat} {more tol : Int32} {p l f : Nat → Int32} {tt : Nat → Int64} {b : Nat → Nat} {e i : Nat} {a39 : Nat → Int32} {l38 : Nat → Int64} (hT : tabI X m more tol p l f tt b e i a39 l38) (hO : ∀ sl sf t, ¬ OffI X m more tol p l f tt b e i sl sf t) : tabI X m more tol p l f tt b e (i + 1) a39 l38 := by
  intro ql qf hql hqf
  rcases hT ql qf hql hqf with ⟨c1, c2⟩ | ⟨y, c1, c2, c3, c4⟩
  · refine Or.inl ⟨c1, fun y t' hy => ?_⟩
    by_cases w : y = i
    · subst w; exact hO _ _ t'
    · exact c2 y t' (by omega)
  · refine Or.inr ⟨y, by omega, c2, c3, fun y' t' hy' ho' => ?_⟩
    by_cases w : y' = i
    · subst w; exact absurd ho' (hO _ _ t')
    · exact c4 y' t' (by omega) ho'
theorem rng_skip {X : Nat → Nat → Int32} {m : Nat} {more tol : Int32} {p l f : Nat → Int32} {tt : Nat → Int64} {b : Nat → Nat} {e i fe mo : Nat} (hR : rngI X m more tol p l f tt b e i fe mo) (hO : ∀ sl sf t, ¬ OffI X m more tol p l f tt b e i sl sf t) : rngI X m more tol p l f tt b e (i + 1) fe mo := by
  obtain ⟨a, b', c, d⟩ := hR
  refine ⟨a, b', fun y ql qf t' hy ho hql => ?_, ?_⟩
  · by_cases w : y = i
    · subst w; exact absurd ho (hO _ _ _)
    · exact c y ql qf t' (by omega) ho hql
  · rcases d with ⟨d, d2⟩ | ⟨d, d2, y, t, sl, sf, d3, d4⟩
    · refine Or.inl ⟨d, fun y t sl sf hy hs ho => ?_⟩
      by_cases w : y = i
      · subst w; exact hO _ _ _ ho
      · exact d2 y t sl sf (by omega) hs ho
    · exact Or.inr ⟨d, d2, y, t, sl, sf, by omega, d4⟩
