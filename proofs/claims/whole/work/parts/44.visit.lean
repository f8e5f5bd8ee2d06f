/-! Search.visit: the loop over the alive ones -/
def ordA (p l f : Nat → Int32) (n : Nat) : Prop := ∀ i j, i < j → j < n → (p i).toInt < (p j).toInt ∨ ((p i).toInt = (p j).toInt ∧ ((l i).toInt < (l j).toInt ∨ ((l i).toInt = (l j).toInt ∧ (f j).toInt < (f i).toInt)))
def incB (b : Nat → Nat) (c n : Nat) : Prop := (∀ x y, x < y → y < c → b x < b y) ∧ ∀ x, x < c → b x < n
theorem inc_ge {b : Nat → Nat} {c n : Nat} (h : incB b c n) : ∀ x, x < c → x ≤ b x := by
  intro x
  induction x with
  | zero => intro _; omega
  | succ x ih =>
    intro hx
    have h1 := ih (by omega)
    have h2 := h.1 x (x + 1) (by omega) hx
    omega
/-- the class at a visit of e: what stands in its cells -/
def CV (X : Nat → Nat → Int32) (m : Nat) (more tol : Int32) (lst : Prop) (e n ac : Nat) (b : Nat → Nat) (N : KEY → Int64 → KEY → Prop) (A : KEY → Prop) (S : ST) : Prop :=
  GalS X m S ∧ S.2.2 1922 = more ∧ S.2.2 1864 = tol ∧ ((S.2.2 1865 = 0 ∧ ¬ lst) ∨ (S.2.2 1865 = 1 ∧ lst)) ∧ S.2.2 1989 = nI n ∧ Rep (S.1 32) (S.1 33) (S.1 34) (S.1 35) (S.2.1 36) n N ∧
  S.2.2 1862 = nI ac ∧ (∀ y, y < ac → S.1 40 y = nI (b y)) ∧ incB b ac n ∧ (∀ k, A k ↔ ∃ y, y < ac ∧ k = keyA (S.1 32) (S.1 33) (S.1 34) (b y)) ∧ ordA (S.1 32) (S.1 33) (S.1 34) n ∧
  (∀ s, s < 1608 → S.1 39 s = -1) ∧ S.2.2 2370 = nI 401 ∧ S.2.2 2371 = nI 0 ∧ InvN m e N A ∧ keptV X m more (S.2.2 1923) (S.2.2 1924) (S.2.2 1925) (S.2.2 1926) (S.2.2 1927) (S.2.2 1928)
/-- .. and before it settles -/
def offT (X : Nat → Nat → Int32) (m : Nat) (more tol : Int32) (lst : Prop) (e n : Nat) (N : KEY → Int64 → KEY → Prop) (A : KEY → Prop) (key : Nat → KEY) (a39 : Nat → Int32) (l38 : Nat → Int64) (fe mo : Nat) : Prop :=
  (∀ sl sf, sl ≤ 401 → sf < 4 → (a39 (sl * 4 + sf) = -1 ∧ ∀ t g, ¬ newN X m more tol lst N A e (nI e, nI sl, nI sf) t g) ∨ ∃ j, j < n ∧ a39 (sl * 4 + sf) = nI j ∧ newN X m more tol lst N A e (nI e, nI sl, nI sf) (l38 (sl * 4 + sf)) (key j)) ∧
  fe ≤ 401 ∧ mo ≤ 401 ∧ ∀ sl sf t g, sl ≤ 401 → sf < 4 → newN X m more tol lst N A e (nI e, nI sl, nI sf) t g → fe ≤ sl ∧ sl ≤ mo
def aliT (X : Nat → Nat → Int32) (m : Nat) (more : Int32) (e n ac g : Nat) (A : KEY → Prop) (key : Nat → KEY) (a40 : Nat → Int32) : Prop :=
  ∃ c : Nat → Nat, (∀ x, x < g → a40 x = nI (c x)) ∧ incB c g n ∧ g ≤ ac ∧ ∀ k, (A k ∧ ¬ dies X m more k e) ↔ ∃ x, x < g ∧ k = key (c x)
/-- Off, by the numbers of the alive ones -/
theorem off_I {X : Nat → Nat → Int32} {m : Nat} {more tol : Int32} {N : KEY → Int64 → KEY → Prop} {A : KEY → Prop} {p l f fm : Nat → Int32} {tt : Nat → Int64} {b : Nat → Nat} {e n ac sl sf : Nat} {g : KEY} {t : Int64} (hR : Rep p l f fm tt n N) (hA : ∀ k, A k ↔ ∃ y, y < ac ∧ k = keyA p l f (b y)) (hb : incB b ac n) : Off X m more tol N A e g t (nI sl) (nI sf) ↔ ∃ y, y < ac ∧ g = keyA p l f (b y) ∧ OffI X m more tol p l f tt b e y sl sf t := by
  constructor
  · rintro ⟨h1, ⟨t0, g0, h2, h3⟩, h4, h5, h6⟩
    obtain ⟨y, hy, ey⟩ := (hA g).mp h1
    obtain ⟨i, hi, ei, et, -⟩ := (hR.1 g t0 g0).mp h2
    have : b y = i := hR.2.1 _ _ (hb.2 y hy) hi (ey.symm.trans ei)
    subst ey
    exact ⟨y, hy, rfl, h4, h5, h6, by rw [h3, et, this]⟩
  · rintro ⟨y, hy, rfl, h4, h5, h6, h7⟩
    refine ⟨(hA _).mpr ⟨y, hy, rfl⟩, ⟨tt (b y), fmK p l f fm (b y), (hR.1 _ _ _).mpr ⟨b y, hb.2 y hy, rfl, rfl, rfl⟩, h7⟩, h4, h5, h6⟩
/-- a lower number stands before, where the lines are as many -/
theorem ord_tie {p l f : Nat → Int32} {n i j : Nat} (hO : ordA p l f n) (hij : i ≤ j) (hj : j < n) (hl : (l i).toInt = (l j).toInt) : tie (keyA p l f i) (keyA p l f j) := by
  unfold tie keyA
  by_cases z : i = j
  · subst z
    exact Or.inr ⟨rfl, by omega⟩
  · rcases hO i j (by omega) hj with h | ⟨h, h2 | ⟨h2, h3⟩⟩
    · exact Or.inl h
    · omega
    · exact Or.inr ⟨h, by show (f j).toInt ≤ (f i).toInt; omega⟩
theorem inc_i {b : Nat → Nat} {c n x y : Nat} (h : incB b c n) (hx : x ≤ y) (hy : y < c) : b x ≤ b y := by
  by_cases z : x = y
  · subst z; omega
  · have := h.1 x y (by omega) hy
    omega
/-- the table at the loop's end, where something is offered or no rescue is due -/
theorem off_end {X : Nat → Nat → Int32} {m : Nat} {more tol : Int32} {lst : Prop} {N : KEY → Int64 → KEY → Prop} {A : KEY → Prop} {p l f fm : Nat → Int32} {tt : Nat → Int64} {b : Nat → Nat} {e n ac fe mo : Nat} {a39 : Nat → Int32} {l38 : Nat → Int64} (hR : Rep p l f fm tt n N) (hA : ∀ k, A k ↔ ∃ y, y < ac ∧ k = keyA p l f (b y)) (hb : incB b ac n) (hO : ordA p l f n)
    (hT : tabI X m more tol p l f tt b e ac a39 l38) (hG : rngI X m more tol p l f tt b e ac fe mo) (hres : (∃ y t sl sf, y < ac ∧ sl ≤ 401 ∧ sf < 4 ∧ OffI X m more tol p l f tt b e y sl sf t) ∨ ¬ lst ∨ ¬ (∀ g', A g' → dies X m more g' e) ∨ ∀ k, ¬ A k) : offT X m more tol lst e n N A (keyA p l f) a39 l38 fe mo := by
  have best : ∀ sl sf t g, sl ≤ 401 → sf < 4 → newN X m more tol lst N A e (nI e, nI sl, nI sf) t g → Off X m more tol N A e g t (nI sl) (nI sf) := by
    rintro sl sf t g h1 h2 ⟨-, ⟨h, -⟩ | ⟨z1, z2, z3, z4, -⟩⟩
    · exact h
    · rcases hres with ⟨y, t', sl', sf', hy, -, -, ho⟩ | h | h | h
      · exact absurd ((off_I hR hA hb).mpr ⟨y, hy, rfl, ho⟩) (z2 _ _ _ _)
      · exact absurd z1 h
      · exact absurd z3 h
      · exact absurd z4 (h g)
  refine ⟨fun sl sf h1 h2 => ?_, hG.1, hG.2.1, fun sl sf t g h1 h2 h3 => ?_⟩
  · rcases hT sl sf h1 h2 with ⟨c1, c2⟩ | ⟨y, c1, c2, c3, c4⟩
    · refine Or.inl ⟨c1, fun t g h3 => ?_⟩
      obtain ⟨y, hy, -, ho⟩ := (off_I hR hA hb).mp (best sl sf t g h1 h2 h3)
      exact c2 y t hy ho
    · refine Or.inr ⟨b y, hb.2 y c1, c2, rfl, Or.inl ⟨(off_I hR hA hb).mpr ⟨y, c1, rfl, c3⟩, fun g' t' ho => ?_⟩⟩
      obtain ⟨y', hy', rfl, ho'⟩ := (off_I hR hA hb).mp ho
      rcases c4 y' t' hy' ho' with z | ⟨z, z2⟩
      · exact Or.inl z
      · refine Or.inr ⟨z, ord_tie hO (inc_i hb z2 hy') (hb.2 y' hy') ?_⟩
        have := inc_inj (c3.2.1.symm.trans ho'.2.1)
        rw [this]
  · obtain ⟨y, hy, -, ho⟩ := (off_I hR hA hb).mp (best sl sf t g h1 h2 h3)
    exact hG.2.2.1 y sl sf t hy ho h1
def resI (X : Nat → Nat → Int32) (m : Nat) (more : Int32) (p l f : Nat → Int32) (b : Nat → Nat) (e i : Nat) (x4 : Int32) : Prop :=
  (x4 = -1 ∧ ∀ y, y < i → ¬ dies X m more (keyA p l f (b y)) e) ∨ ∃ y, y < i ∧ x4 = nI (b y) ∧ dies X m more (keyA p l f (b y)) e ∧ ∀ y', y' < i → dies X m more (keyA p l f (b y')) e → (l (b y')).toInt < (l (b y)).toInt ∨ ((l (b y')).toInt = (l (b y)).toInt ∧ y ≤ y')
def goI (X : Nat → Nat → Int32) (m : Nat) (more : Int32) (p l f : Nat → Int32) (b : Nat → Nat) (e i ac g : Nat) (a40 : Nat → Int32) : Prop :=
  (∀ x, i ≤ x → x < ac → a40 x = nI (b x)) ∧ g ≤ i ∧ ∃ c : Nat → Nat, (∀ x, x < g → a40 x = nI (c x)) ∧ (∀ x, x < g → ∃ y, y < i ∧ c x = b y ∧ ¬ dies X m more (keyA p l f (b y)) e) ∧ (∀ y, y < i → ¬ dies X m more (keyA p l f (b y)) e → ∃ x, x < g ∧ c x = b y) ∧ ∀ x x', x < x' → x' < g → c x < c x'
theorem go_die {X : Nat → Nat → Int32} {m : Nat} {more : Int32} {p l f : Nat → Int32} {b : Nat → Nat} {e i ac g : Nat} {a40 : Nat → Int32} (h : goI X m more p l f b e i ac g a40) (hd : dies X m more (keyA p l f (b i)) e) : goI X m more p l f b e (i + 1) ac g a40 := by
  obtain ⟨h1, h2, c, h3, h4, h5, h6⟩ := h
  refine ⟨fun x a b => h1 x (by omega) b, by omega, c, h3, fun x hx => ?_, fun y hy hn => ?_, h6⟩
  · obtain ⟨y, a, b⟩ := h4 x hx
    exact ⟨y, by omega, b⟩
  · by_cases w : y = i
    · subst w; exact absurd hd hn
    · exact h5 y (by omega) hn
theorem go_live {X : Nat → Nat → Int32} {m : Nat} {more : Int32} {p l f : Nat → Int32} {b : Nat → Nat} {e i ac g n : Nat} {a40 : Nat → Int32} (h : goI X m more p l f b e i ac g a40) (hi : i < ac) (hb : incB b ac n) (hd : ¬ dies X m more (keyA p l f (b i)) e) : goI X m more p l f b e (i + 1) ac (g + 1) (upd a40 g (nI (b i))) := by
  obtain ⟨h1, h2, c, h3, h4, h5, h6⟩ := h
  refine ⟨fun x q r => by rw [pk_un (by omega)]; exact h1 x (by omega) r, by omega, fun x => if x = g then b i else c x, fun x hx => ?_, fun x hx => ?_, fun y hy hn => ?_, fun x x' q r => ?_⟩
  · by_cases w : x = g
    · subst w; simp only [if_pos rfl]; rw [pk_us]; simp
    · rw [pk_un w]; simp only [if_neg w]; exact h3 x (by omega)
  · by_cases w : x = g
    · simp only [if_pos w]; exact ⟨i, by omega, rfl, hd⟩
    · simp only [if_neg w]
      obtain ⟨y, a, b⟩ := h4 x (by omega)
      exact ⟨y, by omega, b⟩
  · by_cases w : y = i
    · subst w
      exact ⟨g, by omega, by simp⟩
    · obtain ⟨x, a, d⟩ := h5 y (by omega) hn
      exact ⟨x, by omega, by simp only [if_neg (show x ≠ g by omega)]; exact d⟩
  · by_cases w : x' = g
    · simp only [if_pos w, if_neg (show x ≠ g by omega)]
      obtain ⟨y, a, d, -⟩ := h4 x (by omega)
      rw [d]
      exact hb.1 y i a hi
    · simp only [if_neg w, if_neg (show x ≠ g by omega)]
      exact h6 x x' q (by omega)
theorem res_live {X : Nat → Nat → Int32} {m : Nat} {more : Int32} {p l f : Nat → Int32} {b : Nat → Nat} {e i : Nat} {x4 : Int32} (h : resI X m more p l f b e i x4) (hd : ¬ dies X m more (keyA p l f (b i)) e) : resI X m more p l f b e (i + 1) x4 := by
  rcases h with ⟨h1, h2⟩ | ⟨y, h1, h2, h3, h4⟩
  · refine Or.inl ⟨h1, fun y hy => ?_⟩
    by_cases w : y = i
    · subst w; exact hd
    · exact h2 y (by omega)
  · refine Or.inr ⟨y, by omega, h2, h3, fun y' hy' hd' => ?_⟩
    by_cases w : y' = i
    · subst w; exact absurd hd' hd
    · exact h4 y' (by omega) hd'
/-- the state of the gauge and the table, over a state -/
def stV (S : ST) (a39 a40 : Nat → Int32) (l38 : Nat → Int64) (i1923 i1924 i1925 i1926 i1927 i1928 i2370 i2371 : Int32) : ST :=
  sI (sI (sI (sI (sI (sI (sI (sI (sL (sA (sA S 39 a39) 40 a40) 38 l38) 1923 i1923) 1924 i1924) 1925 i1925) 1926 i1926) 1927 i1927) 1928 i1928) 2370 i2370) 2371 i2371
theorem stV_gal {X : Nat → Nat → Int32} {m : Nat} {S : ST} {a39 a40 : Nat → Int32} {l38 : Nat → Int64} {i1923 i1924 i1925 i1926 i1927 i1928 i2370 i2371 : Int32} (h : GalS X m S) : GalS X m (stV S a39 a40 l38 i1923 i1924 i1925 i1926 i1927 i1928 i2370 i2371) := by
  unfold stV
  refine gal_cg h (fun j hj => ?_) (fun j hj => ?_)
  · simp (disch := omega) only [sI_1, sL_1, sA_ne]
  · simp (disch := omega) only [sI_ne, sL_22, sA_22]
theorem stV_c {S : ST} {a39 a40 : Nat → Int32} {l38 : Nat → Int64} {i1923 i1924 i1925 i1926 i1927 i1928 i2370 i2371 : Int32} :
    (stV S a39 a40 l38 i1923 i1924 i1925 i1926 i1927 i1928 i2370 i2371).2.2 1922 = S.2.2 1922 ∧ (stV S a39 a40 l38 i1923 i1924 i1925 i1926 i1927 i1928 i2370 i2371).2.2 1923 = i1923 ∧ (stV S a39 a40 l38 i1923 i1924 i1925 i1926 i1927 i1928 i2370 i2371).2.2 1924 = i1924 ∧ (stV S a39 a40 l38 i1923 i1924 i1925 i1926 i1927 i1928 i2370 i2371).2.2 1925 = i1925 ∧ (stV S a39 a40 l38 i1923 i1924 i1925 i1926 i1927 i1928 i2370 i2371).2.2 1926 = i1926 ∧ (stV S a39 a40 l38 i1923 i1924 i1925 i1926 i1927 i1928 i2370 i2371).2.2 1927 = i1927 ∧ (stV S a39 a40 l38 i1923 i1924 i1925 i1926 i1927 i1928 i2370 i2371).2.2 1928 = i1928 ∧ (stV S a39 a40 l38 i1923 i1924 i1925 i1926 i1927 i1928 i2370 i2371).2.2 2370 = i2370 ∧ (stV S a39 a40 l38 i1923 i1924 i1925 i1926 i1927 i1928 i2370 i2371).2.2 2371 = i2371 ∧
    (stV S a39 a40 l38 i1923 i1924 i1925 i1926 i1927 i1928 i2370 i2371).1 32 = S.1 32 ∧ (stV S a39 a40 l38 i1923 i1924 i1925 i1926 i1927 i1928 i2370 i2371).1 33 = S.1 33 ∧ (stV S a39 a40 l38 i1923 i1924 i1925 i1926 i1927 i1928 i2370 i2371).1 34 = S.1 34 ∧ (stV S a39 a40 l38 i1923 i1924 i1925 i1926 i1927 i1928 i2370 i2371).1 39 = a39 ∧ (stV S a39 a40 l38 i1923 i1924 i1925 i1926 i1927 i1928 i2370 i2371).2.1 38 = l38 :=
  ⟨rfl, rfl, rfl, rfl, rfl, rfl, rfl, rfl, rfl, rfl, rfl, rfl, rfl, rfl⟩
