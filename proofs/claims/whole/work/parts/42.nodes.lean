/-! the nodes of a pass, as a relation: key, total, the former's key -/
def root : KEY := (-1, 0, 2)
def Off (X : Nat → Nat → Int32) (m : Nat) (more tol : Int32) (N : KEY → Int64 → KEY → Prop) (A : KEY → Prop) (e : Nat) (g : KEY) (t : Int64) (l f : Int32) : Prop :=
  A g ∧ (∃ t0 g0, N g t0 g0 ∧ t = t0 + demX X m more g e) ∧ (bdX X m more g e).toInt ≤ tol.toInt ∧ l = g.2.1 + 1 ∧ f = ftX X m more g e
/-- g before g' where their lines are as many, or the same -/
def tie (g g' : KEY) : Prop := g.1.toInt < g'.1.toInt ∨ (g.1.toInt = g'.1.toInt ∧ g'.2.2.toInt ≤ g.2.2.toInt)
def newN (X : Nat → Nat → Int32) (m : Nat) (more tol : Int32) (lst : Prop) (N : KEY → Int64 → KEY → Prop) (A : KEY → Prop) (e : Nat) (k : KEY) (t : Int64) (g : KEY) : Prop :=
  k.1 = nI e ∧ ((Off X m more tol N A e g t k.2.1 k.2.2 ∧ ∀ g' t', Off X m more tol N A e g' t' k.2.1 k.2.2 → t.toInt < t'.toInt ∨ (t.toInt = t'.toInt ∧ tie g g')) ∨
    (lst ∧ (∀ g' t' l f, ¬ Off X m more tol N A e g' t' l f) ∧ (∀ g', A g' → dies X m more g' e) ∧ A g ∧ k.2.1 = g.2.1 + 1 ∧ k.2.2 = ftX X m more g e ∧ (∃ g0, N g t g0) ∧ ∀ g', A g' → g'.2.1.toInt < g.2.1.toInt ∨ (g'.2.1.toInt = g.2.1.toInt ∧ tie g g')))
def plP (X : Nat → Nat → Int32) (m : Nat) (hyp : Prop) (e : Nat) : Prop := plX X m e ∧ (X 1 e = 5 → hyp)
def runN (X : Nat → Nat → Int32) (m : Nat) (more tol : Int32) (lst hyp : Prop) : Nat → (KEY → Int64 → KEY → Prop) × (KEY → Prop)
  | 0 => (fun k t g => k = root ∧ t = 0 ∧ g = root, fun k => k = root)
  | e + 1 => (fun k t g => (runN X m more tol lst hyp e).1 k t g ∨ (plP X m hyp e ∧ newN X m more tol lst (runN X m more tol lst hyp e).1 (runN X m more tol lst hyp e).2 e k t g),
      fun k => (¬ plP X m hyp e ∧ (runN X m more tol lst hyp e).2 k) ∨ (plP X m hyp e ∧ (((runN X m more tol lst hyp e).2 k ∧ ¬ dies X m more k e) ∨ ∃ t g, newN X m more tol lst (runN X m more tol lst hyp e).1 (runN X m more tol lst hyp e).2 e k t g)))
def okK (m e : Nat) (k : KEY) : Prop := k = root ∨ ∃ j l f : Nat, k = (nI j, nI l, nI f) ∧ j < e ∧ (j < m ∨ j = m + 2) ∧ 1 ≤ l ∧ l ≤ (if j < m then j + 1 else m + 1) ∧ f < 4
theorem okK_mono {m e e' : Nat} {k : KEY} (h : okK m e k) (he : e ≤ e') : okK m e' k := by
  rcases h with h | ⟨j, l, f, a, b, c⟩
  · exact Or.inl h
  · exact Or.inr ⟨j, l, f, a, by omega, c⟩
theorem okK_p {m e : Nat} {k : KEY} (h : okK m e k) : befo k.1 e := by
  rcases h with rfl | ⟨j, l, f, rfl, b, c⟩
  · exact Or.inl rfl
  · exact Or.inr ⟨j, b, rfl⟩
theorem okK_f {m e : Nat} {k : KEY} (h : okK m e k) : fi4 k.2.2 := by
  unfold fi4
  rcases h with rfl | ⟨j, l, f, rfl, b, c, d, d2, g⟩
  · decide
  · show 0 ≤ (nI f).toInt ∧ (nI f).toInt ≤ 3
    rw [nI_toInt (by omega)]
    omega
/-- the lines of a key that stands before e -/
theorem okK_l {m e : Nat} {k : KEY} (hm : m ≤ 400) (h : okK m e k) : ∃ l : Nat, k.2.1 = nI l ∧ l ≤ 401 ∧ k.2.1.toNatClampNeg = l := by
  rcases h with rfl | ⟨j, l, f, rfl, b, c, d, d2, g⟩
  · exact ⟨0, rfl, by omega, rfl⟩
  · have : l ≤ 401 := by split at d2 <;> omega
    exact ⟨l, rfl, this, nI_clamp (by omega)⟩
/-- a new key at e -/
theorem okK_n {m e : Nat} {k : KEY} {x y : Int32} (hm : m ≤ 400) (h : okK m e k) (he : e < m ∨ e = m + 2) (hx : x = k.2.1 + 1) (hy : fi4 y) : okK m (e + 1) (nI e, x, y) ∧ ∃ l : Nat, x = nI l ∧ 1 ≤ l ∧ l ≤ 401 := by
  have hf : ∃ f : Nat, y = nI f ∧ f < 4 := by
    unfold fi4 at hy
    refine ⟨y.toInt.toNat, ?_, by omega⟩
    rw [i_eq, nI_toInt (by omega)]
    omega
  obtain ⟨f, rfl, hf⟩ := hf
  rcases h with rfl | ⟨j, l, f', rfl, b, c, d, d2, g⟩
  · have : x = nI 1 := hx
    subst this
    exact ⟨Or.inr ⟨e, 1, f, rfl, by omega, he, by omega, by split <;> omega, hf⟩, 1, rfl, by omega, by omega⟩
  · have hx : x = nI l + 1 := hx
    rw [nI_1] at hx
    subst hx
    have hb : l + 1 ≤ (if e < m then e + 1 else m + 1) := by
      rw [if_pos (by omega)] at d2
      split <;> omega
    exact ⟨Or.inr ⟨e, l + 1, f, rfl, by omega, he, by omega, hb, hf⟩, l + 1, rfl, by omega, by split at hb <;> omega⟩
theorem pl_place {X : Nat → Nat → Int32} {m e : Nat} (hG : Gd X m) (he : e < m + 3) (h : plX X m e) : e < m ∨ e = m + 2 := by
  obtain ⟨hm, hI, hR, -, -, ⟨e1, e2, e3, e4, e5⟩⟩ := hG
  rcases (by omega : e < m ∨ e = m ∨ e = m + 1 ∨ e = m + 2) with z | z | z | z
  · exact Or.inl z
  · subst z
    exact absurd (by unfold fineX; rw [if_pos e1]; exact e2) h.1
  · subst z
    obtain ⟨-, y | y | y | y⟩ := h
    · rcases y.2.2 with w | w | w | ⟨h, w⟩
      · rw [show m + 1 - 1 = m from rfl, e1] at w; exact absurd w (by decide)
      · rw [show m + 1 - 1 = m from rfl, e1] at w; exact absurd w (by decide)
      · rw [show m + 1 - 1 = m from rfl, e1] at w; exact absurd w (by decide)
      · obtain ⟨a, b, c⟩ := w
        have := (hR h (by omega) b).1
        omega
    · rw [e3] at y; exact absurd y.1 (by decide)
    · rw [e3] at y; exact absurd y (by decide)
    · rw [e3] at y; exact absurd y (by decide)
  · exact Or.inr z
theorem lastPl {X : Nat → Nat → Int32} {m : Nat} (hG : Gd X m) (hyp : Prop) : plP X m hyp (m + 2) ∧ fineX X (m + 2) = -10000 := by
  obtain ⟨hm, hI, hR, -, -, ⟨e1, e2, e3, e4, e5⟩⟩ := hG
  have f : fineX X (m + 2) = -10000 := by unfold fineX; rw [if_pos e4]; exact e5
  refine ⟨⟨⟨by rw [f]; decide, Or.inr (Or.inr (Or.inl e4))⟩, fun y => ?_⟩, f⟩
  rw [e4] at y
  exact absurd y (by decide)
theorem tie_eq {g g' : KEY} (h1 : tie g g') (h2 : tie g' g) (hl : g.2.1 = g'.2.1) : g = g' := by
  unfold tie at h1 h2
  have a : g.1 = g'.1 := by rw [i_eq]; omega
  have b : g.2.2 = g'.2.2 := by rw [i_eq]; omega
  exact Prod.ext a (Prod.ext hl b)
theorem tie_total (g g' : KEY) : tie g g' ∨ tie g' g := by
  unfold tie
  omega
theorem tie_trans {a b c : KEY} (h1 : tie a b) (h2 : tie b c) : tie a c := by
  unfold tie at *
  omega
theorem inc_inj {x y : Int32} (h : x + 1 = y + 1) : x = y := by
  have := congrArg (fun z => z - 1) h
  simpa [Int32.add_sub_cancel] using this
theorem newN_fun {X : Nat → Nat → Int32} {m e : Nat} {more tol : Int32} {lst : Prop} {N : KEY → Int64 → KEY → Prop} {A : KEY → Prop} {k g g' : KEY} {t t' : Int64} (hN : ∀ k t g t' g', N k t g → N k t' g' → t = t' ∧ g = g') (h1 : newN X m more tol lst N A e k t g) (h2 : newN X m more tol lst N A e k t' g') : t = t' ∧ g = g' := by
  obtain ⟨-, h1⟩ := h1
  obtain ⟨-, h2⟩ := h2
  rcases h1 with ⟨o1, b1⟩ | ⟨l1, n1, d1, a1, x1, y1, z1, w1⟩
  · rcases h2 with ⟨o2, b2⟩ | ⟨l2, n2, d2, a2, x2, y2, z2, w2⟩
    · have c1 := b1 g' t' o2
      have c2 := b2 g t o1
      have et : t = t' := by rw [j_eq]; omega
      have ti1 : tie g g' := by rcases c1 with z | z; omega; exact z.2
      have ti2 : tie g' g := by rcases c2 with z | z; omega; exact z.2
      have el : g.2.1 = g'.2.1 := inc_inj (o1.2.2.2.1.symm.trans o2.2.2.2.1)
      exact ⟨et, tie_eq ti1 ti2 el⟩
    · exact absurd o1 (n2 _ _ _ _)
  · rcases h2 with ⟨o2, b2⟩ | ⟨l2, n2, d2, a2, x2, y2, z2, w2⟩
    · exact absurd o2 (n1 _ _ _ _)
    · have c1 := w1 g' a2
      have c2 := w2 g a1
      have el : g.2.1 = g'.2.1 := inc_inj (x1.symm.trans x2)
      have ti1 : tie g g' := by rcases c1 with z | z; (rw [el] at z; omega); exact z.2
      have ti2 : tie g' g := by rcases c2 with z | z; (rw [el] at z; omega); exact z.2
      have eg := tie_eq ti1 ti2 el
      subst eg
      obtain ⟨g0, z1⟩ := z1
      obtain ⟨g0', z2⟩ := z2
      exact ⟨(hN _ _ _ _ _ z1 z2).1, rfl⟩
/-- what holds of the nodes before e -/
def InvN (m e : Nat) (N : KEY → Int64 → KEY → Prop) (A : KEY → Prop) : Prop :=
  (∀ k t g, N k t g → okK m e k) ∧ (∀ k, A k → ∃ t g, N k t g) ∧ (∀ k t g t' g', N k t g → N k t' g' → t = t' ∧ g = g') ∧
  (∀ k t g, N k t g → (k = root ∧ t = 0 ∧ g = root) ∨ ((∃ t' g', N g t' g') ∧ k.2.1 = g.2.1 + 1 ∧ g.1.toInt < k.1.toInt)) ∧ N root 0 root
theorem new_of {X : Nat → Nat → Int32} {m e : Nat} {more tol : Int32} {lst : Prop} {N : KEY → Int64 → KEY → Prop} {A : KEY → Prop} {k g : KEY} {t : Int64} (h : newN X m more tol lst N A e k t g) : A g ∧ k.1 = nI e ∧ k.2.1 = g.2.1 + 1 ∧ k.2.2 = ftX X m more g e := by
  obtain ⟨h0, ⟨o, -⟩ | ⟨-, -, -, a, x, y, -⟩⟩ := h
  · exact ⟨o.1, h0, o.2.2.2.1, o.2.2.2.2⟩
  · exact ⟨a, h0, x, y⟩
theorem inv_new {X : Nat → Nat → Int32} {m e : Nat} {more tol : Int32} {lst : Prop} {N : KEY → Int64 → KEY → Prop} {A : KEY → Prop} {k g : KEY} {t : Int64} (hm : m ≤ 400) (hI : InvN m e N A) (he : e < m ∨ e = m + 2) (h : newN X m more tol lst N A e k t g) : okK m (e + 1) k ∧ (∃ t' g', N g t' g') ∧ k.2.1 = g.2.1 + 1 ∧ g.1.toInt < k.1.toInt ∧ k.1 = nI e ∧ ∃ l f : Nat, k = (nI e, nI l, nI f) ∧ 1 ≤ l ∧ l ≤ 401 ∧ f < 4 := by
  obtain ⟨a, b, c, d⟩ := new_of h
  obtain ⟨t', g', hg⟩ := hI.2.1 g a
  have ok := hI.1 g t' g' hg
  have ok2 := okK_n (x := k.2.1) (y := k.2.2) hm ok he c (by rw [d]; exact msF_fi)
  have ek : k = (nI e, k.2.1, k.2.2) := Prod.ext b rfl
  refine ⟨by rw [ek]; exact ok2.1, ⟨t', g', hg⟩, c, ?_, b, ?_⟩
  · rw [b, nI_toInt (by omega)]
    rcases okK_p ok with z | ⟨j, hj, z⟩
    · rw [z]; show (-1 : Int) < e; omega
    · rw [z, nI_toInt (by omega)]; omega
  · obtain ⟨l, hl, l1, l2⟩ := ok2.2
    have ff : fi4 k.2.2 := by rw [d]; exact msF_fi
    unfold fi4 at ff
    refine ⟨l, k.2.2.toInt.toNat, Prod.ext b (Prod.ext hl ?_), l1, l2, by omega⟩
    show k.2.2 = nI k.2.2.toInt.toNat
    rw [i_eq, nI_toInt (by omega)]
    omega
theorem run_inv {X : Nat → Nat → Int32} {m : Nat} {more tol : Int32} {lst hyp : Prop} (hG : Gd X m) : ∀ e, e ≤ m + 3 → InvN m e (runN X m more tol lst hyp e).1 (runN X m more tol lst hyp e).2 := by
  have hm := hG.1
  intro e
  induction e with
  | zero =>
    intro _
    refine ⟨fun k t g h => Or.inl h.1, fun k h => ⟨0, root, h, rfl, rfl⟩, fun k t g t' g' h h' => ⟨h.2.1.trans h'.2.1.symm, h.2.2.trans h'.2.2.symm⟩, fun k t g h => Or.inl h, rfl, rfl, rfl⟩
  | succ e ih =>
    intro he
    have hI := ih (by omega)
    have nw := fun (p : plP X m hyp e) (k : KEY) (t : Int64) (g : KEY) (h : newN X m more tol lst (runN X m more tol lst hyp e).1 (runN X m more tol lst hyp e).2 e k t g) => inv_new hm hI (pl_place hG (by omega) p.1) h
    have old : ∀ k t g, (runN X m more tol lst hyp e).1 k t g → k.1 ≠ nI e := by
      intro k t g h z
      rcases okK_p (hI.1 k t g h) with y | ⟨j, hj, y⟩
      · rw [y] at z
        have := congrArg Int32.toInt z
        rw [nI_toInt (by omega)] at this
        have : (-1 : Int) = e := this
        omega
      · rw [y] at z
        have := (nI_eq (by omega) (by omega)).mp z
        omega
    refine ⟨?_, ?_, ?_, ?_, Or.inl hI.2.2.2.2⟩
    · rintro k t g (h | ⟨p, h⟩)
      · exact okK_mono (hI.1 k t g h) (by omega)
      · exact (nw p k t g h).1
    · rintro k (⟨p, h⟩ | ⟨p, ⟨h, -⟩ | ⟨t, g, h⟩⟩)
      · obtain ⟨t, g, h'⟩ := hI.2.1 k h
        exact ⟨t, g, Or.inl h'⟩
      · obtain ⟨t, g, h'⟩ := hI.2.1 k h
        exact ⟨t, g, Or.inl h'⟩
      · exact ⟨t, g, Or.inr ⟨p, h⟩⟩
    · rintro k t g t' g' (h | ⟨p, h⟩) (h' | ⟨p', h'⟩)
      · exact hI.2.2.1 k t g t' g' h h'
      · exact absurd (nw p' k t' g' h').2.2.2.2.1 (old k t g h)
      · exact absurd (nw p k t g h).2.2.2.2.1 (old k t' g' h')
      · exact newN_fun hI.2.2.1 h h'
    · rintro k t g (h | ⟨p, h⟩)
      · rcases hI.2.2.2.1 k t g h with z | ⟨⟨t', g', z⟩, z2, z3⟩
        · exact Or.inl z
        · exact Or.inr ⟨⟨t', g', Or.inl z⟩, z2, z3⟩
      · obtain ⟨-, ⟨t', g', z⟩, z2, z3, -⟩ := nw p k t g h
        exact Or.inr ⟨⟨t', g', Or.inl z⟩, z2, z3⟩
/-- where none is alive nothing comes any more -/
theorem run_dead {X : Nat → Nat → Int32} {m : Nat} {more tol : Int32} {lst hyp : Prop} {e : Nat} (h : ∀ k, ¬ (runN X m more tol lst hyp e).2 k) : ∀ d, (∀ k t g, (runN X m more tol lst hyp (e + d)).1 k t g ↔ (runN X m more tol lst hyp e).1 k t g) ∧ ∀ k, ¬ (runN X m more tol lst hyp (e + d)).2 k := by
  intro d
  induction d with
  | zero => exact ⟨fun k t g => Iff.rfl, h⟩
  | succ d ih =>
    have nn : ∀ k t g, ¬ newN X m more tol lst (runN X m more tol lst hyp (e + d)).1 (runN X m more tol lst hyp (e + d)).2 (e + d) k t g := fun k t g z => ih.2 g (new_of z).1
    refine ⟨fun k t g => ⟨?_, fun z => Or.inl ((ih.1 k t g).mpr z)⟩, ?_⟩
    · rintro (z | ⟨-, z⟩)
      · exact (ih.1 k t g).mp z
      · exact absurd z (nn k t g)
    · rintro k (⟨-, z⟩ | ⟨-, ⟨z, -⟩ | ⟨t, g, z⟩⟩)
      · exact ih.2 k z
      · exact ih.2 k z
      · exact nn k t g z
theorem run_mono {X : Nat → Nat → Int32} {m : Nat} {more tol : Int32} {lst hyp : Prop} {e : Nat} : ∀ d k t g, (runN X m more tol lst hyp e).1 k t g → (runN X m more tol lst hyp (e + d)).1 k t g := by
  intro d
  induction d with
  | zero => intro k t g h; exact h
  | succ d ih => intro k t g h; exact Or.inl (ih k t g h)
/-- the nodes' arrays -/
def keyA (p l f : Nat → Int32) (i : Nat) : KEY := (p i, l i, f i)
def fmK (p l f fm : Nat → Int32) (i : Nat) : KEY := if i = 0 then root else keyA p l f (fm i).toNatClampNeg
def Rep (p l f fm : Nat → Int32) (t : Nat → Int64) (n : Nat) (N : KEY → Int64 → KEY → Prop) : Prop :=
  (∀ k t' g, N k t' g ↔ ∃ i, i < n ∧ k = keyA p l f i ∧ t' = t i ∧ g = fmK p l f fm i) ∧ (∀ i j, i < n → j < n → keyA p l f i = keyA p l f j → i = j) ∧ (∀ i, 0 < i → i < n → ∃ j, j < n ∧ fm i = nI j) ∧ 0 < n ∧ n ≤ 8001 ∧ keyA p l f 0 = root
def FullN (N : KEY → Int64 → KEY → Prop) : Prop := ∃ K : Nat → KEY, (∀ i, i < 8002 → ∃ t g, N (K i) t g) ∧ ∀ i j, i < 8002 → j < 8002 → K i = K j → i = j
theorem pigeon : ∀ (n : Nat) (f : Nat → Nat), (∀ i, i < n + 1 → f i < n) → (∀ i j, i < n + 1 → j < n + 1 → f i = f j → i = j) → False := by
  intro n
  induction n with
  | zero => intro f h _; exact absurd (h 0 (by omega)) (by omega)
  | succ n ih =>
    intro f h inj
    refine ih (fun i => if f i = n then f (n + 1) else f i) (fun i hi => ?_) (fun i j hi hj e => ?_)
    · have h1 := h i (by omega)
      have h2 := h (n + 1) (by omega)
      by_cases z : f i = n
      · have : f (n + 1) ≠ n := fun y => by
          have := inj i (n + 1) (by omega) (by omega) (z.trans y.symm)
          omega
        simp only [if_pos z]
        omega
      · simp only [if_neg z]
        omega
    · by_cases z : f i = n <;> by_cases y : f j = n
      · exact inj i j (by omega) (by omega) (z.trans y.symm)
      · simp only [if_pos z, if_neg y] at e
        have := inj (n + 1) j (by omega) (by omega) e
        omega
      · simp only [if_neg z, if_pos y] at e
        have := inj i (n + 1) (by omega) (by omega) e
        omega
      · simp only [if_neg z, if_neg y] at e
        exact inj i j (by omega) (by omega) e
theorem rep_full {p l f fm : Nat → Int32} {t : Nat → Int64} {n : Nat} {N : KEY → Int64 → KEY → Prop} (h : Rep p l f fm t n N) (hF : FullN N) : False := by
  obtain ⟨K, h1, h2⟩ := hF
  have hx : ∀ i, ∃ j, i < 8002 → (j < n ∧ K i = keyA p l f j) := by
    intro i
    by_cases z : i < 8002
    · obtain ⟨t', g, hN⟩ := h1 i z
      obtain ⟨j, a, b, -⟩ := (h.1 _ _ _).mp hN
      exact ⟨j, fun _ => ⟨a, b⟩⟩
    · exact ⟨0, fun y => absurd y z⟩
  have hf : ∃ F : Nat → Nat, ∀ i, i < 8002 → (F i < n ∧ K i = keyA p l f (F i)) := ⟨fun i => Classical.choose (hx i), fun i => Classical.choose_spec (hx i)⟩
  obtain ⟨F, hF⟩ := hf
  have hn := h.2.2.2.2.1
  refine pigeon 8001 F (fun i hi => by have := (hF i (by omega)).1; omega) (fun i j hi hj e => h2 i j (by omega) (by omega) ?_)
  rw [(hF i (by omega)).2, (hF j (by omega)).2, e]
