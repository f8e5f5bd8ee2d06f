/-! the reference's ask: its end -/
theorem old_pl {m e : Nat} {N : KEY → Int64 → KEY → Prop} {A : KEY → Prop} {k : KEY} {t : Int64} {g : KEY} (he : e < 1000) (hI : InvN m e N A) (h : N k t g) : k.1 ≠ nI e := by
  intro z
  rcases okK_p (hI.1 _ _ _ h) with y | ⟨j, hj, y⟩
  · rw [y] at z
    have := congrArg Int32.toInt z
    rw [nI_toInt (by omega)] at this
    have : (-1 : Int) = e := this
    omega
  · rw [y] at z
    have := (nI_eq (by omega) (by omega)).mp z
    omega
theorem AI_keys {X : Nat → Nat → Int32} {m : Nat} {more tol : Int32} {lst : Prop} {N : KEY → Int64 → KEY → Prop} {A : KEY → Prop} {T : ST} {e n v c : Nat} {a15 a16 a17 a19 a20 : Nat → Int32} {l18 : Nat → Int64} (he : e < 1000) (hR : Rep (T.1 15) (T.1 16) (T.1 17) (T.1 19) (T.2.1 18) n N) (hA : ∀ k, A k ↔ ∃ y, y < n ∧ T.1 20 y = 0 ∧ k = keyA (T.1 15) (T.1 16) (T.1 17) y) (hI : InvN m e N A) (hv : v ≤ n) (h : AIa X m more tol T e n v c a15 a16 a17 a19 a20 l18) :
    (∀ i, i < n → keyA a15 a16 a17 i = keyA (T.1 15) (T.1 16) (T.1 17) i) ∧ (∀ i, i < n → a15 i ≠ nI e) ∧ (∀ i, n ≤ i → i < c → a15 i = nI e) ∧ (∀ i j, i < c → j < c → keyA a15 a16 a17 i = keyA a15 a16 a17 j → i = j) ∧ (∀ i, i < c → ∃ t g, N2 X m more tol lst e N A (keyA a15 a16 a17 i) t g) := by
  obtain ⟨h1, h2, h3, h4, h5, h6⟩ := h
  have k1 : ∀ i, i < n → keyA a15 a16 a17 i = keyA (T.1 15) (T.1 16) (T.1 17) i := by
    intro i hi
    obtain ⟨e1, e2, e3, -⟩ := h3 i hi
    unfold keyA
    rw [e1, e2, e3]
  have k2 : ∀ i, i < n → a15 i ≠ nI e := by
    intro i hi z
    rw [(h3 i hi).1] at z
    exact old_pl he hI ((hR.1 _ _ _).mpr ⟨i, hi, rfl, rfl, rfl⟩) z
  have k3 : ∀ i, n ≤ i → i < c → a15 i = nI e := fun i a b => (h4 i a b).1
  refine ⟨k1, k2, k3, fun i j hi hj ee => ?_, fun i hi => ?_⟩
  · rcases Nat.lt_or_ge i n with z | z <;> rcases Nat.lt_or_ge j n with y | y
    · rw [k1 i z, k1 j y] at ee
      exact hR.2.1 i j z y ee
    · have := congrArg Prod.fst ee
      exact absurd (this.trans (k3 j y hj)) (k2 i z)
    · have := congrArg Prod.fst ee
      exact absurd (this.symm.trans (k3 i z hi)) (k2 j y)
    · exact h6 i j z hi y hj (congrArg (fun z : KEY => z.2.1) ee) (congrArg (fun z : KEY => z.2.2) ee)
  · rcases Nat.lt_or_ge i n with z | z
    · exact ⟨_, _, Or.inl ((hR.1 _ _ _).mpr ⟨i, z, k1 i z, rfl, rfl⟩)⟩
    · obtain ⟨q1, q2, y, q3, q4, q5, -⟩ := h4 i z hi
      obtain ⟨y0, t0, r1, r2, r3⟩ := ex_best n ⟨y, _, by omega, q5⟩
      refine ⟨t0, keyA (T.1 15) (T.1 16) (T.1 17) y0, Or.inr ⟨q1, Or.inl ⟨(off_R hR hA).mpr ⟨y0, r1, rfl, r2⟩, fun g' t' ho => ?_⟩⟩⟩
      obtain ⟨y', hy', rfl, ho'⟩ := (off_R hR hA).mp ho
      exact r3 y' t' hy' ho'
theorem full_of {X : Nat → Nat → Int32} {m : Nat} {more tol : Int32} {lst : Prop} {N : KEY → Int64 → KEY → Prop} {A : KEY → Prop} {e : Nat} {a15 a16 a17 : Nat → Int32} {k : KEY} {t : Int64} {g : KEY} (inj : ∀ i j, i < 8001 → j < 8001 → keyA a15 a16 a17 i = keyA a15 a16 a17 j → i = j) (dom : ∀ i, i < 8001 → ∃ t g, N2 X m more tol lst e N A (keyA a15 a16 a17 i) t g) (hk : N2 X m more tol lst e N A k t g) (ne : ∀ i, i < 8001 → keyA a15 a16 a17 i ≠ k) : FullN (N2 X m more tol lst e N A) := by
  refine ⟨fun i => if i < 8001 then keyA a15 a16 a17 i else k, fun i hi => ?_, fun i j hi hj ee => ?_⟩
  · by_cases z : i < 8001
    · simp only [if_pos z]
      exact dom i z
    · simp only [if_neg z]
      exact ⟨_, _, hk⟩
  · by_cases z : i < 8001 <;> by_cases y : j < 8001
    · simp only [if_pos z, if_pos y] at ee
      exact inj i j z y ee
    · simp only [if_pos z, if_neg y] at ee
      exact absurd ee (ne i z)
    · simp only [if_neg z, if_pos y] at ee
      exact absurd ee.symm (ne j y)
    · omega
/-- the loop's end, where no rescue is due -/
theorem AI_rep {X : Nat → Nat → Int32} {m : Nat} {more tol : Int32} {lst : Prop} {N : KEY → Int64 → KEY → Prop} {A : KEY → Prop} {T : ST} {e n c : Nat} {a15 a16 a17 a19 a20 : Nat → Int32} {l18 : Nat → Int64} (he : e < 1000) (hR : Rep (T.1 15) (T.1 16) (T.1 17) (T.1 19) (T.2.1 18) n N) (hA : ∀ k, A k ↔ ∃ y, y < n ∧ T.1 20 y = 0 ∧ k = keyA (T.1 15) (T.1 16) (T.1 17) y) (hI : InvN m e N A) (h : AIa X m more tol T e n n c a15 a16 a17 a19 a20 l18)
    (hres : (∃ y sl sf t, y < n ∧ OffR X m more tol T e y sl sf t) ∨ ¬ lst ∨ ¬ (∀ g', A g' → dies X m more g' e) ∨ ∀ k, ¬ A k) : Rep a15 a16 a17 a19 l18 c (N2 X m more tol lst e N A) := by
  obtain ⟨k1, k2, k3, k4, -⟩ := AI_keys (lst := lst) he hR hA hI (by omega) h
  obtain ⟨h1, h2, h3, h4, h5, h6⟩ := h
  have n0 := hR.2.2.2.1
  have hn8 := hR.2.2.2.2.1
  have best : ∀ k t g, newN X m more tol lst N A e k t g → k.1 = nI e ∧ Off X m more tol N A e g t k.2.1 k.2.2 := by
    rintro k t g ⟨h0, ⟨h, -⟩ | ⟨z1, z2, z3, z4, -⟩⟩
    · exact ⟨h0, h⟩
    · rcases hres with ⟨y, sl, sf, t', hy, ho⟩ | h | h | h
      · exact absurd ((off_R hR hA).mpr ⟨y, hy, rfl, ho⟩) (z2 _ _ _ _)
      · exact absurd z1 h
      · exact absurd z3 h
      · exact absurd z4 (h g)
  have nw : ∀ i, n ≤ i → i < c → newN X m more tol lst N A e (keyA a15 a16 a17 i) (l18 i) (fmK a15 a16 a17 a19 i) := by
    intro i a b
    obtain ⟨q1, q2, y, q3, q4, q5, q6⟩ := h4 i a b
    have ef : fmK a15 a16 a17 a19 i = keyA (T.1 15) (T.1 16) (T.1 17) y := by
      unfold fmK
      rw [if_neg (by omega), q4, nI_clamp (by omega), k1 y q3]
    rw [ef]
    refine ⟨q1, Or.inl ⟨(off_R hR hA).mpr ⟨y, q3, rfl, q5⟩, fun g' t' ho => ?_⟩⟩
    obtain ⟨y', hy', rfl, ho'⟩ := (off_R hR hA).mp ho
    exact q6 y' t' hy' ho'
  refine ⟨fun k t' g => ⟨?_, ?_⟩, k4, fun i hi hc => ?_, by omega, h2, by rw [k1 0 n0]; exact hR.2.2.2.2.2⟩
  · rintro (z | z)
    · obtain ⟨i, a, b, d, r⟩ := (hR.1 _ _ _).mp z
      refine ⟨i, by omega, by rw [k1 i a]; exact b, by rw [(h3 i a).2.2.2.2]; exact d, ?_⟩
      rw [r]
      unfold fmK
      by_cases w : i = 0
      · rw [if_pos w, if_pos w]
      · rw [if_neg w, if_neg w, (h3 i a).2.2.2.1]
        obtain ⟨j, hj, ej⟩ := hR.2.2.1 i (by omega) a
        rw [ej, nI_clamp (by omega)]
        exact (k1 j hj).symm
    · obtain ⟨q1, q2⟩ := best k t' g z
      obtain ⟨y, hy, rfl, ho⟩ := (off_R hR hA).mp q2
      obtain ⟨i, i1, i2, i3, i4⟩ := h5 y t' _ _ hy ho
      have ek : k = keyA a15 a16 a17 i := Prod.ext (q1.trans (k3 i i1 i2).symm) (Prod.ext i3.symm i4.symm)
      have := nw i i1 i2
      rw [← ek] at this
      have := newN_fun hI.2.2.1 z this
      exact ⟨i, i2, ek, this.1, this.2⟩
  · rintro ⟨i, a, rfl, rfl, rfl⟩
    rcases Nat.lt_or_ge i n with z | z
    · refine Or.inl ((hR.1 _ _ _).mpr ⟨i, z, k1 i z, (h3 i z).2.2.2.2, ?_⟩)
      unfold fmK
      by_cases w : i = 0
      · rw [if_pos w, if_pos w]
      · rw [if_neg w, if_neg w, (h3 i z).2.2.2.1]
        obtain ⟨j, hj, ej⟩ := hR.2.2.1 i (by omega) z
        rw [ej, nI_clamp (by omega)]
        exact k1 j hj
    · exact Or.inr (nw i z a)
  · rcases Nat.lt_or_ge i n with z | z
    · obtain ⟨j, hj, ej⟩ := hR.2.2.1 i hi z
      exact ⟨j, by omega, by rw [(h3 i z).2.2.2.1]; exact ej⟩
    · obtain ⟨q1, q2, y, q3, q4, -⟩ := h4 i z hc
      exact ⟨y, by omega, q4⟩
/-- who is alive then -/
theorem AI_alive {X : Nat → Nat → Int32} {m : Nat} {more tol : Int32} {lst : Prop} {N : KEY → Int64 → KEY → Prop} {A : KEY → Prop} {T : ST} {e n c : Nat} {a15 a16 a17 a19 a20 : Nat → Int32} {l18 : Nat → Int64} (he : e < 1000) (hR : Rep (T.1 15) (T.1 16) (T.1 17) (T.1 19) (T.2.1 18) n N) (hA : ∀ k, A k ↔ ∃ y, y < n ∧ T.1 20 y = 0 ∧ k = keyA (T.1 15) (T.1 16) (T.1 17) y) (hI : InvN m e N A) (hR2 : Rep a15 a16 a17 a19 l18 c (N2 X m more tol lst e N A)) (hnc : n ≤ c) (k1 : ∀ i, i < n → keyA a15 a16 a17 i = keyA (T.1 15) (T.1 16) (T.1 17) i) (k3 : ∀ i, n ≤ i → i < c → a15 i = nI e) (d1 : ∀ i, i < n → (a20 i = 0 ↔ (T.1 20 i = 0 ∧ ¬ dies X m more (keyA (T.1 15) (T.1 16) (T.1 17) i) e))) (d2 : ∀ i, n ≤ i → i < c → a20 i = 0) (k : KEY) :
    ((A k ∧ ¬ dies X m more k e) ∨ ∃ t g, newN X m more tol lst N A e k t g) ↔ ∃ y, y < c ∧ a20 y = 0 ∧ k = keyA a15 a16 a17 y := by
  constructor
  · rintro (⟨h, hd⟩ | ⟨t, g, h⟩)
    · obtain ⟨y, hy, ha, rfl⟩ := (hA k).mp h
      exact ⟨y, by omega, (d1 y hy).mpr ⟨ha, hd⟩, (k1 y hy).symm⟩
    · obtain ⟨i, hi, rfl, -⟩ := (hR2.1 _ _ _).mp (Or.inr h)
      have e0 : a15 i = nI e := (new_of h).2.1
      have hin : n ≤ i := by
        rcases Nat.lt_or_ge i n with z | z
        · have e1 : T.1 15 i = a15 i := (congrArg Prod.fst (k1 i z)).symm
          exact absurd (e1.trans e0) (old_pl he hI ((hR.1 _ _ _).mpr ⟨i, z, rfl, rfl, rfl⟩))
        · exact z
      exact ⟨i, hi, d2 i hin hi, rfl⟩
  · rintro ⟨y, hy, ha, rfl⟩
    rcases Nat.lt_or_ge y n with z | z
    · rw [k1 y z]
      obtain ⟨q1, q2⟩ := (d1 y z).mp ha
      exact Or.inl ⟨(hA _).mpr ⟨y, z, q1, rfl⟩, q2⟩
    · have := (hR2.1 (keyA a15 a16 a17 y) _ _).mpr ⟨y, hy, rfl, rfl, rfl⟩
      rcases this with w | w
      · exact absurd (k3 y z hy) (old_pl he hI w)
      · exact Or.inr ⟨_, _, w⟩
def cntI (X : Nat → Nat → Int32) (m : Nat) (more : Int32) (T : ST) (e v al en : Nat) : Prop :=
  en ≤ al ∧ al ≤ v ∧ ((∃ y, y < v ∧ T.1 20 y = 0 ∧ ¬ dies X m more (keyA (T.1 15) (T.1 16) (T.1 17) y) e) ↔ en < al) ∧ ((∃ y, y < v ∧ T.1 20 y = 0) ↔ 0 < al)
def someI (X : Nat → Nat → Int32) (m : Nat) (more tol : Int32) (T : ST) (e v : Nat) (x7 : Int32) : Prop :=
  (x7 = 0 ∧ ∀ y sl sf t, y < v → ¬ OffR X m more tol T e y sl sf t) ∨ (x7 = 1 ∧ ∃ y sl sf t, y < v ∧ OffR X m more tol T e y sl sf t)
def yetI (X : Nat → Nat → Int32) (m : Nat) (more : Int32) (T : ST) (e v : Nat) (x6 : Int32) : Prop :=
  (x6 = -1 ∧ ∀ y, y < v → T.1 20 y = 0 → ¬ dies X m more (keyA (T.1 15) (T.1 16) (T.1 17) y) e) ∨ ∃ y, y < v ∧ x6 = nI y ∧ T.1 20 y = 0 ∧ dies X m more (keyA (T.1 15) (T.1 16) (T.1 17) y) e ∧ ∀ y', y' < v → T.1 20 y' = 0 → dies X m more (keyA (T.1 15) (T.1 16) (T.1 17) y') e → (T.1 16 y').toInt < (T.1 16 y).toInt ∨ ((T.1 16 y').toInt = (T.1 16 y).toInt ∧ tie (keyA (T.1 15) (T.1 16) (T.1 17) y) (keyA (T.1 15) (T.1 16) (T.1 17) y'))
theorem some_skip {X : Nat → Nat → Int32} {m : Nat} {more tol : Int32} {T : ST} {e v : Nat} {x7 : Int32} (h : someI X m more tol T e v x7) (hno : ∀ sl sf t, ¬ OffR X m more tol T e v sl sf t) : someI X m more tol T e (v + 1) x7 := by
  rcases h with ⟨h1, h2⟩ | ⟨h1, y, sl, sf, t, h2, h3⟩
  · refine Or.inl ⟨h1, fun y sl sf t hy => ?_⟩
    by_cases w : y = v
    · subst w; exact hno sl sf t
    · exact h2 y sl sf t (by omega)
  · exact Or.inr ⟨h1, y, sl, sf, t, by omega, h3⟩
theorem yet_skip {X : Nat → Nat → Int32} {m : Nat} {more : Int32} {T : ST} {e v : Nat} {x6 : Int32} (h : yetI X m more T e v x6) (hno : ¬ (T.1 20 v = 0 ∧ dies X m more (keyA (T.1 15) (T.1 16) (T.1 17) v) e)) : yetI X m more T e (v + 1) x6 := by
  rcases h with ⟨h1, h2⟩ | ⟨y, h1, h2, h3, h4, h5⟩
  · refine Or.inl ⟨h1, fun y hy ha hd => ?_⟩
    by_cases w : y = v
    · subst w; exact hno ⟨ha, hd⟩
    · exact h2 y (by omega) ha hd
  · refine Or.inr ⟨y, by omega, h2, h3, h4, fun y' hy' ha hd => ?_⟩
    by_cases w : y' = v
    · subst w; exact absurd ⟨ha, hd⟩ hno
    · exact h5 y' (by omega) ha hd
theorem ex_succ {P : Nat → Prop} {v : Nat} : (∃ y, y < v + 1 ∧ P y) ↔ ((∃ y, y < v ∧ P y) ∨ P v) := by
  constructor
  · rintro ⟨y, hy, h⟩
    by_cases w : y = v
    · subst w; exact Or.inr h
    · exact Or.inl ⟨y, by omega, h⟩
  · rintro (⟨y, hy, h⟩ | h)
    · exact ⟨y, by omega, h⟩
    · exact ⟨v, by omega, h⟩
theorem cnt_dead {X : Nat → Nat → Int32} {m : Nat} {more : Int32} {T : ST} {e v al en : Nat} (h : cntI X m more T e v al en) (ha : ¬ T.1 20 v = 0) : cntI X m more T e (v + 1) al en := by
  obtain ⟨h1, h2, h3, h4⟩ := h
  unfold cntI
  rw [ex_succ (P := fun y => T.1 20 y = 0 ∧ ¬ dies X m more (keyA (T.1 15) (T.1 16) (T.1 17) y) e), ex_succ (P := fun y => T.1 20 y = 0), h3, h4]
  exact ⟨h1, by omega, ⟨fun z => z.resolve_right fun w => ha w.1, Or.inl⟩, ⟨fun z => z.resolve_right ha, Or.inl⟩⟩
theorem cnt_live {X : Nat → Nat → Int32} {m : Nat} {more : Int32} {T : ST} {e v al en : Nat} (h : cntI X m more T e v al en) (ha : T.1 20 v = 0) (hd : ¬ dies X m more (keyA (T.1 15) (T.1 16) (T.1 17) v) e) : cntI X m more T e (v + 1) (al + 1) en := by
  obtain ⟨h1, h2, h3, h4⟩ := h
  unfold cntI
  rw [ex_succ (P := fun y => T.1 20 y = 0 ∧ ¬ dies X m more (keyA (T.1 15) (T.1 16) (T.1 17) y) e), ex_succ (P := fun y => T.1 20 y = 0), h3, h4]
  exact ⟨by omega, by omega, ⟨fun _ => by omega, fun _ => Or.inr ⟨ha, hd⟩⟩, ⟨fun _ => by omega, fun _ => Or.inr ha⟩⟩
theorem cnt_die {X : Nat → Nat → Int32} {m : Nat} {more : Int32} {T : ST} {e v al en : Nat} (h : cntI X m more T e v al en) (ha : T.1 20 v = 0) (hd : dies X m more (keyA (T.1 15) (T.1 16) (T.1 17) v) e) : cntI X m more T e (v + 1) (al + 1) (en + 1) := by
  obtain ⟨h1, h2, h3, h4⟩ := h
  unfold cntI
  rw [ex_succ (P := fun y => T.1 20 y = 0 ∧ ¬ dies X m more (keyA (T.1 15) (T.1 16) (T.1 17) y) e), ex_succ (P := fun y => T.1 20 y = 0), h3, h4]
  refine ⟨by omega, by omega, ⟨fun z => ?_, fun z => Or.inl (by omega)⟩, ⟨fun _ => by omega, fun _ => Or.inr ha⟩⟩
  rcases z with z | z
  · omega
  · exact absurd hd z.2
