/-! the reference's ask: what its loop keeps -/
def OffR (X : Nat → Nat → Int32) (m : Nat) (more tol : Int32) (T : ST) (e y : Nat) (sl sf : Int32) (t : Int64) : Prop :=
  T.1 20 y = 0 ∧ (bdX X m more (keyA (T.1 15) (T.1 16) (T.1 17) y) e).toInt ≤ tol.toInt ∧ sl = T.1 16 y + 1 ∧ sf = ftX X m more (keyA (T.1 15) (T.1 16) (T.1 17) y) e ∧ t = T.2.1 18 y + demX X m more (keyA (T.1 15) (T.1 16) (T.1 17) y) e
def AIa (X : Nat → Nat → Int32) (m : Nat) (more tol : Int32) (T : ST) (e n v c : Nat) (a15 a16 a17 a19 a20 : Nat → Int32) (l18 : Nat → Int64) : Prop :=
  n ≤ c ∧ c ≤ 8001 ∧ (∀ i, i < n → a15 i = T.1 15 i ∧ a16 i = T.1 16 i ∧ a17 i = T.1 17 i ∧ a19 i = T.1 19 i ∧ l18 i = T.2.1 18 i) ∧
  (∀ i, n ≤ i → i < c → a15 i = nI e ∧ a20 i = 0 ∧ ∃ y, y < v ∧ a19 i = nI y ∧ OffR X m more tol T e y (a16 i) (a17 i) (l18 i) ∧ ∀ y' t', y' < v → OffR X m more tol T e y' (a16 i) (a17 i) t' → (l18 i).toInt < t'.toInt ∨ ((l18 i).toInt = t'.toInt ∧ tie (keyA (T.1 15) (T.1 16) (T.1 17) y) (keyA (T.1 15) (T.1 16) (T.1 17) y'))) ∧
  (∀ y t sl sf, y < v → OffR X m more tol T e y sl sf t → ∃ i, n ≤ i ∧ i < c ∧ a16 i = sl ∧ a17 i = sf) ∧
  (∀ i i', n ≤ i → i < c → n ≤ i' → i' < c → a16 i = a16 i' → a17 i = a17 i' → i = i')
def AId (X : Nat → Nat → Int32) (m : Nat) (more : Int32) (T : ST) (e n v : Nat) (a20 : Nat → Int32) : Prop :=
  ∀ i, i < n → (i < v → (a20 i = 0 ↔ (T.1 20 i = 0 ∧ ¬ dies X m more (keyA (T.1 15) (T.1 16) (T.1 17) i) e))) ∧ (v ≤ i → a20 i = T.1 20 i)
theorem tie_refl (k : KEY) : tie k k := Or.inr ⟨rfl, by omega⟩
theorem AI_skip {X : Nat → Nat → Int32} {m : Nat} {more tol : Int32} {T : ST} {e n v c : Nat} {a15 a16 a17 a19 a20 : Nat → Int32} {l18 : Nat → Int64} (h : AIa X m more tol T e n v c a15 a16 a17 a19 a20 l18) (hno : ∀ sl sf t, ¬ OffR X m more tol T e v sl sf t) : AIa X m more tol T e n (v + 1) c a15 a16 a17 a19 a20 l18 := by
  obtain ⟨h1, h2, h3, h4, h5, h6⟩ := h
  refine ⟨h1, h2, h3, fun i a b => ?_, fun y t sl sf hy ho => ?_, h6⟩
  · obtain ⟨q1, q2, y, q3, q4, q5, q6⟩ := h4 i a b
    refine ⟨q1, q2, y, by omega, q4, q5, fun y' t' hy' ho' => ?_⟩
    by_cases w : y' = v
    · subst w; exact absurd ho' (hno _ _ _)
    · exact q6 y' t' (by omega) ho'
  · by_cases w : y = v
    · subst w; exact absurd ho (hno _ _ _)
    · exact h5 y t sl sf (by omega) ho
/-- v offers, and is taken at i, or what stands there stays -/
theorem AI_keep {X : Nat → Nat → Int32} {m : Nat} {more tol : Int32} {T : ST} {e n v c i y0 : Nat} {a15 a16 a17 a19 a20 : Nat → Int32} {l18 : Nat → Int64} {t : Int64} (h : AIa X m more tol T e n v c a15 a16 a17 a19 a20 l18) (hi1 : n ≤ i) (hi2 : i < c) (ho : OffR X m more tol T e v (a16 i) (a17 i) t) (hy0 : a19 i = nI y0) (hy8 : y0 < 8001) (hv : v < 8001)
    (hk : ¬ (t.toInt < (l18 i).toInt ∨ (t.toInt = (l18 i).toInt ∧ bef2 (keyA (T.1 15) (T.1 16) (T.1 17) v) (keyA (T.1 15) (T.1 16) (T.1 17) y0)))) : AIa X m more tol T e n (v + 1) c a15 a16 a17 a19 a20 l18 := by
  obtain ⟨h1, h2, h3, h4, h5, h6⟩ := h
  refine ⟨h1, h2, h3, fun j a b => ?_, fun y t' sl sf hy ho' => ?_, h6⟩
  · obtain ⟨q1, q2, y, q3, q4, q5, q6⟩ := h4 j a b
    refine ⟨q1, q2, y, by omega, q4, q5, fun y' t' hy' ho' => ?_⟩
    by_cases w : y' = v
    · subst w
      have ei : j = i := h6 j i a b hi1 hi2 (ho'.2.2.1.trans ho.2.2.1.symm) (ho'.2.2.2.1.trans ho.2.2.2.1.symm)
      subst ei
      have et : t' = t := ho'.2.2.2.2.trans ho.2.2.2.2.symm
      subst et
      have ey : y = y0 := (nI_eq (by omega) (by omega)).mp (q4.symm.trans hy0)
      subst ey
      by_cases z : t'.toInt = (l18 j).toInt
      · refine Or.inr ⟨z.symm, not_bef2.mp fun u => hk (Or.inr ⟨z, u⟩)⟩
      · refine Or.inl ?_
        have : ¬ t'.toInt < (l18 j).toInt := fun u => hk (Or.inl u)
        omega
    · exact q6 y' t' (by omega) ho'
  · by_cases w : y = v
    · subst w
      exact ⟨i, hi1, hi2, ho.2.2.1.trans ho'.2.2.1.symm, ho.2.2.2.1.trans ho'.2.2.2.1.symm⟩
    · exact h5 y t' sl sf (by omega) ho'
theorem AI_put {X : Nat → Nat → Int32} {m : Nat} {more tol : Int32} {T : ST} {e n v c i y0 : Nat} {a15 a16 a17 a19 a20 : Nat → Int32} {l18 : Nat → Int64} {t : Int64} (h : AIa X m more tol T e n v c a15 a16 a17 a19 a20 l18) (hi1 : n ≤ i) (hi2 : i < c) (ho : OffR X m more tol T e v (a16 i) (a17 i) t) (hy0 : a19 i = nI y0) (hy8 : y0 < 8001) (hv : v < 8001)
    (hk : t.toInt < (l18 i).toInt ∨ (t.toInt = (l18 i).toInt ∧ bef2 (keyA (T.1 15) (T.1 16) (T.1 17) v) (keyA (T.1 15) (T.1 16) (T.1 17) y0))) : AIa X m more tol T e n (v + 1) c (upd a15 i (nI e)) (upd a16 i (T.1 16 v + 1)) (upd a17 i (ftX X m more (keyA (T.1 15) (T.1 16) (T.1 17) v) e)) (upd a19 i (nI v)) (upd a20 i 0) (vp_updL l18 i t) := by
  have e16 : upd a16 i (T.1 16 v + 1) = a16 := by
    funext j
    by_cases w : j = i
    · subst w; rw [pk_us]; exact ho.2.2.1.symm
    · rw [pk_un w]
  have e17 : upd a17 i (ftX X m more (keyA (T.1 15) (T.1 16) (T.1 17) v) e) = a17 := by
    funext j
    by_cases w : j = i
    · subst w; rw [pk_us]; exact ho.2.2.2.1.symm
    · rw [pk_un w]
  rw [e16, e17]
  obtain ⟨h1, h2, h3, h4, h5, h6⟩ := h
  refine ⟨h1, h2, fun j hj => ?_, fun j a b => ?_, fun y t' sl sf hy ho' => ?_, h6⟩
  · rw [pk_un (by omega), pk_un (by omega), pk_uLn (by omega)]
    exact h3 j hj
  · obtain ⟨q1, q2, y, q3, q4, q5, q6⟩ := h4 j a b
    by_cases u : j = i
    · subst u
      rw [pk_us, pk_us, pk_us, pk_uLs]
      refine ⟨rfl, rfl, v, by omega, rfl, ho, fun y' t' hy' ho' => ?_⟩
      by_cases w : y' = v
      · subst w
        have et : t' = t := ho'.2.2.2.2.trans ho.2.2.2.2.symm
        subst et
        exact Or.inr ⟨rfl, tie_refl _⟩
      · have ey : y = y0 := (nI_eq (by omega) (by omega)).mp (q4.symm.trans hy0)
        subst ey
        have := q6 y' t' (by omega) ho'
        rcases hk with hk | ⟨hk, hk2⟩
        · exact Or.inl (by omega)
        · rcases this with z | ⟨z, z2⟩
          · exact Or.inl (by omega)
          · exact Or.inr ⟨by omega, tie_trans (bef2_tie hk2) z2⟩
    · rw [pk_un u, pk_un u, pk_un u, pk_uLn u]
      refine ⟨q1, q2, y, by omega, q4, q5, fun y' t' hy' ho' => ?_⟩
      by_cases w : y' = v
      · subst w
        exact absurd (h6 j i a b hi1 hi2 (ho'.2.2.1.trans ho.2.2.1.symm) (ho'.2.2.2.1.trans ho.2.2.2.1.symm)) u
      · exact q6 y' t' (by omega) ho'
  · by_cases w : y = v
    · subst w
      exact ⟨i, hi1, hi2, ho.2.2.1.trans ho'.2.2.1.symm, ho.2.2.2.1.trans ho'.2.2.2.1.symm⟩
    · exact h5 y t' sl sf (by omega) ho'
theorem AI_add {X : Nat → Nat → Int32} {m : Nat} {more tol : Int32} {T : ST} {e n v c : Nat} {a15 a16 a17 a19 a20 : Nat → Int32} {l18 : Nat → Int64} {t : Int64} {sl sf : Int32} (h : AIa X m more tol T e n v c a15 a16 a17 a19 a20 l18) (hc : c ≤ 8000) (ho : OffR X m more tol T e v sl sf t) (hno : ∀ i, n ≤ i → i < c → ¬ (a16 i = sl ∧ a17 i = sf)) : AIa X m more tol T e n (v + 1) (c + 1) (upd a15 c (nI e)) (upd a16 c sl) (upd a17 c sf) (upd a19 c (nI v)) (upd a20 c 0) (vp_updL l18 c t) := by
  obtain ⟨h1, h2, h3, h4, h5, h6⟩ := h
  refine ⟨by omega, by omega, fun j hj => ?_, fun j a b => ?_, fun y t' sl' sf' hy ho' => ?_, fun i i' a b a' b' q r => ?_⟩
  · rw [pk_un (by omega), pk_un (by omega), pk_un (by omega), pk_un (by omega), pk_uLn (by omega)]
    exact h3 j hj
  · by_cases u : j = c
    · subst u
      rw [pk_us, pk_us, pk_us, pk_us, pk_us, pk_uLs]
      refine ⟨rfl, rfl, v, by omega, rfl, ho, fun y' t' hy' ho' => ?_⟩
      by_cases w : y' = v
      · subst w
        have et : t' = t := ho'.2.2.2.2.trans ho.2.2.2.2.symm
        subst et
        exact Or.inr ⟨rfl, tie_refl _⟩
      · obtain ⟨i, i1, i2, i3, i4⟩ := h5 y' t' sl sf (by omega) ho'
        exact absurd ⟨i3, i4⟩ (hno i i1 i2)
    · rw [pk_un u, pk_un u, pk_un u, pk_un u, pk_un u, pk_uLn u]
      obtain ⟨q1, q2, y, q3, q4, q5, q6⟩ := h4 j a (by omega)
      refine ⟨q1, q2, y, by omega, q4, q5, fun y' t' hy' ho' => ?_⟩
      by_cases w : y' = v
      · subst w
        exact absurd ⟨ho'.2.2.1.trans ho.2.2.1.symm, ho'.2.2.2.1.trans ho.2.2.2.1.symm⟩ (hno j a (by omega))
      · exact q6 y' t' (by omega) ho'
  · by_cases w : y = v
    · subst w
      refine ⟨c, by omega, by omega, ?_, ?_⟩
      · rw [pk_us]; exact ho.2.2.1.trans ho'.2.2.1.symm
      · rw [pk_us]; exact ho.2.2.2.1.trans ho'.2.2.2.1.symm
    · obtain ⟨i, i1, i2, i3, i4⟩ := h5 y t' sl' sf' (by omega) ho'
      refine ⟨i, i1, by omega, ?_, ?_⟩
      · rw [pk_un (by omega)]; exact i3
      · rw [pk_un (by omega)]; exact i4
  · by_cases u : i = c <;> by_cases u' : i' = c
    · omega
    · subst u
      rw [pk_us, pk_un u'] at q r
      exact absurd ⟨q.symm, r.symm⟩ (hno i' a' (by omega))
    · subst u'
      rw [pk_us, pk_un u] at q r
      exact absurd ⟨q, r⟩ (hno i a (by omega))
    · rw [pk_un u, pk_un u'] at q r
      exact h6 i i' a (by omega) a' (by omega) q r
theorem off_R {X : Nat → Nat → Int32} {m : Nat} {more tol : Int32} {N : KEY → Int64 → KEY → Prop} {A : KEY → Prop} {T : ST} {e n : Nat} {sl sf : Int32} {g : KEY} {t : Int64} (hR : Rep (T.1 15) (T.1 16) (T.1 17) (T.1 19) (T.2.1 18) n N) (hA : ∀ k, A k ↔ ∃ y, y < n ∧ T.1 20 y = 0 ∧ k = keyA (T.1 15) (T.1 16) (T.1 17) y) : Off X m more tol N A e g t sl sf ↔ ∃ y, y < n ∧ g = keyA (T.1 15) (T.1 16) (T.1 17) y ∧ OffR X m more tol T e y sl sf t := by
  constructor
  · rintro ⟨h1, ⟨t0, g0, h2, h3⟩, h4, h5, h6⟩
    obtain ⟨y, hy, hd, ey⟩ := (hA g).mp h1
    obtain ⟨i, hi, ei, et, -⟩ := (hR.1 g t0 g0).mp h2
    have : y = i := hR.2.1 _ _ hy hi (ey.symm.trans ei)
    subst ey
    exact ⟨y, hy, rfl, hd, h4, h5, h6, by rw [h3, et, this]⟩
  · rintro ⟨y, hy, rfl, hd, h4, h5, h6, h7⟩
    exact ⟨(hA _).mpr ⟨y, hy, hd, rfl⟩, ⟨T.2.1 18 y, fmK (T.1 15) (T.1 16) (T.1 17) (T.1 19) y, (hR.1 _ _ _).mpr ⟨y, hy, rfl, rfl, rfl⟩, h7⟩, h4, h5, h6⟩
/-- of some offers to one slot one is the best -/
theorem ex_best {X : Nat → Nat → Int32} {m : Nat} {more tol : Int32} {T : ST} {e : Nat} {sl sf : Int32} : ∀ v, (∃ y t, y < v ∧ OffR X m more tol T e y sl sf t) → ∃ y t, y < v ∧ OffR X m more tol T e y sl sf t ∧ ∀ y' t', y' < v → OffR X m more tol T e y' sl sf t' → t.toInt < t'.toInt ∨ (t.toInt = t'.toInt ∧ tie (keyA (T.1 15) (T.1 16) (T.1 17) y) (keyA (T.1 15) (T.1 16) (T.1 17) y')) := by
  intro v
  induction v with
  | zero => rintro ⟨y, t, h, -⟩; omega
  | succ v ih =>
    rintro ⟨y, t, hy, ho⟩
    by_cases hv : ∃ t, OffR X m more tol T e v sl sf t
    · obtain ⟨tv, hv⟩ := hv
      have self : ∀ t', OffR X m more tol T e v sl sf t' → t' = tv := fun t' h => h.2.2.2.2.trans hv.2.2.2.2.symm
      by_cases hb : ∃ y t, y < v ∧ OffR X m more tol T e y sl sf t
      · obtain ⟨y0, t0, h1, h2, h3⟩ := ih hb
        by_cases hc : t0.toInt < tv.toInt ∨ (t0.toInt = tv.toInt ∧ tie (keyA (T.1 15) (T.1 16) (T.1 17) y0) (keyA (T.1 15) (T.1 16) (T.1 17) v))
        · refine ⟨y0, t0, by omega, h2, fun y' t' hy' ho' => ?_⟩
          by_cases w : y' = v
          · subst w; rw [self t' ho']; exact hc
          · exact h3 y' t' (by omega) ho'
        · refine ⟨v, tv, by omega, hv, fun y' t' hy' ho' => ?_⟩
          by_cases w : y' = v
          · subst w; rw [self t' ho']; exact Or.inr ⟨rfl, tie_refl _⟩
          · have h4 := h3 y' t' (by omega) ho'
            by_cases q : t0.toInt = tv.toInt
            · have nt : ¬ tie (keyA (T.1 15) (T.1 16) (T.1 17) y0) (keyA (T.1 15) (T.1 16) (T.1 17) v) := fun u => hc (Or.inr ⟨q, u⟩)
              have ti := (tie_total (keyA (T.1 15) (T.1 16) (T.1 17) y0) (keyA (T.1 15) (T.1 16) (T.1 17) v)).resolve_left nt
              rcases h4 with z | ⟨z, z2⟩
              · exact Or.inl (by omega)
              · exact Or.inr ⟨by omega, tie_trans ti z2⟩
            · have : ¬ t0.toInt < tv.toInt := fun u => hc (Or.inl u)
              exact Or.inl (by omega)
      · refine ⟨v, tv, by omega, hv, fun y' t' hy' ho' => ?_⟩
        by_cases w : y' = v
        · subst w; rw [self t' ho']; exact Or.inr ⟨rfl, tie_refl _⟩
        · exact absurd ⟨y', t', by omega, ho'⟩ hb
    · have hyv : y < v := by
        by_cases w : y = v
        · subst w; exact absurd ⟨t, ho⟩ hv
        · omega
      obtain ⟨y0, t0, h1, h2, h3⟩ := ih ⟨y, t, hyv, ho⟩
      refine ⟨y0, t0, by omega, h2, fun y' t' hy' ho' => ?_⟩
      by_cases w : y' = v
      · subst w; exact absurd ⟨t', ho'⟩ hv
      · exact h3 y' t' (by omega) ho'
