/-! Offers.turnInto and Search.settle -/
/-- the slots that are through at line L, where fits from F on are -/
def thru (L F sl sf : Nat) : Prop := sl < L ∨ (sl = L ∧ F ≤ sf)
def TI (X : Nat → Nat → Int32) (m : Nat) (more tol : Int32) (lst : Prop) (e n : Nat) (N : KEY → Int64 → KEY → Prop) (A : KEY → Prop) (S : ST) (b39 : Nat → Int32) (L F c : Nat) (a32 a33 a34 a35 a39 : Nat → Int32) (l36 : Nat → Int64) : Prop :=
  n ≤ c ∧ c ≤ 8001 ∧ (∀ i, i < n → a32 i = S.1 32 i ∧ a33 i = S.1 33 i ∧ a34 i = S.1 34 i ∧ a35 i = S.1 35 i ∧ l36 i = S.2.1 36 i) ∧
  (∀ i, n ≤ i → i < c → ∃ sl sf j, thru L F sl sf ∧ sl ≤ 401 ∧ sf < 4 ∧ a32 i = nI e ∧ a33 i = nI sl ∧ a34 i = nI sf ∧ a35 i = nI j ∧ j < n ∧ newN X m more tol lst N A e (nI e, nI sl, nI sf) (l36 i) (keyA (S.1 32) (S.1 33) (S.1 34) j)) ∧
  (∀ sl sf t g, sl ≤ 401 → sf < 4 → thru L F sl sf → newN X m more tol lst N A e (nI e, nI sl, nI sf) t g → ∃ i, n ≤ i ∧ i < c ∧ a33 i = nI sl ∧ a34 i = nI sf) ∧
  (∀ i i', n ≤ i → i < i' → i' < c → (a33 i).toInt < (a33 i').toInt ∨ ((a33 i).toInt = (a33 i').toInt ∧ (a34 i').toInt < (a34 i).toInt)) ∧
  (∀ sl sf, sl ≤ 401 → sf < 4 → (thru L F sl sf → a39 (sl * 4 + sf) = -1) ∧ (¬ thru L F sl sf → a39 (sl * 4 + sf) = b39 (sl * 4 + sf)))
/-- a slot without an offer -/
theorem TI_skip {X : Nat → Nat → Int32} {m : Nat} {more tol : Int32} {lst : Prop} {e n : Nat} {N : KEY → Int64 → KEY → Prop} {A : KEY → Prop} {S : ST} {b39 : Nat → Int32} {L F c : Nat} {a32 a33 a34 a35 a39 : Nat → Int32} {l36 : Nat → Int64} (hL : L ≤ 401) (hF : F < 4) (h : TI X m more tol lst e n N A S b39 L (F + 1) c a32 a33 a34 a35 a39 l36) (h0 : a39 (L * 4 + F) = -1) (hno : ∀ t g, ¬ newN X m more tol lst N A e (nI e, nI L, nI F) t g) : TI X m more tol lst e n N A S b39 L F c a32 a33 a34 a35 a39 l36 := by
  obtain ⟨h1, h2, h3, h4, h5, h6, h7⟩ := h
  refine ⟨h1, h2, h3, fun i a b => ?_, fun sl sf t g a b d h => ?_, h6, fun sl sf a b => ⟨fun d => ?_, fun d => ?_⟩⟩
  · obtain ⟨sl, sf, j, q, r⟩ := h4 i a b
    refine ⟨sl, sf, j, ?_, r⟩
    unfold thru at *
    omega
  · by_cases z : sl = L ∧ sf = F
    · obtain ⟨rfl, rfl⟩ := z
      exact absurd h (hno t g)
    · exact h5 sl sf t g a b (by unfold thru at *; omega) h
  · by_cases z : sl = L ∧ sf = F
    · obtain ⟨rfl, rfl⟩ := z
      exact h0
    · exact (h7 sl sf a b).1 (by unfold thru at *; omega)
  · exact (h7 sl sf a b).2 (by unfold thru at *; omega)
/-- a slot with one -/
theorem TI_add {X : Nat → Nat → Int32} {m : Nat} {more tol : Int32} {lst : Prop} {e n : Nat} {N : KEY → Int64 → KEY → Prop} {A : KEY → Prop} {S : ST} {b39 : Nat → Int32} {L F c j : Nat} {a32 a33 a34 a35 a39 : Nat → Int32} {l36 : Nat → Int64} {tv : Int64} (hL : L ≤ 401) (hF : F < 4) (h : TI X m more tol lst e n N A S b39 L (F + 1) c a32 a33 a34 a35 a39 l36) (hc : c ≤ 8000) (hj : j < n) (hnew : newN X m more tol lst N A e (nI e, nI L, nI F) tv (keyA (S.1 32) (S.1 33) (S.1 34) j)) : TI X m more tol lst e n N A S b39 L F (c + 1) (upd a32 c (nI e)) (upd a33 c (nI L)) (upd a34 c (nI F)) (upd a35 c (nI j)) (upd a39 (L * 4 + F) (-1)) (vp_updL l36 c tv) := by
  obtain ⟨h1, h2, h3, h4, h5, h6, h7⟩ := h
  refine ⟨by omega, by omega, fun i a => ?_, fun i a b => ?_, fun sl sf t g a b d h => ?_, fun i i' a b d => ?_, fun sl sf a b => ⟨fun d => ?_, fun d => ?_⟩⟩
  · rw [pk_un (by omega), pk_un (by omega), pk_un (by omega), pk_un (by omega), pk_uLn (by omega)]
    exact h3 i a
  · by_cases z : i = c
    · subst z
      refine ⟨L, F, j, Or.inr ⟨rfl, by omega⟩, hL, hF, pk_us, pk_us, pk_us, pk_us, hj, ?_⟩
      rw [pk_uLs]
      exact hnew
    · obtain ⟨sl, sf, j', q, r⟩ := h4 i a (by omega)
      refine ⟨sl, sf, j', by unfold thru at *; omega, ?_⟩
      rw [pk_un z, pk_un z, pk_un z, pk_un z, pk_uLn z]
      exact r
  · by_cases z : sl = L ∧ sf = F
    · obtain ⟨rfl, rfl⟩ := z
      exact ⟨c, by omega, by omega, pk_us, pk_us⟩
    · obtain ⟨i, q1, q2, q3, q4⟩ := h5 sl sf t g a b (by unfold thru at *; omega) h
      refine ⟨i, q1, by omega, ?_, ?_⟩
      · rw [pk_un (by omega)]; exact q3
      · rw [pk_un (by omega)]; exact q4
  · by_cases z : i' = c
    · subst z
      have u1 : upd a33 i' (nI L) i = a33 i := pk_un (by omega)
      have u2 : upd a34 i' (nI F) i = a34 i := pk_un (by omega)
      rw [u1, u2, pk_us, pk_us]
      obtain ⟨sl, sf, j', q, r1, r2, -, r3, r4, -⟩ := h4 i a (by omega)
      rw [r3, r4, nI_toInt (by omega), nI_toInt (by omega), nI_toInt (by omega), nI_toInt (by omega)]
      unfold thru at q
      omega
    · have u1 : upd a33 c (nI L) i = a33 i := pk_un (by omega)
      have u2 : upd a34 c (nI F) i = a34 i := pk_un (by omega)
      have u3 : upd a33 c (nI L) i' = a33 i' := pk_un (by omega)
      have u4 : upd a34 c (nI F) i' = a34 i' := pk_un (by omega)
      rw [u1, u2, u3, u4]
      exact h6 i i' a b (by omega)
  · by_cases z : sl = L ∧ sf = F
    · obtain ⟨rfl, rfl⟩ := z
      exact pk_us
    · rw [pk_un (by omega)]
      exact (h7 sl sf a b).1 (by unfold thru at *; omega)
  · rw [pk_un (by unfold thru at d; omega)]
    exact (h7 sl sf a b).2 (by unfold thru at *; omega)
def N2 (X : Nat → Nat → Int32) (m : Nat) (more tol : Int32) (lst : Prop) (e : Nat) (N : KEY → Int64 → KEY → Prop) (A : KEY → Prop) : KEY → Int64 → KEY → Prop := fun k t g => N k t g ∨ newN X m more tol lst N A e k t g
/-- the keys of what stands so far are those of N2, and no two are the same -/
theorem TI_keys {X : Nat → Nat → Int32} {m : Nat} {more tol : Int32} {lst : Prop} {e n : Nat} {N : KEY → Int64 → KEY → Prop} {A : KEY → Prop} {S : ST} {b39 : Nat → Int32} {L F c : Nat} {a32 a33 a34 a35 a39 : Nat → Int32} {l36 : Nat → Int64} (he : e < 1000) (hR : Rep (S.1 32) (S.1 33) (S.1 34) (S.1 35) (S.2.1 36) n N) (hI : InvN m e N A) (h : TI X m more tol lst e n N A S b39 L F c a32 a33 a34 a35 a39 l36) :
    (∀ i, i < n → keyA a32 a33 a34 i = keyA (S.1 32) (S.1 33) (S.1 34) i) ∧ (∀ i, i < n → a32 i ≠ nI e) ∧ (∀ i, n ≤ i → i < c → a32 i = nI e) ∧ (∀ i j, i < c → j < c → keyA a32 a33 a34 i = keyA a32 a33 a34 j → i = j) ∧ (∀ i, i < c → N2 X m more tol lst e N A (keyA a32 a33 a34 i) (l36 i) (fmK a32 a33 a34 a35 i)) := by
  obtain ⟨h1, h2, h3, h4, h5, h6, h7⟩ := h
  have k1 : ∀ i, i < n → keyA a32 a33 a34 i = keyA (S.1 32) (S.1 33) (S.1 34) i := by
    intro i hi
    obtain ⟨e1, e2, e3, -⟩ := h3 i hi
    unfold keyA
    rw [e1, e2, e3]
  have k2 : ∀ i, i < n → a32 i ≠ nI e := by
    intro i hi z
    have ok := hI.1 _ _ _ ((hR.1 _ _ _).mpr ⟨i, hi, rfl, rfl, rfl⟩)
    rw [(h3 i hi).1] at z
    rcases okK_p ok with y | ⟨j, hj, y⟩
    · have y : S.1 32 i = -1 := y
      rw [y] at z
      have := congrArg Int32.toInt z
      rw [nI_toInt (by omega)] at this
      have : (-1 : Int) = e := this
      omega
    · have y : S.1 32 i = nI j := y
      rw [y] at z
      have := (nI_eq (by omega) (by omega)).mp z
      omega
  have k3 : ∀ i, n ≤ i → i < c → a32 i = nI e := by
    intro i a b
    obtain ⟨sl, sf, j, -, -, -, r, -⟩ := h4 i a b
    exact r
  refine ⟨k1, k2, k3, fun i j hi hj ee => ?_, fun i hi => ?_⟩
  · rcases Nat.lt_or_ge i n with z | z <;> rcases Nat.lt_or_ge j n with y | y
    · rw [k1 i z, k1 j y] at ee
      exact hR.2.1 i j z y ee
    · have := congrArg Prod.fst ee
      exact absurd (this.trans (k3 j y hj)) (k2 i z)
    · have := congrArg Prod.fst ee
      exact absurd (this.symm.trans (k3 i z hi)) (k2 j y)
    · have e1 : a33 i = a33 j := congrArg (fun z : KEY => z.2.1) ee
      have e2 : a34 i = a34 j := congrArg (fun z : KEY => z.2.2) ee
      rcases Nat.lt_trichotomy i j with w | w | w
      · have := h6 i j z w hj
        rw [e1, e2] at this
        omega
      · exact w
      · have := h6 j i y w hi
        rw [e1, e2] at this
        omega
  · rcases Nat.lt_or_ge i n with z | z
    · refine Or.inl ((hR.1 _ _ _).mpr ⟨i, z, k1 i z, (h3 i z).2.2.2.2, ?_⟩)
      unfold fmK
      by_cases w : i = 0
      · rw [if_pos w, if_pos w]
      · rw [if_neg w, if_neg w, (h3 i z).2.2.2.1]
        obtain ⟨j, hj, ej⟩ := hR.2.2.1 i (by omega) z
        have hn := hR.2.2.2.2.1
        rw [ej, nI_clamp (by omega)]
        exact k1 j hj
    · obtain ⟨sl, sf, j, q, r1, r2, r3, r4, r5, r6, r7, r8⟩ := h4 i z hi
      have hn := hR.2.2.2.2.1
      have n0 := hR.2.2.2.1
      refine Or.inr ?_
      unfold fmK
      rw [if_neg (by omega), r6, nI_clamp (by omega), k1 j r7]
      have ek : keyA a32 a33 a34 i = (nI e, nI sl, nI sf) := by unfold keyA; rw [r3, r4, r5]
      rw [ek]
      exact r8
/-- the whole table is through -/
theorem TI_rep {X : Nat → Nat → Int32} {m : Nat} {more tol : Int32} {lst : Prop} {e n : Nat} {N : KEY → Int64 → KEY → Prop} {A : KEY → Prop} {S : ST} {b39 : Nat → Int32} {L F c : Nat} {a32 a33 a34 a35 a39 : Nat → Int32} {l36 : Nat → Int64} (hm : m ≤ 400) (he : e < 1000) (hpl : e < m ∨ e = m + 2) (hR : Rep (S.1 32) (S.1 33) (S.1 34) (S.1 35) (S.2.1 36) n N) (hI : InvN m e N A) (h : TI X m more tol lst e n N A S b39 L F c a32 a33 a34 a35 a39 l36)
    (hall : ∀ sl sf t g, sl ≤ 401 → sf < 4 → newN X m more tol lst N A e (nI e, nI sl, nI sf) t g → thru L F sl sf) : Rep a32 a33 a34 a35 l36 c (N2 X m more tol lst e N A) := by
  obtain ⟨k1, k2, k3, k4, k5⟩ := TI_keys he hR hI h
  obtain ⟨h1, h2, h3, h4, h5, h6, h7⟩ := h
  have n0 := hR.2.2.2.1
  refine ⟨fun k t' g => ⟨?_, ?_⟩, k4, fun i hi hc => ?_, by omega, h2, by rw [k1 0 n0]; exact hR.2.2.2.2.2⟩
  · rintro (z | z)
    · obtain ⟨i, a, b, d, r⟩ := (hR.1 _ _ _).mp z
      have := k5 i (by omega)
      refine ⟨i, by omega, by rw [k1 i a]; exact b, by rw [(h3 i a).2.2.2.2]; exact d, ?_⟩
      rcases this with y | y
      · rw [k1 i a] at y
        have z2 := (hR.1 (keyA (S.1 32) (S.1 33) (S.1 34) i) _ _).mpr ⟨i, a, rfl, rfl, rfl⟩
        exact r.trans (hI.2.2.1 _ _ _ _ _ z2 y).2
      · exact absurd (new_of y).2.1 (k2 i a)
    · obtain ⟨-, -, -, -, -, l, f, ek, l1, l2, f4⟩ := inv_new hm hI hpl z
      subst ek
      obtain ⟨i, q1, q2, q3, q4⟩ := h5 l f t' g l2 f4 (hall l f t' g l2 f4 z) z
      have ek : keyA a32 a33 a34 i = (nI e, nI l, nI f) := by unfold keyA; rw [k3 i q1 q2, q3, q4]
      have := k5 i q2
      rw [ek] at this
      rcases this with y | y
      · have ok := okK_p (hI.1 _ _ _ y)
        rcases ok with w | ⟨j, hj, w⟩
        · have w : nI e = -1 := w
          have := congrArg Int32.toInt w
          rw [nI_toInt (by omega)] at this
          have : (e : Int) = -1 := this
          omega
        · have w : nI e = nI j := w
          have := (nI_eq (by omega) (by omega)).mp w
          omega
      · have := newN_fun hI.2.2.1 z y
        exact ⟨i, q2, ek.symm, this.1, this.2⟩
  · rintro ⟨i, a, rfl, rfl, rfl⟩
    exact k5 i a
  · rcases Nat.lt_or_ge i n with z | z
    · obtain ⟨j, hj, ej⟩ := hR.2.2.1 i hi z
      exact ⟨j, by omega, by rw [(h3 i z).2.2.2.1]; exact ej⟩
    · obtain ⟨sl, sf, j, q, r1, r2, r3, r4, r5, r6, r7, r8⟩ := h4 i z hc
      exact ⟨j, by omega, r6⟩
theorem TI_full {X : Nat → Nat → Int32} {m : Nat} {more tol : Int32} {lst : Prop} {e n : Nat} {N : KEY → Int64 → KEY → Prop} {A : KEY → Prop} {S : ST} {b39 : Nat → Int32} {L F : Nat} {a32 a33 a34 a35 a39 : Nat → Int32} {l36 : Nat → Int64} {tv : Int64} {g : KEY} (he : e < 1000) (hR : Rep (S.1 32) (S.1 33) (S.1 34) (S.1 35) (S.2.1 36) n N) (hI : InvN m e N A) (hL : L ≤ 401) (hF : F < 4) (h : TI X m more tol lst e n N A S b39 L (F + 1) 8001 a32 a33 a34 a35 a39 l36) (hnew : newN X m more tol lst N A e (nI e, nI L, nI F) tv g) : FullN (N2 X m more tol lst e N A) := by
  obtain ⟨k1, k2, k3, k4, k5⟩ := TI_keys he hR hI h
  obtain ⟨h1, h2, h3, h4, h5, h6, h7⟩ := h
  have ne : ∀ i, i < 8001 → keyA a32 a33 a34 i ≠ (nI e, nI L, nI F) := by
    intro i hi ee
    have e0 : a32 i = nI e := congrArg Prod.fst ee
    rcases Nat.lt_or_ge i n with z | z
    · exact k2 i z e0
    · obtain ⟨sl, sf, j, q, r1, r2, r3, r4, r5, -⟩ := h4 i z hi
      have e1 : a33 i = nI L := congrArg (fun z : KEY => z.2.1) ee
      have e2 : a34 i = nI F := congrArg (fun z : KEY => z.2.2) ee
      rw [r4] at e1
      rw [r5] at e2
      have q1 := (nI_eq (by omega) (by omega)).mp e1
      have q2 := (nI_eq (by omega) (by omega)).mp e2
      unfold thru at q
      omega
  refine ⟨fun i => if i < 8001 then keyA a32 a33 a34 i else (nI e, nI L, nI F), fun i hi => ?_, fun i j hi hj ee => ?_⟩
  · by_cases z : i < 8001
    · simp only [if_pos z]
      exact ⟨_, _, k5 i z⟩
    · simp only [if_neg z]
      exact ⟨_, _, Or.inr hnew⟩
  · by_cases z : i < 8001 <;> by_cases y : j < 8001
    · simp only [if_pos z, if_pos y] at ee
      exact k4 i j z y ee
    · simp only [if_pos z, if_neg y] at ee
      exact absurd ee (ne i z)
    · simp only [if_neg z, if_pos y] at ee
      exact absurd ee.symm (ne j y)
    · omega
