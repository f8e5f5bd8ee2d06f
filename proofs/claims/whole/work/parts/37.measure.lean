/-! a line's measures -/
def rg (f : Nat → Int) (a e : Nat) : Int := if a < e then psum f e - psum f a else 0
def bhI (X : Nat → Nat → Int32) (a : Int32) : Int := if a < 0 then 0 else (bhdX X a.toNatClampNeg).toInt
def W1 (X : Nat → Nat → Int32) (m : Nat) (a : Int32) (e : Nat) : Int := (X 11 0).toInt + (X 11 1).toInt + bhI X a + (befX X e).toInt + rg (fun k => (iwX X k).toInt) (fsX X (m + 2) a) e
def F1 (X : Nat → Nat → Int32) (m : Nat) (more : Int32) (a : Int32) (e : Nat) : Int := (if X 13 0 = 0 then (X 12 0).toInt else 0) + (if X 13 1 = 0 then (X 12 1).toInt else 0) + more.toInt + rg (fun k => (ifX X k).toInt) (fsX X (m + 2) a) e
def E1 (X : Nat → Nat → Int32) (m : Nat) (a : Int32) (e : Nat) : Int := (if X 13 0 = 0 then 0 else (X 12 0).toInt) + (if X 13 1 = 0 then 0 else (X 12 1).toInt) + rg (fun k => (ieX X k).toInt) (fsX X (m + 2) a) e
def H1 (X : Nat → Nat → Int32) (m : Nat) (a : Int32) (e : Nat) : Int := (X 14 0).toInt + (X 14 1).toInt + rg (fun k => (isX X k).toInt) (fsX X (m + 2) a) e
/-- a place before e, or the beginning -/
def befo (a : Int32) (e : Nat) : Prop := a = -1 ∨ ∃ j : Nat, j < e ∧ a = nI j
theorem psum_mono {f : Nat → Int} {n : Nat} (h : ∀ k, k < n → 0 ≤ f k) : ∀ b a, a ≤ b → b ≤ n → psum f a ≤ psum f b := by
  intro b
  induction b with
  | zero => intro a ha _; rw [show a = 0 by omega]; omega
  | succ b ih =>
    intro a ha hb
    by_cases z : a = b + 1
    · subst z; omega
    · have h1 := ih a (by omega) (by omega)
      have h2 := h b (by omega)
      show psum f a ≤ psum f b + f b
      omega
theorem psum_two {f g : Nat → Int} {n : Nat} (h : ∀ k, k < n → -f k ≤ g k ∧ g k ≤ f k) : ∀ b a, a ≤ b → b ≤ n → psum f a - psum f b ≤ psum g b - psum g a ∧ psum g b - psum g a ≤ psum f b - psum f a := by
  intro b
  induction b with
  | zero => intro a ha _; rw [show a = 0 by omega]; omega
  | succ b ih =>
    intro a ha hb
    by_cases z : a = b + 1
    · subst z; omega
    · have h1 := ih a (by omega) (by omega)
      have h2 := h b (by omega)
      show psum f a - (psum f b + f b) ≤ psum g b + g b - psum g a ∧ psum g b + g b - psum g a ≤ psum f b + f b - psum f a
      omega
theorem wo_ge {x : Int32} (h : mk x) : -wo x ≤ (hyw x).toInt ∧ (hyw x).toInt ≤ wo x := by
  unfold hyw wo
  by_cases e : x = -1073741824
  · rw [if_pos e, if_pos e]; decide
  · rw [if_neg e, if_neg e]
    by_cases z : 0 ≤ x.toInt
    · rw [if_pos z]; omega
    · rw [if_neg z]; omega
theorem wo_sz {x : Int32} (h : sz x) : -wo x ≤ x.toInt ∧ x.toInt ≤ wo x := by
  have := wo_ge (Or.inr h)
  unfold hyw at this
  rw [if_neg (sz_nn h)] at this
  exact this
/-- what an item adds at most -/
theorem aw_item {X : Nat → Nat → Int32} {k : Nat} (h : itX X k) : 0 ≤ awX X k ∧ (-awX X k ≤ (iwX X k).toInt ∧ (iwX X k).toInt ≤ awX X k) ∧ (-awX X k ≤ (bhdX X k).toInt ∧ (bhdX X k).toInt ≤ awX X k) ∧ (-awX X k ≤ (befX X k).toInt ∧ (befX X k).toInt ≤ awX X k) := by
  have l0 : (0 : Int32).toInt = 0 := rfl
  unfold itX at h
  unfold awX iwX bhdX befX
  rcases h with ⟨a, b, -⟩ | ⟨a, b, -⟩ | ⟨a, -⟩ | ⟨a, -, -, -, b, c, -⟩
  · have n4 : ¬ X 1 k = 4 := by intro z; rw [z] at a; exact absurd a (by decide)
    have n5 : ¬ X 1 k = 5 := by intro z; rw [z] at a; exact absurd a (by decide)
    have w1 := wo_bd (Or.inr b)
    have w2 := wo_sz b
    rw [if_neg n4, if_neg n5, if_neg (by rintro (z | z) <;> contradiction), if_neg n5, if_neg n5, l0]
    omega
  · have n4 : ¬ X 1 k = 4 := by rw [a]; decide
    have n5 : ¬ X 1 k = 5 := by rw [a]; decide
    have w1 := wo_bd (Or.inr b)
    have w2 := wo_sz b
    rw [if_neg n4, if_neg n5, if_neg (by rintro (z | z) <;> contradiction), if_neg n5, if_neg n5, l0]
    omega
  · have n5 : ¬ X 1 k = 5 := by rw [a]; decide
    rw [if_pos a, if_pos (Or.inl a), if_neg n5, if_neg n5, l0]
    omega
  · have n4 : ¬ X 1 k = 4 := by rw [a]; decide
    have w1 := wo_bd b
    have w2 := wo_bd c
    have w3 := wo_ge b
    have w4 := wo_ge c
    rw [if_neg n4, if_pos a, if_pos (Or.inr a), if_pos a, if_pos a, l0]
    omega
theorem st_item {X : Nat → Nat → Int32} {k : Nat} (h : itX X k) : po (X 3 k) ∧ po (X 5 k) ∧ (0 ≤ (ifX X k).toInt ∧ (ifX X k).toInt ≤ (X 3 k).toInt) ∧ (0 ≤ (ieX X k).toInt ∧ (ieX X k).toInt ≤ (X 3 k).toInt) ∧ isX X k = X 5 k := by
  have l0 : (0 : Int32).toInt = 0 := rfl
  have p0 : po 0 := by unfold po; decide
  unfold itX at h
  unfold ifX ieX isX
  rcases h with ⟨a, b, c, d, e⟩ | ⟨a, b, c, d, d2, e⟩ | ⟨a, c, d, e, -⟩ | ⟨a, c, d, e, -⟩
  · have n1 : ¬ X 1 k = 1 := by intro z; rw [z] at a; exact absurd a (by decide)
    rw [if_neg (fun z => n1 z.1), if_neg (fun z => n1 z.1), if_neg n1, c, e, l0]
    exact ⟨p0, p0, by omega, by omega, rfl⟩
  · unfold po at *
    rw [if_pos a]
    by_cases z : X 4 k = 0
    · rw [if_pos ⟨a, z⟩, if_neg (fun y => y.2 z), l0]
      exact ⟨c, e, by omega, by omega, rfl⟩
    · rw [if_neg (fun y => z y.2), if_pos ⟨a, z⟩, l0]
      exact ⟨c, e, by omega, by omega, rfl⟩
  · have n1 : ¬ X 1 k = 1 := by rw [a]; decide
    rw [if_neg (fun z => n1 z.1), if_neg (fun z => n1 z.1), if_neg n1, c, e, l0]
    exact ⟨p0, p0, by omega, by omega, rfl⟩
  · have n1 : ¬ X 1 k = 1 := by rw [a]; decide
    rw [if_neg (fun z => n1 z.1), if_neg (fun z => n1 z.1), if_neg n1, c, e, l0]
    exact ⟨p0, p0, by omega, by omega, rfl⟩
theorem fsN_bd {X : Nat → Nat → Int32} {m k : Nat} (hG : Gd X m) (hk : k < m + 3) : k ≤ fsN X (m + 2) k ∧ fsN X (m + 2) k ≤ m + 3 ∧ (X 1 k = 5 → k + 1 ≤ fsN X (m + 2) k) := by
  obtain ⟨hm, hI, hR, -⟩ := hG
  unfold fsN
  by_cases z : X 1 k = 5
  · have bb := rp_bd (hI k hk) z
    have rr := (hR k hk z).1
    rw [if_pos z]
    have nb := nk_le (X := X) (n := m + 2) (k := k + 1 + rpN X k) (by omega)
    by_cases y : X 7 k = -1073741824
    · rw [if_pos y]; omega
    · rw [if_neg y]; omega
  · rw [if_neg z]
    have nb := nk_le (X := X) (n := m + 2) (k := k) (by omega)
    exact ⟨by omega, by omega, fun y => absurd y z⟩
theorem befo_cases {a : Int32} {e : Nat} (he : e < 1000) (h : befo a e) : (a = -1 ∧ a < 0) ∨ ∃ j : Nat, j < e ∧ a = nI j ∧ ¬ a < 0 ∧ a.toNatClampNeg = j := by
  rcases h with h | ⟨j, hj, h⟩
  · exact Or.inl ⟨h, by rw [h]; decide⟩
  · refine Or.inr ⟨j, hj, h, ?_, by rw [h]; exact nI_clamp (by omega)⟩
    rw [h, i_lt, nI_toInt (by omega)]
    show ¬ (j : Int) < 0
    omega
theorem meas_bd {X : Nat → Nat → Int32} {m e : Nat} {a more : Int32} (hG : Gd X m) (he : e < m + 3) (ha : befo a e) (hm0 : 0 ≤ more.toInt) (hm1 : more.toInt ≤ (X 9 8).toInt) : szI (W1 X m a e) ∧ poI (F1 X m more a e) ∧ poI (E1 X m a e) ∧ poI (H1 X m a e) ∧ fsX X (m + 2) a ≤ m + 3 := by
  have hG' := hG
  obtain ⟨hm, hI, hR, ⟨s1, s2, s3⟩, ⟨-, -, g1, g2⟩, -⟩ := hG'
  unfold gl4 po at g1 g2
  have w1 := wo_sz g1.1
  have w2 := wo_sz g2.1
  have nn : ∀ k, k < m + 3 → 0 ≤ awX X k := fun k hk => (aw_item (hI k hk)).1
  have ae := aw_item (hI e he)
  have mono := psum_mono nn
  have m3 : psum (awX X) (e + 1) ≤ psum (awX X) (m + 3) := mono (m + 3) (e + 1) (by omega) (by omega)
  have m3' : psum (awX X) (e + 1) = psum (awX X) e + awX X e := rfl
  have nnS : ∀ k, k < m + 3 → 0 ≤ (X 3 k).toInt := fun k hk => (st_item (hI k hk)).1.1
  have nnH : ∀ k, k < m + 3 → 0 ≤ (X 5 k).toInt := fun k hk => (st_item (hI k hk)).2.1.1
  have mS : psum (fun k => (X 3 k).toInt) e ≤ psum (fun k => (X 3 k).toInt) (m + 3) := psum_mono nnS (m + 3) e (by omega) (by omega)
  have mH : psum (fun k => (X 5 k).toInt) e ≤ psum (fun k => (X 5 k).toInt) (m + 3) := psum_mono nnH (m + 3) e (by omega) (by omega)
  have zS : 0 ≤ psum (fun k => (X 3 k).toInt) e := psum_mono nnS e 0 (by omega) (by omega)
  have zH : 0 ≤ psum (fun k => (X 5 k).toInt) e := psum_mono nnH e 0 (by omega) (by omega)
  have zW : 0 ≤ psum (awX X) e := mono e 0 (by omega) (by omega)
  -- the first one of the line
  have hs : ∃ s, fsX X (m + 2) a = s ∧ s ≤ m + 3 ∧ (-psum (awX X) s ≤ bhI X a ∧ bhI X a ≤ psum (awX X) s) ∧ (-psum (awX X) e ≤ bhI X a ∧ bhI X a ≤ psum (awX X) e) := by
    refine ⟨_, rfl, ?_⟩
    rcases befo_cases (by omega) ha with ⟨-, z⟩ | ⟨j, hj, -, z, ej⟩
    · unfold fsX bhI
      rw [if_pos z, if_pos z]
      have : psum (awX X) 0 = 0 := rfl
      omega
    · unfold fsX bhI
      rw [if_neg z, if_neg z, ej]
      have fb := fsN_bd hG (k := j) (by omega)
      have aj := aw_item (hI j (by omega))
      refine ⟨fb.2.1, ?_⟩
      by_cases y : X 1 j = 5
      · have q1 := mono (fsN X (m + 2) j) (j + 1) (fb.2.2 y) fb.2.1
        have q2 := mono e (j + 1) (by omega) (by omega)
        have q3 := mono j 0 (by omega) (by omega)
        have q4 : psum (awX X) 0 = 0 := rfl
        have q5 : psum (awX X) (j + 1) = psum (awX X) j + awX X j := rfl
        omega
      · have : bhdX X j = 0 := by unfold bhdX; rw [if_neg y]
        rw [this, show (0 : Int32).toInt = 0 from rfl]
        have q1 := mono (fsN X (m + 2) j) 0 (by omega) fb.2.1
        have q4 : psum (awX X) 0 = 0 := rfl
        omega
  obtain ⟨s, es, hs3, hb1, hb2⟩ := hs
  unfold W1 F1 E1 H1
  rw [es]
  unfold rg szI poI
  have q4 : psum (awX X) 0 = 0 := rfl
  have q5 : psum (fun k => (X 3 k).toInt) 0 = 0 := rfl
  have q6 : psum (fun k => (X 5 k).toInt) 0 = 0 := rfl
  have f0 : 0 ≤ (if X 13 0 = 0 then (X 12 0).toInt else 0) ∧ (if X 13 0 = 0 then (X 12 0).toInt else 0) ≤ (X 12 0).toInt := by split <;> omega
  have f1 : 0 ≤ (if X 13 1 = 0 then (X 12 1).toInt else 0) ∧ (if X 13 1 = 0 then (X 12 1).toInt else 0) ≤ (X 12 1).toInt := by split <;> omega
  have f2 : 0 ≤ (if X 13 0 = 0 then 0 else (X 12 0).toInt) ∧ (if X 13 0 = 0 then 0 else (X 12 0).toInt) ≤ (X 12 0).toInt := by split <;> omega
  have f3 : 0 ≤ (if X 13 1 = 0 then 0 else (X 12 1).toInt) ∧ (if X 13 1 = 0 then 0 else (X 12 1).toInt) ≤ (X 12 1).toInt := by split <;> omega
  by_cases lt : s < e
  · rw [if_pos lt, if_pos lt, if_pos lt, if_pos lt]
    have t1 := psum_two (f := awX X) (g := fun k => (iwX X k).toInt) (n := m + 3) (fun k hk => (aw_item (hI k hk)).2.1) e s (by omega) (by omega)
    have t2 := psum_two (f := fun k => (X 3 k).toInt) (g := fun k => (ifX X k).toInt) (n := m + 3) (fun k hk => by have := (st_item (hI k hk)).2.2.1; exact ⟨by omega, this.2⟩) e s (by omega) (by omega)
    have t3 := psum_two (f := fun k => (X 3 k).toInt) (g := fun k => (ieX X k).toInt) (n := m + 3) (fun k hk => by have := (st_item (hI k hk)).2.2.2.1; exact ⟨by omega, this.2⟩) e s (by omega) (by omega)
    have t4 := psum_two (f := fun k => (X 5 k).toInt) (g := fun k => (isX X k).toInt) (n := m + 3) (fun k hk => by have := st_item (hI k hk); have h2 := this.2.1.1; rw [this.2.2.2.2]; omega) e s (by omega) (by omega)
    have u2 := psum_mono (f := fun k => (ifX X k).toInt) (n := m + 3) (fun k hk => (st_item (hI k hk)).2.2.1.1) e s (by omega) (by omega)
    have u3 := psum_mono (f := fun k => (ieX X k).toInt) (n := m + 3) (fun k hk => (st_item (hI k hk)).2.2.2.1.1) e s (by omega) (by omega)
    have u4 := psum_mono (f := fun k => (isX X k).toInt) (n := m + 3) (fun k hk => by have := st_item (hI k hk); rw [this.2.2.2.2]; exact this.2.1.1) e s (by omega) (by omega)
    have v1 := psum_mono nnS s 0 (by omega) (by omega)
    have v2 := psum_mono nnH s 0 (by omega) (by omega)
    refine ⟨by omega, by omega, by omega, by omega, by omega⟩
  · rw [if_neg lt, if_neg lt, if_neg lt, if_neg lt]
    refine ⟨by omega, by omega, by omega, by omega, by omega⟩
