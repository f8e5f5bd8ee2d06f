/-! the relation between the class's state and the reference's, and the law's loop over it -/
def sz (x : Int32) : Prop := -1073741823 ≤ x.toInt ∧ x.toInt ≤ 1073741823
def mk (x : Int32) : Prop := x = -1073741824 ∨ sz x
def po (x : Int32) : Prop := 0 ≤ x.toInt ∧ x.toInt ≤ 1073741823
/-- one item: a box or a kern, glue, a penalty, a hyphen -/
def itm (S T : ST) (k : Nat) : Prop :=
  S.1 2 k = T.1 1 k ∧ S.1 10 k = T.1 8 k ∧
  (((S.1 2 k = 0 ∨ S.1 2 k = 2 ∨ S.1 2 k = 3) ∧ S.1 3 k = T.1 2 k ∧ sz (S.1 3 k) ∧ S.1 4 k = 0 ∧ T.1 3 k = 0 ∧ S.1 5 k = 0 ∧ T.1 4 k = 0 ∧ S.1 6 k = 0 ∧ T.1 5 k = 0 ∧ S.1 7 k = 0 ∧ S.1 8 k = -1073741824 ∧ S.1 9 k = -1073741824 ∧ S.1 10 k = 0) ∨
   (S.1 2 k = 1 ∧ S.1 3 k = T.1 2 k ∧ sz (S.1 3 k) ∧ S.1 4 k = T.1 3 k ∧ po (S.1 4 k) ∧ S.1 5 k = T.1 4 k ∧ 0 ≤ (S.1 5 k).toInt ∧ (S.1 5 k).toInt ≤ 3 ∧ S.1 6 k = T.1 5 k ∧ po (S.1 6 k) ∧ S.1 7 k = 0 ∧ S.1 8 k = -1073741824 ∧ S.1 9 k = -1073741824 ∧ S.1 10 k = 0) ∨
   (S.1 2 k = 4 ∧ S.1 3 k = 0 ∧ S.1 4 k = 0 ∧ T.1 3 k = 0 ∧ S.1 5 k = 0 ∧ T.1 4 k = 0 ∧ S.1 6 k = 0 ∧ T.1 5 k = 0 ∧ S.1 7 k = T.1 2 k ∧ -10000 ≤ (S.1 7 k).toInt ∧ (S.1 7 k).toInt ≤ 10000 ∧ S.1 8 k = -1073741824 ∧ S.1 9 k = -1073741824 ∧ S.1 10 k = 0) ∨
   (S.1 2 k = 5 ∧ S.1 3 k = 0 ∧ S.1 4 k = 0 ∧ T.1 3 k = 0 ∧ S.1 5 k = 0 ∧ T.1 4 k = 0 ∧ S.1 6 k = 0 ∧ T.1 5 k = 0 ∧ S.1 7 k = 0 ∧ S.1 8 k = T.1 6 k ∧ T.1 2 k = T.1 6 k ∧ mk (S.1 8 k) ∧ S.1 9 k = T.1 7 k ∧ mk (S.1 9 k) ∧ 0 ≤ (S.1 10 k).toInt ∧ (S.1 10 k).toInt ≤ 10))
/-- replaced items are boxes and kerns -/
def rep (S : ST) (c : Nat) : Prop := ∀ h j : Nat, h < j → j < c → S.1 2 h = 5 → (j : Int) ≤ h + (S.1 10 h).toInt → S.1 2 j = 0 ∨ S.1 2 j = 2 ∨ S.1 2 j = 3
def gl4 (a b c d : Int32) : Prop := sz a ∧ po b ∧ 0 ≤ c.toInt ∧ c.toInt ≤ 3 ∧ po d
def arnd (S T : ST) : Prop :=
  (S.2.2 896 = T.1 11 0 ∧ S.2.2 897 = T.1 12 0 ∧ S.2.2 898 = T.1 13 0 ∧ S.2.2 899 = T.1 14 0 ∧ gl4 (T.1 11 0) (T.1 12 0) (T.1 13 0) (T.1 14 0)) ∧
  (S.2.2 960 = T.1 11 1 ∧ S.2.2 961 = T.1 12 1 ∧ S.2.2 962 = T.1 13 1 ∧ S.2.2 963 = T.1 14 1 ∧ gl4 (T.1 11 1) (T.1 12 1) (T.1 13 1) (T.1 14 1)) ∧
  (S.2.2 1024 = T.1 11 2 ∧ S.2.2 1025 = T.1 12 2 ∧ S.2.2 1026 = T.1 13 2 ∧ S.2.2 1027 = T.1 14 2 ∧ gl4 (T.1 11 2) (T.1 12 2) (T.1 13 2) (T.1 14 2))
def sets (S T : ST) : Prop := (∀ j : Nat, j < 10 → S.1 12 j = T.1 9 j ∧ (tb_least j).toInt ≤ (T.1 9 j).toInt ∧ (T.1 9 j).toInt ≤ (tb_most j).toInt) ∧ (∀ j : Nat, j < 20 → S.1 13 j = T.1 10 j ∧ sz (T.1 10 j))
def outc (S T : ST) : Prop :=
  (S.2.2 2627 = 0 ∧ T.2.2 34 = 0 ∧ S.2.2 2626 = 0 ∧ S.2.2 2628 = 0) ∨
  (S.2.2 2627 = T.2.2 34 ∧ 0 < (T.2.2 34).toInt ∧ S.2.2 2626 = T.2.2 36 ∧ S.2.2 2628 = T.2.2 35 ∧ ∃ n : Nat, n ≤ 401 ∧ T.2.2 36 = nI n ∧ ∀ i : Nat, i < n → S.1 43 i = T.1 22 i ∧ S.1 44 i = T.1 23 i ∧ S.1 45 i = T.1 24 i ∧ S.1 46 i = T.1 25 i ∧ S.1 47 i = T.1 26 i ∧ S.2.1 48 i = T.2.1 27 i)
def Rel (S T : ST) : Prop := ∃ c : Nat, c ≤ 400 ∧ S.2.2 73 = nI c ∧ T.2.2 1 = nI c ∧ (∀ k : Nat, k < c → itm S T k) ∧ rep S c ∧ arnd S T ∧ sets S T ∧ outc S T
/-- a case of the law that keeps the relation -/
def stepok (f : Nat → (Nat → Int32) → (ST → ST → Int32 → Prop) → ST → ST → Int32 → Prop) : Prop :=
  ∀ (L : Nat) (xs : Nat → Int32) (Kh : ST → ST → Int32 → Prop) (S T : ST) (i : Nat), i + 6 ≤ L → L ≤ 3072 → Rel S T → (∀ S' T' : ST, Rel S' T' → Kh S' T' (nI (i + 6))) → f L xs Kh S T (nI i)
theorem rel_0 : Rel s0C s0M := by
  refine ⟨0, by omega, rfl, rfl, fun k h => absurd h (Nat.not_lt_zero k), fun h j _ hj => absurd hj (Nat.not_lt_zero j), ?_, ?_, ?_⟩
  · refine ⟨⟨rfl, rfl, rfl, rfl, ?_⟩, ⟨rfl, rfl, rfl, rfl, ?_⟩, ⟨rfl, rfl, rfl, rfl, ?_⟩⟩ <;> unfold gl4 sz po <;> decide +kernel
  · refine ⟨fun j hj => ?_, fun j hj => ⟨rfl, ?_⟩⟩
    · have h : ∀ j, j < 10 → s0C.1 12 j = s0M.1 9 j ∧ (tb_least j).toInt ≤ (s0M.1 9 j).toInt ∧ (s0M.1 9 j).toInt ≤ (tb_most j).toInt := by decide +kernel
      exact h j hj
    · unfold sz
      have h : ∀ j, j < 20 → -1073741823 ≤ (s0M.1 10 j).toInt ∧ (s0M.1 10 j).toInt ≤ 1073741823 := by decide +kernel
      exact h j hj
  · exact Or.inl ⟨rfl, rfl, rfl, rfl⟩
theorem law_ind (h0 : stepok wl_law_116) (h1 : stepok wl_law_172) (h2 : stepok wl_law_264) (h3 : stepok wl_law_348) (h4 : stepok wl_law_404) (h5 : stepok wl_law_484) (h6 : stepok wl_law_509) (h7 : stepok wl_law_522) (h8 : stepok wl_law_570) (h9 : stepok wl_law_618) (h10 : stepok wl_law_702) (h11 : stepok wl_law_746) (h12 : stepok wl_law_759) (h13 : stepok wl_law_772) (h14 : stepok wl_law_840)
    {L : Nat} (hL : L ≤ 3072) (xs : Nat → Int32) : ∀ (n i : Nat) (S T : ST), Rel S T → i ≤ L → L < i + 6 * n → wl_law L xs n S T (nI i) := by
  intro n
  induction n with
  | zero => intro i S T _ hi h; exact absurd h (by omega)
  | succ n ih =>
    intro i S T hR hi h
    unfold wl_law
    have e1 : (Int32.ofNat L - 6).toInt = (L : Int) - 6 := by
      have := nI_toInt (n := L) (by omega)
      have e : (Int32.ofNat L).toInt = (L : Int) := this
      rw [i_sub (by rw [e]; show -2147483648 ≤ (L : Int) - 6; omega) (by rw [e]; show (L : Int) - 6 ≤ _; omega), e]
      rfl
    have e2 : (nI i).toInt = (i : Int) := nI_toInt (by omega)
    refine ⟨fun _ => trivial, fun hc => ?_⟩
    rw [i_lt, e1, e2] at hc
    have hi6 : i + 6 ≤ L := by omega
    refine ⟨vp_in_nI (by omega) (by omega), fun v1 _ => ?_⟩
    have hk : ∀ S' T' : ST, Rel S' T' → wl_law L xs n S' T' (nI (i + 6)) := fun S' T' hR' => ih (i + 6) S' T' hR' (by omega) (by omega)
    refine ⟨fun _ => h0 L xs _ S T i hi6 hL hR hk, fun _ => h1 L xs _ S T i hi6 hL hR hk, fun _ => h2 L xs _ S T i hi6 hL hR hk, fun _ => h3 L xs _ S T i hi6 hL hR hk, fun _ => h4 L xs _ S T i hi6 hL hR hk, fun _ => h5 L xs _ S T i hi6 hL hR hk, fun _ => h6 L xs _ S T i hi6 hL hR hk, fun _ => h7 L xs _ S T i hi6 hL hR hk, fun _ => h8 L xs _ S T i hi6 hL hR hk, fun _ => h9 L xs _ S T i hi6 hL hR hk, fun _ => h10 L xs _ S T i hi6 hL hR hk, fun _ => h11 L xs _ S T i hi6 hL hR hk, fun _ => h12 L xs _ S T i hi6 hL hR hk, fun _ => h13 L xs _ S T i hi6 hL hR hk, fun _ => h14 L xs _ S T i hi6 hL hR hk, fun _ _ _ _ _ _ _ _ _ _ _ _ _ _ _ => ?_⟩
    intro v2 e9
    rw [e9, show (6 : Int32) = nI 6 from rfl, nI_add]
    exact hk S T hR
