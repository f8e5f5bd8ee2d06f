/-! the paragraph as it is broken, as the reference has it: X 1 .. X 14 its arrays, m the body's length, m + 2 the last one -/
def fineX (X : Nat → Nat → Int32) (k : Nat) : Int32 := if X 1 k = 4 then X 2 k else if X 1 k = 5 then (if X 6 k = -1073741824 then X 9 4 else X 9 3) else 0
def hyw (x : Int32) : Int32 := if x = -1073741824 then 0 else x
def befX (X : Nat → Nat → Int32) (k : Nat) : Int32 := if X 1 k = 5 then hyw (X 6 k) else 0
def bhdX (X : Nat → Nat → Int32) (k : Nat) : Int32 := if X 1 k = 5 then hyw (X 7 k) else 0
def drp (X : Nat → Nat → Int32) (k : Nat) : Prop := X 1 k = 1 ∨ X 1 k = 3 ∨ X 1 k = 4
def nkd (X : Nat → Nat → Int32) (n : Nat) : Nat → Nat
  | 0 => n + 1
  | d + 1 => if X 1 (n - d) = 1 ∨ X 1 (n - d) = 3 ∨ X 1 (n - d) = 4 then nkd X n d else n - d
/-- the first from k on that isn't left out -/
def nk (X : Nat → Nat → Int32) (n k : Nat) : Nat := nkd X n (n + 1 - k)
theorem nk_end {X : Nat → Nat → Int32} {n : Nat} : nk X n (n + 1) = n + 1 := by
  unfold nk
  rw [Nat.sub_self]
  rfl
theorem nk_drp {X : Nat → Nat → Int32} {n k : Nat} (hk : k ≤ n) (h : drp X k) : nk X n k = nk X n (k + 1) := by
  unfold nk drp at *
  rw [show n + 1 - k = (n - k) + 1 by omega, show n + 1 - (k + 1) = n - k by omega]
  show (if _ then _ else _) = _
  rw [show n - (n - k) = k by omega, if_pos h]
theorem nk_not {X : Nat → Nat → Int32} {n k : Nat} (hk : k ≤ n) (h : ¬ drp X k) : nk X n k = k := by
  unfold nk drp at *
  rw [show n + 1 - k = (n - k) + 1 by omega]
  show (if _ then _ else _) = _
  rw [show n - (n - k) = k by omega, if_neg h]
theorem nk_bd {X : Nat → Nat → Int32} {n : Nat} : ∀ d, d ≤ n + 1 → n + 1 - d ≤ nkd X n d ∧ nkd X n d ≤ n + 1 := by
  intro d
  induction d with
  | zero => intro _; exact ⟨by show n + 1 - 0 ≤ n + 1; omega, by show n + 1 ≤ n + 1; omega⟩
  | succ d ih =>
    intro hd
    have := ih (by omega)
    rw [nkd]
    by_cases z : X 1 (n - d) = 1 ∨ X 1 (n - d) = 3 ∨ X 1 (n - d) = 4
    · rw [if_pos z]
      omega
    · rw [if_neg z]
      omega
theorem nk_le {X : Nat → Nat → Int32} {n k : Nat} (hk : k ≤ n + 1) : k ≤ nk X n k ∧ nk X n k ≤ n + 1 := by
  have := nk_bd (X := X) (n := n) (n + 1 - k) (by omega)
  unfold nk
  omega
def rpN (X : Nat → Nat → Int32) (k : Nat) : Nat := (X 8 k).toInt.toNat
def fsN (X : Nat → Nat → Int32) (n k : Nat) : Nat := if X 1 k = 5 then (if X 7 k = -1073741824 then nk X n (k + 1 + rpN X k) else k + 1 + rpN X k) else nk X n k
def fsX (X : Nat → Nat → Int32) (n : Nat) (a : Int32) : Nat := if a < 0 then 0 else fsN X n a.toNatClampNeg
def plX (X : Nat → Nat → Int32) (m k : Nat) : Prop :=
  fineX X k ≠ 10000 ∧ ((X 1 k = 1 ∧ 0 < k ∧ (X 1 (k - 1) = 0 ∨ X 1 (k - 1) = 2 ∨ X 1 (k - 1) = 5 ∨ ∃ h, cov (X 1) (X 8) (k - 1) h)) ∨
    (X 1 k = 3 ∧ (∀ h, ¬ cov (X 1) (X 8) k h) ∧ k < m + 2 ∧ X 1 (k + 1) = 1) ∨ X 1 k = 4 ∨ X 1 k = 5)
def iwX (X : Nat → Nat → Int32) (k : Nat) : Int32 := if X 1 k = 4 ∨ X 1 k = 5 then 0 else X 2 k
def ifX (X : Nat → Nat → Int32) (k : Nat) : Int32 := if X 1 k = 1 ∧ X 4 k = 0 then X 3 k else 0
def ieX (X : Nat → Nat → Int32) (k : Nat) : Int32 := if X 1 k = 1 ∧ ¬ X 4 k = 0 then X 3 k else 0
def isX (X : Nat → Nat → Int32) (k : Nat) : Int32 := if X 1 k = 1 then X 5 k else 0
/-- an item by itself -/
def itX (X : Nat → Nat → Int32) (k : Nat) : Prop :=
  ((X 1 k = 0 ∨ X 1 k = 2 ∨ X 1 k = 3) ∧ sz (X 2 k) ∧ X 3 k = 0 ∧ X 4 k = 0 ∧ X 5 k = 0) ∨
  (X 1 k = 1 ∧ sz (X 2 k) ∧ po (X 3 k) ∧ 0 ≤ (X 4 k).toInt ∧ (X 4 k).toInt ≤ 3 ∧ po (X 5 k)) ∨
  (X 1 k = 4 ∧ X 3 k = 0 ∧ X 4 k = 0 ∧ X 5 k = 0 ∧ -10000 ≤ (X 2 k).toInt ∧ (X 2 k).toInt ≤ 10000) ∨
  (X 1 k = 5 ∧ X 3 k = 0 ∧ X 4 k = 0 ∧ X 5 k = 0 ∧ mk (X 6 k) ∧ mk (X 7 k) ∧ 0 ≤ (X 8 k).toInt ∧ (X 8 k).toInt ≤ 10)
def rpX (X : Nat → Nat → Int32) (m : Nat) : Prop := ∀ h, h < m + 3 → X 1 h = 5 → (h : Int) + (X 8 h).toInt < m ∧ ∀ j : Nat, h < j → (j : Int) ≤ h + (X 8 h).toInt → X 1 j = 0 ∨ X 1 j = 2 ∨ X 1 j = 3
def awX (X : Nat → Nat → Int32) (k : Nat) : Int := if X 1 k = 4 then 0 else if X 1 k = 5 then wo (X 6 k) + wo (X 7 k) else wo (X 2 k)
def sumX (X : Nat → Nat → Int32) (m : Nat) : Prop :=
  psum (awX X) (m + 3) + (wo (X 11 0) + wo (X 11 1)) ≤ 1073741823 ∧
  psum (fun k => (X 3 k).toInt) (m + 3) + ((X 12 0).toInt + (X 12 1).toInt) + (X 9 8).toInt ≤ 1073741823 ∧
  psum (fun k => (X 5 k).toInt) (m + 3) + ((X 14 0).toInt + (X 14 1).toInt) ≤ 1073741823
def setX (X : Nat → Nat → Int32) : Prop := (∀ j : Nat, j < 10 → (tb_least j).toInt ≤ (X 9 j).toInt ∧ (X 9 j).toInt ≤ (tb_most j).toInt) ∧ (∀ j : Nat, j < 20 → sz (X 10 j)) ∧
  gl4 (X 11 0) (X 12 0) (X 13 0) (X 14 0) ∧ gl4 (X 11 1) (X 12 1) (X 13 1) (X 14 1)
def endX (X : Nat → Nat → Int32) (m : Nat) : Prop := X 1 m = 4 ∧ X 2 m = 10000 ∧ X 1 (m + 1) = 1 ∧ X 1 (m + 2) = 4 ∧ X 2 (m + 2) = -10000
def Gd (X : Nat → Nat → Int32) (m : Nat) : Prop := m ≤ 400 ∧ (∀ k, k < m + 3 → itX X k) ∧ rpX X m ∧ sumX X m ∧ setX X ∧ endX X m
/-- the reference's arrays with the closing items -/
def cl3 (f : Nat → Int32) (m : Nat) (a b c : Int32) : Nat → Int32 := upd (upd (upd f m a) (m + 1) b) (m + 2) c
def cloX (T : ST) (m : Nat) : Nat → Nat → Int32
  | 1 => cl3 (T.1 1) m 4 1 4
  | 2 => cl3 (T.1 2) m 10000 (T.1 11 2) (-10000)
  | 3 => cl3 (T.1 3) m 0 (T.1 12 2) 0
  | 4 => cl3 (T.1 4) m 0 (T.1 13 2) 0
  | 5 => cl3 (T.1 5) m 0 (T.1 14 2) 0
  | 6 => cl3 (T.1 6) m 10000 (T.1 11 2) (-10000)
  | 7 => cl3 (T.1 7) m 0 0 0
  | 8 => cl3 (T.1 8) m 0 0 0
  | j => T.1 j
theorem cl3_lt {f : Nat → Int32} {m k : Nat} {a b c : Int32} (h : k < m) : cl3 f m a b c k = f k := by
  unfold cl3
  rw [pk_un (by omega), pk_un (by omega), pk_un (by omega)]
theorem cl3_0 {f : Nat → Int32} {m : Nat} {a b c : Int32} : cl3 f m a b c m = a := by
  unfold cl3
  rw [pk_un (by omega), pk_un (by omega), pk_us]
theorem cl3_1 {f : Nat → Int32} {m : Nat} {a b c : Int32} : cl3 f m a b c (m + 1) = b := by
  unfold cl3
  rw [pk_un (by omega), pk_us]
theorem cl3_2 {f : Nat → Int32} {m : Nat} {a b c : Int32} : cl3 f m a b c (m + 2) = c := by
  unfold cl3
  rw [pk_us]
def mB (f : Nat → Int32) (c : Nat) : Nat := if 0 < c ∧ f (c - 1) = 1 then c - 1 else c
theorem mB_le {f : Nat → Int32} {c : Nat} : mB f c ≤ c ∧ c ≤ mB f c + 1 := by
  unfold mB
  split <;> omega
theorem clo_1 (T : ST) (m : Nat) : cloX T m 1 = cl3 (T.1 1) m 4 1 4 := rfl
theorem clo_2 (T : ST) (m : Nat) : cloX T m 2 = cl3 (T.1 2) m 10000 (T.1 11 2) (-10000) := rfl
theorem clo_3 (T : ST) (m : Nat) : cloX T m 3 = cl3 (T.1 3) m 0 (T.1 12 2) 0 := rfl
theorem clo_4 (T : ST) (m : Nat) : cloX T m 4 = cl3 (T.1 4) m 0 (T.1 13 2) 0 := rfl
theorem clo_5 (T : ST) (m : Nat) : cloX T m 5 = cl3 (T.1 5) m 0 (T.1 14 2) 0 := rfl
theorem clo_6 (T : ST) (m : Nat) : cloX T m 6 = cl3 (T.1 6) m 10000 (T.1 11 2) (-10000) := rfl
theorem clo_7 (T : ST) (m : Nat) : cloX T m 7 = cl3 (T.1 7) m 0 0 0 := rfl
theorem clo_8 (T : ST) (m : Nat) : cloX T m 8 = cl3 (T.1 8) m 0 0 0 := rfl
theorem clo_9 (T : ST) (m : Nat) : cloX T m 9 = T.1 9 := rfl
theorem clo_10 (T : ST) (m : Nat) : cloX T m 10 = T.1 10 := rfl
theorem clo_11 (T : ST) (m : Nat) : cloX T m 11 = T.1 11 := rfl
theorem clo_12 (T : ST) (m : Nat) : cloX T m 12 = T.1 12 := rfl
theorem clo_13 (T : ST) (m : Nat) : cloX T m 13 = T.1 13 := rfl
theorem clo_14 (T : ST) (m : Nat) : cloX T m 14 = T.1 14 := rfl
theorem itm_X {S T : ST} {m k : Nat} (hk : k < m) (h : itm S T k) : itX (cloX T m) k := by
  unfold itX
  simp only [clo_1, clo_2, clo_3, clo_4, clo_5, clo_6, clo_7, clo_8, cl3_lt hk]
  unfold itm at h
  obtain ⟨e1, e2, h⟩ := h
  rw [e1] at h
  rcases h with ⟨a, b, c1, d, e, f, g, p, q, r, s, t, u⟩ | ⟨a, b, c1, d, e, f, g, g2, p, q, r, s, t, u⟩ | ⟨a, b, c1, d, e, f, g, p, q, r, r2, s, t, u⟩ | ⟨a, b, c1, d, e, f, g, p, q, r, s, t, u, v, w, x⟩
  · exact Or.inl ⟨a, b ▸ c1, e, g, q⟩
  · exact Or.inr (Or.inl ⟨a, b ▸ c1, d ▸ e, by rw [← f]; exact g, by rw [← f]; exact g2, p ▸ q⟩)
  · exact Or.inr (Or.inr (Or.inl ⟨a, d, f, p, by rw [← q]; exact r, by rw [← q]; exact r2⟩))
  · exact Or.inr (Or.inr (Or.inr ⟨a, d, f, p, r ▸ t, u ▸ v, by rw [← e2]; exact w, by rw [← e2]; exact x⟩))
theorem psum_cg {f g : Nat → Int} : ∀ k, (∀ j, j < k → f j = g j) → psum f k = psum g k := by
  intro k
  induction k with
  | zero => intro _; rfl
  | succ k ih =>
    intro h
    show psum f k + f k = psum g k + g k
    rw [ih (fun j hj => h j (by omega)), h k (by omega)]
theorem Gd_of {S T : ST} {c : Nat} (hc : c ≤ 400) (h1 : ∀ k, k < c → itm S T k) (h2 : rep S c) (h3 : arnd S T) (h4 : sets S T) (hf : fitOK T c) (hn : ∀ h, ¬ cov (S.1 2) (S.1 10) c h) : Gd (cloX T (mB (T.1 1) c)) (mB (T.1 1) c) := by
  have hm := mB_le (f := T.1 1) (c := c)
  have hx : c = mB (T.1 1) c + 1 → T.1 1 (mB (T.1 1) c) = 1 := by
    intro e
    unfold mB at e ⊢
    by_cases z : 0 < c ∧ T.1 1 (c - 1) = 1
    · rw [if_pos z]; exact z.2
    · rw [if_neg z] at e; omega
  generalize mB (T.1 1) c = m at *
  have p0 : po 0 := by unfold po; decide
  have g2 : gl4 (T.1 11 2) (T.1 12 2) (T.1 13 2) (T.1 14 2) := h3.2.2.2.2.2.2
  refine ⟨by omega, fun k hk => ?_, fun h hh e => ?_, ?_, ⟨fun j hj => (h4.1 j hj).2, fun j hj => (h4.2 j hj).2, h3.1.2.2.2.2, h3.2.1.2.2.2.2⟩, ?_⟩
  · rcases (by omega : k < m ∨ k = m ∨ k = m + 1 ∨ k = m + 2) with z | z | z | z
    · exact itm_X z (h1 k (by omega))
    · subst z
      unfold itX
      simp only [clo_1, clo_2, clo_3, clo_4, clo_5, cl3_0]
      exact Or.inr (Or.inr (Or.inl ⟨by decide, by decide, by decide, by decide, by decide, by decide⟩))
    · subst z
      unfold itX
      simp only [clo_1, clo_2, clo_3, clo_4, clo_5, cl3_1]
      exact Or.inr (Or.inl ⟨by decide, g2.1, g2.2.1, g2.2.2.1, g2.2.2.2.1, g2.2.2.2.2⟩)
    · subst z
      unfold itX
      simp only [clo_1, clo_2, clo_3, clo_4, clo_5, cl3_2]
      exact Or.inr (Or.inr (Or.inl ⟨by decide, by decide, by decide, by decide, by decide, by decide⟩))
  · have hm : h < m := by
      rcases (by omega : h < m ∨ h = m ∨ h = m + 1 ∨ h = m + 2) with z | z | z | z
      · exact z
      · subst z; rw [clo_1, cl3_0] at e; exact absurd e (by decide)
      · subst z; rw [clo_1, cl3_1] at e; exact absurd e (by decide)
      · subst z; rw [clo_1, cl3_2] at e; exact absurd e (by decide)
    rw [clo_1, cl3_lt hm] at e
    rw [clo_8, cl3_lt hm]
    obtain ⟨e1, e2⟩ := itm_k (h1 h (by omega))
    have b := itm_hb (h1 h (by omega)) (e1.trans e)
    have lt : (h : Int) + (T.1 8 h).toInt < c := by
      rw [← e2]
      rcases Int.lt_or_le ((h : Int) + (S.1 10 h).toInt) c with z | z
      · exact z
      · exact absurd ⟨by omega, e1.trans e, z⟩ (hn h)
    rw [e2] at b
    have key : ∀ j : Nat, h < j → (j : Int) ≤ h + (T.1 8 h).toInt → j < m := by
      intro j hj hj2
      rcases Nat.lt_or_ge j m with z | z
      · exact z
      · have ej : j = m := by omega
        have ec : c = m + 1 := by omega
        have h5 := h2 h j hj (by omega) (e1.trans e) (by rw [e2]; exact hj2)
        rw [(itm_k (h1 j (by omega))).1, ej, hx ec] at h5
        exact absurd h5 (by decide)
    refine ⟨?_, fun j hj hj2 => ?_⟩
    · rcases Int.lt_or_le ((h : Int) + (T.1 8 h).toInt) m with z | z
      · exact z
      · have := key m (by omega) z
        omega
    · have hjm := key j hj hj2
      rw [clo_1, cl3_lt hjm, ← (itm_k (h1 j (by omega))).1]
      exact h2 h j hj (by omega) (e1.trans e) (by rw [e2]; exact hj2)
  · have bW := psum_bd (c := c) (f := itW T) (B := 3221225469) (fun k hk => ⟨(itm_wid (h1 k hk)).2.2.2.2.1, (itm_wid (h1 k hk)).2.2.2.2.2.1⟩)
    have bS := psum_bd (c := c) (f := fun k => (T.1 3 k).toInt) (B := 1073741823) (fun k hk => (itm_wid (h1 k hk)).2.2.2.2.2.2.2.1)
    have bH := psum_bd (c := c) (f := fun k => (T.1 5 k).toInt) (B := 1073741823) (fun k hk => (itm_wid (h1 k hk)).2.2.2.2.2.2.2.2.2)
    have mono : ∀ f : Nat → Int, (∀ k, k < c → 0 ≤ f k) → psum f m ≤ psum f c := by
      intro f hf
      rcases (by omega : c = m ∨ c = m + 1) with z | z
      · rw [z]; omega
      · rw [z]
        have := hf m (by omega)
        show psum f m ≤ psum f m + f m
        omega
    have mW := mono (itW T) (fun k hk => (itm_wid (h1 k hk)).2.2.2.2.1)
    have mS := mono (fun k => (T.1 3 k).toInt) (fun k hk => (itm_wid (h1 k hk)).2.2.2.2.2.2.2.1.1)
    have mH := mono (fun k => (T.1 5 k).toInt) (fun k hk => (itm_wid (h1 k hk)).2.2.2.2.2.2.2.2.2.1)
    obtain ⟨f1, f2, f3⟩ := hf
    unfold sumX
    simp only [clo_9, clo_11, clo_12, clo_14]
    have sp : ∀ f : Nat → Int, psum f (m + 3) = psum f m + f m + f (m + 1) + f (m + 2) := fun f => rfl
    refine ⟨?_, ?_, ?_⟩
    · rw [sp]
      have e0 : psum (awX (cloX T m)) m = psum (itW T) m := by
        refine psum_cg m fun j hj => ?_
        unfold awX itW
        simp only [clo_1, clo_2, clo_6, clo_7, cl3_lt hj]
        have hi := h1 j (by omega)
        unfold itm at hi
        obtain ⟨e1, -, hi⟩ := hi
        rw [e1] at hi
        by_cases k4 : T.1 1 j = 4
        · have k5 : ¬ T.1 1 j = 5 := by rw [k4]; decide
          rw [if_pos k4, if_pos k4, if_neg k5]
          omega
        · rw [if_neg k4, if_neg k4]
          by_cases k5 : T.1 1 j = 5
          · rw [if_pos k5, if_pos k5]
            rcases hi with hi | hi | hi | hi
            · rw [k5] at hi; exact absurd hi.1 (by decide)
            · rw [k5] at hi; exact absurd hi.1 (by decide)
            · rw [k5] at hi; exact absurd hi.1 (by decide)
            · rw [hi.2.2.2.2.2.2.2.2.2.2.1]
          · rw [if_neg k5, if_neg k5]
            omega
      have e1 : awX (cloX T m) m = 0 := by
        unfold awX
        rw [clo_1, cl3_0]
        rfl
      have e2 : awX (cloX T m) (m + 1) = wo (T.1 11 2) := by
        unfold awX
        rw [clo_1, clo_2, cl3_1, cl3_1]
        rfl
      have e3 : awX (cloX T m) (m + 2) = 0 := by
        unfold awX
        rw [clo_1, cl3_2]
        rfl
      rw [e0, e1, e2, e3]
      omega
    · rw [sp]
      have e0 : psum (fun k => (cloX T m 3 k).toInt) m = psum (fun k => (T.1 3 k).toInt) m := psum_cg m fun j hj => by
        show (cl3 (T.1 3) m 0 (T.1 12 2) 0 j).toInt = _
        rw [cl3_lt hj]
      rw [e0]
      show _ + (cl3 (T.1 3) m 0 (T.1 12 2) 0 m).toInt + (cl3 (T.1 3) m 0 (T.1 12 2) 0 (m + 1)).toInt + (cl3 (T.1 3) m 0 (T.1 12 2) 0 (m + 2)).toInt + _ + _ ≤ _
      rw [cl3_0, cl3_1, cl3_2, show (0 : Int32).toInt = 0 from rfl]
      omega
    · rw [sp]
      have e0 : psum (fun k => (cloX T m 5 k).toInt) m = psum (fun k => (T.1 5 k).toInt) m := psum_cg m fun j hj => by
        show (cl3 (T.1 5) m 0 (T.1 14 2) 0 j).toInt = _
        rw [cl3_lt hj]
      rw [e0]
      show _ + (cl3 (T.1 5) m 0 (T.1 14 2) 0 m).toInt + (cl3 (T.1 5) m 0 (T.1 14 2) 0 (m + 1)).toInt + (cl3 (T.1 5) m 0 (T.1 14 2) 0 (m + 2)).toInt + _ ≤ _
      rw [cl3_0, cl3_1, cl3_2, show (0 : Int32).toInt = 0 from rfl]
      omega
  · unfold endX
    rw [clo_1, clo_2, cl3_0, cl3_0, cl3_1, cl3_2, cl3_2]
    exact ⟨rfl, rfl, rfl, rfl, rfl⟩
