/-! turnInto's loops, settle, visit -/
theorem TI_next {X : Nat → Nat → Int32} {m : Nat} {more tol : Int32} {lst : Prop} {e n : Nat} {N : KEY → Int64 → KEY → Prop} {A : KEY → Prop} {S : ST} {b39 : Nat → Int32} {L c : Nat} {a32 a33 a34 a35 a39 : Nat → Int32} {l36 : Nat → Int64} (h : TI X m more tol lst e n N A S b39 L 0 c a32 a33 a34 a35 a39 l36) : TI X m more tol lst e n N A S b39 (L + 1) 4 c a32 a33 a34 a35 a39 l36 := by
  obtain ⟨h1, h2, h3, h4, h5, h6, h7⟩ := h
  refine ⟨h1, h2, h3, fun i a b => ?_, fun sl sf t g a b d h => h5 sl sf t g a b (by unfold thru at *; omega) h, h6, fun sl sf a b => ⟨fun d => (h7 sl sf a b).1 (by unfold thru at *; omega), fun d => (h7 sl sf a b).2 (by unfold thru at *; omega)⟩⟩
  obtain ⟨sl, sf, j, q, r⟩ := h4 i a b
  exact ⟨sl, sf, j, by unfold thru at *; omega, r⟩
theorem s_turn16 {S : ST} {X : Nat → Nat → Int32} {m : Nat} {more tol : Int32} {lst : Prop} {e n : Nat} {N : KEY → Int64 → KEY → Prop} {A : KEY → Prop} {b39 : Nat → Int32} {L fe mo : Nat} {post : Int32 → (Nat → Int32) → (Nat → Int32) → (Nat → Int32) → (Nat → Int32) → (Nat → Int32) → (Nat → Int64) → Int32 → Int32 → Int32 → Prop} {K5 : (Nat → Int32) → (Nat → Int32) → (Nat → Int32) → (Nat → Int32) → (Nat → Int32) → (Nat → Int64) → Int32 → Int32 → Int32 → Prop}
    (hm : m ≤ 400) (he : e < 1000) (hR : Rep (S.1 32) (S.1 33) (S.1 34) (S.1 35) (S.2.1 36) n N) (hI : InvN m e N A) (hT : offT X m more tol lst e n N A (keyA (S.1 32) (S.1 33) (S.1 34)) b39 (S.2.1 38) fe mo) (hL : L ≤ 401)
    (hK : ∀ (c : Nat) (a32 a33 a34 a35 a39 : Nat → Int32) (l36 : Nat → Int64), TI X m more tol lst e n N A S b39 (L + 1) 4 c a32 a33 a34 a35 a39 l36 → K5 a32 a33 a34 a35 a39 l36 (nI c) (nI e) (nI (L + 1)))
    (hF : FullN (N2 X m more tol lst e N A) → ∀ (a32 a33 a34 a35 a39 : Nat → Int32) (l36 : Nat → Int64) (x y z : Int32), post 0 a32 a33 a34 a35 a39 l36 x y z) :
    ∀ (q F c : Nat) (x4 : Int32) (a32 a33 a34 a35 a39 : Nat → Int32) (l36 : Nat → Int64), F ≤ 4 → F < q → x4.toInt = (F : Int) - 1 → TI X m more tol lst e n N A S b39 L F c a32 a33 a34 a35 a39 l36 → wl_Of_turnInto_16 S post K5 q a32 a33 a34 a35 a39 l36 (nI c) (nI e) (nI L) x4 := by
  intro q
  induction q with
  | zero => intro F c x4 _ _ _ _ _ _ _ h; omega
  | succ q ih =>
    intro F c x4 a32 a33 a34 a35 a39 l36 hF4 hq hx hTI
    unfold wl_Of_turnInto_16
    have l0 : (0 : Int32).toInt = 0 := rfl
    rw [i_lt, l0]
    refine ⟨fun z v1 e1 => ?_, fun z v2 e2 => ?_⟩
    · rw [e1, nI_1]
      have : F = 0 := by omega
      subst this
      exact hK c a32 a33 a34 a35 a39 l36 (TI_next hTI)
    · obtain ⟨F, rfl⟩ : ∃ F', F = F' + 1 := ⟨F - 1, by omega⟩
      have hx : x4.toInt = (F : Int) := by omega
      have exF := x_nI hx (by omega)
      have ev : v2 = nI (L * 4 + F) := by rw [e2, exF, show (4 : Int32) = nI 4 from rfl, pk_mul, nI_add]
      have pv : vp_in (nI (L * 4 + F)) 1608 := vp_in_nI (by omega) (by omega)
      have hc8 := hTI.2.1
      have hb := (hTI.2.2.2.2.2.2 L F hL (by omega)).2 (by unfold thru; omega)
      rw [ev, nI_clamp (by omega)]
      refine ⟨pv, fun y => ?_, fun y v12 e12 => ?_⟩
      · rcases hT.1 L F hL (by omega) with ⟨w, -⟩ | ⟨j, hj, w, hnew⟩
        · rw [hb] at y; exact absurd w y
        · have hn8 := hR.2.2.2.2.1
          unfold wp_No_isFull
          show ((nI c ≤ 8000 → _) ∧ _)
          refine ⟨fun u => ⟨fun _ => ?_, fun u2 => absurd rfl u2⟩, fun u => ⟨fun u2 => absurd u2 (by decide), fun _ => ?_⟩⟩
          · have hc : c ≤ 8000 := (nI_leI (b := 8000) (by omega) (by omega)).mp u
            have pc : vp_in (nI c) 8001 := vp_in_nI (by omega) (by omega)
            rw [nI_clamp (by omega)]
            refine ⟨pc, fun f4 e4 => ⟨pc, fun f5 e5 => ⟨pc, fun f6 e6 => ⟨pv, pc, fun f7 e7 => ⟨pv, pc, fun f8 e8 v9 e9 => ⟨pv, fun f10 e10 v11 e11 => ?_⟩⟩⟩⟩⟩⟩
            rw [e9, nI_1, e11]
            refine ih F (c + 1) _ f4 f5 f6 f7 f10 f8 (by omega) (by omega) (by rw [exF]; exact x_pred (nI_toInt (by omega)) (by omega)) ?_
            have := TI_add hL (by omega) hTI hc hj hnew
            rw [e4, e5, e6, e7, e8, e10, hb, w, exF]
            exact this
          · have hc : c = 8001 := by
              have : ¬ c ≤ 8000 := fun h => u ((nI_leI (b := 8000) (by omega) (by omega)).mpr h)
              omega
            subst hc
            exact hF (TI_full he hR hI hL (by omega) hTI hnew) _ _ _ _ _ _ _ _ _
      · rw [e12]
        refine ih F c _ a32 a33 a34 a35 a39 l36 (by omega) (by omega) (by rw [exF]; exact x_pred (nI_toInt (by omega)) (by omega)) (TI_skip hL (by omega) hTI y fun t g hnew => ?_)
        rcases hT.1 L F hL (by omega) with ⟨-, w⟩ | ⟨j, hj, w, -⟩
        · exact w t g hnew
        · rw [hb, w] at y
          have hn8 := hR.2.2.2.2.1
          exact nI_m1 (by omega) y
theorem s_turnInto {S : ST} {X : Nat → Nat → Int32} {m : Nat} {more tol : Int32} {lst : Prop} {e n : Nat} {N : KEY → Int64 → KEY → Prop} {A : KEY → Prop} {fe mo : Nat} {post : Int32 → (Nat → Int32) → (Nat → Int32) → (Nat → Int32) → (Nat → Int32) → (Nat → Int32) → (Nat → Int64) → Int32 → Int32 → Int32 → Prop}
    (hm : m ≤ 400) (he : e < 1000) (hR : Rep (S.1 32) (S.1 33) (S.1 34) (S.1 35) (S.2.1 36) n N) (hI : InvN m e N A) (hT : offT X m more tol lst e n N A (keyA (S.1 32) (S.1 33) (S.1 34)) (S.1 39) (S.2.1 38) fe mo) (h1 : S.2.2 2370 = nI fe) (h2 : S.2.2 2371 = nI mo) (h3 : S.2.2 1989 = nI n)
    (hK : ∀ (L c : Nat) (a32 a33 a34 a35 a39 : Nat → Int32) (l36 : Nat → Int64), mo < L → TI X m more tol lst e n N A S (S.1 39) L 4 c a32 a33 a34 a35 a39 l36 → post 1 a32 a33 a34 a35 a39 l36 (nI c) 401 0)
    (hF : FullN (N2 X m more tol lst e N A) → ∀ (a32 a33 a34 a35 a39 : Nat → Int32) (l36 : Nat → Int64) (x y z : Int32), post 0 a32 a33 a34 a35 a39 l36 x y z) : wp_Of_turnInto S (nI e) post := by
  have hfe := hT.2.1
  have hmo := hT.2.2.1
  have loop : ∀ (q L c : Nat) (a32 a33 a34 a35 a39 : Nat → Int32) (l36 : Nat → Int64), (L ≤ mo + 1 ∨ L = fe) → mo + 1 < L + q → 0 < q → TI X m more tol lst e n N A S (S.1 39) L 4 c a32 a33 a34 a35 a39 l36 → wl_Of_turnInto_5 S post q a32 a33 a34 a35 a39 l36 (nI c) (nI e) (nI L) := by
    intro q
    induction q with
    | zero => intro L c _ _ _ _ _ _ _ _ h; omega
    | succ q ih =>
      intro L c a32 a33 a34 a35 a39 l36 hL hq h0 hTI
      unfold wl_Of_turnInto_5
      rw [h2]
      refine ⟨fun z => hK L c a32 a33 a34 a35 a39 l36 ((nI_ltI (by omega) (by omega)).mp z) hTI, fun z => ?_⟩
      have hLm : L ≤ mo := by
        rcases Nat.lt_or_ge mo L with y | y
        · exact absurd ((nI_ltI (by omega) (by omega)).mpr y) z
        · exact y
      refine ⟨5, s_turn16 hm he hR hI hT (L := L) (by omega) (fun c' b32 b33 b34 b35 b39 k36 hTI' => ?_) hF 5 4 c 3 a32 a33 a34 a35 a39 l36 (by omega) (by omega) rfl hTI⟩
      exact ih (L + 1) c' b32 b33 b34 b35 b39 k36 (Or.inl (by omega)) (by omega) (by omega) hTI'
  unfold wp_Of_turnInto
  intro v1 e1
  rw [h1] at e1
  subst e1
  rw [h3]
  refine ⟨mo + 2, loop (mo + 2) fe n _ _ _ _ _ _ (Or.inr rfl) (by omega) (by omega) ⟨by omega, hR.2.2.2.2.1, fun i _ => ⟨rfl, rfl, rfl, rfl, rfl⟩, fun i a b => absurd b (by omega), fun sl sf t g a b d h => ?_, fun i i' a b c => absurd c (by omega), fun sl sf a b => ⟨fun d => ?_, fun _ => rfl⟩⟩⟩
  · have := (hT.2.2.2 sl sf t g a b h).1
    unfold thru at d
    omega
  · rcases hT.1 sl sf a b with ⟨w, -⟩ | ⟨j, hj, w, h⟩
    · exact w
    · have := (hT.2.2.2 sl sf _ _ a b h).1
      unfold thru at d
      omega
/-- what a visit leaves, by values -/
def CVv (X : Nat → Nat → Int32) (m : Nat) (more tol : Int32) (e n ac : Nat) (b : Nat → Nat) (N : KEY → Int64 → KEY → Prop) (A : KEY → Prop) (a32 a33 a34 a35 a39 a40 : Nat → Int32) (l36 : Nat → Int64) (i1862 i1923 i1924 i1925 i1926 i1927 i1928 i1989 i2370 i2371 : Int32) : Prop :=
  i1989 = nI n ∧ Rep a32 a33 a34 a35 l36 n N ∧ i1862 = nI ac ∧ (∀ y, y < ac → a40 y = nI (b y)) ∧ incB b ac n ∧ (∀ k, A k ↔ ∃ y, y < ac ∧ k = keyA a32 a33 a34 (b y)) ∧ ordA a32 a33 a34 n ∧ (∀ s, s < 1608 → a39 s = -1) ∧ i2370 = nI 401 ∧ i2371 = nI 0 ∧ InvN m e N A ∧ keptV X m more i1923 i1924 i1925 i1926 i1927 i1928
theorem CV_of {X : Nat → Nat → Int32} {m : Nat} {more tol : Int32} {lst : Prop} {e n ac : Nat} {b : Nat → Nat} {N : KEY → Int64 → KEY → Prop} {A : KEY → Prop} {S : ST} (h1 : GalS X m S) (h2 : S.2.2 1922 = more) (h3 : S.2.2 1864 = tol) (h4 : (S.2.2 1865 = 0 ∧ ¬ lst) ∨ (S.2.2 1865 = 1 ∧ lst)) (h : CVv X m more tol e n ac b N A (S.1 32) (S.1 33) (S.1 34) (S.1 35) (S.1 39) (S.1 40) (S.2.1 36) (S.2.2 1862) (S.2.2 1923) (S.2.2 1924) (S.2.2 1925) (S.2.2 1926) (S.2.2 1927) (S.2.2 1928) (S.2.2 1989) (S.2.2 2370) (S.2.2 2371)) : CV X m more tol lst e n ac b N A S :=
  ⟨h1, h2, h3, h4, h⟩
theorem s_settle33 {S : ST} {a32 a33 a34 a35 a39 : Nat → Int32} {l36 : Nat → Int64} {i1863 i2370 i2371 : Int32} {n c g : Nat} {cc : Nat → Nat} {post : Int32 → (Nat → Int32) → (Nat → Int32) → (Nat → Int32) → (Nat → Int32) → (Nat → Int32) → (Nat → Int32) → (Nat → Int64) → Int32 → Int32 → Int32 → Int32 → Int32 → Prop} (hc : c ≤ 8001) (hg : g ≤ n) (hnc : n ≤ c)
    (hp : ∀ a40 : Nat → Int32, (∀ x, x < g + (c - n) → a40 x = nI (if x < g then cc x else n + (x - g))) → post 1 a32 a33 a34 a35 a39 a40 l36 (nI (g + (c - n))) i1863 (nI c) i2370 i2371) :
    ∀ (q i : Nat) (a40 : Nat → Int32) (w : Int32), n ≤ i → i ≤ c → c < i + q → (∀ x, x < g + (i - n) → a40 x = nI (if x < g then cc x else n + (x - g))) → w = nI (g + (i - n)) → wl_Se_settle_33 S post q a32 a33 a34 a35 a39 a40 l36 w i1863 (nI c) i2370 i2371 (nI i) := by
  intro q
  induction q with
  | zero => intro i _ _ _ _ h; omega
  | succ q ih =>
    intro i a40 w h1 h2 h3 h4 hw
    subst hw
    unfold wl_Se_settle_33
    refine ⟨fun z => ?_, fun z => ?_⟩
    · have := (nI_leI (by omega) (by omega)).mp z
      have : i = c := by omega
      subst this
      exact hp a40 h4
    · have hic : i < c := by
        rcases Nat.lt_or_ge i c with y | y
        · exact y
        · exact absurd ((nI_leI (by omega) (by omega)).mpr y) z
      rw [nI_clamp (by omega)]
      refine ⟨vp_in_nI (by omega) (by omega), fun f1 e1 v2 e2 v3 e3 => ?_⟩
      rw [e3, nI_1]
      refine ih (i + 1) f1 v2 (by omega) (by omega) (by omega) (fun x hx => ?_) (by rw [e2, nI_1, show g + (i - n) + 1 = g + (i + 1 - n) by omega])
      rw [e1]
      by_cases w : x = g + (i - n)
      · subst w
        rw [pk_us, if_neg (by omega)]
        congr 1
        omega
      · rw [pk_un w]
        exact h4 x (by omega)
theorem inc_len {b : Nat → Nat} {c n : Nat} (h : incB b c n) : c ≤ n := by
  by_cases z : c = 0
  · omega
  · have := inc_ge h (c - 1) (by omega)
    have := h.2 (c - 1) (by omega)
    omega
theorem s_visit {S : ST} {X : Nat → Nat → Int32} {m : Nat} {more tol : Int32} {lst : Prop} {e n ac : Nat} {b : Nat → Nat} {N N' : KEY → Int64 → KEY → Prop} {A A' : KEY → Prop} {post : Int32 → (Nat → Int32) → (Nat → Int32) → (Nat → Int32) → (Nat → Int32) → (Nat → Int32) → (Nat → Int32) → (Nat → Int64) → (Nat → Int64) → Int32 → Int32 → Int32 → Int32 → Int32 → Int32 → Int32 → Int32 → Int32 → Int32 → Int32 → Prop}
    (hG : Gd X m) (hC : CV X m more tol lst e n ac b N A S) (he : e < m + 3) (hpl : e < m ∨ e = m + 2) (hm0 : 0 ≤ more.toInt) (hm1 : more.toInt ≤ (X 9 8).toInt)
    (hN' : ∀ k t g, N' k t g ↔ (N k t g ∨ newN X m more tol lst N A e k t g)) (hA' : ∀ k, A' k ↔ ((A k ∧ ¬ dies X m more k e) ∨ ∃ t g, newN X m more tol lst N A e k t g)) (hI' : InvN m (e + 1) N' A')
    (hF : FullN N' → ∀ (a32 a33 a34 a35 a39 a40 : Nat → Int32) (l36 l38 : Nat → Int64) (i1862 i1863 i1923 i1924 i1925 i1926 i1927 i1928 i1989 i2370 i2371 : Int32), post 0 a32 a33 a34 a35 a39 a40 l36 l38 i1862 i1863 i1923 i1924 i1925 i1926 i1927 i1928 i1989 i2370 i2371)
    (hK : ∀ (n' ac' : Nat) (b' : Nat → Nat) (a32 a33 a34 a35 a39 a40 : Nat → Int32) (l36 l38 : Nat → Int64) (i1862 i1923 i1924 i1925 i1926 i1927 i1928 i1989 i2370 i2371 : Int32), CVv X m more tol (e + 1) n' ac' b' N' A' a32 a33 a34 a35 a39 a40 l36 i1862 i1923 i1924 i1925 i1926 i1927 i1928 i1989 i2370 i2371 → n ≤ n' → (∀ i, i < n' → (n ≤ i ↔ a32 i = nI e)) → post 1 a32 a33 a34 a35 a39 a40 l36 l38 i1862 (nI n) i1923 i1924 i1925 i1926 i1927 i1928 i1989 i2370 i2371) : wp_Se_visit S (nI e) post := by
  have hm := hG.1
  have hC' := hC
  obtain ⟨hS, hM, hTol, hL, hn, hR, hac, h40, hb, hA, hO, h39, h2370, h2371, hI, hKv⟩ := hC'
  have hacn := inc_len hb
  have g1 := hS.2.1.1 e he
  have N2eq : N' = N2 X m more tol lst e N A := by
    funext k t g
    exact propext (hN' k t g)
  have main : ∀ x2 : Int32, ((x2 = 0 ∧ ¬ fineX X e = -10000) ∨ (x2 = 1 ∧ fineX X e = -10000)) → wl_Se_visit_20 S post (nI e) x2 := by
    intro x2 hx2
    unfold wl_Se_visit_20
    rw [h2370, h2371]
    refine ⟨ac + 1, s_visit_l hG hC he hpl hm0 hm1 hx2 (fun a39 a40 l38 g i1923 i1924 i1925 i1926 i1927 i1928 fe mo hT hAl hKv' => ?_) (ac + 1) 0 0 _ _ _ _ _ _ _ _ _ 401 0 (-1) (by omega) (by omega) (fun sl sf a c => Or.inl ⟨h39 _ (by omega), fun y t hy => absurd hy (Nat.not_lt_zero y)⟩) ⟨by omega, by omega, fun y _ _ _ hy => absurd hy (Nat.not_lt_zero y), Or.inl ⟨by omega, fun y _ _ _ hy => absurd hy (Nat.not_lt_zero y)⟩⟩ ⟨fun x _ hx => h40 x hx, by omega, fun _ => 0, fun x hx => absurd hx (Nat.not_lt_zero x), fun x hx => absurd hx (Nat.not_lt_zero x), fun y hy => absurd hy (Nat.not_lt_zero y), fun x x' _ hx => absurd hx (Nat.not_lt_zero x')⟩ (Or.inl ⟨rfl, fun y hy => absurd hy (Nat.not_lt_zero y)⟩) hKv⟩
    unfold wl_Se_visit_217 wp_Se_settle
    intro v1 e1
    have ev1 : v1 = nI n := e1.trans hn
    subst ev1
    obtain ⟨cc, q1, q2, q3, q4⟩ := hAl
    have hgn := inc_len q2
    refine s_turnInto (n := n) (N := N) (A := A) (fe := fe) (mo := mo) (X := X) (m := m) (more := more) (tol := tol) (lst := lst) hm (by omega) hR hI hT rfl rfl hn (fun L c a32 a33 a34 a35 b39 l36 hmoL hTI => ⟨fun _ => ?_, fun w => absurd w (by decide)⟩) (fun hFull a32 a33 a34 a35 b39 l36 x y z => ⟨fun w => absurd rfl w, fun _ => ⟨Or.inl rfl, hF (by rw [N2eq]; exact hFull) _ _ _ _ _ _ _ _ _ _ _ _ _ _ _ _ _ _ _⟩⟩)
    have hTI' := hTI
    obtain ⟨k1, k2, k3, k4, k5⟩ := TI_keys (by omega) hR hI hTI
    obtain ⟨t1, t2, t3, t4, t5, t6, t7⟩ := hTI'
    have hthru : ∀ sl sf t g, sl ≤ 401 → sf < 4 → newN X m more tol lst N A e (nI e, nI sl, nI sf) t g → thru L 4 sl sf := by
      intro sl sf t g a c h
      have := (hT.2.2.2 sl sf t g a c h).2
      unfold thru
      omega
    have rep' : Rep a32 a33 a34 a35 l36 c N' := by
      rw [N2eq]
      exact TI_rep hm (by omega) hpl hR hI hTI hthru
    have f_inc1 : ∀ x y, x < y → y < g + (c - n) → (fun x => if x < g then cc x else n + (x - g)) x < (fun x => if x < g then cc x else n + (x - g)) y := by
      intro x y hxy hy
      by_cases w : y < g
      · simp only [if_pos w, if_pos (show x < g by omega)]
        exact q2.1 x y hxy w
      · by_cases w2 : x < g
        · simp only [if_neg w, if_pos w2]
          have := q2.2 x w2
          omega
        · simp only [if_neg w, if_neg w2]
          omega
    have f_inc2 : ∀ x, x < g + (c - n) → (fun x => if x < g then cc x else n + (x - g)) x < c := by
      intro x hx
      by_cases w : x < g
      · simp only [if_pos w]
        have := q2.2 x w
        omega
      · simp only [if_neg w]
        omega
    have f_A : ∀ k, A' k ↔ ∃ y, y < g + (c - n) ∧ k = keyA a32 a33 a34 ((fun x => if x < g then cc x else n + (x - g)) y) := by
      intro k
      rw [hA' k]
      constructor
      · rintro (h | ⟨t, gg, h⟩)
        · obtain ⟨x, hx, ex⟩ := (q4 k).mp h
          refine ⟨x, by omega, ?_⟩
          simp only [if_pos hx]
          rw [k1 _ (q2.2 x hx)]
          exact ex
        · obtain ⟨-, -, -, -, -, l, f, ek, l1, l2, f4⟩ := inv_new hm hI hpl h
          rw [ek] at h
          obtain ⟨i, r1, r2, r3, r4⟩ := t5 l f t gg l2 f4 (hthru l f t gg l2 f4 h) h
          refine ⟨g + (i - n), by omega, ?_⟩
          simp only [if_neg (show ¬ g + (i - n) < g by omega)]
          rw [show n + (g + (i - n) - g) = i by omega, ek]
          unfold keyA
          rw [k3 i r1 r2, r3, r4]
      · rintro ⟨x, hx, rfl⟩
        by_cases w : x < g
        · simp only [if_pos w]
          rw [k1 _ (q2.2 x w)]
          exact Or.inl ((q4 _).mpr ⟨x, w, rfl⟩)
        · simp only [if_neg w]
          have hi : n + (x - g) < c := by omega
          rcases k5 _ hi with y | y
          · have := okK_p (hI.1 _ _ _ y)
            have e0 : a32 (n + (x - g)) = nI e := k3 _ (by omega) hi
            rcases this with u | ⟨j, hj, u⟩
            · have u : a32 (n + (x - g)) = -1 := u
              rw [e0] at u
              have := congrArg Int32.toInt u
              rw [nI_toInt (by omega)] at this
              have : (e : Int) = -1 := this
              omega
            · have u : a32 (n + (x - g)) = nI j := u
              rw [e0] at u
              have := (nI_eq (by omega) (by omega)).mp u
              omega
          · exact Or.inr ⟨_, _, y⟩
    have f_ord : ordA a32 a33 a34 c := by
      intro i j hij hj
      rcases Nat.lt_or_ge j n with w | w
      · obtain ⟨a1, a2, a3, -⟩ := t3 i (by omega)
        obtain ⟨b1, b2, b3, -⟩ := t3 j w
        rw [a1, a2, a3, b1, b2, b3]
        exact hO i j hij w
      · rcases Nat.lt_or_ge i n with w2 | w2
        · refine Or.inl ?_
          rw [k3 j w hj, (t3 i w2).1, nI_toInt (by omega)]
          have := okK_p (hI.1 _ _ _ ((hR.1 _ _ _).mpr ⟨i, w2, rfl, rfl, rfl⟩))
          rcases this with u | ⟨j', hj', u⟩
          · have u : S.1 32 i = -1 := u
            have u2 : (sI (sI (sI (sI (sI (sI (sI (sI (sI (sI (sL (sA (sA S 39 a39) 40 a40) 38 l38) 1862 (nI g)) 1923 i1923) 1924 i1924) 1925 i1925) 1926 i1926) 1927 i1927) 1928 i1928) 2370 (nI fe)) 2371 (nI mo)) 1863 (nI n)).1 32 i = S.1 32 i := rfl
            rw [u2, u]
            show (-1 : Int) < e
            omega
          · have u : S.1 32 i = nI j' := u
            have u2 : (sI (sI (sI (sI (sI (sI (sI (sI (sI (sI (sL (sA (sA S 39 a39) 40 a40) 38 l38) 1862 (nI g)) 1923 i1923) 1924 i1924) 1925 i1925) 1926 i1926) 1927 i1927) 1928 i1928) 2370 (nI fe)) 2371 (nI mo)) 1863 (nI n)).1 32 i = S.1 32 i := rfl
            rw [u2, u, nI_toInt (by omega)]
            omega
        · refine Or.inr ⟨by rw [k3 i w2 (by omega), k3 j w hj], t6 i j w2 hij hj⟩
    have f_39 : ∀ s, s < 1608 → b39 s = -1 := by
      intro s hs
      have hs4 : s = (s / 4) * 4 + s % 4 := by omega
      rw [hs4]
      by_cases w : thru L 4 (s / 4) (s % 4)
      · exact (t7 (s / 4) (s % 4) (by omega) (by omega)).1 w
      · rw [(t7 (s / 4) (s % 4) (by omega) (by omega)).2 w]
        rcases hT.1 (s / 4) (s % 4) (by omega) (by omega) with ⟨u, -⟩ | ⟨j, hj, u, h⟩
        · exact u
        · exact absurd (hthru _ _ _ _ (by omega) (by omega) h) w
    have f_pl : ∀ i, i < c → (a32 i = nI e → n ≤ i) := by
      intro i hi w
      rcases Nat.lt_or_ge i n with u | u
      · exact absurd w (k2 i u)
      · exact u
    have f_0 : ∀ x, x < g + (n - n) → a40 x = nI (if x < g then cc x else n + (x - g)) := by
      intro x hx
      have hx : x < g := by omega
      rw [if_pos hx]
      exact q1 x hx
    exact ⟨c + 2, s_settle33 (cc := cc) (n := n) (g := g) t2 hgn t1 (fun a40' h40' => ⟨Or.inr rfl, hK c (g + (c - n)) (fun x => if x < g then cc x else n + (x - g)) a32 a33 a34 a35 b39 a40' l36 l38 _ _ _ _ _ _ _ _ _ _ ⟨rfl, rep', rfl, h40', ⟨f_inc1, f_inc2⟩, f_A, f_ord, f_39, rfl, rfl, hI', hKv'⟩ t1 (fun i hi => ⟨fun w => k3 i w hi, f_pl i hi⟩)⟩) (c + 2) n a40 _ (by omega) (by omega) (by omega) f_0 (by rw [Nat.sub_self, Nat.add_zero]; rfl)⟩
  unfold wp_Se_visit
  rw [nI_clamp (by omega), g1.1.2.1]
  exact ⟨vp_in_nI (by omega) (by omega), fun z => main 0 (Or.inl ⟨rfl, z⟩), fun z => main 1 (Or.inr ⟨rfl, z⟩)⟩
