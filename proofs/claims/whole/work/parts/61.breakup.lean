/-! LineBreaker.breakUp -/
def stB (S : ST) (a18 a19 a20 a21 a22 a23 a24 a25 a26 a27 a28 : Nat → Int32) (a32 a33 a34 a35 a39 a40 : Nat → Int32) (l36 l38 : Nat → Int64) (i1099 i1862 i1863 i1864 i1865 i1922 i1923 i1924 i1925 i1926 i1927 i1928 i1989 i2370 i2371 i2626 i2627 i2628 : Int32) : ST := (sI (sI (sI (sI (sI (sI (sI (sI (sI (sI (sI (sI (sI (sI (sI (sI (sI (sI (sL (sL (sA (sA (sA (sA (sA (sA (sA (sA (sA (sA (sA (sA (sA (sA (sA (sA (sA S 18 a18) 19 a19) 20 a20) 21 a21) 22 a22) 23 a23) 24 a24) 25 a25) 26 a26) 27 a27) 28 a28) 32 a32) 33 a33) 34 a34) 35 a35) 39 a39) 40 a40) 36 l36) 38 l38) 1099 i1099) 1862 i1862) 1863 i1863) 1864 i1864) 1865 i1865) 1922 i1922) 1923 i1923) 1924 i1924) 1925 i1925) 1926 i1926) 1927 i1927) 1928 i1928) 1989 i1989) 2370 i2370) 2371 i2371) 2626 i2626) 2627 i2627) 2628 i2628)
theorem stB_gal {X : Nat → Nat → Int32} {m : Nat} {S T : ST} {a18 a19 a20 a21 a22 a23 a24 a25 a26 a27 a28 : Nat → Int32} {a32 a33 a34 a35 a39 a40 : Nat → Int32} {l36 l38 : Nat → Int64} {i1862 i1863 i1864 i1865 i1922 i1923 i1924 i1925 i1926 i1927 i1928 i1989 i2370 i2371 i2626 i2627 i2628 : Int32} (hX : X = cloX T m) (h3 : arnd S T) (h4 : sets S T) (h : GalF X m a18 a19 a20 a21 a22 a23 a24 a25 a26 a27) : GalS X m (stB S a18 a19 a20 a21 a22 a23 a24 a25 a26 a27 a28 a32 a33 a34 a35 a39 a40 l36 l38 (nI (m + 2)) i1862 i1863 i1864 i1865 i1922 i1923 i1924 i1925 i1926 i1927 i1928 i1989 i2370 i2371 i2626 i2627 i2628) := by
  unfold GalS stB
  simp (disch := decide) only [sI_1, sI_21, sI_eq, sI_ne, sA_eq, sA_ne, sA_21, sA_22, sL_1, sL_22, sL_eq, sL_ne]
  subst hX
  obtain ⟨⟨a1, a2, a3, a4, -⟩, ⟨b1, b2, b3, b4, -⟩, -⟩ := h3
  exact ⟨trivial, h, a1, a2, a3, a4, b1, b2, b3, b4, fun j hj => (h4.1 j hj).1, fun j hj => (h4.2 j hj).1⟩
def NNx (X : Nat → Nat → Int32) (m lp num : Nat) : KEY → Int64 → KEY → Prop := (runN X m (moX X num) (toX X num) (num = lp) (1 < num) (m + 3)).1
def noneP (X : Nat → Nat → Int32) (m lp num : Nat) : Prop := ¬ FullN (NNx X m lp num) ∧ ∀ k, ¬ Cho X (num = lp) (NNx X m lp num) m k
def lpX (X : Nat → Nat → Int32) : Nat := if 0 < (X 9 8).toInt then 3 else 2
def fpX (X : Nat → Nat → Int32) : Nat := if (X 9 0).toInt < 0 then 2 else 1
theorem cho_in {X : Nat → Nat → Int32} {lst : Prop} {N : KEY → Int64 → KEY → Prop} {m : Nat} {k : KEY} (h : Cho X lst N m k) : ∃ t g, N k t g ∧ k.1 = nI (m + 2) := by
  obtain ⟨kb, -, ⟨t, ⟨⟨g, h1⟩, h2⟩, -⟩, -⟩ := h
  exact ⟨t, g, h1, h2⟩
theorem s_record {S : ST} {X : Nat → Nat → Int32} {m n c num : Nat} {more : Int32} {N : KEY → Int64 → KEY → Prop} {A : KEY → Prop} {b32 b33 b34 b35 : Nat → Int32} {k36 : Nat → Int64} {j1923 j1924 j1925 j1926 j1927 j1928 : Int32} {post : (Nat → Int32) → (Nat → Int32) → (Nat → Int32) → (Nat → Int32) → (Nat → Int32) → (Nat → Int64) → Int32 → Int32 → Int32 → Int32 → Int32 → Int32 → Int32 → Int32 → Int32 → Prop}
    (hG : Gd X m) (hS : GalS X m S) (hM : S.2.2 1922 = more) (hm0 : 0 ≤ more.toInt) (hm1 : more.toInt ≤ (X 9 8).toInt) (e32 : S.1 32 = b32) (e33 : S.1 33 = b33) (e34 : S.1 34 = b34) (e35 : S.1 35 = b35) (e36 : S.2.1 36 = k36) (e1989 : S.2.2 1989 = nI n) (e1923 : S.2.2 1923 = j1923) (e1924 : S.2.2 1924 = j1924) (e1925 : S.2.2 1925 = j1925) (e1926 : S.2.2 1926 = j1926) (e1927 : S.2.2 1927 = j1927) (e1928 : S.2.2 1928 = j1928)
    (hR : Rep b32 b33 b34 b35 k36 n N) (hI : InvN m (m + 3) N A) (hK : keptV X m more j1923 j1924 j1925 j1926 j1927 j1928) (hc : c < n)
    (hp : ∀ (Ln : Nat) (a43 a44 a45 a46 a47 : Nat → Int32) (l48 : Nat → Int64) (u1 u2 u3 u4 u5 u6 : Int32), b33 c = nI Ln → Ln ≤ 401 → (∀ i, i < Ln → OutI X m more N (keyA b32 b33 b34 c) Ln i (a43 i) (a44 i) (a45 i) (a46 i) (a47 i) (l48 i)) → post a43 a44 a45 a46 a47 l48 u1 u2 u3 u4 u5 u6 (nI Ln) (nI num) (nI (n - 1))) : wp_Ou_record S (nI c) (nI num) post := by
  have hm := hG.1
  have hn8 := hR.2.2.2.2.1
  have n0 := hR.2.2.2.1
  subst e32 e33 e34 e35 e36 e1923 e1924 e1925 e1926 e1927 e1928
  have okc := hI.1 _ _ _ ((hR.1 _ _ _).mpr ⟨c, hc, rfl, rfl, rfl⟩)
  obtain ⟨Ln, el, lln, -⟩ := okK_l hm okc
  have el : S.1 33 c = nI Ln := el
  unfold wp_Ou_record
  rw [nI_clamp (by omega), el, e1989]
  refine ⟨vp_in_nI (by omega) (by omega), fun v1 e1 v2 e2 v3 e3 => ?_⟩
  subst e1
  have ev2 : v2 = nI (n - 1) := by
    rw [e2]
    exact pk_sub (b := 1) (by omega)
  subst ev2
  refine ⟨Ln + 1, s_record_l (more := more) (N := N) (kc := keyA (S.1 32) (S.1 33) (S.1 34) c) (L := Ln) hG hS hM hm0 hm1 hR hI lln (fun a43 a44 a45 a46 a47 l48 u1 u2 u3 u4 u5 u6 hout => hp Ln a43 a44 a45 a46 a47 l48 u1 u2 u3 u4 u5 u6 el lln hout) (Ln + 1) Ln c v3 _ _ _ _ _ _ _ _ _ _ _ _ (by omega) (by omega) ?_ hc el ?_ (fun i' h1 h2 => absurd h2 (by omega)) hK⟩
  · have l1 : (1 : Int32).toInt = 1 := rfl
    rw [e3, i_sub (by rw [nI_toInt (by omega), l1]; omega) (by rw [nI_toInt (by omega), l1]; omega), nI_toInt (by omega), l1]
  · rw [Nat.sub_self]
    rfl
theorem s_breakUp_l {S T : ST} {X : Nat → Nat → Int32} {m : Nat} {post : Int32 → (Nat → Int32) → (Nat → Int32) → (Nat → Int32) → (Nat → Int32) → (Nat → Int32) → (Nat → Int32) → (Nat → Int32) → (Nat → Int32) → (Nat → Int32) → (Nat → Int32) → (Nat → Int32) → (Nat → Int32) → (Nat → Int32) → (Nat → Int32) → (Nat → Int32) → (Nat → Int32) → (Nat → Int32) → (Nat → Int32) → (Nat → Int32) → (Nat → Int32) → (Nat → Int32) → (Nat → Int32) → (Nat → Int64) → (Nat → Int64) → (Nat → Int64) → Int32 → Int32 → Int32 → Int32 → Int32 → Int32 → Int32 → Int32 → Int32 → Int32 → Int32 → Int32 → Int32 → Int32 → Int32 → Int32 → Int32 → Int32 → Prop} {px : String → Prop} 
    {a18 a19 a20 a21 a22 a23 a24 a25 a26 a27 a28 : Nat → Int32} (hX : X = cloX T m) (hG : Gd X m) (h3 : arnd S T) (h4 : sets S T) (hGal : GalF X m a18 a19 a20 a21 a22 a23 a24 a25 a26 a27)
    (hA : ∀ num, fpX X ≤ num → num ≤ lpX X → (∀ j, fpX X ≤ j → j < num → noneP X m (lpX X) j) → FullN (NNx X m (lpX X) num) → ∀ (a32 a33 a34 a35 a39 a40 : Nat → Int32) (l36 l38 : Nat → Int64) (i1099 i1862 i1863 i1864 i1865 i1922 i1923 i1924 i1925 i1926 i1927 i1928 i1989 i2370 i2371 : Int32), post (-2) a18 a19 a20 a21 a22 a23 a24 a25 a26 a27 a28 a32 a33 a34 a35 a39 a40 (S.1 43) (S.1 44) (S.1 45) (S.1 46) (S.1 47) l36 l38 (S.2.1 48) i1099 i1862 i1863 i1864 i1865 i1922 i1923 i1924 i1925 i1926 i1927 i1928 i1989 i2370 i2371 0 0 0)
    (hB : ∀ num, fpX X ≤ num → num ≤ lpX X → (∀ j, fpX X ≤ j → j < num → noneP X m (lpX X) j) → ∀ (n Ln : Nat) (k : KEY) (a43 a44 a45 a46 a47 : Nat → Int32) (l48 : Nat → Int64), (∃ (p l f fm : Nat → Int32) (t : Nat → Int64), Rep p l f fm t n (NNx X m (lpX X) num)) → Cho X (num = lpX X) (NNx X m (lpX X) num) m k → k.2.1 = nI Ln → Ln ≤ 401 → (∀ i, i < Ln → OutI X m (moX X num) (NNx X m (lpX X) num) k Ln i (a43 i) (a44 i) (a45 i) (a46 i) (a47 i) (l48 i)) → ∀ (a32 a33 a34 a35 a39 a40 : Nat → Int32) (l36 l38 : Nat → Int64) (i1099 i1862 i1863 i1864 i1865 i1922 i1923 i1924 i1925 i1926 i1927 i1928 i1989 i2370 i2371 : Int32), post (nI Ln) a18 a19 a20 a21 a22 a23 a24 a25 a26 a27 a28 a32 a33 a34 a35 a39 a40 a43 a44 a45 a46 a47 l36 l38 l48 i1099 i1862 i1863 i1864 i1865 i1922 i1923 i1924 i1925 i1926 i1927 i1928 i1989 i2370 i2371 (nI Ln) (nI num) (nI (n - 1)))
    (hC : (∀ j, fpX X ≤ j → j ≤ lpX X → noneP X m (lpX X) j) → ∀ (a32 a33 a34 a35 a39 a40 : Nat → Int32) (l36 l38 : Nat → Int64) (i1099 i1862 i1863 i1864 i1865 i1922 i1923 i1924 i1925 i1926 i1927 i1928 i1989 i2370 i2371 : Int32), post 0 a18 a19 a20 a21 a22 a23 a24 a25 a26 a27 a28 a32 a33 a34 a35 a39 a40 (S.1 43) (S.1 44) (S.1 45) (S.1 46) (S.1 47) l36 l38 (S.2.1 48) i1099 i1862 i1863 i1864 i1865 i1922 i1923 i1924 i1925 i1926 i1927 i1928 i1989 i2370 i2371 0 0 0) :
    ∀ (q num : Nat) (a32 a33 a34 a35 a39 a40 : Nat → Int32) (l36 l38 : Nat → Int64) (i1862 i1863 i1864 i1865 i1922 i1923 i1924 i1925 i1926 i1927 i1928 i1989 i2370 i2371 : Int32), fpX X ≤ num → num ≤ lpX X + 1 → lpX X + 1 < num + q → (∀ j, fpX X ≤ j → j < num → noneP X m (lpX X) j) → wl_Lb_breakUp_98 S post px q a18 a19 a20 a21 a22 a23 a24 a25 a26 a27 a28 a32 a33 a34 a35 a39 a40 l36 l38 (nI (m + 2)) i1862 i1863 i1864 i1865 i1922 i1923 i1924 i1925 i1926 i1927 i1928 i1989 i2370 i2371 0 0 0 (nI (lpX X)) (nI num) := by
  have hm := hG.1
  have hf1 : 1 ≤ fpX X := by unfold fpX; split <;> omega
  have hl3 : lpX X ≤ 3 := by unfold lpX; split <;> omega
  intro q
  induction q with
  | zero => intro num _ _ _ _ _ _ _ _ _ _ _ _ _ _ _ _ _ _ _ _ _ _ h1 h2 h3; omega
  | succ q ih =>
    intro num a32 a33 a34 a35 a39 a40 l36 l38 i1862 i1863 i1864 i1865 i1922 i1923 i1924 i1925 i1926 i1927 i1928 i1989 i2370 i2371 hn1 hn2 hq hno
    unfold wl_Lb_breakUp_98
    refine ⟨fun z => hC (fun j j1 j2 => hno j j1 ?_) _ _ _ _ _ _ _ _ _ _ _ _ _ _ _ _ _ _ _ _ _ _ _, fun z => ?_⟩
    · have := (nI_ltI (by omega) (by omega)).mp z
      omega
    · have hnl : num ≤ lpX X := by
        rcases Nat.lt_or_ge (lpX X) num with u | u
        · exact absurd ((nI_ltI (by omega) (by omega)).mpr u) z
        · exact u
      have mb := mo_bd (num := num) hG
      have hI := run_inv (more := moX X num) (tol := toX X num) (lst := num = lpX X) (hyp := 1 < num) hG (m + 3) (by omega)
      have main : ∀ z2 : Int32, ((z2 = 0 ∧ ¬ num = lpX X) ∨ (z2 = 1 ∧ num = lpX X)) → wl_Lb_breakUp_118 S post px (fun a18 a19 a20 a21 a22 a23 a24 a25 a26 a27 a28 a32 a33 a34 a35 a39 a40 l36 l38 i1099 i1862 i1863 i1864 i1865 i1922 i1923 i1924 i1925 i1926 i1927 i1928 i1989 i2370 i2371 i2626 i2627 i2628 x2 x3 => wl_Lb_breakUp_98 S post px q a18 a19 a20 a21 a22 a23 a24 a25 a26 a27 a28 a32 a33 a34 a35 a39 a40 l36 l38 i1099 i1862 i1863 i1864 i1865 i1922 i1923 i1924 i1925 i1926 i1927 i1928 i1989 i2370 i2371 i2626 i2627 i2628 x2 x3) a18 a19 a20 a21 a22 a23 a24 a25 a26 a27 a28 a32 a33 a34 a35 a39 a40 l36 l38 (nI (m + 2)) i1862 i1863 i1864 i1865 i1922 i1923 i1924 i1925 i1926 i1927 i1928 i1989 i2370 i2371 0 0 0 (nI (lpX X)) (nI num) (nI num) z2 := by
        intro z2 hz2
        unfold wl_Lb_breakUp_118
        refine s_run (S := stB S a18 a19 a20 a21 a22 a23 a24 a25 a26 a27 a28 a32 a33 a34 a35 a39 a40 l36 l38 (nI (m + 2)) i1862 i1863 i1864 i1865 i1922 i1923 i1924 i1925 i1926 i1927 i1928 i1989 i2370 i2371 0 0 0) (lst := num = lpX X) hG (stB_gal hX h3 h4 hGal) (by omega) (by omega) hz2 (fun hFull b32 b33 b34 b35 b39 b40 k36 k38 j1862 j1863 j1864 j1865 j1922 j1923 j1924 j1925 j1926 j1927 j1928 j1989 j2370 j2371 => ⟨fun w => absurd rfl w, fun _ => hA num hn1 hnl hno hFull _ _ _ _ _ _ _ _ _ _ _ _ _ _ _ _ _ _ _ _ _ _ _⟩) (fun c n ac b b32 b33 b34 b35 b39 b40 k36 k38 j1862 j1863 j1923 j1924 j1925 j1926 j1927 j1928 j1989 j2370 j2371 hC2 hc0 hcn hCho => ⟨fun _ => ⟨fun w => absurd w ?_, fun _ => ?_⟩, fun w => absurd w ?_⟩) (fun n ac b b32 b33 b34 b35 b39 b40 k36 k38 j1862 j1863 j1923 j1924 j1925 j1926 j1927 j1928 j1989 j2370 j2371 hC2 hNo => ⟨fun _ => ⟨fun _ v24 e24 => ?_, fun w => absurd rfl w⟩, fun w => absurd w (by decide)⟩)
        · intro w
          have := (nI_eq (b := 0) (by have := hC2.2.1.2.2.2.2.1; omega) (by omega)).mp w
          omega
        · -- record
          obtain ⟨c1, c2, -, -, -, -, -, -, -, -, -, c12⟩ := hC2
          exact s_record (num := num) (X := X) (m := m) (more := moX X num) (N := NNx X m (lpX X) num) (b32 := b32) (b33 := b33) (b34 := b34) (b35 := b35) (k36 := k36) hG (stB_gal hX h3 h4 hGal) rfl mb.1 mb.2 rfl rfl rfl rfl rfl c1 rfl rfl rfl rfl rfl rfl c2 hI c12 hcn (fun Ln a43 a44 a45 a46 a47 l48 u1 u2 u3 u4 u5 u6 el lln hout => hB num hn1 hnl hno n Ln (keyA b32 b33 b34 c) a43 a44 a45 a46 a47 l48 ⟨_, _, _, _, _, c2⟩ hCho el lln hout _ _ _ _ _ _ _ _ _ _ _ _ _ _ _ _ _ _ _ _ _ _ _)
        · intro w
          have h1 := congrArg Int32.toInt w
          rw [nI_toInt (by have := hC2.2.1.2.2.2.2.1; omega)] at h1
          have h2 : (c : Int) = -2 := h1
          omega
        · rw [e24, nI_1]
          refine ih (num + 1) _ _ _ _ _ _ _ _ _ _ _ _ _ _ _ _ _ _ _ _ _ _ (by omega) (by omega) (by omega) (fun j j1 j2 => ?_)
          by_cases w : j = num
          · subst w
            exact ⟨fun h => rep_full hC2.2.1 h, hNo⟩
          · exact hno j j1 (by omega)
      refine ⟨fun y => main 0 (Or.inl ⟨rfl, fun h => y (by rw [h])⟩), fun y => main 1 (Or.inr ⟨rfl, (nI_eq (by omega) (by omega)).mp y⟩)⟩
