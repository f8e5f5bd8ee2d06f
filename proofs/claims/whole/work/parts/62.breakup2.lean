theorem s_Lbreak {S T : ST} {c m : Nat} {X : Nat → Nat → Int32} {post : Int32 → (Nat → Int32) → (Nat → Int32) → (Nat → Int32) → (Nat → Int32) → (Nat → Int32) → (Nat → Int32) → (Nat → Int32) → (Nat → Int32) → (Nat → Int32) → (Nat → Int32) → (Nat → Int32) → (Nat → Int32) → (Nat → Int32) → (Nat → Int32) → (Nat → Int32) → (Nat → Int32) → (Nat → Int32) → (Nat → Int32) → (Nat → Int32) → (Nat → Int32) → (Nat → Int32) → (Nat → Int32) → (Nat → Int64) → (Nat → Int64) → (Nat → Int64) → Int32 → Int32 → Int32 → Int32 → Int32 → Int32 → Int32 → Int32 → Int32 → Int32 → Int32 → Int32 → Int32 → Int32 → Int32 → Int32 → Int32 → Int32 → Prop} {px : String → Prop}
    (hc : c ≤ 400) (hS : S.2.2 73 = nI c) (h1 : ∀ k, k < c → itm S T k) (h2 : rep S c) (h3 : arnd S T) (h4 : sets S T) (hm : m = mB (T.1 1) c) (hX : X = cloX T m)
    (hi : ∀ h, cov (S.1 2) (S.1 10) c h → px "java/lang/IllegalStateException") (hu : (∀ h, ¬ cov (S.1 2) (S.1 10) c h) → ¬ fitOK T c → px "java/lang/UnsupportedOperationException")
    (hA : (∀ h, ¬ cov (S.1 2) (S.1 10) c h) → fitOK T c → ∀ num, fpX X ≤ num → num ≤ lpX X → (∀ j, fpX X ≤ j → j < num → noneP X m (lpX X) j) → FullN (NNx X m (lpX X) num) → ∀ (a18 a19 a20 a21 a22 a23 a24 a25 a26 a27 a28 : Nat → Int32) (a32 a33 a34 a35 a39 a40 : Nat → Int32) (l36 l38 : Nat → Int64) (i1099 i1862 i1863 i1864 i1865 i1922 i1923 i1924 i1925 i1926 i1927 i1928 i1989 i2370 i2371 : Int32), post (-2) a18 a19 a20 a21 a22 a23 a24 a25 a26 a27 a28 a32 a33 a34 a35 a39 a40 (S.1 43) (S.1 44) (S.1 45) (S.1 46) (S.1 47) l36 l38 (S.2.1 48) i1099 i1862 i1863 i1864 i1865 i1922 i1923 i1924 i1925 i1926 i1927 i1928 i1989 i2370 i2371 0 0 0)
    (hB : (∀ h, ¬ cov (S.1 2) (S.1 10) c h) → fitOK T c → ∀ num, fpX X ≤ num → num ≤ lpX X → (∀ j, fpX X ≤ j → j < num → noneP X m (lpX X) j) → ∀ (n Ln : Nat) (k : KEY) (a43 a44 a45 a46 a47 : Nat → Int32) (l48 : Nat → Int64), (∃ (p l f fm : Nat → Int32) (t : Nat → Int64), Rep p l f fm t n (NNx X m (lpX X) num)) → Cho X (num = lpX X) (NNx X m (lpX X) num) m k → k.2.1 = nI Ln → Ln ≤ 401 → (∀ i, i < Ln → OutI X m (moX X num) (NNx X m (lpX X) num) k Ln i (a43 i) (a44 i) (a45 i) (a46 i) (a47 i) (l48 i)) → ∀ (a18 a19 a20 a21 a22 a23 a24 a25 a26 a27 a28 : Nat → Int32) (a32 a33 a34 a35 a39 a40 : Nat → Int32) (l36 l38 : Nat → Int64) (i1099 i1862 i1863 i1864 i1865 i1922 i1923 i1924 i1925 i1926 i1927 i1928 i1989 i2370 i2371 : Int32), post (nI Ln) a18 a19 a20 a21 a22 a23 a24 a25 a26 a27 a28 a32 a33 a34 a35 a39 a40 a43 a44 a45 a46 a47 l36 l38 l48 i1099 i1862 i1863 i1864 i1865 i1922 i1923 i1924 i1925 i1926 i1927 i1928 i1989 i2370 i2371 (nI Ln) (nI num) (nI (n - 1)))
    (hC : (∀ h, ¬ cov (S.1 2) (S.1 10) c h) → fitOK T c → (∀ j, fpX X ≤ j → j ≤ lpX X → noneP X m (lpX X) j) → ∀ (a18 a19 a20 a21 a22 a23 a24 a25 a26 a27 a28 : Nat → Int32) (a32 a33 a34 a35 a39 a40 : Nat → Int32) (l36 l38 : Nat → Int64) (i1099 i1862 i1863 i1864 i1865 i1922 i1923 i1924 i1925 i1926 i1927 i1928 i1989 i2370 i2371 : Int32), post 0 a18 a19 a20 a21 a22 a23 a24 a25 a26 a27 a28 a32 a33 a34 a35 a39 a40 (S.1 43) (S.1 44) (S.1 45) (S.1 46) (S.1 47) l36 l38 (S.2.1 48) i1099 i1862 i1863 i1864 i1865 i1922 i1923 i1924 i1925 i1926 i1927 i1928 i1989 i2370 i2371 0 0 0) : wp_Lb_breakUp S post px := by
  unfold wp_Lb_breakUp wp_Ou_forget
  refine s_awaits hc hS (fun h hh => itm_hb (h1 h hh)) h2 (fun h hh => ⟨fun z => absurd z (by decide), fun _ => hi h hh⟩) (fun nc => ⟨fun _ => s_sums hc hS h1 h3 h4 (fun ok => ⟨fun _ => ?_, fun z => absurd z (by decide)⟩) (fun ok => ⟨fun z => absurd rfl z, fun _ => hu nc ok⟩), fun z => absurd rfl z⟩)
  have hG : Gd X m := by rw [hX, hm]; exact Gd_of hc h1 h2 h3 h4 ok nc
  have hX9 : X 9 = T.1 9 := by rw [hX]; rfl
  have e0 := (h4.1 0 (by omega)).1
  have e8 := (h4.1 8 (by omega)).1
  have l0 : (0 : Int32).toInt = 0 := rfl
  refine s_prepare (S := sI (sI (sI S 2626 0) 2627 0) 2628 0) (T := T) (c := c) (m := m) hc hS h1 h3 h4 hm (by rw [← hX]; exact hG) (fun a18 a19 a20 a21 a22 a23 a24 a25 a26 a27 a28 hGal => ?_)
  rw [← hX] at hGal
  have go : ∀ (z0 lp : Nat), z0 = fpX X → lp = lpX X → ∃ k9 : Nat, wl_Lb_breakUp_98 S post px k9 a18 a19 a20 a21 a22 a23 a24 a25 a26 a27 a28 (S.1 32) (S.1 33) (S.1 34) (S.1 35) (S.1 39) (S.1 40) (S.2.1 36) (S.2.1 38) (nI (m + 2)) (S.2.2 1862) (S.2.2 1863) (S.2.2 1864) (S.2.2 1865) (S.2.2 1922) (S.2.2 1923) (S.2.2 1924) (S.2.2 1925) (S.2.2 1926) (S.2.2 1927) (S.2.2 1928) (S.2.2 1989) (S.2.2 2370) (S.2.2 2371) 0 0 0 (nI lp) (nI z0) := by
    intro z0 lp hz hl
    subst hz hl
    refine ⟨6, s_breakUp_l hX hG h3 h4 hGal (fun num a b d e a32 a33 a34 a35 a39 a40 l36 l38 i1099 i1862 i1863 i1864 i1865 i1922 i1923 i1924 i1925 i1926 i1927 i1928 i1989 i2370 i2371 => hA nc ok num a b d e _ _ _ _ _ _ _ _ _ _ _ a32 a33 a34 a35 a39 a40 l36 l38 i1099 i1862 i1863 i1864 i1865 i1922 i1923 i1924 i1925 i1926 i1927 i1928 i1989 i2370 i2371) (fun num a b d n Ln k a43 a44 a45 a46 a47 l48 q1 q2 q3 q4 q5 a32 a33 a34 a35 a39 a40 l36 l38 i1099 i1862 i1863 i1864 i1865 i1922 i1923 i1924 i1925 i1926 i1927 i1928 i1989 i2370 i2371 => hB nc ok num a b d n Ln k a43 a44 a45 a46 a47 l48 q1 q2 q3 q4 q5 _ _ _ _ _ _ _ _ _ _ _ a32 a33 a34 a35 a39 a40 l36 l38 i1099 i1862 i1863 i1864 i1865 i1922 i1923 i1924 i1925 i1926 i1927 i1928 i1989 i2370 i2371) (fun d a32 a33 a34 a35 a39 a40 l36 l38 i1099 i1862 i1863 i1864 i1865 i1922 i1923 i1924 i1925 i1926 i1927 i1928 i1989 i2370 i2371 => hC nc ok d _ _ _ _ _ _ _ _ _ _ _ a32 a33 a34 a35 a39 a40 l36 l38 i1099 i1862 i1863 i1864 i1865 i1922 i1923 i1924 i1925 i1926 i1927 i1928 i1989 i2370 i2371) 6 (fpX X) _ _ _ _ _ _ _ _ _ _ _ _ _ _ _ _ _ _ _ _ _ _ (by omega) ?_ ?_ (fun j j1 j2 => absurd j2 (by omega))⟩
    · unfold fpX lpX; split <;> split <;> omega
    · unfold fpX lpX; split <;> split <;> omega
  have go2 : ∀ z0 : Nat, z0 = fpX X → wl_Lb_breakUp_76 S post px a18 a19 a20 a21 a22 a23 a24 a25 a26 a27 a28 (nI (m + 2)) 0 0 0 (nI z0) := by
    intro z0 hz
    unfold wl_Lb_breakUp_76
    rw [show (8 : Int32).toNatClampNeg = 8 from rfl, e8, i_le, l0]
    refine ⟨in810, fun y => go z0 2 hz ?_, fun y => go z0 3 hz ?_⟩
    · unfold lpX; rw [hX9, if_neg (by omega)]
    · unfold lpX; rw [hX9, if_pos (by omega)]
  rw [show (0 : Int32).toNatClampNeg = 0 from rfl, e0, i_le, l0]
  refine ⟨in010, fun y => go2 1 ?_, fun y => go2 2 ?_⟩
  · unfold fpX; rw [hX9, if_neg (by omega)]
  · unfold fpX; rw [hX9, if_pos (by omega)]
