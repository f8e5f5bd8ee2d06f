/-! Search.run: the loop over the places -/
def stR (S : ST) (a32 a33 a34 a35 a39 a40 : Nat → Int32) (l36 l38 : Nat → Int64) (i1862 i1863 i1864 i1865 i1922 i1923 i1924 i1925 i1926 i1927 i1928 i1989 i2370 i2371 : Int32) : ST := (sI (sI (sI (sI (sI (sI (sI (sI (sI (sI (sI (sI (sI (sI (sL (sL (sA (sA (sA (sA (sA (sA S 32 a32) 33 a33) 34 a34) 35 a35) 39 a39) 40 a40) 36 l36) 38 l38) 1862 i1862) 1863 i1863) 1864 i1864) 1865 i1865) 1922 i1922) 1923 i1923) 1924 i1924) 1925 i1925) 1926 i1926) 1927 i1927) 1928 i1928) 1989 i1989) 2370 i2370) 2371 i2371)
theorem stR_gal {X : Nat → Nat → Int32} {m : Nat} {S : ST} {a32 a33 a34 a35 a39 a40 : Nat → Int32} {l36 l38 : Nat → Int64} {i1862 i1863 i1864 i1865 i1922 i1923 i1924 i1925 i1926 i1927 i1928 i1989 i2370 i2371 : Int32} (h : GalS X m S) : GalS X m (stR S a32 a33 a34 a35 a39 a40 l36 l38 i1862 i1863 i1864 i1865 i1922 i1923 i1924 i1925 i1926 i1927 i1928 i1989 i2370 i2371) := by
  unfold stR
  refine gal_cg h (fun j hj => ?_) (fun j hj => ?_)
  · simp (disch := omega) only [sI_1, sL_1, sA_ne]
  · simp (disch := omega) only [sI_ne, sL_22, sA_22]
/-- at the end of a pass: where the nodes of the last place begin -/
def fpV (m n ac : Nat) (a32 : Nat → Int32) (i1863 : Int32) : Prop := 0 < ac → ∃ fp : Nat, i1863 = nI fp ∧ fp ≤ n ∧ ∀ i, i < n → (fp ≤ i ↔ a32 i = nI (m + 2))
theorem s_gPlace {S : ST} {X : Nat → Nat → Int32} {m e : Nat} {hyp : Prop} {z : Int32} {post : Int32 → Prop} (hG : Gd X m) (hS : GalS X m S) (he : e < m + 3) (hz : (z = 0 ∧ ¬ hyp) ∨ (z = 1 ∧ hyp)) (h1 : plP X m hyp e → post 1) (h0 : ¬ plP X m hyp e → post 0) : wp_Ga_isPlace S (nI e) z post := by
  have hm := hG.1
  obtain ⟨-, ⟨g1, -⟩, -⟩ := hS
  have pe : vp_in (nI e) 403 := vp_in_nI (by omega) (by omega)
  obtain ⟨⟨k18, -⟩, k20, -⟩ := g1 e he
  unfold wp_Ga_isPlace
  rw [nI_clamp (by omega), k18]
  refine ⟨pe, fun y => h0 ?_, fun y => ⟨fun y2 => h1 ⟨?_, fun _ => ?_⟩, fun y2 => ⟨pe, fun y3 => h0 fun w => ?_, fun y3 => h1 ⟨?_, fun w => absurd w y3⟩⟩⟩⟩
  · rcases k20 with ⟨w, -⟩ | ⟨-, w⟩
    · rw [w] at y; exact absurd y (by decide)
    · exact fun u => w u.1
  · rcases k20 with ⟨-, w⟩ | ⟨w, -⟩
    · exact w
    · exact absurd w y
  · rcases hz with ⟨w, -⟩ | ⟨-, w⟩
    · exact absurd w y2
    · exact w
  · rcases hz with ⟨-, u⟩ | ⟨u, -⟩
    · exact u (w.2 y3)
    · rw [u] at y2; exact absurd y2 (by decide)
  · rcases k20 with ⟨-, w⟩ | ⟨w, -⟩
    · exact w
    · exact absurd w y
theorem rep_cg {p l f fm : Nat → Int32} {t : Nat → Int64} {n : Nat} {N N' : KEY → Int64 → KEY → Prop} (h : Rep p l f fm t n N) (hN : ∀ k t g, N' k t g ↔ N k t g) : Rep p l f fm t n N' := ⟨fun k t' g => (hN k t' g).trans (h.1 k t' g), h.2⟩
theorem full_mono {N N' : KEY → Int64 → KEY → Prop} (h : FullN N) (hN : ∀ k t g, N k t g → N' k t g) : FullN N' := by
  obtain ⟨K, h1, h2⟩ := h
  refine ⟨K, fun i hi => ?_, h2⟩
  obtain ⟨t, g, h⟩ := h1 i hi
  exact ⟨t, g, hN _ _ _ h⟩
theorem s_run_l {S : ST} {X : Nat → Nat → Int32} {m : Nat} {more tol : Int32} {lst hyp : Prop} {x1 i1865 : Int32} {post : Int32 → (Nat → Int32) → (Nat → Int32) → (Nat → Int32) → (Nat → Int32) → (Nat → Int32) → (Nat → Int32) → (Nat → Int64) → (Nat → Int64) → Int32 → Int32 → Int32 → Int32 → Int32 → Int32 → Int32 → Int32 → Int32 → Int32 → Int32 → Int32 → Int32 → Int32 → Prop}
    (hG : Gd X m) (hS : GalS X m S) (hm0 : 0 ≤ more.toInt) (hm1 : more.toInt ≤ (X 9 8).toInt) (hx1 : (x1 ≤ 1 ∧ ¬ hyp) ∨ (¬ x1 ≤ 1 ∧ hyp)) (hL : (i1865 = 0 ∧ ¬ lst) ∨ (i1865 = 1 ∧ lst))
    (hF : FullN (runN X m more tol lst hyp (m + 3)).1 → ∀ (a32 a33 a34 a35 a39 a40 : Nat → Int32) (l36 l38 : Nat → Int64) (i1862 i1863 i1864 i1865 i1922 i1923 i1924 i1925 i1926 i1927 i1928 i1989 i2370 i2371 : Int32), post (-2) a32 a33 a34 a35 a39 a40 l36 l38 i1862 i1863 i1864 i1865 i1922 i1923 i1924 i1925 i1926 i1927 i1928 i1989 i2370 i2371)
    (hK : ∀ (n ac : Nat) (b : Nat → Nat) (a32 a33 a34 a35 a39 a40 : Nat → Int32) (l36 l38 : Nat → Int64) (i1862 i1863 i1923 i1924 i1925 i1926 i1927 i1928 i1989 i2370 i2371 : Int32), CVv X m more tol (m + 3) n ac b (runN X m more tol lst hyp (m + 3)).1 (runN X m more tol lst hyp (m + 3)).2 a32 a33 a34 a35 a39 a40 l36 i1862 i1923 i1924 i1925 i1926 i1927 i1928 i1989 i2370 i2371 → fpV m n ac a32 i1863 → wl_Se_run_137 S post a32 a33 a34 a35 a39 a40 l36 l38 i1862 i1863 tol i1865 more i1923 i1924 i1925 i1926 i1927 i1928 i1989 i2370 i2371) :
    ∀ (q e n ac : Nat) (b : Nat → Nat) (a32 a33 a34 a35 a39 a40 : Nat → Int32) (l36 l38 : Nat → Int64) (i1862 i1863 i1923 i1924 i1925 i1926 i1927 i1928 i1989 i2370 i2371 : Int32), e ≤ m + 3 → m + 3 < e + q → CVv X m more tol e n ac b (runN X m more tol lst hyp e).1 (runN X m more tol lst hyp e).2 a32 a33 a34 a35 a39 a40 l36 i1862 i1923 i1924 i1925 i1926 i1927 i1928 i1989 i2370 i2371 → (e = m + 3 → fpV m n ac a32 i1863) → wl_Se_run_81 S post q a32 a33 a34 a35 a39 a40 l36 l38 i1862 i1863 tol i1865 more i1923 i1924 i1925 i1926 i1927 i1928 i1989 i2370 i2371 x1 (nI e) := by
  have hm := hG.1
  intro q
  induction q with
  | zero => intro e n ac b _ _ _ _ _ _ _ _ _ _ _ _ _ _ _ _ _ _ _ h1 h2; omega
  | succ q ih =>
    intro e n ac b a32 a33 a34 a35 a39 a40 l36 l38 i1862 i1863 i1923 i1924 i1925 i1926 i1927 i1928 i1989 i2370 i2371 he hq hC hfp
    unfold wl_Se_run_81
    rw [hS.1]
    refine ⟨fun z => ?_, fun z => ?_⟩
    · have := (nI_ltI (by omega) (by omega)).mp z
      have : e = m + 3 := by omega
      subst this
      exact hK n ac b a32 a33 a34 a35 a39 a40 l36 l38 i1862 i1863 i1923 i1924 i1925 i1926 i1927 i1928 i1989 i2370 i2371 hC (hfp rfl)
    · have hem : e < m + 3 := by
        rcases Nat.lt_or_ge e (m + 3) with y | y
        · exact y
        · exact absurd ((nI_ltI (by omega) (by omega)).mpr (by omega)) z
      have hC' := hC
      obtain ⟨c1, c2, c3, c4, c5, c6, c7, c8, c9, c10, c11, c12⟩ := hC'
      have hac8 := inc_len c5
      have hn8 := c2.2.2.2.2.1
      refine ⟨fun y => ?_, fun y => ?_⟩
      · -- none is alive
        have hac : ac = 0 := by
          rw [c3] at y
          have : ac ≤ 0 := (nI_leI (b := 0) (by omega) (by omega)).mp y
          omega
        subst hac
        have none : ∀ k, ¬ (runN X m more tol lst hyp e).2 k := by
          intro k hk
          obtain ⟨x, hx, -⟩ := (c6 k).mp hk
          omega
        have rd := run_dead none (m + 3 - e)
        rw [show e + (m + 3 - e) = m + 3 by omega] at rd
        refine hK n 0 b a32 a33 a34 a35 a39 a40 l36 l38 i1862 i1863 i1923 i1924 i1925 i1926 i1927 i1928 i1989 i2370 i2371 ⟨c1, rep_cg c2 rd.1, c3, c4, c5, fun k => ⟨fun h => absurd h (rd.2 k), ?_⟩, c7, c8, c9, c10, run_inv hG (m + 3) (by omega), c12⟩ (fun h => absurd h (by omega))
        rintro ⟨x, hx, -⟩
        omega
      · have hac : 0 < ac := by
          rcases Nat.eq_zero_or_pos ac with w | w
          · subst w; rw [c3] at y; exact absurd (by decide) y
          · exact w
        have main : ∀ zz : Int32, ((zz = 0 ∧ ¬ hyp) ∨ (zz = 1 ∧ hyp)) → wl_Se_run_114 S post (fun a32 a33 a34 a35 a39 a40 l36 l38 i1862 i1863 i1864 i1865 i1922 i1923 i1924 i1925 i1926 i1927 i1928 i1989 i2370 i2371 x1 x3 => wl_Se_run_81 S post q a32 a33 a34 a35 a39 a40 l36 l38 i1862 i1863 i1864 i1865 i1922 i1923 i1924 i1925 i1926 i1927 i1928 i1989 i2370 i2371 x1 x3) a32 a33 a34 a35 a39 a40 l36 l38 i1862 i1863 tol i1865 more i1923 i1924 i1925 i1926 i1927 i1928 i1989 i2370 i2371 x1 (nI e) (nI e) zz := by
          intro zz hzz
          unfold wl_Se_run_114
          refine s_gPlace (S := stR S a32 a33 a34 a35 a39 a40 l36 l38 i1862 i1863 tol i1865 more i1923 i1924 i1925 i1926 i1927 i1928 i1989 i2370 i2371) hG (stR_gal hS) hem hzz (fun pl => ⟨fun w => absurd w (by decide), fun _ => ?_⟩) (fun pl => ⟨fun _ v2 e2 => ?_, fun w => absurd rfl w⟩)
          · have step1 : ∀ k t g, (runN X m more tol lst hyp (e + 1)).1 k t g ↔ ((runN X m more tol lst hyp e).1 k t g ∨ newN X m more tol lst (runN X m more tol lst hyp e).1 (runN X m more tol lst hyp e).2 e k t g) := by
              intro k t g
              constructor
              · rintro (h | ⟨-, h⟩)
                · exact Or.inl h
                · exact Or.inr h
              · rintro (h | h)
                · exact Or.inl h
                · exact Or.inr ⟨pl, h⟩
            have step2 : ∀ k, (runN X m more tol lst hyp (e + 1)).2 k ↔ (((runN X m more tol lst hyp e).2 k ∧ ¬ dies X m more k e) ∨ ∃ t g, newN X m more tol lst (runN X m more tol lst hyp e).1 (runN X m more tol lst hyp e).2 e k t g) := by
              intro k
              constructor
              · rintro (⟨h, -⟩ | ⟨-, h⟩)
                · exact absurd pl h
                · exact h
              · intro h
                exact Or.inr ⟨pl, h⟩
            refine s_visit (S := stR S a32 a33 a34 a35 a39 a40 l36 l38 i1862 i1863 tol i1865 more i1923 i1924 i1925 i1926 i1927 i1928 i1989 i2370 i2371) hG (CV_of (stR_gal hS) rfl rfl hL hC) hem (pl_place hG hem pl.1) hm0 hm1 step1 step2 (run_inv hG (e + 1) (by omega)) (fun hFull => ?_) (fun n' ac' b' d32 d33 d34 d35 d39 d40 k36 k38 j1862 j1923 j1924 j1925 j1926 j1927 j1928 j1989 j2370 j2371 hC2 hn' hp' => ⟨fun _ v23 e23 => ?_, fun w => absurd w (by decide)⟩)
            · intro d32 d33 d34 d35 d39 d40 k36 k38 j1862 j1863 j1923 j1924 j1925 j1926 j1927 j1928 j1989 j2370 j2371
              refine ⟨fun w => absurd rfl w, fun _ => hF (full_mono hFull fun k t g h => ?_) _ _ _ _ _ _ _ _ _ _ _ _ _ _ _ _ _ _ _ _ _ _⟩
              have := run_mono (X := X) (m := m) (more := more) (tol := tol) (lst := lst) (hyp := hyp) (e := e + 1) (m + 2 - e) k t g h
              rw [show e + 1 + (m + 2 - e) = m + 3 by omega] at this
              exact this
            · rw [e23, nI_1]
              refine ih (e + 1) n' ac' b' d32 d33 d34 d35 d39 d40 k36 k38 j1862 (nI n) j1923 j1924 j1925 j1926 j1927 j1928 j1989 j2370 j2371 (by omega) (by omega) hC2 (fun h _ => ⟨n, rfl, hn', fun i hi => ?_⟩)
              have : e = m + 2 := by omega
              rw [← this]
              exact hp' i hi
          · rw [e2, nI_1]
            have same1 : ∀ k t g, (runN X m more tol lst hyp (e + 1)).1 k t g ↔ (runN X m more tol lst hyp e).1 k t g := by
              intro k t g
              constructor
              · rintro (h | ⟨h, -⟩)
                · exact h
                · exact absurd h pl
              · exact fun h => Or.inl h
            have same2 : ∀ k, (runN X m more tol lst hyp (e + 1)).2 k ↔ (runN X m more tol lst hyp e).2 k := by
              intro k
              constructor
              · rintro (⟨-, h⟩ | ⟨h, -⟩)
                · exact h
                · exact absurd h pl
              · exact fun h => Or.inl ⟨pl, h⟩
            refine ih (e + 1) n ac b a32 a33 a34 a35 a39 a40 l36 l38 i1862 i1863 i1923 i1924 i1925 i1926 i1927 i1928 i1989 i2370 i2371 (by omega) (by omega) ⟨c1, rep_cg c2 same1, c3, c4, c5, fun k => (same2 k).trans (c6 k), c7, c8, c9, c10, run_inv hG (e + 1) (by omega), c12⟩ (fun h => ?_)
            have : e = m + 2 := by omega
            subst this
            exact absurd (lastPl hG hyp).1 pl
        refine ⟨fun w => main 0 (Or.inl ⟨rfl, ?_⟩), fun w => main 1 (Or.inr ⟨rfl, ?_⟩)⟩
        · rcases hx1 with ⟨-, h⟩ | ⟨h, -⟩
          · exact h
          · exact absurd w h
        · rcases hx1 with ⟨h, -⟩ | ⟨-, h⟩
          · exact absurd h w
          · exact h
