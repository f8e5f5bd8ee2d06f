/-! Search.visit: the loop -/
theorem s_visit_l {S : ST} {X : Nat → Nat → Int32} {m : Nat} {more tol : Int32} {lst : Prop} {e n ac : Nat} {b : Nat → Nat} {N : KEY → Int64 → KEY → Prop} {A : KEY → Prop} {x2 : Int32} {post : Int32 → (Nat → Int32) → (Nat → Int32) → (Nat → Int32) → (Nat → Int32) → (Nat → Int32) → (Nat → Int32) → (Nat → Int64) → (Nat → Int64) → Int32 → Int32 → Int32 → Int32 → Int32 → Int32 → Int32 → Int32 → Int32 → Int32 → Int32 → Prop}
    (hG : Gd X m) (hC : CV X m more tol lst e n ac b N A S) (he : e < m + 3) (hpl : e < m ∨ e = m + 2) (hm0 : 0 ≤ more.toInt) (hm1 : more.toInt ≤ (X 9 8).toInt) (hx2 : (x2 = 0 ∧ ¬ fineX X e = -10000) ∨ (x2 = 1 ∧ fineX X e = -10000))
    (hend : ∀ (a39 a40 : Nat → Int32) (l38 : Nat → Int64) (g : Nat) (i1923 i1924 i1925 i1926 i1927 i1928 : Int32) (fe mo : Nat), offT X m more tol lst e n N A (keyA (S.1 32) (S.1 33) (S.1 34)) a39 l38 fe mo → aliT X m more e n ac g A (keyA (S.1 32) (S.1 33) (S.1 34)) a40 → keptV X m more i1923 i1924 i1925 i1926 i1927 i1928 → wl_Se_visit_217 S post a39 a40 l38 (nI g) i1923 i1924 i1925 i1926 i1927 i1928 (nI fe) (nI mo) (nI e)) :
    ∀ (q i g : Nat) (a39 a40 : Nat → Int32) (l38 : Nat → Int64) (i1923 i1924 i1925 i1926 i1927 i1928 : Int32) (fe mo : Nat) (x4 : Int32), i ≤ ac → ac < i + q → tabI X m more tol (S.1 32) (S.1 33) (S.1 34) (S.2.1 36) b e i a39 l38 → rngI X m more tol (S.1 32) (S.1 33) (S.1 34) (S.2.1 36) b e i fe mo → goI X m more (S.1 32) (S.1 33) (S.1 34) b e i ac g a40 → resI X m more (S.1 32) (S.1 33) (S.1 34) b e i x4 → keptV X m more i1923 i1924 i1925 i1926 i1927 i1928 →
      wl_Se_visit_29 S post q a39 a40 l38 i1923 i1924 i1925 i1926 i1927 i1928 (nI fe) (nI mo) (nI e) x2 (nI g) x4 (nI i) := by
  have hm := hG.1
  obtain ⟨hS, hM, hTol, hL, hn, hR, hac, h40, hb, hA, hO, -, -, -, hI, -⟩ := hC
  have hn8 := hR.2.2.2.2.1
  have ok : ∀ y, y < ac → okK m e (keyA (S.1 32) (S.1 33) (S.1 34) (b y)) := fun y hy => hI.1 _ _ _ ((hR.1 _ _ _).mpr ⟨b y, hb.2 y hy, rfl, rfl, rfl⟩)
  have okn : ∀ y, y < ac → ∃ l : Nat, S.1 33 (b y) + 1 = nI l ∧ 1 ≤ l ∧ l ≤ 401 := fun y hy => (okK_n hm (ok y hy) hpl rfl (msF_fi (X := X) (m := m) (e := e) (more := more) (a := S.1 32 (b y)) (w := 0))).2
  have okf : ∀ y, ∃ f : Nat, ftX X m more (keyA (S.1 32) (S.1 33) (S.1 34) (b y)) e = nI f ∧ f < 4 := by
    intro y
    have h : fi4 (ftX X m more (keyA (S.1 32) (S.1 33) (S.1 34) (b y)) e) := msF_fi
    unfold fi4 at h
    refine ⟨(ftX X m more (keyA (S.1 32) (S.1 33) (S.1 34) (b y)) e).toInt.toNat, ?_, by omega⟩
    rw [i_eq, nI_toInt (by omega)]
    omega
  intro q
  induction q with
  | zero => intro i g _ _ _ _ _ _ _ _ _ _ _ _ h1 h2; omega
  | succ q ih =>
    intro i g a39 a40 l38 i1923 i1924 i1925 i1926 i1927 i1928 fe mo x4 hi hq hT hRg hgo hre hK
    have hac8 : ac ≤ 8001 := by
      by_cases z : ac = 0
      · omega
      · have := inc_ge hb (ac - 1) (by omega)
        have := hb.2 (ac - 1) (by omega)
        omega
    unfold wl_Se_visit_29
    rw [hac]
    refine ⟨fun c => ?_, fun c => ?_⟩
    · -- the loop's end
      have hia : i = ac := by
        have := (nI_leI (by omega) (by omega)).mp c
        omega
      subst hia
      have hali : aliT X m more e n i g A (keyA (S.1 32) (S.1 33) (S.1 34)) a40 := by
        obtain ⟨-, g1, cc, g2, g3, g4, g5⟩ := hgo
        refine ⟨cc, g2, ⟨g5, fun x hx => ?_⟩, g1, fun k => ⟨?_, ?_⟩⟩
        · obtain ⟨y, a, d, -⟩ := g3 x hx
          rw [d]; exact hb.2 y a
        · rintro ⟨a, d⟩
          obtain ⟨y, hy, rfl⟩ := (hA k).mp a
          obtain ⟨x, hx, ex⟩ := g4 y hy d
          exact ⟨x, hx, by rw [ex]⟩
        · rintro ⟨x, hx, rfl⟩
          obtain ⟨y, a, d, d2⟩ := g3 x hx
          rw [d]
          exact ⟨(hA _).mpr ⟨y, a, rfl⟩, d2⟩
      have nores : ((∃ y t sl sf, y < i ∧ sl ≤ 401 ∧ sf < 4 ∧ OffI X m more tol (S.1 32) (S.1 33) (S.1 34) (S.2.1 36) b e y sl sf t) ∨ ¬ lst ∨ ¬ (∀ g', A g' → dies X m more g' e) ∨ ∀ k, ¬ A k) → wl_Se_visit_217 S post a39 a40 l38 (nI g) i1923 i1924 i1925 i1926 i1927 i1928 (nI fe) (nI mo) (nI e) := fun h => hend a39 a40 l38 g i1923 i1924 i1925 i1926 i1927 i1928 fe mo (off_end hR hA hb hO hT hRg h) hali hK
      refine ⟨fun z => nores (Or.inr (Or.inl ?_)), fun z => ⟨fun z2 => nores (Or.inr (Or.inr (Or.inl ?_))), fun z2 => ?_⟩⟩
      · rcases hL with ⟨-, h⟩ | ⟨h, -⟩
        · exact h
        · rw [h] at z; exact absurd z (by decide)
      · obtain ⟨cc, g2, g3, g4, g5⟩ := hali
        intro h
        have h0 : 0 < g := by
          rcases Nat.eq_zero_or_pos g with y | y
          · subst y; exact absurd rfl z2
          · exact y
        obtain ⟨a, d⟩ := (g5 _).mpr ⟨0, h0, rfl⟩
        exact d (h _ a)
      · have hg0 : g = 0 := by
          have := hgo.2.1
          exact (nI_eq (b := 0) (by omega) (by omega)).mp z2
        have hl : lst := by
          rcases hL with ⟨h, -⟩ | ⟨-, h⟩
          · exact absurd h z
          · exact h
        unfold wp_Of_isEmpty
        have f1 : (sI (sI (sI (sI (sI (sI (sI (sI (sI (sL (sA (sA S 39 a39) 40 a40) 38 l38) 1862 (nI g)) 1923 i1923) 1924 i1924) 1925 i1925) 1926 i1926) 1927 i1927) 1928 i1928) 2370 (nI fe)) 2371 (nI mo)).2.2 2370 = nI fe := rfl
        have f2 : (sI (sI (sI (sI (sI (sI (sI (sI (sI (sL (sA (sA S 39 a39) 40 a40) 38 l38) 1862 (nI g)) 1923 i1923) 1924 i1924) 1925 i1925) 1926 i1926) 1927 i1927) 1928 i1928) 2370 (nI fe)) 2371 (nI mo)).2.2 2371 = nI mo := rfl
        rw [f1, f2]
        have r1 := hRg.1
        have r2 := hRg.2.1
        refine ⟨fun z3 => ⟨fun _ => nores (Or.inl ?_), fun w => absurd rfl w⟩, fun z3 => ⟨fun w => absurd w (by decide), fun _ => ⟨fun z4 => nores (Or.inr (Or.inr (Or.inr ?_))), fun z4 => ?_⟩⟩⟩
        · have := (nI_leI (by omega) (by omega)).mp z3
          rcases hRg.2.2.2 with ⟨d, -⟩ | ⟨-, -, y, t, sl, sf, d3, d4, d5, d6⟩
          · omega
          · exact ⟨y, t, sl, sf, d3, d4, d5, d6⟩
        · -- none is alive
          rcases hre with ⟨-, h2⟩ | ⟨y, h1, h2, h3, h4⟩
          · intro k hk
            obtain ⟨y, hy, rfl⟩ := (hA k).mp hk
            obtain ⟨cc, -, -, -, g5⟩ := hali
            obtain ⟨x, hx, -⟩ := (g5 _).mp ⟨hk, h2 y hy⟩
            omega
          · rw [h2] at z4
            exact absurd z4 (nI_m1 (by have := hb.2 y h1; omega))
        · -- the rescue
          have noff : ∀ y t sl sf, y < i → sl ≤ 401 → ¬ OffI X m more tol (S.1 32) (S.1 33) (S.1 34) (S.2.1 36) b e y sl sf t := by
            rcases hRg.2.2.2 with ⟨-, d⟩ | ⟨-, d, -⟩
            · exact d
            · exact absurd ((nI_leI (by omega) (by omega)).mpr d) z3
          rcases hre with ⟨h2, -⟩ | ⟨y, h1, h2, h3, h4⟩
          · exact absurd h2 z4
          subst h2
          have hall : ∀ g', A g' → dies X m more g' e := by
            intro k hk
            obtain ⟨cc, -, -, -, g5⟩ := hali
            exact Classical.byContradiction fun w => by
              obtain ⟨x, hx, -⟩ := (g5 k).mp ⟨hk, w⟩
              omega
          have by8 : b y < 8001 := by have := hb.2 y h1; omega
          obtain ⟨L, eL, L1, L2⟩ := okn y h1
          obtain ⟨F, eF, F4⟩ := okf y
          have nooff : ∀ g' t' l f, ¬ Off X m more tol N A e g' t' l f := by
            rintro g' t' l f ⟨o1, o2, o3, o4, o5⟩
            obtain ⟨y', hy', rfl⟩ := (hA g').mp o1
            obtain ⟨L', eL', L1', L2'⟩ := okn y' hy'
            obtain ⟨F', eF', F4'⟩ := okf y'
            exact noff y' (S.2.1 36 (b y') + demX X m more (keyA (S.1 32) (S.1 33) (S.1 34) (b y')) e) L' F' hy' L2' ⟨o3, eL'.symm, eF'.symm, rfl⟩
          have hlast : ∀ g', A g' → g'.2.1.toInt < (keyA (S.1 32) (S.1 33) (S.1 34) (b y)).2.1.toInt ∨ (g'.2.1.toInt = (keyA (S.1 32) (S.1 33) (S.1 34) (b y)).2.1.toInt ∧ tie (keyA (S.1 32) (S.1 33) (S.1 34) (b y)) g') := by
            intro g' ag
            obtain ⟨y', hy', rfl⟩ := (hA g').mp ag
            rcases h4 y' hy' (hall _ ag) with w | ⟨w, w2⟩
            · exact Or.inl w
            · exact Or.inr ⟨w, ord_tie hO (inc_i hb w2 hy') (hb.2 y' hy') w.symm⟩
          have ay : A (keyA (S.1 32) (S.1 33) (S.1 34) (b y)) := (hA _).mpr ⟨y, h1, rfl⟩
          have hnew : newN X m more tol lst N A e (nI e, nI L, nI F) (S.2.1 36 (b y)) (keyA (S.1 32) (S.1 33) (S.1 34) (b y)) := ⟨rfl, Or.inr ⟨hl, nooff, hall, ay, eL.symm, eF.symm, ⟨_, (hR.1 _ _ _).mpr ⟨b y, hb.2 y h1, rfl, rfl, rfl⟩⟩, hlast⟩⟩
          have huniq : ∀ sl sf t g', sl ≤ 401 → sf < 4 → newN X m more tol lst N A e (nI e, nI sl, nI sf) t g' → sl = L ∧ sf = F := by
            rintro sl sf t g' s1 s2 ⟨-, ⟨o, -⟩ | ⟨w1, w2, w3, w4, w5, w6, w7, w8⟩⟩
            · exact absurd o (nooff _ _ _ _)
            · have c1 := hlast g' w4
              have c2 := w8 _ ay
              have el : g'.2.1 = (keyA (S.1 32) (S.1 33) (S.1 34) (b y)).2.1 := by rw [i_eq]; omega
              have t1 : tie g' (keyA (S.1 32) (S.1 33) (S.1 34) (b y)) := by rcases c2 with z | z; (rw [el] at z; omega); exact z.2
              have t2 : tie (keyA (S.1 32) (S.1 33) (S.1 34) (b y)) g' := by rcases c1 with z | z; (rw [el] at z; omega); exact z.2
              have eg := tie_eq t1 t2 el
              subst eg
              exact ⟨(nI_eq (by omega) (by omega)).mp (w5.trans eL), (nI_eq (by omega) (by omega)).mp (w6.trans eF)⟩
          refine s_mfrom (S := sI (sI (sI (sI (sI (sI (sI (sI (sI (sL (sA (sA S 39 a39) 40 a40) 38 l38) 1862 (nI g)) 1923 i1923) 1924 i1924) 1925 i1925) 1926 i1926) 1927 i1927) 1928 i1928) 2370 (nI fe)) 2371 (nI mo)) hG (stV_gal (S := sI S 1862 (nI g)) (gal_cg hS (fun j hj => rfl) (fun j hj => sI_ne (by omega)))) hM hK he by8 rfl (ok y h1) hm0 hm1 ⟨vp_in_nI by8 (by omega), ?_⟩
          unfold wp_Se_offerFrom
          rw [nI_clamp (by omega)]
          refine ⟨vp_in_nI by8 (by omega), ?_⟩
          show wp_Of_take _ (nI (b y)) (S.1 33 (b y) + 1) (ftX X m more (keyA (S.1 32) (S.1 33) (S.1 34) (b y)) e) _ _
          rw [eL, eF]
          have empty : ∀ sl sf, sl ≤ 401 → sf < 4 → a39 (sl * 4 + sf) = -1 := by
            intro sl sf s1 s2
            rcases hT sl sf s1 s2 with ⟨c1, -⟩ | ⟨y', c1, -, c3, -⟩
            · exact c1
            · exact absurd c3 (noff y' _ sl sf c1 s1)
          refine s_take L2 F4 rfl rfl r1 r2 (fun _ => hend _ a40 _ g _ _ _ _ _ _ _ _ ⟨fun sl sf s1 s2 => ?_, by split <;> omega, by split <;> omega, fun sl sf t g' s1 s2 s3 => ?_⟩ hali (keptV_of he)) (fun w => absurd (Or.inl (empty L F L2 F4)) w)
          · show (upd a39 (L * 4 + F) (nI (b y)) (sl * 4 + sf) = -1 ∧ _) ∨ ∃ j, j < n ∧ upd a39 (L * 4 + F) (nI (b y)) (sl * 4 + sf) = nI j ∧ newN X m more tol lst N A e (nI e, nI sl, nI sf) (vp_updL l38 (L * 4 + F) (S.2.1 36 (b y)) (sl * 4 + sf)) (keyA (S.1 32) (S.1 33) (S.1 34) j)
            by_cases w : sl = L ∧ sf = F
            · obtain ⟨rfl, rfl⟩ := w
              rw [pk_us, pk_uLs]
              exact Or.inr ⟨b y, hb.2 y h1, rfl, hnew⟩
            · rw [pk_un (by omega)]
              exact Or.inl ⟨empty sl sf s1 s2, fun t g' h => w (huniq sl sf t g' s1 s2 h)⟩
          · obtain ⟨rfl, rfl⟩ := huniq sl sf t g' s1 s2 s3
            split <;> split <;> omega
    · -- one alive one
      have hia : i < ac := by
        rcases Nat.lt_or_ge i ac with z | z
        · exact z
        · exact absurd ((nI_leI (by omega) (by omega)).mpr z) c
      have bi8 : b i < 8001 := by have := hb.2 i hia; omega
      have r1 := hRg.1
      have r2 := hRg.2.1
      have gi := hgo.2.1
      obtain ⟨L, eL, L1, L2⟩ := okn i hia
      obtain ⟨F, eF, F4⟩ := okf i
      have e40 : a40 i = nI (b i) := hgo.1 i (by omega) hia
      rw [nI_clamp (by omega)]
      refine ⟨vp_in_nI (by omega) (by omega), fun v12 e12 => ?_⟩
      rw [e40] at e12
      subst e12
      have cont : ∀ (a' : Nat → Int32) (l' : Nat → Int64) (fe' mo' : Nat), tabI X m more tol (S.1 32) (S.1 33) (S.1 34) (S.2.1 36) b e (i + 1) a' l' → rngI X m more tol (S.1 32) (S.1 33) (S.1 34) (S.2.1 36) b e (i + 1) fe' mo' →
          wl_Se_visit_92 S post (fun a39 a40 l38 i1923 i1924 i1925 i1926 i1927 i1928 i2370 i2371 x1 x2 x3 x4 x5 => wl_Se_visit_29 S post q a39 a40 l38 i1923 i1924 i1925 i1926 i1927 i1928 i2370 i2371 x1 x2 x3 x4 x5) a' a40 l' (sfX X m more (keyA (S.1 32) (S.1 33) (S.1 34) (b i)) e) (bdX X m more (keyA (S.1 32) (S.1 33) (S.1 34) (b i)) e) (ftX X m more (keyA (S.1 32) (S.1 33) (S.1 34) (b i)) e) (S.1 32 (b i)) (nI e) (wdX X (keyA (S.1 32) (S.1 33) (S.1 34) (b i))) (nI fe') (nI mo') (nI e) x2 (nI g) x4 (nI i) (nI (b i)) := by
        intro a' l' fe' mo' hT' hR'
        have die : dies X m more (keyA (S.1 32) (S.1 33) (S.1 34) (b i)) e → wl_Se_visit_123 S post (fun a39 a40 l38 i1923 i1924 i1925 i1926 i1927 i1928 i2370 i2371 x1 x2 x3 x4 x5 => wl_Se_visit_29 S post q a39 a40 l38 i1923 i1924 i1925 i1926 i1927 i1928 i2370 i2371 x1 x2 x3 x4 x5) a' a40 l' (sfX X m more (keyA (S.1 32) (S.1 33) (S.1 34) (b i)) e) (bdX X m more (keyA (S.1 32) (S.1 33) (S.1 34) (b i)) e) (ftX X m more (keyA (S.1 32) (S.1 33) (S.1 34) (b i)) e) (S.1 32 (b i)) (nI e) (wdX X (keyA (S.1 32) (S.1 33) (S.1 34) (b i))) (nI fe') (nI mo') (nI e) x2 (nI g) x4 (nI i) (nI (b i)) := by
          intro hd
          unfold wl_Se_visit_123
          have pi : vp_in (nI (b i)) 8001 := vp_in_nI bi8 (by omega)
          refine ⟨fun z v ev => ?_, fun z => ?_⟩
          · rw [ev, nI_1]
            refine ih (i + 1) g a' a40 l' _ _ _ _ _ _ fe' mo' (nI (b i)) (by omega) (by omega) hT' hR' (go_die hgo hd) ?_ (keptV_of he)
            rcases hre with ⟨-, h2⟩ | ⟨y, h1, h2, -⟩
            · refine Or.inr ⟨i, by omega, rfl, hd, fun y' hy' hd' => ?_⟩
              by_cases w : y' = i
              · subst w; exact Or.inr ⟨rfl, by omega⟩
              · exact absurd hd' (h2 y' (by omega))
            · rw [h2] at z
              exact absurd z (nI_m1 (by have := hb.2 y (by omega); omega))
          · rcases hre with ⟨h1, -⟩ | ⟨y, h1, h2, h3, h4⟩
            · exact absurd h1 z
            subst h2
            have by8 : b y < 8001 := by have := hb.2 y (by omega); omega
            rw [nI_clamp (by omega), nI_clamp (by omega), i_le]
            refine ⟨pi, vp_in_nI by8 (by omega), fun w v ev => ?_, fun w v ev => ?_⟩
            · rw [ev, nI_1]
              refine ih (i + 1) g a' a40 l' _ _ _ _ _ _ fe' mo' (nI (b y)) (by omega) (by omega) hT' hR' (go_die hgo hd) (Or.inr ⟨y, by omega, rfl, h3, fun y' hy' hd' => ?_⟩) (keptV_of he)
              by_cases w' : y' = i
              · subst w'; omega
              · exact h4 y' (by omega) hd'
            · rw [ev, nI_1]
              refine ih (i + 1) g a' a40 l' _ _ _ _ _ _ fe' mo' (nI (b i)) (by omega) (by omega) hT' hR' (go_die hgo hd) (Or.inr ⟨i, by omega, rfl, hd, fun y' hy' hd' => ?_⟩) (keptV_of he)
              by_cases w' : y' = i
              · subst w'; exact Or.inr ⟨rfl, by omega⟩
              · have := h4 y' (by omega) hd'
                omega
        unfold wl_Se_visit_92
        refine ⟨fun z => die (Or.inl ?_), fun z => ⟨fun z2 => die (Or.inr z2), fun z2 => ?_⟩⟩
        · rcases hx2 with ⟨h, -⟩ | ⟨-, h⟩
          · exact absurd h z
          · exact h
        · have hd : ¬ dies X m more (keyA (S.1 32) (S.1 33) (S.1 34) (b i)) e := by
            rintro (w | w)
            · rcases hx2 with ⟨-, h⟩ | ⟨h, -⟩
              · exact h w
              · rw [h] at z; exact absurd z (by decide)
            · exact z2 w
          rw [nI_clamp (by omega)]
          refine ⟨vp_in_nI (by omega) (by omega), fun f1 e1 v2 ev2 v3 ev3 => ?_⟩
          rw [ev2, ev3, nI_1, nI_1, e1]
          exact ih (i + 1) (g + 1) a' _ l' _ _ _ _ _ _ fe' mo' x4 (by omega) (by omega) hT' hR' (go_live hgo hia hb hd) (res_live hre hd) (keptV_of he)
      refine s_mfrom (S := stV S a39 a40 l38 i1923 i1924 i1925 i1926 i1927 i1928 (nI fe) (nI mo)) hG (stV_gal hS) hM hK he bi8 rfl (ok i hia) hm0 hm1 ⟨fun z => ?_, fun z => ⟨vp_in_nI bi8 (by omega), ?_⟩⟩
      · rw [hTol, i_lt] at z
        have z : tol.toInt < (bdX X m more (keyA (S.1 32) (S.1 33) (S.1 34) (b i)) e).toInt := z
        have no : ∀ sl sf t, ¬ OffI X m more tol (S.1 32) (S.1 33) (S.1 34) (S.2.1 36) b e i sl sf t := fun sl sf t h => absurd h.1 (by omega)
        exact cont a39 l38 fe mo (tab_skip hT no) (rng_skip hRg no)
      · rw [hTol, i_lt] at z
        have z : ¬ tol.toInt < (bdX X m more (keyA (S.1 32) (S.1 33) (S.1 34) (b i)) e).toInt := z
        refine s_dem (S := stV S a39 a40 l38 _ _ _ _ _ _ (nI fe) (nI mo)) hG (stV_gal hS) he bi8 (okK_f (ok i hia)) (msF_fi) (okK_p (ok i hia)) ?_
        unfold wp_Se_offerFrom
        rw [nI_clamp (by omega)]
        refine ⟨vp_in_nI bi8 (by omega), ?_⟩
        show wp_Of_take _ (nI (b i)) (S.1 33 (b i) + 1) (ftX X m more (keyA (S.1 32) (S.1 33) (S.1 34) (b i)) e) (S.2.1 36 (b i) + demX X m more (keyA (S.1 32) (S.1 33) (S.1 34) (b i)) e) _
        rw [eL, eF]
        have ho : OffI X m more tol (S.1 32) (S.1 33) (S.1 34) (S.2.1 36) b e i L F (S.2.1 36 (b i) + demX X m more (keyA (S.1 32) (S.1 33) (S.1 34) (b i)) e) := ⟨by omega, eL.symm, eF.symm, rfl⟩
        have hb8 : ∀ y, y < i → b y < 8001 := fun y hy => by have := hb.2 y (by omega); omega
        refine s_take L2 F4 rfl rfl r1 r2 (fun w => ?_) (fun w => ?_)
        · exact cont _ _ _ _ (tab_take hT ho L2 F4 hb8 (Or.inl ⟨w, rfl, rfl⟩)) (rng_take hRg ho L1 L2 F4)
        · exact cont _ _ _ _ (tab_take hT ho L2 F4 hb8 (Or.inr ⟨w, rfl, rfl⟩)) (rng_take hRg ho L1 L2 F4)
