/-! Outcome.record: along the former ones -/
def chainK (N : KEY → Int64 → KEY → Prop) : Nat → KEY → KEY → Prop
  | 0, k, k' => k' = k
  | d + 1, k, k' => ∃ k2 t, chainK N d k k2 ∧ N k2 t k'
theorem chain_fun {N : KEY → Int64 → KEY → Prop} (hN : ∀ k t g t' g', N k t g → N k t' g' → t = t' ∧ g = g') : ∀ d k k' k'', chainK N d k k' → chainK N d k k'' → k' = k'' := by
  intro d
  induction d with
  | zero => intro k k' k'' h h'; exact h.trans h'.symm
  | succ d ih =>
    rintro k k' k'' ⟨a, t, h1, h2⟩ ⟨a', t', h1', h2'⟩
    have := ih k a a' h1 h1'
    subst this
    exact (hN _ _ _ _ _ h2 h2').2
/-- what is said of line i, of the L lines that end at kc -/
def OutI (X : Nat → Nat → Int32) (m : Nat) (more : Int32) (N : KEY → Int64 → KEY → Prop) (kc : KEY) (L i : Nat) (v43 v44 v45 v46 v47 : Int32) (v48 : Int64) : Prop :=
  ∃ (k g : KEY) (e : Nat), chainK N (L - 1 - i) kc k ∧ N k v48 g ∧ k.1 = nI e ∧ e < m + 3 ∧ v43 = nI e ∧ v44 = nI (fsX X (m + 2) g.1) ∧ v45 = sfX X m more g e ∧ v46 = bdX X m more g e ∧ v47 = ftX X m more g e
theorem out_fun {X : Nat → Nat → Int32} {m : Nat} {more : Int32} {N : KEY → Int64 → KEY → Prop} {kc : KEY} {L i : Nat} {v43 v44 v45 v46 v47 w43 w44 w45 w46 w47 : Int32} {v48 w48 : Int64} (hm : m ≤ 400) (hN : ∀ k t g t' g', N k t g → N k t' g' → t = t' ∧ g = g') (h : OutI X m more N kc L i v43 v44 v45 v46 v47 v48) (h' : OutI X m more N kc L i w43 w44 w45 w46 w47 w48) : v43 = w43 ∧ v44 = w44 ∧ v45 = w45 ∧ v46 = w46 ∧ v47 = w47 ∧ v48 = w48 := by
  obtain ⟨k, g, e, a1, a2, a3, a4, a5, a6, a7, a8, a9⟩ := h
  obtain ⟨k', g', e', b1, b2, b3, b4, b5, b6, b7, b8, b9⟩ := h'
  have := chain_fun hN _ _ _ _ a1 b1
  subst this
  obtain ⟨q1, q2⟩ := hN _ _ _ _ _ a2 b2
  subst q2
  have := (nI_eq (by omega) (by omega)).mp (a3.symm.trans b3)
  subst this
  exact ⟨a5.trans b5.symm, a6.trans b6.symm, a7.trans b7.symm, a8.trans b8.symm, a9.trans b9.symm, q1⟩
theorem okK_lt {m e e' : Nat} {k : KEY} (he : e' < 1000) (h : okK m e' k) (hp : k.1.toInt < (e : Int)) : okK m e k := by
  rcases h with h | ⟨j, l, f, rfl, b, c⟩
  · exact Or.inl h
  · have hp : (nI j).toInt < (e : Int) := hp
    rw [nI_toInt (by omega)] at hp
    exact Or.inr ⟨j, l, f, rfl, by omega, c⟩
/-- a node that isn't the first: its place, and its former one -/
theorem node_at {m : Nat} {N : KEY → Int64 → KEY → Prop} {A : KEY → Prop} {k g : KEY} {t : Int64} (hm : m ≤ 400) (hI : InvN m (m + 3) N A) (hk : N k t g) (hne : k ≠ root) : ∃ e : Nat, e < m + 3 ∧ k.1 = nI e ∧ okK m e g ∧ k.2.1 = g.2.1 + 1 ∧ ∃ t' g', N g t' g' := by
  rcases hI.2.2.2.1 k t g hk with z | ⟨⟨t', g', z⟩, z2, z3⟩
  · exact absurd z.1 hne
  · rcases hI.1 k t g hk with y | ⟨j, l, f, rfl, b, c⟩
    · exact absurd y hne
    · have z3 : g.1.toInt < (nI j).toInt := z3
      rw [nI_toInt (by omega)] at z3
      exact ⟨j, b, rfl, okK_lt (by omega) (hI.1 g t' g' z) z3, z2, t', g', z⟩
theorem s_first {S : ST} {X : Nat → Nat → Int32} {m e : Nat} {a : Int32} {q : Int32 → Prop} (hG : Gd X m) (hS : GalS X m S) (he : e < m + 3) (ha : befo a e) (hq : q (nI (fsX X (m + 2) a))) : wp_Ga_firstOneFrom S a q := by
  have hm := hG.1
  have g1 := hS.2.1.1
  unfold wp_Ga_firstOneFrom
  unfold fsX at hq
  rcases befo_cases (by omega) ha with ⟨z, z2⟩ | ⟨j, hj, ej, z2, cj⟩
  · rw [if_pos z2] at hq
    exact ⟨fun y => absurd z y, fun _ => hq⟩
  · rw [if_neg z2] at hq
    refine ⟨fun _ => ⟨?_, ?_⟩, fun y => absurd y ?_⟩
    · rw [ej]; exact vp_in_nI (by omega) (by omega)
    · rw [cj] at hq ⊢
      rw [(g1 j (by omega)).2.2]
      exact hq
    · intro y
      rw [y] at z2
      exact absurd z2 (by decide)
def stO (S : ST) (a43 a44 a45 a46 a47 : Nat → Int32) (l48 : Nat → Int64) (i1923 i1924 i1925 i1926 i1927 i1928 i2626 i2627 i2628 : Int32) : ST :=
  sI (sI (sI (sI (sI (sI (sI (sI (sI (sL (sA (sA (sA (sA (sA S 43 a43) 44 a44) 45 a45) 46 a46) 47 a47) 48 l48) 1923 i1923) 1924 i1924) 1925 i1925) 1926 i1926) 1927 i1927) 1928 i1928) 2626 i2626) 2627 i2627) 2628 i2628
theorem stO_gal {X : Nat → Nat → Int32} {m : Nat} {S : ST} {a43 a44 a45 a46 a47 : Nat → Int32} {l48 : Nat → Int64} {i1923 i1924 i1925 i1926 i1927 i1928 i2626 i2627 i2628 : Int32} (h : GalS X m S) : GalS X m (stO S a43 a44 a45 a46 a47 l48 i1923 i1924 i1925 i1926 i1927 i1928 i2626 i2627 i2628) := by
  unfold stO
  refine gal_cg h (fun j hj => ?_) (fun j hj => ?_)
  · simp (disch := omega) only [sI_1, sL_1, sA_ne]
  · simp (disch := omega) only [sI_ne, sL_22, sA_22]
theorem s_record_l {S : ST} {X : Nat → Nat → Int32} {m n L : Nat} {more : Int32} {N : KEY → Int64 → KEY → Prop} {A : KEY → Prop} {kc : KEY} {i2626 i2627 i2628 : Int32} {post : (Nat → Int32) → (Nat → Int32) → (Nat → Int32) → (Nat → Int32) → (Nat → Int32) → (Nat → Int64) → Int32 → Int32 → Int32 → Int32 → Int32 → Int32 → Int32 → Int32 → Int32 → Prop}
    (hG : Gd X m) (hS : GalS X m S) (hM : S.2.2 1922 = more) (hm0 : 0 ≤ more.toInt) (hm1 : more.toInt ≤ (X 9 8).toInt) (hR : Rep (S.1 32) (S.1 33) (S.1 34) (S.1 35) (S.2.1 36) n N) (hI : InvN m (m + 3) N A) (hL : L ≤ 401)
    (hp : ∀ (a43 a44 a45 a46 a47 : Nat → Int32) (l48 : Nat → Int64) (i1923 i1924 i1925 i1926 i1927 i1928 : Int32), (∀ i, i < L → OutI X m more N kc L i (a43 i) (a44 i) (a45 i) (a46 i) (a47 i) (l48 i)) → post a43 a44 a45 a46 a47 l48 i1923 i1924 i1925 i1926 i1927 i1928 i2626 i2627 i2628) :
    ∀ (q i j : Nat) (x6 : Int32) (a43 a44 a45 a46 a47 : Nat → Int32) (l48 : Nat → Int64) (i1923 i1924 i1925 i1926 i1927 i1928 : Int32), i ≤ L → i < q → x6.toInt = (i : Int) - 1 → j < n → S.1 33 j = nI i → chainK N (L - i) kc (keyA (S.1 32) (S.1 33) (S.1 34) j) → (∀ i', i ≤ i' → i' < L → OutI X m more N kc L i' (a43 i') (a44 i') (a45 i') (a46 i') (a47 i') (l48 i')) → keptV X m more i1923 i1924 i1925 i1926 i1927 i1928 →
      wl_Ou_record_44 S post q a43 a44 a45 a46 a47 l48 i1923 i1924 i1925 i1926 i1927 i1928 i2626 i2627 i2628 (nI j) x6 := by
  have hm := hG.1
  have hn8 := hR.2.2.2.2.1
  intro q
  induction q with
  | zero => intro i j x6 _ _ _ _ _ _ _ _ _ _ _ _ _ h; omega
  | succ q ih =>
    intro i j x6 a43 a44 a45 a46 a47 l48 i1923 i1924 i1925 i1926 i1927 i1928 hi hq hx hj hl hch hout hK
    unfold wl_Ou_record_44
    have l0 : (0 : Int32).toInt = 0 := rfl
    rw [i_lt, l0]
    refine ⟨fun z => ?_, fun z => ?_⟩
    · exact hp a43 a44 a45 a46 a47 l48 i1923 i1924 i1925 i1926 i1927 i1928 fun i' hi' => hout i' (by omega) hi'
    · obtain ⟨i, rfl⟩ : ∃ i', i = i' + 1 := ⟨i - 1, by omega⟩
      have hx : x6.toInt = (i : Int) := by omega
      have exi := x_nI hx (by omega)
      subst exi
      have pj : vp_in (nI j) 8001 := vp_in_nI (by omega) (by omega)
      have p6 : vp_in (nI i) 401 := vp_in_nI (by omega) (by omega)
      have hN := (hR.1 _ _ _).mpr ⟨j, hj, rfl, rfl, rfl⟩
      have hne : keyA (S.1 32) (S.1 33) (S.1 34) j ≠ root := by
        intro e
        have e1 : S.1 33 j = 0 := congrArg (fun z : KEY => z.2.1) e
        rw [hl] at e1
        have := (nI_eq (b := 0) (by omega) (by omega)).mp e1
        omega
      have hj0 : 0 < j := by
        rcases Nat.eq_zero_or_pos j with w | w
        · subst w; exact absurd hR.2.2.2.2.2 hne
        · exact w
      obtain ⟨j2, hj2, ej2⟩ := hR.2.2.1 j hj0 hj
      obtain ⟨e, he, ee, ok, eln, t', g', hg'⟩ := node_at hm hI hN hne
      have efm : fmK (S.1 32) (S.1 33) (S.1 34) (S.1 35) j = keyA (S.1 32) (S.1 33) (S.1 34) j2 := by
        unfold fmK
        rw [if_neg (by omega), ej2, nI_clamp (by omega)]
      rw [efm] at hN ok eln
      have ee : S.1 32 j = nI e := ee
      rw [nI_clamp (by omega), nI_clamp (by omega)]
      refine ⟨pj, fun v1 e1 => ⟨pj, ?_⟩⟩
      rw [ej2] at e1
      subst e1
      rw [ee]
      have pj2 : vp_in (nI j2) 8001 := vp_in_nI (by omega) (by omega)
      refine s_mfrom (S := stO S a43 a44 a45 a46 a47 l48 i1923 i1924 i1925 i1926 i1927 i1928 i2626 i2627 i2628) hG (stO_gal hS) hM hK he (by omega) rfl ok hm0 hm1 ⟨pj, p6, fun f8 e8 => ⟨pj2, ?_⟩⟩
      rw [nI_clamp (by omega)]
      refine s_first (S := stO S f8 a44 a45 a46 a47 l48 _ _ _ _ _ _ i2626 i2627 i2628) (e := e) hG (stO_gal hS) he (okK_p ok) ⟨p6, fun f10 e10 => ⟨p6, fun f11 e11 => ⟨p6, fun f12 e12 => ⟨p6, fun f13 e13 => ⟨pj, p6, fun f14 e14 v15 e15 => ?_⟩⟩⟩⟩⟩
      rw [e15]
      refine ih i j2 _ f8 f10 f11 f12 f13 f14 _ _ _ _ _ _ (by omega) (by omega) (x_pred hx (by omega)) hj2 ?_ ?_ (fun i' h1 h2 => ?_) (keptV_of he)
      · have eln : S.1 33 j = S.1 33 j2 + 1 := eln
        rw [hl, ← nI_1] at eln
        exact (inc_inj eln).symm
      · rw [show L - i = (L - (i + 1)) + 1 by omega]
        exact ⟨_, _, hch, hN⟩
      · rw [e8, e10, e11, e12, e13, e14]
        by_cases w : i' = i
        · subst w
          rw [pk_us, pk_us, pk_us, pk_us, pk_us, pk_uLs]
          refine ⟨_, _, e, ?_, hN, ee, he, rfl, rfl, rfl, rfl, rfl⟩
          rw [show L - 1 - i' = L - (i' + 1) by omega]
          exact hch
        · rw [pk_un w, pk_un w, pk_un w, pk_un w, pk_un w, pk_uLn w]
          exact hout i' (by omega) h2
