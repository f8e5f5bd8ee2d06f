/-! Search.choose -/
def lsK (t : Int64) (k : KEY) (t' : Int64) (k' : KEY) : Prop := t.toInt < t'.toInt ∨ (t.toInt = t'.toInt ∧ (k.2.1.toInt < k'.2.1.toInt ∨ (k.2.1.toInt = k'.2.1.toInt ∧ k.2.2.toInt < k'.2.2.toInt)))
def dsI (l w : Int) : Int := if l ≤ w then w - l else l - w
def inR (lb w l : Int) : Prop := (lb ≤ l ∧ l ≤ w) ∨ (w ≤ l ∧ l ≤ lb)
def prK (w : Int) (t : Int64) (k : KEY) (t' : Int64) (k' : KEY) : Prop := dsI k.2.1.toInt w < dsI k'.2.1.toInt w ∨ (dsI k.2.1.toInt w = dsI k'.2.1.toInt w ∧ lsK t k t' k')
def laK (N : KEY → Int64 → KEY → Prop) (m : Nat) (k : KEY) (t : Int64) : Prop := (∃ g, N k t g) ∧ k.1 = nI (m + 2)
def BestK (N : KEY → Int64 → KEY → Prop) (m : Nat) (k : KEY) : Prop := ∃ t, laK N m k t ∧ ∀ k' t', laK N m k' t' → ¬ lsK t' k' t k
def ChsK (N : KEY → Int64 → KEY → Prop) (m : Nat) (lb w : Int) (k : KEY) : Prop := ∃ t, laK N m k t ∧ inR lb w k.2.1.toInt ∧ ∀ k' t', laK N m k' t' → inR lb w k'.2.1.toInt → ¬ prK w t' k' t k
def Cho (X : Nat → Nat → Int32) (lst : Prop) (N : KEY → Int64 → KEY → Prop) (m : Nat) (k : KEY) : Prop := ∃ kb, BestK N m kb ∧ ChsK N m kb.2.1.toInt (kb.2.1.toInt + (X 9 9).toInt) k ∧ (lst ∨ k.2.1.toInt = kb.2.1.toInt + (X 9 9).toInt)
theorem ls_total {t t' : Int64} {k k' : KEY} (h : ¬ lsK t k t' k') (h' : ¬ lsK t' k' t k) (hp : k.1 = k'.1) : k = k' := by
  unfold lsK at h h'
  have a : k.2.1 = k'.2.1 := by rw [i_eq]; omega
  have b : k.2.2 = k'.2.2 := by rw [i_eq]; omega
  exact Prod.ext hp (Prod.ext a b)
theorem ls_trans {t t' t'' : Int64} {k k' k'' : KEY} (h : lsK t k t' k') (h' : lsK t' k' t'' k'') : lsK t k t'' k'' := by
  unfold lsK at *
  omega
theorem ls_neg {t t' t'' : Int64} {k k' k'' : KEY} (h : ¬ lsK t k t' k') (h' : lsK t'' k'' t' k') : ¬ lsK t k t'' k'' := by
  unfold lsK at *
  omega
theorem pr_total {w : Int} {t t' : Int64} {k k' : KEY} (h : ¬ prK w t k t' k') (h' : ¬ prK w t' k' t k) (hp : k.1 = k'.1) : k = k' := by
  have e : dsI k.2.1.toInt w = dsI k'.2.1.toInt w := by
    unfold prK at h h'
    omega
  exact ls_total (fun z => h (Or.inr ⟨e, z⟩)) (fun z => h' (Or.inr ⟨e.symm, z⟩)) hp
theorem pr_neg {w : Int} {t t' t'' : Int64} {k k' k'' : KEY} (h : ¬ prK w t k t' k') (h' : prK w t'' k'' t' k') : ¬ prK w t k t'' k'' := by
  intro z
  apply h
  unfold prK at *
  rcases z with z | ⟨z, z2⟩ <;> rcases h' with y | ⟨y, y2⟩
  · exact Or.inl (by omega)
  · exact Or.inl (by omega)
  · exact Or.inl (by omega)
  · exact Or.inr ⟨by omega, ls_trans z2 y2⟩
theorem best_uniq {N : KEY → Int64 → KEY → Prop} {m : Nat} {k k' : KEY} (h : BestK N m k) (h' : BestK N m k') : k = k' := by
  obtain ⟨t, a, b⟩ := h
  obtain ⟨t', a', b'⟩ := h'
  exact ls_total (b' k t a) (b k' t' a') (a.2.trans a'.2.symm)
theorem chs_uniq {N : KEY → Int64 → KEY → Prop} {m : Nat} {lb w : Int} {k k' : KEY} (h : ChsK N m lb w k) (h' : ChsK N m lb w k') : k = k' := by
  obtain ⟨t, a, r, b⟩ := h
  obtain ⟨t', a', r', b'⟩ := h'
  exact pr_total (b' k t a r) (b k' t' a' r') (a.2.trans a'.2.symm)
theorem cho_uniq {X : Nat → Nat → Int32} {lst : Prop} {N : KEY → Int64 → KEY → Prop} {m : Nat} {k k' : KEY} (h : Cho X lst N m k) (h' : Cho X lst N m k') : k = k' := by
  obtain ⟨kb, a, b, -⟩ := h
  obtain ⟨kb', a', b', -⟩ := h'
  have := best_uniq a a'
  subst this
  exact chs_uniq b b'
theorem s_better {S : ST} {i j : Nat} {post : Int32 → Prop} (hi : i < 8001) (hj : j < 8001) (h1 : lsK (S.2.1 36 i) (keyA (S.1 32) (S.1 33) (S.1 34) i) (S.2.1 36 j) (keyA (S.1 32) (S.1 33) (S.1 34) j) → post 1) (h0 : ¬ lsK (S.2.1 36 i) (keyA (S.1 32) (S.1 33) (S.1 34) i) (S.2.1 36 j) (keyA (S.1 32) (S.1 33) (S.1 34) j) → post 0) : wp_No_isBetter S (nI i) (nI j) post := by
  have pi : vp_in (nI i) 8001 := vp_in_nI hi (by omega)
  have pj : vp_in (nI j) 8001 := vp_in_nI hj (by omega)
  unfold wp_No_isBetter
  rw [nI_clamp (by omega), nI_clamp (by omega), lc_eq, lc_ge, i_eq, i_le, i_le]
  unfold lsK keyA at h1 h0
  refine ⟨pi, pj, fun a => ⟨pi, pj, fun b => ⟨pi, pj, fun c => h0 ?_, fun c => h1 ?_⟩, fun b => ⟨pi, pj, fun c => h0 ?_, fun c => h1 ?_⟩⟩, fun a => ⟨pi, pj, fun c => h0 ?_, fun c => h1 ?_⟩⟩
  · simp only; omega
  · simp only; omega
  · simp only; omega
  · simp only; omega
  · simp only; omega
  · simp only; omega
theorem abs_ds {x w v : Int32} (hx : -1000 ≤ x.toInt) (hx2 : x.toInt ≤ 1000) (hw : -1000 ≤ w.toInt) (hw2 : w.toInt ≤ 1000) (e : v = if (0 : Int32) ≤ x - w then x - w else 0 - (x - w)) : v.toInt = dsI x.toInt w.toInt := by
  have es : (x - w).toInt = x.toInt - w.toInt := i_sub (by omega) (by omega)
  have l0 : (0 : Int32).toInt = 0 := rfl
  unfold dsI
  rw [e]
  by_cases z : (0 : Int32) ≤ x - w
  · rw [if_pos z, es]
    rw [i_le, l0, es] at z
    split <;> omega
  · rw [if_neg z, i_sub (by rw [l0, es]; omega) (by rw [l0, es]; omega), l0, es]
    rw [i_le, l0, es] at z
    split <;> omega
theorem s_pref {S : ST} {i c bst : Nat} {w : Int32} {post : Int32 → Prop} (hi : i < 8001) (hc : c < 8001) (hb : bst < 8001) (hl : ∀ j, (j = i ∨ j = c ∨ j = bst) → 0 ≤ (S.1 33 j).toInt ∧ (S.1 33 j).toInt ≤ 401) (hw : -1000 ≤ w.toInt) (hw2 : w.toInt ≤ 1000)
    (h1 : inR (S.1 33 bst).toInt w.toInt (S.1 33 i).toInt → prK w.toInt (S.2.1 36 i) (keyA (S.1 32) (S.1 33) (S.1 34) i) (S.2.1 36 c) (keyA (S.1 32) (S.1 33) (S.1 34) c) → post 1)
    (h0 : ¬ (inR (S.1 33 bst).toInt w.toInt (S.1 33 i).toInt ∧ prK w.toInt (S.2.1 36 i) (keyA (S.1 32) (S.1 33) (S.1 34) i) (S.2.1 36 c) (keyA (S.1 32) (S.1 33) (S.1 34) c)) → post 0) : wp_Se_isPreferred S (nI i) (nI c) (nI bst) w post := by
  have pi : vp_in (nI i) 8001 := vp_in_nI hi (by omega)
  have pc : vp_in (nI c) 8001 := vp_in_nI hc (by omega)
  have pb : vp_in (nI bst) 8001 := vp_in_nI hb (by omega)
  have li := hl i (Or.inl rfl)
  have lc := hl c (Or.inr (Or.inl rfl))
  have lb := hl bst (Or.inr (Or.inr rfl))
  unfold wp_Se_isPreferred
  rw [nI_clamp (by omega), nI_clamp (by omega), nI_clamp (by omega)]
  refine ⟨pi, fun v1 e1 => ⟨pb, fun v2 e2 => ⟨pb, fun v3 e3 => ?_⟩⟩⟩
  subst e1
  have t2 : v2.toInt = if w.toInt < (S.1 33 bst).toInt then w.toInt else (S.1 33 bst).toInt := by
    rw [e2]
    by_cases z : w < S.1 33 bst
    · rw [if_pos z]; rw [i_lt] at z; rw [if_pos z]
    · rw [if_neg z]; rw [i_lt] at z; rw [if_neg z]
  have t3 : v3.toInt = if (S.1 33 bst).toInt < w.toInt then w.toInt else (S.1 33 bst).toInt := by
    rw [e3]
    by_cases z : S.1 33 bst < w
    · rw [if_pos z]; rw [i_lt] at z; rw [if_pos z]
    · rw [if_neg z]; rw [i_lt] at z; rw [if_neg z]
  rw [i_lt, i_le, t2, t3]
  have nin : ¬ inR (S.1 33 bst).toInt w.toInt (S.1 33 i).toInt → post 0 := fun h => h0 fun z => h z.1
  refine ⟨fun z => nin ?_, fun z => ⟨fun z2 v4 e4 => ⟨pc, fun v5 e5 => ?_⟩, fun z2 => nin ?_⟩⟩
  · unfold inR; split at z <;> omega
  · have hin : inR (S.1 33 bst).toInt w.toInt (S.1 33 i).toInt := by unfold inR; split at z <;> split at z2 <;> omega
    have t4 := abs_ds (by omega) (by omega) hw hw2 e4
    have t5 := abs_ds (by omega) (by omega) hw hw2 e5
    rw [i_lt, i_eq, t4, t5]
    refine ⟨fun y => h1 hin (Or.inl y), fun y => ⟨fun y2 => h0 ?_, fun y2 => s_better hi hc (fun y3 => ⟨fun u => absurd u (by decide), fun _ => h1 hin (Or.inr ⟨y2, y3⟩)⟩) (fun y3 => ⟨fun _ => h0 ?_, fun u => absurd rfl u⟩)⟩⟩
    · rintro ⟨-, u | ⟨u, -⟩⟩
      · exact y u
      · exact y2 u
    · rintro ⟨-, u | ⟨-, u⟩⟩
      · exact y u
      · exact y3 u
  · unfold inR; split at z2 <;> omega
/-- every one alive at the end stands at the last place, and all that stand there are alive -/
theorem last_alive {X : Nat → Nat → Int32} {m : Nat} {more tol : Int32} {lst hyp : Prop} (hG : Gd X m) (k : KEY) : (runN X m more tol lst hyp (m + 3)).2 k ↔ ∃ t g, (runN X m more tol lst hyp (m + 3)).1 k t g ∧ k.1 = nI (m + 2) := by
  have hm := hG.1
  obtain ⟨pl, ff⟩ := lastPl hG hyp
  have hI := run_inv (more := more) (tol := tol) (lst := lst) (hyp := hyp) hG (m + 2) (by omega)
  constructor
  · rintro (⟨h, -⟩ | ⟨-, ⟨-, h⟩ | ⟨t, g, h⟩⟩)
    · exact absurd pl h
    · exact absurd (Or.inl ff) h
    · exact ⟨t, g, Or.inr ⟨pl, h⟩, (new_of h).2.1⟩
  · rintro ⟨t, g, h | ⟨-, h⟩, e⟩
    · rcases okK_p (hI.1 k t g h) with z | ⟨j, hj, z⟩
      · rw [z] at e
        have := congrArg Int32.toInt e
        rw [nI_toInt (by omega)] at this
        have : (-1 : Int) = ((m + 2 : Nat) : Int) := this
        omega
      · rw [z] at e
        have := (nI_eq (by omega) (by omega)).mp e
        omega
    · exact Or.inr ⟨pl, Or.inr ⟨t, g, h⟩⟩
theorem s_choose {S : ST} {X : Nat → Nat → Int32} {m n ac : Nat} {more tol : Int32} {lst hyp : Prop} {b : Nat → Nat} {post : Int32 → Prop} (hG : Gd X m) (hS : GalS X m S) (hL : (S.2.2 1865 = 0 ∧ ¬ lst) ∨ (S.2.2 1865 = 1 ∧ lst))
    (hC : CVv X m more tol (m + 3) n ac b (runN X m more tol lst hyp (m + 3)).1 (runN X m more tol lst hyp (m + 3)).2 (S.1 32) (S.1 33) (S.1 34) (S.1 35) (S.1 39) (S.1 40) (S.2.1 36) (S.2.2 1862) (S.2.2 1923) (S.2.2 1924) (S.2.2 1925) (S.2.2 1926) (S.2.2 1927) (S.2.2 1928) (S.2.2 1989) (S.2.2 2370) (S.2.2 2371)) (hfp : fpV m n ac (S.1 32) (S.2.2 1863))
    (hp1 : ∀ c, 0 < c → c < n → Cho X lst (runN X m more tol lst hyp (m + 3)).1 m (keyA (S.1 32) (S.1 33) (S.1 34) c) → post (nI c)) (hp0 : (∀ k, ¬ Cho X lst (runN X m more tol lst hyp (m + 3)).1 m k) → post 0) : wp_Se_choose S post := by
  have hm := hG.1
  have la := last_alive (more := more) (tol := tol) (lst := lst) (hyp := hyp) hG
  generalize (runN X m more tol lst hyp (m + 3)).1 = N at *
  generalize (runN X m more tol lst hyp (m + 3)).2 = A at *
  obtain ⟨c1, c2, c3, c4, c5, c6, c7, c8, c9, c10, c11, c12⟩ := hC
  have hn8 := c2.2.2.2.2.1
  have hacn := inc_len c5
  have h12 := hS.2.2.2.2.2.2.2.2.2.2.1
  have h9 := hG.2.2.2.2.1.1 9 (by omega)
  have b9 : (tb_least 9).toInt = -100 := rfl
  have b9' : (tb_most 9).toInt = 100 := rfl
  unfold wp_Se_choose
  rw [c3]
  refine ⟨fun z v1 e1 v2 e2 => ?_, fun z => hp0 ?_⟩
  · have hac : 0 < ac := by
      rcases Nat.eq_zero_or_pos ac with w | w
      · subst w; exact absurd rfl z
      · exact w
    obtain ⟨fp, efp, hfn, hfi⟩ := hfp hac
    rw [efp] at e1 e2
    rw [nI_1] at e2
    subst e1 e2
    have rep_i : ∀ i, i < n → ∃ g, N (keyA (S.1 32) (S.1 33) (S.1 34) i) (S.2.1 36 i) g := fun i hi => ⟨_, (c2.1 _ _ _).mpr ⟨i, hi, rfl, rfl, rfl⟩⟩
    have lak : ∀ i, fp ≤ i → i < n → laK N m (keyA (S.1 32) (S.1 33) (S.1 34) i) (S.2.1 36 i) := fun i h1 h2 => ⟨rep_i i h2, (hfi i h2).mp h1⟩
    have kal : ∀ k t, laK N m k t → ∃ i, fp ≤ i ∧ i < n ∧ k = keyA (S.1 32) (S.1 33) (S.1 34) i ∧ t = S.2.1 36 i := by
      rintro k t ⟨⟨g, h⟩, h2⟩
      obtain ⟨i, hi, rfl, rfl, -⟩ := (c2.1 _ _ _).mp h
      exact ⟨i, (hfi i hi).mpr h2, hi, rfl, rfl⟩
    have h1fp : 0 < fp := by
      rcases Nat.eq_zero_or_pos fp with w | w
      · subst w
        have h0 := (hfi 0 (by omega)).mp (by omega)
        have h0' : S.1 32 0 = -1 := congrArg Prod.fst c2.2.2.2.2.2
        rw [h0'] at h0
        have := congrArg Int32.toInt h0
        rw [nI_toInt (by omega)] at this
        have : (-1 : Int) = ((m + 2 : Nat) : Int) := this
        omega
      · exact w
    have hfn2 : fp < n := by
      obtain ⟨t, g, h, h2⟩ := (la _).mp ((c6 _).mpr ⟨0, hac, rfl⟩)
      obtain ⟨i, q1, q2, -⟩ := kal _ t ⟨⟨g, h⟩, h2⟩
      omega
    have lns : ∀ i, i < n → 0 ≤ (S.1 33 i).toInt ∧ (S.1 33 i).toInt ≤ 401 := by
      intro i hi
      obtain ⟨l, el, ll, -⟩ := okK_l hm (c11.1 _ _ _ ((c2.1 _ _ _).mpr ⟨i, hi, rfl, rfl, rfl⟩))
      have el : S.1 33 i = nI l := el
      rw [el, nI_toInt (by omega)]
      omega
    -- the second loop
    have loop2 : ∀ (bi : Nat) (w : Int32), fp ≤ bi → bi < n → BestK N m (keyA (S.1 32) (S.1 33) (S.1 34) bi) → w.toInt = (S.1 33 bi).toInt + (X 9 9).toInt → ∀ (q i c : Nat), i ≤ n → n < i + q → fp ≤ c → c < n → fp ≤ i → inR (S.1 33 bi).toInt w.toInt (S.1 33 c).toInt → (∀ j, fp ≤ j → j < i → inR (S.1 33 bi).toInt w.toInt (S.1 33 j).toInt → ¬ prK w.toInt (S.2.1 36 j) (keyA (S.1 32) (S.1 33) (S.1 34) j) (S.2.1 36 c) (keyA (S.1 32) (S.1 33) (S.1 34) c)) → wl_Se_choose_81 S post q (nI bi) w (nI c) (nI i) := by
      intro bi w hb1 hb2 hbest ew q
      have lb := lns bi hb2
      induction q with
      | zero => intro i c _ h; omega
      | succ q ih =>
        intro i c hi hq hc1 hc2 hfi2 hin hall
        unfold wl_Se_choose_81
        rw [c1]
        refine ⟨fun y => ?_, fun y => ?_⟩
        · have := (nI_leI (by omega) (by omega)).mp y
          have hin' : i = n := by omega
          subst hin'
          have chs : ChsK N m (S.1 33 bi).toInt ((S.1 33 bi).toInt + (X 9 9).toInt) (keyA (S.1 32) (S.1 33) (S.1 34) c) := by
            rw [← ew]
            refine ⟨S.2.1 36 c, lak c hc1 hc2, hin, fun k' t' hk' hr => ?_⟩
            obtain ⟨j, j1, j2, rfl, rfl⟩ := kal k' t' hk'
            exact hall j j1 j2 hr
          have ee : (S.1 33 c = w) ↔ (S.1 33 c).toInt = (S.1 33 bi).toInt + (X 9 9).toInt := by rw [i_eq, ew]
          rw [nI_clamp (by omega), ee]
          refine ⟨fun y2 => hp1 c (by omega) hc2 ⟨_, hbest, chs, Or.inl ?_⟩, fun y2 => ⟨vp_in_nI (by omega) (by omega), fun y3 => hp0 fun k hk => ?_, fun y3 => hp1 c (by omega) hc2 ⟨_, hbest, chs, Or.inr y3⟩⟩⟩
          · rcases hL with ⟨h, -⟩ | ⟨-, h⟩
            · exact absurd h y2
            · exact h
          · obtain ⟨kb, a1, a2, a3⟩ := hk
            have := best_uniq a1 hbest
            subst this
            have := chs_uniq a2 chs
            subst this
            rcases a3 with a3 | a3
            · rcases hL with ⟨-, h⟩ | ⟨h, -⟩
              · exact h a3
              · rw [h] at y2; exact absurd y2 (by decide)
            · exact y3 a3
        · have hlt : i < n := by
            rcases Nat.lt_or_ge i n with u | u
            · exact u
            · exact absurd ((nI_leI (by omega) (by omega)).mpr u) y
          refine s_pref (by omega) (by omega) (by omega) (fun j hj => ?_) (by omega) (by omega) (fun r1 r2 => ⟨fun u => absurd u (by decide), fun _ v ev => ?_⟩) (fun r => ⟨fun _ v ev => ?_, fun u => absurd rfl u⟩)
          · rcases hj with rfl | rfl | rfl
            · exact lns _ hlt
            · exact lns _ hc2
            · exact lns _ hb2
          · rw [ev, nI_1]
            refine ih (i + 1) i (by omega) (by omega) (by omega) hlt (by omega) r1 (fun j j1 j2 hr => ?_)
            by_cases u : j = i
            · subst u
              intro hp
              unfold prK lsK at hp
              omega
            · exact pr_neg (hall j j1 (by omega) hr) r2
          · rw [ev, nI_1]
            refine ih (i + 1) c (by omega) (by omega) hc1 hc2 (by omega) hin (fun j j1 j2 hr => ?_)
            by_cases u : j = i
            · subst u
              exact fun hp => r ⟨hr, hp⟩
            · exact hall j j1 (by omega) hr
    -- the first loop
    have loop1 : ∀ (q i bi : Nat), i ≤ n → n < i + q → fp ≤ bi → bi < i → (∀ j, fp ≤ j → j < i → ¬ lsK (S.2.1 36 j) (keyA (S.1 32) (S.1 33) (S.1 34) j) (S.2.1 36 bi) (keyA (S.1 32) (S.1 33) (S.1 34) bi)) → wl_Se_choose_21 S post q (nI bi) (nI i) := by
      intro q
      induction q with
      | zero => intro i bi _ h; omega
      | succ q ih =>
        intro i bi hi hq hb1 hb2 hall
        unfold wl_Se_choose_21
        rw [c1]
        refine ⟨fun y => ?_, fun y => ?_⟩
        · have := (nI_leI (by omega) (by omega)).mp y
          have hin' : i = n := by omega
          subst hin'
          rw [nI_clamp (by omega), show (9 : Int32).toNatClampNeg = 9 from rfl, h12 9 (by omega)]
          refine ⟨vp_in_nI (by omega) (by omega), by unfold vp_in; decide, fun v1 e1 v2 e2 => ?_⟩
          rw [efp] at e2
          subst e2
          have lb := lns bi hb2
          have ew : v1.toInt = (S.1 33 bi).toInt + (X 9 9).toInt := by rw [e1, i_add (by omega) (by omega)]
          have hbest : BestK N m (keyA (S.1 32) (S.1 33) (S.1 34) bi) := by
            refine ⟨S.2.1 36 bi, lak bi hb1 hb2, fun k' t' hk' => ?_⟩
            obtain ⟨j, j1, j2, rfl, rfl⟩ := kal k' t' hk'
            exact hall j j1 j2
          refine ⟨i + 1, loop2 bi v1 hb1 hb2 hbest ew (i + 1) fp bi (by omega) (by omega) hb1 hb2 (by omega) (by unfold inR; omega) (fun j j1 j2 => absurd j2 (by omega))⟩
        · have hlt : i < n := by
            rcases Nat.lt_or_ge i n with u | u
            · exact u
            · exact absurd ((nI_leI (by omega) (by omega)).mpr u) y
          refine s_better (by omega) (by omega) (fun r => ⟨fun u => absurd u (by decide), fun _ v ev => ?_⟩) (fun r => ⟨fun _ v ev => ?_, fun u => absurd rfl u⟩)
          · rw [ev, nI_1]
            refine ih (i + 1) i (by omega) (by omega) (by omega) (by omega) (fun j j1 j2 => ?_)
            by_cases u : j = i
            · subst u
              unfold lsK
              omega
            · exact ls_neg (hall j j1 (by omega)) r
          · rw [ev, nI_1]
            refine ih (i + 1) bi (by omega) (by omega) hb1 (by omega) (fun j j1 j2 => ?_)
            by_cases u : j = i
            · subst u; exact r
            · exact hall j j1 (by omega)
    exact ⟨n + 1, loop1 (n + 1) (fp + 1) fp (by omega) (by omega) (by omega) (by omega) (fun j j1 j2 => by
      have : j = fp := by omega
      subst this
      unfold lsK
      omega)⟩
  · have hac : ac = 0 := (nI_eq (b := 0) (by omega) (by omega)).mp z
    rintro k ⟨kb, ⟨t, ⟨⟨g, h⟩, h2⟩, -⟩, -⟩
    obtain ⟨y, hy, -⟩ := (c6 kb).mp ((la kb).mpr ⟨t, g, h, h2⟩)
    omega
