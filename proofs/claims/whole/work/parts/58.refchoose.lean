/-! the reference's choose -/
theorem inR_iff {lb w l : Int} : inR lb w l ↔ (l - lb) * (l - w) ≤ 0 := by
  unfold inR
  constructor
  · rintro (⟨h1, h2⟩ | ⟨h1, h2⟩)
    · have := Int.mul_nonneg (a := l - lb) (b := w - l) (by omega) (by omega)
      have e : (l - lb) * (l - w) = -((l - lb) * (w - l)) := by rw [← Int.mul_neg]; congr 1; omega
      omega
    · have := Int.mul_nonneg (a := lb - l) (b := l - w) (by omega) (by omega)
      have e : (l - lb) * (l - w) = -((lb - l) * (l - w)) := by rw [← Int.neg_mul]; congr 1; omega
      omega
  · intro h
    rcases Int.lt_or_le l lb with a | a
    · rcases Int.lt_or_le l w with b | b
      · have := Int.mul_pos (a := lb - l) (b := w - l) (by omega) (by omega)
        have e : (l - lb) * (l - w) = (lb - l) * (w - l) := by
          rw [← Int.neg_mul_neg]
          congr 1 <;> omega
        omega
      · exact Or.inr ⟨b, by omega⟩
    · rcases Int.lt_or_le w l with b | b
      · by_cases c : l = lb
        · exact Or.inr ⟨by omega, by omega⟩
        · have := Int.mul_pos (a := l - lb) (b := l - w) (by omega) (by omega)
          omega
      · exact Or.inl ⟨a, b⟩
theorem s_Mless {S : ST} {i j : Nat} {post : Int32 → Prop} (hi : i < 8001) (hj : j < 8001) (h1 : lsK (S.2.1 18 i) (keyA (S.1 15) (S.1 16) (S.1 17) i) (S.2.1 18 j) (keyA (S.1 15) (S.1 16) (S.1 17) j) → post 1) (h0 : ¬ lsK (S.2.1 18 i) (keyA (S.1 15) (S.1 16) (S.1 17) i) (S.2.1 18 j) (keyA (S.1 15) (S.1 16) (S.1 17) j) → post 0) : wp_Mo_isLess S (nI i) (nI j) post := by
  have pi : vp_in (nI i) 8001 := vp_in_nI hi (by omega)
  have pj : vp_in (nI j) 8001 := vp_in_nI hj (by omega)
  unfold wp_Mo_isLess
  rw [nI_clamp (by omega), nI_clamp (by omega), lc_eq, lc_ge, i_lt, i_eq, i_le]
  unfold lsK keyA at h1 h0
  refine ⟨pi, pj, fun a => ⟨pi, pj, fun b => h1 ?_, fun b => ⟨pi, pj, fun c => h0 ?_, fun c => ⟨pi, pj, fun d => h0 ?_, fun d => h1 ?_⟩⟩⟩, fun a => ⟨pi, pj, fun c => h0 ?_, fun c => h1 ?_⟩⟩
  · simp only; omega
  · simp only; omega
  · simp only; omega
  · simp only; omega
  · simp only; omega
  · simp only; omega
theorem s_apart {S : ST} {x w : Int32} {post : Int32 → Prop} (hx : -1000 ≤ x.toInt) (hx2 : x.toInt ≤ 1000) (hw : -1000 ≤ w.toInt) (hw2 : w.toInt ≤ 1000) (hp : ∀ r : Int32, r.toInt = dsI x.toInt w.toInt → post r) : wp_Mo_apart S x w post := by
  unfold wp_Mo_apart
  unfold dsI at hp
  refine ⟨fun z => hp _ ?_, fun z => hp _ ?_⟩
  · rw [i_le] at z
    rw [if_pos z, i_sub (by omega) (by omega)]
  · rw [i_le] at z
    rw [if_neg z, i_sub (by omega) (by omega)]
theorem s_Mchoose {T : ST} {X : Nat → Nat → Int32} {m num n : Nat} {lst : Prop} {N : KEY → Int64 → KEY → Prop} {A : KEY → Prop} {post : Int32 → Prop} (hG : Gd X m) (hAg : agr X m T) (hNum : T.2.2 16 = nI num) (hn3 : num ≤ 3) (hlst : lst ↔ num = (if 0 < (X 9 8).toInt then 3 else 2)) (h20 : T.2.2 20 = nI (n - 1)) (hR : Rep (T.1 15) (T.1 16) (T.1 17) (T.1 19) (T.2.1 18) n N) (hI : InvN m (m + 3) N A)
    (hp1 : ∀ c, 0 < c → c < n → Cho X lst N m (keyA (T.1 15) (T.1 16) (T.1 17) c) → post (nI c)) (hp0 : (∀ k, ¬ Cho X lst N m k) → post (-1)) : wp_Mo_choose T post := by
  have hm := hG.1
  have n0 := hR.2.2.2.1
  have hn8 := hR.2.2.2.2.1
  have h9 := hAg.1 9 (by omega) (by omega)
  have s9 := hG.2.2.2.2.1.1 9 (by omega)
  have b9 : (tb_least 9).toInt = -100 := rfl
  have b9' : (tb_most 9).toInt = 100 := rfl
  have l0 : (0 : Int32).toInt = 0 := rfl
  have lak : ∀ i, i < n → T.1 15 i = nI (m + 2) → laK N m (keyA (T.1 15) (T.1 16) (T.1 17) i) (T.2.1 18 i) := fun i h1 h2 => ⟨⟨_, (hR.1 _ _ _).mpr ⟨i, h1, rfl, rfl, rfl⟩⟩, h2⟩
  have kal : ∀ k t, laK N m k t → ∃ i, 1 ≤ i ∧ i < n ∧ T.1 15 i = nI (m + 2) ∧ k = keyA (T.1 15) (T.1 16) (T.1 17) i ∧ t = T.2.1 18 i := by
    rintro k t ⟨⟨g, h⟩, h2⟩
    obtain ⟨i, hi, rfl, rfl, -⟩ := (hR.1 _ _ _).mp h
    have h2 : T.1 15 i = nI (m + 2) := h2
    refine ⟨i, ?_, hi, h2, rfl, rfl⟩
    rcases Nat.eq_zero_or_pos i with w | w
    · subst w
      have h0' : T.1 15 0 = -1 := congrArg Prod.fst hR.2.2.2.2.2
      rw [h0'] at h2
      have := congrArg Int32.toInt h2
      rw [nI_toInt (by omega)] at this
      have : (-1 : Int) = ((m + 2 : Nat) : Int) := this
      omega
    · exact w
  have lns : ∀ i, i < n → 0 ≤ (T.1 16 i).toInt ∧ (T.1 16 i).toInt ≤ 401 := by
    intro i hi
    obtain ⟨l, el, ll, -⟩ := okK_l hm (hI.1 _ _ _ ((hR.1 _ _ _).mpr ⟨i, hi, rfl, rfl, rfl⟩))
    have el : T.1 16 i = nI l := el
    rw [el, nI_toInt (by omega)]
    omega
  -- the second loop
  have loop2 : ∀ (bi : Nat) (w : Int32), 1 ≤ bi → bi < n → BestK N m (keyA (T.1 15) (T.1 16) (T.1 17) bi) → w.toInt = (T.1 16 bi).toInt + (X 9 9).toInt → ∀ (q i c : Nat), i ≤ n → n < i + q → 1 ≤ i → 1 ≤ c → c < n → T.1 15 c = nI (m + 2) → inR (T.1 16 bi).toInt w.toInt (T.1 16 c).toInt → (∀ j, 1 ≤ j → j < i → T.1 15 j = nI (m + 2) → inR (T.1 16 bi).toInt w.toInt (T.1 16 j).toInt → ¬ prK w.toInt (T.2.1 18 j) (keyA (T.1 15) (T.1 16) (T.1 17) j) (T.2.1 18 c) (keyA (T.1 15) (T.1 16) (T.1 17) c)) → wl_Mo_choose_86 T post q (nI bi) w (nI c) (nI i) := by
    intro bi w hb1 hb2 hbest ew q
    have lb := lns bi hb2
    induction q with
    | zero => intro i c _ h; omega
    | succ q ih =>
      intro i c hi hq hi1 hc1 hc2 hpc hin hall
      have lc := lns c hc2
      unfold wl_Mo_choose_86
      rw [h20]
      refine ⟨fun y => ?_, fun y => ?_⟩
      · have := (nI_ltI (by omega) (by omega)).mp y
        have hin' : i = n := by omega
        subst hin'
        have chs : ChsK N m (T.1 16 bi).toInt ((T.1 16 bi).toInt + (X 9 9).toInt) (keyA (T.1 15) (T.1 16) (T.1 17) c) := by
          rw [← ew]
          refine ⟨T.2.1 18 c, lak c hc2 hpc, hin, fun k' t' hk' hr => ?_⟩
          obtain ⟨j, j1, j2, j3, rfl, rfl⟩ := kal k' t' hk'
          exact hall j j1 j2 j3 hr
        have ee : (T.1 16 c = w) ↔ (T.1 16 c).toInt = (T.1 16 bi).toInt + (X 9 9).toInt := by rw [i_eq, ew]
        have w253 : ∀ z0 : Int32, ((z0 = 0 ∧ ¬ lst) ∨ (z0 = 1 ∧ lst)) → wl_Mo_choose_253 T post w (nI c) z0 := by
          intro z0 hz0
          unfold wl_Mo_choose_253
          rw [nI_clamp (by omega), ee]
          refine ⟨fun y2 => hp1 c (by omega) hc2 ⟨_, hbest, chs, Or.inl ?_⟩, fun y2 => ⟨vp_in_nI (by omega) (by omega), fun y3 => hp1 c (by omega) hc2 ⟨_, hbest, chs, Or.inr y3⟩, fun y3 => hp0 fun k hk => ?_⟩⟩
          · rcases hz0 with ⟨h, -⟩ | ⟨-, h⟩
            · exact absurd h y2
            · exact h
          · obtain ⟨kb, a1, a2, a3⟩ := hk
            have := best_uniq a1 hbest
            subst this
            have := chs_uniq a2 chs
            subst this
            rcases a3 with a3 | a3
            · rcases hz0 with ⟨-, h⟩ | ⟨h, -⟩
              · exact h a3
              · rw [h] at y2; exact absurd y2 (by decide)
            · exact y3 a3
        have w245 : ∀ z1 : Nat, z1 = (if 0 < (X 9 8).toInt then 3 else 2) → wl_Mo_choose_245 T post w (nI c) (T.2.2 16) (nI z1) := by
          intro z1 hz1
          have hz3 : z1 ≤ 3 := by rw [hz1]; split <;> omega
          unfold wl_Mo_choose_245
          rw [hNum]
          refine ⟨fun y => w253 0 (Or.inl ⟨rfl, fun h => y ?_⟩), fun y => w253 1 (Or.inr ⟨rfl, hlst.mpr ?_⟩)⟩
          · rw [hlst.mp h, hz1]
          · rw [← hz1]; exact (nI_eq (by omega) (by omega)).mp y
        rw [h9, show (8 : Int32).toNatClampNeg = 8 from rfl, i_le, l0]
        exact ⟨in810, fun y => w245 2 (by rw [if_neg (by omega)]), fun y => w245 3 (by rw [if_pos (by omega)])⟩
      · have hlt : i < n := by
          rcases Nat.lt_or_ge i n with u | u
          · exact u
          · exact absurd ((nI_ltI (by omega) (by omega)).mpr (by omega)) y
        have pi : vp_in (nI i) 8001 := vp_in_nI (by omega) (by omega)
        have pb : vp_in (nI bi) 8001 := vp_in_nI (by omega) (by omega)
        have pc : vp_in (nI c) 8001 := vp_in_nI (by omega) (by omega)
        have li := lns i hlt
        have keep : ¬ (T.1 15 i = nI (m + 2) ∧ inR (T.1 16 bi).toInt w.toInt (T.1 16 i).toInt ∧ prK w.toInt (T.2.1 18 i) (keyA (T.1 15) (T.1 16) (T.1 17) i) (T.2.1 18 c) (keyA (T.1 15) (T.1 16) (T.1 17) c)) → ∀ v : Int32, v = nI i + 1 → wl_Mo_choose_86 T post q (nI bi) w (nI c) v := by
          intro hno v ev
          rw [ev, nI_1]
          refine ih (i + 1) c (by omega) (by omega) (by omega) hc1 hc2 hpc hin (fun j j1 j2 j3 hr => ?_)
          by_cases u : j = i
          · subst u
            exact fun hp => hno ⟨j3, hr, hp⟩
          · exact hall j j1 (by omega) j3 hr
        have take : T.1 15 i = nI (m + 2) → inR (T.1 16 bi).toInt w.toInt (T.1 16 i).toInt → prK w.toInt (T.2.1 18 i) (keyA (T.1 15) (T.1 16) (T.1 17) i) (T.2.1 18 c) (keyA (T.1 15) (T.1 16) (T.1 17) c) → ∀ v : Int32, v = nI i + 1 → wl_Mo_choose_86 T post q (nI bi) w (nI i) v := by
          intro hp hr hpr v ev
          rw [ev, nI_1]
          refine ih (i + 1) i (by omega) (by omega) (by omega) hi1 hlt hp hr (fun j j1 j2 j3 hr' => ?_)
          by_cases u : j = i
          · subst u
            intro hp
            unfold prK lsK at hp
            omega
          · exact pr_neg (hall j j1 (by omega) j3 hr') hpr
        unfold wl_Mo_choose_140 wl_Mo_choose_141
        rw [nI_clamp (by omega), nI_clamp (by omega), nI_clamp (by omega), hAg.2]
        refine ⟨pi, fun z => ⟨fun _ => keep fun h => z h.1, fun u => absurd rfl u⟩, fun z => ⟨pi, pb, pi, fun u => ⟨fun _ => keep fun h => ?_, fun u => absurd rfl u⟩, fun u => ⟨fun u => absurd u (by decide), fun _ => ⟨pi, ?_⟩⟩⟩⟩
        · -- out of the range
          have e1 : (T.1 16 i - T.1 16 bi).toInt = (T.1 16 i).toInt - (T.1 16 bi).toInt := i_sub (by omega) (by omega)
          have e2 : (T.1 16 i - w).toInt = (T.1 16 i).toInt - w.toInt := i_sub (by omega) (by omega)
          have hpr := inR_iff.mp h.2.1
          have hr := h.2.1
          have bnd : -2147483648 ≤ ((T.1 16 i).toInt - (T.1 16 bi).toInt) * ((T.1 16 i).toInt - w.toInt) := by
            unfold inR at hr
            rcases hr with ⟨r1, r2⟩ | ⟨r1, r2⟩
            · have q1 := Int.mul_le_mul (a := (T.1 16 i).toInt - (T.1 16 bi).toInt) (b := w.toInt - (T.1 16 i).toInt) (c := 1000) (d := 1000) (by omega) (by omega) (by omega) (by omega)
              have e : ((T.1 16 i).toInt - (T.1 16 bi).toInt) * ((T.1 16 i).toInt - w.toInt) = -(((T.1 16 i).toInt - (T.1 16 bi).toInt) * (w.toInt - (T.1 16 i).toInt)) := by rw [← Int.mul_neg]; congr 1; omega
              omega
            · have q1 := Int.mul_le_mul (a := (T.1 16 bi).toInt - (T.1 16 i).toInt) (b := (T.1 16 i).toInt - w.toInt) (c := 1000) (d := 1000) (by omega) (by omega) (by omega) (by omega)
              have e : ((T.1 16 i).toInt - (T.1 16 bi).toInt) * ((T.1 16 i).toInt - w.toInt) = -(((T.1 16 bi).toInt - (T.1 16 i).toInt) * ((T.1 16 i).toInt - w.toInt)) := by rw [← Int.neg_mul]; congr 1; omega
              omega
          rw [i_lt, i_mul (by rw [e1, e2]; exact bnd) (by rw [e1, e2]; omega), e1, e2, l0] at u
          omega
        · have hr : inR (T.1 16 bi).toInt w.toInt (T.1 16 i).toInt := by
            refine inR_iff.mpr ?_
            have e1 : (T.1 16 i - T.1 16 bi).toInt = (T.1 16 i).toInt - (T.1 16 bi).toInt := i_sub (by omega) (by omega)
            have e2 : (T.1 16 i - w).toInt = (T.1 16 i).toInt - w.toInt := i_sub (by omega) (by omega)
            have a1 : ((T.1 16 i).toInt - (T.1 16 bi).toInt).natAbs ≤ 1000 := by omega
            have a2 : ((T.1 16 i).toInt - w.toInt).natAbs ≤ 1000 := by omega
            have a3 : (((T.1 16 i).toInt - (T.1 16 bi).toInt) * ((T.1 16 i).toInt - w.toInt)).natAbs ≤ 1000000 := by
              rw [Int.natAbs_mul]
              exact Nat.mul_le_mul a1 a2
            rw [i_lt, i_mul (by rw [e1, e2]; omega) (by rw [e1, e2]; omega), e1, e2, l0] at u
            omega
          refine s_apart (by omega) (by omega) (by omega) (by omega) (fun r2 e2 => ⟨pc, s_apart (by omega) (by omega) (by omega) (by omega) (fun r3 e3 => ?_)⟩)
          rw [i_lt, i_eq, e2, e3]
          refine ⟨fun s1 => take z hr (Or.inl s1), fun s1 => ⟨fun s2 => keep fun h => ?_, fun s2 => ⟨pi, pc, fun s3 => absurd ?_ s3, fun s3 => s_Mless (by omega) (by omega) (fun s4 => ⟨fun u => absurd u (by decide), fun _ => take z hr (Or.inr ⟨s2, s4⟩)⟩) (fun s4 => ⟨fun _ => keep fun h => ?_, fun u => absurd rfl u⟩)⟩⟩⟩
          · rcases h.2.2 with t | ⟨t, -⟩
            · exact s1 t
            · exact s2 t
          · rw [i_eq]
            unfold inR at hr hin
            unfold dsI at s2
            split at s2 <;> split at s2 <;> omega
          · rcases h.2.2 with t | ⟨-, t⟩
            · exact s1 t
            · exact s4 t
  -- the first loop
  have loop1 : ∀ (q i : Nat) (x : Int32), i ≤ n → n < i + q → 1 ≤ i → ((x = -1 ∧ ∀ j, 1 ≤ j → j < i → ¬ T.1 15 j = nI (m + 2)) ∨ (∃ bi, 1 ≤ bi ∧ bi < i ∧ x = nI bi ∧ T.1 15 bi = nI (m + 2) ∧ ∀ j, 1 ≤ j → j < i → T.1 15 j = nI (m + 2) → ¬ lsK (T.2.1 18 j) (keyA (T.1 15) (T.1 16) (T.1 17) j) (T.2.1 18 bi) (keyA (T.1 15) (T.1 16) (T.1 17) bi))) → wl_Mo_choose_4 T post q x (nI i) := by
    intro q
    induction q with
    | zero => intro i x _ h; omega
    | succ q ih =>
      intro i x hi hq hi1 hx
      unfold wl_Mo_choose_4
      rw [h20, h9, show (9 : Int32).toNatClampNeg = 9 from rfl]
      refine ⟨fun y => ?_, fun y => ?_⟩
      · have := (nI_ltI (by omega) (by omega)).mp y
        have hin' : i = n := by omega
        subst hin'
        rcases hx with ⟨rfl, hx⟩ | ⟨bi, b1, b2, rfl, b3, b4⟩
        · refine ⟨fun _ => hp0 ?_, fun u => absurd (by decide) u⟩
          rintro k ⟨kb, ⟨t, h1, -⟩, -⟩
          obtain ⟨j, j1, j2, j3, -⟩ := kal kb t h1
          exact hx j j1 j2 j3
        · have hbest : BestK N m (keyA (T.1 15) (T.1 16) (T.1 17) bi) := by
            refine ⟨T.2.1 18 bi, lak bi b2 b3, fun k' t' hk' => ?_⟩
            obtain ⟨j, j1, j2, j3, rfl, rfl⟩ := kal k' t' hk'
            exact b4 j j1 j2 j3
          have lb := lns bi b2
          have pb : vp_in (nI bi) 8001 := vp_in_nI (by omega) (by omega)
          have p9 : vp_in 9 10 := by unfold vp_in; decide
          refine ⟨fun u => ?_, fun _ => ⟨p9, fun z => ⟨pb, p9, fun v1 e1 => ?_⟩, fun z => hp1 bi (by omega) b2 ⟨_, hbest, ?_, Or.inr ?_⟩⟩⟩
          · rw [i_lt, nI_toInt (by omega), l0] at u
            omega
          · rw [nI_clamp (by omega)] at e1
            have ew : v1.toInt = (T.1 16 bi).toInt + (X 9 9).toInt := by rw [e1, i_add (by omega) (by omega)]
            exact ⟨i + 1, loop2 bi v1 b1 b2 hbest ew (i + 1) 1 bi (by omega) (by omega) (by omega) b1 b2 b3 (by unfold inR; omega) (fun j j1 j2 => absurd j2 (by omega))⟩
          · rw [z, l0]
            refine ⟨T.2.1 18 bi, lak bi b2 b3, by unfold inR keyA; simp only; omega, fun k' t' hk' hr hpr => ?_⟩
            obtain ⟨j, j1, j2, j3, rfl, rfl⟩ := kal k' t' hk'
            refine b4 j j1 j2 j3 ?_
            rcases hpr with t | ⟨-, t⟩
            · exfalso
              unfold dsI keyA at t
              unfold inR keyA at hr
              simp only at t hr
              split at t <;> split at t <;> omega
            · exact t
          · rw [z, l0]
            omega
      · have hlt : i < n := by
          rcases Nat.lt_or_ge i n with u | u
          · exact u
          · exact absurd ((nI_ltI (by omega) (by omega)).mpr (by omega)) y
        have pi : vp_in (nI i) 8001 := vp_in_nI (by omega) (by omega)
        rw [nI_clamp (by omega), hAg.2]
        refine ⟨pi, fun z v ev => ?_, fun z => ⟨fun u v ev => ?_, fun u => ?_⟩⟩
        · rw [ev, nI_1]
          refine ih (i + 1) x (by omega) (by omega) (by omega) ?_
          rcases hx with ⟨h1, h2⟩ | ⟨bi, b1, b2, b3, b4, b5⟩
          · refine Or.inl ⟨h1, fun j j1 j2 => ?_⟩
            by_cases w : j = i
            · subst w; exact z
            · exact h2 j j1 (by omega)
          · refine Or.inr ⟨bi, b1, by omega, b3, b4, fun j j1 j2 j3 => ?_⟩
            by_cases w : j = i
            · subst w; exact absurd j3 z
            · exact b5 j j1 (by omega) j3
        · rw [ev, nI_1]
          refine ih (i + 1) (nI i) (by omega) (by omega) (by omega) (Or.inr ⟨i, hi1, by omega, rfl, z, fun j j1 j2 j3 => ?_⟩)
          by_cases w : j = i
          · subst w
            unfold lsK
            omega
          · rcases hx with ⟨h1, h2⟩ | ⟨bi, b1, b2, b3, b4, b5⟩
            · exact absurd j3 (h2 j j1 (by omega))
            · rw [b3, i_lt, nI_toInt (by omega), l0] at u
              omega
        · rcases hx with ⟨h1, h2⟩ | ⟨bi, b1, b2, b3, b4, b5⟩
          · exact absurd (by rw [h1]; decide) u
          · subst b3
            refine s_Mless (by omega) (by omega) (fun r => ⟨fun t => absurd t (by decide), fun _ v ev => ?_⟩) (fun r => ⟨fun _ v ev => ?_, fun t => absurd rfl t⟩)
            · rw [ev, nI_1]
              refine ih (i + 1) (nI i) (by omega) (by omega) (by omega) (Or.inr ⟨i, hi1, by omega, rfl, z, fun j j1 j2 j3 => ?_⟩)
              by_cases w : j = i
              · subst w
                unfold lsK
                omega
              · exact ls_neg (b5 j j1 (by omega) j3) r
            · rw [ev, nI_1]
              refine ih (i + 1) (nI bi) (by omega) (by omega) (by omega) (Or.inr ⟨bi, b1, by omega, rfl, b4, fun j j1 j2 j3 => ?_⟩)
              by_cases w : j = i
              · subst w; exact r
              · exact b5 j j1 (by omega) j3
  unfold wp_Mo_choose
  exact ⟨n + 1, loop1 (n + 1) 1 (-1) (by omega) (by omega) (by omega) (Or.inl ⟨rfl, fun j j1 j2 => by omega⟩)⟩
