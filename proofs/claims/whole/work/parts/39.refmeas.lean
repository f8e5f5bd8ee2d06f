/-! the reference's measure -/
def agr (X : Nat → Nat → Int32) (m : Nat) (T : ST) : Prop := (∀ j, 1 ≤ j → j ≤ 14 → T.1 j = X j) ∧ T.2.2 17 = nI (m + 2)
theorem s_Mhyp {T : ST} {X : Nat → Nat → Int32} {a : Int32} {e : Nat} {post : Int32 → Prop} (h1 : T.1 1 = X 1) (he : e ≤ 403) (ha : befo a e) (hy : ∀ j, j < e → a = nI j → X 1 j = 5 → post 1) (hn : (a < 0 ∨ ∃ j, j < e ∧ a = nI j ∧ ¬ X 1 j = 5) → post 0) : wp_Mo_isHyphen T a post := by
  unfold wp_Mo_isHyphen
  rw [h1]
  rcases befo_cases (by omega) ha with ⟨z, z2⟩ | ⟨j, hj, ej, z2, cj⟩
  · exact ⟨fun _ => hn (Or.inl z2), fun y => absurd z2 y⟩
  · rw [cj]
    refine ⟨fun y => absurd y z2, fun _ => ⟨?_, fun y => hn (Or.inr ⟨j, hj, ej, y⟩), fun y => hy j hj ej y⟩⟩
    rw [ej]
    exact vp_in_nI (by omega) (by omega)
theorem s_drop {T : ST} {X : Nat → Nat → Int32} {k : Nat} {post : Int32 → Prop} (h1 : T.1 1 = X 1) (hk : k < 410) (ha : drp X k → post 1) (hb : ¬ drp X k → post 0) : wp_Mo_isDropped T (nI k) post := by
  have hp : vp_in (nI k) 410 := vp_in_nI hk (by omega)
  unfold wp_Mo_isDropped
  rw [h1, nI_clamp (by omega)]
  unfold drp at ha hb
  refine ⟨hp, fun y => ha (Or.inl y), fun y => ⟨hp, fun y2 => ha (Or.inr (Or.inl y2)), fun y2 => ⟨hp, fun y3 => hb ?_, fun y3 => ha (Or.inr (Or.inr y3))⟩⟩⟩
  rintro (z | z | z) <;> contradiction
theorem s_first54 {T : ST} {X : Nat → Nat → Int32} {m : Nat} {post : Int32 → Prop} (hm : m ≤ 400) (h1 : T.1 1 = X 1) (h17 : T.2.2 17 = nI (m + 2)) : ∀ (n k : Nat), k ≤ m + 3 → m + 3 < k + n → post (nI (nk X (m + 2) k)) → wl_Mo_firstOf_54 T post n (nI k) 1 := by
  intro n
  induction n with
  | zero => intro k _ h; omega
  | succ n ih =>
    intro k hk hn hp
    unfold wl_Mo_firstOf_54
    rw [h17]
    refine ⟨fun z => absurd z (by decide), fun _ => ⟨fun q => ?_, fun q => ?_⟩⟩
    · have := (nI_ltI (by omega) (by omega)).mp q
      have : k = m + 3 := by omega
      subst this
      rw [show nk X (m + 2) (m + 3) = m + 3 from nk_end] at hp
      exact hp
    · have hk2 : k ≤ m + 2 := by
        rcases Nat.lt_or_ge (m + 2) k with z | z
        · exact absurd ((nI_ltI (by omega) (by omega)).mpr z) q
        · exact z
      refine s_drop h1 (by omega) (fun d => ⟨fun z => absurd z (by decide), fun _ v e => ?_⟩) (fun d => ⟨fun _ => ?_, fun z => absurd rfl z⟩)
      · rw [e, nI_1]
        refine ih (k + 1) (by omega) (by omega) ?_
        rw [← nk_drp (by omega) d]
        exact hp
      · rw [nk_not (by omega) d] at hp
        exact hp
theorem s_Mfirst {T : ST} {X : Nat → Nat → Int32} {m e : Nat} {a : Int32} {post : Int32 → Prop} (hG : Gd X m) (hA : agr X m T) (he : e < m + 3) (ha : befo a e) (hp : post (nI (fsX X (m + 2) a))) : wp_Mo_firstOf T a post := by
  obtain ⟨hm, hI, hR, -⟩ := hG
  have h1 := hA.1 1 (by omega) (by omega)
  have h7 := hA.1 7 (by omega) (by omega)
  have h8 := hA.1 8 (by omega) (by omega)
  have h17 := hA.2
  unfold wp_Mo_firstOf wl_Mo_firstOf_28
  rw [h7, h8]
  unfold fsX at hp
  have ha' := ha
  rcases befo_cases (by omega) ha' with ⟨z, z2⟩ | ⟨j, hj, ej, z2, cj⟩
  · rw [if_pos z2] at hp
    refine ⟨fun y => absurd y ?_, fun _ => hp⟩
    rw [z]; decide
  · rw [if_neg z2, cj] at hp
    unfold fsN at hp
    have pj : vp_in a 410 := by rw [ej]; exact vp_in_nI (by omega) (by omega)
    refine ⟨fun _ => s_Mhyp h1 (by omega) ha (fun j' hj' ej' y => ⟨fun w => absurd w (by decide), fun _ => ⟨pj, s_Mhyp h1 (by omega) ha (fun _ _ _ _ => ⟨fun w => absurd w (by decide), fun _ => ⟨pj, fun w => ?_, fun w => ?_⟩⟩) (fun w => ?_)⟩⟩) (fun y => ⟨fun _ => s_Mhyp h1 (by omega) ha (fun j' hj' ej' y' => ?_) (fun w => ⟨fun _ => ?_, fun w => absurd rfl w⟩), fun w => absurd rfl w⟩), fun y => absurd ?_ y⟩
    · have : j' = j := (nI_eq (by omega) (by omega)).mp (ej'.symm.trans ej)
      subst this
      rw [if_pos y] at hp
      rw [cj] at w ⊢
      rw [if_neg w] at hp
      have bb := rp_bd (hI j' (by omega)) y
      have e8 : X 8 j' = nI (rpN X j') := by rw [i_eq, nI_toInt (by omega)]; exact bb.1.symm
      refine ⟨1, ?_⟩
      unfold wl_Mo_firstOf_54
      refine ⟨fun _ => ?_, fun z => absurd rfl z⟩
      rw [ej, nI_1, e8, nI_add]
      exact hp
    · have : j' = j := (nI_eq (by omega) (by omega)).mp (ej'.symm.trans ej)
      subst this
      rw [if_pos y] at hp
      rw [cj] at w ⊢
      rw [if_pos w] at hp
      have bb := rp_bd (hI j' (by omega)) y
      have rr := (hR j' (by omega) y).1
      have e8 : X 8 j' = nI (rpN X j') := by rw [i_eq, nI_toInt (by omega)]; exact bb.1.symm
      rw [ej, nI_1, e8, nI_add]
      exact ⟨m + 4, s_first54 hm h1 h17 (m + 4) _ (by omega) (by omega) hp⟩
    · rcases w with w | ⟨j'', hj'', ej'', w⟩
      · exact absurd w z2
      · have h3 : j'' = j := (nI_eq (by omega) (by omega)).mp (ej''.symm.trans ej)
        have h4 : j' = j := (nI_eq (by omega) (by omega)).mp (ej'.symm.trans ej)
        rw [h3, ← h4] at w
        exact absurd y w
    · rcases y with y | ⟨j'', hj'', ej'', y⟩
      · exact absurd y z2
      · have h3 : j'' = j := (nI_eq (by omega) (by omega)).mp (ej''.symm.trans ej)
        have h4 : j' = j := (nI_eq (by omega) (by omega)).mp (ej'.symm.trans ej)
        rw [h3, ← h4] at y
        exact absurd y' y
    · rcases y with y | ⟨j'', hj'', ej'', y⟩
      · exact absurd y z2
      · have h3 : j'' = j := (nI_eq (by omega) (by omega)).mp (ej''.symm.trans ej)
        rw [h3] at y
        rw [if_neg y] at hp
        rw [ej]
        exact ⟨m + 4, s_first54 hm h1 h17 (m + 4) _ (by omega) (by omega) hp⟩
    · rw [ej, i_le, nI_toInt (by omega)]
      show (0 : Int) ≤ _
      omega
/-- glue of order j -/
def ioX (X : Nat → Nat → Int32) (j k : Nat) : Int := if X 1 k = 1 ∧ (X 4 k).toInt = j then (X 3 k).toInt else 0
theorem io_item {X : Nat → Nat → Int32} {k : Nat} (h : itX X k) : (∀ j, 0 ≤ ioX X j k) ∧ ioX X 0 k = (ifX X k).toInt ∧ ioX X 1 k + ioX X 2 k + ioX X 3 k = (ieX X k).toInt := by
  have l0 : (0 : Int32).toInt = 0 := rfl
  have st := st_item h
  have p3 := st.1
  unfold po at p3
  refine ⟨fun j => ?_, ?_, ?_⟩
  · unfold ioX; split <;> omega
  · unfold ioX ifX
    by_cases a : X 1 k = 1 ∧ X 4 k = 0
    · rw [if_pos a, if_pos ⟨a.1, by rw [a.2]; rfl⟩]
    · rw [if_neg a, if_neg, l0]
      rintro ⟨b, c⟩
      exact a ⟨b, by rw [i_eq, l0, c]; rfl⟩
  · unfold ioX ieX
    by_cases a : X 1 k = 1
    · have h4 : 0 ≤ (X 4 k).toInt ∧ (X 4 k).toInt ≤ 3 := by
        unfold itX at h
        rw [a] at h
        rcases h with h | h | h | h
        · exact absurd h.1 (by decide)
        · exact ⟨h.2.2.2.1, h.2.2.2.2.1⟩
        · exact absurd h.1 (by decide)
        · exact absurd h.1 (by decide)
      have z4 : X 4 k = 0 ↔ (X 4 k).toInt = 0 := by rw [i_eq, l0]
      simp only [a, true_and]
      have eI : (if ¬ X 4 k = 0 then X 3 k else 0).toInt = if (X 4 k).toInt = 0 then 0 else (X 3 k).toInt := by
        by_cases b : X 4 k = 0
        · rw [if_neg (fun y => y b), if_pos (z4.mp b)]
          rfl
        · rw [if_pos b, if_neg (fun y => b (z4.mpr y))]
      rw [eI]
      split <;> split <;> split <;> split <;> omega
    · rw [if_neg (fun y => a y.1), if_neg (fun y => a y.1), if_neg (fun y => a y.1), if_neg (fun y => a y.1)]
      rfl
/-- addGlue on the four stretches -/
theorem s_addGlue {T : ST} {w st o sh : Int32} {post : (Nat → Int32) → Int32 → Int32 → Prop} (h0 : 0 ≤ o.toInt) (h3 : o.toInt ≤ 3) (hp : ∀ f : Nat → Int32, (∀ j : Nat, j < 4 → f j = T.1 21 j + Int32.ofInt (if o.toInt = j then st.toInt else 0)) → post f (T.2.2 28 + w) (T.2.2 30 + sh)) : wp_Mo_addGlue T w st o sh post := by
  have hp4 : vp_in o 4 := vin h0 (by omega)
  have ec : ((o.toNatClampNeg : Nat) : Int) = o.toInt := i_cl h0
  unfold wp_Mo_addGlue
  intro v1 e1
  refine ⟨hp4, hp4, fun f2 e2 v3 e3 => ?_⟩
  rw [e1, e3]
  refine hp f2 fun j hj => ?_
  rw [e2]
  by_cases z : j = o.toNatClampNeg
  · subst z
    rw [pk_us, if_pos (by omega), Int32.ofInt_toInt]
  · rw [pk_un z, if_neg (by omega), show Int32.ofInt 0 = 0 from rfl, Int32.add_zero]
theorem add3 (x y z : Int32) : x + y + z = x + (y + z) := Int32.add_assoc x y z
/-- the loop over the line's items -/
theorem s_meas136 {T : ST} {X : Nat → Nat → Int32} {m e s : Nat} {i27 : Int32} {post : (Nat → Int32) → Int32 → Int32 → Int32 → Prop} (hG : Gd X m) (hA : agr X m T) (he : e < m + 3) {B : Nat → Int} {bw bh : Int}
    (hp : ∀ (a21 : Nat → Int32) (i28 i30 : Int32), (∀ j, j < 4 → a21 j = Int32.ofInt (B j + rg (ioX X j) s e)) → i28 = Int32.ofInt (bw + rg (fun k => (iwX X k).toInt) s e + (befX X e).toInt) → i30 = Int32.ofInt (bh + rg (fun k => (isX X k).toInt) s e) → post a21 i27 i28 i30) :
    ∀ (n k : Nat) (a21 : Nat → Int32) (i28 i30 : Int32), s ≤ k → (k ≤ e ∨ k = s) → e < k + n ∧ 0 < n → (∀ j, j < 4 → a21 j = Int32.ofInt (B j + (psum (ioX X j) k - psum (ioX X j) s))) → i28 = Int32.ofInt (bw + (psum (fun k => (iwX X k).toInt) k - psum (fun k => (iwX X k).toInt) s)) → i30 = Int32.ofInt (bh + (psum (fun k => (isX X k).toInt) k - psum (fun k => (isX X k).toInt) s)) → k ≤ 500 → wl_Mo_measure_136 T post n a21 i27 i28 i30 (nI e) (nI k) := by
  have hG' := hG
  obtain ⟨hm, hI, -⟩ := hG'
  have h1 := hA.1 1 (by omega) (by omega)
  have h2 := hA.1 2 (by omega) (by omega)
  have h3 := hA.1 3 (by omega) (by omega)
  have h4 := hA.1 4 (by omega) (by omega)
  have h5 := hA.1 5 (by omega) (by omega)
  have h6 := hA.1 6 (by omega) (by omega)
  have pe : vp_in (nI e) 410 := vp_in_nI (by omega) (by omega)
  have ce : (nI e).toNatClampNeg = e := nI_clamp (by omega)
  have o0 : Int32.ofInt 0 = 0 := rfl
  intro n
  induction n with
  | zero => intro k a21 i28 i30 _ h h2; omega
  | succ n ih =>
    intro k a21 i28 i30 hsk hke hn ha hw hh hk5
    unfold wl_Mo_measure_136
    refine ⟨fun q => ?_, fun q => ?_⟩
    · have hek := (nI_leI (by omega) (by omega)).mp q
      have rgk : ∀ f : Nat → Int, psum f k - psum f s = rg f s e := by
        intro f
        unfold rg
        rcases hke with z | z
        · have : k = e := by omega
          subst this
          by_cases y : s < k
          · rw [if_pos y]
          · rw [if_neg y, show s = k by omega]; omega
        · subst z
          rw [if_neg (by omega)]; omega
      simp only [rgk] at ha hw hh
      have done : (X 1 e = 5 → X 6 e = -1073741824) → post a21 i27 i28 i30 := by
        intro y
        refine hp a21 i28 i30 ha ?_ hh
        have : befX X e = 0 := by
          unfold befX hyw
          by_cases z : X 1 e = 5
          · rw [if_pos z, if_pos (y z)]
          · rw [if_neg z]
        rw [this, show (0 : Int32).toInt = 0 from rfl, Int.add_zero]
        exact hw
      show wp_Mo_isHyphen _ _ _
      refine s_Mhyp (e := e + 1) (T := sI (sI (sI (sA T 21 a21) 27 i27) 28 i28) 30 i30) h1 (by omega) (Or.inr ⟨e, by omega, rfl⟩) (fun j hj ej y => ⟨fun w => absurd w (by decide), fun _ => ⟨pe, fun w => done fun _ => ?_, fun w => ⟨pe, fun v2 e2 => ?_⟩⟩⟩) (fun y => ⟨fun _ => done fun z => ?_, fun w => absurd rfl w⟩)
      · rw [ce, h6] at w
        exact w
      · have : j = e := (nI_eq (by omega) (by omega)).mp ej.symm
        subst this
        rw [ce, h6] at w e2
        refine hp a21 v2 i30 ha ?_ hh
        have : befX X j = X 6 j := by
          unfold befX hyw
          rw [if_pos y, if_neg w]
        rw [this, Int32.ofInt_add, ← hw, Int32.ofInt_toInt]
        exact e2
      · rcases y with y | ⟨j, hj, ej, y⟩
        · rw [i_lt, nI_toInt (by omega)] at y
          have y : (e : Int) < 0 := y
          omega
        · have : e = j := (nI_eq (by omega) (by omega)).mp ej
          subst this
          exact absurd z y
    · have hlt : k < e := by
        rcases Nat.lt_or_ge k e with z | z
        · exact z
        · exact absurd ((nI_leI (by omega) (by omega)).mpr z) q
      have pk : vp_in (nI k) 410 := vp_in_nI (by omega) (by omega)
      have io := io_item (hI k (by omega))
      rw [nI_clamp (by omega), h1, h2, h3, h4, h5]
      have go : ∀ (f : Nat → Int32) (x y : Int32), (∀ j, j < 4 → f j = a21 j + Int32.ofInt (ioX X j k)) → x = i28 + iwX X k → y = i30 + isX X k → ∀ v : Int32, v = nI k + 1 → wl_Mo_measure_136 T post n f i27 x y (nI e) v := by
        intro f x y hf hx hy v ev
        rw [ev, nI_1]
        have ps : ∀ g : Nat → Int, psum g (k + 1) - psum g s = psum g k - psum g s + g k := by
          intro g
          show psum g k + g k - psum g s = _
          omega
        refine ih (k + 1) f x y (by omega) (Or.inl (by omega)) (by omega) (fun j hj => ?_) ?_ ?_ (by omega)
        · rw [ps, ← Int.add_assoc, Int32.ofInt_add, ← ha j hj]
          exact hf j hj
        · rw [ps, ← Int.add_assoc, Int32.ofInt_add, ← hw, Int32.ofInt_toInt]
          exact hx
        · rw [ps, ← Int.add_assoc, Int32.ofInt_add, ← hh, Int32.ofInt_toInt]
          exact hy
      have sameo : ¬ X 1 k = 1 → ∀ j, j < 4 → a21 j = a21 j + Int32.ofInt (ioX X j k) := by
        intro y j _
        unfold ioX
        rw [if_neg (fun z => y z.1), o0, Int32.add_zero]
      have sames : ¬ X 1 k = 1 → i30 = i30 + isX X k := by
        intro y
        unfold isX
        rw [if_neg y, Int32.add_zero]
      refine ⟨pk, fun y => ⟨pk, fun y2 => ?_, fun y2 => ⟨pk, fun y3 => ?_, fun y3 => ⟨pk, fun v5 e5 => ?_⟩⟩⟩, fun y => ⟨pk, pk, pk, pk, ?_⟩⟩
      · refine go a21 i28 i30 (sameo y) ?_ (sames y)
        unfold iwX
        rw [if_pos (Or.inl y2), Int32.add_zero]
      · refine go a21 i28 i30 (sameo y) ?_ (sames y)
        unfold iwX
        rw [if_pos (Or.inr y3), Int32.add_zero]
      · refine go a21 v5 i30 (sameo y) ?_ (sames y)
        unfold iwX
        rw [if_neg (by rintro (z | z) <;> contradiction)]
        exact e5
      · have n4 : ¬ X 1 k = 4 := by rw [y]; decide
        have n5 : ¬ X 1 k = 5 := by rw [y]; decide
        have hi := hI k (by omega)
        unfold itX at hi
        rw [y] at hi
        rcases hi with hi | hi | hi | hi
        · exact absurd hi.1 (by decide)
        · refine s_addGlue (T := sI (sI (sI (sA T 21 a21) 27 i27) 28 i28) 30 i30) hi.2.2.2.1 hi.2.2.2.2.1 (fun f hf => go f _ _ (fun j hj => ?_) ?_ ?_)
          · rw [hf j hj]
            unfold ioX
            by_cases z : (X 4 k).toInt = j
            · rw [if_pos z, if_pos ⟨y, z⟩]
              rfl
            · rw [if_neg z, if_neg (fun w => z w.2)]
              rfl
          · unfold iwX
            rw [if_neg (by rintro (z | z) <;> contradiction)]
            rfl
          · unfold isX
            rw [if_pos y]
            rfl
        · exact absurd hi.1 (by decide)
        · exact absurd hi.1 (by decide)
