/-! the reference's ask and make -/
theorem s_ask {T : ST} {X : Nat → Nat → Int32} {m num e n : Nat} {more tol : Int32} {lst : Prop} {N N' : KEY → Int64 → KEY → Prop} {A A' : KEY → Prop} {post : Int32 → (Nat → Int32) → (Nat → Int32) → (Nat → Int32) → (Nat → Int32) → (Nat → Int32) → (Nat → Int32) → (Nat → Int64) → Int32 → Int32 → Int32 → Int32 → Int32 → Int32 → Int32 → Prop}
    (hG : Gd X m) (hV : RV X m more tol num e n N A T) (he : e < m + 3) (hm0 : 0 ≤ more.toInt) (hm1 : more.toInt ≤ (X 9 8).toInt) (hn3 : num ≤ 3) (hlst : lst ↔ num = (if 0 < (X 9 8).toInt then 3 else 2))
    (hN' : ∀ k t g, N' k t g ↔ (N k t g ∨ newN X m more tol lst N A e k t g)) (hA' : ∀ k, A' k ↔ ((A k ∧ ¬ dies X m more k e) ∨ ∃ t g, newN X m more tol lst N A e k t g))
    (hF : FullN N' → ∀ (a15 a16 a17 a19 a20 a21 : Nat → Int32) (l18 : Nat → Int64) (i20 i27 i28 i30 i31 i32 i33 : Int32), post 0 a15 a16 a17 a19 a20 a21 l18 i20 i27 i28 i30 i31 i32 i33)
    (hK : ∀ (c : Nat) (a15 a16 a17 a19 a20 a21 : Nat → Int32) (l18 : Nat → Int64) (i27 i28 i30 i31 i32 i33 : Int32), Rep a15 a16 a17 a19 l18 c N' → (∀ k, A' k ↔ ∃ y, y < c ∧ a20 y = 0 ∧ k = keyA a15 a16 a17 y) → post 1 a15 a16 a17 a19 a20 a21 l18 (nI (c - 1)) i27 i28 i30 i31 i32 i33) : wp_Mo_ask T (nI e) post := by
  have hm := hG.1
  have hV' := hV
  obtain ⟨hAg, hM, hTol, hNum, h20, hR, hA, hI⟩ := hV'
  have n0 := hR.2.2.2.1
  have hn8 := hR.2.2.2.2.1
  have N2eq : N' = N2 X m more tol lst e N A := by
    funext k t g
    exact propext (hN' k t g)
  have main : ∀ x3 : Int32, ((x3 = 0 ∧ ¬ fineX X e = -10000) ∨ (x3 = 1 ∧ fineX X e = -10000)) → wl_Mo_ask_23 T post (nI e) (nI n) x3 := by
    intro x3 hx3
    unfold wl_Mo_ask_23
    rw [h20]
    refine ⟨n + 1, s_ask_l (lst := lst) hG hV he hm0 hm1 hx3 hn3 hlst (fun h => hF (by rw [N2eq]; exact h)) (fun c a15 a16 a17 a19 a20 a21 l18 i27 i28 i30 i31 i32 i33 h1 h2 => hK c a15 a16 a17 a19 a20 a21 l18 i27 i28 i30 i31 i32 i33 (by rw [N2eq]; exact h1) (fun k => (hA' k).trans (h2 k))) (n + 1) 0 n 0 0 _ _ _ _ _ _ _ _ _ _ _ _ _ (-1) 0 (by omega) (by omega) ⟨by omega, hn8, fun i _ => ⟨rfl, rfl, rfl, rfl, rfl⟩, fun i a b => absurd b (by omega), fun y _ _ _ hy => absurd hy (Nat.not_lt_zero y), fun i i' a b => absurd b (by omega)⟩ (fun i hi => ⟨fun h => absurd h (Nat.not_lt_zero i), fun _ => rfl⟩) ⟨by omega, by omega, ⟨fun h => ?_, fun h => absurd h (by omega)⟩, ⟨fun h => ?_, fun h => absurd h (by omega)⟩⟩ (Or.inl ⟨rfl, fun y _ _ _ hy => absurd hy (Nat.not_lt_zero y)⟩) (Or.inl ⟨rfl, fun y hy => absurd hy (Nat.not_lt_zero y)⟩)⟩
    · obtain ⟨y, hy, -⟩ := h
      omega
    · obtain ⟨y, hy, -⟩ := h
      omega
  unfold wp_Mo_ask
  intro v1 e1
  have ev : v1 = nI n := by
    rw [e1, h20, nI_1]
    congr 1
    omega
  subst ev
  exact s_Mfine hAg (by omega) ⟨fun z => main 0 (Or.inl ⟨rfl, z⟩), fun z => main 1 (Or.inr ⟨rfl, z⟩)⟩
def stM (T : ST) (a15 a16 a17 a19 a20 a21 : Nat → Int32) (l18 : Nat → Int64) (i18 i19 i20 i27 i28 i30 i31 i32 i33 : Int32) : ST := (sI (sI (sI (sI (sI (sI (sI (sI (sI (sL (sA (sA (sA (sA (sA (sA T 15 a15) 16 a16) 17 a17) 19 a19) 20 a20) 21 a21) 18 l18) 18 i18) 19 i19) 20 i20) 27 i27) 28 i28) 30 i30) 31 i31) 32 i32) 33 i33)
theorem stM_agr {X : Nat → Nat → Int32} {m : Nat} {T : ST} {a15 a16 a17 a19 a20 a21 : Nat → Int32} {l18 : Nat → Int64} {i18 i19 i20 i27 i28 i30 i31 i32 i33 : Int32} (h : agr X m T) : agr X m (stM T a15 a16 a17 a19 a20 a21 l18 i18 i19 i20 i27 i28 i30 i31 i32 i33) := by
  unfold stM
  refine agr_cg h (fun j hj => ?_) rfl
  simp (disch := omega) only [sI_1, sL_1, sA_ne]
theorem s_make_l {T : ST} {X : Nat → Nat → Int32} {m num : Nat} {lst : Prop} {post : Int32 → (Nat → Int32) → (Nat → Int32) → (Nat → Int32) → (Nat → Int32) → (Nat → Int32) → (Nat → Int32) → (Nat → Int64) → Int32 → Int32 → Int32 → Int32 → Int32 → Int32 → Int32 → Int32 → Int32 → Prop}
    (hG : Gd X m) (hAg : agr X m T) (hNum : T.2.2 16 = nI num) (hn3 : num ≤ 3) (hlst : lst ↔ num = (if 0 < (X 9 8).toInt then 3 else 2))
    (hF : FullN (runN X m (moX X num) (toX X num) lst (1 < num) (m + 3)).1 → ∀ (a15 a16 a17 a19 a20 a21 : Nat → Int32) (l18 : Nat → Int64) (i18 i19 i20 i27 i28 i30 i31 i32 i33 : Int32), post 0 a15 a16 a17 a19 a20 a21 l18 i18 i19 i20 i27 i28 i30 i31 i32 i33)
    (hK : ∀ (n : Nat) (a15 a16 a17 a19 a20 a21 : Nat → Int32) (l18 : Nat → Int64) (i27 i28 i30 i31 i32 i33 : Int32), Rep a15 a16 a17 a19 l18 n (runN X m (moX X num) (toX X num) lst (1 < num) (m + 3)).1 → post 1 a15 a16 a17 a19 a20 a21 l18 (toX X num) (moX X num) (nI (n - 1)) i27 i28 i30 i31 i32 i33) :
    ∀ (q e n : Nat) (a15 a16 a17 a19 a20 a21 : Nat → Int32) (l18 : Nat → Int64) (i27 i28 i30 i31 i32 i33 : Int32), e ≤ m + 3 → m + 3 < e + q → Rep a15 a16 a17 a19 l18 n (runN X m (moX X num) (toX X num) lst (1 < num) e).1 → (∀ k, (runN X m (moX X num) (toX X num) lst (1 < num) e).2 k ↔ ∃ y, y < n ∧ a20 y = 0 ∧ k = keyA a15 a16 a17 y) → wl_Mo_make_89 T post q a15 a16 a17 a19 a20 a21 l18 (toX X num) (moX X num) (nI (n - 1)) i27 i28 i30 i31 i32 i33 1 (nI e) := by
  have hm := hG.1
  have mb := mo_bd (num := num) hG
  intro q
  induction q with
  | zero => intro e n _ _ _ _ _ _ _ _ _ _ _ _ _ h1 h2; omega
  | succ q ih =>
    intro e n a15 a16 a17 a19 a20 a21 l18 i27 i28 i30 i31 i32 i33 he hq hR hA
    unfold wl_Mo_make_89
    rw [hAg.2]
    refine ⟨fun z => ⟨Or.inr rfl, ?_⟩, fun z => ⟨fun w => absurd w (by decide), fun _ => ?_⟩⟩
    · have := (nI_ltI (by omega) (by omega)).mp z
      have : e = m + 3 := by omega
      subst this
      exact hK n a15 a16 a17 a19 a20 a21 l18 i27 i28 i30 i31 i32 i33 hR
    · have hem : e < m + 3 := by
        rcases Nat.lt_or_ge e (m + 3) with y | y
        · exact y
        · exact absurd ((nI_ltI (by omega) (by omega)).mpr (by omega)) z
      refine s_Mplace (T := stM T a15 a16 a17 a19 a20 a21 l18 (toX X num) (moX X num) (nI (n - 1)) i27 i28 i30 i31 i32 i33) hG (stM_agr hAg) hNum hn3 hem (fun pl => ⟨fun w => absurd w (by decide), fun _ => ?_⟩) (fun pl => ⟨fun _ v2 e2 => ?_, fun w => absurd rfl w⟩)
      · have step1 : ∀ k t g, (runN X m (moX X num) (toX X num) lst (1 < num) (e + 1)).1 k t g ↔ ((runN X m (moX X num) (toX X num) lst (1 < num) e).1 k t g ∨ newN X m (moX X num) (toX X num) lst (runN X m (moX X num) (toX X num) lst (1 < num) e).1 (runN X m (moX X num) (toX X num) lst (1 < num) e).2 e k t g) := by
          intro k t g
          constructor
          · rintro (h | ⟨-, h⟩)
            · exact Or.inl h
            · exact Or.inr h
          · rintro (h | h)
            · exact Or.inl h
            · exact Or.inr ⟨pl, h⟩
        have step2 : ∀ k, (runN X m (moX X num) (toX X num) lst (1 < num) (e + 1)).2 k ↔ (((runN X m (moX X num) (toX X num) lst (1 < num) e).2 k ∧ ¬ dies X m (moX X num) k e) ∨ ∃ t g, newN X m (moX X num) (toX X num) lst (runN X m (moX X num) (toX X num) lst (1 < num) e).1 (runN X m (moX X num) (toX X num) lst (1 < num) e).2 e k t g) := by
          intro k
          constructor
          · rintro (⟨h, -⟩ | ⟨-, h⟩)
            · exact absurd pl h
            · exact h
          · intro h
            exact Or.inr ⟨pl, h⟩
        refine s_ask (T := stM T a15 a16 a17 a19 a20 a21 l18 (toX X num) (moX X num) (nI (n - 1)) i27 i28 i30 i31 i32 i33) (more := moX X num) (tol := toX X num) (lst := lst) hG ⟨stM_agr hAg, rfl, rfl, hNum, rfl, hR, hA, run_inv hG e (by omega)⟩ hem mb.1 mb.2 hn3 hlst step1 step2 (fun hFull b15 b16 b17 b19 b20 b21 k18 j20 j27 j28 j30 j31 j32 j33 => ⟨fun _ v18 e18 => ?_, fun w => absurd rfl w⟩) (fun c b15 b16 b17 b19 b20 b21 k18 j27 j28 j30 j31 j32 j33 hR2 hA2 => ⟨fun w => absurd w (by decide), fun _ v19 e19 => ?_⟩)
        · have full : FullN (runN X m (moX X num) (toX X num) lst (1 < num) (m + 3)).1 := full_mono hFull fun k t g h => by
            have := run_mono (X := X) (m := m) (more := moX X num) (tol := toX X num) (lst := lst) (hyp := 1 < num) (e := e + 1) (m + 2 - e) k t g h
            rw [show e + 1 + (m + 2 - e) = m + 3 by omega] at this
            exact this
          have hq0 : 0 < q := by omega
          obtain ⟨q', rfl⟩ : ∃ q', q = q' + 1 := ⟨q - 1, by omega⟩
          unfold wl_Mo_make_89
          exact ⟨fun _ => ⟨Or.inl rfl, hF full _ _ _ _ _ _ _ _ _ _ _ _ _ _ _ _⟩, fun _ => ⟨fun _ => ⟨Or.inl rfl, hF full _ _ _ _ _ _ _ _ _ _ _ _ _ _ _ _⟩, fun w => absurd rfl w⟩⟩
        · rw [e19, nI_1]
          exact ih (e + 1) c b15 b16 b17 b19 b20 b21 k18 j27 j28 j30 j31 j32 j33 (by omega) (by omega) hR2 hA2
      · rw [e2, nI_1]
        have same1 : ∀ k t g, (runN X m (moX X num) (toX X num) lst (1 < num) (e + 1)).1 k t g ↔ (runN X m (moX X num) (toX X num) lst (1 < num) e).1 k t g := by
          intro k t g
          constructor
          · rintro (h | ⟨h, -⟩)
            · exact h
            · exact absurd h pl
          · exact fun h => Or.inl h
        have same2 : ∀ k, (runN X m (moX X num) (toX X num) lst (1 < num) (e + 1)).2 k ↔ (runN X m (moX X num) (toX X num) lst (1 < num) e).2 k := by
          intro k
          constructor
          · rintro (⟨-, h⟩ | ⟨h, -⟩)
            · exact h
            · exact absurd h pl
          · exact fun h => Or.inl ⟨pl, h⟩
        exact ih (e + 1) n a15 a16 a17 a19 a20 a21 l18 i27 i28 i30 i31 i32 i33 (by omega) (by omega) (rep_cg hR same1) (fun k => (same2 k).trans (hA k))
theorem s_make {T : ST} {X : Nat → Nat → Int32} {m num : Nat} {lst : Prop} {post : Int32 → (Nat → Int32) → (Nat → Int32) → (Nat → Int32) → (Nat → Int32) → (Nat → Int32) → (Nat → Int32) → (Nat → Int64) → Int32 → Int32 → Int32 → Int32 → Int32 → Int32 → Int32 → Int32 → Int32 → Prop}
    (hG : Gd X m) (hAg : agr X m T) (hNum : T.2.2 16 = nI num) (hn1 : 1 ≤ num) (hn3 : num ≤ 3) (hlst : lst ↔ num = (if 0 < (X 9 8).toInt then 3 else 2))
    (hF : FullN (runN X m (moX X num) (toX X num) lst (1 < num) (m + 3)).1 → ∀ (a15 a16 a17 a19 a20 a21 : Nat → Int32) (l18 : Nat → Int64) (i18 i19 i20 i27 i28 i30 i31 i32 i33 : Int32), post 0 a15 a16 a17 a19 a20 a21 l18 i18 i19 i20 i27 i28 i30 i31 i32 i33)
    (hK : ∀ (n : Nat) (a15 a16 a17 a19 a20 a21 : Nat → Int32) (l18 : Nat → Int64) (i27 i28 i30 i31 i32 i33 : Int32), Rep a15 a16 a17 a19 l18 n (runN X m (moX X num) (toX X num) lst (1 < num) (m + 3)).1 → post 1 a15 a16 a17 a19 a20 a21 l18 (toX X num) (moX X num) (nI (n - 1)) i27 i28 i30 i31 i32 i33) : wp_Mo_make T post := by
  have hm := hG.1
  have h9 := hAg.1 9 (by omega) (by omega)
  have p0 : vp_in 0 8001 := by unfold vp_in; decide
  have c0 : (0 : Int32).toNatClampNeg = 0 := rfl
  unfold wp_Mo_make
  rw [c0, hNum]
  refine ⟨p0, fun f1 e1 => ⟨p0, fun f2 e2 => ⟨p0, fun f3 e3 => ⟨p0, fun f4 e4 => ⟨p0, fun f5 e5 => ?_⟩⟩⟩⟩⟩
  have hk : keyA f1 f2 f3 0 = root := by
    unfold keyA
    rw [e1, e2, e3, pk_us, pk_us, pk_us]
    rfl
  have fin : ∃ k9 : Nat, wl_Mo_make_89 T post k9 f1 f2 f3 (T.1 19) f5 (T.1 21) f4 (toX X num) (moX X num) 0 (T.2.2 27) (T.2.2 28) (T.2.2 30) (T.2.2 31) (T.2.2 32) (T.2.2 33) 1 0 := by
    refine ⟨m + 4, s_make_l hG hAg hNum hn3 hlst hF hK (m + 4) 0 1 f1 f2 f3 (T.1 19) f5 (T.1 21) f4 _ _ _ _ _ _ (by omega) (by omega) (rep_0 hk (by rw [e4, pk_uLs])) (fun k => ⟨fun h => ⟨0, by omega, ?_, (show k = root from h).trans hk.symm⟩, ?_⟩)⟩
    · rw [e5, pk_us, nar0]
    · rintro ⟨y, hy, -, rfl⟩
      have : y = 0 := by omega
      subst this
      exact hk
  have step : ∀ z2 : Int32, vp_in z2 10 → X 9 z2.toNatClampNeg = toX X num → wl_Mo_make_58 T post f1 f2 f3 f5 f4 0 z2 := by
    intro z2 hz e
    unfold wl_Mo_make_58
    rw [hNum, h9]
    refine ⟨hz, fun v1 ev => ⟨fun y => ?_, fun y => ⟨in810, fun v2 ev2 => ?_⟩⟩⟩
    · have n3 : ¬ num = 3 := fun h => y (by rw [h]; rfl)
      have := fin
      unfold moX at this
      rw [if_neg n3] at this
      rw [ev, e]
      exact this
    · have n3 : num = 3 := (nI_eq (b := 3) (by omega) (by omega)).mp y
      have := fin
      unfold moX at this
      rw [if_pos n3] at this
      rw [ev, e, ev2, show (8 : Int32).toNatClampNeg = 8 from rfl]
      exact this
  refine ⟨fun y => step 1 (by unfold vp_in; decide) ?_, fun y => step 0 in010 ?_⟩
  · have n1 : ¬ num = 1 := fun h => y (by rw [h]; rfl)
    unfold toX
    rw [if_neg n1]
    rfl
  · have n1 : num = 1 := (nI_eq (b := 1) (by omega) (by omega)).mp y
    unfold toX
    rw [if_pos n1]
    rfl
