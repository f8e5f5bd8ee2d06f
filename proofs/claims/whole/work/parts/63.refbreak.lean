/-! the reference's breakUp -/
def stX (T : ST) (a1 a2 a3 a4 a5 a6 a7 a8 a15 a16 a17 a19 a20 a21 a22 a23 a24 a25 a26 : Nat → Int32) (l18 l27 : Nat → Int64) (i0 i1 i16 i17 i18 i19 i20 i27 i28 i30 i31 i32 i33 i34 i35 i36 : Int32) : ST := (sI (sI (sI (sI (sI (sI (sI (sI (sI (sI (sI (sI (sI (sI (sI (sI (sL (sL (sA (sA (sA (sA (sA (sA (sA (sA (sA (sA (sA (sA (sA (sA (sA (sA (sA (sA (sA T 1 a1) 2 a2) 3 a3) 4 a4) 5 a5) 6 a6) 7 a7) 8 a8) 15 a15) 16 a16) 17 a17) 19 a19) 20 a20) 21 a21) 22 a22) 23 a23) 24 a24) 25 a25) 26 a26) 18 l18) 27 l27) 0 i0) 1 i1) 16 i16) 17 i17) 18 i18) 19 i19) 20 i20) 27 i27) 28 i28) 30 i30) 31 i31) 32 i32) 33 i33) 34 i34) 35 i35) 36 i36)
theorem stX_agr {X : Nat → Nat → Int32} {m : Nat} {T : ST} {a15 a16 a17 a19 a20 a21 a22 a23 a24 a25 a26 : Nat → Int32} {l18 l27 : Nat → Int64} {i0 i1 i16 i18 i19 i20 i27 i28 i30 i31 i32 i33 i34 i35 i36 : Int32} (hX : X = cloX T m) : agr X m (stX T (cl3 (T.1 1) m 4 1 4) (cl3 (T.1 2) m 10000 (T.1 11 2) (-10000)) (cl3 (T.1 3) m 0 (T.1 12 2) 0) (cl3 (T.1 4) m 0 (T.1 13 2) 0) (cl3 (T.1 5) m 0 (T.1 14 2) 0) (cl3 (T.1 6) m 10000 (T.1 11 2) (-10000)) (cl3 (T.1 7) m 0 0 0) (cl3 (T.1 8) m 0 0 0) a15 a16 a17 a19 a20 a21 a22 a23 a24 a25 a26 l18 l27 i0 i1 i16 (nI (m + 2)) i18 i19 i20 i27 i28 i30 i31 i32 i33 i34 i35 i36) := by
  subst hX
  unfold stX
  refine ⟨fun j a b => ?_, by simp (disch := decide) only [sI_1, sI_21, sI_eq, sI_ne, sA_eq, sA_ne, sA_21, sA_22, sL_1, sL_22, sL_eq, sL_ne]⟩
  rcases (by omega : j = 1 ∨ j = 2 ∨ j = 3 ∨ j = 4 ∨ j = 5 ∨ j = 6 ∨ j = 7 ∨ j = 8 ∨ j = 9 ∨ j = 10 ∨ j = 11 ∨ j = 12 ∨ j = 13 ∨ j = 14) with rfl | rfl | rfl | rfl | rfl | rfl | rfl | rfl | rfl | rfl | rfl | rfl | rfl | rfl <;> simp (disch := decide) only [sI_1, sI_21, sI_eq, sI_ne, sA_eq, sA_ne, sA_21, sA_22, sL_1, sL_22, sL_eq, sL_ne] <;> rfl
theorem s_tell {T : ST} {X : Nat → Nat → Int32} {m n c num : Nat} {more : Int32} {N : KEY → Int64 → KEY → Prop} {A : KEY → Prop} {b15 b16 b17 b19 : Nat → Int32} {k18 : Nat → Int64} {post : Int32 → (Nat → Int32) → (Nat → Int32) → (Nat → Int32) → (Nat → Int32) → (Nat → Int32) → (Nat → Int32) → (Nat → Int64) → Int32 → Int32 → Int32 → Int32 → Int32 → Int32 → Int32 → Int32 → Int32 → Prop}
    (hG : Gd X m) (hAg : agr X m T) (hM : T.2.2 19 = more) (hm0 : 0 ≤ more.toInt) (hm1 : more.toInt ≤ (X 9 8).toInt) (e15 : T.1 15 = b15) (e16 : T.1 16 = b16) (e17 : T.1 17 = b17) (e19 : T.1 19 = b19) (e18 : T.2.1 18 = k18) (hNum : T.2.2 16 = nI num) (h20 : T.2.2 20 = nI (n - 1))
    (hR : Rep b15 b16 b17 b19 k18 n N) (hI : InvN m (m + 3) N A) (hc : c < n)
    (hp : ∀ (Ln : Nat) (a21 a22 a23 a24 a25 a26 : Nat → Int32) (l27 : Nat → Int64) (i27 i28 i30 i31 i32 i33 : Int32), b16 c = nI Ln → Ln ≤ 401 → (∀ i, i < Ln → OutI X m more N (keyA b15 b16 b17 c) Ln i (a22 i) (a23 i) (a24 i) (a25 i) (a26 i) (l27 i)) → post (nI Ln) a21 a22 a23 a24 a25 a26 l27 i27 i28 i30 i31 i32 i33 (nI num) (nI (n - 1)) (nI Ln)) : wp_Mo_tell T (nI c) post := by
  have hm := hG.1
  have hn8 := hR.2.2.2.2.1
  subst e15 e16 e17 e19 e18
  have okc := hI.1 _ _ _ ((hR.1 _ _ _).mpr ⟨c, hc, rfl, rfl, rfl⟩)
  obtain ⟨Ln, el, lln, -⟩ := okK_l hm okc
  have el : T.1 16 c = nI Ln := el
  unfold wp_Mo_tell
  rw [nI_clamp (by omega), el, hNum, h20]
  intro v1 e1 v2 e2
  subst e1 e2
  refine ⟨vp_in_nI (by omega) (by omega), fun v3 e3 => ?_⟩
  subst e3
  refine ⟨Ln + 1, s_tell_l (more := more) (N := N) (kc := keyA (T.1 15) (T.1 16) (T.1 17) c) (L := Ln) hG hAg hM hm0 hm1 hR hI lln (fun a21 a22 a23 a24 a25 a26 l27 i27 i28 i30 i31 i32 i33 hout => hp Ln a21 a22 a23 a24 a25 a26 l27 i27 i28 i30 i31 i32 i33 el lln hout) (Ln + 1) Ln c _ _ _ _ _ _ _ _ _ _ _ _ _ (by omega) (by omega) hc el ?_ (fun i' h1 h2 => absurd h2 (by omega))⟩
  rw [Nat.sub_self]
  rfl
theorem s_Mbreak_l {T : ST} {c m : Nat} {X : Nat → Nat → Int32} {post : Int32 → (Nat → Int32) → (Nat → Int32) → (Nat → Int32) → (Nat → Int32) → (Nat → Int32) → (Nat → Int32) → (Nat → Int32) → (Nat → Int32) → (Nat → Int32) → (Nat → Int32) → (Nat → Int32) → (Nat → Int32) → (Nat → Int32) → (Nat → Int32) → (Nat → Int32) → (Nat → Int32) → (Nat → Int32) → (Nat → Int32) → (Nat → Int32) → (Nat → Int64) → (Nat → Int64) → Int32 → Int32 → Int32 → Int32 → Int32 → Int32 → Int32 → Int32 → Int32 → Int32 → Int32 → Int32 → Int32 → Int32 → Int32 → Int32 → Prop} (hX : X = cloX T m) (hG : Gd X m) (hcm : c ≤ 400)
    (rA : ∀ num, fpX X ≤ num → num ≤ lpX X → (∀ j, fpX X ≤ j → j < num → noneP X m (lpX X) j) → FullN (NNx X m (lpX X) num) → ∀ (a15 a16 a17 a19 a20 a21 : Nat → Int32) (a22 a23 a24 a25 a26 : Nat → Int32) (l18 l27 : Nat → Int64) (i16 i17 i18 i19 i20 i27 i28 i30 i31 i32 i33 i35 i36 : Int32), post (-2) (upd (cl3 (T.1 1) m 4 1 4) m (T.1 1 m)) (upd (cl3 (T.1 2) m 10000 (T.1 11 2) (-10000)) m (T.1 2 m)) (upd (cl3 (T.1 3) m 0 (T.1 12 2) 0) m (T.1 3 m)) (upd (cl3 (T.1 4) m 0 (T.1 13 2) 0) m (T.1 4 m)) (upd (cl3 (T.1 5) m 0 (T.1 14 2) 0) m (T.1 5 m)) (cl3 (T.1 6) m 10000 (T.1 11 2) (-10000)) (cl3 (T.1 7) m 0 0 0) (cl3 (T.1 8) m 0 0 0) a15 a16 a17 a19 a20 a21 a22 a23 a24 a25 a26 l18 l27 0 (nI c) i16 i17 i18 i19 i20 i27 i28 i30 i31 i32 i33 0 i35 i36)
    (rB : ∀ num, fpX X ≤ num → num ≤ lpX X → (∀ j, fpX X ≤ j → j < num → noneP X m (lpX X) j) → ∀ (n Ln : Nat) (k : KEY) (a22 a23 a24 a25 a26 : Nat → Int32) (l27 : Nat → Int64), (∃ (p l f fm : Nat → Int32) (t : Nat → Int64), Rep p l f fm t n (NNx X m (lpX X) num)) → Cho X (num = lpX X) (NNx X m (lpX X) num) m k → k.2.1 = nI Ln → Ln ≤ 401 → (∀ i, i < Ln → OutI X m (moX X num) (NNx X m (lpX X) num) k Ln i (a22 i) (a23 i) (a24 i) (a25 i) (a26 i) (l27 i)) → ∀ (a15 a16 a17 a19 a20 a21 : Nat → Int32) (l18 : Nat → Int64) (i16 i17 i18 i19 i20 i27 i28 i30 i31 i32 i33 : Int32), post (nI Ln) (upd (cl3 (T.1 1) m 4 1 4) m (T.1 1 m)) (upd (cl3 (T.1 2) m 10000 (T.1 11 2) (-10000)) m (T.1 2 m)) (upd (cl3 (T.1 3) m 0 (T.1 12 2) 0) m (T.1 3 m)) (upd (cl3 (T.1 4) m 0 (T.1 13 2) 0) m (T.1 4 m)) (upd (cl3 (T.1 5) m 0 (T.1 14 2) 0) m (T.1 5 m)) (cl3 (T.1 6) m 10000 (T.1 11 2) (-10000)) (cl3 (T.1 7) m 0 0 0) (cl3 (T.1 8) m 0 0 0) a15 a16 a17 a19 a20 a21 a22 a23 a24 a25 a26 l18 l27 0 (nI c) i16 i17 i18 i19 i20 i27 i28 i30 i31 i32 i33 (nI num) (nI (n - 1)) (nI Ln))
    (rC : (∀ j, fpX X ≤ j → j ≤ lpX X → noneP X m (lpX X) j) → ∀ (a15 a16 a17 a19 a20 a21 : Nat → Int32) (a22 a23 a24 a25 a26 : Nat → Int32) (l18 l27 : Nat → Int64) (i16 i17 i18 i19 i20 i27 i28 i30 i31 i32 i33 i35 i36 : Int32), post 0 (upd (cl3 (T.1 1) m 4 1 4) m (T.1 1 m)) (upd (cl3 (T.1 2) m 10000 (T.1 11 2) (-10000)) m (T.1 2 m)) (upd (cl3 (T.1 3) m 0 (T.1 12 2) 0) m (T.1 3 m)) (upd (cl3 (T.1 4) m 0 (T.1 13 2) 0) m (T.1 4 m)) (upd (cl3 (T.1 5) m 0 (T.1 14 2) 0) m (T.1 5 m)) (cl3 (T.1 6) m 10000 (T.1 11 2) (-10000)) (cl3 (T.1 7) m 0 0 0) (cl3 (T.1 8) m 0 0 0) a15 a16 a17 a19 a20 a21 a22 a23 a24 a25 a26 l18 l27 0 (nI c) i16 i17 i18 i19 i20 i27 i28 i30 i31 i32 i33 0 i35 i36) :
    ∀ (q num : Nat) (a15 a16 a17 a19 a20 a21 : Nat → Int32) (a22 a23 a24 a25 a26 : Nat → Int32) (l18 l27 : Nat → Int64) (i1 i18 i19 i20 i27 i28 i30 i31 i32 i33 i35 i36 : Int32), fpX X ≤ num → num ≤ lpX X + 1 → lpX X + 1 < num + q → (∀ j, fpX X ≤ j → j < num → noneP X m (lpX X) j) →
      wl_Mo_breakUp_283 T post q (cl3 (T.1 1) m 4 1 4) (cl3 (T.1 2) m 10000 (T.1 11 2) (-10000)) (cl3 (T.1 3) m 0 (T.1 12 2) 0) (cl3 (T.1 4) m 0 (T.1 13 2) 0) (cl3 (T.1 5) m 0 (T.1 14 2) 0) (cl3 (T.1 6) m 10000 (T.1 11 2) (-10000)) (cl3 (T.1 7) m 0 0 0) (cl3 (T.1 8) m 0 0 0) a15 a16 a17 a19 a20 a21 a22 a23 a24 a25 a26 l18 l27 0 i1 (nI num) (nI (m + 2)) i18 i19 i20 i27 i28 i30 i31 i32 i33 0 i35 i36 (nI c) (nI m) (T.1 1 m) (T.1 2 m) (T.1 3 m) (T.1 4 m) (T.1 5 m) 0 0 (nI (lpX X)) := by
  have hm := hG.1
  have hf1 : 1 ≤ fpX X := by unfold fpX; split <;> omega
  have hl3 : lpX X ≤ 3 := by unfold lpX; split <;> omega
  have pm : vp_in (nI m) 410 := vp_in_nI (by omega) (by omega)
  have w349 : ∀ (a15 a16 a17 a19 a20 a21 : Nat → Int32) (a22 a23 a24 a25 a26 : Nat → Int32) (l18 l27 : Nat → Int64) (i1 i16 i17 i18 i19 i20 i27 i28 i30 i31 i32 i33 i34 i35 i36 r : Int32), post r (upd (cl3 (T.1 1) m 4 1 4) m (T.1 1 m)) (upd (cl3 (T.1 2) m 10000 (T.1 11 2) (-10000)) m (T.1 2 m)) (upd (cl3 (T.1 3) m 0 (T.1 12 2) 0) m (T.1 3 m)) (upd (cl3 (T.1 4) m 0 (T.1 13 2) 0) m (T.1 4 m)) (upd (cl3 (T.1 5) m 0 (T.1 14 2) 0) m (T.1 5 m)) (cl3 (T.1 6) m 10000 (T.1 11 2) (-10000)) (cl3 (T.1 7) m 0 0 0) (cl3 (T.1 8) m 0 0 0) a15 a16 a17 a19 a20 a21 a22 a23 a24 a25 a26 l18 l27 0 (nI c) i16 i17 i18 i19 i20 i27 i28 i30 i31 i32 i33 i34 i35 i36 → wl_Mo_breakUp_349 T post (cl3 (T.1 1) m 4 1 4) (cl3 (T.1 2) m 10000 (T.1 11 2) (-10000)) (cl3 (T.1 3) m 0 (T.1 12 2) 0) (cl3 (T.1 4) m 0 (T.1 13 2) 0) (cl3 (T.1 5) m 0 (T.1 14 2) 0) (cl3 (T.1 6) m 10000 (T.1 11 2) (-10000)) (cl3 (T.1 7) m 0 0 0) (cl3 (T.1 8) m 0 0 0) a15 a16 a17 a19 a20 a21 a22 a23 a24 a25 a26 l18 l27 0 i1 i16 i17 i18 i19 i20 i27 i28 i30 i31 i32 i33 i34 i35 i36 (nI c) (nI m) (T.1 1 m) (T.1 2 m) (T.1 3 m) (T.1 4 m) (T.1 5 m) r := by
    intro a15 a16 a17 a19 a20 a21 a22 a23 a24 a25 a26 l18 l27 i1 i16 i17 i18 i19 i20 i27 i28 i30 i31 i32 i33 i34 i35 i36 r h
    unfold wl_Mo_breakUp_349
    rw [nI_clamp (by omega)]
    refine ⟨pm, fun f1 e1 => ⟨pm, fun f2 e2 => ⟨pm, fun f3 e3 => ⟨pm, fun f4 e4 => ⟨pm, fun f5 e5 => ?_⟩⟩⟩⟩⟩
    rw [e1, e2, e3, e4, e5]
    exact h
  -- once done the loop ends
  have done : ∀ (q : Nat) (a15 a16 a17 a19 a20 a21 : Nat → Int32) (a22 a23 a24 a25 a26 : Nat → Int32) (l18 l27 : Nat → Int64) (i1 i16 i17 i18 i19 i20 i27 i28 i30 i31 i32 i33 i34 i35 i36 r x12 : Int32), post r (upd (cl3 (T.1 1) m 4 1 4) m (T.1 1 m)) (upd (cl3 (T.1 2) m 10000 (T.1 11 2) (-10000)) m (T.1 2 m)) (upd (cl3 (T.1 3) m 0 (T.1 12 2) 0) m (T.1 3 m)) (upd (cl3 (T.1 4) m 0 (T.1 13 2) 0) m (T.1 4 m)) (upd (cl3 (T.1 5) m 0 (T.1 14 2) 0) m (T.1 5 m)) (cl3 (T.1 6) m 10000 (T.1 11 2) (-10000)) (cl3 (T.1 7) m 0 0 0) (cl3 (T.1 8) m 0 0 0) a15 a16 a17 a19 a20 a21 a22 a23 a24 a25 a26 l18 l27 0 (nI c) i16 i17 i18 i19 i20 i27 i28 i30 i31 i32 i33 i34 i35 i36 → wl_Mo_breakUp_283 T post (q + 1) (cl3 (T.1 1) m 4 1 4) (cl3 (T.1 2) m 10000 (T.1 11 2) (-10000)) (cl3 (T.1 3) m 0 (T.1 12 2) 0) (cl3 (T.1 4) m 0 (T.1 13 2) 0) (cl3 (T.1 5) m 0 (T.1 14 2) 0) (cl3 (T.1 6) m 10000 (T.1 11 2) (-10000)) (cl3 (T.1 7) m 0 0 0) (cl3 (T.1 8) m 0 0 0) a15 a16 a17 a19 a20 a21 a22 a23 a24 a25 a26 l18 l27 0 i1 i16 i17 i18 i19 i20 i27 i28 i30 i31 i32 i33 i34 i35 i36 (nI c) (nI m) (T.1 1 m) (T.1 2 m) (T.1 3 m) (T.1 4 m) (T.1 5 m) r 1 x12 := by
    intro q a15 a16 a17 a19 a20 a21 a22 a23 a24 a25 a26 l18 l27 i1 i16 i17 i18 i19 i20 i27 i28 i30 i31 i32 i33 i34 i35 i36 r x12 h
    unfold wl_Mo_breakUp_283
    exact ⟨fun _ => w349 _ _ _ _ _ _ _ _ _ _ _ _ _ _ _ _ _ _ _ _ _ _ _ _ _ _ _ _ _ h, fun _ => ⟨fun _ => w349 _ _ _ _ _ _ _ _ _ _ _ _ _ _ _ _ _ _ _ _ _ _ _ _ _ _ _ _ _ h, fun z => absurd z (by decide)⟩⟩
  intro q
  induction q with
  | zero => intro num _ _ _ _ _ _ _ _ _ _ _ _ _ _ _ _ _ _ _ _ _ _ _ _ _ h1 h2 h3; omega
  | succ q ih =>
    intro num a15 a16 a17 a19 a20 a21 a22 a23 a24 a25 a26 l18 l27 i1 i18 i19 i20 i27 i28 i30 i31 i32 i33 i35 i36 hn1 hn2 hq hno
    unfold wl_Mo_breakUp_283
    refine ⟨fun z => w349 _ _ _ _ _ _ _ _ _ _ _ _ _ _ _ _ _ _ _ _ _ _ _ _ _ _ _ _ _ (rC (fun j j1 j2 => hno j j1 ?_) _ _ _ _ _ _ _ _ _ _ _ _ _ _ _ _ _ _ _ _ _ _ _ _ _ _), fun z => ⟨fun w => absurd rfl w, fun _ => ?_⟩⟩
    · have := (nI_ltI (by omega) (by omega)).mp z
      omega
    · have hnl : num ≤ lpX X := by
        rcases Nat.lt_or_ge (lpX X) num with u | u
        · exact absurd ((nI_ltI (by omega) (by omega)).mpr u) z
        · exact u
      obtain ⟨q, rfl⟩ : ∃ q', q = q' + 1 := ⟨q - 1, by omega⟩
      have mb := mo_bd (num := num) hG
      have hI := run_inv (more := moX X num) (tol := toX X num) (lst := num = lpX X) (hyp := 1 < num) hG (m + 3) (by omega)
      have hlst : (num = lpX X) ↔ num = (if 0 < (X 9 8).toInt then 3 else 2) := Iff.rfl
      refine s_make (T := stX T (cl3 (T.1 1) m 4 1 4) (cl3 (T.1 2) m 10000 (T.1 11 2) (-10000)) (cl3 (T.1 3) m 0 (T.1 12 2) 0) (cl3 (T.1 4) m 0 (T.1 13 2) 0) (cl3 (T.1 5) m 0 (T.1 14 2) 0) (cl3 (T.1 6) m 10000 (T.1 11 2) (-10000)) (cl3 (T.1 7) m 0 0 0) (cl3 (T.1 8) m 0 0 0) a15 a16 a17 a19 a20 a21 a22 a23 a24 a25 a26 l18 l27 0 i1 (nI num) (nI (m + 2)) i18 i19 i20 i27 i28 i30 i31 i32 i33 0 i35 i36) (lst := num = lpX X) hG (stX_agr hX) rfl (by omega) (by omega) hlst (fun hFull b15 b16 b17 b19 b20 b21 k18 j18 j19 j20 j27 j28 j30 j31 j32 j33 => ⟨fun w => absurd rfl w, fun _ v1 e1 => done q _ _ _ _ _ _ _ _ _ _ _ _ _ _ _ _ _ _ _ _ _ _ _ _ _ _ _ _ _ _ (rA num hn1 hnl hno hFull _ _ _ _ _ _ _ _ _ _ _ _ _ _ _ _ _ _ _ _ _ _ _ _ _ _)⟩) (fun n b15 b16 b17 b19 b20 b21 k18 j27 j28 j30 j31 j32 j33 hR => ⟨fun _ => ?_, fun w => absurd w (by decide)⟩)
      refine s_Mchoose (T := stX T (cl3 (T.1 1) m 4 1 4) (cl3 (T.1 2) m 10000 (T.1 11 2) (-10000)) (cl3 (T.1 3) m 0 (T.1 12 2) 0) (cl3 (T.1 4) m 0 (T.1 13 2) 0) (cl3 (T.1 5) m 0 (T.1 14 2) 0) (cl3 (T.1 6) m 10000 (T.1 11 2) (-10000)) (cl3 (T.1 7) m 0 0 0) (cl3 (T.1 8) m 0 0 0) b15 b16 b17 b19 b20 b21 a22 a23 a24 a25 a26 k18 l27 0 i1 (nI num) (nI (m + 2)) (toX X num) (moX X num) (nI (n - 1)) j27 j28 j30 j31 j32 j33 0 i35 i36) (lst := num = lpX X) (N := NNx X m (lpX X) num) hG (stX_agr hX) rfl (by omega) hlst rfl hR hI (fun cc hc0 hcn hCho => ⟨fun w => ?_, fun _ => ?_⟩) (fun hNo => ⟨fun _ v1 e1 => ?_, fun w => absurd (by decide) w⟩)
      · have hn8 := hR.2.2.2.2.1
        rw [i_lt, nI_toInt (by omega)] at w
        have w : (cc : Int) < 0 := w
        omega
      · exact s_tell (num := num) (n := n) (T := stX T (cl3 (T.1 1) m 4 1 4) (cl3 (T.1 2) m 10000 (T.1 11 2) (-10000)) (cl3 (T.1 3) m 0 (T.1 12 2) 0) (cl3 (T.1 4) m 0 (T.1 13 2) 0) (cl3 (T.1 5) m 0 (T.1 14 2) 0) (cl3 (T.1 6) m 10000 (T.1 11 2) (-10000)) (cl3 (T.1 7) m 0 0 0) (cl3 (T.1 8) m 0 0 0) b15 b16 b17 b19 b20 b21 a22 a23 a24 a25 a26 k18 l27 0 i1 (nI num) (nI (m + 2)) (toX X num) (moX X num) (nI (n - 1)) j27 j28 j30 j31 j32 j33 0 i35 i36) (X := X) (m := m) (more := moX X num) (N := NNx X m (lpX X) num) (b15 := b15) (b16 := b16) (b17 := b17) (b19 := b19) (k18 := k18) hG (stX_agr hX) rfl mb.1 mb.2 rfl rfl rfl rfl rfl rfl rfl hR hI hcn (fun Ln d21 d22 d23 d24 d25 d26 k27 u27 u28 u30 u31 u32 u33 el lln hout v1 e1 => done q _ _ _ _ _ _ _ _ _ _ _ _ _ _ _ _ _ _ _ _ _ _ _ _ _ _ _ _ _ _ (rB num hn1 hnl hno n Ln (keyA b15 b16 b17 cc) d22 d23 d24 d25 d26 k27 ⟨_, _, _, _, _, hR⟩ hCho el lln hout _ _ _ _ _ _ _ _ _ _ _ _ _ _ _ _ _ _))
      · rw [nI_1] at e1
        subst e1
        refine ih (num + 1) _ _ _ _ _ _ _ _ _ _ _ _ _ _ _ _ _ _ _ _ _ _ _ _ _ (by omega) (by omega) (by omega) (fun j j1 j2 => ?_)
        by_cases w : j = num
        · subst w
          exact ⟨fun h => rep_full hR h, hNo⟩
        · exact hno j j1 (by omega)
