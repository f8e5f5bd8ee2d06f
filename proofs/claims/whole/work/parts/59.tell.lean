/-! the reference's tell -/
def stT (S : ST) (a21 a22 a23 a24 a25 a26 : Nat → Int32) (l27 : Nat → Int64) (i27 i28 i30 i31 i32 i33 i34 i35 i36 : Int32) : ST :=
  sI (sI (sI (sI (sI (sI (sI (sI (sI (sL (sA (sA (sA (sA (sA (sA S 21 a21) 22 a22) 23 a23) 24 a24) 25 a25) 26 a26) 27 l27) 27 i27) 28 i28) 30 i30) 31 i31) 32 i32) 33 i33) 34 i34) 35 i35) 36 i36
theorem stT_agr {X : Nat → Nat → Int32} {m : Nat} {T : ST} {a21 a22 a23 a24 a25 a26 : Nat → Int32} {l27 : Nat → Int64} {i27 i28 i30 i31 i32 i33 i34 i35 i36 : Int32} (h : agr X m T) : agr X m (stT T a21 a22 a23 a24 a25 a26 l27 i27 i28 i30 i31 i32 i33 i34 i35 i36) := by
  unfold stT
  refine agr_cg h (fun j hj => ?_) rfl
  simp (disch := omega) only [sI_1, sL_1, sA_ne]
theorem s_Mline3 {T : ST} {X : Nat → Nat → Int32} {m e : Nat} {more : Int32} {k : KEY} {a21 a22 a23 a24 a25 a26 : Nat → Int32} {l27 : Nat → Int64} {i27 i28 i30 i31 i32 i33 i34 i35 i36 : Int32} {Q : (Nat → Int32) → Int32 → Int32 → Int32 → Int32 → Int32 → Int32 → Prop} (hG : Gd X m) (hA : agr X m T) (hM : T.2.2 19 = more) (hm0 : 0 ≤ more.toInt) (hm1 : more.toInt ≤ (X 9 8).toInt) (he : e < m + 3) (ok : okK m e k) {ln : Int32} (hln : ln = k.2.1)
    (hq : ∀ (f : Nat → Int32) (v28 v30 : Int32), Q f (nI (fsX X (m + 2) k.1)) v28 v30 (sfX X m more k e) (bdX X m more k e) (ftX X m more k e)) :
    wp_Mo_measure (stT T a21 a22 a23 a24 a25 a26 l27 i27 i28 i30 i31 i32 i33 i34 i35 i36) k.1 (nI e) (fun f2 v3 v4 v5 => wp_Mo_judge (stT T f2 a22 a23 a24 a25 a26 l27 v3 v4 v5 i31 i32 i33 i34 i35 i36) ln (fun v6 v7 v8 => Q f2 v3 v4 v5 v6 v7 v8)) := by
  have hm := hG.1
  subst hln
  obtain ⟨l, el, ll, cl⟩ := okK_l hm ok
  have hA' : agr X m (stT T a21 a22 a23 a24 a25 a26 l27 i27 i28 i30 i31 i32 i33 i34 i35 i36) := stT_agr hA
  have hM' : (stT T a21 a22 a23 a24 a25 a26 l27 i27 i28 i30 i31 i32 i33 i34 i35 i36).2.2 19 = more := hM
  obtain ⟨bW, bF, bE, bH, -⟩ := meas_bd hG he (okK_p ok) hm0 hm1
  refine s_Mmeasure hG hA' he (okK_p ok) (by rw [hM']; exact hm0) (by rw [hM']; exact hm1) (fun f i28 i30 q28 q30 qF s1 s2 s3 qE => ?_)
  rw [hM'] at qF
  rw [el]
  have h10 := hA.1 10 (by omega) (by omega)
  have hj : (if l < 20 then l else 19) < 20 := by split <;> omega
  refine s_Mjudge (wi := (wdX X k).toInt) (W := W1 X m k.1 e) (F := F1 X m more k.1 e) (E := E1 X m k.1 e) (H := H1 X m k.1 e) ?_ (by omega) q28 qF q30 s1 s2 s3 qE ?_ bW bF bH ?_
  · show (T.1 10 (if l < 20 then l else 19)).toInt = _
    rw [h10]
    unfold wdX wiX
    rw [cl]
  · have := hG.2.2.2.2.1.2.1 _ hj
    unfold wdX wiX
    rw [cl]
    exact this
  · exact hq f i28 i30
theorem s_tell_l {T : ST} {X : Nat → Nat → Int32} {m n L : Nat} {more : Int32} {N : KEY → Int64 → KEY → Prop} {A : KEY → Prop} {kc : KEY} {i34 i35 i36 : Int32} {post : Int32 → (Nat → Int32) → (Nat → Int32) → (Nat → Int32) → (Nat → Int32) → (Nat → Int32) → (Nat → Int32) → (Nat → Int64) → Int32 → Int32 → Int32 → Int32 → Int32 → Int32 → Int32 → Int32 → Int32 → Prop}
    (hG : Gd X m) (hAg : agr X m T) (hM : T.2.2 19 = more) (hm0 : 0 ≤ more.toInt) (hm1 : more.toInt ≤ (X 9 8).toInt) (hR : Rep (T.1 15) (T.1 16) (T.1 17) (T.1 19) (T.2.1 18) n N) (hI : InvN m (m + 3) N A) (hL : L ≤ 401)
    (hp : ∀ (a21 a22 a23 a24 a25 a26 : Nat → Int32) (l27 : Nat → Int64) (i27 i28 i30 i31 i32 i33 : Int32), (∀ i, i < L → OutI X m more N kc L i (a22 i) (a23 i) (a24 i) (a25 i) (a26 i) (l27 i)) → post i36 a21 a22 a23 a24 a25 a26 l27 i27 i28 i30 i31 i32 i33 i34 i35 i36) :
    ∀ (q i j : Nat) (a21 a22 a23 a24 a25 a26 : Nat → Int32) (l27 : Nat → Int64) (i27 i28 i30 i31 i32 i33 : Int32), i ≤ L → i < q → j < n → T.1 16 j = nI i → chainK N (L - i) kc (keyA (T.1 15) (T.1 16) (T.1 17) j) → (∀ i', i ≤ i' → i' < L → OutI X m more N kc L i' (a22 i') (a23 i') (a24 i') (a25 i') (a26 i') (l27 i')) →
      wl_Mo_tell_28 T post q a21 a22 a23 a24 a25 a26 l27 i27 i28 i30 i31 i32 i33 i34 i35 i36 (nI j) := by
  have hm := hG.1
  have hn8 := hR.2.2.2.2.1
  have n0 := hR.2.2.2.1
  intro q
  induction q with
  | zero => intro i j _ _ _ _ _ _ _ _ _ _ _ _ _ _ h; omega
  | succ q ih =>
    intro i j a21 a22 a23 a24 a25 a26 l27 i27 i28 i30 i31 i32 i33 hi hq hj hl hch hout
    unfold wl_Mo_tell_28
    refine ⟨fun z => ?_, fun z => ?_⟩
    · have hj0 : j = 0 := by
        have : j ≤ 0 := (nI_leI (b := 0) (by omega) (by omega)).mp z
        omega
      subst hj0
      have e0 : T.1 16 0 = 0 := congrArg (fun z : KEY => z.2.1) hR.2.2.2.2.2
      rw [e0] at hl
      have hi0 : 0 = i := (nI_eq (a := 0) (by omega) (by omega)).mp hl
      exact hp a21 a22 a23 a24 a25 a26 l27 i27 i28 i30 i31 i32 i33 fun i' hi' => hout i' (by omega) hi'
    · have hj0 : 0 < j := by
        rcases Nat.eq_zero_or_pos j with w | w
        · subst w; exact absurd (by decide) z
        · exact w
      have hN := (hR.1 _ _ _).mpr ⟨j, hj, rfl, rfl, rfl⟩
      have hne : keyA (T.1 15) (T.1 16) (T.1 17) j ≠ root := by
        intro e
        have := hR.2.1 j 0 hj n0 (e.trans hR.2.2.2.2.2.symm)
        omega
      obtain ⟨j2, hj2, ej2⟩ := hR.2.2.1 j hj0 hj
      obtain ⟨e, he, ee, ok, eln, t', g', hg'⟩ := node_at hm hI hN hne
      have efm : fmK (T.1 15) (T.1 16) (T.1 17) (T.1 19) j = keyA (T.1 15) (T.1 16) (T.1 17) j2 := by
        unfold fmK
        rw [if_neg (by omega), ej2, nI_clamp (by omega)]
      rw [efm] at hN ok eln
      have ee : T.1 15 j = nI e := ee
      have eln : T.1 16 j = T.1 16 j2 + 1 := eln
      obtain ⟨l2, el2, ll2, -⟩ := okK_l hm ok
      have el2 : T.1 16 j2 = nI l2 := el2
      have ei : i = l2 + 1 := by
        rw [hl, el2, nI_1] at eln
        exact (nI_eq (by omega) (by omega)).mp eln
      subst ei
      have pj : vp_in (nI j) 8001 := vp_in_nI (by omega) (by omega)
      have pj2 : vp_in (nI j2) 8001 := vp_in_nI (by omega) (by omega)
      have p4 : vp_in (nI l2) 410 := vp_in_nI (by omega) (by omega)
      rw [nI_clamp (by omega), ej2, nI_clamp (by omega), ee, hl]
      refine ⟨pj, fun v1 e1 => ?_⟩
      have ev1 : v1 = nI l2 := by
        rw [e1]
        exact pk_sub (b := 1) (by omega)
      subst ev1
      refine ⟨pj, pj2, pj, ?_⟩
      rw [nI_clamp (by omega)]
      refine s_Mline3 (k := keyA (T.1 15) (T.1 16) (T.1 17) j2) hG hAg hM hm0 hm1 he ok (show nI l2 = T.1 16 j2 from el2.symm) (fun f v28 v30 => ⟨pj, p4, fun f9 e9 => ⟨p4, fun f10 e10 => ⟨p4, fun f11 e11 => ⟨p4, fun f12 e12 => ⟨p4, fun f13 e13 => ⟨pj, p4, fun f14 e14 => ⟨pj, fun v15 e15 => ?_⟩⟩⟩⟩⟩⟩⟩)
      rw [e15]
      refine ih l2 j2 f f9 f10 f11 f12 f13 f14 _ _ _ _ _ _ (by omega) (by omega) hj2 el2 ?_ (fun i' h1 h2 => ?_)
      · rw [show L - l2 = (L - (l2 + 1)) + 1 by omega]
        exact ⟨_, _, hch, hN⟩
      · rw [e9, e10, e11, e12, e13, e14]
        by_cases w : i' = l2
        · subst w
          rw [pk_us, pk_us, pk_us, pk_us, pk_us, pk_uLs]
          refine ⟨_, _, e, ?_, hN, ee, he, rfl, rfl, rfl, rfl, rfl⟩
          rw [show L - 1 - i' = L - (i' + 1) by omega]
          exact hch
        · rw [pk_un w, pk_un w, pk_un w, pk_un w, pk_un w, pk_uLn w]
          exact hout i' (by omega) h2
