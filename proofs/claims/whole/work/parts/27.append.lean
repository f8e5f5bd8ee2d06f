/-! appending: what box, kern, glue, penalty and hyphen share -/
def itv (k w st o sh pe be bh re k' w' st' o' sh' be' bh' re' : Int32) : Prop := k = k' ∧ re = re' ∧
  (((k = 0 ∨ k = 2 ∨ k = 3) ∧ w = w' ∧ sz w ∧ st = 0 ∧ st' = 0 ∧ o = 0 ∧ o' = 0 ∧ sh = 0 ∧ sh' = 0 ∧ pe = 0 ∧ be = -1073741824 ∧ bh = -1073741824 ∧ re = 0) ∨
   (k = 1 ∧ w = w' ∧ sz w ∧ st = st' ∧ po st ∧ o = o' ∧ 0 ≤ o.toInt ∧ o.toInt ≤ 3 ∧ sh = sh' ∧ po sh ∧ pe = 0 ∧ be = -1073741824 ∧ bh = -1073741824 ∧ re = 0) ∨
   (k = 4 ∧ w = 0 ∧ st = 0 ∧ st' = 0 ∧ o = 0 ∧ o' = 0 ∧ sh = 0 ∧ sh' = 0 ∧ pe = w' ∧ -10000 ≤ pe.toInt ∧ pe.toInt ≤ 10000 ∧ be = -1073741824 ∧ bh = -1073741824 ∧ re = 0) ∨
   (k = 5 ∧ w = 0 ∧ st = 0 ∧ st' = 0 ∧ o = 0 ∧ o' = 0 ∧ sh = 0 ∧ sh' = 0 ∧ pe = 0 ∧ be = be' ∧ w' = be' ∧ mk be ∧ bh = bh' ∧ mk bh ∧ 0 ≤ re.toInt ∧ re.toInt ≤ 10))
theorem itm_v (S T : ST) (k : Nat) : itm S T k = itv (S.1 2 k) (S.1 3 k) (S.1 4 k) (S.1 5 k) (S.1 6 k) (S.1 7 k) (S.1 8 k) (S.1 9 k) (S.1 10 k) (T.1 1 k) (T.1 2 k) (T.1 3 k) (T.1 4 k) (T.1 5 k) (T.1 6 k) (T.1 7 k) (T.1 8 k) := rfl
theorem rel_same {S T : ST} (v24 : Int32) (hR : Rel S T) : Rel (sI (sI (sI (sI (sL (sA (sA (sA (sA (sA (sA (sA (sA (sA S 2 (S.1 2)) 3 (S.1 3)) 4 (S.1 4)) 5 (S.1 5)) 6 (S.1 6)) 7 (S.1 7)) 8 (S.1 8)) 9 (S.1 9)) 10 (S.1 10)) 49 (S.2.1 49)) 73 (S.2.2 73)) 2626 (S.2.2 2626)) 2627 (S.2.2 2627)) 2628 (S.2.2 2628)) (sI (sI (sI (sA (sA (sA (sA (sA (sA (sA (sA T 1 (T.1 1)) 2 (T.1 2)) 3 (T.1 3)) 4 (T.1 4)) 5 (T.1 5)) 6 (T.1 6)) 7 (T.1 7)) 8 (T.1 8)) 0 v24) 1 (T.2.2 1)) 34 (T.2.2 34)) := by
  unfold Rel itm rep arnd sets outc at *
  simp (disch := decide) only [sI_1, sI_21, sI_eq, sI_ne, sA_eq, sA_ne, sA_21, sA_22, sL_1, sL_22, sL_eq, sL_ne]
  exact hR
theorem rel_app {S T : ST} {c : Nat} {k w st o sh pe be bh re k' w' st' o' sh' bh' re' : Int32} (f10 : Nat → Int64) (hc : c < 400) (h1 : ∀ k, k < c → itm S T k) (h2 : rep S c) (h3 : arnd S T) (h4 : sets S T)
    (hi : itv k w st o sh pe be bh re k' w' st' o' sh' w' bh' re') (hr : ∀ h, h < c → S.1 2 h = 5 → (c : Int) ≤ h + (S.1 10 h).toInt → k = 0 ∨ k = 2 ∨ k = 3) :
    Rel (sI (sI (sI (sI (sL (sA (sA (sA (sA (sA (sA (sA (sA (sA S 2 (upd (S.1 2) c k)) 3 (upd (S.1 3) c w)) 4 (upd (S.1 4) c st)) 5 (upd (S.1 5) c o)) 6 (upd (S.1 6) c sh)) 7 (upd (S.1 7) c pe)) 8 (upd (S.1 8) c be)) 9 (upd (S.1 9) c bh)) 10 (upd (S.1 10) c re)) 49 f10) 73 (nI (c + 1))) 2626 0) 2627 0) 2628 0) (sI (sI (sI (sA (sA (sA (sA (sA (sA (sA (sA T 1 (upd (T.1 1) c k')) 2 (upd (T.1 2) c w')) 3 (upd (T.1 3) c st')) 4 (upd (T.1 4) c o')) 5 (upd (T.1 5) c sh')) 6 (upd (T.1 6) c w')) 7 (upd (T.1 7) c bh')) 8 (upd (T.1 8) c re')) 0 0) 1 (nI (c + 1))) 34 0) := by
  unfold Rel rep arnd sets outc
  simp only [itm_v]
  simp (disch := decide) only [sI_1, sI_21, sI_eq, sI_ne, sA_eq, sA_ne, sA_21, sA_22, sL_1, sL_22, sL_eq, sL_ne]
  refine ⟨c + 1, by omega, rfl, rfl, fun j hj => ?_, fun h j hj hj2 e e2 => ?_, h3, h4, Or.inl ⟨trivial, trivial, trivial, trivial⟩⟩
  · by_cases hjc : j = c
    · subst hjc
      simp only [pk_us]
      exact hi
    · simp only [pk_un hjc]
      exact h1 j (by omega)
  · have hhc : h ≠ c := by omega
    rw [pk_un hhc] at e e2
    by_cases hjc : j = c
    · subst hjc
      rw [pk_us]
      exact hr h (by omega) e e2
    · rw [pk_un hjc]
      exact h2 h j hj (by omega) e e2
/-- what the law does when both have answered -/
def fin5 (Kh : ST → ST → Int32 → Prop) (S T : ST) (x4 r15 : Int32) (f1 f2 f3 f4 f5 f6 f7 f8 f9 : Nat → Int32) (f10 : Nat → Int64) (v11 v12 v13 v14 : Int32) (r27 : Int32) (f16 f17 f18 f19 f20 f21 f22 f23 : Nat → Int32) (v24 v25 v26 : Int32) : Prop :=
  wp_Mo_thrown (sI (sI (sI (sA (sA (sA (sA (sA (sA (sA (sA T 1 f16) 2 f17) 3 f18) 4 f19) 5 f20) 6 f21) 7 f22) 8 f23) 0 v24) 1 v25) 34 v26) (fun r28 => ((r28 = r15 → ((¬ r15 = 0 → (∀ v29 : Int32, v29 = x4 + 6 → Kh (sI (sI (sI (sI (sL (sA (sA (sA (sA (sA (sA (sA (sA (sA S 2 f1) 3 f2) 4 f3) 5 f4) 6 f5) 7 f6) 8 f7) 9 f8) 10 f9) 49 f10) 73 v11) 2626 v12) 2627 v13) 2628 v14) (sI (sI (sI (sA (sA (sA (sA (sA (sA (sA (sA T 1 f16) 2 f17) 3 f18) 4 f19) 5 f20) 6 f21) 7 f22) 8 f23) 0 v24) 1 v25) 34 v26) v29)) ∧ (r15 = 0 → (((lg_cmp (f10 (0 : Int32).toNatClampNeg) (r27.toInt64)) = 0 → (∀ v30 : Int32, v30 = x4 + 6 → Kh (sI (sI (sI (sI (sL (sA (sA (sA (sA (sA (sA (sA (sA (sA S 2 f1) 3 f2) 4 f3) 5 f4) 6 f5) 7 f6) 8 f7) 9 f8) 10 f9) 49 f10) 73 v11) 2626 v12) 2627 v13) 2628 v14) (sI (sI (sI (sA (sA (sA (sA (sA (sA (sA (sA T 1 f16) 2 f17) 3 f18) 4 f19) 5 f20) 6 f21) 7 f22) 8 f23) 0 v24) 1 v25) 34 v26) v30)) ∧ (¬ (lg_cmp (f10 (0 : Int32).toNatClampNeg) (r27.toInt64)) = 0 → False))))) ∧ (¬ r28 = r15 → False)))
theorem fin5_thr {Kh : ST → ST → Int32 → Prop} {S T : ST} {i : Nat} {v : Int32} (hR : Rel S T) (hk : ∀ S' T' : ST, Rel S' T' → Kh S' T' (nI (i + 6))) (hv : ¬ v = 0) :
    fin5 Kh S T (nI i) v (S.1 2) (S.1 3) (S.1 4) (S.1 5) (S.1 6) (S.1 7) (S.1 8) (S.1 9) (S.1 10) (S.2.1 49) (S.2.2 73) (S.2.2 2626) (S.2.2 2627) (S.2.2 2628) 0 (T.1 1) (T.1 2) (T.1 3) (T.1 4) (T.1 5) (T.1 6) (T.1 7) (T.1 8) v (T.2.2 1) (T.2.2 34) := by
  unfold fin5 wp_Mo_thrown
  refine ⟨fun _ => ⟨fun _ v29 e => ?_, fun z => absurd z hv⟩, fun z => z ?_⟩
  · rw [e, n6]
    exact hk _ _ (rel_same v hR)
  · simp (disch := decide) only [sI_1, sI_21, sI_eq, sI_ne, sA_eq, sA_ne, sA_21, sA_22, sL_1, sL_22, sL_eq, sL_ne]
theorem fin5_app {Kh : ST → ST → Int32 → Prop} {S T : ST} {i c : Nat} {k w st o sh pe be bh re k' w' st' o' sh' bh' re' : Int32} {f10 : Nat → Int64} (hk : ∀ S' T' : ST, Rel S' T' → Kh S' T' (nI (i + 6))) (hc : c < 400) (h1 : ∀ k, k < c → itm S T k) (h2 : rep S c) (h3 : arnd S T) (h4 : sets S T)
    (hi : itv k w st o sh pe be bh re k' w' st' o' sh' w' bh' re') (hr : ∀ h, h < c → S.1 2 h = 5 → (c : Int) ≤ h + (S.1 10 h).toInt → k = 0 ∨ k = 2 ∨ k = 3) (hf : f10 = vp_updL (S.2.1 49) ((0 : Int32).toNatClampNeg) ((nI c).toInt64)) :
    fin5 Kh S T (nI i) 0 (upd (S.1 2) c k) (upd (S.1 3) c w) (upd (S.1 4) c st) (upd (S.1 5) c o) (upd (S.1 6) c sh) (upd (S.1 7) c pe) (upd (S.1 8) c be) (upd (S.1 9) c bh) (upd (S.1 10) c re) f10 (nI (c + 1)) 0 0 0 (nI c) (upd (T.1 1) c k') (upd (T.1 2) c w') (upd (T.1 3) c st') (upd (T.1 4) c o') (upd (T.1 5) c sh') (upd (T.1 6) c w') (upd (T.1 7) c bh') (upd (T.1 8) c re') 0 (nI (c + 1)) 0 := by
  unfold fin5 wp_Mo_thrown
  refine ⟨fun _ => ⟨fun z => absurd rfl z, fun _ => ⟨fun _ v29 e => ?_, fun z => z ?_⟩⟩, fun z => z ?_⟩
  · rw [e, n6]
    exact hk _ _ (rel_app _ hc h1 h2 h3 h4 hi hr)
  · rw [hf, lc_eq, show (0 : Int32).toNatClampNeg = 0 from rfl, pk_uLs]
  · simp (disch := decide) only [sI_1, sI_21, sI_eq, sI_ne, sA_eq, sA_ne, sA_21, sA_22, sL_1, sL_22, sL_eq, sL_ne]
theorem s_append {S : ST} {c : Nat} {k w : Int32} {post : Int32 → (Nat → Int32) → (Nat → Int32) → (Nat → Int32) → (Nat → Int32) → (Nat → Int32) → (Nat → Int32) → (Nat → Int32) → (Nat → Int32) → (Nat → Int32) → Int32 → Prop} (hc : c < 400) (hS : S.2.2 73 = nI c)
    (h : post (nI c) (upd (S.1 2) c k) (upd (S.1 3) c w) (upd (S.1 4) c 0) (upd (S.1 5) c 0) (upd (S.1 6) c 0) (upd (S.1 7) c 0) (upd (S.1 8) c (-1073741824)) (upd (S.1 9) c (-1073741824)) (upd (S.1 10) c 0) (nI (c + 1))) : wp_Pa_append S k w post := by
  have hp : vp_in (nI c) 400 := vp_in_nI hc (by omega)
  unfold wp_Pa_append
  intro v1 e
  rw [hS] at e
  subst e
  rw [nI_clamp (by omega)]
  refine ⟨hp, fun f2 e2 => ⟨hp, fun f3 e3 => ⟨hp, fun f4 e4 => ⟨hp, fun f5 e5 => ⟨hp, fun f6 e6 => ⟨hp, fun f7 e7 => ⟨hp, fun f8 e8 => ⟨hp, fun f9 e9 => ⟨hp, fun f10 e10 v11 e11 => ?_⟩⟩⟩⟩⟩⟩⟩⟩⟩
  rw [e2, e3, e4, e5, e6, e7, e8, e9, e10, e11, nI_1]
  exact h
theorem s_Mappend {S : ST} {c : Nat} {k w st o sh bh re : Int32} {post : Int32 → (Nat → Int32) → (Nat → Int32) → (Nat → Int32) → (Nat → Int32) → (Nat → Int32) → (Nat → Int32) → (Nat → Int32) → (Nat → Int32) → Int32 → Int32 → Prop} (hc : c < 410) (hS : S.2.2 1 = nI c)
    (h : post (nI c) (upd (S.1 1) c k) (upd (S.1 2) c w) (upd (S.1 3) c st) (upd (S.1 4) c o) (upd (S.1 5) c sh) (upd (S.1 6) c w) (upd (S.1 7) c bh) (upd (S.1 8) c re) (nI (c + 1)) 0) : wp_Mo_append S k w st o sh bh re post := by
  have hp : vp_in (nI c) 410 := vp_in_nI hc (by omega)
  unfold wp_Mo_append
  intro v1 e
  rw [hS] at e
  subst e
  rw [nI_clamp (by omega), hS]
  refine ⟨hp, fun f2 e2 => ⟨hp, fun f3 e3 => ⟨hp, fun f4 e4 => ⟨hp, fun f5 e5 => ⟨hp, fun f6 e6 => ⟨hp, fun f7 e7 => ⟨hp, fun f8 e8 => ⟨hp, fun f9 e9 v10 e10 => ?_⟩⟩⟩⟩⟩⟩⟩⟩
  rw [e2, e3, e4, e5, e6, e7, e8, e9, e10, nI_1]
  exact h
theorem s_room {S : ST} {c : Nat} {A : Prop} {px : String → Prop} (hc : c ≤ 400) (hS : S.2.2 73 = nI c) (h1 : c < 400 → A) (h2 : c = 400 → px "java/lang/UnsupportedOperationException") : wp_Lb_requireRoom S A px := by
  unfold wp_Lb_requireRoom
  rw [hS]
  refine ⟨fun q => h1 ((nI_ltI (b := 400) (by omega) (by omega)).mp q), fun q => h2 ?_⟩
  have : ¬ c < 400 := fun z => q ((nI_ltI (b := 400) (by omega) (by omega)).mpr z)
  omega
theorem eq400 {c : Nat} (hc : c ≤ 400) : nI c = 400 ↔ c = 400 := nI_eq (b := 400) (by omega) (by omega)
theorem rep_box {S : ST} {c : Nat} {k : Int32} (h : k = 0 ∨ k = 2 ∨ k = 3) : ∀ h, h < c → S.1 2 h = 5 → (c : Int) ≤ h + (S.1 10 h).toInt → k = 0 ∨ k = 2 ∨ k = 3 := fun _ _ _ _ => h
theorem ok_116 : stepok wl_law_116 := by
  intro L xs Kh S T i hi hL hR hk
  obtain ⟨c, hc, hS, hT, h1, h2, h3, h4, h5⟩ := id hR
  unfold wl_law_116
  have hin1 : vp_in (nI i + 1) L := xin (d := 1) (by omega) hL
  generalize xs (nI i + 1).toNatClampNeg = p
  refine ⟨hin1, ?_⟩
  unfold wp_La_box wp_Lb_box wp_Ou_forget wp_Mo_box
  refine s_reqSize (fun z => s_room hc hS (fun hc4 => s_append (S := sI (sI (sI S 2626 0) 2627 0) 2628 0) hc4 hS ⟨in01, fun f15 e15 => ⟨hin1, s_MisSize (fun _ => ⟨fun _ => ⟨fun _ => ?_, fun y => absurd ((eq400 hc).mp (hT ▸ y)) (by omega)⟩, fun y => absurd y (by decide)⟩) (fun y => absurd z y)⟩⟩) (fun hc4 => Or.inr ⟨rfl, hin1, s_MisSize (fun _ => ⟨fun _ => ⟨fun y => absurd (hT.trans ((eq400 hc).mpr hc4)) y, fun _ => ?_⟩, fun y => absurd y (by decide)⟩) (fun y => absurd z y)⟩)) (fun z => Or.inl ⟨rfl, hin1, s_MisSize (fun y => absurd y z) (fun _ => ⟨fun y => absurd rfl y, fun _ => ?_⟩)⟩)
  · unfold wl_Mo_box_28
    refine ⟨fun _ => s_Mappend (S := sI T 0 0) (by omega) hT ?_, fun y => absurd (by decide) y⟩
    exact fin5_app hk hc4 h1 h2 h3 h4 ⟨rfl, rfl, Or.inl ⟨Or.inl rfl, rfl, z, rfl, rfl, rfl, rfl, rfl, rfl, rfl, rfl, rfl, rfl⟩⟩ (rep_box (Or.inl rfl)) e15
  · unfold wl_Mo_box_28
    exact ⟨fun y => absurd y (by decide), fun _ => fin5_thr hR hk (by decide)⟩
  · unfold wl_Mo_box_28
    exact ⟨fun y => absurd y (by decide), fun _ => fin5_thr hR hk (by decide)⟩
theorem ok_264 : stepok wl_law_264 := by
  intro L xs Kh S T i hi hL hR hk
  obtain ⟨c, hc, hS, hT, h1, h2, h3, h4, h5⟩ := id hR
  unfold wl_law_264
  have hin1 : vp_in (nI i + 1) L := xin (d := 1) (by omega) hL
  have hin2 : vp_in (nI i + 2) L := xin (d := 2) (by omega) hL
  generalize xs (nI i + 1).toNatClampNeg = p
  generalize xs (nI i + 2).toNatClampNeg = b
  refine ⟨hin1, hin2, fun eb => ?_, fun eb => ?_⟩
  · unfold wp_La_kern wp_Lb_kern wp_Ou_forget wp_Mo_kern wl_Lb_kern_28
    refine s_reqSize (fun z => s_room hc hS (fun hc4 => ⟨fun _ => s_append (S := sI (sI (sI S 2626 0) 2627 0) 2628 0) hc4 hS ⟨in01, fun f15 e15 => ⟨hin1, hin2, fun _ => s_MisSize (fun _ => ⟨fun _ => ⟨fun _ => ?_, fun y => absurd ((eq400 hc).mp (hT ▸ y)) (by omega)⟩, fun y => absurd y (by decide)⟩) (fun y => absurd z y), fun y => absurd eb y⟩⟩, fun y => absurd rfl y⟩) (fun hc4 => Or.inr ⟨rfl, hin1, hin2, fun _ => s_MisSize (fun _ => ⟨fun _ => ⟨fun y => absurd (hT.trans ((eq400 hc).mpr hc4)) y, fun _ => ?_⟩, fun y => absurd y (by decide)⟩) (fun y => absurd z y), fun y => absurd eb y⟩)) (fun z => Or.inl ⟨rfl, hin1, hin2, fun _ => s_MisSize (fun y => absurd y z) (fun _ => ⟨fun y => absurd rfl y, fun _ => ?_⟩), fun y => absurd eb y⟩)
    · unfold wl_Mo_kern_28 wl_Mo_kern_52
      refine ⟨fun _ => ⟨fun _ => s_Mappend (S := sI T 0 0) (by omega) hT ?_, fun y => absurd rfl y⟩, fun y => absurd (by decide) y⟩
      exact fin5_app hk hc4 h1 h2 h3 h4 ⟨rfl, rfl, Or.inl ⟨Or.inr (Or.inl rfl), rfl, z, rfl, rfl, rfl, rfl, rfl, rfl, rfl, rfl, rfl, rfl⟩⟩ (rep_box (Or.inr (Or.inl rfl))) e15
    · unfold wl_Mo_kern_28
      exact ⟨fun y => absurd y (by decide), fun _ => fin5_thr hR hk (by decide)⟩
    · unfold wl_Mo_kern_28
      exact ⟨fun y => absurd y (by decide), fun _ => fin5_thr hR hk (by decide)⟩
  · unfold wp_La_kern wp_Lb_kern wp_Ou_forget wp_Mo_kern wl_Lb_kern_28
    refine s_reqSize (fun z => s_room hc hS (fun hc4 => ⟨fun y => absurd y (by decide), fun _ => s_append (S := sI (sI (sI S 2626 0) 2627 0) 2628 0) hc4 hS ⟨in01, fun f15 e15 => ⟨hin1, hin2, fun y => absurd y eb, fun _ => s_MisSize (fun _ => ⟨fun _ => ⟨fun _ => ?_, fun y => absurd ((eq400 hc).mp (hT ▸ y)) (by omega)⟩, fun y => absurd y (by decide)⟩) (fun y => absurd z y)⟩⟩⟩) (fun hc4 => Or.inr ⟨rfl, hin1, hin2, fun y => absurd y eb, fun _ => s_MisSize (fun _ => ⟨fun _ => ⟨fun y => absurd (hT.trans ((eq400 hc).mpr hc4)) y, fun _ => ?_⟩, fun y => absurd y (by decide)⟩) (fun y => absurd z y)⟩)) (fun z => Or.inl ⟨rfl, hin1, hin2, fun y => absurd y eb, fun _ => s_MisSize (fun y => absurd y z) (fun _ => ⟨fun y => absurd rfl y, fun _ => ?_⟩)⟩)
    · unfold wl_Mo_kern_28 wl_Mo_kern_52
      refine ⟨fun _ => ⟨fun y => absurd y (by decide), fun _ => s_Mappend (S := sI T 0 0) (by omega) hT ?_⟩, fun y => absurd (by decide) y⟩
      exact fin5_app hk hc4 h1 h2 h3 h4 ⟨rfl, rfl, Or.inl ⟨Or.inr (Or.inr rfl), rfl, z, rfl, rfl, rfl, rfl, rfl, rfl, rfl, rfl, rfl, rfl⟩⟩ (rep_box (Or.inr (Or.inr rfl))) e15
    · unfold wl_Mo_kern_28
      exact ⟨fun y => absurd y (by decide), fun _ => fin5_thr hR hk (by decide)⟩
    · unfold wl_Mo_kern_28
      exact ⟨fun y => absurd y (by decide), fun _ => fin5_thr hR hk (by decide)⟩
