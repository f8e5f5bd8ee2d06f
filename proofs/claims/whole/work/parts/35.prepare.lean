/-! Galley.prepare -/
def GalF (X : Nat → Nat → Int32) (m : Nat) (a18 a19 a20 a21 a22 a23 a24 a25 a26 a27 : Nat → Int32) : Prop :=
  (∀ k, k < m + 3 → gCopy X k a18 a19 a22 a23 ∧ gPl X m k a20 ∧ gFs X (m + 2) k a21) ∧ (∀ k, k < m + 2 → gSum X k a24 a25 a26 a27)
theorem rel_mB {S T : ST} {c : Nat} (h1 : ∀ k, k < c → itm S T k) : mB (S.1 2) c = mB (T.1 1) c := by
  unfold mB
  by_cases h0 : 0 < c
  · rw [(itm_k (h1 (c - 1) (by omega))).1]
  · rw [if_neg (fun z => h0 z.1), if_neg (fun z => h0 z.1)]
theorem s_prepare {S T : ST} {c m : Nat} {post : (Nat → Int32) → (Nat → Int32) → (Nat → Int32) → (Nat → Int32) → (Nat → Int32) → (Nat → Int32) → (Nat → Int32) → (Nat → Int32) → (Nat → Int32) → (Nat → Int32) → (Nat → Int32) → Int32 → Prop}
    (hc : c ≤ 400) (hS : S.2.2 73 = nI c) (h1 : ∀ k, k < c → itm S T k) (h3 : arnd S T) (h4 : sets S T) (hm : m = mB (T.1 1) c) (hG : Gd (cloX T m) m)
    (hp : ∀ a18 a19 a20 a21 a22 a23 a24 a25 a26 a27 a28 : Nat → Int32, GalF (cloX T m) m a18 a19 a20 a21 a22 a23 a24 a25 a26 a27 → post a18 a19 a20 a21 a22 a23 a24 a25 a26 a27 a28 (nI (m + 2))) : wp_Ga_prepare S post := by
  have hmc := mB_le (f := T.1 1) (c := c)
  rw [← hm] at hmc
  have h1m : ∀ k, k < m → itm S T k := fun k hk => h1 k (by omega)
  unfold wp_Ga_prepare
  refine s_cwlg hc hS ?_
  rw [rel_mB h1, ← hm]
  intro v2 e2
  have ev : v2 = nI (m + 2) := by
    rw [e2, show (3 : Int32) = nI 3 from rfl, show (1 : Int32) = nI 1 from rfl, nI_add, pk_sub (by omega)]
    rfl
  rw [ev]
  refine ⟨m + 1, s_copy_l (S := sI S 1099 (nI (m + 2))) (by omega) h1m h4 (fun f3 f4 f5 f6 g1 => ?_) (m + 1) 0 _ _ _ _ (by omega) (by omega) (fun k hk => absurd hk (Nat.not_lt_zero k))⟩
  refine s_close (T := T) (by omega) rfl g1 (fun f7 f8 f9 f10 g2 => ?_)
  refine ⟨m + 1, s_sumUp_l (S := sI (sA (sA (sA (sA S 18 f7) 19 f8) 22 f9) 23 f10) 1099 (nI (m + 2))) (T := T) (by omega) rfl h1m h3 (fun f11 f12 f13 f14 g3 => ?_) (m + 1) 0 _ _ _ _ (by omega) (by omega) (fun k hk => absurd hk (Nat.not_lt_zero k))⟩
  refine ⟨m + 4, s_mark_l (S := sI (sA (sA (sA (sA (sA (sA (sA (sA S 18 f7) 19 f8) 22 f9) 23 f10) 24 f11) 25 f12) 26 f13) 27 f14) 1099 (nI (m + 2))) hG rfl (fun k hk => (g2 k hk).1) (fun k hk => (g2 k hk).2.1) (fun k hk => (gal_item hk (h1m k hk)).2.1) (fun f15 g4 => ?_) (m + 4) 0 0 _ (by omega) (by omega) (Or.inl ⟨rfl, fun h hh => absurd hh (Nat.not_lt_zero h)⟩) (by omega) (fun k hk => absurd hk (Nat.not_lt_zero k))⟩
  unfold wp_Ga_findFirstOnes
  refine ⟨?_, fun f1 e1 v3 e3 => ⟨m + 4, s_first_l (S := sI (sA (sA (sA (sA (sA (sA (sA (sA (sA S 18 f7) 19 f8) 20 f15) 22 f9) 23 f10) 24 f11) 25 f12) 26 f13) 27 f14) 1099 (nI (m + 2))) hG rfl (fun k hk => (g2 k hk).1) (fun k hk => (gal_item hk (h1m k hk)).2.1) (fun k hk e => (gal_item hk (h1m k hk)).2.2.2.2.2.2.2.2.2.2.2 ((gal_item hk (h1m k hk)).1.trans e)) (fun f16 f17 g5 => ?_) (m + 4) (m + 3) v3 _ f1 (by omega) (by omega) ?_ (fun k hk hk2 => absurd hk2 (by omega)) (fun k hk hk2 => ?_)⟩⟩
  · show vp_in (nI (m + 2) + 1) 404
    rw [nI_1]
    exact vp_in_nI (by omega) (by omega)
  · exact hp _ _ _ _ _ _ _ _ _ _ _ ⟨fun k hk => ⟨g2 k hk, g4 k hk, g5 k hk⟩, g3⟩
  · rw [e3]
    show (nI (m + 2)).toInt = _
    rw [nI_toInt (by omega)]
    omega
  · have ek : k = m + 3 := by omega
    subst ek
    rw [e1]
    show upd _ (nI (m + 2) + 1).toNatClampNeg (nI (m + 2) + 1) (m + 3) = _
    rw [nI_1, nI_clamp (by omega), show m + 2 + 1 = m + 3 from rfl, pk_us, show nk (cloX T m) (m + 2) (m + 3) = m + 3 from nk_end]
