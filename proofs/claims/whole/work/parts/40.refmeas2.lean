/-! the reference's measure, as a whole -/
theorem rg_nn {f : Nat → Int} {n s e : Nat} (h : ∀ k, k < n → 0 ≤ f k) (he : e ≤ n) : 0 ≤ rg f s e := by
  unfold rg
  by_cases z : s < e
  · rw [if_pos z]
    have := psum_mono h e s (by omega) he
    omega
  · rw [if_neg z]; omega
theorem psum_add {f g h k : Nat → Int} {n : Nat} (H : ∀ j, j < n → f j + g j + h j = k j) : ∀ b, b ≤ n → psum f b + psum g b + psum h b = psum k b := by
  intro b
  induction b with
  | zero => intro _; rfl
  | succ b ih =>
    intro hb
    have h1 := ih (by omega)
    have h2 := H b (by omega)
    show psum f b + f b + (psum g b + g b) + (psum h b + h b) = psum k b + k b
    omega
theorem rg_add {f g h k : Nat → Int} {n s e : Nat} (H : ∀ j, j < n → f j + g j + h j = k j) (he : e ≤ n) : rg f s e + rg g s e + rg h s e = rg k s e := by
  unfold rg
  by_cases z : s < e
  · rw [if_pos z, if_pos z, if_pos z, if_pos z]
    have h1 := psum_add H e he
    have h2 := psum_add H s (by omega)
    omega
  · rw [if_neg z, if_neg z, if_neg z, if_neg z]; omega
theorem rg_cg {f g : Nat → Int} {n s e : Nat} (H : ∀ j, j < n → f j = g j) (he : e ≤ n) : rg f s e = rg g s e := by
  unfold rg
  by_cases z : s < e
  · rw [if_pos z, if_pos z, psum_cg e (fun j hj => H j (by omega)), psum_cg s (fun j hj => H j (by omega))]
  · rw [if_neg z, if_neg z]
def aoX (X : Nat → Nat → Int32) (i j : Nat) : Int := if (X 13 i).toInt = j then (X 12 i).toInt else 0
theorem ao_item {X : Nat → Nat → Int32} {i : Nat} (h : gl4 (X 11 i) (X 12 i) (X 13 i) (X 14 i)) : (∀ j, 0 ≤ aoX X i j) ∧ aoX X i 0 = (if X 13 i = 0 then (X 12 i).toInt else 0) ∧ aoX X i 1 + aoX X i 2 + aoX X i 3 = (if X 13 i = 0 then 0 else (X 12 i).toInt) := by
  unfold gl4 po at h
  have z4 : X 13 i = 0 ↔ (X 13 i).toInt = 0 := by rw [i_eq]; rfl
  refine ⟨fun j => ?_, ?_, ?_⟩
  · unfold aoX; split <;> omega
  · unfold aoX
    by_cases z : X 13 i = 0
    · have := z4.mp z
      rw [if_pos z]
      split <;> omega
    · have : ¬ (X 13 i).toInt = 0 := fun y => z (z4.mpr y)
      rw [if_neg z]
      split <;> omega
  · unfold aoX
    by_cases z : X 13 i = 0
    · have := z4.mp z
      rw [if_pos z]
      split <;> split <;> split <;> omega
    · have : ¬ (X 13 i).toInt = 0 := fun y => z (z4.mpr y)
      rw [if_neg z]
      split <;> split <;> split <;> omega
theorem s_meas12 {T : ST} {x1 x2 : Int32} {post : (Nat → Int32) → Int32 → Int32 → Int32 → Prop} (hp : ∀ a21 : Nat → Int32, (∀ j, j < 4 → a21 j = Int32.ofInt (if j = 0 then (T.2.2 19).toInt else 0)) → ∃ k9 : Nat, wl_Mo_measure_42 T post k9 a21 0 0 x1 x2 0) :
    ∀ (n k : Nat) (a21 : Nat → Int32), k ≤ 4 → 4 < k + n → (∀ j, j < k → a21 j = 0) → wl_Mo_measure_12 T post n a21 0 0 x1 x2 (nI k) := by
  intro n
  induction n with
  | zero => intro k a21 h h2; omega
  | succ n ih =>
    intro k a21 hk hn ha
    unfold wl_Mo_measure_12
    refine ⟨fun q => ⟨by unfold vp_in; decide, fun f1 e1 => hp f1 fun j hj => ?_⟩, fun q => ?_⟩
    · have hk4 := (nI_leI (a := 4) (by omega) (by omega)).mp q
      rw [e1, show (0 : Int32).toNatClampNeg = 0 from rfl]
      by_cases z : j = 0
      · subst z
        rw [pk_us, if_pos rfl, Int32.ofInt_toInt]
      · rw [pk_un z, if_neg z, ha j (by omega)]
        rfl
    · have hlt : k < 4 := by
        rcases Nat.lt_or_ge k 4 with z | z
        · exact z
        · exact absurd ((nI_leI (a := 4) (by omega) (by omega)).mpr z) q
      rw [nI_clamp (by omega)]
      refine ⟨vp_in_nI hlt (by omega), fun f2 e2 v3 e3 => ?_⟩
      rw [e3, nI_1]
      refine ih (k + 1) f2 (by omega) (by omega) fun j hj => ?_
      rw [e2]
      by_cases z : j = k
      · subst z; rw [pk_us]
      · rw [pk_un z]; exact ha j (by omega)
theorem s_Mmeasure {T : ST} {X : Nat → Nat → Int32} {m e : Nat} {a : Int32} {post : (Nat → Int32) → Int32 → Int32 → Int32 → Prop} (hG : Gd X m) (hA : agr X m T) (he : e < m + 3) (ha : befo a e) (hm0 : 0 ≤ (T.2.2 19).toInt) (hm1 : (T.2.2 19).toInt ≤ (X 9 8).toInt)
    (hp : ∀ (a21 : Nat → Int32) (i28 i30 : Int32), i28.toInt = W1 X m a e → i30.toInt = H1 X m a e → (a21 0).toInt = F1 X m (T.2.2 19) a e → 0 ≤ (a21 1).toInt → 0 ≤ (a21 2).toInt → 0 ≤ (a21 3).toInt → (a21 1).toInt + (a21 2).toInt + (a21 3).toInt = E1 X m a e → post a21 (nI (fsX X (m + 2) a)) i28 i30) : wp_Mo_measure T a (nI e) post := by
  obtain ⟨bW, bF, bE, bH, bs⟩ := meas_bd hG he ha hm0 hm1
  have hG' := hG
  obtain ⟨hm, hI, -, -, ⟨-, -, g0, g1⟩, -⟩ := hG'
  have o0 : Int32.ofInt 0 = 0 := rfl
  have h7 := hA.1 7 (by omega) (by omega)
  have h1 := hA.1 1 (by omega) (by omega)
  have ao0 := ao_item g0
  have ao1 := ao_item g1
  unfold wp_Mo_measure
  refine ⟨5, s_meas12 (fun a21 h21 => ⟨3, ?_⟩) 5 0 (T.1 21) (by omega) (by omega) (fun j hj => absurd hj (Nat.not_lt_zero j))⟩
  have rng : ∀ (f : Nat → Int32) (i28 i30 : Int32), (∀ j, j < 4 → f j = Int32.ofInt ((if j = 0 then (T.2.2 19).toInt else 0) + aoX X 0 j + aoX X 1 j)) → i28 = Int32.ofInt ((X 11 0).toInt + (X 11 1).toInt + bhI X a) → i30 = Int32.ofInt ((X 14 0).toInt + (X 14 1).toInt) → wl_Mo_measure_119 T post f ((X 11 0) + (X 11 1)) i30 a (nI e) i28 := by
    intro f i28 i30 hf h28 h30
    unfold wl_Mo_measure_119
    refine s_Mfirst (T := sI (sI (sA T 21 f) 28 i28) 30 i30) hG ⟨fun j a b => (sA_ne (by omega)).trans (hA.1 j a b), hA.2⟩ he ha ⟨e + 2, ?_⟩
    refine s_meas136 hG hA he (B := fun j => (if j = 0 then (T.2.2 19).toInt else 0) + aoX X 0 j + aoX X 1 j) (bw := (X 11 0).toInt + (X 11 1).toInt + bhI X a) (bh := (X 14 0).toInt + (X 14 1).toInt) (s := fsX X (m + 2) a) (fun a21 i28 i30 q21 q28 q30 => ?_) (e + 2) (fsX X (m + 2) a) f i28 i30 (by omega) (Or.inr rfl) (by omega) (fun j hj => by rw [Int.sub_self, Int.add_zero]; exact hf j hj) (by rw [Int.sub_self, Int.add_zero]; exact h28) (by rw [Int.sub_self, Int.add_zero]; exact h30) (by omega)
    have n0 : ∀ j, 0 ≤ rg (ioX X j) (fsX X (m + 2) a) e := fun j => rg_nn (n := m + 3) (fun k hk => (io_item (hI k hk)).1 j) (by omega)
    have r0 : rg (ioX X 0) (fsX X (m + 2) a) e = rg (fun k => (ifX X k).toInt) (fsX X (m + 2) a) e := rg_cg (n := m + 3) (fun k hk => (io_item (hI k hk)).2.1) (by omega)
    have r3 : rg (ioX X 1) (fsX X (m + 2) a) e + rg (ioX X 2) (fsX X (m + 2) a) e + rg (ioX X 3) (fsX X (m + 2) a) e = rg (fun k => (ieX X k).toInt) (fsX X (m + 2) a) e := rg_add (n := m + 3) (fun k hk => (io_item (hI k hk)).2.2) (by omega)
    have eE : E1 X m a e = (aoX X 0 1 + aoX X 1 1 + rg (ioX X 1) (fsX X (m + 2) a) e) + (aoX X 0 2 + aoX X 1 2 + rg (ioX X 2) (fsX X (m + 2) a) e) + (aoX X 0 3 + aoX X 1 3 + rg (ioX X 3) (fsX X (m + 2) a) e) := by
      unfold E1
      rw [← ao0.2.2, ← ao1.2.2, ← r3]
      omega
    have eF : F1 X m (T.2.2 19) a e = (T.2.2 19).toInt + aoX X 0 0 + aoX X 1 0 + rg (ioX X 0) (fsX X (m + 2) a) e := by
      unfold F1
      rw [← ao0.2.1, ← ao1.2.1, r0]
      omega
    have eW : (X 11 0).toInt + (X 11 1).toInt + bhI X a + rg (fun k => (iwX X k).toInt) (fsX X (m + 2) a) e + (befX X e).toInt = W1 X m a e := by
      unfold W1
      omega
    have eH : (X 14 0).toInt + (X 14 1).toInt + rg (fun k => (isX X k).toInt) (fsX X (m + 2) a) e = H1 X m a e := rfl
    rw [eW] at q28
    rw [eH] at q30
    have u0 := n0 0
    have u1 := n0 1
    have u2 := n0 2
    have u3 := n0 3
    have p1 := ao0.1 1
    have p2 := ao0.1 2
    have p3 := ao0.1 3
    have p4 := ao1.1 1
    have p5 := ao1.1 2
    have p6 := ao1.1 3
    have t0 := q21 0 (by omega)
    have t1 := q21 1 (by omega)
    have t2 := q21 2 (by omega)
    have t3 := q21 3 (by omega)
    unfold szI at bW
    unfold poI at bF bE bH
    have v0 : (a21 0).toInt = F1 X m (T.2.2 19) a e := by
      rw [t0, eF]
      show (Int32.ofInt ((if (0 : Nat) = 0 then (T.2.2 19).toInt else 0) + aoX X 0 0 + aoX X 1 0 + rg (ioX X 0) (fsX X (m + 2) a) e)).toInt = _
      rw [if_pos rfl, o_I (by omega) (by omega)]
    have v1 : (a21 1).toInt = aoX X 0 1 + aoX X 1 1 + rg (ioX X 1) (fsX X (m + 2) a) e := by
      rw [t1]
      show (Int32.ofInt ((if (1 : Nat) = 0 then (T.2.2 19).toInt else 0) + aoX X 0 1 + aoX X 1 1 + rg (ioX X 1) (fsX X (m + 2) a) e)).toInt = _
      rw [if_neg (by omega), o_I (by omega) (by omega)]
      omega
    have v2 : (a21 2).toInt = aoX X 0 2 + aoX X 1 2 + rg (ioX X 2) (fsX X (m + 2) a) e := by
      rw [t2]
      show (Int32.ofInt ((if (2 : Nat) = 0 then (T.2.2 19).toInt else 0) + aoX X 0 2 + aoX X 1 2 + rg (ioX X 2) (fsX X (m + 2) a) e)).toInt = _
      rw [if_neg (by omega), o_I (by omega) (by omega)]
      omega
    have v3 : (a21 3).toInt = aoX X 0 3 + aoX X 1 3 + rg (ioX X 3) (fsX X (m + 2) a) e := by
      rw [t3]
      show (Int32.ofInt ((if (3 : Nat) = 0 then (T.2.2 19).toInt else 0) + aoX X 0 3 + aoX X 1 3 + rg (ioX X 3) (fsX X (m + 2) a) e)).toInt = _
      rw [if_neg (by omega), o_I (by omega) (by omega)]
      omega
    exact hp a21 i28 i30 (by rw [q28]; exact o_I (by omega) (by omega)) (by rw [q30]; exact o_I (by omega) (by omega)) v0 (by omega) (by omega) (by omega) (by omega)
  have end2 : ∀ (f : Nat → Int32) (i30 : Int32), (∀ j, j < 4 → f j = Int32.ofInt ((if j = 0 then (T.2.2 19).toInt else 0) + aoX X 0 j + aoX X 1 j)) → i30 = Int32.ofInt ((X 14 0).toInt + (X 14 1).toInt) → wl_Mo_measure_42 T post 1 f ((X 11 0) + (X 11 1)) i30 a (nI e) 2 := by
    intro f i30 hf h30
    have e28 : (X 11 0) + (X 11 1) = Int32.ofInt ((X 11 0).toInt + (X 11 1).toInt) := by rw [Int32.ofInt_add, Int32.ofInt_toInt, Int32.ofInt_toInt]
    have w115 : bhI X a = 0 → wl_Mo_measure_115 T post f ((X 11 0) + (X 11 1)) i30 a (nI e) := by
      intro y
      unfold wl_Mo_measure_115
      refine rng f _ i30 hf ?_ h30
      rw [y, Int.add_zero]
      exact e28
    unfold wl_Mo_measure_42
    refine ⟨fun _ => s_Mhyp (T := sI (sI (sA T 21 f) 28 ((X 11 0) + (X 11 1))) 30 i30) (X := X) h1 (by omega) ha (fun j hj ej y => ⟨fun w => absurd w (by decide), fun _ => ⟨?_, fun w => w115 ?_, fun w => ⟨?_, rng f _ i30 hf ?_ h30⟩⟩⟩) (fun y => ⟨fun _ => w115 ?_, fun w => absurd rfl w⟩), fun q => absurd (by decide) q⟩
    · rw [ej]; exact vp_in_nI (by omega) (by omega)
    · rw [h7, ej, nI_clamp (by omega)] at w
      unfold bhI bhdX hyw
      rw [ej, nI_clamp (by omega), if_pos y, if_pos w]
      split <;> rfl
    · rw [ej]; exact vp_in_nI (by omega) (by omega)
    · rw [h7, ej, nI_clamp (by omega)] at w
      rw [h7, ej, nI_clamp (by omega), Int32.ofInt_add, ← e28]
      congr 1
      unfold bhI bhdX hyw
      have nl : ¬ nI j < 0 := by rw [i_lt, nI_toInt (by omega)]; show ¬ (j : Int) < 0; omega
      rw [if_neg nl, nI_clamp (by omega), if_pos y, if_neg w, Int32.ofInt_toInt]
    · unfold bhI bhdX
      rcases y with y | ⟨j, hj, ej, y⟩
      · rw [if_pos y]
      · rw [ej, nI_clamp (by omega), if_neg y]
        split <;> rfl
  -- the two sides
  have h11 := hA.1 11 (by omega) (by omega)
  have h12 := hA.1 12 (by omega) (by omega)
  have h13 := hA.1 13 (by omega) (by omega)
  have h14 := hA.1 14 (by omega) (by omega)
  have i0 : vp_in 0 3 := by unfold vp_in; decide
  have i1 : vp_in 1 3 := by unfold vp_in; decide
  unfold wl_Mo_measure_42
  refine ⟨fun q => absurd q (by decide), fun _ => ⟨i0, i0, i0, i0, ?_⟩⟩
  rw [h11, h12, h13, h14, show (0 : Int32).toNatClampNeg = 0 from rfl]
  refine s_addGlue (T := sI (sI (sA T 21 a21) 28 0) 30 0) g0.2.2.1 g0.2.2.2.1 (fun f2 hf2 v5 e5 => ?_)
  rw [show v5 = 1 from e5]
  unfold wl_Mo_measure_42
  refine ⟨fun q => absurd q (by decide), fun _ => ⟨i1, i1, i1, i1, ?_⟩⟩
  rw [h11, h12, h13, h14, show (1 : Int32).toNatClampNeg = 1 from rfl]
  refine s_addGlue (T := sI (sI (sA T 21 f2) 28 _) 30 _) g1.2.2.1 g1.2.2.2.1 (fun f3 hf3 v6 e6 => ?_)
  rw [show v6 = 2 from e6]
  have z1 : (0 : Int32) + X 11 0 + X 11 1 = X 11 0 + X 11 1 := by rw [Int32.zero_add]
  have z2 : (0 : Int32) + X 14 0 + X 14 1 = Int32.ofInt ((X 14 0).toInt + (X 14 1).toInt) := by rw [Int32.zero_add, Int32.ofInt_add, Int32.ofInt_toInt, Int32.ofInt_toInt]
  show wl_Mo_measure_42 T post 1 f3 ((0 : Int32) + X 11 0 + X 11 1) ((0 : Int32) + X 14 0 + X 14 1) a (nI e) 2
  rw [z1]
  refine end2 f3 _ (fun j hj => ?_) z2
  have t2 : f2 j = a21 j + Int32.ofInt (aoX X 0 j) := hf2 j hj
  have t3 : f3 j = f2 j + Int32.ofInt (aoX X 1 j) := hf3 j hj
  rw [t3, t2, h21 j hj, Int32.ofInt_add, Int32.ofInt_add]
