/-! sumsAreSizes beside fitsInSizes -/
/-- what an item's width, or what stands at a hyphen, counts -/
def wo (x : Int32) : Int := if x = -1073741824 then 0 else if 0 ≤ x.toInt then x.toInt else - x.toInt
def itW (T : ST) (k : Nat) : Int := (if T.1 1 k = 4 then 0 else wo (T.1 2 k)) + (if T.1 1 k = 5 then wo (T.1 7 k) else 0)
def psum (f : Nat → Int) : Nat → Int
  | 0 => 0
  | k + 1 => psum f k + f k
def fitOK (T : ST) (c : Nat) : Prop :=
  psum (itW T) c + (wo (T.1 11 0) + wo (T.1 11 1) + wo (T.1 11 2)) ≤ 1073741823 ∧
  psum (fun k => (T.1 3 k).toInt) c + ((T.1 12 0).toInt + (T.1 12 1).toInt + (T.1 12 2).toInt) + (T.1 9 8).toInt ≤ 1073741823 ∧
  psum (fun k => (T.1 5 k).toInt) c + ((T.1 14 0).toInt + (T.1 14 1).toInt + (T.1 14 2).toInt) ≤ 1073741823
theorem psum_bd {f : Nat → Int} {B : Int} {c : Nat} (h : ∀ k, k < c → 0 ≤ f k ∧ f k ≤ B) : ∀ k, k ≤ c → 0 ≤ psum f k ∧ psum f k ≤ B * k := by
  intro k
  induction k with
  | zero => intro _; exact ⟨by show (0 : Int) ≤ 0; omega, by show (0 : Int) ≤ B * 0; omega⟩
  | succ k ih =>
    intro hk
    have h1 := ih (by omega)
    have h2 := h k (by omega)
    show 0 ≤ psum f k + f k ∧ psum f k + f k ≤ B * ((k + 1 : Nat) : Int)
    have : B * ((k + 1 : Nat) : Int) = B * k + B := by rw [Int.natCast_add, Int.mul_add]; omega
    omega
theorem wo_bd {x : Int32} (h : mk x) : 0 ≤ wo x ∧ wo x ≤ 1073741823 := by
  unfold wo
  rcases h with h | h
  · rw [if_pos h]; omega
  · unfold sz at h
    by_cases e : x = -1073741824
    · rw [if_pos e]; omega
    · rw [if_neg e]
      by_cases z : 0 ≤ x.toInt
      · rw [if_pos z]; omega
      · rw [if_neg z]; omega
theorem sz_nn {x : Int32} (h : sz x) : x ≠ -1073741824 := by
  intro e
  subst e
  exact absurd h.1 (by decide)
/-- the class's Math.abs of a size -/
theorem abs_sz {x v : Int32} (h : sz x) (e : v = if (0 : Int32) ≤ x then x else 0 - x) : v.toInt = wo x := by
  unfold wo
  rw [if_neg (sz_nn h)]
  unfold sz at h
  have l0 : (0 : Int32).toInt = 0 := rfl
  by_cases z : (0 : Int32) ≤ x
  · rw [if_pos z] at e
    rw [i_le, l0] at z
    rw [if_pos z, e]
  · rw [if_neg z] at e
    rw [i_le, l0] at z
    rw [if_neg z, e, i_sub (by rw [l0]; omega) (by rw [l0]; omega), l0]
    omega
theorem abs_hy {S : ST} {x : Int32} {post : Int64 → Prop} {y : Int64} (h : mk x) (hp : ∀ v : Int32, v.toInt = wo x → post (y + v.toInt64)) : wp_Lb_widthOf S x (fun r => ∀ v4 : Int32, v4 = (if (0 : Int32) ≤ r then r else 0 - r) → ∀ v5 : Int64, v5 = y + v4.toInt64 → post v5) := by
  unfold wp_Lb_widthOf
  refine ⟨fun z v4 e4 v5 e5 => ?_, fun z v4 e4 v5 e5 => ?_⟩
  · rw [e5]
    exact hp _ (abs_sz (h.resolve_left z) e4)
  · rw [e5]
    refine hp _ ?_
    unfold wo
    rw [if_pos z, e4]
    rfl
theorem itm_wid {S T : ST} {k : Nat} (h : itm S T k) : sz (S.1 3 k) ∧ mk (S.1 8 k) ∧ mk (S.1 9 k) ∧ wo (S.1 3 k) + wo (S.1 8 k) + wo (S.1 9 k) = itW T k ∧ 0 ≤ itW T k ∧ itW T k ≤ 3221225469 ∧ S.1 4 k = T.1 3 k ∧ po (T.1 3 k) ∧ S.1 6 k = T.1 5 k ∧ po (T.1 5 k) := by
  have n0 : wo (-1073741824) = 0 := by decide
  have z0 : wo 0 = 0 := by decide
  have s0 : sz 0 := by unfold sz; decide
  have p0 : po 0 := by unfold po; decide
  unfold itm at h
  obtain ⟨e1, e2, h⟩ := h
  unfold itW
  rcases h with ⟨a, b, c1, d, e, f, g, p, q, r, s, t, u⟩ | ⟨a, b, c1, d, e, f, g, g2, p, q, r, s, t, u⟩ | ⟨a, b, c1, d, e, f, g, p, q, r, r2, s, t, u⟩ | ⟨a, b, c1, d, e, f, g, p, q, r, s, t, u, v, w, x⟩
  · have n4 : ¬ T.1 1 k = 4 := by rw [← e1]; intro z; rw [z] at a; exact absurd a (by decide)
    have n5 : ¬ T.1 1 k = 5 := by rw [← e1]; intro z; rw [z] at a; exact absurd a (by decide)
    rw [if_neg n4, if_neg n5, s, t, n0, ← b, d, e, p, q]
    have := wo_bd (Or.inr c1)
    exact ⟨c1, Or.inl rfl, Or.inl rfl, by omega, by omega, by omega, rfl, p0, rfl, p0⟩
  · have n4 : ¬ T.1 1 k = 4 := by rw [← e1]; intro z; rw [z] at a; exact absurd a (by decide)
    have n5 : ¬ T.1 1 k = 5 := by rw [← e1]; intro z; rw [z] at a; exact absurd a (by decide)
    rw [if_neg n4, if_neg n5, s, t, n0, ← b, ← d, ← p]
    have := wo_bd (Or.inr c1)
    exact ⟨c1, Or.inl rfl, Or.inl rfl, by omega, by omega, by omega, rfl, e, rfl, q⟩
  · have n4 : T.1 1 k = 4 := by rw [← e1]; exact a
    have n5 : ¬ T.1 1 k = 5 := by rw [n4]; decide
    rw [if_pos n4, if_neg n5, s, t, n0, b, z0, c1, d, g, p]
    exact ⟨s0, Or.inl rfl, Or.inl rfl, by omega, by omega, by omega, rfl, p0, rfl, p0⟩
  · have n5 : T.1 1 k = 5 := by rw [← e1]; exact a
    have n4 : ¬ T.1 1 k = 4 := by rw [n5]; decide
    rw [if_neg n4, if_pos n5, b, z0, c1, d, g, p, s, ← r, u]
    have h1 := wo_bd t
    rw [u] at v
    have h2 := wo_bd v
    exact ⟨s0, t, v, by omega, by omega, by omega, rfl, p0, rfl, p0⟩
theorem s_allW_l {S T : ST} {c : Nat} {post : Int64 → Prop} (hc : c ≤ 400) (hS : S.2.2 73 = nI c) (h1 : ∀ k, k < c → itm S T k) (hp : ∀ r : Int64, r.toInt = psum (itW T) c → post r) :
    ∀ (n k : Nat) (x : Int64), k ≤ c → c < k + n → x.toInt = psum (itW T) k → wl_Pa_allWidths_4 S post n x (nI k) := by
  have hb := psum_bd (c := c) (f := itW T) (B := 3221225469) (fun k hk => ⟨(itm_wid (h1 k hk)).2.2.2.2.1, (itm_wid (h1 k hk)).2.2.2.2.2.1⟩)
  intro n
  induction n with
  | zero => intro k x _ h; omega
  | succ n ih =>
    intro k x hk hn hx
    unfold wl_Pa_allWidths_4
    rw [hS]
    refine ⟨fun q => hp x ?_, fun q => ?_⟩
    · have := (nI_leI (by omega) (by omega)).mp q
      rw [hx, show k = c by omega]
    · have hkc : k < c := by
        rcases Nat.lt_or_ge k c with z | z
        · exact z
        · exact absurd ((nI_leI (by omega) (by omega)).mpr z) q
      have hin : vp_in (nI k) 400 := vp_in_nI (by omega) (by omega)
      rw [nI_clamp (by omega)]
      obtain ⟨b1, b2, b3, b4, b5, b6, -⟩ := itm_wid (h1 k hkc)
      have bk := hb k (by omega)
      have w1 := wo_bd (Or.inr b1)
      have w2 := wo_bd b2
      have w3 := wo_bd b3
      refine ⟨hin, fun v1 e1 v2 e2 => ⟨hin, abs_hy b2 fun v4 e4 => ⟨hin, abs_hy b3 fun v7 e7 v9 e9 => ?_⟩⟩⟩
      rw [e9, nI_1]
      have t1 := abs_sz b1 e1
      have u2 : v2.toInt = psum (itW T) k + wo (S.1 3 k) := by
        rw [e2, j_add (by rw [hx, j_of, t1]; omega) (by rw [hx, j_of, t1]; omega), hx, j_of, t1]
      have u5 : (v2 + v4.toInt64).toInt = psum (itW T) k + wo (S.1 3 k) + wo (S.1 8 k) := by
        rw [j_add (by rw [u2, j_of, e4]; omega) (by rw [u2, j_of, e4]; omega), u2, j_of, e4]
      refine ih (k + 1) _ (by omega) (by omega) ?_
      rw [j_add (by rw [u5, j_of, e7]; omega) (by rw [u5, j_of, e7]; omega), u5, j_of, e7]
      show _ = psum (itW T) k + itW T k
      omega
theorem s_allSt_l {S T : ST} {c : Nat} {post : Int64 → Prop} (hc : c ≤ 400) (hS : S.2.2 73 = nI c) (h1 : ∀ k, k < c → itm S T k) (hp : ∀ r : Int64, r.toInt = psum (fun k => (T.1 3 k).toInt) c → post r) :
    ∀ (n k : Nat) (x : Int64), k ≤ c → c < k + n → x.toInt = psum (fun k => (T.1 3 k).toInt) k → wl_Pa_allStretch_4 S post n x (nI k) := by
  have hb := psum_bd (c := c) (f := fun k => (T.1 3 k).toInt) (B := 1073741823) (fun k hk => (itm_wid (h1 k hk)).2.2.2.2.2.2.2.1)
  intro n
  induction n with
  | zero => intro k x _ h; omega
  | succ n ih =>
    intro k x hk hn hx
    unfold wl_Pa_allStretch_4
    rw [hS]
    refine ⟨fun q => hp x ?_, fun q => ?_⟩
    · have := (nI_leI (by omega) (by omega)).mp q
      rw [hx, show k = c by omega]
    · have hkc : k < c := by
        rcases Nat.lt_or_ge k c with z | z
        · exact z
        · exact absurd ((nI_leI (by omega) (by omega)).mpr z) q
      have hin : vp_in (nI k) 400 := vp_in_nI (by omega) (by omega)
      rw [nI_clamp (by omega)]
      obtain ⟨-, -, -, -, -, -, b7, b8, -⟩ := itm_wid (h1 k hkc)
      have bk := hb k (by omega)
      unfold po at b8
      refine ⟨hin, fun v1 e1 v2 e2 => ?_⟩
      rw [e2, nI_1]
      refine ih (k + 1) _ (by omega) (by omega) ?_
      rw [e1, b7, j_add (by rw [hx, j_of]; omega) (by rw [hx, j_of]; omega), hx, j_of]
      rfl
theorem s_allSh_l {S T : ST} {c : Nat} {post : Int64 → Prop} (hc : c ≤ 400) (hS : S.2.2 73 = nI c) (h1 : ∀ k, k < c → itm S T k) (hp : ∀ r : Int64, r.toInt = psum (fun k => (T.1 5 k).toInt) c → post r) :
    ∀ (n k : Nat) (x : Int64), k ≤ c → c < k + n → x.toInt = psum (fun k => (T.1 5 k).toInt) k → wl_Pa_allShrink_4 S post n x (nI k) := by
  have hb := psum_bd (c := c) (f := fun k => (T.1 5 k).toInt) (B := 1073741823) (fun k hk => (itm_wid (h1 k hk)).2.2.2.2.2.2.2.2.2)
  intro n
  induction n with
  | zero => intro k x _ h; omega
  | succ n ih =>
    intro k x hk hn hx
    unfold wl_Pa_allShrink_4
    rw [hS]
    refine ⟨fun q => hp x ?_, fun q => ?_⟩
    · have := (nI_leI (by omega) (by omega)).mp q
      rw [hx, show k = c by omega]
    · have hkc : k < c := by
        rcases Nat.lt_or_ge k c with z | z
        · exact z
        · exact absurd ((nI_leI (by omega) (by omega)).mpr z) q
      have hin : vp_in (nI k) 400 := vp_in_nI (by omega) (by omega)
      rw [nI_clamp (by omega)]
      obtain ⟨-, -, -, -, -, -, -, -, b7, b8⟩ := itm_wid (h1 k hkc)
      have bk := hb k (by omega)
      unfold po at b8
      refine ⟨hin, fun v1 e1 v2 e2 => ?_⟩
      rw [e2, nI_1]
      refine ih (k + 1) _ (by omega) (by omega) ?_
      rw [e1, b7, j_add (by rw [hx, j_of]; omega) (by rw [hx, j_of]; omega), hx, j_of]
      rfl
theorem in810 : vp_in 8 10 := by unfold vp_in; decide
theorem in010 : vp_in 0 10 := by unfold vp_in; decide
theorem s_sums {S T : ST} {c : Nat} {post : Int32 → Prop} (hc : c ≤ 400) (hS : S.2.2 73 = nI c) (h1 : ∀ k, k < c → itm S T k) (h3 : arnd S T) (h4 : sets S T) (ha : fitOK T c → post 1) (hb : ¬ fitOK T c → post 0) : wp_Lb_sumsAreSizes S post := by
  have bW := psum_bd (c := c) (f := itW T) (B := 3221225469) (fun k hk => ⟨(itm_wid (h1 k hk)).2.2.2.2.1, (itm_wid (h1 k hk)).2.2.2.2.2.1⟩) c (by omega)
  have bS := psum_bd (c := c) (f := fun k => (T.1 3 k).toInt) (B := 1073741823) (fun k hk => (itm_wid (h1 k hk)).2.2.2.2.2.2.2.1) c (by omega)
  have bH := psum_bd (c := c) (f := fun k => (T.1 5 k).toInt) (B := 1073741823) (fun k hk => (itm_wid (h1 k hk)).2.2.2.2.2.2.2.2.2) c (by omega)
  obtain ⟨⟨a1, a2, a3, a4, g1⟩, ⟨b1, b2, b3, b4, g2⟩, ⟨c1, c2, c3, c4, g3⟩⟩ := h3
  unfold gl4 po at g1 g2 g3
  have w1 := wo_bd (Or.inr g1.1)
  have w2 := wo_bd (Or.inr g2.1)
  have w3 := wo_bd (Or.inr g3.1)
  have h8 := h4.1 8 (by omega)
  have m8 : (tb_most 8).toInt = 1073741823 := rfl
  have l8 : (tb_least 8).toInt = 0 := rfl
  rw [m8, l8] at h8
  unfold fitOK at ha hb
  unfold wp_Lb_sumsAreSizes wp_Pa_allStretch wp_St_stretchAround wp_Pa_allWidths wp_St_widthsAround wp_Pa_allShrink wp_St_shrinkAround
  rw [a1, a2, a4, b1, b2, b4, c1, c2, c4]
  refine ⟨c + 1, s_allSt_l hc hS h1 (fun r1 e1 => ⟨in810, fun v3 e3 => ⟨c + 1, s_allW_l hc hS h1 (fun r4 e4 v1 q1 v2 q2 v4 q4 => ?_) (c + 1) 0 0 (by omega) (by omega) rfl⟩⟩) (c + 1) 0 0 (by omega) (by omega) rfl⟩
  have t1 := abs_sz g1.1 q1
  have t2 := abs_sz g2.1 q2
  have t3 := abs_sz g3.1 q4
  have u1 : (v1.toInt64 + v2.toInt64).toInt = wo (T.1 11 0) + wo (T.1 11 1) := by
    rw [j_add (by rw [j_of, j_of]; omega) (by rw [j_of, j_of]; omega), j_of, j_of, t1, t2]
  have u2 : (v1.toInt64 + v2.toInt64 + v4.toInt64).toInt = wo (T.1 11 0) + wo (T.1 11 1) + wo (T.1 11 2) := by
    rw [j_add (by rw [u1, j_of]; omega) (by rw [u1, j_of]; omega), u1, j_of, t3]
  have u3 : (r4 + (v1.toInt64 + v2.toInt64 + v4.toInt64)).toInt = psum (itW T) c + (wo (T.1 11 0) + wo (T.1 11 1) + wo (T.1 11 2)) := by
    rw [j_add (by rw [u2, e4]; omega) (by rw [u2, e4]; omega), u2, e4]
  have x1 : ((T.1 12 0).toInt64 + (T.1 12 1).toInt64).toInt = (T.1 12 0).toInt + (T.1 12 1).toInt := by
    rw [j_add (by rw [j_of, j_of]; omega) (by rw [j_of, j_of]; omega), j_of, j_of]
  have x2 : ((T.1 12 0).toInt64 + (T.1 12 1).toInt64 + (T.1 12 2).toInt64).toInt = (T.1 12 0).toInt + (T.1 12 1).toInt + (T.1 12 2).toInt := by
    rw [j_add (by rw [x1, j_of]; omega) (by rw [x1, j_of]; omega), x1, j_of]
  have x3 : (r1 + ((T.1 12 0).toInt64 + (T.1 12 1).toInt64 + (T.1 12 2).toInt64)).toInt = psum (fun k => (T.1 3 k).toInt) c + ((T.1 12 0).toInt + (T.1 12 1).toInt + (T.1 12 2).toInt) := by
    rw [j_add (by rw [x2, e1]; omega) (by rw [x2, e1]; omega), x2, e1]
  have x4 : v3.toInt = psum (fun k => (T.1 3 k).toInt) c + ((T.1 12 0).toInt + (T.1 12 1).toInt + (T.1 12 2).toInt) + (T.1 9 8).toInt := by
    rw [e3, show (8 : Int32).toNatClampNeg = 8 from rfl, h8.1, j_add (by rw [x3, j_of]; omega) (by rw [x3, j_of]; omega), x3, j_of]
  simp only [lc_gt, u3, x4, show (1073741823 : Int64).toInt = 1073741823 from rfl]
  refine ⟨fun q => hb fun z => by omega, fun q => ⟨fun q2 => hb fun z => by omega, fun q2 => ⟨c + 1, s_allSh_l hc hS h1 (fun r6 e6 => ?_) (c + 1) 0 0 (by omega) (by omega) rfl⟩⟩⟩
  have y1 : ((T.1 14 0).toInt64 + (T.1 14 1).toInt64).toInt = (T.1 14 0).toInt + (T.1 14 1).toInt := by
    rw [j_add (by rw [j_of, j_of]; omega) (by rw [j_of, j_of]; omega), j_of, j_of]
  have y2 : ((T.1 14 0).toInt64 + (T.1 14 1).toInt64 + (T.1 14 2).toInt64).toInt = (T.1 14 0).toInt + (T.1 14 1).toInt + (T.1 14 2).toInt := by
    rw [j_add (by rw [y1, j_of]; omega) (by rw [y1, j_of]; omega), y1, j_of]
  have y3 : (r6 + ((T.1 14 0).toInt64 + (T.1 14 1).toInt64 + (T.1 14 2).toInt64)).toInt = psum (fun k => (T.1 5 k).toInt) c + ((T.1 14 0).toInt + (T.1 14 1).toInt + (T.1 14 2).toInt) := by
    rw [j_add (by rw [y2, e6]; omega) (by rw [y2, e6]; omega), y2, e6]
  simp only [lc_gt, y3, show (1073741823 : Int64).toInt = 1073741823 from rfl]
  exact ⟨fun q3 => hb fun z => by omega, fun q3 => ha ⟨by omega, by omega, by omega⟩⟩
