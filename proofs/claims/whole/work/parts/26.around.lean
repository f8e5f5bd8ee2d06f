/-! sizes; wide and around -/
theorem s_isSize {S : ST} {p : Int32} {post : Int32 → Prop} (h1 : sz p → post 1) (h2 : ¬ sz p → post 0) : wp_Lb_isSize S p post := by
  unfold wp_Lb_isSize
  refine ⟨fun q => h2 fun z => ?_, fun q => ⟨fun q2 => h2 fun z => ?_, fun q2 => h1 ?_⟩⟩ <;> unfold sz at *
  · rw [i_lt] at q
    have q : p.toInt < -1073741823 := q
    omega
  · rw [i_lt] at q2
    have q2 : 1073741823 < p.toInt := q2
    omega
  · rw [i_lt] at q q2
    have q : ¬ p.toInt < -1073741823 := q
    have q2 : ¬ 1073741823 < p.toInt := q2
    omega
theorem s_reqSize {S : ST} {p : Int32} {A : Prop} {px : String → Prop} (h1 : sz p → A) (h2 : ¬ sz p → px "java/lang/IllegalArgumentException") : wp_Lb_requireSize S p A px := by
  unfold wp_Lb_requireSize
  exact s_isSize (fun z => ⟨fun _ => h1 z, fun y => absurd y (by decide)⟩) (fun z => ⟨fun y => absurd rfl y, fun _ => h2 z⟩)
theorem s_MisSizeJ {S : ST} {p : Int64} {post : Int32 → Prop} (h1 : -1073741823 ≤ p.toInt → p.toInt ≤ 1073741823 → post 1) (h2 : ¬ (-1073741823 ≤ p.toInt ∧ p.toInt ≤ 1073741823) → post 0) : wp_Mo_isSize S p post := by
  unfold wp_Mo_isSize
  rw [lc_lt, lc_gt, show (-1073741823 : Int64).toInt = -1073741823 from rfl, show (1073741823 : Int64).toInt = 1073741823 from rfl]
  exact ⟨fun q => h2 fun z => by omega, fun q => ⟨fun q2 => h2 fun z => by omega, fun q2 => h1 (by omega) (by omega)⟩⟩
theorem s_MisSize {S : ST} {p : Int32} {post : Int32 → Prop} (h1 : sz p → post 1) (h2 : ¬ sz p → post 0) : wp_Mo_isSize S p.toInt64 post := by
  refine s_MisSizeJ ?_ ?_ <;> rw [j_of]
  · exact fun a b => h1 ⟨a, b⟩
  · exact h2
theorem s_isMore {S : ST} {p : Int32} {post : Int32 → Prop} (h1 : po p → post 1) (h2 : ¬ po p → post 0) : wp_Mo_isMore S p post := by
  unfold wp_Mo_isMore
  refine ⟨fun q => h2 fun z => ?_, fun q => ⟨fun q2 => h2 fun z => ?_, fun q2 => h1 ?_⟩⟩ <;> unfold po at *
  · rw [i_lt] at q
    have q : p.toInt < 0 := q
    omega
  · rw [i_lt] at q2
    have q2 : 1073741823 < p.toInt := q2
    omega
  · rw [i_lt] at q q2
    have q : ¬ p.toInt < 0 := q
    have q2 : ¬ 1073741823 < p.toInt := q2
    omega
theorem s_reqGlue {S : ST} {a b c d : Int32} {A : Prop} {px : String → Prop} (h1 : gl4 a b c d → A) (h2 : ¬ gl4 a b c d → px "java/lang/IllegalArgumentException") : wp_Lb_requireGlue S a b c d A px := by
  unfold wp_Lb_requireGlue wl_Lb_requireGlue_20 wl_Lb_requireGlue_39
  unfold gl4 at h1 h2
  refine s_reqSize (fun z1 => s_reqSize (fun z2 => s_reqSize (fun z3 => ⟨fun q => h2 fun z => ?_, fun q => ⟨fun q2 => ⟨fun q3 => h2 fun z => ?_, fun q3 => ⟨fun q4 => h1 ?_, fun q4 => h2 fun z => ?_⟩⟩, fun q2 => h2 fun z => ?_⟩⟩) (fun z => h2 fun y => z ?_)) (fun z => h2 fun y => z ?_)) (fun z => h2 fun y => z y.1)
  · rw [i_lt] at q
    have q : b.toInt < 0 := q
    have := z.2.1.1
    omega
  · rw [i_lt] at q3
    have q : c.toInt < 0 := q3
    have := z.2.2.1
    omega
  · rw [i_lt] at q q3
    rw [i_le] at q2 q4
    have q : ¬ b.toInt < 0 := q
    have q3 : ¬ c.toInt < 0 := q3
    have q4 : c.toInt ≤ 3 := q4
    have q2 : 0 ≤ d.toInt := q2
    unfold sz at z1 z2 z3
    unfold po
    exact ⟨z1, by omega, by omega, q4, by omega⟩
  · rw [i_le] at q4
    have q4 : ¬ c.toInt ≤ 3 := q4
    have := z.2.2.2.1
    omega
  · rw [i_le] at q2
    have q2 : ¬ 0 ≤ d.toInt := q2
    have := z.2.2.2.2.1
    omega
  · have := y.2.2.2.2
    unfold po at this
    unfold sz
    omega
  · have := y.2.1
    unfold po at this
    unfold sz
    omega
theorem s_isGlue {S : ST} {a b c d : Int32} {post : Int32 → Prop} (h1 : gl4 a b c d → post 1) (h2 : ¬ gl4 a b c d → post 0) : wp_Mo_isGlue S a b c d post := by
  unfold wp_Mo_isGlue
  unfold gl4 at h1 h2
  refine s_MisSize (fun z1 => ⟨fun z => absurd z (by decide), fun _ => s_isMore (fun z2 => ⟨fun z => absurd z (by decide), fun _ => s_isMore (fun z3 => ⟨fun z => absurd z (by decide), fun _ => ⟨fun q => h2 fun z => ?_, fun q => ⟨fun q2 => h2 fun z => ?_, fun q2 => h1 ?_⟩⟩⟩) (fun z => ⟨fun _ => h2 fun y => z y.2.2.2.2, fun z => absurd rfl z⟩)⟩) (fun z => ⟨fun _ => h2 fun y => z y.2.1, fun z => absurd rfl z⟩)⟩) (fun z => ⟨fun _ => h2 fun y => z y.1, fun z => absurd rfl z⟩)
  · rw [i_lt] at q
    have q : c.toInt < 0 := q
    have := z.2.2.1
    omega
  · rw [i_lt] at q2
    have q : 3 < c.toInt := q2
    have := z.2.2.2.1
    omega
  · rw [i_lt] at q q2
    have q : ¬ c.toInt < 0 := q
    have q2 : ¬ 3 < c.toInt := q2
    exact ⟨z1, z2, by omega, by omega, z3⟩
/-- all widths from j on -/
def wfill (f : Nat → Int32) (j : Nat) (w : Int32) : Nat → Int32 := fun k => if j ≤ k ∧ k < 20 then w else f k
theorem wfill_s {f : Nat → Int32} {j : Nat} {w : Int32} (h : j < 20) : wfill (upd f j w) (j + 1) w = wfill f j w := by
  funext k
  unfold wfill upd
  by_cases h1 : k = j
  · subst h1
    simp [h]
  · by_cases h2 : j ≤ k ∧ k < 20
    · rw [if_pos h2, if_pos (by omega)]
    · rw [if_neg h2, if_neg (by omega), if_neg h1]
theorem wfill_e {f : Nat → Int32} {w : Int32} : wfill f 20 w = f := by
  funext k
  unfold wfill
  rw [if_neg (by omega)]
theorem s_wideC {S : ST} {post : (Nat → Int32) → Prop} {px : String → Prop} {w : Int32} : ∀ (n j : Nat) (f : Nat → Int32), j ≤ 20 → 20 < j + n → post (wfill f j w) → wl_Lb_wide_26 S post px n f w (nI j) := by
  intro n
  induction n with
  | zero => intro j f _ h; omega
  | succ n ih =>
    intro j f hj hn h
    unfold wl_Lb_wide_26
    refine ⟨fun q => ?_, fun q => ⟨?_, fun f1 e1 v2 e2 => ?_⟩⟩
    · have := (nI_leI (a := 20) (by omega) (by omega)).mp q
      have : j = 20 := by omega
      subst this
      rw [wfill_e] at h
      exact h
    · have : ¬ 20 ≤ j := fun z => q ((nI_leI (a := 20) (by omega) (by omega)).mpr z)
      exact vp_in_nI (by omega) (by omega)
    · have : ¬ 20 ≤ j := fun z => q ((nI_leI (a := 20) (by omega) (by omega)).mpr z)
      rw [e2, nI_1]
      refine ih (j + 1) f1 (by omega) (by omega) ?_
      rw [e1, nI_clamp (by omega), wfill_s (by omega)]
      exact h
theorem s_wideM {S : ST} {post : (Nat → Int32) → Int32 → Prop} {w : Int32} : ∀ (n j : Nat) (f : Nat → Int32), j ≤ 20 → 20 < j + n → post (wfill f j w) 0 → wl_Mo_wide_29 S post n f 0 w (nI j) := by
  intro n
  induction n with
  | zero => intro j f _ h; omega
  | succ n ih =>
    intro j f hj hn h
    unfold wl_Mo_wide_29
    refine ⟨fun q => ?_, fun q => ⟨fun z => absurd rfl z, fun _ => ⟨?_, fun f1 e1 v2 e2 => ?_⟩⟩⟩
    · have := (nI_leI (a := 20) (by omega) (by omega)).mp q
      have : j = 20 := by omega
      subst this
      rw [wfill_e] at h
      exact h
    · have : ¬ 20 ≤ j := fun z => q ((nI_leI (a := 20) (by omega) (by omega)).mpr z)
      exact vp_in_nI (by omega) (by omega)
    · have : ¬ 20 ≤ j := fun z => q ((nI_leI (a := 20) (by omega) (by omega)).mpr z)
      rw [e2, nI_1]
      refine ih (j + 1) f1 (by omega) (by omega) ?_
      rw [e1, nI_clamp (by omega), wfill_s (by omega)]
      exact h
theorem s_wideM1 {S : ST} {post : (Nat → Int32) → Int32 → Prop} {w p : Int32} {f : Nat → Int32} (h : post f 1) : ∃ k9 : Nat, wl_Mo_wide_29 S post k9 f 1 w p := by
  refine ⟨1, ?_⟩
  unfold wl_Mo_wide_29
  exact ⟨fun _ => h, fun _ => ⟨fun _ => h, fun z => absurd z (by decide)⟩⟩
theorem lt_lit {j : Nat} (n : Nat) (hj : j < 2 ^ 31) (hn : n < 2 ^ 31) : nI j < nI n ↔ j < n := nI_ltI hj hn
theorem ok_570 : stepok wl_law_570 := by
  intro L xs Kh S T i hi hL hR hk
  obtain ⟨c, hc, hS, hT, h1, h2, h3, h4, h5⟩ := id hR
  unfold wl_law_570
  have hin1 : vp_in (nI i + 1) L := xin (d := 1) (by omega) hL
  have hin2 : vp_in (nI i + 2) L := xin (d := 2) (by omega) hL
  generalize xs (nI i + 1).toNatClampNeg = p
  generalize xs (nI i + 2).toNatClampNeg = w
  refine ⟨hin1, hin2, ?_⟩
  have same : ∀ v : Int32, v = nI i + 6 → Kh (sA S 13 (S.1 13)) (sI (sA T 10 (T.1 10)) 0 1) v := by
    intro v e
    rw [e, n6]
    exact hk _ _ ⟨c, hc, hS, hT, h1, h2, h3, h4, h5⟩
  unfold wp_La_wide wp_Lb_wide wl_Lb_wide_10 wp_Mo_wide wp_Mo_thrown
  refine ⟨fun q => ⟨rfl, hin1, hin2, fun _ => s_wideM1 ⟨fun _ => same, fun z => absurd rfl z⟩, fun z => absurd q z⟩, fun q => ?_⟩
  obtain ⟨j, hj, rfl⟩ := nI_of q
  refine ⟨fun q2 => ?_, fun q2 => ⟨rfl, hin1, hin2, fun z => absurd z q, fun _ => ⟨fun _ => s_wideM1 ⟨fun _ => same, fun z => absurd rfl z⟩, fun z => absurd ((nI_ltI (a := 19) (by omega) hj).mpr ?_) z⟩⟩⟩
  · have hj2 : j < 20 := (nI_ltI (b := 20) hj (by omega)).mp q2
    have n19 : ¬ 19 < nI j := fun z => by have := (nI_ltI (a := 19) (by omega) hj).mp z; omega
    refine s_reqSize (fun z => ⟨21, s_wideC 21 j _ (by omega) (by omega) ⟨hin1, hin2, fun z => absurd z q, fun _ => ⟨fun z => absurd z n19, fun _ => s_MisSize (fun _ => ⟨fun _ => ⟨21, s_wideM 21 j _ (by omega) (by omega) ⟨fun _ v e => ?_, fun z => absurd rfl z⟩⟩, fun z => absurd z (by decide)⟩) (fun y => absurd z y)⟩⟩⟩) (fun z => ⟨rfl, hin1, hin2, fun z => absurd z q, fun _ => ⟨fun z => absurd z n19, fun _ => s_MisSize (fun y => absurd y z) (fun _ => ⟨fun z => absurd rfl z, fun _ => s_wideM1 ⟨fun _ => same, fun z => absurd rfl z⟩⟩)⟩⟩)
    rw [e, n6]
    refine hk _ _ ⟨c, hc, hS, hT, h1, h2, h3, ⟨h4.1, fun k hk => ?_⟩, h5⟩
    show wfill (S.1 13) j w k = wfill (T.1 10) j w k ∧ sz (wfill (T.1 10) j w k)
    unfold wfill
    by_cases hx : j ≤ k ∧ k < 20
    · rw [if_pos hx, if_pos hx]
      exact ⟨rfl, z⟩
    · rw [if_neg hx, if_neg hx]
      exact h4.2 k hk
  · have : ¬ j < 20 := fun z => q2 ((nI_ltI (b := 20) hj (by omega)).mpr z)
    omega
theorem s_around27 {T : ST} {j : Nat} {a b c d : Int32} {post : (Nat → Int32) → (Nat → Int32) → (Nat → Int32) → (Nat → Int32) → Int32 → Prop} (hj : j < 3) (h : post (upd (T.1 11) j a) (upd (T.1 12) j b) (upd (T.1 13) j c) (upd (T.1 14) j d) 0) : wl_Mo_around_27 T post (nI j) a b c d 0 := by
  have hp : vp_in (nI j) 3 := vp_in_nI hj (by omega)
  unfold wl_Mo_around_27
  rw [nI_clamp (by omega)]
  refine ⟨fun z => absurd rfl z, fun _ => ⟨hp, fun f1 e1 => ⟨hp, fun f2 e2 => ⟨hp, fun f3 e3 => ⟨hp, fun f4 e4 => ?_⟩⟩⟩⟩⟩
  rw [e1, e2, e3, e4]
  exact h
theorem s_around22 {T : ST} {x1 a b c d : Int32} {post : (Nat → Int32) → (Nat → Int32) → (Nat → Int32) → (Nat → Int32) → Int32 → Prop} (h : post (T.1 11) (T.1 12) (T.1 13) (T.1 14) 1) : wl_Mo_around_22 T post x1 a b c d := by
  unfold wl_Mo_around_22 wl_Mo_around_27
  exact ⟨fun _ => h, fun z => absurd z (by decide)⟩
theorem beq_ne {a k : Nat} (h : a ≠ k) : Nat.beq a k = false := by
  cases e : Nat.beq a k
  · rfl
  · exact absurd (Nat.eq_of_beq_eq_true e) h
theorem beq_sf (a : Nat) : Nat.beq a a = true := Nat.beq_refl a
theorem sI_1 {S : ST} {k : Nat} {v : Int32} : (sI S k v).1 = S.1 := rfl
theorem sI_21 {S : ST} {k : Nat} {v : Int32} : (sI S k v).2.1 = S.2.1 := rfl
theorem sI_eq {S : ST} {k : Nat} {v : Int32} : (sI S k v).2.2 k = v := by
  show cond (Nat.beq k k) v (S.2.2 k) = v
  rw [beq_sf]; rfl
theorem sI_ne {S : ST} {k a : Nat} {v : Int32} (h : a ≠ k) : (sI S k v).2.2 a = S.2.2 a := by
  show cond (Nat.beq a k) v (S.2.2 a) = S.2.2 a
  rw [beq_ne h]; rfl
theorem sA_21 {S : ST} {k : Nat} {v : Nat → Int32} : (sA S k v).2.1 = S.2.1 := rfl
theorem sA_22 {S : ST} {k : Nat} {v : Nat → Int32} : (sA S k v).2.2 = S.2.2 := rfl
theorem sA_eq {S : ST} {k : Nat} {v : Nat → Int32} : (sA S k v).1 k = v := by
  show cond (Nat.beq k k) v (S.1 k) = v
  rw [beq_sf]; rfl
theorem sA_ne {S : ST} {k a : Nat} {v : Nat → Int32} (h : a ≠ k) : (sA S k v).1 a = S.1 a := by
  show cond (Nat.beq a k) v (S.1 a) = S.1 a
  rw [beq_ne h]; rfl
theorem sL_1 {S : ST} {k : Nat} {v : Nat → Int64} : (sL S k v).1 = S.1 := rfl
theorem sL_22 {S : ST} {k : Nat} {v : Nat → Int64} : (sL S k v).2.2 = S.2.2 := rfl
theorem sL_eq {S : ST} {k : Nat} {v : Nat → Int64} : (sL S k v).2.1 k = v := by
  show cond (Nat.beq k k) v (S.2.1 k) = v
  rw [beq_sf]; rfl
theorem sL_ne {S : ST} {k a : Nat} {v : Nat → Int64} (h : a ≠ k) : (sL S k v).2.1 a = S.2.1 a := by
  show cond (Nat.beq a k) v (S.2.1 a) = S.2.1 a
  rw [beq_ne h]; rfl
theorem sI_self (S : ST) (k : Nat) : sI S k (S.2.2 k) = S := by
  refine Prod.ext rfl (Prod.ext rfl (funext fun a => ?_))
  by_cases h : a = k
  · subst h; exact sI_eq
  · exact sI_ne h
theorem sA_self (S : ST) (k : Nat) : sA S k (S.1 k) = S := by
  refine Prod.ext (funext fun a => ?_) rfl
  by_cases h : a = k
  · subst h; exact sA_eq
  · exact sA_ne h
theorem ok_618 : stepok wl_law_618 := by
  intro L xs Kh S T i hi hL hR hk
  obtain ⟨c, hc, hS, hT, h1, h2, h3, h4, h5⟩ := id hR
  unfold wl_law_618
  have hin1 : vp_in (nI i + 1) L := xin (d := 1) (by omega) hL
  have hin2 : vp_in (nI i + 2) L := xin (d := 2) (by omega) hL
  have hin3 : vp_in (nI i + 3) L := xin (d := 3) (by omega) hL
  have hin4 : vp_in (nI i + 4) L := xin (d := 4) (by omega) hL
  have hin5 : vp_in (nI i + 5) L := xin (d := 5) (by omega) hL
  generalize xs (nI i + 1).toNatClampNeg = p
  generalize xs (nI i + 2).toNatClampNeg = a
  generalize xs (nI i + 3).toNatClampNeg = b
  generalize xs (nI i + 4).toNatClampNeg = o
  generalize xs (nI i + 5).toNatClampNeg = d
  refine ⟨hin1, hin2, hin3, hin4, hin5, ?_⟩
  unfold wp_La_around wp_Lb_around wl_Lb_around_9 wp_Mo_around wp_Mo_thrown wp_Gl_become wp_Gl_become_15 wp_Gl_become_16
  have same : ∀ v : Int32, v = nI i + 6 → Kh (sI (sI (sI (sI (sI (sI (sI (sI (sI (sI (sI (sI S 896 (S.2.2 896)) 897 (S.2.2 897)) 898 (S.2.2 898)) 899 (S.2.2 899)) 960 (S.2.2 960)) 961 (S.2.2 961)) 962 (S.2.2 962)) 963 (S.2.2 963)) 1024 (S.2.2 1024)) 1025 (S.2.2 1025)) 1026 (S.2.2 1026)) 1027 (S.2.2 1027)) (sI (sA (sA (sA (sA T 11 (T.1 11)) 12 (T.1 12)) 13 (T.1 13)) 14 (T.1 14)) 0 1) v := by
    intro v e
    simp only [sI_self, sA_self]
    rw [e, n6]
    exact hk _ _ hR
  refine ⟨fun q => ⟨rfl, hin1, hin2, hin3, hin4, hin5, fun _ => s_around22 ⟨fun _ => same, fun z => absurd rfl z⟩, fun z => absurd q z⟩, fun q => ?_⟩
  obtain ⟨j, hj, rfl⟩ := nI_of q
  refine ⟨fun q2 => ?_, fun q2 => ⟨rfl, hin1, hin2, hin3, hin4, hin5, fun z => absurd z q, fun _ => ⟨fun _ => s_around22 ⟨fun _ => same, fun z => absurd rfl z⟩, fun z => absurd ((nI_ltI (a := 2) (by omega) hj).mpr ?_) z⟩⟩⟩
  · have hj2 : j < 3 := by have := (nI_leI (b := 2) hj (by omega)).mp q2; omega
    have n2 : ¬ 2 < nI j := fun z => by have := (nI_ltI (a := 2) (by omega) hj).mp z; omega
    have ref : ∀ (post : (Nat → Int32) → (Nat → Int32) → (Nat → Int32) → (Nat → Int32) → Int32 → Prop), gl4 a b o d → post (upd (T.1 11) j a) (upd (T.1 12) j b) (upd (T.1 13) j o) (upd (T.1 14) j d) 0 → vp_in (nI i + 1) L ∧ vp_in (nI i + 2) L ∧ vp_in (nI i + 3) L ∧ vp_in (nI i + 4) L ∧ vp_in (nI i + 5) L ∧ (nI j < 0 → wl_Mo_around_22 T post (nI j) a b o d) ∧ (¬ nI j < 0 → (2 < nI j → wl_Mo_around_22 T post (nI j) a b o d) ∧ (¬ 2 < nI j → wp_Mo_isGlue T a b o d (fun r1 => (¬ r1 = 0 → wl_Mo_around_27 T post (nI j) a b o d 0) ∧ (r1 = 0 → wl_Mo_around_22 T post (nI j) a b o d)))) :=
      fun post hg h => ⟨hin1, hin2, hin3, hin4, hin5, fun z => absurd z q, fun _ => ⟨fun z => absurd z n2, fun _ => s_isGlue (fun _ => ⟨fun _ => s_around27 hj2 h, fun z => absurd z (by decide)⟩) (fun z => absurd hg z)⟩⟩
    refine s_reqGlue (fun hg => ?_) (fun hg => ⟨rfl, hin1, hin2, hin3, hin4, hin5, fun z => absurd z q, fun _ => ⟨fun z => absurd z n2, fun _ => s_isGlue (fun z => absurd z hg) (fun _ => ⟨fun z => absurd rfl z, fun _ => s_around22 ⟨fun _ => same, fun z => absurd rfl z⟩⟩)⟩⟩)
    rcases (by omega : j = 0 ∨ j = 1 ∨ j = 2) with rfl | rfl | rfl
    · refine ⟨fun z => absurd rfl z, fun _ => ref _ hg ⟨fun _ v e => ?_, fun z => absurd rfl z⟩⟩
      rw [e, n6]
      refine hk _ _ ?_
      unfold Rel itm rep arnd sets outc
      simp (disch := decide) only [sI_1, sI_21, sI_eq, sI_ne, sA_eq, sA_ne, sA_21, sA_22, pk_us, pk_un]
      exact ⟨c, hc, hS, hT, h1, h2, ⟨⟨trivial, trivial, trivial, trivial, hg⟩, h3.2.1, h3.2.2⟩, h4, h5⟩
    · refine ⟨fun _ => ⟨fun z => absurd rfl z, fun _ => ref _ hg ⟨fun _ v e => ?_, fun z => absurd rfl z⟩⟩, fun z => absurd z (by decide)⟩
      rw [e, n6]
      refine hk _ _ ?_
      unfold Rel itm rep arnd sets outc
      simp (disch := decide) only [sI_1, sI_21, sI_eq, sI_ne, sA_eq, sA_ne, sA_21, sA_22, pk_us, pk_un]
      exact ⟨c, hc, hS, hT, h1, h2, ⟨h3.1, ⟨trivial, trivial, trivial, trivial, hg⟩, h3.2.2⟩, h4, h5⟩
    · refine ⟨fun _ => ⟨fun _ => ref _ hg ⟨fun _ v e => ?_, fun z => absurd rfl z⟩, fun z => absurd z (by decide)⟩, fun z => absurd z (by decide)⟩
      rw [e, n6]
      refine hk _ _ ?_
      unfold Rel itm rep arnd sets outc
      simp (disch := decide) only [sI_1, sI_21, sI_eq, sI_ne, sA_eq, sA_ne, sA_21, sA_22, pk_us, pk_un]
      exact ⟨c, hc, hS, hT, h1, h2, ⟨h3.1, h3.2.1, ⟨trivial, trivial, trivial, trivial, hg⟩⟩, h4, h5⟩
  · have : ¬ j ≤ 2 := fun z => q2 ((nI_leI (b := 2) hj (by omega)).mpr z)
    omega
