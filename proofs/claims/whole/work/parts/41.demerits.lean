/-! nodes by their keys: place, lines, fit; demerits -/
abbrev KEY : Type := Int32 × Int32 × Int32
def wdX (X : Nat → Nat → Int32) (k : KEY) : Int32 := wiX X k.2.1.toNatClampNeg
def bdX (X : Nat → Nat → Int32) (m : Nat) (more : Int32) (k : KEY) (e : Nat) : Int32 := msB X m more k.1 e (wdX X k)
def ftX (X : Nat → Nat → Int32) (m : Nat) (more : Int32) (k : KEY) (e : Nat) : Int32 := msF X m more k.1 e (wdX X k)
def sfX (X : Nat → Nat → Int32) (m : Nat) (more : Int32) (k : KEY) (e : Nat) : Int32 := msS X m more k.1 e (wdX X k)
def dies (X : Nat → Nat → Int32) (m : Nat) (more : Int32) (k : KEY) (e : Nat) : Prop := fineX X e = -10000 ∨ bdX X m more k e = 10001
def hyK (X : Nat → Nat → Int32) (a : Int32) : Prop := ¬ a < 0 ∧ X 1 a.toNatClampNeg = 5
def dm1 (X : Nat → Nat → Int32) (b : Int32) : Int64 := if (X 9 2 + b).toInt64.toInt < 10000 then (X 9 2 + b).toInt64 * (X 9 2 + b).toInt64 else 100000000
def dm2 (p : Int64) (d : Int64) : Int64 := if p.toInt ≤ 0 then (if p.toInt ≤ -10000 then d else d - p * p) else d + p * p
def dm3 (X : Nat → Nat → Int32) (m : Nat) (a : Int32) (e : Nat) (d : Int64) : Int64 := if ¬ a < 0 ∧ X 1 a.toNatClampNeg = 5 then (if X 1 e = 5 then d + (X 9 5).toInt64 else if e = m + 2 then d + (X 9 6).toInt64 else d) else d
def dm4 (X : Nat → Nat → Int32) (f g : Int32) (d : Int64) : Int64 := if f.toInt - g.toInt ≤ 1 ∧ g.toInt - f.toInt ≤ 1 then d else d + (X 9 7).toInt64
def demX (X : Nat → Nat → Int32) (m : Nat) (more : Int32) (k : KEY) (e : Nat) : Int64 :=
  dm4 X k.2.2 (ftX X m more k e) (dm3 X m k.1 e (dm2 (fineX X e).toInt64 (dm1 X (bdX X m more k e))))
/-- a fit -/
def fi4 (x : Int32) : Prop := 0 ≤ x.toInt ∧ x.toInt ≤ 3
theorem msF_fi {X : Nat → Nat → Int32} {m e : Nat} {more a w : Int32} : fi4 (msF X m more a e w) := by
  unfold msF jF fitS fitH fi4
  split <;> split <;> (try split) <;> (try split) <;> decide
theorem s_dem164 {S : ST} {X : Nat → Nat → Int32} {m i : Nat} {d : Int64} {post : Int64 → Prop} (hS : GalS X m S) (hi : i < 8001) (hf : fi4 (S.1 34 i)) (hg : fi4 (S.2.2 1925)) (hp : post (dm4 X (S.1 34 i) (S.2.2 1925) d)) : wl_Se_demerits_164 S post (nI i) d := by
  obtain ⟨-, -, -, -, -, -, -, -, -, -, h12, -⟩ := hS
  unfold wl_Se_demerits_164
  rw [nI_clamp (by omega)]
  unfold fi4 at hf hg
  have es : (S.1 34 i - S.2.2 1925).toInt = (S.1 34 i).toInt - (S.2.2 1925).toInt := i_sub (by omega) (by omega)
  have l0 : (0 : Int32).toInt = 0 := rfl
  have l1 : (1 : Int32).toInt = 1 := rfl
  refine ⟨vp_in_nI hi (by omega), fun v1 e1 => ?_⟩
  have ev : v1.toInt = if 0 ≤ (S.1 34 i).toInt - (S.2.2 1925).toInt then (S.1 34 i).toInt - (S.2.2 1925).toInt else -((S.1 34 i).toInt - (S.2.2 1925).toInt) := by
    rw [e1]
    by_cases z : (0 : Int32) ≤ S.1 34 i - S.2.2 1925
    · rw [if_pos z, es]
      rw [i_le, l0, es] at z
      rw [if_pos z]
    · rw [if_neg z]
      rw [i_le, l0, es] at z
      rw [if_neg z, i_sub (by rw [l0, es]; omega) (by rw [l0, es]; omega), l0, es]
      omega
  rw [i_le, l1, ev]
  unfold dm4 at hp
  refine ⟨fun q => ?_, fun q => ⟨by unfold vp_in; decide, fun v2 e2 => ?_⟩⟩
  · rw [if_pos (by split at q <;> omega)] at hp
    exact hp
  · rw [if_neg (by split at q <;> omega)] at hp
    rw [e2, show (7 : Int32).toNatClampNeg = 7 from rfl, h12 7 (by omega)]
    exact hp
theorem s_gHyp {S : ST} {X : Nat → Nat → Int32} {m e : Nat} {a : Int32} {post : Int32 → Prop} (hG : Gd X m) (hS : GalS X m S) (he : e ≤ m + 3) (ha : befo a e) (h1 : ¬ a < 0 ∧ X 1 a.toNatClampNeg = 5 → post 1) (h0 : ¬ (¬ a < 0 ∧ X 1 a.toNatClampNeg = 5) → post 0) : wp_Ga_isHyphen S a post := by
  obtain ⟨hm, -⟩ := hG
  obtain ⟨-, ⟨g1, -⟩, -⟩ := hS
  unfold wp_Ga_isHyphen
  rcases befo_cases (by omega) ha with ⟨z, z2⟩ | ⟨j, hj, ej, z2, cj⟩
  · exact ⟨fun _ => h0 fun y => y.1 z2, fun y => absurd z y⟩
  · rw [cj, (g1 j (by omega)).1.1]
    rw [cj] at h1 h0
    refine ⟨fun y => ?_, fun _ => ⟨?_, fun y => h0 fun w => y w.2, fun y => h1 ⟨z2, y⟩⟩⟩
    · rw [y] at z2
      exact absurd (by decide) z2
    · rw [ej]; exact vp_in_nI (by omega) (by omega)
theorem fine_bd {X : Nat → Nat → Int32} {m e : Nat} (hG : Gd X m) (he : e < m + 3) : -10000 ≤ (fineX X e).toInt ∧ (fineX X e).toInt ≤ 10000 := by
  obtain ⟨hm, hI, -, -, ⟨hs, -⟩, -⟩ := hG
  have h3 := hs 3 (by omega)
  have h4 := hs 4 (by omega)
  have a3 : (tb_least 3).toInt = -10000 := rfl
  have a4 : (tb_least 4).toInt = -10000 := rfl
  have b3 : (tb_most 3).toInt = 10000 := rfl
  have b4 : (tb_most 4).toInt = 10000 := rfl
  have l0 : (0 : Int32).toInt = 0 := rfl
  unfold fineX
  by_cases z : X 1 e = 4
  · rw [if_pos z]
    have hi := hI e he
    unfold itX at hi
    rw [z] at hi
    rcases hi with hi | hi | hi | hi
    · exact absurd hi.1 (by decide)
    · exact absurd hi.1 (by decide)
    · exact ⟨hi.2.2.2.2.1, hi.2.2.2.2.2⟩
    · exact absurd hi.1 (by decide)
  · rw [if_neg z]
    split
    · split <;> omega
    · omega
theorem s_dem {S : ST} {X : Nat → Nat → Int32} {m i e : Nat} {post : Int64 → Prop} (hG : Gd X m) (hS : GalS X m S) (he : e < m + 3) (hi : i < 8001) (hf : fi4 (S.1 34 i)) (hg : fi4 (S.2.2 1925)) (ha : befo (S.1 32 i) e)
    (hp : post (dm4 X (S.1 34 i) (S.2.2 1925) (dm3 X m (S.1 32 i) e (dm2 (fineX X e).toInt64 (dm1 X (S.2.2 1924)))))) : wp_Se_demerits S (nI i) (nI e) post := by
  have hS' := hS
  have hG' := hG
  obtain ⟨hm, hI, -, -, -, hE⟩ := hG'
  obtain ⟨hl, ⟨g1, -⟩, -, -, -, -, -, -, -, -, h12, -⟩ := hS'
  have pe : vp_in (nI e) 403 := vp_in_nI (by omega) (by omega)
  have pi : vp_in (nI i) 8001 := vp_in_nI hi (by omega)
  have fb := fine_bd hG he
  unfold dm3 at hp
  have c3 : ∀ d : Int64, post (dm4 X (S.1 34 i) (S.2.2 1925) (dm3 X m (S.1 32 i) e d)) → wl_Se_demerits_89 S post (nI i) (nI e) d := by
    intro d hd
    unfold wl_Se_demerits_89
    unfold dm3 at hd
    rw [nI_clamp (by omega), hl]
    refine ⟨pi, s_gHyp hG hS (e := e) (by omega) ha (fun y => ⟨fun w => absurd w (by decide), fun _ => s_gHyp hG hS (e := e + 1) (by omega) (Or.inr ⟨e, by omega, rfl⟩) (fun y2 => ⟨fun w => absurd w (by decide), fun _ => ⟨by unfold vp_in; decide, fun v4 e4 => s_dem164 hS hi hf hg ?_⟩⟩) (fun y2 => ⟨fun _ => ⟨fun y3 => s_dem164 hS hi hf hg ?_, fun y3 => ⟨by unfold vp_in; decide, fun v3 e3 => s_dem164 hS hi hf hg ?_⟩⟩, fun w => absurd rfl w⟩)⟩) (fun y => ⟨fun _ => s_dem164 hS hi hf hg ?_, fun w => absurd rfl w⟩)⟩
    · rw [nI_clamp (by omega)] at y2
      rw [if_pos y, if_pos y2.2] at hd
      rw [e4, show (5 : Int32).toNatClampNeg = 5 from rfl, h12 5 (by omega)]
      exact hd
    · rw [nI_clamp (by omega)] at y2
      have n5 : ¬ X 1 e = 5 := fun w => y2 ⟨by rw [i_lt, nI_toInt (by omega)]; show ¬ (e : Int) < 0; omega, w⟩
      have ne : ¬ e = m + 2 := fun w => y3 ((nI_eq (by omega) (by omega)).mpr w)
      rw [if_pos y, if_neg n5, if_neg ne] at hd
      exact hd
    · rw [nI_clamp (by omega)] at y2
      have n5 : ¬ X 1 e = 5 := fun w => y2 ⟨by rw [i_lt, nI_toInt (by omega)]; show ¬ (e : Int) < 0; omega, w⟩
      have ne : e = m + 2 := (nI_eq (by omega) (by omega)).mp y3
      rw [if_pos y, if_neg n5, if_pos ne] at hd
      rw [e3, show (6 : Int32).toNatClampNeg = 6 from rfl, h12 6 (by omega)]
      exact hd
    · rw [if_neg y] at hd
      exact hd
  have c2 : ∀ d : Int64, post (dm4 X (S.1 34 i) (S.2.2 1925) (dm3 X m (S.1 32 i) e (dm2 (fineX X e).toInt64 d))) → wl_Se_demerits_36 S post (nI i) (nI e) d := by
    intro d hd
    unfold wl_Se_demerits_36
    unfold dm2 at hd
    rw [nI_clamp (by omega), (g1 e he).1.2.1]
    have t : (fineX X e).toInt64.toInt = (fineX X e).toInt := j_of _
    rw [t] at hd
    refine ⟨pe, fun v1 e1 => ?_⟩
    rw [e1, lc_le, lc_eq, t, show (0 : Int64).toInt = 0 from rfl, show (-10000 : Int64).toInt = -10000 from rfl]
    refine ⟨fun q => ⟨fun q2 => c3 d ?_, fun q2 v2 e2 => c3 v2 ?_⟩, fun q v3 e3 => c3 v3 ?_⟩
    · rw [if_pos q, if_pos (by omega)] at hd
      exact hd
    · rw [if_pos q, if_neg (by omega)] at hd
      rw [e2]
      exact hd
    · rw [if_neg q] at hd
      rw [e3]
      exact hd
  unfold wp_Se_demerits
  unfold dm1 at hp
  refine ⟨by unfold vp_in; decide, fun v1 e1 => ?_⟩
  rw [show (2 : Int32).toNatClampNeg = 2 from rfl, h12 2 (by omega)] at e1
  rw [lc_lt, show (10000 : Int64).toInt = 10000 from rfl]
  refine ⟨fun q => c2 _ ?_, fun q => c2 _ ?_⟩
  · rw [e1] at q ⊢
    rw [if_pos q] at hp
    exact hp
  · rw [e1] at q
    rw [if_neg q] at hp
    exact hp
theorem s_Mfine {T : ST} {X : Nat → Nat → Int32} {m e : Nat} {post : Int32 → Prop} (hA : agr X m T) (he : e < 410) (hp : post (fineX X e)) : wp_Mo_fine T (nI e) post := by
  have h1 := hA.1 1 (by omega) (by omega)
  have h2 := hA.1 2 (by omega) (by omega)
  have h6 := hA.1 6 (by omega) (by omega)
  have h9 := hA.1 9 (by omega) (by omega)
  have pe : vp_in (nI e) 410 := vp_in_nI he (by omega)
  unfold wp_Mo_fine
  rw [nI_clamp (by omega), h1, h2, h6, h9, show (4 : Int32).toNatClampNeg = 4 from rfl, show (3 : Int32).toNatClampNeg = 3 from rfl]
  unfold fineX at hp
  refine ⟨pe, fun y => ⟨pe, fun y2 => ⟨pe, fun y3 => ⟨by unfold vp_in; decide, ?_⟩, fun y3 => ⟨by unfold vp_in; decide, ?_⟩⟩, fun y2 => ?_⟩, fun y => ⟨pe, ?_⟩⟩
  · rw [if_neg y, if_pos y2, if_pos y3] at hp; exact hp
  · rw [if_neg y, if_pos y2, if_neg y3] at hp; exact hp
  · rw [if_neg y, if_neg y2] at hp; exact hp
  · rw [if_pos y] at hp; exact hp
theorem s_Mdem {T : ST} {X : Nat → Nat → Int32} {m i e : Nat} {post : Int64 → Prop} (hG : Gd X m) (hA : agr X m T) (he : e < m + 3) (hi : i < 8001) (hf : fi4 (T.1 17 i)) (hg : fi4 (T.2.2 33)) (ha : befo (T.1 15 i) e)
    (hp : post (dm4 X (T.1 17 i) (T.2.2 33) (dm3 X m (T.1 15 i) e (dm2 (fineX X e).toInt64 (dm1 X (T.2.2 32)))))) : wp_Mo_demerits T (nI i) (nI e) post := by
  have hG' := hG
  obtain ⟨hm, hI, -, -, -, hE⟩ := hG'
  have h1 := hA.1 1 (by omega) (by omega)
  have h9 := hA.1 9 (by omega) (by omega)
  have h17 := hA.2
  have pi : vp_in (nI i) 8001 := vp_in_nI hi (by omega)
  have fb := fine_bd hG he
  have l1 : (1 : Int32).toInt = 1 := rfl
  have c4 : ∀ d : Int64, post (dm4 X (T.1 17 i) (T.2.2 33) d) → wl_Mo_demerits_153 T post (nI i) d := by
    intro d hd
    unfold wl_Mo_demerits_153 wl_Mo_demerits_193
    unfold dm4 at hd
    unfold fi4 at hf hg
    rw [nI_clamp (by omega), h9, show (7 : Int32).toNatClampNeg = 7 from rfl, i_le, i_le, i_le, l1, i_sub (by omega) (by omega), i_sub (by omega) (by omega)]
    refine ⟨pi, fun q => ⟨pi, fun q2 => ?_, fun q2 => ⟨by unfold vp_in; decide, ?_⟩⟩, fun q => ⟨pi, fun q2 => ?_, fun q2 => ⟨by unfold vp_in; decide, ?_⟩⟩⟩
    · rw [if_pos (by omega)] at hd; exact hd
    · rw [if_neg (by omega)] at hd; exact hd
    · rw [if_pos (by omega)] at hd; exact hd
    · rw [if_neg (by omega)] at hd; exact hd
  have c3 : ∀ d : Int64, post (dm4 X (T.1 17 i) (T.2.2 33) (dm3 X m (T.1 15 i) e d)) → wl_Mo_demerits_80 T post (nI i) (nI e) d := by
    intro d hd
    unfold wl_Mo_demerits_80 wl_Mo_demerits_120 wl_Mo_demerits_122 wl_Mo_demerits_151
    unfold dm3 at hd
    rw [nI_clamp (by omega), h17, h9, show (5 : Int32).toNatClampNeg = 5 from rfl, show (6 : Int32).toNatClampNeg = 6 from rfl]
    have nn : ∀ j : Nat, j < e + 1 → ¬ nI j < 0 := by
      intro j hj
      rw [i_lt, nI_toInt (by omega)]
      show ¬ (j : Int) < 0
      omega
    have lastNot5 : X 1 e = 5 → ¬ e = m + 2 := by
      intro y z
      rw [z, hE.2.2.2.1] at y
      exact absurd y (by decide)
    have yes : ∀ j, j < e → T.1 15 i = nI j → X 1 j = 5 → (¬ T.1 15 i < 0 ∧ X 1 (T.1 15 i).toNatClampNeg = 5) := by
      intro j hj ej y
      rw [ej, nI_clamp (by omega)]
      exact ⟨nn j (by omega), y⟩
    refine ⟨pi, s_Mhyp (T := T) (X := X) (e := e) h1 (by omega) ha (fun j hj ej y => ⟨fun w => absurd w (by decide), fun _ => s_Mhyp (T := T) (X := X) (e := e + 1) h1 (by omega) (Or.inr ⟨e, by omega, rfl⟩) (fun j2 hj2 ej2 y2 => ⟨fun w => absurd w (by decide), fun _ => ⟨by unfold vp_in; decide, fun w => absurd w (by decide), fun _ => ⟨fun y3 => c4 _ ?_, fun y3 => ?_⟩⟩⟩) (fun y2 => ⟨fun _ => ⟨fun w => absurd w (by decide), fun _ => ⟨fun y3 => c4 _ ?_, fun y3 => ⟨by unfold vp_in; decide, c4 _ ?_⟩⟩⟩, fun w => absurd rfl w⟩)⟩) (fun y => ⟨fun _ => ⟨fun _ => c4 _ ?_, fun w => absurd rfl w⟩, fun w => absurd rfl w⟩)⟩
    · have ee : e = j2 := (nI_eq (by omega) (by omega)).mp ej2
      rw [← ee] at y2
      rw [if_pos (yes j hj ej y), if_pos y2] at hd
      exact hd
    · have ee : e = j2 := (nI_eq (by omega) (by omega)).mp ej2
      rw [← ee] at y2
      exact absurd ((nI_eq (by omega) (by omega)).mp y3) (lastNot5 y2)
    · have n5 : ¬ X 1 e = 5 := by
        rcases y2 with y2 | ⟨j2, hj2, ej2, y2⟩
        · exact absurd y2 (nn e (by omega))
        · have ee : e = j2 := (nI_eq (by omega) (by omega)).mp ej2
          rw [ee]; exact y2
      have ne : ¬ e = m + 2 := fun w => y3 ((nI_eq (by omega) (by omega)).mpr w)
      rw [if_pos (yes j hj ej y), if_neg n5, if_neg ne] at hd
      exact hd
    · have n5 : ¬ X 1 e = 5 := by
        rcases y2 with y2 | ⟨j2, hj2, ej2, y2⟩
        · exact absurd y2 (nn e (by omega))
        · have ee : e = j2 := (nI_eq (by omega) (by omega)).mp ej2
          rw [ee]; exact y2
      have ne : e = m + 2 := (nI_eq (by omega) (by omega)).mp y3
      rw [if_pos (yes j hj ej y), if_neg n5, if_pos ne] at hd
      exact hd
    · rw [if_neg] at hd
      · exact hd
      · rintro ⟨w1, w2⟩
        rcases y with y | ⟨j, hj, ej, y⟩
        · exact w1 y
        · rw [ej, nI_clamp (by omega)] at w2
          exact y w2
  unfold wp_Mo_demerits wl_Mo_demerits_30
  refine ⟨by unfold vp_in; decide, fun v1 e1 => ?_⟩
  rw [h9, show (2 : Int32).toNatClampNeg = 2 from rfl] at e1
  have c2 : ∀ d : Int64, post (dm4 X (T.1 17 i) (T.2.2 33) (dm3 X m (T.1 15 i) e (dm2 (fineX X e).toInt64 d))) → wp_Mo_fine T (nI e) (fun r1 => (∀ v2 : Int64, v2 = (r1.toInt64) → (((lg_cmp v2 0) ≤ 0 → (((lg_cmp v2 (-10000)) ≤ 0 → wl_Mo_demerits_80 T post  (nI i) (nI e) d) ∧ (¬ (lg_cmp v2 (-10000)) ≤ 0 → wl_Mo_demerits_80 T post  (nI i) (nI e) (d - (v2 * v2))))) ∧ (¬ (lg_cmp v2 0) ≤ 0 → wl_Mo_demerits_80 T post  (nI i) (nI e) (d + (v2 * v2)))))) := by
    intro d hd
    refine s_Mfine hA (by omega) fun v2 e2 => ?_
    unfold dm2 at hd
    rw [lc_le, lc_le, e2, show (0 : Int64).toInt = 0 from rfl, show (-10000 : Int64).toInt = -10000 from rfl]
    refine ⟨fun q => ⟨fun q2 => c3 _ ?_, fun q2 => c3 _ ?_⟩, fun q => c3 _ ?_⟩
    · rw [if_pos q, if_pos q2] at hd; exact hd
    · rw [if_pos q, if_neg q2] at hd; exact hd
    · rw [if_neg q] at hd; exact hd
  unfold dm1 at hp
  rw [lc_lt, show (10000 : Int64).toInt = 10000 from rfl]
  refine ⟨fun q => c2 _ ?_, fun q => c2 _ ?_⟩
  · rw [e1] at q ⊢
    rw [if_pos q] at hp
    exact hp
  · rw [e1] at q
    rw [if_neg q] at hp
    exact hp
