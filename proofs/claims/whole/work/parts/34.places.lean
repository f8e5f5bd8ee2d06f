/-! Galley: places and first ones -/
/-- replacedEnd at item i: behind the items that the last hyphen before i replaces -/
def rEnd (X : Nat → Nat → Int32) (i r : Nat) : Prop := (r = 0 ∧ ∀ h, h < i → ¬ X 1 h = 5) ∨ ∃ h, h < i ∧ X 1 h = 5 ∧ r = h + 1 + rpN X h ∧ ∀ j, h < j → j < i → ¬ X 1 j = 5
theorem kinds6 {X : Nat → Nat → Int32} {k : Nat} (h : itX X k) : X 1 k = 0 ∨ X 1 k = 1 ∨ X 1 k = 2 ∨ X 1 k = 3 ∨ X 1 k = 4 ∨ X 1 k = 5 := by
  unfold itX at h
  rcases h with h | h | h | h
  · rcases h.1 with z | z | z
    · exact Or.inl z
    · exact Or.inr (Or.inr (Or.inl z))
    · exact Or.inr (Or.inr (Or.inr (Or.inl z)))
  · exact Or.inr (Or.inl h.1)
  · exact Or.inr (Or.inr (Or.inr (Or.inr (Or.inl h.1))))
  · exact Or.inr (Or.inr (Or.inr (Or.inr (Or.inr h.1))))
theorem rp_bd {X : Nat → Nat → Int32} {k : Nat} (h : itX X k) (e : X 1 k = 5) : ((rpN X k : Nat) : Int) = (X 8 k).toInt ∧ rpN X k ≤ 10 := by
  unfold itX at h
  rw [e] at h
  unfold rpN
  rcases h with h | h | h | h
  · exact absurd h.1 (by decide)
  · exact absurd h.1 (by decide)
  · exact absurd h.1 (by decide)
  · omega
/-- what covers k is the last hyphen before it -/
theorem rEnd_cov {X : Nat → Nat → Int32} {m i r : Nat} (hG : Gd X m) (hi : i ≤ m + 3) (hr : rEnd X i r) : (∃ h, cov (X 1) (X 8) i h) ↔ i < r := by
  obtain ⟨hm, hI, hR, -⟩ := hG
  constructor
  · rintro ⟨h, a, b, c⟩
    have bb := rp_bd (hI h (by omega)) b
    rcases hr with ⟨e, hr⟩ | ⟨g, a', b', c', d'⟩
    · exact absurd b (hr h a)
    · rcases Nat.lt_trichotomy h g with z | z | z
      · have := (hR h (by omega) b).2 g z (by omega)
        rw [b'] at this
        exact absurd this (by decide)
      · subst z
        omega
      · exact absurd b (d' h z a)
  · intro z
    rcases hr with ⟨e, hr⟩ | ⟨g, a', b', c', d'⟩
    · omega
    · have bb := rp_bd (hI g (by omega)) b'
      exact ⟨g, a', b', by omega⟩
/-- .. and it ends just before i -/
theorem rEnd_eq {X : Nat → Nat → Int32} {m i r : Nat} (hG : Gd X m) (h0 : 0 < i) (hi : i ≤ m + 3) (hr : rEnd X i r) (hn : ¬ ∃ h, cov (X 1) (X 8) i h) : i = r ↔ (X 1 (i - 1) = 5 ∨ ∃ h, cov (X 1) (X 8) (i - 1) h) := by
  have hG' := hG
  obtain ⟨hm, hI, hR, -⟩ := hG'
  have hn2 : ¬ i < r := fun z => hn ((rEnd_cov hG hi hr).mpr z)
  constructor
  · intro e
    rcases hr with ⟨e', hr⟩ | ⟨g, a', b', c', d'⟩
    · omega
    · have bb := rp_bd (hI g (by omega)) b'
      by_cases z : rpN X g = 0
      · refine Or.inl ?_
        rw [show i - 1 = g by omega]
        exact b'
      · exact Or.inr ⟨g, by omega, b', by omega⟩
  · rintro (e | ⟨h, a, b, c⟩)
    · rcases hr with ⟨e', hr⟩ | ⟨g, a', b', c', d'⟩
      · exact absurd e (hr (i - 1) (by omega))
      · have : g = i - 1 := by
          rcases Nat.lt_trichotomy g (i - 1) with z | z | z
          · exact absurd e (d' (i - 1) z (by omega))
          · exact z
          · omega
        omega
    · have bb := rp_bd (hI h (by omega)) b
      have : ¬ (i : Int) ≤ h + (X 8 h).toInt := fun z => hn ⟨h, by omega, b, z⟩
      rcases hr with ⟨e', hr⟩ | ⟨g, a', b', c', d'⟩
      · exact absurd b (hr h (by omega))
      · rcases Nat.lt_trichotomy h g with z | z | z
        · have := (hR h (by omega) b).2 g z (by omega)
          rw [b'] at this
          exact absurd this (by decide)
        · subst z; omega
        · exact absurd b (d' h z (by omega))
theorem rEnd_s {X : Nat → Nat → Int32} {i r : Nat} (hr : rEnd X i r) (h : ¬ X 1 i = 5) : rEnd X (i + 1) r := by
  rcases hr with ⟨e, hr⟩ | ⟨g, a, b, c, d⟩
  · refine Or.inl ⟨e, fun h' hh => ?_⟩
    by_cases z : h' = i
    · subst z; exact h
    · exact hr h' (by omega)
  · refine Or.inr ⟨g, by omega, b, c, fun j h1 h2 => ?_⟩
    by_cases z : j = i
    · subst z; exact h
    · exact d j h1 (by omega)
theorem nar1 : vp_nar .boolean 1 = 1 := rfl
theorem nar0 : vp_nar .boolean 0 = 0 := rfl
theorem s_mayBreak {S : ST} {X : Nat → Nat → Int32} {m i r : Nat} {post : Int32 → Prop} (hG : Gd X m) (hS : S.2.2 1099 = nI (m + 2)) (h18 : ∀ k, k < m + 3 → S.1 18 k = X 1 k) (hi : i < m + 3) (hr : rEnd X i r) (hr2 : r ≤ 1000) (hf : fineX X i ≠ 10000) (ha : plX X m i → post 1) (hb : ¬ plX X m i → post 0) : wp_Ga_mayBreak S (nI i) (nI r) post := by
  have hG' := hG
  obtain ⟨hm, hI, hR, -⟩ := hG'
  have hp : vp_in (nI i) 403 := vp_in_nI (by omega) (by omega)
  have k6 := kinds6 (hI i hi)
  unfold wp_Ga_mayBreak
  rw [nI_clamp (by omega), h18 i hi, hS, nI_1]
  have nocov : (X 1 i = 1 ∨ X 1 i = 4 ∨ X 1 i = 5) → ¬ ∃ h, cov (X 1) (X 8) i h := by
    rintro e ⟨h, a, b, c⟩
    have := (hR h (by omega) b).2 i a c
    rcases e with e | e | e <;> rw [e] at this <;> exact absurd this (by decide)
  unfold plX at ha hb
  refine ⟨hp, fun e => ⟨fun q => hb ?_, fun q => ?_⟩, fun e => hb ?_, fun e => ⟨fun q => hb ?_, fun q => ⟨fun q2 => hb ?_, fun q2 => ?_⟩⟩, fun e => ha ⟨hf, Or.inr (Or.inr (Or.inl e))⟩, fun e => ha ⟨hf, Or.inr (Or.inr (Or.inr e))⟩, fun e1 e2 e3 e4 e5 => hb ?_⟩
  · have : i ≤ 0 := (nI_leI (b := 0) (by omega) (by omega)).mp q
    rintro ⟨-, z | z | z | z⟩
    · omega
    · rw [e] at z; exact absurd z.1 (by decide)
    · rw [e] at z; exact absurd z (by decide)
    · rw [e] at z; exact absurd z (by decide)
  · have h0 : 0 < i := by
      rcases Nat.lt_or_ge 0 i with z | z
      · exact z
      · exact absurd ((nI_leI (b := 0) (by omega) (by omega)).mpr z) q
    have eqr := rEnd_eq hG h0 (by omega) hr (nocov (Or.inl e))
    have e1 : nI i - 1 = nI (i - 1) := pk_sub (b := 1) (by omega)
    have hp1 : vp_in (nI (i - 1)) 403 := vp_in_nI (by omega) (by omega)
    rw [e1, nI_clamp (by omega), h18 (i - 1) (by omega)]
    refine ⟨fun y => ha ⟨hf, Or.inl ⟨e, h0, ?_⟩⟩, fun y => ⟨hp1, fun y2 => ha ⟨hf, Or.inl ⟨e, h0, Or.inl y2⟩⟩, fun y2 => ⟨hp1, fun y3 => hb ?_, fun y3 => ha ⟨hf, Or.inl ⟨e, h0, Or.inr (Or.inl y3)⟩⟩⟩⟩⟩
    · exact Or.inr (Or.inr (eqr.mp ((nI_eq (by omega) (by omega)).mp y)))
    · rintro ⟨-, z | z | z | z⟩
      · rcases z.2.2 with w | w | w
        · exact y2 w
        · exact y3 w
        · exact y ((nI_eq (by omega) (by omega)).mpr (eqr.mpr w))
      · rw [e] at z; exact absurd z.1 (by decide)
      · rw [e] at z; exact absurd z (by decide)
      · rw [e] at z; exact absurd z (by decide)
  · rintro ⟨-, z | z | z | z⟩
    · rw [e] at z; exact absurd z.1 (by decide)
    · rw [e] at z; exact absurd z.1 (by decide)
    · rw [e] at z; exact absurd z (by decide)
    · rw [e] at z; exact absurd z (by decide)
  · have lt := (nI_ltI (by omega) (by omega)).mp q
    obtain ⟨h, hh⟩ := (rEnd_cov hG (by omega) hr).mpr lt
    rintro ⟨-, z | z | z | z⟩
    · rw [e] at z; exact absurd z.1 (by decide)
    · exact z.2.1 h hh
    · rw [e] at z; exact absurd z (by decide)
    · rw [e] at z; exact absurd z (by decide)
  · have le := (nI_leI (by omega) (by omega)).mp q2
    rintro ⟨-, z | z | z | z⟩
    · rw [e] at z; exact absurd z.1 (by decide)
    · have := z.2.2.1; omega
    · rw [e] at z; exact absurd z (by decide)
    · rw [e] at z; exact absurd z (by decide)
  · have lt : ¬ i < r := fun z => q ((nI_ltI (by omega) (by omega)).mpr z)
    have nc : ∀ h, ¬ cov (X 1) (X 8) i h := fun h hh => lt ((rEnd_cov hG (by omega) hr).mp ⟨h, hh⟩)
    have lt2 : i < m + 2 := by
      rcases Nat.lt_or_ge i (m + 2) with z | z
      · exact z
      · exact absurd ((nI_leI (by omega) (by omega)).mpr z) q2
    have hp1 : vp_in (nI (i + 1)) 403 := vp_in_nI (by omega) (by omega)
    rw [nI_clamp (by omega), h18 (i + 1) (by omega)]
    refine ⟨hp1, fun y => hb ?_, fun y => ha ⟨hf, Or.inr (Or.inl ⟨e, nc, lt2, y⟩)⟩⟩
    rintro ⟨-, z | z | z | z⟩
    · rw [e] at z; exact absurd z.1 (by decide)
    · exact y z.2.2.2
    · rw [e] at z; exact absurd z (by decide)
    · rw [e] at z; exact absurd z (by decide)
  · rintro ⟨-, z | z | z | z⟩
    · exact e1 z.1
    · exact e3 z.1
    · exact e4 z
    · exact e5 z
def gPl (X : Nat → Nat → Int32) (m k : Nat) (a20 : Nat → Int32) : Prop := (a20 k = 1 ∧ plX X m k) ∨ (a20 k = 0 ∧ ¬ plX X m k)
theorem s_mark_l {S : ST} {X : Nat → Nat → Int32} {m : Nat} {post : (Nat → Int32) → Prop} (hG : Gd X m) (hS : S.2.2 1099 = nI (m + 2)) (h18 : ∀ k, k < m + 3 → S.1 18 k = X 1 k) (h19 : ∀ k, k < m + 3 → S.1 19 k = fineX X k) (h10 : ∀ k, k < m → S.1 10 k = X 8 k) (hp : ∀ a20 : Nat → Int32, (∀ k, k < m + 3 → gPl X m k a20) → post a20) :
    ∀ (n i r : Nat) (a20 : Nat → Int32), i ≤ m + 3 → m + 3 < i + n → rEnd X i r → r ≤ 1000 → (∀ k, k < i → gPl X m k a20) → wl_Ga_markPlaces_5 S post n a20 (nI m) (nI r) (nI i) := by
  have hG' := hG
  obtain ⟨hm, hI, hR, -, -, hE⟩ := hG'
  intro n
  induction n with
  | zero => intro i _ _ _ h; omega
  | succ n ih =>
    intro i r a20 hi hn hr hr2 hJ
    unfold wl_Ga_markPlaces_5
    rw [hS]
    refine ⟨fun q => hp a20 fun k hk => hJ k ?_, fun q => ?_⟩
    · have := (nI_ltI (by omega) (by omega)).mp q
      omega
    · have him : i < m + 3 := by
        rcases Nat.lt_or_ge i (m + 3) with z | z
        · exact z
        · exact absurd ((nI_ltI (by omega) (by omega)).mpr (by omega)) q
      have hp3 : vp_in (nI i) 403 := vp_in_nI (by omega) (by omega)
      have fin : ∀ z2 : Int32, (vp_nar .boolean z2 = 1 ∧ plX X m i) ∨ (vp_nar .boolean z2 = 0 ∧ ¬ plX X m i) → wl_Ga_markPlaces_48 S post (fun a20 x2 x3 x4 => wl_Ga_markPlaces_5 S post n a20 x2 x3 x4) a20 (nI m) (nI r) (nI i) (nI i) z2 := by
        intro z2 hz
        unfold wl_Ga_markPlaces_48
        rw [nI_clamp (by omega), h18 i him]
        have go : ∀ (f1 : Nat → Int32) (r' : Nat), f1 = upd a20 i (vp_nar .boolean z2) → rEnd X (i + 1) r' → r' ≤ 1000 → wl_Ga_markPlaces_5 S post n f1 (nI m) (nI r') (nI i + 1) := by
          intro f1 r' e1 hr' hb'
          rw [nI_1]
          refine ih (i + 1) r' f1 (by omega) (by omega) hr' hb' fun k hk => ?_
          unfold gPl
          rw [e1]
          by_cases z : k = i
          · subst z
            rw [pk_us]
            exact hz
          · rw [pk_un z]
            exact hJ k (by omega)
        refine ⟨hp3, fun f1 e1 => ⟨fun y v e => ?_, fun y => ⟨hp3, fun y2 v e => ?_, fun y2 => ⟨?_, fun v e v2 e2 => ?_⟩⟩⟩⟩
        · rw [e]
          refine go f1 r e1 (rEnd_s hr ?_) hr2
          have := (nI_leI (by omega) (by omega)).mp y
          intro z
          have := (hR i him z).1
          have := rp_bd (hI i him) z
          omega
        · rw [e]
          exact go f1 r e1 (rEnd_s hr y2) hr2
        · have lt : i < m := by
            rcases Nat.lt_or_ge i m with z | z
            · exact z
            · exact absurd ((nI_leI (by omega) (by omega)).mpr z) y
          exact vp_in_nI (by omega) (by omega)
        · have lt : i < m := by
            rcases Nat.lt_or_ge i m with z | z
            · exact z
            · exact absurd ((nI_leI (by omega) (by omega)).mpr z) y
          have bb := rp_bd (hI i him) y2
          have e8 : X 8 i = nI (rpN X i) := by
            rw [i_eq, nI_toInt (by omega)]
            exact bb.1.symm
          have ev : v = nI (i + 1 + rpN X i) := by
            rw [e, nI_1, h10 i lt, e8, nI_add]
          rw [e2, ev]
          exact go f1 _ e1 (Or.inr ⟨i, by omega, y2, rfl, fun j h1 h2 => by omega⟩) (by omega)
      rw [nI_clamp (by omega), h19 i him]
      refine ⟨hp3, fun y => ?_, fun y => ?_⟩
      · exact fin 0 (Or.inr ⟨nar0, fun z => z.1 y⟩)
      · refine s_mayBreak (S := sA S 20 a20) hG hS h18 him hr hr2 y (fun z => ⟨fun w => absurd w (by decide), fun _ => fin 1 (Or.inl ⟨nar1, z⟩)⟩) (fun z => ⟨fun _ => fin 0 (Or.inr ⟨nar0, z⟩), fun w => absurd rfl w⟩)
def gFs (X : Nat → Nat → Int32) (n k : Nat) (a21 : Nat → Int32) : Prop := a21 k = nI (fsN X n k)
theorem s_first_l {S : ST} {X : Nat → Nat → Int32} {m : Nat} {post : (Nat → Int32) → (Nat → Int32) → Prop} (hG : Gd X m) (hS : S.2.2 1099 = nI (m + 2)) (h18 : ∀ k, k < m + 3 → S.1 18 k = X 1 k) (h10 : ∀ k, k < m → S.1 10 k = X 8 k) (h9 : ∀ k, k < m → X 1 k = 5 → S.1 9 k = X 7 k) (hp : ∀ a21 a28 : Nat → Int32, (∀ k, k < m + 3 → gFs X (m + 2) k a21) → post a21 a28) :
    ∀ (n i : Nat) (x : Int32) (a21 a28 : Nat → Int32), i ≤ m + 3 → i < n → x.toInt = (i : Int) - 1 → (∀ k, i ≤ k → k < m + 3 → gFs X (m + 2) k a21) → (∀ k, i ≤ k → k ≤ m + 3 → a28 k = nI (nk X (m + 2) k)) → wl_Ga_findFirstOnes_22 S post n a21 a28 (nI m) x := by
  have hG' := hG
  obtain ⟨hm, hI, hR, -, -, hE⟩ := hG'
  intro n
  induction n with
  | zero => intro i _ _ _ _ h; omega
  | succ n ih =>
    intro i x a21 a28 hi hn hx hJ hK
    unfold wl_Ga_findFirstOnes_22
    refine ⟨fun q => hp a21 a28 fun k hk => hJ k ?_ hk, fun q => ?_⟩
    · rw [i_lt] at q
      have q : x.toInt < 0 := q
      omega
    · rw [i_lt] at q
      have q : ¬ x.toInt < 0 := q
      obtain ⟨i, rfl⟩ : ∃ i', i = i' + 1 := ⟨i - 1, by omega⟩
      have hx : x.toInt = (i : Int) := by omega
      have hxi := x_nI hx (by omega)
      subst hxi
      have hp3 : vp_in (nI i) 403 := vp_in_nI (by omega) (by omega)
      have hp4 : vp_in (nI i) 404 := vp_in_nI (by omega) (by omega)
      have hp5 : vp_in (nI (i + 1)) 404 := vp_in_nI (by omega) (by omega)
      have nb := nk_le (X := X) (n := m + 2) (k := i) (by omega)
      have fin : ∀ z2 : Int32, z2 = nI (nk X (m + 2) i) → wl_Ga_findFirstOnes_55 S post (fun a21 a28 x2 x3 => wl_Ga_findFirstOnes_22 S post n a21 a28 x2 x3) a21 a28 (nI m) (nI i) (nI i) z2 := by
        intro z2 hz
        have go : ∀ f1 f2 : Nat → Int32, f1 = upd a28 i z2 → (∀ k, k ≠ i → f2 k = a21 k) → f2 i = nI (fsN X (m + 2) i) → wl_Ga_findFirstOnes_22 S post n f2 f1 (nI m) (nI i + (-1)) := by
          intro f1 f2 e1 hne heq
          refine ih i _ f2 f1 (by omega) (by omega) (x_pred hx (by omega)) (fun k hk hk2 => ?_) (fun k hk hk2 => ?_)
          · unfold gFs
            by_cases z : k = i
            · subst z; exact heq
            · rw [hne k z]; exact hJ k (by omega) hk2
          · rw [e1]
            by_cases z : k = i
            · subst z; rw [pk_us]; exact hz
            · rw [pk_un z]; exact hK k (by omega) hk2
        unfold wl_Ga_findFirstOnes_55
        rw [nI_clamp (by omega), h18 i (by omega), hS, nI_1]
        refine ⟨hp4, fun f1 e1 => ⟨hp4, hp3, fun f2 e2 => ⟨fun y v e => ?_, fun y => ?_⟩⟩⟩
        · have := (nI_leI (by omega) (by omega)).mp y
          have n5 : ¬ X 1 i = 5 := by
            intro z
            have := (hR i (by omega) z).1
            have := rp_bd (hI i (by omega)) z
            omega
          rw [e]
          refine go f1 f2 e1 (fun k hk => by rw [e2, pk_un hk]) ?_
          rw [e2, pk_us, e1, pk_us, hz]
          unfold fsN
          rw [if_neg n5]
        · have lt : i < m := by
            rcases Nat.lt_or_ge i m with z | z
            · exact z
            · exact absurd ((nI_leI (by omega) (by omega)).mpr z) y
          have p4 : vp_in (nI i) 400 := vp_in_nI (by omega) (by omega)
          refine ⟨hp3, fun y2 v e => ?_, fun y2 => ⟨p4, fun v5 e5 => ⟨p4, fun y3 => ⟨hp3, fun f6 e6 v e => ?_⟩, fun y3 => ?_⟩⟩⟩
          · rw [e]
            refine go f1 f2 e1 (fun k hk => by rw [e2, pk_un hk]) ?_
            rw [e2, pk_us, e1, pk_us, hz]
            unfold fsN
            rw [if_neg y2]
          · have bb := rp_bd (hI i (by omega)) y2
            have rr := (hR i (by omega) y2).1
            have e8 : S.1 10 i = nI (rpN X i) := by
              rw [h10 i lt, i_eq, nI_toInt (by omega)]
              exact bb.1.symm
            rw [e8, nI_add, if_neg (fun z => by have := (nI_ltI (by omega) (by omega)).mp z; omega)] at e5
            rw [h9 i lt y2] at y3
            rw [e]
            refine go f1 f6 e1 (fun k hk => by rw [e6, e2, pk_un hk, pk_un hk]) ?_
            rw [e6, pk_us, e5]
            unfold fsN
            rw [if_pos y2, if_neg y3]
          · have bb := rp_bd (hI i (by omega)) y2
            have rr := (hR i (by omega) y2).1
            have e8 : S.1 10 i = nI (rpN X i) := by
              rw [h10 i lt, i_eq, nI_toInt (by omega)]
              exact bb.1.symm
            rw [e8, nI_add, if_neg (fun z => by have := (nI_ltI (by omega) (by omega)).mp z; omega)] at e5
            rw [h9 i lt y2] at y3
            rw [e5, nI_clamp (by omega)]
            refine ⟨vp_in_nI (by omega) (by omega), hp3, fun f8 e8 v e => ?_⟩
            rw [e]
            refine go f1 f8 e1 (fun k hk => by rw [e8, e2, pk_un hk, pk_un hk]) ?_
            rw [e8, pk_us, e1, pk_un (by omega), hK _ (by omega) (by omega)]
            unfold fsN
            rw [if_pos y2, if_pos y3]
      rw [nI_clamp (by omega), h18 i (by omega), nI_1, nI_clamp (by omega)]
      have yes : drp X i → (vp_in (nI (i + 1)) 404 ∧ wl_Ga_findFirstOnes_55 S post (fun a21 a28 x2 x3 => wl_Ga_findFirstOnes_22 S post n a21 a28 x2 x3) a21 a28 (nI m) (nI i) (nI i) (a28 (i + 1))) := by
        intro hd
        refine ⟨hp5, fin _ ?_⟩
        rw [hK (i + 1) (by omega) (by omega), nk_drp (by omega) hd]
      refine ⟨hp3, ?_⟩
      unfold wp_Ga_isLeftOut
      refine ⟨fun y => ⟨fun z => absurd z (by decide), fun _ => yes (Or.inl y)⟩, fun y => ⟨fun y2 => ⟨fun z => absurd z (by decide), fun _ => yes (Or.inr (Or.inl y2))⟩, fun y2 => ⟨fun y3 => ⟨fun _ => fin _ ?_, fun z => absurd rfl z⟩, fun y3 => ⟨fun z => absurd z (by decide), fun _ => yes (Or.inr (Or.inr y3))⟩⟩⟩⟩
      rw [nk_not (by omega)]
      rintro (z | z | z)
      · exact y z
      · exact y2 z
      · exact y3 z
