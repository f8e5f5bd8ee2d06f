/-! the reference: places, nodes -/
theorem s_Mrepl {T : ST} {X : Nat → Nat → Int32} {m k : Nat} {post : Int32 → Prop} (hG : Gd X m) (hA : agr X m T) (hk : k < m + 3) (h1 : ∀ h, cov (X 1) (X 8) k h → post (nI h)) (h0 : (∀ h, ¬ cov (X 1) (X 8) k h) → post (-1)) : wp_Mo_replacer T (nI k) post := by
  have hm := hG.1
  have hI := hG.2.1
  have e1 := hA.1 1 (by omega) (by omega)
  have e8 := hA.1 8 (by omega) (by omega)
  refine s_replacer (by omega) (fun h hh e => ?_) ?_ ?_
  · rw [e1] at e
    rw [e8]
    have := rp_bd (hI h (by omega)) e
    omega
  · rw [e1, e8]; exact h1
  · rw [e1, e8]; exact h0
theorem s_Mplace {T : ST} {X : Nat → Nat → Int32} {m num e : Nat} {post : Int32 → Prop} (hG : Gd X m) (hA : agr X m T) (hN : T.2.2 16 = nI num) (hn3 : num ≤ 3) (he : e < m + 3) (h1 : plP X m (1 < num) e → post 1) (h0 : ¬ plP X m (1 < num) e → post 0) : wp_Mo_isPlace T (nI e) post := by
  have hG' := hG
  obtain ⟨hm, hI, hR, -⟩ := hG'
  have e1 := hA.1 1 (by omega) (by omega)
  have pe : vp_in (nI e) 410 := vp_in_nI (by omega) (by omega)
  have nn : ∀ j : Nat, j < 1000 → 0 ≤ nI j := by
    intro j hj
    rw [i_le, nI_toInt (by omega)]
    show (0 : Int) ≤ j
    omega
  unfold plP plX at h1 h0
  unfold wp_Mo_isPlace
  refine s_Mrepl hG hA he (fun h hh => ⟨fun _ => h0 ?_, fun y => absurd (nn h (by have := hh.1; omega)) y⟩) (fun nc => ⟨fun y => absurd y (by decide), fun _ => ?_⟩)
  · -- a replaced item is no place
    have k3 := (hR h (by have := hh.1; omega) hh.2.1).2 e hh.1 hh.2.2
    rintro ⟨⟨-, y | y | y | y⟩, -⟩
    · rw [y.1] at k3; exact absurd k3 (by decide)
    · exact y.2.1 h hh
    · rw [y] at k3; exact absurd k3 (by decide)
    · rw [y] at k3; exact absurd k3 (by decide)
  · refine s_Mfine hA (by omega) ⟨fun hf => ⟨pe, ?_⟩, fun hf => h0 fun w => w.1.1 hf⟩
    rw [nI_clamp (by omega), e1, hA.2, hN, nI_1]
    refine ⟨fun y v3 e3 => ⟨fun z => ?_, fun z => h0 ?_⟩, fun y => h0 ?_, fun y => ⟨fun z => h0 ?_, fun z => ?_⟩, fun y => h1 ⟨⟨hf, Or.inr (Or.inr (Or.inl y))⟩, fun w => by rw [y] at w; exact absurd w (by decide)⟩, fun y => ⟨fun z => h0 ?_, fun z => h1 ⟨⟨hf, Or.inr (Or.inr (Or.inr y))⟩, fun _ => ?_⟩⟩, fun y1 y2 y3 y4 y5 => h0 ?_⟩
    · have hpos : 0 < e := by
        rcases Nat.eq_zero_or_pos e with w | w
        · subst w
          rw [e3] at z
          exact absurd z (by decide)
        · exact w
      have ev : v3 = nI (e - 1) := by rw [e3]; exact pk_sub (b := 1) (by omega)
      have n5 : ¬ X 1 e = 5 := by rw [y]; decide
      have yes : (X 1 (e - 1) = 0 ∨ X 1 (e - 1) = 2 ∨ X 1 (e - 1) = 5 ∨ ∃ h, cov (X 1) (X 8) (e - 1) h) → post 1 := fun w => h1 ⟨⟨hf, Or.inl ⟨y, hpos, w⟩⟩, fun u => absurd u n5⟩
      have p1 : vp_in (nI (e - 1)) 410 := vp_in_nI (by omega) (by omega)
      rw [ev, nI_clamp (by omega)]
      refine s_Mrepl hG hA (by omega) (fun h hh => ⟨fun _ => yes (Or.inr (Or.inr (Or.inr ⟨h, hh⟩))), fun w => absurd (nn h (by have := hh.1; omega)) w⟩) (fun nc2 => ⟨fun w => absurd w (by decide), fun _ => ⟨p1, fun w => yes (Or.inl w), fun w => ⟨p1, fun w2 => yes (Or.inr (Or.inr (Or.inl w2))), fun w2 => ⟨p1, fun w3 => h0 ?_, fun w3 => yes (Or.inr (Or.inl w3))⟩⟩⟩⟩)
      rintro ⟨⟨-, u | u | u | u⟩, -⟩
      · rcases u.2.2 with v | v | v | ⟨h, v⟩
        · exact w v
        · exact w3 v
        · exact w2 v
        · exact nc2 h v
      · rw [y] at u; exact absurd u.1 (by decide)
      · rw [y] at u; exact absurd u (by decide)
      · exact n5 u
    · rintro ⟨⟨-, u | u | u | u⟩, -⟩
      · apply z
        rw [e3, show nI e - 1 = nI (e - 1) from pk_sub (b := 1) (by omega)]
        exact nn _ (by omega)
      · rw [y] at u; exact absurd u.1 (by decide)
      · rw [y] at u; exact absurd u (by decide)
      · rw [y] at u; exact absurd u (by decide)
    · rintro ⟨⟨-, u | u | u | u⟩, -⟩
      · rw [y] at u; exact absurd u.1 (by decide)
      · rw [y] at u; exact absurd u.1 (by decide)
      · rw [y] at u; exact absurd u (by decide)
      · rw [y] at u; exact absurd u (by decide)
    · have := (nI_leI (by omega) (by omega)).mp z
      rintro ⟨⟨-, u | u | u | u⟩, -⟩
      · rw [y] at u; exact absurd u.1 (by decide)
      · have := u.2.2.1; omega
      · rw [y] at u; exact absurd u (by decide)
      · rw [y] at u; exact absurd u (by decide)
    · have hlt : e < m + 2 := by
        rcases Nat.lt_or_ge e (m + 2) with u | u
        · exact u
        · exact absurd ((nI_leI (by omega) (by omega)).mpr u) z
      rw [nI_clamp (by omega)]
      refine ⟨vp_in_nI (by omega) (by omega), fun w => h0 ?_, fun w => h1 ⟨⟨hf, Or.inr (Or.inl ⟨y, nc, hlt, w⟩)⟩, fun u => by rw [y] at u; exact absurd u (by decide)⟩⟩
      rintro ⟨⟨-, u | u | u | u⟩, -⟩
      · rw [y] at u; exact absurd u.1 (by decide)
      · exact w u.2.2.2
      · rw [y] at u; exact absurd u (by decide)
      · rw [y] at u; exact absurd u (by decide)
    · have hle := (nI_leI (b := 1) (by omega) (by omega)).mp z
      exact fun w => absurd (w.2 y) (by omega)
    · rcases Nat.lt_or_ge 1 num with u | u
      · exact u
      · exact absurd ((nI_leI (b := 1) (by omega) (by omega)).mpr u) z
    · rintro ⟨⟨-, u | u | u | u⟩, -⟩
      · exact y1 u.1
      · exact y3 u.1
      · exact y4 u
      · exact y5 u
theorem agr_cg {X : Nat → Nat → Int32} {m : Nat} {T T' : ST} (h : agr X m T) (h1 : ∀ j, j < 15 → T'.1 j = T.1 j) (h2 : T'.2.2 17 = T.2.2 17) : agr X m T' := ⟨fun j a b => (h1 j (by omega)).trans (h.1 j a b), h2.trans h.2⟩
/-- a state of the reference in ask -/
def stA (S : ST) (a15 a16 a17 a19 a20 a21 : Nat → Int32) (l18 : Nat → Int64) (i20 i27 i28 i30 i31 i32 i33 : Int32) : ST :=
  sI (sI (sI (sI (sI (sI (sI (sL (sA (sA (sA (sA (sA (sA S 15 a15) 16 a16) 17 a17) 19 a19) 20 a20) 21 a21) 18 l18) 20 i20) 27 i27) 28 i28) 30 i30) 31 i31) 32 i32) 33 i33
theorem stA_agr {X : Nat → Nat → Int32} {m : Nat} {T : ST} {a15 a16 a17 a19 a20 a21 : Nat → Int32} {l18 : Nat → Int64} {i20 i27 i28 i30 i31 i32 i33 : Int32} (h : agr X m T) : agr X m (stA T a15 a16 a17 a19 a20 a21 l18 i20 i27 i28 i30 i31 i32 i33) := by
  unfold stA
  refine agr_cg h (fun j hj => ?_) rfl
  simp (disch := omega) only [sI_1, sL_1, sA_ne]
/-- measure, then judge -/
theorem s_Mline2 {T : ST} {X : Nat → Nat → Int32} {m e : Nat} {more : Int32} {k : KEY} {a15 a16 a17 a19 a20 a21 : Nat → Int32} {l18 : Nat → Int64} {i20 i27 i28 i30 i31 i32 i33 : Int32} {P : Prop} {Q : (Nat → Int32) → Int32 → Int32 → Int32 → Int32 → Int32 → Int32 → Prop} (hG : Gd X m) (hA : agr X m T) (hM : T.2.2 19 = more) (hm0 : 0 ≤ more.toInt) (hm1 : more.toInt ≤ (X 9 8).toInt) (he : e < m + 3) (ok : okK m e k) (hP : P)
    (hq : ∀ (f : Nat → Int32) (v28 v30 : Int32), Q f (nI (fsX X (m + 2) k.1)) v28 v30 (sfX X m more k e) (bdX X m more k e) (ftX X m more k e)) :
    wp_Mo_measure (stA T a15 a16 a17 a19 a20 a21 l18 i20 i27 i28 i30 i31 i32 i33) k.1 (nI e) (fun f2 v3 v4 v5 => (P ∧ wp_Mo_judge (stA T a15 a16 a17 a19 a20 f2 l18 i20 v3 v4 v5 i31 i32 i33) k.2.1 (fun v6 v7 v8 => Q f2 v3 v4 v5 v6 v7 v8))) := by
  have hm := hG.1
  obtain ⟨l, el, ll, cl⟩ := okK_l hm ok
  have hA' : agr X m (stA T a15 a16 a17 a19 a20 a21 l18 i20 i27 i28 i30 i31 i32 i33) := stA_agr hA
  have hM' : (stA T a15 a16 a17 a19 a20 a21 l18 i20 i27 i28 i30 i31 i32 i33).2.2 19 = more := hM
  obtain ⟨bW, bF, bE, bH, -⟩ := meas_bd hG he (okK_p ok) hm0 hm1
  refine s_Mmeasure hG hA' he (okK_p ok) (by rw [hM']; exact hm0) (by rw [hM']; exact hm1) (fun f i28 i30 q28 q30 qF s1 s2 s3 qE => ⟨hP, ?_⟩)
  rw [hM'] at qF
  rw [el]
  have h10 := hA.1 10 (by omega) (by omega)
  have hj : (if l < 20 then l else 19) < 20 := by split <;> omega
  refine s_Mjudge (wi := (wdX X k).toInt) (W := W1 X m k.1 e) (F := F1 X m more k.1 e) (E := E1 X m k.1 e) (H := H1 X m k.1 e) ?_ (by omega) q28 qF q30 s1 s2 s3 qE ?_ bW bF bH ?_
  · show (T.1 10 (if l < 20 then l else 19)).toInt = _
    rw [h10]
    unfold wdX wiX
    rw [cl]
  · have := hG.2.2.2.2.1.2.1 _ hj
    unfold wdX wiX
    rw [cl]
    exact this
  · exact hq f i28 i30
theorem s_Mwrite {S : ST} {i v e : Nat} {t : Int64} {post : (Nat → Int32) → (Nat → Int32) → (Nat → Int32) → (Nat → Int32) → (Nat → Int32) → (Nat → Int64) → Prop} (hi : i < 8001) (hv : v < 8001) (hp : post (upd (S.1 15) i (nI e)) (upd (S.1 16) i (S.1 16 v + 1)) (upd (S.1 17) i (S.2.2 33)) (upd (S.1 19) i (nI v)) (upd (S.1 20) i 0) (vp_updL (S.2.1 18) i t)) : wp_Mo_write S (nI i) (nI e) (nI v) t post := by
  have pi : vp_in (nI i) 8001 := vp_in_nI hi (by omega)
  have pv : vp_in (nI v) 8001 := vp_in_nI hv (by omega)
  unfold wp_Mo_write
  rw [nI_clamp (by omega), nI_clamp (by omega)]
  refine ⟨pi, fun f1 e1 => ⟨pv, pi, fun f2 e2 => ⟨pi, fun f3 e3 => ⟨pi, fun f4 e4 => ⟨pi, fun f5 e5 => ⟨pi, fun f6 e6 => ?_⟩⟩⟩⟩⟩⟩
  rw [e1, e2, e3, e4, e5, e6, nar0]
  exact hp
/-- isBefore: strictly -/
def bef2 (k k' : KEY) : Prop := k.1.toInt < k'.1.toInt ∨ (k.1.toInt = k'.1.toInt ∧ k'.2.2.toInt < k.2.2.toInt)
theorem s_Mbefore {S : ST} {i j : Nat} {post : Int32 → Prop} (hi : i < 8001) (hj : j < 8001) (h1 : bef2 (keyA (S.1 15) (S.1 16) (S.1 17) i) (keyA (S.1 15) (S.1 16) (S.1 17) j) → post 1) (h0 : ¬ bef2 (keyA (S.1 15) (S.1 16) (S.1 17) i) (keyA (S.1 15) (S.1 16) (S.1 17) j) → post 0) : wp_Mo_isBefore S (nI i) (nI j) post := by
  have pi : vp_in (nI i) 8001 := vp_in_nI hi (by omega)
  have pj : vp_in (nI j) 8001 := vp_in_nI hj (by omega)
  unfold wp_Mo_isBefore
  unfold bef2 keyA at h1 h0
  rw [nI_clamp (by omega), nI_clamp (by omega), i_lt, i_eq, i_le]
  refine ⟨pi, pj, fun a => h1 (Or.inl a), fun a => ⟨pi, pj, fun b => h0 ?_, fun b => ⟨pi, pj, fun c => h0 ?_, fun c => h1 ?_⟩⟩⟩
  · simp only; omega
  · simp only; omega
  · simp only; omega
theorem not_bef2 {k k' : KEY} : ¬ bef2 k k' ↔ tie k' k := by
  unfold bef2 tie
  omega
theorem bef2_tie {k k' : KEY} (h : bef2 k k') : tie k k' := by
  unfold bef2 at h
  unfold tie
  omega
