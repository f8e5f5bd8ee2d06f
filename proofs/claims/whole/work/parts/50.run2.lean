/-! Search.run -/
def toX (X : Nat → Nat → Int32) (num : Nat) : Int32 := if num = 1 then X 9 0 else X 9 1
def moX (X : Nat → Nat → Int32) (num : Nat) : Int32 := if num = 3 then X 9 8 else 0
theorem s_fill {S : ST} {post : (Nat → Int32) → Prop} {x : Int32} (hp : ∀ a : Nat → Int32, (∀ s, s < 1608 → a s = x) → post a) : ∀ (q i : Nat) (a : Nat → Int32), i ≤ 1608 → 1608 < i + q → (∀ s, s < i → a s = x) → wl_Ar_fill_5 S post q a x (nI i) 1608 := by
  intro q
  induction q with
  | zero => intro i a _ h; omega
  | succ q ih =>
    intro i a hi hq ha
    unfold wl_Ar_fill_5
    refine ⟨fun z => hp a fun s hs => ha s ?_, fun z => ?_⟩
    · have := (nI_leI (a := 1608) (by omega) (by omega)).mp z
      omega
    · have hlt : i < 1608 := by
        rcases Nat.lt_or_ge i 1608 with u | u
        · exact u
        · exact absurd ((nI_leI (a := 1608) (by omega) (by omega)).mpr u) z
      rw [nI_clamp (by omega)]
      refine ⟨vp_in_nI hlt (by omega), fun f1 e1 v2 e2 => ?_⟩
      rw [e2, nI_1]
      refine ih (i + 1) f1 (by omega) (by omega) fun s hs => ?_
      rw [e1]
      by_cases u : s = i
      · subst u; exact pk_us
      · rw [pk_un u]; exact ha s (by omega)
theorem mo_bd {X : Nat → Nat → Int32} {m num : Nat} (hG : Gd X m) : 0 ≤ (moX X num).toInt ∧ (moX X num).toInt ≤ (X 9 8).toInt := by
  have h8 := hG.2.2.2.2.1.1 8 (by omega)
  have a : (tb_least 8).toInt = 0 := rfl
  unfold moX
  by_cases z : num = 3
  · rw [if_pos z]; omega
  · rw [if_neg z]
    have l0 : (0 : Int32).toInt = 0 := rfl
    omega
theorem rep_0 {p l f fm : Nat → Int32} {t : Nat → Int64} {X : Nat → Nat → Int32} {m : Nat} {more tol : Int32} {lst hyp : Prop} (h : keyA p l f 0 = root) (ht : t 0 = 0) : Rep p l f fm t 1 (runN X m more tol lst hyp 0).1 := by
  refine ⟨fun k t' g => ⟨?_, ?_⟩, fun i j hi hj _ => by omega, fun i h1 h2 => by omega, by omega, by omega, h⟩
  · rintro ⟨rfl, rfl, rfl⟩
    exact ⟨0, by omega, h.symm, ht.symm, rfl⟩
  · rintro ⟨i, hi, rfl, rfl, rfl⟩
    have : i = 0 := by omega
    subst this
    exact ⟨h, ht, rfl⟩
theorem s_run {S : ST} {X : Nat → Nat → Int32} {m num : Nat} {lst : Prop} {i1865 : Int32} {post : Int32 → (Nat → Int32) → (Nat → Int32) → (Nat → Int32) → (Nat → Int32) → (Nat → Int32) → (Nat → Int32) → (Nat → Int64) → (Nat → Int64) → Int32 → Int32 → Int32 → Int32 → Int32 → Int32 → Int32 → Int32 → Int32 → Int32 → Int32 → Int32 → Int32 → Int32 → Prop}
    (hG : Gd X m) (hS : GalS X m S) (hn1 : 1 ≤ num) (hn3 : num ≤ 3) (hL : (i1865 = 0 ∧ ¬ lst) ∨ (i1865 = 1 ∧ lst))
    (hF : FullN (runN X m (moX X num) (toX X num) lst (1 < num) (m + 3)).1 → ∀ (a32 a33 a34 a35 a39 a40 : Nat → Int32) (l36 l38 : Nat → Int64) (i1862 i1863 i1864 i1865 i1922 i1923 i1924 i1925 i1926 i1927 i1928 i1989 i2370 i2371 : Int32), post (-2) a32 a33 a34 a35 a39 a40 l36 l38 i1862 i1863 i1864 i1865 i1922 i1923 i1924 i1925 i1926 i1927 i1928 i1989 i2370 i2371)
    (h1 : ∀ (c n ac : Nat) (b : Nat → Nat) (a32 a33 a34 a35 a39 a40 : Nat → Int32) (l36 l38 : Nat → Int64) (i1862 i1863 i1923 i1924 i1925 i1926 i1927 i1928 i1989 i2370 i2371 : Int32), CVv X m (moX X num) (toX X num) (m + 3) n ac b (runN X m (moX X num) (toX X num) lst (1 < num) (m + 3)).1 (runN X m (moX X num) (toX X num) lst (1 < num) (m + 3)).2 a32 a33 a34 a35 a39 a40 l36 i1862 i1923 i1924 i1925 i1926 i1927 i1928 i1989 i2370 i2371 → 0 < c → c < n → Cho X lst (runN X m (moX X num) (toX X num) lst (1 < num) (m + 3)).1 m (keyA a32 a33 a34 c) → post (nI c) a32 a33 a34 a35 a39 a40 l36 l38 i1862 i1863 (toX X num) i1865 (moX X num) i1923 i1924 i1925 i1926 i1927 i1928 i1989 i2370 i2371)
    (h0 : ∀ (n ac : Nat) (b : Nat → Nat) (a32 a33 a34 a35 a39 a40 : Nat → Int32) (l36 l38 : Nat → Int64) (i1862 i1863 i1923 i1924 i1925 i1926 i1927 i1928 i1989 i2370 i2371 : Int32), CVv X m (moX X num) (toX X num) (m + 3) n ac b (runN X m (moX X num) (toX X num) lst (1 < num) (m + 3)).1 (runN X m (moX X num) (toX X num) lst (1 < num) (m + 3)).2 a32 a33 a34 a35 a39 a40 l36 i1862 i1923 i1924 i1925 i1926 i1927 i1928 i1989 i2370 i2371 → (∀ k, ¬ Cho X lst (runN X m (moX X num) (toX X num) lst (1 < num) (m + 3)).1 m k) → post 0 a32 a33 a34 a35 a39 a40 l36 l38 i1862 i1863 (toX X num) i1865 (moX X num) i1923 i1924 i1925 i1926 i1927 i1928 i1989 i2370 i2371) : wp_Se_run S (nI num) i1865 post := by
  have hm := hG.1
  have mb := mo_bd (num := num) hG
  have h12 := hS.2.2.2.2.2.2.2.2.2.2.1
  have hI0 := run_inv (more := moX X num) (tol := toX X num) (lst := lst) (hyp := 1 < num) hG 0 (by omega)
  have p0 : vp_in 0 8001 := by unfold vp_in; decide
  have c0 : (0 : Int32).toNatClampNeg = 0 := rfl
  have main : wl_Se_run_50 S post (toX X num) i1865 (nI num) (moX X num) := by
    unfold wl_Se_run_50 wp_Gu_start wp_No_start wp_Of_start wp_Ar_fill
    rw [c0]
    refine ⟨p0, fun f1 e1 => ⟨p0, fun f2 e2 => ⟨p0, fun f3 e3 => ⟨p0, fun f4 e4 => ⟨p0, fun f5 e5 => ⟨1609, s_fill (fun f9 h9 => ⟨p0, fun f12 e12 => ⟨m + 4, s_run_l hG hS mb.1 mb.2 ?_ hL hF (fun n ac b a32 a33 a34 a35 a39 a40 l36 l38 i1862 i1863 i1923 i1924 i1925 i1926 i1927 i1928 i1989 i2370 i2371 hC hfp => ?_) (m + 4) 0 1 1 (fun _ => 0) f1 f2 f3 f4 f9 f12 f5 _ _ _ _ _ _ _ _ _ _ _ _ (by omega) (by omega) ?_ (fun h => absurd h (by omega))⟩⟩) 1609 0 _ (by omega) (by omega) (fun s hs => absurd hs (Nat.not_lt_zero s))⟩⟩⟩⟩⟩⟩
    · by_cases z : num = 1
      · subst z; exact Or.inl ⟨by decide, by omega⟩
      · refine Or.inr ⟨fun y => ?_, by omega⟩
        have := (nI_leI (b := 1) (by omega) (by omega)).mp y
        omega
    · unfold wl_Se_run_137
      exact s_choose (S := stR S a32 a33 a34 a35 a39 a40 l36 l38 i1862 i1863 (toX X num) i1865 (moX X num) i1923 i1924 i1925 i1926 i1927 i1928 i1989 i2370 i2371) hG (stR_gal hS) hL hC hfp (fun c a d e => h1 c n ac b a32 a33 a34 a35 a39 a40 l36 l38 i1862 i1863 i1923 i1924 i1925 i1926 i1927 i1928 i1989 i2370 i2371 hC a d e) (fun e => h0 n ac b a32 a33 a34 a35 a39 a40 l36 l38 i1862 i1863 i1923 i1924 i1925 i1926 i1927 i1928 i1989 i2370 i2371 hC e)
    · have hk : keyA f1 f2 f3 0 = root := by
        unfold keyA
        rw [e1, e2, e3, pk_us, pk_us, pk_us]
        rfl
      refine ⟨rfl, rep_0 hk (by rw [e5, pk_uLs]), rfl, fun y hy => ?_, ⟨fun x y h1 h2 => by omega, fun x _ => Nat.zero_lt_one⟩, fun k => ⟨fun h => ⟨0, by omega, (show k = root from h).trans hk.symm⟩, ?_⟩, fun i j h1 h2 => by omega, h9, rfl, rfl, hI0, Or.inl rfl⟩
      · have : y = 0 := by omega
        subst this
        rw [e12, pk_us]
        rfl
      · rintro ⟨y, hy, rfl⟩
        exact hk
  have p8 : vp_in 8 10 := in810
  have step : ∀ z2 : Int32, vp_in z2 10 → S.1 12 z2.toNatClampNeg = toX X num → wl_Se_run_18 S post (nI num) i1865 z2 := by
    intro z2 hz e
    unfold wl_Se_run_18
    refine ⟨hz, fun v1 e1 => ⟨?_, fun y => ?_, fun y => ⟨p8, ?_⟩⟩⟩
    · rcases hL with ⟨h, -⟩ | ⟨h, -⟩
      · exact Or.inl h
      · exact Or.inr h
    · have n3 : ¬ num = 3 := fun h => y (by rw [h]; rfl)
      have := main
      unfold moX at this
      rw [if_neg n3] at this
      rw [e1, e]
      exact this
    · have n3 : num = 3 := (nI_eq (b := 3) (by omega) (by omega)).mp y
      have := main
      unfold moX at this
      rw [if_pos n3] at this
      rw [e1, e, show (8 : Int32).toNatClampNeg = 8 from rfl, h12 8 (by omega)]
      exact this
  unfold wp_Se_run
  refine ⟨fun y => step 1 (by unfold vp_in; decide) ?_, fun y => step 0 in010 ?_⟩
  · have n1 : ¬ num = 1 := fun h => y (by rw [h]; rfl)
    unfold toX
    rw [if_neg n1]
    exact h12 1 (by omega)
  · have n1 : num = 1 := (nI_eq (b := 1) (by omega) (by omega)).mp y
    unfold toX
    rw [if_pos n1]
    exact h12 0 (by omega)
