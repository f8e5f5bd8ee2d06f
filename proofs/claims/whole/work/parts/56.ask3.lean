/-! the reference's ask: its loop -/
def RV (X : Nat → Nat → Int32) (m : Nat) (more tol : Int32) (num e n : Nat) (N : KEY → Int64 → KEY → Prop) (A : KEY → Prop) (T : ST) : Prop :=
  agr X m T ∧ T.2.2 19 = more ∧ T.2.2 18 = tol ∧ T.2.2 16 = nI num ∧ T.2.2 20 = nI (n - 1) ∧ Rep (T.1 15) (T.1 16) (T.1 17) (T.1 19) (T.2.1 18) n N ∧ (∀ k, A k ↔ ∃ y, y < n ∧ T.1 20 y = 0 ∧ k = keyA (T.1 15) (T.1 16) (T.1 17) y) ∧ InvN m e N A
theorem s_ask_l {T : ST} {X : Nat → Nat → Int32} {m num e n : Nat} {more tol : Int32} {lst : Prop} {N : KEY → Int64 → KEY → Prop} {A : KEY → Prop} {x3 : Int32} {post : Int32 → (Nat → Int32) → (Nat → Int32) → (Nat → Int32) → (Nat → Int32) → (Nat → Int32) → (Nat → Int32) → (Nat → Int64) → Int32 → Int32 → Int32 → Int32 → Int32 → Int32 → Int32 → Prop}
    (hG : Gd X m) (hV : RV X m more tol num e n N A T) (he : e < m + 3) (hm0 : 0 ≤ more.toInt) (hm1 : more.toInt ≤ (X 9 8).toInt) (hx3 : (x3 = 0 ∧ ¬ fineX X e = -10000) ∨ (x3 = 1 ∧ fineX X e = -10000)) (hn3 : num ≤ 3) (hlst : lst ↔ num = (if 0 < (X 9 8).toInt then 3 else 2))
    (hF : FullN (N2 X m more tol lst e N A) → ∀ (a15 a16 a17 a19 a20 a21 : Nat → Int32) (l18 : Nat → Int64) (i20 i27 i28 i30 i31 i32 i33 : Int32), post 0 a15 a16 a17 a19 a20 a21 l18 i20 i27 i28 i30 i31 i32 i33)
    (hK : ∀ (c : Nat) (a15 a16 a17 a19 a20 a21 : Nat → Int32) (l18 : Nat → Int64) (i27 i28 i30 i31 i32 i33 : Int32), Rep a15 a16 a17 a19 l18 c (N2 X m more tol lst e N A) → (∀ k, ((A k ∧ ¬ dies X m more k e) ∨ ∃ t g, newN X m more tol lst N A e k t g) ↔ ∃ y, y < c ∧ a20 y = 0 ∧ k = keyA a15 a16 a17 y) → post 1 a15 a16 a17 a19 a20 a21 l18 (nI (c - 1)) i27 i28 i30 i31 i32 i33) :
    ∀ (q v c al en : Nat) (a15 a16 a17 a19 a20 a21 : Nat → Int32) (l18 : Nat → Int64) (i27 i28 i30 i31 i32 i33 x6 x7 : Int32), v ≤ n → n < v + q → AIa X m more tol T e n v c a15 a16 a17 a19 a20 l18 → AId X m more T e n v a20 → cntI X m more T e v al en → someI X m more tol T e v x7 → yetI X m more T e v x6 →
      wl_Mo_ask_39 T post q a15 a16 a17 a19 a20 a21 l18 (nI (c - 1)) i27 i28 i30 i31 i32 i33 (nI e) (nI n) x3 (nI al) (nI en) x6 x7 (nI v) := by
  have hm := hG.1
  obtain ⟨hAg, hM, hTol, hNum, h20, hR, hA, hI⟩ := hV
  have hn8 := hR.2.2.2.2.1
  have n0 := hR.2.2.2.1
  have h9 := hAg.1 9 (by omega) (by omega)
  have ok : ∀ y, y < n → okK m e (keyA (T.1 15) (T.1 16) (T.1 17) y) := fun y hy => hI.1 _ _ _ ((hR.1 _ _ _).mpr ⟨y, hy, rfl, rfl, rfl⟩)
  intro q
  induction q with
  | zero => intro v c al en _ _ _ _ _ _ _ _ _ _ _ _ _ _ _ h1 h2; omega
  | succ q ih =>
    intro v c al en a15 a16 a17 a19 a20 a21 l18 i27 i28 i30 i31 i32 i33 x6 x7 hv hq hAI hAd hcn hso hye
    have hAI' := hAI
    obtain ⟨g1, g2, g3, g4, g5, g6⟩ := hAI'
    have hcn' := hcn
    obtain ⟨n1, n2, n3, n4⟩ := hcn'
    unfold wl_Mo_ask_39
    refine ⟨fun z => ?_, fun z => ?_⟩
    · -- the end
      have hvn : v = n := by
        have := (nI_leI (by omega) (by omega)).mp z
        omega
      subst hvn
      obtain ⟨k1, k2, k3, k4, k5⟩ := AI_keys (lst := lst) (by omega) hR hA hI (by omega) hAI
      have d1 : ∀ i, i < v → (a20 i = 0 ↔ (T.1 20 i = 0 ∧ ¬ dies X m more (keyA (T.1 15) (T.1 16) (T.1 17) i) e)) := fun i hi => (hAd i hi).1 hi
      have done : ((∃ y sl sf t, y < v ∧ OffR X m more tol T e y sl sf t) ∨ ¬ lst ∨ ¬ (∀ g', A g' → dies X m more g' e) ∨ ∀ k, ¬ A k) → post 1 a15 a16 a17 a19 a20 a21 l18 (nI (c - 1)) i27 i28 i30 i31 i32 i33 := by
        intro h
        have rep := AI_rep (by omega) hR hA hI hAI h
        exact hK c a15 a16 a17 a19 a20 a21 l18 i27 i28 i30 i31 i32 i33 rep (AI_alive (by omega) hR hA hI rep g1 k1 k3 d1 (fun i a b => (g4 i a b).2.1))
      have w237 : ∀ z0 : Int32, ((z0 = 0 ∧ ¬ lst) ∨ (z0 = 1 ∧ lst)) → wl_Mo_ask_237 T post a15 a16 a17 a19 a20 a21 l18 (nI (c - 1)) i27 i28 i30 i31 i32 i33 (nI e) (nI al) (nI en) x6 x7 z0 := by
        intro z0 hz0
        unfold wl_Mo_ask_237
        refine ⟨fun y => done (Or.inr (Or.inl ?_)), fun y => ⟨fun y2 => done (Or.inl ?_), fun y2 => ⟨fun y3 => done (Or.inr (Or.inr (Or.inr ?_))), fun y3 => ⟨fun y4 => done (Or.inr (Or.inr (Or.inl ?_))), fun y4 => ?_⟩⟩⟩⟩
        · rcases hz0 with ⟨-, h⟩ | ⟨h, -⟩
          · exact h
          · rw [h] at y; exact absurd y (by decide)
        · rcases hso with ⟨h, -⟩ | ⟨-, h⟩
          · exact absurd h y2
          · exact h
        · have : al ≤ 0 := (nI_leI (b := 0) (by omega) (by omega)).mp y3
          intro k hk
          obtain ⟨y', hy', ha', -⟩ := (hA k).mp hk
          have := n4.mp ⟨y', hy', ha'⟩
          omega
        · have hne : en < al := by
            have : al ≠ en := fun w => y4 (by rw [w])
            omega
          obtain ⟨y', hy', ha', hd'⟩ := n3.mpr hne
          exact fun h => hd' (h _ ((hA _).mpr ⟨y', hy', ha', rfl⟩))
        · -- the rescue
          have hl : lst := by
            rcases hz0 with ⟨h, -⟩ | ⟨-, h⟩
            · exact absurd h y
            · exact h
          have noff : ∀ y sl sf t, y < v → ¬ OffR X m more tol T e y sl sf t := by
            rcases hso with ⟨-, h⟩ | ⟨h, -⟩
            · exact h
            · rw [h] at y2; exact absurd y2 (by decide)
          have hal : 0 < al := by
            rcases Nat.eq_zero_or_pos al with w | w
            · subst w; exact absurd (by decide) y3
            · exact w
          have hen : al = en := (nI_eq (by omega) (by omega)).mp y4
          have hall : ∀ g', A g' → dies X m more g' e := by
            intro g' hg'
            obtain ⟨y', hy', ha', rfl⟩ := (hA g').mp hg'
            exact Classical.byContradiction fun w => by
              have := n3.mp ⟨y', hy', ha', w⟩
              omega
          have hcv : c = v := by
            by_cases w : c = v
            · exact w
            · obtain ⟨-, -, y', h1, -, h2, -⟩ := g4 v (by omega) (by omega)
              exact absurd h2 (noff _ _ _ _ h1)
          subst hcv
          rcases hye with ⟨-, h⟩ | ⟨yy, h1, h2, h3, h4, h5⟩
          · obtain ⟨y', hy', ha'⟩ := n4.mpr hal
            exact absurd (hall _ ((hA _).mpr ⟨y', hy', ha', rfl⟩)) (h y' hy' ha')
          subst h2
          have ay : A (keyA (T.1 15) (T.1 16) (T.1 17) yy) := (hA _).mpr ⟨yy, h1, h3, rfl⟩
          have hlast : ∀ g', A g' → g'.2.1.toInt < (keyA (T.1 15) (T.1 16) (T.1 17) yy).2.1.toInt ∨ (g'.2.1.toInt = (keyA (T.1 15) (T.1 16) (T.1 17) yy).2.1.toInt ∧ tie (keyA (T.1 15) (T.1 16) (T.1 17) yy) g') := by
            intro g' ag
            obtain ⟨y', hy', ha', rfl⟩ := (hA g').mp ag
            exact h5 y' hy' ha' (hall _ ag)
          have nooff : ∀ g' t' l f, ¬ Off X m more tol N A e g' t' l f := by
            intro g' t' l f ho
            obtain ⟨y', hy', -, ho'⟩ := (off_R hR hA).mp ho
            exact noff y' _ _ _ hy' ho'
          have hnew : newN X m more tol lst N A e (nI e, T.1 16 yy + 1, ftX X m more (keyA (T.1 15) (T.1 16) (T.1 17) yy) e) (T.2.1 18 yy) (keyA (T.1 15) (T.1 16) (T.1 17) yy) := ⟨rfl, Or.inr ⟨hl, nooff, hall, ay, rfl, rfl, ⟨_, (hR.1 _ _ _).mpr ⟨yy, h1, rfl, rfl, rfl⟩⟩, hlast⟩⟩
          have huniq : ∀ k t g', newN X m more tol lst N A e k t g' → k = (nI e, T.1 16 yy + 1, ftX X m more (keyA (T.1 15) (T.1 16) (T.1 17) yy) e) := by
            rintro k t g' ⟨w0, ⟨o, -⟩ | ⟨w1, w2, w3, w4, w5, w6, w7, w8⟩⟩
            · exact absurd o (nooff _ _ _ _)
            · have c1 := hlast g' w4
              have c2 := w8 _ ay
              have el : g'.2.1 = (keyA (T.1 15) (T.1 16) (T.1 17) yy).2.1 := by rw [i_eq]; omega
              have t1 : tie g' (keyA (T.1 15) (T.1 16) (T.1 17) yy) := by rcases c2 with z | z; (rw [el] at z; omega); exact z.2
              have t2 : tie (keyA (T.1 15) (T.1 16) (T.1 17) yy) g' := by rcases c1 with z | z; (rw [el] at z; omega); exact z.2
              have eg := tie_eq t1 t2 el
              subst eg
              exact Prod.ext w0 (Prod.ext w5 w6)
          have py : vp_in (nI yy) 8001 := vp_in_nI (by omega) (by omega)
          refine ⟨fun y5 => ⟨py, ?_⟩, fun y5 => hF ?_ _ _ _ _ _ _ _ _ _ _ _ _ _ _⟩
          · have hc8 : c ≤ 8000 := by
              by_cases w : c = 8001
              · subst w; exact absurd rfl y5
              · omega
            obtain ⟨q15, q16, q17, q19, q18⟩ := g3 yy h1
            rw [nI_clamp (by omega), q15, q16, q18]
            refine s_Mline2 (k := (keyA (T.1 15) (T.1 16) (T.1 17) yy)) hG hAg hM hm0 hm1 he (ok yy h1) py (fun f v28 v30 v8 e8 => ⟨py, ?_⟩)
            have ev8 : v8 = nI c := by
              rw [e8, nI_1]
              congr 1
              omega
            subst ev8
            refine s_Mwrite (by omega) (by omega) ?_
            show post 1 (upd a15 c (nI e)) (upd a16 c (a16 yy + 1)) (upd a17 c (ftX X m more (keyA (T.1 15) (T.1 16) (T.1 17) yy) e)) (upd a19 c (nI yy)) (upd a20 c 0) f (vp_updL l18 c (T.2.1 18 yy)) (nI c) _ _ _ _ _ _
            rw [q16]
            have kk1 : ∀ i, i < c → keyA (upd a15 c (nI e)) (upd a16 c (T.1 16 yy + 1)) (upd a17 c (ftX X m more (keyA (T.1 15) (T.1 16) (T.1 17) yy) e)) i = (keyA (T.1 15) (T.1 16) (T.1 17) i) := by
              intro i hi
              rw [← k1 i hi]
              unfold keyA
              rw [pk_un (by omega), pk_un (by omega), pk_un (by omega)]
            have kk2 : keyA (upd a15 c (nI e)) (upd a16 c (T.1 16 yy + 1)) (upd a17 c (ftX X m more (keyA (T.1 15) (T.1 16) (T.1 17) yy) e)) c = (nI e, T.1 16 yy + 1, ftX X m more (keyA (T.1 15) (T.1 16) (T.1 17) yy) e) := by
              unfold keyA
              rw [pk_us, pk_us, pk_us]
            have ff : ∀ i, i < c → fmK (upd a15 c (nI e)) (upd a16 c (T.1 16 yy + 1)) (upd a17 c (ftX X m more (keyA (T.1 15) (T.1 16) (T.1 17) yy) e)) (upd a19 c (nI yy)) i = fmK (T.1 15) (T.1 16) (T.1 17) (T.1 19) i := by
              intro i hi
              unfold fmK
              by_cases w : i = 0
              · rw [if_pos w, if_pos w]
              · rw [if_neg w, if_neg w, pk_un (by omega), (g3 i hi).2.2.2.1]
                obtain ⟨j, hj, ej⟩ := hR.2.2.1 i (by omega) hi
                rw [ej, nI_clamp (by omega)]
                exact kk1 j hj
            have ffc : fmK (upd a15 c (nI e)) (upd a16 c (T.1 16 yy + 1)) (upd a17 c (ftX X m more (keyA (T.1 15) (T.1 16) (T.1 17) yy) e)) (upd a19 c (nI yy)) c = (keyA (T.1 15) (T.1 16) (T.1 17) yy) := by
              unfold fmK
              rw [if_neg (by omega), pk_us, nI_clamp (by omega)]
              exact kk1 yy h1
            have rep : Rep (upd a15 c (nI e)) (upd a16 c (T.1 16 yy + 1)) (upd a17 c (ftX X m more (keyA (T.1 15) (T.1 16) (T.1 17) yy) e)) (upd a19 c (nI yy)) (vp_updL l18 c (T.2.1 18 yy)) (c + 1) (N2 X m more tol lst e N A) := by
              refine ⟨fun k t' g => ⟨?_, ?_⟩, fun i j hi hj ee => ?_, fun i hi hc => ?_, by omega, by omega, by rw [kk1 0 n0]; exact hR.2.2.2.2.2⟩
              · rintro (w | w)
                · obtain ⟨i, a, b, d, r⟩ := (hR.1 _ _ _).mp w
                  exact ⟨i, by omega, by rw [kk1 i a]; exact b, by rw [pk_uLn (by omega), (g3 i a).2.2.2.2]; exact d, by rw [ff i a]; exact r⟩
                · have ek := huniq k t' g w
                  subst ek
                  obtain ⟨u1, u2⟩ := newN_fun hI.2.2.1 w hnew
                  exact ⟨c, by omega, kk2.symm, by rw [pk_uLs]; exact u1, by rw [ffc]; exact u2⟩
              · rintro ⟨i, a, rfl, rfl, rfl⟩
                by_cases w : i = c
                · subst w
                  rw [kk2, pk_uLs, ffc]
                  exact Or.inr hnew
                · refine Or.inl ((hR.1 _ _ _).mpr ⟨i, by omega, kk1 i (by omega), ?_, ff i (by omega)⟩)
                  rw [pk_uLn w]
                  exact (g3 i (by omega)).2.2.2.2
              · by_cases w : i = c <;> by_cases u : j = c
                · omega
                · subst w
                  rw [kk2, kk1 j (by omega)] at ee
                  exact absurd (congrArg Prod.fst ee).symm (old_pl (by omega) hI ((hR.1 _ _ _).mpr ⟨j, by omega, rfl, rfl, rfl⟩))
                · subst u
                  rw [kk2, kk1 i (by omega)] at ee
                  exact absurd (congrArg Prod.fst ee) (old_pl (by omega) hI ((hR.1 _ _ _).mpr ⟨i, by omega, rfl, rfl, rfl⟩))
                · rw [kk1 i (by omega), kk1 j (by omega)] at ee
                  exact hR.2.1 i j (by omega) (by omega) ee
              · by_cases w : i = c
                · subst w
                  exact ⟨yy, by omega, pk_us⟩
                · obtain ⟨j, hj, ej⟩ := hR.2.2.1 i hi (by omega)
                  refine ⟨j, by omega, ?_⟩
                  rw [pk_un w, (g3 i (by omega)).2.2.2.1]
                  exact ej
            have := hK (c + 1) _ _ _ _ (upd a20 c 0) f _ (nI (fsX X (m + 2) (keyA (T.1 15) (T.1 16) (T.1 17) yy).1)) v28 v30 (sfX X m more (keyA (T.1 15) (T.1 16) (T.1 17) yy) e) (bdX X m more (keyA (T.1 15) (T.1 16) (T.1 17) yy) e) (ftX X m more (keyA (T.1 15) (T.1 16) (T.1 17) yy) e) rep (AI_alive (by omega) hR hA hI rep (by omega) kk1 (fun i a b => by rw [show i = c by omega]; exact pk_us) (fun i hi => by rw [pk_un (by omega)]; exact d1 i hi) (fun i a b => by rw [show i = c by omega]; exact pk_us))
            exact this
          · have hc8 : c = 8001 := by
              have := (nI_eq (b := 8000) (by omega) (by omega)).mp y5
              omega
            subst hc8
            refine full_of k4 k5 (Or.inr hnew) (fun i hi ee => ?_)
            rw [k1 i hi] at ee
            exact absurd (congrArg Prod.fst ee) (old_pl (by omega) hI ((hR.1 _ _ _).mpr ⟨i, hi, rfl, rfl, rfl⟩))
      have w229 : ∀ z1 : Nat, z1 = (if 0 < (X 9 8).toInt then 3 else 2) → wl_Mo_ask_229 T post a15 a16 a17 a19 a20 a21 l18 (nI (c - 1)) i27 i28 i30 i31 i32 i33 (nI e) (nI al) (nI en) x6 x7 (T.2.2 16) (nI z1) := by
        intro z1 hz1
        have hz3 : z1 ≤ 3 := by rw [hz1]; split <;> omega
        unfold wl_Mo_ask_229
        rw [hNum]
        refine ⟨fun y => w237 0 (Or.inl ⟨rfl, fun h => y ?_⟩), fun y => w237 1 (Or.inr ⟨rfl, hlst.mpr ?_⟩)⟩
        · rw [hlst.mp h, hz1]
        · rw [← hz1]; exact (nI_eq (by omega) (by omega)).mp y
      rw [h9, show (8 : Int32).toNatClampNeg = 8 from rfl, i_le, show (0 : Int32).toInt = 0 from rfl]
      exact ⟨in810, fun y => w229 2 (by rw [if_neg (by omega)]), fun y => w229 3 (by rw [if_pos (by omega)])⟩
    · -- one node
      have hvn : v < n := by
        rcases Nat.lt_or_ge v n with u | u
        · exact u
        · exact absurd ((nI_leI (by omega) (by omega)).mpr u) z
      have pv : vp_in (nI v) 8001 := vp_in_nI (by omega) (by omega)
      obtain ⟨q15, q16, q17, q19, q18⟩ := g3 v hvn
      have e20 : a20 v = T.1 20 v := (hAd v hvn).2 (by omega)
      rw [nI_clamp (by omega), e20]
      refine ⟨pv, fun y v1 e1 => ?_, fun y => ⟨pv, ?_⟩⟩
      · -- dead
        rw [e1, nI_1]
        have no : ∀ sl sf t, ¬ OffR X m more tol T e v sl sf t := fun sl sf t h => y h.1
        refine ih (v + 1) c al en a15 a16 a17 a19 a20 a21 l18 i27 i28 i30 i31 i32 i33 x6 x7 (by omega) (by omega) (AI_skip hAI no) (fun i hi => ⟨fun hi2 => ?_, fun hi2 => (hAd i hi).2 (by omega)⟩) (cnt_dead hcn y) (some_skip hso no) (yet_skip hye fun h => y h.1)
        by_cases w : i = v
        · subst w
          rw [e20]
          exact ⟨fun h => absurd h y, fun h => absurd h.1 y⟩
        · exact (hAd i hi).1 (by omega)
      · rw [q15, q16]
        have ask108 : ∀ (c' : Nat) (b15 b16 b17 b19 b20 b21 : Nat → Int32) (k18 : Nat → Int64) (x7' j28 j30 : Int32), AIa X m more tol T e n (v + 1) c' b15 b16 b17 b19 b20 k18 → (∀ i, i < n → b20 i = a20 i) → someI X m more tol T e (v + 1) x7' → wl_Mo_ask_108 T post (fun a15 a16 a17 a19 a20 a21 l18 i20 i27 i28 i30 i31 i32 i33 x1 x2 x3 x4 x5 x6 x7 x8 => wl_Mo_ask_39 T post q a15 a16 a17 a19 a20 a21 l18 i20 i27 i28 i30 i31 i32 i33 x1 x2 x3 x4 x5 x6 x7 x8) b15 b16 b17 b19 b20 b21 k18 (nI (c' - 1)) (nI (fsX X (m + 2) (keyA (T.1 15) (T.1 16) (T.1 17) v).1)) j28 j30 (sfX X m more (keyA (T.1 15) (T.1 16) (T.1 17) v) e) (bdX X m more (keyA (T.1 15) (T.1 16) (T.1 17) v) e) (ftX X m more (keyA (T.1 15) (T.1 16) (T.1 17) v) e) (nI e) (nI n) x3 (nI (al + 1)) (nI en) x6 x7' (nI v) := by
          intro c' b15 b16 b17 b19 b20 b21 k18 x7' j28 j30 hAI2 hb20 hso2
          have hAI2' := hAI2
          obtain ⟨r1, r2, r3, r4, r5, r6⟩ := hAI2'
          have die : dies X m more (keyA (T.1 15) (T.1 16) (T.1 17) v) e → wl_Mo_ask_122 T post (fun a15 a16 a17 a19 a20 a21 l18 i20 i27 i28 i30 i31 i32 i33 x1 x2 x3 x4 x5 x6 x7 x8 => wl_Mo_ask_39 T post q a15 a16 a17 a19 a20 a21 l18 i20 i27 i28 i30 i31 i32 i33 x1 x2 x3 x4 x5 x6 x7 x8) b15 b16 b17 b19 b20 b21 k18 (nI (c' - 1)) (nI (fsX X (m + 2) (keyA (T.1 15) (T.1 16) (T.1 17) v).1)) j28 j30 (sfX X m more (keyA (T.1 15) (T.1 16) (T.1 17) v) e) (bdX X m more (keyA (T.1 15) (T.1 16) (T.1 17) v) e) (ftX X m more (keyA (T.1 15) (T.1 16) (T.1 17) v) e) (nI e) (nI n) x3 (nI (al + 1)) (nI en) x6 x7' (nI v) := by
            intro hd
            have fin : ∀ x6' : Int32, yetI X m more T e (v + 1) x6' → wl_Mo_ask_194 T post (fun a15 a16 a17 a19 a20 a21 l18 i20 i27 i28 i30 i31 i32 i33 x1 x2 x3 x4 x5 x6 x7 x8 => wl_Mo_ask_39 T post q a15 a16 a17 a19 a20 a21 l18 i20 i27 i28 i30 i31 i32 i33 x1 x2 x3 x4 x5 x6 x7 x8) b15 b16 b17 b19 b20 b21 k18 (nI (c' - 1)) (nI (fsX X (m + 2) (keyA (T.1 15) (T.1 16) (T.1 17) v).1)) j28 j30 (sfX X m more (keyA (T.1 15) (T.1 16) (T.1 17) v) e) (bdX X m more (keyA (T.1 15) (T.1 16) (T.1 17) v) e) (ftX X m more (keyA (T.1 15) (T.1 16) (T.1 17) v) e) (nI e) (nI n) x3 (nI (al + 1)) (nI (en + 1)) x7' (nI v) x6' := by
              intro x6' hy'
              unfold wl_Mo_ask_194
              rw [nI_clamp (by omega)]
              refine ⟨pv, fun f1 e1 v2 e2 => ?_⟩
              rw [e2, nI_1]
              refine ih (v + 1) c' (al + 1) (en + 1) b15 b16 b17 b19 f1 b21 k18 _ _ _ _ _ _ x6' x7' (by omega) (by omega) ⟨r1, r2, r3, fun i a b => ?_, r5, r6⟩ (fun i hi => ⟨fun hi2 => ?_, fun hi2 => ?_⟩) (cnt_die hcn y hd) hso2 hy'
              · rw [e1, pk_un (by omega)]
                exact r4 i a b
              · rw [e1]
                by_cases w : i = v
                · subst w
                  rw [pk_us, nar1]
                  exact ⟨fun h => absurd h (by decide), fun h => absurd hd h.2⟩
                · rw [pk_un w, hb20 i hi]
                  exact (hAd i hi).1 (by omega)
              · rw [e1, pk_un (by omega), hb20 i hi]
                exact (hAd i hi).2 (by omega)
            have better : (x6 = -1 ∨ ∃ y, y < v ∧ x6 = nI y ∧ ((T.1 16 y).toInt < (T.1 16 v).toInt ∨ ((T.1 16 y).toInt = (T.1 16 v).toInt ∧ bef2 (keyA (T.1 15) (T.1 16) (T.1 17) v) (keyA (T.1 15) (T.1 16) (T.1 17) y)))) → yetI X m more T e (v + 1) (nI v) := by
              intro hb
              refine Or.inr ⟨v, by omega, rfl, y, hd, fun y' hy' ha' hd' => ?_⟩
              by_cases w : y' = v
              · subst w; exact Or.inr ⟨rfl, tie_refl _⟩
              · rcases hye with ⟨h1, h2⟩ | ⟨y0, h1, h2, h3, h4, h5⟩
                · exact absurd hd' (h2 y' (by omega) ha')
                · have h6 := h5 y' (by omega) ha' hd'
                  rcases hb with hb | ⟨y2, hb1, hb2, hb3⟩
                  · rw [h2] at hb
                    exact absurd hb (nI_m1 (by omega))
                  · have ey : y0 = y2 := (nI_eq (by omega) (by omega)).mp (h2.symm.trans hb2)
                    subst ey
                    rcases hb3 with hb3 | ⟨hb3, hb4⟩
                    · exact Or.inl (by omega)
                    · rcases h6 with h6 | ⟨h6, h7⟩
                      · exact Or.inl (by omega)
                      · exact Or.inr ⟨by omega, tie_trans (bef2_tie hb4) h7⟩
            have stay : ∀ y0 : Nat, y0 < v → x6 = nI y0 → ¬ ((T.1 16 y0).toInt < (T.1 16 v).toInt ∨ ((T.1 16 y0).toInt = (T.1 16 v).toInt ∧ bef2 (keyA (T.1 15) (T.1 16) (T.1 17) v) (keyA (T.1 15) (T.1 16) (T.1 17) y0))) → yetI X m more T e (v + 1) x6 := by
              intro y0 hy0 hx6 hno
              rcases hye with ⟨h1, h2⟩ | ⟨y1, h1, h2, h3, h4, h5⟩
              · rw [h1] at hx6
                exact absurd hx6.symm (nI_m1 (by omega))
              · have ey : y1 = y0 := (nI_eq (by omega) (by omega)).mp (h2.symm.trans hx6)
                subst ey
                refine Or.inr ⟨y1, by omega, h2, h3, h4, fun y' hy' ha' hd' => ?_⟩
                by_cases w : y' = v
                · subst w
                  by_cases u : (T.1 16 y1).toInt = (T.1 16 y').toInt
                  · exact Or.inr ⟨u.symm, not_bef2.mp fun t => hno (Or.inr ⟨u, t⟩)⟩
                  · exact Or.inl (by have : ¬ (T.1 16 y1).toInt < (T.1 16 y').toInt := fun t => hno (Or.inl t); omega)
                · exact h5 y' (by omega) ha' hd'
            unfold wl_Mo_ask_122
            intro v1 e1
            rw [nI_1] at e1
            subst e1
            have l0 : (0 : Int32).toInt = 0 := rfl
            unfold wl_Mo_ask_175 wl_Mo_ask_179 wl_Mo_ask_180
            rcases id hye with ⟨h1, h2⟩ | ⟨y0, h1, h2, h3, h4, h5⟩
            · refine ⟨fun _ => ⟨fun w => absurd w (by decide), fun _ => fin (nI v) (better (Or.inl h1))⟩, fun w => absurd (by rw [h1]; decide) w⟩
            · have nl : ¬ x6 < 0 := by
                rw [h2, i_lt, nI_toInt (by omega), l0]
                omega
              have cy : x6.toNatClampNeg = y0 := by rw [h2]; exact nI_clamp (by omega)
              have py : vp_in x6 8001 := by rw [h2]; exact vp_in_nI (by omega) (by omega)
              have b16v : b16 v = T.1 16 v := (r3 v hvn).2.1
              have b16y : b16 y0 = T.1 16 y0 := (r3 y0 (by omega)).2.1
              have go : ¬ x6 < 0 → _ := fun (_ : ¬ x6 < 0) => better
              rw [cy, nI_clamp (by omega), b16v, b16y]
              have bt := fun h => better (Or.inr ⟨y0, h1, h2, h⟩)
              have stt := stay y0 h1 h2
              refine ⟨fun w => absurd w nl, fun _ => ⟨pv, py, fun w => ⟨fun u => absurd u (by decide), fun _ => fin (nI v) (bt (Or.inl (i_lt.mp w)))⟩, fun w => ⟨pv, py, fun w2 => ⟨fun _ => fin x6 (stt ?_), fun u => absurd rfl u⟩, fun w2 => ?_⟩⟩⟩
              · rintro (u | ⟨u, -⟩)
                · exact w (i_lt.mpr u)
                · exact w2 (i_eq.mpr u.symm)
              · have fin' := fun h => fin x6 (stt h)
                rw [h2] at fin' ⊢
                refine s_Mbefore (by omega) (by omega) (fun w3 => ⟨fun u => absurd u (by decide), fun _ => ⟨fun u => absurd u (by decide), fun _ => fin (nI v) (bt (Or.inr ⟨(i_eq.mp w2).symm, ?_⟩))⟩⟩) (fun w3 => ⟨fun _ => ⟨fun _ => fin' ?_, fun u => absurd rfl u⟩, fun u => absurd rfl u⟩)
                · have kk : ∀ i, i < n → keyA b15 b16 b17 i = (keyA (T.1 15) (T.1 16) (T.1 17) i) := by
                    intro i hi
                    obtain ⟨u1, u2, u3, -⟩ := r3 i hi
                    unfold keyA
                    rw [u1, u2, u3]
                  have w3 : bef2 (keyA b15 b16 b17 v) (keyA b15 b16 b17 y0) := w3
                  rw [kk v hvn, kk y0 (by omega)] at w3
                  exact w3
                · have kk : ∀ i, i < n → keyA b15 b16 b17 i = (keyA (T.1 15) (T.1 16) (T.1 17) i) := by
                    intro i hi
                    obtain ⟨u1, u2, u3, -⟩ := r3 i hi
                    unfold keyA
                    rw [u1, u2, u3]
                  have w3 : ¬ bef2 (keyA b15 b16 b17 v) (keyA b15 b16 b17 y0) := w3
                  rw [kk v hvn, kk y0 (by omega)] at w3
                  rintro (u | ⟨-, u⟩)
                  · exact w (i_lt.mpr u)
                  · exact w3 u
          unfold wl_Mo_ask_108
          refine ⟨fun w => die (Or.inr w), fun w => ⟨fun w2 v1 e1 => ?_, fun w2 => die (Or.inl ?_)⟩⟩
          · have hd : ¬ dies X m more (keyA (T.1 15) (T.1 16) (T.1 17) v) e := by
              rintro (u | u)
              · rcases hx3 with ⟨-, h⟩ | ⟨h, -⟩
                · exact h u
                · rw [h] at w2; exact absurd w2 (by decide)
              · exact w u
            rw [e1, nI_1]
            refine ih (v + 1) c' (al + 1) en b15 b16 b17 b19 b20 b21 k18 _ _ _ _ _ _ x6 x7' (by omega) (by omega) hAI2 (fun i hi => ⟨fun hi2 => ?_, fun hi2 => ?_⟩) (cnt_live hcn y hd) hso2 (yet_skip hye fun h => hd h.2)
            · rw [hb20 i hi]
              by_cases u : i = v
              · subst u
                rw [e20]
                exact ⟨fun h => ⟨h, hd⟩, fun h => h.1⟩
              · exact (hAd i hi).1 (by omega)
            · rw [hb20 i hi]
              exact (hAd i hi).2 (by omega)
          · rcases hx3 with ⟨h, -⟩ | ⟨-, h⟩
            · exact absurd h w2
            · exact h
        refine s_Mline2 (k := (keyA (T.1 15) (T.1 16) (T.1 17) v)) hG hAg hM hm0 hm1 he (ok v hvn) pv (fun f v28 v30 v9 e9 => ?_)
        rw [nI_1] at e9
        subst e9
        rw [hTol, i_lt]
        refine ⟨fun w => ?_, fun w => ?_⟩
        · have no : ∀ sl sf t, ¬ OffR X m more tol T e v sl sf t := fun sl sf t h => absurd h.2.1 (by omega)
          exact ask108 c a15 a16 a17 a19 a20 f l18 x7 v28 v30 (AI_skip hAI no) (fun i hi => rfl) (some_skip hso no)
        · refine s_reach (T := T) (more := more) (tol := tol) (a15 := a15) (a16 := a16) (a17 := a17) (a19 := a19) (a20 := a20) (l18 := l18) (c := c) hG (stA_agr hAg) he rfl rfl rfl rfl rfl rfl rfl rfl rfl hAI hvn (ok v hvn) y (by omega) (fun hc8 hno b15 b16 b17 b19 b20 k18 j => ⟨fun u => absurd rfl u, fun _ => hF ?_ _ _ _ _ _ _ _ _ _ _ _ _ _ _⟩) (fun c' b15 b16 b17 b19 b20 k18 hAI2 hb20 => ⟨fun _ => ?_, fun u => absurd u (by decide)⟩)
          · obtain ⟨k1, k2, k3, k4, k5⟩ := AI_keys (lst := lst) (by omega) hR hA hI (by omega) hAI
            subst hc8
            have ho : OffR X m more tol T e v (T.1 16 v + 1) (ftX X m more (keyA (T.1 15) (T.1 16) (T.1 17) v) e) (T.2.1 18 v + demX X m more (keyA (T.1 15) (T.1 16) (T.1 17) v) e) := ⟨y, by omega, rfl, rfl, rfl⟩
            obtain ⟨y0, t0, b1, b2, b3⟩ := ex_best n ⟨v, _, hvn, ho⟩
            refine full_of (k := (nI e, T.1 16 v + 1, ftX X m more (keyA (T.1 15) (T.1 16) (T.1 17) v) e)) k4 k5 (Or.inr ⟨rfl, Or.inl ⟨(off_R hR hA).mpr ⟨y0, b1, rfl, b2⟩, fun g' t' ho' => ?_⟩⟩) (fun i hi ee => ?_)
            · obtain ⟨y', hy', rfl, ho''⟩ := (off_R hR hA).mp ho'
              exact b3 y' t' hy' ho''
            · rcases Nat.lt_or_ge i n with u | u
              · exact k2 i u (congrArg Prod.fst ee)
              · exact hno i u hi ⟨congrArg (fun z : KEY => z.2.1) ee, congrArg (fun z : KEY => z.2.2) ee⟩
          · exact ask108 c' b15 b16 b17 b19 b20 f k18 1 v28 v30 hAI2 hb20 (Or.inr ⟨rfl, v, _, _, _, by omega, ⟨y, by omega, rfl, rfl, rfl⟩⟩)
