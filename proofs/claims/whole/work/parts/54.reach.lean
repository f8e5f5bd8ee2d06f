/-! the reference's reach -/
theorem s_reach {S T : ST} {X : Nat → Nat → Int32} {m e n v c : Nat} {more tol : Int32} {a15 a16 a17 a19 a20 : Nat → Int32} {l18 : Nat → Int64} {post : Int32 → (Nat → Int32) → (Nat → Int32) → (Nat → Int32) → (Nat → Int32) → (Nat → Int32) → (Nat → Int64) → Int32 → Prop}
    (hG : Gd X m) (hA : agr X m S) (he : e < m + 3) (h15 : S.1 15 = a15) (h16 : S.1 16 = a16) (h17 : S.1 17 = a17) (h19 : S.1 19 = a19) (h20 : S.1 20 = a20) (h18 : S.2.1 18 = l18) (hc20 : S.2.2 20 = nI (c - 1)) (h32 : S.2.2 32 = bdX X m more (keyA (T.1 15) (T.1 16) (T.1 17) v) e) (h33 : S.2.2 33 = ftX X m more (keyA (T.1 15) (T.1 16) (T.1 17) v) e)
    (hAI : AIa X m more tol T e n v c a15 a16 a17 a19 a20 l18) (hv : v < n) (ok : okK m e (keyA (T.1 15) (T.1 16) (T.1 17) v)) (hal : T.1 20 v = 0) (htol : (bdX X m more (keyA (T.1 15) (T.1 16) (T.1 17) v) e).toInt ≤ tol.toInt)
    (hfull : c = 8001 → (∀ i, n ≤ i → i < c → ¬ (a16 i = T.1 16 v + 1 ∧ a17 i = ftX X m more (keyA (T.1 15) (T.1 16) (T.1 17) v) e)) → ∀ (b15 b16 b17 b19 b20 : Nat → Int32) (k18 : Nat → Int64) (j : Int32), post 0 b15 b16 b17 b19 b20 k18 j)
    (hok : ∀ (c' : Nat) (b15 b16 b17 b19 b20 : Nat → Int32) (k18 : Nat → Int64), AIa X m more tol T e n (v + 1) c' b15 b16 b17 b19 b20 k18 → (∀ i, i < n → b20 i = a20 i) → post 1 b15 b16 b17 b19 b20 k18 (nI (c' - 1))) : wp_Mo_reach S (nI n) (nI e) (nI v) post := by
  have hm := hG.1
  have hAI' := hAI
  obtain ⟨g1, g2, g3, g4, g5, g6⟩ := hAI'
  obtain ⟨q15, q16, q17, q19, q18⟩ := g3 v hv
  have pv : vp_in (nI v) 8001 := vp_in_nI (by omega) (by omega)
  have kf : S.1 17 v = (keyA (T.1 15) (T.1 16) (T.1 17) v).2.2 := by rw [h17, q17]; rfl
  have kp : S.1 15 v = (keyA (T.1 15) (T.1 16) (T.1 17) v).1 := by rw [h15, q15]; rfl
  unfold wp_Mo_reach
  rw [nI_clamp (by omega), h18, q18]
  refine ⟨pv, s_Mdem hG hA he (by omega) (by rw [kf]; exact okK_f ok) (by rw [h33]; exact msF_fi) (by rw [kp]; exact okK_p ok) ?_⟩
  rw [kf, kp, h33, h32]
  intro t et
  have et' : t = T.2.1 18 v + demX X m more (keyA (T.1 15) (T.1 16) (T.1 17) v) e := et
  have ho : OffR X m more tol T e v (T.1 16 v + 1) (ftX X m more (keyA (T.1 15) (T.1 16) (T.1 17) v) e) t := ⟨hal, htol, rfl, rfl, et'⟩
  have loop : ∀ (q k : Nat), n ≤ k → k ≤ c → c < k + q → (∀ i, n ≤ i → i < k → ¬ (a16 i = T.1 16 v + 1 ∧ a17 i = ftX X m more (keyA (T.1 15) (T.1 16) (T.1 17) v) e)) → wl_Mo_reach_18 S post q (nI e) (nI v) t (nI k) := by
    intro q
    induction q with
    | zero => intro k _ _ h; omega
    | succ q ih =>
      intro k hk1 hk2 hq hno
      unfold wl_Mo_reach_18
      rw [hc20]
      refine ⟨fun z => ?_, fun z => ?_⟩
      · have := (nI_ltI (by omega) (by omega)).mp z
        have ek : k = c := by omega
        subst ek
        unfold wl_Mo_reach_65
        rw [hc20]
        refine ⟨fun y => ?_, fun _ => ⟨fun y v2 e2 => ?_, fun y => ?_⟩⟩
        · have := (nI_leI (by omega) (by omega)).mp y
          omega
        · have hc8 : k ≤ 8000 := by
            by_cases w : k = 8001
            · subst w; exact absurd rfl y
            · omega
          have ev : v2 = nI (k + 1 - 1) := by rw [e2, nI_1]; congr 1; omega
          refine s_Mwrite (S := sI S 20 v2) (by omega) (by omega) ?_
          have := AI_add hAI hc8 ho hno
          show post 1 (upd (S.1 15) k (nI e)) (upd (S.1 16) k (S.1 16 v + 1)) (upd (S.1 17) k (S.2.2 33)) (upd (S.1 19) k (nI v)) (upd (S.1 20) k 0) (vp_updL (S.2.1 18) k t) v2
          rw [h15, h16, h17, h19, h20, h18, h33, q16, ev]
          exact hok (k + 1) _ _ _ _ _ _ this (fun i hi => pk_un (by omega))
        · have hc8 : k = 8001 := by
            have := (nI_eq (b := 8000) (by omega) (by omega)).mp y
            omega
          exact hfull hc8 hno _ _ _ _ _ _ _
      · have hkc : k < c := by
          rcases Nat.lt_or_ge k c with u | u
          · exact u
          · exact absurd ((nI_ltI (by omega) (by omega)).mpr (by omega)) z
        have pk : vp_in (nI k) 8001 := vp_in_nI (by omega) (by omega)
        rw [nI_clamp (by omega), nI_clamp (by omega), h16, h17, q16, h33]
        have next : ¬ (a16 k = T.1 16 v + 1 ∧ a17 k = ftX X m more (keyA (T.1 15) (T.1 16) (T.1 17) v) e) → ∀ v1 : Int32, v1 = nI k + 1 → wl_Mo_reach_18 S post q (nI e) (nI v) t v1 := by
          intro hne v1 e1
          rw [e1, nI_1]
          refine ih (k + 1) (by omega) (by omega) (by omega) fun i h1 h2 => ?_
          by_cases w : i = k
          · subst w; exact hne
          · exact hno i h1 (by omega)
        refine ⟨pk, pv, fun y => next fun w => y w.1, fun y => ⟨pk, fun y2 => ?_, fun y2 => next fun w => y2 w.2⟩⟩
        -- found
        obtain ⟨-, -, y0, y1, y19, -, -⟩ := g4 k hk1 hkc
        have hok2 : OffR X m more tol T e v (a16 k) (a17 k) t := by rw [y, y2]; exact ho
        have put : (t.toInt < (l18 k).toInt ∨ (t.toInt = (l18 k).toInt ∧ bef2 (keyA (T.1 15) (T.1 16) (T.1 17) v) (keyA (T.1 15) (T.1 16) (T.1 17) y0))) → wl_Mo_reach_150 S post (nI e) (nI v) t (nI k) := by
          intro hk
          unfold wl_Mo_reach_150
          refine s_Mwrite (by omega) (by omega) ?_
          have := AI_put hAI hk1 hkc hok2 y19 (by omega) (by omega) hk
          rw [h15, h16, h17, h19, h20, h18, h33, q16, hc20]
          exact hok c _ _ _ _ _ _ this (fun i hi => pk_un (by omega))
        have keep : ¬ (t.toInt < (l18 k).toInt ∨ (t.toInt = (l18 k).toInt ∧ bef2 (keyA (T.1 15) (T.1 16) (T.1 17) v) (keyA (T.1 15) (T.1 16) (T.1 17) y0))) → post 1 (S.1 15) (S.1 16) (S.1 17) a19 (S.1 20) l18 (S.2.2 20) := by
          intro hk
          have := AI_keep hAI hk1 hkc hok2 y19 (by omega) (by omega) hk
          rw [h15, h16, h17, h20, hc20]
          exact hok c _ _ _ _ _ _ this (fun i hi => rfl)
        have hle : nI k ≤ S.2.2 20 := by rw [hc20]; exact (nI_leI (by omega) (by omega)).mpr (by omega)
        unfold wl_Mo_reach_65
        rw [nI_clamp (by omega), h18, h19, lc_lt, lc_eq, y19]
        refine ⟨fun _ => ⟨pk, fun u => put (Or.inl u), fun u => ⟨pk, fun u2 => keep ?_, fun u2 => ⟨pk, s_Mbefore (by omega) (by omega) (fun u3 => ⟨fun w => absurd w (by decide), fun _ => put (Or.inr ⟨u2, ?_⟩)⟩) (fun u3 => ⟨fun _ => keep ?_, fun w => absurd rfl w⟩)⟩⟩⟩, fun u => absurd hle u⟩
        · rintro (w | ⟨w, -⟩)
          · exact u w
          · exact u2 w
        · have k1 : keyA (S.1 15) (S.1 16) (S.1 17) v = keyA (T.1 15) (T.1 16) (T.1 17) v := by unfold keyA; rw [h15, h16, h17, q15, q16, q17]
          have k2 : keyA (S.1 15) (S.1 16) (S.1 17) y0 = keyA (T.1 15) (T.1 16) (T.1 17) y0 := by
            obtain ⟨w1, w2, w3, -⟩ := g3 y0 (by omega)
            unfold keyA
            rw [h15, h16, h17, w1, w2, w3]
          rw [k1, k2] at u3
          exact u3
        · have k1 : keyA (S.1 15) (S.1 16) (S.1 17) v = keyA (T.1 15) (T.1 16) (T.1 17) v := by unfold keyA; rw [h15, h16, h17, q15, q16, q17]
          have k2 : keyA (S.1 15) (S.1 16) (S.1 17) y0 = keyA (T.1 15) (T.1 16) (T.1 17) y0 := by
            obtain ⟨w1, w2, w3, -⟩ := g3 y0 (by omega)
            unfold keyA
            rw [h15, h16, h17, w1, w2, w3]
          rw [k1, k2] at u3
          rintro (w | ⟨-, w⟩)
          · exact u w
          · exact u3 w
  exact ⟨c + 2, loop (c + 2) n (by omega) (by omega) (by omega) (fun i h1 h2 => absurd h2 (by omega))⟩
