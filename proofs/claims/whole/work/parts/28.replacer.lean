/-! awaitsReplaced and replacer -/
/-- the hyphen at h replaces what stands at k -/
def cov (f g : Nat → Int32) (k h : Nat) : Prop := h < k ∧ f h = 5 ∧ (k : Int) ≤ h + (g h).toInt
theorem x_pred {x : Int32} {m : Nat} (h : x.toInt = (m : Int)) (hm : m < 2 ^ 31) : (x + (-1)).toInt = (m : Int) - 1 := by
  have e : (-1 : Int32).toInt = -1 := rfl
  rw [i_add (by rw [e, h]; omega) (by rw [e, h]; omega), h, e]
  omega
theorem x_nI {x : Int32} {m : Nat} (h : x.toInt = (m : Int)) (hm : m < 2 ^ 31) : x = nI m := by
  rw [i_eq, nI_toInt hm, h]
theorem s_replacer_l {T : ST} {k : Nat} {post : Int32 → Prop} (hk : k ≤ 410) (hb : ∀ h, h < k → T.1 1 h = 5 → 0 ≤ (T.1 8 h).toInt ∧ (T.1 8 h).toInt ≤ 10) (h1 : ∀ h, cov (T.1 1) (T.1 8) k h → post (nI h)) (h2 : (∀ h, ¬ cov (T.1 1) (T.1 8) k h) → post (-1)) :
    ∀ (n m : Nat) (x : Int32), m ≤ k → m < n → x.toInt = (m : Int) - 1 → (∀ h, m ≤ h → ¬ cov (T.1 1) (T.1 8) k h) → wl_Mo_replacer_4 T post n (nI k) x := by
  intro n
  induction n with
  | zero => intro m x _ h; omega
  | succ n ih =>
    intro m x hm hn hx hI
    unfold wl_Mo_replacer_4
    have ek : (nI k).toInt = (k : Int) := nI_toInt (by omega)
    have e10 : (nI k - 10).toInt = (k : Int) - 10 := by
      have e : (10 : Int32).toInt = 10 := rfl
      rw [i_sub (by rw [ek, e]; omega) (by rw [ek, e]; omega), ek, e]
    refine ⟨fun q => h2 fun h hc => ?_, fun q => ⟨fun q2 => h2 fun h hc => ?_, fun q2 => ?_⟩⟩
    · rw [i_lt] at q
      have q : x.toInt < 0 := q
      exact hI h (by omega) hc
    · rw [i_lt, e10] at q2
      by_cases z : m ≤ h
      · exact hI h z hc
      · obtain ⟨c1, c2, c3⟩ := hc
        have := hb h c1 c2
        omega
    · rw [i_lt] at q
      have q : ¬ x.toInt < 0 := q
      obtain ⟨m, rfl⟩ : ∃ m', m = m' + 1 := ⟨m - 1, by omega⟩
      have hx : x.toInt = (m : Int) := by omega
      have hn1 := x_nI hx (by omega)
      have hp : vp_in x 410 := vin (by omega) (by omega)
      have hcl : x.toNatClampNeg = m := by rw [hn1]; exact nI_clamp (by omega)
      rw [hcl]
      refine ⟨hp, fun q3 v e => ?_, fun q3 => ⟨hp, fun q4 v e => ?_, fun q4 => ?_⟩⟩
      · rw [e]
        refine ih m _ (by omega) (by omega) (x_pred hx (by omega)) fun h hh hc => ?_
        by_cases z : h = m
        · subst z; exact q3 hc.2.1
        · exact hI h (by omega) hc
      · rw [e]
        refine ih m _ (by omega) (by omega) (x_pred hx (by omega)) fun h hh hc => ?_
        by_cases z : h = m
        · subst z
          have := hb h (by omega) q3
          rw [i_lt, i_add (by omega) (by omega), hx, ek] at q4
          have := hc.2.2
          omega
        · exact hI h (by omega) hc
      · rw [hn1]
        refine h1 m ⟨by omega, q3, ?_⟩
        have := hb m (by omega) q3
        rw [i_lt, i_add (by omega) (by omega), hx, ek] at q4
        omega
theorem s_replacer {T : ST} {k : Nat} {post : Int32 → Prop} (hk : k ≤ 410) (hb : ∀ h, h < k → T.1 1 h = 5 → 0 ≤ (T.1 8 h).toInt ∧ (T.1 8 h).toInt ≤ 10) (h1 : ∀ h, cov (T.1 1) (T.1 8) k h → post (nI h)) (h2 : (∀ h, ¬ cov (T.1 1) (T.1 8) k h) → post (-1)) : wp_Mo_replacer T (nI k) post := by
  unfold wp_Mo_replacer
  intro v e
  refine ⟨k + 1, s_replacer_l hk hb h1 h2 (k + 1) k v (by omega) (by omega) ?_ fun h hh hc => absurd hc.1 (by omega)⟩
  have e1 : (1 : Int32).toInt = 1 := rfl
  have ek : (nI k).toInt = (k : Int) := nI_toInt (by omega)
  rw [e, i_sub (by rw [ek, e1]; omega) (by rw [ek, e1]; omega), ek, e1]
theorem s_awaits_l {S : ST} {k : Nat} {post : Int32 → Prop} (hk : k ≤ 400) (hS : S.2.2 73 = nI k) (hb : ∀ h, h < k → S.1 2 h = 5 → 0 ≤ (S.1 10 h).toInt ∧ (S.1 10 h).toInt ≤ 10) (hr : rep S k) (h1 : ∀ h, cov (S.1 2) (S.1 10) k h → post 1) (h2 : (∀ h, ¬ cov (S.1 2) (S.1 10) k h) → post 0) :
    ∀ (n m : Nat) (x y : Int32), y.toInt = ((k - 10 : Nat) : Int) → m ≤ k → m < n → x.toInt = (m : Int) - 1 → (∀ h, m ≤ h → h < k → ¬ S.1 2 h = 5) → wl_Pa_awaitsReplaced_19 S post n y x := by
  intro n
  induction n with
  | zero => intro m x y _ _ h; omega
  | succ n ih =>
    intro m x y hy hm hn hx hI
    unfold wl_Pa_awaitsReplaced_19
    have ek : (nI k).toInt = (k : Int) := nI_toInt (by omega)
    rw [hS]
    refine ⟨fun q => h2 fun h hc => ?_, fun q => ?_⟩
    · rw [i_lt] at q
      by_cases z : m ≤ h
      · exact hI h z hc.1 hc.2.1
      · obtain ⟨c1, c2, c3⟩ := hc
        have := hb h c1 c2
        omega
    · rw [i_lt] at q
      obtain ⟨m, rfl⟩ : ∃ m', m = m' + 1 := ⟨m - 1, by omega⟩
      have hx : x.toInt = (m : Int) := by omega
      have hn1 := x_nI hx (by omega)
      have hp : vp_in x 400 := vin (by omega) (by omega)
      have hcl : x.toNatClampNeg = m := by rw [hn1]; exact nI_clamp (by omega)
      rw [hcl]
      refine ⟨hp, fun q3 v e => ?_, fun q3 => ⟨hp, fun q4 => h2 fun h hc => ?_, fun q4 => ?_⟩⟩
      · rw [e]
        refine ih m _ _ hy (by omega) (by omega) (x_pred hx (by omega)) fun h hh hc => ?_
        by_cases z : h = m
        · subst z; exact q3
        · exact hI h (by omega) hc
      · have b := hb m (by omega) q3
        rw [i_lt, i_add (by omega) (by omega), hx, ek] at q4
        obtain ⟨c1, c2, c3⟩ := hc
        rcases Nat.lt_trichotomy h m with z | z | z
        · have := hr h m z (by omega) c2 (by omega)
          rw [q3] at this
          exact absurd this (by decide)
        · subst z; omega
        · exact hI h z c1 c2
      · refine h1 m ⟨by omega, q3, ?_⟩
        have := hb m (by omega) q3
        rw [i_lt, i_add (by omega) (by omega), hx, ek] at q4
        omega
theorem s_awaits {S : ST} {k : Nat} {post : Int32 → Prop} (hk : k ≤ 400) (hS : S.2.2 73 = nI k) (hb : ∀ h, h < k → S.1 2 h = 5 → 0 ≤ (S.1 10 h).toInt ∧ (S.1 10 h).toInt ≤ 10) (hr : rep S k) (h1 : ∀ h, cov (S.1 2) (S.1 10) k h → post 1) (h2 : (∀ h, ¬ cov (S.1 2) (S.1 10) k h) → post 0) : wp_Pa_awaitsReplaced S post := by
  unfold wp_Pa_awaitsReplaced
  rw [hS]
  intro v1 e1 v2 e2
  have ek : (nI k).toInt = (k : Int) := nI_toInt (by omega)
  have l1 : (1 : Int32).toInt = 1 := rfl
  have e10 : (nI k - 10).toInt = (k : Int) - 10 := by
    have e : (10 : Int32).toInt = 10 := rfl
    rw [i_sub (by rw [ek, e]; omega) (by rw [ek, e]; omega), ek, e]
  refine ⟨k + 1, s_awaits_l hk hS hb hr h1 h2 (k + 1) k v2 v1 ?_ (by omega) (by omega) ?_ fun h hh hc => absurd hc (by omega)⟩
  · rw [e1]
    by_cases z : 0 < nI k - 10
    · rw [if_pos z, e10]
      rw [i_lt, e10] at z
      have z : 0 < (k : Int) - 10 := z
      omega
    · rw [if_neg z]
      rw [i_lt, e10] at z
      have z : ¬ 0 < (k : Int) - 10 := z
      show (0 : Int) = _
      omega
  · rw [e2, i_sub (by rw [ek, l1]; omega) (by rw [ek, l1]; omega), ek, l1]
/-- both sides' items, as to hyphens -/
theorem itm_k {S T : ST} {k : Nat} (h : itm S T k) : S.1 2 k = T.1 1 k ∧ S.1 10 k = T.1 8 k := ⟨h.1, h.2.1⟩
theorem itm_hb {S T : ST} {k : Nat} (h : itm S T k) : S.1 2 k = 5 → 0 ≤ (S.1 10 k).toInt ∧ (S.1 10 k).toInt ≤ 10 := by
  intro e
  unfold itm at h
  rw [e] at h
  obtain ⟨-, -, h | h | h | h⟩ := h
  · exact absurd h.1 (by decide)
  · exact absurd h.1 (by decide)
  · exact absurd h.1 (by decide)
  · exact ⟨h.2.2.2.2.2.2.2.2.2.2.2.2.2.2.1, h.2.2.2.2.2.2.2.2.2.2.2.2.2.2.2⟩
theorem cov_iff {S T : ST} {c : Nat} (h1 : ∀ k, k < c → itm S T k) (h : Nat) : cov (S.1 2) (S.1 10) c h ↔ cov (T.1 1) (T.1 8) c h := by
  unfold cov
  constructor
  · rintro ⟨a, b, d⟩
    obtain ⟨e1, e2⟩ := itm_k (h1 h a)
    exact ⟨a, e1 ▸ b, e2 ▸ d⟩
  · rintro ⟨a, b, d⟩
    obtain ⟨e1, e2⟩ := itm_k (h1 h a)
    exact ⟨a, e1 ▸ b, e2 ▸ d⟩
/-- requireNotReplaced beside replacer(count) -/
theorem s_notRep {S T : ST} {c : Nat} {A : Prop} {px : String → Prop} (hc : c ≤ 400) (hS : S.2.2 73 = nI c) (h1 : ∀ k, k < c → itm S T k) (h2 : rep S c) (ha : (∀ h, ¬ cov (S.1 2) (S.1 10) c h) → A) (hb : ∀ h, cov (S.1 2) (S.1 10) c h → px "java/lang/IllegalStateException") : wp_Lb_requireNotReplaced S A px := by
  unfold wp_Lb_requireNotReplaced
  exact s_awaits hc hS (fun h hh => itm_hb (h1 h hh)) h2 (fun h hh => ⟨fun z => absurd z (by decide), fun _ => hb h hh⟩) (fun z => ⟨fun _ => ha z, fun y => absurd rfl y⟩)
theorem s_repl {S T : ST} {c : Nat} {post : Int32 → Prop} (hc : c ≤ 400) (hT : T.2.2 1 = nI c) (h1 : ∀ k, k < c → itm S T k) (ha : (∀ h, ¬ cov (S.1 2) (S.1 10) c h) → post (-1)) (hb : ∀ h, cov (S.1 2) (S.1 10) c h → post (nI h)) : wp_Mo_replacer T (T.2.2 1) post := by
  rw [hT]
  refine s_replacer (by omega) (fun h hh e => ?_) (fun h hh => hb h ((cov_iff h1 h).mpr hh)) (fun z => ha fun h hh => z h ((cov_iff h1 h).mp hh))
  obtain ⟨e1, e2⟩ := itm_k (h1 h hh)
  have := itm_hb (h1 h hh) (e1.trans e)
  rw [e2] at this
  exact this
theorem nI_n0 {h c : Nat} (hc : c ≤ 400) (hh : h < c) : ¬ nI h < 0 := by
  rw [i_lt, nI_toInt (by omega)]
  show ¬ (h : Int) < 0
  omega
theorem upd2 {f : Nat → Int32} {c : Nat} {x y : Int32} : upd (upd f c x) c y = upd f c y := by
  funext j
  unfold upd
  by_cases h : j = c <;> simp [h]
