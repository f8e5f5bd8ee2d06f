/-! badness and judging: the class's in ints, the reference's in longs -/
def ratI (t s : Int) : Int := if t ≤ 7230584 then 297 * t / s else if 1663497 ≤ s then t / (s / 297) else t
def cubI (r : Int) : Int := if 1290 < r then 10000 else (r * r * r + 131072) / 262144
def badI (t s : Int) : Int := if t ≤ 0 then 0 else if s ≤ 0 then 10000 else cubI (ratI t s)
theorem cub_bd {r : Int} (h0 : 0 ≤ r) (h : r ≤ 1290) : 0 ≤ r * r * r ∧ r * r * r ≤ 2146689000 ∧ 0 ≤ r * r ∧ r * r ≤ 1664100 := by
  have a1 : r * r ≤ 1290 * 1290 := Int.mul_le_mul h h h0 (by omega)
  have a0 : 0 ≤ r * r := Int.mul_nonneg h0 h0
  have b1 : r * r * r ≤ 1290 * 1290 * 1290 := Int.mul_le_mul a1 h h0 (by omega)
  have b0 : 0 ≤ r * r * r := Int.mul_nonneg a0 h0
  omega
theorem rat_bd {t s : Int} (ht : 0 < t) (ht2 : t ≤ 2147483647) (hs : 0 < s) : 0 ≤ ratI t s ∧ ratI t s ≤ 2147483647 := by
  unfold ratI
  by_cases a : t ≤ 7230584
  · rw [if_pos a]
    have := Int.ediv_le_self s (a := 297 * t) (by omega)
    have := Int.ediv_nonneg (a := 297 * t) (b := s) (by omega) (by omega)
    omega
  · rw [if_neg a]
    by_cases b : 1663497 ≤ s
    · rw [if_pos b]
      have := Int.ediv_le_self (s / 297) (a := t) (by omega)
      have := Int.ediv_nonneg (a := t) (b := s / 297) (by omega) (by omega)
      omega
    · rw [if_neg b]
      omega
theorem cubI_bd {r : Int} (h0 : 0 ≤ r) : 0 ≤ cubI r ∧ cubI r ≤ 10000 := by
  unfold cubI
  by_cases a : 1290 < r
  · rw [if_pos a]; omega
  · rw [if_neg a]
    have := cub_bd h0 (by omega)
    omega
theorem badI_bd {t s : Int} (ht2 : t ≤ 2147483647) : 0 ≤ badI t s ∧ badI t s ≤ 10000 := by
  unfold badI
  by_cases a : t ≤ 0
  · rw [if_pos a]; omega
  · rw [if_neg a]
    by_cases b : s ≤ 0
    · rw [if_pos b]; omega
    · rw [if_neg b]
      exact cubI_bd (rat_bd (by omega) ht2 (by omega)).1
theorem o_I {n : Int} (h1 : -2147483648 ≤ n) (h2 : n ≤ 2147483647) : (Int32.ofInt n).toInt = n := Int32.toInt_ofInt_of_le (by omega) (by omega)
theorem eq_o {x : Int32} {n : Int} (h : x.toInt = n) : x = Int32.ofInt n := by rw [← h, Int32.ofInt_toInt]
theorem i_div {x y : Int32} (h1 : 0 ≤ x.toInt) (h2 : 0 < y.toInt) : (x / y).toInt = x.toInt / y.toInt := by
  have b := i_bd x
  rw [Int32.toInt_div, Int.tdiv_eq_ediv_of_nonneg h1]
  have := Int.ediv_le_self y.toInt h1
  have := Int.ediv_nonneg h1 (b := y.toInt) (by omega)
  exact Int.bmod_eq_of_le (by omega) (by omega)
theorem j_bd (x : Int64) : -9223372036854775808 ≤ x.toInt ∧ x.toInt ≤ 9223372036854775807 := by
  have h1 := Int64.le_toInt x
  have h2 := Int64.toInt_lt x
  omega
theorem j_div {x y : Int64} (h1 : 0 ≤ x.toInt) (h2 : 0 < y.toInt) : (x / y).toInt = x.toInt / y.toInt := by
  have b := j_bd x
  rw [Int64.toInt_div, Int.tdiv_eq_ediv_of_nonneg h1]
  have := Int.ediv_le_self y.toInt h1
  have := Int.ediv_nonneg h1 (b := y.toInt) (by omega)
  exact Int.bmod_eq_of_le (by omega) (by omega)
theorem s_bad47 {S : ST} {x : Int32} {post : Int32 → Prop} (h0 : 0 ≤ x.toInt) (hp : post (Int32.ofInt (cubI x.toInt))) : wl_Gu_bad_47 S post x := by
  unfold wl_Gu_bad_47
  unfold cubI at hp
  have l : (1290 : Int32).toInt = 1290 := rfl
  rw [i_le, l]
  refine ⟨fun q => ⟨by decide, ?_⟩, fun q => ?_⟩
  · rw [if_neg (by omega)] at hp
    have b := cub_bd h0 q
    have e2 : (x * x).toInt = x.toInt * x.toInt := i_mul (by omega) (by omega)
    have e3 : (x * x * x).toInt = x.toInt * x.toInt * x.toInt := by rw [i_mul (by rw [e2]; omega) (by rw [e2]; omega), e2]
    have l2 : (131072 : Int32).toInt = 131072 := rfl
    have l3 : (262144 : Int32).toInt = 262144 := rfl
    have e4 : (x * x * x + 131072).toInt = x.toInt * x.toInt * x.toInt + 131072 := by rw [i_add (by rw [e3, l2]; omega) (by rw [e3, l2]; omega), e3, l2]
    have e5 : ((x * x * x + 131072) / 262144).toInt = (x.toInt * x.toInt * x.toInt + 131072) / 262144 := by rw [i_div (by rw [e4]; omega) (by rw [l3]; omega), e4, l3]
    rw [eq_o e5]
    exact hp
  · rw [if_pos (by omega)] at hp
    exact hp
theorem s_bad {S : ST} {p q : Int32} {post : Int32 → Prop} (hp : post (Int32.ofInt (badI p.toInt q.toInt))) : wp_Gu_bad S p q post := by
  unfold wp_Gu_bad
  have l0 : (0 : Int32).toInt = 0 := rfl
  have l1 : (7230584 : Int32).toInt = 7230584 := rfl
  have l2 : (1663497 : Int32).toInt = 1663497 := rfl
  have l3 : (297 : Int32).toInt = 297 := rfl
  have bp := i_bd p
  have bq := i_bd q
  rw [i_lt, i_lt, i_lt, i_lt, l0, l1, l2]
  unfold badI at hp
  refine ⟨fun a => ⟨fun b => ⟨fun c => ⟨fun d => s_bad47 (by omega) ?_, fun d => ?_⟩, fun c => ⟨?_, fun v e => ?_⟩⟩, fun b => ?_⟩, fun a => ?_⟩
  · rw [if_neg (by omega), if_neg (by omega)] at hp
    unfold ratI at hp
    rw [if_neg (by omega), if_neg (by omega)] at hp
    exact hp
  · have e1 : (q / 297).toInt = q.toInt / 297 := by rw [i_div (by omega) (by rw [l3]; omega), l3]
    have g : 0 < q.toInt / 297 := by omega
    refine ⟨by decide, ?_, fun v e => ?_⟩
    · rw [i_eq, l0, e1]; omega
    · rw [if_neg (by omega), if_neg (by omega)] at hp
      unfold ratI at hp
      rw [if_neg (by omega), if_pos (by omega)] at hp
      have e2 : v.toInt = p.toInt / (q.toInt / 297) := by rw [e, i_div (by omega) (by rw [e1]; omega), e1]
      refine s_bad47 ?_ ?_
      · rw [e2]
        exact Int.ediv_nonneg (by omega) (by omega)
      · rw [e2]
        exact hp
  · rw [i_eq, l0]; omega
  · rw [if_neg (by omega), if_neg (by omega)] at hp
    unfold ratI at hp
    rw [if_pos (by omega)] at hp
    have e1 : (297 * p).toInt = 297 * p.toInt := by rw [i_mul (by rw [l3]; omega) (by rw [l3]; omega), l3]
    have e2 : v.toInt = 297 * p.toInt / q.toInt := by rw [e, i_div (by rw [e1]; omega) (by omega), e1]
    refine s_bad47 ?_ ?_
    · rw [e2]
      exact Int.ediv_nonneg (by omega) (by omega)
    · rw [e2]
      exact hp
  · rw [if_neg (by omega), if_pos (by omega)] at hp
    exact hp
  · rw [if_pos (by omega)] at hp
    exact hp
theorem s_Mbad55 {S : ST} {x : Int64} {post : Int32 → Prop} (h0 : 0 ≤ x.toInt) (hp : post (Int32.ofInt (cubI x.toInt))) : wl_Mo_bad_55 S post x := by
  unfold wl_Mo_bad_55
  unfold cubI at hp
  rw [lc_le, show (1290 : Int64).toInt = 1290 from rfl]
  refine ⟨fun q => ⟨by decide, ?_⟩, fun q => ?_⟩
  · rw [if_neg (by omega)] at hp
    have b := cub_bd h0 q
    have e2 : (x * x).toInt = x.toInt * x.toInt := j_mul (by omega) (by omega)
    have e3 : (x * x * x).toInt = x.toInt * x.toInt * x.toInt := by rw [j_mul (by rw [e2]; omega) (by rw [e2]; omega), e2]
    have l2 : (131072 : Int64).toInt = 131072 := rfl
    have l3 : (262144 : Int64).toInt = 262144 := rfl
    have e4 : (x * x * x + 131072).toInt = x.toInt * x.toInt * x.toInt + 131072 := by rw [j_add (by rw [e3, l2]; omega) (by rw [e3, l2]; omega), e3, l2]
    have e5 : ((x * x * x + 131072) / 262144).toInt = (x.toInt * x.toInt * x.toInt + 131072) / 262144 := by rw [j_div (by rw [e4]; omega) (by rw [l3]; omega), e4, l3]
    have e6 : ((x * x * x + 131072) / 262144).toInt32.toInt = (x.toInt * x.toInt * x.toInt + 131072) / 262144 := by
      rw [Int64.toInt_toInt32, e5]
      exact Int.bmod_eq_of_le (by omega) (by omega)
    rw [eq_o e6]
    exact hp
  · rw [if_pos (by omega)] at hp
    exact hp
theorem s_Mbad {S : ST} {p q : Int64} {post : Int32 → Prop} (p0 : 0 ≤ p.toInt) (p1 : p.toInt ≤ 2147483647) (q0 : 0 ≤ q.toInt) (q1 : q.toInt ≤ 2147483647) (hp : post (Int32.ofInt (badI p.toInt q.toInt))) : wp_Mo_bad S p q post := by
  unfold wp_Mo_bad
  have l0 : (0 : Int64).toInt = 0 := rfl
  have l1 : (7230584 : Int64).toInt = 7230584 := rfl
  have l2 : (1663497 : Int64).toInt = 1663497 := rfl
  have l3 : (297 : Int64).toInt = 297 := rfl
  rw [lc_eq, lc_eq, lc_gt, lc_lt, l0, l1, l2]
  unfold badI at hp
  refine ⟨fun a => ⟨fun b => ⟨fun c => ⟨fun d => s_Mbad55 (by omega) ?_, fun d => ?_⟩, fun c => ⟨?_, ?_⟩⟩, fun b => ?_⟩, fun a => ?_⟩
  · rw [if_neg (by omega), if_neg (by omega)] at hp
    unfold ratI at hp
    rw [if_neg (by omega), if_neg (by omega)] at hp
    exact hp
  · have e1 : (q / 297).toInt = q.toInt / 297 := by rw [j_div (by omega) (by rw [l3]; omega), l3]
    have g : 0 < q.toInt / 297 := by omega
    refine ⟨by decide, ?_, ?_⟩
    · rw [j_eq, l0, e1]; omega
    · rw [if_neg (by omega), if_neg (by omega)] at hp
      unfold ratI at hp
      rw [if_neg (by omega), if_pos (by omega)] at hp
      have e2 : (p / (q / 297)).toInt = p.toInt / (q.toInt / 297) := by rw [j_div (by omega) (by rw [e1]; omega), e1]
      refine s_Mbad55 ?_ ?_
      · rw [e2]
        exact Int.ediv_nonneg (by omega) (by omega)
      · rw [e2]
        exact hp
  · rw [j_eq, l0]; omega
  · rw [if_neg (by omega), if_neg (by omega)] at hp
    unfold ratI at hp
    rw [if_pos (by omega)] at hp
    have e1 : (297 * p).toInt = 297 * p.toInt := by rw [j_mul (by rw [l3]; omega) (by rw [l3]; omega), l3]
    have e2 : (297 * p / q).toInt = 297 * p.toInt / q.toInt := by rw [j_div (by rw [e1]; omega) (by omega), e1]
    refine s_Mbad55 ?_ ?_
    · rw [e2]
      exact Int.ediv_nonneg (by omega) (by omega)
    · rw [e2]
      exact hp
  · rw [if_neg (by omega), if_pos (by omega)] at hp
    exact hp
  · rw [if_pos (by omega)] at hp
    exact hp
/-- what is said of a line: shortfall, badness, fit -/
def fitS (b : Int) : Int32 := if 99 < b then 0 else if 12 < b then 1 else 2
def fitH (b : Int) : Int32 := if 12 < b then 3 else 2
def jS (wi W F E H : Int) : Int32 := Int32.ofInt (wi - W)
def jB (wi W F E H : Int) : Int32 := if 0 < wi - W then Int32.ofInt (if 0 < E then 0 else badI (wi - W) F) else if H < W - wi then 10001 else Int32.ofInt (badI (W - wi) H)
def jF (wi W F E H : Int) : Int32 := if 0 < wi - W then fitS (if 0 < E then 0 else badI (wi - W) F) else if H < W - wi then 3 else fitH (badI (W - wi) H)
/-- a number that is a size -/
def szI (n : Int) : Prop := -1073741823 ≤ n ∧ n ≤ 1073741823
def poI (n : Int) : Prop := 0 ≤ n ∧ n ≤ 1073741823
theorem s_judge262 {S : ST} {post : Int32 → Int32 → Int32 → Int32 → Int32 → Int32 → Prop} {u1 u2 u3 x4 x7 x8 x9 x10 : Int32} {wi W F E H : Int} (e4 : x4.toInt = wi) (e7 : x7.toInt = W) (e8 : x8.toInt = F) (e9 : x9.toInt = E) (e10 : x10.toInt = H) (b4 : szI wi) (b7 : szI W)
    (hp : post (jS wi W F E H) (jB wi W F E H) (jF wi W F E H) u1 u2 u3) : wl_Gu_measure_262 S post u1 u2 u3 x4 x7 x8 x9 x10 := by
  unfold wl_Gu_measure_262
  unfold szI at b4 b7
  intro v1 ev
  have t1 : v1.toInt = wi - W := by rw [ev, i_sub (by rw [e4, e7]; omega) (by rw [e4, e7]; omega), e4, e7]
  have t2 : v1 = jS wi W F E H := eq_o t1
  have l0 : (0 : Int32).toInt = 0 := rfl
  have l12 : (12 : Int32).toInt = 12 := rfl
  have l99 : (99 : Int32).toInt = 99 := rfl
  rw [i_le, l0, t1]
  unfold wp_Gu_judgeShrunk wp_Gu_judgeStretched wl_Gu_judgeStretched_17
  have sv : (sI (sI (sI (sI S 1923 v1) 1926 u1) 1927 u2) 1928 u3).2.2 1923 = v1 := rfl
  rw [sv]
  refine ⟨fun q v2 ev2 => ?_, fun q => ?_⟩
  · have t3 : v2.toInt = W - wi := by rw [ev2, i_neg (by omega), t1]; omega
    rw [i_le, t3, e10]
    have bb := badI_bd (t := W - wi) (s := H) (by omega)
    refine ⟨fun q2 => s_bad ?_, fun q2 => ?_⟩
    · rw [t3, e10, i_le, o_I (by omega) (by omega), l12]
      unfold jB jF fitH at hp
      have c1 : ¬ 0 < wi - W := by omega
      have c2 : ¬ H < W - wi := by omega
      simp only [if_neg c1, if_neg c2] at hp
      rw [← t2] at hp
      refine ⟨fun q3 => ?_, fun q3 => ?_⟩
      · rw [if_neg (by omega)] at hp; exact hp
      · rw [if_pos (by omega)] at hp; exact hp
    · unfold jB jF at hp
      have c1 : ¬ 0 < wi - W := by omega
      have c2 : H < W - wi := by omega
      simp only [if_neg c1, if_pos c2] at hp
      rw [← t2] at hp
      exact hp
  · unfold jB jF fitS at hp
    have c1 : 0 < wi - W := by omega
    simp only [if_pos c1] at hp
    rw [← t2] at hp
    have bb := badI_bd (t := wi - W) (s := F) (by omega)
    rw [i_le, e9, l0]
    refine ⟨fun q2 => s_bad ?_, fun q2 => ?_⟩
    · rw [t1, e8, i_le, i_le, o_I (by omega) (by omega), l12, l99]
      have c2 : ¬ 0 < E := by omega
      simp only [if_neg c2] at hp
      refine ⟨fun q3 => ⟨fun q4 => ?_, fun q4 => ?_⟩, fun q3 => ?_⟩
      · rw [if_neg (by omega), if_neg (by omega)] at hp; exact hp
      · rw [if_neg (by omega), if_pos (by omega)] at hp; exact hp
      · rw [if_pos (by omega)] at hp; exact hp
    · have c2 : 0 < E := by omega
      simp only [if_pos c2] at hp
      exact ⟨fun _ => ⟨fun _ => hp, fun z => absurd (by decide) z⟩, fun z => absurd (by decide) z⟩
theorem s_Mjudge {T : ST} {l : Nat} {post : Int32 → Int32 → Int32 → Prop} {wi W F E H : Int} (e4 : (T.1 10 (if l < 20 then l else 19)).toInt = wi) (hl : l ≤ 1000) (e7 : (T.2.2 28).toInt = W) (e8 : (T.1 21 0).toInt = F) (e10 : (T.2.2 30).toInt = H) (s1 : 0 ≤ (T.1 21 1).toInt) (s2 : 0 ≤ (T.1 21 2).toInt) (s3 : 0 ≤ (T.1 21 3).toInt) (e9 : (T.1 21 1).toInt + (T.1 21 2).toInt + (T.1 21 3).toInt = E) (b4 : szI wi) (b7 : szI W) (bF : poI F) (bH : poI H)
    (hp : post (jS wi W F E H) (jB wi W F E H) (jF wi W F E H)) : wp_Mo_judge T (nI l) post := by
  unfold szI at b4 b7
  unfold poI at bF bH
  have main : ∀ j : Nat, j < 20 → j = (if l < 20 then l else 19) → wl_Mo_judge_16 T post (nI j) := by
    intro j hj ej
    rw [← ej] at e4
    unfold wl_Mo_judge_16
    rw [nI_clamp (by omega)]
    refine ⟨vp_in_nI hj (by omega), fun v1 ev v2 ev2 => ?_⟩
    have t1 : v1.toInt = wi - W := by rw [ev, j_sub (by rw [j_of, j_of, e4, e7]; omega) (by rw [j_of, j_of, e4, e7]; omega), j_of, j_of, e4, e7]
    have t2 : v2 = jS wi W F E H := by
      refine eq_o ?_
      rw [ev2, Int64.toInt_toInt32, t1]
      exact Int.bmod_eq_of_le (by omega) (by omega)
    have t3 : (-v1).toInt = W - wi := by
      rw [Int64.toInt_neg, t1, Int.bmod_eq_of_le (by omega) (by omega)]
      omega
    have l0 : (0 : Int64).toInt = 0 := rfl
    have k0 : (0 : Int32).toInt = 0 := rfl
    have l12 : (12 : Int32).toInt = 12 := rfl
    have l99 : (99 : Int32).toInt = 99 := rfl
    rw [lc_le, l0, t1, lc_ge, t3, j_of, e10]
    refine ⟨fun q => ⟨fun q2 => s_Mbad (by omega) (by omega) (by rw [j_of]; omega) (by rw [j_of]; omega) ?_, fun q2 => ?_⟩, fun q => ?_⟩
    · have bb := badI_bd (t := W - wi) (s := H) (by omega)
      rw [t3, j_of, e10, i_le, o_I (by omega) (by omega), l12]
      unfold jB jF fitH at hp
      have c1 : ¬ 0 < wi - W := by omega
      have c2 : ¬ H < W - wi := by omega
      simp only [if_neg c1, if_neg c2] at hp
      rw [← t2] at hp
      refine ⟨fun q3 => ?_, fun q3 => ?_⟩
      · rw [if_neg (by omega)] at hp; exact hp
      · rw [if_pos (by omega)] at hp; exact hp
    · unfold jB jF at hp
      have c1 : ¬ 0 < wi - W := by omega
      have c2 : H < W - wi := by omega
      simp only [if_neg c1, if_pos c2] at hp
      rw [← t2] at hp
      exact hp
    · unfold jB jF fitS at hp
      have c1 : 0 < wi - W := by omega
      simp only [if_pos c1] at hp
      rw [← t2] at hp
      have bb := badI_bd (t := wi - W) (s := F) (by omega)
      have much : 0 < E → wl_Mo_judge_64 T post v2 v1 := by
        intro q2
        simp only [if_pos q2] at hp
        unfold wl_Mo_judge_64 wl_Mo_judge_69 wl_Mo_judge_92
        exact ⟨fun z => absurd z (by decide), fun _ => ⟨fun _ => ⟨fun _ => hp, fun z => absurd (by decide) z⟩, fun z => absurd (by decide) z⟩⟩
      rw [i_lt, i_lt, i_le, k0, show (1 : Int32).toNatClampNeg = 1 from rfl, show (2 : Int32).toNatClampNeg = 2 from rfl, show (3 : Int32).toNatClampNeg = 3 from rfl]
      refine ⟨by unfold vp_in; decide, fun q1 => much (by omega), fun q1 => ⟨by unfold vp_in; decide, fun q2 => much (by omega), fun q2 => ⟨by unfold vp_in; decide, fun q3 => ?_, fun q3 => much (by omega)⟩⟩⟩
      have c2 : ¬ 0 < E := by omega
      simp only [if_neg c2] at hp
      unfold wl_Mo_judge_69 wl_Mo_judge_92
      rw [show (0 : Int32).toNatClampNeg = 0 from rfl]
      refine ⟨fun _ => ⟨by unfold vp_in; decide, s_Mbad (by omega) (by omega) (by rw [j_of]; omega) (by rw [j_of]; omega) ?_⟩, fun z => absurd rfl z⟩
      rw [t1, j_of, e8, i_le, i_le, o_I (by omega) (by omega), l12, l99]
      refine ⟨fun q3 => ⟨fun q4 => ?_, fun q4 => ?_⟩, fun q3 => ?_⟩
      · rw [if_neg (by omega), if_neg (by omega)] at hp; exact hp
      · rw [if_neg (by omega), if_pos (by omega)] at hp; exact hp
      · rw [if_pos (by omega)] at hp; exact hp
  unfold wp_Mo_judge
  refine ⟨fun q => main 19 (by omega) ?_, fun q => main l ?_ ?_⟩
  · have := (nI_leI (a := 20) (by omega) (by omega)).mp q
    rw [if_neg (by omega)]
  · rcases Nat.lt_or_ge l 20 with z | z
    · exact z
    · exact absurd ((nI_leI (a := 20) (by omega) (by omega)).mpr z) q
  · rcases Nat.lt_or_ge l 20 with z | z
    · rw [if_pos z]
    · exact absurd ((nI_leI (a := 20) (by omega) (by omega)).mpr z) q
