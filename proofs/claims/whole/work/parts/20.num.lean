/-! numbers: ints and longs by their values -/
theorem i_lt {x y : Int32} : x < y ↔ x.toInt < y.toInt := Int32.lt_iff_toInt_lt
theorem i_le {x y : Int32} : x ≤ y ↔ x.toInt ≤ y.toInt := Int32.le_iff_toInt_le
theorem i_eq {x y : Int32} : x = y ↔ x.toInt = y.toInt := Int32.toInt_inj.symm
theorem j_lt {x y : Int64} : x < y ↔ x.toInt < y.toInt := Int64.lt_iff_toInt_lt
theorem j_le {x y : Int64} : x ≤ y ↔ x.toInt ≤ y.toInt := Int64.le_iff_toInt_le
theorem j_eq {x y : Int64} : x = y ↔ x.toInt = y.toInt := Int64.toInt_inj.symm
theorem i_bd (x : Int32) : -2147483648 ≤ x.toInt ∧ x.toInt ≤ 2147483647 := by
  have h1 := Int32.le_toInt x
  have h2 := Int32.toInt_lt x
  omega
theorem i_add {x y : Int32} (h1 : -2147483648 ≤ x.toInt + y.toInt) (h2 : x.toInt + y.toInt ≤ 2147483647) : (x + y).toInt = x.toInt + y.toInt := by
  rw [Int32.toInt_add, Int.bmod_eq_of_le (by omega) (by omega)]
theorem i_sub {x y : Int32} (h1 : -2147483648 ≤ x.toInt - y.toInt) (h2 : x.toInt - y.toInt ≤ 2147483647) : (x - y).toInt = x.toInt - y.toInt := by
  rw [Int32.toInt_sub, Int.bmod_eq_of_le (by omega) (by omega)]
theorem i_neg {x : Int32} (h1 : x.toInt ≠ -2147483648) : (-x).toInt = -x.toInt := by
  have := i_bd x
  rw [Int32.toInt_neg, Int.bmod_eq_of_le (by omega) (by omega)]
theorem i_mul {x y : Int32} (h1 : -2147483648 ≤ x.toInt * y.toInt) (h2 : x.toInt * y.toInt ≤ 2147483647) : (x * y).toInt = x.toInt * y.toInt := by
  rw [Int32.toInt_mul, Int.bmod_eq_of_le (by omega) (by omega)]
theorem j_of (x : Int32) : x.toInt64.toInt = x.toInt := Int32.toInt_toInt64 x
theorem j_add {x y : Int64} (h1 : -9223372036854775808 ≤ x.toInt + y.toInt) (h2 : x.toInt + y.toInt ≤ 9223372036854775807) : (x + y).toInt = x.toInt + y.toInt := by
  rw [Int64.toInt_add, Int.bmod_eq_of_le (by omega) (by omega)]
theorem j_sub {x y : Int64} (h1 : -9223372036854775808 ≤ x.toInt - y.toInt) (h2 : x.toInt - y.toInt ≤ 9223372036854775807) : (x - y).toInt = x.toInt - y.toInt := by
  rw [Int64.toInt_sub, Int.bmod_eq_of_le (by omega) (by omega)]
theorem j_mul {x y : Int64} (h1 : -9223372036854775808 ≤ x.toInt * y.toInt) (h2 : x.toInt * y.toInt ≤ 9223372036854775807) : (x * y).toInt = x.toInt * y.toInt := by
  rw [Int64.toInt_mul, Int.bmod_eq_of_le (by omega) (by omega)]
theorem lc_lt {x y : Int64} : lg_cmp x y < 0 ↔ x.toInt < y.toInt := by
  unfold lg_cmp
  rcases Int.lt_trichotomy x.toInt y.toInt with h | h | h
  · have a : ¬ x > y := by rw [gt_iff_lt, j_lt]; omega
    have b : ¬ x = y := by rw [j_eq]; omega
    simp [a, b, h]
  · have a : ¬ x > y := by rw [gt_iff_lt, j_lt]; omega
    have b : x = y := by rw [j_eq]; omega
    subst b
    simp
  · have a : x > y := by rw [gt_iff_lt, j_lt]; omega
    simp only [a, if_true]
    constructor
    · intro q; exact absurd q (by decide)
    · intro q; omega
theorem lc_eq {x y : Int64} : lg_cmp x y = 0 ↔ x.toInt = y.toInt := by
  unfold lg_cmp
  rcases Int.lt_trichotomy x.toInt y.toInt with h | h | h
  · have a : ¬ x > y := by rw [gt_iff_lt, j_lt]; omega
    have b : ¬ x = y := by rw [j_eq]; omega
    simp only [a, b, if_false]
    constructor
    · intro q; exact absurd q (by decide)
    · intro q; omega
  · have a : ¬ x > y := by rw [gt_iff_lt, j_lt]; omega
    have b : x = y := by rw [j_eq]; omega
    subst b
    simp
  · have a : x > y := by rw [gt_iff_lt, j_lt]; omega
    simp only [a, if_true]
    constructor
    · intro q; exact absurd q (by decide)
    · intro q; omega
theorem lc_gt {x y : Int64} : 0 < lg_cmp x y ↔ y.toInt < x.toInt := by
  unfold lg_cmp
  rcases Int.lt_trichotomy x.toInt y.toInt with h | h | h
  · have a : ¬ x > y := by rw [gt_iff_lt, j_lt]; omega
    have b : ¬ x = y := by rw [j_eq]; omega
    simp only [a, b, if_false]
    constructor
    · intro q; exact absurd q (by decide)
    · intro q; omega
  · have a : ¬ x > y := by rw [gt_iff_lt, j_lt]; omega
    have b : x = y := by rw [j_eq]; omega
    subst b
    simp
  · have a : x > y := by rw [gt_iff_lt, j_lt]; omega
    simp only [a, if_true]
    constructor
    · intro q; omega
    · intro q; decide
theorem lc_le {x y : Int64} : lg_cmp x y ≤ 0 ↔ x.toInt ≤ y.toInt := by
  have h := lc_gt (x := x) (y := y)
  have h2 : lg_cmp x y ≤ 0 ↔ ¬ 0 < lg_cmp x y := by rw [i_le, i_lt]; omega
  rw [h2, h]; omega
theorem lc_ge {x y : Int64} : 0 ≤ lg_cmp x y ↔ y.toInt ≤ x.toInt := by
  have h := lc_lt (x := x) (y := y)
  have h2 : 0 ≤ lg_cmp x y ↔ ¬ lg_cmp x y < 0 := by rw [i_le, i_lt]; omega
  rw [h2, h]; omega
theorem vin {x : Int32} {n : Nat} (h1 : 0 ≤ x.toInt) (h2 : x.toInt < n) : vp_in x n := vp_in_iff.mpr ⟨h1, h2⟩
theorem i_cl {x : Int32} (h : 0 ≤ x.toInt) : (x.toNatClampNeg : Int) = x.toInt := by
  show ((x.toInt.toNat : Nat) : Int) = x.toInt
  omega
