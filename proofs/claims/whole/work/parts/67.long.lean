/-! L3: small rows on long numbers. -/
def jN (n : Nat) : Int64 := Int64.ofNat n
theorem j_ext {a b : Int64} (h : a.toInt = b.toInt) : a = b := Int64.toInt_inj.mp h
theorem jN_toInt {n : Nat} (h : n < 2 ^ 63) : (jN n).toInt = n := Int64.toInt_ofNat_of_lt h
theorem j_lit (k : Nat) : (OfNat.ofNat k : Int64) = jN k := by
  have h : jN k = (OfNat.ofNat k : Int64) := rfl
  rw [h]
theorem jN_add (a b : Nat) : jN a + jN b = jN (a + b) := (Int64.ofNat_add a b).symm
theorem jN_mul (a b : Nat) : jN a * jN b = jN (a * b) := (Int64.ofNat_mul a b).symm
theorem jN_sub {a b : Nat} (h : b ≤ a) : jN a - jN b = jN (a - b) := by
  have h1 : jN (a - b) + jN b = jN a := by rw [jN_add]; congr 1; omega
  rw [← h1, Int64.add_sub_cancel]
theorem jN_inj {a b : Nat} (ha : a < 2 ^ 63) (hb : b < 2 ^ 63) : (jN a = jN b) = (a = b) := propext ⟨fun h => by
  have h1 := congrArg Int64.toInt h
  rw [jN_toInt ha, jN_toInt hb] at h1
  omega, fun h => by rw [h]⟩
theorem jN_le {a b : Nat} (ha : a < 2 ^ 63) (hb : b < 2 ^ 63) : (jN a ≤ jN b) = (a ≤ b) := propext (by
  rw [Int64.le_iff_toInt_le, jN_toInt ha, jN_toInt hb]
  omega)
theorem jN_lt {a b : Nat} (ha : a < 2 ^ 63) (hb : b < 2 ^ 63) : (jN a < jN b) = (a < b) := propext (by
  rw [Int64.lt_iff_toInt_lt, jN_toInt ha, jN_toInt hb]
  omega)
theorem jN_div {a b : Nat} (ha : a < 2 ^ 63) (hb : b < 2 ^ 63) : jN a / jN b = jN (a / b) := by
  have h0 : a / b ≤ a := Nat.div_le_self a b
  have e : (a : Int).tdiv (b : Int) = ((a / b : Nat) : Int) := rfl
  apply j_ext
  rw [Int64.toInt_div, jN_toInt ha, jN_toInt hb, jN_toInt (by omega), e]
  generalize a / b = q at h0 ⊢
  exact Int.bmod_eq_of_le (by omega) (by omega)
theorem jN_up {n : Nat} (h : n < 2 ^ 31) : Int32.toInt64 (nI n) = jN n := j_ext (by rw [j_of32, nI_toInt h, jN_toInt (by omega)])
theorem jN_down {n : Nat} (h : n < 2 ^ 31) : Int64.toInt32 (jN n) = nI n := by rw [← jN_up h, Int32.toInt32_toInt64]
theorem jN_nl {n : Nat} (h : n < 2 ^ 63) (h0 : 0 < n) : knl (jN n) = true := decide_eq_true (fun e => by
  have e := congrArg Int64.toInt e
  rw [jN_toInt h] at e
  have e : (n : Int) = 0 := e
  omega)
theorem fl_eq {x y k : Int} (hy : 0 < y) (h1 : k * y ≤ x) (h2 : x < k * y + y) : x / y = k := by
  have a1 := (Int.le_ediv_iff_mul_le hy).mpr h1
  have a2 := (Int.ediv_lt_iff_lt_mul (a := x) (b := k + 1) hy).mpr (by rw [Int.add_mul, Int.one_mul]; exact h2)
  omega
theorem jt_pos {a b : Int64} (ha : 0 ≤ a.toInt) (hb : 0 < b.toInt) : (a / b).toInt = a.toInt / b.toInt := by
  have h1 := a.toInt_lt
  have h2 : a.toInt / b.toInt ≤ a.toInt := Int.ediv_le_self _ ha
  have h3 : 0 ≤ a.toInt / b.toInt := Int.ediv_nonneg ha (by omega)
  rw [Int64.toInt_div, Int.tdiv_eq_ediv_of_nonneg ha]
  exact Int.bmod_eq_of_le (by omega) (by omega)
theorem jt_neg {a b : Int64} (ha : a.toInt ≤ 0) (ha' : -2 ^ 62 ≤ a.toInt) (hb : 0 < b.toInt) : (a / b).toInt = -(-a.toInt / b.toInt) := by
  have h2 : -a.toInt / b.toInt ≤ -a.toInt := Int.ediv_le_self _ (by omega)
  have h3 : 0 ≤ -a.toInt / b.toInt := Int.ediv_nonneg (by omega) (by omega)
  have e : a.toInt.tdiv b.toInt = -(-a.toInt / b.toInt) := by
    rw [← Int.tdiv_eq_ediv_of_nonneg (by omega), Int.neg_tdiv, Int.neg_neg]
  rw [Int64.toInt_div, e]
  exact Int.bmod_eq_of_le (by omega) (by omega)
/-- the quotient that is not above -/
def flr (x y : Int64) : Int64 := if (0 : Int64) ≤ x then x / y else if x / y * y = x then x / y else x / y - 1
theorem flr_toInt {x y : Int64} (hy0 : 0 < y.toInt) (hx : -2 ^ 62 ≤ x.toInt) : (flr x y).toInt = x.toInt / y.toInt := by
  have t1 : (1 : Int64).toInt = 1 := rfl
  unfold flr
  by_cases h : (0 : Int64) ≤ x
  · rw [if_pos h]
    exact jt_pos (by rw [Int64.le_iff_toInt_le] at h; exact h) hy0
  · rw [if_neg h]
    have hn : x.toInt < 0 := by rw [Int64.le_iff_toInt_le] at h; exact Int.not_le.mp h
    have q := jt_neg (a := x) (b := y) (by omega) (by omega) hy0
    have m1 := Int.mul_ediv_add_emod (-x.toInt) y.toInt
    have m2 := Int.emod_nonneg (-x.toInt) (show y.toInt ≠ 0 by omega)
    have m3 := Int.emod_lt_of_pos (-x.toInt) hy0
    have m4 : 0 ≤ -x.toInt / y.toInt := Int.ediv_nonneg (by omega) (by omega)
    have m5 : -x.toInt / y.toInt ≤ -x.toInt := Int.ediv_le_self _ (by omega)
    generalize -x.toInt / y.toInt = m at *
    generalize -x.toInt % y.toInt = r at *
    have m6 : y.toInt * m = m * y.toInt := Int.mul_comm _ _
    have m7 : -m * y.toInt = -(m * y.toInt) := Int.neg_mul _ _
    have m9 : 0 ≤ m * y.toInt := Int.mul_nonneg m4 (by omega)
    have p : (x / y * y).toInt = -(m * y.toInt) := by rw [j_mul (by rw [q, m7]; omega) (by rw [q, m7]; omega), q, m7]
    by_cases h9 : x / y * y = x
    · rw [if_pos h9, q]
      have h9 := congrArg Int64.toInt h9
      rw [p] at h9
      exact (fl_eq hy0 (by rw [m7]; omega) (by rw [m7]; omega)).symm
    · rw [if_neg h9, j_sub (by rw [q, t1]; omega) (by rw [q, t1]; omega), q, t1]
      have h9 : ¬ r = 0 := fun h => h9 (j_ext (by rw [p]; omega))
      have m8 : (-m - 1) * y.toInt = -(m * y.toInt) - y.toInt := by rw [Int.sub_mul, m7, Int.one_mul]
      exact (fl_eq hy0 (by rw [m8]; omega) (by rw [m8]; omega)).symm
theorem flr_eq {x y : Int64} (hy : 0 < y.toInt) : jMath_floorDiv x y = some (flr x y) := by
  have h0 : (0 : Int64) ≤ y := by rw [Int64.le_iff_toInt_le]; exact Int.le_of_lt hy
  have hb : ¬ y = 0 := fun h => by rw [h] at hy; exact absurd hy (by decide)
  unfold jMath_floorDiv flr
  rw [kg_t (by unfold knl; exact decide_eq_true hb)]
  by_cases h : 0 ≤ x
  · rw [if_pos ((i64_xor_sign h0).mpr h), if_pos h]
  · rw [if_neg (fun z => h ((i64_xor_sign h0).mp z)), if_neg h]
    split <;> rfl
theorem nr_toInt {a b : Int64} (hb : 0 < b.toInt) (hb2 : b.toInt ≤ 2 ^ 40) (ha : -2 ^ 60 ≤ a.toInt) (ha2 : a.toInt ≤ 2 ^ 60) : (nr a b).toInt = (2 * a.toInt + b.toInt) / (2 * b.toInt) := by
  have t2 : (2 : Int64).toInt = 2 := rfl
  have e1 : (2 * a).toInt = 2 * a.toInt := by rw [j_mul (by rw [t2]; omega) (by rw [t2]; omega), t2]
  have e3 : (2 * b).toInt = 2 * b.toInt := by rw [j_mul (by rw [t2]; omega) (by rw [t2]; omega), t2]
  have e2 : (2 * a + b).toInt = 2 * a.toInt + b.toInt := by rw [j_add (by rw [e1]; omega) (by rw [e1]; omega), e1]
  have := flr_toInt (x := 2 * a + b) (y := 2 * b) (by omega) (by omega)
  rw [e2, e3] at this
  exact this
/-- a product of two that are not great -/
theorem j_mB {a b : Int64} {A B : Nat} (ha : a.toInt.natAbs ≤ A) (hb : b.toInt.natAbs ≤ B) (h : A * B < 2 ^ 63) : (a * b).toInt = a.toInt * b.toInt ∧ (a.toInt * b.toInt).natAbs ≤ A * B := by
  have e : (a.toInt * b.toInt).natAbs ≤ A * B := by rw [Int.natAbs_mul]; exact Nat.mul_le_mul ha hb
  exact ⟨j_mul (by omega) (by omega), e⟩
