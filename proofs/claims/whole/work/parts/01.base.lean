/-! part 01: longs as images of integers; squares, products, their bounds -/
def rs_S (n : Int) : Prop := -4000000000000000000 ≤ n ∧ n ≤ 4000000000000000000
theorem rs_t64 {n : Int} (h : rs_S n) : (Int64.ofInt n).toInt = n :=
  Int64.toInt_ofInt_of_le (by have := h.1; omega) (by have := h.2; omega)
theorem rs_lt64 {a b : Int} (ha : rs_S a) (hb : rs_S b) : Int64.ofInt a < Int64.ofInt b ↔ a < b := by
  rw [Int64.lt_iff_toInt_lt, rs_t64 ha, rs_t64 hb]
theorem rs_le64 {a b : Int} (ha : rs_S a) (hb : rs_S b) : Int64.ofInt a ≤ Int64.ofInt b ↔ a ≤ b := by
  rw [Int64.le_iff_toInt_le, rs_t64 ha, rs_t64 hb]
theorem rs_eq64 {a b : Int} (ha : rs_S a) (hb : rs_S b) : Int64.ofInt a = Int64.ofInt b ↔ a = b := by
  constructor
  · intro h
    have h2 := congrArg Int64.toInt h
    rwa [rs_t64 ha, rs_t64 hb] at h2
  · intro h
    rw [h]
theorem rs_min64 : Int64.minValue.toInt = -9223372036854775808 := by decide +kernel
theorem rs_max64 : Int64.maxValue.toInt = 9223372036854775807 := by decide +kernel
theorem rs_div64 {a b : Int} (ha : rs_S a) (hb : rs_S b) : Int64.ofInt a / Int64.ofInt b = Int64.ofInt (a.tdiv b) := by
  have ha1 := ha.1
  have ha2 := ha.2
  have hb1 := hb.1
  have hb2 := hb.2
  exact (Int64.ofInt_tdiv (by rw [rs_min64]; omega) (by rw [rs_max64]; omega) (by rw [rs_min64]; omega) (by rw [rs_max64]; omega)).symm
theorem rs_rem64 {a b : Int} (ha : rs_S a) (hb : rs_S b) : Int64.ofInt a - Int64.ofInt a / Int64.ofInt b * Int64.ofInt b = Int64.ofInt (a.tmod b) := by
  rw [rs_div64 ha hb, ← Int64.ofInt_mul, ← Int64.ofInt_sub]
  congr 1
  have h := Int.tdiv_mul_add_tmod a b
  omega
theorem rs_sqnn (x : Int) : 0 ≤ x * x := by
  rcases Int.le_total 0 x with h | h
  · exact Int.mul_nonneg h h
  · have h2 := Int.mul_nonneg (show 0 ≤ -x by omega) (show 0 ≤ -x by omega)
    rwa [Int.neg_mul_neg] at h2
theorem rs_sqle {x p : Int} (h1 : -p ≤ x) (h2 : x ≤ p) : x * x ≤ p * p := by
  have h := Int.mul_nonneg (show 0 ≤ p - x by omega) (show 0 ≤ p + x by omega)
  have e : (p - x) * (p + x) = p * p - x * x := by grind
  rw [e] at h
  omega
theorem rs_mb {x y p q : Int} (h1 : -p ≤ x) (h2 : x ≤ p) (h3 : -q ≤ y) (h4 : y ≤ q) : -(p * q) ≤ x * y ∧ x * y ≤ p * q := by
  have a1 := Int.mul_nonneg (show 0 ≤ p - x by omega) (show 0 ≤ q + y by omega)
  have a2 := Int.mul_nonneg (show 0 ≤ p + x by omega) (show 0 ≤ q - y by omega)
  have a3 := Int.mul_nonneg (show 0 ≤ p - x by omega) (show 0 ≤ q - y by omega)
  have a4 := Int.mul_nonneg (show 0 ≤ p + x by omega) (show 0 ≤ q + y by omega)
  have e1 : (p - x) * (q + y) + (p + x) * (q - y) = 2 * (p * q) - 2 * (x * y) := by grind
  have e2 : (p - x) * (q - y) + (p + x) * (q + y) = 2 * (p * q) + 2 * (x * y) := by grind
  constructor
  · omega
  · omega
/-- a product of two bounded numbers, with a literal bound -/
theorem rs_mc {x y : Int} (p q r : Int) (hr : p * q ≤ r) (hx : -p ≤ x ∧ x ≤ p) (hy : -q ≤ y ∧ y ≤ q) : -r ≤ x * y ∧ x * y ≤ r := by
  have h := rs_mb hx.1 hx.2 hy.1 hy.2
  omega
