/-! part 05: the reference's determinants are the component's quotient (written by wip/whole/gen_cramer.py) -/
theorem rs_dN (a b c d : Int) : (a * a - (2 * b) * b) * (a * a - (2 * b) * b) - (a * (3 * d) - (3 * c) * b) * ((2 * d) * a - (2 * b) * c) + (a * (3 * c) - (6 * d) * b) * ((2 * d) * b - a * c) + ((2 * b) * (3 * d) - (3 * c) * a) * (c * a - (2 * b) * d) - ((2 * b) * (3 * c) - (6 * d) * a) * (c * b - a * d) + ((3 * c) * (3 * c) - (6 * d) * (3 * d)) * (c * c - (2 * d) * d) = (a * a - 2 * b * b + 3 * c * c - 6 * d * d) * (a * a - 2 * b * b + 3 * c * c - 6 * d * d) - 3 * (2 * a * c - 4 * b * d) * (2 * a * c - 4 * b * d) := by grind
theorem rs_d0 (a b c d m p q r s : Int) : ((p * a - (2 * b) * q) * (a * a - (2 * b) * b) - (p * (3 * d) - (3 * c) * q) * ((2 * d) * a - (2 * b) * c) + (p * (3 * c) - (6 * d) * q) * ((2 * d) * b - a * c) + ((2 * b) * (3 * d) - (3 * c) * a) * (r * a - (2 * b) * s) - ((2 * b) * (3 * c) - (6 * d) * a) * (r * b - a * s) + ((3 * c) * (3 * c) - (6 * d) * (3 * d)) * (r * c - (2 * d) * s)) * m = p * (m * (a * (a * a - 2 * b * b + 3 * c * c - 6 * d * d) - 3 * c * (2 * a * c - 4 * b * d))) + 2 * q * (m * (3 * d * (2 * a * c - 4 * b * d) - b * (a * a - 2 * b * b + 3 * c * c - 6 * d * d))) + 3 * r * (m * (c * (a * a - 2 * b * b + 3 * c * c - 6 * d * d) - a * (2 * a * c - 4 * b * d))) + 6 * s * (m * (b * (2 * a * c - 4 * b * d) - d * (a * a - 2 * b * b + 3 * c * c - 6 * d * d))) := by grind
theorem rs_d1 (a b c d m p q r s : Int) : ((a * q - p * b) * (a * a - (2 * b) * b) - (a * (3 * d) - (3 * c) * b) * (r * a - (2 * b) * s) + (a * (3 * c) - (6 * d) * b) * (r * b - a * s) + (p * (3 * d) - (3 * c) * q) * (c * a - (2 * b) * d) - (p * (3 * c) - (6 * d) * q) * (c * b - a * d) + ((3 * c) * (3 * c) - (6 * d) * (3 * d)) * (c * s - r * d)) * m = p * (m * (3 * d * (2 * a * c - 4 * b * d) - b * (a * a - 2 * b * b + 3 * c * c - 6 * d * d))) + q * (m * (a * (a * a - 2 * b * b + 3 * c * c - 6 * d * d) - 3 * c * (2 * a * c - 4 * b * d))) + 3 * r * (m * (b * (2 * a * c - 4 * b * d) - d * (a * a - 2 * b * b + 3 * c * c - 6 * d * d))) + 3 * s * (m * (c * (a * a - 2 * b * b + 3 * c * c - 6 * d * d) - a * (2 * a * c - 4 * b * d))) := by grind
theorem rs_d2 (a b c d m p q r s : Int) : ((a * a - (2 * b) * b) * (r * a - (2 * b) * s) - (a * q - p * b) * ((2 * d) * a - (2 * b) * c) + (a * (3 * c) - (6 * d) * b) * ((2 * d) * s - r * c) + ((2 * b) * q - p * a) * (c * a - (2 * b) * d) - ((2 * b) * (3 * c) - (6 * d) * a) * (c * s - r * d) + (p * (3 * c) - (6 * d) * q) * (c * c - (2 * d) * d)) * m = p * (m * (c * (a * a - 2 * b * b + 3 * c * c - 6 * d * d) - a * (2 * a * c - 4 * b * d))) + r * (m * (a * (a * a - 2 * b * b + 3 * c * c - 6 * d * d) - 3 * c * (2 * a * c - 4 * b * d))) + 2 * q * (m * (b * (2 * a * c - 4 * b * d) - d * (a * a - 2 * b * b + 3 * c * c - 6 * d * d))) + 2 * s * (m * (3 * d * (2 * a * c - 4 * b * d) - b * (a * a - 2 * b * b + 3 * c * c - 6 * d * d))) := by grind
theorem rs_d3 (a b c d m p q r s : Int) : ((a * a - (2 * b) * b) * (a * s - r * b) - (a * (3 * d) - (3 * c) * b) * ((2 * d) * s - r * c) + (a * q - p * b) * ((2 * d) * b - a * c) + ((2 * b) * (3 * d) - (3 * c) * a) * (c * s - r * d) - ((2 * b) * q - p * a) * (c * b - a * d) + ((3 * c) * q - p * (3 * d)) * (c * c - (2 * d) * d)) * m = p * (m * (b * (2 * a * c - 4 * b * d) - d * (a * a - 2 * b * b + 3 * c * c - 6 * d * d))) + s * (m * (a * (a * a - 2 * b * b + 3 * c * c - 6 * d * d) - 3 * c * (2 * a * c - 4 * b * d))) + q * (m * (c * (a * a - 2 * b * b + 3 * c * c - 6 * d * d) - a * (2 * a * c - 4 * b * d))) + r * (m * (3 * d * (2 * a * c - 4 * b * d) - b * (a * a - 2 * b * b + 3 * c * c - 6 * d * d))) := by grind
def rs_mi (E : Nat → Int) (i k p q : Nat) : Int := E (4 * i + p) * E (4 * k + q) - E (4 * i + q) * E (4 * k + p)
def rs_det (E : Nat → Int) : Int := rs_mi E 0 1 0 1 * rs_mi E 2 3 2 3 - rs_mi E 0 1 0 2 * rs_mi E 2 3 1 3 + rs_mi E 0 1 0 3 * rs_mi E 2 3 1 2 + rs_mi E 0 1 1 2 * rs_mi E 2 3 0 3 - rs_mi E 0 1 1 3 * rs_mi E 2 3 0 2 + rs_mi E 0 1 2 3 * rs_mi E 2 3 0 1
def rs_mat (y : Nat → Int) : Nat → Int
  | 0 => y 0
  | 1 => 2 * y 1
  | 2 => 3 * y 2
  | 3 => 6 * y 3
  | 4 => y 1
  | 5 => y 0
  | 6 => 3 * y 3
  | 7 => 3 * y 2
  | 8 => y 2
  | 9 => 2 * y 3
  | 10 => y 0
  | 11 => 2 * y 1
  | 12 => y 3
  | 13 => y 2
  | 14 => y 1
  | _ => y 0
def rs_ch (n : Nat) (x y : Nat → Int) (i : Nat) : Int := if i % 4 = n then x (i / 4) else rs_mat y i
theorem rs_detN (x y : Nat → Int) : rs_det (rs_ch 4 x y) = rs_N y := rs_dN (y 0) (y 1) (y 2) (y 3)
theorem rs_det0 (x y : Nat → Int) : rs_det (rs_ch 0 x y) * y 4 = rs_mul x (rs_inv y) 0 := rs_d0 (y 0) (y 1) (y 2) (y 3) (y 4) (x 0) (x 1) (x 2) (x 3)
theorem rs_det1 (x y : Nat → Int) : rs_det (rs_ch 1 x y) * y 4 = rs_mul x (rs_inv y) 1 := rs_d1 (y 0) (y 1) (y 2) (y 3) (y 4) (x 0) (x 1) (x 2) (x 3)
theorem rs_det2 (x y : Nat → Int) : rs_det (rs_ch 2 x y) * y 4 = rs_mul x (rs_inv y) 2 := rs_d2 (y 0) (y 1) (y 2) (y 3) (y 4) (x 0) (x 1) (x 2) (x 3)
theorem rs_det3 (x y : Nat → Int) : rs_det (rs_ch 3 x y) * y 4 = rs_mul x (rs_inv y) 3 := rs_d3 (y 0) (y 1) (y 2) (y 3) (y 4) (x 0) (x 1) (x 2) (x 3)
theorem rs_detk (x y : Nat → Int) {k : Nat} (hk : k < 4) : rs_det (rs_ch k x y) * y 4 = rs_mul x (rs_inv y) k := by
  rcases (show k = 0 ∨ k = 1 ∨ k = 2 ∨ k = 3 by omega) with rfl | rfl | rfl | rfl
  · exact rs_det0 x y
  · exact rs_det1 x y
  · exact rs_det2 x y
  · exact rs_det3 x y
/-- the reference's product, by rows of its matrix -/
theorem rs_row (x y : Nat → Int) {k : Nat} (hk : k < 4) : rs_mat y (4 * k + 0) * x 0 + rs_mat y (4 * k + 1) * x 1 + rs_mat y (4 * k + 2) * x 2 + rs_mat y (4 * k + 3) * x 3 = rs_mul x y k := by
  rcases (show k = 0 ∨ k = 1 ∨ k = 2 ∨ k = 3 by omega) with rfl | rfl | rfl | rfl
  · show y 0 * x 0 + 2 * y 1 * x 1 + 3 * y 2 * x 2 + 6 * y 3 * x 3 = x 0 * y 0 + 2 * x 1 * y 1 + 3 * x 2 * y 2 + 6 * x 3 * y 3
    grind
  · show y 1 * x 0 + y 0 * x 1 + 3 * y 3 * x 2 + 3 * y 2 * x 3 = x 0 * y 1 + x 1 * y 0 + 3 * x 2 * y 3 + 3 * x 3 * y 2
    grind
  · show y 2 * x 0 + 2 * y 3 * x 1 + y 0 * x 2 + 2 * y 1 * x 3 = x 0 * y 2 + x 2 * y 0 + 2 * x 1 * y 3 + 2 * x 3 * y 1
    grind
  · show y 3 * x 0 + y 2 * x 1 + y 1 * x 2 + y 0 * x 3 = x 0 * y 3 + x 3 * y 0 + x 1 * y 2 + x 2 * y 1
    grind
