/-! part 04: registers, the numbers that the operations make, their bounds -/
theorem rs_c64 (x : Int32) : x.toInt64 = Int64.ofInt x.toInt := (Int64.ofInt_int32ToInt x).symm
theorem rs_t32 {n : Int} (h1 : -2147483648 ≤ n) (h2 : n < 2147483648) : (Int32.ofInt n).toInt = n :=
  Int32.toInt_ofInt_of_le (by omega) (by omega)
theorem rs_eq32 {x : Int32} {n : Int} (h : x.toInt = n) : x = Int32.ofInt n := by
  rw [← h, Int32.ofInt_toInt]
/-- register r of the cells -/
def rs_z (c : Nat → Int32) (r : Nat) : Nat → Int := fun k => (c (5 * r + k)).toInt
def rs_ok (z : Nat → Int) : Prop := (∀ k, k < 4 → -30 ≤ z k ∧ z k ≤ 30) ∧ 1 ≤ z 4 ∧ z 4 ≤ 30 ∧ rs_G z = 1
def rs_Rc (c : Nat → Int32) : Prop := ∀ r, r < 6 → rs_ok (rs_z c r)
theorem rs_okb {z : Nat → Int} (h : rs_ok z) {k : Nat} (hk : k < 5) : -30 ≤ z k ∧ z k ≤ 30 := by
  by_cases h4 : k < 4
  · exact h.1 k h4
  · have e : k = 4 := by omega
    have h1 := h.2.1
    have h2 := h.2.2.1
    rw [e]
    exact ⟨by omega, h2⟩
theorem rs_okc {z w : Nat → Int} (e : ∀ k, k < 5 → z k = w k) (h : rs_ok z) : rs_ok w := by
  obtain ⟨h1, h2, h3, h4⟩ := h
  have e0 := e 0 (by omega)
  have e1 := e 1 (by omega)
  have e2 := e 2 (by omega)
  have e3 := e 3 (by omega)
  have e4 := e 4 (by omega)
  refine ⟨fun k hk => ?_, ?_, ?_, ?_⟩
  · rw [← e k (by omega)]
    exact h1 k hk
  · rw [← e4]
    exact h2
  · rw [← e4]
    exact h3
  · unfold rs_G at *
    rw [← e0, ← e1, ← e2, ← e3, ← e4]
    exact h4
/-- the cells with the first i places of register r written -/
def rs_st (c : Nat → Int32) (r : Nat) (q : Nat → Int) (i : Nat) : Nat → Int32 := fun j => if 5 * r ≤ j ∧ j < 5 * r + i then Int32.ofInt (q (j - 5 * r)) else c j
theorem rs_st0 (c : Nat → Int32) (r : Nat) (q : Nat → Int) : rs_st c r q 0 = c := by
  funext j
  exact if_neg (by omega)
theorem rs_sts (c : Nat → Int32) (r : Nat) (q : Nat → Int) (i : Nat) : upd (rs_st c r q i) (5 * r + i) (Int32.ofInt (q i)) = rs_st c r q (i + 1) := by
  funext j
  unfold upd rs_st
  by_cases h : j = 5 * r + i
  · rw [if_pos h, if_pos (by omega)]
    have e : j - 5 * r = i := by omega
    rw [e]
  · rw [if_neg h]
    by_cases h2 : 5 * r ≤ j ∧ j < 5 * r + i
    · rw [if_pos h2, if_pos (by omega)]
    · rw [if_neg h2, if_neg (by omega)]
theorem rs_stn {c : Nat → Int32} {r : Nat} {q : Nat → Int} {i j : Nat} (h : j < 5 * r ∨ 5 * r + i ≤ j) : rs_st c r q i j = c j := if_neg (by omega)
theorem rs_stp {c : Nat → Int32} {r : Nat} {q : Nat → Int} {i k : Nat} (h : k < i) : rs_st c r q i (5 * r + k) = Int32.ofInt (q k) := by
  unfold rs_st
  rw [if_pos (by omega)]
  have e : 5 * r + k - 5 * r = k := by omega
  rw [e]
theorem rs_Rst {c : Nat → Int32} {r : Nat} {q : Nat → Int} (hc : rs_Rc c) (hq : rs_ok q) : rs_Rc (rs_st c r q 5) := by
  intro s hs
  by_cases e : s = r
  · subst e
    refine rs_okc (fun k hk => ?_) hq
    have hb := rs_okb hq hk
    unfold rs_z
    rw [rs_stp hk, rs_t32 (by omega) (by omega)]
  · refine rs_okc (fun k hk => ?_) (hc s hs)
    unfold rs_z
    rw [rs_stn (by omega)]
/-- x plus t times y -/
def rs_add (t : Int) (x y : Nat → Int) : Nat → Int := fun k => if k < 4 then x k * y 4 + t * y k * x 4 else x 4 * y 4
theorem rs_addb {t : Int} {x y : Nat → Int} (hx : rs_ok x) (hy : rs_ok y) (ht : t = 1 ∨ t = -1) {k : Nat} (hk : k < 5) : -1800 ≤ rs_add t x y k ∧ rs_add t x y k ≤ 1800 := by
  unfold rs_add
  have h4 := rs_mc 30 30 900 (by omega) (rs_okb hx (k := 4) (by omega)) (rs_okb hy (k := 4) (by omega))
  by_cases h : k < 4
  · rw [if_pos h]
    have h1 := rs_mc 30 30 900 (by omega) (rs_okb hx hk) (rs_okb hy (k := 4) (by omega))
    have h2 := rs_mc (x := t * y k) 30 30 900 (by omega) (by have := rs_okb hy hk; rcases ht with rfl | rfl <;> omega) (rs_okb hx (k := 4) (by omega))
    omega
  · rw [if_neg h]
    omega
theorem rs_pos11 {x y : Int} (hx : 1 ≤ x) (hy : 1 ≤ y) : 1 ≤ x * y := by
  have h := Int.mul_pos (show 0 < x by omega) (show 0 < y by omega)
  omega
theorem rs_add4 {t : Int} {x y : Nat → Int} (hx : rs_ok x) (hy : rs_ok y) : 1 ≤ rs_add t x y 4 := rs_pos11 hx.2.1 hy.2.1
/-- x times y -/
def rs_mul (x y : Nat → Int) : Nat → Int
  | 0 => x 0 * y 0 + 2 * x 1 * y 1 + 3 * x 2 * y 2 + 6 * x 3 * y 3
  | 1 => x 0 * y 1 + x 1 * y 0 + 3 * x 2 * y 3 + 3 * x 3 * y 2
  | 2 => x 0 * y 2 + x 2 * y 0 + 2 * x 1 * y 3 + 2 * x 3 * y 1
  | 3 => x 0 * y 3 + x 3 * y 0 + x 1 * y 2 + x 2 * y 1
  | _ => x 4 * y 4
theorem rs_co5 {P : Nat → Prop} (h0 : P 0) (h1 : P 1) (h2 : P 2) (h3 : P 3) (h4 : P 4) {k : Nat} (hk : k < 5) : P k := by
  rcases (show k = 0 ∨ k = 1 ∨ k = 2 ∨ k = 3 ∨ k = 4 by omega) with rfl | rfl | rfl | rfl | rfl
  · exact h0
  · exact h1
  · exact h2
  · exact h3
  · exact h4
theorem rs_mulb {x y : Nat → Int} (K : Int) (hx : ∀ k, k < 5 → -30 ≤ x k ∧ x k ≤ 30) (hy : ∀ k, k < 5 → -K ≤ y k ∧ y k ≤ K) {k : Nat} (hk : k < 5) : -(360 * K) ≤ rs_mul x y k ∧ rs_mul x y k ≤ 360 * K := by
  have x0 := hx 0 (by omega)
  have x1 := hx 1 (by omega)
  have x2 := hx 2 (by omega)
  have x3 := hx 3 (by omega)
  have x4 := hx 4 (by omega)
  have y0 := hy 0 (by omega)
  have y1 := hy 1 (by omega)
  have y2 := hy 2 (by omega)
  have y3 := hy 3 (by omega)
  have y4 := hy 4 (by omega)
  refine rs_co5 (P := fun k => -(360 * K) ≤ rs_mul x y k ∧ rs_mul x y k ≤ 360 * K) ?_ ?_ ?_ ?_ ?_ hk
  · have a1 := rs_mc (x := x 0) 30 K (30 * K) (by omega) (by omega) y0
    have a2 := rs_mc (x := 2 * x 1) 60 K (60 * K) (by omega) (by omega) y1
    have a3 := rs_mc (x := 3 * x 2) 90 K (90 * K) (by omega) (by omega) y2
    have a4 := rs_mc (x := 6 * x 3) 180 K (180 * K) (by omega) (by omega) y3
    show -(360 * K) ≤ x 0 * y 0 + 2 * x 1 * y 1 + 3 * x 2 * y 2 + 6 * x 3 * y 3 ∧ x 0 * y 0 + 2 * x 1 * y 1 + 3 * x 2 * y 2 + 6 * x 3 * y 3 ≤ 360 * K
    omega
  · have a1 := rs_mc (x := x 0) 30 K (30 * K) (by omega) (by omega) y1
    have a2 := rs_mc (x := x 1) 30 K (30 * K) (by omega) (by omega) y0
    have a3 := rs_mc (x := 3 * x 2) 90 K (90 * K) (by omega) (by omega) y3
    have a4 := rs_mc (x := 3 * x 3) 90 K (90 * K) (by omega) (by omega) y2
    show -(360 * K) ≤ x 0 * y 1 + x 1 * y 0 + 3 * x 2 * y 3 + 3 * x 3 * y 2 ∧ x 0 * y 1 + x 1 * y 0 + 3 * x 2 * y 3 + 3 * x 3 * y 2 ≤ 360 * K
    omega
  · have a1 := rs_mc (x := x 0) 30 K (30 * K) (by omega) (by omega) y2
    have a2 := rs_mc (x := x 2) 30 K (30 * K) (by omega) (by omega) y0
    have a3 := rs_mc (x := 2 * x 1) 60 K (60 * K) (by omega) (by omega) y3
    have a4 := rs_mc (x := 2 * x 3) 60 K (60 * K) (by omega) (by omega) y1
    show -(360 * K) ≤ x 0 * y 2 + x 2 * y 0 + 2 * x 1 * y 3 + 2 * x 3 * y 1 ∧ x 0 * y 2 + x 2 * y 0 + 2 * x 1 * y 3 + 2 * x 3 * y 1 ≤ 360 * K
    omega
  · have a1 := rs_mc (x := x 0) 30 K (30 * K) (by omega) (by omega) y3
    have a2 := rs_mc (x := x 3) 30 K (30 * K) (by omega) (by omega) y0
    have a3 := rs_mc (x := x 1) 30 K (30 * K) (by omega) (by omega) y2
    have a4 := rs_mc (x := x 2) 30 K (30 * K) (by omega) (by omega) y1
    show -(360 * K) ≤ x 0 * y 3 + x 3 * y 0 + x 1 * y 2 + x 2 * y 1 ∧ x 0 * y 3 + x 3 * y 0 + x 1 * y 2 + x 2 * y 1 ≤ 360 * K
    omega
  · have a1 := rs_mc (x := x 4) 30 K (30 * K) (by omega) (by omega) y4
    show -(360 * K) ≤ x 4 * y 4 ∧ x 4 * y 4 ≤ 360 * K
    omega
def rs_u (y : Nat → Int) : Int := y 0 * y 0 - 2 * y 1 * y 1 + 3 * y 2 * y 2 - 6 * y 3 * y 3
def rs_v (y : Nat → Int) : Int := 2 * y 0 * y 2 - 4 * y 1 * y 3
def rs_N (y : Nat → Int) : Int := rs_u y * rs_u y - 3 * rs_v y * rs_v y
/-- 1 over y, as the component takes it -/
def rs_inv (y : Nat → Int) : Nat → Int
  | 0 => y 4 * (y 0 * rs_u y - 3 * y 2 * rs_v y)
  | 1 => y 4 * (3 * y 3 * rs_v y - y 1 * rs_u y)
  | 2 => y 4 * (y 2 * rs_u y - y 0 * rs_v y)
  | 3 => y 4 * (y 1 * rs_v y - y 3 * rs_u y)
  | _ => rs_N y
theorem rs_uvb {y : Nat → Int} (hy : ∀ k, k < 5 → -30 ≤ y k ∧ y k ≤ 30) : (-10800 ≤ rs_u y ∧ rs_u y ≤ 10800) ∧ (-5400 ≤ rs_v y ∧ rs_v y ≤ 5400) := by
  have y0 := hy 0 (by omega)
  have y1 := hy 1 (by omega)
  have y2 := hy 2 (by omega)
  have y3 := hy 3 (by omega)
  have a1 := rs_mc (x := y 0) (y := y 0) 30 30 900 (by omega) y0 y0
  have a2 := rs_mc (x := 2 * y 1) (y := y 1) 60 30 1800 (by omega) (by omega) y1
  have a3 := rs_mc (x := 3 * y 2) (y := y 2) 90 30 2700 (by omega) (by omega) y2
  have a4 := rs_mc (x := 6 * y 3) (y := y 3) 180 30 5400 (by omega) (by omega) y3
  have a5 := rs_mc (x := 2 * y 0) (y := y 2) 60 30 1800 (by omega) (by omega) y2
  have a6 := rs_mc (x := 4 * y 1) (y := y 3) 120 30 3600 (by omega) (by omega) y3
  unfold rs_u rs_v
  omega
theorem rs_Nb {y : Nat → Int} (hy : ∀ k, k < 5 → -30 ≤ y k ∧ y k ≤ 30) : -300000000 ≤ rs_N y ∧ rs_N y ≤ 300000000 := by
  obtain ⟨hu, hv⟩ := rs_uvb hy
  have a1 := rs_mc 10800 10800 116640000 (by omega) hu hu
  have a2 := rs_mc (x := 3 * rs_v y) 16200 5400 87480000 (by omega) (by omega) hv
  unfold rs_N
  omega
theorem rs_invb {y : Nat → Int} (hy : ∀ k, k < 5 → -30 ≤ y k ∧ y k ≤ 30) {k : Nat} (hk : k < 5) : -300000000 ≤ rs_inv y k ∧ rs_inv y k ≤ 300000000 := by
  obtain ⟨hu, hv⟩ := rs_uvb hy
  have y0 := hy 0 (by omega)
  have y1 := hy 1 (by omega)
  have y2 := hy 2 (by omega)
  have y3 := hy 3 (by omega)
  have y4 := hy 4 (by omega)
  refine rs_co5 (P := fun k => -300000000 ≤ rs_inv y k ∧ rs_inv y k ≤ 300000000) ?_ ?_ ?_ ?_ (rs_Nb hy) hk
  · have a1 := rs_mc (x := y 0) 30 10800 324000 (by omega) y0 hu
    have a2 := rs_mc (x := 3 * y 2) 90 5400 486000 (by omega) (by omega) hv
    exact rs_mc 30 810000 300000000 (by omega) y4 (by omega)
  · have a1 := rs_mc (x := y 1) 30 10800 324000 (by omega) y1 hu
    have a2 := rs_mc (x := 3 * y 3) 90 5400 486000 (by omega) (by omega) hv
    exact rs_mc 30 810000 300000000 (by omega) y4 (by omega)
  · have a1 := rs_mc (x := y 2) 30 10800 324000 (by omega) y2 hu
    have a2 := rs_mc (x := y 0) 30 5400 162000 (by omega) y0 hv
    exact rs_mc 30 810000 300000000 (by omega) y4 (by omega)
  · have a1 := rs_mc (x := y 3) 30 10800 324000 (by omega) y3 hu
    have a2 := rs_mc (x := y 1) 30 5400 162000 (by omega) y1 hv
    exact rs_mc 30 810000 300000000 (by omega) y4 (by omega)
theorem rs_Nef (a b c d : Int) : (a * a - 2 * b * b + 3 * c * c - 6 * d * d) * (a * a - 2 * b * b + 3 * c * c - 6 * d * d) - 3 * (2 * a * c - 4 * b * d) * (2 * a * c - 4 * b * d) = (a * a + 2 * (b * b) - 3 * (c * c) - 6 * (d * d)) * (a * a + 2 * (b * b) - 3 * (c * c) - 6 * (d * d)) - 2 * ((2 * (a * b) - 6 * (c * d)) * (2 * (a * b) - 6 * (c * d))) := by grind
theorem rs_N0 {y : Nat → Int} (h : ¬ (y 0 = 0 ∧ y 1 = 0 ∧ y 2 = 0 ∧ y 3 = 0)) : rs_N y ≠ 0 := by
  intro hN
  have e := rs_Nef (y 0) (y 1) (y 2) (y 3)
  have e2 : rs_N y = (y 0 * y 0 + 2 * (y 1 * y 1) - 3 * (y 2 * y 2) - 6 * (y 3 * y 3)) * (y 0 * y 0 + 2 * (y 1 * y 1) - 3 * (y 2 * y 2) - 6 * (y 3 * y 3)) - 2 * ((2 * (y 0 * y 1) - 6 * (y 2 * y 3)) * (2 * (y 0 * y 1) - 6 * (y 2 * y 3))) := e
  rw [hN] at e2
  have h2 := rs_i2 (x := y 0 * y 0 + 2 * (y 1 * y 1) - 3 * (y 2 * y 2) - 6 * (y 3 * y 3)) (y := 2 * (y 0 * y 1) - 6 * (y 2 * y 3)) (by omega)
  exact h (rs_n0 (by have := h2.1; omega) (by have := h2.2; omega))
