/-! part 06: whole parts, and the reference's high and low halves -/
def rs_F (n : Int) (z : Nat → Int) : Int := (n * rs_T (z 0) (z 1) (z 2) (z 3)) / (z 4 * 1000000000000000000)
theorem rs_Tf (n f a b c d m : Int) : rs_T (n * a - f * m) (n * b) (n * c) (n * d) = n * rs_T a b c d - f * (m * 1000000000000000000) := by
  unfold rs_T
  grind
theorem rs_leF {n f : Int} {z : Nat → Int} (h4 : 1 ≤ z 4) : 0 ≤ rs_T (n * z 0 - f * z 4) (n * z 1) (n * z 2) (n * z 3) ↔ f ≤ rs_F n z := by
  unfold rs_F
  rw [rs_Tf, Int.le_ediv_iff_mul_le (by omega)]
  omega
theorem rs_nz {n x : Int} (hn : 0 ≤ n ∧ n ≤ 5) (hx : -30 ≤ x ∧ x ≤ 30) : -150 ≤ n * x ∧ n * x ≤ 150 :=
  rs_mc 5 30 150 (by omega) (by omega) hx
theorem rs_fB {n f : Int} {z : Nat → Int} (hn : 0 ≤ n ∧ n ≤ 5) (hz : rs_ok z) (hf : -1100 ≤ f ∧ f ≤ 1100) : rs_B (n * z 0 - f * z 4) (n * z 1) (n * z 2) (n * z 3) := by
  have a0 := rs_nz hn (hz.1 0 (by omega))
  have a1 := rs_nz hn (hz.1 1 (by omega))
  have a2 := rs_nz hn (hz.1 2 (by omega))
  have a3 := rs_nz hn (hz.1 3 (by omega))
  have h1 := hz.2.1
  have h2 := hz.2.2.1
  have a4 := rs_mc (x := f) (y := z 4) 1100 30 33000 (by omega) hf (by omega)
  exact ⟨by omega, by omega, by omega, by omega⟩
theorem rs_Fb {n : Int} {z : Nat → Int} (hn : 0 ≤ n ∧ n ≤ 5) (hz : rs_ok z) : -1024 ≤ rs_F n z ∧ rs_F n z < 1024 := by
  have a0 := rs_nz hn (hz.1 0 (by omega))
  have a1 := rs_nz hn (hz.1 1 (by omega))
  have a2 := rs_nz hn (hz.1 2 (by omega))
  have a3 := rs_nz hn (hz.1 3 (by omega))
  have h1 := hz.2.1
  constructor
  · rw [← rs_leF h1]
    unfold rs_T
    generalize n * z 0 = p at *
    generalize n * z 1 = q at *
    generalize n * z 2 = r at *
    generalize n * z 3 = s at *
    generalize z 4 = m at *
    clear hn hz
    omega
  · apply Int.not_le.mp
    rw [← rs_leF h1]
    unfold rs_T
    generalize n * z 0 = p at *
    generalize n * z 1 = q at *
    generalize n * z 2 = r at *
    generalize n * z 3 = s at *
    generalize z 4 = m at *
    clear hn hz
    omega
def rs_hi (a b c d : Int) : Int := a * 1000000000 + b * 1414213562 + c * 1732050807 + d * 2449489742
def rs_lo (b c d : Int) : Int := b * 373095048 + c * 568877293 + d * 783178098
theorem rs_hl (a b c d : Int) : rs_T a b c d = rs_hi a b c d * 1000000000 + rs_lo b c d := by
  unfold rs_T rs_hi rs_lo
  omega
theorem rs_hlb {a b c d : Int} (hB : rs_B a b c d) : (-50000000000000 ≤ rs_hi a b c d ∧ rs_hi a b c d ≤ 50000000000000) ∧ (-50000000000000 ≤ rs_lo b c d ∧ rs_lo b c d ≤ 50000000000000) := by
  obtain ⟨ha, hb, hc, hd⟩ := hB
  unfold rs_hi rs_lo
  constructor
  · constructor
    · omega
    · omega
  · constructor
    · omega
    · omega
/-- the reference's test, on the halves, is that T is above 0 -/
theorem rs_ysg {t h l : Int} (e : t = h * 1000000000 + l) : (0 < h + l.tdiv 1000000000 ∨ (h + l.tdiv 1000000000 = 0 ∧ 0 < l.tmod 1000000000) ∨ (h + l.tdiv 1000000000 = 1 ∧ l.tmod 1000000000 < 0)) ↔ 0 < t := by
  have h1 := Int.tdiv_mul_add_tmod l 1000000000
  have h2 := Int.tmod_lt_of_pos l (show (0 : Int) < 1000000000 by omega)
  have h3 := Int.lt_tmod_of_pos l (show (0 : Int) < 1000000000 by omega)
  generalize l.tdiv 1000000000 = p at *
  generalize l.tmod 1000000000 = q at *
  constructor
  · intro h4
    omega
  · intro h4
    omega
