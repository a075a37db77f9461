/-! part 03: common divisors -/
/-- Euclid on signed numbers, at most n steps -/
def rs_cd : Nat → Int → Int → Int
  | 0 => fun x _ => x
  | n + 1 => fun x y => if y = 0 then x else rs_cd n y (x.tmod y)
theorem rs_cd0 (n : Nat) (x : Int) : rs_cd n x 0 = x := by
  cases n with
  | zero => rfl
  | succ n =>
    show (if (0 : Int) = 0 then x else rs_cd n 0 (x.tmod 0)) = x
    exact if_pos rfl
theorem rs_cds (n : Nat) {x y : Int} (h : y ≠ 0) : rs_cd (n + 1) x y = rs_cd n y (x.tmod y) := if_neg h
theorem rs_gstep (x y : Nat) : Nat.gcd x y = Nat.gcd y (x % y) := by
  rw [Nat.gcd_comm x y, Nat.gcd_rec y x, Nat.gcd_comm (x % y) y]
theorem rs_half {y r k : Nat} (h0 : r ≠ 0) (h1 : r < y) (hk : y < 2 ^ (k + 1)) : y % r < 2 ^ k := by
  have a1 := Nat.div_add_mod y r
  have a2 := Nat.mod_lt y (show 0 < r by omega)
  have a3 : 0 < y / r := Nat.div_pos (by omega) (by omega)
  have a4 : r * 1 ≤ r * (y / r) := Nat.mul_le_mul_left r a3
  have a5 : 2 ^ (k + 1) = 2 * 2 ^ k := by rw [Nat.pow_succ, Nat.mul_comm]
  omega
theorem rs_cdg : ∀ (k n : Nat) (x y : Int), y.natAbs < 2 ^ k → 2 * k ≤ n → (rs_cd n x y).natAbs = Nat.gcd x.natAbs y.natAbs := by
  intro k
  induction k with
  | zero =>
    intro n x y hy _
    have h : y = 0 := by
      rw [Nat.pow_zero] at hy
      omega
    rw [h, rs_cd0]
    simp
  | succ k ih =>
    intro n x y hy hn
    by_cases h : y = 0
    · rw [h, rs_cd0]
      simp
    · obtain ⟨m, rfl⟩ : ∃ m, n = m + 1 + 1 := ⟨n - 2, by omega⟩
      rw [rs_cds _ h, rs_gstep]
      have e1 : (x.tmod y).natAbs = x.natAbs % y.natAbs := Int.natAbs_tmod x y
      by_cases h1 : x.tmod y = 0
      · rw [h1, rs_cd0, ← e1, h1]
        simp
      · rw [rs_cds _ h1, ← e1, rs_gstep]
        have e2 : (y.tmod (x.tmod y)).natAbs = y.natAbs % (x.tmod y).natAbs := Int.natAbs_tmod _ _
        rw [← e2]
        apply ih
        · rw [e2]
          apply rs_half
          · omega
          · rw [e1]
            exact Nat.mod_lt _ (by omega)
          · exact hy
        · omega
/-- the common divisor of five, as the component takes it -/
def rs_G (z : Nat → Int) : Nat := Nat.gcd (Nat.gcd (Nat.gcd (Nat.gcd (z 4).natAbs (z 0).natAbs) (z 1).natAbs) (z 2).natAbs) (z 3).natAbs
/-- the same, as the reference takes it -/
theorem rs_Gy (z : Nat → Int) : Nat.gcd (Nat.gcd (Nat.gcd (Nat.gcd (Nat.gcd 0 (z 0).natAbs) (z 1).natAbs) (z 2).natAbs) (z 3).natAbs) (z 4).natAbs = rs_G z := by
  unfold rs_G
  rw [Nat.gcd_zero_left]
  generalize (z 0).natAbs = a
  generalize (z 1).natAbs = b
  generalize (z 2).natAbs = c
  generalize (z 3).natAbs = d
  generalize (z 4).natAbs = m
  rw [Nat.gcd_comm m a, Nat.gcd_assoc a m b, Nat.gcd_comm m b, ← Nat.gcd_assoc a b m, Nat.gcd_assoc (Nat.gcd a b) m c, Nat.gcd_comm m c, ← Nat.gcd_assoc (Nat.gcd a b) c m, Nat.gcd_assoc (Nat.gcd (Nat.gcd a b) c) m d, Nat.gcd_comm m d, ← Nat.gcd_assoc]
/-- the divisor with m's sign -/
def rs_g (z : Nat → Int) : Int := if z 4 < 0 then -(rs_G z : Int) else (rs_G z : Int)
def rs_q (z : Nat → Int) (k : Nat) : Int := (z k).tdiv (rs_g z)
theorem rs_gn (z : Nat → Int) : (rs_g z).natAbs = rs_G z := by
  unfold rs_g
  split
  · omega
  · omega
theorem rs_Gd (z : Nat → Int) : rs_G z ∣ (z 0).natAbs ∧ rs_G z ∣ (z 1).natAbs ∧ rs_G z ∣ (z 2).natAbs ∧ rs_G z ∣ (z 3).natAbs ∧ rs_G z ∣ (z 4).natAbs := by
  unfold rs_G
  generalize (z 0).natAbs = a
  generalize (z 1).natAbs = b
  generalize (z 2).natAbs = c
  generalize (z 3).natAbs = d
  generalize (z 4).natAbs = m
  have h1 := Nat.gcd_dvd_left (Nat.gcd (Nat.gcd (Nat.gcd m a) b) c) d
  have h2 := Nat.dvd_trans h1 (Nat.gcd_dvd_left (Nat.gcd (Nat.gcd m a) b) c)
  have h3 := Nat.dvd_trans h2 (Nat.gcd_dvd_left (Nat.gcd m a) b)
  have h4 := Nat.dvd_trans h3 (Nat.gcd_dvd_left m a)
  exact ⟨Nat.dvd_trans h3 (Nat.gcd_dvd_right m a), Nat.dvd_trans h2 (Nat.gcd_dvd_right (Nat.gcd m a) b), Nat.dvd_trans h1 (Nat.gcd_dvd_right (Nat.gcd (Nat.gcd m a) b) c), Nat.gcd_dvd_right _ d, h4⟩
theorem rs_G0 {z : Nat → Int} (h : z 4 ≠ 0) : 0 < rs_G z := by
  apply Nat.pos_of_ne_zero
  intro h0
  have h1 := (rs_Gd z).2.2.2.2
  rw [h0] at h1
  have h2 := Nat.eq_zero_of_zero_dvd h1
  omega
theorem rs_qn (z : Nat → Int) (k : Nat) : (rs_q z k).natAbs = (z k).natAbs / rs_G z := by
  unfold rs_q
  rw [Int.natAbs_tdiv, rs_gn]
  rfl
/-- written without common divisor -/
theorem rs_q1 {z : Nat → Int} (h : z 4 ≠ 0) : rs_G (rs_q z) = 1 := by
  have hp := rs_G0 h
  obtain ⟨h0, h1, h2, h3, h4⟩ := rs_Gd z
  have e : rs_G (rs_q z) = rs_G z / rs_G z := by
    have hG : rs_G (rs_q z) = Nat.gcd (Nat.gcd (Nat.gcd (Nat.gcd (rs_q z 4).natAbs (rs_q z 0).natAbs) (rs_q z 1).natAbs) (rs_q z 2).natAbs) (rs_q z 3).natAbs := rfl
    rw [hG, rs_qn, rs_qn, rs_qn, rs_qn, rs_qn]
    have d0 := Nat.dvd_gcd h4 h0
    have d1 := Nat.dvd_gcd d0 h1
    have d2 := Nat.dvd_gcd d1 h2
    rw [Nat.gcd_div h4 h0, Nat.gcd_div d0 h1, Nat.gcd_div d1 h2, Nat.gcd_div d2 h3]
    rfl
  rw [e, Nat.div_self hp]
theorem rs_q4 {z : Nat → Int} (h : z 4 ≠ 0) : 1 ≤ rs_q z 4 := by
  have hp := rs_G0 h
  have h4 := (rs_Gd z).2.2.2.2
  obtain ⟨t, ht⟩ := h4
  have hd : rs_g z ∣ z 4 := by
    rw [← Int.natAbs_dvd_natAbs, rs_gn]
    exact ⟨t, ht⟩
  have e := Int.tdiv_mul_cancel hd
  have e' : rs_q z 4 * rs_g z = z 4 := e
  apply Int.not_lt.mp
  intro hq
  have hg : (z 4 < 0 ∧ rs_g z < 0) ∨ (0 < z 4 ∧ 0 < rs_g z) := by
    unfold rs_g
    by_cases hz : z 4 < 0
    · rw [if_pos hz]
      exact Or.inl ⟨hz, by omega⟩
    · rw [if_neg hz]
      exact Or.inr ⟨by omega, by omega⟩
  rcases hg with ⟨a1, a2⟩ | ⟨a1, a2⟩
  · have h1 := Int.mul_nonneg (show 0 ≤ -(rs_q z 4) by omega) (show 0 ≤ -(rs_g z) by omega)
    rw [Int.neg_mul_neg] at h1
    omega
  · have h1 := Int.mul_nonneg (show 0 ≤ -(rs_q z 4) by omega) (show 0 ≤ rs_g z by omega)
    rw [Int.neg_mul] at h1
    omega
/-- where the five have no common divisor and m is above 0, nothing changes -/
theorem rs_qid {z : Nat → Int} (h : rs_G z = 1) (h4 : 0 < z 4) (k : Nat) : rs_q z k = z k := by
  unfold rs_q rs_g
  rw [h, if_neg (by omega)]
  exact Int.tdiv_one _
theorem rs_gS {z : Nat → Int} (h : rs_S (z 4)) (h4 : z 4 ≠ 0) : rs_S (rs_g z) := by
  have h1 := Nat.le_of_dvd (by omega) (rs_Gd z).2.2.2.2
  have h2 := rs_gn z
  have h5 := h.1
  have h6 := h.2
  exact ⟨by omega, by omega⟩
