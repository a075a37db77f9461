/-! part 02: the sign of a + b V2 + c V3 + d V6, over whole numbers alone -/
theorem rs_sq2 : ∀ n x y : Nat, x ≤ n → x * x = 2 * (y * y) → x = 0 := by
  intro n
  induction n with
  | zero => intro x y h _; omega
  | succ n ih =>
    intro x y h e
    obtain ⟨z, hz⟩ : ∃ z, x = 2 * z ∨ x = 2 * z + 1 := ⟨x / 2, by omega⟩
    obtain ⟨w, hw⟩ : ∃ w, y = 2 * w ∨ y = 2 * w + 1 := ⟨y / 2, by omega⟩
    have a0 : (2 * z) * (2 * z) = 4 * (z * z) := by grind
    have a1 : (2 * z + 1) * (2 * z + 1) = 4 * (z * z) + 4 * z + 1 := by grind
    have b0 : (2 * w) * (2 * w) = 4 * (w * w) := by grind
    have b1 : (2 * w + 1) * (2 * w + 1) = 4 * (w * w) + 4 * w + 1 := by grind
    rcases hz with hz | hz
    · rcases hw with hw | hw
      · rw [hz, hw, a0, b0] at e
        have := ih z w (by omega) (by omega)
        omega
      · rw [hz, hw, a0, b1] at e
        omega
    · rw [hz, a1] at e
      omega
theorem rs_sq3 : ∀ n x y : Nat, x ≤ n → x * x = 3 * (y * y) → x = 0 := by
  intro n
  induction n with
  | zero => intro x y h _; omega
  | succ n ih =>
    intro x y h e
    obtain ⟨z, hz⟩ : ∃ z, x = 3 * z ∨ x = 3 * z + 1 ∨ x = 3 * z + 2 := ⟨x / 3, by omega⟩
    obtain ⟨w, hw⟩ : ∃ w, y = 3 * w ∨ y = 3 * w + 1 ∨ y = 3 * w + 2 := ⟨y / 3, by omega⟩
    have a0 : (3 * z) * (3 * z) = 9 * (z * z) := by grind
    have a1 : (3 * z + 1) * (3 * z + 1) = 9 * (z * z) + 6 * z + 1 := by grind
    have a2 : (3 * z + 2) * (3 * z + 2) = 9 * (z * z) + 12 * z + 4 := by grind
    have b0 : (3 * w) * (3 * w) = 9 * (w * w) := by grind
    have b1 : (3 * w + 1) * (3 * w + 1) = 9 * (w * w) + 6 * w + 1 := by grind
    have b2 : (3 * w + 2) * (3 * w + 2) = 9 * (w * w) + 12 * w + 4 := by grind
    rcases hz with hz | hz | hz
    · rcases hw with hw | hw | hw
      · rw [hz, hw, a0, b0] at e
        have := ih z w (by omega) (by omega)
        omega
      · rw [hz, hw, a0, b1] at e
        omega
      · rw [hz, hw, a0, b2] at e
        omega
    · rw [hz, a1] at e
      omega
    · rw [hz, a2] at e
      omega
theorem rs_sq6 : ∀ n x y : Nat, x ≤ n → x * x = 6 * (y * y) → x = 0 := by
  intro n
  induction n with
  | zero => intro x y h _; omega
  | succ n ih =>
    intro x y h e
    obtain ⟨z, hz⟩ : ∃ z, x = 2 * z ∨ x = 2 * z + 1 := ⟨x / 2, by omega⟩
    obtain ⟨w, hw⟩ : ∃ w, y = 2 * w ∨ y = 2 * w + 1 := ⟨y / 2, by omega⟩
    have a0 : (2 * z) * (2 * z) = 4 * (z * z) := by grind
    have a1 : (2 * z + 1) * (2 * z + 1) = 4 * (z * z) + 4 * z + 1 := by grind
    have b0 : (2 * w) * (2 * w) = 4 * (w * w) := by grind
    have b1 : (2 * w + 1) * (2 * w + 1) = 4 * (w * w) + 4 * w + 1 := by grind
    rcases hz with hz | hz
    · rcases hw with hw | hw
      · rw [hz, hw, a0, b0] at e
        have := ih z w (by omega) (by omega)
        omega
      · rw [hz, hw, a0, b1] at e
        omega
    · rw [hz, a1] at e
      omega
theorem rs_nab {x y : Int} (k : Nat) (h : x * x = (k : Int) * (y * y)) : x.natAbs * x.natAbs = k * (y.natAbs * y.natAbs) := by
  apply Int.ofNat_inj.mp
  rw [Int.natAbs_mul_self, Int.natCast_mul, Int.natAbs_mul_self]
  exact h
theorem rs_i0 {x y : Int} {k : Int} (hk : k ≠ 0) (hx : x.natAbs = 0) (h : x * x = k * (y * y)) : x = 0 ∧ y = 0 := by
  have h0 : x = 0 := by omega
  rw [h0, Int.zero_mul] at h
  refine ⟨h0, ?_⟩
  rcases Int.mul_eq_zero.mp h.symm with h1 | h1
  · exact absurd h1 hk
  · rcases Int.mul_eq_zero.mp h1 with h2 | h2
    · exact h2
    · exact h2
theorem rs_i2 {x y : Int} (h : x * x = 2 * (y * y)) : x = 0 ∧ y = 0 :=
  rs_i0 (k := 2) (by decide) (rs_sq2 _ _ _ (Nat.le_refl _) (rs_nab 2 h)) h
theorem rs_i3 {x y : Int} (h : x * x = 3 * (y * y)) : x = 0 ∧ y = 0 :=
  rs_i0 (k := 3) (by decide) (rs_sq3 _ _ _ (Nat.le_refl _) (rs_nab 3 h)) h
theorem rs_i6 {x y : Int} (h : x * x = 6 * (y * y)) : x = 0 ∧ y = 0 :=
  rs_i0 (k := 6) (by decide) (rs_sq6 _ _ _ (Nat.le_refl _) (rs_nab 6 h)) h
theorem rs_n0 {a b c d : Int} (he : a * a + 2 * (b * b) = 3 * (c * c) + 6 * (d * d)) (hf : a * b = 3 * (c * d)) : a = 0 ∧ b = 0 ∧ c = 0 ∧ d = 0 := by
  have k1 : (a * a - 2 * (b * b)) * (a * a - 2 * (b * b)) = (a * a + 2 * (b * b)) * (a * a + 2 * (b * b)) - 8 * ((a * b) * (a * b)) := by grind
  have k2 : 9 * ((c * c - 2 * (d * d)) * (c * c - 2 * (d * d))) = (3 * (c * c) + 6 * (d * d)) * (3 * (c * c) + 6 * (d * d)) - 8 * ((3 * (c * d)) * (3 * (c * d))) := by grind
  rw [he, hf] at k1
  have h : (a * a - 2 * (b * b) - 3 * (c * c - 2 * (d * d))) * (a * a - 2 * (b * b) + 3 * (c * c - 2 * (d * d))) = 0 := by
    have k3 : (a * a - 2 * (b * b) - 3 * (c * c - 2 * (d * d))) * (a * a - 2 * (b * b) + 3 * (c * c - 2 * (d * d))) = (a * a - 2 * (b * b)) * (a * a - 2 * (b * b)) - 9 * ((c * c - 2 * (d * d)) * (c * c - 2 * (d * d))) := by grind
    rw [k3, k1, k2]
    omega
  rcases Int.mul_eq_zero.mp h with h | h
  · have h1 := rs_i3 (show a * a = 3 * (c * c) by omega)
    have h2 := rs_i3 (show b * b = 3 * (d * d) by omega)
    exact ⟨h1.1, h2.1, h1.2, h2.2⟩
  · have h1 := rs_i6 (show a * a = 6 * (d * d) by omega)
    have h3 : (2 * b) * (2 * b) = 4 * (b * b) := by grind
    have h2 := rs_i6 (show (2 * b) * (2 * b) = 6 * (c * c) by omega)
    exact ⟨h1.1, by omega, h2.2, h1.2⟩
/-- e + f V2 is above 0 -/
def rs_P (e f : Int) : Prop := (0 ≤ e ∧ 0 ≤ f ∧ ¬ (e = 0 ∧ f = 0)) ∨ (0 < e ∧ f < 0 ∧ 2 * (f * f) < e * e) ∨ (e < 0 ∧ 0 < f ∧ e * e < 2 * (f * f))
def rs_pr (e f : Int) : Int := if e = 0 ∧ f = 0 then 0 else if 0 ≤ e ∧ 0 ≤ f then 1 else if e ≤ 0 ∧ f ≤ 0 then -1 else if (2 * (f * f) < e * e ↔ 0 < e) then 1 else -1
theorem rs_tri (e f : Int) : (rs_pr e f = 0 ∧ e = 0 ∧ f = 0) ∨ (rs_pr e f = 1 ∧ rs_P e f) ∨ (rs_pr e f = -1 ∧ rs_P (-e) (-f)) := by
  have hne : e * e = 2 * (f * f) → e = 0 ∧ f = 0 := rs_i2
  unfold rs_pr rs_P
  rw [Int.neg_mul_neg, Int.neg_mul_neg]
  generalize e * e = p at *
  generalize f * f = q at *
  by_cases h0 : e = 0 ∧ f = 0
  · rw [if_pos h0]
    exact Or.inl ⟨rfl, h0⟩
  · rw [if_neg h0]
    by_cases h1 : 0 ≤ e ∧ 0 ≤ f
    · rw [if_pos h1]
      exact Or.inr (Or.inl ⟨rfl, Or.inl ⟨h1.1, h1.2, h0⟩⟩)
    · rw [if_neg h1]
      by_cases h2 : e ≤ 0 ∧ f ≤ 0
      · rw [if_pos h2]
        exact Or.inr (Or.inr ⟨rfl, Or.inl ⟨by omega, by omega, by omega⟩⟩)
      · rw [if_neg h2]
        by_cases h3 : (2 * q < p ↔ 0 < e)
        · rw [if_pos h3]
          refine Or.inr (Or.inl ⟨rfl, Or.inr ?_⟩)
          by_cases he : 0 < e
          · exact Or.inl ⟨he, by omega, h3.mpr he⟩
          · have h4 : ¬ 2 * q < p := fun z => he (h3.mp z)
            exact Or.inr ⟨by omega, by omega, by omega⟩
        · rw [if_neg h3]
          refine Or.inr (Or.inr ⟨rfl, Or.inr ?_⟩)
          by_cases he : 0 < e
          · have h4 : ¬ 2 * q < p := fun z => h3 ⟨fun _ => he, fun _ => z⟩
            exact Or.inr ⟨by omega, by omega, by omega⟩
          · have h4 : 2 * q < p := by
              apply Classical.byContradiction
              intro z
              exact h3 ⟨fun y => absurd y z, fun y => absurd y he⟩
            exact Or.inl ⟨by omega, by omega, h4⟩
theorem rs_fin {X Y M : Int} (hK : 500000000000000000000000000000000000 ≤ X * Y) (h0 : 0 < Y) (hY : Y ≤ M * 1000000000000000000) : 1000000000000000000 ≤ 2 * (M * X) := by
  have hX : 0 ≤ X := by
    apply Int.not_lt.mp
    intro hx
    have h := Int.mul_le_mul_of_nonneg_right (Int.le_of_lt hx) (Int.le_of_lt h0)
    rw [Int.zero_mul] at h
    omega
  have h1 := Int.mul_le_mul_of_nonneg_left hY hX
  have h2 : X * (M * 1000000000000000000) = (M * X) * 1000000000000000000 := by
    rw [← Int.mul_assoc, Int.mul_comm X M]
  rw [h2] at h1
  omega
theorem rs_dsq (e f s a : Int) : (e * s + f * a) * (e * s - f * a) = (e * e) * (s * s) - (f * f) * (a * a) := by grind
theorem rs_Ppos {e f M : Int} (h : rs_P e f) (h1 : e + 2 * f ≤ M) (h2 : e - 2 * f ≤ M) (h3 : 2 * f - e ≤ M) (hf1 : -200000000 ≤ f) (hf2 : f ≤ 200000000) : 1000000000000000000 ≤ 2 * (M * (e * 1000000000000000000 + f * 1414213562373095048)) := by
  rcases h with ⟨he, hf, hn⟩ | ⟨he, hf, hs⟩ | ⟨he, hf, hs⟩
  · have hM : 1 ≤ M := by omega
    have hX : 1000000000000000000 ≤ e * 1000000000000000000 + f * 1414213562373095048 := by omega
    generalize e * 1000000000000000000 + f * 1414213562373095048 = X at hX ⊢
    have h := Int.mul_le_mul_of_nonneg_right hM (show 0 ≤ X by omega)
    rw [Int.one_mul] at h
    omega
  · have hq := rs_sqnn f
    have hid := rs_dsq e f 1000000000000000000 1414213562373095048
    apply rs_fin (Y := e * 1000000000000000000 - f * 1414213562373095048)
    · rw [hid]
      generalize e * e = p at *
      generalize f * f = q at *
      omega
    · omega
    · omega
  · have hq := rs_sqle (x := f) (p := 200000000) (by omega) (by omega)
    have hid := rs_dsq f e 1414213562373095048 1000000000000000000
    rw [Int.add_comm (e * 1000000000000000000)]
    apply rs_fin (Y := f * 1414213562373095048 - e * 1000000000000000000)
    · rw [hid]
      generalize e * e = p at *
      generalize f * f = q at *
      omega
    · omega
    · omega
def rs_T (a b c d : Int) : Int := a * 1000000000000000000 + b * 1414213562373095048 + c * 1732050807568877293 + d * 2449489742783178098
theorem rs_ST (a b c d : Int) : 1000000000000000000 * rs_T a b c d = 1000000000000000000 * (a * 1000000000000000000 + b * 1414213562373095048) + 1732050807568877293 * (c * 1000000000000000000 + d * 1414213562373095048) + d * 1937203297062054936 := by
  unfold rs_T
  omega
/-- the box in which all the signs of this component lie -/
def rs_B (a b c d : Int) : Prop := (-33200 ≤ a ∧ a ≤ 33200) ∧ (-1800 ≤ b ∧ b ≤ 1800) ∧ (-1800 ≤ c ∧ c ≤ 1800) ∧ (-1800 ≤ d ∧ d ≤ 1800)
theorem rs_up1 {a b : Int} (ha : -33200 ≤ a ∧ a ≤ 33200) (hb : -1800 ≤ b ∧ b ≤ 1800) (h : rs_P a b) : 1000000000000000000 ≤ 2 * (36800 * (a * 1000000000000000000 + b * 1414213562373095048)) :=
  rs_Ppos h (by omega) (by omega) (by omega) (by omega) (by omega)
theorem rs_pos2 {a b : Int} (ha : -33200 ≤ a ∧ a ≤ 33200) (hb : -1800 ≤ b ∧ b ≤ 1800) (h1 : rs_P a b) : 0 < rs_T a b 0 0 := by
  have k1 := rs_up1 ha hb h1
  have k3 := rs_ST a b 0 0
  generalize a * 1000000000000000000 + b * 1414213562373095048 = P at *
  generalize rs_T a b 0 0 = T at *
  clear h1 ha hb
  omega
theorem rs_fin2 {R Y K U L : Int} (hK : K ≤ R * Y) (hK0 : 0 < K) (h0 : 0 < Y) (hU : Y ≤ U) (hL : L * U < K) : L < R := by
  have hR : 0 ≤ R := by
    apply Int.not_lt.mp
    intro hx
    have h := Int.mul_le_mul_of_nonneg_right (Int.le_of_lt hx) (Int.le_of_lt h0)
    rw [Int.zero_mul] at h
    omega
  have h1 := Int.mul_le_mul_of_nonneg_left hU hR
  apply Int.not_le.mp
  intro hx
  have h2 := Int.mul_le_mul_of_nonneg_right hx (show 0 ≤ U by omega)
  omega
theorem rs_id1 (a b c d S A : Int) : (a * S + b * A) * (a * S + b * A) - 3 * ((c * S + d * A) * (c * S + d * A)) = S * ((a * a + 2 * (b * b) - 3 * (c * c) - 6 * (d * d)) * S + (2 * (a * b) - 6 * (c * d)) * A) - (b * b - 3 * (d * d)) * (2 * (S * S) - A * A) := by grind
theorem rs_id2 (P Q : Int) : (1000000000000000000 * P + 1732050807568877293 * Q) * (1000000000000000000 * P - 1732050807568877293 * Q) = 1000000000000000000000000000000000000 * (P * P - 3 * (Q * Q)) + 1827127723508992151 * (Q * Q) := by grind
theorem rs_ef {a b c d e f : Int} (hB : rs_B a b c d) (he : e = a * a + 2 * (b * b) - 3 * (c * c) - 6 * (d * d)) (hf : f = 2 * (a * b) - 6 * (c * d)) : (-29160000 ≤ e ∧ e ≤ 1108720000) ∧ (-138960000 ≤ f ∧ f ≤ 138960000) := by
  obtain ⟨ha, hb, hc, hd⟩ := hB
  have a1 := rs_sqle (p := 33200) ha.1 ha.2
  have b1 := rs_sqle (p := 1800) hb.1 hb.2
  have c1 := rs_sqle (p := 1800) hc.1 hc.2
  have d1 := rs_sqle (p := 1800) hd.1 hd.2
  have a0 := rs_sqnn a
  have b0 := rs_sqnn b
  have c0 := rs_sqnn c
  have d0 := rs_sqnn d
  have m1 := rs_mc 33200 1800 59760000 (by omega) ha hb
  have m2 := rs_mc 1800 1800 3240000 (by omega) hc hd
  clear ha hb hc hd
  omega
