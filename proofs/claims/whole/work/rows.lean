section
/-! part 00: rows pasted from kit/rows/PURE-ROWS (starting texts, given for pasting) -/
theorem pk_us {f : Nat → Int32} {k : Nat} {x : Int32} : upd f k x k = x := if_pos rfl
theorem pk_un {f : Nat → Int32} {k j : Nat} {x : Int32} (h : j ≠ k) : upd f k x j = f j := if_neg h
theorem pk_uLs {f : Nat → Int64} {k : Nat} {x : Int64} : vp_updL f k x k = x := if_pos rfl
theorem pk_uLn {f : Nat → Int64} {k j : Nat} {x : Int64} (h : j ≠ k) : vp_updL f k x j = f j := if_neg h
theorem pk_sub {a b : Nat} (h : b ≤ a) : nI a - nI b = nI (a - b) := by
  obtain ⟨c, rfl⟩ : ∃ c, a = c + b := ⟨a - b, by omega⟩
  rw [← nI_add, Int32.add_sub_cancel, Nat.add_sub_cancel]
theorem pk_m1 (n : Nat) : nI (n + 1) + (-1) = nI n := by
  rw [← nI_1, Int32.add_assoc, show (1 : Int32) + (-1) = 0 from rfl, Int32.add_zero]
theorem pk_mul (a b : Nat) : nI a * nI b = nI (a * b) := (Int32.ofNat_mul a b).symm
theorem pk_div {a d : Nat} (ha : a < 2 ^ 31) (h0 : 0 < d) (hd : d < 2 ^ 31) : nI a / nI d = nI (a / d) := by
  apply Int32.toInt_inj.mp
  rw [lg_idiv_nonneg (by rw [nI_toInt ha]; omega) (by rw [nI_toInt hd]; omega), nI_toInt ha, nI_toInt hd, nI_toInt (Nat.lt_of_le_of_lt (Nat.div_le_self a d) ha)]
  first | rfl | exact (Int.natCast_ediv _ _).symm
theorem pk_rem {a d : Nat} (ha : a < 2 ^ 31) (h0 : 0 < d) (hd : d < 2 ^ 31) : nI a - nI a / nI d * nI d = nI (a % d) := by
  rw [pk_div ha h0 hd, pk_mul, pk_sub (Nat.div_mul_le_self a d)]
  exact congrArg nI (by have := Nat.div_add_mod' a d; omega)
theorem pk_sub_toInt {a b : Nat} (ha : a < 2 ^ 30) (hb : b < 2 ^ 30) : (nI a - nI b).toInt = (a : Int) - b := by
  rw [Int32.toInt_sub, nI_toInt (by omega), nI_toInt (by omega)]
  exact Int.bmod_eq_of_le (by omega) (by omega)
theorem pk_sneg {a b : Nat} (hb : b < 2 ^ 30) (h : a < b) : nI a - nI b < 0 := by
  rw [Int32.lt_iff_toInt_lt, pk_sub_toInt (by omega) hb, show (0 : Int32).toInt = 0 from by decide]
  omega
theorem pk_ix (x : Int32) {n : Nat} (hn : n < 2 ^ 31) : x < 0 ∨ nI n ≤ x ∨ ∃ j : Nat, j < n ∧ x = nI j := by
  by_cases h : x < 0
  · exact Or.inl h
  · obtain ⟨j, hj, rfl⟩ := nI_of h
    by_cases h2 : j < n
    · exact Or.inr (Or.inr ⟨j, h2, rfl⟩)
    · exact Or.inr (Or.inl (nI_le (by omega) hj))
theorem pk_le {x y : Int32} {A B : Prop} (a b : Nat) (f : a ≤ b → A) (g : b < a → B) (hx : x = nI a := by rfl) (hy : y = nI b := by rfl) (ha : a < 2 ^ 31 := by omega) (hb : b < 2 ^ 31 := by omega) : (x ≤ y → A) ∧ (¬ x ≤ y → B) := by
  subst hx hy
  rw [nI_leI ha hb]
  exact ⟨f, fun z => g (by omega)⟩
theorem pk_lt {x y : Int32} {A B : Prop} (a b : Nat) (f : a < b → A) (g : b ≤ a → B) (hx : x = nI a := by rfl) (hy : y = nI b := by rfl) (ha : a < 2 ^ 31 := by omega) (hb : b < 2 ^ 31 := by omega) : (x < y → A) ∧ (¬ x < y → B) := by
  subst hx hy
  rw [nI_ltI ha hb]
  exact ⟨f, fun z => g (by omega)⟩
theorem pk_eq {x y : Int32} {A B : Prop} (a b : Nat) (f : a = b → A) (g : a ≠ b → B) (hx : x = nI a := by rfl) (hy : y = nI b := by rfl) (ha : a < 2 ^ 31 := by omega) (hb : b < 2 ^ 31 := by omega) : (x = y → A) ∧ (¬ x = y → B) := by
  subst hx hy
  rw [nI_eq ha hb]
  exact ⟨f, g⟩
theorem pk_in {x : Int32} (n N : Nat) (h : n < N) (hx : x = nI n := by rfl) (hN : N < 2 ^ 31 := by omega) : vp_in x N := by
  subst hx
  exact vp_in_nI h hN
theorem pk_cl {x : Int32} (n : Nat) (hx : x = nI n := by rfl) (h : n < 2 ^ 31 := by omega) : x.toNatClampNeg = n := by
  subst hx
  exact nI_clamp h
theorem pk_tn {n : Nat} (h : n < 2 ^ 32) : (nI n).toBitVec.toNat = n := Nat.mod_eq_of_lt h
theorem pk_shl (a s : Int32) (k : Nat) (hs : (s.toBitVec.smod 32).toNat = k) : (a <<< s).toBitVec.toNat = a.toBitVec.toNat * 2 ^ k % 2 ^ 32 := by
  show (a.toBitVec <<< (s.toBitVec.smod 32).toNat).toNat = _
  rw [hs, BitVec.toNat_shiftLeft, Nat.shiftLeft_eq]
theorem pk_shlN {n : Nat} (s : Int32) (k : Nat) (hs : (s.toBitVec.smod 32).toNat = k) (h : n * 2 ^ k < 2 ^ 32) : nI n <<< s = nI (n * 2 ^ k) := by
  apply Int32.toBitVec_inj.mp
  apply BitVec.eq_of_toNat_eq
  have hn : n < 2 ^ 32 := Nat.lt_of_le_of_lt (Nat.le_mul_of_pos_right n (Nat.two_pow_pos k)) h
  rw [pk_shl _ _ k hs, pk_tn hn, pk_tn h, Nat.mod_eq_of_lt h]
theorem pk_loop {σ : Type} (W : Nat → Nat → σ → Prop) (I : Nat → σ → Prop) (e i0 : Nat) (s : σ) (hi : i0 ≤ e) (h0 : I i0 s) (hx : ∀ n s, I e s → W (n + 1) e s)
    (hs : ∀ n i s, i < e → I i s → (∀ s', I (i + 1) s' → W n (i + 1) s') → W (n + 1) i s) : ∃ n, W n i0 s :=
  ⟨e + 1, loop_i W I e hx hs (e + 1) i0 s hi (by omega) h0⟩
end
section
/-! part 01: longs as images of integers; squares, products, their bounds -/
def rs_S (n : Int) : Prop := -4000000000000000000 ≤ n ∧ n ≤ 4000000000000000000
theorem rs_t64 {n : Int} (h : rs_S n) : (Int64.ofInt n).toInt = n :=
  Int64.toInt_ofInt_of_le (by have := h.1; omega) (by have := h.2; omega)
theorem rs_lt64 {a b : Int} (ha : rs_S a) (hb : rs_S b) : Int64.ofInt a < Int64.ofInt b ↔ a < b := by
  rw [Int64.lt_iff_toInt_lt, rs_t64 ha, rs_t64 hb]
theorem rs_le64 {a b : Int} (ha : rs_S a) (hb : rs_S b) : Int64.ofInt a ≤ Int64.ofInt b ↔ a ≤ b := by
  rw [Int64.le_iff_toInt_le, rs_t64 ha, rs_t64 hb]
theorem rs_eq64 {a b : Int} (ha : rs_S a) (hb : rs_S b) : Int64.ofInt a = Int64.ofInt b ↔ a = b := by
  constructor
  · intro h
    have h2 := congrArg Int64.toInt h
    rwa [rs_t64 ha, rs_t64 hb] at h2
  · intro h
    rw [h]
theorem rs_min64 : Int64.minValue.toInt = -9223372036854775808 := by decide +kernel
theorem rs_max64 : Int64.maxValue.toInt = 9223372036854775807 := by decide +kernel
theorem rs_div64 {a b : Int} (ha : rs_S a) (hb : rs_S b) : Int64.ofInt a / Int64.ofInt b = Int64.ofInt (a.tdiv b) := by
  have ha1 := ha.1
  have ha2 := ha.2
  have hb1 := hb.1
  have hb2 := hb.2
  exact (Int64.ofInt_tdiv (by rw [rs_min64]; omega) (by rw [rs_max64]; omega) (by rw [rs_min64]; omega) (by rw [rs_max64]; omega)).symm
theorem rs_rem64 {a b : Int} (ha : rs_S a) (hb : rs_S b) : Int64.ofInt a - Int64.ofInt a / Int64.ofInt b * Int64.ofInt b = Int64.ofInt (a.tmod b) := by
  rw [rs_div64 ha hb, ← Int64.ofInt_mul, ← Int64.ofInt_sub]
  congr 1
  have h := Int.tdiv_mul_add_tmod a b
  omega
theorem rs_sqnn (x : Int) : 0 ≤ x * x := by
  rcases Int.le_total 0 x with h | h
  · exact Int.mul_nonneg h h
  · have h2 := Int.mul_nonneg (show 0 ≤ -x by omega) (show 0 ≤ -x by omega)
    rwa [Int.neg_mul_neg] at h2
theorem rs_sqle {x p : Int} (h1 : -p ≤ x) (h2 : x ≤ p) : x * x ≤ p * p := by
  have h := Int.mul_nonneg (show 0 ≤ p - x by omega) (show 0 ≤ p + x by omega)
  have e : (p - x) * (p + x) = p * p - x * x := by grind
  rw [e] at h
  omega
theorem rs_mb {x y p q : Int} (h1 : -p ≤ x) (h2 : x ≤ p) (h3 : -q ≤ y) (h4 : y ≤ q) : -(p * q) ≤ x * y ∧ x * y ≤ p * q := by
  have a1 := Int.mul_nonneg (show 0 ≤ p - x by omega) (show 0 ≤ q + y by omega)
  have a2 := Int.mul_nonneg (show 0 ≤ p + x by omega) (show 0 ≤ q - y by omega)
  have a3 := Int.mul_nonneg (show 0 ≤ p - x by omega) (show 0 ≤ q - y by omega)
  have a4 := Int.mul_nonneg (show 0 ≤ p + x by omega) (show 0 ≤ q + y by omega)
  have e1 : (p - x) * (q + y) + (p + x) * (q - y) = 2 * (p * q) - 2 * (x * y) := by grind
  have e2 : (p - x) * (q - y) + (p + x) * (q + y) = 2 * (p * q) + 2 * (x * y) := by grind
  constructor
  · omega
  · omega
/-- a product of two bounded numbers, with a literal bound -/
theorem rs_mc {x y : Int} (p q r : Int) (hr : p * q ≤ r) (hx : -p ≤ x ∧ x ≤ p) (hy : -q ≤ y ∧ y ≤ q) : -r ≤ x * y ∧ x * y ≤ r := by
  have h := rs_mb hx.1 hx.2 hy.1 hy.2
  omega
end
section
/-! part 02: the sign of a + b V2 + c V3 + d V6, over whole numbers alone -/
theorem rs_sq2 : ∀ n x y : Nat, x ≤ n → x * x = 2 * (y * y) → x = 0 := by
  intro n
  induction n with
  | zero => intro x y h _; omega
  | succ n ih =>
    intro x y h e
    obtain ⟨z, hz⟩ : ∃ z, x = 2 * z ∨ x = 2 * z + 1 := ⟨x / 2, by omega⟩
    obtain ⟨w, hw⟩ : ∃ w, y = 2 * w ∨ y = 2 * w + 1 := ⟨y / 2, by omega⟩
    have a0 : (2 * z) * (2 * z) = 4 * (z * z) := by grind
    have a1 : (2 * z + 1) * (2 * z + 1) = 4 * (z * z) + 4 * z + 1 := by grind
    have b0 : (2 * w) * (2 * w) = 4 * (w * w) := by grind
    have b1 : (2 * w + 1) * (2 * w + 1) = 4 * (w * w) + 4 * w + 1 := by grind
    rcases hz with hz | hz
    · rcases hw with hw | hw
      · rw [hz, hw, a0, b0] at e
        have := ih z w (by omega) (by omega)
        omega
      · rw [hz, hw, a0, b1] at e
        omega
    · rw [hz, a1] at e
      omega
theorem rs_sq3 : ∀ n x y : Nat, x ≤ n → x * x = 3 * (y * y) → x = 0 := by
  intro n
  induction n with
  | zero => intro x y h _; omega
  | succ n ih =>
    intro x y h e
    obtain ⟨z, hz⟩ : ∃ z, x = 3 * z ∨ x = 3 * z + 1 ∨ x = 3 * z + 2 := ⟨x / 3, by omega⟩
    obtain ⟨w, hw⟩ : ∃ w, y = 3 * w ∨ y = 3 * w + 1 ∨ y = 3 * w + 2 := ⟨y / 3, by omega⟩
    have a0 : (3 * z) * (3 * z) = 9 * (z * z) := by grind
    have a1 : (3 * z + 1) * (3 * z + 1) = 9 * (z * z) + 6 * z + 1 := by grind
    have a2 : (3 * z + 2) * (3 * z + 2) = 9 * (z * z) + 12 * z + 4 := by grind
    have b0 : (3 * w) * (3 * w) = 9 * (w * w) := by grind
    have b1 : (3 * w + 1) * (3 * w + 1) = 9 * (w * w) + 6 * w + 1 := by grind
    have b2 : (3 * w + 2) * (3 * w + 2) = 9 * (w * w) + 12 * w + 4 := by grind
    rcases hz with hz | hz | hz
    · rcases hw with hw | hw | hw
      · rw [hz, hw, a0, b0] at e
        have := ih z w (by omega) (by omega)
        omega
      · rw [hz, hw, a0, b1] at e
        omega
      · rw [hz, hw, a0, b2] at e
        omega
    · rw [hz, a1] at e
      omega
    · rw [hz, a2] at e
      omega
theorem rs_sq6 : ∀ n x y : Nat, x ≤ n → x * x = 6 * (y * y) → x = 0 := by
  intro n
  induction n with
  | zero => intro x y h _; omega
  | succ n ih =>
    intro x y h e
    obtain ⟨z, hz⟩ : ∃ z, x = 2 * z ∨ x = 2 * z + 1 := ⟨x / 2, by omega⟩
    obtain ⟨w, hw⟩ : ∃ w, y = 2 * w ∨ y = 2 * w + 1 := ⟨y / 2, by omega⟩
    have a0 : (2 * z) * (2 * z) = 4 * (z * z) := by grind
    have a1 : (2 * z + 1) * (2 * z + 1) = 4 * (z * z) + 4 * z + 1 := by grind
    have b0 : (2 * w) * (2 * w) = 4 * (w * w) := by grind
    have b1 : (2 * w + 1) * (2 * w + 1) = 4 * (w * w) + 4 * w + 1 := by grind
    rcases hz with hz | hz
    · rcases hw with hw | hw
      · rw [hz, hw, a0, b0] at e
        have := ih z w (by omega) (by omega)
        omega
      · rw [hz, hw, a0, b1] at e
        omega
    · rw [hz, a1] at e
      omega
theorem rs_nab {x y : Int} (k : Nat) (h : x * x = (k : Int) * (y * y)) : x.natAbs * x.natAbs = k * (y.natAbs * y.natAbs) := by
  apply Int.ofNat_inj.mp
  rw [Int.natAbs_mul_self, Int.natCast_mul, Int.natAbs_mul_self]
  exact h
theorem rs_i0 {x y : Int} {k : Int} (hk : k ≠ 0) (hx : x.natAbs = 0) (h : x * x = k * (y * y)) : x = 0 ∧ y = 0 := by
  have h0 : x = 0 := by omega
  rw [h0, Int.zero_mul] at h
  refine ⟨h0, ?_⟩
  rcases Int.mul_eq_zero.mp h.symm with h1 | h1
  · exact absurd h1 hk
  · rcases Int.mul_eq_zero.mp h1 with h2 | h2
    · exact h2
    · exact h2
theorem rs_i2 {x y : Int} (h : x * x = 2 * (y * y)) : x = 0 ∧ y = 0 :=
  rs_i0 (k := 2) (by decide) (rs_sq2 _ _ _ (Nat.le_refl _) (rs_nab 2 h)) h
theorem rs_i3 {x y : Int} (h : x * x = 3 * (y * y)) : x = 0 ∧ y = 0 :=
  rs_i0 (k := 3) (by decide) (rs_sq3 _ _ _ (Nat.le_refl _) (rs_nab 3 h)) h
theorem rs_i6 {x y : Int} (h : x * x = 6 * (y * y)) : x = 0 ∧ y = 0 :=
  rs_i0 (k := 6) (by decide) (rs_sq6 _ _ _ (Nat.le_refl _) (rs_nab 6 h)) h
theorem rs_n0 {a b c d : Int} (he : a * a + 2 * (b * b) = 3 * (c * c) + 6 * (d * d)) (hf : a * b = 3 * (c * d)) : a = 0 ∧ b = 0 ∧ c = 0 ∧ d = 0 := by
  have k1 : (a * a - 2 * (b * b)) * (a * a - 2 * (b * b)) = (a * a + 2 * (b * b)) * (a * a + 2 * (b * b)) - 8 * ((a * b) * (a * b)) := by grind
  have k2 : 9 * ((c * c - 2 * (d * d)) * (c * c - 2 * (d * d))) = (3 * (c * c) + 6 * (d * d)) * (3 * (c * c) + 6 * (d * d)) - 8 * ((3 * (c * d)) * (3 * (c * d))) := by grind
  rw [he, hf] at k1
  have h : (a * a - 2 * (b * b) - 3 * (c * c - 2 * (d * d))) * (a * a - 2 * (b * b) + 3 * (c * c - 2 * (d * d))) = 0 := by
    have k3 : (a * a - 2 * (b * b) - 3 * (c * c - 2 * (d * d))) * (a * a - 2 * (b * b) + 3 * (c * c - 2 * (d * d))) = (a * a - 2 * (b * b)) * (a * a - 2 * (b * b)) - 9 * ((c * c - 2 * (d * d)) * (c * c - 2 * (d * d))) := by grind
    rw [k3, k1, k2]
    omega
  rcases Int.mul_eq_zero.mp h with h | h
  · have h1 := rs_i3 (show a * a = 3 * (c * c) by omega)
    have h2 := rs_i3 (show b * b = 3 * (d * d) by omega)
    exact ⟨h1.1, h2.1, h1.2, h2.2⟩
  · have h1 := rs_i6 (show a * a = 6 * (d * d) by omega)
    have h3 : (2 * b) * (2 * b) = 4 * (b * b) := by grind
    have h2 := rs_i6 (show (2 * b) * (2 * b) = 6 * (c * c) by omega)
    exact ⟨h1.1, by omega, h2.2, h1.2⟩
/-- e + f V2 is above 0 -/
def rs_P (e f : Int) : Prop := (0 ≤ e ∧ 0 ≤ f ∧ ¬ (e = 0 ∧ f = 0)) ∨ (0 < e ∧ f < 0 ∧ 2 * (f * f) < e * e) ∨ (e < 0 ∧ 0 < f ∧ e * e < 2 * (f * f))
def rs_pr (e f : Int) : Int := if e = 0 ∧ f = 0 then 0 else if 0 ≤ e ∧ 0 ≤ f then 1 else if e ≤ 0 ∧ f ≤ 0 then -1 else if (2 * (f * f) < e * e ↔ 0 < e) then 1 else -1
theorem rs_tri (e f : Int) : (rs_pr e f = 0 ∧ e = 0 ∧ f = 0) ∨ (rs_pr e f = 1 ∧ rs_P e f) ∨ (rs_pr e f = -1 ∧ rs_P (-e) (-f)) := by
  have hne : e * e = 2 * (f * f) → e = 0 ∧ f = 0 := rs_i2
  unfold rs_pr rs_P
  rw [Int.neg_mul_neg, Int.neg_mul_neg]
  generalize e * e = p at *
  generalize f * f = q at *
  by_cases h0 : e = 0 ∧ f = 0
  · rw [if_pos h0]
    exact Or.inl ⟨rfl, h0⟩
  · rw [if_neg h0]
    by_cases h1 : 0 ≤ e ∧ 0 ≤ f
    · rw [if_pos h1]
      exact Or.inr (Or.inl ⟨rfl, Or.inl ⟨h1.1, h1.2, h0⟩⟩)
    · rw [if_neg h1]
      by_cases h2 : e ≤ 0 ∧ f ≤ 0
      · rw [if_pos h2]
        exact Or.inr (Or.inr ⟨rfl, Or.inl ⟨by omega, by omega, by omega⟩⟩)
      · rw [if_neg h2]
        by_cases h3 : (2 * q < p ↔ 0 < e)
        · rw [if_pos h3]
          refine Or.inr (Or.inl ⟨rfl, Or.inr ?_⟩)
          by_cases he : 0 < e
          · exact Or.inl ⟨he, by omega, h3.mpr he⟩
          · have h4 : ¬ 2 * q < p := fun z => he (h3.mp z)
            exact Or.inr ⟨by omega, by omega, by omega⟩
        · rw [if_neg h3]
          refine Or.inr (Or.inr ⟨rfl, Or.inr ?_⟩)
          by_cases he : 0 < e
          · have h4 : ¬ 2 * q < p := fun z => h3 ⟨fun _ => he, fun _ => z⟩
            exact Or.inr ⟨by omega, by omega, by omega⟩
          · have h4 : 2 * q < p := by
              apply Classical.byContradiction
              intro z
              exact h3 ⟨fun y => absurd y z, fun y => absurd y he⟩
            exact Or.inl ⟨by omega, by omega, h4⟩
theorem rs_fin {X Y M : Int} (hK : 500000000000000000000000000000000000 ≤ X * Y) (h0 : 0 < Y) (hY : Y ≤ M * 1000000000000000000) : 1000000000000000000 ≤ 2 * (M * X) := by
  have hX : 0 ≤ X := by
    apply Int.not_lt.mp
    intro hx
    have h := Int.mul_le_mul_of_nonneg_right (Int.le_of_lt hx) (Int.le_of_lt h0)
    rw [Int.zero_mul] at h
    omega
  have h1 := Int.mul_le_mul_of_nonneg_left hY hX
  have h2 : X * (M * 1000000000000000000) = (M * X) * 1000000000000000000 := by
    rw [← Int.mul_assoc, Int.mul_comm X M]
  rw [h2] at h1
  omega
theorem rs_dsq (e f s a : Int) : (e * s + f * a) * (e * s - f * a) = (e * e) * (s * s) - (f * f) * (a * a) := by grind
theorem rs_Ppos {e f M : Int} (h : rs_P e f) (h1 : e + 2 * f ≤ M) (h2 : e - 2 * f ≤ M) (h3 : 2 * f - e ≤ M) (hf1 : -200000000 ≤ f) (hf2 : f ≤ 200000000) : 1000000000000000000 ≤ 2 * (M * (e * 1000000000000000000 + f * 1414213562373095048)) := by
  rcases h with ⟨he, hf, hn⟩ | ⟨he, hf, hs⟩ | ⟨he, hf, hs⟩
  · have hM : 1 ≤ M := by omega
    have hX : 1000000000000000000 ≤ e * 1000000000000000000 + f * 1414213562373095048 := by omega
    generalize e * 1000000000000000000 + f * 1414213562373095048 = X at hX ⊢
    have h := Int.mul_le_mul_of_nonneg_right hM (show 0 ≤ X by omega)
    rw [Int.one_mul] at h
    omega
  · have hq := rs_sqnn f
    have hid := rs_dsq e f 1000000000000000000 1414213562373095048
    apply rs_fin (Y := e * 1000000000000000000 - f * 1414213562373095048)
    · rw [hid]
      generalize e * e = p at *
      generalize f * f = q at *
      omega
    · omega
    · omega
  · have hq := rs_sqle (x := f) (p := 200000000) (by omega) (by omega)
    have hid := rs_dsq f e 1414213562373095048 1000000000000000000
    rw [Int.add_comm (e * 1000000000000000000)]
    apply rs_fin (Y := f * 1414213562373095048 - e * 1000000000000000000)
    · rw [hid]
      generalize e * e = p at *
      generalize f * f = q at *
      omega
    · omega
    · omega
def rs_T (a b c d : Int) : Int := a * 1000000000000000000 + b * 1414213562373095048 + c * 1732050807568877293 + d * 2449489742783178098
theorem rs_ST (a b c d : Int) : 1000000000000000000 * rs_T a b c d = 1000000000000000000 * (a * 1000000000000000000 + b * 1414213562373095048) + 1732050807568877293 * (c * 1000000000000000000 + d * 1414213562373095048) + d * 1937203297062054936 := by
  unfold rs_T
  omega
/-- the box in which all the signs of this component lie -/
def rs_B (a b c d : Int) : Prop := (-33200 ≤ a ∧ a ≤ 33200) ∧ (-1800 ≤ b ∧ b ≤ 1800) ∧ (-1800 ≤ c ∧ c ≤ 1800) ∧ (-1800 ≤ d ∧ d ≤ 1800)
theorem rs_up1 {a b : Int} (ha : -33200 ≤ a ∧ a ≤ 33200) (hb : -1800 ≤ b ∧ b ≤ 1800) (h : rs_P a b) : 1000000000000000000 ≤ 2 * (36800 * (a * 1000000000000000000 + b * 1414213562373095048)) :=
  rs_Ppos h (by omega) (by omega) (by omega) (by omega) (by omega)
theorem rs_pos2 {a b : Int} (ha : -33200 ≤ a ∧ a ≤ 33200) (hb : -1800 ≤ b ∧ b ≤ 1800) (h1 : rs_P a b) : 0 < rs_T a b 0 0 := by
  have k1 := rs_up1 ha hb h1
  have k3 := rs_ST a b 0 0
  generalize a * 1000000000000000000 + b * 1414213562373095048 = P at *
  generalize rs_T a b 0 0 = T at *
  clear h1 ha hb
  omega
theorem rs_fin2 {R Y K U L : Int} (hK : K ≤ R * Y) (hK0 : 0 < K) (h0 : 0 < Y) (hU : Y ≤ U) (hL : L * U < K) : L < R := by
  have hR : 0 ≤ R := by
    apply Int.not_lt.mp
    intro hx
    have h := Int.mul_le_mul_of_nonneg_right (Int.le_of_lt hx) (Int.le_of_lt h0)
    rw [Int.zero_mul] at h
    omega
  have h1 := Int.mul_le_mul_of_nonneg_left hU hR
  apply Int.not_le.mp
  intro hx
  have h2 := Int.mul_le_mul_of_nonneg_right hx (show 0 ≤ U by omega)
  omega
theorem rs_id1 (a b c d S A : Int) : (a * S + b * A) * (a * S + b * A) - 3 * ((c * S + d * A) * (c * S + d * A)) = S * ((a * a + 2 * (b * b) - 3 * (c * c) - 6 * (d * d)) * S + (2 * (a * b) - 6 * (c * d)) * A) - (b * b - 3 * (d * d)) * (2 * (S * S) - A * A) := by grind
theorem rs_id2 (P Q : Int) : (1000000000000000000 * P + 1732050807568877293 * Q) * (1000000000000000000 * P - 1732050807568877293 * Q) = 1000000000000000000000000000000000000 * (P * P - 3 * (Q * Q)) + 1827127723508992151 * (Q * Q) := by grind
theorem rs_ef {a b c d e f : Int} (hB : rs_B a b c d) (he : e = a * a + 2 * (b * b) - 3 * (c * c) - 6 * (d * d)) (hf : f = 2 * (a * b) - 6 * (c * d)) : (-29160000 ≤ e ∧ e ≤ 1108720000) ∧ (-138960000 ≤ f ∧ f ≤ 138960000) := by
  obtain ⟨ha, hb, hc, hd⟩ := hB
  have a1 := rs_sqle (p := 33200) ha.1 ha.2
  have b1 := rs_sqle (p := 1800) hb.1 hb.2
  have c1 := rs_sqle (p := 1800) hc.1 hc.2
  have d1 := rs_sqle (p := 1800) hd.1 hd.2
  have a0 := rs_sqnn a
  have b0 := rs_sqnn b
  have c0 := rs_sqnn c
  have d0 := rs_sqnn d
  have m1 := rs_mc 33200 1800 59760000 (by omega) ha hb
  have m2 := rs_mc 1800 1800 3240000 (by omega) hc hd
  clear ha hb hc hd
  omega
end
section
/-! part 025: the four cases in which the sum is above 0; the sign -/
theorem rs_lT {R T d : Int} (hR : 3600000000000000000000 < R) (k3 : 1000000000000000000 * T = R + d * 1937203297062054936) (hd : -1800 ≤ d ∧ d ≤ 1800) : 0 < T := by omega
theorem rs_l1a {P Q : Int} (k1 : 1000000000000000000 ≤ 2 * (36800 * P)) (k2 : 1000000000000000000 ≤ 2 * (36800 * Q)) : 3600000000000000000000 < 1000000000000000000 * P + 1732050807568877293 * Q := by omega
theorem rs_l1 {P Q T d : Int} (k1 : 1000000000000000000 ≤ 2 * (36800 * P)) (k2 : 1000000000000000000 ≤ 2 * (36800 * Q)) (k3 : 1000000000000000000 * T = 1000000000000000000 * P + 1732050807568877293 * Q + d * 1937203297062054936) (hd : -1800 ≤ d ∧ d ≤ 1800) : 0 < T :=
  rs_lT (rs_l1a k1 k2) k3 hd
theorem rs_pos1 {a b c d : Int} (hB : rs_B a b c d) (h1 : rs_P a b) (h2 : rs_P c d) : 0 < rs_T a b c d := by
  obtain ⟨ha, hb, hc, hd⟩ := hB
  have k2 := rs_up1 (a := c) (b := d) (by omega) hd h2
  exact rs_l1 (rs_up1 ha hb h1) k2 (rs_ST a b c d) hd
theorem rs_ST0 (c d : Int) : 1000000000000000000 * rs_T 0 0 c d = 1732050807568877293 * (c * 1000000000000000000 + d * 1414213562373095048) + d * 1937203297062054936 := by
  unfold rs_T
  omega
theorem rs_l3a {Q : Int} (k2 : 1000000000000000000 ≤ 2 * (36800 * Q)) : 3600000000000000000000 < 1732050807568877293 * Q := by omega
theorem rs_pos3 {c d : Int} (hc : -1800 ≤ c ∧ c ≤ 1800) (hd : -1800 ≤ d ∧ d ≤ 1800) (h2 : rs_P c d) : 0 < rs_T 0 0 c d := by
  have k2 := rs_up1 (a := c) (b := d) (by omega) hd h2
  exact rs_lT (rs_l3a k2) (rs_ST0 c d) hd
theorem rs_id3 {a b c d e f : Int} (S A : Int) (he : e = a * a + 2 * (b * b) - 3 * (c * c) - 6 * (d * d)) (hf : f = 2 * (a * b) - 6 * (c * d)) : (a * S + b * A) * (a * S + b * A) - 3 * ((c * S + d * A) * (c * S + d * A)) = S * (e * S + f * A) - (b * b - 3 * (d * d)) * (2 * (S * S) - A * A) := by
  subst he hf
  exact rs_id1 a b c d S A
theorem rs_ab : 2 * (1000000000000000000 * 1000000000000000000) - 1414213562373095048 * 1414213562373095048 = (2267518133157877696 : Int) := by omega
theorem rs_id4 {a b c d e f : Int} (he : e = a * a + 2 * (b * b) - 3 * (c * c) - 6 * (d * d)) (hf : f = 2 * (a * b) - 6 * (c * d)) : (a * 1000000000000000000 + b * 1414213562373095048) * (a * 1000000000000000000 + b * 1414213562373095048) - 3 * ((c * 1000000000000000000 + d * 1414213562373095048) * (c * 1000000000000000000 + d * 1414213562373095048)) = 1000000000000000000 * (e * 1000000000000000000 + f * 1414213562373095048) - (b * b - 3 * (d * d)) * 2267518133157877696 := by
  have h := rs_id3 1000000000000000000 1414213562373095048 he hf
  rw [rs_ab] at h
  exact h
theorem rs_l4W {PP QQ E bb dd : Int} (k4 : 1000000000000000000 ≤ 2 * (1387000000 * E)) (k5 : PP - 3 * QQ = 1000000000000000000 * E - (bb - 3 * dd) * 2267518133157877696) (b1 : bb ≤ 3240000) (d0 : 0 ≤ dd) : 350000000000000000000000000 ≤ PP - 3 * QQ := by omega
theorem rs_l5W {PP QQ E bb dd : Int} (k4 : 1000000000000000000 ≤ 2 * (1387000000 * (-E))) (k5 : PP - 3 * QQ = 1000000000000000000 * E - (bb - 3 * dd) * 2267518133157877696) (d1 : dd ≤ 3240000) (b0 : 0 ≤ bb) : PP - 3 * QQ ≤ -338000000000000000000000000 := by omega
theorem rs_l4K {RY PP QQ : Int} (k6 : RY = 1000000000000000000000000000000000000 * (PP - 3 * QQ) + 1827127723508992151 * QQ) (hW : 350000000000000000000000000 ≤ PP - 3 * QQ) (hQ : 0 ≤ QQ) : 300000000000000000000000000000000000000000000000000000000000000 ≤ RY := by omega
theorem rs_l5K {RY PP QQ : Int} (k6 : RY = 1000000000000000000000000000000000000 * (PP - 3 * QQ) + 1827127723508992151 * QQ) (hW : PP - 3 * QQ ≤ -338000000000000000000000000) (hQ : QQ ≤ 18900000000000000000000000000000000000000000) : 300000000000000000000000000000000000000000000000000000000000000 ≤ -RY := by omega
theorem rs_kpos : (0 : Int) < 300000000000000000000000000000000000000000000000000000000000000 := by omega
theorem rs_klu : (3600000000000000000000 : Int) * 44000000000000000000000000000000000000000 < 300000000000000000000000000000000000000000000000000000000000000 := by omega
theorem rs_l4Y {P Q : Int} (k1 : 1000000000000000000 ≤ 2 * (36800 * P)) (q2 : 1000000000000000000 ≤ 2 * (36800 * (-Q))) (p1 : P ≤ 35745584412271571086400) (q1 : -4345584412271571086400 ≤ Q) : 0 < 1000000000000000000 * P - 1732050807568877293 * Q ∧ 1000000000000000000 * P - 1732050807568877293 * Q ≤ 44000000000000000000000000000000000000000 := by
  constructor
  · omega
  · omega
theorem rs_l4 {P Q E T bb dd d : Int} (k1 : 1000000000000000000 ≤ 2 * (36800 * P)) (q2 : 1000000000000000000 ≤ 2 * (36800 * (-Q))) (k3 : 1000000000000000000 * T = 1000000000000000000 * P + 1732050807568877293 * Q + d * 1937203297062054936) (k4 : 1000000000000000000 ≤ 2 * (1387000000 * E)) (k5 : P * P - 3 * (Q * Q) = 1000000000000000000 * E - (bb - 3 * dd) * 2267518133157877696) (b1 : bb ≤ 3240000) (d0 : 0 ≤ dd) (p1 : P ≤ 35745584412271571086400) (q1 : -4345584412271571086400 ≤ Q) (hd : -1800 ≤ d ∧ d ≤ 1800) : 0 < T := by
  have hW := rs_l4W k4 k5 b1 d0
  have hK := rs_l4K (rs_id2 P Q) hW (rs_sqnn Q)
  have hY := rs_l4Y k1 q2 p1 q1
  exact rs_lT (rs_fin2 hK rs_kpos hY.1 hY.2 rs_klu) k3 hd
theorem rs_l5Y {P Q : Int} (p2 : 1000000000000000000 ≤ 2 * (36800 * (-P))) (k2 : 1000000000000000000 ≤ 2 * (36800 * Q)) (p1 : -35745584412271571086400 ≤ P) (q1 : Q ≤ 4345584412271571086400) : 0 < 1732050807568877293 * Q - 1000000000000000000 * P ∧ 1732050807568877293 * Q - 1000000000000000000 * P ≤ 44000000000000000000000000000000000000000 := by
  constructor
  · omega
  · omega
theorem rs_id5 (x y : Int) : (y + x) * (y - x) = -((x + y) * (x - y)) := by grind
theorem rs_qq : (4345584412271571086400 : Int) * 4345584412271571086400 ≤ 18900000000000000000000000000000000000000000 := by omega
theorem rs_l5 {P Q E T bb dd d : Int} (p2 : 1000000000000000000 ≤ 2 * (36800 * (-P))) (k2 : 1000000000000000000 ≤ 2 * (36800 * Q)) (k3 : 1000000000000000000 * T = 1000000000000000000 * P + 1732050807568877293 * Q + d * 1937203297062054936) (k4 : 1000000000000000000 ≤ 2 * (1387000000 * (-E))) (k5 : P * P - 3 * (Q * Q) = 1000000000000000000 * E - (bb - 3 * dd) * 2267518133157877696) (d1 : dd ≤ 3240000) (b0 : 0 ≤ bb) (p1 : -35745584412271571086400 ≤ P) (q0 : -4345584412271571086400 ≤ Q) (q1 : Q ≤ 4345584412271571086400) (hd : -1800 ≤ d ∧ d ≤ 1800) : 0 < T := by
  have hW := rs_l5W k4 k5 d1 b0
  have hq := rs_sqle q0 q1
  have hQ : Q * Q ≤ 18900000000000000000000000000000000000000000 := Int.le_trans hq rs_qq
  have hK := rs_l5K (rs_id2 P Q) hW hQ
  have hY := rs_l5Y p2 k2 p1 q1
  rw [← rs_id5] at hK
  have hR := rs_fin2 hK rs_kpos hY.1 hY.2 rs_klu
  rw [Int.add_comm] at hR
  exact rs_lT hR k3 hd
theorem rs_ngl {c d : Int} (M : Int) (h : 1000000000000000000 ≤ 2 * (M * (-c * 1000000000000000000 + -d * 1414213562373095048))) : 1000000000000000000 ≤ 2 * (M * (-(c * 1000000000000000000 + d * 1414213562373095048))) := by
  have e : -c * 1000000000000000000 + -d * 1414213562373095048 = -(c * 1000000000000000000 + d * 1414213562373095048) := by omega
  rw [e] at h
  exact h
theorem rs_PQ {a b : Int} (ha : -33200 ≤ a ∧ a ≤ 33200) (hb : -1800 ≤ b ∧ b ≤ 1800) : -35745584412271571086400 ≤ a * 1000000000000000000 + b * 1414213562373095048 ∧ a * 1000000000000000000 + b * 1414213562373095048 ≤ 35745584412271571086400 := by
  constructor
  · omega
  · omega
theorem rs_QQ {c d : Int} (hc : -1800 ≤ c ∧ c ≤ 1800) (hd : -1800 ≤ d ∧ d ≤ 1800) : -4345584412271571086400 ≤ c * 1000000000000000000 + d * 1414213562373095048 ∧ c * 1000000000000000000 + d * 1414213562373095048 ≤ 4345584412271571086400 := by
  constructor
  · omega
  · omega
theorem rs_sq18 {b : Int} (hb : -1800 ≤ b ∧ b ≤ 1800) : b * b ≤ 3240000 := by
  have h := rs_sqle (p := 1800) hb.1 hb.2
  omega
/-- P above 0 above Q, the squares' difference above 0: the sum is above 0 -/
theorem rs_pos4 {a b c d e f : Int} (hB : rs_B a b c d) (he : e = a * a + 2 * (b * b) - 3 * (c * c) - 6 * (d * d)) (hf : f = 2 * (a * b) - 6 * (c * d)) (h1 : rs_P a b) (h2 : rs_P (-c) (-d)) (h3 : rs_P e f) : 0 < rs_T a b c d := by
  have hef := rs_ef hB he hf
  have k5 := rs_id4 he hf
  clear he hf
  obtain ⟨ha, hb, hc, hd⟩ := hB
  have k2 := rs_up1 (a := -c) (b := -d) (by omega) (by omega) h2
  have k4 := rs_Ppos (M := 1387000000) h3 (by omega) (by omega) (by omega) (by omega) (by omega)
  exact rs_l4 (rs_up1 ha hb h1) (rs_ngl 36800 k2) (rs_ST a b c d) k4 k5 (rs_sq18 hb) (rs_sqnn d) (rs_PQ ha hb).2 (rs_QQ hc hd).1 hd
/-- P below 0 below Q, the squares' difference below 0: the sum is above 0 -/
theorem rs_pos5 {a b c d e f : Int} (hB : rs_B a b c d) (he : e = a * a + 2 * (b * b) - 3 * (c * c) - 6 * (d * d)) (hf : f = 2 * (a * b) - 6 * (c * d)) (h1 : rs_P (-a) (-b)) (h2 : rs_P c d) (h3 : rs_P (-e) (-f)) : 0 < rs_T a b c d := by
  have hef := rs_ef hB he hf
  have k5 := rs_id4 he hf
  clear he hf
  obtain ⟨ha, hb, hc, hd⟩ := hB
  have k1 := rs_up1 (a := -a) (b := -b) (by omega) (by omega) h1
  have k2 := rs_up1 (a := c) (b := d) (by omega) hd h2
  have k4 := rs_Ppos (M := 1387000000) h3 (by omega) (by omega) (by omega) (by omega) (by omega)
  exact rs_l5 (rs_ngl 36800 k1) k2 (rs_ST a b c d) (rs_ngl 1387000000 k4) k5 (rs_sq18 hd) (rs_sqnn b) (rs_PQ ha hb).1 (rs_QQ hc hd).1 (rs_QQ hc hd).2 hd
def rs_sg (a b c d : Int) : Int :=
  if rs_pr a b = rs_pr c d ∨ rs_pr c d = 0 then rs_pr a b else if rs_pr a b = 0 then rs_pr c d else rs_pr a b * rs_pr (a * a + 2 * (b * b) - 3 * (c * c) - 6 * (d * d)) (2 * (a * b) - 6 * (c * d))
theorem rs_Pnn {e f : Int} (h : rs_P e f) : rs_P (- -e) (- -f) := by
  rw [Int.neg_neg, Int.neg_neg]
  exact h
theorem rs_Tn {a b c d : Int} (h : 0 < rs_T (-a) (-b) (-c) (-d)) : rs_T a b c d < 0 := by
  unfold rs_T at *
  omega
theorem rs_Bn {a b c d : Int} (h : rs_B a b c d) : rs_B (-a) (-b) (-c) (-d) := by
  obtain ⟨ha, hb, hc, hd⟩ := h
  exact ⟨by omega, by omega, by omega, by omega⟩
theorem rs_main {a b c d : Int} (hB : rs_B a b c d) : (rs_sg a b c d = 0 ∧ a = 0 ∧ b = 0 ∧ c = 0 ∧ d = 0) ∨ (rs_sg a b c d = 1 ∧ 0 < rs_T a b c d) ∨ (rs_sg a b c d = -1 ∧ rs_T a b c d < 0) := by
  have hN := rs_Bn hB
  have he : a * a + 2 * (b * b) - 3 * (c * c) - 6 * (d * d) = (-a) * (-a) + 2 * ((-b) * (-b)) - 3 * ((-c) * (-c)) - 6 * ((-d) * (-d)) := by
    rw [Int.neg_mul_neg, Int.neg_mul_neg, Int.neg_mul_neg, Int.neg_mul_neg]
  have hf : 2 * (a * b) - 6 * (c * d) = 2 * ((-a) * (-b)) - 6 * ((-c) * (-d)) := by
    rw [Int.neg_mul_neg, Int.neg_mul_neg]
  unfold rs_sg
  rcases rs_tri a b with ⟨e1, z1, z2⟩ | ⟨e1, p1⟩ | ⟨e1, p1⟩
  · rcases rs_tri c d with ⟨e2, z3, z4⟩ | ⟨e2, p2⟩ | ⟨e2, p2⟩
    · rw [e1, e2]
      exact Or.inl ⟨by simp, z1, z2, z3, z4⟩
    · rw [e1, e2]
      subst z1 z2
      exact Or.inr (Or.inl ⟨by simp, rs_pos3 hB.2.2.1 hB.2.2.2 p2⟩)
    · rw [e1, e2]
      subst z1 z2
      refine Or.inr (Or.inr ⟨by simp, rs_Tn ?_⟩)
      exact rs_pos3 hN.2.2.1 hN.2.2.2 p2
  · rcases rs_tri c d with ⟨e2, z3, z4⟩ | ⟨e2, p2⟩ | ⟨e2, p2⟩
    · rw [e1, e2]
      subst z3 z4
      exact Or.inr (Or.inl ⟨by simp, rs_pos2 hB.1 hB.2.1 p1⟩)
    · rw [e1, e2]
      exact Or.inr (Or.inl ⟨by simp, rs_pos1 hB p1 p2⟩)
    · rcases rs_tri (a * a + 2 * (b * b) - 3 * (c * c) - 6 * (d * d)) (2 * (a * b) - 6 * (c * d)) with ⟨e3, z5, z6⟩ | ⟨e3, p3⟩ | ⟨e3, p3⟩
      · exfalso
        have h0 := rs_n0 (a := a) (b := b) (c := c) (d := d) (by omega) (by omega)
        rw [h0.1, h0.2.1] at e1
        exact absurd e1 (by decide)
      · rw [e1, e2, e3]
        exact Or.inr (Or.inl ⟨by simp, rs_pos4 hB rfl rfl p1 p2 p3⟩)
      · rw [e1, e2, e3]
        exact Or.inr (Or.inr ⟨by simp, rs_Tn (rs_pos5 hN he hf (rs_Pnn p1) p2 p3)⟩)
  · rcases rs_tri c d with ⟨e2, z3, z4⟩ | ⟨e2, p2⟩ | ⟨e2, p2⟩
    · rw [e1, e2]
      subst z3 z4
      refine Or.inr (Or.inr ⟨by simp, rs_Tn ?_⟩)
      exact rs_pos2 hN.1 hN.2.1 p1
    · rcases rs_tri (a * a + 2 * (b * b) - 3 * (c * c) - 6 * (d * d)) (2 * (a * b) - 6 * (c * d)) with ⟨e3, z5, z6⟩ | ⟨e3, p3⟩ | ⟨e3, p3⟩
      · exfalso
        have h0 := rs_n0 (a := a) (b := b) (c := c) (d := d) (by omega) (by omega)
        rw [h0.1, h0.2.1] at e1
        exact absurd e1 (by decide)
      · rw [e1, e2, e3]
        exact Or.inr (Or.inr ⟨by simp, rs_Tn (rs_pos4 hN he hf p1 (rs_Pnn p2) p3)⟩)
      · rw [e1, e2, e3]
        exact Or.inr (Or.inl ⟨by simp, rs_pos5 hB rfl rfl p1 p2 p3⟩)
    · rw [e1, e2]
      exact Or.inr (Or.inr ⟨by simp, rs_Tn (rs_pos1 hN p1 p2)⟩)
/-- the reference's reading: 0 where all four are, else by the sign of T -/
def rs_yv (a b c d : Int) : Int := if a = 0 ∧ b = 0 ∧ c = 0 ∧ d = 0 then 0 else if 0 < rs_T a b c d then 1 else -1
theorem rs_T0 : rs_T 0 0 0 0 = 0 := by
  unfold rs_T
  omega
theorem rs_xy {a b c d : Int} (hB : rs_B a b c d) : rs_sg a b c d = rs_yv a b c d := by
  unfold rs_yv
  rcases rs_main hB with ⟨h, z1, z2, z3, z4⟩ | ⟨h, t⟩ | ⟨h, t⟩
  · rw [h, if_pos ⟨z1, z2, z3, z4⟩]
  · have hn : ¬ (a = 0 ∧ b = 0 ∧ c = 0 ∧ d = 0) := by
      rintro ⟨rfl, rfl, rfl, rfl⟩
      rw [rs_T0] at t
      omega
    rw [h, if_neg hn, if_pos t]
  · have hn : ¬ (a = 0 ∧ b = 0 ∧ c = 0 ∧ d = 0) := by
      rintro ⟨rfl, rfl, rfl, rfl⟩
      rw [rs_T0] at t
      omega
    rw [h, if_neg hn, if_neg (by omega)]
theorem rs_ge {a b c d : Int} (hB : rs_B a b c d) : 0 ≤ rs_sg a b c d ↔ 0 ≤ rs_T a b c d := by
  rcases rs_main hB with ⟨h, rfl, rfl, rfl, rfl⟩ | ⟨h, t⟩ | ⟨h, t⟩
  · rw [h, rs_T0]
  · rw [h]
    omega
  · rw [h]
    omega
end
section
/-! part 03: common divisors -/
/-- Euclid on signed numbers, at most n steps -/
def rs_cd : Nat → Int → Int → Int
  | 0 => fun x _ => x
  | n + 1 => fun x y => if y = 0 then x else rs_cd n y (x.tmod y)
theorem rs_cd0 (n : Nat) (x : Int) : rs_cd n x 0 = x := by
  cases n with
  | zero => rfl
  | succ n =>
    show (if (0 : Int) = 0 then x else rs_cd n 0 (x.tmod 0)) = x
    exact if_pos rfl
theorem rs_cds (n : Nat) {x y : Int} (h : y ≠ 0) : rs_cd (n + 1) x y = rs_cd n y (x.tmod y) := if_neg h
theorem rs_gstep (x y : Nat) : Nat.gcd x y = Nat.gcd y (x % y) := by
  rw [Nat.gcd_comm x y, Nat.gcd_rec y x, Nat.gcd_comm (x % y) y]
theorem rs_half {y r k : Nat} (h0 : r ≠ 0) (h1 : r < y) (hk : y < 2 ^ (k + 1)) : y % r < 2 ^ k := by
  have a1 := Nat.div_add_mod y r
  have a2 := Nat.mod_lt y (show 0 < r by omega)
  have a3 : 0 < y / r := Nat.div_pos (by omega) (by omega)
  have a4 : r * 1 ≤ r * (y / r) := Nat.mul_le_mul_left r a3
  have a5 : 2 ^ (k + 1) = 2 * 2 ^ k := by rw [Nat.pow_succ, Nat.mul_comm]
  omega
theorem rs_cdg : ∀ (k n : Nat) (x y : Int), y.natAbs < 2 ^ k → 2 * k ≤ n → (rs_cd n x y).natAbs = Nat.gcd x.natAbs y.natAbs := by
  intro k
  induction k with
  | zero =>
    intro n x y hy _
    have h : y = 0 := by
      rw [Nat.pow_zero] at hy
      omega
    rw [h, rs_cd0]
    simp
  | succ k ih =>
    intro n x y hy hn
    by_cases h : y = 0
    · rw [h, rs_cd0]
      simp
    · obtain ⟨m, rfl⟩ : ∃ m, n = m + 1 + 1 := ⟨n - 2, by omega⟩
      rw [rs_cds _ h, rs_gstep]
      have e1 : (x.tmod y).natAbs = x.natAbs % y.natAbs := Int.natAbs_tmod x y
      by_cases h1 : x.tmod y = 0
      · rw [h1, rs_cd0, ← e1, h1]
        simp
      · rw [rs_cds _ h1, ← e1, rs_gstep]
        have e2 : (y.tmod (x.tmod y)).natAbs = y.natAbs % (x.tmod y).natAbs := Int.natAbs_tmod _ _
        rw [← e2]
        apply ih
        · rw [e2]
          apply rs_half
          · omega
          · rw [e1]
            exact Nat.mod_lt _ (by omega)
          · exact hy
        · omega
/-- the common divisor of five, as the component takes it -/
def rs_G (z : Nat → Int) : Nat := Nat.gcd (Nat.gcd (Nat.gcd (Nat.gcd (z 4).natAbs (z 0).natAbs) (z 1).natAbs) (z 2).natAbs) (z 3).natAbs
/-- the same, as the reference takes it -/
theorem rs_Gy (z : Nat → Int) : Nat.gcd (Nat.gcd (Nat.gcd (Nat.gcd (Nat.gcd 0 (z 0).natAbs) (z 1).natAbs) (z 2).natAbs) (z 3).natAbs) (z 4).natAbs = rs_G z := by
  unfold rs_G
  rw [Nat.gcd_zero_left]
  generalize (z 0).natAbs = a
  generalize (z 1).natAbs = b
  generalize (z 2).natAbs = c
  generalize (z 3).natAbs = d
  generalize (z 4).natAbs = m
  rw [Nat.gcd_comm m a, Nat.gcd_assoc a m b, Nat.gcd_comm m b, ← Nat.gcd_assoc a b m, Nat.gcd_assoc (Nat.gcd a b) m c, Nat.gcd_comm m c, ← Nat.gcd_assoc (Nat.gcd a b) c m, Nat.gcd_assoc (Nat.gcd (Nat.gcd a b) c) m d, Nat.gcd_comm m d, ← Nat.gcd_assoc]
/-- the divisor with m's sign -/
def rs_g (z : Nat → Int) : Int := if z 4 < 0 then -(rs_G z : Int) else (rs_G z : Int)
def rs_q (z : Nat → Int) (k : Nat) : Int := (z k).tdiv (rs_g z)
theorem rs_gn (z : Nat → Int) : (rs_g z).natAbs = rs_G z := by
  unfold rs_g
  split
  · omega
  · omega
theorem rs_Gd (z : Nat → Int) : rs_G z ∣ (z 0).natAbs ∧ rs_G z ∣ (z 1).natAbs ∧ rs_G z ∣ (z 2).natAbs ∧ rs_G z ∣ (z 3).natAbs ∧ rs_G z ∣ (z 4).natAbs := by
  unfold rs_G
  generalize (z 0).natAbs = a
  generalize (z 1).natAbs = b
  generalize (z 2).natAbs = c
  generalize (z 3).natAbs = d
  generalize (z 4).natAbs = m
  have h1 := Nat.gcd_dvd_left (Nat.gcd (Nat.gcd (Nat.gcd m a) b) c) d
  have h2 := Nat.dvd_trans h1 (Nat.gcd_dvd_left (Nat.gcd (Nat.gcd m a) b) c)
  have h3 := Nat.dvd_trans h2 (Nat.gcd_dvd_left (Nat.gcd m a) b)
  have h4 := Nat.dvd_trans h3 (Nat.gcd_dvd_left m a)
  exact ⟨Nat.dvd_trans h3 (Nat.gcd_dvd_right m a), Nat.dvd_trans h2 (Nat.gcd_dvd_right (Nat.gcd m a) b), Nat.dvd_trans h1 (Nat.gcd_dvd_right (Nat.gcd (Nat.gcd m a) b) c), Nat.gcd_dvd_right _ d, h4⟩
theorem rs_G0 {z : Nat → Int} (h : z 4 ≠ 0) : 0 < rs_G z := by
  apply Nat.pos_of_ne_zero
  intro h0
  have h1 := (rs_Gd z).2.2.2.2
  rw [h0] at h1
  have h2 := Nat.eq_zero_of_zero_dvd h1
  omega
theorem rs_qn (z : Nat → Int) (k : Nat) : (rs_q z k).natAbs = (z k).natAbs / rs_G z := by
  unfold rs_q
  rw [Int.natAbs_tdiv, rs_gn]
  rfl
/-- written without common divisor -/
theorem rs_q1 {z : Nat → Int} (h : z 4 ≠ 0) : rs_G (rs_q z) = 1 := by
  have hp := rs_G0 h
  obtain ⟨h0, h1, h2, h3, h4⟩ := rs_Gd z
  have e : rs_G (rs_q z) = rs_G z / rs_G z := by
    have hG : rs_G (rs_q z) = Nat.gcd (Nat.gcd (Nat.gcd (Nat.gcd (rs_q z 4).natAbs (rs_q z 0).natAbs) (rs_q z 1).natAbs) (rs_q z 2).natAbs) (rs_q z 3).natAbs := rfl
    rw [hG, rs_qn, rs_qn, rs_qn, rs_qn, rs_qn]
    have d0 := Nat.dvd_gcd h4 h0
    have d1 := Nat.dvd_gcd d0 h1
    have d2 := Nat.dvd_gcd d1 h2
    rw [Nat.gcd_div h4 h0, Nat.gcd_div d0 h1, Nat.gcd_div d1 h2, Nat.gcd_div d2 h3]
    rfl
  rw [e, Nat.div_self hp]
theorem rs_q4 {z : Nat → Int} (h : z 4 ≠ 0) : 1 ≤ rs_q z 4 := by
  have hp := rs_G0 h
  have h4 := (rs_Gd z).2.2.2.2
  obtain ⟨t, ht⟩ := h4
  have hd : rs_g z ∣ z 4 := by
    rw [← Int.natAbs_dvd_natAbs, rs_gn]
    exact ⟨t, ht⟩
  have e := Int.tdiv_mul_cancel hd
  have e' : rs_q z 4 * rs_g z = z 4 := e
  apply Int.not_lt.mp
  intro hq
  have hg : (z 4 < 0 ∧ rs_g z < 0) ∨ (0 < z 4 ∧ 0 < rs_g z) := by
    unfold rs_g
    by_cases hz : z 4 < 0
    · rw [if_pos hz]
      exact Or.inl ⟨hz, by omega⟩
    · rw [if_neg hz]
      exact Or.inr ⟨by omega, by omega⟩
  rcases hg with ⟨a1, a2⟩ | ⟨a1, a2⟩
  · have h1 := Int.mul_nonneg (show 0 ≤ -(rs_q z 4) by omega) (show 0 ≤ -(rs_g z) by omega)
    rw [Int.neg_mul_neg] at h1
    omega
  · have h1 := Int.mul_nonneg (show 0 ≤ -(rs_q z 4) by omega) (show 0 ≤ rs_g z by omega)
    rw [Int.neg_mul] at h1
    omega
/-- where the five have no common divisor and m is above 0, nothing changes -/
theorem rs_qid {z : Nat → Int} (h : rs_G z = 1) (h4 : 0 < z 4) (k : Nat) : rs_q z k = z k := by
  unfold rs_q rs_g
  rw [h, if_neg (by omega)]
  exact Int.tdiv_one _
theorem rs_gS {z : Nat → Int} (h : rs_S (z 4)) (h4 : z 4 ≠ 0) : rs_S (rs_g z) := by
  have h1 := Nat.le_of_dvd (by omega) (rs_Gd z).2.2.2.2
  have h2 := rs_gn z
  have h5 := h.1
  have h6 := h.2
  exact ⟨by omega, by omega⟩
end
section
/-! part 04: registers, the numbers that the operations make, their bounds -/
theorem rs_c64 (x : Int32) : x.toInt64 = Int64.ofInt x.toInt := (Int64.ofInt_int32ToInt x).symm
theorem rs_t32 {n : Int} (h1 : -2147483648 ≤ n) (h2 : n < 2147483648) : (Int32.ofInt n).toInt = n :=
  Int32.toInt_ofInt_of_le (by omega) (by omega)
theorem rs_eq32 {x : Int32} {n : Int} (h : x.toInt = n) : x = Int32.ofInt n := by
  rw [← h, Int32.ofInt_toInt]
/-- register r of the cells -/
def rs_z (c : Nat → Int32) (r : Nat) : Nat → Int := fun k => (c (5 * r + k)).toInt
def rs_ok (z : Nat → Int) : Prop := (∀ k, k < 4 → -30 ≤ z k ∧ z k ≤ 30) ∧ 1 ≤ z 4 ∧ z 4 ≤ 30 ∧ rs_G z = 1
def rs_Rc (c : Nat → Int32) : Prop := ∀ r, r < 6 → rs_ok (rs_z c r)
theorem rs_okb {z : Nat → Int} (h : rs_ok z) {k : Nat} (hk : k < 5) : -30 ≤ z k ∧ z k ≤ 30 := by
  by_cases h4 : k < 4
  · exact h.1 k h4
  · have e : k = 4 := by omega
    have h1 := h.2.1
    have h2 := h.2.2.1
    rw [e]
    exact ⟨by omega, h2⟩
theorem rs_okc {z w : Nat → Int} (e : ∀ k, k < 5 → z k = w k) (h : rs_ok z) : rs_ok w := by
  obtain ⟨h1, h2, h3, h4⟩ := h
  have e0 := e 0 (by omega)
  have e1 := e 1 (by omega)
  have e2 := e 2 (by omega)
  have e3 := e 3 (by omega)
  have e4 := e 4 (by omega)
  refine ⟨fun k hk => ?_, ?_, ?_, ?_⟩
  · rw [← e k (by omega)]
    exact h1 k hk
  · rw [← e4]
    exact h2
  · rw [← e4]
    exact h3
  · unfold rs_G at *
    rw [← e0, ← e1, ← e2, ← e3, ← e4]
    exact h4
/-- the cells with the first i places of register r written -/
def rs_st (c : Nat → Int32) (r : Nat) (q : Nat → Int) (i : Nat) : Nat → Int32 := fun j => if 5 * r ≤ j ∧ j < 5 * r + i then Int32.ofInt (q (j - 5 * r)) else c j
theorem rs_st0 (c : Nat → Int32) (r : Nat) (q : Nat → Int) : rs_st c r q 0 = c := by
  funext j
  exact if_neg (by omega)
theorem rs_sts (c : Nat → Int32) (r : Nat) (q : Nat → Int) (i : Nat) : upd (rs_st c r q i) (5 * r + i) (Int32.ofInt (q i)) = rs_st c r q (i + 1) := by
  funext j
  unfold upd rs_st
  by_cases h : j = 5 * r + i
  · rw [if_pos h, if_pos (by omega)]
    have e : j - 5 * r = i := by omega
    rw [e]
  · rw [if_neg h]
    by_cases h2 : 5 * r ≤ j ∧ j < 5 * r + i
    · rw [if_pos h2, if_pos (by omega)]
    · rw [if_neg h2, if_neg (by omega)]
theorem rs_stn {c : Nat → Int32} {r : Nat} {q : Nat → Int} {i j : Nat} (h : j < 5 * r ∨ 5 * r + i ≤ j) : rs_st c r q i j = c j := if_neg (by omega)
theorem rs_stp {c : Nat → Int32} {r : Nat} {q : Nat → Int} {i k : Nat} (h : k < i) : rs_st c r q i (5 * r + k) = Int32.ofInt (q k) := by
  unfold rs_st
  rw [if_pos (by omega)]
  have e : 5 * r + k - 5 * r = k := by omega
  rw [e]
theorem rs_Rst {c : Nat → Int32} {r : Nat} {q : Nat → Int} (hc : rs_Rc c) (hq : rs_ok q) : rs_Rc (rs_st c r q 5) := by
  intro s hs
  by_cases e : s = r
  · subst e
    refine rs_okc (fun k hk => ?_) hq
    have hb := rs_okb hq hk
    unfold rs_z
    rw [rs_stp hk, rs_t32 (by omega) (by omega)]
  · refine rs_okc (fun k hk => ?_) (hc s hs)
    unfold rs_z
    rw [rs_stn (by omega)]
/-- x plus t times y -/
def rs_add (t : Int) (x y : Nat → Int) : Nat → Int := fun k => if k < 4 then x k * y 4 + t * y k * x 4 else x 4 * y 4
theorem rs_addb {t : Int} {x y : Nat → Int} (hx : rs_ok x) (hy : rs_ok y) (ht : t = 1 ∨ t = -1) {k : Nat} (hk : k < 5) : -1800 ≤ rs_add t x y k ∧ rs_add t x y k ≤ 1800 := by
  unfold rs_add
  have h4 := rs_mc 30 30 900 (by omega) (rs_okb hx (k := 4) (by omega)) (rs_okb hy (k := 4) (by omega))
  by_cases h : k < 4
  · rw [if_pos h]
    have h1 := rs_mc 30 30 900 (by omega) (rs_okb hx hk) (rs_okb hy (k := 4) (by omega))
    have h2 := rs_mc (x := t * y k) 30 30 900 (by omega) (by have := rs_okb hy hk; rcases ht with rfl | rfl <;> omega) (rs_okb hx (k := 4) (by omega))
    omega
  · rw [if_neg h]
    omega
theorem rs_pos11 {x y : Int} (hx : 1 ≤ x) (hy : 1 ≤ y) : 1 ≤ x * y := by
  have h := Int.mul_pos (show 0 < x by omega) (show 0 < y by omega)
  omega
theorem rs_add4 {t : Int} {x y : Nat → Int} (hx : rs_ok x) (hy : rs_ok y) : 1 ≤ rs_add t x y 4 := rs_pos11 hx.2.1 hy.2.1
/-- x times y -/
def rs_mul (x y : Nat → Int) : Nat → Int
  | 0 => x 0 * y 0 + 2 * x 1 * y 1 + 3 * x 2 * y 2 + 6 * x 3 * y 3
  | 1 => x 0 * y 1 + x 1 * y 0 + 3 * x 2 * y 3 + 3 * x 3 * y 2
  | 2 => x 0 * y 2 + x 2 * y 0 + 2 * x 1 * y 3 + 2 * x 3 * y 1
  | 3 => x 0 * y 3 + x 3 * y 0 + x 1 * y 2 + x 2 * y 1
  | _ => x 4 * y 4
theorem rs_co5 {P : Nat → Prop} (h0 : P 0) (h1 : P 1) (h2 : P 2) (h3 : P 3) (h4 : P 4) {k : Nat} (hk : k < 5) : P k := by
  rcases (show k = 0 ∨ k = 1 ∨ k = 2 ∨ k = 3 ∨ k = 4 by omega) with rfl | rfl | rfl | rfl | rfl
  · exact h0
  · exact h1
  · exact h2
  · exact h3
  · exact h4
theorem rs_mulb {x y : Nat → Int} (K : Int) (hx : ∀ k, k < 5 → -30 ≤ x k ∧ x k ≤ 30) (hy : ∀ k, k < 5 → -K ≤ y k ∧ y k ≤ K) {k : Nat} (hk : k < 5) : -(360 * K) ≤ rs_mul x y k ∧ rs_mul x y k ≤ 360 * K := by
  have x0 := hx 0 (by omega)
  have x1 := hx 1 (by omega)
  have x2 := hx 2 (by omega)
  have x3 := hx 3 (by omega)
  have x4 := hx 4 (by omega)
  have y0 := hy 0 (by omega)
  have y1 := hy 1 (by omega)
  have y2 := hy 2 (by omega)
  have y3 := hy 3 (by omega)
  have y4 := hy 4 (by omega)
  refine rs_co5 (P := fun k => -(360 * K) ≤ rs_mul x y k ∧ rs_mul x y k ≤ 360 * K) ?_ ?_ ?_ ?_ ?_ hk
  · have a1 := rs_mc (x := x 0) 30 K (30 * K) (by omega) (by omega) y0
    have a2 := rs_mc (x := 2 * x 1) 60 K (60 * K) (by omega) (by omega) y1
    have a3 := rs_mc (x := 3 * x 2) 90 K (90 * K) (by omega) (by omega) y2
    have a4 := rs_mc (x := 6 * x 3) 180 K (180 * K) (by omega) (by omega) y3
    show -(360 * K) ≤ x 0 * y 0 + 2 * x 1 * y 1 + 3 * x 2 * y 2 + 6 * x 3 * y 3 ∧ x 0 * y 0 + 2 * x 1 * y 1 + 3 * x 2 * y 2 + 6 * x 3 * y 3 ≤ 360 * K
    omega
  · have a1 := rs_mc (x := x 0) 30 K (30 * K) (by omega) (by omega) y1
    have a2 := rs_mc (x := x 1) 30 K (30 * K) (by omega) (by omega) y0
    have a3 := rs_mc (x := 3 * x 2) 90 K (90 * K) (by omega) (by omega) y3
    have a4 := rs_mc (x := 3 * x 3) 90 K (90 * K) (by omega) (by omega) y2
    show -(360 * K) ≤ x 0 * y 1 + x 1 * y 0 + 3 * x 2 * y 3 + 3 * x 3 * y 2 ∧ x 0 * y 1 + x 1 * y 0 + 3 * x 2 * y 3 + 3 * x 3 * y 2 ≤ 360 * K
    omega
  · have a1 := rs_mc (x := x 0) 30 K (30 * K) (by omega) (by omega) y2
    have a2 := rs_mc (x := x 2) 30 K (30 * K) (by omega) (by omega) y0
    have a3 := rs_mc (x := 2 * x 1) 60 K (60 * K) (by omega) (by omega) y3
    have a4 := rs_mc (x := 2 * x 3) 60 K (60 * K) (by omega) (by omega) y1
    show -(360 * K) ≤ x 0 * y 2 + x 2 * y 0 + 2 * x 1 * y 3 + 2 * x 3 * y 1 ∧ x 0 * y 2 + x 2 * y 0 + 2 * x 1 * y 3 + 2 * x 3 * y 1 ≤ 360 * K
    omega
  · have a1 := rs_mc (x := x 0) 30 K (30 * K) (by omega) (by omega) y3
    have a2 := rs_mc (x := x 3) 30 K (30 * K) (by omega) (by omega) y0
    have a3 := rs_mc (x := x 1) 30 K (30 * K) (by omega) (by omega) y2
    have a4 := rs_mc (x := x 2) 30 K (30 * K) (by omega) (by omega) y1
    show -(360 * K) ≤ x 0 * y 3 + x 3 * y 0 + x 1 * y 2 + x 2 * y 1 ∧ x 0 * y 3 + x 3 * y 0 + x 1 * y 2 + x 2 * y 1 ≤ 360 * K
    omega
  · have a1 := rs_mc (x := x 4) 30 K (30 * K) (by omega) (by omega) y4
    show -(360 * K) ≤ x 4 * y 4 ∧ x 4 * y 4 ≤ 360 * K
    omega
def rs_u (y : Nat → Int) : Int := y 0 * y 0 - 2 * y 1 * y 1 + 3 * y 2 * y 2 - 6 * y 3 * y 3
def rs_v (y : Nat → Int) : Int := 2 * y 0 * y 2 - 4 * y 1 * y 3
def rs_N (y : Nat → Int) : Int := rs_u y * rs_u y - 3 * rs_v y * rs_v y
/-- 1 over y, as the component takes it -/
def rs_inv (y : Nat → Int) : Nat → Int
  | 0 => y 4 * (y 0 * rs_u y - 3 * y 2 * rs_v y)
  | 1 => y 4 * (3 * y 3 * rs_v y - y 1 * rs_u y)
  | 2 => y 4 * (y 2 * rs_u y - y 0 * rs_v y)
  | 3 => y 4 * (y 1 * rs_v y - y 3 * rs_u y)
  | _ => rs_N y
theorem rs_uvb {y : Nat → Int} (hy : ∀ k, k < 5 → -30 ≤ y k ∧ y k ≤ 30) : (-10800 ≤ rs_u y ∧ rs_u y ≤ 10800) ∧ (-5400 ≤ rs_v y ∧ rs_v y ≤ 5400) := by
  have y0 := hy 0 (by omega)
  have y1 := hy 1 (by omega)
  have y2 := hy 2 (by omega)
  have y3 := hy 3 (by omega)
  have a1 := rs_mc (x := y 0) (y := y 0) 30 30 900 (by omega) y0 y0
  have a2 := rs_mc (x := 2 * y 1) (y := y 1) 60 30 1800 (by omega) (by omega) y1
  have a3 := rs_mc (x := 3 * y 2) (y := y 2) 90 30 2700 (by omega) (by omega) y2
  have a4 := rs_mc (x := 6 * y 3) (y := y 3) 180 30 5400 (by omega) (by omega) y3
  have a5 := rs_mc (x := 2 * y 0) (y := y 2) 60 30 1800 (by omega) (by omega) y2
  have a6 := rs_mc (x := 4 * y 1) (y := y 3) 120 30 3600 (by omega) (by omega) y3
  unfold rs_u rs_v
  omega
theorem rs_Nb {y : Nat → Int} (hy : ∀ k, k < 5 → -30 ≤ y k ∧ y k ≤ 30) : -300000000 ≤ rs_N y ∧ rs_N y ≤ 300000000 := by
  obtain ⟨hu, hv⟩ := rs_uvb hy
  have a1 := rs_mc 10800 10800 116640000 (by omega) hu hu
  have a2 := rs_mc (x := 3 * rs_v y) 16200 5400 87480000 (by omega) (by omega) hv
  unfold rs_N
  omega
theorem rs_invb {y : Nat → Int} (hy : ∀ k, k < 5 → -30 ≤ y k ∧ y k ≤ 30) {k : Nat} (hk : k < 5) : -300000000 ≤ rs_inv y k ∧ rs_inv y k ≤ 300000000 := by
  obtain ⟨hu, hv⟩ := rs_uvb hy
  have y0 := hy 0 (by omega)
  have y1 := hy 1 (by omega)
  have y2 := hy 2 (by omega)
  have y3 := hy 3 (by omega)
  have y4 := hy 4 (by omega)
  refine rs_co5 (P := fun k => -300000000 ≤ rs_inv y k ∧ rs_inv y k ≤ 300000000) ?_ ?_ ?_ ?_ (rs_Nb hy) hk
  · have a1 := rs_mc (x := y 0) 30 10800 324000 (by omega) y0 hu
    have a2 := rs_mc (x := 3 * y 2) 90 5400 486000 (by omega) (by omega) hv
    exact rs_mc 30 810000 300000000 (by omega) y4 (by omega)
  · have a1 := rs_mc (x := y 1) 30 10800 324000 (by omega) y1 hu
    have a2 := rs_mc (x := 3 * y 3) 90 5400 486000 (by omega) (by omega) hv
    exact rs_mc 30 810000 300000000 (by omega) y4 (by omega)
  · have a1 := rs_mc (x := y 2) 30 10800 324000 (by omega) y2 hu
    have a2 := rs_mc (x := y 0) 30 5400 162000 (by omega) y0 hv
    exact rs_mc 30 810000 300000000 (by omega) y4 (by omega)
  · have a1 := rs_mc (x := y 3) 30 10800 324000 (by omega) y3 hu
    have a2 := rs_mc (x := y 1) 30 5400 162000 (by omega) y1 hv
    exact rs_mc 30 810000 300000000 (by omega) y4 (by omega)
theorem rs_Nef (a b c d : Int) : (a * a - 2 * b * b + 3 * c * c - 6 * d * d) * (a * a - 2 * b * b + 3 * c * c - 6 * d * d) - 3 * (2 * a * c - 4 * b * d) * (2 * a * c - 4 * b * d) = (a * a + 2 * (b * b) - 3 * (c * c) - 6 * (d * d)) * (a * a + 2 * (b * b) - 3 * (c * c) - 6 * (d * d)) - 2 * ((2 * (a * b) - 6 * (c * d)) * (2 * (a * b) - 6 * (c * d))) := by grind
theorem rs_N0 {y : Nat → Int} (h : ¬ (y 0 = 0 ∧ y 1 = 0 ∧ y 2 = 0 ∧ y 3 = 0)) : rs_N y ≠ 0 := by
  intro hN
  have e := rs_Nef (y 0) (y 1) (y 2) (y 3)
  have e2 : rs_N y = (y 0 * y 0 + 2 * (y 1 * y 1) - 3 * (y 2 * y 2) - 6 * (y 3 * y 3)) * (y 0 * y 0 + 2 * (y 1 * y 1) - 3 * (y 2 * y 2) - 6 * (y 3 * y 3)) - 2 * ((2 * (y 0 * y 1) - 6 * (y 2 * y 3)) * (2 * (y 0 * y 1) - 6 * (y 2 * y 3))) := e
  rw [hN] at e2
  have h2 := rs_i2 (x := y 0 * y 0 + 2 * (y 1 * y 1) - 3 * (y 2 * y 2) - 6 * (y 3 * y 3)) (y := 2 * (y 0 * y 1) - 6 * (y 2 * y 3)) (by omega)
  exact h (rs_n0 (by have := h2.1; omega) (by have := h2.2; omega))
end
section
/-! part 05: the reference's determinants are the component's quotient (written by wip/whole/gen_cramer.py) -/
theorem rs_dN (a b c d : Int) : (a * a - (2 * b) * b) * (a * a - (2 * b) * b) - (a * (3 * d) - (3 * c) * b) * ((2 * d) * a - (2 * b) * c) + (a * (3 * c) - (6 * d) * b) * ((2 * d) * b - a * c) + ((2 * b) * (3 * d) - (3 * c) * a) * (c * a - (2 * b) * d) - ((2 * b) * (3 * c) - (6 * d) * a) * (c * b - a * d) + ((3 * c) * (3 * c) - (6 * d) * (3 * d)) * (c * c - (2 * d) * d) = (a * a - 2 * b * b + 3 * c * c - 6 * d * d) * (a * a - 2 * b * b + 3 * c * c - 6 * d * d) - 3 * (2 * a * c - 4 * b * d) * (2 * a * c - 4 * b * d) := by grind
theorem rs_d0 (a b c d m p q r s : Int) : ((p * a - (2 * b) * q) * (a * a - (2 * b) * b) - (p * (3 * d) - (3 * c) * q) * ((2 * d) * a - (2 * b) * c) + (p * (3 * c) - (6 * d) * q) * ((2 * d) * b - a * c) + ((2 * b) * (3 * d) - (3 * c) * a) * (r * a - (2 * b) * s) - ((2 * b) * (3 * c) - (6 * d) * a) * (r * b - a * s) + ((3 * c) * (3 * c) - (6 * d) * (3 * d)) * (r * c - (2 * d) * s)) * m = p * (m * (a * (a * a - 2 * b * b + 3 * c * c - 6 * d * d) - 3 * c * (2 * a * c - 4 * b * d))) + 2 * q * (m * (3 * d * (2 * a * c - 4 * b * d) - b * (a * a - 2 * b * b + 3 * c * c - 6 * d * d))) + 3 * r * (m * (c * (a * a - 2 * b * b + 3 * c * c - 6 * d * d) - a * (2 * a * c - 4 * b * d))) + 6 * s * (m * (b * (2 * a * c - 4 * b * d) - d * (a * a - 2 * b * b + 3 * c * c - 6 * d * d))) := by grind
theorem rs_d1 (a b c d m p q r s : Int) : ((a * q - p * b) * (a * a - (2 * b) * b) - (a * (3 * d) - (3 * c) * b) * (r * a - (2 * b) * s) + (a * (3 * c) - (6 * d) * b) * (r * b - a * s) + (p * (3 * d) - (3 * c) * q) * (c * a - (2 * b) * d) - (p * (3 * c) - (6 * d) * q) * (c * b - a * d) + ((3 * c) * (3 * c) - (6 * d) * (3 * d)) * (c * s - r * d)) * m = p * (m * (3 * d * (2 * a * c - 4 * b * d) - b * (a * a - 2 * b * b + 3 * c * c - 6 * d * d))) + q * (m * (a * (a * a - 2 * b * b + 3 * c * c - 6 * d * d) - 3 * c * (2 * a * c - 4 * b * d))) + 3 * r * (m * (b * (2 * a * c - 4 * b * d) - d * (a * a - 2 * b * b + 3 * c * c - 6 * d * d))) + 3 * s * (m * (c * (a * a - 2 * b * b + 3 * c * c - 6 * d * d) - a * (2 * a * c - 4 * b * d))) := by grind
theorem rs_d2 (a b c d m p q r s : Int) : ((a * a - (2 * b) * b) * (r * a - (2 * b) * s) - (a * q - p * b) * ((2 * d) * a - (2 * b) * c) + (a * (3 * c) - (6 * d) * b) * ((2 * d) * s - r * c) + ((2 * b) * q - p * a) * (c * a - (2 * b) * d) - ((2 * b) * (3 * c) - (6 * d) * a) * (c * s - r * d) + (p * (3 * c) - (6 * d) * q) * (c * c - (2 * d) * d)) * m = p * (m * (c * (a * a - 2 * b * b + 3 * c * c - 6 * d * d) - a * (2 * a * c - 4 * b * d))) + r * (m * (a * (a * a - 2 * b * b + 3 * c * c - 6 * d * d) - 3 * c * (2 * a * c - 4 * b * d))) + 2 * q * (m * (b * (2 * a * c - 4 * b * d) - d * (a * a - 2 * b * b + 3 * c * c - 6 * d * d))) + 2 * s * (m * (3 * d * (2 * a * c - 4 * b * d) - b * (a * a - 2 * b * b + 3 * c * c - 6 * d * d))) := by grind
theorem rs_d3 (a b c d m p q r s : Int) : ((a * a - (2 * b) * b) * (a * s - r * b) - (a * (3 * d) - (3 * c) * b) * ((2 * d) * s - r * c) + (a * q - p * b) * ((2 * d) * b - a * c) + ((2 * b) * (3 * d) - (3 * c) * a) * (c * s - r * d) - ((2 * b) * q - p * a) * (c * b - a * d) + ((3 * c) * q - p * (3 * d)) * (c * c - (2 * d) * d)) * m = p * (m * (b * (2 * a * c - 4 * b * d) - d * (a * a - 2 * b * b + 3 * c * c - 6 * d * d))) + s * (m * (a * (a * a - 2 * b * b + 3 * c * c - 6 * d * d) - 3 * c * (2 * a * c - 4 * b * d))) + q * (m * (c * (a * a - 2 * b * b + 3 * c * c - 6 * d * d) - a * (2 * a * c - 4 * b * d))) + r * (m * (3 * d * (2 * a * c - 4 * b * d) - b * (a * a - 2 * b * b + 3 * c * c - 6 * d * d))) := by grind
def rs_mi (E : Nat → Int) (i k p q : Nat) : Int := E (4 * i + p) * E (4 * k + q) - E (4 * i + q) * E (4 * k + p)
def rs_det (E : Nat → Int) : Int := rs_mi E 0 1 0 1 * rs_mi E 2 3 2 3 - rs_mi E 0 1 0 2 * rs_mi E 2 3 1 3 + rs_mi E 0 1 0 3 * rs_mi E 2 3 1 2 + rs_mi E 0 1 1 2 * rs_mi E 2 3 0 3 - rs_mi E 0 1 1 3 * rs_mi E 2 3 0 2 + rs_mi E 0 1 2 3 * rs_mi E 2 3 0 1
def rs_mat (y : Nat → Int) : Nat → Int
  | 0 => y 0
  | 1 => 2 * y 1
  | 2 => 3 * y 2
  | 3 => 6 * y 3
  | 4 => y 1
  | 5 => y 0
  | 6 => 3 * y 3
  | 7 => 3 * y 2
  | 8 => y 2
  | 9 => 2 * y 3
  | 10 => y 0
  | 11 => 2 * y 1
  | 12 => y 3
  | 13 => y 2
  | 14 => y 1
  | _ => y 0
def rs_ch (n : Nat) (x y : Nat → Int) (i : Nat) : Int := if i % 4 = n then x (i / 4) else rs_mat y i
theorem rs_detN (x y : Nat → Int) : rs_det (rs_ch 4 x y) = rs_N y := rs_dN (y 0) (y 1) (y 2) (y 3)
theorem rs_det0 (x y : Nat → Int) : rs_det (rs_ch 0 x y) * y 4 = rs_mul x (rs_inv y) 0 := rs_d0 (y 0) (y 1) (y 2) (y 3) (y 4) (x 0) (x 1) (x 2) (x 3)
theorem rs_det1 (x y : Nat → Int) : rs_det (rs_ch 1 x y) * y 4 = rs_mul x (rs_inv y) 1 := rs_d1 (y 0) (y 1) (y 2) (y 3) (y 4) (x 0) (x 1) (x 2) (x 3)
theorem rs_det2 (x y : Nat → Int) : rs_det (rs_ch 2 x y) * y 4 = rs_mul x (rs_inv y) 2 := rs_d2 (y 0) (y 1) (y 2) (y 3) (y 4) (x 0) (x 1) (x 2) (x 3)
theorem rs_det3 (x y : Nat → Int) : rs_det (rs_ch 3 x y) * y 4 = rs_mul x (rs_inv y) 3 := rs_d3 (y 0) (y 1) (y 2) (y 3) (y 4) (x 0) (x 1) (x 2) (x 3)
theorem rs_detk (x y : Nat → Int) {k : Nat} (hk : k < 4) : rs_det (rs_ch k x y) * y 4 = rs_mul x (rs_inv y) k := by
  rcases (show k = 0 ∨ k = 1 ∨ k = 2 ∨ k = 3 by omega) with rfl | rfl | rfl | rfl
  · exact rs_det0 x y
  · exact rs_det1 x y
  · exact rs_det2 x y
  · exact rs_det3 x y
/-- the reference's product, by rows of its matrix -/
theorem rs_row (x y : Nat → Int) {k : Nat} (hk : k < 4) : rs_mat y (4 * k + 0) * x 0 + rs_mat y (4 * k + 1) * x 1 + rs_mat y (4 * k + 2) * x 2 + rs_mat y (4 * k + 3) * x 3 = rs_mul x y k := by
  rcases (show k = 0 ∨ k = 1 ∨ k = 2 ∨ k = 3 by omega) with rfl | rfl | rfl | rfl
  · show y 0 * x 0 + 2 * y 1 * x 1 + 3 * y 2 * x 2 + 6 * y 3 * x 3 = x 0 * y 0 + 2 * x 1 * y 1 + 3 * x 2 * y 2 + 6 * x 3 * y 3
    grind
  · show y 1 * x 0 + y 0 * x 1 + 3 * y 3 * x 2 + 3 * y 2 * x 3 = x 0 * y 1 + x 1 * y 0 + 3 * x 2 * y 3 + 3 * x 3 * y 2
    grind
  · show y 2 * x 0 + 2 * y 3 * x 1 + y 0 * x 2 + 2 * y 1 * x 3 = x 0 * y 2 + x 2 * y 0 + 2 * x 1 * y 3 + 2 * x 3 * y 1
    grind
  · show y 3 * x 0 + y 2 * x 1 + y 1 * x 2 + y 0 * x 3 = x 0 * y 3 + x 3 * y 0 + x 1 * y 2 + x 2 * y 1
    grind
end
section
/-! part 06: whole parts, and the reference's high and low halves -/
def rs_F (n : Int) (z : Nat → Int) : Int := (n * rs_T (z 0) (z 1) (z 2) (z 3)) / (z 4 * 1000000000000000000)
theorem rs_Tf (n f a b c d m : Int) : rs_T (n * a - f * m) (n * b) (n * c) (n * d) = n * rs_T a b c d - f * (m * 1000000000000000000) := by
  unfold rs_T
  grind
theorem rs_leF {n f : Int} {z : Nat → Int} (h4 : 1 ≤ z 4) : 0 ≤ rs_T (n * z 0 - f * z 4) (n * z 1) (n * z 2) (n * z 3) ↔ f ≤ rs_F n z := by
  unfold rs_F
  rw [rs_Tf, Int.le_ediv_iff_mul_le (by omega)]
  omega
theorem rs_nz {n x : Int} (hn : 0 ≤ n ∧ n ≤ 5) (hx : -30 ≤ x ∧ x ≤ 30) : -150 ≤ n * x ∧ n * x ≤ 150 :=
  rs_mc 5 30 150 (by omega) (by omega) hx
theorem rs_fB {n f : Int} {z : Nat → Int} (hn : 0 ≤ n ∧ n ≤ 5) (hz : rs_ok z) (hf : -1100 ≤ f ∧ f ≤ 1100) : rs_B (n * z 0 - f * z 4) (n * z 1) (n * z 2) (n * z 3) := by
  have a0 := rs_nz hn (hz.1 0 (by omega))
  have a1 := rs_nz hn (hz.1 1 (by omega))
  have a2 := rs_nz hn (hz.1 2 (by omega))
  have a3 := rs_nz hn (hz.1 3 (by omega))
  have h1 := hz.2.1
  have h2 := hz.2.2.1
  have a4 := rs_mc (x := f) (y := z 4) 1100 30 33000 (by omega) hf (by omega)
  exact ⟨by omega, by omega, by omega, by omega⟩
theorem rs_Fb {n : Int} {z : Nat → Int} (hn : 0 ≤ n ∧ n ≤ 5) (hz : rs_ok z) : -1024 ≤ rs_F n z ∧ rs_F n z < 1024 := by
  have a0 := rs_nz hn (hz.1 0 (by omega))
  have a1 := rs_nz hn (hz.1 1 (by omega))
  have a2 := rs_nz hn (hz.1 2 (by omega))
  have a3 := rs_nz hn (hz.1 3 (by omega))
  have h1 := hz.2.1
  constructor
  · rw [← rs_leF h1]
    unfold rs_T
    generalize n * z 0 = p at *
    generalize n * z 1 = q at *
    generalize n * z 2 = r at *
    generalize n * z 3 = s at *
    generalize z 4 = m at *
    clear hn hz
    omega
  · apply Int.not_le.mp
    rw [← rs_leF h1]
    unfold rs_T
    generalize n * z 0 = p at *
    generalize n * z 1 = q at *
    generalize n * z 2 = r at *
    generalize n * z 3 = s at *
    generalize z 4 = m at *
    clear hn hz
    omega
def rs_hi (a b c d : Int) : Int := a * 1000000000 + b * 1414213562 + c * 1732050807 + d * 2449489742
def rs_lo (b c d : Int) : Int := b * 373095048 + c * 568877293 + d * 783178098
theorem rs_hl (a b c d : Int) : rs_T a b c d = rs_hi a b c d * 1000000000 + rs_lo b c d := by
  unfold rs_T rs_hi rs_lo
  omega
theorem rs_hlb {a b c d : Int} (hB : rs_B a b c d) : (-50000000000000 ≤ rs_hi a b c d ∧ rs_hi a b c d ≤ 50000000000000) ∧ (-50000000000000 ≤ rs_lo b c d ∧ rs_lo b c d ≤ 50000000000000) := by
  obtain ⟨ha, hb, hc, hd⟩ := hB
  unfold rs_hi rs_lo
  constructor
  · constructor
    · omega
    · omega
  · constructor
    · omega
    · omega
/-- the reference's test, on the halves, is that T is above 0 -/
theorem rs_ysg {t h l : Int} (e : t = h * 1000000000 + l) : (0 < h + l.tdiv 1000000000 ∨ (h + l.tdiv 1000000000 = 0 ∧ 0 < l.tmod 1000000000) ∨ (h + l.tdiv 1000000000 = 1 ∧ l.tmod 1000000000 < 0)) ↔ 0 < t := by
  have h1 := Int.tdiv_mul_add_tmod l 1000000000
  have h2 := Int.tmod_lt_of_pos l (show (0 : Int) < 1000000000 by omega)
  have h3 := Int.lt_tmod_of_pos l (show (0 : Int) < 1000000000 by omega)
  generalize l.tdiv 1000000000 = p at *
  generalize l.tmod 1000000000 = q at *
  constructor
  · intro h4
    omega
  · intro h4
    omega
end
section
/-! part 07: indices, the registers' tests, loads (written by wip/whole/gen_walks1.py) -/
theorem rs_ixX (r k : Nat) : nI r * 5 + nI k = nI (5 * r + k) := by
  have h : nI r * nI 5 + nI k = nI (5 * r + k) := by
    rw [pk_mul, nI_add, Nat.mul_comm]
  exact h
theorem rs_ixY (r k : Nat) : 5 * nI r + nI k = nI (5 * r + k) := by
  have h : nI 5 * nI r + nI k = nI (5 * r + k) := by
    rw [pk_mul, nI_add]
  exact h
theorem rs_ixY0 (r : Nat) : 5 * nI r = nI (5 * r) := by
  have h : nI 5 * nI r = nI (5 * r) := pk_mul 5 r
  exact h
theorem rs_inX {r k : Nat} (hr : r < 6) (hk : k < 5) : vp_in (nI r * 5 + nI k) 30 := by
  rw [rs_ixX]
  exact vp_in_nI (by omega) (by omega)
theorem rs_inY {r k : Nat} (hr : r < 6) (hk : k < 5) : vp_in (5 * nI r + nI k) 30 := by
  rw [rs_ixY]
  exact vp_in_nI (by omega) (by omega)
theorem rs_inY0 {r : Nat} (hr : r < 6) : vp_in (5 * nI r) 30 := by
  rw [rs_ixY0]
  exact vp_in_nI (by omega) (by omega)
theorem rs_clX {r k : Nat} (hr : r < 6) (hk : k < 5) : (nI r * 5 + nI k).toNatClampNeg = 5 * r + k := by
  rw [rs_ixX]
  exact nI_clamp (by omega)
theorem rs_clY {r k : Nat} (hr : r < 6) (hk : k < 5) : (5 * nI r + nI k).toNatClampNeg = 5 * r + k := by
  rw [rs_ixY]
  exact nI_clamp (by omega)
theorem rs_clY0 {r : Nat} (hr : r < 6) : (5 * nI r).toNatClampNeg = 5 * r + 0 := by
  rw [rs_ixY0]
  exact nI_clamp (by omega)
/-- an array's first n longs are these numbers -/
def rs_L (w : Nat → Int64) (z : Nat → Int) (n : Nat) : Prop := ∀ k, k < n → w k = Int64.ofInt (z k)
theorem rs_L0 (w : Nat → Int64) (z : Nat → Int) : rs_L w z 0 := fun k hk => absurd hk (by omega)
theorem rs_Lu {w : Nat → Int64} {z : Nat → Int} {i : Nat} {x : Int64} (h : rs_L w z i) (e : x = Int64.ofInt (z i)) : rs_L (vp_updL w i x) z (i + 1) := by
  intro k hk
  unfold vp_updL
  by_cases h1 : k = i
  · rw [if_pos h1, e, h1]
  · rw [if_neg h1]
    exact h k (by omega)
theorem rs_ld (c : Nat → Int32) (r k : Nat) : (c (5 * r + k)).toInt64 = Int64.ofInt (rs_z c r k) := rs_c64 _
theorem rs_1n0 : ¬ (1 : Int32) = 0 := by decide
theorem rs_regX1 {post : Int32 → Prop} {r : Nat} (hr : r < 6) (H : post 1) : wpX_isRegister post (nI r) :=
  br_f (nI_pos (by omega)) (pk_le 6 r (fun h => absurd h (by omega)) (fun _ => H))
theorem rs_regY1 {post : Int32 → Prop} {v : SY} {r : Nat} (hr : r < 6) (H : post 1) : wpY_isRegister post v (nI r) := by
  obtain ⟨c, M, X, C⟩ := v
  exact br_f (nI_pos (by omega)) (pk_lt 5 r (fun h => absurd h (by omega)) (fun _ => H))
/-- no register -/
def rs_bad (x : Int32) : Prop := x < 0 ∨ nI 6 ≤ x
theorem rs_regX0 {post : Int32 → Prop} {x : Int32} (h : rs_bad x) (H : post 0) : wpX_isRegister post x :=
  br_c (fun _ => H) (fun hn => br_t (h.resolve_left hn) H)
theorem rs_6of {x : Int32} (h : nI 6 ≤ x) : (5 : Int32) < x := by
  rw [Int32.lt_iff_toInt_lt]
  rw [Int32.le_iff_toInt_le, nI_toInt (by omega)] at h
  have e : (5 : Int32).toInt = 5 := by decide
  rw [e]
  omega
theorem rs_regY0 {post : Int32 → Prop} {v : SY} {x : Int32} (h : rs_bad x) (H : post 0) : wpY_isRegister post v x := by
  obtain ⟨c, M, X, C⟩ := v
  exact br_c (fun _ => H) (fun hn => br_t (rs_6of (h.resolve_left hn)) H)
theorem rs_reg (x : Int32) : rs_bad x ∨ ∃ r : Nat, r < 6 ∧ x = nI r := by
  rcases pk_ix x (n := 6) (by omega) with h | h | h
  · exact Or.inl (Or.inl h)
  · exact Or.inl (Or.inr h)
  · exact Or.inr h
theorem rs_areX1 {post : Int32 → Prop} {r x y : Nat} (hr : r < 6) (hx : x < 6) (hy : y < 6) (H : post 1) : wpX_areRegisters post (nI r) (nI x) (nI y) := by
  unfold wpX_areRegisters
  refine rs_regX1 hr (br_f rs_1n0 ?_)
  refine rs_regX1 hx (br_f rs_1n0 ?_)
  exact rs_regX1 hy (br_f rs_1n0 H)
theorem rs_areY1 {post : Int32 → Prop} {v : SY} {r x y : Nat} (hr : r < 6) (hx : x < 6) (hy : y < 6) (H : post 1) : wpY_areRegisters post v (nI r) (nI x) (nI y) := by
  obtain ⟨c, M, X, C⟩ := v
  unfold wpY_areRegisters
  dsimp only
  refine rs_regY1 hr (br_f rs_1n0 ?_)
  refine rs_regY1 hx (br_f rs_1n0 ?_)
  exact rs_regY1 hy (br_f rs_1n0 H)
/-- one of the three is no register -/
def rs_bad3 (a b d : Int32) : Prop := (∀ post : Int32 → Prop, post 0 → wpX_areRegisters post a b d) ∧ (∀ (post : Int32 → Prop) (v : SY), post 0 → wpY_areRegisters post v a b d)
theorem rs_bad3a {a b d : Int32} (h : rs_bad a) : rs_bad3 a b d := by
  constructor
  · intro post H
    unfold wpX_areRegisters
    exact rs_regX0 h (br_t rfl H)
  · intro post v H
    obtain ⟨c, M, X, C⟩ := v
    unfold wpY_areRegisters
    dsimp only
    exact rs_regY0 h (br_t rfl H)
theorem rs_bad3b {r : Nat} {b d : Int32} (hr : r < 6) (h : rs_bad b) : rs_bad3 (nI r) b d := by
  constructor
  · intro post H
    unfold wpX_areRegisters
    refine rs_regX1 hr (br_f rs_1n0 ?_)
    exact rs_regX0 h (br_t rfl H)
  · intro post v H
    obtain ⟨c, M, X, C⟩ := v
    unfold wpY_areRegisters
    dsimp only
    refine rs_regY1 hr (br_f rs_1n0 ?_)
    exact rs_regY0 h (br_t rfl H)
theorem rs_bad3c {r x : Nat} {d : Int32} (hr : r < 6) (hx : x < 6) (h : rs_bad d) : rs_bad3 (nI r) (nI x) d := by
  constructor
  · intro post H
    unfold wpX_areRegisters
    refine rs_regX1 hr (br_f rs_1n0 ?_)
    refine rs_regX1 hx (br_f rs_1n0 ?_)
    exact rs_regX0 h (br_t rfl H)
  · intro post v H
    obtain ⟨c, M, X, C⟩ := v
    unfold wpY_areRegisters
    dsimp only
    refine rs_regY1 hr (br_f rs_1n0 ?_)
    refine rs_regY1 hx (br_f rs_1n0 ?_)
    exact rs_regY0 h (br_t rfl H)
theorem rs_are (a b d : Int32) : (∃ r x y : Nat, (r < 6 ∧ x < 6 ∧ y < 6) ∧ a = nI r ∧ b = nI x ∧ d = nI y) ∨ rs_bad3 a b d := by
  rcases rs_reg a with h | ⟨r, hr, rfl⟩
  · exact Or.inr (rs_bad3a h)
  · rcases rs_reg b with h | ⟨x, hx, rfl⟩
    · exact Or.inr (rs_bad3b hr h)
    · rcases rs_reg d with h | ⟨y, hy, rfl⟩
      · exact Or.inr (rs_bad3c hr hx h)
      · exact Or.inl ⟨r, x, y, ⟨hr, hx, hy⟩, rfl, rfl, rfl⟩
theorem rs_ldFl {post : SX → Prop} {c : Nat → Int32} {s R : Nat → Int64} {r : Nat} (hr : r < 6) (H : ∀ w, rs_L w (rs_z c r) 5 → post (c, w, s, R)) : ∀ (d i : Nat) (w : Nat → Int64), i + d = 5 → rs_L w (rs_z c r) i → wX_load__first_2 post (nI r) (d + 1) (nI i) c w s R := by
  intro d
  induction d with
  | zero =>
    intro i w hi hL
    obtain rfl : i = 5 := by omega
    exact br_t (by decide) (H w hL)
  | succ d ih =>
    intro i w hi hL
    refine pk_le 5 i (fun h => absurd h (by omega)) (fun _ => ⟨rs_inX hr (by omega), vp_in_nI (by omega) (by omega), fun a ea y ey => ?_⟩)
    rw [ey, nI_1, ea, rs_clX hr (by omega), nI_clamp (by omega)]
    exact ih (i + 1) _ (by omega) (rs_Lu hL (rs_ld c r i))
theorem rs_ldF {post : SX → Prop} {c : Nat → Int32} {f s R : Nat → Int64} {r : Nat} (hr : r < 6) (H : ∀ w, rs_L w (rs_z c r) 5 → post (c, w, s, R)) : wpX_load__first post (c, f, s, R) (nI r) :=
  ⟨6, rs_ldFl hr H 5 0 f rfl (rs_L0 _ _)⟩
theorem rs_ldSl {post : SX → Prop} {c : Nat → Int32} {f R : Nat → Int64} {r : Nat} (hr : r < 6) (H : ∀ w, rs_L w (rs_z c r) 5 → post (c, f, w, R)) : ∀ (d i : Nat) (w : Nat → Int64), i + d = 5 → rs_L w (rs_z c r) i → wX_load__second_2 post (nI r) (d + 1) (nI i) c f w R := by
  intro d
  induction d with
  | zero =>
    intro i w hi hL
    obtain rfl : i = 5 := by omega
    exact br_t (by decide) (H w hL)
  | succ d ih =>
    intro i w hi hL
    refine pk_le 5 i (fun h => absurd h (by omega)) (fun _ => ⟨rs_inX hr (by omega), vp_in_nI (by omega) (by omega), fun a ea y ey => ?_⟩)
    rw [ey, nI_1, ea, rs_clX hr (by omega), nI_clamp (by omega)]
    exact ih (i + 1) _ (by omega) (rs_Lu hL (rs_ld c r i))
theorem rs_ldS {post : SX → Prop} {c : Nat → Int32} {f s R : Nat → Int64} {r : Nat} (hr : r < 6) (H : ∀ w, rs_L w (rs_z c r) 5 → post (c, f, w, R)) : wpX_load__second post (c, f, s, R) (nI r) :=
  ⟨6, rs_ldSl hr H 5 0 s rfl (rs_L0 _ _)⟩
theorem rs_ldRl {post : SX → Prop} {c : Nat → Int32} {f s : Nat → Int64} {r : Nat} (hr : r < 6) (H : ∀ w, rs_L w (rs_z c r) 5 → post (c, f, s, w)) : ∀ (d i : Nat) (w : Nat → Int64), i + d = 5 → rs_L w (rs_z c r) i → wX_load__result_2 post (nI r) (d + 1) (nI i) c f s w := by
  intro d
  induction d with
  | zero =>
    intro i w hi hL
    obtain rfl : i = 5 := by omega
    exact br_t (by decide) (H w hL)
  | succ d ih =>
    intro i w hi hL
    refine pk_le 5 i (fun h => absurd h (by omega)) (fun _ => ⟨rs_inX hr (by omega), vp_in_nI (by omega) (by omega), fun a ea y ey => ?_⟩)
    rw [ey, nI_1, ea, rs_clX hr (by omega), nI_clamp (by omega)]
    exact ih (i + 1) _ (by omega) (rs_Lu hL (rs_ld c r i))
theorem rs_ldR {post : SX → Prop} {c : Nat → Int32} {f s R : Nat → Int64} {r : Nat} (hr : r < 6) (H : ∀ w, rs_L w (rs_z c r) 5 → post (c, f, s, w)) : wpX_load__result post (c, f, s, R) (nI r) :=
  ⟨6, rs_ldRl hr H 5 0 R rfl (rs_L0 _ _)⟩
theorem rs_ldMl {post : SY → Prop} {c : Nat → Int32} {X C : Nat → Int64} {r : Nat} (hr : r < 6) (H : ∀ w, rs_L w (rs_z c r) 5 → post (c, w, X, C)) : ∀ (d i : Nat) (w : Nat → Int64), i + d = 5 → rs_L w (rs_z c r) i → wY_copy_2 post (nI r) (d + 1) (nI i) c w X C := by
  intro d
  induction d with
  | zero =>
    intro i w hi hL
    obtain rfl : i = 5 := by omega
    exact br_t (by decide) (H w hL)
  | succ d ih =>
    intro i w hi hL
    refine pk_le 5 i (fun h => absurd h (by omega)) (fun _ => ⟨rs_inY hr (by omega), vp_in_nI (by omega) (by omega), fun a ea y ey => ?_⟩)
    rw [ey, nI_1, ea, rs_clY hr (by omega), nI_clamp (by omega)]
    exact ih (i + 1) _ (by omega) (rs_Lu hL (rs_ld c r i))
theorem rs_ldM {post : SY → Prop} {c : Nat → Int32} {M X C : Nat → Int64} {r : Nat} (hr : r < 6) (H : ∀ w, rs_L w (rs_z c r) 5 → post (c, w, X, C)) : wpY_copy post (c, M, X, C) (nI r) :=
  ⟨6, rs_ldMl hr H 5 0 M rfl (rs_L0 _ _)⟩
end
section
/-! part 08: common divisors, reducing, keeping: the walks of both sides -/
theorem rs_z64 : (0 : Int64) = Int64.ofInt 0 := rfl
theorem rs_S0 : rs_S 0 := ⟨by omega, by omega⟩
theorem rs_Sl {n : Int} (h1 : -4000000000000000000 ≤ n) (h2 : n ≤ 4000000000000000000) : rs_S n := ⟨h1, h2⟩
theorem rs_n64 {y : Int} (hS : rs_S y) (hy : y ≠ 0) : ¬ Int64.ofInt y = 0 := fun h => hy ((rs_eq64 hS rs_S0).mp h)
theorem rs_e64 {y : Int} (hy : y = 0) : Int64.ofInt y = 0 := by
  rw [hy]
  rfl
theorem rs_ge64 {y : Int} (hS : rs_S y) : 0 ≤ Int64.ofInt y ↔ 0 ≤ y := rs_le64 rs_S0 hS
theorem rs_le064 {y : Int} (hS : rs_S y) : Int64.ofInt y ≤ 0 ↔ y ≤ 0 := rs_le64 hS rs_S0
theorem rs_Sn {x : Int} (h : x.natAbs ≤ 4000000000000000000) : rs_S x := ⟨by omega, by omega⟩
theorem rs_nS {x : Int} (h : rs_S x) : x.natAbs ≤ 4000000000000000000 := by
  have h1 := h.1
  have h2 := h.2
  omega
theorem rs_Stm {x y : Int} (h : rs_S x) : rs_S (x.tmod y) := by
  apply rs_Sn
  rw [Int.natAbs_tmod]
  exact Nat.le_trans (Nat.mod_le _ _) (rs_nS h)
theorem rs_cdXl {post : Int64 → Prop} : ∀ (d s : Nat) (x y : Int), s + d = 1000 → rs_S x → rs_S y → post (Int64.ofInt (rs_cd d x y)) → wX_commonDivisor_9 post (d + 1) (Int64.ofInt x) (Int64.ofInt y) (nI s) := by
  intro d
  induction d with
  | zero =>
    intro s x y hs hx hy H
    obtain rfl : s = 1000 := by omega
    exact br_t (by decide) H
  | succ d ih =>
    intro s x y hs hx hyS H
    refine pk_le 1000 s (fun h => absurd h (by omega)) (fun _ => ?_)
    by_cases hy : y = 0
    · rw [hy, rs_cd0] at H
      exact br_t (rs_e64 hy) H
    · have hn := rs_n64 hyS hy
      refine br_f hn ⟨hn, fun a ea b eb => ?_⟩
      rw [eb, nI_1, ea, rs_rem64 hx hyS]
      rw [rs_cds _ hy] at H
      exact ih (s + 1) y (x.tmod y) (by omega) hyS (rs_Stm hx) H
theorem rs_cdX {post : Int64 → Prop} {x y : Int} (hx : rs_S x) (hy : rs_S y) (H : ∀ g : Int, g.natAbs = Nat.gcd x.natAbs y.natAbs → post (Int64.ofInt g)) : wpX_commonDivisor post (Int64.ofInt x) (Int64.ofInt y) :=
  ⟨1001, rs_cdXl 1000 0 x y rfl hx hy (H _ (rs_cdg 62 1000 x y (by have := rs_nS hy; omega) (by omega)))⟩
theorem rs_nx {R : Nat → Int64} {z : Nat → Int} {i : Nat} {x : Int64} (h : ∀ k, i ≤ k → k < 5 → R k = Int64.ofInt (z k)) : ∀ k, i + 1 ≤ k → k < 5 → vp_updL R i x k = Int64.ofInt (z k) := by
  intro k h1 h2
  unfold vp_updL
  rw [if_neg (by omega)]
  exact h k (by omega) h2
theorem rs_red73 {post : SX → Prop} {c : Nat → Int32} {f s : Nat → Int64} {g : Int} {z : Nat → Int} (hg : g ≠ 0) (hgS : rs_S g) (hz : ∀ k, k < 5 → rs_S (z k)) (H : ∀ R, rs_L R (fun k => (z k).tdiv g) 5 → post (c, f, s, R)) : ∀ (d i : Nat) (R : Nat → Int64), i + d = 5 → rs_L R (fun k => (z k).tdiv g) i → (∀ k, i ≤ k → k < 5 → R k = Int64.ofInt (z k)) → wX_reduceResult_73 post (Int64.ofInt g) (d + 1) (nI i) c f s R := by
  intro d
  induction d with
  | zero =>
    intro i R hi hL hR
    obtain rfl : i = 5 := by omega
    exact br_t (by decide) (H R hL)
  | succ d ih =>
    intro i R hi hL hR
    refine pk_le 5 i (fun h => absurd h (by omega)) (fun _ => ⟨vp_in_nI (by omega) (by omega), rs_n64 hgS hg, vp_in_nI (by omega) (by omega), fun a ea y ey => ?_⟩)
    rw [ey, nI_1, ea, nI_clamp (by omega)]
    refine ih (i + 1) _ (by omega) (rs_Lu hL ?_) (rs_nx hR)
    rw [hR i (by omega) (by omega), rs_div64 (hz i (by omega)) hgS]
theorem rs_sh47 {post : SY → Prop} {c : Nat → Int32} {X C : Nat → Int64} {g : Int} {z : Nat → Int} (hg : g ≠ 0) (hgS : rs_S g) (hz : ∀ k, k < 5 → rs_S (z k)) (H : ∀ R, rs_L R (fun k => (z k).tdiv g) 5 → post (c, R, X, C)) : ∀ (d i : Nat) (R : Nat → Int64), i + d = 5 → rs_L R (fun k => (z k).tdiv g) i → (∀ k, i ≤ k → k < 5 → R k = Int64.ofInt (z k)) → wY_shorten_47 post (Int64.ofInt g) (d + 1) (nI i) c R X C := by
  intro d
  induction d with
  | zero =>
    intro i R hi hL hR
    obtain rfl : i = 5 := by omega
    exact br_t (by decide) (H R hL)
  | succ d ih =>
    intro i R hi hL hR
    refine pk_le 5 i (fun h => absurd h (by omega)) (fun _ => br_f (rs_n64 hgS hg) ⟨vp_in_nI (by omega) (by omega), rs_n64 hgS hg, vp_in_nI (by omega) (by omega), fun a ea y ey => ?_⟩)
    rw [ey, nI_1, ea, nI_clamp (by omega)]
    refine ih (i + 1) _ (by omega) (rs_Lu hL ?_) (rs_nx hR)
    rw [hR i (by omega) (by omega), rs_div64 (hz i (by omega)) hgS]
theorem rs_g0 {z : Nat → Int} (h : z 4 ≠ 0) : rs_g z ≠ 0 := by
  have h1 := rs_G0 h
  have h2 := rs_gn z
  omega
/-- the common divisor of m and the first i -/
def rs_Gi (z : Nat → Int) : Nat → Nat
  | 0 => (z 4).natAbs
  | i + 1 => Nat.gcd (rs_Gi z i) (z i).natAbs
theorem rs_Gi4 (z : Nat → Int) : rs_Gi z 4 = rs_G z := rfl
theorem rs_Gid (z : Nat → Int) : ∀ i, rs_Gi z i ∣ (z 4).natAbs := by
  intro i
  induction i with
  | zero => exact Nat.dvd_refl _
  | succ i ih => exact Nat.dvd_trans (Nat.gcd_dvd_left _ _) ih
theorem rs_GiS {z : Nat → Int} {D : Int} {i : Nat} (h : rs_S (z 4)) (h4 : z 4 ≠ 0) (hD : D.natAbs = rs_Gi z i) : rs_S D := by
  apply rs_Sn
  rw [hD]
  exact Nat.le_trans (Nat.le_of_dvd (by omega) (rs_Gid z i)) (rs_nS h)
theorem rs_redex {post : SX → Prop} {c : Nat → Int32} {f s R : Nat → Int64} {z : Nat → Int} {D : Int} (hD : D.natAbs = rs_G z) (hDS : rs_S D) (hS4 : rs_S (z 4)) (h4 : R 4 = Int64.ofInt (z 4)) (H : wX_reduceResult_64 post (Int64.ofInt (rs_g z)) c f s R) : (0 ≤ Int64.ofInt D → wX_reduceResult_42 post (Int64.ofInt D) 0 c f s R) ∧ (¬ 0 ≤ Int64.ofInt D → wX_reduceResult_42 post (Int64.ofInt D) 1 c f s R) := by
  have e4 : 0 ≤ R 4 ↔ 0 ≤ z 4 := by
    rw [h4]
    exact rs_ge64 hS4
  by_cases hd : 0 ≤ D
  · refine br_t ((rs_ge64 hDS).mpr hd) ?_
    by_cases hz : 0 ≤ z 4
    · refine br_t (e4.mpr hz) (br_t rfl ?_)
      have e : D = rs_g z := by
        unfold rs_g
        rw [if_neg (by omega)]
        omega
      rw [e]
      exact H
    · refine br_f (fun h => hz (e4.mp h)) (br_f (by decide) (fun x ex => ?_))
      have e : -D = rs_g z := by
        unfold rs_g
        rw [if_pos (by omega)]
        omega
      rw [ex, ← Int64.ofInt_neg, e]
      exact H
  · refine br_f (fun h => hd ((rs_ge64 hDS).mp h)) ?_
    by_cases hz : 0 ≤ z 4
    · refine br_t (e4.mpr hz) (br_f (by decide) (fun x ex => ?_))
      have e : -D = rs_g z := by
        unfold rs_g
        rw [if_neg (by omega)]
        omega
      rw [ex, ← Int64.ofInt_neg, e]
      exact H
    · refine br_f (fun h => hz (e4.mp h)) (br_t rfl ?_)
      have e : D = rs_g z := by
        unfold rs_g
        rw [if_pos (by omega)]
        omega
      rw [e]
      exact H
theorem rs_red9 {post : SX → Prop} {c : Nat → Int32} {f s R : Nat → Int64} {z : Nat → Int} (hL : rs_L R z 5) (hz : ∀ k, k < 5 → rs_S (z k)) (h4 : z 4 ≠ 0) (H : wX_reduceResult_64 post (Int64.ofInt (rs_g z)) c f s R) : ∀ (d i : Nat) (D : Int), i + d = 4 → D.natAbs = rs_Gi z i → wX_reduceResult_9 post c f s R (d + 1) (Int64.ofInt D) (nI i) := by
  intro d
  induction d with
  | zero =>
    intro i D hi hD
    obtain rfl : i = 4 := by omega
    exact br_t (by decide) (rs_redex hD (rs_GiS (hz 4 (by omega)) h4 hD) (hz 4 (by omega)) (hL 4 (by omega)) H)
  | succ d ih =>
    intro i D hi hD
    refine pk_le 4 i (fun h => absurd h (by omega)) (fun _ => ⟨vp_in_nI (by omega) (by omega), ?_⟩)
    rw [nI_clamp (by omega), hL i (by omega)]
    refine rs_cdX (rs_GiS (hz 4 (by omega)) h4 hD) (hz i (by omega)) (fun g hg y ey => ?_)
    rw [ey, nI_1]
    refine ih (i + 1) g (by omega) ?_
    rw [hg, hD]
    rfl
theorem rs_red {post : SX → Prop} {c : Nat → Int32} {f s R : Nat → Int64} {z : Nat → Int} (hL : rs_L R z 5) (hz : ∀ k, k < 5 → rs_S (z k)) (h4 : z 4 ≠ 0) (H : ∀ R', rs_L R' (rs_q z) 5 → post (c, f, s, R')) : wpX_reduceResult post (c, f, s, R) := by
  intro x ex
  refine ⟨5, ?_⟩
  rw [ex, hL 4 (by omega)]
  refine rs_red9 hL hz h4 ?_ 4 0 (z 4) rfl rfl
  have hgS := rs_gS (hz 4 (by omega)) h4
  exact br_f (rs_n64 hgS (rs_g0 h4)) ⟨6, rs_red73 (rs_g0 h4) hgS hz H 5 0 R rfl (rs_L0 _ _) (fun k _ hk => hL k hk)⟩
theorem rs_dvYl {post : Int64 → Prop} {c : Nat → Int32} {M X C : Nat → Int64} : ∀ (n b a : Nat), b < n → a ≤ 4000000000000000000 → b ≤ 4000000000000000000 → post (Int64.ofInt (Nat.gcd a b : Nat)) → wY_divisor_28 post c M X C n (Int64.ofInt (a : Nat)) (Int64.ofInt (b : Nat)) := by
  intro n
  induction n with
  | zero => intro b a h; exact absurd h (by omega)
  | succ n ih =>
    intro b a h ha hb H
    have hbS : rs_S (b : Int) := ⟨by omega, by omega⟩
    have haS : rs_S (a : Int) := ⟨by omega, by omega⟩
    by_cases h0 : b = 0
    · subst h0
      rw [Nat.gcd_zero_right] at H
      exact br_t ((rs_le064 hbS).mpr (by omega)) H
    · have hn := rs_n64 hbS (by omega)
      refine br_f (fun h => h0 (by have := (rs_le064 hbS).mp h; omega)) ⟨hn, fun y ey => ?_⟩
      rw [ey, rs_rem64 haS hbS, Int.tmod_eq_emod_of_nonneg (by omega)]
      have hm := Nat.mod_lt a (show 0 < b by omega)
      rw [rs_gstep] at H
      exact ih (a % b) b (by omega) hb (by omega) H
theorem rs_dvY {post : Int64 → Prop} {c : Nat → Int32} {M X C : Nat → Int64} {x y : Int} (hx : rs_S x) (hy : rs_S y) (H : post (Int64.ofInt (Nat.gcd x.natAbs y.natAbs : Nat))) : wpY_divisor post (c, M, X, C) (Int64.ofInt x) (Int64.ofInt y) := by
  have K : wY_divisor_12 post (Int64.ofInt y) (Int64.ofInt (x.natAbs : Nat)) c M X C := by
    by_cases h : 0 ≤ y
    · refine br_t ((rs_ge64 hy).mpr h) ⟨y.natAbs + 1, ?_⟩
      have e : y = (y.natAbs : Int) := by omega
      have k := rs_dvYl (post := post) (c := c) (M := M) (X := X) (C := C) (y.natAbs + 1) y.natAbs x.natAbs (by omega) (rs_nS hx) (rs_nS hy) H
      rw [← e] at k
      exact k
    · refine br_f (fun h2 => h ((rs_ge64 hy).mp h2)) (fun z ez => ⟨y.natAbs + 1, ?_⟩)
      have e : -y = (y.natAbs : Int) := by omega
      rw [ez, ← Int64.ofInt_neg, e]
      exact rs_dvYl (y.natAbs + 1) y.natAbs x.natAbs (by omega) (rs_nS hx) (rs_nS hy) H
  by_cases h : 0 ≤ x
  · refine br_t ((rs_ge64 hx).mpr h) ?_
    have e : (x.natAbs : Int) = x := by omega
    rw [e] at K
    exact K
  · refine br_f (fun h2 => h ((rs_ge64 hx).mp h2)) ?_
    have e : -x = (x.natAbs : Int) := by omega
    rw [← Int64.ofInt_neg, e]
    exact K
def rs_Hi (z : Nat → Int) : Nat → Nat
  | 0 => 0
  | i + 1 => Nat.gcd (rs_Hi z i) (z i).natAbs
theorem rs_Hi5 (z : Nat → Int) : rs_Hi z 5 = rs_G z := rs_Gy z
theorem rs_gle {a b K : Nat} (ha : a ≤ K) (hb : b ≤ K) : Nat.gcd a b ≤ K := by
  by_cases h : b = 0
  · rw [h, Nat.gcd_zero_right]
    exact ha
  · exact Nat.le_trans (Nat.le_of_dvd (by omega) (Nat.gcd_dvd_right a b)) hb
theorem rs_HiS {z : Nat → Int} (hz : ∀ k, k < 5 → rs_S (z k)) : ∀ i, i ≤ 5 → rs_Hi z i ≤ 4000000000000000000 := by
  intro i
  induction i with
  | zero => intro _; exact Nat.zero_le _
  | succ i ih => intro h; exact rs_gle (ih (by omega)) (rs_nS (hz i (by omega)))
theorem rs_sh4 {post : SY → Prop} {c : Nat → Int32} {M X C : Nat → Int64} {z : Nat → Int} (hL : rs_L M z 5) (hz : ∀ k, k < 5 → rs_S (z k)) (H : ∃ n, wY_shorten_47 post (Int64.ofInt (rs_g z)) n 0 c M X C) : ∀ (d i : Nat), i + d = 5 → wY_shorten_4 post c M X C (d + 1) (Int64.ofInt (rs_Hi z i : Nat)) (nI i) := by
  intro d
  induction d with
  | zero =>
    intro i hi
    obtain rfl : i = 5 := by omega
    refine br_t (by decide) ?_
    have e4 : 0 ≤ M 4 ↔ 0 ≤ z 4 := by
      rw [hL 4 (by omega)]
      exact rs_ge64 (hz 4 (by omega))
    rw [rs_Hi5]
    by_cases h : 0 ≤ z 4
    · refine br_t (e4.mpr h) ?_
      have e : rs_g z = (rs_G z : Int) := if_neg (by omega)
      rw [e] at H
      exact H
    · refine br_f (fun h2 => h (e4.mp h2)) (fun x ex => ?_)
      have e : rs_g z = -(rs_G z : Int) := if_pos (by omega)
      rw [e] at H
      rw [ex, ← Int64.ofInt_neg]
      exact H
  | succ d ih =>
    intro i hi
    refine pk_le 5 i (fun h => absurd h (by omega)) (fun _ => ⟨vp_in_nI (by omega) (by omega), ?_⟩)
    rw [nI_clamp (by omega), hL i (by omega)]
    have hH := rs_HiS hz i (by omega)
    refine rs_dvY ⟨by omega, by omega⟩ (hz i (by omega)) (fun y ey => ?_)
    rw [ey, nI_1]
    exact ih (i + 1) (by omega)
theorem rs_sh {post : SY → Prop} {c : Nat → Int32} {M X C : Nat → Int64} {z : Nat → Int} (hL : rs_L M z 5) (hz : ∀ k, k < 5 → rs_S (z k)) (h4 : z 4 ≠ 0) (H : ∀ M', rs_L M' (rs_q z) 5 → post (c, M', X, C)) : wpY_shorten post (c, M, X, C) := by
  have hgS := rs_gS (hz 4 (by omega)) h4
  exact ⟨6, rs_sh4 hL hz ⟨6, rs_sh47 (rs_g0 h4) hgS hz H 5 0 M rfl (rs_L0 _ _) (fun k _ hk => hL k hk)⟩ 5 0 rfl⟩
/-- within the limit -/
def rs_w (x : Int) : Prop := -30 ≤ x ∧ x ≤ 30
theorem rs_S30 : rs_S 30 := ⟨by omega, by omega⟩
theorem rs_Sm30 : rs_S (-30) := ⟨by omega, by omega⟩
theorem rs_lim1 {post : Int32 → Prop} {x : Int} (hS : rs_S x) (h : rs_w x) (H : post 1) : wpX_isWithinLimit post (Int64.ofInt x) := by
  obtain ⟨h1, h2⟩ := h
  exact br_f (fun h => absurd ((rs_lt64 hS rs_Sm30).mp h) (by omega)) (br_f (fun h => absurd ((rs_lt64 rs_S30 hS).mp h) (by omega)) H)
theorem rs_lim0 {post : Int32 → Prop} {x : Int} (hS : rs_S x) (h : ¬ rs_w x) (H : post 0) : wpX_isWithinLimit post (Int64.ofInt x) := by
  by_cases h1 : x < -30
  · exact br_t ((rs_lt64 hS rs_Sm30).mpr h1) H
  · refine br_f (fun h => h1 ((rs_lt64 hS rs_Sm30).mp h)) (br_t ((rs_lt64 rs_S30 hS).mpr ?_) H)
    apply Int.not_le.mp
    intro h2
    exact h ⟨by omega, h2⟩
theorem rs_qS {z : Nat → Int} (hz : ∀ k, k < 5 → rs_S (z k)) {k : Nat} (hk : k < 5) : rs_S (rs_q z k) := by
  apply rs_Sn
  rw [rs_qn]
  exact Nat.le_trans (Nat.div_le_self _ _) (rs_nS (hz k hk))
theorem rs_kp34 {post : Int32 → SX → Prop} {c : Nat → Int32} {f s R : Nat → Int64} {q : Nat → Int} {r : Nat} (hr : r < 6) (hL : rs_L R q 5) (H : post 0 (rs_st c r q 5, f, s, R)) : ∀ (d i : Nat), i + d = 5 → wX_keepResult_34 post (nI r) (d + 1) (nI i) (rs_st c r q i) f s R := by
  intro d
  induction d with
  | zero =>
    intro i hi
    obtain rfl : i = 5 := by omega
    exact br_t (by decide) H
  | succ d ih =>
    intro i hi
    refine pk_le 5 i (fun h => absurd h (by omega)) (fun _ => ⟨vp_in_nI (by omega) (by omega), rs_inX hr (by omega), fun a ea y ey => ?_⟩)
    rw [ey, nI_1, ea, rs_clX hr (by omega), nI_clamp (by omega), hL i (by omega), Int64.toInt32_ofInt, rs_sts]
    exact ih (i + 1) (by omega)
theorem rs_tk48 {post : Int32 → SY → Prop} {c : Nat → Int32} {M X C : Nat → Int64} {q : Nat → Int} {r : Nat} (hr : r < 6) (hL : rs_L M q 5) (H : post 0 (rs_st c r q 5, M, X, C)) : ∀ (d i : Nat), i + d = 5 → wY_take_48 post (nI r) (d + 1) (nI i) (rs_st c r q i) M X C := by
  intro d
  induction d with
  | zero =>
    intro i hi
    obtain rfl : i = 5 := by omega
    exact br_t (by decide) H
  | succ d ih =>
    intro i hi
    refine pk_le 5 i (fun h => absurd h (by omega)) (fun _ => ⟨vp_in_nI (by omega) (by omega), rs_inY hr (by omega), fun a ea y ey => ?_⟩)
    rw [ey, nI_1, ea, rs_clY hr (by omega), nI_clamp (by omega), hL i (by omega), Int64.toInt32_ofInt, rs_sts]
    exact ih (i + 1) (by omega)
theorem rs_kp6 {post : Int32 → SX → Prop} {c : Nat → Int32} {f s R : Nat → Int64} {q : Nat → Int} {r : Nat} (hL : rs_L R q 5) (hq : ∀ k, k < 5 → rs_S (q k)) (H1 : (∀ k, k < 5 → rs_w (q k)) → ∃ n, wX_keepResult_34 post (nI r) n 0 c f s R) (H2 : ¬ (∀ k, k < 5 → rs_w (q k)) → post (-2000000) (c, f, s, R)) : ∀ (d i : Nat), i + d = 5 → (∀ k, k < i → rs_w (q k)) → wX_keepResult_6 post (nI r) c f s R (d + 1) (nI i) := by
  intro d
  induction d with
  | zero =>
    intro i hi h
    obtain rfl : i = 5 := by omega
    exact br_t (by decide) (H1 h)
  | succ d ih =>
    intro i hi h
    refine pk_le 5 i (fun h => absurd h (by omega)) (fun _ => ⟨vp_in_nI (by omega) (by omega), ?_⟩)
    rw [nI_clamp (by omega), hL i (by omega)]
    by_cases hw : rs_w (q i)
    · refine rs_lim1 (hq i (by omega)) hw (br_f rs_1n0 (fun y ey => ?_))
      rw [ey, nI_1]
      exact ih (i + 1) (by omega) (lt_s h hw)
    · exact rs_lim0 (hq i (by omega)) hw (br_t rfl (H2 (fun hall => hw (hall i (by omega)))))
theorem rs_tk6 {post : Int32 → SY → Prop} {c : Nat → Int32} {M X C : Nat → Int64} {q : Nat → Int} {r : Nat} (hL : rs_L M q 5) (hq : ∀ k, k < 5 → rs_S (q k)) (H1 : (∀ k, k < 5 → rs_w (q k)) → ∃ n, wY_take_48 post (nI r) n 0 c M X C) (H2 : ¬ (∀ k, k < 5 → rs_w (q k)) → post (-2000000) (c, M, X, C)) : ∀ (d i : Nat), i + d = 5 → (∀ k, k < i → rs_w (q k)) → wY_take_6 post (nI r) c M X C (d + 1) (nI i) := by
  intro d
  induction d with
  | zero =>
    intro i hi h
    obtain rfl : i = 5 := by omega
    exact br_t (by decide) (H1 h)
  | succ d ih =>
    intro i hi h
    refine pk_le 5 i (fun h => absurd h (by omega)) (fun _ => ⟨vp_in_nI (by omega) (by omega), ?_⟩)
    rw [nI_clamp (by omega), hL i (by omega)]
    have hS := hq i (by omega)
    by_cases hw : rs_w (q i)
    · obtain ⟨w1, w2⟩ := hw
      refine br_f (fun h => absurd ((rs_lt64 rs_S30 hS).mp h) (by omega)) ⟨vp_in_nI (by omega) (by omega), br_t ((rs_le64 rs_Sm30 hS).mpr w1) (fun y ey => ?_)⟩
      rw [ey, nI_1]
      exact ih (i + 1) (by omega) (lt_s h ⟨w1, w2⟩)
    · have K := H2 (fun hall => hw (hall i (by omega)))
      by_cases h1 : 30 < q i
      · exact br_t ((rs_lt64 rs_S30 hS).mpr h1) K
      · refine br_f (fun h => h1 ((rs_lt64 rs_S30 hS).mp h)) ⟨vp_in_nI (by omega) (by omega), br_f (fun h => ?_) K⟩
        exact hw ⟨(rs_le64 rs_Sm30 hS).mp h, by omega⟩
/-- register r becomes the number z, written without common divisor, unless that is over -/
theorem rs_keep {post : Int32 → SX → Prop} {c : Nat → Int32} {f s R : Nat → Int64} {z : Nat → Int} {r : Nat} (hr : r < 6) (hL : rs_L R z 5) (hz : ∀ k, k < 5 → rs_S (z k)) (h4 : z 4 ≠ 0) (H1 : ∀ R', (∀ k, k < 5 → rs_w (rs_q z k)) → post 0 (rs_st c r (rs_q z) 5, f, s, R')) (H2 : ∀ R', ¬ (∀ k, k < 5 → rs_w (rs_q z k)) → post (-2000000) (c, f, s, R')) : wpX_keepResult post (c, f, s, R) (nI r) := by
  unfold wpX_keepResult
  dsimp only
  refine rs_red hL hz h4 (fun R' hL' => ?_)
  dsimp only
  refine ⟨6, ?_⟩
  refine rs_kp6 hL' (fun k hk => rs_qS hz hk) (fun hall => ⟨6, ?_⟩) (H2 R') 5 0 rfl (fun k hk => absurd hk (by omega))
  have k := rs_kp34 (c := c) hr hL' (H1 R' hall) 5 0 rfl
  rw [rs_st0] at k
  exact k
theorem rs_take {post : Int32 → SY → Prop} {c : Nat → Int32} {M X C : Nat → Int64} {z : Nat → Int} {r : Nat} (hr : r < 6) (hL : rs_L M z 5) (hz : ∀ k, k < 5 → rs_S (z k)) (h4 : z 4 ≠ 0) (H1 : ∀ M', (∀ k, k < 5 → rs_w (rs_q z k)) → post 0 (rs_st c r (rs_q z) 5, M', X, C)) (H2 : ∀ M', ¬ (∀ k, k < 5 → rs_w (rs_q z k)) → post (-2000000) (c, M', X, C)) : wpY_take post (c, M, X, C) (nI r) := by
  unfold wpY_take
  dsimp only
  refine rs_sh hL hz h4 (fun M' hL' => ?_)
  dsimp only
  refine ⟨6, ?_⟩
  refine rs_tk6 hL' (fun k hk => rs_qS hz hk) (fun hall => ⟨6, ?_⟩) (H2 M') 5 0 rfl (fun k hk => absurd hk (by omega))
  have k := rs_tk48 (c := c) hr hL' (H1 M' hall) 5 0 rfl
  rw [rs_st0] at k
  exact k
theorem rs_qok {z : Nat → Int} (h4 : z 4 ≠ 0) (hall : ∀ k, k < 5 → rs_w (rs_q z k)) : rs_ok (rs_q z) :=
  ⟨fun k hk => hall k (by omega), rs_q4 h4, (hall 4 (by omega)).2, rs_q1 h4⟩
end
section
/-! part 09: sums, products, quotients: the walks of both sides -/
theorem rs_adXl {post : SX → Prop} {c : Nat → Int32} {f s : Nat → Int64} {x y : Nat → Int} {t : Int32} {T : Int} (ht : t.toInt64 = Int64.ofInt T) (hf : rs_L f x 5) (hs : rs_L s y 5) (H : ∀ R, rs_L R (rs_add T x y) 5 → post (c, f, s, R)) : ∀ (d i : Nat) (R : Nat → Int64), i + d = 4 → rs_L R (rs_add T x y) i → wX_addTimes_21 post t (d + 1) (nI i) c f s R := by
  intro d
  induction d with
  | zero =>
    intro i R hi hL
    obtain rfl : i = 4 := by omega
    refine br_t (by decide) (fun a ea => ?_)
    rw [ea]
    refine H _ (rs_Lu hL ?_)
    rw [hf 4 (by omega), hs 4 (by omega), ← Int64.ofInt_mul]
    rfl
  | succ d ih =>
    intro i R hi hL
    refine pk_le 4 i (fun h => absurd h (by omega)) (fun _ => ⟨vp_in_nI (by omega) (by omega), vp_in_nI (by omega) (by omega), vp_in_nI (by omega) (by omega), fun a ea j ej => ?_⟩)
    rw [ej, nI_1, ea, nI_clamp (by omega)]
    refine ih (i + 1) _ (by omega) (rs_Lu hL ?_)
    rw [hf i (by omega), hs i (by omega), hf 4 (by omega), hs 4 (by omega), ht, ← Int64.ofInt_mul, ← Int64.ofInt_mul, ← Int64.ofInt_mul, ← Int64.ofInt_add]
    have e : rs_add T x y i = x i * y 4 + T * y i * x 4 := if_pos (by omega)
    rw [e]
theorem rs_adX {post : SX → Prop} {c : Nat → Int32} {f s R : Nat → Int64} {x y : Nat} (hx : x < 6) (hy : y < 6) {t : Int32} {T : Int} (ht : t.toInt64 = Int64.ofInt T) (H : ∀ f s R, rs_L R (rs_add T (rs_z c x) (rs_z c y)) 5 → post (c, f, s, R)) : wpX_addTimes post (c, f, s, R) (nI x) (nI y) t := by
  unfold wpX_addTimes
  dsimp only
  refine rs_ldF hx (fun f' hf => ?_)
  dsimp only
  refine rs_ldS hy (fun s' hs => ?_)
  dsimp only
  exact ⟨5, rs_adXl ht hf hs (H f' s') 4 0 R rfl (rs_L0 _ _)⟩
theorem rs_t1 : (1 : Int32).toInt64 = Int64.ofInt 1 := by decide
theorem rs_tm1 : (-1 : Int32).toInt64 = Int64.ofInt (-1) := by decide
theorem rs_m32 {a b : Int32} (h1 : -2147483648 ≤ a.toInt * b.toInt) (h2 : a.toInt * b.toInt < 2147483648) : (a * b).toInt = a.toInt * b.toInt := by
  rw [Int32.toInt_mul]
  exact Int.bmod_eq_of_le (by omega) (by omega)
theorem rs_tv1 : (1 : Int32).toInt = 1 := by decide
theorem rs_tvm1 : (-1 : Int32).toInt = -1 := by decide
theorem rs_cmYl {post : SY → Prop} {c : Nat → Int32} {X C : Nat → Int64} {x y : Nat} (hx : x < 6) (hy : y < 6) (hc : rs_Rc c) {t : Int32} {T : Int} (ht : t.toInt = T) (hT : T = 1 ∨ T = -1) {p q : Int64} (hp : p = Int64.ofInt (rs_z c x 4)) (hq : q = Int64.ofInt (rs_z c y 4)) (H : ∀ M, rs_L M (rs_add T (rs_z c x) (rs_z c y)) 5 → post (c, M, X, C)) : ∀ (d i : Nat) (M : Nat → Int64), i + d = 4 → rs_L M (rs_add T (rs_z c x) (rs_z c y)) i → wY_combine_29 post (nI x) (nI y) t p q (d + 1) (nI i) c M X C := by
  intro d
  induction d with
  | zero =>
    intro i R hi hL
    obtain rfl : i = 4 := by omega
    refine br_t (by decide) (fun a ea => ?_)
    rw [ea]
    refine H _ (rs_Lu hL ?_)
    rw [hp, hq, ← Int64.ofInt_mul]
    rfl
  | succ d ih =>
    intro i R hi hL
    refine pk_le 4 i (fun h => absurd h (by omega)) (fun _ => ⟨rs_inY hx (by omega), rs_inY hy (by omega), vp_in_nI (by omega) (by omega), fun a ea j ej => ?_⟩)
    rw [ej, nI_1, ea, rs_clY hx (by omega), rs_clY hy (by omega), nI_clamp (by omega)]
    refine ih (i + 1) _ (by omega) (rs_Lu hL ?_)
    have hb := rs_okb (hc y hy) (k := i) (by omega)
    have hz : (c (5 * y + i)).toInt = rs_z c y i := rfl
    have hm : (t * c (5 * y + i)).toInt = T * rs_z c y i := by
      rw [rs_m32, ht, hz]
      · rw [ht, hz]
        rcases hT with rfl | rfl <;> omega
      · rw [ht, hz]
        rcases hT with rfl | rfl <;> omega
    rw [rs_ld, rs_c64 (t * c (5 * y + i)), hm, hp, hq, ← Int64.ofInt_mul, ← Int64.ofInt_mul, ← Int64.ofInt_add]
    have e : rs_add T (rs_z c x) (rs_z c y) i = rs_z c x i * rs_z c y 4 + T * rs_z c y i * rs_z c x 4 := if_pos (by omega)
    rw [e]
theorem rs_cmY {post : SY → Prop} {c : Nat → Int32} {M X C : Nat → Int64} {x y : Nat} (hx : x < 6) (hy : y < 6) (hc : rs_Rc c) {t : Int32} {T : Int} (ht : t.toInt = T) (hT : T = 1 ∨ T = -1) (H : ∀ M, rs_L M (rs_add T (rs_z c x) (rs_z c y)) 5 → post (c, M, X, C)) : wpY_combine post (c, M, X, C) (nI x) (nI y) t := by
  unfold wpY_combine
  dsimp only
  refine ⟨rs_inY (k := 4) hx (by omega), fun p ep => ⟨rs_inY (k := 4) hy (by omega), fun q eq => ⟨5, ?_⟩⟩⟩
  refine rs_cmYl hx hy hc ht hT ?_ ?_ H 4 0 M rfl (rs_L0 _ _)
  · have e : (5 * nI x + 4).toNatClampNeg = 5 * x + 4 := rs_clY (k := 4) hx (by omega)
    rw [ep, e, rs_ld]
  · have e : (5 * nI y + 4).toNatClampNeg = 5 * y + 4 := rs_clY (k := 4) hy (by omega)
    rw [eq, e, rs_ld]
theorem rs_L5 {w : Nat → Int64} {z : Nat → Int} (h0 : w 0 = Int64.ofInt (z 0)) (h1 : w 1 = Int64.ofInt (z 1)) (h2 : w 2 = Int64.ofInt (z 2)) (h3 : w 3 = Int64.ofInt (z 3)) (h4 : w 4 = Int64.ofInt (z 4)) : rs_L w z 5 :=
  fun _ hk => rs_co5 (P := fun k => w k = Int64.ofInt (z k)) h0 h1 h2 h3 h4 hk
theorem rs_o2 : Int64.ofInt 2 = 2 := rfl
theorem rs_o3 : Int64.ofInt 3 = 3 := rfl
theorem rs_o4 : Int64.ofInt 4 = 4 := rfl
theorem rs_o6 : Int64.ofInt 6 = 6 := rfl
theorem rs_muX {post : SX → Prop} {c : Nat → Int32} {f s R : Nat → Int64} {x y : Nat → Int} (hf : rs_L f x 5) (hs : rs_L s y 5) (H : ∀ R, rs_L R (rs_mul x y) 5 → post (c, f, s, R)) : wpX_multiplyLoaded post (c, f, s, R) := by
  intro a ea b eb p ep d ed R0 e0 R1 e1 R2 e2 R3 e3 R4 e4
  refine H R4 ?_
  have f0 := hf 0 (by omega)
  have f1 := hf 1 (by omega)
  have f2 := hf 2 (by omega)
  have f3 := hf 3 (by omega)
  have f4 := hf 4 (by omega)
  have s0 := hs 0 (by omega)
  have s1 := hs 1 (by omega)
  have s2 := hs 2 (by omega)
  have s3 := hs 3 (by omega)
  have s4 := hs 4 (by omega)
  rw [f0] at ea
  rw [f1] at eb
  rw [f2] at ep
  rw [f3] at ed
  rw [ea, eb, ep, ed, s0, s1, s2, s3] at e0
  rw [ea, eb, ep, ed, s0, s1, s2, s3] at e1
  rw [ea, eb, ep, ed, s0, s1, s2, s3] at e2
  rw [ea, eb, ep, ed, s0, s1, s2, s3] at e3
  rw [f4, s4] at e4
  subst e4 e3 e2 e1 e0
  apply rs_L5
  · show Int64.ofInt (x 0) * Int64.ofInt (y 0) + 2 * Int64.ofInt (x 1) * Int64.ofInt (y 1) + 3 * Int64.ofInt (x 2) * Int64.ofInt (y 2) + 6 * Int64.ofInt (x 3) * Int64.ofInt (y 3) = Int64.ofInt (x 0 * y 0 + 2 * x 1 * y 1 + 3 * x 2 * y 2 + 6 * x 3 * y 3)
    simp only [Int64.ofInt_add, Int64.ofInt_mul, rs_o2, rs_o3, rs_o6]
  · show Int64.ofInt (x 0) * Int64.ofInt (y 1) + Int64.ofInt (x 1) * Int64.ofInt (y 0) + 3 * Int64.ofInt (x 2) * Int64.ofInt (y 3) + 3 * Int64.ofInt (x 3) * Int64.ofInt (y 2) = Int64.ofInt (x 0 * y 1 + x 1 * y 0 + 3 * x 2 * y 3 + 3 * x 3 * y 2)
    simp only [Int64.ofInt_add, Int64.ofInt_mul, rs_o2, rs_o3, rs_o6]
  · show Int64.ofInt (x 0) * Int64.ofInt (y 2) + Int64.ofInt (x 2) * Int64.ofInt (y 0) + 2 * Int64.ofInt (x 1) * Int64.ofInt (y 3) + 2 * Int64.ofInt (x 3) * Int64.ofInt (y 1) = Int64.ofInt (x 0 * y 2 + x 2 * y 0 + 2 * x 1 * y 3 + 2 * x 3 * y 1)
    simp only [Int64.ofInt_add, Int64.ofInt_mul, rs_o2, rs_o3, rs_o6]
  · show Int64.ofInt (x 0) * Int64.ofInt (y 3) + Int64.ofInt (x 3) * Int64.ofInt (y 0) + Int64.ofInt (x 1) * Int64.ofInt (y 2) + Int64.ofInt (x 2) * Int64.ofInt (y 1) = Int64.ofInt (x 0 * y 3 + x 3 * y 0 + x 1 * y 2 + x 2 * y 1)
    simp only [Int64.ofInt_add, Int64.ofInt_mul, rs_o2, rs_o3, rs_o6]
  · show Int64.ofInt (x 4) * Int64.ofInt (y 4) = Int64.ofInt (x 4 * y 4)
    rw [Int64.ofInt_mul]
theorem rs_pwS {post : Int64 → Prop} {c : Nat → Int32} {f s R : Nat → Int64} {y : Nat → Int} (hy : rs_L s y 5) (H : post (Int64.ofInt (rs_u y))) : wpX_pairWhole__second post (c, f, s, R) := by
  unfold wpX_pairWhole__second
  dsimp only
  rw [hy 0 (by omega), hy 1 (by omega), hy 2 (by omega), hy 3 (by omega)]
  have e : Int64.ofInt (rs_u y) = Int64.ofInt (y 0) * Int64.ofInt (y 0) - 2 * Int64.ofInt (y 1) * Int64.ofInt (y 1) + 3 * Int64.ofInt (y 2) * Int64.ofInt (y 2) - 6 * Int64.ofInt (y 3) * Int64.ofInt (y 3) := by
    simp only [rs_u, Int64.ofInt_add, Int64.ofInt_sub, Int64.ofInt_mul, rs_o2, rs_o3, rs_o6]
  rw [← e]
  exact H
theorem rs_pr3S {post : Int64 → Prop} {c : Nat → Int32} {f s R : Nat → Int64} {y : Nat → Int} (hy : rs_L s y 5) (H : post (Int64.ofInt (rs_v y))) : wpX_pairRoot3__second post (c, f, s, R) := by
  unfold wpX_pairRoot3__second
  dsimp only
  rw [hy 0 (by omega), hy 1 (by omega), hy 2 (by omega), hy 3 (by omega)]
  have e : Int64.ofInt (rs_v y) = 2 * Int64.ofInt (y 0) * Int64.ofInt (y 2) - 4 * Int64.ofInt (y 1) * Int64.ofInt (y 3) := by
    simp only [rs_v, Int64.ofInt_sub, Int64.ofInt_mul, rs_o2, rs_o4]
  rw [← e]
  exact H
theorem rs_cpS {post : Int64 → Prop} {c : Nat → Int32} {f s R : Nat → Int64} {y : Nat → Int} (hy : rs_L s y 5) (H : post (Int64.ofInt (rs_N y))) : wpX_conjugateProduct__second post (c, f, s, R) := by
  unfold wpX_conjugateProduct__second
  dsimp only
  refine rs_pwS hy ?_
  refine rs_pr3S hy ?_
  have e : Int64.ofInt (rs_N y) = Int64.ofInt (rs_u y) * Int64.ofInt (rs_u y) - 3 * Int64.ofInt (rs_v y) * Int64.ofInt (rs_v y) := by
    simp only [rs_N, Int64.ofInt_sub, Int64.ofInt_mul, rs_o3]
  rw [← e]
  exact H
theorem rs_pwF {post : Int64 → Prop} {c : Nat → Int32} {f s R : Nat → Int64} {y : Nat → Int} (hy : rs_L f y 5) (H : post (Int64.ofInt (rs_u y))) : wpX_pairWhole__first post (c, f, s, R) := by
  unfold wpX_pairWhole__first
  dsimp only
  rw [hy 0 (by omega), hy 1 (by omega), hy 2 (by omega), hy 3 (by omega)]
  have e : Int64.ofInt (rs_u y) = Int64.ofInt (y 0) * Int64.ofInt (y 0) - 2 * Int64.ofInt (y 1) * Int64.ofInt (y 1) + 3 * Int64.ofInt (y 2) * Int64.ofInt (y 2) - 6 * Int64.ofInt (y 3) * Int64.ofInt (y 3) := by
    simp only [rs_u, Int64.ofInt_add, Int64.ofInt_sub, Int64.ofInt_mul, rs_o2, rs_o3, rs_o6]
  rw [← e]
  exact H
theorem rs_pr3F {post : Int64 → Prop} {c : Nat → Int32} {f s R : Nat → Int64} {y : Nat → Int} (hy : rs_L f y 5) (H : post (Int64.ofInt (rs_v y))) : wpX_pairRoot3__first post (c, f, s, R) := by
  unfold wpX_pairRoot3__first
  dsimp only
  rw [hy 0 (by omega), hy 1 (by omega), hy 2 (by omega), hy 3 (by omega)]
  have e : Int64.ofInt (rs_v y) = 2 * Int64.ofInt (y 0) * Int64.ofInt (y 2) - 4 * Int64.ofInt (y 1) * Int64.ofInt (y 3) := by
    simp only [rs_v, Int64.ofInt_sub, Int64.ofInt_mul, rs_o2, rs_o4]
  rw [← e]
  exact H
theorem rs_cpF {post : Int64 → Prop} {c : Nat → Int32} {f s R : Nat → Int64} {y : Nat → Int} (hy : rs_L f y 5) (H : post (Int64.ofInt (rs_N y))) : wpX_conjugateProduct__first post (c, f, s, R) := by
  unfold wpX_conjugateProduct__first
  dsimp only
  refine rs_pwF hy ?_
  refine rs_pr3F hy ?_
  have e : Int64.ofInt (rs_N y) = Int64.ofInt (rs_u y) * Int64.ofInt (rs_u y) - 3 * Int64.ofInt (rs_v y) * Int64.ofInt (rs_v y) := by
    simp only [rs_N, Int64.ofInt_sub, Int64.ofInt_mul, rs_o3]
  rw [← e]
  exact H
theorem rs_ivX {post : SX → Prop} {c : Nat → Int32} {f s R : Nat → Int64} {y : Nat → Int} (hs : rs_L s y 5) (H : ∀ s, rs_L s (rs_inv y) 5 → post (c, f, s, R)) : wpX_invert__second post (c, f, s, R) := by
  unfold wpX_invert__second
  dsimp only
  refine rs_pwS hs ?_
  refine rs_pr3S hs ?_
  refine rs_cpS hs ?_
  intro a ea b eb p ep d ed m em S0 e0 S1 e1 S2 e2 S3 e3 S4 e4
  refine H S4 ?_
  rw [hs 0 (by omega)] at ea
  rw [hs 1 (by omega)] at eb
  rw [hs 2 (by omega)] at ep
  rw [hs 3 (by omega)] at ed
  rw [hs 4 (by omega)] at em
  subst ea eb ep ed em e4 e3 e2 e1 e0
  apply rs_L5
  · show Int64.ofInt (y 4) * (Int64.ofInt (y 0) * Int64.ofInt (rs_u y) - 3 * Int64.ofInt (y 2) * Int64.ofInt (rs_v y)) = Int64.ofInt (y 4 * (y 0 * rs_u y - 3 * y 2 * rs_v y))
    simp only [Int64.ofInt_sub, Int64.ofInt_mul, rs_o3]
  · show Int64.ofInt (y 4) * (3 * Int64.ofInt (y 3) * Int64.ofInt (rs_v y) - Int64.ofInt (y 1) * Int64.ofInt (rs_u y)) = Int64.ofInt (y 4 * (3 * y 3 * rs_v y - y 1 * rs_u y))
    simp only [Int64.ofInt_sub, Int64.ofInt_mul, rs_o3]
  · show Int64.ofInt (y 4) * (Int64.ofInt (y 2) * Int64.ofInt (rs_u y) - Int64.ofInt (y 0) * Int64.ofInt (rs_v y)) = Int64.ofInt (y 4 * (y 2 * rs_u y - y 0 * rs_v y))
    simp only [Int64.ofInt_sub, Int64.ofInt_mul]
  · show Int64.ofInt (y 4) * (Int64.ofInt (y 1) * Int64.ofInt (rs_v y) - Int64.ofInt (y 3) * Int64.ofInt (rs_u y)) = Int64.ofInt (y 4 * (y 1 * rs_v y - y 3 * rs_u y))
    simp only [Int64.ofInt_sub, Int64.ofInt_mul]
  · show Int64.ofInt (rs_N y) = Int64.ofInt (rs_N y)
    rfl
end
section
/-! part 10: the reference's matrix, product, determinants; zero; conjugates and flips (written by wip/whole/gen_walks2.py) -/
theorem rs_co16 {P : Nat → Prop} (h0 : P 0) (h1 : P 1) (h2 : P 2) (h3 : P 3) (h4 : P 4) (h5 : P 5) (h6 : P 6) (h7 : P 7) (h8 : P 8) (h9 : P 9) (h10 : P 10) (h11 : P 11) (h12 : P 12) (h13 : P 13) (h14 : P 14) (h15 : P 15) {k : Nat} (hk : k < 16) : P k := by
  rcases (show k = 0 ∨ k = 1 ∨ k = 2 ∨ k = 3 ∨ k = 4 ∨ k = 5 ∨ k = 6 ∨ k = 7 ∨ k = 8 ∨ k = 9 ∨ k = 10 ∨ k = 11 ∨ k = 12 ∨ k = 13 ∨ k = 14 ∨ k = 15 by omega) with rfl | rfl | rfl | rfl | rfl | rfl | rfl | rfl | rfl | rfl | rfl | rfl | rfl | rfl | rfl | rfl
  · exact h0
  · exact h1
  · exact h2
  · exact h3
  · exact h4
  · exact h5
  · exact h6
  · exact h7
  · exact h8
  · exact h9
  · exact h10
  · exact h11
  · exact h12
  · exact h13
  · exact h14
  · exact h15
theorem rs_smYl {post : SY → Prop} {c : Nat → Int32} {M C : Nat → Int64} {z : Nat → Int} {a b p q : Int64} (ha : a = Int64.ofInt (z 0)) (hb : b = Int64.ofInt (z 1)) (hp : p = Int64.ofInt (z 2)) (hq : q = Int64.ofInt (z 3)) (H : ∀ X, rs_L X (rs_mat z) 16 → post (c, M, X, C)) : ∀ (d i : Nat) (X : Nat → Int64), i + d = 4 → (∀ j, j < i → X (5 * j) = a) → wY_setMatrix_52 post a b p q (d + 1) (nI i) c M X C := by
  intro d
  induction d with
  | zero =>
    intro i X hi hX
    obtain rfl : i = 4 := by omega
    refine br_t (by decide) ?_
    intro X1 e1 X2 e2 X3 e3 X4 e4 X5 e5 X6 e6 X7 e7 X8 e8 X9 e9 X10 e10 X11 e11 X12 e12
    refine H X12 ?_
    have x0 : X 0 = a := hX 0 (by omega)
    have x5 : X 5 = a := hX 1 (by omega)
    have x10 : X 10 = a := hX 2 (by omega)
    have x15 : X 15 = a := hX 3 (by omega)
    subst e12 e11 e10 e9 e8 e7 e6 e5 e4 e3 e2 e1
    have t1 : 2 * b = Int64.ofInt (2 * z 1) := by rw [hb, Int64.ofInt_mul, rs_o2]
    have t2 : 3 * p = Int64.ofInt (3 * z 2) := by rw [hp, Int64.ofInt_mul, rs_o3]
    have t3 : 6 * q = Int64.ofInt (6 * z 3) := by rw [hq, Int64.ofInt_mul, rs_o6]
    have t4 : 3 * q = Int64.ofInt (3 * z 3) := by rw [hq, Int64.ofInt_mul, rs_o3]
    have t5 : 2 * q = Int64.ofInt (2 * z 3) := by rw [hq, Int64.ofInt_mul, rs_o2]
    intro k hk
    refine rs_co16 (P := fun k => vp_updL (vp_updL (vp_updL (vp_updL (vp_updL (vp_updL (vp_updL (vp_updL (vp_updL (vp_updL (vp_updL (vp_updL X 1 (2 * b)) 2 (3 * p)) 3 (6 * q)) 4 b) 6 (3 * q)) 7 (3 * p)) 8 p) 9 (2 * q)) 11 (2 * b)) 12 q) 13 p) 14 b k = Int64.ofInt (rs_mat z k)) ?_ ?_ ?_ ?_ ?_ ?_ ?_ ?_ ?_ ?_ ?_ ?_ ?_ ?_ ?_ ?_ hk
    · exact x0.trans ha
    · exact t1
    · exact t2
    · exact t3
    · exact hb
    · exact x5.trans ha
    · exact t4
    · exact t2
    · exact hp
    · exact t5
    · exact x10.trans ha
    · exact t1
    · exact hq
    · exact hp
    · exact hb
    · exact x15.trans ha
  | succ d ih =>
    intro i X hi hX
    have e5 : (5 * nI i).toNatClampNeg = 5 * i := by
      rw [rs_ixY0]
      exact nI_clamp (by omega)
    have i5 : vp_in (5 * nI i) 16 := by
      rw [rs_ixY0]
      exact vp_in_nI (by omega) (by omega)
    refine pk_le 4 i (fun h => absurd h (by omega)) (fun _ => ⟨i5, fun w ew y ey => ?_⟩)
    rw [ey, nI_1, ew, e5]
    refine ih (i + 1) _ (by omega) ?_
    intro j hj
    unfold vp_updL
    by_cases h : j = i
    · rw [if_pos (by omega)]
    · rw [if_neg (by omega)]
      exact hX j (by omega)
theorem rs_clYk {r : Nat} (hr : r < 6) : (5 * nI r + 1).toNatClampNeg = 5 * r + 1 ∧ (5 * nI r + 2).toNatClampNeg = 5 * r + 2 ∧ (5 * nI r + 3).toNatClampNeg = 5 * r + 3 ∧ (5 * nI r + 4).toNatClampNeg = 5 * r + 4 :=
  ⟨rs_clY (k := 1) hr (by omega), rs_clY (k := 2) hr (by omega), rs_clY (k := 3) hr (by omega), rs_clY (k := 4) hr (by omega)⟩
theorem rs_smY {post : SY → Prop} {c : Nat → Int32} {M X C : Nat → Int64} {y : Nat} (hy : y < 6) (H : ∀ X, rs_L X (rs_mat (rs_z c y)) 16 → post (c, M, X, C)) : wpY_setMatrix post (c, M, X, C) (nI y) := by
  unfold wpY_setMatrix
  dsimp only
  obtain ⟨k1, k2, k3, k4⟩ := rs_clYk hy
  refine ⟨rs_inY0 hy, fun a ea => ⟨rs_inY (k := 1) hy (by omega), fun b eb => ⟨rs_inY (k := 2) hy (by omega), fun p ep => ⟨rs_inY (k := 3) hy (by omega), fun q eq => ⟨5, ?_⟩⟩⟩⟩⟩
  refine rs_smYl (z := rs_z c y) ?_ ?_ ?_ ?_ H 4 0 X rfl (fun j hj => absurd hj (by omega))
  · rw [ea, rs_clY0 hy, rs_ld]
  · rw [eb, k1, rs_ld]
  · rw [ep, k2, rs_ld]
  · rw [eq, k3, rs_ld]
theorem rs_ix4 (r k : Nat) : 4 * nI r + nI k = nI (4 * r + k) := by
  have h : nI 4 * nI r + nI k = nI (4 * r + k) := by
    rw [pk_mul, nI_add]
  exact h
theorem rs_in4 {r k : Nat} (hr : r < 4) (hk : k < 4) : vp_in (4 * nI r + nI k) 16 := by
  rw [rs_ix4]
  exact vp_in_nI (by omega) (by omega)
theorem rs_cl4 {r k : Nat} (hr : r < 4) (hk : k < 4) : (4 * nI r + nI k).toNatClampNeg = 4 * r + k := by
  rw [rs_ix4]
  exact nI_clamp (by omega)
def rs_ps (x y : Nat → Int) (k : Nat) : Nat → Int
  | 0 => 0
  | i + 1 => rs_ps x y k i + rs_mat y (4 * k + i) * x i
theorem rs_ps4 (x y : Nat → Int) {k : Nat} (hk : k < 4) : rs_ps x y k 4 = rs_mul x y k := by
  rw [← rs_row x y hk]
  show 0 + rs_mat y (4 * k + 0) * x 0 + rs_mat y (4 * k + 1) * x 1 + rs_mat y (4 * k + 2) * x 2 + rs_mat y (4 * k + 3) * x 3 = _
  rw [Int.zero_add]
theorem rs_pr18 {post : SY → Prop} {J : Int32 → (Nat → Int32) → (Nat → Int64) → (Nat → Int64) → (Nat → Int64) → Prop} {c : Nat → Int32} {M X C : Nat → Int64} {x k : Nat} {p2 : Int32} {y : Nat → Int} (hx : x < 6) (hk : k < 4) (hX : rs_L X (rs_mat y) 16) (H : J (nI (k + 1)) c (vp_updL M k (Int64.ofInt (rs_mul (rs_z c x) y k))) X C) : ∀ (d i : Nat), i + d = 4 → wY_product_18 post J (nI x) p2 (nI k) c M X C (d + 1) (Int64.ofInt (rs_ps (rs_z c x) y k i)) (nI i) := by
  intro d
  induction d with
  | zero =>
    intro i hi
    obtain rfl : i = 4 := by omega
    refine br_t (by decide) ⟨vp_in_nI (by omega) (by omega), fun a ea j ej => ?_⟩
    rw [ej, nI_1, ea, nI_clamp (by omega), rs_ps4 _ _ hk]
    exact H
  | succ d ih =>
    intro i hi
    refine pk_le 4 i (fun h => absurd h (by omega)) (fun _ => ⟨rs_in4 hk (by omega), rs_inY hx (by omega), fun a ea j ej => ?_⟩)
    rw [ej, nI_1, ea, rs_cl4 hk (by omega), rs_clY hx (by omega), hX _ (by omega), rs_ld, ← Int64.ofInt_mul, ← Int64.ofInt_add]
    exact ih (i + 1) (by omega)
theorem rs_pr7 {post : SY → Prop} {c : Nat → Int32} {X C : Nat → Int64} {x y : Nat} (hx : x < 6) (hy : y < 6) (hc : rs_Rc c) (hX : rs_L X (rs_mat (rs_z c y)) 16) (H : ∀ M, rs_L M (rs_mul (rs_z c x) (rs_z c y)) 5 → post (c, M, X, C)) : ∀ (d k : Nat) (M : Nat → Int64), k + d = 4 → rs_L M (rs_mul (rs_z c x) (rs_z c y)) k → wY_product_7 post (nI x) (nI y) (d + 1) (nI k) c M X C := by
  intro d
  induction d with
  | zero =>
    intro k M hk hL
    obtain rfl : k = 4 := by omega
    obtain ⟨_, _, _, kx⟩ := rs_clYk hx
    obtain ⟨_, _, _, ky⟩ := rs_clYk hy
    refine br_t (by decide) ⟨rs_inY (k := 4) hx (by omega), rs_inY (k := 4) hy (by omega), fun a ea => ?_⟩
    rw [ea, kx, ky]
    refine H _ (rs_Lu hL ?_)
    have b := rs_mc 30 30 900 (by omega) (rs_okb (hc x hx) (k := 4) (by omega)) (rs_okb (hc y hy) (k := 4) (by omega))
    have e1 : (c (5 * x + 4)).toInt = rs_z c x 4 := rfl
    have e2 : (c (5 * y + 4)).toInt = rs_z c y 4 := rfl
    rw [rs_c64, rs_m32, e1, e2]
    · rfl
    · rw [e1, e2]
      omega
    · rw [e1, e2]
      omega
  | succ d ih =>
    intro k M hk hL
    refine pk_le 4 k (fun h => absurd h (by omega)) (fun _ => ⟨5, ?_⟩)
    refine rs_pr18 hx (by omega) hX ?_ 4 0 rfl
    exact ih (k + 1) _ (by omega) (rs_Lu hL rfl)
theorem rs_prY {post : SY → Prop} {c : Nat → Int32} {M X C : Nat → Int64} {x y : Nat} (hx : x < 6) (hy : y < 6) (hc : rs_Rc c) (H : ∀ M X, rs_L M (rs_mul (rs_z c x) (rs_z c y)) 5 → post (c, M, X, C)) : wpY_product post (c, M, X, C) (nI x) (nI y) := by
  unfold wpY_product
  dsimp only
  refine rs_smY hy (fun X' hX => ?_)
  dsimp only
  exact ⟨5, rs_pr7 hx hy hc hX (fun M' h => H M' X' h) 4 0 M rfl (rs_L0 _ _)⟩
theorem rs_miY {post : Int64 → Prop} {c : Nat → Int32} {M X C : Nat → Int64} {E : Nat → Int} (hC : rs_L C E 16) (i k p q : Nat) (hi : i < 4) (hk : k < 4) (hp : p < 4) (hq : q < 4) (H : post (Int64.ofInt (rs_mi E i k p q))) : wpY_minor post (c, M, X, C) (nI i) (nI k) (nI p) (nI q) := by
  unfold wpY_minor
  dsimp only
  refine ⟨rs_in4 hi hp, rs_in4 hk hq, rs_in4 hi hq, rs_in4 hk hp, ?_⟩
  rw [rs_cl4 hi hp, rs_cl4 hk hq, rs_cl4 hi hq, rs_cl4 hk hp, hC _ (by omega), hC _ (by omega), hC _ (by omega), hC _ (by omega), ← Int64.ofInt_mul, ← Int64.ofInt_mul, ← Int64.ofInt_sub]
  exact H
theorem rs_4n0 : ¬ (4 : Int32) = 0 := by decide
theorem rs_deYl {post : Int64 → SY → Prop} {c : Nat → Int32} {M X : Nat → Int64} {n x : Nat} {y : Nat → Int} (hx : x < 6) (hn : n ≤ 4) (hX : rs_L X (rs_mat y) 16) (H : ∀ C, post (Int64.ofInt (rs_det (rs_ch n (rs_z c x) y))) (c, M, X, C)) : ∀ (d i : Nat) (C : Nat → Int64), i + d = 16 → rs_L C (rs_ch n (rs_z c x) y) i → wY_determinant_2 post (nI n) (nI x) (d + 1) (nI i) c M X C := by
  intro d
  induction d with
  | zero =>
    intro i C hi hL
    obtain rfl : i = 16 := by omega
    refine br_t (by decide) ?_
    refine rs_miY hL 0 1 0 1 (by omega) (by omega) (by omega) (by omega) ?_
    refine rs_miY hL 2 3 2 3 (by omega) (by omega) (by omega) (by omega) ?_
    intro s1 e1
    refine rs_miY hL 0 1 0 2 (by omega) (by omega) (by omega) (by omega) ?_
    refine rs_miY hL 2 3 1 3 (by omega) (by omega) (by omega) (by omega) ?_
    intro s2 e2
    refine rs_miY hL 0 1 0 3 (by omega) (by omega) (by omega) (by omega) ?_
    refine rs_miY hL 2 3 1 2 (by omega) (by omega) (by omega) (by omega) ?_
    intro s3 e3
    refine rs_miY hL 0 1 1 2 (by omega) (by omega) (by omega) (by omega) ?_
    refine rs_miY hL 2 3 0 3 (by omega) (by omega) (by omega) (by omega) ?_
    intro s4 e4
    refine rs_miY hL 0 1 1 3 (by omega) (by omega) (by omega) (by omega) ?_
    refine rs_miY hL 2 3 0 2 (by omega) (by omega) (by omega) (by omega) ?_
    intro s5 e5
    refine rs_miY hL 0 1 2 3 (by omega) (by omega) (by omega) (by omega) ?_
    refine rs_miY hL 2 3 0 1 (by omega) (by omega) (by omega) (by omega) ?_
    have K := H C
    unfold rs_det at K
    rw [e5, e4, e3, e2, e1, ← Int64.ofInt_mul, ← Int64.ofInt_mul, ← Int64.ofInt_mul, ← Int64.ofInt_mul, ← Int64.ofInt_mul, ← Int64.ofInt_mul, ← Int64.ofInt_sub, ← Int64.ofInt_add, ← Int64.ofInt_add, ← Int64.ofInt_sub, ← Int64.ofInt_add]
    exact K
  | succ d ih =>
    intro i C hi hL
    have er : nI i - nI i / 4 * 4 = nI (i % 4) := pk_rem (d := 4) (by omega) (by omega) (by omega)
    have ed : nI i / 4 = nI (i / 4) := pk_div (d := 4) (by omega) (by omega) (by omega)
    have el := Nat.mod_lt i (show 0 < 4 by omega)
    refine pk_le 16 i (fun h => absurd h (by omega)) (fun _ => ⟨rs_4n0, ?_⟩)
    refine pk_eq (i % 4) n (fun h => ⟨rs_4n0, ?_⟩) (fun h => ⟨vp_in_nI (by omega) (by omega), vp_in_nI (by omega) (by omega), fun a ea j ej => ?_⟩) er
    · rw [ed]
      refine ⟨rs_inY hx (by omega), vp_in_nI (by omega) (by omega), fun a ea j ej => ?_⟩
      rw [ej, nI_1, ea, rs_clY hx (by omega), nI_clamp (by omega)]
      refine ih (i + 1) _ (by omega) (rs_Lu hL ?_)
      have e : rs_ch n (rs_z c x) y i = rs_z c x (i / 4) := if_pos h
      rw [e, rs_ld]
    · rw [ej, nI_1, ea, nI_clamp (by omega)]
      refine ih (i + 1) _ (by omega) (rs_Lu hL ?_)
      have e : rs_ch n (rs_z c x) y i = rs_mat y i := if_neg h
      rw [e, hX i (by omega)]
theorem rs_deY {post : Int64 → SY → Prop} {c : Nat → Int32} {M X C : Nat → Int64} {n x : Nat} {y : Nat → Int} (hx : x < 6) (hn : n ≤ 4) (hX : rs_L X (rs_mat y) 16) (H : ∀ C, post (Int64.ofInt (rs_det (rs_ch n (rs_z c x) y))) (c, M, X, C)) : wpY_determinant post (c, M, X, C) (nI n) (nI x) :=
  ⟨17, rs_deYl hx hn hX H 16 0 C rfl (rs_L0 _ _)⟩
/-- a, b, c, d are 0 -/
def rs_0 (z : Nat → Int) : Prop := z 0 = 0 ∧ z 1 = 0 ∧ z 2 = 0 ∧ z 3 = 0
theorem rs_izX {post : Int32 → Prop} {c : Nat → Int32} {f s R : Nat → Int64} {z : Nat → Int} (hs : rs_L s z 5) (hz : ∀ k, k < 5 → rs_S (z k)) (H1 : rs_0 z → post 1) (H0 : ¬ rs_0 z → post 0) : wpX_isZero__second post (c, f, s, R) := by
  have e : ∀ k, k < 5 → (s k = 0 ↔ z k = 0) := fun k hk => by
    rw [hs k hk]
    exact rs_eq64 (hz k hk) rs_S0
  have e0 := e 0 (by omega)
  have e1 := e 1 (by omega)
  have e2 := e 2 (by omega)
  have e3 := e 3 (by omega)
  unfold wpX_isZero__second
  dsimp only
  rw [e0, e1, e2, e3]
  exact br_c (fun h0 => br_c (fun h1 => br_c (fun h2 => br_c (fun h3 => H1 ⟨h0, h1, h2, h3⟩) (fun h => H0 (fun g => h g.2.2.2))) (fun h => H0 (fun g => h g.2.2.1))) (fun h => H0 (fun g => h g.2.1))) (fun h => H0 (fun g => h g.1))
theorem rs_c0 (x : Int32) : x = 0 ↔ x.toInt = 0 := by
  have e : (0 : Int32).toInt = 0 := by decide
  rw [← Int32.toInt_inj, e]
theorem rs_izY {post : Int32 → Prop} {c : Nat → Int32} {M X C : Nat → Int64} {y : Nat} (hy : y < 6) (H1 : rs_0 (rs_z c y) → post 1) (H0 : ¬ rs_0 (rs_z c y) → post 0) : wpY_isZero post (c, M, X, C) (nI y) := by
  obtain ⟨k1, k2, k3, k4⟩ := rs_clYk hy
  have e : ∀ k, c (5 * y + k) = 0 ↔ rs_z c y k = 0 := fun k => rs_c0 _
  unfold wpY_isZero
  dsimp only
  rw [rs_clY0 hy, k1, k2, k3, e 0, e 1, e 2, e 3]
  exact ⟨rs_inY0 hy, br_c (fun h0 => ⟨rs_inY (k := 1) hy (by omega), br_c (fun h1 => ⟨rs_inY (k := 2) hy (by omega), br_c (fun h2 => ⟨rs_inY (k := 3) hy (by omega), br_c (fun h3 => H1 ⟨h0, h1, h2, h3⟩) (fun h => H0 (fun g => h g.2.2.2))⟩) (fun h => H0 (fun g => h g.2.2.1))⟩) (fun h => H0 (fun g => h g.2.1))⟩) (fun h => H0 (fun g => h g.1))⟩
theorem rs_dvl {post : Int32 → SY → Prop} {c : Nat → Int32} {X : Nat → Int64} {r x y : Nat} (hx : x < 6) (hy : y < 6) (hX : rs_L X (rs_mat (rs_z c y)) 16) (H : ∀ M C, rs_L M (rs_mul (rs_z c x) (rs_inv (rs_z c y))) 5 → wpY_take post (c, M, X, C) (nI r)) : ∀ (d i : Nat) (M C : Nat → Int64), i + d = 4 → rs_L M (rs_mul (rs_z c x) (rs_inv (rs_z c y))) i → wY_divide_40 post (nI r) (nI x) (nI y) (Int64.ofInt (rs_N (rs_z c y))) (d + 1) (nI i) c M X C := by
  intro d
  induction d with
  | zero =>
    intro i M C hi hL
    obtain rfl : i = 4 := by omega
    obtain ⟨_, _, _, kx⟩ := rs_clYk hx
    refine br_t (by decide) ⟨rs_inY (k := 4) hx (by omega), fun a ea => ?_⟩
    rw [ea, kx]
    refine H _ C (rs_Lu hL ?_)
    rw [rs_ld, ← Int64.ofInt_mul, Int.mul_comm]
    rfl
  | succ d ih =>
    intro i M C hi hL
    obtain ⟨_, _, _, ky⟩ := rs_clYk hy
    refine pk_le 4 i (fun h => absurd h (by omega)) (fun _ => ?_)
    refine rs_deY hx (by omega) hX (fun C' => ?_)
    refine ⟨rs_inY (k := 4) hy (by omega), vp_in_nI (by omega) (by omega), fun a ea j ej => ?_⟩
    rw [ej, nI_1, ea, ky, nI_clamp (by omega), rs_ld, ← Int64.ofInt_mul, rs_detk _ _ (by omega)]
    exact ih (i + 1) _ C' (by omega) (rs_Lu hL rfl)
/-- the signs of a conjugate's roots -/
def rs_f2 (w : Nat) : Int := if w = 1 ∨ w = 3 then -1 else 1
def rs_f3 (w : Nat) : Int := if w = 2 ∨ w = 3 then -1 else 1
def rs_cj (A B : Int) (z : Nat → Int) : Nat → Int
  | 0 => z 0
  | 1 => A * z 1
  | 2 => B * z 2
  | 3 => A * B * z 3
  | _ => z 4
theorem rs_pc31R {post : SX → Prop} {c : Nat → Int32} {f s R : Nat → Int64} {z : Nat → Int} {p q : Int32} {A B : Int} (h1 : p.toInt64 = Int64.ofInt A) (h2 : q.toInt64 = Int64.ofInt B) (h3 : (p * q).toInt64 = Int64.ofInt (A * B)) (hL : rs_L R z 5) (H : ∀ w, rs_L w (rs_cj A B z) 5 → post (c, f, s, w)) : wX_putConjugate__result_31 post p q c f s R := by
  intro a ea b eb d ed
  refine H d ?_
  subst ed eb ea
  rw [h1, h2, h3]
  apply rs_L5
  · exact hL 0 (by omega)
  · show Int64.ofInt A * R 1 = Int64.ofInt (A * z 1)
    rw [hL 1 (by omega), Int64.ofInt_mul]
  · show Int64.ofInt B * R 2 = Int64.ofInt (B * z 2)
    rw [hL 2 (by omega), Int64.ofInt_mul]
  · show Int64.ofInt (A * B) * R 3 = Int64.ofInt (A * B * z 3)
    rw [hL 3 (by omega), Int64.ofInt_mul (A * B)]
  · exact hL 4 (by omega)
theorem rs_pcR {post : SX → Prop} {c : Nat → Int32} {f s R : Nat → Int64} {z : Nat → Int} {k : Nat} (hk : k < 4) (hL : rs_L R z 5) (H : ∀ w, rs_L w (rs_cj (rs_f2 k) (rs_f3 k) z) 5 → post (c, f, s, w)) : wpX_putConjugate__result post (c, f, s, R) (nI k) := by
  unfold wpX_putConjugate__result
  dsimp only
  rcases (show k = 0 ∨ k = 1 ∨ k = 2 ∨ k = 3 by omega) with rfl | rfl | rfl | rfl
  · exact br_f (by decide) (br_f (by decide) (br_f (by decide) (br_f (by decide) (rs_pc31R (by decide) (by decide) (by decide) hL H))))
  · exact br_t (by decide) (br_f (by decide) (br_f (by decide) (rs_pc31R (by decide) (by decide) (by decide) hL H)))
  · exact br_f (by decide) (br_f (by decide) (br_t (by decide) (rs_pc31R (by decide) (by decide) (by decide) hL H)))
  · exact br_f (by decide) (br_t (by decide) (br_f (by decide) (br_t (by decide) (rs_pc31R (by decide) (by decide) (by decide) hL H))))
theorem rs_pc31F {post : SX → Prop} {c : Nat → Int32} {f s R : Nat → Int64} {z : Nat → Int} {p q : Int32} {A B : Int} (h1 : p.toInt64 = Int64.ofInt A) (h2 : q.toInt64 = Int64.ofInt B) (h3 : (p * q).toInt64 = Int64.ofInt (A * B)) (hL : rs_L f z 5) (H : ∀ w, rs_L w (rs_cj A B z) 5 → post (c, w, s, R)) : wX_putConjugate__first_31 post p q c f s R := by
  intro a ea b eb d ed
  refine H d ?_
  subst ed eb ea
  rw [h1, h2, h3]
  apply rs_L5
  · exact hL 0 (by omega)
  · show Int64.ofInt A * f 1 = Int64.ofInt (A * z 1)
    rw [hL 1 (by omega), Int64.ofInt_mul]
  · show Int64.ofInt B * f 2 = Int64.ofInt (B * z 2)
    rw [hL 2 (by omega), Int64.ofInt_mul]
  · show Int64.ofInt (A * B) * f 3 = Int64.ofInt (A * B * z 3)
    rw [hL 3 (by omega), Int64.ofInt_mul (A * B)]
  · exact hL 4 (by omega)
theorem rs_pcF {post : SX → Prop} {c : Nat → Int32} {f s R : Nat → Int64} {z : Nat → Int} {k : Nat} (hk : k < 4) (hL : rs_L f z 5) (H : ∀ w, rs_L w (rs_cj (rs_f2 k) (rs_f3 k) z) 5 → post (c, w, s, R)) : wpX_putConjugate__first post (c, f, s, R) (nI k) := by
  unfold wpX_putConjugate__first
  dsimp only
  rcases (show k = 0 ∨ k = 1 ∨ k = 2 ∨ k = 3 by omega) with rfl | rfl | rfl | rfl
  · exact br_f (by decide) (br_f (by decide) (br_f (by decide) (br_f (by decide) (rs_pc31F (by decide) (by decide) (by decide) hL H))))
  · exact br_t (by decide) (br_f (by decide) (br_f (by decide) (rs_pc31F (by decide) (by decide) (by decide) hL H)))
  · exact br_f (by decide) (br_f (by decide) (br_t (by decide) (rs_pc31F (by decide) (by decide) (by decide) hL H)))
  · exact br_f (by decide) (br_t (by decide) (br_f (by decide) (br_t (by decide) (rs_pc31F (by decide) (by decide) (by decide) hL H))))
/-- the reference's sign of place k in a conjugate -/
def rs_fl (k w : Nat) : Int := if k = 1 then rs_f2 w else if k = 2 then rs_f3 w else if k = 3 then rs_f2 w * rs_f3 w else 1
theorem rs_fl00 {post : Int32 → Prop} {c : Nat → Int32} {M X C : Nat → Int64} (H : post (Int32.ofInt (rs_fl 0 0))) : wpY_flip post (c, M, X, C) (nI 0) (nI 0) :=
  ⟨by decide, br_f (by decide) (br_t (by decide) (br_f (by decide) (br_f (by decide) (br_f (by decide) H))))⟩
theorem rs_fl01 {post : Int32 → Prop} {c : Nat → Int32} {M X C : Nat → Int64} (H : post (Int32.ofInt (rs_fl 0 1))) : wpY_flip post (c, M, X, C) (nI 0) (nI 1) :=
  ⟨by decide, br_t (by decide) (br_t (by decide) (br_f (by decide) (br_f (by decide) (br_f (by decide) H))))⟩
theorem rs_fl02 {post : Int32 → Prop} {c : Nat → Int32} {M X C : Nat → Int64} (H : post (Int32.ofInt (rs_fl 0 2))) : wpY_flip post (c, M, X, C) (nI 0) (nI 2) :=
  ⟨by decide, br_f (by decide) (br_f (by decide) (br_f (by decide) (br_f (by decide) (br_f (by decide) H))))⟩
theorem rs_fl03 {post : Int32 → Prop} {c : Nat → Int32} {M X C : Nat → Int64} (H : post (Int32.ofInt (rs_fl 0 3))) : wpY_flip post (c, M, X, C) (nI 0) (nI 3) :=
  ⟨by decide, br_t (by decide) (br_f (by decide) (br_f (by decide) (br_f (by decide) (br_f (by decide) H))))⟩
theorem rs_fl10 {post : Int32 → Prop} {c : Nat → Int32} {M X C : Nat → Int64} (H : post (Int32.ofInt (rs_fl 1 0))) : wpY_flip post (c, M, X, C) (nI 1) (nI 0) :=
  ⟨by decide, br_f (by decide) (br_t (by decide) (br_t (by decide) (br_t (by decide) (br_f (by decide) (br_f (by decide) H)))))⟩
theorem rs_fl11 {post : Int32 → Prop} {c : Nat → Int32} {M X C : Nat → Int64} (H : post (Int32.ofInt (rs_fl 1 1))) : wpY_flip post (c, M, X, C) (nI 1) (nI 1) :=
  ⟨by decide, br_t (by decide) (br_t (by decide) (br_t (by decide) (br_f (by decide) H)))⟩
theorem rs_fl12 {post : Int32 → Prop} {c : Nat → Int32} {M X C : Nat → Int64} (H : post (Int32.ofInt (rs_fl 1 2))) : wpY_flip post (c, M, X, C) (nI 1) (nI 2) :=
  ⟨by decide, br_f (by decide) (br_f (by decide) (br_t (by decide) (br_t (by decide) (br_f (by decide) (br_f (by decide) H)))))⟩
theorem rs_fl13 {post : Int32 → Prop} {c : Nat → Int32} {M X C : Nat → Int64} (H : post (Int32.ofInt (rs_fl 1 3))) : wpY_flip post (c, M, X, C) (nI 1) (nI 3) :=
  ⟨by decide, br_t (by decide) (br_f (by decide) (br_t (by decide) (br_f (by decide) H)))⟩
theorem rs_fl20 {post : Int32 → Prop} {c : Nat → Int32} {M X C : Nat → Int64} (H : post (Int32.ofInt (rs_fl 2 0))) : wpY_flip post (c, M, X, C) (nI 2) (nI 0) :=
  ⟨by decide, br_f (by decide) (br_t (by decide) (br_f (by decide) (br_t (by decide) (br_t (by decide) (br_f (by decide) H)))))⟩
theorem rs_fl21 {post : Int32 → Prop} {c : Nat → Int32} {M X C : Nat → Int64} (H : post (Int32.ofInt (rs_fl 2 1))) : wpY_flip post (c, M, X, C) (nI 2) (nI 1) :=
  ⟨by decide, br_t (by decide) (br_t (by decide) (br_f (by decide) (br_t (by decide) (br_t (by decide) (br_f (by decide) H)))))⟩
theorem rs_fl22 {post : Int32 → Prop} {c : Nat → Int32} {M X C : Nat → Int64} (H : post (Int32.ofInt (rs_fl 2 2))) : wpY_flip post (c, M, X, C) (nI 2) (nI 2) :=
  ⟨by decide, br_f (by decide) (br_f (by decide) (br_f (by decide) (br_t (by decide) (br_f (by decide) H))))⟩
theorem rs_fl23 {post : Int32 → Prop} {c : Nat → Int32} {M X C : Nat → Int64} (H : post (Int32.ofInt (rs_fl 2 3))) : wpY_flip post (c, M, X, C) (nI 2) (nI 3) :=
  ⟨by decide, br_t (by decide) (br_f (by decide) (br_f (by decide) (br_t (by decide) (br_f (by decide) H))))⟩
theorem rs_fl30 {post : Int32 → Prop} {c : Nat → Int32} {M X C : Nat → Int64} (H : post (Int32.ofInt (rs_fl 3 0))) : wpY_flip post (c, M, X, C) (nI 3) (nI 0) :=
  ⟨by decide, br_f (by decide) (br_t (by decide) (br_f (by decide) (br_f (by decide) (br_t (by decide) (br_t (by decide) H)))))⟩
theorem rs_fl31 {post : Int32 → Prop} {c : Nat → Int32} {M X C : Nat → Int64} (H : post (Int32.ofInt (rs_fl 3 1))) : wpY_flip post (c, M, X, C) (nI 3) (nI 1) :=
  ⟨by decide, br_t (by decide) (br_t (by decide) (br_f (by decide) (br_f (by decide) (br_t (by decide) (br_f (by decide) H)))))⟩
theorem rs_fl32 {post : Int32 → Prop} {c : Nat → Int32} {M X C : Nat → Int64} (H : post (Int32.ofInt (rs_fl 3 2))) : wpY_flip post (c, M, X, C) (nI 3) (nI 2) :=
  ⟨by decide, br_f (by decide) (br_f (by decide) (br_f (by decide) (br_f (by decide) (br_t (by decide) (br_f (by decide) H)))))⟩
theorem rs_fl33 {post : Int32 → Prop} {c : Nat → Int32} {M X C : Nat → Int64} (H : post (Int32.ofInt (rs_fl 3 3))) : wpY_flip post (c, M, X, C) (nI 3) (nI 3) :=
  ⟨by decide, br_t (by decide) (br_f (by decide) (br_f (by decide) (br_f (by decide) (br_t (by decide) (br_t (by decide) H)))))⟩
theorem rs_fl40 {post : Int32 → Prop} {c : Nat → Int32} {M X C : Nat → Int64} (H : post (Int32.ofInt (rs_fl 4 0))) : wpY_flip post (c, M, X, C) (nI 4) (nI 0) :=
  ⟨by decide, br_f (by decide) (br_t (by decide) (br_f (by decide) (br_f (by decide) (br_f (by decide) H))))⟩
theorem rs_fl41 {post : Int32 → Prop} {c : Nat → Int32} {M X C : Nat → Int64} (H : post (Int32.ofInt (rs_fl 4 1))) : wpY_flip post (c, M, X, C) (nI 4) (nI 1) :=
  ⟨by decide, br_t (by decide) (br_t (by decide) (br_f (by decide) (br_f (by decide) (br_f (by decide) H))))⟩
theorem rs_fl42 {post : Int32 → Prop} {c : Nat → Int32} {M X C : Nat → Int64} (H : post (Int32.ofInt (rs_fl 4 2))) : wpY_flip post (c, M, X, C) (nI 4) (nI 2) :=
  ⟨by decide, br_f (by decide) (br_f (by decide) (br_f (by decide) (br_f (by decide) (br_f (by decide) H))))⟩
theorem rs_fl43 {post : Int32 → Prop} {c : Nat → Int32} {M X C : Nat → Int64} (H : post (Int32.ofInt (rs_fl 4 3))) : wpY_flip post (c, M, X, C) (nI 4) (nI 3) :=
  ⟨by decide, br_t (by decide) (br_f (by decide) (br_f (by decide) (br_f (by decide) (br_f (by decide) H))))⟩
theorem rs_flY {post : Int32 → Prop} {c : Nat → Int32} {M X C : Nat → Int64} {k w : Nat} (hk : k < 5) (hw : w < 4) (H : post (Int32.ofInt (rs_fl k w))) : wpY_flip post (c, M, X, C) (nI k) (nI w) := by
  rcases (show k = 0 ∨ k = 1 ∨ k = 2 ∨ k = 3 ∨ k = 4 by omega) with rfl | rfl | rfl | rfl | rfl
  · rcases (show w = 0 ∨ w = 1 ∨ w = 2 ∨ w = 3 by omega) with rfl | rfl | rfl | rfl
    · exact rs_fl00 H
    · exact rs_fl01 H
    · exact rs_fl02 H
    · exact rs_fl03 H
  · rcases (show w = 0 ∨ w = 1 ∨ w = 2 ∨ w = 3 by omega) with rfl | rfl | rfl | rfl
    · exact rs_fl10 H
    · exact rs_fl11 H
    · exact rs_fl12 H
    · exact rs_fl13 H
  · rcases (show w = 0 ∨ w = 1 ∨ w = 2 ∨ w = 3 by omega) with rfl | rfl | rfl | rfl
    · exact rs_fl20 H
    · exact rs_fl21 H
    · exact rs_fl22 H
    · exact rs_fl23 H
  · rcases (show w = 0 ∨ w = 1 ∨ w = 2 ∨ w = 3 by omega) with rfl | rfl | rfl | rfl
    · exact rs_fl30 H
    · exact rs_fl31 H
    · exact rs_fl32 H
    · exact rs_fl33 H
  · rcases (show w = 0 ∨ w = 1 ∨ w = 2 ∨ w = 3 by omega) with rfl | rfl | rfl | rfl
    · exact rs_fl40 H
    · exact rs_fl41 H
    · exact rs_fl42 H
    · exact rs_fl43 H
end
section
/-! part 11: signs, order, whole parts: the walks of both sides -/
theorem rs_prS {e : Int} (h : -2000000000 ≤ e ∧ e ≤ 2000000000) : rs_S e := ⟨by omega, by omega⟩
theorem rs_sqS {e : Int} (h : -1400000000 ≤ e ∧ e ≤ 1400000000) : rs_S (e * e) := by
  have h1 := rs_sqle (p := 1400000000) h.1 h.2
  have h2 := rs_sqnn e
  exact ⟨by omega, by omega⟩
theorem rs_sq2S {f : Int} (h : -1400000000 ≤ f ∧ f ≤ 1400000000) : rs_S (2 * f * f) := by
  have h1 := rs_sqle (p := 1400000000) h.1 h.2
  have h2 := rs_sqnn f
  have e : 2 * f * f = 2 * (f * f) := Int.mul_assoc 2 f f
  rw [e]
  exact ⟨by omega, by omega⟩
theorem rs_p42 {post : Int32 → Prop} {e f : Int} (he : -1400000000 ≤ e ∧ e ≤ 1400000000) (hf : -1400000000 ≤ f ∧ f ≤ 1400000000) (h0 : ¬ (e = 0 ∧ f = 0)) (h1 : ¬ (0 ≤ e ∧ 0 ≤ f)) (h2 : ¬ (e ≤ 0 ∧ f ≤ 0)) (H : post (Int32.ofInt (rs_pr e f))) : wX_signOfPair_42 post (Int64.ofInt e) (Int64.ofInt f) := by
  have hS : rs_S e := rs_prS (by omega)
  unfold rs_pr at H
  rw [if_neg h0, if_neg h1, if_neg h2] at H
  have ea : 2 * f * f = 2 * (f * f) := Int.mul_assoc 2 f f
  have e2 : (Int64.ofInt e * Int64.ofInt e ≤ 2 * Int64.ofInt f * Int64.ofInt f) ↔ ¬ 2 * (f * f) < e * e := by
    rw [← rs_o2, ← Int64.ofInt_mul, ← Int64.ofInt_mul, ← Int64.ofInt_mul, rs_le64 (rs_sqS he) (rs_sq2S hf), ea]
    omega
  have e3 : Int64.ofInt e ≤ 0 ↔ ¬ 0 < e := by
    rw [rs_le064 hS]
    omega
  by_cases h3 : 2 * (f * f) < e * e
  · refine br_f (fun h => e2.mp h h3) ?_
    by_cases h4 : 0 < e
    · refine br_f (fun h => e3.mp h h4) (br_t rfl ?_)
      rw [if_pos ⟨fun _ => h4, fun _ => h3⟩] at H
      exact H
    · refine br_t (e3.mpr h4) (br_f (by decide) ?_)
      rw [if_neg (fun g => h4 (g.mp h3))] at H
      exact H
  · refine br_t (e2.mpr h3) ?_
    by_cases h4 : 0 < e
    · refine br_f (fun h => e3.mp h h4) (br_f (by decide) ?_)
      rw [if_neg (fun g => h3 (g.mpr h4))] at H
      exact H
    · refine br_t (e3.mpr h4) (br_t rfl ?_)
      rw [if_pos ⟨fun g => absurd g h3, fun g => absurd g h4⟩] at H
      exact H
theorem rs_pairX {post : Int32 → Prop} {e f : Int} (he : -1400000000 ≤ e ∧ e ≤ 1400000000) (hf : -1400000000 ≤ f ∧ f ≤ 1400000000) (H : post (Int32.ofInt (rs_pr e f))) : wpX_signOfPair post (Int64.ofInt e) (Int64.ofInt f) := by
  have hS : rs_S e := rs_prS (by omega)
  have hT : rs_S f := rs_prS (by omega)
  have z1 : Int64.ofInt e = 0 ↔ e = 0 := rs_eq64 hS rs_S0
  have z2 : Int64.ofInt f = 0 ↔ f = 0 := rs_eq64 hT rs_S0
  have l1 : Int64.ofInt e < 0 ↔ e < 0 := rs_lt64 hS rs_S0
  have l2 : Int64.ofInt f < 0 ↔ f < 0 := rs_lt64 hT rs_S0
  have g1 : 0 < Int64.ofInt e ↔ 0 < e := rs_lt64 rs_S0 hS
  have g2 : 0 < Int64.ofInt f ↔ 0 < f := rs_lt64 rs_S0 hT
  have K28 : ¬ (e = 0 ∧ f = 0) → ¬ (0 ≤ e ∧ 0 ≤ f) → wX_signOfPair_28 post (Int64.ofInt e) (Int64.ofInt f) := by
    intro h0 h1
    by_cases h2 : e ≤ 0 ∧ f ≤ 0
    · refine br_f (fun h => absurd (g1.mp h) (by omega)) (br_f (fun h => absurd (g2.mp h) (by omega)) ?_)
      unfold rs_pr at H
      rw [if_neg h0, if_neg h1, if_pos h2] at H
      exact H
    · have K := rs_p42 he hf h0 h1 h2 H
      by_cases h3 : 0 < e
      · exact br_t (g1.mpr h3) K
      · exact br_f (fun h => h3 (g1.mp h)) (br_t (g2.mpr (by omega)) K)
  have K14 : ¬ (e = 0 ∧ f = 0) → wX_signOfPair_14 post (Int64.ofInt e) (Int64.ofInt f) := by
    intro h0
    by_cases h1 : 0 ≤ e ∧ 0 ≤ f
    · refine br_f (fun h => absurd (l1.mp h) (by omega)) (br_f (fun h => absurd (l2.mp h) (by omega)) ?_)
      unfold rs_pr at H
      rw [if_neg h0, if_pos h1] at H
      exact H
    · by_cases h3 : e < 0
      · exact br_t (l1.mpr h3) (K28 h0 h1)
      · exact br_f (fun h => h3 (l1.mp h)) (br_t (l2.mpr (by omega)) (K28 h0 h1))
  by_cases h0 : e = 0
  · by_cases h1 : f = 0
    · unfold rs_pr at H
      rw [if_pos ⟨h0, h1⟩] at H
      exact br_t (z1.mpr h0) (br_t (z2.mpr h1) H)
    · exact br_t (z1.mpr h0) (br_f (fun h => h1 (z2.mp h)) (K14 (fun g => h1 g.2)))
  · exact br_f (fun h => h0 (z1.mp h)) (K14 (fun g => h0 g.1))
theorem rs_pr3 (e f : Int) : rs_pr e f = 0 ∨ rs_pr e f = 1 ∨ rs_pr e f = -1 := by
  rcases rs_tri e f with h | h | h
  · exact Or.inl h.1
  · exact Or.inr (Or.inl h.1)
  · exact Or.inr (Or.inr h.1)
theorem rs_in32 {p q : Int} (hp : p = 0 ∨ p = 1 ∨ p = -1) (hq : q = 0 ∨ q = 1 ∨ q = -1) (h : p ≠ q) : ¬ Int32.ofInt p = Int32.ofInt q := by
  intro e
  have e2 := congrArg Int32.toInt e
  rw [rs_t32 (by omega) (by omega), rs_t32 (by omega) (by omega)] at e2
  exact h e2
theorem rs_sumX {post : Int32 → Prop} {a b c d : Int} (hB : rs_B a b c d) (H : post (Int32.ofInt (rs_sg a b c d))) : wpX_signOfSum post (Int64.ofInt a) (Int64.ofInt b) (Int64.ofInt c) (Int64.ofInt d) := by
  have hef := rs_ef hB rfl rfl
  obtain ⟨ha, hb, hc, hd⟩ := hB
  unfold wpX_signOfSum
  refine rs_pairX (by omega) (by omega) ?_
  refine rs_pairX (by omega) (by omega) ?_
  have p3 := rs_pr3 a b
  have q3 := rs_pr3 c d
  unfold rs_sg at H
  by_cases h1 : rs_pr a b = rs_pr c d
  · rw [if_pos (Or.inl h1)] at H
    exact br_t (congrArg Int32.ofInt h1) H
  · refine br_f (rs_in32 p3 q3 h1) ?_
    by_cases h2 : rs_pr c d = 0
    · rw [if_pos (Or.inr h2)] at H
      exact br_t (congrArg Int32.ofInt h2) H
    · rw [if_neg (fun g => g.elim h1 h2)] at H
      refine br_f (rs_in32 q3 (Or.inl rfl) h2) ?_
      by_cases h3 : rs_pr a b = 0
      · rw [if_pos h3] at H
        exact br_t (congrArg Int32.ofInt h3) H
      · rw [if_neg h3] at H
        refine br_f (rs_in32 p3 (Or.inl rfl) h3) (fun x ex y ey => ?_)
        have e1 : x = Int64.ofInt (a * a + 2 * (b * b) - 3 * (c * c) - 6 * (d * d)) := by
          have m1 : 2 * b * b = 2 * (b * b) := Int.mul_assoc 2 b b
          have m2 : 3 * c * c = 3 * (c * c) := Int.mul_assoc 3 c c
          have m3 : 6 * d * d = 6 * (d * d) := Int.mul_assoc 6 d d
          rw [ex, ← m1, ← m2, ← m3]
          simp only [Int64.ofInt_add, Int64.ofInt_sub, Int64.ofInt_mul, rs_o2, rs_o3, rs_o6]
        have e2 : y = Int64.ofInt (2 * (a * b) - 6 * (c * d)) := by
          have m1 : 2 * a * b = 2 * (a * b) := Int.mul_assoc 2 a b
          have m2 : 6 * c * d = 6 * (c * d) := Int.mul_assoc 6 c d
          rw [ey, ← m1, ← m2]
          simp only [Int64.ofInt_sub, Int64.ofInt_mul, rs_o2, rs_o6]
        rw [e1, e2]
        refine rs_pairX (by omega) (by omega) ?_
        rw [← Int32.ofInt_mul]
        exact H
theorem rs_oe9 : Int64.ofInt 1000000000 = 1000000000 := rfl
theorem rs_sgY95 {post : Int32 → Prop} {c : Nat → Int32} {M X C : Nat → Int64} {t h l : Int} (e : t = h * 1000000000 + l) (hh : -50000000000000 ≤ h ∧ h ≤ 50000000000000) (hl : -50000000000000 ≤ l ∧ l ≤ 50000000000000) (H1 : 0 < t → post 1) (H2 : ¬ 0 < t → post (-1)) : wY_signOf_95 post (Int64.ofInt (h + l.tdiv 1000000000)) (Int64.ofInt (l.tmod 1000000000)) c M X C := by
  have y := rs_ysg e
  have h1 := Int.tdiv_mul_add_tmod l 1000000000
  have h2 := Int.tmod_lt_of_pos l (show (0 : Int) < 1000000000 by omega)
  have h3 := Int.lt_tmod_of_pos l (show (0 : Int) < 1000000000 by omega)
  generalize l.tdiv 1000000000 = p at *
  generalize l.tmod 1000000000 = q at *
  have hp : rs_S (h + p) := ⟨by omega, by omega⟩
  have hq : rs_S q := ⟨by omega, by omega⟩
  have s1 : rs_S 1 := ⟨by omega, by omega⟩
  have g1 : 0 < Int64.ofInt (h + p) ↔ 0 < h + p := rs_lt64 rs_S0 hp
  have g2 : 0 < Int64.ofInt q ↔ 0 < q := rs_lt64 rs_S0 hq
  have z1 : Int64.ofInt (h + p) = 0 ↔ h + p = 0 := rs_eq64 hp rs_S0
  have o1 : Int64.ofInt (h + p) = 1 ↔ h + p = 1 := rs_eq64 hp s1
  by_cases c1 : 0 < h + p
  · exact br_t (g1.mpr c1) (H1 (y.mp (Or.inl c1)))
  · refine br_f (fun g => c1 (g1.mp g)) ?_
    have k116 : ¬ 0 < t → wY_signOf_116 post (Int64.ofInt (h + p)) (Int64.ofInt q) c M X C := fun ht =>
      br_f (fun g => absurd (o1.mp g) (by omega)) (H2 ht)
    by_cases c2 : h + p = 0
    · refine br_t (z1.mpr c2) ?_
      by_cases c3 : 0 < q
      · exact br_t (g2.mpr c3) (H1 (y.mp (Or.inr (Or.inl ⟨c2, c3⟩))))
      · exact br_f (fun g => c3 (g2.mp g)) (k116 (by omega))
    · exact br_f (fun g => c2 (z1.mp g)) (k116 (by omega))
theorem rs_sgY {post : Int32 → Prop} {c : Nat → Int32} {M X C : Nat → Int64} {a b p d : Int} (hB : rs_B a b p d) (H : post (Int32.ofInt (rs_yv a b p d))) : wpY_signOf post (c, M, X, C) (Int64.ofInt a) (Int64.ofInt b) (Int64.ofInt p) (Int64.ofInt d) := by
  have hh := rs_hlb hB
  have ht := rs_hl a b p d
  obtain ⟨ha, hb, hc, hd⟩ := hB
  have za : Int64.ofInt a = 0 ↔ a = 0 := rs_eq64 ⟨by omega, by omega⟩ rs_S0
  have zb : Int64.ofInt b = 0 ↔ b = 0 := rs_eq64 ⟨by omega, by omega⟩ rs_S0
  have zp : Int64.ofInt p = 0 ↔ p = 0 := rs_eq64 ⟨by omega, by omega⟩ rs_S0
  have zd : Int64.ofInt d = 0 ↔ d = 0 := rs_eq64 ⟨by omega, by omega⟩ rs_S0
  unfold wpY_signOf
  dsimp only
  intro h1 e1 l1 f1
  refine ⟨by decide, fun h2 e2 => ⟨by decide, fun l2 f2 => ?_⟩⟩
  have k1 : h1 = Int64.ofInt (rs_hi a b p d) := by
    rw [e1]
    unfold rs_hi
    simp only [Int64.ofInt_add, Int64.ofInt_mul]
    rfl
  have k2 : l1 = Int64.ofInt (rs_lo b p d) := by
    rw [f1]
    unfold rs_lo
    simp only [Int64.ofInt_add, Int64.ofInt_mul]
    rfl
  have sl : rs_S (rs_lo b p d) := ⟨by omega, by omega⟩
  have s9 : rs_S 1000000000 := ⟨by omega, by omega⟩
  have k3 : h2 = Int64.ofInt (rs_hi a b p d + (rs_lo b p d).tdiv 1000000000) := by
    rw [e2, k1, k2, ← rs_oe9, rs_div64 sl s9, ← Int64.ofInt_add]
  have k4 : l2 = Int64.ofInt ((rs_lo b p d).tmod 1000000000) := by
    rw [f2, k2, ← rs_oe9, rs_rem64 sl s9]
  rw [k3, k4]
  unfold rs_yv at H
  have K : ¬ (a = 0 ∧ b = 0 ∧ p = 0 ∧ d = 0) → wY_signOf_95 post (Int64.ofInt (rs_hi a b p d + (rs_lo b p d).tdiv 1000000000)) (Int64.ofInt ((rs_lo b p d).tmod 1000000000)) c M X C := by
    intro hn
    rw [if_neg hn] at H
    refine rs_sgY95 ht hh.1 hh.2 (fun g => ?_) (fun g => ?_)
    · rw [if_pos g] at H
      exact H
    · rw [if_neg g] at H
      exact H
  by_cases h0 : a = 0
  · refine br_t (za.mpr h0) ?_
    by_cases h1 : b = 0
    · refine br_t (zb.mpr h1) ?_
      by_cases h2 : p = 0
      · refine br_t (zp.mpr h2) ?_
        by_cases h3 : d = 0
        · rw [if_pos ⟨h0, h1, h2, h3⟩] at H
          exact br_t (zd.mpr h3) H
        · exact br_f (fun g => h3 (zd.mp g)) (K (fun g => h3 g.2.2.2))
      · exact br_f (fun g => h2 (zp.mp g)) (K (fun g => h2 g.2.2.1))
    · exact br_f (fun g => h1 (zb.mp g)) (K (fun g => h1 g.2.1))
  · exact br_f (fun g => h0 (za.mp g)) (K (fun g => h0 g.1))
theorem rs_adB {T : Int} {x y : Nat → Int} (hx : rs_ok x) (hy : rs_ok y) (hT : T = 1 ∨ T = -1) : rs_B (rs_add T x y 0) (rs_add T x y 1) (rs_add T x y 2) (rs_add T x y 3) := by
  have b0 := rs_addb hx hy hT (k := 0) (by omega)
  have b1 := rs_addb hx hy hT (k := 1) (by omega)
  have b2 := rs_addb hx hy hT (k := 2) (by omega)
  have b3 := rs_addb hx hy hT (k := 3) (by omega)
  exact ⟨by omega, b1, b2, b3⟩
/-- how register x stands to register y -/
def rs_o (c : Nat → Int32) (x y : Nat) : Int := rs_sg (rs_add (-1) (rs_z c x) (rs_z c y) 0) (rs_add (-1) (rs_z c x) (rs_z c y) 1) (rs_add (-1) (rs_z c x) (rs_z c y) 2) (rs_add (-1) (rs_z c x) (rs_z c y) 3)
theorem rs_orX {post : Int32 → SX → Prop} {c : Nat → Int32} {f s R : Nat → Int64} {x y : Nat} (hc : rs_Rc c) (hx : x < 6) (hy : y < 6) (H : ∀ f s R, post (Int32.ofInt (rs_o c x y)) (c, f, s, R)) : wpX_order post (c, f, s, R) (nI x) (nI y) := by
  unfold wpX_order
  dsimp only
  refine rs_adX hx hy rs_tm1 (fun f' s' R' hL => ?_)
  dsimp only
  rw [hL 0 (by omega), hL 1 (by omega), hL 2 (by omega), hL 3 (by omega)]
  exact rs_sumX (rs_adB (hc x hx) (hc y hy) (Or.inr rfl)) (H f' s' R')
theorem rs_orY {post : Int32 → SY → Prop} {c : Nat → Int32} {M X C : Nat → Int64} {x y : Nat} (hc : rs_Rc c) (hx : x < 6) (hy : y < 6) (H : ∀ M, post (Int32.ofInt (rs_o c x y)) (c, M, X, C)) : wpY_order post (c, M, X, C) (nI x) (nI y) := by
  unfold wpY_order
  dsimp only
  refine rs_cmY hx hy hc rs_tvm1 (Or.inr rfl) (fun M' hL => ?_)
  dsimp only
  rw [hL 0 (by omega), hL 1 (by omega), hL 2 (by omega), hL 3 (by omega)]
  have hB := rs_adB (hc x hx) (hc y hy) (Or.inr (rfl : (-1 : Int) = -1))
  refine rs_sgY hB ?_
  rw [← rs_xy hB]
  exact H M'
end
section
/-! part 12: whole parts, positive conjugates, ranks, degrees: the walks of both sides -/
def rs_p2 : Nat → Int
  | 0 => 1
  | d + 1 => 2 * rs_p2 d
theorem rs_p2p (d : Nat) : 1 ≤ rs_p2 d := by
  induction d with
  | zero => exact Int.le_refl 1
  | succ d ih =>
    show 1 ≤ 2 * rs_p2 d
    omega
theorem rs_shl {e : Nat} (h : e ≤ 10) : (1 : Int32) <<< (nI e &&& 31) = Int32.ofInt (rs_p2 e) := by
  rcases (show e = 0 ∨ e = 1 ∨ e = 2 ∨ e = 3 ∨ e = 4 ∨ e = 5 ∨ e = 6 ∨ e = 7 ∨ e = 8 ∨ e = 9 ∨ e = 10 by omega) with rfl | rfl | rfl | rfl | rfl | rfl | rfl | rfl | rfl | rfl | rfl
  · decide
  · decide
  · decide
  · decide
  · decide
  · decide
  · decide
  · decide
  · decide
  · decide
  · decide
theorem rs_nIt {n : Nat} (h : n < 1000) : (nI n).toInt64 = Int64.ofInt (n : Int) := by
  rw [rs_c64, nI_toInt (by omega)]
theorem rs_ofN (d : Nat) : Int32.ofInt (d : Int) = nI d := Int32.ofInt_eq_ofNat
theorem rs_lt0 {p : Int} (h : -1000 ≤ p ∧ p ≤ 1000) : Int32.ofInt p < 0 ↔ p < 0 := by
  have e : (0 : Int32).toInt = 0 := by decide
  rw [Int32.lt_iff_toInt_lt, rs_t32 (by omega) (by omega), e]
theorem rs_le0 {p : Int} (h : -1000 ≤ p ∧ p ≤ 1000) : Int32.ofInt p ≤ 0 ↔ p ≤ 0 := by
  have e : (0 : Int32).toInt = 0 := by decide
  rw [Int32.le_iff_toInt_le, rs_t32 (by omega) (by omega), e]
theorem rs_eq0 {p : Int} (h : -1000 ≤ p ∧ p ≤ 1000) : Int32.ofInt p = 0 ↔ p = 0 := by
  rw [rs_c0, rs_t32 (by omega) (by omega)]
theorem rs_sgr {a b c d : Int} (hB : rs_B a b c d) : -1000 ≤ rs_sg a b c d ∧ rs_sg a b c d ≤ 1000 := by
  rcases rs_main hB with h | h | h
  · rw [h.1]
    omega
  · rw [h.1]
    omega
  · rw [h.1]
    omega
theorem rs_flXl {post : Int32 → SX → Prop} {c : Nat → Int32} {f s R : Nat → Int64} {n : Nat} {z : Nat → Int} (hn : n ≤ 5) (hz : rs_ok z) (hf : rs_L f z 5) (H : post (Int32.ofInt (rs_F n z)) (c, f, s, R)) : ∀ (d : Nat) (B : Int), d ≤ 11 → -1024 ≤ B → B + rs_p2 d ≤ 1024 → B ≤ rs_F n z → rs_F n z < B + rs_p2 d → wX_floorOfTimes_17 post (nI n) c f s R (d + 1) (Int32.ofInt B) (Int32.ofInt ((d : Int) - 1)) := by
  intro d
  induction d with
  | zero =>
    intro B _ _ _ h3 h4
    have e : B = rs_F n z := by
      have : rs_p2 0 = 1 := rfl
      omega
    rw [e]
    exact br_t (by decide) H
  | succ d ih =>
    intro B hd h1 h2 h3 h4
    have ed : ((d + 1 : Nat) : Int) - 1 = (d : Int) := by omega
    have ep : rs_p2 (d + 1) = 2 * rs_p2 d := rfl
    have hp := rs_p2p d
    rw [ep] at h2 h4
    rw [ed, rs_ofN]
    refine br_f (nI_pos (by omega)) (fun x ex y ey => ?_)
    have ex2 : x = Int32.ofInt (B + rs_p2 d) := by
      rw [ex, rs_shl (by omega), ← Int32.ofInt_add]
    have ex3 : x.toInt64 = Int64.ofInt (B + rs_p2 d) := by
      rw [ex2, rs_c64, rs_t32 (by omega) (by omega)]
    have hB := rs_fB (n := (n : Int)) (f := B + rs_p2 d) (z := z) (by omega) hz (by omega)
    have en := rs_nIt (n := n) (by omega)
    have ey2 : y = Int64.ofInt ((n : Int) * z 0 - (B + rs_p2 d) * z 4) := by
      rw [ey, ex3, en, hf 0 (by omega), hf 4 (by omega), ← Int64.ofInt_mul, ← Int64.ofInt_mul, ← Int64.ofInt_sub]
    rw [ey2, en, hf 1 (by omega), hf 2 (by omega), hf 3 (by omega), ← Int64.ofInt_mul, ← Int64.ofInt_mul, ← Int64.ofInt_mul]
    have em : nI d + (-1) = Int32.ofInt ((d : Int) - 1) := by
      have e1 : (d : Int) - 1 = (d : Int) + (-1) := by omega
      have e2 : Int32.ofInt (-1) = -1 := by decide
      rw [e1, Int32.ofInt_add, e2, rs_ofN]
    have hge := rs_ge hB
    rw [rs_leF hz.2.1] at hge
    have hsr := rs_sgr hB
    refine rs_sumX hB ?_
    by_cases hs : 0 ≤ rs_sg ((n : Int) * z 0 - (B + rs_p2 d) * z 4) ((n : Int) * z 1) ((n : Int) * z 2) ((n : Int) * z 3)
    · refine br_f (fun h => absurd ((rs_lt0 hsr).mp h) (by omega)) (fun j ej => ?_)
      rw [ej, em, ex2]
      have hF := hge.mp hs
      exact ih _ (by omega) (by omega) (by omega) hF (by omega)
    · refine br_t ((rs_lt0 hsr).mpr (by omega)) (fun j ej => ?_)
      rw [ej, em]
      have hF : ¬ B + rs_p2 d ≤ rs_F n z := fun h => hs (hge.mpr h)
      exact ih B (by omega) h1 (by omega) h3 (by omega)
theorem rs_flX {post : Int32 → SX → Prop} {c : Nat → Int32} {f s R : Nat → Int64} {r n : Nat} (hc : rs_Rc c) (hr : r < 6) (hn : n ≤ 5) (H : ∀ f, post (Int32.ofInt (rs_F n (rs_z c r))) (c, f, s, R)) : wpX_floorOfTimes post (c, f, s, R) (nI r) (nI n) := by
  unfold wpX_floorOfTimes
  dsimp only
  refine rs_ldF hr (fun f' hf => ?_)
  dsimp only
  have hF := rs_Fb (n := (n : Int)) (z := rs_z c r) (by omega) (hc r hr)
  have hp : rs_p2 11 = 2048 := by decide
  exact ⟨12, rs_flXl hn (hc r hr) hf (H f') 11 (-1024) (by omega) (by omega) (by omega) hF.1 (by omega)⟩
theorem rs_nm {c : Nat → Int32} {r n k : Nat} (hc : rs_Rc c) (hr : r < 6) (hn : n ≤ 5) (hk : k < 5) : (nI n * c (5 * r + k)).toInt64 = Int64.ofInt ((n : Int) * rs_z c r k) := by
  have b := rs_nz (n := (n : Int)) (by omega) (rs_okb (hc r hr) hk)
  have e1 : (c (5 * r + k)).toInt = rs_z c r k := rfl
  have e2 : (nI n).toInt = (n : Int) := nI_toInt (by omega)
  rw [rs_c64, rs_m32, e1, e2]
  · rw [e1, e2]
    omega
  · rw [e1, e2]
    omega
theorem rs_wpl {post : Int32 → Prop} {c : Nat → Int32} {M X C : Nat → Int64} {r n : Nat} (hc : rs_Rc c) (hr : r < 6) (hn : n ≤ 5) (H : post (Int32.ofInt (rs_F n (rs_z c r)))) : ∀ (m : Nat) (f : Int) (g : Int32), ¬ g < 0 → -1100 ≤ f → f + 1 + m = rs_F n (rs_z c r) → wY_wholePart_7 post (nI r) (nI n) c M X C (m + 2) (Int32.ofInt f) g := by
  have hF := rs_Fb (n := (n : Int)) (z := rs_z c r) (by omega) (hc r hr)
  have hz := hc r hr
  obtain ⟨k1, k2, k3, k4⟩ := rs_clYk hr
  intro m
  induction m with
  | zero =>
    intro f g hg hf he
    refine br_f hg (fun x ex => ⟨rs_inY0 hr, rs_inY (k := 4) hr (by omega), fun y ey => ⟨rs_inY (k := 1) hr (by omega), rs_inY (k := 2) hr (by omega), rs_inY (k := 3) hr (by omega), ?_⟩⟩)
    have ex2 : x = Int32.ofInt (f + 1) := ex.trans (Int32.ofInt_add f 1).symm
    have ex3 : x.toInt64 = Int64.ofInt (f + 1) := by
      rw [ex2, rs_c64, rs_t32 (by omega) (by omega)]
    have ex4 : x.toInt64 + 1 = Int64.ofInt (f + 1 + 1) := by
      rw [ex3]
      exact (Int64.ofInt_add (f + 1) 1).symm
    have ey2 : y = Int64.ofInt ((n : Int) * rs_z c r 0 - (f + 1 + 1) * rs_z c r 4) := by
      rw [ey, ex4, rs_clY0 hr, k4, rs_nm hc hr hn (by omega), rs_ld, ← Int64.ofInt_mul, ← Int64.ofInt_sub]
    rw [ey2, k1, k2, k3, rs_nm hc hr hn (by omega), rs_nm hc hr hn (by omega), rs_nm hc hr hn (by omega)]
    have hB := rs_fB (n := (n : Int)) (f := f + 1 + 1) (z := rs_z c r) (by omega) hz (by omega)
    have hge := rs_ge hB
    rw [rs_leF hz.2.1] at hge
    have hsr := rs_sgr hB
    refine rs_sgY hB ?_
    rw [← rs_xy hB]
    have hs : ¬ 0 ≤ rs_sg ((n : Int) * rs_z c r 0 - (f + 1 + 1) * rs_z c r 4) ((n : Int) * rs_z c r 1) ((n : Int) * rs_z c r 2) ((n : Int) * rs_z c r 3) := fun h => absurd (hge.mp h) (by omega)
    refine br_t ((rs_lt0 hsr).mpr (by omega)) ?_
    rw [ex2]
    have e : f + 1 = rs_F n (rs_z c r) := by omega
    rw [e]
    exact H
  | succ m ih =>
    intro f g hg hf he
    refine br_f hg (fun x ex => ⟨rs_inY0 hr, rs_inY (k := 4) hr (by omega), fun y ey => ⟨rs_inY (k := 1) hr (by omega), rs_inY (k := 2) hr (by omega), rs_inY (k := 3) hr (by omega), ?_⟩⟩)
    have ex2 : x = Int32.ofInt (f + 1) := ex.trans (Int32.ofInt_add f 1).symm
    have ex3 : x.toInt64 = Int64.ofInt (f + 1) := by
      rw [ex2, rs_c64, rs_t32 (by omega) (by omega)]
    have ex4 : x.toInt64 + 1 = Int64.ofInt (f + 1 + 1) := by
      rw [ex3]
      exact (Int64.ofInt_add (f + 1) 1).symm
    have ey2 : y = Int64.ofInt ((n : Int) * rs_z c r 0 - (f + 1 + 1) * rs_z c r 4) := by
      rw [ey, ex4, rs_clY0 hr, k4, rs_nm hc hr hn (by omega), rs_ld, ← Int64.ofInt_mul, ← Int64.ofInt_sub]
    rw [ey2, k1, k2, k3, rs_nm hc hr hn (by omega), rs_nm hc hr hn (by omega), rs_nm hc hr hn (by omega)]
    have hB := rs_fB (n := (n : Int)) (f := f + 1 + 1) (z := rs_z c r) (by omega) hz (by omega)
    have hge := rs_ge hB
    rw [rs_leF hz.2.1] at hge
    have hsr := rs_sgr hB
    refine rs_sgY hB ?_
    rw [← rs_xy hB, ex2]
    have hs : 0 ≤ rs_sg ((n : Int) * rs_z c r 0 - (f + 1 + 1) * rs_z c r 4) ((n : Int) * rs_z c r 1) ((n : Int) * rs_z c r 2) ((n : Int) * rs_z c r 3) := hge.mpr (by omega)
    exact ih (f + 1) _ (fun h => absurd ((rs_lt0 hsr).mp h) (by omega)) (by omega) (by omega)
theorem rs_wpY {post : Int32 → Prop} {c : Nat → Int32} {M X C : Nat → Int64} {r n : Nat} (hc : rs_Rc c) (hr : r < 6) (hn : n ≤ 5) (H : post (Int32.ofInt (rs_F n (rs_z c r)))) : wpY_wholePart post (c, M, X, C) (nI r) (nI n) := by
  have hF := rs_Fb (n := (n : Int)) (z := rs_z c r) (by omega) (hc r hr)
  unfold wpY_wholePart
  dsimp only
  obtain ⟨m, hm⟩ : ∃ m : Nat, (-1100) + 1 + (m : Int) = rs_F n (rs_z c r) := ⟨(rs_F n (rs_z c r) + 1099).toNat, by omega⟩
  exact ⟨m + 2, rs_wpl hc hr hn H m (-1100) 1 (by decide) (by omega) hm⟩
end
section
/-! part 13: positive conjugates, ranks, degrees: the walks of both sides -/
theorem rs_f2r (w : Nat) : rs_f2 w = 1 ∨ rs_f2 w = -1 := by
  unfold rs_f2
  split
  · exact Or.inr rfl
  · exact Or.inl rfl
theorem rs_f3r (w : Nat) : rs_f3 w = 1 ∨ rs_f3 w = -1 := by
  unfold rs_f3
  split
  · exact Or.inr rfl
  · exact Or.inl rfl
theorem rs_f23r (w : Nat) : rs_f2 w * rs_f3 w = 1 ∨ rs_f2 w * rs_f3 w = -1 := by
  rcases rs_f2r w with h | h <;> rcases rs_f3r w with g | g <;> rw [h, g] <;> decide
theorem rs_flr (k w : Nat) : rs_fl k w = 1 ∨ rs_fl k w = -1 := by
  unfold rs_fl
  split
  · exact rs_f2r w
  · split
    · exact rs_f3r w
    · split
      · exact rs_f23r w
      · exact Or.inl rfl
theorem rs_pmb {t x : Int} (ht : t = 1 ∨ t = -1) (hx : -30 ≤ x ∧ x ≤ 30) : -30 ≤ t * x ∧ t * x ≤ 30 := by
  rcases ht with rfl | rfl <;> omega
theorem rs_fm {c : Nat → Int32} {r k w : Nat} (hc : rs_Rc c) (hr : r < 6) (hk : k < 5) : (c (5 * r + k) * Int32.ofInt (rs_fl k w)).toInt = rs_fl k w * rs_z c r k := by
  have b := rs_pmb (rs_flr k w) (rs_okb (hc r hr) hk)
  have b2 := rs_flr k w
  have e1 : (c (5 * r + k)).toInt = rs_z c r k := rfl
  have e2 : (Int32.ofInt (rs_fl k w)).toInt = rs_fl k w := rs_t32 (by omega) (by omega)
  rw [rs_m32, e1, e2, Int.mul_comm]
  · rw [e1, e2, Int.mul_comm]
    omega
  · rw [e1, e2, Int.mul_comm]
    omega
def rs_cz (z : Nat → Int) (w : Nat) : Nat → Int := rs_cj (rs_f2 w) (rs_f3 w) z
theorem rs_czb {z : Nat → Int} (hz : rs_ok z) (w : Nat) {k : Nat} (hk : k < 5) : -30 ≤ rs_cz z w k ∧ rs_cz z w k ≤ 30 := by
  refine rs_co5 (P := fun k => -30 ≤ rs_cz z w k ∧ rs_cz z w k ≤ 30) ?_ ?_ ?_ ?_ ?_ hk
  · exact rs_okb hz (k := 0) (by omega)
  · exact rs_pmb (rs_f2r w) (rs_okb hz (k := 1) (by omega))
  · exact rs_pmb (rs_f3r w) (rs_okb hz (k := 2) (by omega))
  · exact rs_pmb (rs_f23r w) (rs_okb hz (k := 3) (by omega))
  · exact rs_okb hz (k := 4) (by omega)
theorem rs_czB {z : Nat → Int} (hz : rs_ok z) (w : Nat) : rs_B (rs_cz z w 0) (rs_cz z w 1) (rs_cz z w 2) (rs_cz z w 3) := by
  have b0 := rs_czb hz w (k := 0) (by omega)
  have b1 := rs_czb hz w (k := 1) (by omega)
  have b2 := rs_czb hz w (k := 2) (by omega)
  have b3 := rs_czb hz w (k := 3) (by omega)
  exact ⟨by omega, by omega, by omega, by omega⟩
def rs_sp (z : Nat → Int) (w : Nat) : Int := rs_sg (rs_cz z w 0) (rs_cz z w 1) (rs_cz z w 2) (rs_cz z w 3)
def rs_ct (z : Nat → Int) : Nat → Nat
  | 0 => 0
  | w + 1 => if 0 < rs_sp z w then rs_ct z w + 1 else rs_ct z w
theorem rs_poXl {post : Int32 → SX → Prop} {c : Nat → Int32} {s R : Nat → Int64} {r : Nat} (hc : rs_Rc c) (hr : r < 6) (H : ∀ f, post (nI (rs_ct (rs_z c r) 4)) (c, f, s, R)) : ∀ (d w : Nat) (f : Nat → Int64), w + d = 4 → wX_positive_14 post (nI r) (d + 1) (nI (rs_ct (rs_z c r) w)) (nI w) c f s R := by
  intro d
  induction d with
  | zero =>
    intro w f hw
    obtain rfl : w = 4 := by omega
    exact br_t (by decide) (H f)
  | succ d ih =>
    intro w f hw
    refine pk_le 4 w (fun h => absurd h (by omega)) (fun _ => ?_)
    refine rs_ldF hr (fun f1 hf1 => ?_)
    dsimp only
    refine rs_pcF (by omega) hf1 (fun f2 hf2 => ?_)
    dsimp only
    have hB := rs_czB (hc r hr) w
    have hsr := rs_sgr hB
    rw [hf2 0 (by omega), hf2 1 (by omega), hf2 2 (by omega), hf2 3 (by omega)]
    refine rs_sumX hB ?_
    by_cases hs : 0 < rs_sp (rs_z c r) w
    · refine br_f (fun h => absurd ((rs_le0 hsr).mp h) (fun g => absurd hs (Int.not_lt.mpr g))) (fun a ea j ej => ?_)
      rw [ea, ej, nI_1, nI_1]
      have e : rs_ct (rs_z c r) (w + 1) = rs_ct (rs_z c r) w + 1 := if_pos hs
      rw [← e]
      exact ih (w + 1) f2 (by omega)
    · refine br_t ((rs_le0 hsr).mpr (Int.not_lt.mp hs)) (fun j ej => ?_)
      rw [ej, nI_1]
      have e : rs_ct (rs_z c r) (w + 1) = rs_ct (rs_z c r) w := if_neg hs
      rw [← e]
      exact ih (w + 1) f2 (by omega)
theorem rs_poYl {post : Int32 → Prop} {c : Nat → Int32} {M X C : Nat → Int64} {r : Nat} (hc : rs_Rc c) (hr : r < 6) (H : post (nI (rs_ct (rs_z c r) 4))) : ∀ (d w : Nat), w + d = 4 → wY_positive_15 post (nI r) c M X C (d + 1) (nI (rs_ct (rs_z c r) w)) (nI w) := by
  obtain ⟨k1, k2, k3, k4⟩ := rs_clYk hr
  intro d
  induction d with
  | zero =>
    intro w hw
    obtain rfl : w = 4 := by omega
    exact br_t (by decide) H
  | succ d ih =>
    intro w hw
    refine pk_le 4 w (fun h => absurd h (by omega)) (fun _ => ⟨rs_inY (k := 1) hr (by omega), ?_⟩)
    refine rs_flY (k := 1) (by omega) (by omega) (fun p ep => ⟨rs_inY (k := 2) hr (by omega), ?_⟩)
    refine rs_flY (k := 2) (by omega) (by omega) (fun q eq => ⟨rs_inY (k := 3) hr (by omega), ?_⟩)
    refine rs_flY (k := 3) (by omega) (by omega) (fun t et => ⟨rs_inY0 hr, ?_⟩)
    rw [k1] at ep
    rw [k2] at eq
    rw [k3] at et
    have e1 : p.toInt64 = Int64.ofInt (rs_cz (rs_z c r) w 1) := by
      rw [rs_c64, ep, rs_fm hc hr (by omega)]
      rfl
    have e2 : q.toInt64 = Int64.ofInt (rs_cz (rs_z c r) w 2) := by
      rw [rs_c64, eq, rs_fm hc hr (by omega)]
      rfl
    have e3 : t.toInt64 = Int64.ofInt (rs_cz (rs_z c r) w 3) := by
      rw [rs_c64, et, rs_fm hc hr (by omega)]
      rfl
    have e0 : (c (5 * nI r).toNatClampNeg).toInt64 = Int64.ofInt (rs_cz (rs_z c r) w 0) := by
      rw [rs_clY0 hr, rs_ld]
      rfl
    rw [e0, e1, e2, e3]
    have hB := rs_czB (hc r hr) w
    have hsr := rs_sgr hB
    refine rs_sgY hB ?_
    rw [← rs_xy hB]
    by_cases hs : 0 < rs_sp (rs_z c r) w
    · refine br_f (fun h => absurd ((rs_le0 hsr).mp h) (fun g => absurd hs (Int.not_lt.mpr g))) (fun a ea j ej => ?_)
      rw [ea, ej, nI_1, nI_1]
      have e : rs_ct (rs_z c r) (w + 1) = rs_ct (rs_z c r) w + 1 := if_pos hs
      rw [← e]
      exact ih (w + 1) (by omega)
    · refine br_t ((rs_le0 hsr).mpr (Int.not_lt.mp hs)) (fun j ej => ?_)
      rw [ej, nI_1]
      have e : rs_ct (rs_z c r) (w + 1) = rs_ct (rs_z c r) w := if_neg hs
      rw [← e]
      exact ih (w + 1) (by omega)
theorem rs_or1 {c : Nat → Int32} {x y : Nat} (hc : rs_Rc c) (hx : x < 6) (hy : y < 6) : -1000 ≤ rs_o c x y ∧ rs_o c x y ≤ 1000 := rs_sgr (rs_adB (hc x hx) (hc y hy) (Or.inr rfl))
/-- how many of the first s registers stand before register r -/
def rs_cn (c : Nat → Int32) (r : Nat) : Nat → Nat
  | 0 => 0
  | s + 1 => if rs_o c s r < 0 ∨ (rs_o c s r = 0 ∧ s < r) then rs_cn c r s + 1 else rs_cn c r s
theorem rs_cnXl {post : Int32 → SX → Prop} {c : Nat → Int32} {r : Nat} (hc : rs_Rc c) (hr : r < 6) (H : ∀ f s R, post (nI (rs_cn c r 6)) (c, f, s, R)) : ∀ (d i : Nat) (f s R : Nat → Int64), i + d = 6 → wX_countBefore_4 post (nI r) (d + 1) (nI (rs_cn c r i)) (nI i) c f s R := by
  intro d
  induction d with
  | zero =>
    intro i f s R hi
    obtain rfl : i = 6 := by omega
    exact br_t (by decide) (H f s R)
  | succ d ih =>
    intro i f s R hi
    refine pk_le 6 i (fun h => absurd h (by omega)) (fun _ => ?_)
    refine rs_orX hc (by omega) hr (fun f1 s1 R1 => ?_)
    dsimp only
    have b := rs_or1 hc (show i < 6 by omega) hr
    have yes : rs_o c i r < 0 ∨ (rs_o c i r = 0 ∧ i < r) → ∀ a : Int32, a = nI (rs_cn c r i) + 1 → ∀ j : Int32, j = nI i + 1 → wX_countBefore_4 post (nI r) (d + 1) a j c f1 s1 R1 := by
      intro h a ea j ej
      rw [ea, ej, nI_1, nI_1]
      have e : rs_cn c r (i + 1) = rs_cn c r i + 1 := if_pos h
      rw [← e]
      exact ih (i + 1) f1 s1 R1 (by omega)
    have no : ¬ (rs_o c i r < 0 ∨ (rs_o c i r = 0 ∧ i < r)) → ∀ j : Int32, j = nI i + 1 → wX_countBefore_4 post (nI r) (d + 1) (nI (rs_cn c r i)) j c f1 s1 R1 := by
      intro h j ej
      rw [ej, nI_1]
      have e : rs_cn c r (i + 1) = rs_cn c r i := if_neg h
      rw [← e]
      exact ih (i + 1) f1 s1 R1 (by omega)
    by_cases h1 : rs_o c i r < 0
    · exact br_t ((rs_lt0 b).mpr h1) (yes (Or.inl h1))
    · refine br_f (fun g => h1 ((rs_lt0 b).mp g)) ?_
      by_cases h2 : rs_o c i r = 0
      · refine br_t ((rs_eq0 b).mpr h2) (pk_le r i (fun h => ?_) (fun h => ?_))
        · exact no (by omega)
        · exact yes (Or.inr ⟨h2, h⟩)
      · exact br_f (fun g => h2 ((rs_eq0 b).mp g)) (no (by omega))
/-- the first register from i on with rank k -/
def rs_rk (c : Nat → Int32) (k : Int32) : Nat → Nat → Int32
  | 0 => fun _ => -1000000
  | d + 1 => fun i => if nI (rs_cn c i 6) = k then nI i else rs_rk c k d (i + 1)
theorem rs_rkXl {post : Int32 → SX → Prop} {c : Nat → Int32} {k : Int32} (hc : rs_Rc c) : ∀ (d i : Nat) (f s R : Nat → Int64), i + d = 6 → (∀ f s R, post (rs_rk c k d i) (c, f, s, R)) → wX_ranked_15 post k (d + 1) (nI i) c f s R := by
  intro d
  induction d with
  | zero =>
    intro i f s R hi H
    obtain rfl : i = 6 := by omega
    exact br_t (by decide) (H f s R)
  | succ d ih =>
    intro i f s R hi H
    refine pk_le 6 i (fun h => absurd h (by omega)) (fun _ => ?_)
    refine ⟨7, rs_cnXl hc (by omega) (fun f1 s1 R1 => ?_) 6 0 f s R rfl⟩
    dsimp only
    by_cases h : nI (rs_cn c i 6) = k
    · have e : rs_rk c k (d + 1) i = nI i := if_pos h
      rw [e] at H
      exact br_t h (H f1 s1 R1)
    · have e : rs_rk c k (d + 1) i = rs_rk c k d (i + 1) := if_neg h
      rw [e] at H
      refine br_f h (fun j ej => ?_)
      rw [ej, nI_1]
      exact ih (i + 1) f1 s1 R1 (by omega) H
theorem rs_cnYl {post : Int32 → SY → Prop} {J : Int32 → (Nat → Int32) → (Nat → Int64) → (Nat → Int64) → (Nat → Int64) → Prop} {c : Nat → Int32} {X C : Nat → Int64} {k : Int32} {r : Nat} (hc : rs_Rc c) (hr : r < 6) (H1 : ∀ M, nI (rs_cn c r 6) = k → post (nI r) (c, M, X, C)) (H2 : ∀ M, ¬ nI (rs_cn c r 6) = k → J (nI (r + 1)) c M X C) : ∀ (d i : Nat) (M : Nat → Int64), i + d = 6 → wY_ranked_13 post J k (nI r) (d + 1) (nI (rs_cn c r i)) (nI i) c M X C := by
  intro d
  induction d with
  | zero =>
    intro i M hi
    obtain rfl : i = 6 := by omega
    refine br_t (by decide) (br_c (H1 M) (fun h j ej => ?_))
    rw [ej, nI_1]
    exact H2 M h
  | succ d ih =>
    intro i M hi
    refine pk_le 6 i (fun h => absurd h (by omega)) (fun _ => ?_)
    refine rs_orY hc (by omega) hr (fun M1 => ?_)
    dsimp only
    have b := rs_or1 hc (show i < 6 by omega) hr
    have yes : rs_o c i r < 0 ∨ (rs_o c i r = 0 ∧ i < r) → ∀ a : Int32, a = nI (rs_cn c r i) + 1 → ∀ j : Int32, j = nI i + 1 → wY_ranked_13 post J k (nI r) (d + 1) a j c M1 X C := by
      intro h a ea j ej
      rw [ea, ej, nI_1, nI_1]
      have e : rs_cn c r (i + 1) = rs_cn c r i + 1 := if_pos h
      rw [← e]
      exact ih (i + 1) M1 (by omega)
    have no : ¬ (rs_o c i r < 0 ∨ (rs_o c i r = 0 ∧ i < r)) → ∀ j : Int32, j = nI i + 1 → wY_ranked_13 post J k (nI r) (d + 1) (nI (rs_cn c r i)) j c M1 X C := by
      intro h j ej
      rw [ej, nI_1]
      have e : rs_cn c r (i + 1) = rs_cn c r i := if_neg h
      rw [← e]
      exact ih (i + 1) M1 (by omega)
    by_cases h1 : rs_o c i r < 0
    · exact br_t ((rs_lt0 b).mpr h1) (yes (Or.inl h1))
    · refine br_f (fun g => h1 ((rs_lt0 b).mp g)) ?_
      by_cases h2 : rs_o c i r = 0
      · refine br_t ((rs_eq0 b).mpr h2) (pk_le r i (fun h => ?_) (fun h => ?_))
        · exact no (by omega)
        · exact yes (Or.inr ⟨h2, h⟩)
      · exact br_f (fun g => h2 ((rs_eq0 b).mp g)) (no (by omega))
theorem rs_rkYl {post : Int32 → SY → Prop} {c : Nat → Int32} {X C : Nat → Int64} {k : Int32} (hc : rs_Rc c) : ∀ (d i : Nat) (M : Nat → Int64), i + d = 6 → (∀ M, post (rs_rk c k d i) (c, M, X, C)) → wY_ranked_2 post k (d + 1) (nI i) c M X C := by
  intro d
  induction d with
  | zero =>
    intro i M hi H
    obtain rfl : i = 6 := by omega
    exact br_t (by decide) (H M)
  | succ d ih =>
    intro i M hi H
    refine pk_le 6 i (fun h => absurd h (by omega)) (fun _ => ⟨7, ?_⟩)
    refine rs_cnYl hc (by omega) (fun M1 h => ?_) (fun M1 h => ?_) 6 0 M rfl
    · have e : rs_rk c k (d + 1) i = nI i := if_pos h
      rw [e] at H
      exact H M1
    · have e : rs_rk c k (d + 1) i = rs_rk c k d (i + 1) := if_neg h
      rw [e] at H
      exact ih (i + 1) M1 (by omega) H
theorem rs_ad0 (z : Nat → Int) {k : Nat} (hk : k < 4) : rs_add (-1) z z k = 0 := by
  have e : rs_add (-1) z z k = z k * z 4 + -1 * z k * z 4 := if_pos hk
  rw [e]
  grind
theorem rs_oo (c : Nat → Int32) (r : Nat) : rs_o c r r = 0 := by
  unfold rs_o
  rw [rs_ad0 _ (by omega), rs_ad0 _ (by omega), rs_ad0 _ (by omega), rs_ad0 _ (by omega)]
  decide
theorem rs_cnle (c : Nat → Int32) (r : Nat) : ∀ s, rs_cn c r s ≤ s ∧ (r < s → rs_cn c r s + 1 ≤ s) := by
  intro s
  induction s with
  | zero => exact ⟨Nat.le_refl 0, fun h => absurd h (by omega)⟩
  | succ s ih =>
    by_cases h : rs_o c s r < 0 ∨ (rs_o c s r = 0 ∧ s < r)
    · have e : rs_cn c r (s + 1) = rs_cn c r s + 1 := if_pos h
      rw [e]
      refine ⟨by omega, fun hs => ?_⟩
      have hne : s ≠ r := by
        intro hsr
        rw [hsr, rs_oo] at h
        omega
      have := ih.2 (by omega)
      omega
    · have e : rs_cn c r (s + 1) = rs_cn c r s := if_neg h
      rw [e]
      exact ⟨by omega, fun hs => by omega⟩
theorem rs_rkb {c : Nat → Int32} {k : Int32} (hk : ∀ j : Nat, j < 6 → ¬ nI j = k) : ∀ (d i : Nat), i + d = 6 → rs_rk c k d i = -1000000 := by
  intro d
  induction d with
  | zero => intro i _; rfl
  | succ d ih =>
    intro i hi
    have b := (rs_cnle c i 6).2 (by omega)
    have e : rs_rk c k (d + 1) i = rs_rk c k d (i + 1) := if_neg (hk _ (by omega))
    rw [e]
    exact ih (i + 1) (by omega)
end
section
/-! part 14: degrees, norms: the walks of both sides -/
def rs_b3 (b1 b2 b3 : Bool) : Nat → Bool
  | 1 => b1
  | 2 => b2
  | 3 => b3
  | _ => false
/-- the same in place k -/
def rs_sk (b : Bool) (k w1 w2 : Nat) : Bool := !b || decide (rs_fl k w1 = rs_fl k w2)
def rs_smt (b : Nat → Bool) (w1 w2 : Nat) : Nat → Nat → Bool
  | 0 => fun _ => true
  | d + 1 => fun k => rs_sk (b k) k w1 w2 && rs_smt b w1 w2 d (k + 1)
/-- fresh among the first j -/
def rs_fr (b : Nat → Bool) (w : Nat) : Nat → Bool
  | 0 => true
  | j + 1 => rs_fr b w j && !(rs_smt b w j 3 1)
def rs_dg (b : Nat → Bool) : Nat → Nat
  | 0 => 0
  | w + 1 => if rs_fr b w w = true then rs_dg b w + 1 else rs_dg b w
def rs_rt (b : Nat → Bool) : Nat → Nat → Nat → Nat
  | 0 => fun _ n => n
  | d + 1 => fun k n => rs_rt b d (k + 1) (if b k = true then n + 1 else n)
def rs_dx (n : Nat) : Nat := if n = 0 then 1 else if n = 1 then 2 else 4
theorem rs_dgx : ∀ b1 b2 b3 : Bool, rs_dg (rs_b3 b1 b2 b3) 4 = rs_dx (rs_rt (rs_b3 b1 b2 b3) 3 1 0) := by decide
def rs_bz (z : Nat → Int) : Nat → Bool := rs_b3 (decide (z 1 ≠ 0)) (decide (z 2 ≠ 0)) (decide (z 3 ≠ 0))
theorem rs_bzk {z : Nat → Int} {k : Nat} (h1 : 1 ≤ k) (h2 : k < 4) : rs_bz z k = decide (z k ≠ 0) := by
  rcases (show k = 1 ∨ k = 2 ∨ k = 3 by omega) with rfl | rfl | rfl
  · rfl
  · rfl
  · rfl
theorem rs_dgXl {post : Int32 → Prop} {c : Nat → Int32} {f s R : Nat → Int64} {r : Nat} (hr : r < 6) : ∀ (d k n : Nat), k + d = 4 → 1 ≤ k → n ≤ k → post (nI (rs_dx (rs_rt (rs_bz (rs_z c r)) d k n))) → wX_degree_14 post (nI r) c f s R (d + 1) (nI n) (nI k) := by
  intro d
  induction d with
  | zero =>
    intro k n hk _ hn H
    obtain rfl : k = 4 := by omega
    refine br_t (by decide) (pk_eq n 0 (fun h => ?_) (fun h => pk_eq n 1 (fun g => ?_) (fun g => ?_)))
    · have e : rs_dx n = 1 := if_pos h
      have H' : post (nI (rs_dx n)) := H
      rw [e] at H'
      exact H'
    · have e : rs_dx n = 2 := by
        unfold rs_dx
        rw [if_neg h, if_pos g]
      have H' : post (nI (rs_dx n)) := H
      rw [e] at H'
      exact H'
    · have e : rs_dx n = 4 := by
        unfold rs_dx
        rw [if_neg h, if_neg g]
      have H' : post (nI (rs_dx n)) := H
      rw [e] at H'
      exact H'
  | succ d ih =>
    intro k n hk h1 hn H
    have e : rs_rt (rs_bz (rs_z c r)) (d + 1) k n = rs_rt (rs_bz (rs_z c r)) d (k + 1) (if rs_bz (rs_z c r) k = true then n + 1 else n) := rfl
    rw [e, rs_bzk h1 (by omega)] at H
    have ez : c (5 * r + k) = 0 ↔ rs_z c r k = 0 := rs_c0 _
    refine pk_le 4 k (fun h => absurd h (by omega)) (fun _ => ⟨rs_inX hr (by omega), ?_⟩)
    rw [rs_clX hr (by omega)]
    by_cases h : rs_z c r k = 0
    · refine br_t (ez.mpr h) (fun j ej => ?_)
      rw [ej, nI_1]
      rw [if_neg (by rw [decide_eq_true_eq]; exact fun g => g h)] at H
      exact ih (k + 1) n (by omega) (by omega) (by omega) H
    · refine br_f (fun g => h (ez.mp g)) (fun a ea j ej => ?_)
      rw [ea, ej, nI_1, nI_1]
      rw [if_pos (by rw [decide_eq_true_eq]; exact h)] at H
      exact ih (k + 1) (n + 1) (by omega) (by omega) (by omega) H
theorem rs_ske {z a b : Int} (ha : a = 1 ∨ a = -1) (hb : b = 1 ∨ b = -1) : a * z = b * z ↔ (z = 0 ∨ a = b) := by
  rcases ha with rfl | rfl <;> rcases hb with rfl | rfl <;> omega
theorem rs_isYl {post : Int32 → Prop} {c : Nat → Int32} {M X C : Nat → Int64} {r w1 w2 : Nat} (hc : rs_Rc c) (hr : r < 6) (h1 : w1 < 4) (h2 : w2 < 4) : ∀ (d k : Nat), k + d = 4 → 1 ≤ k → post (if rs_smt (rs_bz (rs_z c r)) w1 w2 d k = true then 1 else 0) → wY_isSame_3 post (nI r) (nI w1) (nI w2) c M X C (d + 1) (nI k) := by
  intro d
  induction d with
  | zero =>
    intro k hk _ H
    obtain rfl : k = 4 := by omega
    exact br_t (by decide) H
  | succ d ih =>
    intro k hk hk1 H
    refine pk_le 4 k (fun h => absurd h (by omega)) (fun _ => ⟨rs_inY hr (by omega), ?_⟩)
    refine rs_flY (by omega) h1 ⟨rs_inY hr (by omega), ?_⟩
    refine rs_flY (by omega) h2 ?_
    rw [rs_clY hr (by omega)]
    have es : rs_smt (rs_bz (rs_z c r)) w1 w2 (d + 1) k = (rs_sk (rs_bz (rs_z c r) k) k w1 w2 && rs_smt (rs_bz (rs_z c r)) w1 w2 d (k + 1)) := rfl
    rw [es, rs_bzk hk1 (by omega)] at H
    have et : (c (5 * r + k) * Int32.ofInt (rs_fl k w1) = c (5 * r + k) * Int32.ofInt (rs_fl k w2)) ↔ (rs_z c r k = 0 ∨ rs_fl k w1 = rs_fl k w2) := by
      rw [← Int32.toInt_inj, rs_fm hc hr (by omega), rs_fm hc hr (by omega)]
      exact rs_ske (rs_flr k w1) (rs_flr k w2)
    have ek : rs_sk (decide (rs_z c r k ≠ 0)) k w1 w2 = true ↔ (rs_z c r k = 0 ∨ rs_fl k w1 = rs_fl k w2) := by
      unfold rs_sk
      by_cases g1 : rs_z c r k = 0
      · simp [g1]
      · simp [g1]
    by_cases g : rs_z c r k = 0 ∨ rs_fl k w1 = rs_fl k w2
    · refine br_t (et.mpr g) (fun j ej => ?_)
      rw [ej, nI_1]
      rw [ek.mpr g, Bool.true_and] at H
      exact ih (k + 1) (by omega) (by omega) H
    · refine br_f (fun h => g (et.mp h)) ?_
      have ef : rs_sk (decide (rs_z c r k ≠ 0)) k w1 w2 = false := by
        cases hb : rs_sk (decide (rs_z c r k ≠ 0)) k w1 w2
        · rfl
        · exact absurd (ek.mp hb) g
      rw [ef, Bool.false_and] at H
      exact H
theorem rs_isY {post : Int32 → Prop} {c : Nat → Int32} {M X C : Nat → Int64} {r w1 w2 : Nat} (hc : rs_Rc c) (hr : r < 6) (h1 : w1 < 4) (h2 : w2 < 4) (H : post (if rs_smt (rs_bz (rs_z c r)) w1 w2 3 1 = true then 1 else 0)) : wpY_isSame post (c, M, X, C) (nI r) (nI w1) (nI w2) :=
  ⟨4, rs_isYl hc hr h1 h2 3 1 rfl (by omega) H⟩
def rs_bi (b : Bool) : Int32 := if b = true then 1 else 0
theorem rs_dg26 {post : Int32 → Prop} {J : Int32 → Int32 → Prop} {c : Nat → Int32} {M X C : Nat → Int64} {r w : Nat} {x2 : Int32} (hc : rs_Rc c) (hr : r < 6) (hw : w < 4) (H0 : rs_fr (rs_bz (rs_z c r)) w w = false → J x2 (nI (w + 1))) (H1 : rs_fr (rs_bz (rs_z c r)) w w = true → J (x2 + 1) (nI (w + 1))) : ∀ (d j : Nat), j + d = w → wY_degree_26 post J (nI r) x2 (nI w) c M X C (d + 1) (rs_bi (rs_fr (rs_bz (rs_z c r)) w j)) (nI j) := by
  intro d
  induction d with
  | zero =>
    intro j hj
    obtain rfl : j = w := by omega
    refine pk_le j j (fun _ => ?_) (fun h => absurd h (by omega))
    cases hb : rs_fr (rs_bz (rs_z c r)) j j
    · refine br_t (by decide) (fun a ea => ?_)
      rw [ea, nI_1]
      exact H0 hb
    · refine br_f (by decide) (fun b eb a ea => ?_)
      rw [ea, eb, nI_1]
      exact H1 hb
  | succ d ih =>
    intro j hj
    refine pk_le w j (fun h => absurd h (by omega)) (fun _ => ?_)
    have IH := ih (j + 1) (by omega)
    have ef : rs_fr (rs_bz (rs_z c r)) w (j + 1) = (rs_fr (rs_bz (rs_z c r)) w j && !(rs_smt (rs_bz (rs_z c r)) w j 3 1)) := rfl
    rw [ef] at IH
    cases hb : rs_fr (rs_bz (rs_z c r)) w j
    · rw [hb, Bool.false_and] at IH
      refine br_t (by decide) (fun a ea => ?_)
      rw [ea, nI_1]
      exact IH
    · rw [hb, Bool.true_and] at IH
      refine br_f (by decide) ?_
      refine rs_isY hc hr hw (by omega) ?_
      cases hs : rs_smt (rs_bz (rs_z c r)) w j 3 1
      · rw [hs] at IH
        refine br_t (by decide) (fun a ea => ?_)
        rw [ea, nI_1]
        exact IH
      · rw [hs] at IH
        refine br_f (by decide) (fun a ea => ?_)
        rw [ea, nI_1]
        exact IH
theorem rs_dg15 {post : Int32 → Prop} {c : Nat → Int32} {M X C : Nat → Int64} {r : Nat} (hc : rs_Rc c) (hr : r < 6) (H : post (nI (rs_dg (rs_bz (rs_z c r)) 4))) : ∀ (d w : Nat), w + d = 4 → wY_degree_15 post (nI r) c M X C (d + 1) (nI (rs_dg (rs_bz (rs_z c r)) w)) (nI w) := by
  intro d
  induction d with
  | zero =>
    intro w hw
    obtain rfl : w = 4 := by omega
    exact br_t (by decide) H
  | succ d ih =>
    intro w hw
    have IH := ih (w + 1) (by omega)
    have ef : rs_dg (rs_bz (rs_z c r)) (w + 1) = if rs_fr (rs_bz (rs_z c r)) w w = true then rs_dg (rs_bz (rs_z c r)) w + 1 else rs_dg (rs_bz (rs_z c r)) w := rfl
    rw [ef] at IH
    refine pk_le 4 w (fun h => absurd h (by omega)) (fun _ => ⟨w + 1, ?_⟩)
    refine rs_dg26 hc hr (by omega) (fun h => ?_) (fun h => ?_) w 0 (by omega)
    · rw [h, if_neg (by decide)] at IH
      exact IH
    · rw [h, if_pos rfl] at IH
      rw [nI_1]
      exact IH
end
section
/-! part 15: the relation; what each operation asks of the reference -/
def i_Rel (k : Nat) (u : SX) (v : SY) : Prop := ∃ (c : Nat → Int32) (f s R M X C : Nat → Int64), u = (c, f, s, R) ∧ v = (c, M, X, C) ∧ rs_Rc c
theorem rs_rel {k : Nat} {c : Nat → Int32} {f s R M X C : Nat → Int64} (h : rs_Rc c) : i_Rel k (c, f, s, R) (c, M, X, C) := ⟨c, f, s, R, M, X, C, rfl, rfl, h⟩
theorem rs_gtof {n : Nat} {x : Int32} (hn : n + 1 < 2 ^ 31) (h : nI (n + 1) ≤ x) : nI n < x := by
  rw [Int32.lt_iff_toInt_lt, nI_toInt (by omega)]
  rw [Int32.le_iff_toInt_le, nI_toInt hn] at h
  omega
/-- an argument: below 0, from n on, or one of 0 to n - 1 -/
theorem rs_rng (x : Int32) {n : Nat} (hn : n < 2 ^ 31) : x < 0 ∨ (¬ x < 0 ∧ nI n ≤ x) ∨ ∃ j : Nat, j < n ∧ x = nI j := by
  by_cases h0 : x < 0
  · exact Or.inl h0
  · rcases pk_ix x hn with h | h | h
    · exact absurd h h0
    · exact Or.inr (Or.inl ⟨h0, h⟩)
    · exact Or.inr (Or.inr h)
theorem rs_v32 (x : Int32) : rs_S x.toInt := by
  have h1 := x.toInt_lt
  have h2 := x.le_toInt
  exact ⟨by omega, by omega⟩
theorem rs_m30 (x : Int32) : x < -30 ↔ x.toInt < -30 := by
  have e : (-30 : Int32).toInt = -30 := by decide
  rw [Int32.lt_iff_toInt_lt, e]
theorem rs_p30 (x : Int32) : x ≤ 30 ↔ x.toInt ≤ 30 := by
  have e : (30 : Int32).toInt = 30 := by decide
  rw [Int32.le_iff_toInt_le, e]
theorem rs_sS {z : Nat → Int} {K : Int} (hK : K ≤ 4000000000000000000) (h : ∀ k, k < 5 → -K ≤ z k ∧ z k ≤ K) : ∀ k, k < 5 → rs_S (z k) := fun k hk => by
  have h1 := h k hk
  exact ⟨by omega, by omega⟩
theorem rs_addS {T : Int} {x y : Nat → Int} (hx : rs_ok x) (hy : rs_ok y) (hT : T = 1 ∨ T = -1) : ∀ k, k < 5 → rs_S (rs_add T x y k) :=
  rs_sS (K := 1800) (by omega) (fun _ hk => rs_addb hx hy hT hk)
theorem rs_add40 {T : Int} {x y : Nat → Int} (hx : rs_ok x) (hy : rs_ok y) : rs_add T x y 4 ≠ 0 := by
  have h := rs_add4 (t := T) hx hy
  omega
theorem rs_mulS {x y : Nat → Int} (hx : rs_ok x) (hy : rs_ok y) : ∀ k, k < 5 → rs_S (rs_mul x y k) :=
  rs_sS (K := 10800) (by omega) (fun _ hk => rs_mulb 30 (fun _ h => rs_okb hx h) (fun _ h => rs_okb hy h) hk)
theorem rs_mul40 {x y : Nat → Int} (hx : rs_ok x) (hy : rs_ok y) : rs_mul x y 4 ≠ 0 := by
  have h : 1 ≤ rs_mul x y 4 := rs_pos11 hx.2.1 hy.2.1
  omega
theorem rs_divS {x y : Nat → Int} (hx : rs_ok x) (hy : rs_ok y) : ∀ k, k < 5 → rs_S (rs_mul x (rs_inv y) k) :=
  rs_sS (K := 108000000000) (by omega) (fun _ hk => rs_mulb 300000000 (fun _ h => rs_okb hx h) (fun _ h => rs_invb (fun _ g => rs_okb hy g) h) hk)
theorem rs_div40 {x y : Nat → Int} (hx : rs_ok x) (hy : ¬ rs_0 y) : rs_mul x (rs_inv y) 4 ≠ 0 := by
  have h : rs_mul x (rs_inv y) 4 = x 4 * rs_N y := rfl
  rw [h]
  intro h0
  rcases Int.mul_eq_zero.mp h0 with g | g
  · have := hx.2.1
    omega
  · exact rs_N0 hy g
theorem rs_addY {post : Int32 → SY → Prop} {c : Nat → Int32} {M X C : Nat → Int64} {r x y : Nat} (hc : rs_Rc c) (hr : r < 6) (hx : x < 6) (hy : y < 6) (H1 : ∀ M, (∀ k, k < 5 → rs_w (rs_q (rs_add 1 (rs_z c x) (rs_z c y)) k)) → post 0 (rs_st c r (rs_q (rs_add 1 (rs_z c x) (rs_z c y))) 5, M, X, C)) (H2 : ∀ M, ¬ (∀ k, k < 5 → rs_w (rs_q (rs_add 1 (rs_z c x) (rs_z c y)) k)) → post (-2000000) (c, M, X, C)) : wpY_add post (c, M, X, C) (nI r) (nI x) (nI y) := by
  unfold wpY_add
  dsimp only
  refine rs_areY1 hr hx hy (br_f rs_1n0 ?_)
  refine rs_cmY hx hy hc rs_tv1 (Or.inl rfl) (fun M' hL => ?_)
  dsimp only
  exact rs_take hr hL (rs_addS (hc x hx) (hc y hy) (Or.inl rfl)) (rs_add40 (hc x hx) (hc y hy)) H1 H2
theorem rs_subY {post : Int32 → SY → Prop} {c : Nat → Int32} {M X C : Nat → Int64} {r x y : Nat} (hc : rs_Rc c) (hr : r < 6) (hx : x < 6) (hy : y < 6) (H1 : ∀ M, (∀ k, k < 5 → rs_w (rs_q (rs_add (-1) (rs_z c x) (rs_z c y)) k)) → post 0 (rs_st c r (rs_q (rs_add (-1) (rs_z c x) (rs_z c y))) 5, M, X, C)) (H2 : ∀ M, ¬ (∀ k, k < 5 → rs_w (rs_q (rs_add (-1) (rs_z c x) (rs_z c y)) k)) → post (-2000000) (c, M, X, C)) : wpY_subtract post (c, M, X, C) (nI r) (nI x) (nI y) := by
  unfold wpY_subtract
  dsimp only
  refine rs_areY1 hr hx hy (br_f rs_1n0 ?_)
  refine rs_cmY hx hy hc rs_tvm1 (Or.inr rfl) (fun M' hL => ?_)
  dsimp only
  exact rs_take hr hL (rs_addS (hc x hx) (hc y hy) (Or.inr rfl)) (rs_add40 (hc x hx) (hc y hy)) H1 H2
theorem rs_mulY {post : Int32 → SY → Prop} {c : Nat → Int32} {M X C : Nat → Int64} {r x y : Nat} (hc : rs_Rc c) (hr : r < 6) (hx : x < 6) (hy : y < 6) (H1 : ∀ M X, (∀ k, k < 5 → rs_w (rs_q (rs_mul (rs_z c x) (rs_z c y)) k)) → post 0 (rs_st c r (rs_q (rs_mul (rs_z c x) (rs_z c y))) 5, M, X, C)) (H2 : ∀ M X, ¬ (∀ k, k < 5 → rs_w (rs_q (rs_mul (rs_z c x) (rs_z c y)) k)) → post (-2000000) (c, M, X, C)) : wpY_multiply post (c, M, X, C) (nI r) (nI x) (nI y) := by
  unfold wpY_multiply
  dsimp only
  refine rs_areY1 hr hx hy (br_f rs_1n0 ?_)
  refine rs_prY hx hy hc (fun M' X' hL => ?_)
  dsimp only
  exact rs_take hr hL (rs_mulS (hc x hx) (hc y hy)) (rs_mul40 (hc x hx) (hc y hy)) (fun M h => H1 M X' h) (fun M h => H2 M X' h)
theorem rs_divY {post : Int32 → SY → Prop} {c : Nat → Int32} {M X C : Nat → Int64} {r x y : Nat} (hc : rs_Rc c) (hr : r < 6) (hx : x < 6) (hy : y < 6) (h0 : ¬ rs_0 (rs_z c y)) (H1 : ∀ M X C, (∀ k, k < 5 → rs_w (rs_q (rs_mul (rs_z c x) (rs_inv (rs_z c y))) k)) → post 0 (rs_st c r (rs_q (rs_mul (rs_z c x) (rs_inv (rs_z c y)))) 5, M, X, C)) (H2 : ∀ M X C, ¬ (∀ k, k < 5 → rs_w (rs_q (rs_mul (rs_z c x) (rs_inv (rs_z c y))) k)) → post (-2000000) (c, M, X, C)) : wpY_divide post (c, M, X, C) (nI r) (nI x) (nI y) := by
  unfold wpY_divide
  dsimp only
  refine rs_areY1 hr hx hy (br_f rs_1n0 ?_)
  refine rs_izY hy (fun h => absurd h h0) (fun _ => br_t rfl ?_)
  refine rs_smY hy (fun X' hX => ?_)
  dsimp only
  refine rs_deY (n := 4) hx (by omega) hX (fun C' => ?_)
  dsimp only
  rw [rs_detN]
  refine ⟨5, rs_dvl hx hy hX (fun M1 C1 hL => ?_) 4 0 M C' rfl (rs_L0 _ _)⟩
  exact rs_take hr hL (rs_divS (hc x hx) (hc y hy)) (rs_div40 (hc x hx) h0) (fun M h => H1 M X' C1 h) (fun M h => H2 M X' C1 h)
theorem rs_divY0 {post : Int32 → SY → Prop} {c : Nat → Int32} {M X C : Nat → Int64} {r x y : Nat} (hr : r < 6) (hx : x < 6) (hy : y < 6) (h0 : rs_0 (rs_z c y)) (H : post (-3000000) (c, M, X, C)) : wpY_divide post (c, M, X, C) (nI r) (nI x) (nI y) := by
  unfold wpY_divide
  dsimp only
  refine rs_areY1 hr hx hy (br_f rs_1n0 ?_)
  exact rs_izY hy (fun _ => br_f rs_1n0 H) (fun h => absurd h0 h)
/-- register z with x in place k -/
def rs_pz (z : Nat → Int) (k : Nat) (x : Int) : Nat → Int := fun j => if j = k then x else z j
theorem rs_pzL {w : Nat → Int64} {z : Nat → Int} {k : Nat} {x : Int} (h : rs_L w z 5) : rs_L (vp_updL w k (Int64.ofInt x)) (rs_pz z k x) 5 := by
  intro j hj
  unfold vp_updL rs_pz
  by_cases e : j = k
  · rw [if_pos e, if_pos e]
  · rw [if_neg e, if_neg e]
    exact h j hj
theorem rs_pzS {z : Nat → Int} {k : Nat} {x : Int} (hz : rs_ok z) (hx : rs_w x) : ∀ j, j < 5 → rs_S (rs_pz z k x j) :=
  rs_sS (K := 30) (by omega) (fun j hj => by
    unfold rs_pz
    by_cases e : j = k
    · rw [if_pos e]
      exact hx
    · rw [if_neg e]
      exact rs_okb hz hj)
theorem rs_pz4 {z : Nat → Int} {k : Nat} {x : Int} (hz : rs_ok z) (hk : k < 4) : rs_pz z k x 4 ≠ 0 := by
  have e : rs_pz z k x 4 = z 4 := if_neg (by omega)
  have h := hz.2.1
  rw [e]
  omega
theorem rs_putY {post : Int32 → SY → Prop} {c : Nat → Int32} {M X C : Nat → Int64} {r k : Nat} {x : Int32} (hc : rs_Rc c) (hr : r < 6) (hk : k < 4) (hw : rs_w x.toInt) (H1 : ∀ M, (∀ j, j < 5 → rs_w (rs_q (rs_pz (rs_z c r) k x.toInt) j)) → post (rs_st c r (rs_q (rs_pz (rs_z c r) k x.toInt)) 5 (5 * r + 4)) (rs_st c r (rs_q (rs_pz (rs_z c r) k x.toInt)) 5, M, X, C)) (H2 : ∀ M, ¬ (∀ j, j < 5 → rs_w (rs_q (rs_pz (rs_z c r) k x.toInt) j)) → post (c (5 * r + 4)) (c, M, X, C)) : wpY_put post (c, M, X, C) (nI r) (nI k) x := by
  unfold wpY_put
  dsimp only
  have k4 : (5 * nI r + 4).toNatClampNeg = 5 * r + 4 := rs_clY (k := 4) hr (by omega)
  refine rs_regY1 hr (br_f rs_1n0 (br_f (nI_pos (by omega)) (pk_lt 3 k (fun h => absurd h (by omega)) (fun _ => ?_))))
  refine br_f (fun h => absurd ((rs_m30 x).mp h) (by have := hw.1; omega)) (br_t ((rs_p30 x).mpr hw.2) ?_)
  refine rs_ldM hr (fun M' hL => ?_)
  dsimp only
  refine ⟨vp_in_nI (by omega) (by omega), fun a ea => ?_⟩
  rw [ea, nI_clamp (by omega), rs_c64]
  refine rs_take hr (rs_pzL hL) (rs_pzS (hc r hr) hw) (rs_pz4 (hc r hr) hk) (fun M1 h => ⟨rs_inY (k := 4) hr (by omega), ?_⟩) (fun M1 h => ⟨rs_inY (k := 4) hr (by omega), ?_⟩)
  · rw [k4]
    exact H1 M1 h
  · rw [k4]
    exact H2 M1 h
/-- a whole number as a register -/
def rs_wz (x : Int) : Nat → Int
  | 0 => x
  | 4 => 1
  | _ => 0
theorem rs_wzG (x : Int) : rs_G (rs_wz x) = 1 := by
  show Nat.gcd (Nat.gcd (Nat.gcd (Nat.gcd (1 : Int).natAbs x.natAbs) (0 : Int).natAbs) (0 : Int).natAbs) (0 : Int).natAbs = 1
  have e1 : (1 : Int).natAbs = 1 := rfl
  have e0 : (0 : Int).natAbs = 0 := rfl
  rw [e1, e0, Nat.gcd_one_left, Nat.gcd_zero_right, Nat.gcd_zero_right, Nat.gcd_zero_right]
theorem rs_wzq (x : Int) : rs_q (rs_wz x) = rs_wz x := by
  funext k
  exact rs_qid (rs_wzG x) (show (0 : Int) < 1 by decide) k
theorem rs_w0 : rs_w 0 := ⟨by decide, by decide⟩
theorem rs_w1 : rs_w 1 := ⟨by decide, by decide⟩
theorem rs_wzb {x : Int} (hx : rs_w x) {k : Nat} (hk : k < 5) : rs_w (rs_wz x k) := by
  refine rs_co5 (P := fun k => rs_w (rs_wz x k)) hx ?_ ?_ ?_ ?_ hk
  · exact rs_w0
  · exact rs_w0
  · exact rs_w0
  · exact rs_w1
theorem rs_whYl {post : Int32 → SY → Prop} {c : Nat → Int32} {M X C : Nat → Int64} {r : Nat} {x : Int32} (hr : r < 6) (H : post 0 (rs_st c r (rs_wz x.toInt) 5, M, X, C)) : ∀ (d i : Nat), i + d = 5 → wY_whole_25 post (nI r) x (d + 1) (nI i) (rs_st c r (rs_wz x.toInt) i) M X C := by
  intro d
  induction d with
  | zero =>
    intro i hi
    obtain rfl : i = 5 := by omega
    exact br_t (by decide) H
  | succ d ih =>
    intro i hi
    refine pk_le 5 i (fun h => absurd h (by omega)) (fun _ => ?_)
    have IH := ih (i + 1) (by omega)
    rw [← rs_sts] at IH
    refine pk_eq i 0 (fun h => ⟨rs_inY hr (by omega), fun a ea j ej => ?_⟩) (fun h => pk_eq i 4 (fun g => ⟨rs_inY hr (by omega), fun a ea j ej => ?_⟩) (fun g => ⟨rs_inY hr (by omega), fun a ea j ej => ?_⟩))
    · rw [ej, nI_1, ea, rs_clY hr (by omega)]
      have e : Int32.ofInt (rs_wz x.toInt i) = x := by
        rw [h]
        exact Int32.ofInt_toInt x
      rw [e] at IH
      exact IH
    · rw [ej, nI_1, ea, rs_clY hr (by omega)]
      have e : Int32.ofInt (rs_wz x.toInt i) = 1 := by
        rw [g]
        exact (by decide : Int32.ofInt 1 = 1)
      rw [e] at IH
      exact IH
    · rw [ej, nI_1, ea, rs_clY hr (by omega)]
      have e : Int32.ofInt (rs_wz x.toInt i) = 0 := by
        rcases (show i = 1 ∨ i = 2 ∨ i = 3 by omega) with rfl | rfl | rfl
        · exact (by decide : Int32.ofInt 0 = 0)
        · exact (by decide : Int32.ofInt 0 = 0)
        · exact (by decide : Int32.ofInt 0 = 0)
      rw [e] at IH
      exact IH
theorem rs_whY {post : Int32 → SY → Prop} {c : Nat → Int32} {M X C : Nat → Int64} {r : Nat} {x : Int32} (hr : r < 6) (hw : rs_w x.toInt) (H : post 0 (rs_st c r (rs_wz x.toInt) 5, M, X, C)) : wpY_whole post (c, M, X, C) (nI r) x := by
  unfold wpY_whole
  dsimp only
  refine rs_regY1 hr (br_f rs_1n0 ?_)
  refine br_f (fun h => absurd ((rs_m30 x).mp h) (by have := hw.1; omega)) (br_t ((rs_p30 x).mpr hw.2) ⟨6, ?_⟩)
  have k := rs_whYl (c := c) hr H 5 0 rfl
  rw [rs_st0] at k
  exact k
theorem rs_czfl (z : Nat → Int) (w : Nat) {k : Nat} (hk : k < 5) : rs_cz z w k = rs_fl k w * z k := by
  refine rs_co5 (P := fun k => rs_cz z w k = rs_fl k w * z k) ?_ rfl rfl rfl ?_ hk
  · show z 0 = 1 * z 0
    rw [Int.one_mul]
  · show z 4 = 1 * z 4
    rw [Int.one_mul]
theorem rs_pmn {t x : Int} (ht : t = 1 ∨ t = -1) : (t * x).natAbs = x.natAbs := by
  rcases ht with rfl | rfl <;> omega
theorem rs_czG (z : Nat → Int) (w : Nat) : rs_G (rs_cz z w) = rs_G z := by
  have e : ∀ k, k < 5 → (rs_cz z w k).natAbs = (z k).natAbs := fun k hk => by
    rw [rs_czfl z w hk, rs_pmn (rs_flr k w)]
  unfold rs_G
  rw [e 0 (by omega), e 1 (by omega), e 2 (by omega), e 3 (by omega), e 4 (by omega)]
theorem rs_czq {z : Nat → Int} (hz : rs_ok z) (w : Nat) : rs_q (rs_cz z w) = rs_cz z w := by
  funext k
  refine rs_qid ((rs_czG z w).trans hz.2.2.2) ?_ k
  have h := hz.2.1
  have e : rs_cz z w 4 = z 4 := rfl
  rw [e]
  omega
theorem rs_cgYl {post : Int32 → SY → Prop} {c : Nat → Int32} {M X C : Nat → Int64} {r x w : Nat} (hc : rs_Rc c) (hr : r < 6) (hx : x < 6) (hw : w < 4) (H : post 0 (rs_st c r (rs_cz (rs_z c x) w) 5, M, X, C)) : ∀ (d i : Nat), i + d = 5 → wY_conjugate_31 post (nI r) (nI x) (nI w) (d + 1) (nI i) (rs_st c r (rs_cz (rs_z c x) w) i) M X C := by
  intro d
  induction d with
  | zero =>
    intro i hi
    obtain rfl : i = 5 := by omega
    exact br_t (by decide) H
  | succ d ih =>
    intro i hi
    refine pk_le 5 i (fun h => absurd h (by omega)) (fun _ => ⟨rs_inY hx (by omega), ?_⟩)
    have IH := ih (i + 1) (by omega)
    rw [← rs_sts] at IH
    refine rs_flY (by omega) hw ⟨rs_inY hr (by omega), fun a ea j ej => ?_⟩
    rw [ej, nI_1, ea, rs_clY hr (by omega), rs_clY hx (by omega), rs_stn (j := 5 * x + i) (by omega)]
    have e : c (5 * x + i) * Int32.ofInt (rs_fl i w) = Int32.ofInt (rs_cz (rs_z c x) w i) := by
      apply rs_eq32
      rw [rs_fm hc hx (by omega), rs_czfl _ _ (by omega)]
    rw [e]
    exact IH
theorem rs_cgY {post : Int32 → SY → Prop} {c : Nat → Int32} {M X C : Nat → Int64} {r x w : Nat} (hc : rs_Rc c) (hr : r < 6) (hx : x < 6) (hw : w < 4) (H : post 0 (rs_st c r (rs_cz (rs_z c x) w) 5, M, X, C)) : wpY_conjugate post (c, M, X, C) (nI r) (nI x) (nI w) := by
  unfold wpY_conjugate
  dsimp only
  refine rs_regY1 hr (br_f rs_1n0 ?_)
  refine rs_regY1 hx (br_f rs_1n0 ?_)
  refine br_f (nI_pos (by omega)) (pk_le w 3 (fun _ => ⟨6, ?_⟩) (fun h => absurd h (by omega)))
  have k := rs_cgYl (c := c) hc hr hx hw H 5 0 rfl
  rw [rs_st0] at k
  exact k
/-- the cells with the first i registers made -/
def rs_ci (i : Nat) : Nat → Int32 := fun j => if j % 5 = 4 ∧ j < 5 * i then 1 else 0
theorem rs_ci0 : rs_ci 0 = fun _ => 0 := by
  funext j
  exact if_neg (by omega)
theorem rs_cis (i : Nat) : upd (rs_ci i) (5 * i + 4) 1 = rs_ci (i + 1) := by
  funext j
  unfold upd rs_ci
  by_cases h : j = 5 * i + 4
  · rw [if_pos h, if_pos (by omega)]
  · rw [if_neg h]
    by_cases g : j % 5 = 4 ∧ j < 5 * i
    · rw [if_pos g, if_pos (by omega)]
    · rw [if_neg g, if_neg (by omega)]
theorem rs_cR : rs_Rc (rs_ci 6) := by
  intro r hr
  have e : ∀ k, k < 5 → rs_wz 0 k = rs_z (rs_ci 6) r k := by
    intro k hk
    unfold rs_z rs_ci
    rcases (show k = 0 ∨ k = 1 ∨ k = 2 ∨ k = 3 ∨ k = 4 by omega) with rfl | rfl | rfl | rfl | rfl
    · rw [if_neg (by omega)]
      decide
    · rw [if_neg (by omega)]
      decide
    · rw [if_neg (by omega)]
      decide
    · rw [if_neg (by omega)]
      decide
    · rw [if_pos (by omega)]
      decide
  refine rs_okc e ⟨fun k hk => rs_wzb ⟨by decide, by decide⟩ (by omega), by decide, by decide, rs_wzG 0⟩
theorem rs_inXl {post : SX → Prop} {f s R : Nat → Int64} (H : post (rs_ci 6, f, s, R)) : ∀ (d i : Nat), i + d = 6 → wX_init_35 post (d + 1) (nI i) (rs_ci i) f s R := by
  intro d
  induction d with
  | zero =>
    intro i hi
    obtain rfl : i = 6 := by omega
    exact br_t (by decide) H
  | succ d ih =>
    intro i hi
    have e : (nI i * 5 + 4).toNatClampNeg = 5 * i + 4 := rs_clX (k := 4) (by omega) (by omega)
    refine pk_le 6 i (fun h => absurd h (by omega)) (fun _ => ⟨rs_inX (k := 4) (by omega) (by omega), fun a ea j ej => ?_⟩)
    rw [ej, nI_1, ea, e, rs_cis]
    exact ih (i + 1) (by omega)
theorem rs_inYl {post : SY → Prop} {f s R : Nat → Int64} (H : post (rs_ci 6, f, s, R)) : ∀ (d i : Nat), i + d = 6 → wY_init_37 post (d + 1) (nI i) (rs_ci i) f s R := by
  intro d
  induction d with
  | zero =>
    intro i hi
    obtain rfl : i = 6 := by omega
    exact br_t (by decide) H
  | succ d ih =>
    intro i hi
    have e : (5 * nI i + 4).toNatClampNeg = 5 * i + 4 := rs_clY (k := 4) (by omega) (by omega)
    refine pk_le 6 i (fun h => absurd h (by omega)) (fun _ => ⟨rs_inY (k := 4) (by omega) (by omega), fun a ea j ej => ?_⟩)
    rw [ej, nI_1, ea, e, rs_cis]
    exact ih (i + 1) (by omega)
end
section
/-! part 16: the owed statements (written by wip/whole/gen_owed.py) -/
theorem i_vc_put {k : Nat} {u : SX} {v : SY} (I : i_Rel k u v) (hk : k + 4 ≤ 2048) (v1 : Int32) (v2 : Int32) (v3 : Int32) : wpX_put (fun r u' => wpY_put (fun r' v' => r' = r ∧ i_Rel (k + 4) u' v') v v1 v2 v3) u v1 v2 v3 := by
  obtain ⟨c, f, s, R, M, X, C, rfl, rfl, hc⟩ := I
  unfold wpX_put
  dsimp only
  rcases rs_reg v1 with h | ⟨r, hr, rfl⟩
  · refine rs_regX0 h (br_t rfl ?_)
    unfold wpY_put
    dsimp only
    exact rs_regY0 h (br_t rfl ⟨rfl, rs_rel hc⟩)
  refine rs_regX1 hr (br_f rs_1n0 ?_)
  rcases rs_rng v2 (n := 4) (by omega) with h | ⟨h0, h⟩ | ⟨q, hq, rfl⟩
  · refine br_t h ?_
    unfold wpY_put
    dsimp only
    exact rs_regY1 hr (br_f rs_1n0 (br_t h ⟨rfl, rs_rel hc⟩))
  · refine br_f h0 (br_t h ?_)
    unfold wpY_put
    dsimp only
    exact rs_regY1 hr (br_f rs_1n0 (br_f h0 (br_t (rs_gtof (n := 3) (by omega) h) ⟨rfl, rs_rel hc⟩)))
  refine br_f (nI_pos (by omega)) (pk_le 4 q (fun h => absurd h (by omega)) (fun _ => ?_))
  rw [rs_c64]
  by_cases hw : rs_w v3.toInt
  rotate_left
  · refine rs_lim0 (rs_v32 v3) hw (br_t rfl ?_)
    unfold wpY_put
    dsimp only
    refine rs_regY1 hr (br_f rs_1n0 (br_f (nI_pos (by omega)) (pk_lt 3 q (fun h => absurd h (by omega)) (fun _ => ?_))))
    refine br_c (fun _ => ⟨rfl, rs_rel hc⟩) (fun hn => br_f (fun g => ?_) ⟨rfl, rs_rel hc⟩)
    exact hw ⟨Int.not_lt.mp (fun l => hn ((rs_m30 v3).mpr l)), (rs_p30 v3).mp g⟩
  refine rs_lim1 (rs_v32 v3) hw (br_f rs_1n0 ?_)
  refine rs_ldR hr (fun R1 hL => ?_)
  dsimp only
  refine ⟨vp_in_nI (by omega) (by omega), fun a ea => ?_⟩
  rw [ea, nI_clamp (by omega)]
  have k4 : (nI r * 5 + 4).toNatClampNeg = 5 * r + 4 := rs_clX (k := 4) hr (by omega)
  have h4 := rs_pz4 (x := v3.toInt) (hc r hr) hq
  refine rs_keep hr (rs_pzL hL) (rs_pzS (hc r hr) hw) h4 (fun R2 hall => ⟨rs_inX (k := 4) hr (by omega), ?_⟩) (fun R2 hn => ⟨rs_inX (k := 4) hr (by omega), ?_⟩)
  · rw [k4]
    exact rs_putY hc hr hq hw (fun M2 h => ⟨rfl, rs_rel (rs_Rst hc (rs_qok h4 hall))⟩) (fun M2 h => absurd hall h)
  · rw [k4]
    exact rs_putY hc hr hq hw (fun M2 h => absurd h hn) (fun M2 h => ⟨rfl, rs_rel hc⟩)
theorem i_vc_whole {k : Nat} {u : SX} {v : SY} (I : i_Rel k u v) (hk : k + 4 ≤ 2048) (v1 : Int32) (v2 : Int32) : wpX_whole (fun r u' => wpY_whole (fun r' v' => r' = r ∧ i_Rel (k + 4) u' v') v v1 v2) u v1 v2 := by
  obtain ⟨c, f, s, R, M, X, C, rfl, rfl, hc⟩ := I
  unfold wpX_whole
  dsimp only
  rcases rs_reg v1 with h | ⟨r, hr, rfl⟩
  · refine rs_regX0 h (br_t rfl ?_)
    unfold wpY_whole
    dsimp only
    exact rs_regY0 h (br_t rfl ⟨rfl, rs_rel hc⟩)
  refine rs_regX1 hr (br_f rs_1n0 ?_)
  rw [rs_c64]
  by_cases hw : rs_w v2.toInt
  rotate_left
  · refine rs_lim0 (rs_v32 v2) hw (br_t rfl ?_)
    unfold wpY_whole
    dsimp only
    refine rs_regY1 hr (br_f rs_1n0 ?_)
    refine br_c (fun _ => ⟨rfl, rs_rel hc⟩) (fun hn => br_f (fun g => ?_) ⟨rfl, rs_rel hc⟩)
    exact hw ⟨Int.not_lt.mp (fun l => hn ((rs_m30 v2).mpr l)), (rs_p30 v2).mp g⟩
  refine rs_lim1 (rs_v32 v2) hw (br_f rs_1n0 ?_)
  intro R0 e0 R1 e1 R2 e2 R3 e3 R4 e4
  have hL : rs_L R4 (rs_wz v2.toInt) 5 := by
    subst e4 e3 e2 e1 e0
    exact rs_L5 rfl rfl rfl rfl rfl
  have hall : ∀ k, k < 5 → rs_w (rs_q (rs_wz v2.toInt) k) := by
    rw [rs_wzq]
    exact fun _ h => rs_wzb hw h
  have h4 : rs_wz v2.toInt 4 ≠ 0 := fun h => absurd h (show ¬ (1 : Int) = 0 by decide)
  refine rs_keep hr hL (rs_sS (K := 30) (by omega) (fun _ h => rs_wzb hw h)) h4 (fun R5 _ => ?_) (fun R5 hn => absurd hall hn)
  have hok := rs_qok h4 hall
  rw [rs_wzq] at hok
  rw [rs_wzq]
  exact rs_whY hr hw ⟨rfl, rs_rel (rs_Rst hc hok)⟩
theorem i_vc_part {k : Nat} {u : SX} {v : SY} (I : i_Rel k u v) (hk : k + 4 ≤ 2048) (v1 : Int32) (v2 : Int32) : wpX_part (fun r => wpY_part (fun r' => r' = r ∧ i_Rel (k + 4) u v) v v1 v2) u v1 v2 := by
  obtain ⟨c, f, s, R, M, X, C, rfl, rfl, hc⟩ := I
  unfold wpX_part
  dsimp only
  rcases rs_reg v1 with h | ⟨r, hr, rfl⟩
  · refine rs_regX0 h (br_t rfl ?_)
    unfold wpY_part
    dsimp only
    exact rs_regY0 h (br_t rfl ⟨rfl, rs_rel hc⟩)
  refine rs_regX1 hr (br_f rs_1n0 ?_)
  rcases rs_rng v2 (n := 5) (by omega) with h | ⟨h0, h⟩ | ⟨q, hq, rfl⟩
  · refine br_t h ?_
    unfold wpY_part
    dsimp only
    exact rs_regY1 hr (br_f rs_1n0 (br_t h ⟨rfl, rs_rel hc⟩))
  · refine br_f h0 (br_f (fun g => absurd h (Int32.not_le.mpr g)) ?_)
    unfold wpY_part
    dsimp only
    exact rs_regY1 hr (br_f rs_1n0 (br_f h0 (br_t (rs_gtof (n := 4) (by omega) h) ⟨rfl, rs_rel hc⟩)))
  refine br_f (nI_pos (by omega)) (pk_lt q 5 (fun _ => ⟨rs_inX hr hq, ?_⟩) (fun h => absurd h (by omega)))
  unfold wpY_part
  dsimp only
  refine rs_regY1 hr (br_f rs_1n0 (br_f (nI_pos (by omega)) (pk_lt 4 q (fun h => absurd h (by omega)) (fun _ => ⟨rs_inY hr hq, ?_, rs_rel hc⟩))))
  rw [rs_clX hr hq, rs_clY hr hq]
theorem i_vc_add {k : Nat} {u : SX} {v : SY} (I : i_Rel k u v) (hk : k + 4 ≤ 2048) (v1 : Int32) (v2 : Int32) (v3 : Int32) : wpX_add (fun r u' => wpY_add (fun r' v' => r' = r ∧ i_Rel (k + 4) u' v') v v1 v2 v3) u v1 v2 v3 := by
  obtain ⟨c, f, s, R, M, X, C, rfl, rfl, hc⟩ := I
  unfold wpX_add
  dsimp only
  rcases rs_are v1 v2 v3 with ⟨r, x, y, ⟨hr, hx, hy⟩, rfl, rfl, rfl⟩ | ⟨hbX, hbY⟩
  rotate_left
  · refine hbX _ (br_t rfl ?_)
    unfold wpY_add
    dsimp only
    exact hbY _ _ (br_t rfl ⟨rfl, rs_rel hc⟩)
  refine rs_areX1 hr hx hy (br_f rs_1n0 ?_)
  refine rs_adX hx hy rs_t1 (fun f1 s1 R1 hL => ?_)
  dsimp only
  have h4 := rs_add40 (T := 1) (hc x hx) (hc y hy)
  refine rs_keep hr hL (rs_addS (hc x hx) (hc y hy) (Or.inl rfl)) h4 (fun R2 hall => ?_) (fun R2 hn => ?_)
  · exact rs_addY hc hr hx hy (fun M2 h => ⟨rfl, rs_rel (rs_Rst hc (rs_qok h4 hall))⟩) (fun M2 h => absurd hall h)
  · exact rs_addY hc hr hx hy (fun M2 h => absurd h hn) (fun M2 h => ⟨rfl, rs_rel hc⟩)
theorem i_vc_subtract {k : Nat} {u : SX} {v : SY} (I : i_Rel k u v) (hk : k + 4 ≤ 2048) (v1 : Int32) (v2 : Int32) (v3 : Int32) : wpX_subtract (fun r u' => wpY_subtract (fun r' v' => r' = r ∧ i_Rel (k + 4) u' v') v v1 v2 v3) u v1 v2 v3 := by
  obtain ⟨c, f, s, R, M, X, C, rfl, rfl, hc⟩ := I
  unfold wpX_subtract
  dsimp only
  rcases rs_are v1 v2 v3 with ⟨r, x, y, ⟨hr, hx, hy⟩, rfl, rfl, rfl⟩ | ⟨hbX, hbY⟩
  rotate_left
  · refine hbX _ (br_t rfl ?_)
    unfold wpY_subtract
    dsimp only
    exact hbY _ _ (br_t rfl ⟨rfl, rs_rel hc⟩)
  refine rs_areX1 hr hx hy (br_f rs_1n0 ?_)
  refine rs_adX hx hy rs_tm1 (fun f1 s1 R1 hL => ?_)
  dsimp only
  have h4 := rs_add40 (T := -1) (hc x hx) (hc y hy)
  refine rs_keep hr hL (rs_addS (hc x hx) (hc y hy) (Or.inr rfl)) h4 (fun R2 hall => ?_) (fun R2 hn => ?_)
  · exact rs_subY hc hr hx hy (fun M2 h => ⟨rfl, rs_rel (rs_Rst hc (rs_qok h4 hall))⟩) (fun M2 h => absurd hall h)
  · exact rs_subY hc hr hx hy (fun M2 h => absurd h hn) (fun M2 h => ⟨rfl, rs_rel hc⟩)
theorem i_vc_multiply {k : Nat} {u : SX} {v : SY} (I : i_Rel k u v) (hk : k + 4 ≤ 2048) (v1 : Int32) (v2 : Int32) (v3 : Int32) : wpX_multiply (fun r u' => wpY_multiply (fun r' v' => r' = r ∧ i_Rel (k + 4) u' v') v v1 v2 v3) u v1 v2 v3 := by
  obtain ⟨c, f, s, R, M, X, C, rfl, rfl, hc⟩ := I
  unfold wpX_multiply
  dsimp only
  rcases rs_are v1 v2 v3 with ⟨r, x, y, ⟨hr, hx, hy⟩, rfl, rfl, rfl⟩ | ⟨hbX, hbY⟩
  rotate_left
  · refine hbX _ (br_t rfl ?_)
    unfold wpY_multiply
    dsimp only
    exact hbY _ _ (br_t rfl ⟨rfl, rs_rel hc⟩)
  refine rs_areX1 hr hx hy (br_f rs_1n0 ?_)
  refine rs_ldF hx (fun f1 hf => ?_)
  dsimp only
  refine rs_ldS hy (fun s1 hs => ?_)
  dsimp only
  refine rs_muX hf hs (fun R1 hL => ?_)
  dsimp only
  have h4 := rs_mul40 (hc x hx) (hc y hy)
  refine rs_keep hr hL (rs_mulS (hc x hx) (hc y hy)) h4 (fun R2 hall => ?_) (fun R2 hn => ?_)
  · exact rs_mulY hc hr hx hy (fun M2 X2 h => ⟨rfl, rs_rel (rs_Rst hc (rs_qok h4 hall))⟩) (fun M2 X2 h => absurd hall h)
  · exact rs_mulY hc hr hx hy (fun M2 X2 h => absurd h hn) (fun M2 X2 h => ⟨rfl, rs_rel hc⟩)
theorem i_vc_divide {k : Nat} {u : SX} {v : SY} (I : i_Rel k u v) (hk : k + 4 ≤ 2048) (v1 : Int32) (v2 : Int32) (v3 : Int32) : wpX_divide (fun r u' => wpY_divide (fun r' v' => r' = r ∧ i_Rel (k + 4) u' v') v v1 v2 v3) u v1 v2 v3 := by
  obtain ⟨c, f, s, R, M, X, C, rfl, rfl, hc⟩ := I
  unfold wpX_divide
  dsimp only
  rcases rs_are v1 v2 v3 with ⟨r, x, y, ⟨hr, hx, hy⟩, rfl, rfl, rfl⟩ | ⟨hbX, hbY⟩
  rotate_left
  · refine hbX _ (br_t rfl ?_)
    unfold wpY_divide
    dsimp only
    exact hbY _ _ (br_t rfl ⟨rfl, rs_rel hc⟩)
  refine rs_areX1 hr hx hy (br_f rs_1n0 ?_)
  refine rs_ldF hx (fun f1 hf => ?_)
  dsimp only
  refine rs_ldS hy (fun s1 hs => ?_)
  dsimp only
  have hS : ∀ k, k < 5 → rs_S (rs_z c y k) := rs_sS (K := 30) (by omega) (fun _ h => rs_okb (hc y hy) h)
  refine rs_izX hs hS (fun h0 => br_f rs_1n0 ?_) (fun h0 => br_t rfl ?_)
  · exact rs_divY0 hr hx hy h0 ⟨rfl, rs_rel hc⟩
  refine rs_ivX hs (fun s2 hs2 => ?_)
  dsimp only
  refine rs_muX hf hs2 (fun R1 hL => ?_)
  dsimp only
  have h4 := rs_div40 (hc x hx) h0
  refine rs_keep hr hL (rs_divS (hc x hx) (hc y hy)) h4 (fun R2 hall => ?_) (fun R2 hn => ?_)
  · exact rs_divY hc hr hx hy h0 (fun M2 X2 C2 h => ⟨rfl, rs_rel (rs_Rst hc (rs_qok h4 hall))⟩) (fun M2 X2 C2 h => absurd hall h)
  · exact rs_divY hc hr hx hy h0 (fun M2 X2 C2 h => absurd h hn) (fun M2 X2 C2 h => ⟨rfl, rs_rel hc⟩)
theorem i_vc_conjugate {k : Nat} {u : SX} {v : SY} (I : i_Rel k u v) (hk : k + 4 ≤ 2048) (v1 : Int32) (v2 : Int32) (v3 : Int32) : wpX_conjugate (fun r u' => wpY_conjugate (fun r' v' => r' = r ∧ i_Rel (k + 4) u' v') v v1 v2 v3) u v1 v2 v3 := by
  obtain ⟨c, f, s, R, M, X, C, rfl, rfl, hc⟩ := I
  unfold wpX_conjugate
  dsimp only
  rcases rs_reg v1 with h | ⟨r, hr, rfl⟩
  · refine rs_regX0 h (br_t rfl ?_)
    unfold wpY_conjugate
    dsimp only
    exact rs_regY0 h (br_t rfl ⟨rfl, rs_rel hc⟩)
  refine rs_regX1 hr (br_f rs_1n0 ?_)
  rcases rs_reg v2 with h | ⟨x, hx, rfl⟩
  · refine rs_regX0 h (br_t rfl ?_)
    unfold wpY_conjugate
    dsimp only
    refine rs_regY1 hr (br_f rs_1n0 ?_)
    exact rs_regY0 h (br_t rfl ⟨rfl, rs_rel hc⟩)
  refine rs_regX1 hx (br_f rs_1n0 ?_)
  rcases rs_rng v3 (n := 4) (by omega) with h | ⟨h0, h⟩ | ⟨q, hq, rfl⟩
  · refine br_t h ?_
    unfold wpY_conjugate
    dsimp only
    refine rs_regY1 hr (br_f rs_1n0 ?_)
    exact rs_regY1 hx (br_f rs_1n0 (br_t h ⟨rfl, rs_rel hc⟩))
  · refine br_f h0 (br_f (fun g => absurd h (Int32.not_le.mpr g)) ?_)
    unfold wpY_conjugate
    dsimp only
    refine rs_regY1 hr (br_f rs_1n0 ?_)
    exact rs_regY1 hx (br_f rs_1n0 (br_f h0 (br_f (fun g => absurd (rs_gtof (n := 3) (by omega) h) (Int32.not_lt.mpr g)) ⟨rfl, rs_rel hc⟩)))
  refine br_f (nI_pos (by omega)) (pk_lt q 4 (fun _ => ?_) (fun h => absurd h (by omega)))
  refine rs_ldR hx (fun R1 hL1 => ?_)
  dsimp only
  refine rs_pcR hq hL1 (fun R2 hL => ?_)
  dsimp only
  have hall : ∀ k, k < 5 → rs_w (rs_q (rs_cz (rs_z c x) q) k) := by
    rw [rs_czq (hc x hx)]
    exact fun _ h => rs_czb (hc x hx) q h
  have h4 : rs_cz (rs_z c x) q 4 ≠ 0 := by
    have h := (hc x hx).2.1
    have e : rs_cz (rs_z c x) q 4 = rs_z c x 4 := rfl
    rw [e]
    omega
  refine rs_keep (z := rs_cz (rs_z c x) q) hr hL (rs_sS (K := 30) (by omega) (fun _ h => rs_czb (hc x hx) q h)) h4 (fun R5 _ => ?_) (fun R5 hn => absurd hall hn)
  have hok := rs_qok h4 hall
  rw [rs_czq (hc x hx)] at hok
  rw [rs_czq (hc x hx)]
  exact rs_cgY hc hr hx hq ⟨rfl, rs_rel (rs_Rst hc hok)⟩
theorem i_vc_sign {k : Nat} {u : SX} {v : SY} (I : i_Rel k u v) (hk : k + 4 ≤ 2048) (v1 : Int32) : wpX_sign (fun r u' => wpY_sign (fun r' => r' = r ∧ i_Rel (k + 4) u' v) v v1) u v1 := by
  obtain ⟨c, f, s, R, M, X, C, rfl, rfl, hc⟩ := I
  unfold wpX_sign
  dsimp only
  rcases rs_reg v1 with h | ⟨r, hr, rfl⟩
  · refine rs_regX0 h (br_t rfl ?_)
    unfold wpY_sign
    dsimp only
    exact rs_regY0 h (br_t rfl ⟨rfl, rs_rel hc⟩)
  refine rs_regX1 hr (br_f rs_1n0 ?_)
  refine rs_ldF hr (fun f1 hf => ?_)
  dsimp only
  rw [hf 0 (by omega), hf 1 (by omega), hf 2 (by omega), hf 3 (by omega)]
  have hB : rs_B (rs_z c r 0) (rs_z c r 1) (rs_z c r 2) (rs_z c r 3) := by
    have b0 := rs_okb (hc r hr) (k := 0) (by omega)
    have b1 := rs_okb (hc r hr) (k := 1) (by omega)
    have b2 := rs_okb (hc r hr) (k := 2) (by omega)
    have b3 := rs_okb (hc r hr) (k := 3) (by omega)
    exact ⟨by omega, by omega, by omega, by omega⟩
  refine rs_sumX hB ?_
  unfold wpY_sign
  dsimp only
  obtain ⟨k1, k2, k3, k4⟩ := rs_clYk hr
  refine rs_regY1 hr (br_f rs_1n0 ⟨rs_inY0 hr, rs_inY (k := 1) hr (by omega), rs_inY (k := 2) hr (by omega), rs_inY (k := 3) hr (by omega), ?_⟩)
  rw [rs_clY0 hr, k1, k2, k3, rs_ld, rs_ld, rs_ld, rs_ld]
  refine rs_sgY hB ⟨?_, rs_rel hc⟩
  rw [rs_xy hB]
theorem i_vc_compare {k : Nat} {u : SX} {v : SY} (I : i_Rel k u v) (hk : k + 4 ≤ 2048) (v1 : Int32) (v2 : Int32) : wpX_compare (fun r u' => wpY_compare (fun r' v' => r' = r ∧ i_Rel (k + 4) u' v') v v1 v2) u v1 v2 := by
  obtain ⟨c, f, s, R, M, X, C, rfl, rfl, hc⟩ := I
  unfold wpX_compare
  dsimp only
  rcases rs_reg v1 with h | ⟨r, hr, rfl⟩
  · refine rs_regX0 h (br_t rfl ?_)
    unfold wpY_compare
    dsimp only
    exact rs_regY0 h (br_t rfl ⟨rfl, rs_rel hc⟩)
  refine rs_regX1 hr (br_f rs_1n0 ?_)
  rcases rs_reg v2 with h | ⟨x, hx, rfl⟩
  · refine rs_regX0 h (br_t rfl ?_)
    unfold wpY_compare
    dsimp only
    refine rs_regY1 hr (br_f rs_1n0 ?_)
    exact rs_regY0 h (br_t rfl ⟨rfl, rs_rel hc⟩)
  refine rs_regX1 hx (br_f rs_1n0 ?_)
  refine rs_orX hc hr hx (fun f1 s1 R1 => ?_)
  dsimp only
  unfold wpY_compare
  dsimp only
  refine rs_regY1 hr (br_f rs_1n0 ?_)
  refine rs_regY1 hx (br_f rs_1n0 ?_)
  exact rs_orY hc hr hx (fun M1 => ⟨rfl, rs_rel hc⟩)
theorem i_vc_floor {k : Nat} {u : SX} {v : SY} (I : i_Rel k u v) (hk : k + 4 ≤ 2048) (v1 : Int32) : wpX_floor (fun r u' => wpY_floor (fun r' => r' = r ∧ i_Rel (k + 4) u' v) v v1) u v1 := by
  obtain ⟨c, f, s, R, M, X, C, rfl, rfl, hc⟩ := I
  unfold wpX_floor
  dsimp only
  rcases rs_reg v1 with h | ⟨r, hr, rfl⟩
  · refine rs_regX0 h (br_t rfl ?_)
    unfold wpY_floor
    dsimp only
    exact rs_regY0 h (br_t rfl ⟨rfl, rs_rel hc⟩)
  refine rs_regX1 hr (br_f rs_1n0 ?_)
  refine rs_flX (n := 1) hc hr (by omega) (fun f1 => ?_)
  dsimp only
  unfold wpY_floor
  dsimp only
  refine rs_regY1 hr (br_f rs_1n0 ?_)
  exact rs_wpY (n := 1) hc hr (by omega) ⟨rfl, rs_rel hc⟩
theorem i_vc_degree {k : Nat} {u : SX} {v : SY} (I : i_Rel k u v) (hk : k + 4 ≤ 2048) (v1 : Int32) : wpX_degree (fun r => wpY_degree (fun r' => r' = r ∧ i_Rel (k + 4) u v) v v1) u v1 := by
  obtain ⟨c, f, s, R, M, X, C, rfl, rfl, hc⟩ := I
  unfold wpX_degree
  dsimp only
  rcases rs_reg v1 with h | ⟨r, hr, rfl⟩
  · refine rs_regX0 h (br_t rfl ?_)
    unfold wpY_degree
    dsimp only
    exact rs_regY0 h (br_t rfl ⟨rfl, rs_rel hc⟩)
  refine rs_regX1 hr (br_f rs_1n0 ?_)
  refine ⟨4, rs_dgXl hr 3 1 0 rfl (by omega) (by omega) ?_⟩
  unfold wpY_degree
  dsimp only
  refine rs_regY1 hr (br_f rs_1n0 ⟨5, ?_⟩)
  refine rs_dg15 hc hr ⟨?_, rs_rel hc⟩ 4 0 rfl
  exact congrArg nI (rs_dgx _ _ _)
theorem i_vc_positive {k : Nat} {u : SX} {v : SY} (I : i_Rel k u v) (hk : k + 4 ≤ 2048) (v1 : Int32) : wpX_positive (fun r u' => wpY_positive (fun r' => r' = r ∧ i_Rel (k + 4) u' v) v v1) u v1 := by
  obtain ⟨c, f, s, R, M, X, C, rfl, rfl, hc⟩ := I
  unfold wpX_positive
  dsimp only
  rcases rs_reg v1 with h | ⟨r, hr, rfl⟩
  · refine rs_regX0 h (br_t rfl ?_)
    unfold wpY_positive
    dsimp only
    exact rs_regY0 h (br_t rfl ⟨rfl, rs_rel hc⟩)
  refine rs_regX1 hr (br_f rs_1n0 ?_)
  refine ⟨5, rs_poXl hc hr (fun f1 => ?_) 4 0 f rfl⟩
  unfold wpY_positive
  dsimp only
  refine rs_regY1 hr (br_f rs_1n0 ⟨5, ?_⟩)
  exact rs_poYl hc hr ⟨rfl, rs_rel hc⟩ 4 0 rfl
theorem i_vc_ranked {k : Nat} {u : SX} {v : SY} (I : i_Rel k u v) (hk : k + 4 ≤ 2048) (v1 : Int32) : wpX_ranked (fun r u' => wpY_ranked (fun r' v' => r' = r ∧ i_Rel (k + 4) u' v') v v1) u v1 := by
  obtain ⟨c, f, s, R, M, X, C, rfl, rfl, hc⟩ := I
  unfold wpX_ranked
  dsimp only
  rcases rs_rng v1 (n := 6) (by omega) with h | ⟨h0, h⟩ | ⟨q, hq, rfl⟩
  · refine br_t h ?_
    unfold wpY_ranked
    dsimp only
    refine ⟨7, rs_rkYl hc 6 0 M rfl (fun M1 => ⟨rs_rkb (fun j hj e => ?_) 6 0 rfl, rs_rel hc⟩)⟩
    rw [← e] at h
    exact absurd h (nI_pos (by omega))
  · refine br_f h0 (br_f (fun g => absurd h (Int32.not_le.mpr g)) ?_)
    unfold wpY_ranked
    dsimp only
    refine ⟨7, rs_rkYl hc 6 0 M rfl (fun M1 => ⟨rs_rkb (fun j hj e => ?_) 6 0 rfl, rs_rel hc⟩)⟩
    rw [← e] at h
    exact absurd h (nI_ge hj (by omega))
  refine br_f (nI_pos (by omega)) (pk_lt q 6 (fun _ => ?_) (fun h => absurd h (by omega)))
  refine ⟨7, rs_rkXl hc 6 0 f s R rfl (fun f1 s1 R1 => ?_)⟩
  unfold wpY_ranked
  dsimp only
  exact ⟨7, rs_rkYl hc 6 0 M rfl (fun M1 => ⟨rfl, rs_rel hc⟩)⟩
theorem i_vc_multipleFloor {k : Nat} {u : SX} {v : SY} (I : i_Rel k u v) (hk : k + 4 ≤ 2048) (v1 : Int32) (v2 : Int32) : wpX_multipleFloor (fun r u' => wpY_multipleFloor (fun r' => r' = r ∧ i_Rel (k + 4) u' v) v v1 v2) u v1 v2 := by
  obtain ⟨c, f, s, R, M, X, C, rfl, rfl, hc⟩ := I
  unfold wpX_multipleFloor
  dsimp only
  rcases rs_reg v1 with h | ⟨r, hr, rfl⟩
  · refine rs_regX0 h (br_t rfl ?_)
    unfold wpY_multipleFloor
    dsimp only
    exact rs_regY0 h (br_t rfl ⟨rfl, rs_rel hc⟩)
  refine rs_regX1 hr (br_f rs_1n0 ?_)
  rcases rs_rng v2 (n := 6) (by omega) with h | ⟨h0, h⟩ | ⟨q, hq, rfl⟩
  · refine br_t h ?_
    unfold wpY_multipleFloor
    dsimp only
    exact rs_regY1 hr (br_f rs_1n0 (br_t h ⟨rfl, rs_rel hc⟩))
  · have g5 := rs_gtof (n := 5) (by omega) h
    refine br_f h0 (br_f (fun g => absurd g5 (Int32.not_lt.mpr g)) ?_)
    unfold wpY_multipleFloor
    dsimp only
    exact rs_regY1 hr (br_f rs_1n0 (br_f h0 (br_t g5 ⟨rfl, rs_rel hc⟩)))
  refine br_f (nI_pos (by omega)) (pk_le q 5 (fun _ => ?_) (fun h => absurd h (by omega)))
  refine rs_flX hc hr (by omega) (fun f1 => ?_)
  dsimp only
  unfold wpY_multipleFloor
  dsimp only
  refine rs_regY1 hr (br_f rs_1n0 (br_f (nI_pos (by omega)) (pk_lt 5 q (fun h => absurd h (by omega)) (fun _ => ?_))))
  exact rs_wpY hc hr (by omega) ⟨rfl, rs_rel hc⟩
theorem i_vc_inverse {k : Nat} {u : SX} {v : SY} (I : i_Rel k u v) (hk : k + 4 ≤ 2048) (v1 : Int32) (v2 : Int32) : wpX_inverse (fun r u' => wpY_inverse (fun r' v' => r' = r ∧ i_Rel (k + 4) u' v') v v1 v2) u v1 v2 := by
  obtain ⟨c, f, s, R, M, X, C, rfl, rfl, hc⟩ := I
  unfold wpX_inverse
  dsimp only
  rcases rs_reg v1 with h | ⟨r, hr, rfl⟩
  · refine rs_regX0 h (br_t rfl ?_)
    unfold wpY_inverse
    dsimp only
    exact rs_regY0 h (br_t rfl ⟨rfl, rs_rel hc⟩)
  refine rs_regX1 hr (br_f rs_1n0 ?_)
  rcases rs_reg v2 with h | ⟨x, hx, rfl⟩
  · refine rs_regX0 h (br_t rfl ?_)
    unfold wpY_inverse
    dsimp only
    refine rs_regY1 hr (br_f rs_1n0 ?_)
    exact rs_regY0 h (br_t rfl ⟨rfl, rs_rel hc⟩)
  refine rs_regX1 hx (br_f rs_1n0 ?_)
  refine rs_ldF hr (fun f1 hf => ?_)
  dsimp only
  refine rs_ldS hx (fun s1 hs => ?_)
  dsimp only
  refine rs_muX hf hs (fun R1 hL => ?_)
  dsimp only
  have hY : ∀ post : Int32 → SY → Prop, (∀ M1 X1, rs_L M1 (rs_mul (rs_z c r) (rs_z c x)) 5 → ((M1 0 = M1 4 → ((M1 1 = 0 → ((M1 2 = 0 → ((M1 3 = 0 → post 1 (c, M1, X1, C)) ∧ (¬ M1 3 = 0 → post 0 (c, M1, X1, C)))) ∧ (¬ M1 2 = 0 → post 0 (c, M1, X1, C)))) ∧ (¬ M1 1 = 0 → post 0 (c, M1, X1, C)))) ∧ (¬ M1 0 = M1 4 → post 0 (c, M1, X1, C)))) → wpY_inverse post (c, M, X, C) (nI r) (nI x) := by
    intro post H
    unfold wpY_inverse
    dsimp only
    refine rs_regY1 hr (br_f rs_1n0 ?_)
    refine rs_regY1 hx (br_f rs_1n0 ?_)
    refine rs_prY hr hx hc (fun M1 X1 hM => ?_)
    dsimp only
    exact H M1 X1 hM
  rw [hL 0 (by omega), hL 1 (by omega), hL 2 (by omega), hL 3 (by omega), hL 4 (by omega)]
  refine br_c (fun g0 => br_c (fun g1 => br_c (fun g2 => br_c (fun g3 => ?_) (fun g3 => ?_)) (fun g2 => ?_)) (fun g1 => ?_)) (fun g0 => ?_)
  · refine hY _ (fun M1 X1 hM => ?_)
    rw [hM 0 (by omega), hM 1 (by omega), hM 2 (by omega), hM 3 (by omega), hM 4 (by omega)]
    exact br_t g0 (br_t g1 (br_t g2 (br_t g3 ⟨rfl, rs_rel hc⟩)))
  · refine hY _ (fun M1 X1 hM => ?_)
    rw [hM 0 (by omega), hM 1 (by omega), hM 2 (by omega), hM 3 (by omega), hM 4 (by omega)]
    exact br_t g0 (br_t g1 (br_t g2 (br_f g3 ⟨rfl, rs_rel hc⟩)))
  · refine hY _ (fun M1 X1 hM => ?_)
    rw [hM 0 (by omega), hM 1 (by omega), hM 2 (by omega), hM 3 (by omega), hM 4 (by omega)]
    exact br_t g0 (br_t g1 (br_f g2 ⟨rfl, rs_rel hc⟩))
  · refine hY _ (fun M1 X1 hM => ?_)
    rw [hM 0 (by omega), hM 1 (by omega), hM 2 (by omega), hM 3 (by omega), hM 4 (by omega)]
    exact br_t g0 (br_f g1 ⟨rfl, rs_rel hc⟩)
  · refine hY _ (fun M1 X1 hM => ?_)
    rw [hM 0 (by omega), hM 1 (by omega), hM 2 (by omega), hM 3 (by omega), hM 4 (by omega)]
    exact br_f g0 ⟨rfl, rs_rel hc⟩
theorem i_vc_norm {k : Nat} {u : SX} {v : SY} (I : i_Rel k u v) (hk : k + 4 ≤ 2048) (v1 : Int32) : wpX_norm (fun r u' => wpY_norm (fun r' v' => r' = r ∧ i_Rel (k + 4) u' v') v v1) u v1 := by
  obtain ⟨c, f, s, R, M, X, C, rfl, rfl, hc⟩ := I
  unfold wpX_norm
  dsimp only
  rcases rs_reg v1 with h | ⟨r, hr, rfl⟩
  · refine rs_regX0 h (br_t rfl ?_)
    unfold wpY_norm
    dsimp only
    exact rs_regY0 h (br_t rfl ⟨rfl, rs_rel hc⟩)
  refine rs_regX1 hr (br_f rs_1n0 ?_)
  refine rs_ldF hr (fun f1 hf => ?_)
  dsimp only
  refine rs_cpF hf ?_
  intro B eB
  rw [hf 4 (by omega)] at eB
  have hm := (hc r hr).2.1
  have hm2 := (hc r hr).2.2.1
  have hB : ¬ B = 0 := by
    rw [eB, ← Int64.ofInt_mul, ← Int64.ofInt_mul, ← Int64.ofInt_mul]
    have p2 := rs_pos11 hm hm
    have p3 := rs_pos11 p2 hm
    have p4 := rs_pos11 p3 hm
    have b2 := rs_mc 30 30 900 (by omega) (show -30 ≤ rs_z c r 4 ∧ rs_z c r 4 ≤ 30 by omega) (show -30 ≤ rs_z c r 4 ∧ rs_z c r 4 ≤ 30 by omega)
    have b3 := rs_mc 900 30 27000 (by omega) b2 (show -30 ≤ rs_z c r 4 ∧ rs_z c r 4 ≤ 30 by omega)
    have b4 := rs_mc 27000 30 810000 (by omega) b3 (show -30 ≤ rs_z c r 4 ∧ rs_z c r 4 ≤ 30 by omega)
    exact rs_n64 ⟨by omega, by omega⟩ (by omega)
  have hY : ∀ post : Int32 → SY → Prop, (∀ X1 C1, ((Int64.ofInt (rs_N (rs_z c r)) - Int64.ofInt (rs_N (rs_z c r)) / B * B = 0 → ((900000 < Int64.ofInt (rs_N (rs_z c r)) / B → post (-3000000) (c, M, X1, C1)) ∧ (¬ 900000 < Int64.ofInt (rs_N (rs_z c r)) / B → ((-900000 ≤ Int64.ofInt (rs_N (rs_z c r)) / B → post (Int64.ofInt (rs_N (rs_z c r)) / B).toInt32 (c, M, X1, C1)) ∧ (¬ -900000 ≤ Int64.ofInt (rs_N (rs_z c r)) / B → post (-3000000) (c, M, X1, C1)))))) ∧ (¬ Int64.ofInt (rs_N (rs_z c r)) - Int64.ofInt (rs_N (rs_z c r)) / B * B = 0 → post (-3000000) (c, M, X1, C1)))) → wpY_norm post (c, M, X, C) (nI r) := by
    intro post H
    unfold wpY_norm
    dsimp only
    refine rs_regY1 hr (br_f rs_1n0 ?_)
    refine rs_smY hr (fun X1 hX => ?_)
    dsimp only
    refine rs_deY (n := 4) hr (by omega) hX (fun C1 => ?_)
    dsimp only
    rw [rs_detN]
    have k4 : (5 * nI r + 4).toNatClampNeg = 5 * r + 4 := rs_clY (k := 4) hr (by omega)
    refine ⟨rs_inY (k := 4) hr (by omega), fun m em b eb => ?_⟩
    rw [em, k4, rs_ld, ← eB] at eb
    rw [eb]
    exact ⟨hB, fun v ev => ⟨hB, by
      rw [ev]
      exact H X1 C1⟩⟩
  refine br_f hB ⟨hB, br_c (fun g0 => ⟨hB, fun v ev => ?_⟩) (fun g0 => ?_)⟩
  · rw [ev]
    refine br_c (fun g1 => ?_) (fun g1 => br_c (fun g2 => ?_) (fun g2 => ?_))
    · refine hY _ (fun X1 C1 => br_t g0 (br_c (fun _ => ⟨rfl, rs_rel hc⟩) (fun _ => br_f (fun g => absurd g1 (Int64.not_lt.mpr g)) ⟨rfl, rs_rel hc⟩)))
    · refine hY _ (fun X1 C1 => br_t g0 (br_f (fun g => absurd g2 (Int64.not_le.mpr g)) (br_t (Int64.not_lt.mp g1) ⟨rfl, rs_rel hc⟩)))
    · refine hY _ (fun X1 C1 => br_t g0 (br_t (Int64.not_le.mp g2) ⟨rfl, rs_rel hc⟩))
  · exact hY _ (fun X1 C1 => br_f g0 ⟨rfl, rs_rel hc⟩)
end
section
/-! part 17: the owed statements of the constructors and of the turn -/
theorem i_up {k : Nat} {u : SX} {v : SY} (h : i_Rel k u v) : i_Rel (k + 4) u v := by
  obtain ⟨c, f, s, R, M, X, C, rfl, rfl, hc⟩ := h
  exact rs_rel hc
theorem i_vc0 : wpX_init (fun u => wpY_init (fun v => i_Rel 0 u v)) := by
  have kY : wpY_init (fun v => i_Rel 0 (rs_ci 6, fun _ => 0, fun _ => 0, fun _ => 0) v) := by
    have k := rs_inYl (f := fun _ => 0) (s := fun _ => 0) (R := fun _ => 0) (post := fun v => i_Rel 0 (rs_ci 6, fun _ => 0, fun _ => 0, fun _ => 0) v) (rs_rel rs_cR) 6 0 rfl
    rw [rs_ci0] at k
    exact ⟨7, k⟩
  have k := rs_inXl (f := fun _ => 0) (s := fun _ => 0) (R := fun _ => 0) (post := fun u => wpY_init (fun v => i_Rel 0 u v)) kY 6 0 rfl
  rw [rs_ci0] at k
  exact ⟨7, k⟩
end
