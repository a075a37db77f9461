/-! part 11: signs, order, whole parts: the walks of both sides -/
theorem rs_prS {e : Int} (h : -2000000000 ≤ e ∧ e ≤ 2000000000) : rs_S e := ⟨by omega, by omega⟩
theorem rs_sqS {e : Int} (h : -1400000000 ≤ e ∧ e ≤ 1400000000) : rs_S (e * e) := by
  have h1 := rs_sqle (p := 1400000000) h.1 h.2
  have h2 := rs_sqnn e
  exact ⟨by omega, by omega⟩
theorem rs_sq2S {f : Int} (h : -1400000000 ≤ f ∧ f ≤ 1400000000) : rs_S (2 * f * f) := by
  have h1 := rs_sqle (p := 1400000000) h.1 h.2
  have h2 := rs_sqnn f
  have e : 2 * f * f = 2 * (f * f) := Int.mul_assoc 2 f f
  rw [e]
  exact ⟨by omega, by omega⟩
theorem rs_p42 {post : Int32 → Prop} {e f : Int} (he : -1400000000 ≤ e ∧ e ≤ 1400000000) (hf : -1400000000 ≤ f ∧ f ≤ 1400000000) (h0 : ¬ (e = 0 ∧ f = 0)) (h1 : ¬ (0 ≤ e ∧ 0 ≤ f)) (h2 : ¬ (e ≤ 0 ∧ f ≤ 0)) (H : post (Int32.ofInt (rs_pr e f))) : wX_signOfPair_42 post (Int64.ofInt e) (Int64.ofInt f) := by
  have hS : rs_S e := rs_prS (by omega)
  unfold rs_pr at H
  rw [if_neg h0, if_neg h1, if_neg h2] at H
  have ea : 2 * f * f = 2 * (f * f) := Int.mul_assoc 2 f f
  have e2 : (Int64.ofInt e * Int64.ofInt e ≤ 2 * Int64.ofInt f * Int64.ofInt f) ↔ ¬ 2 * (f * f) < e * e := by
    rw [← rs_o2, ← Int64.ofInt_mul, ← Int64.ofInt_mul, ← Int64.ofInt_mul, rs_le64 (rs_sqS he) (rs_sq2S hf), ea]
    omega
  have e3 : Int64.ofInt e ≤ 0 ↔ ¬ 0 < e := by
    rw [rs_le064 hS]
    omega
  by_cases h3 : 2 * (f * f) < e * e
  · refine br_f (fun h => e2.mp h h3) ?_
    by_cases h4 : 0 < e
    · refine br_f (fun h => e3.mp h h4) (br_t rfl ?_)
      rw [if_pos ⟨fun _ => h4, fun _ => h3⟩] at H
      exact H
    · refine br_t (e3.mpr h4) (br_f (by decide) ?_)
      rw [if_neg (fun g => h4 (g.mp h3))] at H
      exact H
  · refine br_t (e2.mpr h3) ?_
    by_cases h4 : 0 < e
    · refine br_f (fun h => e3.mp h h4) (br_f (by decide) ?_)
      rw [if_neg (fun g => h3 (g.mpr h4))] at H
      exact H
    · refine br_t (e3.mpr h4) (br_t rfl ?_)
      rw [if_pos ⟨fun g => absurd g h3, fun g => absurd g h4⟩] at H
      exact H
theorem rs_pairX {post : Int32 → Prop} {e f : Int} (he : -1400000000 ≤ e ∧ e ≤ 1400000000) (hf : -1400000000 ≤ f ∧ f ≤ 1400000000) (H : post (Int32.ofInt (rs_pr e f))) : wpX_signOfPair post (Int64.ofInt e) (Int64.ofInt f) := by
  have hS : rs_S e := rs_prS (by omega)
  have hT : rs_S f := rs_prS (by omega)
  have z1 : Int64.ofInt e = 0 ↔ e = 0 := rs_eq64 hS rs_S0
  have z2 : Int64.ofInt f = 0 ↔ f = 0 := rs_eq64 hT rs_S0
  have l1 : Int64.ofInt e < 0 ↔ e < 0 := rs_lt64 hS rs_S0
  have l2 : Int64.ofInt f < 0 ↔ f < 0 := rs_lt64 hT rs_S0
  have g1 : 0 < Int64.ofInt e ↔ 0 < e := rs_lt64 rs_S0 hS
  have g2 : 0 < Int64.ofInt f ↔ 0 < f := rs_lt64 rs_S0 hT
  have K28 : ¬ (e = 0 ∧ f = 0) → ¬ (0 ≤ e ∧ 0 ≤ f) → wX_signOfPair_28 post (Int64.ofInt e) (Int64.ofInt f) := by
    intro h0 h1
    by_cases h2 : e ≤ 0 ∧ f ≤ 0
    · refine br_f (fun h => absurd (g1.mp h) (by omega)) (br_f (fun h => absurd (g2.mp h) (by omega)) ?_)
      unfold rs_pr at H
      rw [if_neg h0, if_neg h1, if_pos h2] at H
      exact H
    · have K := rs_p42 he hf h0 h1 h2 H
      by_cases h3 : 0 < e
      · exact br_t (g1.mpr h3) K
      · exact br_f (fun h => h3 (g1.mp h)) (br_t (g2.mpr (by omega)) K)
  have K14 : ¬ (e = 0 ∧ f = 0) → wX_signOfPair_14 post (Int64.ofInt e) (Int64.ofInt f) := by
    intro h0
    by_cases h1 : 0 ≤ e ∧ 0 ≤ f
    · refine br_f (fun h => absurd (l1.mp h) (by omega)) (br_f (fun h => absurd (l2.mp h) (by omega)) ?_)
      unfold rs_pr at H
      rw [if_neg h0, if_pos h1] at H
      exact H
    · by_cases h3 : e < 0
      · exact br_t (l1.mpr h3) (K28 h0 h1)
      · exact br_f (fun h => h3 (l1.mp h)) (br_t (l2.mpr (by omega)) (K28 h0 h1))
  by_cases h0 : e = 0
  · by_cases h1 : f = 0
    · unfold rs_pr at H
      rw [if_pos ⟨h0, h1⟩] at H
      exact br_t (z1.mpr h0) (br_t (z2.mpr h1) H)
    · exact br_t (z1.mpr h0) (br_f (fun h => h1 (z2.mp h)) (K14 (fun g => h1 g.2)))
  · exact br_f (fun h => h0 (z1.mp h)) (K14 (fun g => h0 g.1))
theorem rs_pr3 (e f : Int) : rs_pr e f = 0 ∨ rs_pr e f = 1 ∨ rs_pr e f = -1 := by
  rcases rs_tri e f with h | h | h
  · exact Or.inl h.1
  · exact Or.inr (Or.inl h.1)
  · exact Or.inr (Or.inr h.1)
theorem rs_in32 {p q : Int} (hp : p = 0 ∨ p = 1 ∨ p = -1) (hq : q = 0 ∨ q = 1 ∨ q = -1) (h : p ≠ q) : ¬ Int32.ofInt p = Int32.ofInt q := by
  intro e
  have e2 := congrArg Int32.toInt e
  rw [rs_t32 (by omega) (by omega), rs_t32 (by omega) (by omega)] at e2
  exact h e2
theorem rs_sumX {post : Int32 → Prop} {a b c d : Int} (hB : rs_B a b c d) (H : post (Int32.ofInt (rs_sg a b c d))) : wpX_signOfSum post (Int64.ofInt a) (Int64.ofInt b) (Int64.ofInt c) (Int64.ofInt d) := by
  have hef := rs_ef hB rfl rfl
  obtain ⟨ha, hb, hc, hd⟩ := hB
  unfold wpX_signOfSum
  refine rs_pairX (by omega) (by omega) ?_
  refine rs_pairX (by omega) (by omega) ?_
  have p3 := rs_pr3 a b
  have q3 := rs_pr3 c d
  unfold rs_sg at H
  by_cases h1 : rs_pr a b = rs_pr c d
  · rw [if_pos (Or.inl h1)] at H
    exact br_t (congrArg Int32.ofInt h1) H
  · refine br_f (rs_in32 p3 q3 h1) ?_
    by_cases h2 : rs_pr c d = 0
    · rw [if_pos (Or.inr h2)] at H
      exact br_t (congrArg Int32.ofInt h2) H
    · rw [if_neg (fun g => g.elim h1 h2)] at H
      refine br_f (rs_in32 q3 (Or.inl rfl) h2) ?_
      by_cases h3 : rs_pr a b = 0
      · rw [if_pos h3] at H
        exact br_t (congrArg Int32.ofInt h3) H
      · rw [if_neg h3] at H
        refine br_f (rs_in32 p3 (Or.inl rfl) h3) (fun x ex y ey => ?_)
        have e1 : x = Int64.ofInt (a * a + 2 * (b * b) - 3 * (c * c) - 6 * (d * d)) := by
          have m1 : 2 * b * b = 2 * (b * b) := Int.mul_assoc 2 b b
          have m2 : 3 * c * c = 3 * (c * c) := Int.mul_assoc 3 c c
          have m3 : 6 * d * d = 6 * (d * d) := Int.mul_assoc 6 d d
          rw [ex, ← m1, ← m2, ← m3]
          simp only [Int64.ofInt_add, Int64.ofInt_sub, Int64.ofInt_mul, rs_o2, rs_o3, rs_o6]
        have e2 : y = Int64.ofInt (2 * (a * b) - 6 * (c * d)) := by
          have m1 : 2 * a * b = 2 * (a * b) := Int.mul_assoc 2 a b
          have m2 : 6 * c * d = 6 * (c * d) := Int.mul_assoc 6 c d
          rw [ey, ← m1, ← m2]
          simp only [Int64.ofInt_sub, Int64.ofInt_mul, rs_o2, rs_o6]
        rw [e1, e2]
        refine rs_pairX (by omega) (by omega) ?_
        rw [← Int32.ofInt_mul]
        exact H
theorem rs_oe9 : Int64.ofInt 1000000000 = 1000000000 := rfl
theorem rs_sgY95 {post : Int32 → Prop} {c : Nat → Int32} {M X C : Nat → Int64} {t h l : Int} (e : t = h * 1000000000 + l) (hh : -50000000000000 ≤ h ∧ h ≤ 50000000000000) (hl : -50000000000000 ≤ l ∧ l ≤ 50000000000000) (H1 : 0 < t → post 1) (H2 : ¬ 0 < t → post (-1)) : wY_signOf_95 post (Int64.ofInt (h + l.tdiv 1000000000)) (Int64.ofInt (l.tmod 1000000000)) c M X C := by
  have y := rs_ysg e
  have h1 := Int.tdiv_mul_add_tmod l 1000000000
  have h2 := Int.tmod_lt_of_pos l (show (0 : Int) < 1000000000 by omega)
  have h3 := Int.lt_tmod_of_pos l (show (0 : Int) < 1000000000 by omega)
  generalize l.tdiv 1000000000 = p at *
  generalize l.tmod 1000000000 = q at *
  have hp : rs_S (h + p) := ⟨by omega, by omega⟩
  have hq : rs_S q := ⟨by omega, by omega⟩
  have s1 : rs_S 1 := ⟨by omega, by omega⟩
  have g1 : 0 < Int64.ofInt (h + p) ↔ 0 < h + p := rs_lt64 rs_S0 hp
  have g2 : 0 < Int64.ofInt q ↔ 0 < q := rs_lt64 rs_S0 hq
  have z1 : Int64.ofInt (h + p) = 0 ↔ h + p = 0 := rs_eq64 hp rs_S0
  have o1 : Int64.ofInt (h + p) = 1 ↔ h + p = 1 := rs_eq64 hp s1
  by_cases c1 : 0 < h + p
  · exact br_t (g1.mpr c1) (H1 (y.mp (Or.inl c1)))
  · refine br_f (fun g => c1 (g1.mp g)) ?_
    have k116 : ¬ 0 < t → wY_signOf_116 post (Int64.ofInt (h + p)) (Int64.ofInt q) c M X C := fun ht =>
      br_f (fun g => absurd (o1.mp g) (by omega)) (H2 ht)
    by_cases c2 : h + p = 0
    · refine br_t (z1.mpr c2) ?_
      by_cases c3 : 0 < q
      · exact br_t (g2.mpr c3) (H1 (y.mp (Or.inr (Or.inl ⟨c2, c3⟩))))
      · exact br_f (fun g => c3 (g2.mp g)) (k116 (by omega))
    · exact br_f (fun g => c2 (z1.mp g)) (k116 (by omega))
theorem rs_sgY {post : Int32 → Prop} {c : Nat → Int32} {M X C : Nat → Int64} {a b p d : Int} (hB : rs_B a b p d) (H : post (Int32.ofInt (rs_yv a b p d))) : wpY_signOf post (c, M, X, C) (Int64.ofInt a) (Int64.ofInt b) (Int64.ofInt p) (Int64.ofInt d) := by
  have hh := rs_hlb hB
  have ht := rs_hl a b p d
  obtain ⟨ha, hb, hc, hd⟩ := hB
  have za : Int64.ofInt a = 0 ↔ a = 0 := rs_eq64 ⟨by omega, by omega⟩ rs_S0
  have zb : Int64.ofInt b = 0 ↔ b = 0 := rs_eq64 ⟨by omega, by omega⟩ rs_S0
  have zp : Int64.ofInt p = 0 ↔ p = 0 := rs_eq64 ⟨by omega, by omega⟩ rs_S0
  have zd : Int64.ofInt d = 0 ↔ d = 0 := rs_eq64 ⟨by omega, by omega⟩ rs_S0
  unfold wpY_signOf
  dsimp only
  intro h1 e1 l1 f1
  refine ⟨by decide, fun h2 e2 => ⟨by decide, fun l2 f2 => ?_⟩⟩
  have k1 : h1 = Int64.ofInt (rs_hi a b p d) := by
    rw [e1]
    unfold rs_hi
    simp only [Int64.ofInt_add, Int64.ofInt_mul]
    rfl
  have k2 : l1 = Int64.ofInt (rs_lo b p d) := by
    rw [f1]
    unfold rs_lo
    simp only [Int64.ofInt_add, Int64.ofInt_mul]
    rfl
  have sl : rs_S (rs_lo b p d) := ⟨by omega, by omega⟩
  have s9 : rs_S 1000000000 := ⟨by omega, by omega⟩
  have k3 : h2 = Int64.ofInt (rs_hi a b p d + (rs_lo b p d).tdiv 1000000000) := by
    rw [e2, k1, k2, ← rs_oe9, rs_div64 sl s9, ← Int64.ofInt_add]
  have k4 : l2 = Int64.ofInt ((rs_lo b p d).tmod 1000000000) := by
    rw [f2, k2, ← rs_oe9, rs_rem64 sl s9]
  rw [k3, k4]
  unfold rs_yv at H
  have K : ¬ (a = 0 ∧ b = 0 ∧ p = 0 ∧ d = 0) → wY_signOf_95 post (Int64.ofInt (rs_hi a b p d + (rs_lo b p d).tdiv 1000000000)) (Int64.ofInt ((rs_lo b p d).tmod 1000000000)) c M X C := by
    intro hn
    rw [if_neg hn] at H
    refine rs_sgY95 ht hh.1 hh.2 (fun g => ?_) (fun g => ?_)
    · rw [if_pos g] at H
      exact H
    · rw [if_neg g] at H
      exact H
  by_cases h0 : a = 0
  · refine br_t (za.mpr h0) ?_
    by_cases h1 : b = 0
    · refine br_t (zb.mpr h1) ?_
      by_cases h2 : p = 0
      · refine br_t (zp.mpr h2) ?_
        by_cases h3 : d = 0
        · rw [if_pos ⟨h0, h1, h2, h3⟩] at H
          exact br_t (zd.mpr h3) H
        · exact br_f (fun g => h3 (zd.mp g)) (K (fun g => h3 g.2.2.2))
      · exact br_f (fun g => h2 (zp.mp g)) (K (fun g => h2 g.2.2.1))
    · exact br_f (fun g => h1 (zb.mp g)) (K (fun g => h1 g.2.1))
  · exact br_f (fun g => h0 (za.mp g)) (K (fun g => h0 g.1))
theorem rs_adB {T : Int} {x y : Nat → Int} (hx : rs_ok x) (hy : rs_ok y) (hT : T = 1 ∨ T = -1) : rs_B (rs_add T x y 0) (rs_add T x y 1) (rs_add T x y 2) (rs_add T x y 3) := by
  have b0 := rs_addb hx hy hT (k := 0) (by omega)
  have b1 := rs_addb hx hy hT (k := 1) (by omega)
  have b2 := rs_addb hx hy hT (k := 2) (by omega)
  have b3 := rs_addb hx hy hT (k := 3) (by omega)
  exact ⟨by omega, b1, b2, b3⟩
/-- how register x stands to register y -/
def rs_o (c : Nat → Int32) (x y : Nat) : Int := rs_sg (rs_add (-1) (rs_z c x) (rs_z c y) 0) (rs_add (-1) (rs_z c x) (rs_z c y) 1) (rs_add (-1) (rs_z c x) (rs_z c y) 2) (rs_add (-1) (rs_z c x) (rs_z c y) 3)
theorem rs_orX {post : Int32 → SX → Prop} {c : Nat → Int32} {f s R : Nat → Int64} {x y : Nat} (hc : rs_Rc c) (hx : x < 6) (hy : y < 6) (H : ∀ f s R, post (Int32.ofInt (rs_o c x y)) (c, f, s, R)) : wpX_order post (c, f, s, R) (nI x) (nI y) := by
  unfold wpX_order
  dsimp only
  refine rs_adX hx hy rs_tm1 (fun f' s' R' hL => ?_)
  dsimp only
  rw [hL 0 (by omega), hL 1 (by omega), hL 2 (by omega), hL 3 (by omega)]
  exact rs_sumX (rs_adB (hc x hx) (hc y hy) (Or.inr rfl)) (H f' s' R')
theorem rs_orY {post : Int32 → SY → Prop} {c : Nat → Int32} {M X C : Nat → Int64} {x y : Nat} (hc : rs_Rc c) (hx : x < 6) (hy : y < 6) (H : ∀ M, post (Int32.ofInt (rs_o c x y)) (c, M, X, C)) : wpY_order post (c, M, X, C) (nI x) (nI y) := by
  unfold wpY_order
  dsimp only
  refine rs_cmY hx hy hc rs_tvm1 (Or.inr rfl) (fun M' hL => ?_)
  dsimp only
  rw [hL 0 (by omega), hL 1 (by omega), hL 2 (by omega), hL 3 (by omega)]
  have hB := rs_adB (hc x hx) (hc y hy) (Or.inr (rfl : (-1 : Int) = -1))
  refine rs_sgY hB ?_
  rw [← rs_xy hB]
  exact H M'
