/-! part 025: the four cases in which the sum is above 0; the sign -/
theorem rs_lT {R T d : Int} (hR : 3600000000000000000000 < R) (k3 : 1000000000000000000 * T = R + d * 1937203297062054936) (hd : -1800 ≤ d ∧ d ≤ 1800) : 0 < T := by omega
theorem rs_l1a {P Q : Int} (k1 : 1000000000000000000 ≤ 2 * (36800 * P)) (k2 : 1000000000000000000 ≤ 2 * (36800 * Q)) : 3600000000000000000000 < 1000000000000000000 * P + 1732050807568877293 * Q := by omega
theorem rs_l1 {P Q T d : Int} (k1 : 1000000000000000000 ≤ 2 * (36800 * P)) (k2 : 1000000000000000000 ≤ 2 * (36800 * Q)) (k3 : 1000000000000000000 * T = 1000000000000000000 * P + 1732050807568877293 * Q + d * 1937203297062054936) (hd : -1800 ≤ d ∧ d ≤ 1800) : 0 < T :=
  rs_lT (rs_l1a k1 k2) k3 hd
theorem rs_pos1 {a b c d : Int} (hB : rs_B a b c d) (h1 : rs_P a b) (h2 : rs_P c d) : 0 < rs_T a b c d := by
  obtain ⟨ha, hb, hc, hd⟩ := hB
  have k2 := rs_up1 (a := c) (b := d) (by omega) hd h2
  exact rs_l1 (rs_up1 ha hb h1) k2 (rs_ST a b c d) hd
theorem rs_ST0 (c d : Int) : 1000000000000000000 * rs_T 0 0 c d = 1732050807568877293 * (c * 1000000000000000000 + d * 1414213562373095048) + d * 1937203297062054936 := by
  unfold rs_T
  omega
theorem rs_l3a {Q : Int} (k2 : 1000000000000000000 ≤ 2 * (36800 * Q)) : 3600000000000000000000 < 1732050807568877293 * Q := by omega
theorem rs_pos3 {c d : Int} (hc : -1800 ≤ c ∧ c ≤ 1800) (hd : -1800 ≤ d ∧ d ≤ 1800) (h2 : rs_P c d) : 0 < rs_T 0 0 c d := by
  have k2 := rs_up1 (a := c) (b := d) (by omega) hd h2
  exact rs_lT (rs_l3a k2) (rs_ST0 c d) hd
theorem rs_id3 {a b c d e f : Int} (S A : Int) (he : e = a * a + 2 * (b * b) - 3 * (c * c) - 6 * (d * d)) (hf : f = 2 * (a * b) - 6 * (c * d)) : (a * S + b * A) * (a * S + b * A) - 3 * ((c * S + d * A) * (c * S + d * A)) = S * (e * S + f * A) - (b * b - 3 * (d * d)) * (2 * (S * S) - A * A) := by
  subst he hf
  exact rs_id1 a b c d S A
theorem rs_ab : 2 * (1000000000000000000 * 1000000000000000000) - 1414213562373095048 * 1414213562373095048 = (2267518133157877696 : Int) := by omega
theorem rs_id4 {a b c d e f : Int} (he : e = a * a + 2 * (b * b) - 3 * (c * c) - 6 * (d * d)) (hf : f = 2 * (a * b) - 6 * (c * d)) : (a * 1000000000000000000 + b * 1414213562373095048) * (a * 1000000000000000000 + b * 1414213562373095048) - 3 * ((c * 1000000000000000000 + d * 1414213562373095048) * (c * 1000000000000000000 + d * 1414213562373095048)) = 1000000000000000000 * (e * 1000000000000000000 + f * 1414213562373095048) - (b * b - 3 * (d * d)) * 2267518133157877696 := by
  have h := rs_id3 1000000000000000000 1414213562373095048 he hf
  rw [rs_ab] at h
  exact h
theorem rs_l4W {PP QQ E bb dd : Int} (k4 : 1000000000000000000 ≤ 2 * (1387000000 * E)) (k5 : PP - 3 * QQ = 1000000000000000000 * E - (bb - 3 * dd) * 2267518133157877696) (b1 : bb ≤ 3240000) (d0 : 0 ≤ dd) : 350000000000000000000000000 ≤ PP - 3 * QQ := by omega
theorem rs_l5W {PP QQ E bb dd : Int} (k4 : 1000000000000000000 ≤ 2 * (1387000000 * (-E))) (k5 : PP - 3 * QQ = 1000000000000000000 * E - (bb - 3 * dd) * 2267518133157877696) (d1 : dd ≤ 3240000) (b0 : 0 ≤ bb) : PP - 3 * QQ ≤ -338000000000000000000000000 := by omega
theorem rs_l4K {RY PP QQ : Int} (k6 : RY = 1000000000000000000000000000000000000 * (PP - 3 * QQ) + 1827127723508992151 * QQ) (hW : 350000000000000000000000000 ≤ PP - 3 * QQ) (hQ : 0 ≤ QQ) : 300000000000000000000000000000000000000000000000000000000000000 ≤ RY := by omega
theorem rs_l5K {RY PP QQ : Int} (k6 : RY = 1000000000000000000000000000000000000 * (PP - 3 * QQ) + 1827127723508992151 * QQ) (hW : PP - 3 * QQ ≤ -338000000000000000000000000) (hQ : QQ ≤ 18900000000000000000000000000000000000000000) : 300000000000000000000000000000000000000000000000000000000000000 ≤ -RY := by omega
theorem rs_kpos : (0 : Int) < 300000000000000000000000000000000000000000000000000000000000000 := by omega
theorem rs_klu : (3600000000000000000000 : Int) * 44000000000000000000000000000000000000000 < 300000000000000000000000000000000000000000000000000000000000000 := by omega
theorem rs_l4Y {P Q : Int} (k1 : 1000000000000000000 ≤ 2 * (36800 * P)) (q2 : 1000000000000000000 ≤ 2 * (36800 * (-Q))) (p1 : P ≤ 35745584412271571086400) (q1 : -4345584412271571086400 ≤ Q) : 0 < 1000000000000000000 * P - 1732050807568877293 * Q ∧ 1000000000000000000 * P - 1732050807568877293 * Q ≤ 44000000000000000000000000000000000000000 := by
  constructor
  · omega
  · omega
theorem rs_l4 {P Q E T bb dd d : Int} (k1 : 1000000000000000000 ≤ 2 * (36800 * P)) (q2 : 1000000000000000000 ≤ 2 * (36800 * (-Q))) (k3 : 1000000000000000000 * T = 1000000000000000000 * P + 1732050807568877293 * Q + d * 1937203297062054936) (k4 : 1000000000000000000 ≤ 2 * (1387000000 * E)) (k5 : P * P - 3 * (Q * Q) = 1000000000000000000 * E - (bb - 3 * dd) * 2267518133157877696) (b1 : bb ≤ 3240000) (d0 : 0 ≤ dd) (p1 : P ≤ 35745584412271571086400) (q1 : -4345584412271571086400 ≤ Q) (hd : -1800 ≤ d ∧ d ≤ 1800) : 0 < T := by
  have hW := rs_l4W k4 k5 b1 d0
  have hK := rs_l4K (rs_id2 P Q) hW (rs_sqnn Q)
  have hY := rs_l4Y k1 q2 p1 q1
  exact rs_lT (rs_fin2 hK rs_kpos hY.1 hY.2 rs_klu) k3 hd
theorem rs_l5Y {P Q : Int} (p2 : 1000000000000000000 ≤ 2 * (36800 * (-P))) (k2 : 1000000000000000000 ≤ 2 * (36800 * Q)) (p1 : -35745584412271571086400 ≤ P) (q1 : Q ≤ 4345584412271571086400) : 0 < 1732050807568877293 * Q - 1000000000000000000 * P ∧ 1732050807568877293 * Q - 1000000000000000000 * P ≤ 44000000000000000000000000000000000000000 := by
  constructor
  · omega
  · omega
theorem rs_id5 (x y : Int) : (y + x) * (y - x) = -((x + y) * (x - y)) := by grind
theorem rs_qq : (4345584412271571086400 : Int) * 4345584412271571086400 ≤ 18900000000000000000000000000000000000000000 := by omega
theorem rs_l5 {P Q E T bb dd d : Int} (p2 : 1000000000000000000 ≤ 2 * (36800 * (-P))) (k2 : 1000000000000000000 ≤ 2 * (36800 * Q)) (k3 : 1000000000000000000 * T = 1000000000000000000 * P + 1732050807568877293 * Q + d * 1937203297062054936) (k4 : 1000000000000000000 ≤ 2 * (1387000000 * (-E))) (k5 : P * P - 3 * (Q * Q) = 1000000000000000000 * E - (bb - 3 * dd) * 2267518133157877696) (d1 : dd ≤ 3240000) (b0 : 0 ≤ bb) (p1 : -35745584412271571086400 ≤ P) (q0 : -4345584412271571086400 ≤ Q) (q1 : Q ≤ 4345584412271571086400) (hd : -1800 ≤ d ∧ d ≤ 1800) : 0 < T := by
  have hW := rs_l5W k4 k5 d1 b0
  have hq := rs_sqle q0 q1
  have hQ : Q * Q ≤ 18900000000000000000000000000000000000000000 := Int.le_trans hq rs_qq
  have hK := rs_l5K (rs_id2 P Q) hW hQ
  have hY := rs_l5Y p2 k2 p1 q1
  rw [← rs_id5] at hK
  have hR := rs_fin2 hK rs_kpos hY.1 hY.2 rs_klu
  rw [Int.add_comm] at hR
  exact rs_lT hR k3 hd
theorem rs_ngl {c d : Int} (M : Int) (h : 1000000000000000000 ≤ 2 * (M * (-c * 1000000000000000000 + -d * 1414213562373095048))) : 1000000000000000000 ≤ 2 * (M * (-(c * 1000000000000000000 + d * 1414213562373095048))) := by
  have e : -c * 1000000000000000000 + -d * 1414213562373095048 = -(c * 1000000000000000000 + d * 1414213562373095048) := by omega
  rw [e] at h
  exact h
theorem rs_PQ {a b : Int} (ha : -33200 ≤ a ∧ a ≤ 33200) (hb : -1800 ≤ b ∧ b ≤ 1800) : -35745584412271571086400 ≤ a * 1000000000000000000 + b * 1414213562373095048 ∧ a * 1000000000000000000 + b * 1414213562373095048 ≤ 35745584412271571086400 := by
  constructor
  · omega
  · omega
theorem rs_QQ {c d : Int} (hc : -1800 ≤ c ∧ c ≤ 1800) (hd : -1800 ≤ d ∧ d ≤ 1800) : -4345584412271571086400 ≤ c * 1000000000000000000 + d * 1414213562373095048 ∧ c * 1000000000000000000 + d * 1414213562373095048 ≤ 4345584412271571086400 := by
  constructor
  · omega
  · omega
theorem rs_sq18 {b : Int} (hb : -1800 ≤ b ∧ b ≤ 1800) : b * b ≤ 3240000 := by
  have h := rs_sqle (p := 1800) hb.1 hb.2
  omega
/-- P above 0 above Q, the squares' difference above 0: the sum is above 0 -/
theorem rs_pos4 {a b c d e f : Int} (hB : rs_B a b c d) (he : e = a * a + 2 * (b * b) - 3 * (c * c) - 6 * (d * d)) (hf : f = 2 * (a * b) - 6 * (c * d)) (h1 : rs_P a b) (h2 : rs_P (-c) (-d)) (h3 : rs_P e f) : 0 < rs_T a b c d := by
  have hef := rs_ef hB he hf
  have k5 := rs_id4 he hf
  clear he hf
  obtain ⟨ha, hb, hc, hd⟩ := hB
  have k2 := rs_up1 (a := -c) (b := -d) (by omega) (by omega) h2
  have k4 := rs_Ppos (M := 1387000000) h3 (by omega) (by omega) (by omega) (by omega) (by omega)
  exact rs_l4 (rs_up1 ha hb h1) (rs_ngl 36800 k2) (rs_ST a b c d) k4 k5 (rs_sq18 hb) (rs_sqnn d) (rs_PQ ha hb).2 (rs_QQ hc hd).1 hd
/-- P below 0 below Q, the squares' difference below 0: the sum is above 0 -/
theorem rs_pos5 {a b c d e f : Int} (hB : rs_B a b c d) (he : e = a * a + 2 * (b * b) - 3 * (c * c) - 6 * (d * d)) (hf : f = 2 * (a * b) - 6 * (c * d)) (h1 : rs_P (-a) (-b)) (h2 : rs_P c d) (h3 : rs_P (-e) (-f)) : 0 < rs_T a b c d := by
  have hef := rs_ef hB he hf
  have k5 := rs_id4 he hf
  clear he hf
  obtain ⟨ha, hb, hc, hd⟩ := hB
  have k1 := rs_up1 (a := -a) (b := -b) (by omega) (by omega) h1
  have k2 := rs_up1 (a := c) (b := d) (by omega) hd h2
  have k4 := rs_Ppos (M := 1387000000) h3 (by omega) (by omega) (by omega) (by omega) (by omega)
  exact rs_l5 (rs_ngl 36800 k1) k2 (rs_ST a b c d) (rs_ngl 1387000000 k4) k5 (rs_sq18 hd) (rs_sqnn b) (rs_PQ ha hb).1 (rs_QQ hc hd).1 (rs_QQ hc hd).2 hd
def rs_sg (a b c d : Int) : Int :=
  if rs_pr a b = rs_pr c d ∨ rs_pr c d = 0 then rs_pr a b else if rs_pr a b = 0 then rs_pr c d else rs_pr a b * rs_pr (a * a + 2 * (b * b) - 3 * (c * c) - 6 * (d * d)) (2 * (a * b) - 6 * (c * d))
theorem rs_Pnn {e f : Int} (h : rs_P e f) : rs_P (- -e) (- -f) := by
  rw [Int.neg_neg, Int.neg_neg]
  exact h
theorem rs_Tn {a b c d : Int} (h : 0 < rs_T (-a) (-b) (-c) (-d)) : rs_T a b c d < 0 := by
  unfold rs_T at *
  omega
theorem rs_Bn {a b c d : Int} (h : rs_B a b c d) : rs_B (-a) (-b) (-c) (-d) := by
  obtain ⟨ha, hb, hc, hd⟩ := h
  exact ⟨by omega, by omega, by omega, by omega⟩
theorem rs_main {a b c d : Int} (hB : rs_B a b c d) : (rs_sg a b c d = 0 ∧ a = 0 ∧ b = 0 ∧ c = 0 ∧ d = 0) ∨ (rs_sg a b c d = 1 ∧ 0 < rs_T a b c d) ∨ (rs_sg a b c d = -1 ∧ rs_T a b c d < 0) := by
  have hN := rs_Bn hB
  have he : a * a + 2 * (b * b) - 3 * (c * c) - 6 * (d * d) = (-a) * (-a) + 2 * ((-b) * (-b)) - 3 * ((-c) * (-c)) - 6 * ((-d) * (-d)) := by
    rw [Int.neg_mul_neg, Int.neg_mul_neg, Int.neg_mul_neg, Int.neg_mul_neg]
  have hf : 2 * (a * b) - 6 * (c * d) = 2 * ((-a) * (-b)) - 6 * ((-c) * (-d)) := by
    rw [Int.neg_mul_neg, Int.neg_mul_neg]
  unfold rs_sg
  rcases rs_tri a b with ⟨e1, z1, z2⟩ | ⟨e1, p1⟩ | ⟨e1, p1⟩
  · rcases rs_tri c d with ⟨e2, z3, z4⟩ | ⟨e2, p2⟩ | ⟨e2, p2⟩
    · rw [e1, e2]
      exact Or.inl ⟨by simp, z1, z2, z3, z4⟩
    · rw [e1, e2]
      subst z1 z2
      exact Or.inr (Or.inl ⟨by simp, rs_pos3 hB.2.2.1 hB.2.2.2 p2⟩)
    · rw [e1, e2]
      subst z1 z2
      refine Or.inr (Or.inr ⟨by simp, rs_Tn ?_⟩)
      exact rs_pos3 hN.2.2.1 hN.2.2.2 p2
  · rcases rs_tri c d with ⟨e2, z3, z4⟩ | ⟨e2, p2⟩ | ⟨e2, p2⟩
    · rw [e1, e2]
      subst z3 z4
      exact Or.inr (Or.inl ⟨by simp, rs_pos2 hB.1 hB.2.1 p1⟩)
    · rw [e1, e2]
      exact Or.inr (Or.inl ⟨by simp, rs_pos1 hB p1 p2⟩)
    · rcases rs_tri (a * a + 2 * (b * b) - 3 * (c * c) - 6 * (d * d)) (2 * (a * b) - 6 * (c * d)) with ⟨e3, z5, z6⟩ | ⟨e3, p3⟩ | ⟨e3, p3⟩
      · exfalso
        have h0 := rs_n0 (a := a) (b := b) (c := c) (d := d) (by omega) (by omega)
        rw [h0.1, h0.2.1] at e1
        exact absurd e1 (by decide)
      · rw [e1, e2, e3]
        exact Or.inr (Or.inl ⟨by simp, rs_pos4 hB rfl rfl p1 p2 p3⟩)
      · rw [e1, e2, e3]
        exact Or.inr (Or.inr ⟨by simp, rs_Tn (rs_pos5 hN he hf (rs_Pnn p1) p2 p3)⟩)
  · rcases rs_tri c d with ⟨e2, z3, z4⟩ | ⟨e2, p2⟩ | ⟨e2, p2⟩
    · rw [e1, e2]
      subst z3 z4
      refine Or.inr (Or.inr ⟨by simp, rs_Tn ?_⟩)
      exact rs_pos2 hN.1 hN.2.1 p1
    · rcases rs_tri (a * a + 2 * (b * b) - 3 * (c * c) - 6 * (d * d)) (2 * (a * b) - 6 * (c * d)) with ⟨e3, z5, z6⟩ | ⟨e3, p3⟩ | ⟨e3, p3⟩
      · exfalso
        have h0 := rs_n0 (a := a) (b := b) (c := c) (d := d) (by omega) (by omega)
        rw [h0.1, h0.2.1] at e1
        exact absurd e1 (by decide)
      · rw [e1, e2, e3]
        exact Or.inr (Or.inr ⟨by simp, rs_Tn (rs_pos4 hN he hf p1 (rs_Pnn p2) p3)⟩)
      · rw [e1, e2, e3]
        exact Or.inr (Or.inl ⟨by simp, rs_pos5 hB rfl rfl p1 p2 p3⟩)
    · rw [e1, e2]
      exact Or.inr (Or.inr ⟨by simp, rs_Tn (rs_pos1 hN p1 p2)⟩)
/-- the reference's reading: 0 where all four are, else by the sign of T -/
def rs_yv (a b c d : Int) : Int := if a = 0 ∧ b = 0 ∧ c = 0 ∧ d = 0 then 0 else if 0 < rs_T a b c d then 1 else -1
theorem rs_T0 : rs_T 0 0 0 0 = 0 := by
  unfold rs_T
  omega
theorem rs_xy {a b c d : Int} (hB : rs_B a b c d) : rs_sg a b c d = rs_yv a b c d := by
  unfold rs_yv
  rcases rs_main hB with ⟨h, z1, z2, z3, z4⟩ | ⟨h, t⟩ | ⟨h, t⟩
  · rw [h, if_pos ⟨z1, z2, z3, z4⟩]
  · have hn : ¬ (a = 0 ∧ b = 0 ∧ c = 0 ∧ d = 0) := by
      rintro ⟨rfl, rfl, rfl, rfl⟩
      rw [rs_T0] at t
      omega
    rw [h, if_neg hn, if_pos t]
  · have hn : ¬ (a = 0 ∧ b = 0 ∧ c = 0 ∧ d = 0) := by
      rintro ⟨rfl, rfl, rfl, rfl⟩
      rw [rs_T0] at t
      omega
    rw [h, if_neg hn, if_neg (by omega)]
theorem rs_ge {a b c d : Int} (hB : rs_B a b c d) : 0 ≤ rs_sg a b c d ↔ 0 ≤ rs_T a b c d := by
  rcases rs_main hB with ⟨h, rfl, rfl, rfl, rfl⟩ | ⟨h, t⟩ | ⟨h, t⟩
  · rw [h, rs_T0]
  · rw [h]
    omega
  · rw [h]
    omega
