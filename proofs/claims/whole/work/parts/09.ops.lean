/-! part 09: sums, products, quotients: the walks of both sides -/
theorem rs_adXl {post : SX → Prop} {c : Nat → Int32} {f s : Nat → Int64} {x y : Nat → Int} {t : Int32} {T : Int} (ht : t.toInt64 = Int64.ofInt T) (hf : rs_L f x 5) (hs : rs_L s y 5) (H : ∀ R, rs_L R (rs_add T x y) 5 → post (c, f, s, R)) : ∀ (d i : Nat) (R : Nat → Int64), i + d = 4 → rs_L R (rs_add T x y) i → wX_addTimes_21 post t (d + 1) (nI i) c f s R := by
  intro d
  induction d with
  | zero =>
    intro i R hi hL
    obtain rfl : i = 4 := by omega
    refine br_t (by decide) (fun a ea => ?_)
    rw [ea]
    refine H _ (rs_Lu hL ?_)
    rw [hf 4 (by omega), hs 4 (by omega), ← Int64.ofInt_mul]
    rfl
  | succ d ih =>
    intro i R hi hL
    refine pk_le 4 i (fun h => absurd h (by omega)) (fun _ => ⟨vp_in_nI (by omega) (by omega), vp_in_nI (by omega) (by omega), vp_in_nI (by omega) (by omega), fun a ea j ej => ?_⟩)
    rw [ej, nI_1, ea, nI_clamp (by omega)]
    refine ih (i + 1) _ (by omega) (rs_Lu hL ?_)
    rw [hf i (by omega), hs i (by omega), hf 4 (by omega), hs 4 (by omega), ht, ← Int64.ofInt_mul, ← Int64.ofInt_mul, ← Int64.ofInt_mul, ← Int64.ofInt_add]
    have e : rs_add T x y i = x i * y 4 + T * y i * x 4 := if_pos (by omega)
    rw [e]
theorem rs_adX {post : SX → Prop} {c : Nat → Int32} {f s R : Nat → Int64} {x y : Nat} (hx : x < 6) (hy : y < 6) {t : Int32} {T : Int} (ht : t.toInt64 = Int64.ofInt T) (H : ∀ f s R, rs_L R (rs_add T (rs_z c x) (rs_z c y)) 5 → post (c, f, s, R)) : wpX_addTimes post (c, f, s, R) (nI x) (nI y) t := by
  unfold wpX_addTimes
  dsimp only
  refine rs_ldF hx (fun f' hf => ?_)
  dsimp only
  refine rs_ldS hy (fun s' hs => ?_)
  dsimp only
  exact ⟨5, rs_adXl ht hf hs (H f' s') 4 0 R rfl (rs_L0 _ _)⟩
theorem rs_t1 : (1 : Int32).toInt64 = Int64.ofInt 1 := by decide
theorem rs_tm1 : (-1 : Int32).toInt64 = Int64.ofInt (-1) := by decide
theorem rs_m32 {a b : Int32} (h1 : -2147483648 ≤ a.toInt * b.toInt) (h2 : a.toInt * b.toInt < 2147483648) : (a * b).toInt = a.toInt * b.toInt := by
  rw [Int32.toInt_mul]
  exact Int.bmod_eq_of_le (by omega) (by omega)
theorem rs_tv1 : (1 : Int32).toInt = 1 := by decide
theorem rs_tvm1 : (-1 : Int32).toInt = -1 := by decide
theorem rs_cmYl {post : SY → Prop} {c : Nat → Int32} {X C : Nat → Int64} {x y : Nat} (hx : x < 6) (hy : y < 6) (hc : rs_Rc c) {t : Int32} {T : Int} (ht : t.toInt = T) (hT : T = 1 ∨ T = -1) {p q : Int64} (hp : p = Int64.ofInt (rs_z c x 4)) (hq : q = Int64.ofInt (rs_z c y 4)) (H : ∀ M, rs_L M (rs_add T (rs_z c x) (rs_z c y)) 5 → post (c, M, X, C)) : ∀ (d i : Nat) (M : Nat → Int64), i + d = 4 → rs_L M (rs_add T (rs_z c x) (rs_z c y)) i → wY_combine_29 post (nI x) (nI y) t p q (d + 1) (nI i) c M X C := by
  intro d
  induction d with
  | zero =>
    intro i R hi hL
    obtain rfl : i = 4 := by omega
    refine br_t (by decide) (fun a ea => ?_)
    rw [ea]
    refine H _ (rs_Lu hL ?_)
    rw [hp, hq, ← Int64.ofInt_mul]
    rfl
  | succ d ih =>
    intro i R hi hL
    refine pk_le 4 i (fun h => absurd h (by omega)) (fun _ => ⟨rs_inY hx (by omega), rs_inY hy (by omega), vp_in_nI (by omega) (by omega), fun a ea j ej => ?_⟩)
    rw [ej, nI_1, ea, rs_clY hx (by omega), rs_clY hy (by omega), nI_clamp (by omega)]
    refine ih (i + 1) _ (by omega) (rs_Lu hL ?_)
    have hb := rs_okb (hc y hy) (k := i) (by omega)
    have hz : (c (5 * y + i)).toInt = rs_z c y i := rfl
    have hm : (t * c (5 * y + i)).toInt = T * rs_z c y i := by
      rw [rs_m32, ht, hz]
      · rw [ht, hz]
        rcases hT with rfl | rfl <;> omega
      · rw [ht, hz]
        rcases hT with rfl | rfl <;> omega
    rw [rs_ld, rs_c64 (t * c (5 * y + i)), hm, hp, hq, ← Int64.ofInt_mul, ← Int64.ofInt_mul, ← Int64.ofInt_add]
    have e : rs_add T (rs_z c x) (rs_z c y) i = rs_z c x i * rs_z c y 4 + T * rs_z c y i * rs_z c x 4 := if_pos (by omega)
    rw [e]
theorem rs_cmY {post : SY → Prop} {c : Nat → Int32} {M X C : Nat → Int64} {x y : Nat} (hx : x < 6) (hy : y < 6) (hc : rs_Rc c) {t : Int32} {T : Int} (ht : t.toInt = T) (hT : T = 1 ∨ T = -1) (H : ∀ M, rs_L M (rs_add T (rs_z c x) (rs_z c y)) 5 → post (c, M, X, C)) : wpY_combine post (c, M, X, C) (nI x) (nI y) t := by
  unfold wpY_combine
  dsimp only
  refine ⟨rs_inY (k := 4) hx (by omega), fun p ep => ⟨rs_inY (k := 4) hy (by omega), fun q eq => ⟨5, ?_⟩⟩⟩
  refine rs_cmYl hx hy hc ht hT ?_ ?_ H 4 0 M rfl (rs_L0 _ _)
  · have e : (5 * nI x + 4).toNatClampNeg = 5 * x + 4 := rs_clY (k := 4) hx (by omega)
    rw [ep, e, rs_ld]
  · have e : (5 * nI y + 4).toNatClampNeg = 5 * y + 4 := rs_clY (k := 4) hy (by omega)
    rw [eq, e, rs_ld]
theorem rs_L5 {w : Nat → Int64} {z : Nat → Int} (h0 : w 0 = Int64.ofInt (z 0)) (h1 : w 1 = Int64.ofInt (z 1)) (h2 : w 2 = Int64.ofInt (z 2)) (h3 : w 3 = Int64.ofInt (z 3)) (h4 : w 4 = Int64.ofInt (z 4)) : rs_L w z 5 :=
  fun _ hk => rs_co5 (P := fun k => w k = Int64.ofInt (z k)) h0 h1 h2 h3 h4 hk
theorem rs_o2 : Int64.ofInt 2 = 2 := rfl
theorem rs_o3 : Int64.ofInt 3 = 3 := rfl
theorem rs_o4 : Int64.ofInt 4 = 4 := rfl
theorem rs_o6 : Int64.ofInt 6 = 6 := rfl
theorem rs_muX {post : SX → Prop} {c : Nat → Int32} {f s R : Nat → Int64} {x y : Nat → Int} (hf : rs_L f x 5) (hs : rs_L s y 5) (H : ∀ R, rs_L R (rs_mul x y) 5 → post (c, f, s, R)) : wpX_multiplyLoaded post (c, f, s, R) := by
  intro a ea b eb p ep d ed R0 e0 R1 e1 R2 e2 R3 e3 R4 e4
  refine H R4 ?_
  have f0 := hf 0 (by omega)
  have f1 := hf 1 (by omega)
  have f2 := hf 2 (by omega)
  have f3 := hf 3 (by omega)
  have f4 := hf 4 (by omega)
  have s0 := hs 0 (by omega)
  have s1 := hs 1 (by omega)
  have s2 := hs 2 (by omega)
  have s3 := hs 3 (by omega)
  have s4 := hs 4 (by omega)
  rw [f0] at ea
  rw [f1] at eb
  rw [f2] at ep
  rw [f3] at ed
  rw [ea, eb, ep, ed, s0, s1, s2, s3] at e0
  rw [ea, eb, ep, ed, s0, s1, s2, s3] at e1
  rw [ea, eb, ep, ed, s0, s1, s2, s3] at e2
  rw [ea, eb, ep, ed, s0, s1, s2, s3] at e3
  rw [f4, s4] at e4
  subst e4 e3 e2 e1 e0
  apply rs_L5
  · show Int64.ofInt (x 0) * Int64.ofInt (y 0) + 2 * Int64.ofInt (x 1) * Int64.ofInt (y 1) + 3 * Int64.ofInt (x 2) * Int64.ofInt (y 2) + 6 * Int64.ofInt (x 3) * Int64.ofInt (y 3) = Int64.ofInt (x 0 * y 0 + 2 * x 1 * y 1 + 3 * x 2 * y 2 + 6 * x 3 * y 3)
    simp only [Int64.ofInt_add, Int64.ofInt_mul, rs_o2, rs_o3, rs_o6]
  · show Int64.ofInt (x 0) * Int64.ofInt (y 1) + Int64.ofInt (x 1) * Int64.ofInt (y 0) + 3 * Int64.ofInt (x 2) * Int64.ofInt (y 3) + 3 * Int64.ofInt (x 3) * Int64.ofInt (y 2) = Int64.ofInt (x 0 * y 1 + x 1 * y 0 + 3 * x 2 * y 3 + 3 * x 3 * y 2)
    simp only [Int64.ofInt_add, Int64.ofInt_mul, rs_o2, rs_o3, rs_o6]
  · show Int64.ofInt (x 0) * Int64.ofInt (y 2) + Int64.ofInt (x 2) * Int64.ofInt (y 0) + 2 * Int64.ofInt (x 1) * Int64.ofInt (y 3) + 2 * Int64.ofInt (x 3) * Int64.ofInt (y 1) = Int64.ofInt (x 0 * y 2 + x 2 * y 0 + 2 * x 1 * y 3 + 2 * x 3 * y 1)
    simp only [Int64.ofInt_add, Int64.ofInt_mul, rs_o2, rs_o3, rs_o6]
  · show Int64.ofInt (x 0) * Int64.ofInt (y 3) + Int64.ofInt (x 3) * Int64.ofInt (y 0) + Int64.ofInt (x 1) * Int64.ofInt (y 2) + Int64.ofInt (x 2) * Int64.ofInt (y 1) = Int64.ofInt (x 0 * y 3 + x 3 * y 0 + x 1 * y 2 + x 2 * y 1)
    simp only [Int64.ofInt_add, Int64.ofInt_mul, rs_o2, rs_o3, rs_o6]
  · show Int64.ofInt (x 4) * Int64.ofInt (y 4) = Int64.ofInt (x 4 * y 4)
    rw [Int64.ofInt_mul]
theorem rs_pwS {post : Int64 → Prop} {c : Nat → Int32} {f s R : Nat → Int64} {y : Nat → Int} (hy : rs_L s y 5) (H : post (Int64.ofInt (rs_u y))) : wpX_pairWhole__second post (c, f, s, R) := by
  unfold wpX_pairWhole__second
  dsimp only
  rw [hy 0 (by omega), hy 1 (by omega), hy 2 (by omega), hy 3 (by omega)]
  have e : Int64.ofInt (rs_u y) = Int64.ofInt (y 0) * Int64.ofInt (y 0) - 2 * Int64.ofInt (y 1) * Int64.ofInt (y 1) + 3 * Int64.ofInt (y 2) * Int64.ofInt (y 2) - 6 * Int64.ofInt (y 3) * Int64.ofInt (y 3) := by
    simp only [rs_u, Int64.ofInt_add, Int64.ofInt_sub, Int64.ofInt_mul, rs_o2, rs_o3, rs_o6]
  rw [← e]
  exact H
theorem rs_pr3S {post : Int64 → Prop} {c : Nat → Int32} {f s R : Nat → Int64} {y : Nat → Int} (hy : rs_L s y 5) (H : post (Int64.ofInt (rs_v y))) : wpX_pairRoot3__second post (c, f, s, R) := by
  unfold wpX_pairRoot3__second
  dsimp only
  rw [hy 0 (by omega), hy 1 (by omega), hy 2 (by omega), hy 3 (by omega)]
  have e : Int64.ofInt (rs_v y) = 2 * Int64.ofInt (y 0) * Int64.ofInt (y 2) - 4 * Int64.ofInt (y 1) * Int64.ofInt (y 3) := by
    simp only [rs_v, Int64.ofInt_sub, Int64.ofInt_mul, rs_o2, rs_o4]
  rw [← e]
  exact H
theorem rs_cpS {post : Int64 → Prop} {c : Nat → Int32} {f s R : Nat → Int64} {y : Nat → Int} (hy : rs_L s y 5) (H : post (Int64.ofInt (rs_N y))) : wpX_conjugateProduct__second post (c, f, s, R) := by
  unfold wpX_conjugateProduct__second
  dsimp only
  refine rs_pwS hy ?_
  refine rs_pr3S hy ?_
  have e : Int64.ofInt (rs_N y) = Int64.ofInt (rs_u y) * Int64.ofInt (rs_u y) - 3 * Int64.ofInt (rs_v y) * Int64.ofInt (rs_v y) := by
    simp only [rs_N, Int64.ofInt_sub, Int64.ofInt_mul, rs_o3]
  rw [← e]
  exact H
theorem rs_pwF {post : Int64 → Prop} {c : Nat → Int32} {f s R : Nat → Int64} {y : Nat → Int} (hy : rs_L f y 5) (H : post (Int64.ofInt (rs_u y))) : wpX_pairWhole__first post (c, f, s, R) := by
  unfold wpX_pairWhole__first
  dsimp only
  rw [hy 0 (by omega), hy 1 (by omega), hy 2 (by omega), hy 3 (by omega)]
  have e : Int64.ofInt (rs_u y) = Int64.ofInt (y 0) * Int64.ofInt (y 0) - 2 * Int64.ofInt (y 1) * Int64.ofInt (y 1) + 3 * Int64.ofInt (y 2) * Int64.ofInt (y 2) - 6 * Int64.ofInt (y 3) * Int64.ofInt (y 3) := by
    simp only [rs_u, Int64.ofInt_add, Int64.ofInt_sub, Int64.ofInt_mul, rs_o2, rs_o3, rs_o6]
  rw [← e]
  exact H
theorem rs_pr3F {post : Int64 → Prop} {c : Nat → Int32} {f s R : Nat → Int64} {y : Nat → Int} (hy : rs_L f y 5) (H : post (Int64.ofInt (rs_v y))) : wpX_pairRoot3__first post (c, f, s, R) := by
  unfold wpX_pairRoot3__first
  dsimp only
  rw [hy 0 (by omega), hy 1 (by omega), hy 2 (by omega), hy 3 (by omega)]
  have e : Int64.ofInt (rs_v y) = 2 * Int64.ofInt (y 0) * Int64.ofInt (y 2) - 4 * Int64.ofInt (y 1) * Int64.ofInt (y 3) := by
    simp only [rs_v, Int64.ofInt_sub, Int64.ofInt_mul, rs_o2, rs_o4]
  rw [← e]
  exact H
theorem rs_cpF {post : Int64 → Prop} {c : Nat → Int32} {f s R : Nat → Int64} {y : Nat → Int} (hy : rs_L f y 5) (H : post (Int64.ofInt (rs_N y))) : wpX_conjugateProduct__first post (c, f, s, R) := by
  unfold wpX_conjugateProduct__first
  dsimp only
  refine rs_pwF hy ?_
  refine rs_pr3F hy ?_
  have e : Int64.ofInt (rs_N y) = Int64.ofInt (rs_u y) * Int64.ofInt (rs_u y) - 3 * Int64.ofInt (rs_v y) * Int64.ofInt (rs_v y) := by
    simp only [rs_N, Int64.ofInt_sub, Int64.ofInt_mul, rs_o3]
  rw [← e]
  exact H
theorem rs_ivX {post : SX → Prop} {c : Nat → Int32} {f s R : Nat → Int64} {y : Nat → Int} (hs : rs_L s y 5) (H : ∀ s, rs_L s (rs_inv y) 5 → post (c, f, s, R)) : wpX_invert__second post (c, f, s, R) := by
  unfold wpX_invert__second
  dsimp only
  refine rs_pwS hs ?_
  refine rs_pr3S hs ?_
  refine rs_cpS hs ?_
  intro a ea b eb p ep d ed m em S0 e0 S1 e1 S2 e2 S3 e3 S4 e4
  refine H S4 ?_
  rw [hs 0 (by omega)] at ea
  rw [hs 1 (by omega)] at eb
  rw [hs 2 (by omega)] at ep
  rw [hs 3 (by omega)] at ed
  rw [hs 4 (by omega)] at em
  subst ea eb ep ed em e4 e3 e2 e1 e0
  apply rs_L5
  · show Int64.ofInt (y 4) * (Int64.ofInt (y 0) * Int64.ofInt (rs_u y) - 3 * Int64.ofInt (y 2) * Int64.ofInt (rs_v y)) = Int64.ofInt (y 4 * (y 0 * rs_u y - 3 * y 2 * rs_v y))
    simp only [Int64.ofInt_sub, Int64.ofInt_mul, rs_o3]
  · show Int64.ofInt (y 4) * (3 * Int64.ofInt (y 3) * Int64.ofInt (rs_v y) - Int64.ofInt (y 1) * Int64.ofInt (rs_u y)) = Int64.ofInt (y 4 * (3 * y 3 * rs_v y - y 1 * rs_u y))
    simp only [Int64.ofInt_sub, Int64.ofInt_mul, rs_o3]
  · show Int64.ofInt (y 4) * (Int64.ofInt (y 2) * Int64.ofInt (rs_u y) - Int64.ofInt (y 0) * Int64.ofInt (rs_v y)) = Int64.ofInt (y 4 * (y 2 * rs_u y - y 0 * rs_v y))
    simp only [Int64.ofInt_sub, Int64.ofInt_mul]
  · show Int64.ofInt (y 4) * (Int64.ofInt (y 1) * Int64.ofInt (rs_v y) - Int64.ofInt (y 3) * Int64.ofInt (rs_u y)) = Int64.ofInt (y 4 * (y 1 * rs_v y - y 3 * rs_u y))
    simp only [Int64.ofInt_sub, Int64.ofInt_mul]
  · show Int64.ofInt (rs_N y) = Int64.ofInt (rs_N y)
    rfl
