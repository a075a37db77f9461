/-! part 10: the reference's matrix, product, determinants; zero; conjugates and flips (written by wip/whole/gen_walks2.py) -/
theorem rs_co16 {P : Nat → Prop} (h0 : P 0) (h1 : P 1) (h2 : P 2) (h3 : P 3) (h4 : P 4) (h5 : P 5) (h6 : P 6) (h7 : P 7) (h8 : P 8) (h9 : P 9) (h10 : P 10) (h11 : P 11) (h12 : P 12) (h13 : P 13) (h14 : P 14) (h15 : P 15) {k : Nat} (hk : k < 16) : P k := by
  rcases (show k = 0 ∨ k = 1 ∨ k = 2 ∨ k = 3 ∨ k = 4 ∨ k = 5 ∨ k = 6 ∨ k = 7 ∨ k = 8 ∨ k = 9 ∨ k = 10 ∨ k = 11 ∨ k = 12 ∨ k = 13 ∨ k = 14 ∨ k = 15 by omega) with rfl | rfl | rfl | rfl | rfl | rfl | rfl | rfl | rfl | rfl | rfl | rfl | rfl | rfl | rfl | rfl
  · exact h0
  · exact h1
  · exact h2
  · exact h3
  · exact h4
  · exact h5
  · exact h6
  · exact h7
  · exact h8
  · exact h9
  · exact h10
  · exact h11
  · exact h12
  · exact h13
  · exact h14
  · exact h15
theorem rs_smYl {post : SY → Prop} {c : Nat → Int32} {M C : Nat → Int64} {z : Nat → Int} {a b p q : Int64} (ha : a = Int64.ofInt (z 0)) (hb : b = Int64.ofInt (z 1)) (hp : p = Int64.ofInt (z 2)) (hq : q = Int64.ofInt (z 3)) (H : ∀ X, rs_L X (rs_mat z) 16 → post (c, M, X, C)) : ∀ (d i : Nat) (X : Nat → Int64), i + d = 4 → (∀ j, j < i → X (5 * j) = a) → wY_setMatrix_52 post a b p q (d + 1) (nI i) c M X C := by
  intro d
  induction d with
  | zero =>
    intro i X hi hX
    obtain rfl : i = 4 := by omega
    refine br_t (by decide) ?_
    intro X1 e1 X2 e2 X3 e3 X4 e4 X5 e5 X6 e6 X7 e7 X8 e8 X9 e9 X10 e10 X11 e11 X12 e12
    refine H X12 ?_
    have x0 : X 0 = a := hX 0 (by omega)
    have x5 : X 5 = a := hX 1 (by omega)
    have x10 : X 10 = a := hX 2 (by omega)
    have x15 : X 15 = a := hX 3 (by omega)
    subst e12 e11 e10 e9 e8 e7 e6 e5 e4 e3 e2 e1
    have t1 : 2 * b = Int64.ofInt (2 * z 1) := by rw [hb, Int64.ofInt_mul, rs_o2]
    have t2 : 3 * p = Int64.ofInt (3 * z 2) := by rw [hp, Int64.ofInt_mul, rs_o3]
    have t3 : 6 * q = Int64.ofInt (6 * z 3) := by rw [hq, Int64.ofInt_mul, rs_o6]
    have t4 : 3 * q = Int64.ofInt (3 * z 3) := by rw [hq, Int64.ofInt_mul, rs_o3]
    have t5 : 2 * q = Int64.ofInt (2 * z 3) := by rw [hq, Int64.ofInt_mul, rs_o2]
    intro k hk
    refine rs_co16 (P := fun k => vp_updL (vp_updL (vp_updL (vp_updL (vp_updL (vp_updL (vp_updL (vp_updL (vp_updL (vp_updL (vp_updL (vp_updL X 1 (2 * b)) 2 (3 * p)) 3 (6 * q)) 4 b) 6 (3 * q)) 7 (3 * p)) 8 p) 9 (2 * q)) 11 (2 * b)) 12 q) 13 p) 14 b k = Int64.ofInt (rs_mat z k)) ?_ ?_ ?_ ?_ ?_ ?_ ?_ ?_ ?_ ?_ ?_ ?_ ?_ ?_ ?_ ?_ hk
    · exact x0.trans ha
    · exact t1
    · exact t2
    · exact t3
    · exact hb
    · exact x5.trans ha
    · exact t4
    · exact t2
    · exact hp
    · exact t5
    · exact x10.trans ha
    · exact t1
    · exact hq
    · exact hp
    · exact hb
    · exact x15.trans ha
  | succ d ih =>
    intro i X hi hX
    have e5 : (5 * nI i).toNatClampNeg = 5 * i := by
      rw [rs_ixY0]
      exact nI_clamp (by omega)
    have i5 : vp_in (5 * nI i) 16 := by
      rw [rs_ixY0]
      exact vp_in_nI (by omega) (by omega)
    refine pk_le 4 i (fun h => absurd h (by omega)) (fun _ => ⟨i5, fun w ew y ey => ?_⟩)
    rw [ey, nI_1, ew, e5]
    refine ih (i + 1) _ (by omega) ?_
    intro j hj
    unfold vp_updL
    by_cases h : j = i
    · rw [if_pos (by omega)]
    · rw [if_neg (by omega)]
      exact hX j (by omega)
theorem rs_clYk {r : Nat} (hr : r < 6) : (5 * nI r + 1).toNatClampNeg = 5 * r + 1 ∧ (5 * nI r + 2).toNatClampNeg = 5 * r + 2 ∧ (5 * nI r + 3).toNatClampNeg = 5 * r + 3 ∧ (5 * nI r + 4).toNatClampNeg = 5 * r + 4 :=
  ⟨rs_clY (k := 1) hr (by omega), rs_clY (k := 2) hr (by omega), rs_clY (k := 3) hr (by omega), rs_clY (k := 4) hr (by omega)⟩
theorem rs_smY {post : SY → Prop} {c : Nat → Int32} {M X C : Nat → Int64} {y : Nat} (hy : y < 6) (H : ∀ X, rs_L X (rs_mat (rs_z c y)) 16 → post (c, M, X, C)) : wpY_setMatrix post (c, M, X, C) (nI y) := by
  unfold wpY_setMatrix
  dsimp only
  obtain ⟨k1, k2, k3, k4⟩ := rs_clYk hy
  refine ⟨rs_inY0 hy, fun a ea => ⟨rs_inY (k := 1) hy (by omega), fun b eb => ⟨rs_inY (k := 2) hy (by omega), fun p ep => ⟨rs_inY (k := 3) hy (by omega), fun q eq => ⟨5, ?_⟩⟩⟩⟩⟩
  refine rs_smYl (z := rs_z c y) ?_ ?_ ?_ ?_ H 4 0 X rfl (fun j hj => absurd hj (by omega))
  · rw [ea, rs_clY0 hy, rs_ld]
  · rw [eb, k1, rs_ld]
  · rw [ep, k2, rs_ld]
  · rw [eq, k3, rs_ld]
theorem rs_ix4 (r k : Nat) : 4 * nI r + nI k = nI (4 * r + k) := by
  have h : nI 4 * nI r + nI k = nI (4 * r + k) := by
    rw [pk_mul, nI_add]
  exact h
theorem rs_in4 {r k : Nat} (hr : r < 4) (hk : k < 4) : vp_in (4 * nI r + nI k) 16 := by
  rw [rs_ix4]
  exact vp_in_nI (by omega) (by omega)
theorem rs_cl4 {r k : Nat} (hr : r < 4) (hk : k < 4) : (4 * nI r + nI k).toNatClampNeg = 4 * r + k := by
  rw [rs_ix4]
  exact nI_clamp (by omega)
def rs_ps (x y : Nat → Int) (k : Nat) : Nat → Int
  | 0 => 0
  | i + 1 => rs_ps x y k i + rs_mat y (4 * k + i) * x i
theorem rs_ps4 (x y : Nat → Int) {k : Nat} (hk : k < 4) : rs_ps x y k 4 = rs_mul x y k := by
  rw [← rs_row x y hk]
  show 0 + rs_mat y (4 * k + 0) * x 0 + rs_mat y (4 * k + 1) * x 1 + rs_mat y (4 * k + 2) * x 2 + rs_mat y (4 * k + 3) * x 3 = _
  rw [Int.zero_add]
theorem rs_pr18 {post : SY → Prop} {J : Int32 → (Nat → Int32) → (Nat → Int64) → (Nat → Int64) → (Nat → Int64) → Prop} {c : Nat → Int32} {M X C : Nat → Int64} {x k : Nat} {p2 : Int32} {y : Nat → Int} (hx : x < 6) (hk : k < 4) (hX : rs_L X (rs_mat y) 16) (H : J (nI (k + 1)) c (vp_updL M k (Int64.ofInt (rs_mul (rs_z c x) y k))) X C) : ∀ (d i : Nat), i + d = 4 → wY_product_18 post J (nI x) p2 (nI k) c M X C (d + 1) (Int64.ofInt (rs_ps (rs_z c x) y k i)) (nI i) := by
  intro d
  induction d with
  | zero =>
    intro i hi
    obtain rfl : i = 4 := by omega
    refine br_t (by decide) ⟨vp_in_nI (by omega) (by omega), fun a ea j ej => ?_⟩
    rw [ej, nI_1, ea, nI_clamp (by omega), rs_ps4 _ _ hk]
    exact H
  | succ d ih =>
    intro i hi
    refine pk_le 4 i (fun h => absurd h (by omega)) (fun _ => ⟨rs_in4 hk (by omega), rs_inY hx (by omega), fun a ea j ej => ?_⟩)
    rw [ej, nI_1, ea, rs_cl4 hk (by omega), rs_clY hx (by omega), hX _ (by omega), rs_ld, ← Int64.ofInt_mul, ← Int64.ofInt_add]
    exact ih (i + 1) (by omega)
theorem rs_pr7 {post : SY → Prop} {c : Nat → Int32} {X C : Nat → Int64} {x y : Nat} (hx : x < 6) (hy : y < 6) (hc : rs_Rc c) (hX : rs_L X (rs_mat (rs_z c y)) 16) (H : ∀ M, rs_L M (rs_mul (rs_z c x) (rs_z c y)) 5 → post (c, M, X, C)) : ∀ (d k : Nat) (M : Nat → Int64), k + d = 4 → rs_L M (rs_mul (rs_z c x) (rs_z c y)) k → wY_product_7 post (nI x) (nI y) (d + 1) (nI k) c M X C := by
  intro d
  induction d with
  | zero =>
    intro k M hk hL
    obtain rfl : k = 4 := by omega
    obtain ⟨_, _, _, kx⟩ := rs_clYk hx
    obtain ⟨_, _, _, ky⟩ := rs_clYk hy
    refine br_t (by decide) ⟨rs_inY (k := 4) hx (by omega), rs_inY (k := 4) hy (by omega), fun a ea => ?_⟩
    rw [ea, kx, ky]
    refine H _ (rs_Lu hL ?_)
    have b := rs_mc 30 30 900 (by omega) (rs_okb (hc x hx) (k := 4) (by omega)) (rs_okb (hc y hy) (k := 4) (by omega))
    have e1 : (c (5 * x + 4)).toInt = rs_z c x 4 := rfl
    have e2 : (c (5 * y + 4)).toInt = rs_z c y 4 := rfl
    rw [rs_c64, rs_m32, e1, e2]
    · rfl
    · rw [e1, e2]
      omega
    · rw [e1, e2]
      omega
  | succ d ih =>
    intro k M hk hL
    refine pk_le 4 k (fun h => absurd h (by omega)) (fun _ => ⟨5, ?_⟩)
    refine rs_pr18 hx (by omega) hX ?_ 4 0 rfl
    exact ih (k + 1) _ (by omega) (rs_Lu hL rfl)
theorem rs_prY {post : SY → Prop} {c : Nat → Int32} {M X C : Nat → Int64} {x y : Nat} (hx : x < 6) (hy : y < 6) (hc : rs_Rc c) (H : ∀ M X, rs_L M (rs_mul (rs_z c x) (rs_z c y)) 5 → post (c, M, X, C)) : wpY_product post (c, M, X, C) (nI x) (nI y) := by
  unfold wpY_product
  dsimp only
  refine rs_smY hy (fun X' hX => ?_)
  dsimp only
  exact ⟨5, rs_pr7 hx hy hc hX (fun M' h => H M' X' h) 4 0 M rfl (rs_L0 _ _)⟩
theorem rs_miY {post : Int64 → Prop} {c : Nat → Int32} {M X C : Nat → Int64} {E : Nat → Int} (hC : rs_L C E 16) (i k p q : Nat) (hi : i < 4) (hk : k < 4) (hp : p < 4) (hq : q < 4) (H : post (Int64.ofInt (rs_mi E i k p q))) : wpY_minor post (c, M, X, C) (nI i) (nI k) (nI p) (nI q) := by
  unfold wpY_minor
  dsimp only
  refine ⟨rs_in4 hi hp, rs_in4 hk hq, rs_in4 hi hq, rs_in4 hk hp, ?_⟩
  rw [rs_cl4 hi hp, rs_cl4 hk hq, rs_cl4 hi hq, rs_cl4 hk hp, hC _ (by omega), hC _ (by omega), hC _ (by omega), hC _ (by omega), ← Int64.ofInt_mul, ← Int64.ofInt_mul, ← Int64.ofInt_sub]
  exact H
theorem rs_4n0 : ¬ (4 : Int32) = 0 := by decide
theorem rs_deYl {post : Int64 → SY → Prop} {c : Nat → Int32} {M X : Nat → Int64} {n x : Nat} {y : Nat → Int} (hx : x < 6) (hn : n ≤ 4) (hX : rs_L X (rs_mat y) 16) (H : ∀ C, post (Int64.ofInt (rs_det (rs_ch n (rs_z c x) y))) (c, M, X, C)) : ∀ (d i : Nat) (C : Nat → Int64), i + d = 16 → rs_L C (rs_ch n (rs_z c x) y) i → wY_determinant_2 post (nI n) (nI x) (d + 1) (nI i) c M X C := by
  intro d
  induction d with
  | zero =>
    intro i C hi hL
    obtain rfl : i = 16 := by omega
    refine br_t (by decide) ?_
    refine rs_miY hL 0 1 0 1 (by omega) (by omega) (by omega) (by omega) ?_
    refine rs_miY hL 2 3 2 3 (by omega) (by omega) (by omega) (by omega) ?_
    intro s1 e1
    refine rs_miY hL 0 1 0 2 (by omega) (by omega) (by omega) (by omega) ?_
    refine rs_miY hL 2 3 1 3 (by omega) (by omega) (by omega) (by omega) ?_
    intro s2 e2
    refine rs_miY hL 0 1 0 3 (by omega) (by omega) (by omega) (by omega) ?_
    refine rs_miY hL 2 3 1 2 (by omega) (by omega) (by omega) (by omega) ?_
    intro s3 e3
    refine rs_miY hL 0 1 1 2 (by omega) (by omega) (by omega) (by omega) ?_
    refine rs_miY hL 2 3 0 3 (by omega) (by omega) (by omega) (by omega) ?_
    intro s4 e4
    refine rs_miY hL 0 1 1 3 (by omega) (by omega) (by omega) (by omega) ?_
    refine rs_miY hL 2 3 0 2 (by omega) (by omega) (by omega) (by omega) ?_
    intro s5 e5
    refine rs_miY hL 0 1 2 3 (by omega) (by omega) (by omega) (by omega) ?_
    refine rs_miY hL 2 3 0 1 (by omega) (by omega) (by omega) (by omega) ?_
    have K := H C
    unfold rs_det at K
    rw [e5, e4, e3, e2, e1, ← Int64.ofInt_mul, ← Int64.ofInt_mul, ← Int64.ofInt_mul, ← Int64.ofInt_mul, ← Int64.ofInt_mul, ← Int64.ofInt_mul, ← Int64.ofInt_sub, ← Int64.ofInt_add, ← Int64.ofInt_add, ← Int64.ofInt_sub, ← Int64.ofInt_add]
    exact K
  | succ d ih =>
    intro i C hi hL
    have er : nI i - nI i / 4 * 4 = nI (i % 4) := pk_rem (d := 4) (by omega) (by omega) (by omega)
    have ed : nI i / 4 = nI (i / 4) := pk_div (d := 4) (by omega) (by omega) (by omega)
    have el := Nat.mod_lt i (show 0 < 4 by omega)
    refine pk_le 16 i (fun h => absurd h (by omega)) (fun _ => ⟨rs_4n0, ?_⟩)
    refine pk_eq (i % 4) n (fun h => ⟨rs_4n0, ?_⟩) (fun h => ⟨vp_in_nI (by omega) (by omega), vp_in_nI (by omega) (by omega), fun a ea j ej => ?_⟩) er
    · rw [ed]
      refine ⟨rs_inY hx (by omega), vp_in_nI (by omega) (by omega), fun a ea j ej => ?_⟩
      rw [ej, nI_1, ea, rs_clY hx (by omega), nI_clamp (by omega)]
      refine ih (i + 1) _ (by omega) (rs_Lu hL ?_)
      have e : rs_ch n (rs_z c x) y i = rs_z c x (i / 4) := if_pos h
      rw [e, rs_ld]
    · rw [ej, nI_1, ea, nI_clamp (by omega)]
      refine ih (i + 1) _ (by omega) (rs_Lu hL ?_)
      have e : rs_ch n (rs_z c x) y i = rs_mat y i := if_neg h
      rw [e, hX i (by omega)]
theorem rs_deY {post : Int64 → SY → Prop} {c : Nat → Int32} {M X C : Nat → Int64} {n x : Nat} {y : Nat → Int} (hx : x < 6) (hn : n ≤ 4) (hX : rs_L X (rs_mat y) 16) (H : ∀ C, post (Int64.ofInt (rs_det (rs_ch n (rs_z c x) y))) (c, M, X, C)) : wpY_determinant post (c, M, X, C) (nI n) (nI x) :=
  ⟨17, rs_deYl hx hn hX H 16 0 C rfl (rs_L0 _ _)⟩
/-- a, b, c, d are 0 -/
def rs_0 (z : Nat → Int) : Prop := z 0 = 0 ∧ z 1 = 0 ∧ z 2 = 0 ∧ z 3 = 0
theorem rs_izX {post : Int32 → Prop} {c : Nat → Int32} {f s R : Nat → Int64} {z : Nat → Int} (hs : rs_L s z 5) (hz : ∀ k, k < 5 → rs_S (z k)) (H1 : rs_0 z → post 1) (H0 : ¬ rs_0 z → post 0) : wpX_isZero__second post (c, f, s, R) := by
  have e : ∀ k, k < 5 → (s k = 0 ↔ z k = 0) := fun k hk => by
    rw [hs k hk]
    exact rs_eq64 (hz k hk) rs_S0
  have e0 := e 0 (by omega)
  have e1 := e 1 (by omega)
  have e2 := e 2 (by omega)
  have e3 := e 3 (by omega)
  unfold wpX_isZero__second
  dsimp only
  rw [e0, e1, e2, e3]
  exact br_c (fun h0 => br_c (fun h1 => br_c (fun h2 => br_c (fun h3 => H1 ⟨h0, h1, h2, h3⟩) (fun h => H0 (fun g => h g.2.2.2))) (fun h => H0 (fun g => h g.2.2.1))) (fun h => H0 (fun g => h g.2.1))) (fun h => H0 (fun g => h g.1))
theorem rs_c0 (x : Int32) : x = 0 ↔ x.toInt = 0 := by
  have e : (0 : Int32).toInt = 0 := by decide
  rw [← Int32.toInt_inj, e]
theorem rs_izY {post : Int32 → Prop} {c : Nat → Int32} {M X C : Nat → Int64} {y : Nat} (hy : y < 6) (H1 : rs_0 (rs_z c y) → post 1) (H0 : ¬ rs_0 (rs_z c y) → post 0) : wpY_isZero post (c, M, X, C) (nI y) := by
  obtain ⟨k1, k2, k3, k4⟩ := rs_clYk hy
  have e : ∀ k, c (5 * y + k) = 0 ↔ rs_z c y k = 0 := fun k => rs_c0 _
  unfold wpY_isZero
  dsimp only
  rw [rs_clY0 hy, k1, k2, k3, e 0, e 1, e 2, e 3]
  exact ⟨rs_inY0 hy, br_c (fun h0 => ⟨rs_inY (k := 1) hy (by omega), br_c (fun h1 => ⟨rs_inY (k := 2) hy (by omega), br_c (fun h2 => ⟨rs_inY (k := 3) hy (by omega), br_c (fun h3 => H1 ⟨h0, h1, h2, h3⟩) (fun h => H0 (fun g => h g.2.2.2))⟩) (fun h => H0 (fun g => h g.2.2.1))⟩) (fun h => H0 (fun g => h g.2.1))⟩) (fun h => H0 (fun g => h g.1))⟩
theorem rs_dvl {post : Int32 → SY → Prop} {c : Nat → Int32} {X : Nat → Int64} {r x y : Nat} (hx : x < 6) (hy : y < 6) (hX : rs_L X (rs_mat (rs_z c y)) 16) (H : ∀ M C, rs_L M (rs_mul (rs_z c x) (rs_inv (rs_z c y))) 5 → wpY_take post (c, M, X, C) (nI r)) : ∀ (d i : Nat) (M C : Nat → Int64), i + d = 4 → rs_L M (rs_mul (rs_z c x) (rs_inv (rs_z c y))) i → wY_divide_40 post (nI r) (nI x) (nI y) (Int64.ofInt (rs_N (rs_z c y))) (d + 1) (nI i) c M X C := by
  intro d
  induction d with
  | zero =>
    intro i M C hi hL
    obtain rfl : i = 4 := by omega
    obtain ⟨_, _, _, kx⟩ := rs_clYk hx
    refine br_t (by decide) ⟨rs_inY (k := 4) hx (by omega), fun a ea => ?_⟩
    rw [ea, kx]
    refine H _ C (rs_Lu hL ?_)
    rw [rs_ld, ← Int64.ofInt_mul, Int.mul_comm]
    rfl
  | succ d ih =>
    intro i M C hi hL
    obtain ⟨_, _, _, ky⟩ := rs_clYk hy
    refine pk_le 4 i (fun h => absurd h (by omega)) (fun _ => ?_)
    refine rs_deY hx (by omega) hX (fun C' => ?_)
    refine ⟨rs_inY (k := 4) hy (by omega), vp_in_nI (by omega) (by omega), fun a ea j ej => ?_⟩
    rw [ej, nI_1, ea, ky, nI_clamp (by omega), rs_ld, ← Int64.ofInt_mul, rs_detk _ _ (by omega)]
    exact ih (i + 1) _ C' (by omega) (rs_Lu hL rfl)
/-- the signs of a conjugate's roots -/
def rs_f2 (w : Nat) : Int := if w = 1 ∨ w = 3 then -1 else 1
def rs_f3 (w : Nat) : Int := if w = 2 ∨ w = 3 then -1 else 1
def rs_cj (A B : Int) (z : Nat → Int) : Nat → Int
  | 0 => z 0
  | 1 => A * z 1
  | 2 => B * z 2
  | 3 => A * B * z 3
  | _ => z 4
theorem rs_pc31R {post : SX → Prop} {c : Nat → Int32} {f s R : Nat → Int64} {z : Nat → Int} {p q : Int32} {A B : Int} (h1 : p.toInt64 = Int64.ofInt A) (h2 : q.toInt64 = Int64.ofInt B) (h3 : (p * q).toInt64 = Int64.ofInt (A * B)) (hL : rs_L R z 5) (H : ∀ w, rs_L w (rs_cj A B z) 5 → post (c, f, s, w)) : wX_putConjugate__result_31 post p q c f s R := by
  intro a ea b eb d ed
  refine H d ?_
  subst ed eb ea
  rw [h1, h2, h3]
  apply rs_L5
  · exact hL 0 (by omega)
  · show Int64.ofInt A * R 1 = Int64.ofInt (A * z 1)
    rw [hL 1 (by omega), Int64.ofInt_mul]
  · show Int64.ofInt B * R 2 = Int64.ofInt (B * z 2)
    rw [hL 2 (by omega), Int64.ofInt_mul]
  · show Int64.ofInt (A * B) * R 3 = Int64.ofInt (A * B * z 3)
    rw [hL 3 (by omega), Int64.ofInt_mul (A * B)]
  · exact hL 4 (by omega)
theorem rs_pcR {post : SX → Prop} {c : Nat → Int32} {f s R : Nat → Int64} {z : Nat → Int} {k : Nat} (hk : k < 4) (hL : rs_L R z 5) (H : ∀ w, rs_L w (rs_cj (rs_f2 k) (rs_f3 k) z) 5 → post (c, f, s, w)) : wpX_putConjugate__result post (c, f, s, R) (nI k) := by
  unfold wpX_putConjugate__result
  dsimp only
  rcases (show k = 0 ∨ k = 1 ∨ k = 2 ∨ k = 3 by omega) with rfl | rfl | rfl | rfl
  · exact br_f (by decide) (br_f (by decide) (br_f (by decide) (br_f (by decide) (rs_pc31R (by decide) (by decide) (by decide) hL H))))
  · exact br_t (by decide) (br_f (by decide) (br_f (by decide) (rs_pc31R (by decide) (by decide) (by decide) hL H)))
  · exact br_f (by decide) (br_f (by decide) (br_t (by decide) (rs_pc31R (by decide) (by decide) (by decide) hL H)))
  · exact br_f (by decide) (br_t (by decide) (br_f (by decide) (br_t (by decide) (rs_pc31R (by decide) (by decide) (by decide) hL H))))
theorem rs_pc31F {post : SX → Prop} {c : Nat → Int32} {f s R : Nat → Int64} {z : Nat → Int} {p q : Int32} {A B : Int} (h1 : p.toInt64 = Int64.ofInt A) (h2 : q.toInt64 = Int64.ofInt B) (h3 : (p * q).toInt64 = Int64.ofInt (A * B)) (hL : rs_L f z 5) (H : ∀ w, rs_L w (rs_cj A B z) 5 → post (c, w, s, R)) : wX_putConjugate__first_31 post p q c f s R := by
  intro a ea b eb d ed
  refine H d ?_
  subst ed eb ea
  rw [h1, h2, h3]
  apply rs_L5
  · exact hL 0 (by omega)
  · show Int64.ofInt A * f 1 = Int64.ofInt (A * z 1)
    rw [hL 1 (by omega), Int64.ofInt_mul]
  · show Int64.ofInt B * f 2 = Int64.ofInt (B * z 2)
    rw [hL 2 (by omega), Int64.ofInt_mul]
  · show Int64.ofInt (A * B) * f 3 = Int64.ofInt (A * B * z 3)
    rw [hL 3 (by omega), Int64.ofInt_mul (A * B)]
  · exact hL 4 (by omega)
theorem rs_pcF {post : SX → Prop} {c : Nat → Int32} {f s R : Nat → Int64} {z : Nat → Int} {k : Nat} (hk : k < 4) (hL : rs_L f z 5) (H : ∀ w, rs_L w (rs_cj (rs_f2 k) (rs_f3 k) z) 5 → post (c, w, s, R)) : wpX_putConjugate__first post (c, f, s, R) (nI k) := by
  unfold wpX_putConjugate__first
  dsimp only
  rcases (show k = 0 ∨ k = 1 ∨ k = 2 ∨ k = 3 by omega) with rfl | rfl | rfl | rfl
  · exact br_f (by decide) (br_f (by decide) (br_f (by decide) (br_f (by decide) (rs_pc31F (by decide) (by decide) (by decide) hL H))))
  · exact br_t (by decide) (br_f (by decide) (br_f (by decide) (rs_pc31F (by decide) (by decide) (by decide) hL H)))
  · exact br_f (by decide) (br_f (by decide) (br_t (by decide) (rs_pc31F (by decide) (by decide) (by decide) hL H)))
  · exact br_f (by decide) (br_t (by decide) (br_f (by decide) (br_t (by decide) (rs_pc31F (by decide) (by decide) (by decide) hL H))))
/-- the reference's sign of place k in a conjugate -/
def rs_fl (k w : Nat) : Int := if k = 1 then rs_f2 w else if k = 2 then rs_f3 w else if k = 3 then rs_f2 w * rs_f3 w else 1
theorem rs_fl00 {post : Int32 → Prop} {c : Nat → Int32} {M X C : Nat → Int64} (H : post (Int32.ofInt (rs_fl 0 0))) : wpY_flip post (c, M, X, C) (nI 0) (nI 0) :=
  ⟨by decide, br_f (by decide) (br_t (by decide) (br_f (by decide) (br_f (by decide) (br_f (by decide) H))))⟩
theorem rs_fl01 {post : Int32 → Prop} {c : Nat → Int32} {M X C : Nat → Int64} (H : post (Int32.ofInt (rs_fl 0 1))) : wpY_flip post (c, M, X, C) (nI 0) (nI 1) :=
  ⟨by decide, br_t (by decide) (br_t (by decide) (br_f (by decide) (br_f (by decide) (br_f (by decide) H))))⟩
theorem rs_fl02 {post : Int32 → Prop} {c : Nat → Int32} {M X C : Nat → Int64} (H : post (Int32.ofInt (rs_fl 0 2))) : wpY_flip post (c, M, X, C) (nI 0) (nI 2) :=
  ⟨by decide, br_f (by decide) (br_f (by decide) (br_f (by decide) (br_f (by decide) (br_f (by decide) H))))⟩
theorem rs_fl03 {post : Int32 → Prop} {c : Nat → Int32} {M X C : Nat → Int64} (H : post (Int32.ofInt (rs_fl 0 3))) : wpY_flip post (c, M, X, C) (nI 0) (nI 3) :=
  ⟨by decide, br_t (by decide) (br_f (by decide) (br_f (by decide) (br_f (by decide) (br_f (by decide) H))))⟩
theorem rs_fl10 {post : Int32 → Prop} {c : Nat → Int32} {M X C : Nat → Int64} (H : post (Int32.ofInt (rs_fl 1 0))) : wpY_flip post (c, M, X, C) (nI 1) (nI 0) :=
  ⟨by decide, br_f (by decide) (br_t (by decide) (br_t (by decide) (br_t (by decide) (br_f (by decide) (br_f (by decide) H)))))⟩
theorem rs_fl11 {post : Int32 → Prop} {c : Nat → Int32} {M X C : Nat → Int64} (H : post (Int32.ofInt (rs_fl 1 1))) : wpY_flip post (c, M, X, C) (nI 1) (nI 1) :=
  ⟨by decide, br_t (by decide) (br_t (by decide) (br_t (by decide) (br_f (by decide) H)))⟩
theorem rs_fl12 {post : Int32 → Prop} {c : Nat → Int32} {M X C : Nat → Int64} (H : post (Int32.ofInt (rs_fl 1 2))) : wpY_flip post (c, M, X, C) (nI 1) (nI 2) :=
  ⟨by decide, br_f (by decide) (br_f (by decide) (br_t (by decide) (br_t (by decide) (br_f (by decide) (br_f (by decide) H)))))⟩
theorem rs_fl13 {post : Int32 → Prop} {c : Nat → Int32} {M X C : Nat → Int64} (H : post (Int32.ofInt (rs_fl 1 3))) : wpY_flip post (c, M, X, C) (nI 1) (nI 3) :=
  ⟨by decide, br_t (by decide) (br_f (by decide) (br_t (by decide) (br_f (by decide) H)))⟩
theorem rs_fl20 {post : Int32 → Prop} {c : Nat → Int32} {M X C : Nat → Int64} (H : post (Int32.ofInt (rs_fl 2 0))) : wpY_flip post (c, M, X, C) (nI 2) (nI 0) :=
  ⟨by decide, br_f (by decide) (br_t (by decide) (br_f (by decide) (br_t (by decide) (br_t (by decide) (br_f (by decide) H)))))⟩
theorem rs_fl21 {post : Int32 → Prop} {c : Nat → Int32} {M X C : Nat → Int64} (H : post (Int32.ofInt (rs_fl 2 1))) : wpY_flip post (c, M, X, C) (nI 2) (nI 1) :=
  ⟨by decide, br_t (by decide) (br_t (by decide) (br_f (by decide) (br_t (by decide) (br_t (by decide) (br_f (by decide) H)))))⟩
theorem rs_fl22 {post : Int32 → Prop} {c : Nat → Int32} {M X C : Nat → Int64} (H : post (Int32.ofInt (rs_fl 2 2))) : wpY_flip post (c, M, X, C) (nI 2) (nI 2) :=
  ⟨by decide, br_f (by decide) (br_f (by decide) (br_f (by decide) (br_t (by decide) (br_f (by decide) H))))⟩
theorem rs_fl23 {post : Int32 → Prop} {c : Nat → Int32} {M X C : Nat → Int64} (H : post (Int32.ofInt (rs_fl 2 3))) : wpY_flip post (c, M, X, C) (nI 2) (nI 3) :=
  ⟨by decide, br_t (by decide) (br_f (by decide) (br_f (by decide) (br_t (by decide) (br_f (by decide) H))))⟩
theorem rs_fl30 {post : Int32 → Prop} {c : Nat → Int32} {M X C : Nat → Int64} (H : post (Int32.ofInt (rs_fl 3 0))) : wpY_flip post (c, M, X, C) (nI 3) (nI 0) :=
  ⟨by decide, br_f (by decide) (br_t (by decide) (br_f (by decide) (br_f (by decide) (br_t (by decide) (br_t (by decide) H)))))⟩
theorem rs_fl31 {post : Int32 → Prop} {c : Nat → Int32} {M X C : Nat → Int64} (H : post (Int32.ofInt (rs_fl 3 1))) : wpY_flip post (c, M, X, C) (nI 3) (nI 1) :=
  ⟨by decide, br_t (by decide) (br_t (by decide) (br_f (by decide) (br_f (by decide) (br_t (by decide) (br_f (by decide) H)))))⟩
theorem rs_fl32 {post : Int32 → Prop} {c : Nat → Int32} {M X C : Nat → Int64} (H : post (Int32.ofInt (rs_fl 3 2))) : wpY_flip post (c, M, X, C) (nI 3) (nI 2) :=
  ⟨by decide, br_f (by decide) (br_f (by decide) (br_f (by decide) (br_f (by decide) (br_t (by decide) (br_f (by decide) H)))))⟩
theorem rs_fl33 {post : Int32 → Prop} {c : Nat → Int32} {M X C : Nat → Int64} (H : post (Int32.ofInt (rs_fl 3 3))) : wpY_flip post (c, M, X, C) (nI 3) (nI 3) :=
  ⟨by decide, br_t (by decide) (br_f (by decide) (br_f (by decide) (br_f (by decide) (br_t (by decide) (br_t (by decide) H)))))⟩
theorem rs_fl40 {post : Int32 → Prop} {c : Nat → Int32} {M X C : Nat → Int64} (H : post (Int32.ofInt (rs_fl 4 0))) : wpY_flip post (c, M, X, C) (nI 4) (nI 0) :=
  ⟨by decide, br_f (by decide) (br_t (by decide) (br_f (by decide) (br_f (by decide) (br_f (by decide) H))))⟩
theorem rs_fl41 {post : Int32 → Prop} {c : Nat → Int32} {M X C : Nat → Int64} (H : post (Int32.ofInt (rs_fl 4 1))) : wpY_flip post (c, M, X, C) (nI 4) (nI 1) :=
  ⟨by decide, br_t (by decide) (br_t (by decide) (br_f (by decide) (br_f (by decide) (br_f (by decide) H))))⟩
theorem rs_fl42 {post : Int32 → Prop} {c : Nat → Int32} {M X C : Nat → Int64} (H : post (Int32.ofInt (rs_fl 4 2))) : wpY_flip post (c, M, X, C) (nI 4) (nI 2) :=
  ⟨by decide, br_f (by decide) (br_f (by decide) (br_f (by decide) (br_f (by decide) (br_f (by decide) H))))⟩
theorem rs_fl43 {post : Int32 → Prop} {c : Nat → Int32} {M X C : Nat → Int64} (H : post (Int32.ofInt (rs_fl 4 3))) : wpY_flip post (c, M, X, C) (nI 4) (nI 3) :=
  ⟨by decide, br_t (by decide) (br_f (by decide) (br_f (by decide) (br_f (by decide) (br_f (by decide) H))))⟩
theorem rs_flY {post : Int32 → Prop} {c : Nat → Int32} {M X C : Nat → Int64} {k w : Nat} (hk : k < 5) (hw : w < 4) (H : post (Int32.ofInt (rs_fl k w))) : wpY_flip post (c, M, X, C) (nI k) (nI w) := by
  rcases (show k = 0 ∨ k = 1 ∨ k = 2 ∨ k = 3 ∨ k = 4 by omega) with rfl | rfl | rfl | rfl | rfl
  · rcases (show w = 0 ∨ w = 1 ∨ w = 2 ∨ w = 3 by omega) with rfl | rfl | rfl | rfl
    · exact rs_fl00 H
    · exact rs_fl01 H
    · exact rs_fl02 H
    · exact rs_fl03 H
  · rcases (show w = 0 ∨ w = 1 ∨ w = 2 ∨ w = 3 by omega) with rfl | rfl | rfl | rfl
    · exact rs_fl10 H
    · exact rs_fl11 H
    · exact rs_fl12 H
    · exact rs_fl13 H
  · rcases (show w = 0 ∨ w = 1 ∨ w = 2 ∨ w = 3 by omega) with rfl | rfl | rfl | rfl
    · exact rs_fl20 H
    · exact rs_fl21 H
    · exact rs_fl22 H
    · exact rs_fl23 H
  · rcases (show w = 0 ∨ w = 1 ∨ w = 2 ∨ w = 3 by omega) with rfl | rfl | rfl | rfl
    · exact rs_fl30 H
    · exact rs_fl31 H
    · exact rs_fl32 H
    · exact rs_fl33 H
  · rcases (show w = 0 ∨ w = 1 ∨ w = 2 ∨ w = 3 by omega) with rfl | rfl | rfl | rfl
    · exact rs_fl40 H
    · exact rs_fl41 H
    · exact rs_fl42 H
    · exact rs_fl43 H
