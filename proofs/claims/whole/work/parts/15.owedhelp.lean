/-! part 15: the relation; what each operation asks of the reference -/
def i_Rel (k : Nat) (u : SX) (v : SY) : Prop := ∃ (c : Nat → Int32) (f s R M X C : Nat → Int64), u = (c, f, s, R) ∧ v = (c, M, X, C) ∧ rs_Rc c
theorem rs_rel {k : Nat} {c : Nat → Int32} {f s R M X C : Nat → Int64} (h : rs_Rc c) : i_Rel k (c, f, s, R) (c, M, X, C) := ⟨c, f, s, R, M, X, C, rfl, rfl, h⟩
theorem rs_gtof {n : Nat} {x : Int32} (hn : n + 1 < 2 ^ 31) (h : nI (n + 1) ≤ x) : nI n < x := by
  rw [Int32.lt_iff_toInt_lt, nI_toInt (by omega)]
  rw [Int32.le_iff_toInt_le, nI_toInt hn] at h
  omega
/-- an argument: below 0, from n on, or one of 0 to n - 1 -/
theorem rs_rng (x : Int32) {n : Nat} (hn : n < 2 ^ 31) : x < 0 ∨ (¬ x < 0 ∧ nI n ≤ x) ∨ ∃ j : Nat, j < n ∧ x = nI j := by
  by_cases h0 : x < 0
  · exact Or.inl h0
  · rcases pk_ix x hn with h | h | h
    · exact absurd h h0
    · exact Or.inr (Or.inl ⟨h0, h⟩)
    · exact Or.inr (Or.inr h)
theorem rs_v32 (x : Int32) : rs_S x.toInt := by
  have h1 := x.toInt_lt
  have h2 := x.le_toInt
  exact ⟨by omega, by omega⟩
theorem rs_m30 (x : Int32) : x < -30 ↔ x.toInt < -30 := by
  have e : (-30 : Int32).toInt = -30 := by decide
  rw [Int32.lt_iff_toInt_lt, e]
theorem rs_p30 (x : Int32) : x ≤ 30 ↔ x.toInt ≤ 30 := by
  have e : (30 : Int32).toInt = 30 := by decide
  rw [Int32.le_iff_toInt_le, e]
theorem rs_sS {z : Nat → Int} {K : Int} (hK : K ≤ 4000000000000000000) (h : ∀ k, k < 5 → -K ≤ z k ∧ z k ≤ K) : ∀ k, k < 5 → rs_S (z k) := fun k hk => by
  have h1 := h k hk
  exact ⟨by omega, by omega⟩
theorem rs_addS {T : Int} {x y : Nat → Int} (hx : rs_ok x) (hy : rs_ok y) (hT : T = 1 ∨ T = -1) : ∀ k, k < 5 → rs_S (rs_add T x y k) :=
  rs_sS (K := 1800) (by omega) (fun _ hk => rs_addb hx hy hT hk)
theorem rs_add40 {T : Int} {x y : Nat → Int} (hx : rs_ok x) (hy : rs_ok y) : rs_add T x y 4 ≠ 0 := by
  have h := rs_add4 (t := T) hx hy
  omega
theorem rs_mulS {x y : Nat → Int} (hx : rs_ok x) (hy : rs_ok y) : ∀ k, k < 5 → rs_S (rs_mul x y k) :=
  rs_sS (K := 10800) (by omega) (fun _ hk => rs_mulb 30 (fun _ h => rs_okb hx h) (fun _ h => rs_okb hy h) hk)
theorem rs_mul40 {x y : Nat → Int} (hx : rs_ok x) (hy : rs_ok y) : rs_mul x y 4 ≠ 0 := by
  have h : 1 ≤ rs_mul x y 4 := rs_pos11 hx.2.1 hy.2.1
  omega
theorem rs_divS {x y : Nat → Int} (hx : rs_ok x) (hy : rs_ok y) : ∀ k, k < 5 → rs_S (rs_mul x (rs_inv y) k) :=
  rs_sS (K := 108000000000) (by omega) (fun _ hk => rs_mulb 300000000 (fun _ h => rs_okb hx h) (fun _ h => rs_invb (fun _ g => rs_okb hy g) h) hk)
theorem rs_div40 {x y : Nat → Int} (hx : rs_ok x) (hy : ¬ rs_0 y) : rs_mul x (rs_inv y) 4 ≠ 0 := by
  have h : rs_mul x (rs_inv y) 4 = x 4 * rs_N y := rfl
  rw [h]
  intro h0
  rcases Int.mul_eq_zero.mp h0 with g | g
  · have := hx.2.1
    omega
  · exact rs_N0 hy g
theorem rs_addY {post : Int32 → SY → Prop} {c : Nat → Int32} {M X C : Nat → Int64} {r x y : Nat} (hc : rs_Rc c) (hr : r < 6) (hx : x < 6) (hy : y < 6) (H1 : ∀ M, (∀ k, k < 5 → rs_w (rs_q (rs_add 1 (rs_z c x) (rs_z c y)) k)) → post 0 (rs_st c r (rs_q (rs_add 1 (rs_z c x) (rs_z c y))) 5, M, X, C)) (H2 : ∀ M, ¬ (∀ k, k < 5 → rs_w (rs_q (rs_add 1 (rs_z c x) (rs_z c y)) k)) → post (-2000000) (c, M, X, C)) : wpY_add post (c, M, X, C) (nI r) (nI x) (nI y) := by
  unfold wpY_add
  dsimp only
  refine rs_areY1 hr hx hy (br_f rs_1n0 ?_)
  refine rs_cmY hx hy hc rs_tv1 (Or.inl rfl) (fun M' hL => ?_)
  dsimp only
  exact rs_take hr hL (rs_addS (hc x hx) (hc y hy) (Or.inl rfl)) (rs_add40 (hc x hx) (hc y hy)) H1 H2
theorem rs_subY {post : Int32 → SY → Prop} {c : Nat → Int32} {M X C : Nat → Int64} {r x y : Nat} (hc : rs_Rc c) (hr : r < 6) (hx : x < 6) (hy : y < 6) (H1 : ∀ M, (∀ k, k < 5 → rs_w (rs_q (rs_add (-1) (rs_z c x) (rs_z c y)) k)) → post 0 (rs_st c r (rs_q (rs_add (-1) (rs_z c x) (rs_z c y))) 5, M, X, C)) (H2 : ∀ M, ¬ (∀ k, k < 5 → rs_w (rs_q (rs_add (-1) (rs_z c x) (rs_z c y)) k)) → post (-2000000) (c, M, X, C)) : wpY_subtract post (c, M, X, C) (nI r) (nI x) (nI y) := by
  unfold wpY_subtract
  dsimp only
  refine rs_areY1 hr hx hy (br_f rs_1n0 ?_)
  refine rs_cmY hx hy hc rs_tvm1 (Or.inr rfl) (fun M' hL => ?_)
  dsimp only
  exact rs_take hr hL (rs_addS (hc x hx) (hc y hy) (Or.inr rfl)) (rs_add40 (hc x hx) (hc y hy)) H1 H2
theorem rs_mulY {post : Int32 → SY → Prop} {c : Nat → Int32} {M X C : Nat → Int64} {r x y : Nat} (hc : rs_Rc c) (hr : r < 6) (hx : x < 6) (hy : y < 6) (H1 : ∀ M X, (∀ k, k < 5 → rs_w (rs_q (rs_mul (rs_z c x) (rs_z c y)) k)) → post 0 (rs_st c r (rs_q (rs_mul (rs_z c x) (rs_z c y))) 5, M, X, C)) (H2 : ∀ M X, ¬ (∀ k, k < 5 → rs_w (rs_q (rs_mul (rs_z c x) (rs_z c y)) k)) → post (-2000000) (c, M, X, C)) : wpY_multiply post (c, M, X, C) (nI r) (nI x) (nI y) := by
  unfold wpY_multiply
  dsimp only
  refine rs_areY1 hr hx hy (br_f rs_1n0 ?_)
  refine rs_prY hx hy hc (fun M' X' hL => ?_)
  dsimp only
  exact rs_take hr hL (rs_mulS (hc x hx) (hc y hy)) (rs_mul40 (hc x hx) (hc y hy)) (fun M h => H1 M X' h) (fun M h => H2 M X' h)
theorem rs_divY {post : Int32 → SY → Prop} {c : Nat → Int32} {M X C : Nat → Int64} {r x y : Nat} (hc : rs_Rc c) (hr : r < 6) (hx : x < 6) (hy : y < 6) (h0 : ¬ rs_0 (rs_z c y)) (H1 : ∀ M X C, (∀ k, k < 5 → rs_w (rs_q (rs_mul (rs_z c x) (rs_inv (rs_z c y))) k)) → post 0 (rs_st c r (rs_q (rs_mul (rs_z c x) (rs_inv (rs_z c y)))) 5, M, X, C)) (H2 : ∀ M X C, ¬ (∀ k, k < 5 → rs_w (rs_q (rs_mul (rs_z c x) (rs_inv (rs_z c y))) k)) → post (-2000000) (c, M, X, C)) : wpY_divide post (c, M, X, C) (nI r) (nI x) (nI y) := by
  unfold wpY_divide
  dsimp only
  refine rs_areY1 hr hx hy (br_f rs_1n0 ?_)
  refine rs_izY hy (fun h => absurd h h0) (fun _ => br_t rfl ?_)
  refine rs_smY hy (fun X' hX => ?_)
  dsimp only
  refine rs_deY (n := 4) hx (by omega) hX (fun C' => ?_)
  dsimp only
  rw [rs_detN]
  refine ⟨5, rs_dvl hx hy hX (fun M1 C1 hL => ?_) 4 0 M C' rfl (rs_L0 _ _)⟩
  exact rs_take hr hL (rs_divS (hc x hx) (hc y hy)) (rs_div40 (hc x hx) h0) (fun M h => H1 M X' C1 h) (fun M h => H2 M X' C1 h)
theorem rs_divY0 {post : Int32 → SY → Prop} {c : Nat → Int32} {M X C : Nat → Int64} {r x y : Nat} (hr : r < 6) (hx : x < 6) (hy : y < 6) (h0 : rs_0 (rs_z c y)) (H : post (-3000000) (c, M, X, C)) : wpY_divide post (c, M, X, C) (nI r) (nI x) (nI y) := by
  unfold wpY_divide
  dsimp only
  refine rs_areY1 hr hx hy (br_f rs_1n0 ?_)
  exact rs_izY hy (fun _ => br_f rs_1n0 H) (fun h => absurd h0 h)
/-- register z with x in place k -/
def rs_pz (z : Nat → Int) (k : Nat) (x : Int) : Nat → Int := fun j => if j = k then x else z j
theorem rs_pzL {w : Nat → Int64} {z : Nat → Int} {k : Nat} {x : Int} (h : rs_L w z 5) : rs_L (vp_updL w k (Int64.ofInt x)) (rs_pz z k x) 5 := by
  intro j hj
  unfold vp_updL rs_pz
  by_cases e : j = k
  · rw [if_pos e, if_pos e]
  · rw [if_neg e, if_neg e]
    exact h j hj
theorem rs_pzS {z : Nat → Int} {k : Nat} {x : Int} (hz : rs_ok z) (hx : rs_w x) : ∀ j, j < 5 → rs_S (rs_pz z k x j) :=
  rs_sS (K := 30) (by omega) (fun j hj => by
    unfold rs_pz
    by_cases e : j = k
    · rw [if_pos e]
      exact hx
    · rw [if_neg e]
      exact rs_okb hz hj)
theorem rs_pz4 {z : Nat → Int} {k : Nat} {x : Int} (hz : rs_ok z) (hk : k < 4) : rs_pz z k x 4 ≠ 0 := by
  have e : rs_pz z k x 4 = z 4 := if_neg (by omega)
  have h := hz.2.1
  rw [e]
  omega
theorem rs_putY {post : Int32 → SY → Prop} {c : Nat → Int32} {M X C : Nat → Int64} {r k : Nat} {x : Int32} (hc : rs_Rc c) (hr : r < 6) (hk : k < 4) (hw : rs_w x.toInt) (H1 : ∀ M, (∀ j, j < 5 → rs_w (rs_q (rs_pz (rs_z c r) k x.toInt) j)) → post (rs_st c r (rs_q (rs_pz (rs_z c r) k x.toInt)) 5 (5 * r + 4)) (rs_st c r (rs_q (rs_pz (rs_z c r) k x.toInt)) 5, M, X, C)) (H2 : ∀ M, ¬ (∀ j, j < 5 → rs_w (rs_q (rs_pz (rs_z c r) k x.toInt) j)) → post (c (5 * r + 4)) (c, M, X, C)) : wpY_put post (c, M, X, C) (nI r) (nI k) x := by
  unfold wpY_put
  dsimp only
  have k4 : (5 * nI r + 4).toNatClampNeg = 5 * r + 4 := rs_clY (k := 4) hr (by omega)
  refine rs_regY1 hr (br_f rs_1n0 (br_f (nI_pos (by omega)) (pk_lt 3 k (fun h => absurd h (by omega)) (fun _ => ?_))))
  refine br_f (fun h => absurd ((rs_m30 x).mp h) (by have := hw.1; omega)) (br_t ((rs_p30 x).mpr hw.2) ?_)
  refine rs_ldM hr (fun M' hL => ?_)
  dsimp only
  refine ⟨vp_in_nI (by omega) (by omega), fun a ea => ?_⟩
  rw [ea, nI_clamp (by omega), rs_c64]
  refine rs_take hr (rs_pzL hL) (rs_pzS (hc r hr) hw) (rs_pz4 (hc r hr) hk) (fun M1 h => ⟨rs_inY (k := 4) hr (by omega), ?_⟩) (fun M1 h => ⟨rs_inY (k := 4) hr (by omega), ?_⟩)
  · rw [k4]
    exact H1 M1 h
  · rw [k4]
    exact H2 M1 h
/-- a whole number as a register -/
def rs_wz (x : Int) : Nat → Int
  | 0 => x
  | 4 => 1
  | _ => 0
theorem rs_wzG (x : Int) : rs_G (rs_wz x) = 1 := by
  show Nat.gcd (Nat.gcd (Nat.gcd (Nat.gcd (1 : Int).natAbs x.natAbs) (0 : Int).natAbs) (0 : Int).natAbs) (0 : Int).natAbs = 1
  have e1 : (1 : Int).natAbs = 1 := rfl
  have e0 : (0 : Int).natAbs = 0 := rfl
  rw [e1, e0, Nat.gcd_one_left, Nat.gcd_zero_right, Nat.gcd_zero_right, Nat.gcd_zero_right]
theorem rs_wzq (x : Int) : rs_q (rs_wz x) = rs_wz x := by
  funext k
  exact rs_qid (rs_wzG x) (show (0 : Int) < 1 by decide) k
theorem rs_w0 : rs_w 0 := ⟨by decide, by decide⟩
theorem rs_w1 : rs_w 1 := ⟨by decide, by decide⟩
theorem rs_wzb {x : Int} (hx : rs_w x) {k : Nat} (hk : k < 5) : rs_w (rs_wz x k) := by
  refine rs_co5 (P := fun k => rs_w (rs_wz x k)) hx ?_ ?_ ?_ ?_ hk
  · exact rs_w0
  · exact rs_w0
  · exact rs_w0
  · exact rs_w1
theorem rs_whYl {post : Int32 → SY → Prop} {c : Nat → Int32} {M X C : Nat → Int64} {r : Nat} {x : Int32} (hr : r < 6) (H : post 0 (rs_st c r (rs_wz x.toInt) 5, M, X, C)) : ∀ (d i : Nat), i + d = 5 → wY_whole_25 post (nI r) x (d + 1) (nI i) (rs_st c r (rs_wz x.toInt) i) M X C := by
  intro d
  induction d with
  | zero =>
    intro i hi
    obtain rfl : i = 5 := by omega
    exact br_t (by decide) H
  | succ d ih =>
    intro i hi
    refine pk_le 5 i (fun h => absurd h (by omega)) (fun _ => ?_)
    have IH := ih (i + 1) (by omega)
    rw [← rs_sts] at IH
    refine pk_eq i 0 (fun h => ⟨rs_inY hr (by omega), fun a ea j ej => ?_⟩) (fun h => pk_eq i 4 (fun g => ⟨rs_inY hr (by omega), fun a ea j ej => ?_⟩) (fun g => ⟨rs_inY hr (by omega), fun a ea j ej => ?_⟩))
    · rw [ej, nI_1, ea, rs_clY hr (by omega)]
      have e : Int32.ofInt (rs_wz x.toInt i) = x := by
        rw [h]
        exact Int32.ofInt_toInt x
      rw [e] at IH
      exact IH
    · rw [ej, nI_1, ea, rs_clY hr (by omega)]
      have e : Int32.ofInt (rs_wz x.toInt i) = 1 := by
        rw [g]
        exact (by decide : Int32.ofInt 1 = 1)
      rw [e] at IH
      exact IH
    · rw [ej, nI_1, ea, rs_clY hr (by omega)]
      have e : Int32.ofInt (rs_wz x.toInt i) = 0 := by
        rcases (show i = 1 ∨ i = 2 ∨ i = 3 by omega) with rfl | rfl | rfl
        · exact (by decide : Int32.ofInt 0 = 0)
        · exact (by decide : Int32.ofInt 0 = 0)
        · exact (by decide : Int32.ofInt 0 = 0)
      rw [e] at IH
      exact IH
theorem rs_whY {post : Int32 → SY → Prop} {c : Nat → Int32} {M X C : Nat → Int64} {r : Nat} {x : Int32} (hr : r < 6) (hw : rs_w x.toInt) (H : post 0 (rs_st c r (rs_wz x.toInt) 5, M, X, C)) : wpY_whole post (c, M, X, C) (nI r) x := by
  unfold wpY_whole
  dsimp only
  refine rs_regY1 hr (br_f rs_1n0 ?_)
  refine br_f (fun h => absurd ((rs_m30 x).mp h) (by have := hw.1; omega)) (br_t ((rs_p30 x).mpr hw.2) ⟨6, ?_⟩)
  have k := rs_whYl (c := c) hr H 5 0 rfl
  rw [rs_st0] at k
  exact k
theorem rs_czfl (z : Nat → Int) (w : Nat) {k : Nat} (hk : k < 5) : rs_cz z w k = rs_fl k w * z k := by
  refine rs_co5 (P := fun k => rs_cz z w k = rs_fl k w * z k) ?_ rfl rfl rfl ?_ hk
  · show z 0 = 1 * z 0
    rw [Int.one_mul]
  · show z 4 = 1 * z 4
    rw [Int.one_mul]
theorem rs_pmn {t x : Int} (ht : t = 1 ∨ t = -1) : (t * x).natAbs = x.natAbs := by
  rcases ht with rfl | rfl <;> omega
theorem rs_czG (z : Nat → Int) (w : Nat) : rs_G (rs_cz z w) = rs_G z := by
  have e : ∀ k, k < 5 → (rs_cz z w k).natAbs = (z k).natAbs := fun k hk => by
    rw [rs_czfl z w hk, rs_pmn (rs_flr k w)]
  unfold rs_G
  rw [e 0 (by omega), e 1 (by omega), e 2 (by omega), e 3 (by omega), e 4 (by omega)]
theorem rs_czq {z : Nat → Int} (hz : rs_ok z) (w : Nat) : rs_q (rs_cz z w) = rs_cz z w := by
  funext k
  refine rs_qid ((rs_czG z w).trans hz.2.2.2) ?_ k
  have h := hz.2.1
  have e : rs_cz z w 4 = z 4 := rfl
  rw [e]
  omega
theorem rs_cgYl {post : Int32 → SY → Prop} {c : Nat → Int32} {M X C : Nat → Int64} {r x w : Nat} (hc : rs_Rc c) (hr : r < 6) (hx : x < 6) (hw : w < 4) (H : post 0 (rs_st c r (rs_cz (rs_z c x) w) 5, M, X, C)) : ∀ (d i : Nat), i + d = 5 → wY_conjugate_31 post (nI r) (nI x) (nI w) (d + 1) (nI i) (rs_st c r (rs_cz (rs_z c x) w) i) M X C := by
  intro d
  induction d with
  | zero =>
    intro i hi
    obtain rfl : i = 5 := by omega
    exact br_t (by decide) H
  | succ d ih =>
    intro i hi
    refine pk_le 5 i (fun h => absurd h (by omega)) (fun _ => ⟨rs_inY hx (by omega), ?_⟩)
    have IH := ih (i + 1) (by omega)
    rw [← rs_sts] at IH
    refine rs_flY (by omega) hw ⟨rs_inY hr (by omega), fun a ea j ej => ?_⟩
    rw [ej, nI_1, ea, rs_clY hr (by omega), rs_clY hx (by omega), rs_stn (j := 5 * x + i) (by omega)]
    have e : c (5 * x + i) * Int32.ofInt (rs_fl i w) = Int32.ofInt (rs_cz (rs_z c x) w i) := by
      apply rs_eq32
      rw [rs_fm hc hx (by omega), rs_czfl _ _ (by omega)]
    rw [e]
    exact IH
theorem rs_cgY {post : Int32 → SY → Prop} {c : Nat → Int32} {M X C : Nat → Int64} {r x w : Nat} (hc : rs_Rc c) (hr : r < 6) (hx : x < 6) (hw : w < 4) (H : post 0 (rs_st c r (rs_cz (rs_z c x) w) 5, M, X, C)) : wpY_conjugate post (c, M, X, C) (nI r) (nI x) (nI w) := by
  unfold wpY_conjugate
  dsimp only
  refine rs_regY1 hr (br_f rs_1n0 ?_)
  refine rs_regY1 hx (br_f rs_1n0 ?_)
  refine br_f (nI_pos (by omega)) (pk_le w 3 (fun _ => ⟨6, ?_⟩) (fun h => absurd h (by omega)))
  have k := rs_cgYl (c := c) hc hr hx hw H 5 0 rfl
  rw [rs_st0] at k
  exact k
/-- the cells with the first i registers made -/
def rs_ci (i : Nat) : Nat → Int32 := fun j => if j % 5 = 4 ∧ j < 5 * i then 1 else 0
theorem rs_ci0 : rs_ci 0 = fun _ => 0 := by
  funext j
  exact if_neg (by omega)
theorem rs_cis (i : Nat) : upd (rs_ci i) (5 * i + 4) 1 = rs_ci (i + 1) := by
  funext j
  unfold upd rs_ci
  by_cases h : j = 5 * i + 4
  · rw [if_pos h, if_pos (by omega)]
  · rw [if_neg h]
    by_cases g : j % 5 = 4 ∧ j < 5 * i
    · rw [if_pos g, if_pos (by omega)]
    · rw [if_neg g, if_neg (by omega)]
theorem rs_cR : rs_Rc (rs_ci 6) := by
  intro r hr
  have e : ∀ k, k < 5 → rs_wz 0 k = rs_z (rs_ci 6) r k := by
    intro k hk
    unfold rs_z rs_ci
    rcases (show k = 0 ∨ k = 1 ∨ k = 2 ∨ k = 3 ∨ k = 4 by omega) with rfl | rfl | rfl | rfl | rfl
    · rw [if_neg (by omega)]
      decide
    · rw [if_neg (by omega)]
      decide
    · rw [if_neg (by omega)]
      decide
    · rw [if_neg (by omega)]
      decide
    · rw [if_pos (by omega)]
      decide
  refine rs_okc e ⟨fun k hk => rs_wzb ⟨by decide, by decide⟩ (by omega), by decide, by decide, rs_wzG 0⟩
theorem rs_inXl {post : SX → Prop} {f s R : Nat → Int64} (H : post (rs_ci 6, f, s, R)) : ∀ (d i : Nat), i + d = 6 → wX_init_35 post (d + 1) (nI i) (rs_ci i) f s R := by
  intro d
  induction d with
  | zero =>
    intro i hi
    obtain rfl : i = 6 := by omega
    exact br_t (by decide) H
  | succ d ih =>
    intro i hi
    have e : (nI i * 5 + 4).toNatClampNeg = 5 * i + 4 := rs_clX (k := 4) (by omega) (by omega)
    refine pk_le 6 i (fun h => absurd h (by omega)) (fun _ => ⟨rs_inX (k := 4) (by omega) (by omega), fun a ea j ej => ?_⟩)
    rw [ej, nI_1, ea, e, rs_cis]
    exact ih (i + 1) (by omega)
theorem rs_inYl {post : SY → Prop} {f s R : Nat → Int64} (H : post (rs_ci 6, f, s, R)) : ∀ (d i : Nat), i + d = 6 → wY_init_37 post (d + 1) (nI i) (rs_ci i) f s R := by
  intro d
  induction d with
  | zero =>
    intro i hi
    obtain rfl : i = 6 := by omega
    exact br_t (by decide) H
  | succ d ih =>
    intro i hi
    have e : (5 * nI i + 4).toNatClampNeg = 5 * i + 4 := rs_clY (k := 4) (by omega) (by omega)
    refine pk_le 6 i (fun h => absurd h (by omega)) (fun _ => ⟨rs_inY (k := 4) (by omega) (by omega), fun a ea j ej => ?_⟩)
    rw [ej, nI_1, ea, e, rs_cis]
    exact ih (i + 1) (by omega)
