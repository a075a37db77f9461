/-! part 07: indices, the registers' tests, loads (written by wip/whole/gen_walks1.py) -/
theorem rs_ixX (r k : Nat) : nI r * 5 + nI k = nI (5 * r + k) := by
  have h : nI r * nI 5 + nI k = nI (5 * r + k) := by
    rw [pk_mul, nI_add, Nat.mul_comm]
  exact h
theorem rs_ixY (r k : Nat) : 5 * nI r + nI k = nI (5 * r + k) := by
  have h : nI 5 * nI r + nI k = nI (5 * r + k) := by
    rw [pk_mul, nI_add]
  exact h
theorem rs_ixY0 (r : Nat) : 5 * nI r = nI (5 * r) := by
  have h : nI 5 * nI r = nI (5 * r) := pk_mul 5 r
  exact h
theorem rs_inX {r k : Nat} (hr : r < 6) (hk : k < 5) : vp_in (nI r * 5 + nI k) 30 := by
  rw [rs_ixX]
  exact vp_in_nI (by omega) (by omega)
theorem rs_inY {r k : Nat} (hr : r < 6) (hk : k < 5) : vp_in (5 * nI r + nI k) 30 := by
  rw [rs_ixY]
  exact vp_in_nI (by omega) (by omega)
theorem rs_inY0 {r : Nat} (hr : r < 6) : vp_in (5 * nI r) 30 := by
  rw [rs_ixY0]
  exact vp_in_nI (by omega) (by omega)
theorem rs_clX {r k : Nat} (hr : r < 6) (hk : k < 5) : (nI r * 5 + nI k).toNatClampNeg = 5 * r + k := by
  rw [rs_ixX]
  exact nI_clamp (by omega)
theorem rs_clY {r k : Nat} (hr : r < 6) (hk : k < 5) : (5 * nI r + nI k).toNatClampNeg = 5 * r + k := by
  rw [rs_ixY]
  exact nI_clamp (by omega)
theorem rs_clY0 {r : Nat} (hr : r < 6) : (5 * nI r).toNatClampNeg = 5 * r + 0 := by
  rw [rs_ixY0]
  exact nI_clamp (by omega)
/-- an array's first n longs are these numbers -/
def rs_L (w : Nat → Int64) (z : Nat → Int) (n : Nat) : Prop := ∀ k, k < n → w k = Int64.ofInt (z k)
theorem rs_L0 (w : Nat → Int64) (z : Nat → Int) : rs_L w z 0 := fun k hk => absurd hk (by omega)
theorem rs_Lu {w : Nat → Int64} {z : Nat → Int} {i : Nat} {x : Int64} (h : rs_L w z i) (e : x = Int64.ofInt (z i)) : rs_L (vp_updL w i x) z (i + 1) := by
  intro k hk
  unfold vp_updL
  by_cases h1 : k = i
  · rw [if_pos h1, e, h1]
  · rw [if_neg h1]
    exact h k (by omega)
theorem rs_ld (c : Nat → Int32) (r k : Nat) : (c (5 * r + k)).toInt64 = Int64.ofInt (rs_z c r k) := rs_c64 _
theorem rs_1n0 : ¬ (1 : Int32) = 0 := by decide
theorem rs_regX1 {post : Int32 → Prop} {r : Nat} (hr : r < 6) (H : post 1) : wpX_isRegister post (nI r) :=
  br_f (nI_pos (by omega)) (pk_le 6 r (fun h => absurd h (by omega)) (fun _ => H))
theorem rs_regY1 {post : Int32 → Prop} {v : SY} {r : Nat} (hr : r < 6) (H : post 1) : wpY_isRegister post v (nI r) := by
  obtain ⟨c, M, X, C⟩ := v
  exact br_f (nI_pos (by omega)) (pk_lt 5 r (fun h => absurd h (by omega)) (fun _ => H))
/-- no register -/
def rs_bad (x : Int32) : Prop := x < 0 ∨ nI 6 ≤ x
theorem rs_regX0 {post : Int32 → Prop} {x : Int32} (h : rs_bad x) (H : post 0) : wpX_isRegister post x :=
  br_c (fun _ => H) (fun hn => br_t (h.resolve_left hn) H)
theorem rs_6of {x : Int32} (h : nI 6 ≤ x) : (5 : Int32) < x := by
  rw [Int32.lt_iff_toInt_lt]
  rw [Int32.le_iff_toInt_le, nI_toInt (by omega)] at h
  have e : (5 : Int32).toInt = 5 := by decide
  rw [e]
  omega
theorem rs_regY0 {post : Int32 → Prop} {v : SY} {x : Int32} (h : rs_bad x) (H : post 0) : wpY_isRegister post v x := by
  obtain ⟨c, M, X, C⟩ := v
  exact br_c (fun _ => H) (fun hn => br_t (rs_6of (h.resolve_left hn)) H)
theorem rs_reg (x : Int32) : rs_bad x ∨ ∃ r : Nat, r < 6 ∧ x = nI r := by
  rcases pk_ix x (n := 6) (by omega) with h | h | h
  · exact Or.inl (Or.inl h)
  · exact Or.inl (Or.inr h)
  · exact Or.inr h
theorem rs_areX1 {post : Int32 → Prop} {r x y : Nat} (hr : r < 6) (hx : x < 6) (hy : y < 6) (H : post 1) : wpX_areRegisters post (nI r) (nI x) (nI y) := by
  unfold wpX_areRegisters
  refine rs_regX1 hr (br_f rs_1n0 ?_)
  refine rs_regX1 hx (br_f rs_1n0 ?_)
  exact rs_regX1 hy (br_f rs_1n0 H)
theorem rs_areY1 {post : Int32 → Prop} {v : SY} {r x y : Nat} (hr : r < 6) (hx : x < 6) (hy : y < 6) (H : post 1) : wpY_areRegisters post v (nI r) (nI x) (nI y) := by
  obtain ⟨c, M, X, C⟩ := v
  unfold wpY_areRegisters
  dsimp only
  refine rs_regY1 hr (br_f rs_1n0 ?_)
  refine rs_regY1 hx (br_f rs_1n0 ?_)
  exact rs_regY1 hy (br_f rs_1n0 H)
/-- one of the three is no register -/
def rs_bad3 (a b d : Int32) : Prop := (∀ post : Int32 → Prop, post 0 → wpX_areRegisters post a b d) ∧ (∀ (post : Int32 → Prop) (v : SY), post 0 → wpY_areRegisters post v a b d)
theorem rs_bad3a {a b d : Int32} (h : rs_bad a) : rs_bad3 a b d := by
  constructor
  · intro post H
    unfold wpX_areRegisters
    exact rs_regX0 h (br_t rfl H)
  · intro post v H
    obtain ⟨c, M, X, C⟩ := v
    unfold wpY_areRegisters
    dsimp only
    exact rs_regY0 h (br_t rfl H)
theorem rs_bad3b {r : Nat} {b d : Int32} (hr : r < 6) (h : rs_bad b) : rs_bad3 (nI r) b d := by
  constructor
  · intro post H
    unfold wpX_areRegisters
    refine rs_regX1 hr (br_f rs_1n0 ?_)
    exact rs_regX0 h (br_t rfl H)
  · intro post v H
    obtain ⟨c, M, X, C⟩ := v
    unfold wpY_areRegisters
    dsimp only
    refine rs_regY1 hr (br_f rs_1n0 ?_)
    exact rs_regY0 h (br_t rfl H)
theorem rs_bad3c {r x : Nat} {d : Int32} (hr : r < 6) (hx : x < 6) (h : rs_bad d) : rs_bad3 (nI r) (nI x) d := by
  constructor
  · intro post H
    unfold wpX_areRegisters
    refine rs_regX1 hr (br_f rs_1n0 ?_)
    refine rs_regX1 hx (br_f rs_1n0 ?_)
    exact rs_regX0 h (br_t rfl H)
  · intro post v H
    obtain ⟨c, M, X, C⟩ := v
    unfold wpY_areRegisters
    dsimp only
    refine rs_regY1 hr (br_f rs_1n0 ?_)
    refine rs_regY1 hx (br_f rs_1n0 ?_)
    exact rs_regY0 h (br_t rfl H)
theorem rs_are (a b d : Int32) : (∃ r x y : Nat, (r < 6 ∧ x < 6 ∧ y < 6) ∧ a = nI r ∧ b = nI x ∧ d = nI y) ∨ rs_bad3 a b d := by
  rcases rs_reg a with h | ⟨r, hr, rfl⟩
  · exact Or.inr (rs_bad3a h)
  · rcases rs_reg b with h | ⟨x, hx, rfl⟩
    · exact Or.inr (rs_bad3b hr h)
    · rcases rs_reg d with h | ⟨y, hy, rfl⟩
      · exact Or.inr (rs_bad3c hr hx h)
      · exact Or.inl ⟨r, x, y, ⟨hr, hx, hy⟩, rfl, rfl, rfl⟩
theorem rs_ldFl {post : SX → Prop} {c : Nat → Int32} {s R : Nat → Int64} {r : Nat} (hr : r < 6) (H : ∀ w, rs_L w (rs_z c r) 5 → post (c, w, s, R)) : ∀ (d i : Nat) (w : Nat → Int64), i + d = 5 → rs_L w (rs_z c r) i → wX_load__first_2 post (nI r) (d + 1) (nI i) c w s R := by
  intro d
  induction d with
  | zero =>
    intro i w hi hL
    obtain rfl : i = 5 := by omega
    exact br_t (by decide) (H w hL)
  | succ d ih =>
    intro i w hi hL
    refine pk_le 5 i (fun h => absurd h (by omega)) (fun _ => ⟨rs_inX hr (by omega), vp_in_nI (by omega) (by omega), fun a ea y ey => ?_⟩)
    rw [ey, nI_1, ea, rs_clX hr (by omega), nI_clamp (by omega)]
    exact ih (i + 1) _ (by omega) (rs_Lu hL (rs_ld c r i))
theorem rs_ldF {post : SX → Prop} {c : Nat → Int32} {f s R : Nat → Int64} {r : Nat} (hr : r < 6) (H : ∀ w, rs_L w (rs_z c r) 5 → post (c, w, s, R)) : wpX_load__first post (c, f, s, R) (nI r) :=
  ⟨6, rs_ldFl hr H 5 0 f rfl (rs_L0 _ _)⟩
theorem rs_ldSl {post : SX → Prop} {c : Nat → Int32} {f R : Nat → Int64} {r : Nat} (hr : r < 6) (H : ∀ w, rs_L w (rs_z c r) 5 → post (c, f, w, R)) : ∀ (d i : Nat) (w : Nat → Int64), i + d = 5 → rs_L w (rs_z c r) i → wX_load__second_2 post (nI r) (d + 1) (nI i) c f w R := by
  intro d
  induction d with
  | zero =>
    intro i w hi hL
    obtain rfl : i = 5 := by omega
    exact br_t (by decide) (H w hL)
  | succ d ih =>
    intro i w hi hL
    refine pk_le 5 i (fun h => absurd h (by omega)) (fun _ => ⟨rs_inX hr (by omega), vp_in_nI (by omega) (by omega), fun a ea y ey => ?_⟩)
    rw [ey, nI_1, ea, rs_clX hr (by omega), nI_clamp (by omega)]
    exact ih (i + 1) _ (by omega) (rs_Lu hL (rs_ld c r i))
theorem rs_ldS {post : SX → Prop} {c : Nat → Int32} {f s R : Nat → Int64} {r : Nat} (hr : r < 6) (H : ∀ w, rs_L w (rs_z c r) 5 → post (c, f, w, R)) : wpX_load__second post (c, f, s, R) (nI r) :=
  ⟨6, rs_ldSl hr H 5 0 s rfl (rs_L0 _ _)⟩
theorem rs_ldRl {post : SX → Prop} {c : Nat → Int32} {f s : Nat → Int64} {r : Nat} (hr : r < 6) (H : ∀ w, rs_L w (rs_z c r) 5 → post (c, f, s, w)) : ∀ (d i : Nat) (w : Nat → Int64), i + d = 5 → rs_L w (rs_z c r) i → wX_load__result_2 post (nI r) (d + 1) (nI i) c f s w := by
  intro d
  induction d with
  | zero =>
    intro i w hi hL
    obtain rfl : i = 5 := by omega
    exact br_t (by decide) (H w hL)
  | succ d ih =>
    intro i w hi hL
    refine pk_le 5 i (fun h => absurd h (by omega)) (fun _ => ⟨rs_inX hr (by omega), vp_in_nI (by omega) (by omega), fun a ea y ey => ?_⟩)
    rw [ey, nI_1, ea, rs_clX hr (by omega), nI_clamp (by omega)]
    exact ih (i + 1) _ (by omega) (rs_Lu hL (rs_ld c r i))
theorem rs_ldR {post : SX → Prop} {c : Nat → Int32} {f s R : Nat → Int64} {r : Nat} (hr : r < 6) (H : ∀ w, rs_L w (rs_z c r) 5 → post (c, f, s, w)) : wpX_load__result post (c, f, s, R) (nI r) :=
  ⟨6, rs_ldRl hr H 5 0 R rfl (rs_L0 _ _)⟩
theorem rs_ldMl {post : SY → Prop} {c : Nat → Int32} {X C : Nat → Int64} {r : Nat} (hr : r < 6) (H : ∀ w, rs_L w (rs_z c r) 5 → post (c, w, X, C)) : ∀ (d i : Nat) (w : Nat → Int64), i + d = 5 → rs_L w (rs_z c r) i → wY_copy_2 post (nI r) (d + 1) (nI i) c w X C := by
  intro d
  induction d with
  | zero =>
    intro i w hi hL
    obtain rfl : i = 5 := by omega
    exact br_t (by decide) (H w hL)
  | succ d ih =>
    intro i w hi hL
    refine pk_le 5 i (fun h => absurd h (by omega)) (fun _ => ⟨rs_inY hr (by omega), vp_in_nI (by omega) (by omega), fun a ea y ey => ?_⟩)
    rw [ey, nI_1, ea, rs_clY hr (by omega), nI_clamp (by omega)]
    exact ih (i + 1) _ (by omega) (rs_Lu hL (rs_ld c r i))
theorem rs_ldM {post : SY → Prop} {c : Nat → Int32} {M X C : Nat → Int64} {r : Nat} (hr : r < 6) (H : ∀ w, rs_L w (rs_z c r) 5 → post (c, w, X, C)) : wpY_copy post (c, M, X, C) (nI r) :=
  ⟨6, rs_ldMl hr H 5 0 M rfl (rs_L0 _ _)⟩
