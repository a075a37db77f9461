/-! part 13: positive conjugates, ranks, degrees: the walks of both sides -/
theorem rs_f2r (w : Nat) : rs_f2 w = 1 ∨ rs_f2 w = -1 := by
  unfold rs_f2
  split
  · exact Or.inr rfl
  · exact Or.inl rfl
theorem rs_f3r (w : Nat) : rs_f3 w = 1 ∨ rs_f3 w = -1 := by
  unfold rs_f3
  split
  · exact Or.inr rfl
  · exact Or.inl rfl
theorem rs_f23r (w : Nat) : rs_f2 w * rs_f3 w = 1 ∨ rs_f2 w * rs_f3 w = -1 := by
  rcases rs_f2r w with h | h <;> rcases rs_f3r w with g | g <;> rw [h, g] <;> decide
theorem rs_flr (k w : Nat) : rs_fl k w = 1 ∨ rs_fl k w = -1 := by
  unfold rs_fl
  split
  · exact rs_f2r w
  · split
    · exact rs_f3r w
    · split
      · exact rs_f23r w
      · exact Or.inl rfl
theorem rs_pmb {t x : Int} (ht : t = 1 ∨ t = -1) (hx : -30 ≤ x ∧ x ≤ 30) : -30 ≤ t * x ∧ t * x ≤ 30 := by
  rcases ht with rfl | rfl <;> omega
theorem rs_fm {c : Nat → Int32} {r k w : Nat} (hc : rs_Rc c) (hr : r < 6) (hk : k < 5) : (c (5 * r + k) * Int32.ofInt (rs_fl k w)).toInt = rs_fl k w * rs_z c r k := by
  have b := rs_pmb (rs_flr k w) (rs_okb (hc r hr) hk)
  have b2 := rs_flr k w
  have e1 : (c (5 * r + k)).toInt = rs_z c r k := rfl
  have e2 : (Int32.ofInt (rs_fl k w)).toInt = rs_fl k w := rs_t32 (by omega) (by omega)
  rw [rs_m32, e1, e2, Int.mul_comm]
  · rw [e1, e2, Int.mul_comm]
    omega
  · rw [e1, e2, Int.mul_comm]
    omega
def rs_cz (z : Nat → Int) (w : Nat) : Nat → Int := rs_cj (rs_f2 w) (rs_f3 w) z
theorem rs_czb {z : Nat → Int} (hz : rs_ok z) (w : Nat) {k : Nat} (hk : k < 5) : -30 ≤ rs_cz z w k ∧ rs_cz z w k ≤ 30 := by
  refine rs_co5 (P := fun k => -30 ≤ rs_cz z w k ∧ rs_cz z w k ≤ 30) ?_ ?_ ?_ ?_ ?_ hk
  · exact rs_okb hz (k := 0) (by omega)
  · exact rs_pmb (rs_f2r w) (rs_okb hz (k := 1) (by omega))
  · exact rs_pmb (rs_f3r w) (rs_okb hz (k := 2) (by omega))
  · exact rs_pmb (rs_f23r w) (rs_okb hz (k := 3) (by omega))
  · exact rs_okb hz (k := 4) (by omega)
theorem rs_czB {z : Nat → Int} (hz : rs_ok z) (w : Nat) : rs_B (rs_cz z w 0) (rs_cz z w 1) (rs_cz z w 2) (rs_cz z w 3) := by
  have b0 := rs_czb hz w (k := 0) (by omega)
  have b1 := rs_czb hz w (k := 1) (by omega)
  have b2 := rs_czb hz w (k := 2) (by omega)
  have b3 := rs_czb hz w (k := 3) (by omega)
  exact ⟨by omega, by omega, by omega, by omega⟩
def rs_sp (z : Nat → Int) (w : Nat) : Int := rs_sg (rs_cz z w 0) (rs_cz z w 1) (rs_cz z w 2) (rs_cz z w 3)
def rs_ct (z : Nat → Int) : Nat → Nat
  | 0 => 0
  | w + 1 => if 0 < rs_sp z w then rs_ct z w + 1 else rs_ct z w
theorem rs_poXl {post : Int32 → SX → Prop} {c : Nat → Int32} {s R : Nat → Int64} {r : Nat} (hc : rs_Rc c) (hr : r < 6) (H : ∀ f, post (nI (rs_ct (rs_z c r) 4)) (c, f, s, R)) : ∀ (d w : Nat) (f : Nat → Int64), w + d = 4 → wX_positive_14 post (nI r) (d + 1) (nI (rs_ct (rs_z c r) w)) (nI w) c f s R := by
  intro d
  induction d with
  | zero =>
    intro w f hw
    obtain rfl : w = 4 := by omega
    exact br_t (by decide) (H f)
  | succ d ih =>
    intro w f hw
    refine pk_le 4 w (fun h => absurd h (by omega)) (fun _ => ?_)
    refine rs_ldF hr (fun f1 hf1 => ?_)
    dsimp only
    refine rs_pcF (by omega) hf1 (fun f2 hf2 => ?_)
    dsimp only
    have hB := rs_czB (hc r hr) w
    have hsr := rs_sgr hB
    rw [hf2 0 (by omega), hf2 1 (by omega), hf2 2 (by omega), hf2 3 (by omega)]
    refine rs_sumX hB ?_
    by_cases hs : 0 < rs_sp (rs_z c r) w
    · refine br_f (fun h => absurd ((rs_le0 hsr).mp h) (fun g => absurd hs (Int.not_lt.mpr g))) (fun a ea j ej => ?_)
      rw [ea, ej, nI_1, nI_1]
      have e : rs_ct (rs_z c r) (w + 1) = rs_ct (rs_z c r) w + 1 := if_pos hs
      rw [← e]
      exact ih (w + 1) f2 (by omega)
    · refine br_t ((rs_le0 hsr).mpr (Int.not_lt.mp hs)) (fun j ej => ?_)
      rw [ej, nI_1]
      have e : rs_ct (rs_z c r) (w + 1) = rs_ct (rs_z c r) w := if_neg hs
      rw [← e]
      exact ih (w + 1) f2 (by omega)
theorem rs_poYl {post : Int32 → Prop} {c : Nat → Int32} {M X C : Nat → Int64} {r : Nat} (hc : rs_Rc c) (hr : r < 6) (H : post (nI (rs_ct (rs_z c r) 4))) : ∀ (d w : Nat), w + d = 4 → wY_positive_15 post (nI r) c M X C (d + 1) (nI (rs_ct (rs_z c r) w)) (nI w) := by
  obtain ⟨k1, k2, k3, k4⟩ := rs_clYk hr
  intro d
  induction d with
  | zero =>
    intro w hw
    obtain rfl : w = 4 := by omega
    exact br_t (by decide) H
  | succ d ih =>
    intro w hw
    refine pk_le 4 w (fun h => absurd h (by omega)) (fun _ => ⟨rs_inY (k := 1) hr (by omega), ?_⟩)
    refine rs_flY (k := 1) (by omega) (by omega) (fun p ep => ⟨rs_inY (k := 2) hr (by omega), ?_⟩)
    refine rs_flY (k := 2) (by omega) (by omega) (fun q eq => ⟨rs_inY (k := 3) hr (by omega), ?_⟩)
    refine rs_flY (k := 3) (by omega) (by omega) (fun t et => ⟨rs_inY0 hr, ?_⟩)
    rw [k1] at ep
    rw [k2] at eq
    rw [k3] at et
    have e1 : p.toInt64 = Int64.ofInt (rs_cz (rs_z c r) w 1) := by
      rw [rs_c64, ep, rs_fm hc hr (by omega)]
      rfl
    have e2 : q.toInt64 = Int64.ofInt (rs_cz (rs_z c r) w 2) := by
      rw [rs_c64, eq, rs_fm hc hr (by omega)]
      rfl
    have e3 : t.toInt64 = Int64.ofInt (rs_cz (rs_z c r) w 3) := by
      rw [rs_c64, et, rs_fm hc hr (by omega)]
      rfl
    have e0 : (c (5 * nI r).toNatClampNeg).toInt64 = Int64.ofInt (rs_cz (rs_z c r) w 0) := by
      rw [rs_clY0 hr, rs_ld]
      rfl
    rw [e0, e1, e2, e3]
    have hB := rs_czB (hc r hr) w
    have hsr := rs_sgr hB
    refine rs_sgY hB ?_
    rw [← rs_xy hB]
    by_cases hs : 0 < rs_sp (rs_z c r) w
    · refine br_f (fun h => absurd ((rs_le0 hsr).mp h) (fun g => absurd hs (Int.not_lt.mpr g))) (fun a ea j ej => ?_)
      rw [ea, ej, nI_1, nI_1]
      have e : rs_ct (rs_z c r) (w + 1) = rs_ct (rs_z c r) w + 1 := if_pos hs
      rw [← e]
      exact ih (w + 1) (by omega)
    · refine br_t ((rs_le0 hsr).mpr (Int.not_lt.mp hs)) (fun j ej => ?_)
      rw [ej, nI_1]
      have e : rs_ct (rs_z c r) (w + 1) = rs_ct (rs_z c r) w := if_neg hs
      rw [← e]
      exact ih (w + 1) (by omega)
theorem rs_or1 {c : Nat → Int32} {x y : Nat} (hc : rs_Rc c) (hx : x < 6) (hy : y < 6) : -1000 ≤ rs_o c x y ∧ rs_o c x y ≤ 1000 := rs_sgr (rs_adB (hc x hx) (hc y hy) (Or.inr rfl))
/-- how many of the first s registers stand before register r -/
def rs_cn (c : Nat → Int32) (r : Nat) : Nat → Nat
  | 0 => 0
  | s + 1 => if rs_o c s r < 0 ∨ (rs_o c s r = 0 ∧ s < r) then rs_cn c r s + 1 else rs_cn c r s
theorem rs_cnXl {post : Int32 → SX → Prop} {c : Nat → Int32} {r : Nat} (hc : rs_Rc c) (hr : r < 6) (H : ∀ f s R, post (nI (rs_cn c r 6)) (c, f, s, R)) : ∀ (d i : Nat) (f s R : Nat → Int64), i + d = 6 → wX_countBefore_4 post (nI r) (d + 1) (nI (rs_cn c r i)) (nI i) c f s R := by
  intro d
  induction d with
  | zero =>
    intro i f s R hi
    obtain rfl : i = 6 := by omega
    exact br_t (by decide) (H f s R)
  | succ d ih =>
    intro i f s R hi
    refine pk_le 6 i (fun h => absurd h (by omega)) (fun _ => ?_)
    refine rs_orX hc (by omega) hr (fun f1 s1 R1 => ?_)
    dsimp only
    have b := rs_or1 hc (show i < 6 by omega) hr
    have yes : rs_o c i r < 0 ∨ (rs_o c i r = 0 ∧ i < r) → ∀ a : Int32, a = nI (rs_cn c r i) + 1 → ∀ j : Int32, j = nI i + 1 → wX_countBefore_4 post (nI r) (d + 1) a j c f1 s1 R1 := by
      intro h a ea j ej
      rw [ea, ej, nI_1, nI_1]
      have e : rs_cn c r (i + 1) = rs_cn c r i + 1 := if_pos h
      rw [← e]
      exact ih (i + 1) f1 s1 R1 (by omega)
    have no : ¬ (rs_o c i r < 0 ∨ (rs_o c i r = 0 ∧ i < r)) → ∀ j : Int32, j = nI i + 1 → wX_countBefore_4 post (nI r) (d + 1) (nI (rs_cn c r i)) j c f1 s1 R1 := by
      intro h j ej
      rw [ej, nI_1]
      have e : rs_cn c r (i + 1) = rs_cn c r i := if_neg h
      rw [← e]
      exact ih (i + 1) f1 s1 R1 (by omega)
    by_cases h1 : rs_o c i r < 0
    · exact br_t ((rs_lt0 b).mpr h1) (yes (Or.inl h1))
    · refine br_f (fun g => h1 ((rs_lt0 b).mp g)) ?_
      by_cases h2 : rs_o c i r = 0
      · refine br_t ((rs_eq0 b).mpr h2) (pk_le r i (fun h => ?_) (fun h => ?_))
        · exact no (by omega)
        · exact yes (Or.inr ⟨h2, h⟩)
      · exact br_f (fun g => h2 ((rs_eq0 b).mp g)) (no (by omega))
/-- the first register from i on with rank k -/
def rs_rk (c : Nat → Int32) (k : Int32) : Nat → Nat → Int32
  | 0 => fun _ => -1000000
  | d + 1 => fun i => if nI (rs_cn c i 6) = k then nI i else rs_rk c k d (i + 1)
theorem rs_rkXl {post : Int32 → SX → Prop} {c : Nat → Int32} {k : Int32} (hc : rs_Rc c) : ∀ (d i : Nat) (f s R : Nat → Int64), i + d = 6 → (∀ f s R, post (rs_rk c k d i) (c, f, s, R)) → wX_ranked_15 post k (d + 1) (nI i) c f s R := by
  intro d
  induction d with
  | zero =>
    intro i f s R hi H
    obtain rfl : i = 6 := by omega
    exact br_t (by decide) (H f s R)
  | succ d ih =>
    intro i f s R hi H
    refine pk_le 6 i (fun h => absurd h (by omega)) (fun _ => ?_)
    refine ⟨7, rs_cnXl hc (by omega) (fun f1 s1 R1 => ?_) 6 0 f s R rfl⟩
    dsimp only
    by_cases h : nI (rs_cn c i 6) = k
    · have e : rs_rk c k (d + 1) i = nI i := if_pos h
      rw [e] at H
      exact br_t h (H f1 s1 R1)
    · have e : rs_rk c k (d + 1) i = rs_rk c k d (i + 1) := if_neg h
      rw [e] at H
      refine br_f h (fun j ej => ?_)
      rw [ej, nI_1]
      exact ih (i + 1) f1 s1 R1 (by omega) H
theorem rs_cnYl {post : Int32 → SY → Prop} {J : Int32 → (Nat → Int32) → (Nat → Int64) → (Nat → Int64) → (Nat → Int64) → Prop} {c : Nat → Int32} {X C : Nat → Int64} {k : Int32} {r : Nat} (hc : rs_Rc c) (hr : r < 6) (H1 : ∀ M, nI (rs_cn c r 6) = k → post (nI r) (c, M, X, C)) (H2 : ∀ M, ¬ nI (rs_cn c r 6) = k → J (nI (r + 1)) c M X C) : ∀ (d i : Nat) (M : Nat → Int64), i + d = 6 → wY_ranked_13 post J k (nI r) (d + 1) (nI (rs_cn c r i)) (nI i) c M X C := by
  intro d
  induction d with
  | zero =>
    intro i M hi
    obtain rfl : i = 6 := by omega
    refine br_t (by decide) (br_c (H1 M) (fun h j ej => ?_))
    rw [ej, nI_1]
    exact H2 M h
  | succ d ih =>
    intro i M hi
    refine pk_le 6 i (fun h => absurd h (by omega)) (fun _ => ?_)
    refine rs_orY hc (by omega) hr (fun M1 => ?_)
    dsimp only
    have b := rs_or1 hc (show i < 6 by omega) hr
    have yes : rs_o c i r < 0 ∨ (rs_o c i r = 0 ∧ i < r) → ∀ a : Int32, a = nI (rs_cn c r i) + 1 → ∀ j : Int32, j = nI i + 1 → wY_ranked_13 post J k (nI r) (d + 1) a j c M1 X C := by
      intro h a ea j ej
      rw [ea, ej, nI_1, nI_1]
      have e : rs_cn c r (i + 1) = rs_cn c r i + 1 := if_pos h
      rw [← e]
      exact ih (i + 1) M1 (by omega)
    have no : ¬ (rs_o c i r < 0 ∨ (rs_o c i r = 0 ∧ i < r)) → ∀ j : Int32, j = nI i + 1 → wY_ranked_13 post J k (nI r) (d + 1) (nI (rs_cn c r i)) j c M1 X C := by
      intro h j ej
      rw [ej, nI_1]
      have e : rs_cn c r (i + 1) = rs_cn c r i := if_neg h
      rw [← e]
      exact ih (i + 1) M1 (by omega)
    by_cases h1 : rs_o c i r < 0
    · exact br_t ((rs_lt0 b).mpr h1) (yes (Or.inl h1))
    · refine br_f (fun g => h1 ((rs_lt0 b).mp g)) ?_
      by_cases h2 : rs_o c i r = 0
      · refine br_t ((rs_eq0 b).mpr h2) (pk_le r i (fun h => ?_) (fun h => ?_))
        · exact no (by omega)
        · exact yes (Or.inr ⟨h2, h⟩)
      · exact br_f (fun g => h2 ((rs_eq0 b).mp g)) (no (by omega))
theorem rs_rkYl {post : Int32 → SY → Prop} {c : Nat → Int32} {X C : Nat → Int64} {k : Int32} (hc : rs_Rc c) : ∀ (d i : Nat) (M : Nat → Int64), i + d = 6 → (∀ M, post (rs_rk c k d i) (c, M, X, C)) → wY_ranked_2 post k (d + 1) (nI i) c M X C := by
  intro d
  induction d with
  | zero =>
    intro i M hi H
    obtain rfl : i = 6 := by omega
    exact br_t (by decide) (H M)
  | succ d ih =>
    intro i M hi H
    refine pk_le 6 i (fun h => absurd h (by omega)) (fun _ => ⟨7, ?_⟩)
    refine rs_cnYl hc (by omega) (fun M1 h => ?_) (fun M1 h => ?_) 6 0 M rfl
    · have e : rs_rk c k (d + 1) i = nI i := if_pos h
      rw [e] at H
      exact H M1
    · have e : rs_rk c k (d + 1) i = rs_rk c k d (i + 1) := if_neg h
      rw [e] at H
      exact ih (i + 1) M1 (by omega) H
theorem rs_ad0 (z : Nat → Int) {k : Nat} (hk : k < 4) : rs_add (-1) z z k = 0 := by
  have e : rs_add (-1) z z k = z k * z 4 + -1 * z k * z 4 := if_pos hk
  rw [e]
  grind
theorem rs_oo (c : Nat → Int32) (r : Nat) : rs_o c r r = 0 := by
  unfold rs_o
  rw [rs_ad0 _ (by omega), rs_ad0 _ (by omega), rs_ad0 _ (by omega), rs_ad0 _ (by omega)]
  decide
theorem rs_cnle (c : Nat → Int32) (r : Nat) : ∀ s, rs_cn c r s ≤ s ∧ (r < s → rs_cn c r s + 1 ≤ s) := by
  intro s
  induction s with
  | zero => exact ⟨Nat.le_refl 0, fun h => absurd h (by omega)⟩
  | succ s ih =>
    by_cases h : rs_o c s r < 0 ∨ (rs_o c s r = 0 ∧ s < r)
    · have e : rs_cn c r (s + 1) = rs_cn c r s + 1 := if_pos h
      rw [e]
      refine ⟨by omega, fun hs => ?_⟩
      have hne : s ≠ r := by
        intro hsr
        rw [hsr, rs_oo] at h
        omega
      have := ih.2 (by omega)
      omega
    · have e : rs_cn c r (s + 1) = rs_cn c r s := if_neg h
      rw [e]
      exact ⟨by omega, fun hs => by omega⟩
theorem rs_rkb {c : Nat → Int32} {k : Int32} (hk : ∀ j : Nat, j < 6 → ¬ nI j = k) : ∀ (d i : Nat), i + d = 6 → rs_rk c k d i = -1000000 := by
  intro d
  induction d with
  | zero => intro i _; rfl
  | succ d ih =>
    intro i hi
    have b := (rs_cnle c i 6).2 (by omega)
    have e : rs_rk c k (d + 1) i = rs_rk c k d (i + 1) := if_neg (hk _ (by omega))
    rw [e]
    exact ih (i + 1) (by omega)
