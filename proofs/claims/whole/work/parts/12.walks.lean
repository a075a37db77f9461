/-! part 12: whole parts, positive conjugates, ranks, degrees: the walks of both sides -/
def rs_p2 : Nat → Int
  | 0 => 1
  | d + 1 => 2 * rs_p2 d
theorem rs_p2p (d : Nat) : 1 ≤ rs_p2 d := by
  induction d with
  | zero => exact Int.le_refl 1
  | succ d ih =>
    show 1 ≤ 2 * rs_p2 d
    omega
theorem rs_shl {e : Nat} (h : e ≤ 10) : (1 : Int32) <<< (nI e &&& 31) = Int32.ofInt (rs_p2 e) := by
  rcases (show e = 0 ∨ e = 1 ∨ e = 2 ∨ e = 3 ∨ e = 4 ∨ e = 5 ∨ e = 6 ∨ e = 7 ∨ e = 8 ∨ e = 9 ∨ e = 10 by omega) with rfl | rfl | rfl | rfl | rfl | rfl | rfl | rfl | rfl | rfl | rfl
  · decide
  · decide
  · decide
  · decide
  · decide
  · decide
  · decide
  · decide
  · decide
  · decide
  · decide
theorem rs_nIt {n : Nat} (h : n < 1000) : (nI n).toInt64 = Int64.ofInt (n : Int) := by
  rw [rs_c64, nI_toInt (by omega)]
theorem rs_ofN (d : Nat) : Int32.ofInt (d : Int) = nI d := Int32.ofInt_eq_ofNat
theorem rs_lt0 {p : Int} (h : -1000 ≤ p ∧ p ≤ 1000) : Int32.ofInt p < 0 ↔ p < 0 := by
  have e : (0 : Int32).toInt = 0 := by decide
  rw [Int32.lt_iff_toInt_lt, rs_t32 (by omega) (by omega), e]
theorem rs_le0 {p : Int} (h : -1000 ≤ p ∧ p ≤ 1000) : Int32.ofInt p ≤ 0 ↔ p ≤ 0 := by
  have e : (0 : Int32).toInt = 0 := by decide
  rw [Int32.le_iff_toInt_le, rs_t32 (by omega) (by omega), e]
theorem rs_eq0 {p : Int} (h : -1000 ≤ p ∧ p ≤ 1000) : Int32.ofInt p = 0 ↔ p = 0 := by
  rw [rs_c0, rs_t32 (by omega) (by omega)]
theorem rs_sgr {a b c d : Int} (hB : rs_B a b c d) : -1000 ≤ rs_sg a b c d ∧ rs_sg a b c d ≤ 1000 := by
  rcases rs_main hB with h | h | h
  · rw [h.1]
    omega
  · rw [h.1]
    omega
  · rw [h.1]
    omega
theorem rs_flXl {post : Int32 → SX → Prop} {c : Nat → Int32} {f s R : Nat → Int64} {n : Nat} {z : Nat → Int} (hn : n ≤ 5) (hz : rs_ok z) (hf : rs_L f z 5) (H : post (Int32.ofInt (rs_F n z)) (c, f, s, R)) : ∀ (d : Nat) (B : Int), d ≤ 11 → -1024 ≤ B → B + rs_p2 d ≤ 1024 → B ≤ rs_F n z → rs_F n z < B + rs_p2 d → wX_floorOfTimes_17 post (nI n) c f s R (d + 1) (Int32.ofInt B) (Int32.ofInt ((d : Int) - 1)) := by
  intro d
  induction d with
  | zero =>
    intro B _ _ _ h3 h4
    have e : B = rs_F n z := by
      have : rs_p2 0 = 1 := rfl
      omega
    rw [e]
    exact br_t (by decide) H
  | succ d ih =>
    intro B hd h1 h2 h3 h4
    have ed : ((d + 1 : Nat) : Int) - 1 = (d : Int) := by omega
    have ep : rs_p2 (d + 1) = 2 * rs_p2 d := rfl
    have hp := rs_p2p d
    rw [ep] at h2 h4
    rw [ed, rs_ofN]
    refine br_f (nI_pos (by omega)) (fun x ex y ey => ?_)
    have ex2 : x = Int32.ofInt (B + rs_p2 d) := by
      rw [ex, rs_shl (by omega), ← Int32.ofInt_add]
    have ex3 : x.toInt64 = Int64.ofInt (B + rs_p2 d) := by
      rw [ex2, rs_c64, rs_t32 (by omega) (by omega)]
    have hB := rs_fB (n := (n : Int)) (f := B + rs_p2 d) (z := z) (by omega) hz (by omega)
    have en := rs_nIt (n := n) (by omega)
    have ey2 : y = Int64.ofInt ((n : Int) * z 0 - (B + rs_p2 d) * z 4) := by
      rw [ey, ex3, en, hf 0 (by omega), hf 4 (by omega), ← Int64.ofInt_mul, ← Int64.ofInt_mul, ← Int64.ofInt_sub]
    rw [ey2, en, hf 1 (by omega), hf 2 (by omega), hf 3 (by omega), ← Int64.ofInt_mul, ← Int64.ofInt_mul, ← Int64.ofInt_mul]
    have em : nI d + (-1) = Int32.ofInt ((d : Int) - 1) := by
      have e1 : (d : Int) - 1 = (d : Int) + (-1) := by omega
      have e2 : Int32.ofInt (-1) = -1 := by decide
      rw [e1, Int32.ofInt_add, e2, rs_ofN]
    have hge := rs_ge hB
    rw [rs_leF hz.2.1] at hge
    have hsr := rs_sgr hB
    refine rs_sumX hB ?_
    by_cases hs : 0 ≤ rs_sg ((n : Int) * z 0 - (B + rs_p2 d) * z 4) ((n : Int) * z 1) ((n : Int) * z 2) ((n : Int) * z 3)
    · refine br_f (fun h => absurd ((rs_lt0 hsr).mp h) (by omega)) (fun j ej => ?_)
      rw [ej, em, ex2]
      have hF := hge.mp hs
      exact ih _ (by omega) (by omega) (by omega) hF (by omega)
    · refine br_t ((rs_lt0 hsr).mpr (by omega)) (fun j ej => ?_)
      rw [ej, em]
      have hF : ¬ B + rs_p2 d ≤ rs_F n z := fun h => hs (hge.mpr h)
      exact ih B (by omega) h1 (by omega) h3 (by omega)
theorem rs_flX {post : Int32 → SX → Prop} {c : Nat → Int32} {f s R : Nat → Int64} {r n : Nat} (hc : rs_Rc c) (hr : r < 6) (hn : n ≤ 5) (H : ∀ f, post (Int32.ofInt (rs_F n (rs_z c r))) (c, f, s, R)) : wpX_floorOfTimes post (c, f, s, R) (nI r) (nI n) := by
  unfold wpX_floorOfTimes
  dsimp only
  refine rs_ldF hr (fun f' hf => ?_)
  dsimp only
  have hF := rs_Fb (n := (n : Int)) (z := rs_z c r) (by omega) (hc r hr)
  have hp : rs_p2 11 = 2048 := by decide
  exact ⟨12, rs_flXl hn (hc r hr) hf (H f') 11 (-1024) (by omega) (by omega) (by omega) hF.1 (by omega)⟩
theorem rs_nm {c : Nat → Int32} {r n k : Nat} (hc : rs_Rc c) (hr : r < 6) (hn : n ≤ 5) (hk : k < 5) : (nI n * c (5 * r + k)).toInt64 = Int64.ofInt ((n : Int) * rs_z c r k) := by
  have b := rs_nz (n := (n : Int)) (by omega) (rs_okb (hc r hr) hk)
  have e1 : (c (5 * r + k)).toInt = rs_z c r k := rfl
  have e2 : (nI n).toInt = (n : Int) := nI_toInt (by omega)
  rw [rs_c64, rs_m32, e1, e2]
  · rw [e1, e2]
    omega
  · rw [e1, e2]
    omega
theorem rs_wpl {post : Int32 → Prop} {c : Nat → Int32} {M X C : Nat → Int64} {r n : Nat} (hc : rs_Rc c) (hr : r < 6) (hn : n ≤ 5) (H : post (Int32.ofInt (rs_F n (rs_z c r)))) : ∀ (m : Nat) (f : Int) (g : Int32), ¬ g < 0 → -1100 ≤ f → f + 1 + m = rs_F n (rs_z c r) → wY_wholePart_7 post (nI r) (nI n) c M X C (m + 2) (Int32.ofInt f) g := by
  have hF := rs_Fb (n := (n : Int)) (z := rs_z c r) (by omega) (hc r hr)
  have hz := hc r hr
  obtain ⟨k1, k2, k3, k4⟩ := rs_clYk hr
  intro m
  induction m with
  | zero =>
    intro f g hg hf he
    refine br_f hg (fun x ex => ⟨rs_inY0 hr, rs_inY (k := 4) hr (by omega), fun y ey => ⟨rs_inY (k := 1) hr (by omega), rs_inY (k := 2) hr (by omega), rs_inY (k := 3) hr (by omega), ?_⟩⟩)
    have ex2 : x = Int32.ofInt (f + 1) := ex.trans (Int32.ofInt_add f 1).symm
    have ex3 : x.toInt64 = Int64.ofInt (f + 1) := by
      rw [ex2, rs_c64, rs_t32 (by omega) (by omega)]
    have ex4 : x.toInt64 + 1 = Int64.ofInt (f + 1 + 1) := by
      rw [ex3]
      exact (Int64.ofInt_add (f + 1) 1).symm
    have ey2 : y = Int64.ofInt ((n : Int) * rs_z c r 0 - (f + 1 + 1) * rs_z c r 4) := by
      rw [ey, ex4, rs_clY0 hr, k4, rs_nm hc hr hn (by omega), rs_ld, ← Int64.ofInt_mul, ← Int64.ofInt_sub]
    rw [ey2, k1, k2, k3, rs_nm hc hr hn (by omega), rs_nm hc hr hn (by omega), rs_nm hc hr hn (by omega)]
    have hB := rs_fB (n := (n : Int)) (f := f + 1 + 1) (z := rs_z c r) (by omega) hz (by omega)
    have hge := rs_ge hB
    rw [rs_leF hz.2.1] at hge
    have hsr := rs_sgr hB
    refine rs_sgY hB ?_
    rw [← rs_xy hB]
    have hs : ¬ 0 ≤ rs_sg ((n : Int) * rs_z c r 0 - (f + 1 + 1) * rs_z c r 4) ((n : Int) * rs_z c r 1) ((n : Int) * rs_z c r 2) ((n : Int) * rs_z c r 3) := fun h => absurd (hge.mp h) (by omega)
    refine br_t ((rs_lt0 hsr).mpr (by omega)) ?_
    rw [ex2]
    have e : f + 1 = rs_F n (rs_z c r) := by omega
    rw [e]
    exact H
  | succ m ih =>
    intro f g hg hf he
    refine br_f hg (fun x ex => ⟨rs_inY0 hr, rs_inY (k := 4) hr (by omega), fun y ey => ⟨rs_inY (k := 1) hr (by omega), rs_inY (k := 2) hr (by omega), rs_inY (k := 3) hr (by omega), ?_⟩⟩)
    have ex2 : x = Int32.ofInt (f + 1) := ex.trans (Int32.ofInt_add f 1).symm
    have ex3 : x.toInt64 = Int64.ofInt (f + 1) := by
      rw [ex2, rs_c64, rs_t32 (by omega) (by omega)]
    have ex4 : x.toInt64 + 1 = Int64.ofInt (f + 1 + 1) := by
      rw [ex3]
      exact (Int64.ofInt_add (f + 1) 1).symm
    have ey2 : y = Int64.ofInt ((n : Int) * rs_z c r 0 - (f + 1 + 1) * rs_z c r 4) := by
      rw [ey, ex4, rs_clY0 hr, k4, rs_nm hc hr hn (by omega), rs_ld, ← Int64.ofInt_mul, ← Int64.ofInt_sub]
    rw [ey2, k1, k2, k3, rs_nm hc hr hn (by omega), rs_nm hc hr hn (by omega), rs_nm hc hr hn (by omega)]
    have hB := rs_fB (n := (n : Int)) (f := f + 1 + 1) (z := rs_z c r) (by omega) hz (by omega)
    have hge := rs_ge hB
    rw [rs_leF hz.2.1] at hge
    have hsr := rs_sgr hB
    refine rs_sgY hB ?_
    rw [← rs_xy hB, ex2]
    have hs : 0 ≤ rs_sg ((n : Int) * rs_z c r 0 - (f + 1 + 1) * rs_z c r 4) ((n : Int) * rs_z c r 1) ((n : Int) * rs_z c r 2) ((n : Int) * rs_z c r 3) := hge.mpr (by omega)
    exact ih (f + 1) _ (fun h => absurd ((rs_lt0 hsr).mp h) (by omega)) (by omega) (by omega)
theorem rs_wpY {post : Int32 → Prop} {c : Nat → Int32} {M X C : Nat → Int64} {r n : Nat} (hc : rs_Rc c) (hr : r < 6) (hn : n ≤ 5) (H : post (Int32.ofInt (rs_F n (rs_z c r)))) : wpY_wholePart post (c, M, X, C) (nI r) (nI n) := by
  have hF := rs_Fb (n := (n : Int)) (z := rs_z c r) (by omega) (hc r hr)
  unfold wpY_wholePart
  dsimp only
  obtain ⟨m, hm⟩ : ∃ m : Nat, (-1100) + 1 + (m : Int) = rs_F n (rs_z c r) := ⟨(rs_F n (rs_z c r) + 1099).toNat, by omega⟩
  exact ⟨m + 2, rs_wpl hc hr hn H m (-1100) 1 (by decide) (by omega) hm⟩
