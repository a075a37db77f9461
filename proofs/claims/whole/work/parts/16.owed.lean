/-! part 16: the owed statements (written by wip/whole/gen_owed.py) -/
theorem i_vc_put {k : Nat} {u : SX} {v : SY} (I : i_Rel k u v) (hk : k + 4 ≤ 2048) (v1 : Int32) (v2 : Int32) (v3 : Int32) : wpX_put (fun r u' => wpY_put (fun r' v' => r' = r ∧ i_Rel (k + 4) u' v') v v1 v2 v3) u v1 v2 v3 := by
  obtain ⟨c, f, s, R, M, X, C, rfl, rfl, hc⟩ := I
  unfold wpX_put
  dsimp only
  rcases rs_reg v1 with h | ⟨r, hr, rfl⟩
  · refine rs_regX0 h (br_t rfl ?_)
    unfold wpY_put
    dsimp only
    exact rs_regY0 h (br_t rfl ⟨rfl, rs_rel hc⟩)
  refine rs_regX1 hr (br_f rs_1n0 ?_)
  rcases rs_rng v2 (n := 4) (by omega) with h | ⟨h0, h⟩ | ⟨q, hq, rfl⟩
  · refine br_t h ?_
    unfold wpY_put
    dsimp only
    exact rs_regY1 hr (br_f rs_1n0 (br_t h ⟨rfl, rs_rel hc⟩))
  · refine br_f h0 (br_t h ?_)
    unfold wpY_put
    dsimp only
    exact rs_regY1 hr (br_f rs_1n0 (br_f h0 (br_t (rs_gtof (n := 3) (by omega) h) ⟨rfl, rs_rel hc⟩)))
  refine br_f (nI_pos (by omega)) (pk_le 4 q (fun h => absurd h (by omega)) (fun _ => ?_))
  rw [rs_c64]
  by_cases hw : rs_w v3.toInt
  rotate_left
  · refine rs_lim0 (rs_v32 v3) hw (br_t rfl ?_)
    unfold wpY_put
    dsimp only
    refine rs_regY1 hr (br_f rs_1n0 (br_f (nI_pos (by omega)) (pk_lt 3 q (fun h => absurd h (by omega)) (fun _ => ?_))))
    refine br_c (fun _ => ⟨rfl, rs_rel hc⟩) (fun hn => br_f (fun g => ?_) ⟨rfl, rs_rel hc⟩)
    exact hw ⟨Int.not_lt.mp (fun l => hn ((rs_m30 v3).mpr l)), (rs_p30 v3).mp g⟩
  refine rs_lim1 (rs_v32 v3) hw (br_f rs_1n0 ?_)
  refine rs_ldR hr (fun R1 hL => ?_)
  dsimp only
  refine ⟨vp_in_nI (by omega) (by omega), fun a ea => ?_⟩
  rw [ea, nI_clamp (by omega)]
  have k4 : (nI r * 5 + 4).toNatClampNeg = 5 * r + 4 := rs_clX (k := 4) hr (by omega)
  have h4 := rs_pz4 (x := v3.toInt) (hc r hr) hq
  refine rs_keep hr (rs_pzL hL) (rs_pzS (hc r hr) hw) h4 (fun R2 hall => ⟨rs_inX (k := 4) hr (by omega), ?_⟩) (fun R2 hn => ⟨rs_inX (k := 4) hr (by omega), ?_⟩)
  · rw [k4]
    exact rs_putY hc hr hq hw (fun M2 h => ⟨rfl, rs_rel (rs_Rst hc (rs_qok h4 hall))⟩) (fun M2 h => absurd hall h)
  · rw [k4]
    exact rs_putY hc hr hq hw (fun M2 h => absurd h hn) (fun M2 h => ⟨rfl, rs_rel hc⟩)
theorem i_vc_whole {k : Nat} {u : SX} {v : SY} (I : i_Rel k u v) (hk : k + 4 ≤ 2048) (v1 : Int32) (v2 : Int32) : wpX_whole (fun r u' => wpY_whole (fun r' v' => r' = r ∧ i_Rel (k + 4) u' v') v v1 v2) u v1 v2 := by
  obtain ⟨c, f, s, R, M, X, C, rfl, rfl, hc⟩ := I
  unfold wpX_whole
  dsimp only
  rcases rs_reg v1 with h | ⟨r, hr, rfl⟩
  · refine rs_regX0 h (br_t rfl ?_)
    unfold wpY_whole
    dsimp only
    exact rs_regY0 h (br_t rfl ⟨rfl, rs_rel hc⟩)
  refine rs_regX1 hr (br_f rs_1n0 ?_)
  rw [rs_c64]
  by_cases hw : rs_w v2.toInt
  rotate_left
  · refine rs_lim0 (rs_v32 v2) hw (br_t rfl ?_)
    unfold wpY_whole
    dsimp only
    refine rs_regY1 hr (br_f rs_1n0 ?_)
    refine br_c (fun _ => ⟨rfl, rs_rel hc⟩) (fun hn => br_f (fun g => ?_) ⟨rfl, rs_rel hc⟩)
    exact hw ⟨Int.not_lt.mp (fun l => hn ((rs_m30 v2).mpr l)), (rs_p30 v2).mp g⟩
  refine rs_lim1 (rs_v32 v2) hw (br_f rs_1n0 ?_)
  intro R0 e0 R1 e1 R2 e2 R3 e3 R4 e4
  have hL : rs_L R4 (rs_wz v2.toInt) 5 := by
    subst e4 e3 e2 e1 e0
    exact rs_L5 rfl rfl rfl rfl rfl
  have hall : ∀ k, k < 5 → rs_w (rs_q (rs_wz v2.toInt) k) := by
    rw [rs_wzq]
    exact fun _ h => rs_wzb hw h
  have h4 : rs_wz v2.toInt 4 ≠ 0 := fun h => absurd h (show ¬ (1 : Int) = 0 by decide)
  refine rs_keep hr hL (rs_sS (K := 30) (by omega) (fun _ h => rs_wzb hw h)) h4 (fun R5 _ => ?_) (fun R5 hn => absurd hall hn)
  have hok := rs_qok h4 hall
  rw [rs_wzq] at hok
  rw [rs_wzq]
  exact rs_whY hr hw ⟨rfl, rs_rel (rs_Rst hc hok)⟩
theorem i_vc_part {k : Nat} {u : SX} {v : SY} (I : i_Rel k u v) (hk : k + 4 ≤ 2048) (v1 : Int32) (v2 : Int32) : wpX_part (fun r => wpY_part (fun r' => r' = r ∧ i_Rel (k + 4) u v) v v1 v2) u v1 v2 := by
  obtain ⟨c, f, s, R, M, X, C, rfl, rfl, hc⟩ := I
  unfold wpX_part
  dsimp only
  rcases rs_reg v1 with h | ⟨r, hr, rfl⟩
  · refine rs_regX0 h (br_t rfl ?_)
    unfold wpY_part
    dsimp only
    exact rs_regY0 h (br_t rfl ⟨rfl, rs_rel hc⟩)
  refine rs_regX1 hr (br_f rs_1n0 ?_)
  rcases rs_rng v2 (n := 5) (by omega) with h | ⟨h0, h⟩ | ⟨q, hq, rfl⟩
  · refine br_t h ?_
    unfold wpY_part
    dsimp only
    exact rs_regY1 hr (br_f rs_1n0 (br_t h ⟨rfl, rs_rel hc⟩))
  · refine br_f h0 (br_f (fun g => absurd h (Int32.not_le.mpr g)) ?_)
    unfold wpY_part
    dsimp only
    exact rs_regY1 hr (br_f rs_1n0 (br_f h0 (br_t (rs_gtof (n := 4) (by omega) h) ⟨rfl, rs_rel hc⟩)))
  refine br_f (nI_pos (by omega)) (pk_lt q 5 (fun _ => ⟨rs_inX hr hq, ?_⟩) (fun h => absurd h (by omega)))
  unfold wpY_part
  dsimp only
  refine rs_regY1 hr (br_f rs_1n0 (br_f (nI_pos (by omega)) (pk_lt 4 q (fun h => absurd h (by omega)) (fun _ => ⟨rs_inY hr hq, ?_, rs_rel hc⟩))))
  rw [rs_clX hr hq, rs_clY hr hq]
theorem i_vc_add {k : Nat} {u : SX} {v : SY} (I : i_Rel k u v) (hk : k + 4 ≤ 2048) (v1 : Int32) (v2 : Int32) (v3 : Int32) : wpX_add (fun r u' => wpY_add (fun r' v' => r' = r ∧ i_Rel (k + 4) u' v') v v1 v2 v3) u v1 v2 v3 := by
  obtain ⟨c, f, s, R, M, X, C, rfl, rfl, hc⟩ := I
  unfold wpX_add
  dsimp only
  rcases rs_are v1 v2 v3 with ⟨r, x, y, ⟨hr, hx, hy⟩, rfl, rfl, rfl⟩ | ⟨hbX, hbY⟩
  rotate_left
  · refine hbX _ (br_t rfl ?_)
    unfold wpY_add
    dsimp only
    exact hbY _ _ (br_t rfl ⟨rfl, rs_rel hc⟩)
  refine rs_areX1 hr hx hy (br_f rs_1n0 ?_)
  refine rs_adX hx hy rs_t1 (fun f1 s1 R1 hL => ?_)
  dsimp only
  have h4 := rs_add40 (T := 1) (hc x hx) (hc y hy)
  refine rs_keep hr hL (rs_addS (hc x hx) (hc y hy) (Or.inl rfl)) h4 (fun R2 hall => ?_) (fun R2 hn => ?_)
  · exact rs_addY hc hr hx hy (fun M2 h => ⟨rfl, rs_rel (rs_Rst hc (rs_qok h4 hall))⟩) (fun M2 h => absurd hall h)
  · exact rs_addY hc hr hx hy (fun M2 h => absurd h hn) (fun M2 h => ⟨rfl, rs_rel hc⟩)
theorem i_vc_subtract {k : Nat} {u : SX} {v : SY} (I : i_Rel k u v) (hk : k + 4 ≤ 2048) (v1 : Int32) (v2 : Int32) (v3 : Int32) : wpX_subtract (fun r u' => wpY_subtract (fun r' v' => r' = r ∧ i_Rel (k + 4) u' v') v v1 v2 v3) u v1 v2 v3 := by
  obtain ⟨c, f, s, R, M, X, C, rfl, rfl, hc⟩ := I
  unfold wpX_subtract
  dsimp only
  rcases rs_are v1 v2 v3 with ⟨r, x, y, ⟨hr, hx, hy⟩, rfl, rfl, rfl⟩ | ⟨hbX, hbY⟩
  rotate_left
  · refine hbX _ (br_t rfl ?_)
    unfold wpY_subtract
    dsimp only
    exact hbY _ _ (br_t rfl ⟨rfl, rs_rel hc⟩)
  refine rs_areX1 hr hx hy (br_f rs_1n0 ?_)
  refine rs_adX hx hy rs_tm1 (fun f1 s1 R1 hL => ?_)
  dsimp only
  have h4 := rs_add40 (T := -1) (hc x hx) (hc y hy)
  refine rs_keep hr hL (rs_addS (hc x hx) (hc y hy) (Or.inr rfl)) h4 (fun R2 hall => ?_) (fun R2 hn => ?_)
  · exact rs_subY hc hr hx hy (fun M2 h => ⟨rfl, rs_rel (rs_Rst hc (rs_qok h4 hall))⟩) (fun M2 h => absurd hall h)
  · exact rs_subY hc hr hx hy (fun M2 h => absurd h hn) (fun M2 h => ⟨rfl, rs_rel hc⟩)
theorem i_vc_multiply {k : Nat} {u : SX} {v : SY} (I : i_Rel k u v) (hk : k + 4 ≤ 2048) (v1 : Int32) (v2 : Int32) (v3 : Int32) : wpX_multiply (fun r u' => wpY_multiply (fun r' v' => r' = r ∧ i_Rel (k + 4) u' v') v v1 v2 v3) u v1 v2 v3 := by
  obtain ⟨c, f, s, R, M, X, C, rfl, rfl, hc⟩ := I
  unfold wpX_multiply
  dsimp only
  rcases rs_are v1 v2 v3 with ⟨r, x, y, ⟨hr, hx, hy⟩, rfl, rfl, rfl⟩ | ⟨hbX, hbY⟩
  rotate_left
  · refine hbX _ (br_t rfl ?_)
    unfold wpY_multiply
    dsimp only
    exact hbY _ _ (br_t rfl ⟨rfl, rs_rel hc⟩)
  refine rs_areX1 hr hx hy (br_f rs_1n0 ?_)
  refine rs_ldF hx (fun f1 hf => ?_)
  dsimp only
  refine rs_ldS hy (fun s1 hs => ?_)
  dsimp only
  refine rs_muX hf hs (fun R1 hL => ?_)
  dsimp only
  have h4 := rs_mul40 (hc x hx) (hc y hy)
  refine rs_keep hr hL (rs_mulS (hc x hx) (hc y hy)) h4 (fun R2 hall => ?_) (fun R2 hn => ?_)
  · exact rs_mulY hc hr hx hy (fun M2 X2 h => ⟨rfl, rs_rel (rs_Rst hc (rs_qok h4 hall))⟩) (fun M2 X2 h => absurd hall h)
  · exact rs_mulY hc hr hx hy (fun M2 X2 h => absurd h hn) (fun M2 X2 h => ⟨rfl, rs_rel hc⟩)
theorem i_vc_divide {k : Nat} {u : SX} {v : SY} (I : i_Rel k u v) (hk : k + 4 ≤ 2048) (v1 : Int32) (v2 : Int32) (v3 : Int32) : wpX_divide (fun r u' => wpY_divide (fun r' v' => r' = r ∧ i_Rel (k + 4) u' v') v v1 v2 v3) u v1 v2 v3 := by
  obtain ⟨c, f, s, R, M, X, C, rfl, rfl, hc⟩ := I
  unfold wpX_divide
  dsimp only
  rcases rs_are v1 v2 v3 with ⟨r, x, y, ⟨hr, hx, hy⟩, rfl, rfl, rfl⟩ | ⟨hbX, hbY⟩
  rotate_left
  · refine hbX _ (br_t rfl ?_)
    unfold wpY_divide
    dsimp only
    exact hbY _ _ (br_t rfl ⟨rfl, rs_rel hc⟩)
  refine rs_areX1 hr hx hy (br_f rs_1n0 ?_)
  refine rs_ldF hx (fun f1 hf => ?_)
  dsimp only
  refine rs_ldS hy (fun s1 hs => ?_)
  dsimp only
  have hS : ∀ k, k < 5 → rs_S (rs_z c y k) := rs_sS (K := 30) (by omega) (fun _ h => rs_okb (hc y hy) h)
  refine rs_izX hs hS (fun h0 => br_f rs_1n0 ?_) (fun h0 => br_t rfl ?_)
  · exact rs_divY0 hr hx hy h0 ⟨rfl, rs_rel hc⟩
  refine rs_ivX hs (fun s2 hs2 => ?_)
  dsimp only
  refine rs_muX hf hs2 (fun R1 hL => ?_)
  dsimp only
  have h4 := rs_div40 (hc x hx) h0
  refine rs_keep hr hL (rs_divS (hc x hx) (hc y hy)) h4 (fun R2 hall => ?_) (fun R2 hn => ?_)
  · exact rs_divY hc hr hx hy h0 (fun M2 X2 C2 h => ⟨rfl, rs_rel (rs_Rst hc (rs_qok h4 hall))⟩) (fun M2 X2 C2 h => absurd hall h)
  · exact rs_divY hc hr hx hy h0 (fun M2 X2 C2 h => absurd h hn) (fun M2 X2 C2 h => ⟨rfl, rs_rel hc⟩)
theorem i_vc_conjugate {k : Nat} {u : SX} {v : SY} (I : i_Rel k u v) (hk : k + 4 ≤ 2048) (v1 : Int32) (v2 : Int32) (v3 : Int32) : wpX_conjugate (fun r u' => wpY_conjugate (fun r' v' => r' = r ∧ i_Rel (k + 4) u' v') v v1 v2 v3) u v1 v2 v3 := by
  obtain ⟨c, f, s, R, M, X, C, rfl, rfl, hc⟩ := I
  unfold wpX_conjugate
  dsimp only
  rcases rs_reg v1 with h | ⟨r, hr, rfl⟩
  · refine rs_regX0 h (br_t rfl ?_)
    unfold wpY_conjugate
    dsimp only
    exact rs_regY0 h (br_t rfl ⟨rfl, rs_rel hc⟩)
  refine rs_regX1 hr (br_f rs_1n0 ?_)
  rcases rs_reg v2 with h | ⟨x, hx, rfl⟩
  · refine rs_regX0 h (br_t rfl ?_)
    unfold wpY_conjugate
    dsimp only
    refine rs_regY1 hr (br_f rs_1n0 ?_)
    exact rs_regY0 h (br_t rfl ⟨rfl, rs_rel hc⟩)
  refine rs_regX1 hx (br_f rs_1n0 ?_)
  rcases rs_rng v3 (n := 4) (by omega) with h | ⟨h0, h⟩ | ⟨q, hq, rfl⟩
  · refine br_t h ?_
    unfold wpY_conjugate
    dsimp only
    refine rs_regY1 hr (br_f rs_1n0 ?_)
    exact rs_regY1 hx (br_f rs_1n0 (br_t h ⟨rfl, rs_rel hc⟩))
  · refine br_f h0 (br_f (fun g => absurd h (Int32.not_le.mpr g)) ?_)
    unfold wpY_conjugate
    dsimp only
    refine rs_regY1 hr (br_f rs_1n0 ?_)
    exact rs_regY1 hx (br_f rs_1n0 (br_f h0 (br_f (fun g => absurd (rs_gtof (n := 3) (by omega) h) (Int32.not_lt.mpr g)) ⟨rfl, rs_rel hc⟩)))
  refine br_f (nI_pos (by omega)) (pk_lt q 4 (fun _ => ?_) (fun h => absurd h (by omega)))
  refine rs_ldR hx (fun R1 hL1 => ?_)
  dsimp only
  refine rs_pcR hq hL1 (fun R2 hL => ?_)
  dsimp only
  have hall : ∀ k, k < 5 → rs_w (rs_q (rs_cz (rs_z c x) q) k) := by
    rw [rs_czq (hc x hx)]
    exact fun _ h => rs_czb (hc x hx) q h
  have h4 : rs_cz (rs_z c x) q 4 ≠ 0 := by
    have h := (hc x hx).2.1
    have e : rs_cz (rs_z c x) q 4 = rs_z c x 4 := rfl
    rw [e]
    omega
  refine rs_keep (z := rs_cz (rs_z c x) q) hr hL (rs_sS (K := 30) (by omega) (fun _ h => rs_czb (hc x hx) q h)) h4 (fun R5 _ => ?_) (fun R5 hn => absurd hall hn)
  have hok := rs_qok h4 hall
  rw [rs_czq (hc x hx)] at hok
  rw [rs_czq (hc x hx)]
  exact rs_cgY hc hr hx hq ⟨rfl, rs_rel (rs_Rst hc hok)⟩
theorem i_vc_sign {k : Nat} {u : SX} {v : SY} (I : i_Rel k u v) (hk : k + 4 ≤ 2048) (v1 : Int32) : wpX_sign (fun r u' => wpY_sign (fun r' => r' = r ∧ i_Rel (k + 4) u' v) v v1) u v1 := by
  obtain ⟨c, f, s, R, M, X, C, rfl, rfl, hc⟩ := I
  unfold wpX_sign
  dsimp only
  rcases rs_reg v1 with h | ⟨r, hr, rfl⟩
  · refine rs_regX0 h (br_t rfl ?_)
    unfold wpY_sign
    dsimp only
    exact rs_regY0 h (br_t rfl ⟨rfl, rs_rel hc⟩)
  refine rs_regX1 hr (br_f rs_1n0 ?_)
  refine rs_ldF hr (fun f1 hf => ?_)
  dsimp only
  rw [hf 0 (by omega), hf 1 (by omega), hf 2 (by omega), hf 3 (by omega)]
  have hB : rs_B (rs_z c r 0) (rs_z c r 1) (rs_z c r 2) (rs_z c r 3) := by
    have b0 := rs_okb (hc r hr) (k := 0) (by omega)
    have b1 := rs_okb (hc r hr) (k := 1) (by omega)
    have b2 := rs_okb (hc r hr) (k := 2) (by omega)
    have b3 := rs_okb (hc r hr) (k := 3) (by omega)
    exact ⟨by omega, by omega, by omega, by omega⟩
  refine rs_sumX hB ?_
  unfold wpY_sign
  dsimp only
  obtain ⟨k1, k2, k3, k4⟩ := rs_clYk hr
  refine rs_regY1 hr (br_f rs_1n0 ⟨rs_inY0 hr, rs_inY (k := 1) hr (by omega), rs_inY (k := 2) hr (by omega), rs_inY (k := 3) hr (by omega), ?_⟩)
  rw [rs_clY0 hr, k1, k2, k3, rs_ld, rs_ld, rs_ld, rs_ld]
  refine rs_sgY hB ⟨?_, rs_rel hc⟩
  rw [rs_xy hB]
theorem i_vc_compare {k : Nat} {u : SX} {v : SY} (I : i_Rel k u v) (hk : k + 4 ≤ 2048) (v1 : Int32) (v2 : Int32) : wpX_compare (fun r u' => wpY_compare (fun r' v' => r' = r ∧ i_Rel (k + 4) u' v') v v1 v2) u v1 v2 := by
  obtain ⟨c, f, s, R, M, X, C, rfl, rfl, hc⟩ := I
  unfold wpX_compare
  dsimp only
  rcases rs_reg v1 with h | ⟨r, hr, rfl⟩
  · refine rs_regX0 h (br_t rfl ?_)
    unfold wpY_compare
    dsimp only
    exact rs_regY0 h (br_t rfl ⟨rfl, rs_rel hc⟩)
  refine rs_regX1 hr (br_f rs_1n0 ?_)
  rcases rs_reg v2 with h | ⟨x, hx, rfl⟩
  · refine rs_regX0 h (br_t rfl ?_)
    unfold wpY_compare
    dsimp only
    refine rs_regY1 hr (br_f rs_1n0 ?_)
    exact rs_regY0 h (br_t rfl ⟨rfl, rs_rel hc⟩)
  refine rs_regX1 hx (br_f rs_1n0 ?_)
  refine rs_orX hc hr hx (fun f1 s1 R1 => ?_)
  dsimp only
  unfold wpY_compare
  dsimp only
  refine rs_regY1 hr (br_f rs_1n0 ?_)
  refine rs_regY1 hx (br_f rs_1n0 ?_)
  exact rs_orY hc hr hx (fun M1 => ⟨rfl, rs_rel hc⟩)
theorem i_vc_floor {k : Nat} {u : SX} {v : SY} (I : i_Rel k u v) (hk : k + 4 ≤ 2048) (v1 : Int32) : wpX_floor (fun r u' => wpY_floor (fun r' => r' = r ∧ i_Rel (k + 4) u' v) v v1) u v1 := by
  obtain ⟨c, f, s, R, M, X, C, rfl, rfl, hc⟩ := I
  unfold wpX_floor
  dsimp only
  rcases rs_reg v1 with h | ⟨r, hr, rfl⟩
  · refine rs_regX0 h (br_t rfl ?_)
    unfold wpY_floor
    dsimp only
    exact rs_regY0 h (br_t rfl ⟨rfl, rs_rel hc⟩)
  refine rs_regX1 hr (br_f rs_1n0 ?_)
  refine rs_flX (n := 1) hc hr (by omega) (fun f1 => ?_)
  dsimp only
  unfold wpY_floor
  dsimp only
  refine rs_regY1 hr (br_f rs_1n0 ?_)
  exact rs_wpY (n := 1) hc hr (by omega) ⟨rfl, rs_rel hc⟩
theorem i_vc_degree {k : Nat} {u : SX} {v : SY} (I : i_Rel k u v) (hk : k + 4 ≤ 2048) (v1 : Int32) : wpX_degree (fun r => wpY_degree (fun r' => r' = r ∧ i_Rel (k + 4) u v) v v1) u v1 := by
  obtain ⟨c, f, s, R, M, X, C, rfl, rfl, hc⟩ := I
  unfold wpX_degree
  dsimp only
  rcases rs_reg v1 with h | ⟨r, hr, rfl⟩
  · refine rs_regX0 h (br_t rfl ?_)
    unfold wpY_degree
    dsimp only
    exact rs_regY0 h (br_t rfl ⟨rfl, rs_rel hc⟩)
  refine rs_regX1 hr (br_f rs_1n0 ?_)
  refine ⟨4, rs_dgXl hr 3 1 0 rfl (by omega) (by omega) ?_⟩
  unfold wpY_degree
  dsimp only
  refine rs_regY1 hr (br_f rs_1n0 ⟨5, ?_⟩)
  refine rs_dg15 hc hr ⟨?_, rs_rel hc⟩ 4 0 rfl
  exact congrArg nI (rs_dgx _ _ _)
theorem i_vc_positive {k : Nat} {u : SX} {v : SY} (I : i_Rel k u v) (hk : k + 4 ≤ 2048) (v1 : Int32) : wpX_positive (fun r u' => wpY_positive (fun r' => r' = r ∧ i_Rel (k + 4) u' v) v v1) u v1 := by
  obtain ⟨c, f, s, R, M, X, C, rfl, rfl, hc⟩ := I
  unfold wpX_positive
  dsimp only
  rcases rs_reg v1 with h | ⟨r, hr, rfl⟩
  · refine rs_regX0 h (br_t rfl ?_)
    unfold wpY_positive
    dsimp only
    exact rs_regY0 h (br_t rfl ⟨rfl, rs_rel hc⟩)
  refine rs_regX1 hr (br_f rs_1n0 ?_)
  refine ⟨5, rs_poXl hc hr (fun f1 => ?_) 4 0 f rfl⟩
  unfold wpY_positive
  dsimp only
  refine rs_regY1 hr (br_f rs_1n0 ⟨5, ?_⟩)
  exact rs_poYl hc hr ⟨rfl, rs_rel hc⟩ 4 0 rfl
theorem i_vc_ranked {k : Nat} {u : SX} {v : SY} (I : i_Rel k u v) (hk : k + 4 ≤ 2048) (v1 : Int32) : wpX_ranked (fun r u' => wpY_ranked (fun r' v' => r' = r ∧ i_Rel (k + 4) u' v') v v1) u v1 := by
  obtain ⟨c, f, s, R, M, X, C, rfl, rfl, hc⟩ := I
  unfold wpX_ranked
  dsimp only
  rcases rs_rng v1 (n := 6) (by omega) with h | ⟨h0, h⟩ | ⟨q, hq, rfl⟩
  · refine br_t h ?_
    unfold wpY_ranked
    dsimp only
    refine ⟨7, rs_rkYl hc 6 0 M rfl (fun M1 => ⟨rs_rkb (fun j hj e => ?_) 6 0 rfl, rs_rel hc⟩)⟩
    rw [← e] at h
    exact absurd h (nI_pos (by omega))
  · refine br_f h0 (br_f (fun g => absurd h (Int32.not_le.mpr g)) ?_)
    unfold wpY_ranked
    dsimp only
    refine ⟨7, rs_rkYl hc 6 0 M rfl (fun M1 => ⟨rs_rkb (fun j hj e => ?_) 6 0 rfl, rs_rel hc⟩)⟩
    rw [← e] at h
    exact absurd h (nI_ge hj (by omega))
  refine br_f (nI_pos (by omega)) (pk_lt q 6 (fun _ => ?_) (fun h => absurd h (by omega)))
  refine ⟨7, rs_rkXl hc 6 0 f s R rfl (fun f1 s1 R1 => ?_)⟩
  unfold wpY_ranked
  dsimp only
  exact ⟨7, rs_rkYl hc 6 0 M rfl (fun M1 => ⟨rfl, rs_rel hc⟩)⟩
theorem i_vc_multipleFloor {k : Nat} {u : SX} {v : SY} (I : i_Rel k u v) (hk : k + 4 ≤ 2048) (v1 : Int32) (v2 : Int32) : wpX_multipleFloor (fun r u' => wpY_multipleFloor (fun r' => r' = r ∧ i_Rel (k + 4) u' v) v v1 v2) u v1 v2 := by
  obtain ⟨c, f, s, R, M, X, C, rfl, rfl, hc⟩ := I
  unfold wpX_multipleFloor
  dsimp only
  rcases rs_reg v1 with h | ⟨r, hr, rfl⟩
  · refine rs_regX0 h (br_t rfl ?_)
    unfold wpY_multipleFloor
    dsimp only
    exact rs_regY0 h (br_t rfl ⟨rfl, rs_rel hc⟩)
  refine rs_regX1 hr (br_f rs_1n0 ?_)
  rcases rs_rng v2 (n := 6) (by omega) with h | ⟨h0, h⟩ | ⟨q, hq, rfl⟩
  · refine br_t h ?_
    unfold wpY_multipleFloor
    dsimp only
    exact rs_regY1 hr (br_f rs_1n0 (br_t h ⟨rfl, rs_rel hc⟩))
  · have g5 := rs_gtof (n := 5) (by omega) h
    refine br_f h0 (br_f (fun g => absurd g5 (Int32.not_lt.mpr g)) ?_)
    unfold wpY_multipleFloor
    dsimp only
    exact rs_regY1 hr (br_f rs_1n0 (br_f h0 (br_t g5 ⟨rfl, rs_rel hc⟩)))
  refine br_f (nI_pos (by omega)) (pk_le q 5 (fun _ => ?_) (fun h => absurd h (by omega)))
  refine rs_flX hc hr (by omega) (fun f1 => ?_)
  dsimp only
  unfold wpY_multipleFloor
  dsimp only
  refine rs_regY1 hr (br_f rs_1n0 (br_f (nI_pos (by omega)) (pk_lt 5 q (fun h => absurd h (by omega)) (fun _ => ?_))))
  exact rs_wpY hc hr (by omega) ⟨rfl, rs_rel hc⟩
theorem i_vc_inverse {k : Nat} {u : SX} {v : SY} (I : i_Rel k u v) (hk : k + 4 ≤ 2048) (v1 : Int32) (v2 : Int32) : wpX_inverse (fun r u' => wpY_inverse (fun r' v' => r' = r ∧ i_Rel (k + 4) u' v') v v1 v2) u v1 v2 := by
  obtain ⟨c, f, s, R, M, X, C, rfl, rfl, hc⟩ := I
  unfold wpX_inverse
  dsimp only
  rcases rs_reg v1 with h | ⟨r, hr, rfl⟩
  · refine rs_regX0 h (br_t rfl ?_)
    unfold wpY_inverse
    dsimp only
    exact rs_regY0 h (br_t rfl ⟨rfl, rs_rel hc⟩)
  refine rs_regX1 hr (br_f rs_1n0 ?_)
  rcases rs_reg v2 with h | ⟨x, hx, rfl⟩
  · refine rs_regX0 h (br_t rfl ?_)
    unfold wpY_inverse
    dsimp only
    refine rs_regY1 hr (br_f rs_1n0 ?_)
    exact rs_regY0 h (br_t rfl ⟨rfl, rs_rel hc⟩)
  refine rs_regX1 hx (br_f rs_1n0 ?_)
  refine rs_ldF hr (fun f1 hf => ?_)
  dsimp only
  refine rs_ldS hx (fun s1 hs => ?_)
  dsimp only
  refine rs_muX hf hs (fun R1 hL => ?_)
  dsimp only
  have hY : ∀ post : Int32 → SY → Prop, (∀ M1 X1, rs_L M1 (rs_mul (rs_z c r) (rs_z c x)) 5 → ((M1 0 = M1 4 → ((M1 1 = 0 → ((M1 2 = 0 → ((M1 3 = 0 → post 1 (c, M1, X1, C)) ∧ (¬ M1 3 = 0 → post 0 (c, M1, X1, C)))) ∧ (¬ M1 2 = 0 → post 0 (c, M1, X1, C)))) ∧ (¬ M1 1 = 0 → post 0 (c, M1, X1, C)))) ∧ (¬ M1 0 = M1 4 → post 0 (c, M1, X1, C)))) → wpY_inverse post (c, M, X, C) (nI r) (nI x) := by
    intro post H
    unfold wpY_inverse
    dsimp only
    refine rs_regY1 hr (br_f rs_1n0 ?_)
    refine rs_regY1 hx (br_f rs_1n0 ?_)
    refine rs_prY hr hx hc (fun M1 X1 hM => ?_)
    dsimp only
    exact H M1 X1 hM
  rw [hL 0 (by omega), hL 1 (by omega), hL 2 (by omega), hL 3 (by omega), hL 4 (by omega)]
  refine br_c (fun g0 => br_c (fun g1 => br_c (fun g2 => br_c (fun g3 => ?_) (fun g3 => ?_)) (fun g2 => ?_)) (fun g1 => ?_)) (fun g0 => ?_)
  · refine hY _ (fun M1 X1 hM => ?_)
    rw [hM 0 (by omega), hM 1 (by omega), hM 2 (by omega), hM 3 (by omega), hM 4 (by omega)]
    exact br_t g0 (br_t g1 (br_t g2 (br_t g3 ⟨rfl, rs_rel hc⟩)))
  · refine hY _ (fun M1 X1 hM => ?_)
    rw [hM 0 (by omega), hM 1 (by omega), hM 2 (by omega), hM 3 (by omega), hM 4 (by omega)]
    exact br_t g0 (br_t g1 (br_t g2 (br_f g3 ⟨rfl, rs_rel hc⟩)))
  · refine hY _ (fun M1 X1 hM => ?_)
    rw [hM 0 (by omega), hM 1 (by omega), hM 2 (by omega), hM 3 (by omega), hM 4 (by omega)]
    exact br_t g0 (br_t g1 (br_f g2 ⟨rfl, rs_rel hc⟩))
  · refine hY _ (fun M1 X1 hM => ?_)
    rw [hM 0 (by omega), hM 1 (by omega), hM 2 (by omega), hM 3 (by omega), hM 4 (by omega)]
    exact br_t g0 (br_f g1 ⟨rfl, rs_rel hc⟩)
  · refine hY _ (fun M1 X1 hM => ?_)
    rw [hM 0 (by omega), hM 1 (by omega), hM 2 (by omega), hM 3 (by omega), hM 4 (by omega)]
    exact br_f g0 ⟨rfl, rs_rel hc⟩
theorem i_vc_norm {k : Nat} {u : SX} {v : SY} (I : i_Rel k u v) (hk : k + 4 ≤ 2048) (v1 : Int32) : wpX_norm (fun r u' => wpY_norm (fun r' v' => r' = r ∧ i_Rel (k + 4) u' v') v v1) u v1 := by
  obtain ⟨c, f, s, R, M, X, C, rfl, rfl, hc⟩ := I
  unfold wpX_norm
  dsimp only
  rcases rs_reg v1 with h | ⟨r, hr, rfl⟩
  · refine rs_regX0 h (br_t rfl ?_)
    unfold wpY_norm
    dsimp only
    exact rs_regY0 h (br_t rfl ⟨rfl, rs_rel hc⟩)
  refine rs_regX1 hr (br_f rs_1n0 ?_)
  refine rs_ldF hr (fun f1 hf => ?_)
  dsimp only
  refine rs_cpF hf ?_
  intro B eB
  rw [hf 4 (by omega)] at eB
  have hm := (hc r hr).2.1
  have hm2 := (hc r hr).2.2.1
  have hB : ¬ B = 0 := by
    rw [eB, ← Int64.ofInt_mul, ← Int64.ofInt_mul, ← Int64.ofInt_mul]
    have p2 := rs_pos11 hm hm
    have p3 := rs_pos11 p2 hm
    have p4 := rs_pos11 p3 hm
    have b2 := rs_mc 30 30 900 (by omega) (show -30 ≤ rs_z c r 4 ∧ rs_z c r 4 ≤ 30 by omega) (show -30 ≤ rs_z c r 4 ∧ rs_z c r 4 ≤ 30 by omega)
    have b3 := rs_mc 900 30 27000 (by omega) b2 (show -30 ≤ rs_z c r 4 ∧ rs_z c r 4 ≤ 30 by omega)
    have b4 := rs_mc 27000 30 810000 (by omega) b3 (show -30 ≤ rs_z c r 4 ∧ rs_z c r 4 ≤ 30 by omega)
    exact rs_n64 ⟨by omega, by omega⟩ (by omega)
  have hY : ∀ post : Int32 → SY → Prop, (∀ X1 C1, ((Int64.ofInt (rs_N (rs_z c r)) - Int64.ofInt (rs_N (rs_z c r)) / B * B = 0 → ((900000 < Int64.ofInt (rs_N (rs_z c r)) / B → post (-3000000) (c, M, X1, C1)) ∧ (¬ 900000 < Int64.ofInt (rs_N (rs_z c r)) / B → ((-900000 ≤ Int64.ofInt (rs_N (rs_z c r)) / B → post (Int64.ofInt (rs_N (rs_z c r)) / B).toInt32 (c, M, X1, C1)) ∧ (¬ -900000 ≤ Int64.ofInt (rs_N (rs_z c r)) / B → post (-3000000) (c, M, X1, C1)))))) ∧ (¬ Int64.ofInt (rs_N (rs_z c r)) - Int64.ofInt (rs_N (rs_z c r)) / B * B = 0 → post (-3000000) (c, M, X1, C1)))) → wpY_norm post (c, M, X, C) (nI r) := by
    intro post H
    unfold wpY_norm
    dsimp only
    refine rs_regY1 hr (br_f rs_1n0 ?_)
    refine rs_smY hr (fun X1 hX => ?_)
    dsimp only
    refine rs_deY (n := 4) hr (by omega) hX (fun C1 => ?_)
    dsimp only
    rw [rs_detN]
    have k4 : (5 * nI r + 4).toNatClampNeg = 5 * r + 4 := rs_clY (k := 4) hr (by omega)
    refine ⟨rs_inY (k := 4) hr (by omega), fun m em b eb => ?_⟩
    rw [em, k4, rs_ld, ← eB] at eb
    rw [eb]
    exact ⟨hB, fun v ev => ⟨hB, by
      rw [ev]
      exact H X1 C1⟩⟩
  refine br_f hB ⟨hB, br_c (fun g0 => ⟨hB, fun v ev => ?_⟩) (fun g0 => ?_)⟩
  · rw [ev]
    refine br_c (fun g1 => ?_) (fun g1 => br_c (fun g2 => ?_) (fun g2 => ?_))
    · refine hY _ (fun X1 C1 => br_t g0 (br_c (fun _ => ⟨rfl, rs_rel hc⟩) (fun _ => br_f (fun g => absurd g1 (Int64.not_lt.mpr g)) ⟨rfl, rs_rel hc⟩)))
    · refine hY _ (fun X1 C1 => br_t g0 (br_f (fun g => absurd g2 (Int64.not_le.mpr g)) (br_t (Int64.not_lt.mp g1) ⟨rfl, rs_rel hc⟩)))
    · refine hY _ (fun X1 C1 => br_t g0 (br_t (Int64.not_le.mp g2) ⟨rfl, rs_rel hc⟩))
  · exact hY _ (fun X1 C1 => br_f g0 ⟨rfl, rs_rel hc⟩)
