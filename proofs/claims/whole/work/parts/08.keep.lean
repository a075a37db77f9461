/-! part 08: common divisors, reducing, keeping: the walks of both sides -/
theorem rs_z64 : (0 : Int64) = Int64.ofInt 0 := rfl
theorem rs_S0 : rs_S 0 := ⟨by omega, by omega⟩
theorem rs_Sl {n : Int} (h1 : -4000000000000000000 ≤ n) (h2 : n ≤ 4000000000000000000) : rs_S n := ⟨h1, h2⟩
theorem rs_n64 {y : Int} (hS : rs_S y) (hy : y ≠ 0) : ¬ Int64.ofInt y = 0 := fun h => hy ((rs_eq64 hS rs_S0).mp h)
theorem rs_e64 {y : Int} (hy : y = 0) : Int64.ofInt y = 0 := by
  rw [hy]
  rfl
theorem rs_ge64 {y : Int} (hS : rs_S y) : 0 ≤ Int64.ofInt y ↔ 0 ≤ y := rs_le64 rs_S0 hS
theorem rs_le064 {y : Int} (hS : rs_S y) : Int64.ofInt y ≤ 0 ↔ y ≤ 0 := rs_le64 hS rs_S0
theorem rs_Sn {x : Int} (h : x.natAbs ≤ 4000000000000000000) : rs_S x := ⟨by omega, by omega⟩
theorem rs_nS {x : Int} (h : rs_S x) : x.natAbs ≤ 4000000000000000000 := by
  have h1 := h.1
  have h2 := h.2
  omega
theorem rs_Stm {x y : Int} (h : rs_S x) : rs_S (x.tmod y) := by
  apply rs_Sn
  rw [Int.natAbs_tmod]
  exact Nat.le_trans (Nat.mod_le _ _) (rs_nS h)
theorem rs_cdXl {post : Int64 → Prop} : ∀ (d s : Nat) (x y : Int), s + d = 1000 → rs_S x → rs_S y → post (Int64.ofInt (rs_cd d x y)) → wX_commonDivisor_9 post (d + 1) (Int64.ofInt x) (Int64.ofInt y) (nI s) := by
  intro d
  induction d with
  | zero =>
    intro s x y hs hx hy H
    obtain rfl : s = 1000 := by omega
    exact br_t (by decide) H
  | succ d ih =>
    intro s x y hs hx hyS H
    refine pk_le 1000 s (fun h => absurd h (by omega)) (fun _ => ?_)
    by_cases hy : y = 0
    · rw [hy, rs_cd0] at H
      exact br_t (rs_e64 hy) H
    · have hn := rs_n64 hyS hy
      refine br_f hn ⟨hn, fun a ea b eb => ?_⟩
      rw [eb, nI_1, ea, rs_rem64 hx hyS]
      rw [rs_cds _ hy] at H
      exact ih (s + 1) y (x.tmod y) (by omega) hyS (rs_Stm hx) H
theorem rs_cdX {post : Int64 → Prop} {x y : Int} (hx : rs_S x) (hy : rs_S y) (H : ∀ g : Int, g.natAbs = Nat.gcd x.natAbs y.natAbs → post (Int64.ofInt g)) : wpX_commonDivisor post (Int64.ofInt x) (Int64.ofInt y) :=
  ⟨1001, rs_cdXl 1000 0 x y rfl hx hy (H _ (rs_cdg 62 1000 x y (by have := rs_nS hy; omega) (by omega)))⟩
theorem rs_nx {R : Nat → Int64} {z : Nat → Int} {i : Nat} {x : Int64} (h : ∀ k, i ≤ k → k < 5 → R k = Int64.ofInt (z k)) : ∀ k, i + 1 ≤ k → k < 5 → vp_updL R i x k = Int64.ofInt (z k) := by
  intro k h1 h2
  unfold vp_updL
  rw [if_neg (by omega)]
  exact h k (by omega) h2
theorem rs_red73 {post : SX → Prop} {c : Nat → Int32} {f s : Nat → Int64} {g : Int} {z : Nat → Int} (hg : g ≠ 0) (hgS : rs_S g) (hz : ∀ k, k < 5 → rs_S (z k)) (H : ∀ R, rs_L R (fun k => (z k).tdiv g) 5 → post (c, f, s, R)) : ∀ (d i : Nat) (R : Nat → Int64), i + d = 5 → rs_L R (fun k => (z k).tdiv g) i → (∀ k, i ≤ k → k < 5 → R k = Int64.ofInt (z k)) → wX_reduceResult_73 post (Int64.ofInt g) (d + 1) (nI i) c f s R := by
  intro d
  induction d with
  | zero =>
    intro i R hi hL hR
    obtain rfl : i = 5 := by omega
    exact br_t (by decide) (H R hL)
  | succ d ih =>
    intro i R hi hL hR
    refine pk_le 5 i (fun h => absurd h (by omega)) (fun _ => ⟨vp_in_nI (by omega) (by omega), rs_n64 hgS hg, vp_in_nI (by omega) (by omega), fun a ea y ey => ?_⟩)
    rw [ey, nI_1, ea, nI_clamp (by omega)]
    refine ih (i + 1) _ (by omega) (rs_Lu hL ?_) (rs_nx hR)
    rw [hR i (by omega) (by omega), rs_div64 (hz i (by omega)) hgS]
theorem rs_sh47 {post : SY → Prop} {c : Nat → Int32} {X C : Nat → Int64} {g : Int} {z : Nat → Int} (hg : g ≠ 0) (hgS : rs_S g) (hz : ∀ k, k < 5 → rs_S (z k)) (H : ∀ R, rs_L R (fun k => (z k).tdiv g) 5 → post (c, R, X, C)) : ∀ (d i : Nat) (R : Nat → Int64), i + d = 5 → rs_L R (fun k => (z k).tdiv g) i → (∀ k, i ≤ k → k < 5 → R k = Int64.ofInt (z k)) → wY_shorten_47 post (Int64.ofInt g) (d + 1) (nI i) c R X C := by
  intro d
  induction d with
  | zero =>
    intro i R hi hL hR
    obtain rfl : i = 5 := by omega
    exact br_t (by decide) (H R hL)
  | succ d ih =>
    intro i R hi hL hR
    refine pk_le 5 i (fun h => absurd h (by omega)) (fun _ => br_f (rs_n64 hgS hg) ⟨vp_in_nI (by omega) (by omega), rs_n64 hgS hg, vp_in_nI (by omega) (by omega), fun a ea y ey => ?_⟩)
    rw [ey, nI_1, ea, nI_clamp (by omega)]
    refine ih (i + 1) _ (by omega) (rs_Lu hL ?_) (rs_nx hR)
    rw [hR i (by omega) (by omega), rs_div64 (hz i (by omega)) hgS]
theorem rs_g0 {z : Nat → Int} (h : z 4 ≠ 0) : rs_g z ≠ 0 := by
  have h1 := rs_G0 h
  have h2 := rs_gn z
  omega
/-- the common divisor of m and the first i -/
def rs_Gi (z : Nat → Int) : Nat → Nat
  | 0 => (z 4).natAbs
  | i + 1 => Nat.gcd (rs_Gi z i) (z i).natAbs
theorem rs_Gi4 (z : Nat → Int) : rs_Gi z 4 = rs_G z := rfl
theorem rs_Gid (z : Nat → Int) : ∀ i, rs_Gi z i ∣ (z 4).natAbs := by
  intro i
  induction i with
  | zero => exact Nat.dvd_refl _
  | succ i ih => exact Nat.dvd_trans (Nat.gcd_dvd_left _ _) ih
theorem rs_GiS {z : Nat → Int} {D : Int} {i : Nat} (h : rs_S (z 4)) (h4 : z 4 ≠ 0) (hD : D.natAbs = rs_Gi z i) : rs_S D := by
  apply rs_Sn
  rw [hD]
  exact Nat.le_trans (Nat.le_of_dvd (by omega) (rs_Gid z i)) (rs_nS h)
theorem rs_redex {post : SX → Prop} {c : Nat → Int32} {f s R : Nat → Int64} {z : Nat → Int} {D : Int} (hD : D.natAbs = rs_G z) (hDS : rs_S D) (hS4 : rs_S (z 4)) (h4 : R 4 = Int64.ofInt (z 4)) (H : wX_reduceResult_64 post (Int64.ofInt (rs_g z)) c f s R) : (0 ≤ Int64.ofInt D → wX_reduceResult_42 post (Int64.ofInt D) 0 c f s R) ∧ (¬ 0 ≤ Int64.ofInt D → wX_reduceResult_42 post (Int64.ofInt D) 1 c f s R) := by
  have e4 : 0 ≤ R 4 ↔ 0 ≤ z 4 := by
    rw [h4]
    exact rs_ge64 hS4
  by_cases hd : 0 ≤ D
  · refine br_t ((rs_ge64 hDS).mpr hd) ?_
    by_cases hz : 0 ≤ z 4
    · refine br_t (e4.mpr hz) (br_t rfl ?_)
      have e : D = rs_g z := by
        unfold rs_g
        rw [if_neg (by omega)]
        omega
      rw [e]
      exact H
    · refine br_f (fun h => hz (e4.mp h)) (br_f (by decide) (fun x ex => ?_))
      have e : -D = rs_g z := by
        unfold rs_g
        rw [if_pos (by omega)]
        omega
      rw [ex, ← Int64.ofInt_neg, e]
      exact H
  · refine br_f (fun h => hd ((rs_ge64 hDS).mp h)) ?_
    by_cases hz : 0 ≤ z 4
    · refine br_t (e4.mpr hz) (br_f (by decide) (fun x ex => ?_))
      have e : -D = rs_g z := by
        unfold rs_g
        rw [if_neg (by omega)]
        omega
      rw [ex, ← Int64.ofInt_neg, e]
      exact H
    · refine br_f (fun h => hz (e4.mp h)) (br_t rfl ?_)
      have e : D = rs_g z := by
        unfold rs_g
        rw [if_pos (by omega)]
        omega
      rw [e]
      exact H
theorem rs_red9 {post : SX → Prop} {c : Nat → Int32} {f s R : Nat → Int64} {z : Nat → Int} (hL : rs_L R z 5) (hz : ∀ k, k < 5 → rs_S (z k)) (h4 : z 4 ≠ 0) (H : wX_reduceResult_64 post (Int64.ofInt (rs_g z)) c f s R) : ∀ (d i : Nat) (D : Int), i + d = 4 → D.natAbs = rs_Gi z i → wX_reduceResult_9 post c f s R (d + 1) (Int64.ofInt D) (nI i) := by
  intro d
  induction d with
  | zero =>
    intro i D hi hD
    obtain rfl : i = 4 := by omega
    exact br_t (by decide) (rs_redex hD (rs_GiS (hz 4 (by omega)) h4 hD) (hz 4 (by omega)) (hL 4 (by omega)) H)
  | succ d ih =>
    intro i D hi hD
    refine pk_le 4 i (fun h => absurd h (by omega)) (fun _ => ⟨vp_in_nI (by omega) (by omega), ?_⟩)
    rw [nI_clamp (by omega), hL i (by omega)]
    refine rs_cdX (rs_GiS (hz 4 (by omega)) h4 hD) (hz i (by omega)) (fun g hg y ey => ?_)
    rw [ey, nI_1]
    refine ih (i + 1) g (by omega) ?_
    rw [hg, hD]
    rfl
theorem rs_red {post : SX → Prop} {c : Nat → Int32} {f s R : Nat → Int64} {z : Nat → Int} (hL : rs_L R z 5) (hz : ∀ k, k < 5 → rs_S (z k)) (h4 : z 4 ≠ 0) (H : ∀ R', rs_L R' (rs_q z) 5 → post (c, f, s, R')) : wpX_reduceResult post (c, f, s, R) := by
  intro x ex
  refine ⟨5, ?_⟩
  rw [ex, hL 4 (by omega)]
  refine rs_red9 hL hz h4 ?_ 4 0 (z 4) rfl rfl
  have hgS := rs_gS (hz 4 (by omega)) h4
  exact br_f (rs_n64 hgS (rs_g0 h4)) ⟨6, rs_red73 (rs_g0 h4) hgS hz H 5 0 R rfl (rs_L0 _ _) (fun k _ hk => hL k hk)⟩
theorem rs_dvYl {post : Int64 → Prop} {c : Nat → Int32} {M X C : Nat → Int64} : ∀ (n b a : Nat), b < n → a ≤ 4000000000000000000 → b ≤ 4000000000000000000 → post (Int64.ofInt (Nat.gcd a b : Nat)) → wY_divisor_28 post c M X C n (Int64.ofInt (a : Nat)) (Int64.ofInt (b : Nat)) := by
  intro n
  induction n with
  | zero => intro b a h; exact absurd h (by omega)
  | succ n ih =>
    intro b a h ha hb H
    have hbS : rs_S (b : Int) := ⟨by omega, by omega⟩
    have haS : rs_S (a : Int) := ⟨by omega, by omega⟩
    by_cases h0 : b = 0
    · subst h0
      rw [Nat.gcd_zero_right] at H
      exact br_t ((rs_le064 hbS).mpr (by omega)) H
    · have hn := rs_n64 hbS (by omega)
      refine br_f (fun h => h0 (by have := (rs_le064 hbS).mp h; omega)) ⟨hn, fun y ey => ?_⟩
      rw [ey, rs_rem64 haS hbS, Int.tmod_eq_emod_of_nonneg (by omega)]
      have hm := Nat.mod_lt a (show 0 < b by omega)
      rw [rs_gstep] at H
      exact ih (a % b) b (by omega) hb (by omega) H
theorem rs_dvY {post : Int64 → Prop} {c : Nat → Int32} {M X C : Nat → Int64} {x y : Int} (hx : rs_S x) (hy : rs_S y) (H : post (Int64.ofInt (Nat.gcd x.natAbs y.natAbs : Nat))) : wpY_divisor post (c, M, X, C) (Int64.ofInt x) (Int64.ofInt y) := by
  have K : wY_divisor_12 post (Int64.ofInt y) (Int64.ofInt (x.natAbs : Nat)) c M X C := by
    by_cases h : 0 ≤ y
    · refine br_t ((rs_ge64 hy).mpr h) ⟨y.natAbs + 1, ?_⟩
      have e : y = (y.natAbs : Int) := by omega
      have k := rs_dvYl (post := post) (c := c) (M := M) (X := X) (C := C) (y.natAbs + 1) y.natAbs x.natAbs (by omega) (rs_nS hx) (rs_nS hy) H
      rw [← e] at k
      exact k
    · refine br_f (fun h2 => h ((rs_ge64 hy).mp h2)) (fun z ez => ⟨y.natAbs + 1, ?_⟩)
      have e : -y = (y.natAbs : Int) := by omega
      rw [ez, ← Int64.ofInt_neg, e]
      exact rs_dvYl (y.natAbs + 1) y.natAbs x.natAbs (by omega) (rs_nS hx) (rs_nS hy) H
  by_cases h : 0 ≤ x
  · refine br_t ((rs_ge64 hx).mpr h) ?_
    have e : (x.natAbs : Int) = x := by omega
    rw [e] at K
    exact K
  · refine br_f (fun h2 => h ((rs_ge64 hx).mp h2)) ?_
    have e : -x = (x.natAbs : Int) := by omega
    rw [← Int64.ofInt_neg, e]
    exact K
def rs_Hi (z : Nat → Int) : Nat → Nat
  | 0 => 0
  | i + 1 => Nat.gcd (rs_Hi z i) (z i).natAbs
theorem rs_Hi5 (z : Nat → Int) : rs_Hi z 5 = rs_G z := rs_Gy z
theorem rs_gle {a b K : Nat} (ha : a ≤ K) (hb : b ≤ K) : Nat.gcd a b ≤ K := by
  by_cases h : b = 0
  · rw [h, Nat.gcd_zero_right]
    exact ha
  · exact Nat.le_trans (Nat.le_of_dvd (by omega) (Nat.gcd_dvd_right a b)) hb
theorem rs_HiS {z : Nat → Int} (hz : ∀ k, k < 5 → rs_S (z k)) : ∀ i, i ≤ 5 → rs_Hi z i ≤ 4000000000000000000 := by
  intro i
  induction i with
  | zero => intro _; exact Nat.zero_le _
  | succ i ih => intro h; exact rs_gle (ih (by omega)) (rs_nS (hz i (by omega)))
theorem rs_sh4 {post : SY → Prop} {c : Nat → Int32} {M X C : Nat → Int64} {z : Nat → Int} (hL : rs_L M z 5) (hz : ∀ k, k < 5 → rs_S (z k)) (H : ∃ n, wY_shorten_47 post (Int64.ofInt (rs_g z)) n 0 c M X C) : ∀ (d i : Nat), i + d = 5 → wY_shorten_4 post c M X C (d + 1) (Int64.ofInt (rs_Hi z i : Nat)) (nI i) := by
  intro d
  induction d with
  | zero =>
    intro i hi
    obtain rfl : i = 5 := by omega
    refine br_t (by decide) ?_
    have e4 : 0 ≤ M 4 ↔ 0 ≤ z 4 := by
      rw [hL 4 (by omega)]
      exact rs_ge64 (hz 4 (by omega))
    rw [rs_Hi5]
    by_cases h : 0 ≤ z 4
    · refine br_t (e4.mpr h) ?_
      have e : rs_g z = (rs_G z : Int) := if_neg (by omega)
      rw [e] at H
      exact H
    · refine br_f (fun h2 => h (e4.mp h2)) (fun x ex => ?_)
      have e : rs_g z = -(rs_G z : Int) := if_pos (by omega)
      rw [e] at H
      rw [ex, ← Int64.ofInt_neg]
      exact H
  | succ d ih =>
    intro i hi
    refine pk_le 5 i (fun h => absurd h (by omega)) (fun _ => ⟨vp_in_nI (by omega) (by omega), ?_⟩)
    rw [nI_clamp (by omega), hL i (by omega)]
    have hH := rs_HiS hz i (by omega)
    refine rs_dvY ⟨by omega, by omega⟩ (hz i (by omega)) (fun y ey => ?_)
    rw [ey, nI_1]
    exact ih (i + 1) (by omega)
theorem rs_sh {post : SY → Prop} {c : Nat → Int32} {M X C : Nat → Int64} {z : Nat → Int} (hL : rs_L M z 5) (hz : ∀ k, k < 5 → rs_S (z k)) (h4 : z 4 ≠ 0) (H : ∀ M', rs_L M' (rs_q z) 5 → post (c, M', X, C)) : wpY_shorten post (c, M, X, C) := by
  have hgS := rs_gS (hz 4 (by omega)) h4
  exact ⟨6, rs_sh4 hL hz ⟨6, rs_sh47 (rs_g0 h4) hgS hz H 5 0 M rfl (rs_L0 _ _) (fun k _ hk => hL k hk)⟩ 5 0 rfl⟩
/-- within the limit -/
def rs_w (x : Int) : Prop := -30 ≤ x ∧ x ≤ 30
theorem rs_S30 : rs_S 30 := ⟨by omega, by omega⟩
theorem rs_Sm30 : rs_S (-30) := ⟨by omega, by omega⟩
theorem rs_lim1 {post : Int32 → Prop} {x : Int} (hS : rs_S x) (h : rs_w x) (H : post 1) : wpX_isWithinLimit post (Int64.ofInt x) := by
  obtain ⟨h1, h2⟩ := h
  exact br_f (fun h => absurd ((rs_lt64 hS rs_Sm30).mp h) (by omega)) (br_f (fun h => absurd ((rs_lt64 rs_S30 hS).mp h) (by omega)) H)
theorem rs_lim0 {post : Int32 → Prop} {x : Int} (hS : rs_S x) (h : ¬ rs_w x) (H : post 0) : wpX_isWithinLimit post (Int64.ofInt x) := by
  by_cases h1 : x < -30
  · exact br_t ((rs_lt64 hS rs_Sm30).mpr h1) H
  · refine br_f (fun h => h1 ((rs_lt64 hS rs_Sm30).mp h)) (br_t ((rs_lt64 rs_S30 hS).mpr ?_) H)
    apply Int.not_le.mp
    intro h2
    exact h ⟨by omega, h2⟩
theorem rs_qS {z : Nat → Int} (hz : ∀ k, k < 5 → rs_S (z k)) {k : Nat} (hk : k < 5) : rs_S (rs_q z k) := by
  apply rs_Sn
  rw [rs_qn]
  exact Nat.le_trans (Nat.div_le_self _ _) (rs_nS (hz k hk))
theorem rs_kp34 {post : Int32 → SX → Prop} {c : Nat → Int32} {f s R : Nat → Int64} {q : Nat → Int} {r : Nat} (hr : r < 6) (hL : rs_L R q 5) (H : post 0 (rs_st c r q 5, f, s, R)) : ∀ (d i : Nat), i + d = 5 → wX_keepResult_34 post (nI r) (d + 1) (nI i) (rs_st c r q i) f s R := by
  intro d
  induction d with
  | zero =>
    intro i hi
    obtain rfl : i = 5 := by omega
    exact br_t (by decide) H
  | succ d ih =>
    intro i hi
    refine pk_le 5 i (fun h => absurd h (by omega)) (fun _ => ⟨vp_in_nI (by omega) (by omega), rs_inX hr (by omega), fun a ea y ey => ?_⟩)
    rw [ey, nI_1, ea, rs_clX hr (by omega), nI_clamp (by omega), hL i (by omega), Int64.toInt32_ofInt, rs_sts]
    exact ih (i + 1) (by omega)
theorem rs_tk48 {post : Int32 → SY → Prop} {c : Nat → Int32} {M X C : Nat → Int64} {q : Nat → Int} {r : Nat} (hr : r < 6) (hL : rs_L M q 5) (H : post 0 (rs_st c r q 5, M, X, C)) : ∀ (d i : Nat), i + d = 5 → wY_take_48 post (nI r) (d + 1) (nI i) (rs_st c r q i) M X C := by
  intro d
  induction d with
  | zero =>
    intro i hi
    obtain rfl : i = 5 := by omega
    exact br_t (by decide) H
  | succ d ih =>
    intro i hi
    refine pk_le 5 i (fun h => absurd h (by omega)) (fun _ => ⟨vp_in_nI (by omega) (by omega), rs_inY hr (by omega), fun a ea y ey => ?_⟩)
    rw [ey, nI_1, ea, rs_clY hr (by omega), nI_clamp (by omega), hL i (by omega), Int64.toInt32_ofInt, rs_sts]
    exact ih (i + 1) (by omega)
theorem rs_kp6 {post : Int32 → SX → Prop} {c : Nat → Int32} {f s R : Nat → Int64} {q : Nat → Int} {r : Nat} (hL : rs_L R q 5) (hq : ∀ k, k < 5 → rs_S (q k)) (H1 : (∀ k, k < 5 → rs_w (q k)) → ∃ n, wX_keepResult_34 post (nI r) n 0 c f s R) (H2 : ¬ (∀ k, k < 5 → rs_w (q k)) → post (-2000000) (c, f, s, R)) : ∀ (d i : Nat), i + d = 5 → (∀ k, k < i → rs_w (q k)) → wX_keepResult_6 post (nI r) c f s R (d + 1) (nI i) := by
  intro d
  induction d with
  | zero =>
    intro i hi h
    obtain rfl : i = 5 := by omega
    exact br_t (by decide) (H1 h)
  | succ d ih =>
    intro i hi h
    refine pk_le 5 i (fun h => absurd h (by omega)) (fun _ => ⟨vp_in_nI (by omega) (by omega), ?_⟩)
    rw [nI_clamp (by omega), hL i (by omega)]
    by_cases hw : rs_w (q i)
    · refine rs_lim1 (hq i (by omega)) hw (br_f rs_1n0 (fun y ey => ?_))
      rw [ey, nI_1]
      exact ih (i + 1) (by omega) (lt_s h hw)
    · exact rs_lim0 (hq i (by omega)) hw (br_t rfl (H2 (fun hall => hw (hall i (by omega)))))
theorem rs_tk6 {post : Int32 → SY → Prop} {c : Nat → Int32} {M X C : Nat → Int64} {q : Nat → Int} {r : Nat} (hL : rs_L M q 5) (hq : ∀ k, k < 5 → rs_S (q k)) (H1 : (∀ k, k < 5 → rs_w (q k)) → ∃ n, wY_take_48 post (nI r) n 0 c M X C) (H2 : ¬ (∀ k, k < 5 → rs_w (q k)) → post (-2000000) (c, M, X, C)) : ∀ (d i : Nat), i + d = 5 → (∀ k, k < i → rs_w (q k)) → wY_take_6 post (nI r) c M X C (d + 1) (nI i) := by
  intro d
  induction d with
  | zero =>
    intro i hi h
    obtain rfl : i = 5 := by omega
    exact br_t (by decide) (H1 h)
  | succ d ih =>
    intro i hi h
    refine pk_le 5 i (fun h => absurd h (by omega)) (fun _ => ⟨vp_in_nI (by omega) (by omega), ?_⟩)
    rw [nI_clamp (by omega), hL i (by omega)]
    have hS := hq i (by omega)
    by_cases hw : rs_w (q i)
    · obtain ⟨w1, w2⟩ := hw
      refine br_f (fun h => absurd ((rs_lt64 rs_S30 hS).mp h) (by omega)) ⟨vp_in_nI (by omega) (by omega), br_t ((rs_le64 rs_Sm30 hS).mpr w1) (fun y ey => ?_)⟩
      rw [ey, nI_1]
      exact ih (i + 1) (by omega) (lt_s h ⟨w1, w2⟩)
    · have K := H2 (fun hall => hw (hall i (by omega)))
      by_cases h1 : 30 < q i
      · exact br_t ((rs_lt64 rs_S30 hS).mpr h1) K
      · refine br_f (fun h => h1 ((rs_lt64 rs_S30 hS).mp h)) ⟨vp_in_nI (by omega) (by omega), br_f (fun h => ?_) K⟩
        exact hw ⟨(rs_le64 rs_Sm30 hS).mp h, by omega⟩
/-- register r becomes the number z, written without common divisor, unless that is over -/
theorem rs_keep {post : Int32 → SX → Prop} {c : Nat → Int32} {f s R : Nat → Int64} {z : Nat → Int} {r : Nat} (hr : r < 6) (hL : rs_L R z 5) (hz : ∀ k, k < 5 → rs_S (z k)) (h4 : z 4 ≠ 0) (H1 : ∀ R', (∀ k, k < 5 → rs_w (rs_q z k)) → post 0 (rs_st c r (rs_q z) 5, f, s, R')) (H2 : ∀ R', ¬ (∀ k, k < 5 → rs_w (rs_q z k)) → post (-2000000) (c, f, s, R')) : wpX_keepResult post (c, f, s, R) (nI r) := by
  unfold wpX_keepResult
  dsimp only
  refine rs_red hL hz h4 (fun R' hL' => ?_)
  dsimp only
  refine ⟨6, ?_⟩
  refine rs_kp6 hL' (fun k hk => rs_qS hz hk) (fun hall => ⟨6, ?_⟩) (H2 R') 5 0 rfl (fun k hk => absurd hk (by omega))
  have k := rs_kp34 (c := c) hr hL' (H1 R' hall) 5 0 rfl
  rw [rs_st0] at k
  exact k
theorem rs_take {post : Int32 → SY → Prop} {c : Nat → Int32} {M X C : Nat → Int64} {z : Nat → Int} {r : Nat} (hr : r < 6) (hL : rs_L M z 5) (hz : ∀ k, k < 5 → rs_S (z k)) (h4 : z 4 ≠ 0) (H1 : ∀ M', (∀ k, k < 5 → rs_w (rs_q z k)) → post 0 (rs_st c r (rs_q z) 5, M', X, C)) (H2 : ∀ M', ¬ (∀ k, k < 5 → rs_w (rs_q z k)) → post (-2000000) (c, M', X, C)) : wpY_take post (c, M, X, C) (nI r) := by
  unfold wpY_take
  dsimp only
  refine rs_sh hL hz h4 (fun M' hL' => ?_)
  dsimp only
  refine ⟨6, ?_⟩
  refine rs_tk6 hL' (fun k hk => rs_qS hz hk) (fun hall => ⟨6, ?_⟩) (H2 M') 5 0 rfl (fun k hk => absurd hk (by omega))
  have k := rs_tk48 (c := c) hr hL' (H1 M' hall) 5 0 rfl
  rw [rs_st0] at k
  exact k
theorem rs_qok {z : Nat → Int} (h4 : z 4 ≠ 0) (hall : ∀ k, k < 5 → rs_w (rs_q z k)) : rs_ok (rs_q z) :=
  ⟨fun k hk => hall k (by omega), rs_q4 h4, (hall 4 (by omega)).2, rs_q1 h4⟩
