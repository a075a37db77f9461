/-! part 14: degrees, norms: the walks of both sides -/
def rs_b3 (b1 b2 b3 : Bool) : Nat → Bool
  | 1 => b1
  | 2 => b2
  | 3 => b3
  | _ => false
/-- the same in place k -/
def rs_sk (b : Bool) (k w1 w2 : Nat) : Bool := !b || decide (rs_fl k w1 = rs_fl k w2)
def rs_smt (b : Nat → Bool) (w1 w2 : Nat) : Nat → Nat → Bool
  | 0 => fun _ => true
  | d + 1 => fun k => rs_sk (b k) k w1 w2 && rs_smt b w1 w2 d (k + 1)
/-- fresh among the first j -/
def rs_fr (b : Nat → Bool) (w : Nat) : Nat → Bool
  | 0 => true
  | j + 1 => rs_fr b w j && !(rs_smt b w j 3 1)
def rs_dg (b : Nat → Bool) : Nat → Nat
  | 0 => 0
  | w + 1 => if rs_fr b w w = true then rs_dg b w + 1 else rs_dg b w
def rs_rt (b : Nat → Bool) : Nat → Nat → Nat → Nat
  | 0 => fun _ n => n
  | d + 1 => fun k n => rs_rt b d (k + 1) (if b k = true then n + 1 else n)
def rs_dx (n : Nat) : Nat := if n = 0 then 1 else if n = 1 then 2 else 4
theorem rs_dgx : ∀ b1 b2 b3 : Bool, rs_dg (rs_b3 b1 b2 b3) 4 = rs_dx (rs_rt (rs_b3 b1 b2 b3) 3 1 0) := by decide
def rs_bz (z : Nat → Int) : Nat → Bool := rs_b3 (decide (z 1 ≠ 0)) (decide (z 2 ≠ 0)) (decide (z 3 ≠ 0))
theorem rs_bzk {z : Nat → Int} {k : Nat} (h1 : 1 ≤ k) (h2 : k < 4) : rs_bz z k = decide (z k ≠ 0) := by
  rcases (show k = 1 ∨ k = 2 ∨ k = 3 by omega) with rfl | rfl | rfl
  · rfl
  · rfl
  · rfl
theorem rs_dgXl {post : Int32 → Prop} {c : Nat → Int32} {f s R : Nat → Int64} {r : Nat} (hr : r < 6) : ∀ (d k n : Nat), k + d = 4 → 1 ≤ k → n ≤ k → post (nI (rs_dx (rs_rt (rs_bz (rs_z c r)) d k n))) → wX_degree_14 post (nI r) c f s R (d + 1) (nI n) (nI k) := by
  intro d
  induction d with
  | zero =>
    intro k n hk _ hn H
    obtain rfl : k = 4 := by omega
    refine br_t (by decide) (pk_eq n 0 (fun h => ?_) (fun h => pk_eq n 1 (fun g => ?_) (fun g => ?_)))
    · have e : rs_dx n = 1 := if_pos h
      have H' : post (nI (rs_dx n)) := H
      rw [e] at H'
      exact H'
    · have e : rs_dx n = 2 := by
        unfold rs_dx
        rw [if_neg h, if_pos g]
      have H' : post (nI (rs_dx n)) := H
      rw [e] at H'
      exact H'
    · have e : rs_dx n = 4 := by
        unfold rs_dx
        rw [if_neg h, if_neg g]
      have H' : post (nI (rs_dx n)) := H
      rw [e] at H'
      exact H'
  | succ d ih =>
    intro k n hk h1 hn H
    have e : rs_rt (rs_bz (rs_z c r)) (d + 1) k n = rs_rt (rs_bz (rs_z c r)) d (k + 1) (if rs_bz (rs_z c r) k = true then n + 1 else n) := rfl
    rw [e, rs_bzk h1 (by omega)] at H
    have ez : c (5 * r + k) = 0 ↔ rs_z c r k = 0 := rs_c0 _
    refine pk_le 4 k (fun h => absurd h (by omega)) (fun _ => ⟨rs_inX hr (by omega), ?_⟩)
    rw [rs_clX hr (by omega)]
    by_cases h : rs_z c r k = 0
    · refine br_t (ez.mpr h) (fun j ej => ?_)
      rw [ej, nI_1]
      rw [if_neg (by rw [decide_eq_true_eq]; exact fun g => g h)] at H
      exact ih (k + 1) n (by omega) (by omega) (by omega) H
    · refine br_f (fun g => h (ez.mp g)) (fun a ea j ej => ?_)
      rw [ea, ej, nI_1, nI_1]
      rw [if_pos (by rw [decide_eq_true_eq]; exact h)] at H
      exact ih (k + 1) (n + 1) (by omega) (by omega) (by omega) H
theorem rs_ske {z a b : Int} (ha : a = 1 ∨ a = -1) (hb : b = 1 ∨ b = -1) : a * z = b * z ↔ (z = 0 ∨ a = b) := by
  rcases ha with rfl | rfl <;> rcases hb with rfl | rfl <;> omega
theorem rs_isYl {post : Int32 → Prop} {c : Nat → Int32} {M X C : Nat → Int64} {r w1 w2 : Nat} (hc : rs_Rc c) (hr : r < 6) (h1 : w1 < 4) (h2 : w2 < 4) : ∀ (d k : Nat), k + d = 4 → 1 ≤ k → post (if rs_smt (rs_bz (rs_z c r)) w1 w2 d k = true then 1 else 0) → wY_isSame_3 post (nI r) (nI w1) (nI w2) c M X C (d + 1) (nI k) := by
  intro d
  induction d with
  | zero =>
    intro k hk _ H
    obtain rfl : k = 4 := by omega
    exact br_t (by decide) H
  | succ d ih =>
    intro k hk hk1 H
    refine pk_le 4 k (fun h => absurd h (by omega)) (fun _ => ⟨rs_inY hr (by omega), ?_⟩)
    refine rs_flY (by omega) h1 ⟨rs_inY hr (by omega), ?_⟩
    refine rs_flY (by omega) h2 ?_
    rw [rs_clY hr (by omega)]
    have es : rs_smt (rs_bz (rs_z c r)) w1 w2 (d + 1) k = (rs_sk (rs_bz (rs_z c r) k) k w1 w2 && rs_smt (rs_bz (rs_z c r)) w1 w2 d (k + 1)) := rfl
    rw [es, rs_bzk hk1 (by omega)] at H
    have et : (c (5 * r + k) * Int32.ofInt (rs_fl k w1) = c (5 * r + k) * Int32.ofInt (rs_fl k w2)) ↔ (rs_z c r k = 0 ∨ rs_fl k w1 = rs_fl k w2) := by
      rw [← Int32.toInt_inj, rs_fm hc hr (by omega), rs_fm hc hr (by omega)]
      exact rs_ske (rs_flr k w1) (rs_flr k w2)
    have ek : rs_sk (decide (rs_z c r k ≠ 0)) k w1 w2 = true ↔ (rs_z c r k = 0 ∨ rs_fl k w1 = rs_fl k w2) := by
      unfold rs_sk
      by_cases g1 : rs_z c r k = 0
      · simp [g1]
      · simp [g1]
    by_cases g : rs_z c r k = 0 ∨ rs_fl k w1 = rs_fl k w2
    · refine br_t (et.mpr g) (fun j ej => ?_)
      rw [ej, nI_1]
      rw [ek.mpr g, Bool.true_and] at H
      exact ih (k + 1) (by omega) (by omega) H
    · refine br_f (fun h => g (et.mp h)) ?_
      have ef : rs_sk (decide (rs_z c r k ≠ 0)) k w1 w2 = false := by
        cases hb : rs_sk (decide (rs_z c r k ≠ 0)) k w1 w2
        · rfl
        · exact absurd (ek.mp hb) g
      rw [ef, Bool.false_and] at H
      exact H
theorem rs_isY {post : Int32 → Prop} {c : Nat → Int32} {M X C : Nat → Int64} {r w1 w2 : Nat} (hc : rs_Rc c) (hr : r < 6) (h1 : w1 < 4) (h2 : w2 < 4) (H : post (if rs_smt (rs_bz (rs_z c r)) w1 w2 3 1 = true then 1 else 0)) : wpY_isSame post (c, M, X, C) (nI r) (nI w1) (nI w2) :=
  ⟨4, rs_isYl hc hr h1 h2 3 1 rfl (by omega) H⟩
def rs_bi (b : Bool) : Int32 := if b = true then 1 else 0
theorem rs_dg26 {post : Int32 → Prop} {J : Int32 → Int32 → Prop} {c : Nat → Int32} {M X C : Nat → Int64} {r w : Nat} {x2 : Int32} (hc : rs_Rc c) (hr : r < 6) (hw : w < 4) (H0 : rs_fr (rs_bz (rs_z c r)) w w = false → J x2 (nI (w + 1))) (H1 : rs_fr (rs_bz (rs_z c r)) w w = true → J (x2 + 1) (nI (w + 1))) : ∀ (d j : Nat), j + d = w → wY_degree_26 post J (nI r) x2 (nI w) c M X C (d + 1) (rs_bi (rs_fr (rs_bz (rs_z c r)) w j)) (nI j) := by
  intro d
  induction d with
  | zero =>
    intro j hj
    obtain rfl : j = w := by omega
    refine pk_le j j (fun _ => ?_) (fun h => absurd h (by omega))
    cases hb : rs_fr (rs_bz (rs_z c r)) j j
    · refine br_t (by decide) (fun a ea => ?_)
      rw [ea, nI_1]
      exact H0 hb
    · refine br_f (by decide) (fun b eb a ea => ?_)
      rw [ea, eb, nI_1]
      exact H1 hb
  | succ d ih =>
    intro j hj
    refine pk_le w j (fun h => absurd h (by omega)) (fun _ => ?_)
    have IH := ih (j + 1) (by omega)
    have ef : rs_fr (rs_bz (rs_z c r)) w (j + 1) = (rs_fr (rs_bz (rs_z c r)) w j && !(rs_smt (rs_bz (rs_z c r)) w j 3 1)) := rfl
    rw [ef] at IH
    cases hb : rs_fr (rs_bz (rs_z c r)) w j
    · rw [hb, Bool.false_and] at IH
      refine br_t (by decide) (fun a ea => ?_)
      rw [ea, nI_1]
      exact IH
    · rw [hb, Bool.true_and] at IH
      refine br_f (by decide) ?_
      refine rs_isY hc hr hw (by omega) ?_
      cases hs : rs_smt (rs_bz (rs_z c r)) w j 3 1
      · rw [hs] at IH
        refine br_t (by decide) (fun a ea => ?_)
        rw [ea, nI_1]
        exact IH
      · rw [hs] at IH
        refine br_f (by decide) (fun a ea => ?_)
        rw [ea, nI_1]
        exact IH
theorem rs_dg15 {post : Int32 → Prop} {c : Nat → Int32} {M X C : Nat → Int64} {r : Nat} (hc : rs_Rc c) (hr : r < 6) (H : post (nI (rs_dg (rs_bz (rs_z c r)) 4))) : ∀ (d w : Nat), w + d = 4 → wY_degree_15 post (nI r) c M X C (d + 1) (nI (rs_dg (rs_bz (rs_z c r)) w)) (nI w) := by
  intro d
  induction d with
  | zero =>
    intro w hw
    obtain rfl : w = 4 := by omega
    exact br_t (by decide) H
  | succ d ih =>
    intro w hw
    have IH := ih (w + 1) (by omega)
    have ef : rs_dg (rs_bz (rs_z c r)) (w + 1) = if rs_fr (rs_bz (rs_z c r)) w w = true then rs_dg (rs_bz (rs_z c r)) w + 1 else rs_dg (rs_bz (rs_z c r)) w := rfl
    rw [ef] at IH
    refine pk_le 4 w (fun h => absurd h (by omega)) (fun _ => ⟨w + 1, ?_⟩)
    refine rs_dg26 hc hr (by omega) (fun h => ?_) (fun h => ?_) w 0 (by omega)
    · rw [h, if_neg (by decide)] at IH
      exact IH
    · rw [h, if_pos rfl] at IH
      rw [nI_1]
      exact IH
