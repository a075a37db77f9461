/-! part 17: the owed statements of the constructors and of the turn -/
theorem i_up {k : Nat} {u : SX} {v : SY} (h : i_Rel k u v) : i_Rel (k + 4) u v := by
  obtain ⟨c, f, s, R, M, X, C, rfl, rfl, hc⟩ := h
  exact rs_rel hc
theorem i_vc0 : wpX_init (fun u => wpY_init (fun v => i_Rel 0 u v)) := by
  have kY : wpY_init (fun v => i_Rel 0 (rs_ci 6, fun _ => 0, fun _ => 0, fun _ => 0) v) := by
    have k := rs_inYl (f := fun _ => 0) (s := fun _ => 0) (R := fun _ => 0) (post := fun v => i_Rel 0 (rs_ci 6, fun _ => 0, fun _ => 0, fun _ => 0) v) (rs_rel rs_cR) 6 0 rfl
    rw [rs_ci0] at k
    exact ⟨7, k⟩
  have k := rs_inXl (f := fun _ => 0) (s := fun _ => 0) (R := fun _ => 0) (post := fun u => wpY_init (fun v => i_Rel 0 u v)) kY 6 0 rfl
  rw [rs_ci0] at k
  exact ⟨7, k⟩
