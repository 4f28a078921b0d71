/-! ===== the reference: small methods ===== -/
def ib (p : Prop) [Decidable p] : Int := if p then 1 else 0
theorem ib_in (p : Prop) [Decidable p] : 0 ≤ ib p ∧ ib p ≤ 1 := by unfold ib; split <;> omega
theorem ib_t {p : Prop} [Decidable p] (h : p) : ib p = 1 := if_pos h
theorem ib_f {p : Prop} [Decidable p] (h : ¬ p) : ib p = 0 := if_neg h
section ME
variable {r y : Bool} {w : mm_M}
theorem ev_m_isIn {v lo hi : Int} : mm_Ev K_X10_isIn (0, 0) [.inl v, .inl lo, .inl hi] (PH r y) w (mm_pe (some (.inl (ib (lo ≤ v ∧ v ≤ hi)))) (PH r y) w) := by
  refine ev_intro ok_X10_isIn mo_X10_isIn (Nat.le_of_ble_eq_true rfl) (fun hrg has => ?_)
  repeat' (first
    | refine k_brt rfl (by decide) ?_
    | refine k_brf rfl (by decide) ?_
    | refine k_br rfl (fun _ => ?_) (fun _ => ?_)
    | refine k_ret rfl ?_ ⟨?_, rfl, rfl⟩
    | refine k_gp rfl rfl ?_ ?_)
  all_goals (first | trivial | omega | (simp only [true_and]; omega) | (refine congrArg some (congrArg Sum.inl ?_); first | rfl | (rw [ib_t (by omega)]) | (rw [ib_f (by omega)]) | omega))
theorem ev_m_value {all v : Int} (ha : 0 ≤ all ∧ all < 2147483648) (hv : 0 ≤ v ∧ v ≤ 2) : mm_Ev K_X10_value (0, 0) [.inl all, .inl v] (PH r y) w (mm_pe (some (.inl (vl all v))) (PH r y) w) := by
  refine ev_intro ok_X10_value mo_X10_value (Nat.le_of_ble_eq_true rfl) (fun hrg has => ?_)
  repeat' (first
    | refine k_brt rfl (by decide) ?_
    | refine k_brf rfl (by decide) ?_
    | refine k_br rfl (fun _ => ?_) (fun _ => ?_)
    | refine k_ret rfl ?_ ⟨?_, rfl, rfl⟩
    | refine k_gp rfl rfl ?_ ?_)
  all_goals (first | trivial | omega | (simp only [true_and]; omega) | (refine congrArg some (congrArg Sum.inl ?_); first | rfl | (rw [ib_t (by omega)]) | (rw [ib_f (by omega)]) | omega) | (rw [vl_eq ha hv]))
/-- variables that there are not have 0 -/
abbrev thr (nv all : Int) : Prop := (0 < nv ∨ vl all 0 = 0) ∧ (1 < nv ∨ vl all 1 = 0) ∧ (2 < nv ∨ vl all 2 = 0)
theorem ev_m_isThere {all : Int} (ha : 0 ≤ all ∧ all < 512) : mm_Ev K_X10_isThere (0, 0) [.inr (some (1, 0)), .inl all] (PH r y) w (mm_pe (some (.inl (ib (thr (w 1 0 4) all)))) (PH r y) w) := by
  refine ev_intro ok_X10_isThere mo_X10_isThere (Nat.le_of_ble_eq_true rfl) (fun hrg has => ?_)
  repeat' (first
    | refine k_brt rfl (by decide) ?_
    | refine k_brf rfl (by decide) ?_
    | refine k_br rfl (fun _ => ?_) (fun _ => ?_)
    | refine k_ret rfl ?_ ⟨?_, rfl, rfl⟩
    | refine k_callp rfl (ev_m_value ?_ ?_) rfl rfl rfl (by decide) ?_
    | refine k_gp rfl rfl ?_ ?_)
  all_goals (first | trivial | omega | (simp only [true_and]; omega) | (refine congrArg some (congrArg Sum.inl ?_); first | rfl | (rw [ib_t (by omega)]) | (rw [ib_f (by omega)]) | omega))
end ME
