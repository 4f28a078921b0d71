/-! ===== the class: Integer.bitCount, Arrays.fill, NumberSet, History ===== -/
section MC
variable {r y : Bool} {w : mm_M}
def bcE (x : Int) : Int := mm_and (mm_ushr x 1) 1431655765
theorem ev_bitCount {x : Int} (hx : 0 ≤ x ∧ x < 256) : mm_Ev K_J6_bitCount (0, 0) [.inl x] (PH r y) w (mm_pe (some (.inl (pop8 x 8))) (PH r y) w) := by
  refine ev_intro ok_J6_bitCount mo_J6_bitCount (Nat.le_of_ble_eq_true rfl) (fun hrg has => ?_)
  refine k_gp rfl rfl trivial ?_
  refine k_iushr rfl ?_
  refine k_ldcw (v := 1431655765) rfl (tb_in 645 (by decide +kernel) (by decide +kernel)) (by decide) ?_
  trace_state
  sorry
end MC
