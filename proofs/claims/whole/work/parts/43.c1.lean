/-! ===== the class: Integer.bitCount, Arrays.fill, NumberSet, History ===== -/
def bc1 (x : Int) : Int := x - mm_and (mm_ushr x 1) 1431655765
def bc2 (v : Int) : Int := mm_and v 858993459 + mm_and (mm_ushr v 2) 858993459
def bc3 (v : Int) : Int := v + mm_ushr v 4
def bc4 (v : Int) : Int := v + mm_ushr v 8
def bc5 (v : Int) : Int := v + mm_ushr v 16
def bcB (x : Int) : Bool := (decide (0 ≤ bc1 x ∧ bc1 x < 256) && decide (0 ≤ bc2 (bc1 x) ∧ bc2 (bc1 x) < 256) && decide (0 ≤ bc3 (bc2 (bc1 x)) ∧ bc3 (bc2 (bc1 x)) < 512)) && (decide (0 ≤ bc4 (mm_and (bc3 (bc2 (bc1 x))) 252645135) ∧ bc4 (mm_and (bc3 (bc2 (bc1 x))) 252645135) < 256) && decide (0 ≤ bc5 (bc4 (mm_and (bc3 (bc2 (bc1 x))) 252645135)) ∧ bc5 (bc4 (mm_and (bc3 (bc2 (bc1 x))) 252645135)) < 256) && decide (mm_and (bc5 (bc4 (mm_and (bc3 (bc2 (bc1 x))) 252645135))) 63 = pop8 x 8))
set_option maxRecDepth 100000 in
theorem bcA : ∀ k : Fin 256, bcB ((k.val : Nat) : Int) = true := by decide +kernel
section MC
variable {r : Bool × Bool} {y : Bool} {w : mm_M}
theorem ev_bitCount {x : Int} (hx : 0 ≤ x ∧ x < 256) : mm_Ev K_J6_bitCount (0, 0) [.inl x] (PH r y) w (mm_pe (some (.inl (pop8 x 8))) (PH r y) w) := by
  refine ev_intro ok_J6_bitCount mo_J6_bitCount (Nat.le_of_ble_eq_true rfl) (fun hrg has => ?_)
  have hB := bcA ⟨x.toNat, by omega⟩
  rw [show ((((⟨x.toNat, by omega⟩ : Fin 256).val : Nat)) : Int) = x by show ((x.toNat : Nat) : Int) = x; omega] at hB
  simp only [bcB, Bool.and_eq_true, decide_eq_true_eq] at hB
  obtain ⟨⟨⟨h1, h2⟩, h3⟩, ⟨h4, h5⟩, h6⟩ := hB
  refine k_gp rfl rfl trivial ?_
  refine k_iushr rfl ?_
  refine k_ldcw (v := 1431655765) rfl (tb_in 645 (by decide +kernel) (by decide +kernel)) (by decide) ?_
  refine k_gp rfl rfl (by have : bc1 x = x - mm_and (mm_ushr x 1) 1431655765 := rfl; simp only [true_and, mm_fits]; omega) ?_
  refine k_ldcw (v := 858993459) rfl (tb_in 646 (by decide +kernel) (by decide +kernel)) (by decide) ?_
  refine k_gp rfl rfl trivial ?_
  refine k_iushr rfl ?_
  refine k_ldcw (v := 858993459) rfl (tb_in 646 (by decide +kernel) (by decide +kernel)) (by decide) ?_
  refine k_gp rfl rfl (show True ∧ mm_in (bc2 (bc1 x)) from ⟨trivial, by unfold mm_in; omega⟩) ?_
  refine k_iushr rfl ?_
  refine k_gp rfl rfl (show True ∧ mm_in (bc3 (bc2 (bc1 x))) from ⟨trivial, by unfold mm_in; omega⟩) ?_
  refine k_ldcw (v := 252645135) rfl (tb_in 647 (by decide +kernel) (by decide +kernel)) (by decide) ?_
  refine k_gp rfl rfl trivial ?_
  refine k_iushr rfl ?_
  refine k_gp rfl rfl (show True ∧ mm_in (bc4 (mm_and (bc3 (bc2 (bc1 x))) 252645135)) from ⟨trivial, by unfold mm_in; omega⟩) ?_
  refine k_iushr rfl ?_
  refine k_gp rfl rfl (show True ∧ mm_in (bc5 (bc4 (mm_and (bc3 (bc2 (bc1 x))) 252645135))) from ⟨trivial, by unfold mm_in; omega⟩) ?_
  exact k_ret rfl trivial ⟨congrArg (fun v => some (Sum.inl v)) h6, rfl, rfl⟩
end MC
