/-! ===== the class: the next higher number that has no bits but those ===== -/
def sbB (L : Nat) (t : Int) : Bool := Nat.beq (Nat.land t.toNat L) t.toNat
def nxOK (L u : Nat) : Bool := !sbB L u || (if Nat.beq u L then decide (mm_and ((u : Int) - (L : Int)) L = 0) else (fun v : Int => decide (0 ≤ v) && sbB L v && Nat.blt u v.toNat && Nat.ble v.toNat L && ((List.range' (u + 1) (v.toNat - u - 1)).all fun t => !sbB L t)) (mm_and ((u : Int) - (L : Int)) L))
set_option maxRecDepth 1000000 in
theorem nxA : ∀ L : Fin 256, ∀ u : Fin 256, nxOK L.val u.val = true := by decide +kernel
set_option maxRecDepth 1000000 in
theorem sbN : ∀ L : Fin 256, ((cnt (sbB L.val) 256 : Nat) : Int) = ((2 ^ (pop8 L.val 8).toNat : Nat) : Int) := by decide +kernel
theorem sb_0 (L : Nat) : sbB L 0 = true := by
  unfold sbB
  show Nat.beq (0 &&& L) 0 = true
  rw [Nat.zero_and]
  rfl
