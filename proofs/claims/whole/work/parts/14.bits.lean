/-! ===== bits of small numbers ===== -/
theorem bb_1 {x : Nat} (h : x < 2147483648) : (Int32.ofInt (x : Int)).toBitVec.toNat = x := by
  show (BitVec.ofInt 32 (x : Int)).toNat = x
  rw [BitVec.toNat_ofInt]
  omega
theorem bb_2 (a : Int32) {x : Nat} (h : a.toBitVec.toNat = x) (hx : x < 2147483648) : a.toInt = (x : Int) := by
  show a.toBitVec.toInt = _
  rw [BitVec.toInt_eq_toNat_cond, h, if_pos (by omega)]
theorem bb_and {x y : Nat} (hx : x < 2147483648) (hy : y < 2147483648) : mm_and x y = ((x &&& y : Nat) : Int) := by
  unfold mm_and
  refine bb_2 _ ?_ (Nat.lt_of_le_of_lt Nat.and_le_left hx)
  rw [Int32.toBitVec_and, BitVec.toNat_and, bb_1 hx, bb_1 hy]
theorem bb_or {x y : Nat} (hx : x < 2147483648) (hy : y < 2147483648) : mm_or x y = ((x ||| y : Nat) : Int) := by
  unfold mm_or
  refine bb_2 _ ?_ (Nat.or_lt_two_pow (n := 31) hx hy)
  rw [Int32.toBitVec_or, BitVec.toNat_or, bb_1 hx, bb_1 hy]
theorem bb_xor {x y : Nat} (hx : x < 2147483648) (hy : y < 2147483648) : mm_xor x y = ((x ^^^ y : Nat) : Int) := by
  unfold mm_xor
  refine bb_2 _ ?_ (Nat.xor_lt_two_pow (n := 31) hx hy)
  rw [Int32.toBitVec_xor, BitVec.toNat_xor, bb_1 hx, bb_1 hy]
theorem bb_s : ∀ n : Nat, n < 32 → ((Int32.ofInt (n : Int) &&& 31).toBitVec.smod 32).toNat = n := by decide +kernel
theorem bb_shr {x : Int} (hx : mm_in x) {y : Nat} (hy : y < 32) : mm_shr x y = x / ((2 ^ y : Nat) : Int) := by
  unfold mm_shr
  show (BitVec.sshiftRight (Int32.ofInt x).toBitVec ((Int32.ofInt (y : Int) &&& 31).toBitVec.smod 32).toNat).toInt = _
  rw [BitVec.toInt_sshiftRight, bb_s y hy]
  show (Int32.ofInt x).toInt >>> y = _
  rw [mm_i1 hx, Int.shiftRight_eq_div_pow]
theorem bb_shl1 : ∀ g : Nat, g < 31 → mm_shl 1 g = ((2 ^ g : Nat) : Int) := by decide +kernel
theorem bb_shlv : ∀ d : Nat, d < 16 → ∀ v : Nat, v < 3 → mm_shl ((d : Int) - 8) (6 - 3 * v) = ((d : Int) - 8) * ((8 ^ (2 - v) : Nat) : Int) := by decide +kernel
theorem bb_and7 {x : Int} (h0 : 0 ≤ x) (h1 : x < 2147483648) : mm_and x 7 = x % 8 := by
  obtain ⟨n, rfl⟩ := Int.eq_ofNat_of_zero_le h0
  have := bb_and (x := n) (y := 7) (by omega) (by decide)
  rw [show ((7 : Nat) : Int) = 7 from rfl] at this
  rw [this, show (7 : Nat) = 2 ^ 3 - 1 from rfl, Nat.and_two_pow_sub_one_eq_mod]
  omega
theorem bb_and1 {x : Int} (h0 : 0 ≤ x) (h1 : x < 2147483648) : mm_and x 1 = x % 2 := by
  obtain ⟨n, rfl⟩ := Int.eq_ofNat_of_zero_le h0
  have := bb_and (x := n) (y := 1) (by omega) (by decide)
  rw [show ((1 : Nat) : Int) = 1 from rfl] at this
  rw [this, show (1 : Nat) = 2 ^ 1 - 1 from rfl, Nat.and_two_pow_sub_one_eq_mod]
  omega
/-- the value of a variable -/
def vl (all v : Int) : Int := if v = 0 then all / 64 % 8 else if v = 1 then all / 8 % 8 else all % 8
theorem vl_eq {all v : Int} (ha : 0 ≤ all ∧ all < 2147483648) (hv : 0 ≤ v ∧ v ≤ 2) : mm_and (mm_shr all (6 - 3 * v)) 7 = vl all v := by
  obtain rfl | rfl | rfl : v = 0 ∨ v = 1 ∨ v = 2 := by omega
  · have := bb_shr (x := all) ⟨by omega, by omega⟩ (y := 6) (by decide)
    rw [show (6 - 3 * 0 : Int) = ((6 : Nat) : Int) from rfl, this, bb_and7 (by omega) (by omega)]
    rfl
  · have := bb_shr (x := all) ⟨by omega, by omega⟩ (y := 3) (by decide)
    rw [show (6 - 3 * 1 : Int) = ((3 : Nat) : Int) from rfl, this, bb_and7 (by omega) (by omega)]
    rfl
  · have := bb_shr (x := all) ⟨by omega, by omega⟩ (y := 0) (by decide)
    rw [show (6 - 3 * 2 : Int) = ((0 : Nat) : Int) from rfl, this, bb_and7 (by omega) (by omega)]
    show all / 1 % 8 = all % 8
    omega
theorem vl_in (all v : Int) : 0 ≤ vl all v ∧ vl all v ≤ 7 := by
  unfold vl
  split
  · omega
  · split <;> omega
