/-! ===== the class: what is looked at in all; values that there are not do not matter ===== -/
theorem vl_vls {nv a b d v : Int} (h : (0 ≤ a ∧ a ≤ 7) ∧ (0 ≤ b ∧ b ≤ 7) ∧ (0 ≤ d ∧ d ≤ 7)) (hnv : nv ≤ 3) (hv : 0 ≤ v ∧ v < nv) : vl (vls nv a b d) v = vl (64 * a + 8 * b + d) v := by
  obtain rfl | rfl | rfl : nv = 1 ∨ nv = 2 ∨ nv = 3 := by omega
  · obtain rfl : v = 0 := by omega
    show (64 * a + 0 + 0) / 64 % 8 = (64 * a + 8 * b + d) / 64 % 8
    omega
  · obtain rfl | rfl : v = 0 ∨ v = 1 := by omega
    · show (64 * a + 8 * b + 0) / 64 % 8 = (64 * a + 8 * b + d) / 64 % 8
      omega
    · show (64 * a + 8 * b + 0) / 8 % 8 = (64 * a + 8 * b + d) / 8 % 8
      omega
  · rfl
theorem so_vls {c : Int → Int → Int} {g nv a b d : Int} (h : (0 ≤ a ∧ a ≤ 7) ∧ (0 ≤ b ∧ b ≤ 7) ∧ (0 ≤ d ∧ d ≤ 7)) (hnv : nv ≤ 3) (hc : cOK c g nv) : soB c g (vls nv a b d) = soB c g (64 * a + 8 * b + d) := by
  obtain ⟨h1, h0, h2, h3⟩ := hc
  unfold soB
  rw [vl_vls h hnv h1]
  by_cases hk : 2 ≤ c g 0
  · rw [vl_vls h hnv ⟨h2.1, h3 hk⟩]
  · unfold sB
    refine decide_eq_decide.mpr ?_
    omega
section MC
variable {r : Bool × Bool} {y : Bool} {w : mm_M}
theorem ev_c_lookedAll (h : 0 ≤ w 32 0 0 ∧ w 32 0 0 ≤ 8) (hl : ∀ p, 0 ≤ p → p < w 32 0 0 → 0 ≤ w 42 0 p ∧ w 42 0 p < 256) : mm_Ev K_X9_lookedAtInAll (0, 0) [.inr (some (21, 0))] (PH r y) w (mm_pe (some (.inl (tot (w 42 0) (w 32 0 0).toNat))) (PH r y) w) := by
  refine ev_intro ok_X9_lookedAtInAll mo_X9_lookedAtInAll (Nat.le_of_ble_eq_true rfl) (fun hrg has => ?_)
  refine k_gp rfl rfl trivial ?_
  refine mm_loop (σ := Unit) (w 32 0 0) (fun k _ => 0 ≤ k ∧ k ≤ w 32 0 0 ∧ 0 ≤ tot (w 42 0) k.toNat ∧ tot (w 42 0) k.toNat ≤ 8 * k) (fun k _ => mm_Wk K_X9_lookedAtInAll (0, 0) 4 [some (.inr (some (21, 0))), some (.inl (tot (w 42 0) k.toNat)), some (.inl k)] [] (PH r y) w (mm_pe (some (.inl (tot (w 42 0) (w 32 0 0).toNat))) (PH r y) w)) ?_ ?_ 0 () ⟨by omega, by omega, Int.le_refl 0, Int.le_refl 0⟩
  · rintro k - q1 ⟨q2, q3, q4, q5⟩ ih
    have hb := hl k q2 q1
    have hp8 := pop8_in (w 42 0 k) 8
    have ht : tot (w 42 0) (k + 1).toNat = tot (w 42 0) k.toNat + pop8 (w 42 0 k) 8 := by
      rw [show (k + 1).toNat = k.toNat + 1 by omega]
      show _ + pop8 (w 42 0 ((k.toNat : Nat) : Int)) 8 = _
      rw [show ((k.toNat : Nat) : Int) = k by omega]
    refine k_gp rfl rfl trivial ?_
    refine k_brf rfl (by omega) ?_
    refine k_gp rfl rfl (by simp only [true_and, mm_fits]; omega) ?_
    refine k_callp rfl (ev_bitCount hb) rfl rfl rfl (by decide) ?_
    refine k_gp rfl rfl (by simp only [true_and, mm_fits]; omega) ?_
    rw [← ht]
    exact ih () ⟨by omega, by omega, by omega, by omega⟩
  · rintro k - q1 ⟨q2, q3, q4, q5⟩
    have : k = w 32 0 0 := by omega
    subst this
    refine k_gp rfl rfl trivial ?_
    refine k_brt rfl (by omega) ?_
    refine k_gp rfl rfl trivial ?_
    exact k_ret rfl trivial ⟨rfl, rfl, rfl⟩
end MC
