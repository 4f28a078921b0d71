/-! ===== the class: programs, history ===== -/
/-- T of all edges, as bits -/
def WA (e : Int → Int → Int) (ne : Int) : Int := ((bts (fun x : Nat => decide (e x 3 = 1)) ne.toNat : Nat) : Int)
def stW (w : mm_M) (n bits : Int) : mm_M := fun g j k => if g = 38 ∧ k = 3 ∧ 0 ≤ j ∧ j < n then bits / ((2 ^ j.toNat : Nat) : Int) % 2 else w g j k
def hkW (w : mm_M) (v : Int) : mm_M := mm_up (mm_up (mm_up (mm_cp w 42 0 0 45 (w 43 0 3) 0 8) 46 0 (w 43 0 3) v) 43 0 3 ((w 43 0 3 + 1) % 6)) 43 0 2 (if 6 < w 43 0 2 + 1 then 6 else w 43 0 2 + 1)
def tbW (w : mm_M) : mm_M := mm_cp (mm_up (mm_up w 43 0 3 ((w 43 0 3 + 6 - 1) % 6)) 43 0 2 (w 43 0 2 - 1)) 45 ((w 43 0 3 + 6 - 1) % 6) 0 42 0 0 8
theorem stW_0 {w : mm_M} {bits : Int} : stW w 0 bits = w := by
  funext g j k
  exact if_neg (fun q => by omega)
theorem stW_s {w : mm_M} {i bits : Int} (hi : 0 ≤ i) : mm_up (stW w i bits) 38 i 3 (bits / ((2 ^ i.toNat : Nat) : Int) % 2) = stW w (i + 1) bits := by
  funext g j k
  unfold mm_up stW
  by_cases h : g = 38 ∧ j = i ∧ k = 3
  · rw [if_pos h, if_pos ⟨h.1, h.2.2, by omega, by omega⟩, h.2.1]
  · rw [if_neg h]
    by_cases h2 : g = 38 ∧ k = 3 ∧ 0 ≤ j ∧ j < i
    · rw [if_pos h2, if_pos ⟨h2.1, h2.2.1, h2.2.2.1, by omega⟩]
    · rw [if_neg h2, if_neg (fun q => h2 ⟨q.1, q.2.1, q.2.2.1, by
        have : j ≠ i := fun z => h ⟨q.1, z, q.2.1⟩
        omega⟩)]
theorem cp_g {w : mm_M} {g0 g1 g : Nat} {j0 sp j1 dp n j k : Int} (h : Nat.beq g g1 = false) : mm_cp w g0 j0 sp g1 j1 dp n g j k = w g j k := by
  unfold mm_cp
  refine if_neg fun q => ?_
  rw [q.1, Nat.beq_refl] at h
  cases h
theorem cp_j {w : mm_M} {g0 g1 : Nat} {j0 sp j1 dp n j k : Int} (h : j ≠ j1) : mm_cp w g0 j0 sp g1 j1 dp n g1 j k = w g1 j k := by
  unfold mm_cp
  exact if_neg fun q => h q.2.1
theorem cp_in {w : mm_M} {g0 g1 : Nat} {j0 sp j1 dp n k : Int} (h : dp ≤ k ∧ k < dp + n) : mm_cp w g0 j0 sp g1 j1 dp n g1 j1 k = w g0 j0 (sp + (k - dp)) := by
  unfold mm_cp
  exact if_pos ⟨rfl, rfl, h.1, h.2⟩
theorem sm_cp {L : List (Nat × Option Int)} {w w' : mm_M} {g0 g1 : Nat} {j0 sp j1 dp n : Int} (h : sm L w w') (hm : (g1, none) ∈ L) : sm L w (mm_cp w' g0 j0 sp g1 j1 dp n) := by
  intro g' j' k' hf
  rw [← h g' j' k' hf]
  unfold mm_cp
  refine if_neg fun q => ?_
  unfold frB at hf
  rw [List.all_eq_true] at hf
  have := hf _ hm
  rw [q.1] at this
  simp [Nat.beq_refl] at this
section MC
variable {r : Bool × Bool} {y : Bool} {w : mm_M} {np trap nv nc ne : Int} {c e : Int → Int → Int} {f : Int → Int}
theorem ev_c_wants (hO : PO np trap nv nc ne c e) (hP : PC w np trap nv nc ne c e f) : mm_Ev K_X5_wants (0, 0) [.inr (some (32, 0))] (PH r y) w (mm_pe (some (.inl (WA e ne))) (PH r y) w) := by
  refine ev_intro ok_X5_wants mo_X5_wants (Nat.le_of_ble_eq_true rfl) (fun hrg has => ?_)
  obtain ⟨⟨p0, p1, p2, p3, p4⟩, -, -, hm⟩ := hP
  have hne := hO.2.2.2.2.1
  refine k_gp rfl rfl trivial ?_
  refine mm_loop (σ := Int) ne (fun x s => (0 ≤ x ∧ x ≤ ne) ∧ s = ((bts (fun x : Nat => decide (e x 3 = 1)) x.toNat : Nat) : Int)) (fun x s => mm_Wk K_X5_wants (0, 0) 4 [some (.inr (some (32, 0))), some (.inl s), some (.inl x)] [] (PH r y) w (mm_pe (some (.inl (WA e ne))) (PH r y) w)) ?_ ?_ 0 0 ⟨by omega, rfl⟩
  · intro x s h1 h2 ih
    obtain ⟨h2, h3⟩ := h2
    have m3 := hm x 3 h2.1 h1 (by decide) (by decide)
    have hE := (hO.2.2.2.2.2.2 x h2.1 h1).2.2.2.1
    have e1 : ((x.toNat : Nat) : Int) = x := by omega
    have hst := bts_step (f := fun x : Nat => decide (e x 3 = 1)) (v := mm_shl (e x 3) x) (by omega) h3 (by
      simp only [e1, decide_eq_true_eq]
      by_cases q : e x 3 = 1
      · rw [if_pos q, q, shl1 (by omega)]
      · rw [if_neg q, show e x 3 = 0 by omega]
        have := (show ∀ k : Fin 31, mm_shl 0 ((k.val : Nat) : Int) = 0 by decide +kernel) ⟨x.toNat, by omega⟩
        rw [show ((((⟨x.toNat, by omega⟩ : Fin 31)).val : Nat) : Int) = x from e1] at this
        exact this)
    refine k_gp rfl rfl trivial ?_
    rw [p4]
    refine k_brf rfl (by omega) ?_
    refine k_gp rfl rfl (by simp only [true_and, mm_fits]; omega) ?_
    rw [m3, hst]
    exact ih _ ⟨by omega, rfl⟩
  · intro x s h1 h2
    obtain ⟨h2, h3⟩ := h2
    have : x = ne := by omega
    subst this
    refine k_gp rfl rfl trivial ?_
    rw [p4]
    refine k_brt rfl (by omega) ?_
    refine k_gp rfl rfl trivial ?_
    rw [h3]
    exact k_ret rfl trivial ⟨rfl, rfl, rfl⟩
theorem ev_c_setWants {bits : Int} (hb : 0 ≤ bits ∧ bits < 2147483648) (hn : 0 ≤ w 32 0 4 ∧ w 32 0 4 ≤ 14) : mm_Ev K_X5_setWants (0, 0) [.inr (some (32, 0)), .inl bits] (PH r y) w (mm_pe none (PH r y) (stW w (w 32 0 4) bits)) := by
  refine ev_intro ok_X5_setWants mo_X5_setWants (Nat.le_of_ble_eq_true rfl) (fun hrg has => ?_)
  refine k_gp rfl rfl trivial ?_
  refine mm_loop (σ := mm_M) (w 32 0 4) (fun x w1 => (0 ≤ x ∧ x ≤ w 32 0 4) ∧ w1 = stW w x bits) (fun x w1 => mm_Wk K_X5_setWants (0, 0) 2 [some (.inr (some (32, 0))), some (.inl bits), some (.inl x)] [] (PH r y) w1 (mm_pe none (PH r y) (stW w (w 32 0 4) bits))) ?_ ?_ 0 w ⟨by omega, stW_0.symm⟩
  · intro x w1 h1 h2 ih
    obtain ⟨h2, rfl⟩ := h2
    have e4 : stW w x bits 32 0 4 = w 32 0 4 := if_neg (fun q => by omega)
    refine k_gp rfl rfl trivial ?_
    rw [e4]
    refine k_brf rfl (by omega) ?_
    refine k_gp rfl rfl (by simp only [true_and, mm_fits]; omega) ?_
    rw [hb_eq hb (by omega)]
    exact ih _ ⟨by omega, stW_s h2.1⟩
  · intro x w1 h1 h2
    obtain ⟨h2, rfl⟩ := h2
    have e4 : stW w x bits 32 0 4 = w 32 0 4 := if_neg (fun q => by omega)
    refine k_gp rfl rfl trivial ?_
    rw [e4]
    refine k_brt rfl (by omega) ?_
    have : x = w 32 0 4 := by omega
    rw [this]
    exact k_ret rfl trivial ⟨rfl, rfl, rfl⟩
theorem ev_c_hsize : mm_Ev K_X0_size (0, 0) [.inr (some (43, 0))] (PH r y) w (mm_pe (some (.inl (w 43 0 2))) (PH r y) w) := by
  refine ev_intro ok_X0_size mo_X0_size (Nat.le_of_ble_eq_true rfl) (fun hrg has => ?_)
  repeat' (first
    | refine k_brt rfl (by decide) ?_
    | refine k_brf rfl (by decide) ?_
    | refine k_brz rfl (fun _ => ?_) (fun _ => ?_)
    | refine k_brn rfl (fun _ => ?_) (fun _ => ?_)
    | refine k_br rfl (fun _ => ?_) (fun _ => ?_)
    | refine k_ret rfl ?_ ⟨?_, rfl, rfl⟩
    | refine k_ts rfl rfl ?_ (fun _ => ?_)
    | refine mm_tsc (fun _ => ?_) ?_
    | exact mm_tsn
    | refine k_gp rfl rfl ?_ ?_)
  all_goals (first | trivial | omega | (simp only [true_and, mm_fits]; omega) | (refine congrArg some (congrArg Sum.inl ?_); first | rfl | (rw [ib_t (by omega)]) | (rw [ib_f (by omega)]) | omega))
theorem ev_c_hempty : mm_Ev K_X0_empty (0, 0) [.inr (some (43, 0))] (PH r y) w (mm_pe none (PH r y) (mm_up w 43 0 2 0)) := by
  refine ev_intro ok_X0_empty mo_X0_empty (Nat.le_of_ble_eq_true rfl) (fun hrg has => ?_)
  repeat' (first
    | refine k_brt rfl (by decide) ?_
    | refine k_brf rfl (by decide) ?_
    | refine k_brz rfl (fun _ => ?_) (fun _ => ?_)
    | refine k_brn rfl (fun _ => ?_) (fun _ => ?_)
    | refine k_br rfl (fun _ => ?_) (fun _ => ?_)
    | refine k_ret rfl ?_ ⟨?_, rfl, rfl⟩
    | refine k_ts rfl rfl ?_ (fun _ => ?_)
    | refine mm_tsc (fun _ => ?_) ?_
    | exact mm_tsn
    | refine k_gp rfl rfl ?_ ?_)
  all_goals (first | trivial | omega | (simp only [true_and, mm_fits]; omega) | (refine congrArg some (congrArg Sum.inl ?_); first | rfl | (rw [ib_t (by omega)]) | (rw [ib_f (by omega)]) | omega))
theorem ev_c_keep {v : Int} (hn : 0 ≤ w 43 0 3 ∧ w 43 0 3 < 6) (hk : 0 ≤ w 43 0 2 ∧ w 43 0 2 ≤ 6) : mm_Ev K_X0_keep (0, 0) [.inr (some (43, 0)), .inr (some (42, 0)), .inl v] (PH r y) w (mm_pe none (PH r y) (hkW w v)) := by
  refine ev_intro ok_X0_keep mo_X0_keep (Nat.le_of_ble_eq_true rfl) (fun hrg has => ?_)
  refine k_gp rfl rfl (by simp only [true_and, mm_fits]; omega) ?_
  refine k_copy rfl (tb_in 495 (by decide +kernel) (by decide +kernel)) (tb_in 327 (by decide +kernel) (by decide +kernel)) (tb_in 326 (by decide +kernel) (by decide +kernel)) (tb_in 78 (by decide +kernel) (by decide +kernel)) rfl rfl ⟨by decide, by decide, by decide⟩ (by decide) (by decide +kernel) ?_
  have e3 : mm_cp w 42 0 0 45 (w 43 0 3) 0 8 43 0 3 = w 43 0 3 := cp_g rfl
  have e2 : mm_cp w 42 0 0 45 (w 43 0 3) 0 8 43 0 2 = w 43 0 2 := cp_g rfl
  have f3 : ∀ q, mm_up (mm_cp w 42 0 0 45 (w 43 0 3) 0 8) 46 0 q v 43 0 3 = w 43 0 3 := fun q => (up_g rfl).trans e3
  have f2 : ∀ q q2, mm_up (mm_up (mm_cp w 42 0 0 45 (w 43 0 3) 0 8) 46 0 q v) 43 0 3 q2 43 0 2 = w 43 0 2 := fun q q2 => (up_k (by decide)).trans ((up_g rfl).trans e2)
  refine k_gp rfl rfl (by simp only [true_and, mm_fits, e3, f3, f2]; omega) ?_
  rw [e3, f3, f2]
  refine k_mmin rfl (tb_in 496 (by decide +kernel) (by decide +kernel)) (tb_in 497 (by decide +kernel) (by decide +kernel)) (tb_in 81 (by decide +kernel) (by decide +kernel)) (tb_in 498 (by decide +kernel) (by decide +kernel)) (by decide) (by decide) ?_
  refine k_gp rfl rfl trivial ?_
  exact k_ret rfl trivial ⟨rfl, rfl, rfl⟩
theorem ev_c_takeBack (hn : 0 ≤ w 43 0 3 ∧ w 43 0 3 < 6) (hk : 0 ≤ w 43 0 2 ∧ w 43 0 2 ≤ 6) : mm_Ev K_X0_takeBack (0, 0) [.inr (some (43, 0)), .inr (some (42, 0))] (PH r y) w (mm_pe (some (.inl (w 46 0 ((w 43 0 3 + 6 - 1) % 6)))) (PH r y) (tbW w)) := by
  refine ev_intro ok_X0_takeBack mo_X0_takeBack (Nat.le_of_ble_eq_true rfl) (fun hrg has => ?_)
  have f2 : ∀ q, mm_up w 43 0 3 q 43 0 2 = w 43 0 2 := fun q => up_k (by decide)
  have f3 : ∀ q q2, mm_up (mm_up w 43 0 3 q) 43 0 2 q2 43 0 3 = q := fun q q2 => (up_k (by decide)).trans up_s
  refine k_gp rfl rfl (by simp only [true_and, mm_fits, f3, f2]; omega) ?_
  rw [f2, f3]
  refine k_copy rfl (tb_in 495 (by decide +kernel) (by decide +kernel)) (tb_in 327 (by decide +kernel) (by decide +kernel)) (tb_in 326 (by decide +kernel) (by decide +kernel)) (tb_in 78 (by decide +kernel) (by decide +kernel)) rfl rfl ⟨by decide, by decide, by decide⟩ (by decide) (by decide +kernel) ?_
  have e3 : ∀ q q2 q3, mm_cp (mm_up (mm_up w 43 0 3 q) 43 0 2 q2) 45 q3 0 42 0 0 8 43 0 3 = q := fun q q2 q3 => (cp_g rfl).trans (f3 q q2)
  have e46 : ∀ q q2 q3 k, mm_cp (mm_up (mm_up w 43 0 3 q) 43 0 2 q2) 45 q3 0 42 0 0 8 46 0 k = w 46 0 k := fun q q2 q3 k => (cp_g rfl).trans ((up_g rfl).trans (up_g rfl))
  refine k_gp rfl rfl (by simp only [true_and, mm_fits, e3]; omega) ?_
  rw [e3, e46]
  exact k_ret rfl trivial ⟨rfl, rfl, rfl⟩
end MC
