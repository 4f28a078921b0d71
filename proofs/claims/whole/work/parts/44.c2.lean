/-! ===== the class: Arrays.fill, NumberSet (written by gen43.py) ===== -/
/-- arrays that are filled -/
def FLL (g : Nat) (N : Int) : Prop := (g = 42 ∧ N = 8) ∨ (g = 52 ∧ N = 8) ∨ (g = 53 ∧ N = 8) ∨ (g = 54 ∧ N = 8) ∨ (g = 59 ∧ N = 14) ∨ (g = 61 ∧ N = 257) ∨ (g = 51 ∧ N = 128) ∨ (g = 63 ∧ N = 8) ∨ (g = 65 ∧ N = 8) ∨ (g = 70 ∧ N = 8) ∨ (g = 72 ∧ N = 8) ∨ (g = 76 ∧ N = 16) ∨ (g = 81 ∧ N = 64) ∨ (g = 83 ∧ N = 8) ∨ (g = 85 ∧ N = 8)
/-- sets of numbers, and their words -/
def NSL (g : Nat) (N : Int) : Prop := (g = 50 ∧ N = 128) ∨ (g = 62 ∧ N = 8) ∨ (g = 64 ∧ N = 8) ∨ (g = 69 ∧ N = 8) ∨ (g = 71 ∧ N = 8) ∨ (g = 75 ∧ N = 16) ∨ (g = 80 ∧ N = 64) ∨ (g = 82 ∧ N = 8) ∨ (g = 84 ∧ N = 8)
theorem NSL_F {g : Nat} {N : Int} (h : NSL g N) : FLL (g + 1) N := by
  unfold FLL
  rcases h with ⟨rfl, rfl⟩ | ⟨rfl, rfl⟩ | ⟨rfl, rfl⟩ | ⟨rfl, rfl⟩ | ⟨rfl, rfl⟩ | ⟨rfl, rfl⟩ | ⟨rfl, rfl⟩ | ⟨rfl, rfl⟩ | ⟨rfl, rfl⟩ <;> decide
section MC
variable {r : Bool × Bool} {y : Bool} {w : mm_M}
theorem ev_fill_42 {v : Int} : mm_Ev K_J7_fill (0, 0) [.inr (some (42, 0)), .inl v] (PH r y) w (mm_pe none (PH r y) (arrw w 42 0 8 (fun _ => v))) := by
  refine ev_intro ok_J7_fill mo_J7_fill (Nat.le_of_ble_eq_true rfl) (fun hrg has => ?_)
  refine k_gp rfl rfl trivial ?_
  refine mm_loop (σ := mm_M) 8 (fun i w1 => (0 ≤ i ∧ i ≤ 8) ∧ w1 = arrw w 42 0 i (fun _ => v)) (fun i w1 => mm_Wk K_J7_fill (0, 0) 5 [some (.inr (some (42, 0))), some (.inl v), some (.inl i), some (.inl 8)] [] (PH r y) w1 (mm_pe none (PH r y) (arrw w 42 0 8 (fun _ => v)))) ?_ ?_ 0 w ⟨by omega, arrw_0.symm⟩
  · intro i w1 h1 h2 ih
    obtain ⟨h2, rfl⟩ := h2
    refine k_gp rfl rfl trivial ?_
    refine k_brf rfl (by omega) ?_
    refine k_gp rfl rfl (by simp only [true_and, mm_fits]; omega) ?_
    exact ih _ ⟨by omega, arrw_s (by omega) (by omega) rfl⟩
  · intro i w1 h1 h2
    obtain ⟨h2, rfl⟩ := h2
    have hi : i = 8 := by omega
    subst hi
    refine k_gp rfl rfl trivial ?_
    refine k_brt rfl (by omega) ?_
    exact k_ret rfl trivial ⟨rfl, rfl, rfl⟩
theorem ev_fill_52 {v : Int} : mm_Ev K_J7_fill (0, 0) [.inr (some (52, 0)), .inl v] (PH r y) w (mm_pe none (PH r y) (arrw w 52 0 8 (fun _ => v))) := by
  refine ev_intro ok_J7_fill mo_J7_fill (Nat.le_of_ble_eq_true rfl) (fun hrg has => ?_)
  refine k_gp rfl rfl trivial ?_
  refine mm_loop (σ := mm_M) 8 (fun i w1 => (0 ≤ i ∧ i ≤ 8) ∧ w1 = arrw w 52 0 i (fun _ => v)) (fun i w1 => mm_Wk K_J7_fill (0, 0) 5 [some (.inr (some (52, 0))), some (.inl v), some (.inl i), some (.inl 8)] [] (PH r y) w1 (mm_pe none (PH r y) (arrw w 52 0 8 (fun _ => v)))) ?_ ?_ 0 w ⟨by omega, arrw_0.symm⟩
  · intro i w1 h1 h2 ih
    obtain ⟨h2, rfl⟩ := h2
    refine k_gp rfl rfl trivial ?_
    refine k_brf rfl (by omega) ?_
    refine k_gp rfl rfl (by simp only [true_and, mm_fits]; omega) ?_
    exact ih _ ⟨by omega, arrw_s (by omega) (by omega) rfl⟩
  · intro i w1 h1 h2
    obtain ⟨h2, rfl⟩ := h2
    have hi : i = 8 := by omega
    subst hi
    refine k_gp rfl rfl trivial ?_
    refine k_brt rfl (by omega) ?_
    exact k_ret rfl trivial ⟨rfl, rfl, rfl⟩
theorem ev_fill_53 {v : Int} : mm_Ev K_J7_fill (0, 0) [.inr (some (53, 0)), .inl v] (PH r y) w (mm_pe none (PH r y) (arrw w 53 0 8 (fun _ => v))) := by
  refine ev_intro ok_J7_fill mo_J7_fill (Nat.le_of_ble_eq_true rfl) (fun hrg has => ?_)
  refine k_gp rfl rfl trivial ?_
  refine mm_loop (σ := mm_M) 8 (fun i w1 => (0 ≤ i ∧ i ≤ 8) ∧ w1 = arrw w 53 0 i (fun _ => v)) (fun i w1 => mm_Wk K_J7_fill (0, 0) 5 [some (.inr (some (53, 0))), some (.inl v), some (.inl i), some (.inl 8)] [] (PH r y) w1 (mm_pe none (PH r y) (arrw w 53 0 8 (fun _ => v)))) ?_ ?_ 0 w ⟨by omega, arrw_0.symm⟩
  · intro i w1 h1 h2 ih
    obtain ⟨h2, rfl⟩ := h2
    refine k_gp rfl rfl trivial ?_
    refine k_brf rfl (by omega) ?_
    refine k_gp rfl rfl (by simp only [true_and, mm_fits]; omega) ?_
    exact ih _ ⟨by omega, arrw_s (by omega) (by omega) rfl⟩
  · intro i w1 h1 h2
    obtain ⟨h2, rfl⟩ := h2
    have hi : i = 8 := by omega
    subst hi
    refine k_gp rfl rfl trivial ?_
    refine k_brt rfl (by omega) ?_
    exact k_ret rfl trivial ⟨rfl, rfl, rfl⟩
theorem ev_fill_54 {v : Int} : mm_Ev K_J7_fill (0, 0) [.inr (some (54, 0)), .inl v] (PH r y) w (mm_pe none (PH r y) (arrw w 54 0 8 (fun _ => v))) := by
  refine ev_intro ok_J7_fill mo_J7_fill (Nat.le_of_ble_eq_true rfl) (fun hrg has => ?_)
  refine k_gp rfl rfl trivial ?_
  refine mm_loop (σ := mm_M) 8 (fun i w1 => (0 ≤ i ∧ i ≤ 8) ∧ w1 = arrw w 54 0 i (fun _ => v)) (fun i w1 => mm_Wk K_J7_fill (0, 0) 5 [some (.inr (some (54, 0))), some (.inl v), some (.inl i), some (.inl 8)] [] (PH r y) w1 (mm_pe none (PH r y) (arrw w 54 0 8 (fun _ => v)))) ?_ ?_ 0 w ⟨by omega, arrw_0.symm⟩
  · intro i w1 h1 h2 ih
    obtain ⟨h2, rfl⟩ := h2
    refine k_gp rfl rfl trivial ?_
    refine k_brf rfl (by omega) ?_
    refine k_gp rfl rfl (by simp only [true_and, mm_fits]; omega) ?_
    exact ih _ ⟨by omega, arrw_s (by omega) (by omega) rfl⟩
  · intro i w1 h1 h2
    obtain ⟨h2, rfl⟩ := h2
    have hi : i = 8 := by omega
    subst hi
    refine k_gp rfl rfl trivial ?_
    refine k_brt rfl (by omega) ?_
    exact k_ret rfl trivial ⟨rfl, rfl, rfl⟩
theorem ev_fill_59 {v : Int} : mm_Ev K_J7_fill (0, 0) [.inr (some (59, 0)), .inl v] (PH r y) w (mm_pe none (PH r y) (arrw w 59 0 14 (fun _ => v))) := by
  refine ev_intro ok_J7_fill mo_J7_fill (Nat.le_of_ble_eq_true rfl) (fun hrg has => ?_)
  refine k_gp rfl rfl trivial ?_
  refine mm_loop (σ := mm_M) 14 (fun i w1 => (0 ≤ i ∧ i ≤ 14) ∧ w1 = arrw w 59 0 i (fun _ => v)) (fun i w1 => mm_Wk K_J7_fill (0, 0) 5 [some (.inr (some (59, 0))), some (.inl v), some (.inl i), some (.inl 14)] [] (PH r y) w1 (mm_pe none (PH r y) (arrw w 59 0 14 (fun _ => v)))) ?_ ?_ 0 w ⟨by omega, arrw_0.symm⟩
  · intro i w1 h1 h2 ih
    obtain ⟨h2, rfl⟩ := h2
    refine k_gp rfl rfl trivial ?_
    refine k_brf rfl (by omega) ?_
    refine k_gp rfl rfl (by simp only [true_and, mm_fits]; omega) ?_
    exact ih _ ⟨by omega, arrw_s (by omega) (by omega) rfl⟩
  · intro i w1 h1 h2
    obtain ⟨h2, rfl⟩ := h2
    have hi : i = 14 := by omega
    subst hi
    refine k_gp rfl rfl trivial ?_
    refine k_brt rfl (by omega) ?_
    exact k_ret rfl trivial ⟨rfl, rfl, rfl⟩
theorem ev_fill_61 {v : Int} : mm_Ev K_J7_fill (0, 0) [.inr (some (61, 0)), .inl v] (PH r y) w (mm_pe none (PH r y) (arrw w 61 0 257 (fun _ => v))) := by
  refine ev_intro ok_J7_fill mo_J7_fill (Nat.le_of_ble_eq_true rfl) (fun hrg has => ?_)
  refine k_gp rfl rfl trivial ?_
  refine mm_loop (σ := mm_M) 257 (fun i w1 => (0 ≤ i ∧ i ≤ 257) ∧ w1 = arrw w 61 0 i (fun _ => v)) (fun i w1 => mm_Wk K_J7_fill (0, 0) 5 [some (.inr (some (61, 0))), some (.inl v), some (.inl i), some (.inl 257)] [] (PH r y) w1 (mm_pe none (PH r y) (arrw w 61 0 257 (fun _ => v)))) ?_ ?_ 0 w ⟨by omega, arrw_0.symm⟩
  · intro i w1 h1 h2 ih
    obtain ⟨h2, rfl⟩ := h2
    refine k_gp rfl rfl trivial ?_
    refine k_brf rfl (by omega) ?_
    refine k_gp rfl rfl (by simp only [true_and, mm_fits]; omega) ?_
    exact ih _ ⟨by omega, arrw_s (by omega) (by omega) rfl⟩
  · intro i w1 h1 h2
    obtain ⟨h2, rfl⟩ := h2
    have hi : i = 257 := by omega
    subst hi
    refine k_gp rfl rfl trivial ?_
    refine k_brt rfl (by omega) ?_
    exact k_ret rfl trivial ⟨rfl, rfl, rfl⟩
theorem ev_fill_51 {v : Int} : mm_Ev K_J7_fill (0, 0) [.inr (some (51, 0)), .inl v] (PH r y) w (mm_pe none (PH r y) (arrw w 51 0 128 (fun _ => v))) := by
  refine ev_intro ok_J7_fill mo_J7_fill (Nat.le_of_ble_eq_true rfl) (fun hrg has => ?_)
  refine k_gp rfl rfl trivial ?_
  refine mm_loop (σ := mm_M) 128 (fun i w1 => (0 ≤ i ∧ i ≤ 128) ∧ w1 = arrw w 51 0 i (fun _ => v)) (fun i w1 => mm_Wk K_J7_fill (0, 0) 5 [some (.inr (some (51, 0))), some (.inl v), some (.inl i), some (.inl 128)] [] (PH r y) w1 (mm_pe none (PH r y) (arrw w 51 0 128 (fun _ => v)))) ?_ ?_ 0 w ⟨by omega, arrw_0.symm⟩
  · intro i w1 h1 h2 ih
    obtain ⟨h2, rfl⟩ := h2
    refine k_gp rfl rfl trivial ?_
    refine k_brf rfl (by omega) ?_
    refine k_gp rfl rfl (by simp only [true_and, mm_fits]; omega) ?_
    exact ih _ ⟨by omega, arrw_s (by omega) (by omega) rfl⟩
  · intro i w1 h1 h2
    obtain ⟨h2, rfl⟩ := h2
    have hi : i = 128 := by omega
    subst hi
    refine k_gp rfl rfl trivial ?_
    refine k_brt rfl (by omega) ?_
    exact k_ret rfl trivial ⟨rfl, rfl, rfl⟩
theorem ev_fill_63 {v : Int} : mm_Ev K_J7_fill (0, 0) [.inr (some (63, 0)), .inl v] (PH r y) w (mm_pe none (PH r y) (arrw w 63 0 8 (fun _ => v))) := by
  refine ev_intro ok_J7_fill mo_J7_fill (Nat.le_of_ble_eq_true rfl) (fun hrg has => ?_)
  refine k_gp rfl rfl trivial ?_
  refine mm_loop (σ := mm_M) 8 (fun i w1 => (0 ≤ i ∧ i ≤ 8) ∧ w1 = arrw w 63 0 i (fun _ => v)) (fun i w1 => mm_Wk K_J7_fill (0, 0) 5 [some (.inr (some (63, 0))), some (.inl v), some (.inl i), some (.inl 8)] [] (PH r y) w1 (mm_pe none (PH r y) (arrw w 63 0 8 (fun _ => v)))) ?_ ?_ 0 w ⟨by omega, arrw_0.symm⟩
  · intro i w1 h1 h2 ih
    obtain ⟨h2, rfl⟩ := h2
    refine k_gp rfl rfl trivial ?_
    refine k_brf rfl (by omega) ?_
    refine k_gp rfl rfl (by simp only [true_and, mm_fits]; omega) ?_
    exact ih _ ⟨by omega, arrw_s (by omega) (by omega) rfl⟩
  · intro i w1 h1 h2
    obtain ⟨h2, rfl⟩ := h2
    have hi : i = 8 := by omega
    subst hi
    refine k_gp rfl rfl trivial ?_
    refine k_brt rfl (by omega) ?_
    exact k_ret rfl trivial ⟨rfl, rfl, rfl⟩
theorem ev_fill_65 {v : Int} : mm_Ev K_J7_fill (0, 0) [.inr (some (65, 0)), .inl v] (PH r y) w (mm_pe none (PH r y) (arrw w 65 0 8 (fun _ => v))) := by
  refine ev_intro ok_J7_fill mo_J7_fill (Nat.le_of_ble_eq_true rfl) (fun hrg has => ?_)
  refine k_gp rfl rfl trivial ?_
  refine mm_loop (σ := mm_M) 8 (fun i w1 => (0 ≤ i ∧ i ≤ 8) ∧ w1 = arrw w 65 0 i (fun _ => v)) (fun i w1 => mm_Wk K_J7_fill (0, 0) 5 [some (.inr (some (65, 0))), some (.inl v), some (.inl i), some (.inl 8)] [] (PH r y) w1 (mm_pe none (PH r y) (arrw w 65 0 8 (fun _ => v)))) ?_ ?_ 0 w ⟨by omega, arrw_0.symm⟩
  · intro i w1 h1 h2 ih
    obtain ⟨h2, rfl⟩ := h2
    refine k_gp rfl rfl trivial ?_
    refine k_brf rfl (by omega) ?_
    refine k_gp rfl rfl (by simp only [true_and, mm_fits]; omega) ?_
    exact ih _ ⟨by omega, arrw_s (by omega) (by omega) rfl⟩
  · intro i w1 h1 h2
    obtain ⟨h2, rfl⟩ := h2
    have hi : i = 8 := by omega
    subst hi
    refine k_gp rfl rfl trivial ?_
    refine k_brt rfl (by omega) ?_
    exact k_ret rfl trivial ⟨rfl, rfl, rfl⟩
theorem ev_fill_70 {v : Int} : mm_Ev K_J7_fill (0, 0) [.inr (some (70, 0)), .inl v] (PH r y) w (mm_pe none (PH r y) (arrw w 70 0 8 (fun _ => v))) := by
  refine ev_intro ok_J7_fill mo_J7_fill (Nat.le_of_ble_eq_true rfl) (fun hrg has => ?_)
  refine k_gp rfl rfl trivial ?_
  refine mm_loop (σ := mm_M) 8 (fun i w1 => (0 ≤ i ∧ i ≤ 8) ∧ w1 = arrw w 70 0 i (fun _ => v)) (fun i w1 => mm_Wk K_J7_fill (0, 0) 5 [some (.inr (some (70, 0))), some (.inl v), some (.inl i), some (.inl 8)] [] (PH r y) w1 (mm_pe none (PH r y) (arrw w 70 0 8 (fun _ => v)))) ?_ ?_ 0 w ⟨by omega, arrw_0.symm⟩
  · intro i w1 h1 h2 ih
    obtain ⟨h2, rfl⟩ := h2
    refine k_gp rfl rfl trivial ?_
    refine k_brf rfl (by omega) ?_
    refine k_gp rfl rfl (by simp only [true_and, mm_fits]; omega) ?_
    exact ih _ ⟨by omega, arrw_s (by omega) (by omega) rfl⟩
  · intro i w1 h1 h2
    obtain ⟨h2, rfl⟩ := h2
    have hi : i = 8 := by omega
    subst hi
    refine k_gp rfl rfl trivial ?_
    refine k_brt rfl (by omega) ?_
    exact k_ret rfl trivial ⟨rfl, rfl, rfl⟩
theorem ev_fill_72 {v : Int} : mm_Ev K_J7_fill (0, 0) [.inr (some (72, 0)), .inl v] (PH r y) w (mm_pe none (PH r y) (arrw w 72 0 8 (fun _ => v))) := by
  refine ev_intro ok_J7_fill mo_J7_fill (Nat.le_of_ble_eq_true rfl) (fun hrg has => ?_)
  refine k_gp rfl rfl trivial ?_
  refine mm_loop (σ := mm_M) 8 (fun i w1 => (0 ≤ i ∧ i ≤ 8) ∧ w1 = arrw w 72 0 i (fun _ => v)) (fun i w1 => mm_Wk K_J7_fill (0, 0) 5 [some (.inr (some (72, 0))), some (.inl v), some (.inl i), some (.inl 8)] [] (PH r y) w1 (mm_pe none (PH r y) (arrw w 72 0 8 (fun _ => v)))) ?_ ?_ 0 w ⟨by omega, arrw_0.symm⟩
  · intro i w1 h1 h2 ih
    obtain ⟨h2, rfl⟩ := h2
    refine k_gp rfl rfl trivial ?_
    refine k_brf rfl (by omega) ?_
    refine k_gp rfl rfl (by simp only [true_and, mm_fits]; omega) ?_
    exact ih _ ⟨by omega, arrw_s (by omega) (by omega) rfl⟩
  · intro i w1 h1 h2
    obtain ⟨h2, rfl⟩ := h2
    have hi : i = 8 := by omega
    subst hi
    refine k_gp rfl rfl trivial ?_
    refine k_brt rfl (by omega) ?_
    exact k_ret rfl trivial ⟨rfl, rfl, rfl⟩
theorem ev_fill_76 {v : Int} : mm_Ev K_J7_fill (0, 0) [.inr (some (76, 0)), .inl v] (PH r y) w (mm_pe none (PH r y) (arrw w 76 0 16 (fun _ => v))) := by
  refine ev_intro ok_J7_fill mo_J7_fill (Nat.le_of_ble_eq_true rfl) (fun hrg has => ?_)
  refine k_gp rfl rfl trivial ?_
  refine mm_loop (σ := mm_M) 16 (fun i w1 => (0 ≤ i ∧ i ≤ 16) ∧ w1 = arrw w 76 0 i (fun _ => v)) (fun i w1 => mm_Wk K_J7_fill (0, 0) 5 [some (.inr (some (76, 0))), some (.inl v), some (.inl i), some (.inl 16)] [] (PH r y) w1 (mm_pe none (PH r y) (arrw w 76 0 16 (fun _ => v)))) ?_ ?_ 0 w ⟨by omega, arrw_0.symm⟩
  · intro i w1 h1 h2 ih
    obtain ⟨h2, rfl⟩ := h2
    refine k_gp rfl rfl trivial ?_
    refine k_brf rfl (by omega) ?_
    refine k_gp rfl rfl (by simp only [true_and, mm_fits]; omega) ?_
    exact ih _ ⟨by omega, arrw_s (by omega) (by omega) rfl⟩
  · intro i w1 h1 h2
    obtain ⟨h2, rfl⟩ := h2
    have hi : i = 16 := by omega
    subst hi
    refine k_gp rfl rfl trivial ?_
    refine k_brt rfl (by omega) ?_
    exact k_ret rfl trivial ⟨rfl, rfl, rfl⟩
theorem ev_fill_81 {v : Int} : mm_Ev K_J7_fill (0, 0) [.inr (some (81, 0)), .inl v] (PH r y) w (mm_pe none (PH r y) (arrw w 81 0 64 (fun _ => v))) := by
  refine ev_intro ok_J7_fill mo_J7_fill (Nat.le_of_ble_eq_true rfl) (fun hrg has => ?_)
  refine k_gp rfl rfl trivial ?_
  refine mm_loop (σ := mm_M) 64 (fun i w1 => (0 ≤ i ∧ i ≤ 64) ∧ w1 = arrw w 81 0 i (fun _ => v)) (fun i w1 => mm_Wk K_J7_fill (0, 0) 5 [some (.inr (some (81, 0))), some (.inl v), some (.inl i), some (.inl 64)] [] (PH r y) w1 (mm_pe none (PH r y) (arrw w 81 0 64 (fun _ => v)))) ?_ ?_ 0 w ⟨by omega, arrw_0.symm⟩
  · intro i w1 h1 h2 ih
    obtain ⟨h2, rfl⟩ := h2
    refine k_gp rfl rfl trivial ?_
    refine k_brf rfl (by omega) ?_
    refine k_gp rfl rfl (by simp only [true_and, mm_fits]; omega) ?_
    exact ih _ ⟨by omega, arrw_s (by omega) (by omega) rfl⟩
  · intro i w1 h1 h2
    obtain ⟨h2, rfl⟩ := h2
    have hi : i = 64 := by omega
    subst hi
    refine k_gp rfl rfl trivial ?_
    refine k_brt rfl (by omega) ?_
    exact k_ret rfl trivial ⟨rfl, rfl, rfl⟩
theorem ev_fill_83 {v : Int} : mm_Ev K_J7_fill (0, 0) [.inr (some (83, 0)), .inl v] (PH r y) w (mm_pe none (PH r y) (arrw w 83 0 8 (fun _ => v))) := by
  refine ev_intro ok_J7_fill mo_J7_fill (Nat.le_of_ble_eq_true rfl) (fun hrg has => ?_)
  refine k_gp rfl rfl trivial ?_
  refine mm_loop (σ := mm_M) 8 (fun i w1 => (0 ≤ i ∧ i ≤ 8) ∧ w1 = arrw w 83 0 i (fun _ => v)) (fun i w1 => mm_Wk K_J7_fill (0, 0) 5 [some (.inr (some (83, 0))), some (.inl v), some (.inl i), some (.inl 8)] [] (PH r y) w1 (mm_pe none (PH r y) (arrw w 83 0 8 (fun _ => v)))) ?_ ?_ 0 w ⟨by omega, arrw_0.symm⟩
  · intro i w1 h1 h2 ih
    obtain ⟨h2, rfl⟩ := h2
    refine k_gp rfl rfl trivial ?_
    refine k_brf rfl (by omega) ?_
    refine k_gp rfl rfl (by simp only [true_and, mm_fits]; omega) ?_
    exact ih _ ⟨by omega, arrw_s (by omega) (by omega) rfl⟩
  · intro i w1 h1 h2
    obtain ⟨h2, rfl⟩ := h2
    have hi : i = 8 := by omega
    subst hi
    refine k_gp rfl rfl trivial ?_
    refine k_brt rfl (by omega) ?_
    exact k_ret rfl trivial ⟨rfl, rfl, rfl⟩
theorem ev_fill_85 {v : Int} : mm_Ev K_J7_fill (0, 0) [.inr (some (85, 0)), .inl v] (PH r y) w (mm_pe none (PH r y) (arrw w 85 0 8 (fun _ => v))) := by
  refine ev_intro ok_J7_fill mo_J7_fill (Nat.le_of_ble_eq_true rfl) (fun hrg has => ?_)
  refine k_gp rfl rfl trivial ?_
  refine mm_loop (σ := mm_M) 8 (fun i w1 => (0 ≤ i ∧ i ≤ 8) ∧ w1 = arrw w 85 0 i (fun _ => v)) (fun i w1 => mm_Wk K_J7_fill (0, 0) 5 [some (.inr (some (85, 0))), some (.inl v), some (.inl i), some (.inl 8)] [] (PH r y) w1 (mm_pe none (PH r y) (arrw w 85 0 8 (fun _ => v)))) ?_ ?_ 0 w ⟨by omega, arrw_0.symm⟩
  · intro i w1 h1 h2 ih
    obtain ⟨h2, rfl⟩ := h2
    refine k_gp rfl rfl trivial ?_
    refine k_brf rfl (by omega) ?_
    refine k_gp rfl rfl (by simp only [true_and, mm_fits]; omega) ?_
    exact ih _ ⟨by omega, arrw_s (by omega) (by omega) rfl⟩
  · intro i w1 h1 h2
    obtain ⟨h2, rfl⟩ := h2
    have hi : i = 8 := by omega
    subst hi
    refine k_gp rfl rfl trivial ?_
    refine k_brt rfl (by omega) ?_
    exact k_ret rfl trivial ⟨rfl, rfl, rfl⟩
theorem ev_fill {g : Nat} {N v : Int} (hg : FLL g N) : mm_Ev K_J7_fill (0, 0) [.inr (some (g, 0)), .inl v] (PH r y) w (mm_pe none (PH r y) (arrw w g 0 N (fun _ => v))) := by
  rcases hg with ⟨rfl, rfl⟩ | ⟨rfl, rfl⟩ | ⟨rfl, rfl⟩ | ⟨rfl, rfl⟩ | ⟨rfl, rfl⟩ | ⟨rfl, rfl⟩ | ⟨rfl, rfl⟩ | ⟨rfl, rfl⟩ | ⟨rfl, rfl⟩ | ⟨rfl, rfl⟩ | ⟨rfl, rfl⟩ | ⟨rfl, rfl⟩ | ⟨rfl, rfl⟩ | ⟨rfl, rfl⟩ | ⟨rfl, rfl⟩
  · exact ev_fill_42
  · exact ev_fill_52
  · exact ev_fill_53
  · exact ev_fill_54
  · exact ev_fill_59
  · exact ev_fill_61
  · exact ev_fill_51
  · exact ev_fill_63
  · exact ev_fill_65
  · exact ev_fill_70
  · exact ev_fill_72
  · exact ev_fill_76
  · exact ev_fill_81
  · exact ev_fill_83
  · exact ev_fill_85
/-- a bit of a word -/
def wb (x : Int) (b : Nat) : Bool := (Int32.ofInt x).toBitVec.getLsbD b
/-- the number is in the set whose words are the group G -/
def nsB (w : mm_M) (G : Nat) (i : Int) : Bool := wb (w G 0 (i / 32)) (i % 32).toNat
/-- a number more -/
def nsA (w : mm_M) (G : Nat) (i : Int) : mm_M := mm_up w G 0 (i / 32) (mm_or (w G 0 (i / 32)) (mm_shl 1 (i % 32)))
theorem wb_t {x : Int} {b : Nat} (hb : b < 32) : mm_and (mm_shr x b) 1 = if wb x b = true then 1 else 0 := by
  unfold mm_and mm_shr wb
  rw [mm_i3]
  show (BitVec.sshiftRight (Int32.ofInt x).toBitVec ((Int32.ofInt (b : Int) &&& 31).toBitVec.smod 32).toNat &&& 1#32).toInt = _
  rw [bb_s b hb, BitVec.and_one_eq_setWidth_ofBool_getLsbD, BitVec.getLsbD_sshiftRight]
  rw [show (!decide (32 ≤ 0)) = true from rfl, Bool.true_and, if_pos (by omega), Nat.add_zero]
  cases (Int32.ofInt x).toBitVec.getLsbD b <;> decide
set_option maxRecDepth 100000 in
theorem wb_1 : ∀ b : Fin 32, ∀ c : Fin 32, (Int32.ofInt (mm_shl 1 ((b.val : Nat) : Int))).toBitVec.getLsbD c.val = decide (c = b) := by decide +kernel
theorem wb_or {x : Int} {b c : Nat} (hb : b < 32) (hc : c < 32) : wb (mm_or x (mm_shl 1 (b : Int))) c = (wb x c || decide (c = b)) := by
  unfold wb mm_or
  rw [mm_i3, Int32.toBitVec_or, BitVec.getLsbD_or]
  have := wb_1 ⟨b, hb⟩ ⟨c, hc⟩
  rw [this]
  simp only [Fin.mk.injEq]
theorem wb_eq {x : Int} (hx : mm_in x) {b : Nat} (hb : b < 32) : mm_or x (mm_shl 1 (b : Int)) = x ↔ wb x b = true := by
  refine ⟨fun h => ?_, fun h => ?_⟩
  · have h2 := wb_or (x := x) hb hb
    rw [h, decide_eq_true rfl, Bool.or_true] at h2
    exact h2
  · have e : Int32.ofInt (mm_or x (mm_shl 1 (b : Int))) = Int32.ofInt x := by
      apply Int32.toBitVec_inj.mp
      apply BitVec.eq_of_getLsbD_eq
      intro i hi
      have h2 := wb_or (x := x) hb hi
      show wb (mm_or x (mm_shl 1 (b : Int))) i = wb x i
      rw [h2]
      by_cases hc : i = b
      · subst hc; rw [h]; rfl
      · rw [decide_eq_false hc, Bool.or_false]
    have h3 := congrArg Int32.toInt e
    rw [mm_i1 hx] at h3
    have h4 : (Int32.ofInt (mm_or x (mm_shl 1 (b : Int)))).toInt = mm_or x (mm_shl 1 (b : Int)) := mm_i1 (mm_i2 _)
    exact h4.symm.trans h3
theorem shr5 {i : Int} (h : 0 ≤ i ∧ i < 2147483648) : mm_shr i 5 = i / 32 := by
  have := bb_shr (x := i) ⟨by omega, by omega⟩ (y := 5) (by decide)
  exact this
theorem and31 {i : Int} (h : 0 ≤ i ∧ i < 2147483648) : mm_and i 31 = i % 32 := by
  obtain ⟨n, rfl⟩ := Int.eq_ofNat_of_zero_le h.1
  have := bb_and (x := n) (y := 31) (by omega) (by decide)
  rw [show ((31 : Nat) : Int) = 31 from rfl] at this
  rw [this, show (31 : Nat) = 2 ^ 5 - 1 from rfl, Nat.and_two_pow_sub_one_eq_mod]
  omega
theorem nsB_A {G : Nat} {i j : Int} (hi : 0 ≤ i) (hj : 0 ≤ j) : nsB (nsA w G i) G j = (nsB w G j || decide (j = i)) := by
  unfold nsB nsA
  rw [up_at]
  by_cases h : j / 32 = i / 32
  · rw [if_pos h, h]
    have := wb_or (x := w G 0 (i / 32)) (b := (i % 32).toNat) (c := (j % 32).toNat) (by omega) (by omega)
    rw [show (((i % 32).toNat : Nat) : Int) = i % 32 by omega] at this
    rw [this]
    congr 1
    refine decide_eq_decide.mpr ⟨fun q => by omega, fun q => by rw [q]⟩
  · rw [if_neg h, decide_eq_false (fun q => h (by rw [q])), Bool.or_false]
theorem nsB_0 {G : Nat} {N j : Int} (hj : 0 ≤ j ∧ j < 32 * N) : nsB (arrw w G 0 N (fun _ => 0)) G j = false := by
  unfold nsB
  rw [arrw_in (by omega)]
  exact BitVec.getLsbD_zero
theorem nsB_sm {w' : mm_M} {G : Nat} {j : Int} {L : List (Nat × Option Int)} (hs : sm L w w') (h : ∀ k, frB L G k = true) : nsB w' G j = nsB w G j := by
  unfold nsB
  rw [hs G 0 _ (h _)]
theorem ev_empty_50 : mm_Ev K_X4_empty (0, 0) [.inr (some (50, 0))] (PH r y) w (mm_pe none (PH r y) (arrw w 51 0 128 (fun _ => 0))) := by
  refine ev_intro ok_X4_empty mo_X4_empty (Nat.le_of_ble_eq_true rfl) (fun hrg has => ?_)
  refine k_gp rfl rfl trivial ?_
  refine k_callp rfl ev_fill_51 rfl rfl rfl (by decide) ?_
  exact k_ret rfl trivial ⟨rfl, rfl, rfl⟩
theorem ev_has_50 {i : Int} (hi : 0 ≤ i ∧ i < 32 * 128) : mm_Ev K_X4_has (0, 0) [.inr (some (50, 0)), .inl i] (PH r y) w (mm_pe (some (.inl (ib (nsB w 51 i = true)))) (PH r y) w) := by
  refine ev_intro ok_X4_has mo_X4_has (Nat.le_of_ble_eq_true rfl) (fun hrg has => ?_)
  have h5 := shr5 (i := i) (by omega)
  have h31 := and31 (i := i) (by omega)
  refine k_gp rfl rfl (by simp only [true_and, mm_fits, h5]; omega) ?_
  rw [h5, h31]
  have ht := wb_t (x := w 51 0 (i / 32)) (b := (i % 32).toNat) (by omega)
  rw [show (((i % 32).toNat : Nat) : Int) = i % 32 by omega] at ht
  rw [ht]
  have hn : nsB w 51 i = wb (w 51 0 (i / 32)) (i % 32).toNat := rfl
  rw [← hn]
  cases nsB w 51 i with
  | true =>
    refine k_brf rfl (fun q => q rfl) ?_
    refine k_gp rfl rfl trivial ?_
    exact k_ret rfl (by decide) ⟨rfl, rfl, rfl⟩
  | false =>
    refine k_brt rfl (by decide) ?_
    refine k_gp rfl rfl trivial ?_
    exact k_ret rfl (by decide) ⟨rfl, rfl, rfl⟩
theorem ev_add_50 {i : Int} (hi : 0 ≤ i ∧ i < 32 * 128) : mm_Ev K_X4_add (0, 0) [.inr (some (50, 0)), .inl i] (PH r y) w (mm_pe (some (.inl (ib (nsB w 51 i = false)))) (PH r y) (nsA w 51 i)) := by
  refine ev_intro ok_X4_add mo_X4_add (Nat.le_of_ble_eq_true rfl) (fun hrg has => ?_)
  have h5 := shr5 (i := i) (by omega)
  have h31 := and31 (i := i) (by omega)
  refine k_gp rfl rfl (by simp only [true_and, mm_fits, h5]; omega) ?_
  rw [h5, h31, up_s]
  have hx : mm_in (w 51 0 (i / 32)) := hrg _ _ _
  have ht := wb_eq hx (b := (i % 32).toNat) (by omega)
  rw [show (((i % 32).toNat : Nat) : Int) = i % 32 by omega] at ht
  have hn : nsB w 51 i = wb (w 51 0 (i / 32)) (i % 32).toNat := rfl
  rw [← hn] at ht
  refine k_br rfl (fun q => ?_) (fun q => ?_)
  · rw [ht.mp q]
    refine k_gp rfl rfl trivial ?_
    exact k_ret rfl (by decide) ⟨rfl, rfl, rfl⟩
  · rw [Bool.eq_false_iff.mpr (fun z => q (ht.mpr z))]
    refine k_gp rfl rfl trivial ?_
    exact k_ret rfl (by decide) ⟨rfl, rfl, rfl⟩
theorem ev_empty_62 : mm_Ev K_X4_empty (0, 0) [.inr (some (62, 0))] (PH r y) w (mm_pe none (PH r y) (arrw w 63 0 8 (fun _ => 0))) := by
  refine ev_intro ok_X4_empty mo_X4_empty (Nat.le_of_ble_eq_true rfl) (fun hrg has => ?_)
  refine k_gp rfl rfl trivial ?_
  refine k_callp rfl ev_fill_63 rfl rfl rfl (by decide) ?_
  exact k_ret rfl trivial ⟨rfl, rfl, rfl⟩
theorem ev_has_62 {i : Int} (hi : 0 ≤ i ∧ i < 32 * 8) : mm_Ev K_X4_has (0, 0) [.inr (some (62, 0)), .inl i] (PH r y) w (mm_pe (some (.inl (ib (nsB w 63 i = true)))) (PH r y) w) := by
  refine ev_intro ok_X4_has mo_X4_has (Nat.le_of_ble_eq_true rfl) (fun hrg has => ?_)
  have h5 := shr5 (i := i) (by omega)
  have h31 := and31 (i := i) (by omega)
  refine k_gp rfl rfl (by simp only [true_and, mm_fits, h5]; omega) ?_
  rw [h5, h31]
  have ht := wb_t (x := w 63 0 (i / 32)) (b := (i % 32).toNat) (by omega)
  rw [show (((i % 32).toNat : Nat) : Int) = i % 32 by omega] at ht
  rw [ht]
  have hn : nsB w 63 i = wb (w 63 0 (i / 32)) (i % 32).toNat := rfl
  rw [← hn]
  cases nsB w 63 i with
  | true =>
    refine k_brf rfl (fun q => q rfl) ?_
    refine k_gp rfl rfl trivial ?_
    exact k_ret rfl (by decide) ⟨rfl, rfl, rfl⟩
  | false =>
    refine k_brt rfl (by decide) ?_
    refine k_gp rfl rfl trivial ?_
    exact k_ret rfl (by decide) ⟨rfl, rfl, rfl⟩
theorem ev_add_62 {i : Int} (hi : 0 ≤ i ∧ i < 32 * 8) : mm_Ev K_X4_add (0, 0) [.inr (some (62, 0)), .inl i] (PH r y) w (mm_pe (some (.inl (ib (nsB w 63 i = false)))) (PH r y) (nsA w 63 i)) := by
  refine ev_intro ok_X4_add mo_X4_add (Nat.le_of_ble_eq_true rfl) (fun hrg has => ?_)
  have h5 := shr5 (i := i) (by omega)
  have h31 := and31 (i := i) (by omega)
  refine k_gp rfl rfl (by simp only [true_and, mm_fits, h5]; omega) ?_
  rw [h5, h31, up_s]
  have hx : mm_in (w 63 0 (i / 32)) := hrg _ _ _
  have ht := wb_eq hx (b := (i % 32).toNat) (by omega)
  rw [show (((i % 32).toNat : Nat) : Int) = i % 32 by omega] at ht
  have hn : nsB w 63 i = wb (w 63 0 (i / 32)) (i % 32).toNat := rfl
  rw [← hn] at ht
  refine k_br rfl (fun q => ?_) (fun q => ?_)
  · rw [ht.mp q]
    refine k_gp rfl rfl trivial ?_
    exact k_ret rfl (by decide) ⟨rfl, rfl, rfl⟩
  · rw [Bool.eq_false_iff.mpr (fun z => q (ht.mpr z))]
    refine k_gp rfl rfl trivial ?_
    exact k_ret rfl (by decide) ⟨rfl, rfl, rfl⟩
theorem ev_empty_64 : mm_Ev K_X4_empty (0, 0) [.inr (some (64, 0))] (PH r y) w (mm_pe none (PH r y) (arrw w 65 0 8 (fun _ => 0))) := by
  refine ev_intro ok_X4_empty mo_X4_empty (Nat.le_of_ble_eq_true rfl) (fun hrg has => ?_)
  refine k_gp rfl rfl trivial ?_
  refine k_callp rfl ev_fill_65 rfl rfl rfl (by decide) ?_
  exact k_ret rfl trivial ⟨rfl, rfl, rfl⟩
theorem ev_has_64 {i : Int} (hi : 0 ≤ i ∧ i < 32 * 8) : mm_Ev K_X4_has (0, 0) [.inr (some (64, 0)), .inl i] (PH r y) w (mm_pe (some (.inl (ib (nsB w 65 i = true)))) (PH r y) w) := by
  refine ev_intro ok_X4_has mo_X4_has (Nat.le_of_ble_eq_true rfl) (fun hrg has => ?_)
  have h5 := shr5 (i := i) (by omega)
  have h31 := and31 (i := i) (by omega)
  refine k_gp rfl rfl (by simp only [true_and, mm_fits, h5]; omega) ?_
  rw [h5, h31]
  have ht := wb_t (x := w 65 0 (i / 32)) (b := (i % 32).toNat) (by omega)
  rw [show (((i % 32).toNat : Nat) : Int) = i % 32 by omega] at ht
  rw [ht]
  have hn : nsB w 65 i = wb (w 65 0 (i / 32)) (i % 32).toNat := rfl
  rw [← hn]
  cases nsB w 65 i with
  | true =>
    refine k_brf rfl (fun q => q rfl) ?_
    refine k_gp rfl rfl trivial ?_
    exact k_ret rfl (by decide) ⟨rfl, rfl, rfl⟩
  | false =>
    refine k_brt rfl (by decide) ?_
    refine k_gp rfl rfl trivial ?_
    exact k_ret rfl (by decide) ⟨rfl, rfl, rfl⟩
theorem ev_add_64 {i : Int} (hi : 0 ≤ i ∧ i < 32 * 8) : mm_Ev K_X4_add (0, 0) [.inr (some (64, 0)), .inl i] (PH r y) w (mm_pe (some (.inl (ib (nsB w 65 i = false)))) (PH r y) (nsA w 65 i)) := by
  refine ev_intro ok_X4_add mo_X4_add (Nat.le_of_ble_eq_true rfl) (fun hrg has => ?_)
  have h5 := shr5 (i := i) (by omega)
  have h31 := and31 (i := i) (by omega)
  refine k_gp rfl rfl (by simp only [true_and, mm_fits, h5]; omega) ?_
  rw [h5, h31, up_s]
  have hx : mm_in (w 65 0 (i / 32)) := hrg _ _ _
  have ht := wb_eq hx (b := (i % 32).toNat) (by omega)
  rw [show (((i % 32).toNat : Nat) : Int) = i % 32 by omega] at ht
  have hn : nsB w 65 i = wb (w 65 0 (i / 32)) (i % 32).toNat := rfl
  rw [← hn] at ht
  refine k_br rfl (fun q => ?_) (fun q => ?_)
  · rw [ht.mp q]
    refine k_gp rfl rfl trivial ?_
    exact k_ret rfl (by decide) ⟨rfl, rfl, rfl⟩
  · rw [Bool.eq_false_iff.mpr (fun z => q (ht.mpr z))]
    refine k_gp rfl rfl trivial ?_
    exact k_ret rfl (by decide) ⟨rfl, rfl, rfl⟩
theorem ev_empty_69 : mm_Ev K_X4_empty (0, 0) [.inr (some (69, 0))] (PH r y) w (mm_pe none (PH r y) (arrw w 70 0 8 (fun _ => 0))) := by
  refine ev_intro ok_X4_empty mo_X4_empty (Nat.le_of_ble_eq_true rfl) (fun hrg has => ?_)
  refine k_gp rfl rfl trivial ?_
  refine k_callp rfl ev_fill_70 rfl rfl rfl (by decide) ?_
  exact k_ret rfl trivial ⟨rfl, rfl, rfl⟩
theorem ev_has_69 {i : Int} (hi : 0 ≤ i ∧ i < 32 * 8) : mm_Ev K_X4_has (0, 0) [.inr (some (69, 0)), .inl i] (PH r y) w (mm_pe (some (.inl (ib (nsB w 70 i = true)))) (PH r y) w) := by
  refine ev_intro ok_X4_has mo_X4_has (Nat.le_of_ble_eq_true rfl) (fun hrg has => ?_)
  have h5 := shr5 (i := i) (by omega)
  have h31 := and31 (i := i) (by omega)
  refine k_gp rfl rfl (by simp only [true_and, mm_fits, h5]; omega) ?_
  rw [h5, h31]
  have ht := wb_t (x := w 70 0 (i / 32)) (b := (i % 32).toNat) (by omega)
  rw [show (((i % 32).toNat : Nat) : Int) = i % 32 by omega] at ht
  rw [ht]
  have hn : nsB w 70 i = wb (w 70 0 (i / 32)) (i % 32).toNat := rfl
  rw [← hn]
  cases nsB w 70 i with
  | true =>
    refine k_brf rfl (fun q => q rfl) ?_
    refine k_gp rfl rfl trivial ?_
    exact k_ret rfl (by decide) ⟨rfl, rfl, rfl⟩
  | false =>
    refine k_brt rfl (by decide) ?_
    refine k_gp rfl rfl trivial ?_
    exact k_ret rfl (by decide) ⟨rfl, rfl, rfl⟩
theorem ev_add_69 {i : Int} (hi : 0 ≤ i ∧ i < 32 * 8) : mm_Ev K_X4_add (0, 0) [.inr (some (69, 0)), .inl i] (PH r y) w (mm_pe (some (.inl (ib (nsB w 70 i = false)))) (PH r y) (nsA w 70 i)) := by
  refine ev_intro ok_X4_add mo_X4_add (Nat.le_of_ble_eq_true rfl) (fun hrg has => ?_)
  have h5 := shr5 (i := i) (by omega)
  have h31 := and31 (i := i) (by omega)
  refine k_gp rfl rfl (by simp only [true_and, mm_fits, h5]; omega) ?_
  rw [h5, h31, up_s]
  have hx : mm_in (w 70 0 (i / 32)) := hrg _ _ _
  have ht := wb_eq hx (b := (i % 32).toNat) (by omega)
  rw [show (((i % 32).toNat : Nat) : Int) = i % 32 by omega] at ht
  have hn : nsB w 70 i = wb (w 70 0 (i / 32)) (i % 32).toNat := rfl
  rw [← hn] at ht
  refine k_br rfl (fun q => ?_) (fun q => ?_)
  · rw [ht.mp q]
    refine k_gp rfl rfl trivial ?_
    exact k_ret rfl (by decide) ⟨rfl, rfl, rfl⟩
  · rw [Bool.eq_false_iff.mpr (fun z => q (ht.mpr z))]
    refine k_gp rfl rfl trivial ?_
    exact k_ret rfl (by decide) ⟨rfl, rfl, rfl⟩
theorem ev_empty_71 : mm_Ev K_X4_empty (0, 0) [.inr (some (71, 0))] (PH r y) w (mm_pe none (PH r y) (arrw w 72 0 8 (fun _ => 0))) := by
  refine ev_intro ok_X4_empty mo_X4_empty (Nat.le_of_ble_eq_true rfl) (fun hrg has => ?_)
  refine k_gp rfl rfl trivial ?_
  refine k_callp rfl ev_fill_72 rfl rfl rfl (by decide) ?_
  exact k_ret rfl trivial ⟨rfl, rfl, rfl⟩
theorem ev_has_71 {i : Int} (hi : 0 ≤ i ∧ i < 32 * 8) : mm_Ev K_X4_has (0, 0) [.inr (some (71, 0)), .inl i] (PH r y) w (mm_pe (some (.inl (ib (nsB w 72 i = true)))) (PH r y) w) := by
  refine ev_intro ok_X4_has mo_X4_has (Nat.le_of_ble_eq_true rfl) (fun hrg has => ?_)
  have h5 := shr5 (i := i) (by omega)
  have h31 := and31 (i := i) (by omega)
  refine k_gp rfl rfl (by simp only [true_and, mm_fits, h5]; omega) ?_
  rw [h5, h31]
  have ht := wb_t (x := w 72 0 (i / 32)) (b := (i % 32).toNat) (by omega)
  rw [show (((i % 32).toNat : Nat) : Int) = i % 32 by omega] at ht
  rw [ht]
  have hn : nsB w 72 i = wb (w 72 0 (i / 32)) (i % 32).toNat := rfl
  rw [← hn]
  cases nsB w 72 i with
  | true =>
    refine k_brf rfl (fun q => q rfl) ?_
    refine k_gp rfl rfl trivial ?_
    exact k_ret rfl (by decide) ⟨rfl, rfl, rfl⟩
  | false =>
    refine k_brt rfl (by decide) ?_
    refine k_gp rfl rfl trivial ?_
    exact k_ret rfl (by decide) ⟨rfl, rfl, rfl⟩
theorem ev_add_71 {i : Int} (hi : 0 ≤ i ∧ i < 32 * 8) : mm_Ev K_X4_add (0, 0) [.inr (some (71, 0)), .inl i] (PH r y) w (mm_pe (some (.inl (ib (nsB w 72 i = false)))) (PH r y) (nsA w 72 i)) := by
  refine ev_intro ok_X4_add mo_X4_add (Nat.le_of_ble_eq_true rfl) (fun hrg has => ?_)
  have h5 := shr5 (i := i) (by omega)
  have h31 := and31 (i := i) (by omega)
  refine k_gp rfl rfl (by simp only [true_and, mm_fits, h5]; omega) ?_
  rw [h5, h31, up_s]
  have hx : mm_in (w 72 0 (i / 32)) := hrg _ _ _
  have ht := wb_eq hx (b := (i % 32).toNat) (by omega)
  rw [show (((i % 32).toNat : Nat) : Int) = i % 32 by omega] at ht
  have hn : nsB w 72 i = wb (w 72 0 (i / 32)) (i % 32).toNat := rfl
  rw [← hn] at ht
  refine k_br rfl (fun q => ?_) (fun q => ?_)
  · rw [ht.mp q]
    refine k_gp rfl rfl trivial ?_
    exact k_ret rfl (by decide) ⟨rfl, rfl, rfl⟩
  · rw [Bool.eq_false_iff.mpr (fun z => q (ht.mpr z))]
    refine k_gp rfl rfl trivial ?_
    exact k_ret rfl (by decide) ⟨rfl, rfl, rfl⟩
theorem ev_empty_75 : mm_Ev K_X4_empty (0, 0) [.inr (some (75, 0))] (PH r y) w (mm_pe none (PH r y) (arrw w 76 0 16 (fun _ => 0))) := by
  refine ev_intro ok_X4_empty mo_X4_empty (Nat.le_of_ble_eq_true rfl) (fun hrg has => ?_)
  refine k_gp rfl rfl trivial ?_
  refine k_callp rfl ev_fill_76 rfl rfl rfl (by decide) ?_
  exact k_ret rfl trivial ⟨rfl, rfl, rfl⟩
theorem ev_has_75 {i : Int} (hi : 0 ≤ i ∧ i < 32 * 16) : mm_Ev K_X4_has (0, 0) [.inr (some (75, 0)), .inl i] (PH r y) w (mm_pe (some (.inl (ib (nsB w 76 i = true)))) (PH r y) w) := by
  refine ev_intro ok_X4_has mo_X4_has (Nat.le_of_ble_eq_true rfl) (fun hrg has => ?_)
  have h5 := shr5 (i := i) (by omega)
  have h31 := and31 (i := i) (by omega)
  refine k_gp rfl rfl (by simp only [true_and, mm_fits, h5]; omega) ?_
  rw [h5, h31]
  have ht := wb_t (x := w 76 0 (i / 32)) (b := (i % 32).toNat) (by omega)
  rw [show (((i % 32).toNat : Nat) : Int) = i % 32 by omega] at ht
  rw [ht]
  have hn : nsB w 76 i = wb (w 76 0 (i / 32)) (i % 32).toNat := rfl
  rw [← hn]
  cases nsB w 76 i with
  | true =>
    refine k_brf rfl (fun q => q rfl) ?_
    refine k_gp rfl rfl trivial ?_
    exact k_ret rfl (by decide) ⟨rfl, rfl, rfl⟩
  | false =>
    refine k_brt rfl (by decide) ?_
    refine k_gp rfl rfl trivial ?_
    exact k_ret rfl (by decide) ⟨rfl, rfl, rfl⟩
theorem ev_add_75 {i : Int} (hi : 0 ≤ i ∧ i < 32 * 16) : mm_Ev K_X4_add (0, 0) [.inr (some (75, 0)), .inl i] (PH r y) w (mm_pe (some (.inl (ib (nsB w 76 i = false)))) (PH r y) (nsA w 76 i)) := by
  refine ev_intro ok_X4_add mo_X4_add (Nat.le_of_ble_eq_true rfl) (fun hrg has => ?_)
  have h5 := shr5 (i := i) (by omega)
  have h31 := and31 (i := i) (by omega)
  refine k_gp rfl rfl (by simp only [true_and, mm_fits, h5]; omega) ?_
  rw [h5, h31, up_s]
  have hx : mm_in (w 76 0 (i / 32)) := hrg _ _ _
  have ht := wb_eq hx (b := (i % 32).toNat) (by omega)
  rw [show (((i % 32).toNat : Nat) : Int) = i % 32 by omega] at ht
  have hn : nsB w 76 i = wb (w 76 0 (i / 32)) (i % 32).toNat := rfl
  rw [← hn] at ht
  refine k_br rfl (fun q => ?_) (fun q => ?_)
  · rw [ht.mp q]
    refine k_gp rfl rfl trivial ?_
    exact k_ret rfl (by decide) ⟨rfl, rfl, rfl⟩
  · rw [Bool.eq_false_iff.mpr (fun z => q (ht.mpr z))]
    refine k_gp rfl rfl trivial ?_
    exact k_ret rfl (by decide) ⟨rfl, rfl, rfl⟩
theorem ev_empty_80 : mm_Ev K_X4_empty (0, 0) [.inr (some (80, 0))] (PH r y) w (mm_pe none (PH r y) (arrw w 81 0 64 (fun _ => 0))) := by
  refine ev_intro ok_X4_empty mo_X4_empty (Nat.le_of_ble_eq_true rfl) (fun hrg has => ?_)
  refine k_gp rfl rfl trivial ?_
  refine k_callp rfl ev_fill_81 rfl rfl rfl (by decide) ?_
  exact k_ret rfl trivial ⟨rfl, rfl, rfl⟩
theorem ev_has_80 {i : Int} (hi : 0 ≤ i ∧ i < 32 * 64) : mm_Ev K_X4_has (0, 0) [.inr (some (80, 0)), .inl i] (PH r y) w (mm_pe (some (.inl (ib (nsB w 81 i = true)))) (PH r y) w) := by
  refine ev_intro ok_X4_has mo_X4_has (Nat.le_of_ble_eq_true rfl) (fun hrg has => ?_)
  have h5 := shr5 (i := i) (by omega)
  have h31 := and31 (i := i) (by omega)
  refine k_gp rfl rfl (by simp only [true_and, mm_fits, h5]; omega) ?_
  rw [h5, h31]
  have ht := wb_t (x := w 81 0 (i / 32)) (b := (i % 32).toNat) (by omega)
  rw [show (((i % 32).toNat : Nat) : Int) = i % 32 by omega] at ht
  rw [ht]
  have hn : nsB w 81 i = wb (w 81 0 (i / 32)) (i % 32).toNat := rfl
  rw [← hn]
  cases nsB w 81 i with
  | true =>
    refine k_brf rfl (fun q => q rfl) ?_
    refine k_gp rfl rfl trivial ?_
    exact k_ret rfl (by decide) ⟨rfl, rfl, rfl⟩
  | false =>
    refine k_brt rfl (by decide) ?_
    refine k_gp rfl rfl trivial ?_
    exact k_ret rfl (by decide) ⟨rfl, rfl, rfl⟩
theorem ev_add_80 {i : Int} (hi : 0 ≤ i ∧ i < 32 * 64) : mm_Ev K_X4_add (0, 0) [.inr (some (80, 0)), .inl i] (PH r y) w (mm_pe (some (.inl (ib (nsB w 81 i = false)))) (PH r y) (nsA w 81 i)) := by
  refine ev_intro ok_X4_add mo_X4_add (Nat.le_of_ble_eq_true rfl) (fun hrg has => ?_)
  have h5 := shr5 (i := i) (by omega)
  have h31 := and31 (i := i) (by omega)
  refine k_gp rfl rfl (by simp only [true_and, mm_fits, h5]; omega) ?_
  rw [h5, h31, up_s]
  have hx : mm_in (w 81 0 (i / 32)) := hrg _ _ _
  have ht := wb_eq hx (b := (i % 32).toNat) (by omega)
  rw [show (((i % 32).toNat : Nat) : Int) = i % 32 by omega] at ht
  have hn : nsB w 81 i = wb (w 81 0 (i / 32)) (i % 32).toNat := rfl
  rw [← hn] at ht
  refine k_br rfl (fun q => ?_) (fun q => ?_)
  · rw [ht.mp q]
    refine k_gp rfl rfl trivial ?_
    exact k_ret rfl (by decide) ⟨rfl, rfl, rfl⟩
  · rw [Bool.eq_false_iff.mpr (fun z => q (ht.mpr z))]
    refine k_gp rfl rfl trivial ?_
    exact k_ret rfl (by decide) ⟨rfl, rfl, rfl⟩
theorem ev_empty_82 : mm_Ev K_X4_empty (0, 0) [.inr (some (82, 0))] (PH r y) w (mm_pe none (PH r y) (arrw w 83 0 8 (fun _ => 0))) := by
  refine ev_intro ok_X4_empty mo_X4_empty (Nat.le_of_ble_eq_true rfl) (fun hrg has => ?_)
  refine k_gp rfl rfl trivial ?_
  refine k_callp rfl ev_fill_83 rfl rfl rfl (by decide) ?_
  exact k_ret rfl trivial ⟨rfl, rfl, rfl⟩
theorem ev_has_82 {i : Int} (hi : 0 ≤ i ∧ i < 32 * 8) : mm_Ev K_X4_has (0, 0) [.inr (some (82, 0)), .inl i] (PH r y) w (mm_pe (some (.inl (ib (nsB w 83 i = true)))) (PH r y) w) := by
  refine ev_intro ok_X4_has mo_X4_has (Nat.le_of_ble_eq_true rfl) (fun hrg has => ?_)
  have h5 := shr5 (i := i) (by omega)
  have h31 := and31 (i := i) (by omega)
  refine k_gp rfl rfl (by simp only [true_and, mm_fits, h5]; omega) ?_
  rw [h5, h31]
  have ht := wb_t (x := w 83 0 (i / 32)) (b := (i % 32).toNat) (by omega)
  rw [show (((i % 32).toNat : Nat) : Int) = i % 32 by omega] at ht
  rw [ht]
  have hn : nsB w 83 i = wb (w 83 0 (i / 32)) (i % 32).toNat := rfl
  rw [← hn]
  cases nsB w 83 i with
  | true =>
    refine k_brf rfl (fun q => q rfl) ?_
    refine k_gp rfl rfl trivial ?_
    exact k_ret rfl (by decide) ⟨rfl, rfl, rfl⟩
  | false =>
    refine k_brt rfl (by decide) ?_
    refine k_gp rfl rfl trivial ?_
    exact k_ret rfl (by decide) ⟨rfl, rfl, rfl⟩
theorem ev_add_82 {i : Int} (hi : 0 ≤ i ∧ i < 32 * 8) : mm_Ev K_X4_add (0, 0) [.inr (some (82, 0)), .inl i] (PH r y) w (mm_pe (some (.inl (ib (nsB w 83 i = false)))) (PH r y) (nsA w 83 i)) := by
  refine ev_intro ok_X4_add mo_X4_add (Nat.le_of_ble_eq_true rfl) (fun hrg has => ?_)
  have h5 := shr5 (i := i) (by omega)
  have h31 := and31 (i := i) (by omega)
  refine k_gp rfl rfl (by simp only [true_and, mm_fits, h5]; omega) ?_
  rw [h5, h31, up_s]
  have hx : mm_in (w 83 0 (i / 32)) := hrg _ _ _
  have ht := wb_eq hx (b := (i % 32).toNat) (by omega)
  rw [show (((i % 32).toNat : Nat) : Int) = i % 32 by omega] at ht
  have hn : nsB w 83 i = wb (w 83 0 (i / 32)) (i % 32).toNat := rfl
  rw [← hn] at ht
  refine k_br rfl (fun q => ?_) (fun q => ?_)
  · rw [ht.mp q]
    refine k_gp rfl rfl trivial ?_
    exact k_ret rfl (by decide) ⟨rfl, rfl, rfl⟩
  · rw [Bool.eq_false_iff.mpr (fun z => q (ht.mpr z))]
    refine k_gp rfl rfl trivial ?_
    exact k_ret rfl (by decide) ⟨rfl, rfl, rfl⟩
theorem ev_empty_84 : mm_Ev K_X4_empty (0, 0) [.inr (some (84, 0))] (PH r y) w (mm_pe none (PH r y) (arrw w 85 0 8 (fun _ => 0))) := by
  refine ev_intro ok_X4_empty mo_X4_empty (Nat.le_of_ble_eq_true rfl) (fun hrg has => ?_)
  refine k_gp rfl rfl trivial ?_
  refine k_callp rfl ev_fill_85 rfl rfl rfl (by decide) ?_
  exact k_ret rfl trivial ⟨rfl, rfl, rfl⟩
theorem ev_has_84 {i : Int} (hi : 0 ≤ i ∧ i < 32 * 8) : mm_Ev K_X4_has (0, 0) [.inr (some (84, 0)), .inl i] (PH r y) w (mm_pe (some (.inl (ib (nsB w 85 i = true)))) (PH r y) w) := by
  refine ev_intro ok_X4_has mo_X4_has (Nat.le_of_ble_eq_true rfl) (fun hrg has => ?_)
  have h5 := shr5 (i := i) (by omega)
  have h31 := and31 (i := i) (by omega)
  refine k_gp rfl rfl (by simp only [true_and, mm_fits, h5]; omega) ?_
  rw [h5, h31]
  have ht := wb_t (x := w 85 0 (i / 32)) (b := (i % 32).toNat) (by omega)
  rw [show (((i % 32).toNat : Nat) : Int) = i % 32 by omega] at ht
  rw [ht]
  have hn : nsB w 85 i = wb (w 85 0 (i / 32)) (i % 32).toNat := rfl
  rw [← hn]
  cases nsB w 85 i with
  | true =>
    refine k_brf rfl (fun q => q rfl) ?_
    refine k_gp rfl rfl trivial ?_
    exact k_ret rfl (by decide) ⟨rfl, rfl, rfl⟩
  | false =>
    refine k_brt rfl (by decide) ?_
    refine k_gp rfl rfl trivial ?_
    exact k_ret rfl (by decide) ⟨rfl, rfl, rfl⟩
theorem ev_add_84 {i : Int} (hi : 0 ≤ i ∧ i < 32 * 8) : mm_Ev K_X4_add (0, 0) [.inr (some (84, 0)), .inl i] (PH r y) w (mm_pe (some (.inl (ib (nsB w 85 i = false)))) (PH r y) (nsA w 85 i)) := by
  refine ev_intro ok_X4_add mo_X4_add (Nat.le_of_ble_eq_true rfl) (fun hrg has => ?_)
  have h5 := shr5 (i := i) (by omega)
  have h31 := and31 (i := i) (by omega)
  refine k_gp rfl rfl (by simp only [true_and, mm_fits, h5]; omega) ?_
  rw [h5, h31, up_s]
  have hx : mm_in (w 85 0 (i / 32)) := hrg _ _ _
  have ht := wb_eq hx (b := (i % 32).toNat) (by omega)
  rw [show (((i % 32).toNat : Nat) : Int) = i % 32 by omega] at ht
  have hn : nsB w 85 i = wb (w 85 0 (i / 32)) (i % 32).toNat := rfl
  rw [← hn] at ht
  refine k_br rfl (fun q => ?_) (fun q => ?_)
  · rw [ht.mp q]
    refine k_gp rfl rfl trivial ?_
    exact k_ret rfl (by decide) ⟨rfl, rfl, rfl⟩
  · rw [Bool.eq_false_iff.mpr (fun z => q (ht.mpr z))]
    refine k_gp rfl rfl trivial ?_
    exact k_ret rfl (by decide) ⟨rfl, rfl, rfl⟩
theorem ev_empty {g : Nat} {N : Int} (hg : NSL g N) : mm_Ev K_X4_empty (0, 0) [.inr (some (g, 0))] (PH r y) w (mm_pe none (PH r y) (arrw w (g + 1) 0 N (fun _ => 0))) := by
  rcases hg with ⟨rfl, rfl⟩ | ⟨rfl, rfl⟩ | ⟨rfl, rfl⟩ | ⟨rfl, rfl⟩ | ⟨rfl, rfl⟩ | ⟨rfl, rfl⟩ | ⟨rfl, rfl⟩ | ⟨rfl, rfl⟩ | ⟨rfl, rfl⟩
  · exact ev_empty_50
  · exact ev_empty_62
  · exact ev_empty_64
  · exact ev_empty_69
  · exact ev_empty_71
  · exact ev_empty_75
  · exact ev_empty_80
  · exact ev_empty_82
  · exact ev_empty_84
theorem ev_has {g : Nat} {N i : Int} (hg : NSL g N) (hi : 0 ≤ i ∧ i < 32 * N) : mm_Ev K_X4_has (0, 0) [.inr (some (g, 0)), .inl i] (PH r y) w (mm_pe (some (.inl (ib (nsB w (g + 1) i = true)))) (PH r y) w) := by
  rcases hg with ⟨rfl, rfl⟩ | ⟨rfl, rfl⟩ | ⟨rfl, rfl⟩ | ⟨rfl, rfl⟩ | ⟨rfl, rfl⟩ | ⟨rfl, rfl⟩ | ⟨rfl, rfl⟩ | ⟨rfl, rfl⟩ | ⟨rfl, rfl⟩
  · exact ev_has_50 hi
  · exact ev_has_62 hi
  · exact ev_has_64 hi
  · exact ev_has_69 hi
  · exact ev_has_71 hi
  · exact ev_has_75 hi
  · exact ev_has_80 hi
  · exact ev_has_82 hi
  · exact ev_has_84 hi
theorem ev_add {g : Nat} {N i : Int} (hg : NSL g N) (hi : 0 ≤ i ∧ i < 32 * N) : mm_Ev K_X4_add (0, 0) [.inr (some (g, 0)), .inl i] (PH r y) w (mm_pe (some (.inl (ib (nsB w (g + 1) i = false)))) (PH r y) (nsA w (g + 1) i)) := by
  rcases hg with ⟨rfl, rfl⟩ | ⟨rfl, rfl⟩ | ⟨rfl, rfl⟩ | ⟨rfl, rfl⟩ | ⟨rfl, rfl⟩ | ⟨rfl, rfl⟩ | ⟨rfl, rfl⟩ | ⟨rfl, rfl⟩ | ⟨rfl, rfl⟩
  · exact ev_add_50 hi
  · exact ev_add_62 hi
  · exact ev_add_64 hi
  · exact ev_add_69 hi
  · exact ev_add_71 hi
  · exact ev_add_75 hi
  · exact ev_add_80 hi
  · exact ev_add_82 hi
  · exact ev_add_84 hi
end MC
