/-! ===== constructors of the parts (written by gen77.py) ===== -/
theorem ck_X9_7 : mm_cok RX9 7 7 := ⟨RX7, TX7, 4, tyX7, rfl, tb_X7, tyX7_ok, tb_in 96 (by decide +kernel) (by decide +kernel), tb_in 97 (by decide +kernel) (by decide +kernel), tb_in 70 (by decide +kernel) (by decide +kernel), by decide +kernel⟩
theorem ck_X9_16 : mm_cok RX9 16 5 := ⟨RX5, TX5, 9, tyX5, rfl, tb_X5, tyX5_ok, tb_in 186 (by decide +kernel) (by decide +kernel), tb_in 103 (by decide +kernel) (by decide +kernel), tb_in 71 (by decide +kernel) (by decide +kernel), by decide +kernel⟩
theorem ck_X9_23 : mm_cok RX9 23 3 := ⟨RX3, TX3, 6, tyX3, rfl, tb_X3, tyX3_ok, tb_in 188 (by decide +kernel) (by decide +kernel), tb_in 189 (by decide +kernel) (by decide +kernel), tb_in 72 (by decide +kernel) (by decide +kernel), by decide +kernel⟩
theorem ck_X9_36 : mm_cok RX9 36 0 := ⟨RX0, TX0, 4, tyX0, rfl, tb_X0, tyX0_ok, tb_in 213 (by decide +kernel) (by decide +kernel), tb_in 214 (by decide +kernel) (by decide +kernel), tb_in 73 (by decide +kernel) (by decide +kernel), by decide +kernel⟩
theorem ck_X9_121 : mm_cok RX9 121 6 := ⟨RX6, TX6, 10, tyX6, rfl, tb_X6, tyX6_ok, tb_in 538 (by decide +kernel) (by decide +kernel), tb_in 539 (by decide +kernel) (by decide +kernel), tb_in 82 (by decide +kernel) (by decide +kernel), by decide +kernel⟩
theorem ck_X9_256 : mm_cok RX9 256 1 := ⟨RX1, TX1, 9, tyX1, rfl, tb_X1, tyX1_ok, tb_in 663 (by decide +kernel) (by decide +kernel), tb_in 390 (by decide +kernel) (by decide +kernel), tb_in 85 (by decide +kernel) (by decide +kernel), by decide +kernel⟩
theorem ck_X9_175 : mm_cok RX9 175 8 := ⟨RX8, TX8, 12, tyX8, rfl, tb_X8, tyX8_ok, tb_in 699 (by decide +kernel) (by decide +kernel), tb_in 700 (by decide +kernel) (by decide +kernel), tb_in 86 (by decide +kernel) (by decide +kernel), by decide +kernel⟩
theorem ck_X9_154 : mm_cok RX9 154 2 := ⟨RX2, TX2, 11, tyX2, rfl, tb_X2, tyX2_ok, tb_in 744 (by decide +kernel) (by decide +kernel), tb_in 745 (by decide +kernel) (by decide +kernel), tb_in 87 (by decide +kernel) (by decide +kernel), by decide +kernel⟩
theorem ck_X7_15 : mm_cok RX7 15 5 := ⟨RX5, TX5, 9, tyX5, rfl, tb_X5, tyX5_ok, tb_in 102 (by decide +kernel) (by decide +kernel), tb_in 103 (by decide +kernel) (by decide +kernel), tb_in 71 (by decide +kernel) (by decide +kernel), by decide +kernel⟩
theorem ck_X6_18 : mm_cok RX6 18 4 := ⟨RX4, TX4, 1, tyX4, rfl, tb_X4, tyX4_ok, tb_in 544 (by decide +kernel) (by decide +kernel), tb_in 545 (by decide +kernel) (by decide +kernel), tb_in 83 (by decide +kernel) (by decide +kernel), by decide +kernel⟩
theorem ck_X1_29 : mm_cok RX1 29 4 := ⟨RX4, TX4, 1, tyX4, rfl, tb_X4, tyX4_ok, tb_in 669 (by decide +kernel) (by decide +kernel), tb_in 545 (by decide +kernel) (by decide +kernel), tb_in 83 (by decide +kernel) (by decide +kernel), by decide +kernel⟩
theorem ck_X8_20 : mm_cok RX8 20 4 := ⟨RX4, TX4, 1, tyX4, rfl, tb_X4, tyX4_ok, tb_in 705 (by decide +kernel) (by decide +kernel), tb_in 545 (by decide +kernel) (by decide +kernel), tb_in 83 (by decide +kernel) (by decide +kernel), by decide +kernel⟩
theorem ck_X2_18 : mm_cok RX2 18 4 := ⟨RX4, TX4, 1, tyX4, rfl, tb_X4, tyX4_ok, tb_in 750 (by decide +kernel) (by decide +kernel), tb_in 545 (by decide +kernel) (by decide +kernel), tb_in 83 (by decide +kernel) (by decide +kernel), by decide +kernel⟩
theorem pp_X4_13 : mm_pok RX4 (13, 4, 0, 2, 0) true := ⟨RX4, TX4, 1, tyX4, rfl, tb_X4, tyX4_ok, nmX4, by decide, tb_in 553 (by decide +kernel) (by decide +kernel), rfl, rfl, rfl, fun _ => rfl, fun a => ⟨rfl, rfl⟩⟩
set_option maxRecDepth 100000 in
theorem ev_init_50 {b : mm_B} {w : mm_M} (h51 : 51 ∉ b.2) : mm_Ev K_X4_init (1, 128) [.inr (some (50, 0)), .inl 4096] b w (mm_pe none (bR (bN b 51) 50 0 (some (51, 0))) (zr w 51)) := by
  refine ev_intro ok_X4_init mo_X4_init (Nat.le_of_ble_eq_true rfl) (fun hrg has => ?_)
  refine k_gp rfl rfl (by first | trivial | decide | (simp only [true_and, mm_fits]; omega)) ?_
  refine k_obji rfl (tb_in 549 (by decide +kernel) (by decide +kernel)) (tb_in 94 (by decide +kernel) (by decide +kernel)) (tb_in 95 (by decide +kernel) (by decide +kernel)) (by decide) (by decide) ?_
  refine k_gp rfl rfl (by first | trivial | decide | (simp only [true_and, mm_fits]; omega)) ?_
  refine k_mmax rfl (tb_in 550 (by decide +kernel) (by decide +kernel)) (tb_in 551 (by decide +kernel) (by decide +kernel)) (tb_in 81 (by decide +kernel) (by decide +kernel)) (tb_in 552 (by decide +kernel) (by decide +kernel)) (by decide) (by decide) ?_
  refine k_gp rfl rfl (by first | trivial | decide | (simp only [true_and, mm_fits]; omega)) ?_
  refine k_newa (kd := 1) (g := 51) (N := 128) (n1 := (0, 0)) (by decide) rfl rfl rfl (by decide) (tb_in 172 (by decide +kernel) (by decide +kernel)) (by simp [bN, bR, h51]) ⟨rfl, rfl⟩ ?_
  refine k_putr rfl rfl pp_X4_13 (fun _ => rfl) ?_
  exact k_ret rfl trivial ⟨rfl, rfl, rfl⟩
set_option maxRecDepth 100000 in
theorem ev_init_62 {b : mm_B} {w : mm_M} (h63 : 63 ∉ b.2) : mm_Ev K_X4_init (1, 8) [.inr (some (62, 0)), .inl 256] b w (mm_pe none (bR (bN b 63) 62 0 (some (63, 0))) (zr w 63)) := by
  refine ev_intro ok_X4_init mo_X4_init (Nat.le_of_ble_eq_true rfl) (fun hrg has => ?_)
  refine k_gp rfl rfl (by first | trivial | decide | (simp only [true_and, mm_fits]; omega)) ?_
  refine k_obji rfl (tb_in 549 (by decide +kernel) (by decide +kernel)) (tb_in 94 (by decide +kernel) (by decide +kernel)) (tb_in 95 (by decide +kernel) (by decide +kernel)) (by decide) (by decide) ?_
  refine k_gp rfl rfl (by first | trivial | decide | (simp only [true_and, mm_fits]; omega)) ?_
  refine k_mmax rfl (tb_in 550 (by decide +kernel) (by decide +kernel)) (tb_in 551 (by decide +kernel) (by decide +kernel)) (tb_in 81 (by decide +kernel) (by decide +kernel)) (tb_in 552 (by decide +kernel) (by decide +kernel)) (by decide) (by decide) ?_
  refine k_gp rfl rfl (by first | trivial | decide | (simp only [true_and, mm_fits]; omega)) ?_
  refine k_newa (kd := 1) (g := 63) (N := 8) (n1 := (0, 0)) (by decide) rfl rfl rfl (by decide) (tb_in 172 (by decide +kernel) (by decide +kernel)) (by simp [bN, bR, h63]) ⟨rfl, rfl⟩ ?_
  refine k_putr rfl rfl pp_X4_13 (fun _ => rfl) ?_
  exact k_ret rfl trivial ⟨rfl, rfl, rfl⟩
set_option maxRecDepth 100000 in
theorem ev_init_64 {b : mm_B} {w : mm_M} (h65 : 65 ∉ b.2) : mm_Ev K_X4_init (1, 8) [.inr (some (64, 0)), .inl 256] b w (mm_pe none (bR (bN b 65) 64 0 (some (65, 0))) (zr w 65)) := by
  refine ev_intro ok_X4_init mo_X4_init (Nat.le_of_ble_eq_true rfl) (fun hrg has => ?_)
  refine k_gp rfl rfl (by first | trivial | decide | (simp only [true_and, mm_fits]; omega)) ?_
  refine k_obji rfl (tb_in 549 (by decide +kernel) (by decide +kernel)) (tb_in 94 (by decide +kernel) (by decide +kernel)) (tb_in 95 (by decide +kernel) (by decide +kernel)) (by decide) (by decide) ?_
  refine k_gp rfl rfl (by first | trivial | decide | (simp only [true_and, mm_fits]; omega)) ?_
  refine k_mmax rfl (tb_in 550 (by decide +kernel) (by decide +kernel)) (tb_in 551 (by decide +kernel) (by decide +kernel)) (tb_in 81 (by decide +kernel) (by decide +kernel)) (tb_in 552 (by decide +kernel) (by decide +kernel)) (by decide) (by decide) ?_
  refine k_gp rfl rfl (by first | trivial | decide | (simp only [true_and, mm_fits]; omega)) ?_
  refine k_newa (kd := 1) (g := 65) (N := 8) (n1 := (0, 0)) (by decide) rfl rfl rfl (by decide) (tb_in 172 (by decide +kernel) (by decide +kernel)) (by simp [bN, bR, h65]) ⟨rfl, rfl⟩ ?_
  refine k_putr rfl rfl pp_X4_13 (fun _ => rfl) ?_
  exact k_ret rfl trivial ⟨rfl, rfl, rfl⟩
set_option maxRecDepth 100000 in
theorem ev_init_69 {b : mm_B} {w : mm_M} (h70 : 70 ∉ b.2) : mm_Ev K_X4_init (1, 8) [.inr (some (69, 0)), .inl 256] b w (mm_pe none (bR (bN b 70) 69 0 (some (70, 0))) (zr w 70)) := by
  refine ev_intro ok_X4_init mo_X4_init (Nat.le_of_ble_eq_true rfl) (fun hrg has => ?_)
  refine k_gp rfl rfl (by first | trivial | decide | (simp only [true_and, mm_fits]; omega)) ?_
  refine k_obji rfl (tb_in 549 (by decide +kernel) (by decide +kernel)) (tb_in 94 (by decide +kernel) (by decide +kernel)) (tb_in 95 (by decide +kernel) (by decide +kernel)) (by decide) (by decide) ?_
  refine k_gp rfl rfl (by first | trivial | decide | (simp only [true_and, mm_fits]; omega)) ?_
  refine k_mmax rfl (tb_in 550 (by decide +kernel) (by decide +kernel)) (tb_in 551 (by decide +kernel) (by decide +kernel)) (tb_in 81 (by decide +kernel) (by decide +kernel)) (tb_in 552 (by decide +kernel) (by decide +kernel)) (by decide) (by decide) ?_
  refine k_gp rfl rfl (by first | trivial | decide | (simp only [true_and, mm_fits]; omega)) ?_
  refine k_newa (kd := 1) (g := 70) (N := 8) (n1 := (0, 0)) (by decide) rfl rfl rfl (by decide) (tb_in 172 (by decide +kernel) (by decide +kernel)) (by simp [bN, bR, h70]) ⟨rfl, rfl⟩ ?_
  refine k_putr rfl rfl pp_X4_13 (fun _ => rfl) ?_
  exact k_ret rfl trivial ⟨rfl, rfl, rfl⟩
set_option maxRecDepth 100000 in
theorem ev_init_71 {b : mm_B} {w : mm_M} (h72 : 72 ∉ b.2) : mm_Ev K_X4_init (1, 8) [.inr (some (71, 0)), .inl 256] b w (mm_pe none (bR (bN b 72) 71 0 (some (72, 0))) (zr w 72)) := by
  refine ev_intro ok_X4_init mo_X4_init (Nat.le_of_ble_eq_true rfl) (fun hrg has => ?_)
  refine k_gp rfl rfl (by first | trivial | decide | (simp only [true_and, mm_fits]; omega)) ?_
  refine k_obji rfl (tb_in 549 (by decide +kernel) (by decide +kernel)) (tb_in 94 (by decide +kernel) (by decide +kernel)) (tb_in 95 (by decide +kernel) (by decide +kernel)) (by decide) (by decide) ?_
  refine k_gp rfl rfl (by first | trivial | decide | (simp only [true_and, mm_fits]; omega)) ?_
  refine k_mmax rfl (tb_in 550 (by decide +kernel) (by decide +kernel)) (tb_in 551 (by decide +kernel) (by decide +kernel)) (tb_in 81 (by decide +kernel) (by decide +kernel)) (tb_in 552 (by decide +kernel) (by decide +kernel)) (by decide) (by decide) ?_
  refine k_gp rfl rfl (by first | trivial | decide | (simp only [true_and, mm_fits]; omega)) ?_
  refine k_newa (kd := 1) (g := 72) (N := 8) (n1 := (0, 0)) (by decide) rfl rfl rfl (by decide) (tb_in 172 (by decide +kernel) (by decide +kernel)) (by simp [bN, bR, h72]) ⟨rfl, rfl⟩ ?_
  refine k_putr rfl rfl pp_X4_13 (fun _ => rfl) ?_
  exact k_ret rfl trivial ⟨rfl, rfl, rfl⟩
set_option maxRecDepth 100000 in
theorem ev_init_75 {b : mm_B} {w : mm_M} (h76 : 76 ∉ b.2) : mm_Ev K_X4_init (1, 16) [.inr (some (75, 0)), .inl 512] b w (mm_pe none (bR (bN b 76) 75 0 (some (76, 0))) (zr w 76)) := by
  refine ev_intro ok_X4_init mo_X4_init (Nat.le_of_ble_eq_true rfl) (fun hrg has => ?_)
  refine k_gp rfl rfl (by first | trivial | decide | (simp only [true_and, mm_fits]; omega)) ?_
  refine k_obji rfl (tb_in 549 (by decide +kernel) (by decide +kernel)) (tb_in 94 (by decide +kernel) (by decide +kernel)) (tb_in 95 (by decide +kernel) (by decide +kernel)) (by decide) (by decide) ?_
  refine k_gp rfl rfl (by first | trivial | decide | (simp only [true_and, mm_fits]; omega)) ?_
  refine k_mmax rfl (tb_in 550 (by decide +kernel) (by decide +kernel)) (tb_in 551 (by decide +kernel) (by decide +kernel)) (tb_in 81 (by decide +kernel) (by decide +kernel)) (tb_in 552 (by decide +kernel) (by decide +kernel)) (by decide) (by decide) ?_
  refine k_gp rfl rfl (by first | trivial | decide | (simp only [true_and, mm_fits]; omega)) ?_
  refine k_newa (kd := 1) (g := 76) (N := 16) (n1 := (0, 0)) (by decide) rfl rfl rfl (by decide) (tb_in 172 (by decide +kernel) (by decide +kernel)) (by simp [bN, bR, h76]) ⟨rfl, rfl⟩ ?_
  refine k_putr rfl rfl pp_X4_13 (fun _ => rfl) ?_
  exact k_ret rfl trivial ⟨rfl, rfl, rfl⟩
set_option maxRecDepth 100000 in
theorem ev_init_80 {b : mm_B} {w : mm_M} (h81 : 81 ∉ b.2) : mm_Ev K_X4_init (1, 64) [.inr (some (80, 0)), .inl 2048] b w (mm_pe none (bR (bN b 81) 80 0 (some (81, 0))) (zr w 81)) := by
  refine ev_intro ok_X4_init mo_X4_init (Nat.le_of_ble_eq_true rfl) (fun hrg has => ?_)
  refine k_gp rfl rfl (by first | trivial | decide | (simp only [true_and, mm_fits]; omega)) ?_
  refine k_obji rfl (tb_in 549 (by decide +kernel) (by decide +kernel)) (tb_in 94 (by decide +kernel) (by decide +kernel)) (tb_in 95 (by decide +kernel) (by decide +kernel)) (by decide) (by decide) ?_
  refine k_gp rfl rfl (by first | trivial | decide | (simp only [true_and, mm_fits]; omega)) ?_
  refine k_mmax rfl (tb_in 550 (by decide +kernel) (by decide +kernel)) (tb_in 551 (by decide +kernel) (by decide +kernel)) (tb_in 81 (by decide +kernel) (by decide +kernel)) (tb_in 552 (by decide +kernel) (by decide +kernel)) (by decide) (by decide) ?_
  refine k_gp rfl rfl (by first | trivial | decide | (simp only [true_and, mm_fits]; omega)) ?_
  refine k_newa (kd := 1) (g := 81) (N := 64) (n1 := (0, 0)) (by decide) rfl rfl rfl (by decide) (tb_in 172 (by decide +kernel) (by decide +kernel)) (by simp [bN, bR, h81]) ⟨rfl, rfl⟩ ?_
  refine k_putr rfl rfl pp_X4_13 (fun _ => rfl) ?_
  exact k_ret rfl trivial ⟨rfl, rfl, rfl⟩
set_option maxRecDepth 100000 in
theorem ev_init_82 {b : mm_B} {w : mm_M} (h83 : 83 ∉ b.2) : mm_Ev K_X4_init (1, 8) [.inr (some (82, 0)), .inl 256] b w (mm_pe none (bR (bN b 83) 82 0 (some (83, 0))) (zr w 83)) := by
  refine ev_intro ok_X4_init mo_X4_init (Nat.le_of_ble_eq_true rfl) (fun hrg has => ?_)
  refine k_gp rfl rfl (by first | trivial | decide | (simp only [true_and, mm_fits]; omega)) ?_
  refine k_obji rfl (tb_in 549 (by decide +kernel) (by decide +kernel)) (tb_in 94 (by decide +kernel) (by decide +kernel)) (tb_in 95 (by decide +kernel) (by decide +kernel)) (by decide) (by decide) ?_
  refine k_gp rfl rfl (by first | trivial | decide | (simp only [true_and, mm_fits]; omega)) ?_
  refine k_mmax rfl (tb_in 550 (by decide +kernel) (by decide +kernel)) (tb_in 551 (by decide +kernel) (by decide +kernel)) (tb_in 81 (by decide +kernel) (by decide +kernel)) (tb_in 552 (by decide +kernel) (by decide +kernel)) (by decide) (by decide) ?_
  refine k_gp rfl rfl (by first | trivial | decide | (simp only [true_and, mm_fits]; omega)) ?_
  refine k_newa (kd := 1) (g := 83) (N := 8) (n1 := (0, 0)) (by decide) rfl rfl rfl (by decide) (tb_in 172 (by decide +kernel) (by decide +kernel)) (by simp [bN, bR, h83]) ⟨rfl, rfl⟩ ?_
  refine k_putr rfl rfl pp_X4_13 (fun _ => rfl) ?_
  exact k_ret rfl trivial ⟨rfl, rfl, rfl⟩
set_option maxRecDepth 100000 in
theorem ev_init_84 {b : mm_B} {w : mm_M} (h85 : 85 ∉ b.2) : mm_Ev K_X4_init (1, 8) [.inr (some (84, 0)), .inl 256] b w (mm_pe none (bR (bN b 85) 84 0 (some (85, 0))) (zr w 85)) := by
  refine ev_intro ok_X4_init mo_X4_init (Nat.le_of_ble_eq_true rfl) (fun hrg has => ?_)
  refine k_gp rfl rfl (by first | trivial | decide | (simp only [true_and, mm_fits]; omega)) ?_
  refine k_obji rfl (tb_in 549 (by decide +kernel) (by decide +kernel)) (tb_in 94 (by decide +kernel) (by decide +kernel)) (tb_in 95 (by decide +kernel) (by decide +kernel)) (by decide) (by decide) ?_
  refine k_gp rfl rfl (by first | trivial | decide | (simp only [true_and, mm_fits]; omega)) ?_
  refine k_mmax rfl (tb_in 550 (by decide +kernel) (by decide +kernel)) (tb_in 551 (by decide +kernel) (by decide +kernel)) (tb_in 81 (by decide +kernel) (by decide +kernel)) (tb_in 552 (by decide +kernel) (by decide +kernel)) (by decide) (by decide) ?_
  refine k_gp rfl rfl (by first | trivial | decide | (simp only [true_and, mm_fits]; omega)) ?_
  refine k_newa (kd := 1) (g := 85) (N := 8) (n1 := (0, 0)) (by decide) rfl rfl rfl (by decide) (tb_in 172 (by decide +kernel) (by decide +kernel)) (by simp [bN, bR, h85]) ⟨rfl, rfl⟩ ?_
  refine k_putr rfl rfl pp_X4_13 (fun _ => rfl) ?_
  exact k_ret rfl trivial ⟨rfl, rfl, rfl⟩
theorem pp_X5_9 : mm_pok RX5 (9, 5, 5, 2, 5) true := ⟨RX5, TX5, 9, tyX5, rfl, tb_X5, tyX5_ok, nmX5, by decide, tb_in 135 (by decide +kernel) (by decide +kernel), rfl, rfl, rfl, fun _ => rfl, fun a => ⟨rfl, rfl⟩⟩
theorem pp_X5_15 : mm_pok RX5 (15, 5, 6, 2, 6) true := ⟨RX5, TX5, 9, tyX5, rfl, tb_X5, tyX5_ok, nmX5, by decide, tb_in 138 (by decide +kernel) (by decide +kernel), rfl, rfl, rfl, fun _ => rfl, fun a => ⟨rfl, rfl⟩⟩
theorem pp_X5_20 : mm_pok RX5 (20, 5, 7, 2, 7) true := ⟨RX5, TX5, 9, tyX5, rfl, tb_X5, tyX5_ok, nmX5, by decide, tb_in 141 (by decide +kernel) (by decide +kernel), rfl, rfl, rfl, fun _ => rfl, fun a => ⟨rfl, rfl⟩⟩
theorem pp_X5_23 : mm_pok RX5 (23, 5, 8, 2, 8) true := ⟨RX5, TX5, 9, tyX5, rfl, tb_X5, tyX5_ok, nmX5, by decide, tb_in 144 (by decide +kernel) (by decide +kernel), rfl, rfl, rfl, fun _ => rfl, fun a => ⟨rfl, rfl⟩⟩
set_option maxRecDepth 100000 in
theorem ev_init_24 {b : mm_B} {w : mm_M} (h25 : 25 ∉ b.2) (h26 : 26 ∉ b.2) (h27 : 27 ∉ b.2) (h28 : 28 ∉ b.2) (h29 : 29 ∉ b.2) (h30 : 30 ∉ b.2) : mm_Ev K_X5_init (26, 150) [.inr (some (24, 0))] b w (mm_pe none (bR (bN (bN (bR (bN (bN (bR (bN (bR (bN b 25) 24 5 (some (25, 0))) 26) 24 6 (some (26, 0))) 27) 28) 24 7 (some (27, 0))) 29) 30) 24 8 (some (29, 0))) (zr (zr (zr (zr (zr (zr w 25) 26) 27) 28) 29) 30)) := by
  refine ev_intro ok_X5_init mo_X5_init (Nat.le_of_ble_eq_true rfl) (fun hrg has => ?_)
  refine k_gp rfl rfl (by first | trivial | decide | (simp only [true_and, mm_fits]; omega)) ?_
  refine k_obji rfl (tb_in 107 (by decide +kernel) (by decide +kernel)) (tb_in 94 (by decide +kernel) (by decide +kernel)) (tb_in 95 (by decide +kernel) (by decide +kernel)) (by decide) (by decide) ?_
  refine k_gp rfl rfl (by first | trivial | decide | (simp only [true_and, mm_fits]; omega)) ?_
  refine k_newa (kd := 1) (g := 25) (N := 3) (n1 := (25, 147)) (by decide) rfl rfl rfl (by decide) (tb_in 172 (by decide +kernel) (by decide +kernel)) (by simp [bN, bR, h25, h26, h27, h28, h29, h30]) ⟨rfl, rfl⟩ ?_
  refine k_putr rfl rfl pp_X5_9 (fun _ => rfl) ?_
  refine k_gp rfl rfl (by first | trivial | decide | (simp only [true_and, mm_fits]; omega)) ?_
  refine k_newa (kd := 1) (g := 26) (N := 3) (n1 := (24, 144)) (by decide) rfl rfl rfl (by decide) (tb_in 172 (by decide +kernel) (by decide +kernel)) (by simp [bN, bR, h25, h26, h27, h28, h29, h30]) ⟨rfl, rfl⟩ ?_
  refine k_putr rfl rfl pp_X5_15 (fun _ => rfl) ?_
  refine k_gp rfl rfl (by first | trivial | decide | (simp only [true_and, mm_fits]; omega)) ?_
  refine k_mna (g := 27) (rg := 28) (N := 8) (M := 3) (n1 := (15, 112)) rfl rfl rfl rfl rfl ⟨by decide, by decide⟩ (tb_in 108 (by decide +kernel) (by decide +kernel)) (tb_in 172 (by decide +kernel) (by decide +kernel)) (by simp [bN, bR, h25, h26, h27, h28, h29, h30]) (by simp [bN, bR, h25, h26, h27, h28, h29, h30]) (by decide) ⟨rfl, rfl⟩ ?_
  refine k_putr rfl rfl pp_X5_20 (fun _ => rfl) ?_
  refine k_gp rfl rfl (by first | trivial | decide | (simp only [true_and, mm_fits]; omega)) ?_
  refine k_mna (g := 29) (rg := 30) (N := 14) (M := 7) (n1 := (0, 0)) rfl rfl rfl rfl rfl ⟨by decide, by decide⟩ (tb_in 108 (by decide +kernel) (by decide +kernel)) (tb_in 172 (by decide +kernel) (by decide +kernel)) (by simp [bN, bR, h25, h26, h27, h28, h29, h30]) (by simp [bN, bR, h25, h26, h27, h28, h29, h30]) (by decide) ⟨rfl, rfl⟩ ?_
  refine k_putr rfl rfl pp_X5_23 (fun _ => rfl) ?_
  exact k_ret rfl trivial ⟨rfl, rfl, rfl⟩
set_option maxRecDepth 100000 in
theorem ev_init_32 {b : mm_B} {w : mm_M} (h33 : 33 ∉ b.2) (h34 : 34 ∉ b.2) (h35 : 35 ∉ b.2) (h36 : 36 ∉ b.2) (h37 : 37 ∉ b.2) (h38 : 38 ∉ b.2) : mm_Ev K_X5_init (26, 150) [.inr (some (32, 0))] b w (mm_pe none (bR (bN (bN (bR (bN (bN (bR (bN (bR (bN b 33) 32 5 (some (33, 0))) 34) 32 6 (some (34, 0))) 35) 36) 32 7 (some (35, 0))) 37) 38) 32 8 (some (37, 0))) (zr (zr (zr (zr (zr (zr w 33) 34) 35) 36) 37) 38)) := by
  refine ev_intro ok_X5_init mo_X5_init (Nat.le_of_ble_eq_true rfl) (fun hrg has => ?_)
  refine k_gp rfl rfl (by first | trivial | decide | (simp only [true_and, mm_fits]; omega)) ?_
  refine k_obji rfl (tb_in 107 (by decide +kernel) (by decide +kernel)) (tb_in 94 (by decide +kernel) (by decide +kernel)) (tb_in 95 (by decide +kernel) (by decide +kernel)) (by decide) (by decide) ?_
  refine k_gp rfl rfl (by first | trivial | decide | (simp only [true_and, mm_fits]; omega)) ?_
  refine k_newa (kd := 1) (g := 33) (N := 3) (n1 := (25, 147)) (by decide) rfl rfl rfl (by decide) (tb_in 172 (by decide +kernel) (by decide +kernel)) (by simp [bN, bR, h33, h34, h35, h36, h37, h38]) ⟨rfl, rfl⟩ ?_
  refine k_putr rfl rfl pp_X5_9 (fun _ => rfl) ?_
  refine k_gp rfl rfl (by first | trivial | decide | (simp only [true_and, mm_fits]; omega)) ?_
  refine k_newa (kd := 1) (g := 34) (N := 3) (n1 := (24, 144)) (by decide) rfl rfl rfl (by decide) (tb_in 172 (by decide +kernel) (by decide +kernel)) (by simp [bN, bR, h33, h34, h35, h36, h37, h38]) ⟨rfl, rfl⟩ ?_
  refine k_putr rfl rfl pp_X5_15 (fun _ => rfl) ?_
  refine k_gp rfl rfl (by first | trivial | decide | (simp only [true_and, mm_fits]; omega)) ?_
  refine k_mna (g := 35) (rg := 36) (N := 8) (M := 3) (n1 := (15, 112)) rfl rfl rfl rfl rfl ⟨by decide, by decide⟩ (tb_in 108 (by decide +kernel) (by decide +kernel)) (tb_in 172 (by decide +kernel) (by decide +kernel)) (by simp [bN, bR, h33, h34, h35, h36, h37, h38]) (by simp [bN, bR, h33, h34, h35, h36, h37, h38]) (by decide) ⟨rfl, rfl⟩ ?_
  refine k_putr rfl rfl pp_X5_20 (fun _ => rfl) ?_
  refine k_gp rfl rfl (by first | trivial | decide | (simp only [true_and, mm_fits]; omega)) ?_
  refine k_mna (g := 37) (rg := 38) (N := 14) (M := 7) (n1 := (0, 0)) rfl rfl rfl rfl rfl ⟨by decide, by decide⟩ (tb_in 108 (by decide +kernel) (by decide +kernel)) (tb_in 172 (by decide +kernel) (by decide +kernel)) (by simp [bN, bR, h33, h34, h35, h36, h37, h38]) (by simp [bN, bR, h33, h34, h35, h36, h37, h38]) (by decide) ⟨rfl, rfl⟩ ?_
  refine k_putr rfl rfl pp_X5_23 (fun _ => rfl) ?_
  exact k_ret rfl trivial ⟨rfl, rfl, rfl⟩
theorem pp_X7_9 : mm_pok RX7 (9, 7, 0, 2, 0) true := ⟨RX7, TX7, 4, tyX7, rfl, tb_X7, tyX7_ok, nmX7, by decide, tb_in 173 (by decide +kernel) (by decide +kernel), rfl, rfl, rfl, fun _ => rfl, fun a => ⟨rfl, rfl⟩⟩
theorem pp_X7_18 : mm_pok RX7 (18, 7, 2, 2, 2) true := ⟨RX7, TX7, 4, tyX7, rfl, tb_X7, tyX7_ok, nmX7, by decide, tb_in 175 (by decide +kernel) (by decide +kernel), rfl, rfl, rfl, fun _ => rfl, fun a => ⟨rfl, rfl⟩⟩
theorem pp_X7_22 : mm_pok RX7 (22, 7, 3, 2, 3) true := ⟨RX7, TX7, 4, tyX7, rfl, tb_X7, tyX7_ok, nmX7, by decide, tb_in 176 (by decide +kernel) (by decide +kernel), rfl, rfl, rfl, fun _ => rfl, fun a => ⟨rfl, rfl⟩⟩
set_option maxRecDepth 100000 in
theorem ev_init_22 {b : mm_B} {w : mm_M} (h23 : 23 ∉ b.2) (h24 : 24 ∉ b.2) (h25 : 25 ∉ b.2) (h26 : 26 ∉ b.2) (h27 : 27 ∉ b.2) (h28 : 28 ∉ b.2) (h29 : 29 ∉ b.2) (h30 : 30 ∉ b.2) (h31 : 31 ∉ b.2) : mm_Ev K_X7_init (29, 366) [.inr (some (22, 0))] b w (mm_pe none (bR (bN (bR (bR (bN (bN (bR (bN (bN (bR (bN (bR (bN (bN (bR (bN b 23) 22 0 (some (23, 0))) 24) 25) 24 5 (some (25, 0))) 26) 24 6 (some (26, 0))) 27) 28) 24 7 (some (27, 0))) 29) 30) 24 8 (some (29, 0))) 22 2 (some (24, 0))) 31) 22 3 (some (31, 0))) (zr (zr (zr (zr (zr (zr (zr (zr (zr w 23) 24) 25) 26) 27) 28) 29) 30) 31)) := by
  refine ev_intro ok_X7_init mo_X7_init (Nat.le_of_ble_eq_true rfl) (fun hrg has => ?_)
  refine k_gp rfl rfl (by first | trivial | decide | (simp only [true_and, mm_fits]; omega)) ?_
  refine k_obji rfl (tb_in 101 (by decide +kernel) (by decide +kernel)) (tb_in 94 (by decide +kernel) (by decide +kernel)) (tb_in 95 (by decide +kernel) (by decide +kernel)) (by decide) (by decide) ?_
  refine k_gp rfl rfl (by first | trivial | decide | (simp only [true_and, mm_fits]; omega)) ?_
  refine k_newa (kd := 3) (g := 23) (N := 200) (n1 := (28, 166)) (by decide) rfl rfl rfl (by decide) (tb_in 171 (by decide +kernel) (by decide +kernel)) (by simp [bN, bR, h23, h24, h25, h26, h27, h28, h29, h30, h31]) ⟨rfl, rfl⟩ ?_
  refine k_putr rfl rfl pp_X7_9 (fun _ => rfl) ?_
  refine k_gp rfl rfl (by first | trivial | decide | (simp only [true_and, mm_fits]; omega)) ?_
  refine k_newo (g := 24) (n1 := (27, 157)) rfl rfl ck_X7_15 (by simp [bN, bR, h23, h24, h25, h26, h27, h28, h29, h30, h31]) ⟨rfl, rfl⟩ ?_
  refine k_gp rfl rfl (by first | trivial | decide | (simp only [true_and, mm_fits]; omega)) ?_
  refine k_call (n1 := (1, 7)) (n' := (26, 150)) rfl (ev_init_24 (by simp [bN, bR, h23, h24, h25, h26, h27, h28, h29, h30, h31]) (by simp [bN, bR, h23, h24, h25, h26, h27, h28, h29, h30, h31]) (by simp [bN, bR, h23, h24, h25, h26, h27, h28, h29, h30, h31]) (by simp [bN, bR, h23, h24, h25, h26, h27, h28, h29, h30, h31]) (by simp [bN, bR, h23, h24, h25, h26, h27, h28, h29, h30, h31]) (by simp [bN, bR, h23, h24, h25, h26, h27, h28, h29, h30, h31])) rfl rfl rfl (fun _ => rfl) ⟨rfl, rfl⟩ ?_
  rintro a b' w' ⟨rfl, rfl, rfl⟩
  refine k_putr rfl rfl pp_X7_18 (fun _ => rfl) ?_
  refine k_gp rfl rfl (by first | trivial | decide | (simp only [true_and, mm_fits]; omega)) ?_
  refine k_newa (kd := 1) (g := 31) (N := 7) (n1 := (0, 0)) (by decide) rfl rfl rfl (by decide) (tb_in 172 (by decide +kernel) (by decide +kernel)) (by simp [bN, bR, h23, h24, h25, h26, h27, h28, h29, h30, h31]) ⟨rfl, rfl⟩ ?_
  refine k_putr rfl rfl pp_X7_22 (fun _ => rfl) ?_
  exact k_ret rfl trivial ⟨rfl, rfl, rfl⟩
theorem pp_X3_9 : mm_pok RX3 (9, 3, 1, 2, 1) true := ⟨RX3, TX3, 6, tyX3, rfl, tb_X3, tyX3_ok, nmX3, by decide, tb_in 195 (by decide +kernel) (by decide +kernel), rfl, rfl, rfl, fun _ => rfl, fun a => ⟨rfl, rfl⟩⟩
theorem pp_X3_15 : mm_pok RX3 (15, 3, 2, 2, 2) true := ⟨RX3, TX3, 6, tyX3, rfl, tb_X3, tyX3_ok, nmX3, by decide, tb_in 196 (by decide +kernel) (by decide +kernel), rfl, rfl, rfl, fun _ => rfl, fun a => ⟨rfl, rfl⟩⟩
theorem pp_X3_18 : mm_pok RX3 (18, 3, 0, 2, 0) true := ⟨RX3, TX3, 6, tyX3, rfl, tb_X3, tyX3_ok, nmX3, by decide, tb_in 194 (by decide +kernel) (by decide +kernel), rfl, rfl, rfl, fun _ => rfl, fun a => ⟨rfl, rfl⟩⟩
set_option maxRecDepth 100000 in
theorem ev_init_39 {b : mm_B} {w : mm_M} (h40 : 40 ∉ b.2) (h41 : 41 ∉ b.2) : mm_Ev K_X3_init (2, 1024) [.inr (some (39, 0)), .inr (some (32, 0))] b w (mm_pe none (bR (bR (bN (bR (bN b 40) 39 1 (some (40, 0))) 41) 39 2 (some (41, 0))) 39 0 (some (32, 0))) (zr (zr w 40) 41)) := by
  refine ev_intro ok_X3_init mo_X3_init (Nat.le_of_ble_eq_true rfl) (fun hrg has => ?_)
  refine k_gp rfl rfl (by first | trivial | decide | (simp only [true_and, mm_fits]; omega)) ?_
  refine k_obji rfl (tb_in 193 (by decide +kernel) (by decide +kernel)) (tb_in 94 (by decide +kernel) (by decide +kernel)) (tb_in 95 (by decide +kernel) (by decide +kernel)) (by decide) (by decide) ?_
  refine k_gp rfl rfl (by first | trivial | decide | (simp only [true_and, mm_fits]; omega)) ?_
  refine k_newa (kd := 1) (g := 40) (N := 512) (n1 := (1, 512)) (by decide) rfl rfl rfl (by decide) (tb_in 172 (by decide +kernel) (by decide +kernel)) (by simp [bN, bR, h40, h41]) ⟨rfl, rfl⟩ ?_
  refine k_putr rfl rfl pp_X3_9 (fun _ => rfl) ?_
  refine k_gp rfl rfl (by first | trivial | decide | (simp only [true_and, mm_fits]; omega)) ?_
  refine k_newa (kd := 1) (g := 41) (N := 512) (n1 := (0, 0)) (by decide) rfl rfl rfl (by decide) (tb_in 172 (by decide +kernel) (by decide +kernel)) (by simp [bN, bR, h40, h41]) ⟨rfl, rfl⟩ ?_
  refine k_putr rfl rfl pp_X3_15 (fun _ => rfl) ?_
  refine k_gp rfl rfl (by first | trivial | decide | (simp only [true_and, mm_fits]; omega)) ?_
  refine k_putr rfl rfl pp_X3_18 (fun _ => rfl) ?_
  exact k_ret rfl trivial ⟨rfl, rfl, rfl⟩
theorem pp_X0_11 : mm_pok RX0 (11, 0, 0, 2, 0) true := ⟨RX0, TX0, 4, tyX0, rfl, tb_X0, tyX0_ok, nmX0, by decide, tb_in 220 (by decide +kernel) (by decide +kernel), rfl, rfl, rfl, fun _ => rfl, fun a => ⟨rfl, rfl⟩⟩
theorem pp_X0_16 : mm_pok RX0 (16, 0, 1, 2, 1) true := ⟨RX0, TX0, 4, tyX0, rfl, tb_X0, tyX0_ok, nmX0, by decide, tb_in 221 (by decide +kernel) (by decide +kernel), rfl, rfl, rfl, fun _ => rfl, fun a => ⟨rfl, rfl⟩⟩
set_option maxRecDepth 100000 in
theorem ev_init_43 {b : mm_B} {w : mm_M} (h44 : 44 ∉ b.2) (h45 : 45 ∉ b.2) (h46 : 46 ∉ b.2) : mm_Ev K_X0_init (8, 60) [.inr (some (43, 0))] b w (mm_pe none (bR (bN (bR (bN (bN b 44) 45) 43 0 (some (44, 0))) 46) 43 1 (some (46, 0))) (zr (zr (zr w 44) 45) 46)) := by
  refine ev_intro ok_X0_init mo_X0_init (Nat.le_of_ble_eq_true rfl) (fun hrg has => ?_)
  refine k_gp rfl rfl (by first | trivial | decide | (simp only [true_and, mm_fits]; omega)) ?_
  refine k_obji rfl (tb_in 218 (by decide +kernel) (by decide +kernel)) (tb_in 94 (by decide +kernel) (by decide +kernel)) (tb_in 95 (by decide +kernel) (by decide +kernel)) (by decide) (by decide) ?_
  refine k_gp rfl rfl (by first | trivial | decide | (simp only [true_and, mm_fits]; omega)) ?_
  refine k_mna (g := 44) (rg := 45) (N := 6) (M := 8) (n1 := (1, 6)) rfl rfl rfl rfl rfl ⟨by decide, by decide⟩ (tb_in 219 (by decide +kernel) (by decide +kernel)) (tb_in 172 (by decide +kernel) (by decide +kernel)) (by simp [bN, bR, h44, h45, h46]) (by simp [bN, bR, h44, h45, h46]) (by decide) ⟨rfl, rfl⟩ ?_
  refine k_putr rfl rfl pp_X0_11 (fun _ => rfl) ?_
  refine k_gp rfl rfl (by first | trivial | decide | (simp only [true_and, mm_fits]; omega)) ?_
  refine k_newa (kd := 1) (g := 46) (N := 6) (n1 := (0, 0)) (by decide) rfl rfl rfl (by decide) (tb_in 172 (by decide +kernel) (by decide +kernel)) (by simp [bN, bR, h44, h45, h46]) ⟨rfl, rfl⟩ ?_
  refine k_putr rfl rfl pp_X0_16 (fun _ => rfl) ?_
  exact k_ret rfl trivial ⟨rfl, rfl, rfl⟩
theorem pp_X6_11 : mm_pok RX6 (11, 6, 2, 2, 2) true := ⟨RX6, TX6, 10, tyX6, rfl, tb_X6, tyX6_ok, nmX6, by decide, tb_in 559 (by decide +kernel) (by decide +kernel), rfl, rfl, rfl, fun _ => rfl, fun a => ⟨rfl, rfl⟩⟩
theorem pp_X6_15 : mm_pok RX6 (15, 6, 3, 2, 3) true := ⟨RX6, TX6, 10, tyX6, rfl, tb_X6, tyX6_ok, nmX6, by decide, tb_in 560 (by decide +kernel) (by decide +kernel), rfl, rfl, rfl, fun _ => rfl, fun a => ⟨rfl, rfl⟩⟩
theorem pp_X6_23 : mm_pok RX6 (23, 6, 4, 2, 4) true := ⟨RX6, TX6, 10, tyX6, rfl, tb_X6, tyX6_ok, nmX6, by decide, tb_in 561 (by decide +kernel) (by decide +kernel), rfl, rfl, rfl, fun _ => rfl, fun a => ⟨rfl, rfl⟩⟩
theorem pp_X6_27 : mm_pok RX6 (27, 6, 5, 2, 5) true := ⟨RX6, TX6, 10, tyX6, rfl, tb_X6, tyX6_ok, nmX6, by decide, tb_in 562 (by decide +kernel) (by decide +kernel), rfl, rfl, rfl, fun _ => rfl, fun a => ⟨rfl, rfl⟩⟩
theorem pp_X6_30 : mm_pok RX6 (30, 6, 6, 2, 6) true := ⟨RX6, TX6, 10, tyX6, rfl, tb_X6, tyX6_ok, nmX6, by decide, tb_in 563 (by decide +kernel) (by decide +kernel), rfl, rfl, rfl, fun _ => rfl, fun a => ⟨rfl, rfl⟩⟩
theorem pp_X6_33 : mm_pok RX6 (33, 6, 7, 2, 7) true := ⟨RX6, TX6, 10, tyX6, rfl, tb_X6, tyX6_ok, nmX6, by decide, tb_in 564 (by decide +kernel) (by decide +kernel), rfl, rfl, rfl, fun _ => rfl, fun a => ⟨rfl, rfl⟩⟩
theorem pp_X6_36 : mm_pok RX6 (36, 6, 0, 2, 0) true := ⟨RX6, TX6, 10, tyX6, rfl, tb_X6, tyX6_ok, nmX6, by decide, tb_in 557 (by decide +kernel) (by decide +kernel), rfl, rfl, rfl, fun _ => rfl, fun a => ⟨rfl, rfl⟩⟩
theorem pp_X6_40 : mm_pok RX6 (40, 6, 1, 2, 1) true := ⟨RX6, TX6, 10, tyX6, rfl, tb_X6, tyX6_ok, nmX6, by decide, tb_in 558 (by decide +kernel) (by decide +kernel), rfl, rfl, rfl, fun _ => rfl, fun a => ⟨rfl, rfl⟩⟩
set_option maxRecDepth 100000 in
theorem ev_init_47 {b : mm_B} {w : mm_M} (h48 : 48 ∉ b.2) (h49 : 49 ∉ b.2) (h50 : 50 ∉ b.2) (h51 : 51 ∉ b.2) (h52 : 52 ∉ b.2) (h53 : 53 ∉ b.2) (h54 : 54 ∉ b.2) : mm_Ev K_X6_init (7, 8345) [.inr (some (47, 0)), .inr (some (32, 0)), .inr (some (39, 0))] b w (mm_pe none (bR (bR (bR (bN (bR (bN (bR (bN (bR (bR (bN (bN (bR (bN (bR (bN b 48) 47 2 (some (48, 0))) 49) 47 3 (some (49, 0))) 50) 51) 50 0 (some (51, 0))) 47 4 (some (50, 0))) 52) 47 5 (some (52, 0))) 53) 47 6 (some (53, 0))) 54) 47 7 (some (54, 0))) 47 0 (some (32, 0))) 47 1 (some (39, 0))) (zr (zr (zr (zr (zr (zr (zr w 48) 49) 50) 51) 52) 53) 54)) := by
  refine ev_intro ok_X6_init mo_X6_init (Nat.le_of_ble_eq_true rfl) (fun hrg has => ?_)
  refine k_gp rfl rfl (by first | trivial | decide | (simp only [true_and, mm_fits]; omega)) ?_
  refine k_obji rfl (tb_in 543 (by decide +kernel) (by decide +kernel)) (tb_in 94 (by decide +kernel) (by decide +kernel)) (tb_in 95 (by decide +kernel) (by decide +kernel)) (by decide) (by decide) ?_
  refine k_gp rfl rfl (by first | trivial | decide | (simp only [true_and, mm_fits]; omega)) ?_
  refine k_newa (kd := 1) (g := 48) (N := 4096) (n1 := (6, 4249)) (by decide) rfl rfl rfl (by decide) (tb_in 172 (by decide +kernel) (by decide +kernel)) (by simp [bN, bR, h48, h49, h50, h51, h52, h53, h54]) ⟨rfl, rfl⟩ ?_
  refine k_putr rfl rfl pp_X6_11 (fun _ => rfl) ?_
  refine k_gp rfl rfl (by first | trivial | decide | (simp only [true_and, mm_fits]; omega)) ?_
  refine k_newa (kd := 1) (g := 49) (N := 4096) (n1 := (5, 153)) (by decide) rfl rfl rfl (by decide) (tb_in 172 (by decide +kernel) (by decide +kernel)) (by simp [bN, bR, h48, h49, h50, h51, h52, h53, h54]) ⟨rfl, rfl⟩ ?_
  refine k_putr rfl rfl pp_X6_15 (fun _ => rfl) ?_
  refine k_gp rfl rfl (by first | trivial | decide | (simp only [true_and, mm_fits]; omega)) ?_
  refine k_newo (g := 50) (n1 := (4, 152)) rfl rfl ck_X6_18 (by simp [bN, bR, h48, h49, h50, h51, h52, h53, h54]) ⟨rfl, rfl⟩ ?_
  refine k_gp rfl rfl (by first | trivial | decide | (simp only [true_and, mm_fits]; omega)) ?_
  refine k_call (n1 := (3, 24)) (n' := (1, 128)) rfl (ev_init_50 (by simp [bN, bR, h48, h49, h50, h51, h52, h53, h54])) rfl rfl rfl (fun _ => rfl) ⟨rfl, rfl⟩ ?_
  rintro a b' w' ⟨rfl, rfl, rfl⟩
  refine k_putr rfl rfl pp_X6_23 (fun _ => rfl) ?_
  refine k_gp rfl rfl (by first | trivial | decide | (simp only [true_and, mm_fits]; omega)) ?_
  refine k_newa (kd := 1) (g := 52) (N := 8) (n1 := (2, 16)) (by decide) rfl rfl rfl (by decide) (tb_in 172 (by decide +kernel) (by decide +kernel)) (by simp [bN, bR, h48, h49, h50, h51, h52, h53, h54]) ⟨rfl, rfl⟩ ?_
  refine k_putr rfl rfl pp_X6_27 (fun _ => rfl) ?_
  refine k_gp rfl rfl (by first | trivial | decide | (simp only [true_and, mm_fits]; omega)) ?_
  refine k_newa (kd := 1) (g := 53) (N := 8) (n1 := (1, 8)) (by decide) rfl rfl rfl (by decide) (tb_in 172 (by decide +kernel) (by decide +kernel)) (by simp [bN, bR, h48, h49, h50, h51, h52, h53, h54]) ⟨rfl, rfl⟩ ?_
  refine k_putr rfl rfl pp_X6_30 (fun _ => rfl) ?_
  refine k_gp rfl rfl (by first | trivial | decide | (simp only [true_and, mm_fits]; omega)) ?_
  refine k_newa (kd := 1) (g := 54) (N := 8) (n1 := (0, 0)) (by decide) rfl rfl rfl (by decide) (tb_in 172 (by decide +kernel) (by decide +kernel)) (by simp [bN, bR, h48, h49, h50, h51, h52, h53, h54]) ⟨rfl, rfl⟩ ?_
  refine k_putr rfl rfl pp_X6_33 (fun _ => rfl) ?_
  refine k_gp rfl rfl (by first | trivial | decide | (simp only [true_and, mm_fits]; omega)) ?_
  refine k_putr rfl rfl pp_X6_36 (fun _ => rfl) ?_
  refine k_gp rfl rfl (by first | trivial | decide | (simp only [true_and, mm_fits]; omega)) ?_
  refine k_putr rfl rfl pp_X6_40 (fun _ => rfl) ?_
  exact k_ret rfl trivial ⟨rfl, rfl, rfl⟩
theorem pp_X1_11 : mm_pok RX1 (11, 1, 2, 2, 2) true := ⟨RX1, TX1, 9, tyX1, rfl, tb_X1, tyX1_ok, nmX1, by decide, tb_in 673 (by decide +kernel) (by decide +kernel), rfl, rfl, rfl, fun _ => rfl, fun a => ⟨rfl, rfl⟩⟩
theorem pp_X1_16 : mm_pok RX1 (16, 1, 3, 2, 3) true := ⟨RX1, TX1, 9, tyX1, rfl, tb_X1, tyX1_ok, nmX1, by decide, tb_in 674 (by decide +kernel) (by decide +kernel), rfl, rfl, rfl, fun _ => rfl, fun a => ⟨rfl, rfl⟩⟩
theorem pp_X1_20 : mm_pok RX1 (20, 1, 4, 2, 4) true := ⟨RX1, TX1, 9, tyX1, rfl, tb_X1, tyX1_ok, nmX1, by decide, tb_in 675 (by decide +kernel) (by decide +kernel), rfl, rfl, rfl, fun _ => rfl, fun a => ⟨rfl, rfl⟩⟩
theorem pp_X1_23 : mm_pok RX1 (23, 1, 5, 2, 5) true := ⟨RX1, TX1, 9, tyX1, rfl, tb_X1, tyX1_ok, nmX1, by decide, tb_in 676 (by decide +kernel) (by decide +kernel), rfl, rfl, rfl, fun _ => rfl, fun a => ⟨rfl, rfl⟩⟩
theorem pp_X1_26 : mm_pok RX1 (26, 1, 6, 2, 6) true := ⟨RX1, TX1, 9, tyX1, rfl, tb_X1, tyX1_ok, nmX1, by decide, tb_in 677 (by decide +kernel) (by decide +kernel), rfl, rfl, rfl, fun _ => rfl, fun a => ⟨rfl, rfl⟩⟩
theorem pp_X1_34 : mm_pok RX1 (34, 1, 7, 2, 7) true := ⟨RX1, TX1, 9, tyX1, rfl, tb_X1, tyX1_ok, nmX1, by decide, tb_in 678 (by decide +kernel) (by decide +kernel), rfl, rfl, rfl, fun _ => rfl, fun a => ⟨rfl, rfl⟩⟩
theorem pp_X1_38 : mm_pok RX1 (38, 1, 8, 2, 8) true := ⟨RX1, TX1, 9, tyX1, rfl, tb_X1, tyX1_ok, nmX1, by decide, tb_in 679 (by decide +kernel) (by decide +kernel), rfl, rfl, rfl, fun _ => rfl, fun a => ⟨rfl, rfl⟩⟩
theorem pp_X1_41 : mm_pok RX1 (41, 1, 0, 2, 0) true := ⟨RX1, TX1, 9, tyX1, rfl, tb_X1, tyX1_ok, nmX1, by decide, tb_in 671 (by decide +kernel) (by decide +kernel), rfl, rfl, rfl, fun _ => rfl, fun a => ⟨rfl, rfl⟩⟩
theorem pp_X1_45 : mm_pok RX1 (45, 1, 1, 2, 1) true := ⟨RX1, TX1, 9, tyX1, rfl, tb_X1, tyX1_ok, nmX1, by decide, tb_in 672 (by decide +kernel) (by decide +kernel), rfl, rfl, rfl, fun _ => rfl, fun a => ⟨rfl, rfl⟩⟩
set_option maxRecDepth 100000 in
theorem ev_init_55 {b : mm_B} {w : mm_M} (h56 : 56 ∉ b.2) (h57 : 57 ∉ b.2) (h58 : 58 ∉ b.2) (h59 : 59 ∉ b.2) (h60 : 60 ∉ b.2) (h61 : 61 ∉ b.2) (h62 : 62 ∉ b.2) (h63 : 63 ∉ b.2) (h64 : 64 ∉ b.2) (h65 : 65 ∉ b.2) : mm_Ev K_X1_init (23, 7997) [.inr (some (55, 0)), .inr (some (32, 0)), .inr (some (39, 0))] b w (mm_pe none (bR (bR (bR (bR (bN (bN (bR (bR (bN (bN (bR (bN (bR (bN (bR (bN (bR (bN (bR (bN (bN b 56) 57) 55 2 (some (56, 0))) 58) 55 3 (some (58, 0))) 59) 55 4 (some (59, 0))) 60) 55 5 (some (60, 0))) 61) 55 6 (some (61, 0))) 62) 63) 62 0 (some (63, 0))) 55 7 (some (62, 0))) 64) 65) 64 0 (some (65, 0))) 55 8 (some (64, 0))) 55 0 (some (32, 0))) 55 1 (some (39, 0))) (zr (zr (zr (zr (zr (zr (zr (zr (zr (zr w 56) 57) 58) 59) 60) 61) 62) 63) 64) 65)) := by
  refine ev_intro ok_X1_init mo_X1_init (Nat.le_of_ble_eq_true rfl) (fun hrg has => ?_)
  refine k_gp rfl rfl (by first | trivial | decide | (simp only [true_and, mm_fits]; omega)) ?_
  refine k_obji rfl (tb_in 667 (by decide +kernel) (by decide +kernel)) (tb_in 94 (by decide +kernel) (by decide +kernel)) (tb_in 95 (by decide +kernel) (by decide +kernel)) (by decide) (by decide) ?_
  refine k_gp rfl rfl (by first | trivial | decide | (simp only [true_and, mm_fits]; omega)) ?_
  refine k_mna (g := 56) (rg := 57) (N := 14) (M := 512) (n1 := (8, 815)) rfl rfl rfl rfl rfl ⟨by decide, by decide⟩ (tb_in 668 (by decide +kernel) (by decide +kernel)) (tb_in 172 (by decide +kernel) (by decide +kernel)) (by simp [bN, bR, h56, h57, h58, h59, h60, h61, h62, h63, h64, h65]) (by simp [bN, bR, h56, h57, h58, h59, h60, h61, h62, h63, h64, h65]) (by decide) ⟨rfl, rfl⟩ ?_
  refine k_putr rfl rfl pp_X1_11 (fun _ => rfl) ?_
  refine k_gp rfl rfl (by first | trivial | decide | (simp only [true_and, mm_fits]; omega)) ?_
  refine k_newa (kd := 1) (g := 58) (N := 14) (n1 := (7, 801)) (by decide) rfl rfl rfl (by decide) (tb_in 172 (by decide +kernel) (by decide +kernel)) (by simp [bN, bR, h56, h57, h58, h59, h60, h61, h62, h63, h64, h65]) ⟨rfl, rfl⟩ ?_
  refine k_putr rfl rfl pp_X1_16 (fun _ => rfl) ?_
  refine k_gp rfl rfl (by first | trivial | decide | (simp only [true_and, mm_fits]; omega)) ?_
  refine k_newa (kd := 1) (g := 59) (N := 14) (n1 := (6, 787)) (by decide) rfl rfl rfl (by decide) (tb_in 172 (by decide +kernel) (by decide +kernel)) (by simp [bN, bR, h56, h57, h58, h59, h60, h61, h62, h63, h64, h65]) ⟨rfl, rfl⟩ ?_
  refine k_putr rfl rfl pp_X1_20 (fun _ => rfl) ?_
  refine k_gp rfl rfl (by first | trivial | decide | (simp only [true_and, mm_fits]; omega)) ?_
  refine k_newa (kd := 1) (g := 60) (N := 512) (n1 := (5, 275)) (by decide) rfl rfl rfl (by decide) (tb_in 172 (by decide +kernel) (by decide +kernel)) (by simp [bN, bR, h56, h57, h58, h59, h60, h61, h62, h63, h64, h65]) ⟨rfl, rfl⟩ ?_
  refine k_putr rfl rfl pp_X1_23 (fun _ => rfl) ?_
  refine k_gp rfl rfl (by first | trivial | decide | (simp only [true_and, mm_fits]; omega)) ?_
  refine k_newa (kd := 1) (g := 61) (N := 257) (n1 := (4, 18)) (by decide) rfl rfl rfl (by decide) (tb_in 172 (by decide +kernel) (by decide +kernel)) (by simp [bN, bR, h56, h57, h58, h59, h60, h61, h62, h63, h64, h65]) ⟨rfl, rfl⟩ ?_
  refine k_putr rfl rfl pp_X1_26 (fun _ => rfl) ?_
  refine k_gp rfl rfl (by first | trivial | decide | (simp only [true_and, mm_fits]; omega)) ?_
  refine k_newo (g := 62) (n1 := (3, 17)) rfl rfl ck_X1_29 (by simp [bN, bR, h56, h57, h58, h59, h60, h61, h62, h63, h64, h65]) ⟨rfl, rfl⟩ ?_
  refine k_gp rfl rfl (by first | trivial | decide | (simp only [true_and, mm_fits]; omega)) ?_
  refine k_call (n1 := (2, 9)) (n' := (1, 8)) rfl (ev_init_62 (by simp [bN, bR, h56, h57, h58, h59, h60, h61, h62, h63, h64, h65])) rfl rfl rfl (fun _ => rfl) ⟨rfl, rfl⟩ ?_
  rintro a b' w' ⟨rfl, rfl, rfl⟩
  refine k_putr rfl rfl pp_X1_34 (fun _ => rfl) ?_
  refine k_gp rfl rfl (by first | trivial | decide | (simp only [true_and, mm_fits]; omega)) ?_
  refine k_newo (g := 64) (n1 := (1, 8)) rfl rfl ck_X1_29 (by simp [bN, bR, h56, h57, h58, h59, h60, h61, h62, h63, h64, h65]) ⟨rfl, rfl⟩ ?_
  refine k_gp rfl rfl (by first | trivial | decide | (simp only [true_and, mm_fits]; omega)) ?_
  refine k_call (n1 := (0, 0)) (n' := (1, 8)) rfl (ev_init_64 (by simp [bN, bR, h56, h57, h58, h59, h60, h61, h62, h63, h64, h65])) rfl rfl rfl (fun _ => rfl) ⟨rfl, rfl⟩ ?_
  rintro a b' w' ⟨rfl, rfl, rfl⟩
  refine k_putr rfl rfl pp_X1_38 (fun _ => rfl) ?_
  refine k_gp rfl rfl (by first | trivial | decide | (simp only [true_and, mm_fits]; omega)) ?_
  refine k_putr rfl rfl pp_X1_41 (fun _ => rfl) ?_
  refine k_gp rfl rfl (by first | trivial | decide | (simp only [true_and, mm_fits]; omega)) ?_
  refine k_putr rfl rfl pp_X1_45 (fun _ => rfl) ?_
  exact k_ret rfl trivial ⟨rfl, rfl, rfl⟩
theorem pp_X8_13 : mm_pok RX8 (13, 8, 4, 2, 4) true := ⟨RX8, TX8, 12, tyX8, rfl, tb_X8, tyX8_ok, nmX8, by decide, tb_in 711 (by decide +kernel) (by decide +kernel), rfl, rfl, rfl, fun _ => rfl, fun a => ⟨rfl, rfl⟩⟩
theorem pp_X8_17 : mm_pok RX8 (17, 8, 6, 2, 6) true := ⟨RX8, TX8, 12, tyX8, rfl, tb_X8, tyX8_ok, nmX8, by decide, tb_in 713 (by decide +kernel) (by decide +kernel), rfl, rfl, rfl, fun _ => rfl, fun a => ⟨rfl, rfl⟩⟩
theorem pp_X8_25 : mm_pok RX8 (25, 8, 7, 2, 7) true := ⟨RX8, TX8, 12, tyX8, rfl, tb_X8, tyX8_ok, nmX8, by decide, tb_in 714 (by decide +kernel) (by decide +kernel), rfl, rfl, rfl, fun _ => rfl, fun a => ⟨rfl, rfl⟩⟩
theorem pp_X8_29 : mm_pok RX8 (29, 8, 8, 2, 8) true := ⟨RX8, TX8, 12, tyX8, rfl, tb_X8, tyX8_ok, nmX8, by decide, tb_in 715 (by decide +kernel) (by decide +kernel), rfl, rfl, rfl, fun _ => rfl, fun a => ⟨rfl, rfl⟩⟩
theorem pp_X8_32 : mm_pok RX8 (32, 8, 9, 2, 9) true := ⟨RX8, TX8, 12, tyX8, rfl, tb_X8, tyX8_ok, nmX8, by decide, tb_in 716 (by decide +kernel) (by decide +kernel), rfl, rfl, rfl, fun _ => rfl, fun a => ⟨rfl, rfl⟩⟩
theorem pp_X8_35 : mm_pok RX8 (35, 8, 10, 2, 10) true := ⟨RX8, TX8, 12, tyX8, rfl, tb_X8, tyX8_ok, nmX8, by decide, tb_in 717 (by decide +kernel) (by decide +kernel), rfl, rfl, rfl, fun _ => rfl, fun a => ⟨rfl, rfl⟩⟩
theorem pp_X8_38 : mm_pok RX8 (38, 8, 11, 2, 11) true := ⟨RX8, TX8, 12, tyX8, rfl, tb_X8, tyX8_ok, nmX8, by decide, tb_in 718 (by decide +kernel) (by decide +kernel), rfl, rfl, rfl, fun _ => rfl, fun a => ⟨rfl, rfl⟩⟩
theorem pp_X8_41 : mm_pok RX8 (41, 8, 0, 2, 0) true := ⟨RX8, TX8, 12, tyX8, rfl, tb_X8, tyX8_ok, nmX8, by decide, tb_in 707 (by decide +kernel) (by decide +kernel), rfl, rfl, rfl, fun _ => rfl, fun a => ⟨rfl, rfl⟩⟩
theorem pp_X8_45 : mm_pok RX8 (45, 8, 1, 2, 1) true := ⟨RX8, TX8, 12, tyX8, rfl, tb_X8, tyX8_ok, nmX8, by decide, tb_in 708 (by decide +kernel) (by decide +kernel), rfl, rfl, rfl, fun _ => rfl, fun a => ⟨rfl, rfl⟩⟩
theorem pp_X8_49 : mm_pok RX8 (49, 8, 2, 2, 2) true := ⟨RX8, TX8, 12, tyX8, rfl, tb_X8, tyX8_ok, nmX8, by decide, tb_in 709 (by decide +kernel) (by decide +kernel), rfl, rfl, rfl, fun _ => rfl, fun a => ⟨rfl, rfl⟩⟩
theorem pp_X8_53 : mm_pok RX8 (53, 8, 3, 2, 3) true := ⟨RX8, TX8, 12, tyX8, rfl, tb_X8, tyX8_ok, nmX8, by decide, tb_in 710 (by decide +kernel) (by decide +kernel), rfl, rfl, rfl, fun _ => rfl, fun a => ⟨rfl, rfl⟩⟩
set_option maxRecDepth 100000 in
theorem ev_init_66 {b : mm_B} {w : mm_M} (h67 : 67 ∉ b.2) (h68 : 68 ∉ b.2) (h69 : 69 ∉ b.2) (h70 : 70 ∉ b.2) (h71 : 71 ∉ b.2) (h72 : 72 ∉ b.2) (h73 : 73 ∉ b.2) (h74 : 74 ∉ b.2) (h75 : 75 ∉ b.2) (h76 : 76 ∉ b.2) : mm_Ev K_X8_init (10, 3115) [.inr (some (66, 0)), .inr (some (32, 0)), .inr (some (39, 0)), .inr (some (55, 0)), .inr (some (42, 0))] b w (mm_pe none (bR (bR (bR (bR (bR (bR (bN (bN (bR (bN (bR (bN (bR (bR (bN (bN (bR (bR (bN (bN (bR (bN (bR (bN b 67) 66 4 (some (67, 0))) 68) 66 6 (some (68, 0))) 69) 70) 69 0 (some (70, 0))) 66 7 (some (69, 0))) 71) 72) 71 0 (some (72, 0))) 66 8 (some (71, 0))) 73) 66 9 (some (73, 0))) 74) 66 10 (some (74, 0))) 75) 76) 75 0 (some (76, 0))) 66 11 (some (75, 0))) 66 0 (some (32, 0))) 66 1 (some (39, 0))) 66 2 (some (55, 0))) 66 3 (some (42, 0))) (zr (zr (zr (zr (zr (zr (zr (zr (zr (zr w 67) 68) 69) 70) 71) 72) 73) 74) 75) 76)) := by
  refine ev_intro ok_X8_init mo_X8_init (Nat.le_of_ble_eq_true rfl) (fun hrg has => ?_)
  refine k_gp rfl rfl (by first | trivial | decide | (simp only [true_and, mm_fits]; omega)) ?_
  refine k_obji rfl (tb_in 704 (by decide +kernel) (by decide +kernel)) (tb_in 94 (by decide +kernel) (by decide +kernel)) (tb_in 95 (by decide +kernel) (by decide +kernel)) (by decide) (by decide) ?_
  refine k_gp rfl rfl (by first | trivial | decide | (simp only [true_and, mm_fits]; omega)) ?_
  refine k_newa (kd := 1) (g := 67) (N := 2048) (n1 := (9, 1067)) (by decide) rfl rfl rfl (by decide) (tb_in 172 (by decide +kernel) (by decide +kernel)) (by simp [bN, bR, h67, h68, h69, h70, h71, h72, h73, h74, h75, h76]) ⟨rfl, rfl⟩ ?_
  refine k_putr rfl rfl pp_X8_13 (fun _ => rfl) ?_
  refine k_gp rfl rfl (by first | trivial | decide | (simp only [true_and, mm_fits]; omega)) ?_
  refine k_newa (kd := 1) (g := 68) (N := 8) (n1 := (8, 1059)) (by decide) rfl rfl rfl (by decide) (tb_in 172 (by decide +kernel) (by decide +kernel)) (by simp [bN, bR, h67, h68, h69, h70, h71, h72, h73, h74, h75, h76]) ⟨rfl, rfl⟩ ?_
  refine k_putr rfl rfl pp_X8_17 (fun _ => rfl) ?_
  refine k_gp rfl rfl (by first | trivial | decide | (simp only [true_and, mm_fits]; omega)) ?_
  refine k_newo (g := 69) (n1 := (7, 1058)) rfl rfl ck_X8_20 (by simp [bN, bR, h67, h68, h69, h70, h71, h72, h73, h74, h75, h76]) ⟨rfl, rfl⟩ ?_
  refine k_gp rfl rfl (by first | trivial | decide | (simp only [true_and, mm_fits]; omega)) ?_
  refine k_call (n1 := (6, 1050)) (n' := (1, 8)) rfl (ev_init_69 (by simp [bN, bR, h67, h68, h69, h70, h71, h72, h73, h74, h75, h76])) rfl rfl rfl (fun _ => rfl) ⟨rfl, rfl⟩ ?_
  rintro a b' w' ⟨rfl, rfl, rfl⟩
  refine k_putr rfl rfl pp_X8_25 (fun _ => rfl) ?_
  refine k_gp rfl rfl (by first | trivial | decide | (simp only [true_and, mm_fits]; omega)) ?_
  refine k_newo (g := 71) (n1 := (5, 1049)) rfl rfl ck_X8_20 (by simp [bN, bR, h67, h68, h69, h70, h71, h72, h73, h74, h75, h76]) ⟨rfl, rfl⟩ ?_
  refine k_gp rfl rfl (by first | trivial | decide | (simp only [true_and, mm_fits]; omega)) ?_
  refine k_call (n1 := (4, 1041)) (n' := (1, 8)) rfl (ev_init_71 (by simp [bN, bR, h67, h68, h69, h70, h71, h72, h73, h74, h75, h76])) rfl rfl rfl (fun _ => rfl) ⟨rfl, rfl⟩ ?_
  rintro a b' w' ⟨rfl, rfl, rfl⟩
  refine k_putr rfl rfl pp_X8_29 (fun _ => rfl) ?_
  refine k_gp rfl rfl (by first | trivial | decide | (simp only [true_and, mm_fits]; omega)) ?_
  refine k_newa (kd := 1) (g := 73) (N := 512) (n1 := (3, 529)) (by decide) rfl rfl rfl (by decide) (tb_in 172 (by decide +kernel) (by decide +kernel)) (by simp [bN, bR, h67, h68, h69, h70, h71, h72, h73, h74, h75, h76]) ⟨rfl, rfl⟩ ?_
  refine k_putr rfl rfl pp_X8_32 (fun _ => rfl) ?_
  refine k_gp rfl rfl (by first | trivial | decide | (simp only [true_and, mm_fits]; omega)) ?_
  refine k_newa (kd := 1) (g := 74) (N := 512) (n1 := (2, 17)) (by decide) rfl rfl rfl (by decide) (tb_in 172 (by decide +kernel) (by decide +kernel)) (by simp [bN, bR, h67, h68, h69, h70, h71, h72, h73, h74, h75, h76]) ⟨rfl, rfl⟩ ?_
  refine k_putr rfl rfl pp_X8_35 (fun _ => rfl) ?_
  refine k_gp rfl rfl (by first | trivial | decide | (simp only [true_and, mm_fits]; omega)) ?_
  refine k_newo (g := 75) (n1 := (1, 16)) rfl rfl ck_X8_20 (by simp [bN, bR, h67, h68, h69, h70, h71, h72, h73, h74, h75, h76]) ⟨rfl, rfl⟩ ?_
  refine k_gp rfl rfl (by first | trivial | decide | (simp only [true_and, mm_fits]; omega)) ?_
  refine k_call (n1 := (0, 0)) (n' := (1, 16)) rfl (ev_init_75 (by simp [bN, bR, h67, h68, h69, h70, h71, h72, h73, h74, h75, h76])) rfl rfl rfl (fun _ => rfl) ⟨rfl, rfl⟩ ?_
  rintro a b' w' ⟨rfl, rfl, rfl⟩
  refine k_putr rfl rfl pp_X8_38 (fun _ => rfl) ?_
  refine k_gp rfl rfl (by first | trivial | decide | (simp only [true_and, mm_fits]; omega)) ?_
  refine k_putr rfl rfl pp_X8_41 (fun _ => rfl) ?_
  refine k_gp rfl rfl (by first | trivial | decide | (simp only [true_and, mm_fits]; omega)) ?_
  refine k_putr rfl rfl pp_X8_45 (fun _ => rfl) ?_
  refine k_gp rfl rfl (by first | trivial | decide | (simp only [true_and, mm_fits]; omega)) ?_
  refine k_putr rfl rfl pp_X8_49 (fun _ => rfl) ?_
  refine k_gp rfl rfl (by first | trivial | decide | (simp only [true_and, mm_fits]; omega)) ?_
  refine k_putr rfl rfl pp_X8_53 (fun _ => rfl) ?_
  exact k_ret rfl trivial ⟨rfl, rfl, rfl⟩
theorem pp_X2_11 : mm_pok RX2 (11, 2, 4, 2, 4) true := ⟨RX2, TX2, 11, tyX2, rfl, tb_X2, tyX2_ok, nmX2, by decide, tb_in 756 (by decide +kernel) (by decide +kernel), rfl, rfl, rfl, fun _ => rfl, fun a => ⟨rfl, rfl⟩⟩
theorem pp_X2_15 : mm_pok RX2 (15, 2, 5, 2, 5) true := ⟨RX2, TX2, 11, tyX2, rfl, tb_X2, tyX2_ok, nmX2, by decide, tb_in 757 (by decide +kernel) (by decide +kernel), rfl, rfl, rfl, fun _ => rfl, fun a => ⟨rfl, rfl⟩⟩
theorem pp_X2_23 : mm_pok RX2 (23, 2, 6, 2, 6) true := ⟨RX2, TX2, 11, tyX2, rfl, tb_X2, tyX2_ok, nmX2, by decide, tb_in 758 (by decide +kernel) (by decide +kernel), rfl, rfl, rfl, fun _ => rfl, fun a => ⟨rfl, rfl⟩⟩
theorem pp_X2_27 : mm_pok RX2 (27, 2, 7, 2, 7) true := ⟨RX2, TX2, 11, tyX2, rfl, tb_X2, tyX2_ok, nmX2, by decide, tb_in 759 (by decide +kernel) (by decide +kernel), rfl, rfl, rfl, fun _ => rfl, fun a => ⟨rfl, rfl⟩⟩
theorem pp_X2_30 : mm_pok RX2 (30, 2, 8, 2, 8) true := ⟨RX2, TX2, 11, tyX2, rfl, tb_X2, tyX2_ok, nmX2, by decide, tb_in 760 (by decide +kernel) (by decide +kernel), rfl, rfl, rfl, fun _ => rfl, fun a => ⟨rfl, rfl⟩⟩
theorem pp_X2_33 : mm_pok RX2 (33, 2, 0, 2, 0) true := ⟨RX2, TX2, 11, tyX2, rfl, tb_X2, tyX2_ok, nmX2, by decide, tb_in 752 (by decide +kernel) (by decide +kernel), rfl, rfl, rfl, fun _ => rfl, fun a => ⟨rfl, rfl⟩⟩
theorem pp_X2_37 : mm_pok RX2 (37, 2, 1, 2, 1) true := ⟨RX2, TX2, 11, tyX2, rfl, tb_X2, tyX2_ok, nmX2, by decide, tb_in 753 (by decide +kernel) (by decide +kernel), rfl, rfl, rfl, fun _ => rfl, fun a => ⟨rfl, rfl⟩⟩
theorem pp_X2_41 : mm_pok RX2 (41, 2, 2, 2, 2) true := ⟨RX2, TX2, 11, tyX2, rfl, tb_X2, tyX2_ok, nmX2, by decide, tb_in 754 (by decide +kernel) (by decide +kernel), rfl, rfl, rfl, fun _ => rfl, fun a => ⟨rfl, rfl⟩⟩
theorem pp_X2_45 : mm_pok RX2 (45, 2, 3, 2, 3) true := ⟨RX2, TX2, 11, tyX2, rfl, tb_X2, tyX2_ok, nmX2, by decide, tb_in 755 (by decide +kernel) (by decide +kernel), rfl, rfl, rfl, fun _ => rfl, fun a => ⟨rfl, rfl⟩⟩
set_option maxRecDepth 100000 in
theorem ev_init_77 {b : mm_B} {w : mm_M} (h78 : 78 ∉ b.2) (h79 : 79 ∉ b.2) (h80 : 80 ∉ b.2) (h81 : 81 ∉ b.2) (h82 : 82 ∉ b.2) (h83 : 83 ∉ b.2) (h84 : 84 ∉ b.2) (h85 : 85 ∉ b.2) : mm_Ev K_X2_init (8, 4179) [.inr (some (77, 0)), .inr (some (32, 0)), .inr (some (55, 0)), .inr (some (66, 0)), .inr (some (42, 0))] b w (mm_pe none (bR (bR (bR (bR (bR (bR (bN (bN (bR (bR (bN (bN (bR (bR (bN (bN (bR (bN (bR (bN b 78) 77 4 (some (78, 0))) 79) 77 5 (some (79, 0))) 80) 81) 80 0 (some (81, 0))) 77 6 (some (80, 0))) 82) 83) 82 0 (some (83, 0))) 77 7 (some (82, 0))) 84) 85) 84 0 (some (85, 0))) 77 8 (some (84, 0))) 77 0 (some (32, 0))) 77 1 (some (55, 0))) 77 2 (some (66, 0))) 77 3 (some (42, 0))) (zr (zr (zr (zr (zr (zr (zr (zr w 78) 79) 80) 81) 82) 83) 84) 85)) := by
  refine ev_intro ok_X2_init mo_X2_init (Nat.le_of_ble_eq_true rfl) (fun hrg has => ?_)
  refine k_gp rfl rfl (by first | trivial | decide | (simp only [true_and, mm_fits]; omega)) ?_
  refine k_obji rfl (tb_in 749 (by decide +kernel) (by decide +kernel)) (tb_in 94 (by decide +kernel) (by decide +kernel)) (tb_in 95 (by decide +kernel) (by decide +kernel)) (by decide) (by decide) ?_
  refine k_gp rfl rfl (by first | trivial | decide | (simp only [true_and, mm_fits]; omega)) ?_
  refine k_newa (kd := 1) (g := 78) (N := 2048) (n1 := (7, 2131)) (by decide) rfl rfl rfl (by decide) (tb_in 172 (by decide +kernel) (by decide +kernel)) (by simp [bN, bR, h78, h79, h80, h81, h82, h83, h84, h85]) ⟨rfl, rfl⟩ ?_
  refine k_putr rfl rfl pp_X2_11 (fun _ => rfl) ?_
  refine k_gp rfl rfl (by first | trivial | decide | (simp only [true_and, mm_fits]; omega)) ?_
  refine k_newa (kd := 1) (g := 79) (N := 2048) (n1 := (6, 83)) (by decide) rfl rfl rfl (by decide) (tb_in 172 (by decide +kernel) (by decide +kernel)) (by simp [bN, bR, h78, h79, h80, h81, h82, h83, h84, h85]) ⟨rfl, rfl⟩ ?_
  refine k_putr rfl rfl pp_X2_15 (fun _ => rfl) ?_
  refine k_gp rfl rfl (by first | trivial | decide | (simp only [true_and, mm_fits]; omega)) ?_
  refine k_newo (g := 80) (n1 := (5, 82)) rfl rfl ck_X2_18 (by simp [bN, bR, h78, h79, h80, h81, h82, h83, h84, h85]) ⟨rfl, rfl⟩ ?_
  refine k_gp rfl rfl (by first | trivial | decide | (simp only [true_and, mm_fits]; omega)) ?_
  refine k_call (n1 := (4, 18)) (n' := (1, 64)) rfl (ev_init_80 (by simp [bN, bR, h78, h79, h80, h81, h82, h83, h84, h85])) rfl rfl rfl (fun _ => rfl) ⟨rfl, rfl⟩ ?_
  rintro a b' w' ⟨rfl, rfl, rfl⟩
  refine k_putr rfl rfl pp_X2_23 (fun _ => rfl) ?_
  refine k_gp rfl rfl (by first | trivial | decide | (simp only [true_and, mm_fits]; omega)) ?_
  refine k_newo (g := 82) (n1 := (3, 17)) rfl rfl ck_X2_18 (by simp [bN, bR, h78, h79, h80, h81, h82, h83, h84, h85]) ⟨rfl, rfl⟩ ?_
  refine k_gp rfl rfl (by first | trivial | decide | (simp only [true_and, mm_fits]; omega)) ?_
  refine k_call (n1 := (2, 9)) (n' := (1, 8)) rfl (ev_init_82 (by simp [bN, bR, h78, h79, h80, h81, h82, h83, h84, h85])) rfl rfl rfl (fun _ => rfl) ⟨rfl, rfl⟩ ?_
  rintro a b' w' ⟨rfl, rfl, rfl⟩
  refine k_putr rfl rfl pp_X2_27 (fun _ => rfl) ?_
  refine k_gp rfl rfl (by first | trivial | decide | (simp only [true_and, mm_fits]; omega)) ?_
  refine k_newo (g := 84) (n1 := (1, 8)) rfl rfl ck_X2_18 (by simp [bN, bR, h78, h79, h80, h81, h82, h83, h84, h85]) ⟨rfl, rfl⟩ ?_
  refine k_gp rfl rfl (by first | trivial | decide | (simp only [true_and, mm_fits]; omega)) ?_
  refine k_call (n1 := (0, 0)) (n' := (1, 8)) rfl (ev_init_84 (by simp [bN, bR, h78, h79, h80, h81, h82, h83, h84, h85])) rfl rfl rfl (fun _ => rfl) ⟨rfl, rfl⟩ ?_
  rintro a b' w' ⟨rfl, rfl, rfl⟩
  refine k_putr rfl rfl pp_X2_30 (fun _ => rfl) ?_
  refine k_gp rfl rfl (by first | trivial | decide | (simp only [true_and, mm_fits]; omega)) ?_
  refine k_putr rfl rfl pp_X2_33 (fun _ => rfl) ?_
  refine k_gp rfl rfl (by first | trivial | decide | (simp only [true_and, mm_fits]; omega)) ?_
  refine k_putr rfl rfl pp_X2_37 (fun _ => rfl) ?_
  refine k_gp rfl rfl (by first | trivial | decide | (simp only [true_and, mm_fits]; omega)) ?_
  refine k_putr rfl rfl pp_X2_41 (fun _ => rfl) ?_
  refine k_gp rfl rfl (by first | trivial | decide | (simp only [true_and, mm_fits]; omega)) ?_
  refine k_putr rfl rfl pp_X2_45 (fun _ => rfl) ?_
  exact k_ret rfl trivial ⟨rfl, rfl, rfl⟩
theorem pp_X9_10 : mm_pok RX9 (10, 9, 0, 2, 0) true := ⟨RX9, TX9, 9, tyX9, rfl, tb_X9, tyX9_ok, nmX9, by decide, tb_in 426 (by decide +kernel) (by decide +kernel), rfl, rfl, rfl, fun _ => rfl, fun a => ⟨rfl, rfl⟩⟩
theorem pp_X9_19 : mm_pok RX9 (19, 9, 1, 2, 1) true := ⟨RX9, TX9, 9, tyX9, rfl, tb_X9, tyX9_ok, nmX9, by decide, tb_in 427 (by decide +kernel) (by decide +kernel), rfl, rfl, rfl, fun _ => rfl, fun a => ⟨rfl, rfl⟩⟩
theorem pp_X9_28 : mm_pok RX9 (28, 9, 2, 2, 2) true := ⟨RX9, TX9, 9, tyX9, rfl, tb_X9, tyX9_ok, nmX9, by decide, tb_in 428 (by decide +kernel) (by decide +kernel), rfl, rfl, rfl, fun _ => rfl, fun a => ⟨rfl, rfl⟩⟩
theorem pp_X9_32 : mm_pok RX9 (32, 9, 3, 2, 3) true := ⟨RX9, TX9, 9, tyX9, rfl, tb_X9, tyX9_ok, nmX9, by decide, tb_in 429 (by decide +kernel) (by decide +kernel), rfl, rfl, rfl, fun _ => rfl, fun a => ⟨rfl, rfl⟩⟩
theorem pp_X9_39 : mm_pok RX9 (39, 9, 4, 2, 4) true := ⟨RX9, TX9, 9, tyX9, rfl, tb_X9, tyX9_ok, nmX9, by decide, tb_in 430 (by decide +kernel) (by decide +kernel), rfl, rfl, rfl, fun _ => rfl, fun a => ⟨rfl, rfl⟩⟩
theorem pp_X9_246 : mm_pok RX9 (246, 9, 5, 2, 5) false := ⟨RX9, TX9, 9, tyX9, rfl, tb_X9, tyX9_ok, nmX9, by decide, tb_in 431 (by decide +kernel) (by decide +kernel), rfl, rfl, rfl, fun h => absurd h (by decide), fun a => ⟨rfl, rfl⟩⟩
theorem pp_X9_236 : mm_pok RX9 (236, 9, 6, 2, 6) false := ⟨RX9, TX9, 9, tyX9, rfl, tb_X9, tyX9_ok, nmX9, by decide, tb_in 432 (by decide +kernel) (by decide +kernel), rfl, rfl, rfl, fun h => absurd h (by decide), fun a => ⟨rfl, rfl⟩⟩
