/-! ===== the reference's constructor (written by gen98.py) ===== -/
section MX
variable {r : Bool × Bool} {y : Bool} {w : mm_M}
theorem ev_m_compares {g a b c : Int} (hg : 0 ≤ g ∧ g < 8) : mm_Ev K_X10_compares (0, 0) [.inr (some (1, 0)), .inl g, .inl a, .inl b, .inl c] (PH r y) w (mm_pe none (PH r y) (mm_up (mm_up (mm_up w 4 0 (3 * g) a) 4 0 (3 * g + 1) b) 4 0 (3 * g + 2) c)) := by
  refine ev_intro ok_X10_compares mo_X10_compares (Nat.le_of_ble_eq_true rfl) (fun hrg has => ?_)
  refine k_gp rfl rfl (by simp only [true_and, mm_fits]; omega) ?_
  exact k_ret rfl trivial ⟨rfl, rfl, rfl⟩
theorem ev_m_joins {x a b c d : Int} (hx : 0 ≤ x ∧ x < 14) : mm_Ev K_X10_joins (0, 0) [.inr (some (1, 0)), .inl x, .inl a, .inl b, .inl c, .inl d] (PH r y) w (mm_pe none (PH r y) (mm_up (mm_up (mm_up (mm_up w 5 0 (7 * x) a) 5 0 (7 * x + 1) b) 5 0 (7 * x + 2) c) 5 0 (7 * x + 3) d)) := by
  refine ev_intro ok_X10_joins mo_X10_joins (Nat.le_of_ble_eq_true rfl) (fun hrg has => ?_)
  refine k_gp rfl rfl (by simp only [true_and, mm_fits]; omega) ?_
  exact k_ret rfl trivial ⟨rfl, rfl, rfl⟩
theorem ev_m_acts {x a b c : Int} (hx : 0 ≤ x ∧ x < 14) : mm_Ev K_X10_acts (0, 0) [.inr (some (1, 0)), .inl x, .inl a, .inl b, .inl c] (PH r y) w (mm_pe none (PH r y) (mm_up (mm_up (mm_up w 5 0 (7 * x + 4) a) 5 0 (7 * x + 5) b) 5 0 (7 * x + 6) c)) := by
  refine ev_intro ok_X10_acts mo_X10_acts (Nat.le_of_ble_eq_true rfl) (fun hrg has => ?_)
  refine k_gp rfl rfl (by simp only [true_and, mm_fits]; omega) ?_
  exact k_ret rfl trivial ⟨rfl, rfl, rfl⟩
end MX
/-- the constant text's letters -/
def tx (k : Int) : Int := (mm_tb.getD k.toNat 0).toInt
def xF (k : Int) : Int := [0, 2, 0, 0].getD k.toNat 0
def xC (g k : Int) : Int := ([[0, 0, 5], [0, 1, 5], [3, 0, 1], [2, 0, 1], [1, 0, 7]].getD g.toNat []).getD k.toNat 0
def xE (x k : Int) : Int := ([[0, 1, 9, 0, 4, 1, 0], [1, 2, 0, 1, 2, 0, 1], [2, 1, 9, 0, 4, 1, 0], [1, 3, 2, 0, 0, 0, 0]].getD x.toNat []).getD k.toNat 0
set_option maxRecDepth 100000 in
theorem tx_1 : (told tx 73).1 = -4 ∧ (told tx 73).2.1 = (4, 3, 2, 5, 4) := by decide +kernel
set_option maxRecDepth 100000 in
theorem tx_f : ∀ k : Fin 4, (told tx 73).2.2.1 ((k.val : Nat) : Int) = xF ((k.val : Nat) : Int) := by decide +kernel
set_option maxRecDepth 100000 in
theorem tx_c : ∀ g : Fin 5, ∀ k : Fin 3, (told tx 73).2.2.2.1 ((g.val : Nat) : Int) ((k.val : Nat) : Int) = xC ((g.val : Nat) : Int) ((k.val : Nat) : Int) := by decide +kernel
set_option maxRecDepth 100000 in
theorem tx_e : ∀ x : Fin 4, ∀ k : Fin 7, (told tx 73).2.2.2.2 ((x.val : Nat) : Int) ((k.val : Nat) : Int) = xE ((x.val : Nat) : Int) ((k.val : Nat) : Int) := by decide +kernel
theorem toFin {n : Nat} {k : Int} (h0 : 0 ≤ k) (h1 : k < n) : ∃ j : Fin n, k = ((j.val : Nat) : Int) := ⟨⟨k.toNat, by omega⟩, by show k = ((k.toNat : Nat) : Int); omega⟩
/-- the reference holds the constant program -/
theorem LD_tx {w : mm_M} (h1 : w 1 0 2 = 4 ∧ w 1 0 3 = 3 ∧ w 1 0 4 = 2 ∧ w 1 0 6 = 5 ∧ w 1 0 8 = 4 ∧ w 1 0 12 = 0) (hf : ∀ k : Fin 4, w 3 0 ((k.val : Nat) : Int) = xF ((k.val : Nat) : Int)) (hc : ∀ g : Fin 5, ∀ k : Fin 3, w 4 0 (3 * ((g.val : Nat) : Int) + ((k.val : Nat) : Int)) = xC ((g.val : Nat) : Int) ((k.val : Nat) : Int)) (he : ∀ x : Fin 4, ∀ k : Fin 7, w 5 0 (7 * ((x.val : Nat) : Int) + ((k.val : Nat) : Int)) = xE ((x.val : Nat) : Int) ((k.val : Nat) : Int)) (hl : ∀ p, 0 ≤ p → p < 8 → w 6 0 p = 0) (ht : ∀ x, 0 ≤ x → x < 4 → w 6 0 (8 + x) = w 5 0 (7 * x + 3)) : LD w (told tx 73).2 := by
  have e := tx_1.2
  have e1 : (told tx 73).2.1.1 = 4 := by rw [e]
  have e2 : (told tx 73).2.1.2.1 = 3 := by rw [e]
  have e3 : (told tx 73).2.1.2.2.1 = 2 := by rw [e]
  have e4 : (told tx 73).2.1.2.2.2.1 = 5 := by rw [e]
  have e5 : (told tx 73).2.1.2.2.2.2 = 4 := by rw [e]
  obtain ⟨a1, a2, a3, a4, a5, a6⟩ := h1
  have HE : ∀ x k, 0 ≤ x → x < 4 → 0 ≤ k → k < 7 → w 5 0 (7 * x + k) = (told tx 73).2.2.2.2 x k := fun x k h0 h1 h2 h3 => by
    obtain ⟨j, rfl⟩ := toFin (n := 4) h0 (by omega)
    obtain ⟨i, rfl⟩ := toFin (n := 7) h2 (by omega)
    rw [he j i, tx_e j i]
  refine ⟨a1.trans e1.symm, a2.trans e2.symm, a3.trans e3.symm, a4.trans e4.symm, a5.trans e5.symm, fun k h0 h1 => ?_, fun g k h0 h1 h2 h3 => ?_, fun x k h0 h1 h2 h3 => ?_, hl, fun x h0 h1 => ?_, a6⟩
  · rw [e3] at h1
    obtain ⟨j, rfl⟩ := toFin (n := 4) h0 (by omega)
    rw [hf j, tx_f j]
  · rw [e4] at h1
    obtain ⟨j, rfl⟩ := toFin (n := 5) h0 (by omega)
    obtain ⟨i, rfl⟩ := toFin (n := 3) h2 (by omega)
    rw [hc j i, tx_c j i]
  · rw [e5] at h1
    exact HE x k h0 (by omega) h2 h3
  · rw [e5] at h1
    rw [ht x h0 (by omega)]
    exact HE x 3 h0 (by omega) (by omega) (by omega)

theorem pp_X10_7 : mm_pok RX10 (7, 10, 1, 2, 1) true := ⟨RX10, TX10, 34, tyX10, rfl, tb_X10, tyX10_ok, nmX10, by decide, tb_in 987 (by decide +kernel) (by decide +kernel), rfl, rfl, rfl, fun _ => rfl, fun a => ⟨rfl, rfl⟩⟩
theorem pp_X10_13 : mm_pok RX10 (13, 10, 5, 2, 5) true := ⟨RX10, TX10, 34, tyX10, rfl, tb_X10, tyX10_ok, nmX10, by decide, tb_in 991 (by decide +kernel) (by decide +kernel), rfl, rfl, rfl, fun _ => rfl, fun a => ⟨rfl, rfl⟩⟩
theorem pp_X10_16 : mm_pok RX10 (16, 10, 7, 2, 7) true := ⟨RX10, TX10, 34, tyX10, rfl, tb_X10, tyX10_ok, nmX10, by decide, tb_in 993 (by decide +kernel) (by decide +kernel), rfl, rfl, rfl, fun _ => rfl, fun a => ⟨rfl, rfl⟩⟩
theorem pp_X10_19 : mm_pok RX10 (19, 10, 9, 2, 9) true := ⟨RX10, TX10, 34, tyX10, rfl, tb_X10, tyX10_ok, nmX10, by decide, tb_in 995 (by decide +kernel) (by decide +kernel), rfl, rfl, rfl, fun _ => rfl, fun a => ⟨rfl, rfl⟩⟩
theorem pp_X10_22 : mm_pok RX10 (22, 10, 10, 2, 10) true := ⟨RX10, TX10, 34, tyX10, rfl, tb_X10, tyX10_ok, nmX10, by decide, tb_in 996 (by decide +kernel) (by decide +kernel), rfl, rfl, rfl, fun _ => rfl, fun a => ⟨rfl, rfl⟩⟩
theorem pp_X10_25 : mm_pok RX10 (25, 10, 11, 2, 11) true := ⟨RX10, TX10, 34, tyX10, rfl, tb_X10, tyX10_ok, nmX10, by decide, tb_in 997 (by decide +kernel) (by decide +kernel), rfl, rfl, rfl, fun _ => rfl, fun a => ⟨rfl, rfl⟩⟩
theorem pp_X10_28 : mm_pok RX10 (28, 10, 16, 2, 16) true := ⟨RX10, TX10, 34, tyX10, rfl, tb_X10, tyX10_ok, nmX10, by decide, tb_in 1002 (by decide +kernel) (by decide +kernel), rfl, rfl, rfl, fun _ => rfl, fun a => ⟨rfl, rfl⟩⟩
theorem pp_X10_31 : mm_pok RX10 (31, 10, 18, 2, 18) true := ⟨RX10, TX10, 34, tyX10, rfl, tb_X10, tyX10_ok, nmX10, by decide, tb_in 1004 (by decide +kernel) (by decide +kernel), rfl, rfl, rfl, fun _ => rfl, fun a => ⟨rfl, rfl⟩⟩
theorem pp_X10_34 : mm_pok RX10 (34, 10, 20, 2, 20) true := ⟨RX10, TX10, 34, tyX10, rfl, tb_X10, tyX10_ok, nmX10, by decide, tb_in 1006 (by decide +kernel) (by decide +kernel), rfl, rfl, rfl, fun _ => rfl, fun a => ⟨rfl, rfl⟩⟩
theorem pp_X10_37 : mm_pok RX10 (37, 10, 21, 2, 21) true := ⟨RX10, TX10, 34, tyX10, rfl, tb_X10, tyX10_ok, nmX10, by decide, tb_in 1007 (by decide +kernel) (by decide +kernel), rfl, rfl, rfl, fun _ => rfl, fun a => ⟨rfl, rfl⟩⟩
theorem pp_X10_40 : mm_pok RX10 (40, 10, 22, 2, 22) true := ⟨RX10, TX10, 34, tyX10, rfl, tb_X10, tyX10_ok, nmX10, by decide, tb_in 1008 (by decide +kernel) (by decide +kernel), rfl, rfl, rfl, fun _ => rfl, fun a => ⟨rfl, rfl⟩⟩
theorem pp_X10_43 : mm_pok RX10 (43, 10, 24, 2, 24) true := ⟨RX10, TX10, 34, tyX10, rfl, tb_X10, tyX10_ok, nmX10, by decide, tb_in 1010 (by decide +kernel) (by decide +kernel), rfl, rfl, rfl, fun _ => rfl, fun a => ⟨rfl, rfl⟩⟩
theorem pp_X10_47 : mm_pok RX10 (47, 10, 25, 2, 25) true := ⟨RX10, TX10, 34, tyX10, rfl, tb_X10, tyX10_ok, nmX10, by decide, tb_in 1011 (by decide +kernel) (by decide +kernel), rfl, rfl, rfl, fun _ => rfl, fun a => ⟨rfl, rfl⟩⟩
theorem pp_X10_50 : mm_pok RX10 (50, 10, 26, 2, 26) true := ⟨RX10, TX10, 34, tyX10, rfl, tb_X10, tyX10_ok, nmX10, by decide, tb_in 1012 (by decide +kernel) (by decide +kernel), rfl, rfl, rfl, fun _ => rfl, fun a => ⟨rfl, rfl⟩⟩
theorem pp_X10_53 : mm_pok RX10 (53, 10, 27, 2, 27) true := ⟨RX10, TX10, 34, tyX10, rfl, tb_X10, tyX10_ok, nmX10, by decide, tb_in 1013 (by decide +kernel) (by decide +kernel), rfl, rfl, rfl, fun _ => rfl, fun a => ⟨rfl, rfl⟩⟩
theorem pp_X10_56 : mm_pok RX10 (56, 10, 28, 2, 28) true := ⟨RX10, TX10, 34, tyX10, rfl, tb_X10, tyX10_ok, nmX10, by decide, tb_in 1014 (by decide +kernel) (by decide +kernel), rfl, rfl, rfl, fun _ => rfl, fun a => ⟨rfl, rfl⟩⟩
theorem pp_X10_59 : mm_pok RX10 (59, 10, 30, 2, 30) true := ⟨RX10, TX10, 34, tyX10, rfl, tb_X10, tyX10_ok, nmX10, by decide, tb_in 1016 (by decide +kernel) (by decide +kernel), rfl, rfl, rfl, fun _ => rfl, fun a => ⟨rfl, rfl⟩⟩
theorem pp_X10_62 : mm_pok RX10 (62, 10, 31, 2, 31) true := ⟨RX10, TX10, 34, tyX10, rfl, tb_X10, tyX10_ok, nmX10, by decide, tb_in 1017 (by decide +kernel) (by decide +kernel), rfl, rfl, rfl, fun _ => rfl, fun a => ⟨rfl, rfl⟩⟩
theorem pp_X10_65 : mm_pok RX10 (65, 10, 33, 2, 33) true := ⟨RX10, TX10, 34, tyX10, rfl, tb_X10, tyX10_ok, nmX10, by decide, tb_in 1019 (by decide +kernel) (by decide +kernel), rfl, rfl, rfl, fun _ => rfl, fun a => ⟨rfl, rfl⟩⟩
theorem zr_sm3 {w w' : mm_M} {g : Nat} (h : higS w w') (hg : g ≤ 20) : higS w (zr w' g) := fun g' j k h' => by
  rw [zr_o (by omega)]
  exact h g' j k h'
theorem up_hig {w w' : mm_M} {g : Nat} {j k v : Int} (h : higS w w') (hg : g ≤ 20) : higS w (mm_up w' g j k v) := fun g' j' k' h' => by
  unfold mm_up
  rw [if_neg (fun z => by omega)]
  exact h g' j' k' h'
theorem beg_hig {w w' : mm_M} (h : higS w w') : higS w (begW w') := by
  refine up_hig (fun g' j' k' h' => ?_) (by decide)
  unfold arrw
  rw [if_neg (fun z => by omega), if_neg (fun z => by omega)]
  exact h g' j' k' h'
theorem beg_now (w : mm_M) : (∀ p, 0 ≤ p → p < 8 → begW w 6 0 p = 0) ∧ ∀ x, 0 ≤ x → x < 14 → begW w 6 0 (8 + x) = begW w 5 0 (7 * x + 3) := by
  refine ⟨fun p a b => ?_, fun x a b => ?_⟩
  · unfold begW mm_up arrw
    rw [if_neg (fun z => by omega), if_neg (fun z => by omega), if_pos ⟨rfl, rfl, by omega, by omega⟩]
  · unfold begW mm_up arrw
    rw [if_neg (fun z => by omega), if_pos ⟨rfl, rfl, by omega, by omega⟩, if_neg (fun z => by omega), if_neg (fun z => by omega), if_neg (fun z => by omega)]
    congr 1
    omega
set_option maxRecDepth 100000 in
theorem ev_m_init {w : mm_M} (h0 : w 1 0 0 = 0) : mm_Ev K_X10_init (19, 18530) [.inr (some (1, 0))] (bN (PH (false, false) false) 1) w (fun a b' w' => a = none ∧ b' = PH (false, true) false ∧ higS w w' ∧ LD w' (told tx 73).2 ∧ w' 1 0 0 = 0) := by
  refine ev_intro ok_X10_init mo_X10_init (Nat.le_of_ble_eq_true rfl) (fun hrg has => ?_)
  refine k_gp rfl rfl (by first | trivial | decide | (simp only [true_and, mm_fits]; omega)) ?_
  refine k_obji rfl (tb_in 969 (by decide +kernel) (by decide +kernel)) (tb_in 94 (by decide +kernel) (by decide +kernel)) (tb_in 95 (by decide +kernel) (by decide +kernel)) (by decide) (by decide) ?_
  refine k_gp rfl rfl (by first | trivial | decide | (simp only [true_and, mm_fits]; omega)) ?_
  refine k_newa (kd := 1) (g := 2) (N := 200) (n1 := (18, 18330)) (by decide) rfl rfl rfl (by decide) (tb_in 172 (by decide +kernel) (by decide +kernel)) (by decide) ⟨rfl, rfl⟩ ?_
  refine k_putr rfl rfl pp_X10_7 (fun _ => rfl) ?_
  refine k_gp rfl rfl (by first | trivial | decide | (simp only [true_and, mm_fits]; omega)) ?_
  refine k_newa (kd := 1) (g := 3) (N := 6) (n1 := (17, 18324)) (by decide) rfl rfl rfl (by decide) (tb_in 172 (by decide +kernel) (by decide +kernel)) (by decide) ⟨rfl, rfl⟩ ?_
  refine k_putr rfl rfl pp_X10_13 (fun _ => rfl) ?_
  refine k_gp rfl rfl (by first | trivial | decide | (simp only [true_and, mm_fits]; omega)) ?_
  refine k_newa (kd := 1) (g := 4) (N := 24) (n1 := (16, 18300)) (by decide) rfl rfl rfl (by decide) (tb_in 172 (by decide +kernel) (by decide +kernel)) (by decide) ⟨rfl, rfl⟩ ?_
  refine k_putr rfl rfl pp_X10_16 (fun _ => rfl) ?_
  refine k_gp rfl rfl (by first | trivial | decide | (simp only [true_and, mm_fits]; omega)) ?_
  refine k_newa (kd := 1) (g := 5) (N := 98) (n1 := (15, 18202)) (by decide) rfl rfl rfl (by decide) (tb_in 172 (by decide +kernel) (by decide +kernel)) (by decide) ⟨rfl, rfl⟩ ?_
  refine k_putr rfl rfl pp_X10_19 (fun _ => rfl) ?_
  refine k_gp rfl rfl (by first | trivial | decide | (simp only [true_and, mm_fits]; omega)) ?_
  refine k_newa (kd := 1) (g := 6) (N := 22) (n1 := (14, 18180)) (by decide) rfl rfl rfl (by decide) (tb_in 172 (by decide +kernel) (by decide +kernel)) (by decide) ⟨rfl, rfl⟩ ?_
  refine k_putr rfl rfl pp_X10_22 (fun _ => rfl) ?_
  refine k_gp rfl rfl (by first | trivial | decide | (simp only [true_and, mm_fits]; omega)) ?_
  refine k_newa (kd := 1) (g := 7) (N := 132) (n1 := (13, 18048)) (by decide) rfl rfl rfl (by decide) (tb_in 172 (by decide +kernel) (by decide +kernel)) (by decide) ⟨rfl, rfl⟩ ?_
  refine k_putr rfl rfl pp_X10_25 (fun _ => rfl) ?_
  refine k_gp rfl rfl (by first | trivial | decide | (simp only [true_and, mm_fits]; omega)) ?_
  refine k_newa (kd := 1) (g := 8) (N := 6) (n1 := (12, 18042)) (by decide) rfl rfl rfl (by decide) (tb_in 172 (by decide +kernel) (by decide +kernel)) (by decide) ⟨rfl, rfl⟩ ?_
  refine k_putr rfl rfl pp_X10_28 (fun _ => rfl) ?_
  refine k_gp rfl rfl (by first | trivial | decide | (simp only [true_and, mm_fits]; omega)) ?_
  refine k_newa (kd := 1) (g := 9) (N := 24) (n1 := (11, 18018)) (by decide) rfl rfl rfl (by decide) (tb_in 172 (by decide +kernel) (by decide +kernel)) (by decide) ⟨rfl, rfl⟩ ?_
  refine k_putr rfl rfl pp_X10_31 (fun _ => rfl) ?_
  refine k_gp rfl rfl (by first | trivial | decide | (simp only [true_and, mm_fits]; omega)) ?_
  refine k_newa (kd := 1) (g := 10) (N := 98) (n1 := (10, 17920)) (by decide) rfl rfl rfl (by decide) (tb_in 172 (by decide +kernel) (by decide +kernel)) (by decide) ⟨rfl, rfl⟩ ?_
  refine k_putr rfl rfl pp_X10_34 (fun _ => rfl) ?_
  refine k_gp rfl rfl (by first | trivial | decide | (simp only [true_and, mm_fits]; omega)) ?_
  refine k_newa (kd := 1) (g := 11) (N := 4096) (n1 := (9, 13824)) (by decide) rfl rfl rfl (by decide) (tb_in 172 (by decide +kernel) (by decide +kernel)) (by decide) ⟨rfl, rfl⟩ ?_
  refine k_putr rfl rfl pp_X10_37 (fun _ => rfl) ?_
  refine k_gp rfl rfl (by first | trivial | decide | (simp only [true_and, mm_fits]; omega)) ?_
  refine k_newa (kd := 1) (g := 12) (N := 4096) (n1 := (8, 9728)) (by decide) rfl rfl rfl (by decide) (tb_in 172 (by decide +kernel) (by decide +kernel)) (by decide) ⟨rfl, rfl⟩ ?_
  refine k_putr rfl rfl pp_X10_40 (fun _ => rfl) ?_
  refine k_gp rfl rfl (by first | trivial | decide | (simp only [true_and, mm_fits]; omega)) ?_
  refine k_newa (kd := 2) (g := 13) (N := 512) (n1 := (7, 9216)) (by decide) rfl rfl rfl (by decide) (tb_in 1089 (by decide +kernel) (by decide +kernel)) (by decide) ⟨rfl, rfl⟩ ?_
  refine k_putr rfl rfl pp_X10_43 (fun _ => rfl) ?_
  refine k_gp rfl rfl (by first | trivial | decide | (simp only [true_and, mm_fits]; omega)) ?_
  refine k_newa (kd := 2) (g := 14) (N := 512) (n1 := (6, 8704)) (by decide) rfl rfl rfl (by decide) (tb_in 1089 (by decide +kernel) (by decide +kernel)) (by decide) ⟨rfl, rfl⟩ ?_
  refine k_putr rfl rfl pp_X10_47 (fun _ => rfl) ?_
  refine k_gp rfl rfl (by first | trivial | decide | (simp only [true_and, mm_fits]; omega)) ?_
  refine k_newa (kd := 1) (g := 15) (N := 2048) (n1 := (5, 6656)) (by decide) rfl rfl rfl (by decide) (tb_in 172 (by decide +kernel) (by decide +kernel)) (by decide) ⟨rfl, rfl⟩ ?_
  refine k_putr rfl rfl pp_X10_50 (fun _ => rfl) ?_
  refine k_gp rfl rfl (by first | trivial | decide | (simp only [true_and, mm_fits]; omega)) ?_
  refine k_newa (kd := 1) (g := 16) (N := 2048) (n1 := (4, 4608)) (by decide) rfl rfl rfl (by decide) (tb_in 172 (by decide +kernel) (by decide +kernel)) (by decide) ⟨rfl, rfl⟩ ?_
  refine k_putr rfl rfl pp_X10_53 (fun _ => rfl) ?_
  refine k_gp rfl rfl (by first | trivial | decide | (simp only [true_and, mm_fits]; omega)) ?_
  refine k_newa (kd := 2) (g := 17) (N := 2048) (n1 := (3, 2560)) (by decide) rfl rfl rfl (by decide) (tb_in 1089 (by decide +kernel) (by decide +kernel)) (by decide) ⟨rfl, rfl⟩ ?_
  refine k_putr rfl rfl pp_X10_56 (fun _ => rfl) ?_
  refine k_gp rfl rfl (by first | trivial | decide | (simp only [true_and, mm_fits]; omega)) ?_
  refine k_newa (kd := 2) (g := 18) (N := 256) (n1 := (2, 2304)) (by decide) rfl rfl rfl (by decide) (tb_in 1089 (by decide +kernel) (by decide +kernel)) (by decide) ⟨rfl, rfl⟩ ?_
  refine k_putr rfl rfl pp_X10_59 (fun _ => rfl) ?_
  refine k_gp rfl rfl (by first | trivial | decide | (simp only [true_and, mm_fits]; omega)) ?_
  refine k_newa (kd := 1) (g := 19) (N := 2048) (n1 := (1, 256)) (by decide) rfl rfl rfl (by decide) (tb_in 172 (by decide +kernel) (by decide +kernel)) (by decide) ⟨rfl, rfl⟩ ?_
  refine k_putr rfl rfl pp_X10_62 (fun _ => rfl) ?_
  refine k_gp rfl rfl (by first | trivial | decide | (simp only [true_and, mm_fits]; omega)) ?_
  refine k_newa (kd := 2) (g := 20) (N := 256) (n1 := (0, 0)) (by decide) rfl rfl rfl (by decide) (tb_in 1089 (by decide +kernel) (by decide +kernel)) (by decide) ⟨rfl, rfl⟩ ?_
  refine k_putr rfl rfl pp_X10_65 (fun _ => rfl) ?_
  refine k_ph (b' := PH (false, true) false) (by decide +kernel) (by decide +kernel) (ph_ok _ _) ?_
  have hz : higS w (zr (zr (zr (zr (zr (zr (zr (zr (zr (zr (zr (zr (zr (zr (zr (zr (zr (zr (zr w 2) 3) 4) 5) 6) 7) 8) 9) 10) 11) 12) 13) 14) 15) 16) 17) 18) 19) 20) := (zr_sm3 (zr_sm3 (zr_sm3 (zr_sm3 (zr_sm3 (zr_sm3 (zr_sm3 (zr_sm3 (zr_sm3 (zr_sm3 (zr_sm3 (zr_sm3 (zr_sm3 (zr_sm3 (zr_sm3 (zr_sm3 (zr_sm3 (zr_sm3 (zr_sm3 (fun _ _ _ _ => rfl) (by decide)) (by decide)) (by decide)) (by decide)) (by decide)) (by decide)) (by decide)) (by decide)) (by decide)) (by decide)) (by decide)) (by decide)) (by decide)) (by decide)) (by decide)) (by decide)) (by decide)) (by decide)) (by decide))
  have z1 : ∀ k, (zr (zr (zr (zr (zr (zr (zr (zr (zr (zr (zr (zr (zr (zr (zr (zr (zr (zr (zr w 2) 3) 4) 5) 6) 7) 8) 9) 10) 11) 12) 13) 14) 15) 16) 17) 18) 19) 20) 1 0 k = w 1 0 k := fun k => rfl
  have z3 : ∀ g k, 2 ≤ g → g ≤ 20 → (zr (zr (zr (zr (zr (zr (zr (zr (zr (zr (zr (zr (zr (zr (zr (zr (zr (zr (zr w 2) 3) 4) 5) 6) 7) 8) 9) 10) 11) 12) 13) 14) 15) 16) 17) 18) 19) 20) g 0 k = 0 := fun g k a b => by
    have : g = 2 ∨ g = 3 ∨ g = 4 ∨ g = 5 ∨ g = 6 ∨ g = 7 ∨ g = 8 ∨ g = 9 ∨ g = 10 ∨ g = 11 ∨ g = 12 ∨ g = 13 ∨ g = 14 ∨ g = 15 ∨ g = 16 ∨ g = 17 ∨ g = 18 ∨ g = 19 ∨ g = 20 := by omega
    rcases this with rfl | rfl | rfl | rfl | rfl | rfl | rfl | rfl | rfl | rfl | rfl | rfl | rfl | rfl | rfl | rfl | rfl | rfl | rfl <;> rfl
  generalize (zr (zr (zr (zr (zr (zr (zr (zr (zr (zr (zr (zr (zr (zr (zr (zr (zr (zr (zr w 2) 3) 4) 5) 6) 7) 8) 9) 10) 11) 12) 13) 14) 15) 16) 17) 18) 19) 20) = w1 at *
  refine k_gp rfl rfl (by first | trivial | decide | (simp only [true_and, mm_fits]; decide)) ?_
  refine k_callp rfl (ev_m_compares (by decide)) rfl rfl rfl (by decide) ?_
  refine k_gp rfl rfl (by first | trivial | decide | (simp only [true_and, mm_fits]; decide)) ?_
  refine k_callp rfl (ev_m_compares (by decide)) rfl rfl rfl (by decide) ?_
  refine k_gp rfl rfl (by first | trivial | decide | (simp only [true_and, mm_fits]; decide)) ?_
  refine k_callp rfl (ev_m_compares (by decide)) rfl rfl rfl (by decide) ?_
  refine k_gp rfl rfl (by first | trivial | decide | (simp only [true_and, mm_fits]; decide)) ?_
  refine k_callp rfl (ev_m_compares (by decide)) rfl rfl rfl (by decide) ?_
  refine k_gp rfl rfl (by first | trivial | decide | (simp only [true_and, mm_fits]; decide)) ?_
  refine k_callp rfl (ev_m_compares (by decide)) rfl rfl rfl (by decide) ?_
  refine k_gp rfl rfl (by first | trivial | decide | (simp only [true_and, mm_fits]; decide)) ?_
  refine k_callp rfl (ev_m_joins (by decide)) rfl rfl rfl (by decide) ?_
  refine k_gp rfl rfl (by first | trivial | decide | (simp only [true_and, mm_fits]; decide)) ?_
  refine k_callp rfl (ev_m_acts (by decide)) rfl rfl rfl (by decide) ?_
  refine k_gp rfl rfl (by first | trivial | decide | (simp only [true_and, mm_fits]; decide)) ?_
  refine k_callp rfl (ev_m_joins (by decide)) rfl rfl rfl (by decide) ?_
  refine k_gp rfl rfl (by first | trivial | decide | (simp only [true_and, mm_fits]; decide)) ?_
  refine k_callp rfl (ev_m_acts (by decide)) rfl rfl rfl (by decide) ?_
  refine k_gp rfl rfl (by first | trivial | decide | (simp only [true_and, mm_fits]; decide)) ?_
  refine k_callp rfl (ev_m_joins (by decide)) rfl rfl rfl (by decide) ?_
  refine k_gp rfl rfl (by first | trivial | decide | (simp only [true_and, mm_fits]; decide)) ?_
  refine k_callp rfl (ev_m_acts (by decide)) rfl rfl rfl (by decide) ?_
  refine k_gp rfl rfl (by first | trivial | decide | (simp only [true_and, mm_fits]; decide)) ?_
  refine k_callp rfl (ev_m_joins (by decide)) rfl rfl rfl (by decide) ?_
  refine k_gp rfl rfl (by first | trivial | decide | (simp only [true_and, mm_fits]; decide)) ?_
  refine k_callp rfl (ev_m_acts (by decide)) rfl rfl rfl (by decide) ?_
  refine k_gp rfl rfl (by first | trivial | decide | (simp only [true_and, mm_fits]; decide)) ?_
  refine k_callp rfl ev_m_begins rfl rfl rfl (by decide) ?_
  refine k_ret rfl trivial ⟨rfl, rfl, ?_, ?_, ?_⟩
  · refine beg_hig ?_
    repeat (refine up_hig ?_ (by decide))
    exact hz
  · refine LD_tx ⟨rfl, rfl, rfl, rfl, rfl, rfl⟩ ?_ ?_ ?_ (beg_now _).1 (fun x a b => (beg_now _).2 x a (by omega))
    · intro k
      match k with
      | 0 => exact z3 3 0 (by decide) (by decide)
      | 1 => rfl
      | 2 => exact z3 3 2 (by decide) (by decide)
      | 3 => exact z3 3 3 (by decide) (by decide)
    · intro g k
      match g, k with
      | 0, 0 => rfl
      | 0, 1 => rfl
      | 0, 2 => rfl
      | 1, 0 => rfl
      | 1, 1 => rfl
      | 1, 2 => rfl
      | 2, 0 => rfl
      | 2, 1 => rfl
      | 2, 2 => rfl
      | 3, 0 => rfl
      | 3, 1 => rfl
      | 3, 2 => rfl
      | 4, 0 => rfl
      | 4, 1 => rfl
      | 4, 2 => rfl
    · intro g k
      match g, k with
      | 0, 0 => rfl
      | 0, 1 => rfl
      | 0, 2 => rfl
      | 0, 3 => rfl
      | 0, 4 => rfl
      | 0, 5 => rfl
      | 0, 6 => rfl
      | 1, 0 => rfl
      | 1, 1 => rfl
      | 1, 2 => rfl
      | 1, 3 => rfl
      | 1, 4 => rfl
      | 1, 5 => rfl
      | 1, 6 => rfl
      | 2, 0 => rfl
      | 2, 1 => rfl
      | 2, 2 => rfl
      | 2, 3 => rfl
      | 2, 4 => rfl
      | 2, 5 => rfl
      | 2, 6 => rfl
      | 3, 0 => rfl
      | 3, 1 => rfl
      | 3, 2 => rfl
      | 3, 3 => rfl
      | 3, 4 => rfl
      | 3, 5 => rfl
      | 3, 6 => rfl
  · exact (z1 0).trans h0
