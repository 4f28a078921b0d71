/-! ===== the class's constructor ===== -/
/-- nothing is made yet -/
def b00 : mm_B := (fun _ _ => none, [])
abbrev ciL : List (Nat × Option Int) := (21, none) :: (List.range' 22 25).map fun g => (g, none)
section MXC
abbrev ciQ : Option mm_V → mm_B → mm_M → Prop := fun a b' w' => a = none ∧ b' = PH (false, false) false ∧ CB w' (false, false) false (told tx 73).2.1.1 (told tx 73).2.1.2.1 (told tx 73).2.1.2.2.1 (told tx 73).2.1.2.2.2.1 (told tx 73).2.1.2.2.2.2 (told tx 73).2.2.2.1 (told tx 73).2.2.2.2 (told tx 73).2.2.1 (fun _ => 0) ∧ (w' 43 0 2 = 0 ∧ 0 ≤ w' 43 0 3 ∧ w' 43 0 3 < 6) ∧ w' 22 0 1 = 0 ∧ w' 21 0 7 = 1 ∧ w' 21 0 8 = 1
theorem tx_b : ∀ k : Fin 73, 0 ≤ tx ((k.val : Nat) : Int) ∧ tx ((k.val : Nat) : Int) < 65536 := by decide +kernel
theorem wk_c_init2 {w1 : mm_M} (h22 : w1 22 0 1 = 0) (h43 : w1 43 0 3 = 0) : mm_Wk K_X9_init (0, 0) 60 [some (.inr (some (21, 0))), none] [] (PH (false, false) false) w1 ciQ := by
  refine k_gp rfl rfl (by first | trivial | decide | (simp only [true_and, mm_fits]; omega)) ?_
  refine mm_loop (σ := mm_M) 73 (fun i w2 => (0 ≤ i ∧ i ≤ 73) ∧ w2 22 0 1 = i ∧ w2 43 0 3 = 0 ∧ ∀ k, 0 ≤ k → k < i → w2 23 0 k = tx k) (fun i w2 => mm_Wk K_X9_init (0, 0) 62 [some (.inr (some (21, 0))), some (.inl i)] [] (PH (false, false) false) w2 ciQ) ?_ ?_ 0 w1 ⟨by omega, h22, h43, fun k a b => by omega⟩
  · intro i w2 hi h ih
    obtain ⟨h1, h2, h3, h4⟩ := h
    refine k_gp rfl rfl (by first | trivial | decide | (simp only [true_and, mm_fits]; omega)) ?_
    refine k_slen (Nat.le_of_ble_eq_true rfl) ?_
    refine k_brf rfl (by omega) ?_
    refine k_gp rfl rfl (by first | trivial | decide | (simp only [true_and, mm_fits]; omega)) ?_
    refine k_schar (i := i) (Nat.le_of_ble_eq_true rfl) rfl ⟨by omega, by omega⟩ ?_
    obtain ⟨j, hj⟩ := toFin (n := 73) (k := i) (by omega) (by omega)
    have hb := tx_b j
    rw [← hj] at hb
    have ev := ev_c_tadd (r := (false, false)) (y := false) (w := w2) (l := tx i) hb (by omega)
    rw [h2, if_pos (by omega)] at ev
    refine k_callp rfl ev rfl rfl rfl (by decide) ?_
    refine k_gp rfl rfl (by simp only [true_and, mm_fits]; omega) ?_
    refine ih _ ⟨by omega, up_s, ?_, fun k a b => ?_⟩
    · rw [up_g rfl, up_g rfl]; exact h3
    · rw [up_g rfl]
      by_cases hk : k = i
      · rw [hk, up_s]
      · rw [up_k hk]
        exact h4 k a (by omega)
  · intro i w2 hi h
    obtain ⟨h1, h2, h3, h4⟩ := h
    have hi : i = 73 := by omega
    subst hi
    refine k_gp rfl rfl (by first | trivial | decide | (simp only [true_and, mm_fits]; omega)) ?_
    refine k_slen (Nat.le_of_ble_eq_true rfl) ?_
    refine k_brt rfl (by omega) ?_
    refine k_gp rfl rfl (by first | trivial | decide | (simp only [true_and, mm_fits]; omega)) ?_
    refine k_call0 rfl (ev_c_takeText (r := (false, false)) (y := false) (hl := fun _ _ => 0) (hw := fun _ => 0) (t := tx) (n := 73) ⟨h4, h2, by decide, by decide⟩ (by omega)) rfl rfl rfl (by decide) ?_
    rintro a b' w3 ⟨rfl, s1, g1, -⟩
    have ht : (told tx 73).1 = -4 ∧ (told tx 73).2.1.1 ≠ 0 := ⟨tx_1.1, by rw [tx_1.2]; decide⟩
    obtain ⟨rfl, hCS, e7, e8⟩ := g1 ht
    refine k_gp rfl rfl (by first | trivial | decide | (simp only [true_and, mm_fits]; omega)) ?_
    refine k_callp rfl ev_c_tempty rfl rfl rfl (by decide) ?_
    have s2 : sm [(22, some 1)] w3 (mm_up w3 22 0 1 0) := sm_up sm_rf (Or.inr (by decide))
    refine k_ret rfl trivial ⟨rfl, rfl, CB_eq (cbG_fr s2 rfl) hCS.1, ?_, up_s, ?_, ?_⟩
    · rw [up_g rfl, up_g rfl]
      exact ⟨hCS.2.1.1.1, hCS.2.1.1.2.2⟩
    · rw [up_g rfl]; exact e7
    · rw [up_g rfl]; exact e8
theorem wk_c_init {w : mm_M} : mm_Wk K_X9_init (70, 1631) 0 (mm_ent [.inr (some (21, 0))] 2) [] (bN b00 21) w ciQ := by
  refine k_gp rfl rfl (by first | trivial | decide | (simp only [true_and, mm_fits]; omega)) ?_
  refine k_obji rfl (tb_in 93 (by decide +kernel) (by decide +kernel)) (tb_in 94 (by decide +kernel) (by decide +kernel)) (tb_in 95 (by decide +kernel) (by decide +kernel)) (by decide) (by decide) ?_
  refine k_gp rfl rfl (by first | trivial | decide | (simp only [true_and, mm_fits]; omega)) ?_
  refine k_newo (g := 22) (n1 := (69, 1627)) rfl rfl ck_X9_7 (by decide) ⟨rfl, rfl⟩ ?_
  refine k_gp rfl rfl (by first | trivial | decide | (simp only [true_and, mm_fits]; omega)) ?_
  refine k_call (n1 := (40, 1261)) (n' := (29, 366)) rfl (ev_init_22 (by decide) (by decide) (by decide) (by decide) (by decide) (by decide) (by decide) (by decide) (by decide)) rfl rfl rfl (fun _ => rfl) ⟨rfl, rfl⟩ ?_
  rintro a b' w' ⟨rfl, rfl, rfl⟩
  refine k_putr rfl rfl pp_X9_10 (fun _ => rfl) ?_
  refine k_gp rfl rfl (by first | trivial | decide | (simp only [true_and, mm_fits]; omega)) ?_
  refine k_newo (g := 32) (n1 := (39, 1252)) rfl rfl ck_X9_16 (by decide) ⟨rfl, rfl⟩ ?_
  refine k_gp rfl rfl (by first | trivial | decide | (simp only [true_and, mm_fits]; omega)) ?_
  refine k_call (n1 := (13, 1102)) (n' := (26, 150)) rfl (ev_init_32 (by decide) (by decide) (by decide) (by decide) (by decide) (by decide)) rfl rfl rfl (fun _ => rfl) ⟨rfl, rfl⟩ ?_
  rintro a b' w' ⟨rfl, rfl, rfl⟩
  refine k_putr rfl rfl pp_X9_19 (fun _ => rfl) ?_
  refine k_gp rfl rfl (by first | trivial | decide | (simp only [true_and, mm_fits]; omega)) ?_
  refine k_newo (g := 39) (n1 := (12, 1096)) rfl rfl ck_X9_23 (by decide) ⟨rfl, rfl⟩ ?_
  refine k_gp rfl rfl (by first | trivial | decide | (simp only [true_and, mm_fits]; omega)) ?_
  refine k_call (n1 := (10, 72)) (n' := (2, 1024)) rfl (ev_init_39 (by decide) (by decide)) rfl rfl rfl (fun _ => rfl) ⟨rfl, rfl⟩ ?_
  rintro a b' w' ⟨rfl, rfl, rfl⟩
  refine k_putr rfl rfl pp_X9_28 (fun _ => rfl) ?_
  refine k_gp rfl rfl (by first | trivial | decide | (simp only [true_and, mm_fits]; omega)) ?_
  refine k_newa (kd := 1) (g := 42) (N := 8) (n1 := (9, 64)) (by decide) rfl rfl rfl (by decide) (tb_in 172 (by decide +kernel) (by decide +kernel)) (by decide) ⟨rfl, rfl⟩ ?_
  refine k_putr rfl rfl pp_X9_32 (fun _ => rfl) ?_
  refine k_gp rfl rfl (by first | trivial | decide | (simp only [true_and, mm_fits]; omega)) ?_
  refine k_newo (g := 43) (n1 := (8, 60)) rfl rfl ck_X9_36 (by decide) ⟨rfl, rfl⟩ ?_
  refine k_gp rfl rfl (by first | trivial | decide | (simp only [true_and, mm_fits]; omega)) ?_
  refine k_call (n1 := (0, 0)) (n' := (8, 60)) rfl (ev_init_43 (by decide) (by decide) (by decide)) rfl rfl rfl (fun _ => rfl) ⟨rfl, rfl⟩ ?_
  rintro a b' w' ⟨rfl, rfl, rfl⟩
  refine k_putr rfl rfl pp_X9_39 (fun _ => rfl) ?_
  refine k_ph (b' := PH (false, false) false) (by decide +kernel) (by decide +kernel) (ph_ok _ _) ?_
  exact wk_c_init2 rfl rfl
end MXC
