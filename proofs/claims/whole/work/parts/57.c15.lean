/-! ===== the class: so, gone, what is looked at in all ===== -/
theorem vls_ok {nv a b d : Int} (hnv : 0 ≤ nv ∧ nv ≤ 3) (h : (0 ≤ a ∧ a ≤ 7) ∧ (0 ≤ b ∧ b ≤ 7) ∧ (0 ≤ d ∧ d ≤ 7)) : (0 ≤ vls nv a b d ∧ vls nv a b d < 512) ∧ thB nv (vls nv a b d) = true := by
  have h1 : 0 ≤ vls nv a b d ∧ vls nv a b d < 512 ∧ vls nv a b d % gp_ nv = 0 := by
    obtain rfl | rfl | rfl | rfl : nv = 0 ∨ nv = 1 ∨ nv = 2 ∨ nv = 3 := by omega
    · show 0 ≤ (0 + 0 + 0 : Int) ∧ (0 + 0 + 0 : Int) < 512 ∧ (0 + 0 + 0 : Int) % 512 = 0
      decide
    · show 0 ≤ 64 * a + 0 + 0 ∧ 64 * a + 0 + 0 < 512 ∧ (64 * a + 0 + 0) % 64 = 0
      omega
    · show 0 ≤ 64 * a + 8 * b + 0 ∧ 64 * a + 8 * b + 0 < 512 ∧ (64 * a + 8 * b + 0) % 8 = 0
      omega
    · show 0 ≤ 64 * a + 8 * b + d ∧ 64 * a + 8 * b + d < 512 ∧ (64 * a + 8 * b + d) % 1 = 0
      omega
  exact ⟨⟨h1.1, h1.2.1⟩, (thB_gp hnv ⟨h1.1, h1.2.1⟩).mpr h1.2.2⟩
section MC
variable {r : Bool × Bool} {y : Bool} {w : mm_M} {np trap nv nc ne : Int} {c e : Int → Int → Int} {f : Int → Int}
set_option maxRecDepth 100000 in
theorem ev_c_gone {x a b d : Int} (hO : PO np trap nv nc ne c e) (hP : PC w np trap nv nc ne c e f) (hM : MM w nv nc c f) : mm_Ev K_X9_gone (0, 0) [.inr (some (21, 0)), .inl x, .inl a, .inl b, .inl d] (PH r y) w (mm_pe (some (.inl (if (0 ≤ x ∧ x < ne) ∧ (0 ≤ a ∧ a ≤ 7) ∧ (0 ≤ b ∧ b ≤ 7) ∧ (0 ≤ d ∧ d ≤ 7) then ga_ c e x (vls nv a b d) else -1))) (PH r y) w) := by
  refine ev_intro ok_X9_gone mo_X9_gone (Nat.le_of_ble_eq_true rfl) (fun hrg has => ?_)
  have hnv := hO.2.2.1
  have h4 := hP.1.2.2.2.2
  refine k_gp rfl rfl trivial ?_
  refine k_callp rfl ev_c_isEdge rfl rfl rfl (by decide) ?_
  rw [h4]
  refine k_brz rfl (fun g1 => ?_) (fun g1 => ?_)
  · rw [if_neg (fun q => g1 q.1)]
    repeat' (first
      | refine k_brt rfl (by decide) ?_
      | refine k_brf rfl (by decide) ?_
      | refine k_brz rfl (fun _ => ?_) (fun _ => ?_)
      | refine k_brn rfl (fun _ => ?_) (fun _ => ?_)
      | refine k_br rfl (fun _ => ?_) (fun _ => ?_)
      | refine k_ret rfl ?_ ⟨?_, rfl, rfl⟩
      | refine k_ts rfl rfl ?_ (fun _ => ?_)
      | refine mm_tsc (fun _ => ?_) ?_
      | exact mm_tsn
      | refine k_gp rfl rfl ?_ ?_)
    all_goals (first | trivial | omega | (simp only [true_and, mm_fits]; omega) | (refine congrArg some (congrArg Sum.inl ?_); first | rfl | (rw [ib_t (by omega)]) | (rw [ib_f (by omega)]) | omega))
  · refine k_gp rfl rfl trivial ?_
    refine k_callp rfl ev_c_areValues rfl rfl rfl (by decide) ?_
    refine k_brn rfl (fun g2 => ?_) (fun g2 => ?_)
    · rw [if_pos ⟨g1, g2⟩]
      obtain ⟨v1, v2⟩ := vls_ok hnv g2
      refine k_gp rfl rfl trivial ?_
      refine k_callp rfl (ev_c_valuesOf g2 hnv hM.1.2) rfl rfl rfl (by decide) ?_
      refine k_callp rfl (ev_c_after (f := f) v1 g1 hO hP (hM.2.2.2 _ v1.1 v1.2 v2)) rfl rfl rfl (by decide) ?_
      exact k_ret rfl trivial ⟨rfl, rfl, rfl⟩
    · rw [if_neg (fun q => g2 q.2)]
      repeat' (first
        | refine k_brt rfl (by decide) ?_
        | refine k_brf rfl (by decide) ?_
        | refine k_brz rfl (fun _ => ?_) (fun _ => ?_)
        | refine k_brn rfl (fun _ => ?_) (fun _ => ?_)
        | refine k_br rfl (fun _ => ?_) (fun _ => ?_)
        | refine k_ret rfl ?_ ⟨?_, rfl, rfl⟩
        | refine k_ts rfl rfl ?_ (fun _ => ?_)
        | refine mm_tsc (fun _ => ?_) ?_
        | exact mm_tsn
        | refine k_gp rfl rfl ?_ ?_)
      all_goals (first | trivial | omega | (simp only [true_and, mm_fits]; omega) | (refine congrArg some (congrArg Sum.inl ?_); first | rfl | (rw [ib_t (by omega)]) | (rw [ib_f (by omega)]) | omega))
set_option maxRecDepth 100000 in
theorem ev_c_so {g a b d : Int} (hO : PO np trap nv nc ne c e) (hP : PC w np trap nv nc ne c e f) (hM : MM w nv nc c f) : mm_Ev K_X9_so (0, 0) [.inr (some (21, 0)), .inl g, .inl a, .inl b, .inl d] (PH r y) w (mm_pe (some (.inl (if (0 ≤ g ∧ g < nc) ∧ (0 ≤ a ∧ a ≤ 7) ∧ (0 ≤ b ∧ b ≤ 7) ∧ (0 ≤ d ∧ d ≤ 7) then ib (soB c g (vls nv a b d) = true) else -1))) (PH r y) w) := by
  refine ev_intro ok_X9_so mo_X9_so (Nat.le_of_ble_eq_true rfl) (fun hrg has => ?_)
  have hnv := hO.2.2.1
  have hnc := hO.2.2.2.1
  have h3 := hP.1.2.2.2.1
  refine k_gp rfl rfl trivial ?_
  refine k_callp rfl ev_c_isComparison rfl rfl rfl (by decide) ?_
  rw [h3]
  refine k_brz rfl (fun g1 => ?_) (fun g1 => ?_)
  · rw [if_neg (fun q => g1 q.1)]
    repeat' (first
      | refine k_brt rfl (by decide) ?_
      | refine k_brf rfl (by decide) ?_
      | refine k_brz rfl (fun _ => ?_) (fun _ => ?_)
      | refine k_brn rfl (fun _ => ?_) (fun _ => ?_)
      | refine k_br rfl (fun _ => ?_) (fun _ => ?_)
      | refine k_ret rfl ?_ ⟨?_, rfl, rfl⟩
      | refine k_ts rfl rfl ?_ (fun _ => ?_)
      | refine mm_tsc (fun _ => ?_) ?_
      | exact mm_tsn
      | refine k_gp rfl rfl ?_ ?_)
    all_goals (first | trivial | omega | (simp only [true_and, mm_fits]; omega) | (refine congrArg some (congrArg Sum.inl ?_); first | rfl | (rw [ib_t (by omega)]) | (rw [ib_f (by omega)]) | omega))
  · refine k_gp rfl rfl trivial ?_
    refine k_callp rfl ev_c_areValues rfl rfl rfl (by decide) ?_
    refine k_brn rfl (fun g2 => ?_) (fun g2 => ?_)
    · rw [if_pos ⟨g1, g2⟩]
      obtain ⟨v1, v2⟩ := vls_ok hnv g2
      refine k_gp rfl rfl trivial ?_
      refine k_callp rfl (ev_c_valuesOf g2 hnv hM.1.2) rfl rfl rfl (by decide) ?_
      refine k_callp rfl (ev_c_sosOf v1) rfl rfl rfl (by decide) ?_
      have hS := SO_in c (vls nv a b d) hnc.2
      refine k_gp rfl rfl trivial ?_
      rw [hM.2.2.2 _ v1.1 v1.2 v2, hb_eq (by omega) (by omega), SO_hb hnc.2 g1]
      exact k_ret rfl trivial ⟨rfl, rfl, rfl⟩
    · rw [if_neg (fun q => g2 q.2)]
      repeat' (first
        | refine k_brt rfl (by decide) ?_
        | refine k_brf rfl (by decide) ?_
        | refine k_brz rfl (fun _ => ?_) (fun _ => ?_)
        | refine k_brn rfl (fun _ => ?_) (fun _ => ?_)
        | refine k_br rfl (fun _ => ?_) (fun _ => ?_)
        | refine k_ret rfl ?_ ⟨?_, rfl, rfl⟩
        | refine k_ts rfl rfl ?_ (fun _ => ?_)
        | refine mm_tsc (fun _ => ?_) ?_
        | exact mm_tsn
        | refine k_gp rfl rfl ?_ ?_)
      all_goals (first | trivial | omega | (simp only [true_and, mm_fits]; omega) | (refine congrArg some (congrArg Sum.inl ?_); first | rfl | (rw [ib_t (by omega)]) | (rw [ib_f (by omega)]) | omega))
end MC
