/-! ===== the class: items of the text ===== -/
abbrev tpP (w : mm_M) : Prop := w 24 0 0 = 0 ∧ 2 ≤ w 31 0 0 ∧ w 31 0 0 ≤ 8 ∧ w 31 0 1 < w 31 0 0
abbrev tvP (w : mm_M) : Prop := w 24 0 2 < 3 ∧ w 31 0 0 ≤ w 31 0 1 ∧ w 31 0 1 ≤ 7
abbrev tcP (w : mm_M) : Prop := w 24 0 3 < 8 ∧ w 31 0 0 ≤ 4 ∧ w 31 0 1 < w 24 0 2 ∧ (2 ≤ w 31 0 0 → w 31 0 2 < w 24 0 2)
abbrev ejP (w : mm_M) : Prop := w 31 0 0 < w 24 0 0 ∧ w 31 0 1 < w 24 0 0 ∧ w 31 0 3 ≤ 1 ∧ (w 31 0 2 = 9 ∨ w 31 0 2 < w 24 0 3)
abbrev edP (w : mm_M) : Prop := w 31 0 4 = 0 ∨ (w 31 0 4 = 1 ∧ w 31 0 5 < w 24 0 2 ∧ w 31 0 6 ≤ 7) ∨ ((w 31 0 4 = 2 ∨ w 31 0 4 = 3) ∧ w 31 0 5 < w 24 0 2) ∨ ((w 31 0 4 = 4 ∨ w 31 0 4 = 5) ∧ w 31 0 5 < w 24 0 2 ∧ w 31 0 6 < w 24 0 2)
abbrev teP (w : mm_M) : Prop := w 24 0 4 < 14 ∧ ejP w ∧ edP w
section MC
variable {r : Bool × Bool} {y : Bool} {w : mm_M} {t : Int → Int} {n : Int}
theorem ev_c_tellPlaces : mm_Ev K_X7_tellPlaces (0, 0) [.inr (some (22, 0))] (PH r y) w (mm_pe (some (.inl (ib (tpP w)))) (PH r y) (if tpP w then mm_up (mm_up w 24 0 0 (w 31 0 0)) 24 0 1 (w 31 0 1) else w)) := by
  refine ev_intro ok_X7_tellPlaces mo_X7_tellPlaces (Nat.le_of_ble_eq_true rfl) (fun hrg has => ?_)
  by_cases hB : tpP w
  · rw [if_pos hB, ib_t hB]
    obtain ⟨h1, h2, h3, h4⟩ := hB
    have e1 : ∀ v, mm_up w 24 0 0 v 31 0 1 = w 31 0 1 := fun v => up_g rfl
    refine k_gp rfl rfl (by first | trivial | decide | (simp only [true_and, mm_fits]; omega)) ?_
    refine k_brf rfl (by omega) ?_
    refine k_gp rfl rfl (by first | trivial | decide | (simp only [true_and, mm_fits]; omega)) ?_
    refine k_brf rfl (by omega) ?_
    refine k_gp rfl rfl (by first | trivial | decide | (simp only [true_and, mm_fits]; omega)) ?_
    refine k_brf rfl (by omega) ?_
    refine k_gp rfl rfl (by first | trivial | decide | (simp only [true_and, mm_fits]; omega)) ?_
    refine k_brt rfl (by omega) ?_
    refine k_gp rfl rfl (by first | trivial | decide | (simp only [true_and, mm_fits]; omega)) ?_
    rw [e1]
    exact k_ret rfl (by decide) ⟨rfl, rfl, rfl⟩
  · rw [if_neg hB, ib_f hB]
    unfold tpP at hB
    repeat' (first
      | refine k_brt rfl (by first | decide | assumption | omega) ?_
      | refine k_brf rfl (by first | decide | assumption | omega) ?_
      | refine k_brz rfl (fun _ => ?_) (fun _ => ?_)
      | refine k_brn rfl (fun _ => ?_) (fun _ => ?_)
      | refine k_br rfl (fun _ => ?_) (fun _ => ?_)
      | refine k_ret rfl ?_ ⟨?_, rfl, rfl⟩
      | refine k_ts rfl rfl ?_ (fun _ => ?_)
      | refine mm_tsc (fun _ => ?_) ?_
      | exact mm_tsn
      | refine k_gp rfl rfl ?_ ?_)
    all_goals (first | trivial | omega | (simp only [true_and, mm_fits]; omega) | (refine congrArg some (congrArg Sum.inl ?_); first | rfl | (rw [ib_t (by omega)]) | (rw [ib_f (by omega)]) | omega) | (exact absurd (by omega) hB) | rfl)
theorem ev_c_tellVariable (hn : 0 ≤ w 24 0 2) : mm_Ev K_X7_tellVariable (0, 0) [.inr (some (22, 0))] (PH r y) w (mm_pe (some (.inl (ib (tvP w)))) (PH r y) (if tvP w then mm_up (mm_up (mm_up w 25 0 (w 24 0 2) (w 31 0 0)) 26 0 (w 24 0 2) (w 31 0 1)) 24 0 2 (w 24 0 2 + 1) else w)) := by
  refine ev_intro ok_X7_tellVariable mo_X7_tellVariable (Nat.le_of_ble_eq_true rfl) (fun hrg has => ?_)
  by_cases hB : tvP w
  · rw [if_pos hB, ib_t hB]
    obtain ⟨h1, h2, h3⟩ := hB
    have e1 : ∀ i v, mm_up w 25 0 i v 31 0 1 = w 31 0 1 := fun i v => up_g rfl
    have e2 : ∀ i v j u, mm_up (mm_up w 25 0 i v) 26 0 j u 24 0 2 = w 24 0 2 := fun i v j u => (up_g rfl).trans (up_g rfl)
    refine k_gp rfl rfl (by first | trivial | decide | (simp only [true_and, mm_fits]; omega)) ?_
    refine k_brf rfl (by omega) ?_
    refine k_gp rfl rfl (by first | trivial | decide | (simp only [true_and, mm_fits]; omega)) ?_
    refine k_brf rfl (by omega) ?_
    refine k_gp rfl rfl (by first | trivial | decide | (simp only [true_and, mm_fits]; omega)) ?_
    refine k_brt rfl (by omega) ?_
    refine k_gp rfl rfl (by simp only [true_and, mm_fits, e1, e2]; omega) ?_
    rw [e1, e2]
    exact k_ret rfl (by decide) ⟨rfl, rfl, rfl⟩
  · rw [if_neg hB, ib_f hB]
    unfold tvP at hB
    repeat' (first
      | refine k_brt rfl (by first | decide | assumption | omega) ?_
      | refine k_brf rfl (by first | decide | assumption | omega) ?_
      | refine k_brz rfl (fun _ => ?_) (fun _ => ?_)
      | refine k_brn rfl (fun _ => ?_) (fun _ => ?_)
      | refine k_br rfl (fun _ => ?_) (fun _ => ?_)
      | refine k_ret rfl ?_ ⟨?_, rfl, rfl⟩
      | refine k_ts rfl rfl ?_ (fun _ => ?_)
      | refine mm_tsc (fun _ => ?_) ?_
      | exact mm_tsn
      | refine k_gp rfl rfl ?_ ?_)
    all_goals (first | trivial | omega | (simp only [true_and, mm_fits]; omega) | (refine congrArg some (congrArg Sum.inl ?_); first | rfl | (rw [ib_t (by omega)]) | (rw [ib_f (by omega)]) | omega) | (exact absurd (by omega) hB) | rfl)
theorem ev_c_tellComparison (hn : 0 ≤ w 24 0 3) : mm_Ev K_X7_tellComparison (0, 0) [.inr (some (22, 0))] (PH r y) w (mm_pe (some (.inl (ib (tcP w)))) (PH r y) (if tcP w then mm_up (mm_cp w 31 0 0 28 (w 24 0 3) 0 3) 24 0 3 (w 24 0 3 + 1) else w)) := by
  refine ev_intro ok_X7_tellComparison mo_X7_tellComparison (Nat.le_of_ble_eq_true rfl) (fun hrg has => ?_)
  by_cases hB : tcP w
  · rw [if_pos hB, ib_t hB]
    obtain ⟨h1, h2, h3, h4⟩ := hB
    have e2 : mm_cp w 31 0 0 28 (w 24 0 3) 0 3 24 0 3 = w 24 0 3 := cp_g rfl
    have J61 : mm_Wk K_X7_tellComparison (0, 0) 61 [some (.inr (some (22, 0))), some (.inl (w 24 0 3)), some (.inl (w 31 0 0))] [] (PH r y) w (mm_pe (some (.inl 1)) (PH r y) (mm_up (mm_cp w 31 0 0 28 (w 24 0 3) 0 3) 24 0 3 (w 24 0 3 + 1))) := by
      refine k_gp rfl rfl (by simp only [true_and, mm_fits]; omega) ?_
      refine k_copy rfl (tb_in 325 (by decide +kernel) (by decide +kernel)) (tb_in 327 (by decide +kernel) (by decide +kernel)) (tb_in 326 (by decide +kernel) (by decide +kernel)) (tb_in 78 (by decide +kernel) (by decide +kernel)) rfl rfl ⟨by decide, by decide, by decide⟩ (by decide) (by decide +kernel) ?_
      refine k_gp rfl rfl (by simp only [true_and, mm_fits, e2]; omega) ?_
      rw [e2]
      exact k_ret rfl (by decide) ⟨rfl, rfl, rfl⟩
    refine k_gp rfl rfl (by first | trivial | decide | (simp only [true_and, mm_fits]; omega)) ?_
    refine k_brf rfl (by omega) ?_
    refine k_gp rfl rfl (by first | trivial | decide | (simp only [true_and, mm_fits]; omega)) ?_
    refine k_brf rfl (by omega) ?_
    refine k_gp rfl rfl (by first | trivial | decide | (simp only [true_and, mm_fits]; omega)) ?_
    refine k_callp rfl ev_c_isVariable rfl rfl rfl (by decide) ?_
    refine k_brn rfl (fun q => ?_) (fun q => absurd h3 q)
    refine k_gp rfl rfl (by first | trivial | decide | (simp only [true_and, mm_fits]; omega)) ?_
    refine k_br rfl (fun q => ?_) (fun q => ?_)
    · exact J61
    · refine k_gp rfl rfl (by first | trivial | decide | (simp only [true_and, mm_fits]; omega)) ?_
      refine k_callp rfl ev_c_isVariable rfl rfl rfl (by decide) ?_
      refine k_brn rfl (fun q => ?_) (fun q2 => absurd (h4 (by omega)) q2)
      exact J61
  · rw [if_neg hB, ib_f hB]
    unfold tcP at hB
    have J39 : ∀ l1 l2, mm_Wk K_X7_tellComparison (0, 0) 39 [some (.inr (some (22, 0))), l1, l2] [] (PH r y) w (mm_pe (some (.inl 0)) (PH r y) w) := fun l1 l2 => by
      refine k_gp rfl rfl (by first | trivial | decide | (simp only [true_and, mm_fits]; omega)) ?_
      exact k_ret rfl (by decide) ⟨rfl, rfl, rfl⟩
    refine k_gp rfl rfl (by first | trivial | decide | (simp only [true_and, mm_fits]; omega)) ?_
    refine k_br rfl (fun q1 => J39 _ _) (fun q1 => ?_)
    refine k_gp rfl rfl (by first | trivial | decide | (simp only [true_and, mm_fits]; omega)) ?_
    refine k_br rfl (fun q2 => J39 _ _) (fun q2 => ?_)
    refine k_gp rfl rfl (by first | trivial | decide | (simp only [true_and, mm_fits]; omega)) ?_
    refine k_callp rfl ev_c_isVariable rfl rfl rfl (by decide) ?_
    refine k_brn rfl (fun q3 => ?_) (fun q3 => J39 _ _)
    refine k_gp rfl rfl (by first | trivial | decide | (simp only [true_and, mm_fits]; omega)) ?_
    refine k_br rfl (fun q4 => ?_) (fun q4 => ?_)
    · exact absurd ⟨by omega, by omega, q3, fun z => by omega⟩ hB
    · refine k_gp rfl rfl (by first | trivial | decide | (simp only [true_and, mm_fits]; omega)) ?_
      refine k_callp rfl ev_c_isVariable rfl rfl rfl (by decide) ?_
      refine k_brn rfl (fun q5 => ?_) (fun q5 => ?_)
      · exact absurd ⟨by omega, by omega, q3, fun z => q5⟩ hB
      · refine k_gp rfl rfl (by first | trivial | decide | (simp only [true_and, mm_fits]; omega)) ?_
        exact k_ret rfl (by decide) ⟨rfl, rfl, rfl⟩
theorem ev_c_edgeJoins : mm_Ev K_X7_edgeJoinsAndAsksWell (0, 0) [.inr (some (22, 0))] (PH r y) w (mm_pe (some (.inl (ib (ejP w)))) (PH r y) w) := by
  refine ev_intro ok_X7_edgeJoinsAndAsksWell mo_X7_edgeJoinsAndAsksWell (Nat.le_of_ble_eq_true rfl) (fun hrg has => ?_)
  by_cases hB : ejP w
  · rw [ib_t hB]
    unfold ejP at hB
    repeat' (first
      | refine k_brt rfl (by first | decide | assumption | omega) ?_
      | refine k_brf rfl (by first | decide | assumption | omega) ?_
      | refine k_brz rfl (fun _ => ?_) (fun _ => ?_)
      | refine k_brn rfl (fun _ => ?_) (fun _ => ?_)
      | refine k_br rfl (fun _ => ?_) (fun _ => ?_)
      | refine k_ret rfl ?_ ⟨?_, rfl, rfl⟩
      | refine k_ts rfl rfl ?_ (fun _ => ?_)
      | refine mm_tsc (fun _ => ?_) ?_
      | exact mm_tsn
      | refine k_gp rfl rfl ?_ ?_)
    all_goals (first | trivial | omega | (simp only [true_and, mm_fits]; omega) | (refine congrArg some (congrArg Sum.inl ?_); first | rfl | (rw [ib_t (by omega)]) | (rw [ib_f (by omega)]) | omega) | (exact absurd hB (by omega)) | rfl)
  · rw [ib_f hB]
    unfold ejP at hB
    repeat' (first
      | refine k_brt rfl (by first | decide | assumption | omega) ?_
      | refine k_brf rfl (by first | decide | assumption | omega) ?_
      | refine k_brz rfl (fun _ => ?_) (fun _ => ?_)
      | refine k_brn rfl (fun _ => ?_) (fun _ => ?_)
      | refine k_br rfl (fun _ => ?_) (fun _ => ?_)
      | refine k_ret rfl ?_ ⟨?_, rfl, rfl⟩
      | refine k_ts rfl rfl ?_ (fun _ => ?_)
      | refine mm_tsc (fun _ => ?_) ?_
      | exact mm_tsn
      | refine k_gp rfl rfl ?_ ?_)
    all_goals (first | trivial | omega | (simp only [true_and, mm_fits]; omega) | (refine congrArg some (congrArg Sum.inl ?_); first | rfl | (rw [ib_t (by omega)]) | (rw [ib_f (by omega)]) | omega) | (exact absurd (by omega) hB) | rfl)
theorem ev_c_edgeDoes (h0 : 0 ≤ w 31 0 4) : mm_Ev K_X7_edgeDoesWell (0, 0) [.inr (some (22, 0))] (PH r y) w (mm_pe (some (.inl (ib (edP w)))) (PH r y) w) := by
  refine ev_intro ok_X7_edgeDoesWell mo_X7_edgeDoesWell (Nat.le_of_ble_eq_true rfl) (fun hrg has => ?_)
  have R1 : edP w → mm_pe (some (.inl (ib (edP w)))) (PH r y) w (some (.inl 1)) (PH r y) w := fun h => ⟨by rw [ib_t h], rfl, rfl⟩
  have R0 : ¬ edP w → mm_pe (some (.inl (ib (edP w)))) (PH r y) w (some (.inl 0)) (PH r y) w := fun h => ⟨by rw [ib_f h], rfl, rfl⟩
  refine k_gp rfl rfl (by simp only [true_and, mm_fits]; omega) ?_
  refine k_ts rfl rfl ⟨fun g => ?_, fun g => ?_, fun g => ?_, fun g => ?_, fun g => ?_, fun g => ?_, trivial⟩ (fun g => ?_)
  · refine k_gp rfl rfl (by first | trivial | decide | (simp only [true_and, mm_fits]; omega)) ?_
    exact k_ret rfl (by decide) (R1 (Or.inl g))
  · refine k_gp rfl rfl (by simp only [true_and, mm_fits]; omega) ?_
    refine k_callp rfl ev_c_isVariable rfl rfl rfl (by decide) ?_
    refine k_brz rfl (fun q => ?_) (fun q => ?_)
    · refine k_gp rfl rfl (by first | trivial | decide | (simp only [true_and, mm_fits]; omega)) ?_
      exact k_ret rfl (by decide) (R0 (by unfold edP; omega))
    · refine k_gp rfl rfl (by simp only [true_and, mm_fits]; omega) ?_
      refine k_br rfl (fun q2 => ?_) (fun q2 => ?_)
      · refine k_gp rfl rfl (by first | trivial | decide | (simp only [true_and, mm_fits]; omega)) ?_
        exact k_ret rfl (by decide) (R0 (by unfold edP; omega))
      · refine k_gp rfl rfl (by first | trivial | decide | (simp only [true_and, mm_fits]; omega)) ?_
        exact k_ret rfl (by decide) (R1 (by unfold edP; omega))
  all_goals first
    | (refine k_gp rfl rfl (by first | trivial | decide | (simp only [true_and, mm_fits]; omega)) ?_
       exact k_ret rfl (by decide) (R0 (by unfold edP; omega)))
    | (refine k_gp rfl rfl (by simp only [true_and, mm_fits]; omega) ?_
       refine k_callp rfl ev_c_isVariable rfl rfl rfl (by decide) ?_
       refine k_ret rfl (ib_in _) ⟨?_, rfl, rfl⟩
       refine congrArg (fun v => some (Sum.inl v)) (ib_c ?_)
       unfold edP
       omega)
    | (refine k_gp rfl rfl (by simp only [true_and, mm_fits]; omega) ?_
       refine k_callp rfl ev_c_isVariable rfl rfl rfl (by decide) ?_
       refine k_brz rfl (fun q => ?_) (fun q => ?_)
       · refine k_gp rfl rfl (by first | trivial | decide | (simp only [true_and, mm_fits]; omega)) ?_
         exact k_ret rfl (by decide) (R0 (by unfold edP; omega))
       · refine k_gp rfl rfl (by simp only [true_and, mm_fits]; omega) ?_
         refine k_callp rfl ev_c_isVariable rfl rfl rfl (by decide) ?_
         refine k_brz rfl (fun q2 => ?_) (fun q2 => ?_)
         · refine k_gp rfl rfl (by first | trivial | decide | (simp only [true_and, mm_fits]; omega)) ?_
           exact k_ret rfl (by decide) (R0 (by unfold edP; omega))
         · refine k_gp rfl rfl (by first | trivial | decide | (simp only [true_and, mm_fits]; omega)) ?_
           exact k_ret rfl (by decide) (R1 (by unfold edP; omega)))
theorem ev_c_tellEdge (hn : 0 ≤ w 24 0 4) (h0 : 0 ≤ w 31 0 4) : mm_Ev K_X7_tellEdge (0, 0) [.inr (some (22, 0))] (PH r y) w (mm_pe (some (.inl (ib (teP w)))) (PH r y) (if teP w then mm_up (mm_cp w 31 0 0 30 (w 24 0 4) 0 7) 24 0 4 (w 24 0 4 + 1) else w)) := by
  refine ev_intro ok_X7_tellEdge mo_X7_tellEdge (Nat.le_of_ble_eq_true rfl) (fun hrg has => ?_)
  have J28 : ∀ l1, ¬ teP w → mm_Wk K_X7_tellEdge (0, 0) 28 [some (.inr (some (22, 0))), l1] [] (PH r y) w (mm_pe (some (.inl (ib (teP w)))) (PH r y) (if teP w then mm_up (mm_cp w 31 0 0 30 (w 24 0 4) 0 7) 24 0 4 (w 24 0 4 + 1) else w)) := fun l1 h => by
    rw [if_neg h, ib_f h]
    refine k_gp rfl rfl (by first | trivial | decide | (simp only [true_and, mm_fits]; omega)) ?_
    exact k_ret rfl (by decide) ⟨rfl, rfl, rfl⟩
  refine k_gp rfl rfl (by first | trivial | decide | (simp only [true_and, mm_fits]; omega)) ?_
  refine k_br rfl (fun q1 => J28 _ (fun z => by have := z.1; omega)) (fun q1 => ?_)
  refine k_gp rfl rfl (by first | trivial | decide | (simp only [true_and, mm_fits]; omega)) ?_
  refine k_callp rfl ev_c_edgeJoins rfl rfl rfl (by decide) ?_
  refine k_brz rfl (fun q2 => J28 _ (fun z => q2 z.2.1)) (fun q2 => ?_)
  refine k_gp rfl rfl (by first | trivial | decide | (simp only [true_and, mm_fits]; omega)) ?_
  refine k_callp rfl (ev_c_edgeDoes h0) rfl rfl rfl (by decide) ?_
  refine k_brn rfl (fun q3 => ?_) (fun q3 => J28 _ (fun z => q3 z.2.2))
  have hT : teP w := ⟨by omega, q2, q3⟩
  rw [if_pos hT, ib_t hT]
  have e2 : mm_cp w 31 0 0 30 (w 24 0 4) 0 7 24 0 4 = w 24 0 4 := cp_g rfl
  refine k_gp rfl rfl (by simp only [true_and, mm_fits]; omega) ?_
  refine k_copy rfl (tb_in 325 (by decide +kernel) (by decide +kernel)) (tb_in 327 (by decide +kernel) (by decide +kernel)) (tb_in 326 (by decide +kernel) (by decide +kernel)) (tb_in 78 (by decide +kernel) (by decide +kernel)) rfl rfl ⟨by decide, by decide, by decide⟩ (by decide) (by decide +kernel) ?_
  refine k_gp rfl rfl (by simp only [true_and, mm_fits, e2]; omega) ?_
  rw [e2]
  exact k_ret rfl (by decide) ⟨rfl, rfl, rfl⟩
end MC
