/-! ===== the class: a program becomes another ===== -/
abbrev bcL : List (Nat × Option Int) := [(32, some 0), (32, some 1), (32, some 2), (32, some 3), (32, some 4), (33, none), (34, none), (36, none), (38, none)]
/-- the program is what was told -/
def BC (w w' : mm_M) : Prop := (w' 32 0 0 = w 24 0 0 ∧ w' 32 0 1 = w 24 0 1 ∧ w' 32 0 2 = w 24 0 2 ∧ w' 32 0 3 = w 24 0 3 ∧ w' 32 0 4 = w 24 0 4) ∧ (∀ v, 0 ≤ v → v < 3 → w' 33 0 v = w 25 0 v ∧ w' 34 0 v = w 26 0 v) ∧ (∀ g k, 0 ≤ g → g < 8 → 0 ≤ k → k < 3 → w' 36 g k = w 28 g k) ∧ (∀ x k, 0 ≤ x → x < 14 → 0 ≤ k → k < 7 → w' 38 x k = w 30 x k)
section MC
variable {r : Bool × Bool} {y : Bool} {w : mm_M}
theorem ev_c_pempty : mm_Ev K_X5_empty (0, 0) [.inr (some (24, 0))] (PH r y) w (mm_pe none (PH r y) (mm_up (mm_up (mm_up (mm_up (mm_up w 24 0 0 0) 24 0 1 0) 24 0 2 0) 24 0 3 0) 24 0 4 0)) := by
  refine ev_intro ok_X5_empty mo_X5_empty (Nat.le_of_ble_eq_true rfl) (fun hrg has => ?_)
  repeat' (first
    | refine k_brt rfl (by decide) ?_
    | refine k_brf rfl (by decide) ?_
    | refine k_brz rfl (fun _ => ?_) (fun _ => ?_)
    | refine k_brn rfl (fun _ => ?_) (fun _ => ?_)
    | refine k_br rfl (fun _ => ?_) (fun _ => ?_)
    | refine k_ret rfl ?_ ⟨?_, rfl, rfl⟩
    | refine k_ts rfl rfl ?_ (fun _ => ?_)
    | refine mm_tsc (fun _ => ?_) ?_
    | exact mm_tsn
    | refine k_gp rfl rfl ?_ ?_)
  all_goals (first | trivial | omega | (simp only [true_and, mm_fits]; omega) | (refine congrArg some (congrArg Sum.inl ?_); first | rfl | (rw [ib_t (by omega)]) | (rw [ib_f (by omega)]) | omega))
set_option maxRecDepth 100000 in
theorem ev_c_become : mm_Ev K_X5_become (0, 0) [.inr (some (32, 0)), .inr (some (24, 0))] (PH r y) w (fun a b' w' => a = none ∧ b' = PH r y ∧ sm bcL w w' ∧ BC w w') := by
  refine ev_intro ok_X5_become mo_X5_become (Nat.le_of_ble_eq_true rfl) (fun hrg has => ?_)
  refine k_gp rfl rfl trivial ?_
  refine k_copy rfl (tb_in 348 (by decide +kernel) (by decide +kernel)) (tb_in 327 (by decide +kernel) (by decide +kernel)) (tb_in 326 (by decide +kernel) (by decide +kernel)) (tb_in 78 (by decide +kernel) (by decide +kernel)) rfl rfl ⟨by decide, by decide, by decide⟩ (by decide) (by decide +kernel) ?_
  refine k_gp rfl rfl trivial ?_
  refine k_copy rfl (tb_in 348 (by decide +kernel) (by decide +kernel)) (tb_in 327 (by decide +kernel) (by decide +kernel)) (tb_in 326 (by decide +kernel) (by decide +kernel)) (tb_in 78 (by decide +kernel) (by decide +kernel)) rfl rfl ⟨by decide, by decide, by decide⟩ (by decide) (by decide +kernel) ?_
  refine k_gp rfl rfl trivial ?_
  generalize hA : mm_up (mm_up (mm_up (mm_up (mm_up w 32 0 0 _) 32 0 1 _) 32 0 2 _) 32 0 3 _) 32 0 4 _ = wA
  have sA : sm bcL w wA := by
    rw [← hA]
    exact sm_up (sm_up (sm_up (sm_up (sm_up sm_rf (Or.inr (by decide))) (Or.inr (by decide))) (Or.inr (by decide))) (Or.inr (by decide))) (Or.inr (by decide))
  have a0 : wA 32 0 0 = w 24 0 0 := by rw [← hA, up_k (by decide), up_k (by decide), up_k (by decide), up_k (by decide), up_s]
  have a1 : wA 32 0 1 = w 24 0 1 := by rw [← hA, up_k (by decide), up_k (by decide), up_k (by decide), up_s]; exact up_g rfl
  have a2 : wA 32 0 2 = w 24 0 2 := by rw [← hA, up_k (by decide), up_k (by decide), up_s]; exact (up_g rfl).trans (up_g rfl)
  have a3 : wA 32 0 3 = w 24 0 3 := by rw [← hA, up_k (by decide), up_s]; exact (up_g rfl).trans ((up_g rfl).trans (up_g rfl))
  have a4 : wA 32 0 4 = w 24 0 4 := by rw [← hA, up_s]; exact (up_g rfl).trans ((up_g rfl).trans ((up_g rfl).trans (up_g rfl)))
  clear hA
  generalize hB : mm_cp (mm_cp wA 25 0 0 33 0 0 3) 26 0 0 34 0 0 3 = wB
  have sB_ : sm bcL w wB := by
    rw [← hB]
    exact sm_cp (sm_cp sA (by decide)) (by decide)
  have b5 : ∀ k, wB 32 0 k = wA 32 0 k := fun k => by rw [← hB, cp_g rfl, cp_g rfl]
  have b6 : ∀ v, 0 ≤ v → v < 3 → wB 33 0 v = w 25 0 v ∧ wB 34 0 v = w 26 0 v := fun v p q => by
    rw [← hB]
    refine ⟨?_, ?_⟩
    · rw [cp_g rfl, cp_in (by omega), show 0 + (v - 0) = v by omega]
      exact sA 25 0 v rfl
    · rw [cp_in (by omega), show 0 + (v - 0) = v by omega, cp_g rfl]
      exact sA 26 0 v rfl
  clear hB
  refine mm_loop (σ := mm_M) 8 (fun i w1 => (0 ≤ i ∧ i ≤ 8) ∧ sm bcL w w1 ∧ (∀ k, w1 32 0 k = wA 32 0 k) ∧ (∀ v, 0 ≤ v → v < 3 → w1 33 0 v = w 25 0 v ∧ w1 34 0 v = w 26 0 v) ∧ ∀ g k, 0 ≤ g → g < i → 0 ≤ k → k < 3 → w1 36 g k = w 28 g k) (fun i w1 => mm_Wk K_X5_become (0, 0) 70 [some (.inr (some (32, 0))), some (.inr (some (24, 0))), some (.inl i)] [] (PH r y) w1 (fun a b' w' => a = none ∧ b' = PH r y ∧ sm bcL w w' ∧ BC w w')) ?_ ?_ 0 wB ⟨by omega, sB_, b5, b6, fun g k p q => by omega⟩
  · rintro i w1 q1 ⟨q2, s1, q3, q4, q5⟩ ih
    refine k_gp rfl rfl trivial ?_
    refine k_brf rfl (by omega) ?_
    refine k_gp rfl rfl (by simp only [true_and, mm_fits]; omega) ?_
    refine k_copy rfl (tb_in 348 (by decide +kernel) (by decide +kernel)) (tb_in 327 (by decide +kernel) (by decide +kernel)) (tb_in 326 (by decide +kernel) (by decide +kernel)) (tb_in 78 (by decide +kernel) (by decide +kernel)) rfl rfl ⟨by decide, by decide, by decide⟩ (by decide) (by decide +kernel) ?_
    have s2 : sm bcL w (mm_cp w1 28 i 0 36 i 0 3) := sm_cp s1 (by decide)
    refine k_gp rfl rfl (by simp only [true_and, mm_fits]; omega) ?_
    refine ih (mm_cp w1 28 i 0 36 i 0 3) ⟨by omega, s2, fun k => (cp_g rfl).trans (q3 k), fun v p q => ⟨(cp_g rfl).trans (q4 v p q).1, (cp_g rfl).trans (q4 v p q).2⟩, fun g k p q c1 d1 => ?_⟩
    by_cases hg : g = i
    · rw [hg, cp_in (by omega), show 0 + (k - 0) = k by omega]
      exact s1 28 i k rfl
    · rw [cp_j hg]
      exact q5 g k p (by omega) c1 d1
  · rintro i w1 q1 ⟨q2, s1, q3, q4, q5⟩
    have : i = 8 := by omega
    subst this
    refine k_gp rfl rfl trivial ?_
    refine k_brt rfl (by omega) ?_
    refine k_gp rfl rfl trivial ?_
    refine mm_loop (σ := mm_M) 14 (fun i w2 => (0 ≤ i ∧ i ≤ 14) ∧ sm bcL w w2 ∧ (∀ k, w2 32 0 k = wA 32 0 k) ∧ (∀ v, 0 ≤ v → v < 3 → w2 33 0 v = w 25 0 v ∧ w2 34 0 v = w 26 0 v) ∧ (∀ g k, 0 ≤ g → g < 8 → 0 ≤ k → k < 3 → w2 36 g k = w 28 g k) ∧ ∀ x k, 0 ≤ x → x < i → 0 ≤ k → k < 7 → w2 38 x k = w 30 x k) (fun i w2 => mm_Wk K_X5_become (0, 0) 102 [some (.inr (some (32, 0))), some (.inr (some (24, 0))), some (.inl i)] [] (PH r y) w2 (fun a b' w' => a = none ∧ b' = PH r y ∧ sm bcL w w' ∧ BC w w')) ?_ ?_ 0 w1 ⟨by omega, s1, q3, q4, q5, fun g k p q => by omega⟩
    · rintro i w2 u1 ⟨u2, s2, u3, u4, u5, u6⟩ ih
      refine k_gp rfl rfl trivial ?_
      refine k_brf rfl (by omega) ?_
      refine k_gp rfl rfl (by simp only [true_and, mm_fits]; omega) ?_
      refine k_copy rfl (tb_in 348 (by decide +kernel) (by decide +kernel)) (tb_in 327 (by decide +kernel) (by decide +kernel)) (tb_in 326 (by decide +kernel) (by decide +kernel)) (tb_in 78 (by decide +kernel) (by decide +kernel)) rfl rfl ⟨by decide, by decide, by decide⟩ (by decide) (by decide +kernel) ?_
      have s3 : sm bcL w (mm_cp w2 30 i 0 38 i 0 7) := sm_cp s2 (by decide)
      refine k_gp rfl rfl (by simp only [true_and, mm_fits]; omega) ?_
      refine ih (mm_cp w2 30 i 0 38 i 0 7) ⟨by omega, s3, fun k => (cp_g rfl).trans (u3 k), fun v p q => ⟨(cp_g rfl).trans (u4 v p q).1, (cp_g rfl).trans (u4 v p q).2⟩, fun g k p q c1 d1 => (cp_g rfl).trans (u5 g k p q c1 d1), fun x k p q c1 d1 => ?_⟩
      by_cases hg : x = i
      · rw [hg, cp_in (by omega), show 0 + (k - 0) = k by omega]
        exact s2 30 i k rfl
      · rw [cp_j hg]
        exact u6 x k p (by omega) c1 d1
    · rintro i w2 u1 ⟨u2, s2, u3, u4, u5, u6⟩
      have : i = 14 := by omega
      subst this
      refine k_gp rfl rfl trivial ?_
      refine k_brt rfl (by omega) ?_
      exact k_ret rfl trivial ⟨rfl, rfl, s2, ⟨(u3 0).trans a0, (u3 1).trans a1, (u3 2).trans a2, (u3 3).trans a3, (u3 4).trans a4⟩, u4, u5, u6⟩
end MC
