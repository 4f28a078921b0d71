/-! ===== the class: cubes out of sets that are so; small answers of searches ===== -/
theorem cub_and {c : Int → Int → Int} {nc L all : Int} (hnc : 0 ≤ nc ∧ nc ≤ 8) (hL : 0 ≤ L ∧ L < 256) : mm_and (SO c nc all) L = cub c nc L all := by
  have h1 := SO_in c all hnc.2
  have h2 := cub_in c nc L all hnc.2
  refine bits_eq (n := 8) ?_ h2 (fun g a b => ?_)
  · exact (hb_and (g := 0) h1 hL).1
  · rw [(hb_and (g := g) h1 hL).2, hb_tb h1.1, hb_tb h2.1]
    have e1 : (SO c nc all).toNat = bts (fun g : Nat => soB c g all) nc.toNat := rfl
    have e2 : (cub c nc L all).toNat = bts (fun g : Nat => decide (hb L g) && soB c g all) nc.toNat := rfl
    have e3 : ((g.toNat : Nat) : Int) = g := by omega
    rw [e1, e2, bts_bit, bts_bit, e3]
    simp only [Bool.and_eq_true, decide_eq_true_eq]
    constructor
    · rintro ⟨⟨p, q⟩, s⟩
      exact ⟨p, s, q⟩
    · rintro ⟨p, s, q⟩
      exact ⟨⟨p, q⟩, s⟩
section MC
variable {r : Bool × Bool} {y : Bool} {w : mm_M}
theorem ev_c_distanceOf {p : Int} (hp : 0 ≤ p ∧ p < 8) : mm_Ev K_X6_distanceOf (0, 0) [.inr (some (47, 0)), .inl p] (PH r y) w (mm_pe (some (.inl (w 52 0 p))) (PH r y) w) := by
  refine ev_intro ok_X6_distanceOf mo_X6_distanceOf (Nat.le_of_ble_eq_true rfl) (fun hrg has => ?_)
  repeat' (first
    | refine k_brt rfl (by decide) ?_
    | refine k_brf rfl (by decide) ?_
    | refine k_brz rfl (fun _ => ?_) (fun _ => ?_)
    | refine k_brn rfl (fun _ => ?_) (fun _ => ?_)
    | refine k_br rfl (fun _ => ?_) (fun _ => ?_)
    | refine k_ret rfl ?_ ⟨?_, rfl, rfl⟩
    | refine k_ts rfl rfl ?_ (fun _ => ?_)
    | refine mm_tsc (fun _ => ?_) ?_
    | exact mm_tsn
    | refine k_gp rfl rfl ?_ ?_)
  all_goals (first | trivial | omega | (simp only [true_and, mm_fits]; omega) | (refine congrArg some (congrArg Sum.inl ?_); first | rfl | (rw [ib_t (by omega)]) | (rw [ib_f (by omega)]) | omega))
theorem ev_c_rvaluesAt {p : Int} (hp : 0 ≤ p ∧ p < 8) : mm_Ev K_X6_valuesAt (0, 0) [.inr (some (47, 0)), .inl p] (PH r y) w (mm_pe (some (.inl (w 53 0 p))) (PH r y) w) := by
  refine ev_intro ok_X6_valuesAt mo_X6_valuesAt (Nat.le_of_ble_eq_true rfl) (fun hrg has => ?_)
  repeat' (first
    | refine k_brt rfl (by decide) ?_
    | refine k_brf rfl (by decide) ?_
    | refine k_brz rfl (fun _ => ?_) (fun _ => ?_)
    | refine k_brn rfl (fun _ => ?_) (fun _ => ?_)
    | refine k_br rfl (fun _ => ?_) (fun _ => ?_)
    | refine k_ret rfl ?_ ⟨?_, rfl, rfl⟩
    | refine k_ts rfl rfl ?_ (fun _ => ?_)
    | refine mm_tsc (fun _ => ?_) ?_
    | exact mm_tsn
    | refine k_gp rfl rfl ?_ ?_)
  all_goals (first | trivial | omega | (simp only [true_and, mm_fits]; omega) | (refine congrArg some (congrArg Sum.inl ?_); first | rfl | (rw [ib_t (by omega)]) | (rw [ib_f (by omega)]) | omega))
theorem ev_c_holdsAt {p : Int} (hp : 0 ≤ p ∧ p < 8) : mm_Ev K_X6_holdsAt (0, 0) [.inr (some (47, 0)), .inl p] (PH r y) w (mm_pe (some (.inl (w 54 0 p))) (PH r y) w) := by
  refine ev_intro ok_X6_holdsAt mo_X6_holdsAt (Nat.le_of_ble_eq_true rfl) (fun hrg has => ?_)
  repeat' (first
    | refine k_brt rfl (by decide) ?_
    | refine k_brf rfl (by decide) ?_
    | refine k_brz rfl (fun _ => ?_) (fun _ => ?_)
    | refine k_brn rfl (fun _ => ?_) (fun _ => ?_)
    | refine k_br rfl (fun _ => ?_) (fun _ => ?_)
    | refine k_ret rfl ?_ ⟨?_, rfl, rfl⟩
    | refine k_ts rfl rfl ?_ (fun _ => ?_)
    | refine mm_tsc (fun _ => ?_) ?_
    | exact mm_tsn
    | refine k_gp rfl rfl ?_ ?_)
  all_goals (first | trivial | omega | (simp only [true_and, mm_fits]; omega) | (refine congrArg some (congrArg Sum.inl ?_); first | rfl | (rw [ib_t (by omega)]) | (rw [ib_f (by omega)]) | omega))
theorem ev_c_states : mm_Ev K_X2_states (0, 0) [.inr (some (77, 0))] (PH r y) w (mm_pe (some (.inl (w 77 0 9))) (PH r y) w) := by
  refine ev_intro ok_X2_states mo_X2_states (Nat.le_of_ble_eq_true rfl) (fun hrg has => ?_)
  repeat' (first
    | refine k_brt rfl (by decide) ?_
    | refine k_brf rfl (by decide) ?_
    | refine k_brz rfl (fun _ => ?_) (fun _ => ?_)
    | refine k_brn rfl (fun _ => ?_) (fun _ => ?_)
    | refine k_br rfl (fun _ => ?_) (fun _ => ?_)
    | refine k_ret rfl ?_ ⟨?_, rfl, rfl⟩
    | refine k_ts rfl rfl ?_ (fun _ => ?_)
    | refine mm_tsc (fun _ => ?_) ?_
    | exact mm_tsn
    | refine k_gp rfl rfl ?_ ?_)
  all_goals (first | trivial | omega | (simp only [true_and, mm_fits]; omega) | (refine congrArg some (congrArg Sum.inl ?_); first | rfl | (rw [ib_t (by omega)]) | (rw [ib_f (by omega)]) | omega))
theorem ev_c_isSafe : mm_Ev K_X2_isSafe (0, 0) [.inr (some (77, 0))] (PH r y) w (mm_pe (some (.inl (ib (w 77 0 10 = -4)))) (PH r y) w) := by
  refine ev_intro ok_X2_isSafe mo_X2_isSafe (Nat.le_of_ble_eq_true rfl) (fun hrg has => ?_)
  repeat' (first
    | refine k_brt rfl (by decide) ?_
    | refine k_brf rfl (by decide) ?_
    | refine k_brz rfl (fun _ => ?_) (fun _ => ?_)
    | refine k_brn rfl (fun _ => ?_) (fun _ => ?_)
    | refine k_br rfl (fun _ => ?_) (fun _ => ?_)
    | refine k_ret rfl ?_ ⟨?_, rfl, rfl⟩
    | refine k_ts rfl rfl ?_ (fun _ => ?_)
    | refine mm_tsc (fun _ => ?_) ?_
    | exact mm_tsn
    | refine k_gp rfl rfl ?_ ?_)
  all_goals (first | trivial | omega | (simp only [true_and, mm_fits]; omega) | (refine congrArg some (congrArg Sum.inl ?_); first | rfl | (rw [ib_t (by omega)]) | (rw [ib_f (by omega)]) | omega))
theorem ev_c_way : mm_Ev K_X2_way (0, 0) [.inr (some (77, 0))] (PH r y) w (mm_pe (some (.inr (some (66, 0)))) (PH r y) w) := by
  refine ev_intro ok_X2_way mo_X2_way (Nat.le_of_ble_eq_true rfl) (fun hrg has => ?_)
  refine k_gp rfl rfl trivial ?_
  exact k_ret rfl trivial ⟨rfl, rfl, rfl⟩
theorem ev_c_wempty : mm_Ev K_X8_empty (0, 0) [.inr (some (66, 0))] (PH r y) w (mm_pe none (PH r y) (mm_up w 66 0 5 0)) := by
  refine ev_intro ok_X8_empty mo_X8_empty (Nat.le_of_ble_eq_true rfl) (fun hrg has => ?_)
  repeat' (first
    | refine k_brt rfl (by decide) ?_
    | refine k_brf rfl (by decide) ?_
    | refine k_brz rfl (fun _ => ?_) (fun _ => ?_)
    | refine k_brn rfl (fun _ => ?_) (fun _ => ?_)
    | refine k_br rfl (fun _ => ?_) (fun _ => ?_)
    | refine k_ret rfl ?_ ⟨?_, rfl, rfl⟩
    | refine k_ts rfl rfl ?_ (fun _ => ?_)
    | refine mm_tsc (fun _ => ?_) ?_
    | exact mm_tsn
    | refine k_gp rfl rfl ?_ ?_)
  all_goals (first | trivial | omega | (simp only [true_and, mm_fits]; omega) | (refine congrArg some (congrArg Sum.inl ?_); first | rfl | (rw [ib_t (by omega)]) | (rw [ib_f (by omega)]) | omega))
theorem ev_c_wlength : mm_Ev K_X8_length (0, 0) [.inr (some (66, 0))] (PH r y) w (mm_pe (some (.inl (w 66 0 5))) (PH r y) w) := by
  refine ev_intro ok_X8_length mo_X8_length (Nat.le_of_ble_eq_true rfl) (fun hrg has => ?_)
  repeat' (first
    | refine k_brt rfl (by decide) ?_
    | refine k_brf rfl (by decide) ?_
    | refine k_brz rfl (fun _ => ?_) (fun _ => ?_)
    | refine k_brn rfl (fun _ => ?_) (fun _ => ?_)
    | refine k_br rfl (fun _ => ?_) (fun _ => ?_)
    | refine k_ret rfl ?_ ⟨?_, rfl, rfl⟩
    | refine k_ts rfl rfl ?_ (fun _ => ?_)
    | refine mm_tsc (fun _ => ?_) ?_
    | exact mm_tsn
    | refine k_gp rfl rfl ?_ ?_)
  all_goals (first | trivial | omega | (simp only [true_and, mm_fits]; omega) | (refine congrArg some (congrArg Sum.inl ?_); first | rfl | (rw [ib_t (by omega)]) | (rw [ib_f (by omega)]) | omega))
theorem ev_c_edgeAt {i : Int} (h : (0 ≤ i ∧ i < w 66 0 5) ∧ w 66 0 5 ≤ 2048) : mm_Ev K_X8_edgeAt (0, 0) [.inr (some (66, 0)), .inl i] (PH r y) w (mm_pe (some (.inl (w 67 0 (w 66 0 5 - 1 - i)))) (PH r y) w) := by
  refine ev_intro ok_X8_edgeAt mo_X8_edgeAt (Nat.le_of_ble_eq_true rfl) (fun hrg has => ?_)
  repeat' (first
    | refine k_brt rfl (by decide) ?_
    | refine k_brf rfl (by decide) ?_
    | refine k_brz rfl (fun _ => ?_) (fun _ => ?_)
    | refine k_brn rfl (fun _ => ?_) (fun _ => ?_)
    | refine k_br rfl (fun _ => ?_) (fun _ => ?_)
    | refine k_ret rfl ?_ ⟨?_, rfl, rfl⟩
    | refine k_ts rfl rfl ?_ (fun _ => ?_)
    | refine mm_tsc (fun _ => ?_) ?_
    | exact mm_tsn
    | refine k_gp rfl rfl ?_ ?_)
  all_goals (first | trivial | omega | (simp only [true_and, mm_fits]; omega) | (refine congrArg some (congrArg Sum.inl ?_); first | rfl | (rw [ib_t (by omega)]) | (rw [ib_f (by omega)]) | omega))
theorem ev_c_putAhead {x : Int} (h : 0 ≤ w 66 0 5 ∧ w 66 0 5 < 2048) : mm_Ev K_X8_putAhead (0, 0) [.inr (some (66, 0)), .inl x] (PH r y) w (mm_pe none (PH r y) (mm_up (mm_up w 67 0 (w 66 0 5) x) 66 0 5 (w 66 0 5 + 1))) := by
  refine ev_intro ok_X8_putAhead mo_X8_putAhead (Nat.le_of_ble_eq_true rfl) (fun hrg has => ?_)
  have e5 : mm_up w 67 0 (w 66 0 5) x 66 0 5 = w 66 0 5 := up_g rfl
  refine k_gp rfl rfl trivial ?_
  refine k_brf rfl (by omega) ?_
  refine k_gp rfl rfl (by simp only [true_and, mm_fits, e5]; omega) ?_
  rw [e5]
  exact k_ret rfl trivial ⟨rfl, rfl, rfl⟩
/-- the first cubes, looked at so -/
theorem ev_c_putFirst_84 {L : Int} (hL : 0 ≤ L ∧ L < 256) : mm_Ev K_X1_putFirstCubes (0, 0) [.inr (some (55, 0)), .inl L, .inr (some (84, 0))] (PH r y) w (fun a b' w' => a = none ∧ b' = PH r y ∧ sm [(85, none)] w w' ∧ ∀ u, 0 ≤ u → u < 256 → (nsB w' 85 u = true ↔ ∃ s, (0 ≤ s ∧ s < 256) ∧ nsB w 63 s = true ∧ mm_and s L = u)) := by
  have hN : NSL 84 8 := by unfold NSL; decide
  refine ev_intro ok_X1_putFirstCubes mo_X1_putFirstCubes (Nat.le_of_ble_eq_true rfl) (fun hrg has => ?_)
  refine k_gp rfl rfl trivial ?_
  refine k_callp rfl (ev_empty hN) rfl rfl rfl (by decide) ?_
  refine k_gp rfl rfl trivial ?_
  refine mm_loop (σ := mm_M) 256 (fun i w1 => (0 ≤ i ∧ i ≤ 256) ∧ sm [(85, none)] w w1 ∧ ∀ u, 0 ≤ u → u < 256 → (nsB w1 85 u = true ↔ ∃ s, (0 ≤ s ∧ s < i) ∧ nsB w 63 s = true ∧ mm_and s L = u)) (fun i w1 => mm_Wk K_X1_putFirstCubes (0, 0) 6 [some (.inr (some (55, 0))), some (.inl L), some (.inr (some (84, 0))), some (.inl i)] [] (PH r y) w1 (fun a b' w' => a = none ∧ b' = PH r y ∧ sm [(85, none)] w w' ∧ ∀ u, 0 ≤ u → u < 256 → (nsB w' 85 u = true ↔ ∃ s, (0 ≤ s ∧ s < 256) ∧ nsB w 63 s = true ∧ mm_and s L = u))) ?_ ?_ 0 _ ⟨by omega, sm_arrw sm_rf (by simp), fun u a b => ?_⟩
  · rintro i w1 q1 ⟨q2, s1, q3⟩ ih
    have e63 : ∀ k, w1 63 0 k = w 63 0 k := fun k => s1 63 0 k rfl
    have n63 : nsB w1 63 i = nsB w 63 i := by unfold nsB; rw [e63]
    have nxt : ∀ w2, sm [(85, none)] w w2 → (∀ u, 0 ≤ u → u < 256 → (nsB w2 85 u = true ↔ nsB w1 85 u = true ∨ (nsB w 63 i = true ∧ mm_and i L = u))) → mm_Wk K_X1_putFirstCubes (0, 0) 32 [some (.inr (some (55, 0))), some (.inl L), some (.inr (some (84, 0))), some (.inl i)] [] (PH r y) w2 (fun a b' w' => a = none ∧ b' = PH r y ∧ sm [(85, none)] w w' ∧ ∀ u, 0 ≤ u → u < 256 → (nsB w' 85 u = true ↔ ∃ s, (0 ≤ s ∧ s < 256) ∧ nsB w 63 s = true ∧ mm_and s L = u)) := fun w2 s2 h2 => by
      refine k_gp rfl rfl (by simp only [true_and, mm_fits]; omega) ?_
      refine ih w2 ⟨by omega, s2, fun u a b => ?_⟩
      rw [h2 u a b, q3 u a b]
      constructor
      · rintro (⟨s, p1, p2, p3⟩ | ⟨p2, p3⟩)
        · exact ⟨s, by omega, p2, p3⟩
        · exact ⟨i, by omega, p2, p3⟩
      · rintro ⟨s, p1, p2, p3⟩
        by_cases hs : s = i
        · subst hs; exact Or.inr ⟨p2, p3⟩
        · exact Or.inl ⟨s, by omega, p2, p3⟩
    refine k_gp rfl rfl trivial ?_
    refine k_brf rfl (by omega) ?_
    refine k_gp rfl rfl trivial ?_
    refine k_callp rfl (ev_has (g := 62) (N := 8) (by unfold NSL; decide) (by omega)) rfl rfl rfl (by decide) ?_
    refine k_brz rfl (fun q => ?_) (fun q => ?_)
    · rw [n63] at q
      exact nxt w1 s1 (fun u a b => ⟨Or.inl, fun z => z.resolve_right (fun p => q p.1)⟩)
    · rw [n63] at q
      have hi := (hb_and (a := i) (b := L) (g := 0) (by omega) hL).1
      refine k_gp rfl rfl trivial ?_
      refine k_callp rfl (ev_add hN (by omega)) rfl rfl rfl (by decide) ?_
      refine k_gp rfl rfl trivial ?_
      refine nxt _ (sm_up s1 (Or.inl (by simp))) (fun u a b => ?_)
      rw [nsB_A hi.1 a, Bool.or_eq_true, decide_eq_true_eq]
      exact ⟨fun z => z.imp_right (fun p => ⟨q, p.symm⟩), fun z => z.imp_right (fun p => p.2.symm)⟩
  · rintro i w1 q1 ⟨q2, s1, q3⟩
    have : i = 256 := by omega
    subst this
    refine k_gp rfl rfl trivial ?_
    refine k_brt rfl (by omega) ?_
    exact k_ret rfl trivial ⟨rfl, rfl, s1, q3⟩
  · rw [nsB_0 (by omega)]
    exact ⟨(fun z => by cases z), (fun ⟨s, p, _⟩ => by omega)⟩
/-- the first cubes, looked at so -/
theorem ev_c_putFirst_69 {L : Int} (hL : 0 ≤ L ∧ L < 256) : mm_Ev K_X1_putFirstCubes (0, 0) [.inr (some (55, 0)), .inl L, .inr (some (69, 0))] (PH r y) w (fun a b' w' => a = none ∧ b' = PH r y ∧ sm [(70, none)] w w' ∧ ∀ u, 0 ≤ u → u < 256 → (nsB w' 70 u = true ↔ ∃ s, (0 ≤ s ∧ s < 256) ∧ nsB w 63 s = true ∧ mm_and s L = u)) := by
  have hN : NSL 69 8 := by unfold NSL; decide
  refine ev_intro ok_X1_putFirstCubes mo_X1_putFirstCubes (Nat.le_of_ble_eq_true rfl) (fun hrg has => ?_)
  refine k_gp rfl rfl trivial ?_
  refine k_callp rfl (ev_empty hN) rfl rfl rfl (by decide) ?_
  refine k_gp rfl rfl trivial ?_
  refine mm_loop (σ := mm_M) 256 (fun i w1 => (0 ≤ i ∧ i ≤ 256) ∧ sm [(70, none)] w w1 ∧ ∀ u, 0 ≤ u → u < 256 → (nsB w1 70 u = true ↔ ∃ s, (0 ≤ s ∧ s < i) ∧ nsB w 63 s = true ∧ mm_and s L = u)) (fun i w1 => mm_Wk K_X1_putFirstCubes (0, 0) 6 [some (.inr (some (55, 0))), some (.inl L), some (.inr (some (69, 0))), some (.inl i)] [] (PH r y) w1 (fun a b' w' => a = none ∧ b' = PH r y ∧ sm [(70, none)] w w' ∧ ∀ u, 0 ≤ u → u < 256 → (nsB w' 70 u = true ↔ ∃ s, (0 ≤ s ∧ s < 256) ∧ nsB w 63 s = true ∧ mm_and s L = u))) ?_ ?_ 0 _ ⟨by omega, sm_arrw sm_rf (by simp), fun u a b => ?_⟩
  · rintro i w1 q1 ⟨q2, s1, q3⟩ ih
    have e63 : ∀ k, w1 63 0 k = w 63 0 k := fun k => s1 63 0 k rfl
    have n63 : nsB w1 63 i = nsB w 63 i := by unfold nsB; rw [e63]
    have nxt : ∀ w2, sm [(70, none)] w w2 → (∀ u, 0 ≤ u → u < 256 → (nsB w2 70 u = true ↔ nsB w1 70 u = true ∨ (nsB w 63 i = true ∧ mm_and i L = u))) → mm_Wk K_X1_putFirstCubes (0, 0) 32 [some (.inr (some (55, 0))), some (.inl L), some (.inr (some (69, 0))), some (.inl i)] [] (PH r y) w2 (fun a b' w' => a = none ∧ b' = PH r y ∧ sm [(70, none)] w w' ∧ ∀ u, 0 ≤ u → u < 256 → (nsB w' 70 u = true ↔ ∃ s, (0 ≤ s ∧ s < 256) ∧ nsB w 63 s = true ∧ mm_and s L = u)) := fun w2 s2 h2 => by
      refine k_gp rfl rfl (by simp only [true_and, mm_fits]; omega) ?_
      refine ih w2 ⟨by omega, s2, fun u a b => ?_⟩
      rw [h2 u a b, q3 u a b]
      constructor
      · rintro (⟨s, p1, p2, p3⟩ | ⟨p2, p3⟩)
        · exact ⟨s, by omega, p2, p3⟩
        · exact ⟨i, by omega, p2, p3⟩
      · rintro ⟨s, p1, p2, p3⟩
        by_cases hs : s = i
        · subst hs; exact Or.inr ⟨p2, p3⟩
        · exact Or.inl ⟨s, by omega, p2, p3⟩
    refine k_gp rfl rfl trivial ?_
    refine k_brf rfl (by omega) ?_
    refine k_gp rfl rfl trivial ?_
    refine k_callp rfl (ev_has (g := 62) (N := 8) (by unfold NSL; decide) (by omega)) rfl rfl rfl (by decide) ?_
    refine k_brz rfl (fun q => ?_) (fun q => ?_)
    · rw [n63] at q
      exact nxt w1 s1 (fun u a b => ⟨Or.inl, fun z => z.resolve_right (fun p => q p.1)⟩)
    · rw [n63] at q
      have hi := (hb_and (a := i) (b := L) (g := 0) (by omega) hL).1
      refine k_gp rfl rfl trivial ?_
      refine k_callp rfl (ev_add hN (by omega)) rfl rfl rfl (by decide) ?_
      refine k_gp rfl rfl trivial ?_
      refine nxt _ (sm_up s1 (Or.inl (by simp))) (fun u a b => ?_)
      rw [nsB_A hi.1 a, Bool.or_eq_true, decide_eq_true_eq]
      exact ⟨fun z => z.imp_right (fun p => ⟨q, p.symm⟩), fun z => z.imp_right (fun p => p.2.symm)⟩
  · rintro i w1 q1 ⟨q2, s1, q3⟩
    have : i = 256 := by omega
    subst this
    refine k_gp rfl rfl trivial ?_
    refine k_brt rfl (by omega) ?_
    exact k_ret rfl trivial ⟨rfl, rfl, s1, q3⟩
  · rw [nsB_0 (by omega)]
    exact ⟨(fun z => by cases z), (fun ⟨s, p, _⟩ => by omega)⟩
end MC
