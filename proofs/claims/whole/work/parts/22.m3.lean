/-! ===== the reference: reading the text ===== -/
/-- a figure at a place, -1 if there is none -/
def fig (t : Int → Int) (n p : Int) : Int := if p < n ∧ 48 ≤ t p ∧ t p ≤ 57 then t p - 48 else -1
/-- how many figures come behind a letter -/
def due (l : Int) : Int := if l = 112 ∨ l = 118 then 2 else if l = 99 then 3 else if l = 101 then 7 else 0
theorem fig_in (t : Int → Int) (n p : Int) : -1 ≤ fig t n p ∧ fig t n p ≤ 9 := by unfold fig; split <;> omega
theorem due_in (l : Int) : 0 ≤ due l ∧ due l ≤ 7 := by unfold due; split; omega; split; omega; split <;> omega
def TX (w : mm_M) (t : Int → Int) (n : Int) : Prop := (∀ k, w 2 0 k = t k) ∧ w 1 0 0 = n ∧ 0 ≤ n ∧ n ≤ 200
section ME
variable {r : Bool × Bool} {y : Bool} {w : mm_M} {t : Int → Int} {n : Int}
theorem ev_m_figure {p : Int} (hT : TX w t n) (hp : 0 ≤ p) : mm_Ev K_X10_figure (0, 0) [.inr (some (1, 0)), .inl p] (PH r y) w (mm_pe (some (.inl (fig t n p))) (PH r y) w) := by
  refine ev_intro ok_X10_figure mo_X10_figure (Nat.le_of_ble_eq_true rfl) (fun hrg has => ?_)
  obtain ⟨h1, h2, h3, h4⟩ := hT
  unfold fig
  rw [← h2] at h3 h4 ⊢
  rw [← h1]
  have hr := hrg 2 0 p
  refine k_gp rfl rfl trivial ?_
  refine k_br rfl (fun g1 => ?_) (fun g1 => ?_)
  · rw [if_neg (fun q => by omega)]
    repeat' (first
      | refine k_brt rfl (by decide) ?_
      | refine k_brf rfl (by decide) ?_
      | refine k_brz rfl (fun _ => ?_) (fun _ => ?_)
      | refine k_brn rfl (fun _ => ?_) (fun _ => ?_)
      | refine k_br rfl (fun _ => ?_) (fun _ => ?_)
      | refine k_ret rfl ?_ ⟨?_, rfl, rfl⟩
      | refine k_ts rfl rfl ?_ (fun _ => ?_)
      | refine mm_tsc (fun _ => ?_) ?_
      | exact mm_tsn
      | refine k_gp rfl rfl ?_ ?_)
    all_goals (first | trivial | omega | (simp only [true_and, mm_fits]; omega) | (refine congrArg some (congrArg Sum.inl ?_); first | rfl | (rw [ib_t (by omega)]) | (rw [ib_f (by omega)]) | omega))
  · refine k_gp rfl rfl (by simp only [true_and]; omega) ?_
    refine k_callp rfl ev_m_isIn rfl rfl rfl (by decide) ?_
    refine k_brz rfl (fun g2 => ?_) (fun g2 => ?_)
    · rw [if_neg (fun q => g2 q.2)]
      repeat' (first
        | refine k_brt rfl (by decide) ?_
        | refine k_brf rfl (by decide) ?_
        | refine k_brz rfl (fun _ => ?_) (fun _ => ?_)
        | refine k_brn rfl (fun _ => ?_) (fun _ => ?_)
        | refine k_br rfl (fun _ => ?_) (fun _ => ?_)
        | refine k_ret rfl ?_ ⟨?_, rfl, rfl⟩
        | refine k_ts rfl rfl ?_ (fun _ => ?_)
        | refine mm_tsc (fun _ => ?_) ?_
        | exact mm_tsn
        | refine k_gp rfl rfl ?_ ?_)
      all_goals (first | trivial | omega | (simp only [true_and, mm_fits]; omega) | (refine congrArg some (congrArg Sum.inl ?_); first | rfl | (rw [ib_t (by omega)]) | (rw [ib_f (by omega)]) | omega))
    · rw [if_pos ⟨by omega, g2⟩]
      repeat' (first
        | refine k_brt rfl (by decide) ?_
        | refine k_brf rfl (by decide) ?_
        | refine k_brz rfl (fun _ => ?_) (fun _ => ?_)
        | refine k_brn rfl (fun _ => ?_) (fun _ => ?_)
        | refine k_br rfl (fun _ => ?_) (fun _ => ?_)
        | refine k_ret rfl ?_ ⟨?_, rfl, rfl⟩
        | refine k_ts rfl rfl ?_ (fun _ => ?_)
        | refine mm_tsc (fun _ => ?_) ?_
        | exact mm_tsn
        | refine k_gp rfl rfl ?_ ?_)
      all_goals (first | trivial | omega | (simp only [true_and, mm_fits]; omega) | (refine congrArg some (congrArg Sum.inl ?_); first | rfl | (rw [ib_t (by omega)]) | (rw [ib_f (by omega)]) | omega))
theorem ev_m_figuresOf {l : Int} : mm_Ev K_X10_figuresOf (0, 0) [.inl l] (PH r y) w (mm_pe (some (.inl (due l))) (PH r y) w) := by
  refine ev_intro ok_X10_figuresOf mo_X10_figuresOf (Nat.le_of_ble_eq_true rfl) (fun hrg has => ?_)
  unfold due
  repeat' (first
    | refine k_brt rfl (by decide) ?_
    | refine k_brf rfl (by decide) ?_
    | refine k_brz rfl (fun _ => ?_) (fun _ => ?_)
    | refine k_brn rfl (fun _ => ?_) (fun _ => ?_)
    | refine k_br rfl (fun _ => ?_) (fun _ => ?_)
    | refine k_ret rfl ?_ ⟨?_, rfl, rfl⟩
    | refine k_ts rfl rfl ?_ (fun _ => ?_)
    | refine mm_tsc (fun _ => ?_) ?_
    | exact mm_tsn
    | refine k_gp rfl rfl ?_ ?_)
  all_goals (first | trivial | (split; rfl; omega) | (rw [if_pos (by omega)]) | (rw [if_neg (by omega), if_pos (by omega)]) | (rw [if_neg (by omega), if_neg (by omega), if_pos (by omega)]) | (rw [if_neg (by omega), if_neg (by omega), if_neg (by omega)]))
abbrev rp_c (w : mm_M) (t : Int → Int) (n p : Int) : Prop := p = 1 ∧ 2 ≤ fig t n p ∧ fig t n p ≤ 8 ∧ fig t n (p + 1) < fig t n p
theorem ev_m_readsPlaces {p : Int} (hT : TX w t n) (hp : 0 ≤ p ∧ p < 300) : mm_Ev K_X10_readsPlaces (0, 0) [.inr (some (1, 0)), .inl p] (PH r y) w (mm_pe (some (.inl (ib (rp_c w t n p)))) (PH r y) (if rp_c w t n p then mm_up (mm_up w 1 0 13 (fig t n p)) 1 0 14 (fig t n (p + 1)) else w)) := by
  refine ev_intro ok_X10_readsPlaces mo_X10_readsPlaces (Nat.le_of_ble_eq_true rfl) (fun hrg has => ?_)
  have f0 := fig_in t n p
  refine k_gp rfl rfl trivial ?_
  refine k_br rfl (fun g1 => ?_) (fun g1 => ?_)
  · rw [ib_f (fun q => g1 q.1), if_neg (fun q => g1 q.1)]
    repeat' (first
      | refine k_brt rfl (by decide) ?_
      | refine k_brf rfl (by decide) ?_
      | refine k_brz rfl (fun _ => ?_) (fun _ => ?_)
      | refine k_brn rfl (fun _ => ?_) (fun _ => ?_)
      | refine k_br rfl (fun _ => ?_) (fun _ => ?_)
      | refine k_ret rfl ?_ ⟨?_, rfl, rfl⟩
      | refine k_ts rfl rfl ?_ (fun _ => ?_)
      | refine mm_tsc (fun _ => ?_) ?_
      | exact mm_tsn
      | refine k_gp rfl rfl ?_ ?_)
    all_goals (first | trivial | omega | (simp only [true_and, mm_fits]; omega) | (refine congrArg some (congrArg Sum.inl ?_); first | rfl | (rw [ib_t (by omega)]) | (rw [ib_f (by omega)]) | omega))
  · have g1 : p = 1 := Classical.byContradiction g1
    refine k_gp rfl rfl trivial ?_
    refine k_callp rfl (ev_m_figure hT hp.1) rfl rfl rfl (by decide) ?_
    refine k_gp rfl rfl trivial ?_
    refine k_callp rfl ev_m_isIn rfl rfl rfl (by decide) ?_
    refine k_brz rfl (fun g2 => ?_) (fun g2 => ?_)
    · rw [ib_f (fun q => g2 ⟨q.2.1, q.2.2.1⟩), if_neg (fun q => g2 ⟨q.2.1, q.2.2.1⟩)]
      repeat' (first
        | refine k_brt rfl (by decide) ?_
        | refine k_brf rfl (by decide) ?_
        | refine k_brz rfl (fun _ => ?_) (fun _ => ?_)
        | refine k_brn rfl (fun _ => ?_) (fun _ => ?_)
        | refine k_br rfl (fun _ => ?_) (fun _ => ?_)
        | refine k_ret rfl ?_ ⟨?_, rfl, rfl⟩
        | refine k_ts rfl rfl ?_ (fun _ => ?_)
        | refine mm_tsc (fun _ => ?_) ?_
        | exact mm_tsn
        | refine k_gp rfl rfl ?_ ?_)
      all_goals (first | trivial | omega | (simp only [true_and, mm_fits]; omega) | (refine congrArg some (congrArg Sum.inl ?_); first | rfl | (rw [ib_t (by omega)]) | (rw [ib_f (by omega)]) | omega))
    · refine k_gp rfl rfl (by simp only [true_and]; omega) ?_
      refine k_callp rfl (ev_m_figure hT (by omega)) rfl rfl rfl (by decide) ?_
      refine k_gp rfl rfl trivial ?_
      refine k_callp rfl (ev_m_figure hT hp.1) rfl rfl rfl (by decide) ?_
      refine k_br rfl (fun g3 => ?_) (fun g3 => ?_)
      · rw [ib_t ⟨g1, g2.1, g2.2, by omega⟩, if_pos ⟨g1, g2.1, g2.2, by omega⟩]
        refine k_gp rfl rfl trivial ?_
        refine k_callp rfl (ev_m_figure hT hp.1) rfl rfl rfl (by decide) ?_
        refine k_gp rfl rfl (by simp only [true_and]; omega) ?_
        refine k_callp rfl (ev_m_figure (t := t) (n := n) ⟨fun k => (up_g rfl).trans (hT.1 k), (up_k (by decide)).trans hT.2.1, hT.2.2⟩ (by omega)) rfl rfl rfl (by decide) ?_
        repeat' (first
          | refine k_brt rfl (by decide) ?_
          | refine k_brf rfl (by decide) ?_
          | refine k_brz rfl (fun _ => ?_) (fun _ => ?_)
          | refine k_brn rfl (fun _ => ?_) (fun _ => ?_)
          | refine k_br rfl (fun _ => ?_) (fun _ => ?_)
          | refine k_ret rfl ?_ ⟨?_, rfl, rfl⟩
          | refine k_ts rfl rfl ?_ (fun _ => ?_)
          | refine mm_tsc (fun _ => ?_) ?_
          | exact mm_tsn
          | refine k_gp rfl rfl ?_ ?_)
        all_goals (first | trivial | omega | (simp only [true_and, mm_fits]; omega) | (refine congrArg some (congrArg Sum.inl ?_); first | rfl | (rw [ib_t (by omega)]) | (rw [ib_f (by omega)]) | omega))
      · rw [ib_f (fun q => by omega), if_neg (fun q => by omega)]
        repeat' (first
          | refine k_brt rfl (by decide) ?_
          | refine k_brf rfl (by decide) ?_
          | refine k_brz rfl (fun _ => ?_) (fun _ => ?_)
          | refine k_brn rfl (fun _ => ?_) (fun _ => ?_)
          | refine k_br rfl (fun _ => ?_) (fun _ => ?_)
          | refine k_ret rfl ?_ ⟨?_, rfl, rfl⟩
          | refine k_ts rfl rfl ?_ (fun _ => ?_)
          | refine mm_tsc (fun _ => ?_) ?_
          | exact mm_tsn
          | refine k_gp rfl rfl ?_ ?_)
        all_goals (first | trivial | omega | (simp only [true_and, mm_fits]; omega) | (refine congrArg some (congrArg Sum.inl ?_); first | rfl | (rw [ib_t (by omega)]) | (rw [ib_f (by omega)]) | omega))
abbrev rv_c (w : mm_M) (t : Int → Int) (n p : Int) : Prop := w 1 0 15 ≠ 3 ∧ fig t n p ≤ fig t n (p + 1) ∧ fig t n (p + 1) ≤ 7
theorem ev_m_readsVariable {p : Int} (hT : TX w t n) (hp : 0 ≤ p ∧ p < 300) (hv : 0 ≤ w 1 0 15 ∧ w 1 0 15 ≤ 3) : mm_Ev K_X10_readsVariable (0, 0) [.inr (some (1, 0)), .inl p] (PH r y) w (mm_pe (some (.inl (ib (rv_c w t n p)))) (PH r y) (if rv_c w t n p then mm_up (mm_up (mm_up w 8 0 (2 * w 1 0 15) (fig t n p)) 8 0 (2 * w 1 0 15 + 1) (fig t n (p + 1))) 1 0 15 (w 1 0 15 + 1) else w)) := by
  refine ev_intro ok_X10_readsVariable mo_X10_readsVariable (Nat.le_of_ble_eq_true rfl) (fun hrg has => ?_)
  have f0 := fig_in t n p
  refine k_gp rfl rfl trivial ?_
  refine k_br rfl (fun g1 => ?_) (fun g1 => ?_)
  · rw [ib_f (fun q => q.1 g1), if_neg (fun q => q.1 g1)]
    repeat' (first
      | refine k_brt rfl (by decide) ?_
      | refine k_brf rfl (by decide) ?_
      | refine k_brz rfl (fun _ => ?_) (fun _ => ?_)
      | refine k_brn rfl (fun _ => ?_) (fun _ => ?_)
      | refine k_br rfl (fun _ => ?_) (fun _ => ?_)
      | refine k_ret rfl ?_ ⟨?_, rfl, rfl⟩
      | refine k_ts rfl rfl ?_ (fun _ => ?_)
      | refine mm_tsc (fun _ => ?_) ?_
      | exact mm_tsn
      | refine k_gp rfl rfl ?_ ?_)
    all_goals (first | trivial | omega | (simp only [true_and, mm_fits]; omega) | (refine congrArg some (congrArg Sum.inl ?_); first | rfl | (rw [ib_t (by omega)]) | (rw [ib_f (by omega)]) | omega))
  · refine k_gp rfl rfl trivial ?_
    refine k_callp rfl (ev_m_figure hT hp.1) rfl rfl rfl (by decide) ?_
    refine k_gp rfl rfl (by simp only [true_and]; omega) ?_
    refine k_callp rfl (ev_m_figure hT (by omega)) rfl rfl rfl (by decide) ?_
    refine k_br rfl (fun g2 => ?_) (fun g2 => ?_)
    · rw [ib_f (fun q => by omega), if_neg (fun q => by omega)]
      repeat' (first
        | refine k_brt rfl (by decide) ?_
        | refine k_brf rfl (by decide) ?_
        | refine k_brz rfl (fun _ => ?_) (fun _ => ?_)
        | refine k_brn rfl (fun _ => ?_) (fun _ => ?_)
        | refine k_br rfl (fun _ => ?_) (fun _ => ?_)
        | refine k_ret rfl ?_ ⟨?_, rfl, rfl⟩
        | refine k_ts rfl rfl ?_ (fun _ => ?_)
        | refine mm_tsc (fun _ => ?_) ?_
        | exact mm_tsn
        | refine k_gp rfl rfl ?_ ?_)
      all_goals (first | trivial | omega | (simp only [true_and, mm_fits]; omega) | (refine congrArg some (congrArg Sum.inl ?_); first | rfl | (rw [ib_t (by omega)]) | (rw [ib_f (by omega)]) | omega))
    · refine k_gp rfl rfl (by simp only [true_and]; omega) ?_
      refine k_callp rfl (ev_m_figure hT (by omega)) rfl rfl rfl (by decide) ?_
      refine k_gp rfl rfl trivial ?_
      refine k_br rfl (fun g3 => ?_) (fun g3 => ?_)
      · rw [ib_t ⟨g1, by omega, by omega⟩, if_pos ⟨g1, by omega, by omega⟩]
        refine k_gp rfl rfl (by simp only [true_and]; omega) ?_
        refine k_callp rfl (ev_m_figure hT hp.1) rfl rfl rfl (by decide) ?_
        refine k_gp rfl rfl (by simp only [true_and, mm_fits, up_g (show Nat.beq 1 8 = false from rfl)]; omega) ?_
        refine k_callp rfl (ev_m_figure (t := t) (n := n) ⟨fun k => (up_g rfl).trans (hT.1 k), (up_g rfl).trans hT.2.1, hT.2.2⟩ (by omega)) rfl rfl rfl (by decide) ?_
        simp only [up_g (show Nat.beq 1 8 = false from rfl)]
        refine k_gp rfl rfl (by simp only [true_and, mm_fits, up_g (show Nat.beq 1 8 = false from rfl)]; omega) ?_
        simp only [up_g (show Nat.beq 1 8 = false from rfl)]
        repeat' (first
          | refine k_brt rfl (by decide) ?_
          | refine k_brf rfl (by decide) ?_
          | refine k_brz rfl (fun _ => ?_) (fun _ => ?_)
          | refine k_brn rfl (fun _ => ?_) (fun _ => ?_)
          | refine k_br rfl (fun _ => ?_) (fun _ => ?_)
          | refine k_ret rfl ?_ ⟨?_, rfl, rfl⟩
          | refine k_ts rfl rfl ?_ (fun _ => ?_)
          | refine mm_tsc (fun _ => ?_) ?_
          | exact mm_tsn
          | refine k_gp rfl rfl ?_ ?_)
        all_goals (first | trivial | omega | (simp only [true_and, mm_fits]; omega) | (refine congrArg some (congrArg Sum.inl ?_); first | rfl | (rw [ib_t (by omega)]) | (rw [ib_f (by omega)]) | omega))
      · rw [ib_f (fun q => by omega), if_neg (fun q => by omega)]
        repeat' (first
          | refine k_brt rfl (by decide) ?_
          | refine k_brf rfl (by decide) ?_
          | refine k_brz rfl (fun _ => ?_) (fun _ => ?_)
          | refine k_brn rfl (fun _ => ?_) (fun _ => ?_)
          | refine k_br rfl (fun _ => ?_) (fun _ => ?_)
          | refine k_ret rfl ?_ ⟨?_, rfl, rfl⟩
          | refine k_ts rfl rfl ?_ (fun _ => ?_)
          | refine mm_tsc (fun _ => ?_) ?_
          | exact mm_tsn
          | refine k_gp rfl rfl ?_ ?_)
        all_goals (first | trivial | omega | (simp only [true_and, mm_fits]; omega) | (refine congrArg some (congrArg Sum.inl ?_); first | rfl | (rw [ib_t (by omega)]) | (rw [ib_f (by omega)]) | omega))
abbrev rc_c (w : mm_M) (t : Int → Int) (n p : Int) : Prop := w 1 0 17 ≠ 8 ∧ fig t n p ≤ 4 ∧ fig t n (p + 1) < w 1 0 15 ∧ (1 < fig t n p → fig t n (p + 2) < w 1 0 15)
def rc_w (w : mm_M) (t : Int → Int) (n p : Int) : mm_M := mm_up (arrw w 9 (3 * w 1 0 17) 3 (fun k => fig t n (p + k))) 1 0 17 (w 1 0 17 + 1)
theorem ev_m_readsComparison {p : Int} (hT : TX w t n) (hp : 0 ≤ p ∧ p < 300) (hv : 0 ≤ w 1 0 17 ∧ w 1 0 17 ≤ 8) : mm_Ev K_X10_readsComparison (0, 0) [.inr (some (1, 0)), .inl p] (PH r y) w (mm_pe (some (.inl (ib (rc_c w t n p)))) (PH r y) (if rc_c w t n p then rc_w w t n p else w)) := by
  refine ev_intro ok_X10_readsComparison mo_X10_readsComparison (Nat.le_of_ble_eq_true rfl) (fun hrg has => ?_)
  have f0 := fig_in t n p
  have fT : rc_c w t n p → ∀ ls2, mm_Wk K_X10_readsComparison (0, 0) 55 [some (.inr (some (1, 0))), some (.inl p), ls2, none] [] (PH r y) w (mm_pe (some (.inl (ib (rc_c w t n p)))) (PH r y) (if rc_c w t n p then rc_w w t n p else w)) := fun hc ls2 => by
    have hc1 := hc.1
    rw [ib_t hc, if_pos hc]
    refine k_gp rfl rfl trivial ?_
    refine mm_loop (σ := mm_M) 3 (fun i w1 => (0 ≤ i ∧ i ≤ 3) ∧ w1 = arrw w 9 (3 * w 1 0 17) i (fun k => fig t n (p + k))) (fun i w1 => mm_Wk K_X10_readsComparison (0, 0) 57 [some (.inr (some (1, 0))), some (.inl p), ls2, some (.inl i)] [] (PH r y) w1 (mm_pe (some (.inl 1)) (PH r y) (rc_w w t n p))) ?_ ?_ 0 w ⟨by omega, arrw_0.symm⟩
    · intro i w1 h1 h2 ih
      obtain ⟨h2, rfl⟩ := h2
      have e1 : ∀ k, arrw w 9 (3 * w 1 0 17) i (fun k => fig t n (p + k)) 1 0 k = w 1 0 k := fun k => arrw_g rfl
      refine k_gp rfl rfl trivial ?_
      refine k_brf rfl (by omega) ?_
      refine k_gp rfl rfl (by simp only [true_and, e1]; omega) ?_
      refine k_callp rfl (ev_m_figure (t := t) (n := n) ⟨fun k => (arrw_g rfl).trans (hT.1 k), (e1 0).trans hT.2.1, hT.2.2⟩ (by omega)) rfl rfl rfl (by decide) ?_
      simp only [e1]
      refine k_gp rfl rfl (by simp only [true_and, mm_fits]; omega) ?_
      rw [arrw_s (by omega) rfl rfl]
      exact ih _ ⟨by omega, rfl⟩
    · intro i w1 h1 h2
      obtain ⟨h2, rfl⟩ := h2
      have e1 : ∀ k, arrw w 9 (3 * w 1 0 17) i (fun k => fig t n (p + k)) 1 0 k = w 1 0 k := fun k => arrw_g rfl
      have hi : i = 3 := by omega
      subst hi
      refine k_gp rfl rfl trivial ?_
      refine k_brt rfl (by omega) ?_
      refine k_gp rfl rfl (by simp only [true_and, e1]; omega) ?_
      simp only [e1]
      exact k_ret rfl (by omega) ⟨rfl, rfl, rfl⟩
  have fF : ¬ rc_c w t n p → ∀ ls2, mm_Wk K_X10_readsComparison (0, 0) 53 [some (.inr (some (1, 0))), some (.inl p), ls2, none] [] (PH r y) w (mm_pe (some (.inl (ib (rc_c w t n p)))) (PH r y) (if rc_c w t n p then rc_w w t n p else w)) := fun hc ls2 => by
    rw [ib_f hc, if_neg hc]
    refine k_gp rfl rfl trivial ?_
    exact k_ret rfl (by omega) ⟨rfl, rfl, rfl⟩
  refine k_gp rfl rfl trivial ?_
  refine k_callp rfl (ev_m_figure hT hp.1) rfl rfl rfl (by decide) ?_
  refine k_gp rfl rfl trivial ?_
  refine k_br rfl (fun g1 => fF (fun q => q.1 g1) _) (fun g1 => ?_)
  refine k_gp rfl rfl trivial ?_
  refine k_br rfl (fun g2 => fF (fun q => by have := q.2.1; omega) _) (fun g2 => ?_)
  refine k_gp rfl rfl (by simp only [true_and, mm_fits]; omega) ?_
  refine k_callp rfl (ev_m_figure hT (by omega)) rfl rfl rfl (by decide) ?_
  refine k_gp rfl rfl trivial ?_
  refine k_br rfl (fun g3 => fF (fun q => by have := q.2.2.1; omega) _) (fun g3 => ?_)
  refine k_gp rfl rfl trivial ?_
  refine k_br rfl (fun g4 => fT ⟨g1, by omega, by omega, fun q => by omega⟩ _) (fun g4 => ?_)
  refine k_gp rfl rfl (by simp only [true_and, mm_fits]; omega) ?_
  refine k_callp rfl (ev_m_figure hT (by omega)) rfl rfl rfl (by decide) ?_
  refine k_gp rfl rfl trivial ?_
  exact k_br rfl (fun g5 => fT ⟨g1, by omega, by omega, fun q => by omega⟩ _) (fun g5 => fF (fun q => by have := q.2.2.2; omega) _)
def re_c (w : mm_M) (t : Int → Int) (n p : Int) : Bool := decide (w 1 0 19 < 14 ∧ fig t n p < w 1 0 13 ∧ fig t n (p + 1) < w 1 0 13 ∧ (fig t n (p + 2) = 9 ∨ fig t n (p + 2) < w 1 0 17) ∧ fig t n (p + 3) < 2 ∧ fig t n (p + 4) < 6 ∧ (fig t n (p + 4) = 0 ∨ fig t n (p + 5) < w 1 0 15) ∧ (fig t n (p + 4) ≠ 1 ∨ fig t n (p + 6) < 8) ∧ (fig t n (p + 4) < 4 ∨ fig t n (p + 6) < w 1 0 15))
def re_w (w : mm_M) (t : Int → Int) (n p : Int) : mm_M := mm_up (arrw w 10 (7 * w 1 0 19) 7 (fun k => fig t n (p + k))) 1 0 19 (w 1 0 19 + 1)
theorem mm_up_id {w : mm_M} {g : Nat} {j k v : Int} (h : w g j k = v) : mm_up w g j k v = w := by
  funext g' j' k'
  unfold mm_up
  split
  · rename_i q
    rw [q.1, q.2.1, q.2.2, h]
  · rfl
theorem ev_m_readsEdge {p : Int} (hT : TX w t n) (hp : 0 ≤ p ∧ p < 300) (hv : 0 ≤ w 1 0 19 ∧ w 1 0 19 ≤ 14) : mm_Ev K_X10_readsEdge (0, 0) [.inr (some (1, 0)), .inl p] (PH r y) w (mm_pe (some (.inl (ib (re_c w t n p = true)))) (PH r y) (if re_c w t n p = true then re_w w t n p else w)) := by
  refine ev_intro ok_X10_readsEdge mo_X10_readsEdge (Nat.le_of_ble_eq_true rfl) (fun hrg has => ?_)
  -- from the loop on
  have fL : ∀ z, z = re_c w t n p → ∀ l2 l3 l4 l5 l6, mm_Wk K_X10_readsEdge (0, 0) 157 [some (.inr (some (1, 0))), some (.inl p), l2, l3, l4, l5, l6, none] [.inl (ib (z = true))] (PH r y) w (mm_pe (some (.inl (ib (re_c w t n p = true)))) (PH r y) (if re_c w t n p = true then re_w w t n p else w)) := fun z hz l2 l3 l4 l5 l6 => by
    rw [← hz]
    refine k_gp rfl rfl trivial ?_
    cases z with
    | false =>
      refine k_gp rfl rfl trivial ?_
      refine k_brf rfl (by decide) ?_
      refine k_gp rfl rfl trivial ?_
      refine k_brt rfl (by decide) ?_
      refine k_gp rfl rfl trivial ?_
      refine k_brt rfl (by decide) ?_
      refine k_gp rfl rfl trivial ?_
      refine k_gp rfl rfl (by simp only [true_and, mm_fits]; omega) ?_
      refine k_ret rfl (by decide) ⟨rfl, rfl, ?_⟩
      rw [mm_up_id (by omega)]
      rfl
    | true =>
      have hc := of_decide_eq_true hz.symm
      have hc1 := hc.1
      refine mm_loop (σ := mm_M) 7 (fun i w1 => (0 ≤ i ∧ i ≤ 7) ∧ w1 = arrw w 10 (7 * w 1 0 19) i (fun k => fig t n (p + k))) (fun i w1 => mm_Wk K_X10_readsEdge (0, 0) 162 [some (.inr (some (1, 0))), some (.inl p), l2, l3, l4, l5, some (.inl (ib (true = true))), some (.inl i)] [] (PH r y) w1 (mm_pe (some (.inl (ib (true = true)))) (PH r y) (if true = true then re_w w t n p else w))) ?_ ?_ 0 w ⟨by omega, arrw_0.symm⟩
      · intro i w1 h1 h2 ih
        obtain ⟨h2, rfl⟩ := h2
        have e1 : ∀ k, arrw w 10 (7 * w 1 0 19) i (fun k => fig t n (p + k)) 1 0 k = w 1 0 k := fun k => arrw_g rfl
        refine k_gp rfl rfl trivial ?_
        refine k_brf rfl (by omega) ?_
        refine k_gp rfl rfl trivial ?_
        refine k_brf rfl (by decide) ?_
        refine k_gp rfl rfl (by simp only [true_and, e1]; omega) ?_
        refine k_callp rfl (ev_m_figure (t := t) (n := n) ⟨fun k => (arrw_g rfl).trans (hT.1 k), (e1 0).trans hT.2.1, hT.2.2⟩ (by omega)) rfl rfl rfl (by decide) ?_
        simp only [e1]
        refine k_gp rfl rfl (by simp only [true_and, mm_fits]; omega) ?_
        rw [arrw_s (by omega) rfl rfl]
        exact ih _ ⟨by omega, rfl⟩
      · intro i w1 h1 h2
        obtain ⟨h2, rfl⟩ := h2
        have e1 : ∀ k, arrw w 10 (7 * w 1 0 19) i (fun k => fig t n (p + k)) 1 0 k = w 1 0 k := fun k => arrw_g rfl
        have hi : i = 7 := by omega
        subst hi
        refine k_gp rfl rfl trivial ?_
        refine k_brt rfl (by omega) ?_
        refine k_gp rfl rfl trivial ?_
        refine k_brf rfl (by decide) ?_
        refine k_gp rfl rfl trivial ?_
        refine k_gp rfl rfl (by simp only [true_and, e1]; omega) ?_
        simp only [e1]
        exact k_ret rfl (by decide) ⟨rfl, rfl, rfl⟩
  have fF2 : re_c w t n p = false → ∀ l2 l3 l4 l5 l6, mm_Wk K_X10_readsEdge (0, 0) 156 [some (.inr (some (1, 0))), some (.inl p), l2, l3, l4, l5, l6, none] [] (PH r y) w (mm_pe (some (.inl (ib (re_c w t n p = true)))) (PH r y) (if re_c w t n p = true then re_w w t n p else w)) := fun hc l2 l3 l4 l5 l6 => by
    refine k_gp rfl rfl trivial ?_
    exact fL false hc.symm l2 l3 l4 l5 l6
  have fF1 : re_c w t n p = false → ∀ l2 l3 l4 l5, mm_Wk K_X10_readsEdge (0, 0) 105 [some (.inr (some (1, 0))), some (.inl p), l2, l3, l4, l5, none, none] [] (PH r y) w (mm_pe (some (.inl (ib (re_c w t n p = true)))) (PH r y) (if re_c w t n p = true then re_w w t n p else w)) := fun hc l2 l3 l4 l5 => by
    refine k_gp rfl rfl trivial ?_
    refine k_gp rfl rfl trivial ?_
    refine k_brt rfl (by decide) ?_
    exact fF2 hc l2 l3 l4 l5 _
  have hdef : re_c w t n p = decide (w 1 0 19 < 14 ∧ fig t n p < w 1 0 13 ∧ fig t n (p + 1) < w 1 0 13 ∧ (fig t n (p + 2) = 9 ∨ fig t n (p + 2) < w 1 0 17) ∧ fig t n (p + 3) < 2 ∧ fig t n (p + 4) < 6 ∧ (fig t n (p + 4) = 0 ∨ fig t n (p + 5) < w 1 0 15) ∧ (fig t n (p + 4) ≠ 1 ∨ fig t n (p + 6) < 8) ∧ (fig t n (p + 4) < 4 ∨ fig t n (p + 6) < w 1 0 15)) := rfl
  generalize re_c w t n p = z at *
  refine k_gp rfl rfl (by simp only [true_and, mm_fits]; omega) ?_
  refine k_callp rfl (ev_m_figure hT (by omega)) rfl rfl rfl (by decide) ?_
  refine k_gp rfl rfl (by simp only [true_and, mm_fits]; omega) ?_
  refine k_callp rfl (ev_m_figure hT (by omega)) rfl rfl rfl (by decide) ?_
  refine k_gp rfl rfl (by simp only [true_and, mm_fits]; omega) ?_
  refine k_callp rfl (ev_m_figure hT (by omega)) rfl rfl rfl (by decide) ?_
  refine k_gp rfl rfl (by simp only [true_and, mm_fits]; omega) ?_
  refine k_callp rfl (ev_m_figure hT (by omega)) rfl rfl rfl (by decide) ?_
  refine k_gp rfl rfl trivial ?_
  refine k_br rfl (fun g1 => fF1 (by rw [hdef]; exact decide_eq_false fun q => by omega) _ _ _ _) (fun g1 => ?_)
  refine k_gp rfl rfl trivial ?_
  refine k_callp rfl (ev_m_figure hT (by omega)) rfl rfl rfl (by decide) ?_
  refine k_gp rfl rfl trivial ?_
  refine k_br rfl (fun g2 => fF1 (by rw [hdef]; exact decide_eq_false fun q => by have := q.2.1; omega) _ _ _ _) (fun g2 => ?_)
  refine k_gp rfl rfl (by simp only [true_and, mm_fits]; omega) ?_
  refine k_callp rfl (ev_m_figure hT (by omega)) rfl rfl rfl (by decide) ?_
  refine k_gp rfl rfl trivial ?_
  refine k_br rfl (fun g3 => fF1 (by rw [hdef]; exact decide_eq_false fun q => by have := q.2.2.1; omega) _ _ _ _) (fun g3 => ?_)
  have J126 : ∀ (_ : fig t n (p + 2) = 9 ∨ fig t n (p + 2) < w 1 0 17) (_ : fig t n (p + 3) < 2) (_ : fig t n (p + 4) < 6) (_ : fig t n (p + 4) = 0 ∨ fig t n (p + 5) < w 1 0 15), mm_Wk K_X10_readsEdge (0, 0) 126 [some (.inr (some (1, 0))), some (.inl p), some (.inl (fig t n (p + 2))), some (.inl (fig t n (p + 4))), some (.inl (fig t n (p + 5))), some (.inl (fig t n (p + 6))), some (.inl 1), none] [] (PH r y) w (mm_pe (some (.inl (ib (z = true)))) (PH r y) (if z = true then re_w w t n p else w)) := fun q4 q5 q6 q7 => by
    have J138 : ∀ (_ : fig t n (p + 4) ≠ 1 ∨ fig t n (p + 6) < 8), mm_Wk K_X10_readsEdge (0, 0) 138 [some (.inr (some (1, 0))), some (.inl p), some (.inl (fig t n (p + 2))), some (.inl (fig t n (p + 4))), some (.inl (fig t n (p + 5))), some (.inl (fig t n (p + 6))), some (.inl 1), none] [] (PH r y) w (mm_pe (some (.inl (ib (z = true)))) (PH r y) (if z = true then re_w w t n p else w)) := fun q8 => by
      have J152 : ∀ (_ : fig t n (p + 4) < 4 ∨ fig t n (p + 6) < w 1 0 15), mm_Wk K_X10_readsEdge (0, 0) 152 [some (.inr (some (1, 0))), some (.inl p), some (.inl (fig t n (p + 2))), some (.inl (fig t n (p + 4))), some (.inl (fig t n (p + 5))), some (.inl (fig t n (p + 6))), some (.inl 1), none] [] (PH r y) w (mm_pe (some (.inl (ib (z = true)))) (PH r y) (if z = true then re_w w t n p else w)) := fun q9 => by
        have hz : true = z := by rw [hdef]; exact (decide_eq_true ⟨by omega, by omega, by omega, q4, q5, q6, q7, q8, q9⟩).symm
        refine k_gp rfl rfl trivial ?_
        exact fL true hz _ _ _ _ _
      refine k_gp rfl rfl trivial ?_
      refine k_br rfl (fun g8 => J152 (Or.inl g8)) (fun g8 => ?_)
      refine k_gp rfl rfl trivial ?_
      exact k_br rfl (fun g9 => fF2 (by rw [hdef]; exact decide_eq_false fun q => by have := q.2.2.2.2.2.2.2.2; omega) _ _ _ _ _) (fun g9 => J152 (Or.inr (by omega)))
    refine k_gp rfl rfl trivial ?_
    refine k_br rfl (fun g7 => J138 (Or.inl g7)) (fun g7 => ?_)
    refine k_gp rfl rfl trivial ?_
    exact k_br rfl (fun g8 => fF2 (by rw [hdef]; exact decide_eq_false fun q => by have := q.2.2.2.2.2.2.2.1; omega) _ _ _ _ _) (fun g8 => J138 (Or.inr (by omega)))
  have J84 : ∀ (_ : fig t n (p + 2) = 9 ∨ fig t n (p + 2) < w 1 0 17), mm_Wk K_X10_readsEdge (0, 0) 84 [some (.inr (some (1, 0))), some (.inl p), some (.inl (fig t n (p + 2))), some (.inl (fig t n (p + 4))), some (.inl (fig t n (p + 5))), some (.inl (fig t n (p + 6))), none, none] [] (PH r y) w (mm_pe (some (.inl (ib (z = true)))) (PH r y) (if z = true then re_w w t n p else w)) := fun q4 => by
    refine k_gp rfl rfl (by simp only [true_and, mm_fits]; omega) ?_
    refine k_callp rfl (ev_m_figure hT (by omega)) rfl rfl rfl (by decide) ?_
    refine k_gp rfl rfl trivial ?_
    refine k_br rfl (fun g5 => fF1 (by rw [hdef]; exact decide_eq_false fun q => by have := q.2.2.2.2.1; omega) _ _ _ _) (fun g5 => ?_)
    refine k_gp rfl rfl trivial ?_
    refine k_br rfl (fun g6 => fF1 (by rw [hdef]; exact decide_eq_false fun q => by have := q.2.2.2.2.2.1; omega) _ _ _ _) (fun g6 => ?_)
    refine k_gp rfl rfl trivial ?_
    refine k_gp rfl rfl trivial ?_
    refine k_brf rfl (by decide) ?_
    refine k_gp rfl rfl trivial ?_
    refine k_br rfl (fun g7 => J126 q4 (by omega) (by omega) (Or.inl g7)) (fun g7 => ?_)
    refine k_gp rfl rfl trivial ?_
    exact k_br rfl (fun g8 => fF2 (by rw [hdef]; exact decide_eq_false fun q => by have := q.2.2.2.2.2.2.1; omega) _ _ _ _ _) (fun g8 => J126 q4 (by omega) (by omega) (Or.inr (by omega)))
  refine k_gp rfl rfl trivial ?_
  refine k_br rfl (fun g4 => J84 (Or.inl g4)) (fun g4 => ?_)
  refine k_gp rfl rfl trivial ?_
  exact k_br rfl (fun g5 => fF1 (by rw [hdef]; exact decide_eq_false fun q => by have := q.2.2.2.1; omega) _ _ _ _) (fun g5 => J84 (Or.inr (by omega)))
end ME
