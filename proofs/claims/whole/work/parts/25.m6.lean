/-! ===== the reference: changes, what is laid, small answers ===== -/
def begW (w : mm_M) : mm_M := mm_up (arrw (arrw w 6 0 8 (fun _ => 0)) 6 8 14 (fun x => w 5 0 (7 * x + 3))) 1 0 12 0
def kepA (w : mm_M) : mm_M := if w 1 0 12 = 6 then mm_up (arrw w 7 0 110 (fun k => w 7 0 (k + 22))) 1 0 12 5 else w
def kepW (w : mm_M) : mm_M := mm_up (arrw (kepA w) 7 (22 * kepA w 1 0 12) 22 (fun k => w 6 0 k)) 1 0 12 (kepA w 1 0 12 + 1)
def undW (w : mm_M) : mm_M := arrw (mm_up w 1 0 12 (w 1 0 12 - 1)) 6 0 22 (fun k => w 7 0 (22 * (w 1 0 12 - 1) + k))
/-- how many of the bits 0 to 7 -/
def pop8 (s : Int) : Nat → Int
  | 0 => 0
  | k + 1 => pop8 s k + s / ((2 ^ k : Nat) : Int) % 2
theorem ib_c {p q : Prop} [Decidable p] [Decidable q] (h : p ↔ q) : ib p = ib q := by
  by_cases hp : p
  · rw [ib_t hp, ib_t (h.mp hp)]
  · rw [ib_f hp, ib_f (fun z => hp (h.mpr z))]
section ME
variable {r : Bool × Bool} {y : Bool} {w : mm_M} {t : Int → Int} {n : Int}
theorem ev_m_begins : mm_Ev K_X10_begins (0, 0) [.inr (some (1, 0))] (PH r y) w (mm_pe none (PH r y) (begW w)) := by
  refine ev_intro ok_X10_begins mo_X10_begins (Nat.le_of_ble_eq_true rfl) (fun hrg has => ?_)
  refine k_gp rfl rfl trivial ?_
  refine mm_loop (σ := mm_M) 8 (fun i w1 => (0 ≤ i ∧ i ≤ 8) ∧ w1 = arrw w 6 0 i (fun _ => 0)) (fun i w1 => mm_Wk K_X10_begins (0, 0) 2 [some (.inr (some (1, 0))), some (.inl i)] [] (PH r y) w1 (mm_pe none (PH r y) (begW w))) ?_ ?_ 0 w ⟨by omega, arrw_0.symm⟩
  · intro i w1 h1 h2 ih
    obtain ⟨h2, rfl⟩ := h2
    refine k_gp rfl rfl trivial ?_
    refine k_brf rfl (by omega) ?_
    refine k_gp rfl rfl (by simp only [true_and, mm_fits]; omega) ?_
    exact ih _ ⟨by omega, arrw_s (by omega) (by omega) rfl⟩
  · intro i w1 h1 h2
    obtain ⟨h2, rfl⟩ := h2
    have hi : i = 8 := by omega
    subst hi
    refine k_gp rfl rfl trivial ?_
    refine k_brt rfl (by omega) ?_
    refine k_gp rfl rfl trivial ?_
    refine mm_loop (σ := mm_M) 14 (fun i w1 => (0 ≤ i ∧ i ≤ 14) ∧ w1 = arrw (arrw w 6 0 8 (fun _ => 0)) 6 8 i (fun x => w 5 0 (7 * x + 3))) (fun i w1 => mm_Wk K_X10_begins (0, 0) 23 [some (.inr (some (1, 0))), some (.inl i)] [] (PH r y) w1 (mm_pe none (PH r y) (begW w))) ?_ ?_ 0 _ ⟨by omega, arrw_0.symm⟩
    · intro i w1 h1 h2 ih
      obtain ⟨h2, rfl⟩ := h2
      refine k_gp rfl rfl trivial ?_
      refine k_brf rfl (by omega) ?_
      refine k_gp rfl rfl (by simp only [true_and, mm_fits]; omega) ?_
      exact ih _ ⟨by omega, arrw_s (by omega) (by omega) ((arrw_g rfl).trans (arrw_g rfl))⟩
    · intro i w1 h1 h2
      obtain ⟨h2, rfl⟩ := h2
      have hi : i = 14 := by omega
      subst hi
      refine k_gp rfl rfl trivial ?_
      refine k_brt rfl (by omega) ?_
      refine k_gp rfl rfl trivial ?_
      exact k_ret rfl trivial ⟨rfl, rfl, rfl⟩
theorem ev_m_keeps (hc : 0 ≤ w 1 0 12 ∧ w 1 0 12 ≤ 6) : mm_Ev K_X10_keeps (0, 0) [.inr (some (1, 0))] (PH r y) w (mm_pe none (PH r y) (kepW w)) := by
  refine ev_intro ok_X10_keeps mo_X10_keeps (Nat.le_of_ble_eq_true rfl) (fun hrg has => ?_)
  have J48 : ∀ l1, mm_Wk K_X10_keeps (0, 0) 48 [some (.inr (some (1, 0))), l1] [] (PH r y) (kepA w) (mm_pe none (PH r y) (kepW w)) := fun l1 => by
    have hA : 0 ≤ kepA w 1 0 12 ∧ kepA w 1 0 12 ≤ 5 := by
      unfold kepA
      split
      · rw [up_s]; omega
      · omega
    have h6 : ∀ k, kepA w 6 0 k = w 6 0 k := fun k => by
      unfold kepA
      split
      · exact (up_g rfl).trans (arrw_g rfl)
      · rfl
    refine k_gp rfl rfl trivial ?_
    refine mm_loop (σ := mm_M) 22 (fun i w1 => (0 ≤ i ∧ i ≤ 22) ∧ w1 = arrw (kepA w) 7 (22 * kepA w 1 0 12) i (fun k => w 6 0 k)) (fun i w1 => mm_Wk K_X10_keeps (0, 0) 50 [some (.inr (some (1, 0))), some (.inl i)] [] (PH r y) w1 (mm_pe none (PH r y) (kepW w))) ?_ ?_ 0 _ ⟨by omega, arrw_0.symm⟩
    · intro i w1 h1 h2 ih
      obtain ⟨h2, rfl⟩ := h2
      have e1 : ∀ k, arrw (kepA w) 7 (22 * kepA w 1 0 12) i (fun k => w 6 0 k) 1 0 k = kepA w 1 0 k := fun k => arrw_g rfl
      refine k_gp rfl rfl trivial ?_
      refine k_brf rfl (by omega) ?_
      refine k_gp rfl rfl (by simp only [true_and, mm_fits, e1]; omega) ?_
      simp only [e1]
      exact ih _ ⟨by omega, arrw_s (by omega) rfl ((arrw_g rfl).trans (h6 i))⟩
    · intro i w1 h1 h2
      obtain ⟨h2, rfl⟩ := h2
      have hi : i = 22 := by omega
      subst hi
      have e1 : ∀ k, arrw (kepA w) 7 (22 * kepA w 1 0 12) 22 (fun k => w 6 0 k) 1 0 k = kepA w 1 0 k := fun k => arrw_g rfl
      refine k_gp rfl rfl trivial ?_
      refine k_brt rfl (by omega) ?_
      refine k_gp rfl rfl (by simp only [true_and, mm_fits, e1]; omega) ?_
      simp only [e1]
      exact k_ret rfl trivial ⟨rfl, rfl, rfl⟩
  refine k_gp rfl rfl trivial ?_
  refine k_br rfl (fun g1 => ?_) (fun g1 => ?_)
  · have e : kepA w = w := if_neg g1
    rw [e] at J48
    exact J48 _
  · have g1 : w 1 0 12 = 6 := Classical.byContradiction g1
    have e : kepA w = mm_up (arrw w 7 0 110 (fun k => w 7 0 (k + 22))) 1 0 12 5 := if_pos g1
    rw [e] at J48
    refine k_gp rfl rfl trivial ?_
    refine mm_loop (σ := mm_M) 110 (fun i w1 => (0 ≤ i ∧ i ≤ 110) ∧ w1 = arrw w 7 0 i (fun k => w 7 0 (k + 22))) (fun i w1 => mm_Wk K_X10_keeps (0, 0) 11 [some (.inr (some (1, 0))), some (.inl i)] [] (PH r y) w1 (mm_pe none (PH r y) (kepW w))) ?_ ?_ 0 _ ⟨by omega, arrw_0.symm⟩
    · intro i w1 h1 h2 ih
      obtain ⟨h2, rfl⟩ := h2
      refine k_gp rfl rfl trivial ?_
      refine k_brf rfl (by omega) ?_
      refine k_gp rfl rfl (by simp only [true_and, mm_fits]; omega) ?_
      exact ih _ ⟨by omega, arrw_s (by omega) (by omega) (arrw_out (by omega))⟩
    · intro i w1 h1 h2
      obtain ⟨h2, rfl⟩ := h2
      have hi : i = 110 := by omega
      subst hi
      have e1 : ∀ k, arrw w 7 0 110 (fun k => w 7 0 (k + 22)) 1 0 k = w 1 0 k := fun k => arrw_g rfl
      refine k_gp rfl rfl trivial ?_
      refine k_brt rfl (by omega) ?_
      refine k_gp rfl rfl (by simp only [true_and, mm_fits, e1]; omega) ?_
      rw [e1, g1]
      exact J48 _
theorem ev_m_undo (hc : 0 ≤ w 1 0 12 ∧ w 1 0 12 ≤ 6) : mm_Ev K_X10_undo (0, 0) [.inr (some (1, 0))] (PH r y) w (mm_pe (some (.inl (if w 1 0 12 = 0 then -2 else w 1 0 12 - 1))) (PH r y) (if w 1 0 12 = 0 then w else undW w)) := by
  refine ev_intro ok_X10_undo mo_X10_undo (Nat.le_of_ble_eq_true rfl) (fun hrg has => ?_)
  refine k_gp rfl rfl trivial ?_
  refine k_br rfl (fun g1 => ?_) (fun g1 => ?_)
  · rw [if_neg g1, if_neg g1]
    have e0 : mm_up w 1 0 12 (w 1 0 12 - 1) 1 0 12 = w 1 0 12 - 1 := up_s
    refine k_gp rfl rfl (by simp only [true_and, mm_fits]; omega) ?_
    refine mm_loop (σ := mm_M) 22 (fun i w1 => (0 ≤ i ∧ i ≤ 22) ∧ w1 = arrw (mm_up w 1 0 12 (w 1 0 12 - 1)) 6 0 i (fun k => w 7 0 (22 * (w 1 0 12 - 1) + k))) (fun i w1 => mm_Wk K_X10_undo (0, 0) 22 [some (.inr (some (1, 0))), some (.inl i)] [] (PH r y) w1 (mm_pe (some (.inl (w 1 0 12 - 1))) (PH r y) (undW w))) ?_ ?_ 0 _ ⟨by omega, arrw_0.symm⟩
    · intro i w1 h1 h2 ih
      obtain ⟨h2, rfl⟩ := h2
      have e1 : arrw (mm_up w 1 0 12 (w 1 0 12 - 1)) 6 0 i (fun k => w 7 0 (22 * (w 1 0 12 - 1) + k)) 1 0 12 = w 1 0 12 - 1 := (arrw_g rfl).trans up_s
      refine k_gp rfl rfl trivial ?_
      refine k_brf rfl (by omega) ?_
      refine k_gp rfl rfl (by simp only [true_and, mm_fits, e1]; omega) ?_
      simp only [e1]
      exact ih _ ⟨by omega, arrw_s (by omega) (by omega) ((arrw_g rfl).trans (up_g rfl))⟩
    · intro i w1 h1 h2
      obtain ⟨h2, rfl⟩ := h2
      have hi : i = 22 := by omega
      subst hi
      have e1 : arrw (mm_up w 1 0 12 (w 1 0 12 - 1)) 6 0 22 (fun k => w 7 0 (22 * (w 1 0 12 - 1) + k)) 1 0 12 = w 1 0 12 - 1 := (arrw_g rfl).trans up_s
      refine k_gp rfl rfl trivial ?_
      refine k_brt rfl (by omega) ?_
      refine k_gp rfl rfl trivial ?_
      rw [e1]
      exact k_ret rfl trivial ⟨rfl, rfl, rfl⟩
  · have g1 : w 1 0 12 = 0 := Classical.byContradiction g1
    rw [if_pos g1, if_pos g1]
    repeat' (first
      | refine k_brt rfl (by decide) ?_
      | refine k_brf rfl (by decide) ?_
      | refine k_brz rfl (fun _ => ?_) (fun _ => ?_)
      | refine k_brn rfl (fun _ => ?_) (fun _ => ?_)
      | refine k_br rfl (fun _ => ?_) (fun _ => ?_)
      | refine k_ret rfl ?_ ⟨?_, rfl, rfl⟩
      | refine k_ts rfl rfl ?_ (fun _ => ?_)
      | refine mm_tsc (fun _ => ?_) ?_
      | exact mm_tsn
      | refine k_gp rfl rfl ?_ ?_)
    all_goals (first | trivial | omega | (simp only [true_and, mm_fits]; omega) | (refine congrArg some (congrArg Sum.inl ?_); first | rfl | (rw [ib_t (by omega)]) | (rw [ib_f (by omega)]) | omega))
theorem pop8_in (s : Int) (k : Nat) : 0 ≤ pop8 s k ∧ pop8 s k ≤ k := by
  induction k with
  | zero => exact ⟨Int.le_refl _, Int.le_refl _⟩
  | succ k ih =>
    have e : pop8 s (k + 1) = pop8 s k + s / ((2 ^ k : Nat) : Int) % 2 := rfl
    rw [e]
    omega
theorem ev_m_bits {s : Int} (hs : 0 ≤ s ∧ s < 2147483648) : mm_Ev K_X10_bits (0, 0) [.inl s] (PH r y) w (mm_pe (some (.inl (pop8 s 8))) (PH r y) w) := by
  refine ev_intro ok_X10_bits mo_X10_bits (Nat.le_of_ble_eq_true rfl) (fun hrg has => ?_)
  refine k_gp rfl rfl trivial ?_
  refine mm_loop (σ := Int) 8 (fun i v => (0 ≤ i ∧ i ≤ 8) ∧ v = pop8 s i.toNat) (fun i v => mm_Wk K_X10_bits (0, 0) 4 [some (.inl s), some (.inl v), some (.inl i)] [] (PH r y) w (mm_pe (some (.inl (pop8 s 8))) (PH r y) w)) ?_ ?_ 0 0 ⟨by omega, rfl⟩
  · intro i v h1 h2 ih
    obtain ⟨h2, rfl⟩ := h2
    have hp := pop8_in s i.toNat
    have hb := hb_eq hs (g := i) (by omega)
    have e : pop8 s (i + 1).toNat = pop8 s i.toNat + mm_and (mm_shr s i) 1 := by
      rw [hb, show (i + 1).toNat = i.toNat + 1 by omega]
      rfl
    have hq := pop8_in s (i + 1).toNat
    refine k_gp rfl rfl trivial ?_
    refine k_brf rfl (by omega) ?_
    refine k_gp rfl rfl (by simp only [true_and, ← e]; omega) ?_
    exact ih _ ⟨by omega, e.symm⟩
  · intro i v h1 h2
    obtain ⟨h2, rfl⟩ := h2
    have hi : i = 8 := by omega
    subst hi
    refine k_gp rfl rfl trivial ?_
    refine k_brt rfl (by omega) ?_
    refine k_gp rfl rfl trivial ?_
    exact k_ret rfl trivial ⟨rfl, rfl, rfl⟩
theorem ev_m_isPlace {p : Int} (h : 0 ≤ w 1 0 2 ∧ w 1 0 2 ≤ 8) : mm_Ev K_X10_isPlace (0, 0) [.inr (some (1, 0)), .inl p] (PH r y) w (mm_pe (some (.inl (ib (0 ≤ p ∧ p < w 1 0 2)))) (PH r y) w) := by
  refine ev_intro ok_X10_isPlace mo_X10_isPlace (Nat.le_of_ble_eq_true rfl) (fun hrg has => ?_)
  refine k_gp rfl rfl (by simp only [true_and, mm_fits]; omega) ?_
  refine k_callp rfl ev_m_isIn rfl rfl rfl (by decide) ?_
  refine k_ret rfl (ib_in _) ⟨?_, rfl, rfl⟩
  exact congrArg (fun z => some (Sum.inl z)) (ib_c (by omega))
theorem ev_m_isComparison {p : Int} (h : 0 ≤ w 1 0 6 ∧ w 1 0 6 ≤ 8) : mm_Ev K_X10_isComparison (0, 0) [.inr (some (1, 0)), .inl p] (PH r y) w (mm_pe (some (.inl (ib (0 ≤ p ∧ p < w 1 0 6)))) (PH r y) w) := by
  refine ev_intro ok_X10_isComparison mo_X10_isComparison (Nat.le_of_ble_eq_true rfl) (fun hrg has => ?_)
  refine k_gp rfl rfl (by simp only [true_and, mm_fits]; omega) ?_
  refine k_callp rfl ev_m_isIn rfl rfl rfl (by decide) ?_
  refine k_ret rfl (ib_in _) ⟨?_, rfl, rfl⟩
  exact congrArg (fun z => some (Sum.inl z)) (ib_c (by omega))
theorem ev_m_isEdge {p : Int} (h : 0 ≤ w 1 0 8 ∧ w 1 0 8 ≤ 14) : mm_Ev K_X10_isEdge (0, 0) [.inr (some (1, 0)), .inl p] (PH r y) w (mm_pe (some (.inl (ib (0 ≤ p ∧ p < w 1 0 8)))) (PH r y) w) := by
  refine ev_intro ok_X10_isEdge mo_X10_isEdge (Nat.le_of_ble_eq_true rfl) (fun hrg has => ?_)
  refine k_gp rfl rfl (by simp only [true_and, mm_fits]; omega) ?_
  refine k_callp rfl ev_m_isIn rfl rfl rfl (by decide) ?_
  refine k_ret rfl (ib_in _) ⟨?_, rfl, rfl⟩
  exact congrArg (fun z => some (Sum.inl z)) (ib_c (by omega))
theorem ev_m_areValues {a b c : Int} : mm_Ev K_X10_areValues (0, 0) [.inl a, .inl b, .inl c] (PH r y) w (mm_pe (some (.inl (ib ((0 ≤ a ∧ a ≤ 7) ∧ (0 ≤ b ∧ b ≤ 7) ∧ (0 ≤ c ∧ c ≤ 7))))) (PH r y) w) := by
  refine ev_intro ok_X10_areValues mo_X10_areValues (Nat.le_of_ble_eq_true rfl) (fun hrg has => ?_)
  repeat' (first
    | refine k_brt rfl (by decide) ?_
    | refine k_brf rfl (by decide) ?_
    | refine k_brz rfl (fun _ => ?_) (fun _ => ?_)
    | refine k_brn rfl (fun _ => ?_) (fun _ => ?_)
    | refine k_br rfl (fun _ => ?_) (fun _ => ?_)
    | refine k_ret rfl ?_ ⟨?_, rfl, rfl⟩
    | refine k_callp rfl (ev_m_isIn) rfl rfl rfl (by decide) ?_
    | refine k_ts rfl rfl ?_ (fun _ => ?_)
    | refine mm_tsc (fun _ => ?_) ?_
    | exact mm_tsn
    | refine k_gp rfl rfl ?_ ?_)
  all_goals (first | trivial | omega | (simp only [true_and, mm_fits]; omega) | (refine congrArg some (congrArg Sum.inl ?_); first | rfl | (rw [ib_t (by omega)]) | (rw [ib_f (by omega)]) | omega))
end ME
