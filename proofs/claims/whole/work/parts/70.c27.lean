/-! ===== the class: the text, and what it tells ===== -/
/-- the class's text -/
def CX (w : mm_M) (t : Int → Int) (n : Int) : Prop := (∀ k, 0 ≤ k → k < n → w 23 0 k = t k) ∧ w 22 0 1 = n ∧ 0 ≤ n ∧ n ≤ 200
/-- the class has read this -/
def CR (w : mm_M) (T : TS) : Prop := (w 24 0 0 = T.1.1 ∧ w 24 0 1 = T.1.2.1 ∧ w 24 0 2 = T.1.2.2.1 ∧ w 24 0 3 = T.1.2.2.2.1 ∧ w 24 0 4 = T.1.2.2.2.2) ∧ (∀ v, 0 ≤ v → v < T.1.2.2.1 → w 25 0 v = T.2.1 (2 * v) ∧ w 26 0 v = T.2.1 (2 * v + 1)) ∧ (∀ g k, 0 ≤ g → g < T.1.2.2.2.1 → 0 ≤ k → k < 3 → w 28 g k = T.2.2.1 g k) ∧ (∀ x k, 0 ≤ x → x < T.1.2.2.2.2 → 0 ≤ k → k < 7 → w 30 x k = T.2.2.2 x k)
abbrev ttL : List (Nat × Option Int) := [(24, some 0), (24, some 1), (24, some 2), (24, some 3), (24, some 4), (25, none), (26, none), (28, none), (30, none), (31, none)]
theorem CX_sm {w w' : mm_M} {t : Int → Int} {n : Int} {L : List (Nat × Option Int)} (h : CX w t n) (hs : sm L w w') (h1 : ∀ k, frB L 23 k = true) (h2 : frB L 22 1 = true) : CX w' t n := ⟨fun k a b => (hs 23 0 k (h1 k)).trans (h.1 k a b), (hs 22 0 1 h2).trans h.2.1, h.2.2⟩
theorem lsw_no {ps : List (Int × Int)} {d x : Int} (h : ∀ q ∈ ps, q.1 ≠ x) : Op.lookupswitch.offset ps d x = d := by
  induction ps with
  | nil => rfl
  | cons q ps ih =>
    obtain ⟨a, o⟩ := q
    show (if a = x then o else Op.lookupswitch.offset ps d x) = d
    rw [if_neg (h (a, o) List.mem_cons_self)]
    exact ih (fun q hq => h q (List.mem_cons_of_mem _ hq))
section MC
variable {r : Bool × Bool} {y : Bool} {w : mm_M} {t : Int → Int} {n : Int}
theorem ev_c_tsize : mm_Ev K_X7_size (0, 0) [.inr (some (22, 0))] (PH r y) w (mm_pe (some (.inl (w 22 0 1))) (PH r y) w) := by
  refine ev_intro ok_X7_size mo_X7_size (Nat.le_of_ble_eq_true rfl) (fun hrg has => ?_)
  repeat' (first
    | refine k_brt rfl (by decide) ?_
    | refine k_brf rfl (by decide) ?_
    | refine k_brz rfl (fun _ => ?_) (fun _ => ?_)
    | refine k_brn rfl (fun _ => ?_) (fun _ => ?_)
    | refine k_br rfl (fun _ => ?_) (fun _ => ?_)
    | refine k_ret rfl ?_ ⟨?_, rfl, rfl⟩
    | refine k_ts rfl rfl ?_ (fun _ => ?_)
    | refine mm_tsc (fun _ => ?_) ?_
    | exact mm_tsn
    | refine k_gp rfl rfl ?_ ?_)
  all_goals (first | trivial | omega | (simp only [true_and, mm_fits]; omega) | (refine congrArg some (congrArg Sum.inl ?_); first | rfl | (rw [ib_t (by omega)]) | (rw [ib_f (by omega)]) | omega))
theorem ev_c_tempty : mm_Ev K_X7_empty (0, 0) [.inr (some (22, 0))] (PH r y) w (mm_pe none (PH r y) (mm_up w 22 0 1 0)) := by
  refine ev_intro ok_X7_empty mo_X7_empty (Nat.le_of_ble_eq_true rfl) (fun hrg has => ?_)
  repeat' (first
    | refine k_brt rfl (by decide) ?_
    | refine k_brf rfl (by decide) ?_
    | refine k_brz rfl (fun _ => ?_) (fun _ => ?_)
    | refine k_brn rfl (fun _ => ?_) (fun _ => ?_)
    | refine k_br rfl (fun _ => ?_) (fun _ => ?_)
    | refine k_ret rfl ?_ ⟨?_, rfl, rfl⟩
    | refine k_ts rfl rfl ?_ (fun _ => ?_)
    | refine mm_tsc (fun _ => ?_) ?_
    | exact mm_tsn
    | refine k_gp rfl rfl ?_ ?_)
  all_goals (first | trivial | omega | (simp only [true_and, mm_fits]; omega) | (refine congrArg some (congrArg Sum.inl ?_); first | rfl | (rw [ib_t (by omega)]) | (rw [ib_f (by omega)]) | omega))
theorem ev_c_tprogram : mm_Ev K_X7_program (0, 0) [.inr (some (22, 0))] (PH r y) w (mm_pe (some (.inr (some (24, 0)))) (PH r y) w) := by
  refine ev_intro ok_X7_program mo_X7_program (Nat.le_of_ble_eq_true rfl) (fun hrg has => ?_)
  refine k_gp rfl rfl trivial ?_
  exact k_ret rfl trivial ⟨rfl, rfl, rfl⟩
theorem ev_c_tadd {l : Int} (hl : 0 ≤ l ∧ l < 65536) (h : 0 ≤ w 22 0 1 ∧ w 22 0 1 ≤ 200) : mm_Ev K_X7_add (0, 0) [.inr (some (22, 0)), .inl l] (PH r y) w (mm_pe (some (.inl (ib (w 22 0 1 < 200)))) (PH r y) (if w 22 0 1 < 200 then mm_up (mm_up w 23 0 (w 22 0 1) l) 22 0 1 (w 22 0 1 + 1) else w)) := by
  refine ev_intro ok_X7_add mo_X7_add (Nat.le_of_ble_eq_true rfl) (fun hrg has => ?_)
  have e1 : mm_up w 23 0 (w 22 0 1) l 22 0 1 = w 22 0 1 := up_g rfl
  refine k_gp rfl rfl trivial ?_
  refine k_br rfl (fun g => ?_) (fun g => ?_)
  · rw [if_pos g, ib_t g]
    refine k_gp rfl rfl (by simp only [true_and, mm_fits, e1]; omega) ?_
    rw [e1]
    exact k_ret rfl (by decide) ⟨rfl, rfl, rfl⟩
  · rw [if_neg g, ib_f g]
    refine k_gp rfl rfl trivial ?_
    exact k_ret rfl (by decide) ⟨rfl, rfl, rfl⟩
theorem ev_c_figuresBehind {l : Int} : mm_Ev K_X7_figuresBehind (0, 0) [.inl l] (PH r y) w (mm_pe (some (.inl (due l))) (PH r y) w) := by
  refine ev_intro ok_X7_figuresBehind mo_X7_figuresBehind (Nat.le_of_ble_eq_true rfl) (fun hrg has => ?_)
  refine k_gp rfl rfl trivial ?_
  by_cases h1 : l = 112
  · subst h1
    refine k_lsw rfl rfl rfl (by decide) ?_
    refine k_gp rfl rfl trivial ?_
    exact k_ret rfl trivial ⟨rfl, rfl, rfl⟩
  by_cases h2 : l = 118
  · subst h2
    refine k_lsw rfl rfl rfl (by decide) ?_
    refine k_gp rfl rfl trivial ?_
    exact k_ret rfl trivial ⟨rfl, rfl, rfl⟩
  by_cases h3 : l = 99
  · subst h3
    refine k_lsw rfl rfl rfl (by decide) ?_
    refine k_gp rfl rfl trivial ?_
    exact k_ret rfl trivial ⟨rfl, rfl, rfl⟩
  by_cases h4 : l = 101
  · subst h4
    refine k_lsw rfl rfl rfl (by decide) ?_
    refine k_gp rfl rfl trivial ?_
    exact k_ret rfl trivial ⟨rfl, rfl, rfl⟩
  have hd : due l = 0 := by
    unfold due
    rw [if_neg (by omega), if_neg h3, if_neg h4]
  rw [hd]
  refine k_lsw rfl rfl (lsw_no (fun q hq => ?_)) (by decide) ?_
  · simp only [List.mem_cons, List.not_mem_nil, or_false] at hq
    rcases hq with rfl | rfl | rfl | rfl
    · exact fun z => h3 z.symm
    · exact fun z => h4 z.symm
    · exact fun z => h1 z.symm
    · exact fun z => h2 z.symm
  · refine k_gp rfl rfl trivial ?_
    exact k_ret rfl trivial ⟨rfl, rfl, rfl⟩
theorem ev_c_isVariable {x : Int} : mm_Ev K_X7_isVariable (0, 0) [.inr (some (22, 0)), .inl x] (PH r y) w (mm_pe (some (.inl (ib (x < w 24 0 2)))) (PH r y) w) := by
  refine ev_intro ok_X7_isVariable mo_X7_isVariable (Nat.le_of_ble_eq_true rfl) (fun hrg has => ?_)
  repeat' (first
    | refine k_brt rfl (by decide) ?_
    | refine k_brf rfl (by decide) ?_
    | refine k_brz rfl (fun _ => ?_) (fun _ => ?_)
    | refine k_brn rfl (fun _ => ?_) (fun _ => ?_)
    | refine k_br rfl (fun _ => ?_) (fun _ => ?_)
    | refine k_ret rfl ?_ ⟨?_, rfl, rfl⟩
    | refine k_ts rfl rfl ?_ (fun _ => ?_)
    | refine mm_tsc (fun _ => ?_) ?_
    | exact mm_tsn
    | refine k_gp rfl rfl ?_ ?_)
  all_goals (first | trivial | omega | (simp only [true_and, mm_fits]; omega) | (refine congrArg some (congrArg Sum.inl ?_); first | rfl | (rw [ib_t (by omega)]) | (rw [ib_f (by omega)]) | omega))
/-- figures that are due, and the end behind them -/
def tkB (t : Int → Int) (n p m : Int) : Bool := decide (p + m < n ∧ t (p + m) = 59) && (List.range m.toNat).all (fun k : Nat => decide (0 ≤ fig t n (p + k)))
set_option maxRecDepth 100000 in
theorem ev_c_takeFigures {p m : Int} (hX : CX w t n) (hp : 0 ≤ p ∧ p < 1000) (hm : 0 ≤ m ∧ m ≤ 7) : mm_Ev K_X7_takeFigures (0, 0) [.inr (some (22, 0)), .inl p, .inl m] (PH r y) w (fun a b' w' => b' = PH r y ∧ sm [(31, none)] w w' ∧ a = some (.inl (ib (tkB t n p m = true))) ∧ (tkB t n p m = true → ∀ k, 0 ≤ k → k < m → w' 31 0 k = fig t n (p + k))) := by
  refine ev_intro ok_X7_takeFigures mo_X7_takeFigures (Nat.le_of_ble_eq_true rfl) (fun hrg has => ?_)
  obtain ⟨x1, x2, x3⟩ := hX
  have J23 : ∀ l3 l4, tkB t n p m = false → mm_Wk K_X7_takeFigures (0, 0) 23 [some (.inr (some (22, 0))), some (.inl p), some (.inl m), l3, l4] [] (PH r y) w (fun a b' w' => b' = PH r y ∧ sm [(31, none)] w w' ∧ a = some (.inl (ib (tkB t n p m = true))) ∧ (tkB t n p m = true → ∀ k, 0 ≤ k → k < m → w' 31 0 k = fig t n (p + k))) := fun l3 l4 h => by
    rw [h]
    refine k_gp rfl rfl trivial ?_
    exact k_ret rfl (by decide) ⟨rfl, sm_rf, rfl, fun z => by cases z⟩
  refine k_gp rfl rfl (by simp only [true_and, mm_fits]; omega) ?_
  rw [x2]
  refine k_br rfl (fun g => ?_) (fun g => ?_)
  · refine J23 _ _ ?_
    unfold tkB
    rw [decide_eq_false (fun z => by omega), Bool.false_and]
  · have g1 := x1 (p + m) (by omega) (by omega)
    refine k_gp rfl rfl (by simp only [true_and, mm_fits]; omega) ?_
    rw [g1]
    refine k_br rfl (fun g2 => ?_) (fun g2 => ?_)
    · refine k_gp rfl rfl trivial ?_
      have hB : tkB t n p m = (List.range m.toNat).all (fun k : Nat => decide (0 ≤ fig t n (p + k))) := by
        unfold tkB
        rw [decide_eq_true (show p + m < n ∧ t (p + m) = 59 from ⟨by omega, g2⟩), Bool.true_and]
      rw [hB]
      refine mm_loop (σ := mm_M) m (fun i w1 => (0 ≤ i ∧ i ≤ m) ∧ sm [(31, none)] w w1 ∧ ∀ k, 0 ≤ k → k < i → w1 31 0 k = fig t n (p + k) ∧ 0 ≤ fig t n (p + k)) (fun i w1 => ∀ l4, mm_Wk K_X7_takeFigures (0, 0) 27 [some (.inr (some (22, 0))), some (.inl p), some (.inl m), some (.inl i), l4] [] (PH r y) w1 (fun a b' w' => b' = PH r y ∧ sm [(31, none)] w w' ∧ a = some (.inl (ib ((List.range m.toNat).all (fun k : Nat => decide (0 ≤ fig t n (p + k))) = true))) ∧ ((List.range m.toNat).all (fun k : Nat => decide (0 ≤ fig t n (p + k))) = true → ∀ k, 0 ≤ k → k < m → w' 31 0 k = fig t n (p + k)))) ?_ ?_ 0 w ⟨by omega, sm_rf, fun k a b => by omega⟩ _
      · rintro i w1 q1 ⟨q2, s1, q3⟩ ih l4
        have e1 : w1 23 0 (p + i) = t (p + i) := (s1 23 0 _ rfl).trans (x1 (p + i) (by omega) (by omega))
        have hfg : fig t n (p + i) = if p + i < n ∧ 48 ≤ t (p + i) ∧ t (p + i) ≤ 57 then t (p + i) - 48 else -1 := rfl
        have J56 : ∀ l4, fig t n (p + i) < 0 → mm_Wk K_X7_takeFigures (0, 0) 56 [some (.inr (some (22, 0))), some (.inl p), some (.inl m), some (.inl i), l4] [] (PH r y) w1 (fun a b' w' => b' = PH r y ∧ sm [(31, none)] w w' ∧ a = some (.inl (ib ((List.range m.toNat).all (fun k : Nat => decide (0 ≤ fig t n (p + k))) = true))) ∧ ((List.range m.toNat).all (fun k : Nat => decide (0 ≤ fig t n (p + k))) = true → ∀ k, 0 ≤ k → k < m → w' 31 0 k = fig t n (p + k))) := fun l4 z => by
          have hno : (List.range m.toNat).all (fun k : Nat => decide (0 ≤ fig t n (p + k))) = false := by
            rw [Bool.eq_false_iff]
            intro o
            rw [List.all_eq_true] at o
            have := of_decide_eq_true (o i.toNat (List.mem_range.mpr (by omega)))
            rw [show ((i.toNat : Nat) : Int) = i by omega] at this
            omega
          rw [hno]
          refine k_gp rfl rfl trivial ?_
          exact k_ret rfl (by decide) ⟨rfl, s1, rfl, fun z => by cases z⟩
        refine k_gp rfl rfl trivial ?_
        refine k_brf rfl (by omega) ?_
        refine k_gp rfl rfl (by simp only [true_and, mm_fits]; omega) ?_
        rw [e1]
        refine k_br rfl (fun g3 => ?_) (fun g3 => ?_)
        · exact J56 _ (by rw [hfg, if_neg (by omega)]; decide)
        · refine k_gp rfl rfl trivial ?_
          refine k_br rfl (fun g4 => ?_) (fun g4 => ?_)
          · rw [if_pos (by omega)] at hfg
            refine k_gp rfl rfl (by simp only [true_and, mm_fits]; omega) ?_
            rw [← hfg]
            refine ih _ ⟨by omega, sm_up s1 (Or.inl List.mem_cons_self), fun k a b => ?_⟩ _
            rw [up_at]
            by_cases hk : k = i
            · rw [if_pos hk, hk]
              exact ⟨rfl, by omega⟩
            · rw [if_neg hk]
              exact q3 k a (by omega)
          · exact J56 _ (by rw [hfg, if_neg (by omega)]; decide)
      · rintro i w1 q1 ⟨q2, s1, q3⟩ l4
        have hi : i = m := by omega
        subst hi
        have hyes : (List.range i.toNat).all (fun k : Nat => decide (0 ≤ fig t n (p + k))) = true := by
          rw [List.all_eq_true]
          intro k hk
          have := List.mem_range.mp hk
          exact decide_eq_true (q3 k (by omega) (by omega)).2
        rw [hyes]
        refine k_gp rfl rfl trivial ?_
        refine k_brt rfl (by omega) ?_
        refine k_gp rfl rfl trivial ?_
        exact k_ret rfl (by decide) ⟨rfl, s1, rfl, fun _ k a b => (q3 k a b).1⟩
    · refine J23 _ _ ?_
      unfold tkB
      rw [decide_eq_false (fun z => g2 z.2), Bool.false_and]
end MC
