/-! ===== the reference: small methods ===== -/
section ME
variable {r y : Bool} {w : mm_M}
theorem ev_m_isIn {v lo hi : Int} : mm_Ev K_X10_isIn (0, 0) [.inl v, .inl lo, .inl hi] (PH r y) w (mm_pe (some (.inl (ib (lo ≤ v ∧ v ≤ hi)))) (PH r y) w) := by
  refine ev_intro ok_X10_isIn mo_X10_isIn (Nat.le_of_ble_eq_true rfl) (fun hrg has => ?_)
  repeat' (first
    | refine k_brt rfl (by decide) ?_
    | refine k_brf rfl (by decide) ?_
    | refine k_brz rfl (fun _ => ?_) (fun _ => ?_)
    | refine k_brn rfl (fun _ => ?_) (fun _ => ?_)
    | refine k_br rfl (fun _ => ?_) (fun _ => ?_)
    | refine k_ret rfl ?_ ⟨?_, rfl, rfl⟩
    | refine k_ts rfl rfl ?_ (fun _ => ?_)
    | refine mm_tsc (fun _ => ?_) ?_
    | exact mm_tsn
    | refine k_gp rfl rfl ?_ ?_)
  all_goals (first | trivial | omega | (simp only [true_and]; omega) | (refine congrArg some (congrArg Sum.inl ?_); first | rfl | (rw [ib_t (by omega)]) | (rw [ib_f (by omega)]) | omega))
theorem ev_m_value {all v : Int} (ha : 0 ≤ all ∧ all < 2147483648) (hv : 0 ≤ v ∧ v ≤ 2) : mm_Ev K_X10_value (0, 0) [.inl all, .inl v] (PH r y) w (mm_pe (some (.inl (vl all v))) (PH r y) w) := by
  refine ev_intro ok_X10_value mo_X10_value (Nat.le_of_ble_eq_true rfl) (fun hrg has => ?_)
  repeat' (first
    | refine k_brt rfl (by decide) ?_
    | refine k_brf rfl (by decide) ?_
    | refine k_brz rfl (fun _ => ?_) (fun _ => ?_)
    | refine k_brn rfl (fun _ => ?_) (fun _ => ?_)
    | refine k_br rfl (fun _ => ?_) (fun _ => ?_)
    | refine k_ret rfl ?_ ⟨?_, rfl, rfl⟩
    | refine k_ts rfl rfl ?_ (fun _ => ?_)
    | refine mm_tsc (fun _ => ?_) ?_
    | exact mm_tsn
    | refine k_gp rfl rfl ?_ ?_)
  all_goals (first | trivial | omega | (simp only [true_and]; omega) | (refine congrArg some (congrArg Sum.inl ?_); first | rfl | (rw [ib_t (by omega)]) | (rw [ib_f (by omega)]) | omega) | (rw [vl_eq ha hv]))
/-- variables that there are not have 0 -/
abbrev thr (nv all : Int) : Prop := (0 < nv ∨ vl all 0 = 0) ∧ (1 < nv ∨ vl all 1 = 0) ∧ (2 < nv ∨ vl all 2 = 0)
theorem ev_m_isThere {all : Int} (ha : 0 ≤ all ∧ all < 512) : mm_Ev K_X10_isThere (0, 0) [.inr (some (1, 0)), .inl all] (PH r y) w (mm_pe (some (.inl (ib (thr (w 1 0 4) all)))) (PH r y) w) := by
  refine ev_intro ok_X10_isThere mo_X10_isThere (Nat.le_of_ble_eq_true rfl) (fun hrg has => ?_)
  repeat' (first
    | refine k_brt rfl (by decide) ?_
    | refine k_brf rfl (by decide) ?_
    | refine k_brz rfl (fun _ => ?_) (fun _ => ?_)
    | refine k_brn rfl (fun _ => ?_) (fun _ => ?_)
    | refine k_br rfl (fun _ => ?_) (fun _ => ?_)
    | refine k_ret rfl ?_ ⟨?_, rfl, rfl⟩
    | refine k_callp rfl (ev_m_value ?_ ?_) rfl rfl rfl (by decide) ?_
    | refine k_ts rfl rfl ?_ (fun _ => ?_)
    | refine mm_tsc (fun _ => ?_) ?_
    | exact mm_tsn
    | refine k_gp rfl rfl ?_ ?_)
  all_goals (first | trivial | omega | (simp only [true_and]; omega) | (refine congrArg some (congrArg Sum.inl ?_); first | rfl | (rw [ib_t (by omega)]) | (rw [ib_f (by omega)]) | omega))
/-- a comparison is so -/
abbrev so_ (c : Int → Int → Int) (g all : Int) : Prop := (c g 0 = 0 ∧ vl all (c g 1) < c g 2) ∨ (c g 0 = 1 ∧ vl all (c g 1) = c g 2) ∨ (c g 0 = 2 ∧ vl all (c g 1) < vl all (c g 2)) ∨ (c g 0 = 3 ∧ vl all (c g 1) = vl all (c g 2)) ∨ (¬ (0 ≤ c g 0 ∧ c g 0 ≤ 3) ∧ vl all (c g 1) + vl all (c g 2) < 8)
/-- the reference's comparisons, edges (T as it is now) -/
abbrev m_c (w : mm_M) (g k : Int) : Int := w 4 0 (3 * g + k)
abbrev m_e (w : mm_M) (e k : Int) : Int := if k = 3 then w 6 0 (8 + e) else w 5 0 (7 * e + k)
abbrev cOK (c : Int → Int → Int) (g nv : Int) : Prop := (0 ≤ c g 1 ∧ c g 1 < nv) ∧ (0 ≤ c g 0 ∧ c g 0 ≤ 4) ∧ (0 ≤ c g 2 ∧ c g 2 ≤ 9) ∧ (2 ≤ c g 0 → c g 2 < nv)
theorem ev_m_isSo {g all nv : Int} (ha : 0 ≤ all ∧ all < 512) (hg : 0 ≤ g ∧ g < 8) (hnv : nv ≤ 3) (hc : cOK (m_c w) g nv) : mm_Ev K_X10_isSo (0, 0) [.inr (some (1, 0)), .inl g, .inl all] (PH r y) w (mm_pe (some (.inl (ib (so_ (m_c w) g all)))) (PH r y) w) := by
  refine ev_intro ok_X10_isSo mo_X10_isSo (Nat.le_of_ble_eq_true rfl) (fun hrg has => ?_)
  have e0 : w 4 0 (3 * g + 0) = w 4 0 (3 * g) := by rw [Int.add_zero]
  simp only [cOK, m_c, e0] at hc
  simp only [so_, m_c, e0]
  have v1 := vl_in all (w 4 0 (3 * g + 1))
  have v2 := vl_in all (w 4 0 (3 * g + 2))
  repeat' (first
    | refine k_brt rfl (by decide) ?_
    | refine k_brf rfl (by decide) ?_
    | refine k_brz rfl (fun _ => ?_) (fun _ => ?_)
    | refine k_brn rfl (fun _ => ?_) (fun _ => ?_)
    | refine k_br rfl (fun _ => ?_) (fun _ => ?_)
    | refine k_ret rfl ?_ ⟨?_, rfl, rfl⟩
    | refine k_callp rfl (ev_m_value ?_ ?_) rfl rfl rfl (by decide) ?_
    | refine k_ts rfl rfl ?_ (fun _ => ?_)
    | refine mm_tsc (fun _ => ?_) ?_
    | exact mm_tsn
    | refine k_gp rfl rfl ?_ ?_)
  all_goals (first | trivial | omega | (simp only [true_and]; omega) | (refine congrArg some (congrArg Sum.inl ?_); first | rfl | (rw [ib_t (by omega)]) | (rw [ib_f (by omega)]) | omega))
abbrev p8 (v : Int) : Int := if v = 0 then 64 else if v = 1 then 8 else 1
/-- what the variable becomes by an edge -/
abbrev nw_ (e : Int → Int → Int) (x all : Int) : Int := if e x 4 = 1 then e x 6 else if e x 4 = 2 then vl all (e x 5) + e x 6 else if e x 4 = 3 then vl all (e x 5) - e x 6 else if e x 4 = 4 then vl all (e x 6) else vl all (e x 5) + vl all (e x 6)
/-- where an edge leads, -1 if it can not be gone -/
def go_ (c e : Int → Int → Int) (x all : Int) : Int := if e x 2 ≠ 9 ∧ ¬ (so_ c (e x 2) all ↔ e x 3 = 1) then -1 else if e x 4 = 0 then all else if 0 ≤ nw_ e x all ∧ nw_ e x all ≤ 7 then all + (nw_ e x all - vl all (e x 5)) * p8 (e x 5) else -1
abbrev eOK (e : Int → Int → Int) (x np nc nv : Int) : Prop := (0 ≤ e x 0 ∧ e x 0 < np) ∧ (0 ≤ e x 1 ∧ e x 1 < np) ∧ (e x 2 = 9 ∨ (0 ≤ e x 2 ∧ e x 2 < nc)) ∧ (0 ≤ e x 3 ∧ e x 3 ≤ 1) ∧ (0 ≤ e x 4 ∧ e x 4 ≤ 5) ∧ (e x 4 ≠ 0 → 0 ≤ e x 5 ∧ e x 5 < nv) ∧ (e x 4 = 1 → 0 ≤ e x 6 ∧ e x 6 ≤ 7) ∧ (0 ≤ e x 6 ∧ e x 6 ≤ 9) ∧ (4 ≤ e x 4 → e x 6 < nv)
theorem shl_p8 {d v : Int} (hd : -7 ≤ d ∧ d ≤ 7) (hv : 0 ≤ v ∧ v ≤ 2) : mm_shl d (6 - 3 * v) = d * p8 v := by
  obtain ⟨n, hn⟩ : ∃ n : Nat, d = (n : Int) - 8 := ⟨(d + 8).toNat, by omega⟩
  obtain ⟨u, rfl⟩ : ∃ u : Nat, v = (u : Int) := ⟨v.toNat, by omega⟩
  subst hn
  rw [bb_shlv n (by omega) u (by omega)]
  obtain rfl | rfl | rfl : u = 0 ∨ u = 1 ∨ u = 2 := by omega
  · rfl
  · rfl
  · rfl
theorem ev_m_goes {e all np nc nv : Int} (ha : 0 ≤ all ∧ all < 512) (he : 0 ≤ e ∧ e < 14) (hnv : nv ≤ 3) (hnc : nc ≤ 8) (hc : ∀ g, 0 ≤ g → g < nc → cOK (m_c w) g nv) (hE : eOK (m_e w) e np nc nv) : mm_Ev K_X10_goes (0, 0) [.inr (some (1, 0)), .inl e, .inl all] (PH r y) w (mm_pe (some (.inl (go_ (m_c w) (m_e w) e all))) (PH r y) w) := by
  refine ev_intro ok_X10_goes mo_X10_goes (Nat.le_of_ble_eq_true rfl) (fun hrg has => ?_)
  have v5 := vl_in all (w 5 0 (7 * e + 5))
  have v6 := vl_in all (w 5 0 (7 * e + 6))
  simp only [eOK, m_e] at hE
  have J165 : ∀ nw : Int, w 5 0 (7 * e + 4) ≠ 0 → nw = nw_ (m_e w) e all → -9 ≤ nw ∧ nw ≤ 16 → mm_Wk K_X10_goes (0, 0) 165 [some (.inr (some (1, 0))), some (.inl e), some (.inl all), some (.inl (w 5 0 (7 * e + 2))), some (.inl (w 5 0 (7 * e + 4))), some (.inl (w 5 0 (7 * e + 5))), some (.inl (w 5 0 (7 * e + 6))), some (.inl (vl all (w 5 0 (7 * e + 5)))), none] [.inl nw] (PH r y) w (mm_pe (some (.inl (if 0 ≤ nw ∧ nw ≤ 7 then all + (nw - vl all (w 5 0 (7 * e + 5))) * p8 (w 5 0 (7 * e + 5)) else -1))) (PH r y) w) := fun nw hS hnw hb => by
    have hv : 0 ≤ w 5 0 (7 * e + 5) ∧ w 5 0 (7 * e + 5) ≤ 2 := by omega
    refine k_gp rfl rfl trivial ?_
    refine k_callp rfl ev_m_isIn rfl rfl rfl (by decide) ?_
    refine k_br rfl (fun h => ?_) (fun h => ?_)
    · have h0 : ¬ (0 ≤ nw ∧ nw ≤ 7) := fun q => by rw [ib_t q] at h; cases h
      rw [if_neg h0]
      repeat' (first
        | refine k_brt rfl (by decide) ?_
        | refine k_brf rfl (by decide) ?_
        | refine k_brz rfl (fun _ => ?_) (fun _ => ?_)
        | refine k_brn rfl (fun _ => ?_) (fun _ => ?_)
        | refine k_br rfl (fun _ => ?_) (fun _ => ?_)
        | refine k_ret rfl ?_ ⟨?_, rfl, rfl⟩
        | refine k_ts rfl rfl ?_ (fun _ => ?_)
        | refine mm_tsc (fun _ => ?_) ?_
        | exact mm_tsn
        | refine k_gp rfl rfl ?_ ?_)
      all_goals (first | trivial | omega | (simp only [true_and]; omega) | (refine congrArg some (congrArg Sum.inl ?_); first | rfl | (rw [ib_t (by omega)]) | (rw [ib_f (by omega)]) | omega))
    · have h0 : 0 ≤ nw ∧ nw ≤ 7 := Classical.byContradiction fun q => h (ib_f q)
      rw [if_pos h0]
      have hs := shl_p8 (d := nw - vl all (w 5 0 (7 * e + 5))) (v := w 5 0 (7 * e + 5)) (by omega) hv
      have hp : 1 ≤ p8 (w 5 0 (7 * e + 5)) ∧ p8 (w 5 0 (7 * e + 5)) ≤ 64 := by
        simp only [p8]
        split
        · omega
        · split <;> omega
      have hm : -448 ≤ (nw - vl all (w 5 0 (7 * e + 5))) * p8 (w 5 0 (7 * e + 5)) ∧ (nw - vl all (w 5 0 (7 * e + 5))) * p8 (w 5 0 (7 * e + 5)) ≤ 448 := by
        simp only [p8]
        split
        · omega
        · split <;> omega
      rw [← hs] at hm ⊢
      repeat' (first
        | refine k_brt rfl (by decide) ?_
        | refine k_brf rfl (by decide) ?_
        | refine k_brz rfl (fun _ => ?_) (fun _ => ?_)
        | refine k_brn rfl (fun _ => ?_) (fun _ => ?_)
        | refine k_br rfl (fun _ => ?_) (fun _ => ?_)
        | refine k_ret rfl ?_ ⟨?_, rfl, rfl⟩
        | refine k_ts rfl rfl ?_ (fun _ => ?_)
        | refine mm_tsc (fun _ => ?_) ?_
        | exact mm_tsn
        | refine k_gp rfl rfl ?_ ?_)
      all_goals (first | trivial | omega | (simp only [true_and]; omega) | (refine congrArg some (congrArg Sum.inl ?_); first | rfl | (rw [ib_t (by omega)]) | (rw [ib_f (by omega)]) | omega))
  have J47 : mm_Wk K_X10_goes (0, 0) 47 [some (.inr (some (1, 0))), some (.inl e), some (.inl all), some (.inl (w 5 0 (7 * e + 2))), none, none, none, none, none] [] (PH r y) w (mm_pe (some (.inl (if w 5 0 (7 * e + 4) = 0 then all else if 0 ≤ nw_ (m_e w) e all ∧ nw_ (m_e w) e all ≤ 7 then all + (nw_ (m_e w) e all - vl all (w 5 0 (7 * e + 5))) * p8 (w 5 0 (7 * e + 5)) else -1))) (PH r y) w) := by
    refine k_gp rfl rfl (by simp only [true_and]; omega) ?_
    refine k_br rfl (fun h1 => ?_) (fun h1 => ?_)
    · rw [if_neg h1]
      refine k_gp rfl rfl (by simp only [true_and]; omega) ?_
      refine k_callp rfl (ev_m_value (by omega) (by omega)) rfl rfl rfl (by decide) ?_
      repeat' (first
        | refine J165 _ h1 ?_ ?_
        | refine k_callp rfl (ev_m_value ?_ ?_) rfl rfl rfl (by decide) ?_
        | refine k_br rfl (fun _ => ?_) (fun _ => ?_)
        | refine k_gp rfl rfl ?_ ?_)
      all_goals (first | trivial | omega | (simp only [true_and]; omega) | (simp only [nw_, m_e]; simp only [show ¬ (4 : Int) = 3 by decide, show ¬ (5 : Int) = 3 by decide, show ¬ (6 : Int) = 3 by decide, if_false]; simp [*]))
    · have h1 : w 5 0 (7 * e + 4) = 0 := Classical.byContradiction h1
      rw [if_pos h1]
      repeat' (first
        | refine k_brt rfl (by decide) ?_
        | refine k_brf rfl (by decide) ?_
        | refine k_brz rfl (fun _ => ?_) (fun _ => ?_)
        | refine k_brn rfl (fun _ => ?_) (fun _ => ?_)
        | refine k_br rfl (fun _ => ?_) (fun _ => ?_)
        | refine k_ret rfl ?_ ⟨?_, rfl, rfl⟩
        | refine k_ts rfl rfl ?_ (fun _ => ?_)
        | refine mm_tsc (fun _ => ?_) ?_
        | exact mm_tsn
        | refine k_gp rfl rfl ?_ ?_)
      all_goals (first | trivial | omega | (simp only [true_and]; omega) | (refine congrArg some (congrArg Sum.inl ?_); first | rfl | (rw [ib_t (by omega)]) | (rw [ib_f (by omega)]) | omega))
  have hgo : go_ (m_c w) (m_e w) e all = if w 5 0 (7 * e + 2) ≠ 9 ∧ ¬ (so_ (m_c w) (w 5 0 (7 * e + 2)) all ↔ w 6 0 (8 + e) = 1) then -1 else if w 5 0 (7 * e + 4) = 0 then all else if 0 ≤ nw_ (m_e w) e all ∧ nw_ (m_e w) e all ≤ 7 then all + (nw_ (m_e w) e all - vl all (w 5 0 (7 * e + 5))) * p8 (w 5 0 (7 * e + 5)) else -1 := rfl
  rw [hgo]
  refine k_gp rfl rfl (by simp only [true_and]; omega) ?_
  refine k_br rfl (fun h1 => ?_) (fun h1 => ?_)
  · rw [if_neg (by omega)]
    exact J47
  · refine k_gp rfl rfl trivial ?_
    refine k_callp rfl (ev_m_isSo (nv := nv) ha (by omega) hnv (hc _ (by omega) (by omega))) rfl rfl rfl (by decide) ?_
    by_cases hs : so_ (m_c w) (w 5 0 (7 * e + 2)) all
    · rw [ib_t hs]
      by_cases ht : w 6 0 (8 + e) = 1
      · rw [if_neg (fun q => q.2 ⟨fun _ => ht, fun _ => hs⟩)]
        repeat' (first
          | exact J47
          | refine k_brt rfl (by first | decide | assumption | omega) ?_
          | refine k_brf rfl (by first | decide | assumption | omega) ?_
          | refine k_gp rfl rfl ?_ ?_)
        all_goals (first | trivial | omega | (simp only [true_and]; omega) | (refine congrArg some (congrArg Sum.inl ?_); first | rfl | (rw [ib_t (by omega)]) | (rw [ib_f (by omega)]) | omega))
      · rw [if_pos ⟨by omega, fun q => ht (q.mp hs)⟩]
        repeat' (first
          | refine k_brt rfl (by first | decide | assumption | omega) ?_
          | refine k_brf rfl (by first | decide | assumption | omega) ?_
          | refine k_brz rfl (fun _ => ?_) (fun _ => ?_)
          | refine k_brn rfl (fun _ => ?_) (fun _ => ?_)
          | refine k_br rfl (fun _ => ?_) (fun _ => ?_)
          | refine k_ret rfl ?_ ⟨?_, rfl, rfl⟩
          | refine k_ts rfl rfl ?_ (fun _ => ?_)
          | refine mm_tsc (fun _ => ?_) ?_
          | exact mm_tsn
          | refine k_gp rfl rfl ?_ ?_)
        all_goals (first | trivial | omega | (simp only [true_and]; omega) | (refine congrArg some (congrArg Sum.inl ?_); first | rfl | (rw [ib_t (by omega)]) | (rw [ib_f (by omega)]) | omega))
    · rw [ib_f hs]
      by_cases ht : w 6 0 (8 + e) = 1
      · rw [if_pos ⟨by omega, fun q => hs (q.mpr ht)⟩]
        repeat' (first
          | refine k_brt rfl (by first | decide | assumption | omega) ?_
          | refine k_brf rfl (by first | decide | assumption | omega) ?_
          | refine k_brz rfl (fun _ => ?_) (fun _ => ?_)
          | refine k_brn rfl (fun _ => ?_) (fun _ => ?_)
          | refine k_br rfl (fun _ => ?_) (fun _ => ?_)
          | refine k_ret rfl ?_ ⟨?_, rfl, rfl⟩
          | refine k_ts rfl rfl ?_ (fun _ => ?_)
          | refine mm_tsc (fun _ => ?_) ?_
          | exact mm_tsn
          | refine k_gp rfl rfl ?_ ?_)
        all_goals (first | trivial | omega | (simp only [true_and]; omega) | (refine congrArg some (congrArg Sum.inl ?_); first | rfl | (rw [ib_t (by omega)]) | (rw [ib_f (by omega)]) | omega))
      · rw [if_neg (fun q => q.2 ⟨fun z => absurd z hs, fun z => absurd z ht⟩)]
        repeat' (first
          | exact J47
          | refine k_brt rfl (by first | decide | assumption | omega) ?_
          | refine k_brf rfl (by first | decide | assumption | omega) ?_
          | refine k_gp rfl rfl ?_ ?_)
        all_goals (first | trivial | omega | (simp only [true_and]; omega) | (refine congrArg some (congrArg Sum.inl ?_); first | rfl | (rw [ib_t (by omega)]) | (rw [ib_f (by omega)]) | omega))
end ME
