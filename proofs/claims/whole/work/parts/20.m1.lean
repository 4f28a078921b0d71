/-! ===== the reference: small methods ===== -/
/-- variables that there are not have 0 -/
def thB (nv all : Int) : Bool := decide ((0 < nv ∨ vl all 0 = 0) ∧ (1 < nv ∨ vl all 1 = 0) ∧ (2 < nv ∨ vl all 2 = 0))
/-- a comparison, of kind k, v and x, is so -/
def sB (k v x vx : Int) : Bool := decide ((k = 0 ∧ v < x) ∨ (k = 1 ∧ v = x) ∨ (k = 2 ∧ v < vx) ∨ (k = 3 ∧ v = vx) ∨ (¬ (0 ≤ k ∧ k ≤ 3) ∧ v + vx < 8))
def soB (c : Int → Int → Int) (g all : Int) : Bool := sB (c g 0) (vl all (c g 1)) (c g 2) (vl all (c g 2))
def p8 (v : Int) : Int := if v = 0 then 64 else if v = 1 then 8 else 1
/-- what the variable becomes by an edge -/
def nw_ (e : Int → Int → Int) (x all : Int) : Int := if e x 4 = 1 then e x 6 else if e x 4 = 2 then vl all (e x 5) + e x 6 else if e x 4 = 3 then vl all (e x 5) - e x 6 else if e x 4 = 4 then vl all (e x 6) else vl all (e x 5) + vl all (e x 6)
/-- what an edge does, whatever it asks -/
def gx_ (e : Int → Int → Int) (x all : Int) : Int := if e x 4 = 0 then all else if 0 ≤ nw_ e x all ∧ nw_ e x all ≤ 7 then all + (nw_ e x all - vl all (e x 5)) * p8 (e x 5) else -1
/-- where an edge leads, -1 if it can not be gone -/
def go_ (c e : Int → Int → Int) (x all : Int) : Int := if e x 2 ≠ 9 ∧ soB c (e x 2) all ≠ decide (e x 3 = 1) then -1 else gx_ e x all
/-- a comparison, an edge, as a text may tell it -/
def cOK (c : Int → Int → Int) (g nv : Int) : Prop := (0 ≤ c g 1 ∧ c g 1 < nv) ∧ (0 ≤ c g 0 ∧ c g 0 ≤ 4) ∧ (0 ≤ c g 2 ∧ c g 2 ≤ 9) ∧ (2 ≤ c g 0 → c g 2 < nv)
def eOK (e : Int → Int → Int) (x np nc nv : Int) : Prop := (0 ≤ e x 0 ∧ e x 0 < np) ∧ (0 ≤ e x 1 ∧ e x 1 < np) ∧ (e x 2 = 9 ∨ (0 ≤ e x 2 ∧ e x 2 < nc)) ∧ (0 ≤ e x 3 ∧ e x 3 ≤ 1) ∧ (0 ≤ e x 4 ∧ e x 4 ≤ 5) ∧ (e x 4 ≠ 0 → 0 ≤ e x 5 ∧ e x 5 < nv) ∧ (e x 4 = 1 → 0 ≤ e x 6 ∧ e x 6 ≤ 7) ∧ (0 ≤ e x 6 ∧ e x 6 ≤ 9) ∧ (4 ≤ e x 4 → e x 6 < nv)
/-- the reference's comparisons, edges (T as it is now) -/
def m_c (w : mm_M) (g k : Int) : Int := w 4 0 (3 * g + k)
def m_e (w : mm_M) (e k : Int) : Int := if k = 3 then w 6 0 (8 + ((e.toNat : Nat) : Int)) else w 5 0 (7 * e + k)
theorem m_e3 {w : mm_M} {e : Int} (h : 0 ≤ e) : m_e w e 3 = w 6 0 (8 + e) := by
  unfold m_e
  rw [if_pos rfl, Int.toNat_of_nonneg h]
theorem p8_in (v : Int) : 1 ≤ p8 v ∧ p8 v ≤ 64 := by unfold p8; split; omega; split <;> omega
theorem p8_mul (d v : Int) (hd : -7 ≤ d ∧ d ≤ 7) : -448 ≤ d * p8 v ∧ d * p8 v ≤ 448 := by unfold p8; split; omega; split <;> omega
theorem shl_p8 {d v : Int} (hd : -7 ≤ d ∧ d ≤ 7) (hv : 0 ≤ v ∧ v ≤ 2) : mm_shl d (6 - 3 * v) = d * p8 v := by
  obtain ⟨n, hn⟩ : ∃ n : Nat, d = (n : Int) - 8 := ⟨(d + 8).toNat, by omega⟩
  obtain ⟨u, rfl⟩ : ∃ u : Nat, v = (u : Int) := ⟨v.toNat, by omega⟩
  subst hn
  rw [bb_shlv n (by omega) u (by omega)]
  obtain rfl | rfl | rfl : u = 0 ∨ u = 1 ∨ u = 2 := by omega
  · rfl
  · rfl
  · rfl
section ME
variable {r : Bool × Bool} {y : Bool} {w : mm_M}
theorem ev_m_isIn {v lo hi : Int} : mm_Ev K_X10_isIn (0, 0) [.inl v, .inl lo, .inl hi] (PH r y) w (mm_pe (some (.inl (ib (lo ≤ v ∧ v ≤ hi)))) (PH r y) w) := by
  refine ev_intro ok_X10_isIn mo_X10_isIn (Nat.le_of_ble_eq_true rfl) (fun hrg has => ?_)
  repeat' (first
    | refine k_brt rfl (by decide) ?_
    | refine k_brf rfl (by decide) ?_
    | refine k_brz rfl (fun _ => ?_) (fun _ => ?_)
    | refine k_brn rfl (fun _ => ?_) (fun _ => ?_)
    | refine k_br rfl (fun _ => ?_) (fun _ => ?_)
    | refine k_ret rfl ?_ ⟨?_, rfl, rfl⟩
    | refine k_ts rfl rfl ?_ (fun _ => ?_)
    | refine mm_tsc (fun _ => ?_) ?_
    | exact mm_tsn
    | refine k_gp rfl rfl ?_ ?_)
  all_goals (first | trivial | omega | (simp only [true_and, mm_fits]; omega) | (refine congrArg some (congrArg Sum.inl ?_); first | rfl | (rw [ib_t (by omega)]) | (rw [ib_f (by omega)]) | omega))
theorem ev_m_value {all v : Int} (ha : 0 ≤ all ∧ all < 2147483648) (hv : 0 ≤ v ∧ v ≤ 2) : mm_Ev K_X10_value (0, 0) [.inl all, .inl v] (PH r y) w (mm_pe (some (.inl (vl all v))) (PH r y) w) := by
  refine ev_intro ok_X10_value mo_X10_value (Nat.le_of_ble_eq_true rfl) (fun hrg has => ?_)
  repeat' (first
    | refine k_brt rfl (by decide) ?_
    | refine k_brf rfl (by decide) ?_
    | refine k_brz rfl (fun _ => ?_) (fun _ => ?_)
    | refine k_brn rfl (fun _ => ?_) (fun _ => ?_)
    | refine k_br rfl (fun _ => ?_) (fun _ => ?_)
    | refine k_ret rfl ?_ ⟨?_, rfl, rfl⟩
    | refine k_ts rfl rfl ?_ (fun _ => ?_)
    | refine mm_tsc (fun _ => ?_) ?_
    | exact mm_tsn
    | refine k_gp rfl rfl ?_ ?_)
  all_goals (first | trivial | omega | (simp only [true_and, mm_fits]; omega) | (refine congrArg some (congrArg Sum.inl ?_); first | rfl | (rw [ib_t (by omega)]) | (rw [ib_f (by omega)]) | omega) | (rw [vl_eq ha hv]))
theorem ev_m_isThere {all : Int} (ha : 0 ≤ all ∧ all < 512) : mm_Ev K_X10_isThere (0, 0) [.inr (some (1, 0)), .inl all] (PH r y) w (mm_pe (some (.inl (ib (thB (w 1 0 4) all = true)))) (PH r y) w) := by
  refine ev_intro ok_X10_isThere mo_X10_isThere (Nat.le_of_ble_eq_true rfl) (fun hrg has => ?_)
  simp only [thB, decide_eq_true_eq]
  repeat' (first
    | refine k_brt rfl (by decide) ?_
    | refine k_brf rfl (by decide) ?_
    | refine k_brz rfl (fun _ => ?_) (fun _ => ?_)
    | refine k_brn rfl (fun _ => ?_) (fun _ => ?_)
    | refine k_br rfl (fun _ => ?_) (fun _ => ?_)
    | refine k_ret rfl ?_ ⟨?_, rfl, rfl⟩
    | refine k_callp rfl (ev_m_value ?_ ?_) rfl rfl rfl (by decide) ?_
    | refine k_ts rfl rfl ?_ (fun _ => ?_)
    | refine mm_tsc (fun _ => ?_) ?_
    | exact mm_tsn
    | refine k_gp rfl rfl ?_ ?_)
  all_goals (first | trivial | omega | (simp only [true_and, mm_fits]; omega) | (refine congrArg some (congrArg Sum.inl ?_); first | rfl | (rw [ib_t (by omega)]) | (rw [ib_f (by omega)]) | omega))
theorem ev_m_isSo {g all nv : Int} (ha : 0 ≤ all ∧ all < 512) (hg : 0 ≤ g ∧ g < 8) (hnv : nv ≤ 3) (hc : cOK (m_c w) g nv) : mm_Ev K_X10_isSo (0, 0) [.inr (some (1, 0)), .inl g, .inl all] (PH r y) w (mm_pe (some (.inl (ib (soB (m_c w) g all = true)))) (PH r y) w) := by
  refine ev_intro ok_X10_isSo mo_X10_isSo (Nat.le_of_ble_eq_true rfl) (fun hrg has => ?_)
  have e0 : w 4 0 (3 * g + 0) = w 4 0 (3 * g) := by rw [Int.add_zero]
  simp only [cOK, m_c, e0] at hc
  simp only [soB, sB, m_c, e0, decide_eq_true_eq]
  have v1 := vl_in all (w 4 0 (3 * g + 1))
  have v2 := vl_in all (w 4 0 (3 * g + 2))
  repeat' (first
    | refine k_brt rfl (by decide) ?_
    | refine k_brf rfl (by decide) ?_
    | refine k_brz rfl (fun _ => ?_) (fun _ => ?_)
    | refine k_brn rfl (fun _ => ?_) (fun _ => ?_)
    | refine k_br rfl (fun _ => ?_) (fun _ => ?_)
    | refine k_ret rfl ?_ ⟨?_, rfl, rfl⟩
    | refine k_callp rfl (ev_m_value ?_ ?_) rfl rfl rfl (by decide) ?_
    | refine k_ts rfl rfl ?_ (fun _ => ?_)
    | refine mm_tsc (fun _ => ?_) ?_
    | exact mm_tsn
    | refine k_gp rfl rfl ?_ ?_)
  all_goals (first | trivial | omega | (simp only [true_and, mm_fits]; omega) | (refine congrArg some (congrArg Sum.inl ?_); first | rfl | (rw [ib_t (by omega)]) | (rw [ib_f (by omega)]) | omega))
theorem ev_m_goes {e all np nc nv : Int} (ha : 0 ≤ all ∧ all < 512) (he : 0 ≤ e ∧ e < 14) (hnv : nv ≤ 3) (hnc : nc ≤ 8) (hc : ∀ g, 0 ≤ g → g < nc → cOK (m_c w) g nv) (hE : eOK (m_e w) e np nc nv) : mm_Ev K_X10_goes (0, 0) [.inr (some (1, 0)), .inl e, .inl all] (PH r y) w (mm_pe (some (.inl (go_ (m_c w) (m_e w) e all))) (PH r y) w) := by
  refine ev_intro ok_X10_goes mo_X10_goes (Nat.le_of_ble_eq_true rfl) (fun hrg has => ?_)
  have e2 : m_e w e 2 = w 5 0 (7 * e + 2) := rfl
  have e3 : m_e w e 3 = w 6 0 (8 + e) := m_e3 he.1
  have e4 : m_e w e 4 = w 5 0 (7 * e + 4) := rfl
  have e5 : m_e w e 5 = w 5 0 (7 * e + 5) := rfl
  have e6 : m_e w e 6 = w 5 0 (7 * e + 6) := rfl
  have v5 := vl_in all (w 5 0 (7 * e + 5))
  obtain ⟨-, -, h2, h3, h4, h5, h6, h7, h8⟩ := hE
  rw [e2] at h2
  rw [e3] at h3
  rw [e4] at h4 h5 h6 h8
  rw [e5] at h5
  rw [e6] at h6 h7 h8
  have J165 : ∀ nw : Int, (0 ≤ w 5 0 (7 * e + 5) ∧ w 5 0 (7 * e + 5) ≤ 2) → -9 ≤ nw ∧ nw ≤ 16 → mm_Wk K_X10_goes (0, 0) 165 [some (.inr (some (1, 0))), some (.inl e), some (.inl all), some (.inl (w 5 0 (7 * e + 2))), some (.inl (w 5 0 (7 * e + 4))), some (.inl (w 5 0 (7 * e + 5))), some (.inl (w 5 0 (7 * e + 6))), some (.inl (vl all (w 5 0 (7 * e + 5)))), none] [.inl nw] (PH r y) w (mm_pe (some (.inl (if 0 ≤ nw ∧ nw ≤ 7 then all + (nw - vl all (w 5 0 (7 * e + 5))) * p8 (w 5 0 (7 * e + 5)) else -1))) (PH r y) w) := fun nw hv hb => by
    clear h2 h3 h4 h5 h6 h7 h8
    refine k_gp rfl rfl trivial ?_
    refine k_callp rfl ev_m_isIn rfl rfl rfl (by decide) ?_
    refine k_brz rfl (fun h0 => ?_) (fun h0 => ?_)
    · rw [if_neg h0]
      repeat' (first
        | refine k_brt rfl (by decide) ?_
        | refine k_brf rfl (by decide) ?_
        | refine k_brz rfl (fun _ => ?_) (fun _ => ?_)
        | refine k_brn rfl (fun _ => ?_) (fun _ => ?_)
        | refine k_br rfl (fun _ => ?_) (fun _ => ?_)
        | refine k_ret rfl ?_ ⟨?_, rfl, rfl⟩
        | refine k_ts rfl rfl ?_ (fun _ => ?_)
        | refine mm_tsc (fun _ => ?_) ?_
        | exact mm_tsn
        | refine k_gp rfl rfl ?_ ?_)
      all_goals (first | trivial | omega | (simp only [true_and, mm_fits]; omega) | (refine congrArg some (congrArg Sum.inl ?_); first | rfl | (rw [ib_t (by omega)]) | (rw [ib_f (by omega)]) | omega))
    · rw [if_pos h0]
      have hm := p8_mul (nw - vl all (w 5 0 (7 * e + 5))) (w 5 0 (7 * e + 5)) (by omega)
      rw [← shl_p8 (by omega) hv] at hm ⊢
      repeat' (first
        | refine k_brt rfl (by decide) ?_
        | refine k_brf rfl (by decide) ?_
        | refine k_brz rfl (fun _ => ?_) (fun _ => ?_)
        | refine k_brn rfl (fun _ => ?_) (fun _ => ?_)
        | refine k_br rfl (fun _ => ?_) (fun _ => ?_)
        | refine k_ret rfl ?_ ⟨?_, rfl, rfl⟩
        | refine k_ts rfl rfl ?_ (fun _ => ?_)
        | refine mm_tsc (fun _ => ?_) ?_
        | exact mm_tsn
        | refine k_gp rfl rfl ?_ ?_)
      all_goals (first | trivial | omega | (simp only [true_and, mm_fits]; omega) | (refine congrArg some (congrArg Sum.inl ?_); first | rfl | (rw [ib_t (by omega)]) | (rw [ib_f (by omega)]) | omega))
  have J47 : mm_Wk K_X10_goes (0, 0) 47 [some (.inr (some (1, 0))), some (.inl e), some (.inl all), some (.inl (w 5 0 (7 * e + 2))), none, none, none, none, none] [] (PH r y) w (mm_pe (some (.inl (gx_ (m_e w) e all))) (PH r y) w) := by
    refine k_gp rfl rfl (by clear h2 h3 h4 h5 h6 h7 h8; simp only [true_and]; omega) ?_
    unfold gx_
    rw [e4, e5]
    refine k_br rfl (fun h1 => ?_) (fun h1 => ?_)
    · rw [if_neg h1]
      have hv := h5 h1
      refine k_gp rfl rfl (by clear h2 h3 h4 h5 h6 h7 h8; simp only [true_and]; omega) ?_
      refine k_callp rfl (ev_m_value (by omega) (by omega)) rfl rfl rfl (by decide) ?_
      clear h2 h3 h5
      have hvv : 0 ≤ w 5 0 (7 * e + 5) ∧ w 5 0 (7 * e + 5) ≤ 2 := by omega
      have v6 := vl_in all (w 5 0 (7 * e + 6))
      have key : ∀ nw : Int, nw = nw_ (m_e w) e all → (-9 ≤ nw ∧ nw ≤ 16) → mm_Wk K_X10_goes (0, 0) 165 [some (.inr (some (1, 0))), some (.inl e), some (.inl all), some (.inl (w 5 0 (7 * e + 2))), some (.inl (w 5 0 (7 * e + 4))), some (.inl (w 5 0 (7 * e + 5))), some (.inl (w 5 0 (7 * e + 6))), some (.inl (vl all (w 5 0 (7 * e + 5)))), none] [.inl nw] (PH r y) w (mm_pe (some (.inl (if 0 ≤ nw_ (m_e w) e all ∧ nw_ (m_e w) e all ≤ 7 then all + (nw_ (m_e w) e all - vl all (w 5 0 (7 * e + 5))) * p8 (w 5 0 (7 * e + 5)) else -1))) (PH r y) w) := fun nw q1 q2 => by
        rw [← q1]
        exact J165 nw hvv q2
      have hn : nw_ (m_e w) e all = if w 5 0 (7 * e + 4) = 1 then w 5 0 (7 * e + 6) else if w 5 0 (7 * e + 4) = 2 then vl all (w 5 0 (7 * e + 5)) + w 5 0 (7 * e + 6) else if w 5 0 (7 * e + 4) = 3 then vl all (w 5 0 (7 * e + 5)) - w 5 0 (7 * e + 6) else if w 5 0 (7 * e + 4) = 4 then vl all (w 5 0 (7 * e + 6)) else vl all (w 5 0 (7 * e + 5)) + vl all (w 5 0 (7 * e + 6)) := rfl
      rw [hn] at key ⊢
      clear hn J165
      refine k_gp rfl rfl trivial ?_
      refine k_br rfl (fun g1 => ?_) (fun g1 => ?_)
      · refine k_gp rfl rfl trivial ?_
        refine k_br rfl (fun g2 => ?_) (fun g2 => ?_)
        · refine k_gp rfl rfl trivial ?_
          refine k_br rfl (fun g3 => ?_) (fun g3 => ?_)
          · refine k_gp rfl rfl trivial ?_
            refine k_br rfl (fun g4 => ?_) (fun g4 => ?_)
            · refine k_gp rfl rfl trivial ?_
              refine k_callp rfl (ev_m_value (by omega) (by omega)) rfl rfl rfl (by decide) ?_
              refine k_gp rfl rfl (by simp only [true_and]; omega) ?_
              exact key _ (by rw [if_neg g1, if_neg g2, if_neg g3, if_neg g4]) (by omega)
            · have g4 : w 5 0 (7 * e + 4) = 4 := Classical.byContradiction g4
              refine k_gp rfl rfl trivial ?_
              refine k_callp rfl (ev_m_value (by omega) (by omega)) rfl rfl rfl (by decide) ?_
              refine k_gp rfl rfl trivial ?_
              exact key _ (by rw [if_neg g1, if_neg g2, if_neg g3, if_pos g4]) (by omega)
          · have g3 : w 5 0 (7 * e + 4) = 3 := Classical.byContradiction g3
            refine k_gp rfl rfl (by simp only [true_and]; omega) ?_
            exact key _ (by rw [if_neg g1, if_neg g2, if_pos g3]) (by omega)
        · have g2 : w 5 0 (7 * e + 4) = 2 := Classical.byContradiction g2
          refine k_gp rfl rfl (by simp only [true_and]; omega) ?_
          exact key _ (by rw [if_neg g1, if_pos g2]) (by omega)
      · have g1 : w 5 0 (7 * e + 4) = 1 := Classical.byContradiction g1
        refine k_gp rfl rfl trivial ?_
        exact key _ (by rw [if_pos g1]) (by omega)
    · have h1 : w 5 0 (7 * e + 4) = 0 := Classical.byContradiction h1
      rw [if_pos h1]
      clear J165 h2 h3 h4 h5 h6 h7 h8
      repeat' (first
        | refine k_brt rfl (by decide) ?_
        | refine k_brf rfl (by decide) ?_
        | refine k_brz rfl (fun _ => ?_) (fun _ => ?_)
        | refine k_brn rfl (fun _ => ?_) (fun _ => ?_)
        | refine k_br rfl (fun _ => ?_) (fun _ => ?_)
        | refine k_ret rfl ?_ ⟨?_, rfl, rfl⟩
        | refine k_ts rfl rfl ?_ (fun _ => ?_)
        | refine mm_tsc (fun _ => ?_) ?_
        | exact mm_tsn
        | refine k_gp rfl rfl ?_ ?_)
      all_goals (first | trivial | omega | (simp only [true_and, mm_fits]; omega) | (refine congrArg some (congrArg Sum.inl ?_); first | rfl | (rw [ib_t (by omega)]) | (rw [ib_f (by omega)]) | omega))
  unfold go_
  rw [e2, e3]
  clear J165 h4 h5 h6 h7 h8
  refine k_gp rfl rfl (by simp only [true_and]; omega) ?_
  refine k_br rfl (fun h1 => ?_) (fun h1 => ?_)
  · rw [if_neg (fun q => q.1 (by omega))]
    exact J47
  · refine k_gp rfl rfl trivial ?_
    refine k_callp rfl (ev_m_isSo (nv := nv) ha (by omega) hnv (hc _ (by omega) (by omega))) rfl rfl rfl (by decide) ?_
    refine k_gp rfl rfl (by simp only [true_and]; omega) ?_
    refine k_br rfl (fun ht => ?_) (fun ht => ?_)
    · refine k_gp rfl rfl trivial ?_
      cases hs : soB (m_c w) (w 5 0 (7 * e + 2)) all with
      | true =>
        refine k_brf rfl (by decide) ?_
        rw [if_pos ⟨by omega, by rw [decide_eq_false ht]; decide⟩]
        repeat' (first
          | refine k_brt rfl (by decide) ?_
          | refine k_brf rfl (by decide) ?_
          | refine k_brz rfl (fun _ => ?_) (fun _ => ?_)
          | refine k_brn rfl (fun _ => ?_) (fun _ => ?_)
          | refine k_br rfl (fun _ => ?_) (fun _ => ?_)
          | refine k_ret rfl ?_ ⟨?_, rfl, rfl⟩
          | refine k_ts rfl rfl ?_ (fun _ => ?_)
          | refine mm_tsc (fun _ => ?_) ?_
          | exact mm_tsn
          | refine k_gp rfl rfl ?_ ?_)
        all_goals (first | trivial | omega | (simp only [true_and, mm_fits]; omega) | (refine congrArg some (congrArg Sum.inl ?_); first | rfl | (rw [ib_t (by omega)]) | (rw [ib_f (by omega)]) | omega))
      | false =>
        refine k_brt rfl (by decide) ?_
        rw [if_neg (fun q => q.2 (by rw [decide_eq_false ht]))]
        exact J47
    · have ht : w 6 0 (8 + e) = 1 := Classical.byContradiction ht
      refine k_gp rfl rfl trivial ?_
      cases hs : soB (m_c w) (w 5 0 (7 * e + 2)) all with
      | true =>
        refine k_brt rfl (by decide) ?_
        rw [if_neg (fun q => q.2 (by rw [decide_eq_true ht]))]
        exact J47
      | false =>
        refine k_brf rfl (by decide) ?_
        rw [if_pos ⟨by omega, by rw [decide_eq_true ht]; decide⟩]
        repeat' (first
          | refine k_brt rfl (by decide) ?_
          | refine k_brf rfl (by decide) ?_
          | refine k_brz rfl (fun _ => ?_) (fun _ => ?_)
          | refine k_brn rfl (fun _ => ?_) (fun _ => ?_)
          | refine k_br rfl (fun _ => ?_) (fun _ => ?_)
          | refine k_ret rfl ?_ ⟨?_, rfl, rfl⟩
          | refine k_ts rfl rfl ?_ (fun _ => ?_)
          | refine mm_tsc (fun _ => ?_) ?_
          | exact mm_tsn
          | refine k_gp rfl rfl ?_ ?_)
        all_goals (first | trivial | omega | (simp only [true_and, mm_fits]; omega) | (refine congrArg some (congrArg Sum.inl ?_); first | rfl | (rw [ib_t (by omega)]) | (rw [ib_f (by omega)]) | omega))
end ME
