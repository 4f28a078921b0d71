/-! ===== the reference: public methods without a search ===== -/
/-- the program that is laid is well told -/
def mP (w : mm_M) : Prop := (2 ≤ w 1 0 2 ∧ w 1 0 2 ≤ 8) ∧ (0 ≤ w 1 0 3 ∧ w 1 0 3 < w 1 0 2) ∧ (0 ≤ w 1 0 4 ∧ w 1 0 4 ≤ 3) ∧ (0 ≤ w 1 0 6 ∧ w 1 0 6 ≤ 8) ∧ (0 ≤ w 1 0 8 ∧ w 1 0 8 ≤ 14) ∧ (∀ g, 0 ≤ g → g < w 1 0 6 → cOK (m_c w) g (w 1 0 4)) ∧ (∀ x, 0 ≤ x → x < w 1 0 8 → eOK (m_e w) x (w 1 0 2) (w 1 0 6) (w 1 0 4)) ∧ (∀ p, 0 ≤ p → p < 8 → 0 ≤ w 6 0 p ∧ w 6 0 p < ((2 ^ (w 1 0 6).toNat : Nat) : Int))
theorem mP_255 {w : mm_M} (h : mP w) {p : Int} (h0 : 0 ≤ p) (h1 : p < 8) : 0 ≤ w 6 0 p ∧ w 6 0 p < 256 := by
  have h2 := h.2.2.2.2.2.2.2 p h0 h1
  have h3 : 2 ^ (w 1 0 6).toNat ≤ 2 ^ 8 := Nat.pow_le_pow_right (by decide) (by have := h.2.2.2.1; omega)
  omega
section ME
variable {r : Bool × Bool} {y : Bool} {w : mm_M} {t : Int → Int} {n : Int}
theorem ev_m_edge {e k : Int} (h : mP w) : mm_Ev K_X10_edge (0, 0) [.inr (some (1, 0)), .inl e, .inl k] (PH r y) w (mm_pe (some (.inl (if (0 ≤ e ∧ e < w 1 0 8) ∧ (0 ≤ k ∧ k ≤ 6) then m_e w e k else -1))) (PH r y) w) := by
  refine ev_intro ok_X10_edge mo_X10_edge (Nat.le_of_ble_eq_true rfl) (fun hrg has => ?_)
  have h8 := h.2.2.2.2.1
  refine k_gp rfl rfl trivial ?_
  refine k_callp rfl (ev_m_isEdge h8) rfl rfl rfl (by decide) ?_
  refine k_brz rfl (fun g1 => ?_) (fun g1 => ?_)
  · rw [if_neg (fun q => g1 q.1)]
    repeat' (first
      | refine k_brt rfl (by decide) ?_
      | refine k_brf rfl (by decide) ?_
      | refine k_brz rfl (fun _ => ?_) (fun _ => ?_)
      | refine k_brn rfl (fun _ => ?_) (fun _ => ?_)
      | refine k_br rfl (fun _ => ?_) (fun _ => ?_)
      | refine k_ret rfl ?_ ⟨?_, rfl, rfl⟩
      | refine k_ts rfl rfl ?_ (fun _ => ?_)
      | refine mm_tsc (fun _ => ?_) ?_
      | exact mm_tsn
      | refine k_gp rfl rfl ?_ ?_)
    all_goals (first | trivial | omega | (simp only [true_and, mm_fits]; omega) | (refine congrArg some (congrArg Sum.inl ?_); first | rfl | (rw [ib_t (by omega)]) | (rw [ib_f (by omega)]) | omega))
  · refine k_gp rfl rfl trivial ?_
    refine k_callp rfl ev_m_isIn rfl rfl rfl (by decide) ?_
    refine k_brn rfl (fun g2 => ?_) (fun g2 => ?_)
    · rw [if_pos ⟨g1, g2⟩]
      unfold m_e
      rw [Int.toNat_of_nonneg g1.1]
      refine k_gp rfl rfl trivial ?_
      refine k_br rfl (fun g3 => ?_) (fun g3 => ?_)
      · rw [if_neg g3]
        repeat' (first
          | refine k_brt rfl (by decide) ?_
          | refine k_brf rfl (by decide) ?_
          | refine k_brz rfl (fun _ => ?_) (fun _ => ?_)
          | refine k_brn rfl (fun _ => ?_) (fun _ => ?_)
          | refine k_br rfl (fun _ => ?_) (fun _ => ?_)
          | refine k_ret rfl ?_ ⟨?_, rfl, rfl⟩
          | refine k_ts rfl rfl ?_ (fun _ => ?_)
          | refine mm_tsc (fun _ => ?_) ?_
          | exact mm_tsn
          | refine k_gp rfl rfl ?_ ?_)
        all_goals (first | trivial | omega | (simp only [true_and, mm_fits]; omega) | (refine congrArg some (congrArg Sum.inl ?_); first | rfl | (rw [ib_t (by omega)]) | (rw [ib_f (by omega)]) | omega))
      · rw [if_pos (by omega)]
        repeat' (first
          | refine k_brt rfl (by decide) ?_
          | refine k_brf rfl (by decide) ?_
          | refine k_brz rfl (fun _ => ?_) (fun _ => ?_)
          | refine k_brn rfl (fun _ => ?_) (fun _ => ?_)
          | refine k_br rfl (fun _ => ?_) (fun _ => ?_)
          | refine k_ret rfl ?_ ⟨?_, rfl, rfl⟩
          | refine k_ts rfl rfl ?_ (fun _ => ?_)
          | refine mm_tsc (fun _ => ?_) ?_
          | exact mm_tsn
          | refine k_gp rfl rfl ?_ ?_)
        all_goals (first | trivial | omega | (simp only [true_and, mm_fits]; omega) | (refine congrArg some (congrArg Sum.inl ?_); first | rfl | (rw [ib_t (by omega)]) | (rw [ib_f (by omega)]) | omega))
    · rw [if_neg (fun q => g2 q.2)]
      repeat' (first
        | refine k_brt rfl (by decide) ?_
        | refine k_brf rfl (by decide) ?_
        | refine k_brz rfl (fun _ => ?_) (fun _ => ?_)
        | refine k_brn rfl (fun _ => ?_) (fun _ => ?_)
        | refine k_br rfl (fun _ => ?_) (fun _ => ?_)
        | refine k_ret rfl ?_ ⟨?_, rfl, rfl⟩
        | refine k_ts rfl rfl ?_ (fun _ => ?_)
        | refine mm_tsc (fun _ => ?_) ?_
        | exact mm_tsn
        | refine k_gp rfl rfl ?_ ?_)
      all_goals (first | trivial | omega | (simp only [true_and, mm_fits]; omega) | (refine congrArg some (congrArg Sum.inl ?_); first | rfl | (rw [ib_t (by omega)]) | (rw [ib_f (by omega)]) | omega))
theorem ev_m_so {g a b c : Int} (h : mP w) : mm_Ev K_X10_so (0, 0) [.inr (some (1, 0)), .inl g, .inl a, .inl b, .inl c] (PH r y) w (mm_pe (some (.inl (if (0 ≤ g ∧ g < w 1 0 6) ∧ (0 ≤ a ∧ a ≤ 7) ∧ (0 ≤ b ∧ b ≤ 7) ∧ (0 ≤ c ∧ c ≤ 7) then ib (soB (m_c w) g (64 * a + 8 * b + c) = true) else -1))) (PH r y) w) := by
  refine ev_intro ok_X10_so mo_X10_so (Nat.le_of_ble_eq_true rfl) (fun hrg has => ?_)
  have h6 := h.2.2.2.1
  have h4 := h.2.2.1
  have hc := h.2.2.2.2.2.1 g
  refine k_gp rfl rfl trivial ?_
  refine k_callp rfl (ev_m_isComparison h6) rfl rfl rfl (by decide) ?_
  refine k_brz rfl (fun g1 => ?_) (fun g1 => ?_)
  · rw [if_neg (fun q => g1 q.1)]
    repeat' (first
      | refine k_brt rfl (by decide) ?_
      | refine k_brf rfl (by decide) ?_
      | refine k_brz rfl (fun _ => ?_) (fun _ => ?_)
      | refine k_brn rfl (fun _ => ?_) (fun _ => ?_)
      | refine k_br rfl (fun _ => ?_) (fun _ => ?_)
      | refine k_ret rfl ?_ ⟨?_, rfl, rfl⟩
      | refine k_ts rfl rfl ?_ (fun _ => ?_)
      | refine mm_tsc (fun _ => ?_) ?_
      | exact mm_tsn
      | refine k_gp rfl rfl ?_ ?_)
    all_goals (first | trivial | omega | (simp only [true_and, mm_fits]; omega) | (refine congrArg some (congrArg Sum.inl ?_); first | rfl | (rw [ib_t (by omega)]) | (rw [ib_f (by omega)]) | omega))
  · refine k_gp rfl rfl trivial ?_
    refine k_callp rfl ev_m_areValues rfl rfl rfl (by decide) ?_
    refine k_brn rfl (fun g2 => ?_) (fun g2 => ?_)
    · rw [if_pos ⟨g1, g2⟩]
      refine k_gp rfl rfl (by simp only [true_and, mm_fits]; omega) ?_
      refine k_callp rfl (ev_m_isSo (nv := w 1 0 4) (by omega) (by omega) (by omega) (hc g1.1 g1.2)) rfl rfl rfl (by decide) ?_
      refine k_brz rfl (fun g3 => ?_) (fun g3 => ?_)
      · rw [ib_f g3]
        repeat' (first
          | refine k_brt rfl (by decide) ?_
          | refine k_brf rfl (by decide) ?_
          | refine k_brz rfl (fun _ => ?_) (fun _ => ?_)
          | refine k_brn rfl (fun _ => ?_) (fun _ => ?_)
          | refine k_br rfl (fun _ => ?_) (fun _ => ?_)
          | refine k_ret rfl ?_ ⟨?_, rfl, rfl⟩
          | refine k_ts rfl rfl ?_ (fun _ => ?_)
          | refine mm_tsc (fun _ => ?_) ?_
          | exact mm_tsn
          | refine k_gp rfl rfl ?_ ?_)
        all_goals (first | trivial | omega | (simp only [true_and, mm_fits]; omega) | (refine congrArg some (congrArg Sum.inl ?_); first | rfl | (rw [ib_t (by omega)]) | (rw [ib_f (by omega)]) | omega))
      · rw [ib_t g3]
        repeat' (first
          | refine k_brt rfl (by decide) ?_
          | refine k_brf rfl (by decide) ?_
          | refine k_brz rfl (fun _ => ?_) (fun _ => ?_)
          | refine k_brn rfl (fun _ => ?_) (fun _ => ?_)
          | refine k_br rfl (fun _ => ?_) (fun _ => ?_)
          | refine k_ret rfl ?_ ⟨?_, rfl, rfl⟩
          | refine k_ts rfl rfl ?_ (fun _ => ?_)
          | refine mm_tsc (fun _ => ?_) ?_
          | exact mm_tsn
          | refine k_gp rfl rfl ?_ ?_)
        all_goals (first | trivial | omega | (simp only [true_and, mm_fits]; omega) | (refine congrArg some (congrArg Sum.inl ?_); first | rfl | (rw [ib_t (by omega)]) | (rw [ib_f (by omega)]) | omega))
    · rw [if_neg (fun q => g2 q.2)]
      repeat' (first
        | refine k_brt rfl (by decide) ?_
        | refine k_brf rfl (by decide) ?_
        | refine k_brz rfl (fun _ => ?_) (fun _ => ?_)
        | refine k_brn rfl (fun _ => ?_) (fun _ => ?_)
        | refine k_br rfl (fun _ => ?_) (fun _ => ?_)
        | refine k_ret rfl ?_ ⟨?_, rfl, rfl⟩
        | refine k_ts rfl rfl ?_ (fun _ => ?_)
        | refine mm_tsc (fun _ => ?_) ?_
        | exact mm_tsn
        | refine k_gp rfl rfl ?_ ?_)
      all_goals (first | trivial | omega | (simp only [true_and, mm_fits]; omega) | (refine congrArg some (congrArg Sum.inl ?_); first | rfl | (rw [ib_t (by omega)]) | (rw [ib_f (by omega)]) | omega))
/-- values of variables that there are not are 0 -/
def vls (nv a b c : Int) : Int := (if 0 < nv then 64 * a else 0) + (if 1 < nv then 8 * b else 0) + (if 2 < nv then c else 0)
theorem ev_m_gone {e a b c : Int} (h : mP w) : mm_Ev K_X10_gone (0, 0) [.inr (some (1, 0)), .inl e, .inl a, .inl b, .inl c] (PH r y) w (mm_pe (some (.inl (if (0 ≤ e ∧ e < w 1 0 8) ∧ (0 ≤ a ∧ a ≤ 7) ∧ (0 ≤ b ∧ b ≤ 7) ∧ (0 ≤ c ∧ c ≤ 7) then (if go_ (m_c w) (m_e w) e (vls (w 1 0 4) a b c) < 0 then -2 else go_ (m_c w) (m_e w) e (vls (w 1 0 4) a b c)) else -1))) (PH r y) w) := by
  refine ev_intro ok_X10_gone mo_X10_gone (Nat.le_of_ble_eq_true rfl) (fun hrg has => ?_)
  have h8 := h.2.2.2.2.1
  have h6 := h.2.2.2.1
  have h4 := h.2.2.1
  have hc := h.2.2.2.2.2.1
  have he := h.2.2.2.2.2.2.1 e
  refine k_gp rfl rfl trivial ?_
  refine k_callp rfl (ev_m_isEdge h8) rfl rfl rfl (by decide) ?_
  refine k_brz rfl (fun g1 => ?_) (fun g1 => ?_)
  · rw [if_neg (fun q => g1 q.1)]
    repeat' (first
      | refine k_brt rfl (by decide) ?_
      | refine k_brf rfl (by decide) ?_
      | refine k_brz rfl (fun _ => ?_) (fun _ => ?_)
      | refine k_brn rfl (fun _ => ?_) (fun _ => ?_)
      | refine k_br rfl (fun _ => ?_) (fun _ => ?_)
      | refine k_ret rfl ?_ ⟨?_, rfl, rfl⟩
      | refine k_ts rfl rfl ?_ (fun _ => ?_)
      | refine mm_tsc (fun _ => ?_) ?_
      | exact mm_tsn
      | refine k_gp rfl rfl ?_ ?_)
    all_goals (first | trivial | omega | (simp only [true_and, mm_fits]; omega) | (refine congrArg some (congrArg Sum.inl ?_); first | rfl | (rw [ib_t (by omega)]) | (rw [ib_f (by omega)]) | omega))
  · refine k_gp rfl rfl trivial ?_
    refine k_callp rfl ev_m_areValues rfl rfl rfl (by decide) ?_
    refine k_brn rfl (fun g2 => ?_) (fun g2 => ?_)
    · rw [if_pos ⟨g1, g2⟩]
      have hv : 0 ≤ vls (w 1 0 4) a b c ∧ vls (w 1 0 4) a b c < 512 := by
        unfold vls
        split <;> split <;> split <;> omega
      have fin : ∀ u v, v + u = vls (w 1 0 4) a b c → ∀ l5 l6, mm_Wk K_X10_gone (0, 0) 66 [some (.inr (some (1, 0))), some (.inl e), some (.inl a), some (.inl b), some (.inl c), l5, l6] [.inl u, .inl v] (PH r y) w (mm_pe (some (.inl (if go_ (m_c w) (m_e w) e (vls (w 1 0 4) a b c) < 0 then -2 else go_ (m_c w) (m_e w) e (vls (w 1 0 4) a b c)))) (PH r y) w) := fun u v hz l5 l6 => by
        rw [← hz] at hv ⊢
        refine k_gp rfl rfl (by simp only [true_and, mm_fits]; omega) ?_
        refine k_callp rfl (ev_m_goes (np := w 1 0 2) (nc := w 1 0 6) (nv := w 1 0 4) hv (by omega) (by omega) (by omega) hc (he g1.1 g1.2)) rfl rfl rfl (by decide) ?_
        refine k_gp rfl rfl trivial ?_
        refine k_br rfl (fun g3 => ?_) (fun g3 => ?_)
        · rw [if_neg (by omega)]
          repeat' (first
            | refine k_brt rfl (by decide) ?_
            | refine k_brf rfl (by decide) ?_
            | refine k_brz rfl (fun _ => ?_) (fun _ => ?_)
            | refine k_brn rfl (fun _ => ?_) (fun _ => ?_)
            | refine k_br rfl (fun _ => ?_) (fun _ => ?_)
            | refine k_ret rfl ?_ ⟨?_, rfl, rfl⟩
            | refine k_ts rfl rfl ?_ (fun _ => ?_)
            | refine mm_tsc (fun _ => ?_) ?_
            | exact mm_tsn
            | refine k_gp rfl rfl ?_ ?_)
          all_goals (first | trivial | omega | (simp only [true_and, mm_fits]; omega) | (refine congrArg some (congrArg Sum.inl ?_); first | rfl | (rw [ib_t (by omega)]) | (rw [ib_f (by omega)]) | omega))
        · rw [if_pos (by omega)]
          repeat' (first
            | refine k_brt rfl (by decide) ?_
            | refine k_brf rfl (by decide) ?_
            | refine k_brz rfl (fun _ => ?_) (fun _ => ?_)
            | refine k_brn rfl (fun _ => ?_) (fun _ => ?_)
            | refine k_br rfl (fun _ => ?_) (fun _ => ?_)
            | refine k_ret rfl ?_ ⟨?_, rfl, rfl⟩
            | refine k_ts rfl rfl ?_ (fun _ => ?_)
            | refine mm_tsc (fun _ => ?_) ?_
            | exact mm_tsn
            | refine k_gp rfl rfl ?_ ?_)
          all_goals (first | trivial | omega | (simp only [true_and, mm_fits]; omega) | (refine congrArg some (congrArg Sum.inl ?_); first | rfl | (rw [ib_t (by omega)]) | (rw [ib_f (by omega)]) | omega))
      clear hv hc he h
      repeat' (first
        | refine fin _ _ ?_ _ _
        | refine k_br rfl (fun _ => ?_) (fun _ => ?_)
        | refine k_gp rfl rfl ?_ ?_)
      all_goals (first | trivial | (simp only [true_and]; omega) | (unfold vls; split <;> split <;> split <;> omega))
    · rw [if_neg (fun q => g2 q.2)]
      repeat' (first
        | refine k_brt rfl (by decide) ?_
        | refine k_brf rfl (by decide) ?_
        | refine k_brz rfl (fun _ => ?_) (fun _ => ?_)
        | refine k_brn rfl (fun _ => ?_) (fun _ => ?_)
        | refine k_br rfl (fun _ => ?_) (fun _ => ?_)
        | refine k_ret rfl ?_ ⟨?_, rfl, rfl⟩
        | refine k_ts rfl rfl ?_ (fun _ => ?_)
        | refine mm_tsc (fun _ => ?_) ?_
        | exact mm_tsn
        | refine k_gp rfl rfl ?_ ?_)
      all_goals (first | trivial | omega | (simp only [true_and, mm_fits]; omega) | (refine congrArg some (congrArg Sum.inl ?_); first | rfl | (rw [ib_t (by omega)]) | (rw [ib_f (by omega)]) | omega))
theorem kepA_g {g : Nat} {j k : Int} (h1 : Nat.beq g 1 = false) (h7 : Nat.beq g 7 = false) : kepA w g j k = w g j k := by
  unfold kepA
  split
  · exact (up_g h1).trans (arrw_g h7)
  · rfl
theorem kepA_1 {k : Int} (h : k ≠ 12) : kepA w 1 0 k = w 1 0 k := by
  unfold kepA
  split
  · exact (up_k h).trans (arrw_g rfl)
  · rfl
theorem kepW_sm : sm [(7, none), (1, some 12)] w (kepW w) := by
  unfold kepW kepA
  refine sm_up (sm_arrw ?_ (by decide)) (by decide)
  split
  · exact sm_up (sm_arrw sm_rf (by decide)) (by decide)
  · exact sm_rf
theorem ev_m_turn {e : Int} (h : mP w) (hc : 0 ≤ w 1 0 12 ∧ w 1 0 12 ≤ 6) : mm_Ev K_X10_turn (0, 0) [.inr (some (1, 0)), .inl e] (PH r y) w (mm_pe (some (.inl (if 0 ≤ e ∧ e < w 1 0 8 then (if m_e w e 2 = 9 then -2 else 1 - m_e w e 3) else -1))) (PH r y) (if (0 ≤ e ∧ e < w 1 0 8) ∧ m_e w e 2 ≠ 9 then mm_up (kepW w) 6 0 (8 + e) (1 - m_e w e 3) else w)) := by
  refine ev_intro ok_X10_turn mo_X10_turn (Nat.le_of_ble_eq_true rfl) (fun hrg has => ?_)
  have h8 := h.2.2.2.2.1
  have he := h.2.2.2.2.2.2.1 e
  have e2 : m_e w e 2 = w 5 0 (7 * e + 2) := rfl
  have e3 : 0 ≤ e ∧ e < w 1 0 8 → m_e w e 3 = w 6 0 (8 + e) := fun q => m_e3 q.1
  rw [e2]
  refine k_gp rfl rfl trivial ?_
  refine k_callp rfl (ev_m_isEdge h8) rfl rfl rfl (by decide) ?_
  refine k_brn rfl (fun g1 => ?_) (fun g1 => ?_)
  · have e3 := e3 g1
    rw [if_pos g1, e3]
    have ht := (he g1.1 g1.2).2.2.2.1
    rw [e3] at ht
    refine k_gp rfl rfl (by simp only [true_and, mm_fits]; omega) ?_
    refine k_br rfl (fun g2 => ?_) (fun g2 => ?_)
    · rw [if_neg g2, if_pos ⟨g1, g2⟩]
      refine k_gp rfl rfl trivial ?_
      refine k_callp rfl (ev_m_keeps hc) rfl rfl rfl (by decide) ?_
      have k6 : kepW w 6 0 (8 + e) = w 6 0 (8 + e) := kepW_sm 6 0 _ rfl
      refine k_gp rfl rfl (by simp only [true_and, mm_fits, k6]; omega) ?_
      rw [k6, up_s]
      exact k_ret rfl trivial ⟨rfl, rfl, rfl⟩
    · have g2 : w 5 0 (7 * e + 2) = 9 := Classical.byContradiction g2
      rw [if_pos g2, if_neg (fun q => q.2 g2)]
      repeat' (first
        | refine k_brt rfl (by decide) ?_
        | refine k_brf rfl (by decide) ?_
        | refine k_brz rfl (fun _ => ?_) (fun _ => ?_)
        | refine k_brn rfl (fun _ => ?_) (fun _ => ?_)
        | refine k_br rfl (fun _ => ?_) (fun _ => ?_)
        | refine k_ret rfl ?_ ⟨?_, rfl, rfl⟩
        | refine k_ts rfl rfl ?_ (fun _ => ?_)
        | refine mm_tsc (fun _ => ?_) ?_
        | exact mm_tsn
        | refine k_gp rfl rfl ?_ ?_)
      all_goals (first | trivial | omega | (simp only [true_and, mm_fits]; omega) | (refine congrArg some (congrArg Sum.inl ?_); first | rfl | (rw [ib_t (by omega)]) | (rw [ib_f (by omega)]) | omega))
  · rw [if_neg g1, if_neg (fun q => g1 q.1)]
    repeat' (first
      | refine k_brt rfl (by decide) ?_
      | refine k_brf rfl (by decide) ?_
      | refine k_brz rfl (fun _ => ?_) (fun _ => ?_)
      | refine k_brn rfl (fun _ => ?_) (fun _ => ?_)
      | refine k_br rfl (fun _ => ?_) (fun _ => ?_)
      | refine k_ret rfl ?_ ⟨?_, rfl, rfl⟩
      | refine k_ts rfl rfl ?_ (fun _ => ?_)
      | refine mm_tsc (fun _ => ?_) ?_
      | exact mm_tsn
      | refine k_gp rfl rfl ?_ ?_)
    all_goals (first | trivial | omega | (simp only [true_and, mm_fits]; omega) | (refine congrArg some (congrArg Sum.inl ?_); first | rfl | (rw [ib_t (by omega)]) | (rw [ib_f (by omega)]) | omega))
theorem ev_m_looked {p : Int} (h : mP w) : mm_Ev K_X10_looked (0, 0) [.inr (some (1, 0)), .inl p] (PH r y) w (mm_pe (some (.inl (if 0 ≤ p ∧ p < w 1 0 2 then w 6 0 p else -1))) (PH r y) w) := by
  refine ev_intro ok_X10_looked mo_X10_looked (Nat.le_of_ble_eq_true rfl) (fun hrg has => ?_)
  have h2 := h.1
  refine k_gp rfl rfl trivial ?_
  refine k_callp rfl (ev_m_isPlace (by omega)) rfl rfl rfl (by decide) ?_
  refine k_brz rfl (fun g1 => ?_) (fun g1 => ?_)
  · rw [if_neg g1]
    repeat' (first
      | refine k_brt rfl (by decide) ?_
      | refine k_brf rfl (by decide) ?_
      | refine k_brz rfl (fun _ => ?_) (fun _ => ?_)
      | refine k_brn rfl (fun _ => ?_) (fun _ => ?_)
      | refine k_br rfl (fun _ => ?_) (fun _ => ?_)
      | refine k_ret rfl ?_ ⟨?_, rfl, rfl⟩
      | refine k_ts rfl rfl ?_ (fun _ => ?_)
      | refine mm_tsc (fun _ => ?_) ?_
      | exact mm_tsn
      | refine k_gp rfl rfl ?_ ?_)
    all_goals (first | trivial | omega | (simp only [true_and, mm_fits]; omega) | (refine congrArg some (congrArg Sum.inl ?_); first | rfl | (rw [ib_t (by omega)]) | (rw [ib_f (by omega)]) | omega))
  · rw [if_pos g1]
    repeat' (first
      | refine k_brt rfl (by decide) ?_
      | refine k_brf rfl (by decide) ?_
      | refine k_brz rfl (fun _ => ?_) (fun _ => ?_)
      | refine k_brn rfl (fun _ => ?_) (fun _ => ?_)
      | refine k_br rfl (fun _ => ?_) (fun _ => ?_)
      | refine k_ret rfl ?_ ⟨?_, rfl, rfl⟩
      | refine k_ts rfl rfl ?_ (fun _ => ?_)
      | refine mm_tsc (fun _ => ?_) ?_
      | exact mm_tsn
      | refine k_gp rfl rfl ?_ ?_)
    all_goals (first | trivial | omega | (simp only [true_and, mm_fits]; omega) | (refine congrArg some (congrArg Sum.inl ?_); first | rfl | (rw [ib_t (by omega)]) | (rw [ib_f (by omega)]) | omega))
theorem ev_m_look {p g is : Int} (h : mP w) (hc : 0 ≤ w 1 0 12 ∧ w 1 0 12 ≤ 6) : mm_Ev K_X10_look (0, 0) [.inr (some (1, 0)), .inl p, .inl g, .inl is] (PH r y) w (mm_pe (some (.inl (if (0 ≤ p ∧ p < w 1 0 2) ∧ (0 ≤ g ∧ g < w 1 0 6) ∧ (0 ≤ is ∧ is ≤ 1) then (if w 6 0 p / ((2 ^ g.toNat : Nat) : Int) % 2 = is then -2 else pop8 (mm_xor (w 6 0 p) ((2 ^ g.toNat : Nat) : Int)) 8) else -1))) (PH r y) (if ((0 ≤ p ∧ p < w 1 0 2) ∧ (0 ≤ g ∧ g < w 1 0 6) ∧ (0 ≤ is ∧ is ≤ 1)) ∧ w 6 0 p / ((2 ^ g.toNat : Nat) : Int) % 2 ≠ is then mm_up (kepW w) 6 0 p (mm_xor (w 6 0 p) ((2 ^ g.toNat : Nat) : Int)) else w)) := by
  refine ev_intro ok_X10_look mo_X10_look (Nat.le_of_ble_eq_true rfl) (fun hrg has => ?_)
  have h2 := h.1
  have h6 := h.2.2.2.1
  have hF : ∀ l, ¬ ((0 ≤ p ∧ p < w 1 0 2) ∧ (0 ≤ g ∧ g < w 1 0 6) ∧ (0 ≤ is ∧ is ≤ 1)) → mm_Wk K_X10_look (0, 0) 25 l [] (PH r y) w (mm_pe (some (.inl (if (0 ≤ p ∧ p < w 1 0 2) ∧ (0 ≤ g ∧ g < w 1 0 6) ∧ (0 ≤ is ∧ is ≤ 1) then (if w 6 0 p / ((2 ^ g.toNat : Nat) : Int) % 2 = is then -2 else pop8 (mm_xor (w 6 0 p) ((2 ^ g.toNat : Nat) : Int)) 8) else -1))) (PH r y) (if ((0 ≤ p ∧ p < w 1 0 2) ∧ (0 ≤ g ∧ g < w 1 0 6) ∧ (0 ≤ is ∧ is ≤ 1)) ∧ w 6 0 p / ((2 ^ g.toNat : Nat) : Int) % 2 ≠ is then mm_up (kepW w) 6 0 p (mm_xor (w 6 0 p) ((2 ^ g.toNat : Nat) : Int)) else w)) := fun l q => by
    rw [if_neg q, if_neg (fun z => q z.1)]
    refine k_gp rfl rfl trivial ?_
    exact k_ret rfl trivial ⟨rfl, rfl, rfl⟩
  refine k_gp rfl rfl trivial ?_
  refine k_callp rfl (ev_m_isPlace (by omega)) rfl rfl rfl (by decide) ?_
  refine k_brz rfl (fun g1 => hF _ (fun q => g1 q.1)) (fun g1 => ?_)
  refine k_gp rfl rfl trivial ?_
  refine k_callp rfl (ev_m_isComparison h6) rfl rfl rfl (by decide) ?_
  refine k_brz rfl (fun g2 => hF _ (fun q => g2 q.2.1)) (fun g2 => ?_)
  refine k_gp rfl rfl trivial ?_
  refine k_callp rfl ev_m_isIn rfl rfl rfl (by decide) ?_
  refine k_brn rfl (fun g3 => ?_) (fun g3 => ?_)
  · rw [if_pos ⟨g1, g2, g3⟩]
    have hp := mP_255 h (p := p) g1.1 (by omega)
    refine k_gp rfl rfl (by simp only [true_and, mm_fits]; omega) ?_
    rw [hb_eq (by omega) (by omega)]
    refine k_br rfl (fun g4 => ?_) (fun g4 => ?_)
    · rw [if_neg g4, if_pos ⟨⟨g1, g2, g3⟩, g4⟩]
      refine k_gp rfl rfl trivial ?_
      refine k_callp rfl (ev_m_keeps hc) rfl rfl rfl (by decide) ?_
      have k6 : kepW w 6 0 p = w 6 0 p := kepW_sm 6 0 _ rfl
      refine k_gp rfl rfl (by simp only [true_and, mm_fits]; omega) ?_
      rw [k6, up_s, shl1 (by omega)]
      have hx : 0 ≤ mm_xor (w 6 0 p) ((2 ^ g.toNat : Nat) : Int) ∧ mm_xor (w 6 0 p) ((2 ^ g.toNat : Nat) : Int) < 2147483648 := by
        have h7 : 2 ^ g.toNat ≤ 2 ^ 7 := Nat.pow_le_pow_right (by decide) (by omega)
        have := bb_xor (x := (w 6 0 p).toNat) (y := 2 ^ g.toNat) (by omega) (by omega)
        rw [show (((w 6 0 p).toNat : Nat) : Int) = w 6 0 p by omega] at this
        rw [this]
        have := Nat.xor_lt_two_pow (n := 8) (x := (w 6 0 p).toNat) (y := 2 ^ g.toNat) (by omega) (by omega)
        omega
      refine k_callp rfl (ev_m_bits hx) rfl rfl rfl (by decide) ?_
      exact k_ret rfl trivial ⟨rfl, rfl, rfl⟩
    · have g4 : w 6 0 p / ((2 ^ g.toNat : Nat) : Int) % 2 = is := Classical.byContradiction g4
      rw [if_pos g4, if_neg (fun q => q.2 g4)]
      repeat' (first
        | refine k_brt rfl (by decide) ?_
        | refine k_brf rfl (by decide) ?_
        | refine k_brz rfl (fun _ => ?_) (fun _ => ?_)
        | refine k_brn rfl (fun _ => ?_) (fun _ => ?_)
        | refine k_br rfl (fun _ => ?_) (fun _ => ?_)
        | refine k_ret rfl ?_ ⟨?_, rfl, rfl⟩
        | refine k_ts rfl rfl ?_ (fun _ => ?_)
        | refine mm_tsc (fun _ => ?_) ?_
        | exact mm_tsn
        | refine k_gp rfl rfl ?_ ?_)
      all_goals (first | trivial | omega | (simp only [true_and, mm_fits]; omega) | (refine congrArg some (congrArg Sum.inl ?_); first | rfl | (rw [ib_t (by omega)]) | (rw [ib_f (by omega)]) | omega))
  · exact hF _ (fun q => g3 q.2.2)
end ME
