/-! ===== the reference: an item, the whole text ===== -/
section ME
variable {r : Bool × Bool} {y : Bool} {w : mm_M} {t : Int → Int} {n : Int}
theorem all_s {f : Nat → Bool} {i : Int} (hi : 0 ≤ i) : (List.range (i + 1).toNat).all f = ((List.range i.toNat).all f && f i.toNat) := by
  rw [show (i + 1).toNat = i.toNat + 1 by omega, List.range_succ, List.all_append]
  simp
theorem ev_m_readsItem {l p : Int} {T : TS} (hX : TX w t n) (hR : TR w T) (hB : TB T) (hp : 0 ≤ p ∧ p < 250) (hpos : p = 1 ↔ T.1.1 = 0) : mm_Ev K_X10_readsItem (0, 0) [.inr (some (1, 0)), .inl l, .inl p] (PH r y) w (fun a b' w' => a = some (.inl (ib (rdB T t n l p = true))) ∧ b' = PH r y ∧ sm rdL w w' ∧ (rdB T t n l p = true → TR w' (itT T l (fun k => fig t n (p + k))))) := by
  refine ev_intro ok_X10_readsItem mo_X10_readsItem (Nat.le_of_ble_eq_true rfl) (fun hrg has => ?_)
  have hd := due_in l
  have eR := hR.1
  have eV := hR.2.2.1
  have eC := hR.2.2.2.1
  have eE := hR.2.2.2.2.1
  -- behind the test of the figures
  have J67 : ∀ s : Bool, (s = ((decide (0 < due l) && decide (l = 112 ∨ 0 < T.1.1)) && (List.range (due l).toNat).all (fun k : Nat => decide (0 ≤ fig t n (p + k))))) → ∀ k5, mm_Wk K_X10_readsItem (0, 0) 67 [some (.inr (some (1, 0))), some (.inl l), some (.inl p), some (.inl (due l)), some (.inl (ib (s = true))), k5] [] (PH r y) w (fun a b' w' => a = some (.inl (ib (rdB T t n l p = true))) ∧ b' = PH r y ∧ sm rdL w w' ∧ (rdB T t n l p = true → TR w' (itT T l (fun k => fig t n (p + k))))) := fun s hs k5 => by
    have hrd : rdB T t n l p = (s && itB T l (fun k => fig t n (p + k))) := by unfold rdB; rw [← Bool.and_assoc, ← hs]
    refine k_gp rfl rfl trivial ?_
    cases s with
    | false =>
      refine k_brf rfl (by decide) ?_
      refine k_gp rfl rfl trivial ?_
      refine k_ret rfl (by omega) ⟨?_, rfl, sm_rf, fun q => ?_⟩
      · rw [hrd]; rfl
      · rw [hrd] at q; cases q
    | true =>
      rw [Bool.true_and] at hrd
      have h1 := hs.symm
      rw [Bool.and_eq_true, Bool.and_eq_true] at h1
      obtain ⟨⟨h1, h2⟩, h3⟩ := h1
      have h1 := of_decide_eq_true h1
      have h2 := of_decide_eq_true h2
      rw [List.all_eq_true] at h3
      have hf : ∀ k : Int, 0 ≤ k → k < due l → 0 ≤ fig t n (p + k) := fun k a b => by
        have := of_decide_eq_true (h3 k.toNat (List.mem_range.mpr (by omega)))
        rw [show ((k.toNat : Nat) : Int) = k by omega] at this
        exact this
      rw [hrd]
      refine k_brt rfl (by decide) ?_
      refine k_gp rfl rfl trivial ?_
      obtain ⟨rfl, hdl⟩ | ⟨rfl, hdl⟩ | ⟨rfl, hdl⟩ | ⟨rfl, hdl⟩ := due_cases h1
      · refine k_lsw rfl rfl rfl (by decide) ?_
        refine k_gp rfl rfl trivial ?_
        refine k_call0 rfl (ev_m_readsPlaces (t := t) (n := n) hX (by omega)) rfl rfl rfl (by decide) ?_
        intro a b' w' hq
        obtain ⟨rfl, rfl, hw⟩ := hq
        have e : itB T 112 (fun k => fig t n (p + k)) = decide (rp_c w t n p) := by
          unfold itB
          rw [if_pos rfl]
          refine decide_eq_decide.mpr ?_
          simp only [Int.add_zero, rp_c, hpos]
        refine k_ret rfl (ib_in _) ⟨?_, rfl, ?_, ?_⟩
        · rw [e]; simp only [decide_eq_true_eq]
        · rw [hw]; split
          · exact sm_up (sm_up sm_rf (by decide)) (by decide)
          · exact sm_rf
        · intro q
          rw [e] at q
          rw [if_pos (of_decide_eq_true q)] at hw
          exact TR_p hR hB (by rw [hw]; simp only [Int.add_zero])
      · refine k_lsw rfl rfl rfl (by decide) ?_
        refine k_gp rfl rfl trivial ?_
        refine k_call0 rfl (ev_m_readsVariable (t := t) (n := n) hX (by omega) (by rw [eV]; exact hB.2.1)) rfl rfl rfl (by decide) ?_
        intro a b' w' hq
        obtain ⟨rfl, rfl, hw⟩ := hq
        have e : itB T 118 (fun k => fig t n (p + k)) = decide (rv_c w t n p) := by
          unfold itB
          rw [if_neg (by decide), if_neg (by omega), if_pos rfl]
          refine decide_eq_decide.mpr ?_
          simp only [Int.add_zero, rv_c, eV]
          have := hB.2.1
          exact ⟨fun q => ⟨by omega, q.2⟩, fun q => ⟨by omega, q.2⟩⟩
        refine k_ret rfl (ib_in _) ⟨?_, rfl, ?_, ?_⟩
        · rw [e]; simp only [decide_eq_true_eq]
        · rw [hw]; split
          · exact sm_up (sm_up (sm_up sm_rf (Or.inl (by decide))) (Or.inl (by decide))) (by decide)
          · exact sm_rf
        · intro q
          rw [e] at q
          rw [if_pos (of_decide_eq_true q)] at hw
          exact TR_v hR hB (by rw [hw]; simp only [Int.add_zero])
      · refine k_lsw rfl rfl rfl (by decide) ?_
        refine k_gp rfl rfl trivial ?_
        refine k_call0 rfl (ev_m_readsComparison (t := t) (n := n) hX (by omega) (by rw [eC]; exact hB.2.2.1)) rfl rfl rfl (by decide) ?_
        intro a b' w' hq
        obtain ⟨rfl, rfl, hw⟩ := hq
        have e : itB T 99 (fun k => fig t n (p + k)) = decide (rc_c w t n p) := by
          unfold itB
          rw [if_neg (by decide), if_neg (by omega), if_neg (by decide), if_pos rfl]
          refine decide_eq_decide.mpr ?_
          simp only [Int.add_zero, rc_c, eV, eC]
          have := hB.2.2.1
          exact ⟨fun q => ⟨by omega, q.2⟩, fun q => ⟨by omega, q.2⟩⟩
        refine k_ret rfl (ib_in _) ⟨?_, rfl, ?_, ?_⟩
        · rw [e]; simp only [decide_eq_true_eq]
        · rw [hw]; split
          · exact sm_up (sm_arrw sm_rf (by decide)) (by decide)
          · exact sm_rf
        · intro q
          rw [e] at q
          rw [if_pos (of_decide_eq_true q)] at hw
          exact TR_c hR hB hw
      · refine k_lsw rfl rfl rfl (by decide) ?_
        refine k_gp rfl rfl trivial ?_
        refine k_call0 rfl (ev_m_readsEdge (t := t) (n := n) hX (by omega) (by rw [eE]; exact hB.2.2.2)) rfl rfl rfl (by decide) ?_
        intro a b' w' hq
        obtain ⟨rfl, rfl, hw⟩ := hq
        have e : itB T 101 (fun k => fig t n (p + k)) = re_c w t n p := by
          unfold itB re_c
          rw [if_neg (by decide), if_neg (by omega), if_neg (by decide), if_neg (by decide)]
          simp only [Int.add_zero, eV, eC, eE, eR]
        refine k_ret rfl (ib_in _) ⟨?_, rfl, ?_, ?_⟩
        · rw [e]
        · rw [hw]; split
          · exact sm_up (sm_arrw sm_rf (by decide)) (by decide)
          · exact sm_rf
        · intro q
          rw [e] at q
          rw [if_pos q] at hw
          exact TR_e hR hB hw
  have J27 : ∀ s0 : Bool, s0 = (decide (0 < due l) && decide (l = 112 ∨ 0 < T.1.1)) → mm_Wk K_X10_readsItem (0, 0) 27 [some (.inr (some (1, 0))), some (.inl l), some (.inl p), some (.inl (due l)), none, none] [.inl (ib (s0 = true))] (PH r y) w (fun a b' w' => a = some (.inl (ib (rdB T t n l p = true))) ∧ b' = PH r y ∧ sm rdL w w' ∧ (rdB T t n l p = true → TR w' (itT T l (fun k => fig t n (p + k))))) := fun s0 hs0 => by
    refine k_gp rfl rfl trivial ?_
    refine mm_loop (σ := Bool) (due l) (fun i s => (0 ≤ i ∧ i ≤ due l) ∧ s = (s0 && (List.range i.toNat).all (fun k : Nat => decide (0 ≤ fig t n (p + k))))) (fun i s => mm_Wk K_X10_readsItem (0, 0) 32 [some (.inr (some (1, 0))), some (.inl l), some (.inl p), some (.inl (due l)), some (.inl (ib (s = true))), some (.inl i)] [] (PH r y) w (fun a b' w' => a = some (.inl (ib (rdB T t n l p = true))) ∧ b' = PH r y ∧ sm rdL w w' ∧ (rdB T t n l p = true → TR w' (itT T l (fun k => fig t n (p + k)))))) ?_ ?_ 0 s0 ⟨by omega, by simp⟩
    · intro i s h1 h2 ih
      obtain ⟨h2, h3⟩ := h2
      have e2 : ∀ s', s' = (s && decide (0 ≤ fig t n (p + i))) → _ := fun s' hs' => ih s' ⟨by omega, by
        rw [all_s (by omega), ← Bool.and_assoc, ← h3, hs']
        simp only [show ((i.toNat : Nat) : Int) = i by omega]⟩
      refine k_gp rfl rfl trivial ?_
      refine k_brf rfl (by omega) ?_
      refine k_gp rfl rfl trivial ?_
      refine k_brz rfl (fun g1 => ?_) (fun g1 => ?_)
      · refine k_gp rfl rfl trivial ?_
        refine k_gp rfl rfl (by simp only [true_and, mm_fits]; omega) ?_
        exact e2 false (by simp at g1; simp [g1])
      · refine k_gp rfl rfl (by simp only [true_and, mm_fits]; omega) ?_
        refine k_callp rfl (ev_m_figure hX (by omega)) rfl rfl rfl (by decide) ?_
        refine k_br rfl (fun g2 => ?_) (fun g2 => ?_)
        · refine k_gp rfl rfl trivial ?_
          refine k_gp rfl rfl (by simp only [true_and, mm_fits]; omega) ?_
          exact e2 false (by rw [decide_eq_false (by omega)]; simp)
        · refine k_gp rfl rfl trivial ?_
          refine k_gp rfl rfl (by simp only [true_and, mm_fits]; omega) ?_
          exact e2 true (by rw [decide_eq_true (by omega), g1]; rfl)
    · intro i s h1 h2
      obtain ⟨h2, h3⟩ := h2
      refine k_gp rfl rfl trivial ?_
      refine k_brt rfl (by omega) ?_
      exact J67 s (by rw [h3, hs0, show i = due l by omega]) _
  refine k_gp rfl rfl trivial ?_
  refine k_callp rfl ev_m_figuresOf rfl rfl rfl (by decide) ?_
  refine k_gp rfl rfl trivial ?_
  refine k_br rfl (fun g1 => ?_) (fun g1 => ?_)
  · refine k_gp rfl rfl trivial ?_
    exact J27 false (by rw [decide_eq_false (by omega)]; rfl)
  · rw [decide_eq_true (show 0 < due l by omega), Bool.true_and] at J27
    refine k_gp rfl rfl trivial ?_
    refine k_br rfl (fun g2 => ?_) (fun g2 => ?_)
    · refine k_gp rfl rfl trivial ?_
      exact J27 true (by rw [decide_eq_true (Or.inl g2)])
    · refine k_gp rfl rfl trivial ?_
      refine k_br rfl (fun g3 => ?_) (fun g3 => ?_)
      · refine k_gp rfl rfl trivial ?_
        exact J27 false (by rw [decide_eq_false (by omega)])
      · refine k_gp rfl rfl trivial ?_
        exact J27 true (by rw [decide_eq_true (Or.inr (by omega))])
theorem itB_np {T : TS} {l : Int} {f : Int → Int} (h : itB T l f = true) : l = 112 ∨ T.1.1 ≠ 0 := by
  unfold itB at h
  split at h
  · exact Or.inl (by assumption)
  · split at h
    · cases h
    · exact Or.inr (by assumption)
theorem itT_np {T : TS} {l : Int} {f : Int → Int} (h : itB T l f = true) : (itT T l f).1.1 ≠ 0 := by
  have h0 := itB_np h
  unfold itT
  split
  · rename_i hl
    unfold itB at h
    rw [if_pos hl] at h
    have := of_decide_eq_true h
    show f 0 ≠ 0
    omega
  · rename_i hl
    have h1 : T.1.1 ≠ 0 := h0.resolve_left hl
    split
    · exact h1
    · split <;> exact h1
theorem okB_rd {T : TS} {p : Int} (hB : TB T) : okB T t n p = (rdB T t n (t p) (p + 1) && decide (p + 1 + due (t p) < n ∧ t (p + 1 + due (t p)) = 59)) := by
  unfold okB rdB
  cases hi : itB T (t p) (fun k => fig t n (p + 1 + k)) with
  | false => simp
  | true =>
    have h1 : t p = 112 ∨ 0 < T.1.1 := by
      have := itB_np hi
      have := hB.1
      omega
    rw [decide_eq_true h1]
    simp [Bool.and_assoc]
theorem ev_m_reads (hX : TX w t n) : mm_Ev K_X10_reads (0, 0) [.inr (some (1, 0))] (PH r y) w (fun a b' w' => a = some (.inl (prs t n 201 0 T0).1) ∧ b' = PH r y ∧ sm rdL w w' ∧ ((prs t n 201 0 T0).1 = -4 → TR w' (prs t n 201 0 T0).2 ∧ TB (prs t n 201 0 T0).2)) := by
  refine ev_intro ok_X10_reads mo_X10_reads (Nat.le_of_ble_eq_true rfl) (fun hrg has => ?_)
  have hn := hX.2.2
  have LP : ∀ (k : Nat) (p : Int) (w1 : mm_M) (T : TS), (n - p).toNat < k → 0 ≤ p → TR w1 T → TB T → (p = 0 ↔ T.1.1 = 0) → sm rdL w w1 → ∀ l2, mm_Wk K_X10_reads (0, 0) 22 [some (.inr (some (1, 0))), some (.inl p), l2] [] (PH r y) w1 (fun a b' w' => a = some (.inl (prs t n k p T).1) ∧ b' = PH r y ∧ sm rdL w w' ∧ ((prs t n k p T).1 = -4 → TR w' (prs t n k p T).2 ∧ TB (prs t n k p T).2)) := by
    intro k
    induction k with
    | zero => intro p w1 T h; omega
    | succ k ih =>
      intro p w1 T hk h0 hR hB hpos hs l2
      have hX1 : TX w1 t n := TX_sm hX hs (fun _ => rfl) rfl
      have hr := hX1.1 p
      have hl := hX1.2.1
      have hd := due_in (t p)
      have hprs : prs t n (k + 1) p T = if n ≤ p then (-4, T) else if okB T t n p = true then prs t n k (p + due (t p) + 2) (itT T (t p) (fun k => fig t n (p + 1 + k))) else (p, T) := rfl
      rw [hprs]
      refine k_gp rfl rfl trivial ?_
      refine k_br rfl (fun g1 => ?_) (fun g1 => ?_)
      · rw [if_pos (by omega)]
        refine k_gp rfl rfl trivial ?_
        exact k_ret rfl trivial ⟨rfl, rfl, hs, fun _ => ⟨hR, hB⟩⟩
      · rw [if_neg (by omega), okB_rd hB]
        have fF : ∀ w2, sm rdL w w2 → ∀ l2, mm_Wk K_X10_reads (0, 0) 79 [some (.inr (some (1, 0))), some (.inl p), l2] [] (PH r y) w2 (fun a b' w' => a = some (.inl p) ∧ b' = PH r y ∧ sm rdL w w' ∧ (p = -4 → TR w' T ∧ TB T)) := fun w2 hs2 l2 => by
          refine k_gp rfl rfl trivial ?_
          exact k_ret rfl trivial ⟨rfl, rfl, hs2, fun q => by omega⟩
        refine k_gp rfl rfl (by simp only [true_and, mm_fits]; omega) ?_
        rw [hr]
        refine k_callp rfl ev_m_figuresOf rfl rfl rfl (by decide) ?_
        refine k_gp rfl rfl (by simp only [true_and, mm_fits]; omega) ?_
        rw [hr]
        refine k_call0 rfl (ev_m_readsItem (t := t) (n := n) (T := T) hX1 hR hB (by omega) (by rw [← hpos]; omega)) rfl rfl rfl (by decide) ?_
        rintro a b' w2 ⟨rfl, rfl, hs2, hT2⟩
        have hs2 := sm_tr hs hs2
        have hX2 : TX w2 t n := TX_sm hX hs2 (fun _ => rfl) rfl
        have hl2 := hX2.2.1
        refine k_brz rfl (fun g2 => ?_) (fun g2 => ?_)
        · rw [if_neg (fun q => g2 (by rw [Bool.and_eq_true] at q; exact q.1))]
          exact fF w2 hs2 _
        · rw [g2, Bool.true_and]
          refine k_gp rfl rfl trivial ?_
          refine k_br rfl (fun g3 => ?_) (fun g3 => ?_)
          · rw [if_neg (fun q => by have := of_decide_eq_true q; omega)]
            exact fF w2 hs2 _
          · refine k_gp rfl rfl (by simp only [true_and, mm_fits]; omega) ?_
            rw [hX2.1]
            refine k_br rfl (fun g4 => ?_) (fun g4 => ?_)
            · rw [if_pos (decide_eq_true ⟨by omega, g4⟩)]
              have hit : itB T (t p) (fun k => fig t n (p + 1 + k)) = true := by
                unfold rdB at g2
                rw [Bool.and_eq_true, Bool.and_eq_true] at g2
                have := g2.2
                rw [Bool.and_eq_true] at this
                exact this.2
              have hdp : 0 < due (t p) := by
                unfold rdB at g2
                rw [Bool.and_eq_true, Bool.and_eq_true] at g2
                exact of_decide_eq_true g2.1.1
              refine k_gp rfl rfl (by simp only [true_and, mm_fits]; omega) ?_
              rw [show p + 1 + due (t p) + 1 = p + due (t p) + 2 by omega]
              exact ih _ w2 _ (by omega) (by omega) (hT2 g2) (TB_it hB hit) ⟨fun q => by omega, fun q => absurd q (itT_np hit)⟩ hs2 _
            · rw [if_neg (fun q => g4 (of_decide_eq_true q).2)]
              exact fF w2 hs2 _
  refine k_gp rfl rfl trivial ?_
  refine LP 201 0 _ T0 (by omega) (by omega) ⟨?_, fun q => absurd rfl q, ?_, ?_, ?_, fun k a b => ?_, fun g k a b => ?_, fun x k a b => ?_⟩ ⟨Or.inl rfl, by decide, by decide, by decide⟩ ⟨fun _ => rfl, fun _ => rfl⟩ (sm_up (sm_up (sm_up (sm_up sm_rf (by decide)) (by decide)) (by decide)) (by decide)) _
  · exact (up_k (by decide)).trans ((up_k (by decide)).trans ((up_k (by decide)).trans up_s))
  · exact (up_k (by decide)).trans ((up_k (by decide)).trans up_s)
  · exact (up_k (by decide)).trans up_s
  · exact up_s
  · have b : k < 2 * 0 := b
    omega
  · have b : g < 0 := b
    omega
  · have b : x < 0 := b
    omega
theorem ev_m_fault (hX : TX w t n) : mm_Ev K_X10_fault (0, 0) [.inr (some (1, 0))] (PH r y) w (fun a b' w' => a = some (.inl (prs t n 201 0 T0).1) ∧ b' = PH r y ∧ sm rdL w w') := by
  refine ev_intro ok_X10_fault mo_X10_fault (Nat.le_of_ble_eq_true rfl) (fun hrg has => ?_)
  refine k_gp rfl rfl trivial ?_
  refine k_call0 rfl (ev_m_reads hX) rfl rfl rfl (by decide) ?_
  rintro a b' w2 ⟨rfl, rfl, hs2, hT2⟩
  exact k_ret rfl trivial ⟨rfl, rfl, hs2⟩
theorem ev_m_write {l : Int} (hn : 0 ≤ w 1 0 0 ∧ w 1 0 0 ≤ 200) : mm_Ev K_X10_write (0, 0) [.inr (some (1, 0)), .inl l] (PH r y) w (mm_pe (some (.inl (if l < 32 ∨ l > 126 then -1 else if w 1 0 0 = 200 then -3 else w 1 0 0 + 1))) (PH r y) (if l < 32 ∨ l > 126 ∨ w 1 0 0 = 200 then w else mm_up (mm_up w 2 0 (w 1 0 0) l) 1 0 0 (w 1 0 0 + 1))) := by
  refine ev_intro ok_X10_write mo_X10_write (Nat.le_of_ble_eq_true rfl) (fun hrg has => ?_)
  refine k_gp rfl rfl trivial ?_
  refine k_br rfl (fun g1 => ?_) (fun g1 => ?_)
  · rw [if_pos (by omega), if_pos (by omega)]
    repeat' (first
      | refine k_brt rfl (by decide) ?_
      | refine k_brf rfl (by decide) ?_
      | refine k_brz rfl (fun _ => ?_) (fun _ => ?_)
      | refine k_brn rfl (fun _ => ?_) (fun _ => ?_)
      | refine k_br rfl (fun _ => ?_) (fun _ => ?_)
      | refine k_ret rfl ?_ ⟨?_, rfl, rfl⟩
      | refine k_ts rfl rfl ?_ (fun _ => ?_)
      | refine mm_tsc (fun _ => ?_) ?_
      | exact mm_tsn
      | refine k_gp rfl rfl ?_ ?_)
    all_goals (first | trivial | omega | (simp only [true_and, mm_fits]; omega) | (refine congrArg some (congrArg Sum.inl ?_); first | rfl | (rw [ib_t (by omega)]) | (rw [ib_f (by omega)]) | omega))
  · refine k_gp rfl rfl trivial ?_
    refine k_br rfl (fun g2 => ?_) (fun g2 => ?_)
    · refine k_gp rfl rfl trivial ?_
      rw [if_neg (by omega)]
      refine k_br rfl (fun g3 => ?_) (fun g3 => ?_)
      · rw [if_neg g3, if_neg (by omega)]
        have e1 : ∀ k, mm_up w 2 0 (w 1 0 0) l 1 0 k = w 1 0 k := fun k => up_g rfl
        refine k_gp rfl rfl (by simp only [true_and, mm_fits, e1]; omega) ?_
        simp only [e1, up_s]
        exact k_ret rfl trivial ⟨rfl, rfl, rfl⟩
      · rw [if_pos (by omega), if_pos (by omega)]
        repeat' (first
          | refine k_brt rfl (by decide) ?_
          | refine k_brf rfl (by decide) ?_
          | refine k_brz rfl (fun _ => ?_) (fun _ => ?_)
          | refine k_brn rfl (fun _ => ?_) (fun _ => ?_)
          | refine k_br rfl (fun _ => ?_) (fun _ => ?_)
          | refine k_ret rfl ?_ ⟨?_, rfl, rfl⟩
          | refine k_ts rfl rfl ?_ (fun _ => ?_)
          | refine mm_tsc (fun _ => ?_) ?_
          | exact mm_tsn
          | refine k_gp rfl rfl ?_ ?_)
        all_goals (first | trivial | omega | (simp only [true_and, mm_fits]; omega) | (refine congrArg some (congrArg Sum.inl ?_); first | rfl | (rw [ib_t (by omega)]) | (rw [ib_f (by omega)]) | omega))
    · rw [if_pos (by omega), if_pos (by omega)]
      repeat' (first
        | refine k_brt rfl (by decide) ?_
        | refine k_brf rfl (by decide) ?_
        | refine k_brz rfl (fun _ => ?_) (fun _ => ?_)
        | refine k_brn rfl (fun _ => ?_) (fun _ => ?_)
        | refine k_br rfl (fun _ => ?_) (fun _ => ?_)
        | refine k_ret rfl ?_ ⟨?_, rfl, rfl⟩
        | refine k_ts rfl rfl ?_ (fun _ => ?_)
        | refine mm_tsc (fun _ => ?_) ?_
        | exact mm_tsn
        | refine k_gp rfl rfl ?_ ?_)
      all_goals (first | trivial | omega | (simp only [true_and, mm_fits]; omega) | (refine congrArg some (congrArg Sum.inl ?_); first | rfl | (rw [ib_t (by omega)]) | (rw [ib_f (by omega)]) | omega))
theorem ev_m_wipe : mm_Ev K_X10_wipe (0, 0) [.inr (some (1, 0))] (PH r y) w (mm_pe (some (.inl (w 1 0 0))) (PH r y) (mm_up w 1 0 0 0)) := by
  refine ev_intro ok_X10_wipe mo_X10_wipe (Nat.le_of_ble_eq_true rfl) (fun hrg has => ?_)
  repeat' (first
    | refine k_brt rfl (by decide) ?_
    | refine k_brf rfl (by decide) ?_
    | refine k_brz rfl (fun _ => ?_) (fun _ => ?_)
    | refine k_brn rfl (fun _ => ?_) (fun _ => ?_)
    | refine k_br rfl (fun _ => ?_) (fun _ => ?_)
    | refine k_ret rfl ?_ ⟨?_, rfl, rfl⟩
    | refine k_ts rfl rfl ?_ (fun _ => ?_)
    | refine mm_tsc (fun _ => ?_) ?_
    | exact mm_tsn
    | refine k_gp rfl rfl ?_ ?_)
  all_goals (first | trivial | omega | (simp only [true_and, mm_fits]; omega) | (refine congrArg some (congrArg Sum.inl ?_); first | rfl | (rw [ib_t (by omega)]) | (rw [ib_f (by omega)]) | omega))
end ME
