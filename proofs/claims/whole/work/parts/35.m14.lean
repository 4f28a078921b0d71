/-! ===== the reference: looks() and what tells of it ===== -/
abbrev mQ (w : mm_M) : List (Int × Int) := MQ_ (m_c w) (m_e w) (w 3 0) (w 6 0) (w 1 0 4) (w 1 0 6) (w 1 0 8)
section ME
variable {r : Bool × Bool} {y : Bool} {w : mm_M}
theorem ev_m_looks (h : mP w) : mm_Ev K_X10_looks (0, 0) [.inr (some (1, 0))] (PH r y) w (fun a b' w' => a = none ∧ b' = PH r y ∧ sm lksL w w' ∧ QM w' (mQ w)) := by
  refine ev_intro ok_X10_looks mo_X10_looks (Nat.le_of_ble_eq_true rfl) (fun hrg has => ?_)
  have hnp := h.1
  have hnv := h.2.2.1
  have hnc := h.2.2.2.1
  have hne := h.2.2.2.2.1
  have hE := h.2.2.2.2.2.2.1
  refine k_gp rfl rfl trivial ?_
  -- none has come
  refine mm_loop (σ := mm_M) 2048 (fun i w1 => (0 ≤ i ∧ i ≤ 2048) ∧ w1 = arrw (mm_up w 1 0 29 0) 17 0 i (fun _ => 0)) (fun i w1 => mm_Wk K_X10_looks (0, 0) 7 [some (.inr (some (1, 0))), some (.inl i), none, none] [] (PH r y) w1 (fun a b' w' => a = none ∧ b' = PH r y ∧ sm lksL w w' ∧ QM w' (mQ w))) ?_ ?_ 0 _ ⟨by omega, arrw_0.symm⟩
  · intro i w1 h1 h2 ih
    obtain ⟨h2, rfl⟩ := h2
    refine k_gp rfl rfl trivial ?_
    refine k_brf rfl (by omega) ?_
    refine k_gp rfl rfl (by simp only [true_and, mm_fits]; omega) ?_
    exact ih _ ⟨by omega, arrw_s (by omega) (by omega) rfl⟩
  intro i w1 h1 h2
  obtain ⟨h2, rfl⟩ := h2
  have hi : i = 2048 := by omega
  subst hi
  refine k_gp rfl rfl trivial ?_
  refine k_brt rfl (by omega) ?_
  refine k_gp rfl rfl trivial ?_
  generalize hwA : arrw (mm_up w 1 0 29 0) 17 0 2048 (fun _ => 0) = wA
  have hsA : sm lksL w wA := by rw [← hwA]; exact sm_arrw (sm_up sm_rf (by decide)) (by decide)
  have hQA : QM wA [] := by
    rw [← hwA]
    have e17 : ∀ s, 0 ≤ s → s < 2048 → arrw (mm_up w 1 0 29 0) 17 0 2048 (fun _ => 0) 17 0 s = 0 := fun s a b => by rw [arrw_in (by omega)]
    refine ⟨(arrw_g rfl).trans up_s, fun k a b => by simp at b; omega, fun s a b => ?_, ?_⟩
    · rw [e17 s a b]
      exact ⟨by omega, fun q => absurd rfl q, fun q => by cases q⟩
    · rw [cnt_0 (fun s a b => decide_eq_false (by rw [e17 s a (by omega)]; decide))]
      rfl
  clear hwA
  -- cubes of first values
  refine mm_loop (σ := mm_M) 256 (fun i w1 => (0 ≤ i ∧ i ≤ 256) ∧ w1 = arrw wA 18 0 i (fun _ => 0)) (fun i w1 => mm_Wk K_X10_looks (0, 0) 29 [some (.inr (some (1, 0))), some (.inl i), none, none] [] (PH r y) w1 (fun a b' w' => a = none ∧ b' = PH r y ∧ sm lksL w w' ∧ QM w' (mQ w))) ?_ ?_ 0 _ ⟨by omega, arrw_0.symm⟩
  · intro i w1 h1 h2 ih
    obtain ⟨h2, rfl⟩ := h2
    refine k_gp rfl rfl trivial ?_
    refine k_brf rfl (by omega) ?_
    refine k_gp rfl rfl (by simp only [true_and, mm_fits]; omega) ?_
    exact ih _ ⟨by omega, arrw_s (by omega) (by omega) rfl⟩
  intro i w1 h1 h2
  obtain ⟨h2, rfl⟩ := h2
  have hi : i = 256 := by omega
  subst hi
  refine k_gp rfl rfl trivial ?_
  refine k_brt rfl (by omega) ?_
  refine k_gp rfl rfl trivial ?_
  have QM_18 : ∀ {w1 w2 : mm_M} {Q : List (Int × Int)}, sm [(18, none)] w1 w2 → QM w1 Q → QM w2 Q := fun {w1 w2 Q} s q => by
    unfold QM
    have e17 : w2 17 0 = w1 17 0 := funext fun k => s 17 0 k rfl
    rw [s 1 0 29 rfl, e17]
    refine ⟨q.1, fun k a b => ?_, q.2.2.1, q.2.2.2⟩
    rw [s 15 0 k rfl, s 16 0 k rfl]
    exact q.2.1 k a b
  have hsB : sm [(18, none)] wA (arrw wA 18 0 256 (fun _ => 0)) := sm_arrw sm_rf (by decide)
  refine mm_loop (σ := mm_M) 512 (fun i w1 => (0 ≤ i ∧ i ≤ 512) ∧ sm [(18, none)] wA w1 ∧ ∀ u, 0 ≤ u → u < 256 → (0 ≤ w1 18 0 u ∧ w1 18 0 u ≤ 1) ∧ (w1 18 0 u ≠ 0 ↔ ∃ a, (0 ≤ a ∧ a < i) ∧ fsB (w 3 0) (w 1 0 4) a = true ∧ cub (m_c w) (w 1 0 6) (w 6 0 0) a = u)) (fun i w1 => mm_Wk K_X10_looks (0, 0) 51 [some (.inr (some (1, 0))), some (.inl i), none, none] [] (PH r y) w1 (fun a b' w' => a = none ∧ b' = PH r y ∧ sm lksL w w' ∧ QM w' (mQ w))) ?_ ?_ 0 (arrw wA 18 0 256 (fun _ => 0)) ⟨by omega, hsB, fun u a b => ?_⟩
  · intro i w1 h1 h2 ih
    obtain ⟨h2, hs1, h3⟩ := h2
    have hs : sm lksL w w1 := sm_tr hsA (sm_w hs1 (by decide))
    obtain ⟨hP1, ec, ee⟩ := mP_sm hs rfl (fun _ => rfl) (fun _ => rfl) (fun _ => rfl) h
    have e4 : w1 1 0 4 = w 1 0 4 := hs 1 0 4 rfl
    have e6 : w1 1 0 6 = w 1 0 6 := hs 1 0 6 rfl
    have e3 : w1 3 0 = w 3 0 := funext fun k => hs 3 0 k rfl
    have ek : w1 6 0 0 = w 6 0 0 := hs 6 0 0 rfl
    have kA := mP_255 h (p := 0) (by omega) (by omega)
    refine k_gp rfl rfl trivial ?_
    refine k_brf rfl (by omega) ?_
    refine k_gp rfl rfl trivial ?_
    refine k_callp rfl (ev_m_isFirst (by omega) (by rw [e4]; exact hnv)) rfl rfl rfl (by decide) ?_
    rw [e4, e3]
    refine k_brz rfl (fun g1 => ?_) (fun g1 => ?_)
    · refine k_gp rfl rfl (by simp only [true_and, mm_fits]; omega) ?_
      refine ih w1 ⟨by omega, hs1, fun u a b => ⟨(h3 u a b).1, (h3 u a b).2.trans ⟨fun ⟨v, v1, v2⟩ => ⟨v, by omega, v2⟩, fun ⟨v, v1, v2, v3⟩ => ?_⟩⟩⟩
      by_cases hv : v = i
      · subst hv; exact absurd v2 g1
      · exact ⟨v, by omega, v2, v3⟩
    · refine k_gp rfl rfl trivial ?_
      refine k_callp rfl (ev_m_cube (by omega) (by omega) (by rw [e4]; omega) (by rw [e6]; exact hnc) (by rw [ec, e4, e6]; exact h.2.2.2.2.2.1) (by rw [ek, or0 kA]; exact kA.1)) rfl rfl rfl (by decide) ?_
      rw [ec, e6, ek, or0 kA]
      have hcu := cub_in (m_c w) (w 1 0 6) (w 6 0 0) i (by omega)
      refine k_gp rfl rfl (by simp only [true_and, mm_fits]; omega) ?_
      refine k_gp rfl rfl (by simp only [true_and, mm_fits]; omega) ?_
      refine ih _ ⟨by omega, sm_up hs1 (Or.inl (by decide)), fun u a b => ?_⟩
      by_cases hu : u = cub (m_c w) (w 1 0 6) (w 6 0 0) i
      · subst hu
        rw [up_s]
        exact ⟨by omega, fun _ => ⟨i, by omega, g1, rfl⟩, fun _ => by decide⟩
      · rw [up_k hu]
        refine ⟨(h3 u a b).1, (h3 u a b).2.trans ⟨fun ⟨v, v1, v2⟩ => ⟨v, by omega, v2⟩, fun ⟨v, v1, v2, v3⟩ => ?_⟩⟩
        by_cases hv : v = i
        · subst hv; exact absurd v3.symm hu
        · exact ⟨v, by omega, v2, v3⟩
  · intro i w1 h1 h2
    obtain ⟨h2, hs1, h3⟩ := h2
    have hi : i = 512 := by omega
    subst hi
    have hQ1 := QM_18 hs1 hQA
    have hsw : sm lksL w w1 := sm_tr hsA (sm_w hs1 (by decide))
    have h3' : ∀ u, 0 ≤ u → u < 256 → (w1 18 0 u ≠ 0 ↔ fcB (m_c w) (w 3 0) (w 6 0) (w 1 0 4) (w 1 0 6) u = true) := fun u a b => (h3 u a b).2.trans fcB_iff.symm
    refine k_gp rfl rfl trivial ?_
    refine k_brt rfl (by omega) ?_
    refine k_gp rfl rfl trivial ?_
    -- they come
    refine mm_loop (σ := mm_M) 256 (fun j w2 => (0 ≤ j ∧ j ≤ 256) ∧ sm lksL w w2 ∧ (∀ u, w2 18 0 u = w1 18 0 u) ∧ QM w2 (addC [] 0 (fcB (m_c w) (w 3 0) (w 6 0) (w 1 0 4) (w 1 0 6)) (-1) j.toNat)) (fun j w2 => mm_Wk K_X10_looks (0, 0) 87 [some (.inr (some (1, 0))), some (.inl j), none, none] [] (PH r y) w2 (fun a b' w' => a = none ∧ b' = PH r y ∧ sm lksL w w' ∧ QM w' (mQ w))) ?_ ?_ 0 w1 ⟨by omega, hsw, fun _ => rfl, hQ1⟩
    · intro j w2 j1 j2 ih
      obtain ⟨j2, hs2, h18, hQ2⟩ := j2
      have eC : addC [] 0 (fcB (m_c w) (w 3 0) (w 6 0) (w 1 0 4) (w 1 0 6)) (-1) (j + 1).toNat = if fcB (m_c w) (w 3 0) (w 6 0) (w 1 0 4) (w 1 0 6) j = true then add1 (addC [] 0 (fcB (m_c w) (w 3 0) (w 6 0) (w 1 0 4) (w 1 0 6)) (-1) j.toNat) j (-1) else addC [] 0 (fcB (m_c w) (w 3 0) (w 6 0) (w 1 0 4) (w 1 0 6)) (-1) j.toNat := by
        rw [show (j + 1).toNat = j.toNat + 1 by omega]
        show (if fcB (m_c w) (w 3 0) (w 6 0) (w 1 0 4) (w 1 0 6) ((j.toNat : Nat) : Int) = true then add1 _ (0 + ((j.toNat : Nat) : Int)) (-1) else _) = _
        rw [show ((j.toNat : Nat) : Int) = j by omega, Int.zero_add]
      refine k_gp rfl rfl trivial ?_
      refine k_brf rfl (by omega) ?_
      refine k_gp rfl rfl (by simp only [true_and, mm_fits]; omega) ?_
      rw [h18]
      refine k_br rfl (fun g1 => ?_) (fun g1 => ?_)
      · refine k_gp rfl rfl (by simp only [true_and, mm_fits]; omega) ?_
        exact ih w2 ⟨by omega, hs2, h18, by rw [eC, if_neg (fun q => (h3' j (by omega) (by omega)).mpr q g1)]; exact hQ2⟩
      · refine k_gp rfl rfl trivial ?_
        refine k_callp rfl (ev_m_comes hQ2 (by omega)) rfl rfl rfl (by decide) ?_
        refine k_gp rfl rfl (by simp only [true_and, mm_fits]; omega) ?_
        exact ih _ ⟨by omega, sm_tr hs2 comW_sm, fun u => comW_18.trans (h18 u), by rw [eC, if_pos ((h3' j (by omega) (by omega)).mp g1)]; exact QM_com hQ2 (by omega) rfl⟩
    · intro j w2 j1 j2
      obtain ⟨j2, hs2, h18, hQ2⟩ := j2
      have hj : j = 256 := by omega
      subst hj
      refine k_gp rfl rfl trivial ?_
      refine k_brt rfl (by omega) ?_
      refine k_gp rfl rfl trivial ?_
      clear h3 h3' h18 hQ1 hsw hs1 hQA hsA hsB
      -- one behind the other
      have LP : ∀ (m k : Nat) (Q : List (Int × Int)) (w3 : mm_M), k + m = 2049 → k ≤ Q.length → sm lksL w w3 → QM w3 Q → addK (m_c w) (m_e w) (w 6 0) (w 1 0 4) (w 1 0 6) (w 1 0 8) m k Q = mQ w → ∀ l2 l3, mm_Wk K_X10_looks (0, 0) 118 [some (.inr (some (1, 0))), some (.inl (k : Int)), l2, l3] [] (PH r y) w3 (fun a b' w' => a = none ∧ b' = PH r y ∧ sm lksL w w' ∧ QM w' (mQ w)) := by
        intro m
        induction m with
        | zero =>
          intro k Q w3 hk hkl hs3 hQ3 heq l2 l3
          have := QM_le hQ3
          omega
        | succ m ihm =>
          intro k Q w3 hk hkl hs3 hQ3 heq l2 l3
          have hl3 := QM_le hQ3
          have hm3 := hQ3.1
          have heq0 : addK (m_c w) (m_e w) (w 6 0) (w 1 0 4) (w 1 0 6) (w 1 0 8) (m + 1) k Q = if k < Q.length then addK (m_c w) (m_e w) (w 6 0) (w 1 0 4) (w 1 0 6) (w 1 0 8) m (k + 1) (addX (m_c w) (m_e w) (w 6 0) (w 1 0 4) (w 1 0 6) Q k (w 1 0 8).toNat) else Q := rfl
          rw [heq0] at heq
          refine k_gp rfl rfl trivial ?_
          refine k_br rfl (fun g1 => ?_) (fun g1 => ?_)
          · rw [if_neg (by omega)] at heq
            rw [heq] at hQ3
            exact k_ret rfl trivial ⟨rfl, rfl, hs3, hQ3⟩
          · have hkQ : k < Q.length := by omega
            rw [if_pos hkQ] at heq
            obtain ⟨s1, s2, s3⟩ := hQ3.2.1 k (by omega) (by omega)
            refine k_gp rfl rfl trivial ?_
            refine mm_loop (σ := mm_M) (w 1 0 8) (fun x w4 => (0 ≤ x ∧ x ≤ w 1 0 8) ∧ sm lksL w w4 ∧ QM w4 (addX (m_c w) (m_e w) (w 6 0) (w 1 0 4) (w 1 0 6) Q k x.toNat)) (fun x w4 => ∀ l3, mm_Wk K_X10_looks (0, 0) 128 [some (.inr (some (1, 0))), some (.inl (k : Int)), some (.inl x), l3] [] (PH r y) w4 (fun a b' w' => a = none ∧ b' = PH r y ∧ sm lksL w w' ∧ QM w' (mQ w))) ?_ ?_ 0 w3 ⟨by omega, hs3, hQ3⟩ _
            · intro x w4 x1 x2 ihx l3
              obtain ⟨x2, hs4, hQ4⟩ := x2
              obtain ⟨hP4, ec, ee⟩ := mP_sm hs4 rfl (fun _ => rfl) (fun _ => rfl) (fun _ => rfl) h
              have e4 : w4 1 0 4 = w 1 0 4 := hs4 1 0 4 rfl
              have e6 : w4 1 0 6 = w 1 0 6 := hs4 1 0 6 rfl
              have e8 : w4 1 0 8 = w 1 0 8 := hs4 1 0 8 rfl
              have ek : w4 6 0 = w 6 0 := funext fun p => hs4 6 0 p rfl
              have e0 : w4 5 0 (7 * x) = m_e w x 0 := by rw [← ee]; exact (m_e0 w4 x).symm
              have hEx := hE x (by omega) (by omega)
              have hA := hEx.1
              have hB := hEx.2.1
              obtain ⟨R, hR⟩ := addX_pre (c := m_c w) (e := m_e w) (lk := w 6 0) (nv := w 1 0 4) (nc := w 1 0 6) (Q := Q) (k := (k : Int)) x.toNat
              have hst : w4 15 0 (k : Int) = stQ Q k := by
                rw [(hQ4.2.1 k (by omega) (by rw [hR]; simp; omega)).1, hR, stQ_app (by omega) (by omega)]
              have eX : addX (m_c w) (m_e w) (w 6 0) (w 1 0 4) (w 1 0 6) Q k (x + 1).toNat = if m_e w x 0 = stQ Q k / 256 then addC (addX (m_c w) (m_e w) (w 6 0) (w 1 0 4) (w 1 0 6) Q k x.toNat) (256 * m_e w x 1) (nxB (m_c w) (m_e w) (w 6 0) (w 1 0 4) (w 1 0 6) x (stQ Q k % 256)) (16 * k + x) 256 else addX (m_c w) (m_e w) (w 6 0) (w 1 0 4) (w 1 0 6) Q k x.toNat := by
                rw [show (x + 1).toNat = x.toNat + 1 by omega]
                show (if m_e w ((x.toNat : Nat) : Int) 0 = stQ Q k / 256 then addC _ (256 * m_e w ((x.toNat : Nat) : Int) 1) (nxB (m_c w) (m_e w) (w 6 0) (w 1 0 4) (w 1 0 6) ((x.toNat : Nat) : Int) (stQ Q k % 256)) (16 * k + ((x.toNat : Nat) : Int)) 256 else _) = _
                rw [show ((x.toNat : Nat) : Int) = x by omega]
              refine k_gp rfl rfl trivial ?_
              refine k_brf rfl (by omega) ?_
              refine k_gp rfl rfl (by simp only [true_and, mm_fits, hst]; omega) ?_
              rw [e0, hst]
              refine k_br rfl (fun g2 => ?_) (fun g2 => ?_)
              · refine k_gp rfl rfl (by simp only [true_and, mm_fits]; omega) ?_
                exact ihx w4 ⟨by omega, hs4, by rw [eX, if_neg g2]; exact hQ4⟩ _
              · have g2 : m_e w x 0 = stQ Q k / 256 := Classical.byContradiction g2
                rw [if_pos g2] at eX
                refine k_gp rfl rfl (by simp only [true_and, mm_fits, hst]; omega) ?_
                rw [hst]
                refine k_call0 rfl (ev_m_becomes (cb := stQ Q k % 256) hP4 (by omega)) rfl rfl rfl (by decide) ?_
                rintro a b' w5 ⟨rfl, rfl, hs5, hcu⟩
                rw [ec, ee, ek, e4, e6] at hcu
                have hQ5 := QM_18 hs5 hQ4
                have hs05 : sm lksL w w5 := sm_tr hs4 (sm_w hs5 (by decide))
                refine k_gp rfl rfl trivial ?_
                refine mm_loop (σ := mm_M) 256 (fun j w6 => (0 ≤ j ∧ j ≤ 256) ∧ sm lksL w w6 ∧ (∀ u, w6 18 0 u = w5 18 0 u) ∧ QM w6 (addC (addX (m_c w) (m_e w) (w 6 0) (w 1 0 4) (w 1 0 6) Q k x.toNat) (256 * m_e w x 1) (nxB (m_c w) (m_e w) (w 6 0) (w 1 0 4) (w 1 0 6) x (stQ Q k % 256)) (16 * k + x) j.toNat)) (fun j w6 => mm_Wk K_X10_looks (0, 0) 175 [some (.inr (some (1, 0))), some (.inl (k : Int)), some (.inl x), some (.inl j)] [] (PH r y) w6 (fun a b' w' => a = none ∧ b' = PH r y ∧ sm lksL w w' ∧ QM w' (mQ w))) ?_ ?_ 0 w5 ⟨by omega, hs05, fun _ => rfl, hQ5⟩
                · intro j w6 j1 j2 ihj
                  obtain ⟨j2, hs6, h18, hQ6⟩ := j2
                  have e1 : w6 5 0 (7 * x + 1) = m_e w x 1 := hs6 5 0 _ rfl
                  have eC : addC (addX (m_c w) (m_e w) (w 6 0) (w 1 0 4) (w 1 0 6) Q k x.toNat) (256 * m_e w x 1) (nxB (m_c w) (m_e w) (w 6 0) (w 1 0 4) (w 1 0 6) x (stQ Q k % 256)) (16 * k + x) (j + 1).toNat = if nxB (m_c w) (m_e w) (w 6 0) (w 1 0 4) (w 1 0 6) x (stQ Q k % 256) j = true then add1 (addC (addX (m_c w) (m_e w) (w 6 0) (w 1 0 4) (w 1 0 6) Q k x.toNat) (256 * m_e w x 1) (nxB (m_c w) (m_e w) (w 6 0) (w 1 0 4) (w 1 0 6) x (stQ Q k % 256)) (16 * k + x) j.toNat) (256 * m_e w x 1 + j) (16 * k + x) else addC (addX (m_c w) (m_e w) (w 6 0) (w 1 0 4) (w 1 0 6) Q k x.toNat) (256 * m_e w x 1) (nxB (m_c w) (m_e w) (w 6 0) (w 1 0 4) (w 1 0 6) x (stQ Q k % 256)) (16 * k + x) j.toNat := by
                    rw [show (j + 1).toNat = j.toNat + 1 by omega]
                    show (if nxB (m_c w) (m_e w) (w 6 0) (w 1 0 4) (w 1 0 6) x (stQ Q k % 256) ((j.toNat : Nat) : Int) = true then add1 _ (256 * m_e w x 1 + ((j.toNat : Nat) : Int)) (16 * k + x) else _) = _
                    rw [show ((j.toNat : Nat) : Int) = j by omega]
                  refine k_gp rfl rfl trivial ?_
                  refine k_brf rfl (by omega) ?_
                  refine k_gp rfl rfl (by simp only [true_and, mm_fits]; omega) ?_
                  rw [h18]
                  refine k_br rfl (fun g3 => ?_) (fun g3 => ?_)
                  · refine k_gp rfl rfl (by simp only [true_and, mm_fits]; omega) ?_
                    exact ihj w6 ⟨by omega, hs6, h18, by rw [eC, if_neg (fun q => (hcu j (by omega) (by omega)).2.mpr q g3)]; exact hQ6⟩
                  · refine k_gp rfl rfl (by simp only [true_and, mm_fits, e1]; omega) ?_
                    rw [e1]
                    refine k_callp rfl (ev_m_comes hQ6 (by omega)) rfl rfl rfl (by decide) ?_
                    refine k_gp rfl rfl (by simp only [true_and, mm_fits]; omega) ?_
                    exact ihj _ ⟨by omega, sm_tr hs6 comW_sm, fun u => comW_18.trans (h18 u), by rw [eC, if_pos ((hcu j (by omega) (by omega)).2.mp g3)]; exact QM_com hQ6 (by omega) (by rw [if_neg (by omega)])⟩
                · intro j w6 j1 j2
                  obtain ⟨j2, hs6, h18, hQ6⟩ := j2
                  have hj : j = 256 := by omega
                  subst hj
                  refine k_gp rfl rfl trivial ?_
                  refine k_brt rfl (by omega) ?_
                  refine k_gp rfl rfl (by simp only [true_and, mm_fits]; omega) ?_
                  exact ihx w6 ⟨by omega, hs6, by rw [eX]; exact hQ6⟩ _
            · intro x w4 x1 x2 l3
              obtain ⟨x2, hs4, hQ4⟩ := x2
              have e8 : w4 1 0 8 = w 1 0 8 := hs4 1 0 8 rfl
              have hx : x = w 1 0 8 := by omega
              subst hx
              refine k_gp rfl rfl trivial ?_
              refine k_brt rfl (by omega) ?_
              refine k_gp rfl rfl (by simp only [true_and, mm_fits]; omega) ?_
              obtain ⟨R, hR⟩ := addX_pre (c := m_c w) (e := m_e w) (lk := w 6 0) (nv := w 1 0 4) (nc := w 1 0 6) (Q := Q) (k := (k : Int)) (w 1 0 8).toNat
              exact ihm (k + 1) _ w4 (by omega) (by rw [hR]; simp; omega) hs4 hQ4 heq _ _
      exact LP 2049 0 _ w2 (by omega) (by omega) hs2 hQ2 rfl _ _
  · rw [arrw_in (by omega)]
    exact ⟨by omega, fun q => absurd rfl q, fun ⟨v, v1, _⟩ => by omega⟩
end ME
