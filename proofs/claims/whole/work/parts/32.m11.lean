/-! ===== the reference: run() ===== -/
section ME
variable {r : Bool × Bool} {y : Bool} {w : mm_M}
abbrev mG (w : mm_M) (D s : Nat) (q : Int) : Prop := Gd (m_c w) (m_e w) (w 1 0 8) (w 1 0 3) D s q
/-- far, when only those are left from which the trap is reached in time -/
def FP (w : mm_M) (D : Int) (far0 far : Int → Int) : Prop := ∀ q, 0 ≤ q → q < 4096 → (0 ≤ far0 q ∧ far0 q ≤ D ∧ mG w D.toNat (far0 q).toNat q → far q = far0 q) ∧ (¬ (0 ≤ far0 q ∧ far0 q ≤ D ∧ mG w D.toNat (far0 q).toNat q) → far q = -1)
theorem ev_m_prunes {w0 : mm_M} {D : Int} (h : mP w0) (hs : sm sprL w0 w) (hF : RF (mR w0) (w 11 0) (w 12 0) (w 1 0 23)) (hD0 : 0 ≤ D ∧ D < 5000) (hD : ∀ k q, mR w0 k q → q / 512 = w0 1 0 3 → D.toNat ≤ k) :
    mm_Ev K_X10_prunes (0, 0) [.inr (some (1, 0)), .inl D] (PH r y) w (fun a b' w' => a = none ∧ b' = PH r y ∧ sm [(11, none)] w w' ∧ FP w0 D (w 11 0) (w' 11 0)) := by
  refine ev_intro ok_X10_prunes mo_X10_prunes (Nat.le_of_ble_eq_true rfl) (fun hrg has => ?_)
  have hnp := h.1
  have hnv := h.2.2.1
  have hnc := h.2.2.2.1
  have hne := h.2.2.2.2.1
  have hE := h.2.2.2.2.2.2.1
  have hqd : 0 ≤ w 1 0 23 ∧ w 1 0 23 ≤ 4096 := by
    have := hF.1.2.2.2.2.2
    have := cnt_le (fun q => decide (0 ≤ w 11 0 q)) 4096
    omega
  refine k_gp rfl rfl (by simp only [true_and, mm_fits]; omega) ?_
  have LP : ∀ (m : Nat) (k : Int) (w1 : mm_M), k + 1 = m → k < w 1 0 23 → sm [(11, none)] w w1 → (∀ q, 0 ≤ q → q < 4096 → w 11 0 q < 0 → w1 11 0 q = -1) → (∀ i, 0 ≤ i → i ≤ k → w1 11 0 (w 12 0 i) = w 11 0 (w 12 0 i)) → (∀ i, k < i → i < w 1 0 23 → (w 11 0 (w 12 0 i) ≤ D ∧ mG w0 D.toNat (w 11 0 (w 12 0 i)).toNat (w 12 0 i) → w1 11 0 (w 12 0 i) = w 11 0 (w 12 0 i)) ∧ (¬ (w 11 0 (w 12 0 i) ≤ D ∧ mG w0 D.toNat (w 11 0 (w 12 0 i)).toNat (w 12 0 i)) → w1 11 0 (w 12 0 i) = -1)) →
      ∀ l3 l4 l5 l6, mm_Wk K_X10_prunes (0, 0) 7 [some (.inr (some (1, 0))), some (.inl D), some (.inl k), l3, l4, l5, l6] [] (PH r y) w1 (fun a b' w' => a = none ∧ b' = PH r y ∧ sm [(11, none)] w w' ∧ FP w0 D (w 11 0) (w' 11 0)) := by
    intro m
    induction m with
    | zero =>
      intro k w1 hk hkq hs1 h1 h2 h3 l3 l4 l5 l6
      refine k_gp rfl rfl trivial ?_
      refine k_brt rfl (by omega) ?_
      refine k_ret rfl trivial ⟨rfl, rfl, hs1, fun q a b => ?_⟩
      by_cases hq : 0 ≤ w 11 0 q
      · obtain ⟨i, i1, i2⟩ := hF.1.2.2.1 q a b hq
        have := h3 i (by omega) i1.2
        rw [i2] at this
        exact ⟨fun z => this.1 z.2, fun z => this.2 (fun u => z ⟨hq, u⟩)⟩
      · exact ⟨fun z => absurd z.1 hq, fun _ => h1 q a b (by omega)⟩
    | succ m ih =>
      intro k w1 hk hkq hs1 h1 h2 h3 l3 l4 l5 l6
      have hkk := hF.1.2.1 k (by omega) hkq
      have hfk := h2 k (by omega) (Int.le_refl _)
      have h12 : ∀ i, w1 12 0 i = w 12 0 i := fun i => hs1 12 0 i rfl
      have hs01 : sm sprL w0 w1 := sm_tr hs (sm_w hs1 (by decide))
      obtain ⟨hP1, ec, ee⟩ := mP_sm hs01 rfl (fun _ => rfl) (fun _ => rfl) (fun _ => rfl) h
      have ht1 : w1 1 0 3 = w0 1 0 3 := hs01 1 0 3 rfl
      have hne1 : w1 1 0 8 = w0 1 0 8 := hs01 1 0 8 rfl
      -- the end of a round
      have J162 : ∀ s : Bool, (s = true ↔ w 11 0 (w 12 0 k) ≤ D ∧ mG w0 D.toNat (w 11 0 (w 12 0 k)).toNat (w 12 0 k)) → ∀ l5 l6, mm_Wk K_X10_prunes (0, 0) 162 [some (.inr (some (1, 0))), some (.inl D), some (.inl k), some (.inl (w 12 0 k)), some (.inl (ib (s = true))), l5, l6] [] (PH r y) w1 (fun a b' w' => a = none ∧ b' = PH r y ∧ sm [(11, none)] w w' ∧ FP w0 D (w 11 0) (w' 11 0)) := fun s hsx l5 l6 => by
        have fin : ∀ v, (s = true → v = w 11 0 (w 12 0 k)) → (¬ s = true → v = -1) → mm_Wk K_X10_prunes (0, 0) 182 [some (.inr (some (1, 0))), some (.inl D), some (.inl k), some (.inl (w 12 0 k)), some (.inl (ib (s = true))), l5, l6] [.inl v, .inl (w 12 0 k), .inr (some (11, 0))] (PH r y) w1 (fun a b' w' => a = none ∧ b' = PH r y ∧ sm [(11, none)] w w' ∧ FP w0 D (w 11 0) (w' 11 0)) := fun v hv1 hv2 => by
          refine k_gp rfl rfl (by simp only [true_and, mm_fits]; omega) ?_
          refine ih (k - 1) _ (by omega) (by omega) (sm_up hs1 (Or.inl (by decide))) (fun q a b d => ?_) (fun i a b => ?_) (fun i a b => ?_) _ _ _ _
          · rw [up_k (fun z => by rw [z] at d; omega)]
            exact h1 q a b d
          · rw [up_k (hF.1.2.2.2.1 i k a (by omega) hkq)]
            exact h2 i a (by omega)
          · by_cases hi : i = k
            · subst hi
              rw [up_s]
              exact ⟨fun z => hv1 (hsx.mpr z), fun z => hv2 (fun u => z (hsx.mp u))⟩
            · rw [up_k (fun z => hF.1.2.2.2.1 k i (by omega) (by omega) b z.symm)]
              exact h3 i (by omega) b
        refine k_gp rfl rfl trivial ?_
        refine k_brz rfl (fun g1 => ?_) (fun g1 => ?_)
        · refine k_gp rfl rfl trivial ?_
          exact fin (-1) (fun z => absurd z g1) (fun _ => rfl)
        · refine k_gp rfl rfl (by simp only [true_and, mm_fits]; omega) ?_
          rw [hfk]
          exact fin _ (fun _ => rfl) (fun z => absurd g1 z)
      -- the edges
      have LX : ∀ s0 : Bool, (s0 = true ↔ w 12 0 k / 512 = w0 1 0 3 ∧ w 11 0 (w 12 0 k) = D) → ∀ l5 l6, mm_Wk K_X10_prunes (0, 0) 45 [some (.inr (some (1, 0))), some (.inl D), some (.inl k), some (.inl (w 12 0 k)), l4, l5, l6] [.inl (ib (s0 = true))] (PH r y) w1 (fun a b' w' => a = none ∧ b' = PH r y ∧ sm [(11, none)] w w' ∧ FP w0 D (w 11 0) (w' 11 0)) := fun s0 hs0 l5 l6 => by
        have hst4 : ∀ x, 0 ≤ x → x < w0 1 0 8 → 0 ≤ stp (m_c w0) (m_e w0) x (w 12 0 k) → stp (m_c w0) (m_e w0) x (w 12 0 k) < 4096 := fun x a b d => (stp_in (by omega) (by omega) (by omega) (hE x a b) d).1
        have key : w 11 0 (w 12 0 k) < D → ((∃ x, (0 ≤ x ∧ x < w0 1 0 8) ∧ 0 ≤ stp (m_c w0) (m_e w0) x (w 12 0 k) ∧ w1 11 0 (stp (m_c w0) (m_e w0) x (w 12 0 k)) = w 11 0 (w 12 0 k) + 1) ↔ mG w0 D.toNat (w 11 0 (w 12 0 k)).toNat (w 12 0 k)) := fun hjD => by
          constructor
          · rintro ⟨x, x1, x2, x3⟩
            have x4 := hst4 x x1.1 x1.2 x2
            have hp : 0 ≤ w 11 0 (stp (m_c w0) (m_e w0) x (w 12 0 k)) := by
              rcases Int.lt_or_le (w 11 0 (stp (m_c w0) (m_e w0) x (w 12 0 k))) 0 with q | q
              · have := h1 _ x2 x4 q; omega
              · exact q
            obtain ⟨i, i1, i2⟩ := hF.1.2.2.1 _ x2 x4 hp
            have hik : k < i := by
              rcases Int.lt_or_le k i with q | q
              · exact q
              · have a1 := h2 i i1.1 q
                have a2 := hF.1.2.2.2.2.1 i k i1.1 q hkq
                rw [i2] at a1 a2
                omega
            have a3 := h3 i hik i1.2
            rw [i2] at a3
            have hg : w 11 0 (stp (m_c w0) (m_e w0) x (w 12 0 k)) ≤ D ∧ mG w0 D.toNat (w 11 0 (stp (m_c w0) (m_e w0) x (w 12 0 k))).toNat (stp (m_c w0) (m_e w0) x (w 12 0 k)) := Classical.byContradiction fun q => by have := a3.2 q; omega
            have a4 := a3.1 hg
            have a5 := hg.2
            rw [show (w 11 0 (stp (m_c w0) (m_e w0) x (w 12 0 k))).toNat = (w 11 0 (w 12 0 k)).toNat + 1 by omega] at a5
            exact Gd_back x1 x2 a5
          · intro hg
            obtain ⟨x, x1, x2, x3⟩ := Gd_step hg (by omega)
            have x4 := hst4 x x1.1 x1.2 x2
            have hR1 : mR w0 ((w 11 0 (w 12 0 k)).toNat + 1) (stp (m_c w0) (m_e w0) x (w 12 0 k)) := ⟨_, x, hkk.2.2, x1, rfl, x2⟩
            obtain ⟨f1, f2⟩ := hF.2 _ _ hR1
            obtain ⟨i, i1, i2⟩ := hF.1.2.2.1 _ x2 x4 f1
            have a6 := (hF.1.2.1 i i1.1 i1.2).2.2
            rw [i2] at a6
            have a7 := Gd_far hD x3 a6
            have hfe : w 11 0 (stp (m_c w0) (m_e w0) x (w 12 0 k)) = w 11 0 (w 12 0 k) + 1 := by omega
            have hik : k < i := by
              rcases Int.lt_or_le k i with q | q
              · exact q
              · have a2 := hF.1.2.2.2.2.1 i k i1.1 q hkq
                rw [i2] at a2
                omega
            have a3 := (h3 i hik i1.2).1
            rw [i2] at a3
            refine ⟨x, x1, x2, ?_⟩
            rw [a3 ⟨by omega, by rw [show (w 11 0 (stp (m_c w0) (m_e w0) x (w 12 0 k))).toNat = (w 11 0 (w 12 0 k)).toNat + 1 by omega]; exact x3⟩]
            exact hfe
        refine k_gp rfl rfl trivial ?_
        refine mm_loop (σ := Bool) (w0 1 0 8) (fun x s => (0 ≤ x ∧ x ≤ w0 1 0 8) ∧ (s = true ↔ s0 = true ∨ (w 11 0 (w 12 0 k) < D ∧ ∃ z, (0 ≤ z ∧ z < x) ∧ 0 ≤ stp (m_c w0) (m_e w0) z (w 12 0 k) ∧ w1 11 0 (stp (m_c w0) (m_e w0) z (w 12 0 k)) = w 11 0 (w 12 0 k) + 1))) (fun x s => ∀ l6, mm_Wk K_X10_prunes (0, 0) 50 [some (.inr (some (1, 0))), some (.inl D), some (.inl k), some (.inl (w 12 0 k)), some (.inl (ib (s = true))), some (.inl x), l6] [] (PH r y) w1 (fun a b' w' => a = none ∧ b' = PH r y ∧ sm [(11, none)] w w' ∧ FP w0 D (w 11 0) (w' 11 0))) ?_ ?_ 0 s0 ⟨by omega, ⟨fun z => Or.inl z, fun z => z.resolve_right (fun u => by obtain ⟨-, z, z1, -⟩ := u; omega)⟩⟩ _
        · intro x s x1 x2 ihx l6
          obtain ⟨x2, x3⟩ := x2
          refine k_gp rfl rfl trivial ?_
          refine k_brf rfl (by omega) ?_
          refine k_gp rfl rfl trivial ?_
          refine k_brn rfl (fun g1 => ?_) (fun g1 => ?_)
          · refine J162 s ⟨fun _ => ?_, fun _ => g1⟩ _ _
            rcases x3.mp g1 with q | ⟨q1, z, z1, z2, z3⟩
            · obtain ⟨q1, q2⟩ := hs0.mp q
              exact ⟨by omega, [], _, by show 0 + _ = _; omega, rfl, q1⟩
            · exact ⟨by omega, (key q1).mp ⟨z, ⟨z1.1, by omega⟩, z2, z3⟩⟩
          · refine k_gp rfl rfl (by simp only [true_and, mm_fits]; omega) ?_
            rw [hfk]
            refine k_br rfl (fun g2 => ?_) (fun g2 => ?_)
            · refine J162 s ⟨fun z => absurd z g1, fun z => ?_⟩ _ _
              refine x3.mpr (Or.inl (hs0.mpr ⟨?_, by omega⟩))
              obtain ⟨z1, τ, q', t1, t2, t3⟩ := z
              have ht : τ = [] := List.eq_nil_of_length_eq_zero (by omega)
              subst ht
              cases t2
              exact t3
            · have hjD : w 11 0 (w 12 0 k) < D := by omega
              have hEx := hE x (by omega) (by omega)
              have hA := hEx.1
              have hBx := hEx.2.1
              have e0 : w1 5 0 (7 * x) = m_e w0 x 0 := by rw [← ee]; exact (m_e0 w1 x).symm
              have e1 : w1 5 0 (7 * x + 1) = m_e w0 x 1 := by rw [← ee]; rfl
              have hst : stp (m_c w0) (m_e w0) x (w 12 0 k) = if m_e w0 x 0 = w 12 0 k / 512 ∧ 0 ≤ go_ (m_c w0) (m_e w0) x (w 12 0 k % 512) then 512 * m_e w0 x 1 + go_ (m_c w0) (m_e w0) x (w 12 0 k % 512) else -1 := rfl
              have nxt : ∀ s' : Bool, (s' = true ↔ 0 ≤ stp (m_c w0) (m_e w0) x (w 12 0 k) ∧ w1 11 0 (stp (m_c w0) (m_e w0) x (w 12 0 k)) = w 11 0 (w 12 0 k) + 1) → ∀ l6, mm_Wk K_X10_prunes (0, 0) 154 [some (.inr (some (1, 0))), some (.inl D), some (.inl k), some (.inl (w 12 0 k)), some (.inl (ib (s = true))), some (.inl x), l6] [.inl (ib (s' = true))] (PH r y) w1 (fun a b' w' => a = none ∧ b' = PH r y ∧ sm [(11, none)] w w' ∧ FP w0 D (w 11 0) (w' 11 0)) := fun s' hs' l6 => by
                refine k_gp rfl rfl (by simp only [true_and, mm_fits]; omega) ?_
                refine ihx s' ⟨by omega, ⟨fun z => Or.inr ⟨hjD, x, by omega, (hs'.mp z).1, (hs'.mp z).2⟩, fun z => ?_⟩⟩ _
                rcases z with z | ⟨-, z, z1, z2, z3⟩
                · exact absurd (x3.mpr (Or.inl z)) g1
                · by_cases hz : z = x
                  · subst hz; exact hs'.mpr ⟨z2, z3⟩
                  · exact absurd (x3.mpr (Or.inr ⟨hjD, z, by omega, z2, z3⟩)) g1
              refine k_gp rfl rfl (by simp only [true_and, mm_fits]; omega) ?_
              rw [e0]
              refine k_br rfl (fun g3 => ?_) (fun g3 => ?_)
              · rw [if_neg (fun q => g3 q.1)] at hst
                refine k_gp rfl rfl trivial ?_
                refine k_gp rfl rfl trivial ?_
                refine k_brt rfl (by decide) ?_
                refine k_gp rfl rfl trivial ?_
                exact nxt false ⟨(fun z => by cases z), fun z => by omega⟩ _
              · have g3 : m_e w0 x 0 = w 12 0 k / 512 := Classical.byContradiction g3
                refine k_gp rfl rfl (by simp only [true_and, mm_fits]; omega) ?_
                refine k_callp rfl (ev_m_goes (np := w0 1 0 2) (nc := w0 1 0 6) (nv := w0 1 0 4) (by omega) (by omega) (by omega) (by omega) (by rw [ec]; exact h.2.2.2.2.2.1) (by rw [ee]; exact hEx)) rfl rfl rfl (by decide) ?_
                rw [ec, ee]
                have hgo := go_in (c := m_c w0) (all := w 12 0 k % 512) (by omega) (by omega) hEx
                refine k_gp rfl rfl trivial ?_
                refine k_gp rfl rfl trivial ?_
                refine k_br rfl (fun g4 => ?_) (fun g4 => ?_)
                · rw [if_neg (fun q => by omega)] at hst
                  refine k_gp rfl rfl trivial ?_
                  exact nxt false ⟨(fun z => by cases z), fun z => by omega⟩ _
                · rw [if_pos ⟨g3, by omega⟩] at hst
                  refine k_gp rfl rfl (by simp only [true_and, mm_fits, e1, hfk]; omega) ?_
                  rw [e1, ← hst, hfk]
                  refine k_br rfl (fun g5 => ?_) (fun g5 => ?_)
                  · refine k_gp rfl rfl trivial ?_
                    exact nxt false ⟨(fun z => by cases z), fun z => absurd z.2 g5⟩ _
                  · refine k_gp rfl rfl trivial ?_
                    exact nxt true ⟨fun _ => ⟨by omega, Classical.byContradiction g5⟩, fun _ => rfl⟩ _
        · intro x s x1 x2 l6
          obtain ⟨x2, x3⟩ := x2
          refine k_gp rfl rfl trivial ?_
          refine k_brt rfl (by omega) ?_
          refine J162 s (x3.trans ?_) _ _
          have hx : x = w0 1 0 8 := by omega
          subst hx
          constructor
          · rintro (q | ⟨q1, z, z1, z2, z3⟩)
            · obtain ⟨q1, q2⟩ := hs0.mp q
              exact ⟨by omega, [], _, by show 0 + _ = _; omega, rfl, q1⟩
            · exact ⟨by omega, (key q1).mp ⟨z, z1, z2, z3⟩⟩
          · rintro ⟨z1, z2⟩
            by_cases hj : w 11 0 (w 12 0 k) < D
            · obtain ⟨z, a1, a2, a3⟩ := (key hj).mpr z2
              exact Or.inr ⟨hj, z, a1, a2, a3⟩
            · obtain ⟨τ, q', t1, t2, t3⟩ := z2
              have ht : τ = [] := List.eq_nil_of_length_eq_zero (by omega)
              subst ht
              cases t2
              exact Or.inl (hs0.mpr ⟨t3, by omega⟩)
      refine k_gp rfl rfl trivial ?_
      refine k_brf rfl (by omega) ?_
      refine k_gp rfl rfl (by simp only [true_and, mm_fits, h12]; omega) ?_
      rw [h12, ht1]
      refine k_br rfl (fun g1 => ?_) (fun g1 => ?_)
      · refine k_gp rfl rfl trivial ?_
        exact LX false ⟨(fun z => by cases z), fun z => absurd z.1 g1⟩ _ _
      · have g1 : w 12 0 k / 512 = w0 1 0 3 := Classical.byContradiction g1
        refine k_gp rfl rfl (by simp only [true_and, mm_fits]; omega) ?_
        rw [hfk]
        refine k_br rfl (fun g2 => ?_) (fun g2 => ?_)
        · refine k_gp rfl rfl trivial ?_
          exact LX false ⟨(fun z => by cases z), fun z => absurd z.2 g2⟩ _ _
        · refine k_gp rfl rfl trivial ?_
          exact LX true ⟨fun _ => ⟨g1, Classical.byContradiction g2⟩, fun _ => rfl⟩ _ _
  refine LP (w 1 0 23).toNat _ w (by omega) (by omega) sm_rf (fun q a b d => ?_) (fun i a b => rfl) (fun i a b => by omega) _ _ _ _
  have := hF.1.1 q a b
  omega
end ME
