/-! ===== the reference: leads(), run() ===== -/
section ME
variable {r : Bool × Bool} {y : Bool} {w : mm_M}
/-- where an edge leads on to, from what is here -/
def ls_on (c e : Int → Int → Int) (here far : Int → Int) (x s u : Int) : Prop := ∃ v, (0 ≤ v ∧ v < 512) ∧ here v ≠ 0 ∧ go_ c e x v = u ∧ 0 ≤ u ∧ far (512 * e x 1 + u) = s + 1
theorem ev_m_leads {x s : Int} (h : mP w) (hx : 0 ≤ x ∧ x < w 1 0 8) (hs0 : 0 ≤ s ∧ s < 5000) : mm_Ev K_X10_leads (0, 0) [.inr (some (1, 0)), .inl x, .inl s] (PH r y) w (fun a b' w' => b' = PH r y ∧ sm [(14, none)] w w' ∧ (∀ u, 0 ≤ u → u < 512 → (0 ≤ w' 14 0 u ∧ w' 14 0 u ≤ 1) ∧ (w' 14 0 u ≠ 0 ↔ ls_on (m_c w) (m_e w) (w 13 0) (w 11 0) x s u)) ∧ ∃ z : Bool, a = some (.inl (ib (z = true))) ∧ (z = true ↔ ∃ u, (0 ≤ u ∧ u < 512) ∧ ls_on (m_c w) (m_e w) (w 13 0) (w 11 0) x s u)) := by
  refine ev_intro ok_X10_leads mo_X10_leads (Nat.le_of_ble_eq_true rfl) (fun hrg has => ?_)
  have hnp := h.1
  have hnv := h.2.2.1
  have hnc := h.2.2.2.1
  have hne := h.2.2.2.2.1
  have hE := h.2.2.2.2.2.2.1 x hx.1 hx.2
  have hB := hE.2.1
  refine k_gp rfl rfl trivial ?_
  refine mm_loop (σ := mm_M) 512 (fun i w1 => (0 ≤ i ∧ i ≤ 512) ∧ w1 = arrw w 14 0 i (fun _ => 0)) (fun i w1 => mm_Wk K_X10_leads (0, 0) 5 [some (.inr (some (1, 0))), some (.inl x), some (.inl s), some (.inl 0), some (.inl i), none] [] (PH r y) w1 (fun a b' w' => b' = PH r y ∧ sm [(14, none)] w w' ∧ (∀ u, 0 ≤ u → u < 512 → (0 ≤ w' 14 0 u ∧ w' 14 0 u ≤ 1) ∧ (w' 14 0 u ≠ 0 ↔ ls_on (m_c w) (m_e w) (w 13 0) (w 11 0) x s u)) ∧ ∃ z : Bool, a = some (.inl (ib (z = true))) ∧ (z = true ↔ ∃ u, (0 ≤ u ∧ u < 512) ∧ ls_on (m_c w) (m_e w) (w 13 0) (w 11 0) x s u))) ?_ ?_ 0 w ⟨by omega, arrw_0.symm⟩
  · intro i w1 h1 h2 ih
    obtain ⟨h2, rfl⟩ := h2
    refine k_gp rfl rfl trivial ?_
    refine k_brf rfl (by omega) ?_
    refine k_gp rfl rfl (by simp only [true_and, mm_fits]; omega) ?_
    exact ih _ ⟨by omega, arrw_s (by omega) (by omega) rfl⟩
  intro i w1 h1 h2
  obtain ⟨h2, rfl⟩ := h2
  have hi : i = 512 := by omega
  subst hi
  refine k_gp rfl rfl trivial ?_
  refine k_brt rfl (by omega) ?_
  refine k_gp rfl rfl trivial ?_
  have hsA : sm [(14, none)] w (arrw w 14 0 512 (fun _ => 0)) := sm_arrw sm_rf (by decide)
  refine mm_loop (σ := mm_M × Bool) 512 (fun i q => (0 ≤ i ∧ i ≤ 512) ∧ sm [(14, none)] w q.1 ∧ (∀ u, 0 ≤ u → u < 512 → (0 ≤ q.1 14 0 u ∧ q.1 14 0 u ≤ 1) ∧ (q.1 14 0 u ≠ 0 ↔ ∃ v, (0 ≤ v ∧ v < i) ∧ w 13 0 v ≠ 0 ∧ go_ (m_c w) (m_e w) x v = u ∧ 0 ≤ u ∧ w 11 0 (512 * m_e w x 1 + u) = s + 1)) ∧ (q.2 = true ↔ ∃ u, (0 ≤ u ∧ u < 512) ∧ q.1 14 0 u ≠ 0)) (fun i q => ∀ l5, mm_Wk K_X10_leads (0, 0) 30 [some (.inr (some (1, 0))), some (.inl x), some (.inl s), some (.inl (ib (q.2 = true))), some (.inl i), l5] [] (PH r y) q.1 (fun a b' w' => b' = PH r y ∧ sm [(14, none)] w w' ∧ (∀ u, 0 ≤ u → u < 512 → (0 ≤ w' 14 0 u ∧ w' 14 0 u ≤ 1) ∧ (w' 14 0 u ≠ 0 ↔ ls_on (m_c w) (m_e w) (w 13 0) (w 11 0) x s u)) ∧ ∃ z : Bool, a = some (.inl (ib (z = true))) ∧ (z = true ↔ ∃ u, (0 ≤ u ∧ u < 512) ∧ ls_on (m_c w) (m_e w) (w 13 0) (w 11 0) x s u))) ?_ ?_ 0 (arrw w 14 0 512 (fun _ => 0), false) ⟨by omega, hsA, fun u a b => ?_, ?_⟩ _
  · intro i q h1 h2 ih l5
    obtain ⟨w1, z⟩ := q
    obtain ⟨h2, hs, h3, h4⟩ := h2
    dsimp only at hs h3 h4 ⊢
    obtain ⟨hP1, ec, ee⟩ := mP_sm hs rfl (fun _ => rfl) (fun _ => rfl) (fun _ => rfl) h
    have e13 : w1 13 0 i = w 13 0 i := hs 13 0 i rfl
    have e11 : ∀ k, w1 11 0 k = w 11 0 k := fun k => hs 11 0 k rfl
    have e1 : w1 5 0 (7 * x + 1) = m_e w x 1 := by rw [← ee]; rfl
    have skip : ¬ (w 13 0 i ≠ 0 ∧ 0 ≤ go_ (m_c w) (m_e w) x i ∧ w 11 0 (512 * m_e w x 1 + go_ (m_c w) (m_e w) x i) = s + 1) → ∀ l5, mm_Wk K_X10_leads (0, 0) 105 [some (.inr (some (1, 0))), some (.inl x), some (.inl s), some (.inl (ib (z = true))), some (.inl i), l5] [] (PH r y) w1 (fun a b' w' => b' = PH r y ∧ sm [(14, none)] w w' ∧ (∀ u, 0 ≤ u → u < 512 → (0 ≤ w' 14 0 u ∧ w' 14 0 u ≤ 1) ∧ (w' 14 0 u ≠ 0 ↔ ls_on (m_c w) (m_e w) (w 13 0) (w 11 0) x s u)) ∧ ∃ z : Bool, a = some (.inl (ib (z = true))) ∧ (z = true ↔ ∃ u, (0 ≤ u ∧ u < 512) ∧ ls_on (m_c w) (m_e w) (w 13 0) (w 11 0) x s u)) := fun hn l5 => by
      refine k_gp rfl rfl (by simp only [true_and, mm_fits]; omega) ?_
      refine ih (w1, z) ⟨by omega, hs, fun u a b => ⟨(h3 u a b).1, (h3 u a b).2.trans ⟨fun ⟨v, v1, v2⟩ => ⟨v, by omega, v2⟩, fun ⟨v, v1, v2, v3, v4, v5⟩ => ?_⟩⟩, h4⟩ _
      by_cases hv : v = i
      · subst hv
        exact absurd ⟨v2, by rw [v3]; exact v4, by rw [v3]; exact v5⟩ hn
      · exact ⟨v, by omega, v2, v3, v4, v5⟩
    refine k_gp rfl rfl trivial ?_
    refine k_brf rfl (by omega) ?_
    refine k_gp rfl rfl (by simp only [true_and, mm_fits]; omega) ?_
    rw [e13]
    refine k_br rfl (fun g1 => ?_) (fun g1 => ?_)
    · refine k_gp rfl rfl trivial ?_
      refine k_gp rfl rfl trivial ?_
      refine k_brt rfl (by decide) ?_
      exact skip (fun q => q.1 g1) _
    · refine k_gp rfl rfl trivial ?_
      refine k_callp rfl (ev_m_goes (np := w 1 0 2) (nc := w 1 0 6) (nv := w 1 0 4) (by omega) (by omega) (by omega) (by omega) (by rw [ec]; exact h.2.2.2.2.2.1) (by rw [ee]; exact hE)) rfl rfl rfl (by decide) ?_
      rw [ec, ee]
      have hgo := go_in (c := m_c w) (all := i) (by omega) (by omega) hE
      refine k_gp rfl rfl trivial ?_
      refine k_gp rfl rfl trivial ?_
      refine k_br rfl (fun g2 => ?_) (fun g2 => ?_)
      · exact skip (fun q => by omega) _
      · refine k_gp rfl rfl (by simp only [true_and, mm_fits, e1]; omega) ?_
        rw [e1, e11]
        refine k_br rfl (fun g3 => ?_) (fun g3 => ?_)
        · exact skip (fun q => g3 q.2.2) _
        · have g3 : w 11 0 (512 * m_e w x 1 + go_ (m_c w) (m_e w) x i) = s + 1 := Classical.byContradiction g3
          refine k_gp rfl rfl (by simp only [true_and, mm_fits]; omega) ?_
          refine k_gp rfl rfl (by simp only [true_and, mm_fits]; omega) ?_
          have hsU : sm [(14, none)] w (mm_up w1 14 0 (go_ (m_c w) (m_e w) x i) 1) := sm_up hs (Or.inl (by decide))
          refine ih (mm_up w1 14 0 (go_ (m_c w) (m_e w) x i) 1, true) ⟨by omega, hsU, fun u a b => ?_, ?_⟩ _
          · dsimp only
            by_cases hu : u = go_ (m_c w) (m_e w) x i
            · subst hu
              rw [up_s]
              exact ⟨by omega, fun _ => ⟨i, by omega, g1, rfl, by omega, g3⟩, fun _ => by decide⟩
            · rw [up_k hu]
              refine ⟨(h3 u a b).1, (h3 u a b).2.trans ⟨fun ⟨v, v1, v2⟩ => ⟨v, by omega, v2⟩, fun ⟨v, v1, v2, v3, v4, v5⟩ => ?_⟩⟩
              by_cases hv : v = i
              · subst hv; exact absurd v3.symm hu
              · exact ⟨v, by omega, v2, v3, v4, v5⟩
          · exact ⟨fun _ => ⟨go_ (m_c w) (m_e w) x i, by omega, by dsimp only; rw [up_s]; decide⟩, fun _ => rfl⟩
  · intro i q h1 h2 l5
    obtain ⟨w1, z⟩ := q
    obtain ⟨h2, hs, h3, h4⟩ := h2
    dsimp only at hs h3 h4 ⊢
    have hi : i = 512 := by omega
    subst hi
    refine k_gp rfl rfl trivial ?_
    refine k_brt rfl (by omega) ?_
    refine k_gp rfl rfl trivial ?_
    refine k_ret rfl (ib_in _) ⟨rfl, hs, h3, z, rfl, h4.trans ⟨fun ⟨u, u1, u2⟩ => ⟨u, u1, (h3 u u1.1 u1.2).2.mp u2⟩, fun ⟨u, u1, u2⟩ => ⟨u, u1, (h3 u u1.1 u1.2).2.mpr u2⟩⟩⟩
  · dsimp only
    rw [arrw_in (by omega)]
    exact ⟨by omega, fun q => absurd rfl q, fun ⟨v, v1, _⟩ => by omega⟩
  · refine ⟨(fun q => by cases q), fun ⟨u, u1, u2⟩ => absurd ?_ u2⟩
    dsimp only
    rw [arrw_in (by omega)]
theorem Rch_place {c e : Int → Int → Int} {f : Int → Int} {nv ne : Int} {ρ : List Int} {x q np nc : Int} (hnp : np ≤ 8) (hnv : nv ≤ 3) (hE : ∀ x, 0 ≤ x → x < ne → eOK e x np nc nv) (h : RN c e f nv ne (ρ ++ [x]) q) : q / 512 = e x 1 := by
  obtain ⟨m, m1, m2, m3, m4⟩ := RN_snoc.mp h
  have := (Rch_in hnp hnv hE _ _ (RN_Rch m1)).1
  have := stp_in (c := c) this.1 hnp hnv (hE x m2.1 m2.2) (by rw [m3]; exact m4)
  rw [m3] at this
  exact this.2.1
abbrev runL : List (Nat × Option Int) := [(11, none), (12, none), (13, none), (14, none), (1, some 23)]
/-- the answer of run() -/
def RA (c e : Int → Int → Int) (f : Int → Int) (nv ne trap i z : Int) : Prop := (i < -1 → z = -1) ∧ (-1 ≤ i → ∃ D, RD (Rch c e f nv ne) trap D ∧ (i = -1 → z = D) ∧ (0 ≤ i → (D < 0 ∨ D ≤ i → z = -4) ∧ (i < D → ∃ ρ, RU c e f nv ne trap D.toNat ρ ∧ ρ[i.toNat]? = some z)))
theorem RA_u {c e : Int → Int → Int} {f : Int → Int} {nv ne trap i z z' : Int} (h : RA c e f nv ne trap i z) (h' : RA c e f nv ne trap i z') : z = z' := by
  by_cases hi : i < -1
  · rw [h.1 hi, h'.1 hi]
  · obtain ⟨D, d1, d2, d3⟩ := h.2 (by omega)
    obtain ⟨D', e1, e2, e3⟩ := h'.2 (by omega)
    have := RD_u d1 e1
    subst this
    by_cases h1 : i = -1
    · rw [d2 h1, e2 h1]
    · obtain ⟨d4, d5⟩ := d3 (by omega)
      obtain ⟨e4, e5⟩ := e3 (by omega)
      by_cases h2 : i < D
      · obtain ⟨ρ, r1, r2⟩ := d5 h2
        obtain ⟨σ, s1, s2⟩ := e5 h2
        rw [RU_u r1 s1, s2] at r2
        exact (Option.some.inj r2).symm
      · rw [d4 (by omega), e4 (by omega)]
theorem ev_m_run {i : Int} (h : mP w) : mm_Ev K_X10_run (0, 0) [.inr (some (1, 0)), .inl i] (PH r y) w (fun a b' w' => b' = PH r y ∧ sm runL w w' ∧ ∃ z, a = some (.inl z) ∧ RA (m_c w) (m_e w) (w 3 0) (w 1 0 4) (w 1 0 8) (w 1 0 3) i z) := by
  refine ev_intro ok_X10_run mo_X10_run (Nat.le_of_ble_eq_true rfl) (fun hrg has => ?_)
  have hnp := h.1
  have htr := h.2.1
  have hnv := h.2.2.1
  have hnc := h.2.2.2.1
  have hne := h.2.2.2.2.1
  have hE := h.2.2.2.2.2.2.1
  refine k_gp rfl rfl trivial ?_
  refine k_br rfl (fun g1 => ?_) (fun g1 => ?_)
  · refine k_gp rfl rfl trivial ?_
    refine k_call0 rfl (ev_m_spreads h) rfl rfl rfl (by decide) ?_
    rintro a b' w1 ⟨rfl, rfl, hs, hF⟩
    have ht1 : w1 1 0 3 = w 1 0 3 := hs 1 0 3 rfl
    refine k_gp rfl rfl trivial ?_
    rw [ht1]
    refine k_call0 rfl (ev_m_nearest (by omega) hF) rfl rfl rfl (by decide) ?_
    rintro a b' w2 ⟨⟨D, rfl, hD⟩, rfl, rfl⟩
    have hsr : sm runL w w2 := sm_w hs (by decide)
    have hDlt : D < 5000 := by
      rcases hD with ⟨q, -⟩ | ⟨q1, ⟨v, v1, v2⟩, q3⟩
      · omega
      · have f1 := (hF.2 _ _ v2).1
        have hin := (Rch_in (np := w 1 0 2) (nc := w 1 0 6) (by omega) (by omega) hE _ _ v2).1
        obtain ⟨j, j1, j2⟩ := hF.1.2.2.1 _ hin.1 hin.2 f1
        have j3 := hF.1.2.1 j j1.1 j1.2
        have := q3 v v1.1 v1.2 _ (by rw [← j2]; exact j3.2.2)
        have := hF.1.2.2.2.2.2
        have := cnt_le (fun q => decide (0 ≤ w2 11 0 q)) 4096
        omega
    have J33 : (i < 0 ∨ D < 0 ∨ D ≤ i) → ∀ l3 l4 l5 l6, mm_Wk K_X10_run (0, 0) 33 [some (.inr (some (1, 0))), some (.inl i), some (.inl D), l3, l4, l5, l6] [] (PH r y) w2 (fun a b' w' => b' = PH r y ∧ sm runL w w' ∧ ∃ z, a = some (.inl z) ∧ RA (m_c w) (m_e w) (w 3 0) (w 1 0 4) (w 1 0 8) (w 1 0 3) i z) := fun hc l3 l4 l5 l6 => by
      refine k_gp rfl rfl trivial ?_
      refine k_br rfl (fun g2 => ?_) (fun g2 => ?_)
      · refine k_gp rfl rfl trivial ?_
        exact k_ret rfl trivial ⟨rfl, hsr, -4, rfl, fun q => by omega, fun _ => ⟨D, hD, fun q => by omega, fun _ => ⟨fun _ => rfl, fun q => by omega⟩⟩⟩
      · refine k_gp rfl rfl trivial ?_
        exact k_ret rfl trivial ⟨rfl, hsr, D, rfl, fun q => by omega, fun _ => ⟨D, hD, fun _ => rfl, fun q => by omega⟩⟩
    refine k_gp rfl rfl trivial ?_
    refine k_br rfl (fun g2 => J33 (by omega) _ _ _ _) (fun g2 => ?_)
    refine k_gp rfl rfl trivial ?_
    refine k_br rfl (fun g3 => J33 (by omega) _ _ _ _) (fun g3 => ?_)
    refine k_gp rfl rfl trivial ?_
    refine k_br rfl (fun g4 => ?_) (fun g4 => J33 (by omega) _ _ _ _)
    -- the run itself
    obtain ⟨d1, ⟨v0, v1, v2⟩, d3⟩ : 0 ≤ D ∧ (∃ v, (0 ≤ v ∧ v < 512) ∧ mR w D.toNat (512 * w 1 0 3 + v)) ∧ ∀ v, 0 ≤ v → v < 512 → ∀ k : Nat, mR w k (512 * w 1 0 3 + v) → D ≤ k := hD.resolve_left (fun q => by omega)
    have hmin : ∀ k q, mR w k q → q / 512 = w 1 0 3 → D.toNat ≤ k := fun k q a b => by
      have := d3 (q % 512) (by omega) (by omega) k (by rw [show 512 * w 1 0 3 + q % 512 = q by omega]; exact a)
      omega
    refine k_gp rfl rfl trivial ?_
    refine k_call0 rfl (ev_m_prunes (w0 := w) (D := D) h hs hF (by omega) hmin) rfl rfl rfl (by decide) ?_
    rintro a b' w3 ⟨rfl, rfl, hs3, hP3⟩
    -- far, now
    have far1 : ∀ (s : Nat) (q : Int), 0 ≤ q → q < 4096 → (w3 11 0 q = s ↔ mR w s q ∧ mG w D.toNat s q) := fun s q a b => by
      constructor
      · intro hq
        have hc : 0 ≤ w2 11 0 q ∧ w2 11 0 q ≤ D ∧ mG w D.toNat (w2 11 0 q).toNat q := Classical.byContradiction fun z => by have := (hP3 q a b).2 z; omega
        have := (hP3 q a b).1 hc
        obtain ⟨j, j1, j2⟩ := hF.1.2.2.1 _ a b hc.1
        have j3 := (hF.1.2.1 j j1.1 j1.2).2.2
        rw [j2, show (w2 11 0 q).toNat = s by omega] at j3
        have j4 := hc.2.2
        rw [show (w2 11 0 q).toNat = s by omega] at j4
        exact ⟨j3, j4⟩
      · rintro ⟨r1, r2⟩
        obtain ⟨f1, f2⟩ := hF.2 _ _ r1
        obtain ⟨j, j1, j2⟩ := hF.1.2.2.1 _ a b f1
        have j3 := (hF.1.2.1 j j1.1 j1.2).2.2
        rw [j2] at j3
        have := Gd_far hmin r2 j3
        have hs : (w2 11 0 q).toNat = s := by omega
        have hsD : s ≤ D.toNat := by obtain ⟨τ, q', t1, -⟩ := r2; omega
        rw [(hP3 q a b).1 ⟨f1, by omega, by rw [hs]; exact r2⟩]
        omega
    have hs03 : sm runL w w3 := sm_tr hsr (sm_w hs3 (by decide))
    refine k_gp rfl rfl trivial ?_
    refine mm_loop (σ := mm_M) 512 (fun j w4 => (0 ≤ j ∧ j ≤ 512) ∧ w4 = arrw w3 13 0 j (fun v => ib (w3 11 0 v = 0))) (fun j w4 => mm_Wk K_X10_run (0, 0) 51 [some (.inr (some (1, 0))), some (.inl i), some (.inl D), some (.inl j), none, none, none] [] (PH r y) w4 (fun a b' w' => b' = PH r y ∧ sm runL w w' ∧ ∃ z, a = some (.inl z) ∧ RA (m_c w) (m_e w) (w 3 0) (w 1 0 4) (w 1 0 8) (w 1 0 3) i z)) ?_ ?_ 0 w3 ⟨by omega, arrw_0.symm⟩
    · intro j w4 h1 h2 ih
      obtain ⟨h2, rfl⟩ := h2
      have e11 : arrw w3 13 0 j (fun v => ib (w3 11 0 v = 0)) 11 0 j = w3 11 0 j := arrw_g rfl
      refine k_gp rfl rfl trivial ?_
      refine k_brf rfl (by omega) ?_
      refine k_gp rfl rfl (by simp only [true_and, mm_fits]; omega) ?_
      rw [e11]
      refine k_br rfl (fun g5 => ?_) (fun g5 => ?_)
      · refine k_gp rfl rfl trivial ?_
        refine k_gp rfl rfl (by simp only [true_and, mm_fits]; omega) ?_
        exact ih _ ⟨by omega, arrw_s (by omega) (by omega) (by rw [ib_f g5])⟩
      · refine k_gp rfl rfl trivial ?_
        refine k_gp rfl rfl (by simp only [true_and, mm_fits]; omega) ?_
        exact ih _ ⟨by omega, arrw_s (by omega) (by omega) (by rw [ib_t (Classical.byContradiction g5)])⟩
    intro j w4 h1 h2
    obtain ⟨h2, rfl⟩ := h2
    have hj : j = 512 := by omega
    subst hj
    refine k_gp rfl rfl trivial ?_
    refine k_brt rfl (by omega) ?_
    refine k_gp rfl rfl trivial ?_
    have hsA : sm [(13, none), (14, none)] w3 (arrw w3 13 0 512 (fun v => ib (w3 11 0 v = 0))) := sm_arrw sm_rf (by decide)
    refine mm_loop (σ := mm_M × List Int × Int × Int) (i + 1) (fun s q => (0 ≤ s ∧ s ≤ i + 1) ∧ sm [(13, none), (14, none)] w3 q.1 ∧ PX (m_c w) (m_e w) (w 3 0) (w 1 0 4) (w 1 0 8) (w 1 0 3) D.toNat s.toNat q.2.1 ∧ (0 ≤ q.2.2.1 ∧ q.2.2.1 < 8) ∧ (∀ z, RN (m_c w) (m_e w) (w 3 0) (w 1 0 4) (w 1 0 8) q.2.1 z → z / 512 = q.2.2.1) ∧ (∀ v, 0 ≤ v → v < 512 → (0 ≤ q.1 13 0 v ∧ q.1 13 0 v ≤ 1) ∧ (q.1 13 0 v ≠ 0 ↔ RN (m_c w) (m_e w) (w 3 0) (w 1 0 4) (w 1 0 8) q.2.1 (512 * q.2.2.1 + v) ∧ mG w D.toNat s.toNat (512 * q.2.2.1 + v))) ∧ (0 < s → q.2.1[(s - 1).toNat]? = some q.2.2.2)) (fun s q => ∀ l6, mm_Wk K_X10_run (0, 0) 93 [some (.inr (some (1, 0))), some (.inl i), some (.inl D), some (.inl q.2.2.1), some (.inl q.2.2.2), some (.inl s), l6] [] (PH r y) q.1 (fun a b' w' => b' = PH r y ∧ sm runL w w' ∧ ∃ z, a = some (.inl z) ∧ RA (m_c w) (m_e w) (w 3 0) (w 1 0 4) (w 1 0 8) (w 1 0 3) i z)) ?_ ?_ 0 (arrw w3 13 0 512 (fun v => ib (w3 11 0 v = 0)), [], 0, -4) ⟨by omega, hsA, PX_0 v2 (by omega), ⟨by dsimp only; omega, by dsimp only; omega⟩, fun z hz => ?_, fun v a b => ?_, fun q => by omega⟩ _
    · intro s q h1 h2 ih l6
      obtain ⟨w4, ρ, pl, by_⟩ := q
      obtain ⟨h2, hs4, hPX, hpl, hRp, hhere, -⟩ := h2
      dsimp only at hs4 hPX hpl hRp hhere ⊢
      have hs04 : sm runL w w4 := sm_tr hs03 (sm_w hs4 (by decide))
      obtain ⟨hP4, ec, ee⟩ := mP_sm hs04 rfl (fun _ => rfl) (fun _ => rfl) (fun _ => rfl) h
      have e11 : w4 11 0 = w3 11 0 := funext fun k => hs4 11 0 k rfl
      have hne4 : w4 1 0 8 = w 1 0 8 := hs04 1 0 8 rfl
      -- an edge leads on just if the run may go on by it
      have hon : ∀ x, 0 ≤ x → x < w 1 0 8 → m_e w x 0 = pl → ∀ u, 0 ≤ u → u < 512 → (ls_on (m_c w) (m_e w) (w4 13 0) (w3 11 0) x s u ↔ RN (m_c w) (m_e w) (w 3 0) (w 1 0 4) (w 1 0 8) (ρ ++ [x]) (512 * m_e w x 1 + u) ∧ mG w D.toNat (s.toNat + 1) (512 * m_e w x 1 + u)) := fun x x1 x2 x3 u u1 u2 => by
        have hB := (hE x x1 x2).2.1
        constructor
        · rintro ⟨v, a1, a2, a3, a4, a5⟩
          obtain ⟨b1, b2⟩ := (hhere v a1.1 a1.2).2.mp a2
          have hst : stp (m_c w) (m_e w) x (512 * pl + v) = 512 * m_e w x 1 + u := by
            unfold stp
            rw [show (512 * pl + v) % 512 = v by omega, show (512 * pl + v) / 512 = pl by omega, if_pos ⟨x3, by rw [a3]; exact a4⟩, a3]
          have := (far1 (s.toNat + 1) (512 * m_e w x 1 + u) (by omega) (by omega)).mp (by rw [a5]; omega)
          exact ⟨RN_snoc.mpr ⟨_, b1, ⟨x1, x2⟩, hst, by omega⟩, this.2⟩
        · rintro ⟨b1, b2⟩
          obtain ⟨m, m1, m2, m3, m4⟩ := RN_snoc.mp b1
          have hm := (Rch_in (np := w 1 0 2) (nc := w 1 0 6) (by omega) (by omega) hE _ _ (RN_Rch m1)).1
          have hmp := hRp m m1
          have hst := stp_in (c := m_c w) hm.1 (by omega) (by omega) (hE x x1 x2) (by rw [m3]; exact m4)
          rw [m3] at hst
          have hgm : mG w D.toNat s.toNat m := Gd_back (x := x) m2 (by rw [m3]; exact m4) (by rw [m3]; exact b2)
          refine ⟨m % 512, by omega, (hhere (m % 512) (by omega) (by omega)).2.mpr (by rw [show 512 * pl + m % 512 = m by omega]; exact ⟨m1, hgm⟩), by omega, u1, ?_⟩
          have hR : mR w (s.toNat + 1) (512 * m_e w x 1 + u) := by
            have := RN_Rch b1
            rw [List.length_append, hPX.1] at this
            exact this
          rw [(far1 (s.toNat + 1) (512 * m_e w x 1 + u) (by omega) (by omega)).mpr ⟨hR, b2⟩]
          omega
      -- there is such an edge
      obtain ⟨x0, x1, x2, x3⟩ : ∃ x0, (0 ≤ x0 ∧ x0 < w 1 0 8) ∧ (∃ m, RN (m_c w) (m_e w) (w 3 0) (w 1 0 4) (w 1 0 8) ρ m ∧ 0 ≤ stp (m_c w) (m_e w) x0 m ∧ mG w D.toNat (s.toNat + 1) (stp (m_c w) (m_e w) x0 m)) ∧ ∀ y, (0 ≤ y ∧ y < w 1 0 8) → (∃ m, RN (m_c w) (m_e w) (w 3 0) (w 1 0 4) (w 1 0 8) ρ m ∧ 0 ≤ stp (m_c w) (m_e w) y m ∧ mG w D.toNat (s.toNat + 1) (stp (m_c w) (m_e w) y m)) → x0 ≤ y := by
        obtain ⟨q, q1, q2⟩ := hPX.2.1
        obtain ⟨x, a1, a2, a3⟩ := Gd_step q2 (by omega)
        obtain ⟨z, z1, z2, z3⟩ := least_x (P := fun x => (0 ≤ x ∧ x < w 1 0 8) ∧ ∃ m, RN (m_c w) (m_e w) (w 3 0) (w 1 0 4) (w 1 0 8) ρ m ∧ 0 ≤ stp (m_c w) (m_e w) x m ∧ mG w D.toNat (s.toNat + 1) (stp (m_c w) (m_e w) x m)) a1.1 ⟨a1, q, q1, a2, a3⟩
        exact ⟨z, z2.1, z2.2, fun y y1 y2 => z3 y y1.1 ⟨y1, y2⟩⟩
      have hany : ∀ x, 0 ≤ x → x < w 1 0 8 → ((m_e w x 0 = pl ∧ ∃ u, (0 ≤ u ∧ u < 512) ∧ ls_on (m_c w) (m_e w) (w4 13 0) (w3 11 0) x s u) ↔ ∃ m, RN (m_c w) (m_e w) (w 3 0) (w 1 0 4) (w 1 0 8) ρ m ∧ 0 ≤ stp (m_c w) (m_e w) x m ∧ mG w D.toNat (s.toNat + 1) (stp (m_c w) (m_e w) x m)) := fun x a b => by
        have hB := (hE x a b).2.1
        constructor
        · rintro ⟨p1, u, u1, u2⟩
          obtain ⟨b1, b2⟩ := (hon x a b p1 u u1.1 u1.2).mp u2
          obtain ⟨m, m1, m2, m3, m4⟩ := RN_snoc.mp b1
          exact ⟨m, m1, by rw [m3]; exact m4, by rw [m3]; exact b2⟩
        · rintro ⟨m, m1, m2, m3⟩
          have hm := (Rch_in (np := w 1 0 2) (nc := w 1 0 6) (by omega) (by omega) hE _ _ (RN_Rch m1)).1
          have hst := stp_in (c := m_c w) hm.1 (by omega) (by omega) (hE x a b) m2
          have hmp := hRp m m1
          have hgo := go_in (c := m_c w) (all := m % 512) (by omega) (by omega) (hE x a b)
          have p1 : m_e w x 0 = pl := by omega
          refine ⟨p1, stp (m_c w) (m_e w) x m % 512, by omega, (hon x a b p1 _ (by omega) (by omega)).mpr ?_⟩
          rw [show 512 * m_e w x 1 + stp (m_c w) (m_e w) x m % 512 = stp (m_c w) (m_e w) x m by omega]
          exact ⟨RN_snoc.mpr ⟨m, m1, ⟨a, b⟩, rfl, m2⟩, m3⟩
      refine k_gp rfl rfl trivial ?_
      refine k_brf rfl (by omega) ?_
      refine k_gp rfl rfl trivial ?_
      have LB : ∀ (n : Nat) (b_ : Int) (w5 : mm_M), b_ + n = x0 → 0 ≤ b_ → sm [(14, none)] w4 w5 → ∀ l6, mm_Wk K_X10_run (0, 0) 102 [some (.inr (some (1, 0))), some (.inl i), some (.inl D), some (.inl pl), some (.inl b_), some (.inl s), l6] [] (PH r y) w5 (fun a b' w' => b' = PH r y ∧ sm runL w w' ∧ ∃ z, a = some (.inl z) ∧ RA (m_c w) (m_e w) (w 3 0) (w 1 0 4) (w 1 0 8) (w 1 0 3) i z) := by
        intro n
        induction n with
        | zero =>
          intro b_ w5 hb hb0 hs5 l6
          have hb : b_ = x0 := by omega
          subst hb
          have hs05 : sm runL w w5 := sm_tr hs04 (sm_w hs5 (by decide))
          obtain ⟨hP5, ec5, ee5⟩ := mP_sm hs05 rfl (fun _ => rfl) (fun _ => rfl) (fun _ => rfl) h
          have e0 : w5 5 0 (7 * b_) = m_e w b_ 0 := by rw [← ee5]; exact (m_e0 w5 b_).symm
          obtain ⟨p1, p2⟩ := (hany b_ x1.1 x1.2).mpr x2
          have f11 : w5 11 0 = w3 11 0 := by rw [← e11]; exact funext fun k => hs5 11 0 k rfl
          have f13 : w5 13 0 = w4 13 0 := funext fun k => hs5 13 0 k rfl
          refine k_gp rfl rfl (by simp only [true_and, mm_fits]; omega) ?_
          rw [e0]
          refine k_brf rfl (by omega) ?_
          refine k_gp rfl rfl trivial ?_
          refine k_call0 rfl (ev_m_leads hP5 (by rw [show w5 1 0 8 = w 1 0 8 from hs05 1 0 8 rfl]; exact x1) (by omega)) rfl rfl rfl (by decide) ?_
          rintro a b' w6 ⟨rfl, hs6, hth, z, rfl, hz⟩
          rw [ec5, ee5, f11, f13] at hth hz
          have hz1 : z = true := hz.mpr p2
          rw [hz1]
          refine k_brt rfl (by decide) ?_
          have hs06 : sm runL w w6 := sm_tr hs05 (sm_w hs6 (by decide))
          have e1 : w6 5 0 (7 * b_ + 1) = m_e w b_ 1 := by
            rw [hs06 5 0 _ rfl]; rfl
          refine k_gp rfl rfl (by simp only [true_and, mm_fits]; omega) ?_
          rw [e1]
          have hB := (hE b_ x1.1 x1.2).2.1
          refine mm_loop (σ := mm_M) 512 (fun j w7 => (0 ≤ j ∧ j ≤ 512) ∧ w7 = arrw w6 13 0 j (fun v => w6 14 0 v)) (fun j w7 => mm_Wk K_X10_run (0, 0) 149 [some (.inr (some (1, 0))), some (.inl i), some (.inl D), some (.inl (m_e w b_ 1)), some (.inl b_), some (.inl s), some (.inl j)] [] (PH r y) w7 (fun a b' w' => b' = PH r y ∧ sm runL w w' ∧ ∃ z, a = some (.inl z) ∧ RA (m_c w) (m_e w) (w 3 0) (w 1 0 4) (w 1 0 8) (w 1 0 3) i z)) ?_ ?_ 0 w6 ⟨by omega, arrw_0.symm⟩
          · intro j w7 j1 j2 ihj
            obtain ⟨j2, rfl⟩ := j2
            have e14 : arrw w6 13 0 j (fun v => w6 14 0 v) 14 0 j = w6 14 0 j := arrw_g rfl
            have hb01 := (hth j (by omega) (by omega)).1
            refine k_gp rfl rfl trivial ?_
            refine k_brf rfl (by omega) ?_
            refine k_gp rfl rfl (by simp only [true_and, mm_fits, e14]; omega) ?_
            exact ihj _ ⟨by omega, arrw_s (by omega) (by omega) e14⟩
          · intro j w7 j1 j2
            obtain ⟨j2, rfl⟩ := j2
            have hj : j = 512 := by omega
            subst hj
            refine k_gp rfl rfl trivial ?_
            refine k_brt rfl (by omega) ?_
            refine k_gp rfl rfl (by simp only [true_and, mm_fits]; omega) ?_
            have hPX2 := PX_step hPX (by omega) (by obtain ⟨m, m1, m2, m3⟩ := x2; exact ⟨m, m1, x1, m2, m3⟩) (fun y m a b d g => x3 y b ⟨m, a, d, g⟩)
            have hsU : sm [(13, none), (14, none)] w3 (arrw w6 13 0 512 (fun v => w6 14 0 v)) := sm_tr hs4 (sm_tr (sm_w hs5 (by decide)) (sm_tr (sm_w hs6 (by decide)) (sm_arrw sm_rf (by decide))))
            refine ih (arrw w6 13 0 512 (fun v => w6 14 0 v), ρ ++ [b_], m_e w b_ 1, b_) ⟨by omega, hsU, ?_, ⟨by dsimp only; omega, by dsimp only; omega⟩, fun z hz => Rch_place (np := w 1 0 2) (nc := w 1 0 6) (by omega) (by omega) hE hz, fun v a b => ?_, fun _ => ?_⟩ _
            · rw [show (s + 1).toNat = s.toNat + 1 by omega]; exact hPX2
            · dsimp only
              rw [arrw_in (by omega), show v - 0 = v by omega, show (s + 1).toNat = s.toNat + 1 by omega]
              obtain ⟨t1, t2⟩ := hth v a b
              exact ⟨t1, t2.trans (hon b_ x1.1 x1.2 p1 v a b)⟩
            · dsimp only
              rw [List.getElem?_append_right (by rw [hPX.1]; omega), hPX.1, show (s + 1 - 1).toNat - s.toNat = 0 by omega]
              rfl
        | succ n ihn =>
          intro b_ w5 hb hb0 hs5 l6
          have hs05 : sm runL w w5 := sm_tr hs04 (sm_w hs5 (by decide))
          obtain ⟨hP5, ec5, ee5⟩ := mP_sm hs05 rfl (fun _ => rfl) (fun _ => rfl) (fun _ => rfl) h
          have e0 : w5 5 0 (7 * b_) = m_e w b_ 0 := by rw [← ee5]; exact (m_e0 w5 b_).symm
          have f11 : w5 11 0 = w3 11 0 := by rw [← e11]; exact funext fun k => hs5 11 0 k rfl
          have f13 : w5 13 0 = w4 13 0 := funext fun k => hs5 13 0 k rfl
          have hno : ¬ (m_e w b_ 0 = pl ∧ ∃ u, (0 ≤ u ∧ u < 512) ∧ ls_on (m_c w) (m_e w) (w4 13 0) (w3 11 0) b_ s u) := fun q => by
            have := x3 b_ (by omega) ((hany b_ hb0 (by omega)).mp q)
            omega
          have nxt : ∀ w6, sm [(14, none)] w4 w6 → ∀ l6, mm_Wk K_X10_run (0, 0) 127 [some (.inr (some (1, 0))), some (.inl i), some (.inl D), some (.inl pl), some (.inl b_), some (.inl s), l6] [] (PH r y) w6 (fun a b' w' => b' = PH r y ∧ sm runL w w' ∧ ∃ z, a = some (.inl z) ∧ RA (m_c w) (m_e w) (w 3 0) (w 1 0 4) (w 1 0 8) (w 1 0 3) i z) := fun w6 hs6 l6 => by
            refine k_gp rfl rfl (by simp only [true_and, mm_fits]; omega) ?_
            exact ihn (b_ + 1) w6 (by omega) (by omega) hs6 _
          refine k_gp rfl rfl (by simp only [true_and, mm_fits]; omega) ?_
          rw [e0]
          refine k_br rfl (fun g5 => nxt w5 hs5 _) (fun g5 => ?_)
          have g5 : m_e w b_ 0 = pl := Classical.byContradiction g5
          refine k_gp rfl rfl trivial ?_
          refine k_call0 rfl (ev_m_leads hP5 (by rw [show w5 1 0 8 = w 1 0 8 from hs05 1 0 8 rfl]; omega) (by omega)) rfl rfl rfl (by decide) ?_
          rintro a b' w6 ⟨rfl, hs6, hth, z, rfl, hz⟩
          rw [ec5, ee5, f11, f13] at hz
          have hz1 : z = false := by
            cases z with
            | false => rfl
            | true => exact absurd ⟨g5, hz.mp rfl⟩ hno
          rw [hz1]
          refine k_brf rfl (by decide) ?_
          exact nxt w6 (sm_tr hs5 hs6) _
      exact LB x0.toNat 0 w4 (by omega) (by omega) sm_rf _
    · intro s q h1 h2 l6
      obtain ⟨w4, ρ, pl, by_⟩ := q
      obtain ⟨h2, hs4, hPX, hpl, hRp, hhere, hby⟩ := h2
      dsimp only at hs4 hPX hpl hRp hhere hby ⊢
      have hsi : s = i + 1 := by omega
      subst hsi
      refine k_gp rfl rfl trivial ?_
      refine k_brt rfl (by omega) ?_
      refine k_gp rfl rfl trivial ?_
      refine k_ret rfl trivial ⟨rfl, sm_tr hs03 (sm_w hs4 (by decide)), by_, rfl, fun q => by omega, fun _ => ⟨D, hD, fun q => by omega, fun _ => ⟨fun q => by omega, fun _ => ?_⟩⟩⟩
      obtain ⟨τ, hτ⟩ := PX_full (D.toNat - (i + 1).toNat) _ ρ (by omega) hPX
      refine ⟨ρ ++ τ, hτ, ?_⟩
      have hb := hby (by omega)
      rw [show (i + 1 - 1).toNat = i.toNat by omega] at hb
      rw [List.getElem?_append_left (List.getElem?_eq_some_iff.mp hb).1]
      exact hb
    · obtain ⟨q0, h0, h1⟩ := hz
      cases h1
      have := h0.1
      have := h0.2.1
      dsimp only
      omega
    · dsimp only
      rw [arrw_in (by omega), show v - 0 = v by omega]
      refine ⟨ib_in _, ?_⟩
      have := far1 0 v a (by omega)
      rw [show 512 * 0 + v = v by omega]
      constructor
      · intro q
        have q1 : w3 11 0 v = 0 := Classical.byContradiction fun z => q (ib_f z)
        obtain ⟨t1, t2⟩ := this.mp q1
        exact ⟨⟨v, t1, rfl⟩, t2⟩
      · rintro ⟨⟨q0, t1, t2⟩, t3⟩
        cases t2
        have q1 : w3 11 0 v = 0 := this.mpr ⟨t1, t3⟩
        rw [ib_t q1]
        decide
  · refine k_gp rfl rfl trivial ?_
    exact k_ret rfl trivial ⟨rfl, sm_rf, -1, rfl, fun _ => rfl, fun q => by omega⟩
end ME
