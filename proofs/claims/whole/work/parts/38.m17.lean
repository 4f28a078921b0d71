/-! ===== the reference: how far the path can be gone; path() ===== -/
/-- values behind k edges of a row -/
def Vs (c e : Int → Int → Int) (f : Int → Int) (nv : Int) (ρ : List Int) : Nat → Int → Prop
  | 0, v => (0 ≤ v ∧ v < 512) ∧ fsB f nv v = true
  | k + 1, v => ∃ u, Vs c e f nv ρ k u ∧ go_ c e (ρ.getD k 0) u = v ∧ 0 ≤ v
def FAR (c e : Int → Int → Int) (f : Int → Int) (nv : Int) (ρ : List Int) (z : Int) : Prop := (0 ≤ z ∧ z ≤ ρ.length) ∧ (∀ j : Nat, (j : Int) < z → ∃ v, Vs c e f nv ρ (j + 1) v) ∧ (z < ρ.length → ¬ ∃ v, Vs c e f nv ρ (z.toNat + 1) v)
theorem FAR_u {c e : Int → Int → Int} {f : Int → Int} {nv : Int} {ρ : List Int} {z z' : Int} (h : FAR c e f nv ρ z) (h' : FAR c e f nv ρ z') : z = z' := by
  rcases Int.lt_trichotomy z z' with q | q | q
  · exact absurd (h'.2.1 z.toNat (by have := h.1; omega)) (h.2.2 (by have := h'.1; omega))
  · exact q
  · exact absurd (h.2.1 z'.toNat (by have := h'.1; omega)) (h'.2.2 (by have := h.1; omega))
theorem Vs_in {c e : Int → Int → Int} {f : Int → Int} {nv ne np nc : Int} {ρ : List Int} (hnv : nv ≤ 3) (hE : ∀ x, 0 ≤ x → x < ne → eOK e x np nc nv) (hρ : ∀ x ∈ ρ, 0 ≤ x ∧ x < ne) : ∀ (k : Nat) (v : Int), k ≤ ρ.length → Vs c e f nv ρ k v → (0 ≤ v ∧ v < 512) ∧ thB nv v = true := by
  intro k
  induction k with
  | zero => intro v _ h; exact ⟨h.1, fsB_th h.2⟩
  | succ k ih =>
    intro v hk h
    obtain ⟨u, h1, h2, h3⟩ := h
    obtain ⟨i1, i2⟩ := ih u (by omega) h1
    have hx : ρ.getD k 0 ∈ ρ := by
      rw [List.getD_eq_getElem?_getD, List.getElem?_eq_getElem (by omega)]
      exact List.getElem_mem _
    have hEx := hE _ (hρ _ hx).1 (hρ _ hx).2
    rcases go_in (c := c) i1 hnv hEx with q | q
    · omega
    · rw [h2] at q
      refine ⟨q, ?_⟩
      rw [← h2]
      exact go_th i1 hnv hEx i2 (by rw [h2]; exact h3)
abbrev htL : List (Nat × Option Int) := [(13, none), (14, none)]
section ME
variable {r : Bool × Bool} {y : Bool} {w : mm_M}
theorem ev_m_farOfPath {ρ : List Int} (h : mP w) (hp : PM w ρ) (hρ : ∀ x ∈ ρ, 0 ≤ x ∧ x < w 1 0 8) : mm_Ev K_X10_farOfPath (0, 0) [.inr (some (1, 0))] (PH r y) w (fun a b' w' => b' = PH r y ∧ sm htL w w' ∧ ∃ z, a = some (.inl z) ∧ FAR (m_c w) (m_e w) (w 3 0) (w 1 0 4) ρ z) := by
  refine ev_intro ok_X10_farOfPath mo_X10_farOfPath (Nat.le_of_ble_eq_true rfl) (fun hrg has => ?_)
  have hnv := h.2.2.1
  have hnc := h.2.2.2.1
  have hne := h.2.2.2.2.1
  have hE := h.2.2.2.2.2.2.1
  obtain ⟨hp1, hp2, hp3⟩ := hp
  refine k_gp rfl rfl trivial ?_
  refine mm_loop (σ := mm_M) 512 (fun i w1 => (0 ≤ i ∧ i ≤ 512) ∧ w1 = arrw w 13 0 i (fun v => ib (fsB (w 3 0) (w 1 0 4) v = true))) (fun i w1 => mm_Wk K_X10_farOfPath (0, 0) 2 [some (.inr (some (1, 0))), some (.inl i), none, none, none] [] (PH r y) w1 (fun a b' w' => b' = PH r y ∧ sm htL w w' ∧ ∃ z, a = some (.inl z) ∧ FAR (m_c w) (m_e w) (w 3 0) (w 1 0 4) ρ z)) ?_ ?_ 0 w ⟨by omega, arrw_0.symm⟩
  · intro i w1 h1 h2 ih
    obtain ⟨h2, hw1⟩ := h2
    have s1 : sm htL w w1 := by rw [hw1]; exact sm_arrw sm_rf (by decide)
    have e4 : w1 1 0 4 = w 1 0 4 := s1 1 0 4 rfl
    have e3 : w1 3 0 = w 3 0 := funext fun k => s1 3 0 k rfl
    refine k_gp rfl rfl trivial ?_
    refine k_brf rfl (by omega) ?_
    refine k_gp rfl rfl trivial ?_
    refine k_callp rfl (ev_m_isFirst (by omega) (by rw [e4]; exact hnv)) rfl rfl rfl (by decide) ?_
    rw [e4, e3]
    have hib := ib_in (fsB (w 3 0) (w 1 0 4) i = true)
    refine k_gp rfl rfl (by simp only [true_and, mm_fits]; omega) ?_
    exact ih _ ⟨by omega, by rw [hw1]; exact arrw_s (by omega) (by omega) rfl⟩
  intro i w1 h1 h2
  obtain ⟨h2, hw1⟩ := h2
  have hi : i = 512 := by omega
  subst hi
  have s1 : sm htL w w1 := by rw [hw1]; exact sm_arrw sm_rf (by decide)
  have here0 : ∀ v, 0 ≤ v → v < 512 → (0 ≤ w1 13 0 v ∧ w1 13 0 v ≤ 1) ∧ (w1 13 0 v ≠ 0 ↔ Vs (m_c w) (m_e w) (w 3 0) (w 1 0 4) ρ 0 v) := fun v a b => by
    rw [hw1, arrw_in (by omega), show v - 0 = v by omega]
    refine ⟨ib_in _, fun q => ⟨⟨a, b⟩, Classical.byContradiction fun z => q (ib_f z)⟩, fun q => by rw [ib_t q.2]; decide⟩
  refine k_gp rfl rfl trivial ?_
  refine k_brt rfl (by omega) ?_
  refine k_gp rfl rfl trivial ?_
  clear hw1
  refine mm_loop (σ := mm_M) (ρ.length) (fun k w2 => (0 ≤ k ∧ k ≤ ρ.length) ∧ sm htL w w2 ∧ (∀ v, 0 ≤ v → v < 512 → (0 ≤ w2 13 0 v ∧ w2 13 0 v ≤ 1) ∧ (w2 13 0 v ≠ 0 ↔ Vs (m_c w) (m_e w) (w 3 0) (w 1 0 4) ρ k.toNat v)) ∧ (∀ j : Nat, (j : Int) < k → ∃ v, Vs (m_c w) (m_e w) (w 3 0) (w 1 0 4) ρ (j + 1) v)) (fun k w2 => ∀ l2 l3 l4, mm_Wk K_X10_farOfPath (0, 0) 28 [some (.inr (some (1, 0))), some (.inl k), l2, l3, l4] [] (PH r y) w2 (fun a b' w' => b' = PH r y ∧ sm htL w w' ∧ ∃ z, a = some (.inl z) ∧ FAR (m_c w) (m_e w) (w 3 0) (w 1 0 4) ρ z)) ?_ ?_ 0 w1 ⟨by omega, s1, here0, fun j q => by omega⟩ _ _ _
  · intro k w2 h1 h2 ih l2 l3 l4
    obtain ⟨h2, s2, hh, hpre⟩ := h2
    have hx : ρ.getD k.toNat 0 ∈ ρ := by
      rw [List.getD_eq_getElem?_getD, List.getElem?_eq_getElem (by omega)]
      exact List.getElem_mem _
    have hxr := hρ _ hx
    have hEx := hE _ hxr.1 hxr.2
    generalize hxx : ρ.getD k.toNat 0 = x at hx hxr hEx
    have hVs : ∀ v, Vs (m_c w) (m_e w) (w 3 0) (w 1 0 4) ρ (k.toNat + 1) v ↔ ∃ u, Vs (m_c w) (m_e w) (w 3 0) (w 1 0 4) ρ k.toNat u ∧ go_ (m_c w) (m_e w) x u = v ∧ 0 ≤ v := fun v => by rw [← hxx]; exact Iff.rfl
    have e32 : w2 1 0 32 = ρ.length := by rw [s2 1 0 32 rfl]; exact hp1
    refine k_gp rfl rfl trivial ?_
    refine k_brf rfl (by omega) ?_
    refine k_gp rfl rfl trivial ?_
    refine mm_loop (σ := mm_M) 512 (fun i w3 => (0 ≤ i ∧ i ≤ 512) ∧ w3 = arrw w2 14 0 i (fun _ => 0)) (fun i w3 => mm_Wk K_X10_farOfPath (0, 0) 40 [some (.inr (some (1, 0))), some (.inl k), some (.inl 0), some (.inl i), l4] [] (PH r y) w3 (fun a b' w' => b' = PH r y ∧ sm htL w w' ∧ ∃ z, a = some (.inl z) ∧ FAR (m_c w) (m_e w) (w 3 0) (w 1 0 4) ρ z)) ?_ ?_ 0 w2 ⟨by omega, arrw_0.symm⟩
    · intro i w3 i1 i2 ihi
      obtain ⟨i2, rfl⟩ := i2
      refine k_gp rfl rfl trivial ?_
      refine k_brf rfl (by omega) ?_
      refine k_gp rfl rfl (by simp only [true_and, mm_fits]; omega) ?_
      exact ihi _ ⟨by omega, arrw_s (by omega) (by omega) rfl⟩
    intro i w3 i1 i2
    obtain ⟨i2, hw3⟩ := i2
    have hi : i = 512 := by omega
    subst hi
    have s23 : sm [(14, none)] w2 w3 := by rw [hw3]; exact sm_arrw sm_rf (by decide)
    have h14 : ∀ v, 0 ≤ v → v < 512 → w3 14 0 v = 0 := fun v a b => by rw [hw3, arrw_in (by omega)]
    clear hw3
    refine k_gp rfl rfl trivial ?_
    refine k_brt rfl (by omega) ?_
    refine k_gp rfl rfl trivial ?_
    refine mm_loop (σ := mm_M × Bool) 512 (fun i q => (0 ≤ i ∧ i ≤ 512) ∧ sm [(14, none)] w2 q.1 ∧ (∀ u, 0 ≤ u → u < 512 → (0 ≤ q.1 14 0 u ∧ q.1 14 0 u ≤ 1) ∧ (q.1 14 0 u ≠ 0 ↔ ∃ v, (0 ≤ v ∧ v < i) ∧ Vs (m_c w) (m_e w) (w 3 0) (w 1 0 4) ρ k.toNat v ∧ go_ (m_c w) (m_e w) x v = u ∧ 0 ≤ u)) ∧ (q.2 = true ↔ ∃ u, (0 ≤ u ∧ u < 512) ∧ q.1 14 0 u ≠ 0)) (fun i q => ∀ l4, mm_Wk K_X10_farOfPath (0, 0) 62 [some (.inr (some (1, 0))), some (.inl k), some (.inl (ib (q.2 = true))), some (.inl i), l4] [] (PH r y) q.1 (fun a b' w' => b' = PH r y ∧ sm htL w w' ∧ ∃ z, a = some (.inl z) ∧ FAR (m_c w) (m_e w) (w 3 0) (w 1 0 4) ρ z)) ?_ ?_ 0 (w3, false) ⟨by omega, s23, fun u a b => ?_, ?_⟩ _
    · intro i q i1 i2 ihi l4
      obtain ⟨w4, z⟩ := q
      obtain ⟨i2, s4, h3, h4⟩ := i2
      dsimp only at s4 h3 h4 ⊢
      have s04 : sm htL w w4 := sm_tr s2 (sm_w s4 (by decide))
      obtain ⟨hP4, ec, ee⟩ := mP_sm s04 rfl (fun _ => rfl) (fun _ => rfl) (fun _ => rfl) h
      have e13 : w4 13 0 i = w2 13 0 i := s4 13 0 i rfl
      have e19 : w4 19 0 k = x := by rw [s04 19 0 k rfl, hp3 k h2.1 h1, hxx]
      have skip : ¬ (Vs (m_c w) (m_e w) (w 3 0) (w 1 0 4) ρ k.toNat i ∧ 0 ≤ go_ (m_c w) (m_e w) x i) → ∀ l4, mm_Wk K_X10_farOfPath (0, 0) 110 [some (.inr (some (1, 0))), some (.inl k), some (.inl (ib (z = true))), some (.inl i), l4] [] (PH r y) w4 (fun a b' w' => b' = PH r y ∧ sm htL w w' ∧ ∃ z, a = some (.inl z) ∧ FAR (m_c w) (m_e w) (w 3 0) (w 1 0 4) ρ z) := fun hn l4 => by
        refine k_gp rfl rfl (by simp only [true_and, mm_fits]; omega) ?_
        refine ihi (w4, z) ⟨by omega, s4, fun u a b => ⟨(h3 u a b).1, (h3 u a b).2.trans ⟨fun ⟨v, v1, v2⟩ => ⟨v, by omega, v2⟩, fun ⟨v, v1, v2, v3, v4⟩ => ?_⟩⟩, h4⟩ _
        by_cases hv : v = i
        · subst hv; exact absurd ⟨v2, by rw [v3]; exact v4⟩ hn
        · exact ⟨v, by omega, v2, v3, v4⟩
      refine k_gp rfl rfl trivial ?_
      refine k_brf rfl (by omega) ?_
      refine k_gp rfl rfl (by simp only [true_and, mm_fits]; omega) ?_
      rw [e13]
      refine k_br rfl (fun g1 => ?_) (fun g1 => ?_)
      · refine k_gp rfl rfl trivial ?_
        refine k_gp rfl rfl trivial ?_
        refine k_brt rfl (by decide) ?_
        exact skip (fun q => (hh i (by omega) (by omega)).2.mpr q.1 g1) _
      · have hVi := (hh i (by omega) (by omega)).2.mp g1
        refine k_gp rfl rfl (by simp only [true_and, mm_fits]; omega) ?_
        rw [e19]
        refine k_callp rfl (ev_m_goes (np := w 1 0 2) (nc := w 1 0 6) (nv := w 1 0 4) (by omega) (by omega) (by omega) (by omega) (by rw [ec]; exact h.2.2.2.2.2.1) (by rw [ee]; exact hEx)) rfl rfl rfl (by decide) ?_
        rw [ec, ee]
        have hgo := go_in (c := m_c w) (all := i) (by omega) (by omega) hEx
        refine k_gp rfl rfl trivial ?_
        refine k_gp rfl rfl trivial ?_
        refine k_br rfl (fun g2 => ?_) (fun g2 => ?_)
        · exact skip (fun q => by omega) _
        · refine k_gp rfl rfl (by simp only [true_and, mm_fits]; omega) ?_
          refine k_gp rfl rfl (by simp only [true_and, mm_fits]; omega) ?_
          have sU : sm [(14, none)] w2 (mm_up w4 14 0 (go_ (m_c w) (m_e w) x i) 1) := sm_up s4 (Or.inl (by decide))
          refine ihi (mm_up w4 14 0 (go_ (m_c w) (m_e w) x i) 1, true) ⟨by omega, sU, fun u a b => ?_, ?_⟩ _
          · dsimp only
            by_cases hu : u = go_ (m_c w) (m_e w) x i
            · subst hu
              rw [up_s]
              exact ⟨by omega, fun _ => ⟨i, by omega, hVi, rfl, by omega⟩, fun _ => by decide⟩
            · rw [up_k hu]
              refine ⟨(h3 u a b).1, (h3 u a b).2.trans ⟨fun ⟨v, v1, v2⟩ => ⟨v, by omega, v2⟩, fun ⟨v, v1, v2, v3, v4⟩ => ?_⟩⟩
              by_cases hv : v = i
              · subst hv; exact absurd v3.symm hu
              · exact ⟨v, by omega, v2, v3, v4⟩
          · exact ⟨fun _ => ⟨go_ (m_c w) (m_e w) x i, by omega, by dsimp only; rw [up_s]; decide⟩, fun _ => rfl⟩
    · intro i q i1 i2 l4
      obtain ⟨w4, z⟩ := q
      obtain ⟨i2, s4, h3, h4⟩ := i2
      dsimp only at s4 h3 h4 ⊢
      have hi : i = 512 := by omega
      subst hi
      have s04 : sm htL w w4 := sm_tr s2 (sm_w s4 (by decide))
      have hnx : ∀ u, 0 ≤ u → u < 512 → (w4 14 0 u ≠ 0 ↔ Vs (m_c w) (m_e w) (w 3 0) (w 1 0 4) ρ (k.toNat + 1) u) := fun u a b => by
        rw [hVs u]
        refine (h3 u a b).2.trans ⟨fun ⟨v, v1, v2⟩ => ⟨v, v2⟩, fun ⟨v, v2⟩ => ⟨v, (Vs_in (np := w 1 0 2) (nc := w 1 0 6) (by omega) hE hρ k.toNat v (by omega) v2.1).1, v2⟩⟩
      refine k_gp rfl rfl trivial ?_
      refine k_brt rfl (by omega) ?_
      refine k_gp rfl rfl trivial ?_
      refine k_brn rfl (fun g1 => ?_) (fun g1 => ?_)
      · obtain ⟨u0, u1, u2⟩ := h4.mp g1
        refine k_gp rfl rfl trivial ?_
        refine mm_loop (σ := mm_M) 512 (fun j w5 => (0 ≤ j ∧ j ≤ 512) ∧ w5 = arrw w4 13 0 j (fun v => w4 14 0 v)) (fun j w5 => mm_Wk K_X10_farOfPath (0, 0) 124 [some (.inr (some (1, 0))), some (.inl k), some (.inl (ib (z = true))), some (.inl j), l4] [] (PH r y) w5 (fun a b' w' => b' = PH r y ∧ sm htL w w' ∧ ∃ z, a = some (.inl z) ∧ FAR (m_c w) (m_e w) (w 3 0) (w 1 0 4) ρ z)) ?_ ?_ 0 w4 ⟨by omega, arrw_0.symm⟩
        · intro j w5 j1 j2 ihj
          obtain ⟨j2, rfl⟩ := j2
          have e14 : arrw w4 13 0 j (fun v => w4 14 0 v) 14 0 j = w4 14 0 j := arrw_g rfl
          have hb01 := (h3 j (by omega) (by omega)).1
          refine k_gp rfl rfl trivial ?_
          refine k_brf rfl (by omega) ?_
          refine k_gp rfl rfl (by simp only [true_and, mm_fits, e14]; omega) ?_
          exact ihj _ ⟨by omega, arrw_s (by omega) (by omega) e14⟩
        · intro j w5 j1 j2
          obtain ⟨j2, hw5⟩ := j2
          have hj : j = 512 := by omega
          subst hj
          have s5 : sm htL w w5 := by rw [hw5]; exact sm_tr s04 (sm_arrw sm_rf (by decide))
          refine k_gp rfl rfl trivial ?_
          refine k_brt rfl (by omega) ?_
          refine k_gp rfl rfl (by simp only [true_and, mm_fits]; omega) ?_
          refine ih w5 ⟨by omega, s5, fun v a b => ?_, fun j hj => ?_⟩ _ _ _
          · rw [hw5, arrw_in (by omega), show v - 0 = v by omega, show (k + 1).toNat = k.toNat + 1 by omega]
            exact ⟨(h3 v a b).1, hnx v a b⟩
          · by_cases hjk : (j : Int) = k
            · rw [show j = k.toNat by omega]
              exact ⟨u0, (hnx u0 u1.1 u1.2).mp u2⟩
            · exact hpre j (by omega)
      · refine k_gp rfl rfl trivial ?_
        refine k_ret rfl trivial ⟨rfl, s04, k, rfl, h2, hpre, fun _ => ?_⟩
        rintro ⟨v, hv⟩
        have hvin := (Vs_in (np := w 1 0 2) (nc := w 1 0 6) (by omega) hE hρ (k.toNat + 1) v (by omega) hv).1
        exact g1 (h4.mpr ⟨v, hvin, (hnx v hvin.1 hvin.2).mpr hv⟩)
    · dsimp only
      rw [h14 u a b]
      exact ⟨by omega, fun q => absurd rfl q, fun ⟨v, v1, _⟩ => by omega⟩
    · exact ⟨(fun q => by cases q), fun ⟨u, u1, u2⟩ => absurd (h14 u u1.1 u1.2) u2⟩
  · intro k w2 h1 h2 l2 l3 l4
    obtain ⟨h2, s2, hh, hpre⟩ := h2
    have e32 : w2 1 0 32 = ρ.length := by rw [s2 1 0 32 rfl]; exact hp1
    have hk : k = ρ.length := by omega
    subst hk
    refine k_gp rfl rfl trivial ?_
    refine k_brt rfl (by omega) ?_
    refine k_gp rfl rfl trivial ?_
    rw [e32]
    exact k_ret rfl trivial ⟨rfl, s2, (ρ.length : Int), rfl, h2, hpre, fun q => by omega⟩
abbrev ptL : List (Nat × Option Int) := [(13, none), (14, none), (15, none), (16, none), (17, none), (18, none), (19, none), (20, none), (1, some 29), (1, some 32)]
/-- the answer of path(): none, how many, how far, one of them -/
def PA (c e : Int → Int → Int) (f : Int → Int) (nv trap : Int) (Q : List (Int × Int)) (i z : Int) : Prop := (i < -2 → z = -1) ∧ (-2 ≤ i → ∃ k, FT Q trap k ∧ (¬ k < Q.length → z = -4) ∧ (k < Q.length → (i = -2 → FAR c e f nv (PT Q k) z) ∧ (i = -1 → z = (PT Q k).length) ∧ (0 ≤ i → (i < (PT Q k).length → (PT Q k)[i.toNat]? = some z) ∧ ((PT Q k).length ≤ i → z = -4))))
theorem PA_u {c e : Int → Int → Int} {f : Int → Int} {nv trap i z z' : Int} {Q : List (Int × Int)} (h : PA c e f nv trap Q i z) (h' : PA c e f nv trap Q i z') : z = z' := by
  by_cases h1 : i < -2
  · rw [h.1 h1, h'.1 h1]
  · obtain ⟨k, k1, k2, k3⟩ := h.2 (by omega)
    obtain ⟨k', l1, l2, l3⟩ := h'.2 (by omega)
    have := FT_u k1 l1
    subst this
    by_cases hk : k < Q.length
    · obtain ⟨a1, a2, a3⟩ := k3 hk
      obtain ⟨b1, b2, b3⟩ := l3 hk
      by_cases i2 : i = -2
      · exact FAR_u (a1 i2) (b1 i2)
      · by_cases i1 : i = -1
        · rw [a2 i1, b2 i1]
        · obtain ⟨a4, a5⟩ := a3 (by omega)
          obtain ⟨b4, b5⟩ := b3 (by omega)
          by_cases hl : i < (PT Q k).length
          · have := a4 hl
            rw [b4 hl] at this
            exact (Option.some.inj this).symm
          · rw [a5 (by omega), b5 (by omega)]
    · rw [k2 hk, l2 hk]
theorem PM_sm {w' : mm_M} {ρ : List Int} {L : List (Nat × Option Int)} (hs : sm L w w') (h1 : frB L 1 32 = true) (h2 : ∀ k, frB L 19 k = true) (h : PM w ρ) : PM w' ρ := ⟨(hs 1 0 32 h1).trans h.1, h.2.1, fun j a b => (hs 19 0 j (h2 j)).trans (h.2.2 j a b)⟩
set_option maxRecDepth 100000 in
theorem ev_m_path {i : Int} (h : mP w) : mm_Ev K_X10_path (0, 0) [.inr (some (1, 0)), .inl i] (PH r y) w (fun a b' w' => b' = PH r y ∧ sm ptL w w' ∧ ∃ z, a = some (.inl z) ∧ PA (m_c w) (m_e w) (w 3 0) (w 1 0 4) (w 1 0 3) (mQ w) i z) := by
  refine ev_intro ok_X10_path mo_X10_path (Nat.le_of_ble_eq_true rfl) (fun hrg has => ?_)
  have hne := h.2.2.2.2.1
  refine k_gp rfl rfl trivial ?_
  refine k_br rfl (fun g1 => ?_) (fun g1 => ?_)
  · refine k_gp rfl rfl trivial ?_
    refine k_call0 rfl (ev_m_findsPath h) rfl rfl rfl (by decide) ?_
    rintro a b' w1 ⟨rfl, hs, k, hFT, rfl, hPM⟩
    have hW : QW (m_e w) (w 1 0 8) (mQ w) := QW_MQ hne
    have hs1 : sm ptL w w1 := sm_w hs (by decide)
    have hFT1 := hFT.1
    refine k_brn rfl (fun g2 => ?_) (fun g2 => ?_)
    · have hPM := hPM g2
      obtain ⟨p1, p2, p3⟩ := PT_ok hW (k.toNat + 1) k hFT1.1 g2 (by omega)
      obtain ⟨hP1, ec, ee⟩ := mP_sm hs1 rfl (fun _ => rfl) (fun _ => rfl) (fun _ => rfl) h
      have e8 : w1 1 0 8 = w 1 0 8 := hs1 1 0 8 rfl
      have e4 : w1 1 0 4 = w 1 0 4 := hs1 1 0 4 rfl
      have e3 : w1 3 0 = w 3 0 := funext fun k => hs1 3 0 k rfl
      have hml := hPM.1
      have hm2 := hPM.2.1
      refine k_gp rfl rfl trivial ?_
      refine k_br rfl (fun g3 => ?_) (fun g3 => ?_)
      · refine k_gp rfl rfl trivial ?_
        refine k_br rfl (fun g4 => ?_) (fun g4 => ?_)
        · refine k_gp rfl rfl trivial ?_
          refine k_br rfl (fun g5 => ?_) (fun g5 => ?_)
          · refine k_gp rfl rfl trivial ?_
            exact k_ret rfl trivial ⟨rfl, hs1, -4, rfl, fun q => by omega, fun _ => ⟨k, hFT, fun q => absurd g2 q, fun _ => ⟨fun q => absurd q g3, fun q => absurd q g4, fun _ => ⟨fun q => by omega, fun _ => rfl⟩⟩⟩⟩
          · refine k_gp rfl rfl (by simp only [true_and, mm_fits]; omega) ?_
            rw [hPM.2.2 i (by omega) (by omega)]
            refine k_ret rfl trivial ⟨rfl, hs1, _, rfl, fun q => by omega, fun _ => ⟨k, hFT, fun q => absurd g2 q, fun _ => ⟨fun q => absurd q g3, fun q => absurd q g4, fun _ => ⟨fun q => ?_, fun q => by omega⟩⟩⟩⟩
            rw [List.getD_eq_getElem?_getD, List.getElem?_eq_getElem (by omega)]
            rfl
        · have g4 : i = -1 := Classical.byContradiction g4
          refine k_gp rfl rfl trivial ?_
          rw [hml]
          exact k_ret rfl trivial ⟨rfl, hs1, _, rfl, fun q => by omega, fun _ => ⟨k, hFT, fun q => absurd g2 q, fun _ => ⟨fun q => absurd q g3, fun _ => rfl, fun q => by omega⟩⟩⟩
      · have g3 : i = -2 := Classical.byContradiction g3
        refine k_gp rfl rfl trivial ?_
        refine k_call0 rfl (ev_m_farOfPath hP1 hPM (by rw [e8]; exact p2)) rfl rfl rfl (by decide) ?_
        rintro a b' w2 ⟨rfl, hs2, z, rfl, hz⟩
        rw [ec, ee, e3, e4] at hz
        refine k_gp rfl rfl trivial ?_
        exact k_ret rfl trivial ⟨rfl, sm_tr hs1 (sm_w hs2 (by decide)), z, rfl, fun q => by omega, fun _ => ⟨k, hFT, fun q => absurd g2 q, fun _ => ⟨fun _ => hz, fun q => by omega, fun q => by omega⟩⟩⟩
    · refine k_gp rfl rfl trivial ?_
      exact k_ret rfl trivial ⟨rfl, hs1, -4, rfl, fun q => by omega, fun _ => ⟨k, hFT, fun _ => rfl, fun q => absurd q g2⟩⟩
  · refine k_gp rfl rfl trivial ?_
    exact k_ret rfl trivial ⟨rfl, sm_rf, -1, rfl, fun _ => rfl, fun q => by omega⟩
end ME
