/-! ===== the reference: what makes an end of the path ===== -/
/-- cubes behind k edges of a row, if places are looked at so -/
def Cs (c e : Int → Int → Int) (f lk : Int → Int) (nv nc : Int) (ρ : List Int) : Nat → Int → Prop
  | 0, u => ∃ v, (0 ≤ v ∧ v < 512) ∧ fsB f nv v = true ∧ cub c nc (lk 0) v = u
  | k + 1, u => ∃ v, (0 ≤ v ∧ v < 512) ∧ (thB nv v = true ∧ Cs c e f lk nv nc ρ k (cub c nc (lk (e (ρ.getD k 0) 0)) v)) ∧ 0 ≤ go_ c e (ρ.getD k 0) v ∧ cub c nc (lk (e (ρ.getD k 0) 1)) (go_ c e (ρ.getD k 0) v) = u
/-- no row of states goes along it -/
def EN (c e : Int → Int → Int) (f lk : Int → Int) (nv nc : Int) (ρ : List Int) : Prop := ∃ k : Nat, k < ρ.length ∧ ∀ u, ¬ Cs c e f lk nv nc ρ (k + 1) u
theorem Cs_in {c e : Int → Int → Int} {f lk : Int → Int} {nv nc : Int} {ρ : List Int} (hnc : nc ≤ 8) : ∀ (k : Nat) (u : Int), Cs c e f lk nv nc ρ k u → 0 ≤ u ∧ u < 256 := by
  intro k
  cases k with
  | zero => rintro u ⟨v, -, -, rfl⟩; exact cub_in _ _ _ _ hnc
  | succ k => rintro u ⟨v, -, -, -, rfl⟩; exact cub_in _ _ _ _ hnc
theorem or_in {a b : Int} (ha : 0 ≤ a ∧ a < 256) (hb_ : 0 ≤ b ∧ b < 256) : 0 ≤ mm_or a b ∧ mm_or a b < 256 := by
  have h := bb_or (x := a.toNat) (y := b.toNat) (by omega) (by omega)
  rw [show ((a.toNat : Nat) : Int) = a by omega, show ((b.toNat : Nat) : Int) = b by omega] at h
  have := Nat.or_lt_two_pow (n := 8) (x := a.toNat) (y := b.toNat) (by omega) (by omega)
  omega
abbrev endL : List (Nat × Option Int) := [(18, none), (20, none)]
section ME
variable {r : Bool × Bool} {y : Bool} {w : mm_M}
theorem ev_m_isEnded {ρ : List Int} {more : Int} (h : mP w) (hp : PM w ρ) (hρ : ∀ x ∈ ρ, 0 ≤ x ∧ x < w 1 0 8) (hm : 0 ≤ more ∧ more < 256) : mm_Ev K_X10_isEnded (0, 0) [.inr (some (1, 0)), .inl more] (PH r y) w (fun a b' w' => b' = PH r y ∧ sm endL w w' ∧ ∃ z : Bool, a = some (.inl (ib (z = true))) ∧ (z = true ↔ EN (m_c w) (m_e w) (w 3 0) (fun p => mm_or (w 6 0 p) more) (w 1 0 4) (w 1 0 6) ρ)) := by
  refine ev_intro ok_X10_isEnded mo_X10_isEnded (Nat.le_of_ble_eq_true rfl) (fun hrg has => ?_)
  have hnp := h.1
  have hnv := h.2.2.1
  have hnc := h.2.2.2.1
  have hne := h.2.2.2.2.1
  have hE := h.2.2.2.2.2.2.1
  obtain ⟨hp1, hp2, hp3⟩ := hp
  have kOr : ∀ p, 0 ≤ p → p < 8 → 0 ≤ mm_or (w 6 0 p) more ∧ mm_or (w 6 0 p) more < 256 := fun p a b => or_in (mP_255 h a b) hm
  generalize hlk : (fun p => mm_or (w 6 0 p) more) = lk
  have hlkp : ∀ p, mm_or (w 6 0 p) more = lk p := fun p => by rw [← hlk]
  refine k_gp rfl rfl trivial ?_
  refine mm_loop (σ := mm_M) 256 (fun i w1 => (0 ≤ i ∧ i ≤ 256) ∧ w1 = arrw w 18 0 i (fun _ => 0)) (fun i w1 => mm_Wk K_X10_isEnded (0, 0) 2 [some (.inr (some (1, 0))), some (.inl more), some (.inl i), none, none, none, none] [] (PH r y) w1 (fun a b' w' => b' = PH r y ∧ sm endL w w' ∧ ∃ z : Bool, a = some (.inl (ib (z = true))) ∧ (z = true ↔ EN (m_c w) (m_e w) (w 3 0) lk (w 1 0 4) (w 1 0 6) ρ))) ?_ ?_ 0 w ⟨by omega, arrw_0.symm⟩
  · intro i w1 h1 h2 ih
    obtain ⟨h2, rfl⟩ := h2
    refine k_gp rfl rfl trivial ?_
    refine k_brf rfl (by omega) ?_
    refine k_gp rfl rfl (by simp only [true_and, mm_fits]; omega) ?_
    exact ih _ ⟨by omega, arrw_s (by omega) (by omega) rfl⟩
  intro i w1 h1 h2
  obtain ⟨h2, hw1⟩ := h2
  have hi : i = 256 := by omega
  subst hi
  have s1 : sm endL w w1 := by rw [hw1]; exact sm_arrw sm_rf (by decide)
  have z1 : ∀ u, 0 ≤ u → u < 256 → w1 18 0 u = 0 := fun u a b => by rw [hw1, arrw_in (by omega)]
  clear hw1
  refine k_gp rfl rfl trivial ?_
  refine k_brt rfl (by omega) ?_
  refine k_gp rfl rfl trivial ?_
  refine mm_loop (σ := mm_M) 512 (fun i w2 => (0 ≤ i ∧ i ≤ 512) ∧ sm endL w w2 ∧ ∀ u, 0 ≤ u → u < 256 → (0 ≤ w2 18 0 u ∧ w2 18 0 u ≤ 1) ∧ (w2 18 0 u ≠ 0 ↔ ∃ a, (0 ≤ a ∧ a < i) ∧ fsB (w 3 0) (w 1 0 4) a = true ∧ cub (m_c w) (w 1 0 6) (lk 0) a = u)) (fun i w2 => mm_Wk K_X10_isEnded (0, 0) 24 [some (.inr (some (1, 0))), some (.inl more), some (.inl i), none, none, none, none] [] (PH r y) w2 (fun a b' w' => b' = PH r y ∧ sm endL w w' ∧ ∃ z : Bool, a = some (.inl (ib (z = true))) ∧ (z = true ↔ EN (m_c w) (m_e w) (w 3 0) lk (w 1 0 4) (w 1 0 6) ρ))) ?_ ?_ 0 w1 ⟨by omega, s1, fun u a b => ?_⟩
  · intro i w2 h1 h2 ih
    obtain ⟨h2, hs, h3⟩ := h2
    obtain ⟨hP1, ec, ee⟩ := mP_sm hs rfl (fun _ => rfl) (fun _ => rfl) (fun _ => rfl) h
    have e4 : w2 1 0 4 = w 1 0 4 := hs 1 0 4 rfl
    have e6 : w2 1 0 6 = w 1 0 6 := hs 1 0 6 rfl
    have e3 : w2 3 0 = w 3 0 := funext fun k => hs 3 0 k rfl
    have ek : w2 6 0 0 = w 6 0 0 := hs 6 0 0 rfl
    refine k_gp rfl rfl trivial ?_
    refine k_brf rfl (by omega) ?_
    refine k_gp rfl rfl trivial ?_
    refine k_callp rfl (ev_m_isFirst (by omega) (by rw [e4]; exact hnv)) rfl rfl rfl (by decide) ?_
    rw [e4, e3]
    refine k_brz rfl (fun g1 => ?_) (fun g1 => ?_)
    · refine k_gp rfl rfl (by simp only [true_and, mm_fits]; omega) ?_
      refine ih w2 ⟨by omega, hs, fun u a b => ⟨(h3 u a b).1, (h3 u a b).2.trans ⟨fun ⟨v, v1, v2⟩ => ⟨v, by omega, v2⟩, fun ⟨v, v1, v2, v3⟩ => ?_⟩⟩⟩
      by_cases hv : v = i
      · subst hv; exact absurd v2 g1
      · exact ⟨v, by omega, v2, v3⟩
    · refine k_gp rfl rfl trivial ?_
      refine k_callp rfl (ev_m_cube (by omega) (by omega) (by rw [e4]; omega) (by rw [e6]; exact hnc) (by rw [ec, e4, e6]; exact h.2.2.2.2.2.1) (by rw [ek]; exact (kOr 0 (by omega) (by omega)).1)) rfl rfl rfl (by decide) ?_
      rw [ec, e6, ek, hlkp]
      have hcu := cub_in (m_c w) (w 1 0 6) (lk 0) i (by omega)
      refine k_gp rfl rfl (by simp only [true_and, mm_fits]; omega) ?_
      refine k_gp rfl rfl (by simp only [true_and, mm_fits]; omega) ?_
      refine ih _ ⟨by omega, sm_up hs (Or.inl (by decide)), fun u a b => ?_⟩
      by_cases hu : u = cub (m_c w) (w 1 0 6) (lk 0) i
      · subst hu
        rw [up_s]
        exact ⟨by omega, fun _ => ⟨i, by omega, g1, rfl⟩, fun _ => by decide⟩
      · rw [up_k hu]
        refine ⟨(h3 u a b).1, (h3 u a b).2.trans ⟨fun ⟨v, v1, v2⟩ => ⟨v, by omega, v2⟩, fun ⟨v, v1, v2, v3⟩ => ?_⟩⟩
        by_cases hv : v = i
        · subst hv; exact absurd v3.symm hu
        · exact ⟨v, by omega, v2, v3⟩
  · intro i w2 h1 h2
    obtain ⟨h2, s2, h3⟩ := h2
    have hi : i = 512 := by omega
    subst hi
    refine k_gp rfl rfl trivial ?_
    refine k_brt rfl (by omega) ?_
    refine k_gp rfl rfl trivial ?_
    clear z1 s1
    -- along the path
    refine mm_loop (σ := mm_M × Bool) (ρ.length) (fun k q => (0 ≤ k ∧ k ≤ ρ.length) ∧ sm endL w q.1 ∧ (∀ u, 0 ≤ u → u < 256 → (0 ≤ q.1 18 0 u ∧ q.1 18 0 u ≤ 1) ∧ (q.1 18 0 u ≠ 0 ↔ Cs (m_c w) (m_e w) (w 3 0) lk (w 1 0 4) (w 1 0 6) ρ k.toNat u)) ∧ (q.2 = true → EN (m_c w) (m_e w) (w 3 0) lk (w 1 0 4) (w 1 0 6) ρ) ∧ (q.2 = false → ∀ j : Nat, (j : Int) < k → ∃ u, Cs (m_c w) (m_e w) (w 3 0) lk (w 1 0 4) (w 1 0 6) ρ (j + 1) u)) (fun k q => ∀ l4 l5 l6, mm_Wk K_X10_isEnded (0, 0) 62 [some (.inr (some (1, 0))), some (.inl more), some (.inl (ib (q.2 = true))), some (.inl k), l4, l5, l6] [] (PH r y) q.1 (fun a b' w' => b' = PH r y ∧ sm endL w w' ∧ ∃ z : Bool, a = some (.inl (ib (z = true))) ∧ (z = true ↔ EN (m_c w) (m_e w) (w 3 0) lk (w 1 0 4) (w 1 0 6) ρ))) ?_ ?_ 0 (w2, false) ⟨by omega, s2, h3, (fun q => by cases q), fun _ j q => by omega⟩ _ _ _
    · intro k q k1 k2 ih l4 l5 l6
      obtain ⟨w3, z⟩ := q
      obtain ⟨k2, s3, hcu, hz1, hz0⟩ := k2
      dsimp only at s3 hcu hz1 hz0 ⊢
      have e32 : w3 1 0 32 = ρ.length := by rw [s3 1 0 32 rfl]; exact hp1
      refine k_gp rfl rfl trivial ?_
      refine k_brf rfl (by omega) ?_
      refine k_gp rfl rfl trivial ?_
      refine k_brn rfl (fun g1 => ?_) (fun g1 => ?_)
      · refine k_gp rfl rfl trivial ?_
        exact k_ret rfl (ib_in _) ⟨rfl, s3, z, rfl, fun _ => hz1 g1, fun _ => g1⟩
      · have hz0 := hz0 (by cases z with | false => rfl | true => exact absurd rfl g1)
        have hx : ρ.getD k.toNat 0 ∈ ρ := by
          rw [List.getD_eq_getElem?_getD, List.getElem?_eq_getElem (by omega)]
          exact List.getElem_mem _
        have hxr := hρ _ hx
        have hEx := hE _ hxr.1 hxr.2
        generalize hxx : ρ.getD k.toNat 0 = x at hx hxr hEx
        have hA := hEx.1
        have hB := hEx.2.1
        have hCs : ∀ u, Cs (m_c w) (m_e w) (w 3 0) lk (w 1 0 4) (w 1 0 6) ρ (k.toNat + 1) u ↔ ∃ v, (0 ≤ v ∧ v < 512) ∧ (thB (w 1 0 4) v = true ∧ Cs (m_c w) (m_e w) (w 3 0) lk (w 1 0 4) (w 1 0 6) ρ k.toNat (cub (m_c w) (w 1 0 6) (lk (m_e w x 0)) v)) ∧ 0 ≤ go_ (m_c w) (m_e w) x v ∧ cub (m_c w) (w 1 0 6) (lk (m_e w x 1)) (go_ (m_c w) (m_e w) x v) = u := fun u => by rw [← hxx]; exact Iff.rfl
        have e19 : w3 19 0 k = x := by rw [s3 19 0 k rfl, hp3 k k2.1 k1, hxx]
        refine k_gp rfl rfl (by simp only [true_and, mm_fits]; omega) ?_
        rw [e19]
        refine mm_loop (σ := mm_M) 256 (fun i w4 => (0 ≤ i ∧ i ≤ 256) ∧ w4 = arrw w3 20 0 i (fun _ => 0)) (fun i w4 => mm_Wk K_X10_isEnded (0, 0) 87 [some (.inr (some (1, 0))), some (.inl more), some (.inl 1), some (.inl k), some (.inl x), some (.inl i), l6] [] (PH r y) w4 (fun a b' w' => b' = PH r y ∧ sm endL w w' ∧ ∃ z : Bool, a = some (.inl (ib (z = true))) ∧ (z = true ↔ EN (m_c w) (m_e w) (w 3 0) lk (w 1 0 4) (w 1 0 6) ρ))) ?_ ?_ 0 w3 ⟨by omega, arrw_0.symm⟩
        · intro i w4 i1 i2 ihi
          obtain ⟨i2, rfl⟩ := i2
          refine k_gp rfl rfl trivial ?_
          refine k_brf rfl (by omega) ?_
          refine k_gp rfl rfl (by simp only [true_and, mm_fits]; omega) ?_
          exact ihi _ ⟨by omega, arrw_s (by omega) (by omega) rfl⟩
        intro i w4 i1 i2
        obtain ⟨i2, hw4⟩ := i2
        have hi : i = 256 := by omega
        subst hi
        have s34 : sm [(20, none)] w3 w4 := by rw [hw4]; exact sm_arrw sm_rf (by decide)
        have z20 : ∀ u, 0 ≤ u → u < 256 → w4 20 0 u = 0 := fun u a b => by rw [hw4, arrw_in (by omega)]
        clear hw4
        refine k_gp rfl rfl trivial ?_
        refine k_brt rfl (by omega) ?_
        refine k_gp rfl rfl trivial ?_
        refine mm_loop (σ := mm_M × Bool) 512 (fun i q => (0 ≤ i ∧ i ≤ 512) ∧ sm [(20, none)] w3 q.1 ∧ (∀ u, 0 ≤ u → u < 256 → (0 ≤ q.1 20 0 u ∧ q.1 20 0 u ≤ 1) ∧ (q.1 20 0 u ≠ 0 ↔ ∃ v, (0 ≤ v ∧ v < i) ∧ (thB (w 1 0 4) v = true ∧ Cs (m_c w) (m_e w) (w 3 0) lk (w 1 0 4) (w 1 0 6) ρ k.toNat (cub (m_c w) (w 1 0 6) (lk (m_e w x 0)) v)) ∧ 0 ≤ go_ (m_c w) (m_e w) x v ∧ cub (m_c w) (w 1 0 6) (lk (m_e w x 1)) (go_ (m_c w) (m_e w) x v) = u)) ∧ (q.2 = false ↔ ∃ u, (0 ≤ u ∧ u < 256) ∧ q.1 20 0 u ≠ 0)) (fun i q => ∀ l6, mm_Wk K_X10_isEnded (0, 0) 112 [some (.inr (some (1, 0))), some (.inl more), some (.inl (ib (q.2 = true))), some (.inl k), some (.inl x), some (.inl i), l6] [] (PH r y) q.1 (fun a b' w' => b' = PH r y ∧ sm endL w w' ∧ ∃ z : Bool, a = some (.inl (ib (z = true))) ∧ (z = true ↔ EN (m_c w) (m_e w) (w 3 0) lk (w 1 0 4) (w 1 0 6) ρ))) ?_ ?_ 0 (w4, true) ⟨by omega, s34, fun u a b => ?_, ?_⟩ _
        · intro i q i1 i2 ihi l6
          obtain ⟨w5, z'⟩ := q
          obtain ⟨i2, s5, g3, g4⟩ := i2
          dsimp only at s5 g3 g4 ⊢
          have s05 : sm endL w w5 := sm_tr s3 (sm_w s5 (by decide))
          obtain ⟨hP5, ec, ee⟩ := mP_sm s05 rfl (fun _ => rfl) (fun _ => rfl) (fun _ => rfl) h
          have e4 : w5 1 0 4 = w 1 0 4 := s05 1 0 4 rfl
          have e6 : w5 1 0 6 = w 1 0 6 := s05 1 0 6 rfl
          have ek : ∀ p, w5 6 0 p = w 6 0 p := fun p => s05 6 0 p rfl
          have e0 : w5 5 0 (7 * x) = m_e w x 0 := by rw [← ee]; exact (m_e0 w5 x).symm
          have e1 : w5 5 0 (7 * x + 1) = m_e w x 1 := by rw [← ee]; rfl
          have e18 : ∀ u, w5 18 0 u = w3 18 0 u := fun u => s5 18 0 u rfl
          have hcA := cub_in (m_c w) (w 1 0 6) (lk (m_e w x 0)) i (by omega)
          have skip : ¬ ((thB (w 1 0 4) i = true ∧ Cs (m_c w) (m_e w) (w 3 0) lk (w 1 0 4) (w 1 0 6) ρ k.toNat (cub (m_c w) (w 1 0 6) (lk (m_e w x 0)) i)) ∧ 0 ≤ go_ (m_c w) (m_e w) x i) → ∀ l6, mm_Wk K_X10_isEnded (0, 0) 200 [some (.inr (some (1, 0))), some (.inl more), some (.inl (ib (z' = true))), some (.inl k), some (.inl x), some (.inl i), l6] [] (PH r y) w5 (fun a b' w' => b' = PH r y ∧ sm endL w w' ∧ ∃ z : Bool, a = some (.inl (ib (z = true))) ∧ (z = true ↔ EN (m_c w) (m_e w) (w 3 0) lk (w 1 0 4) (w 1 0 6) ρ)) := fun hn l6 => by
            refine k_gp rfl rfl (by simp only [true_and, mm_fits]; omega) ?_
            refine ihi (w5, z') ⟨by omega, s5, fun u a b => ⟨(g3 u a b).1, (g3 u a b).2.trans ⟨fun ⟨v, v1, v2⟩ => ⟨v, by omega, v2⟩, fun ⟨v, v1, v2, v3, v4⟩ => ?_⟩⟩, g4⟩ _
            by_cases hv : v = i
            · subst hv; exact absurd ⟨v2, v3⟩ hn
            · exact ⟨v, by omega, v2, v3, v4⟩
          refine k_gp rfl rfl trivial ?_
          refine k_brf rfl (by omega) ?_
          refine k_gp rfl rfl trivial ?_
          refine k_callp rfl (ev_m_isThere (by omega)) rfl rfl rfl (by decide) ?_
          rw [e4]
          refine k_brz rfl (fun g5 => ?_) (fun g5 => ?_)
          · refine k_gp rfl rfl trivial ?_
            refine k_gp rfl rfl trivial ?_
            refine k_brt rfl (by decide) ?_
            exact skip (fun q => g5 q.1.1) _
          · refine k_gp rfl rfl (by simp only [true_and, mm_fits]; omega) ?_
            rw [e0]
            refine k_callp rfl (ev_m_cube (by omega) (by omega) (by rw [e4]; omega) (by rw [e6]; exact hnc) (by rw [ec, e4, e6]; exact h.2.2.2.2.2.1) (by rw [ek]; exact (kOr _ hA.1 (by omega)).1)) rfl rfl rfl (by decide) ?_
            rw [ec, e6, ek, hlkp]
            refine k_gp rfl rfl (by simp only [true_and, mm_fits]; omega) ?_
            rw [e18]
            refine k_br rfl (fun g6 => ?_) (fun g6 => ?_)
            · refine k_gp rfl rfl trivial ?_
              refine k_gp rfl rfl trivial ?_
              refine k_brt rfl (by decide) ?_
              exact skip (fun q => (hcu _ hcA.1 hcA.2).2.mpr q.1.2 g6) _
            · have hCi := (hcu _ hcA.1 hcA.2).2.mp g6
              refine k_gp rfl rfl trivial ?_
              refine k_callp rfl (ev_m_goes (np := w 1 0 2) (nc := w 1 0 6) (nv := w 1 0 4) (by omega) (by omega) (by omega) (by omega) (by rw [ec]; exact h.2.2.2.2.2.1) (by rw [ee]; exact hEx)) rfl rfl rfl (by decide) ?_
              rw [ec, ee]
              have hgo := go_in (c := m_c w) (all := i) (by omega) (by omega) hEx
              refine k_gp rfl rfl trivial ?_
              refine k_gp rfl rfl trivial ?_
              refine k_br rfl (fun g7 => ?_) (fun g7 => ?_)
              · exact skip (fun q => by omega) _
              · refine k_gp rfl rfl (by simp only [true_and, mm_fits]; omega) ?_
                rw [e1]
                refine k_callp rfl (ev_m_cube (by omega) (by omega) (by rw [e4]; omega) (by rw [e6]; exact hnc) (by rw [ec, e4, e6]; exact h.2.2.2.2.2.1) (by rw [ek]; exact (kOr _ hB.1 (by omega)).1)) rfl rfl rfl (by decide) ?_
                rw [ec, e6, ek, hlkp]
                have hcB := cub_in (m_c w) (w 1 0 6) (lk (m_e w x 1)) (go_ (m_c w) (m_e w) x i) (by omega)
                refine k_gp rfl rfl (by simp only [true_and, mm_fits]; omega) ?_
                refine k_gp rfl rfl (by simp only [true_and, mm_fits]; omega) ?_
                have sU : sm [(20, none)] w3 (mm_up w5 20 0 (cub (m_c w) (w 1 0 6) (lk (m_e w x 1)) (go_ (m_c w) (m_e w) x i)) 1) := sm_up s5 (Or.inl (by decide))
                refine ihi (mm_up w5 20 0 (cub (m_c w) (w 1 0 6) (lk (m_e w x 1)) (go_ (m_c w) (m_e w) x i)) 1, false) ⟨by omega, sU, fun u a b => ?_, ?_⟩ _
                · dsimp only
                  by_cases hu : u = cub (m_c w) (w 1 0 6) (lk (m_e w x 1)) (go_ (m_c w) (m_e w) x i)
                  · subst hu
                    rw [up_s]
                    exact ⟨by omega, fun _ => ⟨i, by omega, ⟨g5, hCi⟩, by omega, rfl⟩, fun _ => by decide⟩
                  · rw [up_k hu]
                    refine ⟨(g3 u a b).1, (g3 u a b).2.trans ⟨fun ⟨v, v1, v2⟩ => ⟨v, by omega, v2⟩, fun ⟨v, v1, v2, v3, v4⟩ => ?_⟩⟩
                    by_cases hv : v = i
                    · subst hv; exact absurd v4.symm hu
                    · exact ⟨v, by omega, v2, v3, v4⟩
                · exact ⟨fun _ => ⟨_, hcB, by dsimp only; rw [up_s]; decide⟩, fun _ => rfl⟩
        · intro i q i1 i2 l6
          obtain ⟨w5, z'⟩ := q
          obtain ⟨i2, s5, g3, g4⟩ := i2
          dsimp only at s5 g3 g4 ⊢
          have hi : i = 512 := by omega
          subst hi
          have s05 : sm endL w w5 := sm_tr s3 (sm_w s5 (by decide))
          have hnx : ∀ u, 0 ≤ u → u < 256 → (w5 20 0 u ≠ 0 ↔ Cs (m_c w) (m_e w) (w 3 0) lk (w 1 0 4) (w 1 0 6) ρ (k.toNat + 1) u) := fun u a b => (g3 u a b).2.trans (hCs u).symm
          refine k_gp rfl rfl trivial ?_
          refine k_brt rfl (by omega) ?_
          refine k_gp rfl rfl trivial ?_
          refine mm_loop (σ := mm_M) 256 (fun j w6 => (0 ≤ j ∧ j ≤ 256) ∧ w6 = arrw w5 18 0 j (fun v => w5 20 0 v)) (fun j w6 => mm_Wk K_X10_isEnded (0, 0) 209 [some (.inr (some (1, 0))), some (.inl more), some (.inl (ib (z' = true))), some (.inl k), some (.inl x), some (.inl j), l6] [] (PH r y) w6 (fun a b' w' => b' = PH r y ∧ sm endL w w' ∧ ∃ z : Bool, a = some (.inl (ib (z = true))) ∧ (z = true ↔ EN (m_c w) (m_e w) (w 3 0) lk (w 1 0 4) (w 1 0 6) ρ))) ?_ ?_ 0 w5 ⟨by omega, arrw_0.symm⟩
          · intro j w6 j1 j2 ihj
            obtain ⟨j2, rfl⟩ := j2
            have e20 : arrw w5 18 0 j (fun v => w5 20 0 v) 20 0 j = w5 20 0 j := arrw_g rfl
            have hb01 := (g3 j (by omega) (by omega)).1
            refine k_gp rfl rfl trivial ?_
            refine k_brf rfl (by omega) ?_
            refine k_gp rfl rfl (by simp only [true_and, mm_fits, e20]; omega) ?_
            exact ihj _ ⟨by omega, arrw_s (by omega) (by omega) e20⟩
          · intro j w6 j1 j2
            obtain ⟨j2, hw6⟩ := j2
            have hj : j = 256 := by omega
            subst hj
            have s6 : sm endL w w6 := by rw [hw6]; exact sm_tr s05 (sm_arrw sm_rf (by decide))
            refine k_gp rfl rfl trivial ?_
            refine k_brt rfl (by omega) ?_
            refine k_gp rfl rfl (by simp only [true_and, mm_fits]; omega) ?_
            refine ih (w6, z') ⟨by omega, s6, fun v a b => ?_, fun q => ?_, fun q j hj => ?_⟩ _ _ _
            · dsimp only
              rw [hw6, arrw_in (by omega), show v - 0 = v by omega, show (k + 1).toNat = k.toNat + 1 by omega]
              exact ⟨(g3 v a b).1, hnx v a b⟩
            · refine ⟨k.toNat, by omega, fun u hu => ?_⟩
              have hui := Cs_in (by omega) _ _ hu
              have : z' = false := g4.mpr ⟨u, hui, (hnx u hui.1 hui.2).mpr hu⟩
              have q : z' = true := q
              rw [this] at q
              cases q
            · by_cases hjk : (j : Int) = k
              · rw [show j = k.toNat by omega]
                obtain ⟨u, u1, u2⟩ := g4.mp q
                exact ⟨u, (hnx u u1.1 u1.2).mp u2⟩
              · exact hz0 j (by omega)
        · dsimp only
          rw [z20 u a b]
          exact ⟨by omega, fun q => absurd rfl q, fun ⟨v, v1, _⟩ => by omega⟩
        · exact ⟨(fun q => by cases q), fun ⟨u, u1, u2⟩ => absurd (z20 u u1.1 u1.2) u2⟩
    · intro k q k1 k2 l4 l5 l6
      obtain ⟨w3, z⟩ := q
      obtain ⟨k2, s3, hcu, hz1, hz0⟩ := k2
      dsimp only at s3 hcu hz1 hz0 ⊢
      have e32 : w3 1 0 32 = ρ.length := by rw [s3 1 0 32 rfl]; exact hp1
      refine k_gp rfl rfl trivial ?_
      refine k_brt rfl (by omega) ?_
      refine k_gp rfl rfl trivial ?_
      refine k_ret rfl (ib_in _) ⟨rfl, s3, z, rfl, hz1, fun q => ?_⟩
      cases z with
      | true => rfl
      | false =>
        obtain ⟨j, j1, j2⟩ := q
        obtain ⟨u, hu⟩ := hz0 rfl j (by omega)
        exact absurd hu (j2 u)
  · rw [z1 u a b]
    exact ⟨by omega, fun q => absurd rfl q, fun ⟨v, v1, _⟩ => by omega⟩
end ME
