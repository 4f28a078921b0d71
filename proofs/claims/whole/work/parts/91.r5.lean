/-! ===== both sides together: a call of each that changes something ===== -/
section ST
variable {w w1 w2 : mm_M} {r y : Bool}
theorem TX_of (h : INV w (r, true) y) : TX w (w 2 0) (w 1 0 0) := ⟨fun _ => rfl, rfl, (CS_of h).2.2.2.2⟩
/-- T and what is looked at, as the reference has them -/
theorem m_e3' {x : Int} (hx : 0 ≤ x) : m_e w x 3 = w 6 0 (8 + x) := by
  unfold m_e
  rw [if_pos rfl, show ((x.toNat : Nat) : Int) = x by omega]
theorem m_e_ne {x k : Int} (hk : k ≠ 3) : m_e w x k = w 5 0 (7 * x + k) := by
  unfold m_e
  rw [if_neg hk]
theorem m_e_hi (h5 : w2 5 0 = w 5 0) (h6 : ∀ k, 8 ≤ k → w2 6 0 k = w 6 0 k) : m_e w2 = m_e w := by
  funext x k
  unfold m_e
  rw [h5, h6 _ (by omega)]
theorem st_fault : STEP K_X9_fault K_X10_fault [] := fun w r y h => by
  have hC := CS_of h
  refine ⟨(0, 0), r, y, pot_0 r y, ev_conseq (ev_c_fault hC.2.2) ?_⟩
  rintro a b1 w1 ⟨rfl, s1, rfl⟩
  have lo : lowS w w1 := low_sm s1 rfl
  have hT : TX w1 (w 2 0) (w 1 0 0) := ⟨fun k => lo 2 0 k (by decide), lo 1 0 0 (by decide), hC.2.2.2.2⟩
  have hC1 : CS w1 (r, true) y (w 1 0 2) (w 1 0 3) (w 1 0 4) (w 1 0 6) (w 1 0 8) (m_c w) (m_e w) (w 3 0) (w 6 0) (w 1 0 12) (hlM w) (hwM w) (w 2 0) (w 1 0 0) := ⟨CB_eq (cbG_fr s1 rfl) hC.1, HI_sm s1 rfl (fun _ => rfl) hC.2.1, CX_sm hC.2.2 s1 (fun _ => rfl) rfl⟩
  refine ⟨rfl, _, rfl, ev_conseq (ev_m_fault hT) ?_⟩
  rintro a b2 w2 ⟨rfl, rfl, s2⟩
  exact ⟨rfl, rfl, INV_q h lo hC1 s2 rfl rfl (fun _ => rfl)⟩
theorem st_turn {x : Int} : STEP K_X9_turn K_X10_turn [.inl x] := fun w r y h => by
  have hC := CS_of h
  have hd := INV_d h
  refine ⟨(0, 0), r, y, pot_0 r y, ev_conseq (ev_c_turn (x := x) hC) ?_⟩
  rintro a b1 w1 ⟨rfl, g1, g2⟩
  by_cases hx : 0 ≤ x ∧ x < w 1 0 8
  · obtain ⟨g3, g4⟩ := g2 hx
    by_cases h9 : m_e w x 2 = 9
    · obtain ⟨rfl, rfl⟩ := g3 h9
      refine ⟨rfl, _, rfl, ev_conseq (ev_m_turn (INV_mP h) hd) ?_⟩
      rintro a b2 w2 ⟨rfl, rfl, rfl⟩
      rw [if_pos hx, if_pos h9, if_neg (fun z => z.2 h9)]
      exact ⟨rfl, rfl, h⟩
    · obtain ⟨rfl, lo, e8, hE⟩ := g4 h9
      obtain ⟨hm, ec, ee, e3, e6⟩ := low_mP h lo
      refine ⟨rfl, _, rfl, ev_conseq (ev_m_turn (e := x) hm (by rw [lo 1 0 12 (by decide)]; exact hd)) ?_⟩
      rintro a b2 w2 ⟨rfl, rfl, rfl⟩
      rw [ee, lo 1 0 8 (by decide), if_pos hx, if_neg h9, if_pos ⟨hx, h9⟩]
      refine ⟨rfl, rfl, ?_⟩
      have s6 : sm [(6, none)] (kepW w1) (mm_up (kepW w1) 6 0 (8 + x) (1 - m_e w x 3)) := sm_up sm_rf (Or.inl List.mem_cons_self)
      have w6 : ∀ k, mm_up (kepW w1) 6 0 (8 + x) (1 - m_e w x 3) 6 0 k = if k = 8 + x then 1 - m_e w x 3 else w 6 0 k := fun k => by
        rw [up_at, kep_rd.1, e6]
      have w5 : ∀ k, mm_up (kepW w1) 6 0 (8 + x) (1 - m_e w x 3) 5 0 k = w 5 0 k := fun k => by
        rw [up_g rfl, kep_rd.2.2.2.2, lo 5 0 k (by decide)]
      generalize mm_up (kepW w1) 6 0 (8 + x) (1 - m_e w x 3) = w2 at *
      have hlow : ∀ p, 0 ≤ p → p < 8 → w2 6 0 p = w 6 0 p := fun p a b => by rw [w6, if_neg (by omega)]
      have hE2 := hE (m_e w2) (fun z k a b c1 d1 => ?_)
      · refine INV_kept h (rdE_low lo) (sm_w s6 (by decide)) (fun p a b => by rw [hlow p a b]; exact h.1 p a b) ⟨⟨⟨hE2.1.1.1, hE2.1.1.2.1, hE2.1.1.2.2.1, fun p a b => ?_⟩, hE2.1.2.1, hE2.1.2.2.1, hE2.1.2.2.2.1, hE2.1.2.2.2.2.1, fun z => by rw [e8] at z; exact absurd z (by decide)⟩, hE2.2⟩
        rw [hlow p a b]
        exact hE2.1.1.2.2.2 p a b
      · by_cases hk : k = 3
        · subst hk
          rw [m_e3' a, w6]
          by_cases hz : z = x
          · rw [if_pos (by omega), if_pos ⟨hz, rfl⟩]
          · rw [if_neg (by omega), if_neg (fun o => hz o.1), m_e3' a]
        · rw [m_e_ne hk, w5, if_neg (fun o => hk o.2), m_e_ne hk]
  · obtain ⟨rfl, rfl⟩ := g1 hx
    refine ⟨rfl, _, rfl, ev_conseq (ev_m_turn (INV_mP h) hd) ?_⟩
    rintro a b2 w2 ⟨rfl, rfl, rfl⟩
    rw [if_neg hx, if_neg (fun z => hx z.1)]
    exact ⟨rfl, rfl, h⟩
theorem st_look {p g i : Int} : STEP K_X9_look K_X10_look [.inl p, .inl g, .inl i] := fun w r y h => by
  have hC := CS_of h
  have hd := INV_d h
  have hm0 := INV_mP h
  have hnp := hm0.1
  refine ⟨(0, 0), r, y, pot_0 r y, ev_conseq (ev_c_look (p := p) (g := g) (i := i) hC (fun p a b => (h.1 p a b).2)) ?_⟩
  rintro a b1 w1 ⟨rfl, g1, g2⟩
  by_cases hx : (0 ≤ p ∧ p < w 1 0 2) ∧ (0 ≤ g ∧ g < w 1 0 6) ∧ (0 ≤ i ∧ i ≤ 1)
  · obtain ⟨g3, g4⟩ := g2 hx
    by_cases h9 : w 6 0 p / ((2 ^ g.toNat : Nat) : Int) % 2 = i
    · obtain ⟨rfl, rfl⟩ := g3 h9
      refine ⟨rfl, _, rfl, ev_conseq (ev_m_look hm0 hd) ?_⟩
      rintro a b2 w2 ⟨rfl, rfl, rfl⟩
      rw [if_pos hx, if_pos h9, if_neg (fun z => z.2 h9)]
      exact ⟨rfl, rfl, h⟩
    · obtain ⟨rfl, lo, hE⟩ := g4 h9
      obtain ⟨hm, ec, ee, e3, e6⟩ := low_mP h lo
      refine ⟨rfl, _, rfl, ev_conseq (ev_m_look (p := p) (g := g) (is := i) hm (by rw [lo 1 0 12 (by decide)]; exact hd)) ?_⟩
      rintro a b2 w2 ⟨rfl, rfl, rfl⟩
      rw [e6, lo 1 0 2 (by decide), lo 1 0 6 (by decide), if_pos hx, if_neg h9, if_pos ⟨hx, h9⟩]
      refine ⟨rfl, rfl, ?_⟩
      generalize hX : mm_xor (w 6 0 p) ((2 ^ g.toNat : Nat) : Int) = X at *
      have hxi := xor8 (n := (w 1 0 6).toNat) (a := w 6 0 p) (b := ((2 ^ g.toNat : Nat) : Int)) (h.1 p hx.1.1 (by omega)) ⟨Int.natCast_nonneg _, Int.ofNat_lt.mpr (Nat.pow_lt_pow_right (by decide) (by omega))⟩ (by have := hm0.2.2.2.1; omega)
      rw [hX] at hxi
      have s6 : sm [(6, none)] (kepW w1) (mm_up (kepW w1) 6 0 p X) := sm_up sm_rf (Or.inl List.mem_cons_self)
      have w6 : mm_up (kepW w1) 6 0 p X 6 0 = fun q => if q = p then X else w 6 0 q := funext fun k => by
        rw [up_at, kep_rd.1, e6]
      have w5 : mm_up (kepW w1) 6 0 p X 5 0 = w 5 0 := funext fun k => by
        rw [up_g rfl, kep_rd.2.2.2.2, lo 5 0 k (by decide)]
      generalize mm_up (kepW w1) 6 0 p X = w2 at *
      have hme : m_e w2 = m_e w := m_e_hi w5 (fun k hk => by rw [w6]; show (if k = p then X else w 6 0 k) = _; rw [if_neg (by omega)])
      refine INV_kept h (rdE_low lo) (sm_w s6 (by decide)) (fun q a b => ?_) ?_
      · rw [w6]
        show 0 ≤ (if q = p then X else w 6 0 q) ∧ (if q = p then X else w 6 0 q) < _
        split
        · exact hxi
        · exact h.1 q a b
      · rw [hme, w6]
        exact hE
  · obtain ⟨rfl, rfl⟩ := g1 hx
    refine ⟨rfl, _, rfl, ev_conseq (ev_m_look hm0 hd) ?_⟩
    rintro a b2 w2 ⟨rfl, rfl, rfl⟩
    rw [if_neg hx, if_neg (fun z => hx z.1)]
    exact ⟨rfl, rfl, h⟩
end ST
