/-! ===== both sides together: a call of each ===== -/
/-- what may still be made -/
def pot (r y : Bool) : Nat × Nat := ((nR r).1 + (nM y).1, (nR r).2 + (nM y).2)
/-- the class's call, then the reference's: the same answer, and all holds again -/
def STEP (Kc Km : mm_K) (as : List mm_V) : Prop := ∀ (w : mm_M) (r y : Bool), INV w (r, true) y → ∃ (nC : Nat × Nat) (rr yy : Bool), (nC.1 + (pot rr yy).1 ≤ (pot r y).1 ∧ nC.2 + (pot rr yy).2 ≤ (pot r y).2) ∧ mm_Ev Kc nC (.inr (some (21, 0)) :: as) (PH (r, true) y) w (fun a b1 w1 => b1 = PH (rr, true) yy ∧ ∃ z, a = some (.inl z) ∧ mm_Ev Km (0, 0) (.inr (some (1, 0)) :: as) (PH (rr, true) yy) w1 (fun a2 b2 w2 => a2 = some (.inl z) ∧ b2 = PH (rr, true) yy ∧ INV w2 (rr, true) yy))
theorem pot_0 (r y : Bool) : (0, 0).1 + (pot r y).1 ≤ (pot r y).1 ∧ (0, 0).2 + (pot r y).2 ≤ (pot r y).2 := ⟨by omega, by omega⟩
theorem pot_R (r y : Bool) : (nR r).1 + (pot true y).1 ≤ (pot r y).1 ∧ (nR r).2 + (pot true y).2 ≤ (pot r y).2 := by
  cases r <;> cases y <;> decide
theorem pot_M (r y : Bool) : (nM y).1 + (pot r true).1 ≤ (pot r y).1 ∧ (nM y).2 + (pot r true).2 ≤ (pot r y).2 := by
  cases r <;> cases y <;> decide
section ST
variable {w w1 w2 : mm_M} {r y : Bool}
theorem low_nr {w w' : mm_M} (h : sm nrL w w') : lowS w w' := low_sm h rfl
theorem low_nm {w w' : mm_M} (h : sm nmL w w') : lowS w w' := low_sm h rfl
/-- the class answers and changes nothing -/
theorem CS_of (h : INV w (r, true) y) : CS w (r, true) y (w 1 0 2) (w 1 0 3) (w 1 0 4) (w 1 0 6) (w 1 0 8) (m_c w) (m_e w) (w 3 0) (w 6 0) (w 1 0 12) (hlM w) (hwM w) (w 2 0) (w 1 0 0) := h.2.2
theorem st_edge {x k : Int} : STEP K_X9_edge K_X10_edge [.inl x, .inl k] := fun w r y h => by
  have hC := CS_of h
  have e4 := hC.1.1.2.1.1.2.2.2.2
  have hm := INV_mP h
  refine ⟨(0, 0), r, y, pot_0 r y, ev_conseq (ev_c_edge (by rw [e4]; exact hm.2.2.2.2.1.2)) ?_⟩
  rintro a b1 w1 ⟨rfl, rfl, rfl⟩
  refine ⟨rfl, _, rfl, ev_conseq (ev_m_edge hm) ?_⟩
  rintro a b2 w2 ⟨rfl, rfl, rfl⟩
  refine ⟨?_, rfl, h⟩
  rw [e4]
  by_cases hv : (0 ≤ x ∧ x < w2 1 0 8) ∧ (0 ≤ k ∧ k ≤ 6)
  · rw [if_pos hv, if_pos hv, hC.1.1.2.1.2.2.2 x k hv.1.1 hv.1.2 hv.2.1 (by omega)]
  · rw [if_neg hv, if_neg hv]
theorem st_so {g a b c : Int} : STEP K_X9_so K_X10_so [.inl g, .inl a, .inl b, .inl c] := fun w r y h => by
  have hC := CS_of h
  have hm := INV_mP h
  refine ⟨(0, 0), r, y, pot_0 r y, ev_conseq (ev_c_so hC.1.1.1 hC.1.1.2.1 hC.1.1.2.2.1) ?_⟩
  rintro a' b1 w1 ⟨rfl, rfl, rfl⟩
  refine ⟨rfl, _, rfl, ev_conseq (ev_m_so hm) ?_⟩
  rintro a' b2 w2 ⟨rfl, rfl, rfl⟩
  refine ⟨?_, rfl, h⟩
  by_cases hv : (0 ≤ g ∧ g < w2 1 0 6) ∧ (0 ≤ a ∧ a ≤ 7) ∧ (0 ≤ b ∧ b ≤ 7) ∧ (0 ≤ c ∧ c ≤ 7)
  · rw [if_pos hv, if_pos hv, so_vls hv.2 hm.2.2.1.2 (hm.2.2.2.2.2.1 g hv.1.1 hv.1.2)]
  · rw [if_neg hv, if_neg hv]
theorem st_gone {x a b c : Int} : STEP K_X9_gone K_X10_gone [.inl x, .inl a, .inl b, .inl c] := fun w r y h => by
  have hC := CS_of h
  have hm := INV_mP h
  refine ⟨(0, 0), r, y, pot_0 r y, ev_conseq (ev_c_gone hC.1.1.1 hC.1.1.2.1 hC.1.1.2.2.1) ?_⟩
  rintro a' b1 w1 ⟨rfl, rfl, rfl⟩
  refine ⟨rfl, _, rfl, ev_conseq (ev_m_gone hm) ?_⟩
  rintro a' b2 w2 ⟨rfl, rfl, rfl⟩
  exact ⟨rfl, rfl, h⟩
theorem st_looked {p : Int} : STEP K_X9_looked K_X10_looked [.inl p] := fun w r y h => by
  have hC := CS_of h
  have e0 := hC.1.1.2.1.1.1
  have hm := INV_mP h
  refine ⟨(0, 0), r, y, pot_0 r y, ev_conseq (ev_c_looked (by rw [e0]; exact hm.1.2)) ?_⟩
  rintro a b1 w1 ⟨rfl, rfl, rfl⟩
  refine ⟨rfl, _, rfl, ev_conseq (ev_m_looked hm) ?_⟩
  rintro a b2 w2 ⟨rfl, rfl, rfl⟩
  refine ⟨?_, rfl, h⟩
  rw [e0]
  by_cases hv : 0 ≤ p ∧ p < w2 1 0 2
  · rw [if_pos hv, if_pos hv, (hC.1.1.2.2.2 p hv.1 (by have := hm.1.2; omega)).1]
  · rw [if_neg hv, if_neg hv]
theorem st_real {p k : Int} : STEP K_X9_real K_X10_real [.inl p, .inl k] := fun w r y h => by
  have hC := CS_of h
  by_cases hv : (0 ≤ p ∧ p < w 1 0 2) ∧ (0 ≤ k ∧ k ≤ 2)
  · have ev := ev_c_real hC hv.1 hv.2
    dsimp only at ev
    refine ⟨nR r, true, y, pot_R r y, ev_conseq ev ?_⟩
    rintro a b1 w1 ⟨rfl, s1, hC1, z, rfl, z0, z1, z2⟩
    have lo := low_nr s1
    obtain ⟨hm, ec, ee, e3, e6⟩ := low_mP h lo
    refine ⟨rfl, z, rfl, ev_conseq (ev_m_real hm) ?_⟩
    rintro a b2 w2 ⟨rfl, s2, z', rfl, -, g2⟩
    have hv1 : (0 ≤ p ∧ p < w1 1 0 2) ∧ (0 ≤ k ∧ k ≤ 2) := by rw [lo 1 0 2 (by decide)]; exact hv
    obtain ⟨y0, y1, y2⟩ := g2 hv1
    unfold mR at y0 y1 y2
    rw [ec, ee, e3, lo 1 0 4 (by decide), lo 1 0 8 (by decide)] at y0 y1 y2
    rw [lo 1 0 6 (by decide)] at y2
    refine ⟨congrArg (fun v => some (Sum.inl v)) ?_, rfl, INV_q h lo hC1 s2 rfl rfl (fun _ => rfl)⟩
    obtain hk | hk | hk : k = 0 ∨ k = 1 ∨ k = 2 := by omega
    · exact RD_u (y0 hk) (z0 hk)
    · exact RV_u (y1 hk) (z1 hk)
    · exact HO_u (y2 hk) (z2 hk)
  · refine ⟨(0, 0), r, y, pot_0 r y, ev_conseq (ev_c_real0 hC.1.1.2.1 hv) ?_⟩
    rintro a b1 w1 ⟨rfl, rfl, rfl⟩
    refine ⟨rfl, _, rfl, ev_conseq (ev_m_real (INV_mP h)) ?_⟩
    rintro a b2 w2 ⟨rfl, s2, z', rfl, g1, -⟩
    exact ⟨by rw [g1 hv], rfl, INV_q h low_rf hC s2 rfl rfl (fun _ => rfl)⟩
theorem st_run {i : Int} : STEP K_X9_run K_X10_run [.inl i] := fun w r y h => by
  have hC := CS_of h
  by_cases hv : -1 ≤ i
  · have ev := ev_c_run hC hv
    dsimp only at ev
    refine ⟨nR r, true, y, pot_R r y, ev_conseq ev ?_⟩
    rintro a b1 w1 ⟨rfl, s1, hC1, z, rfl, hz⟩
    have lo := low_nr s1
    obtain ⟨hm, ec, ee, e3, e6⟩ := low_mP h lo
    refine ⟨rfl, z, rfl, ev_conseq (ev_m_run hm) ?_⟩
    rintro a b2 w2 ⟨rfl, s2, z', rfl, g2⟩
    rw [ec, ee, e3, lo 1 0 4 (by decide), lo 1 0 8 (by decide), lo 1 0 3 (by decide)] at g2
    exact ⟨congrArg (fun v => some (Sum.inl v)) (RA_u g2 hz), rfl, INV_q h lo hC1 s2 rfl rfl (fun _ => rfl)⟩
  · refine ⟨(0, 0), r, y, pot_0 r y, ev_conseq (ev_c_run0 (by omega)) ?_⟩
    rintro a b1 w1 ⟨rfl, rfl, rfl⟩
    refine ⟨rfl, _, rfl, ev_conseq (ev_m_run (INV_mP h)) ?_⟩
    rintro a b2 w2 ⟨rfl, s2, z', rfl, g1⟩
    exact ⟨by rw [g1.1 (by omega)], rfl, INV_q h low_rf hC s2 rfl rfl (fun _ => rfl)⟩
theorem st_may {x cb u : Int} : STEP K_X9_may K_X10_may [.inl x, .inl cb, .inl u] := fun w r y h => by
  have hC := CS_of h
  by_cases hv : (0 ≤ x ∧ x < w 1 0 8) ∧ (0 ≤ cb ∧ cb ≤ 255) ∧ (0 ≤ u ∧ u ≤ 255)
  · refine ⟨nM y, r, true, pot_M r y, ev_conseq (ev_c_may hC hv.1 hv.2.1 hv.2.2) ?_⟩
    rintro a b1 w1 ⟨rfl, s1, hC1, rfl⟩
    have lo := low_nm s1
    obtain ⟨hm, ec, ee, e3, e6⟩ := low_mP h lo
    refine ⟨rfl, _, rfl, ev_conseq (ev_m_may hm) ?_⟩
    rintro a b2 w2 ⟨rfl, s2, rfl⟩
    refine ⟨?_, rfl, INV_q h lo hC1 s2 rfl rfl (fun _ => rfl)⟩
    rw [ec, ee, e6, lo 1 0 4 (by decide), lo 1 0 6 (by decide), lo 1 0 8 (by decide), if_pos hv]
  · refine ⟨(0, 0), r, y, pot_0 r y, ev_conseq (ev_c_may0 hC.1.1.2.1 hv) ?_⟩
    rintro a b1 w1 ⟨rfl, rfl, rfl⟩
    refine ⟨rfl, _, rfl, ev_conseq (ev_m_may (INV_mP h)) ?_⟩
    rintro a b2 w2 ⟨rfl, s2, rfl⟩
    exact ⟨by rw [if_neg hv], rfl, INV_q h low_rf hC s2 rfl rfl (fun _ => rfl)⟩
theorem st_state {p i : Int} : STEP K_X9_state K_X10_state [.inl p, .inl i] := fun w r y h => by
  have hC := CS_of h
  by_cases hv : (0 ≤ p ∧ p < w 1 0 2) ∧ -1 ≤ i
  · refine ⟨nM y, r, true, pot_M r y, ev_conseq (ev_c_state hC hv.1 hv.2) ?_⟩
    rintro a b1 w1 ⟨rfl, s1, hC1, z, rfl, hz⟩
    have lo := low_nm s1
    obtain ⟨hm, ec, ee, e3, e6⟩ := low_mP h lo
    refine ⟨rfl, z, rfl, ev_conseq (ev_m_state hm) ?_⟩
    rintro a b2 w2 ⟨rfl, s2, z', rfl, -, g2⟩
    have hv1 : (0 ≤ p ∧ p < w1 1 0 2) ∧ -1 ≤ i := by rw [lo 1 0 2 (by decide)]; exact hv
    have g2 := g2 hv1
    unfold mQ at g2
    rw [ec, ee, e3, e6, lo 1 0 4 (by decide), lo 1 0 6 (by decide), lo 1 0 8 (by decide)] at g2
    exact ⟨congrArg (fun v => some (Sum.inl v)) (SA_u hv.2 g2 hz), rfl, INV_q h lo hC1 s2 rfl rfl (fun _ => rfl)⟩
  · refine ⟨(0, 0), r, y, pot_0 r y, ev_conseq (ev_c_state0 hC.1.1.2.1 hv) ?_⟩
    rintro a b1 w1 ⟨rfl, rfl, rfl⟩
    refine ⟨rfl, _, rfl, ev_conseq (ev_m_state (INV_mP h)) ?_⟩
    rintro a b2 w2 ⟨rfl, s2, z', rfl, g1, -⟩
    exact ⟨by rw [g1 hv], rfl, INV_q h low_rf hC s2 rfl rfl (fun _ => rfl)⟩
theorem st_found {p : Int} : STEP K_X9_found K_X10_found [.inl p] := fun w r y h => by
  have hC := CS_of h
  by_cases hv : 0 ≤ p ∧ p < w 1 0 2
  · refine ⟨nM y, r, true, pot_M r y, ev_conseq (ev_c_found hC hv) ?_⟩
    rintro a b1 w1 ⟨rfl, s1, hC1, z, rfl, hz⟩
    have lo := low_nm s1
    obtain ⟨hm, ec, ee, e3, e6⟩ := low_mP h lo
    refine ⟨rfl, z, rfl, ev_conseq (ev_m_found hm) ?_⟩
    rintro a b2 w2 ⟨rfl, s2, z', rfl, -, g2⟩
    have hv1 : 0 ≤ p ∧ p < w1 1 0 2 := by rw [lo 1 0 2 (by decide)]; exact hv
    have g2 := g2 hv1
    unfold mQ at g2
    rw [ec, ee, e3, e6, lo 1 0 4 (by decide), lo 1 0 6 (by decide), lo 1 0 8 (by decide)] at g2
    exact ⟨congrArg (fun v => some (Sum.inl v)) (FO_u g2 hz), rfl, INV_q h lo hC1 s2 rfl rfl (fun _ => rfl)⟩
  · refine ⟨(0, 0), r, y, pot_0 r y, ev_conseq (ev_c_found0 hC.1.1.2.1 hv) ?_⟩
    rintro a b1 w1 ⟨rfl, rfl, rfl⟩
    refine ⟨rfl, _, rfl, ev_conseq (ev_m_found (INV_mP h)) ?_⟩
    rintro a b2 w2 ⟨rfl, s2, z', rfl, g1, -⟩
    exact ⟨by rw [g1 hv], rfl, INV_q h low_rf hC s2 rfl rfl (fun _ => rfl)⟩
theorem st_path {i : Int} : STEP K_X9_path K_X10_path [.inl i] := fun w r y h => by
  have hC := CS_of h
  by_cases hv : -2 ≤ i
  · refine ⟨nM y, r, true, pot_M r y, ev_conseq (ev_c_path hC hv) ?_⟩
    rintro a b1 w1 ⟨rfl, s1, hC1, z, rfl, hz⟩
    have lo := low_nm s1
    obtain ⟨hm, ec, ee, e3, e6⟩ := low_mP h lo
    refine ⟨rfl, z, rfl, ev_conseq (ev_m_path hm) ?_⟩
    rintro a b2 w2 ⟨rfl, s2, z', rfl, g2⟩
    unfold mQ at g2
    rw [ec, ee, e3, e6, lo 1 0 4 (by decide), lo 1 0 6 (by decide), lo 1 0 8 (by decide), lo 1 0 3 (by decide)] at g2
    exact ⟨congrArg (fun v => some (Sum.inl v)) (PA_u g2 hz), rfl, INV_q h lo hC1 s2 rfl rfl (fun _ => rfl)⟩
  · refine ⟨(0, 0), r, y, pot_0 r y, ev_conseq (ev_c_path0 (by omega)) ?_⟩
    rintro a b1 w1 ⟨rfl, rfl, rfl⟩
    refine ⟨rfl, _, rfl, ev_conseq (ev_m_path (INV_mP h)) ?_⟩
    rintro a b2 w2 ⟨rfl, s2, z', rfl, g1⟩
    exact ⟨by rw [g1.1 (by omega)], rfl, INV_q h low_rf hC s2 rfl rfl (fun _ => rfl)⟩
theorem st_count {i : Int} : STEP K_X9_count K_X10_count [.inl i] := fun w r y h => by
  have hC := CS_of h
  by_cases hv : i = 6
  · subst hv
    refine ⟨nM y, r, true, pot_M r y, ev_conseq (ev_c_count6 hC) ?_⟩
    rintro a b1 w1 ⟨rfl, s1, hC1, rfl⟩
    have lo := low_nm s1
    obtain ⟨hm, ec, ee, e3, e6⟩ := low_mP h lo
    refine ⟨rfl, _, rfl, ev_conseq (ev_m_count hm) ?_⟩
    rintro a b2 w2 ⟨rfl, s2, rfl⟩
    refine ⟨?_, rfl, INV_q h lo hC1 s2 rfl rfl (fun _ => rfl)⟩
    rw [if_neg (by decide), if_neg (by decide), if_neg (by decide), if_neg (by decide), if_neg (by decide), if_neg (by decide), if_pos rfl]
    unfold mQ
    rw [ec, ee, e3, e6, lo 1 0 4 (by decide), lo 1 0 6 (by decide), lo 1 0 8 (by decide)]
  · refine ⟨(0, 0), r, y, pot_0 r y, ev_conseq (ev_c_count0 hC hv) ?_⟩
    rintro a b1 w1 ⟨rfl, rfl, rfl⟩
    refine ⟨rfl, _, rfl, ev_conseq (ev_m_count (INV_mP h)) ?_⟩
    rintro a b2 w2 ⟨rfl, s2, rfl⟩
    refine ⟨?_, rfl, INV_q h low_rf hC s2 rfl rfl (fun _ => rfl)⟩
    rw [if_neg hv]
end ST
