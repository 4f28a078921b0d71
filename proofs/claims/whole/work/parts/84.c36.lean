/-! ===== the class: real(), run(), may(), state(), found() ===== -/
section MC
variable {r : Bool × Bool} {y : Bool} {w : mm_M} {np trap nv nc ne : Int} {c e : Int → Int → Int} {f lk : Int → Int} {d : Int} {hl : Int → Int → Int} {hw : Int → Int} {t : Int → Int} {n : Int}
theorem nz (q : Nat × Nat) : q.1 = (0, 0).1 + q.1 ∧ q.2 = (0, 0).2 + q.2 := ⟨(Nat.zero_add _).symm, (Nat.zero_add _).symm⟩
theorem ev_c_real0 {p k : Int} (hP : PC w np trap nv nc ne c e f) (hb : ¬ ((0 ≤ p ∧ p < np) ∧ (0 ≤ k ∧ k ≤ 2))) : mm_Ev K_X9_real (0, 0) [.inr (some (21, 0)), .inl p, .inl k] (PH r y) w (mm_pe (some (.inl (-1))) (PH r y) w) := by
  refine ev_intro ok_X9_real mo_X9_real (Nat.le_of_ble_eq_true rfl) (fun hrg has => ?_)
  have ev1 := ev_c_isPlace (r := r) (y := y) (w := w) (p := p)
  rw [hP.1.1] at ev1
  have bad : ∀ l3, mm_Wk K_X9_real (0, 0) 17 [some (.inr (some (21, 0))), some (.inl p), some (.inl k), l3] [] (PH r y) w (mm_pe (some (.inl (-1))) (PH r y) w) := fun l3 => by
    refine k_gp rfl rfl (by first | trivial | decide | (simp only [true_and, mm_fits]; omega)) ?_
    exact k_ret rfl (by decide) ⟨rfl, rfl, rfl⟩
  refine k_gp rfl rfl (by first | trivial | decide | (simp only [true_and, mm_fits]; omega)) ?_
  refine k_callp rfl ev1 rfl rfl rfl (by decide) ?_
  refine k_brz rfl (fun q => bad _) (fun q1 => ?_)
  refine k_gp rfl rfl (by first | trivial | decide | (simp only [true_and, mm_fits]; omega)) ?_
  refine k_br rfl (fun q => bad _) (fun q2 => ?_)
  refine k_gp rfl rfl (by first | trivial | decide | (simp only [true_and, mm_fits]; omega)) ?_
  refine k_br rfl (fun q3 => absurd ⟨q1, by omega, by omega⟩ hb) (fun q => bad _)
theorem ev_c_real {p k : Int} (h : CS w r y np trap nv nc ne c e f lk d hl hw t n) (hp : 0 ≤ p ∧ p < np) (hk : 0 ≤ k ∧ k ≤ 2) : mm_Ev K_X9_real (nR r.1) [.inr (some (21, 0)), .inl p, .inl k] (PH r y) w (fun a b' w' => b' = PH (true, r.2) y ∧ sm nrL w w' ∧ CS w' (true, r.2) y np trap nv nc ne c e f lk d hl hw t n ∧ ∃ z, a = some (.inl z) ∧ (k = 0 → RD (Rch c e f nv ne) p z) ∧ (k = 1 → RV (Rch c e f nv ne) p z) ∧ (k = 2 → HO (Rch c e f nv ne) c nc p z)) := by
  refine ev_intro ok_X9_real mo_X9_real (Nat.le_of_ble_eq_true rfl) (fun hrg has => ?_)
  have hO := h.1.1.1
  have hP := h.1.1.2.1
  have hnp := hO.1
  have hne := hO.2.2.2.2.1
  have ev1 := ev_c_isPlace (r := r) (y := y) (w := w) (p := p)
  rw [hP.1.1] at ev1
  refine k_gp rfl rfl (by first | trivial | decide | (simp only [true_and, mm_fits]; omega)) ?_
  refine k_callp rfl ev1 rfl rfl rfl (by decide) ?_
  refine k_brz rfl (fun q => absurd hp q) (fun q1 => ?_)
  refine k_gp rfl rfl (by first | trivial | decide | (simp only [true_and, mm_fits]; omega)) ?_
  refine k_brf rfl (by omega) ?_
  refine k_gp rfl rfl (by first | trivial | decide | (simp only [true_and, mm_fits]; omega)) ?_
  refine k_brt rfl (by omega) ?_
  refine k_gp rfl rfl (by first | trivial | decide | (simp only [true_and, mm_fits]; omega)) ?_
  refine k_call (n1 := (0, 0)) rfl (ev_c_newReal h) rfl rfl rfl (by decide) (nz _) ?_
  rintro a b' w1 ⟨rfl, rfl, s1, hC, e7⟩
  obtain ⟨Q, hK, hE⟩ := hC.1.2.2.1.2 e7
  refine k_gp rfl rfl (by first | trivial | decide | (simp only [true_and, mm_fits]; omega)) ?_
  refine k_br rfl (fun q2 => ?_) (fun q2 => ?_)
  · refine k_gp rfl rfl (by first | trivial | decide | (simp only [true_and, mm_fits]; omega)) ?_
    refine k_br rfl (fun q3 => ?_) (fun q3 => ?_)
    · refine k_gp rfl rfl (by first | trivial | decide | (simp only [true_and, mm_fits]; omega)) ?_
      refine k_callp rfl (ev_c_holdsAt (by omega)) rfl rfl rfl (by decide) ?_
      exact k_ret rfl trivial ⟨rfl, s1, hC, _, rfl, fun z => by omega, fun z => by omega, fun _ => RE_HO hK hE (by omega) (by omega)⟩
    · refine k_gp rfl rfl (by first | trivial | decide | (simp only [true_and, mm_fits]; omega)) ?_
      refine k_callp rfl (ev_c_rvaluesAt (by omega)) rfl rfl rfl (by decide) ?_
      refine k_gp rfl rfl (by first | trivial | decide | (simp only [true_and, mm_fits]; omega)) ?_
      exact k_ret rfl trivial ⟨rfl, s1, hC, _, rfl, fun z => by omega, fun _ => RE_RV hK hE (by omega) (by omega), fun z => by omega⟩
  · refine k_gp rfl rfl (by first | trivial | decide | (simp only [true_and, mm_fits]; omega)) ?_
    refine k_callp rfl (ev_c_distanceOf (by omega)) rfl rfl rfl (by decide) ?_
    exact k_ret rfl trivial ⟨rfl, s1, hC, _, rfl, fun _ => RE_RD hK hE (by omega) (by omega), fun z => by omega, fun z => by omega⟩
theorem ev_c_run0 {i : Int} (hi : i < -1) : mm_Ev K_X9_run (0, 0) [.inr (some (21, 0)), .inl i] (PH r y) w (mm_pe (some (.inl (-1))) (PH r y) w) := by
  refine ev_intro ok_X9_run mo_X9_run (Nat.le_of_ble_eq_true rfl) (fun hrg has => ?_)
  refine k_gp rfl rfl (by first | trivial | decide | (simp only [true_and, mm_fits]; omega)) ?_
  refine k_brf rfl (by omega) ?_
  refine k_gp rfl rfl (by first | trivial | decide | (simp only [true_and, mm_fits]; omega)) ?_
  exact k_ret rfl (by decide) ⟨rfl, rfl, rfl⟩
theorem ev_c_run {i : Int} (h : CS w r y np trap nv nc ne c e f lk d hl hw t n) (hi : -1 ≤ i) : mm_Ev K_X9_run (nR r.1) [.inr (some (21, 0)), .inl i] (PH r y) w (fun a b' w' => b' = PH (true, r.2) y ∧ sm nrL w w' ∧ CS w' (true, r.2) y np trap nv nc ne c e f lk d hl hw t n ∧ ∃ z, a = some (.inl z) ∧ RA c e f nv ne trap i z) := by
  refine ev_intro ok_X9_run mo_X9_run (Nat.le_of_ble_eq_true rfl) (fun hrg has => ?_)
  have hO := h.1.1.1
  have hnp := hO.1
  have htr := hO.2.1
  have hne := hO.2.2.2.2.1
  refine k_gp rfl rfl (by first | trivial | decide | (simp only [true_and, mm_fits]; omega)) ?_
  refine k_brt rfl (by omega) ?_
  refine k_gp rfl rfl (by first | trivial | decide | (simp only [true_and, mm_fits]; omega)) ?_
  refine k_call (n1 := (0, 0)) rfl (ev_c_newReal h) rfl rfl rfl (by decide) (nz _) ?_
  rintro a b' w1 ⟨rfl, rfl, s1, hC, e7⟩
  obtain ⟨Q, hK, hE⟩ := hC.1.2.2.1.2 e7
  have hT := hC.1.1.2.1.1.2.1
  have hRD := RE_RD hK hE (by omega) (p := trap) (by omega)
  have hD : w1 52 0 trap = -4 ∨ 0 ≤ w1 52 0 trap := by
    rcases hRD with z | z
    · exact Or.inl z.1
    · exact Or.inr z.1
  refine k_gp rfl rfl (by first | trivial | decide | (simp only [true_and, mm_fits]; omega)) ?_
  rw [hT]
  refine k_callp rfl (ev_c_distanceOf (by omega)) rfl rfl rfl (by decide) ?_
  generalize hDD : w1 52 0 trap = D at *
  have J35 : (i = -1 ∨ D = -4) → mm_Wk K_X9_run (0, 0) 35 [some (.inr (some (21, 0))), some (.inl i), some (.inr (some (47, 0))), some (.inl D)] [] (PH (true, r.2) y) w1 (fun a b' w' => b' = PH (true, r.2) y ∧ sm nrL w w' ∧ CS w' (true, r.2) y np trap nv nc ne c e f lk d hl hw t n ∧ ∃ z, a = some (.inl z) ∧ RA c e f nv ne trap i z) := fun q => by
    refine k_gp rfl rfl (by first | trivial | decide | (simp only [true_and, mm_fits]; omega)) ?_
    exact k_ret rfl trivial ⟨rfl, s1, hC, D, rfl, fun z => by omega, fun _ => ⟨D, hRD, fun _ => rfl, fun z => ⟨fun _ => by omega, fun z2 => by omega⟩⟩⟩
  refine k_gp rfl rfl (by first | trivial | decide | (simp only [true_and, mm_fits]; omega)) ?_
  refine k_br rfl (fun q => J35 (Or.inl q)) (fun q => ?_)
  refine k_gp rfl rfl (by first | trivial | decide | (simp only [true_and, mm_fits]; omega)) ?_
  refine k_br rfl (fun q2 => ?_) (fun q2 => J35 (Or.inr (Classical.byContradiction q2)))
  refine k_gp rfl rfl (by first | trivial | decide | (simp only [true_and, mm_fits]; omega)) ?_
  refine k_br rfl (fun q3 => ?_) (fun q3 => ?_)
  · refine k_gp rfl rfl (by first | trivial | decide | (simp only [true_and, mm_fits]; omega)) ?_
    exact k_ret rfl (by decide) ⟨rfl, s1, hC, -4, rfl, fun z => by omega, fun _ => ⟨D, hRD, fun z => by omega, fun z => ⟨fun _ => rfl, fun z2 => by omega⟩⟩⟩
  · refine k_gp rfl rfl (by first | trivial | decide | (simp only [true_and, mm_fits]; omega)) ?_
    refine k_call0 rfl (ev_c_edgeOfRun (r := (true, r.2)) hK hE (by omega) hT (by omega) (i := i) (by omega)) rfl rfl rfl (by decide) ?_
    rintro a b' w2 ⟨rfl, rfl, z, ρ, rfl, hU, hρ⟩
    rw [hDD] at hU
    refine k_gp rfl rfl (by first | trivial | decide | (simp only [true_and, mm_fits]; omega)) ?_
    exact k_ret rfl trivial ⟨rfl, s1, hC, z, rfl, fun z => by omega, fun _ => ⟨D, hRD, fun z => by omega, fun _ => ⟨fun z2 => by omega, fun _ => ⟨ρ, hU, hρ⟩⟩⟩⟩
theorem ev_c_may0 {x cb u : Int} (hP : PC w np trap nv nc ne c e f) (hb : ¬ ((0 ≤ x ∧ x < ne) ∧ (0 ≤ cb ∧ cb ≤ 255) ∧ (0 ≤ u ∧ u ≤ 255))) : mm_Ev K_X9_may (0, 0) [.inr (some (21, 0)), .inl x, .inl cb, .inl u] (PH r y) w (mm_pe (some (.inl (-1))) (PH r y) w) := by
  refine ev_intro ok_X9_may mo_X9_may (Nat.le_of_ble_eq_true rfl) (fun hrg has => ?_)
  have ev1 := ev_c_isEdge (r := r) (y := y) (w := w) (p := x)
  rw [hP.1.2.2.2.2] at ev1
  have bad : mm_Wk K_X9_may (0, 0) 22 [some (.inr (some (21, 0))), some (.inl x), some (.inl cb), some (.inl u)] [] (PH r y) w (mm_pe (some (.inl (-1))) (PH r y) w) := by
    refine k_gp rfl rfl (by first | trivial | decide | (simp only [true_and, mm_fits]; omega)) ?_
    exact k_ret rfl (by decide) ⟨rfl, rfl, rfl⟩
  refine k_gp rfl rfl (by first | trivial | decide | (simp only [true_and, mm_fits]; omega)) ?_
  refine k_callp rfl ev1 rfl rfl rfl (by decide) ?_
  refine k_brz rfl (fun q => bad) (fun q1 => ?_)
  refine k_gp rfl rfl (by first | trivial | decide | (simp only [true_and, mm_fits]; omega)) ?_
  refine k_callp rfl ev_c_isCube rfl rfl rfl (by decide) ?_
  refine k_brz rfl (fun q => bad) (fun q2 => ?_)
  refine k_gp rfl rfl (by first | trivial | decide | (simp only [true_and, mm_fits]; omega)) ?_
  refine k_callp rfl ev_c_isCube rfl rfl rfl (by decide) ?_
  refine k_brn rfl (fun q3 => absurd ⟨q1, q2, q3⟩ hb) (fun q => bad)
/-- scratch of the class -/
abbrev scL : List (Nat × Option Int) := [(68, none), (70, none), (72, none), (73, none), (74, none), (76, none), (83, none), (85, none)]
theorem CS_sc {w' : mm_M} (hs : sm scL w w') (h : CS w r y np trap nv nc ne c e f lk d hl hw t n) : CS w' r y np trap nv nc ne c e f lk d hl hw t n := ⟨CB_eq (cbG_fr hs rfl) h.1, HI_sm hs rfl (fun _ => rfl) h.2.1, CX_sm h.2.2 hs (fun _ => rfl) rfl⟩
abbrev mmL : List (Nat × Option Int) := (21, some 8) :: (List.range' 55 31).map fun g => (g, none)
theorem ev_c_may {x cb u : Int} (h : CS w r y np trap nv nc ne c e f lk d hl hw t n) (hx : 0 ≤ x ∧ x < ne) (hc : 0 ≤ cb ∧ cb ≤ 255) (hu : 0 ≤ u ∧ u ≤ 255) : mm_Ev K_X9_may (nM y) [.inr (some (21, 0)), .inl x, .inl cb, .inl u] (PH r y) w (fun a b' w' => b' = PH r true ∧ sm nmL w w' ∧ CS w' r true np trap nv nc ne c e f lk d hl hw t n ∧ a = some (.inl (ib (nxB c e lk nv nc x cb u = true)))) := by
  refine ev_intro ok_X9_may mo_X9_may (Nat.le_of_ble_eq_true rfl) (fun hrg has => ?_)
  have ev1 := ev_c_isEdge (r := r) (y := y) (w := w) (p := x)
  rw [h.1.1.2.1.1.2.2.2.2] at ev1
  refine k_gp rfl rfl (by first | trivial | decide | (simp only [true_and, mm_fits]; omega)) ?_
  refine k_callp rfl ev1 rfl rfl rfl (by decide) ?_
  refine k_brz rfl (fun q => absurd hx q) (fun q1 => ?_)
  refine k_gp rfl rfl (by first | trivial | decide | (simp only [true_and, mm_fits]; omega)) ?_
  refine k_callp rfl ev_c_isCube rfl rfl rfl (by decide) ?_
  refine k_brz rfl (fun q => absurd hc q) (fun q2 => ?_)
  refine k_gp rfl rfl (by first | trivial | decide | (simp only [true_and, mm_fits]; omega)) ?_
  refine k_callp rfl ev_c_isCube rfl rfl rfl (by decide) ?_
  refine k_brn rfl (fun q3 => ?_) (fun q => absurd hu q)
  refine k_gp rfl rfl (by first | trivial | decide | (simp only [true_and, mm_fits]; omega)) ?_
  refine k_call (n1 := (0, 0)) rfl (ev_c_newMay h) rfl rfl rfl (by decide) (nz _) ?_
  rintro a b' w1 ⟨rfl, rfl, s1, hC, e8⟩
  obtain ⟨hSD, hLE⟩ := hC.1.2.2.2.2.2 e8
  refine k_gp rfl rfl (by first | trivial | decide | (simp only [true_and, mm_fits]; omega)) ?_
  refine k_call0 rfl (ev_c_becomes (lk := lk) (cb := cb) (u := u) hx (by omega) (by omega) hC.1.1.1 hC.1.1.2.1 hC.1.1.2.2.2 (hLE x hx.1 hx.2)) rfl rfl rfl (by decide) ?_
  rintro a b' w2 ⟨rfl, s2, rfl⟩
  have hC2 := CS_sc (sm_w s2 (by decide)) hC
  have s3 : sm nmL w w2 := sm_tr s1 (sm_w s2 (by decide))
  refine k_brz rfl (fun q => ?_) (fun q => ?_)
  · refine k_gp rfl rfl (by first | trivial | decide | (simp only [true_and, mm_fits]; omega)) ?_
    exact k_ret rfl (by decide) ⟨rfl, s3, hC2, by rw [ib_f q]⟩
  · refine k_gp rfl rfl (by first | trivial | decide | (simp only [true_and, mm_fits]; omega)) ?_
    exact k_ret rfl (by decide) ⟨rfl, s3, hC2, by rw [ib_t q]⟩
theorem ev_c_state0 {p i : Int} (hP : PC w np trap nv nc ne c e f) (hb : ¬ ((0 ≤ p ∧ p < np) ∧ -1 ≤ i)) : mm_Ev K_X9_state (0, 0) [.inr (some (21, 0)), .inl p, .inl i] (PH r y) w (mm_pe (some (.inl (-1))) (PH r y) w) := by
  refine ev_intro ok_X9_state mo_X9_state (Nat.le_of_ble_eq_true rfl) (fun hrg has => ?_)
  have ev1 := ev_c_isPlace (r := r) (y := y) (w := w) (p := p)
  rw [hP.1.1] at ev1
  have bad : ∀ l3, mm_Wk K_X9_state (0, 0) 13 [some (.inr (some (21, 0))), some (.inl p), some (.inl i), l3] [] (PH r y) w (mm_pe (some (.inl (-1))) (PH r y) w) := fun l3 => by
    refine k_gp rfl rfl (by first | trivial | decide | (simp only [true_and, mm_fits]; omega)) ?_
    exact k_ret rfl (by decide) ⟨rfl, rfl, rfl⟩
  refine k_gp rfl rfl (by first | trivial | decide | (simp only [true_and, mm_fits]; omega)) ?_
  refine k_callp rfl ev1 rfl rfl rfl (by decide) ?_
  refine k_brz rfl (fun q => bad _) (fun q1 => ?_)
  refine k_gp rfl rfl (by first | trivial | decide | (simp only [true_and, mm_fits]; omega)) ?_
  refine k_br rfl (fun q2 => absurd ⟨q1, by omega⟩ hb) (fun q => bad _)
theorem ev_c_state {p i : Int} (h : CS w r y np trap nv nc ne c e f lk d hl hw t n) (hp : 0 ≤ p ∧ p < np) (hi : -1 ≤ i) : mm_Ev K_X9_state (nM y) [.inr (some (21, 0)), .inl p, .inl i] (PH r y) w (fun a b' w' => b' = PH r true ∧ sm nmL w w' ∧ CS w' r true np trap nv nc ne c e f lk d hl hw t n ∧ ∃ z, a = some (.inl z) ∧ SA (fun u => inQ (MQ_ c e f lk nv nc ne) (256 * p + u)) i z) := by
  refine ev_intro ok_X9_state mo_X9_state (Nat.le_of_ble_eq_true rfl) (fun hrg has => ?_)
  have ev1 := ev_c_isPlace (r := r) (y := y) (w := w) (p := p)
  rw [h.1.1.2.1.1.1] at ev1
  have hnp := h.1.1.1.1
  refine k_gp rfl rfl (by first | trivial | decide | (simp only [true_and, mm_fits]; omega)) ?_
  refine k_callp rfl ev1 rfl rfl rfl (by decide) ?_
  refine k_brz rfl (fun q => absurd hp q) (fun q1 => ?_)
  refine k_gp rfl rfl (by first | trivial | decide | (simp only [true_and, mm_fits]; omega)) ?_
  refine k_brt rfl (by omega) ?_
  refine k_gp rfl rfl (by first | trivial | decide | (simp only [true_and, mm_fits]; omega)) ?_
  refine k_call (n1 := (0, 0)) rfl (ev_c_newMay h) rfl rfl rfl (by decide) (nz _) ?_
  rintro a b' w1 ⟨rfl, rfl, s1, hC, e8⟩
  obtain ⟨hSD, hLE⟩ := hC.1.2.2.2.2.2 e8
  refine k_gp rfl rfl (by first | trivial | decide | (simp only [true_and, mm_fits]; omega)) ?_
  refine k_br rfl (fun q2 => ?_) (fun q2 => ?_)
  · refine k_gp rfl rfl (by first | trivial | decide | (simp only [true_and, mm_fits]; omega)) ?_
    refine k_call0 rfl (ev_c_cubeOf hSD.1 (p := p) (i := i) (by omega) (by omega)) rfl rfl rfl (by decide) ?_
    rintro a b' w2 ⟨rfl, rfl, z, rfl, hz⟩
    exact k_ret rfl trivial ⟨rfl, s1, hC, z, rfl, hz⟩
  · have q2 : i = -1 := Classical.byContradiction q2
    refine k_gp rfl rfl (by first | trivial | decide | (simp only [true_and, mm_fits]; omega)) ?_
    refine k_callp rfl (ev_c_statesOf hSD.1 QN_MQ (p := p) (by omega)) rfl rfl rfl (by decide) ?_
    refine k_gp rfl rfl (by first | trivial | decide | (simp only [true_and, mm_fits]; omega)) ?_
    exact k_ret rfl trivial ⟨rfl, s1, hC, _, rfl, fun _ => rfl, fun z => by omega⟩
theorem ev_c_found0 {p : Int} (hP : PC w np trap nv nc ne c e f) (hb : ¬ (0 ≤ p ∧ p < np)) : mm_Ev K_X9_found (0, 0) [.inr (some (21, 0)), .inl p] (PH r y) w (mm_pe (some (.inl (-1))) (PH r y) w) := by
  refine ev_intro ok_X9_found mo_X9_found (Nat.le_of_ble_eq_true rfl) (fun hrg has => ?_)
  have ev1 := ev_c_isPlace (r := r) (y := y) (w := w) (p := p)
  rw [hP.1.1] at ev1
  refine k_gp rfl rfl (by first | trivial | decide | (simp only [true_and, mm_fits]; omega)) ?_
  refine k_callp rfl ev1 rfl rfl rfl (by decide) ?_
  refine k_brz rfl (fun q => ?_) (fun q1 => absurd q1 hb)
  refine k_gp rfl rfl (by first | trivial | decide | (simp only [true_and, mm_fits]; omega)) ?_
  exact k_ret rfl (by decide) ⟨rfl, rfl, rfl⟩
theorem ev_c_found {p : Int} (h : CS w r y np trap nv nc ne c e f lk d hl hw t n) (hp : 0 ≤ p ∧ p < np) : mm_Ev K_X9_found (nM y) [.inr (some (21, 0)), .inl p] (PH r y) w (fun a b' w' => b' = PH r true ∧ sm nmL w w' ∧ CS w' r true np trap nv nc ne c e f lk d hl hw t n ∧ ∃ z, a = some (.inl z) ∧ FO (fun u => inQ (MQ_ c e f lk nv nc ne) (256 * p + u)) (lk p) z) := by
  refine ev_intro ok_X9_found mo_X9_found (Nat.le_of_ble_eq_true rfl) (fun hrg has => ?_)
  have ev1 := ev_c_isPlace (r := r) (y := y) (w := w) (p := p)
  rw [h.1.1.2.1.1.1] at ev1
  have hnp := h.1.1.1.1
  refine k_gp rfl rfl (by first | trivial | decide | (simp only [true_and, mm_fits]; omega)) ?_
  refine k_callp rfl ev1 rfl rfl rfl (by decide) ?_
  refine k_brz rfl (fun q => absurd hp q) (fun q1 => ?_)
  refine k_gp rfl rfl (by first | trivial | decide | (simp only [true_and, mm_fits]; omega)) ?_
  refine k_call (n1 := (0, 0)) rfl (ev_c_newMay h) rfl rfl rfl (by decide) (nz _) ?_
  rintro a b' w1 ⟨rfl, rfl, s1, hC, e8⟩
  obtain ⟨hSD, hLE⟩ := hC.1.2.2.2.2.2 e8
  refine k_gp rfl rfl (by first | trivial | decide | (simp only [true_and, mm_fits]; omega)) ?_
  refine k_call0 rfl (ev_c_foundAt hSD.1 hC.1.1.2.2.2 (p := p) (by omega)) rfl rfl rfl (by decide) ?_
  rintro a b' w2 ⟨rfl, rfl, z, rfl, hz⟩
  refine k_gp rfl rfl (by first | trivial | decide | (simp only [true_and, mm_fits]; omega)) ?_
  exact k_ret rfl trivial ⟨rfl, s1, hC, z, rfl, hz⟩
end MC
