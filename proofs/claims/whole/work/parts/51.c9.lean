/-! ===== the class: cubes that some may become (written by gen51.py) ===== -/
/-- entry i of the leaps of edge x leads from a set that is in N, looked at so -/
def lpN (w : mm_M) (N : Nat) (x La i : Int) : Prop := (0 ≤ i ∧ i < w 58 0 x) ∧ nsB w N (mm_and (w 57 x i / 256) La) = true
section MC
variable {r : Bool × Bool} {y : Bool} {w : mm_M}
set_option maxRecDepth 100000 in
theorem ev_c_putNext_42_82 {x La Lb : Int} (hx : 0 ≤ x ∧ x < 14) (hp : (0 ≤ w 38 x 0 ∧ w 38 x 0 < 8) ∧ (0 ≤ w 38 x 1 ∧ w 38 x 1 < 8)) (ha : w 42 0 (w 38 x 0) = La) (hb : w 42 0 (w 38 x 1) = Lb) (hLa : 0 ≤ La ∧ La < 256) (hLb : 0 ≤ Lb ∧ Lb < 256) (hl : 0 ≤ w 58 0 x ∧ w 58 0 x ≤ 512) (he : ∀ i, 0 ≤ i → i < w 58 0 x → 0 ≤ w 57 x i ∧ w 57 x i < 65536) : mm_Ev K_X1_putNextCubes (0, 0) [.inr (some (55, 0)), .inl x, .inr (some (42, 0)), .inr (some (82, 0)), .inr (some (84, 0))] (PH r y) w (fun a b' w' => b' = PH r y ∧ sm [(85, none)] w w' ∧ (∀ u, 0 ≤ u → u < 256 → (nsB w' 85 u = true ↔ ∃ i, lpN w 83 x La i ∧ mm_and (w 57 x i % 256) Lb = u)) ∧ ∃ z : Bool, a = some (.inl (ib (z = true))) ∧ (z = true ↔ ∃ i, lpN w 83 x La i)) := by
  have hN : NSL 82 8 := by unfold NSL; decide
  have hT : NSL 84 8 := by unfold NSL; decide
  refine ev_intro ok_X1_putNextCubes mo_X1_putNextCubes (Nat.le_of_ble_eq_true rfl) (fun hrg has => ?_)
  refine k_gp rfl rfl (by simp only [true_and, mm_fits]; omega) ?_
  rw [ha, hb]
  refine k_callp rfl (ev_empty hT) rfl rfl rfl (by decide) ?_
  refine k_gp rfl rfl trivial ?_
  have s0 : sm [(85, none)] w (arrw w 85 0 8 (fun _ => 0)) := sm_arrw sm_rf List.mem_cons_self
  refine mm_loop (σ := mm_M × Bool) (w 58 0 x) (fun i s => (0 ≤ i ∧ i ≤ w 58 0 x) ∧ sm [(85, none)] w s.1 ∧ (∀ u, 0 ≤ u → u < 256 → (nsB s.1 85 u = true ↔ ∃ j, j < i ∧ lpN w 83 x La j ∧ mm_and (w 57 x j % 256) Lb = u)) ∧ (s.2 = true ↔ ∃ j, j < i ∧ lpN w 83 x La j)) (fun i s => mm_Wk K_X1_putNextCubes (0, 0) 41 [some (.inr (some (55, 0))), some (.inl x), some (.inr (some (42, 0))), some (.inr (some (82, 0))), some (.inr (some (84, 0))), some (.inl La), some (.inl Lb), some (.inl (ib (s.2 = true))), some (.inl i)] [] (PH r y) s.1 (fun a b' w' => b' = PH r y ∧ sm [(85, none)] w w' ∧ (∀ u, 0 ≤ u → u < 256 → (nsB w' 85 u = true ↔ ∃ i, lpN w 83 x La i ∧ mm_and (w 57 x i % 256) Lb = u)) ∧ ∃ z : Bool, a = some (.inl (ib (z = true))) ∧ (z = true ↔ ∃ i, lpN w 83 x La i))) ?_ ?_ 0 (arrw w 85 0 8 (fun _ => 0), false) ⟨by omega, s0, fun u a b => ?_, ?_⟩
  · rintro i ⟨w1, z⟩ q1 ⟨q2, s1, q3, q4⟩ ih
    dsimp only at s1 q3 q4 ⊢
    have e58 : w1 58 0 x = w 58 0 x := s1 58 0 x rfl
    have e57 : w1 57 x i = w 57 x i := s1 57 x i rfl
    have hei := he i q2.1 q1
    have hda := (hb_and (a := w 57 x i / 256) (b := La) (g := 0) (by omega) hLa).1
    have hma := (hb_and (a := w 57 x i % 256) (b := Lb) (g := 0) (by omega) hLb).1
    have nN : nsB w1 83 (mm_and (w 57 x i / 256) La) = nsB w 83 (mm_and (w 57 x i / 256) La) := nsB_sm s1 (fun _ => rfl)
    refine k_gp rfl rfl (by simp only [true_and, mm_fits]; omega) ?_
    rw [e58]
    refine k_brf rfl (by omega) ?_
    refine k_gp rfl rfl (by simp only [true_and, mm_fits, e57]; omega) ?_
    rw [e57]
    refine k_callp rfl (ev_has hN (by omega)) rfl rfl rfl (by decide) ?_
    rw [nN]
    refine k_brz rfl (fun q => ?_) (fun q => ?_)
    · have hno : ¬ lpN w 83 x La i := fun p => q p.2
      refine k_gp rfl rfl (by simp only [true_and, mm_fits]; omega) ?_
      refine ih (w1, z) ⟨by omega, s1, fun u a b => ?_, ?_⟩
      · rw [q3 u a b]
        exact ⟨fun ⟨j, p1, p2, p3⟩ => ⟨j, by omega, p2, p3⟩, fun ⟨j, p1, p2, p3⟩ => ⟨j, by
          have : j ≠ i := fun h => hno (h ▸ p2)
          omega, p2, p3⟩⟩
      · rw [q4]
        exact ⟨fun ⟨j, p1, p2⟩ => ⟨j, by omega, p2⟩, fun ⟨j, p1, p2⟩ => ⟨j, by
          have : j ≠ i := fun h => hno (h ▸ p2)
          omega, p2⟩⟩
    · have hyes : lpN w 83 x La i := ⟨⟨q2.1, q1⟩, q⟩
      refine k_gp rfl rfl (by simp only [true_and, mm_fits, e57]; omega) ?_
      rw [e57]
      refine k_callp rfl (ev_add hT (by omega)) rfl rfl rfl (by decide) ?_
      refine k_gp rfl rfl trivial ?_
      have s2 : sm [(85, none)] w (nsA w1 85 (mm_and (w 57 x i % 256) Lb)) := sm_up s1 (Or.inl List.mem_cons_self)
      refine k_gp rfl rfl (by simp only [true_and, mm_fits]; omega) ?_
      refine ih (nsA w1 85 (mm_and (w 57 x i % 256) Lb), true) ⟨by omega, s2, fun u a b => ?_, ⟨fun _ => ⟨i, by omega, hyes⟩, fun _ => rfl⟩⟩
      dsimp only
      rw [nsB_A hma.1 a, Bool.or_eq_true, decide_eq_true_eq, q3 u a b]
      constructor
      · rintro (⟨j, p1, p2, p3⟩ | p)
        · exact ⟨j, by omega, p2, p3⟩
        · exact ⟨i, by omega, hyes, p.symm⟩
      · rintro ⟨j, p1, p2, p3⟩
        by_cases hj : j = i
        · subst hj; exact Or.inr p3.symm
        · exact Or.inl ⟨j, by omega, p2, p3⟩
  · rintro i ⟨w1, z⟩ q1 ⟨q2, s1, q3, q4⟩
    dsimp only at s1 q3 q4 ⊢
    have e58 : w1 58 0 x = w 58 0 x := s1 58 0 x rfl
    refine k_gp rfl rfl (by simp only [true_and, mm_fits]; omega) ?_
    rw [e58]
    refine k_brt rfl (by omega) ?_
    refine k_gp rfl rfl trivial ?_
    refine k_ret rfl (ib_in _) ⟨rfl, s1, fun u a b => ?_, z, rfl, ?_⟩
    · rw [q3 u a b]
      exact ⟨fun ⟨j, p1, p2, p3⟩ => ⟨j, p2, p3⟩, fun ⟨j, p2, p3⟩ => ⟨j, by have := p2.1; omega, p2, p3⟩⟩
    · rw [q4]
      exact ⟨fun ⟨j, p1, p2⟩ => ⟨j, p2⟩, fun ⟨j, p2⟩ => ⟨j, by have := p2.1; omega, p2⟩⟩
  · dsimp only
    rw [nsB_0 (by omega)]
    exact ⟨(fun z => by cases z), (fun ⟨j, p1, p2, _⟩ => by have := p2.1; omega)⟩
  · exact ⟨(fun z => by cases z), (fun ⟨j, p1, p2⟩ => by have := p2.1; omega)⟩
set_option maxRecDepth 100000 in
theorem ev_c_putNext_68_69 {x La Lb : Int} (hx : 0 ≤ x ∧ x < 14) (hp : (0 ≤ w 38 x 0 ∧ w 38 x 0 < 8) ∧ (0 ≤ w 38 x 1 ∧ w 38 x 1 < 8)) (ha : w 68 0 (w 38 x 0) = La) (hb : w 68 0 (w 38 x 1) = Lb) (hLa : 0 ≤ La ∧ La < 256) (hLb : 0 ≤ Lb ∧ Lb < 256) (hl : 0 ≤ w 58 0 x ∧ w 58 0 x ≤ 512) (he : ∀ i, 0 ≤ i → i < w 58 0 x → 0 ≤ w 57 x i ∧ w 57 x i < 65536) : mm_Ev K_X1_putNextCubes (0, 0) [.inr (some (55, 0)), .inl x, .inr (some (68, 0)), .inr (some (69, 0)), .inr (some (71, 0))] (PH r y) w (fun a b' w' => b' = PH r y ∧ sm [(72, none)] w w' ∧ (∀ u, 0 ≤ u → u < 256 → (nsB w' 72 u = true ↔ ∃ i, lpN w 70 x La i ∧ mm_and (w 57 x i % 256) Lb = u)) ∧ ∃ z : Bool, a = some (.inl (ib (z = true))) ∧ (z = true ↔ ∃ i, lpN w 70 x La i)) := by
  have hN : NSL 69 8 := by unfold NSL; decide
  have hT : NSL 71 8 := by unfold NSL; decide
  refine ev_intro ok_X1_putNextCubes mo_X1_putNextCubes (Nat.le_of_ble_eq_true rfl) (fun hrg has => ?_)
  refine k_gp rfl rfl (by simp only [true_and, mm_fits]; omega) ?_
  rw [ha, hb]
  refine k_callp rfl (ev_empty hT) rfl rfl rfl (by decide) ?_
  refine k_gp rfl rfl trivial ?_
  have s0 : sm [(72, none)] w (arrw w 72 0 8 (fun _ => 0)) := sm_arrw sm_rf List.mem_cons_self
  refine mm_loop (σ := mm_M × Bool) (w 58 0 x) (fun i s => (0 ≤ i ∧ i ≤ w 58 0 x) ∧ sm [(72, none)] w s.1 ∧ (∀ u, 0 ≤ u → u < 256 → (nsB s.1 72 u = true ↔ ∃ j, j < i ∧ lpN w 70 x La j ∧ mm_and (w 57 x j % 256) Lb = u)) ∧ (s.2 = true ↔ ∃ j, j < i ∧ lpN w 70 x La j)) (fun i s => mm_Wk K_X1_putNextCubes (0, 0) 41 [some (.inr (some (55, 0))), some (.inl x), some (.inr (some (68, 0))), some (.inr (some (69, 0))), some (.inr (some (71, 0))), some (.inl La), some (.inl Lb), some (.inl (ib (s.2 = true))), some (.inl i)] [] (PH r y) s.1 (fun a b' w' => b' = PH r y ∧ sm [(72, none)] w w' ∧ (∀ u, 0 ≤ u → u < 256 → (nsB w' 72 u = true ↔ ∃ i, lpN w 70 x La i ∧ mm_and (w 57 x i % 256) Lb = u)) ∧ ∃ z : Bool, a = some (.inl (ib (z = true))) ∧ (z = true ↔ ∃ i, lpN w 70 x La i))) ?_ ?_ 0 (arrw w 72 0 8 (fun _ => 0), false) ⟨by omega, s0, fun u a b => ?_, ?_⟩
  · rintro i ⟨w1, z⟩ q1 ⟨q2, s1, q3, q4⟩ ih
    dsimp only at s1 q3 q4 ⊢
    have e58 : w1 58 0 x = w 58 0 x := s1 58 0 x rfl
    have e57 : w1 57 x i = w 57 x i := s1 57 x i rfl
    have hei := he i q2.1 q1
    have hda := (hb_and (a := w 57 x i / 256) (b := La) (g := 0) (by omega) hLa).1
    have hma := (hb_and (a := w 57 x i % 256) (b := Lb) (g := 0) (by omega) hLb).1
    have nN : nsB w1 70 (mm_and (w 57 x i / 256) La) = nsB w 70 (mm_and (w 57 x i / 256) La) := nsB_sm s1 (fun _ => rfl)
    refine k_gp rfl rfl (by simp only [true_and, mm_fits]; omega) ?_
    rw [e58]
    refine k_brf rfl (by omega) ?_
    refine k_gp rfl rfl (by simp only [true_and, mm_fits, e57]; omega) ?_
    rw [e57]
    refine k_callp rfl (ev_has hN (by omega)) rfl rfl rfl (by decide) ?_
    rw [nN]
    refine k_brz rfl (fun q => ?_) (fun q => ?_)
    · have hno : ¬ lpN w 70 x La i := fun p => q p.2
      refine k_gp rfl rfl (by simp only [true_and, mm_fits]; omega) ?_
      refine ih (w1, z) ⟨by omega, s1, fun u a b => ?_, ?_⟩
      · rw [q3 u a b]
        exact ⟨fun ⟨j, p1, p2, p3⟩ => ⟨j, by omega, p2, p3⟩, fun ⟨j, p1, p2, p3⟩ => ⟨j, by
          have : j ≠ i := fun h => hno (h ▸ p2)
          omega, p2, p3⟩⟩
      · rw [q4]
        exact ⟨fun ⟨j, p1, p2⟩ => ⟨j, by omega, p2⟩, fun ⟨j, p1, p2⟩ => ⟨j, by
          have : j ≠ i := fun h => hno (h ▸ p2)
          omega, p2⟩⟩
    · have hyes : lpN w 70 x La i := ⟨⟨q2.1, q1⟩, q⟩
      refine k_gp rfl rfl (by simp only [true_and, mm_fits, e57]; omega) ?_
      rw [e57]
      refine k_callp rfl (ev_add hT (by omega)) rfl rfl rfl (by decide) ?_
      refine k_gp rfl rfl trivial ?_
      have s2 : sm [(72, none)] w (nsA w1 72 (mm_and (w 57 x i % 256) Lb)) := sm_up s1 (Or.inl List.mem_cons_self)
      refine k_gp rfl rfl (by simp only [true_and, mm_fits]; omega) ?_
      refine ih (nsA w1 72 (mm_and (w 57 x i % 256) Lb), true) ⟨by omega, s2, fun u a b => ?_, ⟨fun _ => ⟨i, by omega, hyes⟩, fun _ => rfl⟩⟩
      dsimp only
      rw [nsB_A hma.1 a, Bool.or_eq_true, decide_eq_true_eq, q3 u a b]
      constructor
      · rintro (⟨j, p1, p2, p3⟩ | p)
        · exact ⟨j, by omega, p2, p3⟩
        · exact ⟨i, by omega, hyes, p.symm⟩
      · rintro ⟨j, p1, p2, p3⟩
        by_cases hj : j = i
        · subst hj; exact Or.inr p3.symm
        · exact Or.inl ⟨j, by omega, p2, p3⟩
  · rintro i ⟨w1, z⟩ q1 ⟨q2, s1, q3, q4⟩
    dsimp only at s1 q3 q4 ⊢
    have e58 : w1 58 0 x = w 58 0 x := s1 58 0 x rfl
    refine k_gp rfl rfl (by simp only [true_and, mm_fits]; omega) ?_
    rw [e58]
    refine k_brt rfl (by omega) ?_
    refine k_gp rfl rfl trivial ?_
    refine k_ret rfl (ib_in _) ⟨rfl, s1, fun u a b => ?_, z, rfl, ?_⟩
    · rw [q3 u a b]
      exact ⟨fun ⟨j, p1, p2, p3⟩ => ⟨j, p2, p3⟩, fun ⟨j, p2, p3⟩ => ⟨j, by have := p2.1; omega, p2, p3⟩⟩
    · rw [q4]
      exact ⟨fun ⟨j, p1, p2⟩ => ⟨j, p2⟩, fun ⟨j, p2⟩ => ⟨j, by have := p2.1; omega, p2⟩⟩
  · dsimp only
    rw [nsB_0 (by omega)]
    exact ⟨(fun z => by cases z), (fun ⟨j, p1, p2, _⟩ => by have := p2.1; omega)⟩
  · exact ⟨(fun z => by cases z), (fun ⟨j, p1, p2⟩ => by have := p2.1; omega)⟩
set_option maxRecDepth 100000 in
theorem ev_c_putNext_68_71 {x La Lb : Int} (hx : 0 ≤ x ∧ x < 14) (hp : (0 ≤ w 38 x 0 ∧ w 38 x 0 < 8) ∧ (0 ≤ w 38 x 1 ∧ w 38 x 1 < 8)) (ha : w 68 0 (w 38 x 0) = La) (hb : w 68 0 (w 38 x 1) = Lb) (hLa : 0 ≤ La ∧ La < 256) (hLb : 0 ≤ Lb ∧ Lb < 256) (hl : 0 ≤ w 58 0 x ∧ w 58 0 x ≤ 512) (he : ∀ i, 0 ≤ i → i < w 58 0 x → 0 ≤ w 57 x i ∧ w 57 x i < 65536) : mm_Ev K_X1_putNextCubes (0, 0) [.inr (some (55, 0)), .inl x, .inr (some (68, 0)), .inr (some (71, 0)), .inr (some (69, 0))] (PH r y) w (fun a b' w' => b' = PH r y ∧ sm [(70, none)] w w' ∧ (∀ u, 0 ≤ u → u < 256 → (nsB w' 70 u = true ↔ ∃ i, lpN w 72 x La i ∧ mm_and (w 57 x i % 256) Lb = u)) ∧ ∃ z : Bool, a = some (.inl (ib (z = true))) ∧ (z = true ↔ ∃ i, lpN w 72 x La i)) := by
  have hN : NSL 71 8 := by unfold NSL; decide
  have hT : NSL 69 8 := by unfold NSL; decide
  refine ev_intro ok_X1_putNextCubes mo_X1_putNextCubes (Nat.le_of_ble_eq_true rfl) (fun hrg has => ?_)
  refine k_gp rfl rfl (by simp only [true_and, mm_fits]; omega) ?_
  rw [ha, hb]
  refine k_callp rfl (ev_empty hT) rfl rfl rfl (by decide) ?_
  refine k_gp rfl rfl trivial ?_
  have s0 : sm [(70, none)] w (arrw w 70 0 8 (fun _ => 0)) := sm_arrw sm_rf List.mem_cons_self
  refine mm_loop (σ := mm_M × Bool) (w 58 0 x) (fun i s => (0 ≤ i ∧ i ≤ w 58 0 x) ∧ sm [(70, none)] w s.1 ∧ (∀ u, 0 ≤ u → u < 256 → (nsB s.1 70 u = true ↔ ∃ j, j < i ∧ lpN w 72 x La j ∧ mm_and (w 57 x j % 256) Lb = u)) ∧ (s.2 = true ↔ ∃ j, j < i ∧ lpN w 72 x La j)) (fun i s => mm_Wk K_X1_putNextCubes (0, 0) 41 [some (.inr (some (55, 0))), some (.inl x), some (.inr (some (68, 0))), some (.inr (some (71, 0))), some (.inr (some (69, 0))), some (.inl La), some (.inl Lb), some (.inl (ib (s.2 = true))), some (.inl i)] [] (PH r y) s.1 (fun a b' w' => b' = PH r y ∧ sm [(70, none)] w w' ∧ (∀ u, 0 ≤ u → u < 256 → (nsB w' 70 u = true ↔ ∃ i, lpN w 72 x La i ∧ mm_and (w 57 x i % 256) Lb = u)) ∧ ∃ z : Bool, a = some (.inl (ib (z = true))) ∧ (z = true ↔ ∃ i, lpN w 72 x La i))) ?_ ?_ 0 (arrw w 70 0 8 (fun _ => 0), false) ⟨by omega, s0, fun u a b => ?_, ?_⟩
  · rintro i ⟨w1, z⟩ q1 ⟨q2, s1, q3, q4⟩ ih
    dsimp only at s1 q3 q4 ⊢
    have e58 : w1 58 0 x = w 58 0 x := s1 58 0 x rfl
    have e57 : w1 57 x i = w 57 x i := s1 57 x i rfl
    have hei := he i q2.1 q1
    have hda := (hb_and (a := w 57 x i / 256) (b := La) (g := 0) (by omega) hLa).1
    have hma := (hb_and (a := w 57 x i % 256) (b := Lb) (g := 0) (by omega) hLb).1
    have nN : nsB w1 72 (mm_and (w 57 x i / 256) La) = nsB w 72 (mm_and (w 57 x i / 256) La) := nsB_sm s1 (fun _ => rfl)
    refine k_gp rfl rfl (by simp only [true_and, mm_fits]; omega) ?_
    rw [e58]
    refine k_brf rfl (by omega) ?_
    refine k_gp rfl rfl (by simp only [true_and, mm_fits, e57]; omega) ?_
    rw [e57]
    refine k_callp rfl (ev_has hN (by omega)) rfl rfl rfl (by decide) ?_
    rw [nN]
    refine k_brz rfl (fun q => ?_) (fun q => ?_)
    · have hno : ¬ lpN w 72 x La i := fun p => q p.2
      refine k_gp rfl rfl (by simp only [true_and, mm_fits]; omega) ?_
      refine ih (w1, z) ⟨by omega, s1, fun u a b => ?_, ?_⟩
      · rw [q3 u a b]
        exact ⟨fun ⟨j, p1, p2, p3⟩ => ⟨j, by omega, p2, p3⟩, fun ⟨j, p1, p2, p3⟩ => ⟨j, by
          have : j ≠ i := fun h => hno (h ▸ p2)
          omega, p2, p3⟩⟩
      · rw [q4]
        exact ⟨fun ⟨j, p1, p2⟩ => ⟨j, by omega, p2⟩, fun ⟨j, p1, p2⟩ => ⟨j, by
          have : j ≠ i := fun h => hno (h ▸ p2)
          omega, p2⟩⟩
    · have hyes : lpN w 72 x La i := ⟨⟨q2.1, q1⟩, q⟩
      refine k_gp rfl rfl (by simp only [true_and, mm_fits, e57]; omega) ?_
      rw [e57]
      refine k_callp rfl (ev_add hT (by omega)) rfl rfl rfl (by decide) ?_
      refine k_gp rfl rfl trivial ?_
      have s2 : sm [(70, none)] w (nsA w1 70 (mm_and (w 57 x i % 256) Lb)) := sm_up s1 (Or.inl List.mem_cons_self)
      refine k_gp rfl rfl (by simp only [true_and, mm_fits]; omega) ?_
      refine ih (nsA w1 70 (mm_and (w 57 x i % 256) Lb), true) ⟨by omega, s2, fun u a b => ?_, ⟨fun _ => ⟨i, by omega, hyes⟩, fun _ => rfl⟩⟩
      dsimp only
      rw [nsB_A hma.1 a, Bool.or_eq_true, decide_eq_true_eq, q3 u a b]
      constructor
      · rintro (⟨j, p1, p2, p3⟩ | p)
        · exact ⟨j, by omega, p2, p3⟩
        · exact ⟨i, by omega, hyes, p.symm⟩
      · rintro ⟨j, p1, p2, p3⟩
        by_cases hj : j = i
        · subst hj; exact Or.inr p3.symm
        · exact Or.inl ⟨j, by omega, p2, p3⟩
  · rintro i ⟨w1, z⟩ q1 ⟨q2, s1, q3, q4⟩
    dsimp only at s1 q3 q4 ⊢
    have e58 : w1 58 0 x = w 58 0 x := s1 58 0 x rfl
    refine k_gp rfl rfl (by simp only [true_and, mm_fits]; omega) ?_
    rw [e58]
    refine k_brt rfl (by omega) ?_
    refine k_gp rfl rfl trivial ?_
    refine k_ret rfl (ib_in _) ⟨rfl, s1, fun u a b => ?_, z, rfl, ?_⟩
    · rw [q3 u a b]
      exact ⟨fun ⟨j, p1, p2, p3⟩ => ⟨j, p2, p3⟩, fun ⟨j, p2, p3⟩ => ⟨j, by have := p2.1; omega, p2, p3⟩⟩
    · rw [q4]
      exact ⟨fun ⟨j, p1, p2⟩ => ⟨j, p2⟩, fun ⟨j, p2⟩ => ⟨j, by have := p2.1; omega, p2⟩⟩
  · dsimp only
    rw [nsB_0 (by omega)]
    exact ⟨(fun z => by cases z), (fun ⟨j, p1, p2, _⟩ => by have := p2.1; omega)⟩
  · exact ⟨(fun z => by cases z), (fun ⟨j, p1, p2⟩ => by have := p2.1; omega)⟩
end MC
