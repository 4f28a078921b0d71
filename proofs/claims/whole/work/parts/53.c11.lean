/-! ===== the class: lists of values on a way (written by gen53.py) ===== -/
section MC
variable {r : Bool × Bool} {y : Bool} {w : mm_M} {np trap nv nc ne : Int} {c e : Int → Int → Int} {f : Int → Int}
theorem ev_c_listFirst (hf : 0 ≤ w 39 0 3 ∧ w 39 0 3 ≤ 512) : mm_Ev K_X8_listFirstValues (0, 0) [.inr (some (66, 0)), .inr (some (73, 0))] (PH r y) w (mm_pe (some (.inl (w 39 0 3))) (PH r y) (arrw w 73 0 (w 39 0 3) (fun k => w 41 0 k))) := by
  refine ev_intro ok_X8_listFirstValues mo_X8_listFirstValues (Nat.le_of_ble_eq_true rfl) (fun hrg has => ?_)
  refine k_gp rfl rfl trivial ?_
  refine mm_loop (σ := mm_M) (w 39 0 3) (fun i w1 => (0 ≤ i ∧ i ≤ w 39 0 3) ∧ w1 = arrw w 73 0 i (fun k => w 41 0 k)) (fun i w1 => mm_Wk K_X8_listFirstValues (0, 0) 2 [some (.inr (some (66, 0))), some (.inr (some (73, 0))), some (.inl i)] [] (PH r y) w1 (mm_pe (some (.inl (w 39 0 3))) (PH r y) (arrw w 73 0 (w 39 0 3) (fun k => w 41 0 k)))) ?_ ?_ 0 w ⟨by omega, arrw_0.symm⟩
  · rintro i w1 h1 ⟨h2, rfl⟩ ih
    have e3 : arrw w 73 0 i (fun k => w 41 0 k) 39 0 3 = w 39 0 3 := arrw_g rfl
    have e41 : arrw w 73 0 i (fun k => w 41 0 k) 41 0 i = w 41 0 i := arrw_g rfl
    refine k_gp rfl rfl trivial ?_
    refine k_callp rfl ev_c_firsts rfl rfl rfl (by decide) ?_
    rw [e3]
    refine k_brf rfl (by omega) ?_
    refine k_gp rfl rfl trivial ?_
    refine k_callp rfl (ev_c_firstAt (by omega)) rfl rfl rfl (by decide) ?_
    refine k_gp rfl rfl (by simp only [true_and, mm_fits]; omega) ?_
    rw [e41]
    exact ih _ ⟨by omega, arrw_s (by omega) (by omega) rfl⟩
  · rintro i w1 h1 ⟨h2, rfl⟩
    have hi : i = w 39 0 3 := by omega
    rw [hi]
    have e3 : arrw w 73 0 (w 39 0 3) (fun k => w 41 0 k) 39 0 3 = w 39 0 3 := arrw_g rfl
    refine k_gp rfl rfl trivial ?_
    refine k_callp rfl ev_c_firsts rfl rfl rfl (by decide) ?_
    rw [e3]
    refine k_brt rfl (by omega) ?_
    refine k_gp rfl rfl trivial ?_
    refine k_callp rfl ev_c_firsts rfl rfl rfl (by decide) ?_
    rw [e3]
    exact k_ret rfl trivial ⟨rfl, rfl, rfl⟩
set_option maxRecDepth 100000 in
theorem ev_c_listAfter_73 {x n : Int} (hO : PO np trap nv nc ne c e) (hP : PC w np trap nv nc ne c e f) (hM : MM w nv nc c f) (hx : 0 ≤ x ∧ x < ne) (hn : 0 ≤ n ∧ n ≤ 512) (hv : ∀ i, 0 ≤ i → i < n → (0 ≤ w 73 0 i ∧ w 73 0 i < 512) ∧ thB nv (w 73 0 i) = true) : mm_Ev K_X8_listAfter (0, 0) [.inr (some (66, 0)), .inl x, .inr (some (73, 0)), .inl n, .inr (some (74, 0))] (PH r y) w (fun a b' w' => b' = PH r y ∧ sm [(74, none), (76, none)] w w' ∧ ∃ m, a = some (.inl m) ∧ (0 ≤ m ∧ m ≤ n) ∧ ∀ u, (∃ k, (0 ≤ k ∧ k < m) ∧ w' 74 0 k = u) ↔ (0 ≤ u ∧ ∃ i, (0 ≤ i ∧ i < n) ∧ go_ c e x (w 73 0 i) = u)) := by
  have hL : NSL 75 16 := by unfold NSL; decide
  refine ev_intro ok_X8_listAfter mo_X8_listAfter (Nat.le_of_ble_eq_true rfl) (fun hrg has => ?_)
  have hne := hO.2.2.2.2.1
  have hnv := hO.2.2.1
  have hE := hO.2.2.2.2.2.2 x hx.1 hx.2
  refine k_gp rfl rfl trivial ?_
  refine k_callp rfl (ev_empty hL) rfl rfl rfl (by decide) ?_
  refine k_gp rfl rfl trivial ?_
  have s0 : sm [(74, none), (76, none)] w (arrw w 76 0 16 (fun _ => 0)) := sm_arrw sm_rf (by decide)
  refine mm_loop (σ := mm_M × Int) n (fun i s => (0 ≤ i ∧ i ≤ n) ∧ sm [(74, none), (76, none)] w s.1 ∧ (0 ≤ s.2 ∧ s.2 ≤ i) ∧ (∀ u, (∃ k, (0 ≤ k ∧ k < s.2) ∧ s.1 74 0 k = u) ↔ (0 ≤ u ∧ ∃ j, (0 ≤ j ∧ j < i) ∧ go_ c e x (w 73 0 j) = u)) ∧ ∀ u, 0 ≤ u → u < 512 → (nsB s.1 76 u = true ↔ ∃ j, (0 ≤ j ∧ j < i) ∧ go_ c e x (w 73 0 j) = u)) (fun i s => ∀ l7, mm_Wk K_X8_listAfter (0, 0) 13 [some (.inr (some (66, 0))), some (.inl x), some (.inr (some (73, 0))), some (.inl n), some (.inr (some (74, 0))), some (.inl s.2), some (.inl i), l7] [] (PH r y) s.1 (fun a b' w' => b' = PH r y ∧ sm [(74, none), (76, none)] w w' ∧ ∃ m, a = some (.inl m) ∧ (0 ≤ m ∧ m ≤ n) ∧ ∀ u, (∃ k, (0 ≤ k ∧ k < m) ∧ w' 74 0 k = u) ↔ (0 ≤ u ∧ ∃ i, (0 ≤ i ∧ i < n) ∧ go_ c e x (w 73 0 i) = u))) ?_ ?_ 0 (arrw w 76 0 16 (fun _ => 0), 0) ⟨by omega, s0, ⟨Int.le_refl 0, Int.le_refl 0⟩, fun u => ⟨fun ⟨k, p, _⟩ => by dsimp only at p; omega, fun ⟨_, k, p, _⟩ => by omega⟩, fun u a b => ?_⟩ _
  · rintro i ⟨w1, m⟩ q1 ⟨q2, s1, q3, q4, q5⟩ ih l7
    dsimp only at s1 q3 q4 q5 ⊢
    obtain ⟨v1, v2⟩ := hv i q2.1 q1
    have eN : w1 73 0 i = w 73 0 i := s1 73 0 i rfl
    have hP1 : PC w1 np trap nv nc ne c e f := PC_sm s1 rfl (fun _ => rfl) hP
    have hM1 : MM w1 nv nc c f := MM_sm s1 rfl (fun _ => rfl) hM
    have hgo := go_in (c := c) (x := x) v1 hnv.2 hE
    have hga : ga_ c e x (w 73 0 i) = if go_ c e x (w 73 0 i) < 0 then -2 else go_ c e x (w 73 0 i) := rfl
    have nx : ∀ (w2 : mm_M) (m2 : Int) (l7 : Option mm_V), sm [(74, none), (76, none)] w w2 → (0 ≤ m2 ∧ m2 ≤ i + 1) → (∀ u, (∃ k, (0 ≤ k ∧ k < m2) ∧ w2 74 0 k = u) ↔ ((∃ k, (0 ≤ k ∧ k < m) ∧ w1 74 0 k = u) ∨ (0 ≤ u ∧ go_ c e x (w 73 0 i) = u))) → (∀ u, 0 ≤ u → u < 512 → (nsB w2 76 u = true ↔ nsB w1 76 u = true ∨ go_ c e x (w 73 0 i) = u)) → mm_Wk K_X8_listAfter (0, 0) 60 [some (.inr (some (66, 0))), some (.inl x), some (.inr (some (73, 0))), some (.inl n), some (.inr (some (74, 0))), some (.inl m2), some (.inl i), l7] [] (PH r y) w2 (fun a b' w' => b' = PH r y ∧ sm [(74, none), (76, none)] w w' ∧ ∃ m, a = some (.inl m) ∧ (0 ≤ m ∧ m ≤ n) ∧ ∀ u, (∃ k, (0 ≤ k ∧ k < m) ∧ w' 74 0 k = u) ↔ (0 ≤ u ∧ ∃ i, (0 ≤ i ∧ i < n) ∧ go_ c e x (w 73 0 i) = u)) := fun w2 m2 l7 s2 h2 h3 h4 => by
      have spl : ∀ u, (∃ j, (0 ≤ j ∧ j < i + 1) ∧ go_ c e x (w 73 0 j) = u) ↔ ((∃ j, (0 ≤ j ∧ j < i) ∧ go_ c e x (w 73 0 j) = u) ∨ go_ c e x (w 73 0 i) = u) := fun u => by
        constructor
        · rintro ⟨j, p1, p2⟩
          by_cases hj : j = i
          · subst hj; exact Or.inr p2
          · exact Or.inl ⟨j, by omega, p2⟩
        · rintro (⟨j, p1, p2⟩ | p2)
          · exact ⟨j, by omega, p2⟩
          · exact ⟨i, by omega, p2⟩
      refine k_gp rfl rfl (by simp only [true_and, mm_fits]; omega) ?_
      refine ih (w2, m2) ⟨by omega, s2, h2, fun u => ?_, fun u a b => ?_⟩ _
      · rw [h3 u, q4 u, spl u]
        constructor
        · rintro (⟨p1, p2⟩ | ⟨p1, p2⟩)
          · exact ⟨p1, Or.inl p2⟩
          · exact ⟨p1, Or.inr p2⟩
        · rintro ⟨p1, p2 | p2⟩
          · exact Or.inl ⟨p1, p2⟩
          · exact Or.inr ⟨p1, p2⟩
      · rw [h4 u a b, q5 u a b, spl u]
    refine k_gp rfl rfl trivial ?_
    refine k_brf rfl (by omega) ?_
    refine k_gp rfl rfl (by simp only [true_and, mm_fits]; omega) ?_
    rw [eN]
    refine k_callp rfl (ev_c_after (f := f) v1 hx hO hP1 (hM1.2.2.2 _ v1.1 v1.2 v2)) rfl rfl rfl (by decide) ?_
    refine k_gp rfl rfl trivial ?_
    refine k_br rfl (fun g => ?_) (fun g => ?_)
    · have hneg : go_ c e x (w 73 0 i) < 0 := by
        rw [hga] at g
        split at g
        · assumption
        · exact g
      exact nx w1 m _ s1 (by omega) (fun u => ⟨Or.inl, fun z => z.resolve_right (fun p => by omega)⟩) (fun u a b => ⟨Or.inl, fun z => z.resolve_right (fun p => by omega)⟩)
    · have hpos : 0 ≤ go_ c e x (w 73 0 i) := by
        rw [hga] at g
        split at g
        · exact absurd (show (-2 : Int) < 0 by decide) g
        · omega
      rw [if_neg (by omega)] at hga
      rw [hga]
      generalize go_ c e x (w 73 0 i) = v at hpos hgo nx hga
      refine k_gp rfl rfl trivial ?_
      refine k_callp rfl (ev_add hL (by omega)) rfl rfl rfl (by decide) ?_
      have sA : sm [(74, none), (76, none)] w (nsA w1 76 v) := sm_up s1 (Or.inl (by decide))
      have nA : ∀ u, 0 ≤ u → u < 512 → (nsB (nsA w1 76 v) 76 u = true ↔ nsB w1 76 u = true ∨ v = u) := fun u a b => by
        rw [nsB_A hpos a, Bool.or_eq_true, decide_eq_true_eq]
        exact or_congr Iff.rfl ⟨Eq.symm, Eq.symm⟩
      have eT : ∀ k, nsA w1 76 v 74 0 k = w1 74 0 k := fun k => up_g rfl
      refine k_brz rfl (fun g2 => ?_) (fun g2 => ?_)
      · have hin : nsB w1 76 v = true := by
          cases hq : nsB w1 76 v with
          | true => rfl
          | false => exact absurd hq g2
        refine nx (nsA w1 76 v) m _ sA (by omega) (fun u => ?_) nA
        simp only [eT]
        refine ⟨Or.inl, ?_⟩
        rintro (p | ⟨p1, p2⟩)
        · exact p
        · rw [← p2]
          exact (q4 v).mpr ⟨hpos, (q5 v hpos (by omega)).mp hin⟩
      · have s3 : sm [(74, none), (76, none)] w (mm_up (nsA w1 76 v) 74 0 m v) := sm_up sA (Or.inl (by decide))
        refine k_gp rfl rfl (by simp only [true_and, mm_fits]; omega) ?_
        refine nx (mm_up (nsA w1 76 v) 74 0 m v) (m + 1) _ s3 (by omega) (fun u => ?_) (fun u a b => ?_)
        · constructor
          · rintro ⟨k, p1, p2⟩
            rw [up_at] at p2
            by_cases hk : k = m
            · rw [if_pos hk] at p2
              exact Or.inr ⟨by omega, p2⟩
            · rw [if_neg hk, eT] at p2
              exact Or.inl ⟨k, by omega, p2⟩
          · rintro (⟨k, p1, p2⟩ | ⟨p1, p2⟩)
            · exact ⟨k, by omega, by rw [up_at, if_neg (by omega), eT]; exact p2⟩
            · exact ⟨m, by omega, by rw [up_s]; exact p2⟩
        · rw [← nA u a b]
          have : nsB (mm_up (nsA w1 76 v) 74 0 m v) 76 u = nsB (nsA w1 76 v) 76 u := by
            unfold nsB
            rw [up_g rfl]
          rw [this]
  · rintro i ⟨w1, m⟩ q1 ⟨q2, s1, q3, q4, q5⟩ l7
    dsimp only at s1 q3 q4 q5 ⊢
    have : i = n := by omega
    subst this
    refine k_gp rfl rfl trivial ?_
    refine k_brt rfl (by omega) ?_
    refine k_gp rfl rfl trivial ?_
    exact k_ret rfl trivial ⟨rfl, s1, m, rfl, q3, q4⟩
  · dsimp only
    rw [nsB_0 (by omega)]
    exact ⟨(fun z => by cases z), (fun ⟨j, p1, _⟩ => by omega)⟩
set_option maxRecDepth 100000 in
theorem ev_c_listAfter_74 {x n : Int} (hO : PO np trap nv nc ne c e) (hP : PC w np trap nv nc ne c e f) (hM : MM w nv nc c f) (hx : 0 ≤ x ∧ x < ne) (hn : 0 ≤ n ∧ n ≤ 512) (hv : ∀ i, 0 ≤ i → i < n → (0 ≤ w 74 0 i ∧ w 74 0 i < 512) ∧ thB nv (w 74 0 i) = true) : mm_Ev K_X8_listAfter (0, 0) [.inr (some (66, 0)), .inl x, .inr (some (74, 0)), .inl n, .inr (some (73, 0))] (PH r y) w (fun a b' w' => b' = PH r y ∧ sm [(73, none), (76, none)] w w' ∧ ∃ m, a = some (.inl m) ∧ (0 ≤ m ∧ m ≤ n) ∧ ∀ u, (∃ k, (0 ≤ k ∧ k < m) ∧ w' 73 0 k = u) ↔ (0 ≤ u ∧ ∃ i, (0 ≤ i ∧ i < n) ∧ go_ c e x (w 74 0 i) = u)) := by
  have hL : NSL 75 16 := by unfold NSL; decide
  refine ev_intro ok_X8_listAfter mo_X8_listAfter (Nat.le_of_ble_eq_true rfl) (fun hrg has => ?_)
  have hne := hO.2.2.2.2.1
  have hnv := hO.2.2.1
  have hE := hO.2.2.2.2.2.2 x hx.1 hx.2
  refine k_gp rfl rfl trivial ?_
  refine k_callp rfl (ev_empty hL) rfl rfl rfl (by decide) ?_
  refine k_gp rfl rfl trivial ?_
  have s0 : sm [(73, none), (76, none)] w (arrw w 76 0 16 (fun _ => 0)) := sm_arrw sm_rf (by decide)
  refine mm_loop (σ := mm_M × Int) n (fun i s => (0 ≤ i ∧ i ≤ n) ∧ sm [(73, none), (76, none)] w s.1 ∧ (0 ≤ s.2 ∧ s.2 ≤ i) ∧ (∀ u, (∃ k, (0 ≤ k ∧ k < s.2) ∧ s.1 73 0 k = u) ↔ (0 ≤ u ∧ ∃ j, (0 ≤ j ∧ j < i) ∧ go_ c e x (w 74 0 j) = u)) ∧ ∀ u, 0 ≤ u → u < 512 → (nsB s.1 76 u = true ↔ ∃ j, (0 ≤ j ∧ j < i) ∧ go_ c e x (w 74 0 j) = u)) (fun i s => ∀ l7, mm_Wk K_X8_listAfter (0, 0) 13 [some (.inr (some (66, 0))), some (.inl x), some (.inr (some (74, 0))), some (.inl n), some (.inr (some (73, 0))), some (.inl s.2), some (.inl i), l7] [] (PH r y) s.1 (fun a b' w' => b' = PH r y ∧ sm [(73, none), (76, none)] w w' ∧ ∃ m, a = some (.inl m) ∧ (0 ≤ m ∧ m ≤ n) ∧ ∀ u, (∃ k, (0 ≤ k ∧ k < m) ∧ w' 73 0 k = u) ↔ (0 ≤ u ∧ ∃ i, (0 ≤ i ∧ i < n) ∧ go_ c e x (w 74 0 i) = u))) ?_ ?_ 0 (arrw w 76 0 16 (fun _ => 0), 0) ⟨by omega, s0, ⟨Int.le_refl 0, Int.le_refl 0⟩, fun u => ⟨fun ⟨k, p, _⟩ => by dsimp only at p; omega, fun ⟨_, k, p, _⟩ => by omega⟩, fun u a b => ?_⟩ _
  · rintro i ⟨w1, m⟩ q1 ⟨q2, s1, q3, q4, q5⟩ ih l7
    dsimp only at s1 q3 q4 q5 ⊢
    obtain ⟨v1, v2⟩ := hv i q2.1 q1
    have eN : w1 74 0 i = w 74 0 i := s1 74 0 i rfl
    have hP1 : PC w1 np trap nv nc ne c e f := PC_sm s1 rfl (fun _ => rfl) hP
    have hM1 : MM w1 nv nc c f := MM_sm s1 rfl (fun _ => rfl) hM
    have hgo := go_in (c := c) (x := x) v1 hnv.2 hE
    have hga : ga_ c e x (w 74 0 i) = if go_ c e x (w 74 0 i) < 0 then -2 else go_ c e x (w 74 0 i) := rfl
    have nx : ∀ (w2 : mm_M) (m2 : Int) (l7 : Option mm_V), sm [(73, none), (76, none)] w w2 → (0 ≤ m2 ∧ m2 ≤ i + 1) → (∀ u, (∃ k, (0 ≤ k ∧ k < m2) ∧ w2 73 0 k = u) ↔ ((∃ k, (0 ≤ k ∧ k < m) ∧ w1 73 0 k = u) ∨ (0 ≤ u ∧ go_ c e x (w 74 0 i) = u))) → (∀ u, 0 ≤ u → u < 512 → (nsB w2 76 u = true ↔ nsB w1 76 u = true ∨ go_ c e x (w 74 0 i) = u)) → mm_Wk K_X8_listAfter (0, 0) 60 [some (.inr (some (66, 0))), some (.inl x), some (.inr (some (74, 0))), some (.inl n), some (.inr (some (73, 0))), some (.inl m2), some (.inl i), l7] [] (PH r y) w2 (fun a b' w' => b' = PH r y ∧ sm [(73, none), (76, none)] w w' ∧ ∃ m, a = some (.inl m) ∧ (0 ≤ m ∧ m ≤ n) ∧ ∀ u, (∃ k, (0 ≤ k ∧ k < m) ∧ w' 73 0 k = u) ↔ (0 ≤ u ∧ ∃ i, (0 ≤ i ∧ i < n) ∧ go_ c e x (w 74 0 i) = u)) := fun w2 m2 l7 s2 h2 h3 h4 => by
      have spl : ∀ u, (∃ j, (0 ≤ j ∧ j < i + 1) ∧ go_ c e x (w 74 0 j) = u) ↔ ((∃ j, (0 ≤ j ∧ j < i) ∧ go_ c e x (w 74 0 j) = u) ∨ go_ c e x (w 74 0 i) = u) := fun u => by
        constructor
        · rintro ⟨j, p1, p2⟩
          by_cases hj : j = i
          · subst hj; exact Or.inr p2
          · exact Or.inl ⟨j, by omega, p2⟩
        · rintro (⟨j, p1, p2⟩ | p2)
          · exact ⟨j, by omega, p2⟩
          · exact ⟨i, by omega, p2⟩
      refine k_gp rfl rfl (by simp only [true_and, mm_fits]; omega) ?_
      refine ih (w2, m2) ⟨by omega, s2, h2, fun u => ?_, fun u a b => ?_⟩ _
      · rw [h3 u, q4 u, spl u]
        constructor
        · rintro (⟨p1, p2⟩ | ⟨p1, p2⟩)
          · exact ⟨p1, Or.inl p2⟩
          · exact ⟨p1, Or.inr p2⟩
        · rintro ⟨p1, p2 | p2⟩
          · exact Or.inl ⟨p1, p2⟩
          · exact Or.inr ⟨p1, p2⟩
      · rw [h4 u a b, q5 u a b, spl u]
    refine k_gp rfl rfl trivial ?_
    refine k_brf rfl (by omega) ?_
    refine k_gp rfl rfl (by simp only [true_and, mm_fits]; omega) ?_
    rw [eN]
    refine k_callp rfl (ev_c_after (f := f) v1 hx hO hP1 (hM1.2.2.2 _ v1.1 v1.2 v2)) rfl rfl rfl (by decide) ?_
    refine k_gp rfl rfl trivial ?_
    refine k_br rfl (fun g => ?_) (fun g => ?_)
    · have hneg : go_ c e x (w 74 0 i) < 0 := by
        rw [hga] at g
        split at g
        · assumption
        · exact g
      exact nx w1 m _ s1 (by omega) (fun u => ⟨Or.inl, fun z => z.resolve_right (fun p => by omega)⟩) (fun u a b => ⟨Or.inl, fun z => z.resolve_right (fun p => by omega)⟩)
    · have hpos : 0 ≤ go_ c e x (w 74 0 i) := by
        rw [hga] at g
        split at g
        · exact absurd (show (-2 : Int) < 0 by decide) g
        · omega
      rw [if_neg (by omega)] at hga
      rw [hga]
      generalize go_ c e x (w 74 0 i) = v at hpos hgo nx hga
      refine k_gp rfl rfl trivial ?_
      refine k_callp rfl (ev_add hL (by omega)) rfl rfl rfl (by decide) ?_
      have sA : sm [(73, none), (76, none)] w (nsA w1 76 v) := sm_up s1 (Or.inl (by decide))
      have nA : ∀ u, 0 ≤ u → u < 512 → (nsB (nsA w1 76 v) 76 u = true ↔ nsB w1 76 u = true ∨ v = u) := fun u a b => by
        rw [nsB_A hpos a, Bool.or_eq_true, decide_eq_true_eq]
        exact or_congr Iff.rfl ⟨Eq.symm, Eq.symm⟩
      have eT : ∀ k, nsA w1 76 v 73 0 k = w1 73 0 k := fun k => up_g rfl
      refine k_brz rfl (fun g2 => ?_) (fun g2 => ?_)
      · have hin : nsB w1 76 v = true := by
          cases hq : nsB w1 76 v with
          | true => rfl
          | false => exact absurd hq g2
        refine nx (nsA w1 76 v) m _ sA (by omega) (fun u => ?_) nA
        simp only [eT]
        refine ⟨Or.inl, ?_⟩
        rintro (p | ⟨p1, p2⟩)
        · exact p
        · rw [← p2]
          exact (q4 v).mpr ⟨hpos, (q5 v hpos (by omega)).mp hin⟩
      · have s3 : sm [(73, none), (76, none)] w (mm_up (nsA w1 76 v) 73 0 m v) := sm_up sA (Or.inl (by decide))
        refine k_gp rfl rfl (by simp only [true_and, mm_fits]; omega) ?_
        refine nx (mm_up (nsA w1 76 v) 73 0 m v) (m + 1) _ s3 (by omega) (fun u => ?_) (fun u a b => ?_)
        · constructor
          · rintro ⟨k, p1, p2⟩
            rw [up_at] at p2
            by_cases hk : k = m
            · rw [if_pos hk] at p2
              exact Or.inr ⟨by omega, p2⟩
            · rw [if_neg hk, eT] at p2
              exact Or.inl ⟨k, by omega, p2⟩
          · rintro (⟨k, p1, p2⟩ | ⟨p1, p2⟩)
            · exact ⟨k, by omega, by rw [up_at, if_neg (by omega), eT]; exact p2⟩
            · exact ⟨m, by omega, by rw [up_s]; exact p2⟩
        · rw [← nA u a b]
          have : nsB (mm_up (nsA w1 76 v) 73 0 m v) 76 u = nsB (nsA w1 76 v) 76 u := by
            unfold nsB
            rw [up_g rfl]
          rw [this]
  · rintro i ⟨w1, m⟩ q1 ⟨q2, s1, q3, q4, q5⟩ l7
    dsimp only at s1 q3 q4 q5 ⊢
    have : i = n := by omega
    subst this
    refine k_gp rfl rfl trivial ?_
    refine k_brt rfl (by omega) ?_
    refine k_gp rfl rfl trivial ?_
    exact k_ret rfl trivial ⟨rfl, s1, m, rfl, q3, q4⟩
  · dsimp only
    rw [nsB_0 (by omega)]
    exact ⟨(fun z => by cases z), (fun ⟨j, p1, _⟩ => by omega)⟩
end MC
