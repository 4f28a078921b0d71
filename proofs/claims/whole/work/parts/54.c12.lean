/-! ===== the class: how far a way can be gone (written by gen54.py) ===== -/
theorem FV_mem {f : Int → Int} {nv : Int} : ∀ (n : Nat) (u : Int), u ∈ FV f nv n ↔ (0 ≤ u ∧ u < n) ∧ fsB f nv u = true
  | 0, u => by
    show u ∈ [] ↔ _
    simp only [List.not_mem_nil, false_iff]
    omega
  | n + 1, u => by
    show u ∈ FV f nv n ++ (if fsB f nv (n : Int) = true then [(n : Int)] else []) ↔ _
    rw [List.mem_append, FV_mem n u]
    by_cases hu : u = n
    · subst hu
      split
      · rename_i h
        simp only [List.mem_singleton, or_true, true_iff]
        exact ⟨by omega, h⟩
      · rename_i h
        simp only [List.not_mem_nil, or_false]
        exact ⟨fun z => absurd z.2 h, fun z => absurd z.2 h⟩
    · split
      · simp only [List.mem_singleton, hu, or_false]
        exact ⟨fun z => ⟨by omega, z.2⟩, fun z => ⟨by omega, z.2⟩⟩
      · simp only [List.not_mem_nil, or_false]
        exact ⟨fun z => ⟨by omega, z.2⟩, fun z => ⟨by omega, z.2⟩⟩
abbrev farL : List (Nat × Option Int) := [(73, none), (74, none), (76, none)]
abbrev fA (b : Bool) : Nat := match b with
  | true => 74
  | false => 73
abbrev fB (b : Bool) : Nat := match b with
  | true => 73
  | false => 74
section MC
variable {r : Bool × Bool} {y : Bool} {w : mm_M} {np trap nv nc ne : Int} {c e : Int → Int → Int} {f : Int → Int}
set_option maxRecDepth 100000 in
theorem ev_c_far {ρ : List Int} (hO : PO np trap nv nc ne c e) (hP : PC w np trap nv nc ne c e f) (hM : MM w nv nc c f) (hR : RW w ρ) (hρ : ∀ x ∈ ρ, 0 ≤ x ∧ x < ne) : mm_Ev K_X8_far (0, 0) [.inr (some (66, 0))] (PH r y) w (fun a b' w' => b' = PH r y ∧ sm farL w w' ∧ ∃ z, a = some (.inl z) ∧ FAR c e f nv ρ z) := by
  refine ev_intro ok_X8_far mo_X8_far (Nat.le_of_ble_eq_true rfl) (fun hrg has => ?_)
  have hnv := hO.2.2.1
  have h5 := hR.1
  have hlen := hR.2.1
  obtain ⟨hf1, hf2⟩ := hM.2.1
  refine k_gp rfl rfl trivial ?_
  refine k_callp rfl (ev_c_listFirst (by omega)) rfl rfl rfl (by decide) ?_
  refine k_gp rfl rfl trivial ?_
  have s0 : sm farL w (arrw w 73 0 (w 39 0 3) (fun k => w 41 0 k)) := sm_arrw sm_rf (by decide)
  refine mm_loop (σ := mm_M × Int × Bool) (ρ.length) (fun i s => (0 ≤ i ∧ i ≤ ρ.length) ∧ sm farL w s.1 ∧ (0 ≤ s.2.1 ∧ s.2.1 ≤ 512) ∧ (∀ u, (∃ k, (0 ≤ k ∧ k < s.2.1) ∧ s.1 (fA s.2.2) 0 k = u) ↔ Vs c e f nv ρ i.toNat u) ∧ ∀ j : Nat, (j : Int) < i → ∃ v, Vs c e f nv ρ (j + 1) v) (fun i s => ∀ l5, mm_Wk K_X8_far (0, 0) 19 [some (.inr (some (66, 0))), some (.inr (some (fA s.2.2, 0))), some (.inr (some (fB s.2.2, 0))), some (.inl s.2.1), some (.inl i), l5] [] (PH r y) s.1 (fun a b' w' => b' = PH r y ∧ sm farL w w' ∧ ∃ z, a = some (.inl z) ∧ FAR c e f nv ρ z)) ?_ ?_ 0 (arrw w 73 0 (w 39 0 3) (fun k => w 41 0 k), w 39 0 3, false) ⟨by omega, s0, (show 0 ≤ w 39 0 3 ∧ w 39 0 3 ≤ 512 by omega), fun u => ?_, fun j hj => by omega⟩ _
  · rintro i ⟨w1, n, b⟩ q1 ⟨q2, s1, q3, q4, q5⟩ ih l5
    have hx : ρ.getD i.toNat 0 ∈ ρ := by
      rw [List.getD_eq_getElem?_getD, List.getElem?_eq_getElem (by omega)]
      exact List.getElem_mem _
    have hxr := hρ _ hx
    cases b
    · dsimp only at s1 q3 q4 q5 ⊢
      have hv : ∀ j, 0 ≤ j → j < n → (0 ≤ w1 73 0 j ∧ w1 73 0 j < 512) ∧ thB nv (w1 73 0 j) = true := fun j a b => Vs_in hnv.2 hO.2.2.2.2.2.2 hρ i.toNat _ (by omega) ((q4 _).mp ⟨j, ⟨a, b⟩, rfl⟩)
      have hP1 : PC w1 np trap nv nc ne c e f := PC_sm s1 rfl (fun _ => rfl) hP
      have hM1 : MM w1 nv nc c f := MM_sm s1 rfl (fun _ => rfl) hM
      have e5 : w1 66 0 5 = ρ.length := (s1 66 0 5 rfl).trans h5
      have hxe : w1 67 0 (w1 66 0 5 - 1 - i) = ρ.getD i.toNat 0 := by
        rw [e5, show w1 67 0 (ρ.length - 1 - i) = w 67 0 (ρ.length - 1 - i) from s1 67 0 _ rfl]
        exact hR.2.2 i q2.1 q1
      refine k_gp rfl rfl trivial ?_
      rw [e5]
      refine k_brf rfl (by omega) ?_
      refine k_gp rfl rfl trivial ?_
      refine k_callp rfl (ev_c_edgeAt (by rw [e5]; omega)) rfl rfl rfl (by decide) ?_
      rw [hxe]
      refine k_gp rfl rfl trivial ?_
      refine k_call0 rfl (ev_c_listAfter_73 hO hP1 hM1 hxr q3 hv) rfl rfl rfl (by decide) ?_
      rintro a b' w2 ⟨rfl, s2, m, rfl, hm, hu⟩
      have s02 : sm farL w w2 := sm_tr s1 (sm_w s2 (by decide))
      have hstep : ∀ u, (∃ k, (0 ≤ k ∧ k < m) ∧ w2 74 0 k = u) ↔ Vs c e f nv ρ (i.toNat + 1) u := fun u => by
        rw [hu u]
        constructor
        · rintro ⟨p1, j, p2, p3⟩
          exact ⟨_, (q4 _).mp ⟨j, p2, rfl⟩, p3, p1⟩
        · rintro ⟨v, p1, p2, p3⟩
          obtain ⟨j, p4, p5⟩ := (q4 v).mpr p1
          exact ⟨p3, j, p4, by rw [p5]; exact p2⟩
      refine k_gp rfl rfl trivial ?_
      refine k_br rfl (fun g => ?_) (fun g => ?_)
      · refine k_gp rfl rfl (by simp only [true_and, mm_fits]; omega) ?_
        refine ih (w2, m, true) ⟨by omega, s02, (show 0 ≤ m ∧ m ≤ 512 by omega), fun u => ?_, fun j hj => ?_⟩ _
        · rw [show (i + 1).toNat = i.toNat + 1 by omega]
          exact hstep u
        · by_cases hji : (j : Int) < i
          · exact q5 j hji
          · rw [show j = i.toNat by omega]
            exact ⟨_, (hstep _).mp ⟨0, by omega, rfl⟩⟩
      · have g : m = 0 := Classical.byContradiction g
        refine k_gp rfl rfl trivial ?_
        refine k_ret rfl trivial ⟨rfl, s02, i, rfl, by omega, q5, fun _ ⟨v, hv2⟩ => ?_⟩
        obtain ⟨k, p1, _⟩ := (hstep v).mpr hv2
        omega
    · dsimp only at s1 q3 q4 q5 ⊢
      have hv : ∀ j, 0 ≤ j → j < n → (0 ≤ w1 74 0 j ∧ w1 74 0 j < 512) ∧ thB nv (w1 74 0 j) = true := fun j a b => Vs_in hnv.2 hO.2.2.2.2.2.2 hρ i.toNat _ (by omega) ((q4 _).mp ⟨j, ⟨a, b⟩, rfl⟩)
      have hP1 : PC w1 np trap nv nc ne c e f := PC_sm s1 rfl (fun _ => rfl) hP
      have hM1 : MM w1 nv nc c f := MM_sm s1 rfl (fun _ => rfl) hM
      have e5 : w1 66 0 5 = ρ.length := (s1 66 0 5 rfl).trans h5
      have hxe : w1 67 0 (w1 66 0 5 - 1 - i) = ρ.getD i.toNat 0 := by
        rw [e5, show w1 67 0 (ρ.length - 1 - i) = w 67 0 (ρ.length - 1 - i) from s1 67 0 _ rfl]
        exact hR.2.2 i q2.1 q1
      refine k_gp rfl rfl trivial ?_
      rw [e5]
      refine k_brf rfl (by omega) ?_
      refine k_gp rfl rfl trivial ?_
      refine k_callp rfl (ev_c_edgeAt (by rw [e5]; omega)) rfl rfl rfl (by decide) ?_
      rw [hxe]
      refine k_gp rfl rfl trivial ?_
      refine k_call0 rfl (ev_c_listAfter_74 hO hP1 hM1 hxr q3 hv) rfl rfl rfl (by decide) ?_
      rintro a b' w2 ⟨rfl, s2, m, rfl, hm, hu⟩
      have s02 : sm farL w w2 := sm_tr s1 (sm_w s2 (by decide))
      have hstep : ∀ u, (∃ k, (0 ≤ k ∧ k < m) ∧ w2 73 0 k = u) ↔ Vs c e f nv ρ (i.toNat + 1) u := fun u => by
        rw [hu u]
        constructor
        · rintro ⟨p1, j, p2, p3⟩
          exact ⟨_, (q4 _).mp ⟨j, p2, rfl⟩, p3, p1⟩
        · rintro ⟨v, p1, p2, p3⟩
          obtain ⟨j, p4, p5⟩ := (q4 v).mpr p1
          exact ⟨p3, j, p4, by rw [p5]; exact p2⟩
      refine k_gp rfl rfl trivial ?_
      refine k_br rfl (fun g => ?_) (fun g => ?_)
      · refine k_gp rfl rfl (by simp only [true_and, mm_fits]; omega) ?_
        refine ih (w2, m, false) ⟨by omega, s02, (show 0 ≤ m ∧ m ≤ 512 by omega), fun u => ?_, fun j hj => ?_⟩ _
        · rw [show (i + 1).toNat = i.toNat + 1 by omega]
          exact hstep u
        · by_cases hji : (j : Int) < i
          · exact q5 j hji
          · rw [show j = i.toNat by omega]
            exact ⟨_, (hstep _).mp ⟨0, by omega, rfl⟩⟩
      · have g : m = 0 := Classical.byContradiction g
        refine k_gp rfl rfl trivial ?_
        refine k_ret rfl trivial ⟨rfl, s02, i, rfl, by omega, q5, fun _ ⟨v, hv2⟩ => ?_⟩
        obtain ⟨k, p1, _⟩ := (hstep v).mpr hv2
        omega
  · rintro i ⟨w1, n, b⟩ q1 ⟨q2, s1, q3, q4, q5⟩ l5
    dsimp only at s1 q5 ⊢
    have hi : i = ρ.length := by omega
    have e5 : w1 66 0 5 = ρ.length := (s1 66 0 5 rfl).trans h5
    cases b
    · refine k_gp rfl rfl trivial ?_
      rw [e5]
      refine k_brt rfl (by omega) ?_
      refine k_gp rfl rfl trivial ?_
      rw [e5]
      exact k_ret rfl trivial ⟨rfl, s1, _, rfl, by omega, by rw [← hi]; exact q5, fun q => by omega⟩
    · refine k_gp rfl rfl trivial ?_
      rw [e5]
      refine k_brt rfl (by omega) ?_
      refine k_gp rfl rfl trivial ?_
      rw [e5]
      exact k_ret rfl trivial ⟨rfl, s1, _, rfl, by omega, by rw [← hi]; exact q5, fun q => by omega⟩
  · show (∃ k, (0 ≤ k ∧ k < w 39 0 3) ∧ arrw w 73 0 (w 39 0 3) (fun k => w 41 0 k) 73 0 k = u) ↔ (0 ≤ u ∧ u < 512) ∧ fsB f nv u = true
    have hF := FV_mem (f := f) (nv := nv) 512 u
    rw [show ((512 : Nat) : Int) = 512 from rfl] at hF
    rw [← hF]
    constructor
    · rintro ⟨k, p1, p2⟩
      rw [arrw_in (by omega), show k - 0 = k by omega, hM.2.2.1 k p1.1 (by omega)] at p2
      rw [← p2, List.getD_eq_getElem?_getD, List.getElem?_eq_getElem (by omega)]
      exact List.getElem_mem _
    · intro hu
      obtain ⟨k, hk, he⟩ := List.getElem_of_mem hu
      refine ⟨(k : Int), by omega, ?_⟩
      rw [arrw_in (by omega), show (k : Int) - 0 = k by omega, hM.2.2.1 k (by omega) (by omega), List.getD_eq_getElem?_getD, show (k : Int).toNat = k from rfl, List.getElem?_eq_getElem hk, he]
      rfl
end MC
