/-! ===== the class: the first fault ===== -/
section MC
variable {r : Bool × Bool} {y : Bool} {w : mm_M} {t : Int → Int} {n : Int}
set_option maxRecDepth 100000 in
theorem ev_c_tell {l : Int} {T : TS} {f : Int → Int} (hR : CR w T) (hB : TB T) (hd : 0 < due l) (hf : ∀ k, 0 ≤ k → k < due l → w 31 0 k = f k ∧ 0 ≤ f k) : mm_Ev K_X7_tell (0, 0) [.inr (some (22, 0)), .inl l] (PH r y) w (fun a b' w' => b' = PH r y ∧ sm ttL w w' ∧ a = some (.inl (ib (itB T l f = true))) ∧ (itB T l f = true → CR w' (itT T l f))) := by
  refine ev_intro ok_X7_tell mo_X7_tell (Nat.le_of_ble_eq_true rfl) (fun hrg has => ?_)
  obtain ⟨⟨r0, r1, r2, r3, r4⟩, rv, rc, re⟩ := hR
  obtain ⟨b0, b1, b2, b3⟩ := hB
  obtain ⟨rfl, hdl⟩ | ⟨rfl, hdl⟩ | ⟨rfl, hdl⟩ | ⟨rfl, hdl⟩ := due_cases hd
  · have f0 := hf 0 (by omega) (by omega)
    have f1 := hf 1 (by omega) (by omega)
    have hI : itB T 112 f = decide (T.1.1 = 0 ∧ 2 ≤ f 0 ∧ f 0 ≤ 8 ∧ f 1 < f 0) := rfl
    have hP : tpP w ↔ itB T 112 f = true := by
      rw [hI, decide_eq_true_eq]
      unfold tpP
      rw [f0.1, f1.1, r0]
    refine k_gp rfl rfl (by first | trivial | decide | (simp only [true_and, mm_fits]; omega)) ?_
    refine k_brf rfl (by decide) ?_
    refine k_gp rfl rfl (by first | trivial | decide | (simp only [true_and, mm_fits]; omega)) ?_
    refine k_callp rfl ev_c_tellPlaces rfl rfl rfl (by decide) ?_
    refine k_ret rfl (ib_in _) ⟨rfl, ?_, by rw [ib_c hP], fun h => ?_⟩
    · split
      · exact sm_up (sm_up sm_rf (Or.inr (by decide))) (Or.inr (by decide))
      · exact sm_rf
    · rw [if_pos (hP.mpr h)]
      have eg : ∀ g j k, Nat.beq g 24 = false → mm_up (mm_up w 24 0 0 (w 31 0 0)) 24 0 1 (w 31 0 1) g j k = w g j k := fun g j k hg => (up_g hg).trans (up_g hg)
      have ek : ∀ k, k ≠ 0 → k ≠ 1 → mm_up (mm_up w 24 0 0 (w 31 0 0)) 24 0 1 (w 31 0 1) 24 0 k = w 24 0 k := fun k a b => (up_k b).trans (up_k a)
      refine ⟨⟨?_, ?_, (ek 2 (by decide) (by decide)).trans r2, (ek 3 (by decide) (by decide)).trans r3, (ek 4 (by decide) (by decide)).trans r4⟩, fun v a b => ?_, fun g k a b c d => (eg 28 g k rfl).trans (rc g k a b c d), fun x k a b c d => (eg 30 x k rfl).trans (re x k a b c d)⟩
      · rw [up_k (by decide), up_s, f0.1]; rfl
      · rw [up_s, f1.1]; rfl
      · rw [eg 25 0 v rfl, eg 26 0 v rfl]; exact rv v a b
  · have f0 := hf 0 (by omega) (by omega)
    have f1 := hf 1 (by omega) (by omega)
    have hI : itB T 118 f = if T.1.1 = 0 then false else decide (T.1.2.2.1 < 3 ∧ f 0 ≤ f 1 ∧ f 1 ≤ 7) := rfl
    refine k_gp rfl rfl (by first | trivial | decide | (simp only [true_and, mm_fits]; omega)) ?_
    refine k_brt rfl (by decide) ?_
    refine k_gp rfl rfl (by first | trivial | decide | (simp only [true_and, mm_fits]; omega)) ?_
    rw [r0]
    refine k_br rfl (fun g => ?_) (fun g => ?_)
    · rw [if_neg g] at hI
      have hP : tvP w ↔ itB T 118 f = true := by
        rw [hI, decide_eq_true_eq]
        unfold tvP
        rw [f0.1, f1.1, r2]
      refine k_gp rfl rfl (by first | trivial | decide | (simp only [true_and, mm_fits]; omega)) ?_
      refine k_brf rfl (by decide) ?_
      refine k_gp rfl rfl (by first | trivial | decide | (simp only [true_and, mm_fits]; omega)) ?_
      refine k_callp rfl (ev_c_tellVariable (by omega)) rfl rfl rfl (by decide) ?_
      refine k_ret rfl (ib_in _) ⟨rfl, ?_, by rw [ib_c hP], fun h => ?_⟩
      · split
        · exact sm_up (sm_up (sm_up sm_rf (Or.inl (by decide))) (Or.inl (by decide))) (Or.inr (by decide))
        · exact sm_rf
      · rw [if_pos (hP.mpr h), r2, f0.1, f1.1]
        generalize hN : T.1.2.2.1 = N at *
        have eg : ∀ g j k, (Nat.beq g 24 || Nat.beq g 25 || Nat.beq g 26) = false → mm_up (mm_up (mm_up w 25 0 N (f 0)) 26 0 N (f 1)) 24 0 2 (N + 1) g j k = w g j k := fun g j k hg => by
          simp only [Bool.or_eq_false_iff] at hg
          exact (up_g hg.1.1).trans ((up_g hg.2).trans (up_g hg.1.2))
        have ek : ∀ k, k ≠ 2 → mm_up (mm_up (mm_up w 25 0 N (f 0)) 26 0 N (f 1)) 24 0 2 (N + 1) 24 0 k = w 24 0 k := fun k a => (up_k a).trans ((up_g rfl).trans (up_g rfl))
        have hT : itT T 118 f = ((T.1.1, T.1.2.1, N + 1, T.1.2.2.2.1, T.1.2.2.2.2), (fun k => if k = 2 * N then f 0 else if k = 2 * N + 1 then f 1 else T.2.1 k), T.2.2) := by rw [← hN]; rfl
        rw [hT]
        refine ⟨⟨(ek 0 (by decide)).trans r0, (ek 1 (by decide)).trans r1, up_s, (ek 3 (by decide)).trans r3, (ek 4 (by decide)).trans r4⟩, fun v a b => ?_, fun g k a b c d => (eg 28 g k rfl).trans (rc g k a b c d), fun x k a b c d => (eg 30 x k rfl).trans (re x k a b c d)⟩
        have b : v < N + 1 := b
        show _ = (if 2 * v = 2 * N then f 0 else if 2 * v = 2 * N + 1 then f 1 else T.2.1 (2 * v)) ∧ _ = (if 2 * v + 1 = 2 * N then f 0 else if 2 * v + 1 = 2 * N + 1 then f 1 else T.2.1 (2 * v + 1))
        rw [up_g rfl, up_g rfl, up_at, up_g rfl, up_at, up_g rfl]
        by_cases hv : v = N
        · rw [if_pos hv, if_pos hv, if_pos (by omega), if_neg (by omega), if_pos (by omega)]
          exact ⟨rfl, rfl⟩
        · rw [if_neg hv, if_neg hv, if_neg (by omega), if_neg (by omega), if_neg (by omega), if_neg (by omega)]
          exact rv v a (by omega)
    · have g : T.1.1 = 0 := Classical.byContradiction g
      rw [if_pos g] at hI
      rw [hI]
      refine k_gp rfl rfl (by first | trivial | decide | (simp only [true_and, mm_fits]; omega)) ?_
      exact k_ret rfl (by decide) ⟨rfl, sm_rf, rfl, fun z => by cases z⟩
  · have f0 := hf 0 (by omega) (by omega)
    have f1 := hf 1 (by omega) (by omega)
    have f2 := hf 2 (by omega) (by omega)
    have hI : itB T 99 f = if T.1.1 = 0 then false else decide (T.1.2.2.2.1 < 8 ∧ f 0 ≤ 4 ∧ f 1 < T.1.2.2.1 ∧ (1 < f 0 → f 2 < T.1.2.2.1)) := rfl
    refine k_gp rfl rfl (by first | trivial | decide | (simp only [true_and, mm_fits]; omega)) ?_
    refine k_brt rfl (by decide) ?_
    refine k_gp rfl rfl (by first | trivial | decide | (simp only [true_and, mm_fits]; omega)) ?_
    rw [r0]
    refine k_br rfl (fun g => ?_) (fun g => ?_)
    · rw [if_neg g] at hI
      have hP : tcP w ↔ itB T 99 f = true := by
        rw [hI, decide_eq_true_eq]
        unfold tcP
        rw [f0.1, f1.1, f2.1, r2, r3]
        refine and_congr Iff.rfl (and_congr Iff.rfl (and_congr Iff.rfl ⟨fun z o => z (by omega), fun z o => z (by omega)⟩))
      refine k_gp rfl rfl (by first | trivial | decide | (simp only [true_and, mm_fits]; omega)) ?_
      refine k_brt rfl (by decide) ?_
      refine k_gp rfl rfl (by first | trivial | decide | (simp only [true_and, mm_fits]; omega)) ?_
      refine k_brf rfl (by decide) ?_
      refine k_gp rfl rfl (by first | trivial | decide | (simp only [true_and, mm_fits]; omega)) ?_
      refine k_callp rfl (ev_c_tellComparison (by omega)) rfl rfl rfl (by decide) ?_
      refine k_gp rfl rfl (by first | trivial | decide | (simp only [true_and, mm_fits]; omega)) ?_
      refine k_ret rfl (ib_in _) ⟨rfl, ?_, by rw [ib_c hP], fun h => ?_⟩
      · split
        · exact sm_up (sm_cp sm_rf (by decide)) (Or.inr (by decide))
        · exact sm_rf
      · rw [if_pos (hP.mpr h), r3]
        generalize hN : T.1.2.2.2.1 = N at *
        have eg : ∀ g j k, (Nat.beq g 24 || Nat.beq g 28) = false → mm_up (mm_cp w 31 0 0 28 N 0 3) 24 0 3 (N + 1) g j k = w g j k := fun g j k hg => by
          simp only [Bool.or_eq_false_iff] at hg
          exact (up_g hg.1).trans (cp_g hg.2)
        have ek : ∀ k, k ≠ 3 → mm_up (mm_cp w 31 0 0 28 N 0 3) 24 0 3 (N + 1) 24 0 k = w 24 0 k := fun k a => (up_k a).trans (cp_g rfl)
        have hT : itT T 99 f = ((T.1.1, T.1.2.1, T.1.2.2.1, N + 1, T.1.2.2.2.2), T.2.1, (fun g k => if g = N then f k else T.2.2.1 g k), T.2.2.2) := by rw [← hN]; rfl
        rw [hT]
        refine ⟨⟨(ek 0 (by decide)).trans r0, (ek 1 (by decide)).trans r1, (ek 2 (by decide)).trans r2, up_s, (ek 4 (by decide)).trans r4⟩, fun v a b => ?_, fun g k a b c d => ?_, fun x k a b c d => (eg 30 x k rfl).trans (re x k a b c d)⟩
        · rw [eg 25 0 v rfl, eg 26 0 v rfl]; exact rv v a b
        · have b : g < N + 1 := b
          show _ = if g = N then f k else T.2.2.1 g k
          rw [up_g rfl]
          by_cases hg : g = N
          · rw [if_pos hg, hg, cp_in (by omega), show 0 + (k - 0) = k by omega, (hf k c (by omega)).1]
          · rw [if_neg hg, cp_j hg]
            exact rc g k a (by omega) c d
    · have g : T.1.1 = 0 := Classical.byContradiction g
      rw [if_pos g] at hI
      rw [hI]
      refine k_gp rfl rfl (by first | trivial | decide | (simp only [true_and, mm_fits]; omega)) ?_
      exact k_ret rfl (by decide) ⟨rfl, sm_rf, rfl, fun z => by cases z⟩
  · have f0 := hf 0 (by omega) (by omega)
    have f1 := hf 1 (by omega) (by omega)
    have f2 := hf 2 (by omega) (by omega)
    have f3 := hf 3 (by omega) (by omega)
    have f4 := hf 4 (by omega) (by omega)
    have f5 := hf 5 (by omega) (by omega)
    have f6 := hf 6 (by omega) (by omega)
    have hI : itB T 101 f = if T.1.1 = 0 then false else decide (T.1.2.2.2.2 < 14 ∧ f 0 < T.1.1 ∧ f 1 < T.1.1 ∧ (f 2 = 9 ∨ f 2 < T.1.2.2.2.1) ∧ f 3 < 2 ∧ f 4 < 6 ∧ (f 4 = 0 ∨ f 5 < T.1.2.2.1) ∧ (f 4 ≠ 1 ∨ f 6 < 8) ∧ (f 4 < 4 ∨ f 6 < T.1.2.2.1)) := rfl
    refine k_gp rfl rfl (by first | trivial | decide | (simp only [true_and, mm_fits]; omega)) ?_
    refine k_brt rfl (by decide) ?_
    refine k_gp rfl rfl (by first | trivial | decide | (simp only [true_and, mm_fits]; omega)) ?_
    rw [r0]
    refine k_br rfl (fun g => ?_) (fun g => ?_)
    · rw [if_neg g] at hI
      have hP : teP w ↔ itB T 101 f = true := by
        rw [hI, decide_eq_true_eq]
        unfold teP ejP edP
        rw [f0.1, f1.1, f2.1, f3.1, f4.1, f5.1, f6.1, r0, r2, r3, r4]
        generalize T.1.2.2.2.2 = A at *
        generalize T.1.1 = B at *
        generalize T.1.2.2.2.1 = C at *
        generalize T.1.2.2.1 = D at *
        generalize f 0 = F0 at *
        generalize f 1 = F1 at *
        generalize f 2 = F2 at *
        generalize f 3 = F3 at *
        generalize f 4 = F4 at *
        generalize f 5 = F5 at *
        generalize f 6 = F6 at *
        omega
      refine k_gp rfl rfl (by first | trivial | decide | (simp only [true_and, mm_fits]; omega)) ?_
      refine k_brt rfl (by decide) ?_
      refine k_gp rfl rfl (by first | trivial | decide | (simp only [true_and, mm_fits]; omega)) ?_
      refine k_brt rfl (by decide) ?_
      refine k_gp rfl rfl (by first | trivial | decide | (simp only [true_and, mm_fits]; omega)) ?_
      refine k_callp rfl (ev_c_tellEdge (by omega) (by omega)) rfl rfl rfl (by decide) ?_
      refine k_ret rfl (ib_in _) ⟨rfl, ?_, by rw [ib_c hP], fun h => ?_⟩
      · split
        · exact sm_up (sm_cp sm_rf (by decide)) (Or.inr (by decide))
        · exact sm_rf
      · rw [if_pos (hP.mpr h), r4]
        generalize hN : T.1.2.2.2.2 = N at *
        have eg : ∀ g j k, (Nat.beq g 24 || Nat.beq g 30) = false → mm_up (mm_cp w 31 0 0 30 N 0 7) 24 0 4 (N + 1) g j k = w g j k := fun g j k hg => by
          simp only [Bool.or_eq_false_iff] at hg
          exact (up_g hg.1).trans (cp_g hg.2)
        have ek : ∀ k, k ≠ 4 → mm_up (mm_cp w 31 0 0 30 N 0 7) 24 0 4 (N + 1) 24 0 k = w 24 0 k := fun k a => (up_k a).trans (cp_g rfl)
        have hT : itT T 101 f = ((T.1.1, T.1.2.1, T.1.2.2.1, T.1.2.2.2.1, N + 1), T.2.1, T.2.2.1, (fun x k => if x = N then f k else T.2.2.2 x k)) := by rw [← hN]; rfl
        rw [hT]
        refine ⟨⟨(ek 0 (by decide)).trans r0, (ek 1 (by decide)).trans r1, (ek 2 (by decide)).trans r2, (ek 3 (by decide)).trans r3, up_s⟩, fun v a b => ?_, fun g k a b c d => (eg 28 g k rfl).trans (rc g k a b c d), fun g k a b c d => ?_⟩
        · rw [eg 25 0 v rfl, eg 26 0 v rfl]; exact rv v a b
        · have b : g < N + 1 := b
          show _ = if g = N then f k else T.2.2.2 g k
          rw [up_g rfl]
          by_cases hg : g = N
          · rw [if_pos hg, hg, cp_in (by omega), show 0 + (k - 0) = k by omega, (hf k c (by omega)).1]
          · rw [if_neg hg, cp_j hg]
            exact re g k a (by omega) c d
    · have g : T.1.1 = 0 := Classical.byContradiction g
      rw [if_pos g] at hI
      rw [hI]
      refine k_gp rfl rfl (by first | trivial | decide | (simp only [true_and, mm_fits]; omega)) ?_
      exact k_ret rfl (by decide) ⟨rfl, sm_rf, rfl, fun z => by cases z⟩
set_option maxRecDepth 100000 in
theorem ev_c_firstFault (hX : CX w t n) : mm_Ev K_X7_firstFault (0, 0) [.inr (some (22, 0))] (PH r y) w (fun a b' w' => b' = PH r y ∧ sm ttL w w' ∧ a = some (.inl (prs t n 201 0 T0).1) ∧ ((prs t n 201 0 T0).1 = -4 → CR w' (prs t n 201 0 T0).2 ∧ TB (prs t n 201 0 T0).2)) := by
  refine ev_intro ok_X7_firstFault mo_X7_firstFault (Nat.le_of_ble_eq_true rfl) (fun hrg has => ?_)
  refine k_gp rfl rfl (by first | trivial | decide | (simp only [true_and, mm_fits]; omega)) ?_
  refine k_callp rfl ev_c_pempty rfl rfl rfl (by decide) ?_
  refine k_gp rfl rfl (by first | trivial | decide | (simp only [true_and, mm_fits]; omega)) ?_
  generalize hw0 : mm_up (mm_up (mm_up (mm_up (mm_up w 24 0 0 0) 24 0 1 0) 24 0 2 0) 24 0 3 0) 24 0 4 0 = w0
  have s0 : sm ttL w w0 := by
    rw [← hw0]
    exact sm_up (sm_up (sm_up (sm_up (sm_up sm_rf (Or.inr (by decide))) (Or.inr (by decide))) (Or.inr (by decide))) (Or.inr (by decide))) (Or.inr (by decide))
  have c0 : CR w0 T0 := by
    rw [← hw0]
    refine ⟨⟨?_, ?_, ?_, ?_, ?_⟩, (fun v a b => absurd b (by show ¬ v < 0; omega)), (fun v k a b => absurd b (by show ¬ v < 0; omega)), (fun v k a b => absurd b (by show ¬ v < 0; omega))⟩
    · rw [up_k (by decide), up_k (by decide), up_k (by decide), up_k (by decide), up_s]; rfl
    · rw [up_k (by decide), up_k (by decide), up_k (by decide), up_s]; rfl
    · rw [up_k (by decide), up_k (by decide), up_s]; rfl
    · rw [up_k (by decide), up_s]; rfl
    · rw [up_s]; rfl
  clear hw0
  have tb0 : TB T0 := ⟨Or.inl rfl, by decide, by decide, by decide⟩
  refine mm_loop (σ := mm_M × Int × TS) 200 (fun i s => (0 ≤ i ∧ i ≤ 200) ∧ sm ttL w s.1 ∧ CR s.1 s.2.2 ∧ TB s.2.2 ∧ (4 * i ≤ s.2.1 ∧ s.2.1 < 1000) ∧ (i < 200 → s.2.1 ≤ n + 9) ∧ prs t n 201 0 T0 = prs t n (201 - i.toNat) s.2.1 s.2.2) (fun i s => ∀ l3, mm_Wk K_X7_firstFault (0, 0) 11 [some (.inr (some (22, 0))), some (.inl s.2.1), some (.inl i), l3] [] (PH r y) s.1 (fun a b' w' => b' = PH r y ∧ sm ttL w w' ∧ a = some (.inl (prs t n 201 0 T0).1) ∧ ((prs t n 201 0 T0).1 = -4 → CR w' (prs t n 201 0 T0).2 ∧ TB (prs t n 201 0 T0).2))) ?_ ?_ 0 (w0, 0, T0) ⟨by omega, s0, c0, tb0, by dsimp only; omega, (fun _ => by dsimp only; have := hX.2.2; omega), rfl⟩ _
  · rintro i ⟨w1, p, T⟩ q1 ⟨q2, s1, q3, q4, q5, q6, q7⟩ ih l3
    dsimp only at s1 q3 q4 q5 q6 q7 ⊢
    have hX1 : CX w1 t n := CX_sm hX s1 (fun _ => rfl) rfl
    have hn := hX.2.2
    have x2 := hX1.2.1
    have hst : prs t n (201 - i.toNat) p T = if n ≤ p then (-4, T) else if okB T t n p = true then prs t n (200 - i.toNat) (p + due (t p) + 2) (itT T (t p) (fun k => fig t n (p + 1 + k))) else (p, T) := by
      rw [show 201 - i.toNat = (200 - i.toNat) + 1 by omega]
      rfl
    rw [hst] at q7
    refine k_gp rfl rfl (by first | trivial | decide | (simp only [true_and, mm_fits]; omega)) ?_
    refine k_brf rfl (by omega) ?_
    refine k_gp rfl rfl (by first | trivial | decide | (simp only [true_and, mm_fits]; omega)) ?_
    rw [x2]
    refine k_br rfl (fun g => ?_) (fun g => ?_)
    · rw [if_pos (by omega)] at q7
      rw [q7]
      refine k_gp rfl rfl (by first | trivial | decide | (simp only [true_and, mm_fits]; omega)) ?_
      exact k_ret rfl (by decide) ⟨rfl, s1, rfl, fun _ => ⟨q3, q4⟩⟩
    · rw [if_neg (by omega)] at q7
      have x1 := hX1.1 p (by omega) (by omega)
      have hdi := due_in (t p)
      have hok : okB T t n p = (decide (0 < due (t p)) && (tkB t n (p + 1) (due (t p)) && itB T (t p) (fun k => fig t n (p + 1 + k)))) := by
        unfold okB tkB
        cases decide (0 < due (t p)) with
        | false => rfl
        | true =>
          rw [Bool.true_and, Bool.true_and, Bool.and_assoc, Bool.and_left_comm]
      have J64 : ∀ w2 l3, sm ttL w w2 → okB T t n p = false → mm_Wk K_X7_firstFault (0, 0) 64 [some (.inr (some (22, 0))), some (.inl p), some (.inl i), l3] [] (PH r y) w2 (fun a b' w' => b' = PH r y ∧ sm ttL w w' ∧ a = some (.inl (prs t n 201 0 T0).1) ∧ ((prs t n 201 0 T0).1 = -4 → CR w' (prs t n 201 0 T0).2 ∧ TB (prs t n 201 0 T0).2)) := fun w2 l3 s2 h => by
        rw [h, if_neg (by decide)] at q7
        rw [q7]
        refine k_gp rfl rfl (by first | trivial | decide | (simp only [true_and, mm_fits]; omega)) ?_
        exact k_ret rfl trivial ⟨rfl, s2, rfl, fun z => absurd (show p = -4 from z) (by omega)⟩
      refine k_gp rfl rfl (by simp only [true_and, mm_fits]; omega) ?_
      rw [x1]
      refine k_callp rfl ev_c_figuresBehind rfl rfl rfl (by decide) ?_
      refine k_gp rfl rfl (by first | trivial | decide | (simp only [true_and, mm_fits]; omega)) ?_
      refine k_br rfl (fun g2 => ?_) (fun g2 => ?_)
      · refine J64 w1 _ s1 ?_
        rw [hok, decide_eq_false (by omega), Bool.false_and]
      · rw [decide_eq_true (by omega), Bool.true_and] at hok
        refine k_gp rfl rfl (by simp only [true_and, mm_fits]; omega) ?_
        refine k_call0 rfl (ev_c_takeFigures (p := p + 1) (m := due (t p)) hX1 (by omega) (by omega)) rfl rfl rfl (by decide) ?_
        rintro a b' w2 ⟨rfl, s2, rfl, hfg⟩
        have s3 : sm ttL w w2 := sm_tr s1 (sm_w s2 (by decide))
        refine k_brz rfl (fun g3 => ?_) (fun g3 => ?_)
        · refine J64 w2 _ s3 ?_
          rw [hok, Bool.eq_false_iff.mpr g3, Bool.false_and]
        · have hfg := hfg g3
          rw [g3, Bool.true_and] at hok
          have e23 : w2 23 0 p = t p := (s2 23 0 p rfl).trans x1
          have c2 : CR w2 T := by
            obtain ⟨⟨r0, r1, r2, r3, r4⟩, rv, rc, re⟩ := q3
            exact ⟨⟨(s2 24 0 0 rfl).trans r0, (s2 24 0 1 rfl).trans r1, (s2 24 0 2 rfl).trans r2, (s2 24 0 3 rfl).trans r3, (s2 24 0 4 rfl).trans r4⟩, fun v a b => ⟨(s2 25 0 v rfl).trans (rv v a b).1, (s2 26 0 v rfl).trans (rv v a b).2⟩, fun g k a b c d => (s2 28 g k rfl).trans (rc g k a b c d), fun g k a b c d => (s2 30 g k rfl).trans (re g k a b c d)⟩
          have hpos : ∀ k, 0 ≤ k → k < due (t p) → 0 ≤ fig t n (p + 1 + k) := fun k a b => by
            unfold tkB at g3
            rw [Bool.and_eq_true, List.all_eq_true] at g3
            have := of_decide_eq_true (g3.2 k.toNat (List.mem_range.mpr (by omega)))
            rw [show ((k.toNat : Nat) : Int) = k by omega] at this
            exact this
          refine k_gp rfl rfl (by simp only [true_and, mm_fits]; omega) ?_
          rw [e23]
          refine k_call0 rfl (ev_c_tell (l := t p) (T := T) (f := fun k => fig t n (p + 1 + k)) c2 q4 (by omega) (fun k a b => ⟨hfg k a b, hpos k a b⟩)) rfl rfl rfl (by decide) ?_
          rintro a b' w3 ⟨rfl, s4, rfl, hit⟩
          have s5 : sm ttL w w3 := sm_tr s3 s4
          refine k_brn rfl (fun g4 => ?_) (fun g4 => ?_)
          · rw [hok, if_pos g4] at q7
            have hlt : p + 1 + due (t p) < n := by
              unfold tkB at g3
              rw [Bool.and_eq_true] at g3
              exact (of_decide_eq_true g3.1).1
            refine k_gp rfl rfl (by simp only [true_and, mm_fits]; omega) ?_
            rw [show p + (due (t p) + 2) = p + due (t p) + 2 by omega]
            refine ih (w3, p + due (t p) + 2, itT T (t p) (fun k => fig t n (p + 1 + k))) ⟨by omega, s5, hit g4, TB_it q4 g4, ?_, ?_, ?_⟩ _
            · dsimp only
              have hd2 : 2 ≤ due (t p) := by
                have := due_cases (l := t p) (by omega)
                omega
              omega
            · dsimp only; intro _; omega
            · dsimp only
              rw [q7, show 201 - (i + 1).toNat = 200 - i.toNat by omega]
          · exact J64 w3 _ s5 (by rw [hok]; exact Bool.eq_false_iff.mpr g4)
  · rintro i ⟨w1, p, T⟩ q1 ⟨q2, s1, q3, q4, q5, q6, q7⟩ l3
    dsimp only at s1 q3 q4 q5 q6 q7 ⊢
    have hn := hX.2.2
    have hi : i = 200 := by omega
    subst hi
    have hst : prs t n (201 - (200 : Int).toNat) p T = if n ≤ p then (-4, T) else if okB T t n p = true then prs t n 0 (p + due (t p) + 2) (itT T (t p) (fun k => fig t n (p + 1 + k))) else (p, T) := rfl
    rw [hst, if_pos (by omega)] at q7
    rw [q7]
    refine k_gp rfl rfl (by first | trivial | decide | (simp only [true_and, mm_fits]; omega)) ?_
    refine k_brt rfl (by omega) ?_
    refine k_gp rfl rfl (by first | trivial | decide | (simp only [true_and, mm_fits]; omega)) ?_
    exact k_ret rfl (by decide) ⟨rfl, s1, rfl, fun _ => ⟨q3, q4⟩⟩
end MC
