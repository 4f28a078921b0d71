/-! ===== the class: the search for what is reached ===== -/
section PR
variable {c e : Int → Int → Int} {f : Int → Int} {nv nc np ne trap : Int}
/-- while a group is gone on from -/
def PI (c e : Int → Int → Int) (f : Int → Int) (nv ne : Int) (Q0 Q : List (Int × Int)) (cur d : Int) : Prop := RB c e f nv ne Q ∧ QN Q ∧ RCo c e ne Q cur ∧ (∀ j : Int, 0 ≤ j → j < Q.length → frQ Q j ≤ cur) ∧ (∀ q, Rch c e f nv ne 0 q → ∃ k : Int, (0 ≤ k ∧ k < Q.length) ∧ stQ Q k = q ∧ frQ Q k = -1) ∧ (∃ R, Q = Q0 ++ R) ∧ ∀ k : Int, Q0.length ≤ k → k < Q.length → ((PT Q k).length : Int) = d
/-- a group, from start to end -/
def GR (Q : List (Int × Int)) (s t : Int) : Prop := gst Q s ∧ (s < t ∧ t ≤ Q.length) ∧ (∀ k, s ≤ k → k < t → frQ Q k = frQ Q s) ∧ ∀ k, t ≤ k → k < Q.length → frQ Q k ≠ frQ Q s
theorem PI_len {Q0 Q : List (Int × Int)} {cur d : Int} (h : PI c e f nv ne Q0 Q cur d) : Q0.length ≤ Q.length := by
  obtain ⟨R, rfl⟩ := h.2.2.2.2.2.1
  simp
theorem PI_step {Q0 Q : List (Int × Int)} {s0 t k x s d : Int} (hG : GR Q0 s0 t) (hd : d = (PT Q0 s0).length + 1) (hx : 0 ≤ x ∧ x < ne) (hne : ne ≤ 14) (h : PI c e f nv ne Q0 Q (16 * s0 + x) d) (hk : s0 ≤ k ∧ k < t) (hs : stp c e x (stQ Q0 k) = s) (h0 : 0 ≤ s) : (d = (PT (Q ++ [(s, 16 * s0 + x)]) Q.length).length) ∧ PI c e f nv ne Q0 (add1 Q s (16 * s0 + x)) (16 * s0 + x) d ∧ ∃ j : Int, (0 ≤ j ∧ j < (add1 Q s (16 * s0 + x)).length) ∧ stQ (add1 Q s (16 * s0 + x)) j = s ∧ frQ (add1 Q s (16 * s0 + x)) j ≤ 16 * s0 + x := by
  have hlen := PI_len h
  obtain ⟨hB, hN, hC, hc, hi, ⟨R, rfl⟩, hL⟩ := h
  obtain ⟨g1, g2, g3, g4⟩ := hG
  have hg := g1.1
  have ek : stQ (Q0 ++ R) k = stQ Q0 k := stQ_app (by omega) (by omega)
  have ef : frQ (Q0 ++ R) k = frQ (Q0 ++ R) s0 := by
    rw [frQ_app (by omega) (by omega), frQ_app hg (by omega)]
    exact g3 k hk.1 hk.2
  have eP0 : PT (Q0 ++ R) s0 = PT Q0 s0 := by
    refine PT_ap (fun k a b => ?_) hg (by omega)
    have := RB_WF hB k a (by omega)
    rw [frQ_app a b] at this
    exact this
  generalize hQ : Q0 ++ R = Q at *
  have hRB1 : RB1 c e f nv ne Q Q.length s (16 * s0 + x) := by
    refine Or.inr ⟨by omega, ?_, by omega, k, by omega, ?_, ?_, h0⟩
    · rw [show (16 * s0 + x) / 16 = s0 by omega, ← hQ]
      exact (gst_app (by omega)).mpr g1
    · rw [show (16 * s0 + x) / 16 = s0 by omega]; exact ef
    · rw [show (16 * s0 + x) % 16 = x by omega, ek]; exact hs
  have hB' := RB_add hB hRB1 hc
  have hl1 : ((Q ++ [(s, 16 * s0 + x)]).length : Int) = Q.length + 1 := by simp
  have e1 : stQ (Q ++ [(s, 16 * s0 + x)]) Q.length = s := by unfold stQ; simp
  have e2 : frQ (Q ++ [(s, 16 * s0 + x)]) Q.length = 16 * s0 + x := by unfold frQ; simp
  have hPd : d = (PT (Q ++ [(s, 16 * s0 + x)]) Q.length).length := by
    rw [PT_w (RB_WF hB') (by omega) (by omega), e2, if_neg (by omega), show (16 * s0 + x) / 16 = s0 by omega, PT_ap (RB_WF hB) hg (by omega), eP0, List.length_append, hd]
    simp
  refine ⟨hPd, ?_⟩
  by_cases hin : inQ Q s = true
  · have ha : add1 Q s (16 * s0 + x) = Q := if_pos hin
    rw [ha]
    obtain ⟨j, j1, j2⟩ := inQ_iff.mp hin
    exact ⟨⟨hB, hN, hC, hc, hi, ⟨R, hQ.symm⟩, hL⟩, j, j1, j2, hc j j1.1 j1.2⟩
  · have ha : add1 Q s (16 * s0 + x) = Q ++ [(s, 16 * s0 + x)] := if_neg hin
    have hN' := QN_add1 (s := s) (fr := 16 * s0 + x) hN
    rw [ha] at hN' ⊢
    refine ⟨⟨hB', hN', RCo_add hB hC (Int.le_refl _) (by omega), fun j a b => ?_, fun q hq => ?_, ⟨R ++ [(s, 16 * s0 + x)], by rw [← hQ, List.append_assoc]⟩, fun k a b => ?_⟩, Q.length, by omega, e1, by rw [e2]; exact Int.le_refl _⟩
    · by_cases hj : j = Q.length
      · rw [hj, e2]; exact Int.le_refl _
      · rw [frQ_app a (by omega)]; exact hc j a (by omega)
    · obtain ⟨k, k1, k2, k3⟩ := hi q hq
      exact ⟨k, by omega, by rw [stQ_app k1.1 k1.2]; exact k2, by rw [frQ_app k1.1 k1.2]; exact k3⟩
    · by_cases hj : k = Q.length
      · rw [hj]; exact hPd.symm
      · rw [PT_ap (RB_WF hB) (by omega) (by omega)]; exact hL k a (by omega)
/-- one edge is done with -/
theorem PI_next {Q0 Q : List (Int × Int)} {s0 t x d : Int} (hG : GR Q0 s0 t) (hx : 0 ≤ x ∧ x < ne) (hne : ne ≤ 14) (hd : d = (PT Q0 s0).length + 1) (h : PI c e f nv ne Q0 Q (16 * s0 + x) d) (hdone : ∀ k, s0 ≤ k → k < t → 0 ≤ stp c e x (stQ Q0 k) → ∃ j : Int, (0 ≤ j ∧ j < Q.length) ∧ stQ Q j = stp c e x (stQ Q0 k) ∧ frQ Q j ≤ 16 * s0 + x) : PI c e f nv ne Q0 Q (16 * s0 + (x + 1)) d := by
  have hlen := PI_len h
  obtain ⟨hB, hN, hC, hc, hi, hR, hL⟩ := h
  obtain ⟨g1, g2, g3, g4⟩ := hG
  have hg := g1.1
  refine ⟨hB, hN, ?_, fun j a b => by have := hc j a b; omega, hi, hR, hL⟩
  intro s' k y a b d' g o i' j' p z
  by_cases hlt : 16 * s' + y < 16 * s0 + x
  · exact hC s' k y a b d' g o i' j' hlt z
  · have hs' : s' = s0 := by omega
    have hy : y = x := by omega
    subst hs'; subst hy
    obtain ⟨R, hR⟩ := hR
    have hk0 : k < Q0.length := Int.lt_of_not_ge fun hk => by
      have h1 := hL k hk g
      have hWF0 : WF Q0 := fun k a b => by
        have := RB_WF hB k a (by omega)
        rw [hR, frQ_app a b] at this
        exact this
      have h2 : PT Q k = PT Q s' := PT_fr (RB_WF hB) ⟨d', g⟩ ⟨hg, b⟩ o
      rw [h2, hR, PT_ap hWF0 hg (by omega)] at h1
      omega
    rw [hR, frQ_app d' hk0, frQ_app hg (by omega)] at o
    have hkt : s' ≤ k ∧ k < t := by
      refine ⟨Int.le_of_not_gt fun hk => ?_, Int.lt_of_not_ge fun hk => g4 k hk hk0 o⟩
      rcases g1.2 with q | q
      · omega
      · have h3 := hB.2 k (s' - 1) d' (by omega) (by omega)
        rw [hR, frQ_app d' hk0, frQ_app (by omega) (by omega)] at h3
        omega
    have e1 : stQ Q k = stQ Q0 k := by rw [hR, stQ_app d' hk0]
    rw [e1] at z ⊢
    exact hdone k hkt.1 hkt.2 z
theorem RB_in {Q : List (Int × Int)} (hO : PO np trap nv nc ne c e) (h : RB c e f nv ne Q) {k : Int} (a : 0 ≤ k) (b : k < Q.length) : (0 ≤ stQ Q k ∧ stQ Q k < 4096) ∧ thB nv (stQ Q k % 512) = true :=
  Rch_in hO.1.2 hO.2.2.1.2 hO.2.2.2.2.2.2 _ _ (RN_Rch (RB_RN h (k.toNat + 1) k a b (by omega)))
theorem RB_pl {Q : List (Int × Int)} (hO : PO np trap nv nc ne c e) (h : RB c e f nv ne Q) {k : Int} (a : 0 ≤ k) (b : k < Q.length) : stQ Q k / 512 = if frQ Q k < 0 then 0 else e (frQ Q k % 16) 1 := by
  rcases h.1 k a b with ⟨q1, q2⟩ | ⟨q1, q2, q3, j, q4, q5, q6, q7⟩
  · rw [if_pos (by omega)]
    have := q2.1
    have := q2.2.1
    omega
  · rw [if_neg (by omega)]
    have hj := (RB_in hO h q4.1 (by omega)).1
    have := stp_in (c := c) hj.1 hO.1.2 hO.2.2.1.2 (hO.2.2.2.2.2.2 (frQ Q k % 16) (by omega) q3) (by rw [q6]; exact q7)
    rw [q6] at this
    exact this.2.1
end PR
section MC
variable {r : Bool × Bool} {y : Bool} {w : mm_M} {np trap nv nc ne : Int} {c e : Int → Int → Int} {f lk : Int → Int}
set_option maxRecDepth 100000 in
theorem ev_c_goBy {Q0 Q : List (Int × Int)} {x s0 t d : Int} (hO : PO np trap nv nc ne c e) (hP : PC w np trap nv nc ne c e f) (hM : MM w nv nc c f) (hQ : RK w c nc trap Q) (hG : GR Q0 s0 t) (hd : d = (PT Q0 s0).length + 1) (hx : 0 ≤ x ∧ x < ne) (hpl : e x 0 = stQ Q0 s0 / 512) (h : PI c e f nv ne Q0 Q (16 * s0 + x) d) : mm_Ev K_X6_goBy (0, 0) [.inr (some (47, 0)), .inl x, .inl s0, .inl t, .inl d] (PH r y) w (fun a b' w' => a = none ∧ b' = PH r y ∧ sm raL w w' ∧ ∃ Q', RK w' c nc trap Q' ∧ PI c e f nv ne Q0 Q' (16 * s0 + (x + 1)) d) := by
  refine ev_intro ok_X6_goBy mo_X6_goBy (Nat.le_of_ble_eq_true rfl) (fun hrg has => ?_)
  have hnc := hO.2.2.2.1
  have hne := hO.2.2.2.2.1
  have hnp := hO.1
  have hnv := hO.2.2.1
  have hEx := hO.2.2.2.2.2.2 x hx.1 hx.2
  have hr1 := hEx.2.1
  have hg0 := hG.1.1
  have hst := hG.2.1
  refine k_gp rfl rfl trivial ?_
  refine mm_loop (σ := mm_M × List (Int × Int)) t (fun k s => (s0 ≤ k ∧ k ≤ t) ∧ sm raL w s.1 ∧ RK s.1 c nc trap s.2 ∧ PI c e f nv ne Q0 s.2 (16 * s0 + x) d ∧ ∀ i, s0 ≤ i → i < k → 0 ≤ stp c e x (stQ Q0 i) → ∃ j : Int, (0 ≤ j ∧ j < s.2.length) ∧ stQ s.2 j = stp c e x (stQ Q0 i) ∧ frQ s.2 j ≤ 16 * s0 + x) (fun k s => ∀ l6, mm_Wk K_X6_goBy (0, 0) 3 [some (.inr (some (47, 0))), some (.inl x), some (.inl s0), some (.inl t), some (.inl d), some (.inl k), l6] [] (PH r y) s.1 (fun a b' w' => a = none ∧ b' = PH r y ∧ sm raL w w' ∧ ∃ Q', RK w' c nc trap Q' ∧ PI c e f nv ne Q0 Q' (16 * s0 + (x + 1)) d)) ?_ ?_ s0 (w, Q) ⟨⟨by omega, by omega⟩, sm_rf, hQ, h, fun i a b => by omega⟩ _
  · rintro k ⟨w1, Q1⟩ q1 ⟨q2, s1, hQ1, hI, hdn⟩ ih l6
    dsimp only at s1 hQ1 hI hdn ⊢
    have hlen := PI_len hI
    have hle := RK_le hQ1
    obtain ⟨R, hR⟩ := hI.2.2.2.2.2.1
    have hk0 : k < Q0.length := by omega
    have e1 : stQ Q1 k = stQ Q0 k := by rw [hR, stQ_app (by omega) hk0]
    have e2 : frQ Q1 k = frQ Q1 s0 := by
      rw [hR, frQ_app (by omega) hk0, frQ_app hg0 (by omega)]
      exact hG.2.2.1 k q2.1 q1
    have e3 : stQ Q1 s0 = stQ Q0 s0 := by rw [hR, stQ_app hg0 (by omega)]
    obtain ⟨hin, hth⟩ := RB_in hO hI.1 (k := k) (by omega) (by omega)
    have hplk : stQ Q1 k / 512 = e x 0 := by
      rw [RB_pl hO hI.1 (by omega) (by omega), e2, ← RB_pl hO hI.1 hg0 (by omega), e3, hpl]
    obtain ⟨n48, n49, -⟩ := hQ1.1.2.1 k (by omega) (by omega)
    rw [e1] at hin hth hplk n48
    generalize hq : stQ Q0 k = q at *
    have hP1 : PC w1 np trap nv nc ne c e f := PC_sm s1 rfl (fun _ => rfl) hP
    have hM1 : MM w1 nv nc c f := MM_sm s1 rfl (fun _ => rfl) hM
    have hstp : stp c e x q = if 0 ≤ go_ c e x (q % 512) then 512 * e x 1 + go_ c e x (q % 512) else -1 := by
      unfold stp
      by_cases z : 0 ≤ go_ c e x (q % 512)
      · rw [if_pos ⟨hplk.symm, z⟩, if_pos z]
      · rw [if_neg (fun o => z o.2), if_neg z]
    have J60 : ∀ w2 Q2 l6, sm raL w w2 → RK w2 c nc trap Q2 → PI c e f nv ne Q0 Q2 (16 * s0 + x) d → (∀ i, s0 ≤ i → i < k → 0 ≤ stp c e x (stQ Q0 i) → ∃ j : Int, (0 ≤ j ∧ j < Q2.length) ∧ stQ Q2 j = stp c e x (stQ Q0 i) ∧ frQ Q2 j ≤ 16 * s0 + x) → (0 ≤ stp c e x q → ∃ j : Int, (0 ≤ j ∧ j < Q2.length) ∧ stQ Q2 j = stp c e x q ∧ frQ Q2 j ≤ 16 * s0 + x) → mm_Wk K_X6_goBy (0, 0) 60 [some (.inr (some (47, 0))), some (.inl x), some (.inl s0), some (.inl t), some (.inl d), some (.inl k), l6] [] (PH r y) w2 (fun a b' w' => a = none ∧ b' = PH r y ∧ sm raL w w' ∧ ∃ Q', RK w' c nc trap Q' ∧ PI c e f nv ne Q0 Q' (16 * s0 + (x + 1)) d) := fun w2 Q2 l6 s2 t1 t2 t3 t4 => by
      refine k_gp rfl rfl (by simp only [true_and, mm_fits]; omega) ?_
      refine ih (w2, Q2) ⟨by omega, s2, t1, t2, fun i a b z => ?_⟩ _
      by_cases hi : i = k
      · rw [hi, hq] at z ⊢
        exact t4 z
      · exact t3 i a (by omega) z
    refine k_gp rfl rfl trivial ?_
    refine k_brf rfl (by omega) ?_
    refine k_gp rfl rfl (by simp only [true_and, mm_fits]; omega) ?_
    rw [n48]
    refine k_callp rfl (ev_c_after (by omega) hx hO hP1 (hM1.2.2.2 (q % 512) (by omega) (by omega) hth)) rfl rfl rfl (by decide) ?_
    by_cases hgo : go_ c e x (q % 512) < 0
    · have hga : ga_ c e x (q % 512) = -2 := if_pos hgo
      rw [hga]
      rw [if_neg (by omega)] at hstp
      refine k_gp rfl rfl trivial ?_
      refine k_brt rfl (by decide) ?_
      exact J60 w1 Q1 _ s1 hQ1 hI hdn (fun z => by rw [hstp] at z; exact absurd z (by decide))
    · have hga : ga_ c e x (q % 512) = go_ c e x (q % 512) := if_neg hgo
      rw [hga]
      rw [if_pos (by omega)] at hstp
      have hgi : 0 ≤ go_ c e x (q % 512) ∧ go_ c e x (q % 512) < 512 := by
        rcases go_in (c := c) (all := q % 512) (by omega) hnv.2 hEx with z | z
        · omega
        · exact z
      have hth2 := go_th (c := c) (all := q % 512) (by omega) hnv.2 hEx hth hgi.1
      generalize hG2 : go_ c e x (q % 512) = G at *
      have m1 := hP1.2.2.2 x 1 hx.1 hx.2 (by decide) (by decide)
      refine k_gp rfl rfl trivial ?_
      refine k_brf rfl (by omega) ?_
      refine k_gp rfl rfl (by simp only [true_and, mm_fits]; omega) ?_
      rw [m1, show s0 * 16 + x = 16 * s0 + x by omega]
      obtain ⟨p1, p2, p3⟩ := PI_step (s := e x 1 * 512 + G) hG hd hx (by omega) hI ⟨q2.1, q1⟩ (by rw [hq, hstp]; omega) (by omega)
      refine k_call0 rfl (ev_c_radd (Q := Q1) (d := d) hnc (RB_WF hI.1) hQ1 (by omega) hgi hP1.1.2.1 (hM1.2.2.2 G hgi.1 hgi.2 hth2) (fun _ => p1)) rfl rfl rfl (by decide) ?_
      rintro a b' w2 ⟨rfl, rfl, s2, hQ2⟩
      refine J60 w2 _ _ (sm_tr s1 s2) hQ2 p2 (fun i a b z => ?_) (fun _ => by rw [hstp, show 512 * e x 1 + G = e x 1 * 512 + G by omega]; exact p3)
      obtain ⟨j, j1, j2, j3⟩ := hdn i a b z
      obtain ⟨R2, hR2⟩ := add1_pre (Q := Q1) (s := e x 1 * 512 + G) (fr := 16 * s0 + x)
      rw [hR2]
      refine ⟨j, ?_, by rw [stQ_app j1.1 j1.2]; exact j2, by rw [frQ_app j1.1 j1.2]; exact j3⟩
      rw [List.length_append]
      omega
  · rintro k ⟨w1, Q1⟩ q1 ⟨q2, s1, hQ1, hI, hdn⟩ l6
    dsimp only at s1 hQ1 hI hdn ⊢
    have hk : k = t := by omega
    subst hk
    refine k_gp rfl rfl trivial ?_
    refine k_brt rfl (by omega) ?_
    exact k_ret rfl trivial ⟨rfl, rfl, s1, Q1, hQ1, PI_next hG hx (by omega) hd hI hdn⟩
set_option maxRecDepth 100000 in
theorem ev_c_rgoOn {Q0 : List (Int × Int)} {s0 t d : Int} (hO : PO np trap nv nc ne c e) (hP : PC w np trap nv nc ne c e f) (hM : MM w nv nc c f) (hQ : RK w c nc trap Q0) (hG : GR Q0 s0 t) (hd : d = (PT Q0 s0).length + 1) (h : PI c e f nv ne Q0 Q0 (16 * s0) d) : mm_Ev K_X6_goOn (0, 0) [.inr (some (47, 0)), .inl s0, .inl t, .inl d] (PH r y) w (fun a b' w' => a = none ∧ b' = PH r y ∧ sm raL w w' ∧ ∃ Q', RK w' c nc trap Q' ∧ PI c e f nv ne Q0 Q' (16 * s0 + ne) d) := by
  refine ev_intro ok_X6_goOn mo_X6_goOn (Nat.le_of_ble_eq_true rfl) (fun hrg has => ?_)
  have hne := hO.2.2.2.2.1
  have hg0 := hG.1.1
  have hst := hG.2.1
  have hle := RK_le hQ
  obtain ⟨n48, -, nin⟩ := hQ.1.2.1 s0 hg0 (by omega)
  refine k_gp rfl rfl (by simp only [true_and, mm_fits]; omega) ?_
  rw [n48]
  refine mm_loop (σ := mm_M × List (Int × Int)) ne (fun x s => (0 ≤ x ∧ x ≤ ne) ∧ sm raL w s.1 ∧ RK s.1 c nc trap s.2 ∧ PI c e f nv ne Q0 s.2 (16 * s0 + x) d) (fun x s => mm_Wk K_X6_goOn (0, 0) 15 [some (.inr (some (47, 0))), some (.inl s0), some (.inl t), some (.inl d), some (.inl (stQ Q0 s0 / 512)), some (.inl x)] [] (PH r y) s.1 (fun a b' w' => a = none ∧ b' = PH r y ∧ sm raL w w' ∧ ∃ Q', RK w' c nc trap Q' ∧ PI c e f nv ne Q0 Q' (16 * s0 + ne) d)) ?_ ?_ 0 (w, Q0) ⟨by omega, sm_rf, hQ, by rw [Int.add_zero]; exact h⟩
  · rintro x ⟨w1, Q1⟩ q1 ⟨q2, s1, hQ1, hI⟩ ih
    dsimp only at s1 hQ1 hI ⊢
    have hP1 : PC w1 np trap nv nc ne c e f := PC_sm s1 rfl (fun _ => rfl) hP
    have hM1 : MM w1 nv nc c f := MM_sm s1 rfl (fun _ => rfl) hM
    have m0 := hP1.2.2.2 x 0 q2.1 q1 (by decide) (by decide)
    have hne2 := hP1.1.2.2.2.2
    refine k_gp rfl rfl trivial ?_
    rw [hne2]
    refine k_brf rfl (by omega) ?_
    refine k_gp rfl rfl (by simp only [true_and, mm_fits]; omega) ?_
    rw [m0]
    refine k_br rfl (fun g => ?_) (fun g => ?_)
    · refine k_gp rfl rfl (by simp only [true_and, mm_fits]; omega) ?_
      refine ih (w1, Q1) ⟨by omega, s1, hQ1, PI_next hG ⟨q2.1, q1⟩ (by omega) hd hI (fun k a b z => ?_)⟩
      exfalso
      obtain ⟨R, hR⟩ := hI.2.2.2.2.2.1
      have hlen := PI_len hI
      have e1 : stQ Q1 k = stQ Q0 k := by rw [hR, stQ_app (by omega) (by omega)]
      have e2 : frQ Q1 k = frQ Q1 s0 := by
        rw [hR, frQ_app (by omega) (by omega), frQ_app hg0 (by omega)]
        exact hG.2.2.1 k a b
      have e3 : stQ Q1 s0 = stQ Q0 s0 := by rw [hR, stQ_app hg0 (by omega)]
      have hplk : stQ Q1 k / 512 = stQ Q0 s0 / 512 := by
        rw [RB_pl hO hI.1 (by omega) (by omega), e2, ← RB_pl hO hI.1 hg0 (by omega), e3]
      rw [e1] at hplk
      unfold stp at z
      rw [if_neg (fun o => g (o.1.trans hplk))] at z
      exact absurd z (by decide)
    · have g : e x 0 = stQ Q0 s0 / 512 := Classical.byContradiction g
      refine k_gp rfl rfl trivial ?_
      refine k_call0 rfl (ev_c_goBy hO hP1 hM1 hQ1 hG hd ⟨q2.1, q1⟩ g hI) rfl rfl rfl (by decide) ?_
      rintro a b' w2 ⟨rfl, rfl, s2, Q2, hQ2, hI2⟩
      refine k_gp rfl rfl (by simp only [true_and, mm_fits]; omega) ?_
      exact ih (w2, Q2) ⟨by omega, sm_tr s1 s2, hQ2, hI2⟩
  · rintro x ⟨w1, Q1⟩ q1 ⟨q2, s1, hQ1, hI⟩
    dsimp only at s1 hQ1 hI ⊢
    have hP1 : PC w1 np trap nv nc ne c e f := PC_sm s1 rfl (fun _ => rfl) hP
    have hne2 := hP1.1.2.2.2.2
    have hx : x = ne := by omega
    subst hx
    refine k_gp rfl rfl trivial ?_
    rw [hne2]
    refine k_brt rfl (by omega) ?_
    exact k_ret rfl trivial ⟨rfl, rfl, s1, Q1, hQ1, hI⟩
theorem ev_c_endOfGroup {Q : List (Int × Int)} {s0 : Int} (hQ : RK w c nc trap Q) (hs : 0 ≤ s0 ∧ s0 < Q.length) : mm_Ev K_X6_endOfGroup (0, 0) [.inr (some (47, 0)), .inl s0] (PH r y) w (fun a b' w' => b' = PH r y ∧ w' = w ∧ ∃ t, a = some (.inl t) ∧ (s0 < t ∧ t ≤ Q.length) ∧ (∀ k, s0 ≤ k → k < t → frQ Q k = frQ Q s0) ∧ (t < Q.length → frQ Q t ≠ frQ Q s0)) := by
  refine ev_intro ok_X6_endOfGroup mo_X6_endOfGroup (Nat.le_of_ble_eq_true rfl) (fun hrg has => ?_)
  have hle := RK_le hQ
  have h8 := hQ.1.1
  obtain ⟨-, n49, -⟩ := hQ.1.2.1 s0 hs.1 hs.2
  refine k_gp rfl rfl (by simp only [true_and, mm_fits]; omega) ?_
  refine mm_loop (σ := Unit) Q.length (fun t _ => (s0 < t ∧ t ≤ Q.length) ∧ (∀ k, s0 ≤ k → k < t → frQ Q k = frQ Q s0)) (fun t _ => mm_Wk K_X6_endOfGroup (0, 0) 4 [some (.inr (some (47, 0))), some (.inl s0), some (.inl t)] [] (PH r y) w (fun a b' w' => b' = PH r y ∧ w' = w ∧ ∃ t, a = some (.inl t) ∧ (s0 < t ∧ t ≤ Q.length) ∧ (∀ k, s0 ≤ k → k < t → frQ Q k = frQ Q s0) ∧ (t < Q.length → frQ Q t ≠ frQ Q s0))) ?_ ?_ (s0 + 1) () ⟨by omega, fun k a b => by rw [show k = s0 by omega]⟩
  · rintro t - q1 ⟨q2, q3⟩ ih
    obtain ⟨-, n49t, -⟩ := hQ.1.2.1 t (by omega) q1
    refine k_gp rfl rfl trivial ?_
    rw [h8]
    refine k_brf rfl (by omega) ?_
    refine k_gp rfl rfl (by simp only [true_and, mm_fits]; omega) ?_
    rw [n49, n49t]
    refine k_br rfl (fun g => ?_) (fun g => ?_)
    · refine k_gp rfl rfl trivial ?_
      exact k_ret rfl trivial ⟨rfl, rfl, t, rfl, q2, q3, fun _ => g⟩
    · have g : frQ Q t = frQ Q s0 := Classical.byContradiction g
      refine k_gp rfl rfl (by simp only [true_and, mm_fits]; omega) ?_
      refine ih () ⟨by omega, fun k a b => ?_⟩
      by_cases hk : k = t
      · rw [hk]; exact g
      · exact q3 k a (by omega)
  · rintro t - q1 ⟨q2, q3⟩
    refine k_gp rfl rfl trivial ?_
    rw [h8]
    refine k_brt rfl (by omega) ?_
    refine k_gp rfl rfl trivial ?_
    exact k_ret rfl trivial ⟨rfl, rfl, t, rfl, q2, q3, fun z => by omega⟩
end MC
