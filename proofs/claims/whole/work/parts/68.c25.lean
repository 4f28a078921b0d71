/-! ===== the class: what is reached, by how few edges, by which ===== -/
theorem hb_all {n g : Int} (hn : 0 ≤ n) (hg : 0 ≤ g ∧ g < n) : hb (((2 ^ n.toNat : Nat) : Int) - 1) g := by
  have h1 : 1 ≤ 2 ^ n.toNat := Nat.one_le_two_pow
  have e : (((2 ^ n.toNat : Nat) : Int) - 1) = ((2 ^ n.toNat - 1 : Nat) : Int) := (Int.ofNat_sub h1).symm
  rw [e, hb_tb (Int.natCast_nonneg _)]
  show (2 ^ n.toNat - 1).testBit g.toNat = true
  rw [Nat.testBit_two_pow_sub_one]
  exact decide_eq_true (by omega)
section MC
variable {r : Bool × Bool} {y : Bool} {w : mm_M} {np trap nv nc ne : Int} {c e : Int → Int → Int} {f lk : Int → Int}
set_option maxRecDepth 100000 in
theorem ev_c_rempty (hnc : 0 ≤ nc ∧ nc ≤ 8) (h3 : w 32 0 3 = nc) : mm_Ev K_X6_empty (0, 0) [.inr (some (47, 0))] (PH r y) w (fun a b' w' => a = none ∧ b' = PH r y ∧ sm raL w w' ∧ RK w' c nc trap []) := by
  refine ev_intro ok_X6_empty mo_X6_empty (Nat.le_of_ble_eq_true rfl) (fun hrg has => ?_)
  refine k_gp rfl rfl trivial ?_
  refine k_callp rfl (ev_empty (g := 50) (N := 128) (by unfold NSL; decide)) rfl rfl rfl (by decide) ?_
  refine k_gp rfl rfl trivial ?_
  have s0 : sm raL w (mm_up (mm_up (arrw w 51 0 128 (fun _ => 0)) 47 0 8 0) 47 0 9 0) := sm_up (sm_up (sm_arrw sm_rf (by decide)) (Or.inr (by decide))) (Or.inr (by decide))
  have z51 : ∀ u, 0 ≤ u → u < 4096 → nsB (mm_up (mm_up (arrw w 51 0 128 (fun _ => 0)) 47 0 8 0) 47 0 9 0) 51 u = false := fun u a b => by
    rw [nsB_sm (L := [(47, none)]) (sm_up (sm_up sm_rf (Or.inl List.mem_cons_self)) (Or.inl List.mem_cons_self)) (fun _ => rfl)]
    exact nsB_0 (by omega)
  have z8 : mm_up (mm_up (arrw w 51 0 128 (fun _ => 0)) 47 0 8 0) 47 0 9 0 47 0 8 = 0 := (up_k (by decide)).trans up_s
  generalize mm_up (mm_up (arrw w 51 0 128 (fun _ => 0)) 47 0 8 0) 47 0 9 0 = w0 at *
  have h1 : 1 ≤ 2 ^ nc.toNat := Nat.one_le_two_pow
  have h2 : 2 ^ nc.toNat ≤ 2 ^ 8 := Nat.pow_le_pow_right (by decide) (by omega)
  have hN : 1 ≤ ((2 ^ nc.toNat : Nat) : Int) ∧ ((2 ^ nc.toNat : Nat) : Int) ≤ 256 := ⟨Int.ofNat_le.mpr h1, Int.ofNat_le.mpr h2⟩
  have hsh := shl1 (g := nc) (by omega)
  have hall := fun g (a : 0 ≤ g) (b : g < nc) => hb_all (n := nc) (g := g) hnc.1 ⟨a, b⟩
  clear h1 h2
  generalize hNe : ((2 ^ nc.toNat : Nat) : Int) = N at *
  refine mm_loop (σ := mm_M) 8 (fun p w2 => (0 ≤ p ∧ p ≤ 8) ∧ sm raL w w2 ∧ w2 47 0 8 = 0 ∧ (∀ u, 0 ≤ u → u < 4096 → nsB w2 51 u = false) ∧ ∀ q, 0 ≤ q → q < p → w2 52 0 q = -4 ∧ w2 53 0 q = 0 ∧ w2 54 0 q = N - 1) (fun p w2 => mm_Wk K_X6_empty (0, 0) 19 [some (.inr (some (47, 0))), some (.inl p)] [] (PH r y) w2 (fun a b' w' => a = none ∧ b' = PH r y ∧ sm raL w w' ∧ RK w' c nc trap [])) ?_ ?_ 0 w0 ⟨by omega, s0, z8, z51, fun q a b => by omega⟩
  · rintro p w2 q1 ⟨q2, s2, t8, t51, tq⟩ ih
    have e3 : ∀ a b, mm_up (mm_up w2 52 0 p a) 53 0 p b 32 0 3 = nc := fun a b => (up_g rfl).trans ((up_g rfl).trans ((s2 32 0 3 rfl).trans h3))
    refine k_gp rfl rfl trivial ?_
    refine k_brf rfl (by omega) ?_
    refine k_gp rfl rfl (by simp only [true_and, mm_fits, e3, hsh]; omega) ?_
    rw [e3, hsh]
    refine ih _ ⟨by omega, sm_up (sm_up (sm_up s2 (Or.inl (by decide))) (Or.inl (by decide))) (Or.inl (by decide)), ?_, fun u a b => ?_, fun q a b => ?_⟩
    · rw [up_g rfl, up_g rfl, up_g rfl]; exact t8
    · rw [← t51 u a b]
      unfold nsB
      rw [up_g rfl, up_g rfl, up_g rfl]
    · by_cases hq : q = p
      · subst hq
        refine ⟨?_, ?_, ?_⟩
        · rw [up_g rfl, up_g rfl, up_s]
        · rw [up_g rfl, up_s]
        · rw [up_s]
      · obtain ⟨a1, a2, a3⟩ := tq q a (by omega)
        refine ⟨?_, ?_, ?_⟩
        · rw [up_g rfl, up_g rfl, up_k hq, a1]
        · rw [up_g rfl, up_k hq, up_g rfl, a2]
        · rw [up_k hq, up_g rfl, up_g rfl, a3]
  · rintro p w2 q1 ⟨q2, s2, t8, t51, tq⟩
    refine k_gp rfl rfl trivial ?_
    refine k_brt rfl (by omega) ?_
    refine k_ret rfl trivial ⟨rfl, rfl, s2, ⟨t8, (fun k a b => absurd b (by show ¬ k < 0; omega)), (fun s a b => ⟨(fun z => by rw [t51 s a b] at z; cases z), (fun z => by cases z)⟩), (by rw [cnt_0 (fun i a b => t51 i a (by omega))]; rfl)⟩, fun q a b => Or.inl ⟨(tq q a (by omega)).1, (fun k a b => absurd b (by show ¬ k < 0; omega))⟩, fun q a b => ?_, fun q a b => ?_⟩
    · rw [(tq q a (by omega)).2.1, cnt_0 (p := fun v => inQ [] (512 * q + v)) (fun i a b => rfl)]
      rfl
    · rw [(tq q a (by omega)).2.2, hNe]
      exact ⟨by omega, fun g a b => ⟨(fun _ k a b => absurd b (by show ¬ k < 0; omega)), fun _ => hall g a b⟩⟩
set_option maxRecDepth 100000 in
theorem ev_c_rsearch (hO : PO np trap nv nc ne c e) (hP : PC w np trap nv nc ne c e f) (hM : MM w nv nc c f) : mm_Ev K_X6_search (0, 0) [.inr (some (47, 0))] (PH r y) w (fun a b' w' => a = none ∧ b' = PH r y ∧ sm raL w w' ∧ ∃ Q, RK w' c nc trap Q ∧ RE c e f nv ne Q) := by
  refine ev_intro ok_X6_search mo_X6_search (Nat.le_of_ble_eq_true rfl) (fun hrg has => ?_)
  have hnc := hO.2.2.2.1
  have hne := hO.2.2.2.2.1
  refine k_gp rfl rfl trivial ?_
  refine k_call0 rfl (ev_c_rempty (c := c) (trap := trap) hnc hP.1.2.2.2.1) rfl rfl rfl (by decide) ?_
  rintro a b' w0 ⟨rfl, rfl, s0, hK0⟩
  refine k_gp rfl rfl trivial ?_
  -- the groups
  have L2 : ∀ w1 Q1 l5, sm raL w w1 → RK w1 c nc trap Q1 → RB c e f nv ne Q1 → QN Q1 → (∀ k : Int, 0 ≤ k → k < Q1.length → frQ Q1 k = -1) → (∀ q, Rch c e f nv ne 0 q → ∃ k : Int, (0 ≤ k ∧ k < Q1.length) ∧ stQ Q1 k = q ∧ frQ Q1 k = -1) → mm_Wk K_X6_search (0, 0) 50 [some (.inr (some (47, 0))), some (.inl 0), some (.inl 0), some (.inl Q1.length), some (.inl 0), l5] [] (PH r y) w1 (fun a b' w' => a = none ∧ b' = PH r y ∧ sm raL w w' ∧ ∃ Q, RK w' c nc trap Q ∧ RE c e f nv ne Q) := fun w1 Q1 l5 s1 hK1 hB1 hN1 hf1 hi1 => by
    have hz : ∀ k : Int, 0 ≤ k → k < Q1.length → ((PT Q1 k).length : Int) = 0 := fun k a b => by
      rw [PT_w (RB_WF hB1) a b, if_pos (by rw [hf1 k a b]; decide)]
      rfl
    refine mm_loop (σ := mm_M × List (Int × Int) × Int × Int × Int) 4096 (fun g s => sm raL w s.1 ∧ RK s.1 c nc trap s.2.1 ∧ RB c e f nv ne s.2.1 ∧ QN s.2.1 ∧ RCo c e ne s.2.1 (16 * s.2.2.1) ∧ (∀ j : Int, 0 ≤ j → j < s.2.1.length → frQ s.2.1 j ≤ 16 * s.2.2.1) ∧ (∀ q, Rch c e f nv ne 0 q → ∃ k : Int, (0 ≤ k ∧ k < s.2.1.length) ∧ stQ s.2.1 k = q ∧ frQ s.2.1 k = -1) ∧ ((0 ≤ g ∧ g ≤ s.2.2.1) ∧ (s.2.2.1 ≤ s.2.2.2.2 ∧ s.2.2.2.2 ≤ s.2.1.length) ∧ (0 ≤ s.2.2.2.1 ∧ s.2.2.2.1 ≤ g)) ∧ (s.2.2.1 < s.2.1.length → gst s.2.1 s.2.2.1) ∧ (∀ k : Int, s.2.2.1 ≤ k → k < s.2.2.2.2 → ((PT s.2.1 k).length : Int) = s.2.2.2.1) ∧ ∀ k : Int, s.2.2.2.2 ≤ k → k < s.2.1.length → ((PT s.2.1 k).length : Int) = s.2.2.2.1 + 1) (fun g s => ∀ l5, mm_Wk K_X6_search (0, 0) 50 [some (.inr (some (47, 0))), some (.inl s.2.2.1), some (.inl s.2.2.2.1), some (.inl s.2.2.2.2), some (.inl g), l5] [] (PH r y) s.1 (fun a b' w' => a = none ∧ b' = PH r y ∧ sm raL w w' ∧ ∃ Q, RK w' c nc trap Q ∧ RE c e f nv ne Q)) ?_ ?_ 0 (w1, Q1, 0, 0, (Q1.length : Int)) ⟨s1, hK1, hB1, hN1, (fun s k y a b d g t i j o => by have := a.1; dsimp only at o; omega), (fun j a b => by dsimp only; rw [hf1 j a b]; decide), hi1, by dsimp only; omega, (fun _ => ⟨by dsimp only; omega, Or.inl rfl⟩), (fun k a b => hz k a b), (fun k a b => by dsimp only at a b; omega)⟩ _
    · rintro g ⟨w2, Q, s, d, l⟩ q1 ⟨t1, t2, t3, t4, t5, t6, t7, t8, t9, t10, t11⟩ ih l5
      dsimp only at t1 t2 t3 t4 t5 t6 t7 t8 t9 t10 t11 ⊢
      have h8 := t2.1.1
      have hle := RK_le t2
      refine k_gp rfl rfl trivial ?_
      refine k_brf rfl (by omega) ?_
      refine k_gp rfl rfl trivial ?_
      rw [h8]
      refine k_br rfl (fun g1 => ?_) (fun g1 => ?_)
      · have hsl : s = Q.length := by omega
        rw [hsl] at t5
        exact k_ret rfl trivial ⟨rfl, rfl, t1, Q, t2, t3, t5, t7, t4⟩
      · have hgs := t9 (by omega)
        have J79 : ∀ d' l' l5, (0 ≤ d' ∧ d' ≤ g + 1) → (s < l' ∧ l' ≤ Q.length) → (∀ k : Int, s ≤ k → k < l' → ((PT Q k).length : Int) = d') → (∀ k : Int, l' ≤ k → k < Q.length → ((PT Q k).length : Int) = d' + 1) → mm_Wk K_X6_search (0, 0) 79 [some (.inr (some (47, 0))), some (.inl s), some (.inl d'), some (.inl l'), some (.inl g), l5] [] (PH r y) w2 (fun a b' w' => a = none ∧ b' = PH r y ∧ sm raL w w' ∧ ∃ Q, RK w' c nc trap Q ∧ RE c e f nv ne Q) := fun d' l' l5 v1 v2 v3 v4 => by
          refine k_gp rfl rfl trivial ?_
          refine k_call0 rfl (ev_c_endOfGroup t2 (by omega)) rfl rfl rfl (by decide) ?_
          rintro a b' w3 ⟨rfl, rfl, t, rfl, p1, p2, p3⟩
          have hG : GR Q s t := ⟨hgs, p1, p2, fun k a b z => by
            have h1 := p3 (by omega)
            have h2 := t3.2 t k (by omega) a b
            have h3 := t3.2 s t (by omega) (by omega) (by omega)
            omega⟩
          have hds := v3 s (Int.le_refl _) v2.1
          have hPI : PI c e f nv ne Q Q (16 * s) (d' + 1) := ⟨t3, t4, t5, t6, t7, ⟨[], by rw [List.append_nil]⟩, fun k a b => by omega⟩
          refine k_gp rfl rfl (by simp only [true_and, mm_fits]; omega) ?_
          refine k_call0 rfl (ev_c_rgoOn hO (PC_sm t1 rfl (fun _ => rfl) hP) (MM_sm t1 rfl (fun _ => rfl) hM) t2 hG (by omega) hPI) rfl rfl rfl (by decide) ?_
          rintro a b' w4 ⟨rfl, rfl, s4, Q', hK', hI'⟩
          have hlen := PI_len hI'
          obtain ⟨u1, u2, u3, u4, u5, ⟨R, hR⟩, u7⟩ := hI'
          have hw := RB_WF t3
          have hPT : ∀ k : Int, 0 ≤ k → k < Q.length → PT Q' k = PT Q k := fun k a b => by rw [hR]; exact PT_ap hw a b
          have hle' := RK_le hK'
          have htl : t ≤ l' := Int.le_of_not_gt fun z => by
            have h1 := v4 l' (Int.le_refl _) (by omega)
            have h2 := p2 l' (by omega) z
            rw [PT_fr hw (by omega) (by omega) h2] at h1
            omega
          refine k_gp rfl rfl (by simp only [true_and, mm_fits]; omega) ?_
          refine ih (w4, Q', t, d', l') ⟨sm_tr t1 s4, hK', u1, u2, ?_, (fun j a b => by have := u4 j a b; dsimp only; omega), u5, by dsimp only; omega, (fun z => ⟨by dsimp only; omega, Or.inr ?_⟩), (fun k a b => ?_), (fun k a b => ?_)⟩ _
          · dsimp only
            intro s' k y a b d2 g2 o i j p z
            have ha := a.1
            refine u3 s' k y a b d2 g2 o i j ?_ z
            by_cases hs' : s' ≤ s
            · omega
            · exfalso
              have h1 := a.2
              rw [hR] at h1
              have hs'Q : s' < Q.length := by omega
              rw [frQ_app (by omega) (by omega), frQ_app ha hs'Q, p2 (s' - 1) (by omega) (by omega), p2 s' (by omega) (by omega)] at h1
              omega
          · dsimp only at z ⊢
            have h1 := u1.2 (t - 1) t (by omega) (by omega) z
            refine Int.lt_iff_le_and_ne.mpr ⟨h1, fun h2 => ?_⟩
            have h3 := PT_fr (RB_WF u1) (i := t - 1) (j := t) (by omega) (by omega) h2
            rw [hPT (t - 1) (by omega) (by omega), PT_fr hw (i := t - 1) (j := s) (by omega) (by omega) (p2 (t - 1) (by omega) (by omega))] at h3
            by_cases htQ : t < Q.length
            · rw [hPT t (by omega) htQ] at h3
              have h4 := p3 htQ
              rw [hR, frQ_app (by omega) (by omega), frQ_app (by omega) htQ, p2 (t - 1) (by omega) (by omega)] at h2
              exact h4 h2.symm
            · have h5 := u7 t (by omega) z
              rw [← h3] at h5
              omega
          · dsimp only at a b ⊢
            rw [hPT k (by omega) (by omega)]
            exact v3 k (by omega) b
          · dsimp only at a b ⊢
            by_cases hk : k < Q.length
            · rw [hPT k (by omega) hk]
              exact v4 k a hk
            · exact u7 k (by omega) b
        refine k_gp rfl rfl trivial ?_
        refine k_br rfl (fun g2 => ?_) (fun g2 => ?_)
        · exact J79 d l _ (by omega) (by omega) t10 t11
        · refine k_gp rfl rfl (by simp only [true_and, mm_fits]; omega) ?_
          rw [h8]
          exact J79 (d + 1) Q.length _ (by omega) (by omega) (fun k a b => t11 k (by omega) b) (fun k a b => by omega)
    · rintro g ⟨w2, Q, s, d, l⟩ q1 ⟨t1, t2, t3, t4, t5, t6, t7, t8, t9, t10, t11⟩ l5
      dsimp only at t1 t2 t3 t4 t5 t6 t7 t8 t9 t10 t11 ⊢
      have hle := RK_le t2
      have hsl : s = Q.length := by omega
      rw [hsl] at t5
      refine k_gp rfl rfl trivial ?_
      refine k_brt rfl (by omega) ?_
      exact k_ret rfl trivial ⟨rfl, rfl, t1, Q, t2, t3, t5, t7, t4⟩
  obtain ⟨-, ⟨m3, m6⟩, m7, m8⟩ := hM
  have hT := hP.1.2.1
  refine mm_loop (σ := mm_M × List (Int × Int)) (((FV f nv 512).length : Nat) : Int) (fun i s => (0 ≤ i ∧ i ≤ ((FV f nv 512).length : Nat)) ∧ sm raL w s.1 ∧ RK s.1 c nc trap s.2 ∧ RB c e f nv ne s.2 ∧ QN s.2 ∧ (∀ k : Int, 0 ≤ k → k < s.2.length → frQ s.2 k = -1) ∧ ∀ j, 0 ≤ j → j < i → inQ s.2 ((FV f nv 512).getD j.toNat 0) = true) (fun i s => ∀ l2 l3 l4 l5, mm_Wk K_X6_search (0, 0) 6 [some (.inr (some (47, 0))), some (.inl i), l2, l3, l4, l5] [] (PH r y) s.1 (fun a b' w' => a = none ∧ b' = PH r y ∧ sm raL w w' ∧ ∃ Q, RK w' c nc trap Q ∧ RE c e f nv ne Q)) ?_ ?_ 0 (w0, []) ⟨by omega, s0, hK0, ⟨(fun k a b => absurd b (by show ¬ k < 0; omega)), (fun i j a b d => absurd d (by show ¬ j < 0; omega))⟩, (fun i j a b d => absurd d (by show ¬ j < 0; omega)), (fun k a b => absurd b (by show ¬ k < 0; omega)), (fun j a b => by omega)⟩ _ _ _ _
  · rintro i ⟨w1, Q⟩ q1 ⟨q2, t1, t2, t3, t4, t5, t6⟩ ih l2 l3 l4 l5
    dsimp only at t1 t2 t3 t4 t5 t6 ⊢
    have e3 : w1 39 0 3 = ((FV f nv 512).length : Nat) := (t1 39 0 3 rfl).trans m3
    have e41 : w1 41 0 i = (FV f nv 512).getD i.toNat 0 := (t1 41 0 i rfl).trans (m7 i q2.1 q1)
    have hmem : (FV f nv 512).getD i.toNat 0 ∈ FV f nv 512 := by
      rw [List.getD_eq_getElem?_getD, List.getElem?_eq_getElem (by omega)]
      exact List.getElem_mem _
    have hm2 := (FV_mem 512 _).mp hmem
    have e40 : w1 40 0 ((FV f nv 512).getD i.toNat 0) = SO c nc ((FV f nv 512).getD i.toNat 0) := (t1 40 0 _ rfl).trans (m8 _ hm2.1.1 hm2.1.2 (fsB_th hm2.2))
    have e32 : w1 32 0 1 = trap := (t1 32 0 1 rfl).trans hT
    generalize hA : (FV f nv 512).getD i.toNat 0 = A at *
    have hA5 : 0 ≤ A ∧ A < 512 := hm2.1
    have ev1 := ev_c_firsts (r := r) (y := y) (w := w1)
    rw [e3] at ev1
    have ev2 := ev_c_firstAt (r := r) (y := y) (w := w1) (i := i) (by omega)
    rw [e41] at ev2
    have hB' : RB c e f nv ne (Q ++ [(A, -1)]) := RB_add t3 (Or.inl ⟨rfl, hA5.1, hA5.2, hm2.2⟩) (fun i a b => by rw [t5 i a b]; exact Int.le_refl _)
    have hl1 : ((Q ++ [(A, -1)]).length : Int) = Q.length + 1 := by simp
    have e2 : frQ (Q ++ [(A, -1)]) Q.length = -1 := by unfold frQ; simp
    have hPd : (0 : Int) = (PT (Q ++ [(A, -1)]) Q.length).length := by
      rw [PT_w (RB_WF hB') (by omega) (by omega), e2, if_pos (by decide)]
      rfl
    refine k_gp rfl rfl trivial ?_
    refine k_callp rfl ev1 rfl rfl rfl (by decide) ?_
    refine k_brf rfl (by omega) ?_
    refine k_gp rfl rfl trivial ?_
    refine k_callp rfl ev2 rfl rfl rfl (by decide) ?_
    refine k_gp rfl rfl trivial ?_
    refine k_call0 rfl (ev_c_radd (Q := Q) (p := 0) (v := A) (fr := -1) (d := 0) hnc (RB_WF t3) t2 (by omega) hA5 e32 e40 (fun _ => by rw [show (0 : Int) * 512 + A = A by omega]; exact hPd)) rfl rfl rfl (by decide) ?_
    rw [show (0 : Int) * 512 + A = A by omega]
    rintro a b' w2 ⟨rfl, rfl, s2, hK2⟩
    refine k_gp rfl rfl (by simp only [true_and, mm_fits]; omega) ?_
    have hN' := QN_add1 (s := A) (fr := -1) t4
    by_cases hin : inQ Q A = true
    · have ha : add1 Q A (-1) = Q := if_pos hin
      rw [ha] at hK2
      refine ih (w2, Q) ⟨by omega, sm_tr t1 s2, hK2, t3, t4, t5, fun j a b => ?_⟩ _ _ _ _
      by_cases hj : j = i
      · rw [hj, hA]; exact hin
      · exact t6 j a (by omega)
    · have ha : add1 Q A (-1) = Q ++ [(A, -1)] := if_neg hin
      rw [ha] at hK2 hN'
      have hinn : ∀ u, inQ (Q ++ [(A, -1)]) u = (inQ Q u || decide (A = u)) := fun u => by unfold inQ; rw [List.any_append]; simp
      refine ih (w2, Q ++ [(A, -1)]) ⟨by omega, sm_tr t1 s2, hK2, hB', hN', fun k a b => ?_, fun j a b => ?_⟩ _ _ _ _
      · dsimp only at b ⊢
        by_cases hk : k = Q.length
        · rw [hk, e2]
        · rw [frQ_app a (by omega)]; exact t5 k a (by omega)
      · dsimp only
        rw [hinn]
        by_cases hj : j = i
        · rw [hj, hA, decide_eq_true rfl, Bool.or_true]
        · rw [t6 j a (by omega)]; rfl
  · rintro i ⟨w1, Q⟩ q1 ⟨q2, t1, t2, t3, t4, t5, t6⟩ l2 l3 l4 l5
    dsimp only at t1 t2 t3 t4 t5 t6 ⊢
    have e3 : w1 39 0 3 = ((FV f nv 512).length : Nat) := (t1 39 0 3 rfl).trans m3
    have ev1 := ev_c_firsts (r := r) (y := y) (w := w1)
    rw [e3] at ev1
    have h8 := t2.1.1
    refine k_gp rfl rfl trivial ?_
    refine k_callp rfl ev1 rfl rfl rfl (by decide) ?_
    refine k_brt rfl (by omega) ?_
    refine k_gp rfl rfl trivial ?_
    rw [h8]
    refine L2 w1 Q _ t1 t2 t3 t4 t5 (fun q hq => ?_)
    have hmem : q ∈ FV f nv 512 := (FV_mem 512 _).mpr ⟨⟨hq.1, hq.2.1⟩, hq.2.2⟩
    obtain ⟨k, hk, he⟩ := List.getElem_of_mem hmem
    have h1 := t6 k (by omega) (by omega)
    rw [List.getD_eq_getElem?_getD, show ((k : Int).toNat) = k from rfl, List.getElem?_eq_getElem hk, he] at h1
    obtain ⟨j, j1, j2⟩ := inQ_iff.mp h1
    exact ⟨j, j1, j2, t5 j j1.1 j1.2⟩
end MC
