/-! ===== the class: which sets can become which ===== -/
/-- the leaps of an edge are found -/
def LE (w : mm_M) (c e : Int → Int → Int) (nv nc x : Int) : Prop := (0 ≤ w 58 0 x ∧ w 58 0 x ≤ 512) ∧ ∀ u, (∃ i, (0 ≤ i ∧ i < w 58 0 x) ∧ w 57 x i = u) ↔ ∃ all, (0 ≤ all ∧ all < 512) ∧ thB nv all = true ∧ 0 ≤ go_ c e x all ∧ u = 256 * SO c nc all + SO c nc (go_ c e x all)
abbrev fiL : List (Nat × Option Int) := [(57, none), (58, none), (65, none)]
section MC
variable {r : Bool × Bool} {y : Bool} {w : mm_M} {np trap nv nc ne : Int} {c e : Int → Int → Int} {f : Int → Int}
set_option maxRecDepth 100000 in
theorem ev_c_find {x : Int} (hx : 0 ≤ x ∧ x < ne) (hO : PO np trap nv nc ne c e) (hP : PC w np trap nv nc ne c e f) (hM : MM w nv nc c f) (hD : OD w nv) : mm_Ev K_X1_find (0, 0) [.inr (some (55, 0)), .inl x] (PH r y) w (fun a b' w' => a = none ∧ b' = PH r y ∧ sm fiL w w' ∧ ((∀ j k, j ≠ x → w' 57 j k = w 57 j k) ∧ ∀ k, k ≠ x → w' 58 0 k = w 58 0 k) ∧ LE w' c e nv nc x) := by
  refine ev_intro ok_X1_find mo_X1_find (Nat.le_of_ble_eq_true rfl) (fun hrg has => ?_)
  have hnv := hO.2.2.1
  have hnc := hO.2.2.2.1
  have hne := hO.2.2.2.2.1
  have hE := hO.2.2.2.2.2.2 x hx.1 hx.2
  have hg := gp_cs hnv
  have hn : 0 ≤ sz_ nv ∧ sz_ nv ≤ 512 := by omega
  obtain ⟨hD1, hD2⟩ := hD
  have hsz : ∀ w1 : mm_M, sm fiL w w1 → mm_Ev K_X3_size (0, 0) [.inr (some (39, 0))] (PH r y) w1 (mm_pe (some (.inl (sz_ nv))) (PH r y) w1) := fun w1 s1 => by
    have ev := ev_c_size (r := r) (y := y) (w := w1)
    rw [s1 39 0 4 rfl, hM.1.1] at ev
    exact ev
  have hsos : ∀ w1 : mm_M, sm fiL w w1 → ∀ all, 0 ≤ all → all < 512 → thB nv all = true → w1 40 0 all = SO c nc all := fun w1 s1 all a b t => (s1 40 0 all rfl).trans (hM.2.2.2 all a b t)
  have hso : ∀ w1 : mm_M, sm fiL w w1 → ∀ all, 0 ≤ all → all < 512 → thB nv all = true → mm_Ev K_X3_sosOf (0, 0) [.inr (some (39, 0)), .inl all] (PH r y) w1 (mm_pe (some (.inl (SO c nc all))) (PH r y) w1) := fun w1 s1 all a b t => by
    have ev := ev_c_sosOf (r := r) (y := y) (w := w1) (i := all) ⟨a, b⟩
    rw [hsos w1 s1 all a b t] at ev
    exact ev
  refine k_gp rfl rfl trivial ?_
  refine mm_loop (σ := mm_M × Int × Int) (sz_ nv) (fun i s => (0 ≤ i ∧ i ≤ sz_ nv) ∧ sm fiL w s.1 ∧ ((∀ j k, j ≠ x → s.1 57 j k = w 57 j k) ∧ ∀ k, s.1 58 0 k = w 58 0 k) ∧ (0 ≤ s.2.1 ∧ s.2.1 ≤ i) ∧ (-1 ≤ s.2.2 ∧ s.2.2 < 256) ∧ (∀ u, 0 ≤ u → u < 256 → nsB s.1 65 u = true → 0 ≤ s.2.2 → ∃ k, (0 ≤ k ∧ k < s.2.1) ∧ s.1 57 x k = 256 * s.2.2 + u) ∧ ∀ u, (∃ k, (0 ≤ k ∧ k < s.2.1) ∧ s.1 57 x k = u) ↔ ∃ j, (0 ≤ j ∧ j < i) ∧ 0 ≤ go_ c e x (w 60 0 j) ∧ u = 256 * SO c nc (w 60 0 j) + SO c nc (go_ c e x (w 60 0 j))) (fun i s => ∀ l5 l6, mm_Wk K_X1_find (0, 0) 7 [some (.inr (some (55, 0))), some (.inl x), some (.inl s.2.1), some (.inl s.2.2), some (.inl i), l5, l6] [] (PH r y) s.1 (fun a b' w' => a = none ∧ b' = PH r y ∧ sm fiL w w' ∧ ((∀ j k, j ≠ x → w' 57 j k = w 57 j k) ∧ ∀ k, k ≠ x → w' 58 0 k = w 58 0 k) ∧ LE w' c e nv nc x)) ?_ ?_ 0 (w, 0, -1) ⟨by omega, sm_rf, ⟨fun _ _ _ => rfl, fun _ => rfl⟩, ⟨by dsimp only; omega, by dsimp only; omega⟩, ⟨by dsimp only; omega, by dsimp only; omega⟩, (fun u _ _ _ z => absurd (show (0 : Int) ≤ -1 from z) (by decide)), fun u => ⟨(fun ⟨k, p, _⟩ => by dsimp only at p; omega), (fun ⟨j, p, _⟩ => by omega)⟩⟩ _ _
  · rintro i ⟨w2, fo, ah⟩ q1 ⟨q2, s2, ⟨r1, r2⟩, q3, q4, q5, q6⟩ ih l5 l6
    dsimp only at s2 r1 r2 q3 q4 q5 q6 ⊢
    obtain ⟨ho, hth⟩ := hD1 i q2.1 q1
    have e60 : w2 60 0 i = w 60 0 i := s2 60 0 i rfl
    have hSi := SO_in c (w 60 0 i) hnc.2
    -- the end of a round
    have J118 : ∀ w3 fo' l5 l6, sm fiL w w3 → (∀ j k, j ≠ x → w3 57 j k = w 57 j k) → (∀ k, w3 58 0 k = w 58 0 k) → (0 ≤ fo' ∧ fo' ≤ i + 1) → (∀ u, 0 ≤ u → u < 256 → nsB w3 65 u = true → ∃ k, (0 ≤ k ∧ k < fo') ∧ w3 57 x k = 256 * SO c nc (w 60 0 i) + u) → (∀ u, (∃ k, (0 ≤ k ∧ k < fo') ∧ w3 57 x k = u) ↔ (∃ k, (0 ≤ k ∧ k < fo) ∧ w2 57 x k = u) ∨ (0 ≤ go_ c e x (w 60 0 i) ∧ u = 256 * SO c nc (w 60 0 i) + SO c nc (go_ c e x (w 60 0 i)))) → mm_Wk K_X1_find (0, 0) 118 [some (.inr (some (55, 0))), some (.inl x), some (.inl fo'), some (.inl (SO c nc (w 60 0 i))), some (.inl i), l5, l6] [] (PH r y) w3 (fun a b' w' => a = none ∧ b' = PH r y ∧ sm fiL w w' ∧ ((∀ j k, j ≠ x → w' 57 j k = w 57 j k) ∧ ∀ k, k ≠ x → w' 58 0 k = w 58 0 k) ∧ LE w' c e nv nc x) := fun w3 fo' l5 l6 s3 t1 t2 t3 t4 t5 => by
      refine k_gp rfl rfl (by simp only [true_and, mm_fits]; omega) ?_
      refine ih (w3, fo', SO c nc (w 60 0 i)) ⟨by omega, s3, ⟨t1, t2⟩, t3, ⟨by dsimp only; omega, by dsimp only; omega⟩, fun u a b z _ => t4 u a b z, fun u => ?_⟩ _ _
      dsimp only
      rw [t5 u, q6 u]
      constructor
      · rintro (⟨j, p1, p2⟩ | p)
        · exact ⟨j, by omega, p2⟩
        · exact ⟨i, by omega, p⟩
      · rintro ⟨j, p1, p2⟩
        by_cases hj : j = i
        · subst hj; exact Or.inr p2
        · exact Or.inl ⟨j, by omega, p2⟩
    have J51 : ∀ w3 l6, sm fiL w w3 → (∀ j k, w3 57 j k = w2 57 j k) → (∀ k, w3 58 0 k = w 58 0 k) → (∀ u, 0 ≤ u → u < 256 → nsB w3 65 u = true → ∃ k, (0 ≤ k ∧ k < fo) ∧ w3 57 x k = 256 * SO c nc (w 60 0 i) + u) → mm_Wk K_X1_find (0, 0) 51 [some (.inr (some (55, 0))), some (.inl x), some (.inl fo), some (.inl (SO c nc (w 60 0 i))), some (.inl i), some (.inl (SO c nc (w 60 0 i))), l6] [] (PH r y) w3 (fun a b' w' => a = none ∧ b' = PH r y ∧ sm fiL w w' ∧ ((∀ j k, j ≠ x → w' 57 j k = w 57 j k) ∧ ∀ k, k ≠ x → w' 58 0 k = w 58 0 k) ∧ LE w' c e nv nc x) := fun w3 l6 s3 t1 t2 t4 => by
      have e60 : w3 60 0 i = w 60 0 i := s3 60 0 i rfl
      refine k_gp rfl rfl (by simp only [true_and, mm_fits]; omega) ?_
      rw [e60]
      refine k_callp rfl (ev_c_after ho hx hO (PC_sm s3 rfl (fun _ => rfl) hP) (hsos w3 s3 _ ho.1 ho.2 hth)) rfl rfl rfl (by decide) ?_
      by_cases hgo : go_ c e x (w 60 0 i) < 0
      · have hga : ga_ c e x (w 60 0 i) = -2 := if_pos hgo
        rw [hga]
        refine k_gp rfl rfl trivial ?_
        refine k_brt rfl (by decide) ?_
        refine J118 w3 fo _ _ s3 (fun j k z => (t1 j k).trans (r1 j k z)) t2 ⟨by omega, by omega⟩ t4 (fun u => ?_)
        simp only [t1]
        exact ⟨Or.inl, fun z => z.resolve_right (fun p => absurd p.1 (by omega))⟩
      · have hga : ga_ c e x (w 60 0 i) = go_ c e x (w 60 0 i) := if_neg hgo
        rw [hga]
        have hin : 0 ≤ go_ c e x (w 60 0 i) ∧ go_ c e x (w 60 0 i) < 512 := by
          rcases go_in (c := c) ho hnv.2 hE with z | z
          · omega
          · exact z
        have hth2 := go_th (c := c) ho hnv.2 hE hth hin.1
        generalize hG : go_ c e x (w 60 0 i) = G at *
        have hSG := SO_in c G hnc.2
        refine k_gp rfl rfl trivial ?_
        refine k_brf rfl (by omega) ?_
        refine k_gp rfl rfl trivial ?_
        refine k_callp rfl (hso w3 s3 G hin.1 hin.2 hth2) rfl rfl rfl (by decide) ?_
        refine k_callp rfl (ev_add (g := 64) (N := 8) (by unfold NSL; decide) (by omega)) rfl rfl rfl (by decide) ?_
        have s4 : sm fiL w (nsA w3 65 (SO c nc G)) := sm_up s3 (Or.inl (by decide))
        have n65 := fun u (a : 0 ≤ u) => nsB_A (w := w3) (G := 65) (i := SO c nc G) (j := u) hSG.1 a
        have u57 : ∀ j k, nsA w3 65 (SO c nc G) 57 j k = w3 57 j k := fun j k => up_g rfl
        have u58 : ∀ k, nsA w3 65 (SO c nc G) 58 0 k = w3 58 0 k := fun k => up_g rfl
        refine k_brz rfl (fun q => ?_) (fun q => ?_)
        · have q : nsB w3 65 (SO c nc G) = true := by
            cases hz : nsB w3 65 (SO c nc G) with
            | true => rfl
            | false => exact absurd hz q
          refine J118 _ fo _ _ s4 (fun j k z => (u57 j k).trans ((t1 j k).trans (r1 j k z))) (fun k => (u58 k).trans (t2 k)) ⟨by omega, by omega⟩ (fun u a b z => ?_) (fun u => ?_)
          · rw [n65 u a, Bool.or_eq_true, decide_eq_true_eq] at z
            simp only [u57]
            rcases z with z | z
            · exact t4 u a b z
            · subst z; exact t4 _ a b q
          · simp only [u57, t1]
            refine ⟨Or.inl, fun z => z.elim id (fun p => ?_)⟩
            obtain ⟨k, p1, p2⟩ := t4 _ hSG.1 hSG.2 q
            exact ⟨k, p1, by rw [← t1, p2, p.2]⟩
        · generalize nsA w3 65 (SO c nc G) = w4 at *
          refine k_gp rfl rfl (by simp only [true_and, mm_fits]; omega) ?_
          refine k_callp rfl (hso w4 s4 G hin.1 hin.2 hth2) rfl rfl rfl (by decide) ?_
          refine k_gp rfl rfl (by simp only [true_and, mm_fits]; omega) ?_
          have s5 : sm fiL w (mm_up w4 57 x fo (SO c nc (w 60 0 i) * 256 + SO c nc G)) := sm_up s4 (Or.inl (by decide))
          refine J118 _ (fo + 1) _ _ s5 (fun j k z => (up_j z).trans ((u57 j k).trans ((t1 j k).trans (r1 j k z)))) (fun k => (up_g rfl).trans ((u58 k).trans (t2 k))) ⟨by omega, by omega⟩ (fun u a b z => ?_) (fun u => ?_)
          · have z2 : nsB w4 65 u = true := by
              rw [← z]
              exact (nsB_sm (L := [(57, none)]) (sm_up sm_rf (Or.inl List.mem_cons_self)) (fun _ => rfl)).symm
            rw [n65 u a, Bool.or_eq_true, decide_eq_true_eq] at z2
            rcases z2 with z2 | z2
            · obtain ⟨k, p1, p2⟩ := t4 u a b z2
              refine ⟨k, by omega, ?_⟩
              rw [up_at, if_neg (by omega), u57, p2]
            · refine ⟨fo, by omega, ?_⟩
              rw [up_s, z2]
              omega
          · constructor
            · rintro ⟨k, p1, p2⟩
              rw [up_at] at p2
              by_cases hk : k = fo
              · rw [if_pos hk] at p2
                exact Or.inr ⟨hin.1, by omega⟩
              · rw [if_neg hk, u57, t1] at p2
                exact Or.inl ⟨k, by omega, p2⟩
            · rintro (⟨k, p1, p2⟩ | p)
              · exact ⟨k, by omega, by rw [up_at, if_neg (by omega), u57, t1, p2]⟩
              · exact ⟨fo, by omega, by rw [up_s]; omega⟩
    refine k_gp rfl rfl trivial ?_
    refine k_callp rfl (hsz w2 s2) rfl rfl rfl (by decide) ?_
    refine k_brf rfl (by omega) ?_
    refine k_gp rfl rfl (by simp only [true_and, mm_fits]; omega) ?_
    rw [e60]
    refine k_callp rfl (hso w2 s2 _ ho.1 ho.2 hth) rfl rfl rfl (by decide) ?_
    refine k_gp rfl rfl trivial ?_
    refine k_br rfl (fun q => ?_) (fun q => ?_)
    · rw [← q]
      refine J51 w2 _ s2 (fun _ _ => rfl) r2 (fun u a b z => ?_)
      have := q5 u a b z (by omega)
      rw [← q] at this
      exact this
    · refine k_gp rfl rfl trivial ?_
      refine k_callp rfl (ev_empty (g := 64) (N := 8) (by unfold NSL; decide)) rfl rfl rfl (by decide) ?_
      refine J51 _ _ (sm_arrw s2 (by decide)) (fun _ _ => arrw_g rfl) (fun k => (arrw_g rfl).trans (r2 k)) (fun u a b z => ?_)
      rw [nsB_0 (by omega)] at z
      cases z
  · rintro i ⟨w2, fo, ah⟩ q1 ⟨q2, s2, ⟨r1, r2⟩, q3, q4, q5, q6⟩ l5 l6
    dsimp only at s2 r1 r2 q3 q4 q5 q6 ⊢
    have hi : i = sz_ nv := by omega
    subst hi
    refine k_gp rfl rfl trivial ?_
    refine k_callp rfl (hsz w2 s2) rfl rfl rfl (by decide) ?_
    refine k_brt rfl (by omega) ?_
    refine k_gp rfl rfl (by simp only [true_and, mm_fits]; omega) ?_
    have s3 : sm fiL w (mm_up w2 58 0 x fo) := sm_up s2 (Or.inl (by decide))
    refine k_ret rfl trivial ⟨rfl, rfl, s3, ⟨fun j k z => (up_g rfl).trans (r1 j k z), fun k z => (up_k z).trans (r2 k)⟩, ?_, fun u => ?_⟩
    · rw [up_s]; omega
    · rw [up_s]
      simp only [up_g (w := w2) (g := 58) (g' := 57) (j := 0) (k := x) (v := fo) rfl]
      rw [q6 u]
      constructor
      · rintro ⟨j, p1, p2, p3⟩
        have := hD1 j p1.1 p1.2
        exact ⟨w 60 0 j, this.1, this.2, p2, p3⟩
      · rintro ⟨all, p1, p2, p3, p4⟩
        obtain ⟨j, t1, t2⟩ := hD2 all p1.1 p1.2 p2
        exact ⟨j, t1, by rw [t2]; exact p3, by rw [t2]; exact p4⟩
/-- T of each edge is another -/
def eS (e : Int → Int → Int) (t : Int → Int) : Int → Int → Int := fun x k => if k = 3 then t x else e x k
theorem go_row {c e e' : Int → Int → Int} {x all : Int} (h : ∀ k, e' x k = e x k) : go_ c e' x all = go_ c e x all := by
  unfold go_ gx_ nw_
  simp only [h]
/-- the leaps of each edge are those for some T of it, or none -/
def FF (w : mm_M) (c e : Int → Int → Int) (nv nc ne : Int) : Prop := ∀ x, 0 ≤ x → x < ne → 0 ≤ w 59 0 x → LE w c (eS e (w 59 0)) nv nc x
theorem LE_c {w' : mm_M} {e' : Int → Int → Int} {x : Int} (h58 : w' 58 0 x = w 58 0 x) (h57 : ∀ k, w' 57 x k = w 57 x k) (he : ∀ k, e' x k = e x k) (h : LE w c e nv nc x) : LE w' c e' nv nc x := by
  unfold LE at h ⊢
  simp only [go_row (e' := e') (e := e) he, h58, h57]
  exact h
abbrev rnL : List (Nat × Option Int) := [(57, none), (58, none), (59, none), (65, none)]
set_option maxRecDepth 100000 in
theorem ev_c_renew (hO : PO np trap nv nc ne c e) (hP : PC w np trap nv nc ne c e f) (hM : MM w nv nc c f) (hD : OD w nv) (hF : FF w c e nv nc ne) : mm_Ev K_X1_renew (0, 0) [.inr (some (55, 0))] (PH r y) w (fun a b' w' => a = none ∧ b' = PH r y ∧ sm rnL w w' ∧ (∀ x, 0 ≤ x → x < ne → LE w' c e nv nc x) ∧ FF w' c e nv nc ne) := by
  refine ev_intro ok_X1_renew mo_X1_renew (Nat.le_of_ble_eq_true rfl) (fun hrg has => ?_)
  have hne := hO.2.2.2.2.1
  refine k_gp rfl rfl trivial ?_
  refine mm_loop (σ := mm_M) ne (fun i w2 => (0 ≤ i ∧ i ≤ ne) ∧ sm rnL w w2 ∧ (∀ x, 0 ≤ x → x < i → w2 59 0 x = e x 3 ∧ LE w2 c e nv nc x) ∧ (∀ x, i ≤ x → w2 59 0 x = w 59 0 x ∧ w2 58 0 x = w 58 0 x ∧ ∀ k, w2 57 x k = w 57 x k)) (fun i w2 => mm_Wk K_X1_renew (0, 0) 2 [some (.inr (some (55, 0))), some (.inl i)] [] (PH r y) w2 (fun a b' w' => a = none ∧ b' = PH r y ∧ sm rnL w w' ∧ (∀ x, 0 ≤ x → x < ne → LE w' c e nv nc x) ∧ FF w' c e nv nc ne)) ?_ ?_ 0 w ⟨by omega, sm_rf, fun x a b => by omega, fun x a => ⟨rfl, rfl, fun _ => rfl⟩⟩
  · rintro i w2 q1 ⟨q2, s2, q3, q4⟩ ih
    have hP2 : PC w2 np trap nv nc ne c e f := PC_sm s2 rfl (fun _ => rfl) hP
    have m3 := hP2.2.2.2 i 3 q2.1 q1 (by decide) (by decide)
    have hne2 := hP2.1.2.2.2.2
    have h3 := (hO.2.2.2.2.2.2 i q2.1 q1).2.2.2.1
    obtain ⟨t1, t2, t3⟩ := q4 i (by omega)
    refine k_gp rfl rfl trivial ?_
    rw [hne2]
    refine k_brf rfl (by omega) ?_
    refine k_gp rfl rfl (by simp only [true_and, mm_fits]; omega) ?_
    rw [m3]
    refine k_br rfl (fun q => ?_) (fun q => ?_)
    · refine k_gp rfl rfl (by simp only [true_and, mm_fits]; omega) ?_
      refine ih w2 ⟨by omega, s2, fun x a b => ?_, fun x a => q4 x (by omega)⟩
      by_cases hx : x = i
      · rw [hx]
        refine ⟨q, ?_⟩
        have h0 := hF i q2.1 q1 (by rw [← t1, q]; omega)
        refine LE_c t2 t3 (fun k => ?_) h0
        unfold eS
        by_cases hk : k = 3
        · rw [if_pos hk, hk, ← t1, q]
        · rw [if_neg hk]
      · exact q3 x a (by omega)
    · refine k_gp rfl rfl (by simp only [true_and, mm_fits]; omega) ?_
      rw [m3]
      have s3 : sm rnL w (mm_up w2 59 0 i (e i 3)) := sm_up s2 (Or.inl (by decide))
      have u57 : ∀ j k, mm_up w2 59 0 i (e i 3) 57 j k = w2 57 j k := fun j k => up_g rfl
      have u58 : ∀ k, mm_up w2 59 0 i (e i 3) 58 0 k = w2 58 0 k := fun k => up_g rfl
      have u59 : ∀ k, mm_up w2 59 0 i (e i 3) 59 0 k = if k = i then e i 3 else w2 59 0 k := fun k => up_at
      generalize mm_up w2 59 0 i (e i 3) = w3 at *
      have hD3 : OD w3 nv := by
        have e60 : ∀ k, w3 60 0 k = w 60 0 k := fun k => s3 60 0 k rfl
        unfold OD
        simp only [e60]
        exact hD
      refine k_call0 rfl (ev_c_find ⟨q2.1, q1⟩ hO (PC_sm s3 rfl (fun _ => rfl) hP) (MM_sm s3 rfl (fun _ => rfl) hM) hD3) rfl rfl rfl (by decide) ?_
      rintro a b' w4 ⟨rfl, rfl, s4, ⟨v1, v2⟩, v3⟩
      have s5 : sm rnL w w4 := sm_tr s3 (sm_w s4 (by decide))
      have v59 : ∀ k, w4 59 0 k = w3 59 0 k := fun k => s4 59 0 k rfl
      refine k_gp rfl rfl (by simp only [true_and, mm_fits]; omega) ?_
      refine ih w4 ⟨by omega, s5, fun x a b => ?_, fun x a => ?_⟩
      · by_cases hx : x = i
        · subst hx
          exact ⟨by rw [v59, u59, if_pos rfl], v3⟩
        · obtain ⟨p1, p2⟩ := q3 x a (by omega)
          refine ⟨by rw [v59, u59, if_neg hx, p1], LE_c ?_ (fun k => ?_) (fun _ => rfl) p2⟩
          · rw [v2 x hx, u58]
          · rw [v1 x k hx, u57]
      · obtain ⟨p1, p2, p3⟩ := q4 x (by omega)
        have hx : x ≠ i := by omega
        exact ⟨by rw [v59, u59, if_neg hx, p1], by rw [v2 x hx, u58, p2], fun k => by rw [v1 x k hx, u57, p3]⟩
  · rintro i w2 q1 ⟨q2, s2, q3, q4⟩
    have hi : i = ne := by omega
    subst hi
    have hP2 : PC w2 np trap nv nc i c e f := PC_sm s2 rfl (fun _ => rfl) hP
    have hne2 := hP2.1.2.2.2.2
    refine k_gp rfl rfl trivial ?_
    rw [hne2]
    refine k_brt rfl (by omega) ?_
    refine k_ret rfl trivial ⟨rfl, rfl, s2, fun x a b => (q3 x a b).2, fun x a b _ => LE_c rfl (fun _ => rfl) (fun k => ?_) (q3 x a b).2⟩
    unfold eS
    by_cases hk : k = 3
    · rw [if_pos hk, hk, (q3 x a b).1]
    · rw [if_neg hk]
/-- the sets of first values -/
def FS (w : mm_M) (c : Int → Int → Int) (f : Int → Int) (nv nc : Int) : Prop := ∀ u, 0 ≤ u → u < 256 → (nsB w 63 u = true ↔ ∃ all, (0 ≤ all ∧ all < 512) ∧ fsB f nv all = true ∧ SO c nc all = u)
abbrev tpL : List (Nat × Option Int) := [(59, none), (60, none), (61, none), (63, none)]
set_option maxRecDepth 100000 in
theorem ev_c_ltake (hO : PO np trap nv nc ne c e) (hM : MM w nv nc c f) : mm_Ev K_X1_takeProgram (0, 0) [.inr (some (55, 0))] (PH r y) w (fun a b' w' => a = none ∧ b' = PH r y ∧ sm tpL w w' ∧ OD w' nv ∧ FS w' c f nv nc ∧ FF w' c e nv nc ne) := by
  refine ev_intro ok_X1_takeProgram mo_X1_takeProgram (Nat.le_of_ble_eq_true rfl) (fun hrg has => ?_)
  have hnv := hO.2.2.1
  have hnc := hO.2.2.2.1
  have hne := hO.2.2.2.2.1
  refine k_gp rfl rfl trivial ?_
  refine k_callp rfl ev_fill_59 rfl rfl rfl (by decide) ?_
  refine k_gp rfl rfl trivial ?_
  have s0 : sm tpL w (arrw w 59 0 14 (fun _ => -1)) := sm_arrw sm_rf (by decide)
  have a59 : ∀ k, 0 ≤ k → k < 14 → arrw w 59 0 14 (fun _ => -1) 59 0 k = -1 := fun k a b => arrw_in (by omega)
  generalize arrw w 59 0 14 (fun _ => -1) = w0 at *
  refine k_call0 rfl (ev_c_orderValues hnv hnc.2 (MM_sm s0 rfl (fun _ => rfl) hM)) rfl rfl rfl (by decide) ?_
  rintro a b' w1 ⟨rfl, rfl, s1, hD⟩
  dsimp only
  have s2 : sm tpL w w1 := sm_tr s0 (sm_w s1 (by decide))
  have b59 : ∀ k, w1 59 0 k = w0 59 0 k := fun k => s1 59 0 k rfl
  refine k_gp rfl rfl trivial ?_
  refine k_callp rfl (ev_empty (g := 62) (N := 8) (by unfold NSL; decide)) rfl rfl rfl (by decide) ?_
  refine k_gp rfl rfl trivial ?_
  have s3 : sm [(63, none)] w1 (arrw w1 63 0 8 (fun _ => 0)) := sm_arrw sm_rf List.mem_cons_self
  obtain ⟨-, ⟨m3, m6⟩, m7, m8⟩ := hM
  refine mm_loop (σ := mm_M) (((FV f nv 512).length : Nat) : Int) (fun i w2 => (0 ≤ i ∧ i ≤ ((FV f nv 512).length : Nat)) ∧ sm [(63, none)] w1 w2 ∧ ∀ u, 0 ≤ u → u < 256 → (nsB w2 63 u = true ↔ ∃ k, (0 ≤ k ∧ k < i) ∧ SO c nc ((FV f nv 512).getD k.toNat 0) = u)) (fun i w2 => mm_Wk K_X1_takeProgram (0, 0) 21 [some (.inr (some (55, 0))), some (.inl i)] [] (PH r y) w2 (fun a b' w' => a = none ∧ b' = PH r y ∧ sm tpL w w' ∧ OD w' nv ∧ FS w' c f nv nc ∧ FF w' c e nv nc ne)) ?_ ?_ 0 _ ⟨by omega, s3, fun u a b => ?_⟩
  · rintro i w2 q1 ⟨q2, s4, q3⟩ ih
    have s5 : sm tpL w w2 := sm_tr s2 (sm_w s4 (by decide))
    have e3 : w2 39 0 3 = ((FV f nv 512).length : Nat) := (s5 39 0 3 rfl).trans m3
    have e41 : w2 41 0 i = (FV f nv 512).getD i.toNat 0 := (s5 41 0 i rfl).trans (m7 i q2.1 q1)
    have hmem : (FV f nv 512).getD i.toNat 0 ∈ FV f nv 512 := by
      rw [List.getD_eq_getElem?_getD, List.getElem?_eq_getElem (by omega)]
      exact List.getElem_mem _
    have hm2 := (FV_mem 512 _).mp hmem
    have e40 : w2 40 0 ((FV f nv 512).getD i.toNat 0) = SO c nc ((FV f nv 512).getD i.toNat 0) := (s5 40 0 _ rfl).trans (m8 _ hm2.1.1 hm2.1.2 (fsB_th hm2.2))
    generalize hA : (FV f nv 512).getD i.toNat 0 = A at *
    have hSA := SO_in c A hnc.2
    have ev1 := ev_c_firsts (r := r) (y := y) (w := w2)
    rw [e3] at ev1
    have ev2 := ev_c_firstAt (r := r) (y := y) (w := w2) (i := i) (by omega)
    rw [e41] at ev2
    have ev3 := ev_c_sosOf (r := r) (y := y) (w := w2) (i := A) hm2.1
    rw [e40] at ev3
    refine k_gp rfl rfl trivial ?_
    refine k_callp rfl ev1 rfl rfl rfl (by decide) ?_
    refine k_brf rfl (by omega) ?_
    refine k_gp rfl rfl trivial ?_
    refine k_callp rfl ev2 rfl rfl rfl (by decide) ?_
    refine k_callp rfl ev3 rfl rfl rfl (by decide) ?_
    refine k_callp rfl (ev_add (g := 62) (N := 8) (by unfold NSL; decide) (by omega)) rfl rfl rfl (by decide) ?_
    refine k_gp rfl rfl (by simp only [true_and, mm_fits]; omega) ?_
    refine ih _ ⟨by omega, sm_up s4 (Or.inl List.mem_cons_self), fun u a b => ?_⟩
    rw [nsB_A hSA.1 a, Bool.or_eq_true, decide_eq_true_eq, q3 u a b]
    constructor
    · rintro (⟨k, p1, p2⟩ | p)
      · exact ⟨k, by omega, p2⟩
      · exact ⟨i, by omega, by rw [hA]; exact p.symm⟩
    · rintro ⟨k, p1, p2⟩
      by_cases hk : k = i
      · rw [hk, hA] at p2
        exact Or.inr p2.symm
      · exact Or.inl ⟨k, by omega, p2⟩
  · rintro i w2 q1 ⟨q2, s4, q3⟩
    have s5 : sm tpL w w2 := sm_tr s2 (sm_w s4 (by decide))
    have e3 : w2 39 0 3 = ((FV f nv 512).length : Nat) := (s5 39 0 3 rfl).trans m3
    have ev1 := ev_c_firsts (r := r) (y := y) (w := w2)
    rw [e3] at ev1
    have hi : i = ((FV f nv 512).length : Nat) := by omega
    refine k_gp rfl rfl trivial ?_
    refine k_callp rfl ev1 rfl rfl rfl (by decide) ?_
    refine k_brt rfl (by omega) ?_
    refine k_ret rfl trivial ⟨rfl, rfl, s5, ?_, fun u a b => ?_, fun x a b z => ?_⟩
    · have e60 : ∀ k, w2 60 0 k = w1 60 0 k := fun k => s4 60 0 k rfl
      unfold OD
      simp only [e60]
      exact hD
    · rw [q3 u a b]
      constructor
      · rintro ⟨k, p1, p2⟩
        have hmem : (FV f nv 512).getD k.toNat 0 ∈ FV f nv 512 := by
          rw [List.getD_eq_getElem?_getD, List.getElem?_eq_getElem (by omega)]
          exact List.getElem_mem _
        have hm2 := (FV_mem 512 _).mp hmem
        exact ⟨_, hm2.1, hm2.2, p2⟩
      · rintro ⟨all, p1, p2, p3⟩
        have hmem : all ∈ FV f nv 512 := (FV_mem 512 _).mpr ⟨p1, p2⟩
        obtain ⟨k, hk, he⟩ := List.getElem_of_mem hmem
        refine ⟨k, by omega, ?_⟩
        rw [List.getD_eq_getElem?_getD, show ((k : Int).toNat) = k from rfl, List.getElem?_eq_getElem hk, he]
        exact p3
    · have : w2 59 0 x = -1 := (s4 59 0 x rfl).trans ((b59 x).trans (a59 x a (by omega)))
      rw [this] at z
      omega
  · rw [nsB_0 (by omega)]
    exact ⟨(fun z => by cases z), (fun ⟨k, p, _⟩ => by omega)⟩
end MC
