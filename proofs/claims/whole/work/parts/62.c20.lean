/-! ===== the class: the search for what may be ===== -/
theorem cub_sub {c : Int → Int → Int} {nc L all : Int} (hnc : 0 ≤ nc ∧ nc ≤ 8) (hL : 0 ≤ L ∧ L < 256) : mm_and (cub c nc L all) L = cub c nc L all := by
  have h1 := SO_in c all hnc.2
  have h2 := cub_in c nc L all hnc.2
  refine bits_eq (n := 8) (hb_and (g := 0) h2 hL).1 h2 (fun g a b => ?_)
  rw [(hb_and (g := g) h2 hL).2, ← cub_and hnc hL, (hb_and (g := g) h1 hL).2]
  exact ⟨fun z => z.1, fun z => ⟨z, z.2⟩⟩
theorem and15 {i : Int} (h : 0 ≤ i ∧ i < 2147483648) : mm_and i 15 = i % 16 := by
  have := bb_and (x := i.toNat) (y := 15) (by omega) (by decide)
  rw [show ((i.toNat : Nat) : Int) = i by omega] at this
  refine this.trans ?_
  rw [show (15 : Nat) = 2 ^ 4 - 1 from rfl, Nat.and_two_pow_sub_one_eq_mod]
  omega
theorem shr4 {i : Int} (h : 0 ≤ i ∧ i < 2147483648) : mm_shr i 4 = i / 16 := bb_shr (x := i) ⟨by omega, by omega⟩ (y := 4) (by decide)
/-- what is looked at, in the class -/
def HL (w : mm_M) (lk : Int → Int) : Prop := ∀ p, 0 ≤ p → p < 8 → w 42 0 p = lk p ∧ 0 ≤ lk p ∧ lk p < 256
section MC
variable {r : Bool × Bool} {y : Bool} {w : mm_M} {np trap nv nc ne : Int} {c e : Int → Int → Int} {f lk : Int → Int}
theorem fc_iff {u : Int} (hF : FS w c f nv nc) (hnc : 0 ≤ nc ∧ nc ≤ 8) (hL : 0 ≤ lk 0 ∧ lk 0 < 256) : (∃ s, (0 ≤ s ∧ s < 256) ∧ nsB w 63 s = true ∧ mm_and s (lk 0) = u) ↔ fcB c f lk nv nc u = true := by
  rw [fcB_iff]
  constructor
  · rintro ⟨s, p1, p2, p3⟩
    obtain ⟨all, q1, q2, q3⟩ := (hF s p1.1 p1.2).mp p2
    exact ⟨all, q1, q2, by rw [← cub_and hnc hL, q3, p3]⟩
  · rintro ⟨all, q1, q2, q3⟩
    have h := SO_in c all hnc.2
    exact ⟨SO c nc all, h, (hF _ h.1 h.2).mpr ⟨all, q1, q2, rfl⟩, by rw [cub_and hnc hL, q3]⟩
theorem LE_in {x : Int} (hE : LE w c e nv nc x) (hnc : nc ≤ 8) : ∀ i, 0 ≤ i → i < w 58 0 x → 0 ≤ w 57 x i ∧ w 57 x i < 65536 := fun i a b => by
  obtain ⟨all, p1, p2, p3, p4⟩ := (hE.2 _).mp ⟨i, ⟨a, b⟩, rfl⟩
  have h1 := SO_in c all hnc
  have h2 := SO_in c (go_ c e x all) hnc
  omega
theorem lp_iff {x La : Int} {N : Nat} {R : Int → Prop} (hE : LE w c e nv nc x) (hnc : 0 ≤ nc ∧ nc ≤ 8) (hLa : 0 ≤ La ∧ La < 256) : (∃ i, lpN w N x La i ∧ R (w 57 x i % 256)) ↔ ∃ all, (0 ≤ all ∧ all < 512) ∧ thB nv all = true ∧ 0 ≤ go_ c e x all ∧ nsB w N (cub c nc La all) = true ∧ R (SO c nc (go_ c e x all)) := by
  have key : ∀ all, (256 * SO c nc all + SO c nc (go_ c e x all)) / 256 = SO c nc all ∧ (256 * SO c nc all + SO c nc (go_ c e x all)) % 256 = SO c nc (go_ c e x all) := fun all => by
    have h1 := SO_in c all hnc.2
    have h2 := SO_in c (go_ c e x all) hnc.2
    omega
  constructor
  · rintro ⟨i, ⟨p1, p2⟩, p3⟩
    obtain ⟨all, q1, q2, q3, q4⟩ := (hE.2 _).mp ⟨i, p1, rfl⟩
    rw [q4, (key all).1, cub_and hnc hLa] at p2
    rw [q4, (key all).2] at p3
    exact ⟨all, q1, q2, q3, p2, p3⟩
  · rintro ⟨all, q1, q2, q3, q4, q5⟩
    obtain ⟨i, p1, p2⟩ := (hE.2 _).mpr ⟨all, q1, q2, q3, rfl⟩
    refine ⟨i, ⟨p1, ?_⟩, ?_⟩
    · rw [p2, (key all).1, cub_and hnc hLa]; exact q4
    · rw [p2, (key all).2]; exact q5
theorem lp0_iff {x La : Int} {N : Nat} (hE : LE w c e nv nc x) (hnc : 0 ≤ nc ∧ nc ≤ 8) (hLa : 0 ≤ La ∧ La < 256) : (∃ i, lpN w N x La i) ↔ ∃ all, (0 ≤ all ∧ all < 512) ∧ thB nv all = true ∧ 0 ≤ go_ c e x all ∧ nsB w N (cub c nc La all) = true := by
  have := lp_iff (R := fun _ => True) (N := N) hE hnc hLa
  simp only [and_true] at this
  exact this
theorem LE_sm {w' : mm_M} {x : Int} {L : List (Nat × Option Int)} (hs : sm L w w') (h : ∀ k, (frB L 57 k && frB L 58 k) = true) (hE : LE w c e nv nc x) : LE w' c e nv nc x := by
  simp only [Bool.and_eq_true] at h
  exact LE_c (hs 58 0 x (h x).2) (fun k => hs 57 x k (h k).1) (fun _ => rfl) hE
theorem HL_sm {w' : mm_M} {L : List (Nat × Option Int)} (hs : sm L w w') (h : ∀ k, frB L 42 k = true) (hE : HL w lk) : HL w' lk := fun p a b => ⟨(hs 42 0 p (h p)).trans (hE p a b).1, (hE p a b).2⟩
/-- the cubes that one may become, in the class's words -/
theorem ev_c_next {x cb : Int} (hx : 0 ≤ x ∧ x < ne) (hO : PO np trap nv nc ne c e) (hP : PC w np trap nv nc ne c e f) (hH : HL w lk) (hE : LE w c e nv nc x) (hN : ∀ u, 0 ≤ u → u < 256 → (nsB w 83 u = true ↔ u = cb)) : mm_Ev K_X1_putNextCubes (0, 0) [.inr (some (55, 0)), .inl x, .inr (some (42, 0)), .inr (some (82, 0)), .inr (some (84, 0))] (PH r y) w (fun a b' w' => b' = PH r y ∧ sm [(85, none)] w w' ∧ (∀ u, 0 ≤ u → u < 256 → (nsB w' 85 u = true ↔ nxB c e lk nv nc x cb u = true)) ∧ ∃ z : Bool, a = some (.inl (ib (z = true))) ∧ (z = false → ∀ u, nxB c e lk nv nc x cb u = false)) := by
  have hnc := hO.2.2.2.1
  have hne := hO.2.2.2.2.1
  have hnp := hO.1
  have hEx := hO.2.2.2.2.2.2 x hx.1 hx.2
  have m0 := hP.2.2.2 x 0 hx.1 hx.2 (by decide) (by decide)
  have m1 := hP.2.2.2 x 1 hx.1 hx.2 (by decide) (by decide)
  have r0 := hEx.1
  have r1 := hEx.2.1
  have l0 := hH (e x 0) (by omega) (by omega)
  have l1 := hH (e x 1) (by omega) (by omega)
  have hsub : ∀ all, nsB w 83 (cub c nc (lk (e x 0)) all) = true ↔ cub c nc (lk (e x 0)) all = cb := fun all => by
    have h := cub_in c nc (lk (e x 0)) all hnc.2
    exact hN _ h.1 h.2
  refine ev_conseq (ev_c_putNext_42_82 (La := lk (e x 0)) (Lb := lk (e x 1)) ⟨hx.1, by omega⟩ (by rw [m0, m1]; omega) (by rw [m0]; exact l0.1) (by rw [m1]; exact l1.1) l0.2 l1.2 hE.1 (LE_in hE hnc.2)) ?_
  rintro a b' w' ⟨h1, h2, h3, z, h4, h5⟩
  refine ⟨h1, h2, fun u a b => ?_, z, h4, fun hz u => ?_⟩
  · rw [h3 u a b, lp_iff (R := fun t => mm_and t (lk (e x 1)) = u) hE hnc l0.2, nxB_iff]
    constructor
    · rintro ⟨all, p1, p2, p3, p4, p5⟩
      exact ⟨all, p1, ⟨p2, (hsub all).mp p4⟩, p3, by rw [← cub_and hnc l1.2]; exact p5⟩
    · rintro ⟨all, p1, ⟨p2, p4⟩, p3, p5⟩
      exact ⟨all, p1, p2, p3, (hsub all).mpr p4, by rw [cub_and hnc l1.2]; exact p5⟩
  · rw [Bool.eq_false_iff]
    intro hq
    obtain ⟨all, p1, ⟨p2, p4⟩, p3, p5⟩ := nxB_iff.mp hq
    have := h5.mpr ((lp0_iff hE hnc l0.2).mpr ⟨all, p1, p2, p3, (hsub all).mpr p4⟩)
    rw [hz] at this
    cases this
theorem addC_no {Q : List (Int × Int)} {b fr : Int} {S : Int → Bool} (h : ∀ u, S u = false) (n : Nat) : addC Q b S fr n = Q := by
  have := addC_skip (Q := Q) (b := b) (fr := fr) (S := S) (a := 0) n (fun k _ _ => h k)
  rw [Nat.zero_add] at this
  exact this
abbrev goL : List (Nat × Option Int) := [(77, some 9), (77, some 10), (78, none), (79, none), (81, none), (83, none), (85, none)]
set_option maxRecDepth 100000 in
theorem ev_c_goOn {k : Int} {Q : List (Int × Int)} (hO : PO np trap nv nc ne c e) (hP : PC w np trap nv nc ne c e f) (hH : HL w lk) (hE : ∀ x, 0 ≤ x → x < ne → LE w c e nv nc x) (hQ : QC w trap Q) (hk : 0 ≤ k ∧ k < Q.length) : mm_Ev K_X2_goOn (0, 0) [.inr (some (77, 0)), .inl k] (PH r y) w (fun a b' w' => a = none ∧ b' = PH r y ∧ sm goL w w' ∧ QC w' trap (addX c e lk nv nc Q k ne.toNat)) := by
  refine ev_intro ok_X2_goOn mo_X2_goOn (Nat.le_of_ble_eq_true rfl) (fun hrg has => ?_)
  have hnc := hO.2.2.2.1
  have hne := hO.2.2.2.2.1
  have hnp := hO.1
  have hle := QC_le hQ
  obtain ⟨n78, n79, nin⟩ := hQ.2.1 k hk.1 hk.2
  refine k_gp rfl rfl (by simp only [true_and, mm_fits]; omega) ?_
  rw [n78]
  refine k_callp rfl (ev_empty (g := 82) (N := 8) (by unfold NSL; decide)) rfl rfl rfl (by decide) ?_
  have s0 : sm [(83, none)] w (arrw w 83 0 8 (fun _ => 0)) := sm_arrw sm_rf List.mem_cons_self
  have z83 : ∀ u, 0 ≤ u → u < 256 → nsB (arrw w 83 0 8 (fun _ => 0)) 83 u = false := fun u a b => nsB_0 (by omega)
  generalize arrw w 83 0 8 (fun _ => 0) = w0 at *
  have e78 : w0 78 0 k = stQ Q k := (s0 78 0 k rfl).trans n78
  refine k_gp rfl rfl (by simp only [true_and, mm_fits]; omega) ?_
  rw [e78]
  have hcb : 0 ≤ stQ Q k % 256 ∧ stQ Q k % 256 < 256 := by omega
  refine k_callp rfl (ev_add (g := 82) (N := 8) (by unfold NSL; decide) (by omega)) rfl rfl rfl (by decide) ?_
  have s1 : sm [(83, none)] w (nsA w0 83 (stQ Q k % 256)) := sm_up s0 (Or.inl List.mem_cons_self)
  have y83 : ∀ u, 0 ≤ u → u < 256 → (nsB (nsA w0 83 (stQ Q k % 256)) 83 u = true ↔ u = stQ Q k % 256) := fun u a b => by
    rw [nsB_A hcb.1 a, z83 u a b, Bool.false_or, decide_eq_true_eq]
  generalize nsA w0 83 (stQ Q k % 256) = w1 at *
  refine k_gp rfl rfl trivial ?_
  refine mm_loop (σ := mm_M) ne (fun i w2 => (0 ≤ i ∧ i ≤ ne) ∧ sm goL w w2 ∧ (∀ u, 0 ≤ u → u < 256 → (nsB w2 83 u = true ↔ u = stQ Q k % 256)) ∧ QC w2 trap (addX c e lk nv nc Q k i.toNat)) (fun i w2 => mm_Wk K_X2_goOn (0, 0) 38 [some (.inr (some (77, 0))), some (.inl k), some (.inl (stQ Q k / 256)), some (.inl i)] [] (PH r y) w2 (fun a b' w' => a = none ∧ b' = PH r y ∧ sm goL w w' ∧ QC w' trap (addX c e lk nv nc Q k ne.toNat))) ?_ ?_ 0 w1 ⟨by omega, sm_w s1 (by decide), y83, QC_sm s1 rfl (fun _ => rfl) hQ⟩
  · rintro i w2 q1 ⟨q2, s2, q3, q4⟩ ih
    have hP2 : PC w2 np trap nv nc ne c e f := PC_sm s2 rfl (fun _ => rfl) hP
    have hH2 : HL w2 lk := HL_sm s2 (fun _ => rfl) hH
    have hne2 := hP2.1.2.2.2.2
    have m0 := hP2.2.2.2 i 0 q2.1 q1 (by decide) (by decide)
    have hEi := hO.2.2.2.2.2.2 i q2.1 q1
    have r0 := hEi.1
    have r1 := hEi.2.1
    have hst : addX c e lk nv nc Q k (i + 1).toNat = if e i 0 = stQ Q k / 256 then addC (addX c e lk nv nc Q k i.toNat) (256 * e i 1) (nxB c e lk nv nc i (stQ Q k % 256)) (16 * k + i) 256 else addX c e lk nv nc Q k i.toNat := by
      rw [show (i + 1).toNat = i.toNat + 1 by omega]
      show (if e ((i.toNat : Nat) : Int) 0 = stQ Q k / 256 then addC (addX c e lk nv nc Q k i.toNat) (256 * e ((i.toNat : Nat) : Int) 1) (nxB c e lk nv nc ((i.toNat : Nat) : Int) (stQ Q k % 256)) (16 * k + ((i.toNat : Nat) : Int)) 256 else addX c e lk nv nc Q k i.toNat) = _
      rw [show ((i.toNat : Nat) : Int) = i by omega]
    have J108 : ∀ w3, sm goL w w3 → (∀ u, 0 ≤ u → u < 256 → (nsB w3 83 u = true ↔ u = stQ Q k % 256)) → QC w3 trap (addX c e lk nv nc Q k (i + 1).toNat) → mm_Wk K_X2_goOn (0, 0) 108 [some (.inr (some (77, 0))), some (.inl k), some (.inl (stQ Q k / 256)), some (.inl i)] [] (PH r y) w3 (fun a b' w' => a = none ∧ b' = PH r y ∧ sm goL w w' ∧ QC w' trap (addX c e lk nv nc Q k ne.toNat)) := fun w3 s3 t1 t2 => by
      refine k_gp rfl rfl (by simp only [true_and, mm_fits]; omega) ?_
      exact ih w3 ⟨by omega, s3, t1, t2⟩
    refine k_gp rfl rfl trivial ?_
    rw [hne2]
    refine k_brf rfl (by omega) ?_
    refine k_gp rfl rfl (by simp only [true_and, mm_fits]; omega) ?_
    rw [m0]
    refine k_br rfl (fun q => ?_) (fun q => ?_)
    · rw [if_neg q] at hst
      exact J108 w2 s2 q3 (by rw [hst]; exact q4)
    · have q : e i 0 = stQ Q k / 256 := Classical.byContradiction q
      rw [if_pos q] at hst
      refine k_gp rfl rfl trivial ?_
      refine k_call0 rfl (ev_c_next ⟨q2.1, q1⟩ hO hP2 hH2 (LE_sm s2 (fun _ => rfl) (hE i q2.1 q1)) q3) rfl rfl rfl (by decide) ?_
      rintro a b' w3 ⟨rfl, s3, t1, z, rfl, t2⟩
      have s4 : sm goL w w3 := sm_tr s2 (sm_w s3 (by decide))
      have q33 : ∀ u, 0 ≤ u → u < 256 → (nsB w3 83 u = true ↔ u = stQ Q k % 256) := fun u a b => by
        rw [nsB_sm s3 (fun _ => rfl)]
        exact q3 u a b
      have q43 : QC w3 trap (addX c e lk nv nc Q k i.toNat) := QC_sm s3 rfl (fun _ => rfl) q4
      refine k_brz rfl (fun g => ?_) (fun g => ?_)
      · have g : z = false := by
          cases z with
          | false => rfl
          | true => exact absurd rfl g
        rw [addC_no (t2 g)] at hst
        exact J108 w3 s4 q33 (by rw [hst]; exact q43)
      · have hP3 : PC w3 np trap nv nc ne c e f := PC_sm s4 rfl (fun _ => rfl) hP
        have hH3 : HL w3 lk := HL_sm s4 (fun _ => rfl) hH
        have m1 := hP3.2.2.2 i 1 q2.1 q1 (by decide) (by decide)
        have l1 := hH3 (e i 1) (by omega) (by omega)
        refine k_gp rfl rfl (by simp only [true_and, mm_fits]; omega) ?_
        rw [m1]
        refine k_call0 rfl (ev_c_addAll (S := nxB c e lk nv nc i (stQ Q k % 256)) (by omega) (by rw [l1.1]; exact l1.2) hP3.1.2.1 t1 (fun u a b z => ?_) q43) rfl rfl rfl (by decide) ?_
        · obtain ⟨all, p1, p2, p3, p4⟩ := nxB_iff.mp z
          rw [← p4, l1.1]
          exact cub_sub hnc l1.2
        · rintro a b' w4 ⟨rfl, rfl, s5, t3⟩
          refine J108 w4 (sm_tr s4 (sm_w s5 (by decide))) (fun u a b => ?_) ?_
          · rw [nsB_sm s5 (fun _ => rfl)]
            exact q33 u a b
          · rw [hst, show 16 * k + i = k * 16 + i by omega]
            exact t3
  · rintro i w2 q1 ⟨q2, s2, q3, q4⟩
    have hP2 : PC w2 np trap nv nc ne c e f := PC_sm s2 rfl (fun _ => rfl) hP
    have hne2 := hP2.1.2.2.2.2
    have hi : i = ne := by omega
    subst hi
    refine k_gp rfl rfl trivial ?_
    rw [hne2]
    refine k_brt rfl (by omega) ?_
    exact k_ret rfl trivial ⟨rfl, rfl, s2, q4⟩
set_option maxRecDepth 100000 in
theorem ev_c_tracePath {Q : List (Int × Int)} (hQ : QC w trap Q) (hW : QW e ne Q) (hne : 0 ≤ ne ∧ ne ≤ 14) : mm_Ev K_X2_tracePath (0, 0) [.inr (some (77, 0))] (PH r y) w (fun a b' w' => a = none ∧ b' = PH r y ∧ sm [(66, some 5), (67, none)] w w' ∧ (0 ≤ w 77 0 10 → RW w' (PT Q (w 77 0 10)))) := by
  refine ev_intro ok_X2_tracePath mo_X2_tracePath (Nat.le_of_ble_eq_true rfl) (fun hrg has => ?_)
  have hle := QC_le hQ
  refine k_gp rfl rfl trivial ?_
  refine k_callp rfl ev_c_wempty rfl rfl rfl (by decide) ?_
  have s0 : sm [(66, some 5), (67, none)] w (mm_up w 66 0 5 0) := sm_up sm_rf (Or.inr List.mem_cons_self)
  have z5 : mm_up w 66 0 5 0 66 0 5 = 0 := up_s
  generalize mm_up w 66 0 5 0 = w0 at *
  have e10 : w0 77 0 10 = w 77 0 10 := s0 77 0 10 rfl
  have h10 : w 77 0 10 = -4 ∨ (0 ≤ w 77 0 10 ∧ w 77 0 10 < Q.length) := hQ.2.2.2.2.imp (fun z => z.1) (fun z => z.1)
  refine k_gp rfl rfl trivial ?_
  rw [e10]
  generalize w 77 0 10 = F at *
  rcases h10 with h10 | h10
  · rw [h10]
    refine k_gp rfl rfl trivial ?_
    refine k_brf rfl (by decide) ?_
    refine k_gp rfl rfl trivial ?_
    refine k_brt rfl (by decide) ?_
    exact k_ret rfl trivial ⟨rfl, rfl, s0, fun z => absurd z (by decide)⟩
  · have hPT := PT_ok hW (F.toNat + 1) F h10.1 h10.2 (by omega)
    refine mm_loop (σ := mm_M × Int × List Int) 2048 (fun n s => sm [(66, some 5), (67, none)] w s.1 ∧ (0 ≤ s.2.1 ∧ s.2.1 < Q.length) ∧ PT Q F = PT Q s.2.1 ++ s.2.2 ∧ n = s.2.2.length ∧ s.1 66 0 5 = s.2.2.length ∧ ∀ j : Int, 0 ≤ j → j < s.2.2.length → s.1 67 0 (s.2.2.length - 1 - j) = s.2.2.getD j.toNat 0) (fun n s => mm_Wk K_X2_tracePath (0, 0) 14 [some (.inr (some (77, 0))), some (.inl s.2.1), some (.inl n)] [] (PH r y) s.1 (fun a b' w' => a = none ∧ b' = PH r y ∧ sm [(66, some 5), (67, none)] w w' ∧ (0 ≤ F → RW w' (PT Q F)))) ?_ ?_ 0 (w0, F, []) ⟨s0, h10, by rw [List.append_nil], rfl, z5, fun j a b => absurd b (by show ¬ j < 0; omega)⟩
    · rintro n ⟨w2, k, τ⟩ q1 ⟨s2, hk, hp, hn, h5, h67⟩ ih
      dsimp only at s2 hk hp hn h5 h67 ⊢
      obtain ⟨n78, n79, nin⟩ := hQ.2.1 k hk.1 hk.2
      have e79 : w2 79 0 k = frQ Q k := (s2 79 0 k rfl).trans n79
      have hfr := hW k hk.1 hk.2
      have hPE := PT_eq hW hk.1 hk.2
      refine k_gp rfl rfl trivial ?_
      refine k_brf rfl (by omega) ?_
      refine k_gp rfl rfl trivial ?_
      refine k_brf rfl (by omega) ?_
      refine k_gp rfl rfl (by simp only [true_and, mm_fits]; omega) ?_
      rw [e79]
      refine k_br rfl (fun g => ?_) (fun g => ?_)
      · rw [if_pos g] at hPE
        rw [hPE, List.nil_append] at hp
        refine k_ret rfl trivial ⟨rfl, rfl, s2, fun _ => ?_⟩
        rw [hp]
        refine ⟨h5, ?_, h67⟩
        rw [← hp]
        omega
      · rw [if_neg g] at hPE
        have hfr : (0 ≤ frQ Q k ∧ frQ Q k / 16 < k) ∧ frQ Q k % 16 < ne := by
          rcases hfr with z | z
          · omega
          · exact ⟨z.1, z.2.1⟩
        have hlen : (PT Q F).length = (PT Q (frQ Q k / 16)).length + 1 + τ.length := by
          rw [hp, hPE, List.length_append, List.length_append]
          rfl
        refine k_gp rfl rfl (by simp only [true_and, mm_fits]; omega) ?_
        rw [e79, and15 (by omega)]
        refine k_callp rfl (ev_c_putAhead (by omega)) rfl rfl rfl (by decide) ?_
        rw [h5]
        have s3 : sm [(66, some 5), (67, none)] w (mm_up (mm_up w2 67 0 τ.length (frQ Q k % 16)) 66 0 5 (τ.length + 1)) := sm_up (sm_up s2 (Or.inl (by decide))) (Or.inr List.mem_cons_self)
        have g5 : mm_up (mm_up w2 67 0 τ.length (frQ Q k % 16)) 66 0 5 (τ.length + 1) 66 0 5 = τ.length + 1 := up_s
        have g67 : ∀ i, mm_up (mm_up w2 67 0 τ.length (frQ Q k % 16)) 66 0 5 (τ.length + 1) 67 0 i = if i = τ.length then frQ Q k % 16 else w2 67 0 i := fun i => (up_g rfl).trans up_at
        generalize mm_up (mm_up w2 67 0 τ.length (frQ Q k % 16)) 66 0 5 (τ.length + 1) = w3 at *
        have f79 : w3 79 0 k = frQ Q k := (s3 79 0 k rfl).trans n79
        refine k_gp rfl rfl (by simp only [true_and, mm_fits, f79]; omega) ?_
        rw [f79, shr4 (by omega)]
        have hl1 : (((frQ Q k % 16) :: τ).length : Int) = τ.length + 1 := by simp
        refine ih (w3, frQ Q k / 16, (frQ Q k % 16) :: τ) ⟨s3, by dsimp only; omega, ?_, by dsimp only; omega, by dsimp only; omega, fun j a b => ?_⟩
        · dsimp only
          rw [hp, hPE, List.append_assoc]
          rfl
        · dsimp only at b ⊢
          rw [hl1] at b ⊢
          rw [g67]
          by_cases hj : j = 0
          · rw [hj, if_pos (by omega)]
            rfl
          · rw [if_neg (by omega), show (τ.length : Int) + 1 - 1 - j = τ.length - 1 - (j - 1) by omega, h67 (j - 1) (by omega) (by omega), show j.toNat = (j - 1).toNat + 1 by omega]
            rfl
    · rintro n ⟨w2, k, τ⟩ q1 ⟨s2, hk, hp, hn, h5, h67⟩
      dsimp only at s2 hk hp hn h5 h67 ⊢
      have : (PT Q F).length = (PT Q k).length + τ.length := by rw [hp, List.length_append]
      omega
/-- the search is done: the states that come, and the way to the trap -/
def SD (w : mm_M) (trap : Int) (Q : List (Int × Int)) : Prop := QC w trap Q ∧ (0 ≤ w 77 0 10 → RW w (PT Q (w 77 0 10)))
abbrev seL : List (Nat × Option Int) := [(57, none), (58, none), (59, none), (65, none), (66, some 5), (67, none), (77, some 9), (77, some 10), (78, none), (79, none), (81, none), (83, none), (85, none)]
set_option maxRecDepth 100000 in
theorem ev_c_search (hO : PO np trap nv nc ne c e) (hP : PC w np trap nv nc ne c e f) (hM : MM w nv nc c f) (hD : OD w nv) (hS : FS w c f nv nc) (hF : FF w c e nv nc ne) (hH : HL w lk) : mm_Ev K_X2_search (0, 0) [.inr (some (77, 0))] (PH r y) w (fun a b' w' => a = none ∧ b' = PH r y ∧ sm seL w w' ∧ SD w' trap (MQ_ c e f lk nv nc ne) ∧ (∀ x, 0 ≤ x → x < ne → LE w' c e nv nc x) ∧ FF w' c e nv nc ne) := by
  refine ev_intro ok_X2_search mo_X2_search (Nat.le_of_ble_eq_true rfl) (fun hrg has => ?_)
  have hnc := hO.2.2.2.1
  have hne := hO.2.2.2.2.1
  have hnp := hO.1
  refine k_gp rfl rfl trivial ?_
  refine k_call0 rfl (ev_c_renew hO hP hM hD hF) rfl rfl rfl (by decide) ?_
  rintro a b' w1 ⟨rfl, rfl, s1, hE1, hF1⟩
  refine k_gp rfl rfl trivial ?_
  refine k_callp rfl (ev_empty (g := 80) (N := 64) (by unfold NSL; decide)) rfl rfl rfl (by decide) ?_
  refine k_gp rfl rfl (by simp only [true_and, mm_fits]; omega) ?_
  have s2 : sm [(77, some 9), (77, some 10), (81, none)] w1 (mm_up (mm_up (arrw w1 81 0 64 (fun _ => 0)) 77 0 9 0) 77 0 10 (-4)) := sm_up (sm_up (sm_arrw sm_rf (by decide)) (Or.inr (by decide))) (Or.inr (by decide))
  have z81 : ∀ u, 0 ≤ u → u < 2048 → nsB (mm_up (mm_up (arrw w1 81 0 64 (fun _ => 0)) 77 0 9 0) 77 0 10 (-4)) 81 u = false := fun u a b => by
    rw [nsB_sm (L := [(77, none)]) (sm_up (sm_up sm_rf (Or.inl List.mem_cons_self)) (Or.inl List.mem_cons_self)) (fun _ => rfl)]
    exact nsB_0 (by omega)
  have z9 : mm_up (mm_up (arrw w1 81 0 64 (fun _ => 0)) 77 0 9 0) 77 0 10 (-4) 77 0 9 = 0 := (up_k (by decide)).trans up_s
  have z10 : mm_up (mm_up (arrw w1 81 0 64 (fun _ => 0)) 77 0 9 0) 77 0 10 (-4) 77 0 10 = -4 := up_s
  generalize mm_up (mm_up (arrw w1 81 0 64 (fun _ => 0)) 77 0 9 0) 77 0 10 (-4) = w2 at *
  have s3 : sm seL w w2 := sm_tr (sm_w s1 (by decide)) (sm_w s2 (by decide))
  have hH2 : HL w2 lk := HL_sm s3 (fun _ => rfl) hH
  have hE2 : ∀ x, 0 ≤ x → x < ne → LE w2 c e nv nc x := fun x a b => LE_sm s2 (fun _ => rfl) (hE1 x a b)
  obtain ⟨l0, l0r⟩ := hH2 0 (by decide) (by decide)
  have hQ2 : QC w2 trap [] := ⟨z9, (fun k a b => absurd b (by show ¬ k < 0; omega)), (fun s a b => ⟨(fun z => by rw [z81 s a b] at z; cases z), (fun z => by cases z)⟩), (by rw [cnt_0 (fun i a b => z81 i a (by omega))]; rfl), Or.inl ⟨z10, (fun j a b => absurd b (by show ¬ j < 0; omega))⟩⟩
  rw [l0]
  refine k_call0 rfl (ev_c_putFirst_84 l0r) rfl rfl rfl (by decide) ?_
  rintro a b' w3 ⟨rfl, rfl, s4, h85⟩
  have hS2 : FS w2 c f nv nc := fun u a b => by rw [nsB_sm s3 (fun _ => rfl)]; exact hS u a b
  have h85 : ∀ u, 0 ≤ u → u < 256 → (nsB w3 85 u = true ↔ fcB c f lk nv nc u = true) := fun u a b => (h85 u a b).trans (fc_iff hS2 hnc l0r)
  have s5 : sm seL w w3 := sm_tr s3 (sm_w s4 (by decide))
  have hH3 : HL w3 lk := HL_sm s5 (fun _ => rfl) hH
  have hP3 : PC w3 np trap nv nc ne c e f := PC_sm s5 rfl (fun _ => rfl) hP
  have hl3 := (hH3 0 (by decide) (by decide)).1
  refine k_gp rfl rfl trivial ?_
  refine k_call0 rfl (ev_c_addAll (S := fcB c f lk nv nc) (Q := []) (by omega) (by rw [hl3]; exact l0r) hP3.1.2.1 h85 (fun u a b z => ?_) (QC_sm s4 rfl (fun _ => rfl) hQ2)) rfl rfl rfl (by decide) ?_
  · obtain ⟨all, p1, p2, p3⟩ := fcB_iff.mp z
    rw [← p3, hl3]
    exact cub_sub hnc l0r
  rintro a b' w4 ⟨rfl, rfl, s6, hQ4⟩
  rw [show (256 : Int) * 0 = 0 from rfl] at hQ4
  have s7 : sm seL w w4 := sm_tr s5 (sm_w s6 (by decide))
  have hE4 : ∀ x, 0 ≤ x → x < ne → LE w4 c e nv nc x := fun x a b => LE_sm s6 (fun _ => rfl) (LE_sm s4 (fun _ => rfl) (hE2 x a b))
  have hF4 : FF w4 c e nv nc ne := by
    have e59 : w4 59 0 = w1 59 0 := funext fun k => (s6 59 0 k rfl).trans ((s4 59 0 k rfl).trans (s2 59 0 k rfl))
    intro x a b z
    rw [e59] at z ⊢
    exact LE_sm s6 (fun _ => rfl) (LE_sm s4 (fun _ => rfl) (LE_sm s2 (fun _ => rfl) (hF1 x a b z)))
  have hQW := QW_MQ (c := c) (e := e) (f := f) (lk := lk) (nv := nv) (nc := nc) hne
  have hMQ : MQ_ c e f lk nv nc ne = addK c e lk nv nc ne 2049 0 (addC [] 0 (fcB c f lk nv nc) (-1) 256) := rfl
  generalize addC [] 0 (fcB c f lk nv nc) (-1) 256 = Q0 at *
  generalize MQ_ c e f lk nv nc ne = QQ at *
  refine k_gp rfl rfl trivial ?_
  have fin : ∀ w5 Q l1, sm seL w w5 → (∀ x, 0 ≤ x → x < ne → LE w5 c e nv nc x) → FF w5 c e nv nc ne → QC w5 trap Q → Q = QQ → mm_Wk K_X2_search (0, 0) 76 [some (.inr (some (77, 0))), l1] [] (PH r y) w5 (fun a b' w' => a = none ∧ b' = PH r y ∧ sm seL w w' ∧ SD w' trap QQ ∧ (∀ x, 0 ≤ x → x < ne → LE w' c e nv nc x) ∧ FF w' c e nv nc ne) := fun w5 Q l1 t1 t2 t3 t4 t5 => by
    subst t5
    refine k_gp rfl rfl trivial ?_
    refine k_call0 rfl (ev_c_tracePath t4 hQW hne) rfl rfl rfl (by decide) ?_
    rintro a b' w6 ⟨rfl, rfl, s8, hR⟩
    have e10 : w6 77 0 10 = w5 77 0 10 := s8 77 0 10 rfl
    have e59 : w6 59 0 = w5 59 0 := funext fun k => s8 59 0 k rfl
    refine k_ret rfl trivial ⟨rfl, rfl, sm_tr t1 (sm_w s8 (by decide)), ⟨QC_sm s8 rfl (fun _ => rfl) t4, by rw [e10]; exact hR⟩, fun x a b => LE_sm s8 (fun _ => rfl) (t2 x a b), fun x a b z => ?_⟩
    rw [e59] at z ⊢
    exact LE_sm s8 (fun _ => rfl) (t3 x a b z)
  refine mm_loop (σ := mm_M × List (Int × Int)) 2048 (fun i s => (0 ≤ i ∧ i ≤ 2048) ∧ sm seL w s.1 ∧ (∀ x, 0 ≤ x → x < ne → LE s.1 c e nv nc x) ∧ FF s.1 c e nv nc ne ∧ QC s.1 trap s.2 ∧ QQ = addK c e lk nv nc ne (2049 - i.toNat) i.toNat s.2) (fun i s => mm_Wk K_X2_search (0, 0) 50 [some (.inr (some (77, 0))), some (.inl i)] [] (PH r y) s.1 (fun a b' w' => a = none ∧ b' = PH r y ∧ sm seL w w' ∧ SD w' trap QQ ∧ (∀ x, 0 ≤ x → x < ne → LE w' c e nv nc x) ∧ FF w' c e nv nc ne)) ?_ ?_ 0 (w4, Q0) ⟨by omega, s7, hE4, hF4, hQ4, hMQ⟩
  · rintro i ⟨w5, Q⟩ q1 ⟨q2, t1, t2, t3, t4, t5⟩ ih
    dsimp only at t1 t2 t3 t4 t5 ⊢
    have h9 := t4.1
    have hst : addK c e lk nv nc ne (2049 - i.toNat) i.toNat Q = if i.toNat < Q.length then addK c e lk nv nc ne (2048 - i.toNat) (i.toNat + 1) (addX c e lk nv nc Q i.toNat ne.toNat) else Q := by
      rw [show 2049 - i.toNat = (2048 - i.toNat) + 1 by omega]
      rfl
    refine k_gp rfl rfl trivial ?_
    refine k_brf rfl (by omega) ?_
    refine k_gp rfl rfl trivial ?_
    rw [h9]
    refine k_br rfl (fun g => ?_) (fun g => ?_)
    · rw [if_neg (by omega)] at hst
      exact fin w5 Q _ t1 t2 t3 t4 (by rw [t5, hst])
    · rw [if_pos (by omega), show ((i.toNat : Nat) : Int) = i by omega] at hst
      refine k_gp rfl rfl trivial ?_
      refine k_call0 rfl (ev_c_goOn (lk := lk) hO (PC_sm t1 rfl (fun _ => rfl) hP) (HL_sm t1 (fun _ => rfl) hH) t2 t4 (by omega)) rfl rfl rfl (by decide) ?_
      rintro a b' w6 ⟨rfl, rfl, s8, t6⟩
      have e59 : w6 59 0 = w5 59 0 := funext fun k => s8 59 0 k rfl
      refine k_gp rfl rfl (by simp only [true_and, mm_fits]; omega) ?_
      refine ih (w6, addX c e lk nv nc Q i ne.toNat) ⟨by omega, sm_tr t1 (sm_w s8 (by decide)), (fun x a b => LE_sm s8 (fun _ => rfl) (t2 x a b)), (fun x a b z => ?_), t6, ?_⟩
      · dsimp only at z ⊢
        rw [e59] at z ⊢
        exact LE_sm s8 (fun _ => rfl) (t3 x a b z)
      · dsimp only
        rw [t5, hst, show 2049 - (i + 1).toNat = 2048 - i.toNat by omega, show (i + 1).toNat = i.toNat + 1 by omega]
  · rintro i ⟨w5, Q⟩ q1 ⟨q2, t1, t2, t3, t4, t5⟩
    dsimp only at t1 t2 t3 t4 t5 ⊢
    have hi : i = 2048 := by omega
    subst hi
    have hle := QC_le t4
    refine k_gp rfl rfl trivial ?_
    refine k_brt rfl (by omega) ?_
    refine fin w5 Q _ t1 t2 t3 t4 ?_
    rw [t5]
    show Q = if (2048 : Int).toNat < Q.length then _ else Q
    rw [if_neg (by show ¬ 2048 < Q.length; omega)]
end MC
