/-! ===== the class: path(), mend(), check(), count() ===== -/
section PR
variable {w : mm_M} {trap ne : Int} {Q : List (Int × Int)}
/-- where the path ends -/
theorem QC_FT (h : QC w trap Q) : (w 77 0 10 = -4 ∧ FT Q trap Q.length) ∨ ((0 ≤ w 77 0 10 ∧ w 77 0 10 < Q.length) ∧ FT Q trap (w 77 0 10)) := by
  rcases h.2.2.2.2 with ⟨a, b⟩ | z
  · exact Or.inl ⟨a, ⟨by omega, Int.le_refl _⟩, fun j p q => b j p q, fun z => absurd z (Int.lt_irrefl _)⟩
  · exact Or.inr z
end PR
section MC
variable {r : Bool × Bool} {y : Bool} {w : mm_M} {np trap nv nc ne : Int} {c e : Int → Int → Int} {f lk : Int → Int} {d : Int} {hl : Int → Int → Int} {hw : Int → Int} {t : Int → Int} {n : Int}
theorem ev_c_path0 {i : Int} (hi : i < -2) : mm_Ev K_X9_path (0, 0) [.inr (some (21, 0)), .inl i] (PH r y) w (mm_pe (some (.inl (-1))) (PH r y) w) := by
  refine ev_intro ok_X9_path mo_X9_path (Nat.le_of_ble_eq_true rfl) (fun hrg has => ?_)
  refine k_gp rfl rfl (by first | trivial | decide | (simp only [true_and, mm_fits]; omega)) ?_
  refine k_brf rfl (by omega) ?_
  refine k_gp rfl rfl (by first | trivial | decide | (simp only [true_and, mm_fits]; omega)) ?_
  exact k_ret rfl (by decide) ⟨rfl, rfl, rfl⟩
set_option maxRecDepth 100000 in
theorem ev_c_path {i : Int} (h : CS w r y np trap nv nc ne c e f lk d hl hw t n) (hi : -2 ≤ i) : mm_Ev K_X9_path (nM y) [.inr (some (21, 0)), .inl i] (PH r y) w (fun a b' w' => b' = PH r true ∧ sm nmL w w' ∧ CS w' r true np trap nv nc ne c e f lk d hl hw t n ∧ ∃ z, a = some (.inl z) ∧ PA c e f nv trap (MQ_ c e f lk nv nc ne) i z) := by
  refine ev_intro ok_X9_path mo_X9_path (Nat.le_of_ble_eq_true rfl) (fun hrg has => ?_)
  refine k_gp rfl rfl (by first | trivial | decide | (simp only [true_and, mm_fits]; omega)) ?_
  refine k_brt rfl (by omega) ?_
  refine k_gp rfl rfl (by first | trivial | decide | (simp only [true_and, mm_fits]; omega)) ?_
  refine k_call (n1 := (0, 0)) rfl (ev_c_newMay h) rfl rfl rfl (by decide) (nz _) ?_
  rintro a b' w1 ⟨rfl, rfl, s1, hC, e8⟩
  obtain ⟨hSD, hLE⟩ := hC.1.2.2.2.2.2 e8
  have hO := hC.1.1.1
  have hQW := QW_MQ (c := c) (e := e) (f := f) (lk := lk) (nv := nv) (nc := nc) hO.2.2.2.2.1
  have hFT := QC_FT hSD.1
  have hR := hSD.2
  generalize hQQ : MQ_ c e f lk nv nc ne = Q at *
  refine k_gp rfl rfl (by first | trivial | decide | (simp only [true_and, mm_fits]; omega)) ?_
  refine k_callp rfl ev_c_isSafe rfl rfl rfl (by decide) ?_
  refine k_brz rfl (fun q => ?_) (fun q => ?_)
  · obtain ⟨hk, hFT⟩ := hFT.resolve_left (fun z => q z.1)
    have hR := hR hk.1
    obtain ⟨p1, p2, p3⟩ := PT_ok hQW ((w1 77 0 10).toNat + 1) (w1 77 0 10) hk.1 hk.2 (by omega)
    generalize w1 77 0 10 = k at *
    generalize hρ : PT Q k = ρ at *
    have hlen := hR.2.1
    have mkPA : ∀ z, (i = -2 → FAR c e f nv ρ z) → (i = -1 → z = ρ.length) → (0 ≤ i → (i < ρ.length → ρ[i.toNat]? = some z) ∧ ((ρ.length : Int) ≤ i → z = -4)) → PA c e f nv trap Q i z := fun z a b c1 => ⟨fun o => by omega, fun _ => ⟨k, hFT, fun o => absurd hk.2 o, fun _ => by rw [hρ]; exact ⟨a, b, c1⟩⟩⟩
    refine k_gp rfl rfl (by first | trivial | decide | (simp only [true_and, mm_fits]; omega)) ?_
    refine k_callp rfl ev_c_way rfl rfl rfl (by decide) ?_
    refine k_gp rfl rfl (by first | trivial | decide | (simp only [true_and, mm_fits]; omega)) ?_
    refine k_br rfl (fun q2 => ?_) (fun q2 => ?_)
    · refine k_gp rfl rfl (by first | trivial | decide | (simp only [true_and, mm_fits]; omega)) ?_
      have ev := ev_c_wlength (r := r) (y := true) (w := w1)
      rw [hR.1] at ev
      refine k_br rfl (fun q3 => ?_) (fun q3 => ?_)
      · refine k_gp rfl rfl (by first | trivial | decide | (simp only [true_and, mm_fits]; omega)) ?_
        refine k_callp rfl ev rfl rfl rfl (by decide) ?_
        refine k_br rfl (fun q4 => ?_) (fun q4 => ?_)
        · refine k_gp rfl rfl (by first | trivial | decide | (simp only [true_and, mm_fits]; omega)) ?_
          exact k_ret rfl (by decide) ⟨rfl, s1, hC, -4, rfl, mkPA _ (fun z => by omega) (fun z => by omega) (fun _ => ⟨fun z => by omega, fun _ => rfl⟩)⟩
        · refine k_gp rfl rfl (by first | trivial | decide | (simp only [true_and, mm_fits]; omega)) ?_
          have hi2 : 0 ≤ i ∧ i < ρ.length := by omega
          have ev3 := ev_c_edgeAt (r := r) (y := true) (w := w1) (i := i) (by rw [hR.1]; omega)
          rw [hR.1, hR.2.2 i hi2.1 hi2.2] at ev3
          refine k_callp rfl ev3 rfl rfl rfl (by decide) ?_
          refine k_gp rfl rfl (by first | trivial | decide | (simp only [true_and, mm_fits]; omega)) ?_
          refine k_ret rfl trivial ⟨rfl, s1, hC, _, rfl, mkPA _ (fun z => by omega) (fun z => by omega) (fun _ => ⟨fun _ => ?_, fun z => by omega⟩)⟩
          rw [List.getD_eq_getElem?_getD, List.getElem?_eq_getElem (by omega)]
          rfl
      · have q3 : i = -1 := Classical.byContradiction q3
        refine k_gp rfl rfl (by first | trivial | decide | (simp only [true_and, mm_fits]; omega)) ?_
        refine k_callp rfl ev rfl rfl rfl (by decide) ?_
        exact k_ret rfl trivial ⟨rfl, s1, hC, _, rfl, mkPA _ (fun z => by omega) (fun _ => rfl) (fun z => by omega)⟩
    · have q2 : i = -2 := Classical.byContradiction q2
      refine k_gp rfl rfl (by first | trivial | decide | (simp only [true_and, mm_fits]; omega)) ?_
      refine k_call0 rfl (ev_c_far hO hC.1.1.2.1 hC.1.1.2.2.1 hR p2) rfl rfl rfl (by decide) ?_
      rintro a b' w2 ⟨rfl, s2, z, rfl, hz⟩
      exact k_ret rfl trivial ⟨rfl, sm_tr s1 (sm_w s2 (by decide)), CS_sc (sm_w s2 (by decide)) hC, z, rfl, mkPA _ (fun _ => hz) (fun z => by omega) (fun z => by omega)⟩
  · have hFT2 : FT Q trap Q.length := by
      rcases hFT with z | z
      · exact z.2
      · omega
    refine k_gp rfl rfl (by first | trivial | decide | (simp only [true_and, mm_fits]; omega)) ?_
    exact k_ret rfl (by decide) ⟨rfl, s1, hC, -4, rfl, fun o => by omega, fun _ => ⟨_, hFT2, fun _ => rfl, fun o => absurd o (Int.lt_irrefl _)⟩⟩
/-- the set by which the path is mended -/
def SM (c e : Int → Int → Int) (f lk : Int → Int) (nv nc ne trap z : Int) : Prop := ∃ z0, HOW c e f nv trap (MQ_ c e f lk nv nc ne) z0 ∧ (z0 = 0 ∨ z0 = 1 ∨ z0 = 2) ∧ (z0 ≠ 2 → z = -2) ∧ (z0 = 2 → ∃ k, FT (MQ_ c e f lk nv nc ne) trap k ∧ (0 ≤ k ∧ k < ((MQ_ c e f lk nv nc ne).length : Int)) ∧ SF nc (fun s => EN c e f (fun p => mm_or (lk p) s) nv nc (PT (MQ_ c e f lk nv nc ne) k)) z)
set_option maxRecDepth 100000 in
theorem ev_c_setThatMends (hC : CS w r true np trap nv nc ne c e f lk d hl hw t n) (e8 : w 21 0 8 = 0) : mm_Ev K_X9_setThatMends (0, 0) [.inr (some (77, 0))] (PH r true) w (fun a b' w' => b' = PH r true ∧ sm scL w w' ∧ ∃ z, a = some (.inl z) ∧ SM c e f lk nv nc ne trap z) := by
  refine ev_intro ok_X9_setThatMends mo_X9_setThatMends (Nat.le_of_ble_eq_true rfl) (fun hrg has => ?_)
  obtain ⟨hSD, hLE⟩ := hC.1.2.2.2.2.2 e8
  have hFS := (hC.1.2.2.2.2.1 rfl).2.1
  have hO := hC.1.1.1
  have hQW := QW_MQ (c := c) (e := e) (f := f) (lk := lk) (nv := nv) (nc := nc) hO.2.2.2.2.1
  have hFT := QC_FT hSD.1
  have hR := hSD.2
  unfold SM
  generalize hQQ : MQ_ c e f lk nv nc ne = Q at *
  have J17 : ∀ w1 z0, sm scL w w1 → (z0 = 0 ∨ z0 = 1) → HOW c e f nv trap Q z0 → mm_Wk K_X9_setThatMends (0, 0) 17 [some (.inr (some (77, 0)))] [] (PH r true) w1 (fun a b' w' => b' = PH r true ∧ sm scL w w' ∧ ∃ z, a = some (.inl z) ∧ ∃ z0, HOW c e f nv trap Q z0 ∧ (z0 = 0 ∨ z0 = 1 ∨ z0 = 2) ∧ (z0 ≠ 2 → z = -2) ∧ (z0 = 2 → ∃ k, FT Q trap k ∧ (0 ≤ k ∧ k < (Q.length : Int)) ∧ SF nc (fun s => EN c e f (fun p => mm_or (lk p) s) nv nc (PT Q k)) z)) := fun w1 z0 s1 hz hH => by
    refine k_gp rfl rfl (by first | trivial | decide | (simp only [true_and, mm_fits]; omega)) ?_
    exact k_ret rfl (by decide) ⟨rfl, s1, -2, rfl, z0, hH, by omega, fun _ => rfl, fun z => by omega⟩
  refine k_gp rfl rfl (by first | trivial | decide | (simp only [true_and, mm_fits]; omega)) ?_
  refine k_callp rfl ev_c_isSafe rfl rfl rfl (by decide) ?_
  refine k_brn rfl (fun q => ?_) (fun q => ?_)
  · have hFT2 : FT Q trap Q.length := by
      rcases hFT with z | z
      · exact z.2
      · omega
    exact J17 w 0 sm_rf (Or.inl rfl) ⟨_, hFT2, fun _ => rfl, fun o => absurd o (Int.lt_irrefl _)⟩
  · obtain ⟨hk, hFT⟩ := hFT.resolve_left (fun z => q z.1)
    have hR := hR hk.1
    obtain ⟨p1, p2, p3⟩ := PT_ok hQW ((w 77 0 10).toNat + 1) (w 77 0 10) hk.1 hk.2 (by omega)
    generalize w 77 0 10 = k at *
    refine k_gp rfl rfl (by first | trivial | decide | (simp only [true_and, mm_fits]; omega)) ?_
    refine k_callp rfl ev_c_way rfl rfl rfl (by decide) ?_
    refine k_call0 rfl (ev_c_isReal hO hC.1.1.2.1 hC.1.1.2.2.1 hR p2) rfl rfl rfl (by decide) ?_
    rintro a b' w1 ⟨rfl, s1, F, rfl, hF⟩
    refine k_brz rfl (fun q2 => ?_) (fun q2 => ?_)
    · refine k_gp rfl rfl (by first | trivial | decide | (simp only [true_and, mm_fits]; omega)) ?_
      refine k_callp rfl ev_c_way rfl rfl rfl (by decide) ?_
      have hR1 : RW w1 (PT Q k) := ⟨(s1 66 0 5 rfl).trans hR.1, hR.2.1, fun j a b => (s1 67 0 _ rfl).trans (hR.2.2 j a b)⟩
      refine k_call0 rfl (ev_c_leastSet (lk := lk) hO (PC_sm s1 rfl (fun _ => rfl) hC.1.1.2.1) (fun u a b => by rw [nsB_sm s1 (fun _ => rfl)]; exact hFS u a b) (fun x a b => LE_sm s1 (fun _ => rfl) (hLE x a b)) (HL_sm s1 (fun _ => rfl) hC.1.1.2.2.2) hR1 p2 p3) rfl rfl rfl (by decide) ?_
      rintro a b' w2 ⟨rfl, s2, z, rfl, hz⟩
      exact k_ret rfl trivial ⟨rfl, sm_tr (sm_w s1 (by decide)) (sm_w s2 (by decide)), z, rfl, 2, ⟨k, hFT, fun o => absurd hk.2 o, fun _ => ⟨F, hF, fun o => absurd o q2, fun _ => rfl⟩⟩, by omega, fun o => absurd rfl o, fun _ => ⟨k, hFT, hk, hz⟩⟩
    · exact J17 w1 1 (sm_w s1 (by decide)) (Or.inr rfl) ⟨k, hFT, fun o => absurd hk.2 o, fun _ => ⟨F, hF, fun _ => rfl, fun o => absurd q2 o⟩⟩
set_option maxRecDepth 100000 in
theorem ev_c_lookOnPath {ρ : List Int} {set : Int} (hC : CS w r true np trap nv nc ne c e f lk d hl hw t n) (hR : RW w ρ) (hρ : ∀ x ∈ ρ, 0 ≤ x ∧ x < ne) (hs : 0 ≤ set ∧ set < 256) : mm_Ev K_X9_lookOnPath (0, 0) [.inr (some (21, 0)), .inr (some (77, 0)), .inl set] (PH r true) w (fun a b' w' => a = none ∧ b' = PH r true ∧ lowS w w' ∧ w' 21 0 8 = 1 ∧ CS w' r true np trap nv nc ne c e f (lkU e lk ρ set) d hl hw t n) := by
  refine ev_intro ok_X9_lookOnPath mo_X9_lookOnPath (Nat.le_of_ble_eq_true rfl) (fun hrg has => ?_)
  have hO := hC.1.1.1
  have hP := hC.1.1.2.1
  have hH := hC.1.1.2.2.2
  have hnp := hO.1
  refine k_gp rfl rfl (by first | trivial | decide | (simp only [true_and, mm_fits]; omega)) ?_
  refine k_callp rfl ev_c_way rfl rfl rfl (by decide) ?_
  refine k_call0 rfl (ev_c_places hO hP hR hρ) rfl rfl rfl (by decide) ?_
  rintro a b' w' ⟨rfl, rfl, pl, rfl, hpl, hpb⟩
  refine k_gp rfl rfl (by first | trivial | decide | (simp only [true_and, mm_fits]; omega)) ?_
  have hoff : ∀ p, np ≤ p → lkU e lk ρ set p = lk p := fun p hp => by
    unfold lkU
    rw [if_neg]
    unfold onP
    rw [Bool.or_eq_true, decide_eq_true_eq, List.any_eq_true]
    rintro (z | ⟨x, hx, z⟩)
    · omega
    · have := (hO.2.2.2.2.2.2 x (hρ x hx).1 (hρ x hx).2).2.1
      have z := of_decide_eq_true z
      omega
  refine mm_loop (σ := mm_M) np (fun i w1 => (0 ≤ i ∧ i ≤ np) ∧ sm [(42, none)] w' w1 ∧ ∀ p, 0 ≤ p → p < 8 → w1 42 0 p = if p < i then lkU e lk ρ set p else lk p) (fun i w1 => mm_Wk K_X9_lookOnPath (0, 0) 11 [some (.inr (some (21, 0))), some (.inr (some (77, 0))), some (.inl set), some (.inl pl), some (.inl i)] [] (PH r true) w1 (fun a b' w2 => a = none ∧ b' = PH r true ∧ lowS w' w2 ∧ w2 21 0 8 = 1 ∧ CS w2 r true np trap nv nc ne c e f (lkU e lk ρ set) d hl hw t n)) ?_ ?_ 0 w' ⟨by omega, sm_rf, fun p a b => by rw [if_neg (by omega)]; exact (hH p a b).1⟩
  · rintro i w1 q1 ⟨q2, s1, q3⟩ ih
    have n0 : w1 32 0 0 = np := (s1 32 0 0 rfl).trans hP.1.1
    have hb1 := hb_eq (L := pl) (g := i) (by omega) (by omega)
    have hb2 : hb pl i ↔ pl / ((2 ^ i.toNat : Nat) : Int) % 2 = 1 := Iff.rfl
    have l42 : w1 42 0 i = lk i := by rw [q3 i q2.1 (by omega), if_neg (by omega)]
    refine k_gp rfl rfl (by first | trivial | decide | (simp only [true_and, mm_fits]; omega)) ?_
    rw [n0]
    refine k_brf rfl (by omega) ?_
    refine k_gp rfl rfl (by first | trivial | decide | (simp only [true_and, mm_fits]; omega)) ?_
    rw [hb1]
    refine k_br rfl (fun g => ?_) (fun g => ?_)
    · rw [← hb2, hpb i (by omega) (by omega)] at g
      refine k_gp rfl rfl (by simp only [true_and, mm_fits]; omega) ?_
      refine ih w1 ⟨by omega, s1, fun p a b => ?_⟩
      rw [q3 p a b]
      by_cases hpi : p = i
      · rw [if_neg (by omega), if_pos (by omega), hpi]
        exact (if_neg g).symm
      · by_cases hp2 : p < i
        · rw [if_pos hp2, if_pos (by omega)]
        · rw [if_neg hp2, if_neg (by omega)]
    · have g := Classical.byContradiction g
      rw [← hb2, hpb i (by omega) (by omega)] at g
      refine k_gp rfl rfl (by simp only [true_and, mm_fits]; omega) ?_
      rw [l42]
      refine k_gp rfl rfl (by simp only [true_and, mm_fits]; omega) ?_
      refine ih _ ⟨by omega, sm_up s1 (Or.inl List.mem_cons_self), fun p a b => ?_⟩
      rw [up_at]
      by_cases hpi : p = i
      · rw [if_pos hpi, if_pos (by omega), hpi]
        exact (if_pos g).symm
      · rw [if_neg hpi, q3 p a b]
        by_cases hp2 : p < i
        · rw [if_pos hp2, if_pos (by omega)]
        · rw [if_neg hp2, if_neg (by omega)]
  · rintro i w1 q1 ⟨q2, s1, q3⟩
    have n0 : w1 32 0 0 = np := (s1 32 0 0 rfl).trans hP.1.1
    refine k_gp rfl rfl (by first | trivial | decide | (simp only [true_and, mm_fits]; omega)) ?_
    rw [n0]
    refine k_brt rfl (by omega) ?_
    refine k_gp rfl rfl (by first | trivial | decide | (simp only [true_and, mm_fits]; omega)) ?_
    have s2 : sm [(42, none), (21, some 8)] w' (mm_up w1 21 0 8 1) := sm_up (sm_w s1 (by decide)) (Or.inr (by decide))
    have e8 : mm_up w1 21 0 8 1 21 0 8 = 1 := up_s
    have e7 : mm_up w1 21 0 8 1 21 0 7 = w' 21 0 7 := (up_k (by decide)).trans (s1 21 0 7 rfl)
    have e42 : ∀ p, mm_up w1 21 0 8 1 42 0 p = w1 42 0 p := fun p => up_g rfl
    generalize mm_up w1 21 0 8 1 = w2 at *
    obtain ⟨⟨⟨k1, k2, k3', k4⟩, ⟨f1, f2⟩, ⟨g1, g2⟩, -, k6, -⟩, kH, kX⟩ := hC
    refine k_ret rfl trivial ⟨rfl, rfl, low_sm s2 rfl, e8, ⟨⟨k1, PC_sm s2 rfl (fun _ => rfl) k2, MM_sm s2 rfl (fun _ => rfl) k3', fun p a b => ?_⟩, ⟨by rw [e7]; exact f1, Or.inr e8⟩, ⟨by rw [e7]; exact g1, fun z => ?_⟩, fun _ => e8, fun z => LV_sm s2 (fun _ => rfl) (k6 z), fun z => by rw [e8] at z; exact absurd z (by decide)⟩, HI_sm s2 rfl (fun _ => rfl) kH, CX_sm kX s2 (fun _ => rfl) rfl⟩
    · rw [e42, q3 p a b]
      refine ⟨?_, ?_⟩
      · by_cases hp : p < i
        · rw [if_pos hp]
        · rw [if_neg hp, hoff p (by omega)]
      · unfold lkU
        split
        · exact or_in (k4 p a b).2 hs
        · exact (k4 p a b).2
    · rw [e7] at z
      obtain ⟨Q, o1, o2⟩ := g2 z
      exact ⟨Q, RK_sm2 s2 rfl (fun _ => rfl) o1, o2⟩
theorem SF_in {E : Int → Prop} {z : Int} (hnc : nc ≤ 8) (h : SF nc E z) : z = -4 ∨ (1 ≤ z ∧ z < 256) := by
  rcases h with h | h
  · exact Or.inl h.1
  · have h8 : 2 ^ nc.toNat ≤ 2 ^ 8 := Nat.pow_le_pow_right (by decide) (by omega)
    exact Or.inr ⟨h.1.1, Int.lt_of_lt_of_le h.1.2 (Int.ofNat_le.mpr h8)⟩
end MC
