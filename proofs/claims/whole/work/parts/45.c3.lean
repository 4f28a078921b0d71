/-! ===== the class: what comparisons and edges mean ===== -/
/-- the class's program is this one -/
def PC (w : mm_M) (np trap nv nc ne : Int) (c e : Int → Int → Int) (f : Int → Int) : Prop := (w 32 0 0 = np ∧ w 32 0 1 = trap ∧ w 32 0 2 = nv ∧ w 32 0 3 = nc ∧ w 32 0 4 = ne) ∧ (∀ v, 0 ≤ v → v < nv → w 33 0 v = f (2 * v) ∧ w 34 0 v = f (2 * v + 1)) ∧ (∀ g k, 0 ≤ g → g < nc → 0 ≤ k → k < 3 → w 36 g k = c g k) ∧ (∀ x k, 0 ≤ x → x < ne → 0 ≤ k → k < 7 → w 38 x k = e x k)
/-- it is one that a text may tell -/
def PO (np trap nv nc ne : Int) (c e : Int → Int → Int) : Prop := (2 ≤ np ∧ np ≤ 8) ∧ (0 ≤ trap ∧ trap < np) ∧ (0 ≤ nv ∧ nv ≤ 3) ∧ (0 ≤ nc ∧ nc ≤ 8) ∧ (0 ≤ ne ∧ ne ≤ 14) ∧ (∀ g, 0 ≤ g → g < nc → cOK c g nv) ∧ (∀ x, 0 ≤ x → x < ne → eOK e x np nc nv)
/-- all comparisons that are so -/
def SO (c : Int → Int → Int) (nc all : Int) : Int := ((bts (fun g => soB c g all) nc.toNat : Nat) : Int)
theorem or00 {L : Int} (h : 0 ≤ L ∧ L < 2147483648) : mm_or L 0 = L := by
  obtain ⟨n, rfl⟩ := Int.eq_ofNat_of_zero_le h.1
  have := bb_or (x := n) (y := 0) (by omega) (by decide)
  rw [Nat.or_zero] at this
  exact this
section MC
variable {r : Bool × Bool} {y : Bool} {w : mm_M} {np trap nv nc ne : Int} {c e : Int → Int → Int} {f : Int → Int}
theorem ev_c_valueOf {all v : Int} (ha : 0 ≤ all ∧ all < 2147483648) (hv : 0 ≤ v ∧ v ≤ 2) : mm_Ev K_X3_valueOf (0, 0) [.inl all, .inl v] (PH r y) w (mm_pe (some (.inl (vl all v))) (PH r y) w) := by
  refine ev_intro ok_X3_valueOf mo_X3_valueOf (Nat.le_of_ble_eq_true rfl) (fun hrg has => ?_)
  repeat' (first
    | refine k_brt rfl (by decide) ?_
    | refine k_brf rfl (by decide) ?_
    | refine k_brz rfl (fun _ => ?_) (fun _ => ?_)
    | refine k_brn rfl (fun _ => ?_) (fun _ => ?_)
    | refine k_br rfl (fun _ => ?_) (fun _ => ?_)
    | refine k_ret rfl ?_ ⟨?_, rfl, rfl⟩
    | refine k_ts rfl rfl ?_ (fun _ => ?_)
    | refine mm_tsc (fun _ => ?_) ?_
    | exact mm_tsn
    | refine k_gp rfl rfl ?_ ?_)
  all_goals (first | trivial | omega | (simp only [true_and, mm_fits]; omega) | (refine congrArg some (congrArg Sum.inl ?_); first | rfl | (rw [ib_t (by omega)]) | (rw [ib_f (by omega)]) | omega) | (rw [vl_eq ha hv]))
theorem ev_c_isSo {g all : Int} (ha : 0 ≤ all ∧ all < 512) (hg : 0 ≤ g ∧ g < 8) (hnv : nv ≤ 3) (hm : ∀ k, 0 ≤ k → k < 3 → w 36 g k = c g k) (hc : cOK c g nv) : mm_Ev K_X3_isSo (0, 0) [.inr (some (36, g)), .inl all] (PH r y) w (mm_pe (some (.inl (ib (soB c g all = true)))) (PH r y) w) := by
  refine ev_intro ok_X3_isSo mo_X3_isSo (Nat.le_of_ble_eq_true rfl) (fun hrg has => ?_)
  have m0 := hm 0 (by decide) (by decide)
  have m1 := hm 1 (by decide) (by decide)
  have m2 := hm 2 (by decide) (by decide)
  simp only [cOK, ← m0, ← m1, ← m2] at hc
  simp only [soB, sB, ← m0, ← m1, ← m2, decide_eq_true_eq]
  have v1 := vl_in all (w 36 g 1)
  have v2 := vl_in all (w 36 g 2)
  repeat' (first
    | refine k_brt rfl (by decide) ?_
    | refine k_brf rfl (by decide) ?_
    | refine k_brz rfl (fun _ => ?_) (fun _ => ?_)
    | refine k_brn rfl (fun _ => ?_) (fun _ => ?_)
    | refine k_br rfl (fun _ => ?_) (fun _ => ?_)
    | refine k_ret rfl ?_ ⟨?_, rfl, rfl⟩
    | refine k_callp rfl (ev_c_valueOf ?_ ?_) rfl rfl rfl (by decide) ?_
    | refine k_ts rfl rfl ?_ (fun _ => ?_)
    | refine mm_tsc (fun _ => ?_) ?_
    | exact mm_tsn
    | refine k_gp rfl rfl ?_ ?_)
  all_goals (first | trivial | omega | (simp only [true_and, mm_fits]; omega) | (refine congrArg some (congrArg Sum.inl ?_); first | rfl | (rw [ib_t (by omega)]) | (rw [ib_f (by omega)]) | omega))
theorem ev_c_findSos {all : Int} (ha : 0 ≤ all ∧ all < 512) (hO : PO np trap nv nc ne c e) (hP : PC w np trap nv nc ne c e f) : mm_Ev K_X3_findSos (0, 0) [.inr (some (39, 0)), .inl all] (PH r y) w (mm_pe (some (.inl (SO c nc all))) (PH r y) w) := by
  refine ev_intro ok_X3_findSos mo_X3_findSos (Nat.le_of_ble_eq_true rfl) (fun hrg has => ?_)
  obtain ⟨⟨p0, p1, p2, p3, p4⟩, -, hc, -⟩ := hP
  have hnc := hO.2.2.2.1
  have hnv := hO.2.2.1
  refine k_gp rfl rfl trivial ?_
  refine mm_loop (σ := Int) nc (fun g s => (0 ≤ g ∧ g ≤ nc) ∧ s = ((bts (fun g => soB c g all) g.toNat : Nat) : Int)) (fun g s => mm_Wk K_X3_findSos (0, 0) 4 [some (.inr (some (39, 0))), some (.inl all), some (.inl s), some (.inl g)] [] (PH r y) w (mm_pe (some (.inl (SO c nc all))) (PH r y) w)) ?_ ?_ 0 0 ⟨by omega, rfl⟩
  · intro g s h1 h2 ih
    obtain ⟨h2, h3⟩ := h2
    refine k_gp rfl rfl trivial ?_
    rw [p3]
    refine k_brf rfl (by omega) ?_
    refine k_gp rfl rfl (by simp only [true_and, mm_fits]; omega) ?_
    refine k_callp rfl (ev_c_isSo ha (by omega) hnv.2 (fun k a b => hc g k (by omega) (by omega) a b) (hO.2.2.2.2.2.1 g (by omega) (by omega))) rfl rfl rfl (by decide) ?_
    have e1 : ((g.toNat : Nat) : Int) = g := by omega
    refine k_brz rfl (fun q => ?_) (fun q => ?_)
    · have hst := bts_step (f := fun g : Nat => soB c g all) (v := 0) (by omega) h3 (by simp only [e1]; rw [if_neg q])
      refine k_gp rfl rfl (by simp only [true_and, mm_fits]; omega) ?_
      refine ih s ⟨by omega, ?_⟩
      rw [← hst, h3]
      refine (or00 ?_).symm
      have := bts_lt (fun g : Nat => soB c g all) g.toNat
      have : 2 ^ g.toNat ≤ 2 ^ 8 := Nat.pow_le_pow_right (by decide) (by omega)
      omega
    · have hst := bts_step (f := fun g : Nat => soB c g all) (v := ((2 ^ g.toNat : Nat) : Int)) (by omega) h3 (by simp only [e1]; rw [if_pos q])
      refine k_gp rfl rfl trivial ?_
      rw [shl1 (by omega), hst]
      refine k_gp rfl rfl (by simp only [true_and, mm_fits]; omega) ?_
      exact ih _ ⟨by omega, rfl⟩
  · intro g s h1 h2
    obtain ⟨h2, h3⟩ := h2
    have : g = nc := by omega
    subst this
    refine k_gp rfl rfl trivial ?_
    rw [p3]
    refine k_brt rfl (by omega) ?_
    refine k_gp rfl rfl trivial ?_
    rw [h3]
    exact k_ret rfl trivial ⟨rfl, rfl, rfl⟩
end MC
