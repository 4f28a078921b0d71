/-! ===== the class: where edges lead, first values ===== -/
theorem SO_in (c : Int → Int → Int) {nc : Int} (all : Int) (h : nc ≤ 8) : 0 ≤ SO c nc all ∧ SO c nc all < 256 := by
  unfold SO
  have h1 := bts_lt (fun g : Nat => soB c g all) nc.toNat
  have h2 : 2 ^ nc.toNat ≤ 2 ^ 8 := Nat.pow_le_pow_right (by decide) (by omega)
  omega
theorem SO_hb {c : Int → Int → Int} {nc all g : Int} (h : nc ≤ 8) (hg : 0 ≤ g ∧ g < nc) : SO c nc all / ((2 ^ g.toNat : Nat) : Int) % 2 = ib (soB c g all = true) := by
  have h0 := SO_in c all h
  have h1 := hb_tb (L := SO c nc all) (g := g) h0.1
  have h2 := bts_bit (fun g : Nat => soB c g all) nc.toNat g.toNat
  rw [decide_eq_true (show g.toNat < nc.toNat by omega), Bool.true_and] at h2
  have h3 : (SO c nc all).toNat = bts (fun g : Nat => soB c g all) nc.toNat := rfl
  rw [h3, h2, show ((g.toNat : Nat) : Int) = g by omega] at h1
  have h4 : hb (SO c nc all) g ↔ SO c nc all / ((2 ^ g.toNat : Nat) : Int) % 2 = 1 := Iff.rfl
  rw [h4] at h1
  cases hs : soB c g all with
  | true => exact h1.mpr hs
  | false =>
    have : ¬ SO c nc all / ((2 ^ g.toNat : Nat) : Int) % 2 = 1 := fun q => by
      have := h1.mp q
      rw [hs] at this
      cases this
    show _ = 0
    omega
/-- where an edge leads, -2 if it can not be gone -/
def ga_ (c e : Int → Int → Int) (x all : Int) : Int := if go_ c e x all < 0 then -2 else go_ c e x all
section MC
variable {r : Bool × Bool} {y : Bool} {w : mm_M} {np trap nv nc ne : Int} {c e : Int → Int → Int} {f : Int → Int}
set_option maxRecDepth 100000 in
theorem ev_c_after {x all : Int} (ha : 0 ≤ all ∧ all < 512) (hx : 0 ≤ x ∧ x < ne) (hO : PO np trap nv nc ne c e) (hP : PC w np trap nv nc ne c e f) (hs : w 40 0 all = SO c nc all) : mm_Ev K_X3_after (0, 0) [.inr (some (39, 0)), .inl x, .inl all] (PH r y) w (mm_pe (some (.inl (ga_ c e x all))) (PH r y) w) := by
  refine ev_intro ok_X3_after mo_X3_after (Nat.le_of_ble_eq_true rfl) (fun hrg has => ?_)
  obtain ⟨-, -, -, hm⟩ := hP
  have hE := hO.2.2.2.2.2.2 x hx.1 hx.2
  have hne := hO.2.2.2.2.1
  have hnc := hO.2.2.2.1
  have hnv := hO.2.2.1
  have m2 := hm x 2 hx.1 hx.2 (by decide) (by decide)
  have m3 := hm x 3 hx.1 hx.2 (by decide) (by decide)
  have m4 := hm x 4 hx.1 hx.2 (by decide) (by decide)
  have m5 := hm x 5 hx.1 hx.2 (by decide) (by decide)
  have m6 := hm x 6 hx.1 hx.2 (by decide) (by decide)
  have hgx : gx_ e x all = if e x 4 = 0 then all else if 0 ≤ nw_ e x all ∧ nw_ e x all ≤ 7 then all + (nw_ e x all - vl all (e x 5)) * p8 (e x 5) else -1 := rfl
  have hgo : go_ c e x all = if e x 2 ≠ 9 ∧ soB c (e x 2) all ≠ decide (e x 3 = 1) then -1 else gx_ e x all := rfl
  have hnw : nw_ e x all = if e x 4 = 1 then e x 6 else if e x 4 = 2 then vl all (e x 5) + e x 6 else if e x 4 = 3 then vl all (e x 5) - e x 6 else if e x 4 = 4 then vl all (e x 6) else vl all (e x 5) + vl all (e x 6) := rfl
  obtain ⟨-, -, h2, h3, h4, h5, h6, h7, h8⟩ := hE
  have hga : ga_ c e x all = if go_ c e x all < 0 then -2 else go_ c e x all := rfl
  generalize ga_ c e x all = A at hga
  generalize go_ c e x all = B at hga hgo
  generalize gx_ e x all = C at hgo hgx
  generalize nw_ e x all = D at hgx hnw
  have hS : ¬ e x 2 = 9 → mm_and (mm_shr (w 40 0 all) (e x 2)) 1 = ib (soB c (e x 2) all = true) := fun q => by
    rw [hs, hb_eq (by have := SO_in c all hnc.2; omega) (by omega), SO_hb hnc.2 (by omega)]
  generalize soB c (e x 2) all = S at hgo hS
  have J145 : B = C → ¬ e x 4 = 0 → -9 ≤ D ∧ D ≤ 16 → mm_Wk K_X3_after (0, 0) 145 [some (.inr (some (39, 0))), some (.inl x), some (.inl all), some (.inr (some (38, x))), some (.inl (vl all (e x 5))), some (.inl (e x 6)), some (.inl D)] [] (PH r y) w (mm_pe (some (.inl A)) (PH r y) w) := fun q1 q2 q3 => by
    have hv := h5 q2
    have v5 := vl_in all (e x 5)
    rw [if_neg q2] at hgx
    have J157 : ¬ (0 ≤ D ∧ D ≤ 7) → mm_Wk K_X3_after (0, 0) 157 [some (.inr (some (39, 0))), some (.inl x), some (.inl all), some (.inr (some (38, x))), some (.inl (vl all (e x 5))), some (.inl (e x 6)), some (.inl D)] [] (PH r y) w (mm_pe (some (.inl A)) (PH r y) w) := fun z => by
      rw [if_neg z] at hgx
      rw [if_pos (by omega)] at hga
      rw [hga]
      refine k_gp rfl rfl trivial ?_
      exact k_ret rfl trivial ⟨rfl, rfl, rfl⟩
    refine k_gp rfl rfl trivial ?_
    refine k_br rfl (fun z => J157 (by omega)) (fun z => ?_)
    refine k_gp rfl rfl trivial ?_
    refine k_br rfl (fun z2 => ?_) (fun z2 => J157 (by omega))
    have hz : 0 ≤ D ∧ D ≤ 7 := by omega
    have hp := (vl_put ha (v := e x 5) (by omega) hz).1
    rw [if_pos hz] at hgx
    rw [← hgx] at hp
    rw [if_neg (by omega)] at hga
    have hsh := shl_p8 (d := D - vl all (e x 5)) (v := e x 5) (by omega) (by omega)
    rw [← hsh] at hgx
    refine k_gp rfl rfl (by simp only [true_and, mm_fits, m5]; omega) ?_
    rw [m5, ← hgx, ← q1, ← hga]
    exact k_ret rfl trivial ⟨rfl, rfl, rfl⟩
  have J39 : B = C → ∀ l4 l5 l6, mm_Wk K_X3_after (0, 0) 39 [some (.inr (some (39, 0))), some (.inl x), some (.inl all), some (.inr (some (38, x))), l4, l5, l6] [] (PH r y) w (mm_pe (some (.inl A)) (PH r y) w) := fun q1 l4 l5 l6 => by
    refine k_gp rfl rfl (by simp only [true_and, mm_fits]; omega) ?_
    rw [m4]
    refine k_br rfl (fun z => ?_) (fun z => ?_)
    · have hv := h5 z
      have J := J145 q1 z
      clear J145 hgx hga hgo hS
      have v5 := vl_in all (e x 5)
      have v6 := vl_in all (e x 6)
      refine k_gp rfl rfl (by simp only [true_and, mm_fits]; omega) ?_
      rw [m5]
      refine k_callp rfl (ev_c_valueOf (by omega) (by omega)) rfl rfl rfl (by decide) ?_
      refine k_gp rfl rfl (by simp only [true_and, mm_fits]; omega) ?_
      rw [m6, m4]
      refine k_ts rfl rfl ⟨fun g => ?_, fun g => ?_, fun g => ?_, fun g => ?_, trivial⟩ (fun g => ?_)
      · rw [if_pos (by omega)] at hnw
        refine k_gp rfl rfl trivial ?_
        rw [hnw] at J
        exact J (by omega)
      · rw [if_neg (by omega), if_pos (by omega)] at hnw
        refine k_gp rfl rfl (by simp only [true_and, mm_fits]; omega) ?_
        rw [hnw] at J
        exact J (by omega)
      · rw [if_neg (by omega), if_neg (by omega), if_pos (by omega)] at hnw
        refine k_gp rfl rfl (by simp only [true_and, mm_fits]; omega) ?_
        rw [hnw] at J
        exact J (by omega)
      · rw [if_neg (by omega), if_neg (by omega), if_neg (by omega), if_pos (by omega)] at hnw
        refine k_gp rfl rfl trivial ?_
        refine k_callp rfl (ev_c_valueOf (by omega) (by omega)) rfl rfl rfl (by decide) ?_
        refine k_gp rfl rfl trivial ?_
        rw [hnw] at J
        exact J (by omega)
      · rw [if_neg (by omega), if_neg (by omega), if_neg (by omega), if_neg (by omega)] at hnw
        refine k_gp rfl rfl trivial ?_
        refine k_callp rfl (ev_c_valueOf (by omega) (by omega)) rfl rfl rfl (by decide) ?_
        refine k_gp rfl rfl (by simp only [true_and, mm_fits]; omega) ?_
        rw [hnw] at J
        exact J (by omega)
    · have z : e x 4 = 0 := Classical.byContradiction z
      rw [if_pos z] at hgx
      rw [if_neg (by omega)] at hga
      refine k_gp rfl rfl trivial ?_
      rw [← hgx, ← q1, ← hga]
      exact k_ret rfl trivial ⟨rfl, rfl, rfl⟩
  refine k_gp rfl rfl (by simp only [true_and, mm_fits]; omega) ?_
  rw [m2]
  refine k_br rfl (fun q => ?_) (fun q => ?_)
  · rw [if_neg (fun z => z.1 q)] at hgo
    exact J39 hgo _ _ _
  · have hS := hS q
    refine k_gp rfl rfl (by simp only [true_and, mm_fits]; omega) ?_
    rw [m2, m3, hS]
    refine k_br rfl (fun z => ?_) (fun z => ?_)
    · rw [if_neg] at hgo
      · exact J39 hgo _ _ _
      · intro q2
        refine q2.2 ?_
        cases S with
        | true => exact (decide_eq_true (show e x 3 = 1 from z.symm)).symm
        | false => exact (decide_eq_false (fun q3 => by rw [q3] at z; cases z)).symm
    · rw [if_pos] at hgo
      · rw [if_pos (by omega)] at hga
        rw [hga]
        refine k_gp rfl rfl trivial ?_
        exact k_ret rfl trivial ⟨rfl, rfl, rfl⟩
      · refine ⟨q, fun q2 => z ?_⟩
        by_cases q3 : e x 3 = 1
        · rw [ib_t (show S = true by rw [q2]; exact decide_eq_true q3), q3]
        · rw [ib_f (show ¬ S = true by rw [q2]; exact fun z => q3 (of_decide_eq_true z))]; omega
theorem ev_c_areFirst {all : Int} (ha : 0 ≤ all ∧ all < 512) (hO : PO np trap nv nc ne c e) (hP : PC w np trap nv nc ne c e f) : mm_Ev K_X3_areFirst (0, 0) [.inr (some (39, 0)), .inl all] (PH r y) w (mm_pe (some (.inl (ib (((List.range nv.toNat).all (fun v : Nat => fvB f all v)) = true)))) (PH r y) w) := by
  refine ev_intro ok_X3_areFirst mo_X3_areFirst (Nat.le_of_ble_eq_true rfl) (fun hrg has => ?_)
  obtain ⟨⟨p0, p1, p2, p3, p4⟩, hf, -, -⟩ := hP
  have hnv := hO.2.2.1
  refine k_gp rfl rfl trivial ?_
  refine mm_loop (σ := Unit) nv (fun v _ => (0 ≤ v ∧ v ≤ nv) ∧ (List.range v.toNat).all (fun v : Nat => fvB f all v) = true) (fun v _ => ∀ l3, mm_Wk K_X3_areFirst (0, 0) 2 [some (.inr (some (39, 0))), some (.inl all), some (.inl v), l3] [] (PH r y) w (mm_pe (some (.inl (ib (((List.range nv.toNat).all (fun v : Nat => fvB f all v)) = true)))) (PH r y) w)) ?_ ?_ 0 () ⟨by omega, rfl⟩ _
  · rintro v - h1 ⟨h2, h3⟩ ih l3
    obtain ⟨f1, f2⟩ := hf v h2.1 h1
    have hno : ¬ fvB f all v = true → (List.range nv.toNat).all (fun v : Nat => fvB f all v) = false := fun q => by
      rw [Bool.eq_false_iff]
      intro z
      rw [List.all_eq_true] at z
      have := z v.toNat (List.mem_range.mpr (by omega))
      rw [show ((v.toNat : Nat) : Int) = v by omega] at this
      exact q this
    have J45 : ∀ l3, ¬ fvB f all v = true → mm_Wk K_X3_areFirst (0, 0) 45 [some (.inr (some (39, 0))), some (.inl all), some (.inl v), l3] [] (PH r y) w (mm_pe (some (.inl (ib (((List.range nv.toNat).all (fun v : Nat => fvB f all v)) = true)))) (PH r y) w) := fun l3 q => by
      rw [hno q]
      refine k_gp rfl rfl trivial ?_
      exact k_ret rfl (by decide) ⟨rfl, rfl, rfl⟩
    refine k_gp rfl rfl trivial ?_
    rw [p2]
    refine k_brf rfl (by omega) ?_
    refine k_gp rfl rfl trivial ?_
    refine k_callp rfl (ev_c_valueOf (by omega) (by omega)) rfl rfl rfl (by decide) ?_
    refine k_gp rfl rfl (by simp only [true_and, mm_fits]; omega) ?_
    rw [f1]
    refine k_br rfl (fun q => ?_) (fun q => ?_)
    · exact J45 _ (fun z => by have := of_decide_eq_true z; omega)
    · refine k_gp rfl rfl (by simp only [true_and, mm_fits]; omega) ?_
      rw [f2]
      refine k_br rfl (fun q2 => ?_) (fun q2 => ?_)
      · refine k_gp rfl rfl (by simp only [true_and, mm_fits]; omega) ?_
        refine ih () ⟨by omega, ?_⟩ _
        rw [show (v + 1).toNat = v.toNat + 1 by omega, List.range_succ, List.all_append, h3]
        show (true && (fvB f all ((v.toNat : Nat) : Int) && true)) = true
        rw [show ((v.toNat : Nat) : Int) = v by omega, show fvB f all v = true from decide_eq_true ⟨by omega, by omega⟩]
        rfl
      · exact J45 _ (fun z => by have := of_decide_eq_true z; omega)
  · rintro v - h1 ⟨h2, h3⟩ l3
    have : v = nv := by omega
    subst this
    rw [h3]
    refine k_gp rfl rfl trivial ?_
    rw [p2]
    refine k_brt rfl (by omega) ?_
    refine k_gp rfl rfl trivial ?_
    exact k_ret rfl (by decide) ⟨rfl, rfl, rfl⟩
end MC
