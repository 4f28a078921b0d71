/-! ===== the class: what is learnt of a program ===== -/
def gp_ (nv : Int) : Int := if nv = 0 then 512 else if nv = 1 then 64 else if nv = 2 then 8 else 1
def sz_ (nv : Int) : Int := if nv = 0 then 1 else if nv = 1 then 8 else if nv = 2 then 64 else 512
theorem thB_gp {nv all : Int} (hnv : 0 ≤ nv ∧ nv ≤ 3) (ha : 0 ≤ all ∧ all < 512) : thB nv all = true ↔ all % gp_ nv = 0 := by
  unfold thB
  rw [decide_eq_true_eq]
  have v0 : vl all 0 = all / 64 % 8 := rfl
  have v1 : vl all 1 = all / 8 % 8 := rfl
  have v2 : vl all 2 = all % 8 := rfl
  rw [v0, v1, v2]
  obtain rfl | rfl | rfl | rfl : nv = 0 ∨ nv = 1 ∨ nv = 2 ∨ nv = 3 := by omega
  · show _ ↔ all % 512 = 0
    omega
  · show _ ↔ all % 64 = 0
    omega
  · show _ ↔ all % 8 = 0
    omega
  · show _ ↔ all % 1 = 0
    omega
theorem gp_cs {nv : Int} (hnv : 0 ≤ nv ∧ nv ≤ 3) : (gp_ nv = 512 ∧ sz_ nv = 1) ∨ (gp_ nv = 64 ∧ sz_ nv = 8) ∨ (gp_ nv = 8 ∧ sz_ nv = 64) ∨ (gp_ nv = 1 ∧ sz_ nv = 512) := by
  obtain rfl | rfl | rfl | rfl : nv = 0 ∨ nv = 1 ∨ nv = 2 ∨ nv = 3 := by omega
  · exact Or.inl ⟨rfl, rfl⟩
  · exact Or.inr (Or.inl ⟨rfl, rfl⟩)
  · exact Or.inr (Or.inr (Or.inl ⟨rfl, rfl⟩))
  · exact Or.inr (Or.inr (Or.inr ⟨rfl, rfl⟩))
/-- the first values below n, rising -/
def FV (f : Int → Int) (nv : Int) : Nat → List Int
  | 0 => []
  | n + 1 => FV f nv n ++ (if fsB f nv n = true then [(n : Int)] else [])
theorem FV_skip {f : Int → Int} {nv : Int} {a : Nat} : ∀ d : Nat, (∀ k : Nat, a ≤ k → k < a + d → fsB f nv k = false) → FV f nv (a + d) = FV f nv a
  | 0, _ => rfl
  | d + 1, h => by
    show FV f nv (a + d) ++ (if fsB f nv ((a + d : Nat) : Int) = true then [((a + d : Nat) : Int)] else []) = _
    rw [h (a + d) (by omega) (by omega), if_neg (by decide), List.append_nil]
    exact FV_skip d (fun k p q => h k p (by omega))
/-- it is learnt: the class's meaning is that of the program -/
def MM (w : mm_M) (nv nc : Int) (c : Int → Int → Int) (f : Int → Int) : Prop := (w 39 0 4 = sz_ nv ∧ w 39 0 5 = gp_ nv) ∧ (w 39 0 3 = (FV f nv 512).length ∧ (FV f nv 512).length ≤ 512) ∧ (∀ k : Int, 0 ≤ k → k < (FV f nv 512).length → w 41 0 k = (FV f nv 512).getD k.toNat 0) ∧ ∀ all, 0 ≤ all → all < 512 → thB nv all = true → w 40 0 all = SO c nc all
set_option maxRecDepth 100000 in
theorem gA : ∀ k : Fin 512, mm_and ((k.val : Nat) : Int) (-512) = 0 ∧ mm_and ((k.val : Nat) : Int) (-64) = ((k.val : Nat) : Int) / 64 * 64 ∧ mm_and ((k.val : Nat) : Int) (-8) = ((k.val : Nat) : Int) / 8 * 8 ∧ mm_and ((k.val : Nat) : Int) (-1) = ((k.val : Nat) : Int) := by decide +kernel
section MC
variable {r : Bool × Bool} {y : Bool} {w : mm_M} {np trap nv nc ne : Int} {c e : Int → Int → Int} {f : Int → Int}
theorem PC_sm {w' : mm_M} {L : List (Nat × Option Int)} (hs : sm L w w') (h1 : (frB L 32 0 && frB L 32 1 && frB L 32 2 && frB L 32 3 && frB L 32 4) = true) (h3 : ∀ k, (frB L 33 k && frB L 34 k && frB L 36 k && frB L 38 k) = true) (h : PC w np trap nv nc ne c e f) : PC w' np trap nv nc ne c e f := by
  simp only [Bool.and_eq_true] at h1 h3
  obtain ⟨⟨⟨⟨a0, a1⟩, a2⟩, a3⟩, a4⟩ := h1
  obtain ⟨⟨p0, p1, p2, p3, p4⟩, hf, hc, hm⟩ := h
  exact ⟨⟨(hs 32 0 0 a0).trans p0, (hs 32 0 1 a1).trans p1, (hs 32 0 2 a2).trans p2, (hs 32 0 3 a3).trans p3, (hs 32 0 4 a4).trans p4⟩, fun v a b => ⟨(hs 33 0 v (h3 v).1.1.1).trans (hf v a b).1, (hs 34 0 v (h3 v).1.1.2).trans (hf v a b).2⟩, fun g k a b c1 d => (hs 36 g k (h3 k).1.2).trans (hc g k a b c1 d), fun x k a b c1 d => (hs 38 x k (h3 k).2).trans (hm x k a b c1 d)⟩
theorem MM_sm {w' : mm_M} {L : List (Nat × Option Int)} (hs : sm L w w') (h1 : (frB L 39 3 && frB L 39 4 && frB L 39 5) = true) (h3 : ∀ k, (frB L 40 k && frB L 41 k) = true) (h : MM w nv nc c f) : MM w' nv nc c f := by
  simp only [Bool.and_eq_true] at h1 h3
  obtain ⟨⟨a3, a4⟩, a5⟩ := h1
  obtain ⟨⟨p4, p5⟩, ⟨p3, p6⟩, p7, p8⟩ := h
  exact ⟨⟨(hs 39 0 4 a4).trans p4, (hs 39 0 5 a5).trans p5⟩, ⟨(hs 39 0 3 a3).trans p3, p6⟩, fun k a b => (hs 41 0 k (h3 k).2).trans (p7 k a b), fun all a b t => (hs 40 0 all (h3 all).1).trans (p8 all a b t)⟩
theorem ev_c_size : mm_Ev K_X3_size (0, 0) [.inr (some (39, 0))] (PH r y) w (mm_pe (some (.inl (w 39 0 4))) (PH r y) w) := by
  refine ev_intro ok_X3_size mo_X3_size (Nat.le_of_ble_eq_true rfl) (fun hrg has => ?_)
  repeat' (first
    | refine k_brt rfl (by decide) ?_
    | refine k_brf rfl (by decide) ?_
    | refine k_brz rfl (fun _ => ?_) (fun _ => ?_)
    | refine k_brn rfl (fun _ => ?_) (fun _ => ?_)
    | refine k_br rfl (fun _ => ?_) (fun _ => ?_)
    | refine k_ret rfl ?_ ⟨?_, rfl, rfl⟩
    | refine k_ts rfl rfl ?_ (fun _ => ?_)
    | refine mm_tsc (fun _ => ?_) ?_
    | exact mm_tsn
    | refine k_gp rfl rfl ?_ ?_)
  all_goals (first | trivial | omega | (simp only [true_and, mm_fits]; omega) | (refine congrArg some (congrArg Sum.inl ?_); first | rfl | (rw [ib_t (by omega)]) | (rw [ib_f (by omega)]) | omega))
theorem ev_c_firsts : mm_Ev K_X3_firsts (0, 0) [.inr (some (39, 0))] (PH r y) w (mm_pe (some (.inl (w 39 0 3))) (PH r y) w) := by
  refine ev_intro ok_X3_firsts mo_X3_firsts (Nat.le_of_ble_eq_true rfl) (fun hrg has => ?_)
  repeat' (first
    | refine k_brt rfl (by decide) ?_
    | refine k_brf rfl (by decide) ?_
    | refine k_brz rfl (fun _ => ?_) (fun _ => ?_)
    | refine k_brn rfl (fun _ => ?_) (fun _ => ?_)
    | refine k_br rfl (fun _ => ?_) (fun _ => ?_)
    | refine k_ret rfl ?_ ⟨?_, rfl, rfl⟩
    | refine k_ts rfl rfl ?_ (fun _ => ?_)
    | refine mm_tsc (fun _ => ?_) ?_
    | exact mm_tsn
    | refine k_gp rfl rfl ?_ ?_)
  all_goals (first | trivial | omega | (simp only [true_and, mm_fits]; omega) | (refine congrArg some (congrArg Sum.inl ?_); first | rfl | (rw [ib_t (by omega)]) | (rw [ib_f (by omega)]) | omega))
theorem ev_c_valuesAt {i : Int} (h : mm_in (i * w 39 0 5)) : mm_Ev K_X3_valuesAt (0, 0) [.inr (some (39, 0)), .inl i] (PH r y) w (mm_pe (some (.inl (i * w 39 0 5))) (PH r y) w) := by
  refine ev_intro ok_X3_valuesAt mo_X3_valuesAt (Nat.le_of_ble_eq_true rfl) (fun hrg has => ?_)
  refine k_gp rfl rfl ⟨trivial, h⟩ ?_
  exact k_ret rfl trivial ⟨rfl, rfl, rfl⟩
theorem ev_c_firstAt {i : Int} (h : 0 ≤ i ∧ i < 512) : mm_Ev K_X3_firstAt (0, 0) [.inr (some (39, 0)), .inl i] (PH r y) w (mm_pe (some (.inl (w 41 0 i))) (PH r y) w) := by
  refine ev_intro ok_X3_firstAt mo_X3_firstAt (Nat.le_of_ble_eq_true rfl) (fun hrg has => ?_)
  repeat' (first
    | refine k_brt rfl (by decide) ?_
    | refine k_brf rfl (by decide) ?_
    | refine k_brz rfl (fun _ => ?_) (fun _ => ?_)
    | refine k_brn rfl (fun _ => ?_) (fun _ => ?_)
    | refine k_br rfl (fun _ => ?_) (fun _ => ?_)
    | refine k_ret rfl ?_ ⟨?_, rfl, rfl⟩
    | refine k_ts rfl rfl ?_ (fun _ => ?_)
    | refine mm_tsc (fun _ => ?_) ?_
    | exact mm_tsn
    | refine k_gp rfl rfl ?_ ?_)
  all_goals (first | trivial | omega | (simp only [true_and, mm_fits]; omega) | (refine congrArg some (congrArg Sum.inl ?_); first | rfl | (rw [ib_t (by omega)]) | (rw [ib_f (by omega)]) | omega))
theorem ev_c_sosOf {i : Int} (h : 0 ≤ i ∧ i < 512) : mm_Ev K_X3_sosOf (0, 0) [.inr (some (39, 0)), .inl i] (PH r y) w (mm_pe (some (.inl (w 40 0 i))) (PH r y) w) := by
  refine ev_intro ok_X3_sosOf mo_X3_sosOf (Nat.le_of_ble_eq_true rfl) (fun hrg has => ?_)
  repeat' (first
    | refine k_brt rfl (by decide) ?_
    | refine k_brf rfl (by decide) ?_
    | refine k_brz rfl (fun _ => ?_) (fun _ => ?_)
    | refine k_brn rfl (fun _ => ?_) (fun _ => ?_)
    | refine k_br rfl (fun _ => ?_) (fun _ => ?_)
    | refine k_ret rfl ?_ ⟨?_, rfl, rfl⟩
    | refine k_ts rfl rfl ?_ (fun _ => ?_)
    | refine mm_tsc (fun _ => ?_) ?_
    | exact mm_tsn
    | refine k_gp rfl rfl ?_ ?_)
  all_goals (first | trivial | omega | (simp only [true_and, mm_fits]; omega) | (refine congrArg some (congrArg Sum.inl ?_); first | rfl | (rw [ib_t (by omega)]) | (rw [ib_f (by omega)]) | omega))
theorem ev_c_valuesOf {a b d : Int} (hv : (0 ≤ a ∧ a ≤ 7) ∧ (0 ≤ b ∧ b ≤ 7) ∧ (0 ≤ d ∧ d ≤ 7)) (hnv : 0 ≤ nv ∧ nv ≤ 3) (h : w 39 0 5 = gp_ nv) : mm_Ev K_X3_valuesOf (0, 0) [.inr (some (39, 0)), .inl a, .inl b, .inl d] (PH r y) w (mm_pe (some (.inl (vls nv a b d))) (PH r y) w) := by
  refine ev_intro ok_X3_valuesOf mo_X3_valuesOf (Nat.le_of_ble_eq_true rfl) (fun hrg has => ?_)
  have hA := gA ⟨(64 * a + 8 * b + d).toNat, by omega⟩
  have e1 : (((⟨(64 * a + 8 * b + d).toNat, by omega⟩ : Fin 512).val : Nat) : Int) = 64 * a + 8 * b + d := by
    show (((64 * a + 8 * b + d).toNat : Nat) : Int) = _
    omega
  rw [e1] at hA
  obtain ⟨a0, a1, a2, a3⟩ := hA
  have key : mm_and (64 * a + 8 * b + d) (-gp_ nv) = vls nv a b d := by
    obtain rfl | rfl | rfl | rfl : nv = 0 ∨ nv = 1 ∨ nv = 2 ∨ nv = 3 := by omega
    · exact a0
    · refine a1.trans ?_
      show _ = 64 * a + 0 + 0
      omega
    · refine a2.trans ?_
      show _ = 64 * a + 8 * b + 0
      omega
    · refine a3.trans ?_
      show _ = 64 * a + 8 * b + d
      rfl
  have hg := gp_cs hnv
  rw [← h] at hg
  refine k_gp rfl rfl (by simp only [true_and, mm_fits]; omega) ?_
  rw [h, key]
  exact k_ret rfl trivial ⟨rfl, rfl, rfl⟩
abbrev leL : List (Nat × Option Int) := [(39, some 3), (39, some 4), (39, some 5), (40, none), (41, none)]
set_option maxRecDepth 100000 in
theorem ev_c_learn (hO : PO np trap nv nc ne c e) (hP : PC w np trap nv nc ne c e f) : mm_Ev K_X3_learn (0, 0) [.inr (some (39, 0))] (PH r y) w (fun a b' w' => a = none ∧ b' = PH r y ∧ sm leL w w' ∧ MM w' nv nc c f) := by
  refine ev_intro ok_X3_learn mo_X3_learn (Nat.le_of_ble_eq_true rfl) (fun hrg has => ?_)
  have hnv := hO.2.2.1
  have hp2 := hP.1.2.2.1
  have hsh : mm_shl 1 (3 * nv) = sz_ nv ∧ mm_shr 512 (3 * nv) = gp_ nv := by
    obtain rfl | rfl | rfl | rfl : nv = 0 ∨ nv = 1 ∨ nv = 2 ∨ nv = 3 := by omega
    · decide
    · decide
    · decide
    · decide
  have hg := gp_cs hnv
  have e2 : ∀ v, mm_up w 39 0 4 v 32 0 2 = nv := fun v => (up_g rfl).trans hp2
  refine k_gp rfl rfl (by simp only [true_and, mm_fits, e2, hp2]; omega) ?_
  rw [e2, hp2, hsh.1, hsh.2]
  generalize hw1 : mm_up (mm_up (mm_up w 39 0 4 (sz_ nv)) 39 0 5 (gp_ nv)) 39 0 3 0 = w1
  have s1 : sm leL w w1 := by
    rw [← hw1]
    exact sm_up (sm_up (sm_up sm_rf (Or.inr (by decide))) (Or.inr (by decide))) (Or.inr (by decide))
  have z3 : w1 39 0 3 = 0 := by rw [← hw1, up_s]
  have z4 : w1 39 0 4 = sz_ nv := by rw [← hw1, up_k (by decide), up_k (by decide), up_s]
  have z5 : w1 39 0 5 = gp_ nv := by rw [← hw1, up_k (by decide), up_s]
  clear hw1
  refine mm_loop (σ := mm_M) (sz_ nv) (fun i w2 => (0 ≤ i ∧ i ≤ sz_ nv) ∧ sm leL w w2 ∧ (w2 39 0 4 = sz_ nv ∧ w2 39 0 5 = gp_ nv) ∧ (w2 39 0 3 = (FV f nv (i * gp_ nv).toNat).length ∧ w2 39 0 3 ≤ i) ∧ (∀ k : Int, 0 ≤ k → k < (FV f nv (i * gp_ nv).toNat).length → w2 41 0 k = (FV f nv (i * gp_ nv).toNat).getD k.toNat 0) ∧ ∀ all, 0 ≤ all → all < i * gp_ nv → thB nv all = true → w2 40 0 all = SO c nc all) (fun i w2 => ∀ l2, mm_Wk K_X3_learn (0, 0) 39 [some (.inr (some (39, 0))), some (.inl i), l2] [] (PH r y) w2 (fun a b' w' => a = none ∧ b' = PH r y ∧ sm leL w w' ∧ MM w' nv nc c f)) ?_ ?_ 0 w1 ⟨by omega, s1, ⟨z4, z5⟩, ⟨by rw [z3, Int.zero_mul]; rfl, by omega⟩, fun k a b => ?_, fun all a b => by omega⟩ _
  · rintro i w2 q1 ⟨q2, s2, ⟨q4, q5⟩, ⟨q3, q6⟩, q7, q8⟩ ih l2
    have hin : 0 ≤ i * gp_ nv ∧ i * gp_ nv < 512 ∧ (i + 1) * gp_ nv = i * gp_ nv + gp_ nv ∧ (i * gp_ nv) % gp_ nv = 0 := by
      rcases hg with ⟨g1, g2⟩ | ⟨g1, g2⟩ | ⟨g1, g2⟩ | ⟨g1, g2⟩ <;> rw [g1] <;> omega
    obtain ⟨b0, b1, b2, b3⟩ := hin
    have hP2 : PC w2 np trap nv nc ne c e f := PC_sm s2 rfl (fun _ => rfl) hP
    refine k_gp rfl rfl trivial ?_
    rw [q4]
    refine k_brf rfl (by omega) ?_
    refine k_gp rfl rfl trivial ?_
    have ev := ev_c_valuesAt (r := r) (y := y) (w := w2) (i := i) (by rw [q5]; exact ⟨by omega, by omega⟩)
    rw [q5] at ev
    refine k_callp rfl ev rfl rfl rfl (by decide) ?_
    generalize hA : i * gp_ nv = A at *
    refine k_gp rfl rfl trivial ?_
    refine k_callp rfl (ev_c_findSos (by omega) hO hP2) rfl rfl rfl (by decide) ?_
    refine k_gp rfl rfl (by simp only [true_and, mm_fits]; omega) ?_
    have s3 : sm leL w (mm_up w2 40 0 A (SO c nc A)) := sm_up s2 (Or.inl (by decide))
    refine k_callp rfl (ev_c_areFirst (by omega) hO (PC_sm s3 rfl (fun _ => rfl) hP)) rfl rfl rfl (by decide) ?_
    have hth : thB nv A = true := (thB_gp hnv (by omega)).mpr b3
    have hfs : fsB f nv A = (List.range nv.toNat).all (fun v : Nat => fvB f A v) := by
      unfold fsB
      rw [hth, Bool.true_and]
    rw [← hfs]
    have hb2 : A + gp_ nv ≤ 512 := by
      rcases hg with ⟨g1, g2⟩ | ⟨g1, g2⟩ | ⟨g1, g2⟩ | ⟨g1, g2⟩ <;> rw [g1] at b3 ⊢ <;> omega
    have hno : ∀ k : Int, A < k → k < A + gp_ nv → thB nv k = false := fun k c1 c2 => by
      rw [Bool.eq_false_iff]
      intro z
      have z := (thB_gp hnv (by omega)).mp z
      rcases hg with ⟨g1, g2⟩ | ⟨g1, g2⟩ | ⟨g1, g2⟩ | ⟨g1, g2⟩ <;> rw [g1] at b3 c2 z <;> omega
    have hg1 : 1 ≤ gp_ nv := by omega
    have hFV : FV f nv ((i + 1) * gp_ nv).toNat = FV f nv A.toNat ++ (if fsB f nv A = true then [A] else []) := by
      rw [b2, show (A + gp_ nv).toNat = (A.toNat + 1) + (gp_ nv - 1).toNat by omega, FV_skip _ (fun k c1 c2 => by
        unfold fsB
        rw [hno k (by omega) (by omega), Bool.false_and])]
      show FV f nv A.toNat ++ (if fsB f nv ((A.toNat : Nat) : Int) = true then [((A.toNat : Nat) : Int)] else []) = _
      rw [show ((A.toNat : Nat) : Int) = A by omega]
    have hsos : ∀ w4 : mm_M, (∀ u, w4 40 0 u = mm_up w2 40 0 A (SO c nc A) 40 0 u) → ∀ all, 0 ≤ all → all < (i + 1) * gp_ nv → thB nv all = true → w4 40 0 all = SO c nc all := fun w4 hw4 all c1 c2 c3 => by
      rw [hw4, up_at]
      by_cases c4 : all = A
      · rw [if_pos c4, c4]
      · rw [if_neg c4]
        refine q8 all c1 ?_ c3
        rcases Int.lt_or_le all A with c5 | c5
        · exact c5
        · rw [hno all (by omega) (by omega)] at c3
          cases c3
    have u3 : mm_up w2 40 0 A (SO c nc A) 39 0 3 = w2 39 0 3 := up_g rfl
    have u4 : mm_up w2 40 0 A (SO c nc A) 39 0 4 = w2 39 0 4 := up_g rfl
    have u5 : mm_up w2 40 0 A (SO c nc A) 39 0 5 = w2 39 0 5 := up_g rfl
    have u41 : ∀ k, mm_up w2 40 0 A (SO c nc A) 41 0 k = w2 41 0 k := fun k => up_g rfl
    generalize mm_up w2 40 0 A (SO c nc A) = w3 at *
    refine k_brz rfl (fun g => ?_) (fun g => ?_)
    · rw [if_neg g, List.append_nil] at hFV
      rw [hFV] at ih
      refine k_gp rfl rfl (by simp only [true_and, mm_fits]; omega) ?_
      exact ih w3 ⟨by omega, s3, ⟨u4.trans q4, u5.trans q5⟩, ⟨u3.trans q3, by omega⟩, fun k c1 c2 => (u41 k).trans (q7 k c1 c2), hsos w3 (fun _ => rfl)⟩ _
    · rw [if_pos g] at hFV
      have hlen : (FV f nv ((i + 1) * gp_ nv).toNat).length = (FV f nv A.toNat).length + 1 := by rw [hFV, List.length_append]; rfl
      have hn0 : 0 ≤ w3 39 0 3 := by omega
      have e31 : mm_up w3 41 0 (w3 39 0 3) A 39 0 3 = w3 39 0 3 := up_g rfl
      refine k_gp rfl rfl (by simp only [true_and, mm_fits, e31]; omega) ?_
      rw [e31]
      have s4 : sm leL w (mm_up (mm_up w3 41 0 (w3 39 0 3) A) 39 0 3 (w3 39 0 3 + 1)) := sm_up (sm_up s3 (Or.inl (by decide))) (Or.inr (by decide))
      refine k_gp rfl rfl (by simp only [true_and, mm_fits]; omega) ?_
      refine ih (mm_up (mm_up w3 41 0 (w3 39 0 3) A) 39 0 3 (w3 39 0 3 + 1)) ⟨by omega, s4, ⟨?_, ?_⟩, ⟨?_, ?_⟩, fun k c1 c2 => ?_, hsos _ (fun _ => ?_)⟩ _
      · rw [up_k (by decide), up_g rfl, u4, q4]
      · rw [up_k (by decide), up_g rfl, u5, q5]
      · rw [up_s, hlen]; omega
      · rw [up_s]; omega
      · rw [up_g rfl, up_at, hFV]
        by_cases c3 : k = w3 39 0 3
        · rw [if_pos c3, List.getD_eq_getElem?_getD, List.getElem?_append_right (by omega), show k.toNat - (FV f nv A.toNat).length = 0 by omega]
          rfl
        · rw [if_neg c3, u41, q7 k c1 (by omega), List.getD_eq_getElem?_getD, List.getD_eq_getElem?_getD, List.getElem?_append_left (by omega)]
      · rw [up_g rfl, up_g rfl]
  · rintro i w2 q1 ⟨q2, s2, ⟨q4, q5⟩, ⟨q3, q6⟩, q7, q8⟩ l2
    have hi : i * gp_ nv = 512 := by
      rcases hg with ⟨g1, g2⟩ | ⟨g1, g2⟩ | ⟨g1, g2⟩ | ⟨g1, g2⟩ <;> rw [g1] <;> omega
    rw [hi] at q3 q7 q8
    refine k_gp rfl rfl trivial ?_
    rw [q4]
    refine k_brt rfl (by omega) ?_
    have h512 : sz_ nv ≤ 512 := by omega
    exact k_ret rfl trivial ⟨rfl, rfl, s2, ⟨q4, q5⟩, ⟨q3, by rw [show ((512 : Int).toNat) = 512 from rfl] at q3; omega⟩, q7, q8⟩
  · rw [Int.zero_mul] at b
    exact absurd b (by show ¬ k < 0; omega)
end MC
