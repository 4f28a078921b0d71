/-! ===== the reference: first values, cubes, figures ===== -/
def bts (f : Nat → Bool) : Nat → Nat
  | 0 => 0
  | n + 1 => bts f n ||| (if f n = true then 2 ^ n else 0)
theorem bts_lt (f : Nat → Bool) (n : Nat) : bts f n < 2 ^ n := by
  induction n with
  | zero => decide
  | succ n ih =>
    refine Nat.or_lt_two_pow (Nat.lt_trans ih (Nat.pow_lt_pow_succ (by decide))) ?_
    split
    · exact Nat.pow_lt_pow_succ (by decide)
    · exact Nat.two_pow_pos _
theorem bts_bit (f : Nat → Bool) (n i : Nat) : (bts f n).testBit i = (decide (i < n) && f i) := by
  induction n with
  | zero => simp [bts]
  | succ n ih =>
    show (bts f n ||| (if f n = true then 2 ^ n else 0)).testBit i = _
    rw [Nat.testBit_or, ih]
    by_cases h : i = n
    · subst h
      by_cases hf : f i = true
      · simp [hf]
      · simp [hf]
    · by_cases hf : f n = true
      · rw [if_pos hf, Nat.testBit_two_pow_of_ne (by omega)]
        by_cases hi : i < n
        · simp [hi, show i < n + 1 by omega]
        · simp [hi, show ¬ i < n + 1 by omega]
      · rw [if_neg hf]
        by_cases hi : i < n
        · simp [hi, show i < n + 1 by omega]
        · simp [hi, show ¬ i < n + 1 by omega]
/-- a bit -/
abbrev hb (L g : Int) : Prop := L / ((2 ^ g.toNat : Nat) : Int) % 2 = 1
theorem hb_eq {L g : Int} (hL : 0 ≤ L ∧ L < 2147483648) (hg : 0 ≤ g ∧ g < 31) : mm_and (mm_shr L g) 1 = L / ((2 ^ g.toNat : Nat) : Int) % 2 := by
  have := bb_shr (x := L) ⟨by omega, by omega⟩ (y := g.toNat) (by omega)
  rw [show ((g.toNat : Nat) : Int) = g by omega] at this
  rw [this]
  have h0 : 0 ≤ L / ((2 ^ g.toNat : Nat) : Int) := Int.ediv_nonneg hL.1 (by omega)
  have h1 : L / ((2 ^ g.toNat : Nat) : Int) ≤ L := Int.ediv_le_self _ hL.1
  exact bb_and1 h0 (by omega)
theorem shl1 {g : Int} (hg : 0 ≤ g ∧ g < 31) : mm_shl 1 g = ((2 ^ g.toNat : Nat) : Int) := by
  have := bb_shl1 g.toNat (by omega)
  rw [show ((g.toNat : Nat) : Int) = g by omega] at this
  exact this
/-- the cube of values: which of those looked at are so -/
def cub (c : Int → Int → Int) (nc L all : Int) : Int := ((bts (fun g => decide (hb L g ∧ so_ c g all)) nc.toNat : Nat) : Int)
abbrev fst_ (f : Int → Int) (nv all : Int) : Prop := thr nv all ∧ (0 < nv → f 0 ≤ vl all 0 ∧ vl all 0 ≤ f 1) ∧ (1 < nv → f 2 ≤ vl all 1 ∧ vl all 1 ≤ f 3) ∧ (2 < nv → f 4 ≤ vl all 2 ∧ vl all 2 ≤ f 5)
section ME
variable {r y : Bool} {w : mm_M}
theorem ev_m_isFirst {all : Int} (ha : 0 ≤ all ∧ all < 512) (hnv : 0 ≤ w 1 0 4 ∧ w 1 0 4 ≤ 3) : mm_Ev K_X10_isFirst (0, 0) [.inr (some (1, 0)), .inl all] (PH r y) w (mm_pe (some (.inl (ib (fst_ (w 3 0) (w 1 0 4) all)))) (PH r y) w) := by
  refine ev_intro ok_X10_isFirst mo_X10_isFirst (Nat.le_of_ble_eq_true rfl) (fun hrg has => ?_)
  have v0 := vl_in all 0
  have v1 := vl_in all 1
  have v2 := vl_in all 2
  refine k_gp rfl rfl trivial ?_
  refine k_callp rfl (ev_m_isThere ha) rfl rfl rfl (by decide) ?_
  have L0 : ∀ v, 0 ≤ v ∧ v ≤ w 1 0 4 → ¬ fst_ (w 3 0) (w 1 0 4) all → mm_Wk K_X10_isFirst (0, 0) 8 [some (.inr (some (1, 0))), some (.inl all), some (.inl 0), some (.inl v)] [] (PH r y) w (mm_pe (some (.inl (ib (fst_ (w 3 0) (w 1 0 4) all)))) (PH r y) w) := fun v hv hf => by
    refine mm_loop (σ := Unit) (w 1 0 4) (fun i _ => 0 ≤ i ∧ i ≤ w 1 0 4) (fun i _ => mm_Wk K_X10_isFirst (0, 0) 8 [some (.inr (some (1, 0))), some (.inl all), some (.inl 0), some (.inl i)] [] (PH r y) w (mm_pe (some (.inl (ib (fst_ (w 3 0) (w 1 0 4) all)))) (PH r y) w)) ?_ ?_ v () hv
    · intro i _ h1 h2 ih
      refine k_gp rfl rfl trivial ?_
      refine k_brf rfl (by omega) ?_
      refine k_gp rfl rfl trivial ?_
      refine k_brt rfl rfl ?_
      refine k_gp rfl rfl trivial ?_
      refine k_gp rfl rfl (by simp only [true_and]; omega) ?_
      exact ih () (by omega)
    · intro i _ h1 h2
      refine k_gp rfl rfl trivial ?_
      refine k_brt rfl (by omega) ?_
      repeat' (first
        | refine k_brt rfl (by decide) ?_
        | refine k_brf rfl (by decide) ?_
        | refine k_brz rfl (fun _ => ?_) (fun _ => ?_)
        | refine k_brn rfl (fun _ => ?_) (fun _ => ?_)
        | refine k_br rfl (fun _ => ?_) (fun _ => ?_)
        | refine k_ret rfl ?_ ⟨?_, rfl, rfl⟩
        | refine k_ts rfl rfl ?_ (fun _ => ?_)
        | refine mm_tsc (fun _ => ?_) ?_
        | exact mm_tsn
        | refine k_gp rfl rfl ?_ ?_)
      all_goals (first | trivial | omega | (simp only [true_and]; omega) | (refine congrArg some (congrArg Sum.inl ?_); first | rfl | (rw [ib_t (by omega)]) | (rw [ib_f (by omega)]) | omega) | (rw [ib_f hf]))
  by_cases ht : thr (w 1 0 4) all
  · rw [ib_t ht]
    obtain h | h | h | h : w 1 0 4 = 0 ∨ w 1 0 4 = 1 ∨ w 1 0 4 = 2 ∨ w 1 0 4 = 3 := by omega
    all_goals (repeat' (first
      | refine k_brt rfl (by first | decide | omega) ?_
      | refine k_brf rfl (by first | decide | omega) ?_
      | refine k_brz rfl (fun _ => ?_) (fun _ => ?_)
      | refine k_callp rfl (ev_m_value ?_ ?_) rfl rfl rfl (by decide) ?_
      | refine k_callp rfl ev_m_isIn rfl rfl rfl (by decide) ?_
      | refine L0 _ ?_ ?_
      | refine k_ret rfl ?_ ⟨?_, rfl, rfl⟩
      | refine k_gp rfl rfl ?_ ?_))
    all_goals (first | trivial | omega | (simp only [true_and]; omega) | (refine congrArg some (congrArg Sum.inl ?_); first | rfl | (rw [ib_t (by omega)]) | (rw [ib_f (by omega)]) | omega))
  · rw [ib_f ht]
    refine k_gp rfl rfl trivial ?_
    exact L0 0 (by omega) (fun q => ht q.1)
theorem ev_m_cube {place all more : Int} (ha : 0 ≤ all ∧ all < 512) (hp : 0 ≤ place ∧ place < 8) (hnv : w 1 0 4 ≤ 3) (hnc : 0 ≤ w 1 0 6 ∧ w 1 0 6 ≤ 8) (hc : ∀ g, 0 ≤ g → g < w 1 0 6 → cOK (m_c w) g (w 1 0 4)) (hL : 0 ≤ mm_or (w 6 0 place) more) :
    mm_Ev K_X10_cube (0, 0) [.inr (some (1, 0)), .inl place, .inl all, .inl more] (PH r y) w (mm_pe (some (.inl (cub (m_c w) (w 1 0 6) (mm_or (w 6 0 place) more) all))) (PH r y) w) := by
  refine ev_intro ok_X10_cube mo_X10_cube (Nat.le_of_ble_eq_true rfl) (fun hrg has => ?_)
  have hL2 : mm_or (w 6 0 place) more < 2147483648 := (mm_i2 _).2
  refine k_gp rfl rfl (by simp only [true_and]; omega) ?_
  generalize hLL : mm_or (w 6 0 place) more = L at hL hL2 ⊢
  refine mm_loop (σ := Int) (w 1 0 6) (fun i set => (0 ≤ i ∧ i ≤ w 1 0 6) ∧ set = ((bts (fun g => decide (hb L g ∧ so_ (m_c w) g all)) i.toNat : Nat) : Int)) (fun i set => mm_Wk K_X10_cube (0, 0) 16 [some (.inr (some (1, 0))), some (.inl place), some (.inl all), some (.inl more), some (.inl set), some (.inl L), some (.inl i)] [] (PH r y) w (mm_pe (some (.inl (cub (m_c w) (w 1 0 6) L all))) (PH r y) w)) ?_ ?_ 0 0 ⟨by omega, rfl⟩
  · intro i set h1 h2 ih
    obtain ⟨h2, h3⟩ := h2
    have hlt := bts_lt (fun g => decide (hb L g ∧ so_ (m_c w) g all)) i.toNat
    have hp8 : 2 ^ i.toNat ≤ 2 ^ 7 := Nat.pow_le_pow_right (by decide) (by omega)
    have hstep : ∀ v : Int, v = (if hb L i ∧ so_ (m_c w) i all then ((2 ^ i.toNat : Nat) : Int) else 0) → mm_or set v = ((bts (fun g => decide (hb L g ∧ so_ (m_c w) g all)) (i + 1).toNat : Nat) : Int) := fun v hv => by
      rw [show (i + 1).toNat = i.toNat + 1 by omega]
      show _ = ((bts (fun g => decide (hb L g ∧ so_ (m_c w) g all)) i.toNat ||| (if (fun g : Nat => decide (hb L g ∧ so_ (m_c w) g all)) i.toNat = true then 2 ^ i.toNat else 0) : Nat) : Int)
      have e1 : ((i.toNat : Nat) : Int) = i := by omega
      have e2 : (if (fun g : Nat => decide (hb L g ∧ so_ (m_c w) g all)) i.toNat = true then 2 ^ i.toNat else 0) = v.toNat := by
        show (if decide (hb L ((i.toNat : Nat) : Int) ∧ so_ (m_c w) ((i.toNat : Nat) : Int) all) = true then _ else _) = _
        rw [hv]
        simp only [e1, decide_eq_true_eq]
        split <;> rfl
      rw [e2, h3, ← bb_or (by omega) (by rw [hv]; split <;> omega)]
      have e3 : ((v.toNat : Nat) : Int) = v := by rw [hv]; split <;> omega
      rw [e3]
    refine k_gp rfl rfl trivial ?_
    refine k_brf rfl (by omega) ?_
    refine k_gp rfl rfl trivial ?_
    rw [hb_eq ⟨hL, hL2⟩ (by omega)]
    sorry
  · intro i set h1 h2
    sorry
end ME
