/-! ===== the reference: first values, cubes, figures ===== -/
def bts (f : Nat → Bool) : Nat → Nat
  | 0 => 0
  | n + 1 => bts f n ||| (if f n = true then 2 ^ n else 0)
theorem bts_lt (f : Nat → Bool) (n : Nat) : bts f n < 2 ^ n := by
  induction n with
  | zero => exact Nat.zero_lt_one
  | succ n ih =>
    refine Nat.or_lt_two_pow (Nat.lt_trans ih (Nat.pow_lt_pow_succ (by decide))) ?_
    split
    · exact Nat.pow_lt_pow_succ (by decide)
    · exact Nat.two_pow_pos _
theorem bts_bit (f : Nat → Bool) (n i : Nat) : (bts f n).testBit i = (decide (i < n) && f i) := by
  induction n with
  | zero => simp [bts]
  | succ n ih =>
    show (bts f n ||| (if f n = true then 2 ^ n else 0)).testBit i = _
    rw [Nat.testBit_or, ih]
    by_cases h : i = n
    · subst h
      by_cases hf : f i = true
      · simp [hf]
      · simp [hf]
    · by_cases hf : f n = true
      · rw [if_pos hf, Nat.testBit_two_pow_of_ne (by omega)]
        by_cases hi : i < n
        · simp [hi, show i < n + 1 by omega]
        · simp [hi, show ¬ i < n + 1 by omega]
      · rw [if_neg hf]
        by_cases hi : i < n
        · simp [hi, show i < n + 1 by omega]
        · simp [hi, show ¬ i < n + 1 by omega]
/-- a bit -/
abbrev hb (L g : Int) : Prop := L / ((2 ^ g.toNat : Nat) : Int) % 2 = 1
theorem hb_eq {L g : Int} (hL : 0 ≤ L ∧ L < 2147483648) (hg : 0 ≤ g ∧ g < 31) : mm_and (mm_shr L g) 1 = L / ((2 ^ g.toNat : Nat) : Int) % 2 := by
  have := bb_shr (x := L) ⟨by omega, by omega⟩ (y := g.toNat) (by omega)
  rw [show ((g.toNat : Nat) : Int) = g by omega] at this
  rw [this]
  have h0 : 0 ≤ L / ((2 ^ g.toNat : Nat) : Int) := Int.ediv_nonneg hL.1 (Int.natCast_nonneg _)
  have h1 : L / ((2 ^ g.toNat : Nat) : Int) ≤ L := Int.ediv_le_self _ hL.1
  exact bb_and1 h0 (by omega)
theorem shl1 {g : Int} (hg : 0 ≤ g ∧ g < 31) : mm_shl 1 g = ((2 ^ g.toNat : Nat) : Int) := by
  have := bb_shl1 g.toNat (by omega)
  rw [show ((g.toNat : Nat) : Int) = g by omega] at this
  exact this
/-- the cube of values: which of those looked at are so -/
def cub (c : Int → Int → Int) (nc L all : Int) : Int := ((bts (fun g => decide (hb L g) && soB c g all) nc.toNat : Nat) : Int)
/-- first values -/
def fvB (f : Int → Int) (all v : Int) : Bool := decide (f (2 * v) ≤ vl all v ∧ vl all v ≤ f (2 * v + 1))
def fsB (f : Int → Int) (nv all : Int) : Bool := thB nv all && (List.range nv.toNat).all (fun v : Nat => fvB f all v)
section ME
variable {r : Bool × Bool} {y : Bool} {w : mm_M}
theorem ev_m_isFirst {all : Int} (ha : 0 ≤ all ∧ all < 512) (hnv : 0 ≤ w 1 0 4 ∧ w 1 0 4 ≤ 3) : mm_Ev K_X10_isFirst (0, 0) [.inr (some (1, 0)), .inl all] (PH r y) w (mm_pe (some (.inl (ib (fsB (w 3 0) (w 1 0 4) all = true)))) (PH r y) w) := by
  refine ev_intro ok_X10_isFirst mo_X10_isFirst (Nat.le_of_ble_eq_true rfl) (fun hrg has => ?_)
  refine k_gp rfl rfl trivial ?_
  refine k_callp rfl (ev_m_isThere ha) rfl rfl rfl (by decide) ?_
  refine k_gp rfl rfl trivial ?_
  refine mm_loop (σ := Bool) (w 1 0 4) (fun i s => (0 ≤ i ∧ i ≤ w 1 0 4) ∧ s = (thB (w 1 0 4) all && (List.range i.toNat).all (fun v : Nat => fvB (w 3 0) all v))) (fun i s => mm_Wk K_X10_isFirst (0, 0) 8 [some (.inr (some (1, 0))), some (.inl all), some (.inl (ib (s = true))), some (.inl i)] [] (PH r y) w (mm_pe (some (.inl (ib (fsB (w 3 0) (w 1 0 4) all = true)))) (PH r y) w)) ?_ ?_ 0 (thB (w 1 0 4) all) ⟨by omega, by simp⟩
  · intro i s h1 h2 ih
    obtain ⟨h2, h3⟩ := h2
    have e1 : ((i.toNat : Nat) : Int) = i := by omega
    have e2 : ∀ s', s' = (s && fvB (w 3 0) all i) → mm_Wk K_X10_isFirst (0, 0) 8 [some (.inr (some (1, 0))), some (.inl all), some (.inl (ib (s' = true))), some (.inl (i + 1))] [] (PH r y) w (mm_pe (some (.inl (ib (fsB (w 3 0) (w 1 0 4) all = true)))) (PH r y) w) := fun s' hs' => by
      refine ih s' ⟨by omega, ?_⟩
      rw [show (i + 1).toNat = i.toNat + 1 by omega, List.range_succ, List.all_append, ← Bool.and_assoc, ← h3, hs']
      simp [e1]
    refine k_gp rfl rfl trivial ?_
    refine k_brf rfl (by omega) ?_
    refine k_gp rfl rfl trivial ?_
    refine k_brz rfl (fun g1 => ?_) (fun g1 => ?_)
    · refine k_gp rfl rfl trivial ?_
      refine k_gp rfl rfl (by simp only [true_and]; omega) ?_
      exact e2 false (by simp at g1; simp [g1])
    · refine k_gp rfl rfl trivial ?_
      refine k_callp rfl (ev_m_value (by omega) (by omega)) rfl rfl rfl (by decide) ?_
      refine k_gp rfl rfl (by simp only [true_and]; omega) ?_
      refine k_callp rfl ev_m_isIn rfl rfl rfl (by decide) ?_
      refine k_brz rfl (fun g2 => ?_) (fun g2 => ?_)
      · refine k_gp rfl rfl trivial ?_
        refine k_gp rfl rfl (by simp only [true_and]; omega) ?_
        exact e2 false (by rw [show fvB (w 3 0) all i = false from decide_eq_false g2]; simp)
      · refine k_gp rfl rfl trivial ?_
        refine k_gp rfl rfl (by simp only [true_and]; omega) ?_
        exact e2 true (by rw [show fvB (w 3 0) all i = true from decide_eq_true g2, g1]; rfl)
  · intro i s h1 h2
    obtain ⟨h2, h3⟩ := h2
    refine k_gp rfl rfl trivial ?_
    refine k_brt rfl (by omega) ?_
    refine k_gp rfl rfl trivial ?_
    refine k_ret rfl (ib_in _) ⟨?_, rfl, rfl⟩
    rw [h3, show i = w 1 0 4 by omega]
    rfl
/-- the bits of those that are so, or not, up to n -/
theorem bts_step {f : Nat → Bool} {i set v : Int} (hi : 0 ≤ i ∧ i < 31) (hs : set = ((bts f i.toNat : Nat) : Int)) (hv : v = if f i.toNat = true then ((2 ^ i.toNat : Nat) : Int) else 0) : mm_or set v = ((bts f (i + 1).toNat : Nat) : Int) := by
  rw [show (i + 1).toNat = i.toNat + 1 by omega]
  have hlt := bts_lt f i.toNat
  have hp8 : 2 ^ i.toNat ≤ 2 ^ 30 := Nat.pow_le_pow_right (by decide) (by omega)
  show _ = ((bts f i.toNat ||| (if f i.toNat = true then 2 ^ i.toNat else 0) : Nat) : Int)
  rw [← bb_or (by omega) (by split <;> omega), hs, hv]
  congr 1
  split <;> rfl
theorem ev_m_cube {place all more : Int} (ha : 0 ≤ all ∧ all < 512) (hp : 0 ≤ place ∧ place < 8) (hnv : w 1 0 4 ≤ 3) (hnc : 0 ≤ w 1 0 6 ∧ w 1 0 6 ≤ 8) (hc : ∀ g, 0 ≤ g → g < w 1 0 6 → cOK (m_c w) g (w 1 0 4)) (hL : 0 ≤ mm_or (w 6 0 place) more) :
    mm_Ev K_X10_cube (0, 0) [.inr (some (1, 0)), .inl place, .inl all, .inl more] (PH r y) w (mm_pe (some (.inl (cub (m_c w) (w 1 0 6) (mm_or (w 6 0 place) more) all))) (PH r y) w) := by
  refine ev_intro ok_X10_cube mo_X10_cube (Nat.le_of_ble_eq_true rfl) (fun hrg has => ?_)
  have hL2 : mm_or (w 6 0 place) more < 2147483648 := (mm_i2 _).2
  refine k_gp rfl rfl (by simp only [true_and]; omega) ?_
  generalize hLL : mm_or (w 6 0 place) more = L at hL hL2 ⊢
  refine mm_loop (σ := Int) (w 1 0 6) (fun i set => (0 ≤ i ∧ i ≤ w 1 0 6) ∧ set = ((bts (fun g => decide (hb L g) && soB (m_c w) g all) i.toNat : Nat) : Int)) (fun i set => mm_Wk K_X10_cube (0, 0) 16 [some (.inr (some (1, 0))), some (.inl place), some (.inl all), some (.inl more), some (.inl set), some (.inl L), some (.inl i)] [] (PH r y) w (mm_pe (some (.inl (cub (m_c w) (w 1 0 6) L all))) (PH r y) w)) ?_ ?_ 0 0 ⟨by omega, rfl⟩
  · intro i set h1 h2 ih
    obtain ⟨h2, h3⟩ := h2
    have e1 : ((i.toNat : Nat) : Int) = i := by omega
    have J : ∀ v, v = (if (decide (hb L i) && soB (m_c w) i all) = true then ((2 ^ i.toNat : Nat) : Int) else 0) → mm_Wk K_X10_cube (0, 0) 56 [some (.inr (some (1, 0))), some (.inl place), some (.inl all), some (.inl more), some (.inl set), some (.inl L), some (.inl i)] [.inl v, .inl set] (PH r y) w (mm_pe (some (.inl (cub (m_c w) (w 1 0 6) L all))) (PH r y) w) := fun v hv => by
      have hst := bts_step (f := fun g : Nat => decide (hb L g) && soB (m_c w) g all) (by omega) h3 (v := v) (by simp only [e1]; exact hv)
      refine k_gp rfl rfl (by simp only [true_and]; omega) ?_
      rw [hst]
      exact ih _ ⟨by omega, rfl⟩
    refine k_gp rfl rfl trivial ?_
    refine k_brf rfl (by omega) ?_
    refine k_gp rfl rfl trivial ?_
    rw [hb_eq ⟨hL, hL2⟩ (by omega)]
    refine k_br rfl (fun g1 => ?_) (fun g1 => ?_)
    · refine k_gp rfl rfl trivial ?_
      exact J 0 (by rw [decide_eq_false g1]; rfl)
    · have g1 : hb L i := Classical.byContradiction g1
      rw [decide_eq_true g1, Bool.true_and] at J
      refine k_gp rfl rfl trivial ?_
      refine k_callp rfl (ev_m_isSo (nv := w 1 0 4) ha (by omega) hnv (hc i (by omega) (by omega))) rfl rfl rfl (by decide) ?_
      refine k_brz rfl (fun g2 => ?_) (fun g2 => ?_)
      · refine k_gp rfl rfl trivial ?_
        exact J 0 (by rw [if_neg g2])
      · refine k_gp rfl rfl trivial ?_
        rw [shl1 (by omega)]
        exact J _ (by rw [if_pos g2])
  · intro i set h1 h2
    obtain ⟨h2, h3⟩ := h2
    refine k_gp rfl rfl trivial ?_
    refine k_brt rfl (by omega) ?_
    refine k_gp rfl rfl trivial ?_
    refine k_ret rfl trivial ⟨?_, rfl, rfl⟩
    rw [h3, show i = w 1 0 6 by omega]
    rfl
end ME
