/-! ===== the reference: real() ===== -/
theorem hb_tb {L g : Int} (h : 0 ≤ L) : hb L g ↔ L.toNat.testBit g.toNat = true := by
  rw [Nat.testBit_eq_decide_div_mod_eq, decide_eq_true_eq]
  obtain ⟨n, rfl⟩ := Int.eq_ofNat_of_zero_le h
  show ((n : Int) / ((2 ^ g.toNat : Nat) : Int) % 2 = 1) ↔ n / 2 ^ g.toNat % 2 = 1
  rw [← Int.natCast_ediv]
  omega
theorem bits_eq {a b : Int} {n : Nat} (ha : 0 ≤ a ∧ a < ((2 ^ n : Nat) : Int)) (hb_ : 0 ≤ b ∧ b < ((2 ^ n : Nat) : Int)) (h : ∀ g : Int, 0 ≤ g → g < n → (hb a g ↔ hb b g)) : a = b := by
  have : a.toNat = b.toNat := by
    apply Nat.eq_of_testBit_eq
    intro i
    by_cases hi : i < n
    · have := h i (by omega) (by omega)
      rw [hb_tb ha.1, hb_tb hb_.1] at this
      exact Bool.eq_iff_iff.mpr this
    · rw [Nat.testBit_lt_two_pow (Nat.lt_of_lt_of_le (show a.toNat < 2 ^ n by omega) (Nat.pow_le_pow_right (by decide) (by omega))), Nat.testBit_lt_two_pow (Nat.lt_of_lt_of_le (show b.toNat < 2 ^ n by omega) (Nat.pow_le_pow_right (by decide) (by omega)))]
  omega
/-- the fewest edges to a place; -4: it is not reached -/
def RD (R : Nat → Int → Prop) (p r : Int) : Prop := (r = -4 ∧ ∀ v, 0 ≤ v → v < 512 → ∀ k, ¬ R k (512 * p + v)) ∨ (0 ≤ r ∧ (∃ v, (0 ≤ v ∧ v < 512) ∧ R r.toNat (512 * p + v)) ∧ ∀ v, 0 ≤ v → v < 512 → ∀ k : Nat, R k (512 * p + v) → r ≤ k)
theorem RD_u {R : Nat → Int → Prop} {p r r' : Int} (h : RD R p r) (h' : RD R p r') : r = r' := by
  rcases h with ⟨h1, h2⟩ | ⟨h1, ⟨v, hv, h2⟩, h3⟩
  · rcases h' with ⟨g1, g2⟩ | ⟨g1, ⟨v, hv, g2⟩, g3⟩
    · omega
    · exact absurd g2 (h2 v hv.1 hv.2 _)
  · rcases h' with ⟨g1, g2⟩ | ⟨g1, ⟨u, hu, g2⟩, g3⟩
    · exact absurd h2 (g2 v hv.1 hv.2 _)
    · have a := h3 u hu.1 hu.2 _ g2
      have b := g3 v hv.1 hv.2 _ h2
      omega
/-- how many values runs end with at a place -/
def RV (R : Nat → Int → Prop) (p n : Int) : Prop := ∃ bl : Int → Bool, (∀ v, 0 ≤ v → v < 512 → (bl v = true ↔ ∃ k, R k (512 * p + v))) ∧ n = ((cnt bl 512 : Nat) : Int)
theorem RV_u {R : Nat → Int → Prop} {p r r' : Int} (h : RV R p r) (h' : RV R p r') : r = r' := by
  obtain ⟨b1, h1, h2⟩ := h
  obtain ⟨b2, g1, g2⟩ := h'
  rw [h2, g2, cnt_c (fun i a b => Bool.eq_iff_iff.mpr ((h1 i a b).trans (g1 i a b).symm))]
/-- which comparisons are so for all values that runs end with at a place -/
def HO (R : Nat → Int → Prop) (c : Int → Int → Int) (nc p m : Int) : Prop := (0 ≤ m ∧ m < ((2 ^ nc.toNat : Nat) : Int)) ∧ ∀ g, 0 ≤ g → g < nc → (hb m g ↔ ∀ v, 0 ≤ v → v < 512 → (∃ k, R k (512 * p + v)) → soB c g v = true)
theorem HO_u {R : Nat → Int → Prop} {c : Int → Int → Int} {nc p r r' : Int} (h : HO R c nc p r) (h' : HO R c nc p r') : r = r' :=
  bits_eq h.1 h'.1 (fun g a b => (h.2 g a (by omega)).trans (h'.2 g a (by omega)).symm)
theorem and_clr : ∀ m : Nat, m < 256 → ∀ g : Nat, g < 8 → mm_and m (mm_xor (mm_shl 1 g) (-1)) = ((m &&& (255 ^^^ 2 ^ g) : Nat) : Int) := by decide +kernel
section ME
variable {r : Bool × Bool} {y : Bool} {w : mm_M}
theorem ev_m_nearest {p : Int} (hp : 0 ≤ p ∧ p < 8) {R : Nat → Int → Prop} (hF : RF R (w 11 0) (w 12 0) (w 1 0 23)) : mm_Ev K_X10_nearest (0, 0) [.inr (some (1, 0)), .inl p] (PH r y) w (fun a b' w' => (∃ z, a = some (.inl z) ∧ RD R p z) ∧ b' = PH r y ∧ w' = w) := by
  refine ev_intro ok_X10_nearest mo_X10_nearest (Nat.le_of_ble_eq_true rfl) (fun hrg has => ?_)
  refine k_gp rfl rfl trivial ?_
  refine mm_loop (σ := Int) 512 (fun i z => (0 ≤ i ∧ i ≤ 512) ∧ ((z = -4 ∧ ∀ v, 0 ≤ v → v < i → w 11 0 (512 * p + v) < 0) ∨ (0 ≤ z ∧ (∃ v, (0 ≤ v ∧ v < i) ∧ w 11 0 (512 * p + v) = z) ∧ ∀ v, 0 ≤ v → v < i → 0 ≤ w 11 0 (512 * p + v) → z ≤ w 11 0 (512 * p + v)))) (fun i z => ∀ l4, mm_Wk K_X10_nearest (0, 0) 5 [some (.inr (some (1, 0))), some (.inl p), some (.inl z), some (.inl i), l4] [] (PH r y) w (fun a b' w' => (∃ z, a = some (.inl z) ∧ RD R p z) ∧ b' = PH r y ∧ w' = w)) ?_ ?_ 0 (-4) ⟨by omega, Or.inl ⟨rfl, fun v a b => by omega⟩⟩ _
  · intro i z h1 h2 ih l4
    obtain ⟨h2, h3⟩ := h2
    have J46 : (w 11 0 (512 * p + i) < 0 ∨ (0 ≤ z ∧ z ≤ w 11 0 (512 * p + i))) → ∀ l4, mm_Wk K_X10_nearest (0, 0) 46 [some (.inr (some (1, 0))), some (.inl p), some (.inl z), some (.inl i), l4] [] (PH r y) w (fun a b' w' => (∃ z, a = some (.inl z) ∧ RD R p z) ∧ b' = PH r y ∧ w' = w) := fun hc l4 => by
      refine k_gp rfl rfl trivial ?_
      refine k_gp rfl rfl (by simp only [true_and, mm_fits]; omega) ?_
      refine ih z ⟨by omega, ?_⟩ _
      rcases h3 with ⟨a1, a2⟩ | ⟨a1, ⟨v, a2, a3⟩, a4⟩
      · refine Or.inl ⟨a1, fun v b1 b2 => ?_⟩
        by_cases hv : v = i
        · subst hv; omega
        · exact a2 v b1 (by omega)
      · refine Or.inr ⟨a1, ⟨v, by omega, a3⟩, fun u b1 b2 b3 => ?_⟩
        by_cases hv : u = i
        · subst hv; omega
        · exact a4 u b1 (by omega) b3
    have J41 : 0 ≤ w 11 0 (512 * p + i) → (z < 0 ∨ w 11 0 (512 * p + i) < z) → mm_Wk K_X10_nearest (0, 0) 41 [some (.inr (some (1, 0))), some (.inl p), some (.inl z), some (.inl i), some (.inl (w 11 0 (512 * p + i)))] [] (PH r y) w (fun a b' w' => (∃ z, a = some (.inl z) ∧ RD R p z) ∧ b' = PH r y ∧ w' = w) := fun hc hd => by
      refine k_gp rfl rfl trivial ?_
      refine k_gp rfl rfl (by simp only [true_and, mm_fits]; omega) ?_
      refine ih _ ⟨by omega, Or.inr ⟨hc, ⟨i, by omega, rfl⟩, fun u b1 b2 b3 => ?_⟩⟩ _
      by_cases hv : u = i
      · subst hv; exact Int.le_refl _
      · rcases h3 with ⟨a1, a2⟩ | ⟨a1, ⟨v, a2, a3⟩, a4⟩
        · have := a2 u b1 (by omega); omega
        · have := a4 u b1 (by omega) b3; omega
    refine k_gp rfl rfl trivial ?_
    refine k_brf rfl (by omega) ?_
    refine k_gp rfl rfl (by simp only [true_and, mm_fits]; omega) ?_
    refine k_br rfl (fun g1 => J46 (by omega) _) (fun g1 => ?_)
    refine k_gp rfl rfl trivial ?_
    refine k_br rfl (fun g2 => J41 (by omega) (by omega)) (fun g2 => ?_)
    refine k_gp rfl rfl trivial ?_
    exact k_br rfl (fun g3 => J46 (by omega) _) (fun g3 => J41 (by omega) (by omega))
  · intro i z h1 h2 l4
    obtain ⟨h2, h3⟩ := h2
    have hi : i = 512 := by omega
    subst hi
    refine k_gp rfl rfl trivial ?_
    refine k_brt rfl (by omega) ?_
    refine k_gp rfl rfl trivial ?_
    refine k_ret rfl trivial ⟨⟨z, rfl, ?_⟩, rfl, rfl⟩
    rcases h3 with ⟨a1, a2⟩ | ⟨a1, ⟨v, a2, a3⟩, a4⟩
    · refine Or.inl ⟨a1, fun v b1 b2 k hk => ?_⟩
      have := a2 v b1 b2
      have := (hF.2 k _ hk).1
      omega
    · refine Or.inr ⟨a1, ⟨v, a2, ?_⟩, fun u b1 b2 k hk => ?_⟩
      · obtain ⟨i, i1, i2⟩ := hF.1.2.2.1 (512 * p + v) (by omega) (by omega) (by omega)
        have := (hF.1.2.1 i i1.1 i1.2).2.2
        rw [i2, a3] at this
        exact this
      · obtain ⟨q1, q2⟩ := hF.2 k _ hk
        have := a4 u b1 b2 q1
        omega
theorem RF_iff {R : Nat → Int → Prop} {far queue : Int → Int} {qd : Int} (hF : RF R far queue qd) {q : Int} (hq : 0 ≤ q ∧ q < 4096) : 0 ≤ far q ↔ ∃ k, R k q := by
  refine ⟨fun h => ?_, fun ⟨k, hk⟩ => (hF.2 k q hk).1⟩
  obtain ⟨i, i1, i2⟩ := hF.1.2.2.1 q hq.1 hq.2 h
  have := (hF.1.2.1 i i1.1 i1.2).2.2
  rw [i2] at this
  exact ⟨_, this⟩
theorem ev_m_real {p what : Int} (h : mP w) : mm_Ev K_X10_real (0, 0) [.inr (some (1, 0)), .inl p, .inl what] (PH r y) w (fun a b' w' => b' = PH r y ∧ sm sprL w w' ∧ ∃ z, a = some (.inl z) ∧ (¬ ((0 ≤ p ∧ p < w 1 0 2) ∧ (0 ≤ what ∧ what ≤ 2)) → z = -1) ∧ ((0 ≤ p ∧ p < w 1 0 2) ∧ (0 ≤ what ∧ what ≤ 2) → (what = 0 → RD (mR w) p z) ∧ (what = 1 → RV (mR w) p z) ∧ (what = 2 → HO (mR w) (m_c w) (w 1 0 6) p z))) := by
  refine ev_intro ok_X10_real mo_X10_real (Nat.le_of_ble_eq_true rfl) (fun hrg has => ?_)
  have hnp := h.1
  have hnc := h.2.2.2.1
  have hnv := h.2.2.1
  have fF : ∀ l, ¬ ((0 ≤ p ∧ p < w 1 0 2) ∧ (0 ≤ what ∧ what ≤ 2)) → mm_Wk K_X10_real (0, 0) 17 l [] (PH r y) w (fun a b' w' => b' = PH r y ∧ sm sprL w w' ∧ ∃ z, a = some (.inl z) ∧ (¬ ((0 ≤ p ∧ p < w 1 0 2) ∧ (0 ≤ what ∧ what ≤ 2)) → z = -1) ∧ ((0 ≤ p ∧ p < w 1 0 2) ∧ (0 ≤ what ∧ what ≤ 2) → (what = 0 → RD (mR w) p z) ∧ (what = 1 → RV (mR w) p z) ∧ (what = 2 → HO (mR w) (m_c w) (w 1 0 6) p z))) := fun l q => by
    refine k_gp rfl rfl trivial ?_
    exact k_ret rfl trivial ⟨rfl, sm_rf, -1, rfl, fun _ => rfl, fun z => absurd z q⟩
  refine k_gp rfl rfl trivial ?_
  refine k_callp rfl (ev_m_isPlace (by omega)) rfl rfl rfl (by decide) ?_
  refine k_brz rfl (fun g1 => fF _ (fun q => g1 q.1)) (fun g1 => ?_)
  refine k_gp rfl rfl trivial ?_
  refine k_callp rfl ev_m_isIn rfl rfl rfl (by decide) ?_
  refine k_brn rfl (fun g2 => ?_) (fun g2 => fF _ (fun q => g2 q.2))
  refine k_gp rfl rfl trivial ?_
  refine k_call0 rfl (ev_m_spreads h) rfl rfl rfl (by decide) ?_
  rintro a b' w1 ⟨rfl, rfl, hs, hF⟩
  refine k_gp rfl rfl trivial ?_
  refine k_br rfl (fun g3 => ?_) (fun g3 => ?_)
  · obtain ⟨hP1, ec, ee⟩ := mP_sm hs rfl (fun _ => rfl) (fun _ => rfl) (fun _ => rfl) h
    have hnc1 : w1 1 0 6 = w 1 0 6 := hs 1 0 6 rfl
    have hnv1 : w1 1 0 4 = w 1 0 4 := hs 1 0 4 rfl
    have h256 : 2 ^ (w 1 0 6).toNat ≤ 2 ^ 8 := Nat.pow_le_pow_right (by decide) (by omega)
    have h1 : 0 < 2 ^ (w 1 0 6).toNat := Nat.two_pow_pos _
    refine k_gp rfl rfl (by simp only [true_and, hnc1, shl1 (g := w 1 0 6) (by omega)]; omega) ?_
    rw [hnc1, shl1 (g := w 1 0 6) (by omega)]
    refine mm_loop (σ := Int × Int) 512 (fun i s => (0 ≤ i ∧ i ≤ 512) ∧ s.1 = ((cnt (fun v => decide (0 ≤ w1 11 0 (512 * p + v))) i.toNat : Nat) : Int) ∧ (0 ≤ s.2 ∧ s.2 < ((2 ^ (w 1 0 6).toNat : Nat) : Int)) ∧ ∀ g, 0 ≤ g → g < w 1 0 6 → (hb s.2 g ↔ ∀ v, 0 ≤ v → v < i → 0 ≤ w1 11 0 (512 * p + v) → soB (m_c w) g v = true)) (fun i s => ∀ l6, mm_Wk K_X10_real (0, 0) 48 [some (.inr (some (1, 0))), some (.inl p), some (.inl what), some (.inl s.1), some (.inl s.2), some (.inl i), l6] [] (PH r y) w1 (fun a b' w' => b' = PH r y ∧ sm sprL w w' ∧ ∃ z, a = some (.inl z) ∧ (¬ ((0 ≤ p ∧ p < w 1 0 2) ∧ (0 ≤ what ∧ what ≤ 2)) → z = -1) ∧ ((0 ≤ p ∧ p < w 1 0 2) ∧ (0 ≤ what ∧ what ≤ 2) → (what = 0 → RD (mR w) p z) ∧ (what = 1 → RV (mR w) p z) ∧ (what = 2 → HO (mR w) (m_c w) (w 1 0 6) p z)))) ?_ ?_ 0 (0, ((2 ^ (w 1 0 6).toNat : Nat) : Int) - 1) ⟨by omega, rfl, ⟨by dsimp only; omega, by dsimp only; omega⟩, fun g a b => ?_⟩ _
    · intro i s q1 q2 ih l6
      obtain ⟨many, hol⟩ := s
      obtain ⟨q2, q3, q4, q5⟩ := q2
      dsimp only at q3 q4 q5 ⊢
      have hm : cnt (fun v => decide (0 ≤ w1 11 0 (512 * p + v))) i.toNat ≤ i.toNat := cnt_le _ _
      have hcs : cnt (fun v => decide (0 ≤ w1 11 0 (512 * p + v))) (i + 1).toNat = cnt (fun v => decide (0 ≤ w1 11 0 (512 * p + v))) i.toNat + (if decide (0 ≤ w1 11 0 (512 * p + i)) = true then 1 else 0) := by
        rw [show (i + 1).toNat = i.toNat + 1 by omega]
        show _ + (if decide (0 ≤ w1 11 0 (512 * p + ((i.toNat : Nat) : Int))) = true then 1 else 0) = _
        rw [show ((i.toNat : Nat) : Int) = i by omega]
      refine k_gp rfl rfl trivial ?_
      refine k_brf rfl (by omega) ?_
      refine k_gp rfl rfl (by simp only [true_and, mm_fits]; omega) ?_
      refine k_br rfl (fun g4 => ?_) (fun g4 => ?_)
      · refine k_gp rfl rfl (by simp only [true_and, mm_fits]; omega) ?_
        refine ih (many, hol) ⟨by omega, ?_, q4, fun g a b => ?_⟩ _
        · show many = _
          rw [hcs, if_neg (by rw [decide_eq_false (by omega)]; decide)]
          exact q3
        · refine (q5 g a b).trans ⟨fun z v v1 v2 v3 => ?_, fun z v v1 v2 v3 => z v v1 (by omega) v3⟩
          by_cases hv : v = i
          · subst hv; omega
          · exact z v v1 (by omega) v3
      · refine k_gp rfl rfl (by simp only [true_and, mm_fits]; omega) ?_
        refine mm_loop (σ := Int) (w 1 0 6) (fun g hl => (0 ≤ g ∧ g ≤ w 1 0 6) ∧ (0 ≤ hl ∧ hl < ((2 ^ (w 1 0 6).toNat : Nat) : Int)) ∧ ∀ u, 0 ≤ u → u < w 1 0 6 → (hb hl u ↔ hb hol u ∧ (u < g → soB (m_c w) u i = true))) (fun g hl => mm_Wk K_X10_real (0, 0) 78 [some (.inr (some (1, 0))), some (.inl p), some (.inl what), some (.inl (many + 1)), some (.inl hl), some (.inl i), some (.inl g)] [] (PH r y) w1 (fun a b' w' => b' = PH r y ∧ sm sprL w w' ∧ ∃ z, a = some (.inl z) ∧ (¬ ((0 ≤ p ∧ p < w 1 0 2) ∧ (0 ≤ what ∧ what ≤ 2)) → z = -1) ∧ ((0 ≤ p ∧ p < w 1 0 2) ∧ (0 ≤ what ∧ what ≤ 2) → (what = 0 → RD (mR w) p z) ∧ (what = 1 → RV (mR w) p z) ∧ (what = 2 → HO (mR w) (m_c w) (w 1 0 6) p z)))) ?_ ?_ 0 hol ⟨by omega, q4, fun u a b => ⟨fun z => ⟨z, fun c => by omega⟩, fun z => z.1⟩⟩
        · intro g hl r1 r2 ihg
          obtain ⟨r2, r3, r4⟩ := r2
          refine k_gp rfl rfl trivial ?_
          refine k_brf rfl (by omega) ?_
          refine k_gp rfl rfl trivial ?_
          refine k_callp rfl (ev_m_isSo (nv := w 1 0 4) (by omega) (by omega) (by omega) (by rw [ec]; exact h.2.2.2.2.2.1 g (by omega) (by omega))) rfl rfl rfl (by decide) ?_
          rw [ec]
          refine k_brz rfl (fun g5 => ?_) (fun g5 => ?_)
          · refine k_gp rfl rfl trivial ?_
            refine k_gp rfl rfl (by simp only [true_and, mm_fits]; omega) ?_
            have hc := and_clr hl.toNat (by omega) g.toNat (by omega)
            rw [show ((hl.toNat : Nat) : Int) = hl by omega, show ((g.toNat : Nat) : Int) = g by omega] at hc
            rw [hc]
            refine ihg _ ⟨by omega, ⟨by omega, ?_⟩, fun u a b => ?_⟩
            · have := Nat.and_le_left (n := hl.toNat) (m := 255 ^^^ 2 ^ g.toNat)
              omega
            · rw [hb_tb (by omega)]
              show (hl.toNat &&& (255 ^^^ 2 ^ g.toNat)).testBit u.toNat = true ↔ _
              rw [Nat.testBit_and, Nat.testBit_xor, show (255 : Nat) = 2 ^ 8 - 1 from rfl, Nat.testBit_two_pow_sub_one, Nat.testBit_two_pow, decide_eq_true (show u.toNat < 8 by omega), Bool.true_xor, Bool.and_eq_true, ← hb_tb r3.1, r4 u a b]
              by_cases hu : u = g
              · subst hu
                simp only [decide_true, Bool.not_true, Bool.false_eq_true, and_false, false_iff, not_and]
                intro _ z
                exact g5 (z (by omega))
              · rw [decide_eq_false (show ¬ g.toNat = u.toNat by omega)]
                refine ⟨fun z => ⟨z.1.1, fun c => z.1.2 (by omega)⟩, fun z => ⟨⟨z.1, fun c => z.2 (by omega)⟩, rfl⟩⟩
          · refine k_gp rfl rfl trivial ?_
            refine k_gp rfl rfl (by simp only [true_and, mm_fits]; omega) ?_
            have hc := bb_and (x := hl.toNat) (y := 255) (by omega) (by decide)
            rw [show ((hl.toNat : Nat) : Int) = hl by omega, show ((255 : Nat) : Int) = 255 from rfl, show (255 : Nat) = 2 ^ 8 - 1 from rfl, Nat.and_two_pow_sub_one_eq_mod, Nat.mod_eq_of_lt (by omega), show ((hl.toNat : Nat) : Int) = hl by omega] at hc
            rw [hc]
            refine ihg hl ⟨by omega, r3, fun u a b => (r4 u a b).trans ⟨fun z => ⟨z.1, fun c => ?_⟩, fun z => ⟨z.1, fun c => z.2 (by omega)⟩⟩⟩
            by_cases hu : u = g
            · subst hu; exact g5
            · exact z.2 (by omega)
        · intro g hl r1 r2
          obtain ⟨r2, r3, r4⟩ := r2
          refine k_gp rfl rfl trivial ?_
          refine k_brt rfl (by omega) ?_
          refine k_gp rfl rfl (by simp only [true_and, mm_fits]; omega) ?_
          refine ih (many + 1, hl) ⟨by omega, ?_, r3, fun u a b => ?_⟩ _
          · show many + 1 = _
            rw [hcs, if_pos (decide_eq_true (by omega)), q3]
            omega
          · refine (r4 u a b).trans ?_
            rw [q5 u a b]
            refine ⟨fun z v v1 v2 v3 => ?_, fun z => ⟨fun v v1 v2 v3 => z v v1 (by omega) v3, fun _ => z i (by omega) (by omega) (by omega)⟩⟩
            by_cases hv : v = i
            · subst hv; exact z.2 (by omega)
            · exact z.1 v v1 (by omega) v3
    · intro i s q1 q2 l6
      obtain ⟨many, hol⟩ := s
      obtain ⟨q2, q3, q4, q5⟩ := q2
      dsimp only at q3 q4 q5 ⊢
      have hi : i = 512 := by omega
      subst hi
      have hit : ∀ v, 0 ≤ v → v < 512 → (0 ≤ w1 11 0 (512 * p + v) ↔ ∃ k, mR w k (512 * p + v)) := fun v a b => RF_iff hF (by omega)
      refine k_gp rfl rfl trivial ?_
      refine k_brt rfl (by omega) ?_
      refine k_gp rfl rfl trivial ?_
      refine k_br rfl (fun g4 => ?_) (fun g4 => ?_)
      · refine k_gp rfl rfl trivial ?_
        refine k_ret rfl trivial ⟨rfl, hs, hol, rfl, fun z => absurd ⟨g1, g2⟩ z, fun _ => ⟨fun z => absurd z g3, fun z => absurd z g4, fun _ => ⟨q4, fun g a b => (q5 g a b).trans ?_⟩⟩⟩
        exact ⟨fun z v v1 v2 v3 => z v v1 v2 ((hit v v1 v2).mpr v3), fun z v v1 v2 v3 => z v v1 v2 ((hit v v1 v2).mp v3)⟩
      · have g4 : what = 1 := Classical.byContradiction g4
        refine k_gp rfl rfl trivial ?_
        refine k_ret rfl trivial ⟨rfl, hs, many, rfl, fun z => absurd ⟨g1, g2⟩ z, fun _ => ⟨fun z => absurd z g3, fun _ => ⟨fun v => decide (0 ≤ w1 11 0 (512 * p + v)), fun v a b => ?_, q3⟩, fun z => by omega⟩⟩
        rw [decide_eq_true_eq]
        exact hit v a b
    · rw [hb_tb (by omega)]
      show ((((2 ^ (w 1 0 6).toNat : Nat) : Int) - 1).toNat).testBit g.toNat = true ↔ _
      rw [show ((((2 ^ (w 1 0 6).toNat : Nat) : Int) - 1).toNat) = 2 ^ (w 1 0 6).toNat - 1 by omega, Nat.testBit_two_pow_sub_one, decide_eq_true_eq]
      exact ⟨fun _ v a b => by omega, fun _ => by omega⟩
  · have g3 : what = 0 := Classical.byContradiction g3
    refine k_gp rfl rfl trivial ?_
    refine k_call0 rfl (ev_m_nearest (by omega) hF) rfl rfl rfl (by decide) ?_
    rintro a b' w2 ⟨⟨z, rfl, hz⟩, rfl, rfl⟩
    exact k_ret rfl trivial ⟨rfl, hs, z, rfl, fun q => absurd ⟨g1, g2⟩ q, fun _ => ⟨fun _ => hz, fun q => by omega, fun q => by omega⟩⟩
end ME
