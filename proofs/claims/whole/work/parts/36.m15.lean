/-! ===== the reference: may(), state(), found(); pure: the path ===== -/
/-- the answer of state() -/
def SA (S : Int → Bool) (i z : Int) : Prop := (i = -1 → z = ((cnt S 256 : Nat) : Int)) ∧ (0 ≤ i → (z = -4 ∧ ((cnt S 256 : Nat) : Int) ≤ i) ∨ ((0 ≤ z ∧ z < 256) ∧ S z = true ∧ ((cnt S z.toNat : Nat) : Int) = i))
theorem cnt_mono {p : Int → Bool} {a b : Nat} (h : a ≤ b) : cnt p a ≤ cnt p b := by
  induction b with
  | zero => have : a = 0 := by omega
            subst this; exact Nat.le_refl _
  | succ b ih =>
    by_cases hb : a = b + 1
    · rw [hb]; exact Nat.le_refl _
    · have := ih (by omega)
      show cnt p a ≤ cnt p b + (if p b = true then 1 else 0)
      omega
theorem cnt_at {p : Int → Bool} {a b : Int} (h0 : 0 ≤ a) (h : a < b) (hp : p a = true) : cnt p a.toNat + 1 ≤ cnt p b.toNat := by
  have h1 : cnt p (a.toNat + 1) ≤ cnt p b.toNat := cnt_mono (by omega)
  have h2 : cnt p (a.toNat + 1) = cnt p a.toNat + (if p ((a.toNat : Nat) : Int) = true then 1 else 0) := rfl
  rw [show ((a.toNat : Nat) : Int) = a by omega, if_pos hp] at h2
  omega
theorem SA_u {S : Int → Bool} {i z z' : Int} (hi : -1 ≤ i) (h : SA S i z) (h' : SA S i z') : z = z' := by
  by_cases h1 : i = -1
  · rw [h.1 h1, h'.1 h1]
  · rcases h.2 (by omega) with ⟨a1, a2⟩ | ⟨a1, a2, a3⟩
    · rcases h'.2 (by omega) with ⟨b1, b2⟩ | ⟨b1, b2, b3⟩
      · omega
      · have := cnt_at (b := 256) b1.1 b1.2 b2
        have e : (256 : Int).toNat = 256 := rfl
        rw [e] at this
        omega
    · rcases h'.2 (by omega) with ⟨b1, b2⟩ | ⟨b1, b2, b3⟩
      · have := cnt_at (b := 256) a1.1 a1.2 a2
        have e : (256 : Int).toNat = 256 := rfl
        rw [e] at this
        omega
      · rcases Int.lt_trichotomy z z' with q | q | q
        · have := cnt_at a1.1 q a2; omega
        · exact q
        · have := cnt_at b1.1 q b2; omega
/-- the answer of found() -/
def FO (S : Int → Bool) (L m : Int) : Prop := (0 ≤ m ∧ m < 256) ∧ ∀ g, 0 ≤ g → g < 8 → (hb m g ↔ hb L g ∧ ∀ u, 0 ≤ u → u < 256 → S u = true → hb u g)
theorem FO_u {S : Int → Bool} {L m m' : Int} (h : FO S L m) (h' : FO S L m') : m = m' :=
  bits_eq (n := 8) h.1 h'.1 (fun g a b => (h.2 g a (by omega)).trans (h'.2 g a (by omega)).symm)
theorem hb_and {a b g : Int} (ha : 0 ≤ a ∧ a < 256) (hb_ : 0 ≤ b ∧ b < 256) : (0 ≤ mm_and a b ∧ mm_and a b < 256) ∧ (hb (mm_and a b) g ↔ hb a g ∧ hb b g) := by
  have h := bb_and (x := a.toNat) (y := b.toNat) (by omega) (by omega)
  rw [show ((a.toNat : Nat) : Int) = a by omega, show ((b.toNat : Nat) : Int) = b by omega] at h
  have h2 := Nat.and_le_left (n := a.toNat) (m := b.toNat)
  refine ⟨by omega, ?_⟩
  rw [hb_tb (by omega), hb_tb ha.1, hb_tb hb_.1, h]
  show (a.toNat &&& b.toNat).testBit g.toNat = true ↔ _
  rw [Nat.testBit_and, Bool.and_eq_true]
section ME
variable {r : Bool × Bool} {y : Bool} {w : mm_M}
theorem ev_m_may {x cb u : Int} (h : mP w) : mm_Ev K_X10_may (0, 0) [.inr (some (1, 0)), .inl x, .inl cb, .inl u] (PH r y) w (fun a b' w' => b' = PH r y ∧ sm lksL w w' ∧ a = some (.inl (if (0 ≤ x ∧ x < w 1 0 8) ∧ (0 ≤ cb ∧ cb ≤ 255) ∧ (0 ≤ u ∧ u ≤ 255) then ib (nxB (m_c w) (m_e w) (w 6 0) (w 1 0 4) (w 1 0 6) x cb u = true) else -1))) := by
  refine ev_intro ok_X10_may mo_X10_may (Nat.le_of_ble_eq_true rfl) (fun hrg has => ?_)
  have fF : ∀ l, ¬ ((0 ≤ x ∧ x < w 1 0 8) ∧ (0 ≤ cb ∧ cb ≤ 255) ∧ (0 ≤ u ∧ u ≤ 255)) → mm_Wk K_X10_may (0, 0) 30 l [] (PH r y) w (fun a b' w' => b' = PH r y ∧ sm lksL w w' ∧ a = some (.inl (if (0 ≤ x ∧ x < w 1 0 8) ∧ (0 ≤ cb ∧ cb ≤ 255) ∧ (0 ≤ u ∧ u ≤ 255) then ib (nxB (m_c w) (m_e w) (w 6 0) (w 1 0 4) (w 1 0 6) x cb u = true) else -1))) := fun l q => by
    refine k_gp rfl rfl trivial ?_
    exact k_ret rfl trivial ⟨rfl, sm_rf, by rw [if_neg q]⟩
  refine k_gp rfl rfl trivial ?_
  refine k_callp rfl (ev_m_isEdge h.2.2.2.2.1) rfl rfl rfl (by decide) ?_
  refine k_brz rfl (fun g1 => fF _ (fun q => g1 q.1)) (fun g1 => ?_)
  refine k_gp rfl rfl trivial ?_
  refine k_callp rfl ev_m_isIn rfl rfl rfl (by decide) ?_
  refine k_brz rfl (fun g2 => fF _ (fun q => g2 q.2.1)) (fun g2 => ?_)
  refine k_gp rfl rfl trivial ?_
  refine k_callp rfl ev_m_isIn rfl rfl rfl (by decide) ?_
  refine k_brn rfl (fun g3 => ?_) (fun g3 => fF _ (fun q => g3 q.2.2))
  refine k_gp rfl rfl trivial ?_
  refine k_call0 rfl (ev_m_becomes (cb := cb) h g1) rfl rfl rfl (by decide) ?_
  rintro a b' w1 ⟨rfl, rfl, hs, hcu⟩
  have hs' : sm lksL w w1 := sm_w hs (by decide)
  have hc := (hcu u g3.1 (by omega)).2
  refine k_gp rfl rfl (by simp only [true_and, mm_fits]; omega) ?_
  refine k_br rfl (fun g4 => ?_) (fun g4 => ?_)
  · refine k_gp rfl rfl trivial ?_
    exact k_ret rfl trivial ⟨rfl, hs', by rw [if_pos ⟨g1, g2, g3⟩, ib_f (fun q => hc.mpr q g4)]⟩
  · refine k_gp rfl rfl trivial ?_
    exact k_ret rfl trivial ⟨rfl, hs', by rw [if_pos ⟨g1, g2, g3⟩, ib_t (hc.mp g4)]⟩
theorem ev_m_state {p i : Int} (h : mP w) : mm_Ev K_X10_state (0, 0) [.inr (some (1, 0)), .inl p, .inl i] (PH r y) w (fun a b' w' => b' = PH r y ∧ sm lksL w w' ∧ ∃ z, a = some (.inl z) ∧ (¬ ((0 ≤ p ∧ p < w 1 0 2) ∧ -1 ≤ i) → z = -1) ∧ ((0 ≤ p ∧ p < w 1 0 2) ∧ -1 ≤ i → SA (fun u => inQ (mQ w) (256 * p + u)) i z)) := by
  refine ev_intro ok_X10_state mo_X10_state (Nat.le_of_ble_eq_true rfl) (fun hrg has => ?_)
  have hnp := h.1
  have fF : ∀ l, ¬ ((0 ≤ p ∧ p < w 1 0 2) ∧ -1 ≤ i) → mm_Wk K_X10_state (0, 0) 13 l [] (PH r y) w (fun a b' w' => b' = PH r y ∧ sm lksL w w' ∧ ∃ z, a = some (.inl z) ∧ (¬ ((0 ≤ p ∧ p < w 1 0 2) ∧ -1 ≤ i) → z = -1) ∧ ((0 ≤ p ∧ p < w 1 0 2) ∧ -1 ≤ i → SA (fun u => inQ (mQ w) (256 * p + u)) i z)) := fun l q => by
    refine k_gp rfl rfl trivial ?_
    exact k_ret rfl trivial ⟨rfl, sm_rf, -1, rfl, fun _ => rfl, fun z => absurd z q⟩
  refine k_gp rfl rfl trivial ?_
  refine k_callp rfl (ev_m_isPlace (by omega)) rfl rfl rfl (by decide) ?_
  refine k_brz rfl (fun g1 => fF _ (fun q => g1 q.1)) (fun g1 => ?_)
  refine k_gp rfl rfl trivial ?_
  refine k_br rfl (fun g2 => ?_) (fun g2 => fF _ (fun q => g2 q.2))
  refine k_gp rfl rfl trivial ?_
  refine k_call0 rfl (ev_m_looks h) rfl rfl rfl (by decide) ?_
  rintro a b' w1 ⟨rfl, rfl, hs, hQ⟩
  have hin : ∀ u, 0 ≤ u → u < 256 → (w1 17 0 (256 * p + u) ≠ 0 ↔ inQ (mQ w) (256 * p + u) = true) := fun u a b => (hQ.2.2.1 (256 * p + u) (by omega) (by omega)).2
  refine k_gp rfl rfl trivial ?_
  refine mm_loop (σ := Int) 256 (fun c n => (0 ≤ c ∧ c ≤ 256) ∧ n = ((cnt (fun u => inQ (mQ w) (256 * p + u)) c.toNat : Nat) : Int) ∧ (0 ≤ i → n ≤ i)) (fun c n => mm_Wk K_X10_state (0, 0) 24 [some (.inr (some (1, 0))), some (.inl p), some (.inl i), some (.inl n), some (.inl c)] [] (PH r y) w1 (fun a b' w' => b' = PH r y ∧ sm lksL w w' ∧ ∃ z, a = some (.inl z) ∧ (¬ ((0 ≤ p ∧ p < w 1 0 2) ∧ -1 ≤ i) → z = -1) ∧ ((0 ≤ p ∧ p < w 1 0 2) ∧ -1 ≤ i → SA (fun u => inQ (mQ w) (256 * p + u)) i z))) ?_ ?_ 0 0 ⟨by omega, rfl, fun q => q⟩
  · intro c n h1 h2 ih
    obtain ⟨h2, h3, h4⟩ := h2
    have hl := cnt_le (fun u => inQ (mQ w) (256 * p + u)) c.toNat
    have hc1 : cnt (fun u => inQ (mQ w) (256 * p + u)) (c + 1).toNat = cnt (fun u => inQ (mQ w) (256 * p + u)) c.toNat + (if inQ (mQ w) (256 * p + c) = true then 1 else 0) := by
      rw [show (c + 1).toNat = c.toNat + 1 by omega]
      show _ + (if inQ (mQ w) (256 * p + ((c.toNat : Nat) : Int)) = true then 1 else 0) = _
      rw [show ((c.toNat : Nat) : Int) = c by omega]
    refine k_gp rfl rfl trivial ?_
    refine k_brf rfl (by omega) ?_
    refine k_gp rfl rfl (by simp only [true_and, mm_fits]; omega) ?_
    refine k_br rfl (fun g3 => ?_) (fun g3 => ?_)
    · refine k_gp rfl rfl (by simp only [true_and, mm_fits]; omega) ?_
      exact ih n ⟨by omega, by rw [hc1, if_neg (fun q => (hin c (by omega) (by omega)).mpr q g3)]; exact h3, h4⟩
    · have hi1 := (hin c (by omega) (by omega)).mp g3
      refine k_gp rfl rfl trivial ?_
      refine k_br rfl (fun g4 => ?_) (fun g4 => ?_)
      · refine k_gp rfl rfl (by simp only [true_and, mm_fits]; omega) ?_
        refine k_gp rfl rfl (by simp only [true_and, mm_fits]; omega) ?_
        exact ih (n + 1) ⟨by omega, by rw [hc1, if_pos hi1, h3]; omega, fun q => by have := h4 q; omega⟩
      · have g4 : n = i := Classical.byContradiction g4
        refine k_gp rfl rfl trivial ?_
        exact k_ret rfl trivial ⟨rfl, hs, c, rfl, fun q => absurd ⟨g1, g2⟩ q, fun _ => ⟨fun q => by omega, fun _ => Or.inr ⟨by omega, hi1, by omega⟩⟩⟩
  · intro c n h1 h2
    obtain ⟨h2, h3, h4⟩ := h2
    have hc : c = 256 := by omega
    subst hc
    have e : (256 : Int).toNat = 256 := rfl
    rw [e] at h3
    refine k_gp rfl rfl trivial ?_
    refine k_brt rfl (by omega) ?_
    refine k_gp rfl rfl trivial ?_
    refine k_br rfl (fun g3 => ?_) (fun g3 => ?_)
    · refine k_gp rfl rfl trivial ?_
      exact k_ret rfl trivial ⟨rfl, hs, -4, rfl, fun q => absurd ⟨g1, g2⟩ q, fun _ => ⟨fun q => by omega, fun _ => Or.inl ⟨rfl, by have := h4 g3; omega⟩⟩⟩
    · refine k_gp rfl rfl trivial ?_
      exact k_ret rfl trivial ⟨rfl, hs, n, rfl, fun q => absurd ⟨g1, g2⟩ q, fun _ => ⟨fun q => h3, fun q => by omega⟩⟩
theorem ev_m_found {p : Int} (h : mP w) : mm_Ev K_X10_found (0, 0) [.inr (some (1, 0)), .inl p] (PH r y) w (fun a b' w' => b' = PH r y ∧ sm lksL w w' ∧ ∃ z, a = some (.inl z) ∧ (¬ (0 ≤ p ∧ p < w 1 0 2) → z = -1) ∧ ((0 ≤ p ∧ p < w 1 0 2) → FO (fun u => inQ (mQ w) (256 * p + u)) (w 6 0 p) z)) := by
  refine ev_intro ok_X10_found mo_X10_found (Nat.le_of_ble_eq_true rfl) (fun hrg has => ?_)
  have hnp := h.1
  refine k_gp rfl rfl trivial ?_
  refine k_callp rfl (ev_m_isPlace (by omega)) rfl rfl rfl (by decide) ?_
  refine k_brn rfl (fun g1 => ?_) (fun g1 => ?_)
  · have kp := mP_255 h g1.1 (by omega)
    refine k_gp rfl rfl trivial ?_
    refine k_call0 rfl (ev_m_looks h) rfl rfl rfl (by decide) ?_
    rintro a b' w1 ⟨rfl, rfl, hs, hQ⟩
    have hin : ∀ u, 0 ≤ u → u < 256 → (w1 17 0 (256 * p + u) ≠ 0 ↔ inQ (mQ w) (256 * p + u) = true) := fun u a b => (hQ.2.2.1 (256 * p + u) (by omega) (by omega)).2
    have e6 : w1 6 0 p = w 6 0 p := hs 6 0 p rfl
    refine k_gp rfl rfl (by simp only [true_and, mm_fits]; omega) ?_
    rw [e6]
    refine mm_loop (σ := Int) 256 (fun c m => (0 ≤ c ∧ c ≤ 256) ∧ (0 ≤ m ∧ m < 256) ∧ ∀ g, 0 ≤ g → g < 8 → (hb m g ↔ hb (w 6 0 p) g ∧ ∀ u, 0 ≤ u → u < c → inQ (mQ w) (256 * p + u) = true → hb u g)) (fun c m => mm_Wk K_X10_found (0, 0) 23 [some (.inr (some (1, 0))), some (.inl p), some (.inl m), some (.inl c)] [] (PH r y) w1 (fun a b' w' => b' = PH r y ∧ sm lksL w w' ∧ ∃ z, a = some (.inl z) ∧ (¬ (0 ≤ p ∧ p < w 1 0 2) → z = -1) ∧ ((0 ≤ p ∧ p < w 1 0 2) → FO (fun u => inQ (mQ w) (256 * p + u)) (w 6 0 p) z))) ?_ ?_ 0 (w 6 0 p) ⟨by omega, kp, fun g a b => ⟨fun q => ⟨q, fun u u1 u2 => by omega⟩, fun q => q.1⟩⟩
    · intro c m h1 h2 ih
      obtain ⟨h2, h3, h4⟩ := h2
      refine k_gp rfl rfl trivial ?_
      refine k_brf rfl (by omega) ?_
      refine k_gp rfl rfl (by simp only [true_and, mm_fits]; omega) ?_
      refine k_br rfl (fun g3 => ?_) (fun g3 => ?_)
      · refine k_gp rfl rfl trivial ?_
        refine k_gp rfl rfl (by simp only [true_and, mm_fits]; omega) ?_
        refine ih _ ⟨by omega, (hb_and (g := 0) h3 (by omega)).1, fun g a b => ((hb_and (g := g) h3 (show (0 : Int) ≤ 255 ∧ (255 : Int) < 256 by omega)).2.trans ?_)⟩
        rw [h4 g a b]
        have h255 : hb 255 g := by
          rw [hb_tb (by omega)]
          show (255 : Nat).testBit g.toNat = true
          rw [show (255 : Nat) = 2 ^ 8 - 1 from rfl, Nat.testBit_two_pow_sub_one, decide_eq_true_eq]
          omega
        refine ⟨fun q => ⟨q.1.1, fun u u1 u2 u3 => ?_⟩, fun q => ⟨⟨q.1, fun u u1 u2 u3 => q.2 u u1 (by omega) u3⟩, h255⟩⟩
        by_cases hu : u = c
        · subst hu; exact absurd ((hin u u1 (by omega)).mpr u3) (fun z => z g3)
        · exact q.1.2 u u1 (by omega) u3
      · refine k_gp rfl rfl trivial ?_
        refine k_gp rfl rfl (by simp only [true_and, mm_fits]; omega) ?_
        refine ih _ ⟨by omega, (hb_and (g := 0) h3 (by omega)).1, fun g a b => ((hb_and (g := g) h3 (show 0 ≤ c ∧ c < 256 by omega)).2.trans ?_)⟩
        rw [h4 g a b]
        refine ⟨fun q => ⟨q.1.1, fun u u1 u2 u3 => ?_⟩, fun q => ⟨⟨q.1, fun u u1 u2 u3 => q.2 u u1 (by omega) u3⟩, q.2 c (by omega) (by omega) ((hin c (by omega) (by omega)).mp g3)⟩⟩
        by_cases hu : u = c
        · subst hu; exact q.2
        · exact q.1.2 u u1 (by omega) u3
    · intro c m h1 h2
      obtain ⟨h2, h3, h4⟩ := h2
      have hc : c = 256 := by omega
      subst hc
      refine k_gp rfl rfl trivial ?_
      refine k_brt rfl (by omega) ?_
      refine k_gp rfl rfl trivial ?_
      exact k_ret rfl trivial ⟨rfl, hs, m, rfl, fun q => absurd g1 q, fun _ => ⟨h3, h4⟩⟩
  · refine k_gp rfl rfl trivial ?_
    exact k_ret rfl trivial ⟨rfl, sm_rf, -1, rfl, fun _ => rfl, fun q => absurd q g1⟩
end ME
