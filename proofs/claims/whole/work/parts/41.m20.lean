/-! ===== the reference: check(), count() ===== -/
/-- rounds of mending: how it stands, how it ends and what is looked at then -/
def CKR (c e : Int → Int → Int) (f : Int → Int) (nv nc ne trap : Int) : Nat → (Int → Int) → Int → Int → (Int → Int) → Prop
  | 0, lk, h, z, lk' => z = h ∧ lk' = lk
  | n + 1, lk, h, z, lk' => (h ≠ 2 → z = h ∧ lk' = lk) ∧ (h = 2 → ∃ k s, FT (MQ_ c e f lk nv nc ne) trap k ∧ SF nc (fun s => EN c e f (fun p => mm_or (lk p) s) nv nc (PT (MQ_ c e f lk nv nc ne) k)) s ∧ (s < 0 → z = 3 ∧ lk' = lk) ∧ (0 ≤ s → ∃ h', HOW c e f nv trap (MQ_ c e f (lkU e lk (PT (MQ_ c e f lk nv nc ne) k) s) nv nc ne) h' ∧ CKR c e f nv nc ne trap n (lkU e lk (PT (MQ_ c e f lk nv nc ne) k) s) h' z lk'))
theorem CKR_u {c e : Int → Int → Int} {f : Int → Int} {nv nc ne trap : Int} : ∀ (n : Nat) {lk : Int → Int} {h z : Int} {lk' : Int → Int} {z2 : Int} {lk2 : Int → Int}, CKR c e f nv nc ne trap n lk h z lk' → CKR c e f nv nc ne trap n lk h z2 lk2 → z = z2 ∧ lk' = lk2
  | 0, lk, h, z, lk', z2, lk2, a, b => ⟨a.1.trans b.1.symm, a.2.trans b.2.symm⟩
  | n + 1, lk, h, z, lk', z2, lk2, a, b => by
    by_cases hh : h = 2
    · obtain ⟨k, s, a1, a2, a3, a4⟩ := a.2 hh
      obtain ⟨k', s', b1, b2, b3, b4⟩ := b.2 hh
      have := FT_u a1 b1
      subst this
      have := SF_u a2 b2
      subst this
      rcases Int.lt_or_le s 0 with q | q
      · exact ⟨(a3 q).1.trans (b3 q).1.symm, (a3 q).2.trans (b3 q).2.symm⟩
      · obtain ⟨h1, a5, a6⟩ := a4 q
        obtain ⟨h2, b5, b6⟩ := b4 q
        have := HOW_u a5 b5
        subst this
        exact CKR_u n a6 b6
    · exact ⟨(a.1 hh).1.trans (b.1 hh).1.symm, (a.1 hh).2.trans (b.1 hh).2.symm⟩
/-- what is looked at, counted -/
def tot (lk : Int → Int) : Nat → Int
  | 0 => 0
  | k + 1 => tot lk k + pop8 (lk k) 8
section ME
variable {r : Bool × Bool} {y : Bool} {w : mm_M}
theorem orN {n : Nat} (hn : n ≤ 8) {a b : Int} (ha : 0 ≤ a ∧ a < ((2 ^ n : Nat) : Int)) (hb : 0 ≤ b ∧ b < ((2 ^ n : Nat) : Int)) : 0 ≤ mm_or a b ∧ mm_or a b < ((2 ^ n : Nat) : Int) := by
  have h8 : 2 ^ n ≤ 2 ^ 8 := Nat.pow_le_pow_right (by decide) hn
  obtain ⟨x, rfl⟩ := Int.eq_ofNat_of_zero_le ha.1
  obtain ⟨z, rfl⟩ := Int.eq_ofNat_of_zero_le hb.1
  have : x ||| z < 2 ^ n := Nat.or_lt_two_pow (by omega) (by omega)
  rw [bb_or (by omega) (by omega)]
  omega
theorem lkU_hi {e : Int → Int → Int} {lk : Int → Int} {ρ : List Int} {set p : Int} (hp : 8 ≤ p) (hρ : ∀ x ∈ ρ, e x 1 < 8) : lkU e lk ρ set p = lk p := by
  unfold lkU
  rw [if_neg]
  intro q
  unfold onP at q
  rw [Bool.or_eq_true, decide_eq_true_eq, List.any_eq_true] at q
  rcases q with q | ⟨x, hx, q⟩
  · omega
  · have := hρ x hx
    have := of_decide_eq_true q
    omega
theorem mP_lkU {w' : mm_M} {ρ : List Int} {set : Int} (h : mP w) (hρ : ∀ x ∈ ρ, 0 ≤ x ∧ x < w 1 0 8) (hs : 0 ≤ set ∧ set < ((2 ^ (w 1 0 6).toNat : Nat) : Int)) (s1 : sm [(6, none)] w w') (hu : w' 6 0 = lkU (m_e w) (w 6 0) ρ set) : mP w' ∧ m_c w' = m_c w ∧ m_e w' = m_e w := by
  have hnp := h.1
  have hnc := h.2.2.2.1
  have hE := h.2.2.2.2.2.2.1
  have hr : ∀ x ∈ ρ, m_e w x 1 < 8 := fun x hx => by
    have := (hE x (hρ x hx).1 (hρ x hx).2).2.1
    omega
  have e1 : m_c w' = m_c w := by
    funext g k
    exact s1 4 0 _ rfl
  have e2 : m_e w' = m_e w := by
    funext x k
    unfold m_e
    split
    · rw [hu, lkU_hi (by omega) hr]
    · exact s1 5 0 _ rfl
  refine ⟨?_, e1, e2⟩
  unfold mP
  rw [e1, e2, s1 1 0 2 rfl, s1 1 0 3 rfl, s1 1 0 4 rfl, s1 1 0 6 rfl, s1 1 0 8 rfl]
  refine ⟨h.1, h.2.1, h.2.2.1, h.2.2.2.1, h.2.2.2.2.1, h.2.2.2.2.2.1, h.2.2.2.2.2.2.1, fun p a b => ?_⟩
  have h0 := h.2.2.2.2.2.2.2 p a b
  rw [hu]
  unfold lkU
  split
  · exact orN (by omega) h0 hs
  · exact h0
abbrev ckL : List (Nat × Option Int) := (6, none) :: ptL
set_option maxRecDepth 100000 in
theorem ev_m_check {m : Int} (h : mP w) (hc : 0 ≤ w 1 0 12 ∧ w 1 0 12 ≤ 6) : mm_Ev K_X10_check (0, 0) [.inr (some (1, 0)), .inl m] (PH r y) w (fun a b' w' => b' = PH r y ∧ (¬ (1 ≤ m ∧ m ≤ 9) → a = some (.inl (-1)) ∧ w' = w) ∧ ((1 ≤ m ∧ m ≤ 9) → ∃ z h0, a = some (.inl z) ∧ HOW (m_c w) (m_e w) (w 3 0) (w 1 0 4) (w 1 0 3) (mQ w) h0 ∧ sm ckL (kepW w) w' ∧ CKR (m_c w) (m_e w) (w 3 0) (w 1 0 4) (w 1 0 6) (w 1 0 8) (w 1 0 3) m.toNat (w 6 0) h0 z (w' 6 0))) := by
  refine ev_intro ok_X10_check mo_X10_check (Nat.le_of_ble_eq_true rfl) (fun hrg has => ?_)
  refine k_gp rfl rfl trivial ?_
  refine k_callp rfl ev_m_isIn rfl rfl rfl (by decide) ?_
  refine k_brn rfl (fun g1 => ?_) (fun g1 => ?_)
  · refine k_gp rfl rfl trivial ?_
    refine k_callp rfl (ev_m_keeps hc) rfl rfl rfl (by decide) ?_
    have sk := kep_sm (w := w)
    obtain ⟨hP1, ec1, ee1⟩ := mP_sm sk rfl (fun _ => rfl) (fun _ => rfl) (fun _ => rfl) h
    have k3 : kepW w 3 0 = w 3 0 := funext fun k => sk 3 0 k rfl
    have k6 : kepW w 6 0 = w 6 0 := funext fun k => sk 6 0 k rfl
    have i3 : kepW w 1 0 3 = w 1 0 3 := sk 1 0 3 rfl
    have i4 : kepW w 1 0 4 = w 1 0 4 := sk 1 0 4 rfl
    have i6 : kepW w 1 0 6 = w 1 0 6 := sk 1 0 6 rfl
    have i8 : kepW w 1 0 8 = w 1 0 8 := sk 1 0 8 rfl
    have kQ : mQ (kepW w) = mQ w := by
      show MQ_ _ _ _ _ _ _ _ = MQ_ _ _ _ _ _ _ _
      rw [ec1, ee1, k3, k6, i4, i6, i8]
    rw [← kQ]
    generalize hw1 : kepW w = w1 at *
    rw [← ec1, ← ee1, ← k3, ← k6, ← i3, ← i4, ← i6, ← i8]
    clear sk ec1 ee1 k3 k6 i3 i4 i6 i8 hw1 kQ
    have hne := hP1.2.2.2.2.1
    have hnc := hP1.2.2.2.1
    refine k_gp rfl rfl trivial ?_
    refine k_call0 rfl (ev_m_how hP1) rfl rfl rfl (by decide) ?_
    rintro a b' w2 ⟨rfl, s2, h0, rfl, hH, k0, hF, hPk, hz⟩
    refine k_gp rfl rfl trivial ?_
    have nQ : ∀ {wa wb : mm_M}, m_c wb = m_c wa → m_e wb = m_e wa → wb 3 0 = wa 3 0 → wb 6 0 = wa 6 0 → wb 1 0 4 = wa 1 0 4 → wb 1 0 6 = wa 1 0 6 → wb 1 0 8 = wa 1 0 8 → mQ wb = mQ wa := fun q1 q2 q3 q4 q5 q6 q7 => by
      show MQ_ _ _ _ _ _ _ _ = MQ_ _ _ _ _ _ _ _
      rw [q1, q2, q3, q4, q5, q6, q7]
    refine mm_loop (σ := mm_M × Int) m (fun k s => (0 ≤ k ∧ k ≤ m) ∧ sm ckL w1 s.1 ∧ mP s.1 ∧ m_e s.1 = m_e w1 ∧ (∃ kk, FT (mQ s.1) (w1 1 0 3) kk ∧ (s.2 ≠ 0 → 0 ≤ kk ∧ kk < (mQ s.1).length ∧ PM s.1 (PT (mQ s.1) kk))) ∧ (s.2 = 0 ∨ s.2 = 1 ∨ s.2 = 2) ∧ ∀ z lk', CKR (m_c w1) (m_e w1) (w1 3 0) (w1 1 0 4) (w1 1 0 6) (w1 1 0 8) (w1 1 0 3) (m - k).toNat (s.1 6 0) s.2 z lk' → CKR (m_c w1) (m_e w1) (w1 3 0) (w1 1 0 4) (w1 1 0 6) (w1 1 0 8) (w1 1 0 3) m.toNat (w1 6 0) h0 z lk') (fun k s => ∀ l4, mm_Wk K_X10_check (0, 0) 23 [some (.inr (some (1, 0))), some (.inl m), some (.inl s.2), some (.inl k), l4] [] (PH r y) s.1 (fun a b' w' => b' = PH r y ∧ (¬ (1 ≤ m ∧ m ≤ 9) → a = some (.inl (-1)) ∧ w' = w) ∧ ((1 ≤ m ∧ m ≤ 9) → ∃ z h0, a = some (.inl z) ∧ HOW (m_c w1) (m_e w1) (w1 3 0) (w1 1 0 4) (w1 1 0 3) (mQ w1) h0 ∧ sm ckL w1 w' ∧ CKR (m_c w1) (m_e w1) (w1 3 0) (w1 1 0 4) (w1 1 0 6) (w1 1 0 8) (w1 1 0 3) m.toNat (w1 6 0) h0 z (w' 6 0)))) ?_ ?_ 0 (w2, h0) ?_ _
    · rintro k ⟨w3, hh⟩ q1 ⟨q2, s3, hP3, ee3, ⟨kk, hF3, hPM3⟩, hz3, hK⟩ ih l4
      dsimp only at hP3 ee3 hF3 hPM3 hz3 hK s3 ⊢
      have ec3 : m_c w3 = m_c w1 := by
        funext g k
        exact s3 4 0 _ rfl
      have j3 : w3 3 0 = w1 3 0 := funext fun k => s3 3 0 k rfl
      have t3 : w3 1 0 3 = w1 1 0 3 := s3 1 0 3 rfl
      have t4 : w3 1 0 4 = w1 1 0 4 := s3 1 0 4 rfl
      have t6 : w3 1 0 6 = w1 1 0 6 := s3 1 0 6 rfl
      have t8 : w3 1 0 8 = w1 1 0 8 := s3 1 0 8 rfl
      have hQ3 : mQ w3 = MQ_ (m_c w1) (m_e w1) (w1 3 0) (w3 6 0) (w1 1 0 4) (w1 1 0 6) (w1 1 0 8) := by
        show MQ_ _ _ _ _ _ _ _ = MQ_ _ _ _ _ _ _ _
        rw [ec3, ee3, j3, t4, t6, t8]
      have hmk : (m - k).toNat = (m - (k + 1)).toNat + 1 := by omega
      rw [hmk] at hK
      refine k_gp rfl rfl trivial ?_
      refine k_brf rfl (by omega) ?_
      refine k_gp rfl rfl trivial ?_
      refine k_br rfl (fun g2 => ?_) (fun g2 => ?_)
      · refine k_gp rfl rfl trivial ?_
        exact k_ret rfl trivial ⟨rfl, fun q => absurd g1 q, fun _ => ⟨hh, h0, rfl, hH, s3, hK _ _ ⟨fun _ => ⟨rfl, rfl⟩, fun q => absurd q g2⟩⟩⟩
      · have g2 : hh = 2 := Classical.byContradiction g2
        obtain ⟨kk0, kk1, hPM3⟩ := hPM3 (by omega)
        have hW : QW (m_e w3) (w3 1 0 8) (mQ w3) := QW_MQ (by rw [t8]; exact hne)
        obtain ⟨p1, p2, p3⟩ := PT_ok hW (kk.toNat + 1) kk kk0 kk1 (by omega)
        refine k_gp rfl rfl trivial ?_
        refine k_call0 rfl (ev_m_setFor hP3 hPM3 p2) rfl rfl rfl (by decide) ?_
        rintro a b' w4 ⟨rfl, s4, u, rfl, hu⟩
        have s04 : sm ckL w1 w4 := sm_tr s3 (sm_w s4 (by decide))
        have j46 : w4 6 0 = w3 6 0 := funext fun k => s4 6 0 k rfl
        refine k_gp rfl rfl trivial ?_
        refine k_br rfl (fun g3 => ?_) (fun g3 => ?_)
        · obtain ⟨hP4, ec4, ee4⟩ := mP_sm s4 rfl (fun _ => rfl) (fun _ => rfl) (fun _ => rfl) hP3
          have hPM4 := PM_sm s4 rfl (fun _ => rfl) hPM3
          have hur : 0 ≤ u ∧ u < ((2 ^ (w4 1 0 6).toNat : Nat) : Int) := by
            rcases hu with ⟨q, _⟩ | ⟨q, _⟩
            · omega
            · rw [show w4 1 0 6 = w3 1 0 6 from s4 1 0 6 rfl]; omega
          have p4 : ∀ x ∈ PT (mQ w3) kk, 0 ≤ x ∧ x < w4 1 0 8 := by
            rw [show w4 1 0 8 = w3 1 0 8 from s4 1 0 8 rfl]; exact p2
          refine k_gp rfl rfl trivial ?_
          refine k_call0 rfl (ev_m_looksMore (set := u) hP4 hPM4 p4) rfl rfl rfl (by decide) ?_
          rintro a b' w5 ⟨rfl, rfl, s5, hu5⟩
          obtain ⟨hP5, ec5, ee5⟩ := mP_lkU hP4 p4 hur s5 hu5
          rw [ee4, ee3, j46] at hu5
          have s05 : sm ckL w1 w5 := sm_tr s04 (sm_w s5 (by decide))
          refine k_gp rfl rfl trivial ?_
          refine k_call0 rfl (ev_m_how hP5) rfl rfl rfl (by decide) ?_
          rintro a b' w6 ⟨rfl, s6, h6, rfl, hH6, k6, hF6, hPk6, hz6⟩
          obtain ⟨hP6, ec6, ee6⟩ := mP_sm s6 rfl (fun _ => rfl) (fun _ => rfl) (fun _ => rfl) hP5
          have s06 : sm ckL w1 w6 := sm_tr s05 (sm_w s6 (by decide))
          have j66 : w6 6 0 = w5 6 0 := funext fun k => s6 6 0 k rfl
          have hQ6 : mQ w6 = mQ w5 := nQ ec6 ee6 (funext fun k => s6 3 0 k rfl) j66 (s6 1 0 4 rfl) (s6 1 0 6 rfl) (s6 1 0 8 rfl)
          have hQ5 : mQ w5 = MQ_ (m_c w1) (m_e w1) (w1 3 0) (lkU (m_e w1) (w3 6 0) (PT (mQ w3) kk) u) (w1 1 0 4) (w1 1 0 6) (w1 1 0 8) := by
            show MQ_ _ _ _ _ _ _ _ = MQ_ _ _ _ _ _ _ _
            rw [ec5, ec4, ec3, ee5, ee4, ee3, hu5, show w5 3 0 = w1 3 0 from funext fun k => s05 3 0 k rfl, show w5 1 0 4 = w1 1 0 4 from s05 1 0 4 rfl, show w5 1 0 6 = w1 1 0 6 from s05 1 0 6 rfl, show w5 1 0 8 = w1 1 0 8 from s05 1 0 8 rfl]
          rw [show w5 1 0 3 = w1 1 0 3 from s05 1 0 3 rfl] at hF6
          refine k_gp rfl rfl (by simp only [true_and, mm_fits]; omega) ?_
          refine ih (w6, h6) ⟨by omega, s06, hP6, by rw [ee6, ee5, ee4, ee3], ⟨k6, by rw [hQ6]; exact hF6, fun q => by rw [hQ6]; exact hPk6 q⟩, hz6, fun z lk' q => ?_⟩ _
          refine hK z lk' ⟨fun q => absurd g2 q, fun _ => ⟨kk, u, ?_, ?_, fun q => by omega, fun _ => ⟨h6, ?_, ?_⟩⟩⟩
          · rw [← hQ3]; exact hF3
          · rw [← hQ3]
            rw [ec3, ee3, j3, t4, t6] at hu
            exact hu
          · rw [← hQ3, ← hQ5]
            rw [ec5, ec4, ec3, ee5, ee4, ee3, show w5 3 0 = w1 3 0 from funext fun k => s05 3 0 k rfl, show w5 1 0 4 = w1 1 0 4 from s05 1 0 4 rfl, show w5 1 0 3 = w1 1 0 3 from s05 1 0 3 rfl] at hH6
            exact hH6
          · rw [← hQ3, ← hu5, ← j66]
            exact q
        · refine k_gp rfl rfl trivial ?_
          refine k_ret rfl trivial ⟨rfl, fun q => absurd g1 q, fun _ => ⟨3, h0, rfl, hH, s04, hK _ _ ⟨fun q => absurd g2 q, fun _ => ⟨kk, u, ?_, ?_, fun _ => ⟨rfl, j46⟩, fun q => by omega⟩⟩⟩⟩
          · rw [← hQ3]; exact hF3
          · rw [← hQ3]
            rw [ec3, ee3, j3, t4, t6] at hu
            exact hu
    · rintro k ⟨w3, hh⟩ q1 ⟨q2, s3, hP3, ee3, ⟨kk, hF3, hPM3⟩, hz3, hK⟩ l4
      rw [show (m - k).toNat = 0 by omega] at hK
      refine k_gp rfl rfl trivial ?_
      refine k_brt rfl (by omega) ?_
      refine k_gp rfl rfl trivial ?_
      exact k_ret rfl trivial ⟨rfl, fun q => absurd g1 q, fun _ => ⟨hh, h0, rfl, hH, s3, hK _ _ ⟨rfl, rfl⟩⟩⟩
    · obtain ⟨hP2, ec2, ee2⟩ := mP_sm s2 rfl (fun _ => rfl) (fun _ => rfl) (fun _ => rfl) hP1
      have j6 : w2 6 0 = w1 6 0 := funext fun k => s2 6 0 k rfl
      have hQ2 : mQ w2 = mQ w1 := nQ ec2 ee2 (funext fun k => s2 3 0 k rfl) j6 (s2 1 0 4 rfl) (s2 1 0 6 rfl) (s2 1 0 8 rfl)
      refine ⟨by omega, sm_w s2 (by decide), hP2, ee2, ⟨k0, by rw [hQ2]; exact hF, fun q => by rw [hQ2]; exact hPk q⟩, hz, fun z lk' q => ?_⟩
      rw [show m - 0 = m by omega] at q
      dsimp only at q
      rw [j6] at q
      exact q
  · refine k_gp rfl rfl trivial ?_
    exact k_ret rfl trivial ⟨rfl, fun _ => ⟨rfl, rfl⟩, fun q => absurd q g1⟩
theorem ev_m_count {i : Int} (h : mP w) : mm_Ev K_X10_count (0, 0) [.inr (some (1, 0)), .inl i] (PH r y) w (fun a b' w' => b' = PH r y ∧ sm ptL w w' ∧ a = some (.inl (if i = 0 then w 1 0 2 else if i = 1 then w 1 0 3 else if i = 2 then w 1 0 4 else if i = 3 then w 1 0 6 else if i = 4 then w 1 0 8 else if i = 5 then tot (w 6 0) (w 1 0 2).toNat else if i = 6 then (mQ w).length else if i = 7 then w 1 0 12 else if i = 8 then w 1 0 0 else -1))) := by
  refine ev_intro ok_X10_count mo_X10_count (Nat.le_of_ble_eq_true rfl) (fun hrg has => ?_)
  have hnp := h.1
  refine k_gp rfl rfl trivial ?_
  refine k_ts rfl rfl ⟨fun g => ?_, fun g => ?_, fun g => ?_, fun g => ?_, fun g => ?_, fun g => ?_, fun g => ?_, fun g => ?_, fun g => ?_, trivial⟩ (fun g => ?_)
  · have g : i = 0 := by omega
    subst g
    refine k_gp rfl rfl trivial ?_
    exact k_ret rfl trivial ⟨rfl, sm_rf, rfl⟩
  · have g : i = 1 := by omega
    subst g
    refine k_gp rfl rfl trivial ?_
    exact k_ret rfl trivial ⟨rfl, sm_rf, rfl⟩
  · have g : i = 2 := by omega
    subst g
    refine k_gp rfl rfl trivial ?_
    exact k_ret rfl trivial ⟨rfl, sm_rf, rfl⟩
  · have g : i = 3 := by omega
    subst g
    refine k_gp rfl rfl trivial ?_
    exact k_ret rfl trivial ⟨rfl, sm_rf, rfl⟩
  · have g : i = 4 := by omega
    subst g
    refine k_gp rfl rfl trivial ?_
    exact k_ret rfl trivial ⟨rfl, sm_rf, rfl⟩
  · have g : i = 5 := by omega
    subst g
    refine k_gp rfl rfl trivial ?_
    refine mm_loop (σ := Unit) (w 1 0 2) (fun k _ => 0 ≤ k ∧ k ≤ w 1 0 2 ∧ 0 ≤ tot (w 6 0) k.toNat ∧ tot (w 6 0) k.toNat ≤ 8 * k) (fun k _ => mm_Wk K_X10_count (0, 0) 81 [some (.inr (some (1, 0))), some (.inl 5), some (.inl (tot (w 6 0) k.toNat)), some (.inl k)] [] (PH r y) w (fun a b' w' => b' = PH r y ∧ sm ptL w w' ∧ a = some (.inl (tot (w 6 0) (w 1 0 2).toNat)))) ?_ ?_ 0 () ⟨by omega, by omega, Int.le_refl 0, Int.le_refl 0⟩
    · rintro k - q1 ⟨q2, q3, q4, q5⟩ ih
      have hb := mP_255 h (p := k) (by omega) (by omega)
      have hp8 := pop8_in (w 6 0 k) 8
      have ht : tot (w 6 0) (k + 1).toNat = tot (w 6 0) k.toNat + pop8 (w 6 0 k) 8 := by
        rw [show (k + 1).toNat = k.toNat + 1 by omega]
        show _ + pop8 (w 6 0 ((k.toNat : Nat) : Int)) 8 = _
        rw [show ((k.toNat : Nat) : Int) = k by omega]
      refine k_gp rfl rfl trivial ?_
      refine k_brf rfl (by omega) ?_
      refine k_gp rfl rfl (by simp only [true_and, mm_fits]; omega) ?_
      refine k_callp rfl (ev_m_bits (by omega)) rfl rfl rfl (by decide) ?_
      refine k_gp rfl rfl (by simp only [true_and, mm_fits]; omega) ?_
      rw [← ht]
      exact ih () ⟨by omega, by omega, by omega, by omega⟩
    · rintro k - q1 ⟨q2, q3, q4, q5⟩
      have : k = w 1 0 2 := by omega
      subst this
      refine k_gp rfl rfl trivial ?_
      refine k_brt rfl (by omega) ?_
      refine k_gp rfl rfl trivial ?_
      exact k_ret rfl trivial ⟨rfl, sm_rf, rfl⟩
  · have g : i = 6 := by omega
    subst g
    refine k_gp rfl rfl trivial ?_
    refine k_call0 rfl (ev_m_looks h) rfl rfl rfl (by decide) ?_
    rintro a b' w1 ⟨rfl, rfl, s1, hq⟩
    refine k_gp rfl rfl trivial ?_
    refine k_ret rfl trivial ⟨rfl, sm_w s1 (by decide), ?_⟩
    rw [hq.1]
    rfl
  · have g : i = 7 := by omega
    subst g
    refine k_gp rfl rfl trivial ?_
    exact k_ret rfl trivial ⟨rfl, sm_rf, rfl⟩
  · have g : i = 8 := by omega
    subst g
    refine k_gp rfl rfl trivial ?_
    exact k_ret rfl trivial ⟨rfl, sm_rf, rfl⟩
  · refine k_gp rfl rfl trivial ?_
    refine k_ret rfl trivial ⟨rfl, sm_rf, ?_⟩
    rw [if_neg (by omega), if_neg (by omega), if_neg (by omega), if_neg (by omega), if_neg (by omega), if_neg (by omega), if_neg (by omega), if_neg (by omega), if_neg (by omega)]
end ME
