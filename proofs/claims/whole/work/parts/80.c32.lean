/-! ===== the class: lay(), turn(), look(), undo() ===== -/
theorem xor8 {n : Nat} {a b : Int} (ha : 0 ≤ a ∧ a < ((2 ^ n : Nat) : Int)) (hb : 0 ≤ b ∧ b < ((2 ^ n : Nat) : Int)) (hn : n ≤ 8) : 0 ≤ mm_xor a b ∧ mm_xor a b < ((2 ^ n : Nat) : Int) := by
  have h8 : 2 ^ n ≤ 2 ^ 8 := Nat.pow_le_pow_right (by decide) hn
  have h8 : ((2 ^ n : Nat) : Int) ≤ 256 := Int.ofNat_le.mpr h8
  have e1 : ((a.toNat : Nat) : Int) = a := by omega
  have e2 : ((b.toNat : Nat) : Int) = b := by omega
  have h := bb_xor (x := a.toNat) (y := b.toNat) (by omega) (by omega)
  rw [e1, e2] at h
  rw [h]
  refine ⟨Int.natCast_nonneg _, Int.ofNat_lt.mpr (Nat.xor_lt_two_pow ?_ ?_)⟩
  · exact Int.ofNat_lt.mp (by rw [e1]; exact ha.2)
  · exact Int.ofNat_lt.mp (by rw [e2]; exact hb.2)
section MC
variable {r : Bool × Bool} {y : Bool} {w : mm_M} {np trap nv nc ne : Int} {c e : Int → Int → Int} {f lk : Int → Int} {d : Int} {hl : Int → Int → Int} {hw : Int → Int} {t : Int → Int} {n : Int}
theorem ev_c_lay (hX : CX w t n) (h3 : 0 ≤ w 43 0 3 ∧ w 43 0 3 < 6) : mm_Ev K_X9_lay (0, 0) [.inr (some (21, 0))] (PH r y) w (fun a b' w' => b' = PH r y ∧ sm tkL w w' ∧ ((told t n).1 = -4 ∧ (told t n).2.1.1 ≠ 0 → a = some (.inl (told t n).2.1.1) ∧ CS w' r y (told t n).2.1.1 (told t n).2.1.2.1 (told t n).2.1.2.2.1 (told t n).2.1.2.2.2.1 (told t n).2.1.2.2.2.2 (told t n).2.2.2.1 (told t n).2.2.2.2 (told t n).2.2.1 (fun _ => 0) 0 hl hw t n ∧ w' 21 0 7 = 1 ∧ w' 21 0 8 = 1) ∧ (¬ ((told t n).1 = -4 ∧ (told t n).2.1.1 ≠ 0) → a = some (.inl (-2)) ∧ sm ttL w w')) := by
  refine ev_intro ok_X9_lay mo_X9_lay (Nat.le_of_ble_eq_true rfl) (fun hrg has => ?_)
  refine k_gp rfl rfl (by first | trivial | decide | (simp only [true_and, mm_fits]; omega)) ?_
  refine k_call0 rfl (ev_c_takeText (hl := hl) (hw := hw) hX h3) rfl rfl rfl (by decide) ?_
  rintro a b' w1 ⟨rfl, s1, h1, h2⟩
  by_cases hg : (told t n).1 = -4 ∧ (told t n).2.1.1 ≠ 0
  · obtain ⟨rfl, hC, e7, e8⟩ := h1 hg
    refine k_brf rfl (by decide) ?_
    refine k_gp rfl rfl (by first | trivial | decide | (simp only [true_and, mm_fits]; omega)) ?_
    have e0 := hC.1.1.2.1.1.1
    rw [e0]
    exact k_ret rfl trivial ⟨rfl, s1, fun _ => ⟨rfl, hC, e7, e8⟩, fun z => absurd hg z⟩
  · obtain ⟨rfl, h3⟩ := h2 hg
    refine k_brt rfl (by decide) ?_
    refine k_gp rfl rfl (by first | trivial | decide | (simp only [true_and, mm_fits]; omega)) ?_
    exact k_ret rfl (by decide) ⟨rfl, s1, fun z => absurd z hg, fun _ => ⟨rfl, h3⟩⟩
theorem hk_sm {v : Int} : sm [(43, some 2), (43, some 3), (45, none), (46, none)] w (hkW w v) := by
  unfold hkW
  exact sm_up (sm_up (sm_up (sm_cp sm_rf (by decide)) (Or.inl (by decide))) (Or.inr (by decide))) (Or.inr (by decide))
def pd (d : Int) : Int := if 6 < d + 1 then 6 else d + 1
def pl_ (lk : Int → Int) (hl : Int → Int → Int) : Int → Int → Int := fun i p => if i = 0 then lk p else hl (i - 1) p
def pw (v : Int) (hw : Int → Int) : Int → Int := fun i => if i = 0 then v else hw (i - 1)
/-- something is kept -/
theorem CS_keep (h : CS w r y np trap nv nc ne c e f lk d hl hw t n) : CS (hkW w (WA e ne)) r y np trap nv nc ne c e f lk (pd d) (pl_ lk hl) (pw (WA e ne) hw) t n :=
  ⟨CB_eq (cbG_fr (hk_sm (v := WA e ne)) rfl) h.1, HI_keep h.2.1 h.1.1.2.2.2 (WA_in h.1.1.1.2.2.2.2.1), CX_sm h.2.2 (hk_sm (v := WA e ne)) (fun _ => rfl) rfl⟩
/-- the call of history.keep -/
theorem ev_c_hkeep (h : CS w r y np trap nv nc ne c e f lk d hl hw t n) : mm_Ev K_X0_keep (0, 0) [.inr (some (43, 0)), .inr (some (42, 0)), .inl (WA e ne)] (PH r y) w (mm_pe none (PH r y) (hkW w (WA e ne))) := by
  obtain ⟨⟨h1, h2, h3⟩, -⟩ := h.2.1
  exact ev_c_keep h3 (by omega)
set_option maxRecDepth 100000 in
theorem ev_c_turn {x : Int} (h : CS w r y np trap nv nc ne c e f lk d hl hw t n) : mm_Ev K_X9_turn (0, 0) [.inr (some (21, 0)), .inl x] (PH r y) w (fun a b' w' => b' = PH r y ∧ (¬ (0 ≤ x ∧ x < ne) → a = some (.inl (-1)) ∧ w' = w) ∧ (0 ≤ x ∧ x < ne → (e x 2 = 9 → a = some (.inl (-2)) ∧ w' = w) ∧ (e x 2 ≠ 9 → a = some (.inl (1 - e x 3)) ∧ lowS w w' ∧ w' 21 0 8 = 1 ∧ ∀ e', (∀ z k, 0 ≤ z → z < ne → 0 ≤ k → k < 7 → e' z k = if z = x ∧ k = 3 then 1 - e x 3 else e z k) → CS w' r y np trap nv nc ne c e' f lk (pd d) (pl_ lk hl) (pw (WA e ne) hw) t n))) := by
  refine ev_intro ok_X9_turn mo_X9_turn (Nat.le_of_ble_eq_true rfl) (fun hrg has => ?_)
  have hO := h.1.1.1
  have hP := h.1.1.2.1
  have hne := hO.2.2.2.2.1
  have e4 := hP.1.2.2.2.2
  have ev := ev_c_isEdge (r := r) (y := y) (w := w) (p := x)
  rw [e4] at ev
  refine k_gp rfl rfl (by first | trivial | decide | (simp only [true_and, mm_fits]; omega)) ?_
  refine k_callp rfl ev rfl rfl rfl (by decide) ?_
  refine k_brn rfl (fun g => ?_) (fun g => ?_)
  · have hE := hO.2.2.2.2.2.2 x g.1 g.2
    have hE3 := hE.2.2.2.1
    have m2 := hP.2.2.2 x 2 g.1 g.2 (by decide) (by decide)
    have m3 := hP.2.2.2 x 3 g.1 g.2 (by decide) (by decide)
    refine k_gp rfl rfl (by simp only [true_and, mm_fits]; omega) ?_
    rw [m2]
    refine k_br rfl (fun g2 => ?_) (fun g2 => ?_)
    · refine k_gp rfl rfl (by first | trivial | decide | (simp only [true_and, mm_fits]; omega)) ?_
      refine k_callp rfl (ev_c_wants hO hP) rfl rfl rfl (by decide) ?_
      refine k_callp rfl (ev_c_hkeep h) rfl rfl rfl (by decide) ?_
      have hK := CS_keep h
      have k3 : hkW w (WA e ne) 38 x 3 = e x 3 := (hk_sm 38 x 3 rfl).trans m3
      have lo1 : lowS w (hkW w (WA e ne)) := low_sm hk_sm rfl
      generalize hkW w (WA e ne) = w1 at *
      refine k_gp rfl rfl (by simp only [true_and, mm_fits, k3]; omega) ?_
      rw [k3]
      refine k_callp rfl ev_c_forget rfl rfl rfl (by decide) ?_
      have s2 : sm [(38, none), (21, some 7), (21, some 8)] w1 (mm_up (mm_up (mm_up w1 38 x 3 (1 - e x 3)) 21 0 7 1) 21 0 8 1) := sm_up (sm_up (sm_up sm_rf (Or.inl (by decide))) (Or.inr (by decide))) (Or.inr (by decide))
      have e38 : ∀ z k, mm_up (mm_up (mm_up w1 38 x 3 (1 - e x 3)) 21 0 7 1) 21 0 8 1 38 z k = if z = x ∧ k = 3 then 1 - e x 3 else w1 38 z k := fun z k => by
        rw [up_g rfl, up_g rfl]
        unfold mm_up
        by_cases hz : z = x ∧ k = 3
        · rw [if_pos ⟨rfl, hz⟩, if_pos hz]
        · rw [if_neg (fun q => hz q.2), if_neg hz]
      have e7 : mm_up (mm_up (mm_up w1 38 x 3 (1 - e x 3)) 21 0 7 1) 21 0 8 1 21 0 7 = 1 := (up_k (by decide)).trans up_s
      have e8 : mm_up (mm_up (mm_up w1 38 x 3 (1 - e x 3)) 21 0 7 1) 21 0 8 1 21 0 8 = 1 := up_s
      generalize mm_up (mm_up (mm_up w1 38 x 3 (1 - e x 3)) 21 0 7 1) 21 0 8 1 = w2 at *
      have q3 : w2 38 x 3 = 1 - e x 3 := by rw [e38, if_pos ⟨rfl, rfl⟩]
      refine k_gp rfl rfl (by simp only [true_and, mm_fits]; omega) ?_
      rw [q3]
      refine k_ret rfl trivial ⟨rfl, fun z => absurd g z, fun _ => ⟨fun z => absurd z g2, fun _ => ⟨rfl, low_tr lo1 (low_sm s2 rfl), e8, fun e' he => ?_⟩⟩⟩
      obtain ⟨⟨⟨-, k2, k3', k4⟩, -, -, -, k6, -⟩, kH, kX⟩ := hK
      have hO' : PO np trap nv nc ne c e' := by
        refine ⟨hO.1, hO.2.1, hO.2.2.1, hO.2.2.2.1, hO.2.2.2.2.1, hO.2.2.2.2.2.1, fun z a b => ?_⟩
        have hz := hO.2.2.2.2.2.2 z a b
        have q := fun k p o (hk : k ≠ 3) => (he z k a b p o).trans (if_neg (fun u => hk u.2))
        have qt : 0 ≤ e' z 3 ∧ e' z 3 ≤ 1 := by
          rw [he z 3 a b (by decide) (by decide)]
          have := hz.2.2.2.1
          split <;> omega
        unfold eOK at hz ⊢
        rw [q 0 (by decide) (by decide) (by decide), q 1 (by decide) (by decide) (by decide), q 2 (by decide) (by decide) (by decide), q 4 (by decide) (by decide) (by decide), q 5 (by decide) (by decide) (by decide), q 6 (by decide) (by decide) (by decide)]
        exact ⟨hz.1, hz.2.1, hz.2.2.1, qt, hz.2.2.2.2⟩
      have hq : ∀ g j k, cbG g = true → g ≠ 38 → g ≠ 21 → w2 g j k = w1 g j k := fun g j k hg h1 h2 => s2 g j k (by
        unfold frB
        simp only [List.all_cons, List.all_nil, Bool.and_true]
        rw [beqN (fun z => h1 z.symm), beqN (fun z => h2 z.symm)]
        rfl)
      refine ⟨⟨⟨hO', ?_, MM_sm s2 rfl (fun _ => rfl) k3', HL_sm s2 (fun _ => rfl) k4⟩, ⟨Or.inr e7, Or.inr e8⟩, ⟨fun _ => e7, fun z => by rw [e7] at z; exact absurd z (by decide)⟩, fun _ => e8, fun z => ?_, fun z => by rw [e8] at z; exact absurd z (by decide)⟩, HI_sm s2 rfl (fun _ => rfl) kH, CX_sm kX s2 (fun _ => rfl) rfl⟩
      · obtain ⟨⟨p0, p1, p2, p3, p4⟩, p5, p6, p7⟩ := k2
        refine ⟨⟨(s2 32 0 0 rfl).trans p0, (s2 32 0 1 rfl).trans p1, (s2 32 0 2 rfl).trans p2, (s2 32 0 3 rfl).trans p3, (s2 32 0 4 rfl).trans p4⟩, fun v a b => by rw [s2 33 0 v rfl, s2 34 0 v rfl]; exact p5 v a b, fun g k a b c1 d1 => (s2 36 g k rfl).trans (p6 g k a b c1 d1), fun z k a b c1 d1 => ?_⟩
        rw [e38, he z k a b c1 d1]
        split
        · rfl
        · exact p7 z k a b c1 d1
      · obtain ⟨o1, o2, o3⟩ := k6 z
        refine ⟨?_, fun u a b => by rw [nsB_sm s2 (fun _ => rfl)]; exact o2 u a b, FF_c (e := e) (fun _ _ _ _ _ _ => rfl) (fun z k a b c1 d1 hk => by rw [he z k a b c1 d1, if_neg (fun o => hk o.2)]) hO (fun z a b o => ?_)⟩
        · have e60 : ∀ k, w2 60 0 k = w1 60 0 k := fun k => s2 60 0 k rfl
          unfold OD
          simp only [e60]
          exact o1
        · have e59 : w2 59 0 = w1 59 0 := funext fun k => s2 59 0 k rfl
          rw [e59] at o ⊢
          exact LE_sm s2 (fun _ => rfl) (o3 z a b o)
    · have g2 : e x 2 = 9 := Classical.byContradiction g2
      refine k_gp rfl rfl (by first | trivial | decide | (simp only [true_and, mm_fits]; omega)) ?_
      exact k_ret rfl (by decide) ⟨rfl, fun z => absurd g z, fun _ => ⟨fun _ => ⟨rfl, rfl⟩, fun z => absurd g2 z⟩⟩
  · refine k_gp rfl rfl (by first | trivial | decide | (simp only [true_and, mm_fits]; omega)) ?_
    exact k_ret rfl (by decide) ⟨rfl, fun _ => ⟨rfl, rfl⟩, fun z => absurd z g⟩
set_option maxRecDepth 100000 in
theorem ev_c_look {p g i : Int} (h : CS w r y np trap nv nc ne c e f lk d hl hw t n) (hlk : ∀ p, 0 ≤ p → p < 8 → lk p < ((2 ^ nc.toNat : Nat) : Int)) : mm_Ev K_X9_look (0, 0) [.inr (some (21, 0)), .inl p, .inl g, .inl i] (PH r y) w (fun a b' w' => b' = PH r y ∧ (¬ ((0 ≤ p ∧ p < np) ∧ (0 ≤ g ∧ g < nc) ∧ (0 ≤ i ∧ i ≤ 1)) → a = some (.inl (-1)) ∧ w' = w) ∧ ((0 ≤ p ∧ p < np) ∧ (0 ≤ g ∧ g < nc) ∧ (0 ≤ i ∧ i ≤ 1) → (lk p / ((2 ^ g.toNat : Nat) : Int) % 2 = i → a = some (.inl (-2)) ∧ w' = w) ∧ (lk p / ((2 ^ g.toNat : Nat) : Int) % 2 ≠ i → a = some (.inl (pop8 (mm_xor (lk p) ((2 ^ g.toNat : Nat) : Int)) 8)) ∧ lowS w w' ∧ CS w' r y np trap nv nc ne c e f (fun q => if q = p then mm_xor (lk p) ((2 ^ g.toNat : Nat) : Int) else lk q) (pd d) (pl_ lk hl) (pw (WA e ne) hw) t n))) := by
  refine ev_intro ok_X9_look mo_X9_look (Nat.le_of_ble_eq_true rfl) (fun hrg has => ?_)
  have hO := h.1.1.1
  have hP := h.1.1.2.1
  have hH := h.1.1.2.2.2
  have hnc := hO.2.2.2.1
  have hnp := hO.1
  have ev1 := ev_c_isPlace (r := r) (y := y) (w := w) (p := p)
  rw [hP.1.1] at ev1
  have ev2 := ev_c_isComparison (r := r) (y := y) (w := w) (p := g)
  rw [hP.1.2.2.2.1] at ev2
  have bad : ¬ ((0 ≤ p ∧ p < np) ∧ (0 ≤ g ∧ g < nc) ∧ (0 ≤ i ∧ i ≤ 1)) → mm_Wk K_X9_look (0, 0) 25 [some (.inr (some (21, 0))), some (.inl p), some (.inl g), some (.inl i)] [] (PH r y) w (fun a b' w' => b' = PH r y ∧ (¬ ((0 ≤ p ∧ p < np) ∧ (0 ≤ g ∧ g < nc) ∧ (0 ≤ i ∧ i ≤ 1)) → a = some (.inl (-1)) ∧ w' = w) ∧ ((0 ≤ p ∧ p < np) ∧ (0 ≤ g ∧ g < nc) ∧ (0 ≤ i ∧ i ≤ 1) → (lk p / ((2 ^ g.toNat : Nat) : Int) % 2 = i → a = some (.inl (-2)) ∧ w' = w) ∧ (lk p / ((2 ^ g.toNat : Nat) : Int) % 2 ≠ i → a = some (.inl (pop8 (mm_xor (lk p) ((2 ^ g.toNat : Nat) : Int)) 8)) ∧ lowS w w' ∧ CS w' r y np trap nv nc ne c e f (fun q => if q = p then mm_xor (lk p) ((2 ^ g.toNat : Nat) : Int) else lk q) (pd d) (pl_ lk hl) (pw (WA e ne) hw) t n))) := fun hb => by
    refine k_gp rfl rfl (by first | trivial | decide | (simp only [true_and, mm_fits]; omega)) ?_
    exact k_ret rfl (by decide) ⟨rfl, fun _ => ⟨rfl, rfl⟩, fun z => absurd z hb⟩
  refine k_gp rfl rfl (by first | trivial | decide | (simp only [true_and, mm_fits]; omega)) ?_
  refine k_callp rfl ev1 rfl rfl rfl (by decide) ?_
  refine k_brz rfl (fun q => bad (fun z => q z.1)) (fun q1 => ?_)
  refine k_gp rfl rfl (by first | trivial | decide | (simp only [true_and, mm_fits]; omega)) ?_
  refine k_callp rfl ev2 rfl rfl rfl (by decide) ?_
  refine k_brz rfl (fun q => bad (fun z => q z.2.1)) (fun q2 => ?_)
  refine k_gp rfl rfl (by first | trivial | decide | (simp only [true_and, mm_fits]; omega)) ?_
  refine k_br rfl (fun q => bad (fun z => by omega)) (fun q3 => ?_)
  refine k_gp rfl rfl (by first | trivial | decide | (simp only [true_and, mm_fits]; omega)) ?_
  refine k_br rfl (fun q4 => ?_) (fun q => bad (fun z => by omega))
  have hall : (0 ≤ p ∧ p < np) ∧ (0 ≤ g ∧ g < nc) ∧ (0 ≤ i ∧ i ≤ 1) := ⟨q1, q2, by omega, by omega⟩
  obtain ⟨l1, l2⟩ := hH p (by omega) (by omega)
  refine k_gp rfl rfl (by simp only [true_and, mm_fits]; omega) ?_
  rw [l1, hb_eq (by omega) (by omega)]
  refine k_br rfl (fun q5 => ?_) (fun q5 => ?_)
  · refine k_gp rfl rfl (by first | trivial | decide | (simp only [true_and, mm_fits]; omega)) ?_
    refine k_callp rfl (ev_c_wants hO hP) rfl rfl rfl (by decide) ?_
    refine k_callp rfl (ev_c_hkeep h) rfl rfl rfl (by decide) ?_
    have hK := CS_keep h
    have k3 : hkW w (WA e ne) 42 0 p = lk p := (hk_sm 42 0 p rfl).trans l1
    have lo1 : lowS w (hkW w (WA e ne)) := low_sm hk_sm rfl
    generalize hkW w (WA e ne) = w1 at *
    have hsh := shl1 (g := g) (by omega)
    have hxi := xor8 (n := nc.toNat) (a := lk p) (b := ((2 ^ g.toNat : Nat) : Int)) ⟨l2.1, hlk p (by omega) (by omega)⟩ ⟨Int.natCast_nonneg _, Int.ofNat_lt.mpr (Nat.pow_lt_pow_right (by decide) (by omega))⟩ (by omega)
    have h8 : 2 ^ nc.toNat ≤ 2 ^ 8 := Nat.pow_le_pow_right (by decide) (by omega)
    have hx8 : mm_xor (lk p) ((2 ^ g.toNat : Nat) : Int) < 256 := Int.lt_of_lt_of_le hxi.2 (Int.ofNat_le.mpr h8)
    generalize hX : mm_xor (lk p) ((2 ^ g.toNat : Nat) : Int) = X at *
    refine k_gp rfl rfl (by simp only [true_and, mm_fits, k3, hsh, hX]; omega) ?_
    rw [k3, hsh, hX]
    have s2 : sm [(42, none), (21, some 8)] w1 (mm_up (mm_up w1 42 0 p X) 21 0 8 1) := sm_up (sm_up sm_rf (Or.inl (by decide))) (Or.inr (by decide))
    have e42 : ∀ q, mm_up (mm_up w1 42 0 p X) 21 0 8 1 42 0 q = if q = p then X else w1 42 0 q := fun q => (up_g rfl).trans up_at
    have e8 : mm_up (mm_up w1 42 0 p X) 21 0 8 1 21 0 8 = 1 := up_s
    have e7 : mm_up (mm_up w1 42 0 p X) 21 0 8 1 21 0 7 = w1 21 0 7 := (up_k (by decide)).trans (up_g rfl)
    generalize mm_up (mm_up w1 42 0 p X) 21 0 8 1 = w2 at *
    have ep : w2 42 0 p = X := by rw [e42, if_pos rfl]
    rw [ep]
    refine k_callp rfl (ev_bitCount ⟨hxi.1, hx8⟩) rfl rfl rfl (by decide) ?_
    refine k_ret rfl trivial ⟨rfl, fun z => absurd hall z, fun _ => ⟨fun z => absurd z q5, fun _ => ⟨rfl, low_tr lo1 (low_sm s2 rfl), ?_⟩⟩⟩
    obtain ⟨⟨⟨k1, k2, k3', k4⟩, ⟨f1, f2⟩, ⟨g1, g2⟩, -, k6, -⟩, kH, kX⟩ := hK
    refine ⟨⟨⟨k1, PC_sm s2 rfl (fun _ => rfl) k2, MM_sm s2 rfl (fun _ => rfl) k3', fun q a b => ?_⟩, ⟨by rw [e7]; exact f1, Or.inr e8⟩, ⟨by rw [e7]; exact g1, fun z => ?_⟩, fun _ => e8, fun z => ?_, fun z => by rw [e8] at z; exact absurd z (by decide)⟩, HI_sm s2 rfl (fun _ => rfl) kH, CX_sm kX s2 (fun _ => rfl) rfl⟩
    · rw [e42]
      dsimp only
      by_cases hq : q = p
      · rw [if_pos hq, if_pos hq]; exact ⟨rfl, hxi.1, hx8⟩
      · rw [if_neg hq, if_neg hq]; exact k4 q a b
    · rw [e7] at z
      obtain ⟨Q, o1, o2⟩ := g2 z
      refine ⟨Q, ?_, o2⟩
      have n51 : ∀ u, nsB w2 51 u = nsB w1 51 u := fun u => nsB_sm s2 (fun _ => rfl)
      unfold RK at o1 ⊢
      simp only [s2 47 0 8 rfl, s2 47 0 9 rfl, fun k => s2 48 0 k rfl, fun k => s2 49 0 k rfl, n51, fun k => s2 52 0 k rfl, fun k => s2 53 0 k rfl, fun k => s2 54 0 k rfl]
      exact o1
    · obtain ⟨o1, o2, o3⟩ := k6 z
      refine ⟨?_, fun u a b => by rw [nsB_sm s2 (fun _ => rfl)]; exact o2 u a b, fun z a b o => ?_⟩
      · have e60 : ∀ k, w2 60 0 k = w1 60 0 k := fun k => s2 60 0 k rfl
        unfold OD
        simp only [e60]
        exact o1
      · have e59 : w2 59 0 = w1 59 0 := funext fun k => s2 59 0 k rfl
        rw [e59] at o ⊢
        exact LE_sm s2 (fun _ => rfl) (o3 z a b o)
  · have q5 := Classical.byContradiction q5
    refine k_gp rfl rfl (by first | trivial | decide | (simp only [true_and, mm_fits]; omega)) ?_
    exact k_ret rfl (by decide) ⟨rfl, fun z => absurd hall z, fun _ => ⟨fun _ => ⟨rfl, rfl⟩, fun z => absurd q5 z⟩⟩
end MC
