/-! ===== the class: mend(), check(), count() ===== -/
theorem tot_c {a b : Int → Int} : ∀ n : Nat, (∀ i : Nat, i < n → a i = b i) → tot a n = tot b n
  | 0, _ => rfl
  | n + 1, h => by
    show tot a n + pop8 (a n) 8 = tot b n + pop8 (b n) 8
    rw [tot_c n (fun i hi => h i (by omega)), h n (by omega)]
section MC
variable {r : Bool × Bool} {y : Bool} {w : mm_M} {np trap nv nc ne : Int} {c e : Int → Int → Int} {f lk : Int → Int} {d : Int} {hl : Int → Int → Int} {hw : Int → Int} {t : Int → Int} {n : Int}
/-- the way of a search that is done -/
theorem CS_way {k : Int} (hC : CS w r true np trap nv nc ne c e f lk d hl hw t n) (e8 : w 21 0 8 = 0) (hF : FT (MQ_ c e f lk nv nc ne) trap k) (hk : 0 ≤ k ∧ k < ((MQ_ c e f lk nv nc ne).length : Int)) : RW w (PT (MQ_ c e f lk nv nc ne) k) ∧ ∀ x ∈ PT (MQ_ c e f lk nv nc ne) k, 0 ≤ x ∧ x < ne := by
  obtain ⟨hSD, hLE⟩ := hC.1.2.2.2.2.2 e8
  have hQW := QW_MQ (c := c) (e := e) (f := f) (lk := lk) (nv := nv) (nc := nc) hC.1.1.1.2.2.2.2.1
  have hFT := QC_FT hSD.1
  have hk2 : w 77 0 10 = k := by
    rcases hFT with z | z
    · have := FT_u z.2 hF
      omega
    · exact FT_u z.2 hF
  have := hSD.2 (by omega)
  rw [hk2] at this
  exact ⟨this, (PT_ok hQW (k.toNat + 1) k hk.1 hk.2 (by omega)).2.1⟩
set_option maxRecDepth 100000 in
theorem ev_c_mend (h : CS w r y np trap nv nc ne c e f lk d hl hw t n) : mm_Ev K_X9_mend (nM y) [.inr (some (21, 0))] (PH r y) w (fun a b' w' => b' = PH r true ∧ lowS w w' ∧ ∃ z0 z, a = some (.inl z) ∧ HOW c e f nv trap (MQ_ c e f lk nv nc ne) z0 ∧ (z0 ≠ 2 → z = -2 ∧ CS w' r true np trap nv nc ne c e f lk d hl hw t n) ∧ (z0 = 2 → ∃ k, FT (MQ_ c e f lk nv nc ne) trap k ∧ SF nc (fun s => EN c e f (fun p => mm_or (lk p) s) nv nc (PT (MQ_ c e f lk nv nc ne) k)) z ∧ (z < 0 → CS w' r true np trap nv nc ne c e f lk d hl hw t n) ∧ (0 < z → CS w' r true np trap nv nc ne c e f (lkU e lk (PT (MQ_ c e f lk nv nc ne) k) z) (pd d) (pl_ lk hl) (pw (WA e ne) hw) t n))) := by
  refine ev_intro ok_X9_mend mo_X9_mend (Nat.le_of_ble_eq_true rfl) (fun hrg has => ?_)
  refine k_gp rfl rfl (by first | trivial | decide | (simp only [true_and, mm_fits]; omega)) ?_
  refine k_call (n1 := (0, 0)) rfl (ev_c_newMay h) rfl rfl rfl (by decide) (nz _) ?_
  rintro a b' w1 ⟨rfl, rfl, s1, hC, e8⟩
  have hO := hC.1.1.1
  have hnc := hO.2.2.2.1
  refine k_gp rfl rfl (by first | trivial | decide | (simp only [true_and, mm_fits]; omega)) ?_
  refine k_call0 rfl (ev_c_setThatMends hC e8) rfl rfl rfl (by decide) ?_
  rintro a b' w2 ⟨rfl, s2, z, rfl, z0, hz0, hz1, hz2, hz3⟩
  have hC2 := CS_sc s2 hC
  have e82 : w2 21 0 8 = 0 := (s2 21 0 8 rfl).trans e8
  refine k_gp rfl rfl (by first | trivial | decide | (simp only [true_and, mm_fits]; omega)) ?_
  refine k_br rfl (fun q => ?_) (fun q => ?_)
  · have h2 : z0 = 2 := Classical.byContradiction fun o => by
      have := hz2 o
      omega
    obtain ⟨k, hF, hk, hSF⟩ := hz3 h2
    have hin := SF_in hnc.2 hSF
    obtain ⟨hR, hρ⟩ := CS_way hC2 e82 hF hk
    refine k_gp rfl rfl (by first | trivial | decide | (simp only [true_and, mm_fits]; omega)) ?_
    refine k_callp rfl (ev_c_wants hO hC2.1.1.2.1) rfl rfl rfl (by decide) ?_
    refine k_callp rfl (ev_c_hkeep hC2) rfl rfl rfl (by decide) ?_
    have hK := CS_keep hC2
    have sk := hk_sm (w := w2) (v := WA e ne)
    have lo1 : lowS w (hkW w2 (WA e ne)) := low_tr (low_tr (low_sm s1 rfl) (low_sm s2 rfl)) (low_sm sk rfl)
    generalize hkW w2 (WA e ne) = w3 at *
    have hR3 : RW w3 (PT (MQ_ c e f lk nv nc ne) k) := ⟨(sk 66 0 5 rfl).trans hR.1, hR.2.1, fun j a b => (sk 67 0 _ rfl).trans (hR.2.2 j a b)⟩
    refine k_gp rfl rfl (by first | trivial | decide | (simp only [true_and, mm_fits]; omega)) ?_
    refine k_call0 rfl (ev_c_lookOnPath hK hR3 hρ (set := z) (by omega)) rfl rfl rfl (by decide) ?_
    rintro a b' w4 ⟨rfl, rfl, lo2, -, hC4⟩
    refine k_gp rfl rfl (by first | trivial | decide | (simp only [true_and, mm_fits]; omega)) ?_
    exact k_ret rfl trivial ⟨rfl, low_tr lo1 lo2, z0, z, rfl, hz0, fun o => absurd h2 o, fun _ => ⟨k, hF, hSF, fun o => by omega, fun _ => hC4⟩⟩
  · refine k_gp rfl rfl (by first | trivial | decide | (simp only [true_and, mm_fits]; omega)) ?_
    refine k_ret rfl trivial ⟨rfl, low_tr (low_sm s1 rfl) (low_sm s2 rfl), z0, z, rfl, hz0, fun o => ⟨hz2 o, hC2⟩, fun o => ?_⟩
    obtain ⟨k, hF, hk, hSF⟩ := hz3 o
    exact ⟨k, hF, hSF, fun _ => hC2, fun o2 => by omega⟩
theorem ev_c_check0 {m : Int} (hm : ¬ (1 ≤ m ∧ m ≤ 9)) : mm_Ev K_X9_check (0, 0) [.inr (some (21, 0)), .inl m] (PH r y) w (mm_pe (some (.inl (-1))) (PH r y) w) := by
  refine ev_intro ok_X9_check mo_X9_check (Nat.le_of_ble_eq_true rfl) (fun hrg has => ?_)
  have bad : ∀ l2 l3 l4, mm_Wk K_X9_check (0, 0) 11 [some (.inr (some (21, 0))), some (.inl m), l2, l3, l4] [] (PH r y) w (mm_pe (some (.inl (-1))) (PH r y) w) := fun l2 l3 l4 => by
    refine k_gp rfl rfl (by first | trivial | decide | (simp only [true_and, mm_fits]; omega)) ?_
    exact k_ret rfl (by decide) ⟨rfl, rfl, rfl⟩
  refine k_gp rfl rfl (by first | trivial | decide | (simp only [true_and, mm_fits]; omega)) ?_
  refine k_br rfl (fun q => bad _ _ _) (fun q => ?_)
  refine k_gp rfl rfl (by first | trivial | decide | (simp only [true_and, mm_fits]; omega)) ?_
  refine k_br rfl (fun q2 => absurd ⟨by omega, by omega⟩ hm) (fun q => bad _ _ _)
set_option maxRecDepth 100000 in
theorem ev_c_check {m : Int} (h : CS w r y np trap nv nc ne c e f lk d hl hw t n) (hm : 1 ≤ m ∧ m ≤ 9) : mm_Ev K_X9_check (nM y) [.inr (some (21, 0)), .inl m] (PH r y) w (fun a b' w' => b' = PH r true ∧ lowS w w' ∧ ∃ z h0 lk', a = some (.inl z) ∧ HOW c e f nv trap (MQ_ c e f lk nv nc ne) h0 ∧ CKR c e f nv nc ne trap m.toNat lk h0 z lk' ∧ CS w' r true np trap nv nc ne c e f lk' (pd d) (pl_ lk hl) (pw (WA e ne) hw) t n) := by
  refine ev_intro ok_X9_check mo_X9_check (Nat.le_of_ble_eq_true rfl) (fun hrg has => ?_)
  have hO := h.1.1.1
  have hnc := hO.2.2.2.1
  refine k_gp rfl rfl (by first | trivial | decide | (simp only [true_and, mm_fits]; omega)) ?_
  refine k_brf rfl (by omega) ?_
  refine k_gp rfl rfl (by first | trivial | decide | (simp only [true_and, mm_fits]; omega)) ?_
  refine k_brt rfl (by omega) ?_
  refine k_gp rfl rfl (by first | trivial | decide | (simp only [true_and, mm_fits]; omega)) ?_
  refine k_callp rfl (ev_c_wants hO h.1.1.2.1) rfl rfl rfl (by decide) ?_
  refine k_callp rfl (ev_c_hkeep h) rfl rfl rfl (by decide) ?_
  have hK := CS_keep h
  have lo0 : lowS w (hkW w (WA e ne)) := low_sm hk_sm rfl
  generalize hkW w (WA e ne) = w0 at *
  generalize pd d = d', pl_ lk hl = hl', pw (WA e ne) hw = hw' at *
  refine k_gp rfl rfl (by first | trivial | decide | (simp only [true_and, mm_fits]; omega)) ?_
  refine k_call (n1 := (0, 0)) rfl (ev_c_newMay hK) rfl rfl rfl (by decide) (nz _) ?_
  rintro a b' w1 ⟨rfl, rfl, s1, hC, e8⟩
  refine k_gp rfl rfl (by first | trivial | decide | (simp only [true_and, mm_fits]; omega)) ?_
  -- how it stands in the end
  have fin : ∀ w2 lk1 i l4, lowS w w2 → CS w2 r true np trap nv nc ne c e f lk1 d' hl' hw' t n → w2 21 0 8 = 0 → (∀ h1, HOW c e f nv trap (MQ_ c e f lk1 nv nc ne) h1 → ∃ h0, HOW c e f nv trap (MQ_ c e f lk nv nc ne) h0 ∧ CKR c e f nv nc ne trap m.toNat lk h0 h1 lk1) → mm_Wk K_X9_check (0, 0) 86 [some (.inr (some (21, 0))), some (.inl m), some (.inr (some (77, 0))), some (.inl i), l4] [] (PH r true) w2 (fun a b' w' => b' = PH r true ∧ lowS w w' ∧ ∃ z h0 lk', a = some (.inl z) ∧ HOW c e f nv trap (MQ_ c e f lk nv nc ne) h0 ∧ CKR c e f nv nc ne trap m.toNat lk h0 z lk' ∧ CS w' r true np trap nv nc ne c e f lk' d' hl' hw' t n) := fun w2 lk1 i l4 lo hC2 e82 hI => by
    obtain ⟨hSD, hLE⟩ := hC2.1.2.2.2.2.2 e82
    have hQW := QW_MQ (c := c) (e := e) (f := f) (lk := lk1) (nv := nv) (nc := nc) hO.2.2.2.2.1
    have hFT := QC_FT hSD.1
    refine k_gp rfl rfl (by first | trivial | decide | (simp only [true_and, mm_fits]; omega)) ?_
    refine k_callp rfl ev_c_isSafe rfl rfl rfl (by decide) ?_
    refine k_brz rfl (fun q => ?_) (fun q => ?_)
    · obtain ⟨hk, hFT⟩ := hFT.resolve_left (fun z => q z.1)
      have hR := hSD.2 hk.1
      have p2 := (PT_ok hQW ((w2 77 0 10).toNat + 1) (w2 77 0 10) hk.1 hk.2 (by omega)).2.1
      refine k_gp rfl rfl (by first | trivial | decide | (simp only [true_and, mm_fits]; omega)) ?_
      refine k_callp rfl ev_c_way rfl rfl rfl (by decide) ?_
      refine k_call0 rfl (ev_c_isReal hO hC2.1.1.2.1 hC2.1.1.2.2.1 hR p2) rfl rfl rfl (by decide) ?_
      rintro a b' w3 ⟨rfl, s3, F, rfl, hF⟩
      have hC3 := CS_sc (sm_w s3 (by decide)) hC2
      refine k_brz rfl (fun q2 => ?_) (fun q2 => ?_)
      · obtain ⟨h0, a1, a2⟩ := hI 2 ⟨_, hFT, fun o => absurd hk.2 o, fun _ => ⟨F, hF, fun o => absurd o q2, fun _ => rfl⟩⟩
        refine k_gp rfl rfl (by first | trivial | decide | (simp only [true_and, mm_fits]; omega)) ?_
        exact k_ret rfl (by decide) ⟨rfl, low_tr lo (low_sm s3 rfl), 2, h0, lk1, rfl, a1, a2, hC3⟩
      · obtain ⟨h0, a1, a2⟩ := hI 1 ⟨_, hFT, fun o => absurd hk.2 o, fun _ => ⟨F, hF, fun _ => rfl, fun o => absurd q2 o⟩⟩
        refine k_gp rfl rfl (by first | trivial | decide | (simp only [true_and, mm_fits]; omega)) ?_
        exact k_ret rfl (by decide) ⟨rfl, low_tr lo (low_sm s3 rfl), 1, h0, lk1, rfl, a1, a2, hC3⟩
    · have hFT2 : FT (MQ_ c e f lk1 nv nc ne) trap (MQ_ c e f lk1 nv nc ne).length := by
        rcases hFT with z | z
        · exact z.2
        · omega
      obtain ⟨h0, a1, a2⟩ := hI 0 ⟨_, hFT2, fun _ => rfl, fun o => absurd o (Int.lt_irrefl _)⟩
      refine k_gp rfl rfl (by first | trivial | decide | (simp only [true_and, mm_fits]; omega)) ?_
      exact k_ret rfl (by decide) ⟨rfl, lo, 0, h0, lk1, rfl, a1, a2, hC2⟩
  refine mm_loop (σ := mm_M × (Int → Int)) m (fun i s => (0 ≤ i ∧ i ≤ m) ∧ lowS w s.1 ∧ CS s.1 r true np trap nv nc ne c e f s.2 d' hl' hw' t n ∧ s.1 21 0 8 = 0 ∧ ∀ h1 z lk', HOW c e f nv trap (MQ_ c e f s.2 nv nc ne) h1 → CKR c e f nv nc ne trap (m - i).toNat s.2 h1 z lk' → ∃ h0, HOW c e f nv trap (MQ_ c e f lk nv nc ne) h0 ∧ CKR c e f nv nc ne trap m.toNat lk h0 z lk') (fun i s => ∀ l4, mm_Wk K_X9_check (0, 0) 38 [some (.inr (some (21, 0))), some (.inl m), some (.inr (some (77, 0))), some (.inl i), l4] [] (PH r true) s.1 (fun a b' w' => b' = PH r true ∧ lowS w w' ∧ ∃ z h0 lk', a = some (.inl z) ∧ HOW c e f nv trap (MQ_ c e f lk nv nc ne) h0 ∧ CKR c e f nv nc ne trap m.toNat lk h0 z lk' ∧ CS w' r true np trap nv nc ne c e f lk' d' hl' hw' t n)) ?_ ?_ 0 (w1, lk) ⟨by omega, low_tr lo0 (low_sm s1 rfl), hC, e8, fun h1 z lk' a1 a2 => ⟨h1, a1, by rw [Int.sub_zero] at a2; exact a2⟩⟩ _
  · rintro i ⟨w2, lk1⟩ q1 ⟨q2, lo, hC2, e82, hI⟩ ih l4
    dsimp only at lo hC2 e82 hI ⊢
    have hmi : (m - i).toNat = (m - (i + 1)).toNat + 1 := by omega
    rw [hmi] at hI
    refine k_gp rfl rfl (by first | trivial | decide | (simp only [true_and, mm_fits]; omega)) ?_
    refine k_brf rfl (by omega) ?_
    refine k_gp rfl rfl (by first | trivial | decide | (simp only [true_and, mm_fits]; omega)) ?_
    refine k_call0 rfl (ev_c_setThatMends hC2 e82) rfl rfl rfl (by decide) ?_
    rintro a b' w3 ⟨rfl, s3, z, rfl, z0, hz0, hz1, hz2, hz3⟩
    have hC3 := CS_sc s3 hC2
    have e83 : w3 21 0 8 = 0 := (s3 21 0 8 rfl).trans e82
    refine k_gp rfl rfl (by first | trivial | decide | (simp only [true_and, mm_fits]; omega)) ?_
    refine k_br rfl (fun g => ?_) (fun g => ?_)
    · refine k_gp rfl rfl (by first | trivial | decide | (simp only [true_and, mm_fits]; omega)) ?_
      refine k_br rfl (fun g2 => ?_) (fun g2 => ?_)
      · have h2 : z0 = 2 := Classical.byContradiction fun o => g2 (hz2 o)
        obtain ⟨k, hF, hk, hSF⟩ := hz3 h2
        have hin := SF_in hnc.2 hSF
        obtain ⟨hR, hρ⟩ := CS_way hC3 e83 hF hk
        refine k_gp rfl rfl (by first | trivial | decide | (simp only [true_and, mm_fits]; omega)) ?_
        refine k_call0 rfl (ev_c_lookOnPath hC3 hR hρ (set := z) (by omega)) rfl rfl rfl (by decide) ?_
        rintro a b' w4 ⟨rfl, rfl, lo4, e84, hC4⟩
        refine k_gp rfl rfl (by first | trivial | decide | (simp only [true_and, mm_fits]; omega)) ?_
        have evn := ev_c_newMay hC4
        rw [show nM true = (0, 0) from rfl] at evn
        refine k_call0 rfl evn rfl rfl rfl (by decide) ?_
        rintro a b' w5 ⟨rfl, rfl, s5, hC5, e85⟩
        refine k_gp rfl rfl (by simp only [true_and, mm_fits]; omega) ?_
        refine ih (w5, lkU e lk1 (PT (MQ_ c e f lk1 nv nc ne) k) z) ⟨by omega, low_tr (low_tr (low_tr lo (low_sm s3 rfl)) lo4) (low_sm s5 rfl), hC5, e85, fun h1 z' lk' a1 a2 => ?_⟩ _
        dsimp only at a1 a2
        refine hI 2 z' lk' (h2 ▸ hz0) ⟨fun o => absurd rfl o, fun _ => ⟨k, z, hF, hSF, fun o => by omega, fun _ => ⟨h1, a1, a2⟩⟩⟩
      · have g2 : z = -2 := Classical.byContradiction g2
        have h2 : z0 ≠ 2 := fun o => by
          obtain ⟨k, hF, hk, hSF⟩ := hz3 o
          have := SF_in hnc.2 hSF
          omega
        refine k_gp rfl rfl (by first | trivial | decide | (simp only [true_and, mm_fits]; omega)) ?_
        refine fin w3 lk1 _ _ (low_tr lo (low_sm s3 rfl)) hC3 e83 (fun h1 hh => ?_)
        refine hI h1 h1 lk1 hh ⟨fun _ => ⟨rfl, rfl⟩, fun o => ?_⟩
        exact absurd ((HOW_u hz0 hh).trans o) h2
    · have g : z = -4 := Classical.byContradiction g
      have h2 : z0 = 2 := Classical.byContradiction fun o => by
        have := hz2 o
        omega
      obtain ⟨k, hF, hk, hSF⟩ := hz3 h2
      obtain ⟨h0, a1, a2⟩ := hI 2 3 lk1 (h2 ▸ hz0) ⟨fun o => absurd rfl o, fun _ => ⟨k, z, hF, hSF, fun _ => ⟨rfl, rfl⟩, fun o => by omega⟩⟩
      refine k_gp rfl rfl (by first | trivial | decide | (simp only [true_and, mm_fits]; omega)) ?_
      exact k_ret rfl (by decide) ⟨rfl, low_tr lo (low_sm s3 rfl), 3, h0, lk1, rfl, a1, a2, hC3⟩
  · rintro i ⟨w2, lk1⟩ q1 ⟨q2, lo, hC2, e82, hI⟩ l4
    dsimp only at lo hC2 e82 hI ⊢
    have hmi : (m - i).toNat = 0 := by omega
    rw [hmi] at hI
    refine k_gp rfl rfl (by first | trivial | decide | (simp only [true_and, mm_fits]; omega)) ?_
    refine k_brt rfl (by omega) ?_
    exact fin w2 lk1 _ _ lo hC2 e82 (fun h1 hh => hI h1 h1 lk1 hh ⟨rfl, rfl⟩)
theorem ev_c_count0 {i : Int} (h : CS w r y np trap nv nc ne c e f lk d hl hw t n) (hi : i ≠ 6) : mm_Ev K_X9_count (0, 0) [.inr (some (21, 0)), .inl i] (PH r y) w (mm_pe (some (.inl (if i = 0 then np else if i = 1 then trap else if i = 2 then nv else if i = 3 then nc else if i = 4 then ne else if i = 5 then tot lk np.toNat else if i = 7 then d else if i = 8 then n else -1))) (PH r y) w) := by
  refine ev_intro ok_X9_count mo_X9_count (Nat.le_of_ble_eq_true rfl) (fun hrg has => ?_)
  obtain ⟨p0, p1, p2, p3, p4⟩ := h.1.1.2.1.1
  have hnp := h.1.1.1.1
  have hH := h.1.1.2.2.2
  have t5 : tot (w 42 0) np.toNat = tot lk np.toNat := tot_c np.toNat (fun i hi => (hH i (by omega) (by omega)).1)
  have ev5 := ev_c_lookedAll (r := r) (y := y) (w := w) (by rw [p0]; omega) (fun p a b => by rw [p0] at b; have := hH p a (by omega); omega)
  rw [p0, t5] at ev5
  have ev7 := ev_c_hsize (r := r) (y := y) (w := w)
  rw [h.2.1.1.1] at ev7
  have ev8 := ev_c_tsize (r := r) (y := y) (w := w)
  rw [h.2.2.2.1] at ev8
  refine k_gp rfl rfl (by first | trivial | decide | (simp only [true_and, mm_fits]; omega)) ?_
  refine k_ts rfl rfl ⟨fun g => ?_, fun g => ?_, fun g => ?_, fun g => ?_, fun g => ?_, fun g => ?_, fun g => ?_, fun g => ?_, fun g => ?_, trivial⟩ (fun g => ?_)
  · rw [if_pos (by omega)]
    refine k_gp rfl rfl (by first | trivial | decide | (simp only [true_and, mm_fits]; omega)) ?_
    rw [p0]
    exact k_ret rfl trivial ⟨rfl, rfl, rfl⟩
  · rw [if_neg (by omega), if_pos (by omega)]
    refine k_gp rfl rfl (by first | trivial | decide | (simp only [true_and, mm_fits]; omega)) ?_
    rw [p1]
    exact k_ret rfl trivial ⟨rfl, rfl, rfl⟩
  · rw [if_neg (by omega), if_neg (by omega), if_pos (by omega)]
    refine k_gp rfl rfl (by first | trivial | decide | (simp only [true_and, mm_fits]; omega)) ?_
    rw [p2]
    exact k_ret rfl trivial ⟨rfl, rfl, rfl⟩
  · rw [if_neg (by omega), if_neg (by omega), if_neg (by omega), if_pos (by omega)]
    refine k_gp rfl rfl (by first | trivial | decide | (simp only [true_and, mm_fits]; omega)) ?_
    rw [p3]
    exact k_ret rfl trivial ⟨rfl, rfl, rfl⟩
  · rw [if_neg (by omega), if_neg (by omega), if_neg (by omega), if_neg (by omega), if_pos (by omega)]
    refine k_gp rfl rfl (by first | trivial | decide | (simp only [true_and, mm_fits]; omega)) ?_
    rw [p4]
    exact k_ret rfl trivial ⟨rfl, rfl, rfl⟩
  · rw [if_neg (by omega), if_neg (by omega), if_neg (by omega), if_neg (by omega), if_neg (by omega), if_pos (by omega)]
    refine k_gp rfl rfl (by first | trivial | decide | (simp only [true_and, mm_fits]; omega)) ?_
    refine k_callp rfl ev5 rfl rfl rfl (by decide) ?_
    exact k_ret rfl trivial ⟨rfl, rfl, rfl⟩
  · exact absurd (by omega) hi
  · rw [if_neg (by omega), if_neg (by omega), if_neg (by omega), if_neg (by omega), if_neg (by omega), if_neg (by omega), if_pos (by omega)]
    refine k_gp rfl rfl (by first | trivial | decide | (simp only [true_and, mm_fits]; omega)) ?_
    refine k_callp rfl ev7 rfl rfl rfl (by decide) ?_
    exact k_ret rfl trivial ⟨rfl, rfl, rfl⟩
  · rw [if_neg (by omega), if_neg (by omega), if_neg (by omega), if_neg (by omega), if_neg (by omega), if_neg (by omega), if_neg (by omega), if_pos (by omega)]
    refine k_gp rfl rfl (by first | trivial | decide | (simp only [true_and, mm_fits]; omega)) ?_
    refine k_callp rfl ev8 rfl rfl rfl (by decide) ?_
    exact k_ret rfl trivial ⟨rfl, rfl, rfl⟩
  · rw [if_neg (by omega), if_neg (by omega), if_neg (by omega), if_neg (by omega), if_neg (by omega), if_neg (by omega), if_neg (by omega), if_neg (by omega)]
    refine k_gp rfl rfl (by first | trivial | decide | (simp only [true_and, mm_fits]; omega)) ?_
    exact k_ret rfl (by decide) ⟨rfl, rfl, rfl⟩
theorem ev_c_count6 (h : CS w r y np trap nv nc ne c e f lk d hl hw t n) : mm_Ev K_X9_count (nM y) [.inr (some (21, 0)), .inl 6] (PH r y) w (fun a b' w' => b' = PH r true ∧ sm nmL w w' ∧ CS w' r true np trap nv nc ne c e f lk d hl hw t n ∧ a = some (.inl (MQ_ c e f lk nv nc ne).length)) := by
  refine ev_intro ok_X9_count mo_X9_count (Nat.le_of_ble_eq_true rfl) (fun hrg has => ?_)
  refine k_gp rfl rfl (by first | trivial | decide | (simp only [true_and, mm_fits]; omega)) ?_
  refine k_ts rfl rfl ⟨fun g => absurd g (by decide), fun g => absurd g (by decide), fun g => absurd g (by decide), fun g => absurd g (by decide), fun g => absurd g (by decide), fun g => absurd g (by decide), fun g => ?_, fun g => absurd g (by decide), fun g => absurd g (by decide), trivial⟩ (fun g => absurd g (by decide))
  refine k_gp rfl rfl (by first | trivial | decide | (simp only [true_and, mm_fits]; omega)) ?_
  refine k_call (n1 := (0, 0)) rfl (ev_c_newMay h) rfl rfl rfl (by decide) (nz _) ?_
  rintro a b' w1 ⟨rfl, rfl, s1, hC, e8⟩
  have h9 := (hC.1.2.2.2.2.2 e8).1.1.1
  have ev := ev_c_states (r := r) (y := true) (w := w1)
  rw [h9] at ev
  refine k_callp rfl ev rfl rfl rfl (by decide) ?_
  exact k_ret rfl trivial ⟨rfl, s1, hC, rfl⟩
end MC
