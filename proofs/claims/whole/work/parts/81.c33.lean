/-! ===== the class: undo(); the newest searches ===== -/
theorem WA_bit {e : Int → Int → Int} {ne z : Int} (h : 0 ≤ ne ∧ ne ≤ 14) (hz : 0 ≤ z ∧ z < ne) (he : 0 ≤ e z 3 ∧ e z 3 ≤ 1) : WA e ne / ((2 ^ z.toNat : Nat) : Int) % 2 = e z 3 := by
  have h0 := WA_in (e := e) h
  have h1 := hb_tb (L := WA e ne) (g := z) h0.1
  have h2 := bts_bit (fun x : Nat => decide (e x 3 = 1)) ne.toNat z.toNat
  rw [decide_eq_true (show z.toNat < ne.toNat by omega), Bool.true_and] at h2
  have h3 : (WA e ne).toNat = bts (fun x : Nat => decide (e x 3 = 1)) ne.toNat := rfl
  rw [h3, h2, show ((z.toNat : Nat) : Int) = z by omega, decide_eq_true_eq] at h1
  have h4 : hb (WA e ne) z ↔ WA e ne / ((2 ^ z.toNat : Nat) : Int) % 2 = 1 := Iff.rfl
  rw [h4] at h1
  by_cases q : e z 3 = 1
  · rw [h1.mpr q, q]
  · have : ¬ WA e ne / ((2 ^ z.toNat : Nat) : Int) % 2 = 1 := fun o => q (h1.mp o)
    omega
section MC
variable {r : Bool × Bool} {y : Bool} {w : mm_M} {np trap nv nc ne : Int} {c e : Int → Int → Int} {f lk : Int → Int} {d : Int} {hl : Int → Int → Int} {hw : Int → Int} {t : Int → Int} {n : Int}
theorem HI_back (h : HI w d hl hw) (hd : d ≠ 0) : HI (tbW w) (d - 1) (fun i => hl (i + 1)) (fun i => hw (i + 1)) ∧ (∀ p, 0 ≤ p → p < 8 → tbW w 42 0 p = hl 0 p ∧ 0 ≤ hl 0 p ∧ hl 0 p < 256) ∧ w 46 0 ((w 43 0 3 + 6 - 1) % 6) = hw 0 ∧ (0 ≤ hw 0 ∧ hw 0 < 16384) := by
  obtain ⟨⟨h1, h2, h3⟩, h4⟩ := h
  have e2 : tbW w 43 0 2 = d - 1 := by unfold tbW; rw [cp_g rfl, up_s, h1]
  have e3 : tbW w 43 0 3 = (w 43 0 3 + 5) % 6 := by unfold tbW; rw [cp_g rfl, up_k (by decide), up_s]; omega
  have e45 : ∀ j k, tbW w 45 j k = w 45 j k := fun j k => by unfold tbW; rw [cp_g rfl, up_g rfl, up_g rfl]
  have e46 : ∀ k, tbW w 46 0 k = w 46 0 k := fun k => by unfold tbW; rw [cp_g rfl, up_g rfl, up_g rfl]
  have e42 : ∀ p, 0 ≤ p → p < 8 → tbW w 42 0 p = w 45 ((w 43 0 3 + 6 - 1) % 6) p := fun p a b => by unfold tbW; rw [cp_in (by omega), show 0 + (p - 0) = p by omega, up_g rfl, up_g rfl]
  generalize tbW w = w' at *
  have h0 := h4 0 (by omega) (by omega)
  rw [show (w 43 0 3 + 5 - 0) % 6 = (w 43 0 3 + 6 - 1) % 6 by omega] at h0
  refine ⟨⟨⟨e2, by omega, by omega⟩, fun i a b => ?_⟩, fun p a b => by rw [e42 p a b]; exact h0.1 p a b, h0.2⟩
  rw [e3, show ((w 43 0 3 + 5) % 6 + 5 - i) % 6 = (w 43 0 3 + 5 - (i + 1)) % 6 by omega]
  simp only [e45, e46]
  exact h4 (i + 1) (by omega) (by omega)
theorem tb_sm : sm [(42, none), (43, some 2), (43, some 3)] w (tbW w) := by
  unfold tbW
  exact sm_cp (sm_up (sm_up sm_rf (Or.inr (by decide))) (Or.inr (by decide))) (by decide)
theorem RK_sm2 {w' : mm_M} {Q : List (Int × Int)} {L : List (Nat × Option Int)} (hs : sm L w w') (h1 : (frB L 47 8 && frB L 47 9) = true) (h2 : ∀ k, (frB L 48 k && frB L 49 k && frB L 51 k && frB L 52 k && frB L 53 k && frB L 54 k) = true) (h : RK w c nc trap Q) : RK w' c nc trap Q := by
  simp only [Bool.and_eq_true] at h1 h2
  have n51 : ∀ u, nsB w' 51 u = nsB w 51 u := fun u => nsB_sm hs (fun k => (h2 k).1.1.1.2)
  unfold RK at h ⊢
  simp only [hs 47 0 8 h1.1, hs 47 0 9 h1.2, fun k => hs 48 0 k (h2 k).1.1.1.1.1, fun k => hs 49 0 k (h2 k).1.1.1.1.2, n51, fun k => hs 52 0 k (h2 k).1.1.2, fun k => hs 53 0 k (h2 k).1.2, fun k => hs 54 0 k (h2 k).2]
  exact h
theorem LV_sm {w' : mm_M} {L : List (Nat × Option Int)} (hs : sm L w w') (h1 : ∀ k, (frB L 57 k && frB L 58 k && frB L 59 k && frB L 60 k && frB L 63 k) = true) (h : OD w nv ∧ FS w c f nv nc ∧ FF w c e nv nc ne) : OD w' nv ∧ FS w' c f nv nc ∧ FF w' c e nv nc ne := by
  simp only [Bool.and_eq_true] at h1
  obtain ⟨o1, o2, o3⟩ := h
  refine ⟨?_, fun u a b => by rw [nsB_sm hs (fun k => (h1 k).2)]; exact o2 u a b, fun z a b o => ?_⟩
  · have e60 : ∀ k, w' 60 0 k = w 60 0 k := fun k => hs 60 0 k (h1 k).1.2
    unfold OD
    simp only [e60]
    exact o1
  · have e59 : w' 59 0 = w 59 0 := funext fun k => hs 59 0 k (h1 k).1.1.2
    rw [e59] at o ⊢
    exact LE_sm hs (fun k => by rw [(h1 k).1.1.1.1, (h1 k).1.1.1.2]; rfl) (o3 z a b o)
set_option maxRecDepth 100000 in
theorem ev_c_undo (h : CS w r y np trap nv nc ne c e f lk d hl hw t n) : mm_Ev K_X9_undo (0, 0) [.inr (some (21, 0))] (PH r y) w (fun a b' w' => b' = PH r y ∧ (d = 0 → a = some (.inl (-2)) ∧ w' = w) ∧ (d ≠ 0 → a = some (.inl (d - 1)) ∧ lowS w w' ∧ w' 21 0 8 = 1 ∧ ∀ e' lk', (∀ z k, 0 ≤ z → z < ne → 0 ≤ k → k < 7 → e' z k = if k = 3 then hw 0 / ((2 ^ z.toNat : Nat) : Int) % 2 else e z k) → (∀ p, 0 ≤ p → p < 8 → lk' p = hl 0 p) → CS w' r y np trap nv nc ne c e' f lk' (d - 1) (fun i => hl (i + 1)) (fun i => hw (i + 1)) t n)) := by
  refine ev_intro ok_X9_undo mo_X9_undo (Nat.le_of_ble_eq_true rfl) (fun hrg has => ?_)
  have hO := h.1.1.1
  have hP := h.1.1.2.1
  have hne := hO.2.2.2.2.1
  have h2 := h.2.1.1.1
  have h6 := h.2.1.1.2.1
  have h3 := h.2.1.1.2.2
  have ev := ev_c_hsize (r := r) (y := y) (w := w)
  rw [h2] at ev
  refine k_gp rfl rfl (by first | trivial | decide | (simp only [true_and, mm_fits]; omega)) ?_
  refine k_callp rfl ev rfl rfl rfl (by decide) ?_
  refine k_br rfl (fun g => ?_) (fun g => ?_)
  · obtain ⟨b1, b2, b3, b4⟩ := HI_back h.2.1 g
    have ev2 := ev_c_takeBack (r := r) (y := y) (w := w) h3 (by omega)
    rw [b3] at ev2
    refine k_gp rfl rfl (by first | trivial | decide | (simp only [true_and, mm_fits]; omega)) ?_
    refine k_callp rfl ev2 rfl rfl rfl (by decide) ?_
    have s1 := tb_sm (w := w)
    generalize tbW w = w1 at *
    refine k_gp rfl rfl (by first | trivial | decide | (simp only [true_and, mm_fits]; omega)) ?_
    have s2 : sm [(42, none), (43, some 2), (43, some 3), (21, some 8)] w (mm_up w1 21 0 8 1) := sm_up (sm_w s1 (by decide)) (Or.inr (by decide))
    have e8 : mm_up w1 21 0 8 1 21 0 8 = 1 := up_s
    have e7 : mm_up w1 21 0 8 1 21 0 7 = w 21 0 7 := (up_k (by decide)).trans (s1 21 0 7 rfl)
    have e42 : ∀ p, mm_up w1 21 0 8 1 42 0 p = w1 42 0 p := fun p => up_g rfl
    have hHI : HI (mm_up w1 21 0 8 1) (d - 1) (fun i => hl (i + 1)) (fun i => hw (i + 1)) := HI_sm (L := [(21, some 8)]) (sm_up sm_rf (Or.inr (by decide))) rfl (fun _ => rfl) b1
    generalize mm_up w1 21 0 8 1 = w2 at *
    have hP2 : PC w2 np trap nv nc ne c e f := PC_sm s2 rfl (fun _ => rfl) hP
    have hX2 : CX w2 t n := CX_sm h.2.2 s2 (fun _ => rfl) rfl
    have hM2 : MM w2 nv nc c f := MM_sm s2 rfl (fun _ => rfl) h.1.1.2.2.1
    obtain ⟨⟨-, -, -, -⟩, ⟨f1, f2⟩, ⟨g1, g2⟩, -, k6, -⟩ := h.1
    have fin : ∀ (w3 : mm_M) (a : Option mm_V), sm [(38, none), (21, some 7), (21, some 8)] w2 w3 → (w3 21 0 7 = 1 ∨ (w3 21 0 7 = w 21 0 7 ∧ ∀ e', (∀ z k, 0 ≤ z → z < ne → 0 ≤ k → k < 7 → e' z k = if k = 3 then hw 0 / ((2 ^ z.toNat : Nat) : Int) % 2 else e z k) → eAg ne e e')) → w3 21 0 8 = 1 → (∀ z k, 0 ≤ z → z < ne → 0 ≤ k → k < 7 → w3 38 z k = if k = 3 then hw 0 / ((2 ^ z.toNat : Nat) : Int) % 2 else e z k) → a = some (.inl (d - 1)) → (b : mm_B) → b = PH r y → b = PH r y ∧ (d = 0 → a = some (.inl (-2)) ∧ w3 = w) ∧ (d ≠ 0 → a = some (.inl (d - 1)) ∧ lowS w w3 ∧ w3 21 0 8 = 1 ∧ ∀ e' lk', (∀ z k, 0 ≤ z → z < ne → 0 ≤ k → k < 7 → e' z k = if k = 3 then hw 0 / ((2 ^ z.toNat : Nat) : Int) % 2 else e z k) → (∀ p, 0 ≤ p → p < 8 → lk' p = hl 0 p) → CS w3 r y np trap nv nc ne c e' f lk' (d - 1) (fun i => hl (i + 1)) (fun i => hw (i + 1)) t n) := fun w3 a s3 u1 u2 u3 ha b hb => by
      refine ⟨hb, fun z => absurd z g, fun _ => ⟨ha, low_tr (low_sm s2 rfl) (low_sm s3 rfl), u2, fun e' lk' he hlk => ?_⟩⟩
      have hO' : PO np trap nv nc ne c e' := by
        refine ⟨hO.1, hO.2.1, hO.2.2.1, hO.2.2.2.1, hO.2.2.2.2.1, hO.2.2.2.2.2.1, fun z a b => ?_⟩
        have hz := hO.2.2.2.2.2.2 z a b
        have q := fun k p o (hk : k ≠ 3) => (he z k a b p o).trans (if_neg hk)
        have qt : 0 ≤ e' z 3 ∧ e' z 3 ≤ 1 := by
          rw [he z 3 a b (by decide) (by decide), if_pos rfl]
          omega
        unfold eOK at hz ⊢
        rw [q 0 (by decide) (by decide) (by decide), q 1 (by decide) (by decide) (by decide), q 2 (by decide) (by decide) (by decide), q 4 (by decide) (by decide) (by decide), q 5 (by decide) (by decide) (by decide), q 6 (by decide) (by decide) (by decide)]
        exact ⟨hz.1, hz.2.1, hz.2.2.1, qt, hz.2.2.2.2⟩
      refine ⟨⟨⟨hO', ?_, MM_sm s3 rfl (fun _ => rfl) hM2, fun p a b => ?_⟩, ⟨?_, Or.inr u2⟩, ⟨fun z => ?_, fun z => ?_⟩, fun _ => u2, fun z => ?_, fun z => by rw [u2] at z; exact absurd z (by decide)⟩, HI_sm s3 rfl (fun _ => rfl) hHI, CX_sm hX2 s3 (fun _ => rfl) rfl⟩
      · obtain ⟨⟨p0, p1, p2, p3, p4⟩, p5, p6, p7⟩ := hP2
        refine ⟨⟨(s3 32 0 0 rfl).trans p0, (s3 32 0 1 rfl).trans p1, (s3 32 0 2 rfl).trans p2, (s3 32 0 3 rfl).trans p3, (s3 32 0 4 rfl).trans p4⟩, fun v a b => by rw [s3 33 0 v rfl, s3 34 0 v rfl]; exact p5 v a b, fun g k a b c1 d1 => (s3 36 g k rfl).trans (p6 g k a b c1 d1), fun z k a b c1 d1 => ?_⟩
        rw [u3 z k a b c1 d1, he z k a b c1 d1]
      · rw [s3 42 0 p rfl, e42, hlk p a b]
        exact b2 p a b
      · rcases u1 with u1 | u1
        · exact Or.inr u1
        · rw [u1.1]; exact f1
      · rcases u1 with u1 | u1
        · exact u1
        · rw [u1.1]; exact g1 z
      · rcases u1 with u1 | u1
        · rw [u1] at z; exact absurd z (by decide)
        · rw [u1.1] at z
          obtain ⟨Q, o1, o2⟩ := g2 z
          exact ⟨Q, RK_sm2 s3 rfl (fun _ => rfl) (RK_sm2 s2 rfl (fun _ => rfl) o1), RE_c (u1.2 e' he) hO o2⟩
      · have := LV_sm s3 (fun _ => rfl) (LV_sm s2 (fun _ => rfl) (k6 z))
        exact ⟨this.1, this.2.1, FF_c (e := e) (fun _ _ _ _ _ _ => rfl) (fun z k a b c1 d1 hk => by rw [he z k a b c1 d1, if_neg hk]) hO this.2.2⟩
    refine k_callp rfl (ev_c_wants hO hP2) rfl rfl rfl (by decide) ?_
    have hs2 : ∀ w3 : mm_M, w3 43 0 2 = w2 43 0 2 → mm_Ev K_X0_size (0, 0) [.inr (some (43, 0))] (PH r y) w3 (mm_pe (some (.inl (d - 1))) (PH r y) w3) := fun w3 z => by
      have ev := ev_c_hsize (r := r) (y := y) (w := w3)
      rw [z, hHI.1.1] at ev
      exact ev
    refine k_br rfl (fun q => ?_) (fun q => ?_)
    · have hbit : ∀ z, 0 ≤ z → z < ne → hw 0 / ((2 ^ z.toNat : Nat) : Int) % 2 = e z 3 := fun z a b => by
        rw [q]
        exact WA_bit hne ⟨a, b⟩ (hO.2.2.2.2.2.2 z a b).2.2.2.1
      refine k_gp rfl rfl (by first | trivial | decide | (simp only [true_and, mm_fits]; omega)) ?_
      refine k_callp rfl (hs2 w2 rfl) rfl rfl rfl (by decide) ?_
      refine k_ret rfl trivial (fin w2 _ sm_rf (Or.inr ⟨e7, fun e' he x k a b p o => ?_⟩) e8 (fun z k a b c1 d1 => ?_) rfl _ rfl)
      · rw [he x k a b p o]
        by_cases hk : k = 3
        · rw [if_pos hk, hk, hbit x a b]
        · rw [if_neg hk]
      · rw [hP2.2.2.2 z k a b c1 d1]
        by_cases hk : k = 3
        · rw [if_pos hk, hk, hbit z a b]
        · rw [if_neg hk]
    · have e4 := hP2.1.2.2.2.2
      have ev3 := ev_c_setWants (r := r) (y := y) (w := w2) (bits := hw 0) (by omega) (by omega)
      rw [e4] at ev3
      refine k_gp rfl rfl (by first | trivial | decide | (simp only [true_and, mm_fits]; omega)) ?_
      refine k_callp rfl ev3 rfl rfl rfl (by decide) ?_
      refine k_gp rfl rfl (by first | trivial | decide | (simp only [true_and, mm_fits]; omega)) ?_
      refine k_callp rfl ev_c_forget rfl rfl rfl (by decide) ?_
      have e38 : ∀ z k, 0 ≤ z → z < ne → 0 ≤ k → k < 7 → mm_up (mm_up (stW w2 ne (hw 0)) 21 0 7 1) 21 0 8 1 38 z k = if k = 3 then hw 0 / ((2 ^ z.toNat : Nat) : Int) % 2 else e z k := fun z k a b c1 d1 => by
        rw [up_g rfl, up_g rfl]
        unfold stW
        by_cases hk : k = 3
        · rw [if_pos ⟨rfl, hk, a, b⟩, if_pos hk]
        · rw [if_neg (fun o => hk o.2.1), if_neg hk]
          exact hP2.2.2.2 z k a b c1 d1
      have s4 : sm [(38, none), (21, some 7), (21, some 8)] w2 (mm_up (mm_up (stW w2 ne (hw 0)) 21 0 7 1) 21 0 8 1) := by
        refine sm_up (sm_up (fun g j k hf => ?_) (Or.inr (by decide))) (Or.inr (by decide))
        unfold stW
        refine if_neg fun o => ?_
        rw [o.1] at hf
        exact absurd hf (by unfold frB; simp [Nat.beq_refl])
      refine k_gp rfl rfl (by first | trivial | decide | (simp only [true_and, mm_fits]; omega)) ?_
      refine k_callp rfl (hs2 _ (s4 43 0 2 rfl)) rfl rfl rfl (by decide) ?_
      exact k_ret rfl trivial (fin _ _ s4 (Or.inl ((up_k (by decide)).trans up_s)) up_s e38 rfl _ rfl)
  · have g : d = 0 := Classical.byContradiction g
    refine k_gp rfl rfl (by first | trivial | decide | (simp only [true_and, mm_fits]; omega)) ?_
    exact k_ret rfl (by decide) ⟨rfl, fun _ => ⟨rfl, rfl⟩, fun z => absurd g z⟩
end MC
