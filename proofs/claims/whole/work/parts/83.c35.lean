/-! ===== the newest search for what may be (written by program: see NOTES) ===== -/
abbrev nmL : List (Nat × Option Int) := (21, some 8) :: (List.range' 55 31).map fun g => (g, none)
section MC
variable {r : Bool × Bool} {y : Bool} {w : mm_M} {np trap nv nc ne : Int} {c e : Int → Int → Int} {f lk : Int → Int} {d : Int} {hl : Int → Int → Int} {hw : Int → Int} {t : Int → Int} {n : Int}
set_option maxRecDepth 100000 in
theorem ev_c_newMay (h : CS w r y np trap nv nc ne c e f lk d hl hw t n) : mm_Ev K_X9_newestMay (nM y) [.inr (some (21, 0))] (PH r y) w (fun a b' w' => a = some (.inr (some (77, 0))) ∧ b' = PH r true ∧ sm nmL w w' ∧ CS w' r true np trap nv nc ne c e f lk d hl hw t n ∧ w' 21 0 8 = 0) := by
  refine ev_intro ok_X9_newestMay mo_X9_newestMay (Nat.le_of_ble_eq_true rfl) (fun hrg has => ?_)
  have J72 : ∀ w1 l1 l2, sm nmL w w1 → (w1 21 0 8 = 0 ∨ w1 21 0 8 = 1) → (OD w1 nv ∧ FS w1 c f nv nc ∧ FF w1 c e nv nc ne) → (w1 21 0 8 = 0 → SD w1 trap (MQ_ c e f lk nv nc ne) ∧ ∀ x, 0 ≤ x → x < ne → LE w1 c e nv nc x) → mm_Wk K_X9_newestMay (0, 0) 72 [some (.inr (some (21, 0))), l1, l2] [] (PH r true) w1 (fun a b' w' => a = some (.inr (some (77, 0))) ∧ b' = PH r true ∧ sm nmL w w' ∧ CS w' r true np trap nv nc ne c e f lk d hl hw t n ∧ w' 21 0 8 = 0) := fun w1 l1 l2 s1 h8 hV hD => by
    obtain ⟨⟨⟨hO, hP, hM, hH⟩, ⟨f1, f2⟩, ⟨g1, g2⟩, -, -, -⟩, hI, hX⟩ := h
    have J91 : ∀ w2, sm nmL w w2 → w2 21 0 8 = 0 → (OD w2 nv ∧ FS w2 c f nv nc ∧ FF w2 c e nv nc ne) → (SD w2 trap (MQ_ c e f lk nv nc ne) ∧ ∀ x, 0 ≤ x → x < ne → LE w2 c e nv nc x) → mm_Wk K_X9_newestMay (0, 0) 91 [some (.inr (some (21, 0))), l1, l2] [] (PH r true) w2 (fun a b' w' => a = some (.inr (some (77, 0))) ∧ b' = PH r true ∧ sm nmL w w' ∧ CS w' r true np trap nv nc ne c e f lk d hl hw t n ∧ w' 21 0 8 = 0) := fun w2 s2 z8 zV zD => by
      refine k_gp rfl rfl (by first | trivial | decide | (simp only [true_and, mm_fits]; omega)) ?_
      have e7 : w2 21 0 7 = w 21 0 7 := s2 21 0 7 rfl
      refine k_ret rfl trivial ⟨rfl, rfl, s2, ⟨⟨⟨hO, PC_sm s2 rfl (fun _ => rfl) hP, MM_sm s2 rfl (fun _ => rfl) hM, HL_sm s2 (fun _ => rfl) hH⟩, ⟨by rw [e7]; exact f1, Or.inl z8⟩, ⟨by rw [e7]; exact g1, fun z => ?_⟩, (fun z => by cases z), fun _ => zV, fun _ => zD⟩, HI_sm s2 rfl (fun _ => rfl) hI, CX_sm hX s2 (fun _ => rfl) rfl⟩, z8⟩
      rw [e7] at z
      obtain ⟨Q, o1, o2⟩ := g2 z
      exact ⟨Q, RK_sm2 s2 rfl (fun _ => rfl) o1, o2⟩
    have hP1 : PC w1 np trap nv nc ne c e f := PC_sm s1 rfl (fun _ => rfl) hP
    have hM1 : MM w1 nv nc c f := MM_sm s1 rfl (fun _ => rfl) hM
    have hH1 : HL w1 lk := HL_sm s1 (fun _ => rfl) hH
    refine k_gp rfl rfl (by first | trivial | decide | (simp only [true_and, mm_fits]; omega)) ?_
    refine k_br rfl (fun g => J91 w1 s1 g hV (hD g)) (fun g => ?_)
    refine k_gp rfl rfl (by first | trivial | decide | (simp only [true_and, mm_fits]; omega)) ?_
    refine k_call0 rfl (ev_c_search (lk := lk) hO hP1 hM1 hV.1 hV.2.1 hV.2.2 hH1) rfl rfl rfl (by decide) ?_
    rintro a b' w2 ⟨rfl, rfl, s2, o1, o2, o3⟩
    refine k_gp rfl rfl (by first | trivial | decide | (simp only [true_and, mm_fits]; omega)) ?_
    have s3 : sm [(21, some 8)] w2 (mm_up w2 21 0 8 0) := sm_up sm_rf (Or.inr (by decide))
    have hV2 : OD w2 nv ∧ FS w2 c f nv nc ∧ FF w2 c e nv nc ne := by
      refine ⟨?_, fun u a b => by rw [nsB_sm s2 (fun _ => rfl)]; exact hV.2.1 u a b, o3⟩
      have e60 : ∀ k, w2 60 0 k = w1 60 0 k := fun k => s2 60 0 k rfl
      unfold OD
      simp only [e60]
      exact hV.1
    refine J91 _ (sm_tr (sm_tr s1 (sm_w s2 (by decide))) (sm_w s3 (by decide))) up_s (LV_sm s3 (fun _ => rfl) hV2) ⟨⟨QC_sm s3 rfl (fun _ => rfl) o1.1, ?_⟩, fun x a b => LE_sm s3 (fun _ => rfl) (o2 x a b)⟩
    rw [s3 77 0 10 rfl]
    intro z
    have := o1.2 z
    exact ⟨(s3 66 0 5 rfl).trans this.1, this.2.1, fun j a b => (s3 67 0 _ rfl).trans (this.2.2 j a b)⟩
  cases y with
  | true =>
    refine k_gp rfl rfl (by first | trivial | decide | (simp only [true_and, mm_fits]; omega)) ?_
    refine k_brt rfl trivial ?_
    exact J72 w _ _ sm_rf h.1.2.1.2 (h.1.2.2.2.2.1 rfl) h.1.2.2.2.2.2
  | false =>
    have e8 := h.1.2.2.2.1 rfl
    obtain ⟨r1, m⟩ := r
    refine k_gp rfl rfl (by first | trivial | decide | (simp only [true_and, mm_fits]; omega)) ?_
    refine k_brf rfl (fun z => z) ?_
    refine k_newo (g := 55) (n1 := (43, 15314)) rfl rfl ck_X9_256 (by cases r1 <;> cases m <;> decide) ⟨rfl, rfl⟩ ?_
    refine k_gp rfl rfl (by first | trivial | decide | (simp only [true_and, mm_fits]; omega)) ?_
    refine k_call (n1 := (20, 7317)) (n' := (23, 7997)) rfl (ev_init_55 (by cases r1 <;> cases m <;> decide) (by cases r1 <;> cases m <;> decide) (by cases r1 <;> cases m <;> decide) (by cases r1 <;> cases m <;> decide) (by cases r1 <;> cases m <;> decide) (by cases r1 <;> cases m <;> decide) (by cases r1 <;> cases m <;> decide) (by cases r1 <;> cases m <;> decide) (by cases r1 <;> cases m <;> decide) (by cases r1 <;> cases m <;> decide)) rfl rfl rfl (fun _ => rfl) ⟨rfl, rfl⟩ ?_
    rintro a b' w' ⟨rfl, rfl, rfl⟩
    refine k_gp rfl rfl (by first | trivial | decide | (simp only [true_and, mm_fits]; omega)) ?_
    refine k_newo (g := 66) (n1 := (19, 7305)) rfl rfl ck_X9_175 (by cases r1 <;> cases m <;> decide) ⟨rfl, rfl⟩ ?_
    refine k_gp rfl rfl (by first | trivial | decide | (simp only [true_and, mm_fits]; omega)) ?_
    refine k_call (n1 := (9, 4190)) (n' := (10, 3115)) rfl (ev_init_66 (by cases r1 <;> cases m <;> decide) (by cases r1 <;> cases m <;> decide) (by cases r1 <;> cases m <;> decide) (by cases r1 <;> cases m <;> decide) (by cases r1 <;> cases m <;> decide) (by cases r1 <;> cases m <;> decide) (by cases r1 <;> cases m <;> decide) (by cases r1 <;> cases m <;> decide) (by cases r1 <;> cases m <;> decide) (by cases r1 <;> cases m <;> decide)) rfl rfl rfl (fun _ => rfl) ⟨rfl, rfl⟩ ?_
    rintro a b' w' ⟨rfl, rfl, rfl⟩
    refine k_gp rfl rfl (by first | trivial | decide | (simp only [true_and, mm_fits]; omega)) ?_
    refine k_newo (g := 77) (n1 := (8, 4179)) rfl rfl ck_X9_154 (by cases r1 <;> cases m <;> decide) ⟨rfl, rfl⟩ ?_
    refine k_gp rfl rfl (by first | trivial | decide | (simp only [true_and, mm_fits]; omega)) ?_
    refine k_call (n1 := (0, 0)) (n' := (8, 4179)) rfl (ev_init_77 (by cases r1 <;> cases m <;> decide) (by cases r1 <;> cases m <;> decide) (by cases r1 <;> cases m <;> decide) (by cases r1 <;> cases m <;> decide) (by cases r1 <;> cases m <;> decide) (by cases r1 <;> cases m <;> decide) (by cases r1 <;> cases m <;> decide) (by cases r1 <;> cases m <;> decide)) rfl rfl rfl (fun _ => rfl) ⟨rfl, rfl⟩ ?_
    rintro a b' w' ⟨rfl, rfl, rfl⟩
    refine k_putr rfl rfl pp_X9_236 (fun z => by cases z) ?_
    refine k_ph (b' := PH (r1, m) true) ?_ ?_ (ph_ok _ _) ?_
    · cases r1 <;> cases m <;> decide +kernel
    · cases r1 <;> cases m <;> decide +kernel
    · have s1 : sm nmL w (zr (zr (zr (zr (zr (zr (zr (zr (zr (zr (zr (zr (zr (zr (zr (zr (zr (zr (zr (zr (zr (zr (zr (zr (zr (zr (zr (zr (zr (zr (zr w 55) 56) 57) 58) 59) 60) 61) 62) 63) 64) 65) 66) 67) 68) 69) 70) 71) 72) 73) 74) 75) 76) 77) 78) 79) 80) 81) 82) 83) 84) 85) := (zr_sm (zr_sm (zr_sm (zr_sm (zr_sm (zr_sm (zr_sm (zr_sm (zr_sm (zr_sm (zr_sm (zr_sm (zr_sm (zr_sm (zr_sm (zr_sm (zr_sm (zr_sm (zr_sm (zr_sm (zr_sm (zr_sm (zr_sm (zr_sm (zr_sm (zr_sm (zr_sm (zr_sm (zr_sm (zr_sm (zr_sm sm_rf (by decide)) (by decide)) (by decide)) (by decide)) (by decide)) (by decide)) (by decide)) (by decide)) (by decide)) (by decide)) (by decide)) (by decide)) (by decide)) (by decide)) (by decide)) (by decide)) (by decide)) (by decide)) (by decide)) (by decide)) (by decide)) (by decide)) (by decide)) (by decide)) (by decide)) (by decide)) (by decide)) (by decide)) (by decide)) (by decide)) (by decide))
      have e8' : (zr (zr (zr (zr (zr (zr (zr (zr (zr (zr (zr (zr (zr (zr (zr (zr (zr (zr (zr (zr (zr (zr (zr (zr (zr (zr (zr (zr (zr (zr (zr w 55) 56) 57) 58) 59) 60) 61) 62) 63) 64) 65) 66) 67) 68) 69) 70) 71) 72) 73) 74) 75) 76) 77) 78) 79) 80) 81) 82) 83) 84) 85) 21 0 8 = 1 := e8
      generalize (zr (zr (zr (zr (zr (zr (zr (zr (zr (zr (zr (zr (zr (zr (zr (zr (zr (zr (zr (zr (zr (zr (zr (zr (zr (zr (zr (zr (zr (zr (zr w 55) 56) 57) 58) 59) 60) 61) 62) 63) 64) 65) 66) 67) 68) 69) 70) 71) 72) 73) 74) 75) 76) 77) 78) 79) 80) 81) 82) 83) 84) 85) = w1 at *
      obtain ⟨⟨⟨hO, hP, hM, hH⟩, -⟩, -⟩ := id h
      refine k_gp rfl rfl (by first | trivial | decide | (simp only [true_and, mm_fits]; omega)) ?_
      refine k_call0 rfl (ev_c_mtake (r := (r1, m)) (y := true) (e := e) (f := f) (c := c) hO (MM_sm s1 rfl (fun _ => rfl) hM)) rfl rfl rfl (by decide) ?_
      rintro a b' w2 ⟨rfl, rfl, s2, o⟩
      have e82 : w2 21 0 8 = 1 := (s2 21 0 8 rfl).trans e8'
      exact J72 w2 _ _ (sm_tr s1 (sm_w s2 (by decide))) (Or.inr e82) o (fun z => by rw [e82] at z; exact absurd z (by decide))
end MC
