/-! ===== phases are well; the newest real search ===== -/
theorem nth_no {α : Type} : ∀ (l : List α) (k : Nat), l.length ≤ k → mm_nth l k = none
  | [], _, _ => rfl
  | _ :: r, 0, h => absurd h (by simp)
  | _ :: r, k + 1, h => nth_no r k (by simp at h; exact h)
theorem rl_short (g : Nat) : (mm_dv [] (mm_nth mm_rl g)).length ≤ 34 := by
  have hall : ∀ l ∈ mm_rl, l.length ≤ 34 := by decide +kernel
  cases h : mm_nth mm_rl g with
  | none => exact Nat.zero_le _
  | some l => exact hall l (mm_nth_mem h)
def phB (b : mm_B) : Bool := b.2.all fun g => (List.range 40).all (fun k => match b.1 g k with
  | none => true
  | some q => b.2.elem q.1 && decide (0 ≤ q.2 ∧ q.2 < mm_nr q.1)) && (!(Nat.beq (mm_gk g).1 4) || (b.2.elem (mm_gk g).2.2 && Nat.beq (mm_nr (mm_gk g).2.2) (mm_gk g).2.1))
theorem ph_of {b : mm_B} (h : phB b = true) (hk : ∀ g k, b.1 g (k + 40) = none) : mm_ph b := by
  unfold phB at h
  rw [List.all_eq_true] at h
  refine ⟨fun g hg k q hq => ?_, fun g hg z => ?_⟩
  · have h1 := h g hg
    rw [Bool.and_eq_true, List.all_eq_true] at h1
    by_cases hlt : k < 40
    · have h2 := h1.1 k (List.mem_range.mpr hlt)
      rw [hq] at h2
      rw [Bool.and_eq_true] at h2
      exact ⟨List.elem_iff.mp h2.1, of_decide_eq_true h2.2⟩
    · rw [show k = (k - 40) + 40 by omega, hk] at hq
      cases hq
  · have h1 := h g hg
    rw [Bool.and_eq_true] at h1
    have h2 := h1.2
    rw [z] at h2
    rw [show (!(Nat.beq 4 4)) = false from rfl, Bool.false_or, Bool.and_eq_true] at h2
    exact ⟨List.elem_iff.mp h2.1, Nat.eq_of_beq_eq_true h2.2⟩
theorem rf0_no (g k : Nat) : mm_rf0 g (k + 40) = none := by
  unfold mm_rf0
  rw [nth_no _ _ (by have := rl_short g; omega)]
  rfl
theorem ph_ok (r : Bool × Bool) (y : Bool) : mm_ph (PH r y) := by
  refine ph_of ?_ (fun g k => ?_)
  · obtain ⟨r1, r2⟩ := r
    cases r1 <;> cases r2 <;> cases y <;> decide +kernel
  · show ph_rf r.1 y g (k + 40) = none
    unfold ph_rf
    cases Nat.beq g 21 with
    | true => exact rf0_no 21 k
    | false => exact rf0_no g k
theorem zr_sm {L : List (Nat × Option Int)} {w w' : mm_M} {g : Nat} (h : sm L w w') (hm : (g, none) ∈ L) : sm L w (zr w' g) := by
  intro g' j k hf
  rw [zr_o (fun z => ?_), h g' j k hf]
  rw [z] at hf
  unfold frB at hf
  rw [List.all_eq_true] at hf
  have := hf _ hm
  simp [Nat.beq_refl] at this
def nR (b : Bool) : Nat × Nat := match b with
  | true => (0, 0)
  | false => (8, 8355)
def nM (b : Bool) : Nat × Nat := match b with
  | true => (0, 0)
  | false => (44, 15323)
abbrev mkR : List (Nat × Option Int) := [(47, none), (48, none), (49, none), (50, none), (51, none), (52, none), (53, none), (54, none)]
section MC
variable {r : Bool × Bool} {y : Bool} {w : mm_M} {np trap nv nc ne : Int} {c e : Int → Int → Int} {f lk : Int → Int} {d : Int} {hl : Int → Int → Int} {hw : Int → Int} {t : Int → Int} {n : Int}
abbrev nrL : List (Nat × Option Int) := (21, some 7) :: mkR
set_option maxRecDepth 100000 in
theorem ev_c_newReal (h : CS w r y np trap nv nc ne c e f lk d hl hw t n) : mm_Ev K_X9_newestReal (nR r.1) [.inr (some (21, 0))] (PH r y) w (fun a b' w' => a = some (.inr (some (47, 0))) ∧ b' = PH (true, r.2) y ∧ sm nrL w w' ∧ CS w' (true, r.2) y np trap nv nc ne c e f lk d hl hw t n ∧ w' 21 0 7 = 0) := by
  refine ev_intro ok_X9_newestReal mo_X9_newestReal (Nat.le_of_ble_eq_true rfl) (fun hrg has => ?_)
  have J26 : ∀ w1, sm nrL w w1 → (w1 21 0 7 = 0 ∨ w1 21 0 7 = 1) → (w1 21 0 7 = 0 → ∃ Q, RK w1 c nc trap Q ∧ RE c e f nv ne Q) → mm_Wk K_X9_newestReal (0, 0) 26 [some (.inr (some (21, 0)))] [] (PH (true, r.2) y) w1 (fun a b' w' => a = some (.inr (some (47, 0))) ∧ b' = PH (true, r.2) y ∧ sm nrL w w' ∧ CS w' (true, r.2) y np trap nv nc ne c e f lk d hl hw t n ∧ w' 21 0 7 = 0) := fun w1 s1 h7 hQ => by
    obtain ⟨⟨⟨hO, hP, hM, hH⟩, ⟨f1, f2⟩, -, d1, d2, d3⟩, hI, hX⟩ := h
    have J45 : ∀ w2, sm nrL w w2 → w2 21 0 7 = 0 → (∃ Q, RK w2 c nc trap Q ∧ RE c e f nv ne Q) → mm_Wk K_X9_newestReal (0, 0) 45 [some (.inr (some (21, 0)))] [] (PH (true, r.2) y) w2 (fun a b' w' => a = some (.inr (some (47, 0))) ∧ b' = PH (true, r.2) y ∧ sm nrL w w' ∧ CS w' (true, r.2) y np trap nv nc ne c e f lk d hl hw t n ∧ w' 21 0 7 = 0) := fun w2 s2 z7 zQ => by
      refine k_gp rfl rfl (by first | trivial | decide | (simp only [true_and, mm_fits]; omega)) ?_
      have e8 : w2 21 0 8 = w 21 0 8 := s2 21 0 8 rfl
      refine k_ret rfl trivial ⟨rfl, rfl, s2, ⟨⟨⟨hO, PC_sm s2 rfl (fun _ => rfl) hP, MM_sm s2 rfl (fun _ => rfl) hM, HL_sm s2 (fun _ => rfl) hH⟩, ⟨Or.inl z7, by rw [e8]; exact f2⟩, ⟨(fun z => by cases z), fun _ => zQ⟩, by rw [e8]; exact d1, fun z => LV_sm s2 (fun _ => rfl) (d2 z), fun z => ?_⟩, HI_sm s2 rfl (fun _ => rfl) hI, CX_sm hX s2 (fun _ => rfl) rfl⟩, z7⟩
      rw [e8] at z
      obtain ⟨o1, o2⟩ := d3 z
      refine ⟨⟨QC_sm s2 rfl (fun _ => rfl) o1.1, ?_⟩, fun x a b => LE_sm s2 (fun _ => rfl) (o2 x a b)⟩
      rw [s2 77 0 10 rfl]
      intro z
      have := o1.2 z
      exact ⟨(s2 66 0 5 rfl).trans this.1, this.2.1, fun j a b => (s2 67 0 _ rfl).trans (this.2.2 j a b)⟩
    have hP1 : PC w1 np trap nv nc ne c e f := PC_sm s1 rfl (fun _ => rfl) hP
    have hM1 : MM w1 nv nc c f := MM_sm s1 rfl (fun _ => rfl) hM
    refine k_gp rfl rfl (by first | trivial | decide | (simp only [true_and, mm_fits]; omega)) ?_
    refine k_br rfl (fun g => J45 w1 s1 g (hQ g)) (fun g => ?_)
    refine k_gp rfl rfl (by first | trivial | decide | (simp only [true_and, mm_fits]; omega)) ?_
    refine k_call0 rfl (ev_c_rsearch (r := (true, r.2)) hO hP1 hM1) rfl rfl rfl (by decide) ?_
    rintro a b' w2 ⟨rfl, rfl, s2, Q, hK, hE⟩
    refine k_gp rfl rfl (by first | trivial | decide | (simp only [true_and, mm_fits]; omega)) ?_
    have s3 : sm [(21, some 7)] w2 (mm_up w2 21 0 7 0) := sm_up sm_rf (Or.inr (by decide))
    exact J45 _ (sm_tr (sm_tr s1 (sm_w s2 (by decide))) (sm_w s3 (by decide))) up_s ⟨Q, RK_sm2 s3 rfl (fun _ => rfl) hK, hE⟩
  obtain ⟨r1, m⟩ := r
  cases r1 with
  | true =>
    refine k_gp rfl rfl (by first | trivial | decide | (simp only [true_and, mm_fits]; omega)) ?_
    refine k_brt rfl trivial ?_
    exact J26 w sm_rf h.1.2.1.1 h.1.2.2.1.2
  | false =>
    have e7 := h.1.2.2.1.1 rfl
    refine k_gp rfl rfl (by first | trivial | decide | (simp only [true_and, mm_fits]; omega)) ?_
    refine k_brf rfl (fun z => z) ?_
    refine k_gp rfl rfl (by first | trivial | decide | (simp only [true_and, mm_fits]; omega)) ?_
    refine k_newo (g := 47) (n1 := (7, 8345)) rfl rfl ck_X9_121 (by cases m <;> cases y <;> decide) ⟨rfl, rfl⟩ ?_
    refine k_gp rfl rfl (by first | trivial | decide | (simp only [true_and, mm_fits]; omega)) ?_
    refine k_call (n1 := (0, 0)) (n' := (7, 8345)) rfl (ev_init_47 (by cases m <;> cases y <;> decide) (by cases m <;> cases y <;> decide) (by cases m <;> cases y <;> decide) (by cases m <;> cases y <;> decide) (by cases m <;> cases y <;> decide) (by cases m <;> cases y <;> decide) (by cases m <;> cases y <;> decide)) rfl rfl rfl (fun _ => rfl) ⟨rfl, rfl⟩ ?_
    rintro a b' w' ⟨rfl, rfl, rfl⟩
    refine k_putr rfl rfl pp_X9_246 (fun z => by cases z) ?_
    refine k_ph (b' := PH (true, m) y) ?_ ?_ (ph_ok _ _) ?_
    · cases m <;> cases y <;> decide +kernel
    · cases m <;> cases y <;> decide +kernel
    · have s1 : sm nrL w (zr (zr (zr (zr (zr (zr (zr (zr w 47) 48) 49) 50) 51) 52) 53) 54) := zr_sm (zr_sm (zr_sm (zr_sm (zr_sm (zr_sm (zr_sm (zr_sm sm_rf (by decide)) (by decide)) (by decide)) (by decide)) (by decide)) (by decide)) (by decide)) (by decide)
      have e7' : zr (zr (zr (zr (zr (zr (zr (zr w 47) 48) 49) 50) 51) 52) 53) 54 21 0 7 = 1 := e7
      exact J26 _ s1 (Or.inr e7') (fun z => by rw [e7'] at z; exact absurd z (by decide))
end MC
