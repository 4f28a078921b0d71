/-! ===== the class: told, turned, looked at, undone ===== -/
section MC
variable {r : Bool × Bool} {y : Bool} {w : mm_M} {np trap nv nc ne : Int} {c e : Int → Int → Int} {f lk : Int → Int} {d : Int} {hl : Int → Int → Int} {hw : Int → Int} {t : Int → Int} {n : Int}
theorem ev_c_write {l : Int} (hX : CX w t n) : mm_Ev K_X9_write (0, 0) [.inr (some (21, 0)), .inl l] (PH r y) w (mm_pe (some (.inl (if l < 32 ∨ l > 126 then -1 else if n = 200 then -3 else n + 1))) (PH r y) (if l < 32 ∨ l > 126 ∨ n = 200 then w else mm_up (mm_up w 23 0 n l) 22 0 1 (n + 1))) := by
  refine ev_intro ok_X9_write mo_X9_write (Nat.le_of_ble_eq_true rfl) (fun hrg has => ?_)
  obtain ⟨x1, x2, x3⟩ := hX
  have bad : ∀ pc, pc = 12 → (l < 32 ∨ l > 126) → mm_Wk K_X9_write (0, 0) pc [some (.inr (some (21, 0))), some (.inl l)] [] (PH r y) w (mm_pe (some (.inl (if l < 32 ∨ l > 126 then -1 else if n = 200 then -3 else n + 1))) (PH r y) (if l < 32 ∨ l > 126 ∨ n = 200 then w else mm_up (mm_up w 23 0 n l) 22 0 1 (n + 1))) := fun pc hpc h => by
    subst hpc
    rw [if_pos h, if_pos (by omega)]
    refine k_gp rfl rfl (by first | trivial | decide | (simp only [true_and, mm_fits]; omega)) ?_
    exact k_ret rfl (by decide) ⟨rfl, rfl, rfl⟩
  refine k_gp rfl rfl (by first | trivial | decide | (simp only [true_and, mm_fits]; omega)) ?_
  refine k_br rfl (fun g => bad _ rfl (Or.inl g)) (fun g => ?_)
  refine k_gp rfl rfl (by first | trivial | decide | (simp only [true_and, mm_fits]; omega)) ?_
  refine k_br rfl (fun g2 => ?_) (fun g2 => bad _ rfl (Or.inr (by omega)))
  rw [if_neg (by omega)]
  refine k_gp rfl rfl (by simp only [true_and, mm_fits]; omega) ?_
  have ev := ev_c_tadd (r := r) (y := y) (w := w) (l := l) (by omega) (by omega)
  rw [x2] at ev
  refine k_callp rfl ev rfl rfl rfl (by decide) ?_
  refine k_brz rfl (fun q => ?_) (fun q => ?_)
  · rw [if_neg q, if_pos (by omega), if_pos (by omega)]
    refine k_gp rfl rfl (by first | trivial | decide | (simp only [true_and, mm_fits]; omega)) ?_
    exact k_ret rfl (by decide) ⟨rfl, rfl, rfl⟩
  · rw [if_pos q, if_neg (by omega), if_neg (by omega)]
    refine k_gp rfl rfl (by first | trivial | decide | (simp only [true_and, mm_fits]; omega)) ?_
    have ev2 := ev_c_tsize (r := r) (y := y) (w := mm_up (mm_up w 23 0 n l) 22 0 1 (n + 1))
    rw [up_s] at ev2
    refine k_callp rfl ev2 rfl rfl rfl (by decide) ?_
    refine k_gp rfl rfl (by first | trivial | decide | (simp only [true_and, mm_fits]; omega)) ?_
    exact k_ret rfl trivial ⟨rfl, rfl, rfl⟩
theorem ev_c_wipe : mm_Ev K_X9_wipe (0, 0) [.inr (some (21, 0))] (PH r y) w (mm_pe (some (.inl (w 22 0 1))) (PH r y) (mm_up w 22 0 1 0)) := by
  refine ev_intro ok_X9_wipe mo_X9_wipe (Nat.le_of_ble_eq_true rfl) (fun hrg has => ?_)
  refine k_gp rfl rfl (by first | trivial | decide | (simp only [true_and, mm_fits]; omega)) ?_
  refine k_callp rfl ev_c_tsize rfl rfl rfl (by decide) ?_
  refine k_gp rfl rfl (by first | trivial | decide | (simp only [true_and, mm_fits]; omega)) ?_
  refine k_callp rfl ev_c_tempty rfl rfl rfl (by decide) ?_
  refine k_gp rfl rfl (by first | trivial | decide | (simp only [true_and, mm_fits]; omega)) ?_
  exact k_ret rfl trivial ⟨rfl, rfl, rfl⟩
theorem ev_c_fault (hX : CX w t n) : mm_Ev K_X9_fault (0, 0) [.inr (some (21, 0))] (PH r y) w (fun a b' w' => b' = PH r y ∧ sm ttL w w' ∧ a = some (.inl (told t n).1)) := by
  refine ev_intro ok_X9_fault mo_X9_fault (Nat.le_of_ble_eq_true rfl) (fun hrg has => ?_)
  refine k_gp rfl rfl (by first | trivial | decide | (simp only [true_and, mm_fits]; omega)) ?_
  refine k_call0 rfl (ev_c_firstFault hX) rfl rfl rfl (by decide) ?_
  rintro a b' w' ⟨rfl, s1, rfl, -⟩
  exact k_ret rfl trivial ⟨rfl, s1, rfl⟩
theorem TW_PO {T : TS} (h : TW T) (h0 : T.1.1 ≠ 0) : PO T.1.1 T.1.2.1 T.1.2.2.1 T.1.2.2.2.1 T.1.2.2.2.2 T.2.2.1 T.2.2.2 := by
  obtain ⟨⟨a1, a2, a3, a4⟩, b, c, d⟩ := h
  exact ⟨a1.resolve_left h0, b h0, a2, a3, a4, c, d⟩
theorem ev_c_mtake (hO : PO np trap nv nc ne c e) (hM : MM w nv nc c f) : mm_Ev K_X2_takeProgram (0, 0) [.inr (some (77, 0))] (PH r y) w (fun a b' w' => a = none ∧ b' = PH r y ∧ sm tpL w w' ∧ OD w' nv ∧ FS w' c f nv nc ∧ FF w' c e nv nc ne) := by
  refine ev_intro ok_X2_takeProgram mo_X2_takeProgram (Nat.le_of_ble_eq_true rfl) (fun hrg has => ?_)
  refine k_gp rfl rfl (by first | trivial | decide | (simp only [true_and, mm_fits]; omega)) ?_
  refine k_call0 rfl (ev_c_ltake hO hM) rfl rfl rfl (by decide) ?_
  rintro a b' w' ⟨rfl, rfl, h⟩
  exact k_ret rfl trivial ⟨rfl, rfl, h⟩
abbrev tkL : List (Nat × Option Int) := ttL ++ (bcL ++ (leL ++ (tpL ++ [(42, none), (43, some 2), (21, some 7), (21, some 8)])))
set_option maxRecDepth 100000 in
theorem ev_c_takeText (hX : CX w t n) (h3 : 0 ≤ w 43 0 3 ∧ w 43 0 3 < 6) : mm_Ev K_X9_takeText (0, 0) [.inr (some (21, 0))] (PH r y) w (fun a b' w' => b' = PH r y ∧ sm tkL w w' ∧ ((told t n).1 = -4 ∧ (told t n).2.1.1 ≠ 0 → a = some (.inl 1) ∧ CS w' r y (told t n).2.1.1 (told t n).2.1.2.1 (told t n).2.1.2.2.1 (told t n).2.1.2.2.2.1 (told t n).2.1.2.2.2.2 (told t n).2.2.2.1 (told t n).2.2.2.2 (told t n).2.2.1 (fun _ => 0) 0 hl hw t n ∧ w' 21 0 7 = 1 ∧ w' 21 0 8 = 1) ∧ (¬ ((told t n).1 = -4 ∧ (told t n).2.1.1 ≠ 0) → a = some (.inl 0) ∧ sm ttL w w')) := by
  refine ev_intro ok_X9_takeText mo_X9_takeText (Nat.le_of_ble_eq_true rfl) (fun hrg has => ?_)
  have hTW := told_TW t n
  have hdef : told t n = prs t n 201 0 T0 := rfl
  refine k_gp rfl rfl (by first | trivial | decide | (simp only [true_and, mm_fits]; omega)) ?_
  refine k_call0 rfl (ev_c_firstFault hX) rfl rfl rfl (by decide) ?_
  rw [← hdef]
  rintro a b' w1 ⟨rfl, s1, rfl, hR⟩
  generalize told t n = TT at *
  obtain ⟨F, T⟩ := TT
  dsimp only at hTW hR ⊢
  have no : ∀ pc, pc = 25 → ¬ (F = -4 ∧ T.1.1 ≠ 0) → mm_Wk K_X9_takeText (0, 0) pc [some (.inr (some (21, 0)))] [] (PH r y) w1 (fun a b' w' => b' = PH r y ∧ sm tkL w w' ∧ (F = -4 ∧ T.1.1 ≠ 0 → a = some (.inl 1) ∧ CS w' r y T.1.1 T.1.2.1 T.1.2.2.1 T.1.2.2.2.1 T.1.2.2.2.2 T.2.2.1 T.2.2.2 T.2.1 (fun _ => 0) 0 hl hw t n ∧ w' 21 0 7 = 1 ∧ w' 21 0 8 = 1) ∧ (¬ (F = -4 ∧ T.1.1 ≠ 0) → a = some (.inl 0) ∧ sm ttL w w')) := fun pc hpc h => by
    subst hpc
    refine k_gp rfl rfl (by first | trivial | decide | (simp only [true_and, mm_fits]; omega)) ?_
    exact k_ret rfl (by decide) ⟨rfl, sm_w s1 (by decide), fun z => absurd z h, fun _ => ⟨rfl, s1⟩⟩
  refine k_gp rfl rfl (by first | trivial | decide | (simp only [true_and, mm_fits]; omega)) ?_
  refine k_br rfl (fun g => no _ rfl (fun z => g z.1)) (fun g => ?_)
  have g : F = -4 := Classical.byContradiction g
  obtain ⟨hCR, hTB⟩ := hR g
  refine k_gp rfl rfl (by first | trivial | decide | (simp only [true_and, mm_fits]; omega)) ?_
  refine k_callp rfl ev_c_tprogram rfl rfl rfl (by decide) ?_
  refine k_gp rfl rfl (by first | trivial | decide | (simp only [true_and, mm_fits]; omega)) ?_
  rw [hCR.1.1]
  refine k_br rfl (fun g2 => ?_) (fun g2 => no _ rfl (fun z => g2 z.2))
  have hO := TW_PO hTW g2
  refine k_gp rfl rfl (by first | trivial | decide | (simp only [true_and, mm_fits]; omega)) ?_
  refine k_callp rfl ev_c_tprogram rfl rfl rfl (by decide) ?_
  refine k_call0 rfl ev_c_become rfl rfl rfl (by decide) ?_
  rintro a b' w2 ⟨rfl, rfl, s2, hBC⟩
  have hP2 : PC w2 T.1.1 T.1.2.1 T.1.2.2.1 T.1.2.2.2.1 T.1.2.2.2.2 T.2.2.1 T.2.2.2 T.2.1 := by
    obtain ⟨⟨q0, q1, q2, q3, q4⟩, q5, q6, q7⟩ := hBC
    obtain ⟨⟨r0, r1, r2, r3, r4⟩, r5, r6, r7⟩ := hCR
    obtain ⟨-, u2, u3, u4⟩ := hTB
    refine ⟨⟨q0.trans r0, q1.trans r1, q2.trans r2, q3.trans r3, q4.trans r4⟩, fun v a b => ?_, fun x k a b c1 d1 => ?_, fun x k a b c1 d1 => ?_⟩
    · have := q5 v a (by omega)
      rw [this.1, this.2]; exact r5 v a b
    · rw [q6 x k a (by omega) c1 d1]; exact r6 x k a b c1 d1
    · rw [q7 x k a (by omega) c1 d1]; exact r7 x k a b c1 d1
  refine k_gp rfl rfl (by first | trivial | decide | (simp only [true_and, mm_fits]; omega)) ?_
  refine k_call0 rfl (ev_c_learn hO hP2) rfl rfl rfl (by decide) ?_
  rintro a b' w3 ⟨rfl, rfl, s3, hM3⟩
  have hP3 : PC w3 _ _ _ _ _ _ _ _ := PC_sm s3 rfl (fun _ => rfl) hP2
  have z3 : sm tkL w w3 := sm_tr (sm_tr (sm_w s1 (by decide)) (sm_w s2 (by decide))) (sm_w s3 (by decide))
  refine k_gp rfl rfl (by first | trivial | decide | (simp only [true_and, mm_fits]; omega)) ?_
  refine k_callp rfl (ev_fill (g := 42) (N := 8) (by unfold FLL; decide)) rfl rfl rfl (by decide) ?_
  refine k_gp rfl rfl (by first | trivial | decide | (simp only [true_and, mm_fits]; omega)) ?_
  refine k_callp rfl ev_c_hempty rfl rfl rfl (by decide) ?_
  have z4 : sm [(42, none), (43, some 2)] w3 (mm_up (arrw w3 42 0 8 (fun _ => 0)) 43 0 2 0) := sm_up (sm_arrw sm_rf List.mem_cons_self) (Or.inr (by decide))
  have e42 : ∀ p, 0 ≤ p → p < 8 → mm_up (arrw w3 42 0 8 (fun _ => 0)) 43 0 2 0 42 0 p = 0 := fun p a b => by rw [up_g rfl, arrw_in (by omega)]
  have e43 : mm_up (arrw w3 42 0 8 (fun _ => 0)) 43 0 2 0 43 0 2 = 0 := up_s
  generalize mm_up (arrw w3 42 0 8 (fun _ => 0)) 43 0 2 0 = w4 at *
  have hP4 : PC w4 _ _ _ _ _ _ _ _ := PC_sm z4 rfl (fun _ => rfl) hP3
  have hM4 : MM w4 _ _ _ _ := MM_sm z4 rfl (fun _ => rfl) hM3
  have z5 : sm tkL w w4 := sm_tr z3 (sm_w z4 (by decide))
  have fin : ∀ w5, sm tkL w w5 → PC w5 T.1.1 T.1.2.1 T.1.2.2.1 T.1.2.2.2.1 T.1.2.2.2.2 T.2.2.1 T.2.2.2 T.2.1 → MM w5 T.1.2.2.1 T.1.2.2.2.1 T.2.2.1 T.2.1 → (∀ p, 0 ≤ p → p < 8 → w5 42 0 p = 0) → w5 43 0 2 = 0 → (y = true → OD w5 T.1.2.2.1 ∧ FS w5 T.2.2.1 T.2.1 T.1.2.2.1 T.1.2.2.2.1 ∧ FF w5 T.2.2.1 T.2.2.2 T.1.2.2.1 T.1.2.2.2.1 T.1.2.2.2.2) → mm_Wk K_X9_takeText (0, 0) 77 [some (.inr (some (21, 0)))] [] (PH r y) w5 (fun a b' w' => b' = PH r y ∧ sm tkL w w' ∧ (F = -4 ∧ T.1.1 ≠ 0 → a = some (.inl 1) ∧ CS w' r y T.1.1 T.1.2.1 T.1.2.2.1 T.1.2.2.2.1 T.1.2.2.2.2 T.2.2.1 T.2.2.2 T.2.1 (fun _ => 0) 0 hl hw t n ∧ w' 21 0 7 = 1 ∧ w' 21 0 8 = 1) ∧ (¬ (F = -4 ∧ T.1.1 ≠ 0) → a = some (.inl 0) ∧ sm ttL w w')) := fun w5 t1 t2 t3 t4 t5 t6 => by
    refine k_gp rfl rfl (by first | trivial | decide | (simp only [true_and, mm_fits]; omega)) ?_
    refine k_callp rfl ev_c_forget rfl rfl rfl (by decide) ?_
    refine k_gp rfl rfl (by first | trivial | decide | (simp only [true_and, mm_fits]; omega)) ?_
    have u1 : sm [(21, some 7), (21, some 8)] w5 (mm_up (mm_up w5 21 0 7 1) 21 0 8 1) := sm_up (sm_up sm_rf (Or.inr (by decide))) (Or.inr (by decide))
    have e7 : mm_up (mm_up w5 21 0 7 1) 21 0 8 1 21 0 7 = 1 := (up_k (by decide)).trans up_s
    have e8 : mm_up (mm_up w5 21 0 7 1) 21 0 8 1 21 0 8 = 1 := up_s
    generalize mm_up (mm_up w5 21 0 7 1) 21 0 8 1 = w6 at *
    have u2 : sm tkL w w6 := sm_tr t1 (sm_w u1 (by decide))
    refine k_ret rfl (by decide) ⟨rfl, u2, fun _ => ⟨rfl, ⟨⟨⟨hO, PC_sm u1 rfl (fun _ => rfl) t2, MM_sm u1 rfl (fun _ => rfl) t3, fun p a b => ⟨(u1 42 0 p rfl).trans (t4 p a b), (show (0 : Int) ≤ 0 by decide), (show (0 : Int) < 256 by decide)⟩⟩, ⟨Or.inr e7, Or.inr e8⟩, ⟨fun _ => e7, fun z => by rw [e7] at z; exact absurd z (by decide)⟩, fun _ => e8, fun z => ?_, fun z => by rw [e8] at z; exact absurd z (by decide)⟩, ⟨⟨(u1 43 0 2 rfl).trans t5, by decide, by rw [u2 43 0 3 rfl]; exact h3⟩, fun i a b => by omega⟩, CX_sm hX u2 (fun _ => rfl) rfl⟩, e7, e8⟩, fun z => absurd ⟨g, g2⟩ z⟩
    obtain ⟨o1, o2, o3⟩ := t6 z
    refine ⟨?_, fun u a b => by rw [nsB_sm u1 (fun _ => rfl)]; exact o2 u a b, fun x a b z => ?_⟩
    · have e60 : ∀ k, w6 60 0 k = w5 60 0 k := fun k => u1 60 0 k rfl
      unfold OD
      simp only [e60]
      exact o1
    · have e59 : w6 59 0 = w5 59 0 := funext fun k => u1 59 0 k rfl
      rw [e59] at z ⊢
      exact LE_sm u1 (fun _ => rfl) (o3 x a b z)
  cases y with
  | false =>
    refine k_gp rfl rfl (by first | trivial | decide | (simp only [true_and, mm_fits]; omega)) ?_
    refine k_brt rfl trivial ?_
    exact fin w4 z5 hP4 hM4 e42 e43 (fun z => by cases z)
  | true =>
    refine k_gp rfl rfl (by first | trivial | decide | (simp only [true_and, mm_fits]; omega)) ?_
    refine k_brf rfl (fun z => by cases z) ?_
    refine k_gp rfl rfl (by first | trivial | decide | (simp only [true_and, mm_fits]; omega)) ?_
    refine k_call0 rfl (ev_c_mtake hO hM4) rfl rfl rfl (by decide) ?_
    rintro a b' w5 ⟨rfl, rfl, s5, o⟩
    exact fin w5 (sm_tr z5 (sm_w s5 (by decide))) (PC_sm s5 rfl (fun _ => rfl) hP4) (MM_sm s5 rfl (fun _ => rfl) hM4) (fun p a b => (s5 42 0 p rfl).trans (e42 p a b)) ((s5 43 0 2 rfl).trans e43) (fun _ => o)
end MC
