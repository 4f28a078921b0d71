/-! ===== what is told is well told; the reference lays it ===== -/
def TW (T : TS) : Prop := TB T ∧ (T.1.1 ≠ 0 → 0 ≤ T.1.2.1 ∧ T.1.2.1 < T.1.1) ∧ (∀ g, 0 ≤ g → g < T.1.2.2.2.1 → cOK T.2.2.1 g T.1.2.2.1) ∧ (∀ x, 0 ≤ x → x < T.1.2.2.2.2 → eOK T.2.2.2 x T.1.1 T.1.2.2.2.1 T.1.2.2.1)
theorem cOK_mono {c : Int → Int → Int} {g nv nv' : Int} (h : cOK c g nv) (hn : nv ≤ nv') : cOK c g nv' := ⟨⟨h.1.1, by have := h.1.2; omega⟩, h.2.1, h.2.2.1, fun q => by have := h.2.2.2 q; omega⟩
theorem eOK_mono {e : Int → Int → Int} {x np nc nc' nv nv' : Int} (h : eOK e x np nc nv) (hc : nc ≤ nc') (hn : nv ≤ nv') : eOK e x np nc' nv' := by
  obtain ⟨h1, h2, h3, h4, h5, h6, h7, h8, h9⟩ := h
  exact ⟨h1, h2, by omega, h4, h5, fun q => ⟨(h6 q).1, by have := (h6 q).2; omega⟩, h7, h8, fun q => by have := h9 q; omega⟩
theorem TW_it {T : TS} {l : Int} {f : Int → Int} (h : TW T) (hd : 0 < due l) (hf : ∀ k, 0 ≤ k → k < due l → 0 ≤ f k) (hf9 : ∀ k, f k ≤ 9) (hi : itB T l f = true) : TW (itT T l f) := by
  have hB := TB_it h.1 hi
  refine ⟨hB, ?_⟩
  obtain ⟨hB0, hP, hC, hE⟩ := h
  have hnp := itB_np hi
  obtain ⟨rfl, hdl⟩ | ⟨rfl, hdl⟩ | ⟨rfl, hdl⟩ | ⟨rfl, hdl⟩ := due_cases hd
  · unfold itB at hi
    rw [if_pos rfl] at hi
    have q := of_decide_eq_true hi
    have e : itT T 112 f = ((f 0, f 1, T.1.2.2.1, T.1.2.2.2.1, T.1.2.2.2.2), T.2) := if_pos rfl
    rw [e]
    refine ⟨fun _ => ⟨hf 1 (by omega) (by omega), q.2.2.2⟩, hC, fun x a b => ?_⟩
    have := (hE x a b).1
    have b : x < T.1.2.2.2.2 := b
    omega
  · have hnp : T.1.1 ≠ 0 := hnp.resolve_left (by decide)
    unfold itB at hi
    rw [if_neg (by decide), if_neg hnp, if_pos rfl] at hi
    have e : itT T 118 f = ((T.1.1, T.1.2.1, T.1.2.2.1 + 1, T.1.2.2.2.1, T.1.2.2.2.2), (fun k => if k = 2 * T.1.2.2.1 then f 0 else if k = 2 * T.1.2.2.1 + 1 then f 1 else T.2.1 k), T.2.2) := rfl
    rw [e]
    exact ⟨hP, fun g a b => cOK_mono (hC g a b) (by show T.1.2.2.1 ≤ T.1.2.2.1 + 1; omega), fun x a b => eOK_mono (hE x a b) (Int.le_refl _) (by show T.1.2.2.1 ≤ T.1.2.2.1 + 1; omega)⟩
  · have hnp : T.1.1 ≠ 0 := hnp.resolve_left (by decide)
    unfold itB at hi
    rw [if_neg (by decide), if_neg hnp, if_neg (by decide), if_pos rfl] at hi
    have q := of_decide_eq_true hi
    have e : itT T 99 f = ((T.1.1, T.1.2.1, T.1.2.2.1, T.1.2.2.2.1 + 1, T.1.2.2.2.2), T.2.1, (fun g k => if g = T.1.2.2.2.1 then f k else T.2.2.1 g k), T.2.2.2) := rfl
    rw [e]
    refine ⟨hP, fun g a b => ?_, fun x a b => eOK_mono (hE x a b) (by show T.1.2.2.2.1 ≤ T.1.2.2.2.1 + 1; omega) (Int.le_refl _)⟩
    have b : g < T.1.2.2.2.1 + 1 := b
    show cOK (fun g k => if g = T.1.2.2.2.1 then f k else T.2.2.1 g k) g T.1.2.2.1
    by_cases hg : g = T.1.2.2.2.1
    · have e2 : ∀ k, (fun g k => if g = T.1.2.2.2.1 then f k else T.2.2.1 g k) g k = f k := fun k => if_pos hg
      unfold cOK
      rw [e2 0, e2 1, e2 2]
      exact ⟨⟨hf 1 (by omega) (by omega), q.2.2.1⟩, ⟨hf 0 (by omega) (by omega), q.2.1⟩, ⟨hf 2 (by omega) (by omega), hf9 2⟩, fun z => q.2.2.2 (by omega)⟩
    · have e2 : ∀ k, (fun g k => if g = T.1.2.2.2.1 then f k else T.2.2.1 g k) g k = T.2.2.1 g k := fun k => if_neg hg
      unfold cOK
      rw [e2 0, e2 1, e2 2]
      exact hC g a (by omega)
  · have hnp : T.1.1 ≠ 0 := hnp.resolve_left (by decide)
    unfold itB at hi
    rw [if_neg (by decide), if_neg hnp, if_neg (by decide), if_neg (by decide)] at hi
    have q := of_decide_eq_true hi
    have e : itT T 101 f = ((T.1.1, T.1.2.1, T.1.2.2.1, T.1.2.2.2.1, T.1.2.2.2.2 + 1), T.2.1, T.2.2.1, (fun x k => if x = T.1.2.2.2.2 then f k else T.2.2.2 x k)) := rfl
    rw [e]
    refine ⟨hP, hC, fun x a b => ?_⟩
    have b : x < T.1.2.2.2.2 + 1 := b
    show eOK (fun x k => if x = T.1.2.2.2.2 then f k else T.2.2.2 x k) x T.1.1 T.1.2.2.2.1 T.1.2.2.1
    by_cases hg : x = T.1.2.2.2.2
    · have e2 : ∀ k, (fun x k => if x = T.1.2.2.2.2 then f k else T.2.2.2 x k) x k = f k := fun k => if_pos hg
      unfold eOK
      rw [e2 0, e2 1, e2 2, e2 3, e2 4, e2 5, e2 6]
      obtain ⟨q0, q1, q2, q3, q4, q5, q6, q7, q8⟩ := q
      have p0 := hf 0 (by omega) (by omega)
      have p1 := hf 1 (by omega) (by omega)
      have p2 := hf 2 (by omega) (by omega)
      have p3 := hf 3 (by omega) (by omega)
      have p4 := hf 4 (by omega) (by omega)
      have p5 := hf 5 (by omega) (by omega)
      have p6 := hf 6 (by omega) (by omega)
      exact ⟨⟨p0, q1⟩, ⟨p1, q2⟩, by omega, ⟨p3, by omega⟩, ⟨p4, by omega⟩, fun z => ⟨p5, by omega⟩, fun z => ⟨p6, by omega⟩, ⟨p6, hf9 6⟩, fun z => by omega⟩
    · have e2 : ∀ k, (fun x k => if x = T.1.2.2.2.2 then f k else T.2.2.2 x k) x k = T.2.2.2 x k := fun k => if_neg hg
      unfold eOK
      rw [e2 0, e2 1, e2 2, e2 3, e2 4, e2 5, e2 6]
      exact hE x a (by omega)
theorem okB_it {T : TS} {t : Int → Int} {n p : Int} (h : okB T t n p = true) : 0 < due (t p) ∧ (∀ k, 0 ≤ k → k < due (t p) → 0 ≤ fig t n (p + 1 + k)) ∧ itB T (t p) (fun k => fig t n (p + 1 + k)) = true := by
  unfold okB at h
  rw [Bool.and_eq_true, Bool.and_eq_true, Bool.and_eq_true, List.all_eq_true] at h
  obtain ⟨h1, h2, h3, h4⟩ := h
  refine ⟨of_decide_eq_true h1, fun k a b => ?_, h4⟩
  have := of_decide_eq_true (h2 k.toNat (List.mem_range.mpr (by omega)))
  rw [show ((k.toNat : Nat) : Int) = k by omega] at this
  exact this
theorem TW_prs (t : Int → Int) (n : Int) : ∀ (k : Nat) (p : Int) (T : TS), TW T → TW (prs t n k p T).2 := by
  intro k
  induction k with
  | zero => intro p T h; exact h
  | succ k ih =>
    intro p T h
    unfold prs
    split
    · exact h
    · split
      · rename_i hok
        obtain ⟨h1, h2, h3⟩ := okB_it hok
        exact ih _ _ (TW_it h h1 h2 (fun k => (fig_in t n _).2) h3)
      · exact h
theorem TW_0 : TW T0 := ⟨⟨Or.inl rfl, by decide, by decide, by decide⟩, fun q => absurd rfl q, fun g a b => by have b : g < 0 := b; omega, fun g a b => by have b : g < 0 := b; omega⟩
/-- what is told by a text: its first fault, and the program -/
def told (t : Int → Int) (n : Int) : Int × TS := prs t n 201 0 T0
theorem told_TW (t : Int → Int) (n : Int) : TW (told t n).2 := TW_prs t n 201 0 T0 TW_0
/-- the reference's program is this one, as laid -/
def LD (w : mm_M) (T : TS) : Prop := w 1 0 2 = T.1.1 ∧ w 1 0 3 = T.1.2.1 ∧ w 1 0 4 = T.1.2.2.1 ∧ w 1 0 6 = T.1.2.2.2.1 ∧ w 1 0 8 = T.1.2.2.2.2 ∧
  (∀ k, 0 ≤ k → k < 2 * T.1.2.2.1 → w 3 0 k = T.2.1 k) ∧ (∀ g k, 0 ≤ g → g < T.1.2.2.2.1 → 0 ≤ k → k < 3 → w 4 0 (3 * g + k) = T.2.2.1 g k) ∧ (∀ x k, 0 ≤ x → x < T.1.2.2.2.2 → 0 ≤ k → k < 7 → w 5 0 (7 * x + k) = T.2.2.2 x k) ∧
  (∀ p, 0 ≤ p → p < 8 → w 6 0 p = 0) ∧ (∀ x, 0 ≤ x → x < T.1.2.2.2.2 → w 6 0 (8 + x) = T.2.2.2 x 3) ∧ w 1 0 12 = 0
abbrev layL : List (Nat × Option Int) := rdL ++ [(1, some 2), (1, some 3), (1, some 4), (1, some 6), (1, some 8), (1, some 12), (3, none), (4, none), (5, none), (6, none)]
section ME
variable {r : Bool × Bool} {y : Bool} {w : mm_M} {t : Int → Int} {n : Int}
theorem ev_m_lay (hX : TX w t n) : mm_Ev K_X10_lay (0, 0) [.inr (some (1, 0))] (PH r y) w (fun a b' w' => b' = PH r y ∧ sm layL w w' ∧ ((told t n).1 = -4 ∧ (told t n).2.1.1 ≠ 0 → a = some (.inl (told t n).2.1.1) ∧ LD w' (told t n).2) ∧ (¬ ((told t n).1 = -4 ∧ (told t n).2.1.1 ≠ 0) → a = some (.inl (-2)) ∧ sm rdL w w')) := by
  refine ev_intro ok_X10_lay mo_X10_lay (Nat.le_of_ble_eq_true rfl) (fun hrg has => ?_)
  refine k_gp rfl rfl trivial ?_
  refine k_call0 rfl (ev_m_reads hX) rfl rfl rfl (by decide) ?_
  rintro a b' w1 ⟨rfl, rfl, hs, hT⟩
  have hs' : sm layL w w1 := sm_w hs (by decide)
  have e : prs t n 201 0 T0 = told t n := rfl
  rw [e] at hT ⊢
  have fF : ¬ ((told t n).1 = -4 ∧ (told t n).2.1.1 ≠ 0) → ∀ l, mm_Wk K_X10_lay (0, 0) 16 l [] (PH r y) w1 (fun a b' w' => b' = PH r y ∧ sm layL w w' ∧ ((told t n).1 = -4 ∧ (told t n).2.1.1 ≠ 0 → a = some (.inl (told t n).2.1.1) ∧ LD w' (told t n).2) ∧ (¬ ((told t n).1 = -4 ∧ (told t n).2.1.1 ≠ 0) → a = some (.inl (-2)) ∧ sm rdL w w')) := fun hc l => by
    refine k_gp rfl rfl trivial ?_
    exact k_ret rfl trivial ⟨rfl, hs', fun q => absurd q hc, fun _ => ⟨rfl, hs⟩⟩
  refine k_gp rfl rfl trivial ?_
  refine k_br rfl (fun g1 => fF (fun q => g1 q.1) _) (fun g1 => ?_)
  have g1 : (told t n).1 = -4 := Classical.byContradiction g1
  obtain ⟨hR, hB⟩ := hT g1
  refine k_gp rfl rfl trivial ?_
  refine k_br rfl (fun g2 => ?_) (fun g2 => fF (fun q => q.2 (by have := hR.1; omega)) _)
  have hnp : (told t n).2.1.1 ≠ 0 := by have := hR.1; omega
  have hW := told_TW t n
  obtain ⟨r1, r2, r3, r4, r5, r6, r7, r8⟩ := hR
  have r2 := r2 hnp
  refine k_gp rfl rfl trivial ?_
  generalize hw2 : mm_up (mm_up (mm_up (mm_up (mm_up w1 1 0 2 (w1 1 0 13)) 1 0 3 (mm_up w1 1 0 2 (w1 1 0 13) 1 0 14)) 1 0 4 _) 1 0 6 _) 1 0 8 _ = w2
  have f2 : w2 1 0 2 = (told t n).2.1.1 := by rw [← hw2, up_k (by decide), up_k (by decide), up_k (by decide), up_k (by decide), up_s, r1]
  have f3 : w2 1 0 3 = (told t n).2.1.2.1 := by rw [← hw2, up_k (by decide), up_k (by decide), up_k (by decide), up_s, up_k (by decide), r2]
  have f4 : w2 1 0 4 = (told t n).2.1.2.2.1 := by rw [← hw2, up_k (by decide), up_k (by decide), up_s, up_k (by decide), up_k (by decide), r3]
  have f6 : w2 1 0 6 = (told t n).2.1.2.2.2.1 := by rw [← hw2, up_k (by decide), up_s, up_k (by decide), up_k (by decide), up_k (by decide), r4]
  have f8 : w2 1 0 8 = (told t n).2.1.2.2.2.2 := by rw [← hw2, up_s, up_k (by decide), up_k (by decide), up_k (by decide), up_k (by decide), r5]
  have s2 : sm [(1, some 2), (1, some 3), (1, some 4), (1, some 6), (1, some 8)] w1 w2 := by
    rw [← hw2]
    exact sm_up (sm_up (sm_up (sm_up (sm_up sm_rf (by decide)) (by decide)) (by decide)) (by decide)) (by decide)
  refine mm_loop (σ := mm_M) 98 (fun i w3 => (0 ≤ i ∧ i ≤ 98) ∧ sm [(3, none), (4, none), (5, none)] w2 w3 ∧ (∀ k, 0 ≤ k → k < i → w3 5 0 k = w2 10 0 k ∧ (k < 24 → w3 4 0 k = w2 9 0 k) ∧ (k < 6 → w3 3 0 k = w2 8 0 k))) (fun i w3 => mm_Wk K_X10_lay (0, 0) 61 [some (.inr (some (1, 0))), some (.inl i)] [] (PH r y) w3 (fun a b' w' => b' = PH r y ∧ sm layL w w' ∧ ((told t n).1 = -4 ∧ (told t n).2.1.1 ≠ 0 → a = some (.inl (told t n).2.1.1) ∧ LD w' (told t n).2) ∧ (¬ ((told t n).1 = -4 ∧ (told t n).2.1.1 ≠ 0) → a = some (.inl (-2)) ∧ sm rdL w w'))) ?_ ?_ 0 w2 ⟨by omega, sm_rf, fun k a b => by omega⟩
  · intro i w3 h1 h2 ih
    obtain ⟨h2, h3, h4⟩ := h2
    have J115 : ∀ w5, (w5 = w3 ∨ True) → sm [(3, none), (4, none), (5, none)] w2 w5 → (w5 5 0 i = w2 10 0 i ∧ (i < 24 → w5 4 0 i = w2 9 0 i) ∧ (i < 6 → w5 3 0 i = w2 8 0 i)) → (∀ k, k ≠ i → w5 5 0 k = w3 5 0 k ∧ w5 4 0 k = w3 4 0 k ∧ w5 3 0 k = w3 3 0 k) → mm_Wk K_X10_lay (0, 0) 115 [some (.inr (some (1, 0))), some (.inl i)] [] (PH r y) w5 (fun a b' w' => b' = PH r y ∧ sm layL w w' ∧ ((told t n).1 = -4 ∧ (told t n).2.1.1 ≠ 0 → a = some (.inl (told t n).2.1.1) ∧ LD w' (told t n).2) ∧ (¬ ((told t n).1 = -4 ∧ (told t n).2.1.1 ≠ 0) → a = some (.inl (-2)) ∧ sm rdL w w')) := fun w5 _ s5 v5 o5 => by
      refine k_gp rfl rfl (by simp only [true_and, mm_fits]; omega) ?_
      refine ih w5 ⟨by omega, s5, fun k a b => ?_⟩
      by_cases hk : k = i
      · subst hk; exact v5
      · obtain ⟨o1, o2, o3⟩ := o5 k hk
        rw [o1, o2, o3]
        exact h4 k a (by omega)
    have g10 : ∀ k, w3 10 0 k = w2 10 0 k := fun k => h3 10 0 k rfl
    have g9 : ∀ k, w3 9 0 k = w2 9 0 k := fun k => h3 9 0 k rfl
    have g8 : ∀ k, w3 8 0 k = w2 8 0 k := fun k => h3 8 0 k rfl
    refine k_gp rfl rfl trivial ?_
    refine k_brf rfl (by omega) ?_
    refine k_gp rfl rfl (by simp only [true_and, mm_fits]; omega) ?_
    refine k_br rfl (fun q1 => ?_) (fun q1 => ?_)
    · refine k_gp rfl rfl trivial ?_
      refine k_brt rfl (by omega) ?_
      refine J115 _ (Or.inr trivial) (sm_up h3 (Or.inl (by decide))) ⟨up_s.trans (g10 i), fun z => by omega, fun z => by omega⟩ (fun k hk => ⟨up_k hk, up_g rfl, up_g rfl⟩)
    · refine k_gp rfl rfl (by simp only [true_and, mm_fits]; omega) ?_
      refine k_gp rfl rfl trivial ?_
      refine k_br rfl (fun q2 => ?_) (fun q2 => ?_)
      · exact J115 _ (Or.inr trivial) (sm_up (sm_up h3 (Or.inl (by decide))) (Or.inl (by decide))) ⟨(up_g rfl).trans (up_s.trans (g10 i)), fun z => up_s.trans ((up_g rfl).trans (g9 i)), fun z => by omega⟩ (fun k hk => ⟨(up_g rfl).trans (up_k hk), (up_k hk).trans (up_g rfl), (up_g rfl).trans (up_g rfl)⟩)
      · refine k_gp rfl rfl (by simp only [true_and, mm_fits]; omega) ?_
        exact J115 _ (Or.inr trivial) (sm_up (sm_up (sm_up h3 (Or.inl (by decide))) (Or.inl (by decide))) (Or.inl (by decide))) ⟨(up_g rfl).trans ((up_g rfl).trans (up_s.trans (g10 i))), fun z => (up_g rfl).trans (up_s.trans ((up_g rfl).trans (g9 i))), fun z => up_s.trans ((up_g rfl).trans ((up_g rfl).trans (g8 i)))⟩ (fun k hk => ⟨(up_g rfl).trans ((up_g rfl).trans (up_k hk)), (up_g rfl).trans ((up_k hk).trans (up_g rfl)), (up_k hk).trans ((up_g rfl).trans (up_g rfl))⟩)
  · intro i w3 h1 h2
    obtain ⟨h2, h3, h4⟩ := h2
    have hi : i = 98 := by omega
    subst hi
    refine k_gp rfl rfl trivial ?_
    refine k_brt rfl (by omega) ?_
    refine k_gp rfl rfl trivial ?_
    refine k_callp rfl ev_m_begins rfl rfl rfl (by decide) ?_
    have sB : sm [(6, none), (1, some 12)] w3 (begW w3) := sm_up (sm_arrw (sm_arrw sm_rf (by decide)) (by decide)) (by decide)
    have e1 : ∀ k, k ≠ 12 → begW w3 1 0 k = w2 1 0 k := fun k hk => by
      unfold begW
      rw [up_k hk, arrw_g rfl, arrw_g rfl, h3 1 0 k rfl]
    refine k_gp rfl rfl trivial ?_
    rw [e1 2 (by decide), f2]
    have hall : sm layL w (begW w3) := sm_tr hs' (sm_tr (sm_w s2 (by decide)) (sm_tr (sm_w h3 (by decide)) (sm_w sB (by decide))))
    refine k_ret rfl trivial ⟨rfl, hall, fun _ => ⟨rfl, ?_⟩, fun q => absurd ⟨g1, hnp⟩ q⟩
    have hBB := hW.1
    refine ⟨(e1 2 (by decide)).trans f2, (e1 3 (by decide)).trans f3, (e1 4 (by decide)).trans f4, (e1 6 (by decide)).trans f6, (e1 8 (by decide)).trans f8, fun k a b => ?_, fun g k a b c d => ?_, fun x k a b c d => ?_, fun p a b => ?_, fun x a b => ?_, up_s⟩
    · have := hBB.2.1
      rw [sB 3 0 k rfl, (h4 k a (by omega)).2.2 (by omega), s2 8 0 k rfl]
      exact r6 k a b
    · have := hBB.2.2.1
      rw [sB 4 0 _ rfl, (h4 (3 * g + k) (by omega) (by omega)).2.1 (by omega), s2 9 0 _ rfl]
      exact r7 g k a b c d
    · have := hBB.2.2.2
      rw [sB 5 0 _ rfl, (h4 (7 * x + k) (by omega) (by omega)).1, s2 10 0 _ rfl]
      exact r8 x k a b c d
    · unfold begW
      rw [up_g rfl, arrw_out (by omega), arrw_in (by omega)]
    · have := hBB.2.2.2
      unfold begW
      rw [up_g rfl, arrw_in (by omega), show 7 * (8 + x - 8) + 3 = 7 * x + 3 by omega, (h4 (7 * x + 3) (by omega) (by omega)).1, s2 10 0 _ rfl]
      exact r8 x 3 a b (by omega) (by omega)
end ME
