/-! ===== the reference: what runs come to ===== -/
/-- a search by levels, so far: far of nodes, the queue, how many -/
def BI (R : Nat → Int → Prop) (far queue : Int → Int) (qd : Int) : Prop :=
  (∀ q, 0 ≤ q → q < 4096 → -1 ≤ far q) ∧ (∀ i, 0 ≤ i → i < qd → (0 ≤ queue i ∧ queue i < 4096) ∧ (0 ≤ far (queue i) ∧ far (queue i) ≤ i) ∧ R (far (queue i)).toNat (queue i)) ∧
  (∀ q, 0 ≤ q → q < 4096 → 0 ≤ far q → ∃ i, (0 ≤ i ∧ i < qd) ∧ queue i = q) ∧ (∀ i j, 0 ≤ i → i < j → j < qd → queue i ≠ queue j) ∧ (∀ i j, 0 ≤ i → i ≤ j → j < qd → far (queue i) ≤ far (queue j)) ∧ qd = ((cnt (fun q => decide (0 ≤ far q)) 4096 : Nat) : Int)
def upd1 (f : Int → Int) (i v : Int) : Int → Int := fun j => if j = i then v else f j
theorem upd1_s {f : Int → Int} {i v : Int} : upd1 f i v i = v := if_pos rfl
theorem upd1_n {f : Int → Int} {i v j : Int} (h : j ≠ i) : upd1 f i v j = f j := if_neg h
theorem BI_lt {R : Nat → Int → Prop} {far queue : Int → Int} {qd at_ : Int} (h : BI R far queue qd) (ha : 0 ≤ at_ ∧ at_ < 4096) (hf : far at_ < 0) : 0 ≤ qd ∧ qd < 4096 := by
  have h6 := h.2.2.2.2.2
  have := cnt_lt (p := fun q => decide (0 ≤ far q)) (n := 4096) ha.1 (by omega) (decide_eq_false (by omega))
  omega
theorem BI_add {R : Nat → Int → Prop} {far queue : Int → Int} {qd at_ d : Int} (h : BI R far queue qd) (ha : 0 ≤ at_ ∧ at_ < 4096) (hf : far at_ < 0) (hd : 0 ≤ d ∧ d ≤ qd) (hR : R d.toNat at_) (hm : ∀ i, 0 ≤ i → i < qd → far (queue i) ≤ d) : BI R (upd1 far at_ d) (upd1 queue qd at_) (qd + 1) := by
  have hlt := BI_lt h ha hf
  obtain ⟨h1, h2, h3, h4, h5, h6⟩ := h
  have hne : ∀ i, 0 ≤ i → i < qd → queue i ≠ at_ := fun i a b q => by
    have := (h2 i a b).2.1.1
    rw [q] at this
    omega
  have hqi : ∀ i, 0 ≤ i → i < qd → upd1 queue qd at_ i = queue i := fun i a b => upd1_n (by omega)
  have hfq : ∀ i, 0 ≤ i → i < qd → upd1 far at_ d (queue i) = far (queue i) := fun i a b => upd1_n (hne i a b)
  refine ⟨fun q a b => ?_, fun i a b => ?_, fun q a b c => ?_, fun i j a b c => ?_, fun i j a b c => ?_, ?_⟩
  · by_cases hq : q = at_
    · rw [hq, upd1_s]; omega
    · rw [upd1_n hq]; exact h1 q a b
  · by_cases hi : i = qd
    · rw [hi, upd1_s, upd1_s]
      exact ⟨ha, ⟨hd.1, hd.2⟩, hR⟩
    · rw [hqi i a (by omega), hfq i a (by omega)]
      exact h2 i a (by omega)
  · by_cases hq : q = at_
    · exact ⟨qd, ⟨by omega, by omega⟩, by rw [upd1_s, hq]⟩
    · rw [upd1_n hq] at c
      obtain ⟨i, i1, i2⟩ := h3 q a b c
      exact ⟨i, ⟨i1.1, by omega⟩, by rw [hqi i i1.1 i1.2]; exact i2⟩
  · by_cases hj : j = qd
    · rw [hj, upd1_s, hqi i a (by omega)]
      exact hne i a (by omega)
    · rw [hqi i a (by omega), hqi j (by omega) (by omega)]
      exact h4 i j a b (by omega)
  · by_cases hj : j = qd
    · rw [hj, upd1_s, upd1_s]
      by_cases hi : i = qd
      · rw [hi, upd1_s, upd1_s]; exact Int.le_refl _
      · rw [hqi i a (by omega), hfq i a (by omega)]
        exact hm i a (by omega)
    · rw [hqi i a (by omega), hqi j (by omega) (by omega), hfq i a (by omega), hfq j (by omega) (by omega)]
      exact h5 i j a b (by omega)
  · have := cnt_s (p := fun q => decide (0 ≤ far q)) (p' := fun q => decide (0 ≤ upd1 far at_ d q)) (n := 4096) ha.1 (by omega) (decide_eq_false (by omega)) (decide_eq_true (by rw [upd1_s]; exact hd.1)) (fun j hj => by show decide (0 ≤ upd1 far at_ d j) = _; rw [upd1_n hj])
    rw [this]
    omega
theorem cnt_0 {p : Int → Bool} {n : Nat} (h : ∀ i : Int, 0 ≤ i → i < n → p i = false) : cnt p n = 0 := by
  induction n with
  | zero => rfl
  | succ n ih =>
    show cnt p n + (if p n = true then 1 else 0) = 0
    rw [ih (fun i a b => h i a (by omega)), h n (by omega) (by omega)]
    rfl
/-- while node k is gone on from by its edges, those below x done -/
def SI (c e : Int → Int → Int) (f : Int → Int) (nv ne : Int) (far queue : Int → Int) (qd k x : Int) : Prop :=
  BI (Rch c e f nv ne) far queue qd ∧ (∀ q, 0 ≤ q → q < 512 → fsB f nv q = true → far q = 0) ∧ (∀ i, 0 ≤ i → i < k → ∀ z, 0 ≤ z → z < ne → 0 ≤ stp c e z (queue i) → 0 ≤ far (stp c e z (queue i)) ∧ far (stp c e z (queue i)) ≤ far (queue i) + 1) ∧
  (0 ≤ k ∧ (k < qd ∨ x = 0) ∧ k ≤ qd) ∧ (k < qd → ∀ j, 0 ≤ j → j < qd → far (queue j) ≤ far (queue k) + 1) ∧ (k < qd → ∀ z, 0 ≤ z → z < x → 0 ≤ stp c e z (queue k) → 0 ≤ far (stp c e z (queue k)) ∧ far (stp c e z (queue k)) ≤ far (queue k) + 1)
theorem SI_skip {c e : Int → Int → Int} {f : Int → Int} {nv ne : Int} {far queue : Int → Int} {qd k x : Int} (h : SI c e f nv ne far queue qd k x) (hk : k < qd) (hs : 0 ≤ stp c e x (queue k) → stp c e x (queue k) < 4096 ∧ 0 ≤ far (stp c e x (queue k))) : SI c e f nv ne far queue qd k (x + 1) := by
  obtain ⟨h1, h2, h3, h4, h5, h6⟩ := h
  refine ⟨h1, h2, h3, ⟨h4.1, Or.inl hk, h4.2.2⟩, h5, fun _ z a b q => ?_⟩
  by_cases hz : z = x
  · subst hz
    obtain ⟨q1, q2⟩ := hs q
    obtain ⟨i, i1, i2⟩ := h1.2.2.1 _ q q1 q2
    refine ⟨q2, ?_⟩
    rw [← i2]
    exact h5 hk i i1.1 i1.2
  · exact h6 hk z a (by omega) q
theorem SI_add {c e : Int → Int → Int} {f : Int → Int} {nv ne : Int} {far queue : Int → Int} {qd k x : Int} (h : SI c e f nv ne far queue qd k x) (hk : k < qd) (hx : 0 ≤ x ∧ x < ne) (hs : 0 ≤ stp c e x (queue k) ∧ stp c e x (queue k) < 4096) (hf : far (stp c e x (queue k)) < 0) : SI c e f nv ne (upd1 far (stp c e x (queue k)) (far (queue k) + 1)) (upd1 queue qd (stp c e x (queue k))) (qd + 1) k (x + 1) := by
  obtain ⟨h1, h2, h3, h4, h5, h6⟩ := h
  have hkk := h1.2.1 k h4.1 hk
  have hqi : ∀ i, i < qd → upd1 queue qd (stp c e x (queue k)) i = queue i := fun i b => upd1_n (by omega)
  have hfq : ∀ q, 0 ≤ far q → upd1 far (stp c e x (queue k)) (far (queue k) + 1) q = far q := fun q a => upd1_n (fun z => by rw [z] at a; omega)
  have hB := BI_add h1 hs hf (d := far (queue k) + 1) ⟨by omega, by omega⟩ (by
    rw [show (far (queue k) + 1).toNat = (far (queue k)).toNat + 1 by omega]
    exact ⟨queue k, x, hkk.2.2, hx, rfl, hs.1⟩) (h5 hk)
  refine ⟨hB, fun q a b d => ?_, fun i a b z z1 z2 z3 => ?_, ⟨h4.1, Or.inl (by omega), by omega⟩, fun _ j a b => ?_, fun _ z a b q => ?_⟩
  · rw [hfq q (by rw [h2 q a b d]; omega)]
    exact h2 q a b d
  · rw [hqi i (by omega)] at z3 ⊢
    obtain ⟨q1, q2⟩ := h3 i a b z z1 z2 z3
    rw [hfq _ q1, hfq _ (h1.2.1 i a (by omega)).2.1.1]
    exact ⟨q1, q2⟩
  · rw [hqi k hk, hfq _ hkk.2.1.1]
    by_cases hj : j = qd
    · rw [hj, upd1_s, upd1_s]
      exact Int.le_refl _
    · rw [hqi j (by omega), hfq _ (h1.2.1 j a (by omega)).2.1.1]
      exact h5 hk j a (by omega)
  · rw [hqi k hk] at q ⊢
    rw [hfq (queue k) hkk.2.1.1]
    by_cases hz : z = x
    · subst hz
      rw [upd1_s]
      exact ⟨by omega, Int.le_refl _⟩
    · obtain ⟨q1, q2⟩ := h6 hk z a (by omega) q
      rw [hfq _ q1]
      exact ⟨q1, q2⟩
theorem SI_next {c e : Int → Int → Int} {f : Int → Int} {nv ne : Int} {far queue : Int → Int} {qd k : Int} (h : SI c e f nv ne far queue qd k ne) (hk : k < qd) : SI c e f nv ne far queue qd (k + 1) 0 := by
  obtain ⟨h1, h2, h3, h4, h5, h6⟩ := h
  refine ⟨h1, h2, fun i a b z z1 z2 z3 => ?_, ⟨by omega, Or.inr rfl, by omega⟩, fun hk1 j a b => ?_, fun _ z a b => by omega⟩
  · by_cases hi : i = k
    · subst hi
      exact h6 hk z z1 z2 z3
    · exact h3 i a (by omega) z z1 z2 z3
  · have q1 := h5 hk j a b
    have q2 := h1.2.2.2.2.1 k (k + 1) h4.1 (by omega) hk1
    omega
theorem SI_end {c e : Int → Int → Int} {f : Int → Int} {nv ne : Int} {far queue : Int → Int} {qd k x : Int} (h : SI c e f nv ne far queue qd k x) (hk : ¬ k < qd) (hst : ∀ i, 0 ≤ i → i < qd → ∀ z, 0 ≤ z → z < ne → 0 ≤ stp c e z (queue i) → stp c e z (queue i) < 4096) : ∀ (k : Nat) (q : Int), Rch c e f nv ne k q → 0 ≤ far q ∧ far q ≤ k := by
  obtain ⟨h1, h2, h3, h4, h5, h6⟩ := h
  have hb := bfs_all (c := c) (e := e) (f := f) (nv := nv) (ne := ne) (qn := queue) (m := qd) (lev := fun i => (far (queue i)).toNat) (fun q hq => by
    obtain ⟨a, b, d⟩ := hq
    have h0 := h2 q a b d
    obtain ⟨i, i1, i2⟩ := h1.2.2.1 q a (by omega) (by omega)
    exact ⟨i, i1, i2, by show (far (queue i)).toNat = 0; rw [i2, h0]; rfl⟩) (fun i a b z z1 z2 z3 => by
    obtain ⟨q1, q2⟩ := h3 i a (by omega) z z1 z2 z3
    obtain ⟨j, j1, j2⟩ := h1.2.2.1 _ z3 (hst i a b z z1 z2 z3) q1
    exact ⟨j, j1, j2, by show (far (queue j)).toNat ≤ (far (queue i)).toNat + 1; rw [j2]; omega⟩)
  intro k q hq
  obtain ⟨j, j1, j2, j3⟩ := hb k q hq
  have j3 : (far (queue j)).toNat ≤ k := j3
  have := (h1.2.1 j j1.1 j1.2).2.1.1
  rw [j2] at this j3
  omega
def metW (w : mm_M) (at_ d : Int) : mm_M := if w 11 0 at_ < 0 then mm_up (mm_up (mm_up w 11 0 at_ d) 12 0 (w 1 0 23) at_) 1 0 23 (w 1 0 23 + 1) else w
abbrev sprL : List (Nat × Option Int) := [(11, none), (12, none), (1, some 23)]
section ME
variable {r : Bool × Bool} {y : Bool} {w : mm_M}
theorem ev_m_meets {at_ d : Int} (ha : 0 ≤ at_ ∧ at_ < 4096) (hq : w 11 0 at_ < 0 → 0 ≤ w 1 0 23 ∧ w 1 0 23 < 4096) : mm_Ev K_X10_meets (0, 0) [.inr (some (1, 0)), .inl at_, .inl d] (PH r y) w (mm_pe none (PH r y) (metW w at_ d)) := by
  refine ev_intro ok_X10_meets mo_X10_meets (Nat.le_of_ble_eq_true rfl) (fun hrg has => ?_)
  unfold metW
  refine k_gp rfl rfl (by simp only [true_and, mm_fits]; omega) ?_
  refine k_br rfl (fun g1 => ?_) (fun g1 => ?_)
  · rw [if_neg (by omega)]
    repeat' (first
      | refine k_brt rfl (by decide) ?_
      | refine k_brf rfl (by decide) ?_
      | refine k_brz rfl (fun _ => ?_) (fun _ => ?_)
      | refine k_brn rfl (fun _ => ?_) (fun _ => ?_)
      | refine k_br rfl (fun _ => ?_) (fun _ => ?_)
      | refine k_ret rfl ?_ ⟨?_, rfl, rfl⟩
      | refine k_ts rfl rfl ?_ (fun _ => ?_)
      | refine mm_tsc (fun _ => ?_) ?_
      | exact mm_tsn
      | refine k_gp rfl rfl ?_ ?_)
    all_goals (first | trivial | omega | (simp only [true_and, mm_fits]; omega) | (refine congrArg some (congrArg Sum.inl ?_); first | rfl | (rw [ib_t (by omega)]) | (rw [ib_f (by omega)]) | omega))
  · have hq := hq (by omega)
    rw [if_pos (by omega)]
    have e1 : ∀ k, mm_up w 11 0 at_ d 1 0 k = w 1 0 k := fun k => up_g rfl
    have e2 : ∀ k, mm_up (mm_up w 11 0 at_ d) 12 0 (w 1 0 23) at_ 1 0 k = w 1 0 k := fun k => (up_g rfl).trans (up_g rfl)
    refine k_gp rfl rfl (by simp only [true_and, mm_fits, e1, e2]; omega) ?_
    rw [e1, e2]
    exact k_ret rfl trivial ⟨rfl, rfl, rfl⟩
theorem metW_sm {at_ d : Int} : sm sprL w (metW w at_ d) := by
  unfold metW
  split
  · exact sm_up (sm_up (sm_up sm_rf (Or.inl (by decide))) (Or.inl (by decide))) (by decide)
  · exact sm_rf
theorem metW_y {at_ d : Int} (h : w 11 0 at_ < 0) : metW w at_ d 11 0 = upd1 (w 11 0) at_ d ∧ metW w at_ d 12 0 = upd1 (w 12 0) (w 1 0 23) at_ ∧ metW w at_ d 1 0 23 = w 1 0 23 + 1 := by
  unfold metW
  rw [if_pos h]
  refine ⟨funext fun k => ?_, funext fun k => ?_, up_s⟩
  · rw [up_g rfl, up_g rfl, up_at]; rfl
  · rw [up_g rfl, up_at, up_g rfl]; rfl
theorem metW_n {at_ d : Int} (h : ¬ w 11 0 at_ < 0) : metW w at_ d = w := if_neg h
theorem m_e0 (w : mm_M) (x : Int) : m_e w x 0 = w 5 0 (7 * x) := by
  show w 5 0 (7 * x + 0) = _
  rw [Int.add_zero]
theorem mP_sm {w' : mm_M} {L : List (Nat × Option Int)} (hs : sm L w w') (h1 : (frB L 1 2 && frB L 1 3 && frB L 1 4 && frB L 1 6 && frB L 1 8) = true) (h4 : ∀ k, frB L 4 k = true) (h5 : ∀ k, frB L 5 k = true) (h6 : ∀ k, frB L 6 k = true) (h : mP w) : mP w' ∧ m_c w' = m_c w ∧ m_e w' = m_e w := by
  simp only [Bool.and_eq_true] at h1
  obtain ⟨⟨⟨⟨a2, a3⟩, a4⟩, a6⟩, a8⟩ := h1
  have e1 : m_c w' = m_c w := by
    funext g k
    exact hs 4 0 _ (h4 _)
  have e2 : m_e w' = m_e w := by
    funext x k
    unfold m_e
    split
    · exact hs 6 0 _ (h6 _)
    · exact hs 5 0 _ (h5 _)
  refine ⟨?_, e1, e2⟩
  unfold mP
  rw [e1, e2, hs 1 0 2 a2, hs 1 0 3 a3, hs 1 0 4 a4, hs 1 0 6 a6, hs 1 0 8 a8]
  refine ⟨h.1, h.2.1, h.2.2.1, h.2.2.2.1, h.2.2.2.2.1, h.2.2.2.2.2.1, h.2.2.2.2.2.2.1, fun p a b => ?_⟩
  rw [hs 6 0 p (h6 p)]
  exact h.2.2.2.2.2.2.2 p a b
abbrev mR (w : mm_M) : Nat → Int → Prop := Rch (m_c w) (m_e w) (w 3 0) (w 1 0 4) (w 1 0 8)
/-- all that can be reached has been, by the fewest edges -/
def RF (R : Nat → Int → Prop) (far queue : Int → Int) (qd : Int) : Prop := BI R far queue qd ∧ ∀ (k : Nat) (q : Int), R k q → 0 ≤ far q ∧ far q ≤ k
theorem ev_m_spreads (h : mP w) : mm_Ev K_X10_spreads (0, 0) [.inr (some (1, 0))] (PH r y) w (fun a b' w' => a = none ∧ b' = PH r y ∧ sm sprL w w' ∧ RF (mR w) (w' 11 0) (w' 12 0) (w' 1 0 23)) := by
  refine ev_intro ok_X10_spreads mo_X10_spreads (Nat.le_of_ble_eq_true rfl) (fun hrg has => ?_)
  have hnp := h.1
  have hnv := h.2.2.1
  have hnc := h.2.2.2.1
  have hne := h.2.2.2.2.1
  have hE := h.2.2.2.2.2.2.1
  refine k_gp rfl rfl trivial ?_
  -- all are far from anywhere
  refine mm_loop (σ := mm_M) 4096 (fun i w1 => (0 ≤ i ∧ i ≤ 4096) ∧ w1 = arrw w 11 0 i (fun _ => -1)) (fun i w1 => mm_Wk K_X10_spreads (0, 0) 2 [some (.inr (some (1, 0))), some (.inl i), none, none, none] [] (PH r y) w1 (fun a b' w' => a = none ∧ b' = PH r y ∧ sm sprL w w' ∧ RF (mR w) (w' 11 0) (w' 12 0) (w' 1 0 23))) ?_ ?_ 0 w ⟨by omega, arrw_0.symm⟩
  · intro i w1 h1 h2 ih
    obtain ⟨h2, rfl⟩ := h2
    refine k_gp rfl rfl trivial ?_
    refine k_brf rfl (by omega) ?_
    refine k_gp rfl rfl (by simp only [true_and, mm_fits]; omega) ?_
    exact ih _ ⟨by omega, arrw_s (by omega) (by omega) rfl⟩
  intro i w1 h1 h2
  obtain ⟨h2, rfl⟩ := h2
  have hi : i = 4096 := by omega
  subst hi
  refine k_gp rfl rfl trivial ?_
  refine k_brt rfl (by omega) ?_
  refine k_gp rfl rfl trivial ?_
  -- first values
  refine mm_loop (σ := mm_M) 512 (fun i w1 => (0 ≤ i ∧ i ≤ 512) ∧ sm sprL w w1 ∧ BI (mR w) (w1 11 0) (w1 12 0) (w1 1 0 23) ∧ (∀ q, 0 ≤ q → q < i → fsB (w 3 0) (w 1 0 4) q = true → w1 11 0 q = 0) ∧ (∀ q, 0 ≤ q → q < 4096 → 0 ≤ w1 11 0 q → w1 11 0 q = 0 ∧ q < i)) (fun i w1 => mm_Wk K_X10_spreads (0, 0) 29 [some (.inr (some (1, 0))), some (.inl i), none, none, none] [] (PH r y) w1 (fun a b' w' => a = none ∧ b' = PH r y ∧ sm sprL w w' ∧ RF (mR w) (w' 11 0) (w' 12 0) (w' 1 0 23))) ?_ ?_ 0 _ ⟨by omega, sm_up (sm_arrw sm_rf (by decide)) (by decide), ?_, fun q a b => by omega, fun q a b c => ?_⟩
  · intro i w1 h1 h2 ih
    obtain ⟨h2, hs, hB, hf, hz⟩ := h2
    have hnv1 : w1 1 0 4 = w 1 0 4 := hs 1 0 4 rfl
    have h31 : w1 3 0 = w 3 0 := funext fun k => hs 3 0 k rfl
    have hfb : -1 ≤ w1 11 0 i := hB.1 i (by omega) (by omega)
    have hfi : w1 11 0 i < 0 := by
      rcases Int.lt_or_le (w1 11 0 i) 0 with q | q
      · exact q
      · have := (hz i (by omega) (by omega) q).2
        omega
    refine k_gp rfl rfl trivial ?_
    refine k_brf rfl (by omega) ?_
    refine k_gp rfl rfl trivial ?_
    refine k_callp rfl (ev_m_isFirst (by omega) (by rw [hnv1]; exact hnv)) rfl rfl rfl (by decide) ?_
    rw [hnv1, h31]
    refine k_brz rfl (fun g1 => ?_) (fun g1 => ?_)
    · refine k_gp rfl rfl (by simp only [true_and, mm_fits]; omega) ?_
      refine ih w1 ⟨by omega, hs, hB, fun q a b c => ?_, fun q a b c => ⟨(hz q a b c).1, by have := (hz q a b c).2; omega⟩⟩
      by_cases hq : q = i
      · subst hq; exact absurd c g1
      · exact hf q a (by omega) c
    · refine k_gp rfl rfl trivial ?_
      refine k_callp rfl (ev_m_meets (d := 0) (by omega) (fun _ => BI_lt hB (at_ := i) (by omega) hfi)) rfl rfl rfl (by decide) ?_
      refine k_gp rfl rfl (by simp only [true_and, mm_fits]; omega) ?_
      obtain ⟨y1, y2, y3⟩ := metW_y (d := 0) hfi
      have hlt := BI_lt hB (at_ := i) (by omega) hfi
      refine ih _ ⟨by omega, sm_tr hs metW_sm, ?_, fun q a b c => ?_, fun q a b c => ?_⟩
      · rw [y1, y2, y3]
        refine BI_add hB (by omega) hfi (by omega) ⟨by omega, by omega, g1⟩ (fun j a b => ?_)
        obtain ⟨j1, j2, -⟩ := hB.2.1 j a b
        have := (hz _ j1.1 j1.2 j2.1).1
        omega
      · rw [y1]
        by_cases hq : q = i
        · rw [hq, upd1_s]
        · rw [upd1_n hq]; exact hf q a (by omega) c
      · rw [y1] at c ⊢
        by_cases hq : q = i
        · rw [hq, upd1_s]; omega
        · rw [upd1_n hq] at c ⊢
          have := hz q a b c
          omega
  · intro i w1 h1 h2
    obtain ⟨h2, hs, hB, hf, hz⟩ := h2
    refine k_gp rfl rfl trivial ?_
    refine k_brt rfl (by omega) ?_
    refine k_gp rfl rfl trivial ?_
    have hSI : SI (m_c w) (m_e w) (w 3 0) (w 1 0 4) (w 1 0 8) (w1 11 0) (w1 12 0) (w1 1 0 23) 0 0 := by
      have hqd : 0 ≤ w1 1 0 23 := by have := hB.2.2.2.2.2; omega
      refine ⟨hB, fun q a b c => hf q a (by omega) c, fun i a b => by omega, ⟨by omega, Or.inr rfl, hqd⟩, fun _ j a b => ?_, fun _ z a b => by omega⟩
      obtain ⟨j1, j2, -⟩ := hB.2.1 j a b
      have := (hz _ j1.1 j1.2 j2.1).1
      obtain ⟨k1, k2, -⟩ := hB.2.1 0 (by omega) (by omega)
      omega
    clear hB hf hz
    refine mm_loopm (σ := Int × mm_M) (fun s => (4096 - s.1).toNat) (fun s => sm sprL w s.2 ∧ SI (m_c w) (m_e w) (w 3 0) (w 1 0 4) (w 1 0 8) (s.2 11 0) (s.2 12 0) (s.2 1 0 23) s.1 0) (fun s => ∀ l2 l3 l4, mm_Wk K_X10_spreads (0, 0) 58 [some (.inr (some (1, 0))), some (.inl s.1), l2, l3, l4] [] (PH r y) s.2 (fun a b' w' => a = none ∧ b' = PH r y ∧ sm sprL w w' ∧ RF (mR w) (w' 11 0) (w' 12 0) (w' 1 0 23))) ?_ (0, w1) ⟨hs, hSI⟩ none none none
    intro sk hsk ih l2 l3 l4
    obtain ⟨k, w1⟩ := sk
    obtain ⟨hs, hSI⟩ := hsk
    dsimp only
    have hs : sm sprL w w1 := hs
    have hSI : SI (m_c w) (m_e w) (w 3 0) (w 1 0 4) (w 1 0 8) (w1 11 0) (w1 12 0) (w1 1 0 23) k 0 := hSI
    have hqd : 0 ≤ w1 1 0 23 ∧ w1 1 0 23 ≤ 4096 := by
      have := hSI.1.2.2.2.2.2
      have := cnt_le (fun q => decide (0 ≤ w1 11 0 q)) 4096
      omega
    have hk0 := hSI.2.2.2.1
    refine k_gp rfl rfl trivial ?_
    refine k_br rfl (fun g1 => ?_) (fun g1 => ?_)
    · refine k_ret rfl trivial ⟨rfl, rfl, hs, hSI.1, SI_end hSI (by omega) (fun i a b z z1 z2 z3 => (stp_in (hSI.1.2.1 i a b).1.1 (by omega) (by omega) (hE z z1 z2) z3).1)⟩
    · have hkk := hSI.1.2.1 k hk0.1 (by omega)
      refine k_gp rfl rfl (by simp only [true_and, mm_fits]; omega) ?_
      generalize hat : w1 12 0 k = at_ at hkk ⊢
      refine mm_loop (σ := mm_M) (w 1 0 8) (fun x w2 => (0 ≤ x ∧ x ≤ w 1 0 8) ∧ sm sprL w w2 ∧ SI (m_c w) (m_e w) (w 3 0) (w 1 0 4) (w 1 0 8) (w2 11 0) (w2 12 0) (w2 1 0 23) k x ∧ w2 12 0 k = at_ ∧ k < w2 1 0 23) (fun x w2 => ∀ l4, mm_Wk K_X10_spreads (0, 0) 75 [some (.inr (some (1, 0))), some (.inl k), some (.inl at_), some (.inl x), l4] [] (PH r y) w2 (fun a b' w' => a = none ∧ b' = PH r y ∧ sm sprL w w' ∧ RF (mR w) (w' 11 0) (w' 12 0) (w' 1 0 23))) ?_ ?_ 0 w1 ⟨by omega, hs, hSI, hat, by omega⟩ l4
      · intro x w2 h1 h2 ihx l4
        obtain ⟨h2, hs2, hS2, ha2, hk2⟩ := h2
        obtain ⟨hP2, ec, ee⟩ := mP_sm hs2 rfl (fun _ => rfl) (fun _ => rfl) (fun _ => rfl) h
        have hnv2 : w2 1 0 4 = w 1 0 4 := hs2 1 0 4 rfl
        have hne2 : w2 1 0 8 = w 1 0 8 := hs2 1 0 8 rfl
        have hnc2 : w2 1 0 6 = w 1 0 6 := hs2 1 0 6 rfl
        have hnp2 : w2 1 0 2 = w 1 0 2 := hs2 1 0 2 rfl
        have hEx := hE x (by omega) (by omega)
        have hA := hEx.1
        have hBx := hEx.2.1
        have e0 : w2 5 0 (7 * x) = m_e w x 0 := by rw [← ee]; exact (m_e0 w2 x).symm
        have e1 : w2 5 0 (7 * x + 1) = m_e w x 1 := by rw [← ee]; rfl
        have hst : stp (m_c w) (m_e w) x at_ = if m_e w x 0 = at_ / 512 ∧ 0 ≤ go_ (m_c w) (m_e w) x (at_ % 512) then 512 * m_e w x 1 + go_ (m_c w) (m_e w) x (at_ % 512) else -1 := rfl
        have hstn : stp (m_c w) (m_e w) x at_ < 0 → ∀ l4, mm_Wk K_X10_spreads (0, 0) 151 [some (.inr (some (1, 0))), some (.inl k), some (.inl at_), some (.inl x), l4] [] (PH r y) w2 (fun a b' w' => a = none ∧ b' = PH r y ∧ sm sprL w w' ∧ RF (mR w) (w' 11 0) (w' 12 0) (w' 1 0 23)) := fun hn l4 => by
          refine k_gp rfl rfl (by simp only [true_and, mm_fits]; omega) ?_
          exact ihx w2 ⟨by omega, hs2, SI_skip hS2 hk2 (fun q => by rw [ha2] at q; omega), ha2, hk2⟩ _
        refine k_gp rfl rfl trivial ?_
        refine k_brf rfl (by omega) ?_
        refine k_gp rfl rfl (by simp only [true_and, mm_fits]; omega) ?_
        rw [e0]
        refine k_br rfl (fun g2 => ?_) (fun g2 => ?_)
        · refine k_gp rfl rfl trivial ?_
          refine k_gp rfl rfl trivial ?_
          refine k_brt rfl (by decide) ?_
          exact hstn (by rw [hst, if_neg (fun q => g2 q.1)]; decide) _
        · have g2 : m_e w x 0 = at_ / 512 := Classical.byContradiction g2
          refine k_gp rfl rfl (by simp only [true_and, mm_fits]; omega) ?_
          refine k_callp rfl (ev_m_goes (np := w 1 0 2) (nc := w 1 0 6) (nv := w 1 0 4) (by omega) (by omega) (by omega) (by omega) (by rw [ec]; exact h.2.2.2.2.2.1) (by rw [ee]; exact hEx)) rfl rfl rfl (by decide) ?_
          rw [ec, ee]
          have hgo := go_in (c := m_c w) (all := at_ % 512) (by omega) (by omega) hEx
          refine k_gp rfl rfl trivial ?_
          refine k_gp rfl rfl trivial ?_
          refine k_br rfl (fun g3 => ?_) (fun g3 => ?_)
          · exact hstn (by rw [hst, if_neg (fun q => by omega)]; decide) _
          · rw [if_pos ⟨g2, by omega⟩] at hst
            have hfar : -1 ≤ w2 11 0 at_ ∧ w2 11 0 at_ ≤ 4096 := by
              have h9 := (hS2.1.2.1 k hk0.1 hk2).2.1
              rw [ha2] at h9
              have := hS2.1.2.2.2.2.2
              have := cnt_le (fun q => decide (0 ≤ w2 11 0 q)) 4096
              omega
            refine k_gp rfl rfl (by simp only [true_and, mm_fits, e1]; omega) ?_
            rw [e1, ← hst]
            have hrange : 0 ≤ stp (m_c w) (m_e w) x at_ ∧ stp (m_c w) (m_e w) x at_ < 4096 := by omega
            refine k_callp rfl (ev_m_meets hrange (fun q => BI_lt hS2.1 hrange q)) rfl rfl rfl (by decide) ?_
            refine k_gp rfl rfl (by simp only [true_and, mm_fits]; omega) ?_
            by_cases hf : w2 11 0 (stp (m_c w) (m_e w) x at_) < 0
            · obtain ⟨y1, y2, y3⟩ := metW_y (d := w2 11 0 at_ + 1) hf
              have hadd := SI_add hS2 hk2 (by omega) (by rw [ha2]; exact hrange) (by rw [ha2]; exact hf)
              rw [ha2] at hadd
              refine ihx _ ⟨by omega, sm_tr hs2 metW_sm, ?_, ?_, ?_⟩ _
              · rw [y1, y2, y3]; exact hadd
              · rw [y2, upd1_n (by omega)]; exact ha2
              · rw [y3]; omega
            · rw [metW_n hf]
              exact ihx w2 ⟨by omega, hs2, SI_skip hS2 hk2 (fun q => by rw [ha2]; omega), ha2, hk2⟩ _
      · intro x w2 h1 h2 l4
        obtain ⟨h2, hs2, hS2, ha2, hk2⟩ := h2
        have hne2 : w2 1 0 8 = w 1 0 8 := hs2 1 0 8 rfl
        have hx : x = w 1 0 8 := by omega
        subst hx
        refine k_gp rfl rfl trivial ?_
        refine k_brt rfl (by omega) ?_
        refine k_gp rfl rfl (by simp only [true_and, mm_fits]; omega) ?_
        exact ih (k + 1, w2) ⟨hs2, SI_next hS2 hk2⟩ (by show (4096 - (k + 1)).toNat < (4096 - k).toNat; omega) _ _ _
  · have hfar : ∀ q, 0 ≤ q → q < 4096 → mm_up (arrw w 11 0 4096 (fun _ => -1)) 1 0 23 0 11 0 q = -1 := fun q a b => by
      rw [up_g rfl, arrw_in (by omega)]
    rw [show mm_up (arrw w 11 0 4096 (fun _ => -1)) 1 0 23 0 1 0 23 = 0 from up_s]
    refine ⟨fun q a b => by rw [hfar q a b]; omega, fun i a b => by omega, fun q a b c => by rw [hfar q a b] at c; omega, fun i j a b c => by omega, fun i j a b c => by omega, ?_⟩
    rw [cnt_0 (fun q a b => decide_eq_false (by rw [hfar q a (by omega)]; decide))]
    rfl
  · rw [up_g rfl, arrw_in (by omega)] at c
    omega
end ME
