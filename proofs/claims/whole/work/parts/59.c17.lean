/-! ===== the class: values by the sets that they have ===== -/
def cL (s : Int → Int) (a : Int) (n : Nat) : Nat := cnt (fun j => decide (s j < a)) n
def cE (s : Int → Int) (a : Int) (n : Nat) : Nat := cnt (fun j => decide (s j = a)) n
theorem cE_s (s : Int → Int) (a : Int) (n : Nat) : cE s a (n + 1) = cE s a n + (if s n = a then 1 else 0) := by
  show cnt _ n + (if decide (s n = a) = true then 1 else 0) = _
  by_cases h : s n = a
  · rw [if_pos h, if_pos (decide_eq_true h)]; rfl
  · rw [if_neg h, if_neg (fun z => h (of_decide_eq_true z))]; rfl
theorem cL_n (s : Int → Int) (a : Int) (n : Nat) : cL s a (n + 1) = cL s a n + (if s n < a then 1 else 0) := by
  show cnt _ n + (if decide (s n < a) = true then 1 else 0) = _
  by_cases h : s n < a
  · rw [if_pos h, if_pos (decide_eq_true h)]; rfl
  · rw [if_neg h, if_neg (fun z => h (of_decide_eq_true z))]; rfl
theorem cL_s (s : Int → Int) (a : Int) (n : Nat) : cL s (a + 1) n = cL s a n + cE s a n := by
  induction n with
  | zero => rfl
  | succ n ih =>
    rw [cL_n, cL_n, cE_s, ih]
    by_cases h1 : s n < a
    · rw [if_pos h1, if_pos (by omega), if_neg (by omega)]; omega
    · by_cases h2 : s n = a
      · rw [if_neg h1, if_pos (by omega), if_pos h2]; omega
      · rw [if_neg h1, if_neg (by omega), if_neg h2]; omega
theorem cL_le (s : Int → Int) (a : Int) (n : Nat) : cL s a n ≤ n := cnt_le _ _
theorem cE_le (s : Int → Int) (a : Int) (n : Nat) : cE s a n ≤ n := cnt_le _ _
theorem cL_mono {s : Int → Int} {a b : Int} {n : Nat} (h : a ≤ b) : cL s a n ≤ cL s b n := by
  induction n with
  | zero => exact Nat.le_refl _
  | succ n ih =>
    rw [cL_n, cL_n]
    by_cases h1 : s n < a
    · rw [if_pos h1, if_pos (by omega)]; omega
    · rw [if_neg h1]; omega
theorem cL_0 {s : Int → Int} {a : Int} {n : Nat} (h : ∀ j, a ≤ s j) : cL s a n = 0 := cnt_0 (fun i _ _ => decide_eq_false (by have := h i; omega))
theorem cE_0 {s : Int → Int} {a : Int} {n : Nat} (h : ∀ j, s j ≠ a) : cE s a n = 0 := cnt_0 (fun i _ _ => decide_eq_false (h i))
theorem cL_all {s : Int → Int} {a : Int} {n : Nat} (h : ∀ j, s j < a) : cL s a n = n := by
  induction n with
  | zero => rfl
  | succ n ih => rw [cL_n, ih, if_pos (h n)]
theorem cnt_ix {p : Int → Bool} : ∀ (n m : Nat), m < cnt p n → ∃ j : Int, (0 ≤ j ∧ j < n) ∧ p j = true ∧ cnt p j.toNat = m := by
  intro n
  induction n with
  | zero => intro m h; exact absurd h (Nat.not_lt_zero _)
  | succ n ih =>
    intro m h
    have e : cnt p (n + 1) = cnt p n + (if p n = true then 1 else 0) := rfl
    by_cases h1 : m < cnt p n
    · obtain ⟨j, a, b, d⟩ := ih m h1
      exact ⟨j, by omega, b, d⟩
    · by_cases h2 : p n = true
      · rw [if_pos h2] at e
        exact ⟨n, by omega, h2, by rw [show ((n : Int).toNat) = n from rfl]; omega⟩
      · rw [if_neg h2] at e
        omega
theorem cL_blk {s : Int → Int} {n k : Nat} (hk : k < n) (h0 : ∀ j, 0 ≤ s j) : ∀ m : Nat, k < cL s m n → ∃ a, (0 ≤ a ∧ a < (m : Int)) ∧ cL s a n ≤ k ∧ k < cL s (a + 1) n := by
  intro m
  induction m with
  | zero =>
    intro h
    rw [show ((0 : Nat) : Int) = 0 from rfl, cL_0 h0] at h
    omega
  | succ m ih =>
    intro h
    by_cases h1 : k < cL s m n
    · obtain ⟨a, p, q⟩ := ih h1
      exact ⟨a, by omega, q⟩
    · exact ⟨m, by omega, by omega, h⟩
def ps (s : Int → Int) (n : Nat) (j : Int) : Int := ((cL s (s j) n + cE s (s j) j.toNat : Nat) : Int)
theorem ps_lt {s : Int → Int} {n : Nat} {j : Int} (h : 0 ≤ j ∧ j < n) : 0 ≤ ps s n j ∧ ps s n j < ((cL s (s j + 1) n : Nat) : Int) := by
  have h1 : cE s (s j) j.toNat + 1 ≤ cE s (s j) (n : Int).toNat := cnt_at (p := fun i => decide (s i = s j)) h.1 h.2 (decide_eq_true rfl)
  rw [show ((n : Int).toNat) = n from rfl] at h1
  have h2 := cL_s s (s j) n
  unfold ps
  omega
theorem ps_ne {s : Int → Int} {n : Nat} {i j : Int} (hi : 0 ≤ i ∧ i < n) (hj : 0 ≤ j ∧ j < n) (h : i < j) : ps s n i ≠ ps s n j := by
  have li := ps_lt (s := s) hi
  have lj := ps_lt (s := s) hj
  rcases Int.lt_trichotomy (s i) (s j) with q | q | q
  · have : cL s (s i + 1) n ≤ cL s (s j) n := cL_mono (by omega)
    unfold ps at lj li ⊢
    omega
  · have h1 : cE s (s i) i.toNat + 1 ≤ cE s (s i) j.toNat := cnt_at (p := fun k => decide (s k = s i)) hi.1 h (decide_eq_true rfl)
    unfold ps
    rw [← q]
    omega
  · have : cL s (s j + 1) n ≤ cL s (s i) n := cL_mono (by omega)
    unfold ps at lj li ⊢
    omega
theorem ps_on {s : Int → Int} {n : Nat} {k : Int} (hk : 0 ≤ k ∧ k < n) (h0 : ∀ j, 0 ≤ s j ∧ s j < 256) : ∃ j, (0 ≤ j ∧ j < (n : Int)) ∧ ps s n j = k := by
  obtain ⟨a, ha, h1, h2⟩ := cL_blk (s := s) (n := n) (k := k.toNat) (by omega) (fun j => (h0 j).1) 256 (by show k.toNat < cL s 256 n; rw [cL_all (fun j => (h0 j).2)]; omega)
  rw [cL_s] at h2
  obtain ⟨j, p, q, t⟩ := cnt_ix (p := fun i => decide (s i = a)) n (k.toNat - cL s a n) (by show _ < cE s a n; omega)
  have q := of_decide_eq_true q
  refine ⟨j, p, ?_⟩
  have t2 : cE s a j.toNat = k.toNat - cL s a n := t
  unfold ps
  rw [q]
  omega
/-- all values that there are lie in order -/
def OD (w : mm_M) (nv : Int) : Prop := (∀ i, 0 ≤ i → i < sz_ nv → (0 ≤ w 60 0 i ∧ w 60 0 i < 512) ∧ thB nv (w 60 0 i) = true) ∧ ∀ all, 0 ≤ all → all < 512 → thB nv all = true → ∃ i, (0 ≤ i ∧ i < sz_ nv) ∧ w 60 0 i = all
abbrev odL : List (Nat × Option Int) := [(60, none), (61, none)]
section MC
variable {r : Bool × Bool} {y : Bool} {w : mm_M} {np trap nv nc ne : Int} {c e : Int → Int → Int} {f : Int → Int}
theorem gp_at (hnv : 0 ≤ nv ∧ nv ≤ 3) {i : Int} (h : 0 ≤ i ∧ i < sz_ nv) : (0 ≤ i * gp_ nv ∧ i * gp_ nv < 512) ∧ thB nv (i * gp_ nv) = true := by
  have hg := gp_cs hnv
  have hin : 0 ≤ i * gp_ nv ∧ i * gp_ nv < 512 ∧ (i * gp_ nv) % gp_ nv = 0 := by
    rcases hg with ⟨g1, g2⟩ | ⟨g1, g2⟩ | ⟨g1, g2⟩ | ⟨g1, g2⟩ <;> rw [g1] <;> omega
  exact ⟨⟨hin.1, hin.2.1⟩, (thB_gp hnv ⟨hin.1, hin.2.1⟩).mpr hin.2.2⟩
theorem gp_of (hnv : 0 ≤ nv ∧ nv ≤ 3) {all : Int} (h : 0 ≤ all ∧ all < 512) (ht : thB nv all = true) : ∃ i, (0 ≤ i ∧ i < sz_ nv) ∧ i * gp_ nv = all := by
  have h1 := (thB_gp hnv h).mp ht
  have hg := gp_cs hnv
  refine ⟨all / gp_ nv, ?_⟩
  rcases hg with ⟨g1, g2⟩ | ⟨g1, g2⟩ | ⟨g1, g2⟩ | ⟨g1, g2⟩ <;> rw [g1] at h1 ⊢ <;> omega
set_option maxRecDepth 100000 in
theorem ev_c_orderValues (hnv : 0 ≤ nv ∧ nv ≤ 3) (hnc : nc ≤ 8) (hM : MM w nv nc c f) : mm_Ev K_X1_orderValues (0, 0) [.inr (some (55, 0))] (PH r y) w (fun a b' w' => a = none ∧ b' = PH r y ∧ sm odL w w' ∧ OD w' nv) := by
  refine ev_intro ok_X1_orderValues mo_X1_orderValues (Nat.le_of_ble_eq_true rfl) (fun hrg has => ?_)
  have hg := gp_cs hnv
  have hn : 0 ≤ sz_ nv ∧ sz_ nv ≤ 512 := by omega
  obtain ⟨⟨m4, m5⟩, -, -, m40⟩ := hM
  generalize hs : (fun j : Int => SO c nc (j * gp_ nv)) = s
  have s_in : ∀ j, 0 ≤ s j ∧ s j < 256 := fun j => by rw [← hs]; exact SO_in c _ hnc
  have hsos : ∀ i, 0 ≤ i → i < sz_ nv → (0 ≤ i * gp_ nv ∧ i * gp_ nv < 512) ∧ w 40 0 (i * gp_ nv) = s i := fun i a b => by
    have h := gp_at hnv ⟨a, b⟩
    refine ⟨h.1, ?_⟩
    rw [m40 _ h.1.1 h.1.2 h.2, ← hs]
  have hval : ∀ w1 : mm_M, sm odL w w1 → ∀ i, 0 ≤ i → i < sz_ nv → mm_Ev K_X3_valuesAt (0, 0) [.inr (some (39, 0)), .inl i] (PH r y) w1 (mm_pe (some (.inl (i * gp_ nv))) (PH r y) w1) := fun w1 s1 i a b => by
    have e5 : w1 39 0 5 = gp_ nv := (s1 39 0 5 rfl).trans m5
    have := (hsos i a b).1
    have ev := ev_c_valuesAt (r := r) (y := y) (w := w1) (i := i) (by rw [e5]; exact ⟨by omega, by omega⟩)
    rw [e5] at ev
    exact ev
  have hso : ∀ w1 : mm_M, sm odL w w1 → ∀ i, 0 ≤ i → i < sz_ nv → mm_Ev K_X3_sosOf (0, 0) [.inr (some (39, 0)), .inl (i * gp_ nv)] (PH r y) w1 (mm_pe (some (.inl (s i))) (PH r y) w1) := fun w1 s1 i a b => by
    have ev := ev_c_sosOf (r := r) (y := y) (w := w1) (hsos i a b).1
    rw [s1 40 0 _ rfl, (hsos i a b).2] at ev
    exact ev
  have hsz : ∀ w1 : mm_M, sm odL w w1 → mm_Ev K_X3_size (0, 0) [.inr (some (39, 0))] (PH r y) w1 (mm_pe (some (.inl (sz_ nv))) (PH r y) w1) := fun w1 s1 => by
    have ev := ev_c_size (r := r) (y := y) (w := w1)
    rw [s1 39 0 4 rfl, m4] at ev
    exact ev
  have hb : ∀ a m, (cL s a m : Int) ≤ m ∧ (cE s a m : Int) ≤ m := fun a m => ⟨by have := cL_le s a m; omega, by have := cE_le s a m; omega⟩
  refine k_gp rfl rfl trivial ?_
  refine k_callp rfl ev_fill_61 rfl rfl rfl (by decide) ?_
  refine k_gp rfl rfl trivial ?_
  have s0 : sm odL w (arrw w 61 0 257 (fun _ => 0)) := sm_arrw sm_rf (by decide)
  -- the third loop
  have L3 : ∀ w1 l2 l3, sm odL w w1 → (∀ k, 0 ≤ k → k < 256 → w1 61 0 k = (cL s k (sz_ nv).toNat : Nat)) → mm_Wk K_X1_orderValues (0, 0) 87 [some (.inr (some (55, 0))), some (.inl 0), l2, l3] [] (PH r y) w1 (fun a b' w' => a = none ∧ b' = PH r y ∧ sm odL w w' ∧ OD w' nv) := fun w1 l2 l3 s1 h1 => by
    refine mm_loop (σ := mm_M) (sz_ nv) (fun i w2 => (0 ≤ i ∧ i ≤ sz_ nv) ∧ sm odL w w2 ∧ (∀ k, 0 ≤ k → k < 256 → w2 61 0 k = (cL s k (sz_ nv).toNat + cE s k i.toNat : Nat)) ∧ ∀ j, 0 ≤ j → j < i → w2 60 0 (ps s (sz_ nv).toNat j) = j * gp_ nv) (fun i w2 => ∀ l2 l3, mm_Wk K_X1_orderValues (0, 0) 87 [some (.inr (some (55, 0))), some (.inl i), l2, l3] [] (PH r y) w2 (fun a b' w' => a = none ∧ b' = PH r y ∧ sm odL w w' ∧ OD w' nv)) ?_ ?_ 0 w1 ⟨by omega, s1, fun k a b => by rw [h1 k a b]; rfl, fun j a b => by omega⟩ l2 l3
    · rintro i w2 q1 ⟨q2, s2, q3, q4⟩ ih l2 l3
      refine k_gp rfl rfl trivial ?_
      refine k_callp rfl (hsz w2 s2) rfl rfl rfl (by decide) ?_
      refine k_brf rfl (by omega) ?_
      refine k_gp rfl rfl trivial ?_
      refine k_callp rfl (hval w2 s2 i q2.1 q1) rfl rfl rfl (by decide) ?_
      refine k_gp rfl rfl trivial ?_
      refine k_callp rfl (hso w2 s2 i q2.1 q1) rfl rfl rfl (by decide) ?_
      have hp : w2 61 0 (s i) = ps s (sz_ nv).toNat i := q3 (s i) (s_in i).1 (s_in i).2
      have hpl := ps_lt (s := s) (n := (sz_ nv).toNat) (j := i) (by omega)
      have hbb := hb (s i + 1) (sz_ nv).toNat
      have hsi := s_in i
      have e1 : ∀ v, mm_up w2 60 0 (ps s (sz_ nv).toNat i) v 61 0 (s i) = ps s (sz_ nv).toNat i := fun v => (up_g rfl).trans hp
      refine k_gp rfl rfl (by simp only [true_and, mm_fits, hp, e1]; omega) ?_
      rw [hp, e1]
      refine ih _ ⟨by omega, sm_up (sm_up s2 (Or.inl (by decide))) (Or.inl (by decide)), fun k a b => ?_, fun j a b => ?_⟩ _ _
      · rw [up_at, show (i + 1).toNat = i.toNat + 1 by omega, cE_s, show ((i.toNat : Nat) : Int) = i by omega]
        by_cases hk : k = s i
        · rw [if_pos hk, if_pos hk.symm, hk]
          unfold ps
          omega
        · rw [if_neg hk, if_neg (fun z => hk z.symm), up_g rfl, q3 k a b]
          rfl
      · rw [up_g rfl, up_at]
        by_cases hj : j = i
        · rw [hj, if_pos rfl]
        · rw [if_neg (ps_ne (by omega) (by omega) (by omega)), q4 j a (by omega)]
    · rintro i w2 q1 ⟨q2, s2, q3, q4⟩ l2 l3
      have hi : i = sz_ nv := by omega
      subst hi
      refine k_gp rfl rfl trivial ?_
      refine k_callp rfl (hsz w2 s2) rfl rfl rfl (by decide) ?_
      refine k_brt rfl (by omega) ?_
      refine k_ret rfl trivial ⟨rfl, rfl, s2, fun k a b => ?_, fun all a b ht => ?_⟩
      · obtain ⟨j, p, q⟩ := ps_on (s := s) (n := (sz_ nv).toNat) (k := k) (by omega) s_in
        rw [← q, q4 j (by omega) (by omega)]
        exact gp_at hnv (by omega)
      · obtain ⟨j, p, q⟩ := gp_of hnv ⟨a, b⟩ ht
        have hpl := ps_lt (s := s) (n := (sz_ nv).toNat) (j := j) (by omega)
        have hbb := hb (s j + 1) (sz_ nv).toNat
        exact ⟨ps s (sz_ nv).toNat j, by omega, (q4 j p.1 p.2).trans q⟩
  -- the second loop
  have L2 : ∀ w1 l2 l3, sm odL w w1 → (∀ k, 0 ≤ k → k ≤ 256 → w1 61 0 k = (cE s (k - 1) (sz_ nv).toNat : Nat)) → mm_Wk K_X1_orderValues (0, 0) 55 [some (.inr (some (55, 0))), some (.inl 0), l2, l3] [] (PH r y) w1 (fun a b' w' => a = none ∧ b' = PH r y ∧ sm odL w w' ∧ OD w' nv) := fun w1 l2 l3 s1 h1 => by
    refine mm_loop (σ := mm_M) 256 (fun i w2 => (0 ≤ i ∧ i ≤ 256) ∧ sm odL w w2 ∧ (∀ k, 0 ≤ k → k ≤ 256 → w2 61 0 k = if k ≤ i then ((cL s k (sz_ nv).toNat : Nat) : Int) else ((cE s (k - 1) (sz_ nv).toNat : Nat) : Int))) (fun i w2 => mm_Wk K_X1_orderValues (0, 0) 55 [some (.inr (some (55, 0))), some (.inl i), l2, l3] [] (PH r y) w2 (fun a b' w' => a = none ∧ b' = PH r y ∧ sm odL w w' ∧ OD w' nv)) ?_ ?_ 0 w1 ⟨by omega, s1, fun k a b => ?_⟩
    · rintro i w2 q1 ⟨q2, s2, q3⟩ ih
      have a1 := q3 i (by omega) (by omega)
      have a2 := q3 (i + 1) (by omega) (by omega)
      rw [if_pos (Int.le_refl _)] at a1
      rw [if_neg (by omega), show i + 1 - 1 = i by omega] at a2
      have hbb := hb i (sz_ nv).toNat
      have hcs := cL_s s i (sz_ nv).toNat
      refine k_gp rfl rfl trivial ?_
      refine k_brf rfl (by omega) ?_
      refine k_gp rfl rfl (by simp only [true_and, mm_fits, a1, a2]; omega) ?_
      rw [a1, a2]
      refine ih _ ⟨by omega, sm_up s2 (Or.inl (by decide)), fun k a b => ?_⟩
      rw [up_at]
      by_cases hk : k = i + 1
      · rw [if_pos hk, if_pos (by omega), hk, hcs]
        omega
      · rw [if_neg hk, q3 k a b]
        by_cases hk2 : k ≤ i
        · rw [if_pos hk2, if_pos (by omega)]
        · rw [if_neg hk2, if_neg (by omega)]
    · rintro i w2 q1 ⟨q2, s2, q3⟩
      have hi : i = 256 := by omega
      subst hi
      refine k_gp rfl rfl trivial ?_
      refine k_brt rfl (by omega) ?_
      refine k_gp rfl rfl trivial ?_
      exact L3 w2 _ _ s2 (fun k a b => by rw [q3 k a (by omega), if_pos (by omega)])
    · by_cases hk : k ≤ 0
      · rw [h1 k a b, if_pos hk, show k = 0 by omega, cL_0 (fun j => (s_in j).1), cE_0 (fun j => by have := s_in j; omega)]
      · rw [h1 k a b, if_neg hk]
  refine mm_loop (σ := mm_M) (sz_ nv) (fun i w2 => (0 ≤ i ∧ i ≤ sz_ nv) ∧ sm odL w w2 ∧ (∀ k, 0 ≤ k → k ≤ 256 → w2 61 0 k = (cE s (k - 1) i.toNat : Nat))) (fun i w2 => ∀ l2 l3, mm_Wk K_X1_orderValues (0, 0) 10 [some (.inr (some (55, 0))), some (.inl i), l2, l3] [] (PH r y) w2 (fun a b' w' => a = none ∧ b' = PH r y ∧ sm odL w w' ∧ OD w' nv)) ?_ ?_ 0 _ ⟨by omega, s0, fun k a b => by rw [arrw_in (by omega)]; rfl⟩ _ _
  · rintro i w2 q1 ⟨q2, s2, q3⟩ ih l2 l3
    have a1 := q3 (s i + 1) (by have := s_in i; omega) (by have := s_in i; omega)
    have hsi := s_in i
    have hbb := hb (s i + 1 - 1) i.toNat
    refine k_gp rfl rfl trivial ?_
    refine k_callp rfl (hsz w2 s2) rfl rfl rfl (by decide) ?_
    refine k_brf rfl (by omega) ?_
    refine k_gp rfl rfl trivial ?_
    refine k_callp rfl (hval w2 s2 i q2.1 q1) rfl rfl rfl (by decide) ?_
    refine k_callp rfl (hso w2 s2 i q2.1 q1) rfl rfl rfl (by decide) ?_
    refine k_gp rfl rfl (by simp only [true_and, mm_fits, a1]; omega) ?_
    rw [a1]
    refine ih _ ⟨by omega, sm_up s2 (Or.inl (by decide)), fun k a b => ?_⟩ _ _
    rw [up_at, show (i + 1).toNat = i.toNat + 1 by omega, cE_s, show ((i.toNat : Nat) : Int) = i by omega]
    by_cases hk : k = s i + 1
    · rw [if_pos hk, if_pos (by omega), hk]
      omega
    · rw [if_neg hk, if_neg (by omega), q3 k a b]
      rfl
  · rintro i w2 q1 ⟨q2, s2, q3⟩ l2 l3
    have hi : i = sz_ nv := by omega
    subst hi
    refine k_gp rfl rfl trivial ?_
    refine k_callp rfl (hsz w2 s2) rfl rfl rfl (by decide) ?_
    refine k_brt rfl (by omega) ?_
    refine k_gp rfl rfl trivial ?_
    exact L2 w2 _ _ s2 q3
end MC
