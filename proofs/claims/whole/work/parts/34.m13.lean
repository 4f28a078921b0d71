/-! ===== what may be: the states, one behind the other ===== -/
theorem cub_in (c : Int → Int → Int) (nc L all : Int) (h : nc ≤ 8) : 0 ≤ cub c nc L all ∧ cub c nc L all < 256 := by
  unfold cub
  have h1 := bts_lt (fun g : Nat => decide (hb L g) && soB c g all) nc.toNat
  have h2 : 2 ^ nc.toNat ≤ 2 ^ 8 := Nat.pow_le_pow_right (by decide) (by omega)
  omega
/-- cubes of first values; cubes that one may become by an edge -/
def fcB (c : Int → Int → Int) (f : Int → Int) (lk : Int → Int) (nv nc u : Int) : Bool := (List.range 512).any fun all : Nat => fsB f nv all && decide (cub c nc (lk 0) all = u)
def nxB (c e : Int → Int → Int) (lk : Int → Int) (nv nc x cb u : Int) : Bool := (List.range 512).any fun all : Nat => (thB nv all && decide (cub c nc (lk (e x 0)) all = cb)) && (decide (0 ≤ go_ c e x all) && decide (cub c nc (lk (e x 1)) (go_ c e x all) = u))
theorem any_512 {p : Int → Bool} : ((List.range 512).any fun a : Nat => p a) = true ↔ ∃ a, (0 ≤ a ∧ a < 512) ∧ p a = true := by
  rw [List.any_eq_true]
  constructor
  · rintro ⟨n, h1, h2⟩
    exact ⟨n, ⟨by omega, by have := List.mem_range.mp h1; omega⟩, h2⟩
  · rintro ⟨a, h1, h2⟩
    exact ⟨a.toNat, List.mem_range.mpr (by omega), by rw [show ((a.toNat : Nat) : Int) = a by omega]; exact h2⟩
theorem fcB_iff {c : Int → Int → Int} {f lk : Int → Int} {nv nc u : Int} : fcB c f lk nv nc u = true ↔ ∃ a, (0 ≤ a ∧ a < 512) ∧ fsB f nv a = true ∧ cub c nc (lk 0) a = u := by
  unfold fcB
  rw [any_512 (p := fun a => fsB f nv a && decide (cub c nc (lk 0) a = u))]
  simp only [Bool.and_eq_true, decide_eq_true_eq]
theorem nxB_iff {c e : Int → Int → Int} {lk : Int → Int} {nv nc x cb u : Int} : nxB c e lk nv nc x cb u = true ↔ ∃ a, (0 ≤ a ∧ a < 512) ∧ (thB nv a = true ∧ cub c nc (lk (e x 0)) a = cb) ∧ 0 ≤ go_ c e x a ∧ cub c nc (lk (e x 1)) (go_ c e x a) = u := by
  unfold nxB
  rw [any_512 (p := fun all => (thB nv all && decide (cub c nc (lk (e x 0)) all = cb)) && (decide (0 ≤ go_ c e x all) && decide (cub c nc (lk (e x 1)) (go_ c e x all) = u)))]
  simp only [Bool.and_eq_true, decide_eq_true_eq]
/-- a state comes, if it has not yet -/
def inQ (Q : List (Int × Int)) (s : Int) : Bool := Q.any fun q => decide (q.1 = s)
def add1 (Q : List (Int × Int)) (s fr : Int) : List (Int × Int) := if inQ Q s = true then Q else Q ++ [(s, fr)]
def addC (Q : List (Int × Int)) (base : Int) (S : Int → Bool) (fr : Int) : Nat → List (Int × Int)
  | 0 => Q
  | n + 1 => if S n = true then add1 (addC Q base S fr n) (base + n) fr else addC Q base S fr n
def stQ (Q : List (Int × Int)) (k : Int) : Int := (Q.getD k.toNat (0, -1)).1
def frQ (Q : List (Int × Int)) (k : Int) : Int := (Q.getD k.toNat (0, -1)).2
def addX (c e : Int → Int → Int) (lk : Int → Int) (nv nc : Int) (Q : List (Int × Int)) (k : Int) : Nat → List (Int × Int)
  | 0 => Q
  | x + 1 => if e x 0 = stQ Q k / 256 then addC (addX c e lk nv nc Q k x) (256 * e x 1) (nxB c e lk nv nc x (stQ Q k % 256)) (16 * k + x) 256 else addX c e lk nv nc Q k x
def addK (c e : Int → Int → Int) (lk : Int → Int) (nv nc ne : Int) : Nat → Nat → List (Int × Int) → List (Int × Int)
  | 0, _, Q => Q
  | m + 1, k, Q => if k < Q.length then addK c e lk nv nc ne m (k + 1) (addX c e lk nv nc Q k ne.toNat) else Q
/-- all states that come -/
def MQ_ (c e : Int → Int → Int) (f lk : Int → Int) (nv nc ne : Int) : List (Int × Int) := addK c e lk nv nc ne 2049 0 (addC [] 0 (fcB c f lk nv nc) (-1) 256)
theorem add1_len {Q : List (Int × Int)} {s fr : Int} : Q.length ≤ (add1 Q s fr).length := by
  unfold add1
  split
  · exact Nat.le_refl _
  · simp
theorem addC_len {Q : List (Int × Int)} {b fr : Int} {S : Int → Bool} : ∀ n : Nat, Q.length ≤ (addC Q b S fr n).length := by
  intro n
  induction n with
  | zero => exact Nat.le_refl _
  | succ n ih =>
    show Q.length ≤ (if S n = true then add1 (addC Q b S fr n) (b + n) fr else addC Q b S fr n).length
    split
    · exact Nat.le_trans ih add1_len
    · exact ih
theorem add1_pre {Q : List (Int × Int)} {s fr : Int} : ∃ R, add1 Q s fr = Q ++ R := by
  unfold add1
  split
  · exact ⟨[], by simp⟩
  · exact ⟨_, rfl⟩
theorem addC_pre {Q : List (Int × Int)} {b fr : Int} {S : Int → Bool} : ∀ n : Nat, ∃ R, addC Q b S fr n = Q ++ R := by
  intro n
  induction n with
  | zero => exact ⟨[], by simp [addC]⟩
  | succ n ih =>
    obtain ⟨R, hR⟩ := ih
    show ∃ R, (if S n = true then add1 (addC Q b S fr n) (b + n) fr else addC Q b S fr n) = Q ++ R
    split
    · obtain ⟨R2, h2⟩ := add1_pre (Q := addC Q b S fr n) (s := b + n) (fr := fr)
      exact ⟨R ++ R2, by rw [h2, hR, List.append_assoc]⟩
    · exact ⟨R, hR⟩
theorem addX_pre {c e : Int → Int → Int} {lk : Int → Int} {nv nc : Int} {Q : List (Int × Int)} {k : Int} : ∀ n : Nat, ∃ R, addX c e lk nv nc Q k n = Q ++ R := by
  intro n
  induction n with
  | zero => exact ⟨[], by simp [addX]⟩
  | succ n ih =>
    obtain ⟨R, hR⟩ := ih
    show ∃ R, (if e n 0 = stQ Q k / 256 then addC (addX c e lk nv nc Q k n) (256 * e n 1) (nxB c e lk nv nc n (stQ Q k % 256)) (16 * k + n) 256 else addX c e lk nv nc Q k n) = Q ++ R
    split
    · obtain ⟨R2, h2⟩ := addC_pre (Q := addX c e lk nv nc Q k n) (b := 256 * e n 1) (S := nxB c e lk nv nc n (stQ Q k % 256)) (fr := 16 * k + n) 256
      exact ⟨R ++ R2, by rw [h2, hR, List.append_assoc]⟩
    · exact ⟨R, hR⟩
theorem stQ_app {Q R : List (Int × Int)} {k : Int} (h0 : 0 ≤ k) (h : k < Q.length) : stQ (Q ++ R) k = stQ Q k := by
  unfold stQ
  rw [List.getD_eq_getElem?_getD, List.getD_eq_getElem?_getD, List.getElem?_append_left (by omega)]
/-- the reference's memory holds these states -/
def QM (w : mm_M) (Q : List (Int × Int)) : Prop := w 1 0 29 = Q.length ∧ (∀ k : Int, 0 ≤ k → k < Q.length → w 15 0 k = stQ Q k ∧ w 16 0 k = (if frQ Q k < 0 then -4 else frQ Q k) ∧ (0 ≤ stQ Q k ∧ stQ Q k < 2048)) ∧ (∀ s, 0 ≤ s → s < 2048 → (0 ≤ w 17 0 s ∧ w 17 0 s ≤ 1) ∧ (w 17 0 s ≠ 0 ↔ inQ Q s = true)) ∧ (Q.length : Int) = ((cnt (fun s => decide (w 17 0 s ≠ 0)) 2048 : Nat) : Int)
theorem QM_le {w : mm_M} {Q : List (Int × Int)} (h : QM w Q) : Q.length ≤ 2048 := by
  have := h.2.2.2
  have := cnt_le (fun s => decide (w 17 0 s ≠ 0)) 2048
  omega
def comW (w : mm_M) (s fr : Int) : mm_M := if w 17 0 s ≠ 0 then w else mm_up (mm_up (mm_up (mm_up w 17 0 s 1) 15 0 (w 1 0 29) s) 16 0 (w 1 0 29) fr) 1 0 29 (w 1 0 29 + 1)
abbrev lksL : List (Nat × Option Int) := [(15, none), (16, none), (17, none), (18, none), (1, some 29)]
section ME
variable {r : Bool × Bool} {y : Bool} {w : mm_M}
theorem comW_sm {s fr : Int} : sm lksL w (comW w s fr) := by
  unfold comW
  split
  · exact sm_rf
  · exact sm_up (sm_up (sm_up (sm_up sm_rf (Or.inl (by decide))) (Or.inl (by decide))) (Or.inl (by decide))) (by decide)
theorem comW_18 {s fr k : Int} : comW w s fr 18 0 k = w 18 0 k := by
  unfold comW
  split
  · rfl
  · exact (up_g rfl).trans ((up_g rfl).trans ((up_g rfl).trans (up_g rfl)))
theorem QM_com {Q : List (Int × Int)} {s fr fr' : Int} (h : QM w Q) (hs : 0 ≤ s ∧ s < 2048) (hf : fr' = if fr < 0 then -4 else fr) : QM (comW w s fr') (add1 Q s fr) := by
  obtain ⟨h1, h2, h3, h4⟩ := h
  unfold comW add1
  by_cases hi : inQ Q s = true
  · rw [if_pos ((h3 s hs.1 hs.2).2.mpr hi), if_pos hi]
    exact ⟨h1, h2, h3, h4⟩
  · have hz : w 17 0 s = 0 := Classical.byContradiction fun q => hi ((h3 s hs.1 hs.2).2.mp q)
    rw [if_neg (by rw [hz]; decide), if_neg hi]
    have g17 : ∀ k, mm_up (mm_up (mm_up (mm_up w 17 0 s 1) 15 0 (w 1 0 29) s) 16 0 (w 1 0 29) fr') 1 0 29 (w 1 0 29 + 1) 17 0 k = if k = s then 1 else w 17 0 k := fun k => by rw [up_g rfl, up_g rfl, up_g rfl, up_at]
    have hlen : ((Q ++ [(s, fr)]).length : Int) = Q.length + 1 := by simp
    have hin : ∀ u, inQ (Q ++ [(s, fr)]) u = (inQ Q u || decide (s = u)) := fun u => by unfold inQ; rw [List.any_append]; simp
    refine ⟨?_, fun k a b => ?_, fun u a b => ?_, ?_⟩
    · rw [up_s, h1, hlen]
    · by_cases hk : k = Q.length
      · have e1 : stQ (Q ++ [(s, fr)]) k = s := by unfold stQ; rw [hk]; simp
        have e2 : frQ (Q ++ [(s, fr)]) k = fr := by unfold frQ; rw [hk]; simp
        rw [e1, e2, up_g rfl, up_g rfl, up_at, h1, if_pos hk, up_g rfl, up_at, if_pos hk]
        exact ⟨rfl, hf, hs⟩
      · have hk2 : k < Q.length := by omega
        have e1 : stQ (Q ++ [(s, fr)]) k = stQ Q k := stQ_app a hk2
        have e2 : frQ (Q ++ [(s, fr)]) k = frQ Q k := by
          unfold frQ
          rw [List.getD_eq_getElem?_getD, List.getD_eq_getElem?_getD, List.getElem?_append_left (by omega)]
        rw [e1, e2, up_g rfl, up_g rfl, up_at, h1, if_neg hk, up_g rfl, up_g rfl, up_at, if_neg hk, up_g rfl, up_g rfl]
        exact h2 k a hk2
    · rw [g17, hin]
      by_cases hu : u = s
      · rw [if_pos hu, hu]
        exact ⟨by omega, fun _ => by simp, fun _ => by decide⟩
      · rw [if_neg hu]
        refine ⟨(h3 u a b).1, (h3 u a b).2.trans ?_⟩
        rw [decide_eq_false (fun q => hu q.symm), Bool.or_false]
    · have := cnt_s (p := fun k => decide (w 17 0 k ≠ 0)) (p' := fun k => decide (mm_up (mm_up (mm_up (mm_up w 17 0 s 1) 15 0 (w 1 0 29) s) 16 0 (w 1 0 29) fr') 1 0 29 (w 1 0 29 + 1) 17 0 k ≠ 0)) (n := 2048) hs.1 (by omega) (decide_eq_false (by rw [hz]; decide)) (decide_eq_true (by rw [g17, if_pos rfl]; decide)) (fun j hj => by show decide _ = _; rw [g17, if_neg hj])
      rw [this, hlen]
      omega
theorem ev_m_comes {Q : List (Int × Int)} {s fr : Int} (h : QM w Q) (hs : 0 ≤ s ∧ s < 2048) : mm_Ev K_X10_comes (0, 0) [.inr (some (1, 0)), .inl s, .inl fr] (PH r y) w (mm_pe none (PH r y) (comW w s fr)) := by
  refine ev_intro ok_X10_comes mo_X10_comes (Nat.le_of_ble_eq_true rfl) (fun hrg has => ?_)
  have hl := QM_le h
  have h1 := h.1
  have h4 := h.2.2.2
  unfold comW
  refine k_gp rfl rfl (by simp only [true_and, mm_fits]; omega) ?_
  refine k_br rfl (fun g1 => ?_) (fun g1 => ?_)
  · rw [if_pos g1]
    repeat' (first
      | refine k_brt rfl (by decide) ?_
      | refine k_brf rfl (by decide) ?_
      | refine k_brz rfl (fun _ => ?_) (fun _ => ?_)
      | refine k_brn rfl (fun _ => ?_) (fun _ => ?_)
      | refine k_br rfl (fun _ => ?_) (fun _ => ?_)
      | refine k_ret rfl ?_ ⟨?_, rfl, rfl⟩
      | refine k_ts rfl rfl ?_ (fun _ => ?_)
      | refine mm_tsc (fun _ => ?_) ?_
      | exact mm_tsn
      | refine k_gp rfl rfl ?_ ?_)
    all_goals (first | trivial | omega | (simp only [true_and, mm_fits]; omega) | (refine congrArg some (congrArg Sum.inl ?_); first | rfl | (rw [ib_t (by omega)]) | (rw [ib_f (by omega)]) | omega))
  · rw [if_neg g1]
    have hlt : (cnt (fun s => decide (w 17 0 s ≠ 0)) 2048) < 2048 := cnt_lt hs.1 (by omega) (decide_eq_false g1)
    have e1 : ∀ k, mm_up w 17 0 s 1 1 0 k = w 1 0 k := fun k => up_g rfl
    have e2 : ∀ k, mm_up (mm_up w 17 0 s 1) 15 0 (w 1 0 29) s 1 0 k = w 1 0 k := fun k => (up_g rfl).trans (up_g rfl)
    have e3 : ∀ k, mm_up (mm_up (mm_up w 17 0 s 1) 15 0 (w 1 0 29) s) 16 0 (w 1 0 29) fr 1 0 k = w 1 0 k := fun k => (up_g rfl).trans ((up_g rfl).trans (up_g rfl))
    refine k_gp rfl rfl (by simp only [true_and, mm_fits, e1, e2, e3]; omega) ?_
    rw [e1, e2, e3]
    exact k_ret rfl trivial ⟨rfl, rfl, rfl⟩
theorem or0 {L : Int} (h : 0 ≤ L ∧ L < 256) : mm_or L 0 = L := by
  have := bb_or (x := L.toNat) (y := 0) (by omega) (by decide)
  rw [show ((L.toNat : Nat) : Int) = L by omega, show ((0 : Nat) : Int) = 0 from rfl, Nat.or_zero] at this
  rw [this]
  omega
theorem ev_m_becomes {x cb : Int} (h : mP w) (hx : 0 ≤ x ∧ x < w 1 0 8) : mm_Ev K_X10_becomes (0, 0) [.inr (some (1, 0)), .inl x, .inl cb] (PH r y) w (fun a b' w' => a = none ∧ b' = PH r y ∧ sm [(18, none)] w w' ∧ ∀ u, 0 ≤ u → u < 256 → (0 ≤ w' 18 0 u ∧ w' 18 0 u ≤ 1) ∧ (w' 18 0 u ≠ 0 ↔ nxB (m_c w) (m_e w) (w 6 0) (w 1 0 4) (w 1 0 6) x cb u = true)) := by
  refine ev_intro ok_X10_becomes mo_X10_becomes (Nat.le_of_ble_eq_true rfl) (fun hrg has => ?_)
  have hnp := h.1
  have hnv := h.2.2.1
  have hnc := h.2.2.2.1
  have hne := h.2.2.2.2.1
  have hE := h.2.2.2.2.2.2.1 x hx.1 hx.2
  have hA := hE.1
  have hB := hE.2.1
  refine k_gp rfl rfl trivial ?_
  refine mm_loop (σ := mm_M) 256 (fun i w1 => (0 ≤ i ∧ i ≤ 256) ∧ w1 = arrw w 18 0 i (fun _ => 0)) (fun i w1 => mm_Wk K_X10_becomes (0, 0) 2 [some (.inr (some (1, 0))), some (.inl x), some (.inl cb), some (.inl i), none] [] (PH r y) w1 (fun a b' w' => a = none ∧ b' = PH r y ∧ sm [(18, none)] w w' ∧ ∀ u, 0 ≤ u → u < 256 → (0 ≤ w' 18 0 u ∧ w' 18 0 u ≤ 1) ∧ (w' 18 0 u ≠ 0 ↔ nxB (m_c w) (m_e w) (w 6 0) (w 1 0 4) (w 1 0 6) x cb u = true))) ?_ ?_ 0 w ⟨by omega, arrw_0.symm⟩
  · intro i w1 h1 h2 ih
    obtain ⟨h2, rfl⟩ := h2
    refine k_gp rfl rfl trivial ?_
    refine k_brf rfl (by omega) ?_
    refine k_gp rfl rfl (by simp only [true_and, mm_fits]; omega) ?_
    exact ih _ ⟨by omega, arrw_s (by omega) (by omega) rfl⟩
  intro i w1 h1 h2
  obtain ⟨h2, rfl⟩ := h2
  have hi : i = 256 := by omega
  subst hi
  refine k_gp rfl rfl trivial ?_
  refine k_brt rfl (by omega) ?_
  refine k_gp rfl rfl trivial ?_
  have hsA : sm [(18, none)] w (arrw w 18 0 256 (fun _ => 0)) := sm_arrw sm_rf (by decide)
  refine mm_loop (σ := mm_M) 512 (fun i w1 => (0 ≤ i ∧ i ≤ 512) ∧ sm [(18, none)] w w1 ∧ ∀ u, 0 ≤ u → u < 256 → (0 ≤ w1 18 0 u ∧ w1 18 0 u ≤ 1) ∧ (w1 18 0 u ≠ 0 ↔ ∃ a, (0 ≤ a ∧ a < i) ∧ (thB (w 1 0 4) a = true ∧ cub (m_c w) (w 1 0 6) (w 6 0 (m_e w x 0)) a = cb) ∧ 0 ≤ go_ (m_c w) (m_e w) x a ∧ cub (m_c w) (w 1 0 6) (w 6 0 (m_e w x 1)) (go_ (m_c w) (m_e w) x a) = u)) (fun i w1 => ∀ l4, mm_Wk K_X10_becomes (0, 0) 24 [some (.inr (some (1, 0))), some (.inl x), some (.inl cb), some (.inl i), l4] [] (PH r y) w1 (fun a b' w' => a = none ∧ b' = PH r y ∧ sm [(18, none)] w w' ∧ ∀ u, 0 ≤ u → u < 256 → (0 ≤ w' 18 0 u ∧ w' 18 0 u ≤ 1) ∧ (w' 18 0 u ≠ 0 ↔ nxB (m_c w) (m_e w) (w 6 0) (w 1 0 4) (w 1 0 6) x cb u = true))) ?_ ?_ 0 (arrw w 18 0 256 (fun _ => 0)) ⟨by omega, hsA, fun u a b => ?_⟩ _
  · intro i w1 h1 h2 ih l4
    obtain ⟨h2, hs, h3⟩ := h2
    obtain ⟨hP1, ec, ee⟩ := mP_sm hs rfl (fun _ => rfl) (fun _ => rfl) (fun _ => rfl) h
    have e4 : w1 1 0 4 = w 1 0 4 := hs 1 0 4 rfl
    have e6 : w1 1 0 6 = w 1 0 6 := hs 1 0 6 rfl
    have ek : ∀ p, w1 6 0 p = w 6 0 p := fun p => hs 6 0 p rfl
    have e0 : w1 5 0 (7 * x) = m_e w x 0 := by rw [← ee]; exact (m_e0 w1 x).symm
    have e1 : w1 5 0 (7 * x + 1) = m_e w x 1 := by rw [← ee]; rfl
    have kA := mP_255 h (p := m_e w x 0) hA.1 (by omega)
    have kB := mP_255 h (p := m_e w x 1) hB.1 (by omega)
    have skip : ¬ ((thB (w 1 0 4) i = true ∧ cub (m_c w) (w 1 0 6) (w 6 0 (m_e w x 0)) i = cb) ∧ 0 ≤ go_ (m_c w) (m_e w) x i) → ∀ l4, mm_Wk K_X10_becomes (0, 0) 95 [some (.inr (some (1, 0))), some (.inl x), some (.inl cb), some (.inl i), l4] [] (PH r y) w1 (fun a b' w' => a = none ∧ b' = PH r y ∧ sm [(18, none)] w w' ∧ ∀ u, 0 ≤ u → u < 256 → (0 ≤ w' 18 0 u ∧ w' 18 0 u ≤ 1) ∧ (w' 18 0 u ≠ 0 ↔ nxB (m_c w) (m_e w) (w 6 0) (w 1 0 4) (w 1 0 6) x cb u = true)) := fun hn l4 => by
      refine k_gp rfl rfl (by simp only [true_and, mm_fits]; omega) ?_
      refine ih w1 ⟨by omega, hs, fun u a b => ⟨(h3 u a b).1, (h3 u a b).2.trans ⟨fun ⟨v, v1, v2⟩ => ⟨v, by omega, v2⟩, fun ⟨v, v1, v2, v3, v4⟩ => ?_⟩⟩⟩ _
      by_cases hv : v = i
      · subst hv; exact absurd ⟨v2, v3⟩ hn
      · exact ⟨v, by omega, v2, v3, v4⟩
    refine k_gp rfl rfl trivial ?_
    refine k_brf rfl (by omega) ?_
    refine k_gp rfl rfl trivial ?_
    refine k_callp rfl (ev_m_isThere (by omega)) rfl rfl rfl (by decide) ?_
    rw [e4]
    refine k_brz rfl (fun g1 => skip (fun q => g1 q.1.1) _) (fun g1 => ?_)
    refine k_gp rfl rfl (by simp only [true_and, mm_fits]; omega) ?_
    rw [e0]
    refine k_callp rfl (ev_m_cube (by omega) (by omega) (by rw [e4]; omega) (by rw [e6]; exact hnc) (by rw [ec, e4, e6]; exact h.2.2.2.2.2.1) (by rw [ek, or0 kA]; exact kA.1)) rfl rfl rfl (by decide) ?_
    rw [ec, e6, ek, or0 kA]
    refine k_gp rfl rfl trivial ?_
    refine k_br rfl (fun g2 => skip (fun q => g2 q.1.2) _) (fun g2 => ?_)
    have g2 : cub (m_c w) (w 1 0 6) (w 6 0 (m_e w x 0)) i = cb := Classical.byContradiction g2
    refine k_gp rfl rfl trivial ?_
    refine k_callp rfl (ev_m_goes (np := w 1 0 2) (nc := w 1 0 6) (nv := w 1 0 4) (by omega) (by omega) (by omega) (by omega) (by rw [ec]; exact h.2.2.2.2.2.1) (by rw [ee]; exact hE)) rfl rfl rfl (by decide) ?_
    rw [ec, ee]
    have hgo := go_in (c := m_c w) (all := i) (by omega) (by omega) hE
    refine k_gp rfl rfl trivial ?_
    refine k_br rfl (fun g3 => skip (fun q => by omega) _) (fun g3 => ?_)
    refine k_gp rfl rfl (by simp only [true_and, mm_fits]; omega) ?_
    rw [e1]
    refine k_callp rfl (ev_m_cube (by omega) (by omega) (by rw [e4]; omega) (by rw [e6]; exact hnc) (by rw [ec, e4, e6]; exact h.2.2.2.2.2.1) (by rw [ek, or0 kB]; exact kB.1)) rfl rfl rfl (by decide) ?_
    rw [ec, e6, ek, or0 kB]
    have hcu := cub_in (m_c w) (w 1 0 6) (w 6 0 (m_e w x 1)) (go_ (m_c w) (m_e w) x i) (by omega)
    refine k_gp rfl rfl (by simp only [true_and, mm_fits]; omega) ?_
    refine k_gp rfl rfl (by simp only [true_and, mm_fits]; omega) ?_
    refine ih _ ⟨by omega, sm_up hs (Or.inl (by decide)), fun u a b => ?_⟩ _
    by_cases hu : u = cub (m_c w) (w 1 0 6) (w 6 0 (m_e w x 1)) (go_ (m_c w) (m_e w) x i)
    · subst hu
      rw [up_s]
      exact ⟨by omega, fun _ => ⟨i, by omega, ⟨g1, g2⟩, by omega, rfl⟩, fun _ => by decide⟩
    · rw [up_k hu]
      refine ⟨(h3 u a b).1, (h3 u a b).2.trans ⟨fun ⟨v, v1, v2⟩ => ⟨v, by omega, v2⟩, fun ⟨v, v1, v2, v3, v4⟩ => ?_⟩⟩
      by_cases hv : v = i
      · subst hv; exact absurd v4.symm hu
      · exact ⟨v, by omega, v2, v3, v4⟩
  · intro i w1 h1 h2 l4
    obtain ⟨h2, hs, h3⟩ := h2
    have hi : i = 512 := by omega
    subst hi
    refine k_gp rfl rfl trivial ?_
    refine k_brt rfl (by omega) ?_
    refine k_ret rfl trivial ⟨rfl, rfl, hs, fun u a b => ⟨(h3 u a b).1, (h3 u a b).2.trans nxB_iff.symm⟩⟩
  · rw [arrw_in (by omega)]
    exact ⟨by omega, fun q => absurd rfl q, fun ⟨v, v1, _⟩ => by omega⟩
end ME
