/-! ===== the class: states of a place, what is found there, what may become what ===== -/
theorem inQ_iff {Q : List (Int × Int)} {s : Int} : inQ Q s = true ↔ ∃ k : Int, (0 ≤ k ∧ k < (Q.length : Int)) ∧ stQ Q k = s := by
  unfold inQ
  rw [List.any_eq_true]
  constructor
  · rintro ⟨q, h1, h2⟩
    obtain ⟨i, hi, he⟩ := List.getElem_of_mem h1
    refine ⟨i, by omega, ?_⟩
    unfold stQ
    rw [show ((i : Int).toNat) = i from rfl, List.getD_eq_getElem?_getD, List.getElem?_eq_getElem hi, he]
    exact of_decide_eq_true h2
  · rintro ⟨k, h1, h2⟩
    refine ⟨Q[k.toNat]'(by omega), List.getElem_mem _, decide_eq_true ?_⟩
    unfold stQ at h2
    rw [List.getD_eq_getElem?_getD, List.getElem?_eq_getElem (by omega)] at h2
    exact h2
/-- no state comes twice -/
def QN (Q : List (Int × Int)) : Prop := ∀ i j : Int, 0 ≤ i → i < j → j < Q.length → stQ Q i ≠ stQ Q j
theorem QN_add1 {Q : List (Int × Int)} {s fr : Int} (h : QN Q) : QN (add1 Q s fr) := by
  unfold add1
  split
  · exact h
  · rename_i hn
    intro i j a b d
    have hl : ((Q ++ [(s, fr)]).length : Int) = Q.length + 1 := by simp
    by_cases hj : j = Q.length
    · have eL : stQ (Q ++ [(s, fr)]) j = s := by unfold stQ; rw [hj]; simp
      rw [eL, stQ_app a (by omega)]
      intro z
      exact hn (inQ_iff.mpr ⟨i, by omega, z⟩)
    · rw [stQ_app a (by omega), stQ_app (by omega) (by omega)]
      exact h i j a b (by omega)
theorem QN_addC {Q : List (Int × Int)} {b fr : Int} {S : Int → Bool} (h : QN Q) : ∀ n : Nat, QN (addC Q b S fr n)
  | 0 => h
  | n + 1 => by
    show QN (if S n = true then add1 (addC Q b S fr n) (b + n) fr else addC Q b S fr n)
    split
    · exact QN_add1 (QN_addC h n)
    · exact QN_addC h n
theorem QN_addX {c e : Int → Int → Int} {lk : Int → Int} {nv nc : Int} {Q : List (Int × Int)} {k : Int} (h : QN Q) : ∀ n : Nat, QN (addX c e lk nv nc Q k n)
  | 0 => h
  | n + 1 => by
    show QN (if e n 0 = stQ Q k / 256 then addC (addX c e lk nv nc Q k n) (256 * e n 1) (nxB c e lk nv nc n (stQ Q k % 256)) (16 * k + n) 256 else addX c e lk nv nc Q k n)
    split
    · exact QN_addC (QN_addX h n) 256
    · exact QN_addX h n
theorem QN_addK {c e : Int → Int → Int} {lk : Int → Int} {nv nc ne : Int} : ∀ (m k : Nat) (Q : List (Int × Int)), QN Q → QN (addK c e lk nv nc ne m k Q)
  | 0, _, _, h => h
  | m + 1, k, Q, h => by
    show QN (if k < Q.length then addK c e lk nv nc ne m (k + 1) (addX c e lk nv nc Q k ne.toNat) else Q)
    split
    · exact QN_addK m (k + 1) _ (QN_addX h _)
    · exact h
theorem QN_MQ {c e : Int → Int → Int} {f lk : Int → Int} {nv nc ne : Int} : QN (MQ_ c e f lk nv nc ne) :=
  QN_addK _ _ _ (QN_addC (fun i j a b d => absurd d (by show ¬ j < 0; omega)) _)
/-- among the first k -/
def inK (Q : List (Int × Int)) (k s : Int) : Bool := (List.range k.toNat).any fun j : Nat => decide (stQ Q j = s)
theorem inK_iff {Q : List (Int × Int)} {k s : Int} : inK Q k s = true ↔ ∃ j : Int, (0 ≤ j ∧ j < k) ∧ stQ Q j = s := by
  unfold inK
  rw [List.any_eq_true]
  constructor
  · rintro ⟨j, h1, h2⟩
    have := List.mem_range.mp h1
    exact ⟨j, by omega, of_decide_eq_true h2⟩
  · rintro ⟨j, h1, h2⟩
    refine ⟨j.toNat, List.mem_range.mpr (by omega), decide_eq_true ?_⟩
    rw [show ((j.toNat : Nat) : Int) = j by omega]
    exact h2
section MC
variable {r : Bool × Bool} {y : Bool} {w : mm_M} {np trap nv nc ne : Int} {c e : Int → Int → Int} {f lk : Int → Int}
theorem ev_c_statesOf {p : Int} {Q : List (Int × Int)} (hQ : QC w trap Q) (hN : QN Q) (hp : 0 ≤ p ∧ p < 8) : mm_Ev K_X2_statesOf (0, 0) [.inr (some (77, 0)), .inl p] (PH r y) w (mm_pe (some (.inl ((cnt (fun u => inQ Q (256 * p + u)) 256 : Nat) : Int))) (PH r y) w) := by
  refine ev_intro ok_X2_statesOf mo_X2_statesOf (Nat.le_of_ble_eq_true rfl) (fun hrg has => ?_)
  have hle := QC_le hQ
  have h9 := hQ.1
  refine k_gp rfl rfl trivial ?_
  have z0 : cnt (fun u => inK Q 0 (256 * p + u)) 256 = 0 := cnt_0 (fun i a b => rfl)
  refine mm_loop (σ := Int) Q.length (fun k s => (0 ≤ k ∧ k ≤ Q.length) ∧ s = ((cnt (fun u => inK Q k (256 * p + u)) 256 : Nat) : Int)) (fun k s => mm_Wk K_X2_statesOf (0, 0) 4 [some (.inr (some (77, 0))), some (.inl p), some (.inl s), some (.inl k)] [] (PH r y) w (mm_pe (some (.inl ((cnt (fun u => inQ Q (256 * p + u)) 256 : Nat) : Int))) (PH r y) w)) ?_ ?_ 0 0 ⟨by omega, by rw [z0]; rfl⟩
  · rintro k s q1 ⟨q2, hs⟩ ih
    obtain ⟨n78, -, nin⟩ := hQ.2.1 k q2.1 q1
    have hstep : ∀ u, inK Q (k + 1) u = true ↔ inK Q k u = true ∨ stQ Q k = u := fun u => by
      rw [inK_iff, inK_iff]
      constructor
      · rintro ⟨j, a, b⟩
        by_cases hj : j = k
        · exact Or.inr (hj ▸ b)
        · exact Or.inl ⟨j, by omega, b⟩
      · rintro (⟨j, a, b⟩ | b)
        · exact ⟨j, by omega, b⟩
        · exact ⟨k, by omega, b⟩
    have hcl : cnt (fun u => inK Q k (256 * p + u)) 256 ≤ 256 := cnt_le _ _
    refine k_gp rfl rfl trivial ?_
    rw [h9]
    refine k_brf rfl (by omega) ?_
    refine k_gp rfl rfl (by simp only [true_and, mm_fits]; omega) ?_
    rw [n78]
    refine k_br rfl (fun g => ?_) (fun g => ?_)
    · refine k_gp rfl rfl (by simp only [true_and, mm_fits]; omega) ?_
      have : cnt (fun u => inK Q (k + 1) (256 * p + u)) 256 = cnt (fun u => inK Q k (256 * p + u)) 256 := cnt_c (fun u a b => by
        show inK Q (k + 1) (256 * p + u) = inK Q k (256 * p + u)
        rw [Bool.eq_iff_iff, hstep]
        exact ⟨fun z => z.resolve_right (fun t => g (by omega)), Or.inl⟩)
      exact ih s ⟨by omega, by rw [this]; exact hs⟩
    · have g : stQ Q k / 256 = p := Classical.byContradiction g
      have : cnt (fun u => inK Q (k + 1) (256 * p + u)) 256 = cnt (fun u => inK Q k (256 * p + u)) 256 + 1 := cnt_s (i := stQ Q k % 256) (by omega) (by omega) (by
        show inK Q k (256 * p + stQ Q k % 256) = false
        rw [Bool.eq_false_iff]
        intro z
        obtain ⟨j, a, b⟩ := inK_iff.mp z
        exact hN j k a.1 a.2 q1 (by omega)) (by
        show inK Q (k + 1) (256 * p + stQ Q k % 256) = true
        rw [hstep]
        exact Or.inr (by omega)) (fun j hj => by
        show inK Q (k + 1) (256 * p + j) = inK Q k (256 * p + j)
        rw [Bool.eq_iff_iff, hstep]
        exact ⟨fun z => z.resolve_right (fun t => hj (by omega)), Or.inl⟩)
      refine k_gp rfl rfl (by simp only [true_and, mm_fits]; omega) ?_
      refine k_gp rfl rfl (by simp only [true_and, mm_fits]; omega) ?_
      exact ih (s + 1) ⟨by omega, by omega⟩
  · rintro k s q1 ⟨q2, hs⟩
    rw [hs]
    have hk : k = Q.length := by omega
    subst hk
    refine k_gp rfl rfl trivial ?_
    rw [h9]
    refine k_brt rfl (by omega) ?_
    refine k_gp rfl rfl trivial ?_
    refine k_ret rfl trivial ⟨?_, rfl, rfl⟩
    refine congrArg some (congrArg Sum.inl (congrArg _ (cnt_c (fun u a b => ?_))))
    show inK Q Q.length (256 * p + u) = inQ Q (256 * p + u)
    rw [Bool.eq_iff_iff, inK_iff, inQ_iff]
theorem ev_c_cubeOf {p i : Int} {Q : List (Int × Int)} (hQ : QC w trap Q) (hp : 0 ≤ p ∧ p < 8) (hi : 0 ≤ i) : mm_Ev K_X2_cubeOf (0, 0) [.inr (some (77, 0)), .inl p, .inl i] (PH r y) w (fun a b' w' => b' = PH r y ∧ w' = w ∧ ∃ z, a = some (.inl z) ∧ SA (fun u => inQ Q (256 * p + u)) i z) := by
  refine ev_intro ok_X2_cubeOf mo_X2_cubeOf (Nat.le_of_ble_eq_true rfl) (fun hrg has => ?_)
  refine k_gp rfl rfl trivial ?_
  refine mm_loop (σ := Unit) 256 (fun k _ => (0 ≤ k ∧ k ≤ 256) ∧ ((cnt (fun u => inQ Q (256 * p + u)) k.toNat : Nat) : Int) ≤ i) (fun k _ => mm_Wk K_X2_cubeOf (0, 0) 5 [some (.inr (some (77, 0))), some (.inl p), some (.inl i), some (.inl ((cnt (fun u => inQ Q (256 * p + u)) k.toNat : Nat) : Int)), some (.inl k)] [] (PH r y) w (fun a b' w' => b' = PH r y ∧ w' = w ∧ ∃ z, a = some (.inl z) ∧ SA (fun u => inQ Q (256 * p + u)) i z)) ?_ ?_ 0 () ⟨by omega, hi⟩
  · rintro k - q1 ⟨q2, q3⟩ ih
    have hcl := cnt_le (fun u => inQ Q (256 * p + u)) k.toNat
    have hst : cnt (fun u => inQ Q (256 * p + u)) (k + 1).toNat = cnt (fun u => inQ Q (256 * p + u)) k.toNat + (if inQ Q (256 * p + k) = true then 1 else 0) := by
      rw [show (k + 1).toNat = k.toNat + 1 by omega]
      show cnt (fun u => inQ Q (256 * p + u)) k.toNat + (if inQ Q (256 * p + ((k.toNat : Nat) : Int)) = true then 1 else 0) = _
      rw [show ((k.toNat : Nat) : Int) = k by omega]
    have h3 := hQ.2.2.1 (p * 256 + k) (by omega) (by omega)
    rw [show p * 256 + k = 256 * p + k by omega] at h3
    refine k_gp rfl rfl trivial ?_
    refine k_brf rfl (by omega) ?_
    refine k_gp rfl rfl (by simp only [true_and, mm_fits]; omega) ?_
    refine k_callp rfl (ev_has (g := 80) (N := 64) (by unfold NSL; decide) (by omega)) rfl rfl rfl (by decide) ?_
    rw [show p * 256 + k = 256 * p + k by omega]
    refine k_brz rfl (fun g => ?_) (fun g => ?_)
    · rw [h3] at g
      rw [if_neg g, Nat.add_zero] at hst
      refine k_gp rfl rfl (by simp only [true_and, mm_fits]; omega) ?_
      rw [← hst]
      exact ih () ⟨by omega, by rw [hst]; exact q3⟩
    · rw [h3] at g
      rw [if_pos g] at hst
      refine k_gp rfl rfl trivial ?_
      refine k_br rfl (fun g2 => ?_) (fun g2 => ?_)
      · refine k_gp rfl rfl (by simp only [true_and, mm_fits]; omega) ?_
        refine k_gp rfl rfl (by simp only [true_and, mm_fits]; omega) ?_
        rw [show ((cnt (fun u => inQ Q (256 * p + u)) k.toNat : Nat) : Int) + 1 = ((cnt (fun u => inQ Q (256 * p + u)) (k + 1).toNat : Nat) : Int) by omega]
        exact ih () ⟨by omega, by omega⟩
      · have g2 : ((cnt (fun u => inQ Q (256 * p + u)) k.toNat : Nat) : Int) = i := Classical.byContradiction g2
        refine k_gp rfl rfl trivial ?_
        exact k_ret rfl trivial ⟨rfl, rfl, k, rfl, fun z => by omega, fun _ => Or.inr ⟨⟨q2.1, q1⟩, g, g2⟩⟩
  · rintro k - q1 ⟨q2, q3⟩
    have hk : k = 256 := by omega
    subst hk
    refine k_gp rfl rfl trivial ?_
    refine k_brt rfl (by omega) ?_
    refine k_gp rfl rfl trivial ?_
    exact k_ret rfl (by decide) ⟨rfl, rfl, -4, rfl, fun z => by omega, fun _ => Or.inl ⟨rfl, q3⟩⟩
theorem ev_c_foundAt {p : Int} {Q : List (Int × Int)} (hQ : QC w trap Q) (hH : HL w lk) (hp : 0 ≤ p ∧ p < 8) : mm_Ev K_X2_foundAt (0, 0) [.inr (some (77, 0)), .inl p] (PH r y) w (fun a b' w' => b' = PH r y ∧ w' = w ∧ ∃ z, a = some (.inl z) ∧ FO (fun u => inQ Q (256 * p + u)) (lk p) z) := by
  refine ev_intro ok_X2_foundAt mo_X2_foundAt (Nat.le_of_ble_eq_true rfl) (fun hrg has => ?_)
  have hle := QC_le hQ
  have h9 := hQ.1
  obtain ⟨l0, l1⟩ := hH p hp.1 hp.2
  refine k_gp rfl rfl (by simp only [true_and, mm_fits]; omega) ?_
  rw [l0]
  refine mm_loop (σ := Int) Q.length (fun k m => (0 ≤ k ∧ k ≤ Q.length) ∧ (0 ≤ m ∧ m < 256) ∧ ∀ g, 0 ≤ g → g < 8 → (hb m g ↔ hb (lk p) g ∧ ∀ j, 0 ≤ j → j < k → stQ Q j / 256 = p → hb (stQ Q j % 256) g)) (fun k m => mm_Wk K_X2_foundAt (0, 0) 9 [some (.inr (some (77, 0))), some (.inl p), some (.inl m), some (.inl k)] [] (PH r y) w (fun a b' w' => b' = PH r y ∧ w' = w ∧ ∃ z, a = some (.inl z) ∧ FO (fun u => inQ Q (256 * p + u)) (lk p) z)) ?_ ?_ 0 (lk p) ⟨by omega, l1, fun g a b => ⟨(fun z => ⟨z, (fun j a b => by omega)⟩), fun z => z.1⟩⟩
  · rintro k m q1 ⟨q2, q3, q4⟩ ih
    obtain ⟨n78, -, nin⟩ := hQ.2.1 k q2.1 q1
    refine k_gp rfl rfl trivial ?_
    rw [h9]
    refine k_brf rfl (by omega) ?_
    refine k_gp rfl rfl (by simp only [true_and, mm_fits]; omega) ?_
    rw [n78]
    refine k_br rfl (fun g => ?_) (fun g => ?_)
    · refine k_gp rfl rfl (by simp only [true_and, mm_fits]; omega) ?_
      refine ih m ⟨by omega, q3, fun g' a b => ?_⟩
      rw [q4 g' a b]
      refine and_congr Iff.rfl ⟨fun z j a b t => ?_, fun z j a b t => z j a (by omega) t⟩
      by_cases hj : j = k
      · rw [hj] at t; exact absurd t g
      · exact z j a (by omega) t
    · have g : stQ Q k / 256 = p := Classical.byContradiction g
      have ha := fun g' => hb_and (a := m) (b := stQ Q k % 256) (g := g') q3 (by omega)
      refine k_gp rfl rfl (by simp only [true_and, mm_fits]; omega) ?_
      rw [n78]
      refine k_gp rfl rfl (by simp only [true_and, mm_fits]; omega) ?_
      refine ih _ ⟨by omega, (ha 0).1, fun g' a b => ?_⟩
      rw [(ha g').2, q4 g' a b]
      constructor
      · rintro ⟨⟨z1, z2⟩, z3⟩
        refine ⟨z1, fun j a b t => ?_⟩
        by_cases hj : j = k
        · rw [hj]; exact z3
        · exact z2 j a (by omega) t
      · rintro ⟨z1, z2⟩
        exact ⟨⟨z1, fun j a b t => z2 j a (by omega) t⟩, z2 k (by omega) (by omega) g⟩
  · rintro k m q1 ⟨q2, q3, q4⟩
    have hk : k = Q.length := by omega
    subst hk
    refine k_gp rfl rfl trivial ?_
    rw [h9]
    refine k_brt rfl (by omega) ?_
    refine k_gp rfl rfl trivial ?_
    refine k_ret rfl trivial ⟨rfl, rfl, m, rfl, q3, fun g a b => ?_⟩
    rw [q4 g a b]
    refine and_congr Iff.rfl ⟨fun z u a b t => ?_, fun z j a b t => ?_⟩
    · obtain ⟨j, t1, t2⟩ := inQ_iff.mp t
      have := z j t1.1 t1.2 (by omega)
      rw [show stQ Q j % 256 = u by omega] at this
      exact this
    · exact z _ (by omega) (by omega) (inQ_iff.mpr ⟨j, ⟨a, b⟩, by omega⟩)
theorem ev_c_becomes {x cb u : Int} (hx : 0 ≤ x ∧ x < ne) (hc : 0 ≤ cb ∧ cb < 256) (hu : 0 ≤ u ∧ u < 256) (hO : PO np trap nv nc ne c e) (hP : PC w np trap nv nc ne c e f) (hH : HL w lk) (hE : LE w c e nv nc x) : mm_Ev K_X2_becomes (0, 0) [.inr (some (77, 0)), .inl x, .inl cb, .inl u] (PH r y) w (fun a b' w' => b' = PH r y ∧ sm [(83, none), (85, none)] w w' ∧ a = some (.inl (ib (nxB c e lk nv nc x cb u = true)))) := by
  refine ev_intro ok_X2_becomes mo_X2_becomes (Nat.le_of_ble_eq_true rfl) (fun hrg has => ?_)
  refine k_gp rfl rfl trivial ?_
  refine k_callp rfl (ev_empty (g := 82) (N := 8) (by unfold NSL; decide)) rfl rfl rfl (by decide) ?_
  have s0 : sm [(83, none), (85, none)] w (arrw w 83 0 8 (fun _ => 0)) := sm_arrw sm_rf List.mem_cons_self
  have z83 : ∀ u, 0 ≤ u → u < 256 → nsB (arrw w 83 0 8 (fun _ => 0)) 83 u = false := fun u a b => nsB_0 (by omega)
  generalize arrw w 83 0 8 (fun _ => 0) = w0 at *
  refine k_gp rfl rfl trivial ?_
  refine k_callp rfl (ev_add (g := 82) (N := 8) (by unfold NSL; decide) (by omega)) rfl rfl rfl (by decide) ?_
  have s1 : sm [(83, none), (85, none)] w (nsA w0 83 cb) := sm_up s0 (Or.inl List.mem_cons_self)
  have y83 : ∀ u, 0 ≤ u → u < 256 → (nsB (nsA w0 83 cb) 83 u = true ↔ u = cb) := fun u a b => by
    rw [nsB_A hc.1 a, z83 u a b, Bool.false_or, decide_eq_true_eq]
  generalize nsA w0 83 cb = w1 at *
  refine k_gp rfl rfl trivial ?_
  refine k_call0 rfl (ev_c_next (lk := lk) hx hO (PC_sm s1 rfl (fun _ => rfl) hP) (HL_sm s1 (fun _ => rfl) hH) (LE_sm s1 (fun _ => rfl) hE) y83) rfl rfl rfl (by decide) ?_
  rintro a b' w2 ⟨rfl, s2, t1, z, rfl, t2⟩
  have s3 : sm [(83, none), (85, none)] w w2 := sm_tr s1 (sm_w s2 (by decide))
  refine k_brz rfl (fun g => ?_) (fun g => ?_)
  · have g : z = false := by
      cases z with
      | false => rfl
      | true => exact absurd rfl g
    refine k_gp rfl rfl trivial ?_
    refine k_ret rfl (by decide) ⟨rfl, s3, ?_⟩
    rw [ib_f (by rw [t2 g u]; decide)]
  · refine k_gp rfl rfl trivial ?_
    refine k_callp rfl (ev_has (g := 84) (N := 8) (by unfold NSL; decide) (by omega)) rfl rfl rfl (by decide) ?_
    refine k_brz rfl (fun g2 => ?_) (fun g2 => ?_)
    · rw [t1 u hu.1 hu.2] at g2
      refine k_gp rfl rfl trivial ?_
      refine k_ret rfl (by decide) ⟨rfl, s3, ?_⟩
      rw [ib_f g2]
    · rw [t1 u hu.1 hu.2] at g2
      refine k_gp rfl rfl trivial ?_
      refine k_ret rfl (by decide) ⟨rfl, s3, ?_⟩
      rw [ib_t g2]
end MC
