/-! ===== the class: answers of the real search ===== -/
section PR
variable {c e : Int → Int → Int} {f : Int → Int} {nv nc ne trap : Int} {w : mm_M}
theorem RE_in {Q : List (Int × Int)} (h : RE c e f nv ne Q) (hne : ne ≤ 14) {q : Int} : inQ Q q = true ↔ ∃ k, Rch c e f nv ne k q := by
  rw [inQ_iff]
  constructor
  · rintro ⟨k, a, rfl⟩
    exact ⟨_, RN_Rch (RB_RN h.1 (k.toNat + 1) k a.1 a.2 (by omega))⟩
  · rintro ⟨k, hk⟩
    obtain ⟨σ, -, hσ⟩ := Rch_RN hk
    obtain ⟨j, a, b, -⟩ := RE_all h hne _ σ q rfl hσ
    exact ⟨j, a, b⟩
theorem RE_RD {Q : List (Int × Int)} {p : Int} (hK : RK w c nc trap Q) (h : RE c e f nv ne Q) (hne : ne ≤ 14) (hp : 0 ≤ p ∧ p < 8) : RD (Rch c e f nv ne) p (w 52 0 p) := by
  rcases hK.2.1 p hp.1 hp.2 with ⟨p1, p2⟩ | ⟨k, p1, p2, p3, p4, -⟩
  · refine Or.inl ⟨p1, fun v a b m hm => ?_⟩
    obtain ⟨σ, -, hσ⟩ := Rch_RN hm
    obtain ⟨j, j1, j2, -⟩ := RE_all h hne _ σ _ rfl hσ
    exact p2 j j1.1 j1.2 (by omega)
  · have hin := (hK.1.2.1 k p1.1 p1.2).2.2
    refine Or.inr ⟨by omega, ⟨stQ Q k % 512, by omega, ?_⟩, fun v a b m hm => ?_⟩
    · rw [show 512 * p + stQ Q k % 512 = stQ Q k by omega, p4]
      exact RN_Rch (RB_RN h.1 (k.toNat + 1) k p1.1 p1.2 (by omega))
    · obtain ⟨σ, hl, hσ⟩ := Rch_RN hm
      obtain ⟨j, j1, j2, j3⟩ := RE_all h hne _ σ _ rfl hσ
      have hkj : k ≤ j := Int.le_of_not_gt fun z => p3 j j1.1 z (by omega)
      have h1 := sle_len (RB_le h.1 p1.1 hkj j1.2)
      have h2 := sle_len j3
      omega
theorem RE_RV {Q : List (Int × Int)} {p : Int} (hK : RK w c nc trap Q) (h : RE c e f nv ne Q) (hne : ne ≤ 14) (hp : 0 ≤ p ∧ p < 8) : RV (Rch c e f nv ne) p (w 53 0 p) := ⟨fun v => inQ Q (512 * p + v), fun v _ _ => RE_in h hne, hK.2.2.1 p hp.1 hp.2⟩
theorem RE_HO {Q : List (Int × Int)} {p : Int} (hK : RK w c nc trap Q) (h : RE c e f nv ne Q) (hne : ne ≤ 14) (hp : 0 ≤ p ∧ p < 8) : HO (Rch c e f nv ne) c nc p (w 54 0 p) := by
  obtain ⟨h1, h2⟩ := hK.2.2.2 p hp.1 hp.2
  refine ⟨h1, fun g a b => ?_⟩
  rw [h2 g a b]
  constructor
  · intro z v a b hk
    obtain ⟨k, k1, k2⟩ := inQ_iff.mp ((RE_in h hne).mpr hk)
    have := z k k1.1 k1.2 (by omega)
    rw [show stQ Q k % 512 = v by omega] at this
    exact this
  · intro z k a b hk
    have hin := (hK.1.2.1 k a b).2.2
    refine z _ (by omega) (by omega) ((RE_in h hne).mp (inQ_iff.mpr ⟨k, ⟨a, b⟩, by omega⟩))
theorem RE_RU {Q : List (Int × Int)} {k : Int} (h : RE c e f nv ne Q) (hne : ne ≤ 14) (hk : 0 ≤ k ∧ k < Q.length) (hp : stQ Q k / 512 = trap) (hf : ∀ j : Int, 0 ≤ j → j < k → stQ Q j / 512 ≠ trap) : RU c e f nv ne trap (PT Q k).length (PT Q k) := by
  refine ⟨rfl, ⟨stQ Q k, hp, RB_RN h.1 (k.toNat + 1) k hk.1 hk.2 (by omega)⟩, fun σ q hl hq hr => ?_⟩
  obtain ⟨j, j1, j2, j3⟩ := RE_all h hne _ σ _ rfl hr
  have hkj : k ≤ j := Int.le_of_not_gt fun z => hf j j1.1 z (by rw [j2]; exact hq)
  rcases sle_tr (RB_le h.1 hk.1 hkj j1.2) j3 with z | ⟨-, z⟩
  · omega
  · exact z
theorem take_p {P L : List Int} {z : Int} {m : Nat} (h : P ++ [z] = L.take (m + 1)) (hm : m < L.length) : P = L.take m ∧ L[m]? = some z := by
  have hl : P.length = m := by
    have := congrArg List.length h
    rw [List.length_append, List.length_take] at this
    simp at this
    omega
  constructor
  · have h1 : (P ++ [z]).take m = P := by rw [← hl]; simp
    rw [← h1, h, List.take_take]
    congr 1
    omega
  · have h2 : (P ++ [z])[m]? = some z := by rw [← hl]; simp
    rw [h, List.getElem?_take] at h2
    rw [if_pos (by omega)] at h2
    exact h2
end PR
section MC
variable {r : Bool × Bool} {y : Bool} {w : mm_M} {np trap nv nc ne : Int} {c e : Int → Int → Int} {f lk : Int → Int}
set_option maxRecDepth 100000 in
theorem ev_c_edgeOfRun {Q : List (Int × Int)} {i : Int} (hK : RK w c nc trap Q) (h : RE c e f nv ne Q) (hne : ne ≤ 14) (hT : w 32 0 1 = trap) (ht : 0 ≤ trap ∧ trap < 8) (hi : 0 ≤ i ∧ i < w 52 0 trap) : mm_Ev K_X6_edgeOfRun (0, 0) [.inr (some (47, 0)), .inl i] (PH r y) w (fun a b' w' => b' = PH r y ∧ w' = w ∧ ∃ z ρ, a = some (.inl z) ∧ RU c e f nv ne trap (w 52 0 trap).toNat ρ ∧ ρ[i.toNat]? = some z) := by
  refine ev_intro ok_X6_edgeOfRun mo_X6_edgeOfRun (Nat.le_of_ble_eq_true rfl) (fun hrg has => ?_)
  have hle := RK_le hK
  have hw := RB_WF h.1
  rcases hK.2.1 trap ht.1 ht.2 with ⟨p1, p2⟩ | ⟨k, p1, p2, p3, p4, p5⟩
  · omega
  have p5 := p5 rfl
  have hRU := RE_RU h hne p1 p2 p3
  have hkl := PT_wl hw (k.toNat + 1) k p1.1 p1.2 (by omega)
  generalize hD : w 52 0 trap = D at *
  have eD : D.toNat = (PT Q k).length := by omega
  rw [eD]
  refine k_gp rfl rfl (by simp only [true_and, mm_fits, hT, hD]; omega) ?_
  rw [hT, hD, p5, show D - 1 = D - 1 - 0 by omega]
  refine mm_loop (σ := Int) (D - 1 - i) (fun j a => (0 ≤ j ∧ j ≤ D - 1 - i) ∧ (0 ≤ a ∧ a < Q.length) ∧ PT Q a = (PT Q k).take (D - 1 - j).toNat.succ) (fun j a => mm_Wk K_X6_edgeOfRun (0, 0) 20 [some (.inr (some (47, 0))), some (.inl i), some (.inl a), some (.inl (D - 1 - j))] [] (PH r y) w (fun a b' w' => b' = PH r y ∧ w' = w ∧ ∃ z ρ, a = some (.inl z) ∧ RU c e f nv ne trap (PT Q k).length ρ ∧ ρ[i.toNat]? = some z)) ?_ ?_ 0 k ⟨by omega, p1, ?_⟩
  · rintro j a q1 ⟨q2, q3, q4⟩ ih
    obtain ⟨-, n49, -⟩ := hK.1.2.1 a q3.1 q3.2
    have hPa := PT_w hw q3.1 q3.2
    have hfr : 0 ≤ frQ Q a ∧ frQ Q a / 16 < a := by
      rcases hw a q3.1 q3.2 with z | z
      · rw [if_pos z, q4] at hPa
        have := congrArg List.length hPa
        rw [List.length_take, List.length_nil, Nat.succ_eq_add_one] at this
        omega
      · exact z
    rw [if_neg (by omega), q4] at hPa
    obtain ⟨t1, t2⟩ := take_p hPa.symm (by omega)
    refine k_gp rfl rfl trivial ?_
    refine k_brf rfl (by omega) ?_
    have hfb : frQ Q a < 65536 := by omega
    refine k_gp rfl rfl (by simp only [true_and, mm_fits]; omega) ?_
    rw [n49, shr4 (by omega), show D - 1 - j + -1 = D - 1 - (j + 1) by omega]
    refine ih _ ⟨by omega, by omega, ?_⟩
    rw [t1]
    congr 1
    show _ = (D - 1 - (j + 1)).toNat + 1
    omega
  · rintro j a q1 ⟨q2, q3, q4⟩
    obtain ⟨-, n49, -⟩ := hK.1.2.1 a q3.1 q3.2
    have hPa := PT_w hw q3.1 q3.2
    have hj : D - 1 - j = i := by omega
    rw [hj] at q4 ⊢
    have hfr : 0 ≤ frQ Q a ∧ frQ Q a / 16 < a := by
      rcases hw a q3.1 q3.2 with z | z
      · rw [if_pos z, q4] at hPa
        have := congrArg List.length hPa
        rw [List.length_take, List.length_nil, Nat.succ_eq_add_one] at this
        omega
      · exact z
    rw [if_neg (by omega), q4] at hPa
    obtain ⟨t1, t2⟩ := take_p hPa.symm (by omega)
    refine k_gp rfl rfl trivial ?_
    refine k_brt rfl (by omega) ?_
    refine k_gp rfl rfl (by simp only [true_and, mm_fits]; omega) ?_
    rw [n49, and15 (by omega)]
    exact k_ret rfl trivial ⟨rfl, rfl, _, PT Q k, rfl, hRU, t2⟩
  · rw [List.take_of_length_le (by show (PT Q k).length ≤ (D - 1 - 0).toNat + 1; omega)]
end MC
