/-! ===== both sides together: changes ===== -/
section PR
variable {w w1 w2 : mm_M} {r r1 : Bool × Bool} {y y1 : Bool}
/-- what is kept in the reference, i changes ago -/
theorem kep_at (hd : 0 ≤ w 1 0 12 ∧ w 1 0 12 ≤ 6) : kepW w 1 0 12 = pd (w 1 0 12) ∧ ∀ i k, 0 ≤ i → i < pd (w 1 0 12) → 0 ≤ k → k < 22 → kepW w 7 0 (22 * (pd (w 1 0 12) - 1 - i) + k) = if i = 0 then w 6 0 k else w 7 0 (22 * (w 1 0 12 - 1 - (i - 1)) + k) := by
  have hA : kepA w 1 0 12 = pd (w 1 0 12) - 1 ∧ ∀ k, 0 ≤ k → k < 110 → kepA w 7 0 k = if w 1 0 12 = 6 then w 7 0 (k + 22) else w 7 0 k := by
    unfold kepA pd
    by_cases h : w 1 0 12 = 6
    · rw [if_pos h, if_pos (by omega)]
      refine ⟨up_s, fun k a b => ?_⟩
      rw [up_g rfl, arrw_in (by omega), if_pos h, show k - 0 = k by omega]
    · rw [if_neg h, if_neg (by omega)]
      exact ⟨by omega, fun k a b => by rw [if_neg h]⟩
  have hp : pd (w 1 0 12) = if w 1 0 12 = 6 then 6 else w 1 0 12 + 1 := by
    unfold pd
    by_cases h : w 1 0 12 = 6
    · rw [if_pos (by omega), if_pos h]
    · rw [if_neg (by omega), if_neg h]
  unfold kepW
  rw [hA.1]
  refine ⟨by rw [up_s]; omega, fun i k a b c1 d1 => ?_⟩
  rw [up_g rfl]
  by_cases hi : i = 0
  · rw [if_pos hi, hi, arrw_in (by omega), show 22 * (pd (w 1 0 12) - 1 - 0) + k - 22 * (pd (w 1 0 12) - 1) = k by omega]
  · rw [if_neg hi, arrw_out (by omega), hA.2 _ (by split at hp <;> omega) (by split at hp <;> omega)]
    by_cases h6 : w 1 0 12 = 6
    · rw [if_pos h6] at hp ⊢
      rw [hp, h6]
      congr 1
      omega
    · rw [if_neg h6] at hp ⊢
      rw [hp]
      congr 1
      omega
theorem kep_rd {k : Int} : kepW w 6 0 k = w 6 0 k ∧ kepW w 2 0 k = w 2 0 k ∧ kepW w 3 0 k = w 3 0 k ∧ kepW w 4 0 k = w 4 0 k ∧ kepW w 5 0 k = w 5 0 k := ⟨kep_sm 6 0 k rfl, kep_sm 2 0 k rfl, kep_sm 3 0 k rfl, kep_sm 4 0 k rfl, kep_sm 5 0 k rfl⟩
theorem WA_c {e e' : Int → Int → Int} {ne : Int} (h : ∀ x, 0 ≤ x → x < ne → e' x 3 = e x 3) : WA e' ne = WA e ne := by
  unfold WA
  rw [bts_c ne.toNat (fun i hi => by
    show decide (e' i 3 = 1) = decide (e i 3 = 1)
    rw [h i (by omega) (by omega)])]
/-- something was kept on both sides, then what is looked at or T changed -/
theorem INV_kept (h : INV w r y) (hr : rdE w w1) (hs : sm ckL (kepW w1) w2) (hLB : ∀ p, 0 ≤ p → p < 8 → 0 ≤ w2 6 0 p ∧ w2 6 0 p < ((2 ^ (w 1 0 6).toNat : Nat) : Int)) (hC : CS w1 r1 y1 (w 1 0 2) (w 1 0 3) (w 1 0 4) (w 1 0 6) (w 1 0 8) (m_c w) (m_e w2) (w 3 0) (w2 6 0) (pd (w 1 0 12)) (pl_ (w 6 0) (hlM w)) (pw (WA (m_e w) (w 1 0 8)) (hwM w)) (w 2 0) (w 1 0 0)) : INV w2 r1 y1 := by
  have hd := INV_d h
  obtain ⟨p1, p2, p3, p4⟩ := rd_par hr
  obtain ⟨⟨a0, a2, a3, a4, a6, a8, a12⟩, b2, b3, b4, b5, b6, b7⟩ := hr
  obtain ⟨k12, k7⟩ := kep_at (w := w1) (by rw [a12]; exact hd)
  rw [a12] at k12 k7
  have s2 : sm ((7, none) :: (1, some 12) :: ckL) w1 w2 := sm_tr (sm_w kep_sm (by decide)) (sm_w hs (by decide))
  have e12 : w2 1 0 12 = pd (w 1 0 12) := (hs 1 0 12 rfl).trans k12
  have e7 : ∀ k, w2 7 0 k = kepW w1 7 0 k := fun k => hs 7 0 k rfl
  have q0 : w2 1 0 0 = w 1 0 0 := (s2 1 0 0 rfl).trans a0
  have q2 : w2 1 0 2 = w 1 0 2 := (s2 1 0 2 rfl).trans a2
  have q3 : w2 1 0 3 = w 1 0 3 := (s2 1 0 3 rfl).trans a3
  have q4 : w2 1 0 4 = w 1 0 4 := (s2 1 0 4 rfl).trans a4
  have q6 : w2 1 0 6 = w 1 0 6 := (s2 1 0 6 rfl).trans a6
  have q8 : w2 1 0 8 = w 1 0 8 := (s2 1 0 8 rfl).trans a8
  have u2 : w2 2 0 = w 2 0 := (funext fun k => s2 2 0 k rfl).trans b2
  have u3 : w2 3 0 = w 3 0 := (funext fun k => s2 3 0 k rfl).trans b3
  have u4 : m_c w2 = m_c w := by
    rw [← p1]
    funext g k
    unfold m_c
    exact s2 4 0 _ rfl
  have hlE : ∀ i p, 0 ≤ i → i < pd (w 1 0 12) → 0 ≤ p → p < 8 → hlM w2 i p = pl_ (w 6 0) (hlM w) i p := fun i p a b c1 d1 => by
    unfold hlM pl_
    rw [e12, e7, k7 i p a b c1 (by omega), b6, b7]
  have hTE : ∀ i x, 0 ≤ i → i < pd (w 1 0 12) → 0 ≤ x → x < w 1 0 8 → w2 7 0 (22 * (w2 1 0 12 - 1 - i) + 8 + x) = if i = 0 then w 6 0 (8 + x) else w 7 0 (22 * (w 1 0 12 - 1 - (i - 1)) + 8 + x) := fun i x a b c1 d1 => by
    have hne := h.2.2.1.1.1.2.2.2.2.1
    rw [e12, e7, show 22 * (pd (w 1 0 12) - 1 - i) + 8 + x = 22 * (pd (w 1 0 12) - 1 - i) + (8 + x) by omega, k7 i (8 + x) a b (by omega) (by omega), b6, b7, show 22 * (w 1 0 12 - 1 - (i - 1)) + (8 + x) = 22 * (w 1 0 12 - 1 - (i - 1)) + 8 + x by omega]
  have hwE : ∀ i, 0 ≤ i → i < pd (w 1 0 12) → hwM w2 i = pw (WA (m_e w) (w 1 0 8)) (hwM w) i := fun i a b => by
    unfold hwM pw
    rw [q8]
    by_cases hi : i = 0
    · rw [if_pos hi]
      refine WA_c fun x c1 d1 => ?_
      rw [hTE i x a b c1 d1, if_pos hi]
      unfold m_e
      rw [if_pos rfl, show ((x.toNat : Nat) : Int) = x by omega]
    · rw [if_neg hi]
      refine WA_c fun x c1 d1 => ?_
      rw [hTE i x a b c1 d1, if_neg hi]
  have hbd : pd (w 1 0 12) ≤ w 1 0 12 + 1 := by unfold pd; split <;> omega
  refine ⟨fun p a b => ?_, fun i a b => ?_, ?_⟩
  · rw [q6]; exact hLB p a b
  · rw [e12] at b
    refine ⟨fun p c1 d1 => ?_, fun x c1 d1 => ?_⟩
    · rw [hlE i p a b c1 d1, q6]
      unfold pl_
      by_cases hi : i = 0
      · rw [if_pos hi]; exact h.1 p c1 d1
      · rw [if_neg hi]; exact (h.2.1 (i - 1) (by omega) (by omega)).1 p c1 d1
    · rw [q8] at d1
      rw [hTE i x a b c1 d1]
      by_cases hi : i = 0
      · rw [if_pos hi]
        have := (h.2.2.1.1.1.2.2.2.2.2.2 x c1 d1).2.2.2.1
        have e3 : m_e w x 3 = w 6 0 (8 + x) := by
          unfold m_e
          rw [if_pos rfl, show ((x.toNat : Nat) : Int) = x by omega]
        rw [← e3]; exact this
      · rw [if_neg hi]; exact (h.2.1 (i - 1) (by omega) (by omega)).2 x c1 d1
  · unfold CSm
    rw [q0, q2, q3, q4, q6, q8, u2, u3, u4, e12]
    have hC2 := CS_hig (hig_sm s2 rfl) hC
    exact ⟨hC2.1, HI_c (fun i a b => ⟨fun p c1 d1 => hlE i p a b c1 d1, hwE i a b⟩) hC2.2.1, hC2.2.2⟩
end PR
