/-! ===== both sides together: the text, undo(), mend(), check(), lay() ===== -/
section ST
variable {w w1 w2 : mm_M} {r y : Bool}
theorem CKR_hi {c e : Int → Int → Int} {f : Int → Int} {nv nc ne trap : Int} (hne : 0 ≤ ne ∧ ne ≤ 14) (he : ∀ x, 0 ≤ x → x < ne → e x 1 < 8) : ∀ (n : Nat) {lk : Int → Int} {h z : Int} {lk' : Int → Int}, (h = 2 → ∃ k, FT (MQ_ c e f lk nv nc ne) trap k ∧ k < ((MQ_ c e f lk nv nc ne).length : Int)) → CKR c e f nv nc ne trap n lk h z lk' → ∀ p, 8 ≤ p → lk' p = lk p
  | 0, lk, h, z, lk', _, a, p, hp => by rw [a.2]
  | n + 1, lk, h, z, lk', hF, a, p, hp => by
    by_cases h2 : h = 2
    · obtain ⟨k, s, f1, f2, f3, f4⟩ := a.2 h2
      by_cases hs : s < 0
      · rw [(f3 hs).2]
      · obtain ⟨h', g1, g2⟩ := f4 (by omega)
        obtain ⟨k2, f5, f6⟩ := hF h2
        have hk : k = k2 := FT_u f1 f5
        subst hk
        have hρ := (PT_ok (QW_MQ (c := c) (e := e) (f := f) (lk := lk) (nv := nv) (nc := nc) hne) (k.toNat + 1) k f1.1.1 f6 (by have := f1.1.1; omega)).2.1
        have := CKR_hi hne he n (fun q => by
          obtain ⟨k3, u1, u2, u3⟩ := g1
          refine ⟨k3, u1, Int.lt_of_not_ge fun o => ?_⟩
          have := u2 (by omega)
          omega) g2 p hp
        rw [this]
        exact lkU_hi hp (fun x hx => he x (hρ x hx).1 (hρ x hx).2)
    · rw [(a.1 h2).2]
theorem HOW_FT {c e : Int → Int → Int} {f : Int → Int} {nv trap z : Int} {Q : List (Int × Int)} (h : HOW c e f nv trap Q z) (hz : z = 2) : ∃ k, FT Q trap k ∧ k < (Q.length : Int) := by
  obtain ⟨k, u1, u2, u3⟩ := h
  refine ⟨k, u1, Int.lt_of_not_ge fun o => ?_⟩
  have := u2 (by omega)
  omega
/-- how much is looked at stays within the comparisons -/
theorem CKR_in {c e : Int → Int → Int} {f : Int → Int} {nv nc ne trap : Int} (hnc : 0 ≤ nc ∧ nc ≤ 8) : ∀ (n : Nat) {lk : Int → Int} {h z : Int} {lk' : Int → Int}, (∀ p, 0 ≤ p → p < 8 → 0 ≤ lk p ∧ lk p < ((2 ^ nc.toNat : Nat) : Int)) → CKR c e f nv nc ne trap n lk h z lk' → ∀ p, 0 ≤ p → p < 8 → 0 ≤ lk' p ∧ lk' p < ((2 ^ nc.toNat : Nat) : Int)
  | 0, lk, h, z, lk', hb, a, p, p0, p8 => by rw [a.2]; exact hb p p0 p8
  | n + 1, lk, h, z, lk', hb, a, p, p0, p8 => by
    by_cases h2 : h = 2
    · obtain ⟨k, s, f1, f2, f3, f4⟩ := a.2 h2
      by_cases hs : s < 0
      · rw [(f3 hs).2]; exact hb p p0 p8
      · obtain ⟨h', g1, g2⟩ := f4 (by omega)
        have hsr : 0 ≤ s ∧ s < ((2 ^ nc.toNat : Nat) : Int) := by
          rcases f2 with q | q
          · omega
          · exact ⟨by omega, q.1.2⟩
        refine CKR_in hnc n (fun q a b => ?_) g2 p p0 p8
        unfold lkU
        split
        · exact orN (by omega) (hb q a b) hsr
        · exact hb q a b
    · rw [(a.1 h2).2]; exact hb p p0 p8
theorem st_write {l : Int} : STEP K_X9_write K_X10_write [.inl l] := fun w r y h => by
  have hC := CS_of h
  have hX := hC.2.2
  have hn := hX.2.2
  refine ⟨(0, 0), r, y, pot_0 r y, ev_conseq (ev_c_write (l := l) hX) ?_⟩
  rintro a b1 w1 ⟨rfl, rfl, rfl⟩
  by_cases hb : l < 32 ∨ l > 126 ∨ w 1 0 0 = 200
  · rw [if_pos hb]
    refine ⟨rfl, _, rfl, ev_conseq (ev_m_write (l := l) hn) ?_⟩
    rintro a b2 w2 ⟨rfl, rfl, rfl⟩
    rw [if_pos hb]
    exact ⟨rfl, rfl, h⟩
  · rw [if_neg hb]
    have s1 : sm [(22, some 1), (23, none)] w (mm_up (mm_up w 23 0 (w 1 0 0) l) 22 0 1 (w 1 0 0 + 1)) := sm_up (sm_up sm_rf (Or.inl (by decide))) (Or.inr (by decide))
    have lo : lowS w (mm_up (mm_up w 23 0 (w 1 0 0) l) 22 0 1 (w 1 0 0 + 1)) := low_sm s1 rfl
    have e22 : mm_up (mm_up w 23 0 (w 1 0 0) l) 22 0 1 (w 1 0 0 + 1) 22 0 1 = w 1 0 0 + 1 := up_s
    have e23 : ∀ k, mm_up (mm_up w 23 0 (w 1 0 0) l) 22 0 1 (w 1 0 0 + 1) 23 0 k = if k = w 1 0 0 then l else w 23 0 k := fun k => (up_g rfl).trans up_at
    generalize mm_up (mm_up w 23 0 (w 1 0 0) l) 22 0 1 (w 1 0 0 + 1) = w1 at *
    refine ⟨rfl, _, rfl, ev_conseq (ev_m_write (l := l) (by rw [lo 1 0 0 (by decide)]; exact hn)) ?_⟩
    rintro a b2 w2 ⟨rfl, rfl, rfl⟩
    rw [lo 1 0 0 (by decide), if_neg hb]
    refine ⟨rfl, rfl, ?_⟩
    have s2 : sm [(2, none), (1, some 0)] w1 (mm_up (mm_up w1 2 0 (w 1 0 0) l) 1 0 0 (w 1 0 0 + 1)) := sm_up (sm_up sm_rf (Or.inl (by decide))) (Or.inr (by decide))
    have e0 : mm_up (mm_up w1 2 0 (w 1 0 0) l) 1 0 0 (w 1 0 0 + 1) 1 0 0 = w 1 0 0 + 1 := up_s
    have e2 : ∀ k, mm_up (mm_up w1 2 0 (w 1 0 0) l) 1 0 0 (w 1 0 0 + 1) 2 0 k = if k = w 1 0 0 then l else w 2 0 k := fun k => by rw [up_g rfl, up_at, lo 2 0 k (by decide)]
    generalize mm_up (mm_up w1 2 0 (w 1 0 0) l) 1 0 0 (w 1 0 0 + 1) = w2 at *
    have q := fun k (hk : frB [(2, none), (1, some 0)] 1 k = true) => (s2 1 0 k hk).trans (lo 1 0 k (by decide))
    have g3 : w2 3 0 = w 3 0 := funext fun k => (s2 3 0 k rfl).trans (lo 3 0 k (by decide))
    have g4 : w2 4 0 = w 4 0 := funext fun k => (s2 4 0 k rfl).trans (lo 4 0 k (by decide))
    have g5 : w2 5 0 = w 5 0 := funext fun k => (s2 5 0 k rfl).trans (lo 5 0 k (by decide))
    have g6 : w2 6 0 = w 6 0 := funext fun k => (s2 6 0 k rfl).trans (lo 6 0 k (by decide))
    have g7 : w2 7 0 = w 7 0 := funext fun k => (s2 7 0 k rfl).trans (lo 7 0 k (by decide))
    have hc : m_c w2 = m_c w := by funext g k; unfold m_c; rw [g4]
    have he : m_e w2 = m_e w := by funext g k; unfold m_e; rw [g5, g6]
    have hl : hlM w2 = hlM w := by unfold hlM; rw [g7, q 12 rfl]
    have hw : hwM w2 = hwM w := by unfold hwM; rw [g7, q 12 rfl, q 8 rfl]
    refine ⟨?_, ?_, ?_⟩
    · unfold LB; rw [g6, q 6 rfl]; exact h.1
    · unfold HB; rw [q 12 rfl, q 6 rfl, q 8 rfl, g7, hl]; exact h.2.1
    · unfold CSm
      rw [q 2 rfl, q 3 rfl, q 4 rfl, q 6 rfl, q 8 rfl, q 12 rfl, hc, he, g3, g6, hl, hw, e0]
      refine ⟨CB_eq (fun g j k hg => (hig_sm s2 rfl g j k (cbG_21 hg)).trans (cbG_fr s1 rfl g j k hg)) hC.1, HI_eq (hig_sm s2 rfl) (HI_sm s1 rfl (fun _ => rfl) hC.2.1), fun k a b => ?_, (s2 22 0 1 rfl).trans e22, by omega⟩
      rw [s2 23 0 k rfl, e23, e2]
      by_cases hk : k = w 1 0 0
      · rw [if_pos hk, if_pos hk]
      · rw [if_neg hk, if_neg hk]; exact hX.1 k a (by omega)
theorem st_wipe : STEP K_X9_wipe K_X10_wipe [] := fun w r y h => by
  have hC := CS_of h
  have hX := hC.2.2
  refine ⟨(0, 0), r, y, pot_0 r y, ev_conseq ev_c_wipe ?_⟩
  rintro a b1 w1 ⟨rfl, rfl, rfl⟩
  have s1 : sm [(22, some 1)] w (mm_up w 22 0 1 0) := sm_up sm_rf (Or.inr (by decide))
  have lo : lowS w (mm_up w 22 0 1 0) := low_sm s1 rfl
  have e22 : mm_up w 22 0 1 0 22 0 1 = 0 := up_s
  generalize mm_up w 22 0 1 0 = w1 at *
  refine ⟨rfl, _, rfl, ev_conseq ev_m_wipe ?_⟩
  rintro a b2 w2 ⟨rfl, rfl, rfl⟩
  refine ⟨by rw [lo 1 0 0 (by decide), hX.2.1], rfl, ?_⟩
  have s2 : sm [(1, some 0)] w1 (mm_up w1 1 0 0 0) := sm_up sm_rf (Or.inr (by decide))
  have e0 : mm_up w1 1 0 0 0 1 0 0 = 0 := up_s
  generalize mm_up w1 1 0 0 0 = w2 at *
  have q := fun k (hk : frB [(1, some 0)] 1 k = true) => (s2 1 0 k hk).trans (lo 1 0 k (by decide))
  have g2 : w2 2 0 = w 2 0 := funext fun k => (s2 2 0 k rfl).trans (lo 2 0 k (by decide))
  have g3 : w2 3 0 = w 3 0 := funext fun k => (s2 3 0 k rfl).trans (lo 3 0 k (by decide))
  have g4 : w2 4 0 = w 4 0 := funext fun k => (s2 4 0 k rfl).trans (lo 4 0 k (by decide))
  have g5 : w2 5 0 = w 5 0 := funext fun k => (s2 5 0 k rfl).trans (lo 5 0 k (by decide))
  have g6 : w2 6 0 = w 6 0 := funext fun k => (s2 6 0 k rfl).trans (lo 6 0 k (by decide))
  have g7 : w2 7 0 = w 7 0 := funext fun k => (s2 7 0 k rfl).trans (lo 7 0 k (by decide))
  have hc : m_c w2 = m_c w := by funext g k; unfold m_c; rw [g4]
  have he : m_e w2 = m_e w := by funext g k; unfold m_e; rw [g5, g6]
  have hl : hlM w2 = hlM w := by unfold hlM; rw [g7, q 12 rfl]
  have hw : hwM w2 = hwM w := by unfold hwM; rw [g7, q 12 rfl, q 8 rfl]
  refine ⟨?_, ?_, ?_⟩
  · unfold LB; rw [g6, q 6 rfl]; exact h.1
  · unfold HB; rw [q 12 rfl, q 6 rfl, q 8 rfl, g7, hl]; exact h.2.1
  · unfold CSm
    rw [q 2 rfl, q 3 rfl, q 4 rfl, q 6 rfl, q 8 rfl, q 12 rfl, hc, he, g3, g6, hl, hw, e0, g2]
    exact ⟨CB_eq (fun g j k hg => (hig_sm s2 rfl g j k (cbG_21 hg)).trans (cbG_fr s1 rfl g j k hg)) hC.1, HI_eq (hig_sm s2 rfl) (HI_sm s1 rfl (fun _ => rfl) hC.2.1), (fun k a b => by omega), (s2 22 0 1 rfl).trans e22, by omega⟩
theorem st_mend : STEP K_X9_mend K_X10_mend [] := fun w r y h => by
  have hC := CS_of h
  have hd := INV_d h
  have hm0 := INV_mP h
  refine ⟨nM y, r, true, pot_M r y, ev_conseq (ev_c_mend hC) ?_⟩
  rintro a b1 w1 ⟨rfl, lo, z0, z, rfl, hH, g1, g2⟩
  obtain ⟨hm, ec, ee, e3, e6⟩ := low_mP h lo
  refine ⟨rfl, z, rfl, ev_conseq (ev_m_mend hm (by rw [lo 1 0 12 (by decide)]; exact hd)) ?_⟩
  rintro a b2 w2 ⟨rfl, y0, y', rfl, gH, k1, k2⟩
  unfold mQ at gH k2
  rw [ec, ee, e3, e6, lo 1 0 4 (by decide), lo 1 0 6 (by decide), lo 1 0 8 (by decide), lo 1 0 3 (by decide)] at gH k2
  have hyz : y0 = z0 := HOW_u gH hH
  subst hyz
  by_cases h2 : y0 = 2
  · obtain ⟨k, f1, f2, f3, f4⟩ := g2 h2
    obtain ⟨k', u1, u2, u3, u4⟩ := k2 h2
    have hk : k' = k := FT_u u1 f1
    subst hk
    have hz : y' = z := SF_u u2 f2
    subst hz
    refine ⟨rfl, rfl, ?_⟩
    have hin := SF_in hm0.2.2.2.1.2 f2
    by_cases hneg : y' < 0
    · exact INV_q h lo (f3 hneg) (u3 hneg) rfl rfl (fun _ => rfl)
    · obtain ⟨w3, t1, t2, t3⟩ := u4 (by omega)
      have hC1 := f4 (by omega)
      obtain ⟨kk, ff5, ff6⟩ := HOW_FT hH h2
      have hkk := FT_u ff5 f1
      subst hkk
      have hρ := (PT_ok (QW_MQ (c := m_c w) (e := m_e w) (f := w 3 0) (lk := w 6 0) (nv := w 1 0 4) (nc := w 1 0 6) hm0.2.2.2.2.1) (kk.toNat + 1) kk f1.1.1 ff6 (by have := f1.1.1; omega)).2.1
      have lo3 : rdE w w3 := rdE_tr (rdE_low lo) (rdE_sm t1 rfl (fun _ => rfl))
      have hE := hm0.2.2.2.2.2.2.1
      have h5 : w2 5 0 = w 5 0 := funext fun k => by rw [t2 5 0 k rfl, kep_rd.2.2.2.2, lo3.2.2.2.2.1]
      have hsr : 0 ≤ y' ∧ y' < ((2 ^ (w 1 0 6).toNat : Nat) : Int) := by
        rcases f2 with q | q
        · omega
        · exact ⟨by omega, q.1.2⟩
      have h6 : ∀ k, 8 ≤ k → w2 6 0 k = w 6 0 k := fun k hk => by
        rw [t3]
        exact lkU_hi hk (fun x hx => by have := (hE x (hρ x hx).1 (hρ x hx).2).2.1; have := hm0.1; omega)
      refine INV_kept h lo3 (sm_w t2 (by decide)) (fun p a b => ?_) ?_
      · rw [t3]
        unfold lkU
        split
        · exact orN (by have := hm0.2.2.2.1; omega) (h.1 p a b) hsr
        · exact h.1 p a b
      · rw [m_e_hi h5 h6, t3]
        exact CS_hig (hig_sm t1 rfl) hC1
  · obtain ⟨rfl, hC1⟩ := g1 h2
    obtain ⟨rfl, s2⟩ := k1 h2
    exact ⟨rfl, rfl, INV_q h lo hC1 s2 rfl rfl (fun _ => rfl)⟩
theorem st_check {m : Int} : STEP K_X9_check K_X10_check [.inl m] := fun w r y h => by
  have hC := CS_of h
  have hd := INV_d h
  have hm0 := INV_mP h
  by_cases hv : 1 ≤ m ∧ m ≤ 9
  · refine ⟨nM y, r, true, pot_M r y, ev_conseq (ev_c_check hC hv) ?_⟩
    rintro a b1 w1 ⟨rfl, lo, z, h0, lk', rfl, hH, hK, hC1⟩
    obtain ⟨hm, ec, ee, e3, e6⟩ := low_mP h lo
    refine ⟨rfl, z, rfl, ev_conseq (ev_m_check (m := m) hm (by rw [lo 1 0 12 (by decide)]; exact hd)) ?_⟩
    rintro a b2 w2 ⟨rfl, -, k2⟩
    obtain ⟨z', h0', rfl, gH, s2, gK⟩ := k2 hv
    unfold mQ at gH
    rw [ec, ee, e3, e6, lo 1 0 4 (by decide), lo 1 0 6 (by decide), lo 1 0 8 (by decide), lo 1 0 3 (by decide)] at gH gK
    have hyz : h0' = h0 := HOW_u gH hH
    subst hyz
    obtain ⟨q1, q2⟩ := CKR_u _ gK hK
    refine ⟨by rw [q1], rfl, ?_⟩
    have hE := hm0.2.2.2.2.2.2.1
    have h5 : w2 5 0 = w 5 0 := funext fun k => by rw [s2 5 0 k rfl, kep_rd.2.2.2.2, lo 5 0 k (by decide)]
    have h6 : ∀ k, 8 ≤ k → w2 6 0 k = w 6 0 k := fun k hk => CKR_hi hm0.2.2.2.2.1 (fun x a b => by have := (hE x a b).2.1; have := hm0.1; omega) _ (fun q => HOW_FT hH q) gK k hk
    refine INV_kept h (rdE_low lo) s2 (CKR_in hm0.2.2.2.1 _ h.1 gK) ?_
    rw [m_e_hi h5 h6, q2]
    exact hC1
  · refine ⟨(0, 0), r, y, pot_0 r y, ev_conseq (ev_c_check0 hv) ?_⟩
    rintro a b1 w1 ⟨rfl, rfl, rfl⟩
    refine ⟨rfl, _, rfl, ev_conseq (ev_m_check hm0 hd) ?_⟩
    rintro a b2 w2 ⟨rfl, k1, -⟩
    obtain ⟨rfl, rfl⟩ := k1 hv
    exact ⟨rfl, rfl, h⟩
theorem st_undo : STEP K_X9_undo K_X10_undo [] := fun w r y h => by
  have hC := CS_of h
  have hd := INV_d h
  have hm0 := INV_mP h
  refine ⟨(0, 0), r, y, pot_0 r y, ev_conseq (ev_c_undo hC) ?_⟩
  rintro a b1 w1 ⟨rfl, g1, g2⟩
  by_cases h0 : w 1 0 12 = 0
  · obtain ⟨rfl, rfl⟩ := g1 h0
    refine ⟨rfl, _, rfl, ev_conseq (ev_m_undo hd) ?_⟩
    rintro a b2 w2 ⟨rfl, rfl, rfl⟩
    rw [if_pos h0, if_pos h0]
    exact ⟨rfl, rfl, h⟩
  · obtain ⟨rfl, lo, e8, hE⟩ := g2 h0
    refine ⟨rfl, _, rfl, ev_conseq (ev_m_undo (by rw [lo 1 0 12 (by decide)]; exact hd)) ?_⟩
    rintro a b2 w2 ⟨rfl, rfl, rfl⟩
    rw [lo 1 0 12 (by decide), if_neg h0, if_neg h0]
    refine ⟨rfl, rfl, ?_⟩
    have s2 : sm [(6, none), (1, some 12)] w1 (undW w1) := by
      unfold undW
      exact sm_arrw (sm_up sm_rf (Or.inr (by decide))) (by decide)
    have e12 : undW w1 1 0 12 = w 1 0 12 - 1 := by
      unfold undW
      rw [arrw_g rfl, up_s, lo 1 0 12 (by decide)]
    have e6 : ∀ k, 0 ≤ k → k < 22 → undW w1 6 0 k = w 7 0 (22 * (w 1 0 12 - 1) + k) := fun k a b => by
      unfold undW
      rw [arrw_in (by omega), lo 1 0 12 (by decide), lo 7 0 _ (by decide), show k - 0 = k by omega]
    generalize undW w1 = w2 at *
    have q := fun k (hk : frB [(6, none), (1, some 12)] 1 k = true) => (s2 1 0 k hk).trans (lo 1 0 k (by decide))
    have g2 : w2 2 0 = w 2 0 := funext fun k => (s2 2 0 k rfl).trans (lo 2 0 k (by decide))
    have g3 : w2 3 0 = w 3 0 := funext fun k => (s2 3 0 k rfl).trans (lo 3 0 k (by decide))
    have g4 : w2 4 0 = w 4 0 := funext fun k => (s2 4 0 k rfl).trans (lo 4 0 k (by decide))
    have g5 : w2 5 0 = w 5 0 := funext fun k => (s2 5 0 k rfl).trans (lo 5 0 k (by decide))
    have g7 : w2 7 0 = w 7 0 := funext fun k => (s2 7 0 k rfl).trans (lo 7 0 k (by decide))
    have hc : m_c w2 = m_c w := by funext g k; unfold m_c; rw [g4]
    have hl : hlM w2 = fun i => hlM w (i + 1) := by
      funext i p
      show w2 7 0 (22 * (w2 1 0 12 - 1 - i) + p) = w 7 0 (22 * (w 1 0 12 - 1 - (i + 1)) + p)
      rw [g7, e12, show w 1 0 12 - 1 - 1 - i = w 1 0 12 - 1 - (i + 1) by omega]
    have hw : hwM w2 = fun i => hwM w (i + 1) := by
      funext i
      show WA (fun x _ => w2 7 0 (22 * (w2 1 0 12 - 1 - i) + 8 + x)) (w2 1 0 8) = WA (fun x _ => w 7 0 (22 * (w 1 0 12 - 1 - (i + 1)) + 8 + x)) (w 1 0 8)
      rw [g7, e12, q 8 rfl, show w 1 0 12 - 1 - 1 - i = w 1 0 12 - 1 - (i + 1) by omega]
    have hB0 := h.2.1 0 (by omega) (by omega)
    have hne := hm0.2.2.2.2.1
    have hC2 := hE (m_e w2) (w2 6 0) (fun z k a b c1 d1 => ?_) (fun p a b => ?_)
    · refine ⟨fun p a b => ?_, fun i a b => ?_, ?_⟩
      · rw [q 6 rfl, e6 p a (by omega)]
        have := hB0.1 p a b
        unfold hlM at this
        rw [Int.sub_zero] at this
        exact this
      · rw [e12] at b
        rw [q 6 rfl, q 8 rfl, hl]
        have := h.2.1 (i + 1) (by omega) (by omega)
        refine ⟨this.1, fun x c1 d1 => ?_⟩
        rw [g7, e12, show w 1 0 12 - 1 - 1 - i = w 1 0 12 - 1 - (i + 1) by omega]
        exact this.2 x c1 d1
      · unfold CSm
        rw [q 0 rfl, q 2 rfl, q 3 rfl, q 4 rfl, q 6 rfl, q 8 rfl, e12, hc, g2, g3, hl, hw]
        exact CS_hig (hig_sm s2 rfl) hC2
    · by_cases hk : k = 3
      · subst hk
        rw [if_pos rfl, m_e3' a, e6 (8 + z) (by omega) (by omega)]
        have h7 := hB0.2 z a b
        rw [Int.sub_zero] at h7
        have := WA_bit (e := fun x _ => w 7 0 (22 * (w 1 0 12 - 1 - 0) + 8 + x)) hne ⟨a, b⟩ (by rw [Int.sub_zero]; exact h7)
        refine Eq.trans ?_ this.symm
        rw [Int.sub_zero]
        congr 1
        omega
      · rw [if_neg hk, m_e_ne hk, g5, m_e_ne hk]
    · rw [e6 p a (by omega)]
      unfold hlM
      rw [Int.sub_zero]
theorem st_lay : STEP K_X9_lay K_X10_lay [] := fun w r y h => by
  have hC := CS_of h
  have hd := INV_d h
  have hX := hC.2.2
  refine ⟨(0, 0), r, y, pot_0 r y, ev_conseq (ev_c_lay (hl := hlM w) (hw := hwM w) hX hC.2.1.1.2.2) ?_⟩
  rintro a b1 w1 ⟨rfl, s1, g1, g2⟩
  have lo : lowS w w1 := low_sm s1 rfl
  have hT : TX w1 (w 2 0) (w 1 0 0) := ⟨fun k => lo 2 0 k (by decide), lo 1 0 0 (by decide), hX.2.2⟩
  have hTW := told_TW (w 2 0) (w 1 0 0)
  by_cases hg : (told (w 2 0) (w 1 0 0)).1 = -4 ∧ (told (w 2 0) (w 1 0 0)).2.1.1 ≠ 0
  · obtain ⟨rfl, hC1, e7, e8⟩ := g1 hg
    refine ⟨rfl, _, rfl, ev_conseq (ev_m_lay hT) ?_⟩
    rintro a b2 w2 ⟨rfl, s2, k1, -⟩
    obtain ⟨rfl, hL⟩ := k1 hg
    refine ⟨rfl, rfl, ?_⟩
    generalize told (w 2 0) (w 1 0 0) = TT at *
    obtain ⟨F, T⟩ := TT
    dsimp only at hg hC1 hL hTW
    have hC2 := CS_hig (hig_sm s2 rfl) hC1
    have e7 : w2 21 0 7 = 1 := (s2 21 0 7 rfl).trans e7
    have e8 : w2 21 0 8 = 1 := (s2 21 0 8 rfl).trans e8
    obtain ⟨l2, l3, l4, l6, l8, lf, lc, le, ll, lt, l12⟩ := hL
    have g2' : w2 2 0 = w 2 0 := funext fun k => (s2 2 0 k rfl).trans (lo 2 0 k (by decide))
    have g0 : w2 1 0 0 = w 1 0 0 := (s2 1 0 0 rfl).trans (lo 1 0 0 (by decide))
    refine ⟨fun p a b => ?_, fun i a b => by rw [l12] at b; omega, ?_⟩
    · rw [ll p a b]
      exact ⟨Int.le_refl _, Int.ofNat_lt.mpr (Nat.two_pow_pos _)⟩
    · unfold CSm
      rw [l2, l3, l4, l6, l8, l12, g0, g2']
      refine ⟨CB_old (fun g k a b c1 d1 => lc g k a b c1 d1) (fun x k a b c1 d1 => ?_) (fun k a b => lf k a b) (fun p a b => ll p a b) e7 e8 hC2.1, ⟨hC2.2.1.1, fun i a b => by omega⟩, hC2.2.2⟩
      by_cases hk : k = 3
      · rw [hk, m_e3' a]; exact lt x a b
      · rw [m_e_ne hk]; exact le x k a b c1 d1
  · obtain ⟨rfl, s1'⟩ := g2 hg
    have hC1 : CS w1 (r, true) y (w 1 0 2) (w 1 0 3) (w 1 0 4) (w 1 0 6) (w 1 0 8) (m_c w) (m_e w) (w 3 0) (w 6 0) (w 1 0 12) (hlM w) (hwM w) (w 2 0) (w 1 0 0) := ⟨CB_eq (cbG_fr s1' rfl) hC.1, HI_sm s1' rfl (fun _ => rfl) hC.2.1, CX_sm hC.2.2 s1' (fun _ => rfl) rfl⟩
    refine ⟨rfl, _, rfl, ev_conseq (ev_m_lay hT) ?_⟩
    rintro a b2 w2 ⟨rfl, s2, -, k2⟩
    obtain ⟨rfl, s3⟩ := k2 hg
    exact ⟨rfl, rfl, INV_q h lo hC1 s3 rfl rfl (fun _ => rfl)⟩
end ST
