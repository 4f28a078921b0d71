/-! ===== both sides together: what holds between calls ===== -/
/-- what was looked at, i changes ago, in the reference -/
def hlM (w : mm_M) : Int → Int → Int := fun i p => w 7 0 (22 * (w 1 0 12 - 1 - i) + p)
/-- T of all edges, i changes ago, in the reference -/
def hwM (w : mm_M) : Int → Int := fun i => WA (fun x _ => w 7 0 (22 * (w 1 0 12 - 1 - i) + 8 + x)) (w 1 0 8)
/-- the class's state is that of the reference -/
def CSm (w : mm_M) (r : Bool × Bool) (y : Bool) : Prop := CS w r y (w 1 0 2) (w 1 0 3) (w 1 0 4) (w 1 0 6) (w 1 0 8) (m_c w) (m_e w) (w 3 0) (w 6 0) (w 1 0 12) (hlM w) (hwM w) (w 2 0) (w 1 0 0)
def LB (w : mm_M) : Prop := ∀ p, 0 ≤ p → p < 8 → 0 ≤ w 6 0 p ∧ w 6 0 p < ((2 ^ (w 1 0 6).toNat : Nat) : Int)
def HB (w : mm_M) : Prop := ∀ i, 0 ≤ i → i < w 1 0 12 → (∀ p, 0 ≤ p → p < 8 → 0 ≤ hlM w i p ∧ hlM w i p < ((2 ^ (w 1 0 6).toNat : Nat) : Int)) ∧ ∀ x, 0 ≤ x → x < w 1 0 8 → 0 ≤ w 7 0 (22 * (w 1 0 12 - 1 - i) + 8 + x) ∧ w 7 0 (22 * (w 1 0 12 - 1 - i) + 8 + x) ≤ 1
def INV (w : mm_M) (r : Bool × Bool) (y : Bool) : Prop := LB w ∧ HB w ∧ CSm w r y
theorem INV_mP {w : mm_M} {r : Bool × Bool} {y : Bool} (h : INV w r y) : mP w := by
  obtain ⟨a1, a2, a3, a4, a5, a6, a7⟩ := h.2.2.1.1.1
  exact ⟨a1, a2, a3, a4, a5, a6, a7, h.1⟩
theorem INV_d {w : mm_M} {r : Bool × Bool} {y : Bool} (h : INV w r y) : 0 ≤ w 1 0 12 ∧ w 1 0 12 ≤ 6 := h.2.2.2.1.1.2.1
/-- what the reference's state is read from -/
def rdE (w w' : mm_M) : Prop := (w' 1 0 0 = w 1 0 0 ∧ w' 1 0 2 = w 1 0 2 ∧ w' 1 0 3 = w 1 0 3 ∧ w' 1 0 4 = w 1 0 4 ∧ w' 1 0 6 = w 1 0 6 ∧ w' 1 0 8 = w 1 0 8 ∧ w' 1 0 12 = w 1 0 12) ∧ (w' 2 0 = w 2 0 ∧ w' 3 0 = w 3 0 ∧ w' 4 0 = w 4 0 ∧ w' 5 0 = w 5 0 ∧ w' 6 0 = w 6 0 ∧ w' 7 0 = w 7 0)
theorem rdE_low {w w' : mm_M} (h : lowS w w') : rdE w w' := ⟨⟨h 1 0 0 (by decide), h 1 0 2 (by decide), h 1 0 3 (by decide), h 1 0 4 (by decide), h 1 0 6 (by decide), h 1 0 8 (by decide), h 1 0 12 (by decide)⟩, funext fun k => h 2 0 k (by decide), funext fun k => h 3 0 k (by decide), funext fun k => h 4 0 k (by decide), funext fun k => h 5 0 k (by decide), funext fun k => h 6 0 k (by decide), funext fun k => h 7 0 k (by decide)⟩
theorem rdE_sm {w w' : mm_M} {L : List (Nat × Option Int)} (hs : sm L w w') (h1 : (frB L 1 0 && frB L 1 2 && frB L 1 3 && frB L 1 4 && frB L 1 6 && frB L 1 8 && frB L 1 12) = true) (h2 : ∀ k, (frB L 2 k && frB L 3 k && frB L 4 k && frB L 5 k && frB L 6 k && frB L 7 k) = true) : rdE w w' := by
  simp only [Bool.and_eq_true] at h1 h2
  obtain ⟨⟨⟨⟨⟨⟨a0, a2⟩, a3⟩, a4⟩, a6⟩, a8⟩, a12⟩ := h1
  exact ⟨⟨hs 1 0 0 a0, hs 1 0 2 a2, hs 1 0 3 a3, hs 1 0 4 a4, hs 1 0 6 a6, hs 1 0 8 a8, hs 1 0 12 a12⟩, funext fun k => hs 2 0 k (h2 k).1.1.1.1.1, funext fun k => hs 3 0 k (h2 k).1.1.1.1.2, funext fun k => hs 4 0 k (h2 k).1.1.1.2, funext fun k => hs 5 0 k (h2 k).1.1.2, funext fun k => hs 6 0 k (h2 k).1.2, funext fun k => hs 7 0 k (h2 k).2⟩
theorem rdE_tr {w w1 w2 : mm_M} (h1 : rdE w w1) (h2 : rdE w1 w2) : rdE w w2 := by
  obtain ⟨⟨a0, a2, a3, a4, a6, a8, a12⟩, b2, b3, b4, b5, b6, b7⟩ := h1
  obtain ⟨⟨c0, c2, c3, c4, c6, c8, c12⟩, d2, d3, d4, d5, d6, d7⟩ := h2
  exact ⟨⟨c0.trans a0, c2.trans a2, c3.trans a3, c4.trans a4, c6.trans a6, c8.trans a8, c12.trans a12⟩, d2.trans b2, d3.trans b3, d4.trans b4, d5.trans b5, d6.trans b6, d7.trans b7⟩
theorem rd_par {w w' : mm_M} (h : rdE w w') : m_c w' = m_c w ∧ m_e w' = m_e w ∧ hlM w' = hlM w ∧ hwM w' = hwM w := by
  obtain ⟨⟨a0, a2, a3, a4, a6, a8, a12⟩, b2, b3, b4, b5, b6, b7⟩ := h
  refine ⟨?_, ?_, ?_, ?_⟩
  · funext g k; unfold m_c; rw [b4]
  · funext g k; unfold m_e; rw [b5, b6]
  · unfold hlM; rw [b7, a12]
  · unfold hwM; rw [b7, a12, a8]
section PR
variable {np trap nv nc ne : Int} {c c' e e' : Int → Int → Int} {f f' lk lk' : Int → Int} {d : Int} {hl hl' : Int → Int → Int} {hw hw' : Int → Int} {t t' : Int → Int} {n : Int} {w w' : mm_M} {r : Bool × Bool} {y : Bool}
/-- the class's memory stays -/
def higS (w w' : mm_M) : Prop := ∀ g j k, 21 ≤ g → w' g j k = w g j k
theorem hig_sm {L : List (Nat × Option Int)} (hs : sm L w w') (h : L.all (fun q => Nat.ble q.1 20) = true) : higS w w' := fun g j k hg => by
  refine hs g j k ?_
  unfold frB
  rw [List.all_eq_true] at h ⊢
  intro q hq
  have h1 := Nat.le_of_ble_eq_true (h q hq)
  rw [beqN (show q.1 ≠ g by omega)]
  rfl
theorem cbG_21 {g : Nat} (h : cbG g = true) : 21 ≤ g := by
  unfold cbG at h
  rw [Bool.or_eq_true] at h
  rcases h with h | h
  · rw [Nat.eq_of_beq_eq_true h]; decide
  · rw [Bool.and_eq_true, Bool.and_eq_true] at h
    have := Nat.le_of_ble_eq_true h.1.1
    omega
theorem HI_eq (hq : higS w w') (h : HI w d hl hw) : HI w' d hl hw := by
  unfold HI at h ⊢
  simp only [hq 43 0 2 (by decide), hq 43 0 3 (by decide), fun j k => hq 45 j k (by decide), fun k => hq 46 0 k (by decide)]
  exact h
theorem CX_eq (hq : higS w w') (h : CX w t n) : CX w' t n := ⟨fun k a b => (hq 23 0 k (by decide)).trans (h.1 k a b), (hq 22 0 1 (by decide)).trans h.2.1, h.2.2⟩
theorem CS_hig (hq : higS w w') (h : CS w r y np trap nv nc ne c e f lk d hl hw t n) : CS w' r y np trap nv nc ne c e f lk d hl hw t n := ⟨CB_eq (fun g j k hg => hq g j k (cbG_21 hg)) h.1, HI_eq hq h.2.1, CX_eq hq h.2.2⟩
theorem HI_c (hh : ∀ i, 0 ≤ i → i < d → (∀ p, 0 ≤ p → p < 8 → hl' i p = hl i p) ∧ hw' i = hw i) (h : HI w d hl hw) : HI w d hl' hw' := by
  obtain ⟨h1, h2⟩ := h
  refine ⟨h1, fun i a b => ?_⟩
  obtain ⟨q1, q2⟩ := h2 i a b
  obtain ⟨o1, o2⟩ := hh i a b
  exact ⟨fun p a b => by rw [o1 p a b]; exact q1 p a b, by rw [o2]; exact q2⟩
theorem CX_c (hh : ∀ k, 0 ≤ k → k < n → t' k = t k) (h : CX w t n) : CX w t' n := ⟨fun k a b => by rw [hh k a b]; exact h.1 k a b, h.2⟩
/-- told alike, with both searches old -/
theorem CB_old (hc : cAg nc c c') (he : eAg ne e e') (hf : fAg nv f f') (hl_ : ∀ p, 0 ≤ p → p < 8 → lk' p = lk p) (e7 : w 21 0 7 = 1) (e8 : w 21 0 8 = 1) (h : CB w r y np trap nv nc ne c e f lk) : CB w r y np trap nv nc ne c' e' f' lk' := by
  obtain ⟨⟨a1, a2, a3, a4⟩, b1, ⟨c1, c2⟩, d1, d2, d3⟩ := h
  refine ⟨⟨PO_c hc he a1, PC_c hc he hf a2, MM_c hc hf a3, fun p a b => by rw [hl_ p a b]; exact a4 p a b⟩, b1, ⟨c1, fun z => by rw [e7] at z; exact absurd z (by decide)⟩, d1, fun z => ?_, fun z => by rw [e8] at z; exact absurd z (by decide)⟩
  obtain ⟨q1, q2, q3⟩ := d2 z
  exact ⟨q1, FS_c hc hf q2, FF_c hc (fun x k a b p q _ => he x k a b p q) a1 q3⟩
end PR
section PR
variable {w w1 w2 : mm_M} {r r1 : Bool × Bool} {y y1 : Bool}
/-- a call that asks: the class's state stays, what the reference is read from stays -/
theorem INV_q {L : List (Nat × Option Int)} (h : INV w r y) (lo : lowS w w1) (hC : CS w1 r1 y1 (w 1 0 2) (w 1 0 3) (w 1 0 4) (w 1 0 6) (w 1 0 8) (m_c w) (m_e w) (w 3 0) (w 6 0) (w 1 0 12) (hlM w) (hwM w) (w 2 0) (w 1 0 0)) (hs : sm L w1 w2) (hL : L.all (fun q => Nat.ble q.1 20) = true) (h1 : (frB L 1 0 && frB L 1 2 && frB L 1 3 && frB L 1 4 && frB L 1 6 && frB L 1 8 && frB L 1 12) = true) (h2 : ∀ k, (frB L 2 k && frB L 3 k && frB L 4 k && frB L 5 k && frB L 6 k && frB L 7 k) = true) : INV w2 r1 y1 := by
  have hr := rdE_tr (rdE_low lo) (rdE_sm hs h1 h2)
  obtain ⟨p1, p2, p3, p4⟩ := rd_par hr
  obtain ⟨⟨a0, a2, a3, a4, a6, a8, a12⟩, b2, b3, b4, b5, b6, b7⟩ := hr
  refine ⟨?_, ?_, ?_⟩
  · unfold LB
    rw [b6, a6]
    exact h.1
  · unfold HB
    rw [a12, a6, a8, b7, p3]
    exact h.2.1
  · unfold CSm
    rw [a0, a2, a3, a4, a6, a8, a12, p1, p2, p3, p4, b2, b3, b6]
    exact CS_hig (hig_sm hs hL) hC
/-- the class at the memory that it changed: what the reference is read from is that of before -/
theorem low_mP (h : INV w r y) (lo : lowS w w1) : mP w1 ∧ m_c w1 = m_c w ∧ m_e w1 = m_e w ∧ w1 3 0 = w 3 0 ∧ w1 6 0 = w 6 0 := by
  have hr := rdE_low lo
  obtain ⟨p1, p2, p3, p4⟩ := rd_par hr
  have hm := INV_mP h
  obtain ⟨⟨a0, a2, a3, a4, a6, a8, a12⟩, b2, b3, b4, b5, b6, b7⟩ := hr
  refine ⟨?_, p1, p2, b3, b6⟩
  unfold mP
  rw [a2, a3, a4, a6, a8, p1, p2, b6]
  exact hm
end PR
