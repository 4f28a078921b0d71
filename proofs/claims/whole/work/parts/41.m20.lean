/-! ===== the reference: check(), count() ===== -/
/-- rounds of mending: how it stands, how it ends and what is looked at then -/
def CKR (c e : Int → Int → Int) (f : Int → Int) (nv nc ne trap : Int) : Nat → (Int → Int) → Int → Int → (Int → Int) → Prop
  | 0, lk, h, z, lk' => z = h ∧ lk' = lk
  | n + 1, lk, h, z, lk' => (h ≠ 2 → z = h ∧ lk' = lk) ∧ (h = 2 → ∃ k s, FT (MQ_ c e f lk nv nc ne) trap k ∧ SF nc (fun s => EN c e f (fun p => mm_or (lk p) s) nv nc (PT (MQ_ c e f lk nv nc ne) k)) s ∧ (s < 0 → z = 3 ∧ lk' = lk) ∧ (0 ≤ s → ∃ h', HOW c e f nv trap (MQ_ c e f (lkU e lk (PT (MQ_ c e f lk nv nc ne) k) s) nv nc ne) h' ∧ CKR c e f nv nc ne trap n (lkU e lk (PT (MQ_ c e f lk nv nc ne) k) s) h' z lk'))
theorem CKR_u {c e : Int → Int → Int} {f : Int → Int} {nv nc ne trap : Int} : ∀ (n : Nat) {lk : Int → Int} {h z : Int} {lk' : Int → Int} {z2 : Int} {lk2 : Int → Int}, CKR c e f nv nc ne trap n lk h z lk' → CKR c e f nv nc ne trap n lk h z2 lk2 → z = z2 ∧ lk' = lk2
  | 0, lk, h, z, lk', z2, lk2, a, b => ⟨a.1.trans b.1.symm, a.2.trans b.2.symm⟩
  | n + 1, lk, h, z, lk', z2, lk2, a, b => by
    by_cases hh : h = 2
    · obtain ⟨k, s, a1, a2, a3, a4⟩ := a.2 hh
      obtain ⟨k', s', b1, b2, b3, b4⟩ := b.2 hh
      have := FT_u a1 b1
      subst this
      have := SF_u a2 b2
      subst this
      rcases Int.lt_or_le s 0 with q | q
      · exact ⟨(a3 q).1.trans (b3 q).1.symm, (a3 q).2.trans (b3 q).2.symm⟩
      · obtain ⟨h1, a5, a6⟩ := a4 q
        obtain ⟨h2, b5, b6⟩ := b4 q
        have := HOW_u a5 b5
        subst this
        exact CKR_u n a6 b6
    · exact ⟨(a.1 hh).1.trans (b.1 hh).1.symm, (a.1 hh).2.trans (b.1 hh).2.symm⟩
/-- what is looked at, counted -/
def tot (lk : Int → Int) : Nat → Int
  | 0 => 0
  | k + 1 => tot lk k + pop8 (lk k) 8
section ME
variable {r y : Bool} {w : mm_M}
theorem ev_m_check {m : Int} (h : mP w) (hc : 0 ≤ w 1 0 12 ∧ w 1 0 12 ≤ 6) : mm_Ev K_X10_check (0, 0) [.inr (some (1, 0)), .inl m] (PH r y) w (fun a b' w' => b' = PH r y ∧ (¬ (1 ≤ m ∧ m ≤ 9) → a = some (.inl (-1)) ∧ w' = w) ∧ ((1 ≤ m ∧ m ≤ 9) → ∃ z h0, a = some (.inl z) ∧ HOW (m_c w) (m_e w) (w 3 0) (w 1 0 4) (w 1 0 3) (mQ w) h0 ∧ sm ((6, none) :: ptL) (kepW w) w' ∧ CKR (m_c w) (m_e w) (w 3 0) (w 1 0 4) (w 1 0 6) (w 1 0 8) (w 1 0 3) m.toNat (w 6 0) h0 z (w' 6 0))) := by
  refine ev_intro ok_X10_check mo_X10_check (Nat.le_of_ble_eq_true rfl) (fun hrg has => ?_)
  trace_state
  sorry
theorem ev_m_count {i : Int} (h : mP w) : mm_Ev K_X10_count (0, 0) [.inr (some (1, 0)), .inl i] (PH r y) w (fun a b' w' => b' = PH r y ∧ sm ptL w w' ∧ a = some (.inl (if i = 0 then w 1 0 2 else if i = 1 then w 1 0 3 else if i = 2 then w 1 0 4 else if i = 3 then w 1 0 6 else if i = 4 then w 1 0 8 else if i = 5 then tot (w 6 0) (w 1 0 2).toNat else if i = 6 then (mQ w).length else if i = 7 then w 1 0 12 else if i = 8 then w 1 0 0 else -1))) := by
  refine ev_intro ok_X10_count mo_X10_count (Nat.le_of_ble_eq_true rfl) (fun hrg has => ?_)
  trace_state
  sorry
end ME
