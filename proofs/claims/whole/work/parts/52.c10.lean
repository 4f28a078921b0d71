/-! ===== the class: a way ===== -/
theorem hb_or {a b g : Int} (ha : 0 ≤ a ∧ a < 256) (hb_ : 0 ≤ b ∧ b < 256) : (0 ≤ mm_or a b ∧ mm_or a b < 256) ∧ (hb (mm_or a b) g ↔ hb a g ∨ hb b g) := by
  have h := or_in ha hb_
  refine ⟨h, ?_⟩
  have h2 := bb_or (x := a.toNat) (y := b.toNat) (by omega) (by omega)
  rw [show ((a.toNat : Nat) : Int) = a by omega, show ((b.toNat : Nat) : Int) = b by omega] at h2
  rw [hb_tb h.1, hb_tb ha.1, hb_tb hb_.1, h2]
  show (a.toNat ||| b.toNat).testBit g.toNat = true ↔ _
  rw [Nat.testBit_or, Bool.or_eq_true]
theorem hb_2 {b p : Int} (h : 0 ≤ b ∧ b < 8) (hp : 0 ≤ p ∧ p < 8) : hb ((2 ^ b.toNat : Nat) : Int) p ↔ p = b := by
  have := (show ∀ i : Fin 8, ∀ j : Fin 8, (((2 ^ i.val : Nat) : Int) / ((2 ^ j.val : Nat) : Int) % 2 = 1 ↔ j = i) by decide +kernel) ⟨b.toNat, by omega⟩ ⟨p.toNat, by omega⟩
  show ((2 ^ b.toNat : Nat) : Int) / ((2 ^ p.toNat : Nat) : Int) % 2 = 1 ↔ _
  rw [this, Fin.mk.injEq]
  omega
/-- the way is this row of edges; the last one first -/
def RW (w : mm_M) (ρ : List Int) : Prop := w 66 0 5 = ρ.length ∧ ρ.length ≤ 2048 ∧ ∀ j : Int, 0 ≤ j → j < ρ.length → w 67 0 (ρ.length - 1 - j) = ρ.getD j.toNat 0
theorem RW_mem {w : mm_M} {ρ : List Int} (h : RW w ρ) {x : Int} : x ∈ ρ ↔ ∃ j : Int, (0 ≤ j ∧ j < (ρ.length : Int)) ∧ w 67 0 j = x := by
  obtain ⟨h1, h2, h3⟩ := h
  constructor
  · intro hx
    obtain ⟨i, hi, he⟩ := List.getElem_of_mem hx
    refine ⟨(ρ.length : Int) - 1 - i, by omega, ?_⟩
    rw [h3 i (by omega) (by omega), List.getD_eq_getElem?_getD, show (i : Int).toNat = i from rfl, List.getElem?_eq_getElem hi, he]
    rfl
  · rintro ⟨j, hj, rfl⟩
    have := h3 (ρ.length - 1 - j) (by omega) (by omega)
    rw [show (ρ.length : Int) - 1 - (ρ.length - 1 - j) = j by omega] at this
    rw [this, List.getD_eq_getElem?_getD, List.getElem?_eq_getElem (by omega)]
    exact List.getElem_mem _
section MC
variable {r : Bool × Bool} {y : Bool} {w : mm_M} {np trap nv nc ne : Int} {c e : Int → Int → Int} {f : Int → Int}
set_option maxRecDepth 100000 in
theorem ev_c_places {ρ : List Int} (hO : PO np trap nv nc ne c e) (hP : PC w np trap nv nc ne c e f) (hR : RW w ρ) (hρ : ∀ x ∈ ρ, 0 ≤ x ∧ x < ne) : mm_Ev K_X8_places (0, 0) [.inr (some (66, 0))] (PH r y) w (fun a b' w' => b' = PH r y ∧ w' = w ∧ ∃ z, a = some (.inl z) ∧ (0 ≤ z ∧ z < 256) ∧ ∀ p, 0 ≤ p → p < 8 → (hb z p ↔ onP e ρ p = true)) := by
  refine ev_intro ok_X8_places mo_X8_places (Nat.le_of_ble_eq_true rfl) (fun hrg has => ?_)
  have hnp := hO.1
  have hne := hO.2.2.2.2.1
  have hm := hP.2.2.2
  have h5 := hR.1
  have hlen := hR.2.1
  refine k_gp rfl rfl trivial ?_
  refine mm_loop (σ := Int) (ρ.length) (fun i z => (0 ≤ i ∧ i ≤ ρ.length) ∧ (0 ≤ z ∧ z < 256) ∧ ∀ p, 0 ≤ p → p < 8 → (hb z p ↔ p = 0 ∨ ∃ j, (0 ≤ j ∧ j < i) ∧ e (w 67 0 j) 1 = p)) (fun i z => mm_Wk K_X8_places (0, 0) 4 [some (.inr (some (66, 0))), some (.inl z), some (.inl i)] [] (PH r y) w (fun a b' w' => b' = PH r y ∧ w' = w ∧ ∃ z, a = some (.inl z) ∧ (0 ≤ z ∧ z < 256) ∧ ∀ p, 0 ≤ p → p < 8 → (hb z p ↔ onP e ρ p = true))) ?_ ?_ 0 1 ⟨by omega, by omega, fun p a b => ?_⟩
  · rintro i z q1 ⟨q2, q3, q4⟩ ih
    have hx := hρ _ ((RW_mem hR).mpr ⟨i, ⟨q2.1, q1⟩, rfl⟩)
    have hE := (hO.2.2.2.2.2.2 _ hx.1 hx.2).2.1
    have m1 := hm (w 67 0 i) 1 hx.1 hx.2 (by decide) (by decide)
    have h28 : 2 ^ (e (w 67 0 i) 1).toNat ≤ 2 ^ 7 := Nat.pow_le_pow_right (by decide) (by omega)
    refine k_gp rfl rfl trivial ?_
    rw [h5]
    refine k_brf rfl (by omega) ?_
    refine k_gp rfl rfl (by simp only [true_and, mm_fits]; omega) ?_
    rw [m1, shl1 (by omega)]
    have ho := fun p => hb_or (a := z) (b := ((2 ^ (e (w 67 0 i) 1).toNat : Nat) : Int)) (g := p) q3 ⟨Int.natCast_nonneg _, Int.ofNat_lt.mpr (Nat.lt_of_le_of_lt h28 (by decide))⟩
    refine ih _ ⟨by omega, (ho 0).1, fun p a b => ?_⟩
    rw [(ho p).2, q4 p a b, hb_2 (by omega) ⟨a, b⟩]
    constructor
    · rintro ((p1 | ⟨j, p1, p2⟩) | p1)
      · exact Or.inl p1
      · exact Or.inr ⟨j, by omega, p2⟩
      · exact Or.inr ⟨i, by omega, p1.symm⟩
    · rintro (p1 | ⟨j, p1, p2⟩)
      · exact Or.inl (Or.inl p1)
      · by_cases hj : j = i
        · subst hj; exact Or.inr p2.symm
        · exact Or.inl (Or.inr ⟨j, by omega, p2⟩)
  · rintro i z q1 ⟨q2, q3, q4⟩
    have hi : i = ρ.length := by omega
    subst hi
    refine k_gp rfl rfl trivial ?_
    rw [h5]
    refine k_brt rfl (by omega) ?_
    refine k_gp rfl rfl trivial ?_
    refine k_ret rfl trivial ⟨rfl, rfl, z, rfl, q3, fun p a b => ?_⟩
    rw [q4 p a b]
    unfold onP
    rw [Bool.or_eq_true, decide_eq_true_eq, List.any_eq_true]
    refine or_congr Iff.rfl ?_
    constructor
    · rintro ⟨j, p1, p2⟩
      exact ⟨w 67 0 j, (RW_mem hR).mpr ⟨j, p1, rfl⟩, decide_eq_true p2⟩
    · rintro ⟨x, p1, p2⟩
      obtain ⟨j, p3, p4⟩ := (RW_mem hR).mp p1
      exact ⟨j, p3, by rw [p4]; exact of_decide_eq_true p2⟩
  · have := hb_2 (b := 0) (p := p) (by decide) ⟨a, b⟩
    rw [show ((2 ^ (0 : Int).toNat : Nat) : Int) = 1 from rfl] at this
    rw [this]
    exact ⟨Or.inl, fun z => z.resolve_right (fun ⟨j, p1, _⟩ => by omega)⟩
end MC
