/-! ===== what stays of the memory ===== -/
theorem up_g {w : mm_M} {g g' : Nat} {j k v j' k' : Int} (h : Nat.beq g' g = false) : mm_up w g j k v g' j' k' = w g' j' k' := by
  unfold mm_up
  refine if_neg fun q => ?_
  rw [q.1, Nat.beq_refl] at h
  cases h
theorem up_s {w : mm_M} {g : Nat} {j k v : Int} : mm_up w g j k v g j k = v := by
  unfold mm_up
  exact if_pos ⟨rfl, rfl, rfl⟩
theorem up_k {w : mm_M} {g : Nat} {j k v j' k' : Int} (h : k' ≠ k) : mm_up w g j k v g j' k' = w g j' k' := by
  unfold mm_up
  exact if_neg fun q => h q.2.2
theorem up_j {w : mm_M} {g : Nat} {j k v j' k' : Int} (h : j' ≠ j) : mm_up w g j k v g j' k' = w g j' k' := by
  unfold mm_up
  exact if_neg fun q => h q.2.1
theorem up_at {w : mm_M} {g : Nat} {j k v k' : Int} : mm_up w g j k v g j k' = if k' = k then v else w g j k' := by
  unfold mm_up
  by_cases h : k' = k
  · rw [if_pos ⟨rfl, rfl, h⟩, if_pos h]
  · rw [if_neg (fun q => h q.2.2), if_neg h]
/-- a place of the memory is none of those listed (a group, or a field of it) -/
def frB (L : List (Nat × Option Int)) (g : Nat) (k : Int) : Bool := L.all fun q => !(Nat.beq q.1 g && (match q.2 with
  | none => true
  | some k' => decide (k' = k)))
/-- all but the places listed stays -/
def sm (L : List (Nat × Option Int)) (w w' : mm_M) : Prop := ∀ g j k, frB L g k = true → w' g j k = w g j k
theorem sm_rf {L : List (Nat × Option Int)} {w : mm_M} : sm L w w := fun _ _ _ _ => rfl
theorem sm_tr {L : List (Nat × Option Int)} {w w1 w2 : mm_M} (h1 : sm L w w1) (h2 : sm L w1 w2) : sm L w w2 := fun g j k h => (h2 g j k h).trans (h1 g j k h)
theorem frB_sub {L L' : List (Nat × Option Int)} (h : ∀ q ∈ L, q ∈ L' ∨ (q.1, none) ∈ L') {g : Nat} {k : Int} (hf : frB L' g k = true) : frB L g k = true := by
  unfold frB at hf ⊢
  rw [List.all_eq_true] at hf ⊢
  intro q hq
  rcases h q hq with h1 | h1
  · exact hf q h1
  · have := hf _ h1
    have h2 : Nat.beq q.1 g = false := by
      cases hb : Nat.beq q.1 g with
      | false => rfl
      | true => simp [hb] at this
    simp [h2]
theorem sm_w {L L' : List (Nat × Option Int)} {w w' : mm_M} (h : sm L w w') (hs : ∀ q ∈ L, q ∈ L' ∨ (q.1, none) ∈ L') : sm L' w w' := fun g j k hf => h g j k (frB_sub hs hf)
theorem sm_up {L : List (Nat × Option Int)} {w w' : mm_M} {g : Nat} {j k v : Int} (h : sm L w w') (hm : (g, none) ∈ L ∨ (g, some k) ∈ L) : sm L w (mm_up w' g j k v) := by
  intro g' j' k' hf
  rw [← h g' j' k' hf]
  unfold mm_up
  refine if_neg fun q => ?_
  unfold frB at hf
  rw [List.all_eq_true] at hf
  obtain ⟨rfl, -, rfl⟩ := q
  rcases hm with hm | hm
  · have := hf _ hm
    simp [Nat.beq_refl] at this
  · have := hf _ hm
    simp [Nat.beq_refl] at this
/-- n elements from a on are written -/
def arrw (w : mm_M) (g : Nat) (a n : Int) (f : Int → Int) : mm_M := fun g' j' k' => if g' = g ∧ j' = 0 ∧ a ≤ k' ∧ k' < a + n then f (k' - a) else w g' j' k'
theorem arrw_0 {w : mm_M} {g : Nat} {a : Int} {f : Int → Int} : arrw w g a 0 f = w := by
  funext g' j' k'
  unfold arrw
  exact if_neg fun q => by omega
theorem arrw_s {w : mm_M} {g : Nat} {a i k v : Int} {f : Int → Int} (hi : 0 ≤ i) (hk : k = a + i) (hv : v = f i) : mm_up (arrw w g a i f) g 0 k v = arrw w g a (i + 1) f := by
  subst hk; subst hv
  funext g' j' k'
  unfold mm_up arrw
  by_cases h : g' = g ∧ j' = 0 ∧ k' = a + i
  · rw [if_pos h, if_pos ⟨h.1, h.2.1, by omega, by omega⟩, show k' - a = i by omega]
  · rw [if_neg h]
    by_cases h2 : g' = g ∧ j' = 0 ∧ a ≤ k' ∧ k' < a + i
    · rw [if_pos h2, if_pos ⟨h2.1, h2.2.1, h2.2.2.1, by omega⟩]
    · rw [if_neg h2, if_neg (fun q => h2 ⟨q.1, q.2.1, q.2.2.1, by
        have : k' ≠ a + i := fun z => h ⟨q.1, q.2.1, z⟩
        omega⟩)]
theorem arrw_g {w : mm_M} {g g' : Nat} {a n j' k' : Int} {f : Int → Int} (h : Nat.beq g' g = false) : arrw w g a n f g' j' k' = w g' j' k' := by
  unfold arrw
  refine if_neg fun q => ?_
  rw [q.1, Nat.beq_refl] at h
  cases h
theorem arrw_in {w : mm_M} {g : Nat} {a n k' : Int} {f : Int → Int} (h : a ≤ k' ∧ k' < a + n) : arrw w g a n f g 0 k' = f (k' - a) := by
  unfold arrw
  exact if_pos ⟨rfl, rfl, h.1, h.2⟩
theorem arrw_out {w : mm_M} {g : Nat} {a n j' k' : Int} {f : Int → Int} (h : k' < a ∨ a + n ≤ k') : arrw w g a n f g j' k' = w g j' k' := by
  unfold arrw
  exact if_neg fun q => by omega
theorem sm_arrw {L : List (Nat × Option Int)} {w w' : mm_M} {g : Nat} {a n : Int} {f : Int → Int} (h : sm L w w') (hm : (g, none) ∈ L) : sm L w (arrw w' g a n f) := by
  intro g' j' k' hf
  rw [← h g' j' k' hf]
  unfold arrw
  refine if_neg fun q => ?_
  unfold frB at hf
  rw [List.all_eq_true] at hf
  have := hf _ hm
  rw [q.1] at this
  simp [Nat.beq_refl] at this
