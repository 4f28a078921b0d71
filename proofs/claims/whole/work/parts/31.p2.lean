/-! ===== pure: the first of the shortest runs ===== -/
section PR
variable {c e : Int → Int → Int} {f : Int → Int} {nv ne trap : Int}
/-- a row of edges, gone from a node -/
def frw (c e : Int → Int → Int) (ne : Int) : List Int → Int → Int → Prop
  | [], q, q' => q = q'
  | x :: ρ, q, q' => (0 ≤ x ∧ x < ne) ∧ 0 ≤ stp c e x q ∧ frw c e ne ρ (stp c e x q) q'
/-- a run by these edges ends in this node -/
def RN (c e : Int → Int → Int) (f : Int → Int) (nv ne : Int) (ρ : List Int) (q : Int) : Prop := ∃ q0, Rch c e f nv ne 0 q0 ∧ frw c e ne ρ q0 q
theorem frw_app {ρ σ : List Int} {q q' : Int} : frw c e ne (ρ ++ σ) q q' ↔ ∃ m, frw c e ne ρ q m ∧ frw c e ne σ m q' := by
  induction ρ generalizing q with
  | nil => exact ⟨fun h => ⟨q, rfl, h⟩, fun ⟨m, h1, h2⟩ => by cases h1; exact h2⟩
  | cons x ρ ih =>
    show (_ ∧ _ ∧ frw c e ne (ρ ++ σ) _ q') ↔ _
    rw [ih]
    exact ⟨fun ⟨a, b, m, h1, h2⟩ => ⟨m, ⟨a, b, h1⟩, h2⟩, fun ⟨m, ⟨a, b, h1⟩, h2⟩ => ⟨a, b, m, h1, h2⟩⟩
theorem RN_snoc {ρ : List Int} {x q : Int} : RN c e f nv ne (ρ ++ [x]) q ↔ ∃ m, RN c e f nv ne ρ m ∧ (0 ≤ x ∧ x < ne) ∧ stp c e x m = q ∧ 0 ≤ q := by
  constructor
  · rintro ⟨q0, h0, h1⟩
    obtain ⟨m, h2, h3, h4, h5⟩ := frw_app.mp h1
    cases h5
    exact ⟨m, ⟨q0, h0, h2⟩, h3, rfl, h4⟩
  · rintro ⟨m, ⟨q0, h0, h2⟩, h3, h4, h5⟩
    refine ⟨q0, h0, frw_app.mpr ⟨m, h2, h3, ?_, ?_⟩⟩
    · rw [h4]; exact h5
    · exact h4
theorem Rch_frw {σ : List Int} : ∀ {k : Nat} {q q' : Int}, Rch c e f nv ne k q → frw c e ne σ q q' → Rch c e f nv ne (k + σ.length) q' := by
  induction σ with
  | nil => intro k q q' h1 h2; cases h2; exact h1
  | cons x σ ih =>
    intro k q q' h1 h2
    obtain ⟨a, b, h3⟩ := h2
    have : Rch c e f nv ne (k + 1) (stp c e x q) := ⟨q, x, h1, a, rfl, b⟩
    have := ih this h3
    rw [show k + (x :: σ).length = k + 1 + σ.length by simp; omega]
    exact this
theorem RN_Rch {ρ : List Int} {q : Int} (h : RN c e f nv ne ρ q) : Rch c e f nv ne ρ.length q := by
  obtain ⟨q0, h0, h1⟩ := h
  have := Rch_frw h0 h1
  rw [Nat.zero_add] at this
  exact this
theorem Rch_RN : ∀ {k : Nat} {q : Int}, Rch c e f nv ne k q → ∃ ρ : List Int, ρ.length = k ∧ RN c e f nv ne ρ q := by
  intro k
  induction k with
  | zero => intro q h; exact ⟨[], rfl, q, h, rfl⟩
  | succ k ih =>
    intro q h
    obtain ⟨q', x, h1, h2, h3, h4⟩ := h
    obtain ⟨ρ, h5, h6⟩ := ih h1
    exact ⟨ρ ++ [x], by simp [h5], RN_snoc.mpr ⟨q', h6, h2, h3, h4⟩⟩
/-- from here the trap is reached in what is left of D edges -/
def Gd (c e : Int → Int → Int) (ne trap : Int) (D s : Nat) (q : Int) : Prop := ∃ τ q', τ.length + s = D ∧ frw c e ne τ q q' ∧ q' / 512 = trap
def lxl : List Int → List Int → Prop
  | [], _ => True
  | _ :: _, [] => False
  | x :: ρ, y :: σ => x < y ∨ (x = y ∧ lxl ρ σ)
theorem lxl_rf (ρ : List Int) : lxl ρ ρ := by
  induction ρ with
  | nil => trivial
  | cons x ρ ih => exact Or.inr ⟨rfl, ih⟩
theorem lxl_as {ρ σ : List Int} (hl : ρ.length = σ.length) (h1 : lxl ρ σ) (h2 : lxl σ ρ) : ρ = σ := by
  induction ρ generalizing σ with
  | nil =>
    cases σ with
    | nil => rfl
    | cons y σ => simp at hl
  | cons x ρ ih =>
    cases σ with
    | nil => simp at hl
    | cons y σ =>
      rcases h1 with h1 | ⟨h1, h1'⟩
      · rcases h2 with h2 | ⟨h2, -⟩ <;> omega
      · rcases h2 with h2 | ⟨-, h2'⟩
        · omega
        · rw [h1, ih (by simpa using hl) h1' h2']
/-- the first of the runs of D edges to the trap -/
def RU (c e : Int → Int → Int) (f : Int → Int) (nv ne trap : Int) (D : Nat) (ρ : List Int) : Prop := ρ.length = D ∧ (∃ q, q / 512 = trap ∧ RN c e f nv ne ρ q) ∧ ∀ σ q, σ.length = D → q / 512 = trap → RN c e f nv ne σ q → lxl ρ σ
theorem RU_u {D : Nat} {ρ σ : List Int} (h : RU c e f nv ne trap D ρ) (h' : RU c e f nv ne trap D σ) : ρ = σ := by
  obtain ⟨h1, ⟨q, h2, h3⟩, h4⟩ := h
  obtain ⟨g1, ⟨q', g2, g3⟩, g4⟩ := h'
  exact lxl_as (by omega) (h4 σ q' g1 g2 g3) (g4 ρ q h1 h2 h3)
/-- its beginning, s edges -/
def PX (c e : Int → Int → Int) (f : Int → Int) (nv ne trap : Int) (D s : Nat) (ρ : List Int) : Prop := ρ.length = s ∧ (∃ q, RN c e f nv ne ρ q ∧ Gd c e ne trap D s q) ∧ ∀ σ q, σ.length = D → q / 512 = trap → RN c e f nv ne σ q → lxl ρ (σ.take s)
theorem lxl_snoc {ρ σ : List Int} {x y : Int} (hl : ρ.length = σ.length) (h : lxl ρ σ) (hx : ρ = σ → x ≤ y) : lxl (ρ ++ [x]) (σ ++ [y]) := by
  induction ρ generalizing σ with
  | nil =>
    cases σ with
    | nil =>
      rcases Int.lt_or_eq_of_le (hx rfl) with q | q
      · exact Or.inl q
      · exact Or.inr ⟨q, trivial⟩
    | cons z σ => simp at hl
  | cons z ρ ih =>
    cases σ with
    | nil => simp at hl
    | cons u σ =>
      rcases h with h | ⟨h, h'⟩
      · exact Or.inl h
      · exact Or.inr ⟨h, ih (by simpa using hl) h' (fun q => hx (by rw [h, q]))⟩
/-- a run along the beginning, and on to the trap -/
theorem PX_mid {D s : Nat} {σ : List Int} {q : Int} (hs : s < D) (hl : σ.length = D) (ht : q / 512 = trap) (hr : RN c e f nv ne σ q) : ∃ x m, σ.take (s + 1) = σ.take s ++ [x] ∧ RN c e f nv ne (σ.take s) m ∧ (0 ≤ x ∧ x < ne) ∧ 0 ≤ stp c e x m ∧ Gd c e ne trap D (s + 1) (stp c e x m) := by
  have hlt : s < σ.length := by omega
  have e1 : σ.take (s + 1) = σ.take s ++ [σ[s]] := by rw [List.take_succ, List.getElem?_eq_getElem hlt]; rfl
  obtain ⟨q0, h0, h1⟩ := hr
  rw [← List.take_append_drop (s + 1) σ] at h1
  obtain ⟨m2, h2, h3⟩ := frw_app.mp h1
  rw [e1] at h2
  obtain ⟨m, h4, h5, h6, h7⟩ := frw_app.mp h2
  cases h7
  exact ⟨σ[s], m, e1, ⟨q0, h0, h4⟩, h5, h6, σ.drop (s + 1), q, by simp; omega, h3, ht⟩
theorem PX_step {D s : Nat} {ρ : List Int} {x : Int} (h : PX c e f nv ne trap D s ρ) (hs : s < D) (hx : ∃ m, RN c e f nv ne ρ m ∧ (0 ≤ x ∧ x < ne) ∧ 0 ≤ stp c e x m ∧ Gd c e ne trap D (s + 1) (stp c e x m)) (hm : ∀ y m, RN c e f nv ne ρ m → (0 ≤ y ∧ y < ne) → 0 ≤ stp c e y m → Gd c e ne trap D (s + 1) (stp c e y m) → x ≤ y) : PX c e f nv ne trap D (s + 1) (ρ ++ [x]) := by
  obtain ⟨h1, h2, h3⟩ := h
  refine ⟨by simp [h1], ?_, fun σ q a b d => ?_⟩
  · obtain ⟨m, m1, m2, m3, m4⟩ := hx
    exact ⟨_, RN_snoc.mpr ⟨m, m1, m2, rfl, m3⟩, m4⟩
  · obtain ⟨y, m, e1, y2, y3, y4, y5⟩ := PX_mid hs a b d
    rw [e1]
    refine lxl_snoc (by rw [h1, List.length_take]; omega) (h3 σ q a b d) (fun z => ?_)
    rw [← z] at y2
    exact hm y m y2 y3 y4 y5
theorem Gd_step {D s : Nat} {q : Int} (h : Gd c e ne trap D s q) (hs : s < D) : ∃ x, (0 ≤ x ∧ x < ne) ∧ 0 ≤ stp c e x q ∧ Gd c e ne trap D (s + 1) (stp c e x q) := by
  obtain ⟨τ, q', h1, h2, h3⟩ := h
  cases τ with
  | nil => simp at h1; omega
  | cons x τ =>
    obtain ⟨a, b, d⟩ := h2
    exact ⟨x, a, b, τ, q', by simp at h1; omega, d, h3⟩
theorem Gd_back {D s : Nat} {q x : Int} (hx : 0 ≤ x ∧ x < ne) (h0 : 0 ≤ stp c e x q) (h : Gd c e ne trap D (s + 1) (stp c e x q)) : Gd c e ne trap D s q := by
  obtain ⟨τ, q', h1, h2, h3⟩ := h
  exact ⟨x :: τ, q', by simp; omega, ⟨hx, h0, h2⟩, h3⟩
/-- one of the edges is the least -/
theorem least_x {P : Int → Prop} {x : Int} (h0 : 0 ≤ x) (hx : P x) : ∃ z, (0 ≤ z ∧ z ≤ x) ∧ P z ∧ ∀ y, 0 ≤ y → P y → z ≤ y := by
  generalize hn : x.toNat = n
  induction n using Nat.strongRecOn generalizing x with
  | ind n ih =>
    by_cases hl : ∃ y, 0 ≤ y ∧ y < x ∧ P y
    · obtain ⟨y, y0, y1, y2⟩ := hl
      obtain ⟨z, z1, z2, z3⟩ := ih y.toNat (by omega) y0 y2 rfl
      exact ⟨z, by omega, z2, z3⟩
    · refine ⟨x, by omega, hx, fun y y0 y1 => ?_⟩
      rcases Int.lt_or_le y x with q | q
      · exact absurd ⟨y, y0, q, y1⟩ hl
      · exact q
theorem PX_full {D : Nat} : ∀ (k s : Nat) (ρ : List Int), s + k = D → PX c e f nv ne trap D s ρ → ∃ τ, RU c e f nv ne trap D (ρ ++ τ) := by
  intro k
  induction k with
  | zero =>
    intro s ρ hs h
    obtain ⟨h1, ⟨q, h2, h3⟩, h4⟩ := h
    refine ⟨[], ?_⟩
    rw [List.append_nil]
    obtain ⟨τ, q', t1, t2, t3⟩ := h3
    have ht : τ = [] := List.eq_nil_of_length_eq_zero (by omega)
    subst ht
    cases t2
    refine ⟨by omega, ⟨q, t3, h2⟩, fun σ q' a b d => ?_⟩
    have := h4 σ q' a b d
    rw [List.take_of_length_le (by omega)] at this
    exact this
  | succ k ih =>
    intro s ρ hs h
    obtain ⟨q, h2, h3⟩ := h.2.1
    obtain ⟨x, x1, x2, x3⟩ := Gd_step h3 (by omega)
    obtain ⟨z, z1, z2, z3⟩ := least_x (P := fun x => ∃ m, RN c e f nv ne ρ m ∧ (0 ≤ x ∧ x < ne) ∧ 0 ≤ stp c e x m ∧ Gd c e ne trap D (s + 1) (stp c e x m)) x1.1 ⟨q, h2, x1, x2, x3⟩
    have := PX_step h (by omega) z2 (fun y m a b d g => z3 y b.1 ⟨m, a, b, d, g⟩)
    obtain ⟨τ, hτ⟩ := ih (s + 1) (ρ ++ [z]) (by omega) this
    exact ⟨z :: τ, by rw [List.append_assoc] at hτ; exact hτ⟩
theorem PX_0 {D : Nat} {q : Int} (h : Rch c e f nv ne D q) (ht : q / 512 = trap) : PX c e f nv ne trap D 0 [] := by
  obtain ⟨ρ, h1, q0, h2, h3⟩ := Rch_RN h
  exact ⟨rfl, ⟨q0, ⟨q0, h2, rfl⟩, ρ, q, by omega, h3, ht⟩, fun σ q a b d => trivial⟩
/-- of nodes from which the trap is reached in time it is known how far they are -/
theorem Gd_far {D s : Nat} {q : Int} (hD : ∀ k q, Rch c e f nv ne k q → q / 512 = trap → D ≤ k) (h : Gd c e ne trap D s q) {k : Nat} (hk : Rch c e f nv ne k q) : s ≤ k := by
  obtain ⟨τ, q', h1, h2, h3⟩ := h
  have := hD _ _ (Rch_frw hk h2) h3
  omega
end PR
