/-! ===== pure: where edges lead, what runs come to ===== -/
theorem vl_put {all v z : Int} (ha : 0 ≤ all ∧ all < 512) (hv : 0 ≤ v ∧ v ≤ 2) (hz : 0 ≤ z ∧ z ≤ 7) : (0 ≤ all + (z - vl all v) * p8 v ∧ all + (z - vl all v) * p8 v < 512) ∧ ∀ u, 0 ≤ u → u ≤ 2 → vl (all + (z - vl all v) * p8 v) u = if u = v then z else vl all u := by
  obtain rfl | rfl | rfl : v = 0 ∨ v = 1 ∨ v = 2 := by omega
  · have e : all + (z - vl all 0) * p8 0 = all + (z - all / 64 % 8) * 64 := rfl
    rw [e]
    refine ⟨by omega, fun u a b => ?_⟩
    obtain rfl | rfl | rfl : u = 0 ∨ u = 1 ∨ u = 2 := by omega
    · show (all + (z - all / 64 % 8) * 64) / 64 % 8 = z
      omega
    · show (all + (z - all / 64 % 8) * 64) / 8 % 8 = all / 8 % 8
      omega
    · show (all + (z - all / 64 % 8) * 64) % 8 = all % 8
      omega
  · have e : all + (z - vl all 1) * p8 1 = all + (z - all / 8 % 8) * 8 := rfl
    rw [e]
    refine ⟨by omega, fun u a b => ?_⟩
    obtain rfl | rfl | rfl : u = 0 ∨ u = 1 ∨ u = 2 := by omega
    · show (all + (z - all / 8 % 8) * 8) / 64 % 8 = all / 64 % 8
      omega
    · show (all + (z - all / 8 % 8) * 8) / 8 % 8 = z
      omega
    · show (all + (z - all / 8 % 8) * 8) % 8 = all % 8
      omega
  · have e : all + (z - vl all 2) * p8 2 = all + (z - all % 8) * 1 := rfl
    rw [e]
    refine ⟨by omega, fun u a b => ?_⟩
    obtain rfl | rfl | rfl : u = 0 ∨ u = 1 ∨ u = 2 := by omega
    · show (all + (z - all % 8) * 1) / 64 % 8 = all / 64 % 8
      omega
    · show (all + (z - all % 8) * 1) / 8 % 8 = all / 8 % 8
      omega
    · show (all + (z - all % 8) * 1) % 8 = z
      omega
theorem go_in {c e : Int → Int → Int} {x all np nc nv : Int} (ha : 0 ≤ all ∧ all < 512) (hnv : nv ≤ 3) (hE : eOK e x np nc nv) : go_ c e x all = -1 ∨ (0 ≤ go_ c e x all ∧ go_ c e x all < 512) := by
  unfold go_
  split
  · exact Or.inl rfl
  · unfold gx_
    split
    · exact Or.inr ha
    · rename_i h4
      split
      · rename_i hz
        have hV := hE.2.2.2.2.2.1 h4
        exact Or.inr (vl_put ha (by omega) hz).1
      · exact Or.inl rfl
theorem go_th {c e : Int → Int → Int} {x all np nc nv : Int} (ha : 0 ≤ all ∧ all < 512) (hnv : nv ≤ 3) (hE : eOK e x np nc nv) (ht : thB nv all = true) (hg : 0 ≤ go_ c e x all) : thB nv (go_ c e x all) = true := by
  unfold go_ at hg ⊢
  split
  · rename_i h
    rw [if_pos h] at hg
    omega
  · rename_i h
    rw [if_neg h] at hg
    unfold gx_ at hg ⊢
    split
    · exact ht
    · rename_i h4
      rw [if_neg h4] at hg
      split
      · rename_i hz
        have hV := hE.2.2.2.2.2.1 h4
        have hu := (vl_put ha (v := e x 5) (by omega) hz).2
        have h1 := of_decide_eq_true ht
        refine decide_eq_true ?_
        rw [hu 0 (by omega) (by omega), hu 1 (by omega) (by omega), hu 2 (by omega) (by omega)]
        refine ⟨?_, ?_, ?_⟩
        · split <;> omega
        · split <;> omega
        · split <;> omega
      · rename_i hz
        rw [if_neg hz] at hg
        omega
theorem fsB_th {f : Int → Int} {nv all : Int} (h : fsB f nv all = true) : thB nv all = true := by
  unfold fsB at h
  rw [Bool.and_eq_true] at h
  exact h.1
/-- an edge, gone from a node (512 p + values); -1 if it can not be -/
def stp (c e : Int → Int → Int) (x q : Int) : Int := if e x 0 = q / 512 ∧ 0 ≤ go_ c e x (q % 512) then 512 * e x 1 + go_ c e x (q % 512) else -1
/-- a run of k edges ends in this node -/
def Rch (c e : Int → Int → Int) (f : Int → Int) (nv ne : Int) : Nat → Int → Prop
  | 0, q => 0 ≤ q ∧ q < 512 ∧ fsB f nv q = true
  | k + 1, q => ∃ q' x, Rch c e f nv ne k q' ∧ (0 ≤ x ∧ x < ne) ∧ stp c e x q' = q ∧ 0 ≤ q
theorem stp_in {c e : Int → Int → Int} {x q np nc nv : Int} (hq : 0 ≤ q) (hnp : np ≤ 8) (hnv : nv ≤ 3) (hE : eOK e x np nc nv) (hs : 0 ≤ stp c e x q) : stp c e x q < 4096 ∧ stp c e x q / 512 = e x 1 ∧ stp c e x q % 512 = go_ c e x (q % 512) ∧ 0 ≤ go_ c e x (q % 512) ∧ e x 0 = q / 512 := by
  unfold stp at hs ⊢
  split
  · rename_i h
    have h1 := go_in (c := c) (all := q % 512) (by omega) hnv hE
    have h2 := hE.2.1
    exact ⟨by omega, by omega, by omega, h.2, h.1⟩
  · rename_i h
    rw [if_neg h] at hs
    omega
theorem Rch_in {c e : Int → Int → Int} {f : Int → Int} {nv ne np nc : Int} (hnp : np ≤ 8) (hnv : nv ≤ 3) (hE : ∀ x, 0 ≤ x → x < ne → eOK e x np nc nv) : ∀ (k : Nat) (q : Int), Rch c e f nv ne k q → (0 ≤ q ∧ q < 4096) ∧ thB nv (q % 512) = true := by
  intro k
  induction k with
  | zero =>
    intro q h
    obtain ⟨h1, h2, h3⟩ := h
    exact ⟨by omega, by rw [show q % 512 = q by omega]; exact fsB_th h3⟩
  | succ k ih =>
    intro q h
    obtain ⟨q', x, h1, h2, h3, h4⟩ := h
    obtain ⟨i1, i2⟩ := ih q' h1
    have h5 := stp_in (c := c) i1.1 hnp hnv (hE x h2.1 h2.2) (by rw [h3]; exact h4)
    rw [h3] at h5
    refine ⟨⟨h4, h5.1⟩, ?_⟩
    rw [h5.2.2.1]
    exact go_th (by omega) hnv (hE x h2.1 h2.2) i2 h5.2.2.2.1
/-- how many below n -/
def cnt (p : Int → Bool) : Nat → Nat
  | 0 => 0
  | n + 1 => cnt p n + (if p n = true then 1 else 0)
theorem cnt_le (p : Int → Bool) (n : Nat) : cnt p n ≤ n := by
  induction n with
  | zero => exact Nat.le_refl _
  | succ n ih =>
    show cnt p n + (if p n = true then 1 else 0) ≤ n + 1
    split <;> omega
theorem cnt_lt {p : Int → Bool} {n : Nat} {i : Int} (h0 : 0 ≤ i) (h1 : i < n) (hi : p i = false) : cnt p n < n := by
  induction n with
  | zero => omega
  | succ n ih =>
    show cnt p n + (if p n = true then 1 else 0) < n + 1
    by_cases h : i = n
    · subst h
      rw [hi, if_neg (by decide)]
      have := cnt_le p n
      omega
    · have := ih (by omega)
      split <;> omega
theorem cnt_c {p p' : Int → Bool} {n : Nat} (h : ∀ i : Int, 0 ≤ i → i < n → p i = p' i) : cnt p n = cnt p' n := by
  induction n with
  | zero => rfl
  | succ n ih =>
    show cnt p n + (if p n = true then 1 else 0) = cnt p' n + (if p' n = true then 1 else 0)
    rw [ih (fun i a b => h i a (by omega)), h n (by omega) (by omega)]
theorem cnt_s {p p' : Int → Bool} {n : Nat} {i : Int} (h0 : 0 ≤ i) (h1 : i < n) (hi : p i = false) (hi' : p' i = true) (h : ∀ j, j ≠ i → p' j = p j) : cnt p' n = cnt p n + 1 := by
  induction n with
  | zero => omega
  | succ n ih =>
    show cnt p' n + (if p' n = true then 1 else 0) = cnt p n + (if p n = true then 1 else 0) + 1
    by_cases hn : i = n
    · subst hn
      rw [hi, hi', cnt_c (p := p') (p' := p) (fun j a b => h j (by omega)), if_pos rfl, if_neg (by decide)]
    · rw [ih (by omega), h n (by omega)]
      omega
/-- a search that goes by levels comes to all that can be reached, by the fewest edges -/
theorem bfs_all {c e : Int → Int → Int} {f : Int → Int} {nv ne : Int} {qn : Int → Int} {m : Int} {lev : Int → Nat} (h0 : ∀ q, Rch c e f nv ne 0 q → ∃ j, (0 ≤ j ∧ j < m) ∧ qn j = q ∧ lev j = 0) (hs : ∀ i, 0 ≤ i → i < m → ∀ x, 0 ≤ x → x < ne → 0 ≤ stp c e x (qn i) → ∃ j, (0 ≤ j ∧ j < m) ∧ qn j = stp c e x (qn i) ∧ lev j ≤ lev i + 1) : ∀ (k : Nat) (q : Int), Rch c e f nv ne k q → ∃ j, (0 ≤ j ∧ j < m) ∧ qn j = q ∧ lev j ≤ k := by
  intro k
  induction k with
  | zero =>
    intro q h
    obtain ⟨j, h1, h2, h3⟩ := h0 q h
    exact ⟨j, h1, h2, by omega⟩
  | succ k ih =>
    intro q h
    obtain ⟨q', x, h1, h2, h3, h4⟩ := h
    obtain ⟨i, i1, i2, i3⟩ := ih q' h1
    subst i2
    obtain ⟨j, j1, j2, j3⟩ := hs i i1.1 i1.2 x h2.1 h2.2 (by rw [h3]; exact h4)
    exact ⟨j, j1, by rw [j2, h3], by omega⟩
