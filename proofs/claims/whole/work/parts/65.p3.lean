/-! ===== pure: groups of nodes, by their first rows of fewest edges ===== -/
theorem lxl_tr {ρ σ τ : List Int} (h1 : lxl ρ σ) (h2 : lxl σ τ) : lxl ρ τ := by
  induction ρ generalizing σ τ with
  | nil => trivial
  | cons x ρ ih =>
    cases σ with
    | nil => exact h1.elim
    | cons y σ =>
      cases τ with
      | nil => exact h2.elim
      | cons z τ =>
        rcases h1 with h1 | ⟨h1, h1'⟩
        · rcases h2 with h2 | ⟨h2, -⟩
          · exact Or.inl (by omega)
          · exact Or.inl (by omega)
        · rcases h2 with h2 | ⟨h2, h2'⟩
          · exact Or.inl (by omega)
          · exact Or.inr ⟨by omega, ih h1' h2'⟩
/-- shorter, or as long and not behind -/
def sle (ρ σ : List Int) : Prop := ρ.length < σ.length ∨ (ρ.length = σ.length ∧ lxl ρ σ)
theorem sle_rf (ρ : List Int) : sle ρ ρ := Or.inr ⟨rfl, lxl_rf ρ⟩
theorem sle_tr {ρ σ τ : List Int} (h1 : sle ρ σ) (h2 : sle σ τ) : sle ρ τ := by
  rcases h1 with h1 | ⟨h1, h1'⟩
  · rcases h2 with h2 | ⟨h2, -⟩
    · exact Or.inl (by omega)
    · exact Or.inl (by omega)
  · rcases h2 with h2 | ⟨h2, h2'⟩
    · exact Or.inl (by omega)
    · exact Or.inr ⟨by omega, lxl_tr h1' h2'⟩
theorem sle_snoc {ρ σ : List Int} {x y : Int} (h : sle ρ σ) (hx : ρ = σ → x ≤ y) : sle (ρ ++ [x]) (σ ++ [y]) := by
  rcases h with h | ⟨h, h'⟩
  · exact Or.inl (by simp; omega)
  · exact Or.inr ⟨by simp; omega, lxl_snoc h h' hx⟩
theorem sle_nil (ρ : List Int) : sle [] ρ := by
  cases ρ with
  | nil => exact sle_rf _
  | cons x ρ => exact Or.inl (by simp)
theorem sle_len {ρ σ : List Int} (h : sle ρ σ) : ρ.length ≤ σ.length := by
  rcases h with h | ⟨h, -⟩ <;> omega
/-- each came from one ahead of it -/
def WF (Q : List (Int × Int)) : Prop := ∀ k : Int, 0 ≤ k → k < Q.length → frQ Q k < 0 ∨ (0 ≤ frQ Q k ∧ frQ Q k / 16 < k)
theorem pth_w {Q : List (Int × Int)} (h : WF Q) : ∀ (m m' : Nat) (k : Int), 0 ≤ k → k < Q.length → k < m → k < m' → pth Q m k = pth Q m' k := by
  intro m
  induction m with
  | zero => intro m' k a b c; omega
  | succ m ih =>
    intro m' k a b c d
    cases m' with
    | zero => omega
    | succ m' =>
      show (if frQ Q k < 0 then [] else pth Q m (frQ Q k / 16) ++ [frQ Q k % 16]) = (if frQ Q k < 0 then [] else pth Q m' (frQ Q k / 16) ++ [frQ Q k % 16])
      split
      · rfl
      · rcases h k a b with q | q
        · omega
        · rw [ih m' (frQ Q k / 16) (by omega) (by omega) (by omega) (by omega)]
theorem PT_w {Q : List (Int × Int)} (h : WF Q) {k : Int} (a : 0 ≤ k) (b : k < Q.length) : PT Q k = if frQ Q k < 0 then [] else PT Q (frQ Q k / 16) ++ [frQ Q k % 16] := by
  have e1 : PT Q k = if frQ Q k < 0 then [] else pth Q k.toNat (frQ Q k / 16) ++ [frQ Q k % 16] := rfl
  rw [e1]
  split
  · rfl
  · rcases h k a b with q | q
    · omega
    · rw [show PT Q (frQ Q k / 16) = pth Q ((frQ Q k / 16).toNat + 1) (frQ Q k / 16) from rfl, pth_w h k.toNat ((frQ Q k / 16).toNat + 1) (frQ Q k / 16) (by omega) (by omega) (by omega) (by omega)]
theorem PT_wl {Q : List (Int × Int)} (h : WF Q) : ∀ (m : Nat) (k : Int), 0 ≤ k → k < Q.length → k < m → (PT Q k).length ≤ k.toNat := by
  intro m
  induction m with
  | zero => intro k a b c; omega
  | succ m ih =>
    intro k a b c
    rw [PT_w h a b]
    rcases h k a b with q | q
    · rw [if_pos q]; exact Nat.zero_le _
    · rw [if_neg (by omega)]
      have := ih (frQ Q k / 16) (by omega) (by omega) (by omega)
      rw [List.length_append]
      show _ + 1 ≤ _
      omega
theorem PT_app {Q R : List (Int × Int)} : ∀ (m : Nat) (k : Int), WF Q → 0 ≤ k → k < Q.length → k < m → pth (Q ++ R) m k = pth Q m k := by
  intro m
  induction m with
  | zero => intro k _ a b c; omega
  | succ m ih =>
    intro k h a b c
    show (if frQ (Q ++ R) k < 0 then [] else pth (Q ++ R) m (frQ (Q ++ R) k / 16) ++ [frQ (Q ++ R) k % 16]) = (if frQ Q k < 0 then [] else pth Q m (frQ Q k / 16) ++ [frQ Q k % 16])
    rw [frQ_app a b]
    rcases h k a b with q | q
    · rw [if_pos q, if_pos q]
    · rw [if_neg (by omega), if_neg (by omega), ih _ h (by omega) (by omega) (by omega)]
theorem PT_ap {Q R : List (Int × Int)} (h : WF Q) {k : Int} (a : 0 ≤ k) (b : k < Q.length) : PT (Q ++ R) k = PT Q k := PT_app _ _ h a b (by omega)
/-- a group begins here -/
def gst (Q : List (Int × Int)) (s : Int) : Prop := 0 ≤ s ∧ (s = 0 ∨ frQ Q (s - 1) < frQ Q s)
theorem gst_app {Q R : List (Int × Int)} {s : Int} (h : s < Q.length) : gst (Q ++ R) s ↔ gst Q s := by
  unfold gst
  constructor
  · rintro ⟨a, b⟩
    refine ⟨a, ?_⟩
    by_cases hs : s = 0
    · exact Or.inl hs
    · rw [frQ_app (by omega) (by omega), frQ_app a h] at b
      exact b
  · rintro ⟨a, b⟩
    refine ⟨a, ?_⟩
    by_cases hs : s = 0
    · exact Or.inl hs
    · rw [frQ_app (by omega) (by omega), frQ_app a h]
      exact b
section PR
variable {c e : Int → Int → Int} {f : Int → Int} {nv ne trap : Int}
def RB1 (c e : Int → Int → Int) (f : Int → Int) (nv ne : Int) (Q : List (Int × Int)) (n s fr : Int) : Prop := (fr = -1 ∧ Rch c e f nv ne 0 s) ∨ ((0 ≤ fr ∧ fr / 16 < n) ∧ gst Q (fr / 16) ∧ fr % 16 < ne ∧ ∃ j, (0 ≤ j ∧ j < n) ∧ frQ Q j = frQ Q (fr / 16) ∧ stp c e (fr % 16) (stQ Q j) = s ∧ 0 ≤ s)
/-- nodes in groups -/
def RB (c e : Int → Int → Int) (f : Int → Int) (nv ne : Int) (Q : List (Int × Int)) : Prop := (∀ k : Int, 0 ≤ k → k < Q.length → RB1 c e f nv ne Q k (stQ Q k) (frQ Q k)) ∧ ∀ i j : Int, 0 ≤ i → i ≤ j → j < Q.length → frQ Q i ≤ frQ Q j
theorem RB_WF {Q : List (Int × Int)} (h : RB c e f nv ne Q) : WF Q := fun k a b => by
  rcases h.1 k a b with q | q
  · exact Or.inl (by omega)
  · exact Or.inr q.1
theorem RB_m1 {Q : List (Int × Int)} (h : RB c e f nv ne Q) {k : Int} (a : 0 ≤ k) (b : k < Q.length) : frQ Q k = -1 ∨ 0 ≤ frQ Q k := by
  rcases h.1 k a b with q | q
  · exact Or.inl q.1
  · exact Or.inr q.1.1
theorem RB1_app {Q R : List (Int × Int)} {n s fr : Int} (hn : n ≤ Q.length) (h : RB1 c e f nv ne Q n s fr) : RB1 c e f nv ne (Q ++ R) n s fr := by
  rcases h with h | ⟨h1, h2, h3, j, h4, h5, h6⟩
  · exact Or.inl h
  · refine Or.inr ⟨h1, (gst_app (by omega)).mpr h2, h3, j, h4, ?_, ?_⟩
    · rw [frQ_app h4.1 (by omega), frQ_app (by omega) (by omega)]; exact h5
    · rw [stQ_app h4.1 (by omega)]; exact h6
theorem RB_add {Q : List (Int × Int)} {s fr : Int} (h : RB c e f nv ne Q) (h1 : RB1 c e f nv ne Q Q.length s fr) (h2 : ∀ i : Int, 0 ≤ i → i < Q.length → frQ Q i ≤ fr) : RB c e f nv ne (Q ++ [(s, fr)]) := by
  have hl : ((Q ++ [(s, fr)]).length : Int) = Q.length + 1 := by simp
  have e1 : stQ (Q ++ [(s, fr)]) Q.length = s := by unfold stQ; simp
  have e2 : frQ (Q ++ [(s, fr)]) Q.length = fr := by unfold frQ; simp
  refine ⟨fun k a b => ?_, fun i j a b d => ?_⟩
  · by_cases hk : k = Q.length
    · rw [hk, e1, e2]
      exact RB1_app (Int.le_refl _) h1
    · rw [stQ_app a (by omega), frQ_app a (by omega)]
      exact RB1_app (by omega) (h.1 k a (by omega))
  · by_cases hj : j = Q.length
    · by_cases hi : i = Q.length
      · rw [hi, hj]; exact Int.le_refl _
      · rw [hj, e2, frQ_app a (by omega)]
        exact h2 i a (by omega)
    · rw [frQ_app a (by omega), frQ_app (by omega) (by omega)]
      exact h.2 i j a b (by omega)
/-- what was gone on from, up to here -/
def RCo (c e : Int → Int → Int) (ne : Int) (Q : List (Int × Int)) (cur : Int) : Prop := ∀ s k y : Int, gst Q s → s < Q.length → 0 ≤ k → k < Q.length → frQ Q k = frQ Q s → 0 ≤ y → y < ne → 16 * s + y < cur → 0 ≤ stp c e y (stQ Q k) → ∃ j, (0 ≤ j ∧ j < (Q.length : Int)) ∧ stQ Q j = stp c e y (stQ Q k) ∧ frQ Q j ≤ 16 * s + y
theorem RCo_add {Q : List (Int × Int)} {s fr cur : Int} (hB : RB c e f nv ne Q) (h : RCo c e ne Q cur) (h1 : cur ≤ fr) (h2 : cur ≤ 16 * Q.length) : RCo c e ne (Q ++ [(s, fr)]) cur := by
  have hl : ((Q ++ [(s, fr)]).length : Int) = Q.length + 1 := by simp
  have e2 : frQ (Q ++ [(s, fr)]) Q.length = fr := by unfold frQ; simp
  intro s' k y a b d g t i j o z
  have hs : s' < Q.length := by omega
  rw [gst_app hs] at a
  by_cases hk : k = Q.length
  · rw [hk, e2, frQ_app a.1 hs] at t
    have ha := a.1
    rcases hB.1 s' a.1 hs with ⟨q, -⟩ | ⟨q, -⟩
    · omega
    · omega
  · rw [frQ_app d (by omega), frQ_app a.1 hs] at t
    rw [stQ_app d (by omega)] at z ⊢
    obtain ⟨m, p1, p2, p3⟩ := h s' k y a hs d (by omega) t i j o z
    refine ⟨m, by omega, ?_, ?_⟩
    · rw [stQ_app p1.1 p1.2]; exact p2
    · rw [frQ_app p1.1 p1.2]; exact p3
theorem PT_fr {Q : List (Int × Int)} (h : WF Q) {i j : Int} (hi : 0 ≤ i ∧ i < Q.length) (hj : 0 ≤ j ∧ j < Q.length) (hf : frQ Q i = frQ Q j) : PT Q i = PT Q j := by
  rw [PT_w h hi.1 hi.2, PT_w h hj.1 hj.2, hf]
theorem gst_lt {Q : List (Int × Int)} (h : RB c e f nv ne Q) {a b : Int} (ha : 0 ≤ a) (hab : a < b) (hb : b < Q.length) (hg : gst Q b) : frQ Q a < frQ Q b := by
  rcases hg.2 with q | q
  · omega
  · have := h.2 a (b - 1) ha (by omega) (by omega)
    omega
theorem RB_lt {Q : List (Int × Int)} (h : RB c e f nv ne Q) : ∀ (m : Nat) (i j : Int), 0 ≤ i → i < Q.length → 0 ≤ j → j < Q.length → j < m → frQ Q i < frQ Q j → sle (PT Q i) (PT Q j) ∧ PT Q i ≠ PT Q j := by
  have hw := RB_WF h
  intro m
  induction m with
  | zero => intro i j a b d g t; omega
  | succ m ih =>
    intro i j a b d g t hlt
    have hi := RB_m1 h a b
    have hj := RB_m1 h d g
    have hj0 : ¬ frQ Q j < 0 := by omega
    rw [PT_w hw d g, if_neg hj0]
    rcases h.1 j d g with q | ⟨q1, q2, -⟩
    · omega
    · rcases hi with hi | hi
      · rw [PT_w hw a b, if_pos (by omega)]
        exact ⟨sle_nil _, fun z => by simp at z⟩
      · rw [PT_w hw a b, if_neg (by omega)]
        have hq : frQ Q i / 16 < i := by
          rcases hw i a b with z | z <;> omega
        by_cases hab : frQ Q i / 16 = frQ Q j / 16
        · rw [hab]
          refine ⟨sle_snoc (sle_rf _) (fun _ => by omega), fun z => ?_⟩
          have := List.append_cancel_left z
          rw [List.cons.injEq] at this
          omega
        · obtain ⟨z1, z2⟩ := ih (frQ Q i / 16) (frQ Q j / 16) (by omega) (by omega) (by omega) (by omega) (by omega) (gst_lt h (by omega) (by omega) (by omega) q2)
          refine ⟨sle_snoc z1 (fun z => absurd z z2), fun z => z2 ?_⟩
          exact (List.append_inj' z rfl).1
theorem RB_le {Q : List (Int × Int)} (h : RB c e f nv ne Q) {i j : Int} (a : 0 ≤ i) (b : i ≤ j) (d : j < Q.length) : sle (PT Q i) (PT Q j) := by
  rcases Int.lt_or_eq_of_le (h.2 i j a b d) with q | q
  · exact (RB_lt h (j.toNat + 1) i j a (by omega) (by omega) d (by omega) q).1
  · rw [PT_fr (RB_WF h) (by omega) (by omega) q]
    exact sle_rf _
theorem RB_to {Q : List (Int × Int)} (h : RB c e f nv ne Q) {s j x : Int} (hg : gst Q s) (hs : s < Q.length) (hx : 0 ≤ x ∧ x < 16) (a : 0 ≤ j) (b : j < Q.length) (hf : frQ Q j ≤ 16 * s + x) : sle (PT Q j) (PT Q s ++ [x]) := by
  have hw := RB_WF h
  rcases RB_m1 h a b with q | q
  · rw [PT_w hw a b, if_pos (by omega)]
    exact sle_nil _
  · rw [PT_w hw a b, if_neg (by omega)]
    have hq : frQ Q j / 16 < j := by
      rcases hw j a b with z | z <;> omega
    by_cases hab : frQ Q j / 16 = s
    · rw [hab]
      exact sle_snoc (sle_rf _) (fun _ => by omega)
    · obtain ⟨z1, z2⟩ := RB_lt h (s.toNat + 1) (frQ Q j / 16) s (by omega) (by omega) hg.1 hs (by have := hg.1; omega) (gst_lt h (by omega) (by omega) hs hg)
      exact sle_snoc z1 (fun z => absurd z z2)
theorem RB_RN {Q : List (Int × Int)} (h : RB c e f nv ne Q) : ∀ (m : Nat) (k : Int), 0 ≤ k → k < Q.length → k < m → RN c e f nv ne (PT Q k) (stQ Q k) := by
  have hw := RB_WF h
  intro m
  induction m with
  | zero => intro k a b c; omega
  | succ m ih =>
    intro k a b t
    rw [PT_w hw a b]
    rcases h.1 k a b with ⟨q1, q2⟩ | ⟨q1, q2, q3, j, q4, q5, q6, q7⟩
    · rw [if_pos (by omega)]
      exact ⟨_, q2, rfl⟩
    · rw [if_neg (by omega)]
      refine RN_snoc.mpr ⟨stQ Q j, ?_, by omega, q6, q7⟩
      rw [← PT_fr hw (by omega) (by omega) q5]
      exact ih j q4.1 (by omega) (by omega)
theorem gst_of {Q : List (Int × Int)} (h : RB c e f nv ne Q) : ∀ (m : Nat) (k : Int), 0 ≤ k → k < Q.length → k < m → ∃ s, gst Q s ∧ s ≤ k ∧ frQ Q k = frQ Q s := by
  intro m
  induction m with
  | zero => intro k a b c; omega
  | succ m ih =>
    intro k a b t
    by_cases hk : k = 0
    · exact ⟨k, ⟨a, Or.inl hk⟩, Int.le_refl _, rfl⟩
    · rcases Int.lt_or_eq_of_le (h.2 (k - 1) k (by omega) (by omega) b) with q | q
      · exact ⟨k, ⟨a, Or.inr q⟩, Int.le_refl _, rfl⟩
      · obtain ⟨s, z1, z2, z3⟩ := ih (k - 1) (by omega) (by omega) (by omega)
        exact ⟨s, z1, by omega, by rw [← q]; exact z3⟩
/-- all is gone on from -/
def RE (c e : Int → Int → Int) (f : Int → Int) (nv ne : Int) (Q : List (Int × Int)) : Prop := RB c e f nv ne Q ∧ RCo c e ne Q (16 * Q.length) ∧ (∀ q, Rch c e f nv ne 0 q → ∃ k : Int, (0 ≤ k ∧ k < Q.length) ∧ stQ Q k = q ∧ frQ Q k = -1) ∧ QN Q
theorem RE_all {Q : List (Int × Int)} (h : RE c e f nv ne Q) (hne : ne ≤ 14) : ∀ (n : Nat) (σ : List Int) (q : Int), σ.length = n → RN c e f nv ne σ q → ∃ k : Int, (0 ≤ k ∧ k < Q.length) ∧ stQ Q k = q ∧ sle (PT Q k) σ := by
  obtain ⟨hB, hC, h0, -⟩ := h
  have hw := RB_WF hB
  intro n
  induction n with
  | zero =>
    intro σ q hl hr
    have : σ = [] := List.length_eq_zero_iff.mp hl
    subst this
    obtain ⟨q0, r1, r2⟩ := hr
    cases r2
    obtain ⟨k, k1, k2, k3⟩ := h0 q r1
    refine ⟨k, k1, k2, ?_⟩
    rw [PT_w hw k1.1 k1.2, if_pos (by omega)]
    exact sle_rf _
  | succ n ih =>
    intro σ q hl hr
    have hne0 : σ ≠ [] := fun z => by rw [z] at hl; cases hl
    have hσ := (List.dropLast_concat_getLast hne0).symm
    rw [hσ] at hr
    obtain ⟨m, r1, r2, r3, r4⟩ := RN_snoc.mp hr
    obtain ⟨k, k1, k2, k3⟩ := ih σ.dropLast m (by rw [List.length_dropLast]; omega) r1
    obtain ⟨s, s1, s2, s3⟩ := gst_of hB (k.toNat + 1) k k1.1 k1.2 (by omega)
    have hs1 := s1.1
    obtain ⟨j, j1, j2, j3⟩ := hC s k (σ.getLast hne0) s1 (by omega) k1.1 k1.2 s3 r2.1 r2.2 (by omega) (by rw [k2, r3]; exact r4)
    refine ⟨j, j1, by rw [j2, k2, r3], ?_⟩
    have := RB_to hB s1 (by omega) (by omega) j1.1 j1.2 j3
    rw [hσ]
    refine sle_tr this (sle_snoc ?_ (fun _ => Int.le_refl _))
    rw [← PT_fr hw k1 ⟨hs1, by omega⟩ s3]
    exact k3
end PR
