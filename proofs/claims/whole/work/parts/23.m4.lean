/-! ===== the text's meaning, and the reference's reading of it ===== -/
/-- what was told: (places, trap, variables, comparisons, edges), bounds, comparisons, edges -/
abbrev TS : Type := (Int × Int × Int × Int × Int) × (Int → Int) × (Int → Int → Int) × (Int → Int → Int)
def T0 : TS := ((0, 0, 0, 0, 0), fun _ => 0, fun _ _ => 0, fun _ _ => 0)
/-- an item with these figures may come next -/
def itB (T : TS) (l : Int) (f : Int → Int) : Bool :=
  if l = 112 then decide (T.1.1 = 0 ∧ 2 ≤ f 0 ∧ f 0 ≤ 8 ∧ f 1 < f 0)
  else if T.1.1 = 0 then false
  else if l = 118 then decide (T.1.2.2.1 < 3 ∧ f 0 ≤ f 1 ∧ f 1 ≤ 7)
  else if l = 99 then decide (T.1.2.2.2.1 < 8 ∧ f 0 ≤ 4 ∧ f 1 < T.1.2.2.1 ∧ (1 < f 0 → f 2 < T.1.2.2.1))
  else decide (T.1.2.2.2.2 < 14 ∧ f 0 < T.1.1 ∧ f 1 < T.1.1 ∧ (f 2 = 9 ∨ f 2 < T.1.2.2.2.1) ∧ f 3 < 2 ∧ f 4 < 6 ∧ (f 4 = 0 ∨ f 5 < T.1.2.2.1) ∧ (f 4 ≠ 1 ∨ f 6 < 8) ∧ (f 4 < 4 ∨ f 6 < T.1.2.2.1))
def itT (T : TS) (l : Int) (f : Int → Int) : TS :=
  if l = 112 then ((f 0, f 1, T.1.2.2.1, T.1.2.2.2.1, T.1.2.2.2.2), T.2)
  else if l = 118 then ((T.1.1, T.1.2.1, T.1.2.2.1 + 1, T.1.2.2.2.1, T.1.2.2.2.2), (fun k => if k = 2 * T.1.2.2.1 then f 0 else if k = 2 * T.1.2.2.1 + 1 then f 1 else T.2.1 k), T.2.2)
  else if l = 99 then ((T.1.1, T.1.2.1, T.1.2.2.1, T.1.2.2.2.1 + 1, T.1.2.2.2.2), T.2.1, (fun g k => if g = T.1.2.2.2.1 then f k else T.2.2.1 g k), T.2.2.2)
  else ((T.1.1, T.1.2.1, T.1.2.2.1, T.1.2.2.2.1, T.1.2.2.2.2 + 1), T.2.1, T.2.2.1, (fun x k => if x = T.1.2.2.2.2 then f k else T.2.2.2 x k))
def okB (T : TS) (t : Int → Int) (n p : Int) : Bool := decide (0 < due (t p)) && ((List.range (due (t p)).toNat).all (fun k : Nat => decide (0 ≤ fig t n (p + 1 + k))) && (decide (p + 1 + due (t p) < n ∧ t (p + 1 + due (t p)) = 59) && itB T (t p) (fun k => fig t n (p + 1 + k))))
/-- the first fault (-4: none), and what was told up to it -/
def prs (t : Int → Int) (n : Int) : Nat → Int → TS → Int × TS
  | 0, p, T => (p, T)
  | k + 1, p, T => if n ≤ p then (-4, T) else if okB T t n p = true then prs t n k (p + due (t p) + 2) (itT T (t p) (fun k => fig t n (p + 1 + k))) else (p, T)
/-- bounds of what is told -/
def TB (T : TS) : Prop := (T.1.1 = 0 ∨ (2 ≤ T.1.1 ∧ T.1.1 ≤ 8)) ∧ (0 ≤ T.1.2.2.1 ∧ T.1.2.2.1 ≤ 3) ∧ (0 ≤ T.1.2.2.2.1 ∧ T.1.2.2.2.1 ≤ 8) ∧ (0 ≤ T.1.2.2.2.2 ∧ T.1.2.2.2.2 ≤ 14)
/-- the reference's memory has read this -/
def TR (w : mm_M) (T : TS) : Prop := w 1 0 13 = T.1.1 ∧ (T.1.1 ≠ 0 → w 1 0 14 = T.1.2.1) ∧ w 1 0 15 = T.1.2.2.1 ∧ w 1 0 17 = T.1.2.2.2.1 ∧ w 1 0 19 = T.1.2.2.2.2 ∧
  (∀ k, 0 ≤ k → k < 2 * T.1.2.2.1 → w 8 0 k = T.2.1 k) ∧ (∀ g k, 0 ≤ g → g < T.1.2.2.2.1 → 0 ≤ k → k < 3 → w 9 0 (3 * g + k) = T.2.2.1 g k) ∧ (∀ x k, 0 ≤ x → x < T.1.2.2.2.2 → 0 ≤ k → k < 7 → w 10 0 (7 * x + k) = T.2.2.2 x k)
abbrev rdL : List (Nat × Option Int) := [(1, some 13), (1, some 14), (1, some 15), (1, some 17), (1, some 19), (8, none), (9, none), (10, none)]
theorem TX_sm {w w' : mm_M} {t : Int → Int} {n : Int} {L : List (Nat × Option Int)} (h : TX w t n) (hs : sm L w w') (h1 : ∀ k, frB L 2 k = true) (h2 : frB L 1 0 = true) : TX w' t n := ⟨fun k => (hs 2 0 k (h1 k)).trans (h.1 k), (hs 1 0 0 h2).trans h.2.1, h.2.2⟩
theorem TB_it {T : TS} {l : Int} {f : Int → Int} (h : TB T) (hi : itB T l f = true) : TB (itT T l f) := by
  obtain ⟨h1, h2, h3, h4⟩ := h
  unfold itB at hi
  unfold itT
  split at hi
  · rename_i hl
    have q := of_decide_eq_true hi
    rw [if_pos hl]
    exact ⟨Or.inr ⟨q.2.1, q.2.2.1⟩, h2, h3, h4⟩
  · rename_i hl
    rw [if_neg hl]
    split at hi
    · cases hi
    · split at hi
      · rename_i hl2
        have q := of_decide_eq_true hi
        rw [if_pos hl2]
        exact ⟨h1, ⟨by show 0 ≤ T.1.2.2.1 + 1; omega, by show T.1.2.2.1 + 1 ≤ 3; omega⟩, h3, h4⟩
      · rename_i hl2
        rw [if_neg hl2]
        split at hi
        · rename_i hl3
          have q := of_decide_eq_true hi
          rw [if_pos hl3]
          exact ⟨h1, h2, ⟨by show 0 ≤ T.1.2.2.2.1 + 1; omega, by show T.1.2.2.2.1 + 1 ≤ 8; omega⟩, h4⟩
        · rename_i hl3
          have q := (of_decide_eq_true hi).1
          rw [if_neg hl3]
          exact ⟨h1, h2, h3, ⟨by show 0 ≤ T.1.2.2.2.2 + 1; omega, by show T.1.2.2.2.2 + 1 ≤ 14; omega⟩⟩
section ME
variable {r : Bool × Bool} {y : Bool} {w : mm_M} {t : Int → Int} {n : Int}
/-- the reference takes an item (whatever comes behind it) -/
def rdB (T : TS) (t : Int → Int) (n l p : Int) : Bool := (decide (0 < due l) && decide (l = 112 ∨ 0 < T.1.1)) && ((List.range (due l).toNat).all (fun k : Nat => decide (0 ≤ fig t n (p + k))) && itB T l (fun k => fig t n (p + k)))
theorem due_cases {l : Int} (h : 0 < due l) : (l = 112 ∧ due l = 2) ∨ (l = 118 ∧ due l = 2) ∨ (l = 99 ∧ due l = 3) ∨ (l = 101 ∧ due l = 7) := by
  unfold due at h ⊢
  split at h
  · rename_i q; rw [if_pos q]; omega
  · rename_i q
    rw [if_neg q]
    split at h
    · rename_i q2; rw [if_pos q2]; omega
    · rename_i q2
      rw [if_neg q2]
      split at h
      · rename_i q3; rw [if_pos q3]; omega
      · omega
theorem TR_p {w' : mm_M} {T : TS} {f : Int → Int} (h : TR w T) (hT : TB T) (hw : w' = mm_up (mm_up w 1 0 13 (f 0)) 1 0 14 (f 1)) : TR w' (itT T 112 f) := by
  obtain ⟨h1, h2, h3, h4, h5, h6, h7, h8⟩ := h
  subst hw
  have eg : ∀ g k, Nat.beq g 1 = false → mm_up (mm_up w 1 0 13 (f 0)) 1 0 14 (f 1) g 0 k = w g 0 k := fun g k hg => (up_g hg).trans (up_g hg)
  have ek : ∀ k, k ≠ 13 → k ≠ 14 → mm_up (mm_up w 1 0 13 (f 0)) 1 0 14 (f 1) 1 0 k = w 1 0 k := fun k a b => (up_k b).trans (up_k a)
  refine ⟨(up_k (by decide)).trans up_s, fun _ => up_s, (ek 15 (by decide) (by decide)).trans h3, (ek 17 (by decide) (by decide)).trans h4, (ek 19 (by decide) (by decide)).trans h5, fun k a b => (eg 8 k rfl).trans (h6 k a b), fun g k a b c d => (eg 9 _ rfl).trans (h7 g k a b c d), fun x k a b c d => (eg 10 _ rfl).trans (h8 x k a b c d)⟩
theorem TR_v {w' : mm_M} {T : TS} {f : Int → Int} (h : TR w T) (hT : TB T) (hw : w' = mm_up (mm_up (mm_up w 8 0 (2 * w 1 0 15) (f 0)) 8 0 (2 * w 1 0 15 + 1) (f 1)) 1 0 15 (w 1 0 15 + 1)) : TR w' (itT T 118 f) := by
  obtain ⟨h1, h2, h3, h4, h5, h6, h7, h8⟩ := h
  subst hw
  have e1 : ∀ k, k ≠ 15 → mm_up (mm_up (mm_up w 8 0 (2 * w 1 0 15) (f 0)) 8 0 (2 * w 1 0 15 + 1) (f 1)) 1 0 15 (w 1 0 15 + 1) 1 0 k = w 1 0 k := fun k a => (up_k a).trans ((up_g rfl).trans (up_g rfl))
  have eg : ∀ g k, Nat.beq g 1 = false → Nat.beq g 8 = false → mm_up (mm_up (mm_up w 8 0 (2 * w 1 0 15) (f 0)) 8 0 (2 * w 1 0 15 + 1) (f 1)) 1 0 15 (w 1 0 15 + 1) g 0 k = w g 0 k := fun g k a b => (up_g a).trans ((up_g b).trans (up_g b))
  refine ⟨(e1 13 (by decide)).trans h1, fun q => (e1 14 (by decide)).trans (h2 q), up_s.trans (by rw [h3]; rfl), (e1 17 (by decide)).trans h4, (e1 19 (by decide)).trans h5, fun k a b => ?_, fun g k a b c d => (eg 9 _ rfl rfl).trans (h7 g k a b c d), fun x k a b c d => (eg 10 _ rfl rfl).trans (h8 x k a b c d)⟩
  have b : k < 2 * (T.1.2.2.1 + 1) := b
  rw [up_g rfl, up_at, up_at, h3]
  show _ = if k = 2 * T.1.2.2.1 then f 0 else if k = 2 * T.1.2.2.1 + 1 then f 1 else T.2.1 k
  by_cases q1 : k = 2 * T.1.2.2.1
  · rw [if_neg (by omega), if_pos q1, if_pos q1]
  · by_cases q2 : k = 2 * T.1.2.2.1 + 1
    · rw [if_pos q2, if_neg q1, if_pos q2]
    · rw [if_neg q2, if_neg q1, if_neg q1, if_neg q2]
      exact h6 k a (by omega)
theorem TR_c {w' : mm_M} {T : TS} {p : Int} (h : TR w T) (hT : TB T) (hw : w' = rc_w w t n p) : TR w' (itT T 99 (fun k => fig t n (p + k))) := by
  obtain ⟨h1, h2, h3, h4, h5, h6, h7, h8⟩ := h
  subst hw
  unfold rc_w
  have e1 : ∀ k, k ≠ 17 → mm_up (arrw w 9 (3 * w 1 0 17) 3 (fun k => fig t n (p + k))) 1 0 17 (w 1 0 17 + 1) 1 0 k = w 1 0 k := fun k a => (up_k a).trans (arrw_g rfl)
  have eg : ∀ g k, Nat.beq g 1 = false → Nat.beq g 9 = false → mm_up (arrw w 9 (3 * w 1 0 17) 3 (fun k => fig t n (p + k))) 1 0 17 (w 1 0 17 + 1) g 0 k = w g 0 k := fun g k a b => (up_g a).trans (arrw_g b)
  refine ⟨(e1 13 (by decide)).trans h1, fun q => (e1 14 (by decide)).trans (h2 q), (e1 15 (by decide)).trans h3, up_s.trans (by rw [h4]; rfl), (e1 19 (by decide)).trans h5, fun k a b => (eg 8 _ rfl rfl).trans (h6 k a b), fun g k a b c d => ?_, fun x k a b c d => (eg 10 _ rfl rfl).trans (h8 x k a b c d)⟩
  have b : g < T.1.2.2.2.1 + 1 := b
  rw [up_g rfl, h4]
  show _ = if g = T.1.2.2.2.1 then fig t n (p + k) else T.2.2.1 g k
  by_cases q1 : g = T.1.2.2.2.1
  · rw [if_pos q1, arrw_in (by omega), show p + (3 * g + k - 3 * T.1.2.2.2.1) = p + k by omega]
  · rw [if_neg q1, arrw_out (by omega)]
    exact h7 g k a (by omega) c d
theorem TR_e {w' : mm_M} {T : TS} {p : Int} (h : TR w T) (hT : TB T) (hw : w' = re_w w t n p) : TR w' (itT T 101 (fun k => fig t n (p + k))) := by
  obtain ⟨h1, h2, h3, h4, h5, h6, h7, h8⟩ := h
  subst hw
  unfold re_w
  have e1 : ∀ k, k ≠ 19 → mm_up (arrw w 10 (7 * w 1 0 19) 7 (fun k => fig t n (p + k))) 1 0 19 (w 1 0 19 + 1) 1 0 k = w 1 0 k := fun k a => (up_k a).trans (arrw_g rfl)
  have eg : ∀ g k, Nat.beq g 1 = false → Nat.beq g 10 = false → mm_up (arrw w 10 (7 * w 1 0 19) 7 (fun k => fig t n (p + k))) 1 0 19 (w 1 0 19 + 1) g 0 k = w g 0 k := fun g k a b => (up_g a).trans (arrw_g b)
  refine ⟨(e1 13 (by decide)).trans h1, fun q => (e1 14 (by decide)).trans (h2 q), (e1 15 (by decide)).trans h3, (e1 17 (by decide)).trans h4, up_s.trans (by rw [h5]; rfl), fun k a b => (eg 8 _ rfl rfl).trans (h6 k a b), fun g k a b c d => (eg 9 _ rfl rfl).trans (h7 g k a b c d), fun g k a b c d => ?_⟩
  have b : g < T.1.2.2.2.2 + 1 := b
  rw [up_g rfl, h5]
  show _ = if g = T.1.2.2.2.2 then fig t n (p + k) else T.2.2.2 g k
  by_cases q1 : g = T.1.2.2.2.2
  · rw [if_pos q1, arrw_in (by omega), show p + (7 * g + k - 7 * T.1.2.2.2.2) = p + k by omega]
  · rw [if_neg q1, arrw_out (by omega)]
    exact h8 g k a (by omega) c d
end ME
