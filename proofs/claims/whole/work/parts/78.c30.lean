/-! ===== the class's whole state; programs that are told alike ===== -/
theorem bts_c {f g : Nat → Bool} : ∀ n : Nat, (∀ i, i < n → f i = g i) → bts f n = bts g n
  | 0, _ => rfl
  | n + 1, h => by
    show bts f n ||| (if f n = true then 2 ^ n else 0) = bts g n ||| (if g n = true then 2 ^ n else 0)
    rw [bts_c n (fun i hi => h i (by omega)), h n (by omega)]
def cAg (nc : Int) (c c' : Int → Int → Int) : Prop := ∀ g k, 0 ≤ g → g < nc → 0 ≤ k → k < 3 → c' g k = c g k
def eAg (ne : Int) (e e' : Int → Int → Int) : Prop := ∀ x k, 0 ≤ x → x < ne → 0 ≤ k → k < 7 → e' x k = e x k
def fAg (nv : Int) (f f' : Int → Int) : Prop := ∀ k, 0 ≤ k → k < 2 * nv → f' k = f k
section PR
variable {np trap nv nc ne : Int} {c c' e e' : Int → Int → Int} {f f' lk lk' : Int → Int}
theorem soB_c {g all : Int} (h : cAg nc c c') (hg : 0 ≤ g ∧ g < nc) : soB c' g all = soB c g all := by
  unfold soB
  rw [h g 0 hg.1 hg.2 (by decide) (by decide), h g 1 hg.1 hg.2 (by decide) (by decide), h g 2 hg.1 hg.2 (by decide) (by decide)]
theorem SO_c (h : cAg nc c c') (all : Int) : SO c' nc all = SO c nc all := by
  unfold SO
  rw [bts_c nc.toNat (fun i hi => soB_c h (by omega))]
theorem go_c {x all : Int} (hc : cAg nc c c') (he : ∀ k, 0 ≤ k → k < 7 → e' x k = e x k) (h2 : e x 2 = 9 ∨ (0 ≤ e x 2 ∧ e x 2 < nc)) : go_ c' e' x all = go_ c e x all := by
  have hgx : gx_ e' x all = gx_ e x all := by
    unfold gx_ nw_
    rw [he 4 (by decide) (by decide), he 5 (by decide) (by decide), he 6 (by decide) (by decide)]
  unfold go_
  rw [hgx, he 2 (by decide) (by decide), he 3 (by decide) (by decide)]
  rcases h2 with z | z
  · rw [if_neg (fun q => q.1 z), if_neg (fun q => q.1 z)]
  · rw [soB_c hc z]
theorem fsB_c (h : fAg nv f f') (all : Int) : fsB f' nv all = fsB f nv all := by
  unfold fsB
  congr 1
  rw [Bool.eq_iff_iff, List.all_eq_true, List.all_eq_true]
  have key : ∀ v : Nat, v < nv.toNat → fvB f' all v = fvB f all v := fun v hv => by
    unfold fvB
    rw [h (2 * v) (by omega) (by omega), h (2 * v + 1) (by omega) (by omega)]
  exact ⟨fun z v hv => by rw [← key v (List.mem_range.mp hv)]; exact z v hv, fun z v hv => by rw [key v (List.mem_range.mp hv)]; exact z v hv⟩
theorem FV_c (h : fAg nv f f') : ∀ n : Nat, FV f' nv n = FV f nv n
  | 0 => rfl
  | n + 1 => by
    show FV f' nv n ++ (if fsB f' nv n = true then [(n : Int)] else []) = FV f nv n ++ (if fsB f nv n = true then [(n : Int)] else [])
    rw [FV_c h n, fsB_c h]
theorem cOK_c {g : Int} (h : cAg nc c c') (hg : 0 ≤ g ∧ g < nc) (hc : cOK c g nv) : cOK c' g nv := by
  unfold cOK at hc ⊢
  rw [h g 0 hg.1 hg.2 (by decide) (by decide), h g 1 hg.1 hg.2 (by decide) (by decide), h g 2 hg.1 hg.2 (by decide) (by decide)]
  exact hc
theorem eOK_c {x : Int} (h : ∀ k, 0 ≤ k → k < 7 → e' x k = e x k) (he : eOK e x np nc nv) : eOK e' x np nc nv := by
  unfold eOK at he ⊢
  rw [h 0 (by decide) (by decide), h 1 (by decide) (by decide), h 2 (by decide) (by decide), h 3 (by decide) (by decide), h 4 (by decide) (by decide), h 5 (by decide) (by decide), h 6 (by decide) (by decide)]
  exact he
theorem PO_c (hc : cAg nc c c') (he : eAg ne e e') (h : PO np trap nv nc ne c e) : PO np trap nv nc ne c' e' := ⟨h.1, h.2.1, h.2.2.1, h.2.2.2.1, h.2.2.2.2.1, fun g a b => cOK_c hc ⟨a, b⟩ (h.2.2.2.2.2.1 g a b), fun x a b => eOK_c (fun k p q => he x k a b p q) (h.2.2.2.2.2.2 x a b)⟩
theorem PC_c {w : mm_M} (hc : cAg nc c c') (he : eAg ne e e') (hf : fAg nv f f') (h : PC w np trap nv nc ne c e f) : PC w np trap nv nc ne c' e' f' := ⟨h.1, fun v a b => by rw [hf (2 * v) (by omega) (by omega), hf (2 * v + 1) (by omega) (by omega)]; exact h.2.1 v a b, fun g k a b p q => by rw [hc g k a b p q]; exact h.2.2.1 g k a b p q, fun x k a b p q => by rw [he x k a b p q]; exact h.2.2.2 x k a b p q⟩
theorem MM_c {w : mm_M} (hc : cAg nc c c') (hf : fAg nv f f') (h : MM w nv nc c f) : MM w nv nc c' f' := by
  unfold MM at h ⊢
  rw [FV_c hf]
  simp only [SO_c hc]
  exact h
theorem FS_c {w : mm_M} (hc : cAg nc c c') (hf : fAg nv f f') (h : FS w c f nv nc) : FS w c' f' nv nc := by
  unfold FS at h ⊢
  simp only [SO_c hc, fsB_c hf]
  exact h
theorem LE_c3 {w : mm_M} {x : Int} (hc : cAg nc c c') (he : ∀ k, 0 ≤ k → k < 7 → e' x k = e x k) (h2 : e x 2 = 9 ∨ (0 ≤ e x 2 ∧ e x 2 < nc)) (h : LE w c e nv nc x) : LE w c' e' nv nc x := by
  unfold LE at h ⊢
  simp only [SO_c hc, go_c hc he h2]
  exact h
theorem FF_c {w : mm_M} (hc : cAg nc c c') (he : ∀ x k, 0 ≤ x → x < ne → 0 ≤ k → k < 7 → k ≠ 3 → e' x k = e x k) (hO : PO np trap nv nc ne c e) (h : FF w c e nv nc ne) : FF w c' e' nv nc ne := fun x a b z => by
  refine LE_c3 hc (fun k p q => ?_) ?_ (h x a b z)
  · unfold eS
    by_cases hk : k = 3
    · rw [if_pos hk, if_pos hk]
    · rw [if_neg hk, if_neg hk]; exact he x k a b p q hk
  · show (if (2 : Int) = 3 then _ else e x 2) = 9 ∨ (0 ≤ (if (2 : Int) = 3 then _ else e x 2) ∧ (if (2 : Int) = 3 then _ else e x 2) < nc)
    rw [if_neg (by decide)]
    exact (hO.2.2.2.2.2.2 x a b).2.2.1
theorem stp_c {x q : Int} (he : ∀ k, 0 ≤ k → k < 7 → e' x k = e x k) (h2 : e x 2 = 9 ∨ (0 ≤ e x 2 ∧ e x 2 < nc)) : stp c e' x q = stp c e x q := by
  unfold stp
  rw [he 0 (by decide) (by decide), he 1 (by decide) (by decide), go_c (c := c) (c' := c) (nc := nc) (fun _ _ _ _ _ _ => rfl) he h2]
theorem Rch_c (he : eAg ne e e') (hO : PO np trap nv nc ne c e) : ∀ (k : Nat) (q : Int), Rch c e' f nv ne k q ↔ Rch c e f nv ne k q
  | 0, q => Iff.rfl
  | k + 1, q => by
    have s := fun x (a : 0 ≤ x) (b : x < ne) q => stp_c (c := c) (q := q) (fun k p q => he x k a b p q) (hO.2.2.2.2.2.2 x a b).2.2.1
    constructor
    · rintro ⟨q', x, h1, h2, h3, h4⟩
      exact ⟨q', x, (Rch_c he hO k q').mp h1, h2, by rw [← s x h2.1 h2.2]; exact h3, h4⟩
    · rintro ⟨q', x, h1, h2, h3, h4⟩
      exact ⟨q', x, (Rch_c he hO k q').mpr h1, h2, by rw [s x h2.1 h2.2]; exact h3, h4⟩
theorem RE_c {Q : List (Int × Int)} (he : eAg ne e e') (hO : PO np trap nv nc ne c e) (h : RE c e f nv ne Q) : RE c e' f nv ne Q := by
  have s := fun x (a : 0 ≤ x) (b : x < ne) q => stp_c (c := c) (q := q) (fun k p q => he x k a b p q) (hO.2.2.2.2.2.2 x a b).2.2.1
  obtain ⟨⟨h1, h2⟩, h3, h4, h5⟩ := h
  refine ⟨⟨fun k a b => ?_, h2⟩, fun s' k y a b d g t i j o z => ?_, fun q hq => h4 q ((Rch_c he hO 0 q).mp hq), h5⟩
  · rcases h1 k a b with ⟨q1, q2⟩ | ⟨q1, q2, q3, j, q4, q5, q6⟩
    · exact Or.inl ⟨q1, (Rch_c he hO 0 _).mpr q2⟩
    · exact Or.inr ⟨q1, q2, q3, j, q4, q5, by rw [s _ (by omega) q3]; exact q6⟩
  · rw [s y i j] at z ⊢
    exact h3 s' k y a b d g t i j o z
end PR
/-- what was kept, the latest first: how much, what was looked at, T of all edges -/
def HI (w : mm_M) (d : Int) (hl : Int → Int → Int) (hw : Int → Int) : Prop := (w 43 0 2 = d ∧ (0 ≤ d ∧ d ≤ 6) ∧ (0 ≤ w 43 0 3 ∧ w 43 0 3 < 6)) ∧ ∀ i, 0 ≤ i → i < d → (∀ p, 0 ≤ p → p < 8 → w 45 ((w 43 0 3 + 5 - i) % 6) p = hl i p ∧ 0 ≤ hl i p ∧ hl i p < 256) ∧ w 46 0 ((w 43 0 3 + 5 - i) % 6) = hw i ∧ 0 ≤ hw i ∧ hw i < 16384
theorem HI_sm {w w' : mm_M} {d : Int} {hl : Int → Int → Int} {hw : Int → Int} {L : List (Nat × Option Int)} (hs : sm L w w') (h1 : (frB L 43 2 && frB L 43 3) = true) (h2 : ∀ k, (frB L 45 k && frB L 46 k) = true) (h : HI w d hl hw) : HI w' d hl hw := by
  simp only [Bool.and_eq_true] at h1 h2
  have a := hs 43 0 2 h1.1
  have b := hs 43 0 3 h1.2
  have e := fun j k => hs 45 j k (h2 k).1
  have g := fun k => hs 46 0 k (h2 k).2
  unfold HI at h ⊢
  simp only [a, b, e, g]
  exact h
theorem HI_keep {w : mm_M} {d v : Int} {hl : Int → Int → Int} {hw lk : Int → Int} (h : HI w d hl hw) (hH : HL w lk) (hv : 0 ≤ v ∧ v < 16384) : HI (hkW w v) (if 6 < d + 1 then 6 else d + 1) (fun i p => if i = 0 then lk p else hl (i - 1) p) (fun i => if i = 0 then v else hw (i - 1)) := by
  obtain ⟨⟨h1, h2, h3⟩, h4⟩ := h
  have e2 : hkW w v 43 0 2 = if 6 < d + 1 then 6 else d + 1 := by unfold hkW; rw [up_s, h1]
  have e3 : hkW w v 43 0 3 = (w 43 0 3 + 1) % 6 := by unfold hkW; rw [up_k (by decide), up_s]
  have e45 : ∀ j k, 0 ≤ k → k < 8 → hkW w v 45 j k = if j = w 43 0 3 then w 42 0 k else w 45 j k := fun j k a b => by
    unfold hkW
    rw [up_g rfl, up_g rfl, up_g rfl]
    by_cases hj : j = w 43 0 3
    · rw [if_pos hj, hj, cp_in (by omega), show 0 + (k - 0) = k by omega]
    · rw [if_neg hj, cp_j hj]
  have e46 : ∀ k, hkW w v 46 0 k = if k = w 43 0 3 then v else w 46 0 k := fun k => by
    unfold hkW
    rw [up_g rfl, up_g rfl, up_at, cp_g rfl]
  generalize hkW w v = w' at *
  refine ⟨⟨e2, by split <;> omega, by omega⟩, fun i a b => ?_⟩
  rw [e3]
  have hd : i < d + 1 ∧ i < 6 := by split at b <;> omega
  by_cases hi : i = 0
  · subst hi
    have hx : ((w 43 0 3 + 1) % 6 + 5 - 0) % 6 = w 43 0 3 := by omega
    rw [hx, e46, if_pos rfl]
    dsimp only
    rw [if_pos rfl]
    refine ⟨fun p a b => ?_, rfl, hv⟩
    rw [e45 _ p a b, if_pos rfl, if_pos rfl]
    exact hH p a b
  · have hx : ((w 43 0 3 + 1) % 6 + 5 - i) % 6 = (w 43 0 3 + 5 - (i - 1)) % 6 := by omega
    have hne : (w 43 0 3 + 5 - (i - 1)) % 6 ≠ w 43 0 3 := by omega
    rw [hx, e46, if_neg hne]
    dsimp only
    rw [if_neg hi]
    obtain ⟨t1, t2⟩ := h4 (i - 1) (by omega) (by omega)
    refine ⟨fun p a b => ?_, t2⟩
    rw [e45 _ p a b, if_neg hne, if_neg hi]
    exact t1 p a b
/-- the class's program, meaning, looks and searches -/
def CB (w : mm_M) (r : Bool × Bool) (y : Bool) (np trap nv nc ne : Int) (c e : Int → Int → Int) (f lk : Int → Int) : Prop :=
  (PO np trap nv nc ne c e ∧ PC w np trap nv nc ne c e f ∧ MM w nv nc c f ∧ HL w lk) ∧ ((w 21 0 7 = 0 ∨ w 21 0 7 = 1) ∧ (w 21 0 8 = 0 ∨ w 21 0 8 = 1)) ∧
  ((r.1 = false → w 21 0 7 = 1) ∧ (w 21 0 7 = 0 → ∃ Q, RK w c nc trap Q ∧ RE c e f nv ne Q)) ∧
  ((y = false → w 21 0 8 = 1) ∧ (y = true → OD w nv ∧ FS w c f nv nc ∧ FF w c e nv nc ne) ∧ (w 21 0 8 = 0 → SD w trap (MQ_ c e f lk nv nc ne) ∧ ∀ x, 0 ≤ x → x < ne → LE w c e nv nc x))
/-- the whole state of the class -/
def CS (w : mm_M) (r : Bool × Bool) (y : Bool) (np trap nv nc ne : Int) (c e : Int → Int → Int) (f lk : Int → Int) (d : Int) (hl : Int → Int → Int) (hw : Int → Int) (t : Int → Int) (n : Int) : Prop := CB w r y np trap nv nc ne c e f lk ∧ HI w d hl hw ∧ CX w t n
/-- groups that hold what CB speaks of -/
def cbG (g : Nat) : Bool := Nat.beq g 21 || (Nat.ble 32 g && Nat.ble g 85 && !(List.elem g [43, 44, 45, 46, 61, 65, 68, 70, 72, 73, 74, 76, 83, 85]))
theorem cbG_fr {L : List (Nat × Option Int)} {w w' : mm_M} (hs : sm L w w') (h : L.all (fun q => !cbG q.1) = true) : ∀ g j k, cbG g = true → w' g j k = w g j k := fun g j k hg => by
  refine hs g j k ?_
  unfold frB
  rw [List.all_eq_true] at h ⊢
  intro q hq
  have h1 := h q hq
  have h2 : Nat.beq q.1 g = false := beqN (fun z => by rw [z, hg] at h1; cases h1)
  rw [h2]
  rfl
theorem nsB_eq {w w' : mm_M} {G : Nat} (h : ∀ k, w' G 0 k = w G 0 k) (s : Int) : nsB w' G s = nsB w G s := by
  unfold nsB
  rw [h]
section PR
variable {np trap nv nc ne : Int} {c c' e e' : Int → Int → Int} {f f' lk lk' : Int → Int} {w w' : mm_M} {r : Bool × Bool} {y : Bool}
theorem RK_eq {Q : List (Int × Int)} (hq : ∀ g j k, cbG g = true → w' g j k = w g j k) (h : RK w c nc trap Q) : RK w' c nc trap Q := by
  have n51 := fun s => nsB_eq (G := 51) (fun k => hq 51 0 k rfl) s
  unfold RK at h ⊢
  simp only [hq 47 0 8 rfl, hq 47 0 9 rfl, fun k => hq 48 0 k rfl, fun k => hq 49 0 k rfl, n51, fun k => hq 52 0 k rfl, fun k => hq 53 0 k rfl, fun k => hq 54 0 k rfl]
  exact h
theorem OD_eq (hq : ∀ g j k, cbG g = true → w' g j k = w g j k) (h : OD w nv) : OD w' nv := by
  unfold OD at h ⊢
  simp only [fun k => hq 60 0 k rfl]
  exact h
theorem LE_eq {x : Int} (hq : ∀ g j k, cbG g = true → w' g j k = w g j k) (h : LE w c e nv nc x) : LE w' c e nv nc x := by
  unfold LE at h ⊢
  simp only [fun k => hq 58 0 k rfl, fun k => hq 57 x k rfl]
  exact h
theorem FF_eq (hq : ∀ g j k, cbG g = true → w' g j k = w g j k) (h : FF w c e nv nc ne) : FF w' c e nv nc ne := fun x a b z => by
  have e59 : w' 59 0 = w 59 0 := funext fun k => hq 59 0 k rfl
  rw [e59] at z ⊢
  exact LE_eq hq (h x a b z)
theorem FS_eq (hq : ∀ g j k, cbG g = true → w' g j k = w g j k) (h : FS w c f nv nc) : FS w' c f nv nc := fun u a b => by rw [nsB_eq (fun k => hq 63 0 k rfl)]; exact h u a b
theorem SD_eq {Q : List (Int × Int)} (hq : ∀ g j k, cbG g = true → w' g j k = w g j k) (h : SD w trap Q) : SD w' trap Q := by
  have n81 := fun s => nsB_eq (G := 81) (fun k => hq 81 0 k rfl) s
  unfold SD QC RW at h ⊢
  simp only [hq 77 0 9 rfl, hq 77 0 10 rfl, fun k => hq 78 0 k rfl, fun k => hq 79 0 k rfl, n81, hq 66 0 5 rfl, fun k => hq 67 0 k rfl]
  exact h
theorem PC_eq (hq : ∀ g j k, cbG g = true → w' g j k = w g j k) (h : PC w np trap nv nc ne c e f) : PC w' np trap nv nc ne c e f := by
  unfold PC at h ⊢
  simp only [hq 32 0 0 rfl, hq 32 0 1 rfl, hq 32 0 2 rfl, hq 32 0 3 rfl, hq 32 0 4 rfl, fun k => hq 33 0 k rfl, fun k => hq 34 0 k rfl, fun j k => hq 36 j k rfl, fun j k => hq 38 j k rfl]
  exact h
theorem MM_eq (hq : ∀ g j k, cbG g = true → w' g j k = w g j k) (h : MM w nv nc c f) : MM w' nv nc c f := by
  unfold MM at h ⊢
  simp only [hq 39 0 3 rfl, hq 39 0 4 rfl, hq 39 0 5 rfl, fun k => hq 40 0 k rfl, fun k => hq 41 0 k rfl]
  exact h
theorem HL_eq (hq : ∀ g j k, cbG g = true → w' g j k = w g j k) (h : HL w lk) : HL w' lk := fun p a b => by rw [hq 42 0 p rfl]; exact h p a b
theorem CB_eq (hq : ∀ g j k, cbG g = true → w' g j k = w g j k) (h : CB w r y np trap nv nc ne c e f lk) : CB w' r y np trap nv nc ne c e f lk := by
  obtain ⟨⟨a1, a2, a3, a4⟩, b1, ⟨c1, c2⟩, d1, d2, d3⟩ := h
  unfold CB
  rw [hq 21 0 7 rfl, hq 21 0 8 rfl]
  refine ⟨⟨a1, PC_eq hq a2, MM_eq hq a3, HL_eq hq a4⟩, b1, ⟨c1, fun z => ?_⟩, d1, fun z => ?_, fun z => ?_⟩
  · obtain ⟨Q, q1, q2⟩ := c2 z
    exact ⟨Q, RK_eq hq q1, q2⟩
  · obtain ⟨q1, q2, q3⟩ := d2 z
    exact ⟨OD_eq hq q1, FS_eq hq q2, FF_eq hq q3⟩
  · obtain ⟨q1, q2⟩ := d3 z
    exact ⟨SD_eq hq q1, fun x a b => LE_eq hq (q2 x a b)⟩
end PR
theorem WA_in {e : Int → Int → Int} {ne : Int} (h : 0 ≤ ne ∧ ne ≤ 14) : 0 ≤ WA e ne ∧ WA e ne < 16384 := by
  unfold WA
  have h1 := bts_lt (fun x : Nat => decide (e x 3 = 1)) ne.toNat
  have h2 : 2 ^ ne.toNat ≤ 2 ^ 14 := Nat.pow_le_pow_right (by decide) (by omega)
  omega
/-- the reference's memory stays -/
def lowS (w w' : mm_M) : Prop := ∀ g j k, g < 21 → w' g j k = w g j k
theorem low_sm {L : List (Nat × Option Int)} {w w' : mm_M} (hs : sm L w w') (h : L.all (fun q => Nat.ble 21 q.1) = true) : lowS w w' := fun g j k hg => by
  refine hs g j k ?_
  unfold frB
  rw [List.all_eq_true] at h ⊢
  intro q hq
  have h1 := Nat.le_of_ble_eq_true (h q hq)
  rw [beqN (show q.1 ≠ g by omega)]
  rfl
theorem low_rf {w : mm_M} : lowS w w := fun _ _ _ _ => rfl
theorem low_tr {w w1 w2 : mm_M} (h1 : lowS w w1) (h2 : lowS w1 w2) : lowS w w2 := fun g j k hg => (h2 g j k hg).trans (h1 g j k hg)
