/-! ===== an instruction, a row ===== -/
section MMR
variable {K : mm_K} {n : Nat × Nat} {pc : Nat} {ls : List (Option mm_V)} {st : List mm_V} {b : mm_B} {w : mm_M} {Q : Option mm_V → mm_B → mm_M → Prop}
theorem mm_stL {v u : mm_V} {b : mm_B} {st : List mm_V} (h : ∀ x ∈ v :: st, mm_ok b x) (hu : mm_ok b u) : ∀ x ∈ u :: st, mm_ok b x := fun x hx => by
  rcases List.mem_cons.mp hx with rfl | hx
  · exact hu
  · exact h x (List.mem_cons_of_mem _ hx)
theorem mm_stC {u : mm_V} {b : mm_B} {st : List mm_V} (h : ∀ x ∈ st, mm_ok b x) (hu : mm_ok b u) : ∀ x ∈ u :: st, mm_ok b x := fun x hx => by
  rcases List.mem_cons.mp hx with rfl | hx
  · exact hu
  · exact h x hx
theorem mm_stT {u : mm_V} {b : mm_B} {st : List mm_V} (h : ∀ x ∈ u :: st, mm_ok b x) : ∀ x ∈ st, mm_ok b x := fun x hx => h x (List.mem_cons_of_mem _ hx)
theorem mm_stH {u : mm_V} {b : mm_B} {st : List mm_V} (h : ∀ x ∈ u :: st, mm_ok b x) : mm_ok b u := h u List.mem_cons_self
theorem k_iconst {i : Int} (hd : decode K.1.2.1 pc = .ok (.iconst i, 1)) (hi : mm_in i) (k : mm_Wk K n (pc + 1) ls (.inl i :: st) b w Q) : mm_Wk K n pc ls st b w Q := by
  intro p l e R s m args below meth c X α0 b0 A H locs cells slots α kls ⟨hC, hR, hA, hS, hO, hL, hst, hn⟩
  exact lv_iconst hC.1 hC.2.1 hd rfl (k p l e R s m args below meth c X α0 b0 A H locs cells slots α kls ⟨hC, hR, hA, hS, hO, hL, mm_stC hst hi, hn⟩)
theorem mm_b8 {i : Int} (h : -128 ≤ i ∧ i < 128) : (Int8.ofInt i).toInt32 = Int32.ofInt i := by
  apply Int32.toInt_inj.mp
  rw [mm_i1 ⟨by omega, by omega⟩, Int8.toInt_toInt32, Int8.toInt_ofInt_of_le (by omega) (by omega)]
theorem mm_b16 {i : Int} (h : -32768 ≤ i ∧ i < 32768) : (Int16.ofInt i).toInt32 = Int32.ofInt i := by
  apply Int32.toInt_inj.mp
  rw [mm_i1 ⟨by omega, by omega⟩, Int16.toInt_toInt32, Int16.toInt_ofInt_of_le (by omega) (by omega)]
theorem k_bipush {i : Int} (hd : decode K.1.2.1 pc = .ok (.bipush i, 2)) (hi : -128 ≤ i ∧ i < 128) (k : mm_Wk K n (pc + 2) ls (.inl i :: st) b w Q) : mm_Wk K n pc ls st b w Q := by
  intro p l e R s m args below meth c X α0 b0 A H locs cells slots α kls ⟨hC, hR, hA, hS, hO, hL, hst, hn⟩
  exact lv_bipush hC.1 hC.2.1 hd (mm_b8 hi) (k p l e R s m args below meth c X α0 b0 A H locs cells slots α kls ⟨hC, hR, hA, hS, hO, hL, mm_stC hst ⟨by omega, by omega⟩, hn⟩)
theorem k_sipush {i : Int} (hd : decode K.1.2.1 pc = .ok (.sipush i, 3)) (hi : -32768 ≤ i ∧ i < 32768) (k : mm_Wk K n (pc + 3) ls (.inl i :: st) b w Q) : mm_Wk K n pc ls st b w Q := by
  intro p l e R s m args below meth c X α0 b0 A H locs cells slots α kls ⟨hC, hR, hA, hS, hO, hL, hst, hn⟩
  exact lv_sipush hC.1 hC.2.1 hd (mm_b16 hi) (k p l e R s m args below meth c X α0 b0 A H locs cells slots α kls ⟨hC, hR, hA, hS, hO, hL, mm_stC hst ⟨by omega, by omega⟩, hn⟩)
theorem k_iload {i : Nat} {x : Int} (hd : decode K.1.2.1 pc = .ok (.iload i, 2)) (hl : mm_nth ls i = some (some (.inl x))) (k : mm_Wk K n (pc + 2) ls (.inl x :: st) b w Q) : mm_Wk K n pc ls st b w Q := by
  intro p l e R s m args below meth c X α0 b0 A H locs cells slots α kls ⟨hC, hR, hA, hS, hO, hL, hst, hn⟩
  obtain ⟨h1, h2⟩ := hL.2.2.2 i _ hl
  exact lv_iload hC.1 hC.2.1 hd h1 (k p l e R s m args below meth c X α0 b0 A H locs cells slots α kls ⟨hC, hR, hA, hS, hO, hL, mm_stC hst h2, hn⟩)
theorem k_iload_n {i : Fin 4} {x : Int} (hd : decode K.1.2.1 pc = .ok (.iload_n i, 1)) (hl : mm_nth ls i.val = some (some (.inl x))) (k : mm_Wk K n (pc + 1) ls (.inl x :: st) b w Q) : mm_Wk K n pc ls st b w Q := by
  intro p l e R s m args below meth c X α0 b0 A H locs cells slots α kls ⟨hC, hR, hA, hS, hO, hL, hst, hn⟩
  obtain ⟨h1, h2⟩ := hL.2.2.2 i.val _ hl
  exact lv_iload_n hC.1 hC.2.1 hd rfl h1 (k p l e R s m args below meth c X α0 b0 A H locs cells slots α kls ⟨hC, hR, hA, hS, hO, hL, mm_stC hst h2, hn⟩)
theorem k_aload {i : Nat} {x : Nat × Int} (hd : decode K.1.2.1 pc = .ok (.aload i, 2)) (hl : mm_nth ls i = some (some (.inr (some x)))) (k : mm_Wk K n (pc + 2) ls (.inr (some x) :: st) b w Q) : mm_Wk K n pc ls st b w Q := by
  intro p l e R s m args below meth c X α0 b0 A H locs cells slots α kls ⟨hC, hR, hA, hS, hO, hL, hst, hn⟩
  obtain ⟨h1, h2⟩ := hL.2.2.2 i _ hl
  exact lv_aload hC.1 hC.2.1 hd h1 (k p l e R s m args below meth c X α0 b0 A H locs cells slots α kls ⟨hC, hR, hA, hS, hO, hL, mm_stC hst h2, hn⟩)
theorem k_aload_n {i : Fin 4} {x : Nat × Int} (hd : decode K.1.2.1 pc = .ok (.aload_n i, 1)) (hl : mm_nth ls i.val = some (some (.inr (some x)))) (k : mm_Wk K n (pc + 1) ls (.inr (some x) :: st) b w Q) : mm_Wk K n pc ls st b w Q := by
  intro p l e R s m args below meth c X α0 b0 A H locs cells slots α kls ⟨hC, hR, hA, hS, hO, hL, hst, hn⟩
  obtain ⟨h1, h2⟩ := hL.2.2.2 i.val _ hl
  exact lv_aload_n hC.1 hC.2.1 hd rfl h1 (k p l e R s m args below meth c X α0 b0 A H locs cells slots α kls ⟨hC, hR, hA, hS, hO, hL, mm_stC hst h2, hn⟩)
/-- the list that the kit's rows of stores take -/
def mm_al (α : Nat → Int → Nat) (ls : List (Option mm_V)) : List (Nat × Value) := (List.range ls.length).filterMap fun i => match mm_nth ls i with
  | some (some v) => some (i, mm_v α v)
  | _ => none
theorem mm_nth_lt {α : Type} {l : List α} {i : Nat} {v : α} (h : mm_nth l i = some v) : i < l.length := by
  induction l generalizing i with
  | nil => cases h
  | cons a r ih =>
    cases i with
    | zero => exact Nat.zero_lt_succ _
    | succ i => exact Nat.succ_lt_succ (ih h)
theorem mm_nth_set {α : Type} {l : List α} {i j : Nat} {v : α} : mm_nth (mm_set l i v) j = if i = j ∧ i < l.length then some v else mm_nth l j := by
  induction l generalizing i j with
  | nil => simp [mm_set, mm_nth]
  | cons a r ih =>
    cases i with
    | zero =>
      cases j with
      | zero => simp [mm_set, mm_nth]
      | succ j => simp [mm_set, mm_nth]
    | succ i =>
      cases j with
      | zero => simp [mm_set, mm_nth]
      | succ j =>
        show mm_nth (mm_set r i v) j = _
        rw [ih]
        by_cases h : i = j ∧ i < r.length
        · rw [if_pos h, if_pos ⟨by omega, by simp; omega⟩]
        · rw [if_neg h, if_neg (fun q => h ⟨by omega, by have := q.2; simp at this; omega⟩)]
          rfl
theorem mm_set_length {α : Type} {l : List α} {i : Nat} {v : α} : (mm_set l i v).length = l.length := by
  induction l generalizing i with
  | nil => rfl
  | cons a r ih =>
    cases i with
    | zero => rfl
    | succ i => exact congrArg (· + 1) (ih (i := i))
theorem mm_al_has {α : Nat → Int → Nat} {kls : Array Slot} {nL : Nat} (h : mm_L b α ls kls nL) : lv_has kls nL (mm_al α ls) := by
  refine ⟨h.2.1, h.2.2.1, fun q hq => ?_⟩
  obtain ⟨i, hi, hv⟩ := List.mem_filterMap.mp hq
  cases hn : mm_nth ls i with
  | none => rw [hn] at hv; cases hv
  | some o =>
    cases o with
    | none => rw [hn] at hv; cases hv
    | some v =>
      rw [hn] at hv
      cases hv
      exact (h.2.2.2 i v hn).1
theorem mm_cat (α : Nat → Int → Nat) (v : mm_V) : (mm_v α v).category = 1 := by
  rcases v with x | r
  · rfl
  · cases r <;> rfl
theorem mm_L_set {α : Nat → Int → Nat} {kls kls' : Array Slot} {nL i : Nat} {v : mm_V} (h : mm_L b α ls kls nL) (hv : mm_ok b v) (h' : lv_has kls' nL ((i, mm_v α v) :: (mm_al α ls).filter (fun q => !(q.1 == i) && !(q.1 + 1 == i && q.2.category == 2)))) : mm_L b α (mm_set ls i (some v)) kls' nL := by
  refine ⟨by rw [mm_set_length]; exact h.1, h'.1, h'.2.1, fun j u hj => ?_⟩
  rw [mm_nth_set] at hj
  by_cases hc : i = j ∧ i < ls.length
  · rw [if_pos hc] at hj
    cases hj
    rw [← hc.1]
    exact ⟨h'.2.2 _ List.mem_cons_self, hv⟩
  · rw [if_neg hc] at hj
    have hlt : j < ls.length := mm_nth_lt hj
    refine ⟨h'.2.2 (j, mm_v α u) (List.mem_cons_of_mem _ (List.mem_filter.mpr ⟨List.mem_filterMap.mpr ⟨j, List.mem_range.mpr hlt, by rw [hj]⟩, ?_⟩)), (h.2.2.2 j u hj).2⟩
    have hne : (j == i) = false := by
      refine beq_eq_false_iff_ne.mpr fun e => hc ⟨e.symm, by omega⟩
    show (!(j == i) && !(j + 1 == i && (mm_v α u).category == 2)) = true
    rw [hne, mm_cat]
    simp
theorem k_istore {i : Nat} {x : Int} (hd : decode K.1.2.1 pc = .ok (.istore i, 2)) (hi : i < K.1.2.2.1) (k : mm_Wk K n (pc + 2) (mm_set ls i (some (.inl x))) st b w Q) : mm_Wk K n pc ls (.inl x :: st) b w Q := by
  intro p l e R s m args below meth c X α0 b0 A H locs cells slots α kls ⟨hC, hR, hA, hS, hO, hL, hst, hn⟩
  exact lv_istore hC.1 hC.2.1 hd (mm_al_has hL) hi rfl (fun kls' h' => k p l e R s m args below meth c X α0 b0 A H locs cells slots α kls' ⟨hC, hR, hA, hS, hO, mm_L_set hL (mm_stH hst) h', mm_stT hst, hn⟩)
theorem k_istore_n {i : Fin 4} {x : Int} (hd : decode K.1.2.1 pc = .ok (.istore_n i, 1)) (hi : i.val < K.1.2.2.1) (k : mm_Wk K n (pc + 1) (mm_set ls i.val (some (.inl x))) st b w Q) : mm_Wk K n pc ls (.inl x :: st) b w Q := by
  intro p l e R s m args below meth c X α0 b0 A H locs cells slots α kls ⟨hC, hR, hA, hS, hO, hL, hst, hn⟩
  exact lv_istore_n hC.1 hC.2.1 hd rfl (mm_al_has hL) hi rfl (fun kls' h' => k p l e R s m args below meth c X α0 b0 A H locs cells slots α kls' ⟨hC, hR, hA, hS, hO, mm_L_set hL (mm_stH hst) h', mm_stT hst, hn⟩)
theorem k_astore {i : Nat} {x : Nat × Int} (hd : decode K.1.2.1 pc = .ok (.astore i, 2)) (hi : i < K.1.2.2.1) (k : mm_Wk K n (pc + 2) (mm_set ls i (some (.inr (some x)))) st b w Q) : mm_Wk K n pc ls (.inr (some x) :: st) b w Q := by
  intro p l e R s m args below meth c X α0 b0 A H locs cells slots α kls ⟨hC, hR, hA, hS, hO, hL, hst, hn⟩
  exact lv_astore hC.1 hC.2.1 hd (mm_al_has hL) hi rfl (fun kls' h' => k p l e R s m args below meth c X α0 b0 A H locs cells slots α kls' ⟨hC, hR, hA, hS, hO, mm_L_set (v := .inr (some x)) hL (mm_stH hst) h', mm_stT hst, hn⟩)
theorem k_astore_n {i : Fin 4} {x : Nat × Int} (hd : decode K.1.2.1 pc = .ok (.astore_n i, 1)) (hi : i.val < K.1.2.2.1) (k : mm_Wk K n (pc + 1) (mm_set ls i.val (some (.inr (some x)))) st b w Q) : mm_Wk K n pc ls (.inr (some x) :: st) b w Q := by
  intro p l e R s m args below meth c X α0 b0 A H locs cells slots α kls ⟨hC, hR, hA, hS, hO, hL, hst, hn⟩
  exact lv_astore_n hC.1 hC.2.1 hd rfl (mm_al_has hL) hi rfl (fun kls' h' => k p l e R s m args below meth c X α0 b0 A H locs cells slots α kls' ⟨hC, hR, hA, hS, hO, mm_L_set (v := .inr (some x)) hL (mm_stH hst) h', mm_stT hst, hn⟩)
theorem k_iinc {i : Nat} {x z : Int} (hd : decode K.1.2.1 pc = .ok (.iinc i z, 3)) (hl : mm_nth ls i = some (some (.inl x))) (hz : mm_in (x + z)) (k : mm_Wk K n (pc + 3) (mm_set ls i (some (.inl (x + z)))) st b w Q) : mm_Wk K n pc ls st b w Q := by
  intro p l e R s m args below meth c X α0 b0 A H locs cells slots α kls ⟨hC, hR, hA, hS, hO, hL, hst, hn⟩
  have hlt : i < ls.length := mm_nth_lt hl
  have hm : (i, mm_v α (.inl x)) ∈ mm_al α ls := List.mem_filterMap.mpr ⟨i, List.mem_range.mpr hlt, by rw [hl]⟩
  obtain ⟨k0, hk0⟩ := List.mem_iff_getElem?.mp hm
  exact lv_iinc (v := Int32.ofInt (x + z)) hC.1 hC.2.1 hd (mm_al_has hL) hk0 (Int32.ofInt_add x z).symm (by rw [← hL.1]; exact hlt) rfl (fun kls' h' => k p l e R s m args below meth c X α0 b0 A H locs cells slots α kls' ⟨hC, hR, hA, hS, hO, mm_L_set (v := .inl (x + z)) hL hz h', hst, hn⟩)
end MMR
