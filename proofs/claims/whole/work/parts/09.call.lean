/-! ===== ends, switches, calls, entries ===== -/
def mm_rtn (ret : Option FieldType) (i : Instr) (st : List mm_V) : Option (Option mm_V × Prop) := match ret, i, st with
  | none, .return_, [] => some (none, True)
  | some .int, .ireturn, [.inl x] => some (some (.inl x), True)
  | some .boolean, .ireturn, [.inl x] => some (some (.inl x), 0 ≤ x ∧ x ≤ 1)
  | some (.object _), .areturn, [.inr (some q)] => some (some (.inr (some q)), True)
  | _, _, _ => none
def mm_rtk (il : List mm_I) (ret : Option FieldType) (pc : Nat) (st : List mm_V) : Option (Option mm_V × Prop) := match mm_lk il pc with
  | [] => none
  | q :: _ => mm_rtn ret q.2.1 st
section MMR5
variable {K : mm_K} {n : Nat × Nat} {pc : Nat} {ls : List (Option mm_V)} {st : List mm_V} {b : mm_B} {w : mm_M} {Q : Option mm_V → mm_B → mm_M → Prop}
theorem k_ret {r : Option mm_V} {a : Prop} (h : mm_rtk K.2.2.1 K.1.2.2.2.1 pc st = some (r, a)) (ha : a) (hq : Q r b w) : mm_Wk K n pc ls st b w Q := by
  refine k_ko fun hK => ?_
  unfold mm_rtk at h
  split at h
  · cases h
  · rename_i q z hlk
    obtain ⟨hm, he⟩ := mm_lk_hd hlk
    obtain ⟨h1, h2, h3, h4⟩ := hK.1 q hm
    subst he
    intro p l e R s m args below meth c X α0 b0 A H locs cells slots α kls ⟨hC, hR, hA, hS, hO, hL, hst, hn⟩
    have hdd : mm_il q.2.1 = 1 → decode K.1.2.1 q.1 = .ok (q.2.1, 1) := fun z => by
      rw [z] at h4
      have h5 := h4.resolve_left (by decide)
      rw [h1, show q.2.2 - q.1 = 1 by omega]
    have hQ : (∀ v, r = some v → mm_ok b v) → ∀ t : State, t.heap = H → s.WarmedH t.vm → mm_Qc X α0 b0 A Q args s (.returned (r.map (mm_v α))) t := fun hok t ht hW =>
      ⟨⟨r, b, w, α, rfl, hq, hok, hO, by rw [ht]; exact hR, va_K.moved hW.alike hC.2.2.2.2.2.2.2.1⟩, hS.F ht⟩
    refine W.widen (k := R.cells) (n := R.slots) (by omega) (by omega) ?_
    unfold mm_rtn at h
    split at h
    · rename_i hr hi
      cases h
      rw [hi] at hdd
      exact W.vret hC.1 hC.2.1 (hC.2.2.2.1.trans hr) (hQ (fun v h => by cases h)) hS.2.2 (hdd rfl) hC.2.2.2.2.1
    · rename_i hr hi
      cases h
      rw [hi] at hdd
      exact W.iret hC.1 hC.2.1 (hC.2.2.2.1.trans hr) (hQ (fun v h => by cases h; exact mm_stH hst)) hS.2.2 (hdd rfl) hC.2.2.2.2.1
    · rename_i hr hi
      cases h
      rw [hi] at hdd
      exact W.zret hC.1 hC.2.1 (hC.2.2.2.1.trans hr) (mm_nar1 ha) (hQ (fun v h => by cases h; exact mm_stH hst)) hS.2.2 (hdd rfl) hC.2.2.2.2.1
    · rename_i hr hi
      cases h
      rw [hi] at hdd
      exact W.aret hC.1 hC.2.1 (hC.2.2.2.1.trans hr) (Or.inl ⟨_, rfl⟩) (Or.inr ⟨_, rfl⟩) (hQ (fun v h => by cases h; exact mm_stH hst)) hS.2.2 (hdd rfl) hC.2.2.2.2.1
    · cases h
/-- what is not known any more of the locals -/
def mm_lw : List (Option mm_V) → List (Option mm_V) → Prop
  | [], [] => True
  | a :: r, a' :: r' => (a' = none ∨ a' = a) ∧ mm_lw r r'
  | _, _ => False
theorem mm_lw_ok {ls ls' : List (Option mm_V)} (h : mm_lw ls ls') : ls'.length = ls.length ∧ ∀ i v, mm_nth ls' i = some (some v) → mm_nth ls i = some (some v) := by
  induction ls generalizing ls' with
  | nil =>
    cases ls' with
    | nil => exact ⟨rfl, fun i v h => h⟩
    | cons a r => exact h.elim
  | cons a r ih =>
    cases ls' with
    | nil => exact h.elim
    | cons a' r' =>
      obtain ⟨h1, h2⟩ := h
      obtain ⟨i1, i2⟩ := ih h2
      refine ⟨congrArg (· + 1) i1, fun i v hv => ?_⟩
      cases i with
      | zero =>
        rcases h1 with rfl | rfl
        · cases hv
        · exact hv
      | succ i => exact i2 i v hv
theorem k_lw {ls' : List (Option mm_V)} (h : mm_lw ls ls') (k : mm_Wk K n pc ls' st b w Q) : mm_Wk K n pc ls st b w Q := by
  intro p l e R s m args below meth c X α0 b0 A H locs cells slots α kls ⟨hC, hR, hA, hS, hO, hL, hst, hn⟩
  obtain ⟨h1, h2⟩ := mm_lw_ok h
  exact k p l e R s m args below meth c X α0 b0 A H locs cells slots α kls ⟨hC, hR, hA, hS, hO, ⟨by rw [h1]; exact hL.1, hL.2.1, hL.2.2.1, fun i v hv => hL.2.2.2 i v (h2 i v hv)⟩, hst, hn⟩
/-- the memory's numbers are ints; so is what the stack and the locals hold -/
theorem k_rg (h : mm_rg w → (∀ v ∈ st, mm_ok b v) → (∀ i v, mm_nth ls i = some (some v) → mm_ok b v) → mm_Wk K n pc ls st b w Q) : mm_Wk K n pc ls st b w Q := by
  intro p l e R s m args below meth c X α0 b0 A H locs cells slots α kls hZ
  exact h hZ.2.1.2.2.1 hZ.2.2.2.2.2.2.1 (fun i v hv => (hZ.2.2.2.2.2.1.2.2.2 i v hv).2) p l e R s m args below meth c X α0 b0 A H locs cells slots α kls hZ
theorem k_conseq {Q' : Option mm_V → mm_B → mm_M → Prop} (k : mm_Wk K n pc ls st b w Q') (h : ∀ r b' w', Q' r b' w' → Q r b' w') : mm_Wk K n pc ls st b w Q := by
  intro p l e R s m args below meth c X α0 b0 A H locs cells slots α kls hZ T hT X9
  obtain ⟨t, a1, o, b1, b2, ⟨⟨r, b', w', α', q1, q2, q3⟩, q4⟩, b4⟩ := k p l e R s m args below meth c X α0 b0 A H locs cells slots α kls hZ T hT X9
  exact ⟨t, a1, o, b1, b2, ⟨⟨r, b', w', α', q1, h _ _ _ q2, q3⟩, q4⟩, b4⟩
end MMR5
/-! calls -/
def mm_rm (K : mm_K) (n : Nat × Nat) : Room := { frames := K.2.1.1, cells := n.1, slots := n.2, locals := K.2.1.2.1 }
def mm_ws (K : mm_K) : List Cond := Cond.code K.1.1 K.1.2.1 K.1.2.2.1 K.1.2.2.2.1 :: tb_G
def mm_Pc (X : mm_X) (α : Nat → Int → Nat) (b : mm_B) (w : mm_M) (as : List mm_V) (sz : Nat) : Array Value → State → Prop :=
  va_Pc (as.map (mm_v α)) (fun U => U.heap.size = sz ∧ va_P X.1 vwCl (mm_wl X α b w) U.heap ∧ va_K X.1 vwCl (mm_ty X) U ∧ va_D (fun _ => True) (mm_wl X α b w) ∧ mm_rg w ∧ mm_ph b ∧ (∀ v ∈ as, mm_ok b v) ∧ mm_E U)
/-- the method's word is in the tables -/
def mm_MO (K : mm_K) : Prop := Cond.code K.1.1 K.1.2.1 K.1.2.2.1 K.1.2.2.2.1 ∈ tb_G ∧ (∀ r : vw_C, vwCl[K.2.1.2.2]? = some r → r.1 = K.1.1.cls) ∧ plainName K.1.1.cls = true ∧ K.1.1.cls = K.1.2.2.2.2
/-- a call of the method ends, with an answer and a memory that are in Q -/
def mm_Ev (K : mm_K) (n : Nat × Nat) (as : List mm_V) (b : mm_B) (w : mm_M) (Q : Option mm_V → mm_B → mm_M → Prop) : Prop :=
  mm_MO K ∧ ∀ (l : Launch) (X : mm_X) (α : Nat → Int → Nat) (sz : Nat), Met l K.1.1 (mm_ws K) (mm_rm K n) (mm_Pc X α b w as sz) (mm_Qc X α b (va_A (mm_wl X α b w) sz) Q) n.1 n.2 (va_A (mm_wl X α b w) sz)
theorem mm_good (K : mm_K) (h : mm_MO K) : GoodIn tb_G (mm_ws K) := by
  have hg : ∀ w ∈ tb_G, (w.onTables && w.keeps) = true ∨ ∃ ty, w = .arrayClass ty := fun w hw => by
    have h2 : goodWord w = true := (List.mem_filter.mp hw).2
    exact good_of_word h2
  intro w hw
  rcases List.mem_cons.mp hw with rfl | hw
  · exact ⟨h.1, hg _ h.1⟩
  · exact ⟨hw, hg w hw⟩
theorem mm_blind {X : mm_X} {α : Nat → Int → Nat} {b : mm_B} {w : mm_M} {as : List mm_V} {sz : Nat} : FrameBlind (mm_Pc X α b w as sz) := by
  intro a U g mk q
  obtain ⟨q0, q1, qP, qK, qD, q2, q3, q4, qE⟩ := q
  exact ⟨q0, q1, qP, va_K.moved (u := U) (U := U.calling g mk a) (Vm.Alike.refl U.vm) qK, qD, q2, q3, q4, mm_E.same (u := U) (U := U.calling g mk a) rfl qE⟩
theorem mm_after {p : Program} {l : Launch} {e : Env} {R : Room} {s : State} {m : MethodId} {args : Array Value} {below : List Frame} {meth : Method} {c : Code} {H : Heap} {locs : List Loc} {cells slots mc ms pc : Nat} {ls : Array Slot} {st0 rest : List Value} {X : mm_X} {α : Nat → Int → Nat} {b : mm_B} {A0 A1 free : Nat → Prop} {H0 : Heap} {Qq : State → Prop} {Q : Option mm_V → mm_B → mm_M → Prop} {a : Array Value}
    (hr : va_Run p l e R s m args below meth c H locs cells slots mc ms (F0 m pc ls st0) rest (mm_Qc X α b A1 Q a) free) (hS : va_S A0 H0 H locs) (hA : ∀ q, q < H.size → A1 q → A0 q) (hf : ∀ q, free q → A0 q)
    (kk : ∀ (r : Option mm_V) (b' : mm_B) (w' : mm_M) (α' : Nat → Int → Nat) (H1 : Heap) (locs1 : List Loc), Q r b' w' → (∀ v, r = some v → mm_ok b' v) → mm_old b b' α α' → mm_Rp X α' b' w' H1 A1 → va_S A0 H0 H1 locs1 → W p l e R s m args below meth c H1 locs1 (cells + mc) (slots + ms) Qq (F0 m (pc + 3) ls ((r.map (mm_v α')).toList ++ rest))) : W p l e R s m args below meth c H locs cells slots Qq (F0 m pc ls st0) := by
  intro T hT X9
  obtain ⟨v, st₀, t, T', L, h0, X', hL, e1, e2, ⟨⟨r, b', w', α', hv, hq, hok, hold, hRp, -⟩, hz, hk⟩, st⟩ := hr T hT X9
  cases hv
  rw [h0] at hz hk
  obtain ⟨t2, a1, b1⟩ := kk r b' w' α' T'.heap (locs ++ L) hq hok hold (by rw [e1]; exact hRp)
    ⟨Nat.le_trans hS.1 (by rw [e1]; exact hz), fun q h1 h2 => by rw [e1, hk q (Nat.lt_of_lt_of_le h1 hS.1) (fun z => h2 (hA q (Nat.lt_of_lt_of_le h1 hS.1) z))]; exact hS.2.1 q h1 h2, fun q hq => by
      rcases List.mem_append.mp hq with h | h
      · exact hS.2.2 q h
      · exact hf _ (hL q h)⟩ T' rfl X'
  exact ⟨t2, st t2 a1, b1⟩
def mm_pu (r : Option mm_V) (st : List mm_V) : List mm_V := match r with
  | none => st
  | some v => v :: st
def mm_pop : Nat → List mm_V → List mm_V → Option (List mm_V × List mm_V)
  | 0, as, st => some (as, st)
  | k + 1, as, v :: st => mm_pop k (v :: as) st
  | _ + 1, _, [] => none
def mm_mlk : List (Nat × Nat × Nat × MethodName) → Nat → Option (Nat × Nat × Nat × MethodName)
  | [], _ => none
  | q :: r, i => match Nat.beq q.1 i with
    | true => some q
    | false => mm_mlk r i
/-- kind, name, arguments, rest of the stack, the place behind -/
def mm_clk (il : List mm_I) (ml : List (Nat × Nat × Nat × MethodName)) (pc : Nat) (st : List mm_V) : Option (Nat × MethodName × List mm_V × List mm_V × Nat) := match mm_lk il pc with
  | [] => none
  | q :: _ => match q.2.1 with
    | .invokevirtual i => match mm_mlk ml i with
      | some (_, 0, np, y) => match mm_pop (np + 1) [] st with
        | some (as, st') => some (0, y, as, st', q.2.2)
        | none => none
      | _ => none
    | .invokestatic i => match mm_mlk ml i with
      | some (_, 1, np, y) => match mm_pop np [] st with
        | some (as, st') => some (1, y, as, st', q.2.2)
        | none => none
      | _ => none
    | .invokespecial i => match mm_mlk ml i with
      | some (_, 2, np, y) => match mm_pop (np + 1) [] st with
        | some (as, st') => some (2, y, as, st', q.2.2)
        | none => none
      | some (_, 3, np, y) => match mm_pop (np + 1) [] st with
        | some (as, st') => some (3, y, as, st', q.2.2)
        | none => none
      | _ => none
    | _ => none
