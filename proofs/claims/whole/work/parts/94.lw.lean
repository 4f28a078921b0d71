/-! ===== the law: its own rows (fixed start; the script lies at ad) ===== -/
def lw_Q (_ : Array Value) (s : State) (o : Outcome) (t : State) : Prop := o = .returned (some (.int 1)) ∧ Framed s o t [] 600000 7302250
def lw_Z (below : List Frame) (a : Array Value) (s : State) : State → Prop := fun t => ∃ o, t.status = .running ∧ Ended t below o ∧ lw_Q a s o t
/-- as mm_Cx, but for the method's name, which nothing here asks for -/
def lw_Cx (K : mm_K) (p : Program) (R : Room) (s : State) (m : MethodId) (args : Array Value) (meth : Method) (c : Code) (X : mm_X) : Prop :=
  p.tables.exec = Jvm.exec ∧ c.code = K.1.2.1 ∧ c.maxLocals = K.1.2.2.1 ∧ meth.sig.returnType = K.1.2.2.2.1 ∧ meth.locks = false ∧ s.vm.findClass K.1.2.2.2.2 = some m.cls ∧ (∀ w ∈ tb_G, w.before args s = true) ∧ va_K X.1 vwCl (mm_ty X) s ∧ True ∧ R.frames = K.2.1.1 ∧ R.locals = K.2.1.2.1 ∧ mm_KO K ∧ mm_E s
def lwC (p : Program) (s : State) (m : MethodId) (meth : Method) (c : Code) (ad L : Nat) (xs : Nat → Int32) (X : mm_X) : Prop := lw_Cx K_law p room_1 s m #[Value.ref ad] meth c X ∧ va_X ad L xs s s.heap ∧ ad < s.heap.size ∧ L ≤ 2560
abbrev lwA (s : State) : Nat → Prop := fun q => s.heap.size ≤ q
def lwZ (s : State) (ad : Nat) (X : mm_X) (n : Nat × Nat) (ls : List (Option mm_V)) (st : List mm_V) (b : mm_B) (w : mm_M) (H : Heap) (locs : List Loc) (cells slots : Nat) (α : Nat → Int → Nat) (kls : Array Slot) : Prop :=
  mm_Rp X α b w H (lwA s) ∧ va_S (lwA s) s.heap H locs ∧ (mm_L b α ls kls 4 ∧ kls[0]? = some (.val (.ref ad))) ∧ (∀ v ∈ st, mm_ok b v) ∧ cells + n.1 ≤ 600000 ∧ slots + n.2 ≤ 7302250
def lwW (p : Program) (l : Launch) (e : Env) (s : State) (m : MethodId) (below : List Frame) (meth : Method) (c : Code) (ad : Nat) (X : mm_X) (n : Nat × Nat) (pc : Nat) (ls : List (Option mm_V)) (st : List mm_V) (b : mm_B) (w : mm_M) : Prop :=
  ∀ (H : Heap) (locs : List Loc) (cells slots : Nat) (α : Nat → Int → Nat) (kls : Array Slot), lwZ s ad X n ls st b w H locs cells slots α kls →
    W p l e room_1 s m #[Value.ref ad] below meth c H locs cells slots (lw_Z below #[Value.ref ad] s) (F0 m pc kls (st.map (mm_v α)))
section LWR
variable {p : Program} {l : Launch} {e : Env} {s : State} {m : MethodId} {below : List Frame} {meth : Method} {c : Code} {ad L : Nat} {xs : Nat → Int32} {X : mm_X} {n n1 : Nat × Nat} {pc : Nat} {ls : List (Option mm_V)} {st : List mm_V} {b : mm_B} {w : mm_M}
theorem l_aload {i : Fin 4} {x : Nat × Int} (hC : lwC p s m meth c ad L xs X) (hd : decode code pc = .ok (.aload_n i, 1)) (hl : mm_nth ls i.val = some (some (.inr (some x)))) (k : lwW p l e s m below meth c ad X n (pc + 1) ls (.inr (some x) :: st) b w) : lwW p l e s m below meth c ad X n pc ls st b w := by
  intro H locs cells slots α kls ⟨hR, hS, ⟨hL, hL0⟩, hst, hn⟩
  obtain ⟨h1, h2⟩ := hL.2.2.2 i.val _ hl
  exact lv_aload_n hC.1.1 hC.1.2.1 hd rfl h1 (k H locs cells slots α kls ⟨hR, hS, ⟨hL, hL0⟩, mm_stC hst h2, hn⟩)
theorem l_iload {i : Fin 4} {x : Int} (hC : lwC p s m meth c ad L xs X) (hd : decode code pc = .ok (.iload_n i, 1)) (hl : mm_nth ls i.val = some (some (.inl x))) (k : lwW p l e s m below meth c ad X n (pc + 1) ls (.inl x :: st) b w) : lwW p l e s m below meth c ad X n pc ls st b w := by
  intro H locs cells slots α kls ⟨hR, hS, ⟨hL, hL0⟩, hst, hn⟩
  obtain ⟨h1, h2⟩ := hL.2.2.2 i.val _ hl
  exact lv_iload_n hC.1.1 hC.1.2.1 hd rfl h1 (k H locs cells slots α kls ⟨hR, hS, ⟨hL, hL0⟩, mm_stC hst h2, hn⟩)
theorem l_iconst {i : Int} (hC : lwC p s m meth c ad L xs X) (hd : decode code pc = .ok (.iconst i, 1)) (hi : mm_in i) (k : lwW p l e s m below meth c ad X n (pc + 1) ls (.inl i :: st) b w) : lwW p l e s m below meth c ad X n pc ls st b w := by
  intro H locs cells slots α kls ⟨hR, hS, hL, hst, hn⟩
  exact lv_iconst hC.1.1 hC.1.2.1 hd rfl (k H locs cells slots α kls ⟨hR, hS, hL, mm_stC hst hi, hn⟩)
theorem l_dup {v : mm_V} (hC : lwC p s m meth c ad L xs X) (hd : decode code pc = .ok (.dup, 1)) (k : lwW p l e s m below meth c ad X n (pc + 1) ls (v :: v :: st) b w) : lwW p l e s m below meth c ad X n pc ls (v :: st) b w := by
  intro H locs cells slots α kls ⟨hR, hS, hL, hst, hn⟩
  exact lv_dup hC.1.1 hC.1.2.1 hd (mm_cat α v) (k H locs cells slots α kls ⟨hR, hS, hL, mm_stC hst (mm_stH hst), hn⟩)
theorem l_goto {off : Int} {tgt : Nat} (hC : lwC p s m meth c ad L xs X) (hd : decode code pc = .ok (.goto off, 3)) (ht : (pc : Int) + off = tgt) (k : lwW p l e s m below meth c ad X n tgt ls st b w) : lwW p l e s m below meth c ad X n pc ls st b w := by
  intro H locs cells slots α kls hZ
  exact lv_goto hC.1.1 hC.1.2.1 hd ht (k H locs cells slots α kls hZ)
theorem kls0_set {α : Nat → Int → Nat} {kls kls' : Array Slot} {i : Nat} {v : Value} (hi : i ≠ 0) (h0 : kls[0]? = some (.val (.ref ad))) (hh : lv_has kls' 4 ((i, v) :: ((0, Value.ref ad) :: mm_al α ls).filter (fun q => !(q.1 == i) && !(q.1 + 1 == i && q.2.category == 2)))) : kls'[0]? = some (.val (.ref ad)) := by
  refine hh.2.2 (0, .ref ad) (List.mem_cons_of_mem _ (List.mem_filter.mpr ⟨List.mem_cons_self, ?_⟩))
  have : (0 == i) = false := beq_eq_false_iff_ne.mpr fun e => hi e.symm
  show (!(0 == i) && !(0 + 1 == i && (Value.ref ad).category == 2)) = true
  rw [this, show (Value.ref ad).category = 1 from rfl]
  simp
theorem al0_has {α : Nat → Int → Nat} {kls : Array Slot} (h : mm_L b α ls kls 4) (h0 : kls[0]? = some (.val (.ref ad))) : lv_has kls 4 ((0, Value.ref ad) :: mm_al α ls) := by
  have hh := mm_al_has h
  refine ⟨hh.1, hh.2.1, fun q hq => ?_⟩
  rcases List.mem_cons.mp hq with rfl | hq
  · exact h0
  · exact hh.2.2 q hq
theorem al0_back {α : Nat → Int → Nat} {kls : Array Slot} {i : Nat} {v : Value} (hh : lv_has kls 4 ((i, v) :: ((0, Value.ref ad) :: mm_al α ls).filter (fun q => !(q.1 == i) && !(q.1 + 1 == i && q.2.category == 2)))) : lv_has kls 4 ((i, v) :: (mm_al α ls).filter (fun q => !(q.1 == i) && !(q.1 + 1 == i && q.2.category == 2))) := by
  refine ⟨hh.1, hh.2.1, fun q hq => hh.2.2 q ?_⟩
  rcases List.mem_cons.mp hq with rfl | hq
  · exact List.mem_cons_self
  · obtain ⟨a, b⟩ := List.mem_filter.mp hq
    exact List.mem_cons_of_mem _ (List.mem_filter.mpr ⟨List.mem_cons_of_mem _ a, b⟩)
theorem l_istore {i : Fin 4} {x : Int} (hC : lwC p s m meth c ad L xs X) (hd : decode code pc = .ok (.istore_n i, 1)) (hi : i.val ≠ 0) (k : lwW p l e s m below meth c ad X n (pc + 1) (mm_set ls i.val (some (.inl x))) st b w) : lwW p l e s m below meth c ad X n pc ls (.inl x :: st) b w := by
  intro H locs cells slots α kls ⟨hR, hS, ⟨hL, hL0⟩, hst, hn⟩
  exact lv_istore_n hC.1.1 hC.1.2.1 hd rfl (al0_has hL hL0) i.isLt rfl (fun kls' h' => k H locs cells slots α kls' ⟨hR, hS, ⟨mm_L_set hL (mm_stH hst) (al0_back h'), kls0_set hi hL0 h'⟩, mm_stT hst, hn⟩)
theorem l_astore {i : Fin 4} {x : Nat × Int} (hC : lwC p s m meth c ad L xs X) (hd : decode code pc = .ok (.astore_n i, 1)) (hi : i.val ≠ 0) (k : lwW p l e s m below meth c ad X n (pc + 1) (mm_set ls i.val (some (.inr (some x)))) st b w) : lwW p l e s m below meth c ad X n pc ls (.inr (some x) :: st) b w := by
  intro H locs cells slots α kls ⟨hR, hS, ⟨hL, hL0⟩, hst, hn⟩
  exact lv_astore_n hC.1.1 hC.1.2.1 hd rfl (al0_has hL hL0) i.isLt rfl (fun kls' h' => k H locs cells slots α kls' ⟨hR, hS, ⟨mm_L_set (v := .inr (some x)) hL (mm_stH hst) (al0_back h'), kls0_set hi hL0 h'⟩, mm_stT hst, hn⟩)
theorem l_iinc {i : Nat} {x z : Int} (hC : lwC p s m meth c ad L xs X) (hd : decode code pc = .ok (.iinc i z, 3)) (hl : mm_nth ls i = some (some (.inl x))) (hi : i ≠ 0) (hz : mm_in (x + z)) (k : lwW p l e s m below meth c ad X n (pc + 3) (mm_set ls i (some (.inl (x + z)))) st b w) : lwW p l e s m below meth c ad X n pc ls st b w := by
  intro H locs cells slots α kls ⟨hR, hS, ⟨hL, hL0⟩, hst, hn⟩
  have hlt : i < ls.length := mm_nth_lt hl
  have hm : (i, mm_v α (.inl x)) ∈ (0, Value.ref ad) :: mm_al α ls := List.mem_cons_of_mem _ (List.mem_filterMap.mpr ⟨i, List.mem_range.mpr hlt, by rw [hl]⟩)
  obtain ⟨k0, hk0⟩ := List.mem_iff_getElem?.mp hm
  exact lv_iinc (v := Int32.ofInt (x + z)) hC.1.1 hC.1.2.1 hd (al0_has hL hL0) hk0 (Int32.ofInt_add x z).symm (by rw [← hL.1]; exact hlt) rfl (fun kls' h' => k H locs cells slots α kls' ⟨hR, hS, ⟨mm_L_set (v := .inl (x + z)) hL hz (al0_back h'), kls0_set hi hL0 h'⟩, hst, hn⟩)
theorem mm_in32 (z : Int32) : mm_in z.toInt := ⟨by have := z.minValue_le_toInt; have e : Int32.minValue.toInt = -2147483648 := by decide
                                                   omega, by have := z.toInt_lt; omega⟩
/-- script[i + k] -/
theorem l_arg {i k : Int} (hC : lwC p s m meth c ad L xs X) (d0 : decode code pc = .ok (.aload_n 0, 1)) (d1 : decode code (pc + 1) = .ok (.iload_n 3, 1)) (d2 : decode code (pc + 2) = .ok (.iconst k, 1)) (d3 : decode code (pc + 3) = .ok (.iadd, 1)) (d4 : decode code (pc + 4) = .ok (.iaload, 1)) (hl : mm_nth ls 3 = some (some (.inl i))) (hi : 0 ≤ i ∧ i + 5 ≤ L) (hk : 0 ≤ k ∧ k < 5)
    (kk : lwW p l e s m below meth c ad X n (pc + 5) ls (.inl (xs (i + k).toNat).toInt :: st) b w) : lwW p l e s m below meth c ad X n pc ls st b w := by
  intro H locs cells slots α kls ⟨hR, hS, ⟨hL, hL0⟩, hst, hn⟩
  obtain ⟨h1, h2⟩ := hL.2.2.2 3 _ hl
  have hLL := hC.2.2.2
  have hbA : ¬ lwA s ad := Nat.not_le.mpr hC.2.2.1
  refine lv_aload_n hC.1.1 hC.1.2.1 d0 rfl hL0 ?_
  refine lv_iload_n hC.1.1 hC.1.2.1 d1 rfl h1 ?_
  refine lv_iconst hC.1.1 hC.1.2.1 d2 rfl ?_
  refine lv_iadd hC.1.1 hC.1.2.1 d3 ?_
  rw [show Int32.ofInt i + Int32.ofInt k = nI (i + k).toNat from by
    apply Int32.toInt_inj.mp
    rw [← Int32.ofInt_add, nI_toInt (by omega), mm_i1 ⟨by omega, by omega⟩]
    omega]
  refine va_sld hC.1.1 hC.1.2.1 hC.2.1 hC.2.2.1 hbA hS (vp_in_nI (by omega) (by omega)) d4 ?_
  rw [nI_clamp (by omega)]
  have := kk H locs cells slots α kls ⟨hR, hS, ⟨hL, hL0⟩, mm_stC hst (mm_in32 _), hn⟩
  rw [List.map_cons, show mm_v α (.inl (xs (i + k).toNat).toInt) = .int (xs (i + k).toNat) from congrArg Value.int (Int32.ofInt_toInt _)] at this
  exact this
end LWR
