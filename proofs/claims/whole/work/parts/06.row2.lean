/-! ===== arithmetic, stack, fields, arrays ===== -/
section MMR2
variable {K : mm_K} {n : Nat × Nat} {pc : Nat} {ls : List (Option mm_V)} {st : List mm_V} {b : mm_B} {w : mm_M} {Q : Option mm_V → mm_B → mm_M → Prop}
theorem k_iadd {x y : Int} (hd : decode K.1.2.1 pc = .ok (.iadd, 1)) (hz : mm_in (x + y)) (k : mm_Wk K n (pc + 1) ls (.inl (x + y) :: st) b w Q) : mm_Wk K n pc ls (.inl y :: .inl x :: st) b w Q := by
  intro p l e R s m args below meth c X α0 b0 A H locs cells slots α kls ⟨hC, hR, hA, hS, hO, hL, hst, hn⟩
  refine lv_iadd hC.1 hC.2.1 hd ?_
  have k := k p l e R s m args below meth c X α0 b0 A H locs cells slots α kls ⟨hC, hR, hA, hS, hO, hL, mm_stC (mm_stT (mm_stT hst)) hz, hn⟩
  rw [← Int32.ofInt_add]
  exact k
theorem k_isub {x y : Int} (hd : decode K.1.2.1 pc = .ok (.isub, 1)) (hz : mm_in (x - y)) (k : mm_Wk K n (pc + 1) ls (.inl (x - y) :: st) b w Q) : mm_Wk K n pc ls (.inl y :: .inl x :: st) b w Q := by
  intro p l e R s m args below meth c X α0 b0 A H locs cells slots α kls ⟨hC, hR, hA, hS, hO, hL, hst, hn⟩
  refine lv_isub hC.1 hC.2.1 hd ?_
  have k := k p l e R s m args below meth c X α0 b0 A H locs cells slots α kls ⟨hC, hR, hA, hS, hO, hL, mm_stC (mm_stT (mm_stT hst)) hz, hn⟩
  rw [← Int32.ofInt_sub]
  exact k
theorem k_imul {x y : Int} (hd : decode K.1.2.1 pc = .ok (.imul, 1)) (hz : mm_in (x * y)) (k : mm_Wk K n (pc + 1) ls (.inl (x * y) :: st) b w Q) : mm_Wk K n pc ls (.inl y :: .inl x :: st) b w Q := by
  intro p l e R s m args below meth c X α0 b0 A H locs cells slots α kls ⟨hC, hR, hA, hS, hO, hL, hst, hn⟩
  refine lv_imul hC.1 hC.2.1 hd ?_
  have k := k p l e R s m args below meth c X α0 b0 A H locs cells slots α kls ⟨hC, hR, hA, hS, hO, hL, mm_stC (mm_stT (mm_stT hst)) hz, hn⟩
  rw [← Int32.ofInt_mul]
  exact k
theorem mm_nmin {y : Int} (h : mm_in y) (h0 : 0 < y) : ¬ Int32.ofInt y = 0 := fun q => by
  have := congrArg Int32.toInt q
  rw [mm_i1 h] at this
  have h00 : (0 : Int32).toInt = 0 := rfl
  omega
theorem mm_div {x y : Int} (hx : mm_in x) (hy : mm_in y) (h0 : 0 ≤ x) (h1 : 0 < y) : Int32.ofInt x / Int32.ofInt y = Int32.ofInt (x / y) := by
  have hq : x / y ≤ x := Int.ediv_le_self y h0
  have hq0 : 0 ≤ x / y := Int.ediv_nonneg h0 (by omega)
  apply Int32.toInt_inj.mp
  rw [Int32.toInt_div_of_ne_right _ _ (fun q => by have := congrArg Int32.toInt q; rw [mm_i1 hy] at this; have h00 : (-1 : Int32).toInt = -1 := rfl; omega), mm_i1 hx, mm_i1 hy, mm_i1 ⟨by omega, by omega⟩]
  exact Int.tdiv_eq_ediv_of_nonneg h0
theorem k_idiv {x y : Int} (hd : decode K.1.2.1 pc = .ok (.idiv, 1)) (hz : 0 ≤ x ∧ 0 < y) (k : mm_Wk K n (pc + 1) ls (.inl (x / y) :: st) b w Q) : mm_Wk K n pc ls (.inl y :: .inl x :: st) b w Q := by
  intro p l e R s m args below meth c X α0 b0 A H locs cells slots α kls ⟨hC, hR, hA, hS, hO, hL, hst, hn⟩
  have hy : mm_in y := mm_stH hst
  have hx : mm_in x := mm_stH (mm_stT hst)
  refine lv_idiv hC.1 hC.2.1 hd (mm_nmin hy hz.2) ?_
  have k := k p l e R s m args below meth c X α0 b0 A H locs cells slots α kls ⟨hC, hR, hA, hS, hO, hL, mm_stC (mm_stT (mm_stT hst)) ⟨by have := Int.ediv_nonneg hz.1 (Int.le_of_lt hz.2); omega, by have := Int.ediv_le_self y hz.1; have := hx.2; omega⟩, hn⟩
  rw [mm_div hx hy hz.1 hz.2]
  exact k
theorem k_irem {x y : Int} (hd : decode K.1.2.1 pc = .ok (.irem, 1)) (hz : 0 ≤ x ∧ 0 < y) (k : mm_Wk K n (pc + 1) ls (.inl (x % y) :: st) b w Q) : mm_Wk K n pc ls (.inl y :: .inl x :: st) b w Q := by
  intro p l e R s m args below meth c X α0 b0 A H locs cells slots α kls ⟨hC, hR, hA, hS, hO, hL, hst, hn⟩
  have hy : mm_in y := mm_stH hst
  have hx : mm_in x := mm_stH (mm_stT hst)
  refine lv_irem hC.1 hC.2.1 hd (mm_nmin hy hz.2) ?_
  have k := k p l e R s m args below meth c X α0 b0 A H locs cells slots α kls ⟨hC, hR, hA, hS, hO, hL, mm_stC (mm_stT (mm_stT hst)) ⟨by have := Int.emod_nonneg x (show y ≠ 0 by omega); omega, by have := Int.emod_lt_of_pos x hz.2; have := hy.2; omega⟩, hn⟩
  rw [mm_div hx hy hz.1 hz.2, ← Int32.ofInt_mul, ← Int32.ofInt_sub, show x - x / y * y = x % y by have := Int.emod_add_mul_ediv x y; rw [Int.mul_comm] at this; omega]
  exact k
theorem k_iand {x y : Int} (hd : decode K.1.2.1 pc = .ok (.iand, 1)) (k : mm_Wk K n (pc + 1) ls (.inl (mm_and x y) :: st) b w Q) : mm_Wk K n pc ls (.inl y :: .inl x :: st) b w Q := by
  intro p l e R s m args below meth c X α0 b0 A H locs cells slots α kls ⟨hC, hR, hA, hS, hO, hL, hst, hn⟩
  refine lv_iand hC.1 hC.2.1 hd ?_
  have k := k p l e R s m args below meth c X α0 b0 A H locs cells slots α kls ⟨hC, hR, hA, hS, hO, hL, mm_stC (mm_stT (mm_stT hst)) (mm_i2 _), hn⟩
  rw [← mm_i3 (Int32.ofInt x &&& Int32.ofInt y)]
  exact k
theorem k_ior {x y : Int} (hd : decode K.1.2.1 pc = .ok (.ior, 1)) (k : mm_Wk K n (pc + 1) ls (.inl (mm_or x y) :: st) b w Q) : mm_Wk K n pc ls (.inl y :: .inl x :: st) b w Q := by
  intro p l e R s m args below meth c X α0 b0 A H locs cells slots α kls ⟨hC, hR, hA, hS, hO, hL, hst, hn⟩
  refine lv_ior hC.1 hC.2.1 hd ?_
  have k := k p l e R s m args below meth c X α0 b0 A H locs cells slots α kls ⟨hC, hR, hA, hS, hO, hL, mm_stC (mm_stT (mm_stT hst)) (mm_i2 _), hn⟩
  rw [← mm_i3 (Int32.ofInt x ||| Int32.ofInt y)]
  exact k
theorem k_ixor {x y : Int} (hd : decode K.1.2.1 pc = .ok (.ixor, 1)) (k : mm_Wk K n (pc + 1) ls (.inl (mm_xor x y) :: st) b w Q) : mm_Wk K n pc ls (.inl y :: .inl x :: st) b w Q := by
  intro p l e R s m args below meth c X α0 b0 A H locs cells slots α kls ⟨hC, hR, hA, hS, hO, hL, hst, hn⟩
  refine lv_ixor hC.1 hC.2.1 hd ?_
  have k := k p l e R s m args below meth c X α0 b0 A H locs cells slots α kls ⟨hC, hR, hA, hS, hO, hL, mm_stC (mm_stT (mm_stT hst)) (mm_i2 _), hn⟩
  rw [← mm_i3 (Int32.ofInt x ^^^ Int32.ofInt y)]
  exact k
theorem k_ishl {x y : Int} (hd : decode K.1.2.1 pc = .ok (.ishl, 1)) (k : mm_Wk K n (pc + 1) ls (.inl (mm_shl x y) :: st) b w Q) : mm_Wk K n pc ls (.inl y :: .inl x :: st) b w Q := by
  intro p l e R s m args below meth c X α0 b0 A H locs cells slots α kls ⟨hC, hR, hA, hS, hO, hL, hst, hn⟩
  refine lv_ishl hC.1 hC.2.1 hd ?_
  have k := k p l e R s m args below meth c X α0 b0 A H locs cells slots α kls ⟨hC, hR, hA, hS, hO, hL, mm_stC (mm_stT (mm_stT hst)) (mm_i2 _), hn⟩
  rw [← mm_i3 (Int32.ofInt x <<< (Int32.ofInt y &&& 31))]
  exact k
theorem k_ishr {x y : Int} (hd : decode K.1.2.1 pc = .ok (.ishr, 1)) (k : mm_Wk K n (pc + 1) ls (.inl (mm_shr x y) :: st) b w Q) : mm_Wk K n pc ls (.inl y :: .inl x :: st) b w Q := by
  intro p l e R s m args below meth c X α0 b0 A H locs cells slots α kls ⟨hC, hR, hA, hS, hO, hL, hst, hn⟩
  refine lv_ishr hC.1 hC.2.1 hd ?_
  have k := k p l e R s m args below meth c X α0 b0 A H locs cells slots α kls ⟨hC, hR, hA, hS, hO, hL, mm_stC (mm_stT (mm_stT hst)) (mm_i2 _), hn⟩
  rw [← mm_i3 (Int32.ofInt x >>> (Int32.ofInt y &&& 31))]
  exact k
theorem k_ineg {x : Int} (hd : decode K.1.2.1 pc = .ok (.ineg, 1)) (hz : mm_in (-x)) (k : mm_Wk K n (pc + 1) ls (.inl (-x) :: st) b w Q) : mm_Wk K n pc ls (.inl x :: st) b w Q := by
  intro p l e R s m args below meth c X α0 b0 A H locs cells slots α kls ⟨hC, hR, hA, hS, hO, hL, hst, hn⟩
  refine lv_ineg hC.1 hC.2.1 hd ?_
  have k := k p l e R s m args below meth c X α0 b0 A H locs cells slots α kls ⟨hC, hR, hA, hS, hO, hL, mm_stC (mm_stT hst) hz, hn⟩
  rw [← Int32.ofInt_neg]
  exact k
theorem mm_i2c {x : Int} (h : 0 ≤ x ∧ x < 65536) : ((Int32.ofInt x).toUInt32 % 65536).toInt32 = Int32.ofInt x := by
  obtain ⟨k, rfl⟩ : ∃ k : Nat, x = k := ⟨x.toNat, by omega⟩
  have hk : k < 65536 := by omega
  apply Int32.toBitVec_inj.mp
  apply BitVec.eq_of_toNat_eq
  show (((Int32.ofInt (k : Int)).toUInt32 % 65536).toBitVec).toNat = (Int32.ofInt (k : Int)).toBitVec.toNat
  have e : (Int32.ofInt (k : Int)).toBitVec.toNat = k := by
    show (BitVec.ofInt 32 (k : Int)).toNat = k
    rw [BitVec.toNat_ofInt]
    omega
  have e2 : ((Int32.ofInt (k : Int)).toUInt32 % 65536).toNat = k := by
    rw [UInt32.toNat_mod]
    show (Int32.ofInt (k : Int)).toBitVec.toNat % 65536 = k
    rw [e]
    omega
  rw [e]
  exact e2
theorem k_i2c {x : Int} (hd : decode K.1.2.1 pc = .ok (.i2c, 1)) (hz : 0 ≤ x ∧ x < 65536) (k : mm_Wk K n (pc + 1) ls (.inl x :: st) b w Q) : mm_Wk K n pc ls (.inl x :: st) b w Q := by
  intro p l e R s m args below meth c X α0 b0 A H locs cells slots α kls ⟨hC, hR, hA, hS, hO, hL, hst, hn⟩
  exact lv_i2c hC.1 hC.2.1 hd (mm_i2c hz) (k p l e R s m args below meth c X α0 b0 A H locs cells slots α kls ⟨hC, hR, hA, hS, hO, hL, hst, hn⟩)
theorem k_dup {v : mm_V} (hd : decode K.1.2.1 pc = .ok (.dup, 1)) (k : mm_Wk K n (pc + 1) ls (v :: v :: st) b w Q) : mm_Wk K n pc ls (v :: st) b w Q := by
  intro p l e R s m args below meth c X α0 b0 A H locs cells slots α kls ⟨hC, hR, hA, hS, hO, hL, hst, hn⟩
  exact lv_dup hC.1 hC.2.1 hd (mm_cat α v) (k p l e R s m args below meth c X α0 b0 A H locs cells slots α kls ⟨hC, hR, hA, hS, hO, hL, mm_stC hst (mm_stH hst), hn⟩)
theorem k_pop {v : mm_V} (hd : decode K.1.2.1 pc = .ok (.pop, 1)) (k : mm_Wk K n (pc + 1) ls st b w Q) : mm_Wk K n pc ls (v :: st) b w Q := by
  intro p l e R s m args below meth c X α0 b0 A H locs cells slots α kls ⟨hC, hR, hA, hS, hO, hL, hst, hn⟩
  exact lv_pop hC.1 hC.2.1 hd (mm_cat α v) (k p l e R s m args below meth c X α0 b0 A H locs cells slots α kls ⟨hC, hR, hA, hS, hO, hL, mm_stT hst, hn⟩)
theorem mm_nth_mem {α : Type} {l : List α} {i : Nat} {v : α} (h : mm_nth l i = some v) : v ∈ l := by
  induction l generalizing i with
  | nil => cases h
  | cons a r ih =>
    cases i with
    | zero => cases h; exact List.mem_cons_self
    | succ i => exact List.mem_cons_of_mem _ (ih h)
theorem mm_glc : ∀ q ∈ mm_gl, q.1 = 0 → (vwCl[q.2.1]?).map (fun r => r.2.2) = some q.2.2 := by decide +kernel
theorem mm_glN {g c0 N N' : Nat} {C : String} {T : u_T} (hg : mm_gk g = (0, c0, N)) (h : vwCl[c0]? = some (C, T, N')) : N' = N := by
  have hm : (0, c0, N) ∈ mm_gl := by
    unfold mm_gk at hg
    cases hq : mm_nth mm_gl g with
    | none => rw [hq] at hg; cases hg
    | some q =>
      rw [hq] at hg
      have : q = (0, c0, N) := hg
      rw [← this]
      exact mm_nth_mem hq
  have := mm_glc _ hm rfl
  dsimp only at this
  rw [h] at this
  exact Option.some.inj this
theorem k_getI {i : Nat} {g : Nat} {j : Int} {c0 N k0 t : Nat} {ki : Int} (hf : mm_fok K.1.2.2.2.2 (i, c0, k0, t, ki)) (hg : mm_gk g = (0, c0, N)) (hd : decode K.1.2.1 pc = .ok (.getfield i, 3)) {v : mm_V} (hv : v = if Nat.beq t 2 = true then .inr (b.1 g k0) else .inl (w g 0 ki)) (k : mm_Wk K n (pc + 3) ls (v :: st) b w Q) : mm_Wk K n pc ls (.inr (some (g, j)) :: st) b w Q := by
  intro p l e R s m args below meth c X α0 b0 A H locs cells slots α kls ⟨hC, hR, hA, hS, hO, hL, hst, hn⟩
  obtain ⟨C, T, N', ty, h1, h2, h3, h4, h5, h6, h7, h8, hki, -, -⟩ := hf
  have hki : (k0 : Int) = ki := hki
  subst hki
  dsimp only at h1 h5 h6 h7 h8
  have hok := mm_stH hst
  obtain ⟨q0, hk0, hw0⟩ := mm_pos (X := X) (α := α) (w := w) (mm_key hok)
  rw [mm_ce_obj hg] at hw0
  obtain ⟨r, hr1, cell, g1, g2, g3, g4⟩ := hR.1 q0 _ hw0
  have hr : r = (C, T, N') := by rw [h1] at hr1; exact (Option.some.inj hr1).symm
  subst hr
  have hfv : mm_v α v = mm_fv α b w g k0 := by
    unfold mm_fv
    rw [hg, h8, hv]
    split <;> rfl
  have hNN : k0 < N := by rw [← mm_glN hg h1]; exact h5
  have he : ((List.range N).map (mm_fv α b w g))[k0]? = some (mm_v α v) := by
    rw [List.getElem?_map, List.getElem?_range hNN, hfv]
    rfl
  refine va_get hC.1 hC.2.1 hC.2.2.2.2.2.2.1 h2 hC.2.2.2.2.2.1 hC.2.2.2.2.2.2.2.1 hR.1 q0 hw0 h1 k0 h5 (hC.2.2.2.2.2.2.1 _ h6) (fun x hx => by rw [← h7]; exact hx) he hd ?_
  refine k p l e R s m args below meth c X α0 b0 A H locs cells slots α kls ⟨hC, hR, hA, hS, hO, hL, mm_stC (mm_stT hst) ?_, hn⟩
  rw [hv]
  split
  · cases hb : b.1 g k0 with
    | none => trivial
    | some q => exact hR.2.2.2.1 g hok.1 k0 q hb
  · exact hR.2.2.1 g 0 k0
theorem k_dup2 {v u : mm_V} (hd : decode K.1.2.1 pc = .ok (.dup2, 1)) (k : mm_Wk K n (pc + 1) ls (v :: u :: v :: u :: st) b w Q) : mm_Wk K n pc ls (v :: u :: st) b w Q := by
  intro p l e R s m args below meth c X α0 b0 A H locs cells slots α kls ⟨hC, hR, hA, hS, hO, hL, hst, hn⟩
  exact lv_dup2_11 hC.1 hC.2.1 hd (mm_cat α v) (mm_cat α u) (k p l e R s m args below meth c X α0 b0 A H locs cells slots α kls ⟨hC, hR, hA, hS, hO, hL, mm_stC (mm_stC hst (mm_stH (mm_stT hst))) (mm_stH hst), hn⟩)
theorem mm_nar1 {x : Int} (h : 0 ≤ x ∧ x ≤ 1) : narrow .boolean (.int (Int32.ofInt x)) = .int (Int32.ofInt x) := by
  obtain rfl | rfl : x = 0 ∨ x = 1 := by omega
  · rfl
  · rfl
theorem mm_fit1 {x : Int} (h : 0 ≤ x ∧ x ≤ 1) : fits .boolean (.int (Int32.ofInt x)) = true := by
  obtain rfl | rfl : x = 0 ∨ x = 1 := by omega
  · rfl
  · rfl
theorem k_putI {i : Nat} {g : Nat} {j x : Int} {c0 N k0 t : Nat} {ki : Int} (hf : mm_fok K.1.2.2.2.2 (i, c0, k0, t, ki)) (hg : mm_gk g = (0, c0, N)) (ht : t = 0 ∨ (t = 1 ∧ 0 ≤ x ∧ x ≤ 1)) (hd : decode K.1.2.1 pc = .ok (.putfield i, 3)) (k : mm_Wk K n (pc + 3) ls st b (mm_up w g 0 ki x) Q) : mm_Wk K n pc ls (.inl x :: .inr (some (g, j)) :: st) b w Q := by
  intro p l e R s m args below meth c X α0 b0 A H locs cells slots α kls ⟨hC, hR, hA, hS, hO, hL, hst, hn⟩
  obtain ⟨C, T, N', ty, h1, h2, h3, h4, h5, h6, h7, h8, hki, h9, h10⟩ := hf
  have hki : (k0 : Int) = ki := hki
  subst hki
  dsimp only at h1 h5 h6 h7 h8 h9 h10
  have hx : mm_in x := mm_stH hst
  have hok := mm_stH (mm_stT hst)
  have hj : j = 0 := by
    have h1 := mm_keyR (mm_key hok)
    rw [mm_nr_obj hg] at h1
    omega
  subst hj
  obtain ⟨q0, hk0, hw0⟩ := mm_pos (X := X) (α := α) (w := w) (mm_key hok)
  rw [mm_ce_obj hg] at hw0
  have hNN : k0 < N := by rw [← mm_glN hg h1]; exact h5
  have hty : parseFieldDescriptor (T k0).2.2.1 = some (ty k0) := h3 k0 h5
  have hfin : (T k0).2.2.2 = false := by
    rcases ht with ht | ht
    · exact (h9 ht).2
    · exact (h10 ht.1).2
  have hfit : narrow (ty k0) (.int (Int32.ofInt x)) = .int (Int32.ofInt x) ∧ fits (ty k0) (.int (Int32.ofInt x)) = true := by
    rcases ht with ht | ht
    · rw [(h9 ht).1]; exact ⟨rfl, rfl⟩
    · rw [(h10 ht.1).1]; exact ⟨mm_nar1 ht.2, mm_fit1 ht.2⟩
  refine va_put hC.1 hC.2.1 hC.2.2.2.2.2.2.1 h2 ty h3 h4 hC.2.2.2.2.2.1 hC.2.2.2.2.2.2.2.1 hR.1 hR.2.1 hS q0 hw0 h1 k0 h5 (hC.2.2.2.2.2.2.1 _ h6) (fun x hx => by rw [← h7]; exact hx) hfin hty hfit.1 hfit.2 (by simp; exact hNN) hd (fun H1 locs1 hP hD hS => ?_)
  have hset : (mm_wl X α b w).set q0 (α g 0, .inr (c0, ((List.range N).map (mm_fv α b w g)).set k0 (.int (Int32.ofInt x)))) = mm_wl X α b (mm_up w g 0 k0 x) := by
    refine mm_wl_set hR.2.1 hk0 ?_ (fun q hq hne => mm_ce_up hq (mm_key hok) hne)
    rw [mm_ce_obj hg]
    refine congrArg _ (congrArg _ (List.ext_getElem? fun z => ?_))
    by_cases hz : k0 = z
    · subst hz
      rw [List.getElem?_set_self (by simp; exact hNN), List.getElem?_map, List.getElem?_range hNN]
      show _ = some (mm_fv α b (mm_up w g 0 k0 x) g k0)
      unfold mm_fv
      rw [hg, h8]
      have ht2 : Nat.beq t 2 = false := by
        rcases ht with rfl | ⟨rfl, -⟩ <;> rfl
      rw [ht2, if_neg (by decide)]
      unfold mm_up
      rw [if_pos ⟨rfl, rfl, rfl⟩]
    · rw [List.getElem?_set_ne hz, List.getElem?_map, List.getElem?_map]
      cases hr : (List.range N)[z]? with
      | none => rfl
      | some y =>
        have hy : y = z := by
          have := List.getElem?_eq_some_iff.mp hr
          obtain ⟨h, h'⟩ := this
          simp at h'
          exact h'.symm
        subst hy
        show some (mm_fv α b w g y) = some (mm_fv α b (mm_up w g 0 k0 x) g y)
        unfold mm_fv mm_up
        rw [if_neg (show ¬ (g = g ∧ (0 : Int) = 0 ∧ (y : Int) = (k0 : Int)) from fun q => hz (by have := q.2.2; omega))]
  have hP : va_P X.1 vwCl ((mm_wl X α b w).set q0 (α g 0, .inr (c0, ((List.range N).map (mm_fv α b w g)).set k0 (.int (Int32.ofInt x))))) H1 := hP
  have hD : va_D A ((mm_wl X α b w).set q0 (α g 0, .inr (c0, ((List.range N).map (mm_fv α b w g)).set k0 (.int (Int32.ofInt x))))) := hD
  rw [hset] at hP hD
  exact k p l e R s m args below meth c X α0 b0 A H1 locs1 cells slots α kls ⟨hC, ⟨hP, hD, mm_rg_up hR.2.2.1 hx, hR.2.2.2⟩, hA, hS, hO, hL, mm_stT (mm_stT hst), hn⟩
theorem mm_tys {X : mm_X} {k : Nat} (hk : k = 1 ∨ k = 2 ∨ k = 3) : ∃ t0 : Nat, (mm_ty X)[t0]? = some (mm_cA X k, mm_fT k) := by
  rcases hk with rfl | rfl | rfl
  · exact ⟨0, rfl⟩
  · exact ⟨1, rfl⟩
  · exact ⟨2, rfl⟩
theorem k_iaload {g : Nat} {j i : Int} {N r : Nat} (hg : mm_gk g = (1, N, r)) (hi : 0 ≤ i ∧ i < N) (hd : decode K.1.2.1 pc = .ok (.iaload, 1)) (k : mm_Wk K n (pc + 1) ls (.inl (w g j i) :: st) b w Q) : mm_Wk K n pc ls (.inl i :: .inr (some (g, j)) :: st) b w Q := by
  intro p l e R s m args below meth c X α0 b0 A H locs cells slots α kls ⟨hC, hR, hA, hS, hO, hL, hst, hn⟩
  have hx : mm_in i := mm_stH hst
  have hok := mm_stH (mm_stT hst)
  obtain ⟨q0, hk0, hw0⟩ := mm_pos (X := X) (α := α) (w := w) (mm_key hok)
  rw [mm_ce_arr hg (by decide)] at hw0
  obtain ⟨t0, ht0⟩ := mm_tys (X := X) (k := 1) (by decide)
  obtain ⟨h1, h2⟩ := mm_i4 hx hi.1 hi.2
  refine va_iald hC.1 hC.2.1 hC.2.2.2.2.2.2.2.1 hR.1 q0 t0 hw0 ht0 h1 hd ?_
  have k := k p l e R s m args below meth c X α0 b0 A H locs cells slots α kls ⟨hC, hR, hA, hS, hO, hL, mm_stC (mm_stT (mm_stT hst)) (hR.2.2.1 g j i), hn⟩
  rw [h2]
  exact k
theorem k_baload {g : Nat} {j i : Int} {N r : Nat} (hg : mm_gk g = (2, N, r)) (hi : 0 ≤ i ∧ i < N) (hd : decode K.1.2.1 pc = .ok (.baload, 1)) (k : mm_Wk K n (pc + 1) ls (.inl (w g j i) :: st) b w Q) : mm_Wk K n pc ls (.inl i :: .inr (some (g, j)) :: st) b w Q := by
  intro p l e R s m args below meth c X α0 b0 A H locs cells slots α kls ⟨hC, hR, hA, hS, hO, hL, hst, hn⟩
  have hx : mm_in i := mm_stH hst
  have hok := mm_stH (mm_stT hst)
  obtain ⟨q0, hk0, hw0⟩ := mm_pos (X := X) (α := α) (w := w) (mm_key hok)
  rw [mm_ce_arr hg (by decide)] at hw0
  obtain ⟨t0, ht0⟩ := mm_tys (X := X) (k := 2) (by decide)
  obtain ⟨h1, h2⟩ := mm_i4 hx hi.1 hi.2
  refine va_zald hC.1 hC.2.1 hC.2.2.2.2.2.2.2.1 hR.1 q0 t0 hw0 ht0 h1 hd ?_
  have k := k p l e R s m args below meth c X α0 b0 A H locs cells slots α kls ⟨hC, hR, hA, hS, hO, hL, mm_stC (mm_stT (mm_stT hst)) (hR.2.2.1 g j i), hn⟩
  rw [h2]
  exact k
theorem k_caload {g : Nat} {j i : Int} {N r : Nat} (hg : mm_gk g = (3, N, r)) (hi : 0 ≤ i ∧ i < N) (hd : decode K.1.2.1 pc = .ok (.caload, 1)) (k : mm_Wk K n (pc + 1) ls (.inl (w g j i) :: st) b w Q) : mm_Wk K n pc ls (.inl i :: .inr (some (g, j)) :: st) b w Q := by
  intro p l e R s m args below meth c X α0 b0 A H locs cells slots α kls ⟨hC, hR, hA, hS, hO, hL, hst, hn⟩
  have hx : mm_in i := mm_stH hst
  have hok := mm_stH (mm_stT hst)
  obtain ⟨q0, hk0, hw0⟩ := mm_pos (X := X) (α := α) (w := w) (mm_key hok)
  rw [mm_ce_arr hg (by decide)] at hw0
  obtain ⟨t0, ht0⟩ := mm_tys (X := X) (k := 3) (by decide)
  obtain ⟨h1, h2⟩ := mm_i4 hx hi.1 hi.2
  refine va_cald hC.1 hC.2.1 hC.2.2.2.2.2.2.2.1 hR.1 q0 t0 hw0 ht0 h1 hd ?_
  have k := k p l e R s m args below meth c X α0 b0 A H locs cells slots α kls ⟨hC, hR, hA, hS, hO, hL, mm_stC (mm_stT (mm_stT hst)) (hR.2.2.1 g j i), hn⟩
  rw [h2]
  exact k
theorem k_iastore {g : Nat} {j i x : Int} {N r : Nat} (hg : mm_gk g = (1, N, r)) (hi : 0 ≤ i ∧ i < N) (hd : decode K.1.2.1 pc = .ok (.iastore, 1)) (k : mm_Wk K n (pc + 1) ls st b (mm_up w g j i x) Q) : mm_Wk K n pc ls (.inl x :: .inl i :: .inr (some (g, j)) :: st) b w Q := by
  intro p l e R s m args below meth c X α0 b0 A H locs cells slots α kls ⟨hC, hR, hA, hS, hO, hL, hst, hn⟩
  have hx : mm_in x := mm_stH hst
  have hii : mm_in i := mm_stH (mm_stT hst)
  have hok := mm_stH (mm_stT (mm_stT hst))
  obtain ⟨q0, hk0, hw0⟩ := mm_pos (X := X) (α := α) (w := w) (mm_key hok)
  rw [mm_ce_arr hg (by decide)] at hw0
  obtain ⟨t0, ht0⟩ := mm_tys (X := X) (k := 1) (by decide)
  obtain ⟨h1, h2⟩ := mm_i4 hii hi.1 hi.2
  refine va_iast hC.1 hC.2.1 hC.2.2.2.2.2.2.2.1 hR.1 hR.2.1 hS q0 t0 hw0 ht0 h1 hd (fun H1 locs1 hP hD hS => ?_)
  rw [show (Int32.ofInt i).toNatClampNeg = i.toNat by omega, ← mm_up_arr hi.1] at hP hD
  have hset := mm_wl_set (w' := mm_up w g j i x) hR.2.1 hk0 (mm_ce_arr hg (by decide)).symm (fun q hq hne => mm_ce_up hq (mm_key hok) hne)
  rw [hset] at hP hD
  exact k p l e R s m args below meth c X α0 b0 A H1 locs1 cells slots α kls ⟨hC, ⟨hP, hD, mm_rg_up hR.2.2.1 hx, hR.2.2.2⟩, hA, hS, hO, hL, mm_stT (mm_stT (mm_stT hst)), hn⟩
theorem k_bastore {g : Nat} {j i x : Int} {N r : Nat} (hg : mm_gk g = (2, N, r)) (hi : 0 ≤ i ∧ i < N) (hx1 : 0 ≤ x ∧ x ≤ 1) (hd : decode K.1.2.1 pc = .ok (.bastore, 1)) (k : mm_Wk K n (pc + 1) ls st b (mm_up w g j i x) Q) : mm_Wk K n pc ls (.inl x :: .inl i :: .inr (some (g, j)) :: st) b w Q := by
  intro p l e R s m args below meth c X α0 b0 A H locs cells slots α kls ⟨hC, hR, hA, hS, hO, hL, hst, hn⟩
  have hx : mm_in x := mm_stH hst
  have hii : mm_in i := mm_stH (mm_stT hst)
  have hok := mm_stH (mm_stT (mm_stT hst))
  obtain ⟨q0, hk0, hw0⟩ := mm_pos (X := X) (α := α) (w := w) (mm_key hok)
  rw [mm_ce_arr hg (by decide)] at hw0
  obtain ⟨t0, ht0⟩ := mm_tys (X := X) (k := 2) (by decide)
  obtain ⟨h1, h2⟩ := mm_i4 hii hi.1 hi.2
  refine va_zast hC.1 hC.2.1 hC.2.2.2.2.2.2.2.1 hR.1 hR.2.1 hS q0 t0 hw0 ht0 h1 hd (fun H1 locs1 hP hD hS => ?_)
  have hnar : vp_nar .boolean (Int32.ofInt x) = Int32.ofInt x := by
    unfold vp_nar
    rw [mm_nar1 hx1]
  rw [hnar] at hP hD
  rw [show (Int32.ofInt i).toNatClampNeg = i.toNat by omega, ← mm_up_arr hi.1] at hP hD
  have hset := mm_wl_set (w' := mm_up w g j i x) hR.2.1 hk0 (mm_ce_arr hg (by decide)).symm (fun q hq hne => mm_ce_up hq (mm_key hok) hne)
  rw [hset] at hP hD
  exact k p l e R s m args below meth c X α0 b0 A H1 locs1 cells slots α kls ⟨hC, ⟨hP, hD, mm_rg_up hR.2.2.1 hx, hR.2.2.2⟩, hA, hS, hO, hL, mm_stT (mm_stT (mm_stT hst)), hn⟩
theorem k_castore {g : Nat} {j i x : Int} {N r : Nat} (hg : mm_gk g = (3, N, r)) (hi : 0 ≤ i ∧ i < N) (hx1 : 0 ≤ x ∧ x < 65536) (hd : decode K.1.2.1 pc = .ok (.castore, 1)) (k : mm_Wk K n (pc + 1) ls st b (mm_up w g j i x) Q) : mm_Wk K n pc ls (.inl x :: .inl i :: .inr (some (g, j)) :: st) b w Q := by
  intro p l e R s m args below meth c X α0 b0 A H locs cells slots α kls ⟨hC, hR, hA, hS, hO, hL, hst, hn⟩
  have hx : mm_in x := mm_stH hst
  have hii : mm_in i := mm_stH (mm_stT hst)
  have hok := mm_stH (mm_stT (mm_stT hst))
  obtain ⟨q0, hk0, hw0⟩ := mm_pos (X := X) (α := α) (w := w) (mm_key hok)
  rw [mm_ce_arr hg (by decide)] at hw0
  obtain ⟨t0, ht0⟩ := mm_tys (X := X) (k := 3) (by decide)
  obtain ⟨h1, h2⟩ := mm_i4 hii hi.1 hi.2
  refine va_cast hC.1 hC.2.1 hC.2.2.2.2.2.2.2.1 hR.1 hR.2.1 hS q0 t0 hw0 ht0 h1 hd (fun H1 locs1 hP hD hS => ?_)
  have hnar : vp_nar .char (Int32.ofInt x) = Int32.ofInt x := by
    unfold vp_nar
    show ((Int32.ofInt x).toUInt32 % 65536).toInt32 = Int32.ofInt x
    exact mm_i2c hx1
  rw [hnar] at hP hD
  rw [show (Int32.ofInt i).toNatClampNeg = i.toNat by omega, ← mm_up_arr hi.1] at hP hD
  have hset := mm_wl_set (w' := mm_up w g j i x) hR.2.1 hk0 (mm_ce_arr hg (by decide)).symm (fun q hq hne => mm_ce_up hq (mm_key hok) hne)
  rw [hset] at hP hD
  exact k p l e R s m args below meth c X α0 b0 A H1 locs1 cells slots α kls ⟨hC, ⟨hP, hD, mm_rg_up hR.2.2.1 hx, hR.2.2.2⟩, hA, hS, hO, hL, mm_stT (mm_stT (mm_stT hst)), hn⟩
theorem k_aaload {g : Nat} {j i : Int} {N r : Nat} (hg : mm_gk g = (4, N, r)) (hi : 0 ≤ i ∧ i < N) (hd : decode K.1.2.1 pc = .ok (.aaload, 1)) (k : mm_Wk K n (pc + 1) ls (.inr (some (r, i)) :: st) b w Q) : mm_Wk K n pc ls (.inl i :: .inr (some (g, j)) :: st) b w Q := by
  intro p l e R s m args below meth c X α0 b0 A H locs cells slots α kls ⟨hC, hR, hA, hS, hO, hL, hst, hn⟩
  have hx : mm_in i := mm_stH hst
  have hok := mm_stH (mm_stT hst)
  obtain ⟨q0, hk0, hw0⟩ := mm_pos (X := X) (α := α) (w := w) (mm_key hok)
  rw [mm_ce_out hg] at hw0
  obtain ⟨h1, h2⟩ := mm_i4 hx hi.1 hi.2
  have hph := hR.2.2.2.2 g hok.1 (by rw [hg])
  rw [hg] at hph
  have hlt : (Int32.ofInt i).toNatClampNeg < N := by omega
  have hnew : mm_ok b (.inr (some (r, i))) := ⟨hph.1, hi.1, by show i < mm_nr r; rw [hph.2]; exact hi.2⟩
  refine W.aald hC.1 hC.2.1 (hR.1 q0 _ hw0) ((hC.2.2.2.2.2.2.2.1.2 3 (X.2.2.2.2, .array .int) rfl).1 N _) rfl (fun q => by cases q) (by show ¬ (_ ∨ (arrV _ _ _).slots.size ≤ _); rw [arrV_size]; exact h1) (v := .ref (α r i)) (by
      show (arrV _ _ _).slots[_]? = _
      rw [arrV_read _ _ hlt]
      show some (va_rf (if (Int32.ofInt i).toNatClampNeg < N then some (α r (((Int32.ofInt i).toNatClampNeg : Nat) : Int)) else none)) = _
      rw [if_pos hlt, h2]
      rfl) rfl rfl hd ?_
  exact k p l e R s m args below meth c X α0 b0 A H locs cells slots α kls ⟨hC, hR, hA, hS, hO, hL, mm_stC (mm_stT (mm_stT hst)) hnew, hn⟩
theorem k_arraylength {g : Nat} {j : Int} {N r : Nat} (hg : mm_gk g = (1, N, r)) (hN : N < 2147483648) (hd : decode K.1.2.1 pc = .ok (.arraylength, 1)) (k : mm_Wk K n (pc + 1) ls (.inl (N : Int) :: st) b w Q) : mm_Wk K n pc ls (.inr (some (g, j)) :: st) b w Q := by
  intro p l e R s m args below meth c X α0 b0 A H locs cells slots α kls ⟨hC, hR, hA, hS, hO, hL, hst, hn⟩
  have hok := mm_stH hst
  obtain ⟨q0, hk0, hw0⟩ := mm_pos (X := X) (α := α) (w := w) (mm_key hok)
  rw [mm_ce_arr hg (by decide)] at hw0
  obtain ⟨t0, ht0⟩ := mm_tys (X := X) (k := 1) (by decide)
  exact va_alen hC.1 hC.2.1 hC.2.2.2.2.2.2.2.1 hR.1 q0 t0 hw0 ht0 (v := Int32.ofInt (N : Int)) rfl hd (k p l e R s m args below meth c X α0 b0 A H locs cells slots α kls ⟨hC, hR, hA, hS, hO, hL, mm_stC (mm_stT hst) ⟨by omega, by omega⟩, hn⟩)
end MMR2
