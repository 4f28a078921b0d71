/-! ===== rows that only the class needs: shifts without a sign, constants, min, max, copies ===== -/
def mm_ushr (x y : Int) : Int := ((Int32.ofInt x).toUInt32 >>> ((Int32.ofInt y).toUInt32 &&& Int32.toUInt32 31)).toInt32.toInt
/-- a row of numbers, copied -/
def mm_cp (w : mm_M) (g0 : Nat) (j0 sp : Int) (g1 : Nat) (j1 dp n : Int) : mm_M := fun g j k => if g = g1 ∧ j = j1 ∧ dp ≤ k ∧ k < dp + n then w g0 j0 (sp + (k - dp)) else w g j k
section MMR9
variable {K : mm_K} {n : Nat × Nat} {pc : Nat} {ls : List (Option mm_V)} {st : List mm_V} {b : mm_B} {w : mm_M} {Q : Option mm_V → mm_B → mm_M → Prop}
theorem k_dec {q : mm_I} {z : List mm_I} (hl : mm_lk K.2.2.1 pc = q :: z) {L : Nat} (hn : mm_il q.2.1 = L + 1) (h : decode K.1.2.1 pc = .ok (q.2.1, L + 1) → mm_Wk K n pc ls st b w Q) : mm_Wk K n pc ls st b w Q := by
  refine k_ko fun hK => h ?_
  obtain ⟨hm, he⟩ := mm_lk_hd hl
  obtain ⟨h1, h2, h3, h4⟩ := hK.1 q hm
  subst he
  have h5 := h4.resolve_left (by omega)
  rw [h1, show q.2.2 - q.1 = L + 1 by omega]
theorem k_iushr {x y : Int} {p' : Nat} {z : List mm_I} (hl : mm_lk K.2.2.1 pc = (pc, .iushr, p') :: z) (k : mm_Wk K n (pc + 1) ls (.inl (mm_ushr x y) :: st) b w Q) : mm_Wk K n pc ls (.inl y :: .inl x :: st) b w Q := by
  refine k_dec hl (L := 0) rfl fun hd => ?_
  intro p l e R s m args below meth c X α0 b0 A H locs cells slots α kls ⟨hC, hR, hA, hS, hO, hL, hst, hn⟩
  refine lv_iushr hC.1 hC.2.1 hd rfl ?_
  have k := k p l e R s m args below meth c X α0 b0 A H locs cells slots α kls ⟨hC, hR, hA, hS, hO, hL, mm_stC (mm_stT (mm_stT hst)) (mm_i2 _), hn⟩
  rw [← mm_i3 (((Int32.ofInt x).toUInt32 >>> ((Int32.ofInt y).toUInt32 &&& Int32.toUInt32 31)).toInt32)]
  exact k
theorem k_ldcw {i p' : Nat} {v : Int} {z : List mm_I} (hl : mm_lk K.2.2.1 pc = (pc, .ldc_w i, p') :: z) (hc : Cond.constant K.1.2.2.2.2 i (Int32.ofInt v) ∈ tb_G) (hv : mm_in v) (k : mm_Wk K n (pc + 3) ls (.inl v :: st) b w Q) : mm_Wk K n pc ls st b w Q := by
  refine k_dec hl (L := 2) rfl fun hd => ?_
  intro p l e R s m args below meth c X α0 b0 A H locs cells slots α kls ⟨hC, hR, hA, hS, hO, hL, hst, hn⟩
  exact lv_ldcw hC.1 hC.2.1 hC.2.2.2.2.2.1 (hC.2.2.2.2.2.2.1 _ hc) hd (k p l e R s m args below meth c X α0 b0 A H locs cells slots α kls ⟨hC, hR, hA, hS, hO, hL, mm_stC hst hv, hn⟩)
theorem mm_catS (α : Nat → Int → Nat) : ∀ st : List mm_V, ((st.map (mm_v α)).map fun v => v.category).sum = st.length
  | [] => rfl
  | v :: r => by
    rw [List.map_cons, List.map_cons, List.sum_cons, mm_catS α r, mm_cat, List.length_cons, Nat.add_comm]
theorem k_mmin {x y : Int} {i p' : Nat} {z : List mm_I} (hl : mm_lk K.2.2.1 pc = (pc, .invokestatic i, p') :: z) (hlink : Cond.methodLink K.1.2.2.2.2 i Lib.Math.min.name ∈ tb_G) (hstat : Cond.static Lib.Math.min.name ∈ tb_G) (hini : Cond.initialized "java/lang/Math" ∈ tb_G) (hcode : Cond.code Lib.Math.min.name Lib.Math.min.code 2 (some .int) ∈ tb_G) (hf : 1 ≤ K.2.1.1) (hlo : st.length + 13 ≤ K.2.1.2.1)
    (k : mm_Wk K n (pc + 3) ls (.inl (if y < x then y else x) :: st) b w Q) : mm_Wk K n pc ls (.inl y :: .inl x :: st) b w Q := by
  refine k_dec hl (L := 2) rfl fun hd => ?_
  intro p l e R s m args below meth c X α0 b0 A H locs cells slots α kls ⟨hC, hR, hA, hS, hO, hL, hst, hn⟩
  have hy : mm_in y := mm_stH hst
  have hx : mm_in x := mm_stH (mm_stT hst)
  have hG := hC.2.2.2.2.2.2.1
  refine va_mmin hC.1 hC.2.1 (hC.2.2.1.trans hL.2.1.symm) hC.2.2.2.2.2.1 (hG _ hlink) (hG _ hstat) (hG _ hini) (hG _ hcode) (by rw [hC.2.2.2.2.2.2.2.2.2.1]; exact hf) (by rw [mm_catS, hC.2.2.2.2.2.2.2.2.2.2.1]; exact hlo) (by omega) (by omega) hd ?_
  have k := k p l e R s m args below meth c X α0 b0 A H locs cells slots α kls ⟨hC, hR, hA, hS, hO, hL, mm_stC (mm_stT (mm_stT hst)) (by show mm_in _; split <;> assumption), hn⟩
  rw [show (if Int32.ofInt y < Int32.ofInt x then Int32.ofInt y else Int32.ofInt x) = Int32.ofInt (if y < x then y else x) by
    by_cases h : y < x
    · rw [if_pos h, if_pos ((mm_i6 hy hx).mpr h)]
    · rw [if_neg h, if_neg (fun q => h ((mm_i6 hy hx).mp q))]]
  exact k
theorem k_mmax {x y : Int} {i p' : Nat} {z : List mm_I} (hl : mm_lk K.2.2.1 pc = (pc, .invokestatic i, p') :: z) (hlink : Cond.methodLink K.1.2.2.2.2 i Lib.Math.max.name ∈ tb_G) (hstat : Cond.static Lib.Math.max.name ∈ tb_G) (hini : Cond.initialized "java/lang/Math" ∈ tb_G) (hcode : Cond.code Lib.Math.max.name Lib.Math.max.code 2 (some .int) ∈ tb_G) (hf : 1 ≤ K.2.1.1) (hlo : st.length + 13 ≤ K.2.1.2.1)
    (k : mm_Wk K n (pc + 3) ls (.inl (if x < y then y else x) :: st) b w Q) : mm_Wk K n pc ls (.inl y :: .inl x :: st) b w Q := by
  refine k_dec hl (L := 2) rfl fun hd => ?_
  intro p l e R s m args below meth c X α0 b0 A H locs cells slots α kls ⟨hC, hR, hA, hS, hO, hL, hst, hn⟩
  have hy : mm_in y := mm_stH hst
  have hx : mm_in x := mm_stH (mm_stT hst)
  have hG := hC.2.2.2.2.2.2.1
  refine va_mmax hC.1 hC.2.1 (hC.2.2.1.trans hL.2.1.symm) hC.2.2.2.2.2.1 (hG _ hlink) (hG _ hstat) (hG _ hini) (hG _ hcode) (by rw [hC.2.2.2.2.2.2.2.2.2.1]; exact hf) (by rw [mm_catS, hC.2.2.2.2.2.2.2.2.2.2.1]; exact hlo) (by omega) (by omega) hd ?_
  have k := k p l e R s m args below meth c X α0 b0 A H locs cells slots α kls ⟨hC, hR, hA, hS, hO, hL, mm_stC (mm_stT (mm_stT hst)) (by show mm_in _; split <;> assumption), hn⟩
  rw [show (if Int32.ofInt x < Int32.ofInt y then Int32.ofInt y else Int32.ofInt x) = Int32.ofInt (if x < y then y else x) by
    by_cases h : x < y
    · rw [if_pos h, if_pos ((mm_i6 hx hy).mpr h)]
    · rw [if_neg h, if_neg (fun q => h ((mm_i6 hx hy).mp q))]]
  exact k
theorem mm_ce_off {X : mm_X} {α : Nat → Int → Nat} {w' : mm_M} {q : Nat × Int} (hq : q ∈ mm_ks b) (hu : ∀ z, w' q.1 q.2 z = w q.1 q.2 z) : mm_ce X α b w' q.1 q.2 = mm_ce X α b w q.1 q.2 := by
  obtain ⟨g', j'⟩ := q
  show mm_ce X α b w' g' j' = mm_ce X α b w g' j'
  have hu : ∀ z, w' g' j' z = w g' j' z := hu
  unfold mm_ce
  by_cases h0 : (mm_gk g').1 = 0
  · rw [if_pos h0, if_pos h0]
    have hj : j' = 0 := by
      have h1 := mm_keyR hq
      rw [mm_nr_obj (c := (mm_gk g').2.1) (n := (mm_gk g').2.2) (by rw [← h0])] at h1
      omega
    subst hj
    refine congrArg _ (congrArg _ (List.map_congr_left fun z _ => ?_))
    unfold mm_fv
    rw [hu z]
  · rw [if_neg h0, if_neg h0]
    by_cases h4 : (mm_gk g').1 = 4
    · rw [if_pos h4, if_pos h4]
    · rw [if_neg h4, if_neg h4]
      refine congrArg _ (congrArg _ (congrArg _ (congrArg _ (funext fun z => ?_))))
      rw [hu]
theorem k_copy {g0 g1 : Nat} {j0 j1 sp dp m : Int} {N0 r0 N1 r1 i p' : Nat} {z : List mm_I} (hl : mm_lk K.2.2.1 pc = (pc, .invokestatic i, p') :: z) (hlink : Cond.methodLink K.1.2.2.2.2 i arraycopyName ∈ tb_G) (hnat : Cond.native arraycopyName ∈ tb_G) (hstat : Cond.static arraycopyName ∈ tb_G) (hini : Cond.initialized "java/lang/System" ∈ tb_G) (hg0 : mm_gk g0 = (1, N0, r0)) (hg1 : mm_gk g1 = (1, N1, r1)) (hs : (0 ≤ sp ∧ sp + m ≤ N0) ∧ (0 ≤ dp ∧ dp + m ≤ N1) ∧ 0 ≤ m) (hf : 1 ≤ K.2.1.1) (hlo : st.length + (nativeFrameWords "java/lang/System" "arraycopy" 5 + 11) ≤ K.2.1.2.1)
    (k : mm_Wk K n (pc + 3) ls st b (mm_cp w g0 j0 sp g1 j1 dp m) Q) : mm_Wk K n pc ls (.inl m :: .inl dp :: .inr (some (g1, j1)) :: .inl sp :: .inr (some (g0, j0)) :: st) b w Q := by
  refine k_dec hl (L := 2) rfl fun hd => ?_
  intro p l e R s mm args below meth c X α0 b0 A H locs cells slots α kls ⟨hC, hR, hA, hS, hO, hL, hst, hn⟩
  have hm : mm_in m := mm_stH hst
  have hdp : mm_in dp := mm_stH (mm_stT hst)
  have hk1 := mm_stH (mm_stT (mm_stT hst))
  have hsp : mm_in sp := mm_stH (mm_stT (mm_stT (mm_stT hst)))
  have hk0 := mm_stH (mm_stT (mm_stT (mm_stT (mm_stT hst))))
  have hG := hC.2.2.2.2.2.2.1
  obtain ⟨q0, e0, w0⟩ := mm_pos (X := X) (α := α) (w := w) (mm_key hk0)
  obtain ⟨q1, e1, w1⟩ := mm_pos (X := X) (α := α) (w := w) (mm_key hk1)
  rw [mm_ce_arr hg0 (by decide)] at w0
  rw [mm_ce_arr hg1 (by decide)] at w1
  obtain ⟨t0, ht0⟩ := mm_tys (X := X) (k := 1) (by decide)
  have nc : ∀ {v : Int}, mm_in v → 0 ≤ v → (Int32.ofInt v).toNatClampNeg = v.toNat ∧ ¬ Int32.ofInt v < 0 := fun {v} hv h0 => by
    refine ⟨?_, fun q => ?_⟩
    · show (Int32.ofInt v).toInt.toNat = v.toNat
      rw [mm_i1 hv]
    · have := (mm_i6 hv (y := 0) (by decide)).mp q
      omega
  obtain ⟨a1, a2⟩ := nc hsp hs.1.1
  obtain ⟨b1, b2⟩ := nc hdp hs.2.1.1
  obtain ⟨c1, c2⟩ := nc hm hs.2.2
  refine va_copyi hC.1 hC.2.1 (hC.2.2.1.trans hL.2.1.symm) hC.2.2.2.2.2.1 (hG _ hlink) (hG _ hnat) (hG _ hstat) (hG _ hini) hC.2.2.2.2.2.2.2.1 hR.1 hR.2.1 hS q0 q1 t0 t0 w0 w1 ht0 ht0 rfl a2 b2 c2 (by rw [a1, c1]; omega) (by rw [b1, c1]; omega) (fun _ _ => rfl) (by rw [hC.2.2.2.2.2.2.2.2.2.1]; exact hf) (by rw [mm_catS, hC.2.2.2.2.2.2.2.2.2.2.1]; exact hlo) hd (fun H1 locs1 hP hD hS => ?_)
  have hcp : va_cpy (fun i : Nat => Int32.ofInt (w g0 j0 (i : Int))) (fun i : Nat => Int32.ofInt (w g1 j1 (i : Int))) (Int32.ofInt sp).toNatClampNeg (Int32.ofInt dp).toNatClampNeg (Int32.ofInt m).toNatClampNeg = fun i : Nat => Int32.ofInt (mm_cp w g0 j0 sp g1 j1 dp m g1 j1 (i : Int)) := by
    funext i
    unfold va_cpy mm_cp
    rw [a1, b1, c1]
    by_cases h : dp.toNat ≤ i ∧ i < dp.toNat + m.toNat
    · rw [if_pos h, if_pos ⟨rfl, rfl, by omega, by omega⟩]
      show Int32.ofInt (w g0 j0 ((sp.toNat + (i - dp.toNat) : Nat) : Int)) = _
      rw [show ((sp.toNat + (i - dp.toNat) : Nat) : Int) = sp + (i - dp) by omega]
    · rw [if_neg h, if_neg (fun q => h ⟨by omega, by omega⟩)]
  rw [hcp] at hP hD
  have hset := mm_wl_set (w' := mm_cp w g0 j0 sp g1 j1 dp m) hR.2.1 e1 (mm_ce_arr hg1 (by decide)).symm (fun q hq hne => mm_ce_off hq (fun z => by
    unfold mm_cp
    refine if_neg fun h => hne ?_
    rw [← h.1, ← h.2.1]))
  rw [hset] at hP hD
  refine k p l e R s mm args below meth c X α0 b0 A H1 locs1 cells slots α kls ⟨hC, ⟨hP, hD, fun g j k => ?_, hR.2.2.2⟩, hA, hS, hO, hL, mm_stT (mm_stT (mm_stT (mm_stT (mm_stT hst)))), hn⟩
  unfold mm_cp
  split
  · exact hR.2.2.1 _ _ _
  · exact hR.2.2.1 _ _ _
end MMR9
