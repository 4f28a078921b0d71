/-! ===== what is made ===== -/
def zr (w : mm_M) (g : Nat) : mm_M := fun g' j k => match Nat.beq g' g with
  | true => 0
  | false => w g' j k
def bN (b : mm_B) (g : Nat) : mm_B := (fun g' k => match Nat.beq g' g with
  | true => none
  | false => b.1 g' k, b.2 ++ [g])
def bR (b : mm_B) (g k : Nat) (r : Option (Nat × Int)) : mm_B := (fun g' k' => match Nat.beq g' g && Nat.beq k' k with
  | true => r
  | false => b.1 g' k', b.2)
def aN (α : Nat → Int → Nat) (g : Nat) (f : Int → Nat) : Nat → Int → Nat := fun g' j => match Nat.beq g' g with
  | true => f j
  | false => α g' j
theorem beqN {g g' : Nat} (h : g' ≠ g) : Nat.beq g' g = false := by
  cases hb : Nat.beq g' g with
  | false => rfl
  | true => exact absurd (Nat.eq_of_beq_eq_true hb) h
theorem zr_o {w : mm_M} {g g' : Nat} {j k : Int} (h : g' ≠ g) : zr w g g' j k = w g' j k := by
  unfold zr
  rw [beqN h]
theorem zr_s {w : mm_M} {g : Nat} {j k : Int} : zr w g g j k = 0 := by
  unfold zr
  rw [Nat.beq_refl]
theorem aN_o {α : Nat → Int → Nat} {g g' : Nat} {f : Int → Nat} {j : Int} (h : g' ≠ g) : aN α g f g' j = α g' j := by
  unfold aN
  rw [beqN h]
theorem aN_s {α : Nat → Int → Nat} {g : Nat} {f : Int → Nat} {j : Int} : aN α g f g j = f j := by
  unfold aN
  rw [Nat.beq_refl]
theorem bN_o {b : mm_B} {g g' k : Nat} (h : g' ≠ g) : (bN b g).1 g' k = b.1 g' k := by
  unfold bN
  show (match Nat.beq g' g with
    | true => none
    | false => b.1 g' k) = _
  rw [beqN h]
theorem bN_s {b : mm_B} {g k : Nat} : (bN b g).1 g k = none := by
  unfold bN
  show (match Nat.beq g g with
    | true => none
    | false => b.1 g k) = _
  rw [Nat.beq_refl]
theorem zr_rg {w : mm_M} {g : Nat} (h : mm_rg w) : mm_rg (zr w g) := fun g' j k => by
  unfold zr
  split
  · decide
  · exact h g' j k
/-- what lives stays as it is -/
def mm_agr (b b' : mm_B) (α α' : Nat → Int → Nat) (w w' : mm_M) : Prop := ∀ g ∈ b.2, (∀ k, b'.1 g k = b.1 g k) ∧ (∀ j, α' g j = α g j) ∧ ∀ j k, w' g j k = w g j k
theorem agr_ce {X : mm_X} {α α' : Nat → Int → Nat} {b b' : mm_B} {w w' : mm_M} (h : mm_agr b b' α α' w w') (hp : mm_ph b) {q : Nat × Int} (hq : q ∈ mm_ks b) : mm_ce X α' b' w' q.1 q.2 = mm_ce X α b w q.1 q.2 := by
  obtain ⟨hg, -⟩ := mm_keyR hq
  obtain ⟨h1, h2, h3⟩ := h q.1 hg
  unfold mm_ce
  by_cases h0 : (mm_gk q.1).1 = 0
  · rw [if_pos h0, if_pos h0]
    refine congrArg _ (congrArg _ (List.map_congr_left fun z _ => ?_))
    unfold mm_fv
    rw [h1, h3]
    split
    · cases hb : b.1 q.1 z with
      | none => rfl
      | some r =>
        show Value.ref (α' r.1 r.2) = Value.ref (α r.1 r.2)
        rw [(h r.1 (hp.1 q.1 hg z r hb).1).2.1]
    · rfl
  · rw [if_neg h0, if_neg h0]
    by_cases h4 : (mm_gk q.1).1 = 4
    · rw [if_pos h4, if_pos h4]
      have hr := (h _ (hp.2 q.1 hg h4).1).2.1
      refine congrArg _ (congrArg _ (congrArg _ (congrArg _ (congrArg _ (congrArg _ (congrArg _ (funext fun z => ?_)))))))
      rw [hr]
    · rw [if_neg h4, if_neg h4]
      refine congrArg _ (congrArg _ (congrArg _ (congrArg _ (funext fun z => ?_))))
      rw [h3]
theorem agr_wl {X : mm_X} {α α' : Nat → Int → Nat} {b b' : mm_B} {w w' : mm_M} {G : List Nat} (h : mm_agr b b' α α' w w') (hp : mm_ph b) (hb : b'.2 = b.2 ++ G) : mm_wl X α' b' w' = mm_wl X α b w ++ (G.flatMap fun g => (List.range (mm_nr g)).map fun j : Nat => (g, (j : Int))).map fun q => (α' q.1 q.2, mm_ce X α' b' w' q.1 q.2) := by
  have e : mm_ks b' = mm_ks b ++ G.flatMap fun g => (List.range (mm_nr g)).map fun j : Nat => (g, (j : Int)) := by
    unfold mm_ks
    rw [hb, List.flatMap_append]
  unfold mm_wl
  rw [e, List.map_append]
  congr 1
  refine List.map_congr_left fun q hq => ?_
  rw [agr_ce h hp hq, (h q.1 (mm_keyR hq).1).2.1]
theorem agr_v {α α' : Nat → Int → Nat} {b b' : mm_B} {w w' : mm_M} (h : mm_agr b b' α α' w w') {v : mm_V} (hv : mm_ok b v) : mm_v α' v = mm_v α v := by
  rcases v with x | r
  · rfl
  · cases r with
    | none => rfl
    | some q =>
      show Value.ref _ = Value.ref _
      rw [(h q.1 hv.1).2.1]
theorem agr_st {α α' : Nat → Int → Nat} {b b' : mm_B} {w w' : mm_M} (h : mm_agr b b' α α' w w') {st : List mm_V} (hv : ∀ v ∈ st, mm_ok b v) : st.map (mm_v α') = st.map (mm_v α) := List.map_congr_left fun v hx => agr_v h (hv v hx)
theorem agr_ok {b b' : mm_B} (hsub : ∀ g ∈ b.2, g ∈ b'.2) {v : mm_V} (hv : mm_ok b v) : mm_ok b' v := by
  rcases v with x | r
  · exact hv
  · cases r with
    | none => trivial
    | some q => exact ⟨hsub _ hv.1, hv.2⟩
theorem agr_L {α α' : Nat → Int → Nat} {b b' : mm_B} {w w' : mm_M} {ls : List (Option mm_V)} {kls : Array Slot} {nL : Nat} (h : mm_agr b b' α α' w w') (hsub : ∀ g ∈ b.2, g ∈ b'.2) (hL : mm_L b α ls kls nL) : mm_L b' α' ls kls nL := by
  obtain ⟨h1, h2, h3, h4⟩ := hL
  refine ⟨h1, h2, h3, fun i v hv => ?_⟩
  obtain ⟨a1, a2⟩ := h4 i v hv
  exact ⟨by rw [agr_v h a2]; exact a1, agr_ok hsub a2⟩
theorem agr_old {α0 α α' : Nat → Int → Nat} {b0 b b' : mm_B} {w w' : mm_M} (h : mm_agr b b' α α' w w') (hsub : ∀ g ∈ b.2, g ∈ b'.2) (hO : mm_old b0 b α0 α) : mm_old b0 b' α0 α' := fun g hg => by
  obtain ⟨a1, a2⟩ := hO g hg
  exact ⟨hsub g a1, fun j => by rw [(h g a1).2.1 j]; exact a2 j⟩
theorem agr_N {b : mm_B} {w : mm_M} {α : Nat → Int → Nat} {g : Nat} {f : Int → Nat} (hg : g ∉ b.2) : mm_agr b (bN b g) α (aN α g f) w (zr w g) := fun g' hg' => by
  have hne : g' ≠ g := fun z => hg (z ▸ hg')
  exact ⟨fun k => bN_o hne, fun j => aN_o hne, fun j k => zr_o hne⟩
theorem ph_N {b : mm_B} {g : Nat} (h : mm_ph b) (h4 : (mm_gk g).1 ≠ 4) (hg : g ∉ b.2) : mm_ph (bN b g) := by
  refine ⟨fun g' hg' k q hq => ?_, fun g' hg' z => ?_⟩
  · by_cases hne : g' = g
    · rw [hne, bN_s] at hq; cases hq
    · rw [bN_o hne] at hq
      have hb : g' ∈ b.2 := (List.mem_append.mp hg').resolve_right (fun z => hne (List.mem_singleton.mp z))
      exact agr_ok (fun x hx => List.mem_append_left _ hx) (h.1 g' hb k q hq)
  · have hne : g' ≠ g := fun z2 => h4 (z2 ▸ z)
    have hb : g' ∈ b.2 := (List.mem_append.mp hg').resolve_right (fun z => hne (List.mem_singleton.mp z))
    obtain ⟨a1, a2⟩ := h.2 g' hb z
    exact ⟨List.mem_append_left _ a1, a2⟩
section MMR10
variable {K : mm_K} {n n1 : Nat × Nat} {pc : Nat} {ls : List (Option mm_V)} {st : List mm_V} {b : mm_B} {w : mm_M} {Q : Option mm_V → mm_B → mm_M → Prop}
/-- a class whose objects are made: its number, place in the pool -/
def mm_cok (own : String) (i c0 : Nat) : Prop := ∃ (C : String) (T : u_T) (N : Nat) (ty : Nat → FieldType), vwCl[c0]? = some (C, T, N) ∧ (∀ w ∈ u_ws C T N, w ∈ tb_G) ∧ (∀ k, k < N → parseFieldDescriptor (T k).2.2.1 = some (ty k)) ∧ Cond.classLink own i C ∈ tb_G ∧ Cond.instantiable C N ∈ tb_G ∧ Cond.initialized C ∈ tb_G ∧ ∀ j, j < N → defaultValue (ty j) = if mm_fr c0 j = true then .null else .int 0
theorem k_newo {i p' g c0 N : Nat} {z : List mm_I} (hl : mm_lk K.2.2.1 pc = (pc, .new i, p') :: z) (hg : mm_gk g = (0, c0, N)) (hc : mm_cok K.1.2.2.2.2 i c0) (hgn : g ∉ b.2) (hn1 : n.1 = n1.1 + 1 ∧ n.2 = n1.2 + N) (k : mm_Wk K n1 (pc + 3) ls (.inr (some (g, 0)) :: st) (bN b g) (zr w g) Q) : mm_Wk K n pc ls st b w Q := by
  refine k_dec hl (L := 2) rfl fun hd => ?_
  intro p l e R s m args below meth c X α0 b0 A H locs cells slots α kls ⟨hC, hR, hA, hS, hO, hL, hst, hn⟩
  obtain ⟨C, T, N', ty, h1, h2, h3, h4, h5, h6, h7⟩ := hc
  have hNN : N' = N := by rw [← mm_glN hg h1]
  subst hNN
  have hG := hC.2.2.2.2.2.2.1
  refine va_new (fs := (List.range N').map fun j => if mm_fr c0 j = true then Value.null else Value.int 0) hC.1 hC.2.1 hG h2 ty h3 hC.2.2.2.2.2.1 (hG _ h4) (hG _ h5) (hG _ h6) hC.2.2.2.2.2.2.2.1 hR.1 hR.2.1 hS hA.1 h1 (fun j hj => ?_) (by omega) (by omega) hd (fun q H1 hP hD hS => ?_)
  · rw [h7 j hj]
    unfold vp_V
    rw [List.getD_eq_getElem?_getD, List.getElem?_map, List.getElem?_range hj]
    rfl
  · have hagr := agr_N (w := w) (α := α) (f := fun _ => q) hgn
    have hsub : ∀ x ∈ b.2, x ∈ (bN b g).2 := fun x hx => List.mem_append_left _ hx
    have hnr := mm_nr_obj hg
    have hwl := agr_wl (X := X) hagr hR.2.2.2 (G := [g]) rfl
    have hent : mm_ce X (aN α g fun _ => q) (bN b g) (zr w g) g 0 = .inr (c0, (List.range N').map fun j => if mm_fr c0 j = true then Value.null else Value.int 0) := by
      rw [mm_ce_obj hg]
      refine congrArg _ (congrArg _ (List.map_congr_left fun j _ => ?_))
      unfold mm_fv
      rw [hg, bN_s, zr_s]
      rfl
    have hlast : ([g].flatMap fun g => (List.range (mm_nr g)).map fun j : Nat => (g, (j : Int))).map (fun x => (aN α g (fun _ => q) x.1 x.2, mm_ce X (aN α g fun _ => q) (bN b g) (zr w g) x.1 x.2)) = [(q, .inr (c0, (List.range N').map fun j => if mm_fr c0 j = true then Value.null else Value.int 0))] := by
      rw [List.flatMap_cons, List.flatMap_nil, List.append_nil, hnr]
      show [(aN α g (fun _ => q) g 0, mm_ce X (aN α g fun _ => q) (bN b g) (zr w g) g 0)] = _
      rw [hent, aN_s]
    rw [hlast] at hwl
    rw [← hwl] at hP hD
    have := k p l e R s m args below meth c X α0 b0 A H1 locs (cells + 1) (slots + N') (aN α g fun _ => q) kls ⟨hC, ⟨hP, hD, zr_rg hR.2.2.1, ph_N hR.2.2.2 (by rw [hg]; show (0 : Nat) ≠ 4; decide) hgn⟩, hA, hS, agr_old hagr hsub hO, agr_L hagr hsub hL, mm_stC (fun v hv => agr_ok hsub (hst v hv)) ⟨List.mem_append_right _ List.mem_cons_self, Int.le_refl _, by rw [hnr]; show (0 : Int) < 1; decide⟩, by omega⟩
    rw [List.map_cons, agr_st hagr hst] at this
    have e2 : mm_v (aN α g fun _ => q) (.inr (some (g, 0))) = .ref q := by
      show Value.ref _ = _
      rw [aN_s]
    rw [e2] at this
    exact this
def mm_at (k : Nat) : ArrayType := if k = 1 then .int else if k = 2 then .boolean else .char
theorem k_newa {p' g kd N : Nat} {x : Int} {z : List mm_I} (hk : kd = 1 ∨ kd = 2 ∨ kd = 3) (hl : mm_lk K.2.2.1 pc = (pc, .newarray (mm_at kd), p') :: z) (hg : mm_gk g = (kd, N, 1)) (hx : x = N) (hN : N < 100000) (hc : Cond.arrayClass (mm_fT kd) ∈ tb_G) (hgn : g ∉ b.2) (hn1 : n.1 = n1.1 + 1 ∧ n.2 = n1.2 + N) (k : mm_Wk K n1 (pc + 2) ls (.inr (some (g, 0)) :: st) (bN b g) (zr w g) Q) : mm_Wk K n pc ls (.inl x :: st) b w Q := by
  refine k_dec hl (L := 1) rfl fun hd => ?_
  intro p l e R s m args below meth c X α0 b0 A H locs cells slots α kls ⟨hC, hR, hA, hS, hO, hL, hst, hn⟩
  subst hx
  have hG := hC.2.2.2.2.2.2.1
  have hxin : mm_in (N : Int) := mm_stH hst
  have hty : newarray.typeOf (mm_at kd) = mm_fT kd := by
    rcases hk with rfl | rfl | rfl <;> rfl
  have hdv : defaultValue (mm_fT kd) = .int 0 := by
    rcases hk with rfl | rfl | rfl <;> rfl
  have hcb : componentBytes (mm_fT kd) ≤ 4 := by
    rcases hk with rfl | rfl | rfl <;> decide
  refine va_newa (a0 := (N, .inl fun _ => 0)) hC.1 hC.2.1 (by rw [hty]; exact hG _ hc) hty hC.2.2.2.2.2.2.2.1 hR.1 hR.2.1 hS hA.1 (fun cA => by rw [vp_cell_i, hdv]) (fun z => ?_) ?_ ?_ (by omega) (by omega) hd (fun q cA H1 hK hP hD hS => ?_)
  · have := (mm_i6 hxin (y := 0) (by decide)).mp z
    omega
  · show (Int32.ofInt (N : Int)).toInt.toNat = N
    rw [mm_i1 hxin]
    rfl
  · have : N * componentBytes (mm_fT kd) ≤ N * 4 := Nat.mul_le_mul_left _ hcb
    omega
  · have hcA : cA = mm_cA X kd := by
      obtain ⟨t0, ht0⟩ := mm_tys (X := X) hk
      have h1 := (hC.2.2.2.2.2.2.2.1.2 t0 _ ht0).2
      have h2 := (hK.2 (mm_ty X).length (cA, mm_fT kd) (by rw [List.getElem?_append_right (Nat.le_refl _), Nat.sub_self]; rfl)).2
      rcases hk with rfl | rfl | rfl
      · have h1 : s.vm.findClass ("[" ++ (FieldType.int).toString) = some (mm_cA X 1) := h1
        have h2 : s.vm.findClass ("[" ++ (FieldType.int).toString) = some cA := h2
        exact Option.some.inj (h2.symm.trans h1)
      · have h1 : s.vm.findClass ("[" ++ (FieldType.boolean).toString) = some (mm_cA X 2) := h1
        have h2 : s.vm.findClass ("[" ++ (FieldType.boolean).toString) = some cA := h2
        exact Option.some.inj (h2.symm.trans h1)
      · have h1 : s.vm.findClass ("[" ++ (FieldType.char).toString) = some (mm_cA X 3) := h1
        have h2 : s.vm.findClass ("[" ++ (FieldType.char).toString) = some cA := h2
        exact Option.some.inj (h2.symm.trans h1)
    subst hcA
    have hagr := agr_N (w := w) (α := α) (f := fun _ => q) hgn
    have hsub : ∀ x ∈ b.2, x ∈ (bN b g).2 := fun x hx => List.mem_append_left _ hx
    have hnr : mm_nr g = 1 := by
      unfold mm_nr
      rw [hg]
      rcases hk with rfl | rfl | rfl <;> rfl
    have hwl := agr_wl (X := X) hagr hR.2.2.2 (G := [g]) rfl
    have hent : mm_ce X (aN α g fun _ => q) (bN b g) (zr w g) g 0 = .inl (mm_cA X kd, N, .inl fun _ => 0) := by
      rw [mm_ce_arr hg hk]
      refine congrArg _ (congrArg _ (congrArg _ (congrArg _ (funext fun j => ?_))))
      rw [zr_s]
      rfl
    have hlast : ([g].flatMap fun g => (List.range (mm_nr g)).map fun j : Nat => (g, (j : Int))).map (fun x => (aN α g (fun _ => q) x.1 x.2, mm_ce X (aN α g fun _ => q) (bN b g) (zr w g) x.1 x.2)) = [(q, .inl (mm_cA X kd, N, .inl fun _ => 0))] := by
      rw [List.flatMap_cons, List.flatMap_nil, List.append_nil, hnr]
      show [(aN α g (fun _ => q) g 0, mm_ce X (aN α g fun _ => q) (bN b g) (zr w g) g 0)] = _
      rw [hent, aN_s]
    rw [hlast] at hwl
    rw [← hwl] at hP hD
    have := k p l e R s m args below meth c X α0 b0 A H1 locs (cells + 1) (slots + N) (aN α g fun _ => q) kls ⟨hC, ⟨hP, hD, zr_rg hR.2.2.1, ph_N hR.2.2.2 (by rw [hg]; show kd ≠ 4; omega) hgn⟩, hA, hS, agr_old hagr hsub hO, agr_L hagr hsub hL, mm_stC (fun v hv => agr_ok hsub (mm_stT hst v hv)) ⟨List.mem_append_right _ List.mem_cons_self, Int.le_refl _, by rw [hnr]; show (0 : Int) < 1; decide⟩, by omega⟩
    rw [List.map_cons, agr_st hagr (mm_stT hst)] at this
    have e2 : mm_v (aN α g fun _ => q) (.inr (some (g, 0))) = .ref q := by
      show Value.ref _ = _
      rw [aN_s]
    rw [e2] at this
    exact this
end MMR10
