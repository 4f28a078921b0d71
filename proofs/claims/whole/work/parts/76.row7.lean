/-! ===== int[][] made ===== -/
section MMR12
variable {K : mm_K} {n n1 : Nat × Nat} {pc : Nat} {ls : List (Option mm_V)} {st : List mm_V} {b : mm_B} {w : mm_M} {Q : Option mm_V → mm_B → mm_M → Prop}
theorem k_mna {i p' g rg N M : Nat} {x y : Int} {z : List mm_I} (hl : mm_lk K.2.2.1 pc = (pc, .multianewarray i 2, p') :: z) (hg : mm_gk g = (4, N, rg)) (hrg : mm_gk rg = (1, M, N)) (hx : x = M) (hy : y = N) (hNM : N < 100000 ∧ M < 100000) (hclink : Cond.classLink K.1.2.2.2.2 i "[[I" ∈ tb_G) (harr : Cond.arrayClass .int ∈ tb_G) (hgn : g ∉ b.2) (hrn : rg ∉ b.2) (hne : rg ≠ g) (hn1 : n.1 = n1.1 + (1 + N) ∧ n.2 = n1.2 + (N + N * M)) (k : mm_Wk K n1 (pc + 4) ls (.inr (some (g, 0)) :: st) (bN (bN b g) rg) (zr (zr w g) rg) Q) : mm_Wk K n pc ls (.inl x :: .inl y :: st) b w Q := by
  refine k_dec hl (L := 3) rfl fun hd => ?_
  intro p l e R s m args below meth c X α0 b0 A H locs cells slots α kls ⟨hC, hR, hA, hS, hO, hL, hst, hn⟩
  subst hx; subst hy
  have hG := hC.2.2.2.2.2.2.1
  have hMin : mm_in (M : Int) := mm_stH hst
  have hNin : mm_in (N : Int) := mm_stH (mm_stT hst)
  have hK := hC.2.2.2.2.2.2.2.1
  have neg : ∀ {v : Nat}, mm_in (v : Int) → ¬ Int32.ofInt (v : Int) < 0 := fun {v} hv z => by
    have := (mm_i6 hv (y := 0) (by decide)).mp z
    omega
  have clm : ∀ {v : Nat}, mm_in (v : Int) → (Int32.ofInt (v : Int)).toNatClampNeg = v := fun {v} hv => by
    show (Int32.ofInt (v : Int)).toInt.toNat = v
    rw [mm_i1 hv]
    rfl
  have hcy : s.vm.findClass (FieldType.array .int).toString = some X.2.1 := (hK.2 0 (X.2.1, .int) rfl).2
  refine va_mna (X := mm_wl X α b w) (L := []) (f := fun _ => .inl (X.2.1, M, .inl fun _ => 0)) (z := (M, .inl fun _ => 0)) hC.1 hC.2.1 hC.2.2.2.2.2.1 (hG _ hclink) hC.2.2.2.2.2.2.2.2.2.2.2.2.2 (hG _ harr) hcy hK (by rw [show va_pl [] (fun _ => (.inl (X.2.1, M, .inl fun _ => 0) : va_E)) = [] from rfl, List.append_nil]; exact hR.1) (by rw [show va_pl [] (fun _ => (.inl (X.2.1, M, .inl fun _ => 0) : va_E)) = [] from rfl, List.append_nil]; exact hR.2.1) hS hA.1 (neg hNin) (neg hMin) (clm hNin) (clm hMin) (by omega) (by show M * 4 ≤ _; omega) (by omega) rfl rfl (by omega) (by omega) (fun cc => ?_) hd (fun q r cA H1 hri hrl hK2 hP hD hS => ?_)
  · rw [vp_cell_i]
    exact arrV_new ..
  · have hcA : cA = X.2.2.2.2 := by
      have h1 : s.vm.findClass ("[" ++ (FieldType.array .int).toString) = some X.2.2.2.2 := (hK.2 3 (X.2.2.2.2, .array .int) rfl).2
      have h2 : s.vm.findClass ("[" ++ (FieldType.array .int).toString) = some cA := (hK2.2 (mm_ty X).length (cA, .array .int) (by rw [List.getElem?_append_right (Nat.le_refl _), Nat.sub_self]; rfl)).2
      exact Option.some.inj (h2.symm.trans h1)
    subst hcA
    have hagr : mm_agr b (bN (bN b g) rg) α (aN (aN α g fun _ => q) rg fun j => r j.toNat) w (zr (zr w g) rg) := fun g' hg' => by
      have h1 : g' ≠ g := fun z => hgn (z ▸ hg')
      have h2 : g' ≠ rg := fun z => hrn (z ▸ hg')
      exact ⟨fun k => (bN_o h2).trans (bN_o h1), fun j => (aN_o h2).trans (aN_o h1), fun j k => (zr_o h2).trans (zr_o h1)⟩
    have hsub : ∀ x ∈ b.2, x ∈ (bN (bN b g) rg).2 := fun x hx => List.mem_append_left _ (List.mem_append_left _ hx)
    have hng : mm_nr g = 1 := by unfold mm_nr; rw [hg]; rfl
    have hnrg : mm_nr rg = N := by unfold mm_nr; rw [hrg]; rfl
    have hwl := agr_wl (X := X) hagr hR.2.2.2 (G := [g, rg]) (by show (b.2 ++ [g]) ++ [rg] = _; rw [List.append_assoc]; rfl)
    have hlast : ([g, rg].flatMap fun g => (List.range (mm_nr g)).map fun j : Nat => (g, (j : Int))).map (fun o => (aN (aN α g fun _ => q) rg (fun j => r j.toNat) o.1 o.2, mm_ce X (aN (aN α g fun _ => q) rg fun j => r j.toNat) (bN (bN b g) rg) (zr (zr w g) rg) o.1 o.2)) = [(q, .inl (X.2.2.2.2, N, .inr (.inr (.inr (.inr (fun i => if i < N then some (r i) else none))))))] ++ va_pl ([] ++ (List.range N).map r) (vr_up (fun _ => .inl (X.2.1, M, .inl fun _ => 0)) ((List.range N).map r) (.inl (X.2.1, M, .inl fun _ => 0))) := by
      rw [List.flatMap_cons, List.flatMap_cons, List.flatMap_nil, List.append_nil, hng, hnrg, List.map_append]
      congr 1
      · show [(aN (aN α g fun _ => q) rg (fun j => r j.toNat) g 0, mm_ce X (aN (aN α g fun _ => q) rg fun j => r j.toNat) (bN (bN b g) rg) (zr (zr w g) rg) g 0)] = _
        rw [mm_ce_out hg, aN_o (fun z => hne z.symm), aN_s]
        refine congrArg (fun o => [(q, Sum.inl (X.2.2.2.2, N, Sum.inr (Sum.inr (Sum.inr (Sum.inr o)))))]) (funext fun k => ?_)
        rw [aN_s]
        rfl
      · unfold va_pl
        rw [List.nil_append, List.map_map, List.map_map]
        refine List.map_congr_left fun j hj => ?_
        show (aN (aN α g fun _ => q) rg (fun j => r j.toNat) rg (j : Int), mm_ce X (aN (aN α g fun _ => q) rg fun j => r j.toNat) (bN (bN b g) rg) (zr (zr w g) rg) rg (j : Int)) = (r j, vr_up (fun _ => .inl (X.2.1, M, .inl fun _ => 0)) ((List.range N).map r) (.inl (X.2.1, M, .inl fun _ => 0)) (r j))
        rw [vr_up_in (List.mem_map.mpr ⟨j, hj, rfl⟩), aN_s, mm_ce_arr hrg (by decide)]
        refine congrArg (fun o => (r j, (Sum.inl (X.2.1, M, Sum.inl o) : va_E))) (funext fun k => ?_)
        rw [zr_s]
        rfl
    rw [hlast, ← List.append_assoc] at hwl
    rw [← hwl] at hP hD
    have hph : mm_ph (bN (bN b g) rg) := by
      refine ⟨fun g' hg' k q hq => ?_, fun g' hg' z => ?_⟩
      · by_cases h2 : g' = rg
        · rw [h2, bN_s] at hq; cases hq
        · rw [bN_o h2] at hq
          by_cases h1 : g' = g
          · rw [h1, bN_s] at hq; cases hq
          · rw [bN_o h1] at hq
            have hb : g' ∈ b.2 := by
              rcases List.mem_append.mp hg' with o | o
              · rcases List.mem_append.mp o with o | o
                · exact o
                · exact absurd (List.mem_singleton.mp o) h1
              · exact absurd (List.mem_singleton.mp o) h2
            exact agr_ok hsub (hR.2.2.2.1 g' hb k q hq)
      · by_cases h1 : g' = g
        · rw [h1, hg]
          exact ⟨List.mem_append_right _ List.mem_cons_self, hnrg⟩
        · have h2 : g' ≠ rg := fun o => by rw [o, hrg] at z; exact absurd z (by show ¬ (1 : Nat) = 4; decide)
          have hb : g' ∈ b.2 := by
            rcases List.mem_append.mp hg' with o | o
            · rcases List.mem_append.mp o with o | o
              · exact o
              · exact absurd (List.mem_singleton.mp o) h1
            · exact absurd (List.mem_singleton.mp o) h2
          obtain ⟨a1, a2⟩ := hR.2.2.2.2 g' hb z
          exact ⟨hsub _ a1, a2⟩
    have := k p l e R s m args below meth c X α0 b0 A H1 locs (cells + 1 + N) (slots + N + N * M) (aN (aN α g fun _ => q) rg fun j => r j.toNat) kls ⟨hC, ⟨hP, hD, zr_rg (zr_rg hR.2.2.1), hph⟩, hA, hS, agr_old hagr hsub hO, agr_L hagr hsub hL, mm_stC (fun v hv => agr_ok hsub (mm_stT (mm_stT hst) v hv)) ⟨List.mem_append_left _ (List.mem_append_right _ List.mem_cons_self), Int.le_refl _, by rw [hng]; show (0 : Int) < 1; decide⟩, by omega⟩
    rw [List.map_cons, agr_st hagr (mm_stT (mm_stT hst))] at this
    have e2 : mm_v (aN (aN α g fun _ => q) rg fun j => r j.toNat) (.inr (some (g, 0))) = .ref q := by
      show Value.ref _ = _
      rw [aN_o (fun z => hne z.symm), aN_s]
    rw [e2] at this
    exact this
end MMR12
