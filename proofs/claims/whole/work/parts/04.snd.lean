/-! ===== numbers and keys ===== -/
theorem mm_i1 {x : Int} (h : mm_in x) : (Int32.ofInt x).toInt = x := Int32.toInt_ofInt_of_le (by have := h.1; omega) (by have := h.2; omega)
theorem mm_i2 (x : Int32) : mm_in x.toInt := ⟨by have := Int32.le_toInt x; omega, by have := Int32.toInt_lt x; omega⟩
theorem mm_i3 (x : Int32) : Int32.ofInt x.toInt = x := Int32.ofInt_toInt x
theorem mm_i4 {i : Int} {n : Nat} (hn : mm_in i) (h0 : 0 ≤ i) (h1 : i < n) : vp_in (Int32.ofInt i) n ∧ (((Int32.ofInt i).toNatClampNeg : Nat) : Int) = i := by
  have e : (Int32.ofInt i).toNatClampNeg = i.toNat := by
    show (Int32.ofInt i).toInt.toNat = _
    rw [mm_i1 hn]
  refine ⟨fun h => ?_, ?_⟩
  · rcases h with h | h
    · have := Int32.lt_iff_toInt_lt.mp h
      rw [mm_i1 hn] at this
      have h00 : (0 : Int32).toInt = 0 := rfl
      omega
    · rw [e] at h
      omega
  · rw [e]
    omega
theorem mm_i5 {x y : Int} (hx : mm_in x) (hy : mm_in y) : Int32.ofInt x ≤ Int32.ofInt y ↔ x ≤ y := by
  rw [Int32.le_iff_toInt_le, mm_i1 hx, mm_i1 hy]
theorem mm_i6 {x y : Int} (hx : mm_in x) (hy : mm_in y) : Int32.ofInt x < Int32.ofInt y ↔ x < y := by
  rw [Int32.lt_iff_toInt_lt, mm_i1 hx, mm_i1 hy]
theorem mm_i7 {x y : Int} (hx : mm_in x) (hy : mm_in y) : Int32.ofInt x = Int32.ofInt y ↔ x = y := by
  rw [← Int32.toInt_inj, mm_i1 hx, mm_i1 hy]
theorem mm_key {b : mm_B} {g : Nat} {j : Int} (h : mm_ok b (.inr (some (g, j)))) : (g, j) ∈ mm_ks b := by
  obtain ⟨h1, h2, h3⟩ := h
  refine List.mem_flatMap.mpr ⟨g, h1, List.mem_map.mpr ⟨j.toNat, List.mem_range.mpr (by have h3 : j < mm_nr g := h3; have h2 : 0 ≤ j := h2; omega), ?_⟩⟩
  have h2 : 0 ≤ j := h2
  rw [Int.toNat_of_nonneg h2]
theorem mm_keyR {b : mm_B} {g : Nat} {j : Int} (h : (g, j) ∈ mm_ks b) : g ∈ b.2 ∧ 0 ≤ j ∧ j < mm_nr g := by
  obtain ⟨g', h1, h2⟩ := List.mem_flatMap.mp h
  obtain ⟨k, h3, h4⟩ := List.mem_map.mp h2
  have h3 := List.mem_range.mp h3
  cases h4
  exact ⟨h1, by omega, by omega⟩
theorem mm_pos {X : mm_X} {α : Nat → Int → Nat} {b : mm_B} {w : mm_M} {q : Nat × Int} (h : q ∈ mm_ks b) : ∃ k0 : Nat, (mm_ks b)[k0]? = some q ∧ (mm_wl X α b w)[k0]? = some (α q.1 q.2, mm_ce X α b w q.1 q.2) := by
  obtain ⟨k0, hk⟩ := List.mem_iff_getElem?.mp h
  exact ⟨k0, hk, by unfold mm_wl; rw [List.getElem?_map, hk]; rfl⟩
theorem mm_wl_set {X : mm_X} {α : Nat → Int → Nat} {b : mm_B} {w w' : mm_M} {A : Nat → Prop} {k0 : Nat} {g : Nat} {j : Int} (hD : va_D A (mm_wl X α b w)) (hk : (mm_ks b)[k0]? = some (g, j)) {e : va_E} (he : e = mm_ce X α b w' g j) (hw : ∀ q ∈ mm_ks b, q ≠ (g, j) → mm_ce X α b w' q.1 q.2 = mm_ce X α b w q.1 q.2) :
    (mm_wl X α b w).set k0 (α g j, e) = mm_wl X α b w' := by
  apply List.ext_getElem?
  intro i
  by_cases hi : k0 = i
  · subst hi
    have hlt : k0 < (mm_wl X α b w).length := by
      unfold mm_wl
      rw [List.length_map]
      exact (List.getElem?_eq_some_iff.mp hk).1
    rw [List.getElem?_set_self hlt, he]
    unfold mm_wl
    rw [List.getElem?_map, hk]
    rfl
  · rw [List.getElem?_set_ne hi]
    unfold mm_wl
    rw [List.getElem?_map, List.getElem?_map]
    cases hq : (mm_ks b)[i]? with
    | none => rfl
    | some q =>
      have hne : q ≠ (g, j) := by
        intro hh
        subst hh
        refine hi (hD.1 k0 i (α g j, mm_ce X α b w g j) (α g j, mm_ce X α b w g j) ?_ ?_ rfl)
        · unfold mm_wl; rw [List.getElem?_map, hk]; rfl
        · unfold mm_wl; rw [List.getElem?_map, hq]; rfl
      show some (α q.1 q.2, mm_ce X α b w q.1 q.2) = some (α q.1 q.2, mm_ce X α b w' q.1 q.2)
      rw [hw q (List.mem_of_getElem? hq) hne]
theorem mm_ce_arr {X : mm_X} {α : Nat → Int → Nat} {b : mm_B} {w : mm_M} {g : Nat} {j : Int} {k n r : Nat} (h : mm_gk g = (k, n, r)) (hk : k = 1 ∨ k = 2 ∨ k = 3) : mm_ce X α b w g j = .inl (mm_cA X k, n, .inl (fun i : Nat => Int32.ofInt (w g j (i : Int)))) := by
  unfold mm_ce
  rw [h]
  rw [if_neg (show ¬ (k, n, r).1 = 0 by show ¬ k = 0; omega), if_neg (show ¬ (k, n, r).1 = 4 by show ¬ k = 4; omega)]
theorem mm_ce_obj {X : mm_X} {α : Nat → Int → Nat} {b : mm_B} {w : mm_M} {g : Nat} {j : Int} {c n : Nat} (h : mm_gk g = (0, c, n)) : mm_ce X α b w g j = .inr (c, (List.range n).map (mm_fv α b w g)) := by
  unfold mm_ce
  rw [h]
  rw [if_pos rfl]
theorem mm_ce_out {X : mm_X} {α : Nat → Int → Nat} {b : mm_B} {w : mm_M} {g : Nat} {j : Int} {n r : Nat} (h : mm_gk g = (4, n, r)) : mm_ce X α b w g j = .inl (X.2.2.2.2, n, .inr (.inr (.inr (.inr (fun k : Nat => if k < n then some (α r (k : Int)) else none))))) := by
  unfold mm_ce
  rw [h]
  rw [if_neg (show ¬ (4 : Nat) = 0 by decide), if_pos rfl]
theorem mm_nr_obj {g c n : Nat} (h : mm_gk g = (0, c, n)) : mm_nr g = 1 := by
  unfold mm_nr
  rw [h]
  rfl
theorem mm_ce_up {X : mm_X} {α : Nat → Int → Nat} {b : mm_B} {w : mm_M} {g : Nat} {j k v : Int} {q : Nat × Int} (hq : q ∈ mm_ks b) (hg : (g, j) ∈ mm_ks b) (hne : q ≠ (g, j)) : mm_ce X α b (mm_up w g j k v) q.1 q.2 = mm_ce X α b w q.1 q.2 := by
  obtain ⟨g', j'⟩ := q
  show mm_ce X α b (mm_up w g j k v) g' j' = mm_ce X α b w g' j'
  have hu : ∀ z, mm_up w g j k v g' j' z = w g' j' z := fun z => by
    unfold mm_up
    refine if_neg fun h => hne ?_
    rw [h.1, h.2.1]
  unfold mm_ce
  by_cases h0 : (mm_gk g').1 = 0
  · rw [if_pos h0, if_pos h0]
    have hj : j' = 0 := by
      have h1 := mm_keyR hq
      rw [mm_nr_obj (c := (mm_gk g').2.1) (n := (mm_gk g').2.2) (by rw [← h0])] at h1
      omega
    subst hj
    refine congrArg _ (congrArg _ (List.map_congr_left fun z _ => ?_))
    unfold mm_fv
    rw [hu z]
  · rw [if_neg h0, if_neg h0]
    by_cases h4 : (mm_gk g').1 = 4
    · rw [if_pos h4, if_pos h4]
    · rw [if_neg h4, if_neg h4]
      refine congrArg _ (congrArg _ (congrArg _ (congrArg _ (funext fun z => ?_))))
      rw [hu]
theorem mm_rg_up {w : mm_M} {g : Nat} {j k v : Int} (h : mm_rg w) (hv : mm_in v) : mm_rg (mm_up w g j k v) := by
  intro g' j' k'
  unfold mm_up
  split
  · exact hv
  · exact h g' j' k'
theorem mm_up_arr {w : mm_M} {g : Nat} {j k v : Int} (h0 : 0 ≤ k) : (fun i : Nat => Int32.ofInt (mm_up w g j k v g j (i : Int))) = upd (fun i : Nat => Int32.ofInt (w g j (i : Int))) k.toNat (Int32.ofInt v) := by
  funext i
  unfold mm_up upd
  by_cases h : i = k.toNat
  · rw [if_pos ⟨rfl, rfl, by omega⟩, if_pos h]
  · rw [if_neg (fun q => h (by omega)), if_neg h]
