/-! ===== switches ===== -/
def mm_tsw (il : List mm_I) (pc : Nat) : Option (Int × Int × Int × List Int) := match mm_lk il pc with
  | [] => none
  | q :: _ => match q.2.1 with
    | .tableswitch d lo hi offs => some (d, lo, hi, offs.toList)
    | _ => none
def mm_lsw (il : List mm_I) (pc : Nat) : Option (Int × List (Int × Int)) := match mm_lk il pc with
  | [] => none
  | q :: _ => match q.2.1 with
    | .lookupswitch d ps => some (d, ps.toList)
    | _ => none
section MMR7
variable {K : mm_K} {n : Nat × Nat} {pc : Nat} {ls : List (Option mm_V)} {st : List mm_V} {b : mm_B} {w : mm_M} {Q : Option mm_V → mm_B → mm_M → Prop}
theorem mm_tsw_ok (hK : mm_KO K) {d lo hi : Int} {offs : List Int} (h : mm_tsw K.2.2.1 pc = some (d, lo, hi, offs)) : ∃ (arr : Array Int) (len : Nat), arr.toList = offs ∧ decode K.1.2.1 pc = .ok (.tableswitch d lo hi arr, len) := by
  unfold mm_tsw at h
  split at h
  · cases h
  · rename_i q z hlk
    obtain ⟨hm, he⟩ := mm_lk_hd hlk
    obtain ⟨h1, h2, h3, h4⟩ := hK.1 q hm
    subst he
    split at h
    · rename_i hi
      cases h
      exact ⟨_, q.2.2 - q.1, rfl, by rw [h1, hi]⟩
    · cases h
theorem mm_lsw_ok (hK : mm_KO K) {d : Int} {ps : List (Int × Int)} (h : mm_lsw K.2.2.1 pc = some (d, ps)) : ∃ (arr : Array (Int × Int)) (len : Nat), arr.toList = ps ∧ decode K.1.2.1 pc = .ok (.lookupswitch d arr, len) := by
  unfold mm_lsw at h
  split at h
  · cases h
  · rename_i q z hlk
    obtain ⟨hm, he⟩ := mm_lk_hd hlk
    obtain ⟨h1, h2, h3, h4⟩ := hK.1 q hm
    subst he
    split at h
    · rename_i hi
      cases h
      exact ⟨_, q.2.2 - q.1, rfl, by rw [h1, hi]⟩
    · cases h
theorem k_tsIn {x off d lo hi : Int} {offs : List Int} (h : mm_tsw K.2.2.1 pc = some (d, lo, hi, offs)) (h1 : lo ≤ x) (h2 : x ≤ hi) (ho : mm_nth offs (x - lo).toNat = some off) (ht : 0 ≤ (pc : Int) + off) (k : mm_Wk K n ((pc : Int) + off).toNat ls st b w Q) : mm_Wk K n pc ls (.inl x :: st) b w Q := by
  refine k_ko fun hK => ?_
  obtain ⟨arr, len, ha, hd⟩ := mm_tsw_ok hK h
  intro p l e R s m args below meth c X α0 b0 A H locs cells slots α kls ⟨hC, hR, hA, hS, hO, hL, hst, hn⟩
  have hx : mm_in x := mm_stH hst
  have e1 := mm_i1 hx
  exact lv_tableIn hC.1 hC.2.1 hd (by omega) (by omega) (by rw [e1, ← Array.getElem?_toList, ha, ← mm_nth_get]; exact ho) (by omega) (k p l e R s m args below meth c X α0 b0 A H locs cells slots α kls ⟨hC, hR, hA, hS, hO, hL, mm_stT hst, hn⟩)
theorem k_tsOut {x d lo hi : Int} {offs : List Int} (h : mm_tsw K.2.2.1 pc = some (d, lo, hi, offs)) (h1 : x < lo ∨ hi < x) (ht : 0 ≤ (pc : Int) + d) (k : mm_Wk K n ((pc : Int) + d).toNat ls st b w Q) : mm_Wk K n pc ls (.inl x :: st) b w Q := by
  refine k_ko fun hK => ?_
  obtain ⟨arr, len, ha, hd⟩ := mm_tsw_ok hK h
  intro p l e R s m args below meth c X α0 b0 A H locs cells slots α kls ⟨hC, hR, hA, hS, hO, hL, hst, hn⟩
  have hx : mm_in x := mm_stH hst
  have e1 := mm_i1 hx
  exact lv_tableOut hC.1 hC.2.1 hd (by omega) (by omega) (k p l e R s m args below meth c X α0 b0 A H locs cells slots α kls ⟨hC, hR, hA, hS, hO, hL, mm_stT hst, hn⟩)
theorem k_lsw {x off d : Int} {ps : List (Int × Int)} (h : mm_lsw K.2.2.1 pc = some (d, ps)) (hp : (ps.zip (ps.drop 1)).all (fun (a, next) => a.1 < next.1) = true) (ho : Op.lookupswitch.offset ps d x = off) (ht : 0 ≤ (pc : Int) + off) (k : mm_Wk K n ((pc : Int) + off).toNat ls st b w Q) : mm_Wk K n pc ls (.inl x :: st) b w Q := by
  refine k_ko fun hK => ?_
  obtain ⟨arr, len, ha, hd⟩ := mm_lsw_ok hK h
  intro p l e R s m args below meth c X α0 b0 A H locs cells slots α kls ⟨hC, hR, hA, hS, hO, hL, hst, hn⟩
  have hx : mm_in x := mm_stH hst
  have e1 := mm_i1 hx
  exact lv_lookup hC.1 hC.2.1 hd (by rw [ha]; exact hp) (by rw [ha, e1, ho]) (by omega) (k p l e R s m args below meth c X α0 b0 A H locs cells slots α kls ⟨hC, hR, hA, hS, hO, hL, mm_stT hst, hn⟩)
end MMR7
