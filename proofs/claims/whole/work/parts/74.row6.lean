/-! ===== references put, Object's constructor, another order of what lives ===== -/
/-- a field that holds a reference: fin it is final, and put by its own class alone -/
def mm_pok (own : String) (q : mm_F) (fin : Bool) : Prop := ∃ (C : String) (T : u_T) (N : Nat) (ty : Nat → FieldType), vwCl[q.2.1]? = some (C, T, N) ∧ (∀ w ∈ u_ws C T N, w ∈ tb_G) ∧ (∀ k, k < N → parseFieldDescriptor (T k).2.2.1 = some (ty k)) ∧ (∀ a, a < N → ∀ b, b < N → a ≠ b → (T a).2.1 ≠ (T b).2.1) ∧ q.2.2.1 < N ∧
  Cond.fieldLink own q.1 C (T q.2.2.1).2.1 (T q.2.2.1).2.2.1 ∈ tb_G ∧ (T q.2.2.1).1 = C ∧ mm_fr q.2.1 q.2.2.1 = true ∧ (T q.2.2.1).2.2.2 = fin ∧ (fin = true → C = own) ∧ ∀ a, narrow (ty q.2.2.1) (.ref a) = .ref a ∧ fits (ty q.2.2.1) (.ref a) = true
theorem bR_o {b : mm_B} {g k g' k' : Nat} {r : Option (Nat × Int)} (h : ¬ (g' = g ∧ k' = k)) : (bR b g k r).1 g' k' = b.1 g' k' := by
  show (match Nat.beq g' g && Nat.beq k' k with
    | true => r
    | false => b.1 g' k') = _
  have : (Nat.beq g' g && Nat.beq k' k) = false := by
    cases h1 : Nat.beq g' g with
    | false => rfl
    | true =>
      cases h2 : Nat.beq k' k with
      | false => rfl
      | true => exact absurd ⟨Nat.eq_of_beq_eq_true h1, Nat.eq_of_beq_eq_true h2⟩ h
  rw [this]
theorem bR_s {b : mm_B} {g k : Nat} {r : Option (Nat × Int)} : (bR b g k r).1 g k = r := by
  show (match Nat.beq g g && Nat.beq k k with
    | true => r
    | false => b.1 g k) = _
  rw [Nat.beq_refl, Nat.beq_refl]
  rfl
section MMR11
variable {K : mm_K} {n n1 : Nat × Nat} {pc : Nat} {ls : List (Option mm_V)} {st : List mm_V} {b : mm_B} {w : mm_M} {Q : Option mm_V → mm_B → mm_M → Prop}
theorem bR_wl {X : mm_X} {α : Nat → Int → Nat} {A : Nat → Prop} {g c0 N k0 q0 : Nat} {r : Option (Nat × Int)} (hg : mm_gk g = (0, c0, N)) (hr : mm_fr c0 k0 = true) (hN : k0 < N) (hD : va_D A (mm_wl X α b w)) (hk : (mm_ks b)[q0]? = some (g, 0)) : (mm_wl X α b w).set q0 (α g 0, .inr (c0, ((List.range N).map (mm_fv α b w g)).set k0 (mm_re α r))) = mm_wl X α (bR b g k0 r) w := by
  have hks : mm_ks (bR b g k0 r) = mm_ks b := rfl
  apply List.ext_getElem?
  intro i
  unfold mm_wl
  rw [hks]
  by_cases hi : q0 = i
  · subst hi
    have hlt : q0 < ((mm_ks b).map fun q => (α q.1 q.2, mm_ce X α b w q.1 q.2)).length := by
      rw [List.length_map]
      exact (List.getElem?_eq_some_iff.mp hk).1
    rw [List.getElem?_set_self hlt, List.getElem?_map, hk]
    show some _ = some (α g 0, mm_ce X α (bR b g k0 r) w g 0)
    rw [mm_ce_obj hg]
    refine congrArg some (congrArg _ (congrArg _ (congrArg _ (List.ext_getElem? fun z => ?_))))
    by_cases hz : k0 = z
    · subst hz
      rw [List.getElem?_set_self (by simp; exact hN), List.getElem?_map, List.getElem?_range hN]
      show _ = some (mm_fv α (bR b g k0 r) w g k0)
      unfold mm_fv
      rw [hg, hr, if_pos rfl, bR_s]
    · rw [List.getElem?_set_ne hz, List.getElem?_map, List.getElem?_map]
      cases hr2 : (List.range N)[z]? with
      | none => rfl
      | some y =>
        have hy : y = z := by
          obtain ⟨h, h'⟩ := List.getElem?_eq_some_iff.mp hr2
          simp at h'
          exact h'.symm
        subst hy
        show some (mm_fv α b w g y) = some (mm_fv α (bR b g k0 r) w g y)
        unfold mm_fv
        rw [bR_o (fun q => hz q.2.symm)]
  · rw [List.getElem?_set_ne hi, List.getElem?_map, List.getElem?_map]
    cases hq : (mm_ks b)[i]? with
    | none => rfl
    | some q =>
      have hne : q ≠ (g, 0) := by
        intro hh
        subst hh
        refine hi (hD.1 q0 i (α g 0, mm_ce X α b w g 0) (α g 0, mm_ce X α b w g 0) ?_ ?_ rfl)
        · unfold mm_wl; rw [List.getElem?_map, hk]; rfl
        · unfold mm_wl; rw [List.getElem?_map, hq]; rfl
      show some (α q.1 q.2, mm_ce X α b w q.1 q.2) = some (α q.1 q.2, mm_ce X α (bR b g k0 r) w q.1 q.2)
      refine congrArg some (congrArg _ ?_)
      unfold mm_ce
      by_cases h0 : (mm_gk q.1).1 = 0
      · rw [if_pos h0, if_pos h0]
        have hqg : q.1 ≠ g := fun z => hne (by
          have h1 := mm_keyR (List.mem_of_getElem? hq)
          rw [z, mm_nr_obj hg] at h1
          refine Prod.ext z ?_
          show q.2 = 0
          omega)
        refine congrArg _ (congrArg _ (List.map_congr_left fun z _ => ?_))
        unfold mm_fv
        rw [bR_o (fun o => hqg o.1)]
      · rw [if_neg h0, if_neg h0]
theorem k_putr {i p' g c0 N k0 t : Nat} {j : Int} {ki : Int} {fin : Bool} {r : Nat × Int} {z : List mm_I} (hl : mm_lk K.2.2.1 pc = (pc, .putfield i, p') :: z) (hg : mm_gk g = (0, c0, N)) (hf : mm_pok K.1.2.2.2.2 (i, c0, k0, t, ki) fin) (hin : fin = true → K.1.1.name = "<init>") (k : mm_Wk K n (pc + 3) ls st (bR b g k0 (some r)) w Q) : mm_Wk K n pc ls (.inr (some r) :: .inr (some (g, j)) :: st) b w Q := by
  refine k_dec hl (L := 2) rfl fun hd => ?_
  intro p l e R s m args below meth c X α0 b0 A H locs cells slots α kls ⟨hC, hR, hA, hS, hO, hL, hst, hn⟩
  obtain ⟨C, T, N', ty, h1, h2, h3, h4, h5, h6, h7, h8, h9, h10, h11⟩ := hf
  dsimp only at h1 h5 h6 h7 h8 h9 h11
  have hr := mm_stH hst
  have hok := mm_stH (mm_stT hst)
  have hj : j = 0 := by
    have h1 := mm_keyR (mm_key hok)
    rw [mm_nr_obj hg] at h1
    omega
  subst hj
  obtain ⟨q0, hk0, hw0⟩ := mm_pos (X := X) (α := α) (w := w) (mm_key hok)
  rw [mm_ce_obj hg] at hw0
  have hNN : k0 < N := by rw [← mm_glN hg h1]; exact h5
  have hG := hC.2.2.2.2.2.2.1
  have fin_ : ∀ (H1 : Heap) (locs1 : List Loc), va_P X.1 vwCl ((mm_wl X α b w).set q0 (α g 0, .inr (c0, ((List.range N).map (mm_fv α b w g)).set k0 (mm_re α (some r))))) H1 → va_D A ((mm_wl X α b w).set q0 (α g 0, .inr (c0, ((List.range N).map (mm_fv α b w g)).set k0 (mm_re α (some r))))) → va_S A s.heap H1 locs1 → W p l e R s m args below meth c H1 locs1 cells slots (MQ below (mm_Qc X α0 b0 A Q) args s R.cells R.slots A) (F0 m (pc + 3) kls (st.map (mm_v α))) := fun H1 locs1 hP hD hS => by
    rw [bR_wl hg h8 hNN hR.2.1 hk0] at hP hD
    refine k p l e R s m args below meth c X α0 b0 A H1 locs1 cells slots α kls ⟨hC, ⟨hP, hD, hR.2.2.1, ⟨fun g' hg' k' q hq => ?_, hR.2.2.2.2⟩⟩, hA, hS, hO, hL, mm_stT (mm_stT hst), hn⟩
    by_cases hz : g' = g ∧ k' = k0
    · rw [hz.1, hz.2, bR_s] at hq
      cases hq
      exact hr
    · rw [bR_o hz] at hq
      exact hR.2.2.2.1 g' hg' k' q hq
  cases fin with
  | true =>
    refine va_putF hC.1 hC.2.1 hG h2 ty h3 h4 hC.2.2.2.2.2.1 hC.2.2.2.2.2.2.2.1 hR.1 hR.2.1 hS q0 hw0 h1 k0 h5 (hG _ h6) (fun x hx => by rw [← h7]; exact hx) h9 (by rw [hC.2.2.2.2.2.2.2.2.1]; exact hin rfl) (by rw [h7]; exact h10 rfl) (h3 k0 h5) (h11 _).1 (h11 _).2 (by simp; exact hNN) hd fin_
  | false =>
    refine va_put hC.1 hC.2.1 hG h2 ty h3 h4 hC.2.2.2.2.2.1 hC.2.2.2.2.2.2.2.1 hR.1 hR.2.1 hS q0 hw0 h1 k0 h5 (hG _ h6) (fun x hx => by rw [← h7]; exact hx) h9 (h3 k0 h5) (h11 _).1 (h11 _).2 (by simp; exact hNN) hd fin_
theorem k_obji {i p' : Nat} {r : Nat × Int} {z : List mm_I} (hl : mm_lk K.2.2.1 pc = (pc, .invokespecial i, p') :: z) (hlink : Cond.methodLink K.1.2.2.2.2 i Lib.objectInit ∈ tb_G) (hinst : Cond.instanceMethod Lib.objectInit ∈ tb_G) (hcode : Cond.code Lib.objectInit ⟨#[0xb1]⟩ 1 none ∈ tb_G) (hf : 1 ≤ K.2.1.1) (hlo : st.length + 12 ≤ K.2.1.2.1) (k : mm_Wk K n (pc + 3) ls st b w Q) : mm_Wk K n pc ls (.inr (some r) :: st) b w Q := by
  refine k_dec hl (L := 2) rfl fun hd => ?_
  intro p l e R s m args below meth c X α0 b0 A H locs cells slots α kls ⟨hC, hR, hA, hS, hO, hL, hst, hn⟩
  have hG := hC.2.2.2.2.2.2.1
  refine W.objInit hC.1 hC.2.1 hC.2.2.2.2.2.1 (hG _ hlink) (hG _ hinst) (hG _ hcode) rfl (hL.2.1.trans hC.2.2.1.symm) rfl hd (by rw [hC.2.2.2.2.2.2.2.2.2.1]; exact hf) ?_ ?_
  · show 2 * (F0 m pc kls ((Sum.inr (some r) :: st).map (mm_v α))).monitorRoom + ((st.map (mm_v α)).map fun v => v.category).sum + 12 ≤ R.locals
    rw [mm_catS, hC.2.2.2.2.2.2.2.2.2.2.1]
    have : (F0 m pc kls ((Sum.inr (some r) :: st).map (mm_v α))).monitorRoom = 0 := rfl
    omega
  · exact k p l e R s m args below meth c X α0 b0 A H locs cells slots α kls ⟨hC, hR, hA, hS, hO, hL, mm_stT hst, hn⟩
/-- what lives, in another order; references told in another way -/
theorem k_ph {b' : mm_B} (hp : b.2.Perm b'.2) (hr : ∀ g ∈ b.2, (mm_gk g).1 = 0 → ∀ k, k < (mm_gk g).2.2 → b'.1 g k = b.1 g k) (hph : mm_ph b') (k : mm_Wk K n pc ls st b' w Q) : mm_Wk K n pc ls st b w Q := by
  intro p l e R s m args below meth c X α0 b0 A H locs cells slots α kls ⟨hC, hR, hA, hS, hO, hL, hst, hn⟩
  have hsub : ∀ g ∈ b.2, g ∈ b'.2 := fun g hg => hp.mem_iff.mp hg
  have hce : ∀ q ∈ mm_ks b, mm_ce X α b' w q.1 q.2 = mm_ce X α b w q.1 q.2 := fun q hq => by
    obtain ⟨hg, -⟩ := mm_keyR hq
    unfold mm_ce
    by_cases h0 : (mm_gk q.1).1 = 0
    · rw [if_pos h0, if_pos h0]
      refine congrArg _ (congrArg _ (List.map_congr_left fun z hz => ?_))
      unfold mm_fv
      rw [hr q.1 hg h0 z (List.mem_range.mp hz)]
    · rw [if_neg h0, if_neg h0]
  have hpk : (mm_ks b).Perm (mm_ks b') := hp.flatMap_right _
  have hpw : (mm_wl X α b w).Perm (mm_wl X α b' w) := by
    have h1 : (mm_wl X α b w).Perm ((mm_ks b').map fun q => (α q.1 q.2, mm_ce X α b w q.1 q.2)) := hpk.map _
    have h2 : (mm_ks b').map (fun q => (α q.1 q.2, mm_ce X α b w q.1 q.2)) = mm_wl X α b' w := List.map_congr_left fun q hq => by rw [hce q (hpk.mem_iff.mpr hq)]
    rw [h2] at h1
    exact h1
  have hnd : ((mm_wl X α b w).map Prod.fst).Nodup := by
    refine List.pairwise_iff_getElem.mpr fun i j hi hj hij hcon => ?_
    have hi2 : i < (mm_wl X α b w).length := by rw [List.length_map] at hi; exact hi
    have hj2 : j < (mm_wl X α b w).length := by rw [List.length_map] at hj; exact hj
    rw [List.getElem_map, List.getElem_map] at hcon
    have := hR.2.1.1 i j _ _ (List.getElem?_eq_getElem hi2) (List.getElem?_eq_getElem hj2) hcon
    omega
  have hnd' : ((mm_wl X α b' w).map Prod.fst).Nodup := (hpw.map _).nodup_iff.mp hnd
  have hmem : ∀ (k : Nat) (x : Nat × va_E), (mm_wl X α b' w)[k]? = some x → ∃ k' : Nat, (mm_wl X α b w)[k']? = some x := fun k x hx => List.mem_iff_getElem?.mp (hpw.mem_iff.mpr (List.mem_of_getElem? hx))
  refine k p l e R s m args below meth c X α0 b0 A H locs cells slots α kls ⟨hC, ⟨fun k x hx => ?_, ⟨fun i j x y hi hj hxy => ?_, fun k x hx => ?_⟩, hR.2.2.1, hph⟩, hA, hS, fun g hg => ⟨hsub g (hO g hg).1, (hO g hg).2⟩, ⟨hL.1, hL.2.1, hL.2.2.1, fun i v hv => ⟨(hL.2.2.2 i v hv).1, agr_ok hsub (hL.2.2.2 i v hv).2⟩⟩, fun v hv => agr_ok hsub (hst v hv), hn⟩
  · obtain ⟨k', hk'⟩ := hmem k x hx
    exact hR.1 k' x hk'
  · have hnd2 := List.pairwise_iff_getElem.mp hnd'
    obtain ⟨hil, hie⟩ := List.getElem?_eq_some_iff.mp hi
    obtain ⟨hjl, hje⟩ := List.getElem?_eq_some_iff.mp hj
    rcases Nat.lt_trichotomy i j with h | h | h
    · refine absurd ?_ (hnd2 i j (by rw [List.length_map]; exact hil) (by rw [List.length_map]; exact hjl) h)
      rw [List.getElem_map, List.getElem_map, hie, hje]
      exact hxy
    · exact h
    · refine absurd ?_ (hnd2 j i (by rw [List.length_map]; exact hjl) (by rw [List.length_map]; exact hil) h)
      rw [List.getElem_map, List.getElem_map, hie, hje]
      exact hxy.symm
  · obtain ⟨k', hk'⟩ := hmem k x hx
    exact hR.2.1.2 k' x hk'
end MMR11
