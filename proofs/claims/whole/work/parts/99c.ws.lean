/-! ===== the start: what the machine knows, the text constant, the relation ===== -/
section WS0
variable {K : mm_K} {n : Nat × Nat} {b : mm_B} {w : mm_M} {Q : Option mm_V → mm_B → mm_M → Prop}
/-- what the class's constructor finds at its entry -/
def mm_PcL (X : mm_X) (α : Nat → Int → Nat) (b : mm_B) (w : mm_M) (as : List mm_V) (sz : Nat) : Array Value → State → Prop := fun v U => mm_Pc X α b w as sz v U ∧ mm_LitZ U (va_A (mm_wl X α b w) sz)
theorem mm_blindL {X : mm_X} {α : Nat → Int → Nat} {as : List mm_V} {sz : Nat} : FrameBlind (mm_PcL X α b w as sz) := by
  intro a U g mk q
  obtain ⟨q0, adK, adV, z1, z2, z3, z4⟩ := q
  exact ⟨mm_blind a U g mk q0, adK, adV, vk_S.moved (u := U) (U := U.calling g mk a) (Vm.Alike.refl U.vm) z1, vk_R.same (u := U) (U := U.calling g mk a) rfl z2, va_Z.moved (u := U) (U := U.calling g mk a) (Vm.Alike.refl U.vm) z3, va_Zq.moved (u := U) (U := U.calling g mk a) (Vm.Alike.refl U.vm) z4⟩
theorem ev_introL {as : List mm_V} (hKO : mm_KO K) (hMO : mm_MO K) (hlen : as.length ≤ K.1.2.2.1) (k : mm_Wk K n 0 (mm_ent as K.1.2.2.1) [] b w Q) (l : Launch) (X : mm_X) (α : Nat → Int → Nat) (sz : Nat) : Met l K.1.1 (mm_ws K) (mm_rm K n) (mm_PcL X α b w as sz) (mm_Qc X α b (va_A (mm_wl X α b w) sz) Q) n.1 n.2 (va_A (mm_wl X α b w) sz) := by
  refine Met.ofW (cc := K.1.2.1) (maxL := K.1.2.2.1) (ret := K.1.2.2.2.1) hMO.2.2.1 rfl ?_
  intro p e s m args below meth c s₁ B hml hv
  obtain ⟨⟨rfl, hsz, hP, hKk, hD0, hrg, hph, has, hEE⟩, hLZ⟩ := hv
  have hts := atoms_spec (ws := mm_ws K) B.pre
  have hown : s.vm.findClass K.1.1.cls = some m.cls := findClass_of_methodNamed B.named
  rw [hMO.2.2.2] at hown
  subst hsz
  have hcat : ∀ v ∈ as.map (mm_v α), v.category = 1 := fun v hv => by
    obtain ⟨u, -, rfl⟩ := List.mem_map.mp hv
    exact mm_cat α u
  have hl := lv_entry (as.map (mm_v α)) (n := K.1.2.2.1) (by rw [mm_lgl _ hcat, List.length_map]; exact hlen)
  rw [lg_entry_eq]
  refine k p l e _ s m _ below meth c X α b (va_A (mm_wl X α b w) s.heap.size) s.heap [] 0 0 α _ ⟨⟨B.exec, B.bytes, hml, B.returns, B.notSynchronized, hown, fun w hw => hts w (List.mem_cons_of_mem _ hw), hKk, (name_of_methodNamed B.named B.method).1, rfl, rfl, hKO, hEE⟩, ⟨hP, hD0.self, hrg, hph⟩, ⟨fun q h => Or.inr h, fun _ => hLZ⟩, va_S.rf, fun g hg => ⟨hg, fun j => rfl⟩, ⟨?_, hl.1, hl.2.1, ?_⟩, fun v hv => (by cases hv), Nat.le_of_eq (Nat.zero_add _), Nat.le_of_eq (Nat.zero_add _)⟩
  · unfold mm_ent
    simp
    omega
  · intro i v hv
    have hv2 : as[i]? = some v := by
      unfold mm_ent at hv
      rw [mm_nth_get] at hv
      by_cases hi : i < as.length
      · rw [List.getElem?_append_left (by simpa using hi), List.getElem?_map] at hv
        cases h9 : as[i]? with
        | none => rw [h9] at hv; cases hv
        | some u => rw [h9] at hv; cases hv; rfl
      · rw [List.getElem?_append_right (by simp; omega)] at hv
        have := List.mem_of_getElem? hv
        have := (List.mem_replicate.mp this).2
        cases this
    refine ⟨?_, has v (List.mem_of_getElem? hv2)⟩
    have := mm_lva (as.map (mm_v α)) hcat 0 i (mm_v α v) (by rw [List.getElem?_map, hv2]; rfl)
    rw [Nat.zero_add] at this
    exact hl.2.2 _ this
end WS0
theorem lit_el : ∀ j : Fin 73, Cond.eq (.elem (.field (.string "CubeChecker" 43) "java/lang/String" "value" "[B") (.int (Int32.ofNat j.val))) (.int (mm_tb.getD j.val 0)) ∈ flatC (Jvm.Cond.and given_1 narrow_1) := by decide +kernel
theorem lit_start {s : State} {A : Array Value} (hts : ∀ w ∈ lw_tbl, w.before A s = true) (hgv : (Jvm.Cond.and given_1 narrow_1).before A s = true) : mm_LitZ s (lwA s) := by
  have hs := flat_of_before _ hgv
  have hA : ∀ a : Nat, a < s.heap.size → ¬ lwA s a := fun a h => Nat.not_le.mpr h
  have h0 : ∀ i : Nat, i < 1 → i = 0 := fun i h => by omega
  obtain ⟨adK, adV, h1, h2⟩ := vk_Sof (args := A) (s := s) (N := 1) (tm := fun _ => Term.string "CubeChecker" 43) (len := [73]) (byt := [mm_tb]) (A := lwA s)
    (fun i hi => by rw [h0 i hi]; decide) (fun i hi => hs _ (by decide +kernel)) (fun i hi => hs _ (by decide +kernel)) (fun i hi => hs _ (by decide +kernel)) (fun i hi => by rw [h0 i hi]; exact hs _ (by decide +kernel)) (fun i hi j hj => by
      have hi := h0 i hi
      subst hi
      exact hs _ (lit_el ⟨j, hj⟩)) (fun i j hi hj hn => absurd ((h0 i hi).trans (h0 j hj).symm) hn) hA
  refine ⟨adK, adV, h1, vk_R.of (A := A) (hts _ (List.mem_of_getElem? (i := 233) (by decide +kernel))) (h2 0 (by decide)), ?_, ?_⟩
  · exact va_Zof (args := A) (hts _ (List.mem_of_getElem? (i := 243) (by decide +kernel))) (hts _ (List.mem_of_getElem? (i := 74) (by decide +kernel))) (va_eqi (hs _ (by decide +kernel))) hA
  · exact va_Zqof (args := A) (hts _ (List.mem_of_getElem? (i := 259) (by decide +kernel))) (hts _ (List.mem_of_getElem? (i := 76) (by decide +kernel))) (hs _ (by decide +kernel)) hA
theorem lit_moved {s U : State} {A B : Nat → Prop} {H : Heap} (hU : U.heap = H) (hW : s.WarmedH U.vm) (hAB : ∀ q, B q → A q) (hq : ∀ a : Nat, a < s.heap.size → ¬ A a → H[a]? = s.heap[a]?) (h : mm_LitZ s A) : mm_LitZ U B := by
  subst hU
  obtain ⟨adK, adV, z1, z2, z3, z4⟩ := h
  exact ⟨adK, adV, vk_S.moved hW.alike ((z1.kept hq).narrow hAB), vk_R.warm hW z2, va_Z.moved hW.alike ((z3.kept hq).narrow hAB), va_Zq.moved hW.alike ((z4.kept hq).narrow hAB)⟩
theorem know_start {s : State} {A : Array Value} (hts : ∀ w ∈ lw_tbl, w.before A s = true) : ∃ X : mm_X, va_K X.1 vwCl (mm_ty X) s := by
  have htG : ∀ w ∈ tb_G, w.before A s = true := fun w h => hts w (List.mem_filter.mp h).1
  have hin : ∀ (i : Nat) {w : Cond}, lw_tbl[i]? = some w → w.before A s = true := fun i w h => hts w (List.mem_of_getElem? h)
  obtain ⟨c0, i0, k0⟩ := u_known (n := 4) htG tb_X0 (hin 214 (by decide +kernel))
  obtain ⟨c1, i1, k1⟩ := u_known (n := 9) htG tb_X1 (hin 390 (by decide +kernel))
  obtain ⟨c2, i2, k2⟩ := u_known (n := 11) htG tb_X2 (hin 745 (by decide +kernel))
  obtain ⟨c3, i3, k3⟩ := u_known (n := 6) htG tb_X3 (hin 189 (by decide +kernel))
  obtain ⟨c4, i4, k4⟩ := u_known (n := 1) htG tb_X4 (hin 545 (by decide +kernel))
  obtain ⟨c5, i5, k5⟩ := u_known (n := 9) htG tb_X5 (hin 103 (by decide +kernel))
  obtain ⟨c6, i6, k6⟩ := u_known (n := 10) htG tb_X6 (hin 539 (by decide +kernel))
  obtain ⟨c7, i7, k7⟩ := u_known (n := 4) htG tb_X7 (hin 97 (by decide +kernel))
  obtain ⟨c8, i8, k8⟩ := u_known (n := 12) htG tb_X8 (hin 700 (by decide +kernel))
  obtain ⟨c9, i9, k9⟩ := u_known (n := 9) htG tb_X9 (hin 89 (by decide +kernel))
  obtain ⟨c10, i10, k10⟩ := u_known (n := 34) htG tb_X10 (hin 965 (by decide +kernel))
  obtain ⟨aI, bI, dI, e1, e2, e3⟩ := Cond.arrayClass_spec (type := .int) (hin 172 (by decide +kernel))
  obtain ⟨aZ, bZ, dZ, f1, f2, f3⟩ := Cond.arrayClass_spec (type := .boolean) (hin 1089 (by decide +kernel))
  obtain ⟨aC, bC, dC, g1, g2, g3⟩ := Cond.arrayClass_spec (type := .char) (hin 171 (by decide +kernel))
  obtain ⟨dA, aA, bA, m0, m2, m3, m1⟩ := Cond.arrayOver_specA (t := .int) (hin 109 (by decide +kernel))
  refine ⟨((fun c => [c0, c1, c2, c3, c4, c5, c6, c7, c8, c9, c10].getD c 0, fun c => [i0, i1, i2, i3, i4, i5, i6, i7, i8, i9, i10].getD c (fun _ => 0)), aI, aZ, aC, aA), ?_, ?_⟩
  · intro c q h
    match c, h with
    | 0, h => cases h; exact k0
    | 1, h => cases h; exact k1
    | 2, h => cases h; exact k2
    | 3, h => cases h; exact k3
    | 4, h => cases h; exact k4
    | 5, h => cases h; exact k5
    | 6, h => cases h; exact k6
    | 7, h => cases h; exact k7
    | 8, h => cases h; exact k8
    | 9, h => cases h; exact k9
    | 10, h => cases h; exact k10
    | c + 11, h => exact absurd (List.getElem?_eq_some_iff.mp h).1 (by simp [vwCl])
  · intro k q h
    match k, h with
    | 0, h => cases h; exact ⟨fun N z => ⟨(fun k h => by cases h), bI, e2, dI, e3⟩, e1⟩
    | 1, h => cases h; exact ⟨fun N z => ⟨(fun k h => by cases h), bZ, f2, dZ, f3⟩, f1⟩
    | 2, h => cases h; exact ⟨fun N z => ⟨(fun k h => by cases h), bC, g2, dC, g3⟩, g1⟩
    | 3, h => cases h; exact ⟨fun N z => ⟨(fun k h => by cases h), bA, m2, dA, m3⟩, m1⟩
    | k + 4, h => exact absurd (List.getElem?_eq_some_iff.mp h).1 (by simp [mm_ty])
theorem E_start {s : State} {A : Array Value} (hts : ∀ w ∈ lw_tbl, w.before A s = true) : mm_E s := by
  have hin : ∀ (i : Nat) {w : Cond}, lw_tbl[i]? = some w → w.before A s = true := fun i w h => hts w (List.mem_of_getElem? h)
  refine ⟨fun w hw => ?_, hin 109 (w := Cond.arrayOver (.array .int)) (by decide +kernel)⟩
  rcases List.mem_cons.mp hw with rfl | hw
  · exact va_Nw.of rfl (hin 187 (by decide +kernel))
  rcases List.mem_cons.mp hw with rfl | hw
  · exact va_Nw.of rfl (hin 215 (by decide +kernel))
  rcases List.mem_cons.mp hw with rfl | hw
  · exact va_Nw.of rfl (hin 98 (by decide +kernel))
  rcases List.mem_cons.mp hw with rfl | hw
  · exact va_Nw.of rfl (hin 104 (by decide +kernel))
  · cases hw
/-- both sides are made: the relation -/
theorem INV_start {w w1 w2 : mm_M} {a : Option mm_V} {b' : mm_B} (hc : ciQ a b' w) (h1 : higS w w1) (h2 : higS w1 w2) (hL : LD w2 (told tx 73).2) (h0 : w2 1 0 0 = 0) : INV w2 (false, true) false := by
  obtain ⟨-, -, hCB, ⟨q1, q2, q3⟩, q4, e7, e8⟩ := hc
  have hh : higS w w2 := fun g j k hg => (h2 g j k hg).trans (h1 g j k hg)
  have hCB := CB_eq (fun g j k hg => hh g j k (cbG_21 hg)) hCB
  have e7 : w2 21 0 7 = 1 := (hh 21 0 7 (by decide)).trans e7
  have e8 : w2 21 0 8 = 1 := (hh 21 0 8 (by decide)).trans e8
  generalize told tx 73 = TT at *
  obtain ⟨F, T⟩ := TT
  dsimp only at hCB hL
  obtain ⟨l2, l3, l4, l6, l8, lf, lc, le, ll, lt, l12⟩ := hL
  refine ⟨fun p a b => ?_, fun i a b => by rw [l12] at b; omega, ?_⟩
  · rw [ll p a b]
    exact ⟨Int.le_refl _, Int.ofNat_lt.mpr (Nat.two_pow_pos _)⟩
  · unfold CSm
    rw [l2, l3, l4, l6, l8, l12, h0]
    refine ⟨CB_old (fun g k a b c1 d1 => lc g k a b c1 d1) (fun x k a b c1 d1 => ?_) (fun k a b => lf k a b) (fun p a b => ll p a b) e7 e8 hCB, ⟨⟨(hh 43 0 2 (by decide)).trans q1, ⟨Int.le_refl _, by decide⟩, ?_⟩, fun i a b => by omega⟩, fun k a b => by omega, (hh 22 0 1 (by decide)).trans q4, Int.le_refl _, by decide⟩
    · by_cases hk : k = 3
      · rw [hk, m_e3' a]; exact lt x a b
      · rw [m_e_ne hk]; exact le x k a b c1 d1
    · rw [hh 43 0 3 (by decide)]
      exact ⟨q2, q3⟩
