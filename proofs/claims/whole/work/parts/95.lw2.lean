/-! ===== the law: calls, what is made, switch, end ===== -/
/-- the law's own end, with 1 on the stack, nothing written that was there before, its room as the claim has it -/
theorem lw_ret {p : Program} {l : Launch} {e : Env} {s : State} {m : MethodId} {below : List Frame} {meth : Method} {c : Code} {b : Nat} (hx : p.tables.exec = Jvm.exec) (hb : c.code = code) (hr : meth.sig.returnType = ret) (hlocks : meth.locks = false) {pc : Nat} {H : Heap} {ls : Array Slot} (hdg : decode code pc = .ok (.ireturn, 1)) : W p l e room_1 s m #[Value.ref b] below meth c H [] 600000 7302250 (lw_Z below #[Value.ref b] s) (F0 m pc ls [.int 1]) := by
  intro T hT X
  obtain ⟨fs, hret, hrun, hended, hW, hframe⟩ := X.leave (v := some (.int 1)) (hlocks := hlocks) (fun h => by rw [hr] at h; cases h)
  have hmeth' : T.vm.method? m = some meth := X.method'
  refine ⟨T.setFrames fs, ?_, .returned (some (.int 1)), hrun, hended, rfl, ⟨_, rfl⟩, hW, hframe⟩
  jvm_step X.here [X.here.top, hx, hb, hdg, hmeth', hr, ret, narrow_b1]
  (try refine ⟨rfl, ?_⟩); (try refine ⟨rfl, ?_⟩)
  first | (intro acts; rw [hret _ acts rfl rfl rfl]) | rw [hret _ _ rfl rfl rfl]
  exact Steps.refl _
section LWR2
variable {p : Program} {l : Launch} {e : Env} {s : State} {m : MethodId} {below : List Frame} {meth : Method} {c : Code} {ad L : Nat} {xs : Nat → Int32} {X : mm_X} {n n1 : Nat × Nat} {pc : Nat} {ls : List (Option mm_V)} {st : List mm_V} {b : mm_B} {w : mm_M}
theorem l_tail {n' : Nat × Nat} {st' : List mm_V} {Q1 : Option mm_V → mm_B → mm_M → Prop} (hn1 : n'.1 + n1.1 ≤ n.1 ∧ n'.2 + n1.2 ≤ n.2) (hst' : ∀ v ∈ st', v ∈ st) (hQ : ∀ r b' w', Q1 r b' w' → lwW p l e s m below meth c ad X n1 (pc + 3) ls (mm_pu r st') b' w')
    {H : Heap} {locs : List Loc} {cells slots : Nat} {α : Nat → Int → Nat} {kls : Array Slot} {a : Array Value}
    (hZ : lwZ s ad X n ls st b w H locs cells slots α kls) (hr : va_Run p l e room_1 s m #[Value.ref ad] below meth c H locs cells slots n'.1 n'.2 (F0 m pc kls (st.map (mm_v α))) (st'.map (mm_v α)) (mm_Qc X α b (va_A (mm_wl X α b w) H.size) Q1 a) (va_A (mm_wl X α b w) H.size)) :
    W p l e room_1 s m #[Value.ref ad] below meth c H locs cells slots (lw_Z below #[Value.ref ad] s) (F0 m pc kls (st.map (mm_v α))) := by
  obtain ⟨hR, hS, ⟨hL, hL0⟩, hst, hn⟩ := hZ
  have hA1 : ∀ q, va_A (mm_wl X α b w) H.size q → lwA s q := fun q hq => by
    rcases hq with ⟨k, e, hk⟩ | hq
    · exact hR.2.1.2 k _ hk
    · exact Nat.le_trans hS.1 hq
  refine mm_after hr hS (fun q _ h => hA1 q h) hA1 ?_
  intro r b' w' α' H1 locs1 hq1 hok hold hRp hS1
  have hk := hQ r b' w' hq1 H1 locs1 (cells + n'.1) (slots + n'.2) α' kls ⟨⟨hRp.1, hRp.2.1.weaken (fun _ _ _ h => hA1 _ h), hRp.2.2⟩, hS1, ⟨?_, hL0⟩, ?_, by omega, by omega⟩
  · have e1 : (r.map (mm_v α')).toList ++ st'.map (mm_v α) = (mm_pu r st').map (mm_v α') := by
      have e2 : st'.map (mm_v α) = st'.map (mm_v α') := List.map_congr_left fun v hv => ((mm_oldL hold (hst v (hst' v hv))).2).symm
      cases r with
      | none => exact e2
      | some v => show _ :: _ = _ :: _; rw [e2]; rfl
    rw [e1]
    exact hk
  · refine ⟨hL.1, hL.2.1, hL.2.2.1, fun i v hv => ?_⟩
    obtain ⟨h1, h2⟩ := hL.2.2.2 i v hv
    obtain ⟨h3, h4⟩ := mm_oldL hold h2
    exact ⟨by rw [h4]; exact h1, h3⟩
  · intro v hv
    cases r with
    | none => exact (mm_oldL hold (hst v (hst' v hv))).1
    | some u =>
      rcases List.mem_cons.mp hv with rfl | hv
      · exact hok v rfl
      · exact (mm_oldL hold (hst v (hst' v hv))).1
theorem l_call {K' : mm_K} {n' : Nat × Nat} {index np : Nat} {as st' : List mm_V} {Q1 : Option mm_V → mm_B → mm_M → Prop} (hC : lwC p s m meth c ad L xs X) (hd : decode code pc = .ok (.invokevirtual index, 3)) (hlok : mm_lok R_law (index, 0, np, K'.1.1)) (hE : mm_Ev K' n' as b w Q1) (hpop : mm_pop (np + 1) [] st = some (as, st')) (hrk : mm_rok K_law K' st' = true) (hrv : mm_rcv 0 as K'.2.1.2.2 = true)
    (hn1 : n'.1 + n1.1 ≤ n.1 ∧ n'.2 + n1.2 ≤ n.2) (hQ : ∀ r b' w', Q1 r b' w' → lwW p l e s m below meth c ad X n1 (pc + 3) ls (mm_pu r st') b' w') : lwW p l e s m below meth c ad X n pc ls st b w := by
  intro H locs cells slots α kls hZ
  have hZ' := hZ
  obtain ⟨hR, hS, ⟨hL, hL0⟩, hst, hn⟩ := hZ'
  obtain ⟨hMO, hM⟩ := hE
  have hM := hM l X α H.size
  have hC0 := hC.1
  unfold mm_rok at hrk
  simp only [Bool.and_eq_true] at hrk
  obtain ⟨⟨r1, r2⟩, r3⟩ := hrk
  have r1 := Nat.le_of_ble_eq_true r1
  have r2 := Nat.le_of_ble_eq_true r2
  have r3 := Nat.le_of_ble_eq_true r3
  have hrm : (mm_rm K' n').frames + 1 ≤ room_1.frames ∧ 8 + (K'.1.2.2.1 + 11) + (mm_rm K' n').locals ≤ room_1.locals := ⟨by rw [hC0.2.2.2.2.2.2.2.2.2.1]; exact r1, by rw [hC0.2.2.2.2.2.2.2.2.2.2.1]; exact r2⟩
  have hts := hC0.2.2.2.2.2.2.1
  have hfit : cells + n'.1 ≤ room_1.cells ∧ slots + n'.2 ≤ room_1.slots := ⟨by show _ ≤ 600000; omega, by show _ ≤ 7302250; omega⟩
  have hroom : 2 * (F0 m pc kls (st.map (mm_v α))).monitorRoom + ((st'.map (mm_v α)).map fun v => v.category).sum ≤ 8 := lv_room (by rw [mm_sum]; exact r3)
  have hPc : (∀ v ∈ as, v ∈ st) → ∀ U : State, U.heap = H → s.WarmedH U.vm → mm_Pc X α b w as H.size (as.map (mm_v α)).toArray U := fun hsub U hU hW =>
    ⟨rfl, by rw [hU], by rw [hU]; exact hR.1, va_K.moved hW.alike hC0.2.2.2.2.2.2.2.1, hR.2.1.weaken (fun _ _ _ _ => trivial), hR.2.2.1, hR.2.2.2, fun v hv => hst v (hsub v hv), mm_E.warm hW hC0.2.2.2.2.2.2.2.2.2.2.2.2⟩
  obtain ⟨p1, p2⟩ := mm_pop_ok _ _ _ _ _ hpop
  obtain ⟨g1, g2, g3, -⟩ := hlok
  obtain ⟨g3, g4, g5⟩ := g3 rfl
  obtain ⟨g, j, as'', N0, rfl, hg⟩ := mm_rcv0 hrv
  have p1 : st = as''.reverse ++ .inr (some (g, j)) :: st' := by simpa using p1
  have hsub : ∀ v ∈ Sum.inr (some (g, j)) :: as'', v ∈ st := fun v hv => by
    rw [p1]
    rcases List.mem_cons.mp hv with rfl | hv
    · simp
    · simp [hv]
  have hok : mm_ok b (.inr (some (g, j))) := hst _ (hsub _ List.mem_cons_self)
  obtain ⟨q0, hk0, hw0⟩ := mm_pos (X := X) (α := α) (w := w) (mm_key hok)
  rw [mm_ce_obj hg] at hw0
  obtain ⟨r9, hr9, -⟩ := hR.1 q0 _ hw0
  have hrec := va_recv hC0.2.2.2.2.2.2.2.1 hR.1 hr9 hw0
  rw [hMO.2.1 r9 hr9] at hrec
  refine l_tail (a := ((Sum.inr (some (g, j)) :: as'').map (mm_v α)).toArray) hn1 (fun v hv => by rw [p1]; simp [hv]) hQ hZ ?_
  exact va_runV (bytes := K'.1.2.1) (maxL := K'.1.2.2.1) (ret := K'.1.2.2.2.1) (n := np) ⟨hC0.1, hC0.2.1, hC0.2.2.1, hC0.2.2.2.2.2.1, hts⟩ hM ⟨callB_of np hts (mm_good K' hMO) rfl rfl rfl (hts _ g2) (hts _ g3) g1 hrm, hts _ g4, hts _ g5⟩ ⟨mm_blind, hrec, hPc hsub⟩ rfl (by simp at p2; simp; omega) hL.2.1 (by show st.map (mm_v α) = _; rw [p1]; simp; rfl) hroom hd hfit
theorem l_callI {K' : mm_K} {n' : Nat × Nat} {index : Nat} {g : Nat} {j : Int} {st' : List mm_V} {Q1 : Option mm_V → mm_B → mm_M → Prop} (hC : lwC p s m meth c ad L xs X) (hd : decode code pc = .ok (.invokespecial index, 3)) (hlok : mm_lok R_law (index, 2, 0, K'.1.1)) (hst0 : st = .inr (some (g, j)) :: st')
    (hPQ : ∀ (H : Heap) (α : Nat → Int → Nat), mm_Rp X α b w H (lwA s) → (∀ q : Nat, q < s.heap.size → H[q]? = s.heap[q]?) → mm_MO K' ∧ ∃ (Pc : Array Value → State → Prop), FrameBlind Pc ∧ (∀ U : State, U.heap = H → s.WarmedH U.vm → Pc #[Value.ref (α g j)] U) ∧ Met l K'.1.1 (mm_ws K') (mm_rm K' n') Pc (mm_Qc X α b (va_A (mm_wl X α b w) H.size) Q1) n'.1 n'.2 (va_A (mm_wl X α b w) H.size))
    (hrk : mm_rok K_law K' st' = true) (hno : K'.1.2.2.2.1 = none)
    (hn1 : n'.1 + n1.1 ≤ n.1 ∧ n'.2 + n1.2 ≤ n.2) (hQ : ∀ r b' w', Q1 r b' w' → lwW p l e s m below meth c ad X n1 (pc + 3) ls (mm_pu r st') b' w') : lwW p l e s m below meth c ad X n pc ls st b w := by
  intro H locs cells slots α kls hZ
  have hZ' := hZ
  obtain ⟨hR, hS, ⟨hL, hL0⟩, hst, hn⟩ := hZ'
  obtain ⟨hMO, Pc, hbl, hPc, hM⟩ := hPQ H α hR (fun q hq => hS.2.1 q hq (Nat.not_le.mpr hq))
  have hC0 := hC.1
  unfold mm_rok at hrk
  simp only [Bool.and_eq_true] at hrk
  obtain ⟨⟨r1, r2⟩, r3⟩ := hrk
  have r1 := Nat.le_of_ble_eq_true r1
  have r2 := Nat.le_of_ble_eq_true r2
  have r3 := Nat.le_of_ble_eq_true r3
  have hrm : (mm_rm K' n').frames + 1 ≤ room_1.frames ∧ 8 + (K'.1.2.2.1 + 11) + (mm_rm K' n').locals ≤ room_1.locals := ⟨by rw [hC0.2.2.2.2.2.2.2.2.2.1]; exact r1, by rw [hC0.2.2.2.2.2.2.2.2.2.2.1]; exact r2⟩
  have hts := hC0.2.2.2.2.2.2.1
  have hfit : cells + n'.1 ≤ room_1.cells ∧ slots + n'.2 ≤ room_1.slots := ⟨by show _ ≤ 600000; omega, by show _ ≤ 7302250; omega⟩
  have hroom : 2 * (F0 m pc kls (st.map (mm_v α))).monitorRoom + ((st'.map (mm_v α)).map fun v => v.category).sum ≤ 8 := lv_room (by rw [mm_sum]; exact r3)
  obtain ⟨g1, g2, -, -, g3, -⟩ := hlok
  obtain ⟨g3, g4, g5⟩ := g3 rfl
  refine l_tail (a := #[Value.ref (α g j)]) hn1 (fun v hv => by rw [hst0]; simp [hv]) hQ hZ ?_
  exact va_runI (bytes := K'.1.2.1) (maxL := K'.1.2.2.1) (n := 0) (As := []) (b := α g j) ⟨hC0.1, hC0.2.1, hC0.2.2.1, hC0.2.2.2.2.2.1, hts⟩ hM ⟨callB_of 0 hts (mm_good K' hMO) (by unfold mm_ws; rw [hno]) rfl rfl (hts _ g2) (hts _ g3) g1 hrm, g5, hts _ g4⟩ ⟨hbl, hPc⟩ rfl rfl hL.2.1 (by show st.map (mm_v α) = _; rw [hst0]; rfl) hroom hd hfit
theorem l_new {i g c0 N : Nat} (hC : lwC p s m meth c ad L xs X) (hd : decode code pc = .ok (.new i, 3)) (hg : mm_gk g = (0, c0, N)) (hc : mm_cok R_law i c0) (hgn : g ∉ b.2) (hn1 : 1 + n1.1 ≤ n.1 ∧ N + n1.2 ≤ n.2) (k : lwW p l e s m below meth c ad X n1 (pc + 3) ls (.inr (some (g, 0)) :: st) (bN b g) (zr w g)) : lwW p l e s m below meth c ad X n pc ls st b w := by
  intro H locs cells slots α kls ⟨hR, hS, ⟨hL, hL0⟩, hst, hn⟩
  obtain ⟨C, T, N', ty, h1, h2, h3, h4, h5, h6, h7⟩ := hc
  have hNN : N' = N := by rw [← mm_glN hg h1]
  subst hNN
  have hG := hC.1.2.2.2.2.2.2.1
  refine va_new (fs := (List.range N').map fun j => if mm_fr c0 j = true then Value.null else Value.int 0) hC.1.1 hC.1.2.1 hG h2 ty h3 hC.1.2.2.2.2.2.1 (hG _ h4) (hG _ h5) (hG _ h6) hC.1.2.2.2.2.2.2.2.1 hR.1 hR.2.1 hS (fun q h => h) h1 (fun j hj => ?_) (by show _ ≤ 600000; omega) (by show _ ≤ 7302250; omega) hd (fun q H1 hP hD hS => ?_)
  · rw [h7 j hj]
    unfold vp_V
    rw [List.getD_eq_getElem?_getD, List.getElem?_map, List.getElem?_range hj]
    rfl
  · have hagr := agr_N (w := w) (α := α) (f := fun _ => q) hgn
    have hsub : ∀ x ∈ b.2, x ∈ (bN b g).2 := fun x hx => List.mem_append_left _ hx
    have hnr := mm_nr_obj hg
    have hwl := agr_wl (X := X) hagr hR.2.2.2 (G := [g]) rfl
    have hent : mm_ce X (aN α g fun _ => q) (bN b g) (zr w g) g 0 = .inr (c0, (List.range N').map fun j => if mm_fr c0 j = true then Value.null else Value.int 0) := by
      rw [mm_ce_obj hg]
      refine congrArg _ (congrArg _ (List.map_congr_left fun j _ => ?_))
      unfold mm_fv
      rw [hg, bN_s, zr_s]
      rfl
    have hlast : ([g].flatMap fun g => (List.range (mm_nr g)).map fun j : Nat => (g, (j : Int))).map (fun x => (aN α g (fun _ => q) x.1 x.2, mm_ce X (aN α g fun _ => q) (bN b g) (zr w g) x.1 x.2)) = [(q, .inr (c0, (List.range N').map fun j => if mm_fr c0 j = true then Value.null else Value.int 0))] := by
      rw [List.flatMap_cons, List.flatMap_nil, List.append_nil, hnr]
      show [(aN α g (fun _ => q) g 0, mm_ce X (aN α g fun _ => q) (bN b g) (zr w g) g 0)] = _
      rw [hent, aN_s]
    rw [hlast] at hwl
    rw [← hwl] at hP hD
    have := k H1 locs (cells + 1) (slots + N') (aN α g fun _ => q) kls ⟨⟨hP, hD, zr_rg hR.2.2.1, ph_N hR.2.2.2 (by rw [hg]; show (0 : Nat) ≠ 4; decide) hgn⟩, hS, ⟨agr_L hagr hsub hL, hL0⟩, mm_stC (fun v hv => agr_ok hsub (hst v hv)) ⟨List.mem_append_right _ List.mem_cons_self, Int.le_refl _, by rw [hnr]; show (0 : Int) < 1; decide⟩, by omega, by omega⟩
    rw [List.map_cons, agr_st hagr hst] at this
    have e2 : mm_v (aN α g fun _ => q) (.inr (some (g, 0))) = .ref q := by
      show Value.ref _ = _
      rw [aN_s]
    rw [e2] at this
    exact this
/-- both answers are the same -/
theorem l_eq {z off : Int} {tgt : Nat} (hC : lwC p s m meth c ad L xs X) (hd : decode code pc = .ok (.if_icmp .eq off, 3)) (ht : (pc : Int) + off = tgt) (k : lwW p l e s m below meth c ad X n tgt ls st b w) : lwW p l e s m below meth c ad X n pc ls (.inl z :: .inl z :: st) b w := by
  intro H locs cells slots α kls ⟨hR, hS, hL, hst, hn⟩
  exact lv_icmp_eq hC.1.1 hC.1.2.1 hd ht (fun _ => k H locs cells slots α kls ⟨hR, hS, hL, mm_stT (mm_stT hst), hn⟩) (fun h => absurd rfl h)
theorem l_end (hC : lwC p s m meth c ad L xs X) : lwW p l e s m below meth c ad X n 674 ls [] b w := by
  intro H locs cells slots α kls ⟨hR, hS, hL, hst, hn⟩
  refine lv_iconst (v := 1) hC.1.1 hC.1.2.1 d_law_674 (by decide) ?_
  refine va_forget (fun q hq => hS.2.2 q hq) ?_
  refine W.widen (k := 600000) (n := 7302250) (by omega) (by omega) ?_
  exact lw_ret hC.1.1 hC.1.2.1 hC.1.2.2.2.1 hC.1.2.2.2.2.1 d_law_675
/-- i > script.length - 5? -/
theorem l_head {i : Int} (hC : lwC p s m meth c ad L xs X) (hl : mm_nth ls 3 = some (some (.inl i))) (k1 : ¬ i + 5 ≤ L → lwW p l e s m below meth c ad X n 674 ls [] b w) (k2 : i + 5 ≤ L → lwW p l e s m below meth c ad X n 26 ls [] b w) : lwW p l e s m below meth c ad X n 18 ls [] b w := by
  intro H locs cells slots α kls ⟨hR, hS, ⟨hL, hL0⟩, hst, hn⟩
  obtain ⟨h1, h2⟩ := hL.2.2.2 3 _ hl
  have hLL := hC.2.2.2
  have hbA : ¬ lwA s ad := Nat.not_le.mpr hC.2.2.1
  refine lv_iload_n hC.1.1 hC.1.2.1 d_law_18 rfl h1 ?_
  refine lv_aload_n hC.1.1 hC.1.2.1 d_law_19 rfl hL0 ?_
  refine va_slen hC.1.1 hC.1.2.1 hC.2.1 hC.2.2.1 hbA hS d_law_20 ?_
  refine lv_iconst hC.1.1 hC.1.2.1 d_law_21 rfl ?_
  refine lv_isub hC.1.1 hC.1.2.1 d_law_22 ?_
  have e1 : Int32.ofNat L - Int32.ofInt 5 = Int32.ofInt ((L : Int) - 5) := by
    have h5 : (Int32.ofInt ((L : Int) - 5)) = Int32.ofInt (L : Int) - Int32.ofInt 5 := Int32.ofInt_sub _ _
    rw [h5]
    rfl
  refine lv_icmp_gt (tgt := 674) hC.1.1 hC.1.2.1 d_law_23 (by decide) (fun h => ?_) (fun h => ?_)
  · rw [e1, mm_i6 ⟨by omega, by omega⟩ h2] at h
    exact k1 (by omega) H locs cells slots α kls ⟨hR, hS, ⟨hL, hL0⟩, hst, hn⟩
  · rw [e1, mm_i6 ⟨by omega, by omega⟩ h2] at h
    exact k2 (by omega) H locs cells slots α kls ⟨hR, hS, ⟨hL, hL0⟩, hst, hn⟩
def lw_offs : List Nat := [96, 119, 132, 145, 158, 191, 214, 267, 320, 353, 376, 419, 442, 485, 518, 541, 564, 577, 600, 613]
theorem l_sw {i : Int} (hC : lwC p s m meth c ad L xs X) (hl : mm_nth ls 3 = some (some (.inl i))) (hi : 0 ≤ i ∧ i + 5 ≤ L) (k1 : ∀ j off : Nat, lw_offs[j]? = some off → lwW p l e s m below meth c ad X n (32 + off) ls [] b w) (k2 : lwW p l e s m below meth c ad X n 668 ls [] b w) : lwW p l e s m below meth c ad X n 26 ls [] b w := by
  intro H locs cells slots α kls ⟨hR, hS, ⟨hL, hL0⟩, hst, hn⟩
  obtain ⟨h1, h2⟩ := hL.2.2.2 3 _ hl
  have hLL := hC.2.2.2
  have hbA : ¬ lwA s ad := Nat.not_le.mpr hC.2.2.1
  refine lv_aload_n hC.1.1 hC.1.2.1 d_law_26 rfl hL0 ?_
  refine lv_iload_n hC.1.1 hC.1.2.1 d_law_27 rfl h1 ?_
  rw [show Int32.ofInt i = nI i.toNat from by
    apply Int32.toInt_inj.mp
    rw [nI_toInt (by omega), mm_i1 h2]
    omega]
  refine va_sld hC.1.1 hC.1.2.1 hC.2.1 hC.2.2.1 hbA hS (vp_in_nI (by omega) (by omega)) d_law_28 ?_
  refine lv_bipush hC.1.1 hC.1.2.1 d_law_29 (v := 31) (by decide) ?_
  refine lv_iand hC.1.1 hC.1.2.1 d_law_31 ?_
  obtain ⟨j, hj, ej⟩ := pk_andE (xs (nI i.toNat).toNatClampNeg) (m := 31) 5 (by decide)
  rw [ej]
  have hji : (nI j).toInt = j := nI_toInt (by omega)
  by_cases h20 : j < 20
  · obtain ⟨off, hoff⟩ : ∃ off, lw_offs[j]? = some off := ⟨lw_offs[j]'(by simpa [lw_offs] using h20), List.getElem?_eq_getElem _⟩
    refine lv_tableIn (off := (off : Int)) (tgt := 32 + off) hC.1.1 hC.1.2.1 d_law_32 (by omega) (by omega) ?_ (by omega) (k1 j off hoff H locs cells slots α kls ⟨hR, hS, ⟨hL, hL0⟩, hst, hn⟩)
    rw [hji, show ((j : Int) - 0).toNat = j by omega]
    have : (#[96, 119, 132, 145, 158, 191, 214, 267, 320, 353, 376, 419, 442, 485, 518, 541, 564, 577, 600, 613] : Array Int) = (lw_offs.map fun z : Nat => (z : Int)).toArray := rfl
    rw [this, List.getElem?_toArray, List.getElem?_map, hoff]
    rfl
  · exact lv_tableOut (tgt := 668) hC.1.1 hC.1.2.1 d_law_32 (by omega) (by decide) (k2 H locs cells slots α kls ⟨hR, hS, ⟨hL, hL0⟩, hst, hn⟩)
end LWR2
