/-! ===== a call, an entry ===== -/
def mm_rcv (kind : Nat) (as : List mm_V) (cn : Nat) : Bool := match kind, as with
  | 1, _ => true
  | 0, .inr (some (g, _)) :: _ => match mm_gk g with
    | (0, c, _) => Nat.beq c cn
    | _ => false
  | 2, .inr (some _) :: _ => true
  | 3, .inr (some _) :: _ => true
  | _, _ => false
def mm_rok (K K' : mm_K) (st : List mm_V) : Bool := Nat.ble (K'.2.1.1 + 1) K.2.1.1 && Nat.ble (8 + (K'.1.2.2.1 + 11) + K'.2.1.2.1) K.2.1.2.1 && Nat.ble st.length 8
theorem mm_pop_ok : ∀ (k : Nat) (acc st as st' : List mm_V), mm_pop k acc st = some (as, st') → acc.reverse ++ st = as.reverse ++ st' ∧ as.length = k + acc.length := by
  intro k
  induction k with
  | zero =>
    intro acc st as st' h
    cases h
    exact ⟨rfl, by omega⟩
  | succ k ih =>
    intro acc st as st' h
    cases st with
    | nil => cases h
    | cons v st =>
      obtain ⟨h1, h2⟩ := ih (v :: acc) st as st' h
      refine ⟨?_, by rw [h2]; simp; omega⟩
      rw [← h1]
      simp
theorem mm_mlk_mem {ml : List (Nat × Nat × Nat × MethodName)} {i : Nat} {q : Nat × Nat × Nat × MethodName} (h : mm_mlk ml i = some q) : q ∈ ml ∧ q.1 = i := by
  induction ml with
  | nil => cases h
  | cons a r ih =>
    unfold mm_mlk at h
    split at h
    · rename_i hb
      cases h
      exact ⟨List.mem_cons_self, mm_beq hb⟩
    · exact ⟨List.mem_cons_of_mem _ (ih h).1, (ih h).2⟩
theorem mm_sum (α : Nat → Int → Nat) (st : List mm_V) : ((st.map (mm_v α)).map fun v => v.category).sum = st.length := by
  induction st with
  | nil => rfl
  | cons v r ih =>
    show (mm_v α v).category + _ = _
    rw [mm_cat]
    show 1 + ((r.map (mm_v α)).map fun v => v.category).sum = _
    rw [ih]
    simp
    omega
theorem mm_oldL {b b' : mm_B} {α α' : Nat → Int → Nat} (h : mm_old b b' α α') {v : mm_V} (hv : mm_ok b v) : mm_ok b' v ∧ mm_v α' v = mm_v α v := by
  rcases v with x | r
  · exact ⟨hv, rfl⟩
  · cases r with
    | none => exact ⟨trivial, rfl⟩
    | some q =>
      obtain ⟨h1, h2⟩ := h q.1 hv.1
      exact ⟨⟨h1, hv.2⟩, by show Value.ref _ = Value.ref _; rw [h2]⟩
theorem mm_rcv0 {as : List mm_V} {cn : Nat} (h : mm_rcv 0 as cn = true) : ∃ (g : Nat) (j : Int) (r : List mm_V) (N : Nat), as = .inr (some (g, j)) :: r ∧ mm_gk g = (0, cn, N) := by
  match as, h with
  | .inr (some (g, j)) :: r, h =>
    have h : (match mm_gk g with
      | (0, c, _) => Nat.beq c cn
      | _ => false) = true := h
    split at h
    · rename_i c N hg
      rw [mm_beq h] at hg
      exact ⟨g, j, r, N, rfl, hg⟩
    · cases h
theorem mm_rcv2 {kind : Nat} {as : List mm_V} {cn : Nat} (hk : kind = 2 ∨ kind = 3) (h : mm_rcv kind as cn = true) : ∃ (g : Nat) (j : Int) (r : List mm_V), as = .inr (some (g, j)) :: r := by
  rcases hk with rfl | rfl
  · match as, h with
    | .inr (some (g, j)) :: r, h => exact ⟨g, j, r, rfl⟩
  · match as, h with
    | .inr (some (g, j)) :: r, h => exact ⟨g, j, r, rfl⟩
section MMR6
variable {K K' : mm_K} {n : Nat × Nat} {pc : Nat} {ls : List (Option mm_V)} {st : List mm_V} {b : mm_B} {w : mm_M} {Q : Option mm_V → mm_B → mm_M → Prop}
theorem mm_call_tail {n1 n' : Nat × Nat} {pc' : Nat} {st' : List mm_V} {Q1 : Option mm_V → mm_B → mm_M → Prop} (hpc : pc' = pc + 3) (hn1 : n.1 = n1.1 + n'.1 ∧ n.2 = n1.2 + n'.2) (hst' : ∀ v ∈ st', v ∈ st) (hQ : ∀ r b' w', Q1 r b' w' → mm_Wk K n1 pc' ls (mm_pu r st') b' w' Q)
    {p : Program} {l : Launch} {e : Env} {R : Room} {s : State} {m : MethodId} {args : Array Value} {below : List Frame} {meth : Method} {c : Code} {X : mm_X} {α0 : Nat → Int → Nat} {b0 : mm_B} {A : Nat → Prop} {H : Heap} {locs : List Loc} {cells slots : Nat} {α : Nat → Int → Nat} {kls : Array Slot} {a : Array Value}
    (hZ : mm_Z K n ls st b w p R s m args meth c X α0 b0 A H locs cells slots α kls) (hr : va_Run p l e R s m args below meth c H locs cells slots n'.1 n'.2 (F0 m pc kls (st.map (mm_v α))) (st'.map (mm_v α)) (mm_Qc X α b (va_A (mm_wl X α b w) H.size) Q1 a) (va_A (mm_wl X α b w) H.size)) :
    W p l e R s m args below meth c H locs cells slots (MQ below (mm_Qc X α0 b0 A Q) args s R.cells R.slots A) (F0 m pc kls (st.map (mm_v α))) := by
  obtain ⟨hC, hR, hA, hS, hO, hL, hst, hn⟩ := hZ
  have hA1 : ∀ q, va_A (mm_wl X α b w) H.size q → A q := fun q hq => by
    rcases hq with ⟨k, e, hk⟩ | hq
    · exact hR.2.1.2 k _ hk
    · exact hA.1 q (Nat.le_trans hS.1 hq)
  refine mm_after hr hS (fun q _ h => hA1 q h) hA1 ?_
  intro r b' w' α' H1 locs1 hq1 hok hold hRp hS1
  have hk := hQ r b' w' hq1 p l e R s m args below meth c X α0 b0 A H1 locs1 (cells + n'.1) (slots + n'.2) α' kls ⟨hC, ⟨hRp.1, hRp.2.1.weaken (fun _ _ _ h => hA1 _ h), hRp.2.2⟩, hA, hS1, ?_, ?_, ?_, by omega, by omega⟩
  · have e1 : (r.map (mm_v α')).toList ++ st'.map (mm_v α) = (mm_pu r st').map (mm_v α') := by
      have e2 : st'.map (mm_v α) = st'.map (mm_v α') := List.map_congr_left fun v hv => ((mm_oldL hold (hst v (hst' v hv))).2).symm
      cases r with
      | none => exact e2
      | some v => show _ :: _ = _ :: _; rw [e2]; rfl
    rw [e1, ← hpc]
    exact hk
  · intro g hg
    obtain ⟨h1, h2⟩ := hO g hg
    obtain ⟨h3, h4⟩ := hold g h1
    exact ⟨h3, fun j => (h4 j).trans (h2 j)⟩
  · refine ⟨hL.1, hL.2.1, hL.2.2.1, fun i v hv => ?_⟩
    obtain ⟨h1, h2⟩ := hL.2.2.2 i v hv
    obtain ⟨h3, h4⟩ := mm_oldL hold h2
    exact ⟨by rw [h4]; exact h1, h3⟩
  · intro v hv
    cases r with
    | none => exact (mm_oldL hold (hst v (hst' v hv))).1
    | some u =>
      rcases List.mem_cons.mp hv with rfl | hv
      · exact hok v rfl
      · exact (mm_oldL hold (hst v (hst' v hv))).1
/-- a call of a method whose contract is known -/
theorem k_call {n1 n' : Nat × Nat} {kind pc' : Nat} {y : MethodName} {as st' : List mm_V} {Q1 : Option mm_V → mm_B → mm_M → Prop} (h : mm_clk K.2.2.1 K.2.2.2.2.2 pc st = some (kind, y, as, st', pc')) (hE : mm_Ev K' n' as b w Q1) (hy : y = K'.1.1) (hrk : mm_rok K K' st' = true) (hrv : mm_rcv kind as K'.2.1.2.2 = true) (hret : kind = 2 ∨ kind = 3 → K'.1.2.2.2.1 = none)
    (hn1 : n.1 = n1.1 + n'.1 ∧ n.2 = n1.2 + n'.2) (hQ : ∀ r b' w', Q1 r b' w' → mm_Wk K n1 pc' ls (mm_pu r st') b' w' Q) : mm_Wk K n pc ls st b w Q := by
  refine k_ko fun hK => ?_
  subst hy
  intro p l e R s m args below meth c X α0 b0 A H locs cells slots α kls hZ
  have hZ' := hZ
  obtain ⟨hC, hR, hA, hS, hO, hL, hst, hn⟩ := hZ'
  obtain ⟨hMO, hM⟩ := hE
  have hM := hM l X α H.size
  unfold mm_rok at hrk
  simp only [Bool.and_eq_true] at hrk
  obtain ⟨⟨r1, r2⟩, r3⟩ := hrk
  have r1 := Nat.le_of_ble_eq_true r1
  have r2 := Nat.le_of_ble_eq_true r2
  have r3 := Nat.le_of_ble_eq_true r3
  have hrm : (mm_rm K' n').frames + 1 ≤ R.frames ∧ 8 + (K'.1.2.2.1 + 11) + (mm_rm K' n').locals ≤ R.locals := ⟨by rw [hC.2.2.2.2.2.2.2.2.2.1]; exact r1, by rw [hC.2.2.2.2.2.2.2.2.2.2.1]; exact r2⟩
  have hts := hC.2.2.2.2.2.2.1
  have hfit : cells + n'.1 ≤ R.cells ∧ slots + n'.2 ≤ R.slots := by omega
  have hroom : 2 * (F0 m pc kls (st.map (mm_v α))).monitorRoom + ((st'.map (mm_v α)).map fun v => v.category).sum ≤ 8 := lv_room (by rw [mm_sum]; exact r3)
  have hPc : (∀ v ∈ as, v ∈ st) → ∀ U : State, U.heap = H → s.WarmedH U.vm → mm_Pc X α b w as H.size (as.map (mm_v α)).toArray U := fun hsub U hU hW =>
    ⟨rfl, by rw [hU], by rw [hU]; exact hR.1, va_K.moved hW.alike hC.2.2.2.2.2.2.2.1, hR.2.1.weaken (fun _ _ _ _ => trivial), hR.2.2.1, hR.2.2.2, fun v hv => hst v (hsub v hv), mm_E.warm hW hC.2.2.2.2.2.2.2.2.2.2.2.2⟩
  unfold mm_clk at h
  split at h
  · cases h
  · rename_i q z hlk
    obtain ⟨hm, he⟩ := mm_lk_hd hlk
    obtain ⟨h1, h2, h3, h4⟩ := hK.1 q hm
    subst he
    have hdd : mm_il q.2.1 = 3 → decode K.1.2.1 q.1 = .ok (q.2.1, 3) ∧ q.2.2 = q.1 + 3 := fun z => by
      rw [z] at h4
      have h5 := h4.resolve_left (by decide)
      exact ⟨by rw [h1, show q.2.2 - q.1 = 3 by omega], h5⟩
    split at h
    · rename_i i hi
      rw [hi] at hdd
      obtain ⟨hd, hpc⟩ := hdd rfl
      split at h
      · rename_i i' np y' hml
        obtain ⟨hmm, hme⟩ := mm_mlk_mem hml
        have hme : i' = i := hme
        subst hme
        split at h
        · rename_i as' st'' hpop
          simp only [Option.some.injEq, Prod.mk.injEq] at h
          obtain ⟨h0, hy0, ha0, hs0, hp0⟩ := h
          subst h0 hy0 ha0 hs0 hp0
          obtain ⟨p1, p2⟩ := mm_pop_ok _ _ _ _ _ hpop
          obtain ⟨g1, g2, g3, -⟩ := hK.2.2 _ hmm
          obtain ⟨g3, g4, g5⟩ := g3 rfl
          obtain ⟨g, j, as'', N0, rfl, hg⟩ := mm_rcv0 hrv
          have p1 : st = as''.reverse ++ .inr (some (g, j)) :: st'' := by simpa using p1
          have hsub : ∀ v ∈ Sum.inr (some (g, j)) :: as'', v ∈ st := fun v hv => by
            rw [p1]
            rcases List.mem_cons.mp hv with rfl | hv
            · simp
            · simp [hv]
          have hok : mm_ok b (.inr (some (g, j))) := hst _ (hsub _ List.mem_cons_self)
          obtain ⟨q0, hk0, hw0⟩ := mm_pos (X := X) (α := α) (w := w) (mm_key hok)
          rw [mm_ce_obj hg] at hw0
          obtain ⟨r9, hr9, -⟩ := hR.1 q0 _ hw0
          have hrec := va_recv hC.2.2.2.2.2.2.2.1 hR.1 hr9 hw0
          rw [hMO.2.1 r9 hr9] at hrec
          refine mm_call_tail (a := ((Sum.inr (some (g, j)) :: as'').map (mm_v α)).toArray) hpc hn1 (fun v hv => by rw [p1]; simp [hv]) hQ hZ ?_
          exact va_runV (bytes := K'.1.2.1) (maxL := K'.1.2.2.1) (ret := K'.1.2.2.2.1) (n := np) ⟨hC.1, hC.2.1, hC.2.2.1, hC.2.2.2.2.2.1, hts⟩ hM ⟨callB_of np hts (mm_good K' hMO) rfl rfl rfl (hts _ g2) (hts _ g3) g1 hrm, hts _ g4, hts _ g5⟩ ⟨mm_blind, hrec, hPc hsub⟩ rfl (by simp at p2; simp; omega) hL.2.1 (by show st.map (mm_v α) = _; rw [p1]; simp; rfl) hroom hd hfit
        · cases h
      · cases h
    · rename_i i hi
      rw [hi] at hdd
      obtain ⟨hd, hpc⟩ := hdd rfl
      split at h
      · rename_i i' np y' hml
        obtain ⟨hmm, hme⟩ := mm_mlk_mem hml
        have hme : i' = i := hme
        subst hme
        split at h
        · rename_i as' st'' hpop
          simp only [Option.some.injEq, Prod.mk.injEq] at h
          obtain ⟨h0, hy0, ha0, hs0, hp0⟩ := h
          subst h0 hy0 ha0 hs0 hp0
          obtain ⟨p1, p2⟩ := mm_pop_ok _ _ _ _ _ hpop
          obtain ⟨g1, g2, -, g3, -⟩ := hK.2.2 _ hmm
          obtain ⟨g3, g4⟩ := g3 rfl
          have p1 : st = as'.reverse ++ st'' := by simpa using p1
          have hsub : ∀ v ∈ as', v ∈ st := fun v hv => by rw [p1]; simp [hv]
          refine mm_call_tail (a := (as'.map (mm_v α)).toArray) hpc hn1 (fun v hv => by rw [p1]; simp [hv]) hQ hZ ?_
          exact va_runS (bytes := K'.1.2.1) (maxL := K'.1.2.2.1) (ret := K'.1.2.2.2.1) (n := np) ⟨hC.1, hC.2.1, hC.2.2.1, hC.2.2.2.2.2.1, hts⟩ hM ⟨callB_of np hts (mm_good K' hMO) rfl rfl rfl (hts _ g2) (hts _ g3) g1 hrm, hts _ g4⟩ ⟨mm_blind, hPc hsub⟩ rfl (by simp at p2; simp; omega) hL.2.1 (by show st.map (mm_v α) = _; rw [p1]; simp) hroom hd hfit
        · cases h
      · cases h
    · rename_i i hi
      rw [hi] at hdd
      obtain ⟨hd, hpc⟩ := hdd rfl
      split at h
      · rename_i i' np y' hml
        obtain ⟨hmm, hme⟩ := mm_mlk_mem hml
        have hme : i' = i := hme
        subst hme
        split at h
        · rename_i as' st'' hpop
          simp only [Option.some.injEq, Prod.mk.injEq] at h
          obtain ⟨h0, hy0, ha0, hs0, hp0⟩ := h
          subst h0 hy0 ha0 hs0 hp0
          obtain ⟨p1, p2⟩ := mm_pop_ok _ _ _ _ _ hpop
          obtain ⟨g1, g2, -, -, g3, -⟩ := hK.2.2 _ hmm
          obtain ⟨g3, g4, g5⟩ := g3 rfl
          obtain ⟨g, j, as'', rfl⟩ := mm_rcv2 (by decide) hrv
          have p1 : st = as''.reverse ++ .inr (some (g, j)) :: st'' := by simpa using p1
          have hsub : ∀ v ∈ Sum.inr (some (g, j)) :: as'', v ∈ st := fun v hv => by
            rw [p1]
            rcases List.mem_cons.mp hv with rfl | hv
            · simp
            · simp [hv]
          have hno := hret (by decide)
          refine mm_call_tail (a := ((Sum.inr (some (g, j)) :: as'').map (mm_v α)).toArray) hpc hn1 (fun v hv => by rw [p1]; simp [hv]) hQ hZ ?_
          exact va_runI (bytes := K'.1.2.1) (maxL := K'.1.2.2.1) (n := np) ⟨hC.1, hC.2.1, hC.2.2.1, hC.2.2.2.2.2.1, hts⟩ hM ⟨callB_of np hts (mm_good K' hMO) (by unfold mm_ws; rw [hno]) rfl rfl (hts _ g2) (hts _ g3) g1 hrm, g5, hts _ g4⟩ ⟨mm_blind, hPc hsub⟩ rfl (by simp at p2; simp; omega) hL.2.1 (by show st.map (mm_v α) = _; rw [p1]; simp; rfl) hroom hd hfit
        · cases h
      · rename_i i' np y' hml
        obtain ⟨hmm, hme⟩ := mm_mlk_mem hml
        have hme : i' = i := hme
        subst hme
        split at h
        · rename_i as' st'' hpop
          simp only [Option.some.injEq, Prod.mk.injEq] at h
          obtain ⟨h0, hy0, ha0, hs0, hp0⟩ := h
          subst h0 hy0 ha0 hs0 hp0
          obtain ⟨p1, p2⟩ := mm_pop_ok _ _ _ _ _ hpop
          obtain ⟨g1, g2, -, -, -, g3⟩ := hK.2.2 _ hmm
          obtain ⟨g3, g4, g5⟩ := g3 rfl
          obtain ⟨g, j, as'', rfl⟩ := mm_rcv2 (by decide) hrv
          have p1 : st = as''.reverse ++ .inr (some (g, j)) :: st'' := by simpa using p1
          have hsub : ∀ v ∈ Sum.inr (some (g, j)) :: as'', v ∈ st := fun v hv => by
            rw [p1]
            rcases List.mem_cons.mp hv with rfl | hv
            · simp
            · simp [hv]
          have hno := hret (by decide)
          refine mm_call_tail (a := ((Sum.inr (some (g, j)) :: as'').map (mm_v α)).toArray) hpc hn1 (fun v hv => by rw [p1]; simp [hv]) hQ hZ ?_
          exact va_runIN (bytes := K'.1.2.1) (maxL := K'.1.2.2.1) (n := np) ⟨hC.1, hC.2.1, hC.2.2.1, hC.2.2.2.2.2.1, hts⟩ hM ⟨va_cnB np hts (mm_good K' hMO) (by unfold mm_ws; rw [hno]) rfl rfl (hC.2.2.2.2.2.2.2.2.2.2.2.2.1 _ g3) (hts _ g2) g1 hrm, g5, hts _ g4⟩ ⟨mm_blind, hPc hsub⟩ rfl (by simp at p2; simp; omega) hL.2.1 (by show st.map (mm_v α) = _; rw [p1]; simp; rfl) hroom hd hfit
        · cases h
      · cases h
    · cases h
theorem k_call0 {kind pc' : Nat} {y : MethodName} {as st' : List mm_V} {Q1 : Option mm_V → mm_B → mm_M → Prop} (h : mm_clk K.2.2.1 K.2.2.2.2.2 pc st = some (kind, y, as, st', pc')) (hE : mm_Ev K' (0, 0) as b w Q1) (hy : y = K'.1.1) (hrk : mm_rok K K' st' = true) (hrv : mm_rcv kind as K'.2.1.2.2 = true) (hret : kind = 2 ∨ kind = 3 → K'.1.2.2.2.1 = none)
    (hQ : ∀ r b' w', Q1 r b' w' → mm_Wk K n pc' ls (mm_pu r st') b' w' Q) : mm_Wk K n pc ls st b w Q := k_call h hE hy hrk hrv hret ⟨rfl, rfl⟩ hQ
/-- the one answer, phase and memory -/
def mm_pe (r : Option mm_V) (b : mm_B) (w : mm_M) : Option mm_V → mm_B → mm_M → Prop := fun a b' w' => a = r ∧ b' = b ∧ w' = w
theorem k_callp {kind pc' : Nat} {y : MethodName} {as st' : List mm_V} {r : Option mm_V} {b1 : mm_B} {w1 : mm_M} (h : mm_clk K.2.2.1 K.2.2.2.2.2 pc st = some (kind, y, as, st', pc')) (hE : mm_Ev K' (0, 0) as b w (mm_pe r b1 w1)) (hy : y = K'.1.1) (hrk : mm_rok K K' st' = true) (hrv : mm_rcv kind as K'.2.1.2.2 = true) (hret : kind = 2 ∨ kind = 3 → K'.1.2.2.2.1 = none)
    (k : mm_Wk K n pc' ls (mm_pu r st') b1 w1 Q) : mm_Wk K n pc ls st b w Q := k_call0 h hE hy hrk hrv hret (fun _ _ _ q => by obtain ⟨rfl, rfl, rfl⟩ := q; exact k)
def mm_ent (as : List mm_V) (nL : Nat) : List (Option mm_V) := as.map some ++ List.replicate (nL - as.length) none
theorem mm_nth_get {α : Type} (l : List α) (i : Nat) : mm_nth l i = l[i]? := by
  induction l generalizing i with
  | nil => simp [mm_nth]
  | cons a r ih =>
    cases i with
    | zero => rfl
    | succ i => simpa [mm_nth] using ih i
theorem mm_lva (vs : List Value) (h : ∀ v ∈ vs, v.category = 1) : ∀ (k i : Nat) (v : Value), vs[i]? = some v → (k + i, v) ∈ lv_args k vs := by
  induction vs with
  | nil => intro k i v hv; simp at hv
  | cons a r ih =>
    intro k i v hv
    unfold lv_args
    cases i with
    | zero => simp at hv; subst hv; exact List.mem_cons_self
    | succ i =>
      have ha : ¬ a.category = 2 := by rw [h a List.mem_cons_self]; decide
      rw [if_neg ha]
      have := ih (fun v hv => h v (List.mem_cons_of_mem _ hv)) (k + 1) i v (by simpa using hv)
      rw [show k + 1 + i = k + (i + 1) by omega] at this
      exact List.mem_cons_of_mem _ this
theorem mm_lgl (vs : List Value) (h : ∀ v ∈ vs, v.category = 1) : (lg_sl vs).length = vs.length := by
  induction vs with
  | nil => rfl
  | cons a r ih =>
    have ha : ¬ a.category = 2 := by rw [h a List.mem_cons_self]; decide
    have := ih (fun v hv => h v (List.mem_cons_of_mem _ hv))
    simp only [lg_sl] at this
    simp [lg_sl, ha, this]
/-- a contract, out of the walk of the body -/
theorem ev_intro {as : List mm_V} (hKO : mm_KO K) (hMO : mm_MO K) (hlen : as.length ≤ K.1.2.2.1) (k : mm_rg w → (∀ v ∈ as, mm_ok b v) → mm_Wk K n 0 (mm_ent as K.1.2.2.1) [] b w Q) (hlit : mm_lit K = false := by rfl) : mm_Ev K n as b w Q := by
  refine ⟨hMO, fun l X α sz => ?_⟩
  refine Met.ofW (cc := K.1.2.1) (maxL := K.1.2.2.1) (ret := K.1.2.2.2.1) hMO.2.2.1 rfl ?_
  intro p e s m args below meth c s₁ B hml hv
  obtain ⟨rfl, hsz, hP, hKk, hD0, hrg, hph, has, hEE⟩ := hv
  have hts := atoms_spec (ws := mm_ws K) B.pre
  have hown : s.vm.findClass K.1.1.cls = some m.cls := findClass_of_methodNamed B.named
  rw [hMO.2.2.2] at hown
  subst hsz
  have hcat : ∀ v ∈ as.map (mm_v α), v.category = 1 := fun v hv => by
    obtain ⟨u, -, rfl⟩ := List.mem_map.mp hv
    exact mm_cat α u
  have hl := lv_entry (as.map (mm_v α)) (n := K.1.2.2.1) (by rw [mm_lgl _ hcat, List.length_map]; exact hlen)
  rw [lg_entry_eq]
  refine k hrg has p l e _ s m _ below meth c X α b (va_A (mm_wl X α b w) s.heap.size) s.heap [] 0 0 α _ ⟨⟨B.exec, B.bytes, hml, B.returns, B.notSynchronized, hown, fun w hw => hts w (List.mem_cons_of_mem _ hw), hKk, (name_of_methodNamed B.named B.method).1, rfl, rfl, hKO, hEE⟩, ⟨hP, hD0.self, hrg, hph⟩, ⟨fun q h => Or.inr h, fun z => absurd (hlit.symm.trans z) (by decide)⟩, va_S.rf, fun g hg => ⟨hg, fun j => rfl⟩, ⟨?_, hl.1, hl.2.1, ?_⟩, fun v hv => (by cases hv), Nat.le_of_eq (Nat.zero_add _), Nat.le_of_eq (Nat.zero_add _)⟩
  · unfold mm_ent
    simp
    omega
  · intro i v hv
    have hv2 : as[i]? = some v := by
      unfold mm_ent at hv
      rw [mm_nth_get] at hv
      by_cases hi : i < as.length
      · rw [List.getElem?_append_left (by simpa using hi), List.getElem?_map] at hv
        cases h9 : as[i]? with
        | none => rw [h9] at hv; cases hv
        | some u => rw [h9] at hv; cases hv; rfl
      · rw [List.getElem?_append_right (by simp; omega)] at hv
        have := List.mem_of_getElem? hv
        have := (List.mem_replicate.mp this).2
        cases this
    refine ⟨?_, has v (List.mem_of_getElem? hv2)⟩
    have := mm_lva (as.map (mm_v α)) hcat 0 i (mm_v α v) (by rw [List.getElem?_map, hv2]; rfl)
    rw [Nat.zero_add] at this
    exact hl.2.2 _ this
theorem ev_conseq {as : List mm_V} {Q' : Option mm_V → mm_B → mm_M → Prop} (h : mm_Ev K n as b w Q') (hq : ∀ r b' w', Q' r b' w' → Q r b' w') : mm_Ev K n as b w Q := by
  refine ⟨h.1, fun l X α sz => ?_⟩
  intro p e ha hc hk s m args below hf happ hP hT
  obtain ⟨t, o, a1, b1, b2, ⟨⟨⟨r, b', w', α', q1, q2, q3⟩, q4⟩, b4⟩⟩ := h.2 l X α sz p e ha hc hk s m args below hf happ hP hT
  exact ⟨t, o, a1, b1, b2, ⟨⟨⟨r, b', w', α', q1, hq _ _ _ q2, q3⟩, q4⟩, b4⟩⟩
end MMR6
