theorem ck_law_7 : mm_cok R_law 7 9 := ⟨RX9, TX9, 9, tyX9, rfl, tb_X9, tyX9_ok, tb_in 88 (by decide +kernel) (by decide +kernel), tb_in 89 (by decide +kernel) (by decide +kernel), tb_in 69 (by decide +kernel) (by decide +kernel), by decide +kernel⟩
theorem ck_law_10 : mm_cok R_law 10 10 := ⟨RX10, TX10, 34, tyX10, rfl, tb_X10, tyX10_ok, tb_in 964 (by decide +kernel) (by decide +kernel), tb_in 965 (by decide +kernel) (by decide +kernel), tb_in 80 (by decide +kernel) (by decide +kernel), by decide +kernel⟩
def lw_P (b : Addr) (xs : List Int32) (args : Array Value) (s : State) : Prop := args = #[.ref b] ∧ s.IntsAt b xs ∧ xs.length ≤ 2560 ∧ (Jvm.Cond.and given_1 narrow_1).before args s = true
/-- what holds at the law's entry: the machine, the code, the tables' words (any of lw_tbl by 'hts w (by decide +kernel)'), the script of L ints xs at the cell b, what the Statement gives of the start (any of its parts by flat_of_before) -/
def lw_At (p : Program) (s : State) (m : MethodId) (meth : Method) (c : Code) (b L : Nat) (xs : Nat → Int32) : Prop :=
  p.tables.exec = Jvm.exec ∧ c.code = code ∧ meth.sig.returnType = ret ∧ c.maxLocals = 4 ∧ s.vm.findClass R_law = some m.cls ∧ (∀ w ∈ lw_tbl, w.before #[Value.ref b] s = true) ∧ va_X b L xs s s.heap ∧ b < s.heap.size ∧ meth.locks = false ∧ (Jvm.Cond.and given_1 narrow_1).before #[Value.ref b] s = true
section WS1
variable {p : Program} {l : Launch} {e : Env} {s : State} {m : MethodId} {below : List Frame} {meth : Method} {c : Code} {ad L : Nat} {xs : Nat → Int32} {X : mm_X}
theorem hold_size {H : Heap} (hold : ∀ q : Nat, q < s.heap.size → H[q]? = s.heap[q]?) : s.heap.size ≤ H.size := by
  rcases Nat.lt_or_ge H.size s.heap.size with h | h
  · have := hold H.size h
    rw [Array.getElem?_eq_none (Nat.le_refl _), Array.getElem?_eq_getElem h] at this
    cases this
  · exact h
theorem whole_lw (hC : lwC p s m meth c ad L xs X) (hLZ : mm_LitZ s (lwA s)) : lwW p l e s m below meth c ad X (600000, 7302250) 0 [none, none, none, none] [] b00 (fun _ _ _ => 0) := by
  have hK := hC.1.2.2.2.2.2.2.2.1
  have hE0 := hC.1.2.2.2.2.2.2.2.2.2.2.2.2
  refine l_new (n1 := (599999, 7302241)) (g := 21) (c0 := 9) (N := 9) hC d_law_0 rfl ck_law_7 (by decide) ⟨by decide, by decide⟩ ?_
  refine l_dup hC d_law_3 ?_
  refine l_callI (K' := K_X9_init) (n' := (70, 1631)) (n1 := (599929, 7300610)) (g := 21) (j := 0) (Q1 := ciQ) hC d_law_4 mp_law_9 rfl ?_ rfl rfl ⟨by decide, by decide⟩ ?_
  · intro H α hR hold
    refine ⟨mo_X9_init, mm_PcL X α _ _ [.inr (some (21, 0))] H.size, mm_blindL, fun U hU hW => ⟨⟨rfl, by rw [hU], by rw [hU]; exact hR.1, va_K.moved hW.alike hK, hR.2.1.weaken (fun _ _ _ _ => trivial), hR.2.2.1, hR.2.2.2, fun v hv => ?_, mm_E.warm hW hE0⟩, lit_moved hU hW (fun q hq => ?_) (fun q hq _ => hold q hq) hLZ⟩, ev_introL ok_X9_init mo_X9_init (Nat.le_of_ble_eq_true rfl) wk_c_init l X α H.size⟩
    · rw [List.mem_singleton.mp hv]
      exact ⟨by decide, by decide, by decide⟩
    · rcases hq with ⟨k, e, hk⟩ | hq
      · exact hR.2.1.2 k _ hk
      · exact Nat.le_trans (hold_size hold) hq
  intro r b1 w1 hc
  have hc' := hc
  obtain ⟨rfl, rfl, -⟩ := hc'
  refine l_astore (i := 1) (x := (21, 0)) (st := []) hC d_law_7 (by decide) ?_
  refine l_new (n1 := (599928, 7300576)) (g := 1) (c0 := 10) (N := 34) hC d_law_8 rfl ck_law_10 (by decide) ⟨by decide, by decide⟩ ?_
  refine l_dup hC d_law_11 ?_
  have hE := ev_m_init (w := zr w1 1) zr_s
  refine l_callI (K' := K_X10_init) (n' := (19, 18530)) (n1 := pot false false) (g := 1) (j := 0) (Q1 := (fun a b' w' => a = none ∧ b' = PH (false, true) false ∧ higS (zr w1 1) w' ∧ LD w' (told tx 73).2 ∧ w' 1 0 0 = 0)) hC d_law_12 mp_law_12 rfl ?_ rfl rfl ⟨by decide, by decide⟩ ?_
  · intro H α hR hold
    refine ⟨hE.1, mm_Pc X α _ _ [.inr (some (1, 0))] H.size, mm_blind, fun U hU hW => ⟨rfl, by rw [hU], by rw [hU]; exact hR.1, va_K.moved hW.alike hK, hR.2.1.weaken (fun _ _ _ _ => trivial), hR.2.2.1, hR.2.2.2, fun v hv => ?_, mm_E.warm hW hE0⟩, hE.2 l X α H.size⟩
    rw [List.mem_singleton.mp hv]
    exact ⟨by decide, by decide, by decide⟩
  rintro r b2 w2 ⟨rfl, rfl, h2, hL, h0⟩
  refine l_astore (i := 2) (x := (1, 0)) (st := []) hC d_law_15 (by decide) ?_
  refine l_iconst (i := 0) hC d_law_16 ⟨by decide, by decide⟩ ?_
  refine l_istore (i := 3) hC d_law_17 (by decide) ?_
  have hLL := hC.2.2.2
  exact l_loop hC 513 0 w2 false false (by decide) (by decide) (by omega) (INV_start hc (fun g j k hg => zr_o (by omega)) h2 hL h0)
end WS1
theorem whole_start {p : Program} {e : Env} {s : State} {m : MethodId} {below : List Frame} {meth : Method} {c : Code} (l : Launch) (hflags : l.flags = flags0) {b L : Nat} {xs : Nat → Int32} (hL : L ≤ 2560) (C0 : lw_At p s m meth c b L xs) : W p l e room_1 s m #[Value.ref b] below meth c s.heap [] 0 0 (lw_Z below #[Value.ref b] s) (entryFrame m ([Value.ref b] : List Value).toArray 4) := by
  obtain ⟨h1, h2, h3, h4, h5, hts, hX, hb, hlk, hgv⟩ := C0
  obtain ⟨X, hK⟩ := know_start hts
  have hC : lwC p s m meth c b L xs X := ⟨⟨h1, h2, h4, h3, hlk, h5, fun w h => hts w (List.mem_filter.mp h).1, hK, trivial, rfl, rfl, ok_law, E_start hts⟩, hX, hb, hL⟩
  have hcat : ∀ v ∈ [Value.ref b], v.category = 1 := fun v hv => by rw [List.mem_singleton.mp hv]; rfl
  have hl := lv_entry [Value.ref b] (n := 4) (by rw [mm_lgl _ hcat]; show 1 ≤ 4; decide)
  rw [lg_entry_eq]
  refine whole_lw hC (lit_start hts hgv) s.heap [] 0 0 (fun _ _ => 0) _ ⟨⟨fun k q h => ?_, ⟨fun i j p q h => ?_, fun k q h => ?_⟩, fun g j k => (show mm_in 0 from ⟨by decide, by decide⟩), fun g h => (by cases h), fun g h => (by cases h)⟩, va_S.rf, ⟨⟨rfl, hl.1, hl.2.1, fun i v hv => ?_⟩, hl.2.2 _ (mm_lva [Value.ref b] hcat 0 0 _ rfl)⟩, fun v hv => (by cases hv), by decide, by decide⟩
  · cases h
  · cases h
  · cases h
  · match i, hv with
    | 0, hv => cases hv
    | 1, hv => cases hv
    | 2, hv => cases hv
    | 3, hv => cases hv
    | i + 4, hv => cases hv
set_option maxHeartbeats 4000000 in
theorem lw_walk (l : Launch) (hflags : l.flags = flags0) (b : Addr) (xs : List Int32) : MetFree l x (headSpec (Jvm.Cond.code x code maxLocals ret :: tables_1) room_1) (lw_P b xs) (fun _ _ _ _ _ => True) lw_Q := by
  refine MetFree.of_bodyS (code := code) (maxLocals := maxLocals) (ret := ret) (by decide) ?_ ?_
  · intro args s m h hn
    obtain ⟨meth, c, h1, h2, h3, h4, h5, h6, -, -⟩ := Cond.code_spec hn (atoms_spec (ws := Jvm.Cond.code x code maxLocals ret :: tables_1) h _ List.mem_cons_self)
    exact ⟨meth, c, h1, h2, h3, h4, h5, h6⟩
  · intro p e s m args below meth c s₁ B hml0 hP _
    obtain ⟨rfl, hx, hbd, hgv⟩ := hP
    obtain ⟨scr, harrAt, hlist, hof, hsmall⟩ := hx
    obtain ⟨hcb, hkn, -, -⟩ := State.arrayAt?_spec harrAt
    have hown : s.vm.findClass R_law = some m.cls := findClass_of_methodNamed B.named
    have hts0 : ∀ c ∈ (Jvm.Cond.code x code maxLocals ret :: tables_1), c.before #[Value.ref b] s = true := atoms_spec (ws := Jvm.Cond.code x code maxLocals ret :: tables_1) B.pre
    have hts : ∀ w ∈ lw_tbl, w.before #[Value.ref b] s = true := k2_hts_sels lw_privs (fun w hw => hts0 w (List.mem_cons_of_mem _ hw)) lw_privs_ok
    have hml : c.maxLocals = 4 := B.maxLocals_eq (hts0 _ List.mem_cons_self)
    have X₀ : Stand p l e room_1 s m #[Value.ref b] below meth c s₁ [] 0 0 := Stand.of_body B
    have hh0 : s₁.heap = s.heap := by rw [B.state]; rfl
    have hsz : scr.slots.size = xs.length := by rw [← Array.length_toList, hlist, List.length_map]
    have hval : ∀ j : Nat, j < xs.length → scr.slots[j]? = some (.int (xs.getD j 0)) := fun j hj => by
      rw [← Array.getElem?_toList, hlist]
      simp [hj]
    have hbl : b < s.heap.size := (Array.getElem?_eq_some_iff.mp hcb).1
    have hX : va_X b xs.length (fun j => xs.getD j 0) s s.heap := ⟨scr, hcb, hof, hkn, hsz, hval⟩
    have K : W p l e room_1 s m #[Value.ref b] below meth c s₁.heap [] 0 0 (lw_Z below #[Value.ref b] s) (entryFrame m ([Value.ref b] : List Value).toArray 4) := by
      rw [hh0]
      exact whole_start l hflags hbd ⟨B.exec, B.bytes, B.returns, hml, hown, hts, hX, hbl, B.notSynchronized, hgv⟩
    obtain ⟨t, a1, o, b1, b2, b3⟩ := K s₁ rfl X₀
    exact ⟨t, o, a1, b1, b2, b3⟩
theorem lw_pre_spec {args : Array Value} {s : State} (h : (Jvm.Cond.and given_1 narrow_1).before args s = true) (hr : rest_1_c.before args s = true) : ∃ (b : Addr) (xs : List Int32), lw_P b xs args s := by
  have hs := flat_of_before _ h
  have hq := flat_of_before _ hr
  have hc : (Cond.count 1).before args s = true := hs _ (by decide +kernel)
  have harr : (Cond.arrayOf (.arg 0) .int).before args s = true := hs _ (by decide +kernel)
  have hle : (Cond.le (.length (.arg 0)) (.int 2560)).before args s = true := hs _ (by decide +kernel)
  have hlen : (Cond.isInt (.length (.arg 0))).before args s = true := hq _ (by decide +kernel)
  have hall : (Cond.all (.arg 0) (.isInt (.elem (.arg 0) (.index 0)))).before args s = true := hq _ (by decide +kernel)
  obtain ⟨b, xs, hb, hx⟩ := State.ints_of_pre rfl harr hlen hall
  have hsm : xs.length < 2 ^ 31 := hx.choose_spec.2.2.2
  have hev : (Term.length (.arg 0)).eval args s none [] s = some (.int xs.length.toInt32) := hx.length_eval hb
  have hv := Cond.le_ints hev (show (Term.int 2560).eval args s none [] s = some (.int 2560) from rfl)
  have hd : xs.length.toInt32 ≤ 2560 := by
    simpa [Cond.before, Cond.holds, hv] using hle
  have hN : xs.length ≤ 2560 := (Int32.ofNat_le_ofNat hsm (by decide)).mp (show Int32.ofNat xs.length ≤ Int32.ofNat 2560 from hd)
  exact ⟨b, xs, Cond.one_arg hc (show args[0]? = some (.ref b) from hb), hx, hN, h⟩
theorem lw_comes (l : Launch) (hflags : l.flags = flags0) : Comes l x (Jvm.Cond.code x code maxLocals ret :: tables_1) room_1 (fun tb e args s => Calls_1 tb e args s ∧ rest_1 tb e args s ∧ Pre_1 tb e args s)
    (fun _ _ args s o t => lw_Q args s o t) := by
  intro p e ha hc hk s m args below hf hfit hheap happ hpre
  obtain ⟨b, xs, hP⟩ := lw_pre_spec hpre.2.2 hpre.2.1
  obtain ⟨k, o, h1, h2, h3, hQ⟩ := lw_walk l hflags b xs p e ha hc hk s m args below hf ((Spec.applies_iff_loose hf).mp happ).1 hP trivial
  exact ⟨k, o, h1, h2, h3, hQ⟩
theorem lw_frame {s t : State} {o : Outcome} {args : Array Value} (h : Framed s o t [] 600000 7302250) :
    Framed s o t (fieldLocs frame_1_writes args s ++ arrayLocs frame_1_arrays args s ++ staticLocs frame_1_statics s) 600000 7302250 := h
theorem lw_limb (L : Cond) (hL : ∀ (args : Array Value) (s t : State), L.after args s (.returned (some (.int 1))) t = true) :
    ArmFor flags0 classFile x code maxLocals ret World_1 tables_1 room_1 Calls_1 rest_1 Pre_1
      (fun tb e a s o t => postC L tb e a s o t ∧ Framed s o t (fieldLocs frame_1_writes a s ++ arrayLocs frame_1_arrays a s ++ staticLocs frame_1_statics s) 600000 7302250) := by
  intro l hflags _ _ p e ha hc hk s m args below hf hfit hheap happ hpre
  obtain ⟨k, o, h1, h2, h3, rfl, hF⟩ := lw_comes l hflags p e ha hc hk s m args below hf hfit hheap happ hpre
  exact ⟨k, _, h1, h2, h3, hL args s _, lw_frame hF⟩
theorem i_vc : Claimed_1_1 ∧ Claimed_1_2 := ⟨lw_limb limb_1_1 (fun args s t => by simp [limb_1_1, Cond.after, Cond.holds, Cond.value]), lw_limb limb_1_2 (fun args s t => Cond.after_iff.mpr (by
  first | (rw [show limb_1_2 = Cond.eq .result (.int 1) from rfl, Cond.eq_ints (x := 1) (y := 1) rfl rfl]; simp; done) | (simp [limb_1_2, Cond.value, Term.eval]; done)))⟩
