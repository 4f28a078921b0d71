/-! ===== the class: what makes an end of the way (written by gen64.py) ===== -/
theorem CHn_on {e : Int → Int → Int} : ∀ {ρ : List Int} {p q : Int}, CHn e ρ p q → ∀ x ∈ ρ, e x 0 = p ∨ ∃ z ∈ ρ, e z 1 = e x 0
  | [], _, _, _, x, hx => by cases hx
  | a :: ρ, p, q, h, x, hx => by
    rcases List.mem_cons.mp hx with rfl | hx
    · exact Or.inl h.1
    · rcases CHn_on h.2 x hx with z | ⟨z, z1, z2⟩
      · exact Or.inr ⟨a, List.mem_cons_self, z.symm⟩
      · exact Or.inr ⟨z, List.mem_cons_of_mem _ z1, z2⟩
theorem Cs_c {c e : Int → Int → Int} {f lk lk' : Int → Int} {nv nc : Int} {ρ : List Int} (h0 : lk 0 = lk' 0) (h : ∀ x ∈ ρ, lk (e x 0) = lk' (e x 0) ∧ lk (e x 1) = lk' (e x 1)) : ∀ (k : Nat) (u : Int), k ≤ ρ.length → (Cs c e f lk nv nc ρ k u ↔ Cs c e f lk' nv nc ρ k u)
  | 0, u, _ => by
    show (∃ v, (0 ≤ v ∧ v < 512) ∧ fsB f nv v = true ∧ cub c nc (lk 0) v = u) ↔ _
    rw [h0]
    exact Iff.rfl
  | k + 1, u, hk => by
    have hm : ρ.getD k 0 ∈ ρ := by
      rw [List.getD_eq_getElem?_getD, List.getElem?_eq_getElem (by omega)]
      exact List.getElem_mem _
    obtain ⟨a, b⟩ := h _ hm
    have ih := fun v => Cs_c (c := c) (f := f) (nv := nv) (nc := nc) h0 h k v (by omega)
    show (∃ v, (0 ≤ v ∧ v < 512) ∧ (thB nv v = true ∧ Cs c e f lk nv nc ρ k (cub c nc (lk (e (ρ.getD k 0) 0)) v)) ∧ 0 ≤ go_ c e (ρ.getD k 0) v ∧ cub c nc (lk (e (ρ.getD k 0) 1)) (go_ c e (ρ.getD k 0) v) = u) ↔ (∃ v, (0 ≤ v ∧ v < 512) ∧ (thB nv v = true ∧ Cs c e f lk' nv nc ρ k (cub c nc (lk' (e (ρ.getD k 0) 0)) v)) ∧ 0 ≤ go_ c e (ρ.getD k 0) v ∧ cub c nc (lk' (e (ρ.getD k 0) 1)) (go_ c e (ρ.getD k 0) v) = u)
    simp only [ih, a, b]
theorem EN_lkU {c e : Int → Int → Int} {f lk : Int → Int} {nv nc set t : Int} {ρ : List Int} (hC : CHn e ρ 0 t) : EN c e f (lkU e lk ρ set) nv nc ρ ↔ EN c e f (fun p => mm_or (lk p) set) nv nc ρ := by
  have on : ∀ p, (p = 0 ∨ ∃ z ∈ ρ, e z 1 = p) → lkU e lk ρ set p = mm_or (lk p) set := fun p hp => by
    refine if_pos ?_
    unfold onP
    rw [Bool.or_eq_true, decide_eq_true_eq, List.any_eq_true]
    exact hp.imp_right (fun ⟨z, a, b⟩ => ⟨z, a, decide_eq_true b⟩)
  have key := Cs_c (c := c) (e := e) (f := f) (lk := lkU e lk ρ set) (lk' := fun p => mm_or (lk p) set) (nv := nv) (nc := nc) (ρ := ρ) (on 0 (Or.inl rfl)) (fun x hx => ⟨on _ (CHn_on hC x hx), on _ (Or.inr ⟨x, hx, rfl⟩)⟩)
  constructor
  · rintro ⟨k, a, b⟩
    exact ⟨k, a, fun u z => b u ((key (k + 1) u (by omega)).mpr z)⟩
  · rintro ⟨k, a, b⟩
    exact ⟨k, a, fun u z => b u ((key (k + 1) u (by omega)).mp z)⟩
abbrev ieL : List (Nat × Option Int) := [(68, none), (70, none), (72, none)]
abbrev iA (b : Bool) : Nat := match b with
  | true => 71
  | false => 69
abbrev iB (b : Bool) : Nat := match b with
  | true => 69
  | false => 71
abbrev iS (b : Bool) : Nat := match b with
  | true => 72
  | false => 70
section MC
variable {r : Bool × Bool} {y : Bool} {w : mm_M} {np trap nv nc ne : Int} {c e : Int → Int → Int} {f lk : Int → Int}
set_option maxRecDepth 100000 in
theorem ev_c_isEndedBy {ρ : List Int} {set pl : Int} (hO : PO np trap nv nc ne c e) (hP : PC w np trap nv nc ne c e f) (hS : FS w c f nv nc) (hE : ∀ x, 0 ≤ x → x < ne → LE w c e nv nc x) (hH : HL w lk) (hR : RW w ρ) (hρ : ∀ x ∈ ρ, 0 ≤ x ∧ x < ne) (hset : 0 ≤ set ∧ set < 256) (hpl : 0 ≤ pl ∧ pl < 256) (hpb : ∀ p, 0 ≤ p → p < 8 → (hb pl p ↔ onP e ρ p = true)) : mm_Ev K_X8_isEndedBy (0, 0) [.inr (some (66, 0)), .inl set, .inl pl] (PH r y) w (fun a b' w' => b' = PH r y ∧ sm ieL w w' ∧ ∃ z : Bool, a = some (.inl (ib (z = true))) ∧ (z = true ↔ EN c e f (lkU e lk ρ set) nv nc ρ)) := by
  refine ev_intro ok_X8_isEndedBy mo_X8_isEndedBy (Nat.le_of_ble_eq_true rfl) (fun hrg has => ?_)
  have hnv := hO.2.2.1
  have hnc := hO.2.2.2.1
  have hne := hO.2.2.2.2.1
  have hnp := hO.1
  have h5 := hR.1
  have hlen := hR.2.1
  have lin : ∀ p, 0 ≤ p → p < 8 → 0 ≤ lkU e lk ρ set p ∧ lkU e lk ρ set p < 256 := fun p a b => by
    unfold lkU
    split
    · exact or_in (hH p a b).2 hset
    · exact (hH p a b).2
  have fin : ∀ w1 l3 l4 l5 l6, sm [(68, none)] w w1 → (∀ q, 0 ≤ q → q < np → w1 68 0 q = lkU e lk ρ set q) → mm_Wk K_X8_isEndedBy (0, 0) 46 [some (.inr (some (66, 0))), some (.inl set), some (.inl pl), l3, l4, l5, l6] [] (PH r y) w1 (fun a b' w' => b' = PH r y ∧ sm ieL w w' ∧ ∃ z : Bool, a = some (.inl (ib (z = true))) ∧ (z = true ↔ EN c e f (lkU e lk ρ set) nv nc ρ)) := fun w1 l3 l4 l5 l6 s1 h1 => by
    have lk0 := h1 0 (by omega) (by omega)
    have hl0 := lin 0 (by omega) (by omega)
    have hS1 : FS w1 c f nv nc := fun u a b => by rw [nsB_sm s1 (fun _ => rfl)]; exact hS u a b
    refine k_gp rfl rfl (by simp only [true_and, mm_fits]; omega) ?_
    rw [lk0]
    refine k_call0 rfl (ev_c_putFirst_69 hl0) rfl rfl rfl (by decide) ?_
    rintro a b' w2 ⟨rfl, rfl, s2, hf⟩
    have s3 : sm ieL w w2 := sm_tr (sm_w s1 (by decide)) (sm_w s2 (by decide))
    have e68 : ∀ k, w2 68 0 k = w1 68 0 k := fun k => s2 68 0 k rfl
    refine k_gp rfl rfl trivial ?_
    refine mm_loop (σ := mm_M × Bool) ρ.length (fun i s => (0 ≤ i ∧ i ≤ ρ.length) ∧ sm ieL w s.1 ∧ (∀ q, 0 ≤ q → q < np → s.1 68 0 q = lkU e lk ρ set q) ∧ (∀ u, 0 ≤ u → u < 256 → (nsB s.1 (iS s.2) u = true ↔ Cs c e f (lkU e lk ρ set) nv nc ρ i.toNat u)) ∧ ∀ j : Nat, (j : Int) < i → ∃ u, Cs c e f (lkU e lk ρ set) nv nc ρ (j + 1) u) (fun i s => ∀ l6, mm_Wk K_X8_isEndedBy (0, 0) 74 [some (.inr (some (66, 0))), some (.inl set), some (.inl pl), some (.inr (some (iA s.2, 0))), some (.inr (some (iB s.2, 0))), some (.inl i), l6] [] (PH r y) s.1 (fun a b' w' => b' = PH r y ∧ sm ieL w w' ∧ ∃ z : Bool, a = some (.inl (ib (z = true))) ∧ (z = true ↔ EN c e f (lkU e lk ρ set) nv nc ρ))) ?_ ?_ 0 (w2, false) ⟨by omega, s3, (fun q a b => (e68 q).trans (h1 q a b)), (fun u a b => ?_), (fun j hj => by omega)⟩ _
    · rintro i ⟨w3, b⟩ q1 ⟨q2, t1, t2, t3, t4⟩ ih l6
      have hx : ρ.getD i.toNat 0 ∈ ρ := by
        rw [List.getD_eq_getElem?_getD, List.getElem?_eq_getElem (by omega)]
        exact List.getElem_mem _
      have hxr := hρ _ hx
      cases b
      · dsimp only at t1 t2 t3 t4 ⊢
        have hP3 : PC w3 np trap nv nc ne c e f := PC_sm t1 rfl (fun _ => rfl) hP
        have e5 : w3 66 0 5 = ρ.length := (t1 66 0 5 rfl).trans h5
        have hxe : w3 67 0 (w3 66 0 5 - 1 - i) = ρ.getD i.toNat 0 := by
          rw [e5, show w3 67 0 (ρ.length - 1 - i) = w 67 0 (ρ.length - 1 - i) from t1 67 0 _ rfl]
          exact hR.2.2 i q2.1 q1
        have hX : ρ.getD i.toNat 0 = ρ.getD i.toNat 0 := rfl
        generalize hxx : ρ.getD i.toNat 0 = x at *
        have hEx := hO.2.2.2.2.2.2 x hxr.1 hxr.2
        have m0 := hP3.2.2.2 x 0 hxr.1 hxr.2 (by decide) (by decide)
        have m1 := hP3.2.2.2 x 1 hxr.1 hxr.2 (by decide) (by decide)
        have r0 := hEx.1
        have r1 := hEx.2.1
        have l0 := lin (e x 0) (by omega) (by omega)
        have l1 := lin (e x 1) (by omega) (by omega)
        have hE3 : LE w3 c e nv nc x := LE_sm t1 (fun _ => rfl) (hE x hxr.1 hxr.2)
        have hsub : ∀ all, nsB w3 70 (cub c nc (lkU e lk ρ set (e x 0)) all) = true ↔ Cs c e f (lkU e lk ρ set) nv nc ρ i.toNat (cub c nc (lkU e lk ρ set (e x 0)) all) := fun all => by
          have h := cub_in c nc (lkU e lk ρ set (e x 0)) all hnc.2
          exact t3 _ h.1 h.2
        refine k_gp rfl rfl trivial ?_
        rw [e5]
        refine k_brf rfl (by omega) ?_
        refine k_gp rfl rfl trivial ?_
        refine k_callp rfl (ev_c_edgeAt (by rw [e5]; omega)) rfl rfl rfl (by decide) ?_
        rw [hxe]
        refine k_gp rfl rfl trivial ?_
        refine k_call0 rfl (ev_c_putNext_68_69 (La := lkU e lk ρ set (e x 0)) (Lb := lkU e lk ρ set (e x 1)) ⟨hxr.1, by omega⟩ (by rw [m0, m1]; omega) (by rw [m0]; exact t2 _ (by omega) (by omega)) (by rw [m1]; exact t2 _ (by omega) (by omega)) l0 l1 hE3.1 (LE_in hE3 hnc.2)) rfl rfl rfl (by decide) ?_
        rintro a b' w4 ⟨rfl, s4, v1, z, rfl, v2⟩
        have s5 : sm ieL w w4 := sm_tr t1 (sm_w s4 (by decide))
        have hstep : ∀ u, 0 ≤ u → u < 256 → (nsB w4 72 u = true ↔ Cs c e f (lkU e lk ρ set) nv nc ρ (i.toNat + 1) u) := fun u a b => by
          rw [v1 u a b, lp_iff (R := fun t => mm_and t (lkU e lk ρ set (e x 1)) = u) hE3 hnc l0]
          show _ ↔ (∃ v, (0 ≤ v ∧ v < 512) ∧ (thB nv v = true ∧ Cs c e f (lkU e lk ρ set) nv nc ρ i.toNat (cub c nc (lkU e lk ρ set (e (ρ.getD i.toNat 0) 0)) v)) ∧ 0 ≤ go_ c e (ρ.getD i.toNat 0) v ∧ cub c nc (lkU e lk ρ set (e (ρ.getD i.toNat 0) 1)) (go_ c e (ρ.getD i.toNat 0) v) = u)
          rw [hxx]
          constructor
          · rintro ⟨all, p1, p2, p3, p4, p5⟩
            exact ⟨all, p1, ⟨p2, (hsub all).mp p4⟩, p3, by rw [← cub_and hnc l1]; exact p5⟩
          · rintro ⟨all, p1, ⟨p2, p4⟩, p3, p5⟩
            exact ⟨all, p1, p2, p3, (hsub all).mpr p4, by rw [cub_and hnc l1]; exact p5⟩
        have hz : z = true ↔ ∃ u, Cs c e f (lkU e lk ρ set) nv nc ρ (i.toNat + 1) u := by
          rw [v2, lp0_iff hE3 hnc l0]
          constructor
          · rintro ⟨all, p1, p2, p3, p4⟩
            refine ⟨cub c nc (lkU e lk ρ set (e x 1)) (go_ c e x all), all, p1, ?_, ?_, ?_⟩
            · rw [hxx]; exact ⟨p2, (hsub all).mp p4⟩
            · rw [hxx]; exact p3
            · rw [hxx]
          · rintro ⟨u, all, p1, p2, p3, p4⟩
            rw [hxx] at p2 p3
            exact ⟨all, p1, p2.1, p3, (hsub all).mpr p2.2⟩
        refine k_brn rfl (fun g => ?_) (fun g => ?_)
        · refine k_gp rfl rfl (by simp only [true_and, mm_fits]; omega) ?_
          refine ih (w4, true) ⟨by omega, s5, (fun q a b => (s4 68 0 q rfl).trans (t2 q a b)), (fun u a b => ?_), (fun j hj => ?_)⟩ _
          · rw [show (i + 1).toNat = i.toNat + 1 by omega]
            exact hstep u a b
          · by_cases hji : (j : Int) < i
            · exact t4 j hji
            · rw [show j = i.toNat by omega]
              exact hz.mp g
        · refine k_gp rfl rfl trivial ?_
          refine k_ret rfl (by decide) ⟨rfl, s5, true, rfl, fun _ => ⟨i.toNat, by omega, fun u hu => g (hz.mpr ⟨u, hu⟩)⟩, fun _ => rfl⟩
      · dsimp only at t1 t2 t3 t4 ⊢
        have hP3 : PC w3 np trap nv nc ne c e f := PC_sm t1 rfl (fun _ => rfl) hP
        have e5 : w3 66 0 5 = ρ.length := (t1 66 0 5 rfl).trans h5
        have hxe : w3 67 0 (w3 66 0 5 - 1 - i) = ρ.getD i.toNat 0 := by
          rw [e5, show w3 67 0 (ρ.length - 1 - i) = w 67 0 (ρ.length - 1 - i) from t1 67 0 _ rfl]
          exact hR.2.2 i q2.1 q1
        have hX : ρ.getD i.toNat 0 = ρ.getD i.toNat 0 := rfl
        generalize hxx : ρ.getD i.toNat 0 = x at *
        have hEx := hO.2.2.2.2.2.2 x hxr.1 hxr.2
        have m0 := hP3.2.2.2 x 0 hxr.1 hxr.2 (by decide) (by decide)
        have m1 := hP3.2.2.2 x 1 hxr.1 hxr.2 (by decide) (by decide)
        have r0 := hEx.1
        have r1 := hEx.2.1
        have l0 := lin (e x 0) (by omega) (by omega)
        have l1 := lin (e x 1) (by omega) (by omega)
        have hE3 : LE w3 c e nv nc x := LE_sm t1 (fun _ => rfl) (hE x hxr.1 hxr.2)
        have hsub : ∀ all, nsB w3 72 (cub c nc (lkU e lk ρ set (e x 0)) all) = true ↔ Cs c e f (lkU e lk ρ set) nv nc ρ i.toNat (cub c nc (lkU e lk ρ set (e x 0)) all) := fun all => by
          have h := cub_in c nc (lkU e lk ρ set (e x 0)) all hnc.2
          exact t3 _ h.1 h.2
        refine k_gp rfl rfl trivial ?_
        rw [e5]
        refine k_brf rfl (by omega) ?_
        refine k_gp rfl rfl trivial ?_
        refine k_callp rfl (ev_c_edgeAt (by rw [e5]; omega)) rfl rfl rfl (by decide) ?_
        rw [hxe]
        refine k_gp rfl rfl trivial ?_
        refine k_call0 rfl (ev_c_putNext_68_71 (La := lkU e lk ρ set (e x 0)) (Lb := lkU e lk ρ set (e x 1)) ⟨hxr.1, by omega⟩ (by rw [m0, m1]; omega) (by rw [m0]; exact t2 _ (by omega) (by omega)) (by rw [m1]; exact t2 _ (by omega) (by omega)) l0 l1 hE3.1 (LE_in hE3 hnc.2)) rfl rfl rfl (by decide) ?_
        rintro a b' w4 ⟨rfl, s4, v1, z, rfl, v2⟩
        have s5 : sm ieL w w4 := sm_tr t1 (sm_w s4 (by decide))
        have hstep : ∀ u, 0 ≤ u → u < 256 → (nsB w4 70 u = true ↔ Cs c e f (lkU e lk ρ set) nv nc ρ (i.toNat + 1) u) := fun u a b => by
          rw [v1 u a b, lp_iff (R := fun t => mm_and t (lkU e lk ρ set (e x 1)) = u) hE3 hnc l0]
          show _ ↔ (∃ v, (0 ≤ v ∧ v < 512) ∧ (thB nv v = true ∧ Cs c e f (lkU e lk ρ set) nv nc ρ i.toNat (cub c nc (lkU e lk ρ set (e (ρ.getD i.toNat 0) 0)) v)) ∧ 0 ≤ go_ c e (ρ.getD i.toNat 0) v ∧ cub c nc (lkU e lk ρ set (e (ρ.getD i.toNat 0) 1)) (go_ c e (ρ.getD i.toNat 0) v) = u)
          rw [hxx]
          constructor
          · rintro ⟨all, p1, p2, p3, p4, p5⟩
            exact ⟨all, p1, ⟨p2, (hsub all).mp p4⟩, p3, by rw [← cub_and hnc l1]; exact p5⟩
          · rintro ⟨all, p1, ⟨p2, p4⟩, p3, p5⟩
            exact ⟨all, p1, p2, p3, (hsub all).mpr p4, by rw [cub_and hnc l1]; exact p5⟩
        have hz : z = true ↔ ∃ u, Cs c e f (lkU e lk ρ set) nv nc ρ (i.toNat + 1) u := by
          rw [v2, lp0_iff hE3 hnc l0]
          constructor
          · rintro ⟨all, p1, p2, p3, p4⟩
            refine ⟨cub c nc (lkU e lk ρ set (e x 1)) (go_ c e x all), all, p1, ?_, ?_, ?_⟩
            · rw [hxx]; exact ⟨p2, (hsub all).mp p4⟩
            · rw [hxx]; exact p3
            · rw [hxx]
          · rintro ⟨u, all, p1, p2, p3, p4⟩
            rw [hxx] at p2 p3
            exact ⟨all, p1, p2.1, p3, (hsub all).mpr p2.2⟩
        refine k_brn rfl (fun g => ?_) (fun g => ?_)
        · refine k_gp rfl rfl (by simp only [true_and, mm_fits]; omega) ?_
          refine ih (w4, false) ⟨by omega, s5, (fun q a b => (s4 68 0 q rfl).trans (t2 q a b)), (fun u a b => ?_), (fun j hj => ?_)⟩ _
          · rw [show (i + 1).toNat = i.toNat + 1 by omega]
            exact hstep u a b
          · by_cases hji : (j : Int) < i
            · exact t4 j hji
            · rw [show j = i.toNat by omega]
              exact hz.mp g
        · refine k_gp rfl rfl trivial ?_
          refine k_ret rfl (by decide) ⟨rfl, s5, true, rfl, fun _ => ⟨i.toNat, by omega, fun u hu => g (hz.mpr ⟨u, hu⟩)⟩, fun _ => rfl⟩
    · rintro i ⟨w3, b⟩ q1 ⟨q2, t1, t2, t3, t4⟩ l6
      dsimp only at t1 t4 ⊢
      have hi : i = ρ.length := by omega
      have e5 : w3 66 0 5 = ρ.length := (t1 66 0 5 rfl).trans h5
      have hno : ¬ EN c e f (lkU e lk ρ set) nv nc ρ := fun ⟨k, a, b⟩ => by
        obtain ⟨u, hu⟩ := t4 k (by omega)
        exact b u hu
      cases b
      · refine k_gp rfl rfl trivial ?_
        rw [e5]
        refine k_brt rfl (by omega) ?_
        refine k_gp rfl rfl trivial ?_
        exact k_ret rfl (by decide) ⟨rfl, t1, false, rfl, fun z => by (cases z), fun z => absurd z hno⟩
      · refine k_gp rfl rfl trivial ?_
        rw [e5]
        refine k_brt rfl (by omega) ?_
        refine k_gp rfl rfl trivial ?_
        exact k_ret rfl (by decide) ⟨rfl, t1, false, rfl, fun z => by (cases z), fun z => absurd z hno⟩
    · show nsB w2 70 u = true ↔ ∃ v, (0 ≤ v ∧ v < 512) ∧ fsB f nv v = true ∧ cub c nc (lkU e lk ρ set 0) v = u
      rw [hf u a b, fc_iff (lk := lkU e lk ρ set) hS1 hnc hl0, fcB_iff]
  refine k_gp rfl rfl trivial ?_
  refine mm_loop (σ := mm_M) np (fun i w1 => (0 ≤ i ∧ i ≤ np) ∧ sm [(68, none)] w w1 ∧ ∀ q, 0 ≤ q → q < i → w1 68 0 q = lkU e lk ρ set q) (fun i w1 => ∀ l4 l5 l6, mm_Wk K_X8_isEndedBy (0, 0) 2 [some (.inr (some (66, 0))), some (.inl set), some (.inl pl), some (.inl i), l4, l5, l6] [] (PH r y) w1 (fun a b' w' => b' = PH r y ∧ sm ieL w w' ∧ ∃ z : Bool, a = some (.inl (ib (z = true))) ∧ (z = true ↔ EN c e f (lkU e lk ρ set) nv nc ρ))) ?_ ?_ 0 w ⟨by omega, sm_rf, fun q a b => by omega⟩ _ _ _
  · rintro i w1 q1 ⟨q2, s1, h1⟩ ih l4 l5 l6
    have n0 : w1 32 0 0 = np := (s1 32 0 0 rfl).trans hP.1.1
    have l42 : w1 42 0 i = lk i := (s1 42 0 i rfl).trans (hH i (by omega) (by omega)).1
    have hl := (hH i (by omega) (by omega)).2
    have hb1 := hb_eq (L := pl) (g := i) (by omega) (by omega)
    have hb2 : hb pl i ↔ pl / ((2 ^ i.toNat : Nat) : Int) % 2 = 1 := Iff.rfl
    have J38 : ∀ X, mm_or (lk i) X = lkU e lk ρ set i → mm_Wk K_X8_isEndedBy (0, 0) 38 [some (.inr (some (66, 0))), some (.inl set), some (.inl pl), some (.inl i), l4, l5, l6] [.inl X, .inl (lk i), .inl i, .inr (some (68, 0))] (PH r y) w1 (fun a b' w' => b' = PH r y ∧ sm ieL w w' ∧ ∃ z : Bool, a = some (.inl (ib (z = true))) ∧ (z = true ↔ EN c e f (lkU e lk ρ set) nv nc ρ)) := fun X hX => by
      refine k_gp rfl rfl (by simp only [true_and, mm_fits]; omega) ?_
      rw [hX]
      refine ih _ ⟨by omega, sm_up s1 (Or.inl List.mem_cons_self), fun q a b => ?_⟩ _ _ _
      rw [up_at]
      by_cases hq : q = i
      · rw [if_pos hq, hq]
      · rw [if_neg hq]; exact h1 q a (by omega)
    refine k_gp rfl rfl trivial ?_
    rw [n0]
    refine k_brf rfl (by omega) ?_
    refine k_gp rfl rfl (by simp only [true_and, mm_fits]; omega) ?_
    rw [l42, hb1]
    refine k_br rfl (fun g => ?_) (fun g => ?_)
    · rw [← hb2, hpb i (by omega) (by omega)] at g
      refine k_gp rfl rfl trivial ?_
      refine J38 0 ?_
      rw [or0 hl]
      exact (if_neg g).symm
    · have g := Classical.byContradiction g
      rw [← hb2, hpb i (by omega) (by omega)] at g
      refine k_gp rfl rfl trivial ?_
      exact J38 set (if_pos g).symm
  · rintro i w1 q1 ⟨q2, s1, h1⟩ l4 l5 l6
    have n0 : w1 32 0 0 = np := (s1 32 0 0 rfl).trans hP.1.1
    have hi : i = np := by omega
    subst hi
    refine k_gp rfl rfl trivial ?_
    rw [n0]
    refine k_brt rfl (by omega) ?_
    exact fin w1 _ _ _ _ s1 h1
theorem p2_1 : ∀ s : Fin 256, pop8 s.val 8 = 1 → ∃ g : Fin 8, s.val = 2 ^ g.val := by decide +kernel
theorem p2_2 : ∀ s : Fin 256, pop8 s.val 8 = 2 → ∃ h l : Fin 8, l.val < h.val ∧ s.val = 2 ^ h.val + 2 ^ l.val := by decide +kernel
theorem p2_o : ∀ h l : Fin 8, l.val < h.val → (pop8 (((2 ^ h.val + 2 ^ l.val : Nat)) : Int) 8 = 2 ∧ mm_or (((2 ^ h.val : Nat)) : Int) (((2 ^ l.val : Nat)) : Int) = ((2 ^ h.val + 2 ^ l.val : Nat) : Int)) ∧ 2 ^ h.val + 2 ^ l.val < 2 ^ (h.val + 1) := by decide +kernel
theorem p2_s : ∀ g : Fin 8, pop8 (((2 ^ g.val : Nat)) : Int) 8 = 1 := by decide +kernel
theorem p2_m : ∀ h l h' l' : Fin 8, l.val < h.val → l'.val < h'.val → (h'.val < h.val ∨ (h' = h ∧ l'.val < l.val)) ∨ 2 ^ h.val + 2 ^ l.val ≤ 2 ^ h'.val + 2 ^ l'.val := by decide +kernel
/-- the class's order of search finds it -/
theorem SF_1 {nc g : Int} {E : Int → Prop} (hnc : 0 ≤ nc ∧ nc ≤ 8) (hg : 0 ≤ g ∧ g < nc) (h : ∀ j, 0 ≤ j → j < g → ¬ E ((2 ^ j.toNat : Nat) : Int)) (hE : E ((2 ^ g.toNat : Nat) : Int)) : SF nc E ((2 ^ g.toNat : Nat) : Int) := by
  have hp := p2_s ⟨g.toNat, by omega⟩
  dsimp only at hp
  have h1 : 2 ^ g.toNat < 2 ^ nc.toNat := Nat.pow_lt_pow_right (by decide) (by omega)
  have h2 : 1 ≤ 2 ^ g.toNat := Nat.one_le_two_pow
  refine Or.inr ⟨⟨Int.ofNat_le.mpr h2, Int.ofNat_lt.mpr h1⟩, Or.inl hp, hE, fun s a b z hs => ?_⟩
  rw [hp]
  refine ⟨by omega, fun z1 => ?_⟩
  have h8 : 2 ^ nc.toNat ≤ 2 ^ 8 := Nat.pow_le_pow_right (by decide) (by omega)
  have hs8 : s < 256 := Int.lt_of_lt_of_le b (Int.ofNat_le.mpr h8)
  obtain ⟨k, hk⟩ := p2_1 ⟨s.toNat, by omega⟩ (by show pop8 ((s.toNat : Nat) : Int) 8 = 1; rw [show ((s.toNat : Nat) : Int) = s by omega]; exact z1)
  have hk : s.toNat = 2 ^ k.val := hk
  have es : s = ((2 ^ k.val : Nat) : Int) := by rw [← hk]; omega
  rw [es]
  refine Int.ofNat_le.mpr (Nat.pow_le_pow_right (by decide) ?_)
  refine Nat.le_of_not_lt fun q => ?_
  refine h k.val (by omega) (by omega) ?_
  rw [es] at hs
  exact hs
theorem SF_2 {nc h l : Int} {E : Int → Prop} (hnc : 0 ≤ nc ∧ nc ≤ 8) (hh : h < nc) (hl : 0 ≤ l ∧ l < h) (h1 : ∀ j, 0 ≤ j → j < nc → ¬ E ((2 ^ j.toNat : Nat) : Int)) (h2 : ∀ i j, 0 ≤ j → j < i → i < nc → (i < h ∨ (i = h ∧ j < l)) → ¬ E ((2 ^ i.toNat + 2 ^ j.toNat : Nat) : Int)) (hE : E ((2 ^ h.toNat + 2 ^ l.toNat : Nat) : Int)) : SF nc E ((2 ^ h.toNat + 2 ^ l.toNat : Nat) : Int) := by
  obtain ⟨⟨hp, -⟩, hlt⟩ := p2_o ⟨h.toNat, by omega⟩ ⟨l.toNat, by omega⟩ (by show l.toNat < h.toNat; omega)
  dsimp only at hp hlt
  have h3 : 2 ^ (h.toNat + 1) ≤ 2 ^ nc.toNat := Nat.pow_le_pow_right (by decide) (by omega)
  have h4 : 1 ≤ 2 ^ h.toNat := Nat.one_le_two_pow
  refine Or.inr ⟨⟨Int.ofNat_le.mpr (Nat.le_trans h4 (Nat.le_add_right _ _)), Int.ofNat_lt.mpr (Nat.lt_of_lt_of_le hlt h3)⟩, Or.inr hp, hE, fun s a b z hs => ?_⟩
  rw [hp]
  have h8 : 2 ^ nc.toNat ≤ 2 ^ 8 := Nat.pow_le_pow_right (by decide) (by omega)
  have hs8 : s < 256 := Int.lt_of_lt_of_le b (Int.ofNat_le.mpr h8)
  have e0 : ((s.toNat : Nat) : Int) = s := by omega
  have hbn : s.toNat < 2 ^ nc.toNat := by
    have : ((s.toNat : Nat) : Int) < ((2 ^ nc.toNat : Nat) : Int) := by rw [e0]; exact b
    exact Int.ofNat_lt.mp this
  rcases z with z | z
  · obtain ⟨k, hk⟩ := p2_1 ⟨s.toNat, by omega⟩ (by show pop8 ((s.toNat : Nat) : Int) 8 = 1; rw [e0]; exact z)
    have hk : s.toNat = 2 ^ k.val := hk
    rw [hk] at hbn
    have hkn := (Nat.pow_lt_pow_iff_right (a := 2) (by decide)).mp hbn
    rw [← e0, hk] at hs
    exact absurd hs (h1 k.val (by omega) (by omega))
  · refine ⟨by omega, fun _ => ?_⟩
    obtain ⟨i, j, hij, hk⟩ := p2_2 ⟨s.toNat, by omega⟩ (by show pop8 ((s.toNat : Nat) : Int) 8 = 2; rw [e0]; exact z)
    have hk : s.toNat = 2 ^ i.val + 2 ^ j.val := hk
    rw [hk] at hbn
    have hin := (Nat.pow_lt_pow_iff_right (a := 2) (by decide)).mp (Nat.lt_of_le_of_lt (Nat.le_add_right _ _) hbn)
    rw [← e0, hk] at hs ⊢
    have := p2_m ⟨h.toNat, by omega⟩ ⟨l.toNat, by omega⟩ i j (by show l.toNat < h.toNat; omega) hij
    rcases this with this | this
    · refine absurd hs (h2 i.val j.val (by omega) (by omega) (by omega) ?_)
      rcases this with t | ⟨t, t2⟩
      · exact Or.inl (by dsimp only at t; omega)
      · refine Or.inr ⟨by rw [t]; dsimp only; omega, by dsimp only at t2; omega⟩
    · exact Int.ofNat_le.mpr this
theorem SF_0 {nc : Int} {E : Int → Prop} (hnc : 0 ≤ nc ∧ nc ≤ 8) (h1 : ∀ j, 0 ≤ j → j < nc → ¬ E ((2 ^ j.toNat : Nat) : Int)) (h2 : ∀ i j, 0 ≤ j → j < i → i < nc → ¬ E ((2 ^ i.toNat + 2 ^ j.toNat : Nat) : Int)) : SF nc E (-4) := by
  refine Or.inl ⟨rfl, fun s a b z hs => ?_⟩
  have h8 : 2 ^ nc.toNat ≤ 2 ^ 8 := Nat.pow_le_pow_right (by decide) (by omega)
  have hs8 : s < 256 := Int.lt_of_lt_of_le b (Int.ofNat_le.mpr h8)
  have e0 : ((s.toNat : Nat) : Int) = s := by omega
  have hbn : s.toNat < 2 ^ nc.toNat := by
    have : ((s.toNat : Nat) : Int) < ((2 ^ nc.toNat : Nat) : Int) := by rw [e0]; exact b
    exact Int.ofNat_lt.mp this
  rcases z with z | z
  · obtain ⟨k, hk⟩ := p2_1 ⟨s.toNat, by omega⟩ (by show pop8 ((s.toNat : Nat) : Int) 8 = 1; rw [e0]; exact z)
    have hk : s.toNat = 2 ^ k.val := hk
    rw [hk] at hbn
    have hkn := (Nat.pow_lt_pow_iff_right (a := 2) (by decide)).mp hbn
    rw [← e0, hk] at hs
    exact absurd hs (h1 k.val (by omega) (by omega))
  · obtain ⟨i, j, hij, hk⟩ := p2_2 ⟨s.toNat, by omega⟩ (by show pop8 ((s.toNat : Nat) : Int) 8 = 2; rw [e0]; exact z)
    have hk : s.toNat = 2 ^ i.val + 2 ^ j.val := hk
    rw [hk] at hbn
    have hin := (Nat.pow_lt_pow_iff_right (a := 2) (by decide)).mp (Nat.lt_of_le_of_lt (Nat.le_add_right _ _) hbn)
    rw [← e0, hk] at hs
    exact absurd hs (h2 i.val j.val (by omega) (by omega) (by omega))
set_option maxRecDepth 100000 in
theorem ev_c_leastSet {ρ : List Int} {t : Int} (hO : PO np trap nv nc ne c e) (hP : PC w np trap nv nc ne c e f) (hS : FS w c f nv nc) (hE : ∀ x, 0 ≤ x → x < ne → LE w c e nv nc x) (hH : HL w lk) (hR : RW w ρ) (hρ : ∀ x ∈ ρ, 0 ≤ x ∧ x < ne) (hC : CHn e ρ 0 t) : mm_Ev K_X8_leastSetThatEnds (0, 0) [.inr (some (66, 0))] (PH r y) w (fun a b' w' => b' = PH r y ∧ sm ieL w w' ∧ ∃ z, a = some (.inl z) ∧ SF nc (fun s => EN c e f (fun p => mm_or (lk p) s) nv nc ρ) z) := by
  refine ev_intro ok_X8_leastSetThatEnds mo_X8_leastSetThatEnds (Nat.le_of_ble_eq_true rfl) (fun hrg has => ?_)
  have hnc := hO.2.2.2.1
  refine k_gp rfl rfl trivial ?_
  refine k_call0 rfl (ev_c_places hO hP hR hρ) rfl rfl rfl (by decide) ?_
  rintro a b' w' ⟨rfl, rfl, pl, rfl, hpl, hpb⟩
  -- one try
  have one : ∀ w1, sm ieL w' w1 → ∀ set, 0 ≤ set → set < 256 → mm_Ev K_X8_isEndedBy (0, 0) [.inr (some (66, 0)), .inl set, .inl pl] (PH r y) w1 (fun a b' w2 => b' = PH r y ∧ sm ieL w' w2 ∧ ∃ z : Bool, a = some (.inl (ib (z = true))) ∧ (z = true ↔ EN c e f (fun p => mm_or (lk p) set) nv nc ρ)) := fun w1 s1 set a b => by
    refine ev_conseq (ev_c_isEndedBy (lk := lk) (set := set) hO (PC_sm s1 rfl (fun _ => rfl) hP) (fun u a b => by rw [nsB_sm s1 (fun _ => rfl)]; exact hS u a b) (fun x a b => LE_sm s1 (fun _ => rfl) (hE x a b)) (HL_sm s1 (fun _ => rfl) hH) ⟨(s1 66 0 5 rfl).trans hR.1, hR.2.1, fun j a b => (s1 67 0 _ rfl).trans (hR.2.2 j a b)⟩ hρ ⟨a, b⟩ hpl hpb) ?_
    rintro a b' w2 ⟨h1, h2, z, h3, h4⟩
    exact ⟨h1, sm_tr s1 h2, z, h3, h4.trans (EN_lkU hC)⟩
  have e3 : ∀ w1, sm ieL w' w1 → w1 32 0 3 = nc := fun w1 s1 => (s1 32 0 3 rfl).trans hP.1.2.2.2.1
  have p256 : ∀ g : Int, 0 ≤ g → g < nc → 0 ≤ ((2 ^ g.toNat : Nat) : Int) ∧ ((2 ^ g.toNat : Nat) : Int) < 256 := fun g a b => ⟨Int.natCast_nonneg _, Int.ofNat_lt.mpr (Nat.lt_of_le_of_lt (Nat.pow_le_pow_right (by decide) (show g.toNat ≤ 7 by omega)) (by decide))⟩
  generalize hEE : (fun s => EN c e f (fun p => mm_or (lk p) s) nv nc ρ) = E
  have one : ∀ w1, sm ieL w' w1 → ∀ set, 0 ≤ set → set < 256 → mm_Ev K_X8_isEndedBy (0, 0) [.inr (some (66, 0)), .inl set, .inl pl] (PH r y) w1 (fun a b' w2 => b' = PH r y ∧ sm ieL w' w2 ∧ ∃ z : Bool, a = some (.inl (ib (z = true))) ∧ (z = true ↔ E set)) := fun w1 s1 set a b => by
    rw [← hEE]
    exact one w1 s1 set a b
  -- pairs
  have L2 : ∀ w1 l3 l4, sm ieL w' w1 → (∀ j, 0 ≤ j → j < nc → ¬ E ((2 ^ j.toNat : Nat) : Int)) → mm_Wk K_X8_leastSetThatEnds (0, 0) 39 [some (.inr (some (66, 0))), some (.inl pl), some (.inl nc), l3, l4] [] (PH r y) w1 (fun a b' w2 => b' = PH r y ∧ sm ieL w' w2 ∧ ∃ z, a = some (.inl z) ∧ SF nc E z) := fun w1 l3 l4 s1 h1 => by
    have fin : ∀ w2 l2 l3 l4, sm ieL w' w2 → (∀ i j, 0 ≤ j → j < i → i < nc → ¬ E ((2 ^ i.toNat + 2 ^ j.toNat : Nat) : Int)) → mm_Wk K_X8_leastSetThatEnds (0, 0) 93 [some (.inr (some (66, 0))), some (.inl pl), l2, l3, l4] [] (PH r y) w2 (fun a b' w2 => b' = PH r y ∧ sm ieL w' w2 ∧ ∃ z, a = some (.inl z) ∧ SF nc E z) := fun w2 l2 l3 l4 s2 h2 => by
      refine k_gp rfl rfl trivial ?_
      exact k_ret rfl (by decide) ⟨rfl, s2, -4, rfl, SF_0 hnc h1 h2⟩
    refine k_gp rfl rfl trivial ?_
    refine mm_loop (σ := mm_M) nc (fun h w2 => 1 ≤ h ∧ sm ieL w' w2 ∧ ∀ i j, 0 ≤ j → j < i → i < h → i < nc → ¬ E ((2 ^ i.toNat + 2 ^ j.toNat : Nat) : Int)) (fun h w2 => ∀ l3 l4, mm_Wk K_X8_leastSetThatEnds (0, 0) 41 [some (.inr (some (66, 0))), some (.inl pl), some (.inl h), l3, l4] [] (PH r y) w2 (fun a b' w2 => b' = PH r y ∧ sm ieL w' w2 ∧ ∃ z, a = some (.inl z) ∧ SF nc E z)) ?_ ?_ 1 w1 ⟨by omega, s1, fun i j a b d => by omega⟩ _ _
    · rintro h w2 q1 ⟨q2, s2, q3⟩ ih l3 l4
      have e32 := e3 w2 s2
      refine k_gp rfl rfl trivial ?_
      rw [e32]
      refine k_brf rfl (by omega) ?_
      refine k_gp rfl rfl trivial ?_
      refine mm_loop (σ := mm_M) h (fun l w3 => (0 ≤ l ∧ l ≤ h) ∧ sm ieL w' w3 ∧ ∀ j, 0 ≤ j → j < l → ¬ E ((2 ^ h.toNat + 2 ^ j.toNat : Nat) : Int)) (fun l w3 => ∀ l4, mm_Wk K_X8_leastSetThatEnds (0, 0) 54 [some (.inr (some (66, 0))), some (.inl pl), some (.inl h), some (.inl l), l4] [] (PH r y) w3 (fun a b' w2 => b' = PH r y ∧ sm ieL w' w2 ∧ ∃ z, a = some (.inl z) ∧ SF nc E z)) ?_ ?_ 0 w2 ⟨by omega, s2, fun j a b => by omega⟩ _
      · rintro l w3 t1 ⟨t2, s3, t3⟩ ih2 l4
        obtain ⟨⟨-, ho⟩, hlt⟩ := p2_o ⟨h.toNat, by omega⟩ ⟨l.toNat, by omega⟩ (by show l.toNat < h.toNat; omega)
        dsimp only at ho hlt
        have h28 : 2 ^ (h.toNat + 1) ≤ 2 ^ 8 := Nat.pow_le_pow_right (by decide) (by omega)
        refine k_gp rfl rfl trivial ?_
        refine k_brf rfl (by omega) ?_
        refine k_gp rfl rfl trivial ?_
        rw [shl1 (by omega), shl1 (by omega), ho]
        refine k_call0 rfl (one w3 s3 _ (Int.natCast_nonneg _) (Int.ofNat_lt.mpr (Nat.lt_of_lt_of_le hlt h28))) rfl rfl rfl (by decide) ?_
        rintro a b' w4 ⟨rfl, s4, z, rfl, hz⟩
        refine k_brz rfl (fun g => ?_) (fun g => ?_)
        · refine k_gp rfl rfl (by simp only [true_and, mm_fits]; omega) ?_
          refine ih2 w4 ⟨by omega, s4, fun j a b => ?_⟩ _
          by_cases hj : j = l
          · rw [hj]; exact fun q => g (hz.mpr q)
          · exact t3 j a (by omega)
        · refine k_gp rfl rfl trivial ?_
          refine k_ret rfl trivial ⟨rfl, s4, _, rfl, SF_2 hnc q1 ⟨t2.1, t1⟩ h1 (fun i j a b d o => ?_) (hz.mp g)⟩
          rcases o with o | ⟨o1, o2⟩
          · exact q3 i j a b o d
          · rw [o1]; exact t3 j a o2
      · rintro l w3 t1 ⟨t2, s3, t3⟩ l4
        refine k_gp rfl rfl trivial ?_
        refine k_brt rfl (by omega) ?_
        refine k_gp rfl rfl (by simp only [true_and, mm_fits]; omega) ?_
        refine ih w3 ⟨by omega, s3, fun i j a b d d2 => ?_⟩ _ _
        by_cases hi : i = h
        · rw [hi]; exact t3 j a (by omega)
        · exact q3 i j a b (by omega) d2
    · rintro h w2 q1 ⟨q2, s2, q3⟩ l3 l4
      have e32 := e3 w2 s2
      refine k_gp rfl rfl trivial ?_
      rw [e32]
      refine k_brt rfl (by omega) ?_
      exact fin w2 _ _ _ s2 (fun i j a b d => q3 i j a b (by omega) d)
  refine k_gp rfl rfl trivial ?_
  refine mm_loop (σ := mm_M) nc (fun g w1 => (0 ≤ g ∧ g ≤ nc) ∧ sm ieL w' w1 ∧ ∀ j, 0 ≤ j → j < g → ¬ E ((2 ^ j.toNat : Nat) : Int)) (fun g w1 => ∀ l3 l4, mm_Wk K_X8_leastSetThatEnds (0, 0) 7 [some (.inr (some (66, 0))), some (.inl pl), some (.inl g), l3, l4] [] (PH r y) w1 (fun a b' w2 => b' = PH r y ∧ sm ieL w' w2 ∧ ∃ z, a = some (.inl z) ∧ SF nc E z)) ?_ ?_ 0 w' ⟨by omega, sm_rf, fun j a b => by omega⟩ _ _
  · rintro g w1 q1 ⟨q2, s1, q3⟩ ih l3 l4
    have e31 := e3 w1 s1
    have hp := p256 g q2.1 q1
    refine k_gp rfl rfl trivial ?_
    rw [e31]
    refine k_brf rfl (by omega) ?_
    refine k_gp rfl rfl trivial ?_
    rw [shl1 (by omega)]
    refine k_call0 rfl (one w1 s1 _ hp.1 hp.2) rfl rfl rfl (by decide) ?_
    rintro a b' w4 ⟨rfl, s4, z, rfl, hz⟩
    refine k_brz rfl (fun q => ?_) (fun q => ?_)
    · refine k_gp rfl rfl (by simp only [true_and, mm_fits]; omega) ?_
      refine ih w4 ⟨by omega, s4, fun j a b => ?_⟩ _ _
      by_cases hj : j = g
      · rw [hj]; exact fun t => q (hz.mpr t)
      · exact q3 j a (by omega)
    · refine k_gp rfl rfl trivial ?_
      rw [shl1 (by omega)]
      exact k_ret rfl trivial ⟨rfl, s4, _, rfl, SF_1 hnc ⟨q2.1, q1⟩ q3 (hz.mp q)⟩
  · rintro g w1 q1 ⟨q2, s1, q3⟩ l3 l4
    have e31 := e3 w1 s1
    have hg : g = nc := by omega
    subst hg
    refine k_gp rfl rfl trivial ?_
    rw [e31]
    refine k_brt rfl (by omega) ?_
    exact L2 w1 _ _ s1 q3
end MC
