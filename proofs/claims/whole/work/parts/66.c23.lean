/-! ===== the class: a node more that is reached ===== -/
def RK (w : mm_M) (c : Int → Int → Int) (nc trap : Int) (Q : List (Int × Int)) : Prop := (w 47 0 8 = Q.length ∧ (∀ k : Int, 0 ≤ k → k < Q.length → w 48 0 k = stQ Q k ∧ w 49 0 k = frQ Q k ∧ (0 ≤ stQ Q k ∧ stQ Q k < 4096)) ∧ (∀ s, 0 ≤ s → s < 4096 → (nsB w 51 s = true ↔ inQ Q s = true)) ∧ (Q.length : Int) = ((cnt (fun s => nsB w 51 s) 4096 : Nat) : Int)) ∧ (∀ p, 0 ≤ p → p < 8 → (w 52 0 p = -4 ∧ ∀ k : Int, 0 ≤ k → k < Q.length → stQ Q k / 512 ≠ p) ∨ (∃ k : Int, (0 ≤ k ∧ k < Q.length) ∧ stQ Q k / 512 = p ∧ (∀ j : Int, 0 ≤ j → j < k → stQ Q j / 512 ≠ p) ∧ w 52 0 p = (PT Q k).length ∧ (p = trap → w 47 0 9 = k))) ∧ (∀ p, 0 ≤ p → p < 8 → w 53 0 p = ((cnt (fun v => inQ Q (512 * p + v)) 512 : Nat) : Int)) ∧ (∀ p, 0 ≤ p → p < 8 → (0 ≤ w 54 0 p ∧ w 54 0 p < ((2 ^ nc.toNat : Nat) : Int)) ∧ ∀ g, 0 ≤ g → g < nc → (hb (w 54 0 p) g ↔ ∀ k : Int, 0 ≤ k → k < Q.length → stQ Q k / 512 = p → soB c g (stQ Q k % 512) = true))
abbrev raL : List (Nat × Option Int) := [(47, some 8), (47, some 9), (48, none), (49, none), (51, none), (52, none), (53, none), (54, none)]
section MC
variable {r : Bool × Bool} {y : Bool} {w : mm_M} {np trap nv nc ne : Int} {c e : Int → Int → Int} {f lk : Int → Int}
theorem RK_le {Q : List (Int × Int)} (h : RK w c nc trap Q) : Q.length ≤ 4096 := by
  have := h.1.2.2.2
  have := cnt_le (fun s => nsB w 51 s) 4096
  omega
theorem RK_lt {s : Int} {Q : List (Int × Int)} (h : RK w c nc trap Q) (hs : 0 ≤ s ∧ s < 4096) (hn : nsB w 51 s = false) : Q.length < 4096 := by
  have := h.1.2.2.2
  have := cnt_lt (p := fun s => nsB w 51 s) (n := 4096) hs.1 (by omega) hn
  omega
theorem RK_old {Q : List (Int × Int)} {s : Int} (h : RK w c nc trap Q) (hs : 0 ≤ s ∧ s < 4096) (hn : nsB w 51 s = true) : RK (nsA w 51 s) c nc trap Q := by
  have e51 : ∀ k, 0 ≤ k → nsB (nsA w 51 s) 51 k = nsB w 51 k := fun k a => by
    rw [nsB_A hs.1 a]
    by_cases hk : k = s
    · rw [hk, hn]; rfl
    · rw [decide_eq_false hk, Bool.or_false]
  have g : ∀ g j k, Nat.beq g 51 = false → nsA w 51 s g j k = w g j k := fun g j k z => up_g z
  obtain ⟨⟨h1, h2, h3, h4⟩, h5, h6, h7⟩ := h
  refine ⟨⟨(g 47 0 8 rfl).trans h1, fun k a b => ?_, fun u a b => ?_, ?_⟩, fun p a b => ?_, fun p a b => ?_, fun p a b => ?_⟩
  · rw [g 48 0 k rfl, g 49 0 k rfl]; exact h2 k a b
  · rw [e51 u a]; exact h3 u a b
  · rw [h4]
    exact congrArg _ (cnt_c (fun i a b => (e51 i a).symm))
  · rw [g 52 0 p rfl, g 47 0 9 rfl]; exact h5 p a b
  · rw [g 53 0 p rfl]; exact h6 p a b
  · rw [g 54 0 p rfl]; exact h7 p a b
theorem andN {n : Nat} {a b : Int} (ha : 0 ≤ a ∧ a < ((2 ^ n : Nat) : Int)) (ha8 : a < 256) (hb_ : 0 ≤ b ∧ b < 256) : 0 ≤ mm_and a b ∧ mm_and a b < ((2 ^ n : Nat) : Int) := by
  have h := bb_and (x := a.toNat) (y := b.toNat) (by omega) (by omega)
  rw [show ((a.toNat : Nat) : Int) = a by omega, show ((b.toNat : Nat) : Int) = b by omega] at h
  have h2 := Nat.and_le_left (n := a.toNat) (m := b.toNat)
  rw [h]
  refine ⟨Int.natCast_nonneg _, Int.lt_of_le_of_lt ?_ ha.2⟩
  omega
theorem RK_new {Q : List (Int × Int)} {w2 : mm_M} {p v s fr d : Int} (hnc : 0 ≤ nc ∧ nc ≤ 8) (hW : WF Q) (h : RK w c nc trap Q) (hp : 0 ≤ p ∧ p < 8) (hv : 0 ≤ v ∧ v < 512) (hs : s = p * 512 + v) (hn : nsB w 51 s = false) (s2 : sm [(51, none), (52, none), (47, some 9)] w w2) (n51 : ∀ k, 0 ≤ k → nsB w2 51 k = (nsB w 51 k || decide (k = s))) (h52 : ∀ q, w2 52 0 q = if q = p ∧ w 52 0 p = -4 then d else w 52 0 q) (h9 : w2 47 0 9 = if p = trap ∧ w 52 0 p = -4 then w 47 0 8 else w 47 0 9) (hd : d = (PT (Q ++ [(s, fr)]) Q.length).length) : RK (mm_up (mm_up (mm_up (mm_up (mm_up w2 48 0 (w 47 0 8) s) 49 0 (w 47 0 8) fr) 47 0 8 (w 47 0 8 + 1)) 53 0 p (w 53 0 p + 1)) 54 0 p (mm_and (w 54 0 p) (SO c nc v))) c nc trap (Q ++ [(s, fr)]) := by
  obtain ⟨⟨h1, h2, h3, h4⟩, h5, h6, h7⟩ := h
  have hsr : 0 ≤ s ∧ s < 4096 := by omega
  have hsp : s / 512 = p := by omega
  have hsv : s % 512 = v := by omega
  have hi : ¬ inQ Q s = true := fun q => by
    rw [(h3 _ hsr.1 hsr.2).mpr q] at hn
    cases hn
  have hlen : ((Q ++ [(s, fr)]).length : Int) = Q.length + 1 := by simp
  have hin : ∀ u, inQ (Q ++ [(s, fr)]) u = (inQ Q u || decide (s = u)) := fun u => by unfold inQ; rw [List.any_append]; simp
  have e1 : stQ (Q ++ [(s, fr)]) Q.length = s := by unfold stQ; simp
  have e2 : frQ (Q ++ [(s, fr)]) Q.length = fr := by unfold frQ; simp
  generalize hwf : mm_up (mm_up (mm_up (mm_up (mm_up w2 48 0 (w 47 0 8) s) 49 0 (w 47 0 8) fr) 47 0 8 (w 47 0 8 + 1)) 53 0 p (w 53 0 p + 1)) 54 0 p (mm_and (w 54 0 p) (SO c nc v)) = wf
  have a8 : wf 47 0 8 = w 47 0 8 + 1 := by rw [← hwf, up_g rfl, up_g rfl, up_s]
  have a9 : wf 47 0 9 = w2 47 0 9 := by rw [← hwf, up_g rfl, up_g rfl, up_k (by decide), up_g rfl, up_g rfl]
  have a48 : ∀ k, wf 48 0 k = if k = w 47 0 8 then s else w 48 0 k := fun k => by rw [← hwf, up_g rfl, up_g rfl, up_g rfl, up_g rfl, up_at, s2 48 0 k rfl]
  have a49 : ∀ k, wf 49 0 k = if k = w 47 0 8 then fr else w 49 0 k := fun k => by rw [← hwf, up_g rfl, up_g rfl, up_g rfl, up_at, up_g rfl, s2 49 0 k rfl]
  have a51 : ∀ k, nsB wf 51 k = nsB w2 51 k := fun k => by
    unfold nsB
    rw [← hwf, up_g rfl, up_g rfl, up_g rfl, up_g rfl, up_g rfl]
  have a52 : ∀ q, wf 52 0 q = w2 52 0 q := fun q => by rw [← hwf, up_g rfl, up_g rfl, up_g rfl, up_g rfl, up_g rfl]
  have a53 : ∀ q, wf 53 0 q = if q = p then w 53 0 p + 1 else w 53 0 q := fun q => by rw [← hwf, up_g rfl, up_at, up_g rfl, up_g rfl, up_g rfl, s2 53 0 q rfl]
  have a54 : ∀ q, wf 54 0 q = if q = p then mm_and (w 54 0 p) (SO c nc v) else w 54 0 q := fun q => by rw [← hwf, up_at, up_g rfl, up_g rfl, up_g rfl, up_g rfl, s2 54 0 q rfl]
  clear hwf
  refine ⟨⟨by rw [a8, h1, hlen], fun k a b => ?_, fun u a b => ?_, ?_⟩, fun q a b => ?_, fun q a b => ?_, fun q a b => ?_⟩
  · rw [a48, a49, h1]
    by_cases hk : k = Q.length
    · rw [if_pos hk, if_pos hk, hk, e1, e2]
      exact ⟨rfl, rfl, hsr⟩
    · rw [stQ_app a (by omega), frQ_app a (by omega), if_neg hk, if_neg hk]
      exact h2 k a (by omega)
  · rw [a51, n51 u a, hin, Bool.or_eq_true, Bool.or_eq_true, h3 u a b, decide_eq_true_eq, decide_eq_true_eq]
    exact or_congr Iff.rfl eq_comm
  · have := cnt_s (p := fun k => if 0 ≤ k then nsB w 51 k else false) (p' := fun k => if 0 ≤ k then nsB wf 51 k else false) (n := 4096) hsr.1 (by omega) (by show (if _ then _ else _) = _; rw [if_pos hsr.1, hn]) (by show (if _ then _ else _) = _; rw [if_pos hsr.1, a51, n51 s hsr.1, decide_eq_true rfl, Bool.or_true]) (fun j hj => by
      show (if _ then _ else _) = (if _ then _ else _)
      by_cases z : 0 ≤ j
      · rw [if_pos z, if_pos z, a51, n51 j z, decide_eq_false hj, Bool.or_false]
      · rw [if_neg z, if_neg z])
    rw [hlen, h4]
    have c1 : cnt (fun k => if 0 ≤ k then nsB w 51 k else false) 4096 = cnt (fun s => nsB w 51 s) 4096 := cnt_c (fun i a b => if_pos a)
    have c2 : cnt (fun k => if 0 ≤ k then nsB wf 51 k else false) 4096 = cnt (fun s => nsB wf 51 s) 4096 := cnt_c (fun i a b => if_pos a)
    rw [c1, c2] at this
    omega
  · rw [a52, a9, h52 q, h9]
    rcases h5 q a b with ⟨p1, p2⟩ | ⟨k, p1, p2, p3, p4, p5⟩
    · by_cases hq : q = p
      · subst hq
        rw [if_pos ⟨rfl, p1⟩]
        refine Or.inr ⟨Q.length, by omega, by rw [e1, hsp], fun j a b => ?_, hd, fun z => ?_⟩
        · rw [stQ_app a (by omega)]
          exact p2 j a (by omega)
        · rw [if_pos ⟨z, p1⟩, h1]
      · rw [if_neg (fun z => hq z.1)]
        refine Or.inl ⟨p1, fun k a b => ?_⟩
        by_cases hk : k = Q.length
        · rw [hk, e1, hsp]
          exact fun z => hq z.symm
        · rw [stQ_app a (by omega)]
          exact p2 k a (by omega)
    · have hne : w 52 0 q ≠ -4 := by rw [p4]; omega
      have hc : ¬ (q = p ∧ w 52 0 p = -4) := fun z => by rw [z.1] at hne; exact hne z.2
      rw [if_neg hc]
      refine Or.inr ⟨k, by omega, by rw [stQ_app p1.1 p1.2]; exact p2, fun j a b => ?_, by rw [PT_ap hW p1.1 p1.2]; exact p4, fun z => ?_⟩
      · rw [stQ_app a (by omega)]
        exact p3 j a b
      · rw [if_neg (fun z2 => hc ⟨z.trans z2.1.symm, z2.2⟩)]
        exact p5 z
  · rw [a53]
    by_cases hq : q = p
    · rw [if_pos hq, hq, h6 p hp.1 hp.2]
      have := cnt_s (p := fun u => inQ Q (512 * p + u)) (p' := fun u => inQ (Q ++ [(s, fr)]) (512 * p + u)) (n := 512) (i := v) hv.1 (by omega) (by
        show inQ Q (512 * p + v) = false
        rw [show 512 * p + v = s by omega]
        exact Bool.eq_false_iff.mpr hi) (by
        show inQ (Q ++ [(s, fr)]) (512 * p + v) = true
        rw [hin, decide_eq_true (show s = 512 * p + v by omega), Bool.or_true]) (fun j hj => by
        show inQ (Q ++ [(s, fr)]) (512 * p + j) = inQ Q (512 * p + j)
        rw [hin, decide_eq_false (by omega), Bool.or_false])
      omega
    · rw [if_neg hq, h6 q a b]
      refine congrArg _ (cnt_c (fun u a b => ?_))
      show inQ Q (512 * q + u) = inQ (Q ++ [(s, fr)]) (512 * q + u)
      rw [hin, decide_eq_false (by omega), Bool.or_false]
  · rw [a54]
    obtain ⟨t1, t2⟩ := h7 q a b
    have h8 : 2 ^ nc.toNat ≤ 2 ^ 8 := Nat.pow_le_pow_right (by decide) (by omega)
    have t8 : w 54 0 q < 256 := Int.lt_of_lt_of_le t1.2 (Int.ofNat_le.mpr h8)
    have hS := SO_in c v hnc.2
    by_cases hq : q = p
    · subst hq
      rw [if_pos rfl]
      refine ⟨andN t1 t8 hS, fun g a b => ?_⟩
      rw [(hb_and (g := g) ⟨t1.1, t8⟩ hS).2, t2 g a b]
      have hg : hb (SO c nc v) g ↔ soB c g v = true := by
        show SO c nc v / ((2 ^ g.toNat : Nat) : Int) % 2 = 1 ↔ _
        rw [SO_hb hnc.2 ⟨a, b⟩]
        by_cases z : soB c g v = true
        · rw [ib_t z]; exact ⟨fun _ => z, fun _ => rfl⟩
        · rw [ib_f z]; exact ⟨fun k => absurd k (by decide), fun k => absurd k z⟩
      rw [hg]
      constructor
      · rintro ⟨z1, z2⟩ k a b d
        by_cases hk : k = Q.length
        · rw [hk, e1, hsv]; exact z2
        · rw [stQ_app a (by omega)] at d ⊢
          exact z1 k a (by omega) d
      · intro z
        refine ⟨fun k a b d => ?_, ?_⟩
        · have := z k a (by omega)
          rw [stQ_app a b] at this
          exact this d
        · have := z Q.length (by omega) (by omega)
          rw [e1, hsv] at this
          exact this hsp
    · rw [if_neg hq]
      refine ⟨t1, fun g a b => ?_⟩
      rw [t2 g a b]
      constructor
      · intro z k a b d
        by_cases hk : k = Q.length
        · rw [hk, e1, hsp] at d; exact absurd d.symm hq
        · rw [stQ_app a (by omega)] at d ⊢
          exact z k a (by omega) d
      · intro z k a b d
        have := z k a (by omega)
        rw [stQ_app a b] at this
        exact this d
set_option maxRecDepth 100000 in
theorem ev_c_radd {Q : List (Int × Int)} {p v fr d : Int} (hnc : 0 ≤ nc ∧ nc ≤ 8) (hW : WF Q) (hQ : RK w c nc trap Q) (hp : 0 ≤ p ∧ p < 8) (hv : 0 ≤ v ∧ v < 512) (hT : w 32 0 1 = trap) (hso : w 40 0 v = SO c nc v) (hd : ¬ inQ Q (p * 512 + v) = true → d = (PT (Q ++ [(p * 512 + v, fr)]) Q.length).length) : mm_Ev K_X6_add (0, 0) [.inr (some (47, 0)), .inl p, .inl v, .inl fr, .inl d] (PH r y) w (fun a b' w' => a = none ∧ b' = PH r y ∧ sm raL w w' ∧ RK w' c nc trap (add1 Q (p * 512 + v) fr)) := by
  refine ev_intro ok_X6_add mo_X6_add (Nat.le_of_ble_eq_true rfl) (fun hrg has => ?_)
  refine k_gp rfl rfl (by simp only [true_and, mm_fits]; omega) ?_
  have hsr : 0 ≤ p * 512 + v ∧ p * 512 + v < 4096 := by omega
  generalize hss : p * 512 + v = s at *
  refine k_callp rfl (ev_add (g := 50) (N := 128) (by unfold NSL; decide) (by omega)) rfl rfl rfl (by decide) ?_
  have s1 : sm [(51, none)] w (nsA w 51 s) := sm_up sm_rf (Or.inl (by decide))
  have n51 : ∀ k, 0 ≤ k → nsB (nsA w 51 s) 51 k = (nsB w 51 k || decide (k = s)) := fun k a => nsB_A hsr.1 a
  refine k_brn rfl (fun q => ?_) (fun q => ?_)
  · have hlt := RK_lt hQ hsr q
    have hni : ¬ inQ Q s = true := fun z => by
      rw [(hQ.1.2.2.1 s hsr.1 hsr.2).mpr z] at q
      cases q
    have hd := hd hni
    have hadd : add1 Q s fr = Q ++ [(s, fr)] := if_neg hni
    rw [hadd]
    have h8 := hQ.1.1
    have h54 := hQ.2.2.2 p hp.1 hp.2
    have h53 : w 53 0 p ≤ 512 := by
      rw [hQ.2.2.1 p hp.1 hp.2]
      have := cnt_le (fun v => inQ Q (512 * p + v)) 512
      omega
    have h530 : 0 ≤ w 53 0 p := by rw [hQ.2.2.1 p hp.1 hp.2]; omega
    have J60 : ∀ w2, sm [(51, none), (52, none), (47, some 9)] w w2 → (∀ k, 0 ≤ k → nsB w2 51 k = (nsB w 51 k || decide (k = s))) → (∀ q, w2 52 0 q = if q = p ∧ w 52 0 p = -4 then d else w 52 0 q) → (w2 47 0 9 = if p = trap ∧ w 52 0 p = -4 then w 47 0 8 else w 47 0 9) → mm_Wk K_X6_add (0, 0) 60 [some (.inr (some (47, 0))), some (.inl p), some (.inl v), some (.inl fr), some (.inl d), some (.inl s)] [] (PH r y) w2 (fun a b' w' => a = none ∧ b' = PH r y ∧ sm raL w w' ∧ RK w' c nc trap (Q ++ [(s, fr)])) := fun w2 s2 t1 t2 t3 => by
      have b8 : w2 47 0 8 = w 47 0 8 := s2 47 0 8 rfl
      have b8a : ∀ k x, mm_up w2 48 0 k x 47 0 8 = w 47 0 8 := fun k x => (up_g rfl).trans b8
      have b8b : ∀ k x l z, mm_up (mm_up w2 48 0 k x) 49 0 l z 47 0 8 = w 47 0 8 := fun k x l z => (up_g rfl).trans (b8a k x)
      have b53 : ∀ k x l z u, mm_up (mm_up (mm_up w2 48 0 k x) 49 0 l z) 47 0 8 u 53 0 p = w 53 0 p := fun k x l z u => (up_g rfl).trans ((up_g rfl).trans ((up_g rfl).trans (s2 53 0 p rfl)))
      have b54 : ∀ k x l z u t, mm_up (mm_up (mm_up (mm_up w2 48 0 k x) 49 0 l z) 47 0 8 u) 53 0 p t 54 0 p = w 54 0 p := fun k x l z u t => (up_g rfl).trans ((up_g rfl).trans ((up_g rfl).trans ((up_g rfl).trans (s2 54 0 p rfl))))
      have b40 : ∀ k x l z u t, mm_up (mm_up (mm_up (mm_up w2 48 0 k x) 49 0 l z) 47 0 8 u) 53 0 p t 40 0 v = SO c nc v := fun k x l z u t => (up_g rfl).trans ((up_g rfl).trans ((up_g rfl).trans ((up_g rfl).trans ((s2 40 0 v rfl).trans hso))))
      refine k_gp rfl rfl (by simp only [true_and, mm_fits, b8, b8a, b8b, b53]; omega) ?_
      rw [b8, b8a, b8b, b53, b54]
      have hfin := RK_new (fr := fr) hnc hW hQ hp hv hss.symm q s2 t1 t2 t3 hd
      have ev := ev_c_sosOf (r := r) (y := y) (w := mm_up (mm_up (mm_up (mm_up w2 48 0 (w 47 0 8) s) 49 0 (w 47 0 8) fr) 47 0 8 (w 47 0 8 + 1)) 53 0 p (w 53 0 p + 1)) (i := v) hv
      rw [b40] at ev
      refine k_callp rfl ev rfl rfl rfl (by decide) ?_
      refine k_gp rfl rfl (by simp only [true_and, mm_fits]; omega) ?_
      refine k_ret rfl trivial ⟨rfl, rfl, ?_, hfin⟩
      exact sm_up (sm_up (sm_up (sm_up (sm_up (sm_w s2 (by decide)) (Or.inl (by decide))) (Or.inl (by decide))) (Or.inr (by decide))) (Or.inl (by decide))) (Or.inl (by decide))
    have c52 : ∀ q, nsA w 51 s 52 0 q = w 52 0 q := fun q => s1 52 0 q rfl
    have c9 : nsA w 51 s 47 0 9 = w 47 0 9 := s1 47 0 9 rfl
    have c8 : nsA w 51 s 47 0 8 = w 47 0 8 := s1 47 0 8 rfl
    have c32 : nsA w 51 s 32 0 1 = trap := (s1 32 0 1 rfl).trans hT
    show mm_Wk K_X6_add (0, 0) 22 _ _ _ (nsA w 51 s) _
    generalize nsA w 51 s = w1 at *
    refine k_gp rfl rfl (by simp only [true_and, mm_fits]; omega) ?_
    rw [c52]
    refine k_br rfl (fun g => ?_) (fun g => ?_)
    · exact J60 w1 (sm_w s1 (by decide)) n51 (fun q => by rw [c52, if_neg (fun z => g z.2)]) (by rw [c9, if_neg (fun z => g z.2)])
    · have g : w 52 0 p = -4 := Classical.byContradiction g
      have d32 : mm_up w1 52 0 p d 32 0 1 = trap := (up_g rfl).trans c32
      have d8 : mm_up w1 52 0 p d 47 0 8 = w 47 0 8 := (up_g rfl).trans c8
      have s3 : sm [(51, none), (52, none), (47, some 9)] w (mm_up w1 52 0 p d) := sm_up (sm_w s1 (by decide)) (Or.inl (by decide))
      have d52 : ∀ q, mm_up w1 52 0 p d 52 0 q = if q = p ∧ w 52 0 p = -4 then d else w 52 0 q := fun q => by
        rw [up_at, c52]
        by_cases hq : q = p
        · rw [if_pos hq, if_pos ⟨hq, g⟩]
        · rw [if_neg hq, if_neg (fun z => hq z.1)]
      have d51 : ∀ k, 0 ≤ k → nsB (mm_up w1 52 0 p d) 51 k = (nsB w 51 k || decide (k = s)) := fun k a => by
        rw [← n51 k a]
        unfold nsB
        rw [up_g rfl]
      refine k_gp rfl rfl (by simp only [true_and, mm_fits]; omega) ?_
      rw [d32]
      refine k_br rfl (fun g2 => ?_) (fun g2 => ?_)
      · exact J60 _ s3 d51 d52 (by rw [up_g rfl, c9, if_neg (fun z => g2 z.1)])
      · have g2 : p = trap := Classical.byContradiction g2
        refine k_gp rfl rfl trivial ?_
        rw [d8]
        refine J60 _ (sm_up s3 (Or.inr (by decide))) (fun k a => ?_) (fun q => ?_) ?_
        · rw [← d51 k a]
          unfold nsB
          rw [up_g rfl]
        · rw [up_g rfl]; exact d52 q
        · rw [up_s, if_pos ⟨g2, g⟩]
  · have q : nsB w 51 s = true := by
      cases hz : nsB w 51 s with
      | true => rfl
      | false => exact absurd hz q
    have hin := (hQ.1.2.2.1 s hsr.1 hsr.2).mp q
    have hadd : add1 Q s fr = Q := if_pos hin
    rw [hadd]
    exact k_ret rfl trivial ⟨rfl, rfl, sm_w s1 (by decide), RK_old hQ hsr q⟩
end MC
