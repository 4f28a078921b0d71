/-! ===== the class: states that come, all of a place at once ===== -/
theorem sb_le {L : Nat} {t : Int} (h : sbB L t = true) : t.toNat ≤ L := by
  have := Nat.eq_of_beq_eq_true h
  rw [← this]
  exact Nat.and_le_right
theorem sb_iff {L t : Int} (hL : 0 ≤ L ∧ L < 256) (ht : 0 ≤ t ∧ t < 256) : sbB L.toNat t = true ↔ mm_and t L = t := by
  have h := bb_and (x := t.toNat) (y := L.toNat) (by omega) (by omega)
  rw [show ((t.toNat : Nat) : Int) = t by omega, show ((L.toNat : Nat) : Int) = L by omega] at h
  unfold sbB
  rw [h]
  constructor
  · intro z
    have z : t.toNat &&& L.toNat = t.toNat := Nat.eq_of_beq_eq_true z
    omega
  · intro z
    have z : t.toNat &&& L.toNat = t.toNat := by omega
    show Nat.beq (t.toNat &&& L.toNat) t.toNat = true
    rw [z]
    exact Nat.beq_refl _
theorem nx_f {L u : Int} (hL : 0 ≤ L ∧ L < 256) (hu : 0 ≤ u ∧ u < 256) (hs : sbB L.toNat u = true) : (u = L → mm_and (u - L) L = 0) ∧ (u ≠ L → (u < mm_and (u - L) L ∧ mm_and (u - L) L ≤ L) ∧ sbB L.toNat (mm_and (u - L) L) = true ∧ ∀ t, u < t → t < mm_and (u - L) L → sbB L.toNat t = false) := by
  have h := nxA ⟨L.toNat, by omega⟩ ⟨u.toNat, by omega⟩
  have eu : ((u.toNat : Nat) : Int) = u := by omega
  have eL : ((L.toNat : Nat) : Int) = L := by omega
  unfold nxOK at h
  dsimp only at h
  rw [eu, eL, hs, Bool.not_true, Bool.false_or] at h
  by_cases hq : Nat.beq u.toNat L.toNat = true
  · rw [if_pos hq] at h
    have := Nat.eq_of_beq_eq_true hq
    exact ⟨fun _ => of_decide_eq_true h, fun z => absurd (by omega) z⟩
  · rw [if_neg hq] at h
    have hne : u ≠ L := fun z => hq (by rw [z]; exact Nat.beq_refl _)
    simp only [Bool.and_eq_true, decide_eq_true_eq, Nat.blt_eq, Nat.ble_eq, List.all_eq_true, List.mem_range'_1] at h
    obtain ⟨⟨⟨⟨h1, h2⟩, h3⟩, h4⟩, h5⟩ := h
    refine ⟨fun z => absurd z hne, fun _ => ⟨by omega, h2, fun t a b => ?_⟩⟩
    have := h5 t.toNat (by omega)
    rw [show ((t.toNat : Nat) : Int) = t by omega] at this
    cases hb : sbB L.toNat t with
    | false => rfl
    | true => rw [hb] at this; cases this
theorem addC_skip {Q : List (Int × Int)} {b fr : Int} {S : Int → Bool} {a : Nat} : ∀ d : Nat, (∀ k : Nat, a ≤ k → k < a + d → S k = false) → addC Q b S fr (a + d) = addC Q b S fr a
  | 0, _ => rfl
  | d + 1, h => by
    show (if S ((a + d : Nat) : Int) = true then add1 (addC Q b S fr (a + d)) (b + ((a + d : Nat) : Int)) fr else addC Q b S fr (a + d)) = _
    rw [h (a + d) (by omega) (by omega), if_neg (by decide)]
    exact addC_skip d (fun k p q => h k p (by omega))
theorem cnt_skip {S : Int → Bool} {a : Nat} : ∀ d : Nat, (∀ k : Nat, a ≤ k → k < a + d → S k = false) → cnt S (a + d) = cnt S a
  | 0, _ => rfl
  | d + 1, h => by
    show cnt S (a + d) + (if S ((a + d : Nat) : Int) = true then 1 else 0) = _
    rw [h (a + d) (by omega) (by omega), if_neg (by decide)]
    exact cnt_skip d (fun k p q => h k p (by omega))
/-- the class's states are these, in this order -/
def QC (w : mm_M) (trap : Int) (Q : List (Int × Int)) : Prop := w 77 0 9 = Q.length ∧ (∀ k : Int, 0 ≤ k → k < Q.length → w 78 0 k = stQ Q k ∧ w 79 0 k = frQ Q k ∧ (0 ≤ stQ Q k ∧ stQ Q k < 2048)) ∧ (∀ s, 0 ≤ s → s < 2048 → (nsB w 81 s = true ↔ inQ Q s = true)) ∧ (Q.length : Int) = ((cnt (fun s => nsB w 81 s) 2048 : Nat) : Int) ∧ ((w 77 0 10 = -4 ∧ ∀ j : Int, 0 ≤ j → j < Q.length → stQ Q j / 256 ≠ trap) ∨ ((0 ≤ w 77 0 10 ∧ w 77 0 10 < Q.length) ∧ FT Q trap (w 77 0 10)))
abbrev adL : List (Nat × Option Int) := [(77, some 9), (77, some 10), (78, none), (79, none), (81, none)]
theorem QC_le {w : mm_M} {trap : Int} {Q : List (Int × Int)} (h : QC w trap Q) : Q.length ≤ 2048 := by
  have := h.2.2.2.1
  have := cnt_le (fun s => nsB w 81 s) 2048
  omega
theorem QC_lt {w : mm_M} {trap s : Int} {Q : List (Int × Int)} (h : QC w trap Q) (hs : 0 ≤ s ∧ s < 2048) (hn : nsB w 81 s = false) : Q.length < 2048 := by
  have := h.2.2.2.1
  have := cnt_lt (p := fun s => nsB w 81 s) (n := 2048) hs.1 (by omega) hn
  omega
theorem QC_sm {w w' : mm_M} {trap : Int} {Q : List (Int × Int)} {L : List (Nat × Option Int)} (hs : sm L w w') (h1 : (frB L 77 9 && frB L 77 10) = true) (h2 : ∀ k, (frB L 78 k && frB L 79 k && frB L 81 k) = true) (h : QC w trap Q) : QC w' trap Q := by
  simp only [Bool.and_eq_true] at h1 h2
  have e9 := hs 77 0 9 h1.1
  have e10 := hs 77 0 10 h1.2
  have e78 := fun k => hs 78 0 k (h2 k).1.1
  have e79 := fun k => hs 79 0 k (h2 k).1.2
  have e81 : ∀ s, nsB w' 81 s = nsB w 81 s := fun s => nsB_sm hs (fun k => (h2 k).2)
  unfold QC at h ⊢
  simp only [e9, e10, e78, e79, e81]
  exact h
section MC
variable {r : Bool × Bool} {y : Bool} {w : mm_M} {np trap nv nc ne : Int} {c e : Int → Int → Int} {f : Int → Int}
theorem QC_old {Q : List (Int × Int)} {s : Int} (h : QC w trap Q) (hs : 0 ≤ s ∧ s < 2048) (hn : nsB w 81 s = true) : QC (nsA w 81 s) trap Q := by
  have e81 : ∀ k, 0 ≤ k → nsB (nsA w 81 s) 81 k = nsB w 81 k := fun k a => by
    rw [nsB_A hs.1 a]
    by_cases hk : k = s
    · rw [hk, hn]; rfl
    · rw [decide_eq_false hk, Bool.or_false]
  have g : ∀ g j k, Nat.beq g 81 = false → nsA w 81 s g j k = w g j k := fun g j k z => up_g z
  obtain ⟨h1, h2, h3, h4, h5⟩ := h
  refine ⟨(g 77 0 9 rfl).trans h1, fun k a b => ?_, fun u a b => ?_, ?_, ?_⟩
  · rw [g 78 0 k rfl, g 79 0 k rfl]; exact h2 k a b
  · rw [e81 u a]; exact h3 u a b
  · rw [h4]
    exact congrArg _ (cnt_c (fun i a b => (e81 i a).symm))
  · rw [g 77 0 10 rfl]; exact h5
theorem QC_new {Q : List (Int × Int)} {p cb fr : Int} (h : QC w trap Q) (hp : 0 ≤ p ∧ p < 8) (hc : 0 ≤ cb ∧ cb < 256) (hn : nsB w 81 (p * 256 + cb) = false) : QC (adW (nsA w 81 (p * 256 + cb)) trap p cb fr) trap (add1 Q (p * 256 + cb) fr) := by
  have hs : 0 ≤ p * 256 + cb ∧ p * 256 + cb < 2048 := by omega
  have hps : (p * 256 + cb) / 256 = p := by omega
  have n81 := fun k (a : 0 ≤ k) => nsB_A (w := w) (G := 81) (i := p * 256 + cb) (j := k) hs.1 a
  have g : ∀ g j k, Nat.beq g 81 = false → nsA w 81 (p * 256 + cb) g j k = w g j k := fun g j k z => up_g z
  obtain ⟨h1, h2, h3, h4, h5⟩ := h
  have hi : ¬ inQ Q (p * 256 + cb) = true := fun q => by
    rw [(h3 _ hs.1 hs.2).mpr q] at hn
    cases hn
  unfold add1
  rw [if_neg hi]
  have g9 := g 77 0 9 rfl
  have g10 := g 77 0 10 rfl
  have g78 := fun k => g 78 0 k rfl
  have g79 := fun k => g 79 0 k rfl
  generalize hs' : p * 256 + cb = s at *
  generalize nsA w 81 s = w1 at *
  have hlen : ((Q ++ [(s, fr)]).length : Int) = Q.length + 1 := by simp
  have hin : ∀ u, inQ (Q ++ [(s, fr)]) u = (inQ Q u || decide (s = u)) := fun u => by unfold inQ; rw [List.any_append]; simp
  have a9 : adW w1 trap p cb fr 77 0 9 = w1 77 0 9 + 1 := by unfold adW; rw [up_s]
  have a10 : adW w1 trap p cb fr 77 0 10 = if p = trap ∧ w1 77 0 10 = -4 then w1 77 0 9 else w1 77 0 10 := by
    unfold adW
    rw [up_k (by decide), up_g rfl, up_g rfl]
    by_cases z : p = trap ∧ w1 77 0 10 = -4
    · rw [if_pos z, if_pos z, up_s]
    · rw [if_neg z, if_neg z]
  have a78 : ∀ k, adW w1 trap p cb fr 78 0 k = if k = w1 77 0 9 then s else w1 78 0 k := fun k => by
    unfold adW
    rw [up_g rfl, up_g rfl, up_at, hs']
    by_cases z : p = trap ∧ w1 77 0 10 = -4
    · rw [if_pos z, up_g rfl]
    · rw [if_neg z]
  have a79 : ∀ k, adW w1 trap p cb fr 79 0 k = if k = w1 77 0 9 then fr else w1 79 0 k := fun k => by
    unfold adW
    rw [up_g rfl, up_at, up_g rfl]
    by_cases z : p = trap ∧ w1 77 0 10 = -4
    · rw [if_pos z, up_g rfl]
    · rw [if_neg z]
  have a81 : ∀ k, nsB (adW w1 trap p cb fr) 81 k = nsB w1 81 k := fun k => by
    have : ∀ k, adW w1 trap p cb fr 81 0 k = w1 81 0 k := fun k => by
      unfold adW
      rw [up_g rfl, up_g rfl, up_g rfl]
      by_cases z : p = trap ∧ w1 77 0 10 = -4
      · rw [if_pos z, up_g rfl]
      · rw [if_neg z]
    unfold nsB
    rw [this]
  generalize adW w1 trap p cb fr = w2 at *
  rw [g9, h1] at a9
  rw [g9, g10, h1] at a10
  simp only [g9, h1, g78] at a78
  simp only [g9, h1, g79] at a79
  refine ⟨by rw [a9, hlen], fun k a b => ?_, fun u a b => ?_, ?_, ?_⟩
  · rw [a78, a79]
    by_cases hk : k = Q.length
    · have e1 : stQ (Q ++ [(s, fr)]) k = s := by unfold stQ; rw [hk]; simp
      have e2 : frQ (Q ++ [(s, fr)]) k = fr := by unfold frQ; rw [hk]; simp
      rw [e1, e2, if_pos hk, if_pos hk]
      exact ⟨rfl, rfl, hs⟩
    · have hk2 : k < Q.length := by omega
      rw [stQ_app a hk2, frQ_app a hk2, if_neg hk, if_neg hk]
      exact h2 k a hk2
  · rw [a81, n81 u a, hin, Bool.or_eq_true, Bool.or_eq_true, h3 u a b, decide_eq_true_eq, decide_eq_true_eq]
    exact or_congr Iff.rfl eq_comm
  · have := cnt_s (p := fun k => if 0 ≤ k then nsB w 81 k else false) (p' := fun k => if 0 ≤ k then nsB w2 81 k else false) (n := 2048) hs.1 (by omega) (by show (if _ then _ else _) = _; rw [if_pos hs.1, hn]) (by show (if _ then _ else _) = _; rw [if_pos hs.1, a81, n81 s hs.1, decide_eq_true rfl, Bool.or_true]) (fun j hj => by
      show (if _ then _ else _) = (if _ then _ else _)
      by_cases z : 0 ≤ j
      · rw [if_pos z, if_pos z, a81, n81 j z, decide_eq_false hj, Bool.or_false]
      · rw [if_neg z, if_neg z])
    rw [hlen, h4]
    have c1 : cnt (fun k => if 0 ≤ k then nsB w 81 k else false) 2048 = cnt (fun s => nsB w 81 s) 2048 := cnt_c (fun i a b => if_pos a)
    have c2 : cnt (fun k => if 0 ≤ k then nsB w2 81 k else false) 2048 = cnt (fun s => nsB w2 81 s) 2048 := cnt_c (fun i a b => if_pos a)
    rw [c1, c2] at this
    omega
  · have eL : stQ (Q ++ [(s, fr)]) Q.length = s := by unfold stQ; simp
    rcases h5 with ⟨p1, p2⟩ | ⟨p1, p2⟩
    · by_cases hz : p = trap
      · rw [if_pos ⟨hz, p1⟩] at a10
        refine Or.inr ⟨by omega, ⟨by omega, fun j a b => ?_, fun z => ?_⟩⟩
        · rw [stQ_app a (by omega)]
          exact p2 j a (by omega)
        · rw [a10, eL, hps, hz]
      · rw [if_neg (fun q => hz q.1)] at a10
        refine Or.inl ⟨a10.trans p1, fun j a b => ?_⟩
        by_cases hj : j = Q.length
        · rw [hj, eL, hps]
          exact hz
        · rw [stQ_app a (by omega)]
          exact p2 j a (by omega)
    · rw [if_neg (fun q => by omega)] at a10
      rw [← a10] at p1 p2
      obtain ⟨t1, t2, t3⟩ := p2
      refine Or.inr ⟨by omega, ⟨by omega, fun j a b => ?_, fun z => ?_⟩⟩
      · rw [stQ_app a (by omega)]
        exact t2 j a b
      · rw [stQ_app t1.1 p1.2]
        exact t3 p1.2
theorem adW_sm {p cb fr : Int} : sm adL w (adW w trap p cb fr) := by
  unfold adW
  refine sm_up (sm_up (sm_up ?_ (Or.inl (by decide))) (Or.inl (by decide))) (Or.inr (by decide))
  split
  · exact sm_up sm_rf (Or.inr (by decide))
  · exact sm_rf
set_option maxRecDepth 100000 in
theorem ev_c_addAll {p fr : Int} {Q : List (Int × Int)} {S : Int → Bool} (hp : 0 ≤ p ∧ p < 8) (hL : 0 ≤ w 42 0 p ∧ w 42 0 p < 256) (hT : w 32 0 1 = trap) (hS : ∀ u, 0 ≤ u → u < 256 → (nsB w 85 u = true ↔ S u = true)) (hsub : ∀ u, 0 ≤ u → u < 256 → S u = true → mm_and u (w 42 0 p) = u) (hQ : QC w trap Q) : mm_Ev K_X2_addAll (0, 0) [.inr (some (77, 0)), .inl p, .inl fr] (PH r y) w (fun a b' w' => a = none ∧ b' = PH r y ∧ sm adL w w' ∧ QC w' trap (addC Q (256 * p) S fr 256)) := by
  refine ev_intro ok_X2_addAll mo_X2_addAll (Nat.le_of_ble_eq_true rfl) (fun hrg has => ?_)
  generalize hLL : w 42 0 p = L at *
  have hpop := pop8_in L 8
  have hN : ((cnt (sbB L.toNat) 256 : Nat) : Int) = ((2 ^ (pop8 L 8).toNat : Nat) : Int) := by
    have := sbN ⟨L.toNat, by omega⟩
    dsimp only at this
    rw [show ((L.toNat : Nat) : Int) = L by omega] at this
    exact this
  have hsh : mm_shl 1 (pop8 L 8) = ((cnt (sbB L.toNat) 256 : Nat) : Int) := by rw [hN]; exact shl1 (by omega)
  have hsb : ∀ u, 0 ≤ u → u < 256 → sbB L.toNat u = false → S u = false := fun u a b z => by
    cases hz : S u with
    | false => rfl
    | true =>
      rw [(sb_iff hL ⟨a, b⟩).mpr (hsub u a b hz)] at z
      cases z
  refine k_gp rfl rfl (by simp only [true_and, mm_fits]; omega) ?_
  rw [hLL]
  refine mm_loop (σ := mm_M × Int) ((cnt (sbB L.toNat) 256 : Nat) : Int) (fun i s => (0 ≤ i ∧ i ≤ ((cnt (sbB L.toNat) 256 : Nat) : Int)) ∧ sm adL w s.1 ∧ (i < ((cnt (sbB L.toNat) 256 : Nat) : Int) → sbB L.toNat s.2 = true ∧ (0 ≤ s.2 ∧ s.2 ≤ L) ∧ i = ((cnt (sbB L.toNat) s.2.toNat : Nat) : Int) ∧ QC s.1 trap (addC Q (256 * p) S fr s.2.toNat)) ∧ (i = ((cnt (sbB L.toNat) 256 : Nat) : Int) → QC s.1 trap (addC Q (256 * p) S fr 256))) (fun i s => mm_Wk K_X2_addAll (0, 0) 13 [some (.inr (some (77, 0))), some (.inl p), some (.inl fr), some (.inl L), some (.inl s.2), some (.inl i)] [] (PH r y) s.1 (fun a b' w' => a = none ∧ b' = PH r y ∧ sm adL w w' ∧ QC w' trap (addC Q (256 * p) S fr 256))) ?_ ?_ 0 (w, 0) ⟨by omega, sm_rf, fun z => ⟨?_, ⟨by dsimp only; omega, by dsimp only; omega⟩, rfl, hQ⟩, fun z => ?_⟩
  · rintro i ⟨w2, u⟩ q1 ⟨q2, s2, q3, -⟩ ih
    dsimp only at s2 q3 ih ⊢
    obtain ⟨hu, hui, hi, hQ2⟩ := q3 q1
    have e85 : nsB w2 85 u = nsB w 85 u := nsB_sm s2 (fun _ => rfl)
    have hT2 : w2 32 0 1 = trap := (s2 32 0 1 rfl).trans hT
    have hnx := nx_f hL (u := u) (by omega) hu
    have eu : ((u.toNat : Nat) : Int) = u := by omega
    have hc1 : cnt (sbB L.toNat) (u.toNat + 1) = cnt (sbB L.toNat) u.toNat + 1 := by
      show cnt (sbB L.toNat) u.toNat + (if sbB L.toNat ((u.toNat : Nat) : Int) = true then 1 else 0) = _
      rw [eu, if_pos hu]
    -- the end of a round
    have J62 : ∀ w3, sm adL w w3 → QC w3 trap (addC Q (256 * p) S fr (u.toNat + 1)) → mm_Wk K_X2_addAll (0, 0) 62 [some (.inr (some (77, 0))), some (.inl p), some (.inl fr), some (.inl L), some (.inl u), some (.inl i)] [] (PH r y) w3 (fun a b' w' => a = none ∧ b' = PH r y ∧ sm adL w w' ∧ QC w' trap (addC Q (256 * p) S fr 256)) := fun w3 s3 h3 => by
      have hle : cnt (sbB L.toNat) 256 ≤ 256 := cnt_le _ _
      refine k_gp rfl rfl (by simp only [true_and, mm_fits]; omega) ?_
      refine ih (w3, mm_and (u - L) L) ⟨by omega, s3, fun z => ?_, fun z => ?_⟩
      · have hne : u ≠ L := fun q => by
          have : cnt (sbB L.toNat) ((u.toNat + 1) + (255 - u.toNat)) = cnt (sbB L.toNat) (u.toNat + 1) := cnt_skip _ (fun k a b => by
            cases hb : sbB L.toNat k with
            | false => rfl
            | true => have := sb_le hb; omega)
          rw [show (u.toNat + 1) + (255 - u.toNat) = 256 by omega] at this
          omega
        obtain ⟨t1, t2, t3⟩ := hnx.2 hne
        dsimp only
        refine ⟨t2, by omega, ?_, ?_⟩
        · have : cnt (sbB L.toNat) ((u.toNat + 1) + ((mm_and (u - L) L).toNat - (u.toNat + 1))) = cnt (sbB L.toNat) (u.toNat + 1) := cnt_skip _ (fun k a b => t3 k (by omega) (by omega))
          rw [show (u.toNat + 1) + ((mm_and (u - L) L).toNat - (u.toNat + 1)) = (mm_and (u - L) L).toNat by omega] at this
          omega
        · have : addC Q (256 * p) S fr ((u.toNat + 1) + ((mm_and (u - L) L).toNat - (u.toNat + 1))) = addC Q (256 * p) S fr (u.toNat + 1) := addC_skip _ (fun k a b => hsb k (by omega) (by omega) (t3 k (by omega) (by omega)))
          rw [show (u.toNat + 1) + ((mm_and (u - L) L).toNat - (u.toNat + 1)) = (mm_and (u - L) L).toNat by omega] at this
          rw [this]
          exact h3
      · have hq : u = L := Classical.byContradiction fun hne => by
          obtain ⟨t1, t2, t3⟩ := hnx.2 hne
          have := cnt_at (p := sbB L.toNat) (a := u) (b := mm_and (u - L) L) (by omega) (by omega) hu
          have := cnt_at (p := sbB L.toNat) (a := mm_and (u - L) L) (b := 256) (by omega) (by omega) t2
          rw [show ((256 : Int).toNat) = 256 from rfl] at this
          omega
        have : addC Q (256 * p) S fr ((u.toNat + 1) + (255 - u.toNat)) = addC Q (256 * p) S fr (u.toNat + 1) := addC_skip _ (fun k a b => hsb k (by omega) (by omega) (by
          cases hb : sbB L.toNat k with
          | false => rfl
          | true => have := sb_le hb; omega))
        rw [show (u.toNat + 1) + (255 - u.toNat) = 256 by omega] at this
        dsimp only
        rw [this]
        exact h3
    have hst : addC Q (256 * p) S fr (u.toNat + 1) = if S u = true then add1 (addC Q (256 * p) S fr u.toNat) (256 * p + u) fr else addC Q (256 * p) S fr u.toNat := by
      show (if S ((u.toNat : Nat) : Int) = true then add1 (addC Q (256 * p) S fr u.toNat) (256 * p + ((u.toNat : Nat) : Int)) fr else addC Q (256 * p) S fr u.toNat) = _
      rw [eu]
    refine k_gp rfl rfl trivial ?_
    refine k_callp rfl (ev_bitCount hL) rfl rfl rfl (by decide) ?_
    refine k_gp rfl rfl trivial ?_
    rw [hsh]
    refine k_brf rfl (by omega) ?_
    refine k_gp rfl rfl trivial ?_
    refine k_callp rfl (ev_has (g := 84) (N := 8) (by unfold NSL; decide) (by omega)) rfl rfl rfl (by decide) ?_
    rw [e85]
    refine k_brz rfl (fun q => ?_) (fun q => ?_)
    · rw [hS u (by omega) (by omega)] at q
      rw [if_neg q] at hst
      exact J62 w2 s2 (by rw [hst]; exact hQ2)
    · rw [hS u (by omega) (by omega)] at q
      rw [if_pos q, show 256 * p + u = p * 256 + u by omega] at hst
      refine k_gp rfl rfl (by simp only [true_and, mm_fits]; omega) ?_
      refine k_callp rfl (ev_add (g := 80) (N := 64) (by unfold NSL; decide) (by omega)) rfl rfl rfl (by decide) ?_
      have s3 : sm adL w (nsA w2 81 (p * 256 + u)) := sm_up s2 (Or.inl (by decide))
      refine k_brz rfl (fun q2 => ?_) (fun q2 => ?_)
      · have q2 : nsB w2 81 (p * 256 + u) = true := by
          cases hz : nsB w2 81 (p * 256 + u) with
          | true => rfl
          | false => exact absurd hz q2
        refine J62 _ s3 ?_
        have hin := (hQ2.2.2.1 _ (by omega) (by omega)).mp q2
        unfold add1 at hst
        rw [if_pos hin] at hst
        rw [hst]
        exact QC_old hQ2 (by omega) q2
      · have hlt := QC_lt hQ2 (by omega) q2
        have h9 := hQ2.1
        have g9 : nsA w2 81 (p * 256 + u) 77 0 9 = w2 77 0 9 := up_g rfl
        have g32 : nsA w2 81 (p * 256 + u) 32 0 1 = trap := (up_g rfl).trans hT2
        refine k_gp rfl rfl trivial ?_
        have ev := ev_c_madd (r := r) (y := y) (w := nsA w2 81 (p * 256 + u)) (p := p) (cb := u) (fr := fr) hp (by omega) (by rw [g9]; omega)
        rw [g32] at ev
        refine k_callp rfl ev rfl rfl rfl (by decide) ?_
        refine J62 _ (sm_tr s3 adW_sm) ?_
        rw [hst]
        exact QC_new hQ2 hp (by omega) q2
  · rintro i ⟨w2, u⟩ q1 ⟨q2, s2, -, q3⟩
    dsimp only at s2 q3 ⊢
    refine k_gp rfl rfl trivial ?_
    refine k_callp rfl (ev_bitCount hL) rfl rfl rfl (by decide) ?_
    refine k_gp rfl rfl trivial ?_
    rw [hsh]
    refine k_brt rfl (by omega) ?_
    exact k_ret rfl trivial ⟨rfl, rfl, s2, q3 (by omega)⟩
  · exact sb_0 _
  · have : 0 < cnt (sbB L.toNat) 256 := by
      have := cnt_at (p := sbB L.toNat) (a := 0) (b := 256) (by omega) (by omega) (sb_0 _)
      rw [show ((256 : Int).toNat) = 256 from rfl] at this
      omega
    omega
end MC
