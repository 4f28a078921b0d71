/-! ===== the reference: mend(), check(), count() ===== -/
/-- the set that makes an end, of fewest, the least; -4: none -/
def SF (nc : Int) (E : Int → Prop) (z : Int) : Prop := (z = -4 ∧ ∀ s, 1 ≤ s → s < ((2 ^ nc.toNat : Nat) : Int) → (pop8 s 8 = 1 ∨ pop8 s 8 = 2) → ¬ E s) ∨ ((1 ≤ z ∧ z < ((2 ^ nc.toNat : Nat) : Int)) ∧ (pop8 z 8 = 1 ∨ pop8 z 8 = 2) ∧ E z ∧ ∀ s, 1 ≤ s → s < ((2 ^ nc.toNat : Nat) : Int) → (pop8 s 8 = 1 ∨ pop8 s 8 = 2) → E s → pop8 z 8 ≤ pop8 s 8 ∧ (pop8 s 8 = pop8 z 8 → z ≤ s))
theorem SF_u {nc : Int} {E : Int → Prop} {z z' : Int} (h : SF nc E z) (h' : SF nc E z') : z = z' := by
  rcases h with ⟨h1, h2⟩ | ⟨h1, h2, h3, h4⟩
  · rcases h' with ⟨g1, g2⟩ | ⟨g1, g2, g3, g4⟩
    · omega
    · exact absurd g3 (h2 z' g1.1 g1.2 g2)
  · rcases h' with ⟨g1, g2⟩ | ⟨g1, g2, g3, g4⟩
    · exact absurd h3 (g2 z h1.1 h1.2 h2)
    · have a := h4 z' g1.1 g1.2 g2 g3
      have b := g4 z h1.1 h1.2 h2 h3
      have a2 := a.2
      have b2 := b.2
      omega
/-- places that a row comes by -/
def onP (e : Int → Int → Int) (ρ : List Int) (p : Int) : Bool := decide (p = 0) || ρ.any fun x => decide (e x 1 = p)
/-- more looked at there -/
def lkU (e : Int → Int → Int) (lk : Int → Int) (ρ : List Int) (set : Int) : Int → Int := fun p => if onP e ρ p = true then mm_or (lk p) set else lk p
/-- 0 it is safe, 1 the path is real, 2 neither -/
def HOW (c e : Int → Int → Int) (f : Int → Int) (nv trap : Int) (Q : List (Int × Int)) (z : Int) : Prop := ∃ k, FT Q trap k ∧ (¬ k < Q.length → z = 0) ∧ (k < Q.length → ∃ F, FAR c e f nv (PT Q k) F ∧ (F = (PT Q k).length → z = 1) ∧ (F ≠ (PT Q k).length → z = 2))
theorem HOW_u {c e : Int → Int → Int} {f : Int → Int} {nv trap z z' : Int} {Q : List (Int × Int)} (h : HOW c e f nv trap Q z) (h' : HOW c e f nv trap Q z') : z = z' := by
  obtain ⟨k, k1, k2, k3⟩ := h
  obtain ⟨k', l1, l2, l3⟩ := h'
  have := FT_u k1 l1
  subst this
  by_cases hk : k < Q.length
  · obtain ⟨F, f1, f2, f3⟩ := k3 hk
    obtain ⟨G, g1, g2, g3⟩ := l3 hk
    have := FAR_u f1 g1
    subst this
    by_cases hF : F = (PT Q k).length
    · rw [f2 hF, g2 hF]
    · rw [f3 hF, g3 hF]
  · rw [k2 hk, l2 hk]
abbrev schL : List (Nat × Option Int) := ptL
section ME
variable {r : Bool × Bool} {y : Bool} {w : mm_M}
theorem ev_m_setFor {ρ : List Int} (h : mP w) (hp : PM w ρ) (hρ : ∀ x ∈ ρ, 0 ≤ x ∧ x < w 1 0 8) : mm_Ev K_X10_setFor (0, 0) [.inr (some (1, 0))] (PH r y) w (fun a b' w' => b' = PH r y ∧ sm endL w w' ∧ ∃ z, a = some (.inl z) ∧ SF (w 1 0 6) (fun s => EN (m_c w) (m_e w) (w 3 0) (fun p => mm_or (w 6 0 p) s) (w 1 0 4) (w 1 0 6) ρ) z) := by
  refine ev_intro ok_X10_setFor mo_X10_setFor (Nat.le_of_ble_eq_true rfl) (fun hrg has => ?_)
  have hnc := h.2.2.2.1
  generalize hE : (fun s => EN (m_c w) (m_e w) (w 3 0) (fun p => mm_or (w 6 0 p) s) (w 1 0 4) (w 1 0 6) ρ) = E
  have hEs : ∀ s, EN (m_c w) (m_e w) (w 3 0) (fun p => mm_or (w 6 0 p) s) (w 1 0 4) (w 1 0 6) ρ ↔ E s := fun s => by rw [← hE]
  have h256 : 2 ^ (w 1 0 6).toNat ≤ 2 ^ 8 := Nat.pow_le_pow_right (by decide) (by omega)
  generalize hN : ((2 ^ (w 1 0 6).toNat : Nat) : Int) = N
  have hNle : 1 ≤ N ∧ N ≤ 256 := by
    have : 0 < 2 ^ (w 1 0 6).toNat := Nat.two_pow_pos _
    omega
  refine k_gp rfl rfl trivial ?_
  refine mm_loop (σ := mm_M) 3 (fun sz w1 => (1 ≤ sz ∧ sz ≤ 3) ∧ sm endL w w1 ∧ ∀ s, 1 ≤ s → s < N → pop8 s 8 < sz → 1 ≤ pop8 s 8 → ¬ E s) (fun sz w1 => ∀ l2, mm_Wk K_X10_setFor (0, 0) 2 [some (.inr (some (1, 0))), some (.inl sz), l2] [] (PH r y) w1 (fun a b' w' => b' = PH r y ∧ sm endL w w' ∧ ∃ z, a = some (.inl z) ∧ SF (w 1 0 6) E z)) ?_ ?_ 1 w ⟨by omega, sm_rf, fun s a b c d => by omega⟩ _
  · intro sz w1 h1 h2 ih l2
    obtain ⟨h2, s1, h3⟩ := h2
    refine k_gp rfl rfl trivial ?_
    refine k_brf rfl (by omega) ?_
    refine k_gp rfl rfl trivial ?_
    refine mm_loop (σ := mm_M) N (fun st w2 => (1 ≤ st ∧ st ≤ N) ∧ sm endL w w2 ∧ ∀ s, 1 ≤ s → s < st → pop8 s 8 = sz → ¬ E s) (fun st w2 => mm_Wk K_X10_setFor (0, 0) 9 [some (.inr (some (1, 0))), some (.inl sz), some (.inl st)] [] (PH r y) w2 (fun a b' w' => b' = PH r y ∧ sm endL w w' ∧ ∃ z, a = some (.inl z) ∧ SF (w 1 0 6) E z)) ?_ ?_ 1 w1 ⟨by omega, s1, fun s a b => by omega⟩
    · intro st w2 q1 q2 ih2
      obtain ⟨q2, s2, q3⟩ := q2
      have e6 : w2 1 0 6 = w 1 0 6 := s2 1 0 6 rfl
      have nxt : (pop8 st 8 = sz → ¬ E st) → ∀ w3, sm endL w w3 → mm_Wk K_X10_setFor (0, 0) 37 [some (.inr (some (1, 0))), some (.inl sz), some (.inl st)] [] (PH r y) w3 (fun a b' w' => b' = PH r y ∧ sm endL w w' ∧ ∃ z, a = some (.inl z) ∧ SF (w 1 0 6) E z) := fun hc w3 s3 => by
        refine k_gp rfl rfl (by simp only [true_and, mm_fits]; omega) ?_
        refine ih2 w3 ⟨by omega, s3, fun s a b c => ?_⟩
        by_cases hs : s = st
        · subst hs; exact hc c
        · exact q3 s a (by omega) c
      refine k_gp rfl rfl trivial ?_
      rw [e6, shl1 (g := w 1 0 6) (by omega), hN]
      refine k_brf rfl (by omega) ?_
      refine k_gp rfl rfl trivial ?_
      refine k_callp rfl (ev_m_bits (by omega)) rfl rfl rfl (by decide) ?_
      refine k_gp rfl rfl trivial ?_
      refine k_br rfl (fun g1 => nxt (fun q => absurd q g1) w2 s2) (fun g1 => ?_)
      have g1 : pop8 st 8 = sz := Classical.byContradiction g1
      obtain ⟨hP2, ec, ee⟩ := mP_sm s2 rfl (fun _ => rfl) (fun _ => rfl) (fun _ => rfl) h
      have hp2 := PM_sm s2 rfl (fun _ => rfl) hp
      refine k_gp rfl rfl trivial ?_
      refine k_call0 rfl (ev_m_isEnded (more := st) hP2 hp2 (by rw [show w2 1 0 8 = w 1 0 8 from s2 1 0 8 rfl]; exact hρ) (by omega)) rfl rfl rfl (by decide) ?_
      rintro a b' w3 ⟨rfl, s3, z, rfl, hz⟩
      rw [ec, ee, show w2 3 0 = w 3 0 from funext fun k => s2 3 0 k rfl, show w2 6 0 = w 6 0 from funext fun k => s2 6 0 k rfl, show w2 1 0 4 = w 1 0 4 from s2 1 0 4 rfl, e6, hEs] at hz
      have s03 := sm_tr s2 s3
      refine k_brz rfl (fun g2 => nxt (fun _ q => g2 (hz.mpr q)) w3 s03) (fun g2 => ?_)
      refine k_gp rfl rfl trivial ?_
      refine k_ret rfl trivial ⟨rfl, s03, st, rfl, Or.inr ⟨by rw [hN]; omega, by omega, hz.mp g2, fun s a b c d => ?_⟩⟩
      rw [hN] at b
      have hlt : ¬ pop8 s 8 < sz := fun q => h3 s a b q (by omega) d
      refine ⟨by omega, fun q => ?_⟩
      rcases Int.lt_or_le s st with z | z
      · exact absurd d (q3 s a z (by omega))
      · exact z
    · intro st w2 q1 q2
      obtain ⟨q2, s2, q3⟩ := q2
      have e6 : w2 1 0 6 = w 1 0 6 := s2 1 0 6 rfl
      refine k_gp rfl rfl trivial ?_
      rw [e6, shl1 (g := w 1 0 6) (by omega), hN]
      refine k_brt rfl (by omega) ?_
      refine k_gp rfl rfl (by simp only [true_and, mm_fits]; omega) ?_
      refine ih w2 ⟨by omega, s2, fun s a b c d => ?_⟩ _
      by_cases hs : pop8 s 8 = sz
      · exact q3 s a (by omega) hs
      · exact h3 s a b (by omega) d
  · intro sz w1 h1 h2 l2
    obtain ⟨h2, s1, h3⟩ := h2
    refine k_gp rfl rfl trivial ?_
    refine k_brt rfl (by omega) ?_
    refine k_gp rfl rfl trivial ?_
    exact k_ret rfl trivial ⟨rfl, s1, -4, rfl, Or.inl ⟨rfl, fun s a b c => by rw [hN] at b; exact h3 s a b (by omega) (by omega)⟩⟩
theorem ev_m_looksMore {ρ : List Int} {set : Int} (h : mP w) (hp : PM w ρ) (hρ : ∀ x ∈ ρ, 0 ≤ x ∧ x < w 1 0 8) : mm_Ev K_X10_looksMore (0, 0) [.inr (some (1, 0)), .inl set] (PH r y) w (fun a b' w' => a = none ∧ b' = PH r y ∧ sm [(6, none)] w w' ∧ w' 6 0 = lkU (m_e w) (w 6 0) ρ set) := by
  refine ev_intro ok_X10_looksMore mo_X10_looksMore (Nat.le_of_ble_eq_true rfl) (fun hrg has => ?_)
  have hnp := h.1
  have hne := h.2.2.2.2.1
  have hE := h.2.2.2.2.2.2.1
  obtain ⟨hp1, hp2, hp3⟩ := hp
  have oo : ∀ a : Int, mm_or (mm_or a set) set = mm_or a set := fun a => by
    unfold mm_or
    rw [mm_i3, Int32.or_assoc, Int32.or_self]
  refine k_gp rfl rfl (by simp only [true_and, mm_fits]; omega) ?_
  refine mm_loop (σ := mm_M) (ρ.length) (fun k w1 => (0 ≤ k ∧ k ≤ ρ.length) ∧ sm [(6, none)] w w1 ∧ ∀ p, w1 6 0 p = if (decide (p = 0) || (ρ.take k.toNat).any fun x => decide (m_e w x 1 = p)) = true then mm_or (w 6 0 p) set else w 6 0 p) (fun k w1 => mm_Wk K_X10_looksMore (0, 0) 12 [some (.inr (some (1, 0))), some (.inl set), some (.inl k)] [] (PH r y) w1 (fun a b' w' => a = none ∧ b' = PH r y ∧ sm [(6, none)] w w' ∧ w' 6 0 = lkU (m_e w) (w 6 0) ρ set)) ?_ ?_ 0 _ ⟨by omega, sm_up sm_rf (Or.inl (by decide)), fun p => ?_⟩
  · intro k w1 h1 h2 ih
    obtain ⟨h2, s1, h3⟩ := h2
    have hlt : k.toNat < ρ.length := by omega
    have hx : ρ.getD k.toNat 0 ∈ ρ := by
      rw [List.getD_eq_getElem?_getD, List.getElem?_eq_getElem hlt]
      exact List.getElem_mem _
    have hxr := hρ _ hx
    have hEx := hE _ hxr.1 hxr.2
    have htk : ρ.take (k + 1).toNat = ρ.take k.toNat ++ [ρ.getD k.toNat 0] := by
      rw [show (k + 1).toNat = k.toNat + 1 by omega, List.take_add_one, List.getD_eq_getElem?_getD, List.getElem?_eq_getElem hlt]
      rfl
    have hxx : w1 19 0 k = ρ.getD k.toNat 0 := by
      rw [show w1 19 0 k = w 19 0 k from s1 19 0 k rfl]
      exact hp3 k (by omega) (by omega)
    generalize ρ.getD k.toNat 0 = x at hx hxr hEx htk hxx
    have he1 : w1 5 0 (7 * x + 1) = m_e w x 1 := by
      rw [show w1 5 0 (7 * x + 1) = w 5 0 (7 * x + 1) from s1 5 0 _ rfl]; rfl
    have hb := hEx.2.1
    refine k_gp rfl rfl trivial ?_
    rw [show w1 1 0 32 = w 1 0 32 from s1 1 0 32 rfl, hp1]
    refine k_brf rfl (by omega) ?_
    refine k_gp rfl rfl (by simp only [true_and, mm_fits, hxx, he1]; omega) ?_
    rw [hxx, he1]
    refine ih _ ⟨by omega, sm_up s1 (Or.inl (by decide)), fun p => ?_⟩
    rw [up_at, htk, List.any_append, h3 p]
    by_cases hpx : p = m_e w x 1
    · subst hpx
      rw [if_pos rfl, h3]
      simp only [List.any_cons, decide_true, Bool.true_or, Bool.or_true, if_true]
      split
      · exact oo _
      · rfl
    · rw [if_neg hpx]
      simp only [List.any_cons, List.any_nil, Bool.or_false, decide_eq_false (fun q => hpx (Eq.symm q) : ¬ m_e w x 1 = p)]
  · intro k w1 h1 h2
    obtain ⟨h2, s1, h3⟩ := h2
    refine k_gp rfl rfl trivial ?_
    rw [show w1 1 0 32 = w 1 0 32 from s1 1 0 32 rfl, hp1]
    refine k_brt rfl (by omega) ?_
    refine k_ret rfl trivial ⟨rfl, rfl, s1, funext fun p => ?_⟩
    rw [h3 p, List.take_of_length_le (by omega)]
    rfl
  · rw [up_at]
    by_cases hp0 : p = 0
    · subst hp0; simp
    · simp [hp0]
theorem kep_sm {w : mm_M} : sm [(7, none), (1, some 12)] w (kepW w) := by
  unfold kepW
  refine sm_up (sm_arrw ?_ (by decide)) (Or.inr (by decide))
  unfold kepA
  split
  · exact sm_up (sm_arrw sm_rf (by decide)) (Or.inr (by decide))
  · exact sm_rf
set_option maxRecDepth 100000 in
theorem ev_m_how (h : mP w) : mm_Ev K_X10_how (0, 0) [.inr (some (1, 0))] (PH r y) w (fun a b' w' => b' = PH r y ∧ sm ptL w w' ∧ ∃ z, a = some (.inl z) ∧ HOW (m_c w) (m_e w) (w 3 0) (w 1 0 4) (w 1 0 3) (mQ w) z ∧ ∃ k, FT (mQ w) (w 1 0 3) k ∧ (z ≠ 0 → 0 ≤ k ∧ k < (mQ w).length ∧ PM w' (PT (mQ w) k)) ∧ (z = 0 ∨ z = 1 ∨ z = 2)) := by
  refine ev_intro ok_X10_how mo_X10_how (Nat.le_of_ble_eq_true rfl) (fun hrg has => ?_)
  have hne := h.2.2.2.2.1
  refine k_gp rfl rfl trivial ?_
  refine k_call0 rfl (ev_m_findsPath h) rfl rfl rfl (by decide) ?_
  rintro a b' w1 ⟨rfl, hs, k, hFT, rfl, hPM⟩
  have hW : QW (m_e w) (w 1 0 8) (mQ w) := QW_MQ hne
  have hs1 : sm ptL w w1 := sm_w hs (by decide)
  have hFT1 := hFT.1
  refine k_brn rfl (fun g2 => ?_) (fun g2 => ?_)
  · have hPM := hPM g2
    obtain ⟨p1, p2, p3⟩ := PT_ok hW (k.toNat + 1) k hFT1.1 g2 (by omega)
    obtain ⟨hP1, ec, ee⟩ := mP_sm hs1 rfl (fun _ => rfl) (fun _ => rfl) (fun _ => rfl) h
    have e8 : w1 1 0 8 = w 1 0 8 := hs1 1 0 8 rfl
    have e4 : w1 1 0 4 = w 1 0 4 := hs1 1 0 4 rfl
    have e3 : w1 3 0 = w 3 0 := funext fun k => hs1 3 0 k rfl
    refine k_gp rfl rfl trivial ?_
    refine k_call0 rfl (ev_m_farOfPath hP1 hPM (by rw [e8]; exact p2)) rfl rfl rfl (by decide) ?_
    rintro a b' w2 ⟨rfl, hs2, z, rfl, hz⟩
    rw [ec, ee, e3, e4] at hz
    have hPM2 : PM w2 (PT (mQ w) k) := PM_sm hs2 rfl (fun _ => rfl) hPM
    have hs02 : sm ptL w w2 := sm_tr hs1 (sm_w hs2 (by decide))
    refine k_gp rfl rfl trivial ?_
    rw [hPM2.1]
    refine k_br rfl (fun g3 => ?_) (fun g3 => ?_)
    · refine k_gp rfl rfl trivial ?_
      exact k_ret rfl trivial ⟨rfl, hs02, 2, rfl, ⟨k, hFT, fun q => absurd g2 q, fun _ => ⟨z, hz, fun q => absurd q g3, fun _ => rfl⟩⟩, k, hFT, fun _ => ⟨hFT1.1, g2, hPM2⟩, by omega⟩
    · have g3 : z = (PT (mQ w) k).length := Classical.byContradiction g3
      refine k_gp rfl rfl trivial ?_
      exact k_ret rfl trivial ⟨rfl, hs02, 1, rfl, ⟨k, hFT, fun q => absurd g2 q, fun _ => ⟨z, hz, fun _ => rfl, fun q => absurd g3 q⟩⟩, k, hFT, fun _ => ⟨hFT1.1, g2, hPM2⟩, by omega⟩
  · refine k_gp rfl rfl trivial ?_
    exact k_ret rfl trivial ⟨rfl, hs1, 0, rfl, ⟨k, hFT, fun _ => rfl, fun q => absurd q g2⟩, k, hFT, fun q => absurd rfl q, by omega⟩
set_option maxRecDepth 100000 in
theorem ev_m_mend (h : mP w) (hc : 0 ≤ w 1 0 12 ∧ w 1 0 12 ≤ 6) : mm_Ev K_X10_mend (0, 0) [.inr (some (1, 0))] (PH r y) w (fun a b' w' => b' = PH r y ∧ ∃ z0 z, a = some (.inl z) ∧ HOW (m_c w) (m_e w) (w 3 0) (w 1 0 4) (w 1 0 3) (mQ w) z0 ∧ (z0 ≠ 2 → z = -2 ∧ sm schL w w') ∧ (z0 = 2 → ∃ k, FT (mQ w) (w 1 0 3) k ∧ SF (w 1 0 6) (fun s => EN (m_c w) (m_e w) (w 3 0) (fun p => mm_or (w 6 0 p) s) (w 1 0 4) (w 1 0 6) (PT (mQ w) k)) z ∧ (z < 0 → sm schL w w') ∧ (0 < z → ∃ w1, sm schL w w1 ∧ sm [(6, none)] (kepW w1) w' ∧ w' 6 0 = lkU (m_e w) (w 6 0) (PT (mQ w) k) z))) := by
  refine ev_intro ok_X10_mend mo_X10_mend (Nat.le_of_ble_eq_true rfl) (fun hrg has => ?_)
  have hne := h.2.2.2.2.1
  have J18 : ∀ l1 w', sm schL w w' → (∃ z0, HOW (m_c w) (m_e w) (w 3 0) (w 1 0 4) (w 1 0 3) (mQ w) z0 ∧ z0 ≠ 2) → mm_Wk K_X10_mend (0, 0) 18 [some (.inr (some (1, 0))), l1] [] (PH r y) w' (fun a b' w' => b' = PH r y ∧ ∃ z0 z, a = some (.inl z) ∧ HOW (m_c w) (m_e w) (w 3 0) (w 1 0 4) (w 1 0 3) (mQ w) z0 ∧ (z0 ≠ 2 → z = -2 ∧ sm schL w w') ∧ (z0 = 2 → ∃ k, FT (mQ w) (w 1 0 3) k ∧ SF (w 1 0 6) (fun s => EN (m_c w) (m_e w) (w 3 0) (fun p => mm_or (w 6 0 p) s) (w 1 0 4) (w 1 0 6) (PT (mQ w) k)) z ∧ (z < 0 → sm schL w w') ∧ (0 < z → ∃ w1, sm schL w w1 ∧ sm [(6, none)] (kepW w1) w' ∧ w' 6 0 = lkU (m_e w) (w 6 0) (PT (mQ w) k) z))) := fun l1 w' s1 ⟨z0, hz, hz2⟩ => by
    refine k_gp rfl rfl trivial ?_
    exact k_ret rfl trivial ⟨rfl, z0, -2, rfl, hz, fun _ => ⟨rfl, s1⟩, fun q => absurd q hz2⟩
  refine k_gp rfl rfl trivial ?_
  refine k_call0 rfl (ev_m_findsPath h) rfl rfl rfl (by decide) ?_
  rintro a b' w1 ⟨rfl, hs, k, hFT, rfl, hPM⟩
  have hW : QW (m_e w) (w 1 0 8) (mQ w) := QW_MQ hne
  have hs1 : sm ptL w w1 := sm_w hs (by decide)
  have hFT1 := hFT.1
  refine k_brz rfl (fun g2 => ?_) (fun g2 => ?_)
  · exact J18 _ _ hs1 ⟨0, ⟨k, hFT, fun _ => rfl, fun q => absurd q g2⟩, by decide⟩
  · have hPM := hPM g2
    obtain ⟨p1, p2, p3⟩ := PT_ok hW (k.toNat + 1) k hFT1.1 g2 (by omega)
    obtain ⟨hP1, ec, ee⟩ := mP_sm hs1 rfl (fun _ => rfl) (fun _ => rfl) (fun _ => rfl) h
    have e8 : w1 1 0 8 = w 1 0 8 := hs1 1 0 8 rfl
    have e4 : w1 1 0 4 = w 1 0 4 := hs1 1 0 4 rfl
    have e3 : w1 3 0 = w 3 0 := funext fun k => hs1 3 0 k rfl
    refine k_gp rfl rfl trivial ?_
    refine k_call0 rfl (ev_m_farOfPath hP1 hPM (by rw [e8]; exact p2)) rfl rfl rfl (by decide) ?_
    rintro a b' w2 ⟨rfl, hs2, z, rfl, hz⟩
    rw [ec, ee, e3, e4] at hz
    have hPM2 : PM w2 (PT (mQ w) k) := PM_sm hs2 rfl (fun _ => rfl) hPM
    have hs02 : sm ptL w w2 := sm_tr hs1 (sm_w hs2 (by decide))
    refine k_gp rfl rfl trivial ?_
    rw [hPM2.1]
    refine k_br rfl (fun g3 => ?_) (fun g3 => ?_)
    · obtain ⟨hP2, ec, ee⟩ := mP_sm hs02 rfl (fun _ => rfl) (fun _ => rfl) (fun _ => rfl) h
      refine k_gp rfl rfl trivial ?_
      refine k_call0 rfl (ev_m_setFor hP2 hPM2 (by rw [show w2 1 0 8 = w 1 0 8 from hs02 1 0 8 rfl]; exact p2)) rfl rfl rfl (by decide) ?_
      rintro a b' w3 ⟨rfl, hs3, u, rfl, hu⟩
      rw [ec, ee, show w2 3 0 = w 3 0 from funext fun k => hs02 3 0 k rfl, show w2 6 0 = w 6 0 from funext fun k => hs02 6 0 k rfl, show w2 1 0 4 = w 1 0 4 from hs02 1 0 4 rfl, show w2 1 0 6 = w 1 0 6 from hs02 1 0 6 rfl] at hu
      have hs03 : sm schL w w3 := sm_tr hs02 (sm_w hs3 (by decide))
      have hH : HOW (m_c w) (m_e w) (w 3 0) (w 1 0 4) (w 1 0 3) (mQ w) 2 := ⟨k, hFT, fun q => absurd g2 q, fun _ => ⟨z, hz, fun q => absurd q g3, fun _ => rfl⟩⟩
      refine k_gp rfl rfl trivial ?_
      refine k_br rfl (fun g4 => ?_) (fun g4 => ?_)
      · refine k_gp rfl rfl trivial ?_
        exact k_ret rfl trivial ⟨rfl, 2, u, rfl, hH, fun q => absurd rfl q, fun _ => ⟨k, hFT, hu, fun _ => hs03, fun q => by omega⟩⟩
      · have hc3 : w3 1 0 12 = w 1 0 12 := hs03 1 0 12 rfl
        obtain ⟨hP3, ec3, ee3⟩ := mP_sm hs03 rfl (fun _ => rfl) (fun _ => rfl) (fun _ => rfl) h
        have hPM3 : PM w3 (PT (mQ w) k) := PM_sm hs3 rfl (fun _ => rfl) hPM2
        refine k_gp rfl rfl trivial ?_
        refine k_callp rfl (ev_m_keeps (by omega)) rfl rfl rfl (by decide) ?_
        have sk := kep_sm (w := w3)
        obtain ⟨hP4, ec4, ee4⟩ := mP_sm sk rfl (fun _ => rfl) (fun _ => rfl) (fun _ => rfl) hP3
        have hPM4 : PM (kepW w3) (PT (mQ w) k) := PM_sm sk rfl (fun _ => rfl) hPM3
        refine k_gp rfl rfl trivial ?_
        refine k_call0 rfl (ev_m_looksMore (set := u) hP4 hPM4 (by rw [show kepW w3 1 0 8 = w3 1 0 8 from sk 1 0 8 rfl, show w3 1 0 8 = w 1 0 8 from hs03 1 0 8 rfl]; exact p2)) rfl rfl rfl (by decide) ?_
        rintro a b' w5 ⟨rfl, rfl, hs5, hu5⟩
        rw [ee4, ee3, show kepW w3 6 0 = w 6 0 from funext fun k => (sk 6 0 k rfl).trans (hs03 6 0 k rfl)] at hu5
        refine k_gp rfl rfl trivial ?_
        exact k_ret rfl trivial ⟨rfl, 2, u, rfl, hH, fun q => absurd rfl q, fun _ => ⟨k, hFT, hu, fun q => by omega, fun _ => ⟨w3, hs03, hs5, hu5⟩⟩⟩
    · have g3 : z = (PT (mQ w) k).length := Classical.byContradiction g3
      exact J18 _ _ hs02 ⟨1, ⟨k, hFT, fun q => absurd g2 q, fun _ => ⟨z, hz, fun _ => rfl, fun q => absurd g3 q⟩⟩, by decide⟩
end ME
