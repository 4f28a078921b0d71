/-! ===== the reference: mend(), check(), count() ===== -/
/-- the set that makes an end, of fewest, the least; -4: none -/
def SF (nc : Int) (E : Int → Prop) (z : Int) : Prop := (z = -4 ∧ ∀ s, 1 ≤ s → s < ((2 ^ nc.toNat : Nat) : Int) → (pop8 s 8 = 1 ∨ pop8 s 8 = 2) → ¬ E s) ∨ ((1 ≤ z ∧ z < ((2 ^ nc.toNat : Nat) : Int)) ∧ (pop8 z 8 = 1 ∨ pop8 z 8 = 2) ∧ E z ∧ ∀ s, 1 ≤ s → s < ((2 ^ nc.toNat : Nat) : Int) → (pop8 s 8 = 1 ∨ pop8 s 8 = 2) → E s → pop8 z 8 ≤ pop8 s 8 ∧ (pop8 s 8 = pop8 z 8 → z ≤ s))
theorem SF_u {nc : Int} {E : Int → Prop} {z z' : Int} (h : SF nc E z) (h' : SF nc E z') : z = z' := by
  rcases h with ⟨h1, h2⟩ | ⟨h1, h2, h3, h4⟩
  · rcases h' with ⟨g1, g2⟩ | ⟨g1, g2, g3, g4⟩
    · omega
    · exact absurd g3 (h2 z' g1.1 g1.2 g2)
  · rcases h' with ⟨g1, g2⟩ | ⟨g1, g2, g3, g4⟩
    · exact absurd h3 (g2 z h1.1 h1.2 h2)
    · have a := h4 z' g1.1 g1.2 g2 g3
      have b := g4 z h1.1 h1.2 h2 h3
      have a2 := a.2
      have b2 := b.2
      omega
/-- places that a row comes by -/
def onP (e : Int → Int → Int) (ρ : List Int) (p : Int) : Bool := decide (p = 0) || ρ.any fun x => decide (e x 1 = p)
/-- more looked at there -/
def lkU (e : Int → Int → Int) (lk : Int → Int) (ρ : List Int) (set : Int) : Int → Int := fun p => if onP e ρ p = true then mm_or (lk p) set else lk p
/-- 0 it is safe, 1 the path is real, 2 neither -/
def HOW (c e : Int → Int → Int) (f : Int → Int) (nv trap : Int) (Q : List (Int × Int)) (z : Int) : Prop := ∃ k, FT Q trap k ∧ (¬ k < Q.length → z = 0) ∧ (k < Q.length → ∃ F, FAR c e f nv (PT Q k) F ∧ (F = (PT Q k).length → z = 1) ∧ (F ≠ (PT Q k).length → z = 2))
theorem HOW_u {c e : Int → Int → Int} {f : Int → Int} {nv trap z z' : Int} {Q : List (Int × Int)} (h : HOW c e f nv trap Q z) (h' : HOW c e f nv trap Q z') : z = z' := by
  obtain ⟨k, k1, k2, k3⟩ := h
  obtain ⟨k', l1, l2, l3⟩ := h'
  have := FT_u k1 l1
  subst this
  by_cases hk : k < Q.length
  · obtain ⟨F, f1, f2, f3⟩ := k3 hk
    obtain ⟨G, g1, g2, g3⟩ := l3 hk
    have := FAR_u f1 g1
    subst this
    by_cases hF : F = (PT Q k).length
    · rw [f2 hF, g2 hF]
    · rw [f3 hF, g3 hF]
  · rw [k2 hk, l2 hk]
abbrev schL : List (Nat × Option Int) := ptL
section ME
variable {r y : Bool} {w : mm_M}
theorem ev_m_setFor {ρ : List Int} (h : mP w) (hp : PM w ρ) (hρ : ∀ x ∈ ρ, 0 ≤ x ∧ x < w 1 0 8) : mm_Ev K_X10_setFor (0, 0) [.inr (some (1, 0))] (PH r y) w (fun a b' w' => b' = PH r y ∧ sm endL w w' ∧ ∃ z, a = some (.inl z) ∧ SF (w 1 0 6) (fun s => EN (m_c w) (m_e w) (w 3 0) (fun p => mm_or (w 6 0 p) s) (w 1 0 4) (w 1 0 6) ρ) z) := by
  refine ev_intro ok_X10_setFor mo_X10_setFor (Nat.le_of_ble_eq_true rfl) (fun hrg has => ?_)
  have hnc := h.2.2.2.1
  generalize hE : (fun s => EN (m_c w) (m_e w) (w 3 0) (fun p => mm_or (w 6 0 p) s) (w 1 0 4) (w 1 0 6) ρ) = E
  have hEs : ∀ s, EN (m_c w) (m_e w) (w 3 0) (fun p => mm_or (w 6 0 p) s) (w 1 0 4) (w 1 0 6) ρ ↔ E s := fun s => by rw [← hE]
  have h256 : 2 ^ (w 1 0 6).toNat ≤ 2 ^ 8 := Nat.pow_le_pow_right (by decide) (by omega)
  generalize hN : ((2 ^ (w 1 0 6).toNat : Nat) : Int) = N
  have hNle : 1 ≤ N ∧ N ≤ 256 := by
    have : 0 < 2 ^ (w 1 0 6).toNat := Nat.two_pow_pos _
    omega
  refine k_gp rfl rfl trivial ?_
  refine mm_loop (σ := mm_M) 3 (fun sz w1 => (1 ≤ sz ∧ sz ≤ 3) ∧ sm endL w w1 ∧ ∀ s, 1 ≤ s → s < N → pop8 s 8 < sz → 1 ≤ pop8 s 8 → ¬ E s) (fun sz w1 => ∀ l2, mm_Wk K_X10_setFor (0, 0) 2 [some (.inr (some (1, 0))), some (.inl sz), l2] [] (PH r y) w1 (fun a b' w' => b' = PH r y ∧ sm endL w w' ∧ ∃ z, a = some (.inl z) ∧ SF (w 1 0 6) E z)) ?_ ?_ 1 w ⟨by omega, sm_rf, fun s a b c d => by omega⟩ _
  · intro sz w1 h1 h2 ih l2
    obtain ⟨h2, s1, h3⟩ := h2
    refine k_gp rfl rfl trivial ?_
    refine k_brf rfl (by omega) ?_
    refine k_gp rfl rfl trivial ?_
    refine mm_loop (σ := mm_M) N (fun st w2 => (1 ≤ st ∧ st ≤ N) ∧ sm endL w w2 ∧ ∀ s, 1 ≤ s → s < st → pop8 s 8 = sz → ¬ E s) (fun st w2 => mm_Wk K_X10_setFor (0, 0) 9 [some (.inr (some (1, 0))), some (.inl sz), some (.inl st)] [] (PH r y) w2 (fun a b' w' => b' = PH r y ∧ sm endL w w' ∧ ∃ z, a = some (.inl z) ∧ SF (w 1 0 6) E z)) ?_ ?_ 1 w1 ⟨by omega, s1, fun s a b => by omega⟩
    · intro st w2 q1 q2 ih2
      obtain ⟨q2, s2, q3⟩ := q2
      have e6 : w2 1 0 6 = w 1 0 6 := s2 1 0 6 rfl
      have nxt : (pop8 st 8 = sz → ¬ E st) → ∀ w3, sm endL w w3 → mm_Wk K_X10_setFor (0, 0) 37 [some (.inr (some (1, 0))), some (.inl sz), some (.inl st)] [] (PH r y) w3 (fun a b' w' => b' = PH r y ∧ sm endL w w' ∧ ∃ z, a = some (.inl z) ∧ SF (w 1 0 6) E z) := fun hc w3 s3 => by
        refine k_gp rfl rfl (by simp only [true_and, mm_fits]; omega) ?_
        refine ih2 w3 ⟨by omega, s3, fun s a b c => ?_⟩
        by_cases hs : s = st
        · subst hs; exact hc c
        · exact q3 s a (by omega) c
      refine k_gp rfl rfl trivial ?_
      rw [e6, shl1 (g := w 1 0 6) (by omega), hN]
      refine k_brf rfl (by omega) ?_
      refine k_gp rfl rfl trivial ?_
      refine k_callp rfl (ev_m_bits (by omega)) rfl rfl rfl (by decide) ?_
      refine k_gp rfl rfl trivial ?_
      refine k_br rfl (fun g1 => nxt (fun q => absurd q g1) w2 s2) (fun g1 => ?_)
      have g1 : pop8 st 8 = sz := Classical.byContradiction g1
      obtain ⟨hP2, ec, ee⟩ := mP_sm s2 rfl (fun _ => rfl) (fun _ => rfl) (fun _ => rfl) h
      have hp2 := PM_sm s2 rfl (fun _ => rfl) hp
      refine k_gp rfl rfl trivial ?_
      refine k_call0 rfl (ev_m_isEnded (more := st) hP2 hp2 (by rw [show w2 1 0 8 = w 1 0 8 from s2 1 0 8 rfl]; exact hρ) (by omega)) rfl rfl rfl (by decide) ?_
      rintro a b' w3 ⟨rfl, s3, z, rfl, hz⟩
      rw [ec, ee, show w2 3 0 = w 3 0 from funext fun k => s2 3 0 k rfl, show w2 6 0 = w 6 0 from funext fun k => s2 6 0 k rfl, show w2 1 0 4 = w 1 0 4 from s2 1 0 4 rfl, e6, hEs] at hz
      have s03 := sm_tr s2 s3
      refine k_brz rfl (fun g2 => nxt (fun _ q => g2 (hz.mpr q)) w3 s03) (fun g2 => ?_)
      refine k_gp rfl rfl trivial ?_
      refine k_ret rfl trivial ⟨rfl, s03, st, rfl, Or.inr ⟨by rw [hN]; omega, by omega, hz.mp g2, fun s a b c d => ?_⟩⟩
      rw [hN] at b
      have hlt : ¬ pop8 s 8 < sz := fun q => h3 s a b q (by omega) d
      refine ⟨by omega, fun q => ?_⟩
      rcases Int.lt_or_le s st with z | z
      · exact absurd d (q3 s a z (by omega))
      · exact z
    · intro st w2 q1 q2
      obtain ⟨q2, s2, q3⟩ := q2
      have e6 : w2 1 0 6 = w 1 0 6 := s2 1 0 6 rfl
      refine k_gp rfl rfl trivial ?_
      rw [e6, shl1 (g := w 1 0 6) (by omega), hN]
      refine k_brt rfl (by omega) ?_
      refine k_gp rfl rfl (by simp only [true_and, mm_fits]; omega) ?_
      refine ih w2 ⟨by omega, s2, fun s a b c d => ?_⟩ _
      by_cases hs : pop8 s 8 = sz
      · exact q3 s a (by omega) hs
      · exact h3 s a b (by omega) d
  · intro sz w1 h1 h2 l2
    obtain ⟨h2, s1, h3⟩ := h2
    refine k_gp rfl rfl trivial ?_
    refine k_brt rfl (by omega) ?_
    refine k_gp rfl rfl trivial ?_
    exact k_ret rfl trivial ⟨rfl, s1, -4, rfl, Or.inl ⟨rfl, fun s a b c => by rw [hN] at b; exact h3 s a b (by omega) (by omega)⟩⟩
theorem ev_m_looksMore {ρ : List Int} {set : Int} (h : mP w) (hp : PM w ρ) (hρ : ∀ x ∈ ρ, 0 ≤ x ∧ x < w 1 0 8) : mm_Ev K_X10_looksMore (0, 0) [.inr (some (1, 0)), .inl set] (PH r y) w (fun a b' w' => a = none ∧ b' = PH r y ∧ sm [(6, none)] w w' ∧ w' 6 0 = lkU (m_e w) (w 6 0) ρ set) := by
  refine ev_intro ok_X10_looksMore mo_X10_looksMore (Nat.le_of_ble_eq_true rfl) (fun hrg has => ?_)
  have hnp := h.1
  have hne := h.2.2.2.2.1
  have hE := h.2.2.2.2.2.2.1
  obtain ⟨hp1, hp2, hp3⟩ := hp
  have oo : ∀ a : Int, mm_or (mm_or a set) set = mm_or a set := fun a => by
    unfold mm_or
    rw [mm_i3, ← Int32.toInt_inj.mpr (Int32.or_assoc (a := Int32.ofInt a) (b := Int32.ofInt set) (c := Int32.ofInt set)), Int32.or_self]
  refine k_gp rfl rfl (by simp only [true_and, mm_fits]; omega) ?_
  refine mm_loop (σ := mm_M) (ρ.length) (fun k w1 => (0 ≤ k ∧ k ≤ ρ.length) ∧ sm [(6, none)] w w1 ∧ ∀ p, w1 6 0 p = if (decide (p = 0) || (ρ.take k.toNat).any fun x => decide (m_e w x 1 = p)) = true then mm_or (w 6 0 p) set else w 6 0 p) (fun k w1 => mm_Wk K_X10_looksMore (0, 0) 12 [some (.inr (some (1, 0))), some (.inl set), some (.inl k)] [] (PH r y) w1 (fun a b' w' => a = none ∧ b' = PH r y ∧ sm [(6, none)] w w' ∧ w' 6 0 = lkU (m_e w) (w 6 0) ρ set)) ?_ ?_ 0 _ ⟨by omega, sm_up sm_rf (Or.inl (by decide)), fun p => ?_⟩
  · intro k w1 h1 h2 ih
    obtain ⟨h2, s1, h3⟩ := h2
    have hlt : k.toNat < ρ.length := by omega
    have hx : ρ.getD k.toNat 0 ∈ ρ := by
      rw [List.getD_eq_getElem?_getD, List.getElem?_eq_getElem hlt]
      exact List.getElem_mem _
    have hxr := hρ _ hx
    have hEx := hE _ hxr.1 hxr.2
    have htk : ρ.take (k + 1).toNat = ρ.take k.toNat ++ [ρ.getD k.toNat 0] := by
      rw [show (k + 1).toNat = k.toNat + 1 by omega, List.take_succ, List.getD_eq_getElem?_getD, List.getElem?_eq_getElem hlt]
      rfl
    generalize ρ.getD k.toNat 0 = x at hx hxr hEx htk
    have hxx : w1 19 0 k = x := by
      sorry
    sorry
  · sorry
  · sorry
end ME
