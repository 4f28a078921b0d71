/-! ===== pure: the path; the reference: findsPath() ===== -/
/-- each state came from one before, by an edge that leads from its place to this one -/
def QW (e : Int → Int → Int) (ne : Int) (Q : List (Int × Int)) : Prop := ∀ k : Int, 0 ≤ k → k < Q.length → (frQ Q k < 0 ∧ stQ Q k / 256 = 0) ∨ ((0 ≤ frQ Q k ∧ frQ Q k / 16 < k) ∧ frQ Q k % 16 < ne ∧ e (frQ Q k % 16) 0 = stQ Q (frQ Q k / 16) / 256 ∧ e (frQ Q k % 16) 1 = stQ Q k / 256)
theorem frQ_app {Q R : List (Int × Int)} {k : Int} (h0 : 0 ≤ k) (h : k < Q.length) : frQ (Q ++ R) k = frQ Q k := by
  unfold frQ
  rw [List.getD_eq_getElem?_getD, List.getD_eq_getElem?_getD, List.getElem?_append_left (by omega)]
theorem QW_add1 {e : Int → Int → Int} {ne : Int} {Q : List (Int × Int)} {s fr : Int} (h : QW e ne Q) (hf : (fr < 0 ∧ s / 256 = 0) ∨ ((0 ≤ fr ∧ fr / 16 < Q.length) ∧ fr % 16 < ne ∧ e (fr % 16) 0 = stQ Q (fr / 16) / 256 ∧ e (fr % 16) 1 = s / 256)) : QW e ne (add1 Q s fr) := by
  unfold add1
  split
  · exact h
  · intro k a b
    have b : k < Q.length + 1 := by simpa using b
    by_cases hk : k = Q.length
    · have e1 : stQ (Q ++ [(s, fr)]) k = s := by unfold stQ; rw [hk]; simp
      have e2 : frQ (Q ++ [(s, fr)]) k = fr := by unfold frQ; rw [hk]; simp
      rw [e1, e2]
      rcases hf with hf | ⟨⟨h1, h2⟩, h3, h4, h5⟩
      · exact Or.inl hf
      · exact Or.inr ⟨⟨h1, by omega⟩, h3, by rw [stQ_app (by omega) h2]; exact h4, h5⟩
    · rw [frQ_app a (by omega), stQ_app a (by omega)]
      rcases h k a (by omega) with hq | ⟨⟨h1, h2⟩, h3, h4, h5⟩
      · exact Or.inl hq
      · exact Or.inr ⟨⟨h1, h2⟩, h3, by rw [stQ_app (by omega) (by omega)]; exact h4, h5⟩
theorem QW_addC {e : Int → Int → Int} {ne B fr : Int} {S : Int → Bool} {Q : List (Int × Int)} (h : QW e ne Q) (hf : (fr < 0 ∧ B = 0) ∨ ((0 ≤ fr ∧ fr / 16 < Q.length) ∧ fr % 16 < ne ∧ e (fr % 16) 0 = stQ Q (fr / 16) / 256 ∧ e (fr % 16) 1 = B)) : ∀ n : Nat, n ≤ 256 → QW e ne (addC Q (256 * B) S fr n) := by
  intro n
  induction n with
  | zero => intro _; exact h
  | succ n ih =>
    intro hn
    show QW e ne (if S n = true then add1 (addC Q (256 * B) S fr n) (256 * B + n) fr else addC Q (256 * B) S fr n)
    split
    · obtain ⟨R, hR⟩ := addC_pre (Q := Q) (b := 256 * B) (S := S) (fr := fr) n
      refine QW_add1 (ih (by omega)) ?_
      rcases hf with ⟨h1, h2⟩ | ⟨⟨h1, h2⟩, h3, h4, h5⟩
      · exact Or.inl ⟨h1, by omega⟩
      · exact Or.inr ⟨⟨h1, by rw [hR]; simp; omega⟩, h3, by rw [hR, stQ_app (by omega) h2]; exact h4, by omega⟩
    · exact ih (by omega)
theorem QW_addX {c e : Int → Int → Int} {lk : Int → Int} {nv nc ne : Int} {Q : List (Int × Int)} {k : Int} (h : QW e ne Q) (hk : 0 ≤ k ∧ k < Q.length) (hne : ne ≤ 14) : ∀ n : Nat, (n : Int) ≤ ne → QW e ne (addX c e lk nv nc Q k n) := by
  intro n
  induction n with
  | zero => intro _; exact h
  | succ n ih =>
    intro hn
    show QW e ne (if e n 0 = stQ Q k / 256 then addC (addX c e lk nv nc Q k n) (256 * e n 1) (nxB c e lk nv nc n (stQ Q k % 256)) (16 * k + n) 256 else addX c e lk nv nc Q k n)
    split
    · rename_i hA
      obtain ⟨R, hR⟩ := addX_pre (c := c) (e := e) (lk := lk) (nv := nv) (nc := nc) (Q := Q) (k := k) n
      refine QW_addC (ih (by omega)) (Or.inr ⟨⟨by omega, ?_⟩, ?_, ?_, ?_⟩) 256 (Nat.le_refl _)
      · rw [hR]; simp; omega
      · omega
      · rw [show (16 * k + (n : Int)) % 16 = n by omega, show (16 * k + (n : Int)) / 16 = k by omega, hR, stQ_app hk.1 hk.2]
        exact hA
      · rw [show (16 * k + (n : Int)) % 16 = n by omega]
    · exact ih (by omega)
theorem QW_addK {c e : Int → Int → Int} {lk : Int → Int} {nv nc ne : Int} (hne : 0 ≤ ne ∧ ne ≤ 14) : ∀ (m k : Nat) (Q : List (Int × Int)), QW e ne Q → QW e ne (addK c e lk nv nc ne m k Q) := by
  intro m
  induction m with
  | zero => intro k Q h; exact h
  | succ m ih =>
    intro k Q h
    show QW e ne (if k < Q.length then addK c e lk nv nc ne m (k + 1) (addX c e lk nv nc Q k ne.toNat) else Q)
    split
    · exact ih _ _ (QW_addX h (by omega) hne.2 _ (by omega))
    · exact h
theorem QW_MQ {c e : Int → Int → Int} {f lk : Int → Int} {nv nc ne : Int} (hne : 0 ≤ ne ∧ ne ≤ 14) : QW e ne (MQ_ c e f lk nv nc ne) := by
  unfold MQ_
  refine QW_addK hne _ _ _ ?_
  have := QW_addC (e := e) (ne := ne) (B := 0) (fr := -1) (S := fcB c f lk nv nc) (Q := []) (fun k a b => by simp at b; omega) (Or.inl ⟨by decide, rfl⟩) 256 (Nat.le_refl _)
  exact this
/-- the edges by which a state came -/
def pth (Q : List (Int × Int)) : Nat → Int → List Int
  | 0, _ => []
  | m + 1, k => if frQ Q k < 0 then [] else pth Q m (frQ Q k / 16) ++ [frQ Q k % 16]
def PT (Q : List (Int × Int)) (k : Int) : List Int := pth Q (k.toNat + 1) k
theorem pth_st {e : Int → Int → Int} {ne : Int} {Q : List (Int × Int)} (h : QW e ne Q) : ∀ (m m' : Nat) (k : Int), 0 ≤ k → k < Q.length → k < m → k < m' → pth Q m k = pth Q m' k := by
  intro m
  induction m with
  | zero => intro m' k a b c; omega
  | succ m ih =>
    intro m' k a b c d
    cases m' with
    | zero => omega
    | succ m' =>
      show (if frQ Q k < 0 then [] else pth Q m (frQ Q k / 16) ++ [frQ Q k % 16]) = (if frQ Q k < 0 then [] else pth Q m' (frQ Q k / 16) ++ [frQ Q k % 16])
      split
      · rfl
      · rcases h k a b with q | q
        · omega
        · rw [ih m' (frQ Q k / 16) (by omega) (by omega) (by omega) (by omega)]
theorem PT_eq {e : Int → Int → Int} {ne : Int} {Q : List (Int × Int)} (h : QW e ne Q) {k : Int} (a : 0 ≤ k) (b : k < Q.length) : PT Q k = if frQ Q k < 0 then [] else PT Q (frQ Q k / 16) ++ [frQ Q k % 16] := by
  have e1 : PT Q k = if frQ Q k < 0 then [] else pth Q k.toNat (frQ Q k / 16) ++ [frQ Q k % 16] := rfl
  rw [e1]
  split
  · rfl
  · rcases h k a b with q | q
    · omega
    · rw [show PT Q (frQ Q k / 16) = pth Q ((frQ Q k / 16).toNat + 1) (frQ Q k / 16) from rfl, pth_st h k.toNat ((frQ Q k / 16).toNat + 1) (frQ Q k / 16) (by omega) (by omega) (by omega) (by omega)]
/-- a row of edges from place to place -/
def CHn (e : Int → Int → Int) : List Int → Int → Int → Prop
  | [], p, q => p = q
  | x :: ρ, p, q => e x 0 = p ∧ CHn e ρ (e x 1) q
theorem CHn_snoc {e : Int → Int → Int} {ρ : List Int} {x p : Int} (h : CHn e ρ p (e x 0)) : CHn e (ρ ++ [x]) p (e x 1) := by
  induction ρ generalizing p with
  | nil => exact ⟨h.symm, rfl⟩
  | cons z ρ ih => exact ⟨h.1, ih h.2⟩
theorem PT_ok {e : Int → Int → Int} {ne : Int} {Q : List (Int × Int)} (h : QW e ne Q) : ∀ (m : Nat) (k : Int), 0 ≤ k → k < Q.length → k < m → (PT Q k).length ≤ k.toNat ∧ (∀ x ∈ PT Q k, 0 ≤ x ∧ x < ne) ∧ CHn e (PT Q k) 0 (stQ Q k / 256) := by
  intro m
  induction m with
  | zero => intro k a b c; omega
  | succ m ih =>
    intro k a b c
    rw [PT_eq h a b]
    rcases h k a b with ⟨q1, q2⟩ | ⟨⟨q1, q2⟩, q3, q4, q5⟩
    · rw [if_pos q1]
      exact ⟨Nat.zero_le _, fun x hx => by (cases hx), by show (0 : Int) = _; omega⟩
    · rw [if_neg (by omega)]
      obtain ⟨i1, i2, i3⟩ := ih (frQ Q k / 16) (by omega) (by omega) (by omega)
      refine ⟨by simp; omega, fun x hx => ?_, ?_⟩
      · rcases List.mem_append.mp hx with hx | hx
        · exact i2 x hx
        · have : x = frQ Q k % 16 := by simpa using hx
          omega
      · rw [← q4] at i3
        rw [← q5]
        exact CHn_snoc i3
/-- the first state of the trap (as many as there are: none) -/
def FT (Q : List (Int × Int)) (trap k : Int) : Prop := (0 ≤ k ∧ k ≤ Q.length) ∧ (∀ j : Int, 0 ≤ j → j < k → stQ Q j / 256 ≠ trap) ∧ (k < Q.length → stQ Q k / 256 = trap)
theorem FT_u {Q : List (Int × Int)} {trap k k' : Int} (h : FT Q trap k) (h' : FT Q trap k') : k = k' := by
  rcases Int.lt_trichotomy k k' with q | q | q
  · exact absurd (h.2.2 (by have := h'.1; omega)) (h'.2.1 k h.1.1 q)
  · exact q
  · exact absurd (h'.2.2 (by have := h.1; omega)) (h.2.1 k' h'.1.1 q)
abbrev fpL : List (Nat × Option Int) := [(15, none), (16, none), (17, none), (18, none), (19, none), (1, some 29), (1, some 32)]
/-- the reference's memory holds the path -/
def PM (w : mm_M) (ρ : List Int) : Prop := w 1 0 32 = ρ.length ∧ ρ.length ≤ 2048 ∧ ∀ j : Int, 0 ≤ j → j < ρ.length → w 19 0 j = ρ.getD j.toNat 0
section ME
variable {r : Bool × Bool} {y : Bool} {w : mm_M}
theorem ev_m_findsPath (h : mP w) : mm_Ev K_X10_findsPath (0, 0) [.inr (some (1, 0))] (PH r y) w (fun a b' w' => b' = PH r y ∧ sm fpL w w' ∧ ∃ k, FT (mQ w) (w 1 0 3) k ∧ a = some (.inl (ib (k < (mQ w).length))) ∧ (k < (mQ w).length → PM w' (PT (mQ w) k))) := by
  refine ev_intro ok_X10_findsPath mo_X10_findsPath (Nat.le_of_ble_eq_true rfl) (fun hrg has => ?_)
  have hnp := h.1
  have hne := h.2.2.2.2.1
  refine k_gp rfl rfl trivial ?_
  refine k_call0 rfl (ev_m_looks h) rfl rfl rfl (by decide) ?_
  rintro a b' w1 ⟨rfl, rfl, hs, hQ⟩
  have hW : QW (m_e w) (w 1 0 8) (mQ w) := QW_MQ hne
  generalize mQ w = Q at hQ hW ⊢
  have hs1 : sm fpL w w1 := sm_w hs (by decide)
  have ht : w1 1 0 3 = w 1 0 3 := hs 1 0 3 rfl
  have hl := QM_le hQ
  have hm := hQ.1
  refine k_gp rfl rfl trivial ?_
  refine mm_loop (σ := Unit) (Q.length) (fun k _ => (0 ≤ k ∧ k ≤ Q.length) ∧ ∀ j : Int, 0 ≤ j → j < k → stQ Q j / 256 ≠ w 1 0 3) (fun k _ => mm_Wk K_X10_findsPath (0, 0) 6 [some (.inr (some (1, 0))), some (.inl k), none, none] [] (PH r y) w1 (fun a b' w' => b' = PH r y ∧ sm fpL w w' ∧ ∃ k, FT Q (w 1 0 3) k ∧ a = some (.inl (ib (k < (Q.length : Int)))) ∧ (k < (Q.length : Int) → PM w' (PT Q k)))) ?_ ?_ 0 () ⟨by omega, fun j a b => by omega⟩
  · intro k _ h1 h2 ih
    obtain ⟨h2, h3⟩ := h2
    obtain ⟨s1, -, s3⟩ := hQ.2.1 k h2.1 h1
    refine k_gp rfl rfl trivial ?_
    refine k_brf rfl (by omega) ?_
    refine k_gp rfl rfl (by simp only [true_and, mm_fits, s1]; omega) ?_
    rw [s1, ht]
    refine k_br rfl (fun g1 => ?_) (fun g1 => ?_)
    · have hFT : FT Q (w 1 0 3) k := ⟨h2, h3, fun _ => g1⟩
      refine k_gp rfl rfl trivial ?_
      refine k_brt rfl (by omega) ?_
      refine k_gp rfl rfl trivial ?_
      have fr16 : ∀ {w2 : mm_M}, sm [(19, none), (1, some 32)] w1 w2 → ∀ j : Int, 0 ≤ j → j < Q.length → w2 16 0 j = (if frQ Q j < 0 then -4 else frQ Q j) := fun {w2} s j a b => by rw [s 16 0 j rfl]; exact (hQ.2.1 j a b).2.1
      -- how long it is
      have L1 : ∀ (m : Nat) (s : Int) (w2 : mm_M), s < m → 0 ≤ s → s < Q.length → sm [(19, none), (1, some 32)] w1 w2 → w2 1 0 32 + (PT Q s).length = (PT Q k).length → 0 ≤ w2 1 0 32 → ∀ l3, mm_Wk K_X10_findsPath (0, 0) 54 [some (.inr (some (1, 0))), some (.inl k), some (.inl s), l3] [] (PH r y) w2 (fun a b' w' => b' = PH r y ∧ sm fpL w w' ∧ ∃ k, FT Q (w 1 0 3) k ∧ a = some (.inl (ib (k < (Q.length : Int)))) ∧ (k < (Q.length : Int) → PM w' (PT Q k))) := by
        intro m
        induction m with
        | zero => intro s w2 a b; omega
        | succ m ihm =>
          intro s w2 a b c s2 hp hp0 l3
          have e16 := fr16 s2 s b c
          have hPk := (PT_ok hW (k.toNat + 1) k h2.1 h1 (by omega)).1
          have hPs := PT_eq hW b c
          rcases hW s b c with ⟨q1, q2⟩ | ⟨⟨q1, q2⟩, q3, q4, q5⟩
          · rw [if_pos q1] at e16 hPs
            rw [hPs] at hp
            have hp : w2 1 0 32 + 0 = (PT Q k).length := hp
            refine k_gp rfl rfl (by simp only [true_and, mm_fits]; omega) ?_
            rw [e16]
            refine k_brt rfl (by decide) ?_
            refine k_gp rfl rfl trivial ?_
            -- it is laid
            have L2 : ∀ (m : Nat) (s : Int) (w3 : mm_M), s < m → 0 ≤ s → s < Q.length → sm [(19, none), (1, some 32)] w1 w3 → w3 1 0 32 = (PT Q k).length → (∃ R, PT Q k = PT Q s ++ R) → (∀ j : Int, (PT Q s).length ≤ j → j < (PT Q k).length → w3 19 0 j = (PT Q k).getD j.toNat 0) → mm_Wk K_X10_findsPath (0, 0) 93 [some (.inr (some (1, 0))), some (.inl k), some (.inl ((PT Q s).length : Int)), some (.inl s)] [] (PH r y) w3 (fun a b' w' => b' = PH r y ∧ sm fpL w w' ∧ ∃ k, FT Q (w 1 0 3) k ∧ a = some (.inl (ib (k < (Q.length : Int)))) ∧ (k < (Q.length : Int) → PM w' (PT Q k))) := by
              intro m
              induction m with
              | zero => intro s w3 a b; omega
              | succ m ihm =>
                intro s w3 a b c s3 hp hpre hj
                have e16 := fr16 s3 s b c
                have hPs := PT_eq hW b c
                rcases hW s b c with ⟨q1, q2⟩ | ⟨⟨q1, q2⟩, q3, q4, q5⟩
                · rw [if_pos q1] at e16 hPs
                  rw [hPs] at hj
                  refine k_gp rfl rfl (by simp only [true_and, mm_fits]; omega) ?_
                  rw [e16]
                  refine k_brt rfl (by decide) ?_
                  refine k_gp rfl rfl trivial ?_
                  exact k_ret rfl (by omega) ⟨rfl, sm_tr hs1 (sm_w s3 (by decide)), k, hFT, by rw [ib_t h1], fun _ => ⟨hp, by omega, fun j a b => hj j a b⟩⟩
                · rw [if_neg (by omega)] at e16 hPs
                  have hlen : (PT Q s).length = (PT Q (frQ Q s / 16)).length + 1 := by rw [hPs]; simp
                  have hls := (PT_ok hW (s.toNat + 1) s b c (by omega)).1
                  obtain ⟨R, hR⟩ := hpre
                  refine k_gp rfl rfl (by simp only [true_and, mm_fits]; omega) ?_
                  rw [e16]
                  refine k_brf rfl (by omega) ?_
                  have e16' : ∀ v, mm_up w3 19 0 v (frQ Q s % 16) 16 0 s = frQ Q s := fun v => (up_g rfl).trans e16
                  refine k_gp rfl rfl (by simp only [true_and, mm_fits, e16, e16']; omega) ?_
                  rw [e16, e16']
                  rw [show ((PT Q s).length : Int) + -1 = ((PT Q (frQ Q s / 16)).length : Int) by omega]
                  refine ihm (frQ Q s / 16) _ (by omega) (by omega) (by omega) (sm_up s3 (Or.inl (by decide))) ((up_g rfl).trans hp) ⟨[frQ Q s % 16] ++ R, by rw [hR, hPs, List.append_assoc]⟩ (fun j j1 j2 => ?_)
                  by_cases hjj : j = (PT Q (frQ Q s / 16)).length
                  · subst hjj
                    rw [up_s, hR, hPs, List.getD_eq_getElem?_getD, List.append_assoc, List.getElem?_append_right (by omega)]
                    rw [show ((PT Q (frQ Q s / 16)).length : Int).toNat - (PT Q (frQ Q s / 16)).length = 0 by omega]
                    rfl
                  · rw [up_k hjj]
                    exact hj j (by omega) j2
            rw [show w2 1 0 32 = (PT Q k).length by omega]
            exact L2 (k.toNat + 1) k w2 (by omega) h2.1 h1 s2 (by omega) ⟨[], by simp⟩ (fun j a b => by omega)
          · rw [if_neg (by omega)] at e16 hPs
            have hlen : (PT Q s).length = (PT Q (frQ Q s / 16)).length + 1 := by rw [hPs]; simp
            have e16' : ∀ v, mm_up w2 1 0 32 v 16 0 s = frQ Q s := fun v => (up_g rfl).trans e16
            refine k_gp rfl rfl (by simp only [true_and, mm_fits]; omega) ?_
            rw [e16]
            refine k_brf rfl (by omega) ?_
            refine k_gp rfl rfl (by simp only [true_and, mm_fits, e16']; omega) ?_
            rw [e16']
            exact ihm (frQ Q s / 16) _ (by omega) (by omega) (by omega) (sm_up s2 (by decide)) (by rw [up_s]; omega) (by rw [up_s]; omega) _
      exact L1 (k.toNat + 1) k _ (by omega) h2.1 h1 (sm_up sm_rf (by decide)) (by rw [up_s]; omega) (by rw [up_s]; omega) _
    · refine k_gp rfl rfl (by simp only [true_and, mm_fits]; omega) ?_
      refine ih () ⟨by omega, fun j a b => ?_⟩
      by_cases hj : j = k
      · subst hj; exact g1
      · exact h3 j a (by omega)
  · intro k _ h1 h2
    obtain ⟨h2, h3⟩ := h2
    refine k_gp rfl rfl trivial ?_
    refine k_brt rfl (by omega) ?_
    refine k_gp rfl rfl trivial ?_
    refine k_brf rfl (by omega) ?_
    refine k_gp rfl rfl trivial ?_
    exact k_ret rfl (by omega) ⟨rfl, hs1, k, ⟨h2, h3, fun q => by omega⟩, by rw [ib_f (by omega)], fun q => by omega⟩
end ME
