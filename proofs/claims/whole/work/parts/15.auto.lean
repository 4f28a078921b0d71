/-! ===== for walks by program ===== -/
def ib (p : Prop) [Decidable p] : Int := if p then 1 else 0
theorem ib_in (p : Prop) [Decidable p] : 0 ≤ ib p ∧ ib p ≤ 1 := by unfold ib; split <;> omega
theorem ib_t {p : Prop} [Decidable p] (h : p) : ib p = 1 := if_pos h
theorem ib_f {p : Prop} [Decidable p] (h : ¬ p) : ib p = 0 := if_neg h
section MMR8
variable {K : mm_K} {n : Nat × Nat} {pc : Nat} {ls : List (Option mm_V)} {st : List mm_V} {b : mm_B} {w : mm_M} {Q : Option mm_V → mm_B → mm_M → Prop}
theorem k_gp {pc' : Nat} {ls' : List (Option mm_V)} {st' : List mm_V} {w' : mm_M} {a' : Prop} (h : mm_run K.2.2.1 K.2.2.2.1 K.2.2.2.2.1 400 (mm_lk K.2.2.1 pc) pc ls st b w True = (pc', ls', st', w', a')) (hp : Nat.beq pc pc' = false) (ha : a') (k : mm_Wk K n pc' ls' st' b w' Q) : mm_Wk K n pc ls st b w Q := k_go h ha k
theorem k_brt {P : Prop} {t f : Nat} {st' : List mm_V} (h : mm_brk K.2.2.1 pc st = some (P, t, f, st')) (hP : P) (kt : mm_Wk K n t ls st' b w Q) : mm_Wk K n pc ls st b w Q := k_br h (fun _ => kt) (fun q => absurd hP q)
theorem k_brf {P : Prop} {t f : Nat} {st' : List mm_V} (h : mm_brk K.2.2.1 pc st = some (P, t, f, st')) (hP : ¬ P) (kf : mm_Wk K n f ls st' b w Q) : mm_Wk K n pc ls st b w Q := k_br h (fun q => absurd q hP) (fun _ => kf)
theorem k_brz {p : Prop} [Decidable p] {t f : Nat} {st' : List mm_V} (h : mm_brk K.2.2.1 pc (.inl (ib p) :: st) = some (ib p = 0, t, f, st')) (kt : ¬ p → mm_Wk K n t ls st' b w Q) (kf : p → mm_Wk K n f ls st' b w Q) : mm_Wk K n pc ls (.inl (ib p) :: st) b w Q :=
  k_br h (fun q => kt (fun z => by rw [ib_t z] at q; cases q)) (fun q => kf (Classical.byContradiction fun z => q (ib_f z)))
theorem k_brn {p : Prop} [Decidable p] {t f : Nat} {st' : List mm_V} (h : mm_brk K.2.2.1 pc (.inl (ib p) :: st) = some (¬ ib p = 0, t, f, st')) (kt : p → mm_Wk K n t ls st' b w Q) (kf : ¬ p → mm_Wk K n f ls st' b w Q) : mm_Wk K n pc ls (.inl (ib p) :: st) b w Q :=
  k_br h (fun q => kt (Classical.byContradiction fun z => q (ib_f z))) (fun q => kf (fun z => q (by rw [ib_t z]; decide)))
/-- all the ways of a switch -/
def mm_tsG (K : mm_K) (n : Nat × Nat) (pc : Nat) (ls : List (Option mm_V)) (st : List mm_V) (b : mm_B) (w : mm_M) (Q : Option mm_V → mm_B → mm_M → Prop) (x : Int) : Int → List Int → Prop
  | _, [] => True
  | lo, o :: r => (x = lo → mm_Wk K n ((pc : Int) + o).toNat ls st b w Q) ∧ mm_tsG K n pc ls st b w Q x (lo + 1) r
theorem mm_tsn {x lo : Int} : mm_tsG K n pc ls st b w Q x lo [] := trivial
theorem mm_tsc {x lo o : Int} {r : List Int} (h : x = lo → mm_Wk K n ((pc : Int) + o).toNat ls st b w Q) (k : mm_tsG K n pc ls st b w Q x (lo + 1) r) : mm_tsG K n pc ls st b w Q x lo (o :: r) := ⟨h, k⟩
theorem mm_tsG_at {x : Int} : ∀ (offs : List Int) (lo : Int), mm_tsG K n pc ls st b w Q x lo offs → lo ≤ x → ∀ o, mm_nth offs (x - lo).toNat = some o → mm_Wk K n ((pc : Int) + o).toNat ls st b w Q := by
  intro offs
  induction offs with
  | nil => intro lo _ _ o h; cases h
  | cons a r ih =>
    intro lo h h0 o ho
    by_cases hx : x = lo
    · subst hx
      rw [show (x - x).toNat = 0 by omega] at ho
      cases ho
      exact h.1 rfl
    · rw [show (x - lo).toNat = (x - (lo + 1)).toNat + 1 by omega] at ho
      exact ih (lo + 1) h.2 (by omega) o ho
theorem k_ts {x d lo hi : Int} {offs : List Int} (h : mm_tsw K.2.2.1 pc = some (d, lo, hi, offs)) (hp : (offs.all (fun o => decide (0 ≤ (pc : Int) + o)) && decide (0 ≤ (pc : Int) + d) && decide ((offs.length : Int) = hi - lo + 1)) = true) (k : mm_tsG K n pc ls st b w Q x lo offs) (kd : x < lo ∨ hi < x → mm_Wk K n ((pc : Int) + d).toNat ls st b w Q) : mm_Wk K n pc ls (.inl x :: st) b w Q := by
  simp only [Bool.and_eq_true, List.all_eq_true, decide_eq_true_eq] at hp
  obtain ⟨⟨h1, h2⟩, h3⟩ := hp
  by_cases hx : x < lo ∨ hi < x
  · exact k_tsOut h hx h2 (kd hx)
  · have hl : (x - lo).toNat < offs.length := by omega
    have ho : mm_nth offs (x - lo).toNat = some offs[(x - lo).toNat] := by rw [mm_nth_get]; exact List.getElem?_eq_getElem hl
    exact k_tsIn h (by omega) (by omega) ho (h1 _ (List.getElem_mem hl)) (mm_tsG_at offs lo k (by omega) _ ho)
end MMR8
theorem mm_loop {σ : Type} (N : Int) (I : Int → σ → Prop) (G : Int → σ → Prop) (hs : ∀ i s, i < N → I i s → (∀ s', I (i + 1) s' → G (i + 1) s') → G i s) (he : ∀ i s, N ≤ i → I i s → G i s) : ∀ i s, I i s → G i s := by
  intro i s h
  generalize hk : (N - i).toNat = k
  induction k generalizing i s with
  | zero => exact he i s (by omega) h
  | succ k ih => exact hs i s (by omega) h (fun s' h' => ih (i + 1) s' h' (by omega))
theorem mm_loopm {σ : Type} (μ : σ → Nat) (I G : σ → Prop) (hs : ∀ s, I s → (∀ s', I s' → μ s' < μ s → G s') → G s) : ∀ s, I s → G s := by
  intro s h
  generalize hk : μ s = k
  induction k using Nat.strongRecOn generalizing s with
  | ind k ih => exact hs s h (fun s' h' hl => ih (μ s') (by omega) s' h' rfl)
