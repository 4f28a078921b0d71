/-! ===== straight on to the next branch, call, end, cut ===== -/
def mm_lk : List mm_I → Nat → List mm_I
  | [], _ => []
  | q :: r, pc => match Nat.beq q.1 pc with
    | true => q :: r
    | false => mm_lk r pc
def mm_cut : List Nat → Nat → Bool
  | [], _ => false
  | a :: r, pc => match Nat.beq a pc with
    | true => true
    | false => mm_cut r pc
abbrev mm_S : Type := Nat × List (Option mm_V) × List mm_V × mm_M × Prop
def mm_jmp (i : Instr) (pc : Nat) : Option Nat := match i with
  | .goto off => some ((pc : Int) + off).toNat
  | _ => none
/-- fuel, all instructions, cuts, links, those from here on, the place, the state -/
def mm_run (il : List mm_I) (cuts : List Nat) (fl : List mm_F) : Nat → List mm_I → Nat → List (Option mm_V) → List mm_V → mm_B → mm_M → Prop → mm_S
  | 0, _, pc, ls, st, _, w, a => (pc, ls, st, w, a)
  | _, [], pc, ls, st, _, w, a => (pc, ls, st, w, a)
  | f + 1, q :: r, pc, ls, st, b, w, a => match Nat.beq q.1 pc with
    | false => (pc, ls, st, w, a)
    | true => match mm_jmp q.2.1 q.1 with
      | some t => match mm_cut cuts t with
        | true => (t, ls, st, w, a)
        | false => mm_run il cuts fl f (mm_lk il t) t ls st b w a
      | none => match mm_st fl q.2.1 ls st b w a with
        | none => (pc, ls, st, w, a)
        | some (ls', st', w', a') => match mm_cut cuts q.2.2 with
          | true => (q.2.2, ls', st', w', a')
          | false => mm_run il cuts fl f r q.2.2 ls' st' b w' a'
section MMR4
variable {K : mm_K} {n : Nat × Nat} {pc : Nat} {ls : List (Option mm_V)} {st : List mm_V} {b : mm_B} {w : mm_M} {Q : Option mm_V → mm_B → mm_M → Prop}
theorem mm_lk_sub {il : List mm_I} {pc : Nat} : ∀ q ∈ mm_lk il pc, q ∈ il := by
  induction il with
  | nil => intro q h; cases h
  | cons a r ih =>
    intro q h
    unfold mm_lk at h
    split at h
    · exact h
    · exact List.mem_cons_of_mem _ (ih q h)
theorem k_ko (h : mm_KO K → mm_Wk K n pc ls st b w Q) : mm_Wk K n pc ls st b w Q := by
  intro p l e R s m args below meth c X α0 b0 A H locs cells slots α kls hZ
  exact h hZ.1.2.2.2.2.2.2.2.2.2.2.2.1 p l e R s m args below meth c X α0 b0 A H locs cells slots α kls hZ
theorem k_goto {off : Int} {t : Nat} (hd : decode K.1.2.1 pc = .ok (.goto off, 3)) (ht : (pc : Int) + off = (t : Int)) (k : mm_Wk K n t ls st b w Q) : mm_Wk K n pc ls st b w Q := by
  intro p l e R s m args below meth c X α0 b0 A H locs cells slots α kls hZ
  exact lv_goto hZ.1.1 hZ.1.2.1 hd ht (k p l e R s m args below meth c X α0 b0 A H locs cells slots α kls hZ)
theorem mm_run_ok (hK : mm_KO K) : ∀ (f : Nat) (su : List mm_I), (∀ q ∈ su, q ∈ K.2.2.1) → ∀ (pc : Nat) (ls : List (Option mm_V)) (st : List mm_V) (w : mm_M) (a : Prop) (pc' : Nat) (ls' : List (Option mm_V)) (st' : List mm_V) (w' : mm_M) (a' : Prop),
    mm_run K.2.2.1 K.2.2.2.1 K.2.2.2.2.1 f su pc ls st b w a = (pc', ls', st', w', a') → a' → a ∧ (mm_Wk K n pc' ls' st' b w' Q → mm_Wk K n pc ls st b w Q) := by
  intro f
  induction f with
  | zero =>
    intro su hsu pc ls st w a pc' ls' st' w' a' h ha
    unfold mm_run at h
    cases h
    exact ⟨ha, id⟩
  | succ f ih =>
    intro su hsu pc ls st w a pc' ls' st' w' a' h ha
    cases su with
    | nil =>
      unfold mm_run at h
      cases h
      exact ⟨ha, id⟩
    | cons q r =>
      unfold mm_run at h
      obtain ⟨h1, h2, h3, h4⟩ := hK.1 q (hsu q List.mem_cons_self)
      split at h
      · cases h
        exact ⟨ha, id⟩
      · rename_i hb
        have hpc : q.1 = pc := mm_beq hb
        subst hpc
        split at h
        · rename_i t hj
          have hg : ∃ off, q.2.1 = .goto off ∧ ((q.1 : Int) + off).toNat = t := by
            unfold mm_jmp at hj
            split at hj
            · rename_i off ho
              exact ⟨off, ho, Option.some.inj hj⟩
            · cases hj
          obtain ⟨off, ho, ht⟩ := hg
          rw [ho] at h1 h3 h4
          have h5 : q.2.2 = q.1 + 3 := h4.resolve_left (Nat.succ_ne_zero 2)
          have h6 : 0 ≤ (q.1 : Int) + off := of_decide_eq_true h3
          have hk : mm_Wk K n t ls st b w Q → mm_Wk K n q.1 ls st b w Q := k_goto (off := off) (by rw [h1, show q.2.2 - q.1 = 3 by omega]) (by omega)
          split at h
          · cases h
            exact ⟨ha, hk⟩
          · obtain ⟨g1, g2⟩ := ih (mm_lk K.2.2.1 t) mm_lk_sub t ls st w a pc' ls' st' w' a' h ha
            exact ⟨g1, fun z => hk (g2 z)⟩
        · split at h
          · cases h
            exact ⟨ha, id⟩
          · rename_i hst
            split at h
            · cases h
              exact mm_sf h1 h3 h4 hK.2.1 hst ha
            · obtain ⟨g1, g2⟩ := ih r (fun q hq => hsu q (List.mem_cons_of_mem _ hq)) _ _ _ _ _ _ _ _ _ _ h ha
              obtain ⟨g3, g4⟩ := mm_sf h1 h3 h4 hK.2.1 hst g1
              exact ⟨g3, fun z => g4 (g2 z)⟩
/-- on, as far as it goes straight -/
theorem k_go {pc' : Nat} {ls' : List (Option mm_V)} {st' : List mm_V} {w' : mm_M} {a' : Prop} (h : mm_run K.2.2.1 K.2.2.2.1 K.2.2.2.2.1 400 (mm_lk K.2.2.1 pc) pc ls st b w True = (pc', ls', st', w', a')) (ha : a') (k : mm_Wk K n pc' ls' st' b w' Q) : mm_Wk K n pc ls st b w Q :=
  k_ko fun hK => (mm_run_ok hK 400 _ mm_lk_sub _ _ _ _ _ _ _ _ _ _ h ha).2 k
/-! branches -/
def mm_bq (c : Jvm.ClassFile.Cond) (x y : Int) (t : Nat) (st : List mm_V) : Option (Prop × Nat × List mm_V) := match c with
  | .eq => some (x = y, t, st)
  | .ne => some (¬ x = y, t, st)
  | .lt => some (x < y, t, st)
  | .ge => some (y ≤ x, t, st)
  | .gt => some (y < x, t, st)
  | .le => some (x ≤ y, t, st)
def mm_bra (i : Instr) (pc : Nat) (st : List mm_V) : Option (Prop × Nat × List mm_V) := match i, st with
  | .if_icmp c off, .inl y :: .inl x :: st => mm_bq c x y ((pc : Int) + off).toNat st
  | .ifCond c off, .inl x :: st => mm_bq c x 0 ((pc : Int) + off).toNat st
  | .ifnull off, .inr none :: st => some (True, ((pc : Int) + off).toNat, st)
  | .ifnull off, .inr (some _) :: st => some (False, ((pc : Int) + off).toNat, st)
  | .ifnonnull off, .inr none :: st => some (False, ((pc : Int) + off).toNat, st)
  | .ifnonnull off, .inr (some _) :: st => some (True, ((pc : Int) + off).toNat, st)
  | _, _ => none
def mm_brk (il : List mm_I) (pc : Nat) (st : List mm_V) : Option (Prop × Nat × Nat × List mm_V) := match mm_lk il pc with
  | [] => none
  | q :: _ => match mm_bra q.2.1 q.1 st with
    | some (P, t, st') => some (P, t, q.2.2, st')
    | none => none
theorem mm_lk_hd {il : List mm_I} {pc : Nat} {q : mm_I} {r : List mm_I} (h : mm_lk il pc = q :: r) : q ∈ il ∧ q.1 = pc := by
  refine ⟨mm_lk_sub q (by rw [h]; exact List.mem_cons_self), ?_⟩
  induction il with
  | nil => cases h
  | cons a s ih =>
    unfold mm_lk at h
    split at h
    · rename_i hb
      cases h
      exact mm_beq hb
    · exact ih h
set_option maxHeartbeats 4000000 in
theorem mm_bra_ok {i : Instr} {P : Prop} {t pc' : Nat} {st' : List mm_V} (hd : decode K.1.2.1 pc = .ok (i, pc' - pc)) (hs : mm_small K.1.2.2.1 pc i = true) (hl : mm_il i = 0 ∨ pc' = pc + mm_il i) (h : mm_bra i pc st = some (P, t, st')) (kt : P → mm_Wk K n t ls st' b w Q) (kf : ¬ P → mm_Wk K n pc' ls st' b w Q) : mm_Wk K n pc ls st b w Q := by
  intro p l e R s m args below meth c X α0 b0 A H locs cells slots α kls ⟨hC, hR, hA, hS, hO, hL, hst, hn⟩
  have kt := fun hP hst => kt hP p l e R s m args below meth c X α0 b0 A H locs cells slots α kls ⟨hC, hR, hA, hS, hO, hL, hst, hn⟩
  have kf := fun hP hst => kf hP p l e R s m args below meth c X α0 b0 A H locs cells slots α kls ⟨hC, hR, hA, hS, hO, hL, hst, hn⟩
  have hlen : mm_il i ≠ 0 → pc' = pc + mm_il i := fun q => hl.resolve_left q
  have hdd : mm_il i ≠ 0 → decode K.1.2.1 pc = .ok (i, mm_il i) := fun q => by
    have := hlen q
    rw [hd, show pc' - pc = mm_il i by omega]
  unfold mm_bra at h
  split at h
  · rename_i c0 off y x st0
    have h6 : 0 ≤ (pc : Int) + off := of_decide_eq_true hs
    have h7 : pc' = pc + 3 := hlen (Nat.succ_ne_zero _)
    subst h7
    have h8 := hdd (Nat.succ_ne_zero _)
    have hy : mm_in y := mm_stH hst
    have hx : mm_in x := mm_stH (mm_stT hst)
    have hst2 := mm_stT (mm_stT hst)
    have ht : (pc : Int) + off = (((pc : Int) + off).toNat : Int) := by omega
    cases c0 with
    | eq => cases h; exact lv_icmp_eq hC.1 hC.2.1 h8 ht (fun q => kt ((mm_i7 hx hy).mp q) hst2) (fun q => kf (fun z => q ((mm_i7 hx hy).mpr z)) hst2)
    | ne => cases h; exact lv_icmp_ne hC.1 hC.2.1 h8 ht (fun q => kt (fun z => q ((mm_i7 hx hy).mpr z)) hst2) (fun q => kf (fun z => z ((mm_i7 hx hy).mp q)) hst2)
    | lt => cases h; exact lv_icmp_lt hC.1 hC.2.1 h8 ht (fun q => kt ((mm_i6 hx hy).mp q) hst2) (fun q => kf (fun z => q ((mm_i6 hx hy).mpr z)) hst2)
    | ge => cases h; exact lv_icmp_ge hC.1 hC.2.1 h8 ht (fun q => kt ((mm_i5 hy hx).mp q) hst2) (fun q => kf (fun z => q ((mm_i5 hy hx).mpr z)) hst2)
    | gt => cases h; exact lv_icmp_gt hC.1 hC.2.1 h8 ht (fun q => kt ((mm_i6 hy hx).mp q) hst2) (fun q => kf (fun z => q ((mm_i6 hy hx).mpr z)) hst2)
    | le => cases h; exact lv_icmp_le hC.1 hC.2.1 h8 ht (fun q => kt ((mm_i5 hx hy).mp q) hst2) (fun q => kf (fun z => q ((mm_i5 hx hy).mpr z)) hst2)
  · rename_i c0 off x st0
    have h6 : 0 ≤ (pc : Int) + off := of_decide_eq_true hs
    have h7 : pc' = pc + 3 := hlen (Nat.succ_ne_zero _)
    subst h7
    have h8 := hdd (Nat.succ_ne_zero _)
    have hx : mm_in x := mm_stH hst
    have hy : mm_in 0 := ⟨by decide, by decide⟩
    have hst2 := mm_stT hst
    have ht : (pc : Int) + off = (((pc : Int) + off).toNat : Int) := by omega
    cases c0 with
    | eq => cases h; exact lv_if_eq hC.1 hC.2.1 h8 ht (fun q => kt ((mm_i7 hx hy).mp q) hst2) (fun q => kf (fun z => q ((mm_i7 hx hy).mpr z)) hst2)
    | ne => cases h; exact lv_if_ne hC.1 hC.2.1 h8 ht (fun q => kt (fun z => q ((mm_i7 hx hy).mpr z)) hst2) (fun q => kf (fun z => z ((mm_i7 hx hy).mp q)) hst2)
    | lt => cases h; exact lv_if_lt hC.1 hC.2.1 h8 ht (fun q => kt ((mm_i6 hx hy).mp q) hst2) (fun q => kf (fun z => q ((mm_i6 hx hy).mpr z)) hst2)
    | ge => cases h; exact lv_if_ge hC.1 hC.2.1 h8 ht (fun q => kt ((mm_i5 hy hx).mp q) hst2) (fun q => kf (fun z => q ((mm_i5 hy hx).mpr z)) hst2)
    | gt => cases h; exact lv_if_gt hC.1 hC.2.1 h8 ht (fun q => kt ((mm_i6 hy hx).mp q) hst2) (fun q => kf (fun z => q ((mm_i6 hy hx).mpr z)) hst2)
    | le => cases h; exact lv_if_le hC.1 hC.2.1 h8 ht (fun q => kt ((mm_i5 hx hy).mp q) hst2) (fun q => kf (fun z => q ((mm_i5 hx hy).mpr z)) hst2)
  · cases h
    have h6 : 0 ≤ (pc : Int) + _ := of_decide_eq_true hs
    exact lv_ifnullN hC.1 hC.2.1 (hdd (Nat.succ_ne_zero _)) (by omega) (kt trivial (mm_stT hst))
  · cases h
    have h7 : pc' = pc + 3 := hlen (Nat.succ_ne_zero _)
    subst h7
    exact lv_ifnull hC.1 hC.2.1 (hdd (Nat.succ_ne_zero _)) (kf id (mm_stT hst))
  · cases h
    have h7 : pc' = pc + 3 := hlen (Nat.succ_ne_zero _)
    subst h7
    exact lv_ifnonnullN hC.1 hC.2.1 (hdd (Nat.succ_ne_zero _)) (kf id (mm_stT hst))
  · cases h
    have h6 : 0 ≤ (pc : Int) + _ := of_decide_eq_true hs
    exact lv_ifnonnull hC.1 hC.2.1 (hdd (Nat.succ_ne_zero _)) (by omega) (kt trivial (mm_stT hst))
  · cases h
/-- a branch: the way that is taken if so, the way if not -/
theorem k_br {P : Prop} {t f : Nat} {st' : List mm_V} (h : mm_brk K.2.2.1 pc st = some (P, t, f, st')) (kt : P → mm_Wk K n t ls st' b w Q) (kf : ¬ P → mm_Wk K n f ls st' b w Q) : mm_Wk K n pc ls st b w Q := by
  refine k_ko fun hK => ?_
  unfold mm_brk at h
  split at h
  · cases h
  · rename_i q r hq
    split at h
    · rename_i hb
      cases h
      obtain ⟨hm, he⟩ := mm_lk_hd hq
      obtain ⟨h1, h2, h3, h4⟩ := hK.1 q hm
      subst he
      exact mm_bra_ok h1 h3 h4 hb kt kf
    · cases h
end MMR4
