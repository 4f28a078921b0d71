/-! ===== many instructions at once ===== -/
section MMR3
variable {K : mm_K} {n : Nat × Nat} {pc : Nat} {ls : List (Option mm_V)} {st : List mm_V} {b : mm_B} {w : mm_M} {Q : Option mm_V → mm_B → mm_M → Prop}
theorem mm_lnk_mem {fl : List mm_F} {i : Nat} {q : mm_F} (h : mm_lnk fl i = some q) : q ∈ fl ∧ q.1 = i := by
  induction fl with
  | nil => cases h
  | cons a r ih =>
    unfold mm_lnk at h
    split at h
    · rename_i hb
      cases h
      exact ⟨List.mem_cons_self, Nat.eq_of_beq_eq_true hb⟩
    · exact ⟨List.mem_cons_of_mem _ (ih h).1, (ih h).2⟩
theorem mm_beq {x y : Nat} (h : Nat.beq x y = true) : x = y := Nat.eq_of_beq_eq_true h
set_option maxHeartbeats 4000000 in
theorem mm_sf {i : Instr} {pc' : Nat} {a a' : Prop} {ls' : List (Option mm_V)} {st' : List mm_V} {w' : mm_M} (hd : decode K.1.2.1 pc = .ok (i, pc' - pc)) (hs : mm_small K.1.2.2.1 pc i = true) (hl : mm_il i = 0 ∨ pc' = pc + mm_il i) (hfl : ∀ q ∈ K.2.2.2.2.1, mm_fok K.1.2.2.2.2 q)
    (h : mm_st K.2.2.2.2.1 i ls st b w a = some (ls', st', w', a')) (ha : a') : a ∧ (mm_Wk K n pc' ls' st' b w' Q → mm_Wk K n pc ls st b w Q) := by
  have hlen : mm_il i ≠ 0 → pc' = pc + mm_il i := fun q => hl.resolve_left q
  have hdd : mm_il i ≠ 0 → decode K.1.2.1 pc = .ok (i, mm_il i) := fun q => by
    have := hlen q
    rw [hd, show pc' - pc = mm_il i by omega]
  unfold mm_st at h
  split at h
  · cases h; rw [hlen (Nat.succ_ne_zero _)]; exact ⟨ha, k_iconst (hdd (Nat.succ_ne_zero _)) (by have := of_decide_eq_true hs; exact ⟨by omega, by omega⟩)⟩
  · cases h; rw [hlen (Nat.succ_ne_zero _)]; exact ⟨ha, k_bipush (hdd (Nat.succ_ne_zero _)) (of_decide_eq_true hs)⟩
  · cases h; rw [hlen (Nat.succ_ne_zero _)]; exact ⟨ha, k_sipush (hdd (Nat.succ_ne_zero _)) (of_decide_eq_true hs)⟩
  · unfold mm_ldv at h
    split at h
    · split at h
      · rename_i h0 _; cases h0
      · cases h; rw [hlen (Nat.succ_ne_zero _)]; exact ⟨ha, k_iload (hdd (Nat.succ_ne_zero _)) (by assumption)⟩
      · cases h
    · cases h
  · unfold mm_ldv at h
    split at h
    · split at h
      · rename_i h0 _; cases h0
      · cases h; rw [hlen (Nat.succ_ne_zero _)]; exact ⟨ha, k_iload_n (hdd (Nat.succ_ne_zero _)) (by assumption)⟩
      · cases h
    · cases h
  · unfold mm_ldv at h
    split at h
    · split at h
      · cases h; rw [hlen (Nat.succ_ne_zero _)]; exact ⟨ha, k_aload (hdd (Nat.succ_ne_zero _)) (by assumption)⟩
      · rename_i h0 _; cases h0
      · cases h
    · cases h
  · unfold mm_ldv at h
    split at h
    · split at h
      · cases h; rw [hlen (Nat.succ_ne_zero _)]; exact ⟨ha, k_aload_n (hdd (Nat.succ_ne_zero _)) (by assumption)⟩
      · rename_i h0 _; cases h0
      · cases h
    · cases h
  · cases h; rw [hlen (Nat.succ_ne_zero _)]; exact ⟨ha, k_istore (hdd (Nat.succ_ne_zero _)) (of_decide_eq_true hs)⟩
  · cases h; rw [hlen (Nat.succ_ne_zero _)]; exact ⟨ha, k_istore_n (hdd (Nat.succ_ne_zero _)) (of_decide_eq_true hs)⟩
  · cases h; rw [hlen (Nat.succ_ne_zero _)]; exact ⟨ha, k_astore (hdd (Nat.succ_ne_zero _)) (of_decide_eq_true hs)⟩
  · cases h; rw [hlen (Nat.succ_ne_zero _)]; exact ⟨ha, k_astore_n (hdd (Nat.succ_ne_zero _)) (of_decide_eq_true hs)⟩
  · split at h
    · rename_i hq; cases h; rw [hlen (Nat.succ_ne_zero _)]; exact ⟨ha.1, k_iinc (hdd (Nat.succ_ne_zero _)) hq ha.2⟩
    · cases h
  · cases h; rw [hlen (Nat.succ_ne_zero _)]; exact ⟨ha.1, k_iadd (hdd (Nat.succ_ne_zero _)) ha.2⟩
  · cases h; rw [hlen (Nat.succ_ne_zero _)]; exact ⟨ha.1, k_isub (hdd (Nat.succ_ne_zero _)) ha.2⟩
  · cases h; rw [hlen (Nat.succ_ne_zero _)]; exact ⟨ha.1, k_imul (hdd (Nat.succ_ne_zero _)) ha.2⟩
  · cases h; rw [hlen (Nat.succ_ne_zero _)]; exact ⟨ha.1, k_idiv (hdd (Nat.succ_ne_zero _)) ha.2⟩
  · cases h; rw [hlen (Nat.succ_ne_zero _)]; exact ⟨ha.1, k_irem (hdd (Nat.succ_ne_zero _)) ha.2⟩
  · cases h; rw [hlen (Nat.succ_ne_zero _)]; exact ⟨ha, k_iand (hdd (Nat.succ_ne_zero _))⟩
  · cases h; rw [hlen (Nat.succ_ne_zero _)]; exact ⟨ha, k_ior (hdd (Nat.succ_ne_zero _))⟩
  · cases h; rw [hlen (Nat.succ_ne_zero _)]; exact ⟨ha, k_ixor (hdd (Nat.succ_ne_zero _))⟩
  · cases h; rw [hlen (Nat.succ_ne_zero _)]; exact ⟨ha, k_ishl (hdd (Nat.succ_ne_zero _))⟩
  · cases h; rw [hlen (Nat.succ_ne_zero _)]; exact ⟨ha, k_ishr (hdd (Nat.succ_ne_zero _))⟩
  · cases h; rw [hlen (Nat.succ_ne_zero _)]; exact ⟨ha.1, k_ineg (hdd (Nat.succ_ne_zero _)) ha.2⟩
  · cases h; rw [hlen (Nat.succ_ne_zero _)]; exact ⟨ha.1, k_i2c (hdd (Nat.succ_ne_zero _)) ha.2⟩
  · cases h; rw [hlen (Nat.succ_ne_zero _)]; exact ⟨ha, k_dup (hdd (Nat.succ_ne_zero _))⟩
  · cases h; rw [hlen (Nat.succ_ne_zero _)]; exact ⟨ha, k_dup2 (hdd (Nat.succ_ne_zero _))⟩
  · cases h; rw [hlen (Nat.succ_ne_zero _)]; exact ⟨ha, k_pop (hdd (Nat.succ_ne_zero _))⟩
  · unfold mm_get at h
    split at h
    · cases h
    · rename_i q1 c0 k0 t0 ki0 hq
      obtain ⟨hm, he⟩ := mm_lnk_mem hq
      have he : q1 = _ := he
      subst he
      split at h
      · rename_i hg
        split at h
        · rename_i hb1 hb2
          cases h
          rw [← mm_beq hb1] at hg
          rw [hlen (Nat.succ_ne_zero _)]
          exact ⟨ha, k_getI (hfl _ hm) hg (hdd (Nat.succ_ne_zero _)) (by rw [if_pos hb2])⟩
        · rename_i hb1 hb2
          cases h
          rw [← mm_beq hb1] at hg
          rw [hlen (Nat.succ_ne_zero _)]
          exact ⟨ha, k_getI (hfl _ hm) hg (hdd (Nat.succ_ne_zero _)) (by rw [if_neg (by rw [hb2]; decide)])⟩
        · cases h
      · cases h
  · unfold mm_put at h
    split at h
    · cases h
    · rename_i q1 c0 k0 t0 ki0 hq
      obtain ⟨hm, he⟩ := mm_lnk_mem hq
      have he : q1 = _ := he
      subst he
      split at h
      · rename_i hg
        split at h
        · rename_i hb1
          cases h
          rw [← mm_beq hb1] at hg
          rw [hlen (Nat.succ_ne_zero _)]
          exact ⟨ha, k_putI (hfl _ hm) hg (Or.inl rfl) (hdd (Nat.succ_ne_zero _))⟩
        · rename_i hb1
          cases h
          rw [← mm_beq hb1] at hg
          rw [hlen (Nat.succ_ne_zero _)]
          exact ⟨ha.1, k_putI (hfl _ hm) hg (Or.inr ⟨rfl, ha.2⟩) (hdd (Nat.succ_ne_zero _))⟩
        · cases h
      · cases h
  · unfold mm_ld at h
    split at h
    rename_i hg
    split at h
    · rename_i hb1; cases h; rw [← mm_beq hb1] at hg; rw [hlen (Nat.succ_ne_zero _)]; exact ⟨ha.1, k_iaload hg ha.2 (hdd (Nat.succ_ne_zero _))⟩
    · cases h
  · unfold mm_ld at h
    split at h
    rename_i hg
    split at h
    · rename_i hb1; cases h; rw [← mm_beq hb1] at hg; rw [hlen (Nat.succ_ne_zero _)]; exact ⟨ha.1, k_baload hg ha.2 (hdd (Nat.succ_ne_zero _))⟩
    · cases h
  · unfold mm_ld at h
    split at h
    rename_i hg
    split at h
    · rename_i hb1; cases h; rw [← mm_beq hb1] at hg; rw [hlen (Nat.succ_ne_zero _)]; exact ⟨ha.1, k_caload hg ha.2 (hdd (Nat.succ_ne_zero _))⟩
    · cases h
  · unfold mm_sto at h
    split at h
    rename_i hg
    split at h
    · rename_i hb1; cases h; rw [← mm_beq hb1] at hg; rw [hlen (Nat.succ_ne_zero _)]; exact ⟨ha.1, k_iastore hg ha.2 (hdd (Nat.succ_ne_zero _))⟩
    · cases h
  · unfold mm_sto at h
    split at h
    rename_i hg
    split at h
    · rename_i hb1; cases h; rw [← mm_beq hb1] at hg; rw [hlen (Nat.succ_ne_zero _)]; exact ⟨ha.1.1, k_bastore hg ha.1.2 ha.2 (hdd (Nat.succ_ne_zero _))⟩
    · cases h
  · unfold mm_sto at h
    split at h
    rename_i hg
    split at h
    · rename_i hb1; cases h; rw [← mm_beq hb1] at hg; rw [hlen (Nat.succ_ne_zero _)]; exact ⟨ha.1.1, k_castore hg ha.1.2 ha.2 (hdd (Nat.succ_ne_zero _))⟩
    · cases h
  · unfold mm_lda at h
    split at h
    · rename_i hg; cases h; rw [hlen (Nat.succ_ne_zero _)]; exact ⟨ha.1, k_aaload hg ha.2 (hdd (Nat.succ_ne_zero _))⟩
    · cases h
  · unfold mm_len at h
    split at h
    · rename_i hg; cases h; rw [hlen (Nat.succ_ne_zero _)]; exact ⟨ha, k_arraylength hg (by
        have hm : ∀ q ∈ mm_gl, q.2.1 < 2147483648 := by decide +kernel
        unfold mm_gk at hg
        generalize hz : mm_nth mm_gl _ = z at hg
        cases z with
        | none => cases hg
        | some q =>
          have hq : q = _ := hg
          have := hm q (mm_nth_mem hz)
          rw [hq] at this
          exact this) (hdd (Nat.succ_ne_zero _))⟩
    · cases h
  · cases h
end MMR3
