/-! ===== for walks by program ===== -/
section MMR8
variable {K : mm_K} {n : Nat × Nat} {pc : Nat} {ls : List (Option mm_V)} {st : List mm_V} {b : mm_B} {w : mm_M} {Q : Option mm_V → mm_B → mm_M → Prop}
theorem k_gp {pc' : Nat} {ls' : List (Option mm_V)} {st' : List mm_V} {w' : mm_M} {a' : Prop} (h : mm_run K.2.2.1 K.2.2.2.1 K.2.2.2.2.1 400 (mm_lk K.2.2.1 pc) pc ls st b w True = (pc', ls', st', w', a')) (hp : Nat.beq pc pc' = false) (ha : a') (k : mm_Wk K n pc' ls' st' b w' Q) : mm_Wk K n pc ls st b w Q := k_go h ha k
theorem k_brt {P : Prop} {t f : Nat} {st' : List mm_V} (h : mm_brk K.2.2.1 pc st = some (P, t, f, st')) (hP : P) (kt : mm_Wk K n t ls st' b w Q) : mm_Wk K n pc ls st b w Q := k_br h (fun _ => kt) (fun q => absurd hP q)
theorem k_brf {P : Prop} {t f : Nat} {st' : List mm_V} (h : mm_brk K.2.2.1 pc st = some (P, t, f, st')) (hP : ¬ P) (kf : mm_Wk K n f ls st' b w Q) : mm_Wk K n pc ls st b w Q := k_br h (fun q => absurd q hP) (fun _ => kf)
end MMR8
