/-! ===== the law's loop ===== -/
section LWR4
variable {p : Program} {l : Launch} {e : Env} {s : State} {m : MethodId} {below : List Frame} {meth : Method} {c : Code} {ad L : Nat} {xs : Nat → Int32} {X : mm_X}
theorem l_loop (hC : lwC p s m meth c ad L xs X) : ∀ (N : Nat) (i : Int) (w : mm_M) (r y : Bool), 0 ≤ i → i ≤ 2560 + 5 → (L : Int) < i + 5 * N → INV w (r, true) y → lwW p l e s m below meth c ad X (pot r y) 18 (lwL i) [] (PH (r, true) y) w := by
  intro N
  induction N with
  | zero =>
    intro i w r y h0 h1 h2 hI
    refine l_head hC rfl (fun _ => l_end hC) (fun h => ?_)
    exact absurd h (by omega)
  | succ N ih =>
    intro i w r y h0 h1 h2 hI
    refine l_head hC rfl (fun _ => l_end hC) (fun h5 => ?_)
    have hLL := hC.2.2.2
    have hi : 0 ≤ i ∧ i + 5 ≤ L := ⟨h0, h5⟩
    have hb : ∀ rr yy w2, INV w2 (rr, true) yy → lwW p l e s m below meth c ad X (pot rr yy) 668 (lwL i) [] (PH (rr, true) yy) w2 := fun rr yy w2 hI2 => by
      refine l_iinc hC d_law_668 (i := 3) rfl (by decide) ⟨by omega, by omega⟩ ?_
      refine l_goto hC d_law_671 (tgt := 18) (by decide) ?_
      exact ih (i + 5) w2 rr yy (by omega) (by omega) (by omega) hI2
    refine l_sw hC rfl hi (fun j off ho => ?_) (hb r y w hI)
    match j, ho with
    | 0, ho => cases ho; exact lc_write hC hi hI hb
    | 1, ho => cases ho; exact lc_wipe hC hi hI hb
    | 2, ho => cases ho; exact lc_fault hC hi hI hb
    | 3, ho => cases ho; exact lc_lay hC hi hI hb
    | 4, ho => cases ho; exact lc_edge hC hi hI hb
    | 5, ho => cases ho; exact lc_turn hC hi hI hb
    | 6, ho => cases ho; exact lc_so hC hi hI hb
    | 7, ho => cases ho; exact lc_gone hC hi hI hb
    | 8, ho => cases ho; exact lc_real hC hi hI hb
    | 9, ho => cases ho; exact lc_run hC hi hI hb
    | 10, ho => cases ho; exact lc_look hC hi hI hb
    | 11, ho => cases ho; exact lc_looked hC hi hI hb
    | 12, ho => cases ho; exact lc_may hC hi hI hb
    | 13, ho => cases ho; exact lc_state hC hi hI hb
    | 14, ho => cases ho; exact lc_found hC hi hI hb
    | 15, ho => cases ho; exact lc_path hC hi hI hb
    | 16, ho => cases ho; exact lc_mend hC hi hI hb
    | 17, ho => cases ho; exact lc_check hC hi hI hb
    | 18, ho => cases ho; exact lc_undo hC hi hI hb
    | 19, ho => cases ho; exact lc_count hC hi hI hb
    | j + 20, ho => exact absurd (List.getElem?_eq_some_iff.mp ho).1 (by simp [lw_offs])
end LWR4
