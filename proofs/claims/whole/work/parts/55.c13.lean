/-! ===== the class: is the way real; a state more ===== -/
def adW (w : mm_M) (trap p cb fr : Int) : mm_M := mm_up (mm_up (mm_up (if p = trap ∧ w 77 0 10 = -4 then mm_up w 77 0 10 (w 77 0 9) else w) 78 0 (w 77 0 9) (p * 256 + cb)) 79 0 (w 77 0 9) fr) 77 0 9 (w 77 0 9 + 1)
section MC
variable {r : Bool × Bool} {y : Bool} {w : mm_M} {np trap nv nc ne : Int} {c e : Int → Int → Int} {f : Int → Int}
theorem ev_c_isReal {ρ : List Int} (hO : PO np trap nv nc ne c e) (hP : PC w np trap nv nc ne c e f) (hM : MM w nv nc c f) (hR : RW w ρ) (hρ : ∀ x ∈ ρ, 0 ≤ x ∧ x < ne) : mm_Ev K_X8_isReal (0, 0) [.inr (some (66, 0))] (PH r y) w (fun a b' w' => b' = PH r y ∧ sm farL w w' ∧ ∃ z, a = some (.inl (ib (z = (ρ.length : Int)))) ∧ FAR c e f nv ρ z) := by
  refine ev_intro ok_X8_isReal mo_X8_isReal (Nat.le_of_ble_eq_true rfl) (fun hrg has => ?_)
  refine k_gp rfl rfl trivial ?_
  refine k_call0 rfl (ev_c_far hO hP hM hR hρ) rfl rfl rfl (by decide) ?_
  rintro a b' w1 ⟨rfl, s1, z, rfl, hz⟩
  have e5 : w1 66 0 5 = ρ.length := (s1 66 0 5 rfl).trans hR.1
  refine k_gp rfl rfl trivial ?_
  rw [e5]
  refine k_br rfl (fun g => ?_) (fun g => ?_)
  · refine k_gp rfl rfl trivial ?_
    exact k_ret rfl (by decide) ⟨rfl, s1, z, by rw [ib_f g], hz⟩
  · have g : z = ρ.length := Classical.byContradiction g
    refine k_gp rfl rfl trivial ?_
    exact k_ret rfl (by decide) ⟨rfl, s1, z, by rw [ib_t g], hz⟩
theorem ev_c_madd {p cb fr : Int} (hp : 0 ≤ p ∧ p < 8) (hc : 0 ≤ cb ∧ cb < 256) (hn : 0 ≤ w 77 0 9 ∧ w 77 0 9 < 2048) : mm_Ev K_X2_add (0, 0) [.inr (some (77, 0)), .inl p, .inl cb, .inl fr] (PH r y) w (mm_pe none (PH r y) (adW w (w 32 0 1) p cb fr)) := by
  refine ev_intro ok_X2_add mo_X2_add (Nat.le_of_ble_eq_true rfl) (fun hrg has => ?_)
  have J28 : ∀ w1 : mm_M, w1 77 0 9 = w 77 0 9 → mm_Wk K_X2_add (0, 0) 28 [some (.inr (some (77, 0))), some (.inl p), some (.inl cb), some (.inl fr)] [] (PH r y) w1 (mm_pe none (PH r y) (mm_up (mm_up (mm_up w1 78 0 (w 77 0 9) (p * 256 + cb)) 79 0 (w 77 0 9) fr) 77 0 9 (w 77 0 9 + 1))) := fun w1 h1 => by
    have f1 : ∀ q v, mm_up w1 78 0 q v 77 0 9 = w 77 0 9 := fun q v => (up_g rfl).trans h1
    have f2 : ∀ q v q2 v2, mm_up (mm_up w1 78 0 q v) 79 0 q2 v2 77 0 9 = w 77 0 9 := fun q v q2 v2 => (up_g rfl).trans (f1 q v)
    refine k_gp rfl rfl (by simp only [true_and, mm_fits, h1, f1, f2]; omega) ?_
    rw [h1, f1, f2]
    exact k_ret rfl trivial ⟨rfl, rfl, rfl⟩
  unfold adW
  refine k_gp rfl rfl trivial ?_
  refine k_br rfl (fun g => ?_) (fun g => ?_)
  · rw [if_neg (fun q => g q.1)]
    exact J28 w rfl
  · have g : p = w 32 0 1 := Classical.byContradiction g
    refine k_gp rfl rfl trivial ?_
    refine k_br rfl (fun g2 => ?_) (fun g2 => ?_)
    · rw [if_neg (fun q => g2 q.2)]
      exact J28 w rfl
    · have g2 : w 77 0 10 = -4 := Classical.byContradiction g2
      rw [if_pos ⟨g, g2⟩]
      refine k_gp rfl rfl trivial ?_
      exact J28 _ (up_k (by decide))
end MC
