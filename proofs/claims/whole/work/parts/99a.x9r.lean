/-! ===== the class's constructor: the constant text ===== -/
theorem Lit_JS {adK adV : Nat → Nat} {A : Nat → Prop} {s U : State} {H : Heap} {locs : List Loc} (hV : vk_S 1 [73] [mm_tb] adK adV A s s.heap) (hZ : va_Z "java/lang/String" "COMPACT_STRINGS" "Z" (.int 1) A s s.heap) (hQ : va_Zq "jdk/internal/util/Preconditions" "SIOOBE_FORMATTER" "Ljava/util/function/BiFunction;" A s s.heap) (hS : va_S A s.heap H locs) (hvm : s.vm.Alike U.vm) (hU : U.heap = H) : JS adK adV U := by
  refine ⟨?_, ?_, ?_⟩
  · rw [hU]; exact ((hV.kept hS.2.1).narrow (fun _ h => False.elim h)).moved hvm
  · rw [hU]; exact ((hZ.kept hS.2.1).narrow (fun _ h => False.elim h)).moved hvm
  · rw [hU]; exact ((hQ.kept hS.2.1).narrow (fun _ h => False.elim h)).moved hvm
section MXR
variable {n : Nat × Nat} {ls : List (Option mm_V)} {st : List mm_V} {b : mm_B} {w : mm_M} {Q : Option mm_V → mm_B → mm_M → Prop}
theorem dX9i_63 : decode K_X9_init.1.2.1 63 = .ok (.ldc 43, 2) := (ok_X9_init.1 (63, .ldc 43, 65) (List.mem_of_getElem? (i := 31) rfl)).1
theorem dX9i_75 : decode K_X9_init.1.2.1 75 = .ok (.ldc 43, 2) := (ok_X9_init.1 (75, .ldc 43, 77) (List.mem_of_getElem? (i := 36) rfl)).1
theorem dX9i_65 : decode K_X9_init.1.2.1 65 = .ok (.invokevirtual 45, 3) := (ok_X9_init.1 (65, .invokevirtual 45, 68) (List.mem_of_getElem? (i := 32) rfl)).1
theorem dX9i_77 : decode K_X9_init.1.2.1 77 = .ok (.iload_n 1, 1) := (ok_X9_init.1 (77, .iload_n 1, 78) (List.mem_of_getElem? (i := 37) rfl)).1
theorem dX9i_78 : decode K_X9_init.1.2.1 78 = .ok (.invokevirtual 51, 3) := (ok_X9_init.1 (78, .invokevirtual 51, 81) (List.mem_of_getElem? (i := 38) rfl)).1
theorem k_slen (hs : st.length ≤ 7) (k : mm_Wk K_X9_init n 68 ls (.inl 73 :: st) b w Q) : mm_Wk K_X9_init n 63 ls st b w Q := by
  intro p l e R s m args below meth c X α0 b0 A H locs cells slots α kls ⟨hC, hR, hA, hS, hO, hL, hst, hn⟩
  obtain ⟨adK, adV, hV, hRf, hZ, hQ⟩ := hA.2 rfl
  have hG := hC.2.2.2.2.2.2.1
  refine va_ldcS hC.1 hC.2.1 hC.2.2.2.2.2.1 hRf dX9i_63 ?_
  refine va_calli (va_runV (As := []) (rest := st.map (mm_v α)) (bytes := cJ0_length_8abf5) (maxL := 1) (ret := some .int) (n := 0) ⟨hC.1, hC.2.1, hC.2.2.1, hC.2.2.2.2.2.1, hG⟩ (js_length l (adK := adK) (adV := adV)) ⟨callB_of 0 hG (js_good (tb_in 237 (by decide +kernel) (by decide +kernel))) rfl rfl rfl (hG _ (tb_in 74 (by decide +kernel) (by decide +kernel))) (hG _ (tb_in 234 (by decide +kernel) (by decide +kernel))) ⟨by decide, by decide, by decide +kernel⟩ ⟨by rw [hC.2.2.2.2.2.2.2.2.2.1]; exact Nat.le_of_ble_eq_true rfl, by rw [hC.2.2.2.2.2.2.2.2.2.2.1]; exact Nat.le_of_ble_eq_true rfl⟩, hG _ (tb_in 235 (by decide +kernel) (by decide +kernel)), hG _ (tb_in 236 (by decide +kernel) (by decide +kernel))⟩ ⟨JS.blind, vk_recv hV (by decide) hS, fun U hU hW => ⟨rfl, Lit_JS hV hZ hQ hS hW.alike hU⟩⟩ rfl rfl hL.2.1 rfl (lv_room (by rw [mm_sum]; omega)) dX9i_65 ⟨by omega, by omega⟩) hS (fun q _ h => False.elim h) (fun q h => False.elim h) (fun r u t H1 locs1 ht hvm hw hB hz1 hk1 hS1 => ?_)
  subst hw
  exact k p l e R s m args below meth c X α0 b0 A H1 locs1 (cells + 0) (slots + 0) α kls ⟨hC, ⟨hR.1.kept (fun z x hx => hk1 x.1 ((hR.1 z x hx).lt) (fun h => h)), hR.2⟩, hA, hS1, hO, hL, mm_stC hst (show mm_in 73 from by decide), hn⟩
theorem k_schar {i : Int} (hs : st.length ≤ 6) (hl : mm_nth ls 1 = some (some (.inl i))) (hi : 0 ≤ i ∧ i < 73) (k : mm_Wk K_X9_init n 81 ls (.inl (tx i) :: st) b w Q) : mm_Wk K_X9_init n 75 ls st b w Q := by
  intro p l e R s m args below meth c X α0 b0 A H locs cells slots α kls ⟨hC, hR, hA, hS, hO, hL, hst, hn⟩
  obtain ⟨adK, adV, hV, hRf, hZ, hQ⟩ := hA.2 rfl
  have hG := hC.2.2.2.2.2.2.1
  obtain ⟨h1, h2⟩ := hL.2.2.2 1 _ hl
  refine va_ldcS hC.1 hC.2.1 hC.2.2.2.2.2.1 hRf dX9i_75 ?_
  refine lv_iload_n hC.1 hC.2.1 dX9i_77 rfl h1 ?_
  rw [show Int32.ofInt i = nI i.toNat from by
    apply Int32.toInt_inj.mp
    rw [nI_toInt (by omega), mm_i1 h2]
    omega]
  refine va_calli (va_runV (As := [.int (nI i.toNat)]) (rest := st.map (mm_v α)) (bytes := cJ0_charAt_5068e) (maxL := 2) (ret := some .char) (n := 1) ⟨hC.1, hC.2.1, hC.2.2.1, hC.2.2.2.2.2.1, hG⟩ (js_charAt l (adK := adK) (adV := adV) (show i.toNat < 73 by omega)) ⟨callB_of 1 hG (js_good (tb_in 247 (by decide +kernel) (by decide +kernel))) rfl rfl rfl (hG _ (tb_in 74 (by decide +kernel) (by decide +kernel))) (hG _ (tb_in 244 (by decide +kernel) (by decide +kernel))) ⟨by decide, by decide, by decide +kernel⟩ ⟨by rw [hC.2.2.2.2.2.2.2.2.2.1]; exact Nat.le_of_ble_eq_true rfl, by rw [hC.2.2.2.2.2.2.2.2.2.2.1]; exact Nat.le_of_ble_eq_true rfl⟩, hG _ (tb_in 245 (by decide +kernel) (by decide +kernel)), hG _ (tb_in 246 (by decide +kernel) (by decide +kernel))⟩ ⟨JS.blind, vk_recv hV (by decide) hS, fun U hU hW => ⟨rfl, Lit_JS hV hZ hQ hS hW.alike hU⟩⟩ rfl rfl hL.2.1 rfl (lv_room (by rw [mm_sum]; omega)) dX9i_78 ⟨by omega, by omega⟩) hS (fun q _ h => False.elim h) (fun q h => False.elim h) (fun r u t H1 locs1 ht hvm hw hB hz1 hk1 hS1 => ?_)
  subst hw
  have k := k p l e R s m args below meth c X α0 b0 A H1 locs1 (cells + 0) (slots + 0) α kls ⟨hC, ⟨hR.1.kept (fun z x hx => hk1 x.1 ((hR.1 z x hx).lt) (fun h => h)), hR.2⟩, hA, hS1, hO, hL, mm_stC hst (mm_in32 _), hn⟩
  rw [List.map_cons, show mm_v α (.inl (tx i)) = .int (js_ch i.toNat) from congrArg Value.int (Int32.ofInt_toInt _)] at k
  exact k
end MXR
