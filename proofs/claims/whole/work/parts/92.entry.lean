/-! THE LAW from its entry -/
section LS
variable {nm : String} {C : zC}
theorem law_start (hN : C.2.2.2.1 ≤ 3072) : Sem C (QL C) 0 (Y_L nm) room_1 0 [(0, .ref 1000002)] [] (zhl ([] ++ [])) 0 0 := by
  have h0 : hCl ([] ++ [] : List zO) := fun o ho => absurd ho List.not_mem_nil
  refine T_new (N := 0) 0 (n := 13) (xs' := [z0 10 13]) rfl ⟨by omega, by omega⟩ rfl rfl (by decide) l_RL_7 i_X10 j_X10 dL_law_0 h0 ⟨Or.inr (Nat.le_of_ble_eq_true rfl), trivial⟩ trivial (Nat.le_of_ble_eq_true rfl) (Nat.le_of_ble_eq_true rfl) rfl (fun hc => ?_)
  refine S_dup dL_law_3 rfl ?_
  refine T_callI (N := 0) 1 (xs' := o_X10 0) [] [.ref (0 + 0)] rfl rfl m_RL_9 rfl rfl (Nat.le_of_ble_eq_true rfl) (d := 37 + 3) (mc := 264) (ms := 3017) ⟨Nat.le_of_ble_eq_true rfl, Nat.le_of_ble_eq_true rfl, Nat.le_of_ble_eq_true rfl, Nat.le_of_ble_eq_true rfl⟩ (by decide) ⟨Or.inr (Nat.le_of_ble_eq_true rfl), trivial⟩ ⟨zok_r (by omega), trivial⟩ dL_law_4 (zmade_to (xs0 := []) rfl rfl (c_X10 37 rfl (by omega) hc)) (fun hc => ?_)
  refine S_astore_n (lv' := [(1, .ref 0), (0, .ref 1000002)]) dL_law_7 rfl (Nat.le_of_ble_eq_true rfl) rfl ?_
  refine T_new (N := 0) 265 (n := 46) (xs' := o_X10 0 ++ [z0 11 46]) rfl ⟨by omega, by omega⟩ oz_10 rfl (by decide) l_RL_10 i_X11 j_X11 dL_law_8 hc ⟨zok_r (by omega), Or.inr (Nat.le_of_ble_eq_true rfl), trivial⟩ trivial (Nat.le_of_ble_eq_true rfl) (Nat.le_of_ble_eq_true rfl) rfl (fun hc => ?_)
  refine S_dup dL_law_11 rfl ?_
  refine T_callI (N := 0) 266 (xs' := oz) [] [.ref (0 + 265)] rfl (by rw [List.length_append, oz_10]; rfl) m_RL_12 rfl rfl (Nat.le_of_ble_eq_true rfl) (d := 39 + 1) (mc := 31) (ms := 2072) ⟨Nat.le_of_ble_eq_true rfl, Nat.le_of_ble_eq_true rfl, Nat.le_of_ble_eq_true rfl, Nat.le_of_ble_eq_true rfl⟩ (by decide) ⟨zok_r (by omega), Or.inr (Nat.le_of_ble_eq_true rfl), trivial⟩ ⟨zok_r (by omega), trivial⟩ dL_law_12 (zmade_to (xs0 := o_X10 0) rfl rfl (c_X11 39 (by rw [List.nil_append, oz_10]) (by omega) (by rw [List.nil_append]; exact hc))) (fun _ => ?_)
  refine S_astore_n (lv' := [(2, .ref 265), (1, .ref 0), (0, .ref 1000002)]) dL_law_15 rfl (Nat.le_of_ble_eq_true rfl) rfl ?_
  refine S_iconst (v := 0) dL_law_16 (by decide) ?_
  refine S_istore_n (lv' := [(3, .int 0), (2, .ref 265), (1, .ref 0), (0, .ref 1000002)]) dL_law_17 rfl (Nat.le_of_ble_eq_true rfl) rfl ?_
  refine S_sub (lv' := lLV (nI 0)) [3, 2, 1, 0] rfl ?_
  refine Sem_z ?_
  exact law_loop hN (Nat.le_of_ble_eq_true rfl) (Nat.le_of_ble_eq_true rfl) (fun _ _ _ _ => law_end (Nat.le_of_ble_eq_true rfl) (Nat.le_of_ble_eq_true rfl)) (C.2.2.2.1 + 6) 0 _ _ _ (by omega) (Nat.zero_le _) Inv_z
end LS
