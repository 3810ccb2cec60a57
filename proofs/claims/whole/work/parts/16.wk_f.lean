set_option maxRecDepth 100000 in
theorem t_X11_above {C : zC} {I : Nat → Nat → Int32} {L : Nat → Nat → Int64} {M : Nat → Nat → Option Nat} (d : Nat) (x0 : Int32)  (K : Int32 → (Nat → Nat → Int32) → (Nat → Nat → Int64) → (Nat → Nat → Option Nat) → Prop) (T : ((¬ x0 = 4 → ((¬ x0 = 5 → ((¬ x0 = 6 → K 0 I L M) ∧ (x0 = 6 → K 3 I L M))) ∧ (x0 = 5 → K 2 I L M))) ∧ (x0 = 4 → K 1 I L M))) : zCI C Y_X11_above (d + 1) [.int x0] (zmk I L M) K := by
  refine S_enter (by decide) (Nat.le_of_ble_eq_true rfl) ?_
  refine S_lv (lv' := [(0, .int x0)]) rfl ?_
  refine S_iload_n 0 dX11_above_0 rfl rfl ?_
  refine S_iconst (v := 4) dX11_above_1 (by decide) ?_
  refine S_icmp_ne (tgt := 9) dX11_above_2 (by decide) (fun q1 => ?_) (fun q1 => ?_)
  · refine S_iload_n 0 dX11_above_9 rfl rfl ?_
    refine S_iconst (v := 5) dX11_above_10 (by decide) ?_
    refine S_icmp_ne (tgt := 18) dX11_above_11 (by decide) (fun q2 => ?_) (fun q2 => ?_)
    · refine S_iload_n 0 dX11_above_18 rfl rfl ?_
      refine S_bipush (v := 6) dX11_above_19 (by decide) ?_
      refine S_icmp_ne (tgt := 28) dX11_above_21 (by decide) (fun q3 => ?_) (fun q3 => ?_)
      · refine S_iconst (v := 0) dX11_above_28 (by decide) ?_
        exact S_ireti rfl dX11_above_29 ⟨_, I, L, M, rfl, rfl, (((T.1 q1).1 q2).1 q3)⟩
      · refine S_iconst (v := 3) dX11_above_24 (by decide) ?_
        refine S_goto (tgt := 29) dX11_above_25 (by decide) ?_
        exact S_ireti rfl dX11_above_29 ⟨_, I, L, M, rfl, rfl, (((T.1 q1).1 q2).2 q3)⟩
    · refine S_iconst (v := 2) dX11_above_14 (by decide) ?_
      refine S_goto (tgt := 29) dX11_above_15 (by decide) ?_
      exact S_ireti rfl dX11_above_29 ⟨_, I, L, M, rfl, rfl, ((T.1 q1).2 q2)⟩
  · refine S_iconst (v := 1) dX11_above_5 (by decide) ?_
    refine S_goto (tgt := 29) dX11_above_6 (by decide) ?_
    exact S_ireti rfl dX11_above_29 ⟨_, I, L, M, rfl, rfl, (T.2 q1)⟩

set_option maxRecDepth 100000 in
theorem t_X11_act {C : zC} {I : Nat → Nat → Int32} {L : Nat → Nat → Int64} {M : Nat → Nat → Option Nat} (d : Nat) (x1 : Int32) (x2 : Int32) (x3 : Int32)  (K : Int32 → (Nat → Nat → Int32) → (Nat → Nat → Int64) → (Nat → Nat → Option Nat) → Prop) (T : ((¬ (0 ≤ x1 ∧ x1 ≤ (u2 I 265 37 0) 265 2 - 1) → K 0 (u2 I 265 37 0) L M) ∧ ((0 ≤ x1 ∧ x1 ≤ (u2 I 265 37 0) 265 2 - 1) → ((((0 : Int32) ≤ x2 ∧ x2 ≤ 2) → vp_in x1 6 ∧ ((¬ x2 = 0 → ((¬ x2 = 1 → zCI C Y_X11_tells (d + 4) [.ref 265, .int x1, .int (I 268 x1.toNatClampNeg), .int x3] (zmk (u2 I 265 37 0) L M) (fun r1_5 I1_5 L1_5 M1_5 => K r1_5 I1_5 L1_5 M1_5)) ∧ (x2 = 1 → zCI C Y_X11_wakes (d + 4) [.ref 265, .int x1, .int (I 268 x1.toNatClampNeg), .int x3] (zmk (u2 I 265 37 0) L M) (fun r2_5 I2_5 L2_5 M2_5 => K r2_5 I2_5 L2_5 M2_5)))) ∧ (x2 = 0 → zCI C Y_X11_sleeps (d + 4) [.ref 265, .int x1, .int (I 268 x1.toNatClampNeg), .int x3] (zmk (u2 I 265 37 0) L M) (fun r3_4 I3_4 L3_4 M3_4 => K r3_4 I3_4 L3_4 M3_4)))) ∧ (¬ ((0 : Int32) ≤ x2 ∧ x2 ≤ 2) → K 0 (u2 I 265 37 0) L M))))) : zCI C Y_X11_act (d + 5) [.ref 265, .int x1, .int x2, .int x3] (zmk I L M) K := by
  refine S_enter (by decide) (Nat.le_of_ble_eq_true rfl) ?_
  refine S_lv (lv' := [(0, .ref 265), (1, .int x1), (2, .int x2), (3, .int x3)]) rfl ?_
  refine S_aload_n 0 dX11_act_0 rfl rfl ?_
  refine S_iconst (v := 0) dX11_act_1 (by decide) ?_
  refine S_putI f_RX11_314 s_265 (Or.inl rfl) rfl dX11_act_2 ?_
  refine S_aload_n 0 dX11_act_5 rfl rfl ?_
  refine S_iload_n 1 dX11_act_6 rfl rfl ?_
  refine S_callV [.int x1] [] m_RX11_118 rfl rfl s_265 ⟨rfl, by decide⟩ (Nat.le_of_ble_eq_true rfl) (zroom_0 (by decide)) dX11_act_7 (zpure (sp_X11_isOne (I := u2 I 265 37 0) (L := L) (M := M) (d + 2) x1) ?_)
  refine S_if_eq (tgt := 22) dX11_act_10 (by decide) (fun q1 => ?_) (fun q1 => ?_)
  · refine S_iconst (v := 0) dX11_act_22 (by decide) ?_
    exact S_ireti rfl dX11_act_23 ⟨_, u2 I 265 37 0, L, M, rfl, rfl, (T.1 (zb_f q1))⟩
  · refine S_iload_n 2 dX11_act_13 rfl rfl ?_
    refine S_iconst (v := 0) dX11_act_14 (by decide) ?_
    refine S_iconst (v := 2) dX11_act_15 (by decide) ?_
    refine S_callS [.int x2, .int 0, .int 2] [] m_RX11_114 rfl rfl (Nat.le_of_ble_eq_true rfl) (zroom_0 (by decide)) dX11_act_16 (zpure (sp_X11_within (I := u2 I 265 37 0) (L := L) (M := M) (d + 3) x2 0 2) ?_)
    refine S_if_ne (tgt := 24) dX11_act_19 (by decide) (fun q2 => ?_) (fun q2 => ?_)
    · refine S_aload_n 0 dX11_act_24 rfl rfl ?_
      refine S_getP f_RX11_18 s_265 p_265_3 dX11_act_25 ?_
      refine S_iload_n 1 dX11_act_28 rfl rfl ?_
      refine S_iald s_268 ((T.2 (zb_t q1)).1 (zb_t q2)).1 dX11_act_29 ?_
      refine S_istore dX11_act_30 (by decide) rfl ?_
      refine S_iload_n 3 dX11_act_32 rfl rfl ?_
      refine S_if_ne (tgt := 47) dX11_act_33 (by decide) (fun q3 => ?_) (fun q3 => ?_)
      · refine S_iload_n 3 dX11_act_47 rfl rfl ?_
        refine S_iconst (v := 1) dX11_act_48 (by decide) ?_
        refine S_icmp_ne (tgt := 63) dX11_act_49 (by decide) (fun q4 => ?_) (fun q4 => ?_)
        · refine S_aload_n 1 dX11_act_63 rfl rfl ?_
          refine S_iload_n 2 dX11_act_64 rfl rfl ?_
          refine S_iload 0 dX11_act_65 rfl ?_
          refine S_iload_n 4 dX11_act_67 rfl rfl ?_
          refine S_callV [.int x1, .int (I 268 x1.toNatClampNeg), .int x3] [] m_RX11_329 rfl rfl s_265 ⟨rfl, by decide⟩ (Nat.le_of_ble_eq_true rfl) (zroom_0 (by decide)) dX11_act_68 (zCI_use ((((T.2 (zb_t q1)).1 (zb_t q2)).2.1 q3).1 q4) ?_)
          intro r1_5 I1_5 L1_5 M1_5 T1_5
          exact S_ireti rfl dX11_act_71 ⟨_, I1_5, L1_5, M1_5, rfl, rfl, T1_5⟩
        · refine S_aload_n 1 dX11_act_52 rfl rfl ?_
          refine S_iload_n 2 dX11_act_53 rfl rfl ?_
          refine S_iload 0 dX11_act_54 rfl ?_
          refine S_iload_n 4 dX11_act_56 rfl rfl ?_
          refine S_callV [.int x1, .int (I 268 x1.toNatClampNeg), .int x3] [] m_RX11_326 rfl rfl s_265 ⟨rfl, by decide⟩ (Nat.le_of_ble_eq_true rfl) (zroom_0 (by decide)) dX11_act_57 (zCI_use ((((T.2 (zb_t q1)).1 (zb_t q2)).2.1 q3).2 q4) ?_)
          intro r2_5 I2_5 L2_5 M2_5 T2_5
          refine S_goto (tgt := 71) dX11_act_60 (by decide) ?_
          exact S_ireti rfl dX11_act_71 ⟨_, I2_5, L2_5, M2_5, rfl, rfl, T2_5⟩
      · refine S_aload_n 1 dX11_act_36 rfl rfl ?_
        refine S_iload_n 2 dX11_act_37 rfl rfl ?_
        refine S_iload 0 dX11_act_38 rfl ?_
        refine S_iload_n 4 dX11_act_40 rfl rfl ?_
        refine S_callV [.int x1, .int (I 268 x1.toNatClampNeg), .int x3] [] m_RX11_320 rfl rfl s_265 ⟨rfl, by decide⟩ (Nat.le_of_ble_eq_true rfl) (zroom_0 (by decide)) dX11_act_41 (zCI_use (((T.2 (zb_t q1)).1 (zb_t q2)).2.2 q3) ?_)
        intro r3_4 I3_4 L3_4 M3_4 T3_4
        refine S_goto (tgt := 71) dX11_act_44 (by decide) ?_
        exact S_ireti rfl dX11_act_71 ⟨_, I3_4, L3_4, M3_4, rfl, rfl, T3_4⟩
    · refine S_iconst (v := 0) dX11_act_22 (by decide) ?_
      exact S_ireti rfl dX11_act_23 ⟨_, u2 I 265 37 0, L, M, rfl, rfl, ((T.2 (zb_t q1)).2 (zb_f q2))⟩

set_option maxRecDepth 100000 in
theorem t_X11_can {C : zC} {I : Nat → Nat → Int32} {L : Nat → Nat → Int64} {M : Nat → Nat → Option Nat} (d : Nat) (x1 : Int32) (x2 : Int32)  (K : Int32 → (Nat → Nat → Int32) → (Nat → Nat → Int64) → (Nat → Nat → Option Nat) → Prop) (T : ((¬ (0 ≤ x1 ∧ x1 ≤ I 265 2 - 1) → K ((-1)) I L M) ∧ ((0 ≤ x1 ∧ x1 ≤ I 265 2 - 1) → ((((0 : Int32) ≤ x2 ∧ x2 ≤ 1) → vp_in x1 6 ∧ zSI C (zmk I L M) K Y_X11_can (d + 8) 37 [(0, .ref 265), (1, .int x1), (2, .int x2), (3, .int (I 269 x1.toNatClampNeg)), (4, .int 0), (5, .int (-5)), (6, .int 9)] [] I L M) ∧ (¬ ((0 : Int32) ≤ x2 ∧ x2 ≤ 1) → K ((-1)) I L M))))) : zCI C Y_X11_can (d + 8) [.ref 265, .int x1, .int x2] (zmk I L M) K := by
  refine S_enter (by decide) (Nat.le_of_ble_eq_true rfl) ?_
  refine S_lv (lv' := [(0, .ref 265), (1, .int x1), (2, .int x2)]) rfl ?_
  refine S_aload_n 0 dX11_can_0 rfl rfl ?_
  refine S_iload_n 1 dX11_can_1 rfl rfl ?_
  refine S_callV [.int x1] [] m_RX11_118 rfl rfl s_265 ⟨rfl, by decide⟩ (Nat.le_of_ble_eq_true rfl) (zroom_0 (by decide)) dX11_can_2 (zpure (sp_X11_isOne (I := I) (L := L) (M := M) (d + 5) x1) ?_)
  refine S_if_eq (tgt := 17) dX11_can_5 (by decide) (fun q1 => ?_) (fun q1 => ?_)
  · refine S_iconst (v := -1) dX11_can_17 (by decide) ?_
    exact S_ireti rfl dX11_can_18 ⟨_, I, L, M, rfl, rfl, (T.1 (zb_f q1))⟩
  · refine S_iload_n 2 dX11_can_8 rfl rfl ?_
    refine S_iconst (v := 0) dX11_can_9 (by decide) ?_
    refine S_iconst (v := 1) dX11_can_10 (by decide) ?_
    refine S_callS [.int x2, .int 0, .int 1] [] m_RX11_114 rfl rfl (Nat.le_of_ble_eq_true rfl) (zroom_0 (by decide)) dX11_can_11 (zpure (sp_X11_within (I := I) (L := L) (M := M) (d + 6) x2 0 1) ?_)
    refine S_if_ne (tgt := 19) dX11_can_14 (by decide) (fun q2 => ?_) (fun q2 => ?_)
    · refine S_aload_n 0 dX11_can_19 rfl rfl ?_
      refine S_getP f_RX11_21 s_265 p_265_4 dX11_can_20 ?_
      refine S_iload_n 1 dX11_can_23 rfl rfl ?_
      refine S_iald s_269 ((T.2 (zb_t q1)).1 (zb_t q2)).1 dX11_can_24 ?_
      refine S_istore_n dX11_can_25 rfl (by decide) rfl ?_
      refine S_iconst (v := 0) dX11_can_26 (by decide) ?_
      refine S_istore dX11_can_27 (by decide) rfl ?_
      refine S_bipush (v := -5) dX11_can_29 (by decide) ?_
      refine S_istore dX11_can_31 (by decide) rfl ?_
      refine S_bipush (v := 9) dX11_can_33 (by decide) ?_
      refine S_istore dX11_can_35 (by decide) rfl ?_
      exact S_sub [4, 5, 6, 3, 2, 1, 0] rfl ((T.2 (zb_t q1)).1 (zb_t q2)).2
    · refine S_iconst (v := -1) dX11_can_17 (by decide) ?_
      exact S_ireti rfl dX11_can_18 ⟨_, I, L, M, rfl, rfl, ((T.2 (zb_t q1)).2 (zb_f q2))⟩

set_option maxRecDepth 100000 in
theorem t_X11_can_37 {C : zC} {I : Nat → Nat → Int32} {L : Nat → Nat → Int64} {M : Nat → Nat → Option Nat} {h0 : zH} (d : Nat)   (y1 : Int32) (y2 : Int32) (y3 : Int32) (y4 : Int32) (y5 : Int32) (y6 : Int32) (K : Int32 → (Nat → Nat → Int32) → (Nat → Nat → Int64) → (Nat → Nat → Option Nat) → Prop) (T : ((y6 < 0 → vp_in y1 6 ∧ ((¬ y2 = 0 → K y5 (u2 I 269 y1.toNatClampNeg y3) L M) ∧ (y2 = 0 → K y4 (u2 I 269 y1.toNatClampNeg y3) L M))) ∧ (¬ (y6 < 0) → vp_in y1 6 ∧ zCI C Y_X11_isSeen (d + 7) [.ref 265, .int y1] (zmk (u2 I 269 y1.toNatClampNeg y6) L M) (fun r1_2 I1_2 L1_2 M1_2 => ((¬ r1_2 = 0 → zSI C h0 K Y_X11_can (d + 8) 37 [(0, .ref 265), (1, .int y1), (2, .int y2), (3, .int y3), (4, .int (y4 + 1)), (5, .int y6), (6, .int (y6 + (-1)))] [] I1_2 L1_2 M1_2) ∧ (r1_2 = 0 → zSI C h0 K Y_X11_can (d + 8) 37 [(0, .ref 265), (1, .int y1), (2, .int y2), (3, .int y3), (4, .int y4), (5, .int y5), (6, .int (y6 + (-1)))] [] I1_2 L1_2 M1_2)))))) : zSI C h0 K Y_X11_can (d + 8) 37 [(0, .ref 265), (1, .int y1), (2, .int y2), (3, .int y3), (4, .int y4), (5, .int y5), (6, .int y6)] [] I L M := by
  refine S_iload 6 dX11_can_37 rfl ?_
  refine S_if_lt (tgt := 74) dX11_can_39 (by decide) (fun q1 => ?_) (fun q1 => ?_)
  · refine S_aload_n 0 dX11_can_74 rfl rfl ?_
    refine S_getP f_RX11_21 s_265 p_265_4 dX11_can_75 ?_
    refine S_iload_n 1 dX11_can_78 rfl rfl ?_
    refine S_iload_n 3 dX11_can_79 rfl rfl ?_
    refine S_iast s_269 (T.1 q1).1 dX11_can_80 ?_
    refine S_iload_n 2 dX11_can_81 rfl rfl ?_
    refine S_if_ne (tgt := 90) dX11_can_82 (by decide) (fun q2 => ?_) (fun q2 => ?_)
    · refine S_iload 5 dX11_can_90 rfl ?_
      exact S_ireti rfl dX11_can_92 ⟨_, u2 I 269 y1.toNatClampNeg y3, L, M, rfl, rfl, ((T.1 q1).2.1 q2)⟩
    · refine S_iload 4 dX11_can_85 rfl ?_
      refine S_goto (tgt := 92) dX11_can_87 (by decide) ?_
      exact S_ireti rfl dX11_can_92 ⟨_, u2 I 269 y1.toNatClampNeg y3, L, M, rfl, rfl, ((T.1 q1).2.2 q2)⟩
  · refine S_aload_n 0 dX11_can_42 rfl rfl ?_
    refine S_getP f_RX11_21 s_265 p_265_4 dX11_can_43 ?_
    refine S_iload_n 1 dX11_can_46 rfl rfl ?_
    refine S_iload 6 dX11_can_47 rfl ?_
    refine S_iast s_269 (T.2 q1).1 dX11_can_49 ?_
    refine S_aload_n 0 dX11_can_50 rfl rfl ?_
    refine S_iload_n 1 dX11_can_51 rfl rfl ?_
    refine S_callV [.int y1] [] m_RX11_287 rfl rfl s_265 ⟨rfl, by decide⟩ (Nat.le_of_ble_eq_true rfl) (zroom_0 (by decide)) dX11_can_52 (zCI_use (T.2 q1).2 ?_)
    intro r1_2 I1_2 L1_2 M1_2 T1_2
    refine S_if_ne (tgt := 61) dX11_can_55 (by decide) (fun q2 => ?_) (fun q2 => ?_)
    · refine S_iinc 4 dX11_can_61 rfl rfl (by decide) rfl ?_
      refine S_iload 6 dX11_can_64 rfl ?_
      refine S_istore dX11_can_66 (by decide) rfl ?_
      refine S_iinc 6 dX11_can_68 rfl rfl (by decide) rfl ?_
      refine S_goto (tgt := 37) dX11_can_71 (by decide) ?_
      exact S_sub [3, 4, 5, 6, 2, 1, 0] rfl (T1_2.1 q2)
    · refine S_goto (tgt := 68) dX11_can_58 (by decide) ?_
      refine S_iinc 6 dX11_can_68 rfl rfl (by decide) rfl ?_
      refine S_goto (tgt := 37) dX11_can_71 (by decide) ?_
      exact S_sub [1, 2, 3, 4, 5, 6, 0] rfl (T1_2.2 q2)

set_option maxRecDepth 100000 in
theorem t_X11_ends {C : zC} {I : Nat → Nat → Int32} {L : Nat → Nat → Int64} {M : Nat → Nat → Option Nat} (d : Nat) (x1 : Int32)  (K : Int32 → (Nat → Nat → Int32) → (Nat → Nat → Int64) → (Nat → Nat → Option Nat) → Prop) (T : ((((0 : Int32) ≤ x1 ∧ x1 ≤ 1) → zCV C Y_X11_keep (d + 6) [.ref 265, .ref 292] (zmk I L M) (fun I1_2 L1_2 M1_2 => zSI C (zmk I L M) K Y_X11_ends (d + 7) 21 [(0, .ref 265), (1, .int x1), (2, .int 0)] [] I1_2 L1_2 M1_2)) ∧ (¬ ((0 : Int32) ≤ x1 ∧ x1 ≤ 1) → K ((-1)) I L M))) : zCI C Y_X11_ends (d + 7) [.ref 265, .int x1] (zmk I L M) K := by
  refine S_enter (by decide) (Nat.le_of_ble_eq_true rfl) ?_
  refine S_lv (lv' := [(0, .ref 265), (1, .int x1)]) rfl ?_
  refine S_iload_n 1 dX11_ends_0 rfl rfl ?_
  refine S_iconst (v := 0) dX11_ends_1 (by decide) ?_
  refine S_iconst (v := 1) dX11_ends_2 (by decide) ?_
  refine S_callS [.int x1, .int 0, .int 1] [] m_RX11_114 rfl rfl (Nat.le_of_ble_eq_true rfl) (zroom_0 (by decide)) dX11_ends_3 (zpure (sp_X11_within (I := I) (L := L) (M := M) (d + 5) x1 0 1) ?_)
  refine S_if_ne (tgt := 11) dX11_ends_6 (by decide) (fun q1 => ?_) (fun q1 => ?_)
  · refine S_aload_n 0 dX11_ends_11 rfl rfl ?_
    refine S_aload_n 0 dX11_ends_12 rfl rfl ?_
    refine S_getP f_RX11_91 s_265 p_265_41 dX11_ends_13 ?_
    refine S_callV [.ref 292] [] m_RX11_269 rfl rfl s_265 ⟨rfl, by decide⟩ (Nat.le_of_ble_eq_true rfl) (zroom_0 (by decide)) dX11_ends_16 (zCV_use (T.1 (zb_t q1)) ?_)
    intro I1_2 L1_2 M1_2 T1_2
    refine S_iconst (v := 0) dX11_ends_19 (by decide) ?_
    refine S_istore_n dX11_ends_20 rfl (by decide) rfl ?_
    exact S_sub [1, 2, 0] rfl T1_2
  · refine S_iconst (v := -1) dX11_ends_9 (by decide) ?_
    exact S_ireti rfl dX11_ends_10 ⟨_, I, L, M, rfl, rfl, (T.2 (zb_f q1))⟩

set_option maxRecDepth 100000 in
theorem t_X11_ends_21 {C : zC} {I : Nat → Nat → Int32} {L : Nat → Nat → Int64} {M : Nat → Nat → Option Nat} {h0 : zH} (d : Nat)   (y1 : Int32) (y2 : Int32) (K : Int32 → (Nat → Nat → Int32) → (Nat → Nat → Int64) → (Nat → Nat → Option Nat) → Prop) (T : (((I 265 31) ≤ y2 → ((¬ y1 = 0 → zCI C Y_X11_allCellar (d + 6) [.ref 265] (zmk I L M) (fun r1_3 I1_3 L1_3 M1_3 => zCV C Y_X11_again (d + 6) [.ref 265, .ref 292] (zmk I1_3 L1_3 M1_3) (fun I2_3 L2_3 M2_3 => K r1_3 I2_3 L2_3 M2_3))) ∧ (y1 = 0 → zCI C Y_X11_allMean (d + 6) [.ref 265] (zmk I L M) (fun r3_3 I3_3 L3_3 M3_3 => zCV C Y_X11_again (d + 6) [.ref 265, .ref 292] (zmk I3_3 L3_3 M3_3) (fun I4_3 L4_3 M4_3 => K r3_3 I4_3 L4_3 M4_3))))) ∧ (¬ ((I 265 31) ≤ y2) → vp_in y2 10 ∧ vp_in y2 10 ∧ ((¬ (I 286 y2.toNatClampNeg) = 0 → vp_in y2 10 ∧ ((3 ≤ (I 286 y2.toNatClampNeg) → vp_in ((I 287 y2.toNatClampNeg)) 6 ∧ vp_in ((I 287 y2.toNatClampNeg)) 6 ∧ vp_in ((I 287 y2.toNatClampNeg)) 6 ∧ vp_in ((I 287 y2.toNatClampNeg)) 6 ∧ zSI C h0 K Y_X11_ends (d + 7) 21 [(0, .ref 265), (1, .int y1), (2, .int (y2 + 1))] [] (u2 (u2 I 270 (((I 287 y2.toNatClampNeg)).toNatClampNeg) (((I 270 (((I 287 y2.toNatClampNeg)).toNatClampNeg)) ||| (I 271 (((I 287 y2.toNatClampNeg)).toNatClampNeg))))) 271 (((I 287 y2.toNatClampNeg)).toNatClampNeg) 0) L M) ∧ (¬ (3 ≤ (I 286 y2.toNatClampNeg)) → vp_in y2 10 ∧ vp_in ((I 287 y2.toNatClampNeg)) 6 ∧ zSI C h0 K Y_X11_ends (d + 7) 21 [(0, .ref 265), (1, .int y1), (2, .int (y2 + 1))] [] (u2 I 272 (((I 287 y2.toNatClampNeg)).toNatClampNeg) (((I 286 y2.toNatClampNeg) - (1 : Int32)))) L M))) ∧ ((I 286 y2.toNatClampNeg) = 0 → zCV C Y_X11_goesNight (d + 6) [.ref 265] (zmk I L M) (fun I5_3 L5_3 M5_3 => zSI C h0 K Y_X11_ends (d + 7) 21 [(0, .ref 265), (1, .int y1), (2, .int (y2 + 1))] [] I5_3 L5_3 M5_3)))))) : zSI C h0 K Y_X11_ends (d + 7) 21 [(0, .ref 265), (1, .int y1), (2, .int y2)] [] I L M := by
  refine S_iload_n 2 dX11_ends_21 rfl rfl ?_
  refine S_aload_n 0 dX11_ends_22 rfl rfl ?_
  refine S_getI f_RX11_301 s_265 dX11_ends_23 ?_
  refine S_icmp_ge (tgt := 107) dX11_ends_26 (by decide) (fun q1 => ?_) (fun q1 => ?_)
  · refine S_iload_n 1 dX11_ends_107 rfl rfl ?_
    refine S_if_ne (tgt := 118) dX11_ends_108 (by decide) (fun q2 => ?_) (fun q2 => ?_)
    · refine S_aload_n 0 dX11_ends_118 rfl rfl ?_
      refine S_callV [] [] m_RX11_304 rfl rfl s_265 ⟨rfl, by decide⟩ (Nat.le_of_ble_eq_true rfl) (zroom_0 (by decide)) dX11_ends_119 (zCI_use ((T.1 q1).1 q2) ?_)
      intro r1_3 I1_3 L1_3 M1_3 T1_3
      refine S_istore_n dX11_ends_122 rfl (by decide) rfl ?_
      refine S_aload_n 1 dX11_ends_123 rfl rfl ?_
      refine S_aload_n 1 dX11_ends_124 rfl rfl ?_
      refine S_getP f_RX11_91 s_265 p_265_41 dX11_ends_125 ?_
      refine S_callV [.ref 292] [] m_RX11_273 rfl rfl s_265 ⟨rfl, by decide⟩ (Nat.le_of_ble_eq_true rfl) (zroom_0 (by decide)) dX11_ends_128 (zCV_use T1_3 ?_)
      intro I2_3 L2_3 M2_3 T2_3
      refine S_iload_n 0 dX11_ends_131 rfl rfl ?_
      exact S_ireti rfl dX11_ends_132 ⟨_, I2_3, L2_3, M2_3, rfl, rfl, T2_3⟩
    · refine S_aload_n 0 dX11_ends_111 rfl rfl ?_
      refine S_callV [] [] m_RX11_257 rfl rfl s_265 ⟨rfl, by decide⟩ (Nat.le_of_ble_eq_true rfl) (zroom_0 (by decide)) dX11_ends_112 (zCI_use ((T.1 q1).2 q2) ?_)
      intro r3_3 I3_3 L3_3 M3_3 T3_3
      refine S_goto (tgt := 122) dX11_ends_115 (by decide) ?_
      refine S_istore_n dX11_ends_122 rfl (by decide) rfl ?_
      refine S_aload_n 1 dX11_ends_123 rfl rfl ?_
      refine S_aload_n 1 dX11_ends_124 rfl rfl ?_
      refine S_getP f_RX11_91 s_265 p_265_41 dX11_ends_125 ?_
      refine S_callV [.ref 292] [] m_RX11_273 rfl rfl s_265 ⟨rfl, by decide⟩ (Nat.le_of_ble_eq_true rfl) (zroom_0 (by decide)) dX11_ends_128 (zCV_use T3_3 ?_)
      intro I4_3 L4_3 M4_3 T4_3
      refine S_iload_n 0 dX11_ends_131 rfl rfl ?_
      exact S_ireti rfl dX11_ends_132 ⟨_, I4_3, L4_3, M4_3, rfl, rfl, T4_3⟩
  · refine S_aload_n 0 dX11_ends_29 rfl rfl ?_
    refine S_getP f_RX11_76 s_265 p_265_33 dX11_ends_30 ?_
    refine S_iload_n 2 dX11_ends_33 rfl rfl ?_
    refine S_iald s_287 (T.2 q1).1 dX11_ends_34 ?_
    refine S_istore_n dX11_ends_35 rfl (by decide) rfl ?_
    refine S_aload_n 1 dX11_ends_36 rfl rfl ?_
    refine S_getP f_RX11_73 s_265 p_265_32 dX11_ends_37 ?_
    refine S_iload_n 3 dX11_ends_40 rfl rfl ?_
    refine S_iald s_286 (T.2 q1).2.1 dX11_ends_41 ?_
    refine S_if_ne (tgt := 52) dX11_ends_42 (by decide) (fun q2 => ?_) (fun q2 => ?_)
    · refine S_aload_n 1 dX11_ends_52 rfl rfl ?_
      refine S_getP f_RX11_73 s_265 p_265_32 dX11_ends_53 ?_
      refine S_iload_n 3 dX11_ends_56 rfl rfl ?_
      refine S_iald s_286 ((T.2 q1).2.2.1 q2).1 dX11_ends_57 ?_
      refine S_iconst (v := 3) dX11_ends_58 (by decide) ?_
      refine S_icmp_ge (tgt := 79) dX11_ends_59 (by decide) (fun q3 => ?_) (fun q3 => ?_)
      · refine S_aload_n 1 dX11_ends_79 rfl rfl ?_
        refine S_getP f_RX11_24 s_265 p_265_5 dX11_ends_80 ?_
        refine S_iload_n 0 dX11_ends_83 rfl rfl ?_
        refine S_dup2 dX11_ends_84 rfl rfl ?_
        refine S_iald s_270 (((T.2 q1).2.2.1 q2).2.1 q3).1 dX11_ends_85 ?_
        refine S_aload_n 1 dX11_ends_86 rfl rfl ?_
        refine S_getP f_RX11_27 s_265 p_265_6 dX11_ends_87 ?_
        refine S_iload_n 0 dX11_ends_90 rfl rfl ?_
        refine S_iald s_271 (((T.2 q1).2.2.1 q2).2.1 q3).2.1 dX11_ends_91 ?_
        refine S_ior dX11_ends_92 ?_
        refine S_iast s_270 (((T.2 q1).2.2.1 q2).2.1 q3).2.2.1 dX11_ends_93 ?_
        refine S_aload_n 1 dX11_ends_94 rfl rfl ?_
        refine S_getP f_RX11_27 s_265 p_265_6 dX11_ends_95 ?_
        refine S_iload_n 0 dX11_ends_98 rfl rfl ?_
        refine S_iconst (v := 0) dX11_ends_99 (by decide) ?_
        refine S_iast s_271 (((T.2 q1).2.2.1 q2).2.1 q3).2.2.2.1 dX11_ends_100 ?_
        refine S_iinc 3 dX11_ends_101 rfl rfl (by decide) rfl ?_
        refine S_goto (tgt := 21) dX11_ends_104 (by decide) ?_
        exact S_sub [2, 3, 0] rfl (((T.2 q1).2.2.1 q2).2.1 q3).2.2.2.2
      · refine S_aload_n 1 dX11_ends_62 rfl rfl ?_
        refine S_getP f_RX11_30 s_265 p_265_7 dX11_ends_63 ?_
        refine S_iload_n 0 dX11_ends_66 rfl rfl ?_
        refine S_aload_n 1 dX11_ends_67 rfl rfl ?_
        refine S_getP f_RX11_73 s_265 p_265_32 dX11_ends_68 ?_
        refine S_iload_n 3 dX11_ends_71 rfl rfl ?_
        refine S_iald s_286 (((T.2 q1).2.2.1 q2).2.2 q3).1 dX11_ends_72 ?_
        refine S_iconst (v := 1) dX11_ends_73 (by decide) ?_
        refine S_isub dX11_ends_74 ?_
        refine S_iast s_272 (((T.2 q1).2.2.1 q2).2.2 q3).2.1 dX11_ends_75 ?_
        refine S_goto (tgt := 101) dX11_ends_76 (by decide) ?_
        refine S_iinc 3 dX11_ends_101 rfl rfl (by decide) rfl ?_
        refine S_goto (tgt := 21) dX11_ends_104 (by decide) ?_
        exact S_sub [2, 3, 0] rfl (((T.2 q1).2.2.1 q2).2.2 q3).2.2
    · refine S_aload_n 1 dX11_ends_45 rfl rfl ?_
      refine S_callV [] [] m_RX11_266 rfl rfl s_265 ⟨rfl, by decide⟩ (Nat.le_of_ble_eq_true rfl) (zroom_0 (by decide)) dX11_ends_46 (zCV_use ((T.2 q1).2.2.2 q2) ?_)
      intro I5_3 L5_3 M5_3 T5_3
      refine S_goto (tgt := 101) dX11_ends_49 (by decide) ?_
      refine S_iinc 3 dX11_ends_101 rfl rfl (by decide) rfl ?_
      refine S_goto (tgt := 21) dX11_ends_104 (by decide) ?_
      exact S_sub [2, 3, 0] rfl T5_3

set_option maxRecDepth 100000 in
theorem t_X11_goesNight {C : zC} {I : Nat → Nat → Int32} {L : Nat → Nat → Int64} {M : Nat → Nat → Option Nat} (d : Nat)   (K : (Nat → Nat → Int32) → (Nat → Nat → Int64) → (Nat → Nat → Option Nat) → Prop) (T : zSV C (zmk I L M) K Y_X11_goesNight (d + 6) 2 [(0, .ref 265), (1, .int 0)] [] I L M) : zCV C Y_X11_goesNight (d + 6) [.ref 265] (zmk I L M) K := by
  refine S_enter (by decide) (Nat.le_of_ble_eq_true rfl) ?_
  refine S_lv (lv' := [(0, .ref 265)]) rfl ?_
  refine S_iconst (v := 0) dX11_goesNight_0 (by decide) ?_
  refine S_istore_n dX11_goesNight_1 rfl (by decide) rfl ?_
  exact S_sub [1, 0] rfl T

set_option maxRecDepth 100000 in
theorem t_X11_goesNight_2 {C : zC} {I : Nat → Nat → Int32} {L : Nat → Nat → Int64} {M : Nat → Nat → Option Nat} {h0 : zH} (d : Nat)   (y1 : Int32) (K : (Nat → Nat → Int32) → (Nat → Nat → Int64) → (Nat → Nat → Option Nat) → Prop) (T : (((I 265 2) ≤ y1 → zSV C h0 K Y_X11_goesNight (d + 6) 29 [(0, .ref 265), (1, .int 0)] [] I L M) ∧ (¬ ((I 265 2) ≤ y1) → zCI C Y_X11_prey (d + 5) [.ref 265, .int y1] (zmk I L M) (fun r1_2 I1_2 L1_2 M1_2 => vp_in y1 6 ∧ zSV C h0 K Y_X11_goesNight (d + 6) 2 [(0, .ref 265), (1, .int (y1 + 1))] [] (u2 I1_2 293 y1.toNatClampNeg r1_2) L1_2 M1_2)))) : zSV C h0 K Y_X11_goesNight (d + 6) 2 [(0, .ref 265), (1, .int y1)] [] I L M := by
  refine S_iload_n 1 dX11_goesNight_2 rfl rfl ?_
  refine S_aload_n 0 dX11_goesNight_3 rfl rfl ?_
  refine S_getI f_RX11_111 s_265 dX11_goesNight_4 ?_
  refine S_icmp_ge (tgt := 27) dX11_goesNight_7 (by decide) (fun q1 => ?_) (fun q1 => ?_)
  · refine S_iconst (v := 0) dX11_goesNight_27 (by decide) ?_
    refine S_istore_n dX11_goesNight_28 rfl (by decide) rfl ?_
    exact S_sub [1, 0] rfl (T.1 q1)
  · refine S_aload_n 0 dX11_goesNight_10 rfl rfl ?_
    refine S_getP f_RX11_94 s_265 p_265_42 dX11_goesNight_11 ?_
    refine S_iload_n 1 dX11_goesNight_14 rfl rfl ?_
    refine S_aload_n 0 dX11_goesNight_15 rfl rfl ?_
    refine S_iload_n 1 dX11_goesNight_16 rfl rfl ?_
    refine S_callV [.int y1] [.int y1, .ref 293] m_RX11_129 rfl rfl s_265 ⟨rfl, by decide⟩ (Nat.le_of_ble_eq_true rfl) (zroom_0 (by decide)) dX11_goesNight_17 (zCI_use (T.2 q1) ?_)
    intro r1_2 I1_2 L1_2 M1_2 T1_2
    refine S_iast s_293 T1_2.1 dX11_goesNight_20 ?_
    refine S_iinc 1 dX11_goesNight_21 rfl rfl (by decide) rfl ?_
    refine S_goto (tgt := 2) dX11_goesNight_24 (by decide) ?_
    exact S_sub [1, 0] rfl T1_2.2

set_option maxRecDepth 100000 in
theorem t_X11_goesNight_29 {C : zC} {I : Nat → Nat → Int32} {L : Nat → Nat → Int64} {M : Nat → Nat → Option Nat} {h0 : zH} (d : Nat)   (y1 : Int32) (K : (Nat → Nat → Int32) → (Nat → Nat → Int64) → (Nat → Nat → Option Nat) → Prop) (T : (((I 265 2) ≤ y1 → zCI C Y_X11_keepOf (d + 5) [.ref 265] (zmk (u2 I 265 9 (((I 265 9) + (1 : Int32)))) L M) (fun r1_2 I1_2 L1_2 M1_2 => ((r1_2 = 0 → K I1_2 L1_2 M1_2) ∧ (¬ (r1_2 = 0) → (¬ (r1_2 : Int32) = 0) ∧ ((((I1_2 265 9) - (I1_2 265 9) / r1_2 * r1_2) = 0 → zSV C h0 K Y_X11_goesNight (d + 6) 135 [(0, .ref 265), (2, .int 0)] [] I1_2 L1_2 M1_2) ∧ (¬ (((I1_2 265 9) - (I1_2 265 9) / r1_2 * r1_2) = 0) → K I1_2 L1_2 M1_2)))))) ∧ (¬ ((I 265 2) ≤ y1) → vp_in y1 6 ∧ ((¬ (I 293 y1.toNatClampNeg) = (-5) → vp_in y1 6 ∧ vp_in y1 6 ∧ vp_in y1 6 ∧ vp_in y1 6 ∧ vp_in ((I 293 y1.toNatClampNeg)) 12 ∧ vp_in ((I 293 y1.toNatClampNeg)) 12 ∧ zSV C h0 K Y_X11_goesNight (d + 6) 29 [(0, .ref 265), (1, .int (y1 + 1))] [] (u2 (u2 (u2 I 270 y1.toNatClampNeg (((I 270 y1.toNatClampNeg) &&& (((1 : Int32) <<< ((I 293 y1.toNatClampNeg) &&& 31)) ^^^ (-1 : Int32))))) 271 y1.toNatClampNeg (((I 271 y1.toNatClampNeg) ||| ((1 : Int32) <<< ((I 293 y1.toNatClampNeg) &&& 31))))) 267 (((I 293 y1.toNatClampNeg)).toNatClampNeg) ((if ((I 267 (((I 293 y1.toNatClampNeg)).toNatClampNeg)) + (1 : Int32)) < 99 then ((I 267 (((I 293 y1.toNatClampNeg)).toNatClampNeg)) + (1 : Int32)) else 99))) L M) ∧ ((I 293 y1.toNatClampNeg) = (-5) → zSV C h0 K Y_X11_goesNight (d + 6) 29 [(0, .ref 265), (1, .int (y1 + 1))] [] I L M))))) : zSV C h0 K Y_X11_goesNight (d + 6) 29 [(0, .ref 265), (1, .int y1)] [] I L M := by
  refine S_iload_n 1 dX11_goesNight_29 rfl rfl ?_
  refine S_aload_n 0 dX11_goesNight_30 rfl rfl ?_
  refine S_getI f_RX11_111 s_265 dX11_goesNight_31 ?_
  refine S_icmp_ge (tgt := 104) dX11_goesNight_34 (by decide) (fun q1 => ?_) (fun q1 => ?_)
  · refine S_aload_n 0 dX11_goesNight_104 rfl rfl ?_
    refine S_dup dX11_goesNight_105 rfl ?_
    refine S_getI f_RX11_221 s_265 dX11_goesNight_106 ?_
    refine S_iconst (v := 1) dX11_goesNight_109 (by decide) ?_
    refine S_iadd dX11_goesNight_110 ?_
    refine S_putI f_RX11_221 s_265 (Or.inl rfl) rfl dX11_goesNight_111 ?_
    refine S_aload_n 0 dX11_goesNight_114 rfl rfl ?_
    refine S_callV [] [] m_RX11_239 rfl rfl s_265 ⟨rfl, by decide⟩ (Nat.le_of_ble_eq_true rfl) (zroom_0 (by decide)) dX11_goesNight_115 (zCI_use (T.1 q1) ?_)
    intro r1_2 I1_2 L1_2 M1_2 T1_2
    refine S_istore_n dX11_goesNight_118 rfl (by decide) rfl ?_
    refine S_iload_n 0 dX11_goesNight_119 rfl rfl ?_
    refine S_if_eq (tgt := 132) dX11_goesNight_120 (by decide) (fun q2 => ?_) (fun q2 => ?_)
    · exact S_vret rfl dX11_goesNight_132 ⟨I1_2, L1_2, M1_2, rfl, rfl, (T1_2.1 q2)⟩
    · refine S_aload_n 1 dX11_goesNight_123 rfl rfl ?_
      refine S_getI f_RX11_221 s_265 dX11_goesNight_124 ?_
      refine S_iload_n 0 dX11_goesNight_127 rfl rfl ?_
      refine S_irem dX11_goesNight_128 (T1_2.2 q2).1 ?_
      refine S_if_eq (tgt := 133) dX11_goesNight_129 (by decide) (fun q3 => ?_) (fun q3 => ?_)
      · refine S_iconst (v := 0) dX11_goesNight_133 (by decide) ?_
        refine S_istore_n dX11_goesNight_134 rfl (by decide) rfl ?_
        exact S_sub [2, 0] rfl ((T1_2.2 q2).2.1 q3)
      · exact S_vret rfl dX11_goesNight_132 ⟨I1_2, L1_2, M1_2, rfl, rfl, ((T1_2.2 q2).2.2 q3)⟩
  · refine S_aload_n 0 dX11_goesNight_37 rfl rfl ?_
    refine S_getP f_RX11_94 s_265 p_265_42 dX11_goesNight_38 ?_
    refine S_iload_n 1 dX11_goesNight_41 rfl rfl ?_
    refine S_iald s_293 (T.2 q1).1 dX11_goesNight_42 ?_
    refine S_istore_n dX11_goesNight_43 rfl (by decide) rfl ?_
    refine S_iload_n 0 dX11_goesNight_44 rfl rfl ?_
    refine S_bipush (v := -5) dX11_goesNight_45 (by decide) ?_
    refine S_icmp_ne (tgt := 53) dX11_goesNight_47 (by decide) (fun q2 => ?_) (fun q2 => ?_)
    · refine S_aload_n 1 dX11_goesNight_53 rfl rfl ?_
      refine S_getP f_RX11_24 s_265 p_265_5 dX11_goesNight_54 ?_
      refine S_iload_n 2 dX11_goesNight_57 rfl rfl ?_
      refine S_dup2 dX11_goesNight_58 rfl rfl ?_
      refine S_iald s_270 ((T.2 q1).2.1 q2).1 dX11_goesNight_59 ?_
      refine S_iconst (v := 1) dX11_goesNight_60 (by decide) ?_
      refine S_iload_n 0 dX11_goesNight_61 rfl rfl ?_
      refine S_ishl dX11_goesNight_62 ?_
      refine S_iconst (v := -1) dX11_goesNight_63 (by decide) ?_
      refine S_ixor dX11_goesNight_64 ?_
      refine S_iand dX11_goesNight_65 ?_
      refine S_iast s_270 ((T.2 q1).2.1 q2).2.1 dX11_goesNight_66 ?_
      refine S_aload_n 1 dX11_goesNight_67 rfl rfl ?_
      refine S_getP f_RX11_27 s_265 p_265_6 dX11_goesNight_68 ?_
      refine S_iload_n 2 dX11_goesNight_71 rfl rfl ?_
      refine S_dup2 dX11_goesNight_72 rfl rfl ?_
      refine S_iald s_271 ((T.2 q1).2.1 q2).2.2.1 dX11_goesNight_73 ?_
      refine S_iconst (v := 1) dX11_goesNight_74 (by decide) ?_
      refine S_iload_n 0 dX11_goesNight_75 rfl rfl ?_
      refine S_ishl dX11_goesNight_76 ?_
      refine S_ior dX11_goesNight_77 ?_
      refine S_iast s_271 ((T.2 q1).2.1 q2).2.2.2.1 dX11_goesNight_78 ?_
      refine S_aload_n 1 dX11_goesNight_79 rfl rfl ?_
      refine S_getP f_RX11_15 s_265 p_265_1 dX11_goesNight_80 ?_
      refine S_iload_n 0 dX11_goesNight_83 rfl rfl ?_
      refine S_bipush (v := 99) dX11_goesNight_84 (by decide) ?_
      refine S_aload_n 1 dX11_goesNight_86 rfl rfl ?_
      refine S_getP f_RX11_15 s_265 p_265_1 dX11_goesNight_87 ?_
      refine S_iload_n 0 dX11_goesNight_90 rfl rfl ?_
      refine S_iald s_267 ((T.2 q1).2.1 q2).2.2.2.2.1 dX11_goesNight_91 ?_
      refine S_iconst (v := 1) dX11_goesNight_92 (by decide) ?_
      refine S_iadd dX11_goesNight_93 ?_
      refine S_min m_RX11_234 o_mins o_math o_minc (Nat.le_of_ble_eq_true rfl) rfl ⟨Nat.le_refl _, Nat.le_refl _⟩ dX11_goesNight_94 ?_
      refine S_iast s_267 ((T.2 q1).2.1 q2).2.2.2.2.2.1 dX11_goesNight_97 ?_
      refine S_iinc 2 dX11_goesNight_98 rfl rfl (by decide) rfl ?_
      refine S_goto (tgt := 29) dX11_goesNight_101 (by decide) ?_
      exact S_sub [2, 0] rfl ((T.2 q1).2.1 q2).2.2.2.2.2.2
    · refine S_goto (tgt := 98) dX11_goesNight_50 (by decide) ?_
      refine S_iinc 2 dX11_goesNight_98 rfl rfl (by decide) rfl ?_
      refine S_goto (tgt := 29) dX11_goesNight_101 (by decide) ?_
      exact S_sub [2, 0] rfl ((T.2 q1).2.2 q2)

set_option maxRecDepth 100000 in
theorem t_X11_goesNight_135 {C : zC} {I : Nat → Nat → Int32} {L : Nat → Nat → Int64} {M : Nat → Nat → Option Nat} {h0 : zH} (d : Nat)   (y2 : Int32) (K : (Nat → Nat → Int32) → (Nat → Nat → Int64) → (Nat → Nat → Option Nat) → Prop) (T : ((12 ≤ y2 → K I L M) ∧ (¬ (12 ≤ y2) → vp_in y2 12 ∧ vp_in y2 12 ∧ zSV C h0 K Y_X11_goesNight (d + 6) 135 [(0, .ref 265), (2, .int (y2 + 1))] [] (u2 I 267 y2.toNatClampNeg ((if 0 < ((I 267 y2.toNatClampNeg) - (1 : Int32)) then ((I 267 y2.toNatClampNeg) - (1 : Int32)) else 0))) L M))) : zSV C h0 K Y_X11_goesNight (d + 6) 135 [(0, .ref 265), (2, .int y2)] [] I L M := by
  refine S_iload_n 1 dX11_goesNight_135 rfl rfl ?_
  refine S_bipush (v := 12) dX11_goesNight_136 (by decide) ?_
  refine S_icmp_ge (tgt := 165) dX11_goesNight_138 (by decide) (fun q1 => ?_) (fun q1 => ?_)
  · exact S_vret rfl dX11_goesNight_165 ⟨I, L, M, rfl, rfl, (T.1 q1)⟩
  · refine S_aload_n 0 dX11_goesNight_141 rfl rfl ?_
    refine S_getP f_RX11_15 s_265 p_265_1 dX11_goesNight_142 ?_
    refine S_iload_n 1 dX11_goesNight_145 rfl rfl ?_
    refine S_iconst (v := 0) dX11_goesNight_146 (by decide) ?_
    refine S_aload_n 0 dX11_goesNight_147 rfl rfl ?_
    refine S_getP f_RX11_15 s_265 p_265_1 dX11_goesNight_148 ?_
    refine S_iload_n 1 dX11_goesNight_151 rfl rfl ?_
    refine S_iald s_267 (T.2 q1).1 dX11_goesNight_152 ?_
    refine S_iconst (v := 1) dX11_goesNight_153 (by decide) ?_
    refine S_isub dX11_goesNight_154 ?_
    refine S_max m_RX11_242 o_maxs o_math o_maxc (Nat.le_of_ble_eq_true rfl) rfl ⟨Nat.le_refl _, Nat.le_refl _⟩ dX11_goesNight_155 ?_
    refine S_iast s_267 (T.2 q1).2.1 dX11_goesNight_158 ?_
    refine S_iinc 1 dX11_goesNight_159 rfl rfl (by decide) rfl ?_
    refine S_goto (tgt := 135) dX11_goesNight_162 (by decide) ?_
    exact S_sub [1, 0] rfl (T.2 q1).2.2

set_option maxRecDepth 100000 in
theorem t_X11_goesOne {C : zC} {I : Nat → Nat → Int32} {L : Nat → Nat → Int64} {M : Nat → Nat → Option Nat} (d : Nat) (x1 : Int32)  (K : (Nat → Nat → Int32) → (Nat → Nat → Int64) → (Nat → Nat → Option Nat) → Prop) (T : zCI C Y_X11_prey (d + 5) [.ref 265, .int x1] (zmk I L M) (fun r1_1 I1_1 L1_1 M1_1 => ((r1_1 = (-5) → K (u2 I1_1 265 9 (((I1_1 265 9) + (1 : Int32)))) L1_1 M1_1) ∧ (¬ (r1_1 = (-5)) → vp_in x1 6 ∧ vp_in x1 6 ∧ vp_in x1 6 ∧ vp_in x1 6 ∧ K (u2 (u2 (u2 I1_1 270 x1.toNatClampNeg (((I1_1 270 x1.toNatClampNeg) &&& (((1 : Int32) <<< (r1_1 &&& 31)) ^^^ (-1 : Int32))))) 271 x1.toNatClampNeg (((I1_1 271 x1.toNatClampNeg) ||| ((1 : Int32) <<< (r1_1 &&& 31))))) 265 9 (((I1_1 265 9) + (1 : Int32)))) L1_1 M1_1)))) : zCV C Y_X11_goesOne (d + 6) [.ref 265, .int x1] (zmk I L M) K := by
  refine S_enter (by decide) (Nat.le_of_ble_eq_true rfl) ?_
  refine S_lv (lv' := [(0, .ref 265), (1, .int x1)]) rfl ?_
  refine S_aload_n 0 dX11_goesOne_0 rfl rfl ?_
  refine S_iload_n 1 dX11_goesOne_1 rfl rfl ?_
  refine S_callV [.int x1] [] m_RX11_129 rfl rfl s_265 ⟨rfl, by decide⟩ (Nat.le_of_ble_eq_true rfl) (zroom_0 (by decide)) dX11_goesOne_2 (zCI_use T ?_)
  intro r1_1 I1_1 L1_1 M1_1 T1_1
  refine S_istore_n dX11_goesOne_5 rfl (by decide) rfl ?_
  refine S_iload_n 0 dX11_goesOne_6 rfl rfl ?_
  refine S_bipush (v := -5) dX11_goesOne_7 (by decide) ?_
  refine S_icmp_eq (tgt := 38) dX11_goesOne_9 (by decide) (fun q1 => ?_) (fun q1 => ?_)
  · refine S_aload_n 1 dX11_goesOne_38 rfl rfl ?_
    refine S_dup dX11_goesOne_39 rfl ?_
    refine S_getI f_RX11_221 s_265 dX11_goesOne_40 ?_
    refine S_iconst (v := 1) dX11_goesOne_43 (by decide) ?_
    refine S_iadd dX11_goesOne_44 ?_
    refine S_putI f_RX11_221 s_265 (Or.inl rfl) rfl dX11_goesOne_45 ?_
    exact S_vret rfl dX11_goesOne_48 ⟨u2 I1_1 265 9 (((I1_1 265 9) + (1 : Int32))), L1_1, M1_1, rfl, rfl, (T1_1.1 q1)⟩
  · refine S_aload_n 1 dX11_goesOne_12 rfl rfl ?_
    refine S_getP f_RX11_24 s_265 p_265_5 dX11_goesOne_13 ?_
    refine S_iload_n 2 dX11_goesOne_16 rfl rfl ?_
    refine S_dup2 dX11_goesOne_17 rfl rfl ?_
    refine S_iald s_270 (T1_1.2 q1).1 dX11_goesOne_18 ?_
    refine S_iconst (v := 1) dX11_goesOne_19 (by decide) ?_
    refine S_iload_n 0 dX11_goesOne_20 rfl rfl ?_
    refine S_ishl dX11_goesOne_21 ?_
    refine S_iconst (v := -1) dX11_goesOne_22 (by decide) ?_
    refine S_ixor dX11_goesOne_23 ?_
    refine S_iand dX11_goesOne_24 ?_
    refine S_iast s_270 (T1_1.2 q1).2.1 dX11_goesOne_25 ?_
    refine S_aload_n 1 dX11_goesOne_26 rfl rfl ?_
    refine S_getP f_RX11_27 s_265 p_265_6 dX11_goesOne_27 ?_
    refine S_iload_n 2 dX11_goesOne_30 rfl rfl ?_
    refine S_dup2 dX11_goesOne_31 rfl rfl ?_
    refine S_iald s_271 (T1_1.2 q1).2.2.1 dX11_goesOne_32 ?_
    refine S_iconst (v := 1) dX11_goesOne_33 (by decide) ?_
    refine S_iload_n 0 dX11_goesOne_34 rfl rfl ?_
    refine S_ishl dX11_goesOne_35 ?_
    refine S_ior dX11_goesOne_36 ?_
    refine S_iast s_271 (T1_1.2 q1).2.2.2.1 dX11_goesOne_37 ?_
    refine S_aload_n 1 dX11_goesOne_38 rfl rfl ?_
    refine S_dup dX11_goesOne_39 rfl ?_
    refine S_getI f_RX11_221 s_265 dX11_goesOne_40 ?_
    refine S_iconst (v := 1) dX11_goesOne_43 (by decide) ?_
    refine S_iadd dX11_goesOne_44 ?_
    refine S_putI f_RX11_221 s_265 (Or.inl rfl) rfl dX11_goesOne_45 ?_
    exact S_vret rfl dX11_goesOne_48 ⟨u2 (u2 (u2 I1_1 270 x1.toNatClampNeg (((I1_1 270 x1.toNatClampNeg) &&& (((1 : Int32) <<< (r1_1 &&& 31)) ^^^ (-1 : Int32))))) 271 x1.toNatClampNeg (((I1_1 271 x1.toNatClampNeg) ||| ((1 : Int32) <<< (r1_1 &&& 31))))) 265 9 (((I1_1 265 9) + (1 : Int32))), L1_1, M1_1, rfl, rfl, (T1_1.2 q1).2.2.2.2⟩

set_option maxRecDepth 100000 in
theorem t_X11_guest {C : zC} {I : Nat → Nat → Int32} {L : Nat → Nat → Int64} {M : Nat → Nat → Option Nat} (d : Nat) (x1 : Int32) (x2 : Int32) (x3 : Int32)  (K : Int32 → (Nat → Nat → Int32) → (Nat → Nat → Int64) → (Nat → Nat → Option Nat) → Prop) (T : ((((0 : Int32) ≤ x1 ∧ x1 ≤ 6) → ((¬ ((0 : Int32) ≤ x2 ∧ x2 ≤ 9) → K ((-2)) I L M) ∧ (((0 : Int32) ≤ x2 ∧ x2 ≤ 9) → ((((0 : Int32) ≤ x3 ∧ x3 ≤ 4095) → ((¬ (I 265 2) = 6 → vp_in ((I 265 2)) 6 ∧ vp_in ((I 265 2)) 6 ∧ vp_in ((I 265 2)) 6 ∧ vp_in ((I 265 2)) 6 ∧ vp_in ((I 265 2)) 6 ∧ zSI C (zmk I L M) K Y_X11_guest (d + 2) 101 [(0, .ref 265), (4, .int 0)] [] (u2 (u2 (u2 (u2 (u2 I 268 (((I 265 2)).toNatClampNeg) x1) 269 (((I 265 2)).toNatClampNeg) x2) 270 (((I 265 2)).toNatClampNeg) x3) 271 (((I 265 2)).toNatClampNeg) 0) 272 (((I 265 2)).toNatClampNeg) 1) L M) ∧ ((I 265 2) = 6 → K ((-4)) I L M))) ∧ (¬ ((0 : Int32) ≤ x3 ∧ x3 ≤ 4095) → K ((-2)) I L M))))) ∧ (¬ ((0 : Int32) ≤ x1 ∧ x1 ≤ 6) → K ((-1)) I L M))) : zCI C Y_X11_guest (d + 2) [.ref 265, .int x1, .int x2, .int x3] (zmk I L M) K := by
  refine S_enter (by decide) (Nat.le_of_ble_eq_true rfl) ?_
  refine S_lv (lv' := [(0, .ref 265), (1, .int x1), (2, .int x2), (3, .int x3)]) rfl ?_
  refine S_iload_n 1 dX11_guest_0 rfl rfl ?_
  refine S_iconst (v := 0) dX11_guest_1 (by decide) ?_
  refine S_bipush (v := 6) dX11_guest_2 (by decide) ?_
  refine S_callS [.int x1, .int 0, .int 6] [] m_RX11_114 rfl rfl (Nat.le_of_ble_eq_true rfl) (zroom_0 (by decide)) dX11_guest_4 (zpure (sp_X11_within (I := I) (L := L) (M := M) (d + 0) x1 0 6) ?_)
  refine S_if_ne (tgt := 12) dX11_guest_7 (by decide) (fun q1 => ?_) (fun q1 => ?_)
  · refine S_iload_n 2 dX11_guest_12 rfl rfl ?_
    refine S_iconst (v := 0) dX11_guest_13 (by decide) ?_
    refine S_bipush (v := 9) dX11_guest_14 (by decide) ?_
    refine S_callS [.int x2, .int 0, .int 9] [] m_RX11_114 rfl rfl (Nat.le_of_ble_eq_true rfl) (zroom_0 (by decide)) dX11_guest_16 (zpure (sp_X11_within (I := I) (L := L) (M := M) (d + 0) x2 0 9) ?_)
    refine S_if_eq (tgt := 33) dX11_guest_19 (by decide) (fun q2 => ?_) (fun q2 => ?_)
    · refine S_bipush (v := -2) dX11_guest_33 (by decide) ?_
      exact S_ireti rfl dX11_guest_35 ⟨_, I, L, M, rfl, rfl, ((T.1 (zb_t q1)).1 (zb_f q2))⟩
    · refine S_iload_n 3 dX11_guest_22 rfl rfl ?_
      refine S_iconst (v := 0) dX11_guest_23 (by decide) ?_
      refine S_sipush (v := 4095) dX11_guest_24 (by decide) ?_
      refine S_callS [.int x3, .int 0, .int 4095] [] m_RX11_114 rfl rfl (Nat.le_of_ble_eq_true rfl) (zroom_0 (by decide)) dX11_guest_27 (zpure (sp_X11_within (I := I) (L := L) (M := M) (d + 0) x3 0 4095) ?_)
      refine S_if_ne (tgt := 36) dX11_guest_30 (by decide) (fun q3 => ?_) (fun q3 => ?_)
      · refine S_aload_n 0 dX11_guest_36 rfl rfl ?_
        refine S_getI f_RX11_111 s_265 dX11_guest_37 ?_
        refine S_bipush (v := 6) dX11_guest_40 (by decide) ?_
        refine S_icmp_ne (tgt := 48) dX11_guest_42 (by decide) (fun q4 => ?_) (fun q4 => ?_)
        · refine S_aload_n 0 dX11_guest_48 rfl rfl ?_
          refine S_getP f_RX11_18 s_265 p_265_3 dX11_guest_49 ?_
          refine S_aload_n 0 dX11_guest_52 rfl rfl ?_
          refine S_getI f_RX11_111 s_265 dX11_guest_53 ?_
          refine S_iload_n 1 dX11_guest_56 rfl rfl ?_
          refine S_iast s_268 ((((T.1 (zb_t q1)).2 (zb_t q2)).1 (zb_t q3)).1 q4).1 dX11_guest_57 ?_
          refine S_aload_n 0 dX11_guest_58 rfl rfl ?_
          refine S_getP f_RX11_21 s_265 p_265_4 dX11_guest_59 ?_
          refine S_aload_n 0 dX11_guest_62 rfl rfl ?_
          refine S_getI f_RX11_111 s_265 dX11_guest_63 ?_
          refine S_iload_n 2 dX11_guest_66 rfl rfl ?_
          refine S_iast s_269 ((((T.1 (zb_t q1)).2 (zb_t q2)).1 (zb_t q3)).1 q4).2.1 dX11_guest_67 ?_
          refine S_aload_n 0 dX11_guest_68 rfl rfl ?_
          refine S_getP f_RX11_24 s_265 p_265_5 dX11_guest_69 ?_
          refine S_aload_n 0 dX11_guest_72 rfl rfl ?_
          refine S_getI f_RX11_111 s_265 dX11_guest_73 ?_
          refine S_iload_n 3 dX11_guest_76 rfl rfl ?_
          refine S_iast s_270 ((((T.1 (zb_t q1)).2 (zb_t q2)).1 (zb_t q3)).1 q4).2.2.1 dX11_guest_77 ?_
          refine S_aload_n 0 dX11_guest_78 rfl rfl ?_
          refine S_getP f_RX11_27 s_265 p_265_6 dX11_guest_79 ?_
          refine S_aload_n 0 dX11_guest_82 rfl rfl ?_
          refine S_getI f_RX11_111 s_265 dX11_guest_83 ?_
          refine S_iconst (v := 0) dX11_guest_86 (by decide) ?_
          refine S_iast s_271 ((((T.1 (zb_t q1)).2 (zb_t q2)).1 (zb_t q3)).1 q4).2.2.2.1 dX11_guest_87 ?_
          refine S_aload_n 0 dX11_guest_88 rfl rfl ?_
          refine S_getP f_RX11_30 s_265 p_265_7 dX11_guest_89 ?_
          refine S_aload_n 0 dX11_guest_92 rfl rfl ?_
          refine S_getI f_RX11_111 s_265 dX11_guest_93 ?_
          refine S_iconst (v := 1) dX11_guest_96 (by decide) ?_
          refine S_iast s_272 ((((T.1 (zb_t q1)).2 (zb_t q2)).1 (zb_t q3)).1 q4).2.2.2.2.1 dX11_guest_97 ?_
          refine S_iconst (v := 0) dX11_guest_98 (by decide) ?_
          refine S_istore dX11_guest_99 (by decide) rfl ?_
          exact S_sub [1, 0] rfl ((((T.1 (zb_t q1)).2 (zb_t q2)).1 (zb_t q3)).1 q4).2.2.2.2.2
        · refine S_bipush (v := -4) dX11_guest_45 (by decide) ?_
          exact S_ireti rfl dX11_guest_47 ⟨_, I, L, M, rfl, rfl, ((((T.1 (zb_t q1)).2 (zb_t q2)).1 (zb_t q3)).2 q4)⟩
      · refine S_bipush (v := -2) dX11_guest_33 (by decide) ?_
        exact S_ireti rfl dX11_guest_35 ⟨_, I, L, M, rfl, rfl, (((T.1 (zb_t q1)).2 (zb_t q2)).2 (zb_f q3))⟩
  · refine S_iconst (v := -1) dX11_guest_10 (by decide) ?_
    exact S_ireti rfl dX11_guest_11 ⟨_, I, L, M, rfl, rfl, (T.2 (zb_f q1))⟩

set_option maxRecDepth 100000 in
theorem t_X11_guest_101 {C : zC} {I : Nat → Nat → Int32} {L : Nat → Nat → Int64} {M : Nat → Nat → Option Nat} {h0 : zH} (d : Nat)   (y4 : Int32) (K : Int32 → (Nat → Nat → Int32) → (Nat → Nat → Int64) → (Nat → Nat → Option Nat) → Prop) (T : ((4 ≤ y4 → K ((I 265 2)) (u2 I 265 2 (((I 265 2) + (1 : Int32)))) L M) ∧ (¬ (4 ≤ y4) → vp_in ((((4 : Int32) * (I 265 2)) + y4)) 24 ∧ zSI C h0 K Y_X11_guest (d + 2) 101 [(0, .ref 265), (4, .int (y4 + 1))] [] (u2 I 273 (((((4 : Int32) * (I 265 2)) + y4)).toNatClampNeg) 0) L M))) : zSI C h0 K Y_X11_guest (d + 2) 101 [(0, .ref 265), (4, .int y4)] [] I L M := by
  refine S_iload 1 dX11_guest_101 rfl ?_
  refine S_iconst (v := 4) dX11_guest_103 (by decide) ?_
  refine S_icmp_ge (tgt := 128) dX11_guest_104 (by decide) (fun q1 => ?_) (fun q1 => ?_)
  · refine S_aload_n 0 dX11_guest_128 rfl rfl ?_
    refine S_dup dX11_guest_129 rfl ?_
    refine S_getI f_RX11_111 s_265 dX11_guest_130 ?_
    refine S_dup_x1 dX11_guest_133 rfl rfl ?_
    refine S_iconst (v := 1) dX11_guest_134 (by decide) ?_
    refine S_iadd dX11_guest_135 ?_
    refine S_putI f_RX11_111 s_265 (Or.inl rfl) rfl dX11_guest_136 ?_
    exact S_ireti rfl dX11_guest_139 ⟨_, u2 I 265 2 (((I 265 2) + (1 : Int32))), L, M, rfl, rfl, (T.1 q1)⟩
  · refine S_aload_n 0 dX11_guest_107 rfl rfl ?_
    refine S_getP f_RX11_33 s_265 p_265_8 dX11_guest_108 ?_
    refine S_iconst (v := 4) dX11_guest_111 (by decide) ?_
    refine S_aload_n 0 dX11_guest_112 rfl rfl ?_
    refine S_getI f_RX11_111 s_265 dX11_guest_113 ?_
    refine S_imul dX11_guest_116 ?_
    refine S_iload 1 dX11_guest_117 rfl ?_
    refine S_iadd dX11_guest_119 ?_
    refine S_iconst (v := 0) dX11_guest_120 (by decide) ?_
    refine S_iast s_273 (T.2 q1).1 dX11_guest_121 ?_
    refine S_iinc 1 dX11_guest_122 rfl rfl (by decide) rfl ?_
    refine S_goto (tgt := 101) dX11_guest_125 (by decide) ?_
    exact S_sub [1, 0] rfl (T.2 q1).2

set_option maxRecDepth 100000 in
theorem t_X11_isAll {C : zC} {I : Nat → Nat → Int32} {L : Nat → Nat → Int64} {M : Nat → Nat → Option Nat} (d : Nat) {i1 : Nat} (hi1 : i1 < 10) (K : Int32 → (Nat → Nat → Int32) → (Nat → Nat → Int64) → (Nat → Nat → Option Nat) → Prop) (T : zSI C (zmk I L M) K Y_X11_isAll (d + 6) 2 [(0, .ref 265), (1, .ref (1000010 + i1)), (2, .int 0)] [] I L M) : zCI C Y_X11_isAll (d + 6) [.ref 265, .ref (1000010 + i1)] (zmk I L M) K := by
  refine S_enter (by decide) (Nat.le_of_ble_eq_true rfl) ?_
  refine S_lv (lv' := [(0, .ref 265), (1, .ref (1000010 + i1))]) rfl ?_
  refine S_iconst (v := 0) dX11_isAll_0 (by decide) ?_
  refine S_istore_n dX11_isAll_1 rfl (by decide) rfl ?_
  exact S_sub [1, 2, 0] rfl T

set_option maxRecDepth 100000 in
theorem t_X11_isAll_2 {C : zC} {I : Nat → Nat → Int32} {L : Nat → Nat → Int64} {M : Nat → Nat → Option Nat} {h0 : zH} (d : Nat) {i1 : Nat} (hi1 : i1 < 10)  (y2 : Int32) {s1 : Nat} (hs1 : s1 < 10) (K : Int32 → (Nat → Nat → Int32) → (Nat → Nat → Int64) → (Nat → Nat → Option Nat) → Prop) (T : zCI C Y_J0_length_8abf5 (d + 5) [.ref (1000010 + s1)] (zmk I L M) (fun r1_1 I1_1 L1_1 M1_1 => ((r1_1 ≤ y2 → K 1 I1_1 L1_1 M1_1) ∧ (¬ (r1_1 ≤ y2) → zCI C Y_J0_charAt_5068e (d + 5) [.ref (1000010 + s1), .int y2] (zmk I1_1 L1_1 M1_1) (fun r2_2 I2_2 L2_2 M2_2 => zCI C Y_X11_is (d + 5) [.ref 265, .int r2_2] (zmk I2_2 L2_2 M2_2) (fun r3_2 I3_2 L3_2 M3_2 => ((¬ r3_2 = 0 → zSI C h0 K Y_X11_isAll (d + 6) 2 [(0, .ref 265), (1, .ref (1000010 + s1)), (2, .int (y2 + 1))] [] I3_2 L3_2 M3_2) ∧ (r3_2 = 0 → K 0 I3_2 L3_2 M3_2)))))))) : zSI C h0 K Y_X11_isAll (d + 6) 2 [(0, .ref 265), (1, .ref (1000010 + s1)), (2, .int y2)] [] I L M := by
  refine S_iload_n 2 dX11_isAll_2 rfl rfl ?_
  refine S_aload_n 1 dX11_isAll_3 rfl rfl ?_
  refine S_callT s1 hs1 [] [.int y2] m_RX11_159 rfl rfl rfl (Nat.le_of_ble_eq_true rfl) (zroom_0 (by decide)) dX11_isAll_4 (zCI_use T ?_)
  intro r1_1 I1_1 L1_1 M1_1 T1_1
  refine S_icmp_ge (tgt := 30) dX11_isAll_7 (by decide) (fun q1 => ?_) (fun q1 => ?_)
  · refine S_iconst (v := 1) dX11_isAll_30 (by decide) ?_
    exact S_iretz rfl (by decide) dX11_isAll_31 ⟨_, I1_1, L1_1, M1_1, rfl, rfl, (T1_1.1 q1)⟩
  · refine S_aload_n 0 dX11_isAll_10 rfl rfl ?_
    refine S_aload_n 1 dX11_isAll_11 rfl rfl ?_
    refine S_iload_n 2 dX11_isAll_12 rfl rfl ?_
    refine S_callT s1 hs1 [.int y2] [.ref 265] m_RX11_164 rfl rfl rfl (Nat.le_of_ble_eq_true rfl) (zroom_0 (by decide)) dX11_isAll_13 (zCI_use (T1_1.2 q1) ?_)
    intro r2_2 I2_2 L2_2 M2_2 T2_2
    refine S_callV [.int r2_2] [] m_RX11_168 rfl rfl s_265 ⟨rfl, by decide⟩ (Nat.le_of_ble_eq_true rfl) (zroom_0 (by decide)) dX11_isAll_16 (zCI_use T2_2 ?_)
    intro r3_2 I3_2 L3_2 M3_2 T3_2
    refine S_if_ne (tgt := 24) dX11_isAll_19 (by decide) (fun q2 => ?_) (fun q2 => ?_)
    · refine S_iinc 2 dX11_isAll_24 rfl rfl (by decide) rfl ?_
      refine S_goto (tgt := 2) dX11_isAll_27 (by decide) ?_
      exact S_sub [1, 2, 0] rfl (T3_2.1 q2)
    · refine S_iconst (v := 0) dX11_isAll_22 (by decide) ?_
      exact S_iretz rfl (by decide) dX11_isAll_23 ⟨_, I3_2, L3_2, M3_2, rfl, rfl, (T3_2.2 q2)⟩

set_option maxRecDepth 100000 in
theorem t_X11_isClause {C : zC} {I : Nat → Nat → Int32} {L : Nat → Nat → Int64} {M : Nat → Nat → Option Nat} (d : Nat) (x1 : Int32)  (K : Int32 → (Nat → Nat → Int32) → (Nat → Nat → Int64) → (Nat → Nat → Option Nat) → Prop) (T : (((I 265 10) ≤ (I 265 12) → zSI C (zmk I L M) K Y_X11_isClause (d + 7) 69 [(0, .ref 265), (1, .int x1), (2, .int (-1))] [] I L M) ∧ (¬ ((I 265 10) ≤ (I 265 12)) → vp_in ((I 265 12)) 100 ∧ ((¬ (I 274 (((I 265 12)).toNatClampNeg)) = 102 → vp_in ((I 265 12)) 100 ∧ ((¬ (I 274 (((I 265 12)).toNatClampNeg)) = 108 → vp_in ((I 265 12)) 100 ∧ ((¬ (I 274 (((I 265 12)).toNatClampNeg)) = 107 → zSI C (zmk I L M) K Y_X11_isClause (d + 7) 69 [(0, .ref 265), (1, .int x1), (2, .int (-1))] [] I L M) ∧ ((I 274 (((I 265 12)).toNatClampNeg)) = 107 → zSI C (zmk I L M) K Y_X11_isClause (d + 7) 69 [(0, .ref 265), (1, .int x1), (2, .int 2)] [] I L M))) ∧ ((I 274 (((I 265 12)).toNatClampNeg)) = 108 → zSI C (zmk I L M) K Y_X11_isClause (d + 7) 69 [(0, .ref 265), (1, .int x1), (2, .int 1)] [] I L M))) ∧ ((I 274 (((I 265 12)).toNatClampNeg)) = 102 → zSI C (zmk I L M) K Y_X11_isClause (d + 7) 69 [(0, .ref 265), (1, .int x1), (2, .int 0)] [] I L M))))) : zCI C Y_X11_isClause (d + 7) [.ref 265, .int x1] (zmk I L M) K := by
  refine S_enter (by decide) (Nat.le_of_ble_eq_true rfl) ?_
  refine S_lv (lv' := [(0, .ref 265), (1, .int x1)]) rfl ?_
  refine S_iconst (v := -1) dX11_isClause_0 (by decide) ?_
  refine S_istore_n dX11_isClause_1 rfl (by decide) rfl ?_
  refine S_aload_n 1 dX11_isClause_2 rfl rfl ?_
  refine S_getI f_RX11_146 s_265 dX11_isClause_3 ?_
  refine S_aload_n 1 dX11_isClause_6 rfl rfl ?_
  refine S_getI f_RX11_143 s_265 dX11_isClause_7 ?_
  refine S_icmp_ge (tgt := 69) dX11_isClause_10 (by decide) (fun q1 => ?_) (fun q1 => ?_)
  · exact S_sub [1, 2, 0] rfl (T.1 q1)
  · refine S_aload_n 1 dX11_isClause_13 rfl rfl ?_
    refine S_getP f_RX11_36 s_265 p_265_11 dX11_isClause_14 ?_
    refine S_aload_n 1 dX11_isClause_17 rfl rfl ?_
    refine S_getI f_RX11_146 s_265 dX11_isClause_18 ?_
    refine S_iald s_274 (T.2 q1).1 dX11_isClause_21 ?_
    refine S_bipush (v := 102) dX11_isClause_22 (by decide) ?_
    refine S_icmp_ne (tgt := 31) dX11_isClause_24 (by decide) (fun q2 => ?_) (fun q2 => ?_)
    · refine S_aload_n 1 dX11_isClause_31 rfl rfl ?_
      refine S_getP f_RX11_36 s_265 p_265_11 dX11_isClause_32 ?_
      refine S_aload_n 1 dX11_isClause_35 rfl rfl ?_
      refine S_getI f_RX11_146 s_265 dX11_isClause_36 ?_
      refine S_iald s_274 ((T.2 q1).2.1 q2).1 dX11_isClause_39 ?_
      refine S_bipush (v := 108) dX11_isClause_40 (by decide) ?_
      refine S_icmp_ne (tgt := 49) dX11_isClause_42 (by decide) (fun q3 => ?_) (fun q3 => ?_)
      · refine S_aload_n 1 dX11_isClause_49 rfl rfl ?_
        refine S_getP f_RX11_36 s_265 p_265_11 dX11_isClause_50 ?_
        refine S_aload_n 1 dX11_isClause_53 rfl rfl ?_
        refine S_getI f_RX11_146 s_265 dX11_isClause_54 ?_
        refine S_iald s_274 (((T.2 q1).2.1 q2).2.1 q3).1 dX11_isClause_57 ?_
        refine S_bipush (v := 107) dX11_isClause_58 (by decide) ?_
        refine S_icmp_ne (tgt := 67) dX11_isClause_60 (by decide) (fun q4 => ?_) (fun q4 => ?_)
        · refine S_iconst (v := -1) dX11_isClause_67 (by decide) ?_
          refine S_istore_n dX11_isClause_68 rfl (by decide) rfl ?_
          exact S_sub [1, 2, 0] rfl ((((T.2 q1).2.1 q2).2.1 q3).2.1 q4)
        · refine S_iconst (v := 2) dX11_isClause_63 (by decide) ?_
          refine S_goto (tgt := 68) dX11_isClause_64 (by decide) ?_
          refine S_istore_n dX11_isClause_68 rfl (by decide) rfl ?_
          exact S_sub [1, 2, 0] rfl ((((T.2 q1).2.1 q2).2.1 q3).2.2 q4)
      · refine S_iconst (v := 1) dX11_isClause_45 (by decide) ?_
        refine S_goto (tgt := 68) dX11_isClause_46 (by decide) ?_
        refine S_istore_n dX11_isClause_68 rfl (by decide) rfl ?_
        exact S_sub [1, 2, 0] rfl (((T.2 q1).2.1 q2).2.2 q3)
    · refine S_iconst (v := 0) dX11_isClause_27 (by decide) ?_
      refine S_goto (tgt := 68) dX11_isClause_28 (by decide) ?_
      refine S_istore_n dX11_isClause_68 rfl (by decide) rfl ?_
      exact S_sub [1, 2, 0] rfl ((T.2 q1).2.2 q2)

set_option maxRecDepth 100000 in
theorem t_X11_isClause_69 {C : zC} {I : Nat → Nat → Int32} {L : Nat → Nat → Int64} {M : Nat → Nat → Option Nat} {h0 : zH} (d : Nat)   (y1 : Int32) (y2 : Int32) (K : Int32 → (Nat → Nat → Int32) → (Nat → Nat → Int64) → (Nat → Nat → Option Nat) → Prop) (T : ((¬ y2 = 0 → ((¬ y2 = 1 → ((¬ y2 = 2 → zSI C h0 K Y_X11_isClause (d + 7) 114 [(0, .ref 265), (1, .int y1), (2, .int y2)] [] I L M) ∧ (y2 = 2 → zCI C Y_X11_isAll (d + 6) [.ref 265, .ref (1000010 + 7)] (zmk I L M) (fun r1_4 I1_4 L1_4 M1_4 => ((r1_4 = 0 → zSI C h0 K Y_X11_isClause (d + 7) 114 [(0, .ref 265), (1, .int y1), (2, .int y2)] [] I1_4 L1_4 M1_4) ∧ (¬ (r1_4 = 0) → zSI C h0 K Y_X11_isClause (d + 7) 115 [(0, .ref 265), (1, .int y1), (2, .int y2)] [.int 1] I1_4 L1_4 M1_4)))))) ∧ (y2 = 1 → zCI C Y_X11_isAll (d + 6) [.ref 265, .ref (1000010 + 6)] (zmk I L M) (fun r2_3 I2_3 L2_3 M2_3 => zSI C h0 K Y_X11_isClause (d + 7) 115 [(0, .ref 265), (1, .int y1), (2, .int y2)] [.int r2_3] I2_3 L2_3 M2_3)))) ∧ (y2 = 0 → zCI C Y_X11_isAll (d + 6) [.ref 265, .ref (1000010 + 5)] (zmk I L M) (fun r3_2 I3_2 L3_2 M3_2 => zSI C h0 K Y_X11_isClause (d + 7) 115 [(0, .ref 265), (1, .int y1), (2, .int y2)] [.int r3_2] I3_2 L3_2 M3_2)))) : zSI C h0 K Y_X11_isClause (d + 7) 69 [(0, .ref 265), (1, .int y1), (2, .int y2)] [] I L M := by
  refine S_iload_n 2 dX11_isClause_69 rfl rfl ?_
  refine S_if_ne (tgt := 82) dX11_isClause_70 (by decide) (fun q1 => ?_) (fun q1 => ?_)
  · refine S_iload_n 2 dX11_isClause_82 rfl rfl ?_
    refine S_iconst (v := 1) dX11_isClause_83 (by decide) ?_
    refine S_icmp_ne (tgt := 96) dX11_isClause_84 (by decide) (fun q2 => ?_) (fun q2 => ?_)
    · refine S_iload_n 2 dX11_isClause_96 rfl rfl ?_
      refine S_iconst (v := 2) dX11_isClause_97 (by decide) ?_
      refine S_icmp_ne (tgt := 114) dX11_isClause_98 (by decide) (fun q3 => ?_) (fun q3 => ?_)
      · exact S_sub [0, 1, 2] rfl (((T.1 q1).1 q2).1 q3)
      · refine S_aload_n 0 dX11_isClause_101 rfl rfl ?_
        refine S_ldcS 7 (by decide) rfl rfl dX11_isClause_102 ?_
        refine S_callV [.ref (1000010 + 7)] [] m_RX11_207 rfl rfl s_265 ⟨rfl, by decide⟩ (Nat.le_of_ble_eq_true rfl) (zroom_0 (by decide)) dX11_isClause_104 (zCI_use (((T.1 q1).1 q2).2 q3) ?_)
        intro r1_4 I1_4 L1_4 M1_4 T1_4
        refine S_if_eq (tgt := 114) dX11_isClause_107 (by decide) (fun q4 => ?_) (fun q4 => ?_)
        · exact S_sub [0, 1, 2] rfl (T1_4.1 q4)
        · refine S_iconst (v := 1) dX11_isClause_110 (by decide) ?_
          refine S_goto (tgt := 115) dX11_isClause_111 (by decide) ?_
          exact S_sub [0, 1, 2] rfl (T1_4.2 q4)
    · refine S_aload_n 0 dX11_isClause_87 rfl rfl ?_
      refine S_ldcS 6 (by decide) rfl rfl dX11_isClause_88 ?_
      refine S_callV [.ref (1000010 + 6)] [] m_RX11_207 rfl rfl s_265 ⟨rfl, by decide⟩ (Nat.le_of_ble_eq_true rfl) (zroom_0 (by decide)) dX11_isClause_90 (zCI_use ((T.1 q1).2 q2) ?_)
      intro r2_3 I2_3 L2_3 M2_3 T2_3
      refine S_goto (tgt := 115) dX11_isClause_93 (by decide) ?_
      exact S_sub [0, 1, 2] rfl T2_3
  · refine S_aload_n 0 dX11_isClause_73 rfl rfl ?_
    refine S_ldcS 5 (by decide) rfl rfl dX11_isClause_74 ?_
    refine S_callV [.ref (1000010 + 5)] [] m_RX11_207 rfl rfl s_265 ⟨rfl, by decide⟩ (Nat.le_of_ble_eq_true rfl) (zroom_0 (by decide)) dX11_isClause_76 (zCI_use (T.2 q1) ?_)
    intro r3_2 I3_2 L3_2 M3_2 T3_2
    refine S_goto (tgt := 115) dX11_isClause_79 (by decide) ?_
    exact S_sub [0, 1, 2] rfl T3_2

set_option maxRecDepth 100000 in
theorem t_X11_isClause_114 {C : zC} {I : Nat → Nat → Int32} {L : Nat → Nat → Int64} {M : Nat → Nat → Option Nat} {h0 : zH} (d : Nat)   (y1 : Int32) (y2 : Int32) (K : Int32 → (Nat → Nat → Int32) → (Nat → Nat → Int64) → (Nat → Nat → Option Nat) → Prop) (T : zSI C h0 K Y_X11_isClause (d + 7) 115 [(0, .ref 265), (1, .int y1), (2, .int y2)] [.int 0] I L M) : zSI C h0 K Y_X11_isClause (d + 7) 114 [(0, .ref 265), (1, .int y1), (2, .int y2)] [] I L M := by
  refine S_iconst (v := 0) dX11_isClause_114 (by decide) ?_
  exact S_sub [0, 1, 2] rfl T

set_option maxRecDepth 100000 in
theorem t_X11_isClause_115 {C : zC} {I : Nat → Nat → Int32} {L : Nat → Nat → Int64} {M : Nat → Nat → Option Nat} {h0 : zH} (d : Nat)   (y1 : Int32) (y2 : Int32) (z0 : Int32) (K : Int32 → (Nat → Nat → Int32) → (Nat → Nat → Int64) → (Nat → Nat → Option Nat) → Prop) (T : ((z0 = 0 → K 0 I L M) ∧ (¬ (z0 = 0) → zCI C Y_X11_isNumber (d + 6) [.ref 265] (zmk I L M) (fun r1_2 I1_2 L1_2 M1_2 => ((¬ r1_2 = 0 → vp_in y1 61 ∧ vp_in y1 61 ∧ vp_in y1 61 ∧ ((2 ≤ y2 → zSI C h0 K Y_X11_isClause (d + 7) 184 [(0, .ref 265), (1, .int y1)] [] (u2 (u2 (u2 (u2 I1_2 276 y1.toNatClampNeg y2) 277 y1.toNatClampNeg ((I1_2 265 13))) 278 y1.toNatClampNeg ((I1_2 265 24))) 265 15 0) L1_2 M1_2) ∧ (¬ (2 ≤ y2) → zCI C Y_X11_is (d + 6) [.ref 265, .int 32] (zmk (u2 (u2 (u2 (u2 I1_2 276 y1.toNatClampNeg y2) 277 y1.toNatClampNeg ((I1_2 265 13))) 278 y1.toNatClampNeg ((I1_2 265 24))) 265 15 0) L1_2 M1_2) (fun r2_4 I2_4 L2_4 M2_4 => ((r2_4 = 0 → K 0 I2_4 L2_4 M2_4) ∧ (¬ (r2_4 = 0) → zCI C Y_X11_isE (d + 6) [.ref 265] (zmk I2_4 L2_4 M2_4) (fun r3_5 I3_5 L3_5 M3_5 => ((¬ r3_5 = 0 → zSI C h0 K Y_X11_isClause (d + 7) 184 [(0, .ref 265), (1, .int y1)] [] I3_5 L3_5 M3_5) ∧ (r3_5 = 0 → K 0 I3_5 L3_5 M3_5))))))))) ∧ (r1_2 = 0 → K 0 I1_2 L1_2 M1_2)))))) : zSI C h0 K Y_X11_isClause (d + 7) 115 [(0, .ref 265), (1, .int y1), (2, .int y2)] [.int z0] I L M := by
  refine S_istore_n dX11_isClause_115 rfl (by decide) rfl ?_
  refine S_iload_n 0 dX11_isClause_116 rfl rfl ?_
  refine S_if_eq (tgt := 127) dX11_isClause_117 (by decide) (fun q1 => ?_) (fun q1 => ?_)
  · refine S_iconst (v := 0) dX11_isClause_127 (by decide) ?_
    exact S_iretz rfl (by decide) dX11_isClause_128 ⟨_, I, L, M, rfl, rfl, (T.1 q1)⟩
  · refine S_aload_n 1 dX11_isClause_120 rfl rfl ?_
    refine S_callV [] [] m_RX11_181 rfl rfl s_265 ⟨rfl, by decide⟩ (Nat.le_of_ble_eq_true rfl) (zroom_0 (by decide)) dX11_isClause_121 (zCI_use (T.2 q1) ?_)
    intro r1_2 I1_2 L1_2 M1_2 T1_2
    refine S_if_ne (tgt := 129) dX11_isClause_124 (by decide) (fun q2 => ?_) (fun q2 => ?_)
    · refine S_aload_n 1 dX11_isClause_129 rfl rfl ?_
      refine S_getP f_RX11_42 s_265 p_265_19 dX11_isClause_130 ?_
      refine S_iload_n 2 dX11_isClause_133 rfl rfl ?_
      refine S_iload_n 3 dX11_isClause_134 rfl rfl ?_
      refine S_iast s_276 (T1_2.1 q2).1 dX11_isClause_135 ?_
      refine S_aload_n 1 dX11_isClause_136 rfl rfl ?_
      refine S_getP f_RX11_45 s_265 p_265_20 dX11_isClause_137 ?_
      refine S_iload_n 2 dX11_isClause_140 rfl rfl ?_
      refine S_aload_n 1 dX11_isClause_141 rfl rfl ?_
      refine S_getI f_RX11_149 s_265 dX11_isClause_142 ?_
      refine S_iast s_277 (T1_2.1 q2).2.1 dX11_isClause_145 ?_
      refine S_aload_n 1 dX11_isClause_146 rfl rfl ?_
      refine S_getP f_RX11_48 s_265 p_265_21 dX11_isClause_147 ?_
      refine S_iload_n 2 dX11_isClause_150 rfl rfl ?_
      refine S_aload_n 1 dX11_isClause_151 rfl rfl ?_
      refine S_getI f_RX11_171 s_265 dX11_isClause_152 ?_
      refine S_iast s_278 (T1_2.1 q2).2.2.1 dX11_isClause_155 ?_
      refine S_aload_n 1 dX11_isClause_156 rfl rfl ?_
      refine S_iconst (v := 0) dX11_isClause_157 (by decide) ?_
      refine S_putI f_RX11_187 s_265 (Or.inl rfl) rfl dX11_isClause_158 ?_
      refine S_iload_n 3 dX11_isClause_161 rfl rfl ?_
      refine S_iconst (v := 2) dX11_isClause_162 (by decide) ?_
      refine S_icmp_ge (tgt := 184) dX11_isClause_163 (by decide) (fun q3 => ?_) (fun q3 => ?_)
      · exact S_sub [1, 2] rfl ((T1_2.1 q2).2.2.2.1 q3)
      · refine S_aload_n 1 dX11_isClause_166 rfl rfl ?_
        refine S_bipush (v := 32) dX11_isClause_167 (by decide) ?_
        refine S_callV [.int 32] [] m_RX11_168 rfl rfl s_265 ⟨rfl, by decide⟩ (Nat.le_of_ble_eq_true rfl) (zroom_0 (by decide)) dX11_isClause_169 (zCI_use ((T1_2.1 q2).2.2.2.2 q3) ?_)
        intro r2_4 I2_4 L2_4 M2_4 T2_4
        refine S_if_eq (tgt := 182) dX11_isClause_172 (by decide) (fun q4 => ?_) (fun q4 => ?_)
        · refine S_iconst (v := 0) dX11_isClause_182 (by decide) ?_
          exact S_iretz rfl (by decide) dX11_isClause_183 ⟨_, I2_4, L2_4, M2_4, rfl, rfl, (T2_4.1 q4)⟩
        · refine S_aload_n 1 dX11_isClause_175 rfl rfl ?_
          refine S_callV [] [] m_RX11_196 rfl rfl s_265 ⟨rfl, by decide⟩ (Nat.le_of_ble_eq_true rfl) (zroom_0 (by decide)) dX11_isClause_176 (zCI_use (T2_4.2 q4) ?_)
          intro r3_5 I3_5 L3_5 M3_5 T3_5
          refine S_if_ne (tgt := 184) dX11_isClause_179 (by decide) (fun q5 => ?_) (fun q5 => ?_)
          · exact S_sub [1, 2] rfl (T3_5.1 q5)
          · refine S_iconst (v := 0) dX11_isClause_182 (by decide) ?_
            exact S_iretz rfl (by decide) dX11_isClause_183 ⟨_, I3_5, L3_5, M3_5, rfl, rfl, (T3_5.2 q5)⟩
    · refine S_iconst (v := 0) dX11_isClause_127 (by decide) ?_
      exact S_iretz rfl (by decide) dX11_isClause_128 ⟨_, I1_2, L1_2, M1_2, rfl, rfl, (T1_2.2 q2)⟩

set_option maxRecDepth 100000 in
theorem t_X11_isClause_184 {C : zC} {I : Nat → Nat → Int32} {L : Nat → Nat → Int64} {M : Nat → Nat → Option Nat} {h0 : zH} (d : Nat)   (y1 : Int32) (K : Int32 → (Nat → Nat → Int32) → (Nat → Nat → Int64) → (Nat → Nat → Option Nat) → Prop) (T : vp_in y1 61 ∧ vp_in y1 61 ∧ K 1 (u2 I 279 y1.toNatClampNeg (((I 265 24) - (I 278 y1.toNatClampNeg)))) L M) : zSI C h0 K Y_X11_isClause (d + 7) 184 [(0, .ref 265), (1, .int y1)] [] I L M := by
  refine S_aload_n 0 dX11_isClause_184 rfl rfl ?_
  refine S_getP f_RX11_51 s_265 p_265_22 dX11_isClause_185 ?_
  refine S_iload_n 1 dX11_isClause_188 rfl rfl ?_
  refine S_aload_n 0 dX11_isClause_189 rfl rfl ?_
  refine S_getI f_RX11_171 s_265 dX11_isClause_190 ?_
  refine S_aload_n 0 dX11_isClause_193 rfl rfl ?_
  refine S_getP f_RX11_48 s_265 p_265_21 dX11_isClause_194 ?_
  refine S_iload_n 1 dX11_isClause_197 rfl rfl ?_
  refine S_iald s_278 T.1 dX11_isClause_198 ?_
  refine S_isub dX11_isClause_199 ?_
  refine S_iast s_279 T.2.1 dX11_isClause_200 ?_
  refine S_iconst (v := 1) dX11_isClause_201 (by decide) ?_
  exact S_iretz rfl (by decide) dX11_isClause_202 ⟨_, u2 I 279 y1.toNatClampNeg (((I 265 24) - (I 278 y1.toNatClampNeg))), L, M, rfl, rfl, T.2.2⟩

set_option maxRecDepth 100000 in
theorem t_X11_isDigit {C : zC} {I : Nat → Nat → Int32} {L : Nat → Nat → Int64} {M : Nat → Nat → Option Nat} (d : Nat)   (K : Int32 → (Nat → Nat → Int32) → (Nat → Nat → Int64) → (Nat → Nat → Option Nat) → Prop) (T : (((I 265 10) ≤ (I 265 12) → K 0 I L M) ∧ (¬ ((I 265 10) ≤ (I 265 12)) → vp_in ((I 265 12)) 100 ∧ (((I 274 (((I 265 12)).toNatClampNeg)) < 48 → K 0 I L M) ∧ (¬ ((I 274 (((I 265 12)).toNatClampNeg)) < 48) → vp_in ((I 265 12)) 100 ∧ ((57 < (I 274 (((I 265 12)).toNatClampNeg)) → K 0 I L M) ∧ (¬ (57 < (I 274 (((I 265 12)).toNatClampNeg))) → K 1 I L M))))))) : zCI C Y_X11_isDigit (d + 1) [.ref 265] (zmk I L M) K := by
  refine S_enter (by decide) (Nat.le_of_ble_eq_true rfl) ?_
  refine S_lv (lv' := [(0, .ref 265)]) rfl ?_
  refine S_aload_n 0 dX11_isDigit_0 rfl rfl ?_
  refine S_getI f_RX11_146 s_265 dX11_isDigit_1 ?_
  refine S_aload_n 0 dX11_isDigit_4 rfl rfl ?_
  refine S_getI f_RX11_143 s_265 dX11_isDigit_5 ?_
  refine S_icmp_ge (tgt := 43) dX11_isDigit_8 (by decide) (fun q1 => ?_) (fun q1 => ?_)
  · refine S_iconst (v := 0) dX11_isDigit_43 (by decide) ?_
    exact S_iretz rfl (by decide) dX11_isDigit_44 ⟨_, I, L, M, rfl, rfl, (T.1 q1)⟩
  · refine S_aload_n 0 dX11_isDigit_11 rfl rfl ?_
    refine S_getP f_RX11_36 s_265 p_265_11 dX11_isDigit_12 ?_
    refine S_aload_n 0 dX11_isDigit_15 rfl rfl ?_
    refine S_getI f_RX11_146 s_265 dX11_isDigit_16 ?_
    refine S_iald s_274 (T.2 q1).1 dX11_isDigit_19 ?_
    refine S_bipush (v := 48) dX11_isDigit_20 (by decide) ?_
    refine S_icmp_lt (tgt := 43) dX11_isDigit_22 (by decide) (fun q2 => ?_) (fun q2 => ?_)
    · refine S_iconst (v := 0) dX11_isDigit_43 (by decide) ?_
      exact S_iretz rfl (by decide) dX11_isDigit_44 ⟨_, I, L, M, rfl, rfl, ((T.2 q1).2.1 q2)⟩
    · refine S_aload_n 0 dX11_isDigit_25 rfl rfl ?_
      refine S_getP f_RX11_36 s_265 p_265_11 dX11_isDigit_26 ?_
      refine S_aload_n 0 dX11_isDigit_29 rfl rfl ?_
      refine S_getI f_RX11_146 s_265 dX11_isDigit_30 ?_
      refine S_iald s_274 ((T.2 q1).2.2 q2).1 dX11_isDigit_33 ?_
      refine S_bipush (v := 57) dX11_isDigit_34 (by decide) ?_
      refine S_icmp_gt (tgt := 43) dX11_isDigit_36 (by decide) (fun q3 => ?_) (fun q3 => ?_)
      · refine S_iconst (v := 0) dX11_isDigit_43 (by decide) ?_
        exact S_iretz rfl (by decide) dX11_isDigit_44 ⟨_, I, L, M, rfl, rfl, (((T.2 q1).2.2 q2).2.1 q3)⟩
      · refine S_iconst (v := 1) dX11_isDigit_39 (by decide) ?_
        refine S_goto (tgt := 44) dX11_isDigit_40 (by decide) ?_
        exact S_iretz rfl (by decide) dX11_isDigit_44 ⟨_, I, L, M, rfl, rfl, (((T.2 q1).2.2 q2).2.2 q3)⟩

set_option maxRecDepth 100000 in
theorem t_X11_isNumber {C : zC} {I : Nat → Nat → Int32} {L : Nat → Nat → Int64} {M : Nat → Nat → Option Nat} (d : Nat)   (K : Int32 → (Nat → Nat → Int32) → (Nat → Nat → Int64) → (Nat → Nat → Option Nat) → Prop) (T : zSI C (zmk I L M) K Y_X11_isNumber (d + 2) 10 [(0, .ref 265)] [] (u2 (u2 I 265 13 0) 265 14 0) L M) : zCI C Y_X11_isNumber (d + 2) [.ref 265] (zmk I L M) K := by
  refine S_enter (by decide) (Nat.le_of_ble_eq_true rfl) ?_
  refine S_lv (lv' := [(0, .ref 265)]) rfl ?_
  refine S_aload_n 0 dX11_isNumber_0 rfl rfl ?_
  refine S_iconst (v := 0) dX11_isNumber_1 (by decide) ?_
  refine S_putI f_RX11_149 s_265 (Or.inl rfl) rfl dX11_isNumber_2 ?_
  refine S_aload_n 0 dX11_isNumber_5 rfl rfl ?_
  refine S_iconst (v := 0) dX11_isNumber_6 (by decide) ?_
  refine S_putI f_RX11_152 s_265 (Or.inl rfl) rfl dX11_isNumber_7 ?_
  exact S_sub [0] rfl T

set_option maxRecDepth 100000 in
theorem t_X11_isNumber_10 {C : zC} {I : Nat → Nat → Int32} {L : Nat → Nat → Int64} {M : Nat → Nat → Option Nat} {h0 : zH} (d : Nat)    (K : Int32 → (Nat → Nat → Int32) → (Nat → Nat → Int64) → (Nat → Nat → Option Nat) → Prop) (T : ((2 ≤ (I 265 14) → zSI C h0 K Y_X11_isNumber (d + 2) 72 [(0, .ref 265)] [] I L M) ∧ (¬ (2 ≤ (I 265 14)) → zCI C Y_X11_isDigit (d + 1) [.ref 265] (zmk I L M) (fun r1_2 I1_2 L1_2 M1_2 => ((r1_2 = 0 → zSI C h0 K Y_X11_isNumber (d + 2) 72 [(0, .ref 265)] [] I1_2 L1_2 M1_2) ∧ (¬ (r1_2 = 0) → vp_in ((I1_2 265 12)) 100 ∧ zSI C h0 K Y_X11_isNumber (d + 2) 10 [(0, .ref 265)] [] (u2 (u2 (u2 I1_2 265 13 (((((10 : Int32) * (I1_2 265 13)) + (I1_2 274 (((I1_2 265 12)).toNatClampNeg))) - (48 : Int32)))) 265 12 (((I1_2 265 12) + (1 : Int32)))) 265 14 (((I1_2 265 14) + (1 : Int32)))) L1_2 M1_2)))))) : zSI C h0 K Y_X11_isNumber (d + 2) 10 [(0, .ref 265)] [] I L M := by
  refine S_aload_n 0 dX11_isNumber_10 rfl rfl ?_
  refine S_getI f_RX11_152 s_265 dX11_isNumber_11 ?_
  refine S_iconst (v := 2) dX11_isNumber_14 (by decide) ?_
  refine S_icmp_ge (tgt := 72) dX11_isNumber_15 (by decide) (fun q1 => ?_) (fun q1 => ?_)
  · exact S_sub [0] rfl (T.1 q1)
  · refine S_aload_n 0 dX11_isNumber_18 rfl rfl ?_
    refine S_callV [] [] m_RX11_155 rfl rfl s_265 ⟨rfl, by decide⟩ (Nat.le_of_ble_eq_true rfl) (zroom_0 (by decide)) dX11_isNumber_19 (zCI_use (T.2 q1) ?_)
    intro r1_2 I1_2 L1_2 M1_2 T1_2
    refine S_if_eq (tgt := 72) dX11_isNumber_22 (by decide) (fun q2 => ?_) (fun q2 => ?_)
    · exact S_sub [0] rfl (T1_2.1 q2)
    · refine S_aload_n 0 dX11_isNumber_25 rfl rfl ?_
      refine S_bipush (v := 10) dX11_isNumber_26 (by decide) ?_
      refine S_aload_n 0 dX11_isNumber_28 rfl rfl ?_
      refine S_getI f_RX11_149 s_265 dX11_isNumber_29 ?_
      refine S_imul dX11_isNumber_32 ?_
      refine S_aload_n 0 dX11_isNumber_33 rfl rfl ?_
      refine S_getP f_RX11_36 s_265 p_265_11 dX11_isNumber_34 ?_
      refine S_aload_n 0 dX11_isNumber_37 rfl rfl ?_
      refine S_getI f_RX11_146 s_265 dX11_isNumber_38 ?_
      refine S_iald s_274 (T1_2.2 q2).1 dX11_isNumber_41 ?_
      refine S_iadd dX11_isNumber_42 ?_
      refine S_bipush (v := 48) dX11_isNumber_43 (by decide) ?_
      refine S_isub dX11_isNumber_45 ?_
      refine S_putI f_RX11_149 s_265 (Or.inl rfl) rfl dX11_isNumber_46 ?_
      refine S_aload_n 0 dX11_isNumber_49 rfl rfl ?_
      refine S_dup dX11_isNumber_50 rfl ?_
      refine S_getI f_RX11_146 s_265 dX11_isNumber_51 ?_
      refine S_iconst (v := 1) dX11_isNumber_54 (by decide) ?_
      refine S_iadd dX11_isNumber_55 ?_
      refine S_putI f_RX11_146 s_265 (Or.inl rfl) rfl dX11_isNumber_56 ?_
      refine S_aload_n 0 dX11_isNumber_59 rfl rfl ?_
      refine S_dup dX11_isNumber_60 rfl ?_
      refine S_getI f_RX11_152 s_265 dX11_isNumber_61 ?_
      refine S_iconst (v := 1) dX11_isNumber_64 (by decide) ?_
      refine S_iadd dX11_isNumber_65 ?_
      refine S_putI f_RX11_152 s_265 (Or.inl rfl) rfl dX11_isNumber_66 ?_
      refine S_goto (tgt := 10) dX11_isNumber_69 (by decide) ?_
      exact S_sub [0] rfl (T1_2.2 q2).2

set_option maxRecDepth 100000 in
theorem t_X11_isNumber_72 {C : zC} {I : Nat → Nat → Int32} {L : Nat → Nat → Int64} {M : Nat → Nat → Option Nat} {h0 : zH} (d : Nat)    (K : Int32 → (Nat → Nat → Int32) → (Nat → Nat → Int64) → (Nat → Nat → Option Nat) → Prop) (T : (((I 265 14) ≤ 0 → K 0 I L M) ∧ (¬ ((I 265 14) ≤ 0) → K 1 I L M))) : zSI C h0 K Y_X11_isNumber (d + 2) 72 [(0, .ref 265)] [] I L M := by
  refine S_aload_n 0 dX11_isNumber_72 rfl rfl ?_
  refine S_getI f_RX11_152 s_265 dX11_isNumber_73 ?_
  refine S_if_le (tgt := 83) dX11_isNumber_76 (by decide) (fun q1 => ?_) (fun q1 => ?_)
  · refine S_iconst (v := 0) dX11_isNumber_83 (by decide) ?_
    exact S_iretz rfl (by decide) dX11_isNumber_84 ⟨_, I, L, M, rfl, rfl, (T.1 q1)⟩
  · refine S_iconst (v := 1) dX11_isNumber_79 (by decide) ?_
    refine S_goto (tgt := 84) dX11_isNumber_80 (by decide) ?_
    exact S_iretz rfl (by decide) dX11_isNumber_84 ⟨_, I, L, M, rfl, rfl, (T.2 q1)⟩

set_option maxRecDepth 100000 in
theorem t_X11_isSeen {C : zC} {I : Nat → Nat → Int32} {L : Nat → Nat → Int64} {M : Nat → Nat → Option Nat} (d : Nat) (x1 : Int32)  (K : Int32 → (Nat → Nat → Int32) → (Nat → Nat → Int64) → (Nat → Nat → Option Nat) → Prop) (T : vp_in x1 6 ∧ vp_in x1 6 ∧ zSI C (zmk I L M) K Y_X11_isSeen (d + 7) 26 [(0, .ref 265), (1, .int x1), (2, .int (I 270 x1.toNatClampNeg)), (3, .int (I 271 x1.toNatClampNeg)), (4, .int (I 265 9)), (5, .int 1), (6, .int 0)] [] I L M) : zCI C Y_X11_isSeen (d + 7) [.ref 265, .int x1] (zmk I L M) K := by
  refine S_enter (by decide) (Nat.le_of_ble_eq_true rfl) ?_
  refine S_lv (lv' := [(0, .ref 265), (1, .int x1)]) rfl ?_
  refine S_aload_n 0 dX11_isSeen_0 rfl rfl ?_
  refine S_getP f_RX11_24 s_265 p_265_5 dX11_isSeen_1 ?_
  refine S_iload_n 1 dX11_isSeen_4 rfl rfl ?_
  refine S_iald s_270 T.1 dX11_isSeen_5 ?_
  refine S_istore_n dX11_isSeen_6 rfl (by decide) rfl ?_
  refine S_aload_n 1 dX11_isSeen_7 rfl rfl ?_
  refine S_getP f_RX11_27 s_265 p_265_6 dX11_isSeen_8 ?_
  refine S_iload_n 2 dX11_isSeen_11 rfl rfl ?_
  refine S_iald s_271 T.2.1 dX11_isSeen_12 ?_
  refine S_istore_n dX11_isSeen_13 rfl (by decide) rfl ?_
  refine S_aload_n 2 dX11_isSeen_14 rfl rfl ?_
  refine S_getI f_RX11_221 s_265 dX11_isSeen_15 ?_
  refine S_istore dX11_isSeen_18 (by decide) rfl ?_
  refine S_iconst (v := 1) dX11_isSeen_20 (by decide) ?_
  refine S_istore dX11_isSeen_21 (by decide) rfl ?_
  refine S_iconst (v := 0) dX11_isSeen_23 (by decide) ?_
  refine S_istore dX11_isSeen_24 (by decide) rfl ?_
  exact S_sub [5, 6, 4, 3, 2, 1, 0] rfl T.2.2

set_option maxRecDepth 100000 in
theorem t_X11_isSeen_26 {C : zC} {I : Nat → Nat → Int32} {L : Nat → Nat → Int64} {M : Nat → Nat → Option Nat} {h0 : zH} (d : Nat)   (y1 : Int32) (y2 : Int32) (y3 : Int32) (y4 : Int32) (y5 : Int32) (y6 : Int32) (K : Int32 → (Nat → Nat → Int32) → (Nat → Nat → Int64) → (Nat → Nat → Option Nat) → Prop) (T : ((13 ≤ y6 → zSI C h0 K Y_X11_isSeen (d + 7) 133 [(0, .ref 265), (1, .int y1), (2, .int y2), (3, .int y3), (4, .int y4), (5, .int y5)] [] I L M) ∧ (¬ (13 ≤ y6) → ((y5 = 0 → zSI C h0 K Y_X11_isSeen (d + 7) 133 [(0, .ref 265), (1, .int y1), (2, .int y2), (3, .int y3), (4, .int y4), (5, .int y5)] [] I L M) ∧ (¬ (y5 = 0) → ((y6 ≤ 0 → zSI C h0 K Y_X11_isSeen (d + 7) 51 [(0, .ref 265), (1, .int y1), (2, .int y2), (3, .int y3), (4, .int y4), (5, .int y5), (6, .int y6), (7, .int 0)] [] I L M) ∧ (¬ (y6 ≤ 0) → zCV C Y_X11_goesOne (d + 6) [.ref 265, .int y1] (zmk I L M) (fun I1_4 L1_4 M1_4 => zSI C h0 K Y_X11_isSeen (d + 7) 51 [(0, .ref 265), (1, .int y1), (2, .int y2), (3, .int y3), (4, .int y4), (5, .int y5), (6, .int y6), (7, .int 0)] [] I1_4 L1_4 M1_4)))))))) : zSI C h0 K Y_X11_isSeen (d + 7) 26 [(0, .ref 265), (1, .int y1), (2, .int y2), (3, .int y3), (4, .int y4), (5, .int y5), (6, .int y6)] [] I L M := by
  refine S_iload 6 dX11_isSeen_26 rfl ?_
  refine S_bipush (v := 13) dX11_isSeen_28 (by decide) ?_
  refine S_icmp_ge (tgt := 133) dX11_isSeen_30 (by decide) (fun q1 => ?_) (fun q1 => ?_)
  · exact S_sub [0, 1, 2, 3, 4, 5] rfl (T.1 q1)
  · refine S_iload 5 dX11_isSeen_33 rfl ?_
    refine S_if_eq (tgt := 133) dX11_isSeen_35 (by decide) (fun q2 => ?_) (fun q2 => ?_)
    · exact S_sub [0, 1, 2, 3, 4, 5] rfl ((T.2 q1).1 q2)
    · refine S_iload 6 dX11_isSeen_38 rfl ?_
      refine S_if_le (tgt := 48) dX11_isSeen_40 (by decide) (fun q3 => ?_) (fun q3 => ?_)
      · refine S_iconst (v := 0) dX11_isSeen_48 (by decide) ?_
        refine S_istore dX11_isSeen_49 (by decide) rfl ?_
        exact S_sub [1, 2, 3, 4, 5, 6, 7, 0] rfl (((T.2 q1).2 q2).1 q3)
      · refine S_aload_n 0 dX11_isSeen_43 rfl rfl ?_
        refine S_iload_n 1 dX11_isSeen_44 rfl rfl ?_
        refine S_callV [.int y1] [] m_RX11_276 rfl rfl s_265 ⟨rfl, by decide⟩ (Nat.le_of_ble_eq_true rfl) (zroom_0 (by decide)) dX11_isSeen_45 (zCV_use (((T.2 q1).2 q2).2 q3) ?_)
        intro I1_4 L1_4 M1_4 T1_4
        refine S_iconst (v := 0) dX11_isSeen_48 (by decide) ?_
        refine S_istore dX11_isSeen_49 (by decide) rfl ?_
        exact S_sub [1, 2, 3, 4, 5, 6, 7, 0] rfl T1_4

set_option maxRecDepth 100000 in
theorem t_X11_isSeen_133 {C : zC} {I : Nat → Nat → Int32} {L : Nat → Nat → Int64} {M : Nat → Nat → Option Nat} {h0 : zH} (d : Nat)   (y1 : Int32) (y2 : Int32) (y3 : Int32) (y4 : Int32) (y5 : Int32) (K : Int32 → (Nat → Nat → Int32) → (Nat → Nat → Int64) → (Nat → Nat → Option Nat) → Prop) (T : zCV C Y_X11_restores (d + 6) [.ref 265, .int y1, .int y2, .int y3, .int y4] (zmk I L M) (fun I1_1 L1_1 M1_1 => ((y5 = 0 ∨ y5 = 1) ∧ K y5 I1_1 L1_1 M1_1))) : zSI C h0 K Y_X11_isSeen (d + 7) 133 [(0, .ref 265), (1, .int y1), (2, .int y2), (3, .int y3), (4, .int y4), (5, .int y5)] [] I L M := by
  refine S_aload_n 0 dX11_isSeen_133 rfl rfl ?_
  refine S_iload_n 1 dX11_isSeen_134 rfl rfl ?_
  refine S_iload_n 2 dX11_isSeen_135 rfl rfl ?_
  refine S_iload_n 3 dX11_isSeen_136 rfl rfl ?_
  refine S_iload 4 dX11_isSeen_137 rfl ?_
  refine S_callV [.int y1, .int y2, .int y3, .int y4] [] m_RX11_280 rfl rfl s_265 ⟨rfl, by decide⟩ (Nat.le_of_ble_eq_true rfl) (zroom_0 (by decide)) dX11_isSeen_139 (zCV_use T ?_)
  intro I1_1 L1_1 M1_1 T1_1
  refine S_iload 5 dX11_isSeen_142 rfl ?_
  exact S_iretz rfl T1_1.1 dX11_isSeen_144 ⟨_, I1_1, L1_1, M1_1, rfl, rfl, T1_1.2⟩

set_option maxRecDepth 100000 in
theorem t_X11_isSeen_51 {C : zC} {I : Nat → Nat → Int32} {L : Nat → Nat → Int64} {M : Nat → Nat → Option Nat} {h0 : zH} (d : Nat)   (y1 : Int32) (y2 : Int32) (y3 : Int32) (y4 : Int32) (y5 : Int32) (y6 : Int32) (y7 : Int32) (K : Int32 → (Nat → Nat → Int32) → (Nat → Nat → Int64) → (Nat → Nat → Option Nat) → Prop) (T : (((I 265 26) ≤ y7 → zSI C h0 K Y_X11_isSeen (d + 7) 26 [(0, .ref 265), (1, .int y1), (2, .int y2), (3, .int y3), (4, .int y4), (5, .int y5), (6, .int (y6 + 1))] [] I L M) ∧ (¬ ((I 265 26) ≤ y7) → vp_in y7 5 ∧ ((¬ (I 282 y7.toNatClampNeg) = y1 → zSI C h0 K Y_X11_isSeen (d + 7) 51 [(0, .ref 265), (1, .int y1), (2, .int y2), (3, .int y3), (4, .int y4), (5, .int y5), (6, .int y6), (7, .int (y7 + 1))] [] I L M) ∧ ((I 282 y7.toNatClampNeg) = y1 → vp_in y7 5 ∧ ((¬ (I 283 y7.toNatClampNeg) = y6 → zSI C h0 K Y_X11_isSeen (d + 7) 51 [(0, .ref 265), (1, .int y1), (2, .int y2), (3, .int y3), (4, .int y4), (5, .int y5), (6, .int y6), (7, .int (y7 + 1))] [] I L M) ∧ ((I 283 y7.toNatClampNeg) = y6 → vp_in y1 6 ∧ vp_in y7 5 ∧ vp_in y7 5 ∧ ((¬ (I 285 y7.toNatClampNeg) = 1 → zSI C h0 K Y_X11_isSeen (d + 7) 115 [(0, .ref 265), (1, .int y1), (2, .int y2), (3, .int y3), (4, .int y4), (5, .int y5), (6, .int y6), (7, .int y7)] [.int 0, .int (zb (zhas ((I 270 y1.toNatClampNeg)) ((I 284 y7.toNatClampNeg))))] I L M) ∧ ((I 285 y7.toNatClampNeg) = 1 → zSI C h0 K Y_X11_isSeen (d + 7) 115 [(0, .ref 265), (1, .int y1), (2, .int y2), (3, .int y3), (4, .int y4), (5, .int y5), (6, .int y6), (7, .int y7)] [.int 1, .int (zb (zhas ((I 270 y1.toNatClampNeg)) ((I 284 y7.toNatClampNeg))))] I L M))))))))) : zSI C h0 K Y_X11_isSeen (d + 7) 51 [(0, .ref 265), (1, .int y1), (2, .int y2), (3, .int y3), (4, .int y4), (5, .int y5), (6, .int y6), (7, .int y7)] [] I L M := by
  refine S_iload 7 dX11_isSeen_51 rfl ?_
  refine S_aload_n 0 dX11_isSeen_53 rfl rfl ?_
  refine S_getI f_RX11_284 s_265 dX11_isSeen_54 ?_
  refine S_icmp_ge (tgt := 127) dX11_isSeen_57 (by decide) (fun q1 => ?_) (fun q1 => ?_)
  · refine S_iinc 6 dX11_isSeen_127 rfl rfl (by decide) rfl ?_
    refine S_goto (tgt := 26) dX11_isSeen_130 (by decide) ?_
    exact S_sub [1, 2, 3, 4, 5, 6, 0] rfl (T.1 q1)
  · refine S_aload_n 0 dX11_isSeen_60 rfl rfl ?_
    refine S_getP f_RX11_61 s_265 p_265_27 dX11_isSeen_61 ?_
    refine S_iload 7 dX11_isSeen_64 rfl ?_
    refine S_iald s_282 (T.2 q1).1 dX11_isSeen_66 ?_
    refine S_iload_n 1 dX11_isSeen_67 rfl rfl ?_
    refine S_icmp_ne (tgt := 121) dX11_isSeen_68 (by decide) (fun q2 => ?_) (fun q2 => ?_)
    · refine S_iinc 7 dX11_isSeen_121 rfl rfl (by decide) rfl ?_
      refine S_goto (tgt := 51) dX11_isSeen_124 (by decide) ?_
      exact S_sub [1, 2, 3, 4, 5, 6, 7, 0] rfl ((T.2 q1).2.1 q2)
    · refine S_aload_n 0 dX11_isSeen_71 rfl rfl ?_
      refine S_getP f_RX11_64 s_265 p_265_28 dX11_isSeen_72 ?_
      refine S_iload 7 dX11_isSeen_75 rfl ?_
      refine S_iald s_283 ((T.2 q1).2.2 q2).1 dX11_isSeen_77 ?_
      refine S_iload 6 dX11_isSeen_78 rfl ?_
      refine S_icmp_ne (tgt := 121) dX11_isSeen_80 (by decide) (fun q3 => ?_) (fun q3 => ?_)
      · refine S_iinc 7 dX11_isSeen_121 rfl rfl (by decide) rfl ?_
        refine S_goto (tgt := 51) dX11_isSeen_124 (by decide) ?_
        exact S_sub [1, 2, 3, 4, 5, 6, 7, 0] rfl (((T.2 q1).2.2 q2).2.1 q3)
      · refine S_aload_n 0 dX11_isSeen_83 rfl rfl ?_
        refine S_getP f_RX11_24 s_265 p_265_5 dX11_isSeen_84 ?_
        refine S_iload_n 1 dX11_isSeen_87 rfl rfl ?_
        refine S_iald s_270 (((T.2 q1).2.2 q2).2.2 q3).1 dX11_isSeen_88 ?_
        refine S_aload_n 0 dX11_isSeen_89 rfl rfl ?_
        refine S_getP f_RX11_67 s_265 p_265_29 dX11_isSeen_90 ?_
        refine S_iload 7 dX11_isSeen_93 rfl ?_
        refine S_iald s_284 (((T.2 q1).2.2 q2).2.2 q3).2.1 dX11_isSeen_95 ?_
        refine S_callS [.int (I 270 y1.toNatClampNeg), .int (I 284 y7.toNatClampNeg)] [] m_RX11_139 rfl rfl (Nat.le_of_ble_eq_true rfl) (zroom_0 (by decide)) dX11_isSeen_96 (zpure (sp_X11_has (I := I) (L := L) (M := M) (d + 5) ((I 270 y1.toNatClampNeg)) ((I 284 y7.toNatClampNeg))) ?_)
        refine S_aload_n 0 dX11_isSeen_99 rfl rfl ?_
        refine S_getP f_RX11_70 s_265 p_265_30 dX11_isSeen_100 ?_
        refine S_iload 7 dX11_isSeen_103 rfl ?_
        refine S_iald s_285 (((T.2 q1).2.2 q2).2.2 q3).2.2.1 dX11_isSeen_105 ?_
        refine S_iconst (v := 1) dX11_isSeen_106 (by decide) ?_
        refine S_icmp_ne (tgt := 114) dX11_isSeen_107 (by decide) (fun q4 => ?_) (fun q4 => ?_)
        · refine S_iconst (v := 0) dX11_isSeen_114 (by decide) ?_
          exact S_sub [0, 1, 2, 3, 4, 5, 6, 7] rfl ((((T.2 q1).2.2 q2).2.2 q3).2.2.2.1 q4)
        · refine S_iconst (v := 1) dX11_isSeen_110 (by decide) ?_
          refine S_goto (tgt := 115) dX11_isSeen_111 (by decide) ?_
          exact S_sub [0, 1, 2, 3, 4, 5, 6, 7] rfl ((((T.2 q1).2.2 q2).2.2 q3).2.2.2.2 q4)

set_option maxRecDepth 100000 in
theorem t_X11_isSeen_115 {C : zC} {I : Nat → Nat → Int32} {L : Nat → Nat → Int64} {M : Nat → Nat → Option Nat} {h0 : zH} (d : Nat)   (y1 : Int32) (y2 : Int32) (y3 : Int32) (y4 : Int32) (y5 : Int32) (y6 : Int32) (y7 : Int32) (z0 : Int32) (z1 : Int32) (K : Int32 → (Nat → Nat → Int32) → (Nat → Nat → Int64) → (Nat → Nat → Option Nat) → Prop) (T : ((z1 = z0 → zSI C h0 K Y_X11_isSeen (d + 7) 51 [(0, .ref 265), (1, .int y1), (2, .int y2), (3, .int y3), (4, .int y4), (5, .int y5), (6, .int y6), (7, .int (y7 + 1))] [] I L M) ∧ (¬ (z1 = z0) → zSI C h0 K Y_X11_isSeen (d + 7) 51 [(0, .ref 265), (1, .int y1), (2, .int y2), (3, .int y3), (4, .int y4), (5, .int 0), (6, .int y6), (7, .int (y7 + 1))] [] I L M))) : zSI C h0 K Y_X11_isSeen (d + 7) 115 [(0, .ref 265), (1, .int y1), (2, .int y2), (3, .int y3), (4, .int y4), (5, .int y5), (6, .int y6), (7, .int y7)] [.int z0, .int z1] I L M := by
  refine S_icmp_eq (tgt := 121) dX11_isSeen_115 (by decide) (fun q1 => ?_) (fun q1 => ?_)
  · refine S_iinc 7 dX11_isSeen_121 rfl rfl (by decide) rfl ?_
    refine S_goto (tgt := 51) dX11_isSeen_124 (by decide) ?_
    exact S_sub [1, 2, 3, 4, 5, 6, 7, 0] rfl (T.1 q1)
  · refine S_iconst (v := 0) dX11_isSeen_118 (by decide) ?_
    refine S_istore dX11_isSeen_119 (by decide) rfl ?_
    refine S_iinc 7 dX11_isSeen_121 rfl rfl (by decide) rfl ?_
    refine S_goto (tgt := 51) dX11_isSeen_124 (by decide) ?_
    exact S_sub [2, 3, 4, 5, 6, 1, 7, 0] rfl (T.2 q1)

set_option maxRecDepth 100000 in
theorem t_X11_isTest {C : zC} {I : Nat → Nat → Int32} {L : Nat → Nat → Int64} {M : Nat → Nat → Option Nat} (d : Nat)   (K : Int32 → (Nat → Nat → Int32) → (Nat → Nat → Int64) → (Nat → Nat → Option Nat) → Prop) (T : (((I 265 10) ≤ (I 265 12) → zSI C (zmk I L M) K Y_X11_isTest (d + 8) 40 [(0, .ref 265)] [] I L M) ∧ (¬ ((I 265 10) ≤ (I 265 12)) → vp_in ((I 265 12)) 100 ∧ (((I 274 (((I 265 12)).toNatClampNeg)) ≤ 0 → zSI C (zmk I L M) K Y_X11_isTest (d + 8) 40 [(0, .ref 265)] [] I L M) ∧ (¬ ((I 274 (((I 265 12)).toNatClampNeg)) ≤ 0) → vp_in ((I 265 12)) 100 ∧ zCI C Y_J0_indexOf_0f7a4 (d + 7) [.ref (1000010 + 8), .int (I 274 (((I 265 12)).toNatClampNeg))] (zmk I L M) (fun r1_3 I1_3 L1_3 M1_3 => zSI C (zmk I L M) K Y_X11_isTest (d + 8) 41 [(0, .ref 265)] [.int r1_3] I1_3 L1_3 M1_3)))))) : zCI C Y_X11_isTest (d + 8) [.ref 265] (zmk I L M) K := by
  refine S_enter (by decide) (Nat.le_of_ble_eq_true rfl) ?_
  refine S_lv (lv' := [(0, .ref 265)]) rfl ?_
  refine S_aload_n 0 dX11_isTest_0 rfl rfl ?_
  refine S_getI f_RX11_146 s_265 dX11_isTest_1 ?_
  refine S_aload_n 0 dX11_isTest_4 rfl rfl ?_
  refine S_getI f_RX11_143 s_265 dX11_isTest_5 ?_
  refine S_icmp_ge (tgt := 40) dX11_isTest_8 (by decide) (fun q1 => ?_) (fun q1 => ?_)
  · exact S_sub [0] rfl (T.1 q1)
  · refine S_aload_n 0 dX11_isTest_11 rfl rfl ?_
    refine S_getP f_RX11_36 s_265 p_265_11 dX11_isTest_12 ?_
    refine S_aload_n 0 dX11_isTest_15 rfl rfl ?_
    refine S_getI f_RX11_146 s_265 dX11_isTest_16 ?_
    refine S_iald s_274 (T.2 q1).1 dX11_isTest_19 ?_
    refine S_if_le (tgt := 40) dX11_isTest_20 (by decide) (fun q2 => ?_) (fun q2 => ?_)
    · exact S_sub [0] rfl ((T.2 q1).2.1 q2)
    · refine S_ldcS 8 (by decide) rfl rfl dX11_isTest_23 ?_
      refine S_aload_n 0 dX11_isTest_25 rfl rfl ?_
      refine S_getP f_RX11_36 s_265 p_265_11 dX11_isTest_26 ?_
      refine S_aload_n 0 dX11_isTest_29 rfl rfl ?_
      refine S_getI f_RX11_146 s_265 dX11_isTest_30 ?_
      refine S_iald s_274 ((T.2 q1).2.2 q2).1 dX11_isTest_33 ?_
      refine S_callT 8 (by decide) [.int (I 274 (((I 265 12)).toNatClampNeg))] [] m_RX11_176 rfl rfl rfl (Nat.le_of_ble_eq_true rfl) (zroom_0 (by decide)) dX11_isTest_34 (zCI_use ((T.2 q1).2.2 q2).2 ?_)
      intro r1_3 I1_3 L1_3 M1_3 T1_3
      refine S_goto (tgt := 41) dX11_isTest_37 (by decide) ?_
      exact S_sub [0] rfl T1_3

set_option maxRecDepth 100000 in
theorem t_X11_isTest_40 {C : zC} {I : Nat → Nat → Int32} {L : Nat → Nat → Int64} {M : Nat → Nat → Option Nat} {h0 : zH} (d : Nat)    (K : Int32 → (Nat → Nat → Int32) → (Nat → Nat → Int64) → (Nat → Nat → Option Nat) → Prop) (T : zSI C h0 K Y_X11_isTest (d + 8) 41 [(0, .ref 265)] [.int (-1)] I L M) : zSI C h0 K Y_X11_isTest (d + 8) 40 [(0, .ref 265)] [] I L M := by
  refine S_iconst (v := -1) dX11_isTest_40 (by decide) ?_
  exact S_sub [0] rfl T

set_option maxRecDepth 100000 in
theorem t_X11_isTest_41 {C : zC} {I : Nat → Nat → Int32} {L : Nat → Nat → Int64} {M : Nat → Nat → Option Nat} {h0 : zH} (d : Nat)   (z0 : Int32) (K : Int32 → (Nat → Nat → Int32) → (Nat → Nat → Int64) → (Nat → Nat → Option Nat) → Prop) (T : ((0 ≤ z0 → (((I 265 10) ≤ ((I 265 12) + (1 : Int32)) → zSI C h0 K Y_X11_isTest (d + 8) 98 [(0, .ref 265), (1, .int z0)] [] (u2 I 265 12 (((I 265 12) + (1 : Int32)))) L M) ∧ (¬ ((I 265 10) ≤ ((I 265 12) + (1 : Int32))) → vp_in (((I 265 12) + (1 : Int32))) 100 ∧ (((I 274 ((((I 265 12) + (1 : Int32))).toNatClampNeg)) ≤ 0 → zSI C h0 K Y_X11_isTest (d + 8) 98 [(0, .ref 265), (1, .int z0)] [] (u2 I 265 12 (((I 265 12) + (1 : Int32)))) L M) ∧ (¬ ((I 274 ((((I 265 12) + (1 : Int32))).toNatClampNeg)) ≤ 0) → vp_in (((I 265 12) + (1 : Int32))) 100 ∧ zCI C Y_J0_indexOf_0f7a4 (d + 7) [.ref (1000010 + 9), .int (I 274 ((((I 265 12) + (1 : Int32))).toNatClampNeg))] (zmk (u2 I 265 12 (((I 265 12) + (1 : Int32)))) L M) (fun r1_4 I1_4 L1_4 M1_4 => zSI C h0 K Y_X11_isTest (d + 8) 99 [(0, .ref 265), (1, .int z0)] [.int r1_4] I1_4 L1_4 M1_4)))))) ∧ (¬ (0 ≤ z0) → K 0 I L M))) : zSI C h0 K Y_X11_isTest (d + 8) 41 [(0, .ref 265)] [.int z0] I L M := by
  refine S_istore_n dX11_isTest_41 rfl (by decide) rfl ?_
  refine S_iload_n 0 dX11_isTest_42 rfl rfl ?_
  refine S_if_ge (tgt := 48) dX11_isTest_43 (by decide) (fun q1 => ?_) (fun q1 => ?_)
  · refine S_aload_n 1 dX11_isTest_48 rfl rfl ?_
    refine S_dup dX11_isTest_49 rfl ?_
    refine S_getI f_RX11_146 s_265 dX11_isTest_50 ?_
    refine S_iconst (v := 1) dX11_isTest_53 (by decide) ?_
    refine S_iadd dX11_isTest_54 ?_
    refine S_putI f_RX11_146 s_265 (Or.inl rfl) rfl dX11_isTest_55 ?_
    refine S_aload_n 1 dX11_isTest_58 rfl rfl ?_
    refine S_getI f_RX11_146 s_265 dX11_isTest_59 ?_
    refine S_aload_n 1 dX11_isTest_62 rfl rfl ?_
    refine S_getI f_RX11_143 s_265 dX11_isTest_63 ?_
    refine S_icmp_ge (tgt := 98) dX11_isTest_66 (by decide) (fun q2 => ?_) (fun q2 => ?_)
    · exact S_sub [1, 0] rfl ((T.1 q1).1 q2)
    · refine S_aload_n 1 dX11_isTest_69 rfl rfl ?_
      refine S_getP f_RX11_36 s_265 p_265_11 dX11_isTest_70 ?_
      refine S_aload_n 1 dX11_isTest_73 rfl rfl ?_
      refine S_getI f_RX11_146 s_265 dX11_isTest_74 ?_
      refine S_iald s_274 ((T.1 q1).2 q2).1 dX11_isTest_77 ?_
      refine S_if_le (tgt := 98) dX11_isTest_78 (by decide) (fun q3 => ?_) (fun q3 => ?_)
      · exact S_sub [1, 0] rfl (((T.1 q1).2 q2).2.1 q3)
      · refine S_ldcS 9 (by decide) rfl rfl dX11_isTest_81 ?_
        refine S_aload_n 1 dX11_isTest_83 rfl rfl ?_
        refine S_getP f_RX11_36 s_265 p_265_11 dX11_isTest_84 ?_
        refine S_aload_n 1 dX11_isTest_87 rfl rfl ?_
        refine S_getI f_RX11_146 s_265 dX11_isTest_88 ?_
        refine S_iald s_274 (((T.1 q1).2 q2).2.2 q3).1 dX11_isTest_91 ?_
        refine S_callT 9 (by decide) [.int (I 274 ((((I 265 12) + (1 : Int32))).toNatClampNeg))] [] m_RX11_176 rfl rfl rfl (Nat.le_of_ble_eq_true rfl) (zroom_0 (by decide)) dX11_isTest_92 (zCI_use (((T.1 q1).2 q2).2.2 q3).2 ?_)
        intro r1_4 I1_4 L1_4 M1_4 T1_4
        refine S_goto (tgt := 99) dX11_isTest_95 (by decide) ?_
        exact S_sub [1, 0] rfl T1_4
  · refine S_iconst (v := 0) dX11_isTest_46 (by decide) ?_
    exact S_iretz rfl (by decide) dX11_isTest_47 ⟨_, I, L, M, rfl, rfl, (T.2 q1)⟩

set_option maxRecDepth 100000 in
theorem t_X11_isTest_98 {C : zC} {I : Nat → Nat → Int32} {L : Nat → Nat → Int64} {M : Nat → Nat → Option Nat} {h0 : zH} (d : Nat)   (y1 : Int32) (K : Int32 → (Nat → Nat → Int32) → (Nat → Nat → Int64) → (Nat → Nat → Option Nat) → Prop) (T : zSI C h0 K Y_X11_isTest (d + 8) 99 [(0, .ref 265), (1, .int y1)] [.int (-1)] I L M) : zSI C h0 K Y_X11_isTest (d + 8) 98 [(0, .ref 265), (1, .int y1)] [] I L M := by
  refine S_iconst (v := -1) dX11_isTest_98 (by decide) ?_
  exact S_sub [0, 1] rfl T

set_option maxRecDepth 100000 in
theorem t_X11_isTest_99 {C : zC} {I : Nat → Nat → Int32} {L : Nat → Nat → Int64} {M : Nat → Nat → Option Nat} {h0 : zH} (d : Nat)   (y1 : Int32) (z0 : Int32) (K : Int32 → (Nat → Nat → Int32) → (Nat → Nat → Int64) → (Nat → Nat → Option Nat) → Prop) (T : ((0 ≤ z0 → zCI C Y_X11_isNumber (d + 7) [.ref 265] (zmk (u2 I 265 12 (((I 265 12) + (1 : Int32)))) L M) (fun r1_2 I1_2 L1_2 M1_2 => ((r1_2 = 0 → K 0 I1_2 L1_2 M1_2) ∧ (¬ (r1_2 = 0) → zCI C Y_X11_codes (d + 7) [.ref 265, .int ((((3 : Int32) + ((300 : Int32) * y1)) + ((100 : Int32) * z0)) + (I1_2 265 13))] (zmk I1_2 L1_2 M1_2) (fun r2_3 I2_3 L2_3 M2_3 => ((r2_3 = 0 → K 0 I2_3 L2_3 M2_3) ∧ (¬ (r2_3 = 0) → K 1 I2_3 L2_3 M2_3))))))) ∧ (¬ (0 ≤ z0) → K 0 I L M))) : zSI C h0 K Y_X11_isTest (d + 8) 99 [(0, .ref 265), (1, .int y1)] [.int z0] I L M := by
  refine S_istore_n dX11_isTest_99 rfl (by decide) rfl ?_
  refine S_iload_n 0 dX11_isTest_100 rfl rfl ?_
  refine S_if_ge (tgt := 106) dX11_isTest_101 (by decide) (fun q1 => ?_) (fun q1 => ?_)
  · refine S_aload_n 1 dX11_isTest_106 rfl rfl ?_
    refine S_dup dX11_isTest_107 rfl ?_
    refine S_getI f_RX11_146 s_265 dX11_isTest_108 ?_
    refine S_iconst (v := 1) dX11_isTest_111 (by decide) ?_
    refine S_iadd dX11_isTest_112 ?_
    refine S_putI f_RX11_146 s_265 (Or.inl rfl) rfl dX11_isTest_113 ?_
    refine S_aload_n 1 dX11_isTest_116 rfl rfl ?_
    refine S_callV [] [] m_RX11_181 rfl rfl s_265 ⟨rfl, by decide⟩ (Nat.le_of_ble_eq_true rfl) (zroom_0 (by decide)) dX11_isTest_117 (zCI_use (T.1 q1) ?_)
    intro r1_2 I1_2 L1_2 M1_2 T1_2
    refine S_if_eq (tgt := 151) dX11_isTest_120 (by decide) (fun q2 => ?_) (fun q2 => ?_)
    · refine S_iconst (v := 0) dX11_isTest_151 (by decide) ?_
      exact S_iretz rfl (by decide) dX11_isTest_152 ⟨_, I1_2, L1_2, M1_2, rfl, rfl, (T1_2.1 q2)⟩
    · refine S_aload_n 1 dX11_isTest_123 rfl rfl ?_
      refine S_iconst (v := 3) dX11_isTest_124 (by decide) ?_
      refine S_sipush (v := 300) dX11_isTest_125 (by decide) ?_
      refine S_iload_n 2 dX11_isTest_128 rfl rfl ?_
      refine S_imul dX11_isTest_129 ?_
      refine S_iadd dX11_isTest_130 ?_
      refine S_bipush (v := 100) dX11_isTest_131 (by decide) ?_
      refine S_iload_n 0 dX11_isTest_133 rfl rfl ?_
      refine S_imul dX11_isTest_134 ?_
      refine S_iadd dX11_isTest_135 ?_
      refine S_aload_n 1 dX11_isTest_136 rfl rfl ?_
      refine S_getI f_RX11_149 s_265 dX11_isTest_137 ?_
      refine S_iadd dX11_isTest_140 ?_
      refine S_callV [.int ((((3 : Int32) + ((300 : Int32) * y1)) + ((100 : Int32) * z0)) + (I1_2 265 13))] [] m_RX11_184 rfl rfl s_265 ⟨rfl, by decide⟩ (Nat.le_of_ble_eq_true rfl) (zroom_0 (by decide)) dX11_isTest_141 (zCI_use (T1_2.2 q2) ?_)
      intro r2_3 I2_3 L2_3 M2_3 T2_3
      refine S_if_eq (tgt := 151) dX11_isTest_144 (by decide) (fun q3 => ?_) (fun q3 => ?_)
      · refine S_iconst (v := 0) dX11_isTest_151 (by decide) ?_
        exact S_iretz rfl (by decide) dX11_isTest_152 ⟨_, I2_3, L2_3, M2_3, rfl, rfl, (T2_3.1 q3)⟩
      · refine S_iconst (v := 1) dX11_isTest_147 (by decide) ?_
        refine S_goto (tgt := 152) dX11_isTest_148 (by decide) ?_
        exact S_iretz rfl (by decide) dX11_isTest_152 ⟨_, I2_3, L2_3, M2_3, rfl, rfl, (T2_3.2 q3)⟩
  · refine S_iconst (v := 0) dX11_isTest_104 (by decide) ?_
    exact S_iretz rfl (by decide) dX11_isTest_105 ⟨_, I, L, M, rfl, rfl, (T.2 q1)⟩

set_option maxRecDepth 100000 in
theorem t_X11_isTrue {C : zC} {I : Nat → Nat → Int32} {L : Nat → Nat → Int64} {M : Nat → Nat → Option Nat} (d : Nat) (x1 : Int32) (x2 : Int32) (x3 : Int32)  (K : Int32 → (Nat → Nat → Int32) → (Nat → Nat → Int64) → (Nat → Nat → Option Nat) → Prop) (T : vp_in x3 61 ∧ zSI C (zmk I L M) K Y_X11_isTrue (d + 2) 11 [(0, .ref 265), (1, .int x1), (2, .int x2), (3, .int x3), (4, .int 0), (5, .int (I 278 x3.toNatClampNeg))] [] I L M) : zCI C Y_X11_isTrue (d + 2) [.ref 265, .int x1, .int x2, .int x3] (zmk I L M) K := by
  refine S_enter (by decide) (Nat.le_of_ble_eq_true rfl) ?_
  refine S_lv (lv' := [(0, .ref 265), (1, .int x1), (2, .int x2), (3, .int x3)]) rfl ?_
  refine S_iconst (v := 0) dX11_isTrue_0 (by decide) ?_
  refine S_istore dX11_isTrue_1 (by decide) rfl ?_
  refine S_aload_n 1 dX11_isTrue_3 rfl rfl ?_
  refine S_getP f_RX11_48 s_265 p_265_21 dX11_isTrue_4 ?_
  refine S_iload_n 4 dX11_isTrue_7 rfl rfl ?_
  refine S_iald s_278 T.1 dX11_isTrue_8 ?_
  refine S_istore dX11_isTrue_9 (by decide) rfl ?_
  exact S_sub [2, 3, 4, 5, 1, 0] rfl T.2

set_option maxRecDepth 100000 in
theorem t_X11_isTrue_11 {C : zC} {I : Nat → Nat → Int32} {L : Nat → Nat → Int64} {M : Nat → Nat → Option Nat} {h0 : zH} (d : Nat)   (y1 : Int32) (y2 : Int32) (y3 : Int32) (y4 : Int32) (y5 : Int32) (K : Int32 → (Nat → Nat → Int32) → (Nat → Nat → Int64) → (Nat → Nat → Option Nat) → Prop) (T : vp_in y3 61 ∧ vp_in y3 61 ∧ ((((I 278 y3.toNatClampNeg) + (I 279 y3.toNatClampNeg)) ≤ y5 → (((I 281 0) = 0 ∨ (I 281 0) = 1) ∧ K ((I 281 0)) I L M)) ∧ (¬ (((I 278 y3.toNatClampNeg) + (I 279 y3.toNatClampNeg)) ≤ y5) → vp_in y5 800 ∧ (((I 280 y5.toNatClampNeg) < 3 → ((¬ (I 280 y5.toNatClampNeg) = 0 → ((¬ (I 280 y5.toNatClampNeg) = 1 → vp_in (((y4 + (-1)) - (1 : Int32))) 110 ∧ ((¬ (I 281 ((((y4 + (-1)) - (1 : Int32))).toNatClampNeg)) = 0 → vp_in (((y4 + (-1)) - (1 : Int32))) 110 ∧ zSI C h0 K Y_X11_isTrue (d + 2) 11 [(0, .ref 265), (1, .int y1), (2, .int y2), (3, .int y3), (4, .int (y4 + (-1))), (5, .int (y5 + 1))] [] (u2 I 281 ((((y4 + (-1)) - (1 : Int32))).toNatClampNeg) 1) L M) ∧ ((I 281 ((((y4 + (-1)) - (1 : Int32))).toNatClampNeg)) = 0 → vp_in ((y4 + (-1))) 110 ∧ (((I 281 (((y4 + (-1))).toNatClampNeg)) = 0 → vp_in (((y4 + (-1)) - (1 : Int32))) 110 ∧ zSI C h0 K Y_X11_isTrue (d + 2) 11 [(0, .ref 265), (1, .int y1), (2, .int y2), (3, .int y3), (4, .int (y4 + (-1))), (5, .int (y5 + 1))] [] (u2 I 281 ((((y4 + (-1)) - (1 : Int32))).toNatClampNeg) 0) L M) ∧ (¬ ((I 281 (((y4 + (-1))).toNatClampNeg)) = 0) → vp_in (((y4 + (-1)) - (1 : Int32))) 110 ∧ zSI C h0 K Y_X11_isTrue (d + 2) 11 [(0, .ref 265), (1, .int y1), (2, .int y2), (3, .int y3), (4, .int (y4 + (-1))), (5, .int (y5 + 1))] [] (u2 I 281 ((((y4 + (-1)) - (1 : Int32))).toNatClampNeg) 1) L M))))) ∧ ((I 280 y5.toNatClampNeg) = 1 → vp_in (((y4 + (-1)) - (1 : Int32))) 110 ∧ (((I 281 ((((y4 + (-1)) - (1 : Int32))).toNatClampNeg)) = 0 → vp_in (((y4 + (-1)) - (1 : Int32))) 110 ∧ zSI C h0 K Y_X11_isTrue (d + 2) 11 [(0, .ref 265), (1, .int y1), (2, .int y2), (3, .int y3), (4, .int (y4 + (-1))), (5, .int (y5 + 1))] [] (u2 I 281 ((((y4 + (-1)) - (1 : Int32))).toNatClampNeg) 0) L M) ∧ (¬ ((I 281 ((((y4 + (-1)) - (1 : Int32))).toNatClampNeg)) = 0) → vp_in ((y4 + (-1))) 110 ∧ (((I 281 (((y4 + (-1))).toNatClampNeg)) = 0 → vp_in (((y4 + (-1)) - (1 : Int32))) 110 ∧ zSI C h0 K Y_X11_isTrue (d + 2) 11 [(0, .ref 265), (1, .int y1), (2, .int y2), (3, .int y3), (4, .int (y4 + (-1))), (5, .int (y5 + 1))] [] (u2 I 281 ((((y4 + (-1)) - (1 : Int32))).toNatClampNeg) 0) L M) ∧ (¬ ((I 281 (((y4 + (-1))).toNatClampNeg)) = 0) → vp_in (((y4 + (-1)) - (1 : Int32))) 110 ∧ zSI C h0 K Y_X11_isTrue (d + 2) 11 [(0, .ref 265), (1, .int y1), (2, .int y2), (3, .int y3), (4, .int (y4 + (-1))), (5, .int (y5 + 1))] [] (u2 I 281 ((((y4 + (-1)) - (1 : Int32))).toNatClampNeg) 1) L M))))))) ∧ ((I 280 y5.toNatClampNeg) = 0 → vp_in ((y4 - (1 : Int32))) 110 ∧ ((¬ (I 281 (((y4 - (1 : Int32))).toNatClampNeg)) = 0 → vp_in ((y4 - (1 : Int32))) 110 ∧ zSI C h0 K Y_X11_isTrue (d + 2) 11 [(0, .ref 265), (1, .int y1), (2, .int y2), (3, .int y3), (4, .int y4), (5, .int (y5 + 1))] [] (u2 I 281 (((y4 - (1 : Int32))).toNatClampNeg) 0) L M) ∧ ((I 281 (((y4 - (1 : Int32))).toNatClampNeg)) = 0 → vp_in ((y4 - (1 : Int32))) 110 ∧ zSI C h0 K Y_X11_isTrue (d + 2) 11 [(0, .ref 265), (1, .int y1), (2, .int y2), (3, .int y3), (4, .int y4), (5, .int (y5 + 1))] [] (u2 I 281 (((y4 - (1 : Int32))).toNatClampNeg) 1) L M))))) ∧ (¬ ((I 280 y5.toNatClampNeg) < 3) → zCI C Y_X11_letterOf (d + 1) [.ref 265, .int y1, .int y2, .int (((I 280 y5.toNatClampNeg) - (3 : Int32)) / 300)] (zmk I L M) (fun r1_3 I1_3 L1_3 M1_3 => ((¬ ((((I 280 y5.toNatClampNeg) - (3 : Int32)) / 100) - (((I 280 y5.toNatClampNeg) - (3 : Int32)) / 100) / 3 * 3) = 0 → ((¬ ((((I 280 y5.toNatClampNeg) - (3 : Int32)) / 100) - (((I 280 y5.toNatClampNeg) - (3 : Int32)) / 100) / 3 * 3) = 1 → ((r1_3 ≤ (((I 280 y5.toNatClampNeg) - (3 : Int32)) - ((I 280 y5.toNatClampNeg) - (3 : Int32)) / 100 * 100) → vp_in y4 110 ∧ zSI C h0 K Y_X11_isTrue (d + 2) 11 [(0, .ref 265), (1, .int y1), (2, .int y2), (3, .int y3), (4, .int (y4 + 1)), (5, .int (y5 + 1))] [] (u2 I1_3 281 y4.toNatClampNeg 0) L1_3 M1_3) ∧ (¬ (r1_3 ≤ (((I 280 y5.toNatClampNeg) - (3 : Int32)) - ((I 280 y5.toNatClampNeg) - (3 : Int32)) / 100 * 100)) → vp_in y4 110 ∧ zSI C h0 K Y_X11_isTrue (d + 2) 11 [(0, .ref 265), (1, .int y1), (2, .int y2), (3, .int y3), (4, .int (y4 + 1)), (5, .int (y5 + 1))] [] (u2 I1_3 281 y4.toNatClampNeg 1) L1_3 M1_3))) ∧ (((((I 280 y5.toNatClampNeg) - (3 : Int32)) / 100) - (((I 280 y5.toNatClampNeg) - (3 : Int32)) / 100) / 3 * 3) = 1 → ((¬ r1_3 = (((I 280 y5.toNatClampNeg) - (3 : Int32)) - ((I 280 y5.toNatClampNeg) - (3 : Int32)) / 100 * 100) → vp_in y4 110 ∧ zSI C h0 K Y_X11_isTrue (d + 2) 11 [(0, .ref 265), (1, .int y1), (2, .int y2), (3, .int y3), (4, .int (y4 + 1)), (5, .int (y5 + 1))] [] (u2 I1_3 281 y4.toNatClampNeg 0) L1_3 M1_3) ∧ (r1_3 = (((I 280 y5.toNatClampNeg) - (3 : Int32)) - ((I 280 y5.toNatClampNeg) - (3 : Int32)) / 100 * 100) → vp_in y4 110 ∧ zSI C h0 K Y_X11_isTrue (d + 2) 11 [(0, .ref 265), (1, .int y1), (2, .int y2), (3, .int y3), (4, .int (y4 + 1)), (5, .int (y5 + 1))] [] (u2 I1_3 281 y4.toNatClampNeg 1) L1_3 M1_3))))) ∧ (((((I 280 y5.toNatClampNeg) - (3 : Int32)) / 100) - (((I 280 y5.toNatClampNeg) - (3 : Int32)) / 100) / 3 * 3) = 0 → (((((I 280 y5.toNatClampNeg) - (3 : Int32)) - ((I 280 y5.toNatClampNeg) - (3 : Int32)) / 100 * 100) ≤ r1_3 → vp_in y4 110 ∧ zSI C h0 K Y_X11_isTrue (d + 2) 11 [(0, .ref 265), (1, .int y1), (2, .int y2), (3, .int y3), (4, .int (y4 + 1)), (5, .int (y5 + 1))] [] (u2 I1_3 281 y4.toNatClampNeg 0) L1_3 M1_3) ∧ (¬ ((((I 280 y5.toNatClampNeg) - (3 : Int32)) - ((I 280 y5.toNatClampNeg) - (3 : Int32)) / 100 * 100) ≤ r1_3) → vp_in y4 110 ∧ zSI C h0 K Y_X11_isTrue (d + 2) 11 [(0, .ref 265), (1, .int y1), (2, .int y2), (3, .int y3), (4, .int (y4 + 1)), (5, .int (y5 + 1))] [] (u2 I1_3 281 y4.toNatClampNeg 1) L1_3 M1_3)))))))))) : zSI C h0 K Y_X11_isTrue (d + 2) 11 [(0, .ref 265), (1, .int y1), (2, .int y2), (3, .int y3), (4, .int y4), (5, .int y5)] [] I L M := by
  refine S_iload 5 dX11_isTrue_11 rfl ?_
  refine S_aload_n 0 dX11_isTrue_13 rfl rfl ?_
  refine S_getP f_RX11_48 s_265 p_265_21 dX11_isTrue_14 ?_
  refine S_iload_n 3 dX11_isTrue_17 rfl rfl ?_
  refine S_iald s_278 T.1 dX11_isTrue_18 ?_
  refine S_aload_n 0 dX11_isTrue_19 rfl rfl ?_
  refine S_getP f_RX11_51 s_265 p_265_22 dX11_isTrue_20 ?_
  refine S_iload_n 3 dX11_isTrue_23 rfl rfl ?_
  refine S_iald s_279 T.2.1 dX11_isTrue_24 ?_
  refine S_iadd dX11_isTrue_25 ?_
  refine S_icmp_ge (tgt := 261) dX11_isTrue_26 (by decide) (fun q1 => ?_) (fun q1 => ?_)
  · refine S_aload_n 0 dX11_isTrue_261 rfl rfl ?_
    refine S_getP f_RX11_57 s_265 p_265_25 dX11_isTrue_262 ?_
    refine S_iconst (v := 0) dX11_isTrue_265 (by decide) ?_
    refine S_zald s_281 (by unfold vp_in; decide) dX11_isTrue_266 ?_
    exact S_iretz rfl (T.2.2.1 q1).1 dX11_isTrue_267 ⟨_, I, L, M, rfl, rfl, (T.2.2.1 q1).2⟩
  · refine S_aload_n 0 dX11_isTrue_29 rfl rfl ?_
    refine S_getP f_RX11_54 s_265 p_265_23 dX11_isTrue_30 ?_
    refine S_iload 5 dX11_isTrue_33 rfl ?_
    refine S_iald s_280 (T.2.2.2 q1).1 dX11_isTrue_35 ?_
    refine S_istore dX11_isTrue_36 (by decide) rfl ?_
    refine S_iload 0 dX11_isTrue_38 rfl ?_
    refine S_iconst (v := 3) dX11_isTrue_40 (by decide) ?_
    refine S_icmp_lt (tgt := 146) dX11_isTrue_41 (by decide) (fun q2 => ?_) (fun q2 => ?_)
    · refine S_iload 0 dX11_isTrue_146 rfl ?_
      refine S_if_ne (tgt := 180) dX11_isTrue_148 (by decide) (fun q3 => ?_) (fun q3 => ?_)
      · refine S_iinc 5 dX11_isTrue_180 rfl rfl (by decide) rfl ?_
        refine S_aload_n 2 dX11_isTrue_183 rfl rfl ?_
        refine S_getP f_RX11_57 s_265 p_265_25 dX11_isTrue_184 ?_
        refine S_iload 0 dX11_isTrue_187 rfl ?_
        refine S_iconst (v := 1) dX11_isTrue_189 (by decide) ?_
        refine S_isub dX11_isTrue_190 ?_
        refine S_iload 1 dX11_isTrue_191 rfl ?_
        refine S_iconst (v := 1) dX11_isTrue_193 (by decide) ?_
        refine S_icmp_ne (tgt := 227) dX11_isTrue_194 (by decide) (fun q4 => ?_) (fun q4 => ?_)
        · refine S_aload_n 2 dX11_isTrue_227 rfl rfl ?_
          refine S_getP f_RX11_57 s_265 p_265_25 dX11_isTrue_228 ?_
          refine S_iload 0 dX11_isTrue_231 rfl ?_
          refine S_iconst (v := 1) dX11_isTrue_233 (by decide) ?_
          refine S_isub dX11_isTrue_234 ?_
          refine S_zald s_281 ((((T.2.2.2 q1).2.1 q2).1 q3).1 q4).1 dX11_isTrue_235 ?_
          refine S_if_ne (tgt := 249) dX11_isTrue_236 (by decide) (fun q5 => ?_) (fun q5 => ?_)
          · refine S_iconst (v := 1) dX11_isTrue_249 (by decide) ?_
            refine S_goto (tgt := 254) dX11_isTrue_250 (by decide) ?_
            refine S_zast s_281 (((((T.2.2.2 q1).2.1 q2).1 q3).1 q4).2.1 q5).1 (by decide) dX11_isTrue_254 ?_
            refine S_iinc 6 dX11_isTrue_255 rfl rfl (by decide) rfl ?_
            refine S_goto (tgt := 11) dX11_isTrue_258 (by decide) ?_
            exact S_sub [3, 4, 5, 6, 1, 0] rfl (((((T.2.2.2 q1).2.1 q2).1 q3).1 q4).2.1 q5).2
          · refine S_aload_n 2 dX11_isTrue_239 rfl rfl ?_
            refine S_getP f_RX11_57 s_265 p_265_25 dX11_isTrue_240 ?_
            refine S_iload 0 dX11_isTrue_243 rfl ?_
            refine S_zald s_281 (((((T.2.2.2 q1).2.1 q2).1 q3).1 q4).2.2 q5).1 dX11_isTrue_245 ?_
            refine S_if_eq (tgt := 253) dX11_isTrue_246 (by decide) (fun q6 => ?_) (fun q6 => ?_)
            · refine S_iconst (v := 0) dX11_isTrue_253 (by decide) ?_
              refine S_zast s_281 ((((((T.2.2.2 q1).2.1 q2).1 q3).1 q4).2.2 q5).2.1 q6).1 (by decide) dX11_isTrue_254 ?_
              refine S_iinc 6 dX11_isTrue_255 rfl rfl (by decide) rfl ?_
              refine S_goto (tgt := 11) dX11_isTrue_258 (by decide) ?_
              exact S_sub [3, 4, 5, 6, 1, 0] rfl ((((((T.2.2.2 q1).2.1 q2).1 q3).1 q4).2.2 q5).2.1 q6).2
            · refine S_iconst (v := 1) dX11_isTrue_249 (by decide) ?_
              refine S_goto (tgt := 254) dX11_isTrue_250 (by decide) ?_
              refine S_zast s_281 ((((((T.2.2.2 q1).2.1 q2).1 q3).1 q4).2.2 q5).2.2 q6).1 (by decide) dX11_isTrue_254 ?_
              refine S_iinc 6 dX11_isTrue_255 rfl rfl (by decide) rfl ?_
              refine S_goto (tgt := 11) dX11_isTrue_258 (by decide) ?_
              exact S_sub [3, 4, 5, 6, 1, 0] rfl ((((((T.2.2.2 q1).2.1 q2).1 q3).1 q4).2.2 q5).2.2 q6).2
        · refine S_aload_n 2 dX11_isTrue_197 rfl rfl ?_
          refine S_getP f_RX11_57 s_265 p_265_25 dX11_isTrue_198 ?_
          refine S_iload 0 dX11_isTrue_201 rfl ?_
          refine S_iconst (v := 1) dX11_isTrue_203 (by decide) ?_
          refine S_isub dX11_isTrue_204 ?_
          refine S_zald s_281 ((((T.2.2.2 q1).2.1 q2).1 q3).2 q4).1 dX11_isTrue_205 ?_
          refine S_if_eq (tgt := 223) dX11_isTrue_206 (by decide) (fun q5 => ?_) (fun q5 => ?_)
          · refine S_iconst (v := 0) dX11_isTrue_223 (by decide) ?_
            refine S_goto (tgt := 254) dX11_isTrue_224 (by decide) ?_
            refine S_zast s_281 (((((T.2.2.2 q1).2.1 q2).1 q3).2 q4).2.1 q5).1 (by decide) dX11_isTrue_254 ?_
            refine S_iinc 6 dX11_isTrue_255 rfl rfl (by decide) rfl ?_
            refine S_goto (tgt := 11) dX11_isTrue_258 (by decide) ?_
            exact S_sub [3, 4, 5, 6, 1, 0] rfl (((((T.2.2.2 q1).2.1 q2).1 q3).2 q4).2.1 q5).2
          · refine S_aload_n 2 dX11_isTrue_209 rfl rfl ?_
            refine S_getP f_RX11_57 s_265 p_265_25 dX11_isTrue_210 ?_
            refine S_iload 0 dX11_isTrue_213 rfl ?_
            refine S_zald s_281 (((((T.2.2.2 q1).2.1 q2).1 q3).2 q4).2.2 q5).1 dX11_isTrue_215 ?_
            refine S_if_eq (tgt := 223) dX11_isTrue_216 (by decide) (fun q6 => ?_) (fun q6 => ?_)
            · refine S_iconst (v := 0) dX11_isTrue_223 (by decide) ?_
              refine S_goto (tgt := 254) dX11_isTrue_224 (by decide) ?_
              refine S_zast s_281 ((((((T.2.2.2 q1).2.1 q2).1 q3).2 q4).2.2 q5).2.1 q6).1 (by decide) dX11_isTrue_254 ?_
              refine S_iinc 6 dX11_isTrue_255 rfl rfl (by decide) rfl ?_
              refine S_goto (tgt := 11) dX11_isTrue_258 (by decide) ?_
              exact S_sub [3, 4, 5, 6, 1, 0] rfl ((((((T.2.2.2 q1).2.1 q2).1 q3).2 q4).2.2 q5).2.1 q6).2
            · refine S_iconst (v := 1) dX11_isTrue_219 (by decide) ?_
              refine S_goto (tgt := 254) dX11_isTrue_220 (by decide) ?_
              refine S_zast s_281 ((((((T.2.2.2 q1).2.1 q2).1 q3).2 q4).2.2 q5).2.2 q6).1 (by decide) dX11_isTrue_254 ?_
              refine S_iinc 6 dX11_isTrue_255 rfl rfl (by decide) rfl ?_
              refine S_goto (tgt := 11) dX11_isTrue_258 (by decide) ?_
              exact S_sub [3, 4, 5, 6, 1, 0] rfl ((((((T.2.2.2 q1).2.1 q2).1 q3).2 q4).2.2 q5).2.2 q6).2
      · refine S_aload_n 1 dX11_isTrue_151 rfl rfl ?_
        refine S_getP f_RX11_57 s_265 p_265_25 dX11_isTrue_152 ?_
        refine S_iload 5 dX11_isTrue_155 rfl ?_
        refine S_iconst (v := 1) dX11_isTrue_157 (by decide) ?_
        refine S_isub dX11_isTrue_158 ?_
        refine S_aload_n 1 dX11_isTrue_159 rfl rfl ?_
        refine S_getP f_RX11_57 s_265 p_265_25 dX11_isTrue_160 ?_
        refine S_iload 5 dX11_isTrue_163 rfl ?_
        refine S_iconst (v := 1) dX11_isTrue_165 (by decide) ?_
        refine S_isub dX11_isTrue_166 ?_
        refine S_zald s_281 (((T.2.2.2 q1).2.1 q2).2 q3).1 dX11_isTrue_167 ?_
        refine S_if_ne (tgt := 175) dX11_isTrue_168 (by decide) (fun q4 => ?_) (fun q4 => ?_)
        · refine S_iconst (v := 0) dX11_isTrue_175 (by decide) ?_
          refine S_zast s_281 ((((T.2.2.2 q1).2.1 q2).2 q3).2.1 q4).1 (by decide) dX11_isTrue_176 ?_
          refine S_goto (tgt := 255) dX11_isTrue_177 (by decide) ?_
          refine S_iinc 6 dX11_isTrue_255 rfl rfl (by decide) rfl ?_
          refine S_goto (tgt := 11) dX11_isTrue_258 (by decide) ?_
          exact S_sub [2, 3, 4, 5, 6, 0] rfl ((((T.2.2.2 q1).2.1 q2).2 q3).2.1 q4).2
        · refine S_iconst (v := 1) dX11_isTrue_171 (by decide) ?_
          refine S_goto (tgt := 176) dX11_isTrue_172 (by decide) ?_
          refine S_zast s_281 ((((T.2.2.2 q1).2.1 q2).2 q3).2.2 q4).1 (by decide) dX11_isTrue_176 ?_
          refine S_goto (tgt := 255) dX11_isTrue_177 (by decide) ?_
          refine S_iinc 6 dX11_isTrue_255 rfl rfl (by decide) rfl ?_
          refine S_goto (tgt := 11) dX11_isTrue_258 (by decide) ?_
          exact S_sub [2, 3, 4, 5, 6, 0] rfl ((((T.2.2.2 q1).2.1 q2).2 q3).2.2 q4).2
    · refine S_aload_n 1 dX11_isTrue_44 rfl rfl ?_
      refine S_iload_n 2 dX11_isTrue_45 rfl rfl ?_
      refine S_iload_n 3 dX11_isTrue_46 rfl rfl ?_
      refine S_iload 0 dX11_isTrue_47 rfl ?_
      refine S_iconst (v := 3) dX11_isTrue_49 (by decide) ?_
      refine S_isub dX11_isTrue_50 ?_
      refine S_sipush (v := 300) dX11_isTrue_51 (by decide) ?_
      refine S_idiv dX11_isTrue_54 (by decide) ?_
      refine S_callV [.int y1, .int y2, .int (((I 280 y5.toNatClampNeg) - (3 : Int32)) / 300)] [] m_RX11_224 rfl rfl s_265 ⟨rfl, by decide⟩ (Nat.le_of_ble_eq_true rfl) (zroom_0 (by decide)) dX11_isTrue_55 (zCI_use ((T.2.2.2 q1).2.2 q2) ?_)
      intro r1_3 I1_3 L1_3 M1_3 T1_3
      refine S_istore dX11_isTrue_58 (by decide) rfl ?_
      refine S_iload 1 dX11_isTrue_60 rfl ?_
      refine S_iconst (v := 3) dX11_isTrue_62 (by decide) ?_
      refine S_isub dX11_isTrue_63 ?_
      refine S_bipush (v := 100) dX11_isTrue_64 (by decide) ?_
      refine S_irem dX11_isTrue_66 (by decide) ?_
      refine S_istore dX11_isTrue_67 (by decide) rfl ?_
      refine S_iload 2 dX11_isTrue_69 rfl ?_
      refine S_iconst (v := 3) dX11_isTrue_71 (by decide) ?_
      refine S_isub dX11_isTrue_72 ?_
      refine S_bipush (v := 100) dX11_isTrue_73 (by decide) ?_
      refine S_idiv dX11_isTrue_75 (by decide) ?_
      refine S_iconst (v := 3) dX11_isTrue_76 (by decide) ?_
      refine S_irem dX11_isTrue_77 (by decide) ?_
      refine S_istore dX11_isTrue_78 (by decide) rfl ?_
      refine S_aload_n 4 dX11_isTrue_80 rfl rfl ?_
      refine S_getP f_RX11_57 s_265 p_265_25 dX11_isTrue_81 ?_
      refine S_iload 8 dX11_isTrue_84 rfl ?_
      refine S_iinc 8 dX11_isTrue_86 rfl rfl (by decide) rfl ?_
      refine S_iload 1 dX11_isTrue_89 rfl ?_
      refine S_if_ne (tgt := 109) dX11_isTrue_91 (by decide) (fun q3 => ?_) (fun q3 => ?_)
      · refine S_iload 1 dX11_isTrue_109 rfl ?_
        refine S_iconst (v := 1) dX11_isTrue_111 (by decide) ?_
        refine S_icmp_ne (tgt := 130) dX11_isTrue_112 (by decide) (fun q4 => ?_) (fun q4 => ?_)
        · refine S_iload 3 dX11_isTrue_130 rfl ?_
          refine S_iload 2 dX11_isTrue_132 rfl ?_
          refine S_icmp_le (tgt := 141) dX11_isTrue_134 (by decide) (fun q5 => ?_) (fun q5 => ?_)
          · refine S_iconst (v := 0) dX11_isTrue_141 (by decide) ?_
            refine S_zast s_281 (((T1_3.1 q3).1 q4).1 q5).1 (by decide) dX11_isTrue_142 ?_
            refine S_goto (tgt := 255) dX11_isTrue_143 (by decide) ?_
            refine S_iinc 9 dX11_isTrue_255 rfl rfl (by decide) rfl ?_
            refine S_goto (tgt := 11) dX11_isTrue_258 (by decide) ?_
            exact S_sub [6, 7, 8, 9, 1, 0] rfl (((T1_3.1 q3).1 q4).1 q5).2
          · refine S_iconst (v := 1) dX11_isTrue_137 (by decide) ?_
            refine S_goto (tgt := 142) dX11_isTrue_138 (by decide) ?_
            refine S_zast s_281 (((T1_3.1 q3).1 q4).2 q5).1 (by decide) dX11_isTrue_142 ?_
            refine S_goto (tgt := 255) dX11_isTrue_143 (by decide) ?_
            refine S_iinc 9 dX11_isTrue_255 rfl rfl (by decide) rfl ?_
            refine S_goto (tgt := 11) dX11_isTrue_258 (by decide) ?_
            exact S_sub [6, 7, 8, 9, 1, 0] rfl (((T1_3.1 q3).1 q4).2 q5).2
        · refine S_iload 3 dX11_isTrue_115 rfl ?_
          refine S_iload 2 dX11_isTrue_117 rfl ?_
          refine S_icmp_ne (tgt := 126) dX11_isTrue_119 (by decide) (fun q5 => ?_) (fun q5 => ?_)
          · refine S_iconst (v := 0) dX11_isTrue_126 (by decide) ?_
            refine S_goto (tgt := 142) dX11_isTrue_127 (by decide) ?_
            refine S_zast s_281 (((T1_3.1 q3).2 q4).1 q5).1 (by decide) dX11_isTrue_142 ?_
            refine S_goto (tgt := 255) dX11_isTrue_143 (by decide) ?_
            refine S_iinc 9 dX11_isTrue_255 rfl rfl (by decide) rfl ?_
            refine S_goto (tgt := 11) dX11_isTrue_258 (by decide) ?_
            exact S_sub [6, 7, 8, 9, 1, 0] rfl (((T1_3.1 q3).2 q4).1 q5).2
          · refine S_iconst (v := 1) dX11_isTrue_122 (by decide) ?_
            refine S_goto (tgt := 142) dX11_isTrue_123 (by decide) ?_
            refine S_zast s_281 (((T1_3.1 q3).2 q4).2 q5).1 (by decide) dX11_isTrue_142 ?_
            refine S_goto (tgt := 255) dX11_isTrue_143 (by decide) ?_
            refine S_iinc 9 dX11_isTrue_255 rfl rfl (by decide) rfl ?_
            refine S_goto (tgt := 11) dX11_isTrue_258 (by decide) ?_
            exact S_sub [6, 7, 8, 9, 1, 0] rfl (((T1_3.1 q3).2 q4).2 q5).2
      · refine S_iload 3 dX11_isTrue_94 rfl ?_
        refine S_iload 2 dX11_isTrue_96 rfl ?_
        refine S_icmp_ge (tgt := 105) dX11_isTrue_98 (by decide) (fun q4 => ?_) (fun q4 => ?_)
        · refine S_iconst (v := 0) dX11_isTrue_105 (by decide) ?_
          refine S_goto (tgt := 142) dX11_isTrue_106 (by decide) ?_
          refine S_zast s_281 ((T1_3.2 q3).1 q4).1 (by decide) dX11_isTrue_142 ?_
          refine S_goto (tgt := 255) dX11_isTrue_143 (by decide) ?_
          refine S_iinc 9 dX11_isTrue_255 rfl rfl (by decide) rfl ?_
          refine S_goto (tgt := 11) dX11_isTrue_258 (by decide) ?_
          exact S_sub [6, 7, 8, 9, 1, 0] rfl ((T1_3.2 q3).1 q4).2
        · refine S_iconst (v := 1) dX11_isTrue_101 (by decide) ?_
          refine S_goto (tgt := 142) dX11_isTrue_102 (by decide) ?_
          refine S_zast s_281 ((T1_3.2 q3).2 q4).1 (by decide) dX11_isTrue_142 ?_
          refine S_goto (tgt := 255) dX11_isTrue_143 (by decide) ?_
          refine S_iinc 9 dX11_isTrue_255 rfl rfl (by decide) rfl ?_
          refine S_goto (tgt := 11) dX11_isTrue_258 (by decide) ?_
          exact S_sub [6, 7, 8, 9, 1, 0] rfl ((T1_3.2 q3).2 q4).2

set_option maxRecDepth 100000 in
theorem t_X11_letterOf {C : zC} {I : Nat → Nat → Int32} {L : Nat → Nat → Int64} {M : Nat → Nat → Option Nat} (d : Nat) (x1 : Int32) (x2 : Int32) (x3 : Int32)  (K : Int32 → (Nat → Nat → Int32) → (Nat → Nat → Int64) → (Nat → Nat → Option Nat) → Prop) (T : ((x3 = 0 → K x1 I L M) ∧ (x3 = 1 → vp_in x1 6 ∧ K ((I 268 x1.toNatClampNeg)) I L M) ∧ (x3 = 2 → vp_in x1 6 ∧ K ((I 269 x1.toNatClampNeg)) I L M) ∧ (x3 = 3 → K x2 I L M) ∧ (x3 = 4 → vp_in x2 12 ∧ K ((I 266 x2.toNatClampNeg)) I L M) ∧ (((x3 : Int32).toInt < 0 ∨ 4 < (x3 : Int32).toInt) → K (((I 265 9) - (I 265 9) / 10 * 10)) I L M))) : zCI C Y_X11_letterOf (d + 1) [.ref 265, .int x1, .int x2, .int x3] (zmk I L M) K := by
  refine S_enter (by decide) (Nat.le_of_ble_eq_true rfl) ?_
  refine S_lv (lv' := [(0, .ref 265), (1, .int x1), (2, .int x2), (3, .int x3)]) rfl ?_
  refine S_iload_n 3 dX11_letterOf_0 rfl rfl ?_
  rcases ztab0_5 x3 with q1 | q1 | q1 | q1 | q1 | q1
  · refine S_tabK (tgt := 36) dX11_letterOf_1 q1 (by decide) (by decide) (off := 35) rfl (by decide) ?_
    refine S_iload_n 1 dX11_letterOf_36 rfl rfl ?_
    exact S_ireti rfl dX11_letterOf_37 ⟨_, I, L, M, rfl, rfl, (T.1 q1)⟩
  · refine S_tabK (tgt := 38) dX11_letterOf_1 q1 (by decide) (by decide) (off := 37) rfl (by decide) ?_
    refine S_aload_n 0 dX11_letterOf_38 rfl rfl ?_
    refine S_getP f_RX11_18 s_265 p_265_3 dX11_letterOf_39 ?_
    refine S_iload_n 1 dX11_letterOf_42 rfl rfl ?_
    refine S_iald s_268 (T.2.1 q1).1 dX11_letterOf_43 ?_
    exact S_ireti rfl dX11_letterOf_44 ⟨_, I, L, M, rfl, rfl, (T.2.1 q1).2⟩
  · refine S_tabK (tgt := 45) dX11_letterOf_1 q1 (by decide) (by decide) (off := 44) rfl (by decide) ?_
    refine S_aload_n 0 dX11_letterOf_45 rfl rfl ?_
    refine S_getP f_RX11_21 s_265 p_265_4 dX11_letterOf_46 ?_
    refine S_iload_n 1 dX11_letterOf_49 rfl rfl ?_
    refine S_iald s_269 (T.2.2.1 q1).1 dX11_letterOf_50 ?_
    exact S_ireti rfl dX11_letterOf_51 ⟨_, I, L, M, rfl, rfl, (T.2.2.1 q1).2⟩
  · refine S_tabK (tgt := 52) dX11_letterOf_1 q1 (by decide) (by decide) (off := 51) rfl (by decide) ?_
    refine S_iload_n 2 dX11_letterOf_52 rfl rfl ?_
    exact S_ireti rfl dX11_letterOf_53 ⟨_, I, L, M, rfl, rfl, (T.2.2.2.1 q1)⟩
  · refine S_tabK (tgt := 54) dX11_letterOf_1 q1 (by decide) (by decide) (off := 53) rfl (by decide) ?_
    refine S_aload_n 0 dX11_letterOf_54 rfl rfl ?_
    refine S_getP f_RX11_9 s_265 p_265_0 dX11_letterOf_55 ?_
    refine S_iload_n 2 dX11_letterOf_58 rfl rfl ?_
    refine S_iald s_266 (T.2.2.2.2.1 q1).1 dX11_letterOf_59 ?_
    exact S_ireti rfl dX11_letterOf_60 ⟨_, I, L, M, rfl, rfl, (T.2.2.2.2.1 q1).2⟩
  · refine S_tabOut (tgt := 61) dX11_letterOf_1 q1 (by decide) ?_
    refine S_aload_n 0 dX11_letterOf_61 rfl rfl ?_
    refine S_getI f_RX11_221 s_265 dX11_letterOf_62 ?_
    refine S_bipush (v := 10) dX11_letterOf_65 (by decide) ?_
    refine S_irem dX11_letterOf_67 (by decide) ?_
    exact S_ireti rfl dX11_letterOf_68 ⟨_, I, L, M, rfl, rfl, (T.2.2.2.2.2 q1)⟩

set_option maxRecDepth 100000 in
theorem t_X11_mean {C : zC} {I : Nat → Nat → Int32} {L : Nat → Nat → Int64} {M : Nat → Nat → Option Nat} (d : Nat) (x1 : Int32) (x2 : Int32)  (K : Int64 → (Nat → Nat → Int32) → (Nat → Nat → Int64) → (Nat → Nat → Option Nat) → Prop) (T : ((¬ ((0 : Int32) ≤ x1 ∧ x1 ≤ 60) → K ((-9223372036854775808)) I L M) ∧ (((0 : Int32) ≤ x1 ∧ x1 ≤ 60) → ((¬ ((0 : Int32) ≤ x2 ∧ x2 ≤ 1) → K ((-9223372036854775808)) I L M) ∧ (((0 : Int32) ≤ x2 ∧ x2 ≤ 1) → ((¬ (I 265 2) = 0 → zCI C Y_X11_on (d + 7) [.ref 265, .int x1, .int 0] (zmk I L M) (fun r1_4 I1_4 L1_4 M1_4 => zCL C Y_X11_part (d + 7) [.long ((r1_4 : Int32).toInt64), .long (((I1_4 265 2) : Int32).toInt64), .int x2] (zmk I1_4 L1_4 M1_4) (fun r2_4 I2_4 L2_4 M2_4 => K r2_4 I2_4 L2_4 M2_4))) ∧ ((I 265 2) = 0 → K ((-9223372036854775808)) I L M))))))) : zCL C Y_X11_mean (d + 8) [.ref 265, .int x1, .int x2] (zmk I L M) K := by
  refine S_enter (by decide) (Nat.le_of_ble_eq_true rfl) ?_
  refine S_lv (lv' := [(0, .ref 265), (1, .int x1), (2, .int x2)]) rfl ?_
  refine S_iload_n 1 dX11_mean_0 rfl rfl ?_
  refine S_iconst (v := 0) dX11_mean_1 (by decide) ?_
  refine S_bipush (v := 60) dX11_mean_2 (by decide) ?_
  refine S_callS [.int x1, .int 0, .int 60] [] m_RX11_114 rfl rfl (Nat.le_of_ble_eq_true rfl) (zroom_0 (by decide)) dX11_mean_4 (zpure (sp_X11_within (I := I) (L := L) (M := M) (d + 6) x1 0 60) ?_)
  refine S_if_eq (tgt := 26) dX11_mean_7 (by decide) (fun q1 => ?_) (fun q1 => ?_)
  · refine S_ldc2 c_RX11_290 dX11_mean_26 ?_
    exact S_lret rfl dX11_mean_29 ⟨_, I, L, M, rfl, rfl, (T.1 (zb_f q1))⟩
  · refine S_iload_n 2 dX11_mean_10 rfl rfl ?_
    refine S_iconst (v := 0) dX11_mean_11 (by decide) ?_
    refine S_iconst (v := 1) dX11_mean_12 (by decide) ?_
    refine S_callS [.int x2, .int 0, .int 1] [] m_RX11_114 rfl rfl (Nat.le_of_ble_eq_true rfl) (zroom_0 (by decide)) dX11_mean_13 (zpure (sp_X11_within (I := I) (L := L) (M := M) (d + 6) x2 0 1) ?_)
    refine S_if_eq (tgt := 26) dX11_mean_16 (by decide) (fun q2 => ?_) (fun q2 => ?_)
    · refine S_ldc2 c_RX11_290 dX11_mean_26 ?_
      exact S_lret rfl dX11_mean_29 ⟨_, I, L, M, rfl, rfl, ((T.2 (zb_t q1)).1 (zb_f q2))⟩
    · refine S_aload_n 0 dX11_mean_19 rfl rfl ?_
      refine S_getI f_RX11_111 s_265 dX11_mean_20 ?_
      refine S_if_ne (tgt := 30) dX11_mean_23 (by decide) (fun q3 => ?_) (fun q3 => ?_)
      · refine S_aload_n 0 dX11_mean_30 rfl rfl ?_
        refine S_iload_n 1 dX11_mean_31 rfl rfl ?_
        refine S_iconst (v := 0) dX11_mean_32 (by decide) ?_
        refine S_callV [.int x1, .int 0] [] m_RX11_298 rfl rfl s_265 ⟨rfl, by decide⟩ (Nat.le_of_ble_eq_true rfl) (zroom_0 (by decide)) dX11_mean_33 (zCI_use (((T.2 (zb_t q1)).2 (zb_t q2)).1 q3) ?_)
        intro r1_4 I1_4 L1_4 M1_4 T1_4
        refine S_i2l dX11_mean_36 ?_
        refine S_aload_n 0 dX11_mean_37 rfl rfl ?_
        refine S_getI f_RX11_111 s_265 dX11_mean_38 ?_
        refine S_i2l dX11_mean_41 ?_
        refine S_iload_n 2 dX11_mean_42 rfl rfl ?_
        refine S_callS [.long ((r1_4 : Int32).toInt64), .long (((I1_4 265 2) : Int32).toInt64), .int x2] [] m_RX11_294 rfl rfl (Nat.le_of_ble_eq_true rfl) (zroom_0 (by decide)) dX11_mean_43 (zCL_use T1_4 ?_)
        intro r2_4 I2_4 L2_4 M2_4 T2_4
        exact S_lret rfl dX11_mean_46 ⟨_, I2_4, L2_4, M2_4, rfl, rfl, T2_4⟩
      · refine S_ldc2 c_RX11_290 dX11_mean_26 ?_
        exact S_lret rfl dX11_mean_29 ⟨_, I, L, M, rfl, rfl, (((T.2 (zb_t q1)).2 (zb_t q2)).2 q3)⟩

set_option maxRecDepth 100000 in
theorem t_X11_odds {C : zC} {I : Nat → Nat → Int32} {L : Nat → Nat → Int64} {M : Nat → Nat → Option Nat} (d : Nat) (x1 : Int32) (x2 : Int32)  (K : Int64 → (Nat → Nat → Int32) → (Nat → Nat → Int64) → (Nat → Nat → Option Nat) → Prop) (T : ((¬ (0 ≤ x1 ∧ x1 ≤ I 265 2 - 1) → K ((-9223372036854775808)) I L M) ∧ ((0 ≤ x1 ∧ x1 ≤ I 265 2 - 1) → ((((0 : Int32) ≤ x2 ∧ x2 ≤ 1) → vp_in x1 6 ∧ zCI C Y_X11_prey (d + 5) [.ref 265, .int x1] (zmk I L M) (fun r1_3 I1_3 L1_3 M1_3 => zSL C (zmk I L M) K Y_X11_odds (d + 6) 41 [(0, .ref 265), (1, .int x1), (2, .int x2), (3, .int (I 270 x1.toNatClampNeg)), (4, .int r1_3), (5, .int 0), (6, .int 0)] [] I1_3 L1_3 M1_3)) ∧ (¬ ((0 : Int32) ≤ x2 ∧ x2 ≤ 1) → K ((-9223372036854775808)) I L M))))) : zCL C Y_X11_odds (d + 6) [.ref 265, .int x1, .int x2] (zmk I L M) K := by
  refine S_enter (by decide) (Nat.le_of_ble_eq_true rfl) ?_
  refine S_lv (lv' := [(0, .ref 265), (1, .int x1), (2, .int x2)]) rfl ?_
  refine S_aload_n 0 dX11_odds_0 rfl rfl ?_
  refine S_iload_n 1 dX11_odds_1 rfl rfl ?_
  refine S_callV [.int x1] [] m_RX11_118 rfl rfl s_265 ⟨rfl, by decide⟩ (Nat.le_of_ble_eq_true rfl) (zroom_0 (by decide)) dX11_odds_2 (zpure (sp_X11_isOne (I := I) (L := L) (M := M) (d + 3) x1) ?_)
  refine S_if_eq (tgt := 17) dX11_odds_5 (by decide) (fun q1 => ?_) (fun q1 => ?_)
  · refine S_ldc2 c_RX11_290 dX11_odds_17 ?_
    exact S_lret rfl dX11_odds_20 ⟨_, I, L, M, rfl, rfl, (T.1 (zb_f q1))⟩
  · refine S_iload_n 2 dX11_odds_8 rfl rfl ?_
    refine S_iconst (v := 0) dX11_odds_9 (by decide) ?_
    refine S_iconst (v := 1) dX11_odds_10 (by decide) ?_
    refine S_callS [.int x2, .int 0, .int 1] [] m_RX11_114 rfl rfl (Nat.le_of_ble_eq_true rfl) (zroom_0 (by decide)) dX11_odds_11 (zpure (sp_X11_within (I := I) (L := L) (M := M) (d + 4) x2 0 1) ?_)
    refine S_if_ne (tgt := 21) dX11_odds_14 (by decide) (fun q2 => ?_) (fun q2 => ?_)
    · refine S_aload_n 0 dX11_odds_21 rfl rfl ?_
      refine S_getP f_RX11_24 s_265 p_265_5 dX11_odds_22 ?_
      refine S_iload_n 1 dX11_odds_25 rfl rfl ?_
      refine S_iald s_270 ((T.2 (zb_t q1)).1 (zb_t q2)).1 dX11_odds_26 ?_
      refine S_istore_n dX11_odds_27 rfl (by decide) rfl ?_
      refine S_aload_n 1 dX11_odds_28 rfl rfl ?_
      refine S_iload_n 2 dX11_odds_29 rfl rfl ?_
      refine S_callV [.int x1] [] m_RX11_129 rfl rfl s_265 ⟨rfl, by decide⟩ (Nat.le_of_ble_eq_true rfl) (zroom_0 (by decide)) dX11_odds_30 (zCI_use ((T.2 (zb_t q1)).1 (zb_t q2)).2 ?_)
      intro r1_3 I1_3 L1_3 M1_3 T1_3
      refine S_istore dX11_odds_33 (by decide) rfl ?_
      refine S_iconst (v := 0) dX11_odds_35 (by decide) ?_
      refine S_istore dX11_odds_36 (by decide) rfl ?_
      refine S_iconst (v := 0) dX11_odds_38 (by decide) ?_
      refine S_istore dX11_odds_39 (by decide) rfl ?_
      exact S_sub [4, 5, 6, 3, 2, 1, 0] rfl T1_3
    · refine S_ldc2 c_RX11_290 dX11_odds_17 ?_
      exact S_lret rfl dX11_odds_20 ⟨_, I, L, M, rfl, rfl, ((T.2 (zb_t q1)).2 (zb_f q2))⟩

set_option maxRecDepth 100000 in
theorem t_X11_odds_41 {C : zC} {I : Nat → Nat → Int32} {L : Nat → Nat → Int64} {M : Nat → Nat → Option Nat} {h0 : zH} (d : Nat)   (y1 : Int32) (y2 : Int32) (y3 : Int32) (y4 : Int32) (y5 : Int32) (y6 : Int32) (K : Int64 → (Nat → Nat → Int32) → (Nat → Nat → Int64) → (Nat → Nat → Option Nat) → Prop) (T : ((12 ≤ y6 → vp_in y1 6 ∧ zCL C Y_X11_part (d + 5) [.long ((y5 : Int32).toInt64), .long (12), .int y2] (zmk (u2 I 270 y1.toNatClampNeg y3) L M) (fun r1_2 I1_2 L1_2 M1_2 => K r1_2 I1_2 L1_2 M1_2)) ∧ (¬ (12 ≤ y6) → vp_in y1 6 ∧ zCI C Y_X11_prey (d + 5) [.ref 265, .int y1] (zmk (u2 I 270 y1.toNatClampNeg ((y3 ||| ((1 : Int32) <<< (y6 &&& 31))))) L M) (fun r2_2 I2_2 L2_2 M2_2 => ((r2_2 = y4 → zSL C h0 K Y_X11_odds (d + 6) 41 [(0, .ref 265), (1, .int y1), (2, .int y2), (3, .int y3), (4, .int y4), (5, .int y5), (6, .int (y6 + 1))] [] I2_2 L2_2 M2_2) ∧ (¬ (r2_2 = y4) → zSL C h0 K Y_X11_odds (d + 6) 41 [(0, .ref 265), (1, .int y1), (2, .int y2), (3, .int y3), (4, .int y4), (5, .int (y5 + 1)), (6, .int (y6 + 1))] [] I2_2 L2_2 M2_2)))))) : zSL C h0 K Y_X11_odds (d + 6) 41 [(0, .ref 265), (1, .int y1), (2, .int y2), (3, .int y3), (4, .int y4), (5, .int y5), (6, .int y6)] [] I L M := by
  refine S_iload 6 dX11_odds_41 rfl ?_
  refine S_bipush (v := 12) dX11_odds_43 (by decide) ?_
  refine S_icmp_ge (tgt := 79) dX11_odds_45 (by decide) (fun q1 => ?_) (fun q1 => ?_)
  · refine S_aload_n 0 dX11_odds_79 rfl rfl ?_
    refine S_getP f_RX11_24 s_265 p_265_5 dX11_odds_80 ?_
    refine S_iload_n 1 dX11_odds_83 rfl rfl ?_
    refine S_iload_n 3 dX11_odds_84 rfl rfl ?_
    refine S_iast s_270 (T.1 q1).1 dX11_odds_85 ?_
    refine S_iload 5 dX11_odds_86 rfl ?_
    refine S_i2l dX11_odds_88 ?_
    refine S_ldc2 c_RX11_292 dX11_odds_89 ?_
    refine S_iload_n 2 dX11_odds_92 rfl rfl ?_
    refine S_callS [.long ((y5 : Int32).toInt64), .long (12), .int y2] [] m_RX11_294 rfl rfl (Nat.le_of_ble_eq_true rfl) (zroom_0 (by decide)) dX11_odds_93 (zCL_use (T.1 q1).2 ?_)
    intro r1_2 I1_2 L1_2 M1_2 T1_2
    exact S_lret rfl dX11_odds_96 ⟨_, I1_2, L1_2, M1_2, rfl, rfl, T1_2⟩
  · refine S_aload_n 0 dX11_odds_48 rfl rfl ?_
    refine S_getP f_RX11_24 s_265 p_265_5 dX11_odds_49 ?_
    refine S_iload_n 1 dX11_odds_52 rfl rfl ?_
    refine S_iload_n 3 dX11_odds_53 rfl rfl ?_
    refine S_iconst (v := 1) dX11_odds_54 (by decide) ?_
    refine S_iload 6 dX11_odds_55 rfl ?_
    refine S_ishl dX11_odds_57 ?_
    refine S_ior dX11_odds_58 ?_
    refine S_iast s_270 (T.2 q1).1 dX11_odds_59 ?_
    refine S_aload_n 0 dX11_odds_60 rfl rfl ?_
    refine S_iload_n 1 dX11_odds_61 rfl rfl ?_
    refine S_callV [.int y1] [] m_RX11_129 rfl rfl s_265 ⟨rfl, by decide⟩ (Nat.le_of_ble_eq_true rfl) (zroom_0 (by decide)) dX11_odds_62 (zCI_use (T.2 q1).2 ?_)
    intro r2_2 I2_2 L2_2 M2_2 T2_2
    refine S_iload 4 dX11_odds_65 rfl ?_
    refine S_icmp_eq (tgt := 73) dX11_odds_67 (by decide) (fun q2 => ?_) (fun q2 => ?_)
    · refine S_iinc 6 dX11_odds_73 rfl rfl (by decide) rfl ?_
      refine S_goto (tgt := 41) dX11_odds_76 (by decide) ?_
      exact S_sub [1, 2, 3, 4, 5, 6, 0] rfl (T2_2.1 q2)
    · refine S_iinc 5 dX11_odds_70 rfl rfl (by decide) rfl ?_
      refine S_iinc 6 dX11_odds_73 rfl rfl (by decide) rfl ?_
      refine S_goto (tgt := 41) dX11_odds_76 (by decide) ?_
      exact S_sub [2, 3, 4, 5, 6, 1, 0] rfl (T2_2.2 q2)

set_option maxRecDepth 100000 in
theorem t_X11_of {C : zC} {I : Nat → Nat → Int32} {L : Nat → Nat → Int64} {M : Nat → Nat → Option Nat} (d : Nat) (x1 : Int32) (x2 : Int32)  (K : Int32 → (Nat → Nat → Int32) → (Nat → Nat → Int64) → (Nat → Nat → Option Nat) → Prop) (T : (((0 ≤ x1 ∧ x1 ≤ I 265 2 - 1) → ((¬ (0 ≤ (x2 - (10 : Int32)) ∧ (x2 - (10 : Int32)) < 12) → ((x2 = 0 → vp_in x1 6 ∧ K ((I 268 x1.toNatClampNeg)) I L M) ∧ (x2 = 1 → vp_in x1 6 ∧ K ((I 269 x1.toNatClampNeg)) I L M) ∧ (x2 = 2 → vp_in x1 6 ∧ K ((I 270 x1.toNatClampNeg)) I L M) ∧ (x2 = 3 → vp_in x1 6 ∧ K ((I 271 x1.toNatClampNeg)) I L M) ∧ (x2 = 4 → vp_in x1 6 ∧ K ((I 272 x1.toNatClampNeg)) I L M) ∧ (x2 = 5 → zCI C Y_X11_prey (d + 7) [.ref 265, .int x1] (zmk I L M) (fun r1_4 I1_4 L1_4 M1_4 => K r1_4 I1_4 L1_4 M1_4)) ∧ (x2 = 6 → zCI C Y_X11_empty (d + 7) [.ref 265, .int x1] (zmk I L M) (fun r2_4 I2_4 L2_4 M2_4 => K r2_4 I2_4 L2_4 M2_4)) ∧ (x2 = 7 → zCI C Y_X11_backTo (d + 7) [.ref 265, .int x1] (zmk I L M) (fun r3_4 I3_4 L3_4 M3_4 => K r3_4 I3_4 L3_4 M3_4)) ∧ (((x2 : Int32).toInt < 0 ∨ 7 < (x2 : Int32).toInt) → K ((-10001)) I L M))) ∧ ((0 ≤ (x2 - (10 : Int32)) ∧ (x2 - (10 : Int32)) < 12) → zCI C Y_X11_tempts (d + 7) [.ref 265, .int x1, .int (x2 - (10 : Int32))] (zmk I L M) (fun r4_3 I4_3 L4_3 M4_3 => K r4_3 I4_3 L4_3 M4_3)))) ∧ (¬ (0 ≤ x1 ∧ x1 ≤ I 265 2 - 1) → K ((-10001)) I L M))) : zCI C Y_X11_of (d + 8) [.ref 265, .int x1, .int x2] (zmk I L M) K := by
  refine S_enter (by decide) (Nat.le_of_ble_eq_true rfl) ?_
  refine S_lv (lv' := [(0, .ref 265), (1, .int x1), (2, .int x2)]) rfl ?_
  refine S_aload_n 0 dX11_of_0 rfl rfl ?_
  refine S_iload_n 1 dX11_of_1 rfl rfl ?_
  refine S_callV [.int x1] [] m_RX11_118 rfl rfl s_265 ⟨rfl, by decide⟩ (Nat.le_of_ble_eq_true rfl) (zroom_0 (by decide)) dX11_of_2 (zpure (sp_X11_isOne (I := I) (L := L) (M := M) (d + 5) x1) ?_)
  refine S_if_ne (tgt := 12) dX11_of_5 (by decide) (fun q1 => ?_) (fun q1 => ?_)
  · refine S_iload_n 2 dX11_of_12 rfl rfl ?_
    refine S_bipush (v := 10) dX11_of_13 (by decide) ?_
    refine S_isub dX11_of_15 ?_
    refine S_callS [.int (x2 - (10 : Int32))] [] m_RX11_122 rfl rfl (Nat.le_of_ble_eq_true rfl) (zroom_0 (by decide)) dX11_of_16 (zpure (sp_X11_isPurpose (I := I) (L := L) (M := M) (d + 5) ((x2 - (10 : Int32)))) ?_)
    refine S_if_eq (tgt := 32) dX11_of_19 (by decide) (fun q2 => ?_) (fun q2 => ?_)
    · refine S_iload_n 2 dX11_of_32 rfl rfl ?_
      rcases ztab0_8 x2 with q3 | q3 | q3 | q3 | q3 | q3 | q3 | q3 | q3
      · refine S_tabK (tgt := 80) dX11_of_33 q3 (by decide) (by decide) (off := 47) rfl (by decide) ?_
        refine S_aload_n 0 dX11_of_80 rfl rfl ?_
        refine S_getP f_RX11_18 s_265 p_265_3 dX11_of_81 ?_
        refine S_iload_n 1 dX11_of_84 rfl rfl ?_
        refine S_iald s_268 (((T.1 (zb_t q1)).1 (zb_f q2)).1 q3).1 dX11_of_85 ?_
        exact S_ireti rfl dX11_of_86 ⟨_, I, L, M, rfl, rfl, (((T.1 (zb_t q1)).1 (zb_f q2)).1 q3).2⟩
      · refine S_tabK (tgt := 87) dX11_of_33 q3 (by decide) (by decide) (off := 54) rfl (by decide) ?_
        refine S_aload_n 0 dX11_of_87 rfl rfl ?_
        refine S_getP f_RX11_21 s_265 p_265_4 dX11_of_88 ?_
        refine S_iload_n 1 dX11_of_91 rfl rfl ?_
        refine S_iald s_269 (((T.1 (zb_t q1)).1 (zb_f q2)).2.1 q3).1 dX11_of_92 ?_
        exact S_ireti rfl dX11_of_93 ⟨_, I, L, M, rfl, rfl, (((T.1 (zb_t q1)).1 (zb_f q2)).2.1 q3).2⟩
      · refine S_tabK (tgt := 94) dX11_of_33 q3 (by decide) (by decide) (off := 61) rfl (by decide) ?_
        refine S_aload_n 0 dX11_of_94 rfl rfl ?_
        refine S_getP f_RX11_24 s_265 p_265_5 dX11_of_95 ?_
        refine S_iload_n 1 dX11_of_98 rfl rfl ?_
        refine S_iald s_270 (((T.1 (zb_t q1)).1 (zb_f q2)).2.2.1 q3).1 dX11_of_99 ?_
        exact S_ireti rfl dX11_of_100 ⟨_, I, L, M, rfl, rfl, (((T.1 (zb_t q1)).1 (zb_f q2)).2.2.1 q3).2⟩
      · refine S_tabK (tgt := 101) dX11_of_33 q3 (by decide) (by decide) (off := 68) rfl (by decide) ?_
        refine S_aload_n 0 dX11_of_101 rfl rfl ?_
        refine S_getP f_RX11_27 s_265 p_265_6 dX11_of_102 ?_
        refine S_iload_n 1 dX11_of_105 rfl rfl ?_
        refine S_iald s_271 (((T.1 (zb_t q1)).1 (zb_f q2)).2.2.2.1 q3).1 dX11_of_106 ?_
        exact S_ireti rfl dX11_of_107 ⟨_, I, L, M, rfl, rfl, (((T.1 (zb_t q1)).1 (zb_f q2)).2.2.2.1 q3).2⟩
      · refine S_tabK (tgt := 108) dX11_of_33 q3 (by decide) (by decide) (off := 75) rfl (by decide) ?_
        refine S_aload_n 0 dX11_of_108 rfl rfl ?_
        refine S_getP f_RX11_30 s_265 p_265_7 dX11_of_109 ?_
        refine S_iload_n 1 dX11_of_112 rfl rfl ?_
        refine S_iald s_272 (((T.1 (zb_t q1)).1 (zb_f q2)).2.2.2.2.1 q3).1 dX11_of_113 ?_
        exact S_ireti rfl dX11_of_114 ⟨_, I, L, M, rfl, rfl, (((T.1 (zb_t q1)).1 (zb_f q2)).2.2.2.2.1 q3).2⟩
      · refine S_tabK (tgt := 115) dX11_of_33 q3 (by decide) (by decide) (off := 82) rfl (by decide) ?_
        refine S_aload_n 0 dX11_of_115 rfl rfl ?_
        refine S_iload_n 1 dX11_of_116 rfl rfl ?_
        refine S_callV [.int x1] [] m_RX11_129 rfl rfl s_265 ⟨rfl, by decide⟩ (Nat.le_of_ble_eq_true rfl) (zroom_0 (by decide)) dX11_of_117 (zCI_use (((T.1 (zb_t q1)).1 (zb_f q2)).2.2.2.2.2.1 q3) ?_)
        intro r1_4 I1_4 L1_4 M1_4 T1_4
        exact S_ireti rfl dX11_of_120 ⟨_, I1_4, L1_4, M1_4, rfl, rfl, T1_4⟩
      · refine S_tabK (tgt := 121) dX11_of_33 q3 (by decide) (by decide) (off := 88) rfl (by decide) ?_
        refine S_aload_n 0 dX11_of_121 rfl rfl ?_
        refine S_iload_n 1 dX11_of_122 rfl rfl ?_
        refine S_callV [.int x1] [] m_RX11_133 rfl rfl s_265 ⟨rfl, by decide⟩ (Nat.le_of_ble_eq_true rfl) (zroom_0 (by decide)) dX11_of_123 (zCI_use (((T.1 (zb_t q1)).1 (zb_f q2)).2.2.2.2.2.2.1 q3) ?_)
        intro r2_4 I2_4 L2_4 M2_4 T2_4
        exact S_ireti rfl dX11_of_126 ⟨_, I2_4, L2_4, M2_4, rfl, rfl, T2_4⟩
      · refine S_tabK (tgt := 127) dX11_of_33 q3 (by decide) (by decide) (off := 94) rfl (by decide) ?_
        refine S_aload_n 0 dX11_of_127 rfl rfl ?_
        refine S_iload_n 1 dX11_of_128 rfl rfl ?_
        refine S_callV [.int x1] [] m_RX11_136 rfl rfl s_265 ⟨rfl, by decide⟩ (Nat.le_of_ble_eq_true rfl) (zroom_0 (by decide)) dX11_of_129 (zCI_use (((T.1 (zb_t q1)).1 (zb_f q2)).2.2.2.2.2.2.2.1 q3) ?_)
        intro r3_4 I3_4 L3_4 M3_4 T3_4
        exact S_ireti rfl dX11_of_132 ⟨_, I3_4, L3_4, M3_4, rfl, rfl, T3_4⟩
      · refine S_tabOut (tgt := 133) dX11_of_33 q3 (by decide) ?_
        refine S_sipush (v := -10001) dX11_of_133 (by decide) ?_
        exact S_ireti rfl dX11_of_136 ⟨_, I, L, M, rfl, rfl, (((T.1 (zb_t q1)).1 (zb_f q2)).2.2.2.2.2.2.2.2 q3)⟩
    · refine S_aload_n 0 dX11_of_22 rfl rfl ?_
      refine S_iload_n 1 dX11_of_23 rfl rfl ?_
      refine S_iload_n 2 dX11_of_24 rfl rfl ?_
      refine S_bipush (v := 10) dX11_of_25 (by decide) ?_
      refine S_isub dX11_of_27 ?_
      refine S_callV [.int x1, .int (x2 - (10 : Int32))] [] m_RX11_125 rfl rfl s_265 ⟨rfl, by decide⟩ (Nat.le_of_ble_eq_true rfl) (zroom_0 (by decide)) dX11_of_28 (zCI_use ((T.1 (zb_t q1)).2 (zb_t q2)) ?_)
      intro r4_3 I4_3 L4_3 M4_3 T4_3
      exact S_ireti rfl dX11_of_31 ⟨_, I4_3, L4_3, M4_3, rfl, rfl, T4_3⟩
  · refine S_sipush (v := -10001) dX11_of_8 (by decide) ?_
    exact S_ireti rfl dX11_of_11 ⟨_, I, L, M, rfl, rfl, (T.2 (zb_f q1))⟩

set_option maxRecDepth 100000 in
theorem t_X11_ran {C : zC} {I : Nat → Nat → Int32} {L : Nat → Nat → Int64} {M : Nat → Nat → Option Nat} (d : Nat) (x1 : Int32)  (K : (Nat → Nat → Int32) → (Nat → Nat → Int64) → (Nat → Nat → Option Nat) → Prop) (T : ((20 ≤ (I 265 37) → K (u2 I 265 37 (((I 265 37) + (1 : Int32)))) L M) ∧ (¬ (20 ≤ (I 265 37)) → vp_in ((I 265 37)) 20 ∧ K (u2 (u2 I 290 (((I 265 37)).toNatClampNeg) x1) 265 37 (((I 265 37) + (1 : Int32)))) L M))) : zCV C Y_X11_ran (d + 1) [.ref 265, .int x1] (zmk I L M) K := by
  refine S_enter (by decide) (Nat.le_of_ble_eq_true rfl) ?_
  refine S_lv (lv' := [(0, .ref 265), (1, .int x1)]) rfl ?_
  refine S_aload_n 0 dX11_ran_0 rfl rfl ?_
  refine S_getI f_RX11_314 s_265 dX11_ran_1 ?_
  refine S_bipush (v := 20) dX11_ran_4 (by decide) ?_
  refine S_icmp_ge (tgt := 19) dX11_ran_6 (by decide) (fun q1 => ?_) (fun q1 => ?_)
  · refine S_aload_n 0 dX11_ran_19 rfl rfl ?_
    refine S_dup dX11_ran_20 rfl ?_
    refine S_getI f_RX11_314 s_265 dX11_ran_21 ?_
    refine S_iconst (v := 1) dX11_ran_24 (by decide) ?_
    refine S_iadd dX11_ran_25 ?_
    refine S_putI f_RX11_314 s_265 (Or.inl rfl) rfl dX11_ran_26 ?_
    exact S_vret rfl dX11_ran_29 ⟨u2 I 265 37 (((I 265 37) + (1 : Int32))), L, M, rfl, rfl, (T.1 q1)⟩
  · refine S_aload_n 0 dX11_ran_9 rfl rfl ?_
    refine S_getP f_RX11_85 s_265 p_265_38 dX11_ran_10 ?_
    refine S_aload_n 0 dX11_ran_13 rfl rfl ?_
    refine S_getI f_RX11_314 s_265 dX11_ran_14 ?_
    refine S_iload_n 1 dX11_ran_17 rfl rfl ?_
    refine S_iast s_290 (T.2 q1).1 dX11_ran_18 ?_
    refine S_aload_n 0 dX11_ran_19 rfl rfl ?_
    refine S_dup dX11_ran_20 rfl ?_
    refine S_getI f_RX11_314 s_265 dX11_ran_21 ?_
    refine S_iconst (v := 1) dX11_ran_24 (by decide) ?_
    refine S_iadd dX11_ran_25 ?_
    refine S_putI f_RX11_314 s_265 (Or.inl rfl) rfl dX11_ran_26 ?_
    exact S_vret rfl dX11_ran_29 ⟨u2 (u2 I 290 (((I 265 37)).toNatClampNeg) x1) 265 37 (((I 265 37) + (1 : Int32))), L, M, rfl, rfl, (T.2 q1).2⟩

set_option maxRecDepth 100000 in
theorem t_X11_ring {C : zC} {I : Nat → Nat → Int32} {L : Nat → Nat → Int64} {M : Nat → Nat → Option Nat} (d : Nat)   (K : Int32 → (Nat → Nat → Int32) → (Nat → Nat → Int64) → (Nat → Nat → Option Nat) → Prop) (T : zSI C (zmk I L M) K Y_X11_ring (d + 3) 4 [(0, .ref 265), (1, .int 0), (2, .int 0)] [] I L M) : zCI C Y_X11_ring (d + 3) [.ref 265] (zmk I L M) K := by
  refine S_enter (by decide) (Nat.le_of_ble_eq_true rfl) ?_
  refine S_lv (lv' := [(0, .ref 265)]) rfl ?_
  refine S_iconst (v := 0) dX11_ring_0 (by decide) ?_
  refine S_istore_n dX11_ring_1 rfl (by decide) rfl ?_
  refine S_iconst (v := 0) dX11_ring_2 (by decide) ?_
  refine S_istore_n dX11_ring_3 rfl (by decide) rfl ?_
  exact S_sub [2, 1, 0] rfl T

set_option maxRecDepth 100000 in
theorem t_X11_ring_4 {C : zC} {I : Nat → Nat → Int32} {L : Nat → Nat → Int64} {M : Nat → Nat → Option Nat} {h0 : zH} (d : Nat)   (y1 : Int32) (y2 : Int32) (K : Int32 → (Nat → Nat → Int32) → (Nat → Nat → Int64) → (Nat → Nat → Option Nat) → Prop) (T : (((I 265 2) ≤ y2 → K y1 I L M) ∧ (¬ ((I 265 2) ≤ y2) → zCI C Y_X11_ringFrom (d + 2) [.ref 265, .int y2, .int y2, .int ((1 : Int32) <<< (y2 &&& 31)), .int 1] (zmk I L M) (fun r1_2 I1_2 L1_2 M1_2 => zSI C h0 K Y_X11_ring (d + 3) 4 [(0, .ref 265), (1, .int (if y1 < r1_2 then r1_2 else y1)), (2, .int (y2 + 1))] [] I1_2 L1_2 M1_2)))) : zSI C h0 K Y_X11_ring (d + 3) 4 [(0, .ref 265), (1, .int y1), (2, .int y2)] [] I L M := by
  refine S_iload_n 2 dX11_ring_4 rfl rfl ?_
  refine S_aload_n 0 dX11_ring_5 rfl rfl ?_
  refine S_getI f_RX11_111 s_265 dX11_ring_6 ?_
  refine S_icmp_ge (tgt := 33) dX11_ring_9 (by decide) (fun q1 => ?_) (fun q1 => ?_)
  · refine S_iload_n 1 dX11_ring_33 rfl rfl ?_
    exact S_ireti rfl dX11_ring_34 ⟨_, I, L, M, rfl, rfl, (T.1 q1)⟩
  · refine S_iload_n 1 dX11_ring_12 rfl rfl ?_
    refine S_aload_n 0 dX11_ring_13 rfl rfl ?_
    refine S_iload_n 2 dX11_ring_14 rfl rfl ?_
    refine S_iload_n 2 dX11_ring_15 rfl rfl ?_
    refine S_iconst (v := 1) dX11_ring_16 (by decide) ?_
    refine S_iload_n 2 dX11_ring_17 rfl rfl ?_
    refine S_ishl dX11_ring_18 ?_
    refine S_iconst (v := 1) dX11_ring_19 (by decide) ?_
    refine S_callV [.int y2, .int y2, .int ((1 : Int32) <<< (y2 &&& 31)), .int 1] [.int y1] m_RX11_253 rfl rfl s_265 ⟨rfl, by decide⟩ (Nat.le_of_ble_eq_true rfl) (zroom_0 (by decide)) dX11_ring_20 (zCI_use (T.2 q1) ?_)
    intro r1_2 I1_2 L1_2 M1_2 T1_2
    refine S_max m_RX11_242 o_maxs o_math o_maxc (Nat.le_of_ble_eq_true rfl) rfl ⟨Nat.le_refl _, Nat.le_refl _⟩ dX11_ring_23 ?_
    refine S_istore_n dX11_ring_26 rfl (by decide) rfl ?_
    refine S_iinc 2 dX11_ring_27 rfl rfl (by decide) rfl ?_
    refine S_goto (tgt := 4) dX11_ring_30 (by decide) ?_
    exact S_sub [2, 1, 0] rfl T1_2

set_option maxRecDepth 100000 in
theorem t_X11_taken {C : zC} {I : Nat → Nat → Int32} {L : Nat → Nat → Int64} {M : Nat → Nat → Option Nat} (d : Nat) (x1 : Int32) (x2 : Int32)  (K : Int32 → (Nat → Nat → Int32) → (Nat → Nat → Int64) → (Nat → Nat → Option Nat) → Prop) (T : ((((0 : Int32) ≤ x2 ∧ x2 ≤ 6) → (((0 ≤ x1 ∧ x1 ≤ I 265 2 - 1) → vp_in x1 6 ∧ zSI C (zmk I L M) K Y_X11_taken (d + 3) 31 [(0, .ref 265), (1, .int x1), (2, .int x2), (3, .int (I 268 x1.toNatClampNeg))] [] I L M) ∧ (¬ (0 ≤ x1 ∧ x1 ≤ I 265 2 - 1) → K ((-11)) I L M))) ∧ (¬ ((0 : Int32) ≤ x2 ∧ x2 ≤ 6) → K ((-2)) I L M))) : zCI C Y_X11_taken (d + 3) [.ref 265, .int x1, .int x2] (zmk I L M) K := by
  refine S_enter (by decide) (Nat.le_of_ble_eq_true rfl) ?_
  refine S_lv (lv' := [(0, .ref 265), (1, .int x1), (2, .int x2)]) rfl ?_
  refine S_iload_n 2 dX11_taken_0 rfl rfl ?_
  refine S_iconst (v := 0) dX11_taken_1 (by decide) ?_
  refine S_bipush (v := 6) dX11_taken_2 (by decide) ?_
  refine S_callS [.int x2, .int 0, .int 6] [] m_RX11_114 rfl rfl (Nat.le_of_ble_eq_true rfl) (zroom_0 (by decide)) dX11_taken_4 (zpure (sp_X11_within (I := I) (L := L) (M := M) (d + 1) x2 0 6) ?_)
  refine S_if_ne (tgt := 13) dX11_taken_7 (by decide) (fun q1 => ?_) (fun q1 => ?_)
  · refine S_aload_n 0 dX11_taken_13 rfl rfl ?_
    refine S_iload_n 1 dX11_taken_14 rfl rfl ?_
    refine S_callV [.int x1] [] m_RX11_118 rfl rfl s_265 ⟨rfl, by decide⟩ (Nat.le_of_ble_eq_true rfl) (zroom_0 (by decide)) dX11_taken_15 (zpure (sp_X11_isOne (I := I) (L := L) (M := M) (d + 0) x1) ?_)
    refine S_if_ne (tgt := 24) dX11_taken_18 (by decide) (fun q2 => ?_) (fun q2 => ?_)
    · refine S_aload_n 0 dX11_taken_24 rfl rfl ?_
      refine S_getP f_RX11_18 s_265 p_265_3 dX11_taken_25 ?_
      refine S_iload_n 1 dX11_taken_28 rfl rfl ?_
      refine S_iald s_268 ((T.1 (zb_t q1)).1 (zb_t q2)).1 dX11_taken_29 ?_
      refine S_istore_n dX11_taken_30 rfl (by decide) rfl ?_
      exact S_sub [1, 2, 3, 0] rfl ((T.1 (zb_t q1)).1 (zb_t q2)).2
    · refine S_bipush (v := -11) dX11_taken_21 (by decide) ?_
      exact S_ireti rfl dX11_taken_23 ⟨_, I, L, M, rfl, rfl, ((T.1 (zb_t q1)).2 (zb_f q2))⟩
  · refine S_bipush (v := -2) dX11_taken_10 (by decide) ?_
    exact S_ireti rfl dX11_taken_12 ⟨_, I, L, M, rfl, rfl, (T.2 (zb_f q1))⟩

set_option maxRecDepth 100000 in
theorem t_X11_taken_31 {C : zC} {I : Nat → Nat → Int32} {L : Nat → Nat → Int64} {M : Nat → Nat → Option Nat} {h0 : zH} (d : Nat)   (y1 : Int32) (y2 : Int32) (y3 : Int32) (K : Int32 → (Nat → Nat → Int32) → (Nat → Nat → Int64) → (Nat → Nat → Option Nat) → Prop) (T : ((y3 = y2 → zSI C h0 K Y_X11_taken (d + 3) 48 [(0, .ref 265), (1, .int y1), (2, .int y2), (3, .int y3)] [] I L M) ∧ (¬ (y3 = y2) → ((y3 ≤ 0 → zSI C h0 K Y_X11_taken (d + 3) 48 [(0, .ref 265), (1, .int y1), (2, .int y2), (3, .int y3)] [] I L M) ∧ (¬ (y3 ≤ 0) → zCI C Y_X11_above (d + 2) [.int y3] (zmk I L M) (fun r1_3 I1_3 L1_3 M1_3 => zSI C h0 K Y_X11_taken (d + 3) 31 [(0, .ref 265), (1, .int y1), (2, .int y2), (3, .int r1_3)] [] I1_3 L1_3 M1_3)))))) : zSI C h0 K Y_X11_taken (d + 3) 31 [(0, .ref 265), (1, .int y1), (2, .int y2), (3, .int y3)] [] I L M := by
  refine S_iload_n 3 dX11_taken_31 rfl rfl ?_
  refine S_iload_n 2 dX11_taken_32 rfl rfl ?_
  refine S_icmp_eq (tgt := 48) dX11_taken_33 (by decide) (fun q1 => ?_) (fun q1 => ?_)
  · exact S_sub [0, 1, 2, 3] rfl (T.1 q1)
  · refine S_iload_n 3 dX11_taken_36 rfl rfl ?_
    refine S_if_le (tgt := 48) dX11_taken_37 (by decide) (fun q2 => ?_) (fun q2 => ?_)
    · exact S_sub [0, 1, 2, 3] rfl ((T.2 q1).1 q2)
    · refine S_iload_n 3 dX11_taken_40 rfl rfl ?_
      refine S_callS [.int y3] [] m_RX11_323 rfl rfl (Nat.le_of_ble_eq_true rfl) (zroom_0 (by decide)) dX11_taken_41 (zCI_use ((T.2 q1).2 q2) ?_)
      intro r1_3 I1_3 L1_3 M1_3 T1_3
      refine S_istore_n dX11_taken_44 rfl (by decide) rfl ?_
      refine S_goto (tgt := 31) dX11_taken_45 (by decide) ?_
      exact S_sub [1, 2, 3, 0] rfl T1_3

set_option maxRecDepth 100000 in
theorem t_X11_taken_48 {C : zC} {I : Nat → Nat → Int32} {L : Nat → Nat → Int64} {M : Nat → Nat → Option Nat} {h0 : zH} (d : Nat)   (y1 : Int32) (y2 : Int32) (y3 : Int32) (K : Int32 → (Nat → Nat → Int32) → (Nat → Nat → Int64) → (Nat → Nat → Option Nat) → Prop) (T : ((¬ y3 = y2 → K ((-12)) I L M) ∧ (y3 = y2 → vp_in y1 6 ∧ K ((I 268 y1.toNatClampNeg)) I L M))) : zSI C h0 K Y_X11_taken (d + 3) 48 [(0, .ref 265), (1, .int y1), (2, .int y2), (3, .int y3)] [] I L M := by
  refine S_iload_n 3 dX11_taken_48 rfl rfl ?_
  refine S_iload_n 2 dX11_taken_49 rfl rfl ?_
  refine S_icmp_ne (tgt := 62) dX11_taken_50 (by decide) (fun q1 => ?_) (fun q1 => ?_)
  · refine S_bipush (v := -12) dX11_taken_62 (by decide) ?_
    exact S_ireti rfl dX11_taken_64 ⟨_, I, L, M, rfl, rfl, (T.1 q1)⟩
  · refine S_aload_n 0 dX11_taken_53 rfl rfl ?_
    refine S_getP f_RX11_18 s_265 p_265_3 dX11_taken_54 ?_
    refine S_iload_n 1 dX11_taken_57 rfl rfl ?_
    refine S_iald s_268 (T.2 q1).1 dX11_taken_58 ?_
    refine S_goto (tgt := 64) dX11_taken_59 (by decide) ?_
    exact S_ireti rfl dX11_taken_64 ⟨_, I, L, M, rfl, rfl, (T.2 q1).2⟩

set_option maxRecDepth 100000 in
theorem t_X11_tape {C : zC} {I : Nat → Nat → Int32} {L : Nat → Nat → Int64} {M : Nat → Nat → Option Nat} (d : Nat) (x1 : Int32) (x2 : Int32) (x3 : Int32)  (K : Int32 → (Nat → Nat → Int32) → (Nat → Nat → Int64) → (Nat → Nat → Option Nat) → Prop) (T : (((0 ≤ x1 ∧ x1 < 6) → ((¬ ((-1 : Int32) ≤ x2 ∧ x2 ≤ 4) → K ((-2)) I L M) ∧ (((-1 : Int32) ≤ x2 ∧ x2 ≤ 4) → ((x2 < 0 → zSI C (zmk I L M) K Y_X11_tape (d + 3) 31 [(0, .ref 265), (1, .int x1), (2, .int x2), (3, .int x3)] [] I L M) ∧ (¬ (x2 < 0) → ((x3 ≤ 60 → zSI C (zmk I L M) K Y_X11_tape (d + 3) 31 [(0, .ref 265), (1, .int x1), (2, .int x2), (3, .int x3)] [] I L M) ∧ (¬ (x3 ≤ 60) → K ((-2)) I L M))))))) ∧ (¬ (0 ≤ x1 ∧ x1 < 6) → K ((-1)) I L M))) : zCI C Y_X11_tape (d + 3) [.ref 265, .int x1, .int x2, .int x3] (zmk I L M) K := by
  refine S_enter (by decide) (Nat.le_of_ble_eq_true rfl) ?_
  refine S_lv (lv' := [(0, .ref 265), (1, .int x1), (2, .int x2), (3, .int x3)]) rfl ?_
  refine S_iload_n 1 dX11_tape_0 rfl rfl ?_
  refine S_callS [.int x1] [] m_RX11_332 rfl rfl (Nat.le_of_ble_eq_true rfl) (zroom_0 (by decide)) dX11_tape_1 (zpure (sp_X11_isTape (I := I) (L := L) (M := M) (d + 0) x1) ?_)
  refine S_if_ne (tgt := 9) dX11_tape_4 (by decide) (fun q1 => ?_) (fun q1 => ?_)
  · refine S_iload_n 2 dX11_tape_9 rfl rfl ?_
    refine S_iconst (v := -1) dX11_tape_10 (by decide) ?_
    refine S_iconst (v := 4) dX11_tape_11 (by decide) ?_
    refine S_callS [.int x2, .int (-1), .int 4] [] m_RX11_114 rfl rfl (Nat.le_of_ble_eq_true rfl) (zroom_0 (by decide)) dX11_tape_12 (zpure (sp_X11_within (I := I) (L := L) (M := M) (d + 1) x2 ((-1)) 4) ?_)
    refine S_if_eq (tgt := 28) dX11_tape_15 (by decide) (fun q2 => ?_) (fun q2 => ?_)
    · refine S_bipush (v := -2) dX11_tape_28 (by decide) ?_
      exact S_ireti rfl dX11_tape_30 ⟨_, I, L, M, rfl, rfl, ((T.1 (zb_t q1)).1 (zb_f q2))⟩
    · refine S_iload_n 2 dX11_tape_18 rfl rfl ?_
      refine S_if_lt (tgt := 31) dX11_tape_19 (by decide) (fun q3 => ?_) (fun q3 => ?_)
      · exact S_sub [0, 1, 2, 3] rfl (((T.1 (zb_t q1)).2 (zb_t q2)).1 q3)
      · refine S_iload_n 3 dX11_tape_22 rfl rfl ?_
        refine S_bipush (v := 60) dX11_tape_23 (by decide) ?_
        refine S_icmp_le (tgt := 31) dX11_tape_25 (by decide) (fun q4 => ?_) (fun q4 => ?_)
        · exact S_sub [0, 1, 2, 3] rfl ((((T.1 (zb_t q1)).2 (zb_t q2)).2 q3).1 q4)
        · refine S_bipush (v := -2) dX11_tape_28 (by decide) ?_
          exact S_ireti rfl dX11_tape_30 ⟨_, I, L, M, rfl, rfl, ((((T.1 (zb_t q1)).2 (zb_t q2)).2 q3).2 q4)⟩
  · refine S_iconst (v := -1) dX11_tape_7 (by decide) ?_
    exact S_ireti rfl dX11_tape_8 ⟨_, I, L, M, rfl, rfl, (T.2 (zb_f q1))⟩

set_option maxRecDepth 100000 in
theorem t_X11_tape_31 {C : zC} {I : Nat → Nat → Int32} {L : Nat → Nat → Int64} {M : Nat → Nat → Option Nat} {h0 : zH} (d : Nat)   (y1 : Int32) (y2 : Int32) (y3 : Int32) (K : Int32 → (Nat → Nat → Int32) → (Nat → Nat → Int64) → (Nat → Nat → Option Nat) → Prop) (T : ((y2 < 0 → zSI C h0 K Y_X11_tape (d + 3) 42 [(0, .ref 265), (1, .int y1), (2, .int y2), (3, .int y3)] [] I L M) ∧ (¬ (y2 < 0) → ((0 ≤ y3 → zSI C h0 K Y_X11_tape (d + 3) 42 [(0, .ref 265), (1, .int y1), (2, .int y2), (3, .int y3)] [] I L M) ∧ (¬ (0 ≤ y3) → K ((-14)) I L M))))) : zSI C h0 K Y_X11_tape (d + 3) 31 [(0, .ref 265), (1, .int y1), (2, .int y2), (3, .int y3)] [] I L M := by
  refine S_iload_n 2 dX11_tape_31 rfl rfl ?_
  refine S_if_lt (tgt := 42) dX11_tape_32 (by decide) (fun q1 => ?_) (fun q1 => ?_)
  · exact S_sub [0, 1, 2, 3] rfl (T.1 q1)
  · refine S_iload_n 3 dX11_tape_35 rfl rfl ?_
    refine S_if_ge (tgt := 42) dX11_tape_36 (by decide) (fun q2 => ?_) (fun q2 => ?_)
    · exact S_sub [0, 1, 2, 3] rfl ((T.2 q1).1 q2)
    · refine S_bipush (v := -14) dX11_tape_39 (by decide) ?_
      exact S_ireti rfl dX11_tape_41 ⟨_, I, L, M, rfl, rfl, ((T.2 q1).2 q2)⟩

set_option maxRecDepth 100000 in
theorem t_X11_tape_42 {C : zC} {I : Nat → Nat → Int32} {L : Nat → Nat → Int64} {M : Nat → Nat → Option Nat} {h0 : zH} (d : Nat)   (y1 : Int32) (y2 : Int32) (y3 : Int32) (K : Int32 → (Nat → Nat → Int32) → (Nat → Nat → Int64) → (Nat → Nat → Option Nat) → Prop) (T : vp_in y1 6 ∧ ((0 ≤ y2 → vp_in y1 6 ∧ zSI C h0 K Y_X11_tape (d + 3) 67 [(0, .ref 265), (1, .int y1), (4, .int 0)] [] (u2 (u2 I 294 y1.toNatClampNeg y2) 295 y1.toNatClampNeg y3) L M) ∧ (¬ (0 ≤ y2) → vp_in y1 6 ∧ zSI C h0 K Y_X11_tape (d + 3) 67 [(0, .ref 265), (1, .int y1), (4, .int 0)] [] (u2 (u2 I 294 y1.toNatClampNeg y2) 295 y1.toNatClampNeg 0) L M))) : zSI C h0 K Y_X11_tape (d + 3) 42 [(0, .ref 265), (1, .int y1), (2, .int y2), (3, .int y3)] [] I L M := by
  refine S_aload_n 0 dX11_tape_42 rfl rfl ?_
  refine S_getP f_RX11_97 s_265 p_265_43 dX11_tape_43 ?_
  refine S_iload_n 1 dX11_tape_46 rfl rfl ?_
  refine S_iload_n 2 dX11_tape_47 rfl rfl ?_
  refine S_iast s_294 T.1 dX11_tape_48 ?_
  refine S_aload_n 0 dX11_tape_49 rfl rfl ?_
  refine S_getP f_RX11_100 s_265 p_265_44 dX11_tape_50 ?_
  refine S_iload_n 1 dX11_tape_53 rfl rfl ?_
  refine S_iload_n 2 dX11_tape_54 rfl rfl ?_
  refine S_if_ge (tgt := 62) dX11_tape_55 (by decide) (fun q1 => ?_) (fun q1 => ?_)
  · refine S_iload_n 3 dX11_tape_62 rfl rfl ?_
    refine S_iast s_295 (T.2.1 q1).1 dX11_tape_63 ?_
    refine S_iconst (v := 0) dX11_tape_64 (by decide) ?_
    refine S_istore dX11_tape_65 (by decide) rfl ?_
    exact S_sub [1, 2, 0] rfl (T.2.1 q1).2
  · refine S_iconst (v := 0) dX11_tape_58 (by decide) ?_
    refine S_goto (tgt := 63) dX11_tape_59 (by decide) ?_
    refine S_iast s_295 (T.2.2 q1).1 dX11_tape_63 ?_
    refine S_iconst (v := 0) dX11_tape_64 (by decide) ?_
    refine S_istore dX11_tape_65 (by decide) rfl ?_
    exact S_sub [1, 2, 0] rfl (T.2.2 q1).2

set_option maxRecDepth 100000 in
theorem t_X11_tape_67 {C : zC} {I : Nat → Nat → Int32} {L : Nat → Nat → Int64} {M : Nat → Nat → Option Nat} {h0 : zH} (d : Nat)   (y1 : Int32) (y4 : Int32) (K : Int32 → (Nat → Nat → Int32) → (Nat → Nat → Int64) → (Nat → Nat → Option Nat) → Prop) (T : ((60 ≤ y4 → K 1 I L M) ∧ (¬ (60 ≤ y4) → vp_in ((((60 : Int32) * y1) + y4)) 360 ∧ zSI C h0 K Y_X11_tape (d + 3) 67 [(0, .ref 265), (1, .int y1), (4, .int (y4 + 1))] [] I (u2 L 296 (((((60 : Int32) * y1) + y4)).toNatClampNeg) 0) M))) : zSI C h0 K Y_X11_tape (d + 3) 67 [(0, .ref 265), (1, .int y1), (4, .int y4)] [] I L M := by
  refine S_iload 2 dX11_tape_67 rfl ?_
  refine S_bipush (v := 60) dX11_tape_69 (by decide) ?_
  refine S_icmp_ge (tgt := 93) dX11_tape_71 (by decide) (fun q1 => ?_) (fun q1 => ?_)
  · refine S_iconst (v := 1) dX11_tape_93 (by decide) ?_
    exact S_ireti rfl dX11_tape_94 ⟨_, I, L, M, rfl, rfl, (T.1 q1)⟩
  · refine S_aload_n 0 dX11_tape_74 rfl rfl ?_
    refine S_getP f_RX11_103 s_265 p_265_45 dX11_tape_75 ?_
    refine S_bipush (v := 60) dX11_tape_78 (by decide) ?_
    refine S_iload_n 1 dX11_tape_80 rfl rfl ?_
    refine S_imul dX11_tape_81 ?_
    refine S_iload 2 dX11_tape_82 rfl ?_
    refine S_iadd dX11_tape_84 ?_
    refine S_lconst (v := 0) dX11_tape_85 (by decide) ?_
    refine S_last s_296 (T.2 q1).1 dX11_tape_86 ?_
    refine S_iinc 2 dX11_tape_87 rfl rfl (by decide) rfl ?_
    refine S_goto (tgt := 67) dX11_tape_90 (by decide) ?_
    exact S_sub [1, 2, 0] rfl (T.2 q1).2

set_option maxRecDepth 100000 in
theorem t_X11_tempts {C : zC} {I : Nat → Nat → Int32} {L : Nat → Nat → Int64} {M : Nat → Nat → Option Nat} (d : Nat) (x1 : Int32) (x2 : Int32)  (K : Int32 → (Nat → Nat → Int32) → (Nat → Nat → Int64) → (Nat → Nat → Option Nat) → Prop) (T : zCI C Y_X11_sum (d + 3) [.ref 265, .int x1, .int x2] (zmk I L M) (fun r1_1 I1_1 L1_1 M1_1 => ((¬ (x2 - x2 / 2 * 2) = 0 → zSI C (zmk I L M) K Y_X11_tempts (d + 4) 25 [(0, .ref 265), (1, .int x1), (2, .int x2), (3, .int r1_1)] [.int r1_1] I1_1 L1_1 M1_1) ∧ ((x2 - x2 / 2 * 2) = 0 → vp_in x1 6 ∧ zSI C (zmk I L M) K Y_X11_tempts (d + 4) 25 [(0, .ref 265), (1, .int x1), (2, .int x2), (3, .int r1_1)] [.int (r1_1 + (I1_1 269 x1.toNatClampNeg))] I1_1 L1_1 M1_1)))) : zCI C Y_X11_tempts (d + 4) [.ref 265, .int x1, .int x2] (zmk I L M) K := by
  refine S_enter (by decide) (Nat.le_of_ble_eq_true rfl) ?_
  refine S_lv (lv' := [(0, .ref 265), (1, .int x1), (2, .int x2)]) rfl ?_
  refine S_aload_n 0 dX11_tempts_0 rfl rfl ?_
  refine S_iload_n 1 dX11_tempts_1 rfl rfl ?_
  refine S_iload_n 2 dX11_tempts_2 rfl rfl ?_
  refine S_callV [.int x1, .int x2] [] m_RX11_231 rfl rfl s_265 ⟨rfl, by decide⟩ (Nat.le_of_ble_eq_true rfl) (zroom_0 (by decide)) dX11_tempts_3 (zCI_use T ?_)
  intro r1_1 I1_1 L1_1 M1_1 T1_1
  refine S_istore_n dX11_tempts_6 rfl (by decide) rfl ?_
  refine S_iload_n 3 dX11_tempts_7 rfl rfl ?_
  refine S_iconst (v := 2) dX11_tempts_8 (by decide) ?_
  refine S_irem dX11_tempts_9 (by decide) ?_
  refine S_if_ne (tgt := 24) dX11_tempts_10 (by decide) (fun q1 => ?_) (fun q1 => ?_)
  · refine S_iload_n 0 dX11_tempts_24 rfl rfl ?_
    exact S_sub [1, 2, 3, 0] rfl (T1_1.1 q1)
  · refine S_iload_n 0 dX11_tempts_13 rfl rfl ?_
    refine S_aload_n 1 dX11_tempts_14 rfl rfl ?_
    refine S_getP f_RX11_21 s_265 p_265_4 dX11_tempts_15 ?_
    refine S_iload_n 2 dX11_tempts_18 rfl rfl ?_
    refine S_iald s_269 (T1_1.2 q1).1 dX11_tempts_19 ?_
    refine S_iadd dX11_tempts_20 ?_
    refine S_goto (tgt := 25) dX11_tempts_21 (by decide) ?_
    exact S_sub [1, 2, 3, 0] rfl (T1_1.2 q1).2

set_option maxRecDepth 100000 in
theorem t_X11_tempts_25 {C : zC} {I : Nat → Nat → Int32} {L : Nat → Nat → Int64} {M : Nat → Nat → Option Nat} {h0 : zH} (d : Nat)   (y1 : Int32) (y2 : Int32) (y3 : Int32) (z0 : Int32) (K : Int32 → (Nat → Nat → Int32) → (Nat → Nat → Int64) → (Nat → Nat → Option Nat) → Prop) (T : vp_in y1 6 ∧ vp_in y2 12 ∧ (((I 269 y1.toNatClampNeg) ≤ (I 266 y2.toNatClampNeg) → zSI C h0 K Y_X11_tempts (d + 4) 47 [(0, .ref 265), (1, .int y1), (2, .int y2), (3, .int y3), (4, .int z0)] [.int y3] I L M) ∧ (¬ ((I 269 y1.toNatClampNeg) ≤ (I 266 y2.toNatClampNeg)) → zSI C h0 K Y_X11_tempts (d + 4) 47 [(0, .ref 265), (1, .int y1), (2, .int y2), (3, .int y3), (4, .int z0)] [.int 0] I L M))) : zSI C h0 K Y_X11_tempts (d + 4) 25 [(0, .ref 265), (1, .int y1), (2, .int y2), (3, .int y3)] [.int z0] I L M := by
  refine S_istore dX11_tempts_25 (by decide) rfl ?_
  refine S_aload_n 1 dX11_tempts_27 rfl rfl ?_
  refine S_getP f_RX11_21 s_265 p_265_4 dX11_tempts_28 ?_
  refine S_iload_n 2 dX11_tempts_31 rfl rfl ?_
  refine S_iald s_269 T.1 dX11_tempts_32 ?_
  refine S_aload_n 1 dX11_tempts_33 rfl rfl ?_
  refine S_getP f_RX11_9 s_265 p_265_0 dX11_tempts_34 ?_
  refine S_iload_n 3 dX11_tempts_37 rfl rfl ?_
  refine S_iald s_266 T.2.1 dX11_tempts_38 ?_
  refine S_icmp_le (tgt := 46) dX11_tempts_39 (by decide) (fun q1 => ?_) (fun q1 => ?_)
  · refine S_iload_n 4 dX11_tempts_46 rfl rfl ?_
    exact S_sub [1, 2, 3, 4, 0] rfl (T.2.2.1 q1)
  · refine S_iconst (v := 0) dX11_tempts_42 (by decide) ?_
    refine S_goto (tgt := 47) dX11_tempts_43 (by decide) ?_
    exact S_sub [1, 2, 3, 4, 0] rfl (T.2.2.2 q1)

set_option maxRecDepth 100000 in
theorem t_X11_tempts_47 {C : zC} {I : Nat → Nat → Int32} {L : Nat → Nat → Int64} {M : Nat → Nat → Option Nat} {h0 : zH} (d : Nat)   (y1 : Int32) (y2 : Int32) (y3 : Int32) (y4 : Int32) (z0 : Int32) (K : Int32 → (Nat → Nat → Int32) → (Nat → Nat → Int64) → (Nat → Nat → Option Nat) → Prop) (T : vp_in y1 6 ∧ (((I 268 y1.toNatClampNeg) = 1 → K y4 I L M) ∧ ((I 268 y1.toNatClampNeg) = 2 → K ((y3 / 2)) I L M) ∧ ((I 268 y1.toNatClampNeg) = 3 → K z0 I L M) ∧ ((I 268 y1.toNatClampNeg) = 4 → vp_in y1 6 ∧ ((¬ (zhas ((I 271 y1.toNatClampNeg)) y2) → K y4 I L M) ∧ ((zhas ((I 271 y1.toNatClampNeg)) y2) → K ((y4 - (10 : Int32))) I L M))) ∧ ((I 268 y1.toNatClampNeg) = 5 → K (((y3 / 2) + ((I 265 9) - (I 265 9) / 5 * 5))) I L M) ∧ ((I 268 y1.toNatClampNeg) = 6 → vp_in ((((4 : Int32) * y1) + (y2 - y2 / 4 * 4))) 24 ∧ K ((z0 + (I 273 (((((4 : Int32) * y1) + (y2 - y2 / 4 * 4))).toNatClampNeg)))) I L M) ∧ ((((I 268 y1.toNatClampNeg) : Int32).toInt < 1 ∨ 6 < ((I 268 y1.toNatClampNeg) : Int32).toInt) → K y3 I L M))) : zSI C h0 K Y_X11_tempts (d + 4) 47 [(0, .ref 265), (1, .int y1), (2, .int y2), (3, .int y3), (4, .int y4)] [.int z0] I L M := by
  refine S_istore dX11_tempts_47 (by decide) rfl ?_
  refine S_aload_n 1 dX11_tempts_49 rfl rfl ?_
  refine S_getP f_RX11_18 s_265 p_265_3 dX11_tempts_50 ?_
  refine S_iload_n 2 dX11_tempts_53 rfl rfl ?_
  refine S_iald s_268 T.1 dX11_tempts_54 ?_
  rcases ztab1_6 ((I 268 y1.toNatClampNeg)) with q1 | q1 | q1 | q1 | q1 | q1 | q1
  · refine S_tabK (tgt := 92) dX11_tempts_55 q1 (by decide) (by decide) (off := 37) rfl (by decide) ?_
    refine S_iload 5 dX11_tempts_92 rfl ?_
    exact S_ireti rfl dX11_tempts_94 ⟨_, I, L, M, rfl, rfl, (T.2.1 q1)⟩
  · refine S_tabK (tgt := 95) dX11_tempts_55 q1 (by decide) (by decide) (off := 40) rfl (by decide) ?_
    refine S_iload_n 4 dX11_tempts_95 rfl rfl ?_
    refine S_iconst (v := 2) dX11_tempts_96 (by decide) ?_
    refine S_idiv dX11_tempts_97 (by decide) ?_
    exact S_ireti rfl dX11_tempts_98 ⟨_, I, L, M, rfl, rfl, (T.2.2.1 q1)⟩
  · refine S_tabK (tgt := 99) dX11_tempts_55 q1 (by decide) (by decide) (off := 44) rfl (by decide) ?_
    refine S_iload 0 dX11_tempts_99 rfl ?_
    exact S_ireti rfl dX11_tempts_101 ⟨_, I, L, M, rfl, rfl, (T.2.2.2.1 q1)⟩
  · refine S_tabK (tgt := 102) dX11_tempts_55 q1 (by decide) (by decide) (off := 47) rfl (by decide) ?_
    refine S_aload_n 1 dX11_tempts_102 rfl rfl ?_
    refine S_getP f_RX11_27 s_265 p_265_6 dX11_tempts_103 ?_
    refine S_iload_n 2 dX11_tempts_106 rfl rfl ?_
    refine S_iald s_271 (T.2.2.2.2.1 q1).1 dX11_tempts_107 ?_
    refine S_iload_n 3 dX11_tempts_108 rfl rfl ?_
    refine S_callS [.int (I 271 y1.toNatClampNeg), .int y2] [] m_RX11_139 rfl rfl (Nat.le_of_ble_eq_true rfl) (zroom_0 (by decide)) dX11_tempts_109 (zpure (sp_X11_has (I := I) (L := L) (M := M) (d + 2) ((I 271 y1.toNatClampNeg)) y2) ?_)
    refine S_if_eq (tgt := 123) dX11_tempts_112 (by decide) (fun q2 => ?_) (fun q2 => ?_)
    · refine S_iload 5 dX11_tempts_123 rfl ?_
      exact S_ireti rfl dX11_tempts_125 ⟨_, I, L, M, rfl, rfl, ((T.2.2.2.2.1 q1).2.1 (zb_f q2))⟩
    · refine S_iload 5 dX11_tempts_115 rfl ?_
      refine S_bipush (v := 10) dX11_tempts_117 (by decide) ?_
      refine S_isub dX11_tempts_119 ?_
      refine S_goto (tgt := 125) dX11_tempts_120 (by decide) ?_
      exact S_ireti rfl dX11_tempts_125 ⟨_, I, L, M, rfl, rfl, ((T.2.2.2.2.1 q1).2.2 (zb_t q2))⟩
  · refine S_tabK (tgt := 126) dX11_tempts_55 q1 (by decide) (by decide) (off := 71) rfl (by decide) ?_
    refine S_iload_n 4 dX11_tempts_126 rfl rfl ?_
    refine S_iconst (v := 2) dX11_tempts_127 (by decide) ?_
    refine S_idiv dX11_tempts_128 (by decide) ?_
    refine S_aload_n 1 dX11_tempts_129 rfl rfl ?_
    refine S_getI f_RX11_221 s_265 dX11_tempts_130 ?_
    refine S_iconst (v := 5) dX11_tempts_133 (by decide) ?_
    refine S_irem dX11_tempts_134 (by decide) ?_
    refine S_iadd dX11_tempts_135 ?_
    exact S_ireti rfl dX11_tempts_136 ⟨_, I, L, M, rfl, rfl, (T.2.2.2.2.2.1 q1)⟩
  · refine S_tabK (tgt := 137) dX11_tempts_55 q1 (by decide) (by decide) (off := 82) rfl (by decide) ?_
    refine S_iload 0 dX11_tempts_137 rfl ?_
    refine S_aload_n 1 dX11_tempts_139 rfl rfl ?_
    refine S_getP f_RX11_33 s_265 p_265_8 dX11_tempts_140 ?_
    refine S_iconst (v := 4) dX11_tempts_143 (by decide) ?_
    refine S_iload_n 2 dX11_tempts_144 rfl rfl ?_
    refine S_imul dX11_tempts_145 ?_
    refine S_iload_n 3 dX11_tempts_146 rfl rfl ?_
    refine S_iconst (v := 4) dX11_tempts_147 (by decide) ?_
    refine S_irem dX11_tempts_148 (by decide) ?_
    refine S_iadd dX11_tempts_149 ?_
    refine S_iald s_273 (T.2.2.2.2.2.2.1 q1).1 dX11_tempts_150 ?_
    refine S_iadd dX11_tempts_151 ?_
    exact S_ireti rfl dX11_tempts_152 ⟨_, I, L, M, rfl, rfl, (T.2.2.2.2.2.2.1 q1).2⟩
  · refine S_tabOut (tgt := 153) dX11_tempts_55 q1 (by decide) ?_
    refine S_iload_n 4 dX11_tempts_153 rfl rfl ?_
    exact S_ireti rfl dX11_tempts_154 ⟨_, I, L, M, rfl, rfl, (T.2.2.2.2.2.2.2 q1)⟩

set_option maxRecDepth 100000 in
theorem t_X11_told {C : zC} {I : Nat → Nat → Int32} {L : Nat → Nat → Int64} {M : Nat → Nat → Option Nat} (d : Nat) (x1 : Int32)  (K : Int32 → (Nat → Nat → Int32) → (Nat → Nat → Int64) → (Nat → Nat → Option Nat) → Prop) (T : ((¬ (0 ≤ (x1 - (10 : Int32)) ∧ (x1 - (10 : Int32)) < 12) → ((¬ (0 ≤ (x1 - (30 : Int32)) ∧ (x1 - (30 : Int32)) < 12) → ((x1 = 0 → K ((I 265 9)) I L M) ∧ (x1 = 1 → zCI C Y_X11_keepOf (d + 3) [.ref 265] (zmk I L M) (fun r1_4 I1_4 L1_4 M1_4 => K r1_4 I1_4 L1_4 M1_4)) ∧ (x1 = 2 → zCI C Y_X11_allMean (d + 3) [.ref 265] (zmk I L M) (fun r2_4 I2_4 L2_4 M2_4 => K r2_4 I2_4 L2_4 M2_4)) ∧ (x1 = 3 → zCI C Y_X11_ring (d + 3) [.ref 265] (zmk I L M) (fun r3_4 I3_4 L3_4 M3_4 => K r3_4 I3_4 L3_4 M3_4)) ∧ (x1 = 4 → zCI C Y_X11_allIn (d + 3) [.ref 265] (zmk I L M) (fun r4_4 I4_4 L4_4 M4_4 => K r4_4 I4_4 L4_4 M4_4)) ∧ (((x1 : Int32).toInt < 0 ∨ 4 < (x1 : Int32).toInt) → K ((-1)) I L M))) ∧ ((0 ≤ (x1 - (30 : Int32)) ∧ (x1 - (30 : Int32)) < 12) → vp_in ((x1 - (30 : Int32))) 12 ∧ K ((I 266 (((x1 - (30 : Int32))).toNatClampNeg))) I L M))) ∧ ((0 ≤ (x1 - (10 : Int32)) ∧ (x1 - (10 : Int32)) < 12) → vp_in ((x1 - (10 : Int32))) 12 ∧ K ((I 267 (((x1 - (10 : Int32))).toNatClampNeg))) I L M))) : zCI C Y_X11_told (d + 4) [.ref 265, .int x1] (zmk I L M) K := by
  refine S_enter (by decide) (Nat.le_of_ble_eq_true rfl) ?_
  refine S_lv (lv' := [(0, .ref 265), (1, .int x1)]) rfl ?_
  refine S_iload_n 1 dX11_told_0 rfl rfl ?_
  refine S_bipush (v := 10) dX11_told_1 (by decide) ?_
  refine S_isub dX11_told_3 ?_
  refine S_callS [.int (x1 - (10 : Int32))] [] m_RX11_122 rfl rfl (Nat.le_of_ble_eq_true rfl) (zroom_0 (by decide)) dX11_told_4 (zpure (sp_X11_isPurpose (I := I) (L := L) (M := M) (d + 1) ((x1 - (10 : Int32)))) ?_)
  refine S_if_eq (tgt := 20) dX11_told_7 (by decide) (fun q1 => ?_) (fun q1 => ?_)
  · refine S_iload_n 1 dX11_told_20 rfl rfl ?_
    refine S_bipush (v := 30) dX11_told_21 (by decide) ?_
    refine S_isub dX11_told_23 ?_
    refine S_callS [.int (x1 - (30 : Int32))] [] m_RX11_122 rfl rfl (Nat.le_of_ble_eq_true rfl) (zroom_0 (by decide)) dX11_told_24 (zpure (sp_X11_isPurpose (I := I) (L := L) (M := M) (d + 1) ((x1 - (30 : Int32)))) ?_)
    refine S_if_eq (tgt := 40) dX11_told_27 (by decide) (fun q2 => ?_) (fun q2 => ?_)
    · refine S_iload_n 1 dX11_told_40 rfl rfl ?_
      rcases ztab0_5 x1 with q3 | q3 | q3 | q3 | q3 | q3
      · refine S_tabK (tgt := 76) dX11_told_41 q3 (by decide) (by decide) (off := 35) rfl (by decide) ?_
        refine S_aload_n 0 dX11_told_76 rfl rfl ?_
        refine S_getI f_RX11_221 s_265 dX11_told_77 ?_
        exact S_ireti rfl dX11_told_80 ⟨_, I, L, M, rfl, rfl, (((T.1 (zb_f q1)).1 (zb_f q2)).1 q3)⟩
      · refine S_tabK (tgt := 81) dX11_told_41 q3 (by decide) (by decide) (off := 40) rfl (by decide) ?_
        refine S_aload_n 0 dX11_told_81 rfl rfl ?_
        refine S_callV [] [] m_RX11_239 rfl rfl s_265 ⟨rfl, by decide⟩ (Nat.le_of_ble_eq_true rfl) (zroom_0 (by decide)) dX11_told_82 (zCI_use (((T.1 (zb_f q1)).1 (zb_f q2)).2.1 q3) ?_)
        intro r1_4 I1_4 L1_4 M1_4 T1_4
        exact S_ireti rfl dX11_told_85 ⟨_, I1_4, L1_4, M1_4, rfl, rfl, T1_4⟩
      · refine S_tabK (tgt := 86) dX11_told_41 q3 (by decide) (by decide) (off := 45) rfl (by decide) ?_
        refine S_aload_n 0 dX11_told_86 rfl rfl ?_
        refine S_callV [] [] m_RX11_257 rfl rfl s_265 ⟨rfl, by decide⟩ (Nat.le_of_ble_eq_true rfl) (zroom_0 (by decide)) dX11_told_87 (zCI_use (((T.1 (zb_f q1)).1 (zb_f q2)).2.2.1 q3) ?_)
        intro r2_4 I2_4 L2_4 M2_4 T2_4
        exact S_ireti rfl dX11_told_90 ⟨_, I2_4, L2_4, M2_4, rfl, rfl, T2_4⟩
      · refine S_tabK (tgt := 91) dX11_told_41 q3 (by decide) (by decide) (off := 50) rfl (by decide) ?_
        refine S_aload_n 0 dX11_told_91 rfl rfl ?_
        refine S_callV [] [] m_RX11_260 rfl rfl s_265 ⟨rfl, by decide⟩ (Nat.le_of_ble_eq_true rfl) (zroom_0 (by decide)) dX11_told_92 (zCI_use (((T.1 (zb_f q1)).1 (zb_f q2)).2.2.2.1 q3) ?_)
        intro r3_4 I3_4 L3_4 M3_4 T3_4
        exact S_ireti rfl dX11_told_95 ⟨_, I3_4, L3_4, M3_4, rfl, rfl, T3_4⟩
      · refine S_tabK (tgt := 96) dX11_told_41 q3 (by decide) (by decide) (off := 55) rfl (by decide) ?_
        refine S_aload_n 0 dX11_told_96 rfl rfl ?_
        refine S_callV [] [] m_RX11_263 rfl rfl s_265 ⟨rfl, by decide⟩ (Nat.le_of_ble_eq_true rfl) (zroom_0 (by decide)) dX11_told_97 (zCI_use (((T.1 (zb_f q1)).1 (zb_f q2)).2.2.2.2.1 q3) ?_)
        intro r4_4 I4_4 L4_4 M4_4 T4_4
        exact S_ireti rfl dX11_told_100 ⟨_, I4_4, L4_4, M4_4, rfl, rfl, T4_4⟩
      · refine S_tabOut (tgt := 101) dX11_told_41 q3 (by decide) ?_
        refine S_iconst (v := -1) dX11_told_101 (by decide) ?_
        exact S_ireti rfl dX11_told_102 ⟨_, I, L, M, rfl, rfl, (((T.1 (zb_f q1)).1 (zb_f q2)).2.2.2.2.2 q3)⟩
    · refine S_aload_n 0 dX11_told_30 rfl rfl ?_
      refine S_getP f_RX11_9 s_265 p_265_0 dX11_told_31 ?_
      refine S_iload_n 1 dX11_told_34 rfl rfl ?_
      refine S_bipush (v := 30) dX11_told_35 (by decide) ?_
      refine S_isub dX11_told_37 ?_
      refine S_iald s_266 ((T.1 (zb_f q1)).2 (zb_t q2)).1 dX11_told_38 ?_
      exact S_ireti rfl dX11_told_39 ⟨_, I, L, M, rfl, rfl, ((T.1 (zb_f q1)).2 (zb_t q2)).2⟩
  · refine S_aload_n 0 dX11_told_10 rfl rfl ?_
    refine S_getP f_RX11_15 s_265 p_265_1 dX11_told_11 ?_
    refine S_iload_n 1 dX11_told_14 rfl rfl ?_
    refine S_bipush (v := 10) dX11_told_15 (by decide) ?_
    refine S_isub dX11_told_17 ?_
    refine S_iald s_267 (T.2 (zb_t q1)).1 dX11_told_18 ?_
    exact S_ireti rfl dX11_told_19 ⟨_, I, L, M, rfl, rfl, (T.2 (zb_t q1)).2⟩

set_option maxRecDepth 100000 in
theorem t_X11_undo {C : zC} {I : Nat → Nat → Int32} {L : Nat → Nat → Int64} {M : Nat → Nat → Option Nat} (d : Nat)   (K : Int32 → (Nat → Nat → Int32) → (Nat → Nat → Int64) → (Nat → Nat → Option Nat) → Prop) (T : ((¬ (I 265 39) = 0 → zCV C Y_X11_again (d + 1) [.ref 265, .ref 291] (zmk I L M) (fun I1_2 L1_2 M1_2 => K ((I1_2 265 2)) I1_2 L1_2 M1_2)) ∧ ((I 265 39) = 0 → K ((-3)) I L M))) : zCI C Y_X11_undo (d + 2) [.ref 265] (zmk I L M) K := by
  refine S_enter (by decide) (Nat.le_of_ble_eq_true rfl) ?_
  refine S_lv (lv' := [(0, .ref 265)]) rfl ?_
  refine S_aload_n 0 dX11_undo_0 rfl rfl ?_
  refine S_getI f_RX11_310 s_265 dX11_undo_1 ?_
  refine S_if_ne (tgt := 10) dX11_undo_4 (by decide) (fun q1 => ?_) (fun q1 => ?_)
  · refine S_aload_n 0 dX11_undo_10 rfl rfl ?_
    refine S_aload_n 0 dX11_undo_11 rfl rfl ?_
    refine S_getP f_RX11_88 s_265 p_265_40 dX11_undo_12 ?_
    refine S_callV [.ref 291] [] m_RX11_273 rfl rfl s_265 ⟨rfl, by decide⟩ (Nat.le_of_ble_eq_true rfl) (zroom_0 (by decide)) dX11_undo_15 (zCV_use (T.1 q1) ?_)
    intro I1_2 L1_2 M1_2 T1_2
    refine S_aload_n 0 dX11_undo_18 rfl rfl ?_
    refine S_getI f_RX11_111 s_265 dX11_undo_19 ?_
    exact S_ireti rfl dX11_undo_22 ⟨_, I1_2, L1_2, M1_2, rfl, rfl, T1_2⟩
  · refine S_bipush (v := -3) dX11_undo_7 (by decide) ?_
    exact S_ireti rfl dX11_undo_9 ⟨_, I, L, M, rfl, rfl, (T.2 q1)⟩

set_option maxRecDepth 100000 in
theorem t_X11_weight {C : zC} {I : Nat → Nat → Int32} {L : Nat → Nat → Int64} {M : Nat → Nat → Option Nat} (d : Nat) (x1 : Int32) (x2 : Int32)  (K : Int32 → (Nat → Nat → Int32) → (Nat → Nat → Int64) → (Nat → Nat → Option Nat) → Prop) (T : (((0 ≤ x1 ∧ x1 < 12) → ((((0 : Int32) ≤ x2 ∧ x2 ≤ 9) → vp_in x1 12 ∧ vp_in x1 12 ∧ K ((I 266 x1.toNatClampNeg)) (u2 I 266 x1.toNatClampNeg x2) L M) ∧ (¬ ((0 : Int32) ≤ x2 ∧ x2 ≤ 9) → K ((-2)) I L M))) ∧ (¬ (0 ≤ x1 ∧ x1 < 12) → K ((-1)) I L M))) : zCI C Y_X11_weight (d + 3) [.ref 265, .int x1, .int x2] (zmk I L M) K := by
  refine S_enter (by decide) (Nat.le_of_ble_eq_true rfl) ?_
  refine S_lv (lv' := [(0, .ref 265), (1, .int x1), (2, .int x2)]) rfl ?_
  refine S_iload_n 1 dX11_weight_0 rfl rfl ?_
  refine S_callS [.int x1] [] m_RX11_122 rfl rfl (Nat.le_of_ble_eq_true rfl) (zroom_0 (by decide)) dX11_weight_1 (zpure (sp_X11_isPurpose (I := I) (L := L) (M := M) (d + 0) x1) ?_)
  refine S_if_ne (tgt := 9) dX11_weight_4 (by decide) (fun q1 => ?_) (fun q1 => ?_)
  · refine S_iload_n 2 dX11_weight_9 rfl rfl ?_
    refine S_iconst (v := 0) dX11_weight_10 (by decide) ?_
    refine S_bipush (v := 9) dX11_weight_11 (by decide) ?_
    refine S_callS [.int x2, .int 0, .int 9] [] m_RX11_114 rfl rfl (Nat.le_of_ble_eq_true rfl) (zroom_0 (by decide)) dX11_weight_13 (zpure (sp_X11_within (I := I) (L := L) (M := M) (d + 1) x2 0 9) ?_)
    refine S_if_ne (tgt := 22) dX11_weight_16 (by decide) (fun q2 => ?_) (fun q2 => ?_)
    · refine S_aload_n 0 dX11_weight_22 rfl rfl ?_
      refine S_getP f_RX11_9 s_265 p_265_0 dX11_weight_23 ?_
      refine S_iload_n 1 dX11_weight_26 rfl rfl ?_
      refine S_iald s_266 ((T.1 (zb_t q1)).1 (zb_t q2)).1 dX11_weight_27 ?_
      refine S_istore_n dX11_weight_28 rfl (by decide) rfl ?_
      refine S_aload_n 1 dX11_weight_29 rfl rfl ?_
      refine S_getP f_RX11_9 s_265 p_265_0 dX11_weight_30 ?_
      refine S_iload_n 2 dX11_weight_33 rfl rfl ?_
      refine S_iload_n 3 dX11_weight_34 rfl rfl ?_
      refine S_iast s_266 ((T.1 (zb_t q1)).1 (zb_t q2)).2.1 dX11_weight_35 ?_
      refine S_iload_n 0 dX11_weight_36 rfl rfl ?_
      exact S_ireti rfl dX11_weight_37 ⟨_, u2 I 266 x1.toNatClampNeg x2, L, M, rfl, rfl, ((T.1 (zb_t q1)).1 (zb_t q2)).2.2⟩
    · refine S_bipush (v := -2) dX11_weight_19 (by decide) ?_
      exact S_ireti rfl dX11_weight_21 ⟨_, I, L, M, rfl, rfl, ((T.1 (zb_t q1)).2 (zb_f q2))⟩
  · refine S_iconst (v := -1) dX11_weight_7 (by decide) ?_
    exact S_ireti rfl dX11_weight_8 ⟨_, I, L, M, rfl, rfl, (T.2 (zb_f q1))⟩

