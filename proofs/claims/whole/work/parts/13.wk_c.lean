set_option maxRecDepth 100000 in
theorem t_X10_act {C : zC} {I : Nat → Nat → Int32} {L : Nat → Nat → Int64} {M : Nat → Nat → Option Nat} (d : Nat) (x1 : Int32) (x2 : Int32) (x3 : Int32)  (K : Int32 → (Nat → Nat → Int32) → (Nat → Nat → Int64) → (Nat → Nat → Option Nat) → Prop) (T : ((¬ (0 ≤ x1 ∧ x1 < I 3 3) → K 0 (u2 I 148 1 0) L M) ∧ ((0 ≤ x1 ∧ x1 < I 3 3) → (((0 ≤ x2 ∧ x2 < 3) → vp_in x1 6 ∧ zCI C Y_X8_plays (d + 2) [.ref 148, .ref (3 + 33 + 2 * x1.toNatClampNeg), .int x2, .int x3] (zmk I L M) (fun r1_3 I1_3 L1_3 M1_3 => K r1_3 I1_3 L1_3 M1_3)) ∧ (¬ (0 ≤ x2 ∧ x2 < 3) → K 0 (u2 I 148 1 0) L M))))) : zCI C Y_X10_act (d + 3) [.ref 0, .int x1, .int x2, .int x3] (zmk I L M) K := by
  refine S_enter (by decide) (Nat.le_of_ble_eq_true rfl) ?_
  refine S_lv (lv' := [(0, .ref 0), (1, .int x1), (2, .int x2), (3, .int x3)]) rfl ?_
  refine S_aload_n 0 dX10_act_0 rfl rfl ?_
  refine S_iload_n 1 dX10_act_1 rfl rfl ?_
  refine S_callV [.int x1] [] m_RX10_105 rfl rfl s_0 ⟨rfl, by decide⟩ (Nat.le_of_ble_eq_true rfl) (zroom_0 (by decide)) dX10_act_2 (zpure (sp_X10_isGuest (I := I) (L := L) (M := M) (d + 0) x1) ?_)
  refine S_if_eq (tgt := 16) dX10_act_5 (by decide) (fun q1 => ?_) (fun q1 => ?_)
  · refine S_aload_n 0 dX10_act_16 rfl rfl ?_
    refine S_getP f_RX10_67 s_0 p_0_11 dX10_act_17 ?_
    refine S_iconst (v := 0) dX10_act_20 (by decide) ?_
    refine S_putI f_RX10_283 s_148 (Or.inl rfl) rfl dX10_act_21 ?_
    refine S_iconst (v := 0) dX10_act_24 (by decide) ?_
    exact S_ireti rfl dX10_act_25 ⟨_, u2 I 148 1 0, L, M, rfl, rfl, (T.1 (zb_f q1))⟩
  · refine S_iload_n 2 dX10_act_8 rfl rfl ?_
    refine S_iconst (v := 3) dX10_act_9 (by decide) ?_
    refine S_callS [.int x2, .int 3] [] m_RX10_85 rfl rfl (Nat.le_of_ble_eq_true rfl) (zroom_0 (by decide)) dX10_act_10 (zpure (sp_X10_isBelow (I := I) (L := L) (M := M) (d + 1) x2 3) ?_)
    refine S_if_ne (tgt := 26) dX10_act_13 (by decide) (fun q2 => ?_) (fun q2 => ?_)
    · refine S_aload_n 0 dX10_act_26 rfl rfl ?_
      refine S_getP f_RX10_67 s_0 p_0_11 dX10_act_27 ?_
      refine S_aload_n 0 dX10_act_30 rfl rfl ?_
      refine S_getP f_RX10_23 s_0 p_0_1 dX10_act_31 ?_
      refine S_getP f_RX10_77 (sI i0) (pI_g i0) dX10_act_34 ?_
      refine S_iload_n 1 dX10_act_37 rfl rfl ?_
      refine S_aald 1 (by decide) (sI_g i0) ((T.2 (zb_t q1)).1 (zb_t q2)).1 ((gI_p i0) _ (vp_lt ((T.2 (zb_t q1)).1 (zb_t q2)).1)) dX10_act_38 ?_
      refine S_iload_n 2 dX10_act_39 rfl rfl ?_
      refine S_iload_n 3 dX10_act_40 rfl rfl ?_
      refine S_callV [.ref (3 + 33 + 2 * x1.toNatClampNeg), .int x2, .int x3] [] m_RX10_286 rfl rfl s_148 ⟨rfl, by decide⟩ (Nat.le_of_ble_eq_true rfl) (zroom_0 (by decide)) dX10_act_41 (zCI_use ((T.2 (zb_t q1)).1 (zb_t q2)).2 ?_)
      intro r1_3 I1_3 L1_3 M1_3 T1_3
      exact S_ireti rfl dX10_act_44 ⟨_, I1_3, L1_3, M1_3, rfl, rfl, T1_3⟩
    · refine S_aload_n 0 dX10_act_16 rfl rfl ?_
      refine S_getP f_RX10_67 s_0 p_0_11 dX10_act_17 ?_
      refine S_iconst (v := 0) dX10_act_20 (by decide) ?_
      refine S_putI f_RX10_283 s_148 (Or.inl rfl) rfl dX10_act_21 ?_
      refine S_iconst (v := 0) dX10_act_24 (by decide) ?_
      exact S_ireti rfl dX10_act_25 ⟨_, u2 I 148 1 0, L, M, rfl, rfl, ((T.2 (zb_t q1)).2 (zb_f q2))⟩

set_option maxRecDepth 100000 in
theorem t_X10_backTo {C : zC} {I : Nat → Nat → Int32} {L : Nat → Nat → Int64} {M : Nat → Nat → Option Nat} (d : Nat) {o1 : Nat} (ho1 : zGu o1) (K : Int32 → (Nat → Nat → Int32) → (Nat → Nat → Int64) → (Nat → Nat → Option Nat) → Prop) (T : zCI C Y_X2_inCellar (d + 1) [.ref 3] (zmk I L M) (fun r1_1 I1_1 L1_1 M1_1 => zSI C (zmk I L M) K Y_X10_backTo (d + 2) 10 [(0, .ref 0), (1, .ref o1), (2, .int r1_1), (3, .int 0)] [] I1_1 L1_1 M1_1)) : zCI C Y_X10_backTo (d + 2) [.ref 0, .ref o1] (zmk I L M) K := by
  refine S_enter (by decide) (Nat.le_of_ble_eq_true rfl) ?_
  refine S_lv (lv' := [(0, .ref 0), (1, .ref o1)]) rfl ?_
  refine S_aload_n 0 dX10_backTo_0 rfl rfl ?_
  refine S_getP f_RX10_23 s_0 p_0_1 dX10_backTo_1 ?_
  refine S_callV [] [] m_RX10_325 rfl rfl (sI i0) ⟨rfl, by decide⟩ (Nat.le_of_ble_eq_true rfl) (zroom_0 (by decide)) dX10_backTo_4 (zCI_use T ?_)
  intro r1_1 I1_1 L1_1 M1_1 T1_1
  refine S_istore_n dX10_backTo_7 rfl (by decide) rfl ?_
  refine S_iconst (v := 0) dX10_backTo_8 (by decide) ?_
  refine S_istore_n dX10_backTo_9 rfl (by decide) rfl ?_
  exact S_sub [2, 3, 1, 0] rfl T1_1

set_option maxRecDepth 100000 in
theorem t_X10_backTo_10 {C : zC} {I : Nat → Nat → Int32} {L : Nat → Nat → Int64} {M : Nat → Nat → Option Nat} {h0 : zH} (d : Nat) {o1 : Nat} (ho1 : zGu o1)  (y2 : Int32) (y3 : Int32) (K : Int32 → (Nat → Nat → Int32) → (Nat → Nat → Int64) → (Nat → Nat → Option Nat) → Prop) (T : (((I 3 3) ≤ y3 → K ((y2 &&& ((I o1 4) &&& ((I o1 3) ^^^ (-1))))) I L M) ∧ (¬ ((I 3 3) ≤ y3) → vp_in y3 6 ∧ zSI C h0 K Y_X10_backTo (d + 2) 10 [(0, .ref 0), (1, .ref o1), (2, .int (y2 ||| (I ((3 + 33 + 2 * y3.toNatClampNeg)) 3))), (3, .int (y3 + 1))] [] I L M))) : zSI C h0 K Y_X10_backTo (d + 2) 10 [(0, .ref 0), (1, .ref o1), (2, .int y2), (3, .int y3)] [] I L M := by
  refine S_iload_n 3 dX10_backTo_10 rfl rfl ?_
  refine S_aload_n 0 dX10_backTo_11 rfl rfl ?_
  refine S_getP f_RX10_23 s_0 p_0_1 dX10_backTo_12 ?_
  refine S_getI f_RX10_92 (sI i0) dX10_backTo_15 ?_
  refine S_icmp_ge (tgt := 42) dX10_backTo_18 (by decide) (fun q1 => ?_) (fun q1 => ?_)
  · refine S_iload_n 2 dX10_backTo_42 rfl rfl ?_
    refine S_aload_n 1 dX10_backTo_43 rfl rfl ?_
    refine S_callV [] [.int y2] m_RX10_153 rfl rfl ho1.1 ⟨rfl, by decide⟩ (Nat.le_of_ble_eq_true rfl) (zroom_0 (by decide)) dX10_backTo_44 (zpure (sp_X0_missed (I := I) (L := L) (M := M) (d + 0) ho1) ?_)
    refine S_iand dX10_backTo_47 ?_
    exact S_ireti rfl dX10_backTo_48 ⟨_, I, L, M, rfl, rfl, (T.1 q1)⟩
  · refine S_iload_n 2 dX10_backTo_21 rfl rfl ?_
    refine S_aload_n 0 dX10_backTo_22 rfl rfl ?_
    refine S_getP f_RX10_23 s_0 p_0_1 dX10_backTo_23 ?_
    refine S_getP f_RX10_77 (sI i0) (pI_g i0) dX10_backTo_26 ?_
    refine S_iload_n 3 dX10_backTo_29 rfl rfl ?_
    refine S_aald 1 (by decide) (sI_g i0) (T.2 q1).1 ((gI_p i0) _ (vp_lt (T.2 q1).1)) dX10_backTo_30 ?_
    refine S_getI f_RX10_115 ((gI i0) _ (vp_lt (T.2 q1).1)).1 dX10_backTo_31 ?_
    refine S_ior dX10_backTo_34 ?_
    refine S_istore_n dX10_backTo_35 rfl (by decide) rfl ?_
    refine S_iinc 3 dX10_backTo_36 rfl rfl (by decide) rfl ?_
    refine S_goto (tgt := 10) dX10_backTo_39 (by decide) ?_
    exact S_sub [2, 3, 1, 0] rfl (T.2 q1).2

set_option maxRecDepth 100000 in
theorem t_X10_behind {C : zC} {I : Nat → Nat → Int32} {L : Nat → Nat → Int64} {M : Nat → Nat → Option Nat} (d : Nat) (x1 : Int32)  (K : Nat → (Nat → Nat → Int32) → (Nat → Nat → Int64) → (Nat → Nat → Option Nat) → Prop) (T : zCV C Y_X2_goOnFrom (d + 5) [.ref 93, .ref 3] (zmk I L M) (fun I1_1 L1_1 M1_1 => zCV C Y_X10_settle (d + 5) [.ref 0, .ref 93] (zmk I1_1 L1_1 M1_1) (fun I2_1 L2_1 M2_1 => zSR C (zmk I L M) K Y_X10_behind (d + 6) 21 [(0, .ref 0), (1, .int x1), (2, .int 0)] [] I2_1 L2_1 M2_1))) : zCR C Y_X10_behind (d + 6) [.ref 0, .int x1] (zmk I L M) K := by
  refine S_enter (by decide) (Nat.le_of_ble_eq_true rfl) ?_
  refine S_lv (lv' := [(0, .ref 0), (1, .int x1)]) rfl ?_
  refine S_aload_n 0 dX10_behind_0 rfl rfl ?_
  refine S_getP f_RX10_30 s_0 p_0_3 dX10_behind_1 ?_
  refine S_aload_n 0 dX10_behind_4 rfl rfl ?_
  refine S_getP f_RX10_23 s_0 p_0_1 dX10_behind_5 ?_
  refine S_callV [.ref 3] [] m_RX10_250 rfl rfl (sI i2) ⟨rfl, by decide⟩ (Nat.le_of_ble_eq_true rfl) (zroom_0 (by decide)) dX10_behind_8 (zCV_use T ?_)
  intro I1_1 L1_1 M1_1 T1_1
  refine S_aload_n 0 dX10_behind_11 rfl rfl ?_
  refine S_aload_n 0 dX10_behind_12 rfl rfl ?_
  refine S_getP f_RX10_30 s_0 p_0_3 dX10_behind_13 ?_
  refine S_callV [.ref 93] [] m_RX10_198 rfl rfl s_0 ⟨rfl, by decide⟩ (Nat.le_of_ble_eq_true rfl) (zroom_0 (by decide)) dX10_behind_16 (zCV_use T1_1 ?_)
  intro I2_1 L2_1 M2_1 T2_1
  refine S_iconst (v := 0) dX10_behind_19 (by decide) ?_
  refine S_istore_n dX10_behind_20 rfl (by decide) rfl ?_
  exact S_sub [1, 2, 0] rfl T2_1

set_option maxRecDepth 100000 in
theorem t_X10_behind_21 {C : zC} {I : Nat → Nat → Int32} {L : Nat → Nat → Int64} {M : Nat → Nat → Option Nat} {h0 : zH} (d : Nat)   (y1 : Int32) (y2 : Int32) (K : Nat → (Nat → Nat → Int32) → (Nat → Nat → Int64) → (Nat → Nat → Option Nat) → Prop) (T : ((y1 ≤ y2 → K 93 I L M) ∧ (¬ (y1 ≤ y2) → zCV C Y_X10_goNight (d + 5) [.ref 0, .ref 93] (zmk I L M) (fun I1_2 L1_2 M1_2 => zSR C h0 K Y_X10_behind (d + 6) 21 [(0, .ref 0), (1, .int y1), (2, .int (y2 + 1))] [] I1_2 L1_2 M1_2)))) : zSR C h0 K Y_X10_behind (d + 6) 21 [(0, .ref 0), (1, .int y1), (2, .int y2)] [] I L M := by
  refine S_iload_n 2 dX10_behind_21 rfl rfl ?_
  refine S_iload_n 1 dX10_behind_22 rfl rfl ?_
  refine S_icmp_ge (tgt := 40) dX10_behind_23 (by decide) (fun q1 => ?_) (fun q1 => ?_)
  · refine S_aload_n 0 dX10_behind_40 rfl rfl ?_
    refine S_getP f_RX10_30 s_0 p_0_3 dX10_behind_41 ?_
    exact S_aret rfl (Or.inl ⟨_, rfl⟩) dX10_behind_44 ⟨_, I, L, M, rfl, rfl, (T.1 q1)⟩
  · refine S_aload_n 0 dX10_behind_26 rfl rfl ?_
    refine S_aload_n 0 dX10_behind_27 rfl rfl ?_
    refine S_getP f_RX10_30 s_0 p_0_3 dX10_behind_28 ?_
    refine S_callV [.ref 93] [] m_RX10_202 rfl rfl s_0 ⟨rfl, by decide⟩ (Nat.le_of_ble_eq_true rfl) (zroom_0 (by decide)) dX10_behind_31 (zCV_use (T.2 q1) ?_)
    intro I1_2 L1_2 M1_2 T1_2
    refine S_iinc 2 dX10_behind_34 rfl rfl (by decide) rfl ?_
    refine S_goto (tgt := 21) dX10_behind_37 (by decide) ?_
    exact S_sub [1, 2, 0] rfl T1_2

set_option maxRecDepth 100000 in
theorem t_X10_book {C : zC} {I : Nat → Nat → Int32} {L : Nat → Nat → Int64} {M : Nat → Nat → Option Nat} (d : Nat) (x1 : Int32) (x2 : Int32)  (K : Int32 → (Nat → Nat → Int32) → (Nat → Nat → Int64) → (Nat → Nat → Option Nat) → Prop) (T : ((¬ x1 = (-1) → (((0 ≤ x1 ∧ x1 < 12) → (((0 ≤ x2 ∧ x2 ≤ 99) → zCI C Y_X6_add (d + 2) [.ref 26, .int x1, .int x2, .int 0, .int 0] (zmk I L M) (fun r1_4 I1_4 L1_4 M1_4 => K r1_4 I1_4 L1_4 M1_4)) ∧ (¬ (0 ≤ x2 ∧ x2 ≤ 99) → K ((-2)) I L M))) ∧ (¬ (0 ≤ x1 ∧ x1 < 12) → K ((-1)) I L M))) ∧ (x1 = (-1) → K 0 (u2 I 26 1 0) L M))) : zCI C Y_X10_book (d + 3) [.ref 0, .int x1, .int x2] (zmk I L M) K := by
  refine S_enter (by decide) (Nat.le_of_ble_eq_true rfl) ?_
  refine S_lv (lv' := [(0, .ref 0), (1, .int x1), (2, .int x2)]) rfl ?_
  refine S_iload_n 1 dX10_book_0 rfl rfl ?_
  refine S_iconst (v := -1) dX10_book_1 (by decide) ?_
  refine S_icmp_ne (tgt := 18) dX10_book_2 (by decide) (fun q1 => ?_) (fun q1 => ?_)
  · refine S_iload_n 1 dX10_book_18 rfl rfl ?_
    refine S_callS [.int x1] [] m_RX10_143 rfl rfl (Nat.le_of_ble_eq_true rfl) (zroom_0 (by decide)) dX10_book_19 (zpure (sp_X10_isPurpose (I := I) (L := L) (M := M) (d + 0) x1) ?_)
    refine S_if_ne (tgt := 27) dX10_book_22 (by decide) (fun q2 => ?_) (fun q2 => ?_)
    · refine S_iload_n 2 dX10_book_27 rfl rfl ?_
      refine S_bipush (v := 99) dX10_book_28 (by decide) ?_
      refine S_callS [.int x2, .int 99] [] m_RX10_89 rfl rfl (Nat.le_of_ble_eq_true rfl) (zroom_0 (by decide)) dX10_book_30 (zpure (sp_X10_isWithin (I := I) (L := L) (M := M) (d + 1) x2 99) ?_)
      refine S_if_ne (tgt := 39) dX10_book_33 (by decide) (fun q3 => ?_) (fun q3 => ?_)
      · refine S_aload_n 0 dX10_book_39 rfl rfl ?_
        refine S_getP f_RX10_23 s_0 p_0_1 dX10_book_40 ?_
        refine S_getP f_RX10_264 (sI i0) (pI_k i0) dX10_book_43 ?_
        refine S_iload_n 1 dX10_book_46 rfl rfl ?_
        refine S_iload_n 2 dX10_book_47 rfl rfl ?_
        refine S_iconst (v := 0) dX10_book_48 (by decide) ?_
        refine S_iconst (v := 0) dX10_book_49 (by decide) ?_
        refine S_callV [.int x1, .int x2, .int 0, .int 0] [] m_RX10_225 rfl rfl (rI_k i0).1 ⟨rfl, by decide⟩ (Nat.le_of_ble_eq_true rfl) (zroom_0 (by decide)) dX10_book_50 (zCI_use (((T.1 q1).1 (zb_t q2)).1 (zb_t q3)) ?_)
        intro r1_4 I1_4 L1_4 M1_4 T1_4
        exact S_ireti rfl dX10_book_53 ⟨_, I1_4, L1_4, M1_4, rfl, rfl, T1_4⟩
      · refine S_bipush (v := -2) dX10_book_36 (by decide) ?_
        exact S_ireti rfl dX10_book_38 ⟨_, I, L, M, rfl, rfl, (((T.1 q1).1 (zb_t q2)).2 (zb_f q3))⟩
    · refine S_iconst (v := -1) dX10_book_25 (by decide) ?_
      exact S_ireti rfl dX10_book_26 ⟨_, I, L, M, rfl, rfl, ((T.1 q1).2 (zb_f q2))⟩
  · refine S_aload_n 0 dX10_book_5 rfl rfl ?_
    refine S_getP f_RX10_23 s_0 p_0_1 dX10_book_6 ?_
    refine S_getP f_RX10_264 (sI i0) (pI_k i0) dX10_book_9 ?_
    refine S_iconst (v := 0) dX10_book_12 (by decide) ?_
    refine S_putI f_RX10_220 (rI_k i0).1 (Or.inl rfl) rfl dX10_book_13 ?_
    refine S_iconst (v := 0) dX10_book_16 (by decide) ?_
    exact S_ireti rfl dX10_book_17 ⟨_, u2 I 26 1 0, L, M, rfl, rfl, (T.2 q1)⟩

set_option maxRecDepth 100000 in
theorem t_X10_can {C : zC} {I : Nat → Nat → Int32} {L : Nat → Nat → Int64} {M : Nat → Nat → Option Nat} (d : Nat) (x1 : Int32) (x2 : Int32)  (K : Int32 → (Nat → Nat → Int32) → (Nat → Nat → Int64) → (Nat → Nat → Option Nat) → Prop) (T : ((¬ (0 ≤ x1 ∧ x1 < I 3 3) → K ((-1)) I L M) ∧ ((0 ≤ x1 ∧ x1 < I 3 3) → (((0 ≤ x2 ∧ x2 < 2) → vp_in x1 6 ∧ vp_in x1 6 ∧ zCV C Y_X0_become (d + 5) [.ref (93 + 33 + 2 * x1.toNatClampNeg), .ref (3 + 33 + 2 * x1.toNatClampNeg)] (zmk I L M) (fun I1_3 L1_3 M1_3 => zCV C Y_X7_gather (d + 5) [.ref 142, .ref 7, .int x1] (zmk I1_3 L1_3 M1_3) (fun I2_3 L2_3 M2_3 => zSI C (zmk I L M) K Y_X10_can (d + 6) 67 [(0, .ref 0), (2, .int x2), (3, .ref (93 + 33 + 2 * x1.toNatClampNeg)), (4, .int 0), (5, .int (-5)), (6, .int 9)] [] I2_3 L2_3 M2_3))) ∧ (¬ (0 ≤ x2 ∧ x2 < 2) → K ((-1)) I L M))))) : zCI C Y_X10_can (d + 6) [.ref 0, .int x1, .int x2] (zmk I L M) K := by
  refine S_enter (by decide) (Nat.le_of_ble_eq_true rfl) ?_
  refine S_lv (lv' := [(0, .ref 0), (1, .int x1), (2, .int x2)]) rfl ?_
  refine S_aload_n 0 dX10_can_0 rfl rfl ?_
  refine S_iload_n 1 dX10_can_1 rfl rfl ?_
  refine S_callV [.int x1] [] m_RX10_105 rfl rfl s_0 ⟨rfl, by decide⟩ (Nat.le_of_ble_eq_true rfl) (zroom_0 (by decide)) dX10_can_2 (zpure (sp_X10_isGuest (I := I) (L := L) (M := M) (d + 3) x1) ?_)
  refine S_if_eq (tgt := 16) dX10_can_5 (by decide) (fun q1 => ?_) (fun q1 => ?_)
  · refine S_iconst (v := -1) dX10_can_16 (by decide) ?_
    exact S_ireti rfl dX10_can_17 ⟨_, I, L, M, rfl, rfl, (T.1 (zb_f q1))⟩
  · refine S_iload_n 2 dX10_can_8 rfl rfl ?_
    refine S_iconst (v := 2) dX10_can_9 (by decide) ?_
    refine S_callS [.int x2, .int 2] [] m_RX10_85 rfl rfl (Nat.le_of_ble_eq_true rfl) (zroom_0 (by decide)) dX10_can_10 (zpure (sp_X10_isBelow (I := I) (L := L) (M := M) (d + 4) x2 2) ?_)
    refine S_if_ne (tgt := 18) dX10_can_13 (by decide) (fun q2 => ?_) (fun q2 => ?_)
    · refine S_aload_n 0 dX10_can_18 rfl rfl ?_
      refine S_getP f_RX10_30 s_0 p_0_3 dX10_can_19 ?_
      refine S_getP f_RX10_77 (sI i2) (pI_g i2) dX10_can_22 ?_
      refine S_iload_n 1 dX10_can_25 rfl rfl ?_
      refine S_aald 1 (by decide) (sI_g i2) ((T.2 (zb_t q1)).1 (zb_t q2)).1 ((gI_p i2) _ (vp_lt ((T.2 (zb_t q1)).1 (zb_t q2)).1)) dX10_can_26 ?_
      refine S_astore_n dX10_can_27 rfl (by decide) rfl ?_
      refine S_aload_n 0 dX10_can_28 rfl rfl ?_
      refine S_aload_n 1 dX10_can_29 rfl rfl ?_
      refine S_getP f_RX10_23 s_0 p_0_1 dX10_can_30 ?_
      refine S_getP f_RX10_77 (sI i0) (pI_g i0) dX10_can_33 ?_
      refine S_iload_n 2 dX10_can_36 rfl rfl ?_
      refine S_aald 1 (by decide) (sI_g i0) ((T.2 (zb_t q1)).1 (zb_t q2)).2.1 ((gI_p i0) _ (vp_lt ((T.2 (zb_t q1)).1 (zb_t q2)).2.1)) dX10_can_37 ?_
      refine S_callV [.ref (3 + 33 + 2 * x1.toNatClampNeg)] [] m_RX10_237 rfl rfl ((gI i2) _ (vp_lt ((T.2 (zb_t q1)).1 (zb_t q2)).1)).1 ⟨rfl, by decide⟩ (Nat.le_of_ble_eq_true rfl) (zroom_0 (by decide)) dX10_can_38 (zCV_use ((T.2 (zb_t q1)).1 (zb_t q2)).2.2 ?_)
      intro I1_3 L1_3 M1_3 T1_3
      refine S_aload_n 1 dX10_can_41 rfl rfl ?_
      refine S_getP f_RX10_53 s_0 p_0_9 dX10_can_42 ?_
      refine S_aload_n 1 dX10_can_45 rfl rfl ?_
      refine S_getP f_RX10_23 s_0 p_0_1 dX10_can_46 ?_
      refine S_getP f_RX10_216 (sI i0) (pI_s i0) dX10_can_49 ?_
      refine S_iload_n 2 dX10_can_52 rfl rfl ?_
      refine S_callV [.ref 7, .int x1] [] m_RX10_229 rfl rfl s_142 ⟨rfl, by decide⟩ (Nat.le_of_ble_eq_true rfl) (zroom_0 (by decide)) dX10_can_53 (zCV_use T1_3 ?_)
      intro I2_3 L2_3 M2_3 T2_3
      refine S_iconst (v := 0) dX10_can_56 (by decide) ?_
      refine S_istore dX10_can_57 (by decide) rfl ?_
      refine S_bipush (v := -5) dX10_can_59 (by decide) ?_
      refine S_istore dX10_can_61 (by decide) rfl ?_
      refine S_bipush (v := 9) dX10_can_63 (by decide) ?_
      refine S_istore dX10_can_65 (by decide) rfl ?_
      exact S_sub [4, 6, 3, 2, 1, 0] rfl T2_3
    · refine S_iconst (v := -1) dX10_can_16 (by decide) ?_
      exact S_ireti rfl dX10_can_17 ⟨_, I, L, M, rfl, rfl, ((T.2 (zb_t q1)).2 (zb_f q2))⟩

set_option maxRecDepth 100000 in
theorem t_X10_can_67 {C : zC} {I : Nat → Nat → Int32} {L : Nat → Nat → Int64} {M : Nat → Nat → Option Nat} {h0 : zH} (d : Nat)  {a_l3 : Nat} (e_l3 : zGu a_l3) (y2 : Int32) (y4 : Int32) (y5 : Int32) (y6 : Int32) (K : Int32 → (Nat → Nat → Int32) → (Nat → Nat → Int64) → (Nat → Nat → Option Nat) → Prop) (T : ((y6 < 0 → ((¬ y2 = 0 → K y5 I L M) ∧ (y2 = 0 → K y4 I L M))) ∧ (¬ (y6 < 0) → zCR C Y_X10_lureOf (d + 5) [.ref 0, .ref a_l3] (zmk (u2 I a_l3 2 y6) L M) (fun r1_2 I1_2 L1_2 M1_2 => zLu r1_2 ∧ zCI C Y_X7_fits (d + 5) [.ref 142, .ref r1_2, .int (I1_2 a_l3 3), .int (I1_2 3 4)] (zmk I1_2 L1_2 M1_2) (fun r2_2 I2_2 L2_2 M2_2 => ((r2_2 = 0 → zSI C h0 K Y_X10_can (d + 6) 67 [(0, .ref 0), (2, .int y2), (3, .ref a_l3), (4, .int y4), (5, .int y5), (6, .int (y6 + (-1)))] [] I2_2 L2_2 M2_2) ∧ (¬ (r2_2 = 0) → zSI C h0 K Y_X10_can (d + 6) 67 [(0, .ref 0), (2, .int y2), (3, .ref a_l3), (4, .int (y4 + 1)), (5, .int y6), (6, .int (y6 + (-1)))] [] I2_2 L2_2 M2_2))))))) : zSI C h0 K Y_X10_can (d + 6) 67 [(0, .ref 0), (2, .int y2), (3, .ref a_l3), (4, .int y4), (5, .int y5), (6, .int y6)] [] I L M := by
  refine S_iload 5 dX10_can_67 rfl ?_
  refine S_if_lt (tgt := 117) dX10_can_69 (by decide) (fun q1 => ?_) (fun q1 => ?_)
  · refine S_iload_n 1 dX10_can_117 rfl rfl ?_
    refine S_if_ne (tgt := 126) dX10_can_118 (by decide) (fun q2 => ?_) (fun q2 => ?_)
    · refine S_iload 4 dX10_can_126 rfl ?_
      exact S_ireti rfl dX10_can_128 ⟨_, I, L, M, rfl, rfl, ((T.1 q1).1 q2)⟩
    · refine S_iload 3 dX10_can_121 rfl ?_
      refine S_goto (tgt := 128) dX10_can_123 (by decide) ?_
      exact S_ireti rfl dX10_can_128 ⟨_, I, L, M, rfl, rfl, ((T.1 q1).2 q2)⟩
  · refine S_aload_n 2 dX10_can_72 rfl rfl ?_
    refine S_iload 5 dX10_can_73 rfl ?_
    refine S_putI f_RX10_112 e_l3.1 (Or.inl rfl) rfl dX10_can_75 ?_
    refine S_aload_n 0 dX10_can_78 rfl rfl ?_
    refine S_getP f_RX10_53 s_0 p_0_9 dX10_can_79 ?_
    refine S_aload_n 0 dX10_can_82 rfl rfl ?_
    refine S_aload_n 2 dX10_can_83 rfl rfl ?_
    refine S_callV [.ref a_l3] [.ref 142] m_RX10_125 rfl rfl s_0 ⟨rfl, by decide⟩ (Nat.le_of_ble_eq_true rfl) (zroom_0 (by decide)) dX10_can_84 (zCR_use (T.2 q1) ?_)
    rintro r1_2 I1_2 L1_2 M1_2 ⟨w1_2, T1_2⟩
    refine S_aload_n 2 dX10_can_87 rfl rfl ?_
    refine S_getI f_RX10_115 e_l3.1 dX10_can_88 ?_
    refine S_aload_n 0 dX10_can_91 rfl rfl ?_
    refine S_getP f_RX10_23 s_0 p_0_1 dX10_can_92 ?_
    refine S_getI f_RX10_129 (sI i0) dX10_can_95 ?_
    refine S_callV [.ref r1_2, .int (I1_2 a_l3 3), .int (I1_2 3 4)] [] m_RX10_233 rfl rfl s_142 ⟨rfl, by decide⟩ (Nat.le_of_ble_eq_true rfl) (zroom_0 (by decide)) dX10_can_98 (zCI_use T1_2 ?_)
    intro r2_2 I2_2 L2_2 M2_2 T2_2
    refine S_if_eq (tgt := 111) dX10_can_101 (by decide) (fun q2 => ?_) (fun q2 => ?_)
    · refine S_iinc 5 dX10_can_111 rfl rfl (by decide) rfl ?_
      refine S_goto (tgt := 67) dX10_can_114 (by decide) ?_
      exact S_sub [1, 2, 3, 4, 5, 0] rfl (T2_2.1 q2)
    · refine S_iinc 3 dX10_can_104 rfl rfl (by decide) rfl ?_
      refine S_iload 5 dX10_can_107 rfl ?_
      refine S_istore dX10_can_109 (by decide) rfl ?_
      refine S_iinc 5 dX10_can_111 rfl rfl (by decide) rfl ?_
      refine S_goto (tgt := 67) dX10_can_114 (by decide) ?_
      exact S_sub [3, 4, 5, 2, 1, 0] rfl (T2_2.2 q2)

set_option maxRecDepth 100000 in
theorem t_X10_count {C : zC} {I : Nat → Nat → Int32} {L : Nat → Nat → Int64} {M : Nat → Nat → Option Nat} (d : Nat) (x1 : Int32)  (K : Int32 → (Nat → Nat → Int32) → (Nat → Nat → Int64) → (Nat → Nat → Option Nat) → Prop) (T : ((x1 = 0 → K ((I 3 3)) I L M) ∧ (x1 = 1 → K ((I 0 7)) I L M) ∧ (x1 = 2 → K ((I 7 1)) I L M) ∧ (x1 = 3 → K ((I 14 1)) I L M) ∧ (x1 = 4 → K ((I 26 1)) I L M) ∧ (x1 = 5 → K ((I 138 1)) I L M) ∧ (x1 = 6 → K ((I 148 1)) I L M) ∧ (((x1 : Int32).toInt < 0 ∨ 6 < (x1 : Int32).toInt) → K ((-2)) I L M))) : zCI C Y_X10_count (d + 1) [.ref 0, .int x1] (zmk I L M) K := by
  refine S_enter (by decide) (Nat.le_of_ble_eq_true rfl) ?_
  refine S_lv (lv' := [(0, .ref 0), (1, .int x1)]) rfl ?_
  refine S_iload_n 1 dX10_count_0 rfl rfl ?_
  rcases ztab0_7 x1 with q1 | q1 | q1 | q1 | q1 | q1 | q1 | q1
  · refine S_tabK (tgt := 44) dX10_count_1 q1 (by decide) (by decide) (off := 43) rfl (by decide) ?_
    refine S_aload_n 0 dX10_count_44 rfl rfl ?_
    refine S_getP f_RX10_23 s_0 p_0_1 dX10_count_45 ?_
    refine S_getI f_RX10_92 (sI i0) dX10_count_48 ?_
    exact S_ireti rfl dX10_count_51 ⟨_, I, L, M, rfl, rfl, (T.1 q1)⟩
  · refine S_tabK (tgt := 52) dX10_count_1 q1 (by decide) (by decide) (off := 51) rfl (by decide) ?_
    refine S_aload_n 0 dX10_count_52 rfl rfl ?_
    refine S_getI f_RX10_172 s_0 dX10_count_53 ?_
    exact S_ireti rfl dX10_count_56 ⟨_, I, L, M, rfl, rfl, (T.2.1 q1)⟩
  · refine S_tabK (tgt := 57) dX10_count_1 q1 (by decide) (by decide) (off := 56) rfl (by decide) ?_
    refine S_aload_n 0 dX10_count_57 rfl rfl ?_
    refine S_getP f_RX10_23 s_0 p_0_1 dX10_count_58 ?_
    refine S_getP f_RX10_216 (sI i0) (pI_s i0) dX10_count_61 ?_
    refine S_getI f_RX10_220 (rI_s i0).1 dX10_count_64 ?_
    exact S_ireti rfl dX10_count_67 ⟨_, I, L, M, rfl, rfl, (T.2.2.1 q1)⟩
  · refine S_tabK (tgt := 68) dX10_count_1 q1 (by decide) (by decide) (off := 67) rfl (by decide) ?_
    refine S_aload_n 0 dX10_count_68 rfl rfl ?_
    refine S_getP f_RX10_23 s_0 p_0_1 dX10_count_69 ?_
    refine S_getP f_RX10_247 (sI i0) (pI_p i0) dX10_count_72 ?_
    refine S_getI f_RX10_220 (rI_p i0).1 dX10_count_75 ?_
    exact S_ireti rfl dX10_count_78 ⟨_, I, L, M, rfl, rfl, (T.2.2.2.1 q1)⟩
  · refine S_tabK (tgt := 79) dX10_count_1 q1 (by decide) (by decide) (off := 78) rfl (by decide) ?_
    refine S_aload_n 0 dX10_count_79 rfl rfl ?_
    refine S_getP f_RX10_23 s_0 p_0_1 dX10_count_80 ?_
    refine S_getP f_RX10_264 (sI i0) (pI_k i0) dX10_count_83 ?_
    refine S_getI f_RX10_220 (rI_k i0).1 dX10_count_86 ?_
    exact S_ireti rfl dX10_count_89 ⟨_, I, L, M, rfl, rfl, (T.2.2.2.2.1 q1)⟩
  · refine S_tabK (tgt := 90) dX10_count_1 q1 (by decide) (by decide) (off := 89) rfl (by decide) ?_
    refine S_aload_n 0 dX10_count_90 rfl rfl ?_
    refine S_getP f_RX10_36 s_0 p_0_5 dX10_count_91 ?_
    refine S_getI f_RX10_169 s_138 dX10_count_94 ?_
    exact S_ireti rfl dX10_count_97 ⟨_, I, L, M, rfl, rfl, (T.2.2.2.2.2.1 q1)⟩
  · refine S_tabK (tgt := 98) dX10_count_1 q1 (by decide) (by decide) (off := 97) rfl (by decide) ?_
    refine S_aload_n 0 dX10_count_98 rfl rfl ?_
    refine S_getP f_RX10_67 s_0 p_0_11 dX10_count_99 ?_
    refine S_getI f_RX10_283 s_148 dX10_count_102 ?_
    exact S_ireti rfl dX10_count_105 ⟨_, I, L, M, rfl, rfl, (T.2.2.2.2.2.2.1 q1)⟩
  · refine S_tabOut (tgt := 106) dX10_count_1 q1 (by decide) ?_
    refine S_bipush (v := -2) dX10_count_106 (by decide) ?_
    exact S_ireti rfl dX10_count_108 ⟨_, I, L, M, rfl, rfl, (T.2.2.2.2.2.2.2 q1)⟩

set_option maxRecDepth 100000 in
theorem t_X10_decoys {C : zC} {I : Nat → Nat → Int32} {L : Nat → Nat → Int64} {M : Nat → Nat → Option Nat} (d : Nat) (x1 : Int32) (x2 : Int32) (x3 : Int32)  (K : Int32 → (Nat → Nat → Int32) → (Nat → Nat → Int64) → (Nat → Nat → Option Nat) → Prop) (T : ((¬ (0 ≤ x1 ∧ x1 < I 3 3) → K ((-1)) I L M) ∧ ((0 ≤ x1 ∧ x1 < I 3 3) → (((0 ≤ x2 ∧ x2 < 12) → ((x3 < 1 → K ((-2)) I L M) ∧ (¬ (x3 < 1) → ((x3 ≤ 6 → vp_in x1 6 ∧ ((¬ (zhas ((I ((3 + 33 + 2 * x1.toNatClampNeg)) 3)) x2) → K ((-5)) I L M) ∧ ((zhas ((I ((3 + 33 + 2 * x1.toNatClampNeg)) 3)) x2) → zCI C Y_X10_fewestDecoys (d + 6) [.ref 0, .ref (3 + 33 + 2 * x1.toNatClampNeg), .int x2, .int x3] (zmk I L M) (fun r1_6 I1_6 L1_6 M1_6 => K r1_6 I1_6 L1_6 M1_6)))) ∧ (¬ (x3 ≤ 6) → K ((-2)) I L M))))) ∧ (¬ (0 ≤ x2 ∧ x2 < 12) → K ((-1)) I L M))))) : zCI C Y_X10_decoys (d + 7) [.ref 0, .int x1, .int x2, .int x3] (zmk I L M) K := by
  refine S_enter (by decide) (Nat.le_of_ble_eq_true rfl) ?_
  refine S_lv (lv' := [(0, .ref 0), (1, .int x1), (2, .int x2), (3, .int x3)]) rfl ?_
  refine S_aload_n 0 dX10_decoys_0 rfl rfl ?_
  refine S_iload_n 1 dX10_decoys_1 rfl rfl ?_
  refine S_callV [.int x1] [] m_RX10_105 rfl rfl s_0 ⟨rfl, by decide⟩ (Nat.le_of_ble_eq_true rfl) (zroom_0 (by decide)) dX10_decoys_2 (zpure (sp_X10_isGuest (I := I) (L := L) (M := M) (d + 4) x1) ?_)
  refine S_if_eq (tgt := 15) dX10_decoys_5 (by decide) (fun q1 => ?_) (fun q1 => ?_)
  · refine S_iconst (v := -1) dX10_decoys_15 (by decide) ?_
    exact S_ireti rfl dX10_decoys_16 ⟨_, I, L, M, rfl, rfl, (T.1 (zb_f q1))⟩
  · refine S_iload_n 2 dX10_decoys_8 rfl rfl ?_
    refine S_callS [.int x2] [] m_RX10_143 rfl rfl (Nat.le_of_ble_eq_true rfl) (zroom_0 (by decide)) dX10_decoys_9 (zpure (sp_X10_isPurpose (I := I) (L := L) (M := M) (d + 4) x2) ?_)
    refine S_if_ne (tgt := 17) dX10_decoys_12 (by decide) (fun q2 => ?_) (fun q2 => ?_)
    · refine S_iload_n 3 dX10_decoys_17 rfl rfl ?_
      refine S_iconst (v := 1) dX10_decoys_18 (by decide) ?_
      refine S_icmp_lt (tgt := 28) dX10_decoys_19 (by decide) (fun q3 => ?_) (fun q3 => ?_)
      · refine S_bipush (v := -2) dX10_decoys_28 (by decide) ?_
        exact S_ireti rfl dX10_decoys_30 ⟨_, I, L, M, rfl, rfl, (((T.2 (zb_t q1)).1 (zb_t q2)).1 q3)⟩
      · refine S_iload_n 3 dX10_decoys_22 rfl rfl ?_
        refine S_bipush (v := 6) dX10_decoys_23 (by decide) ?_
        refine S_icmp_le (tgt := 31) dX10_decoys_25 (by decide) (fun q4 => ?_) (fun q4 => ?_)
        · refine S_aload_n 0 dX10_decoys_31 rfl rfl ?_
          refine S_getP f_RX10_23 s_0 p_0_1 dX10_decoys_32 ?_
          refine S_getP f_RX10_77 (sI i0) (pI_g i0) dX10_decoys_35 ?_
          refine S_iload_n 1 dX10_decoys_38 rfl rfl ?_
          refine S_aald 1 (by decide) (sI_g i0) ((((T.2 (zb_t q1)).1 (zb_t q2)).2 q3).1 q4).1 ((gI_p i0) _ (vp_lt ((((T.2 (zb_t q1)).1 (zb_t q2)).2 q3).1 q4).1)) dX10_decoys_39 ?_
          refine S_astore dX10_decoys_40 (by decide) rfl ?_
          refine S_aload 0 dX10_decoys_42 rfl ?_
          refine S_getI f_RX10_115 ((gI i0) _ (vp_lt ((((T.2 (zb_t q1)).1 (zb_t q2)).2 q3).1 q4).1)).1 dX10_decoys_44 ?_
          refine S_iload_n 3 dX10_decoys_47 rfl rfl ?_
          refine S_callS [.int (I ((3 + 33 + 2 * x1.toNatClampNeg)) 3), .int x2] [] m_RX10_157 rfl rfl (Nat.le_of_ble_eq_true rfl) (zroom_0 (by decide)) dX10_decoys_48 (zpure (sp_X10_has (I := I) (L := L) (M := M) (d + 5) ((I ((3 + 33 + 2 * x1.toNatClampNeg)) 3)) x2) ?_)
          refine S_if_eq (tgt := 65) dX10_decoys_51 (by decide) (fun q5 => ?_) (fun q5 => ?_)
          · refine S_bipush (v := -5) dX10_decoys_65 (by decide) ?_
            exact S_ireti rfl dX10_decoys_67 ⟨_, I, L, M, rfl, rfl, (((((T.2 (zb_t q1)).1 (zb_t q2)).2 q3).1 q4).2.1 (zb_f q5))⟩
          · refine S_aload_n 1 dX10_decoys_54 rfl rfl ?_
            refine S_aload 0 dX10_decoys_55 rfl ?_
            refine S_iload_n 3 dX10_decoys_57 rfl rfl ?_
            refine S_iload_n 4 dX10_decoys_58 rfl rfl ?_
            refine S_callV [.ref (3 + 33 + 2 * x1.toNatClampNeg), .int x2, .int x3] [] m_RX10_212 rfl rfl s_0 ⟨rfl, by decide⟩ (Nat.le_of_ble_eq_true rfl) (zroom_0 (by decide)) dX10_decoys_59 (zCI_use (((((T.2 (zb_t q1)).1 (zb_t q2)).2 q3).1 q4).2.2 (zb_t q5)) ?_)
            intro r1_6 I1_6 L1_6 M1_6 T1_6
            refine S_goto (tgt := 67) dX10_decoys_62 (by decide) ?_
            exact S_ireti rfl dX10_decoys_67 ⟨_, I1_6, L1_6, M1_6, rfl, rfl, T1_6⟩
        · refine S_bipush (v := -2) dX10_decoys_28 (by decide) ?_
          exact S_ireti rfl dX10_decoys_30 ⟨_, I, L, M, rfl, rfl, ((((T.2 (zb_t q1)).1 (zb_t q2)).2 q3).2 q4)⟩
    · refine S_iconst (v := -1) dX10_decoys_15 (by decide) ?_
      exact S_ireti rfl dX10_decoys_16 ⟨_, I, L, M, rfl, rfl, ((T.2 (zb_t q1)).2 (zb_f q2))⟩

set_option maxRecDepth 100000 in
theorem t_X10_ends {C : zC} {I : Nat → Nat → Int32} {L : Nat → Nat → Int64} {M : Nat → Nat → Option Nat} (d : Nat) (x1 : Int32)  (K : Int32 → (Nat → Nat → Int32) → (Nat → Nat → Int64) → (Nat → Nat → Option Nat) → Prop) (T : (((0 ≤ x1 ∧ x1 < 2) → zCV C Y_X2_goOnFrom (d + 6) [.ref 93, .ref 3] (zmk I L M) (fun I1_2 L1_2 M1_2 => zCV C Y_X10_settle (d + 6) [.ref 0, .ref 93] (zmk I1_2 L1_2 M1_2) (fun I2_2 L2_2 M2_2 => zSI C (zmk I L M) K Y_X10_ends (d + 7) 31 [(0, .ref 0), (1, .int x1), (2, .int 0)] [] I2_2 L2_2 M2_2))) ∧ (¬ (0 ≤ x1 ∧ x1 < 2) → K ((-1)) I L M))) : zCI C Y_X10_ends (d + 7) [.ref 0, .int x1] (zmk I L M) K := by
  refine S_enter (by decide) (Nat.le_of_ble_eq_true rfl) ?_
  refine S_lv (lv' := [(0, .ref 0), (1, .int x1)]) rfl ?_
  refine S_iload_n 1 dX10_ends_0 rfl rfl ?_
  refine S_iconst (v := 2) dX10_ends_1 (by decide) ?_
  refine S_callS [.int x1, .int 2] [] m_RX10_85 rfl rfl (Nat.le_of_ble_eq_true rfl) (zroom_0 (by decide)) dX10_ends_2 (zpure (sp_X10_isBelow (I := I) (L := L) (M := M) (d + 5) x1 2) ?_)
  refine S_if_ne (tgt := 10) dX10_ends_5 (by decide) (fun q1 => ?_) (fun q1 => ?_)
  · refine S_aload_n 0 dX10_ends_10 rfl rfl ?_
    refine S_getP f_RX10_30 s_0 p_0_3 dX10_ends_11 ?_
    refine S_aload_n 0 dX10_ends_14 rfl rfl ?_
    refine S_getP f_RX10_23 s_0 p_0_1 dX10_ends_15 ?_
    refine S_callV [.ref 3] [] m_RX10_250 rfl rfl (sI i2) ⟨rfl, by decide⟩ (Nat.le_of_ble_eq_true rfl) (zroom_0 (by decide)) dX10_ends_18 (zCV_use (T.1 (zb_t q1)) ?_)
    intro I1_2 L1_2 M1_2 T1_2
    refine S_aload_n 0 dX10_ends_21 rfl rfl ?_
    refine S_aload_n 0 dX10_ends_22 rfl rfl ?_
    refine S_getP f_RX10_30 s_0 p_0_3 dX10_ends_23 ?_
    refine S_callV [.ref 93] [] m_RX10_198 rfl rfl s_0 ⟨rfl, by decide⟩ (Nat.le_of_ble_eq_true rfl) (zroom_0 (by decide)) dX10_ends_26 (zCV_use T1_2 ?_)
    intro I2_2 L2_2 M2_2 T2_2
    refine S_iconst (v := 0) dX10_ends_29 (by decide) ?_
    refine S_istore_n dX10_ends_30 rfl (by decide) rfl ?_
    exact S_sub [1, 2, 0] rfl T2_2
  · refine S_iconst (v := -1) dX10_ends_8 (by decide) ?_
    exact S_ireti rfl dX10_ends_9 ⟨_, I, L, M, rfl, rfl, (T.2 (zb_f q1))⟩

set_option maxRecDepth 100000 in
theorem t_X10_ends_31 {C : zC} {I : Nat → Nat → Int32} {L : Nat → Nat → Int64} {M : Nat → Nat → Option Nat} {h0 : zH} (d : Nat)   (y1 : Int32) (y2 : Int32) (K : Int32 → (Nat → Nat → Int32) → (Nat → Nat → Int64) → (Nat → Nat → Option Nat) → Prop) (T : (((I 14 1) ≤ y2 → ((¬ y1 = 0 → zCI C Y_X2_storedInAll (d + 6) [.ref 93] (zmk I L M) (fun r1_3 I1_3 L1_3 M1_3 => K r1_3 I1_3 L1_3 M1_3)) ∧ (y1 = 0 → zCI C Y_X2_meantByAll (d + 6) [.ref 93] (zmk I L M) (fun r2_3 I2_3 L2_3 M2_3 => K r2_3 I2_3 L2_3 M2_3)))) ∧ (¬ ((I 14 1) ≤ y2) → vp_in y2 10 ∧ vp_in y2 10 ∧ zCV C Y_X10_goRow (d + 6) [.ref 0, .ref 93, .int (I ((14 + 2 + y2.toNatClampNeg)) 0), .int (I ((14 + 2 + y2.toNatClampNeg)) 1)] (zmk I L M) (fun I3_2 L3_2 M3_2 => zSI C h0 K Y_X10_ends (d + 7) 31 [(0, .ref 0), (1, .int y1), (2, .int (y2 + 1))] [] I3_2 L3_2 M3_2)))) : zSI C h0 K Y_X10_ends (d + 7) 31 [(0, .ref 0), (1, .int y1), (2, .int y2)] [] I L M := by
  refine S_iload_n 2 dX10_ends_31 rfl rfl ?_
  refine S_aload_n 0 dX10_ends_32 rfl rfl ?_
  refine S_getP f_RX10_23 s_0 p_0_1 dX10_ends_33 ?_
  refine S_getP f_RX10_247 (sI i0) (pI_p i0) dX10_ends_36 ?_
  refine S_getI f_RX10_220 (rI_p i0).1 dX10_ends_39 ?_
  refine S_icmp_ge (tgt := 87) dX10_ends_42 (by decide) (fun q1 => ?_) (fun q1 => ?_)
  · refine S_iload_n 1 dX10_ends_87 rfl rfl ?_
    refine S_if_ne (tgt := 101) dX10_ends_88 (by decide) (fun q2 => ?_) (fun q2 => ?_)
    · refine S_aload_n 0 dX10_ends_101 rfl rfl ?_
      refine S_getP f_RX10_30 s_0 p_0_3 dX10_ends_102 ?_
      refine S_callV [] [] m_RX10_261 rfl rfl (sI i2) ⟨rfl, by decide⟩ (Nat.le_of_ble_eq_true rfl) (zroom_0 (by decide)) dX10_ends_105 (zCI_use ((T.1 q1).1 q2) ?_)
      intro r1_3 I1_3 L1_3 M1_3 T1_3
      exact S_ireti rfl dX10_ends_108 ⟨_, I1_3, L1_3, M1_3, rfl, rfl, T1_3⟩
    · refine S_aload_n 0 dX10_ends_91 rfl rfl ?_
      refine S_getP f_RX10_30 s_0 p_0_3 dX10_ends_92 ?_
      refine S_callV [] [] m_RX10_188 rfl rfl (sI i2) ⟨rfl, by decide⟩ (Nat.le_of_ble_eq_true rfl) (zroom_0 (by decide)) dX10_ends_95 (zCI_use ((T.1 q1).2 q2) ?_)
      intro r2_3 I2_3 L2_3 M2_3 T2_3
      refine S_goto (tgt := 108) dX10_ends_98 (by decide) ?_
      exact S_ireti rfl dX10_ends_108 ⟨_, I2_3, L2_3, M2_3, rfl, rfl, T2_3⟩
  · refine S_aload_n 0 dX10_ends_45 rfl rfl ?_
    refine S_aload_n 0 dX10_ends_46 rfl rfl ?_
    refine S_getP f_RX10_30 s_0 p_0_3 dX10_ends_47 ?_
    refine S_aload_n 0 dX10_ends_50 rfl rfl ?_
    refine S_getP f_RX10_23 s_0 p_0_1 dX10_ends_51 ?_
    refine S_getP f_RX10_247 (sI i0) (pI_p i0) dX10_ends_54 ?_
    refine S_getP f_RX10_253 (rI_p i0).1 (rI_p i0).2.1 dX10_ends_57 ?_
    refine S_iload_n 2 dX10_ends_60 rfl rfl ?_
    refine S_aald 0 (by decide) (rI_p i0).2.2.1 (T.2 q1).1 ((rI_p i0).2.2.2 _ (vp_lt (T.2 q1).1)).1 dX10_ends_61 ?_
    refine S_iconst (v := 0) dX10_ends_62 (by decide) ?_
    refine S_iald ((rI_p i0).2.2.2 _ (vp_lt (T.2 q1).1)).2 (by unfold vp_in; decide) dX10_ends_63 ?_
    refine S_aload_n 0 dX10_ends_64 rfl rfl ?_
    refine S_getP f_RX10_23 s_0 p_0_1 dX10_ends_65 ?_
    refine S_getP f_RX10_247 (sI i0) (pI_p i0) dX10_ends_68 ?_
    refine S_getP f_RX10_253 (rI_p i0).1 (rI_p i0).2.1 dX10_ends_71 ?_
    refine S_iload_n 2 dX10_ends_74 rfl rfl ?_
    refine S_aald 0 (by decide) (rI_p i0).2.2.1 (T.2 q1).2.1 ((rI_p i0).2.2.2 _ (vp_lt (T.2 q1).2.1)).1 dX10_ends_75 ?_
    refine S_iconst (v := 1) dX10_ends_76 (by decide) ?_
    refine S_iald ((rI_p i0).2.2.2 _ (vp_lt (T.2 q1).2.1)).2 (by unfold vp_in; decide) dX10_ends_77 ?_
    refine S_callV [.ref 93, .int (I ((14 + 2 + y2.toNatClampNeg)) 0), .int (I ((14 + 2 + y2.toNatClampNeg)) 1)] [] m_RX10_257 rfl rfl s_0 ⟨rfl, by decide⟩ (Nat.le_of_ble_eq_true rfl) (zroom_0 (by decide)) dX10_ends_78 (zCV_use (T.2 q1).2.2 ?_)
    intro I3_2 L3_2 M3_2 T3_2
    refine S_iinc 2 dX10_ends_81 rfl rfl (by decide) rfl ?_
    refine S_goto (tgt := 31) dX10_ends_84 (by decide) ?_
    exact S_sub [1, 2, 0] rfl T3_2

set_option maxRecDepth 100000 in
theorem t_X10_feed {C : zC} {I : Nat → Nat → Int32} {L : Nat → Nat → Int64} {M : Nat → Nat → Option Nat} (d : Nat) (x1 : Int32)  (K : Int32 → (Nat → Nat → Int32) → (Nat → Nat → Int64) → (Nat → Nat → Option Nat) → Prop) (T : (((0 ≤ x1 ∧ x1 ≤ 127) → zCI C Y_X4_takesIn (d + 1) [.ref 138, .int x1] (zmk I L M) (fun r1_2 I1_2 L1_2 M1_2 => ((r1_2 = 0 → K ((-4)) I1_2 L1_2 M1_2) ∧ (¬ (r1_2 = 0) → K ((I1_2 138 1)) I1_2 L1_2 M1_2)))) ∧ (¬ (0 ≤ x1 ∧ x1 ≤ 127) → K ((-2)) I L M))) : zCI C Y_X10_feed (d + 2) [.ref 0, .int x1] (zmk I L M) K := by
  refine S_enter (by decide) (Nat.le_of_ble_eq_true rfl) ?_
  refine S_lv (lv' := [(0, .ref 0), (1, .int x1)]) rfl ?_
  refine S_iload_n 1 dX10_feed_0 rfl rfl ?_
  refine S_bipush (v := 127) dX10_feed_1 (by decide) ?_
  refine S_callS [.int x1, .int 127] [] m_RX10_89 rfl rfl (Nat.le_of_ble_eq_true rfl) (zroom_0 (by decide)) dX10_feed_3 (zpure (sp_X10_isWithin (I := I) (L := L) (M := M) (d + 0) x1 127) ?_)
  refine S_if_ne (tgt := 12) dX10_feed_6 (by decide) (fun q1 => ?_) (fun q1 => ?_)
  · refine S_aload_n 0 dX10_feed_12 rfl rfl ?_
    refine S_getP f_RX10_36 s_0 p_0_5 dX10_feed_13 ?_
    refine S_iload_n 1 dX10_feed_16 rfl rfl ?_
    refine S_callV [.int x1] [] m_RX10_166 rfl rfl s_138 ⟨rfl, by decide⟩ (Nat.le_of_ble_eq_true rfl) (zroom_0 (by decide)) dX10_feed_17 (zCI_use (T.1 (zb_t q1)) ?_)
    intro r1_2 I1_2 L1_2 M1_2 T1_2
    refine S_if_eq (tgt := 33) dX10_feed_20 (by decide) (fun q2 => ?_) (fun q2 => ?_)
    · refine S_bipush (v := -4) dX10_feed_33 (by decide) ?_
      exact S_ireti rfl dX10_feed_35 ⟨_, I1_2, L1_2, M1_2, rfl, rfl, (T1_2.1 q2)⟩
    · refine S_aload_n 0 dX10_feed_23 rfl rfl ?_
      refine S_getP f_RX10_36 s_0 p_0_5 dX10_feed_24 ?_
      refine S_getI f_RX10_169 s_138 dX10_feed_27 ?_
      refine S_goto (tgt := 35) dX10_feed_30 (by decide) ?_
      exact S_ireti rfl dX10_feed_35 ⟨_, I1_2, L1_2, M1_2, rfl, rfl, (T1_2.2 q2)⟩
  · refine S_bipush (v := -2) dX10_feed_9 (by decide) ?_
    exact S_ireti rfl dX10_feed_11 ⟨_, I, L, M, rfl, rfl, (T.2 (zb_f q1))⟩

set_option maxRecDepth 100000 in
theorem t_X10_fewestDecoys {C : zC} {I : Nat → Nat → Int32} {L : Nat → Nat → Int64} {M : Nat → Nat → Option Nat} (d : Nat) {o1 : Nat} (x2 : Int32) (x3 : Int32) (ho1 : zGu o1) (K : Int32 → (Nat → Nat → Int32) → (Nat → Nat → Int64) → (Nat → Nat → Option Nat) → Prop) (T : zCR C Y_X10_lureOf (d + 5) [.ref 0, .ref o1] (zmk I L M) (fun r1_1 I1_1 L1_1 M1_1 => zLu r1_1 ∧ zSI C (zmk I L M) K Y_X10_fewestDecoys (d + 6) 18 [(0, .ref 0), (1, .ref o1), (2, .int x2), (3, .int x3), (4, .ref r1_1), (5, .int (-5)), (6, .int 13), (7, .int 0)] [] I1_1 L1_1 M1_1)) : zCI C Y_X10_fewestDecoys (d + 6) [.ref 0, .ref o1, .int x2, .int x3] (zmk I L M) K := by
  refine S_enter (by decide) (Nat.le_of_ble_eq_true rfl) ?_
  refine S_lv (lv' := [(0, .ref 0), (1, .ref o1), (2, .int x2), (3, .int x3)]) rfl ?_
  refine S_aload_n 0 dX10_fewestDecoys_0 rfl rfl ?_
  refine S_aload_n 1 dX10_fewestDecoys_1 rfl rfl ?_
  refine S_callV [.ref o1] [] m_RX10_125 rfl rfl s_0 ⟨rfl, by decide⟩ (Nat.le_of_ble_eq_true rfl) (zroom_0 (by decide)) dX10_fewestDecoys_2 (zCR_use T ?_)
  rintro r1_1 I1_1 L1_1 M1_1 ⟨w1_1, T1_1⟩
  refine S_astore dX10_fewestDecoys_5 (by decide) rfl ?_
  refine S_bipush (v := -5) dX10_fewestDecoys_7 (by decide) ?_
  refine S_istore dX10_fewestDecoys_9 (by decide) rfl ?_
  refine S_bipush (v := 13) dX10_fewestDecoys_11 (by decide) ?_
  refine S_istore dX10_fewestDecoys_13 (by decide) rfl ?_
  refine S_iconst (v := 0) dX10_fewestDecoys_15 (by decide) ?_
  refine S_istore dX10_fewestDecoys_16 (by decide) rfl ?_
  exact S_sub [4, 5, 6, 7, 3, 2, 1, 0] rfl T1_1

set_option maxRecDepth 100000 in
theorem t_X10_fewestDecoys_18 {C : zC} {I : Nat → Nat → Int32} {L : Nat → Nat → Int64} {M : Nat → Nat → Option Nat} {h0 : zH} (d : Nat) {o1 : Nat} (ho1 : zGu o1) {r1_1 : Nat} (w1_1 : zLu r1_1) (y2 : Int32) (y3 : Int32) (y5 : Int32) (y6 : Int32) (y7 : Int32) (K : Int32 → (Nat → Nat → Int32) → (Nat → Nat → Int64) → (Nat → Nat → Option Nat) → Prop) (T : ((4095 < y7 → K y5 I L M) ∧ (¬ (4095 < y7) → ((¬ (y7 &&& (I o1 3)) = 0 → zSI C h0 K Y_X10_fewestDecoys (d + 6) 18 [(0, .ref 0), (1, .ref o1), (2, .int y2), (3, .int y3), (4, .ref r1_1), (5, .int y5), (6, .int y6), (7, .int (y7 + 1))] [] I L M) ∧ ((y7 &&& (I o1 3)) = 0 → ((y6 ≤ (zbc y7) → zSI C h0 K Y_X10_fewestDecoys (d + 6) 18 [(0, .ref 0), (1, .ref o1), (2, .int y2), (3, .int y3), (4, .ref r1_1), (5, .int y5), (6, .int y6), (7, .int (y7 + 1))] [] I L M) ∧ (¬ (y6 ≤ (zbc y7)) → zCI C Y_X10_keeps (d + 5) [.ref 0, .ref r1_1, .int ((I o1 3) ||| y7), .int y2, .int y3] (zmk I L M) (fun r1_4 I1_4 L1_4 M1_4 => ((r1_4 = 0 → zSI C h0 K Y_X10_fewestDecoys (d + 6) 18 [(0, .ref 0), (1, .ref o1), (2, .int y2), (3, .int y3), (4, .ref r1_1), (5, .int y5), (6, .int y6), (7, .int (y7 + 1))] [] I1_4 L1_4 M1_4) ∧ (¬ (r1_4 = 0) → zSI C h0 K Y_X10_fewestDecoys (d + 6) 18 [(0, .ref 0), (1, .ref o1), (2, .int y2), (3, .int y3), (4, .ref r1_1), (5, .int y7), (6, .int (zbc y7)), (7, .int (y7 + 1))] [] I1_4 L1_4 M1_4)))))))))) : zSI C h0 K Y_X10_fewestDecoys (d + 6) 18 [(0, .ref 0), (1, .ref o1), (2, .int y2), (3, .int y3), (4, .ref r1_1), (5, .int y5), (6, .int y6), (7, .int y7)] [] I L M := by
  refine S_iload 7 dX10_fewestDecoys_18 rfl ?_
  refine S_sipush (v := 4095) dX10_fewestDecoys_20 (by decide) ?_
  refine S_icmp_gt (tgt := 82) dX10_fewestDecoys_23 (by decide) (fun q1 => ?_) (fun q1 => ?_)
  · refine S_iload 5 dX10_fewestDecoys_82 rfl ?_
    exact S_ireti rfl dX10_fewestDecoys_84 ⟨_, I, L, M, rfl, rfl, (T.1 q1)⟩
  · refine S_iload 7 dX10_fewestDecoys_26 rfl ?_
    refine S_callS [.int y7] [] m_RX10_328 rfl rfl (Nat.le_of_ble_eq_true rfl) (zroom_0 (by decide)) dX10_fewestDecoys_28 (zpure (sp_J6_bitCount_0f7a4 (I := I) (L := L) (M := M) (d + 4) y7) ?_)
    refine S_istore dX10_fewestDecoys_31 (by decide) rfl ?_
    refine S_iload 8 dX10_fewestDecoys_33 rfl ?_
    refine S_aload_n 2 dX10_fewestDecoys_35 rfl rfl ?_
    refine S_getI f_RX10_115 ho1.1 dX10_fewestDecoys_36 ?_
    refine S_iand dX10_fewestDecoys_39 ?_
    refine S_if_ne (tgt := 76) dX10_fewestDecoys_40 (by decide) (fun q2 => ?_) (fun q2 => ?_)
    · refine S_iinc 8 dX10_fewestDecoys_76 rfl rfl (by decide) rfl ?_
      refine S_goto (tgt := 18) dX10_fewestDecoys_79 (by decide) ?_
      exact S_sub [2, 3, 4, 5, 6, 7, 8, 0] rfl ((T.2 q1).1 q2)
    · refine S_iload 0 dX10_fewestDecoys_43 rfl ?_
      refine S_iload 7 dX10_fewestDecoys_45 rfl ?_
      refine S_icmp_ge (tgt := 76) dX10_fewestDecoys_47 (by decide) (fun q3 => ?_) (fun q3 => ?_)
      · refine S_iinc 8 dX10_fewestDecoys_76 rfl rfl (by decide) rfl ?_
        refine S_goto (tgt := 18) dX10_fewestDecoys_79 (by decide) ?_
        exact S_sub [2, 3, 4, 5, 6, 7, 8, 0] rfl (((T.2 q1).2 q2).1 q3)
      · refine S_aload_n 1 dX10_fewestDecoys_50 rfl rfl ?_
        refine S_aload 5 dX10_fewestDecoys_51 rfl ?_
        refine S_aload_n 2 dX10_fewestDecoys_53 rfl rfl ?_
        refine S_getI f_RX10_115 ho1.1 dX10_fewestDecoys_54 ?_
        refine S_iload 8 dX10_fewestDecoys_57 rfl ?_
        refine S_ior dX10_fewestDecoys_59 ?_
        refine S_iload_n 3 dX10_fewestDecoys_60 rfl rfl ?_
        refine S_iload_n 4 dX10_fewestDecoys_61 rfl rfl ?_
        refine S_callV [.ref r1_1, .int ((I o1 3) ||| y7), .int y2, .int y3] [] m_RX10_334 rfl rfl s_0 ⟨rfl, by decide⟩ (Nat.le_of_ble_eq_true rfl) (zroom_0 (by decide)) dX10_fewestDecoys_62 (zCI_use (((T.2 q1).2 q2).2 q3) ?_)
        intro r1_4 I1_4 L1_4 M1_4 T1_4
        refine S_if_eq (tgt := 76) dX10_fewestDecoys_65 (by decide) (fun q4 => ?_) (fun q4 => ?_)
        · refine S_iinc 8 dX10_fewestDecoys_76 rfl rfl (by decide) rfl ?_
          refine S_goto (tgt := 18) dX10_fewestDecoys_79 (by decide) ?_
          exact S_sub [2, 3, 4, 5, 6, 7, 8, 0] rfl (T1_4.1 q4)
        · refine S_iload 8 dX10_fewestDecoys_68 rfl ?_
          refine S_istore dX10_fewestDecoys_70 (by decide) rfl ?_
          refine S_iload 1 dX10_fewestDecoys_72 rfl ?_
          refine S_istore dX10_fewestDecoys_74 (by decide) rfl ?_
          refine S_iinc 8 dX10_fewestDecoys_76 rfl rfl (by decide) rfl ?_
          refine S_goto (tgt := 18) dX10_fewestDecoys_79 (by decide) ?_
          exact S_sub [4, 5, 6, 7, 8, 2, 1, 0] rfl (T1_4.2 q4)

set_option maxRecDepth 100000 in
theorem t_X10_goNight {C : zC} {I : Nat → Nat → Int32} {L : Nat → Nat → Int64} {M : Nat → Nat → Option Nat} (d : Nat) {o1 : Nat} (ho1 : zInn o1) (K : (Nat → Nat → Int32) → (Nat → Nat → Int64) → (Nat → Nat → Option Nat) → Prop) (T : zSV C (zmk I L M) K Y_X10_goNight (d + 5) 2 [(0, .ref 0), (1, .ref o1), (2, .int 0)] [] I L M) : zCV C Y_X10_goNight (d + 5) [.ref 0, .ref o1] (zmk I L M) K := by
  refine S_enter (by decide) (Nat.le_of_ble_eq_true rfl) ?_
  refine S_lv (lv' := [(0, .ref 0), (1, .ref o1)]) rfl ?_
  refine S_iconst (v := 0) dX10_goNight_0 (by decide) ?_
  refine S_istore_n dX10_goNight_1 rfl (by decide) rfl ?_
  exact S_sub [1, 2, 0] rfl T

set_option maxRecDepth 100000 in
theorem t_X10_goNight_2 {C : zC} {I : Nat → Nat → Int32} {L : Nat → Nat → Int64} {M : Nat → Nat → Option Nat} {h0 : zH} (d : Nat) {o1 : Nat} (ho1 : zInn o1)  (y2 : Int32) (K : (Nat → Nat → Int32) → (Nat → Nat → Int64) → (Nat → Nat → Option Nat) → Prop) (T : (((I o1 3) ≤ y2 → (∃ r1_2 : Nat, (M o1 5) = some r1_2 ∧ zHo r1_2 ∧ ((((u2 I o1 4 (((I o1 4) + (1 : Int32)))) r1_2 0) ≤ 0 → K (u2 I o1 4 (((I o1 4) + (1 : Int32)))) L M) ∧ (¬ (((u2 I o1 4 (((I o1 4) + (1 : Int32)))) r1_2 0) ≤ 0) → (∃ r2_3 : Nat, (M o1 5) = some r2_3 ∧ zHo r2_3 ∧ (¬ (((u2 I o1 4 (((I o1 4) + (1 : Int32)))) r2_3 0) : Int32) = 0) ∧ ((¬ (((u2 I o1 4 (((I o1 4) + (1 : Int32)))) o1 4) - ((u2 I o1 4 (((I o1 4) + (1 : Int32)))) o1 4) / ((u2 I o1 4 (((I o1 4) + (1 : Int32)))) r2_3 0) * ((u2 I o1 4 (((I o1 4) + (1 : Int32)))) r2_3 0)) = 0 → K (u2 I o1 4 (((I o1 4) + (1 : Int32)))) L M) ∧ ((((u2 I o1 4 (((I o1 4) + (1 : Int32)))) o1 4) - ((u2 I o1 4 (((I o1 4) + (1 : Int32)))) o1 4) / ((u2 I o1 4 (((I o1 4) + (1 : Int32)))) r2_3 0) * ((u2 I o1 4 (((I o1 4) + (1 : Int32)))) r2_3 0)) = 0 → zCV C Y_X2_letGo (d + 4) [.ref o1] (zmk (u2 I o1 4 (((I o1 4) + (1 : Int32)))) L M) (fun I3_4 L3_4 M3_4 => K I3_4 L3_4 M3_4)))))))) ∧ (¬ ((I o1 3) ≤ y2) → vp_in y2 6 ∧ vp_in y2 6 ∧ zCI C Y_X3_prey (d + 4) [.ref (163 + 15 * y2.toNatClampNeg), .int (I ((o1 + 33 + 2 * y2.toNatClampNeg)) 3), .int (I o1 4)] (zmk I L M) (fun r4_2 I4_2 L4_2 M4_2 => ((¬ (0 ≤ r4_2 ∧ r4_2 < 12) → zSV C h0 K Y_X10_goNight (d + 5) 2 [(0, .ref 0), (1, .ref o1), (2, .int (y2 + 1))] [] I4_2 L4_2 M4_2) ∧ ((0 ≤ r4_2 ∧ r4_2 < 12) → vp_in y2 6 ∧ zCV C Y_X2_take (d + 4) [.ref o1, .ref (o1 + 33 + 2 * y2.toNatClampNeg), .int r4_2] (zmk I4_2 L4_2 M4_2) (fun I5_3 L5_3 M5_3 => zSV C h0 K Y_X10_goNight (d + 5) 2 [(0, .ref 0), (1, .ref o1), (2, .int (y2 + 1))] [] I5_3 L5_3 M5_3))))))) : zSV C h0 K Y_X10_goNight (d + 5) 2 [(0, .ref 0), (1, .ref o1), (2, .int y2)] [] I L M := by
  refine S_iload_n 2 dX10_goNight_2 rfl rfl ?_
  refine S_aload_n 1 dX10_goNight_3 rfl rfl ?_
  refine S_getI f_RX10_92 (sI ho1) dX10_goNight_4 ?_
  refine S_icmp_ge (tgt := 57) dX10_goNight_7 (by decide) (fun q1 => ?_) (fun q1 => ?_)
  · refine S_aload_n 1 dX10_goNight_57 rfl rfl ?_
    refine S_dup dX10_goNight_58 rfl ?_
    refine S_getI f_RX10_129 (sI ho1) dX10_goNight_59 ?_
    refine S_iconst (v := 1) dX10_goNight_62 (by decide) ?_
    refine S_iadd dX10_goNight_63 ?_
    refine S_putI f_RX10_129 (sI ho1) (Or.inl rfl) rfl dX10_goNight_64 ?_
    refine S_aload_n 1 dX10_goNight_67 rfl rfl ?_
    obtain ⟨r1_2, e1_2, w1_2, T1_2⟩ := (T.1 q1)
    refine S_getM f_RX10_182 (sI ho1) e1_2 dX10_goNight_68 ?_
    refine S_getI f_RX10_185 w1_2.1 dX10_goNight_71 ?_
    refine S_if_le (tgt := 96) dX10_goNight_74 (by decide) (fun q2 => ?_) (fun q2 => ?_)
    · exact S_vret rfl dX10_goNight_96 ⟨u2 I o1 4 (((I o1 4) + (1 : Int32))), L, M, rfl, rfl, (T1_2.1 q2)⟩
    · refine S_aload_n 1 dX10_goNight_77 rfl rfl ?_
      refine S_getI f_RX10_129 (sI ho1) dX10_goNight_78 ?_
      refine S_aload_n 1 dX10_goNight_81 rfl rfl ?_
      obtain ⟨r2_3, e2_3, w2_3, T2_3⟩ := (T1_2.2 q2)
      refine S_getM f_RX10_182 (sI ho1) e2_3 dX10_goNight_82 ?_
      refine S_getI f_RX10_185 w2_3.1 dX10_goNight_85 ?_
      refine S_irem dX10_goNight_88 T2_3.1 ?_
      refine S_if_ne (tgt := 96) dX10_goNight_89 (by decide) (fun q3 => ?_) (fun q3 => ?_)
      · exact S_vret rfl dX10_goNight_96 ⟨u2 I o1 4 (((I o1 4) + (1 : Int32))), L, M, rfl, rfl, (T2_3.2.1 q3)⟩
      · refine S_aload_n 1 dX10_goNight_92 rfl rfl ?_
        refine S_callV [] [] m_RX10_322 rfl rfl (sI ho1) ⟨rfl, by decide⟩ (Nat.le_of_ble_eq_true rfl) (zroom_0 (by decide)) dX10_goNight_93 (zCV_use (T2_3.2.2 q3) ?_)
        intro I3_4 L3_4 M3_4 T3_4
        exact S_vret rfl dX10_goNight_96 ⟨I3_4, L3_4, M3_4, rfl, rfl, T3_4⟩
  · refine S_aload_n 0 dX10_goNight_10 rfl rfl ?_
    refine S_getP f_RX10_46 s_0 p_0_8 dX10_goNight_11 ?_
    refine S_iload_n 2 dX10_goNight_14 rfl rfl ?_
    refine S_aald 3 (by decide) s_141 (T.2 q1).1 (hL_p _ (vp_lt (T.2 q1).1)) dX10_goNight_15 ?_
    refine S_aload_n 1 dX10_goNight_16 rfl rfl ?_
    refine S_getP f_RX10_77 (sI ho1) (pI_g ho1) dX10_goNight_17 ?_
    refine S_iload_n 2 dX10_goNight_20 rfl rfl ?_
    refine S_aald 1 (by decide) (sI_g ho1) (T.2 q1).2.1 ((gI_p ho1) _ (vp_lt (T.2 q1).2.1)) dX10_goNight_21 ?_
    refine S_getI f_RX10_115 ((gI ho1) _ (vp_lt (T.2 q1).2.1)).1 dX10_goNight_22 ?_
    refine S_aload_n 1 dX10_goNight_25 rfl rfl ?_
    refine S_getI f_RX10_129 (sI ho1) dX10_goNight_26 ?_
    refine S_callV [.int (I ((o1 + 33 + 2 * y2.toNatClampNeg)) 3), .int (I o1 4)] [] m_RX10_132 rfl rfl (hL _ (vp_lt (T.2 q1).1)).1 ⟨rfl, by decide⟩ (Nat.le_of_ble_eq_true rfl) (zroom_0 (by decide)) dX10_goNight_29 (zCI_use (T.2 q1).2.2 ?_)
    intro r4_2 I4_2 L4_2 M4_2 T4_2
    refine S_istore_n dX10_goNight_32 rfl (by decide) rfl ?_
    refine S_iload_n 0 dX10_goNight_33 rfl rfl ?_
    refine S_callS [.int r4_2] [] m_RX10_143 rfl rfl (Nat.le_of_ble_eq_true rfl) (zroom_0 (by decide)) dX10_goNight_34 (zpure (sp_X10_isPurpose (I := I4_2) (L := L4_2) (M := M4_2) (d + 2) r4_2) ?_)
    refine S_if_eq (tgt := 51) dX10_goNight_37 (by decide) (fun q2 => ?_) (fun q2 => ?_)
    · refine S_iinc 3 dX10_goNight_51 rfl rfl (by decide) rfl ?_
      refine S_goto (tgt := 2) dX10_goNight_54 (by decide) ?_
      exact S_sub [2, 3, 0] rfl (T4_2.1 (zb_f q2))
    · refine S_aload_n 2 dX10_goNight_40 rfl rfl ?_
      refine S_aload_n 2 dX10_goNight_41 rfl rfl ?_
      refine S_getP f_RX10_77 (sI ho1) (pI_g ho1) dX10_goNight_42 ?_
      refine S_iload_n 3 dX10_goNight_45 rfl rfl ?_
      refine S_aald 1 (by decide) (sI_g ho1) (T4_2.2 (zb_t q2)).1 ((gI_p ho1) _ (vp_lt (T4_2.2 (zb_t q2)).1)) dX10_goNight_46 ?_
      refine S_iload_n 0 dX10_goNight_47 rfl rfl ?_
      refine S_callV [.ref (o1 + 33 + 2 * y2.toNatClampNeg), .int r4_2] [] m_RX10_318 rfl rfl (sI ho1) ⟨rfl, by decide⟩ (Nat.le_of_ble_eq_true rfl) (zroom_0 (by decide)) dX10_goNight_48 (zCV_use (T4_2.2 (zb_t q2)).2 ?_)
      intro I5_3 L5_3 M5_3 T5_3
      refine S_iinc 3 dX10_goNight_51 rfl rfl (by decide) rfl ?_
      refine S_goto (tgt := 2) dX10_goNight_54 (by decide) ?_
      exact S_sub [2, 3, 0] rfl T5_3

set_option maxRecDepth 100000 in
theorem t_X10_goRow {C : zC} {I : Nat → Nat → Int32} {L : Nat → Nat → Int64} {M : Nat → Nat → Option Nat} (d : Nat) {o1 : Nat} (x2 : Int32) (x3 : Int32) (ho1 : zInn o1) (K : (Nat → Nat → Int32) → (Nat → Nat → Int64) → (Nat → Nat → Option Nat) → Prop) (T : ((¬ x2 = 0 → ((¬ (0 ≤ x3 ∧ x3 < (I o1 3)) → K I L M) ∧ ((0 ≤ x3 ∧ x3 < (I o1 3)) → vp_in x3 6 ∧ ((¬ x2 = 3 → ((¬ x2 = 2 → K (u2 I ((o1 + 33 + 2 * x3.toNatClampNeg)) 5 0) L M) ∧ (x2 = 2 → K (u2 I ((o1 + 33 + 2 * x3.toNatClampNeg)) 5 1) L M))) ∧ (x2 = 3 → vp_in x3 6 ∧ zCV C Y_X3_settle (d + 5) [.ref (163 + 15 * x3.toNatClampNeg), .ref o1, .ref (o1 + 33 + 2 * x3.toNatClampNeg)] (zmk (u2 (u2 I ((o1 + 33 + 2 * x3.toNatClampNeg)) 3 (((I ((o1 + 33 + 2 * x3.toNatClampNeg)) 3) ||| (I ((o1 + 33 + 2 * x3.toNatClampNeg)) 4)))) ((o1 + 33 + 2 * x3.toNatClampNeg)) 4 0) L M) (fun I1_4 L1_4 M1_4 => K I1_4 L1_4 M1_4)))))) ∧ (x2 = 0 → zCV C Y_X10_goNight (d + 5) [.ref 0, .ref o1] (zmk I L M) (fun I2_2 L2_2 M2_2 => K I2_2 L2_2 M2_2)))) : zCV C Y_X10_goRow (d + 6) [.ref 0, .ref o1, .int x2, .int x3] (zmk I L M) K := by
  refine S_enter (by decide) (Nat.le_of_ble_eq_true rfl) ?_
  refine S_lv (lv' := [(0, .ref 0), (1, .ref o1), (2, .int x2), (3, .int x3)]) rfl ?_
  refine S_iload_n 2 dX10_goRow_0 rfl rfl ?_
  refine S_if_ne (tgt := 12) dX10_goRow_1 (by decide) (fun q1 => ?_) (fun q1 => ?_)
  · refine S_iload_n 3 dX10_goRow_12 rfl rfl ?_
    refine S_aload_n 1 dX10_goRow_13 rfl rfl ?_
    refine S_getI f_RX10_92 (sI ho1) dX10_goRow_14 ?_
    refine S_callS [.int x3, .int (I o1 3)] [] m_RX10_85 rfl rfl (Nat.le_of_ble_eq_true rfl) (zroom_0 (by decide)) dX10_goRow_17 (zpure (sp_X10_isBelow (I := I) (L := L) (M := M) (d + 4) x3 ((I o1 3))) ?_)
    refine S_if_eq (tgt := 87) dX10_goRow_20 (by decide) (fun q2 => ?_) (fun q2 => ?_)
    · exact S_vret rfl dX10_goRow_87 ⟨I, L, M, rfl, rfl, ((T.1 q1).1 (zb_f q2))⟩
    · refine S_aload_n 1 dX10_goRow_23 rfl rfl ?_
      refine S_getP f_RX10_77 (sI ho1) (pI_g ho1) dX10_goRow_24 ?_
      refine S_iload_n 3 dX10_goRow_27 rfl rfl ?_
      refine S_aald 1 (by decide) (sI_g ho1) ((T.1 q1).2 (zb_t q2)).1 ((gI_p ho1) _ (vp_lt ((T.1 q1).2 (zb_t q2)).1)) dX10_goRow_28 ?_
      refine S_astore dX10_goRow_29 (by decide) rfl ?_
      refine S_iload_n 3 dX10_goRow_31 rfl rfl ?_
      refine S_iconst (v := 3) dX10_goRow_32 (by decide) ?_
      refine S_icmp_ne (tgt := 72) dX10_goRow_33 (by decide) (fun q3 => ?_) (fun q3 => ?_)
      · refine S_aload 0 dX10_goRow_72 rfl ?_
        refine S_iload_n 3 dX10_goRow_74 rfl rfl ?_
        refine S_iconst (v := 2) dX10_goRow_75 (by decide) ?_
        refine S_icmp_ne (tgt := 83) dX10_goRow_76 (by decide) (fun q4 => ?_) (fun q4 => ?_)
        · refine S_iconst (v := 0) dX10_goRow_83 (by decide) ?_
          refine S_putZ f_RX10_121 ((gI ho1) _ (vp_lt ((T.1 q1).2 (zb_t q2)).1)).1 (Or.inl rfl) rfl (by decide) dX10_goRow_84 ?_
          exact S_vret rfl dX10_goRow_87 ⟨u2 I ((o1 + 33 + 2 * x3.toNatClampNeg)) 5 0, L, M, rfl, rfl, ((((T.1 q1).2 (zb_t q2)).2.1 q3).1 q4)⟩
        · refine S_iconst (v := 1) dX10_goRow_79 (by decide) ?_
          refine S_goto (tgt := 84) dX10_goRow_80 (by decide) ?_
          refine S_putZ f_RX10_121 ((gI ho1) _ (vp_lt ((T.1 q1).2 (zb_t q2)).1)).1 (Or.inl rfl) rfl (by decide) dX10_goRow_84 ?_
          exact S_vret rfl dX10_goRow_87 ⟨u2 I ((o1 + 33 + 2 * x3.toNatClampNeg)) 5 1, L, M, rfl, rfl, ((((T.1 q1).2 (zb_t q2)).2.1 q3).2 q4)⟩
      · refine S_aload 0 dX10_goRow_36 rfl ?_
        refine S_dup dX10_goRow_38 rfl ?_
        refine S_getI f_RX10_115 ((gI ho1) _ (vp_lt ((T.1 q1).2 (zb_t q2)).1)).1 dX10_goRow_39 ?_
        refine S_aload 0 dX10_goRow_42 rfl ?_
        refine S_getI f_RX10_118 ((gI ho1) _ (vp_lt ((T.1 q1).2 (zb_t q2)).1)).1 dX10_goRow_44 ?_
        refine S_ior dX10_goRow_47 ?_
        refine S_putI f_RX10_115 ((gI ho1) _ (vp_lt ((T.1 q1).2 (zb_t q2)).1)).1 (Or.inl rfl) rfl dX10_goRow_48 ?_
        refine S_aload 0 dX10_goRow_51 rfl ?_
        refine S_iconst (v := 0) dX10_goRow_53 (by decide) ?_
        refine S_putI f_RX10_118 ((gI ho1) _ (vp_lt ((T.1 q1).2 (zb_t q2)).1)).1 (Or.inl rfl) rfl dX10_goRow_54 ?_
        refine S_aload_n 1 dX10_goRow_57 rfl rfl ?_
        refine S_getP f_RX10_46 s_0 p_0_8 dX10_goRow_58 ?_
        refine S_iload_n 4 dX10_goRow_61 rfl rfl ?_
        refine S_aald 3 (by decide) s_141 (((T.1 q1).2 (zb_t q2)).2.2 q3).1 (hL_p _ (vp_lt (((T.1 q1).2 (zb_t q2)).2.2 q3).1)) dX10_goRow_62 ?_
        refine S_aload_n 2 dX10_goRow_63 rfl rfl ?_
        refine S_aload 0 dX10_goRow_64 rfl ?_
        refine S_callV [.ref o1, .ref (o1 + 33 + 2 * x3.toNatClampNeg)] [] m_RX10_316 rfl rfl (hL _ (vp_lt (((T.1 q1).2 (zb_t q2)).2.2 q3).1)).1 ⟨rfl, by decide⟩ (Nat.le_of_ble_eq_true rfl) (zroom_0 (by decide)) dX10_goRow_66 (zCV_use (((T.1 q1).2 (zb_t q2)).2.2 q3).2 ?_)
        intro I1_4 L1_4 M1_4 T1_4
        refine S_goto (tgt := 87) dX10_goRow_69 (by decide) ?_
        exact S_vret rfl dX10_goRow_87 ⟨I1_4, L1_4, M1_4, rfl, rfl, T1_4⟩
  · refine S_aload_n 0 dX10_goRow_4 rfl rfl ?_
    refine S_aload_n 1 dX10_goRow_5 rfl rfl ?_
    refine S_callV [.ref o1] [] m_RX10_202 rfl rfl s_0 ⟨rfl, by decide⟩ (Nat.le_of_ble_eq_true rfl) (zroom_0 (by decide)) dX10_goRow_6 (zCV_use (T.2 q1) ?_)
    intro I2_2 L2_2 M2_2 T2_2
    refine S_goto (tgt := 87) dX10_goRow_9 (by decide) ?_
    exact S_vret rfl dX10_goRow_87 ⟨I2_2, L2_2, M2_2, rfl, rfl, T2_2⟩

set_option maxRecDepth 100000 in
theorem t_X10_guest {C : zC} {I : Nat → Nat → Int32} {L : Nat → Nat → Int64} {M : Nat → Nat → Option Nat} (d : Nat) (x1 : Int32) (x2 : Int32) (x3 : Int32)  (K : Int32 → (Nat → Nat → Int32) → (Nat → Nat → Int64) → (Nat → Nat → Option Nat) → Prop) (T : (((0 ≤ x1 ∧ x1 < 7) → ((¬ (0 ≤ x2 ∧ x2 ≤ 9) → K ((-2)) I L M) ∧ ((0 ≤ x2 ∧ x2 ≤ 9) → (((0 ≤ x3 ∧ x3 ≤ 4095) → (((I 3 3) < 6 → vp_in ((I 3 3)) 6 ∧ zCV C Y_X0_come (d + 2) [.ref (3 + 33 + 2 * ((I 3 3)).toNatClampNeg), .int x1, .int x2, .int x3] (zmk I L M) (fun I1_5 L1_5 M1_5 => K (((u2 I1_5 3 3 (((I1_5 3 3) + (1 : Int32)))) ((3 + 33 + 2 * ((I 3 3)).toNatClampNeg)) 0)) (u2 I1_5 3 3 (((I1_5 3 3) + (1 : Int32)))) L1_5 M1_5)) ∧ (¬ ((I 3 3) < 6) → K ((-4)) I L M))) ∧ (¬ (0 ≤ x3 ∧ x3 ≤ 4095) → K ((-2)) I L M))))) ∧ (¬ (0 ≤ x1 ∧ x1 < 7) → K ((-1)) I L M))) : zCI C Y_X10_guest (d + 3) [.ref 0, .int x1, .int x2, .int x3] (zmk I L M) K := by
  refine S_enter (by decide) (Nat.le_of_ble_eq_true rfl) ?_
  refine S_lv (lv' := [(0, .ref 0), (1, .int x1), (2, .int x2), (3, .int x3)]) rfl ?_
  refine S_iload_n 1 dX10_guest_0 rfl rfl ?_
  refine S_bipush (v := 7) dX10_guest_1 (by decide) ?_
  refine S_callS [.int x1, .int 7] [] m_RX10_85 rfl rfl (Nat.le_of_ble_eq_true rfl) (zroom_0 (by decide)) dX10_guest_3 (zpure (sp_X10_isBelow (I := I) (L := L) (M := M) (d + 1) x1 7) ?_)
  refine S_if_ne (tgt := 11) dX10_guest_6 (by decide) (fun q1 => ?_) (fun q1 => ?_)
  · refine S_iload_n 2 dX10_guest_11 rfl rfl ?_
    refine S_bipush (v := 9) dX10_guest_12 (by decide) ?_
    refine S_callS [.int x2, .int 9] [] m_RX10_89 rfl rfl (Nat.le_of_ble_eq_true rfl) (zroom_0 (by decide)) dX10_guest_14 (zpure (sp_X10_isWithin (I := I) (L := L) (M := M) (d + 1) x2 9) ?_)
    refine S_if_eq (tgt := 30) dX10_guest_17 (by decide) (fun q2 => ?_) (fun q2 => ?_)
    · refine S_bipush (v := -2) dX10_guest_30 (by decide) ?_
      exact S_ireti rfl dX10_guest_32 ⟨_, I, L, M, rfl, rfl, ((T.1 (zb_t q1)).1 (zb_f q2))⟩
    · refine S_iload_n 3 dX10_guest_20 rfl rfl ?_
      refine S_sipush (v := 4095) dX10_guest_21 (by decide) ?_
      refine S_callS [.int x3, .int 4095] [] m_RX10_89 rfl rfl (Nat.le_of_ble_eq_true rfl) (zroom_0 (by decide)) dX10_guest_24 (zpure (sp_X10_isWithin (I := I) (L := L) (M := M) (d + 1) x3 4095) ?_)
      refine S_if_ne (tgt := 33) dX10_guest_27 (by decide) (fun q3 => ?_) (fun q3 => ?_)
      · refine S_aload_n 0 dX10_guest_33 rfl rfl ?_
        refine S_getP f_RX10_23 s_0 p_0_1 dX10_guest_34 ?_
        refine S_getI f_RX10_92 (sI i0) dX10_guest_37 ?_
        refine S_bipush (v := 6) dX10_guest_40 (by decide) ?_
        refine S_icmp_lt (tgt := 48) dX10_guest_42 (by decide) (fun q4 => ?_) (fun q4 => ?_)
        · refine S_aload_n 0 dX10_guest_48 rfl rfl ?_
          refine S_getP f_RX10_23 s_0 p_0_1 dX10_guest_49 ?_
          refine S_getP f_RX10_77 (sI i0) (pI_g i0) dX10_guest_52 ?_
          refine S_aload_n 0 dX10_guest_55 rfl rfl ?_
          refine S_getP f_RX10_23 s_0 p_0_1 dX10_guest_56 ?_
          refine S_getI f_RX10_92 (sI i0) dX10_guest_59 ?_
          refine S_aald 1 (by decide) (sI_g i0) ((((T.1 (zb_t q1)).2 (zb_t q2)).1 (zb_t q3)).1 q4).1 ((gI_p i0) _ (vp_lt ((((T.1 (zb_t q1)).2 (zb_t q2)).1 (zb_t q3)).1 q4).1)) dX10_guest_62 ?_
          refine S_astore dX10_guest_63 (by decide) rfl ?_
          refine S_aload 0 dX10_guest_65 rfl ?_
          refine S_iload_n 2 dX10_guest_67 rfl rfl ?_
          refine S_iload_n 3 dX10_guest_68 rfl rfl ?_
          refine S_iload_n 4 dX10_guest_69 rfl rfl ?_
          refine S_callV [.int x1, .int x2, .int x3] [] m_RX10_96 rfl rfl ((gI i0) _ (vp_lt ((((T.1 (zb_t q1)).2 (zb_t q2)).1 (zb_t q3)).1 q4).1)).1 ⟨rfl, by decide⟩ (Nat.le_of_ble_eq_true rfl) (zroom_0 (by decide)) dX10_guest_70 (zCV_use ((((T.1 (zb_t q1)).2 (zb_t q2)).1 (zb_t q3)).1 q4).2 ?_)
          intro I1_5 L1_5 M1_5 T1_5
          refine S_aload_n 1 dX10_guest_73 rfl rfl ?_
          refine S_getP f_RX10_23 s_0 p_0_1 dX10_guest_74 ?_
          refine S_dup dX10_guest_77 rfl ?_
          refine S_getI f_RX10_92 (sI i0) dX10_guest_78 ?_
          refine S_iconst (v := 1) dX10_guest_81 (by decide) ?_
          refine S_iadd dX10_guest_82 ?_
          refine S_putI f_RX10_92 (sI i0) (Or.inl rfl) rfl dX10_guest_83 ?_
          refine S_aload 0 dX10_guest_86 rfl ?_
          refine S_getI f_RX10_102 ((gI i0) _ (vp_lt ((((T.1 (zb_t q1)).2 (zb_t q2)).1 (zb_t q3)).1 q4).1)).1 dX10_guest_88 ?_
          exact S_ireti rfl dX10_guest_91 ⟨_, u2 I1_5 3 3 (((I1_5 3 3) + (1 : Int32))), L1_5, M1_5, rfl, rfl, T1_5⟩
        · refine S_bipush (v := -4) dX10_guest_45 (by decide) ?_
          exact S_ireti rfl dX10_guest_47 ⟨_, I, L, M, rfl, rfl, ((((T.1 (zb_t q1)).2 (zb_t q2)).1 (zb_t q3)).2 q4)⟩
      · refine S_bipush (v := -2) dX10_guest_30 (by decide) ?_
        exact S_ireti rfl dX10_guest_32 ⟨_, I, L, M, rfl, rfl, (((T.1 (zb_t q1)).2 (zb_t q2)).2 (zb_f q3))⟩
  · refine S_iconst (v := -1) dX10_guest_9 (by decide) ?_
    exact S_ireti rfl dX10_guest_10 ⟨_, I, L, M, rfl, rfl, (T.2 (zb_f q1))⟩

set_option maxRecDepth 100000 in
theorem t_X10_house {C : zC} {I : Nat → Nat → Int32} {L : Nat → Nat → Int64} {M : Nat → Nat → Option Nat} (d : Nat)   (K : Int32 → (Nat → Nat → Int32) → (Nat → Nat → Int64) → (Nat → Nat → Option Nat) → Prop) (T : (((I 0 7) < 6 → vp_in ((I 0 7)) 6 ∧ zCI C Y_X4_builds (d + 7) [.ref 138, .ref (151 + 2 * ((I 0 7)).toNatClampNeg)] (zmk I L M) (fun r1_2 I1_2 L1_2 M1_2 => ((¬ r1_2 = 0 → K ((((I1_2 0 7) + (1 : Int32)) - (1 : Int32))) (u2 (u2 I1_2 138 1 0) 0 7 (((I1_2 0 7) + (1 : Int32)))) L1_2 (u2 M1_2 3 5 (some ((151 + 2 * ((I 0 7)).toNatClampNeg))))) ∧ (r1_2 = 0 → K (((-10 : Int32) - (I1_2 138 2))) (u2 I1_2 138 1 0) L1_2 M1_2)))) ∧ (¬ ((I 0 7) < 6) → K ((-4)) I L M))) : zCI C Y_X10_house (d + 8) [.ref 0] (zmk I L M) K := by
  refine S_enter (by decide) (Nat.le_of_ble_eq_true rfl) ?_
  refine S_lv (lv' := [(0, .ref 0)]) rfl ?_
  refine S_aload_n 0 dX10_house_0 rfl rfl ?_
  refine S_getI f_RX10_172 s_0 dX10_house_1 ?_
  refine S_bipush (v := 6) dX10_house_4 (by decide) ?_
  refine S_icmp_lt (tgt := 12) dX10_house_6 (by decide) (fun q1 => ?_) (fun q1 => ?_)
  · refine S_aload_n 0 dX10_house_12 rfl rfl ?_
    refine S_getP f_RX10_40 s_0 p_0_6 dX10_house_13 ?_
    refine S_aload_n 0 dX10_house_16 rfl rfl ?_
    refine S_getI f_RX10_172 s_0 dX10_house_17 ?_
    refine S_aald 2 (by decide) s_140 (T.1 q1).1 (hH_p _ (vp_lt (T.1 q1).1)) dX10_house_20 ?_
    refine S_astore_n dX10_house_21 rfl (by decide) rfl ?_
    refine S_aload_n 1 dX10_house_22 rfl rfl ?_
    refine S_getP f_RX10_36 s_0 p_0_5 dX10_house_23 ?_
    refine S_aload_n 0 dX10_house_26 rfl rfl ?_
    refine S_callV [.ref (151 + 2 * ((I 0 7)).toNatClampNeg)] [] m_RX10_175 rfl rfl s_138 ⟨rfl, by decide⟩ (Nat.le_of_ble_eq_true rfl) (zroom_0 (by decide)) dX10_house_27 (zCI_use (T.1 q1).2 ?_)
    intro r1_2 I1_2 L1_2 M1_2 T1_2
    refine S_istore_n dX10_house_30 rfl (by decide) rfl ?_
    refine S_aload_n 2 dX10_house_31 rfl rfl ?_
    refine S_getP f_RX10_36 s_0 p_0_5 dX10_house_32 ?_
    refine S_iconst (v := 0) dX10_house_35 (by decide) ?_
    refine S_putI f_RX10_169 s_138 (Or.inl rfl) rfl dX10_house_36 ?_
    refine S_iload_n 0 dX10_house_39 rfl rfl ?_
    refine S_if_ne (tgt := 54) dX10_house_40 (by decide) (fun q2 => ?_) (fun q2 => ?_)
    · refine S_aload_n 2 dX10_house_54 rfl rfl ?_
      refine S_getP f_RX10_23 s_0 p_0_1 dX10_house_55 ?_
      refine S_aload_n 1 dX10_house_58 rfl rfl ?_
      refine S_putM f_RX10_182 (sI i0) (Or.inl rfl) (Or.inl ⟨_, rfl⟩) dX10_house_59 ?_
      refine S_aload_n 2 dX10_house_62 rfl rfl ?_
      refine S_dup dX10_house_63 rfl ?_
      refine S_getI f_RX10_172 s_0 dX10_house_64 ?_
      refine S_iconst (v := 1) dX10_house_67 (by decide) ?_
      refine S_iadd dX10_house_68 ?_
      refine S_putI f_RX10_172 s_0 (Or.inl rfl) rfl dX10_house_69 ?_
      refine S_aload_n 2 dX10_house_72 rfl rfl ?_
      refine S_getI f_RX10_172 s_0 dX10_house_73 ?_
      refine S_iconst (v := 1) dX10_house_76 (by decide) ?_
      refine S_isub dX10_house_77 ?_
      exact S_ireti rfl dX10_house_78 ⟨_, u2 (u2 I1_2 138 1 0) 0 7 (((I1_2 0 7) + (1 : Int32))), L1_2, u2 M1_2 3 5 (some ((151 + 2 * ((I 0 7)).toNatClampNeg))), rfl, rfl, (T1_2.1 q2)⟩
    · refine S_bipush (v := -10) dX10_house_43 (by decide) ?_
      refine S_aload_n 2 dX10_house_45 rfl rfl ?_
      refine S_getP f_RX10_36 s_0 p_0_5 dX10_house_46 ?_
      refine S_getI f_RX10_179 s_138 dX10_house_49 ?_
      refine S_isub dX10_house_52 ?_
      exact S_ireti rfl dX10_house_53 ⟨_, u2 I1_2 138 1 0, L1_2, M1_2, rfl, rfl, (T1_2.2 q2)⟩
  · refine S_bipush (v := -4) dX10_house_9 (by decide) ?_
    exact S_ireti rfl dX10_house_11 ⟨_, I, L, M, rfl, rfl, (T.2 q1)⟩

set_option maxRecDepth 100000 in
theorem t_X10_image {C : zC} {I : Nat → Nat → Int32} {L : Nat → Nat → Int64} {M : Nat → Nat → Option Nat} (d : Nat)   (K : Int32 → (Nat → Nat → Int32) → (Nat → Nat → Int64) → (Nat → Nat → Option Nat) → Prop) (T : zCV C Y_X2_become (d + 3) [.ref 48, .ref 3] (zmk I L M) (fun I1_1 L1_1 M1_1 => K ((I1_1 3 3)) (u2 I1_1 0 4 1) L1_1 M1_1)) : zCI C Y_X10_image (d + 4) [.ref 0] (zmk I L M) K := by
  refine S_enter (by decide) (Nat.le_of_ble_eq_true rfl) ?_
  refine S_lv (lv' := [(0, .ref 0)]) rfl ?_
  refine S_aload_n 0 dX10_image_0 rfl rfl ?_
  refine S_getP f_RX10_27 s_0 p_0_2 dX10_image_1 ?_
  refine S_aload_n 0 dX10_image_4 rfl rfl ?_
  refine S_getP f_RX10_23 s_0 p_0_1 dX10_image_5 ?_
  refine S_callV [.ref 3] [] m_RX10_278 rfl rfl (sI i1) ⟨rfl, by decide⟩ (Nat.le_of_ble_eq_true rfl) (zroom_0 (by decide)) dX10_image_8 (zCV_use T ?_)
  intro I1_1 L1_1 M1_1 T1_1
  refine S_aload_n 0 dX10_image_11 rfl rfl ?_
  refine S_iconst (v := 1) dX10_image_12 (by decide) ?_
  refine S_putZ f_RX10_280 s_0 (Or.inl rfl) rfl (by decide) dX10_image_13 ?_
  refine S_aload_n 0 dX10_image_16 rfl rfl ?_
  refine S_getP f_RX10_23 s_0 p_0_1 dX10_image_17 ?_
  refine S_getI f_RX10_92 (sI i0) dX10_image_20 ?_
  exact S_ireti rfl dX10_image_23 ⟨_, u2 I1_1 0 4 1, L1_1, M1_1, rfl, rfl, T1_1⟩

set_option maxRecDepth 100000 in
theorem t_X10_isUnder {C : zC} {I : Nat → Nat → Int32} {L : Nat → Nat → Int64} {M : Nat → Nat → Option Nat} (d : Nat) (x0 : Int32) (x1 : Int32)  (K : Int32 → (Nat → Nat → Int32) → (Nat → Nat → Int64) → (Nat → Nat → Option Nat) → Prop) (T : zSI C (zmk I L M) K Y_X10_isUnder (d + 2) 4 [(1, .int x1), (2, .int x0), (3, .int 0)] [] I L M) : zCI C Y_X10_isUnder (d + 2) [.int x0, .int x1] (zmk I L M) K := by
  refine S_enter (by decide) (Nat.le_of_ble_eq_true rfl) ?_
  refine S_lv (lv' := [(0, .int x0), (1, .int x1)]) rfl ?_
  refine S_iload_n 0 dX10_isUnder_0 rfl rfl ?_
  refine S_istore_n dX10_isUnder_1 rfl (by decide) rfl ?_
  refine S_iconst (v := 0) dX10_isUnder_2 (by decide) ?_
  refine S_istore_n dX10_isUnder_3 rfl (by decide) rfl ?_
  exact S_sub [3, 1, 0] rfl T

set_option maxRecDepth 100000 in
theorem t_X10_isUnder_4 {C : zC} {I : Nat → Nat → Int32} {L : Nat → Nat → Int64} {M : Nat → Nat → Option Nat} {h0 : zH} (d : Nat)   (y1 : Int32) (y2 : Int32) (y3 : Int32) (K : Int32 → (Nat → Nat → Int32) → (Nat → Nat → Int64) → (Nat → Nat → Option Nat) → Prop) (T : ((7 ≤ y3 → K 0 I L M) ∧ (¬ (7 ≤ y3) → ((¬ (0 ≤ y2 ∧ y2 < 7) → K 0 I L M) ∧ ((0 ≤ y2 ∧ y2 < 7) → ((¬ y2 = y1 → vp_in y2 7 ∧ zSI C h0 K Y_X10_isUnder (d + 2) 4 [(1, .int y1), (2, .int (zAbove.getD y2.toNatClampNeg 0)), (3, .int (y3 + 1))] [] I L M) ∧ (y2 = y1 → K 1 I L M))))))) : zSI C h0 K Y_X10_isUnder (d + 2) 4 [(1, .int y1), (2, .int y2), (3, .int y3)] [] I L M := by
  refine S_iload_n 2 dX10_isUnder_4 rfl rfl ?_
  refine S_bipush (v := 7) dX10_isUnder_5 (by decide) ?_
  refine S_icmp_ge (tgt := 38) dX10_isUnder_7 (by decide) (fun q1 => ?_) (fun q1 => ?_)
  · refine S_iconst (v := 0) dX10_isUnder_38 (by decide) ?_
    exact S_iretz rfl (by decide) dX10_isUnder_39 ⟨_, I, L, M, rfl, rfl, (T.1 q1)⟩
  · refine S_iload_n 1 dX10_isUnder_10 rfl rfl ?_
    refine S_bipush (v := 7) dX10_isUnder_11 (by decide) ?_
    refine S_callS [.int y2, .int 7] [] m_RX10_85 rfl rfl (Nat.le_of_ble_eq_true rfl) (zroom_0 (by decide)) dX10_isUnder_13 (zpure (sp_X10_isBelow (I := I) (L := L) (M := M) (d + 0) y2 7) ?_)
    refine S_if_eq (tgt := 38) dX10_isUnder_16 (by decide) (fun q2 => ?_) (fun q2 => ?_)
    · refine S_iconst (v := 0) dX10_isUnder_38 (by decide) ?_
      exact S_iretz rfl (by decide) dX10_isUnder_39 ⟨_, I, L, M, rfl, rfl, ((T.2 q1).1 (zb_f q2))⟩
    · refine S_iload_n 1 dX10_isUnder_19 rfl rfl ?_
      refine S_iload_n 0 dX10_isUnder_20 rfl rfl ?_
      refine S_icmp_ne (tgt := 26) dX10_isUnder_21 (by decide) (fun q3 => ?_) (fun q3 => ?_)
      · refine S_above g_RX10_313 dX10_isUnder_26 ?_
        refine S_iload_n 1 dX10_isUnder_29 rfl rfl ?_
        refine S_ab_ld (((T.2 q1).2 (zb_t q2)).1 q3).1 dX10_isUnder_30 ?_
        refine S_istore_n dX10_isUnder_31 rfl (by decide) rfl ?_
        refine S_iinc 2 dX10_isUnder_32 rfl rfl (by decide) rfl ?_
        refine S_goto (tgt := 4) dX10_isUnder_35 (by decide) ?_
        exact S_sub [2, 1, 0] rfl (((T.2 q1).2 (zb_t q2)).1 q3).2
      · refine S_iconst (v := 1) dX10_isUnder_24 (by decide) ?_
        exact S_iretz rfl (by decide) dX10_isUnder_25 ⟨_, I, L, M, rfl, rfl, (((T.2 q1).2 (zb_t q2)).2 q3)⟩

set_option maxRecDepth 100000 in
theorem t_X10_item {C : zC} {I : Nat → Nat → Int32} {L : Nat → Nat → Int64} {M : Nat → Nat → Option Nat} (d : Nat) (x1 : Int32) (x2 : Int32) (x3 : Int64)  (K : Int32 → (Nat → Nat → Int32) → (Nat → Nat → Int64) → (Nat → Nat → Option Nat) → Prop) (T : (((0 ≤ x1 ∧ x1 < 6) → vp_in x1 6 ∧ ((¬ (I ((253 + 2 * x1.toNatClampNeg)) 0) = (-1) → (((0 ≤ x2 ∧ 0 ≤ (1 : Int32) ∧ 1 ≤ I ((253 + 2 * x1.toNatClampNeg)) 1 ∧ x2 ≤ I ((253 + 2 * x1.toNatClampNeg)) 1 - 1) → zCL C Y_X9_cut (d + 1) [.ref (253 + 2 * x1.toNatClampNeg), .long x3] (zmk I L M) (fun r1_4 I1_4 L1_4 M1_4 => vp_in x2 60 ∧ K 1 I1_4 (u2 L1_4 (((253 + 2 * x1.toNatClampNeg) + 1)) x2.toNatClampNeg r1_4) M1_4)) ∧ (¬ (0 ≤ x2 ∧ 0 ≤ (1 : Int32) ∧ 1 ≤ I ((253 + 2 * x1.toNatClampNeg)) 1 ∧ x2 ≤ I ((253 + 2 * x1.toNatClampNeg)) 1 - 1) → K ((-13)) I L M))) ∧ ((I ((253 + 2 * x1.toNatClampNeg)) 0) = (-1) → K ((-11)) I L M))) ∧ (¬ (0 ≤ x1 ∧ x1 < 6) → K ((-1)) I L M))) : zCI C Y_X10_item (d + 2) [.ref 0, .int x1, .int x2, .long x3] (zmk I L M) K := by
  refine S_enter (by decide) (Nat.le_of_ble_eq_true rfl) ?_
  refine S_lv (lv' := [(0, .ref 0), (1, .int x1), (2, .int x2), (3, .long x3)]) rfl ?_
  refine S_iload_n 1 dX10_item_0 rfl rfl ?_
  refine S_bipush (v := 6) dX10_item_1 (by decide) ?_
  refine S_callS [.int x1, .int 6] [] m_RX10_85 rfl rfl (Nat.le_of_ble_eq_true rfl) (zroom_0 (by decide)) dX10_item_3 (zpure (sp_X10_isBelow (I := I) (L := L) (M := M) (d + 0) x1 6) ?_)
  refine S_if_ne (tgt := 11) dX10_item_6 (by decide) (fun q1 => ?_) (fun q1 => ?_)
  · refine S_aload_n 0 dX10_item_11 rfl rfl ?_
    refine S_getP f_RX10_73 s_0 p_0_12 dX10_item_12 ?_
    refine S_iload_n 1 dX10_item_15 rfl rfl ?_
    refine S_aald 4 (by decide) s_150 (T.1 (zb_t q1)).1 (hT_p _ (vp_lt (T.1 (zb_t q1)).1)) dX10_item_16 ?_
    refine S_astore dX10_item_17 (by decide) rfl ?_
    refine S_aload 0 dX10_item_19 rfl ?_
    refine S_getI f_RX10_267 (hT _ (vp_lt (T.1 (zb_t q1)).1)).1 dX10_item_21 ?_
    refine S_iconst (v := -1) dX10_item_24 (by decide) ?_
    refine S_icmp_ne (tgt := 31) dX10_item_25 (by decide) (fun q2 => ?_) (fun q2 => ?_)
    · refine S_aload 0 dX10_item_31 rfl ?_
      refine S_iload_n 3 dX10_item_33 rfl rfl ?_
      refine S_iconst (v := 1) dX10_item_34 (by decide) ?_
      refine S_callV [.int x2, .int 1] [] m_RX10_270 rfl rfl (hT _ (vp_lt (T.1 (zb_t q1)).1)).1 ⟨rfl, by decide⟩ (Nat.le_of_ble_eq_true rfl) (zroom_0 (by decide)) dX10_item_35 (zpure (sp_X9_isPart (I := I) (L := L) (M := M) (d + 0) (hT _ (vp_lt (T.1 (zb_t q1)).1)) x2 1) ?_)
      refine S_if_ne (tgt := 44) dX10_item_38 (by decide) (fun q3 => ?_) (fun q3 => ?_)
      · refine S_aload 0 dX10_item_44 rfl ?_
        refine S_getP f_RX10_274 (hT _ (vp_lt (T.1 (zb_t q1)).1)).1 (hT _ (vp_lt (T.1 (zb_t q1)).1)).2.1 dX10_item_46 ?_
        refine S_iload_n 3 dX10_item_49 rfl rfl ?_
        refine S_aload 0 dX10_item_50 rfl ?_
        refine S_lload_n 4 dX10_item_52 rfl rfl ?_
        refine S_callV [.long x3] [.int x2, .ref ((253 + 2 * x1.toNatClampNeg) + 1)] m_RX10_303 rfl rfl (hT _ (vp_lt (T.1 (zb_t q1)).1)).1 ⟨rfl, by decide⟩ (Nat.le_of_ble_eq_true rfl) (zroom_0 (by decide)) dX10_item_53 (zCL_use (((T.1 (zb_t q1)).2.1 q2).1 (zb_t q3)) ?_)
        intro r1_4 I1_4 L1_4 M1_4 T1_4
        refine S_last (hT _ (vp_lt (T.1 (zb_t q1)).1)).2.2 T1_4.1 dX10_item_56 ?_
        refine S_iconst (v := 1) dX10_item_57 (by decide) ?_
        exact S_ireti rfl dX10_item_58 ⟨_, I1_4, u2 L1_4 (((253 + 2 * x1.toNatClampNeg) + 1)) x2.toNatClampNeg r1_4, M1_4, rfl, rfl, T1_4.2⟩
      · refine S_bipush (v := -13) dX10_item_41 (by decide) ?_
        exact S_ireti rfl dX10_item_43 ⟨_, I, L, M, rfl, rfl, (((T.1 (zb_t q1)).2.1 q2).2 (zb_f q3))⟩
    · refine S_bipush (v := -11) dX10_item_28 (by decide) ?_
      exact S_ireti rfl dX10_item_30 ⟨_, I, L, M, rfl, rfl, ((T.1 (zb_t q1)).2.2 q2)⟩
  · refine S_iconst (v := -1) dX10_item_9 (by decide) ?_
    exact S_ireti rfl dX10_item_10 ⟨_, I, L, M, rfl, rfl, (T.2 (zb_f q1))⟩

set_option maxRecDepth 100000 in
theorem t_X10_judge {C : zC} {I : Nat → Nat → Int32} {L : Nat → Nat → Int64} {M : Nat → Nat → Option Nat} (d : Nat) (x1 : Int32) (x2 : Int32)  (K : Int32 → (Nat → Nat → Int32) → (Nat → Nat → Int64) → (Nat → Nat → Option Nat) → Prop) (T : (((0 ≤ x1 ∧ x1 < 6) → vp_in x1 6 ∧ (((I ((253 + 2 * x1.toNatClampNeg)) 0) = 0 → zSI C (zmk I L M) K Y_X10_judge (d + 2) 36 [(0, .ref 0), (2, .int x2), (3, .ref (253 + 2 * x1.toNatClampNeg))] [] I L M) ∧ (¬ ((I ((253 + 2 * x1.toNatClampNeg)) 0) = 0) → (((I ((253 + 2 * x1.toNatClampNeg)) 0) = (-1) → zSI C (zmk I L M) K Y_X10_judge (d + 2) 36 [(0, .ref 0), (2, .int x2), (3, .ref (253 + 2 * x1.toNatClampNeg))] [] I L M) ∧ (¬ ((I ((253 + 2 * x1.toNatClampNeg)) 0) = (-1)) → K ((-12)) I L M))))) ∧ (¬ (0 ≤ x1 ∧ x1 < 6) → K ((-1)) I L M))) : zCI C Y_X10_judge (d + 2) [.ref 0, .int x1, .int x2] (zmk I L M) K := by
  refine S_enter (by decide) (Nat.le_of_ble_eq_true rfl) ?_
  refine S_lv (lv' := [(0, .ref 0), (1, .int x1), (2, .int x2)]) rfl ?_
  refine S_iload_n 1 dX10_judge_0 rfl rfl ?_
  refine S_bipush (v := 6) dX10_judge_1 (by decide) ?_
  refine S_callS [.int x1, .int 6] [] m_RX10_85 rfl rfl (Nat.le_of_ble_eq_true rfl) (zroom_0 (by decide)) dX10_judge_3 (zpure (sp_X10_isBelow (I := I) (L := L) (M := M) (d + 0) x1 6) ?_)
  refine S_if_ne (tgt := 11) dX10_judge_6 (by decide) (fun q1 => ?_) (fun q1 => ?_)
  · refine S_aload_n 0 dX10_judge_11 rfl rfl ?_
    refine S_getP f_RX10_73 s_0 p_0_12 dX10_judge_12 ?_
    refine S_iload_n 1 dX10_judge_15 rfl rfl ?_
    refine S_aald 4 (by decide) s_150 (T.1 (zb_t q1)).1 (hT_p _ (vp_lt (T.1 (zb_t q1)).1)) dX10_judge_16 ?_
    refine S_astore_n dX10_judge_17 rfl (by decide) rfl ?_
    refine S_aload_n 0 dX10_judge_18 rfl rfl ?_
    refine S_getI f_RX10_267 (hT _ (vp_lt (T.1 (zb_t q1)).1)).1 dX10_judge_19 ?_
    refine S_if_eq (tgt := 36) dX10_judge_22 (by decide) (fun q2 => ?_) (fun q2 => ?_)
    · exact S_sub [1, 3, 0] rfl ((T.1 (zb_t q1)).2.1 q2)
    · refine S_aload_n 0 dX10_judge_25 rfl rfl ?_
      refine S_getI f_RX10_267 (hT _ (vp_lt (T.1 (zb_t q1)).1)).1 dX10_judge_26 ?_
      refine S_iconst (v := -1) dX10_judge_29 (by decide) ?_
      refine S_icmp_eq (tgt := 36) dX10_judge_30 (by decide) (fun q3 => ?_) (fun q3 => ?_)
      · exact S_sub [1, 3, 0] rfl (((T.1 (zb_t q1)).2.2 q2).1 q3)
      · refine S_bipush (v := -12) dX10_judge_33 (by decide) ?_
        exact S_ireti rfl dX10_judge_35 ⟨_, I, L, M, rfl, rfl, (((T.1 (zb_t q1)).2.2 q2).2 q3)⟩
  · refine S_iconst (v := -1) dX10_judge_9 (by decide) ?_
    exact S_ireti rfl dX10_judge_10 ⟨_, I, L, M, rfl, rfl, (T.2 (zb_f q1))⟩

set_option maxRecDepth 100000 in
theorem t_X10_judge_36 {C : zC} {I : Nat → Nat → Int32} {L : Nat → Nat → Int64} {M : Nat → Nat → Option Nat} {h0 : zH} (d : Nat)  {a_l3 : Nat} (e_l3 : zTa a_l3) (y2 : Int32) (K : Int32 → (Nat → Nat → Int32) → (Nat → Nat → Int64) → (Nat → Nat → Option Nat) → Prop) (T : ((¬ (0 ≤ y2 ∧ 0 ≤ (0 : Int32) ∧ 0 ≤ I a_l3 1 ∧ y2 ≤ I a_l3 1 - 0) → zSI C h0 K Y_X10_judge (d + 2) 60 [(0, .ref 0), (2, .int y2), (3, .ref a_l3), (4, .int 0), (5, .int 0)] [] I L M) ∧ ((0 ≤ y2 ∧ 0 ≤ (0 : Int32) ∧ 0 ≤ I a_l3 1 ∧ y2 ≤ I a_l3 1 - 0) → zSI C h0 K Y_X10_judge (d + 2) 60 [(0, .ref 0), (2, .int y2), (3, .ref a_l3), (4, .int ((I a_l3 1) - y2)), (5, .int 0)] [] I L M))) : zSI C h0 K Y_X10_judge (d + 2) 36 [(0, .ref 0), (2, .int y2), (3, .ref a_l3)] [] I L M := by
  refine S_aload_n 2 dX10_judge_36 rfl rfl ?_
  refine S_iload_n 1 dX10_judge_37 rfl rfl ?_
  refine S_iconst (v := 0) dX10_judge_38 (by decide) ?_
  refine S_callV [.int y2, .int 0] [] m_RX10_270 rfl rfl e_l3.1 ⟨rfl, by decide⟩ (Nat.le_of_ble_eq_true rfl) (zroom_0 (by decide)) dX10_judge_39 (zpure (sp_X9_isPart (I := I) (L := L) (M := M) (d + 0) e_l3 y2 0) ?_)
  refine S_if_eq (tgt := 54) dX10_judge_42 (by decide) (fun q1 => ?_) (fun q1 => ?_)
  · refine S_iconst (v := 0) dX10_judge_54 (by decide) ?_
    refine S_istore dX10_judge_55 (by decide) rfl ?_
    refine S_iconst (v := 0) dX10_judge_57 (by decide) ?_
    refine S_istore dX10_judge_58 (by decide) rfl ?_
    exact S_sub [2, 3, 4, 1, 0] rfl (T.1 (zb_f q1))
  · refine S_aload_n 2 dX10_judge_45 rfl rfl ?_
    refine S_getI f_RX10_273 e_l3.1 dX10_judge_46 ?_
    refine S_iload_n 1 dX10_judge_49 rfl rfl ?_
    refine S_isub dX10_judge_50 ?_
    refine S_goto (tgt := 55) dX10_judge_51 (by decide) ?_
    refine S_istore dX10_judge_55 (by decide) rfl ?_
    refine S_iconst (v := 0) dX10_judge_57 (by decide) ?_
    refine S_istore dX10_judge_58 (by decide) rfl ?_
    exact S_sub [2, 3, 4, 1, 0] rfl (T.2 (zb_t q1))

set_option maxRecDepth 100000 in
theorem t_X10_judge_60 {C : zC} {I : Nat → Nat → Int32} {L : Nat → Nat → Int64} {M : Nat → Nat → Option Nat} {h0 : zH} (d : Nat)  {a_l3 : Nat} (e_l3 : zTa a_l3) (y2 : Int32) (y4 : Int32) (y5 : Int32) (K : Int32 → (Nat → Nat → Int32) → (Nat → Nat → Int64) → (Nat → Nat → Option Nat) → Prop) (T : ((12 ≤ y5 → K ((-5)) I L M) ∧ (¬ (12 ≤ y5) → ((y5 < y4 → vp_in ((y2 + y5)) 60 ∧ vp_in y5 12 ∧ (((lg_cmp (L ((a_l3 + 1)) (((y2 + y5)).toNatClampNeg)) (((I 5 y5.toNatClampNeg) : Int32).toInt64)) = 0 → zSI C h0 K Y_X10_judge (d + 2) 60 [(0, .ref 0), (2, .int y2), (3, .ref a_l3), (4, .int y4), (5, .int (y5 + 1))] [] I L M) ∧ (¬ ((lg_cmp (L ((a_l3 + 1)) (((y2 + y5)).toNatClampNeg)) (((I 5 y5.toNatClampNeg) : Int32).toInt64)) = 0) → K y5 I L M))) ∧ (¬ (y5 < y4) → K (((100 : Int32) + y5)) I L M))))) : zSI C h0 K Y_X10_judge (d + 2) 60 [(0, .ref 0), (2, .int y2), (3, .ref a_l3), (4, .int y4), (5, .int y5)] [] I L M := by
  refine S_iload 4 dX10_judge_60 rfl ?_
  refine S_bipush (v := 12) dX10_judge_62 (by decide) ?_
  refine S_icmp_ge (tgt := 113) dX10_judge_64 (by decide) (fun q1 => ?_) (fun q1 => ?_)
  · refine S_bipush (v := -5) dX10_judge_113 (by decide) ?_
    exact S_ireti rfl dX10_judge_115 ⟨_, I, L, M, rfl, rfl, (T.1 q1)⟩
  · refine S_iload 4 dX10_judge_67 rfl ?_
    refine S_iload 3 dX10_judge_69 rfl ?_
    refine S_icmp_lt (tgt := 80) dX10_judge_71 (by decide) (fun q2 => ?_) (fun q2 => ?_)
    · refine S_aload_n 2 dX10_judge_80 rfl rfl ?_
      refine S_getP f_RX10_274 e_l3.1 e_l3.2.1 dX10_judge_81 ?_
      refine S_iload_n 1 dX10_judge_84 rfl rfl ?_
      refine S_iload 4 dX10_judge_85 rfl ?_
      refine S_iadd dX10_judge_87 ?_
      refine S_lald e_l3.2.2 ((T.2 q1).1 q2).1 dX10_judge_88 ?_
      refine S_aload_n 0 dX10_judge_89 rfl rfl ?_
      refine S_getP f_RX10_23 s_0 p_0_1 dX10_judge_90 ?_
      refine S_getP f_RX10_160 (sI i0) (pI_c i0) dX10_judge_93 ?_
      refine S_iload 4 dX10_judge_96 rfl ?_
      refine S_iald (sI_c i0) ((T.2 q1).1 q2).2.1 dX10_judge_98 ?_
      refine S_i2l dX10_judge_99 ?_
      refine S_lcmp dX10_judge_100 ?_
      refine S_if_eq (tgt := 107) dX10_judge_101 (by decide) (fun q3 => ?_) (fun q3 => ?_)
      · refine S_iinc 4 dX10_judge_107 rfl rfl (by decide) rfl ?_
        refine S_goto (tgt := 60) dX10_judge_110 (by decide) ?_
        exact S_sub [1, 2, 3, 4, 0] rfl (((T.2 q1).1 q2).2.2.1 q3)
      · refine S_iload 4 dX10_judge_104 rfl ?_
        exact S_ireti rfl dX10_judge_106 ⟨_, I, L, M, rfl, rfl, (((T.2 q1).1 q2).2.2.2 q3)⟩
    · refine S_bipush (v := 100) dX10_judge_74 (by decide) ?_
      refine S_iload 4 dX10_judge_76 rfl ?_
      refine S_iadd dX10_judge_78 ?_
      exact S_ireti rfl dX10_judge_79 ⟨_, I, L, M, rfl, rfl, ((T.2 q1).2 q2)⟩

set_option maxRecDepth 100000 in
theorem t_X10_keeps {C : zC} {I : Nat → Nat → Int32} {L : Nat → Nat → Int64} {M : Nat → Nat → Option Nat} (d : Nat) {o1 : Nat} (x2 : Int32) (x3 : Int32) (x4 : Int32) (ho1 : zLu o1) (K : Int32 → (Nat → Nat → Int32) → (Nat → Nat → Int64) → (Nat → Nat → Option Nat) → Prop) (T : zSI C (zmk I L M) K Y_X10_keeps (d + 5) 6 [(0, .ref 0), (1, .ref o1), (3, .int x3), (4, .int x4), (5, .int x2), (6, .int 0)] [] I L M) : zCI C Y_X10_keeps (d + 5) [.ref 0, .ref o1, .int x2, .int x3, .int x4] (zmk I L M) K := by
  refine S_enter (by decide) (Nat.le_of_ble_eq_true rfl) ?_
  refine S_lv (lv' := [(0, .ref 0), (1, .ref o1), (2, .int x2), (3, .int x3), (4, .int x4)]) rfl ?_
  refine S_iload_n 2 dX10_keeps_0 rfl rfl ?_
  refine S_istore dX10_keeps_1 (by decide) rfl ?_
  refine S_iconst (v := 0) dX10_keeps_3 (by decide) ?_
  refine S_istore dX10_keeps_4 (by decide) rfl ?_
  exact S_sub [2, 3, 5, 6, 1, 0] rfl T

set_option maxRecDepth 100000 in
theorem t_X10_keeps_6 {C : zC} {I : Nat → Nat → Int32} {L : Nat → Nat → Int64} {M : Nat → Nat → Option Nat} {h0 : zH} (d : Nat) {o1 : Nat} (ho1 : zLu o1)  (y3 : Int32) (y4 : Int32) (y5 : Int32) (y6 : Int32) (K : Int32 → (Nat → Nat → Int32) → (Nat → Nat → Int64) → (Nat → Nat → Option Nat) → Prop) (T : ((y4 ≤ y6 → K ((zb (zhas y5 y3))) I L M) ∧ (¬ (y4 ≤ y6) → ((¬ (zhas y5 y3) → K ((zb (zhas y5 y3))) I L M) ∧ ((zhas y5 y3) → zCI C Y_X3_prey (d + 4) [.ref o1, .int y5, .int ((I 3 4) + y6)] (zmk I L M) (fun r1_3 I1_3 L1_3 M1_3 => zSI C h0 K Y_X10_keeps (d + 5) 6 [(0, .ref 0), (1, .ref o1), (3, .int y3), (4, .int y4), (5, .int (zwo y5 r1_3)), (6, .int (y6 + 1))] [] I1_3 L1_3 M1_3)))))) : zSI C h0 K Y_X10_keeps (d + 5) 6 [(0, .ref 0), (1, .ref o1), (3, .int y3), (4, .int y4), (5, .int y5), (6, .int y6)] [] I L M := by
  refine S_iload 5 dX10_keeps_6 rfl ?_
  refine S_iload 3 dX10_keeps_8 rfl ?_
  refine S_icmp_ge (tgt := 51) dX10_keeps_10 (by decide) (fun q1 => ?_) (fun q1 => ?_)
  · refine S_iload 4 dX10_keeps_51 rfl ?_
    refine S_iload_n 2 dX10_keeps_53 rfl rfl ?_
    refine S_callS [.int y5, .int y3] [] m_RX10_157 rfl rfl (Nat.le_of_ble_eq_true rfl) (zroom_0 (by decide)) dX10_keeps_54 (zpure (sp_X10_has (I := I) (L := L) (M := M) (d + 3) y5 y3) ?_)
    exact S_iretz rfl zb_01 dX10_keeps_57 ⟨_, I, L, M, rfl, rfl, (T.1 q1)⟩
  · refine S_iload 4 dX10_keeps_13 rfl ?_
    refine S_iload_n 2 dX10_keeps_15 rfl rfl ?_
    refine S_callS [.int y5, .int y3] [] m_RX10_157 rfl rfl (Nat.le_of_ble_eq_true rfl) (zroom_0 (by decide)) dX10_keeps_16 (zpure (sp_X10_has (I := I) (L := L) (M := M) (d + 3) y5 y3) ?_)
    refine S_if_eq (tgt := 51) dX10_keeps_19 (by decide) (fun q2 => ?_) (fun q2 => ?_)
    · refine S_iload 4 dX10_keeps_51 rfl ?_
      refine S_iload_n 2 dX10_keeps_53 rfl rfl ?_
      refine S_callS [.int y5, .int y3] [] m_RX10_157 rfl rfl (Nat.le_of_ble_eq_true rfl) (zroom_0 (by decide)) dX10_keeps_54 (zpure (sp_X10_has (I := I) (L := L) (M := M) (d + 3) y5 y3) ?_)
      exact S_iretz rfl zb_01 dX10_keeps_57 ⟨_, I, L, M, rfl, rfl, ((T.2 q1).1 (zb_f q2))⟩
    · refine S_iload 4 dX10_keeps_22 rfl ?_
      refine S_aload_n 1 dX10_keeps_24 rfl rfl ?_
      refine S_iload 4 dX10_keeps_25 rfl ?_
      refine S_aload_n 0 dX10_keeps_27 rfl rfl ?_
      refine S_getP f_RX10_23 s_0 p_0_1 dX10_keeps_28 ?_
      refine S_getI f_RX10_129 (sI i0) dX10_keeps_31 ?_
      refine S_iload 5 dX10_keeps_34 rfl ?_
      refine S_iadd dX10_keeps_36 ?_
      refine S_callV [.int y5, .int ((I 3 4) + y6)] [.int y5] m_RX10_132 rfl rfl ho1.1 ⟨rfl, by decide⟩ (Nat.le_of_ble_eq_true rfl) (zroom_0 (by decide)) dX10_keeps_37 (zCI_use ((T.2 q1).2 (zb_t q2)) ?_)
      intro r1_3 I1_3 L1_3 M1_3 T1_3
      refine S_callS [.int y5, .int r1_3] [] m_RX10_209 rfl rfl (Nat.le_of_ble_eq_true rfl) (zroom_0 (by decide)) dX10_keeps_40 (zpure (sp_X10_without (I := I1_3) (L := L1_3) (M := M1_3) (d + 1) y5 r1_3) ?_)
      refine S_istore dX10_keeps_43 (by decide) rfl ?_
      refine S_iinc 5 dX10_keeps_45 rfl rfl (by decide) rfl ?_
      refine S_goto (tgt := 6) dX10_keeps_48 (by decide) ?_
      exact S_sub [2, 3, 4, 5, 1, 0] rfl T1_3

set_option maxRecDepth 100000 in
theorem t_X10_lasts {C : zC} {I : Nat → Nat → Int32} {L : Nat → Nat → Int64} {M : Nat → Nat → Option Nat} (d : Nat) (x1 : Int32) (x2 : Int32)  (K : Int32 → (Nat → Nat → Int32) → (Nat → Nat → Int64) → (Nat → Nat → Option Nat) → Prop) (T : ((¬ (0 ≤ x1 ∧ x1 < I 3 3) → K ((-1)) I L M) ∧ ((0 ≤ x1 ∧ x1 < I 3 3) → (((0 ≤ x2 ∧ x2 < 12) → vp_in x1 6 ∧ (((zhas ((I ((3 + 33 + 2 * x1.toNatClampNeg)) 3)) x2) → zCR C Y_X10_lureOf (d + 4) [.ref 0, .ref (3 + 33 + 2 * x1.toNatClampNeg)] (zmk I L M) (fun r1_4 I1_4 L1_4 M1_4 => zLu r1_4 ∧ zSI C (zmk I L M) K Y_X10_lasts (d + 5) 57 [(0, .ref 0), (2, .int x2), (4, .ref r1_4), (5, .int (I1_4 ((3 + 33 + 2 * x1.toNatClampNeg)) 3)), (6, .int 1)] [] I1_4 L1_4 M1_4)) ∧ (¬ (zhas ((I ((3 + 33 + 2 * x1.toNatClampNeg)) 3)) x2) → K ((-5)) I L M))) ∧ (¬ (0 ≤ x2 ∧ x2 < 12) → K ((-1)) I L M))))) : zCI C Y_X10_lasts (d + 5) [.ref 0, .int x1, .int x2] (zmk I L M) K := by
  refine S_enter (by decide) (Nat.le_of_ble_eq_true rfl) ?_
  refine S_lv (lv' := [(0, .ref 0), (1, .int x1), (2, .int x2)]) rfl ?_
  refine S_aload_n 0 dX10_lasts_0 rfl rfl ?_
  refine S_iload_n 1 dX10_lasts_1 rfl rfl ?_
  refine S_callV [.int x1] [] m_RX10_105 rfl rfl s_0 ⟨rfl, by decide⟩ (Nat.le_of_ble_eq_true rfl) (zroom_0 (by decide)) dX10_lasts_2 (zpure (sp_X10_isGuest (I := I) (L := L) (M := M) (d + 2) x1) ?_)
  refine S_if_eq (tgt := 15) dX10_lasts_5 (by decide) (fun q1 => ?_) (fun q1 => ?_)
  · refine S_iconst (v := -1) dX10_lasts_15 (by decide) ?_
    exact S_ireti rfl dX10_lasts_16 ⟨_, I, L, M, rfl, rfl, (T.1 (zb_f q1))⟩
  · refine S_iload_n 2 dX10_lasts_8 rfl rfl ?_
    refine S_callS [.int x2] [] m_RX10_143 rfl rfl (Nat.le_of_ble_eq_true rfl) (zroom_0 (by decide)) dX10_lasts_9 (zpure (sp_X10_isPurpose (I := I) (L := L) (M := M) (d + 2) x2) ?_)
    refine S_if_ne (tgt := 17) dX10_lasts_12 (by decide) (fun q2 => ?_) (fun q2 => ?_)
    · refine S_aload_n 0 dX10_lasts_17 rfl rfl ?_
      refine S_getP f_RX10_23 s_0 p_0_1 dX10_lasts_18 ?_
      refine S_getP f_RX10_77 (sI i0) (pI_g i0) dX10_lasts_21 ?_
      refine S_iload_n 1 dX10_lasts_24 rfl rfl ?_
      refine S_aald 1 (by decide) (sI_g i0) ((T.2 (zb_t q1)).1 (zb_t q2)).1 ((gI_p i0) _ (vp_lt ((T.2 (zb_t q1)).1 (zb_t q2)).1)) dX10_lasts_25 ?_
      refine S_astore_n dX10_lasts_26 rfl (by decide) rfl ?_
      refine S_aload_n 0 dX10_lasts_27 rfl rfl ?_
      refine S_getI f_RX10_115 ((gI i0) _ (vp_lt ((T.2 (zb_t q1)).1 (zb_t q2)).1)).1 dX10_lasts_28 ?_
      refine S_iload_n 3 dX10_lasts_31 rfl rfl ?_
      refine S_callS [.int (I ((3 + 33 + 2 * x1.toNatClampNeg)) 3), .int x2] [] m_RX10_157 rfl rfl (Nat.le_of_ble_eq_true rfl) (zroom_0 (by decide)) dX10_lasts_32 (zpure (sp_X10_has (I := I) (L := L) (M := M) (d + 3) ((I ((3 + 33 + 2 * x1.toNatClampNeg)) 3)) x2) ?_)
      refine S_if_ne (tgt := 41) dX10_lasts_35 (by decide) (fun q3 => ?_) (fun q3 => ?_)
      · refine S_aload_n 1 dX10_lasts_41 rfl rfl ?_
        refine S_aload_n 0 dX10_lasts_42 rfl rfl ?_
        refine S_callV [.ref (3 + 33 + 2 * x1.toNatClampNeg)] [] m_RX10_125 rfl rfl s_0 ⟨rfl, by decide⟩ (Nat.le_of_ble_eq_true rfl) (zroom_0 (by decide)) dX10_lasts_43 (zCR_use (((T.2 (zb_t q1)).1 (zb_t q2)).2.1 (zb_t q3)) ?_)
        rintro r1_4 I1_4 L1_4 M1_4 ⟨w1_4, T1_4⟩
        refine S_astore dX10_lasts_46 (by decide) rfl ?_
        refine S_aload_n 1 dX10_lasts_48 rfl rfl ?_
        refine S_getI f_RX10_115 ((gI i0) _ (vp_lt ((T.2 (zb_t q1)).1 (zb_t q2)).1)).1 dX10_lasts_49 ?_
        refine S_istore dX10_lasts_52 (by decide) rfl ?_
        refine S_iconst (v := 1) dX10_lasts_54 (by decide) ?_
        refine S_istore dX10_lasts_55 (by decide) rfl ?_
        exact S_sub [4, 6, 2, 1, 0] rfl T1_4
      · refine S_bipush (v := -5) dX10_lasts_38 (by decide) ?_
        exact S_ireti rfl dX10_lasts_40 ⟨_, I, L, M, rfl, rfl, (((T.2 (zb_t q1)).1 (zb_t q2)).2.2 (zb_f q3))⟩
    · refine S_iconst (v := -1) dX10_lasts_15 (by decide) ?_
      exact S_ireti rfl dX10_lasts_16 ⟨_, I, L, M, rfl, rfl, ((T.2 (zb_t q1)).2 (zb_f q2))⟩

set_option maxRecDepth 100000 in
theorem t_X10_lasts_57 {C : zC} {I : Nat → Nat → Int32} {L : Nat → Nat → Int64} {M : Nat → Nat → Option Nat} {h0 : zH} (d : Nat)  {r1_4 : Nat} (w1_4 : zLu r1_4) (y2 : Int32) (y5 : Int32) (y6 : Int32) (K : Int32 → (Nat → Nat → Int32) → (Nat → Nat → Int64) → (Nat → Nat → Option Nat) → Prop) (T : ((60 < y6 → K ((-5)) I L M) ∧ (¬ (60 < y6) → zCI C Y_X3_prey (d + 4) [.ref r1_4, .int y5, .int (((I 3 4) + y6) - (1 : Int32))] (zmk I L M) (fun r1_2 I1_2 L1_2 M1_2 => (((zhas ((zwo y5 r1_2)) y2) → zSI C h0 K Y_X10_lasts (d + 5) 57 [(0, .ref 0), (2, .int y2), (4, .ref r1_4), (5, .int (zwo y5 r1_2)), (6, .int (y6 + 1))] [] I1_2 L1_2 M1_2) ∧ (¬ (zhas ((zwo y5 r1_2)) y2) → K y6 I1_2 L1_2 M1_2)))))) : zSI C h0 K Y_X10_lasts (d + 5) 57 [(0, .ref 0), (2, .int y2), (4, .ref r1_4), (5, .int y5), (6, .int y6)] [] I L M := by
  refine S_iload 4 dX10_lasts_57 rfl ?_
  refine S_bipush (v := 60) dX10_lasts_59 (by decide) ?_
  refine S_icmp_gt (tgt := 108) dX10_lasts_61 (by decide) (fun q1 => ?_) (fun q1 => ?_)
  · refine S_bipush (v := -5) dX10_lasts_108 (by decide) ?_
    exact S_ireti rfl dX10_lasts_110 ⟨_, I, L, M, rfl, rfl, (T.1 q1)⟩
  · refine S_iload 3 dX10_lasts_64 rfl ?_
    refine S_aload 2 dX10_lasts_66 rfl ?_
    refine S_iload 3 dX10_lasts_68 rfl ?_
    refine S_aload_n 0 dX10_lasts_70 rfl rfl ?_
    refine S_getP f_RX10_23 s_0 p_0_1 dX10_lasts_71 ?_
    refine S_getI f_RX10_129 (sI i0) dX10_lasts_74 ?_
    refine S_iload 4 dX10_lasts_77 rfl ?_
    refine S_iadd dX10_lasts_79 ?_
    refine S_iconst (v := 1) dX10_lasts_80 (by decide) ?_
    refine S_isub dX10_lasts_81 ?_
    refine S_callV [.int y5, .int (((I 3 4) + y6) - (1 : Int32))] [.int y5] m_RX10_132 rfl rfl w1_4.1 ⟨rfl, by decide⟩ (Nat.le_of_ble_eq_true rfl) (zroom_0 (by decide)) dX10_lasts_82 (zCI_use (T.2 q1) ?_)
    intro r1_2 I1_2 L1_2 M1_2 T1_2
    refine S_callS [.int y5, .int r1_2] [] m_RX10_209 rfl rfl (Nat.le_of_ble_eq_true rfl) (zroom_0 (by decide)) dX10_lasts_85 (zpure (sp_X10_without (I := I1_2) (L := L1_2) (M := M1_2) (d + 1) y5 r1_2) ?_)
    refine S_istore dX10_lasts_88 (by decide) rfl ?_
    refine S_iload 0 dX10_lasts_90 rfl ?_
    refine S_iload_n 2 dX10_lasts_92 rfl rfl ?_
    refine S_callS [.int (zwo y5 r1_2), .int y2] [] m_RX10_157 rfl rfl (Nat.le_of_ble_eq_true rfl) (zroom_0 (by decide)) dX10_lasts_93 (zpure (sp_X10_has (I := I1_2) (L := L1_2) (M := M1_2) (d + 3) ((zwo y5 r1_2)) y2) ?_)
    refine S_if_ne (tgt := 102) dX10_lasts_96 (by decide) (fun q2 => ?_) (fun q2 => ?_)
    · refine S_iinc 4 dX10_lasts_102 rfl rfl (by decide) rfl ?_
      refine S_goto (tgt := 57) dX10_lasts_105 (by decide) ?_
      exact S_sub [2, 3, 4, 1, 0] rfl (T1_2.1 (zb_t q2))
    · refine S_iload 4 dX10_lasts_99 rfl ?_
      exact S_ireti rfl dX10_lasts_101 ⟨_, I1_2, L1_2, M1_2, rfl, rfl, (T1_2.2 (zb_f q2))⟩

set_option maxRecDepth 100000 in
theorem t_X10_looked {C : zC} {I : Nat → Nat → Int32} {L : Nat → Nat → Int64} {M : Nat → Nat → Option Nat} (d : Nat)   (K : Int32 → (Nat → Nat → Int32) → (Nat → Nat → Int64) → (Nat → Nat → Option Nat) → Prop) (T : zSI C (zmk I L M) K Y_X10_looked (d + 3) 2 [(0, .ref 0), (1, .int 0)] [] I L M) : zCI C Y_X10_looked (d + 3) [.ref 0] (zmk I L M) K := by
  refine S_enter (by decide) (Nat.le_of_ble_eq_true rfl) ?_
  refine S_lv (lv' := [(0, .ref 0)]) rfl ?_
  refine S_iconst (v := 0) dX10_looked_0 (by decide) ?_
  refine S_istore_n dX10_looked_1 rfl (by decide) rfl ?_
  exact S_sub [1, 0] rfl T

set_option maxRecDepth 100000 in
theorem t_X10_looked_2 {C : zC} {I : Nat → Nat → Int32} {L : Nat → Nat → Int64} {M : Nat → Nat → Option Nat} {h0 : zH} (d : Nat)   (y1 : Int32) (K : Int32 → (Nat → Nat → Int32) → (Nat → Nat → Int64) → (Nat → Nat → Option Nat) → Prop) (T : (((I 26 1) ≤ y1 → K ((-5)) I L M) ∧ (¬ ((I 26 1) ≤ y1) → vp_in y1 8 ∧ ((¬ (0 ≤ (I ((26 + 2 + y1.toNatClampNeg)) 0) ∧ (I ((26 + 2 + y1.toNatClampNeg)) 0) < 12) → zSI C h0 K Y_X10_looked (d + 3) 2 [(0, .ref 0), (1, .int (y1 + 1))] [] I L M) ∧ ((0 ≤ (I ((26 + 2 + y1.toNatClampNeg)) 0) ∧ (I ((26 + 2 + y1.toNatClampNeg)) 0) < 12) → vp_in ((I ((26 + 2 + y1.toNatClampNeg)) 0)) 12 ∧ vp_in y1 8 ∧ (((I 5 (((I ((26 + 2 + y1.toNatClampNeg)) 0)).toNatClampNeg)) = (I ((26 + 2 + y1.toNatClampNeg)) 1) → zSI C h0 K Y_X10_looked (d + 3) 2 [(0, .ref 0), (1, .int (y1 + 1))] [] I L M) ∧ (¬ ((I 5 (((I ((26 + 2 + y1.toNatClampNeg)) 0)).toNatClampNeg)) = (I ((26 + 2 + y1.toNatClampNeg)) 1)) → K y1 I L M))))))) : zSI C h0 K Y_X10_looked (d + 3) 2 [(0, .ref 0), (1, .int y1)] [] I L M := by
  refine S_iload_n 1 dX10_looked_2 rfl rfl ?_
  refine S_aload_n 0 dX10_looked_3 rfl rfl ?_
  refine S_getP f_RX10_23 s_0 p_0_1 dX10_looked_4 ?_
  refine S_getP f_RX10_264 (sI i0) (pI_k i0) dX10_looked_7 ?_
  refine S_getI f_RX10_220 (rI_k i0).1 dX10_looked_10 ?_
  refine S_icmp_ge (tgt := 72) dX10_looked_13 (by decide) (fun q1 => ?_) (fun q1 => ?_)
  · refine S_bipush (v := -5) dX10_looked_72 (by decide) ?_
    exact S_ireti rfl dX10_looked_74 ⟨_, I, L, M, rfl, rfl, (T.1 q1)⟩
  · refine S_aload_n 0 dX10_looked_16 rfl rfl ?_
    refine S_getP f_RX10_23 s_0 p_0_1 dX10_looked_17 ?_
    refine S_getP f_RX10_264 (sI i0) (pI_k i0) dX10_looked_20 ?_
    refine S_getP f_RX10_253 (rI_k i0).1 (rI_k i0).2.1 dX10_looked_23 ?_
    refine S_iload_n 1 dX10_looked_26 rfl rfl ?_
    refine S_aald 0 (by decide) (rI_k i0).2.2.1 (T.2 q1).1 ((rI_k i0).2.2.2 _ (vp_lt (T.2 q1).1)).1 dX10_looked_27 ?_
    refine S_iconst (v := 0) dX10_looked_28 (by decide) ?_
    refine S_iald ((rI_k i0).2.2.2 _ (vp_lt (T.2 q1).1)).2 (by unfold vp_in; decide) dX10_looked_29 ?_
    refine S_istore_n dX10_looked_30 rfl (by decide) rfl ?_
    refine S_iload_n 0 dX10_looked_31 rfl rfl ?_
    refine S_callS [.int (I ((26 + 2 + y1.toNatClampNeg)) 0)] [] m_RX10_143 rfl rfl (Nat.le_of_ble_eq_true rfl) (zroom_0 (by decide)) dX10_looked_32 (zpure (sp_X10_isPurpose (I := I) (L := L) (M := M) (d + 0) ((I ((26 + 2 + y1.toNatClampNeg)) 0))) ?_)
    refine S_if_eq (tgt := 66) dX10_looked_35 (by decide) (fun q2 => ?_) (fun q2 => ?_)
    · refine S_iinc 2 dX10_looked_66 rfl rfl (by decide) rfl ?_
      refine S_goto (tgt := 2) dX10_looked_69 (by decide) ?_
      exact S_sub [2, 0] rfl ((T.2 q1).2.1 (zb_f q2))
    · refine S_aload_n 1 dX10_looked_38 rfl rfl ?_
      refine S_getP f_RX10_23 s_0 p_0_1 dX10_looked_39 ?_
      refine S_getP f_RX10_160 (sI i0) (pI_c i0) dX10_looked_42 ?_
      refine S_iload_n 0 dX10_looked_45 rfl rfl ?_
      refine S_iald (sI_c i0) ((T.2 q1).2.2 (zb_t q2)).1 dX10_looked_46 ?_
      refine S_aload_n 1 dX10_looked_47 rfl rfl ?_
      refine S_getP f_RX10_23 s_0 p_0_1 dX10_looked_48 ?_
      refine S_getP f_RX10_264 (sI i0) (pI_k i0) dX10_looked_51 ?_
      refine S_getP f_RX10_253 (rI_k i0).1 (rI_k i0).2.1 dX10_looked_54 ?_
      refine S_iload_n 2 dX10_looked_57 rfl rfl ?_
      refine S_aald 0 (by decide) (rI_k i0).2.2.1 ((T.2 q1).2.2 (zb_t q2)).2.1 ((rI_k i0).2.2.2 _ (vp_lt ((T.2 q1).2.2 (zb_t q2)).2.1)).1 dX10_looked_58 ?_
      refine S_iconst (v := 1) dX10_looked_59 (by decide) ?_
      refine S_iald ((rI_k i0).2.2.2 _ (vp_lt ((T.2 q1).2.2 (zb_t q2)).2.1)).2 (by unfold vp_in; decide) dX10_looked_60 ?_
      refine S_icmp_eq (tgt := 66) dX10_looked_61 (by decide) (fun q3 => ?_) (fun q3 => ?_)
      · refine S_iinc 2 dX10_looked_66 rfl rfl (by decide) rfl ?_
        refine S_goto (tgt := 2) dX10_looked_69 (by decide) ?_
        exact S_sub [2, 0] rfl (((T.2 q1).2.2 (zb_t q2)).2.2.1 q3)
      · refine S_iload_n 2 dX10_looked_64 rfl rfl ?_
        exact S_ireti rfl dX10_looked_65 ⟨_, I, L, M, rfl, rfl, (((T.2 q1).2.2 (zb_t q2)).2.2.2 q3)⟩

set_option maxRecDepth 100000 in
theorem t_X10_lowest {C : zC} {I : Nat → Nat → Int32} {L : Nat → Nat → Int64} {M : Nat → Nat → Option Nat} (d : Nat) (x0 : Int32) (x1 : Int32) (x2 : Int32)  (K : Int64 → (Nat → Nat → Int32) → (Nat → Nat → Int64) → (Nat → Nat → Option Nat) → Prop) (T : zSL C (zmk I L M) K Y_X10_lowest (d + 1) 8 [(0, .int x0), (1, .int x1), (2, .int x2), (3, .int x0), (4, .int x1), (5, .int 0)] [] I L M) : zCL C Y_X10_lowest (d + 1) [.int x0, .int x1, .int x2] (zmk I L M) K := by
  refine S_enter (by decide) (Nat.le_of_ble_eq_true rfl) ?_
  refine S_lv (lv' := [(0, .int x0), (1, .int x1), (2, .int x2)]) rfl ?_
  refine S_iload_n 0 dX10_lowest_0 rfl rfl ?_
  refine S_istore_n dX10_lowest_1 rfl (by decide) rfl ?_
  refine S_iload_n 2 dX10_lowest_2 rfl rfl ?_
  refine S_istore dX10_lowest_3 (by decide) rfl ?_
  refine S_iconst (v := 0) dX10_lowest_5 (by decide) ?_
  refine S_istore dX10_lowest_6 (by decide) rfl ?_
  exact S_sub [3, 4, 5, 2, 1, 0] rfl T

set_option maxRecDepth 100000 in
theorem t_X10_lowest_8 {C : zC} {I : Nat → Nat → Int32} {L : Nat → Nat → Int64} {M : Nat → Nat → Option Nat} {h0 : zH} (d : Nat)   (y0 : Int32) (y1 : Int32) (y2 : Int32) (y3 : Int32) (y4 : Int32) (y5 : Int32) (K : Int64 → (Nat → Nat → Int32) → (Nat → Nat → Int64) → (Nat → Nat → Option Nat) → Prop) (T : ((y1 < y5 → zSL C h0 K Y_X10_lowest (d + 1) 38 [(0, .int y0), (1, .int y1), (2, .int y2), (3, .int y3)] [] I L M) ∧ (¬ (y1 < y5) → ((y4 = 0 → zSL C h0 K Y_X10_lowest (d + 1) 38 [(0, .int y0), (1, .int y1), (2, .int y2), (3, .int y3)] [] I L M) ∧ (¬ (y4 = 0) → (¬ (y4 : Int32) = 0) ∧ zSL C h0 K Y_X10_lowest (d + 1) 8 [(0, .int y0), (1, .int y1), (2, .int y2), (3, .int y4), (4, .int (y3 - y3 / y4 * y4)), (5, .int (y5 + 1))] [] I L M))))) : zSL C h0 K Y_X10_lowest (d + 1) 8 [(0, .int y0), (1, .int y1), (2, .int y2), (3, .int y3), (4, .int y4), (5, .int y5)] [] I L M := by
  refine S_iload 5 dX10_lowest_8 rfl ?_
  refine S_iload_n 1 dX10_lowest_10 rfl rfl ?_
  refine S_icmp_gt (tgt := 38) dX10_lowest_11 (by decide) (fun q1 => ?_) (fun q1 => ?_)
  · exact S_sub [0, 1, 2, 3] rfl (T.1 q1)
  · refine S_iload 4 dX10_lowest_14 rfl ?_
    refine S_if_eq (tgt := 38) dX10_lowest_16 (by decide) (fun q2 => ?_) (fun q2 => ?_)
    · exact S_sub [0, 1, 2, 3] rfl ((T.2 q1).1 q2)
    · refine S_iload_n 3 dX10_lowest_19 rfl rfl ?_
      refine S_iload 4 dX10_lowest_20 rfl ?_
      refine S_irem dX10_lowest_22 ((T.2 q1).2 q2).1 ?_
      refine S_istore dX10_lowest_23 (by decide) rfl ?_
      refine S_iload 5 dX10_lowest_25 rfl ?_
      refine S_istore_n dX10_lowest_27 rfl (by decide) rfl ?_
      refine S_iload 1 dX10_lowest_28 rfl ?_
      refine S_istore dX10_lowest_30 (by decide) rfl ?_
      refine S_iinc 6 dX10_lowest_32 rfl rfl (by decide) rfl ?_
      refine S_goto (tgt := 8) dX10_lowest_35 (by decide) ?_
      exact S_sub [4, 5, 6, 2, 1, 0] rfl ((T.2 q1).2 q2).2

set_option maxRecDepth 100000 in
theorem t_X10_lowest_38 {C : zC} {I : Nat → Nat → Int32} {L : Nat → Nat → Int64} {M : Nat → Nat → Option Nat} {h0 : zH} (d : Nat)   (y0 : Int32) (y1 : Int32) (y2 : Int32) (y3 : Int32) (K : Int64 → (Nat → Nat → Int32) → (Nat → Nat → Int64) → (Nat → Nat → Option Nat) → Prop) (T : ((¬ y3 = 0 → ((¬ y2 = 0 → (¬ (y3 : Int32) = 0) ∧ K ((((y1 / y3) : Int32).toInt64)) I L M) ∧ (y2 = 0 → (¬ (y3 : Int32) = 0) ∧ K ((((y0 / y3) : Int32).toInt64)) I L M))) ∧ (y3 = 0 → K ((-9223372036854775808)) I L M))) : zSL C h0 K Y_X10_lowest (d + 1) 38 [(0, .int y0), (1, .int y1), (2, .int y2), (3, .int y3)] [] I L M := by
  refine S_iload_n 3 dX10_lowest_38 rfl rfl ?_
  refine S_if_ne (tgt := 46) dX10_lowest_39 (by decide) (fun q1 => ?_) (fun q1 => ?_)
  · refine S_iload_n 2 dX10_lowest_46 rfl rfl ?_
    refine S_if_ne (tgt := 57) dX10_lowest_47 (by decide) (fun q2 => ?_) (fun q2 => ?_)
    · refine S_iload_n 1 dX10_lowest_57 rfl rfl ?_
      refine S_iload_n 3 dX10_lowest_58 rfl rfl ?_
      refine S_idiv dX10_lowest_59 ((T.1 q1).1 q2).1 ?_
      refine S_i2l dX10_lowest_60 ?_
      exact S_lret rfl dX10_lowest_61 ⟨_, I, L, M, rfl, rfl, ((T.1 q1).1 q2).2⟩
    · refine S_iload_n 0 dX10_lowest_50 rfl rfl ?_
      refine S_iload_n 3 dX10_lowest_51 rfl rfl ?_
      refine S_idiv dX10_lowest_52 ((T.1 q1).2 q2).1 ?_
      refine S_i2l dX10_lowest_53 ?_
      refine S_goto (tgt := 61) dX10_lowest_54 (by decide) ?_
      exact S_lret rfl dX10_lowest_61 ⟨_, I, L, M, rfl, rfl, ((T.1 q1).2 q2).2⟩
  · refine S_ldc2 c_RX10_241 dX10_lowest_42 ?_
    exact S_lret rfl dX10_lowest_45 ⟨_, I, L, M, rfl, rfl, (T.2 q1)⟩

set_option maxRecDepth 100000 in
theorem t_X10_lureOf {C : zC} {I : Nat → Nat → Int32} {L : Nat → Nat → Int64} {M : Nat → Nat → Option Nat} (d : Nat) {o1 : Nat} (ho1 : zGu o1) (K : Nat → (Nat → Nat → Int32) → (Nat → Nat → Int64) → (Nat → Nat → Option Nat) → Prop) (T : vp_in ((I o1 0)) 6 ∧ zCV C Y_X3_settle (d + 2) [.ref (163 + 15 * ((I o1 0)).toNatClampNeg), .ref 3, .ref o1] (zmk I L M) (fun I1_1 L1_1 M1_1 => K ((163 + 15 * ((I o1 0)).toNatClampNeg)) I1_1 L1_1 M1_1)) : zCR C Y_X10_lureOf (d + 3) [.ref 0, .ref o1] (zmk I L M) K := by
  refine S_enter (by decide) (Nat.le_of_ble_eq_true rfl) ?_
  refine S_lv (lv' := [(0, .ref 0), (1, .ref o1)]) rfl ?_
  refine S_aload_n 0 dX10_lureOf_0 rfl rfl ?_
  refine S_getP f_RX10_46 s_0 p_0_8 dX10_lureOf_1 ?_
  refine S_aload_n 1 dX10_lureOf_4 rfl rfl ?_
  refine S_getI f_RX10_102 ho1.1 dX10_lureOf_5 ?_
  refine S_aald 3 (by decide) s_141 T.1 (hL_p _ (vp_lt T.1)) dX10_lureOf_8 ?_
  refine S_astore_n dX10_lureOf_9 rfl (by decide) rfl ?_
  refine S_aload_n 0 dX10_lureOf_10 rfl rfl ?_
  refine S_aload_n 1 dX10_lureOf_11 rfl rfl ?_
  refine S_getP f_RX10_23 s_0 p_0_1 dX10_lureOf_12 ?_
  refine S_aload_n 2 dX10_lureOf_15 rfl rfl ?_
  refine S_callV [.ref 3, .ref o1] [] m_RX10_316 rfl rfl (hL _ (vp_lt T.1)).1 ⟨rfl, by decide⟩ (Nat.le_of_ble_eq_true rfl) (zroom_0 (by decide)) dX10_lureOf_16 (zCV_use T.2 ?_)
  intro I1_1 L1_1 M1_1 T1_1
  refine S_aload_n 0 dX10_lureOf_19 rfl rfl ?_
  exact S_aret rfl (Or.inl ⟨_, rfl⟩) dX10_lureOf_20 ⟨_, I1_1, L1_1, M1_1, rfl, rfl, T1_1⟩

set_option maxRecDepth 100000 in
theorem t_X10_mean {C : zC} {I : Nat → Nat → Int32} {L : Nat → Nat → Int64} {M : Nat → Nat → Option Nat} (d : Nat) (x1 : Int32) (x2 : Int32)  (K : Int64 → (Nat → Nat → Int32) → (Nat → Nat → Int64) → (Nat → Nat → Option Nat) → Prop) (T : ((¬ (0 ≤ x1 ∧ x1 ≤ 60) → K ((-9223372036854775808)) I L M) ∧ ((0 ≤ x1 ∧ x1 ≤ 60) → ((¬ (0 ≤ x2 ∧ x2 < 2) → K ((-9223372036854775808)) I L M) ∧ ((0 ≤ x2 ∧ x2 < 2) → ((¬ (I 3 3) = 0 → zCR C Y_X10_behind (d + 6) [.ref 0, .int x1] (zmk I L M) (fun r1_4 I1_4 L1_4 M1_4 => zInn r1_4 ∧ zCI C Y_X2_meantByAll (d + 6) [.ref r1_4] (zmk I1_4 L1_4 M1_4) (fun r2_4 I2_4 L2_4 M2_4 => zCL C Y_X10_lowest (d + 6) [.int r2_4, .int (I2_4 3 3), .int x2] (zmk I2_4 L2_4 M2_4) (fun r3_4 I3_4 L3_4 M3_4 => K r3_4 I3_4 L3_4 M3_4)))) ∧ ((I 3 3) = 0 → K ((-9223372036854775808)) I L M))))))) : zCL C Y_X10_mean (d + 7) [.ref 0, .int x1, .int x2] (zmk I L M) K := by
  refine S_enter (by decide) (Nat.le_of_ble_eq_true rfl) ?_
  refine S_lv (lv' := [(0, .ref 0), (1, .int x1), (2, .int x2)]) rfl ?_
  refine S_iload_n 1 dX10_mean_0 rfl rfl ?_
  refine S_bipush (v := 60) dX10_mean_1 (by decide) ?_
  refine S_callS [.int x1, .int 60] [] m_RX10_89 rfl rfl (Nat.le_of_ble_eq_true rfl) (zroom_0 (by decide)) dX10_mean_3 (zpure (sp_X10_isWithin (I := I) (L := L) (M := M) (d + 5) x1 60) ?_)
  refine S_if_eq (tgt := 27) dX10_mean_6 (by decide) (fun q1 => ?_) (fun q1 => ?_)
  · refine S_ldc2 c_RX10_241 dX10_mean_27 ?_
    exact S_lret rfl dX10_mean_30 ⟨_, I, L, M, rfl, rfl, (T.1 (zb_f q1))⟩
  · refine S_iload_n 2 dX10_mean_9 rfl rfl ?_
    refine S_iconst (v := 2) dX10_mean_10 (by decide) ?_
    refine S_callS [.int x2, .int 2] [] m_RX10_85 rfl rfl (Nat.le_of_ble_eq_true rfl) (zroom_0 (by decide)) dX10_mean_11 (zpure (sp_X10_isBelow (I := I) (L := L) (M := M) (d + 5) x2 2) ?_)
    refine S_if_eq (tgt := 27) dX10_mean_14 (by decide) (fun q2 => ?_) (fun q2 => ?_)
    · refine S_ldc2 c_RX10_241 dX10_mean_27 ?_
      exact S_lret rfl dX10_mean_30 ⟨_, I, L, M, rfl, rfl, ((T.2 (zb_t q1)).1 (zb_f q2))⟩
    · refine S_aload_n 0 dX10_mean_17 rfl rfl ?_
      refine S_getP f_RX10_23 s_0 p_0_1 dX10_mean_18 ?_
      refine S_getI f_RX10_92 (sI i0) dX10_mean_21 ?_
      refine S_if_ne (tgt := 31) dX10_mean_24 (by decide) (fun q3 => ?_) (fun q3 => ?_)
      · refine S_aload_n 0 dX10_mean_31 rfl rfl ?_
        refine S_iload_n 1 dX10_mean_32 rfl rfl ?_
        refine S_callV [.int x1] [] m_RX10_205 rfl rfl s_0 ⟨rfl, by decide⟩ (Nat.le_of_ble_eq_true rfl) (zroom_0 (by decide)) dX10_mean_33 (zCR_use (((T.2 (zb_t q1)).2 (zb_t q2)).1 q3) ?_)
        rintro r1_4 I1_4 L1_4 M1_4 ⟨w1_4, T1_4⟩
        refine S_callV [] [] m_RX10_188 rfl rfl (sI w1_4) ⟨rfl, by decide⟩ (Nat.le_of_ble_eq_true rfl) (zroom_0 (by decide)) dX10_mean_36 (zCI_use T1_4 ?_)
        intro r2_4 I2_4 L2_4 M2_4 T2_4
        refine S_aload_n 0 dX10_mean_39 rfl rfl ?_
        refine S_getP f_RX10_23 s_0 p_0_1 dX10_mean_40 ?_
        refine S_getI f_RX10_92 (sI i0) dX10_mean_43 ?_
        refine S_iload_n 2 dX10_mean_46 rfl rfl ?_
        refine S_callS [.int r2_4, .int (I2_4 3 3), .int x2] [] m_RX10_243 rfl rfl (Nat.le_of_ble_eq_true rfl) (zroom_0 (by decide)) dX10_mean_47 (zCL_use T2_4 ?_)
        intro r3_4 I3_4 L3_4 M3_4 T3_4
        exact S_lret rfl dX10_mean_50 ⟨_, I3_4, L3_4, M3_4, rfl, rfl, T3_4⟩
      · refine S_ldc2 c_RX10_241 dX10_mean_27 ?_
        exact S_lret rfl dX10_mean_30 ⟨_, I, L, M, rfl, rfl, (((T.2 (zb_t q1)).2 (zb_t q2)).2 q3)⟩

set_option maxRecDepth 100000 in
theorem t_X10_meant {C : zC} {I : Nat → Nat → Int32} {L : Nat → Nat → Int64} {M : Nat → Nat → Option Nat} (d : Nat) (x1 : Int32) (x2 : Int32)  (K : Int32 → (Nat → Nat → Int32) → (Nat → Nat → Int64) → (Nat → Nat → Option Nat) → Prop) (T : ((¬ (0 ≤ x1 ∧ x1 < I 3 3) → K ((-1)) I L M) ∧ ((0 ≤ x1 ∧ x1 < I 3 3) → (((0 ≤ x2 ∧ x2 < 2) → vp_in x1 6 ∧ zCR C Y_X10_lureOf (d + 5) [.ref 0, .ref (3 + 33 + 2 * x1.toNatClampNeg)] (zmk I L M) (fun r1_3 I1_3 L1_3 M1_3 => zLu r1_3 ∧ zCV C Y_X7_gather (d + 5) [.ref 142, .ref 7, .int x1] (zmk I1_3 L1_3 M1_3) (fun I2_3 L2_3 M2_3 => zSI C (zmk I L M) K Y_X10_meant (d + 6) 59 [(0, .ref 0), (2, .int x2), (3, .ref r1_3), (4, .int 0), (5, .int (-5)), (6, .int 4095)] [] I2_3 L2_3 M2_3))) ∧ (¬ (0 ≤ x2 ∧ x2 < 2) → K ((-1)) I L M))))) : zCI C Y_X10_meant (d + 6) [.ref 0, .int x1, .int x2] (zmk I L M) K := by
  refine S_enter (by decide) (Nat.le_of_ble_eq_true rfl) ?_
  refine S_lv (lv' := [(0, .ref 0), (1, .int x1), (2, .int x2)]) rfl ?_
  refine S_aload_n 0 dX10_meant_0 rfl rfl ?_
  refine S_iload_n 1 dX10_meant_1 rfl rfl ?_
  refine S_callV [.int x1] [] m_RX10_105 rfl rfl s_0 ⟨rfl, by decide⟩ (Nat.le_of_ble_eq_true rfl) (zroom_0 (by decide)) dX10_meant_2 (zpure (sp_X10_isGuest (I := I) (L := L) (M := M) (d + 3) x1) ?_)
  refine S_if_eq (tgt := 16) dX10_meant_5 (by decide) (fun q1 => ?_) (fun q1 => ?_)
  · refine S_iconst (v := -1) dX10_meant_16 (by decide) ?_
    exact S_ireti rfl dX10_meant_17 ⟨_, I, L, M, rfl, rfl, (T.1 (zb_f q1))⟩
  · refine S_iload_n 2 dX10_meant_8 rfl rfl ?_
    refine S_iconst (v := 2) dX10_meant_9 (by decide) ?_
    refine S_callS [.int x2, .int 2] [] m_RX10_85 rfl rfl (Nat.le_of_ble_eq_true rfl) (zroom_0 (by decide)) dX10_meant_10 (zpure (sp_X10_isBelow (I := I) (L := L) (M := M) (d + 4) x2 2) ?_)
    refine S_if_ne (tgt := 18) dX10_meant_13 (by decide) (fun q2 => ?_) (fun q2 => ?_)
    · refine S_aload_n 0 dX10_meant_18 rfl rfl ?_
      refine S_aload_n 0 dX10_meant_19 rfl rfl ?_
      refine S_getP f_RX10_23 s_0 p_0_1 dX10_meant_20 ?_
      refine S_getP f_RX10_77 (sI i0) (pI_g i0) dX10_meant_23 ?_
      refine S_iload_n 1 dX10_meant_26 rfl rfl ?_
      refine S_aald 1 (by decide) (sI_g i0) ((T.2 (zb_t q1)).1 (zb_t q2)).1 ((gI_p i0) _ (vp_lt ((T.2 (zb_t q1)).1 (zb_t q2)).1)) dX10_meant_27 ?_
      refine S_callV [.ref (3 + 33 + 2 * x1.toNatClampNeg)] [] m_RX10_125 rfl rfl s_0 ⟨rfl, by decide⟩ (Nat.le_of_ble_eq_true rfl) (zroom_0 (by decide)) dX10_meant_28 (zCR_use ((T.2 (zb_t q1)).1 (zb_t q2)).2 ?_)
      rintro r1_3 I1_3 L1_3 M1_3 ⟨w1_3, T1_3⟩
      refine S_astore_n dX10_meant_31 rfl (by decide) rfl ?_
      refine S_aload_n 1 dX10_meant_32 rfl rfl ?_
      refine S_getP f_RX10_53 s_0 p_0_9 dX10_meant_33 ?_
      refine S_aload_n 1 dX10_meant_36 rfl rfl ?_
      refine S_getP f_RX10_23 s_0 p_0_1 dX10_meant_37 ?_
      refine S_getP f_RX10_216 (sI i0) (pI_s i0) dX10_meant_40 ?_
      refine S_iload_n 2 dX10_meant_43 rfl rfl ?_
      refine S_callV [.ref 7, .int x1] [] m_RX10_229 rfl rfl s_142 ⟨rfl, by decide⟩ (Nat.le_of_ble_eq_true rfl) (zroom_0 (by decide)) dX10_meant_44 (zCV_use T1_3 ?_)
      intro I2_3 L2_3 M2_3 T2_3
      refine S_iconst (v := 0) dX10_meant_47 (by decide) ?_
      refine S_istore dX10_meant_48 (by decide) rfl ?_
      refine S_bipush (v := -5) dX10_meant_50 (by decide) ?_
      refine S_istore dX10_meant_52 (by decide) rfl ?_
      refine S_sipush (v := 4095) dX10_meant_54 (by decide) ?_
      refine S_istore dX10_meant_57 (by decide) rfl ?_
      exact S_sub [4, 6, 3, 2, 1, 0] rfl T2_3
    · refine S_iconst (v := -1) dX10_meant_16 (by decide) ?_
      exact S_ireti rfl dX10_meant_17 ⟨_, I, L, M, rfl, rfl, ((T.2 (zb_t q1)).2 (zb_f q2))⟩

set_option maxRecDepth 100000 in
theorem t_X10_meant_59 {C : zC} {I : Nat → Nat → Int32} {L : Nat → Nat → Int64} {M : Nat → Nat → Option Nat} {h0 : zH} (d : Nat)  {r1_3 : Nat} (w1_3 : zLu r1_3) (y2 : Int32) (y4 : Int32) (y5 : Int32) (y6 : Int32) (K : Int32 → (Nat → Nat → Int32) → (Nat → Nat → Int64) → (Nat → Nat → Option Nat) → Prop) (T : ((y6 < 0 → ((¬ y2 = 0 → K y5 I L M) ∧ (y2 = 0 → K y4 I L M))) ∧ (¬ (y6 < 0) → zCI C Y_X7_fits (d + 5) [.ref 142, .ref r1_3, .int y6, .int (I 3 4)] (zmk I L M) (fun r1_2 I1_2 L1_2 M1_2 => ((r1_2 = 0 → zSI C h0 K Y_X10_meant (d + 6) 59 [(0, .ref 0), (2, .int y2), (3, .ref r1_3), (4, .int y4), (5, .int y5), (6, .int (y6 + (-1)))] [] I1_2 L1_2 M1_2) ∧ (¬ (r1_2 = 0) → zSI C h0 K Y_X10_meant (d + 6) 59 [(0, .ref 0), (2, .int y2), (3, .ref r1_3), (4, .int (y4 + 1)), (5, .int y6), (6, .int (y6 + (-1)))] [] I1_2 L1_2 M1_2)))))) : zSI C h0 K Y_X10_meant (d + 6) 59 [(0, .ref 0), (2, .int y2), (3, .ref r1_3), (4, .int y4), (5, .int y5), (6, .int y6)] [] I L M := by
  refine S_iload 5 dX10_meant_59 rfl ?_
  refine S_if_lt (tgt := 97) dX10_meant_61 (by decide) (fun q1 => ?_) (fun q1 => ?_)
  · refine S_iload_n 1 dX10_meant_97 rfl rfl ?_
    refine S_if_ne (tgt := 106) dX10_meant_98 (by decide) (fun q2 => ?_) (fun q2 => ?_)
    · refine S_iload 4 dX10_meant_106 rfl ?_
      exact S_ireti rfl dX10_meant_108 ⟨_, I, L, M, rfl, rfl, ((T.1 q1).1 q2)⟩
    · refine S_iload 3 dX10_meant_101 rfl ?_
      refine S_goto (tgt := 108) dX10_meant_103 (by decide) ?_
      exact S_ireti rfl dX10_meant_108 ⟨_, I, L, M, rfl, rfl, ((T.1 q1).2 q2)⟩
  · refine S_aload_n 0 dX10_meant_64 rfl rfl ?_
    refine S_getP f_RX10_53 s_0 p_0_9 dX10_meant_65 ?_
    refine S_aload_n 2 dX10_meant_68 rfl rfl ?_
    refine S_iload 5 dX10_meant_69 rfl ?_
    refine S_aload_n 0 dX10_meant_71 rfl rfl ?_
    refine S_getP f_RX10_23 s_0 p_0_1 dX10_meant_72 ?_
    refine S_getI f_RX10_129 (sI i0) dX10_meant_75 ?_
    refine S_callV [.ref r1_3, .int y6, .int (I 3 4)] [] m_RX10_233 rfl rfl s_142 ⟨rfl, by decide⟩ (Nat.le_of_ble_eq_true rfl) (zroom_0 (by decide)) dX10_meant_78 (zCI_use (T.2 q1) ?_)
    intro r1_2 I1_2 L1_2 M1_2 T1_2
    refine S_if_eq (tgt := 91) dX10_meant_81 (by decide) (fun q2 => ?_) (fun q2 => ?_)
    · refine S_iinc 5 dX10_meant_91 rfl rfl (by decide) rfl ?_
      refine S_goto (tgt := 59) dX10_meant_94 (by decide) ?_
      exact S_sub [1, 2, 3, 4, 5, 0] rfl (T1_2.1 q2)
    · refine S_iinc 3 dX10_meant_84 rfl rfl (by decide) rfl ?_
      refine S_iload 5 dX10_meant_87 rfl ?_
      refine S_istore dX10_meant_89 (by decide) rfl ?_
      refine S_iinc 5 dX10_meant_91 rfl rfl (by decide) rfl ?_
      refine S_goto (tgt := 59) dX10_meant_94 (by decide) ?_
      exact S_sub [3, 4, 5, 2, 1, 0] rfl (T1_2.2 q2)

set_option maxRecDepth 100000 in
theorem t_X10_nightsToEmpty {C : zC} {I : Nat → Nat → Int32} {L : Nat → Nat → Int64} {M : Nat → Nat → Option Nat} (d : Nat) {o1 : Nat} (ho1 : zGu o1) (K : Int32 → (Nat → Nat → Int32) → (Nat → Nat → Int64) → (Nat → Nat → Option Nat) → Prop) (T : zCR C Y_X10_lureOf (d + 4) [.ref 0, .ref o1] (zmk I L M) (fun r1_1 I1_1 L1_1 M1_1 => zLu r1_1 ∧ zSI C (zmk I L M) K Y_X10_nightsToEmpty (d + 5) 14 [(0, .ref 0), (2, .ref r1_1), (3, .int (I1_1 o1 3)), (4, .int 0)] [] I1_1 L1_1 M1_1)) : zCI C Y_X10_nightsToEmpty (d + 5) [.ref 0, .ref o1] (zmk I L M) K := by
  refine S_enter (by decide) (Nat.le_of_ble_eq_true rfl) ?_
  refine S_lv (lv' := [(0, .ref 0), (1, .ref o1)]) rfl ?_
  refine S_aload_n 0 dX10_nightsToEmpty_0 rfl rfl ?_
  refine S_aload_n 1 dX10_nightsToEmpty_1 rfl rfl ?_
  refine S_callV [.ref o1] [] m_RX10_125 rfl rfl s_0 ⟨rfl, by decide⟩ (Nat.le_of_ble_eq_true rfl) (zroom_0 (by decide)) dX10_nightsToEmpty_2 (zCR_use T ?_)
  rintro r1_1 I1_1 L1_1 M1_1 ⟨w1_1, T1_1⟩
  refine S_astore_n dX10_nightsToEmpty_5 rfl (by decide) rfl ?_
  refine S_aload_n 2 dX10_nightsToEmpty_6 rfl rfl ?_
  refine S_getI f_RX10_115 ho1.1 dX10_nightsToEmpty_7 ?_
  refine S_istore_n dX10_nightsToEmpty_10 rfl (by decide) rfl ?_
  refine S_iconst (v := 0) dX10_nightsToEmpty_11 (by decide) ?_
  refine S_istore dX10_nightsToEmpty_12 (by decide) rfl ?_
  exact S_sub [3, 2, 1, 0] rfl T1_1

set_option maxRecDepth 100000 in
theorem t_X10_nightsToEmpty_14 {C : zC} {I : Nat → Nat → Int32} {L : Nat → Nat → Int64} {M : Nat → Nat → Option Nat} {h0 : zH} (d : Nat) {o1 : Nat} (ho1 : zGu o1) {r1_1 : Nat} (w1_1 : zLu r1_1) (y3 : Int32) (y4 : Int32) (K : Int32 → (Nat → Nat → Int32) → (Nat → Nat → Int64) → (Nat → Nat → Option Nat) → Prop) (T : ((60 < y4 → K ((-5)) I L M) ∧ (¬ (60 < y4) → ((¬ y3 = 0 → zCI C Y_X3_prey (d + 4) [.ref r1_1, .int y3, .int ((I 3 4) + y4)] (zmk I L M) (fun r1_3 I1_3 L1_3 M1_3 => zSI C h0 K Y_X10_nightsToEmpty (d + 5) 14 [(0, .ref 0), (2, .ref r1_1), (3, .int (zwo y3 r1_3)), (4, .int (y4 + 1))] [] I1_3 L1_3 M1_3)) ∧ (y3 = 0 → K y4 I L M))))) : zSI C h0 K Y_X10_nightsToEmpty (d + 5) 14 [(0, .ref 0), (2, .ref r1_1), (3, .int y3), (4, .int y4)] [] I L M := by
  refine S_iload 3 dX10_nightsToEmpty_14 rfl ?_
  refine S_bipush (v := 60) dX10_nightsToEmpty_16 (by decide) ?_
  refine S_icmp_gt (tgt := 54) dX10_nightsToEmpty_18 (by decide) (fun q1 => ?_) (fun q1 => ?_)
  · refine S_bipush (v := -5) dX10_nightsToEmpty_54 (by decide) ?_
    exact S_ireti rfl dX10_nightsToEmpty_56 ⟨_, I, L, M, rfl, rfl, (T.1 q1)⟩
  · refine S_iload_n 2 dX10_nightsToEmpty_21 rfl rfl ?_
    refine S_if_ne (tgt := 28) dX10_nightsToEmpty_22 (by decide) (fun q2 => ?_) (fun q2 => ?_)
    · refine S_iload_n 2 dX10_nightsToEmpty_28 rfl rfl ?_
      refine S_aload_n 1 dX10_nightsToEmpty_29 rfl rfl ?_
      refine S_iload_n 2 dX10_nightsToEmpty_30 rfl rfl ?_
      refine S_aload_n 0 dX10_nightsToEmpty_31 rfl rfl ?_
      refine S_getP f_RX10_23 s_0 p_0_1 dX10_nightsToEmpty_32 ?_
      refine S_getI f_RX10_129 (sI i0) dX10_nightsToEmpty_35 ?_
      refine S_iload 3 dX10_nightsToEmpty_38 rfl ?_
      refine S_iadd dX10_nightsToEmpty_40 ?_
      refine S_callV [.int y3, .int ((I 3 4) + y4)] [.int y3] m_RX10_132 rfl rfl w1_1.1 ⟨rfl, by decide⟩ (Nat.le_of_ble_eq_true rfl) (zroom_0 (by decide)) dX10_nightsToEmpty_41 (zCI_use ((T.2 q1).1 q2) ?_)
      intro r1_3 I1_3 L1_3 M1_3 T1_3
      refine S_callS [.int y3, .int r1_3] [] m_RX10_209 rfl rfl (Nat.le_of_ble_eq_true rfl) (zroom_0 (by decide)) dX10_nightsToEmpty_44 (zpure (sp_X10_without (I := I1_3) (L := L1_3) (M := M1_3) (d + 1) y3 r1_3) ?_)
      refine S_istore_n dX10_nightsToEmpty_47 rfl (by decide) rfl ?_
      refine S_iinc 3 dX10_nightsToEmpty_48 rfl rfl (by decide) rfl ?_
      refine S_goto (tgt := 14) dX10_nightsToEmpty_51 (by decide) ?_
      exact S_sub [2, 3, 1, 0] rfl T1_3
    · refine S_iload 3 dX10_nightsToEmpty_25 rfl ?_
      exact S_ireti rfl dX10_nightsToEmpty_27 ⟨_, I, L, M, rfl, rfl, ((T.2 q1).2 q2)⟩

set_option maxRecDepth 100000 in
theorem t_X10_odds {C : zC} {I : Nat → Nat → Int32} {L : Nat → Nat → Int64} {M : Nat → Nat → Option Nat} (d : Nat) (x1 : Int32) (x2 : Int32)  (K : Int64 → (Nat → Nat → Int32) → (Nat → Nat → Int64) → (Nat → Nat → Option Nat) → Prop) (T : ((¬ (0 ≤ x1 ∧ x1 < I 3 3) → K ((-9223372036854775808)) I L M) ∧ ((0 ≤ x1 ∧ x1 < I 3 3) → (((0 ≤ x2 ∧ x2 < 2) → vp_in x1 6 ∧ zCR C Y_X10_lureOf (d + 4) [.ref 0, .ref (3 + 33 + 2 * x1.toNatClampNeg)] (zmk I L M) (fun r1_3 I1_3 L1_3 M1_3 => zLu r1_3 ∧ zCI C Y_X3_prey (d + 4) [.ref r1_3, .int (I1_3 ((3 + 33 + 2 * x1.toNatClampNeg)) 3), .int (I1_3 3 4)] (zmk I1_3 L1_3 M1_3) (fun r2_3 I2_3 L2_3 M2_3 => zSL C (zmk I L M) K Y_X10_odds (d + 5) 61 [(0, .ref 0), (2, .int x2), (3, .ref (3 + 33 + 2 * x1.toNatClampNeg)), (4, .ref r1_3), (5, .int r2_3), (6, .int 0), (7, .int 0)] [] I2_3 L2_3 M2_3))) ∧ (¬ (0 ≤ x2 ∧ x2 < 2) → K ((-9223372036854775808)) I L M))))) : zCL C Y_X10_odds (d + 5) [.ref 0, .int x1, .int x2] (zmk I L M) K := by
  refine S_enter (by decide) (Nat.le_of_ble_eq_true rfl) ?_
  refine S_lv (lv' := [(0, .ref 0), (1, .int x1), (2, .int x2)]) rfl ?_
  refine S_aload_n 0 dX10_odds_0 rfl rfl ?_
  refine S_iload_n 1 dX10_odds_1 rfl rfl ?_
  refine S_callV [.int x1] [] m_RX10_105 rfl rfl s_0 ⟨rfl, by decide⟩ (Nat.le_of_ble_eq_true rfl) (zroom_0 (by decide)) dX10_odds_2 (zpure (sp_X10_isGuest (I := I) (L := L) (M := M) (d + 2) x1) ?_)
  refine S_if_eq (tgt := 16) dX10_odds_5 (by decide) (fun q1 => ?_) (fun q1 => ?_)
  · refine S_ldc2 c_RX10_241 dX10_odds_16 ?_
    exact S_lret rfl dX10_odds_19 ⟨_, I, L, M, rfl, rfl, (T.1 (zb_f q1))⟩
  · refine S_iload_n 2 dX10_odds_8 rfl rfl ?_
    refine S_iconst (v := 2) dX10_odds_9 (by decide) ?_
    refine S_callS [.int x2, .int 2] [] m_RX10_85 rfl rfl (Nat.le_of_ble_eq_true rfl) (zroom_0 (by decide)) dX10_odds_10 (zpure (sp_X10_isBelow (I := I) (L := L) (M := M) (d + 3) x2 2) ?_)
    refine S_if_ne (tgt := 20) dX10_odds_13 (by decide) (fun q2 => ?_) (fun q2 => ?_)
    · refine S_aload_n 0 dX10_odds_20 rfl rfl ?_
      refine S_getP f_RX10_23 s_0 p_0_1 dX10_odds_21 ?_
      refine S_getP f_RX10_77 (sI i0) (pI_g i0) dX10_odds_24 ?_
      refine S_iload_n 1 dX10_odds_27 rfl rfl ?_
      refine S_aald 1 (by decide) (sI_g i0) ((T.2 (zb_t q1)).1 (zb_t q2)).1 ((gI_p i0) _ (vp_lt ((T.2 (zb_t q1)).1 (zb_t q2)).1)) dX10_odds_28 ?_
      refine S_astore_n dX10_odds_29 rfl (by decide) rfl ?_
      refine S_aload_n 1 dX10_odds_30 rfl rfl ?_
      refine S_aload_n 0 dX10_odds_31 rfl rfl ?_
      refine S_callV [.ref (3 + 33 + 2 * x1.toNatClampNeg)] [] m_RX10_125 rfl rfl s_0 ⟨rfl, by decide⟩ (Nat.le_of_ble_eq_true rfl) (zroom_0 (by decide)) dX10_odds_32 (zCR_use ((T.2 (zb_t q1)).1 (zb_t q2)).2 ?_)
      rintro r1_3 I1_3 L1_3 M1_3 ⟨w1_3, T1_3⟩
      refine S_astore dX10_odds_35 (by decide) rfl ?_
      refine S_aload 0 dX10_odds_37 rfl ?_
      refine S_aload_n 1 dX10_odds_39 rfl rfl ?_
      refine S_getI f_RX10_115 ((gI i0) _ (vp_lt ((T.2 (zb_t q1)).1 (zb_t q2)).1)).1 dX10_odds_40 ?_
      refine S_aload_n 2 dX10_odds_43 rfl rfl ?_
      refine S_getP f_RX10_23 s_0 p_0_1 dX10_odds_44 ?_
      refine S_getI f_RX10_129 (sI i0) dX10_odds_47 ?_
      refine S_callV [.int (I1_3 ((3 + 33 + 2 * x1.toNatClampNeg)) 3), .int (I1_3 3 4)] [] m_RX10_132 rfl rfl w1_3.1 ⟨rfl, by decide⟩ (Nat.le_of_ble_eq_true rfl) (zroom_0 (by decide)) dX10_odds_50 (zCI_use T1_3 ?_)
      intro r2_3 I2_3 L2_3 M2_3 T2_3
      refine S_istore dX10_odds_53 (by decide) rfl ?_
      refine S_iconst (v := 0) dX10_odds_55 (by decide) ?_
      refine S_istore dX10_odds_56 (by decide) rfl ?_
      refine S_iconst (v := 0) dX10_odds_58 (by decide) ?_
      refine S_istore dX10_odds_59 (by decide) rfl ?_
      exact S_sub [5, 7, 4, 3, 2, 1, 0] rfl T2_3
    · refine S_ldc2 c_RX10_241 dX10_odds_16 ?_
      exact S_lret rfl dX10_odds_19 ⟨_, I, L, M, rfl, rfl, ((T.2 (zb_t q1)).2 (zb_f q2))⟩

set_option maxRecDepth 100000 in
theorem t_X10_odds_61 {C : zC} {I : Nat → Nat → Int32} {L : Nat → Nat → Int64} {M : Nat → Nat → Option Nat} {h0 : zH} (d : Nat)  {r1_3 : Nat} (w1_3 : zLu r1_3) {a_l3 : Nat} (e_l3 : zGu a_l3) (y2 : Int32) (y5 : Int32) (y6 : Int32) (y7 : Int32) (K : Int64 → (Nat → Nat → Int32) → (Nat → Nat → Int64) → (Nat → Nat → Option Nat) → Prop) (T : ((12 ≤ y7 → zCL C Y_X10_lowest (d + 4) [.int y6, .int 12, .int y2] (zmk I L M) (fun r1_2 I1_2 L1_2 M1_2 => K r1_2 I1_2 L1_2 M1_2)) ∧ (¬ (12 ≤ y7) → zCI C Y_X3_prey (d + 4) [.ref r1_3, .int ((I a_l3 3) ||| ((1 : Int32) <<< (y7 &&& 31))), .int (I 3 4)] (zmk I L M) (fun r2_2 I2_2 L2_2 M2_2 => ((r2_2 = y5 → zSL C h0 K Y_X10_odds (d + 5) 61 [(0, .ref 0), (2, .int y2), (3, .ref a_l3), (4, .ref r1_3), (5, .int y5), (6, .int y6), (7, .int (y7 + 1))] [] I2_2 L2_2 M2_2) ∧ (¬ (r2_2 = y5) → zSL C h0 K Y_X10_odds (d + 5) 61 [(0, .ref 0), (2, .int y2), (3, .ref a_l3), (4, .ref r1_3), (5, .int y5), (6, .int (y6 + 1)), (7, .int (y7 + 1))] [] I2_2 L2_2 M2_2)))))) : zSL C h0 K Y_X10_odds (d + 5) 61 [(0, .ref 0), (2, .int y2), (3, .ref a_l3), (4, .ref r1_3), (5, .int y5), (6, .int y6), (7, .int y7)] [] I L M := by
  refine S_iload 6 dX10_odds_61 rfl ?_
  refine S_bipush (v := 12) dX10_odds_63 (by decide) ?_
  refine S_icmp_ge (tgt := 103) dX10_odds_65 (by decide) (fun q1 => ?_) (fun q1 => ?_)
  · refine S_iload 5 dX10_odds_103 rfl ?_
    refine S_bipush (v := 12) dX10_odds_105 (by decide) ?_
    refine S_iload_n 1 dX10_odds_107 rfl rfl ?_
    refine S_callS [.int y6, .int 12, .int y2] [] m_RX10_243 rfl rfl (Nat.le_of_ble_eq_true rfl) (zroom_0 (by decide)) dX10_odds_108 (zCL_use (T.1 q1) ?_)
    intro r1_2 I1_2 L1_2 M1_2 T1_2
    exact S_lret rfl dX10_odds_111 ⟨_, I1_2, L1_2, M1_2, rfl, rfl, T1_2⟩
  · refine S_aload 3 dX10_odds_68 rfl ?_
    refine S_aload_n 2 dX10_odds_70 rfl rfl ?_
    refine S_getI f_RX10_115 e_l3.1 dX10_odds_71 ?_
    refine S_iconst (v := 1) dX10_odds_74 (by decide) ?_
    refine S_iload 6 dX10_odds_75 rfl ?_
    refine S_ishl dX10_odds_77 ?_
    refine S_ior dX10_odds_78 ?_
    refine S_aload_n 0 dX10_odds_79 rfl rfl ?_
    refine S_getP f_RX10_23 s_0 p_0_1 dX10_odds_80 ?_
    refine S_getI f_RX10_129 (sI i0) dX10_odds_83 ?_
    refine S_callV [.int ((I a_l3 3) ||| ((1 : Int32) <<< (y7 &&& 31))), .int (I 3 4)] [] m_RX10_132 rfl rfl w1_3.1 ⟨rfl, by decide⟩ (Nat.le_of_ble_eq_true rfl) (zroom_0 (by decide)) dX10_odds_86 (zCI_use (T.2 q1) ?_)
    intro r2_2 I2_2 L2_2 M2_2 T2_2
    refine S_iload 4 dX10_odds_89 rfl ?_
    refine S_icmp_eq (tgt := 97) dX10_odds_91 (by decide) (fun q2 => ?_) (fun q2 => ?_)
    · refine S_iinc 6 dX10_odds_97 rfl rfl (by decide) rfl ?_
      refine S_goto (tgt := 61) dX10_odds_100 (by decide) ?_
      exact S_sub [1, 2, 3, 4, 5, 6, 0] rfl (T2_2.1 q2)
    · refine S_iinc 5 dX10_odds_94 rfl rfl (by decide) rfl ?_
      refine S_iinc 6 dX10_odds_97 rfl rfl (by decide) rfl ?_
      refine S_goto (tgt := 61) dX10_odds_100 (by decide) ?_
      exact S_sub [2, 3, 4, 5, 6, 1, 0] rfl (T2_2.2 q2)

set_option maxRecDepth 100000 in
theorem t_X10_of {C : zC} {I : Nat → Nat → Int32} {L : Nat → Nat → Int64} {M : Nat → Nat → Option Nat} (d : Nat) (x1 : Int32) (x2 : Int32)  (K : Int32 → (Nat → Nat → Int32) → (Nat → Nat → Int64) → (Nat → Nat → Option Nat) → Prop) (T : (((0 ≤ x1 ∧ x1 < I 3 3) → vp_in x1 6 ∧ ((x2 = 0 → K ((I ((3 + 33 + 2 * x1.toNatClampNeg)) 1)) I L M) ∧ (x2 = 1 → K ((I ((3 + 33 + 2 * x1.toNatClampNeg)) 2)) I L M) ∧ (x2 = 2 → K ((I ((3 + 33 + 2 * x1.toNatClampNeg)) 3)) I L M) ∧ (x2 = 3 → K ((I ((3 + 33 + 2 * x1.toNatClampNeg)) 4)) I L M) ∧ (x2 = 4 → (((I ((3 + 33 + 2 * x1.toNatClampNeg)) 5) = 0 → K 0 I L M) ∧ (¬ ((I ((3 + 33 + 2 * x1.toNatClampNeg)) 5) = 0) → K 1 I L M))) ∧ (x2 = 5 → zCR C Y_X10_lureOf (d + 5) [.ref 0, .ref (3 + 33 + 2 * x1.toNatClampNeg)] (zmk I L M) (fun r1_3 I1_3 L1_3 M1_3 => zLu r1_3 ∧ zCI C Y_X3_prey (d + 5) [.ref r1_3, .int (I1_3 ((3 + 33 + 2 * x1.toNatClampNeg)) 3), .int (I1_3 3 4)] (zmk I1_3 L1_3 M1_3) (fun r2_3 I2_3 L2_3 M2_3 => K r2_3 I2_3 L2_3 M2_3))) ∧ (x2 = 6 → zCI C Y_X10_nightsToEmpty (d + 5) [.ref 0, .ref (3 + 33 + 2 * x1.toNatClampNeg)] (zmk I L M) (fun r3_3 I3_3 L3_3 M3_3 => K r3_3 I3_3 L3_3 M3_3)) ∧ (x2 = 7 → zCI C Y_X10_backTo (d + 5) [.ref 0, .ref (3 + 33 + 2 * x1.toNatClampNeg)] (zmk I L M) (fun r4_3 I4_3 L4_3 M4_3 => K r4_3 I4_3 L4_3 M4_3)) ∧ (((x2 : Int32).toInt < 0 ∨ 7 < (x2 : Int32).toInt) → ((¬ (0 ≤ (x2 - (10 : Int32)) ∧ (x2 - (10 : Int32)) < 12) → K ((-10001)) I L M) ∧ ((0 ≤ (x2 - (10 : Int32)) ∧ (x2 - (10 : Int32)) < 12) → zCR C Y_X10_lureOf (d + 5) [.ref 0, .ref (3 + 33 + 2 * x1.toNatClampNeg)] (zmk I L M) (fun r5_4 I5_4 L5_4 M5_4 => zLu r5_4 ∧ zCI C Y_X3_tempts (d + 5) [.ref r5_4, .int (x2 - (10 : Int32)), .int (I5_4 3 4)] (zmk I5_4 L5_4 M5_4) (fun r6_4 I6_4 L6_4 M6_4 => K r6_4 I6_4 L6_4 M6_4))))))) ∧ (¬ (0 ≤ x1 ∧ x1 < I 3 3) → K ((-10001)) I L M))) : zCI C Y_X10_of (d + 6) [.ref 0, .int x1, .int x2] (zmk I L M) K := by
  refine S_enter (by decide) (Nat.le_of_ble_eq_true rfl) ?_
  refine S_lv (lv' := [(0, .ref 0), (1, .int x1), (2, .int x2)]) rfl ?_
  refine S_aload_n 0 dX10_of_0 rfl rfl ?_
  refine S_iload_n 1 dX10_of_1 rfl rfl ?_
  refine S_callV [.int x1] [] m_RX10_105 rfl rfl s_0 ⟨rfl, by decide⟩ (Nat.le_of_ble_eq_true rfl) (zroom_0 (by decide)) dX10_of_2 (zpure (sp_X10_isGuest (I := I) (L := L) (M := M) (d + 3) x1) ?_)
  refine S_if_ne (tgt := 12) dX10_of_5 (by decide) (fun q1 => ?_) (fun q1 => ?_)
  · refine S_aload_n 0 dX10_of_12 rfl rfl ?_
    refine S_getP f_RX10_23 s_0 p_0_1 dX10_of_13 ?_
    refine S_getP f_RX10_77 (sI i0) (pI_g i0) dX10_of_16 ?_
    refine S_iload_n 1 dX10_of_19 rfl rfl ?_
    refine S_aald 1 (by decide) (sI_g i0) (T.1 (zb_t q1)).1 ((gI_p i0) _ (vp_lt (T.1 (zb_t q1)).1)) dX10_of_20 ?_
    refine S_astore_n dX10_of_21 rfl (by decide) rfl ?_
    refine S_iload_n 3 dX10_of_22 rfl rfl ?_
    rcases ztab0_8 x2 with q2 | q2 | q2 | q2 | q2 | q2 | q2 | q2 | q2
    · refine S_tabK (tgt := 68) dX10_of_23 q2 (by decide) (by decide) (off := 45) rfl (by decide) ?_
      refine S_aload_n 0 dX10_of_68 rfl rfl ?_
      refine S_getI f_RX10_109 ((gI i0) _ (vp_lt (T.1 (zb_t q1)).1)).1 dX10_of_69 ?_
      exact S_ireti rfl dX10_of_72 ⟨_, I, L, M, rfl, rfl, ((T.1 (zb_t q1)).2.1 q2)⟩
    · refine S_tabK (tgt := 73) dX10_of_23 q2 (by decide) (by decide) (off := 50) rfl (by decide) ?_
      refine S_aload_n 0 dX10_of_73 rfl rfl ?_
      refine S_getI f_RX10_112 ((gI i0) _ (vp_lt (T.1 (zb_t q1)).1)).1 dX10_of_74 ?_
      exact S_ireti rfl dX10_of_77 ⟨_, I, L, M, rfl, rfl, ((T.1 (zb_t q1)).2.2.1 q2)⟩
    · refine S_tabK (tgt := 78) dX10_of_23 q2 (by decide) (by decide) (off := 55) rfl (by decide) ?_
      refine S_aload_n 0 dX10_of_78 rfl rfl ?_
      refine S_getI f_RX10_115 ((gI i0) _ (vp_lt (T.1 (zb_t q1)).1)).1 dX10_of_79 ?_
      exact S_ireti rfl dX10_of_82 ⟨_, I, L, M, rfl, rfl, ((T.1 (zb_t q1)).2.2.2.1 q2)⟩
    · refine S_tabK (tgt := 83) dX10_of_23 q2 (by decide) (by decide) (off := 60) rfl (by decide) ?_
      refine S_aload_n 0 dX10_of_83 rfl rfl ?_
      refine S_getI f_RX10_118 ((gI i0) _ (vp_lt (T.1 (zb_t q1)).1)).1 dX10_of_84 ?_
      exact S_ireti rfl dX10_of_87 ⟨_, I, L, M, rfl, rfl, ((T.1 (zb_t q1)).2.2.2.2.1 q2)⟩
    · refine S_tabK (tgt := 88) dX10_of_23 q2 (by decide) (by decide) (off := 65) rfl (by decide) ?_
      refine S_aload_n 0 dX10_of_88 rfl rfl ?_
      refine S_getI f_RX10_121 ((gI i0) _ (vp_lt (T.1 (zb_t q1)).1)).1 dX10_of_89 ?_
      refine S_if_eq (tgt := 99) dX10_of_92 (by decide) (fun q3 => ?_) (fun q3 => ?_)
      · refine S_iconst (v := 0) dX10_of_99 (by decide) ?_
        exact S_ireti rfl dX10_of_100 ⟨_, I, L, M, rfl, rfl, (((T.1 (zb_t q1)).2.2.2.2.2.1 q2).1 q3)⟩
      · refine S_iconst (v := 1) dX10_of_95 (by decide) ?_
        refine S_goto (tgt := 100) dX10_of_96 (by decide) ?_
        exact S_ireti rfl dX10_of_100 ⟨_, I, L, M, rfl, rfl, (((T.1 (zb_t q1)).2.2.2.2.2.1 q2).2 q3)⟩
    · refine S_tabK (tgt := 101) dX10_of_23 q2 (by decide) (by decide) (off := 78) rfl (by decide) ?_
      refine S_aload_n 1 dX10_of_101 rfl rfl ?_
      refine S_aload_n 0 dX10_of_102 rfl rfl ?_
      refine S_callV [.ref (3 + 33 + 2 * x1.toNatClampNeg)] [] m_RX10_125 rfl rfl s_0 ⟨rfl, by decide⟩ (Nat.le_of_ble_eq_true rfl) (zroom_0 (by decide)) dX10_of_103 (zCR_use ((T.1 (zb_t q1)).2.2.2.2.2.2.1 q2) ?_)
      rintro r1_3 I1_3 L1_3 M1_3 ⟨w1_3, T1_3⟩
      refine S_aload_n 0 dX10_of_106 rfl rfl ?_
      refine S_getI f_RX10_115 ((gI i0) _ (vp_lt (T.1 (zb_t q1)).1)).1 dX10_of_107 ?_
      refine S_aload_n 1 dX10_of_110 rfl rfl ?_
      refine S_getP f_RX10_23 s_0 p_0_1 dX10_of_111 ?_
      refine S_getI f_RX10_129 (sI i0) dX10_of_114 ?_
      refine S_callV [.int (I1_3 ((3 + 33 + 2 * x1.toNatClampNeg)) 3), .int (I1_3 3 4)] [] m_RX10_132 rfl rfl w1_3.1 ⟨rfl, by decide⟩ (Nat.le_of_ble_eq_true rfl) (zroom_0 (by decide)) dX10_of_117 (zCI_use T1_3 ?_)
      intro r2_3 I2_3 L2_3 M2_3 T2_3
      exact S_ireti rfl dX10_of_120 ⟨_, I2_3, L2_3, M2_3, rfl, rfl, T2_3⟩
    · refine S_tabK (tgt := 121) dX10_of_23 q2 (by decide) (by decide) (off := 98) rfl (by decide) ?_
      refine S_aload_n 1 dX10_of_121 rfl rfl ?_
      refine S_aload_n 0 dX10_of_122 rfl rfl ?_
      refine S_callV [.ref (3 + 33 + 2 * x1.toNatClampNeg)] [] m_RX10_136 rfl rfl s_0 ⟨rfl, by decide⟩ (Nat.le_of_ble_eq_true rfl) (zroom_0 (by decide)) dX10_of_123 (zCI_use ((T.1 (zb_t q1)).2.2.2.2.2.2.2.1 q2) ?_)
      intro r3_3 I3_3 L3_3 M3_3 T3_3
      exact S_ireti rfl dX10_of_126 ⟨_, I3_3, L3_3, M3_3, rfl, rfl, T3_3⟩
    · refine S_tabK (tgt := 127) dX10_of_23 q2 (by decide) (by decide) (off := 104) rfl (by decide) ?_
      refine S_aload_n 1 dX10_of_127 rfl rfl ?_
      refine S_aload_n 0 dX10_of_128 rfl rfl ?_
      refine S_callV [.ref (3 + 33 + 2 * x1.toNatClampNeg)] [] m_RX10_140 rfl rfl s_0 ⟨rfl, by decide⟩ (Nat.le_of_ble_eq_true rfl) (zroom_0 (by decide)) dX10_of_129 (zCI_use ((T.1 (zb_t q1)).2.2.2.2.2.2.2.2.1 q2) ?_)
      intro r4_3 I4_3 L4_3 M4_3 T4_3
      exact S_ireti rfl dX10_of_132 ⟨_, I4_3, L4_3, M4_3, rfl, rfl, T4_3⟩
    · refine S_tabOut (tgt := 133) dX10_of_23 q2 (by decide) ?_
      refine S_iload_n 3 dX10_of_133 rfl rfl ?_
      refine S_bipush (v := 10) dX10_of_134 (by decide) ?_
      refine S_isub dX10_of_136 ?_
      refine S_callS [.int (x2 - (10 : Int32))] [] m_RX10_143 rfl rfl (Nat.le_of_ble_eq_true rfl) (zroom_0 (by decide)) dX10_of_137 (zpure (sp_X10_isPurpose (I := I) (L := L) (M := M) (d + 3) ((x2 - (10 : Int32)))) ?_)
      refine S_if_eq (tgt := 165) dX10_of_140 (by decide) (fun q3 => ?_) (fun q3 => ?_)
      · refine S_sipush (v := -10001) dX10_of_165 (by decide) ?_
        exact S_ireti rfl dX10_of_168 ⟨_, I, L, M, rfl, rfl, (((T.1 (zb_t q1)).2.2.2.2.2.2.2.2.2 q2).1 (zb_f q3))⟩
      · refine S_aload_n 1 dX10_of_143 rfl rfl ?_
        refine S_aload_n 0 dX10_of_144 rfl rfl ?_
        refine S_callV [.ref (3 + 33 + 2 * x1.toNatClampNeg)] [] m_RX10_125 rfl rfl s_0 ⟨rfl, by decide⟩ (Nat.le_of_ble_eq_true rfl) (zroom_0 (by decide)) dX10_of_145 (zCR_use (((T.1 (zb_t q1)).2.2.2.2.2.2.2.2.2 q2).2 (zb_t q3)) ?_)
        rintro r5_4 I5_4 L5_4 M5_4 ⟨w5_4, T5_4⟩
        refine S_iload_n 3 dX10_of_148 rfl rfl ?_
        refine S_bipush (v := 10) dX10_of_149 (by decide) ?_
        refine S_isub dX10_of_151 ?_
        refine S_aload_n 1 dX10_of_152 rfl rfl ?_
        refine S_getP f_RX10_23 s_0 p_0_1 dX10_of_153 ?_
        refine S_getI f_RX10_129 (sI i0) dX10_of_156 ?_
        refine S_callV [.int (x2 - (10 : Int32)), .int (I5_4 3 4)] [] m_RX10_146 rfl rfl w5_4.1 ⟨rfl, by decide⟩ (Nat.le_of_ble_eq_true rfl) (zroom_0 (by decide)) dX10_of_159 (zCI_use T5_4 ?_)
        intro r6_4 I6_4 L6_4 M6_4 T6_4
        refine S_goto (tgt := 168) dX10_of_162 (by decide) ?_
        exact S_ireti rfl dX10_of_168 ⟨_, I6_4, L6_4, M6_4, rfl, rfl, T6_4⟩
  · refine S_sipush (v := -10001) dX10_of_8 (by decide) ?_
    exact S_ireti rfl dX10_of_11 ⟨_, I, L, M, rfl, rfl, (T.2 (zb_f q1))⟩

set_option maxRecDepth 100000 in
theorem t_X10_on {C : zC} {I : Nat → Nat → Int32} {L : Nat → Nat → Int64} {M : Nat → Nat → Option Nat} (d : Nat) (x1 : Int32) (x2 : Int32)  (K : Int32 → (Nat → Nat → Int32) → (Nat → Nat → Int64) → (Nat → Nat → Option Nat) → Prop) (T : ((x2 = 0 → zSI C (zmk I L M) K Y_X10_on (d + 7) 33 [(0, .ref 0), (1, .int x1), (2, .int x2), (3, .int (zb (0 ≤ (x2 - (30 : Int32)) ∧ (x2 - (30 : Int32)) < I 3 3))), (4, .int (zb (0 ≤ (x2 - (10 : Int32)) ∧ (x2 - (10 : Int32)) < 12)))] [] I L M) ∧ (¬ (x2 = 0) → (((0 ≤ (x2 - (10 : Int32)) ∧ (x2 - (10 : Int32)) < 12) → zSI C (zmk I L M) K Y_X10_on (d + 7) 33 [(0, .ref 0), (1, .int x1), (2, .int x2), (3, .int (zb (0 ≤ (x2 - (30 : Int32)) ∧ (x2 - (30 : Int32)) < I 3 3))), (4, .int (zb (0 ≤ (x2 - (10 : Int32)) ∧ (x2 - (10 : Int32)) < 12)))] [] I L M) ∧ (¬ (0 ≤ (x2 - (10 : Int32)) ∧ (x2 - (10 : Int32)) < 12) → (((0 ≤ (x2 - (30 : Int32)) ∧ (x2 - (30 : Int32)) < I 3 3) → zSI C (zmk I L M) K Y_X10_on (d + 7) 33 [(0, .ref 0), (1, .int x1), (2, .int x2), (3, .int (zb (0 ≤ (x2 - (30 : Int32)) ∧ (x2 - (30 : Int32)) < I 3 3))), (4, .int (zb (0 ≤ (x2 - (10 : Int32)) ∧ (x2 - (10 : Int32)) < 12)))] [] I L M) ∧ (¬ (0 ≤ (x2 - (30 : Int32)) ∧ (x2 - (30 : Int32)) < I 3 3) → K ((-1)) I L M))))))) : zCI C Y_X10_on (d + 7) [.ref 0, .int x1, .int x2] (zmk I L M) K := by
  refine S_enter (by decide) (Nat.le_of_ble_eq_true rfl) ?_
  refine S_lv (lv' := [(0, .ref 0), (1, .int x1), (2, .int x2)]) rfl ?_
  refine S_aload_n 0 dX10_on_0 rfl rfl ?_
  refine S_iload_n 2 dX10_on_1 rfl rfl ?_
  refine S_bipush (v := 30) dX10_on_2 (by decide) ?_
  refine S_isub dX10_on_4 ?_
  refine S_callV [.int (x2 - (30 : Int32))] [] m_RX10_105 rfl rfl s_0 ⟨rfl, by decide⟩ (Nat.le_of_ble_eq_true rfl) (zroom_0 (by decide)) dX10_on_5 (zpure (sp_X10_isGuest (I := I) (L := L) (M := M) (d + 4) ((x2 - (30 : Int32)))) ?_)
  refine S_istore_n dX10_on_8 rfl (by decide) rfl ?_
  refine S_iload_n 3 dX10_on_9 rfl rfl ?_
  refine S_bipush (v := 10) dX10_on_10 (by decide) ?_
  refine S_isub dX10_on_12 ?_
  refine S_callS [.int (x2 - (10 : Int32))] [] m_RX10_143 rfl rfl (Nat.le_of_ble_eq_true rfl) (zroom_0 (by decide)) dX10_on_13 (zpure (sp_X10_isPurpose (I := I) (L := L) (M := M) (d + 4) ((x2 - (10 : Int32)))) ?_)
  refine S_istore dX10_on_16 (by decide) rfl ?_
  refine S_iload_n 4 dX10_on_18 rfl rfl ?_
  refine S_if_eq (tgt := 33) dX10_on_19 (by decide) (fun q1 => ?_) (fun q1 => ?_)
  · exact S_sub [2, 3, 4, 1, 0] rfl (T.1 q1)
  · refine S_iload 0 dX10_on_22 rfl ?_
    refine S_if_ne (tgt := 33) dX10_on_24 (by decide) (fun q2 => ?_) (fun q2 => ?_)
    · exact S_sub [2, 3, 4, 1, 0] rfl ((T.2 q1).1 (zb_t q2))
    · refine S_iload_n 1 dX10_on_27 rfl rfl ?_
      refine S_if_ne (tgt := 33) dX10_on_28 (by decide) (fun q3 => ?_) (fun q3 => ?_)
      · exact S_sub [2, 3, 4, 1, 0] rfl (((T.2 q1).2 (zb_f q2)).1 (zb_t q3))
      · refine S_iconst (v := -1) dX10_on_31 (by decide) ?_
        exact S_ireti rfl dX10_on_32 ⟨_, I, L, M, rfl, rfl, (((T.2 q1).2 (zb_f q2)).2 (zb_f q3))⟩

set_option maxRecDepth 100000 in
theorem t_X10_on_33 {C : zC} {I : Nat → Nat → Int32} {L : Nat → Nat → Int64} {M : Nat → Nat → Option Nat} {h0 : zH} (d : Nat)   (y1 : Int32) (y2 : Int32) (y3 : Int32) (y4 : Int32) (K : Int32 → (Nat → Nat → Int32) → (Nat → Nat → Int64) → (Nat → Nat → Option Nat) → Prop) (T : (((0 ≤ y1 ∧ y1 ≤ 60) → zCR C Y_X10_behind (d + 6) [.ref 0, .int y1] (zmk I L M) (fun r1_2 I1_2 L1_2 M1_2 => zInn r1_2 ∧ ((y3 = 0 → ((y4 = 0 → zCI C Y_X2_meantByAll (d + 6) [.ref r1_2] (zmk I1_2 L1_2 M1_2) (fun r2_4 I2_4 L2_4 M2_4 => K r2_4 I2_4 L2_4 M2_4)) ∧ (¬ (y4 = 0) → vp_in ((y2 - (10 : Int32))) 12 ∧ K ((I1_2 ((r1_2 + 2)) (((y2 - (10 : Int32))).toNatClampNeg))) I1_2 L1_2 M1_2))) ∧ (¬ (y3 = 0) → vp_in ((y2 - (30 : Int32))) 6 ∧ K ((I1_2 ((r1_2 + 33 + 2 * ((y2 - (30 : Int32))).toNatClampNeg)) 3)) I1_2 L1_2 M1_2)))) ∧ (¬ (0 ≤ y1 ∧ y1 ≤ 60) → K ((-2)) I L M))) : zSI C h0 K Y_X10_on (d + 7) 33 [(0, .ref 0), (1, .int y1), (2, .int y2), (3, .int y3), (4, .int y4)] [] I L M := by
  refine S_iload_n 1 dX10_on_33 rfl rfl ?_
  refine S_bipush (v := 60) dX10_on_34 (by decide) ?_
  refine S_callS [.int y1, .int 60] [] m_RX10_89 rfl rfl (Nat.le_of_ble_eq_true rfl) (zroom_0 (by decide)) dX10_on_36 (zpure (sp_X10_isWithin (I := I) (L := L) (M := M) (d + 5) y1 60) ?_)
  refine S_if_ne (tgt := 45) dX10_on_39 (by decide) (fun q1 => ?_) (fun q1 => ?_)
  · refine S_aload_n 0 dX10_on_45 rfl rfl ?_
    refine S_iload_n 1 dX10_on_46 rfl rfl ?_
    refine S_callV [.int y1] [] m_RX10_205 rfl rfl s_0 ⟨rfl, by decide⟩ (Nat.le_of_ble_eq_true rfl) (zroom_0 (by decide)) dX10_on_47 (zCR_use (T.1 (zb_t q1)) ?_)
    rintro r1_2 I1_2 L1_2 M1_2 ⟨w1_2, T1_2⟩
    refine S_astore dX10_on_50 (by decide) rfl ?_
    refine S_iload_n 4 dX10_on_52 rfl rfl ?_
    refine S_if_eq (tgt := 70) dX10_on_53 (by decide) (fun q2 => ?_) (fun q2 => ?_)
    · refine S_iload 5 dX10_on_70 rfl ?_
      refine S_if_eq (tgt := 88) dX10_on_72 (by decide) (fun q3 => ?_) (fun q3 => ?_)
      · refine S_aload 0 dX10_on_88 rfl ?_
        refine S_callV [] [] m_RX10_188 rfl rfl (sI w1_2) ⟨rfl, by decide⟩ (Nat.le_of_ble_eq_true rfl) (zroom_0 (by decide)) dX10_on_90 (zCI_use ((T1_2.1 q2).1 q3) ?_)
        intro r2_4 I2_4 L2_4 M2_4 T2_4
        exact S_ireti rfl dX10_on_93 ⟨_, I2_4, L2_4, M2_4, rfl, rfl, T2_4⟩
      · refine S_aload 0 dX10_on_75 rfl ?_
        refine S_getP f_RX10_160 (sI w1_2) (pI_c w1_2) dX10_on_77 ?_
        refine S_iload_n 3 dX10_on_80 rfl rfl ?_
        refine S_bipush (v := 10) dX10_on_81 (by decide) ?_
        refine S_isub dX10_on_83 ?_
        refine S_iald (sI_c w1_2) ((T1_2.1 q2).2 q3).1 dX10_on_84 ?_
        refine S_goto (tgt := 93) dX10_on_85 (by decide) ?_
        exact S_ireti rfl dX10_on_93 ⟨_, I1_2, L1_2, M1_2, rfl, rfl, ((T1_2.1 q2).2 q3).2⟩
    · refine S_aload 0 dX10_on_56 rfl ?_
      refine S_getP f_RX10_77 (sI w1_2) (pI_g w1_2) dX10_on_58 ?_
      refine S_iload_n 3 dX10_on_61 rfl rfl ?_
      refine S_bipush (v := 30) dX10_on_62 (by decide) ?_
      refine S_isub dX10_on_64 ?_
      refine S_aald 1 (by decide) (sI_g w1_2) (T1_2.2 q2).1 ((gI_p w1_2) _ (vp_lt (T1_2.2 q2).1)) dX10_on_65 ?_
      refine S_getI f_RX10_115 ((gI w1_2) _ (vp_lt (T1_2.2 q2).1)).1 dX10_on_66 ?_
      exact S_ireti rfl dX10_on_69 ⟨_, I1_2, L1_2, M1_2, rfl, rfl, (T1_2.2 q2).2⟩
  · refine S_bipush (v := -2) dX10_on_42 (by decide) ?_
    exact S_ireti rfl dX10_on_44 ⟨_, I, L, M, rfl, rfl, (T.2 (zb_f q1))⟩

set_option maxRecDepth 100000 in
theorem t_X10_pass {C : zC} {I : Nat → Nat → Int32} {L : Nat → Nat → Int64} {M : Nat → Nat → Option Nat} (d : Nat) (x1 : Int32)  (K : Int32 → (Nat → Nat → Int32) → (Nat → Nat → Int64) → (Nat → Nat → Option Nat) → Prop) (T : (((0 ≤ x1 ∧ x1 ≤ 60) → ((((I 3 4) + x1) ≤ 9999 → zCV C Y_X10_settle (d + 5) [.ref 0, .ref 3] (zmk I L M) (fun I1_3 L1_3 M1_3 => zSI C (zmk I L M) K Y_X10_pass (d + 6) 40 [(0, .ref 0), (1, .int x1), (2, .int 0)] [] I1_3 L1_3 M1_3)) ∧ (¬ (((I 3 4) + x1) ≤ 9999) → K ((-3)) I L M))) ∧ (¬ (0 ≤ x1 ∧ x1 ≤ 60) → K ((-2)) I L M))) : zCI C Y_X10_pass (d + 6) [.ref 0, .int x1] (zmk I L M) K := by
  refine S_enter (by decide) (Nat.le_of_ble_eq_true rfl) ?_
  refine S_lv (lv' := [(0, .ref 0), (1, .int x1)]) rfl ?_
  refine S_iload_n 1 dX10_pass_0 rfl rfl ?_
  refine S_bipush (v := 60) dX10_pass_1 (by decide) ?_
  refine S_callS [.int x1, .int 60] [] m_RX10_89 rfl rfl (Nat.le_of_ble_eq_true rfl) (zroom_0 (by decide)) dX10_pass_3 (zpure (sp_X10_isWithin (I := I) (L := L) (M := M) (d + 4) x1 60) ?_)
  refine S_if_ne (tgt := 12) dX10_pass_6 (by decide) (fun q1 => ?_) (fun q1 => ?_)
  · refine S_aload_n 0 dX10_pass_12 rfl rfl ?_
    refine S_getP f_RX10_23 s_0 p_0_1 dX10_pass_13 ?_
    refine S_getI f_RX10_129 (sI i0) dX10_pass_16 ?_
    refine S_iload_n 1 dX10_pass_19 rfl rfl ?_
    refine S_iadd dX10_pass_20 ?_
    refine S_sipush (v := 9999) dX10_pass_21 (by decide) ?_
    refine S_icmp_le (tgt := 30) dX10_pass_24 (by decide) (fun q2 => ?_) (fun q2 => ?_)
    · refine S_aload_n 0 dX10_pass_30 rfl rfl ?_
      refine S_aload_n 0 dX10_pass_31 rfl rfl ?_
      refine S_getP f_RX10_23 s_0 p_0_1 dX10_pass_32 ?_
      refine S_callV [.ref 3] [] m_RX10_198 rfl rfl s_0 ⟨rfl, by decide⟩ (Nat.le_of_ble_eq_true rfl) (zroom_0 (by decide)) dX10_pass_35 (zCV_use ((T.1 (zb_t q1)).1 q2) ?_)
      intro I1_3 L1_3 M1_3 T1_3
      refine S_iconst (v := 0) dX10_pass_38 (by decide) ?_
      refine S_istore_n dX10_pass_39 rfl (by decide) rfl ?_
      exact S_sub [1, 2, 0] rfl T1_3
    · refine S_bipush (v := -3) dX10_pass_27 (by decide) ?_
      exact S_ireti rfl dX10_pass_29 ⟨_, I, L, M, rfl, rfl, ((T.1 (zb_t q1)).2 q2)⟩
  · refine S_bipush (v := -2) dX10_pass_9 (by decide) ?_
    exact S_ireti rfl dX10_pass_11 ⟨_, I, L, M, rfl, rfl, (T.2 (zb_f q1))⟩

set_option maxRecDepth 100000 in
theorem t_X10_pass_40 {C : zC} {I : Nat → Nat → Int32} {L : Nat → Nat → Int64} {M : Nat → Nat → Option Nat} {h0 : zH} (d : Nat)   (y1 : Int32) (y2 : Int32) (K : Int32 → (Nat → Nat → Int32) → (Nat → Nat → Int64) → (Nat → Nat → Option Nat) → Prop) (T : ((y1 ≤ y2 → K ((I 3 4)) I L M) ∧ (¬ (y1 ≤ y2) → zCV C Y_X10_goNight (d + 5) [.ref 0, .ref 3] (zmk I L M) (fun I1_2 L1_2 M1_2 => zSI C h0 K Y_X10_pass (d + 6) 40 [(0, .ref 0), (1, .int y1), (2, .int (y2 + 1))] [] I1_2 L1_2 M1_2)))) : zSI C h0 K Y_X10_pass (d + 6) 40 [(0, .ref 0), (1, .int y1), (2, .int y2)] [] I L M := by
  refine S_iload_n 2 dX10_pass_40 rfl rfl ?_
  refine S_iload_n 1 dX10_pass_41 rfl rfl ?_
  refine S_icmp_ge (tgt := 59) dX10_pass_42 (by decide) (fun q1 => ?_) (fun q1 => ?_)
  · refine S_aload_n 0 dX10_pass_59 rfl rfl ?_
    refine S_getP f_RX10_23 s_0 p_0_1 dX10_pass_60 ?_
    refine S_getI f_RX10_129 (sI i0) dX10_pass_63 ?_
    exact S_ireti rfl dX10_pass_66 ⟨_, I, L, M, rfl, rfl, (T.1 q1)⟩
  · refine S_aload_n 0 dX10_pass_45 rfl rfl ?_
    refine S_aload_n 0 dX10_pass_46 rfl rfl ?_
    refine S_getP f_RX10_23 s_0 p_0_1 dX10_pass_47 ?_
    refine S_callV [.ref 3] [] m_RX10_202 rfl rfl s_0 ⟨rfl, by decide⟩ (Nat.le_of_ble_eq_true rfl) (zroom_0 (by decide)) dX10_pass_50 (zCV_use (T.2 q1) ?_)
    intro I1_2 L1_2 M1_2 T1_2
    refine S_iinc 2 dX10_pass_53 rfl rfl (by decide) rfl ?_
    refine S_goto (tgt := 40) dX10_pass_56 (by decide) ?_
    exact S_sub [1, 2, 0] rfl T1_2

set_option maxRecDepth 100000 in
theorem t_X10_plan {C : zC} {I : Nat → Nat → Int32} {L : Nat → Nat → Int64} {M : Nat → Nat → Option Nat} (d : Nat) (x1 : Int32) (x2 : Int32)  (K : Int32 → (Nat → Nat → Int32) → (Nat → Nat → Int64) → (Nat → Nat → Option Nat) → Prop) (T : ((¬ x1 = (-1) → ((¬ (0 ≤ x1 ∧ x1 < 4) → K ((-1)) I L M) ∧ ((0 ≤ x1 ∧ x1 < 4) → ((x1 = 0 → zSI C (zmk I L M) K Y_X10_plan (d + 3) 40 [(0, .ref 0), (1, .int x1), (2, .int x2)] [] I L M) ∧ (¬ (x1 = 0) → (((0 ≤ x2 ∧ x2 < I 3 3) → zSI C (zmk I L M) K Y_X10_plan (d + 3) 40 [(0, .ref 0), (1, .int x1), (2, .int x2)] [] I L M) ∧ (¬ (0 ≤ x2 ∧ x2 < I 3 3) → K ((-1)) I L M))))))) ∧ (x1 = (-1) → K 0 (u2 I 14 1 0) L M))) : zCI C Y_X10_plan (d + 3) [.ref 0, .int x1, .int x2] (zmk I L M) K := by
  refine S_enter (by decide) (Nat.le_of_ble_eq_true rfl) ?_
  refine S_lv (lv' := [(0, .ref 0), (1, .int x1), (2, .int x2)]) rfl ?_
  refine S_iload_n 1 dX10_plan_0 rfl rfl ?_
  refine S_iconst (v := -1) dX10_plan_1 (by decide) ?_
  refine S_icmp_ne (tgt := 18) dX10_plan_2 (by decide) (fun q1 => ?_) (fun q1 => ?_)
  · refine S_iload_n 1 dX10_plan_18 rfl rfl ?_
    refine S_iconst (v := 4) dX10_plan_19 (by decide) ?_
    refine S_callS [.int x1, .int 4] [] m_RX10_85 rfl rfl (Nat.le_of_ble_eq_true rfl) (zroom_0 (by decide)) dX10_plan_20 (zpure (sp_X10_isBelow (I := I) (L := L) (M := M) (d + 1) x1 4) ?_)
    refine S_if_eq (tgt := 38) dX10_plan_23 (by decide) (fun q2 => ?_) (fun q2 => ?_)
    · refine S_iconst (v := -1) dX10_plan_38 (by decide) ?_
      exact S_ireti rfl dX10_plan_39 ⟨_, I, L, M, rfl, rfl, ((T.1 q1).1 (zb_f q2))⟩
    · refine S_iload_n 1 dX10_plan_26 rfl rfl ?_
      refine S_if_eq (tgt := 40) dX10_plan_27 (by decide) (fun q3 => ?_) (fun q3 => ?_)
      · exact S_sub [0, 1, 2] rfl (((T.1 q1).2 (zb_t q2)).1 q3)
      · refine S_aload_n 0 dX10_plan_30 rfl rfl ?_
        refine S_iload_n 2 dX10_plan_31 rfl rfl ?_
        refine S_callV [.int x2] [] m_RX10_105 rfl rfl s_0 ⟨rfl, by decide⟩ (Nat.le_of_ble_eq_true rfl) (zroom_0 (by decide)) dX10_plan_32 (zpure (sp_X10_isGuest (I := I) (L := L) (M := M) (d + 0) x2) ?_)
        refine S_if_ne (tgt := 40) dX10_plan_35 (by decide) (fun q4 => ?_) (fun q4 => ?_)
        · exact S_sub [0, 1, 2] rfl ((((T.1 q1).2 (zb_t q2)).2 q3).1 (zb_t q4))
        · refine S_iconst (v := -1) dX10_plan_38 (by decide) ?_
          exact S_ireti rfl dX10_plan_39 ⟨_, I, L, M, rfl, rfl, ((((T.1 q1).2 (zb_t q2)).2 q3).2 (zb_f q4))⟩
  · refine S_aload_n 0 dX10_plan_5 rfl rfl ?_
    refine S_getP f_RX10_23 s_0 p_0_1 dX10_plan_6 ?_
    refine S_getP f_RX10_247 (sI i0) (pI_p i0) dX10_plan_9 ?_
    refine S_iconst (v := 0) dX10_plan_12 (by decide) ?_
    refine S_putI f_RX10_220 (rI_p i0).1 (Or.inl rfl) rfl dX10_plan_13 ?_
    refine S_iconst (v := 0) dX10_plan_16 (by decide) ?_
    exact S_ireti rfl dX10_plan_17 ⟨_, u2 I 14 1 0, L, M, rfl, rfl, (T.2 q1)⟩

set_option maxRecDepth 100000 in
theorem t_X10_plan_40 {C : zC} {I : Nat → Nat → Int32} {L : Nat → Nat → Int64} {M : Nat → Nat → Option Nat} {h0 : zH} (d : Nat)   (y1 : Int32) (y2 : Int32) (K : Int32 → (Nat → Nat → Int32) → (Nat → Nat → Int64) → (Nat → Nat → Option Nat) → Prop) (T : zCI C Y_X6_add (d + 2) [.ref 14, .int y1, .int y2, .int 0, .int 0] (zmk I L M) (fun r1_1 I1_1 L1_1 M1_1 => K r1_1 I1_1 L1_1 M1_1)) : zSI C h0 K Y_X10_plan (d + 3) 40 [(0, .ref 0), (1, .int y1), (2, .int y2)] [] I L M := by
  refine S_aload_n 0 dX10_plan_40 rfl rfl ?_
  refine S_getP f_RX10_23 s_0 p_0_1 dX10_plan_41 ?_
  refine S_getP f_RX10_247 (sI i0) (pI_p i0) dX10_plan_44 ?_
  refine S_iload_n 1 dX10_plan_47 rfl rfl ?_
  refine S_iload_n 2 dX10_plan_48 rfl rfl ?_
  refine S_iconst (v := 0) dX10_plan_49 (by decide) ?_
  refine S_iconst (v := 0) dX10_plan_50 (by decide) ?_
  refine S_callV [.int y1, .int y2, .int 0, .int 0] [] m_RX10_225 rfl rfl (rI_p i0).1 ⟨rfl, by decide⟩ (Nat.le_of_ble_eq_true rfl) (zroom_0 (by decide)) dX10_plan_51 (zCI_use T ?_)
  intro r1_1 I1_1 L1_1 M1_1 T1_1
  exact S_ireti rfl dX10_plan_54 ⟨_, I1_1, L1_1, M1_1, rfl, rfl, T1_1⟩

set_option maxRecDepth 100000 in
theorem t_X10_read {C : zC} {I : Nat → Nat → Int32} {L : Nat → Nat → Int64} {M : Nat → Nat → Option Nat} (d : Nat) (x1 : Int32) (x2 : Int32)  (K : Int64 → (Nat → Nat → Int32) → (Nat → Nat → Int64) → (Nat → Nat → Option Nat) → Prop) (T : ((¬ (0 ≤ x1 ∧ x1 < 6) → K ((-9223372036854775808)) I L M) ∧ ((0 ≤ x1 ∧ x1 < 6) → vp_in x1 6 ∧ ((¬ (0 ≤ x2 ∧ 0 ≤ (1 : Int32) ∧ 1 ≤ I ((253 + 2 * x1.toNatClampNeg)) 1 ∧ x2 ≤ I ((253 + 2 * x1.toNatClampNeg)) 1 - 1) → K ((-9223372036854775808)) I L M) ∧ ((0 ≤ x2 ∧ 0 ≤ (1 : Int32) ∧ 1 ≤ I ((253 + 2 * x1.toNatClampNeg)) 1 ∧ x2 ≤ I ((253 + 2 * x1.toNatClampNeg)) 1 - 1) → vp_in x1 6 ∧ vp_in x2 60 ∧ K ((L (((253 + 2 * x1.toNatClampNeg) + 1)) x2.toNatClampNeg)) I L M))))) : zCL C Y_X10_read (d + 2) [.ref 0, .int x1, .int x2] (zmk I L M) K := by
  refine S_enter (by decide) (Nat.le_of_ble_eq_true rfl) ?_
  refine S_lv (lv' := [(0, .ref 0), (1, .int x1), (2, .int x2)]) rfl ?_
  refine S_iload_n 1 dX10_read_0 rfl rfl ?_
  refine S_bipush (v := 6) dX10_read_1 (by decide) ?_
  refine S_callS [.int x1, .int 6] [] m_RX10_85 rfl rfl (Nat.le_of_ble_eq_true rfl) (zroom_0 (by decide)) dX10_read_3 (zpure (sp_X10_isBelow (I := I) (L := L) (M := M) (d + 0) x1 6) ?_)
  refine S_if_eq (tgt := 37) dX10_read_6 (by decide) (fun q1 => ?_) (fun q1 => ?_)
  · refine S_ldc2 c_RX10_241 dX10_read_37 ?_
    exact S_lret rfl dX10_read_40 ⟨_, I, L, M, rfl, rfl, (T.1 (zb_f q1))⟩
  · refine S_aload_n 0 dX10_read_9 rfl rfl ?_
    refine S_getP f_RX10_73 s_0 p_0_12 dX10_read_10 ?_
    refine S_iload_n 1 dX10_read_13 rfl rfl ?_
    refine S_aald 4 (by decide) s_150 (T.2 (zb_t q1)).1 (hT_p _ (vp_lt (T.2 (zb_t q1)).1)) dX10_read_14 ?_
    refine S_iload_n 2 dX10_read_15 rfl rfl ?_
    refine S_iconst (v := 1) dX10_read_16 (by decide) ?_
    refine S_callV [.int x2, .int 1] [] m_RX10_270 rfl rfl (hT _ (vp_lt (T.2 (zb_t q1)).1)).1 ⟨rfl, by decide⟩ (Nat.le_of_ble_eq_true rfl) (zroom_0 (by decide)) dX10_read_17 (zpure (sp_X9_isPart (I := I) (L := L) (M := M) (d + 0) (hT _ (vp_lt (T.2 (zb_t q1)).1)) x2 1) ?_)
    refine S_if_eq (tgt := 37) dX10_read_20 (by decide) (fun q2 => ?_) (fun q2 => ?_)
    · refine S_ldc2 c_RX10_241 dX10_read_37 ?_
      exact S_lret rfl dX10_read_40 ⟨_, I, L, M, rfl, rfl, ((T.2 (zb_t q1)).2.1 (zb_f q2))⟩
    · refine S_aload_n 0 dX10_read_23 rfl rfl ?_
      refine S_getP f_RX10_73 s_0 p_0_12 dX10_read_24 ?_
      refine S_iload_n 1 dX10_read_27 rfl rfl ?_
      refine S_aald 4 (by decide) s_150 ((T.2 (zb_t q1)).2.2 (zb_t q2)).1 (hT_p _ (vp_lt ((T.2 (zb_t q1)).2.2 (zb_t q2)).1)) dX10_read_28 ?_
      refine S_getP f_RX10_274 (hT _ (vp_lt ((T.2 (zb_t q1)).2.2 (zb_t q2)).1)).1 (hT _ (vp_lt ((T.2 (zb_t q1)).2.2 (zb_t q2)).1)).2.1 dX10_read_29 ?_
      refine S_iload_n 2 dX10_read_32 rfl rfl ?_
      refine S_lald (hT _ (vp_lt ((T.2 (zb_t q1)).2.2 (zb_t q2)).1)).2.2 ((T.2 (zb_t q1)).2.2 (zb_t q2)).2.1 dX10_read_33 ?_
      refine S_goto (tgt := 40) dX10_read_34 (by decide) ?_
      exact S_lret rfl dX10_read_40 ⟨_, I, L, M, rfl, rfl, ((T.2 (zb_t q1)).2.2 (zb_t q2)).2.2⟩

set_option maxRecDepth 100000 in
theorem t_X10_redeem {C : zC} {I : Nat → Nat → Int32} {L : Nat → Nat → Int64} {M : Nat → Nat → Option Nat} (d : Nat) (x1 : Int32) (x2 : Int32)  (K : Int32 → (Nat → Nat → Int32) → (Nat → Nat → Int64) → (Nat → Nat → Option Nat) → Prop) (T : ((¬ (0 ≤ x1 ∧ x1 < I 3 3) → K ((-1)) I L M) ∧ ((0 ≤ x1 ∧ x1 < I 3 3) → (((0 ≤ x2 ∧ x2 < 12) → vp_in x1 6 ∧ ((¬ (zhas (((I ((3 + 33 + 2 * x1.toNatClampNeg)) 4) &&& ((I ((3 + 33 + 2 * x1.toNatClampNeg)) 3) ^^^ (-1)))) x2) → K ((-3)) I L M) ∧ ((zhas (((I ((3 + 33 + 2 * x1.toNatClampNeg)) 4) &&& ((I ((3 + 33 + 2 * x1.toNatClampNeg)) 3) ^^^ (-1)))) x2) → vp_in x2 12 ∧ ((0 < (I 5 x2.toNatClampNeg) → vp_in x2 12 ∧ vp_in x2 12 ∧ vp_in x2 12 ∧ K (((u2 (u2 (u2 I ((3 + 33 + 2 * x1.toNatClampNeg)) 3 (((I ((3 + 33 + 2 * x1.toNatClampNeg)) 3) ||| ((1 : Int32) <<< (x2 &&& 31))))) ((3 + 33 + 2 * x1.toNatClampNeg)) 4 ((((u2 I ((3 + 33 + 2 * x1.toNatClampNeg)) 3 (((I ((3 + 33 + 2 * x1.toNatClampNeg)) 3) ||| ((1 : Int32) <<< (x2 &&& 31))))) ((3 + 33 + 2 * x1.toNatClampNeg)) 4) &&& (((1 : Int32) <<< (x2 &&& 31)) ^^^ (-1 : Int32))))) 5 x2.toNatClampNeg ((((u2 (u2 I ((3 + 33 + 2 * x1.toNatClampNeg)) 3 (((I ((3 + 33 + 2 * x1.toNatClampNeg)) 3) ||| ((1 : Int32) <<< (x2 &&& 31))))) ((3 + 33 + 2 * x1.toNatClampNeg)) 4 ((((u2 I ((3 + 33 + 2 * x1.toNatClampNeg)) 3 (((I ((3 + 33 + 2 * x1.toNatClampNeg)) 3) ||| ((1 : Int32) <<< (x2 &&& 31))))) ((3 + 33 + 2 * x1.toNatClampNeg)) 4) &&& (((1 : Int32) <<< (x2 &&& 31)) ^^^ (-1 : Int32))))) 5 x2.toNatClampNeg) - (1 : Int32)))) 5 x2.toNatClampNeg)) (u2 (u2 (u2 I ((3 + 33 + 2 * x1.toNatClampNeg)) 3 (((I ((3 + 33 + 2 * x1.toNatClampNeg)) 3) ||| ((1 : Int32) <<< (x2 &&& 31))))) ((3 + 33 + 2 * x1.toNatClampNeg)) 4 ((((u2 I ((3 + 33 + 2 * x1.toNatClampNeg)) 3 (((I ((3 + 33 + 2 * x1.toNatClampNeg)) 3) ||| ((1 : Int32) <<< (x2 &&& 31))))) ((3 + 33 + 2 * x1.toNatClampNeg)) 4) &&& (((1 : Int32) <<< (x2 &&& 31)) ^^^ (-1 : Int32))))) 5 x2.toNatClampNeg ((((u2 (u2 I ((3 + 33 + 2 * x1.toNatClampNeg)) 3 (((I ((3 + 33 + 2 * x1.toNatClampNeg)) 3) ||| ((1 : Int32) <<< (x2 &&& 31))))) ((3 + 33 + 2 * x1.toNatClampNeg)) 4 ((((u2 I ((3 + 33 + 2 * x1.toNatClampNeg)) 3 (((I ((3 + 33 + 2 * x1.toNatClampNeg)) 3) ||| ((1 : Int32) <<< (x2 &&& 31))))) ((3 + 33 + 2 * x1.toNatClampNeg)) 4) &&& (((1 : Int32) <<< (x2 &&& 31)) ^^^ (-1 : Int32))))) 5 x2.toNatClampNeg) - (1 : Int32)))) L M) ∧ (¬ (0 < (I 5 x2.toNatClampNeg)) → K ((-3)) I L M))))) ∧ (¬ (0 ≤ x2 ∧ x2 < 12) → K ((-1)) I L M))))) : zCI C Y_X10_redeem (d + 3) [.ref 0, .int x1, .int x2] (zmk I L M) K := by
  refine S_enter (by decide) (Nat.le_of_ble_eq_true rfl) ?_
  refine S_lv (lv' := [(0, .ref 0), (1, .int x1), (2, .int x2)]) rfl ?_
  refine S_aload_n 0 dX10_redeem_0 rfl rfl ?_
  refine S_iload_n 1 dX10_redeem_1 rfl rfl ?_
  refine S_callV [.int x1] [] m_RX10_105 rfl rfl s_0 ⟨rfl, by decide⟩ (Nat.le_of_ble_eq_true rfl) (zroom_0 (by decide)) dX10_redeem_2 (zpure (sp_X10_isGuest (I := I) (L := L) (M := M) (d + 0) x1) ?_)
  refine S_if_eq (tgt := 15) dX10_redeem_5 (by decide) (fun q1 => ?_) (fun q1 => ?_)
  · refine S_iconst (v := -1) dX10_redeem_15 (by decide) ?_
    exact S_ireti rfl dX10_redeem_16 ⟨_, I, L, M, rfl, rfl, (T.1 (zb_f q1))⟩
  · refine S_iload_n 2 dX10_redeem_8 rfl rfl ?_
    refine S_callS [.int x2] [] m_RX10_143 rfl rfl (Nat.le_of_ble_eq_true rfl) (zroom_0 (by decide)) dX10_redeem_9 (zpure (sp_X10_isPurpose (I := I) (L := L) (M := M) (d + 0) x2) ?_)
    refine S_if_ne (tgt := 17) dX10_redeem_12 (by decide) (fun q2 => ?_) (fun q2 => ?_)
    · refine S_aload_n 0 dX10_redeem_17 rfl rfl ?_
      refine S_getP f_RX10_23 s_0 p_0_1 dX10_redeem_18 ?_
      refine S_getP f_RX10_77 (sI i0) (pI_g i0) dX10_redeem_21 ?_
      refine S_iload_n 1 dX10_redeem_24 rfl rfl ?_
      refine S_aald 1 (by decide) (sI_g i0) ((T.2 (zb_t q1)).1 (zb_t q2)).1 ((gI_p i0) _ (vp_lt ((T.2 (zb_t q1)).1 (zb_t q2)).1)) dX10_redeem_25 ?_
      refine S_astore_n dX10_redeem_26 rfl (by decide) rfl ?_
      refine S_aload_n 0 dX10_redeem_27 rfl rfl ?_
      refine S_callV [] [] m_RX10_153 rfl rfl ((gI i0) _ (vp_lt ((T.2 (zb_t q1)).1 (zb_t q2)).1)).1 ⟨rfl, by decide⟩ (Nat.le_of_ble_eq_true rfl) (zroom_0 (by decide)) dX10_redeem_28 (zpure (sp_X0_missed (I := I) (L := L) (M := M) (d + 1) ((gI i0) _ (vp_lt ((T.2 (zb_t q1)).1 (zb_t q2)).1))) ?_)
      refine S_iload_n 3 dX10_redeem_31 rfl rfl ?_
      refine S_callS [.int ((I ((3 + 33 + 2 * x1.toNatClampNeg)) 4) &&& ((I ((3 + 33 + 2 * x1.toNatClampNeg)) 3) ^^^ (-1))), .int x2] [] m_RX10_157 rfl rfl (Nat.le_of_ble_eq_true rfl) (zroom_0 (by decide)) dX10_redeem_32 (zpure (sp_X10_has (I := I) (L := L) (M := M) (d + 1) (((I ((3 + 33 + 2 * x1.toNatClampNeg)) 4) &&& ((I ((3 + 33 + 2 * x1.toNatClampNeg)) 3) ^^^ (-1)))) x2) ?_)
      refine S_if_eq (tgt := 50) dX10_redeem_35 (by decide) (fun q3 => ?_) (fun q3 => ?_)
      · refine S_bipush (v := -3) dX10_redeem_50 (by decide) ?_
        exact S_ireti rfl dX10_redeem_52 ⟨_, I, L, M, rfl, rfl, (((T.2 (zb_t q1)).1 (zb_t q2)).2.1 (zb_f q3))⟩
      · refine S_aload_n 1 dX10_redeem_38 rfl rfl ?_
        refine S_getP f_RX10_23 s_0 p_0_1 dX10_redeem_39 ?_
        refine S_getP f_RX10_160 (sI i0) (pI_c i0) dX10_redeem_42 ?_
        refine S_iload_n 3 dX10_redeem_45 rfl rfl ?_
        refine S_iald (sI_c i0) (((T.2 (zb_t q1)).1 (zb_t q2)).2.2 (zb_t q3)).1 dX10_redeem_46 ?_
        refine S_if_gt (tgt := 53) dX10_redeem_47 (by decide) (fun q4 => ?_) (fun q4 => ?_)
        · refine S_aload_n 0 dX10_redeem_53 rfl rfl ?_
          refine S_dup dX10_redeem_54 rfl ?_
          refine S_getI f_RX10_115 ((gI i0) _ (vp_lt ((T.2 (zb_t q1)).1 (zb_t q2)).1)).1 dX10_redeem_55 ?_
          refine S_iconst (v := 1) dX10_redeem_58 (by decide) ?_
          refine S_iload_n 3 dX10_redeem_59 rfl rfl ?_
          refine S_ishl dX10_redeem_60 ?_
          refine S_ior dX10_redeem_61 ?_
          refine S_putI f_RX10_115 ((gI i0) _ (vp_lt ((T.2 (zb_t q1)).1 (zb_t q2)).1)).1 (Or.inl rfl) rfl dX10_redeem_62 ?_
          refine S_aload_n 0 dX10_redeem_65 rfl rfl ?_
          refine S_dup dX10_redeem_66 rfl ?_
          refine S_getI f_RX10_118 ((gI i0) _ (vp_lt ((T.2 (zb_t q1)).1 (zb_t q2)).1)).1 dX10_redeem_67 ?_
          refine S_iconst (v := 1) dX10_redeem_70 (by decide) ?_
          refine S_iload_n 3 dX10_redeem_71 rfl rfl ?_
          refine S_ishl dX10_redeem_72 ?_
          refine S_iconst (v := -1) dX10_redeem_73 (by decide) ?_
          refine S_ixor dX10_redeem_74 ?_
          refine S_iand dX10_redeem_75 ?_
          refine S_putI f_RX10_118 ((gI i0) _ (vp_lt ((T.2 (zb_t q1)).1 (zb_t q2)).1)).1 (Or.inl rfl) rfl dX10_redeem_76 ?_
          refine S_aload_n 1 dX10_redeem_79 rfl rfl ?_
          refine S_getP f_RX10_23 s_0 p_0_1 dX10_redeem_80 ?_
          refine S_getP f_RX10_160 (sI i0) (pI_c i0) dX10_redeem_83 ?_
          refine S_iload_n 3 dX10_redeem_86 rfl rfl ?_
          refine S_dup2 dX10_redeem_87 rfl rfl ?_
          refine S_iald (sI_c i0) ((((T.2 (zb_t q1)).1 (zb_t q2)).2.2 (zb_t q3)).2.1 q4).1 dX10_redeem_88 ?_
          refine S_iconst (v := 1) dX10_redeem_89 (by decide) ?_
          refine S_isub dX10_redeem_90 ?_
          refine S_iast (sI_c i0) ((((T.2 (zb_t q1)).1 (zb_t q2)).2.2 (zb_t q3)).2.1 q4).2.1 dX10_redeem_91 ?_
          refine S_aload_n 1 dX10_redeem_92 rfl rfl ?_
          refine S_getP f_RX10_23 s_0 p_0_1 dX10_redeem_93 ?_
          refine S_getP f_RX10_160 (sI i0) (pI_c i0) dX10_redeem_96 ?_
          refine S_iload_n 3 dX10_redeem_99 rfl rfl ?_
          refine S_iald (sI_c i0) ((((T.2 (zb_t q1)).1 (zb_t q2)).2.2 (zb_t q3)).2.1 q4).2.2.1 dX10_redeem_100 ?_
          exact S_ireti rfl dX10_redeem_101 ⟨_, u2 (u2 (u2 I ((3 + 33 + 2 * x1.toNatClampNeg)) 3 (((I ((3 + 33 + 2 * x1.toNatClampNeg)) 3) ||| ((1 : Int32) <<< (x2 &&& 31))))) ((3 + 33 + 2 * x1.toNatClampNeg)) 4 ((((u2 I ((3 + 33 + 2 * x1.toNatClampNeg)) 3 (((I ((3 + 33 + 2 * x1.toNatClampNeg)) 3) ||| ((1 : Int32) <<< (x2 &&& 31))))) ((3 + 33 + 2 * x1.toNatClampNeg)) 4) &&& (((1 : Int32) <<< (x2 &&& 31)) ^^^ (-1 : Int32))))) 5 x2.toNatClampNeg ((((u2 (u2 I ((3 + 33 + 2 * x1.toNatClampNeg)) 3 (((I ((3 + 33 + 2 * x1.toNatClampNeg)) 3) ||| ((1 : Int32) <<< (x2 &&& 31))))) ((3 + 33 + 2 * x1.toNatClampNeg)) 4 ((((u2 I ((3 + 33 + 2 * x1.toNatClampNeg)) 3 (((I ((3 + 33 + 2 * x1.toNatClampNeg)) 3) ||| ((1 : Int32) <<< (x2 &&& 31))))) ((3 + 33 + 2 * x1.toNatClampNeg)) 4) &&& (((1 : Int32) <<< (x2 &&& 31)) ^^^ (-1 : Int32))))) 5 x2.toNatClampNeg) - (1 : Int32))), L, M, rfl, rfl, ((((T.2 (zb_t q1)).1 (zb_t q2)).2.2 (zb_t q3)).2.1 q4).2.2.2⟩
        · refine S_bipush (v := -3) dX10_redeem_50 (by decide) ?_
          exact S_ireti rfl dX10_redeem_52 ⟨_, I, L, M, rfl, rfl, ((((T.2 (zb_t q1)).1 (zb_t q2)).2.2 (zb_t q3)).2.2 q4)⟩
    · refine S_iconst (v := -1) dX10_redeem_15 (by decide) ?_
      exact S_ireti rfl dX10_redeem_16 ⟨_, I, L, M, rfl, rfl, ((T.2 (zb_t q1)).2 (zb_f q2))⟩

set_option maxRecDepth 100000 in
theorem t_X10_row {C : zC} {I : Nat → Nat → Int32} {L : Nat → Nat → Int64} {M : Nat → Nat → Option Nat} (d : Nat) (x1 : Int32) (x2 : Int32) (x3 : Int32)  (K : Int32 → (Nat → Nat → Int32) → (Nat → Nat → Int64) → (Nat → Nat → Option Nat) → Prop) (T : ((¬ (0 ≤ x1 ∧ x1 < I 3 3) → K ((-1)) I L M) ∧ ((0 ≤ x1 ∧ x1 < I 3 3) → (((0 ≤ x2 ∧ x2 < 4) → (((0 ≤ x3 ∧ x3 ≤ 9) → vp_in x1 6 ∧ (((I ((3 + 33 + 2 * x1.toNatClampNeg)) 1) = 6 → vp_in x2 4 ∧ vp_in x2 4 ∧ K ((I (((3 + 33 + 2 * x1.toNatClampNeg) + 1)) x2.toNatClampNeg)) (u2 I (((3 + 33 + 2 * x1.toNatClampNeg) + 1)) x2.toNatClampNeg x3) L M) ∧ (¬ ((I ((3 + 33 + 2 * x1.toNatClampNeg)) 1) = 6) → K ((-3)) I L M))) ∧ (¬ (0 ≤ x3 ∧ x3 ≤ 9) → K ((-2)) I L M))) ∧ (¬ (0 ≤ x2 ∧ x2 < 4) → K ((-1)) I L M))))) : zCI C Y_X10_row (d + 3) [.ref 0, .int x1, .int x2, .int x3] (zmk I L M) K := by
  refine S_enter (by decide) (Nat.le_of_ble_eq_true rfl) ?_
  refine S_lv (lv' := [(0, .ref 0), (1, .int x1), (2, .int x2), (3, .int x3)]) rfl ?_
  refine S_aload_n 0 dX10_row_0 rfl rfl ?_
  refine S_iload_n 1 dX10_row_1 rfl rfl ?_
  refine S_callV [.int x1] [] m_RX10_105 rfl rfl s_0 ⟨rfl, by decide⟩ (Nat.le_of_ble_eq_true rfl) (zroom_0 (by decide)) dX10_row_2 (zpure (sp_X10_isGuest (I := I) (L := L) (M := M) (d + 0) x1) ?_)
  refine S_if_eq (tgt := 16) dX10_row_5 (by decide) (fun q1 => ?_) (fun q1 => ?_)
  · refine S_iconst (v := -1) dX10_row_16 (by decide) ?_
    exact S_ireti rfl dX10_row_17 ⟨_, I, L, M, rfl, rfl, (T.1 (zb_f q1))⟩
  · refine S_iload_n 2 dX10_row_8 rfl rfl ?_
    refine S_iconst (v := 4) dX10_row_9 (by decide) ?_
    refine S_callS [.int x2, .int 4] [] m_RX10_85 rfl rfl (Nat.le_of_ble_eq_true rfl) (zroom_0 (by decide)) dX10_row_10 (zpure (sp_X10_isBelow (I := I) (L := L) (M := M) (d + 1) x2 4) ?_)
    refine S_if_ne (tgt := 18) dX10_row_13 (by decide) (fun q2 => ?_) (fun q2 => ?_)
    · refine S_iload_n 3 dX10_row_18 rfl rfl ?_
      refine S_bipush (v := 9) dX10_row_19 (by decide) ?_
      refine S_callS [.int x3, .int 9] [] m_RX10_89 rfl rfl (Nat.le_of_ble_eq_true rfl) (zroom_0 (by decide)) dX10_row_21 (zpure (sp_X10_isWithin (I := I) (L := L) (M := M) (d + 1) x3 9) ?_)
      refine S_if_ne (tgt := 30) dX10_row_24 (by decide) (fun q3 => ?_) (fun q3 => ?_)
      · refine S_aload_n 0 dX10_row_30 rfl rfl ?_
        refine S_getP f_RX10_23 s_0 p_0_1 dX10_row_31 ?_
        refine S_getP f_RX10_77 (sI i0) (pI_g i0) dX10_row_34 ?_
        refine S_iload_n 1 dX10_row_37 rfl rfl ?_
        refine S_aald 1 (by decide) (sI_g i0) (((T.2 (zb_t q1)).1 (zb_t q2)).1 (zb_t q3)).1 ((gI_p i0) _ (vp_lt (((T.2 (zb_t q1)).1 (zb_t q2)).1 (zb_t q3)).1)) dX10_row_38 ?_
        refine S_astore dX10_row_39 (by decide) rfl ?_
        refine S_aload 0 dX10_row_41 rfl ?_
        refine S_getI f_RX10_109 ((gI i0) _ (vp_lt (((T.2 (zb_t q1)).1 (zb_t q2)).1 (zb_t q3)).1)).1 dX10_row_43 ?_
        refine S_bipush (v := 6) dX10_row_46 (by decide) ?_
        refine S_icmp_eq (tgt := 54) dX10_row_48 (by decide) (fun q4 => ?_) (fun q4 => ?_)
        · refine S_aload 0 dX10_row_54 rfl ?_
          refine S_getP f_RX10_163 ((gI i0) _ (vp_lt (((T.2 (zb_t q1)).1 (zb_t q2)).1 (zb_t q3)).1)).1 ((gI i0) _ (vp_lt (((T.2 (zb_t q1)).1 (zb_t q2)).1 (zb_t q3)).1)).2.1 dX10_row_56 ?_
          refine S_iload_n 3 dX10_row_59 rfl rfl ?_
          refine S_iald ((gI i0) _ (vp_lt (((T.2 (zb_t q1)).1 (zb_t q2)).1 (zb_t q3)).1)).2.2 ((((T.2 (zb_t q1)).1 (zb_t q2)).1 (zb_t q3)).2.1 q4).1 dX10_row_60 ?_
          refine S_istore dX10_row_61 (by decide) rfl ?_
          refine S_aload 1 dX10_row_63 rfl ?_
          refine S_getP f_RX10_163 ((gI i0) _ (vp_lt (((T.2 (zb_t q1)).1 (zb_t q2)).1 (zb_t q3)).1)).1 ((gI i0) _ (vp_lt (((T.2 (zb_t q1)).1 (zb_t q2)).1 (zb_t q3)).1)).2.1 dX10_row_65 ?_
          refine S_iload_n 4 dX10_row_68 rfl rfl ?_
          refine S_iload_n 5 dX10_row_69 rfl rfl ?_
          refine S_iast ((gI i0) _ (vp_lt (((T.2 (zb_t q1)).1 (zb_t q2)).1 (zb_t q3)).1)).2.2 ((((T.2 (zb_t q1)).1 (zb_t q2)).1 (zb_t q3)).2.1 q4).2.1 dX10_row_70 ?_
          refine S_iload 0 dX10_row_71 rfl ?_
          exact S_ireti rfl dX10_row_73 ⟨_, u2 I (((3 + 33 + 2 * x1.toNatClampNeg) + 1)) x2.toNatClampNeg x3, L, M, rfl, rfl, ((((T.2 (zb_t q1)).1 (zb_t q2)).1 (zb_t q3)).2.1 q4).2.2⟩
        · refine S_bipush (v := -3) dX10_row_51 (by decide) ?_
          exact S_ireti rfl dX10_row_53 ⟨_, I, L, M, rfl, rfl, ((((T.2 (zb_t q1)).1 (zb_t q2)).1 (zb_t q3)).2.2 q4)⟩
      · refine S_bipush (v := -2) dX10_row_27 (by decide) ?_
        exact S_ireti rfl dX10_row_29 ⟨_, I, L, M, rfl, rfl, (((T.2 (zb_t q1)).1 (zb_t q2)).2 (zb_f q3))⟩
    · refine S_iconst (v := -1) dX10_row_16 (by decide) ?_
      exact S_ireti rfl dX10_row_17 ⟨_, I, L, M, rfl, rfl, ((T.2 (zb_t q1)).2 (zb_f q2))⟩

set_option maxRecDepth 100000 in
theorem t_X10_see {C : zC} {I : Nat → Nat → Int32} {L : Nat → Nat → Int64} {M : Nat → Nat → Option Nat} (d : Nat) (x1 : Int32) (x2 : Int32) (x3 : Int32) (x4 : Int32)  (K : Int32 → (Nat → Nat → Int32) → (Nat → Nat → Int64) → (Nat → Nat → Option Nat) → Prop) (T : ((¬ x1 = (-1) → ((¬ (0 ≤ x1 ∧ x1 < I 3 3) → K ((-1)) I L M) ∧ ((0 ≤ x1 ∧ x1 < I 3 3) → (((0 ≤ x3 ∧ x3 < 12) → (((0 ≤ x2 ∧ x2 ≤ 12) → ((x4 = 0 → zCI C Y_X6_add (d + 2) [.ref 7, .int x1, .int x2, .int x3, .int 0] (zmk I L M) (fun r1_6 I1_6 L1_6 M1_6 => K r1_6 I1_6 L1_6 M1_6)) ∧ (¬ (x4 = 0) → zCI C Y_X6_add (d + 2) [.ref 7, .int x1, .int x2, .int x3, .int 1] (zmk I L M) (fun r2_6 I2_6 L2_6 M2_6 => K r2_6 I2_6 L2_6 M2_6)))) ∧ (¬ (0 ≤ x2 ∧ x2 ≤ 12) → K ((-2)) I L M))) ∧ (¬ (0 ≤ x3 ∧ x3 < 12) → K ((-1)) I L M))))) ∧ (x1 = (-1) → K 0 (u2 I 7 1 0) L M))) : zCI C Y_X10_see (d + 3) [.ref 0, .int x1, .int x2, .int x3, .int x4] (zmk I L M) K := by
  refine S_enter (by decide) (Nat.le_of_ble_eq_true rfl) ?_
  refine S_lv (lv' := [(0, .ref 0), (1, .int x1), (2, .int x2), (3, .int x3), (4, .int x4)]) rfl ?_
  refine S_iload_n 1 dX10_see_0 rfl rfl ?_
  refine S_iconst (v := -1) dX10_see_1 (by decide) ?_
  refine S_icmp_ne (tgt := 18) dX10_see_2 (by decide) (fun q1 => ?_) (fun q1 => ?_)
  · refine S_aload_n 0 dX10_see_18 rfl rfl ?_
    refine S_iload_n 1 dX10_see_19 rfl rfl ?_
    refine S_callV [.int x1] [] m_RX10_105 rfl rfl s_0 ⟨rfl, by decide⟩ (Nat.le_of_ble_eq_true rfl) (zroom_0 (by decide)) dX10_see_20 (zpure (sp_X10_isGuest (I := I) (L := L) (M := M) (d + 0) x1) ?_)
    refine S_if_eq (tgt := 33) dX10_see_23 (by decide) (fun q2 => ?_) (fun q2 => ?_)
    · refine S_iconst (v := -1) dX10_see_33 (by decide) ?_
      exact S_ireti rfl dX10_see_34 ⟨_, I, L, M, rfl, rfl, ((T.1 q1).1 (zb_f q2))⟩
    · refine S_iload_n 3 dX10_see_26 rfl rfl ?_
      refine S_callS [.int x3] [] m_RX10_143 rfl rfl (Nat.le_of_ble_eq_true rfl) (zroom_0 (by decide)) dX10_see_27 (zpure (sp_X10_isPurpose (I := I) (L := L) (M := M) (d + 0) x3) ?_)
      refine S_if_ne (tgt := 35) dX10_see_30 (by decide) (fun q3 => ?_) (fun q3 => ?_)
      · refine S_iload_n 2 dX10_see_35 rfl rfl ?_
        refine S_bipush (v := 12) dX10_see_36 (by decide) ?_
        refine S_callS [.int x2, .int 12] [] m_RX10_89 rfl rfl (Nat.le_of_ble_eq_true rfl) (zroom_0 (by decide)) dX10_see_38 (zpure (sp_X10_isWithin (I := I) (L := L) (M := M) (d + 1) x2 12) ?_)
        refine S_if_ne (tgt := 47) dX10_see_41 (by decide) (fun q4 => ?_) (fun q4 => ?_)
        · refine S_aload_n 0 dX10_see_47 rfl rfl ?_
          refine S_getP f_RX10_23 s_0 p_0_1 dX10_see_48 ?_
          refine S_getP f_RX10_216 (sI i0) (pI_s i0) dX10_see_51 ?_
          refine S_iload_n 1 dX10_see_54 rfl rfl ?_
          refine S_iload_n 2 dX10_see_55 rfl rfl ?_
          refine S_iload_n 3 dX10_see_56 rfl rfl ?_
          refine S_iload 4 dX10_see_57 rfl ?_
          refine S_if_eq (tgt := 66) dX10_see_59 (by decide) (fun q5 => ?_) (fun q5 => ?_)
          · refine S_iconst (v := 0) dX10_see_66 (by decide) ?_
            refine S_callV [.int x1, .int x2, .int x3, .int 0] [] m_RX10_225 rfl rfl (rI_s i0).1 ⟨rfl, by decide⟩ (Nat.le_of_ble_eq_true rfl) (zroom_0 (by decide)) dX10_see_67 (zCI_use (((((T.1 q1).2 (zb_t q2)).1 (zb_t q3)).1 (zb_t q4)).1 q5) ?_)
            intro r1_6 I1_6 L1_6 M1_6 T1_6
            exact S_ireti rfl dX10_see_70 ⟨_, I1_6, L1_6, M1_6, rfl, rfl, T1_6⟩
          · refine S_iconst (v := 1) dX10_see_62 (by decide) ?_
            refine S_goto (tgt := 67) dX10_see_63 (by decide) ?_
            refine S_callV [.int x1, .int x2, .int x3, .int 1] [] m_RX10_225 rfl rfl (rI_s i0).1 ⟨rfl, by decide⟩ (Nat.le_of_ble_eq_true rfl) (zroom_0 (by decide)) dX10_see_67 (zCI_use (((((T.1 q1).2 (zb_t q2)).1 (zb_t q3)).1 (zb_t q4)).2 q5) ?_)
            intro r2_6 I2_6 L2_6 M2_6 T2_6
            exact S_ireti rfl dX10_see_70 ⟨_, I2_6, L2_6, M2_6, rfl, rfl, T2_6⟩
        · refine S_bipush (v := -2) dX10_see_44 (by decide) ?_
          exact S_ireti rfl dX10_see_46 ⟨_, I, L, M, rfl, rfl, ((((T.1 q1).2 (zb_t q2)).1 (zb_t q3)).2 (zb_f q4))⟩
      · refine S_iconst (v := -1) dX10_see_33 (by decide) ?_
        exact S_ireti rfl dX10_see_34 ⟨_, I, L, M, rfl, rfl, (((T.1 q1).2 (zb_t q2)).2 (zb_f q3))⟩
  · refine S_aload_n 0 dX10_see_5 rfl rfl ?_
    refine S_getP f_RX10_23 s_0 p_0_1 dX10_see_6 ?_
    refine S_getP f_RX10_216 (sI i0) (pI_s i0) dX10_see_9 ?_
    refine S_iconst (v := 0) dX10_see_12 (by decide) ?_
    refine S_putI f_RX10_220 (rI_s i0).1 (Or.inl rfl) rfl dX10_see_13 ?_
    refine S_iconst (v := 0) dX10_see_16 (by decide) ?_
    exact S_ireti rfl dX10_see_17 ⟨_, u2 I 7 1 0, L, M, rfl, rfl, (T.2 q1)⟩

set_option maxRecDepth 100000 in
theorem t_X10_set {C : zC} {I : Nat → Nat → Int32} {L : Nat → Nat → Int64} {M : Nat → Nat → Option Nat} (d : Nat) (x1 : Int32) (x2 : Int32) (x3 : Int32)  (K : Int32 → (Nat → Nat → Int32) → (Nat → Nat → Int64) → (Nat → Nat → Option Nat) → Prop) (T : ((¬ (0 ≤ x1 ∧ x1 < I 3 3) → K ((-1)) I L M) ∧ ((0 ≤ x1 ∧ x1 < I 3 3) → (((0 ≤ x2 ∧ x2 < 2) → (((0 ≤ x3 ∧ x3 ≤ 4095) → vp_in x1 6 ∧ ((¬ x2 = 0 → zSI C (zmk I L M) K Y_X10_set (d + 3) 59 [(2, .int x2), (3, .int x3), (4, .ref (3 + 33 + 2 * x1.toNatClampNeg))] [.int (I ((3 + 33 + 2 * x1.toNatClampNeg)) 4)] I L M) ∧ (x2 = 0 → zSI C (zmk I L M) K Y_X10_set (d + 3) 59 [(2, .int x2), (3, .int x3), (4, .ref (3 + 33 + 2 * x1.toNatClampNeg))] [.int (I ((3 + 33 + 2 * x1.toNatClampNeg)) 3)] I L M))) ∧ (¬ (0 ≤ x3 ∧ x3 ≤ 4095) → K ((-2)) I L M))) ∧ (¬ (0 ≤ x2 ∧ x2 < 2) → K ((-1)) I L M))))) : zCI C Y_X10_set (d + 3) [.ref 0, .int x1, .int x2, .int x3] (zmk I L M) K := by
  refine S_enter (by decide) (Nat.le_of_ble_eq_true rfl) ?_
  refine S_lv (lv' := [(0, .ref 0), (1, .int x1), (2, .int x2), (3, .int x3)]) rfl ?_
  refine S_aload_n 0 dX10_set_0 rfl rfl ?_
  refine S_iload_n 1 dX10_set_1 rfl rfl ?_
  refine S_callV [.int x1] [] m_RX10_105 rfl rfl s_0 ⟨rfl, by decide⟩ (Nat.le_of_ble_eq_true rfl) (zroom_0 (by decide)) dX10_set_2 (zpure (sp_X10_isGuest (I := I) (L := L) (M := M) (d + 0) x1) ?_)
  refine S_if_eq (tgt := 16) dX10_set_5 (by decide) (fun q1 => ?_) (fun q1 => ?_)
  · refine S_iconst (v := -1) dX10_set_16 (by decide) ?_
    exact S_ireti rfl dX10_set_17 ⟨_, I, L, M, rfl, rfl, (T.1 (zb_f q1))⟩
  · refine S_iload_n 2 dX10_set_8 rfl rfl ?_
    refine S_iconst (v := 2) dX10_set_9 (by decide) ?_
    refine S_callS [.int x2, .int 2] [] m_RX10_85 rfl rfl (Nat.le_of_ble_eq_true rfl) (zroom_0 (by decide)) dX10_set_10 (zpure (sp_X10_isBelow (I := I) (L := L) (M := M) (d + 1) x2 2) ?_)
    refine S_if_ne (tgt := 18) dX10_set_13 (by decide) (fun q2 => ?_) (fun q2 => ?_)
    · refine S_iload_n 3 dX10_set_18 rfl rfl ?_
      refine S_sipush (v := 4095) dX10_set_19 (by decide) ?_
      refine S_callS [.int x3, .int 4095] [] m_RX10_89 rfl rfl (Nat.le_of_ble_eq_true rfl) (zroom_0 (by decide)) dX10_set_22 (zpure (sp_X10_isWithin (I := I) (L := L) (M := M) (d + 1) x3 4095) ?_)
      refine S_if_ne (tgt := 31) dX10_set_25 (by decide) (fun q3 => ?_) (fun q3 => ?_)
      · refine S_aload_n 0 dX10_set_31 rfl rfl ?_
        refine S_getP f_RX10_23 s_0 p_0_1 dX10_set_32 ?_
        refine S_getP f_RX10_77 (sI i0) (pI_g i0) dX10_set_35 ?_
        refine S_iload_n 1 dX10_set_38 rfl rfl ?_
        refine S_aald 1 (by decide) (sI_g i0) (((T.2 (zb_t q1)).1 (zb_t q2)).1 (zb_t q3)).1 ((gI_p i0) _ (vp_lt (((T.2 (zb_t q1)).1 (zb_t q2)).1 (zb_t q3)).1)) dX10_set_39 ?_
        refine S_astore dX10_set_40 (by decide) rfl ?_
        refine S_iload_n 3 dX10_set_42 rfl rfl ?_
        refine S_if_ne (tgt := 54) dX10_set_43 (by decide) (fun q4 => ?_) (fun q4 => ?_)
        · refine S_aload 0 dX10_set_54 rfl ?_
          refine S_getI f_RX10_118 ((gI i0) _ (vp_lt (((T.2 (zb_t q1)).1 (zb_t q2)).1 (zb_t q3)).1)).1 dX10_set_56 ?_
          exact S_sub [3, 4, 0] rfl ((((T.2 (zb_t q1)).1 (zb_t q2)).1 (zb_t q3)).2.1 q4)
        · refine S_aload 0 dX10_set_46 rfl ?_
          refine S_getI f_RX10_115 ((gI i0) _ (vp_lt (((T.2 (zb_t q1)).1 (zb_t q2)).1 (zb_t q3)).1)).1 dX10_set_48 ?_
          refine S_goto (tgt := 59) dX10_set_51 (by decide) ?_
          exact S_sub [3, 4, 0] rfl ((((T.2 (zb_t q1)).1 (zb_t q2)).1 (zb_t q3)).2.2 q4)
      · refine S_bipush (v := -2) dX10_set_28 (by decide) ?_
        exact S_ireti rfl dX10_set_30 ⟨_, I, L, M, rfl, rfl, (((T.2 (zb_t q1)).1 (zb_t q2)).2 (zb_f q3))⟩
    · refine S_iconst (v := -1) dX10_set_16 (by decide) ?_
      exact S_ireti rfl dX10_set_17 ⟨_, I, L, M, rfl, rfl, ((T.2 (zb_t q1)).2 (zb_f q2))⟩

set_option maxRecDepth 100000 in
theorem t_X10_set_59 {C : zC} {I : Nat → Nat → Int32} {L : Nat → Nat → Int64} {M : Nat → Nat → Option Nat} {h0 : zH} (d : Nat)  {a_l4 : Nat} (e_l4 : zGu a_l4) (y2 : Int32) (y3 : Int32) (z0 : Int32) (K : Int32 → (Nat → Nat → Int32) → (Nat → Nat → Int64) → (Nat → Nat → Option Nat) → Prop) (T : ((¬ y2 = 0 → K z0 (u2 I a_l4 4 y3) L M) ∧ (y2 = 0 → K z0 (u2 I a_l4 3 y3) L M))) : zSI C h0 K Y_X10_set (d + 3) 59 [(2, .int y2), (3, .int y3), (4, .ref a_l4)] [.int z0] I L M := by
  refine S_istore dX10_set_59 (by decide) rfl ?_
  refine S_iload_n 1 dX10_set_61 rfl rfl ?_
  refine S_if_ne (tgt := 74) dX10_set_62 (by decide) (fun q1 => ?_) (fun q1 => ?_)
  · refine S_aload 3 dX10_set_74 rfl ?_
    refine S_iload_n 2 dX10_set_76 rfl rfl ?_
    refine S_putI f_RX10_118 e_l4.1 (Or.inl rfl) rfl dX10_set_77 ?_
    refine S_iload 0 dX10_set_80 rfl ?_
    exact S_ireti rfl dX10_set_82 ⟨_, u2 I a_l4 4 y3, L, M, rfl, rfl, (T.1 q1)⟩
  · refine S_aload 3 dX10_set_65 rfl ?_
    refine S_iload_n 2 dX10_set_67 rfl rfl ?_
    refine S_putI f_RX10_115 e_l4.1 (Or.inl rfl) rfl dX10_set_68 ?_
    refine S_goto (tgt := 80) dX10_set_71 (by decide) ?_
    refine S_iload 0 dX10_set_80 rfl ?_
    exact S_ireti rfl dX10_set_82 ⟨_, u2 I a_l4 3 y3, L, M, rfl, rfl, (T.2 q1)⟩

set_option maxRecDepth 100000 in
theorem t_X10_settle {C : zC} {I : Nat → Nat → Int32} {L : Nat → Nat → Int64} {M : Nat → Nat → Option Nat} (d : Nat) {o1 : Nat} (ho1 : zInn o1) (K : (Nat → Nat → Int32) → (Nat → Nat → Int64) → (Nat → Nat → Option Nat) → Prop) (T : zSV C (zmk I L M) K Y_X10_settle (d + 3) 2 [(0, .ref 0), (1, .ref o1), (2, .int 0)] [] I L M) : zCV C Y_X10_settle (d + 3) [.ref 0, .ref o1] (zmk I L M) K := by
  refine S_enter (by decide) (Nat.le_of_ble_eq_true rfl) ?_
  refine S_lv (lv' := [(0, .ref 0), (1, .ref o1)]) rfl ?_
  refine S_iconst (v := 0) dX10_settle_0 (by decide) ?_
  refine S_istore_n dX10_settle_1 rfl (by decide) rfl ?_
  exact S_sub [1, 2, 0] rfl T

set_option maxRecDepth 100000 in
theorem t_X10_settle_2 {C : zC} {I : Nat → Nat → Int32} {L : Nat → Nat → Int64} {M : Nat → Nat → Option Nat} {h0 : zH} (d : Nat) {o1 : Nat} (ho1 : zInn o1)  (y2 : Int32) (K : (Nat → Nat → Int32) → (Nat → Nat → Int64) → (Nat → Nat → Option Nat) → Prop) (T : (((I o1 3) ≤ y2 → K I L M) ∧ (¬ ((I o1 3) ≤ y2) → vp_in y2 6 ∧ vp_in y2 6 ∧ zCV C Y_X3_settle (d + 2) [.ref (163 + 15 * y2.toNatClampNeg), .ref o1, .ref (o1 + 33 + 2 * y2.toNatClampNeg)] (zmk I L M) (fun I1_2 L1_2 M1_2 => zSV C h0 K Y_X10_settle (d + 3) 2 [(0, .ref 0), (1, .ref o1), (2, .int (y2 + 1))] [] I1_2 L1_2 M1_2)))) : zSV C h0 K Y_X10_settle (d + 3) 2 [(0, .ref 0), (1, .ref o1), (2, .int y2)] [] I L M := by
  refine S_iload_n 2 dX10_settle_2 rfl rfl ?_
  refine S_aload_n 1 dX10_settle_3 rfl rfl ?_
  refine S_getI f_RX10_92 (sI ho1) dX10_settle_4 ?_
  refine S_icmp_ge (tgt := 32) dX10_settle_7 (by decide) (fun q1 => ?_) (fun q1 => ?_)
  · exact S_vret rfl dX10_settle_32 ⟨I, L, M, rfl, rfl, (T.1 q1)⟩
  · refine S_aload_n 0 dX10_settle_10 rfl rfl ?_
    refine S_getP f_RX10_46 s_0 p_0_8 dX10_settle_11 ?_
    refine S_iload_n 2 dX10_settle_14 rfl rfl ?_
    refine S_aald 3 (by decide) s_141 (T.2 q1).1 (hL_p _ (vp_lt (T.2 q1).1)) dX10_settle_15 ?_
    refine S_aload_n 1 dX10_settle_16 rfl rfl ?_
    refine S_aload_n 1 dX10_settle_17 rfl rfl ?_
    refine S_getP f_RX10_77 (sI ho1) (pI_g ho1) dX10_settle_18 ?_
    refine S_iload_n 2 dX10_settle_21 rfl rfl ?_
    refine S_aald 1 (by decide) (sI_g ho1) (T.2 q1).2.1 ((gI_p ho1) _ (vp_lt (T.2 q1).2.1)) dX10_settle_22 ?_
    refine S_callV [.ref o1, .ref (o1 + 33 + 2 * y2.toNatClampNeg)] [] m_RX10_316 rfl rfl (hL _ (vp_lt (T.2 q1).1)).1 ⟨rfl, by decide⟩ (Nat.le_of_ble_eq_true rfl) (zroom_0 (by decide)) dX10_settle_23 (zCV_use (T.2 q1).2.2 ?_)
    intro I1_2 L1_2 M1_2 T1_2
    refine S_iinc 2 dX10_settle_26 rfl rfl (by decide) rfl ?_
    refine S_goto (tgt := 2) dX10_settle_29 (by decide) ?_
    exact S_sub [1, 2, 0] rfl T1_2

set_option maxRecDepth 100000 in
theorem t_X10_shift {C : zC} {I : Nat → Nat → Int32} {L : Nat → Nat → Int64} {M : Nat → Nat → Option Nat} (d : Nat) (x1 : Int32) (x2 : Int32) (x3 : Int32) (x4 : Int32) (x5 : Int32)  (K : Int32 → (Nat → Nat → Int32) → (Nat → Nat → Int64) → (Nat → Nat → Option Nat) → Prop) (T : ((¬ (0 ≤ x1 ∧ x1 < 6) → K ((-1)) I L M) ∧ ((0 ≤ x1 ∧ x1 < 6) → (((0 ≤ x3 ∧ x3 < 6) → vp_in x1 6 ∧ vp_in x3 6 ∧ (((I ((253 + 2 * x1.toNatClampNeg)) 0) = (-1) → K ((-11)) I L M) ∧ (¬ ((I ((253 + 2 * x1.toNatClampNeg)) 0) = (-1)) → ((¬ (I ((253 + 2 * x3.toNatClampNeg)) 0) = (-1) → (((I ((253 + 2 * x1.toNatClampNeg)) 0) = (I ((253 + 2 * x3.toNatClampNeg)) 0) → ((¬ (0 ≤ x2 ∧ 0 ≤ x5 ∧ x5 ≤ I ((253 + 2 * x1.toNatClampNeg)) 1 ∧ x2 ≤ I ((253 + 2 * x1.toNatClampNeg)) 1 - x5) → K ((-13)) I L M) ∧ ((0 ≤ x2 ∧ 0 ≤ x5 ∧ x5 ≤ I ((253 + 2 * x1.toNatClampNeg)) 1 ∧ x2 ≤ I ((253 + 2 * x1.toNatClampNeg)) 1 - x5) → (((0 ≤ x4 ∧ 0 ≤ x5 ∧ x5 ≤ I ((253 + 2 * x3.toNatClampNeg)) 1 ∧ x4 ≤ I ((253 + 2 * x3.toNatClampNeg)) 1 - x5) → (¬ x2 < 0 ∧ ¬ x4 < 0 ∧ ¬ x5 < 0 ∧ x2.toNatClampNeg + x5.toNatClampNeg ≤ 60 ∧ x4.toNatClampNeg + x5.toNatClampNeg ≤ 60) ∧ K x5 I (uR L (((253 + 2 * x3.toNatClampNeg) + 1)) (va_cpy (L (((253 + 2 * x1.toNatClampNeg) + 1))) (L (((253 + 2 * x3.toNatClampNeg) + 1))) x2.toNatClampNeg x4.toNatClampNeg x5.toNatClampNeg)) M) ∧ (¬ (0 ≤ x4 ∧ 0 ≤ x5 ∧ x5 ≤ I ((253 + 2 * x3.toNatClampNeg)) 1 ∧ x4 ≤ I ((253 + 2 * x3.toNatClampNeg)) 1 - x5) → K ((-13)) I L M))))) ∧ (¬ ((I ((253 + 2 * x1.toNatClampNeg)) 0) = (I ((253 + 2 * x3.toNatClampNeg)) 0)) → K ((-12)) I L M))) ∧ ((I ((253 + 2 * x3.toNatClampNeg)) 0) = (-1) → K ((-11)) I L M))))) ∧ (¬ (0 ≤ x3 ∧ x3 < 6) → K ((-1)) I L M))))) : zCI C Y_X10_shift (d + 2) [.ref 0, .int x1, .int x2, .int x3, .int x4, .int x5] (zmk I L M) K := by
  refine S_enter (by decide) (Nat.le_of_ble_eq_true rfl) ?_
  refine S_lv (lv' := [(0, .ref 0), (1, .int x1), (2, .int x2), (3, .int x3), (4, .int x4), (5, .int x5)]) rfl ?_
  refine S_iload_n 1 dX10_shift_0 rfl rfl ?_
  refine S_bipush (v := 6) dX10_shift_1 (by decide) ?_
  refine S_callS [.int x1, .int 6] [] m_RX10_85 rfl rfl (Nat.le_of_ble_eq_true rfl) (zroom_0 (by decide)) dX10_shift_3 (zpure (sp_X10_isBelow (I := I) (L := L) (M := M) (d + 0) x1 6) ?_)
  refine S_if_eq (tgt := 18) dX10_shift_6 (by decide) (fun q1 => ?_) (fun q1 => ?_)
  · refine S_iconst (v := -1) dX10_shift_18 (by decide) ?_
    exact S_ireti rfl dX10_shift_19 ⟨_, I, L, M, rfl, rfl, (T.1 (zb_f q1))⟩
  · refine S_iload_n 3 dX10_shift_9 rfl rfl ?_
    refine S_bipush (v := 6) dX10_shift_10 (by decide) ?_
    refine S_callS [.int x3, .int 6] [] m_RX10_85 rfl rfl (Nat.le_of_ble_eq_true rfl) (zroom_0 (by decide)) dX10_shift_12 (zpure (sp_X10_isBelow (I := I) (L := L) (M := M) (d + 0) x3 6) ?_)
    refine S_if_ne (tgt := 20) dX10_shift_15 (by decide) (fun q2 => ?_) (fun q2 => ?_)
    · refine S_aload_n 0 dX10_shift_20 rfl rfl ?_
      refine S_getP f_RX10_73 s_0 p_0_12 dX10_shift_21 ?_
      refine S_iload_n 1 dX10_shift_24 rfl rfl ?_
      refine S_aald 4 (by decide) s_150 ((T.2 (zb_t q1)).1 (zb_t q2)).1 (hT_p _ (vp_lt ((T.2 (zb_t q1)).1 (zb_t q2)).1)) dX10_shift_25 ?_
      refine S_astore dX10_shift_26 (by decide) rfl ?_
      refine S_aload_n 1 dX10_shift_28 rfl rfl ?_
      refine S_getP f_RX10_73 s_0 p_0_12 dX10_shift_29 ?_
      refine S_iload_n 4 dX10_shift_32 rfl rfl ?_
      refine S_aald 4 (by decide) s_150 ((T.2 (zb_t q1)).1 (zb_t q2)).2.1 (hT_p _ (vp_lt ((T.2 (zb_t q1)).1 (zb_t q2)).2.1)) dX10_shift_33 ?_
      refine S_astore dX10_shift_34 (by decide) rfl ?_
      refine S_aload 1 dX10_shift_36 rfl ?_
      refine S_getI f_RX10_267 (hT _ (vp_lt ((T.2 (zb_t q1)).1 (zb_t q2)).1)).1 dX10_shift_38 ?_
      refine S_iconst (v := -1) dX10_shift_41 (by decide) ?_
      refine S_icmp_eq (tgt := 54) dX10_shift_42 (by decide) (fun q3 => ?_) (fun q3 => ?_)
      · refine S_bipush (v := -11) dX10_shift_54 (by decide) ?_
        exact S_ireti rfl dX10_shift_56 ⟨_, I, L, M, rfl, rfl, (((T.2 (zb_t q1)).1 (zb_t q2)).2.2.1 q3)⟩
      · refine S_aload 0 dX10_shift_45 rfl ?_
        refine S_getI f_RX10_267 (hT _ (vp_lt ((T.2 (zb_t q1)).1 (zb_t q2)).2.1)).1 dX10_shift_47 ?_
        refine S_iconst (v := -1) dX10_shift_50 (by decide) ?_
        refine S_icmp_ne (tgt := 57) dX10_shift_51 (by decide) (fun q4 => ?_) (fun q4 => ?_)
        · refine S_aload 1 dX10_shift_57 rfl ?_
          refine S_getI f_RX10_267 (hT _ (vp_lt ((T.2 (zb_t q1)).1 (zb_t q2)).1)).1 dX10_shift_59 ?_
          refine S_aload 0 dX10_shift_62 rfl ?_
          refine S_getI f_RX10_267 (hT _ (vp_lt ((T.2 (zb_t q1)).1 (zb_t q2)).2.1)).1 dX10_shift_64 ?_
          refine S_icmp_eq (tgt := 73) dX10_shift_67 (by decide) (fun q5 => ?_) (fun q5 => ?_)
          · refine S_aload 1 dX10_shift_73 rfl ?_
            refine S_iload_n 4 dX10_shift_75 rfl rfl ?_
            refine S_iload 7 dX10_shift_76 rfl ?_
            refine S_callV [.int x2, .int x5] [] m_RX10_270 rfl rfl (hT _ (vp_lt ((T.2 (zb_t q1)).1 (zb_t q2)).1)).1 ⟨rfl, by decide⟩ (Nat.le_of_ble_eq_true rfl) (zroom_0 (by decide)) dX10_shift_78 (zpure (sp_X9_isPart (I := I) (L := L) (M := M) (d + 0) (hT _ (vp_lt ((T.2 (zb_t q1)).1 (zb_t q2)).1)) x2 x5) ?_)
            refine S_if_eq (tgt := 96) dX10_shift_81 (by decide) (fun q6 => ?_) (fun q6 => ?_)
            · refine S_bipush (v := -13) dX10_shift_96 (by decide) ?_
              exact S_ireti rfl dX10_shift_98 ⟨_, I, L, M, rfl, rfl, ((((((T.2 (zb_t q1)).1 (zb_t q2)).2.2.2 q3).1 q4).1 q5).1 (zb_f q6))⟩
            · refine S_aload 0 dX10_shift_84 rfl ?_
              refine S_iload 6 dX10_shift_86 rfl ?_
              refine S_iload 7 dX10_shift_88 rfl ?_
              refine S_callV [.int x4, .int x5] [] m_RX10_270 rfl rfl (hT _ (vp_lt ((T.2 (zb_t q1)).1 (zb_t q2)).2.1)).1 ⟨rfl, by decide⟩ (Nat.le_of_ble_eq_true rfl) (zroom_0 (by decide)) dX10_shift_90 (zpure (sp_X9_isPart (I := I) (L := L) (M := M) (d + 0) (hT _ (vp_lt ((T.2 (zb_t q1)).1 (zb_t q2)).2.1)) x4 x5) ?_)
              refine S_if_ne (tgt := 99) dX10_shift_93 (by decide) (fun q7 => ?_) (fun q7 => ?_)
              · refine S_aload 1 dX10_shift_99 rfl ?_
                refine S_getP f_RX10_274 (hT _ (vp_lt ((T.2 (zb_t q1)).1 (zb_t q2)).1)).1 (hT _ (vp_lt ((T.2 (zb_t q1)).1 (zb_t q2)).1)).2.1 dX10_shift_101 ?_
                refine S_iload_n 4 dX10_shift_104 rfl rfl ?_
                refine S_aload 0 dX10_shift_105 rfl ?_
                refine S_getP f_RX10_274 (hT _ (vp_lt ((T.2 (zb_t q1)).1 (zb_t q2)).2.1)).1 (hT _ (vp_lt ((T.2 (zb_t q1)).1 (zb_t q2)).2.1)).2.1 dX10_shift_107 ?_
                refine S_iload 6 dX10_shift_110 rfl ?_
                refine S_iload 7 dX10_shift_112 rfl ?_
                refine S_copyL m_RX10_307 o_nat o_acs o_sys (hT _ (vp_lt ((T.2 (zb_t q1)).1 (zb_t q2)).1)).2.2 (hT _ (vp_lt ((T.2 (zb_t q1)).1 (zb_t q2)).2.1)).2.2 (((((((T.2 (zb_t q1)).1 (zb_t q2)).2.2.2 q3).1 q4).1 q5).2 (zb_t q6)).1 (zb_t q7)).1.1 (((((((T.2 (zb_t q1)).1 (zb_t q2)).2.2.2 q3).1 q4).1 q5).2 (zb_t q6)).1 (zb_t q7)).1.2.1 (((((((T.2 (zb_t q1)).1 (zb_t q2)).2.2.2 q3).1 q4).1 q5).2 (zb_t q6)).1 (zb_t q7)).1.2.2.1 (((((((T.2 (zb_t q1)).1 (zb_t q2)).2.2.2 q3).1 q4).1 q5).2 (zb_t q6)).1 (zb_t q7)).1.2.2.2.1 (((((((T.2 (zb_t q1)).1 (zb_t q2)).2.2.2 q3).1 q4).1 q5).2 (zb_t q6)).1 (zb_t q7)).1.2.2.2.2 (Nat.le_of_ble_eq_true rfl) rfl dX10_shift_114 ?_
                refine S_iload 7 dX10_shift_117 rfl ?_
                exact S_ireti rfl dX10_shift_119 ⟨_, I, uR L (((253 + 2 * x3.toNatClampNeg) + 1)) (va_cpy (L (((253 + 2 * x1.toNatClampNeg) + 1))) (L (((253 + 2 * x3.toNatClampNeg) + 1))) x2.toNatClampNeg x4.toNatClampNeg x5.toNatClampNeg), M, rfl, rfl, (((((((T.2 (zb_t q1)).1 (zb_t q2)).2.2.2 q3).1 q4).1 q5).2 (zb_t q6)).1 (zb_t q7)).2⟩
              · refine S_bipush (v := -13) dX10_shift_96 (by decide) ?_
                exact S_ireti rfl dX10_shift_98 ⟨_, I, L, M, rfl, rfl, (((((((T.2 (zb_t q1)).1 (zb_t q2)).2.2.2 q3).1 q4).1 q5).2 (zb_t q6)).2 (zb_f q7))⟩
          · refine S_bipush (v := -12) dX10_shift_70 (by decide) ?_
            exact S_ireti rfl dX10_shift_72 ⟨_, I, L, M, rfl, rfl, (((((T.2 (zb_t q1)).1 (zb_t q2)).2.2.2 q3).1 q4).2 q5)⟩
        · refine S_bipush (v := -11) dX10_shift_54 (by decide) ?_
          exact S_ireti rfl dX10_shift_56 ⟨_, I, L, M, rfl, rfl, ((((T.2 (zb_t q1)).1 (zb_t q2)).2.2.2 q3).2 q4)⟩
    · refine S_iconst (v := -1) dX10_shift_18 (by decide) ?_
      exact S_ireti rfl dX10_shift_19 ⟨_, I, L, M, rfl, rfl, ((T.2 (zb_t q1)).2 (zb_f q2))⟩

set_option maxRecDepth 100000 in
theorem t_X10_stay {C : zC} {I : Nat → Nat → Int32} {L : Nat → Nat → Int64} {M : Nat → Nat → Option Nat} (d : Nat) (x1 : Int32) (x2 : Int32)  (K : Int32 → (Nat → Nat → Int32) → (Nat → Nat → Int64) → (Nat → Nat → Option Nat) → Prop) (T : (((0 ≤ x1 ∧ x1 < I 3 3) → vp_in x1 6 ∧ vp_in x1 6 ∧ (x2 = 0 ∨ x2 = 1) ∧ (((I ((3 + 33 + 2 * x1.toNatClampNeg)) 5) = 0 → K 0 (u2 I ((3 + 33 + 2 * x1.toNatClampNeg)) 5 x2) L M) ∧ (¬ ((I ((3 + 33 + 2 * x1.toNatClampNeg)) 5) = 0) → K 1 (u2 I ((3 + 33 + 2 * x1.toNatClampNeg)) 5 x2) L M))) ∧ (¬ (0 ≤ x1 ∧ x1 < I 3 3) → K ((-1)) I L M))) : zCI C Y_X10_stay (d + 3) [.ref 0, .int x1, .int x2] (zmk I L M) K := by
  refine S_enter (by decide) (Nat.le_of_ble_eq_true rfl) ?_
  refine S_lv (lv' := [(0, .ref 0), (1, .int x1), (2, .int x2)]) rfl ?_
  refine S_aload_n 0 dX10_stay_0 rfl rfl ?_
  refine S_iload_n 1 dX10_stay_1 rfl rfl ?_
  refine S_callV [.int x1] [] m_RX10_105 rfl rfl s_0 ⟨rfl, by decide⟩ (Nat.le_of_ble_eq_true rfl) (zroom_0 (by decide)) dX10_stay_2 (zpure (sp_X10_isGuest (I := I) (L := L) (M := M) (d + 0) x1) ?_)
  refine S_if_ne (tgt := 10) dX10_stay_5 (by decide) (fun q1 => ?_) (fun q1 => ?_)
  · refine S_aload_n 0 dX10_stay_10 rfl rfl ?_
    refine S_getP f_RX10_23 s_0 p_0_1 dX10_stay_11 ?_
    refine S_getP f_RX10_77 (sI i0) (pI_g i0) dX10_stay_14 ?_
    refine S_iload_n 1 dX10_stay_17 rfl rfl ?_
    refine S_aald 1 (by decide) (sI_g i0) (T.1 (zb_t q1)).1 ((gI_p i0) _ (vp_lt (T.1 (zb_t q1)).1)) dX10_stay_18 ?_
    refine S_getI f_RX10_121 ((gI i0) _ (vp_lt (T.1 (zb_t q1)).1)).1 dX10_stay_19 ?_
    refine S_istore_n dX10_stay_22 rfl (by decide) rfl ?_
    refine S_aload_n 1 dX10_stay_23 rfl rfl ?_
    refine S_getP f_RX10_23 s_0 p_0_1 dX10_stay_24 ?_
    refine S_getP f_RX10_77 (sI i0) (pI_g i0) dX10_stay_27 ?_
    refine S_iload_n 2 dX10_stay_30 rfl rfl ?_
    refine S_aald 1 (by decide) (sI_g i0) (T.1 (zb_t q1)).2.1 ((gI_p i0) _ (vp_lt (T.1 (zb_t q1)).2.1)) dX10_stay_31 ?_
    refine S_iload_n 3 dX10_stay_32 rfl rfl ?_
    refine S_putZ f_RX10_121 ((gI i0) _ (vp_lt (T.1 (zb_t q1)).2.1)).1 (Or.inl rfl) rfl (T.1 (zb_t q1)).2.2.1 dX10_stay_33 ?_
    refine S_iload_n 0 dX10_stay_36 rfl rfl ?_
    refine S_if_eq (tgt := 44) dX10_stay_37 (by decide) (fun q2 => ?_) (fun q2 => ?_)
    · refine S_iconst (v := 0) dX10_stay_44 (by decide) ?_
      exact S_ireti rfl dX10_stay_45 ⟨_, u2 I ((3 + 33 + 2 * x1.toNatClampNeg)) 5 x2, L, M, rfl, rfl, ((T.1 (zb_t q1)).2.2.2.1 q2)⟩
    · refine S_iconst (v := 1) dX10_stay_40 (by decide) ?_
      refine S_goto (tgt := 45) dX10_stay_41 (by decide) ?_
      exact S_ireti rfl dX10_stay_45 ⟨_, u2 I ((3 + 33 + 2 * x1.toNatClampNeg)) 5 x2, L, M, rfl, rfl, ((T.1 (zb_t q1)).2.2.2.2 q2)⟩
  · refine S_iconst (v := -1) dX10_stay_8 (by decide) ?_
    exact S_ireti rfl dX10_stay_9 ⟨_, I, L, M, rfl, rfl, (T.2 (zb_f q1))⟩

set_option maxRecDepth 100000 in
theorem t_X10_taken {C : zC} {I : Nat → Nat → Int32} {L : Nat → Nat → Int64} {M : Nat → Nat → Option Nat} (d : Nat) (x1 : Int32) (x2 : Int32)  (K : Int32 → (Nat → Nat → Int32) → (Nat → Nat → Int64) → (Nat → Nat → Option Nat) → Prop) (T : (((0 ≤ x2 ∧ x2 < 7) → (((0 ≤ x1 ∧ x1 < I 3 3) → vp_in x1 6 ∧ zCI C Y_X10_isUnder (d + 2) [.int (I ((3 + 33 + 2 * x1.toNatClampNeg)) 1), .int x2] (zmk I L M) (fun r1_3 I1_3 L1_3 M1_3 => ((r1_3 = 0 → K ((-12)) I1_3 L1_3 M1_3) ∧ (¬ (r1_3 = 0) → K ((I ((3 + 33 + 2 * x1.toNatClampNeg)) 1)) I1_3 L1_3 M1_3)))) ∧ (¬ (0 ≤ x1 ∧ x1 < I 3 3) → K ((-11)) I L M))) ∧ (¬ (0 ≤ x2 ∧ x2 < 7) → K ((-2)) I L M))) : zCI C Y_X10_taken (d + 3) [.ref 0, .int x1, .int x2] (zmk I L M) K := by
  refine S_enter (by decide) (Nat.le_of_ble_eq_true rfl) ?_
  refine S_lv (lv' := [(0, .ref 0), (1, .int x1), (2, .int x2)]) rfl ?_
  refine S_iload_n 2 dX10_taken_0 rfl rfl ?_
  refine S_bipush (v := 7) dX10_taken_1 (by decide) ?_
  refine S_callS [.int x2, .int 7] [] m_RX10_85 rfl rfl (Nat.le_of_ble_eq_true rfl) (zroom_0 (by decide)) dX10_taken_3 (zpure (sp_X10_isBelow (I := I) (L := L) (M := M) (d + 1) x2 7) ?_)
  refine S_if_ne (tgt := 12) dX10_taken_6 (by decide) (fun q1 => ?_) (fun q1 => ?_)
  · refine S_aload_n 0 dX10_taken_12 rfl rfl ?_
    refine S_iload_n 1 dX10_taken_13 rfl rfl ?_
    refine S_callV [.int x1] [] m_RX10_105 rfl rfl s_0 ⟨rfl, by decide⟩ (Nat.le_of_ble_eq_true rfl) (zroom_0 (by decide)) dX10_taken_14 (zpure (sp_X10_isGuest (I := I) (L := L) (M := M) (d + 0) x1) ?_)
    refine S_if_ne (tgt := 23) dX10_taken_17 (by decide) (fun q2 => ?_) (fun q2 => ?_)
    · refine S_aload_n 0 dX10_taken_23 rfl rfl ?_
      refine S_getP f_RX10_23 s_0 p_0_1 dX10_taken_24 ?_
      refine S_getP f_RX10_77 (sI i0) (pI_g i0) dX10_taken_27 ?_
      refine S_iload_n 1 dX10_taken_30 rfl rfl ?_
      refine S_aald 1 (by decide) (sI_g i0) ((T.1 (zb_t q1)).1 (zb_t q2)).1 ((gI_p i0) _ (vp_lt ((T.1 (zb_t q1)).1 (zb_t q2)).1)) dX10_taken_31 ?_
      refine S_getI f_RX10_109 ((gI i0) _ (vp_lt ((T.1 (zb_t q1)).1 (zb_t q2)).1)).1 dX10_taken_32 ?_
      refine S_istore_n dX10_taken_35 rfl (by decide) rfl ?_
      refine S_iload_n 0 dX10_taken_36 rfl rfl ?_
      refine S_iload_n 3 dX10_taken_37 rfl rfl ?_
      refine S_callS [.int (I ((3 + 33 + 2 * x1.toNatClampNeg)) 1), .int x2] [] m_RX10_297 rfl rfl (Nat.le_of_ble_eq_true rfl) (zroom_0 (by decide)) dX10_taken_38 (zCI_use ((T.1 (zb_t q1)).1 (zb_t q2)).2 ?_)
      intro r1_3 I1_3 L1_3 M1_3 T1_3
      refine S_if_eq (tgt := 48) dX10_taken_41 (by decide) (fun q3 => ?_) (fun q3 => ?_)
      · refine S_bipush (v := -12) dX10_taken_48 (by decide) ?_
        exact S_ireti rfl dX10_taken_50 ⟨_, I1_3, L1_3, M1_3, rfl, rfl, (T1_3.1 q3)⟩
      · refine S_iload_n 0 dX10_taken_44 rfl rfl ?_
        refine S_goto (tgt := 50) dX10_taken_45 (by decide) ?_
        exact S_ireti rfl dX10_taken_50 ⟨_, I1_3, L1_3, M1_3, rfl, rfl, (T1_3.2 q3)⟩
    · refine S_bipush (v := -11) dX10_taken_20 (by decide) ?_
      exact S_ireti rfl dX10_taken_22 ⟨_, I, L, M, rfl, rfl, ((T.1 (zb_t q1)).2 (zb_f q2))⟩
  · refine S_bipush (v := -2) dX10_taken_9 (by decide) ?_
    exact S_ireti rfl dX10_taken_11 ⟨_, I, L, M, rfl, rfl, (T.2 (zb_f q1))⟩

set_option maxRecDepth 100000 in
theorem t_X10_tape {C : zC} {I : Nat → Nat → Int32} {L : Nat → Nat → Int64} {M : Nat → Nat → Option Nat} (d : Nat) (x1 : Int32) (x2 : Int32) (x3 : Int32)  (K : Int32 → (Nat → Nat → Int32) → (Nat → Nat → Int64) → (Nat → Nat → Option Nat) → Prop) (T : (((0 ≤ x1 ∧ x1 < 6) → ((¬ x2 = (-1) → ((¬ (0 ≤ x2 ∧ x2 < 5) → K ((-2)) I L M) ∧ ((0 ≤ x2 ∧ x2 < 5) → ((x3 ≤ 60 → ((0 ≤ x3 → vp_in x1 6 ∧ zCV C Y_X9_become (d + 2) [.ref (253 + 2 * x1.toNatClampNeg), .int x2, .int x3] (zmk I L M) (fun I1_6 L1_6 M1_6 => K 1 I1_6 L1_6 M1_6)) ∧ (¬ (0 ≤ x3) → K ((-14)) I L M))) ∧ (¬ (x3 ≤ 60) → K ((-2)) I L M))))) ∧ (x2 = (-1) → vp_in x1 6 ∧ zCV C Y_X9_become (d + 2) [.ref (253 + 2 * x1.toNatClampNeg), .int (-1), .int 0] (zmk I L M) (fun I2_3 L2_3 M2_3 => K 1 I2_3 L2_3 M2_3)))) ∧ (¬ (0 ≤ x1 ∧ x1 < 6) → K ((-1)) I L M))) : zCI C Y_X10_tape (d + 3) [.ref 0, .int x1, .int x2, .int x3] (zmk I L M) K := by
  refine S_enter (by decide) (Nat.le_of_ble_eq_true rfl) ?_
  refine S_lv (lv' := [(0, .ref 0), (1, .int x1), (2, .int x2), (3, .int x3)]) rfl ?_
  refine S_iload_n 1 dX10_tape_0 rfl rfl ?_
  refine S_bipush (v := 6) dX10_tape_1 (by decide) ?_
  refine S_callS [.int x1, .int 6] [] m_RX10_85 rfl rfl (Nat.le_of_ble_eq_true rfl) (zroom_0 (by decide)) dX10_tape_3 (zpure (sp_X10_isBelow (I := I) (L := L) (M := M) (d + 1) x1 6) ?_)
  refine S_if_ne (tgt := 11) dX10_tape_6 (by decide) (fun q1 => ?_) (fun q1 => ?_)
  · refine S_iload_n 2 dX10_tape_11 rfl rfl ?_
    refine S_iconst (v := -1) dX10_tape_12 (by decide) ?_
    refine S_icmp_ne (tgt := 29) dX10_tape_13 (by decide) (fun q2 => ?_) (fun q2 => ?_)
    · refine S_iload_n 2 dX10_tape_29 rfl rfl ?_
      refine S_iconst (v := 5) dX10_tape_30 (by decide) ?_
      refine S_callS [.int x2, .int 5] [] m_RX10_85 rfl rfl (Nat.le_of_ble_eq_true rfl) (zroom_0 (by decide)) dX10_tape_31 (zpure (sp_X10_isBelow (I := I) (L := L) (M := M) (d + 1) x2 5) ?_)
      refine S_if_eq (tgt := 43) dX10_tape_34 (by decide) (fun q3 => ?_) (fun q3 => ?_)
      · refine S_bipush (v := -2) dX10_tape_43 (by decide) ?_
        exact S_ireti rfl dX10_tape_45 ⟨_, I, L, M, rfl, rfl, (((T.1 (zb_t q1)).1 q2).1 (zb_f q3))⟩
      · refine S_iload_n 3 dX10_tape_37 rfl rfl ?_
        refine S_bipush (v := 60) dX10_tape_38 (by decide) ?_
        refine S_icmp_le (tgt := 46) dX10_tape_40 (by decide) (fun q4 => ?_) (fun q4 => ?_)
        · refine S_iload_n 3 dX10_tape_46 rfl rfl ?_
          refine S_if_ge (tgt := 53) dX10_tape_47 (by decide) (fun q5 => ?_) (fun q5 => ?_)
          · refine S_aload_n 0 dX10_tape_53 rfl rfl ?_
            refine S_getP f_RX10_73 s_0 p_0_12 dX10_tape_54 ?_
            refine S_iload_n 1 dX10_tape_57 rfl rfl ?_
            refine S_aald 4 (by decide) s_150 (((((T.1 (zb_t q1)).1 q2).2 (zb_t q3)).1 q4).1 q5).1 (hT_p _ (vp_lt (((((T.1 (zb_t q1)).1 q2).2 (zb_t q3)).1 q4).1 q5).1)) dX10_tape_58 ?_
            refine S_iload_n 2 dX10_tape_59 rfl rfl ?_
            refine S_iload_n 3 dX10_tape_60 rfl rfl ?_
            refine S_callV [.int x2, .int x3] [] m_RX10_300 rfl rfl (hT _ (vp_lt (((((T.1 (zb_t q1)).1 q2).2 (zb_t q3)).1 q4).1 q5).1)).1 ⟨rfl, by decide⟩ (Nat.le_of_ble_eq_true rfl) (zroom_0 (by decide)) dX10_tape_61 (zCV_use (((((T.1 (zb_t q1)).1 q2).2 (zb_t q3)).1 q4).1 q5).2 ?_)
            intro I1_6 L1_6 M1_6 T1_6
            refine S_iconst (v := 1) dX10_tape_64 (by decide) ?_
            exact S_ireti rfl dX10_tape_65 ⟨_, I1_6, L1_6, M1_6, rfl, rfl, T1_6⟩
          · refine S_bipush (v := -14) dX10_tape_50 (by decide) ?_
            exact S_ireti rfl dX10_tape_52 ⟨_, I, L, M, rfl, rfl, (((((T.1 (zb_t q1)).1 q2).2 (zb_t q3)).1 q4).2 q5)⟩
        · refine S_bipush (v := -2) dX10_tape_43 (by decide) ?_
          exact S_ireti rfl dX10_tape_45 ⟨_, I, L, M, rfl, rfl, ((((T.1 (zb_t q1)).1 q2).2 (zb_t q3)).2 q4)⟩
    · refine S_aload_n 0 dX10_tape_16 rfl rfl ?_
      refine S_getP f_RX10_73 s_0 p_0_12 dX10_tape_17 ?_
      refine S_iload_n 1 dX10_tape_20 rfl rfl ?_
      refine S_aald 4 (by decide) s_150 ((T.1 (zb_t q1)).2 q2).1 (hT_p _ (vp_lt ((T.1 (zb_t q1)).2 q2).1)) dX10_tape_21 ?_
      refine S_iconst (v := -1) dX10_tape_22 (by decide) ?_
      refine S_iconst (v := 0) dX10_tape_23 (by decide) ?_
      refine S_callV [.int (-1), .int 0] [] m_RX10_300 rfl rfl (hT _ (vp_lt ((T.1 (zb_t q1)).2 q2).1)).1 ⟨rfl, by decide⟩ (Nat.le_of_ble_eq_true rfl) (zroom_0 (by decide)) dX10_tape_24 (zCV_use ((T.1 (zb_t q1)).2 q2).2 ?_)
      intro I2_3 L2_3 M2_3 T2_3
      refine S_iconst (v := 1) dX10_tape_27 (by decide) ?_
      exact S_ireti rfl dX10_tape_28 ⟨_, I2_3, L2_3, M2_3, rfl, rfl, T2_3⟩
  · refine S_iconst (v := -1) dX10_tape_9 (by decide) ?_
    exact S_ireti rfl dX10_tape_10 ⟨_, I, L, M, rfl, rfl, (T.2 (zb_f q1))⟩

set_option maxRecDepth 100000 in
theorem t_X10_told {C : zC} {I : Nat → Nat → Int32} {L : Nat → Nat → Int64} {M : Nat → Nat → Option Nat} (d : Nat) (x1 : Int32)  (K : Int32 → (Nat → Nat → Int32) → (Nat → Nat → Int64) → (Nat → Nat → Option Nat) → Prop) (T : ((x1 = 0 → K ((I 3 4)) I L M) ∧ (x1 = 1 → (∃ r1_2 : Nat, (M 3 5) = some r1_2 ∧ zHo r1_2 ∧ K ((I r1_2 0)) I L M)) ∧ (x1 = 2 → zCI C Y_X2_meantByAll (d + 4) [.ref 3] (zmk I L M) (fun r2_2 I2_2 L2_2 M2_2 => K r2_2 I2_2 L2_2 M2_2)) ∧ (x1 = 3 → zCI C Y_X5_longest (d + 4) [.ref 145, .ref 3] (zmk I L M) (fun r3_2 I3_2 L3_2 M3_2 => K r3_2 I3_2 L3_2 M3_2)) ∧ (x1 = 4 → zCI C Y_X2_whoIsIn (d + 4) [.ref 3] (zmk I L M) (fun r4_2 I4_2 L4_2 M4_2 => K r4_2 I4_2 L4_2 M4_2)) ∧ (((x1 : Int32).toInt < 0 ∨ 4 < (x1 : Int32).toInt) → ((¬ (0 ≤ (x1 - (10 : Int32)) ∧ (x1 - (10 : Int32)) < 12) → ((¬ (0 ≤ (x1 - (30 : Int32)) ∧ (x1 - (30 : Int32)) < 12) → K ((-1)) I L M) ∧ ((0 ≤ (x1 - (30 : Int32)) ∧ (x1 - (30 : Int32)) < 12) → vp_in ((x1 - (30 : Int32))) 12 ∧ K ((I 4 (((x1 - (30 : Int32))).toNatClampNeg))) I L M))) ∧ ((0 ≤ (x1 - (10 : Int32)) ∧ (x1 - (10 : Int32)) < 12) → vp_in ((x1 - (10 : Int32))) 12 ∧ K ((I 5 (((x1 - (10 : Int32))).toNatClampNeg))) I L M))))) : zCI C Y_X10_told (d + 5) [.ref 0, .int x1] (zmk I L M) K := by
  refine S_enter (by decide) (Nat.le_of_ble_eq_true rfl) ?_
  refine S_lv (lv' := [(0, .ref 0), (1, .int x1)]) rfl ?_
  refine S_iload_n 1 dX10_told_0 rfl rfl ?_
  rcases ztab0_5 x1 with q1 | q1 | q1 | q1 | q1 | q1
  · refine S_tabK (tgt := 36) dX10_told_1 q1 (by decide) (by decide) (off := 35) rfl (by decide) ?_
    refine S_aload_n 0 dX10_told_36 rfl rfl ?_
    refine S_getP f_RX10_23 s_0 p_0_1 dX10_told_37 ?_
    refine S_getI f_RX10_129 (sI i0) dX10_told_40 ?_
    exact S_ireti rfl dX10_told_43 ⟨_, I, L, M, rfl, rfl, (T.1 q1)⟩
  · refine S_tabK (tgt := 44) dX10_told_1 q1 (by decide) (by decide) (off := 43) rfl (by decide) ?_
    refine S_aload_n 0 dX10_told_44 rfl rfl ?_
    refine S_getP f_RX10_23 s_0 p_0_1 dX10_told_45 ?_
    obtain ⟨r1_2, e1_2, w1_2, T1_2⟩ := (T.2.1 q1)
    refine S_getM f_RX10_182 (sI i0) e1_2 dX10_told_48 ?_
    refine S_getI f_RX10_185 w1_2.1 dX10_told_51 ?_
    exact S_ireti rfl dX10_told_54 ⟨_, I, L, M, rfl, rfl, T1_2⟩
  · refine S_tabK (tgt := 55) dX10_told_1 q1 (by decide) (by decide) (off := 54) rfl (by decide) ?_
    refine S_aload_n 0 dX10_told_55 rfl rfl ?_
    refine S_getP f_RX10_23 s_0 p_0_1 dX10_told_56 ?_
    refine S_callV [] [] m_RX10_188 rfl rfl (sI i0) ⟨rfl, by decide⟩ (Nat.le_of_ble_eq_true rfl) (zroom_0 (by decide)) dX10_told_59 (zCI_use (T.2.2.1 q1) ?_)
    intro r2_2 I2_2 L2_2 M2_2 T2_2
    exact S_ireti rfl dX10_told_62 ⟨_, I2_2, L2_2, M2_2, rfl, rfl, T2_2⟩
  · refine S_tabK (tgt := 63) dX10_told_1 q1 (by decide) (by decide) (off := 62) rfl (by decide) ?_
    refine S_aload_n 0 dX10_told_63 rfl rfl ?_
    refine S_getP f_RX10_60 s_0 p_0_10 dX10_told_64 ?_
    refine S_aload_n 0 dX10_told_67 rfl rfl ?_
    refine S_getP f_RX10_23 s_0 p_0_1 dX10_told_68 ?_
    refine S_callV [.ref 3] [] m_RX10_191 rfl rfl s_145 ⟨rfl, by decide⟩ (Nat.le_of_ble_eq_true rfl) (zroom_0 (by decide)) dX10_told_71 (zCI_use (T.2.2.2.1 q1) ?_)
    intro r3_2 I3_2 L3_2 M3_2 T3_2
    exact S_ireti rfl dX10_told_74 ⟨_, I3_2, L3_2, M3_2, rfl, rfl, T3_2⟩
  · refine S_tabK (tgt := 75) dX10_told_1 q1 (by decide) (by decide) (off := 74) rfl (by decide) ?_
    refine S_aload_n 0 dX10_told_75 rfl rfl ?_
    refine S_getP f_RX10_23 s_0 p_0_1 dX10_told_76 ?_
    refine S_callV [] [] m_RX10_195 rfl rfl (sI i0) ⟨rfl, by decide⟩ (Nat.le_of_ble_eq_true rfl) (zroom_0 (by decide)) dX10_told_79 (zCI_use (T.2.2.2.2.1 q1) ?_)
    intro r4_2 I4_2 L4_2 M4_2 T4_2
    exact S_ireti rfl dX10_told_82 ⟨_, I4_2, L4_2, M4_2, rfl, rfl, T4_2⟩
  · refine S_tabOut (tgt := 83) dX10_told_1 q1 (by decide) ?_
    refine S_iload_n 1 dX10_told_83 rfl rfl ?_
    refine S_bipush (v := 10) dX10_told_84 (by decide) ?_
    refine S_isub dX10_told_86 ?_
    refine S_callS [.int (x1 - (10 : Int32))] [] m_RX10_143 rfl rfl (Nat.le_of_ble_eq_true rfl) (zroom_0 (by decide)) dX10_told_87 (zpure (sp_X10_isPurpose (I := I) (L := L) (M := M) (d + 2) ((x1 - (10 : Int32)))) ?_)
    refine S_if_eq (tgt := 106) dX10_told_90 (by decide) (fun q2 => ?_) (fun q2 => ?_)
    · refine S_iload_n 1 dX10_told_106 rfl rfl ?_
      refine S_bipush (v := 30) dX10_told_107 (by decide) ?_
      refine S_isub dX10_told_109 ?_
      refine S_callS [.int (x1 - (30 : Int32))] [] m_RX10_143 rfl rfl (Nat.le_of_ble_eq_true rfl) (zroom_0 (by decide)) dX10_told_110 (zpure (sp_X10_isPurpose (I := I) (L := L) (M := M) (d + 2) ((x1 - (30 : Int32)))) ?_)
      refine S_if_eq (tgt := 131) dX10_told_113 (by decide) (fun q3 => ?_) (fun q3 => ?_)
      · refine S_iconst (v := -1) dX10_told_131 (by decide) ?_
        exact S_ireti rfl dX10_told_132 ⟨_, I, L, M, rfl, rfl, (((T.2.2.2.2.2 q1).1 (zb_f q2)).1 (zb_f q3))⟩
      · refine S_aload_n 0 dX10_told_116 rfl rfl ?_
        refine S_getP f_RX10_23 s_0 p_0_1 dX10_told_117 ?_
        refine S_getP f_RX10_149 (sI i0) (pI_w i0) dX10_told_120 ?_
        refine S_iload_n 1 dX10_told_123 rfl rfl ?_
        refine S_bipush (v := 30) dX10_told_124 (by decide) ?_
        refine S_isub dX10_told_126 ?_
        refine S_iald (sI_w i0) (((T.2.2.2.2.2 q1).1 (zb_f q2)).2 (zb_t q3)).1 dX10_told_127 ?_
        refine S_goto (tgt := 132) dX10_told_128 (by decide) ?_
        exact S_ireti rfl dX10_told_132 ⟨_, I, L, M, rfl, rfl, (((T.2.2.2.2.2 q1).1 (zb_f q2)).2 (zb_t q3)).2⟩
    · refine S_aload_n 0 dX10_told_93 rfl rfl ?_
      refine S_getP f_RX10_23 s_0 p_0_1 dX10_told_94 ?_
      refine S_getP f_RX10_160 (sI i0) (pI_c i0) dX10_told_97 ?_
      refine S_iload_n 1 dX10_told_100 rfl rfl ?_
      refine S_bipush (v := 10) dX10_told_101 (by decide) ?_
      refine S_isub dX10_told_103 ?_
      refine S_iald (sI_c i0) ((T.2.2.2.2.2 q1).2 (zb_t q2)).1 dX10_told_104 ?_
      exact S_ireti rfl dX10_told_105 ⟨_, I, L, M, rfl, rfl, ((T.2.2.2.2.2 q1).2 (zb_t q2)).2⟩

set_option maxRecDepth 100000 in
theorem t_X10_trace {C : zC} {I : Nat → Nat → Int32} {L : Nat → Nat → Int64} {M : Nat → Nat → Option Nat} (d : Nat) (x1 : Int32)  (K : Int32 → (Nat → Nat → Int32) → (Nat → Nat → Int64) → (Nat → Nat → Option Nat) → Prop) (T : ((¬ (0 ≤ x1 ∧ x1 < (if 20 < (I 148 1) then 20 else (I 148 1))) → K ((-1)) I L M) ∧ ((0 ≤ x1 ∧ x1 < (if 20 < (I 148 1) then 20 else (I 148 1))) → vp_in x1 20 ∧ K ((I 149 x1.toNatClampNeg)) I L M))) : zCI C Y_X10_trace (d + 2) [.ref 0, .int x1] (zmk I L M) K := by
  refine S_enter (by decide) (Nat.le_of_ble_eq_true rfl) ?_
  refine S_lv (lv' := [(0, .ref 0), (1, .int x1)]) rfl ?_
  refine S_iload_n 1 dX10_trace_0 rfl rfl ?_
  refine S_aload_n 0 dX10_trace_1 rfl rfl ?_
  refine S_getP f_RX10_67 s_0 p_0_11 dX10_trace_2 ?_
  refine S_getI f_RX10_283 s_148 dX10_trace_5 ?_
  refine S_bipush (v := 20) dX10_trace_8 (by decide) ?_
  refine S_min m_RX10_289 o_mins o_math o_minc (Nat.le_of_ble_eq_true rfl) rfl ⟨Nat.le_refl _, Nat.le_refl _⟩ dX10_trace_10 ?_
  refine S_callS [.int x1, .int (if 20 < (I 148 1) then 20 else (I 148 1))] [] m_RX10_85 rfl rfl (Nat.le_of_ble_eq_true rfl) (zroom_0 (by decide)) dX10_trace_13 (zpure (sp_X10_isBelow (I := I) (L := L) (M := M) (d + 0) x1 ((if 20 < (I 148 1) then 20 else (I 148 1)))) ?_)
  refine S_if_eq (tgt := 31) dX10_trace_16 (by decide) (fun q1 => ?_) (fun q1 => ?_)
  · refine S_iconst (v := -1) dX10_trace_31 (by decide) ?_
    exact S_ireti rfl dX10_trace_32 ⟨_, I, L, M, rfl, rfl, (T.1 (zb_f q1))⟩
  · refine S_aload_n 0 dX10_trace_19 rfl rfl ?_
    refine S_getP f_RX10_67 s_0 p_0_11 dX10_trace_20 ?_
    refine S_getP f_RX10_294 s_148 p_148_0 dX10_trace_23 ?_
    refine S_iload_n 1 dX10_trace_26 rfl rfl ?_
    refine S_iald s_149 (T.2 (zb_t q1)).1 dX10_trace_27 ?_
    refine S_goto (tgt := 32) dX10_trace_28 (by decide) ?_
    exact S_ireti rfl dX10_trace_32 ⟨_, I, L, M, rfl, rfl, (T.2 (zb_t q1)).2⟩

set_option maxRecDepth 100000 in
theorem t_X10_undo {C : zC} {I : Nat → Nat → Int32} {L : Nat → Nat → Int64} {M : Nat → Nat → Option Nat} (d : Nat)   (K : Int32 → (Nat → Nat → Int32) → (Nat → Nat → Int64) → (Nat → Nat → Option Nat) → Prop) (T : ((¬ (I 0 4) = 0 → zCV C Y_X2_become (d + 3) [.ref 3, .ref 48] (zmk I L M) (fun I1_2 L1_2 M1_2 => K ((I1_2 3 3)) I1_2 L1_2 M1_2)) ∧ ((I 0 4) = 0 → K ((-3)) I L M))) : zCI C Y_X10_undo (d + 4) [.ref 0] (zmk I L M) K := by
  refine S_enter (by decide) (Nat.le_of_ble_eq_true rfl) ?_
  refine S_lv (lv' := [(0, .ref 0)]) rfl ?_
  refine S_aload_n 0 dX10_undo_0 rfl rfl ?_
  refine S_getI f_RX10_280 s_0 dX10_undo_1 ?_
  refine S_if_ne (tgt := 10) dX10_undo_4 (by decide) (fun q1 => ?_) (fun q1 => ?_)
  · refine S_aload_n 0 dX10_undo_10 rfl rfl ?_
    refine S_getP f_RX10_23 s_0 p_0_1 dX10_undo_11 ?_
    refine S_aload_n 0 dX10_undo_14 rfl rfl ?_
    refine S_getP f_RX10_27 s_0 p_0_2 dX10_undo_15 ?_
    refine S_callV [.ref 48] [] m_RX10_278 rfl rfl (sI i0) ⟨rfl, by decide⟩ (Nat.le_of_ble_eq_true rfl) (zroom_0 (by decide)) dX10_undo_18 (zCV_use (T.1 q1) ?_)
    intro I1_2 L1_2 M1_2 T1_2
    refine S_aload_n 0 dX10_undo_21 rfl rfl ?_
    refine S_getP f_RX10_23 s_0 p_0_1 dX10_undo_22 ?_
    refine S_getI f_RX10_92 (sI i0) dX10_undo_25 ?_
    exact S_ireti rfl dX10_undo_28 ⟨_, I1_2, L1_2, M1_2, rfl, rfl, T1_2⟩
  · refine S_bipush (v := -3) dX10_undo_7 (by decide) ?_
    exact S_ireti rfl dX10_undo_9 ⟨_, I, L, M, rfl, rfl, (T.2 q1)⟩

set_option maxRecDepth 100000 in
theorem t_X10_weight {C : zC} {I : Nat → Nat → Int32} {L : Nat → Nat → Int64} {M : Nat → Nat → Option Nat} (d : Nat) (x1 : Int32) (x2 : Int32)  (K : Int32 → (Nat → Nat → Int32) → (Nat → Nat → Int64) → (Nat → Nat → Option Nat) → Prop) (T : (((0 ≤ x1 ∧ x1 < 12) → (((0 ≤ x2 ∧ x2 ≤ 9) → vp_in x1 12 ∧ vp_in x1 12 ∧ K ((I 4 x1.toNatClampNeg)) (u2 I 4 x1.toNatClampNeg x2) L M) ∧ (¬ (0 ≤ x2 ∧ x2 ≤ 9) → K ((-2)) I L M))) ∧ (¬ (0 ≤ x1 ∧ x1 < 12) → K ((-1)) I L M))) : zCI C Y_X10_weight (d + 3) [.ref 0, .int x1, .int x2] (zmk I L M) K := by
  refine S_enter (by decide) (Nat.le_of_ble_eq_true rfl) ?_
  refine S_lv (lv' := [(0, .ref 0), (1, .int x1), (2, .int x2)]) rfl ?_
  refine S_iload_n 1 dX10_weight_0 rfl rfl ?_
  refine S_callS [.int x1] [] m_RX10_143 rfl rfl (Nat.le_of_ble_eq_true rfl) (zroom_0 (by decide)) dX10_weight_1 (zpure (sp_X10_isPurpose (I := I) (L := L) (M := M) (d + 0) x1) ?_)
  refine S_if_ne (tgt := 9) dX10_weight_4 (by decide) (fun q1 => ?_) (fun q1 => ?_)
  · refine S_iload_n 2 dX10_weight_9 rfl rfl ?_
    refine S_bipush (v := 9) dX10_weight_10 (by decide) ?_
    refine S_callS [.int x2, .int 9] [] m_RX10_89 rfl rfl (Nat.le_of_ble_eq_true rfl) (zroom_0 (by decide)) dX10_weight_12 (zpure (sp_X10_isWithin (I := I) (L := L) (M := M) (d + 1) x2 9) ?_)
    refine S_if_ne (tgt := 21) dX10_weight_15 (by decide) (fun q2 => ?_) (fun q2 => ?_)
    · refine S_aload_n 0 dX10_weight_21 rfl rfl ?_
      refine S_getP f_RX10_23 s_0 p_0_1 dX10_weight_22 ?_
      refine S_getP f_RX10_149 (sI i0) (pI_w i0) dX10_weight_25 ?_
      refine S_iload_n 1 dX10_weight_28 rfl rfl ?_
      refine S_iald (sI_w i0) ((T.1 (zb_t q1)).1 (zb_t q2)).1 dX10_weight_29 ?_
      refine S_istore_n dX10_weight_30 rfl (by decide) rfl ?_
      refine S_aload_n 1 dX10_weight_31 rfl rfl ?_
      refine S_getP f_RX10_23 s_0 p_0_1 dX10_weight_32 ?_
      refine S_getP f_RX10_149 (sI i0) (pI_w i0) dX10_weight_35 ?_
      refine S_iload_n 2 dX10_weight_38 rfl rfl ?_
      refine S_iload_n 3 dX10_weight_39 rfl rfl ?_
      refine S_iast (sI_w i0) ((T.1 (zb_t q1)).1 (zb_t q2)).2.1 dX10_weight_40 ?_
      refine S_iload_n 0 dX10_weight_41 rfl rfl ?_
      exact S_ireti rfl dX10_weight_42 ⟨_, u2 I 4 x1.toNatClampNeg x2, L, M, rfl, rfl, ((T.1 (zb_t q1)).1 (zb_t q2)).2.2⟩
    · refine S_bipush (v := -2) dX10_weight_18 (by decide) ?_
      exact S_ireti rfl dX10_weight_20 ⟨_, I, L, M, rfl, rfl, ((T.1 (zb_t q1)).2 (zb_f q2))⟩
  · refine S_iconst (v := -1) dX10_weight_7 (by decide) ?_
    exact S_ireti rfl dX10_weight_8 ⟨_, I, L, M, rfl, rfl, (T.2 (zb_f q1))⟩

