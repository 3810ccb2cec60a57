set_option maxRecDepth 100000 in
theorem t_X0_become {C : zC} {I : Nat → Nat → Int32} {L : Nat → Nat → Int64} {M : Nat → Nat → Option Nat} (d : Nat) {o : Nat} {o1 : Nat} (ho : zGu o) (ho1 : zGu o1) (K : (Nat → Nat → Int32) → (Nat → Nat → Int64) → (Nat → Nat → Option Nat) → Prop) (T : (((u2 (u2 (u2 (u2 I o 1 ((I o1 1))) o 2 (((u2 I o 1 ((I o1 1))) o1 2))) o 3 (((u2 (u2 I o 1 ((I o1 1))) o 2 (((u2 I o 1 ((I o1 1))) o1 2))) o1 3))) o 4 (((u2 (u2 (u2 I o 1 ((I o1 1))) o 2 (((u2 I o 1 ((I o1 1))) o1 2))) o 3 (((u2 (u2 I o 1 ((I o1 1))) o 2 (((u2 I o 1 ((I o1 1))) o1 2))) o1 3))) o1 4))) o1 5) = 0 ∨ ((u2 (u2 (u2 (u2 I o 1 ((I o1 1))) o 2 (((u2 I o 1 ((I o1 1))) o1 2))) o 3 (((u2 (u2 I o 1 ((I o1 1))) o 2 (((u2 I o 1 ((I o1 1))) o1 2))) o1 3))) o 4 (((u2 (u2 (u2 I o 1 ((I o1 1))) o 2 (((u2 I o 1 ((I o1 1))) o1 2))) o 3 (((u2 (u2 I o 1 ((I o1 1))) o 2 (((u2 I o 1 ((I o1 1))) o1 2))) o1 3))) o1 4))) o1 5) = 1) ∧ K (uR (u2 (u2 (u2 (u2 (u2 I o 1 ((I o1 1))) o 2 (((u2 I o 1 ((I o1 1))) o1 2))) o 3 (((u2 (u2 I o 1 ((I o1 1))) o 2 (((u2 I o 1 ((I o1 1))) o1 2))) o1 3))) o 4 (((u2 (u2 (u2 I o 1 ((I o1 1))) o 2 (((u2 I o 1 ((I o1 1))) o1 2))) o 3 (((u2 (u2 I o 1 ((I o1 1))) o 2 (((u2 I o 1 ((I o1 1))) o1 2))) o1 3))) o1 4))) o 5 (((u2 (u2 (u2 (u2 I o 1 ((I o1 1))) o 2 (((u2 I o 1 ((I o1 1))) o1 2))) o 3 (((u2 (u2 I o 1 ((I o1 1))) o 2 (((u2 I o 1 ((I o1 1))) o1 2))) o1 3))) o 4 (((u2 (u2 (u2 I o 1 ((I o1 1))) o 2 (((u2 I o 1 ((I o1 1))) o1 2))) o 3 (((u2 (u2 I o 1 ((I o1 1))) o 2 (((u2 I o 1 ((I o1 1))) o1 2))) o1 3))) o1 4))) o1 5))) ((o + 1)) (va_cpy ((u2 (u2 (u2 (u2 (u2 I o 1 ((I o1 1))) o 2 (((u2 I o 1 ((I o1 1))) o1 2))) o 3 (((u2 (u2 I o 1 ((I o1 1))) o 2 (((u2 I o 1 ((I o1 1))) o1 2))) o1 3))) o 4 (((u2 (u2 (u2 I o 1 ((I o1 1))) o 2 (((u2 I o 1 ((I o1 1))) o1 2))) o 3 (((u2 (u2 I o 1 ((I o1 1))) o 2 (((u2 I o 1 ((I o1 1))) o1 2))) o1 3))) o1 4))) o 5 (((u2 (u2 (u2 (u2 I o 1 ((I o1 1))) o 2 (((u2 I o 1 ((I o1 1))) o1 2))) o 3 (((u2 (u2 I o 1 ((I o1 1))) o 2 (((u2 I o 1 ((I o1 1))) o1 2))) o1 3))) o 4 (((u2 (u2 (u2 I o 1 ((I o1 1))) o 2 (((u2 I o 1 ((I o1 1))) o1 2))) o 3 (((u2 (u2 I o 1 ((I o1 1))) o 2 (((u2 I o 1 ((I o1 1))) o1 2))) o1 3))) o1 4))) o1 5))) ((o1 + 1))) ((u2 (u2 (u2 (u2 (u2 I o 1 ((I o1 1))) o 2 (((u2 I o 1 ((I o1 1))) o1 2))) o 3 (((u2 (u2 I o 1 ((I o1 1))) o 2 (((u2 I o 1 ((I o1 1))) o1 2))) o1 3))) o 4 (((u2 (u2 (u2 I o 1 ((I o1 1))) o 2 (((u2 I o 1 ((I o1 1))) o1 2))) o 3 (((u2 (u2 I o 1 ((I o1 1))) o 2 (((u2 I o 1 ((I o1 1))) o1 2))) o1 3))) o1 4))) o 5 (((u2 (u2 (u2 (u2 I o 1 ((I o1 1))) o 2 (((u2 I o 1 ((I o1 1))) o1 2))) o 3 (((u2 (u2 I o 1 ((I o1 1))) o 2 (((u2 I o 1 ((I o1 1))) o1 2))) o1 3))) o 4 (((u2 (u2 (u2 I o 1 ((I o1 1))) o 2 (((u2 I o 1 ((I o1 1))) o1 2))) o 3 (((u2 (u2 I o 1 ((I o1 1))) o 2 (((u2 I o 1 ((I o1 1))) o1 2))) o1 3))) o1 4))) o1 5))) ((o + 1))) 0 0 4)) L M) : zCV C Y_X0_become (d + 1) [.ref o, .ref o1] (zmk I L M) K := by
  refine S_enter (by decide) (Nat.le_of_ble_eq_true rfl) ?_
  refine S_lv (lv' := [(0, .ref o), (1, .ref o1)]) rfl ?_
  refine S_aload_n 0 dX0_become_0 rfl rfl ?_
  refine S_aload_n 1 dX0_become_1 rfl rfl ?_
  refine S_getI f_RX0_19 ho1.1 dX0_become_2 ?_
  refine S_putI f_RX0_19 ho.1 (Or.inl rfl) rfl dX0_become_5 ?_
  refine S_aload_n 0 dX0_become_8 rfl rfl ?_
  refine S_aload_n 1 dX0_become_9 rfl rfl ?_
  refine S_getI f_RX0_22 ho1.1 dX0_become_10 ?_
  refine S_putI f_RX0_22 ho.1 (Or.inl rfl) rfl dX0_become_13 ?_
  refine S_aload_n 0 dX0_become_16 rfl rfl ?_
  refine S_aload_n 1 dX0_become_17 rfl rfl ?_
  refine S_getI f_RX0_25 ho1.1 dX0_become_18 ?_
  refine S_putI f_RX0_25 ho.1 (Or.inl rfl) rfl dX0_become_21 ?_
  refine S_aload_n 0 dX0_become_24 rfl rfl ?_
  refine S_aload_n 1 dX0_become_25 rfl rfl ?_
  refine S_getI f_RX0_28 ho1.1 dX0_become_26 ?_
  refine S_putI f_RX0_28 ho.1 (Or.inl rfl) rfl dX0_become_29 ?_
  refine S_aload_n 0 dX0_become_32 rfl rfl ?_
  refine S_aload_n 1 dX0_become_33 rfl rfl ?_
  refine S_getI f_RX0_31 ho1.1 dX0_become_34 ?_
  refine S_putZ f_RX0_31 ho.1 (Or.inl rfl) rfl T.1 dX0_become_37 ?_
  refine S_aload_n 1 dX0_become_40 rfl rfl ?_
  refine S_getP f_RX0_9 ho1.1 ho1.2.1 dX0_become_41 ?_
  refine S_iconst (v := 0) dX0_become_44 (by decide) ?_
  refine S_aload_n 0 dX0_become_45 rfl rfl ?_
  refine S_getP f_RX0_9 ho.1 ho.2.1 dX0_become_46 ?_
  refine S_iconst (v := 0) dX0_become_49 (by decide) ?_
  refine S_iconst (v := 4) dX0_become_50 (by decide) ?_
  refine S_copyI m_RX0_41 o_nat o_acs o_sys ho1.2.2 ho.2.2 (by decide) (by decide) (by decide) (by decide) (by decide) (Nat.le_of_ble_eq_true rfl) rfl dX0_become_51 ?_
  exact S_vret rfl dX0_become_54 ⟨uR (u2 (u2 (u2 (u2 (u2 I o 1 ((I o1 1))) o 2 (((u2 I o 1 ((I o1 1))) o1 2))) o 3 (((u2 (u2 I o 1 ((I o1 1))) o 2 (((u2 I o 1 ((I o1 1))) o1 2))) o1 3))) o 4 (((u2 (u2 (u2 I o 1 ((I o1 1))) o 2 (((u2 I o 1 ((I o1 1))) o1 2))) o 3 (((u2 (u2 I o 1 ((I o1 1))) o 2 (((u2 I o 1 ((I o1 1))) o1 2))) o1 3))) o1 4))) o 5 (((u2 (u2 (u2 (u2 I o 1 ((I o1 1))) o 2 (((u2 I o 1 ((I o1 1))) o1 2))) o 3 (((u2 (u2 I o 1 ((I o1 1))) o 2 (((u2 I o 1 ((I o1 1))) o1 2))) o1 3))) o 4 (((u2 (u2 (u2 I o 1 ((I o1 1))) o 2 (((u2 I o 1 ((I o1 1))) o1 2))) o 3 (((u2 (u2 I o 1 ((I o1 1))) o 2 (((u2 I o 1 ((I o1 1))) o1 2))) o1 3))) o1 4))) o1 5))) ((o + 1)) (va_cpy ((u2 (u2 (u2 (u2 (u2 I o 1 ((I o1 1))) o 2 (((u2 I o 1 ((I o1 1))) o1 2))) o 3 (((u2 (u2 I o 1 ((I o1 1))) o 2 (((u2 I o 1 ((I o1 1))) o1 2))) o1 3))) o 4 (((u2 (u2 (u2 I o 1 ((I o1 1))) o 2 (((u2 I o 1 ((I o1 1))) o1 2))) o 3 (((u2 (u2 I o 1 ((I o1 1))) o 2 (((u2 I o 1 ((I o1 1))) o1 2))) o1 3))) o1 4))) o 5 (((u2 (u2 (u2 (u2 I o 1 ((I o1 1))) o 2 (((u2 I o 1 ((I o1 1))) o1 2))) o 3 (((u2 (u2 I o 1 ((I o1 1))) o 2 (((u2 I o 1 ((I o1 1))) o1 2))) o1 3))) o 4 (((u2 (u2 (u2 I o 1 ((I o1 1))) o 2 (((u2 I o 1 ((I o1 1))) o1 2))) o 3 (((u2 (u2 I o 1 ((I o1 1))) o 2 (((u2 I o 1 ((I o1 1))) o1 2))) o1 3))) o1 4))) o1 5))) ((o1 + 1))) ((u2 (u2 (u2 (u2 (u2 I o 1 ((I o1 1))) o 2 (((u2 I o 1 ((I o1 1))) o1 2))) o 3 (((u2 (u2 I o 1 ((I o1 1))) o 2 (((u2 I o 1 ((I o1 1))) o1 2))) o1 3))) o 4 (((u2 (u2 (u2 I o 1 ((I o1 1))) o 2 (((u2 I o 1 ((I o1 1))) o1 2))) o 3 (((u2 (u2 I o 1 ((I o1 1))) o 2 (((u2 I o 1 ((I o1 1))) o1 2))) o1 3))) o1 4))) o 5 (((u2 (u2 (u2 (u2 I o 1 ((I o1 1))) o 2 (((u2 I o 1 ((I o1 1))) o1 2))) o 3 (((u2 (u2 I o 1 ((I o1 1))) o 2 (((u2 I o 1 ((I o1 1))) o1 2))) o1 3))) o 4 (((u2 (u2 (u2 I o 1 ((I o1 1))) o 2 (((u2 I o 1 ((I o1 1))) o1 2))) o 3 (((u2 (u2 I o 1 ((I o1 1))) o 2 (((u2 I o 1 ((I o1 1))) o1 2))) o1 3))) o1 4))) o1 5))) ((o + 1))) 0 0 4), L, M, rfl, rfl, T.2⟩

set_option maxRecDepth 100000 in
theorem t_X0_come {C : zC} {I : Nat → Nat → Int32} {L : Nat → Nat → Int64} {M : Nat → Nat → Option Nat} (d : Nat) {o : Nat} (x1 : Int32) (x2 : Int32) (x3 : Int32) (ho : zGu o) (K : (Nat → Nat → Int32) → (Nat → Nat → Int64) → (Nat → Nat → Option Nat) → Prop) (T : zCV C Y_J7_fill_53178 (d + 1) [.ref (o + 1), .int 0] (zmk (u2 (u2 (u2 (u2 (u2 I o 1 x1) o 2 x2) o 3 x3) o 4 0) o 5 1) L M) (fun I1_1 L1_1 M1_1 => K I1_1 L1_1 M1_1)) : zCV C Y_X0_come (d + 2) [.ref o, .int x1, .int x2, .int x3] (zmk I L M) K := by
  refine S_enter (by decide) (Nat.le_of_ble_eq_true rfl) ?_
  refine S_lv (lv' := [(0, .ref o), (1, .int x1), (2, .int x2), (3, .int x3)]) rfl ?_
  refine S_aload_n 0 dX0_come_0 rfl rfl ?_
  refine S_iload_n 1 dX0_come_1 rfl rfl ?_
  refine S_putI f_RX0_19 ho.1 (Or.inl rfl) rfl dX0_come_2 ?_
  refine S_aload_n 0 dX0_come_5 rfl rfl ?_
  refine S_iload_n 2 dX0_come_6 rfl rfl ?_
  refine S_putI f_RX0_22 ho.1 (Or.inl rfl) rfl dX0_come_7 ?_
  refine S_aload_n 0 dX0_come_10 rfl rfl ?_
  refine S_iload_n 3 dX0_come_11 rfl rfl ?_
  refine S_putI f_RX0_25 ho.1 (Or.inl rfl) rfl dX0_come_12 ?_
  refine S_aload_n 0 dX0_come_15 rfl rfl ?_
  refine S_iconst (v := 0) dX0_come_16 (by decide) ?_
  refine S_putI f_RX0_28 ho.1 (Or.inl rfl) rfl dX0_come_17 ?_
  refine S_aload_n 0 dX0_come_20 rfl rfl ?_
  refine S_iconst (v := 1) dX0_come_21 (by decide) ?_
  refine S_putZ f_RX0_31 ho.1 (Or.inl rfl) rfl (by decide) dX0_come_22 ?_
  refine S_aload_n 0 dX0_come_25 rfl rfl ?_
  refine S_getP f_RX0_9 ho.1 ho.2.1 dX0_come_26 ?_
  refine S_iconst (v := 0) dX0_come_29 (by decide) ?_
  refine S_callS [.ref (o + 1), .int 0] [] m_RX0_35 rfl rfl (Nat.le_of_ble_eq_true rfl) (zroom_0 (by decide)) dX0_come_30 (zCV_use T ?_)
  intro I1_1 L1_1 M1_1 T1_1
  exact S_vret rfl dX0_come_33 ⟨I1_1, L1_1, M1_1, rfl, rfl, T1_1⟩

set_option maxRecDepth 100000 in
theorem t_X1_add {C : zC} {I : Nat → Nat → Int32} {L : Nat → Nat → Int64} {M : Nat → Nat → Option Nat} (d : Nat) {o : Nat} (x1 : Int32) (ho : zHo o) (K : (Nat → Nat → Int32) → (Nat → Nat → Int64) → (Nat → Nat → Option Nat) → Prop) (T : ((100 ≤ (I o 2) → K I L M) ∧ (¬ (100 ≤ (I o 2)) → vp_in ((I o 2)) 100 ∧ K (u2 (u2 I ((o + 1)) (((I o 2)).toNatClampNeg) x1) o 2 ((((u2 I ((o + 1)) (((I o 2)).toNatClampNeg) x1) o 2) + (1 : Int32)))) L M))) : zCV C Y_X1_add (d + 1) [.ref o, .int x1] (zmk I L M) K := by
  refine S_enter (by decide) (Nat.le_of_ble_eq_true rfl) ?_
  refine S_lv (lv' := [(0, .ref o), (1, .int x1)]) rfl ?_
  refine S_aload_n 0 dX1_add_0 rfl rfl ?_
  refine S_getI f_RX1_19 ho.1 dX1_add_1 ?_
  refine S_bipush (v := 100) dX1_add_4 (by decide) ?_
  refine S_icmp_ge (tgt := 29) dX1_add_6 (by decide) (fun q1 => ?_) (fun q1 => ?_)
  · exact S_vret rfl dX1_add_29 ⟨I, L, M, rfl, rfl, (T.1 q1)⟩
  · refine S_aload_n 0 dX1_add_9 rfl rfl ?_
    refine S_getP f_RX1_15 ho.1 ho.2.1 dX1_add_10 ?_
    refine S_aload_n 0 dX1_add_13 rfl rfl ?_
    refine S_getI f_RX1_19 ho.1 dX1_add_14 ?_
    refine S_iload_n 1 dX1_add_17 rfl rfl ?_
    refine S_iast ho.2.2 (T.2 q1).1 dX1_add_18 ?_
    refine S_aload_n 0 dX1_add_19 rfl rfl ?_
    refine S_dup dX1_add_20 rfl ?_
    refine S_getI f_RX1_19 ho.1 dX1_add_21 ?_
    refine S_iconst (v := 1) dX1_add_24 (by decide) ?_
    refine S_iadd dX1_add_25 ?_
    refine S_putI f_RX1_19 ho.1 (Or.inl rfl) rfl dX1_add_26 ?_
    exact S_vret rfl dX1_add_29 ⟨u2 (u2 I ((o + 1)) (((I o 2)).toNatClampNeg) x1) o 2 ((((u2 I ((o + 1)) (((I o 2)).toNatClampNeg) x1) o 2) + (1 : Int32))), L, M, rfl, rfl, (T.2 q1).2⟩

set_option maxRecDepth 100000 in
theorem t_X1_clear {C : zC} {I : Nat → Nat → Int32} {L : Nat → Nat → Int64} {M : Nat → Nat → Option Nat} (d : Nat) {o : Nat} (ho : zHo o) (K : (Nat → Nat → Int32) → (Nat → Nat → Int64) → (Nat → Nat → Option Nat) → Prop) (T : K (u2 (u2 I o 0 3) o 2 0) L M) : zCV C Y_X1_clear (d + 1) [.ref o] (zmk I L M) K := by
  refine S_enter (by decide) (Nat.le_of_ble_eq_true rfl) ?_
  refine S_lv (lv' := [(0, .ref o)]) rfl ?_
  refine S_aload_n 0 dX1_clear_0 rfl rfl ?_
  refine S_iconst (v := 3) dX1_clear_1 (by decide) ?_
  refine S_putI f_RX1_9 ho.1 (Or.inl rfl) rfl dX1_clear_2 ?_
  refine S_aload_n 0 dX1_clear_5 rfl rfl ?_
  refine S_iconst (v := 0) dX1_clear_6 (by decide) ?_
  refine S_putI f_RX1_19 ho.1 (Or.inl rfl) rfl dX1_clear_7 ?_
  exact S_vret rfl dX1_clear_10 ⟨u2 (u2 I o 0 3) o 2 0, L, M, rfl, rfl, T⟩

set_option maxRecDepth 100000 in
theorem t_X1_sway {C : zC} {I : Nat → Nat → Int32} {L : Nat → Nat → Int64} {M : Nat → Nat → Option Nat} (d : Nat) {o : Nat} {a a_n : Nat} (ho : zHo o) (ha : zsh a = (12, a_n)) (K : Int32 → (Nat → Nat → Int32) → (Nat → Nat → Int64) → (Nat → Nat → Option Nat) → Prop) (T : zSI C (zmk I L M) K Y_X1_sway (d + 1) 7 [(0, .ref o), (1, .ref a), (2, .int 0), (3, .int 0), (4, .int 0)] [] I L M) : zCI C Y_X1_sway (d + 1) [.ref o, .ref a] (zmk I L M) K := by
  refine S_enter (by decide) (Nat.le_of_ble_eq_true rfl) ?_
  refine S_lv (lv' := [(0, .ref o), (1, .ref a)]) rfl ?_
  refine S_iconst (v := 0) dX1_sway_0 (by decide) ?_
  refine S_istore_n dX1_sway_1 rfl (by decide) rfl ?_
  refine S_iconst (v := 0) dX1_sway_2 (by decide) ?_
  refine S_istore_n dX1_sway_3 rfl (by decide) rfl ?_
  refine S_iconst (v := 0) dX1_sway_4 (by decide) ?_
  refine S_istore dX1_sway_5 (by decide) rfl ?_
  exact S_sub [3, 4, 2, 1, 0] rfl T

set_option maxRecDepth 100000 in
theorem t_X1_sway_7 {C : zC} {I : Nat → Nat → Int32} {L : Nat → Nat → Int64} {M : Nat → Nat → Option Nat} {h0 : zH} (d : Nat) {o : Nat} {a a_n : Nat} (ho : zHo o) (ha : zsh a = (12, a_n))  (y2 : Int32) (y3 : Int32) (y4 : Int32) (K : Int32 → (Nat → Nat → Int32) → (Nat → Nat → Int64) → (Nat → Nat → Option Nat) → Prop) (T : (((I o 2) ≤ y4 → K y2 I L M) ∧ (¬ ((I o 2) ≤ y4) → vp_in y4 100 ∧ (((I ((o + 1)) y4.toNatClampNeg) < 1048477 → (((I ((o + 1)) y4.toNatClampNeg) < 0 → ((¬ (I ((o + 1)) y4.toNatClampNeg) = (-1) → ((¬ (I ((o + 1)) y4.toNatClampNeg) = (-2) → zSI C h0 K Y_X1_sway (d + 1) 7 [(0, .ref o), (1, .ref a), (2, .int y2), (3, .int ((((y3 : Int32).toUInt32 >>> (((1 : Int32) : Int32).toUInt32 &&& Int32.toUInt32 31)).toInt32) ||| (y3 &&& (1 : Int32)))), (4, .int (y4 + 1))] [] I L M) ∧ ((I ((o + 1)) y4.toNatClampNeg) = (-2) → zSI C h0 K Y_X1_sway (d + 1) 7 [(0, .ref o), (1, .ref a), (2, .int y2), (3, .int ((((y3 : Int32).toUInt32 >>> (((1 : Int32) : Int32).toUInt32 &&& Int32.toUInt32 31)).toInt32) &&& ((y3 &&& (1 : Int32)) ||| (-2 : Int32)))), (4, .int (y4 + 1))] [] I L M))) ∧ ((I ((o + 1)) y4.toNatClampNeg) = (-1) → zSI C h0 K Y_X1_sway (d + 1) 7 [(0, .ref o), (1, .ref a), (2, .int y2), (3, .int (y3 ^^^ (1 : Int32))), (4, .int (y4 + 1))] [] I L M))) ∧ (¬ ((I ((o + 1)) y4.toNatClampNeg) < 0) → vp_in ((((I ((o + 1)) y4.toNatClampNeg) >>> ((14 : Int32) &&& 31)) &&& (7 : Int32))) a_n ∧ (((I a (((((I ((o + 1)) y4.toNatClampNeg) >>> ((14 : Int32) &&& 31)) &&& (7 : Int32))).toNatClampNeg)) < (((I ((o + 1)) y4.toNatClampNeg) >>> ((7 : Int32) &&& 31)) &&& (127 : Int32)) → zSI C h0 K Y_X1_sway (d + 1) 100 [(0, .ref o), (1, .ref a), (2, .int y2), (3, .int y3), (4, .int y4)] [] I L M) ∧ (¬ ((I a (((((I ((o + 1)) y4.toNatClampNeg) >>> ((14 : Int32) &&& 31)) &&& (7 : Int32))).toNatClampNeg)) < (((I ((o + 1)) y4.toNatClampNeg) >>> ((7 : Int32) &&& 31)) &&& (127 : Int32))) → ((((I ((o + 1)) y4.toNatClampNeg) &&& (127 : Int32)) ≤ (I a (((((I ((o + 1)) y4.toNatClampNeg) >>> ((14 : Int32) &&& 31)) &&& (7 : Int32))).toNatClampNeg)) → zSI C h0 K Y_X1_sway (d + 1) 100 [(0, .ref o), (1, .ref a), (2, .int y2), (3, .int y3), (4, .int y4)] [] I L M) ∧ (¬ (((I ((o + 1)) y4.toNatClampNeg) &&& (127 : Int32)) ≤ (I a (((((I ((o + 1)) y4.toNatClampNeg) >>> ((14 : Int32) &&& 31)) &&& (7 : Int32))).toNatClampNeg))) → zSI C h0 K Y_X1_sway (d + 1) 101 [(0, .ref o), (1, .ref a), (2, .int y2), (3, .int y3), (4, .int y4)] [.int 1] I L M))))))) ∧ (¬ ((I ((o + 1)) y4.toNatClampNeg) < 1048477) → ((¬ (y3 &&& (1 : Int32)) = 1 → zSI C h0 K Y_X1_sway (d + 1) 7 [(0, .ref o), (1, .ref a), (2, .int (y2 + (0 : Int32))), (3, .int 0), (4, .int (y4 + 1))] [] I L M) ∧ ((y3 &&& (1 : Int32)) = 1 → zSI C h0 K Y_X1_sway (d + 1) 7 [(0, .ref o), (1, .ref a), (2, .int (y2 + ((I ((o + 1)) y4.toNatClampNeg) - (1048576 : Int32)))), (3, .int 0), (4, .int (y4 + 1))] [] I L M))))))) : zSI C h0 K Y_X1_sway (d + 1) 7 [(0, .ref o), (1, .ref a), (2, .int y2), (3, .int y3), (4, .int y4)] [] I L M := by
  refine S_iload 4 dX1_sway_7 rfl ?_
  refine S_aload_n 0 dX1_sway_9 rfl rfl ?_
  refine S_getI f_RX1_19 ho.1 dX1_sway_10 ?_
  refine S_icmp_ge (tgt := 171) dX1_sway_13 (by decide) (fun q1 => ?_) (fun q1 => ?_)
  · refine S_iload_n 2 dX1_sway_171 rfl rfl ?_
    exact S_ireti rfl dX1_sway_172 ⟨_, I, L, M, rfl, rfl, (T.1 q1)⟩
  · refine S_aload_n 0 dX1_sway_16 rfl rfl ?_
    refine S_getP f_RX1_15 ho.1 ho.2.1 dX1_sway_17 ?_
    refine S_iload 4 dX1_sway_20 rfl ?_
    refine S_iald ho.2.2 (T.2 q1).1 dX1_sway_22 ?_
    refine S_istore dX1_sway_23 (by decide) rfl ?_
    refine S_iload 0 dX1_sway_25 rfl ?_
    refine S_ldc c_RX1_22 dX1_sway_27 ?_
    refine S_icmp_lt (tgt := 56) dX1_sway_29 (by decide) (fun q2 => ?_) (fun q2 => ?_)
    · refine S_iload 0 dX1_sway_56 rfl ?_
      refine S_if_lt (tgt := 121) dX1_sway_58 (by decide) (fun q3 => ?_) (fun q3 => ?_)
      · refine S_iload 0 dX1_sway_121 rfl ?_
        refine S_iconst (v := -1) dX1_sway_123 (by decide) ?_
        refine S_icmp_ne (tgt := 134) dX1_sway_124 (by decide) (fun q4 => ?_) (fun q4 => ?_)
        · refine S_iload_n 4 dX1_sway_134 rfl rfl ?_
          refine S_iconst (v := 1) dX1_sway_135 (by decide) ?_
          refine S_iand dX1_sway_136 ?_
          refine S_istore dX1_sway_137 (by decide) rfl ?_
          refine S_iload_n 5 dX1_sway_139 rfl rfl ?_
          refine S_iconst (v := 1) dX1_sway_140 (by decide) ?_
          refine S_iushr dX1_sway_141 ?_
          refine S_istore_n dX1_sway_142 rfl (by decide) rfl ?_
          refine S_iload 2 dX1_sway_143 rfl ?_
          refine S_bipush (v := -2) dX1_sway_145 (by decide) ?_
          refine S_icmp_ne (tgt := 160) dX1_sway_147 (by decide) (fun q5 => ?_) (fun q5 => ?_)
          · refine S_iload_n 0 dX1_sway_160 rfl rfl ?_
            refine S_iload 1 dX1_sway_161 rfl ?_
            refine S_ior dX1_sway_163 ?_
            refine S_istore_n dX1_sway_164 rfl (by decide) rfl ?_
            refine S_iinc 6 dX1_sway_165 rfl rfl (by decide) rfl ?_
            refine S_goto (tgt := 7) dX1_sway_168 (by decide) ?_
            exact S_sub [4, 5, 6, 1, 0] rfl (((((T.2 q1).2.1 q2).1 q3).1 q4).1 q5)
          · refine S_iload_n 0 dX1_sway_150 rfl rfl ?_
            refine S_iload 1 dX1_sway_151 rfl ?_
            refine S_bipush (v := -2) dX1_sway_153 (by decide) ?_
            refine S_ior dX1_sway_155 ?_
            refine S_iand dX1_sway_156 ?_
            refine S_goto (tgt := 164) dX1_sway_157 (by decide) ?_
            refine S_istore_n dX1_sway_164 rfl (by decide) rfl ?_
            refine S_iinc 6 dX1_sway_165 rfl rfl (by decide) rfl ?_
            refine S_goto (tgt := 7) dX1_sway_168 (by decide) ?_
            exact S_sub [4, 5, 6, 1, 0] rfl (((((T.2 q1).2.1 q2).1 q3).1 q4).2 q5)
        · refine S_iload_n 4 dX1_sway_127 rfl rfl ?_
          refine S_iconst (v := 1) dX1_sway_128 (by decide) ?_
          refine S_ixor dX1_sway_129 ?_
          refine S_istore_n dX1_sway_130 rfl (by decide) rfl ?_
          refine S_goto (tgt := 165) dX1_sway_131 (by decide) ?_
          refine S_iinc 5 dX1_sway_165 rfl rfl (by decide) rfl ?_
          refine S_goto (tgt := 7) dX1_sway_168 (by decide) ?_
          exact S_sub [3, 4, 5, 1, 0] rfl ((((T.2 q1).2.1 q2).1 q3).2 q4)
      · refine S_aload_n 2 dX1_sway_61 rfl rfl ?_
        refine S_iload 0 dX1_sway_62 rfl ?_
        refine S_bipush (v := 14) dX1_sway_64 (by decide) ?_
        refine S_ishr dX1_sway_66 ?_
        refine S_bipush (v := 7) dX1_sway_67 (by decide) ?_
        refine S_iand dX1_sway_69 ?_
        refine S_iald ha (((T.2 q1).2.1 q2).2 q3).1 dX1_sway_70 ?_
        refine S_istore dX1_sway_71 (by decide) rfl ?_
        refine S_iload 0 dX1_sway_73 rfl ?_
        refine S_iload 1 dX1_sway_75 rfl ?_
        refine S_bipush (v := 7) dX1_sway_77 (by decide) ?_
        refine S_ishr dX1_sway_79 ?_
        refine S_bipush (v := 127) dX1_sway_80 (by decide) ?_
        refine S_iand dX1_sway_82 ?_
        refine S_icmp_lt (tgt := 100) dX1_sway_83 (by decide) (fun q4 => ?_) (fun q4 => ?_)
        · exact S_sub [2, 3, 4, 5, 6] rfl ((((T.2 q1).2.1 q2).2 q3).2.1 q4)
        · refine S_iload 0 dX1_sway_86 rfl ?_
          refine S_iload 1 dX1_sway_88 rfl ?_
          refine S_bipush (v := 127) dX1_sway_90 (by decide) ?_
          refine S_iand dX1_sway_92 ?_
          refine S_icmp_ge (tgt := 100) dX1_sway_93 (by decide) (fun q5 => ?_) (fun q5 => ?_)
          · exact S_sub [2, 3, 4, 5, 6] rfl (((((T.2 q1).2.1 q2).2 q3).2.2 q4).1 q5)
          · refine S_iconst (v := 1) dX1_sway_96 (by decide) ?_
            refine S_goto (tgt := 101) dX1_sway_97 (by decide) ?_
            exact S_sub [2, 3, 4, 5, 6] rfl (((((T.2 q1).2.1 q2).2 q3).2.2 q4).2 q5)
    · refine S_iload_n 3 dX1_sway_32 rfl rfl ?_
      refine S_iload_n 4 dX1_sway_33 rfl rfl ?_
      refine S_iconst (v := 1) dX1_sway_34 (by decide) ?_
      refine S_iand dX1_sway_35 ?_
      refine S_iconst (v := 1) dX1_sway_36 (by decide) ?_
      refine S_icmp_ne (tgt := 48) dX1_sway_37 (by decide) (fun q3 => ?_) (fun q3 => ?_)
      · refine S_iconst (v := 0) dX1_sway_48 (by decide) ?_
        refine S_iadd dX1_sway_49 ?_
        refine S_istore_n dX1_sway_50 rfl (by decide) rfl ?_
        refine S_iconst (v := 0) dX1_sway_51 (by decide) ?_
        refine S_istore_n dX1_sway_52 rfl (by decide) rfl ?_
        refine S_goto (tgt := 165) dX1_sway_53 (by decide) ?_
        refine S_iinc 5 dX1_sway_165 rfl rfl (by decide) rfl ?_
        refine S_goto (tgt := 7) dX1_sway_168 (by decide) ?_
        exact S_sub [4, 5, 2, 1, 0] rfl (((T.2 q1).2.2 q2).1 q3)
      · refine S_iload 0 dX1_sway_40 rfl ?_
        refine S_ldc c_RX1_23 dX1_sway_42 ?_
        refine S_isub dX1_sway_44 ?_
        refine S_goto (tgt := 49) dX1_sway_45 (by decide) ?_
        refine S_iadd dX1_sway_49 ?_
        refine S_istore_n dX1_sway_50 rfl (by decide) rfl ?_
        refine S_iconst (v := 0) dX1_sway_51 (by decide) ?_
        refine S_istore_n dX1_sway_52 rfl (by decide) rfl ?_
        refine S_goto (tgt := 165) dX1_sway_53 (by decide) ?_
        refine S_iinc 5 dX1_sway_165 rfl rfl (by decide) rfl ?_
        refine S_goto (tgt := 7) dX1_sway_168 (by decide) ?_
        exact S_sub [4, 5, 2, 1, 0] rfl (((T.2 q1).2.2 q2).2 q3)

set_option maxRecDepth 100000 in
theorem t_X1_sway_100 {C : zC} {I : Nat → Nat → Int32} {L : Nat → Nat → Int64} {M : Nat → Nat → Option Nat} {h0 : zH} (d : Nat) {o : Nat} {a a_n : Nat} (ho : zHo o) (ha : zsh a = (12, a_n))  (y2 : Int32) (y3 : Int32) (y4 : Int32) (K : Int32 → (Nat → Nat → Int32) → (Nat → Nat → Int64) → (Nat → Nat → Option Nat) → Prop) (T : zSI C h0 K Y_X1_sway (d + 1) 101 [(0, .ref o), (1, .ref a), (2, .int y2), (3, .int y3), (4, .int y4)] [.int 0] I L M) : zSI C h0 K Y_X1_sway (d + 1) 100 [(0, .ref o), (1, .ref a), (2, .int y2), (3, .int y3), (4, .int y4)] [] I L M := by
  refine S_iconst (v := 0) dX1_sway_100 (by decide) ?_
  exact S_sub [0, 1, 2, 3, 4] rfl T

set_option maxRecDepth 100000 in
theorem t_X1_sway_101 {C : zC} {I : Nat → Nat → Int32} {L : Nat → Nat → Int64} {M : Nat → Nat → Option Nat} {h0 : zH} (d : Nat) {o : Nat} {a a_n : Nat} (ho : zHo o) (ha : zsh a = (12, a_n))  (y2 : Int32) (y3 : Int32) (y4 : Int32) (z0 : Int32) (K : Int32 → (Nat → Nat → Int32) → (Nat → Nat → Int64) → (Nat → Nat → Option Nat) → Prop) (T : ((z0 = 0 → zSI C h0 K Y_X1_sway (d + 1) 7 [(0, .ref o), (1, .ref a), (2, .int y2), (3, .int ((y3 <<< ((1 : Int32) &&& 31)) ||| (0 : Int32))), (4, .int (y4 + 1))] [] I L M) ∧ (¬ (z0 = 0) → zSI C h0 K Y_X1_sway (d + 1) 7 [(0, .ref o), (1, .ref a), (2, .int y2), (3, .int ((y3 <<< ((1 : Int32) &&& 31)) ||| (1 : Int32))), (4, .int (y4 + 1))] [] I L M))) : zSI C h0 K Y_X1_sway (d + 1) 101 [(0, .ref o), (1, .ref a), (2, .int y2), (3, .int y3), (4, .int y4)] [.int z0] I L M := by
  refine S_istore dX1_sway_101 (by decide) rfl ?_
  refine S_iload_n 4 dX1_sway_103 rfl rfl ?_
  refine S_iconst (v := 1) dX1_sway_104 (by decide) ?_
  refine S_ishl dX1_sway_105 ?_
  refine S_iload 0 dX1_sway_106 rfl ?_
  refine S_if_eq (tgt := 115) dX1_sway_108 (by decide) (fun q1 => ?_) (fun q1 => ?_)
  · refine S_iconst (v := 0) dX1_sway_115 (by decide) ?_
    refine S_ior dX1_sway_116 ?_
    refine S_istore_n dX1_sway_117 rfl (by decide) rfl ?_
    refine S_goto (tgt := 165) dX1_sway_118 (by decide) ?_
    refine S_iinc 5 dX1_sway_165 rfl rfl (by decide) rfl ?_
    refine S_goto (tgt := 7) dX1_sway_168 (by decide) ?_
    exact S_sub [3, 4, 5, 1, 0] rfl (T.1 q1)
  · refine S_iconst (v := 1) dX1_sway_111 (by decide) ?_
    refine S_goto (tgt := 116) dX1_sway_112 (by decide) ?_
    refine S_ior dX1_sway_116 ?_
    refine S_istore_n dX1_sway_117 rfl (by decide) rfl ?_
    refine S_goto (tgt := 165) dX1_sway_118 (by decide) ?_
    refine S_iinc 5 dX1_sway_165 rfl rfl (by decide) rfl ?_
    refine S_goto (tgt := 7) dX1_sway_168 (by decide) ?_
    exact S_sub [3, 4, 5, 1, 0] rfl (T.2 q1)

set_option maxRecDepth 100000 in
theorem t_X2_become {C : zC} {I : Nat → Nat → Int32} {L : Nat → Nat → Int64} {M : Nat → Nat → Option Nat} (d : Nat) {o : Nat} {o1 : Nat} (ho : zInn o) (ho1 : zInn o1) (K : (Nat → Nat → Int32) → (Nat → Nat → Int64) → (Nat → Nat → Option Nat) → Prop) (T : zCV C Y_X2_goOnFrom (d + 2) [.ref o, .ref o1] (zmk I L M) (fun I1_1 L1_1 M1_1 => zCV C Y_X6_become (d + 2) [.ref (o + 4), .ref (o1 + 4)] (zmk I1_1 L1_1 M1_1) (fun I2_1 L2_1 M2_1 => zCV C Y_X6_become (d + 2) [.ref (o + 11), .ref (o1 + 11)] (zmk I2_1 L2_1 M2_1) (fun I3_1 L3_1 M3_1 => zCV C Y_X6_become (d + 2) [.ref (o + 23), .ref (o1 + 23)] (zmk I3_1 L3_1 M3_1) (fun I4_1 L4_1 M4_1 => K I4_1 L4_1 M4_1))))) : zCV C Y_X2_become (d + 3) [.ref o, .ref o1] (zmk I L M) K := by
  refine S_enter (by decide) (Nat.le_of_ble_eq_true rfl) ?_
  refine S_lv (lv' := [(0, .ref o), (1, .ref o1)]) rfl ?_
  refine S_aload_n 0 dX2_become_0 rfl rfl ?_
  refine S_aload_n 1 dX2_become_1 rfl rfl ?_
  refine S_callV [.ref o1] [] m_RX2_44 rfl rfl (sI ho) ⟨rfl, by decide⟩ (Nat.le_of_ble_eq_true rfl) (zroom_0 (by decide)) dX2_become_2 (zCV_use T ?_)
  intro I1_1 L1_1 M1_1 T1_1
  refine S_aload_n 0 dX2_become_5 rfl rfl ?_
  refine S_getP f_RX2_29 (sI ho) (pI_s ho) dX2_become_6 ?_
  refine S_aload_n 1 dX2_become_9 rfl rfl ?_
  refine S_getP f_RX2_29 (sI ho1) (pI_s ho1) dX2_become_10 ?_
  refine S_callV [.ref (o1 + 4)] [] m_RX2_48 rfl rfl (rI_s ho).1 ⟨rfl, by decide⟩ (Nat.le_of_ble_eq_true rfl) (zroom_0 (by decide)) dX2_become_13 (zCV_use T1_1 ?_)
  intro I2_1 L2_1 M2_1 T2_1
  refine S_aload_n 0 dX2_become_16 rfl rfl ?_
  refine S_getP f_RX2_33 (sI ho) (pI_p ho) dX2_become_17 ?_
  refine S_aload_n 1 dX2_become_20 rfl rfl ?_
  refine S_getP f_RX2_33 (sI ho1) (pI_p ho1) dX2_become_21 ?_
  refine S_callV [.ref (o1 + 11)] [] m_RX2_48 rfl rfl (rI_p ho).1 ⟨rfl, by decide⟩ (Nat.le_of_ble_eq_true rfl) (zroom_0 (by decide)) dX2_become_24 (zCV_use T2_1 ?_)
  intro I3_1 L3_1 M3_1 T3_1
  refine S_aload_n 0 dX2_become_27 rfl rfl ?_
  refine S_getP f_RX2_36 (sI ho) (pI_k ho) dX2_become_28 ?_
  refine S_aload_n 1 dX2_become_31 rfl rfl ?_
  refine S_getP f_RX2_36 (sI ho1) (pI_k ho1) dX2_become_32 ?_
  refine S_callV [.ref (o1 + 23)] [] m_RX2_48 rfl rfl (rI_k ho).1 ⟨rfl, by decide⟩ (Nat.le_of_ble_eq_true rfl) (zroom_0 (by decide)) dX2_become_35 (zCV_use T3_1 ?_)
  intro I4_1 L4_1 M4_1 T4_1
  exact S_vret rfl dX2_become_38 ⟨I4_1, L4_1, M4_1, rfl, rfl, T4_1⟩

set_option maxRecDepth 100000 in
theorem t_X2_goOnFrom {C : zC} {I : Nat → Nat → Int32} {L : Nat → Nat → Int64} {M : Nat → Nat → Option Nat} (d : Nat) {o : Nat} {o1 : Nat} (ho : zInn o) (ho1 : zInn o1) (K : (Nat → Nat → Int32) → (Nat → Nat → Int64) → (Nat → Nat → Option Nat) → Prop) (T : zSV C (zmk I L M) K Y_X2_goOnFrom (d + 2) 40 [(0, .ref o), (1, .ref o1), (2, .int 0)] [] (u2 (uR (uR I ((o + 1)) (va_cpy (I ((o1 + 1))) (I ((o + 1))) 0 0 12)) ((o + 2)) (va_cpy ((uR I ((o + 1)) (va_cpy (I ((o1 + 1))) (I ((o + 1))) 0 0 12)) ((o1 + 2))) ((uR I ((o + 1)) (va_cpy (I ((o1 + 1))) (I ((o + 1))) 0 0 12)) ((o + 2))) 0 0 12)) o 3 (((uR (uR I ((o + 1)) (va_cpy (I ((o1 + 1))) (I ((o + 1))) 0 0 12)) ((o + 2)) (va_cpy ((uR I ((o + 1)) (va_cpy (I ((o1 + 1))) (I ((o + 1))) 0 0 12)) ((o1 + 2))) ((uR I ((o + 1)) (va_cpy (I ((o1 + 1))) (I ((o + 1))) 0 0 12)) ((o + 2))) 0 0 12)) o1 3))) L M) : zCV C Y_X2_goOnFrom (d + 2) [.ref o, .ref o1] (zmk I L M) K := by
  refine S_enter (by decide) (Nat.le_of_ble_eq_true rfl) ?_
  refine S_lv (lv' := [(0, .ref o), (1, .ref o1)]) rfl ?_
  refine S_aload_n 1 dX2_goOnFrom_0 rfl rfl ?_
  refine S_getP f_RX2_9 (sI ho1) (pI_w ho1) dX2_goOnFrom_1 ?_
  refine S_iconst (v := 0) dX2_goOnFrom_4 (by decide) ?_
  refine S_aload_n 0 dX2_goOnFrom_5 rfl rfl ?_
  refine S_getP f_RX2_9 (sI ho) (pI_w ho) dX2_goOnFrom_6 ?_
  refine S_iconst (v := 0) dX2_goOnFrom_9 (by decide) ?_
  refine S_bipush (v := 12) dX2_goOnFrom_10 (by decide) ?_
  refine S_copyI m_RX2_52 o_nat o_acs o_sys (sI_w ho1) (sI_w ho) (by decide) (by decide) (by decide) (by decide) (by decide) (Nat.le_of_ble_eq_true rfl) rfl dX2_goOnFrom_12 ?_
  refine S_aload_n 1 dX2_goOnFrom_15 rfl rfl ?_
  refine S_getP f_RX2_15 (sI ho1) (pI_c ho1) dX2_goOnFrom_16 ?_
  refine S_iconst (v := 0) dX2_goOnFrom_19 (by decide) ?_
  refine S_aload_n 0 dX2_goOnFrom_20 rfl rfl ?_
  refine S_getP f_RX2_15 (sI ho) (pI_c ho) dX2_goOnFrom_21 ?_
  refine S_iconst (v := 0) dX2_goOnFrom_24 (by decide) ?_
  refine S_bipush (v := 12) dX2_goOnFrom_25 (by decide) ?_
  refine S_copyI m_RX2_52 o_nat o_acs o_sys (sI_c ho1) (sI_c ho) (by decide) (by decide) (by decide) (by decide) (by decide) (Nat.le_of_ble_eq_true rfl) rfl dX2_goOnFrom_27 ?_
  refine S_aload_n 0 dX2_goOnFrom_30 rfl rfl ?_
  refine S_aload_n 1 dX2_goOnFrom_31 rfl rfl ?_
  refine S_getI f_RX2_58 (sI ho1) dX2_goOnFrom_32 ?_
  refine S_putI f_RX2_58 (sI ho) (Or.inl rfl) rfl dX2_goOnFrom_35 ?_
  refine S_iconst (v := 0) dX2_goOnFrom_38 (by decide) ?_
  refine S_istore_n dX2_goOnFrom_39 rfl (by decide) rfl ?_
  exact S_sub [1, 2, 0] rfl T

set_option maxRecDepth 100000 in
theorem t_X2_goOnFrom_40 {C : zC} {I : Nat → Nat → Int32} {L : Nat → Nat → Int64} {M : Nat → Nat → Option Nat} {h0 : zH} (d : Nat) {o : Nat} {o1 : Nat} (ho : zInn o) (ho1 : zInn o1)  (y2 : Int32) (K : (Nat → Nat → Int32) → (Nat → Nat → Int64) → (Nat → Nat → Option Nat) → Prop) (T : (((I o 3) ≤ y2 → (∃ r1_2 : Nat, (M o1 5) = some r1_2 ∧ zHo r1_2 ∧ K (u2 I o 4 ((I o1 4))) L (u2 M o 5 (some r1_2)))) ∧ (¬ ((I o 3) ≤ y2) → vp_in y2 6 ∧ vp_in y2 6 ∧ zCV C Y_X0_become (d + 1) [.ref (o + 33 + 2 * y2.toNatClampNeg), .ref (o1 + 33 + 2 * y2.toNatClampNeg)] (zmk I L M) (fun I2_2 L2_2 M2_2 => zSV C h0 K Y_X2_goOnFrom (d + 2) 40 [(0, .ref o), (1, .ref o1), (2, .int (y2 + 1))] [] I2_2 L2_2 M2_2)))) : zSV C h0 K Y_X2_goOnFrom (d + 2) 40 [(0, .ref o), (1, .ref o1), (2, .int y2)] [] I L M := by
  refine S_iload_n 2 dX2_goOnFrom_40 rfl rfl ?_
  refine S_aload_n 0 dX2_goOnFrom_41 rfl rfl ?_
  refine S_getI f_RX2_58 (sI ho) dX2_goOnFrom_42 ?_
  refine S_icmp_ge (tgt := 69) dX2_goOnFrom_45 (by decide) (fun q1 => ?_) (fun q1 => ?_)
  · refine S_aload_n 0 dX2_goOnFrom_69 rfl rfl ?_
    refine S_aload_n 1 dX2_goOnFrom_70 rfl rfl ?_
    refine S_getI f_RX2_65 (sI ho1) dX2_goOnFrom_71 ?_
    refine S_putI f_RX2_65 (sI ho) (Or.inl rfl) rfl dX2_goOnFrom_74 ?_
    refine S_aload_n 0 dX2_goOnFrom_77 rfl rfl ?_
    refine S_aload_n 1 dX2_goOnFrom_78 rfl rfl ?_
    obtain ⟨r1_2, e1_2, w1_2, T1_2⟩ := (T.1 q1)
    refine S_getM f_RX2_39 (sI ho1) e1_2 dX2_goOnFrom_79 ?_
    refine S_putM f_RX2_39 (sI ho) (Or.inl rfl) (Or.inl ⟨_, rfl⟩) dX2_goOnFrom_82 ?_
    exact S_vret rfl dX2_goOnFrom_85 ⟨u2 I o 4 ((I o1 4)), L, u2 M o 5 (some r1_2), rfl, rfl, T1_2⟩
  · refine S_aload_n 0 dX2_goOnFrom_48 rfl rfl ?_
    refine S_getP f_RX2_20 (sI ho) (pI_g ho) dX2_goOnFrom_49 ?_
    refine S_iload_n 2 dX2_goOnFrom_52 rfl rfl ?_
    refine S_aald 1 (by decide) (sI_g ho) (T.2 q1).1 ((gI_p ho) _ (vp_lt (T.2 q1).1)) dX2_goOnFrom_53 ?_
    refine S_aload_n 1 dX2_goOnFrom_54 rfl rfl ?_
    refine S_getP f_RX2_20 (sI ho1) (pI_g ho1) dX2_goOnFrom_55 ?_
    refine S_iload_n 2 dX2_goOnFrom_58 rfl rfl ?_
    refine S_aald 1 (by decide) (sI_g ho1) (T.2 q1).2.1 ((gI_p ho1) _ (vp_lt (T.2 q1).2.1)) dX2_goOnFrom_59 ?_
    refine S_callV [.ref (o1 + 33 + 2 * y2.toNatClampNeg)] [] m_RX2_62 rfl rfl ((gI ho) _ (vp_lt (T.2 q1).1)).1 ⟨rfl, by decide⟩ (Nat.le_of_ble_eq_true rfl) (zroom_0 (by decide)) dX2_goOnFrom_60 (zCV_use (T.2 q1).2.2 ?_)
    intro I2_2 L2_2 M2_2 T2_2
    refine S_iinc 2 dX2_goOnFrom_63 rfl rfl (by decide) rfl ?_
    refine S_goto (tgt := 40) dX2_goOnFrom_66 (by decide) ?_
    exact S_sub [1, 2, 0] rfl T2_2

set_option maxRecDepth 100000 in
theorem t_X2_inCellar {C : zC} {I : Nat → Nat → Int32} {L : Nat → Nat → Int64} {M : Nat → Nat → Option Nat} (d : Nat) {o : Nat} (ho : zInn o) (K : Int32 → (Nat → Nat → Int32) → (Nat → Nat → Int64) → (Nat → Nat → Option Nat) → Prop) (T : zSI C (zmk I L M) K Y_X2_inCellar (d + 1) 4 [(0, .ref o), (1, .int 0), (2, .int 0)] [] I L M) : zCI C Y_X2_inCellar (d + 1) [.ref o] (zmk I L M) K := by
  refine S_enter (by decide) (Nat.le_of_ble_eq_true rfl) ?_
  refine S_lv (lv' := [(0, .ref o)]) rfl ?_
  refine S_iconst (v := 0) dX2_inCellar_0 (by decide) ?_
  refine S_istore_n dX2_inCellar_1 rfl (by decide) rfl ?_
  refine S_iconst (v := 0) dX2_inCellar_2 (by decide) ?_
  refine S_istore_n dX2_inCellar_3 rfl (by decide) rfl ?_
  exact S_sub [2, 1, 0] rfl T

set_option maxRecDepth 100000 in
theorem t_X2_inCellar_4 {C : zC} {I : Nat → Nat → Int32} {L : Nat → Nat → Int64} {M : Nat → Nat → Option Nat} {h0 : zH} (d : Nat) {o : Nat} (ho : zInn o)  (y1 : Int32) (y2 : Int32) (K : Int32 → (Nat → Nat → Int32) → (Nat → Nat → Int64) → (Nat → Nat → Option Nat) → Prop) (T : ((12 ≤ y2 → K y1 I L M) ∧ (¬ (12 ≤ y2) → vp_in y2 12 ∧ (((I ((o + 2)) y2.toNatClampNeg) ≤ 0 → zSI C h0 K Y_X2_inCellar (d + 1) 4 [(0, .ref o), (1, .int (y1 ||| (0 : Int32))), (2, .int (y2 + 1))] [] I L M) ∧ (¬ ((I ((o + 2)) y2.toNatClampNeg) ≤ 0) → zSI C h0 K Y_X2_inCellar (d + 1) 4 [(0, .ref o), (1, .int (y1 ||| ((1 : Int32) <<< (y2 &&& 31)))), (2, .int (y2 + 1))] [] I L M))))) : zSI C h0 K Y_X2_inCellar (d + 1) 4 [(0, .ref o), (1, .int y1), (2, .int y2)] [] I L M := by
  refine S_iload_n 2 dX2_inCellar_4 rfl rfl ?_
  refine S_bipush (v := 12) dX2_inCellar_5 (by decide) ?_
  refine S_icmp_ge (tgt := 35) dX2_inCellar_7 (by decide) (fun q1 => ?_) (fun q1 => ?_)
  · refine S_iload_n 1 dX2_inCellar_35 rfl rfl ?_
    exact S_ireti rfl dX2_inCellar_36 ⟨_, I, L, M, rfl, rfl, (T.1 q1)⟩
  · refine S_iload_n 1 dX2_inCellar_10 rfl rfl ?_
    refine S_aload_n 0 dX2_inCellar_11 rfl rfl ?_
    refine S_getP f_RX2_15 (sI ho) (pI_c ho) dX2_inCellar_12 ?_
    refine S_iload_n 2 dX2_inCellar_15 rfl rfl ?_
    refine S_iald (sI_c ho) (T.2 q1).1 dX2_inCellar_16 ?_
    refine S_if_le (tgt := 26) dX2_inCellar_17 (by decide) (fun q2 => ?_) (fun q2 => ?_)
    · refine S_iconst (v := 0) dX2_inCellar_26 (by decide) ?_
      refine S_ior dX2_inCellar_27 ?_
      refine S_istore_n dX2_inCellar_28 rfl (by decide) rfl ?_
      refine S_iinc 2 dX2_inCellar_29 rfl rfl (by decide) rfl ?_
      refine S_goto (tgt := 4) dX2_inCellar_32 (by decide) ?_
      exact S_sub [2, 1, 0] rfl ((T.2 q1).2.1 q2)
    · refine S_iconst (v := 1) dX2_inCellar_20 (by decide) ?_
      refine S_iload_n 2 dX2_inCellar_21 rfl rfl ?_
      refine S_ishl dX2_inCellar_22 ?_
      refine S_goto (tgt := 27) dX2_inCellar_23 (by decide) ?_
      refine S_ior dX2_inCellar_27 ?_
      refine S_istore_n dX2_inCellar_28 rfl (by decide) rfl ?_
      refine S_iinc 2 dX2_inCellar_29 rfl rfl (by decide) rfl ?_
      refine S_goto (tgt := 4) dX2_inCellar_32 (by decide) ?_
      exact S_sub [2, 1, 0] rfl ((T.2 q1).2.2 q2)

set_option maxRecDepth 100000 in
theorem t_X2_letGo {C : zC} {I : Nat → Nat → Int32} {L : Nat → Nat → Int64} {M : Nat → Nat → Option Nat} (d : Nat) {o : Nat} (ho : zInn o) (K : (Nat → Nat → Int32) → (Nat → Nat → Int64) → (Nat → Nat → Option Nat) → Prop) (T : zSV C (zmk I L M) K Y_X2_letGo (d + 1) 2 [(0, .ref o), (1, .int 0)] [] I L M) : zCV C Y_X2_letGo (d + 1) [.ref o] (zmk I L M) K := by
  refine S_enter (by decide) (Nat.le_of_ble_eq_true rfl) ?_
  refine S_lv (lv' := [(0, .ref o)]) rfl ?_
  refine S_iconst (v := 0) dX2_letGo_0 (by decide) ?_
  refine S_istore_n dX2_letGo_1 rfl (by decide) rfl ?_
  exact S_sub [1, 0] rfl T

set_option maxRecDepth 100000 in
theorem t_X2_letGo_2 {C : zC} {I : Nat → Nat → Int32} {L : Nat → Nat → Int64} {M : Nat → Nat → Option Nat} {h0 : zH} (d : Nat) {o : Nat} (ho : zInn o)  (y1 : Int32) (K : (Nat → Nat → Int32) → (Nat → Nat → Int64) → (Nat → Nat → Option Nat) → Prop) (T : ((12 ≤ y1 → K I L M) ∧ (¬ (12 ≤ y1) → vp_in y1 12 ∧ vp_in y1 12 ∧ zSV C h0 K Y_X2_letGo (d + 1) 2 [(0, .ref o), (1, .int (y1 + 1))] [] (u2 I ((o + 2)) y1.toNatClampNeg ((if ((I ((o + 2)) y1.toNatClampNeg) - (1 : Int32)) < 0 then 0 else ((I ((o + 2)) y1.toNatClampNeg) - (1 : Int32))))) L M))) : zSV C h0 K Y_X2_letGo (d + 1) 2 [(0, .ref o), (1, .int y1)] [] I L M := by
  refine S_iload_n 1 dX2_letGo_2 rfl rfl ?_
  refine S_bipush (v := 12) dX2_letGo_3 (by decide) ?_
  refine S_icmp_ge (tgt := 32) dX2_letGo_5 (by decide) (fun q1 => ?_) (fun q1 => ?_)
  · exact S_vret rfl dX2_letGo_32 ⟨I, L, M, rfl, rfl, (T.1 q1)⟩
  · refine S_aload_n 0 dX2_letGo_8 rfl rfl ?_
    refine S_getP f_RX2_15 (sI ho) (pI_c ho) dX2_letGo_9 ?_
    refine S_iload_n 1 dX2_letGo_12 rfl rfl ?_
    refine S_aload_n 0 dX2_letGo_13 rfl rfl ?_
    refine S_getP f_RX2_15 (sI ho) (pI_c ho) dX2_letGo_14 ?_
    refine S_iload_n 1 dX2_letGo_17 rfl rfl ?_
    refine S_iald (sI_c ho) (T.2 q1).1 dX2_letGo_18 ?_
    refine S_iconst (v := 1) dX2_letGo_19 (by decide) ?_
    refine S_isub dX2_letGo_20 ?_
    refine S_iconst (v := 0) dX2_letGo_21 (by decide) ?_
    refine S_max m_RX2_80 o_maxs o_math o_maxc (Nat.le_of_ble_eq_true rfl) rfl ⟨Nat.le_refl _, Nat.le_refl _⟩ dX2_letGo_22 ?_
    refine S_iast (sI_c ho) (T.2 q1).2.1 dX2_letGo_25 ?_
    refine S_iinc 1 dX2_letGo_26 rfl rfl (by decide) rfl ?_
    refine S_goto (tgt := 2) dX2_letGo_29 (by decide) ?_
    exact S_sub [1, 0] rfl (T.2 q1).2.2

set_option maxRecDepth 100000 in
theorem t_X2_meantByAll {C : zC} {I : Nat → Nat → Int32} {L : Nat → Nat → Int64} {M : Nat → Nat → Option Nat} (d : Nat) {o : Nat} (ho : zInn o) (K : Int32 → (Nat → Nat → Int32) → (Nat → Nat → Int64) → (Nat → Nat → Option Nat) → Prop) (T : zSI C (zmk I L M) K Y_X2_meantByAll (d + 2) 4 [(0, .ref o), (1, .int 0), (2, .int 0)] [] I L M) : zCI C Y_X2_meantByAll (d + 2) [.ref o] (zmk I L M) K := by
  refine S_enter (by decide) (Nat.le_of_ble_eq_true rfl) ?_
  refine S_lv (lv' := [(0, .ref o)]) rfl ?_
  refine S_iconst (v := 0) dX2_meantByAll_0 (by decide) ?_
  refine S_istore_n dX2_meantByAll_1 rfl (by decide) rfl ?_
  refine S_iconst (v := 0) dX2_meantByAll_2 (by decide) ?_
  refine S_istore_n dX2_meantByAll_3 rfl (by decide) rfl ?_
  exact S_sub [2, 1, 0] rfl T

set_option maxRecDepth 100000 in
theorem t_X2_meantByAll_4 {C : zC} {I : Nat → Nat → Int32} {L : Nat → Nat → Int64} {M : Nat → Nat → Option Nat} {h0 : zH} (d : Nat) {o : Nat} (ho : zInn o)  (y1 : Int32) (y2 : Int32) (K : Int32 → (Nat → Nat → Int32) → (Nat → Nat → Int64) → (Nat → Nat → Option Nat) → Prop) (T : (((I o 3) ≤ y2 → K y1 I L M) ∧ (¬ ((I o 3) ≤ y2) → vp_in y2 6 ∧ zSI C h0 K Y_X2_meantByAll (d + 2) 4 [(0, .ref o), (1, .int (y1 + (zbc ((I ((o + 33 + 2 * y2.toNatClampNeg)) 3))))), (2, .int (y2 + 1))] [] I L M))) : zSI C h0 K Y_X2_meantByAll (d + 2) 4 [(0, .ref o), (1, .int y1), (2, .int y2)] [] I L M := by
  refine S_iload_n 2 dX2_meantByAll_4 rfl rfl ?_
  refine S_aload_n 0 dX2_meantByAll_5 rfl rfl ?_
  refine S_getI f_RX2_58 (sI ho) dX2_meantByAll_6 ?_
  refine S_icmp_ge (tgt := 33) dX2_meantByAll_9 (by decide) (fun q1 => ?_) (fun q1 => ?_)
  · refine S_iload_n 1 dX2_meantByAll_33 rfl rfl ?_
    exact S_ireti rfl dX2_meantByAll_34 ⟨_, I, L, M, rfl, rfl, (T.1 q1)⟩
  · refine S_iload_n 1 dX2_meantByAll_12 rfl rfl ?_
    refine S_aload_n 0 dX2_meantByAll_13 rfl rfl ?_
    refine S_getP f_RX2_20 (sI ho) (pI_g ho) dX2_meantByAll_14 ?_
    refine S_iload_n 2 dX2_meantByAll_17 rfl rfl ?_
    refine S_aald 1 (by decide) (sI_g ho) (T.2 q1).1 ((gI_p ho) _ (vp_lt (T.2 q1).1)) dX2_meantByAll_18 ?_
    refine S_getI f_RX2_68 ((gI ho) _ (vp_lt (T.2 q1).1)).1 dX2_meantByAll_19 ?_
    refine S_callS [.int (I ((o + 33 + 2 * y2.toNatClampNeg)) 3)] [.int y1] m_RX2_83 rfl rfl (Nat.le_of_ble_eq_true rfl) (zroom_0 (by decide)) dX2_meantByAll_22 (zpure (sp_J6_bitCount_0f7a4 (I := I) (L := L) (M := M) (d + 0) ((I ((o + 33 + 2 * y2.toNatClampNeg)) 3))) ?_)
    refine S_iadd dX2_meantByAll_25 ?_
    refine S_istore_n dX2_meantByAll_26 rfl (by decide) rfl ?_
    refine S_iinc 2 dX2_meantByAll_27 rfl rfl (by decide) rfl ?_
    refine S_goto (tgt := 4) dX2_meantByAll_30 (by decide) ?_
    exact S_sub [2, 1, 0] rfl (T.2 q1).2

set_option maxRecDepth 100000 in
theorem t_X2_storedInAll {C : zC} {I : Nat → Nat → Int32} {L : Nat → Nat → Int64} {M : Nat → Nat → Option Nat} (d : Nat) {o : Nat} (ho : zInn o) (K : Int32 → (Nat → Nat → Int32) → (Nat → Nat → Int64) → (Nat → Nat → Option Nat) → Prop) (T : zSI C (zmk I L M) K Y_X2_storedInAll (d + 1) 4 [(0, .ref o), (1, .int 0), (2, .int 0)] [] I L M) : zCI C Y_X2_storedInAll (d + 1) [.ref o] (zmk I L M) K := by
  refine S_enter (by decide) (Nat.le_of_ble_eq_true rfl) ?_
  refine S_lv (lv' := [(0, .ref o)]) rfl ?_
  refine S_iconst (v := 0) dX2_storedInAll_0 (by decide) ?_
  refine S_istore_n dX2_storedInAll_1 rfl (by decide) rfl ?_
  refine S_iconst (v := 0) dX2_storedInAll_2 (by decide) ?_
  refine S_istore_n dX2_storedInAll_3 rfl (by decide) rfl ?_
  exact S_sub [2, 1, 0] rfl T

set_option maxRecDepth 100000 in
theorem t_X2_storedInAll_4 {C : zC} {I : Nat → Nat → Int32} {L : Nat → Nat → Int64} {M : Nat → Nat → Option Nat} {h0 : zH} (d : Nat) {o : Nat} (ho : zInn o)  (y1 : Int32) (y2 : Int32) (K : Int32 → (Nat → Nat → Int32) → (Nat → Nat → Int64) → (Nat → Nat → Option Nat) → Prop) (T : ((12 ≤ y2 → K y1 I L M) ∧ (¬ (12 ≤ y2) → vp_in y2 12 ∧ zSI C h0 K Y_X2_storedInAll (d + 1) 4 [(0, .ref o), (1, .int (y1 + (I ((o + 2)) y2.toNatClampNeg))), (2, .int (y2 + 1))] [] I L M))) : zSI C h0 K Y_X2_storedInAll (d + 1) 4 [(0, .ref o), (1, .int y1), (2, .int y2)] [] I L M := by
  refine S_iload_n 2 dX2_storedInAll_4 rfl rfl ?_
  refine S_bipush (v := 12) dX2_storedInAll_5 (by decide) ?_
  refine S_icmp_ge (tgt := 25) dX2_storedInAll_7 (by decide) (fun q1 => ?_) (fun q1 => ?_)
  · refine S_iload_n 1 dX2_storedInAll_25 rfl rfl ?_
    exact S_ireti rfl dX2_storedInAll_26 ⟨_, I, L, M, rfl, rfl, (T.1 q1)⟩
  · refine S_iload_n 1 dX2_storedInAll_10 rfl rfl ?_
    refine S_aload_n 0 dX2_storedInAll_11 rfl rfl ?_
    refine S_getP f_RX2_15 (sI ho) (pI_c ho) dX2_storedInAll_12 ?_
    refine S_iload_n 2 dX2_storedInAll_15 rfl rfl ?_
    refine S_iald (sI_c ho) (T.2 q1).1 dX2_storedInAll_16 ?_
    refine S_iadd dX2_storedInAll_17 ?_
    refine S_istore_n dX2_storedInAll_18 rfl (by decide) rfl ?_
    refine S_iinc 2 dX2_storedInAll_19 rfl rfl (by decide) rfl ?_
    refine S_goto (tgt := 4) dX2_storedInAll_22 (by decide) ?_
    exact S_sub [2, 1, 0] rfl (T.2 q1).2

set_option maxRecDepth 100000 in
theorem t_X2_take {C : zC} {I : Nat → Nat → Int32} {L : Nat → Nat → Int64} {M : Nat → Nat → Option Nat} (d : Nat) {o : Nat} {o1 : Nat} (x2 : Int32) (ho : zInn o) (ho1 : zGu o1) (K : (Nat → Nat → Int32) → (Nat → Nat → Int64) → (Nat → Nat → Option Nat) → Prop) (T : vp_in x2 12 ∧ vp_in x2 12 ∧ K (u2 (u2 (u2 I o1 3 (((I o1 3) &&& (((1 : Int32) <<< (x2 &&& 31)) ^^^ (-1 : Int32))))) o1 4 ((((u2 I o1 3 (((I o1 3) &&& (((1 : Int32) <<< (x2 &&& 31)) ^^^ (-1 : Int32))))) o1 4) ||| ((1 : Int32) <<< (x2 &&& 31))))) ((o + 2)) x2.toNatClampNeg ((if 99 < (((u2 (u2 I o1 3 (((I o1 3) &&& (((1 : Int32) <<< (x2 &&& 31)) ^^^ (-1 : Int32))))) o1 4 ((((u2 I o1 3 (((I o1 3) &&& (((1 : Int32) <<< (x2 &&& 31)) ^^^ (-1 : Int32))))) o1 4) ||| ((1 : Int32) <<< (x2 &&& 31))))) ((o + 2)) x2.toNatClampNeg) + (1 : Int32)) then 99 else (((u2 (u2 I o1 3 (((I o1 3) &&& (((1 : Int32) <<< (x2 &&& 31)) ^^^ (-1 : Int32))))) o1 4 ((((u2 I o1 3 (((I o1 3) &&& (((1 : Int32) <<< (x2 &&& 31)) ^^^ (-1 : Int32))))) o1 4) ||| ((1 : Int32) <<< (x2 &&& 31))))) ((o + 2)) x2.toNatClampNeg) + (1 : Int32))))) L M) : zCV C Y_X2_take (d + 1) [.ref o, .ref o1, .int x2] (zmk I L M) K := by
  refine S_enter (by decide) (Nat.le_of_ble_eq_true rfl) ?_
  refine S_lv (lv' := [(0, .ref o), (1, .ref o1), (2, .int x2)]) rfl ?_
  refine S_aload_n 1 dX2_take_0 rfl rfl ?_
  refine S_dup dX2_take_1 rfl ?_
  refine S_getI f_RX2_68 ho1.1 dX2_take_2 ?_
  refine S_iconst (v := 1) dX2_take_5 (by decide) ?_
  refine S_iload_n 2 dX2_take_6 rfl rfl ?_
  refine S_ishl dX2_take_7 ?_
  refine S_iconst (v := -1) dX2_take_8 (by decide) ?_
  refine S_ixor dX2_take_9 ?_
  refine S_iand dX2_take_10 ?_
  refine S_putI f_RX2_68 ho1.1 (Or.inl rfl) rfl dX2_take_11 ?_
  refine S_aload_n 1 dX2_take_14 rfl rfl ?_
  refine S_dup dX2_take_15 rfl ?_
  refine S_getI f_RX2_71 ho1.1 dX2_take_16 ?_
  refine S_iconst (v := 1) dX2_take_19 (by decide) ?_
  refine S_iload_n 2 dX2_take_20 rfl rfl ?_
  refine S_ishl dX2_take_21 ?_
  refine S_ior dX2_take_22 ?_
  refine S_putI f_RX2_71 ho1.1 (Or.inl rfl) rfl dX2_take_23 ?_
  refine S_aload_n 0 dX2_take_26 rfl rfl ?_
  refine S_getP f_RX2_15 (sI ho) (pI_c ho) dX2_take_27 ?_
  refine S_iload_n 2 dX2_take_30 rfl rfl ?_
  refine S_aload_n 0 dX2_take_31 rfl rfl ?_
  refine S_getP f_RX2_15 (sI ho) (pI_c ho) dX2_take_32 ?_
  refine S_iload_n 2 dX2_take_35 rfl rfl ?_
  refine S_iald (sI_c ho) T.1 dX2_take_36 ?_
  refine S_iconst (v := 1) dX2_take_37 (by decide) ?_
  refine S_iadd dX2_take_38 ?_
  refine S_bipush (v := 99) dX2_take_39 (by decide) ?_
  refine S_min m_RX2_74 o_mins o_math o_minc (Nat.le_of_ble_eq_true rfl) rfl ⟨Nat.le_refl _, Nat.le_refl _⟩ dX2_take_41 ?_
  refine S_iast (sI_c ho) T.2.1 dX2_take_44 ?_
  exact S_vret rfl dX2_take_45 ⟨u2 (u2 (u2 I o1 3 (((I o1 3) &&& (((1 : Int32) <<< (x2 &&& 31)) ^^^ (-1 : Int32))))) o1 4 ((((u2 I o1 3 (((I o1 3) &&& (((1 : Int32) <<< (x2 &&& 31)) ^^^ (-1 : Int32))))) o1 4) ||| ((1 : Int32) <<< (x2 &&& 31))))) ((o + 2)) x2.toNatClampNeg ((if 99 < (((u2 (u2 I o1 3 (((I o1 3) &&& (((1 : Int32) <<< (x2 &&& 31)) ^^^ (-1 : Int32))))) o1 4 ((((u2 I o1 3 (((I o1 3) &&& (((1 : Int32) <<< (x2 &&& 31)) ^^^ (-1 : Int32))))) o1 4) ||| ((1 : Int32) <<< (x2 &&& 31))))) ((o + 2)) x2.toNatClampNeg) + (1 : Int32)) then 99 else (((u2 (u2 I o1 3 (((I o1 3) &&& (((1 : Int32) <<< (x2 &&& 31)) ^^^ (-1 : Int32))))) o1 4 ((((u2 I o1 3 (((I o1 3) &&& (((1 : Int32) <<< (x2 &&& 31)) ^^^ (-1 : Int32))))) o1 4) ||| ((1 : Int32) <<< (x2 &&& 31))))) ((o + 2)) x2.toNatClampNeg) + (1 : Int32)))), L, M, rfl, rfl, T.2.2⟩

set_option maxRecDepth 100000 in
theorem t_X2_whoIsIn {C : zC} {I : Nat → Nat → Int32} {L : Nat → Nat → Int64} {M : Nat → Nat → Option Nat} (d : Nat) {o : Nat} (ho : zInn o) (K : Int32 → (Nat → Nat → Int32) → (Nat → Nat → Int64) → (Nat → Nat → Option Nat) → Prop) (T : zSI C (zmk I L M) K Y_X2_whoIsIn (d + 1) 4 [(0, .ref o), (1, .int 0), (2, .int 0)] [] I L M) : zCI C Y_X2_whoIsIn (d + 1) [.ref o] (zmk I L M) K := by
  refine S_enter (by decide) (Nat.le_of_ble_eq_true rfl) ?_
  refine S_lv (lv' := [(0, .ref o)]) rfl ?_
  refine S_iconst (v := 0) dX2_whoIsIn_0 (by decide) ?_
  refine S_istore_n dX2_whoIsIn_1 rfl (by decide) rfl ?_
  refine S_iconst (v := 0) dX2_whoIsIn_2 (by decide) ?_
  refine S_istore_n dX2_whoIsIn_3 rfl (by decide) rfl ?_
  exact S_sub [2, 1, 0] rfl T

set_option maxRecDepth 100000 in
theorem t_X2_whoIsIn_4 {C : zC} {I : Nat → Nat → Int32} {L : Nat → Nat → Int64} {M : Nat → Nat → Option Nat} {h0 : zH} (d : Nat) {o : Nat} (ho : zInn o)  (y1 : Int32) (y2 : Int32) (K : Int32 → (Nat → Nat → Int32) → (Nat → Nat → Int64) → (Nat → Nat → Option Nat) → Prop) (T : (((I o 3) ≤ y2 → K y1 I L M) ∧ (¬ ((I o 3) ≤ y2) → vp_in y2 6 ∧ (((I ((o + 33 + 2 * y2.toNatClampNeg)) 5) = 0 → zSI C h0 K Y_X2_whoIsIn (d + 1) 4 [(0, .ref o), (1, .int (y1 ||| (0 : Int32))), (2, .int (y2 + 1))] [] I L M) ∧ (¬ ((I ((o + 33 + 2 * y2.toNatClampNeg)) 5) = 0) → zSI C h0 K Y_X2_whoIsIn (d + 1) 4 [(0, .ref o), (1, .int (y1 ||| ((1 : Int32) <<< (y2 &&& 31)))), (2, .int (y2 + 1))] [] I L M))))) : zSI C h0 K Y_X2_whoIsIn (d + 1) 4 [(0, .ref o), (1, .int y1), (2, .int y2)] [] I L M := by
  refine S_iload_n 2 dX2_whoIsIn_4 rfl rfl ?_
  refine S_aload_n 0 dX2_whoIsIn_5 rfl rfl ?_
  refine S_getI f_RX2_58 (sI ho) dX2_whoIsIn_6 ?_
  refine S_icmp_ge (tgt := 40) dX2_whoIsIn_9 (by decide) (fun q1 => ?_) (fun q1 => ?_)
  · refine S_iload_n 1 dX2_whoIsIn_40 rfl rfl ?_
    exact S_ireti rfl dX2_whoIsIn_41 ⟨_, I, L, M, rfl, rfl, (T.1 q1)⟩
  · refine S_iload_n 1 dX2_whoIsIn_12 rfl rfl ?_
    refine S_aload_n 0 dX2_whoIsIn_13 rfl rfl ?_
    refine S_getP f_RX2_20 (sI ho) (pI_g ho) dX2_whoIsIn_14 ?_
    refine S_iload_n 2 dX2_whoIsIn_17 rfl rfl ?_
    refine S_aald 1 (by decide) (sI_g ho) (T.2 q1).1 ((gI_p ho) _ (vp_lt (T.2 q1).1)) dX2_whoIsIn_18 ?_
    refine S_getI f_RX2_89 ((gI ho) _ (vp_lt (T.2 q1).1)).1 dX2_whoIsIn_19 ?_
    refine S_if_eq (tgt := 31) dX2_whoIsIn_22 (by decide) (fun q2 => ?_) (fun q2 => ?_)
    · refine S_iconst (v := 0) dX2_whoIsIn_31 (by decide) ?_
      refine S_ior dX2_whoIsIn_32 ?_
      refine S_istore_n dX2_whoIsIn_33 rfl (by decide) rfl ?_
      refine S_iinc 2 dX2_whoIsIn_34 rfl rfl (by decide) rfl ?_
      refine S_goto (tgt := 4) dX2_whoIsIn_37 (by decide) ?_
      exact S_sub [2, 1, 0] rfl ((T.2 q1).2.1 q2)
    · refine S_iconst (v := 1) dX2_whoIsIn_25 (by decide) ?_
      refine S_iload_n 2 dX2_whoIsIn_26 rfl rfl ?_
      refine S_ishl dX2_whoIsIn_27 ?_
      refine S_goto (tgt := 32) dX2_whoIsIn_28 (by decide) ?_
      refine S_ior dX2_whoIsIn_32 ?_
      refine S_istore_n dX2_whoIsIn_33 rfl (by decide) rfl ?_
      refine S_iinc 2 dX2_whoIsIn_34 rfl rfl (by decide) rfl ?_
      refine S_goto (tgt := 4) dX2_whoIsIn_37 (by decide) ?_
      exact S_sub [2, 1, 0] rfl ((T.2 q1).2.2 q2)

set_option maxRecDepth 100000 in
theorem t_X5_goOn {C : zC} {I : Nat → Nat → Int32} {L : Nat → Nat → Int64} {M : Nat → Nat → Option Nat} (d : Nat) (x1 : Int32) (x2 : Int32) (x3 : Int32)  (K : (Nat → Nat → Int32) → (Nat → Nat → Int64) → (Nat → Nat → Option Nat) → Prop) (T : zSV C (zmk I L M) K Y_X5_goOn (d + 2) 5 [(0, .ref 145), (1, .int x1), (2, .int x2), (4, .int (x3 + (1 : Int32)))] [] I L M) : zCV C Y_X5_goOn (d + 2) [.ref 145, .int x1, .int x2, .int x3] (zmk I L M) K := by
  refine S_enter (by decide) (Nat.le_of_ble_eq_true rfl) ?_
  refine S_lv (lv' := [(0, .ref 145), (1, .int x1), (2, .int x2), (3, .int x3)]) rfl ?_
  refine S_iload_n 3 dX5_goOn_0 rfl rfl ?_
  refine S_iconst (v := 1) dX5_goOn_1 (by decide) ?_
  refine S_iadd dX5_goOn_2 ?_
  refine S_istore dX5_goOn_3 (by decide) rfl ?_
  exact S_sub [1, 2, 3, 0] rfl T

set_option maxRecDepth 100000 in
theorem t_X5_goOn_5 {C : zC} {I : Nat → Nat → Int32} {L : Nat → Nat → Int64} {M : Nat → Nat → Option Nat} {h0 : zH} (d : Nat)   (y1 : Int32) (y2 : Int32) (y4 : Int32) (K : (Nat → Nat → Int32) → (Nat → Nat → Int64) → (Nat → Nat → Option Nat) → Prop) (T : ((6 ≤ y4 → K I L M) ∧ (¬ (6 ≤ y4) → ((¬ (zhas y2 y4) → zSV C h0 K Y_X5_goOn (d + 2) 5 [(0, .ref 145), (1, .int y1), (2, .int y2), (4, .int (y4 + 1))] [] I L M) ∧ ((zhas y2 y4) → vp_in ((y1 ||| ((1 : Int32) <<< (y4 &&& 31)))) 64 ∧ vp_in ((y1 ||| ((1 : Int32) <<< (y4 &&& 31)))) 64 ∧ zSV C h0 K Y_X5_goOn (d + 2) 5 [(0, .ref 145), (1, .int y1), (2, .int y2), (4, .int (y4 + 1))] [] (u2 I 147 (((y1 ||| ((1 : Int32) <<< (y4 &&& 31)))).toNatClampNeg) (((I 147 (((y1 ||| ((1 : Int32) <<< (y4 &&& 31)))).toNatClampNeg)) ||| ((1 : Int32) <<< (y4 &&& 31))))) L M))))) : zSV C h0 K Y_X5_goOn (d + 2) 5 [(0, .ref 145), (1, .int y1), (2, .int y2), (4, .int y4)] [] I L M := by
  refine S_iload 3 dX5_goOn_5 rfl ?_
  refine S_bipush (v := 6) dX5_goOn_7 (by decide) ?_
  refine S_icmp_ge (tgt := 45) dX5_goOn_9 (by decide) (fun q1 => ?_) (fun q1 => ?_)
  · exact S_vret rfl dX5_goOn_45 ⟨I, L, M, rfl, rfl, (T.1 q1)⟩
  · refine S_iload_n 2 dX5_goOn_12 rfl rfl ?_
    refine S_iload 3 dX5_goOn_13 rfl ?_
    refine S_callSN [.int y2, .int y4] [] m_RX5_56 rfl rfl (Nat.le_of_ble_eq_true rfl) (zroom_0 (by decide)) dX5_goOn_15 (zpure (sp_X10_has (I := I) (L := L) (M := M) (d + 0) y2 y4) ?_)
    refine S_if_eq (tgt := 39) dX5_goOn_18 (by decide) (fun q2 => ?_) (fun q2 => ?_)
    · refine S_iinc 3 dX5_goOn_39 rfl rfl (by decide) rfl ?_
      refine S_goto (tgt := 5) dX5_goOn_42 (by decide) ?_
      exact S_sub [1, 2, 3, 0] rfl ((T.2 q1).1 (zb_f q2))
    · refine S_aload_n 0 dX5_goOn_21 rfl rfl ?_
      refine S_getP f_RX5_15 s_145 p_145_1 dX5_goOn_22 ?_
      refine S_iload_n 1 dX5_goOn_25 rfl rfl ?_
      refine S_iconst (v := 1) dX5_goOn_26 (by decide) ?_
      refine S_iload 3 dX5_goOn_27 rfl ?_
      refine S_ishl dX5_goOn_29 ?_
      refine S_ior dX5_goOn_30 ?_
      refine S_dup2 dX5_goOn_31 rfl rfl ?_
      refine S_iald s_147 ((T.2 q1).2 (zb_t q2)).1 dX5_goOn_32 ?_
      refine S_iconst (v := 1) dX5_goOn_33 (by decide) ?_
      refine S_iload 3 dX5_goOn_34 rfl ?_
      refine S_ishl dX5_goOn_36 ?_
      refine S_ior dX5_goOn_37 ?_
      refine S_iast s_147 ((T.2 q1).2 (zb_t q2)).2.1 dX5_goOn_38 ?_
      refine S_iinc 3 dX5_goOn_39 rfl rfl (by decide) rfl ?_
      refine S_goto (tgt := 5) dX5_goOn_42 (by decide) ?_
      exact S_sub [1, 2, 3, 0] rfl ((T.2 q1).2 (zb_t q2)).2.2

set_option maxRecDepth 100000 in
theorem t_X5_longest {C : zC} {I : Nat → Nat → Int32} {L : Nat → Nat → Int64} {M : Nat → Nat → Option Nat} (d : Nat) {o1 : Nat} (ho1 : zInn o1) (K : Int32 → (Nat → Nat → Int32) → (Nat → Nat → Int64) → (Nat → Nat → Option Nat) → Prop) (T : zSI C (zmk I L M) K Y_X5_longest (d + 4) 2 [(0, .ref 145), (1, .ref o1), (2, .int 0)] [] I L M) : zCI C Y_X5_longest (d + 4) [.ref 145, .ref o1] (zmk I L M) K := by
  refine S_enter (by decide) (Nat.le_of_ble_eq_true rfl) ?_
  refine S_lv (lv' := [(0, .ref 145), (1, .ref o1)]) rfl ?_
  refine S_iconst (v := 0) dX5_longest_0 (by decide) ?_
  refine S_istore_n dX5_longest_1 rfl (by decide) rfl ?_
  exact S_sub [1, 2, 0] rfl T

set_option maxRecDepth 100000 in
theorem t_X5_longest_2 {C : zC} {I : Nat → Nat → Int32} {L : Nat → Nat → Int64} {M : Nat → Nat → Option Nat} {h0 : zH} (d : Nat) {o1 : Nat} (ho1 : zInn o1)  (y2 : Int32) (K : Int32 → (Nat → Nat → Int32) → (Nat → Nat → Int64) → (Nat → Nat → Option Nat) → Prop) (T : (((I o1 3) ≤ y2 → zSI C h0 K Y_X5_longest (d + 4) 36 [(0, .ref 145), (1, .ref o1), (2, .int 0), (3, .int 0)] [] I L M) ∧ (¬ ((I o1 3) ≤ y2) → vp_in y2 6 ∧ zCI C Y_X5_takersOf (d + 3) [.ref o1, .ref (o1 + 33 + 2 * y2.toNatClampNeg)] (zmk I L M) (fun r1_2 I1_2 L1_2 M1_2 => vp_in y2 6 ∧ zSI C h0 K Y_X5_longest (d + 4) 2 [(0, .ref 145), (1, .ref o1), (2, .int (y2 + 1))] [] (u2 I1_2 146 y2.toNatClampNeg r1_2) L1_2 M1_2)))) : zSI C h0 K Y_X5_longest (d + 4) 2 [(0, .ref 145), (1, .ref o1), (2, .int y2)] [] I L M := by
  refine S_iload_n 2 dX5_longest_2 rfl rfl ?_
  refine S_aload_n 1 dX5_longest_3 rfl rfl ?_
  refine S_getI f_RX5_18 (sI ho1) dX5_longest_4 ?_
  refine S_icmp_ge (tgt := 32) dX5_longest_7 (by decide) (fun q1 => ?_) (fun q1 => ?_)
  · refine S_iconst (v := 0) dX5_longest_32 (by decide) ?_
    refine S_istore_n dX5_longest_33 rfl (by decide) rfl ?_
    refine S_iconst (v := 0) dX5_longest_34 (by decide) ?_
    refine S_istore_n dX5_longest_35 rfl (by decide) rfl ?_
    exact S_sub [2, 3, 1, 0] rfl (T.1 q1)
  · refine S_aload_n 0 dX5_longest_10 rfl rfl ?_
    refine S_getP f_RX5_9 s_145 p_145_0 dX5_longest_11 ?_
    refine S_iload_n 2 dX5_longest_14 rfl rfl ?_
    refine S_aload_n 1 dX5_longest_15 rfl rfl ?_
    refine S_aload_n 1 dX5_longest_16 rfl rfl ?_
    refine S_getP f_RX5_24 (sI ho1) (pI_g ho1) dX5_longest_17 ?_
    refine S_iload_n 2 dX5_longest_20 rfl rfl ?_
    refine S_aald 1 (by decide) (sI_g ho1) (T.2 q1).1 ((gI_p ho1) _ (vp_lt (T.2 q1).1)) dX5_longest_21 ?_
    refine S_callS [.ref o1, .ref (o1 + 33 + 2 * y2.toNatClampNeg)] [.int y2, .ref 146] m_RX5_28 rfl rfl (Nat.le_of_ble_eq_true rfl) (zroom_0 (by decide)) dX5_longest_22 (zCI_use (T.2 q1).2 ?_)
    intro r1_2 I1_2 L1_2 M1_2 T1_2
    refine S_iast s_146 T1_2.1 dX5_longest_25 ?_
    refine S_iinc 2 dX5_longest_26 rfl rfl (by decide) rfl ?_
    refine S_goto (tgt := 2) dX5_longest_29 (by decide) ?_
    exact S_sub [1, 2, 0] rfl T1_2.2

set_option maxRecDepth 100000 in
theorem t_X5_longest_36 {C : zC} {I : Nat → Nat → Int32} {L : Nat → Nat → Int64} {M : Nat → Nat → Option Nat} {h0 : zH} (d : Nat) {o1 : Nat} (ho1 : zInn o1)  (y2 : Int32) (y3 : Int32) (K : Int32 → (Nat → Nat → Int32) → (Nat → Nat → Int64) → (Nat → Nat → Option Nat) → Prop) (T : (((I o1 3) ≤ y3 → K y2 I L M) ∧ (¬ ((I o1 3) ≤ y3) → zCI C Y_X5_longestFrom (d + 3) [.ref 145, .int y3, .int (I o1 3)] (zmk I L M) (fun r1_2 I1_2 L1_2 M1_2 => zSI C h0 K Y_X5_longest (d + 4) 36 [(0, .ref 145), (1, .ref o1), (2, .int (if y2 < r1_2 then r1_2 else y2)), (3, .int (y3 + 1))] [] I1_2 L1_2 M1_2)))) : zSI C h0 K Y_X5_longest (d + 4) 36 [(0, .ref 145), (1, .ref o1), (2, .int y2), (3, .int y3)] [] I L M := by
  refine S_iload_n 3 dX5_longest_36 rfl rfl ?_
  refine S_aload_n 1 dX5_longest_37 rfl rfl ?_
  refine S_getI f_RX5_18 (sI ho1) dX5_longest_38 ?_
  refine S_icmp_ge (tgt := 64) dX5_longest_41 (by decide) (fun q1 => ?_) (fun q1 => ?_)
  · refine S_iload_n 2 dX5_longest_64 rfl rfl ?_
    exact S_ireti rfl dX5_longest_65 ⟨_, I, L, M, rfl, rfl, (T.1 q1)⟩
  · refine S_iload_n 2 dX5_longest_44 rfl rfl ?_
    refine S_aload_n 0 dX5_longest_45 rfl rfl ?_
    refine S_iload_n 3 dX5_longest_46 rfl rfl ?_
    refine S_aload_n 1 dX5_longest_47 rfl rfl ?_
    refine S_getI f_RX5_18 (sI ho1) dX5_longest_48 ?_
    refine S_callV [.int y3, .int (I o1 3)] [.int y2] m_RX5_32 rfl rfl s_145 ⟨rfl, by decide⟩ (Nat.le_of_ble_eq_true rfl) (zroom_0 (by decide)) dX5_longest_51 (zCI_use (T.2 q1) ?_)
    intro r1_2 I1_2 L1_2 M1_2 T1_2
    refine S_max m_RX5_36 o_maxs o_math o_maxc (Nat.le_of_ble_eq_true rfl) rfl ⟨Nat.le_refl _, Nat.le_refl _⟩ dX5_longest_54 ?_
    refine S_istore_n dX5_longest_57 rfl (by decide) rfl ?_
    refine S_iinc 3 dX5_longest_58 rfl rfl (by decide) rfl ?_
    refine S_goto (tgt := 36) dX5_longest_61 (by decide) ?_
    exact S_sub [2, 3, 1, 0] rfl T1_2

set_option maxRecDepth 100000 in
theorem t_X5_longestFrom {C : zC} {I : Nat → Nat → Int32} {L : Nat → Nat → Int64} {M : Nat → Nat → Option Nat} (d : Nat) (x1 : Int32) (x2 : Int32)  (K : Int32 → (Nat → Nat → Int32) → (Nat → Nat → Int64) → (Nat → Nat → Option Nat) → Prop) (T : zCV C Y_J7_fill_53178 (d + 2) [.ref 147, .int 0] (zmk I L M) (fun I1_1 L1_1 M1_1 => vp_in (((1 : Int32) <<< (x1 &&& 31))) 64 ∧ zSI C (zmk I L M) K Y_X5_longestFrom (d + 3) 26 [(0, .ref 145), (1, .int x1), (2, .int x2), (3, .int 0), (4, .int ((1 : Int32) <<< (x1 &&& 31)))] [] (u2 I1_1 147 ((((1 : Int32) <<< (x1 &&& 31))).toNatClampNeg) (((1 : Int32) <<< (x1 &&& 31)))) L1_1 M1_1)) : zCI C Y_X5_longestFrom (d + 3) [.ref 145, .int x1, .int x2] (zmk I L M) K := by
  refine S_enter (by decide) (Nat.le_of_ble_eq_true rfl) ?_
  refine S_lv (lv' := [(0, .ref 145), (1, .int x1), (2, .int x2)]) rfl ?_
  refine S_aload_n 0 dX5_longestFrom_0 rfl rfl ?_
  refine S_getP f_RX5_15 s_145 p_145_1 dX5_longestFrom_1 ?_
  refine S_iconst (v := 0) dX5_longestFrom_4 (by decide) ?_
  refine S_callS [.ref 147, .int 0] [] m_RX5_50 rfl rfl (Nat.le_of_ble_eq_true rfl) (zroom_0 (by decide)) dX5_longestFrom_5 (zCV_use T ?_)
  intro I1_1 L1_1 M1_1 T1_1
  refine S_aload_n 0 dX5_longestFrom_8 rfl rfl ?_
  refine S_getP f_RX5_15 s_145 p_145_1 dX5_longestFrom_9 ?_
  refine S_iconst (v := 1) dX5_longestFrom_12 (by decide) ?_
  refine S_iload_n 1 dX5_longestFrom_13 rfl rfl ?_
  refine S_ishl dX5_longestFrom_14 ?_
  refine S_iconst (v := 1) dX5_longestFrom_15 (by decide) ?_
  refine S_iload_n 1 dX5_longestFrom_16 rfl rfl ?_
  refine S_ishl dX5_longestFrom_17 ?_
  refine S_iast s_147 T1_1.1 dX5_longestFrom_18 ?_
  refine S_iconst (v := 0) dX5_longestFrom_19 (by decide) ?_
  refine S_istore_n dX5_longestFrom_20 rfl (by decide) rfl ?_
  refine S_iconst (v := 1) dX5_longestFrom_21 (by decide) ?_
  refine S_iload_n 2 dX5_longestFrom_22 rfl rfl ?_
  refine S_ishl dX5_longestFrom_23 ?_
  refine S_istore dX5_longestFrom_24 (by decide) rfl ?_
  exact S_sub [2, 3, 4, 1, 0] rfl T1_1.2

set_option maxRecDepth 100000 in
theorem t_X5_longestFrom_26 {C : zC} {I : Nat → Nat → Int32} {L : Nat → Nat → Int64} {M : Nat → Nat → Option Nat} {h0 : zH} (d : Nat)   (y1 : Int32) (y2 : Int32) (y3 : Int32) (y4 : Int32) (K : Int32 → (Nat → Nat → Int32) → (Nat → Nat → Int64) → (Nat → Nat → Option Nat) → Prop) (T : ((((1 : Int32) <<< (y2 &&& 31)) ≤ y4 → K y3 I L M) ∧ (¬ (((1 : Int32) <<< (y2 &&& 31)) ≤ y4) → zSI C h0 K Y_X5_longestFrom (d + 3) 37 [(0, .ref 145), (1, .int y1), (2, .int y2), (3, .int y3), (4, .int y4), (5, .int y1)] [] I L M))) : zSI C h0 K Y_X5_longestFrom (d + 3) 26 [(0, .ref 145), (1, .int y1), (2, .int y2), (3, .int y3), (4, .int y4)] [] I L M := by
  refine S_iload 4 dX5_longestFrom_26 rfl ?_
  refine S_iconst (v := 1) dX5_longestFrom_28 (by decide) ?_
  refine S_iload_n 2 dX5_longestFrom_29 rfl rfl ?_
  refine S_ishl dX5_longestFrom_30 ?_
  refine S_icmp_ge (tgt := 117) dX5_longestFrom_31 (by decide) (fun q1 => ?_) (fun q1 => ?_)
  · refine S_iload_n 3 dX5_longestFrom_117 rfl rfl ?_
    exact S_ireti rfl dX5_longestFrom_118 ⟨_, I, L, M, rfl, rfl, (T.1 q1)⟩
  · refine S_iload_n 1 dX5_longestFrom_34 rfl rfl ?_
    refine S_istore dX5_longestFrom_35 (by decide) rfl ?_
    exact S_sub [1, 2, 3, 4, 5, 0] rfl (T.2 q1)

set_option maxRecDepth 100000 in
theorem t_X5_longestFrom_37 {C : zC} {I : Nat → Nat → Int32} {L : Nat → Nat → Int64} {M : Nat → Nat → Option Nat} {h0 : zH} (d : Nat)   (y1 : Int32) (y2 : Int32) (y3 : Int32) (y4 : Int32) (y5 : Int32) (K : Int32 → (Nat → Nat → Int32) → (Nat → Nat → Int64) → (Nat → Nat → Option Nat) → Prop) (T : ((y2 ≤ y5 → zSI C h0 K Y_X5_longestFrom (d + 3) 26 [(0, .ref 145), (1, .int y1), (2, .int y2), (3, .int y3), (4, .int (y4 + 1))] [] I L M) ∧ (¬ (y2 ≤ y5) → vp_in y4 64 ∧ ((¬ (zhas ((I 147 y4.toNatClampNeg)) y5) → zSI C h0 K Y_X5_longestFrom (d + 3) 37 [(0, .ref 145), (1, .int y1), (2, .int y2), (3, .int y3), (4, .int y4), (5, .int (y5 + 1))] [] I L M) ∧ ((zhas ((I 147 y4.toNatClampNeg)) y5) → vp_in y5 6 ∧ zCV C Y_X5_goOn (d + 2) [.ref 145, .int y4, .int ((I 146 y5.toNatClampNeg) &&& (y4 ^^^ (-1 : Int32))), .int y1] (zmk I L M) (fun I1_3 L1_3 M1_3 => vp_in y5 6 ∧ ((¬ (zhas ((I1_3 146 y5.toNatClampNeg)) y1) → zSI C h0 K Y_X5_longestFrom (d + 3) 37 [(0, .ref 145), (1, .int y1), (2, .int y2), (3, .int y3), (4, .int y4), (5, .int (y5 + 1))] [] I1_3 L1_3 M1_3) ∧ ((zhas ((I1_3 146 y5.toNatClampNeg)) y1) → zSI C h0 K Y_X5_longestFrom (d + 3) 37 [(0, .ref 145), (1, .int y1), (2, .int y2), (3, .int (if y3 < (zbc y4) then (zbc y4) else y3)), (4, .int y4), (5, .int (y5 + 1))] [] I1_3 L1_3 M1_3)))))))) : zSI C h0 K Y_X5_longestFrom (d + 3) 37 [(0, .ref 145), (1, .int y1), (2, .int y2), (3, .int y3), (4, .int y4), (5, .int y5)] [] I L M := by
  refine S_iload 5 dX5_longestFrom_37 rfl ?_
  refine S_iload_n 2 dX5_longestFrom_39 rfl rfl ?_
  refine S_icmp_ge (tgt := 111) dX5_longestFrom_40 (by decide) (fun q1 => ?_) (fun q1 => ?_)
  · refine S_iinc 4 dX5_longestFrom_111 rfl rfl (by decide) rfl ?_
    refine S_goto (tgt := 26) dX5_longestFrom_114 (by decide) ?_
    exact S_sub [1, 2, 3, 4, 0] rfl (T.1 q1)
  · refine S_aload_n 0 dX5_longestFrom_43 rfl rfl ?_
    refine S_getP f_RX5_15 s_145 p_145_1 dX5_longestFrom_44 ?_
    refine S_iload 4 dX5_longestFrom_47 rfl ?_
    refine S_iald s_147 (T.2 q1).1 dX5_longestFrom_49 ?_
    refine S_iload 5 dX5_longestFrom_50 rfl ?_
    refine S_callSN [.int (I 147 y4.toNatClampNeg), .int y5] [] m_RX5_56 rfl rfl (Nat.le_of_ble_eq_true rfl) (zroom_0 (by decide)) dX5_longestFrom_52 (zpure (sp_X10_has (I := I) (L := L) (M := M) (d + 1) ((I 147 y4.toNatClampNeg)) y5) ?_)
    refine S_if_eq (tgt := 105) dX5_longestFrom_55 (by decide) (fun q2 => ?_) (fun q2 => ?_)
    · refine S_iinc 5 dX5_longestFrom_105 rfl rfl (by decide) rfl ?_
      refine S_goto (tgt := 37) dX5_longestFrom_108 (by decide) ?_
      exact S_sub [1, 2, 3, 4, 5, 0] rfl ((T.2 q1).2.1 (zb_f q2))
    · refine S_aload_n 0 dX5_longestFrom_58 rfl rfl ?_
      refine S_iload 4 dX5_longestFrom_59 rfl ?_
      refine S_aload_n 0 dX5_longestFrom_61 rfl rfl ?_
      refine S_getP f_RX5_9 s_145 p_145_0 dX5_longestFrom_62 ?_
      refine S_iload 5 dX5_longestFrom_65 rfl ?_
      refine S_iald s_146 ((T.2 q1).2.2 (zb_t q2)).1 dX5_longestFrom_67 ?_
      refine S_iload 4 dX5_longestFrom_68 rfl ?_
      refine S_iconst (v := -1) dX5_longestFrom_70 (by decide) ?_
      refine S_ixor dX5_longestFrom_71 ?_
      refine S_iand dX5_longestFrom_72 ?_
      refine S_iload_n 1 dX5_longestFrom_73 rfl rfl ?_
      refine S_callV [.int y4, .int ((I 146 y5.toNatClampNeg) &&& (y4 ^^^ (-1 : Int32))), .int y1] [] m_RX5_60 rfl rfl s_145 ⟨rfl, by decide⟩ (Nat.le_of_ble_eq_true rfl) (zroom_0 (by decide)) dX5_longestFrom_74 (zCV_use ((T.2 q1).2.2 (zb_t q2)).2 ?_)
      intro I1_3 L1_3 M1_3 T1_3
      refine S_aload_n 0 dX5_longestFrom_77 rfl rfl ?_
      refine S_getP f_RX5_9 s_145 p_145_0 dX5_longestFrom_78 ?_
      refine S_iload 5 dX5_longestFrom_81 rfl ?_
      refine S_iald s_146 T1_3.1 dX5_longestFrom_83 ?_
      refine S_iload_n 1 dX5_longestFrom_84 rfl rfl ?_
      refine S_callSN [.int (I1_3 146 y5.toNatClampNeg), .int y1] [] m_RX5_56 rfl rfl (Nat.le_of_ble_eq_true rfl) (zroom_0 (by decide)) dX5_longestFrom_85 (zpure (sp_X10_has (I := I1_3) (L := L1_3) (M := M1_3) (d + 1) ((I1_3 146 y5.toNatClampNeg)) y1) ?_)
      refine S_if_eq (tgt := 103) dX5_longestFrom_88 (by decide) (fun q3 => ?_) (fun q3 => ?_)
      · refine S_iload_n 3 dX5_longestFrom_103 rfl rfl ?_
        refine S_istore_n dX5_longestFrom_104 rfl (by decide) rfl ?_
        refine S_iinc 5 dX5_longestFrom_105 rfl rfl (by decide) rfl ?_
        refine S_goto (tgt := 37) dX5_longestFrom_108 (by decide) ?_
        exact S_sub [2, 3, 4, 1, 5, 0] rfl (T1_3.2.1 (zb_f q3))
      · refine S_iload_n 3 dX5_longestFrom_91 rfl rfl ?_
        refine S_iload 4 dX5_longestFrom_92 rfl ?_
        refine S_callS [.int y4] [.int y3] m_RX5_64 rfl rfl (Nat.le_of_ble_eq_true rfl) (zroom_0 (by decide)) dX5_longestFrom_94 (zpure (sp_J6_bitCount_0f7a4 (I := I1_3) (L := L1_3) (M := M1_3) (d + 1) y4) ?_)
        refine S_max m_RX5_36 o_maxs o_math o_maxc (Nat.le_of_ble_eq_true rfl) rfl ⟨Nat.le_refl _, Nat.le_refl _⟩ dX5_longestFrom_97 ?_
        refine S_goto (tgt := 104) dX5_longestFrom_100 (by decide) ?_
        refine S_istore_n dX5_longestFrom_104 rfl (by decide) rfl ?_
        refine S_iinc 5 dX5_longestFrom_105 rfl rfl (by decide) rfl ?_
        refine S_goto (tgt := 37) dX5_longestFrom_108 (by decide) ?_
        exact S_sub [2, 3, 4, 1, 5, 0] rfl (T1_3.2.2 (zb_t q3))

set_option maxRecDepth 100000 in
theorem t_X5_takersOf {C : zC} {I : Nat → Nat → Int32} {L : Nat → Nat → Int64} {M : Nat → Nat → Option Nat} (d : Nat) {o0 : Nat} {o1 : Nat} (ho0 : zInn o0) (ho1 : zGu o1) (K : Int32 → (Nat → Nat → Int32) → (Nat → Nat → Int64) → (Nat → Nat → Option Nat) → Prop) (T : zSI C (zmk I L M) K Y_X5_takersOf (d + 2) 4 [(0, .ref o0), (1, .ref o1), (2, .int 0), (3, .int 0)] [] I L M) : zCI C Y_X5_takersOf (d + 2) [.ref o0, .ref o1] (zmk I L M) K := by
  refine S_enter (by decide) (Nat.le_of_ble_eq_true rfl) ?_
  refine S_lv (lv' := [(0, .ref o0), (1, .ref o1)]) rfl ?_
  refine S_iconst (v := 0) dX5_takersOf_0 (by decide) ?_
  refine S_istore_n dX5_takersOf_1 rfl (by decide) rfl ?_
  refine S_iconst (v := 0) dX5_takersOf_2 (by decide) ?_
  refine S_istore_n dX5_takersOf_3 rfl (by decide) rfl ?_
  exact S_sub [2, 3, 1, 0] rfl T

set_option maxRecDepth 100000 in
theorem t_X5_takersOf_4 {C : zC} {I : Nat → Nat → Int32} {L : Nat → Nat → Int64} {M : Nat → Nat → Option Nat} {h0 : zH} (d : Nat) {o0 : Nat} {o1 : Nat} (ho0 : zInn o0) (ho1 : zGu o1)  (y2 : Int32) (y3 : Int32) (K : Int32 → (Nat → Nat → Int32) → (Nat → Nat → Int64) → (Nat → Nat → Option Nat) → Prop) (T : (((I o0 3) ≤ y3 → K y2 I L M) ∧ (¬ ((I o0 3) ≤ y3) → vp_in y3 6 ∧ ((((I o1 3) &&& ((I ((o0 + 33 + 2 * y3.toNatClampNeg)) 4) &&& ((I ((o0 + 33 + 2 * y3.toNatClampNeg)) 3) ^^^ (-1)))) = 0 → zSI C h0 K Y_X5_takersOf (d + 2) 4 [(0, .ref o0), (1, .ref o1), (2, .int (y2 ||| (0 : Int32))), (3, .int (y3 + 1))] [] I L M) ∧ (¬ (((I o1 3) &&& ((I ((o0 + 33 + 2 * y3.toNatClampNeg)) 4) &&& ((I ((o0 + 33 + 2 * y3.toNatClampNeg)) 3) ^^^ (-1)))) = 0) → zSI C h0 K Y_X5_takersOf (d + 2) 4 [(0, .ref o0), (1, .ref o1), (2, .int (y2 ||| ((1 : Int32) <<< (y3 &&& 31)))), (3, .int (y3 + 1))] [] I L M))))) : zSI C h0 K Y_X5_takersOf (d + 2) 4 [(0, .ref o0), (1, .ref o1), (2, .int y2), (3, .int y3)] [] I L M := by
  refine S_iload_n 3 dX5_takersOf_4 rfl rfl ?_
  refine S_aload_n 0 dX5_takersOf_5 rfl rfl ?_
  refine S_getI f_RX5_18 (sI ho0) dX5_takersOf_6 ?_
  refine S_icmp_ge (tgt := 45) dX5_takersOf_9 (by decide) (fun q1 => ?_) (fun q1 => ?_)
  · refine S_iload_n 2 dX5_takersOf_45 rfl rfl ?_
    exact S_ireti rfl dX5_takersOf_46 ⟨_, I, L, M, rfl, rfl, (T.1 q1)⟩
  · refine S_iload_n 2 dX5_takersOf_12 rfl rfl ?_
    refine S_aload_n 1 dX5_takersOf_13 rfl rfl ?_
    refine S_getI f_RX5_41 ho1.1 dX5_takersOf_14 ?_
    refine S_aload_n 0 dX5_takersOf_17 rfl rfl ?_
    refine S_getP f_RX5_24 (sI ho0) (pI_g ho0) dX5_takersOf_18 ?_
    refine S_iload_n 3 dX5_takersOf_21 rfl rfl ?_
    refine S_aald 1 (by decide) (sI_g ho0) (T.2 q1).1 ((gI_p ho0) _ (vp_lt (T.2 q1).1)) dX5_takersOf_22 ?_
    refine S_callV [] [.int (I o1 3), .int y2] m_RX5_46 rfl rfl ((gI ho0) _ (vp_lt (T.2 q1).1)).1 ⟨rfl, by decide⟩ (Nat.le_of_ble_eq_true rfl) (zroom_0 (by decide)) dX5_takersOf_23 (zpure (sp_X0_missed (I := I) (L := L) (M := M) (d + 0) ((gI ho0) _ (vp_lt (T.2 q1).1))) ?_)
    refine S_iand dX5_takersOf_26 ?_
    refine S_if_eq (tgt := 36) dX5_takersOf_27 (by decide) (fun q2 => ?_) (fun q2 => ?_)
    · refine S_iconst (v := 0) dX5_takersOf_36 (by decide) ?_
      refine S_ior dX5_takersOf_37 ?_
      refine S_istore_n dX5_takersOf_38 rfl (by decide) rfl ?_
      refine S_iinc 3 dX5_takersOf_39 rfl rfl (by decide) rfl ?_
      refine S_goto (tgt := 4) dX5_takersOf_42 (by decide) ?_
      exact S_sub [2, 3, 1, 0] rfl ((T.2 q1).2.1 q2)
    · refine S_iconst (v := 1) dX5_takersOf_30 (by decide) ?_
      refine S_iload_n 3 dX5_takersOf_31 rfl rfl ?_
      refine S_ishl dX5_takersOf_32 ?_
      refine S_goto (tgt := 37) dX5_takersOf_33 (by decide) ?_
      refine S_ior dX5_takersOf_37 ?_
      refine S_istore_n dX5_takersOf_38 rfl (by decide) rfl ?_
      refine S_iinc 3 dX5_takersOf_39 rfl rfl (by decide) rfl ?_
      refine S_goto (tgt := 4) dX5_takersOf_42 (by decide) ?_
      exact S_sub [2, 3, 1, 0] rfl ((T.2 q1).2.2 q2)

set_option maxRecDepth 100000 in
theorem t_X6_add {C : zC} {I : Nat → Nat → Int32} {L : Nat → Nat → Int64} {M : Nat → Nat → Option Nat} (d : Nat) {o_n : Nat} {o : Nat} (x1 : Int32) (x2 : Int32) (x3 : Int32) (x4 : Int32) (ho : zRo o_n o) (K : Int32 → (Nat → Nat → Int32) → (Nat → Nat → Int64) → (Nat → Nat → Option Nat) → Prop) (T : (((I o 1) < (Int32.ofNat o_n) → vp_in ((I o 1)) o_n ∧ K (((u2 (u2 (u2 (u2 (u2 I ((o + 2 + ((I o 1)).toNatClampNeg)) 0 x1) ((o + 2 + ((I o 1)).toNatClampNeg)) 1 x2) ((o + 2 + ((I o 1)).toNatClampNeg)) 2 x3) ((o + 2 + ((I o 1)).toNatClampNeg)) 3 x4) o 1 ((((u2 (u2 (u2 (u2 I ((o + 2 + ((I o 1)).toNatClampNeg)) 0 x1) ((o + 2 + ((I o 1)).toNatClampNeg)) 1 x2) ((o + 2 + ((I o 1)).toNatClampNeg)) 2 x3) ((o + 2 + ((I o 1)).toNatClampNeg)) 3 x4) o 1) + (1 : Int32)))) o 1)) (u2 (u2 (u2 (u2 (u2 I ((o + 2 + ((I o 1)).toNatClampNeg)) 0 x1) ((o + 2 + ((I o 1)).toNatClampNeg)) 1 x2) ((o + 2 + ((I o 1)).toNatClampNeg)) 2 x3) ((o + 2 + ((I o 1)).toNatClampNeg)) 3 x4) o 1 ((((u2 (u2 (u2 (u2 I ((o + 2 + ((I o 1)).toNatClampNeg)) 0 x1) ((o + 2 + ((I o 1)).toNatClampNeg)) 1 x2) ((o + 2 + ((I o 1)).toNatClampNeg)) 2 x3) ((o + 2 + ((I o 1)).toNatClampNeg)) 3 x4) o 1) + (1 : Int32)))) L M) ∧ (¬ ((I o 1) < (Int32.ofNat o_n)) → K ((-4)) I L M))) : zCI C Y_X6_add (d + 1) [.ref o, .int x1, .int x2, .int x3, .int x4] (zmk I L M) K := by
  refine S_enter (by decide) (Nat.le_of_ble_eq_true rfl) ?_
  refine S_lv (lv' := [(0, .ref o), (1, .int x1), (2, .int x2), (3, .int x3), (4, .int x4)]) rfl ?_
  refine S_aload_n 0 dX6_add_0 rfl rfl ?_
  refine S_getI f_RX6_16 ho.1 dX6_add_1 ?_
  refine S_aload_n 0 dX6_add_4 rfl rfl ?_
  refine S_getP f_RX6_11 ho.1 ho.2.1 dX6_add_5 ?_
  refine S_alen_q 0 (v := (Int32.ofNat o_n)) (by decide) ho.2.2.1 rfl dX6_add_8 ?_
  refine S_icmp_lt (tgt := 15) dX6_add_9 (by decide) (fun q1 => ?_) (fun q1 => ?_)
  · refine S_aload_n 0 dX6_add_15 rfl rfl ?_
    refine S_getP f_RX6_11 ho.1 ho.2.1 dX6_add_16 ?_
    refine S_aload_n 0 dX6_add_19 rfl rfl ?_
    refine S_getI f_RX6_16 ho.1 dX6_add_20 ?_
    refine S_aald 0 (by decide) ho.2.2.1 (T.1 q1).1 (ho.2.2.2 _ (vp_lt (T.1 q1).1)).1 dX6_add_23 ?_
    refine S_astore dX6_add_24 (by decide) rfl ?_
    refine S_aload 0 dX6_add_26 rfl ?_
    refine S_iconst (v := 0) dX6_add_28 (by decide) ?_
    refine S_iload_n 2 dX6_add_29 rfl rfl ?_
    refine S_iast (ho.2.2.2 _ (vp_lt (T.1 q1).1)).2 (by unfold vp_in; decide) dX6_add_30 ?_
    refine S_aload 0 dX6_add_31 rfl ?_
    refine S_iconst (v := 1) dX6_add_33 (by decide) ?_
    refine S_iload_n 3 dX6_add_34 rfl rfl ?_
    refine S_iast (ho.2.2.2 _ (vp_lt (T.1 q1).1)).2 (by unfold vp_in; decide) dX6_add_35 ?_
    refine S_aload 0 dX6_add_36 rfl ?_
    refine S_iconst (v := 2) dX6_add_38 (by decide) ?_
    refine S_iload_n 4 dX6_add_39 rfl rfl ?_
    refine S_iast (ho.2.2.2 _ (vp_lt (T.1 q1).1)).2 (by unfold vp_in; decide) dX6_add_40 ?_
    refine S_aload 0 dX6_add_41 rfl ?_
    refine S_iconst (v := 3) dX6_add_43 (by decide) ?_
    refine S_iload 5 dX6_add_44 rfl ?_
    refine S_iast (ho.2.2.2 _ (vp_lt (T.1 q1).1)).2 (by unfold vp_in; decide) dX6_add_46 ?_
    refine S_aload_n 1 dX6_add_47 rfl rfl ?_
    refine S_dup dX6_add_48 rfl ?_
    refine S_getI f_RX6_16 ho.1 dX6_add_49 ?_
    refine S_iconst (v := 1) dX6_add_52 (by decide) ?_
    refine S_iadd dX6_add_53 ?_
    refine S_putI f_RX6_16 ho.1 (Or.inl rfl) rfl dX6_add_54 ?_
    refine S_aload_n 1 dX6_add_57 rfl rfl ?_
    refine S_getI f_RX6_16 ho.1 dX6_add_58 ?_
    exact S_ireti rfl dX6_add_61 ⟨_, u2 (u2 (u2 (u2 (u2 I ((o + 2 + ((I o 1)).toNatClampNeg)) 0 x1) ((o + 2 + ((I o 1)).toNatClampNeg)) 1 x2) ((o + 2 + ((I o 1)).toNatClampNeg)) 2 x3) ((o + 2 + ((I o 1)).toNatClampNeg)) 3 x4) o 1 ((((u2 (u2 (u2 (u2 I ((o + 2 + ((I o 1)).toNatClampNeg)) 0 x1) ((o + 2 + ((I o 1)).toNatClampNeg)) 1 x2) ((o + 2 + ((I o 1)).toNatClampNeg)) 2 x3) ((o + 2 + ((I o 1)).toNatClampNeg)) 3 x4) o 1) + (1 : Int32))), L, M, rfl, rfl, (T.1 q1).2⟩
  · refine S_bipush (v := -4) dX6_add_12 (by decide) ?_
    exact S_ireti rfl dX6_add_14 ⟨_, I, L, M, rfl, rfl, (T.2 q1)⟩

set_option maxRecDepth 100000 in
theorem t_X6_become {C : zC} {I : Nat → Nat → Int32} {L : Nat → Nat → Int64} {M : Nat → Nat → Option Nat} (d : Nat) {o_n : Nat} {o : Nat} {o1_n : Nat} {o1 : Nat} (ho : zRo o_n o) (ho1 : zRo o1_n o1) (K : (Nat → Nat → Int32) → (Nat → Nat → Int64) → (Nat → Nat → Option Nat) → Prop) (T : zSV C (zmk I L M) K Y_X6_become (d + 1) 18 [(0, .ref o), (1, .ref o1), (2, .int 0)] [] (u2 I o 1 ((if (Int32.ofNat o_n) < (I o1 1) then (Int32.ofNat o_n) else (I o1 1)))) L M) : zCV C Y_X6_become (d + 1) [.ref o, .ref o1] (zmk I L M) K := by
  refine S_enter (by decide) (Nat.le_of_ble_eq_true rfl) ?_
  refine S_lv (lv' := [(0, .ref o), (1, .ref o1)]) rfl ?_
  refine S_aload_n 0 dX6_become_0 rfl rfl ?_
  refine S_aload_n 1 dX6_become_1 rfl rfl ?_
  refine S_getI f_RX6_16 ho1.1 dX6_become_2 ?_
  refine S_aload_n 0 dX6_become_5 rfl rfl ?_
  refine S_getP f_RX6_11 ho.1 ho.2.1 dX6_become_6 ?_
  refine S_alen_q 0 (v := (Int32.ofNat o_n)) (by decide) ho.2.2.1 rfl dX6_become_9 ?_
  refine S_min m_RX6_20 o_mins o_math o_minc (Nat.le_of_ble_eq_true rfl) rfl ⟨Nat.le_refl _, Nat.le_refl _⟩ dX6_become_10 ?_
  refine S_putI f_RX6_16 ho.1 (Or.inl rfl) rfl dX6_become_13 ?_
  refine S_iconst (v := 0) dX6_become_16 (by decide) ?_
  refine S_istore_n dX6_become_17 rfl (by decide) rfl ?_
  exact S_sub [1, 2, 0] rfl T

set_option maxRecDepth 100000 in
theorem t_X6_become_18 {C : zC} {I : Nat → Nat → Int32} {L : Nat → Nat → Int64} {M : Nat → Nat → Option Nat} {h0 : zH} (d : Nat) {o_n : Nat} {o : Nat} {o1_n : Nat} {o1 : Nat} (ho : zRo o_n o) (ho1 : zRo o1_n o1)  (y2 : Int32) (K : (Nat → Nat → Int32) → (Nat → Nat → Int64) → (Nat → Nat → Option Nat) → Prop) (T : (((I o 1) ≤ y2 → K I L M) ∧ (¬ ((I o 1) ≤ y2) → vp_in y2 o1_n ∧ vp_in y2 o_n ∧ zSV C h0 K Y_X6_become (d + 1) 18 [(0, .ref o), (1, .ref o1), (2, .int (y2 + 1))] [] (uR I ((o + 2 + y2.toNatClampNeg)) (va_cpy (I ((o1 + 2 + y2.toNatClampNeg))) (I ((o + 2 + y2.toNatClampNeg))) 0 0 4)) L M))) : zSV C h0 K Y_X6_become (d + 1) 18 [(0, .ref o), (1, .ref o1), (2, .int y2)] [] I L M := by
  refine S_iload_n 2 dX6_become_18 rfl rfl ?_
  refine S_aload_n 0 dX6_become_19 rfl rfl ?_
  refine S_getI f_RX6_16 ho.1 dX6_become_20 ?_
  refine S_icmp_ge (tgt := 50) dX6_become_23 (by decide) (fun q1 => ?_) (fun q1 => ?_)
  · exact S_vret rfl dX6_become_50 ⟨I, L, M, rfl, rfl, (T.1 q1)⟩
  · refine S_aload_n 1 dX6_become_26 rfl rfl ?_
    refine S_getP f_RX6_11 ho1.1 ho1.2.1 dX6_become_27 ?_
    refine S_iload_n 2 dX6_become_30 rfl rfl ?_
    refine S_aald 0 (by decide) ho1.2.2.1 (T.2 q1).1 (ho1.2.2.2 _ (vp_lt (T.2 q1).1)).1 dX6_become_31 ?_
    refine S_iconst (v := 0) dX6_become_32 (by decide) ?_
    refine S_aload_n 0 dX6_become_33 rfl rfl ?_
    refine S_getP f_RX6_11 ho.1 ho.2.1 dX6_become_34 ?_
    refine S_iload_n 2 dX6_become_37 rfl rfl ?_
    refine S_aald 0 (by decide) ho.2.2.1 (T.2 q1).2.1 (ho.2.2.2 _ (vp_lt (T.2 q1).2.1)).1 dX6_become_38 ?_
    refine S_iconst (v := 0) dX6_become_39 (by decide) ?_
    refine S_iconst (v := 4) dX6_become_40 (by decide) ?_
    refine S_copyI m_RX6_26 o_nat o_acs o_sys (ho1.2.2.2 _ (vp_lt (T.2 q1).1)).2 (ho.2.2.2 _ (vp_lt (T.2 q1).2.1)).2 (by decide) (by decide) (by decide) (by decide) (by decide) (Nat.le_of_ble_eq_true rfl) rfl dX6_become_41 ?_
    refine S_iinc 2 dX6_become_44 rfl rfl (by decide) rfl ?_
    refine S_goto (tgt := 18) dX6_become_47 (by decide) ?_
    exact S_sub [1, 2, 0] rfl (T.2 q1).2.2

set_option maxRecDepth 100000 in
theorem t_X7_fits {C : zC} {I : Nat → Nat → Int32} {L : Nat → Nat → Int64} {M : Nat → Nat → Option Nat} (d : Nat) {o1 : Nat} (x2 : Int32) (x3 : Int32) (ho1 : zLu o1) (K : Int32 → (Nat → Nat → Int32) → (Nat → Nat → Int64) → (Nat → Nat → Option Nat) → Prop) (T : zSI C (zmk I L M) K Y_X7_fits (d + 5) 6 [(0, .ref 142), (1, .ref o1), (3, .int x3), (4, .int x2), (5, .int 0)] [] I L M) : zCI C Y_X7_fits (d + 5) [.ref 142, .ref o1, .int x2, .int x3] (zmk I L M) K := by
  refine S_enter (by decide) (Nat.le_of_ble_eq_true rfl) ?_
  refine S_lv (lv' := [(0, .ref 142), (1, .ref o1), (2, .int x2), (3, .int x3)]) rfl ?_
  refine S_iload_n 2 dX7_fits_0 rfl rfl ?_
  refine S_istore dX7_fits_1 (by decide) rfl ?_
  refine S_iconst (v := 0) dX7_fits_3 (by decide) ?_
  refine S_istore dX7_fits_4 (by decide) rfl ?_
  exact S_sub [2, 3, 5, 1, 0] rfl T

set_option maxRecDepth 100000 in
theorem t_X7_fits_6 {C : zC} {I : Nat → Nat → Int32} {L : Nat → Nat → Int64} {M : Nat → Nat → Option Nat} {h0 : zH} (d : Nat) {o1 : Nat} (ho1 : zLu o1)  (y3 : Int32) (y4 : Int32) (y5 : Int32) (K : Int32 → (Nat → Nat → Int32) → (Nat → Nat → Int64) → (Nat → Nat → Option Nat) → Prop) (T : (((I 142 2) < y5 → K 1 I L M) ∧ (¬ ((I 142 2) < y5) → vp_in y5 13 ∧ ((¬ ((I 143 y5.toNatClampNeg) &&& (y4 ^^^ (-1 : Int32))) = 0 → K 0 I L M) ∧ (((I 143 y5.toNatClampNeg) &&& (y4 ^^^ (-1 : Int32))) = 0 → vp_in y5 13 ∧ ((((I 144 y5.toNatClampNeg) &&& y4) = 0 → zCI C Y_X3_prey (d + 4) [.ref o1, .int y4, .int (y3 + y5)] (zmk I L M) (fun r1_4 I1_4 L1_4 M1_4 => zSI C h0 K Y_X7_fits (d + 5) 6 [(0, .ref 142), (1, .ref o1), (3, .int y3), (4, .int (zwo y4 r1_4)), (5, .int (y5 + 1))] [] I1_4 L1_4 M1_4)) ∧ (¬ (((I 144 y5.toNatClampNeg) &&& y4) = 0) → K 0 I L M))))))) : zSI C h0 K Y_X7_fits (d + 5) 6 [(0, .ref 142), (1, .ref o1), (3, .int y3), (4, .int y4), (5, .int y5)] [] I L M := by
  refine S_iload 4 dX7_fits_6 rfl ?_
  refine S_aload_n 0 dX7_fits_8 rfl rfl ?_
  refine S_getI f_RX7_24 s_142 dX7_fits_9 ?_
  refine S_icmp_gt (tgt := 68) dX7_fits_12 (by decide) (fun q1 => ?_) (fun q1 => ?_)
  · refine S_iconst (v := 1) dX7_fits_68 (by decide) ?_
    exact S_iretz rfl (by decide) dX7_fits_69 ⟨_, I, L, M, rfl, rfl, (T.1 q1)⟩
  · refine S_aload_n 0 dX7_fits_15 rfl rfl ?_
    refine S_getP f_RX7_9 s_142 p_142_0 dX7_fits_16 ?_
    refine S_iload 4 dX7_fits_19 rfl ?_
    refine S_iald s_143 (T.2 q1).1 dX7_fits_21 ?_
    refine S_iload 3 dX7_fits_22 rfl ?_
    refine S_iconst (v := -1) dX7_fits_24 (by decide) ?_
    refine S_ixor dX7_fits_25 ?_
    refine S_iand dX7_fits_26 ?_
    refine S_if_ne (tgt := 43) dX7_fits_27 (by decide) (fun q2 => ?_) (fun q2 => ?_)
    · refine S_iconst (v := 0) dX7_fits_43 (by decide) ?_
      exact S_iretz rfl (by decide) dX7_fits_44 ⟨_, I, L, M, rfl, rfl, ((T.2 q1).2.1 q2)⟩
    · refine S_aload_n 0 dX7_fits_30 rfl rfl ?_
      refine S_getP f_RX7_15 s_142 p_142_1 dX7_fits_31 ?_
      refine S_iload 4 dX7_fits_34 rfl ?_
      refine S_iald s_144 ((T.2 q1).2.2 q2).1 dX7_fits_36 ?_
      refine S_iload 3 dX7_fits_37 rfl ?_
      refine S_iand dX7_fits_39 ?_
      refine S_if_eq (tgt := 45) dX7_fits_40 (by decide) (fun q3 => ?_) (fun q3 => ?_)
      · refine S_iload 3 dX7_fits_45 rfl ?_
        refine S_aload_n 1 dX7_fits_47 rfl rfl ?_
        refine S_iload 3 dX7_fits_48 rfl ?_
        refine S_iload_n 2 dX7_fits_50 rfl rfl ?_
        refine S_iload 4 dX7_fits_51 rfl ?_
        refine S_iadd dX7_fits_53 ?_
        refine S_callV [.int y4, .int (y3 + y5)] [.int y4] m_RX7_47 rfl rfl ho1.1 ⟨rfl, by decide⟩ (Nat.le_of_ble_eq_true rfl) (zroom_0 (by decide)) dX7_fits_54 (zCI_use (((T.2 q1).2.2 q2).2.1 q3) ?_)
        intro r1_4 I1_4 L1_4 M1_4 T1_4
        refine S_callSN [.int y4, .int r1_4] [] m_RX7_52 rfl rfl (Nat.le_of_ble_eq_true rfl) (zroom_0 (by decide)) dX7_fits_57 (zpure (sp_X10_without (I := I1_4) (L := L1_4) (M := M1_4) (d + 1) y4 r1_4) ?_)
        refine S_istore dX7_fits_60 (by decide) rfl ?_
        refine S_iinc 4 dX7_fits_62 rfl rfl (by decide) rfl ?_
        refine S_goto (tgt := 6) dX7_fits_65 (by decide) ?_
        exact S_sub [2, 3, 4, 1, 0] rfl T1_4
      · refine S_iconst (v := 0) dX7_fits_43 (by decide) ?_
        exact S_iretz rfl (by decide) dX7_fits_44 ⟨_, I, L, M, rfl, rfl, (((T.2 q1).2.2 q2).2.2 q3)⟩

set_option maxRecDepth 100000 in
theorem t_X7_gather {C : zC} {I : Nat → Nat → Int32} {L : Nat → Nat → Int64} {M : Nat → Nat → Option Nat} (d : Nat) {o1_n : Nat} {o1 : Nat} (x2 : Int32) (ho1 : zRo o1_n o1) (K : (Nat → Nat → Int32) → (Nat → Nat → Int64) → (Nat → Nat → Option Nat) → Prop) (T : zCV C Y_J7_fill_53178 (d + 1) [.ref 143, .int 0] (zmk I L M) (fun I1_1 L1_1 M1_1 => zCV C Y_J7_fill_53178 (d + 1) [.ref 144, .int 0] (zmk I1_1 L1_1 M1_1) (fun I2_1 L2_1 M2_1 => zSV C (zmk I L M) K Y_X7_gather (d + 2) 23 [(0, .ref 142), (1, .ref o1), (2, .int x2), (3, .int 0)] [] (u2 I2_1 142 2 0) L2_1 M2_1))) : zCV C Y_X7_gather (d + 2) [.ref 142, .ref o1, .int x2] (zmk I L M) K := by
  refine S_enter (by decide) (Nat.le_of_ble_eq_true rfl) ?_
  refine S_lv (lv' := [(0, .ref 142), (1, .ref o1), (2, .int x2)]) rfl ?_
  refine S_aload_n 0 dX7_gather_0 rfl rfl ?_
  refine S_getP f_RX7_9 s_142 p_142_0 dX7_gather_1 ?_
  refine S_iconst (v := 0) dX7_gather_4 (by decide) ?_
  refine S_callS [.ref 143, .int 0] [] m_RX7_18 rfl rfl (Nat.le_of_ble_eq_true rfl) (zroom_0 (by decide)) dX7_gather_5 (zCV_use T ?_)
  intro I1_1 L1_1 M1_1 T1_1
  refine S_aload_n 0 dX7_gather_8 rfl rfl ?_
  refine S_getP f_RX7_15 s_142 p_142_1 dX7_gather_9 ?_
  refine S_iconst (v := 0) dX7_gather_12 (by decide) ?_
  refine S_callS [.ref 144, .int 0] [] m_RX7_18 rfl rfl (Nat.le_of_ble_eq_true rfl) (zroom_0 (by decide)) dX7_gather_13 (zCV_use T1_1 ?_)
  intro I2_1 L2_1 M2_1 T2_1
  refine S_aload_n 0 dX7_gather_16 rfl rfl ?_
  refine S_iconst (v := 0) dX7_gather_17 (by decide) ?_
  refine S_putI f_RX7_24 s_142 (Or.inl rfl) rfl dX7_gather_18 ?_
  refine S_iconst (v := 0) dX7_gather_21 (by decide) ?_
  refine S_istore_n dX7_gather_22 rfl (by decide) rfl ?_
  exact S_sub [1, 2, 3, 0] rfl T2_1

set_option maxRecDepth 100000 in
theorem t_X7_gather_23 {C : zC} {I : Nat → Nat → Int32} {L : Nat → Nat → Int64} {M : Nat → Nat → Option Nat} {h0 : zH} (d : Nat) {o1_n : Nat} {o1 : Nat} (ho1 : zRo o1_n o1)  (y2 : Int32) (y3 : Int32) (K : (Nat → Nat → Int32) → (Nat → Nat → Int64) → (Nat → Nat → Option Nat) → Prop) (T : (((I o1 1) ≤ y3 → K I L M) ∧ (¬ ((I o1 1) ≤ y3) → vp_in y3 o1_n ∧ ((¬ (I ((o1 + 2 + y3.toNatClampNeg)) 0) = y2 → zSV C h0 K Y_X7_gather (d + 2) 23 [(0, .ref 142), (1, .ref o1), (2, .int y2), (3, .int (y3 + 1))] [] I L M) ∧ ((I ((o1 + 2 + y3.toNatClampNeg)) 0) = y2 → ((¬ (0 ≤ (I ((o1 + 2 + y3.toNatClampNeg)) 1) ∧ (I ((o1 + 2 + y3.toNatClampNeg)) 1) ≤ 12) → zSV C h0 K Y_X7_gather (d + 2) 23 [(0, .ref 142), (1, .ref o1), (2, .int y2), (3, .int (y3 + 1))] [] I L M) ∧ ((0 ≤ (I ((o1 + 2 + y3.toNatClampNeg)) 1) ∧ (I ((o1 + 2 + y3.toNatClampNeg)) 1) ≤ 12) → (((I ((o1 + 2 + y3.toNatClampNeg)) 3) = 0 → zSV C h0 K Y_X7_gather (d + 2) 77 [(0, .ref 142), (1, .ref o1), (2, .int y2), (3, .int y3), (4, .ref (o1 + 2 + y3.toNatClampNeg))] [.ref 144] I L M) ∧ (¬ ((I ((o1 + 2 + y3.toNatClampNeg)) 3) = 0) → zSV C h0 K Y_X7_gather (d + 2) 77 [(0, .ref 142), (1, .ref o1), (2, .int y2), (3, .int y3), (4, .ref (o1 + 2 + y3.toNatClampNeg))] [.ref 143] I L M))))))))) : zSV C h0 K Y_X7_gather (d + 2) 23 [(0, .ref 142), (1, .ref o1), (2, .int y2), (3, .int y3)] [] I L M := by
  refine S_iload_n 3 dX7_gather_23 rfl rfl ?_
  refine S_aload_n 1 dX7_gather_24 rfl rfl ?_
  refine S_getI f_RX7_28 ho1.1 dX7_gather_25 ?_
  refine S_icmp_ge (tgt := 116) dX7_gather_28 (by decide) (fun q1 => ?_) (fun q1 => ?_)
  · exact S_vret rfl dX7_gather_116 ⟨I, L, M, rfl, rfl, (T.1 q1)⟩
  · refine S_aload_n 1 dX7_gather_31 rfl rfl ?_
    refine S_getP f_RX7_33 ho1.1 ho1.2.1 dX7_gather_32 ?_
    refine S_iload_n 3 dX7_gather_35 rfl rfl ?_
    refine S_aald 0 (by decide) ho1.2.2.1 (T.2 q1).1 (ho1.2.2.2 _ (vp_lt (T.2 q1).1)).1 dX7_gather_36 ?_
    refine S_astore dX7_gather_37 (by decide) rfl ?_
    refine S_aload 0 dX7_gather_39 rfl ?_
    refine S_iconst (v := 0) dX7_gather_41 (by decide) ?_
    refine S_iald (ho1.2.2.2 _ (vp_lt (T.2 q1).1)).2 (by unfold vp_in; decide) dX7_gather_42 ?_
    refine S_iload_n 3 dX7_gather_43 rfl rfl ?_
    refine S_icmp_ne (tgt := 110) dX7_gather_44 (by decide) (fun q2 => ?_) (fun q2 => ?_)
    · refine S_iinc 4 dX7_gather_110 rfl rfl (by decide) rfl ?_
      refine S_goto (tgt := 23) dX7_gather_113 (by decide) ?_
      exact S_sub [2, 3, 4, 0] rfl ((T.2 q1).2.1 q2)
    · refine S_aload 0 dX7_gather_47 rfl ?_
      refine S_iconst (v := 1) dX7_gather_49 (by decide) ?_
      refine S_iald (ho1.2.2.2 _ (vp_lt (T.2 q1).1)).2 (by unfold vp_in; decide) dX7_gather_50 ?_
      refine S_bipush (v := 12) dX7_gather_51 (by decide) ?_
      refine S_callSN [.int (I ((o1 + 2 + y3.toNatClampNeg)) 1), .int 12] [] m_RX7_37 rfl rfl (Nat.le_of_ble_eq_true rfl) (zroom_0 (by decide)) dX7_gather_53 (zpure (sp_X10_isWithin (I := I) (L := L) (M := M) (d + 0) ((I ((o1 + 2 + y3.toNatClampNeg)) 1)) 12) ?_)
      refine S_if_eq (tgt := 110) dX7_gather_56 (by decide) (fun q3 => ?_) (fun q3 => ?_)
      · refine S_iinc 4 dX7_gather_110 rfl rfl (by decide) rfl ?_
        refine S_goto (tgt := 23) dX7_gather_113 (by decide) ?_
        exact S_sub [2, 3, 4, 0] rfl (((T.2 q1).2.2 q2).1 (zb_f q3))
      · refine S_aload 0 dX7_gather_59 rfl ?_
        refine S_iconst (v := 3) dX7_gather_61 (by decide) ?_
        refine S_iald (ho1.2.2.2 _ (vp_lt (T.2 q1).1)).2 (by unfold vp_in; decide) dX7_gather_62 ?_
        refine S_if_eq (tgt := 73) dX7_gather_63 (by decide) (fun q4 => ?_) (fun q4 => ?_)
        · refine S_aload_n 1 dX7_gather_73 rfl rfl ?_
          refine S_getP f_RX7_15 s_142 p_142_1 dX7_gather_74 ?_
          exact S_sub [1, 2, 3, 4, 0] rfl ((((T.2 q1).2.2 q2).2 (zb_t q3)).1 q4)
        · refine S_aload_n 1 dX7_gather_66 rfl rfl ?_
          refine S_getP f_RX7_9 s_142 p_142_0 dX7_gather_67 ?_
          refine S_goto (tgt := 77) dX7_gather_70 (by decide) ?_
          exact S_sub [1, 2, 3, 4, 0] rfl ((((T.2 q1).2.2 q2).2 (zb_t q3)).2 q4)

set_option maxRecDepth 100000 in
theorem t_X7_gather_77 {C : zC} {I : Nat → Nat → Int32} {L : Nat → Nat → Int64} {M : Nat → Nat → Option Nat} {h0 : zH} (d : Nat) {o1_n : Nat} {o1 : Nat} (ho1 : zRo o1_n o1) {a_l4 : Nat} (e_l4 : zsh a_l4 = (12, 4)) (y2 : Int32) (y3 : Int32) (K : (Nat → Nat → Int32) → (Nat → Nat → Int64) → (Nat → Nat → Option Nat) → Prop) (T : vp_in ((I a_l4 1)) 13 ∧ vp_in ((I a_l4 1)) 13 ∧ zSV C h0 K Y_X7_gather (d + 2) 23 [(0, .ref 142), (1, .ref o1), (2, .int y2), (3, .int (y3 + 1))] [] (u2 (u2 I 144 (((I a_l4 1)).toNatClampNeg) (((I 144 (((I a_l4 1)).toNatClampNeg)) ||| ((1 : Int32) <<< ((I a_l4 2) &&& 31))))) 142 2 ((if (I 142 2) < ((u2 I 144 (((I a_l4 1)).toNatClampNeg) (((I 144 (((I a_l4 1)).toNatClampNeg)) ||| ((1 : Int32) <<< ((I a_l4 2) &&& 31))))) a_l4 1) then ((u2 I 144 (((I a_l4 1)).toNatClampNeg) (((I 144 (((I a_l4 1)).toNatClampNeg)) ||| ((1 : Int32) <<< ((I a_l4 2) &&& 31))))) a_l4 1) else (I 142 2)))) L M) : zSV C h0 K Y_X7_gather (d + 2) 77 [(0, .ref 142), (1, .ref o1), (2, .int y2), (3, .int y3), (4, .ref a_l4)] [.ref 144] I L M := by
  refine S_astore dX7_gather_77 (by decide) rfl ?_
  refine S_aload 0 dX7_gather_79 rfl ?_
  refine S_aload 5 dX7_gather_81 rfl ?_
  refine S_iconst (v := 1) dX7_gather_83 (by decide) ?_
  refine S_iald e_l4 (by unfold vp_in; decide) dX7_gather_84 ?_
  refine S_dup2 dX7_gather_85 rfl rfl ?_
  refine S_iald s_144 T.1 dX7_gather_86 ?_
  refine S_iconst (v := 1) dX7_gather_87 (by decide) ?_
  refine S_aload 5 dX7_gather_88 rfl ?_
  refine S_iconst (v := 2) dX7_gather_90 (by decide) ?_
  refine S_iald e_l4 (by unfold vp_in; decide) dX7_gather_91 ?_
  refine S_ishl dX7_gather_92 ?_
  refine S_ior dX7_gather_93 ?_
  refine S_iast s_144 T.2.1 dX7_gather_94 ?_
  refine S_aload_n 1 dX7_gather_95 rfl rfl ?_
  refine S_aload_n 1 dX7_gather_96 rfl rfl ?_
  refine S_getI f_RX7_24 s_142 dX7_gather_97 ?_
  refine S_aload 5 dX7_gather_100 rfl ?_
  refine S_iconst (v := 1) dX7_gather_102 (by decide) ?_
  refine S_iald e_l4 (by unfold vp_in; decide) dX7_gather_103 ?_
  refine S_max m_RX7_41 o_maxs o_math o_maxc (Nat.le_of_ble_eq_true rfl) rfl ⟨Nat.le_refl _, Nat.le_refl _⟩ dX7_gather_104 ?_
  refine S_putI f_RX7_24 s_142 (Or.inl rfl) rfl dX7_gather_107 ?_
  refine S_iinc 4 dX7_gather_110 rfl rfl (by decide) rfl ?_
  refine S_goto (tgt := 23) dX7_gather_113 (by decide) ?_
  exact S_sub [2, 3, 4, 0] rfl T.2.2

set_option maxRecDepth 100000 in
theorem t_X9_become {C : zC} {I : Nat → Nat → Int32} {L : Nat → Nat → Int64} {M : Nat → Nat → Option Nat} (d : Nat) {o : Nat} (x1 : Int32) (x2 : Int32) (ho : zTa o) (K : (Nat → Nat → Int32) → (Nat → Nat → Int64) → (Nat → Nat → Option Nat) → Prop) (T : zCV C Y_J7_fill_d0a16 (d + 1) [.ref (o + 1), .long 0] (zmk (u2 (u2 I o 0 x1) o 1 x2) L M) (fun I1_1 L1_1 M1_1 => K I1_1 L1_1 M1_1)) : zCV C Y_X9_become (d + 2) [.ref o, .int x1, .int x2] (zmk I L M) K := by
  refine S_enter (by decide) (Nat.le_of_ble_eq_true rfl) ?_
  refine S_lv (lv' := [(0, .ref o), (1, .int x1), (2, .int x2)]) rfl ?_
  refine S_aload_n 0 dX9_become_0 rfl rfl ?_
  refine S_iload_n 1 dX9_become_1 rfl rfl ?_
  refine S_putI f_RX9_9 ho.1 (Or.inl rfl) rfl dX9_become_2 ?_
  refine S_aload_n 0 dX9_become_5 rfl rfl ?_
  refine S_iload_n 2 dX9_become_6 rfl rfl ?_
  refine S_putI f_RX9_19 ho.1 (Or.inl rfl) rfl dX9_become_7 ?_
  refine S_aload_n 0 dX9_become_10 rfl rfl ?_
  refine S_getP f_RX9_15 ho.1 ho.2.1 dX9_become_11 ?_
  refine S_lconst (v := 0) dX9_become_14 (by decide) ?_
  refine S_callS [.ref (o + 1), .long 0] [] m_RX9_22 rfl rfl (Nat.le_of_ble_eq_true rfl) (zroom_0 (by decide)) dX9_become_15 (zCV_use T ?_)
  intro I1_1 L1_1 M1_1 T1_1
  exact S_vret rfl dX9_become_18 ⟨I1_1, L1_1, M1_1, rfl, rfl, T1_1⟩

set_option maxRecDepth 100000 in
theorem t_X9_cut {C : zC} {I : Nat → Nat → Int32} {L : Nat → Nat → Int64} {M : Nat → Nat → Option Nat} (d : Nat) {o : Nat} (x1 : Int64) (ho : zTa o) (K : Int64 → (Nat → Nat → Int32) → (Nat → Nat → Int64) → (Nat → Nat → Option Nat) → Prop) (T : (((I o 0) = 0 → K (((((((x1 : Int64).toInt32) : Int32).toInt8.toInt32) : Int32).toInt64)) I L M) ∧ ((I o 0) = 1 → K (((((((x1 : Int64).toInt32) : Int32).toInt16.toInt32) : Int32).toInt64)) I L M) ∧ ((I o 0) = 2 → K (((((x1 : Int64).toInt32) : Int32).toInt64)) I L M) ∧ ((I o 0) = 3 → K x1 I L M) ∧ ((((I o 0) : Int32).toInt < 0 ∨ 3 < ((I o 0) : Int32).toInt) → (((lg_cmp x1 (0 : Int64)) = 0 → K 0 I L M) ∧ (¬ ((lg_cmp x1 (0 : Int64)) = 0) → K 1 I L M))))) : zCL C Y_X9_cut (d + 1) [.ref o, .long x1] (zmk I L M) K := by
  refine S_enter (by decide) (Nat.le_of_ble_eq_true rfl) ?_
  refine S_lv (lv' := [(0, .ref o), (1, .long x1)]) rfl ?_
  refine S_aload_n 0 dX9_cut_0 rfl rfl ?_
  refine S_getI f_RX9_9 ho.1 dX9_cut_1 ?_
  rcases ztab0_4 ((I o 0)) with q1 | q1 | q1 | q1 | q1
  · refine S_tabK (tgt := 36) dX9_cut_4 q1 (by decide) (by decide) (off := 32) rfl (by decide) ?_
    refine S_lload_n 1 dX9_cut_36 rfl rfl ?_
    refine S_l2i dX9_cut_37 ?_
    refine S_i2b dX9_cut_38 ?_
    refine S_i2l dX9_cut_39 ?_
    exact S_lret rfl dX9_cut_40 ⟨_, I, L, M, rfl, rfl, (T.1 q1)⟩
  · refine S_tabK (tgt := 41) dX9_cut_4 q1 (by decide) (by decide) (off := 37) rfl (by decide) ?_
    refine S_lload_n 1 dX9_cut_41 rfl rfl ?_
    refine S_l2i dX9_cut_42 ?_
    refine S_i2s dX9_cut_43 ?_
    refine S_i2l dX9_cut_44 ?_
    exact S_lret rfl dX9_cut_45 ⟨_, I, L, M, rfl, rfl, (T.2.1 q1)⟩
  · refine S_tabK (tgt := 46) dX9_cut_4 q1 (by decide) (by decide) (off := 42) rfl (by decide) ?_
    refine S_lload_n 1 dX9_cut_46 rfl rfl ?_
    refine S_l2i dX9_cut_47 ?_
    refine S_i2l dX9_cut_48 ?_
    exact S_lret rfl dX9_cut_49 ⟨_, I, L, M, rfl, rfl, (T.2.2.1 q1)⟩
  · refine S_tabK (tgt := 50) dX9_cut_4 q1 (by decide) (by decide) (off := 46) rfl (by decide) ?_
    refine S_lload_n 1 dX9_cut_50 rfl rfl ?_
    exact S_lret rfl dX9_cut_51 ⟨_, I, L, M, rfl, rfl, (T.2.2.2.1 q1)⟩
  · refine S_tabOut (tgt := 52) dX9_cut_4 q1 (by decide) ?_
    refine S_lload_n 1 dX9_cut_52 rfl rfl ?_
    refine S_lconst (v := 0) dX9_cut_53 (by decide) ?_
    refine S_lcmp dX9_cut_54 ?_
    refine S_if_eq (tgt := 62) dX9_cut_55 (by decide) (fun q2 => ?_) (fun q2 => ?_)
    · refine S_lconst (v := 0) dX9_cut_62 (by decide) ?_
      exact S_lret rfl dX9_cut_63 ⟨_, I, L, M, rfl, rfl, ((T.2.2.2.2 q1).1 q2)⟩
    · refine S_lconst (v := 1) dX9_cut_58 (by decide) ?_
      refine S_goto (tgt := 63) dX9_cut_59 (by decide) ?_
      exact S_lret rfl dX9_cut_63 ⟨_, I, L, M, rfl, rfl, ((T.2.2.2.2 q1).2 q2)⟩

set_option maxRecDepth 100000 in
theorem t_J0_charAt_5068e {C : zC} {I : Nat → Nat → Int32} {L : Nat → Nat → Int64} {M : Nat → Nat → Option Nat} (d : Nat) {i : Nat} (x1 : Int32) (hi : i < 10) (K : Int32 → (Nat → Nat → Int32) → (Nat → Nat → Int64) → (Nat → Nat → Option Nat) → Prop) (T : zCI C Y_J0_isLatin1_aae02 (d + 4) [.ref (1000010 + i)] (zmk I L M) (fun r1_1 I1_1 L1_1 M1_1 => ((r1_1 = 0 → False) ∧ (¬ (r1_1 = 0) → zCI C Y_J1_charAt_3b067 (d + 4) [.ref (1000030 + i), .int x1] (zmk I1_1 L1_1 M1_1) (fun r2_2 I2_2 L2_2 M2_2 => (narrow .char (.int r2_2) = .int r2_2 ∧ K r2_2 I2_2 L2_2 M2_2)))))) : zCI C Y_J0_charAt_5068e (d + 5) [.ref (1000010 + i), .int x1] (zmk I L M) K := by
  refine S_enter (by decide) (Nat.le_of_ble_eq_true rfl) ?_
  refine S_lv (lv' := [(0, .ref (1000010 + i)), (1, .int x1)]) rfl ?_
  refine S_aload_n 0 dJ0_charAt_5068e_0 rfl rfl ?_
  refine S_callT i hi [] [] m_RJ0_492 rfl rfl rfl (Nat.le_of_ble_eq_true rfl) (zroom_0 (by decide)) dJ0_charAt_5068e_1 (zCI_use T ?_)
  intro r1_1 I1_1 L1_1 M1_1 T1_1
  refine S_if_eq (tgt := 16) dJ0_charAt_5068e_4 (by decide) (fun q1 => ?_) (fun q1 => ?_)
  · refine S_aload_n 0 dJ0_charAt_5068e_16 rfl rfl ?_
    refine S_st_value i hi g_RJ0_9 dJ0_charAt_5068e_17 ?_
    refine S_iload_n 1 dJ0_charAt_5068e_20 rfl rfl ?_
    exact False.elim (T1_1.1 q1)
  · refine S_aload_n 0 dJ0_charAt_5068e_7 rfl rfl ?_
    refine S_st_value i hi g_RJ0_9 dJ0_charAt_5068e_8 ?_
    refine S_iload_n 1 dJ0_charAt_5068e_11 rfl rfl ?_
    refine S_callS [.ref (1000030 + i), .int x1] [] m_RJ0_495 rfl rfl (Nat.le_of_ble_eq_true rfl) (zroom_0 (by decide)) dJ0_charAt_5068e_12 (zCI_use (T1_1.2 q1) ?_)
    intro r2_2 I2_2 L2_2 M2_2 T2_2
    exact S_iretn rfl T2_2.1 dJ0_charAt_5068e_15 ⟨_, I2_2, L2_2, M2_2, rfl, rfl, T2_2.2⟩

set_option maxRecDepth 100000 in
theorem t_J0_checkBoundsBeginEnd_23922 {C : zC} {I : Nat → Nat → Int32} {L : Nat → Nat → Int64} {M : Nat → Nat → Option Nat} (d : Nat) (x0 : Int32) (x1 : Int32) (x2 : Int32)  (K : (Nat → Nat → Int32) → (Nat → Nat → Int64) → (Nat → Nat → Option Nat) → Prop) (T : (∀ vf : Value, (vf = .null ∨ vf = .ref 1000003) → zCI C Y_J3_checkFromToIndex_8c36e (d + 1) [.int x0, .int x1, .int x2, vf] (zmk I L M) (fun r1_1 I1_1 L1_1 M1_1 => K I1_1 L1_1 M1_1))) : zCV C Y_J0_checkBoundsBeginEnd_23922 (d + 2) [.int x0, .int x1, .int x2] (zmk I L M) K := by
  refine S_enter (by decide) (Nat.le_of_ble_eq_true rfl) ?_
  refine S_lv (lv' := [(0, .int x0), (1, .int x1), (2, .int x2)]) rfl ?_
  refine S_iload_n 0 dJ0_checkBoundsBeginEnd_23922_0 rfl rfl ?_
  refine S_iload_n 1 dJ0_checkBoundsBeginEnd_23922_1 rfl rfl ?_
  refine S_iload_n 2 dJ0_checkBoundsBeginEnd_23922_2 rfl rfl ?_
  refine S_sioobe g_RJ0_1053 dJ0_checkBoundsBeginEnd_23922_3 (fun vf hvf => ?_)
  refine S_callS [.int x0, .int x1, .int x2, vf] [] m_RJ0_1062 rfl rfl (Nat.le_of_ble_eq_true rfl) (zroom_0 (by decide)) dJ0_checkBoundsBeginEnd_23922_6 (zCI_use (T vf hvf) ?_)
  intro r1_1 I1_1 L1_1 M1_1 T1_1
  refine S_pop dJ0_checkBoundsBeginEnd_23922_9 rfl ?_
  exact S_vret rfl dJ0_checkBoundsBeginEnd_23922_10 ⟨I1_1, L1_1, M1_1, rfl, rfl, T1_1⟩

set_option maxRecDepth 100000 in
theorem t_J0_checkIndex_df160 {C : zC} {I : Nat → Nat → Int32} {L : Nat → Nat → Int64} {M : Nat → Nat → Option Nat} (d : Nat) (x0 : Int32) (x1 : Int32)  (K : (Nat → Nat → Int32) → (Nat → Nat → Int64) → (Nat → Nat → Option Nat) → Prop) (T : (∀ vf : Value, (vf = .null ∨ vf = .ref 1000003) → zCI C Y_J3_checkIndex_8e157 (d + 1) [.int x0, .int x1, vf] (zmk I L M) (fun r1_1 I1_1 L1_1 M1_1 => K I1_1 L1_1 M1_1))) : zCV C Y_J0_checkIndex_df160 (d + 2) [.int x0, .int x1] (zmk I L M) K := by
  refine S_enter (by decide) (Nat.le_of_ble_eq_true rfl) ?_
  refine S_lv (lv' := [(0, .int x0), (1, .int x1)]) rfl ?_
  refine S_iload_n 0 dJ0_checkIndex_df160_0 rfl rfl ?_
  refine S_iload_n 1 dJ0_checkIndex_df160_1 rfl rfl ?_
  refine S_sioobe g_RJ0_1053 dJ0_checkIndex_df160_2 (fun vf hvf => ?_)
  refine S_callS [.int x0, .int x1, vf] [] m_RJ0_1059 rfl rfl (Nat.le_of_ble_eq_true rfl) (zroom_0 (by decide)) dJ0_checkIndex_df160_5 (zCI_use (T vf hvf) ?_)
  intro r1_1 I1_1 L1_1 M1_1 T1_1
  refine S_pop dJ0_checkIndex_df160_8 rfl ?_
  exact S_vret rfl dJ0_checkIndex_df160_9 ⟨I1_1, L1_1, M1_1, rfl, rfl, T1_1⟩

set_option maxRecDepth 100000 in
theorem t_J0_coder_7d493 {C : zC} {I : Nat → Nat → Int32} {L : Nat → Nat → Int64} {M : Nat → Nat → Option Nat} (d : Nat) {i : Nat} (hi : i < 10) (K : Int32 → (Nat → Nat → Int32) → (Nat → Nat → Int64) → (Nat → Nat → Option Nat) → Prop) (T : (((1 : Int32) = 0 → (narrow .byte (.int 1) = .int 1 ∧ K 1 I L M)) ∧ (¬ ((1 : Int32) = 0) → (narrow .byte (.int 0) = .int 0 ∧ K 0 I L M)))) : zCI C Y_J0_coder_7d493 (d + 1) [.ref (1000010 + i)] (zmk I L M) K := by
  refine S_enter (by decide) (Nat.le_of_ble_eq_true rfl) ?_
  refine S_lv (lv' := [(0, .ref (1000010 + i))]) rfl ?_
  refine S_compact g_RJ0_38 dJ0_coder_7d493_0 ?_
  refine S_if_eq (tgt := 13) dJ0_coder_7d493_3 (by decide) (fun q1 => ?_) (fun q1 => ?_)
  · refine S_iconst (v := 1) dJ0_coder_7d493_13 (by decide) ?_
    exact S_iretn rfl (T.1 q1).1 dJ0_coder_7d493_14 ⟨_, I, L, M, rfl, rfl, (T.1 q1).2⟩
  · refine S_aload_n 0 dJ0_coder_7d493_6 rfl rfl ?_
    refine S_st_coder i hi g_RJ0_15 dJ0_coder_7d493_7 ?_
    refine S_goto (tgt := 14) dJ0_coder_7d493_10 (by decide) ?_
    exact S_iretn rfl (T.2 q1).1 dJ0_coder_7d493_14 ⟨_, I, L, M, rfl, rfl, (T.2 q1).2⟩

set_option maxRecDepth 100000 in
theorem t_J0_indexOf_0f7a4 {C : zC} {I : Nat → Nat → Int32} {L : Nat → Nat → Int64} {M : Nat → Nat → Option Nat} (d : Nat) {i : Nat} (x1 : Int32) (hi : i < 10) (K : Int32 → (Nat → Nat → Int32) → (Nat → Nat → Int64) → (Nat → Nat → Option Nat) → Prop) (T : zCI C Y_J0_indexOf_7cf53 (d + 6) [.ref (1000010 + i), .int x1, .int 0] (zmk I L M) (fun r1_1 I1_1 L1_1 M1_1 => K r1_1 I1_1 L1_1 M1_1)) : zCI C Y_J0_indexOf_0f7a4 (d + 7) [.ref (1000010 + i), .int x1] (zmk I L M) K := by
  refine S_enter (by decide) (Nat.le_of_ble_eq_true rfl) ?_
  refine S_lv (lv' := [(0, .ref (1000010 + i)), (1, .int x1)]) rfl ?_
  refine S_aload_n 0 dJ0_indexOf_0f7a4_0 rfl rfl ?_
  refine S_iload_n 1 dJ0_indexOf_0f7a4_1 rfl rfl ?_
  refine S_iconst (v := 0) dJ0_indexOf_0f7a4_2 (by decide) ?_
  refine S_callT i hi [.int x1, .int 0] [] m_RJ0_633 rfl rfl rfl (Nat.le_of_ble_eq_true rfl) (zroom_0 (by decide)) dJ0_indexOf_0f7a4_3 (zCI_use T ?_)
  intro r1_1 I1_1 L1_1 M1_1 T1_1
  exact S_ireti rfl dJ0_indexOf_0f7a4_6 ⟨_, I1_1, L1_1, M1_1, rfl, rfl, T1_1⟩

set_option maxRecDepth 100000 in
theorem t_J0_indexOf_7cf53 {C : zC} {I : Nat → Nat → Int32} {L : Nat → Nat → Int64} {M : Nat → Nat → Option Nat} (d : Nat) {i : Nat} (x1 : Int32) (x2 : Int32) (hi : i < 10) (K : Int32 → (Nat → Nat → Int32) → (Nat → Nat → Int64) → (Nat → Nat → Option Nat) → Prop) (T : zCI C Y_J0_isLatin1_aae02 (d + 5) [.ref (1000010 + i)] (zmk I L M) (fun r1_1 I1_1 L1_1 M1_1 => ((r1_1 = 0 → zCI C Y_J0_length_8abf5 (d + 5) [.ref (1000010 + i)] (zmk I1_1 L1_1 M1_1) (fun r2_2 I2_2 L2_2 M2_2 => False)) ∧ (¬ (r1_1 = 0) → zCI C Y_J0_length_8abf5 (d + 5) [.ref (1000010 + i)] (zmk I1_1 L1_1 M1_1) (fun r3_2 I3_2 L3_2 M3_2 => zCI C Y_J1_indexOf_4cfef (d + 5) [.ref (1000030 + i), .int x1, .int x2, .int r3_2] (zmk I3_2 L3_2 M3_2) (fun r4_2 I4_2 L4_2 M4_2 => K r4_2 I4_2 L4_2 M4_2)))))) : zCI C Y_J0_indexOf_7cf53 (d + 6) [.ref (1000010 + i), .int x1, .int x2] (zmk I L M) K := by
  refine S_enter (by decide) (Nat.le_of_ble_eq_true rfl) ?_
  refine S_lv (lv' := [(0, .ref (1000010 + i)), (1, .int x1), (2, .int x2)]) rfl ?_
  refine S_aload_n 0 dJ0_indexOf_7cf53_0 rfl rfl ?_
  refine S_callT i hi [] [] m_RJ0_492 rfl rfl rfl (Nat.le_of_ble_eq_true rfl) (zroom_0 (by decide)) dJ0_indexOf_7cf53_1 (zCI_use T ?_)
  intro r1_1 I1_1 L1_1 M1_1 T1_1
  refine S_if_eq (tgt := 23) dJ0_indexOf_7cf53_4 (by decide) (fun q1 => ?_) (fun q1 => ?_)
  · refine S_aload_n 0 dJ0_indexOf_7cf53_23 rfl rfl ?_
    refine S_st_value i hi g_RJ0_9 dJ0_indexOf_7cf53_24 ?_
    refine S_iload_n 1 dJ0_indexOf_7cf53_27 rfl rfl ?_
    refine S_iload_n 2 dJ0_indexOf_7cf53_28 rfl rfl ?_
    refine S_aload_n 0 dJ0_indexOf_7cf53_29 rfl rfl ?_
    refine S_callT i hi [] [.int x2, .int x1, .ref (1000030 + i)] m_RJ0_505 rfl rfl rfl (Nat.le_of_ble_eq_true rfl) (zroom_0 (by decide)) dJ0_indexOf_7cf53_30 (zCI_use (T1_1.1 q1) ?_)
    intro r2_2 I2_2 L2_2 M2_2 T2_2
    exact False.elim T2_2
  · refine S_aload_n 0 dJ0_indexOf_7cf53_7 rfl rfl ?_
    refine S_st_value i hi g_RJ0_9 dJ0_indexOf_7cf53_8 ?_
    refine S_iload_n 1 dJ0_indexOf_7cf53_11 rfl rfl ?_
    refine S_iload_n 2 dJ0_indexOf_7cf53_12 rfl rfl ?_
    refine S_aload_n 0 dJ0_indexOf_7cf53_13 rfl rfl ?_
    refine S_callT i hi [] [.int x2, .int x1, .ref (1000030 + i)] m_RJ0_505 rfl rfl rfl (Nat.le_of_ble_eq_true rfl) (zroom_0 (by decide)) dJ0_indexOf_7cf53_14 (zCI_use (T1_1.2 q1) ?_)
    intro r3_2 I3_2 L3_2 M3_2 T3_2
    refine S_callS [.ref (1000030 + i), .int x1, .int x2, .int r3_2] [] m_RJ0_637 rfl rfl (Nat.le_of_ble_eq_true rfl) (zroom_0 (by decide)) dJ0_indexOf_7cf53_17 (zCI_use T3_2 ?_)
    intro r4_2 I4_2 L4_2 M4_2 T4_2
    refine S_goto (tgt := 36) dJ0_indexOf_7cf53_20 (by decide) ?_
    exact S_ireti rfl dJ0_indexOf_7cf53_36 ⟨_, I4_2, L4_2, M4_2, rfl, rfl, T4_2⟩

set_option maxRecDepth 100000 in
theorem t_J0_isLatin1_aae02 {C : zC} {I : Nat → Nat → Int32} {L : Nat → Nat → Int64} {M : Nat → Nat → Option Nat} (d : Nat) {i : Nat} (hi : i < 10) (K : Int32 → (Nat → Nat → Int32) → (Nat → Nat → Int64) → (Nat → Nat → Option Nat) → Prop) (T : (((1 : Int32) = 0 → K 0 I L M) ∧ (¬ ((1 : Int32) = 0) → ((¬ (0 : Int32) = 0 → K 0 I L M) ∧ ((0 : Int32) = 0 → K 1 I L M))))) : zCI C Y_J0_isLatin1_aae02 (d + 1) [.ref (1000010 + i)] (zmk I L M) K := by
  refine S_enter (by decide) (Nat.le_of_ble_eq_true rfl) ?_
  refine S_lv (lv' := [(0, .ref (1000010 + i))]) rfl ?_
  refine S_compact g_RJ0_38 dJ0_isLatin1_aae02_0 ?_
  refine S_if_eq (tgt := 17) dJ0_isLatin1_aae02_3 (by decide) (fun q1 => ?_) (fun q1 => ?_)
  · refine S_iconst (v := 0) dJ0_isLatin1_aae02_17 (by decide) ?_
    exact S_iretz rfl (by decide) dJ0_isLatin1_aae02_18 ⟨_, I, L, M, rfl, rfl, (T.1 q1)⟩
  · refine S_aload_n 0 dJ0_isLatin1_aae02_6 rfl rfl ?_
    refine S_st_coder i hi g_RJ0_15 dJ0_isLatin1_aae02_7 ?_
    refine S_if_ne (tgt := 17) dJ0_isLatin1_aae02_10 (by decide) (fun q2 => ?_) (fun q2 => ?_)
    · refine S_iconst (v := 0) dJ0_isLatin1_aae02_17 (by decide) ?_
      exact S_iretz rfl (by decide) dJ0_isLatin1_aae02_18 ⟨_, I, L, M, rfl, rfl, ((T.2 q1).1 q2)⟩
    · refine S_iconst (v := 1) dJ0_isLatin1_aae02_13 (by decide) ?_
      refine S_goto (tgt := 18) dJ0_isLatin1_aae02_14 (by decide) ?_
      exact S_iretz rfl (by decide) dJ0_isLatin1_aae02_18 ⟨_, I, L, M, rfl, rfl, ((T.2 q1).2 q2)⟩

set_option maxRecDepth 100000 in
theorem t_J0_length_8abf5 {C : zC} {I : Nat → Nat → Int32} {L : Nat → Nat → Int64} {M : Nat → Nat → Option Nat} (d : Nat) {i : Nat} (hi : i < 10) (K : Int32 → (Nat → Nat → Int32) → (Nat → Nat → Int64) → (Nat → Nat → Option Nat) → Prop) (T : zCI C Y_J0_coder_7d493 (d + 1) [.ref (1000010 + i)] (zmk I L M) (fun r1_1 I1_1 L1_1 M1_1 => K (((Int32.ofNat (zsBy.getD i []).length) >>> (r1_1 &&& 31))) I1_1 L1_1 M1_1)) : zCI C Y_J0_length_8abf5 (d + 2) [.ref (1000010 + i)] (zmk I L M) K := by
  refine S_enter (by decide) (Nat.le_of_ble_eq_true rfl) ?_
  refine S_lv (lv' := [(0, .ref (1000010 + i))]) rfl ?_
  refine S_aload_n 0 dJ0_length_8abf5_0 rfl rfl ?_
  refine S_st_value i hi g_RJ0_9 dJ0_length_8abf5_1 ?_
  refine S_st_len i hi rfl dJ0_length_8abf5_4 ?_
  refine S_aload_n 0 dJ0_length_8abf5_5 rfl rfl ?_
  refine S_callT i hi [] [.int (Int32.ofNat (zsBy.getD i []).length)] m_RJ0_335 rfl rfl rfl (Nat.le_of_ble_eq_true rfl) (zroom_0 (by decide)) dJ0_length_8abf5_6 (zCI_use T ?_)
  intro r1_1 I1_1 L1_1 M1_1 T1_1
  refine S_ishr dJ0_length_8abf5_9 ?_
  exact S_ireti rfl dJ0_length_8abf5_10 ⟨_, I1_1, L1_1, M1_1, rfl, rfl, T1_1⟩

set_option maxRecDepth 100000 in
theorem t_J1_canEncode_9a6ad {C : zC} {I : Nat → Nat → Int32} {L : Nat → Nat → Int64} {M : Nat → Nat → Option Nat} (d : Nat) (x0 : Int32)  (K : Int32 → (Nat → Nat → Int32) → (Nat → Nat → Int64) → (Nat → Nat → Option Nat) → Prop) (T : ((x0 < 0 → K 0 I L M) ∧ (¬ (x0 < 0) → ((255 < x0 → K 0 I L M) ∧ (¬ (255 < x0) → K 1 I L M))))) : zCI C Y_J1_canEncode_9a6ad (d + 1) [.int x0] (zmk I L M) K := by
  refine S_enter (by decide) (Nat.le_of_ble_eq_true rfl) ?_
  refine S_lv (lv' := [(0, .int x0)]) rfl ?_
  refine S_iload_n 0 dJ1_canEncode_9a6ad_0 rfl rfl ?_
  refine S_if_lt (tgt := 15) dJ1_canEncode_9a6ad_1 (by decide) (fun q1 => ?_) (fun q1 => ?_)
  · refine S_iconst (v := 0) dJ1_canEncode_9a6ad_15 (by decide) ?_
    exact S_iretz rfl (by decide) dJ1_canEncode_9a6ad_16 ⟨_, I, L, M, rfl, rfl, (T.1 q1)⟩
  · refine S_iload_n 0 dJ1_canEncode_9a6ad_4 rfl rfl ?_
    refine S_sipush (v := 255) dJ1_canEncode_9a6ad_5 (by decide) ?_
    refine S_icmp_gt (tgt := 15) dJ1_canEncode_9a6ad_8 (by decide) (fun q2 => ?_) (fun q2 => ?_)
    · refine S_iconst (v := 0) dJ1_canEncode_9a6ad_15 (by decide) ?_
      exact S_iretz rfl (by decide) dJ1_canEncode_9a6ad_16 ⟨_, I, L, M, rfl, rfl, ((T.2 q1).1 q2)⟩
    · refine S_iconst (v := 1) dJ1_canEncode_9a6ad_11 (by decide) ?_
      refine S_goto (tgt := 16) dJ1_canEncode_9a6ad_12 (by decide) ?_
      exact S_iretz rfl (by decide) dJ1_canEncode_9a6ad_16 ⟨_, I, L, M, rfl, rfl, ((T.2 q1).2 q2)⟩

set_option maxRecDepth 100000 in
theorem t_J1_charAt_3b067 {C : zC} {I : Nat → Nat → Int32} {L : Nat → Nat → Int64} {M : Nat → Nat → Option Nat} (d : Nat) {i : Nat} (x1 : Int32) (hi : i < 10) (K : Int32 → (Nat → Nat → Int32) → (Nat → Nat → Int64) → (Nat → Nat → Option Nat) → Prop) (T : zCV C Y_J0_checkIndex_df160 (d + 2) [.int x1, .int (Int32.ofNat (zsBy.getD i []).length)] (zmk I L M) (fun I1_1 L1_1 M1_1 => vp_in x1 (zsBy.getD i []).length ∧ (narrow .char (.int ((((((zsBy.getD i []).getD x1.toNatClampNeg 0) &&& (255 : Int32)) : Int32).toUInt32 % 65536).toInt32)) = .int ((((((zsBy.getD i []).getD x1.toNatClampNeg 0) &&& (255 : Int32)) : Int32).toUInt32 % 65536).toInt32) ∧ K (((((((zsBy.getD i []).getD x1.toNatClampNeg 0) &&& (255 : Int32)) : Int32).toUInt32 % 65536).toInt32)) I1_1 L1_1 M1_1))) : zCI C Y_J1_charAt_3b067 (d + 3) [.ref (1000030 + i), .int x1] (zmk I L M) K := by
  refine S_enter (by decide) (Nat.le_of_ble_eq_true rfl) ?_
  refine S_lv (lv' := [(0, .ref (1000030 + i)), (1, .int x1)]) rfl ?_
  refine S_iload_n 1 dJ1_charAt_3b067_0 rfl rfl ?_
  refine S_aload_n 0 dJ1_charAt_3b067_1 rfl rfl ?_
  refine S_st_len i hi rfl dJ1_charAt_3b067_2 ?_
  refine S_callS [.int x1, .int (Int32.ofNat (zsBy.getD i []).length)] [] m_RJ1_9 rfl rfl (Nat.le_of_ble_eq_true rfl) (zroom_0 (by decide)) dJ1_charAt_3b067_3 (zCV_use T ?_)
  intro I1_1 L1_1 M1_1 T1_1
  refine S_aload_n 0 dJ1_charAt_3b067_6 rfl rfl ?_
  refine S_iload_n 1 dJ1_charAt_3b067_7 rfl rfl ?_
  refine S_st_ld i hi T1_1.1 dJ1_charAt_3b067_8 ?_
  refine S_sipush (v := 255) dJ1_charAt_3b067_9 (by decide) ?_
  refine S_iand dJ1_charAt_3b067_12 ?_
  refine S_i2c dJ1_charAt_3b067_13 ?_
  exact S_iretn rfl T1_1.2.1 dJ1_charAt_3b067_14 ⟨_, I1_1, L1_1, M1_1, rfl, rfl, T1_1.2.2⟩

set_option maxRecDepth 100000 in
theorem t_J1_indexOfChar_4cfef {C : zC} {I : Nat → Nat → Int32} {L : Nat → Nat → Int64} {M : Nat → Nat → Option Nat} (d : Nat) {i : Nat} (x1 : Int32) (x2 : Int32) (x3 : Int32) (hi : i < 10) (K : Int32 → (Nat → Nat → Int32) → (Nat → Nat → Int64) → (Nat → Nat → Option Nat) → Prop) (T : zSI C (zmk I L M) K Y_J1_indexOfChar_4cfef (d + 1) 7 [(0, .ref (1000030 + i)), (3, .int x3), (4, .int ((x1 : Int32).toInt8.toInt32)), (5, .int x2)] [] I L M) : zCI C Y_J1_indexOfChar_4cfef (d + 1) [.ref (1000030 + i), .int x1, .int x2, .int x3] (zmk I L M) K := by
  refine S_enter (by decide) (Nat.le_of_ble_eq_true rfl) ?_
  refine S_lv (lv' := [(0, .ref (1000030 + i)), (1, .int x1), (2, .int x2), (3, .int x3)]) rfl ?_
  refine S_iload_n 1 dJ1_indexOfChar_4cfef_0 rfl rfl ?_
  refine S_i2b dJ1_indexOfChar_4cfef_1 ?_
  refine S_istore dJ1_indexOfChar_4cfef_2 (by decide) rfl ?_
  refine S_iload_n 3 dJ1_indexOfChar_4cfef_4 rfl rfl ?_
  refine S_istore dJ1_indexOfChar_4cfef_5 (by decide) rfl ?_
  exact S_sub [2, 5, 1, 0] rfl T

set_option maxRecDepth 100000 in
theorem t_J1_indexOfChar_4cfef_7 {C : zC} {I : Nat → Nat → Int32} {L : Nat → Nat → Int64} {M : Nat → Nat → Option Nat} {h0 : zH} (d : Nat) {i : Nat} (hi : i < 10)  (y3 : Int32) (y4 : Int32) (y5 : Int32) (K : Int32 → (Nat → Nat → Int32) → (Nat → Nat → Int64) → (Nat → Nat → Option Nat) → Prop) (T : ((y3 ≤ y5 → K ((-1)) I L M) ∧ (¬ (y3 ≤ y5) → vp_in y5 (zsBy.getD i []).length ∧ ((¬ ((zsBy.getD i []).getD y5.toNatClampNeg 0) = y4 → zSI C h0 K Y_J1_indexOfChar_4cfef (d + 1) 7 [(0, .ref (1000030 + i)), (3, .int y3), (4, .int y4), (5, .int (y5 + 1))] [] I L M) ∧ (((zsBy.getD i []).getD y5.toNatClampNeg 0) = y4 → K y5 I L M))))) : zSI C h0 K Y_J1_indexOfChar_4cfef (d + 1) 7 [(0, .ref (1000030 + i)), (3, .int y3), (4, .int y4), (5, .int y5)] [] I L M := by
  refine S_iload 3 dJ1_indexOfChar_4cfef_7 rfl ?_
  refine S_iload_n 1 dJ1_indexOfChar_4cfef_9 rfl rfl ?_
  refine S_icmp_ge (tgt := 31) dJ1_indexOfChar_4cfef_10 (by decide) (fun q1 => ?_) (fun q1 => ?_)
  · refine S_iconst (v := -1) dJ1_indexOfChar_4cfef_31 (by decide) ?_
    exact S_ireti rfl dJ1_indexOfChar_4cfef_32 ⟨_, I, L, M, rfl, rfl, (T.1 q1)⟩
  · refine S_aload_n 0 dJ1_indexOfChar_4cfef_13 rfl rfl ?_
    refine S_iload 3 dJ1_indexOfChar_4cfef_14 rfl ?_
    refine S_st_ld i hi (T.2 q1).1 dJ1_indexOfChar_4cfef_16 ?_
    refine S_iload 2 dJ1_indexOfChar_4cfef_17 rfl ?_
    refine S_icmp_ne (tgt := 25) dJ1_indexOfChar_4cfef_19 (by decide) (fun q2 => ?_) (fun q2 => ?_)
    · refine S_iinc 3 dJ1_indexOfChar_4cfef_25 rfl rfl (by decide) rfl ?_
      refine S_goto (tgt := 7) dJ1_indexOfChar_4cfef_28 (by decide) ?_
      exact S_sub [1, 2, 3, 0] rfl ((T.2 q1).2.1 q2)
    · refine S_iload 3 dJ1_indexOfChar_4cfef_22 rfl ?_
      exact S_ireti rfl dJ1_indexOfChar_4cfef_24 ⟨_, I, L, M, rfl, rfl, ((T.2 q1).2.2 q2)⟩

set_option maxRecDepth 100000 in
theorem t_J1_indexOf_4cfef {C : zC} {I : Nat → Nat → Int32} {L : Nat → Nat → Int64} {M : Nat → Nat → Option Nat} (d : Nat) {i : Nat} (x1 : Int32) (x2 : Int32) (x3 : Int32) (hi : i < 10) (K : Int32 → (Nat → Nat → Int32) → (Nat → Nat → Int64) → (Nat → Nat → Option Nat) → Prop) (T : zCI C Y_J1_canEncode_9a6ad (d + 1) [.int x1] (zmk I L M) (fun r1_1 I1_1 L1_1 M1_1 => ((¬ r1_1 = 0 → (((if x2 < 0 then 0 else x2) < (if (Int32.ofNat (zsBy.getD i []).length) < x3 then (Int32.ofNat (zsBy.getD i []).length) else x3) → zCI C Y_J1_indexOfChar_4cfef (d + 1) [.ref (1000030 + i), .int x1, .int (if x2 < 0 then 0 else x2), .int (if (Int32.ofNat (zsBy.getD i []).length) < x3 then (Int32.ofNat (zsBy.getD i []).length) else x3)] (zmk I1_1 L1_1 M1_1) (fun r2_3 I2_3 L2_3 M2_3 => K r2_3 I2_3 L2_3 M2_3)) ∧ (¬ ((if x2 < 0 then 0 else x2) < (if (Int32.ofNat (zsBy.getD i []).length) < x3 then (Int32.ofNat (zsBy.getD i []).length) else x3)) → K ((-1)) I1_1 L1_1 M1_1))) ∧ (r1_1 = 0 → K ((-1)) I1_1 L1_1 M1_1)))) : zCI C Y_J1_indexOf_4cfef (d + 2) [.ref (1000030 + i), .int x1, .int x2, .int x3] (zmk I L M) K := by
  refine S_enter (by decide) (Nat.le_of_ble_eq_true rfl) ?_
  refine S_lv (lv' := [(0, .ref (1000030 + i)), (1, .int x1), (2, .int x2), (3, .int x3)]) rfl ?_
  refine S_iload_n 1 dJ1_indexOf_4cfef_0 rfl rfl ?_
  refine S_callS [.int x1] [] m_RJ1_88 rfl rfl (Nat.le_of_ble_eq_true rfl) (zroom_0 (by decide)) dJ1_indexOf_4cfef_1 (zCI_use T ?_)
  intro r1_1 I1_1 L1_1 M1_1 T1_1
  refine S_if_ne (tgt := 9) dJ1_indexOf_4cfef_4 (by decide) (fun q1 => ?_) (fun q1 => ?_)
  · refine S_iload_n 2 dJ1_indexOf_4cfef_9 rfl rfl ?_
    refine S_iconst (v := 0) dJ1_indexOf_4cfef_10 (by decide) ?_
    refine S_max m_RJ1_92 o_maxs o_math o_maxc (Nat.le_of_ble_eq_true rfl) rfl ⟨Nat.le_refl _, Nat.le_refl _⟩ dJ1_indexOf_4cfef_11 ?_
    refine S_istore_n dJ1_indexOf_4cfef_14 rfl (by decide) rfl ?_
    refine S_iload_n 3 dJ1_indexOf_4cfef_15 rfl rfl ?_
    refine S_aload_n 1 dJ1_indexOf_4cfef_16 rfl rfl ?_
    refine S_st_len i hi rfl dJ1_indexOf_4cfef_17 ?_
    refine S_min m_RJ1_38 o_mins o_math o_minc (Nat.le_of_ble_eq_true rfl) rfl ⟨Nat.le_refl _, Nat.le_refl _⟩ dJ1_indexOf_4cfef_18 ?_
    refine S_istore_n dJ1_indexOf_4cfef_21 rfl (by decide) rfl ?_
    refine S_iload_n 1 dJ1_indexOf_4cfef_22 rfl rfl ?_
    refine S_iload_n 0 dJ1_indexOf_4cfef_23 rfl rfl ?_
    refine S_icmp_lt (tgt := 29) dJ1_indexOf_4cfef_24 (by decide) (fun q2 => ?_) (fun q2 => ?_)
    · refine S_aload_n 2 dJ1_indexOf_4cfef_29 rfl rfl ?_
      refine S_iload_n 3 dJ1_indexOf_4cfef_30 rfl rfl ?_
      refine S_iload_n 1 dJ1_indexOf_4cfef_31 rfl rfl ?_
      refine S_iload_n 0 dJ1_indexOf_4cfef_32 rfl rfl ?_
      refine S_callS [.ref (1000030 + i), .int x1, .int (if x2 < 0 then 0 else x2), .int (if (Int32.ofNat (zsBy.getD i []).length) < x3 then (Int32.ofNat (zsBy.getD i []).length) else x3)] [] m_RJ1_95 rfl rfl (Nat.le_of_ble_eq_true rfl) (zroom_0 (by decide)) dJ1_indexOf_4cfef_33 (zCI_use ((T1_1.1 q1).1 q2) ?_)
      intro r2_3 I2_3 L2_3 M2_3 T2_3
      exact S_ireti rfl dJ1_indexOf_4cfef_36 ⟨_, I2_3, L2_3, M2_3, rfl, rfl, T2_3⟩
    · refine S_iconst (v := -1) dJ1_indexOf_4cfef_27 (by decide) ?_
      exact S_ireti rfl dJ1_indexOf_4cfef_28 ⟨_, I1_1, L1_1, M1_1, rfl, rfl, ((T1_1.1 q1).2 q2)⟩
  · refine S_iconst (v := -1) dJ1_indexOf_4cfef_7 (by decide) ?_
    exact S_ireti rfl dJ1_indexOf_4cfef_8 ⟨_, I1_1, L1_1, M1_1, rfl, rfl, (T1_1.2 q1)⟩

set_option maxRecDepth 100000 in
theorem t_J3_checkFromToIndex_8c36e {C : zC} {I : Nat → Nat → Int32} {L : Nat → Nat → Int64} {M : Nat → Nat → Option Nat} (d : Nat) (x0 : Int32) (x1 : Int32) (x2 : Int32) {vf : Value} (hvf : vf = .null ∨ vf = .ref 1000003) (K : Int32 → (Nat → Nat → Int32) → (Nat → Nat → Int64) → (Nat → Nat → Option Nat) → Prop) (T : ((x0 < 0 → False) ∧ (¬ (x0 < 0) → ((x1 < x0 → False) ∧ (¬ (x1 < x0) → ((x1 ≤ x2 → K x0 I L M) ∧ (¬ (x1 ≤ x2) → False))))))) : zCI C Y_J3_checkFromToIndex_8c36e (d + 1) [.int x0, .int x1, .int x2, vf] (zmk I L M) K := by
  refine S_enter (by decide) (by rcases hvf with rfl | rfl <;> exact Nat.le_of_ble_eq_true rfl) ?_
  refine S_lv (lv' := [(0, .int x0), (1, .int x1), (2, .int x2), (3, vf)]) rfl ?_
  refine S_iload_n 0 dJ3_checkFromToIndex_8c36e_0 rfl rfl ?_
  refine S_if_lt (tgt := 14) dJ3_checkFromToIndex_8c36e_1 (by decide) (fun q1 => ?_) (fun q1 => ?_)
  · exact False.elim (T.1 q1)
  · refine S_iload_n 0 dJ3_checkFromToIndex_8c36e_4 rfl rfl ?_
    refine S_iload_n 1 dJ3_checkFromToIndex_8c36e_5 rfl rfl ?_
    refine S_icmp_gt (tgt := 14) dJ3_checkFromToIndex_8c36e_6 (by decide) (fun q2 => ?_) (fun q2 => ?_)
    · exact False.elim ((T.2 q1).1 q2)
    · refine S_iload_n 1 dJ3_checkFromToIndex_8c36e_9 rfl rfl ?_
      refine S_iload_n 2 dJ3_checkFromToIndex_8c36e_10 rfl rfl ?_
      refine S_icmp_le (tgt := 22) dJ3_checkFromToIndex_8c36e_11 (by decide) (fun q3 => ?_) (fun q3 => ?_)
      · refine S_iload_n 0 dJ3_checkFromToIndex_8c36e_22 rfl rfl ?_
        exact S_ireti rfl dJ3_checkFromToIndex_8c36e_23 ⟨_, I, L, M, rfl, rfl, (((T.2 q1).2 q2).1 q3)⟩
      · exact False.elim (((T.2 q1).2 q2).2 q3)

set_option maxRecDepth 100000 in
theorem t_J3_checkIndex_8e157 {C : zC} {I : Nat → Nat → Int32} {L : Nat → Nat → Int64} {M : Nat → Nat → Option Nat} (d : Nat) (x0 : Int32) (x1 : Int32) {vf : Value} (hvf : vf = .null ∨ vf = .ref 1000003) (K : Int32 → (Nat → Nat → Int32) → (Nat → Nat → Int64) → (Nat → Nat → Option Nat) → Prop) (T : ((x0 < 0 → False) ∧ (¬ (x0 < 0) → ((x0 < x1 → K x0 I L M) ∧ (¬ (x0 < x1) → False))))) : zCI C Y_J3_checkIndex_8e157 (d + 1) [.int x0, .int x1, vf] (zmk I L M) K := by
  refine S_enter (by decide) (by rcases hvf with rfl | rfl <;> exact Nat.le_of_ble_eq_true rfl) ?_
  refine S_lv (lv' := [(0, .int x0), (1, .int x1), (2, vf)]) rfl ?_
  refine S_iload_n 0 dJ3_checkIndex_8e157_0 rfl rfl ?_
  refine S_if_lt (tgt := 9) dJ3_checkIndex_8e157_1 (by decide) (fun q1 => ?_) (fun q1 => ?_)
  · exact False.elim (T.1 q1)
  · refine S_iload_n 0 dJ3_checkIndex_8e157_4 rfl rfl ?_
    refine S_iload_n 1 dJ3_checkIndex_8e157_5 rfl rfl ?_
    refine S_icmp_lt (tgt := 16) dJ3_checkIndex_8e157_6 (by decide) (fun q2 => ?_) (fun q2 => ?_)
    · refine S_iload_n 0 dJ3_checkIndex_8e157_16 rfl rfl ?_
      exact S_ireti rfl dJ3_checkIndex_8e157_17 ⟨_, I, L, M, rfl, rfl, ((T.2 q1).1 q2)⟩
    · exact False.elim ((T.2 q1).2 q2)

set_option maxRecDepth 100000 in
theorem t_J7_fill_53178 {C : zC} {I : Nat → Nat → Int32} {L : Nat → Nat → Int64} {M : Nat → Nat → Option Nat} (d : Nat) {a a_n : Nat} (x1 : Int32) (ha : zsh a = (12, a_n)) (K : (Nat → Nat → Int32) → (Nat → Nat → Int64) → (Nat → Nat → Option Nat) → Prop) (T : zSV C (zmk I L M) K Y_J7_fill_53178 (d + 1) 5 [(0, .ref a), (1, .int x1), (2, .int 0), (3, .int (Int32.ofNat a_n))] [] I L M) : zCV C Y_J7_fill_53178 (d + 1) [.ref a, .int x1] (zmk I L M) K := by
  refine S_enter (by decide) (Nat.le_of_ble_eq_true rfl) ?_
  refine S_lv (lv' := [(0, .ref a), (1, .int x1)]) rfl ?_
  refine S_iconst (v := 0) dJ7_fill_53178_0 (by decide) ?_
  refine S_istore_n dJ7_fill_53178_1 rfl (by decide) rfl ?_
  refine S_aload_n 1 dJ7_fill_53178_2 rfl rfl ?_
  refine S_alen_i (v := (Int32.ofNat a_n)) ha rfl dJ7_fill_53178_3 ?_
  refine S_istore_n dJ7_fill_53178_4 rfl (by decide) rfl ?_
  exact S_sub [2, 3, 1, 0] rfl T

set_option maxRecDepth 100000 in
theorem t_J7_fill_53178_5 {C : zC} {I : Nat → Nat → Int32} {L : Nat → Nat → Int64} {M : Nat → Nat → Option Nat} {h0 : zH} (d : Nat) {a a_n : Nat} (ha : zsh a = (12, a_n))  (y1 : Int32) (y2 : Int32) (y3 : Int32) (K : (Nat → Nat → Int32) → (Nat → Nat → Int64) → (Nat → Nat → Option Nat) → Prop) (T : ((y3 ≤ y2 → K I L M) ∧ (¬ (y3 ≤ y2) → vp_in y2 a_n ∧ zSV C h0 K Y_J7_fill_53178 (d + 1) 5 [(0, .ref a), (1, .int y1), (2, .int (y2 + 1)), (3, .int y3)] [] (u2 I a y2.toNatClampNeg y1) L M))) : zSV C h0 K Y_J7_fill_53178 (d + 1) 5 [(0, .ref a), (1, .int y1), (2, .int y2), (3, .int y3)] [] I L M := by
  refine S_iload_n 2 dJ7_fill_53178_5 rfl rfl ?_
  refine S_iload_n 3 dJ7_fill_53178_6 rfl rfl ?_
  refine S_icmp_ge (tgt := 20) dJ7_fill_53178_7 (by decide) (fun q1 => ?_) (fun q1 => ?_)
  · exact S_vret rfl dJ7_fill_53178_20 ⟨I, L, M, rfl, rfl, (T.1 q1)⟩
  · refine S_aload_n 0 dJ7_fill_53178_10 rfl rfl ?_
    refine S_iload_n 2 dJ7_fill_53178_11 rfl rfl ?_
    refine S_iload_n 1 dJ7_fill_53178_12 rfl rfl ?_
    refine S_iast ha (T.2 q1).1 dJ7_fill_53178_13 ?_
    refine S_iinc 2 dJ7_fill_53178_14 rfl rfl (by decide) rfl ?_
    refine S_goto (tgt := 5) dJ7_fill_53178_17 (by decide) ?_
    exact S_sub [1, 2, 0, 3] rfl (T.2 q1).2

set_option maxRecDepth 100000 in
theorem t_J7_fill_d0a16 {C : zC} {I : Nat → Nat → Int32} {L : Nat → Nat → Int64} {M : Nat → Nat → Option Nat} (d : Nat) {a a_n : Nat} (x1 : Int64) (ha : zsh a = (13, a_n)) (K : (Nat → Nat → Int32) → (Nat → Nat → Int64) → (Nat → Nat → Option Nat) → Prop) (T : zSV C (zmk I L M) K Y_J7_fill_d0a16 (d + 1) 6 [(0, .ref a), (1, .long x1), (3, .int 0), (4, .int (Int32.ofNat a_n))] [] I L M) : zCV C Y_J7_fill_d0a16 (d + 1) [.ref a, .long x1] (zmk I L M) K := by
  refine S_enter (by decide) (Nat.le_of_ble_eq_true rfl) ?_
  refine S_lv (lv' := [(0, .ref a), (1, .long x1)]) rfl ?_
  refine S_iconst (v := 0) dJ7_fill_d0a16_0 (by decide) ?_
  refine S_istore_n dJ7_fill_d0a16_1 rfl (by decide) rfl ?_
  refine S_aload_n 1 dJ7_fill_d0a16_2 rfl rfl ?_
  refine S_alen_l (v := (Int32.ofNat a_n)) ha rfl dJ7_fill_d0a16_3 ?_
  refine S_istore dJ7_fill_d0a16_4 (by decide) rfl ?_
  exact S_sub [2, 3, 1, 0] rfl T

set_option maxRecDepth 100000 in
theorem t_J7_fill_d0a16_6 {C : zC} {I : Nat → Nat → Int32} {L : Nat → Nat → Int64} {M : Nat → Nat → Option Nat} {h0 : zH} (d : Nat) {a a_n : Nat} (ha : zsh a = (13, a_n))  (y1 : Int64) (y3 : Int32) (y4 : Int32) (K : (Nat → Nat → Int32) → (Nat → Nat → Int64) → (Nat → Nat → Option Nat) → Prop) (T : ((y4 ≤ y3 → K I L M) ∧ (¬ (y4 ≤ y3) → vp_in y3 a_n ∧ zSV C h0 K Y_J7_fill_d0a16 (d + 1) 6 [(0, .ref a), (1, .long y1), (3, .int (y3 + 1)), (4, .int y4)] [] I (u2 L a y3.toNatClampNeg y1) M))) : zSV C h0 K Y_J7_fill_d0a16 (d + 1) 6 [(0, .ref a), (1, .long y1), (3, .int y3), (4, .int y4)] [] I L M := by
  refine S_iload_n 2 dJ7_fill_d0a16_6 rfl rfl ?_
  refine S_iload 3 dJ7_fill_d0a16_7 rfl ?_
  refine S_icmp_ge (tgt := 22) dJ7_fill_d0a16_9 (by decide) (fun q1 => ?_) (fun q1 => ?_)
  · exact S_vret rfl dJ7_fill_d0a16_22 ⟨I, L, M, rfl, rfl, (T.1 q1)⟩
  · refine S_aload_n 0 dJ7_fill_d0a16_12 rfl rfl ?_
    refine S_iload_n 2 dJ7_fill_d0a16_13 rfl rfl ?_
    refine S_lload_n 1 dJ7_fill_d0a16_14 rfl rfl ?_
    refine S_last ha (T.2 q1).1 dJ7_fill_d0a16_15 ?_
    refine S_iinc 2 dJ7_fill_d0a16_16 rfl rfl (by decide) rfl ?_
    refine S_goto (tgt := 6) dJ7_fill_d0a16_19 (by decide) ?_
    exact S_sub [1, 2, 0, 3] rfl (T.2 q1).2

