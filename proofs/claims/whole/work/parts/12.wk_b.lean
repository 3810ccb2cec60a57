set_option maxRecDepth 100000 in
theorem t_X3_learn {C : zC} {I : Nat → Nat → Int32} {L : Nat → Nat → Int64} {M : Nat → Nat → Option Nat} (d : Nat) {o : Nat} (x1 : Int32) (x2 : Int32) (x3 : Int32) (ho : zLu o) (K : (Nat → Nat → Int32) → (Nat → Nat → Int64) → (Nat → Nat → Option Nat) → Prop) (T : (∃ r1_1 : Nat, (M o 1) = some r1_1 ∧ zGu r1_1 ∧ (∃ r2_1 : Nat, (M o 1) = some r2_1 ∧ zGu r2_1 ∧ (∃ r3_1 : Nat, (M o 1) = some r3_1 ∧ zGu r3_1 ∧ K (u2 (u2 (u2 (u2 (u2 (u2 I ((o + 14)) 0 ((I r1_1 0))) ((o + 14)) 1 (((u2 I ((o + 14)) 0 ((I r1_1 0))) r2_1 1))) ((o + 14)) 2 (((u2 (u2 I ((o + 14)) 0 ((I r1_1 0))) ((o + 14)) 1 (((u2 I ((o + 14)) 0 ((I r1_1 0))) r2_1 1))) r3_1 2))) ((o + 14)) 3 x1) ((o + 14)) 4 x2) ((o + 14)) 5 ((x3 - x3 / 10 * 10))) L M)))) : zCV C Y_X3_learn (d + 1) [.ref o, .int x1, .int x2, .int x3] (zmk I L M) K := by
  refine S_enter (by decide) (Nat.le_of_ble_eq_true rfl) ?_
  refine S_lv (lv' := [(0, .ref o), (1, .int x1), (2, .int x2), (3, .int x3)]) rfl ?_
  refine S_aload_n 0 dX3_learn_0 rfl rfl ?_
  refine S_getP f_RX3_23 ho.1 ho.2.2.2.2.1 dX3_learn_1 ?_
  refine S_iconst (v := 0) dX3_learn_4 (by decide) ?_
  refine S_aload_n 0 dX3_learn_5 rfl rfl ?_
  obtain ⟨r1_1, e1_1, w1_1, T1_1⟩ := T
  refine S_getM f_RX3_30 ho.1 e1_1 dX3_learn_6 ?_
  refine S_getI f_RX3_78 w1_1.1 dX3_learn_9 ?_
  refine S_iast ho.2.2.2.2.2.2.2.2.1 (by unfold vp_in; decide) dX3_learn_12 ?_
  refine S_aload_n 0 dX3_learn_13 rfl rfl ?_
  refine S_getP f_RX3_23 ho.1 ho.2.2.2.2.1 dX3_learn_14 ?_
  refine S_iconst (v := 1) dX3_learn_17 (by decide) ?_
  refine S_aload_n 0 dX3_learn_18 rfl rfl ?_
  obtain ⟨r2_1, e2_1, w2_1, T2_1⟩ := T1_1
  refine S_getM f_RX3_30 ho.1 e2_1 dX3_learn_19 ?_
  refine S_getI f_RX3_65 w2_1.1 dX3_learn_22 ?_
  refine S_iast ho.2.2.2.2.2.2.2.2.1 (by unfold vp_in; decide) dX3_learn_25 ?_
  refine S_aload_n 0 dX3_learn_26 rfl rfl ?_
  refine S_getP f_RX3_23 ho.1 ho.2.2.2.2.1 dX3_learn_27 ?_
  refine S_iconst (v := 2) dX3_learn_30 (by decide) ?_
  refine S_aload_n 0 dX3_learn_31 rfl rfl ?_
  obtain ⟨r3_1, e3_1, w3_1, T3_1⟩ := T2_1
  refine S_getM f_RX3_30 ho.1 e3_1 dX3_learn_32 ?_
  refine S_getI f_RX3_59 w3_1.1 dX3_learn_35 ?_
  refine S_iast ho.2.2.2.2.2.2.2.2.1 (by unfold vp_in; decide) dX3_learn_38 ?_
  refine S_aload_n 0 dX3_learn_39 rfl rfl ?_
  refine S_getP f_RX3_23 ho.1 ho.2.2.2.2.1 dX3_learn_40 ?_
  refine S_iconst (v := 3) dX3_learn_43 (by decide) ?_
  refine S_iload_n 1 dX3_learn_44 rfl rfl ?_
  refine S_iast ho.2.2.2.2.2.2.2.2.1 (by unfold vp_in; decide) dX3_learn_45 ?_
  refine S_aload_n 0 dX3_learn_46 rfl rfl ?_
  refine S_getP f_RX3_23 ho.1 ho.2.2.2.2.1 dX3_learn_47 ?_
  refine S_iconst (v := 4) dX3_learn_50 (by decide) ?_
  refine S_iload_n 2 dX3_learn_51 rfl rfl ?_
  refine S_iast ho.2.2.2.2.2.2.2.2.1 (by unfold vp_in; decide) dX3_learn_52 ?_
  refine S_aload_n 0 dX3_learn_53 rfl rfl ?_
  refine S_getP f_RX3_23 ho.1 ho.2.2.2.2.1 dX3_learn_54 ?_
  refine S_iconst (v := 5) dX3_learn_57 (by decide) ?_
  refine S_iload_n 3 dX3_learn_58 rfl rfl ?_
  refine S_bipush (v := 10) dX3_learn_59 (by decide) ?_
  refine S_irem dX3_learn_61 (by decide) ?_
  refine S_iast ho.2.2.2.2.2.2.2.2.1 (by unfold vp_in; decide) dX3_learn_62 ?_
  exact S_vret rfl dX3_learn_63 ⟨u2 (u2 (u2 (u2 (u2 (u2 I ((o + 14)) 0 ((I r1_1 0))) ((o + 14)) 1 (((u2 I ((o + 14)) 0 ((I r1_1 0))) r2_1 1))) ((o + 14)) 2 (((u2 (u2 I ((o + 14)) 0 ((I r1_1 0))) ((o + 14)) 1 (((u2 I ((o + 14)) 0 ((I r1_1 0))) r2_1 1))) r3_1 2))) ((o + 14)) 3 x1) ((o + 14)) 4 x2) ((o + 14)) 5 ((x3 - x3 / 10 * 10)), L, M, rfl, rfl, T3_1⟩

set_option maxRecDepth 100000 in
theorem t_X3_prey {C : zC} {I : Nat → Nat → Int32} {L : Nat → Nat → Int64} {M : Nat → Nat → Option Nat} (d : Nat) {o : Nat} (x1 : Int32) (x2 : Int32) (ho : zLu o) (K : Int32 → (Nat → Nat → Int32) → (Nat → Nat → Int64) → (Nat → Nat → Option Nat) → Prop) (T : (∃ r1_1 : Nat, (M o 1) = some r1_1 ∧ zGu r1_1 ∧ (((I r1_1 5) = 0 → K ((-5)) I L M) ∧ (¬ ((I r1_1 5) = 0) → ((0 ≤ (x2 - x2 / 10 * 10) → vp_in ((x2 - x2 / 10 * 10)) 10 ∧ ((0 ≤ (I ((o + 12)) (((x2 - x2 / 10 * 10)).toNatClampNeg)) → zSI C (zmk I L M) K Y_X3_prey (d + 4) 39 [(0, .ref o), (1, .int x1), (3, .int (x2 - x2 / 10 * 10)), (4, .int 0)] [] I L M) ∧ (¬ (0 ≤ (I ((o + 12)) (((x2 - x2 / 10 * 10)).toNatClampNeg))) → zCV C Y_X3_rank (d + 3) [.ref o, .int (x2 - x2 / 10 * 10)] (zmk I L M) (fun I2_4 L2_4 M2_4 => zSI C (zmk I L M) K Y_X3_prey (d + 4) 39 [(0, .ref o), (1, .int x1), (3, .int (x2 - x2 / 10 * 10)), (4, .int 0)] [] I2_4 L2_4 M2_4)))) ∧ (¬ (0 ≤ (x2 - x2 / 10 * 10)) → K ((-5)) I L M)))))) : zCI C Y_X3_prey (d + 4) [.ref o, .int x1, .int x2] (zmk I L M) K := by
  refine S_enter (by decide) (Nat.le_of_ble_eq_true rfl) ?_
  refine S_lv (lv' := [(0, .ref o), (1, .int x1), (2, .int x2)]) rfl ?_
  refine S_iload_n 2 dX3_prey_0 rfl rfl ?_
  refine S_bipush (v := 10) dX3_prey_1 (by decide) ?_
  refine S_irem dX3_prey_3 (by decide) ?_
  refine S_istore_n dX3_prey_4 rfl (by decide) rfl ?_
  refine S_aload_n 1 dX3_prey_5 rfl rfl ?_
  obtain ⟨r1_1, e1_1, w1_1, T1_1⟩ := T
  refine S_getM f_RX3_30 ho.1 e1_1 dX3_prey_6 ?_
  refine S_getI f_RX3_81 w1_1.1 dX3_prey_9 ?_
  refine S_if_eq (tgt := 19) dX3_prey_12 (by decide) (fun q1 => ?_) (fun q1 => ?_)
  · refine S_bipush (v := -5) dX3_prey_19 (by decide) ?_
    exact S_ireti rfl dX3_prey_21 ⟨_, I, L, M, rfl, rfl, (T1_1.1 q1)⟩
  · refine S_iload_n 0 dX3_prey_15 rfl rfl ?_
    refine S_if_ge (tgt := 22) dX3_prey_16 (by decide) (fun q2 => ?_) (fun q2 => ?_)
    · refine S_aload_n 1 dX3_prey_22 rfl rfl ?_
      refine S_getP f_RX3_16 ho.1 ho.2.2.1 dX3_prey_23 ?_
      refine S_iload_n 0 dX3_prey_26 rfl rfl ?_
      refine S_iald ho.2.2.2.2.2.2.1 ((T1_1.2 q1).1 q2).1 dX3_prey_27 ?_
      refine S_if_ge (tgt := 36) dX3_prey_28 (by decide) (fun q3 => ?_) (fun q3 => ?_)
      · refine S_iconst (v := 0) dX3_prey_36 (by decide) ?_
        refine S_istore dX3_prey_37 (by decide) rfl ?_
        exact S_sub [2, 3, 1, 0] rfl (((T1_1.2 q1).1 q2).2.1 q3)
      · refine S_aload_n 1 dX3_prey_31 rfl rfl ?_
        refine S_iload_n 0 dX3_prey_32 rfl rfl ?_
        refine S_callV [.int (x2 - x2 / 10 * 10)] [] m_RX3_85 rfl rfl ho.1 ⟨rfl, by decide⟩ (Nat.le_of_ble_eq_true rfl) (zroom_0 (by decide)) dX3_prey_33 (zCV_use (((T1_1.2 q1).1 q2).2.2 q3) ?_)
        intro I2_4 L2_4 M2_4 T2_4
        refine S_iconst (v := 0) dX3_prey_36 (by decide) ?_
        refine S_istore dX3_prey_37 (by decide) rfl ?_
        exact S_sub [2, 3, 1, 0] rfl T2_4
    · refine S_bipush (v := -5) dX3_prey_19 (by decide) ?_
      exact S_ireti rfl dX3_prey_21 ⟨_, I, L, M, rfl, rfl, ((T1_1.2 q1).2 q2)⟩

set_option maxRecDepth 100000 in
theorem t_X3_prey_39 {C : zC} {I : Nat → Nat → Int32} {L : Nat → Nat → Int64} {M : Nat → Nat → Option Nat} {h0 : zH} (d : Nat) {o : Nat} (ho : zLu o)  (y1 : Int32) (y3 : Int32) (y4 : Int32) (K : Int32 → (Nat → Nat → Int32) → (Nat → Nat → Int64) → (Nat → Nat → Option Nat) → Prop) (T : vp_in y3 10 ∧ (((I ((o + 12)) y3.toNatClampNeg) ≤ y4 → K ((-5)) I L M) ∧ (¬ ((I ((o + 12)) y3.toNatClampNeg) ≤ y4) → vp_in y3 10 ∧ vp_in y4 12 ∧ ((¬ (zhas y1 ((I ((o + 2 + y3.toNatClampNeg)) y4.toNatClampNeg))) → zSI C h0 K Y_X3_prey (d + 4) 39 [(0, .ref o), (1, .int y1), (3, .int y3), (4, .int (y4 + 1))] [] I L M) ∧ ((zhas y1 ((I ((o + 2 + y3.toNatClampNeg)) y4.toNatClampNeg))) → vp_in y3 10 ∧ vp_in y4 12 ∧ K ((I ((o + 2 + y3.toNatClampNeg)) y4.toNatClampNeg)) I L M))))) : zSI C h0 K Y_X3_prey (d + 4) 39 [(0, .ref o), (1, .int y1), (3, .int y3), (4, .int y4)] [] I L M := by
  refine S_iload 3 dX3_prey_39 rfl ?_
  refine S_aload_n 0 dX3_prey_41 rfl rfl ?_
  refine S_getP f_RX3_16 ho.1 ho.2.2.1 dX3_prey_42 ?_
  refine S_iload_n 2 dX3_prey_45 rfl rfl ?_
  refine S_iald ho.2.2.2.2.2.2.1 T.1 dX3_prey_46 ?_
  refine S_icmp_ge (tgt := 82) dX3_prey_47 (by decide) (fun q1 => ?_) (fun q1 => ?_)
  · refine S_bipush (v := -5) dX3_prey_82 (by decide) ?_
    exact S_ireti rfl dX3_prey_84 ⟨_, I, L, M, rfl, rfl, (T.2.1 q1)⟩
  · refine S_iload_n 1 dX3_prey_50 rfl rfl ?_
    refine S_aload_n 0 dX3_prey_51 rfl rfl ?_
    refine S_getP f_RX3_11 ho.1 ho.2.1 dX3_prey_52 ?_
    refine S_iload_n 2 dX3_prey_55 rfl rfl ?_
    refine S_aald 0 (by decide) ho.2.2.2.2.2.1 (T.2.2 q1).1 (ho.2.2.2.2.2.2.2.2.2 _ (vp_lt (T.2.2 q1).1)).1 dX3_prey_56 ?_
    refine S_iload 3 dX3_prey_57 rfl ?_
    refine S_iald (ho.2.2.2.2.2.2.2.2.2 _ (vp_lt (T.2.2 q1).1)).2 (T.2.2 q1).2.1 dX3_prey_59 ?_
    refine S_callSN [.int y1, .int (I ((o + 2 + y3.toNatClampNeg)) y4.toNatClampNeg)] [] m_RX3_71 rfl rfl (Nat.le_of_ble_eq_true rfl) (zroom_0 (by decide)) dX3_prey_60 (zpure (sp_X10_has (I := I) (L := L) (M := M) (d + 2) y1 ((I ((o + 2 + y3.toNatClampNeg)) y4.toNatClampNeg))) ?_)
    refine S_if_eq (tgt := 76) dX3_prey_63 (by decide) (fun q2 => ?_) (fun q2 => ?_)
    · refine S_iinc 3 dX3_prey_76 rfl rfl (by decide) rfl ?_
      refine S_goto (tgt := 39) dX3_prey_79 (by decide) ?_
      exact S_sub [1, 2, 3, 0] rfl ((T.2.2 q1).2.2.1 (zb_f q2))
    · refine S_aload_n 0 dX3_prey_66 rfl rfl ?_
      refine S_getP f_RX3_11 ho.1 ho.2.1 dX3_prey_67 ?_
      refine S_iload_n 2 dX3_prey_70 rfl rfl ?_
      refine S_aald 0 (by decide) ho.2.2.2.2.2.1 ((T.2.2 q1).2.2.2 (zb_t q2)).1 (ho.2.2.2.2.2.2.2.2.2 _ (vp_lt ((T.2.2 q1).2.2.2 (zb_t q2)).1)).1 dX3_prey_71 ?_
      refine S_iload 3 dX3_prey_72 rfl ?_
      refine S_iald (ho.2.2.2.2.2.2.2.2.2 _ (vp_lt ((T.2.2 q1).2.2.2 (zb_t q2)).1)).2 ((T.2.2 q1).2.2.2 (zb_t q2)).2.1 dX3_prey_74 ?_
      exact S_ireti rfl dX3_prey_75 ⟨_, I, L, M, rfl, rfl, ((T.2.2 q1).2.2.2 (zb_t q2)).2.2⟩

set_option maxRecDepth 100000 in
theorem t_X3_rank {C : zC} {I : Nat → Nat → Int32} {L : Nat → Nat → Int64} {M : Nat → Nat → Option Nat} (d : Nat) {o : Nat} (x1 : Int32) (ho : zLu o) (K : (Nat → Nat → Int32) → (Nat → Nat → Int64) → (Nat → Nat → Option Nat) → Prop) (T : vp_in x1 10 ∧ zSV C (zmk I L M) K Y_X3_rank (d + 3) 12 [(0, .ref o), (1, .int x1), (2, .ref (o + 2 + x1.toNatClampNeg)), (3, .int 0), (4, .int 0)] [] I L M) : zCV C Y_X3_rank (d + 3) [.ref o, .int x1] (zmk I L M) K := by
  refine S_enter (by decide) (Nat.le_of_ble_eq_true rfl) ?_
  refine S_lv (lv' := [(0, .ref o), (1, .int x1)]) rfl ?_
  refine S_aload_n 0 dX3_rank_0 rfl rfl ?_
  refine S_getP f_RX3_11 ho.1 ho.2.1 dX3_rank_1 ?_
  refine S_iload_n 1 dX3_rank_4 rfl rfl ?_
  refine S_aald 0 (by decide) ho.2.2.2.2.2.1 T.1 (ho.2.2.2.2.2.2.2.2.2 _ (vp_lt T.1)).1 dX3_rank_5 ?_
  refine S_astore_n dX3_rank_6 rfl (by decide) rfl ?_
  refine S_iconst (v := 0) dX3_rank_7 (by decide) ?_
  refine S_istore_n dX3_rank_8 rfl (by decide) rfl ?_
  refine S_iconst (v := 0) dX3_rank_9 (by decide) ?_
  refine S_istore dX3_rank_10 (by decide) rfl ?_
  exact S_sub [3, 4, 2, 1, 0] rfl T.2

set_option maxRecDepth 100000 in
theorem t_X3_rank_12 {C : zC} {I : Nat → Nat → Int32} {L : Nat → Nat → Int64} {M : Nat → Nat → Option Nat} {h0 : zH} (d : Nat) {o : Nat} (ho : zLu o) {a_l2 : Nat} (e_l2 : zsh a_l2 = (12, 12)) (y1 : Int32) (y3 : Int32) (y4 : Int32) (K : (Nat → Nat → Int32) → (Nat → Nat → Int64) → (Nat → Nat → Option Nat) → Prop) (T : ((12 ≤ y4 → vp_in y1 10 ∧ K (u2 I ((o + 12)) y1.toNatClampNeg y3) L M) ∧ (¬ (12 ≤ y4) → zCI C Y_X3_tempts (d + 2) [.ref o, .int y4, .int y1] (zmk I L M) (fun r1_2 I1_2 L1_2 M1_2 => ((r1_2 ≤ 0 → zSV C h0 K Y_X3_rank (d + 3) 12 [(0, .ref o), (1, .int y1), (2, .ref a_l2), (3, .int y3), (4, .int (y4 + 1))] [] I1_2 L1_2 M1_2) ∧ (¬ (r1_2 ≤ 0) → zSV C h0 K Y_X3_rank (d + 3) 36 [(0, .ref o), (1, .int y1), (2, .ref a_l2), (3, .int y3), (4, .int y4), (5, .int r1_2), (6, .int y3)] [] I1_2 L1_2 M1_2)))))) : zSV C h0 K Y_X3_rank (d + 3) 12 [(0, .ref o), (1, .int y1), (2, .ref a_l2), (3, .int y3), (4, .int y4)] [] I L M := by
  refine S_iload 4 dX3_rank_12 rfl ?_
  refine S_bipush (v := 12) dX3_rank_14 (by decide) ?_
  refine S_icmp_ge (tgt := 111) dX3_rank_16 (by decide) (fun q1 => ?_) (fun q1 => ?_)
  · refine S_aload_n 0 dX3_rank_111 rfl rfl ?_
    refine S_getP f_RX3_16 ho.1 ho.2.2.1 dX3_rank_112 ?_
    refine S_iload_n 1 dX3_rank_115 rfl rfl ?_
    refine S_iload_n 3 dX3_rank_116 rfl rfl ?_
    refine S_iast ho.2.2.2.2.2.2.1 (T.1 q1).1 dX3_rank_117 ?_
    exact S_vret rfl dX3_rank_118 ⟨u2 I ((o + 12)) y1.toNatClampNeg y3, L, M, rfl, rfl, (T.1 q1).2⟩
  · refine S_aload_n 0 dX3_rank_19 rfl rfl ?_
    refine S_iload 4 dX3_rank_20 rfl ?_
    refine S_iload_n 1 dX3_rank_22 rfl rfl ?_
    refine S_callV [.int y4, .int y1] [] m_RX3_89 rfl rfl ho.1 ⟨rfl, by decide⟩ (Nat.le_of_ble_eq_true rfl) (zroom_0 (by decide)) dX3_rank_23 (zCI_use (T.2 q1) ?_)
    intro r1_2 I1_2 L1_2 M1_2 T1_2
    refine S_istore dX3_rank_26 (by decide) rfl ?_
    refine S_iload 0 dX3_rank_28 rfl ?_
    refine S_if_le (tgt := 105) dX3_rank_30 (by decide) (fun q2 => ?_) (fun q2 => ?_)
    · refine S_iinc 5 dX3_rank_105 rfl rfl (by decide) rfl ?_
      refine S_goto (tgt := 12) dX3_rank_108 (by decide) ?_
      exact S_sub [2, 3, 4, 5, 0] rfl (T1_2.1 q2)
    · refine S_iload_n 4 dX3_rank_33 rfl rfl ?_
      refine S_istore dX3_rank_34 (by decide) rfl ?_
      exact S_sub [2, 3, 4, 5, 6, 1, 0] rfl (T1_2.2 q2)

set_option maxRecDepth 100000 in
theorem t_X3_rank_36 {C : zC} {I : Nat → Nat → Int32} {L : Nat → Nat → Int64} {M : Nat → Nat → Option Nat} {h0 : zH} (d : Nat) {o : Nat} (ho : zLu o) {a_l2 : Nat} (e_l2 : zsh a_l2 = (12, 12)) (y1 : Int32) (y3 : Int32) (y4 : Int32) (y5 : Int32) (y6 : Int32) (K : (Nat → Nat → Int32) → (Nat → Nat → Int64) → (Nat → Nat → Option Nat) → Prop) (T : ((y6 ≤ 0 → zSV C h0 K Y_X3_rank (d + 3) 87 [(0, .ref o), (1, .int y1), (2, .ref a_l2), (3, .int y3), (4, .int y4), (5, .int y5), (6, .int y6)] [] I L M) ∧ (¬ (y6 ≤ 0) → vp_in ((y6 - (1 : Int32))) 12 ∧ ((y5 ≤ (I ((o + 13)) (((y6 - (1 : Int32))).toNatClampNeg)) → zSV C h0 K Y_X3_rank (d + 3) 87 [(0, .ref o), (1, .int y1), (2, .ref a_l2), (3, .int y3), (4, .int y4), (5, .int y5), (6, .int y6)] [] I L M) ∧ (¬ (y5 ≤ (I ((o + 13)) (((y6 - (1 : Int32))).toNatClampNeg))) → vp_in ((y6 - (1 : Int32))) 12 ∧ vp_in y6 12 ∧ vp_in ((y6 - (1 : Int32))) 12 ∧ vp_in y6 12 ∧ zSV C h0 K Y_X3_rank (d + 3) 36 [(0, .ref o), (1, .int y1), (2, .ref a_l2), (3, .int y3), (4, .int y4), (5, .int y5), (6, .int (y6 + (-1)))] [] (u2 (u2 I ((o + 13)) y6.toNatClampNeg ((I ((o + 13)) (((y6 - (1 : Int32))).toNatClampNeg)))) a_l2 y6.toNatClampNeg (((u2 I ((o + 13)) y6.toNatClampNeg ((I ((o + 13)) (((y6 - (1 : Int32))).toNatClampNeg)))) a_l2 (((y6 - (1 : Int32))).toNatClampNeg)))) L M))))) : zSV C h0 K Y_X3_rank (d + 3) 36 [(0, .ref o), (1, .int y1), (2, .ref a_l2), (3, .int y3), (4, .int y4), (5, .int y5), (6, .int y6)] [] I L M := by
  refine S_iload 6 dX3_rank_36 rfl ?_
  refine S_if_le (tgt := 87) dX3_rank_38 (by decide) (fun q1 => ?_) (fun q1 => ?_)
  · exact S_sub [0, 1, 2, 3, 4, 5, 6] rfl (T.1 q1)
  · refine S_aload_n 0 dX3_rank_41 rfl rfl ?_
    refine S_getP f_RX3_20 ho.1 ho.2.2.2.1 dX3_rank_42 ?_
    refine S_iload 6 dX3_rank_45 rfl ?_
    refine S_iconst (v := 1) dX3_rank_47 (by decide) ?_
    refine S_isub dX3_rank_48 ?_
    refine S_iald ho.2.2.2.2.2.2.2.1 (T.2 q1).1 dX3_rank_49 ?_
    refine S_iload 5 dX3_rank_50 rfl ?_
    refine S_icmp_ge (tgt := 87) dX3_rank_52 (by decide) (fun q2 => ?_) (fun q2 => ?_)
    · exact S_sub [0, 1, 2, 3, 4, 5, 6] rfl ((T.2 q1).2.1 q2)
    · refine S_aload_n 0 dX3_rank_55 rfl rfl ?_
      refine S_getP f_RX3_20 ho.1 ho.2.2.2.1 dX3_rank_56 ?_
      refine S_iload 6 dX3_rank_59 rfl ?_
      refine S_aload_n 0 dX3_rank_61 rfl rfl ?_
      refine S_getP f_RX3_20 ho.1 ho.2.2.2.1 dX3_rank_62 ?_
      refine S_iload 6 dX3_rank_65 rfl ?_
      refine S_iconst (v := 1) dX3_rank_67 (by decide) ?_
      refine S_isub dX3_rank_68 ?_
      refine S_iald ho.2.2.2.2.2.2.2.1 ((T.2 q1).2.2 q2).1 dX3_rank_69 ?_
      refine S_iast ho.2.2.2.2.2.2.2.1 ((T.2 q1).2.2 q2).2.1 dX3_rank_70 ?_
      refine S_aload_n 2 dX3_rank_71 rfl rfl ?_
      refine S_iload 6 dX3_rank_72 rfl ?_
      refine S_aload_n 2 dX3_rank_74 rfl rfl ?_
      refine S_iload 6 dX3_rank_75 rfl ?_
      refine S_iconst (v := 1) dX3_rank_77 (by decide) ?_
      refine S_isub dX3_rank_78 ?_
      refine S_iald e_l2 ((T.2 q1).2.2 q2).2.2.1 dX3_rank_79 ?_
      refine S_iast e_l2 ((T.2 q1).2.2 q2).2.2.2.1 dX3_rank_80 ?_
      refine S_iinc 6 dX3_rank_81 rfl rfl (by decide) rfl ?_
      refine S_goto (tgt := 36) dX3_rank_84 (by decide) ?_
      exact S_sub [1, 2, 3, 4, 5, 6, 0] rfl ((T.2 q1).2.2 q2).2.2.2.2

set_option maxRecDepth 100000 in
theorem t_X3_rank_87 {C : zC} {I : Nat → Nat → Int32} {L : Nat → Nat → Int64} {M : Nat → Nat → Option Nat} {h0 : zH} (d : Nat) {o : Nat} (ho : zLu o) {a_l2 : Nat} (e_l2 : zsh a_l2 = (12, 12)) (y1 : Int32) (y3 : Int32) (y4 : Int32) (y5 : Int32) (y6 : Int32) (K : (Nat → Nat → Int32) → (Nat → Nat → Int64) → (Nat → Nat → Option Nat) → Prop) (T : vp_in y6 12 ∧ vp_in y6 12 ∧ zSV C h0 K Y_X3_rank (d + 3) 12 [(0, .ref o), (1, .int y1), (2, .ref a_l2), (3, .int (y3 + 1)), (4, .int (y4 + 1))] [] (u2 (u2 I ((o + 13)) y6.toNatClampNeg y5) a_l2 y6.toNatClampNeg y4) L M) : zSV C h0 K Y_X3_rank (d + 3) 87 [(0, .ref o), (1, .int y1), (2, .ref a_l2), (3, .int y3), (4, .int y4), (5, .int y5), (6, .int y6)] [] I L M := by
  refine S_aload_n 0 dX3_rank_87 rfl rfl ?_
  refine S_getP f_RX3_20 ho.1 ho.2.2.2.1 dX3_rank_88 ?_
  refine S_iload 6 dX3_rank_91 rfl ?_
  refine S_iload 5 dX3_rank_93 rfl ?_
  refine S_iast ho.2.2.2.2.2.2.2.1 T.1 dX3_rank_95 ?_
  refine S_aload_n 2 dX3_rank_96 rfl rfl ?_
  refine S_iload 6 dX3_rank_97 rfl ?_
  refine S_iload 4 dX3_rank_99 rfl ?_
  refine S_iast e_l2 T.2.1 dX3_rank_101 ?_
  refine S_iinc 3 dX3_rank_102 rfl rfl (by decide) rfl ?_
  refine S_iinc 4 dX3_rank_105 rfl rfl (by decide) rfl ?_
  refine S_goto (tgt := 12) dX3_rank_108 (by decide) ?_
  exact S_sub [2, 3, 4, 1, 0] rfl T.2.2

set_option maxRecDepth 100000 in
theorem t_X3_settle {C : zC} {I : Nat → Nat → Int32} {L : Nat → Nat → Int64} {M : Nat → Nat → Option Nat} (d : Nat) {o : Nat} {o1 : Nat} {o2 : Nat} (ho : zLu o) (ho1 : zInn o1) (ho2 : zGu o2) (K : (Nat → Nat → Int32) → (Nat → Nat → Int64) → (Nat → Nat → Option Nat) → Prop) (T : zCV C Y_J7_fill_53178 (d + 1) [.ref (o + 12), .int (-1)] (zmk I L (u2 (u2 M o 0 (some o1)) o 1 (some o2))) (fun I1_1 L1_1 M1_1 => K I1_1 L1_1 M1_1)) : zCV C Y_X3_settle (d + 2) [.ref o, .ref o1, .ref o2] (zmk I L M) K := by
  refine S_enter (by decide) (Nat.le_of_ble_eq_true rfl) ?_
  refine S_lv (lv' := [(0, .ref o), (1, .ref o1), (2, .ref o2)]) rfl ?_
  refine S_aload_n 0 dX3_settle_0 rfl rfl ?_
  refine S_aload_n 1 dX3_settle_1 rfl rfl ?_
  refine S_putM f_RX3_26 ho.1 (Or.inl rfl) (Or.inl ⟨_, rfl⟩) dX3_settle_2 ?_
  refine S_aload_n 0 dX3_settle_5 rfl rfl ?_
  refine S_aload_n 2 dX3_settle_6 rfl rfl ?_
  refine S_putM f_RX3_30 ho.1 (Or.inl rfl) (Or.inl ⟨_, rfl⟩) dX3_settle_7 ?_
  refine S_aload_n 0 dX3_settle_10 rfl rfl ?_
  refine S_getP f_RX3_16 ho.1 ho.2.2.1 dX3_settle_11 ?_
  refine S_iconst (v := -1) dX3_settle_14 (by decide) ?_
  refine S_callS [.ref (o + 12), .int (-1)] [] m_RX3_34 rfl rfl (Nat.le_of_ble_eq_true rfl) (zroom_0 (by decide)) dX3_settle_15 (zCV_use T ?_)
  intro I1_1 L1_1 M1_1 T1_1
  exact S_vret rfl dX3_settle_18 ⟨I1_1, L1_1, M1_1, rfl, rfl, T1_1⟩

set_option maxRecDepth 100000 in
theorem t_X3_tempts {C : zC} {I : Nat → Nat → Int32} {L : Nat → Nat → Int64} {M : Nat → Nat → Option Nat} (d : Nat) {o : Nat} (x1 : Int32) (x2 : Int32) (ho : zLu o) (K : Int32 → (Nat → Nat → Int32) → (Nat → Nat → Int64) → (Nat → Nat → Option Nat) → Prop) (T : (∃ r1_1 : Nat, (M o 0) = some r1_1 ∧ zInn r1_1 ∧ vp_in x1 12 ∧ zCV C Y_X3_learn (d + 1) [.ref o, .int x1, .int (I ((r1_1 + 1)) x1.toNatClampNeg), .int x2] (zmk I L M) (fun I2_1 L2_1 M2_1 => (∃ r3_1 : Nat, (M2_1 o 0) = some r3_1 ∧ zInn r3_1 ∧ (∃ r4_1 : Nat, (M2_1 r3_1 5) = some r4_1 ∧ zHo r4_1 ∧ zCI C Y_X1_sway (d + 1) [.ref r4_1, .ref (o + 14)] (zmk I2_1 L2_1 M2_1) (fun r5_1 I5_1 L5_1 M5_1 => ((¬ (x1 - x1 / 2 * 2) = 0 → zSI C (zmk I L M) K Y_X3_tempts (d + 2) 60 [(0, .ref o), (1, .int x1), (2, .int x2), (3, .int (I ((r1_1 + 1)) x1.toNatClampNeg)), (4, .int (((5 : Int32) + ((2 : Int32) * (I ((r1_1 + 1)) x1.toNatClampNeg))) + r5_1))] [.int (((5 : Int32) + ((2 : Int32) * (I ((r1_1 + 1)) x1.toNatClampNeg))) + r5_1)] I5_1 L5_1 M5_1) ∧ ((x1 - x1 / 2 * 2) = 0 → (∃ r6_2 : Nat, (M5_1 o 1) = some r6_2 ∧ zGu r6_2 ∧ zSI C (zmk I L M) K Y_X3_tempts (d + 2) 60 [(0, .ref o), (1, .int x1), (2, .int x2), (3, .int (I ((r1_1 + 1)) x1.toNatClampNeg)), (4, .int (((5 : Int32) + ((2 : Int32) * (I ((r1_1 + 1)) x1.toNatClampNeg))) + r5_1))] [.int ((((5 : Int32) + ((2 : Int32) * (I ((r1_1 + 1)) x1.toNatClampNeg))) + r5_1) + (I5_1 r6_2 2))] I5_1 L5_1 M5_1))))))))) : zCI C Y_X3_tempts (d + 2) [.ref o, .int x1, .int x2] (zmk I L M) K := by
  refine S_enter (by decide) (Nat.le_of_ble_eq_true rfl) ?_
  refine S_lv (lv' := [(0, .ref o), (1, .int x1), (2, .int x2)]) rfl ?_
  refine S_aload_n 0 dX3_tempts_0 rfl rfl ?_
  obtain ⟨r1_1, e1_1, w1_1, T1_1⟩ := T
  refine S_getM f_RX3_26 ho.1 e1_1 dX3_tempts_1 ?_
  refine S_getP f_RX3_40 (sI w1_1) (pI_w w1_1) dX3_tempts_4 ?_
  refine S_iload_n 1 dX3_tempts_7 rfl rfl ?_
  refine S_iald (sI_w w1_1) T1_1.1 dX3_tempts_8 ?_
  refine S_istore_n dX3_tempts_9 rfl (by decide) rfl ?_
  refine S_aload_n 1 dX3_tempts_10 rfl rfl ?_
  refine S_iload_n 2 dX3_tempts_11 rfl rfl ?_
  refine S_iload_n 0 dX3_tempts_12 rfl rfl ?_
  refine S_iload_n 3 dX3_tempts_13 rfl rfl ?_
  refine S_callV [.int x1, .int (I ((r1_1 + 1)) x1.toNatClampNeg), .int x2] [] m_RX3_45 rfl rfl ho.1 ⟨rfl, by decide⟩ (Nat.le_of_ble_eq_true rfl) (zroom_0 (by decide)) dX3_tempts_14 (zCV_use T1_1.2 ?_)
  intro I2_1 L2_1 M2_1 T2_1
  refine S_iconst (v := 5) dX3_tempts_17 (by decide) ?_
  refine S_iconst (v := 2) dX3_tempts_18 (by decide) ?_
  refine S_iload_n 0 dX3_tempts_19 rfl rfl ?_
  refine S_imul dX3_tempts_20 ?_
  refine S_iadd dX3_tempts_21 ?_
  refine S_aload_n 1 dX3_tempts_22 rfl rfl ?_
  obtain ⟨r3_1, e3_1, w3_1, T3_1⟩ := T2_1
  refine S_getM f_RX3_26 ho.1 e3_1 dX3_tempts_23 ?_
  obtain ⟨r4_1, e4_1, w4_1, T4_1⟩ := T3_1
  refine S_getM f_RX3_49 (sI w3_1) e4_1 dX3_tempts_26 ?_
  refine S_aload_n 1 dX3_tempts_29 rfl rfl ?_
  refine S_getP f_RX3_23 ho.1 ho.2.2.2.2.1 dX3_tempts_30 ?_
  refine S_callV [.ref (o + 14)] [.int ((5 : Int32) + ((2 : Int32) * (I ((r1_1 + 1)) x1.toNatClampNeg)))] m_RX3_53 rfl rfl w4_1.1 ⟨rfl, by decide⟩ (Nat.le_of_ble_eq_true rfl) (zroom_0 (by decide)) dX3_tempts_33 (zCI_use T4_1 ?_)
  intro r5_1 I5_1 L5_1 M5_1 T5_1
  refine S_iadd dX3_tempts_36 ?_
  refine S_istore dX3_tempts_37 (by decide) rfl ?_
  refine S_iload_n 3 dX3_tempts_39 rfl rfl ?_
  refine S_iconst (v := 2) dX3_tempts_40 (by decide) ?_
  refine S_irem dX3_tempts_41 (by decide) ?_
  refine S_if_ne (tgt := 58) dX3_tempts_42 (by decide) (fun q1 => ?_) (fun q1 => ?_)
  · refine S_iload 0 dX3_tempts_58 rfl ?_
    exact S_sub [2, 3, 4, 1, 0] rfl (T5_1.1 q1)
  · refine S_iload 0 dX3_tempts_45 rfl ?_
    refine S_aload_n 2 dX3_tempts_47 rfl rfl ?_
    obtain ⟨r6_2, e6_2, w6_2, T6_2⟩ := (T5_1.2 q1)
    refine S_getM f_RX3_30 ho.1 e6_2 dX3_tempts_48 ?_
    refine S_getI f_RX3_59 w6_2.1 dX3_tempts_51 ?_
    refine S_iadd dX3_tempts_54 ?_
    refine S_goto (tgt := 60) dX3_tempts_55 (by decide) ?_
    exact S_sub [2, 3, 4, 1, 0] rfl T6_2

set_option maxRecDepth 100000 in
theorem t_X3_tempts_60 {C : zC} {I : Nat → Nat → Int32} {L : Nat → Nat → Int64} {M : Nat → Nat → Option Nat} {h0 : zH} (d : Nat) {o : Nat} (ho : zLu o)  (y1 : Int32) (y2 : Int32) (y3 : Int32) (y4 : Int32) (z0 : Int32) (K : Int32 → (Nat → Nat → Int32) → (Nat → Nat → Int64) → (Nat → Nat → Option Nat) → Prop) (T : (∃ r1_1 : Nat, (M o 1) = some r1_1 ∧ zGu r1_1 ∧ (((I r1_1 2) ≤ y3 → zSI C h0 K Y_X3_tempts (d + 2) 79 [(0, .ref o), (1, .int y1), (2, .int y2), (4, .int y4), (5, .int z0)] [.int y4] I L M) ∧ (¬ ((I r1_1 2) ≤ y3) → zSI C h0 K Y_X3_tempts (d + 2) 79 [(0, .ref o), (1, .int y1), (2, .int y2), (4, .int y4), (5, .int z0)] [.int 0] I L M)))) : zSI C h0 K Y_X3_tempts (d + 2) 60 [(0, .ref o), (1, .int y1), (2, .int y2), (3, .int y3), (4, .int y4)] [.int z0] I L M := by
  refine S_istore dX3_tempts_60 (by decide) rfl ?_
  refine S_aload_n 1 dX3_tempts_62 rfl rfl ?_
  obtain ⟨r1_1, e1_1, w1_1, T1_1⟩ := T
  refine S_getM f_RX3_30 ho.1 e1_1 dX3_tempts_63 ?_
  refine S_getI f_RX3_59 w1_1.1 dX3_tempts_66 ?_
  refine S_iload_n 4 dX3_tempts_69 rfl rfl ?_
  refine S_icmp_le (tgt := 77) dX3_tempts_70 (by decide) (fun q1 => ?_) (fun q1 => ?_)
  · refine S_iload 5 dX3_tempts_77 rfl ?_
    exact S_sub [1, 2, 3, 5, 0] rfl (T1_1.1 q1)
  · refine S_iconst (v := 0) dX3_tempts_73 (by decide) ?_
    refine S_goto (tgt := 79) dX3_tempts_74 (by decide) ?_
    exact S_sub [1, 2, 3, 5, 0] rfl (T1_1.2 q1)

set_option maxRecDepth 100000 in
theorem t_X3_tempts_79 {C : zC} {I : Nat → Nat → Int32} {L : Nat → Nat → Int64} {M : Nat → Nat → Option Nat} {h0 : zH} (d : Nat) {o : Nat} (ho : zLu o)  (y1 : Int32) (y2 : Int32) (y4 : Int32) (y5 : Int32) (z0 : Int32) (K : Int32 → (Nat → Nat → Int32) → (Nat → Nat → Int64) → (Nat → Nat → Option Nat) → Prop) (T : (∃ r1_1 : Nat, (M o 1) = some r1_1 ∧ zGu r1_1 ∧ (((I r1_1 1) = 1 → K y5 I L M) ∧ ((I r1_1 1) = 2 → K ((y4 / 2)) I L M) ∧ ((I r1_1 1) = 3 → K z0 I L M) ∧ ((I r1_1 1) = 4 → (∃ r2_2 : Nat, (M o 1) = some r2_2 ∧ zGu r2_2 ∧ ((¬ (zhas ((I r2_2 4)) y1) → K y5 I L M) ∧ ((zhas ((I r2_2 4)) y1) → K ((y5 - (10 : Int32))) I L M)))) ∧ ((I r1_1 1) = 5 → K (((y4 / 2) + (y2 - y2 / 5 * 5))) I L M) ∧ ((I r1_1 1) = 6 → (∃ r3_2 : Nat, (M o 1) = some r3_2 ∧ zGu r3_2 ∧ vp_in ((y1 - y1 / 4 * 4)) 4 ∧ K ((z0 + (I ((r3_2 + 1)) (((y1 - y1 / 4 * 4)).toNatClampNeg)))) I L M)) ∧ ((((I r1_1 1) : Int32).toInt < 1 ∨ 6 < ((I r1_1 1) : Int32).toInt) → K y4 I L M)))) : zSI C h0 K Y_X3_tempts (d + 2) 79 [(0, .ref o), (1, .int y1), (2, .int y2), (4, .int y4), (5, .int y5)] [.int z0] I L M := by
  refine S_istore dX3_tempts_79 (by decide) rfl ?_
  refine S_aload_n 1 dX3_tempts_81 rfl rfl ?_
  obtain ⟨r1_1, e1_1, w1_1, T1_1⟩ := T
  refine S_getM f_RX3_30 ho.1 e1_1 dX3_tempts_82 ?_
  refine S_getI f_RX3_65 w1_1.1 dX3_tempts_85 ?_
  rcases ztab1_6 ((I r1_1 1)) with q1 | q1 | q1 | q1 | q1 | q1 | q1
  · refine S_tabK (tgt := 128) dX3_tempts_88 q1 (by decide) (by decide) (off := 40) rfl (by decide) ?_
    refine S_iload 5 dX3_tempts_128 rfl ?_
    exact S_ireti rfl dX3_tempts_130 ⟨_, I, L, M, rfl, rfl, (T1_1.1 q1)⟩
  · refine S_tabK (tgt := 131) dX3_tempts_88 q1 (by decide) (by decide) (off := 43) rfl (by decide) ?_
    refine S_iload 4 dX3_tempts_131 rfl ?_
    refine S_iconst (v := 2) dX3_tempts_133 (by decide) ?_
    refine S_idiv dX3_tempts_134 (by decide) ?_
    exact S_ireti rfl dX3_tempts_135 ⟨_, I, L, M, rfl, rfl, (T1_1.2.1 q1)⟩
  · refine S_tabK (tgt := 136) dX3_tempts_88 q1 (by decide) (by decide) (off := 48) rfl (by decide) ?_
    refine S_iload 0 dX3_tempts_136 rfl ?_
    exact S_ireti rfl dX3_tempts_138 ⟨_, I, L, M, rfl, rfl, (T1_1.2.2.1 q1)⟩
  · refine S_tabK (tgt := 139) dX3_tempts_88 q1 (by decide) (by decide) (off := 51) rfl (by decide) ?_
    refine S_aload_n 1 dX3_tempts_139 rfl rfl ?_
    obtain ⟨r2_2, e2_2, w2_2, T2_2⟩ := (T1_1.2.2.2.1 q1)
    refine S_getM f_RX3_30 ho.1 e2_2 dX3_tempts_140 ?_
    refine S_getI f_RX3_68 w2_2.1 dX3_tempts_143 ?_
    refine S_iload_n 2 dX3_tempts_146 rfl rfl ?_
    refine S_callSN [.int (I r2_2 4), .int y1] [] m_RX3_71 rfl rfl (Nat.le_of_ble_eq_true rfl) (zroom_0 (by decide)) dX3_tempts_147 (zpure (sp_X10_has (I := I) (L := L) (M := M) (d + 0) ((I r2_2 4)) y1) ?_)
    refine S_if_eq (tgt := 161) dX3_tempts_150 (by decide) (fun q2 => ?_) (fun q2 => ?_)
    · refine S_iload 5 dX3_tempts_161 rfl ?_
      exact S_ireti rfl dX3_tempts_163 ⟨_, I, L, M, rfl, rfl, (T2_2.1 (zb_f q2))⟩
    · refine S_iload 5 dX3_tempts_153 rfl ?_
      refine S_bipush (v := 10) dX3_tempts_155 (by decide) ?_
      refine S_isub dX3_tempts_157 ?_
      refine S_goto (tgt := 163) dX3_tempts_158 (by decide) ?_
      exact S_ireti rfl dX3_tempts_163 ⟨_, I, L, M, rfl, rfl, (T2_2.2 (zb_t q2))⟩
  · refine S_tabK (tgt := 164) dX3_tempts_88 q1 (by decide) (by decide) (off := 76) rfl (by decide) ?_
    refine S_iload 4 dX3_tempts_164 rfl ?_
    refine S_iconst (v := 2) dX3_tempts_166 (by decide) ?_
    refine S_idiv dX3_tempts_167 (by decide) ?_
    refine S_iload_n 3 dX3_tempts_168 rfl rfl ?_
    refine S_iconst (v := 5) dX3_tempts_169 (by decide) ?_
    refine S_irem dX3_tempts_170 (by decide) ?_
    refine S_iadd dX3_tempts_171 ?_
    exact S_ireti rfl dX3_tempts_172 ⟨_, I, L, M, rfl, rfl, (T1_1.2.2.2.2.1 q1)⟩
  · refine S_tabK (tgt := 173) dX3_tempts_88 q1 (by decide) (by decide) (off := 85) rfl (by decide) ?_
    refine S_iload 0 dX3_tempts_173 rfl ?_
    refine S_aload_n 1 dX3_tempts_175 rfl rfl ?_
    obtain ⟨r3_2, e3_2, w3_2, T3_2⟩ := (T1_1.2.2.2.2.2.1 q1)
    refine S_getM f_RX3_30 ho.1 e3_2 dX3_tempts_176 ?_
    refine S_getP f_RX3_75 w3_2.1 w3_2.2.1 dX3_tempts_179 ?_
    refine S_iload_n 2 dX3_tempts_182 rfl rfl ?_
    refine S_iconst (v := 4) dX3_tempts_183 (by decide) ?_
    refine S_irem dX3_tempts_184 (by decide) ?_
    refine S_iald w3_2.2.2 T3_2.1 dX3_tempts_185 ?_
    refine S_iadd dX3_tempts_186 ?_
    exact S_ireti rfl dX3_tempts_187 ⟨_, I, L, M, rfl, rfl, T3_2.2⟩
  · refine S_tabOut (tgt := 188) dX3_tempts_88 q1 (by decide) ?_
    refine S_iload 4 dX3_tempts_188 rfl ?_
    exact S_ireti rfl dX3_tempts_190 ⟨_, I, L, M, rfl, rfl, (T1_1.2.2.2.2.2.2 q1)⟩

set_option maxRecDepth 100000 in
theorem t_X4_builds {C : zC} {I : Nat → Nat → Int32} {L : Nat → Nat → Int64} {M : Nat → Nat → Option Nat} (d : Nat) {o1 : Nat} (ho1 : zHo o1) (K : Int32 → (Nat → Nat → Int32) → (Nat → Nat → Int64) → (Nat → Nat → Option Nat) → Prop) (T : zCV C Y_X1_clear (d + 6) [.ref o1] (zmk I L M) (fun I1_1 L1_1 M1_1 => zSI C (zmk I L M) K Y_X4_builds (d + 7) 11 [(0, .ref 138), (1, .ref o1), (2, .int 1)] [] (u2 I1_1 138 2 0) L1_1 M1_1)) : zCI C Y_X4_builds (d + 7) [.ref 138, .ref o1] (zmk I L M) K := by
  refine S_enter (by decide) (Nat.le_of_ble_eq_true rfl) ?_
  refine S_lv (lv' := [(0, .ref 138), (1, .ref o1)]) rfl ?_
  refine S_aload_n 1 dX4_builds_0 rfl rfl ?_
  refine S_callV [] [] m_RX4_19 rfl rfl ho1.1 ⟨rfl, by decide⟩ (Nat.le_of_ble_eq_true rfl) (zroom_0 (by decide)) dX4_builds_1 (zCV_use T ?_)
  intro I1_1 L1_1 M1_1 T1_1
  refine S_aload_n 0 dX4_builds_4 rfl rfl ?_
  refine S_iconst (v := 0) dX4_builds_5 (by decide) ?_
  refine S_putI f_RX4_24 s_138 (Or.inl rfl) rfl dX4_builds_6 ?_
  refine S_iconst (v := 1) dX4_builds_9 (by decide) ?_
  refine S_istore_n dX4_builds_10 rfl (by decide) rfl ?_
  exact S_sub [1, 2, 0] rfl T1_1

set_option maxRecDepth 100000 in
theorem t_X4_builds_11 {C : zC} {I : Nat → Nat → Int32} {L : Nat → Nat → Int64} {M : Nat → Nat → Option Nat} {h0 : zH} (d : Nat) {o1 : Nat} (ho1 : zHo o1)  (y2 : Int32) (K : Int32 → (Nat → Nat → Int32) → (Nat → Nat → Int64) → (Nat → Nat → Option Nat) → Prop) (T : ((10 < y2 → K 0 I L M) ∧ (¬ (10 < y2) → zCI C Y_X4_readsClause (d + 6) [.ref 138, .ref o1] (zmk I L M) (fun r1_2 I1_2 L1_2 M1_2 => ((¬ r1_2 = 0 → ((¬ (I1_2 138 2) = (I1_2 138 1) → ((y2 = 10 → K 0 I1_2 L1_2 M1_2) ∧ (¬ (y2 = 10) → zCI C Y_X4_takes (d + 6) [.ref 138, .int 59] (zmk I1_2 L1_2 M1_2) (fun r2_5 I2_5 L2_5 M2_5 => ((¬ r2_5 = 0 → zSI C h0 K Y_X4_builds (d + 7) 11 [(0, .ref 138), (1, .ref o1), (2, .int (y2 + 1))] [] I2_5 L2_5 M2_5) ∧ (r2_5 = 0 → K 0 I2_5 L2_5 M2_5)))))) ∧ ((I1_2 138 2) = (I1_2 138 1) → K 1 I1_2 L1_2 M1_2))) ∧ (r1_2 = 0 → K 0 I1_2 L1_2 M1_2)))))) : zSI C h0 K Y_X4_builds (d + 7) 11 [(0, .ref 138), (1, .ref o1), (2, .int y2)] [] I L M := by
  refine S_iload_n 2 dX4_builds_11 rfl rfl ?_
  refine S_bipush (v := 10) dX4_builds_12 (by decide) ?_
  refine S_icmp_gt (tgt := 63) dX4_builds_14 (by decide) (fun q1 => ?_) (fun q1 => ?_)
  · refine S_iconst (v := 0) dX4_builds_63 (by decide) ?_
    exact S_iretz rfl (by decide) dX4_builds_64 ⟨_, I, L, M, rfl, rfl, (T.1 q1)⟩
  · refine S_aload_n 0 dX4_builds_17 rfl rfl ?_
    refine S_aload_n 1 dX4_builds_18 rfl rfl ?_
    refine S_callV [.ref o1] [] m_RX4_27 rfl rfl s_138 ⟨rfl, by decide⟩ (Nat.le_of_ble_eq_true rfl) (zroom_0 (by decide)) dX4_builds_19 (zCI_use (T.2 q1) ?_)
    intro r1_2 I1_2 L1_2 M1_2 T1_2
    refine S_if_ne (tgt := 27) dX4_builds_22 (by decide) (fun q2 => ?_) (fun q2 => ?_)
    · refine S_aload_n 0 dX4_builds_27 rfl rfl ?_
      refine S_getI f_RX4_24 s_138 dX4_builds_28 ?_
      refine S_aload_n 0 dX4_builds_31 rfl rfl ?_
      refine S_getI f_RX4_15 s_138 dX4_builds_32 ?_
      refine S_icmp_ne (tgt := 40) dX4_builds_35 (by decide) (fun q3 => ?_) (fun q3 => ?_)
      · refine S_iload_n 2 dX4_builds_40 rfl rfl ?_
        refine S_bipush (v := 10) dX4_builds_41 (by decide) ?_
        refine S_icmp_eq (tgt := 55) dX4_builds_43 (by decide) (fun q4 => ?_) (fun q4 => ?_)
        · refine S_iconst (v := 0) dX4_builds_55 (by decide) ?_
          exact S_iretz rfl (by decide) dX4_builds_56 ⟨_, I1_2, L1_2, M1_2, rfl, rfl, (((T1_2.1 q2).1 q3).1 q4)⟩
        · refine S_aload_n 0 dX4_builds_46 rfl rfl ?_
          refine S_bipush (v := 59) dX4_builds_47 (by decide) ?_
          refine S_callV [.int 59] [] m_RX4_31 rfl rfl s_138 ⟨rfl, by decide⟩ (Nat.le_of_ble_eq_true rfl) (zroom_0 (by decide)) dX4_builds_49 (zCI_use (((T1_2.1 q2).1 q3).2 q4) ?_)
          intro r2_5 I2_5 L2_5 M2_5 T2_5
          refine S_if_ne (tgt := 57) dX4_builds_52 (by decide) (fun q5 => ?_) (fun q5 => ?_)
          · refine S_iinc 2 dX4_builds_57 rfl rfl (by decide) rfl ?_
            refine S_goto (tgt := 11) dX4_builds_60 (by decide) ?_
            exact S_sub [1, 2, 0] rfl (T2_5.1 q5)
          · refine S_iconst (v := 0) dX4_builds_55 (by decide) ?_
            exact S_iretz rfl (by decide) dX4_builds_56 ⟨_, I2_5, L2_5, M2_5, rfl, rfl, (T2_5.2 q5)⟩
      · refine S_iconst (v := 1) dX4_builds_38 (by decide) ?_
        exact S_iretz rfl (by decide) dX4_builds_39 ⟨_, I1_2, L1_2, M1_2, rfl, rfl, ((T1_2.1 q2).2 q3)⟩
    · refine S_iconst (v := 0) dX4_builds_25 (by decide) ?_
      exact S_iretz rfl (by decide) dX4_builds_26 ⟨_, I1_2, L1_2, M1_2, rfl, rfl, (T1_2.2 q2)⟩

set_option maxRecDepth 100000 in
theorem t_X4_next {C : zC} {I : Nat → Nat → Int32} {L : Nat → Nat → Int64} {M : Nat → Nat → Option Nat} (d : Nat)   (K : Int32 → (Nat → Nat → Int32) → (Nat → Nat → Int64) → (Nat → Nat → Option Nat) → Prop) (T : (((I 138 1) ≤ (I 138 2) → K ((-1)) I L M) ∧ (¬ ((I 138 1) ≤ (I 138 2)) → vp_in ((I 138 2)) 100 ∧ K ((I 139 (((I 138 2)).toNatClampNeg))) I L M))) : zCI C Y_X4_next (d + 1) [.ref 138] (zmk I L M) K := by
  refine S_enter (by decide) (Nat.le_of_ble_eq_true rfl) ?_
  refine S_lv (lv' := [(0, .ref 138)]) rfl ?_
  refine S_aload_n 0 dX4_next_0 rfl rfl ?_
  refine S_getI f_RX4_24 s_138 dX4_next_1 ?_
  refine S_aload_n 0 dX4_next_4 rfl rfl ?_
  refine S_getI f_RX4_15 s_138 dX4_next_5 ?_
  refine S_icmp_ge (tgt := 23) dX4_next_8 (by decide) (fun q1 => ?_) (fun q1 => ?_)
  · refine S_iconst (v := -1) dX4_next_23 (by decide) ?_
    exact S_ireti rfl dX4_next_24 ⟨_, I, L, M, rfl, rfl, (T.1 q1)⟩
  · refine S_aload_n 0 dX4_next_11 rfl rfl ?_
    refine S_getP f_RX4_9 s_138 p_138_0 dX4_next_12 ?_
    refine S_aload_n 0 dX4_next_15 rfl rfl ?_
    refine S_getI f_RX4_24 s_138 dX4_next_16 ?_
    refine S_iald s_139 (T.2 q1).1 dX4_next_19 ?_
    refine S_goto (tgt := 24) dX4_next_20 (by decide) ?_
    exact S_ireti rfl dX4_next_24 ⟨_, I, L, M, rfl, rfl, (T.2 q1).2⟩

set_option maxRecDepth 100000 in
theorem t_X4_readsAnyOf {C : zC} {I : Nat → Nat → Int32} {L : Nat → Nat → Int64} {M : Nat → Nat → Option Nat} (d : Nat) {i1 : Nat} (hi1 : i1 < 10) (K : Int32 → (Nat → Nat → Int32) → (Nat → Nat → Int64) → (Nat → Nat → Option Nat) → Prop) (T : (((I 138 2) < (I 138 1) → vp_in ((I 138 2)) 100 ∧ zCI C Y_J0_indexOf_0f7a4 (d + 7) [.ref (1000010 + i1), .int ((((I 139 (((I 138 2)).toNatClampNeg)) : Int32).toUInt32 % 65536).toInt32)] (zmk I L M) (fun r1_2 I1_2 L1_2 M1_2 => ((0 ≤ r1_2 → K r1_2 (u2 I1_2 138 2 (((I1_2 138 2) + (1 : Int32)))) L1_2 M1_2) ∧ (¬ (0 ≤ r1_2) → K r1_2 (u2 I1_2 138 2 (((I1_2 138 2) + (0 : Int32)))) L1_2 M1_2)))) ∧ (¬ ((I 138 2) < (I 138 1)) → K ((-1)) I L M))) : zCI C Y_X4_readsAnyOf (d + 8) [.ref 138, .ref (1000010 + i1)] (zmk I L M) K := by
  refine S_enter (by decide) (Nat.le_of_ble_eq_true rfl) ?_
  refine S_lv (lv' := [(0, .ref 138), (1, .ref (1000010 + i1))]) rfl ?_
  refine S_aload_n 0 dX4_readsAnyOf_0 rfl rfl ?_
  refine S_getI f_RX4_24 s_138 dX4_readsAnyOf_1 ?_
  refine S_aload_n 0 dX4_readsAnyOf_4 rfl rfl ?_
  refine S_getI f_RX4_15 s_138 dX4_readsAnyOf_5 ?_
  refine S_icmp_lt (tgt := 13) dX4_readsAnyOf_8 (by decide) (fun q1 => ?_) (fun q1 => ?_)
  · refine S_aload_n 1 dX4_readsAnyOf_13 rfl rfl ?_
    refine S_aload_n 0 dX4_readsAnyOf_14 rfl rfl ?_
    refine S_getP f_RX4_9 s_138 p_138_0 dX4_readsAnyOf_15 ?_
    refine S_aload_n 0 dX4_readsAnyOf_18 rfl rfl ?_
    refine S_getI f_RX4_24 s_138 dX4_readsAnyOf_19 ?_
    refine S_iald s_139 (T.1 q1).1 dX4_readsAnyOf_22 ?_
    refine S_i2c dX4_readsAnyOf_23 ?_
    refine S_callT i1 hi1 [.int ((((I 139 (((I 138 2)).toNatClampNeg)) : Int32).toUInt32 % 65536).toInt32)] [] m_RX4_82 rfl rfl rfl (Nat.le_of_ble_eq_true rfl) (zroom_0 (by decide)) dX4_readsAnyOf_24 (zCI_use (T.1 q1).2 ?_)
    intro r1_2 I1_2 L1_2 M1_2 T1_2
    refine S_istore_n dX4_readsAnyOf_27 rfl (by decide) rfl ?_
    refine S_aload_n 1 dX4_readsAnyOf_28 rfl rfl ?_
    refine S_dup dX4_readsAnyOf_29 rfl ?_
    refine S_getI f_RX4_24 s_138 dX4_readsAnyOf_30 ?_
    refine S_iload_n 0 dX4_readsAnyOf_33 rfl rfl ?_
    refine S_if_ge (tgt := 41) dX4_readsAnyOf_34 (by decide) (fun q2 => ?_) (fun q2 => ?_)
    · refine S_iconst (v := 1) dX4_readsAnyOf_41 (by decide) ?_
      refine S_iadd dX4_readsAnyOf_42 ?_
      refine S_putI f_RX4_24 s_138 (Or.inl rfl) rfl dX4_readsAnyOf_43 ?_
      refine S_iload_n 0 dX4_readsAnyOf_46 rfl rfl ?_
      exact S_ireti rfl dX4_readsAnyOf_47 ⟨_, u2 I1_2 138 2 (((I1_2 138 2) + (1 : Int32))), L1_2, M1_2, rfl, rfl, (T1_2.1 q2)⟩
    · refine S_iconst (v := 0) dX4_readsAnyOf_37 (by decide) ?_
      refine S_goto (tgt := 42) dX4_readsAnyOf_38 (by decide) ?_
      refine S_iadd dX4_readsAnyOf_42 ?_
      refine S_putI f_RX4_24 s_138 (Or.inl rfl) rfl dX4_readsAnyOf_43 ?_
      refine S_iload_n 0 dX4_readsAnyOf_46 rfl rfl ?_
      exact S_ireti rfl dX4_readsAnyOf_47 ⟨_, u2 I1_2 138 2 (((I1_2 138 2) + (0 : Int32))), L1_2, M1_2, rfl, rfl, (T1_2.2 q2)⟩
  · refine S_iconst (v := -1) dX4_readsAnyOf_11 (by decide) ?_
    exact S_ireti rfl dX4_readsAnyOf_12 ⟨_, I, L, M, rfl, rfl, (T.2 q1)⟩

set_option maxRecDepth 100000 in
theorem t_X4_readsChoice {C : zC} {I : Nat → Nat → Int32} {L : Nat → Nat → Int64} {M : Nat → Nat → Option Nat} (d : Nat) {o1 : Nat} (x2 : Int32) (ho1 : zHo o1) (K : Int32 → (Nat → Nat → Int32) → (Nat → Nat → Int64) → (Nat → Nat → Option Nat) → Prop) (T : zSI C (zmk I L M) K Y_X4_readsChoice (d + 2) 8 [(0, .ref 138), (1, .ref o1), (2, .int x2), (3, .int 0), (4, .int 0), (5, .int 0)] [] I L M) : zCI C Y_X4_readsChoice (d + 2) [.ref 138, .ref o1, .int x2] (zmk I L M) K := by
  refine S_enter (by decide) (Nat.le_of_ble_eq_true rfl) ?_
  refine S_lv (lv' := [(0, .ref 138), (1, .ref o1), (2, .int x2)]) rfl ?_
  refine S_iconst (v := 0) dX4_readsChoice_0 (by decide) ?_
  refine S_istore_n dX4_readsChoice_1 rfl (by decide) rfl ?_
  refine S_iconst (v := 0) dX4_readsChoice_2 (by decide) ?_
  refine S_istore dX4_readsChoice_3 (by decide) rfl ?_
  refine S_iconst (v := 0) dX4_readsChoice_5 (by decide) ?_
  refine S_istore dX4_readsChoice_6 (by decide) rfl ?_
  exact S_sub [3, 4, 5, 2, 1, 0] rfl T

set_option maxRecDepth 100000 in
theorem t_X4_readsChoice_8 {C : zC} {I : Nat → Nat → Int32} {L : Nat → Nat → Int64} {M : Nat → Nat → Option Nat} {h0 : zH} (d : Nat) {o1 : Nat} (ho1 : zHo o1)  (y2 : Int32) (y3 : Int32) (y4 : Int32) (y5 : Int32) (K : Int32 → (Nat → Nat → Int32) → (Nat → Nat → Int64) → (Nat → Nat → Option Nat) → Prop) (T : ((100 ≤ y5 → K 0 I L M) ∧ (¬ (100 ≤ y5) → zCI C Y_X4_readsOne (d + 1) [.ref 138, .ref o1, .int y2] (zmk I L M) (fun r1_2 I1_2 L1_2 M1_2 => ((¬ r1_2 = 0 → ((y3 = 0 → zSI C h0 K Y_X4_readsChoice (d + 2) 36 [(0, .ref 138), (1, .ref o1), (2, .int y2), (4, .int y4), (5, .int y5)] [] I1_2 L1_2 M1_2) ∧ (¬ (y3 = 0) → zCV C Y_X1_add (d + 1) [.ref o1, .int (-2)] (zmk I1_2 L1_2 M1_2) (fun I2_4 L2_4 M2_4 => zSI C h0 K Y_X4_readsChoice (d + 2) 36 [(0, .ref 138), (1, .ref o1), (2, .int y2), (4, .int y4), (5, .int y5)] [] I2_4 L2_4 M2_4)))) ∧ (r1_2 = 0 → K 0 I1_2 L1_2 M1_2)))))) : zSI C h0 K Y_X4_readsChoice (d + 2) 8 [(0, .ref 138), (1, .ref o1), (2, .int y2), (3, .int y3), (4, .int y4), (5, .int y5)] [] I L M := by
  refine S_iload 5 dX4_readsChoice_8 rfl ?_
  refine S_bipush (v := 100) dX4_readsChoice_10 (by decide) ?_
  refine S_icmp_ge (tgt := 109) dX4_readsChoice_12 (by decide) (fun q1 => ?_) (fun q1 => ?_)
  · refine S_iconst (v := 0) dX4_readsChoice_109 (by decide) ?_
    exact S_iretz rfl (by decide) dX4_readsChoice_110 ⟨_, I, L, M, rfl, rfl, (T.1 q1)⟩
  · refine S_aload_n 0 dX4_readsChoice_15 rfl rfl ?_
    refine S_aload_n 1 dX4_readsChoice_16 rfl rfl ?_
    refine S_iload_n 2 dX4_readsChoice_17 rfl rfl ?_
    refine S_callV [.ref o1, .int y2] [] m_RX4_68 rfl rfl s_138 ⟨rfl, by decide⟩ (Nat.le_of_ble_eq_true rfl) (zroom_0 (by decide)) dX4_readsChoice_18 (zCI_use (T.2 q1) ?_)
    intro r1_2 I1_2 L1_2 M1_2 T1_2
    refine S_if_ne (tgt := 26) dX4_readsChoice_21 (by decide) (fun q2 => ?_) (fun q2 => ?_)
    · refine S_iload_n 3 dX4_readsChoice_26 rfl rfl ?_
      refine S_if_eq (tgt := 36) dX4_readsChoice_27 (by decide) (fun q3 => ?_) (fun q3 => ?_)
      · exact S_sub [0, 1, 2, 4, 5] rfl ((T1_2.1 q2).1 q3)
      · refine S_aload_n 1 dX4_readsChoice_30 rfl rfl ?_
        refine S_bipush (v := -2) dX4_readsChoice_31 (by decide) ?_
        refine S_callV [.int (-2)] [] m_RX4_64 rfl rfl ho1.1 ⟨rfl, by decide⟩ (Nat.le_of_ble_eq_true rfl) (zroom_0 (by decide)) dX4_readsChoice_33 (zCV_use ((T1_2.1 q2).2 q3) ?_)
        intro I2_4 L2_4 M2_4 T2_4
        exact S_sub [0, 1, 2, 4, 5] rfl T2_4
    · refine S_iconst (v := 0) dX4_readsChoice_24 (by decide) ?_
      exact S_iretz rfl (by decide) dX4_readsChoice_25 ⟨_, I1_2, L1_2, M1_2, rfl, rfl, (T1_2.2 q2)⟩

set_option maxRecDepth 100000 in
theorem t_X4_readsChoice_36 {C : zC} {I : Nat → Nat → Int32} {L : Nat → Nat → Int64} {M : Nat → Nat → Option Nat} {h0 : zH} (d : Nat) {o1 : Nat} (ho1 : zHo o1)  (y2 : Int32) (y4 : Int32) (y5 : Int32) (K : Int32 → (Nat → Nat → Int32) → (Nat → Nat → Int64) → (Nat → Nat → Option Nat) → Prop) (T : zCI C Y_X4_next (d + 1) [.ref 138] (zmk I L M) (fun r1_1 I1_1 L1_1 M1_1 => ((¬ r1_1 = 38 → zSI C h0 K Y_X4_readsChoice (d + 2) 50 [(0, .ref 138), (1, .ref o1), (2, .int y2), (4, .int y4), (5, .int y5)] [.int 0] I1_1 L1_1 M1_1) ∧ (r1_1 = 38 → zSI C h0 K Y_X4_readsChoice (d + 2) 50 [(0, .ref 138), (1, .ref o1), (2, .int y2), (4, .int y4), (5, .int y5)] [.int 1] I1_1 L1_1 M1_1)))) : zSI C h0 K Y_X4_readsChoice (d + 2) 36 [(0, .ref 138), (1, .ref o1), (2, .int y2), (4, .int y4), (5, .int y5)] [] I L M := by
  refine S_aload_n 0 dX4_readsChoice_36 rfl rfl ?_
  refine S_callV [] [] m_RX4_35 rfl rfl s_138 ⟨rfl, by decide⟩ (Nat.le_of_ble_eq_true rfl) (zroom_0 (by decide)) dX4_readsChoice_37 (zCI_use T ?_)
  intro r1_1 I1_1 L1_1 M1_1 T1_1
  refine S_bipush (v := 38) dX4_readsChoice_40 (by decide) ?_
  refine S_icmp_ne (tgt := 49) dX4_readsChoice_42 (by decide) (fun q1 => ?_) (fun q1 => ?_)
  · refine S_iconst (v := 0) dX4_readsChoice_49 (by decide) ?_
    exact S_sub [0, 1, 2, 3, 4] rfl (T1_1.1 q1)
  · refine S_iconst (v := 1) dX4_readsChoice_45 (by decide) ?_
    refine S_goto (tgt := 50) dX4_readsChoice_46 (by decide) ?_
    exact S_sub [0, 1, 2, 3, 4] rfl (T1_1.2 q1)

set_option maxRecDepth 100000 in
theorem t_X4_readsChoice_50 {C : zC} {I : Nat → Nat → Int32} {L : Nat → Nat → Int64} {M : Nat → Nat → Option Nat} {h0 : zH} (d : Nat) {o1 : Nat} (ho1 : zHo o1)  (y2 : Int32) (y4 : Int32) (y5 : Int32) (z0 : Int32) (K : Int32 → (Nat → Nat → Int32) → (Nat → Nat → Int64) → (Nat → Nat → Option Nat) → Prop) (T : ((¬ z0 = 0 → zSI C h0 K Y_X4_readsChoice (d + 2) 82 [(0, .ref 138), (1, .ref o1), (2, .int y2), (3, .int z0), (4, .int y4), (5, .int y5)] [] I L M) ∧ (z0 = 0 → ((y4 = 0 → zSI C h0 K Y_X4_readsChoice (d + 2) 66 [(0, .ref 138), (1, .ref o1), (2, .int y2), (3, .int z0), (5, .int y5)] [] I L M) ∧ (¬ (y4 = 0) → zCV C Y_X1_add (d + 1) [.ref o1, .int (-3)] (zmk I L M) (fun I1_3 L1_3 M1_3 => zSI C h0 K Y_X4_readsChoice (d + 2) 66 [(0, .ref 138), (1, .ref o1), (2, .int y2), (3, .int z0), (5, .int y5)] [] I1_3 L1_3 M1_3)))))) : zSI C h0 K Y_X4_readsChoice (d + 2) 50 [(0, .ref 138), (1, .ref o1), (2, .int y2), (4, .int y4), (5, .int y5)] [.int z0] I L M := by
  refine S_istore_n dX4_readsChoice_50 rfl (by decide) rfl ?_
  refine S_iload_n 0 dX4_readsChoice_51 rfl rfl ?_
  refine S_if_ne (tgt := 82) dX4_readsChoice_52 (by decide) (fun q1 => ?_) (fun q1 => ?_)
  · exact S_sub [1, 2, 3, 0, 4, 5] rfl (T.1 q1)
  · refine S_iload 4 dX4_readsChoice_55 rfl ?_
    refine S_if_eq (tgt := 66) dX4_readsChoice_57 (by decide) (fun q2 => ?_) (fun q2 => ?_)
    · exact S_sub [1, 2, 3, 0, 5] rfl ((T.2 q1).1 q2)
    · refine S_aload_n 2 dX4_readsChoice_60 rfl rfl ?_
      refine S_bipush (v := -3) dX4_readsChoice_61 (by decide) ?_
      refine S_callV [.int (-3)] [] m_RX4_64 rfl rfl ho1.1 ⟨rfl, by decide⟩ (Nat.le_of_ble_eq_true rfl) (zroom_0 (by decide)) dX4_readsChoice_63 (zCV_use ((T.2 q1).2 q2) ?_)
      intro I1_3 L1_3 M1_3 T1_3
      exact S_sub [1, 2, 3, 0, 5] rfl T1_3

set_option maxRecDepth 100000 in
theorem t_X4_readsChoice_82 {C : zC} {I : Nat → Nat → Int32} {L : Nat → Nat → Int64} {M : Nat → Nat → Option Nat} {h0 : zH} (d : Nat) {o1 : Nat} (ho1 : zHo o1)  (y2 : Int32) (y3 : Int32) (y4 : Int32) (y5 : Int32) (K : Int32 → (Nat → Nat → Int32) → (Nat → Nat → Int64) → (Nat → Nat → Option Nat) → Prop) (T : ((¬ y3 = 0 → zSI C h0 K Y_X4_readsChoice (d + 2) 93 [(0, .ref 138), (1, .ref o1), (2, .int y2), (3, .int y3), (4, .int y4), (5, .int y5)] [] I L M) ∧ (y3 = 0 → ((¬ y4 = 0 → zSI C h0 K Y_X4_readsChoice (d + 2) 93 [(0, .ref 138), (1, .ref o1), (2, .int y2), (3, .int y3), (4, .int y4), (5, .int y5)] [] I L M) ∧ (y4 = 0 → K 1 I L M))))) : zSI C h0 K Y_X4_readsChoice (d + 2) 82 [(0, .ref 138), (1, .ref o1), (2, .int y2), (3, .int y3), (4, .int y4), (5, .int y5)] [] I L M := by
  refine S_iload_n 3 dX4_readsChoice_82 rfl rfl ?_
  refine S_if_ne (tgt := 93) dX4_readsChoice_83 (by decide) (fun q1 => ?_) (fun q1 => ?_)
  · exact S_sub [0, 1, 2, 3, 4, 5] rfl (T.1 q1)
  · refine S_iload 4 dX4_readsChoice_86 rfl ?_
    refine S_if_ne (tgt := 93) dX4_readsChoice_88 (by decide) (fun q2 => ?_) (fun q2 => ?_)
    · exact S_sub [0, 1, 2, 3, 4, 5] rfl ((T.2 q1).1 q2)
    · refine S_iconst (v := 1) dX4_readsChoice_91 (by decide) ?_
      exact S_iretz rfl (by decide) dX4_readsChoice_92 ⟨_, I, L, M, rfl, rfl, ((T.2 q1).2 q2)⟩

set_option maxRecDepth 100000 in
theorem t_X4_readsChoice_66 {C : zC} {I : Nat → Nat → Int32} {L : Nat → Nat → Int64} {M : Nat → Nat → Option Nat} {h0 : zH} (d : Nat) {o1 : Nat} (ho1 : zHo o1)  (y2 : Int32) (y3 : Int32) (y5 : Int32) (K : Int32 → (Nat → Nat → Int32) → (Nat → Nat → Int64) → (Nat → Nat → Option Nat) → Prop) (T : zCI C Y_X4_next (d + 1) [.ref 138] (zmk I L M) (fun r1_1 I1_1 L1_1 M1_1 => ((¬ r1_1 = 124 → zSI C h0 K Y_X4_readsChoice (d + 2) 82 [(0, .ref 138), (1, .ref o1), (2, .int y2), (3, .int y3), (4, .int 0), (5, .int y5)] [] I1_1 L1_1 M1_1) ∧ (r1_1 = 124 → zSI C h0 K Y_X4_readsChoice (d + 2) 82 [(0, .ref 138), (1, .ref o1), (2, .int y2), (3, .int y3), (4, .int 1), (5, .int y5)] [] I1_1 L1_1 M1_1)))) : zSI C h0 K Y_X4_readsChoice (d + 2) 66 [(0, .ref 138), (1, .ref o1), (2, .int y2), (3, .int y3), (5, .int y5)] [] I L M := by
  refine S_aload_n 0 dX4_readsChoice_66 rfl rfl ?_
  refine S_callV [] [] m_RX4_35 rfl rfl s_138 ⟨rfl, by decide⟩ (Nat.le_of_ble_eq_true rfl) (zroom_0 (by decide)) dX4_readsChoice_67 (zCI_use T ?_)
  intro r1_1 I1_1 L1_1 M1_1 T1_1
  refine S_bipush (v := 124) dX4_readsChoice_70 (by decide) ?_
  refine S_icmp_ne (tgt := 79) dX4_readsChoice_72 (by decide) (fun q1 => ?_) (fun q1 => ?_)
  · refine S_iconst (v := 0) dX4_readsChoice_79 (by decide) ?_
    refine S_istore dX4_readsChoice_80 (by decide) rfl ?_
    exact S_sub [1, 2, 3, 4, 0, 5] rfl (T1_1.1 q1)
  · refine S_iconst (v := 1) dX4_readsChoice_75 (by decide) ?_
    refine S_goto (tgt := 80) dX4_readsChoice_76 (by decide) ?_
    refine S_istore dX4_readsChoice_80 (by decide) rfl ?_
    exact S_sub [1, 2, 3, 4, 0, 5] rfl (T1_1.2 q1)

set_option maxRecDepth 100000 in
theorem t_X4_readsChoice_93 {C : zC} {I : Nat → Nat → Int32} {L : Nat → Nat → Int64} {M : Nat → Nat → Option Nat} {h0 : zH} (d : Nat) {o1 : Nat} (ho1 : zHo o1)  (y2 : Int32) (y3 : Int32) (y4 : Int32) (y5 : Int32) (K : Int32 → (Nat → Nat → Int32) → (Nat → Nat → Int64) → (Nat → Nat → Option Nat) → Prop) (T : zSI C h0 K Y_X4_readsChoice (d + 2) 8 [(0, .ref 138), (1, .ref o1), (2, .int y2), (3, .int y3), (4, .int y4), (5, .int (y5 + 1))] [] (u2 I 138 2 (((I 138 2) + (1 : Int32)))) L M) : zSI C h0 K Y_X4_readsChoice (d + 2) 93 [(0, .ref 138), (1, .ref o1), (2, .int y2), (3, .int y3), (4, .int y4), (5, .int y5)] [] I L M := by
  refine S_aload_n 0 dX4_readsChoice_93 rfl rfl ?_
  refine S_dup dX4_readsChoice_94 rfl ?_
  refine S_getI f_RX4_24 s_138 dX4_readsChoice_95 ?_
  refine S_iconst (v := 1) dX4_readsChoice_98 (by decide) ?_
  refine S_iadd dX4_readsChoice_99 ?_
  refine S_putI f_RX4_24 s_138 (Or.inl rfl) rfl dX4_readsChoice_100 ?_
  refine S_iinc 5 dX4_readsChoice_103 rfl rfl (by decide) rfl ?_
  refine S_goto (tgt := 8) dX4_readsChoice_106 (by decide) ?_
  exact S_sub [1, 2, 3, 4, 5, 0] rfl T

set_option maxRecDepth 100000 in
theorem t_X4_readsClause {C : zC} {I : Nat → Nat → Int32} {L : Nat → Nat → Int64} {M : Nat → Nat → Option Nat} (d : Nat) {o1 : Nat} (ho1 : zHo o1) (K : Int32 → (Nat → Nat → Int32) → (Nat → Nat → Int64) → (Nat → Nat → Option Nat) → Prop) (T : zCI C Y_X4_next (d + 5) [.ref 138] (zmk I L M) (fun r1_1 I1_1 L1_1 M1_1 => ((¬ r1_1 = 102 → ((¬ r1_1 = 108 → zSI C (zmk I L M) K Y_X4_readsClause (d + 6) 33 [(0, .ref 138), (1, .ref o1), (2, .int r1_1), (3, .ref (1000010 + 2)), (4, .int 0)] [] I1_1 L1_1 M1_1) ∧ (r1_1 = 108 → zSI C (zmk I L M) K Y_X4_readsClause (d + 6) 33 [(0, .ref 138), (1, .ref o1), (2, .int r1_1), (3, .ref (1000010 + 1)), (4, .int 0)] [] I1_1 L1_1 M1_1))) ∧ (r1_1 = 102 → zSI C (zmk I L M) K Y_X4_readsClause (d + 6) 33 [(0, .ref 138), (1, .ref o1), (2, .int r1_1), (3, .ref (1000010 + 0)), (4, .int 0)] [] I1_1 L1_1 M1_1)))) : zCI C Y_X4_readsClause (d + 6) [.ref 138, .ref o1] (zmk I L M) K := by
  refine S_enter (by decide) (Nat.le_of_ble_eq_true rfl) ?_
  refine S_lv (lv' := [(0, .ref 138), (1, .ref o1)]) rfl ?_
  refine S_aload_n 0 dX4_readsClause_0 rfl rfl ?_
  refine S_callV [] [] m_RX4_35 rfl rfl s_138 ⟨rfl, by decide⟩ (Nat.le_of_ble_eq_true rfl) (zroom_0 (by decide)) dX4_readsClause_1 (zCI_use T ?_)
  intro r1_1 I1_1 L1_1 M1_1 T1_1
  refine S_istore_n dX4_readsClause_4 rfl (by decide) rfl ?_
  refine S_iload_n 0 dX4_readsClause_5 rfl rfl ?_
  refine S_bipush (v := 102) dX4_readsClause_6 (by decide) ?_
  refine S_icmp_ne (tgt := 16) dX4_readsClause_8 (by decide) (fun q1 => ?_) (fun q1 => ?_)
  · refine S_iload_n 0 dX4_readsClause_16 rfl rfl ?_
    refine S_bipush (v := 108) dX4_readsClause_17 (by decide) ?_
    refine S_icmp_ne (tgt := 27) dX4_readsClause_19 (by decide) (fun q2 => ?_) (fun q2 => ?_)
    · refine S_ldcS 2 (by decide) rfl rfl dX4_readsClause_27 ?_
      refine S_astore_n dX4_readsClause_29 rfl (by decide) rfl ?_
      refine S_iconst (v := 0) dX4_readsClause_30 (by decide) ?_
      refine S_istore dX4_readsClause_31 (by decide) rfl ?_
      exact S_sub [3, 4, 2, 1, 0] rfl ((T1_1.1 q1).1 q2)
    · refine S_ldcS 1 (by decide) rfl rfl dX4_readsClause_22 ?_
      refine S_goto (tgt := 29) dX4_readsClause_24 (by decide) ?_
      refine S_astore_n dX4_readsClause_29 rfl (by decide) rfl ?_
      refine S_iconst (v := 0) dX4_readsClause_30 (by decide) ?_
      refine S_istore dX4_readsClause_31 (by decide) rfl ?_
      exact S_sub [3, 4, 2, 1, 0] rfl ((T1_1.1 q1).2 q2)
  · refine S_ldcS 0 (by decide) rfl rfl dX4_readsClause_11 ?_
    refine S_goto (tgt := 29) dX4_readsClause_13 (by decide) ?_
    refine S_astore_n dX4_readsClause_29 rfl (by decide) rfl ?_
    refine S_iconst (v := 0) dX4_readsClause_30 (by decide) ?_
    refine S_istore dX4_readsClause_31 (by decide) rfl ?_
    exact S_sub [3, 4, 2, 1, 0] rfl (T1_1.2 q1)

set_option maxRecDepth 100000 in
theorem t_X4_readsClause_33 {C : zC} {I : Nat → Nat → Int32} {L : Nat → Nat → Int64} {M : Nat → Nat → Option Nat} {h0 : zH} (d : Nat) {o1 : Nat} (ho1 : zHo o1)  (y2 : Int32) (y4 : Int32) {s3 : Nat} (hs3 : s3 < 10) (K : Int32 → (Nat → Nat → Int32) → (Nat → Nat → Int64) → (Nat → Nat → Option Nat) → Prop) (T : zCI C Y_J0_length_8abf5 (d + 5) [.ref (1000010 + s3)] (zmk I L M) (fun r1_1 I1_1 L1_1 M1_1 => ((r1_1 ≤ y4 → zCI C Y_X4_readsNumber (d + 5) [.ref 138] (zmk I1_1 L1_1 M1_1) (fun r2_2 I2_2 L2_2 M2_2 => ((0 ≤ r2_2 → ((¬ y2 = 107 → zCI C Y_X4_takes (d + 5) [.ref 138, .int 32] (zmk I2_2 L2_2 M2_2) (fun r3_4 I3_4 L3_4 M3_4 => ((r3_4 = 0 → K 0 I3_4 L3_4 M3_4) ∧ (¬ (r3_4 = 0) → zCI C Y_X4_readsChoice (d + 5) [.ref 138, .ref o1, .int 0] (zmk I3_4 L3_4 M3_4) (fun r4_5 I4_5 L4_5 M4_5 => ((¬ r4_5 = 0 → ((¬ y2 = 102 → zCV C Y_X1_add (d + 5) [.ref o1, .int ((1048576 : Int32) - r2_2)] (zmk I4_5 L4_5 M4_5) (fun I5_7 L5_7 M5_7 => K 1 I5_7 L5_7 M5_7)) ∧ (y2 = 102 → zCV C Y_X1_add (d + 5) [.ref o1, .int ((1048576 : Int32) + r2_2)] (zmk I4_5 L4_5 M4_5) (fun I6_7 L6_7 M6_7 => K 1 I6_7 L6_7 M6_7)))) ∧ (r4_5 = 0 → K 0 I4_5 L4_5 M4_5))))))) ∧ (y2 = 107 → K 1 (u2 I2_2 o1 0 r2_2) L2_2 M2_2))) ∧ (¬ (0 ≤ r2_2) → K 0 I2_2 L2_2 M2_2)))) ∧ (¬ (r1_1 ≤ y4) → zCI C Y_J0_charAt_5068e (d + 5) [.ref (1000010 + s3), .int y4] (zmk I1_1 L1_1 M1_1) (fun r7_2 I7_2 L7_2 M7_2 => zCI C Y_X4_takes (d + 5) [.ref 138, .int r7_2] (zmk I7_2 L7_2 M7_2) (fun r8_2 I8_2 L8_2 M8_2 => ((¬ r8_2 = 0 → zSI C h0 K Y_X4_readsClause (d + 6) 33 [(0, .ref 138), (1, .ref o1), (2, .int y2), (3, .ref (1000010 + s3)), (4, .int (y4 + 1))] [] I8_2 L8_2 M8_2) ∧ (r8_2 = 0 → K 0 I8_2 L8_2 M8_2)))))))) : zSI C h0 K Y_X4_readsClause (d + 6) 33 [(0, .ref 138), (1, .ref o1), (2, .int y2), (3, .ref (1000010 + s3)), (4, .int y4)] [] I L M := by
  refine S_iload 4 dX4_readsClause_33 rfl ?_
  refine S_aload_n 3 dX4_readsClause_35 rfl rfl ?_
  refine S_callT s3 hs3 [] [.int y4] m_RX4_45 rfl rfl rfl (Nat.le_of_ble_eq_true rfl) (zroom_0 (by decide)) dX4_readsClause_36 (zCI_use T ?_)
  intro r1_1 I1_1 L1_1 M1_1 T1_1
  refine S_icmp_ge (tgt := 63) dX4_readsClause_39 (by decide) (fun q1 => ?_) (fun q1 => ?_)
  · refine S_aload_n 0 dX4_readsClause_63 rfl rfl ?_
    refine S_callV [] [] m_RX4_53 rfl rfl s_138 ⟨rfl, by decide⟩ (Nat.le_of_ble_eq_true rfl) (zroom_0 (by decide)) dX4_readsClause_64 (zCI_use (T1_1.1 q1) ?_)
    intro r2_2 I2_2 L2_2 M2_2 T2_2
    refine S_istore dX4_readsClause_67 (by decide) rfl ?_
    refine S_iload 0 dX4_readsClause_69 rfl ?_
    refine S_if_ge (tgt := 76) dX4_readsClause_71 (by decide) (fun q2 => ?_) (fun q2 => ?_)
    · refine S_iload_n 3 dX4_readsClause_76 rfl rfl ?_
      refine S_bipush (v := 107) dX4_readsClause_77 (by decide) ?_
      refine S_icmp_ne (tgt := 90) dX4_readsClause_79 (by decide) (fun q3 => ?_) (fun q3 => ?_)
      · refine S_aload_n 1 dX4_readsClause_90 rfl rfl ?_
        refine S_bipush (v := 32) dX4_readsClause_91 (by decide) ?_
        refine S_callV [.int 32] [] m_RX4_31 rfl rfl s_138 ⟨rfl, by decide⟩ (Nat.le_of_ble_eq_true rfl) (zroom_0 (by decide)) dX4_readsClause_93 (zCI_use ((T2_2.1 q2).1 q3) ?_)
        intro r3_4 I3_4 L3_4 M3_4 T3_4
        refine S_if_eq (tgt := 108) dX4_readsClause_96 (by decide) (fun q4 => ?_) (fun q4 => ?_)
        · refine S_iconst (v := 0) dX4_readsClause_108 (by decide) ?_
          exact S_iretz rfl (by decide) dX4_readsClause_109 ⟨_, I3_4, L3_4, M3_4, rfl, rfl, (T3_4.1 q4)⟩
        · refine S_aload_n 1 dX4_readsClause_99 rfl rfl ?_
          refine S_aload_n 2 dX4_readsClause_100 rfl rfl ?_
          refine S_iconst (v := 0) dX4_readsClause_101 (by decide) ?_
          refine S_callV [.ref o1, .int 0] [] m_RX4_59 rfl rfl s_138 ⟨rfl, by decide⟩ (Nat.le_of_ble_eq_true rfl) (zroom_0 (by decide)) dX4_readsClause_102 (zCI_use (T3_4.2 q4) ?_)
          intro r4_5 I4_5 L4_5 M4_5 T4_5
          refine S_if_ne (tgt := 110) dX4_readsClause_105 (by decide) (fun q5 => ?_) (fun q5 => ?_)
          · refine S_aload_n 2 dX4_readsClause_110 rfl rfl ?_
            refine S_iload_n 3 dX4_readsClause_111 rfl rfl ?_
            refine S_bipush (v := 102) dX4_readsClause_112 (by decide) ?_
            refine S_icmp_ne (tgt := 125) dX4_readsClause_114 (by decide) (fun q6 => ?_) (fun q6 => ?_)
            · refine S_ldc c_RX4_63 dX4_readsClause_125 ?_
              refine S_iload 0 dX4_readsClause_127 rfl ?_
              refine S_isub dX4_readsClause_129 ?_
              refine S_callV [.int ((1048576 : Int32) - r2_2)] [] m_RX4_64 rfl rfl ho1.1 ⟨rfl, by decide⟩ (Nat.le_of_ble_eq_true rfl) (zroom_0 (by decide)) dX4_readsClause_130 (zCV_use ((T4_5.1 q5).1 q6) ?_)
              intro I5_7 L5_7 M5_7 T5_7
              refine S_iconst (v := 1) dX4_readsClause_133 (by decide) ?_
              exact S_iretz rfl (by decide) dX4_readsClause_134 ⟨_, I5_7, L5_7, M5_7, rfl, rfl, T5_7⟩
            · refine S_ldc c_RX4_63 dX4_readsClause_117 ?_
              refine S_iload 0 dX4_readsClause_119 rfl ?_
              refine S_iadd dX4_readsClause_121 ?_
              refine S_goto (tgt := 130) dX4_readsClause_122 (by decide) ?_
              refine S_callV [.int ((1048576 : Int32) + r2_2)] [] m_RX4_64 rfl rfl ho1.1 ⟨rfl, by decide⟩ (Nat.le_of_ble_eq_true rfl) (zroom_0 (by decide)) dX4_readsClause_130 (zCV_use ((T4_5.1 q5).2 q6) ?_)
              intro I6_7 L6_7 M6_7 T6_7
              refine S_iconst (v := 1) dX4_readsClause_133 (by decide) ?_
              exact S_iretz rfl (by decide) dX4_readsClause_134 ⟨_, I6_7, L6_7, M6_7, rfl, rfl, T6_7⟩
          · refine S_iconst (v := 0) dX4_readsClause_108 (by decide) ?_
            exact S_iretz rfl (by decide) dX4_readsClause_109 ⟨_, I4_5, L4_5, M4_5, rfl, rfl, (T4_5.2 q5)⟩
      · refine S_aload_n 2 dX4_readsClause_82 rfl rfl ?_
        refine S_iload 0 dX4_readsClause_83 rfl ?_
        refine S_putI f_RX4_56 ho1.1 (Or.inl rfl) rfl dX4_readsClause_85 ?_
        refine S_iconst (v := 1) dX4_readsClause_88 (by decide) ?_
        exact S_iretz rfl (by decide) dX4_readsClause_89 ⟨_, u2 I2_2 o1 0 r2_2, L2_2, M2_2, rfl, rfl, ((T2_2.1 q2).2 q3)⟩
    · refine S_iconst (v := 0) dX4_readsClause_74 (by decide) ?_
      exact S_iretz rfl (by decide) dX4_readsClause_75 ⟨_, I2_2, L2_2, M2_2, rfl, rfl, (T2_2.2 q2)⟩
  · refine S_aload_n 0 dX4_readsClause_42 rfl rfl ?_
    refine S_aload_n 3 dX4_readsClause_43 rfl rfl ?_
    refine S_iload 4 dX4_readsClause_44 rfl ?_
    refine S_callT s3 hs3 [.int y4] [.ref 138] m_RX4_49 rfl rfl rfl (Nat.le_of_ble_eq_true rfl) (zroom_0 (by decide)) dX4_readsClause_46 (zCI_use (T1_1.2 q1) ?_)
    intro r7_2 I7_2 L7_2 M7_2 T7_2
    refine S_callV [.int r7_2] [] m_RX4_31 rfl rfl s_138 ⟨rfl, by decide⟩ (Nat.le_of_ble_eq_true rfl) (zroom_0 (by decide)) dX4_readsClause_49 (zCI_use T7_2 ?_)
    intro r8_2 I8_2 L8_2 M8_2 T8_2
    refine S_if_ne (tgt := 57) dX4_readsClause_52 (by decide) (fun q2 => ?_) (fun q2 => ?_)
    · refine S_iinc 4 dX4_readsClause_57 rfl rfl (by decide) rfl ?_
      refine S_goto (tgt := 33) dX4_readsClause_60 (by decide) ?_
      exact S_sub [1, 2, 3, 4, 0] rfl (T8_2.1 q2)
    · refine S_iconst (v := 0) dX4_readsClause_55 (by decide) ?_
      exact S_iretz rfl (by decide) dX4_readsClause_56 ⟨_, I8_2, L8_2, M8_2, rfl, rfl, (T8_2.2 q2)⟩

set_option maxRecDepth 100000 in
theorem t_X4_readsNumber {C : zC} {I : Nat → Nat → Int32} {L : Nat → Nat → Int64} {M : Nat → Nat → Option Nat} (d : Nat)   (K : Int32 → (Nat → Nat → Int32) → (Nat → Nat → Int64) → (Nat → Nat → Option Nat) → Prop) (T : zSI C (zmk I L M) K Y_X4_readsNumber (d + 1) 4 [(0, .ref 138), (1, .int (-1)), (2, .int 0)] [] I L M) : zCI C Y_X4_readsNumber (d + 1) [.ref 138] (zmk I L M) K := by
  refine S_enter (by decide) (Nat.le_of_ble_eq_true rfl) ?_
  refine S_lv (lv' := [(0, .ref 138)]) rfl ?_
  refine S_iconst (v := -1) dX4_readsNumber_0 (by decide) ?_
  refine S_istore_n dX4_readsNumber_1 rfl (by decide) rfl ?_
  refine S_iconst (v := 0) dX4_readsNumber_2 (by decide) ?_
  refine S_istore_n dX4_readsNumber_3 rfl (by decide) rfl ?_
  exact S_sub [2, 1, 0] rfl T

set_option maxRecDepth 100000 in
theorem t_X4_readsNumber_4 {C : zC} {I : Nat → Nat → Int32} {L : Nat → Nat → Int64} {M : Nat → Nat → Option Nat} {h0 : zH} (d : Nat)   (y1 : Int32) (y2 : Int32) (K : Int32 → (Nat → Nat → Int32) → (Nat → Nat → Int64) → (Nat → Nat → Option Nat) → Prop) (T : ((2 ≤ y2 → K y1 I L M) ∧ (¬ (2 ≤ y2) → (((I 138 1) ≤ (I 138 2) → K y1 I L M) ∧ (¬ ((I 138 1) ≤ (I 138 2)) → vp_in ((I 138 2)) 100 ∧ (((I 139 (((I 138 2)).toNatClampNeg)) < 48 → K y1 I L M) ∧ (¬ ((I 139 (((I 138 2)).toNatClampNeg)) < 48) → vp_in ((I 138 2)) 100 ∧ ((57 < (I 139 (((I 138 2)).toNatClampNeg)) → K y1 I L M) ∧ (¬ (57 < (I 139 (((I 138 2)).toNatClampNeg))) → ((0 ≤ y1 → zSI C h0 K Y_X4_readsNumber (d + 1) 60 [(0, .ref 138), (2, .int y2)] [.int (y1 * (10 : Int32))] I L M) ∧ (¬ (0 ≤ y1) → zSI C h0 K Y_X4_readsNumber (d + 1) 60 [(0, .ref 138), (2, .int y2)] [.int 0] I L M))))))))))) : zSI C h0 K Y_X4_readsNumber (d + 1) 4 [(0, .ref 138), (1, .int y1), (2, .int y2)] [] I L M := by
  refine S_iload_n 2 dX4_readsNumber_4 rfl rfl ?_
  refine S_iconst (v := 2) dX4_readsNumber_5 (by decide) ?_
  refine S_icmp_ge (tgt := 90) dX4_readsNumber_6 (by decide) (fun q1 => ?_) (fun q1 => ?_)
  · refine S_iload_n 1 dX4_readsNumber_90 rfl rfl ?_
    exact S_ireti rfl dX4_readsNumber_91 ⟨_, I, L, M, rfl, rfl, (T.1 q1)⟩
  · refine S_aload_n 0 dX4_readsNumber_9 rfl rfl ?_
    refine S_getI f_RX4_24 s_138 dX4_readsNumber_10 ?_
    refine S_aload_n 0 dX4_readsNumber_13 rfl rfl ?_
    refine S_getI f_RX4_15 s_138 dX4_readsNumber_14 ?_
    refine S_icmp_ge (tgt := 90) dX4_readsNumber_17 (by decide) (fun q2 => ?_) (fun q2 => ?_)
    · refine S_iload_n 1 dX4_readsNumber_90 rfl rfl ?_
      exact S_ireti rfl dX4_readsNumber_91 ⟨_, I, L, M, rfl, rfl, ((T.2 q1).1 q2)⟩
    · refine S_aload_n 0 dX4_readsNumber_20 rfl rfl ?_
      refine S_getP f_RX4_9 s_138 p_138_0 dX4_readsNumber_21 ?_
      refine S_aload_n 0 dX4_readsNumber_24 rfl rfl ?_
      refine S_getI f_RX4_24 s_138 dX4_readsNumber_25 ?_
      refine S_iald s_139 ((T.2 q1).2 q2).1 dX4_readsNumber_28 ?_
      refine S_bipush (v := 48) dX4_readsNumber_29 (by decide) ?_
      refine S_icmp_lt (tgt := 90) dX4_readsNumber_31 (by decide) (fun q3 => ?_) (fun q3 => ?_)
      · refine S_iload_n 1 dX4_readsNumber_90 rfl rfl ?_
        exact S_ireti rfl dX4_readsNumber_91 ⟨_, I, L, M, rfl, rfl, (((T.2 q1).2 q2).2.1 q3)⟩
      · refine S_aload_n 0 dX4_readsNumber_34 rfl rfl ?_
        refine S_getP f_RX4_9 s_138 p_138_0 dX4_readsNumber_35 ?_
        refine S_aload_n 0 dX4_readsNumber_38 rfl rfl ?_
        refine S_getI f_RX4_24 s_138 dX4_readsNumber_39 ?_
        refine S_iald s_139 (((T.2 q1).2 q2).2.2 q3).1 dX4_readsNumber_42 ?_
        refine S_bipush (v := 57) dX4_readsNumber_43 (by decide) ?_
        refine S_icmp_gt (tgt := 90) dX4_readsNumber_45 (by decide) (fun q4 => ?_) (fun q4 => ?_)
        · refine S_iload_n 1 dX4_readsNumber_90 rfl rfl ?_
          exact S_ireti rfl dX4_readsNumber_91 ⟨_, I, L, M, rfl, rfl, ((((T.2 q1).2 q2).2.2 q3).2.1 q4)⟩
        · refine S_iload_n 1 dX4_readsNumber_48 rfl rfl ?_
          refine S_if_ge (tgt := 56) dX4_readsNumber_49 (by decide) (fun q5 => ?_) (fun q5 => ?_)
          · refine S_iload_n 1 dX4_readsNumber_56 rfl rfl ?_
            refine S_bipush (v := 10) dX4_readsNumber_57 (by decide) ?_
            refine S_imul dX4_readsNumber_59 ?_
            exact S_sub [0, 2] rfl (((((T.2 q1).2 q2).2.2 q3).2.2 q4).1 q5)
          · refine S_iconst (v := 0) dX4_readsNumber_52 (by decide) ?_
            refine S_goto (tgt := 60) dX4_readsNumber_53 (by decide) ?_
            exact S_sub [0, 2] rfl (((((T.2 q1).2 q2).2.2 q3).2.2 q4).2 q5)

set_option maxRecDepth 100000 in
theorem t_X4_readsNumber_60 {C : zC} {I : Nat → Nat → Int32} {L : Nat → Nat → Int64} {M : Nat → Nat → Option Nat} {h0 : zH} (d : Nat)   (y2 : Int32) (z0 : Int32) (K : Int32 → (Nat → Nat → Int32) → (Nat → Nat → Int64) → (Nat → Nat → Option Nat) → Prop) (T : vp_in ((I 138 2)) 100 ∧ zSI C h0 K Y_X4_readsNumber (d + 1) 4 [(0, .ref 138), (1, .int ((z0 + (I 139 (((I 138 2)).toNatClampNeg))) - (48 : Int32))), (2, .int (y2 + 1))] [] (u2 I 138 2 (((I 138 2) + (1 : Int32)))) L M) : zSI C h0 K Y_X4_readsNumber (d + 1) 60 [(0, .ref 138), (2, .int y2)] [.int z0] I L M := by
  refine S_aload_n 0 dX4_readsNumber_60 rfl rfl ?_
  refine S_getP f_RX4_9 s_138 p_138_0 dX4_readsNumber_61 ?_
  refine S_aload_n 0 dX4_readsNumber_64 rfl rfl ?_
  refine S_getI f_RX4_24 s_138 dX4_readsNumber_65 ?_
  refine S_iald s_139 T.1 dX4_readsNumber_68 ?_
  refine S_iadd dX4_readsNumber_69 ?_
  refine S_bipush (v := 48) dX4_readsNumber_70 (by decide) ?_
  refine S_isub dX4_readsNumber_72 ?_
  refine S_istore_n dX4_readsNumber_73 rfl (by decide) rfl ?_
  refine S_aload_n 1 dX4_readsNumber_74 rfl rfl ?_
  refine S_dup dX4_readsNumber_75 rfl ?_
  refine S_getI f_RX4_24 s_138 dX4_readsNumber_76 ?_
  refine S_iconst (v := 1) dX4_readsNumber_79 (by decide) ?_
  refine S_iadd dX4_readsNumber_80 ?_
  refine S_putI f_RX4_24 s_138 (Or.inl rfl) rfl dX4_readsNumber_81 ?_
  refine S_iinc 2 dX4_readsNumber_84 rfl rfl (by decide) rfl ?_
  refine S_goto (tgt := 4) dX4_readsNumber_87 (by decide) ?_
  exact S_sub [2, 1, 0] rfl T.2

set_option maxRecDepth 100000 in
theorem t_X4_readsOne {C : zC} {I : Nat → Nat → Int32} {L : Nat → Nat → Int64} {M : Nat → Nat → Option Nat} (d : Nat) {o1 : Nat} (x2 : Int32) (ho1 : zHo o1) (K : Int32 → (Nat → Nat → Int32) → (Nat → Nat → Int64) → (Nat → Nat → Option Nat) → Prop) (T : ((4 ≤ x2 → zSI C (zmk I L M) K Y_X4_readsOne (d + 10) 50 [(0, .ref 138), (1, .ref o1), (2, .int x2)] [] I L M) ∧ (¬ (4 ≤ x2) → zCI C Y_X4_next (d + 9) [.ref 138] (zmk I L M) (fun r1_2 I1_2 L1_2 M1_2 => ((¬ r1_2 = 40 → zSI C (zmk I L M) K Y_X4_readsOne (d + 10) 50 [(0, .ref 138), (1, .ref o1), (2, .int x2)] [] I1_2 L1_2 M1_2) ∧ (r1_2 = 40 → zCI C Y_X4_readsChoice (d + 9) [.ref 138, .ref o1, .int (x2 + (1 : Int32))] (zmk (u2 I1_2 138 2 (((I1_2 138 2) + (1 : Int32)))) L1_2 M1_2) (fun r2_3 I2_3 L2_3 M2_3 => ((r2_3 = 0 → K 0 I2_3 L2_3 M2_3) ∧ (¬ (r2_3 = 0) → zCI C Y_X4_takes (d + 9) [.ref 138, .int 41] (zmk I2_3 L2_3 M2_3) (fun r3_4 I3_4 L3_4 M3_4 => ((r3_4 = 0 → K 0 I3_4 L3_4 M3_4) ∧ (¬ (r3_4 = 0) → K 1 I3_4 L3_4 M3_4)))))))))))) : zCI C Y_X4_readsOne (d + 10) [.ref 138, .ref o1, .int x2] (zmk I L M) K := by
  refine S_enter (by decide) (Nat.le_of_ble_eq_true rfl) ?_
  refine S_lv (lv' := [(0, .ref 138), (1, .ref o1), (2, .int x2)]) rfl ?_
  refine S_iload_n 2 dX4_readsOne_0 rfl rfl ?_
  refine S_iconst (v := 4) dX4_readsOne_1 (by decide) ?_
  refine S_icmp_ge (tgt := 50) dX4_readsOne_2 (by decide) (fun q1 => ?_) (fun q1 => ?_)
  · exact S_sub [0, 1, 2] rfl (T.1 q1)
  · refine S_aload_n 0 dX4_readsOne_5 rfl rfl ?_
    refine S_callV [] [] m_RX4_35 rfl rfl s_138 ⟨rfl, by decide⟩ (Nat.le_of_ble_eq_true rfl) (zroom_0 (by decide)) dX4_readsOne_6 (zCI_use (T.2 q1) ?_)
    intro r1_2 I1_2 L1_2 M1_2 T1_2
    refine S_bipush (v := 40) dX4_readsOne_9 (by decide) ?_
    refine S_icmp_ne (tgt := 50) dX4_readsOne_11 (by decide) (fun q2 => ?_) (fun q2 => ?_)
    · exact S_sub [0, 1, 2] rfl (T1_2.1 q2)
    · refine S_aload_n 0 dX4_readsOne_14 rfl rfl ?_
      refine S_dup dX4_readsOne_15 rfl ?_
      refine S_getI f_RX4_24 s_138 dX4_readsOne_16 ?_
      refine S_iconst (v := 1) dX4_readsOne_19 (by decide) ?_
      refine S_iadd dX4_readsOne_20 ?_
      refine S_putI f_RX4_24 s_138 (Or.inl rfl) rfl dX4_readsOne_21 ?_
      refine S_aload_n 0 dX4_readsOne_24 rfl rfl ?_
      refine S_aload_n 1 dX4_readsOne_25 rfl rfl ?_
      refine S_iload_n 2 dX4_readsOne_26 rfl rfl ?_
      refine S_iconst (v := 1) dX4_readsOne_27 (by decide) ?_
      refine S_iadd dX4_readsOne_28 ?_
      refine S_callV [.ref o1, .int (x2 + (1 : Int32))] [] m_RX4_59 rfl rfl s_138 ⟨rfl, by decide⟩ (Nat.le_of_ble_eq_true rfl) (zroom_0 (by decide)) dX4_readsOne_29 (zCI_use (T1_2.2 q2) ?_)
      intro r2_3 I2_3 L2_3 M2_3 T2_3
      refine S_if_eq (tgt := 48) dX4_readsOne_32 (by decide) (fun q3 => ?_) (fun q3 => ?_)
      · refine S_iconst (v := 0) dX4_readsOne_48 (by decide) ?_
        exact S_iretz rfl (by decide) dX4_readsOne_49 ⟨_, I2_3, L2_3, M2_3, rfl, rfl, (T2_3.1 q3)⟩
      · refine S_aload_n 0 dX4_readsOne_35 rfl rfl ?_
        refine S_bipush (v := 41) dX4_readsOne_36 (by decide) ?_
        refine S_callV [.int 41] [] m_RX4_31 rfl rfl s_138 ⟨rfl, by decide⟩ (Nat.le_of_ble_eq_true rfl) (zroom_0 (by decide)) dX4_readsOne_38 (zCI_use (T2_3.2 q3) ?_)
        intro r3_4 I3_4 L3_4 M3_4 T3_4
        refine S_if_eq (tgt := 48) dX4_readsOne_41 (by decide) (fun q4 => ?_) (fun q4 => ?_)
        · refine S_iconst (v := 0) dX4_readsOne_48 (by decide) ?_
          exact S_iretz rfl (by decide) dX4_readsOne_49 ⟨_, I3_4, L3_4, M3_4, rfl, rfl, (T3_4.1 q4)⟩
        · refine S_iconst (v := 1) dX4_readsOne_44 (by decide) ?_
          refine S_goto (tgt := 49) dX4_readsOne_45 (by decide) ?_
          exact S_iretz rfl (by decide) dX4_readsOne_49 ⟨_, I3_4, L3_4, M3_4, rfl, rfl, (T3_4.2 q4)⟩

set_option maxRecDepth 100000 in
theorem t_X4_readsOne_50 {C : zC} {I : Nat → Nat → Int32} {L : Nat → Nat → Int64} {M : Nat → Nat → Option Nat} {h0 : zH} (d : Nat) {o1 : Nat} (ho1 : zHo o1)  (y2 : Int32) (K : Int32 → (Nat → Nat → Int32) → (Nat → Nat → Int64) → (Nat → Nat → Option Nat) → Prop) (T : ((4 ≤ y2 → zCI C Y_X4_readsTest (d + 9) [.ref 138, .ref o1] (zmk I L M) (fun r1_2 I1_2 L1_2 M1_2 => ((r1_2 = 0 ∨ r1_2 = 1) ∧ K r1_2 I1_2 L1_2 M1_2))) ∧ (¬ (4 ≤ y2) → zCI C Y_X4_next (d + 9) [.ref 138] (zmk I L M) (fun r2_2 I2_2 L2_2 M2_2 => ((¬ r2_2 = 33 → zCI C Y_X4_readsTest (d + 9) [.ref 138, .ref o1] (zmk I2_2 L2_2 M2_2) (fun r3_3 I3_3 L3_3 M3_3 => ((r3_3 = 0 ∨ r3_3 = 1) ∧ K r3_3 I3_3 L3_3 M3_3))) ∧ (r2_2 = 33 → zCI C Y_X4_readsOne (d + 9) [.ref 138, .ref o1, .int (y2 + (1 : Int32))] (zmk (u2 I2_2 138 2 (((I2_2 138 2) + (1 : Int32)))) L2_2 M2_2) (fun r4_3 I4_3 L4_3 M4_3 => ((¬ r4_3 = 0 → zCV C Y_X1_add (d + 9) [.ref o1, .int (-1)] (zmk I4_3 L4_3 M4_3) (fun I5_4 L5_4 M5_4 => K 1 I5_4 L5_4 M5_4)) ∧ (r4_3 = 0 → K 0 I4_3 L4_3 M4_3))))))))) : zSI C h0 K Y_X4_readsOne (d + 10) 50 [(0, .ref 138), (1, .ref o1), (2, .int y2)] [] I L M := by
  refine S_iload_n 2 dX4_readsOne_50 rfl rfl ?_
  refine S_iconst (v := 4) dX4_readsOne_51 (by decide) ?_
  refine S_icmp_ge (tgt := 94) dX4_readsOne_52 (by decide) (fun q1 => ?_) (fun q1 => ?_)
  · refine S_aload_n 0 dX4_readsOne_94 rfl rfl ?_
    refine S_aload_n 1 dX4_readsOne_95 rfl rfl ?_
    refine S_callV [.ref o1] [] m_RX4_71 rfl rfl s_138 ⟨rfl, by decide⟩ (Nat.le_of_ble_eq_true rfl) (zroom_0 (by decide)) dX4_readsOne_96 (zCI_use (T.1 q1) ?_)
    intro r1_2 I1_2 L1_2 M1_2 T1_2
    exact S_iretz rfl T1_2.1 dX4_readsOne_99 ⟨_, I1_2, L1_2, M1_2, rfl, rfl, T1_2.2⟩
  · refine S_aload_n 0 dX4_readsOne_55 rfl rfl ?_
    refine S_callV [] [] m_RX4_35 rfl rfl s_138 ⟨rfl, by decide⟩ (Nat.le_of_ble_eq_true rfl) (zroom_0 (by decide)) dX4_readsOne_56 (zCI_use (T.2 q1) ?_)
    intro r2_2 I2_2 L2_2 M2_2 T2_2
    refine S_bipush (v := 33) dX4_readsOne_59 (by decide) ?_
    refine S_icmp_ne (tgt := 94) dX4_readsOne_61 (by decide) (fun q2 => ?_) (fun q2 => ?_)
    · refine S_aload_n 0 dX4_readsOne_94 rfl rfl ?_
      refine S_aload_n 1 dX4_readsOne_95 rfl rfl ?_
      refine S_callV [.ref o1] [] m_RX4_71 rfl rfl s_138 ⟨rfl, by decide⟩ (Nat.le_of_ble_eq_true rfl) (zroom_0 (by decide)) dX4_readsOne_96 (zCI_use (T2_2.1 q2) ?_)
      intro r3_3 I3_3 L3_3 M3_3 T3_3
      exact S_iretz rfl T3_3.1 dX4_readsOne_99 ⟨_, I3_3, L3_3, M3_3, rfl, rfl, T3_3.2⟩
    · refine S_aload_n 0 dX4_readsOne_64 rfl rfl ?_
      refine S_dup dX4_readsOne_65 rfl ?_
      refine S_getI f_RX4_24 s_138 dX4_readsOne_66 ?_
      refine S_iconst (v := 1) dX4_readsOne_69 (by decide) ?_
      refine S_iadd dX4_readsOne_70 ?_
      refine S_putI f_RX4_24 s_138 (Or.inl rfl) rfl dX4_readsOne_71 ?_
      refine S_aload_n 0 dX4_readsOne_74 rfl rfl ?_
      refine S_aload_n 1 dX4_readsOne_75 rfl rfl ?_
      refine S_iload_n 2 dX4_readsOne_76 rfl rfl ?_
      refine S_iconst (v := 1) dX4_readsOne_77 (by decide) ?_
      refine S_iadd dX4_readsOne_78 ?_
      refine S_callV [.ref o1, .int (y2 + (1 : Int32))] [] m_RX4_68 rfl rfl s_138 ⟨rfl, by decide⟩ (Nat.le_of_ble_eq_true rfl) (zroom_0 (by decide)) dX4_readsOne_79 (zCI_use (T2_2.2 q2) ?_)
      intro r4_3 I4_3 L4_3 M4_3 T4_3
      refine S_if_ne (tgt := 87) dX4_readsOne_82 (by decide) (fun q3 => ?_) (fun q3 => ?_)
      · refine S_aload_n 1 dX4_readsOne_87 rfl rfl ?_
        refine S_iconst (v := -1) dX4_readsOne_88 (by decide) ?_
        refine S_callV [.int (-1)] [] m_RX4_64 rfl rfl ho1.1 ⟨rfl, by decide⟩ (Nat.le_of_ble_eq_true rfl) (zroom_0 (by decide)) dX4_readsOne_89 (zCV_use (T4_3.1 q3) ?_)
        intro I5_4 L5_4 M5_4 T5_4
        refine S_iconst (v := 1) dX4_readsOne_92 (by decide) ?_
        exact S_iretz rfl (by decide) dX4_readsOne_93 ⟨_, I5_4, L5_4, M5_4, rfl, rfl, T5_4⟩
      · refine S_iconst (v := 0) dX4_readsOne_85 (by decide) ?_
        exact S_iretz rfl (by decide) dX4_readsOne_86 ⟨_, I4_3, L4_3, M4_3, rfl, rfl, (T4_3.2 q3)⟩

set_option maxRecDepth 100000 in
theorem t_X4_readsTest {C : zC} {I : Nat → Nat → Int32} {L : Nat → Nat → Int64} {M : Nat → Nat → Option Nat} (d : Nat) {o1 : Nat} (ho1 : zHo o1) (K : Int32 → (Nat → Nat → Int32) → (Nat → Nat → Int64) → (Nat → Nat → Option Nat) → Prop) (T : zCI C Y_X4_readsAnyOf (d + 8) [.ref 138, .ref (1000010 + 3)] (zmk I L M) (fun r1_1 I1_1 L1_1 M1_1 => ((0 ≤ r1_1 → zCI C Y_X4_readsAnyOf (d + 8) [.ref 138, .ref (1000010 + 4)] (zmk I1_1 L1_1 M1_1) (fun r2_2 I2_2 L2_2 M2_2 => ((0 ≤ r2_2 → zCI C Y_X4_readsNumber (d + 8) [.ref 138] (zmk I2_2 L2_2 M2_2) (fun r3_3 I3_3 L3_3 M3_3 => ((0 ≤ r3_3 → ((¬ r2_2 = 0 → ((¬ r2_2 = 1 → zSI C (zmk I L M) K Y_X4_readsTest (d + 9) 61 [(1, .ref o1), (2, .int r1_1), (3, .int r2_2), (4, .int r3_3)] [.int (r3_3 + (1 : Int32))] I3_3 L3_3 M3_3) ∧ (r2_2 = 1 → zSI C (zmk I L M) K Y_X4_readsTest (d + 9) 61 [(1, .ref o1), (2, .int r1_1), (3, .int r2_2), (4, .int r3_3)] [.int r3_3] I3_3 L3_3 M3_3))) ∧ (r2_2 = 0 → zSI C (zmk I L M) K Y_X4_readsTest (d + 9) 61 [(1, .ref o1), (2, .int r1_1), (3, .int r2_2), (4, .int r3_3)] [.int 0] I3_3 L3_3 M3_3))) ∧ (¬ (0 ≤ r3_3) → K 0 I3_3 L3_3 M3_3)))) ∧ (¬ (0 ≤ r2_2) → K 0 I2_2 L2_2 M2_2)))) ∧ (¬ (0 ≤ r1_1) → K 0 I1_1 L1_1 M1_1)))) : zCI C Y_X4_readsTest (d + 9) [.ref 138, .ref o1] (zmk I L M) K := by
  refine S_enter (by decide) (Nat.le_of_ble_eq_true rfl) ?_
  refine S_lv (lv' := [(0, .ref 138), (1, .ref o1)]) rfl ?_
  refine S_aload_n 0 dX4_readsTest_0 rfl rfl ?_
  refine S_ldcS 3 (by decide) rfl rfl dX4_readsTest_1 ?_
  refine S_callV [.ref (1000010 + 3)] [] m_RX4_76 rfl rfl s_138 ⟨rfl, by decide⟩ (Nat.le_of_ble_eq_true rfl) (zroom_0 (by decide)) dX4_readsTest_3 (zCI_use T ?_)
  intro r1_1 I1_1 L1_1 M1_1 T1_1
  refine S_istore_n dX4_readsTest_6 rfl (by decide) rfl ?_
  refine S_iload_n 0 dX4_readsTest_7 rfl rfl ?_
  refine S_if_ge (tgt := 13) dX4_readsTest_8 (by decide) (fun q1 => ?_) (fun q1 => ?_)
  · refine S_aload_n 1 dX4_readsTest_13 rfl rfl ?_
    refine S_ldcS 4 (by decide) rfl rfl dX4_readsTest_14 ?_
    refine S_callV [.ref (1000010 + 4)] [] m_RX4_76 rfl rfl s_138 ⟨rfl, by decide⟩ (Nat.le_of_ble_eq_true rfl) (zroom_0 (by decide)) dX4_readsTest_16 (zCI_use (T1_1.1 q1) ?_)
    intro r2_2 I2_2 L2_2 M2_2 T2_2
    refine S_istore_n dX4_readsTest_19 rfl (by decide) rfl ?_
    refine S_iload_n 0 dX4_readsTest_20 rfl rfl ?_
    refine S_if_ge (tgt := 26) dX4_readsTest_21 (by decide) (fun q2 => ?_) (fun q2 => ?_)
    · refine S_aload_n 2 dX4_readsTest_26 rfl rfl ?_
      refine S_callV [] [] m_RX4_53 rfl rfl s_138 ⟨rfl, by decide⟩ (Nat.le_of_ble_eq_true rfl) (zroom_0 (by decide)) dX4_readsTest_27 (zCI_use (T2_2.1 q2) ?_)
      intro r3_3 I3_3 L3_3 M3_3 T3_3
      refine S_istore dX4_readsTest_30 (by decide) rfl ?_
      refine S_iload 0 dX4_readsTest_32 rfl ?_
      refine S_if_ge (tgt := 39) dX4_readsTest_34 (by decide) (fun q3 => ?_) (fun q3 => ?_)
      · refine S_iload_n 1 dX4_readsTest_39 rfl rfl ?_
        refine S_if_ne (tgt := 47) dX4_readsTest_40 (by decide) (fun q4 => ?_) (fun q4 => ?_)
        · refine S_iload_n 1 dX4_readsTest_47 rfl rfl ?_
          refine S_iconst (v := 1) dX4_readsTest_48 (by decide) ?_
          refine S_icmp_ne (tgt := 57) dX4_readsTest_49 (by decide) (fun q5 => ?_) (fun q5 => ?_)
          · refine S_iload 0 dX4_readsTest_57 rfl ?_
            refine S_iconst (v := 1) dX4_readsTest_59 (by decide) ?_
            refine S_iadd dX4_readsTest_60 ?_
            exact S_sub [4, 2, 1, 0] rfl (((T3_3.1 q3).1 q4).1 q5)
          · refine S_iload 0 dX4_readsTest_52 rfl ?_
            refine S_goto (tgt := 61) dX4_readsTest_54 (by decide) ?_
            exact S_sub [4, 2, 1, 0] rfl (((T3_3.1 q3).1 q4).2 q5)
        · refine S_iconst (v := 0) dX4_readsTest_43 (by decide) ?_
          refine S_goto (tgt := 61) dX4_readsTest_44 (by decide) ?_
          exact S_sub [4, 2, 1, 0] rfl ((T3_3.1 q3).2 q4)
      · refine S_iconst (v := 0) dX4_readsTest_37 (by decide) ?_
        exact S_iretz rfl (by decide) dX4_readsTest_38 ⟨_, I3_3, L3_3, M3_3, rfl, rfl, (T3_3.2 q3)⟩
    · refine S_iconst (v := 0) dX4_readsTest_24 (by decide) ?_
      exact S_iretz rfl (by decide) dX4_readsTest_25 ⟨_, I2_2, L2_2, M2_2, rfl, rfl, (T2_2.2 q2)⟩
  · refine S_iconst (v := 0) dX4_readsTest_11 (by decide) ?_
    exact S_iretz rfl (by decide) dX4_readsTest_12 ⟨_, I1_1, L1_1, M1_1, rfl, rfl, (T1_1.2 q1)⟩

set_option maxRecDepth 100000 in
theorem t_X4_readsTest_61 {C : zC} {I : Nat → Nat → Int32} {L : Nat → Nat → Int64} {M : Nat → Nat → Option Nat} {h0 : zH} (d : Nat) {o1 : Nat} (ho1 : zHo o1)  (y2 : Int32) (y3 : Int32) (y4 : Int32) (z0 : Int32) (K : Int32 → (Nat → Nat → Int32) → (Nat → Nat → Int64) → (Nat → Nat → Option Nat) → Prop) (T : ((¬ y3 = 0 → ((¬ y3 = 1 → zSI C h0 K Y_X4_readsTest (d + 9) 86 [(1, .ref o1), (2, .int y2), (5, .int z0)] [.int 127] I L M) ∧ (y3 = 1 → zSI C h0 K Y_X4_readsTest (d + 9) 86 [(1, .ref o1), (2, .int y2), (5, .int z0)] [.int (y4 + (1 : Int32))] I L M))) ∧ (y3 = 0 → zSI C h0 K Y_X4_readsTest (d + 9) 86 [(1, .ref o1), (2, .int y2), (5, .int z0)] [.int y4] I L M))) : zSI C h0 K Y_X4_readsTest (d + 9) 61 [(1, .ref o1), (2, .int y2), (3, .int y3), (4, .int y4)] [.int z0] I L M := by
  refine S_istore dX4_readsTest_61 (by decide) rfl ?_
  refine S_iload_n 3 dX4_readsTest_63 rfl rfl ?_
  refine S_if_ne (tgt := 72) dX4_readsTest_64 (by decide) (fun q1 => ?_) (fun q1 => ?_)
  · refine S_iload_n 3 dX4_readsTest_72 rfl rfl ?_
    refine S_iconst (v := 1) dX4_readsTest_73 (by decide) ?_
    refine S_icmp_ne (tgt := 84) dX4_readsTest_74 (by decide) (fun q2 => ?_) (fun q2 => ?_)
    · refine S_bipush (v := 127) dX4_readsTest_84 (by decide) ?_
      exact S_sub [1, 2, 0] rfl ((T.1 q1).1 q2)
    · refine S_iload 4 dX4_readsTest_77 rfl ?_
      refine S_iconst (v := 1) dX4_readsTest_79 (by decide) ?_
      refine S_iadd dX4_readsTest_80 ?_
      refine S_goto (tgt := 86) dX4_readsTest_81 (by decide) ?_
      exact S_sub [1, 2, 0] rfl ((T.1 q1).2 q2)
  · refine S_iload 4 dX4_readsTest_67 rfl ?_
    refine S_goto (tgt := 86) dX4_readsTest_69 (by decide) ?_
    exact S_sub [1, 2, 0] rfl (T.2 q1)

set_option maxRecDepth 100000 in
theorem t_X4_readsTest_86 {C : zC} {I : Nat → Nat → Int32} {L : Nat → Nat → Int64} {M : Nat → Nat → Option Nat} {h0 : zH} (d : Nat) {o1 : Nat} (ho1 : zHo o1)  (y2 : Int32) (y5 : Int32) (z0 : Int32) (K : Int32 → (Nat → Nat → Int32) → (Nat → Nat → Int64) → (Nat → Nat → Option Nat) → Prop) (T : zCV C Y_X1_add (d + 8) [.ref o1, .int (((y2 <<< ((14 : Int32) &&& 31)) ||| (y5 <<< ((7 : Int32) &&& 31))) ||| z0)] (zmk I L M) (fun I1_1 L1_1 M1_1 => K 1 I1_1 L1_1 M1_1)) : zSI C h0 K Y_X4_readsTest (d + 9) 86 [(1, .ref o1), (2, .int y2), (5, .int y5)] [.int z0] I L M := by
  refine S_istore dX4_readsTest_86 (by decide) rfl ?_
  refine S_aload_n 1 dX4_readsTest_88 rfl rfl ?_
  refine S_iload_n 2 dX4_readsTest_89 rfl rfl ?_
  refine S_bipush (v := 14) dX4_readsTest_90 (by decide) ?_
  refine S_ishl dX4_readsTest_92 ?_
  refine S_iload 3 dX4_readsTest_93 rfl ?_
  refine S_bipush (v := 7) dX4_readsTest_95 (by decide) ?_
  refine S_ishl dX4_readsTest_97 ?_
  refine S_ior dX4_readsTest_98 ?_
  refine S_iload 0 dX4_readsTest_99 rfl ?_
  refine S_ior dX4_readsTest_101 ?_
  refine S_callV [.int (((y2 <<< ((14 : Int32) &&& 31)) ||| (y5 <<< ((7 : Int32) &&& 31))) ||| z0)] [] m_RX4_64 rfl rfl ho1.1 ⟨rfl, by decide⟩ (Nat.le_of_ble_eq_true rfl) (zroom_0 (by decide)) dX4_readsTest_102 (zCV_use T ?_)
  intro I1_1 L1_1 M1_1 T1_1
  refine S_iconst (v := 1) dX4_readsTest_105 (by decide) ?_
  exact S_iretz rfl (by decide) dX4_readsTest_106 ⟨_, I1_1, L1_1, M1_1, rfl, rfl, T1_1⟩

set_option maxRecDepth 100000 in
theorem t_X4_takes {C : zC} {I : Nat → Nat → Int32} {L : Nat → Nat → Int64} {M : Nat → Nat → Option Nat} (d : Nat) (x1 : Int32)  (K : Int32 → (Nat → Nat → Int32) → (Nat → Nat → Int64) → (Nat → Nat → Option Nat) → Prop) (T : zCI C Y_X4_next (d + 1) [.ref 138] (zmk I L M) (fun r1_1 I1_1 L1_1 M1_1 => ((¬ r1_1 = x1 → zSI C (zmk I L M) K Y_X4_takes (d + 2) 13 [(0, .ref 138)] [.int 0] I1_1 L1_1 M1_1) ∧ (r1_1 = x1 → zSI C (zmk I L M) K Y_X4_takes (d + 2) 13 [(0, .ref 138)] [.int 1] I1_1 L1_1 M1_1)))) : zCI C Y_X4_takes (d + 2) [.ref 138, .int x1] (zmk I L M) K := by
  refine S_enter (by decide) (Nat.le_of_ble_eq_true rfl) ?_
  refine S_lv (lv' := [(0, .ref 138), (1, .int x1)]) rfl ?_
  refine S_aload_n 0 dX4_takes_0 rfl rfl ?_
  refine S_callV [] [] m_RX4_35 rfl rfl s_138 ⟨rfl, by decide⟩ (Nat.le_of_ble_eq_true rfl) (zroom_0 (by decide)) dX4_takes_1 (zCI_use T ?_)
  intro r1_1 I1_1 L1_1 M1_1 T1_1
  refine S_iload_n 1 dX4_takes_4 rfl rfl ?_
  refine S_icmp_ne (tgt := 12) dX4_takes_5 (by decide) (fun q1 => ?_) (fun q1 => ?_)
  · refine S_iconst (v := 0) dX4_takes_12 (by decide) ?_
    exact S_sub [0] rfl (T1_1.1 q1)
  · refine S_iconst (v := 1) dX4_takes_8 (by decide) ?_
    refine S_goto (tgt := 13) dX4_takes_9 (by decide) ?_
    exact S_sub [0] rfl (T1_1.2 q1)

set_option maxRecDepth 100000 in
theorem t_X4_takes_13 {C : zC} {I : Nat → Nat → Int32} {L : Nat → Nat → Int64} {M : Nat → Nat → Option Nat} {h0 : zH} (d : Nat)   (z0 : Int32) (K : Int32 → (Nat → Nat → Int32) → (Nat → Nat → Int64) → (Nat → Nat → Option Nat) → Prop) (T : ((z0 = 0 → ((z0 = 0 ∨ z0 = 1) ∧ K z0 (u2 I 138 2 (((I 138 2) + (0 : Int32)))) L M)) ∧ (¬ (z0 = 0) → ((z0 = 0 ∨ z0 = 1) ∧ K z0 (u2 I 138 2 (((I 138 2) + (1 : Int32)))) L M)))) : zSI C h0 K Y_X4_takes (d + 2) 13 [(0, .ref 138)] [.int z0] I L M := by
  refine S_istore_n dX4_takes_13 rfl (by decide) rfl ?_
  refine S_aload_n 1 dX4_takes_14 rfl rfl ?_
  refine S_dup dX4_takes_15 rfl ?_
  refine S_getI f_RX4_24 s_138 dX4_takes_16 ?_
  refine S_iload_n 0 dX4_takes_19 rfl rfl ?_
  refine S_if_eq (tgt := 27) dX4_takes_20 (by decide) (fun q1 => ?_) (fun q1 => ?_)
  · refine S_iconst (v := 0) dX4_takes_27 (by decide) ?_
    refine S_iadd dX4_takes_28 ?_
    refine S_putI f_RX4_24 s_138 (Or.inl rfl) rfl dX4_takes_29 ?_
    refine S_iload_n 0 dX4_takes_32 rfl rfl ?_
    exact S_iretz rfl (T.1 q1).1 dX4_takes_33 ⟨_, u2 I 138 2 (((I 138 2) + (0 : Int32))), L, M, rfl, rfl, (T.1 q1).2⟩
  · refine S_iconst (v := 1) dX4_takes_23 (by decide) ?_
    refine S_goto (tgt := 28) dX4_takes_24 (by decide) ?_
    refine S_iadd dX4_takes_28 ?_
    refine S_putI f_RX4_24 s_138 (Or.inl rfl) rfl dX4_takes_29 ?_
    refine S_iload_n 0 dX4_takes_32 rfl rfl ?_
    exact S_iretz rfl (T.2 q1).1 dX4_takes_33 ⟨_, u2 I 138 2 (((I 138 2) + (1 : Int32))), L, M, rfl, rfl, (T.2 q1).2⟩

set_option maxRecDepth 100000 in
theorem t_X4_takesIn {C : zC} {I : Nat → Nat → Int32} {L : Nat → Nat → Int64} {M : Nat → Nat → Option Nat} (d : Nat) (x1 : Int32)  (K : Int32 → (Nat → Nat → Int32) → (Nat → Nat → Int64) → (Nat → Nat → Option Nat) → Prop) (T : (((I 138 1) < 100 → vp_in ((I 138 1)) 100 ∧ K 1 (u2 (u2 I 139 (((I 138 1)).toNatClampNeg) x1) 138 1 (((I 138 1) + (1 : Int32)))) L M) ∧ (¬ ((I 138 1) < 100) → K 0 I L M))) : zCI C Y_X4_takesIn (d + 1) [.ref 138, .int x1] (zmk I L M) K := by
  refine S_enter (by decide) (Nat.le_of_ble_eq_true rfl) ?_
  refine S_lv (lv' := [(0, .ref 138), (1, .int x1)]) rfl ?_
  refine S_aload_n 0 dX4_takesIn_0 rfl rfl ?_
  refine S_getI f_RX4_15 s_138 dX4_takesIn_1 ?_
  refine S_bipush (v := 100) dX4_takesIn_4 (by decide) ?_
  refine S_icmp_lt (tgt := 11) dX4_takesIn_6 (by decide) (fun q1 => ?_) (fun q1 => ?_)
  · refine S_aload_n 0 dX4_takesIn_11 rfl rfl ?_
    refine S_getP f_RX4_9 s_138 p_138_0 dX4_takesIn_12 ?_
    refine S_aload_n 0 dX4_takesIn_15 rfl rfl ?_
    refine S_getI f_RX4_15 s_138 dX4_takesIn_16 ?_
    refine S_iload_n 1 dX4_takesIn_19 rfl rfl ?_
    refine S_iast s_139 (T.1 q1).1 dX4_takesIn_20 ?_
    refine S_aload_n 0 dX4_takesIn_21 rfl rfl ?_
    refine S_dup dX4_takesIn_22 rfl ?_
    refine S_getI f_RX4_15 s_138 dX4_takesIn_23 ?_
    refine S_iconst (v := 1) dX4_takesIn_26 (by decide) ?_
    refine S_iadd dX4_takesIn_27 ?_
    refine S_putI f_RX4_15 s_138 (Or.inl rfl) rfl dX4_takesIn_28 ?_
    refine S_iconst (v := 1) dX4_takesIn_31 (by decide) ?_
    exact S_iretz rfl (by decide) dX4_takesIn_32 ⟨_, u2 (u2 I 139 (((I 138 1)).toNatClampNeg) x1) 138 1 (((I 138 1) + (1 : Int32))), L, M, rfl, rfl, (T.1 q1).2⟩
  · refine S_iconst (v := 0) dX4_takesIn_9 (by decide) ?_
    exact S_iretz rfl (by decide) dX4_takesIn_10 ⟨_, I, L, M, rfl, rfl, (T.2 q1)⟩

set_option maxRecDepth 100000 in
theorem t_X8_bodyFrom {C : zC} {I : Nat → Nat → Int32} {L : Nat → Nat → Int64} {M : Nat → Nat → Option Nat} (d : Nat) (x0 : Int32) (x1 : Int32)  (K : Int32 → (Nat → Nat → Int32) → (Nat → Nat → Int64) → (Nat → Nat → Option Nat) → Prop) (T : zSI C (zmk I L M) K Y_X8_bodyFrom (d + 2) 4 [(1, .int x1), (2, .int x0), (3, .int 0)] [] I L M) : zCI C Y_X8_bodyFrom (d + 2) [.int x0, .int x1] (zmk I L M) K := by
  refine S_enter (by decide) (Nat.le_of_ble_eq_true rfl) ?_
  refine S_lv (lv' := [(0, .int x0), (1, .int x1)]) rfl ?_
  refine S_iload_n 0 dX8_bodyFrom_0 rfl rfl ?_
  refine S_istore_n dX8_bodyFrom_1 rfl (by decide) rfl ?_
  refine S_iconst (v := 0) dX8_bodyFrom_2 (by decide) ?_
  refine S_istore_n dX8_bodyFrom_3 rfl (by decide) rfl ?_
  exact S_sub [3, 1, 0] rfl T

set_option maxRecDepth 100000 in
theorem t_X8_bodyFrom_4 {C : zC} {I : Nat → Nat → Int32} {L : Nat → Nat → Int64} {M : Nat → Nat → Option Nat} {h0 : zH} (d : Nat)   (y1 : Int32) (y2 : Int32) (y3 : Int32) (K : Int32 → (Nat → Nat → Int32) → (Nat → Nat → Int64) → (Nat → Nat → Option Nat) → Prop) (T : ((7 ≤ y3 → K 0 I L M) ∧ (¬ (7 ≤ y3) → ((¬ (0 ≤ y2 ∧ y2 < 7) → K 0 I L M) ∧ ((0 ≤ y2 ∧ y2 < 7) → vp_in (((y2 * (3 : Int32)) + y1)) 21 ∧ (((zBodies.getD (((y2 * (3 : Int32)) + y1)).toNatClampNeg 0) = 0 → vp_in y2 7 ∧ zSI C h0 K Y_X8_bodyFrom (d + 2) 4 [(1, .int y1), (2, .int (zAbove.getD y2.toNatClampNeg 0)), (3, .int (y3 + 1))] [] I L M) ∧ (¬ ((zBodies.getD (((y2 * (3 : Int32)) + y1)).toNatClampNeg 0) = 0) → vp_in (((y2 * (3 : Int32)) + y1)) 21 ∧ K ((zBodies.getD (((y2 * (3 : Int32)) + y1)).toNatClampNeg 0)) I L M))))))) : zSI C h0 K Y_X8_bodyFrom (d + 2) 4 [(1, .int y1), (2, .int y2), (3, .int y3)] [] I L M := by
  refine S_iload_n 2 dX8_bodyFrom_4 rfl rfl ?_
  refine S_bipush (v := 7) dX8_bodyFrom_5 (by decide) ?_
  refine S_icmp_ge (tgt := 53) dX8_bodyFrom_7 (by decide) (fun q1 => ?_) (fun q1 => ?_)
  · refine S_iconst (v := 0) dX8_bodyFrom_53 (by decide) ?_
    exact S_ireti rfl dX8_bodyFrom_54 ⟨_, I, L, M, rfl, rfl, (T.1 q1)⟩
  · refine S_iload_n 1 dX8_bodyFrom_10 rfl rfl ?_
    refine S_bipush (v := 7) dX8_bodyFrom_11 (by decide) ?_
    refine S_callSN [.int y2, .int 7] [] m_RX8_49 rfl rfl (Nat.le_of_ble_eq_true rfl) (zroom_0 (by decide)) dX8_bodyFrom_13 (zpure (sp_X10_isBelow (I := I) (L := L) (M := M) (d + 0) y2 7) ?_)
    refine S_if_eq (tgt := 53) dX8_bodyFrom_16 (by decide) (fun q2 => ?_) (fun q2 => ?_)
    · refine S_iconst (v := 0) dX8_bodyFrom_53 (by decide) ?_
      exact S_ireti rfl dX8_bodyFrom_54 ⟨_, I, L, M, rfl, rfl, ((T.2 q1).1 (zb_f q2))⟩
    · refine S_bodiesN g_RX8_53 dX8_bodyFrom_19 ?_
      refine S_iload_n 1 dX8_bodyFrom_22 rfl rfl ?_
      refine S_iconst (v := 3) dX8_bodyFrom_23 (by decide) ?_
      refine S_imul dX8_bodyFrom_24 ?_
      refine S_iload_n 0 dX8_bodyFrom_25 rfl rfl ?_
      refine S_iadd dX8_bodyFrom_26 ?_
      refine S_bo_ld ((T.2 q1).2 (zb_t q2)).1 dX8_bodyFrom_27 ?_
      refine S_if_eq (tgt := 41) dX8_bodyFrom_28 (by decide) (fun q3 => ?_) (fun q3 => ?_)
      · refine S_aboveN g_RX8_40 dX8_bodyFrom_41 ?_
        refine S_iload_n 1 dX8_bodyFrom_44 rfl rfl ?_
        refine S_ab_ld (((T.2 q1).2 (zb_t q2)).2.1 q3).1 dX8_bodyFrom_45 ?_
        refine S_istore_n dX8_bodyFrom_46 rfl (by decide) rfl ?_
        refine S_iinc 2 dX8_bodyFrom_47 rfl rfl (by decide) rfl ?_
        refine S_goto (tgt := 4) dX8_bodyFrom_50 (by decide) ?_
        exact S_sub [2, 1, 0] rfl (((T.2 q1).2 (zb_t q2)).2.1 q3).2
      · refine S_bodiesN g_RX8_53 dX8_bodyFrom_31 ?_
        refine S_iload_n 1 dX8_bodyFrom_34 rfl rfl ?_
        refine S_iconst (v := 3) dX8_bodyFrom_35 (by decide) ?_
        refine S_imul dX8_bodyFrom_36 ?_
        refine S_iload_n 0 dX8_bodyFrom_37 rfl rfl ?_
        refine S_iadd dX8_bodyFrom_38 ?_
        refine S_bo_ld (((T.2 q1).2 (zb_t q2)).2.2 q3).1 dX8_bodyFrom_39 ?_
        exact S_ireti rfl dX8_bodyFrom_40 ⟨_, I, L, M, rfl, rfl, (((T.2 q1).2 (zb_t q2)).2.2 q3).2⟩

set_option maxRecDepth 100000 in
theorem t_X8_note {C : zC} {I : Nat → Nat → Int32} {L : Nat → Nat → Int64} {M : Nat → Nat → Option Nat} (d : Nat) (x1 : Int32)  (K : (Nat → Nat → Int32) → (Nat → Nat → Int64) → (Nat → Nat → Option Nat) → Prop) (T : ((20 ≤ (I 148 1) → K (u2 I 148 1 (((I 148 1) + (1 : Int32)))) L M) ∧ (¬ (20 ≤ (I 148 1)) → vp_in ((I 148 1)) 20 ∧ K (u2 (u2 I 149 (((I 148 1)).toNatClampNeg) x1) 148 1 (((I 148 1) + (1 : Int32)))) L M))) : zCV C Y_X8_note (d + 1) [.ref 148, .int x1] (zmk I L M) K := by
  refine S_enter (by decide) (Nat.le_of_ble_eq_true rfl) ?_
  refine S_lv (lv' := [(0, .ref 148), (1, .int x1)]) rfl ?_
  refine S_aload_n 0 dX8_note_0 rfl rfl ?_
  refine S_getI f_RX8_15 s_148 dX8_note_1 ?_
  refine S_bipush (v := 20) dX8_note_4 (by decide) ?_
  refine S_icmp_ge (tgt := 19) dX8_note_6 (by decide) (fun q1 => ?_) (fun q1 => ?_)
  · refine S_aload_n 0 dX8_note_19 rfl rfl ?_
    refine S_dup dX8_note_20 rfl ?_
    refine S_getI f_RX8_15 s_148 dX8_note_21 ?_
    refine S_iconst (v := 1) dX8_note_24 (by decide) ?_
    refine S_iadd dX8_note_25 ?_
    refine S_putI f_RX8_15 s_148 (Or.inl rfl) rfl dX8_note_26 ?_
    exact S_vret rfl dX8_note_29 ⟨u2 I 148 1 (((I 148 1) + (1 : Int32))), L, M, rfl, rfl, (T.1 q1)⟩
  · refine S_aload_n 0 dX8_note_9 rfl rfl ?_
    refine S_getP f_RX8_9 s_148 p_148_0 dX8_note_10 ?_
    refine S_aload_n 0 dX8_note_13 rfl rfl ?_
    refine S_getI f_RX8_15 s_148 dX8_note_14 ?_
    refine S_iload_n 1 dX8_note_17 rfl rfl ?_
    refine S_iast s_149 (T.2 q1).1 dX8_note_18 ?_
    refine S_aload_n 0 dX8_note_19 rfl rfl ?_
    refine S_dup dX8_note_20 rfl ?_
    refine S_getI f_RX8_15 s_148 dX8_note_21 ?_
    refine S_iconst (v := 1) dX8_note_24 (by decide) ?_
    refine S_iadd dX8_note_25 ?_
    refine S_putI f_RX8_15 s_148 (Or.inl rfl) rfl dX8_note_26 ?_
    exact S_vret rfl dX8_note_29 ⟨u2 (u2 I 149 (((I 148 1)).toNatClampNeg) x1) 148 1 (((I 148 1) + (1 : Int32))), L, M, rfl, rfl, (T.2 q1).2⟩

set_option maxRecDepth 100000 in
theorem t_X8_own {C : zC} {I : Nat → Nat → Int32} {L : Nat → Nat → Int64} {M : Nat → Nat → Option Nat} (d : Nat) {o1 : Nat} (x2 : Int32) (x3 : Int32) (x4 : Int32) (ho1 : zGu o1) (K : Int32 → (Nat → Nat → Int32) → (Nat → Nat → Int64) → (Nat → Nat → Option Nat) → Prop) (T : zCI C Y_X8_runs (d + 0) [.ref 148, .ref o1, .int (I o1 1), .int x2, .int x3, .int x4] (zmk I L M) (fun r1_1 I1_1 L1_1 M1_1 => K r1_1 I1_1 L1_1 M1_1)) : zCI C Y_X8_own (d + 1) [.ref 148, .ref o1, .int x2, .int x3, .int x4] (zmk I L M) K := by
  refine S_enter (by decide) (Nat.le_of_ble_eq_true rfl) ?_
  refine S_lv (lv' := [(0, .ref 148), (1, .ref o1), (2, .int x2), (3, .int x3), (4, .int x4)]) rfl ?_
  refine S_aload_n 0 dX8_own_0 rfl rfl ?_
  refine S_aload_n 1 dX8_own_1 rfl rfl ?_
  refine S_aload_n 1 dX8_own_2 rfl rfl ?_
  refine S_getI f_RX8_23 ho1.1 dX8_own_3 ?_
  refine S_iload_n 2 dX8_own_6 rfl rfl ?_
  refine S_iload_n 3 dX8_own_7 rfl rfl ?_
  refine S_iload 4 dX8_own_8 rfl ?_
  refine S_callV [.ref o1, .int (I o1 1), .int x2, .int x3, .int x4] [] m_RX8_28 rfl rfl s_148 ⟨rfl, by decide⟩ (Nat.le_of_ble_eq_true rfl) (zroom_0 (by decide)) dX8_own_10 (zCI_use T ?_)
  intro r1_1 I1_1 L1_1 M1_1 T1_1
  exact S_ireti rfl dX8_own_13 ⟨_, I1_1, L1_1, M1_1, rfl, rfl, T1_1⟩

set_option maxRecDepth 100000 in
theorem t_X8_plays {C : zC} {I : Nat → Nat → Int32} {L : Nat → Nat → Int64} {M : Nat → Nat → Option Nat} (d : Nat) {o1 : Nat} (x2 : Int32) (x3 : Int32) (ho1 : zGu o1) (K : Int32 → (Nat → Nat → Int32) → (Nat → Nat → Int64) → (Nat → Nat → Option Nat) → Prop) (T : zCI C Y_X8_own (d + 1) [.ref 148, .ref o1, .int x2, .int x3, .int 0] (zmk (u2 I 148 1 0) L M) (fun r1_1 I1_1 L1_1 M1_1 => K r1_1 I1_1 L1_1 M1_1)) : zCI C Y_X8_plays (d + 2) [.ref 148, .ref o1, .int x2, .int x3] (zmk I L M) K := by
  refine S_enter (by decide) (Nat.le_of_ble_eq_true rfl) ?_
  refine S_lv (lv' := [(0, .ref 148), (1, .ref o1), (2, .int x2), (3, .int x3)]) rfl ?_
  refine S_aload_n 0 dX8_plays_0 rfl rfl ?_
  refine S_iconst (v := 0) dX8_plays_1 (by decide) ?_
  refine S_putI f_RX8_15 s_148 (Or.inl rfl) rfl dX8_plays_2 ?_
  refine S_aload_n 0 dX8_plays_5 rfl rfl ?_
  refine S_aload_n 1 dX8_plays_6 rfl rfl ?_
  refine S_iload_n 2 dX8_plays_7 rfl rfl ?_
  refine S_iload_n 3 dX8_plays_8 rfl rfl ?_
  refine S_iconst (v := 0) dX8_plays_9 (by decide) ?_
  refine S_callV [.ref o1, .int x2, .int x3, .int 0] [] m_RX8_19 rfl rfl s_148 ⟨rfl, by decide⟩ (Nat.le_of_ble_eq_true rfl) (zroom_0 (by decide)) dX8_plays_10 (zCI_use T ?_)
  intro r1_1 I1_1 L1_1 M1_1 T1_1
  exact S_ireti rfl dX8_plays_13 ⟨_, I1_1, L1_1, M1_1, rfl, rfl, T1_1⟩

set_option maxRecDepth 100000 in
theorem t_X8_runs {C : zC} {I : Nat → Nat → Int32} {L : Nat → Nat → Int64} {M : Nat → Nat → Option Nat} (d : Nat) {o1 : Nat} (x2 : Int32) (x3 : Int32) (x4 : Int32) (x5 : Int32) (ho1 : zGu o1) (K : Int32 → (Nat → Nat → Int32) → (Nat → Nat → Int64) → (Nat → Nat → Option Nat) → Prop) (T : zCI C Y_X8_bodyFrom (d + 2) [.int x2, .int x3] (zmk I L M) (fun r1_1 I1_1 L1_1 M1_1 => ((r1_1 = 0 → K 0 I1_1 L1_1 M1_1) ∧ (¬ (r1_1 = 0) → ((x5 ≤ 40 → zCV C Y_X8_note (d + 2) [.ref 148, .int r1_1] (zmk I1_1 L1_1 M1_1) (fun I2_3 L2_3 M2_3 => vp_in (((r1_1 / 10) - (1 : Int32))) 7 ∧ ((r1_1 = 10 → K ((x4 + (I2_3 o1 0))) I2_3 L2_3 M2_3) ∧ (r1_1 = 11 → zCI C Y_X8_own (d + 2) [.ref 148, .ref o1, .int 0, .int x4, .int (x5 + (1 : Int32))] (zmk I2_3 L2_3 M2_3) (fun r3_4 I3_4 L3_4 M3_4 => K ((r3_4 - (I3_4 o1 2))) I3_4 L3_4 M3_4)) ∧ (r1_1 = 12 → zCI C Y_X8_own (d + 2) [.ref 148, .ref o1, .int 1, .int x4, .int (x5 + (1 : Int32))] (zmk I2_3 L2_3 M2_3) (fun r4_4 I4_4 L4_4 M4_4 => K ((r4_4 * (2 : Int32))) I4_4 L4_4 M4_4)) ∧ (r1_1 = 20 → zCI C Y_X8_runs (d + 2) [.ref 148, .ref o1, .int (zAbove.getD (((r1_1 / 10) - (1 : Int32))).toNatClampNeg 0), .int 1, .int x4, .int (x5 + (1 : Int32))] (zmk I2_3 L2_3 M2_3) (fun r5_4 I5_4 L5_4 M5_4 => K ((r5_4 ^^^ (6 : Int32))) I5_4 L5_4 M5_4)) ∧ (r1_1 = 30 → zCI C Y_X8_runs (d + 2) [.ref 148, .ref o1, .int (zAbove.getD (((r1_1 / 10) - (1 : Int32))).toNatClampNeg 0), .int 0, .int (x4 * (3 : Int32)), .int (x5 + (1 : Int32))] (zmk I2_3 L2_3 M2_3) (fun r6_4 I6_4 L6_4 M6_4 => K r6_4 I6_4 L6_4 M6_4)) ∧ (r1_1 = 40 → zCI C Y_X8_runs (d + 2) [.ref 148, .ref o1, .int (zAbove.getD (((r1_1 / 10) - (1 : Int32))).toNatClampNeg 0), .int 2, .int x4, .int (x5 + (1 : Int32))] (zmk I2_3 L2_3 M2_3) (fun r7_4 I7_4 L7_4 M7_4 => zCI C Y_X8_own (d + 2) [.ref 148, .ref o1, .int 1, .int 1, .int (x5 + (1 : Int32))] (zmk I7_4 L7_4 M7_4) (fun r8_4 I8_4 L8_4 M8_4 => K ((r7_4 + r8_4)) I8_4 L8_4 M8_4))) ∧ (r1_1 = 50 → zCI C Y_X8_runs (d + 2) [.ref 148, .ref o1, .int (zAbove.getD (((r1_1 / 10) - (1 : Int32))).toNatClampNeg 0), .int 0, .int x4, .int (x5 + (1 : Int32))] (zmk I2_3 L2_3 M2_3) (fun r9_4 I9_4 L9_4 M9_4 => K ((-r9_4)) I9_4 L9_4 M9_4)) ∧ (r1_1 = 51 → zCI C Y_X8_runs (d + 2) [.ref 148, .ref o1, .int (zAbove.getD (((r1_1 / 10) - (1 : Int32))).toNatClampNeg 0), .int 1, .int (x4 + (1 : Int32)), .int (x5 + (1 : Int32))] (zmk I2_3 L2_3 M2_3) (fun r10_4 I10_4 L10_4 M10_4 => K r10_4 I10_4 L10_4 M10_4)) ∧ (r1_1 = 60 → zCI C Y_X8_runs (d + 2) [.ref 148, .ref o1, .int (zAbove.getD (((r1_1 / 10) - (1 : Int32))).toNatClampNeg 0), .int 2, .int (x4 - (I2_3 o1 0)), .int (x5 + (1 : Int32))] (zmk I2_3 L2_3 M2_3) (fun r11_4 I11_4 L11_4 M11_4 => K r11_4 I11_4 L11_4 M11_4)) ∧ (r1_1 = 70 → zCI C Y_X8_runs (d + 2) [.ref 148, .ref o1, .int (zAbove.getD (((r1_1 / 10) - (1 : Int32))).toNatClampNeg 0), .int 1, .int x4, .int (x5 + (1 : Int32))] (zmk I2_3 L2_3 M2_3) (fun r12_4 I12_4 L12_4 M12_4 => zCI C Y_X8_runs (d + 2) [.ref 148, .ref o1, .int (zAbove.getD (((r1_1 / 10) - (1 : Int32))).toNatClampNeg 0), .int 0, .int 2, .int (x5 + (1 : Int32))] (zmk I12_4 L12_4 M12_4) (fun r13_4 I13_4 L13_4 M13_4 => K ((r12_4 + r13_4)) I13_4 L13_4 M13_4))) ∧ (r1_1 = 71 → zCI C Y_X8_runs (d + 2) [.ref 148, .ref o1, .int (zAbove.getD (((r1_1 / 10) - (1 : Int32))).toNatClampNeg 0), .int 0, .int x4, .int (x5 + (1 : Int32))] (zmk I2_3 L2_3 M2_3) (fun r14_4 I14_4 L14_4 M14_4 => K ((r14_4 ^^^ (I14_4 o1 2))) I14_4 L14_4 M14_4)) ∧ (¬ r1_1 = 10 → ¬ r1_1 = 11 → ¬ r1_1 = 12 → ¬ r1_1 = 20 → ¬ r1_1 = 30 → ¬ r1_1 = 40 → ¬ r1_1 = 50 → ¬ r1_1 = 51 → ¬ r1_1 = 60 → ¬ r1_1 = 70 → ¬ r1_1 = 71 → K 0 I2_3 L2_3 M2_3)))) ∧ (¬ (x5 ≤ 40) → K 0 I1_1 L1_1 M1_1)))))) : zCI C Y_X8_runs (d + 3) [.ref 148, .ref o1, .int x2, .int x3, .int x4, .int x5] (zmk I L M) K := by
  refine S_enter (by decide) (Nat.le_of_ble_eq_true rfl) ?_
  refine S_lv (lv' := [(0, .ref 148), (1, .ref o1), (2, .int x2), (3, .int x3), (4, .int x4), (5, .int x5)]) rfl ?_
  refine S_iload_n 2 dX8_runs_0 rfl rfl ?_
  refine S_iload_n 3 dX8_runs_1 rfl rfl ?_
  refine S_callS [.int x2, .int x3] [] m_RX8_32 rfl rfl (Nat.le_of_ble_eq_true rfl) (zroom_0 (by decide)) dX8_runs_2 (zCI_use T ?_)
  intro r1_1 I1_1 L1_1 M1_1 T1_1
  refine S_istore dX8_runs_5 (by decide) rfl ?_
  refine S_iload 0 dX8_runs_7 rfl ?_
  refine S_if_eq (tgt := 19) dX8_runs_9 (by decide) (fun q1 => ?_) (fun q1 => ?_)
  · refine S_iconst (v := 0) dX8_runs_19 (by decide) ?_
    exact S_ireti rfl dX8_runs_20 ⟨_, I1_1, L1_1, M1_1, rfl, rfl, (T1_1.1 q1)⟩
  · refine S_iload 6 dX8_runs_12 rfl ?_
    refine S_bipush (v := 40) dX8_runs_14 (by decide) ?_
    refine S_icmp_le (tgt := 21) dX8_runs_16 (by decide) (fun q2 => ?_) (fun q2 => ?_)
    · refine S_aload_n 1 dX8_runs_21 rfl rfl ?_
      refine S_iload 0 dX8_runs_22 rfl ?_
      refine S_callV [.int r1_1] [] m_RX8_36 rfl rfl s_148 ⟨rfl, by decide⟩ (Nat.le_of_ble_eq_true rfl) (zroom_0 (by decide)) dX8_runs_24 (zCV_use ((T1_1.2 q1).1 q2) ?_)
      intro I2_3 L2_3 M2_3 T2_3
      refine S_aboveN g_RX8_40 dX8_runs_27 ?_
      refine S_iload 0 dX8_runs_30 rfl ?_
      refine S_bipush (v := 10) dX8_runs_32 (by decide) ?_
      refine S_idiv dX8_runs_34 (by decide) ?_
      refine S_iconst (v := 1) dX8_runs_35 (by decide) ?_
      refine S_isub dX8_runs_36 ?_
      refine S_ab_ld T2_3.1 dX8_runs_37 ?_
      refine S_istore dX8_runs_38 (by decide) rfl ?_
      refine S_iload 7 dX8_runs_40 rfl ?_
      refine S_iconst (v := 1) dX8_runs_42 (by decide) ?_
      refine S_iadd dX8_runs_43 ?_
      refine S_istore dX8_runs_44 (by decide) rfl ?_
      refine S_iload 2 dX8_runs_46 rfl ?_
      by_cases q3_0 : r1_1 = 10
      · refine S_lookK (tgt := 148) dX8_runs_48 (by decide) q3_0 (off := 100) rfl (by decide) ?_
        refine S_iload 7 dX8_runs_148 rfl ?_
        refine S_aload_n 4 dX8_runs_150 rfl rfl ?_
        refine S_getI f_RX8_43 ho1.1 dX8_runs_151 ?_
        refine S_iadd dX8_runs_154 ?_
        exact S_ireti rfl dX8_runs_155 ⟨_, I2_3, L2_3, M2_3, rfl, rfl, (T2_3.2.1 q3_0)⟩
      by_cases q3_1 : r1_1 = 11
      · refine S_lookK (tgt := 156) dX8_runs_48 (by decide) q3_1 (off := 108) rfl (by decide) ?_
        refine S_aload_n 3 dX8_runs_156 rfl rfl ?_
        refine S_aload_n 4 dX8_runs_157 rfl rfl ?_
        refine S_iconst (v := 0) dX8_runs_158 (by decide) ?_
        refine S_iload 7 dX8_runs_159 rfl ?_
        refine S_iload 0 dX8_runs_161 rfl ?_
        refine S_callV [.ref o1, .int 0, .int x4, .int (x5 + (1 : Int32))] [] m_RX8_19 rfl rfl s_148 ⟨rfl, by decide⟩ (Nat.le_of_ble_eq_true rfl) (zroom_0 (by decide)) dX8_runs_163 (zCI_use (T2_3.2.2.1 q3_1) ?_)
        intro r3_4 I3_4 L3_4 M3_4 T3_4
        refine S_aload_n 4 dX8_runs_166 rfl rfl ?_
        refine S_getI f_RX8_46 ho1.1 dX8_runs_167 ?_
        refine S_isub dX8_runs_170 ?_
        exact S_ireti rfl dX8_runs_171 ⟨_, I3_4, L3_4, M3_4, rfl, rfl, T3_4⟩
      by_cases q3_2 : r1_1 = 12
      · refine S_lookK (tgt := 172) dX8_runs_48 (by decide) q3_2 (off := 124) rfl (by decide) ?_
        refine S_aload_n 3 dX8_runs_172 rfl rfl ?_
        refine S_aload_n 4 dX8_runs_173 rfl rfl ?_
        refine S_iconst (v := 1) dX8_runs_174 (by decide) ?_
        refine S_iload 7 dX8_runs_175 rfl ?_
        refine S_iload 0 dX8_runs_177 rfl ?_
        refine S_callV [.ref o1, .int 1, .int x4, .int (x5 + (1 : Int32))] [] m_RX8_19 rfl rfl s_148 ⟨rfl, by decide⟩ (Nat.le_of_ble_eq_true rfl) (zroom_0 (by decide)) dX8_runs_179 (zCI_use (T2_3.2.2.2.1 q3_2) ?_)
        intro r4_4 I4_4 L4_4 M4_4 T4_4
        refine S_iconst (v := 2) dX8_runs_182 (by decide) ?_
        refine S_imul dX8_runs_183 ?_
        exact S_ireti rfl dX8_runs_184 ⟨_, I4_4, L4_4, M4_4, rfl, rfl, T4_4⟩
      by_cases q3_3 : r1_1 = 20
      · refine S_lookK (tgt := 185) dX8_runs_48 (by decide) q3_3 (off := 137) rfl (by decide) ?_
        refine S_aload_n 3 dX8_runs_185 rfl rfl ?_
        refine S_aload_n 4 dX8_runs_186 rfl rfl ?_
        refine S_iload 1 dX8_runs_187 rfl ?_
        refine S_iconst (v := 1) dX8_runs_189 (by decide) ?_
        refine S_iload 7 dX8_runs_190 rfl ?_
        refine S_iload 0 dX8_runs_192 rfl ?_
        refine S_callV [.ref o1, .int (zAbove.getD (((r1_1 / 10) - (1 : Int32))).toNatClampNeg 0), .int 1, .int x4, .int (x5 + (1 : Int32))] [] m_RX8_28 rfl rfl s_148 ⟨rfl, by decide⟩ (Nat.le_of_ble_eq_true rfl) (zroom_0 (by decide)) dX8_runs_194 (zCI_use (T2_3.2.2.2.2.1 q3_3) ?_)
        intro r5_4 I5_4 L5_4 M5_4 T5_4
        refine S_bipush (v := 6) dX8_runs_197 (by decide) ?_
        refine S_ixor dX8_runs_199 ?_
        exact S_ireti rfl dX8_runs_200 ⟨_, I5_4, L5_4, M5_4, rfl, rfl, T5_4⟩
      by_cases q3_4 : r1_1 = 30
      · refine S_lookK (tgt := 201) dX8_runs_48 (by decide) q3_4 (off := 153) rfl (by decide) ?_
        refine S_aload_n 3 dX8_runs_201 rfl rfl ?_
        refine S_aload_n 4 dX8_runs_202 rfl rfl ?_
        refine S_iload 1 dX8_runs_203 rfl ?_
        refine S_iconst (v := 0) dX8_runs_205 (by decide) ?_
        refine S_iload 7 dX8_runs_206 rfl ?_
        refine S_iconst (v := 3) dX8_runs_208 (by decide) ?_
        refine S_imul dX8_runs_209 ?_
        refine S_iload 0 dX8_runs_210 rfl ?_
        refine S_callV [.ref o1, .int (zAbove.getD (((r1_1 / 10) - (1 : Int32))).toNatClampNeg 0), .int 0, .int (x4 * (3 : Int32)), .int (x5 + (1 : Int32))] [] m_RX8_28 rfl rfl s_148 ⟨rfl, by decide⟩ (Nat.le_of_ble_eq_true rfl) (zroom_0 (by decide)) dX8_runs_212 (zCI_use (T2_3.2.2.2.2.2.1 q3_4) ?_)
        intro r6_4 I6_4 L6_4 M6_4 T6_4
        exact S_ireti rfl dX8_runs_215 ⟨_, I6_4, L6_4, M6_4, rfl, rfl, T6_4⟩
      by_cases q3_5 : r1_1 = 40
      · refine S_lookK (tgt := 216) dX8_runs_48 (by decide) q3_5 (off := 168) rfl (by decide) ?_
        refine S_aload_n 3 dX8_runs_216 rfl rfl ?_
        refine S_aload_n 4 dX8_runs_217 rfl rfl ?_
        refine S_iload 1 dX8_runs_218 rfl ?_
        refine S_iconst (v := 2) dX8_runs_220 (by decide) ?_
        refine S_iload 7 dX8_runs_221 rfl ?_
        refine S_iload 0 dX8_runs_223 rfl ?_
        refine S_callV [.ref o1, .int (zAbove.getD (((r1_1 / 10) - (1 : Int32))).toNatClampNeg 0), .int 2, .int x4, .int (x5 + (1 : Int32))] [] m_RX8_28 rfl rfl s_148 ⟨rfl, by decide⟩ (Nat.le_of_ble_eq_true rfl) (zroom_0 (by decide)) dX8_runs_225 (zCI_use (T2_3.2.2.2.2.2.2.1 q3_5) ?_)
        intro r7_4 I7_4 L7_4 M7_4 T7_4
        refine S_aload_n 3 dX8_runs_228 rfl rfl ?_
        refine S_aload_n 4 dX8_runs_229 rfl rfl ?_
        refine S_iconst (v := 1) dX8_runs_230 (by decide) ?_
        refine S_iconst (v := 1) dX8_runs_231 (by decide) ?_
        refine S_iload 0 dX8_runs_232 rfl ?_
        refine S_callV [.ref o1, .int 1, .int 1, .int (x5 + (1 : Int32))] [.int r7_4] m_RX8_19 rfl rfl s_148 ⟨rfl, by decide⟩ (Nat.le_of_ble_eq_true rfl) (zroom_0 (by decide)) dX8_runs_234 (zCI_use T7_4 ?_)
        intro r8_4 I8_4 L8_4 M8_4 T8_4
        refine S_iadd dX8_runs_237 ?_
        exact S_ireti rfl dX8_runs_238 ⟨_, I8_4, L8_4, M8_4, rfl, rfl, T8_4⟩
      by_cases q3_6 : r1_1 = 50
      · refine S_lookK (tgt := 239) dX8_runs_48 (by decide) q3_6 (off := 191) rfl (by decide) ?_
        refine S_aload_n 3 dX8_runs_239 rfl rfl ?_
        refine S_aload_n 4 dX8_runs_240 rfl rfl ?_
        refine S_iload 1 dX8_runs_241 rfl ?_
        refine S_iconst (v := 0) dX8_runs_243 (by decide) ?_
        refine S_iload 7 dX8_runs_244 rfl ?_
        refine S_iload 0 dX8_runs_246 rfl ?_
        refine S_callV [.ref o1, .int (zAbove.getD (((r1_1 / 10) - (1 : Int32))).toNatClampNeg 0), .int 0, .int x4, .int (x5 + (1 : Int32))] [] m_RX8_28 rfl rfl s_148 ⟨rfl, by decide⟩ (Nat.le_of_ble_eq_true rfl) (zroom_0 (by decide)) dX8_runs_248 (zCI_use (T2_3.2.2.2.2.2.2.2.1 q3_6) ?_)
        intro r9_4 I9_4 L9_4 M9_4 T9_4
        refine S_ineg dX8_runs_251 ?_
        exact S_ireti rfl dX8_runs_252 ⟨_, I9_4, L9_4, M9_4, rfl, rfl, T9_4⟩
      by_cases q3_7 : r1_1 = 51
      · refine S_lookK (tgt := 253) dX8_runs_48 (by decide) q3_7 (off := 205) rfl (by decide) ?_
        refine S_aload_n 3 dX8_runs_253 rfl rfl ?_
        refine S_aload_n 4 dX8_runs_254 rfl rfl ?_
        refine S_iload 1 dX8_runs_255 rfl ?_
        refine S_iconst (v := 1) dX8_runs_257 (by decide) ?_
        refine S_iload 7 dX8_runs_258 rfl ?_
        refine S_iconst (v := 1) dX8_runs_260 (by decide) ?_
        refine S_iadd dX8_runs_261 ?_
        refine S_iload 0 dX8_runs_262 rfl ?_
        refine S_callV [.ref o1, .int (zAbove.getD (((r1_1 / 10) - (1 : Int32))).toNatClampNeg 0), .int 1, .int (x4 + (1 : Int32)), .int (x5 + (1 : Int32))] [] m_RX8_28 rfl rfl s_148 ⟨rfl, by decide⟩ (Nat.le_of_ble_eq_true rfl) (zroom_0 (by decide)) dX8_runs_264 (zCI_use (T2_3.2.2.2.2.2.2.2.2.1 q3_7) ?_)
        intro r10_4 I10_4 L10_4 M10_4 T10_4
        exact S_ireti rfl dX8_runs_267 ⟨_, I10_4, L10_4, M10_4, rfl, rfl, T10_4⟩
      by_cases q3_8 : r1_1 = 60
      · refine S_lookK (tgt := 268) dX8_runs_48 (by decide) q3_8 (off := 220) rfl (by decide) ?_
        refine S_aload_n 3 dX8_runs_268 rfl rfl ?_
        refine S_aload_n 4 dX8_runs_269 rfl rfl ?_
        refine S_iload 1 dX8_runs_270 rfl ?_
        refine S_iconst (v := 2) dX8_runs_272 (by decide) ?_
        refine S_iload 7 dX8_runs_273 rfl ?_
        refine S_aload_n 4 dX8_runs_275 rfl rfl ?_
        refine S_getI f_RX8_43 ho1.1 dX8_runs_276 ?_
        refine S_isub dX8_runs_279 ?_
        refine S_iload 0 dX8_runs_280 rfl ?_
        refine S_callV [.ref o1, .int (zAbove.getD (((r1_1 / 10) - (1 : Int32))).toNatClampNeg 0), .int 2, .int (x4 - (I2_3 o1 0)), .int (x5 + (1 : Int32))] [] m_RX8_28 rfl rfl s_148 ⟨rfl, by decide⟩ (Nat.le_of_ble_eq_true rfl) (zroom_0 (by decide)) dX8_runs_282 (zCI_use (T2_3.2.2.2.2.2.2.2.2.2.1 q3_8) ?_)
        intro r11_4 I11_4 L11_4 M11_4 T11_4
        exact S_ireti rfl dX8_runs_285 ⟨_, I11_4, L11_4, M11_4, rfl, rfl, T11_4⟩
      by_cases q3_9 : r1_1 = 70
      · refine S_lookK (tgt := 286) dX8_runs_48 (by decide) q3_9 (off := 238) rfl (by decide) ?_
        refine S_aload_n 3 dX8_runs_286 rfl rfl ?_
        refine S_aload_n 4 dX8_runs_287 rfl rfl ?_
        refine S_iload 1 dX8_runs_288 rfl ?_
        refine S_iconst (v := 1) dX8_runs_290 (by decide) ?_
        refine S_iload 7 dX8_runs_291 rfl ?_
        refine S_iload 0 dX8_runs_293 rfl ?_
        refine S_callV [.ref o1, .int (zAbove.getD (((r1_1 / 10) - (1 : Int32))).toNatClampNeg 0), .int 1, .int x4, .int (x5 + (1 : Int32))] [] m_RX8_28 rfl rfl s_148 ⟨rfl, by decide⟩ (Nat.le_of_ble_eq_true rfl) (zroom_0 (by decide)) dX8_runs_295 (zCI_use (T2_3.2.2.2.2.2.2.2.2.2.2.1 q3_9) ?_)
        intro r12_4 I12_4 L12_4 M12_4 T12_4
        refine S_aload_n 3 dX8_runs_298 rfl rfl ?_
        refine S_aload_n 4 dX8_runs_299 rfl rfl ?_
        refine S_iload 1 dX8_runs_300 rfl ?_
        refine S_iconst (v := 0) dX8_runs_302 (by decide) ?_
        refine S_iconst (v := 2) dX8_runs_303 (by decide) ?_
        refine S_iload 0 dX8_runs_304 rfl ?_
        refine S_callV [.ref o1, .int (zAbove.getD (((r1_1 / 10) - (1 : Int32))).toNatClampNeg 0), .int 0, .int 2, .int (x5 + (1 : Int32))] [.int r12_4] m_RX8_28 rfl rfl s_148 ⟨rfl, by decide⟩ (Nat.le_of_ble_eq_true rfl) (zroom_0 (by decide)) dX8_runs_306 (zCI_use T12_4 ?_)
        intro r13_4 I13_4 L13_4 M13_4 T13_4
        refine S_iadd dX8_runs_309 ?_
        exact S_ireti rfl dX8_runs_310 ⟨_, I13_4, L13_4, M13_4, rfl, rfl, T13_4⟩
      by_cases q3_10 : r1_1 = 71
      · refine S_lookK (tgt := 311) dX8_runs_48 (by decide) q3_10 (off := 263) rfl (by decide) ?_
        refine S_aload_n 3 dX8_runs_311 rfl rfl ?_
        refine S_aload_n 4 dX8_runs_312 rfl rfl ?_
        refine S_iload 1 dX8_runs_313 rfl ?_
        refine S_iconst (v := 0) dX8_runs_315 (by decide) ?_
        refine S_iload 7 dX8_runs_316 rfl ?_
        refine S_iload 0 dX8_runs_318 rfl ?_
        refine S_callV [.ref o1, .int (zAbove.getD (((r1_1 / 10) - (1 : Int32))).toNatClampNeg 0), .int 0, .int x4, .int (x5 + (1 : Int32))] [] m_RX8_28 rfl rfl s_148 ⟨rfl, by decide⟩ (Nat.le_of_ble_eq_true rfl) (zroom_0 (by decide)) dX8_runs_320 (zCI_use (T2_3.2.2.2.2.2.2.2.2.2.2.2.1 q3_10) ?_)
        intro r14_4 I14_4 L14_4 M14_4 T14_4
        refine S_aload_n 4 dX8_runs_323 rfl rfl ?_
        refine S_getI f_RX8_46 ho1.1 dX8_runs_324 ?_
        refine S_ixor dX8_runs_327 ?_
        exact S_ireti rfl dX8_runs_328 ⟨_, I14_4, L14_4, M14_4, rfl, rfl, T14_4⟩
      refine S_lookup (tgt := 329) dX8_runs_48 (by decide) (off := 281) ((lv_osw q3_0 (by decide)).trans ((lv_osw q3_1 (by decide)).trans ((lv_osw q3_2 (by decide)).trans ((lv_osw q3_3 (by decide)).trans ((lv_osw q3_4 (by decide)).trans ((lv_osw q3_5 (by decide)).trans ((lv_osw q3_6 (by decide)).trans ((lv_osw q3_7 (by decide)).trans ((lv_osw q3_8 (by decide)).trans ((lv_osw q3_9 (by decide)).trans ((lv_osw q3_10 (by decide)).trans rfl))))))))))) (by decide) ?_
      refine S_iconst (v := 0) dX8_runs_329 (by decide) ?_
      exact S_ireti rfl dX8_runs_330 ⟨_, I2_3, L2_3, M2_3, rfl, rfl, (T2_3.2.2.2.2.2.2.2.2.2.2.2.2 q3_0 q3_1 q3_2 q3_3 q3_4 q3_5 q3_6 q3_7 q3_8 q3_9 q3_10)⟩
    · refine S_iconst (v := 0) dX8_runs_19 (by decide) ?_
      exact S_ireti rfl dX8_runs_20 ⟨_, I1_1, L1_1, M1_1, rfl, rfl, ((T1_1.2 q1).2 q2)⟩

