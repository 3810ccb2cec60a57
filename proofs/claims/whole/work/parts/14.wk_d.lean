set_option maxRecDepth 100000 in
theorem t_X11_allIn {C : zC} {I : Nat → Nat → Int32} {L : Nat → Nat → Int64} {M : Nat → Nat → Option Nat} (d : Nat)   (K : Int32 → (Nat → Nat → Int32) → (Nat → Nat → Int64) → (Nat → Nat → Option Nat) → Prop) (T : zSI C (zmk I L M) K Y_X11_allIn (d + 1) 4 [(0, .ref 265), (1, .int 0), (2, .int 0)] [] I L M) : zCI C Y_X11_allIn (d + 1) [.ref 265] (zmk I L M) K := by
  refine S_enter (by decide) (Nat.le_of_ble_eq_true rfl) ?_
  refine S_lv (lv' := [(0, .ref 265)]) rfl ?_
  refine S_iconst (v := 0) dX11_allIn_0 (by decide) ?_
  refine S_istore_n dX11_allIn_1 rfl (by decide) rfl ?_
  refine S_iconst (v := 0) dX11_allIn_2 (by decide) ?_
  refine S_istore_n dX11_allIn_3 rfl (by decide) rfl ?_
  exact S_sub [2, 1, 0] rfl T

set_option maxRecDepth 100000 in
theorem t_X11_allIn_4 {C : zC} {I : Nat → Nat → Int32} {L : Nat → Nat → Int64} {M : Nat → Nat → Option Nat} {h0 : zH} (d : Nat)   (y1 : Int32) (y2 : Int32) (K : Int32 → (Nat → Nat → Int32) → (Nat → Nat → Int64) → (Nat → Nat → Option Nat) → Prop) (T : (((I 265 2) ≤ y2 → K y1 I L M) ∧ (¬ ((I 265 2) ≤ y2) → vp_in y2 6 ∧ zSI C h0 K Y_X11_allIn (d + 1) 4 [(0, .ref 265), (1, .int (y1 ||| ((I 272 y2.toNatClampNeg) <<< (y2 &&& 31)))), (2, .int (y2 + 1))] [] I L M))) : zSI C h0 K Y_X11_allIn (d + 1) 4 [(0, .ref 265), (1, .int y1), (2, .int y2)] [] I L M := by
  refine S_iload_n 2 dX11_allIn_4 rfl rfl ?_
  refine S_aload_n 0 dX11_allIn_5 rfl rfl ?_
  refine S_getI f_RX11_111 s_265 dX11_allIn_6 ?_
  refine S_icmp_ge (tgt := 29) dX11_allIn_9 (by decide) (fun q1 => ?_) (fun q1 => ?_)
  · refine S_iload_n 1 dX11_allIn_29 rfl rfl ?_
    exact S_ireti rfl dX11_allIn_30 ⟨_, I, L, M, rfl, rfl, (T.1 q1)⟩
  · refine S_iload_n 1 dX11_allIn_12 rfl rfl ?_
    refine S_aload_n 0 dX11_allIn_13 rfl rfl ?_
    refine S_getP f_RX11_30 s_265 p_265_7 dX11_allIn_14 ?_
    refine S_iload_n 2 dX11_allIn_17 rfl rfl ?_
    refine S_iald s_272 (T.2 q1).1 dX11_allIn_18 ?_
    refine S_iload_n 2 dX11_allIn_19 rfl rfl ?_
    refine S_ishl dX11_allIn_20 ?_
    refine S_ior dX11_allIn_21 ?_
    refine S_istore_n dX11_allIn_22 rfl (by decide) rfl ?_
    refine S_iinc 2 dX11_allIn_23 rfl rfl (by decide) rfl ?_
    refine S_goto (tgt := 4) dX11_allIn_26 (by decide) ?_
    exact S_sub [2, 1, 0] rfl (T.2 q1).2

set_option maxRecDepth 100000 in
theorem t_X11_book {C : zC} {I : Nat → Nat → Int32} {L : Nat → Nat → Int64} {M : Nat → Nat → Option Nat} (d : Nat) (x1 : Int32) (x2 : Int32)  (K : Int32 → (Nat → Nat → Int32) → (Nat → Nat → Int64) → (Nat → Nat → Option Nat) → Prop) (T : ((¬ x1 = (-1) → (((0 ≤ x1 ∧ x1 < 12) → ((((0 : Int32) ≤ x2 ∧ x2 ≤ 99) → ((¬ (I 265 34) = 8 → vp_in ((I 265 34)) 8 ∧ vp_in ((I 265 34)) 8 ∧ K (((I 265 34) + (1 : Int32))) (u2 (u2 (u2 I 288 (((I 265 34)).toNatClampNeg) x1) 265 34 (((I 265 34) + (1 : Int32)))) 289 (((I 265 34)).toNatClampNeg) x2) L M) ∧ ((I 265 34) = 8 → K ((-4)) I L M))) ∧ (¬ ((0 : Int32) ≤ x2 ∧ x2 ≤ 99) → K ((-2)) I L M))) ∧ (¬ (0 ≤ x1 ∧ x1 < 12) → K ((-1)) I L M))) ∧ (x1 = (-1) → K 0 (u2 I 265 34 0) L M))) : zCI C Y_X11_book (d + 3) [.ref 265, .int x1, .int x2] (zmk I L M) K := by
  refine S_enter (by decide) (Nat.le_of_ble_eq_true rfl) ?_
  refine S_lv (lv' := [(0, .ref 265), (1, .int x1), (2, .int x2)]) rfl ?_
  refine S_iload_n 1 dX11_book_0 rfl rfl ?_
  refine S_iconst (v := -1) dX11_book_1 (by decide) ?_
  refine S_icmp_ne (tgt := 12) dX11_book_2 (by decide) (fun q1 => ?_) (fun q1 => ?_)
  · refine S_iload_n 1 dX11_book_12 rfl rfl ?_
    refine S_callS [.int x1] [] m_RX11_122 rfl rfl (Nat.le_of_ble_eq_true rfl) (zroom_0 (by decide)) dX11_book_13 (zpure (sp_X11_isPurpose (I := I) (L := L) (M := M) (d + 0) x1) ?_)
    refine S_if_ne (tgt := 21) dX11_book_16 (by decide) (fun q2 => ?_) (fun q2 => ?_)
    · refine S_iload_n 2 dX11_book_21 rfl rfl ?_
      refine S_iconst (v := 0) dX11_book_22 (by decide) ?_
      refine S_bipush (v := 99) dX11_book_23 (by decide) ?_
      refine S_callS [.int x2, .int 0, .int 99] [] m_RX11_114 rfl rfl (Nat.le_of_ble_eq_true rfl) (zroom_0 (by decide)) dX11_book_25 (zpure (sp_X11_within (I := I) (L := L) (M := M) (d + 1) x2 0 99) ?_)
      refine S_if_ne (tgt := 34) dX11_book_28 (by decide) (fun q3 => ?_) (fun q3 => ?_)
      · refine S_aload_n 0 dX11_book_34 rfl rfl ?_
        refine S_getI f_RX11_307 s_265 dX11_book_35 ?_
        refine S_bipush (v := 8) dX11_book_38 (by decide) ?_
        refine S_icmp_ne (tgt := 46) dX11_book_40 (by decide) (fun q4 => ?_) (fun q4 => ?_)
        · refine S_aload_n 0 dX11_book_46 rfl rfl ?_
          refine S_getP f_RX11_79 s_265 p_265_35 dX11_book_47 ?_
          refine S_aload_n 0 dX11_book_50 rfl rfl ?_
          refine S_getI f_RX11_307 s_265 dX11_book_51 ?_
          refine S_iload_n 1 dX11_book_54 rfl rfl ?_
          refine S_iast s_288 ((((T.1 q1).1 (zb_t q2)).1 (zb_t q3)).1 q4).1 dX11_book_55 ?_
          refine S_aload_n 0 dX11_book_56 rfl rfl ?_
          refine S_getP f_RX11_82 s_265 p_265_36 dX11_book_57 ?_
          refine S_aload_n 0 dX11_book_60 rfl rfl ?_
          refine S_dup dX11_book_61 rfl ?_
          refine S_getI f_RX11_307 s_265 dX11_book_62 ?_
          refine S_dup_x1 dX11_book_65 rfl rfl ?_
          refine S_iconst (v := 1) dX11_book_66 (by decide) ?_
          refine S_iadd dX11_book_67 ?_
          refine S_putI f_RX11_307 s_265 (Or.inl rfl) rfl dX11_book_68 ?_
          refine S_iload_n 2 dX11_book_71 rfl rfl ?_
          refine S_iast s_289 ((((T.1 q1).1 (zb_t q2)).1 (zb_t q3)).1 q4).2.1 dX11_book_72 ?_
          refine S_aload_n 0 dX11_book_73 rfl rfl ?_
          refine S_getI f_RX11_307 s_265 dX11_book_74 ?_
          exact S_ireti rfl dX11_book_77 ⟨_, u2 (u2 (u2 I 288 (((I 265 34)).toNatClampNeg) x1) 265 34 (((I 265 34) + (1 : Int32)))) 289 (((I 265 34)).toNatClampNeg) x2, L, M, rfl, rfl, ((((T.1 q1).1 (zb_t q2)).1 (zb_t q3)).1 q4).2.2⟩
        · refine S_bipush (v := -4) dX11_book_43 (by decide) ?_
          exact S_ireti rfl dX11_book_45 ⟨_, I, L, M, rfl, rfl, ((((T.1 q1).1 (zb_t q2)).1 (zb_t q3)).2 q4)⟩
      · refine S_bipush (v := -2) dX11_book_31 (by decide) ?_
        exact S_ireti rfl dX11_book_33 ⟨_, I, L, M, rfl, rfl, (((T.1 q1).1 (zb_t q2)).2 (zb_f q3))⟩
    · refine S_iconst (v := -1) dX11_book_19 (by decide) ?_
      exact S_ireti rfl dX11_book_20 ⟨_, I, L, M, rfl, rfl, ((T.1 q1).2 (zb_f q2))⟩
  · refine S_aload_n 0 dX11_book_5 rfl rfl ?_
    refine S_iconst (v := 0) dX11_book_6 (by decide) ?_
    refine S_putI f_RX11_307 s_265 (Or.inl rfl) rfl dX11_book_7 ?_
    refine S_iconst (v := 0) dX11_book_10 (by decide) ?_
    exact S_ireti rfl dX11_book_11 ⟨_, u2 I 265 34 0, L, M, rfl, rfl, (T.2 q1)⟩

set_option maxRecDepth 100000 in
theorem t_X11_codes {C : zC} {I : Nat → Nat → Int32} {L : Nat → Nat → Int64} {M : Nat → Nat → Option Nat} (d : Nat) (x1 : Int32)  (K : Int32 → (Nat → Nat → Int32) → (Nat → Nat → Int64) → (Nat → Nat → Option Nat) → Prop) (T : vp_in ((I 265 24)) 800 ∧ K 1 (u2 (u2 I 265 24 (((I 265 24) + (1 : Int32)))) 280 (((I 265 24)).toNatClampNeg) x1) L M) : zCI C Y_X11_codes (d + 1) [.ref 265, .int x1] (zmk I L M) K := by
  refine S_enter (by decide) (Nat.le_of_ble_eq_true rfl) ?_
  refine S_lv (lv' := [(0, .ref 265), (1, .int x1)]) rfl ?_
  refine S_aload_n 0 dX11_codes_0 rfl rfl ?_
  refine S_getP f_RX11_54 s_265 p_265_23 dX11_codes_1 ?_
  refine S_aload_n 0 dX11_codes_4 rfl rfl ?_
  refine S_dup dX11_codes_5 rfl ?_
  refine S_getI f_RX11_171 s_265 dX11_codes_6 ?_
  refine S_dup_x1 dX11_codes_9 rfl rfl ?_
  refine S_iconst (v := 1) dX11_codes_10 (by decide) ?_
  refine S_iadd dX11_codes_11 ?_
  refine S_putI f_RX11_171 s_265 (Or.inl rfl) rfl dX11_codes_12 ?_
  refine S_iload_n 1 dX11_codes_15 rfl rfl ?_
  refine S_iast s_280 T.1 dX11_codes_16 ?_
  refine S_iconst (v := 1) dX11_codes_17 (by decide) ?_
  exact S_iretz rfl (by decide) dX11_codes_18 ⟨_, u2 (u2 I 265 24 (((I 265 24) + (1 : Int32)))) 280 (((I 265 24)).toNatClampNeg) x1, L, M, rfl, rfl, T.2⟩

set_option maxRecDepth 100000 in
theorem t_X11_count {C : zC} {I : Nat → Nat → Int32} {L : Nat → Nat → Int64} {M : Nat → Nat → Option Nat} (d : Nat) (x1 : Int32)  (K : Int32 → (Nat → Nat → Int32) → (Nat → Nat → Int64) → (Nat → Nat → Option Nat) → Prop) (T : ((x1 = 0 → K ((I 265 2)) I L M) ∧ (x1 = 1 → K ((I 265 16)) I L M) ∧ (x1 = 2 → K ((I 265 26)) I L M) ∧ (x1 = 3 → K ((I 265 31)) I L M) ∧ (x1 = 4 → K ((I 265 34)) I L M) ∧ (x1 = 5 → K ((I 265 10)) I L M) ∧ (x1 = 6 → K ((I 265 37)) I L M) ∧ (((x1 : Int32).toInt < 0 ∨ 6 < (x1 : Int32).toInt) → K ((-2)) I L M))) : zCI C Y_X11_count (d + 1) [.ref 265, .int x1] (zmk I L M) K := by
  refine S_enter (by decide) (Nat.le_of_ble_eq_true rfl) ?_
  refine S_lv (lv' := [(0, .ref 265), (1, .int x1)]) rfl ?_
  refine S_iload_n 1 dX11_count_0 rfl rfl ?_
  rcases ztab0_7 x1 with q1 | q1 | q1 | q1 | q1 | q1 | q1 | q1
  · refine S_tabK (tgt := 44) dX11_count_1 q1 (by decide) (by decide) (off := 43) rfl (by decide) ?_
    refine S_aload_n 0 dX11_count_44 rfl rfl ?_
    refine S_getI f_RX11_111 s_265 dX11_count_45 ?_
    exact S_ireti rfl dX11_count_48 ⟨_, I, L, M, rfl, rfl, (T.1 q1)⟩
  · refine S_tabK (tgt := 49) dX11_count_1 q1 (by decide) (by decide) (off := 48) rfl (by decide) ?_
    refine S_aload_n 0 dX11_count_49 rfl rfl ?_
    refine S_getI f_RX11_215 s_265 dX11_count_50 ?_
    exact S_ireti rfl dX11_count_53 ⟨_, I, L, M, rfl, rfl, (T.2.1 q1)⟩
  · refine S_tabK (tgt := 54) dX11_count_1 q1 (by decide) (by decide) (off := 53) rfl (by decide) ?_
    refine S_aload_n 0 dX11_count_54 rfl rfl ?_
    refine S_getI f_RX11_284 s_265 dX11_count_55 ?_
    exact S_ireti rfl dX11_count_58 ⟨_, I, L, M, rfl, rfl, (T.2.2.1 q1)⟩
  · refine S_tabK (tgt := 59) dX11_count_1 q1 (by decide) (by decide) (off := 58) rfl (by decide) ?_
    refine S_aload_n 0 dX11_count_59 rfl rfl ?_
    refine S_getI f_RX11_301 s_265 dX11_count_60 ?_
    exact S_ireti rfl dX11_count_63 ⟨_, I, L, M, rfl, rfl, (T.2.2.2.1 q1)⟩
  · refine S_tabK (tgt := 64) dX11_count_1 q1 (by decide) (by decide) (off := 63) rfl (by decide) ?_
    refine S_aload_n 0 dX11_count_64 rfl rfl ?_
    refine S_getI f_RX11_307 s_265 dX11_count_65 ?_
    exact S_ireti rfl dX11_count_68 ⟨_, I, L, M, rfl, rfl, (T.2.2.2.2.1 q1)⟩
  · refine S_tabK (tgt := 69) dX11_count_1 q1 (by decide) (by decide) (off := 68) rfl (by decide) ?_
    refine S_aload_n 0 dX11_count_69 rfl rfl ?_
    refine S_getI f_RX11_143 s_265 dX11_count_70 ?_
    exact S_ireti rfl dX11_count_73 ⟨_, I, L, M, rfl, rfl, (T.2.2.2.2.2.1 q1)⟩
  · refine S_tabK (tgt := 74) dX11_count_1 q1 (by decide) (by decide) (off := 73) rfl (by decide) ?_
    refine S_aload_n 0 dX11_count_74 rfl rfl ?_
    refine S_getI f_RX11_314 s_265 dX11_count_75 ?_
    exact S_ireti rfl dX11_count_78 ⟨_, I, L, M, rfl, rfl, (T.2.2.2.2.2.2.1 q1)⟩
  · refine S_tabOut (tgt := 79) dX11_count_1 q1 (by decide) ?_
    refine S_bipush (v := -2) dX11_count_79 (by decide) ?_
    exact S_ireti rfl dX11_count_81 ⟨_, I, L, M, rfl, rfl, (T.2.2.2.2.2.2.2 q1)⟩

set_option maxRecDepth 100000 in
theorem t_X11_empty {C : zC} {I : Nat → Nat → Int32} {L : Nat → Nat → Int64} {M : Nat → Nat → Option Nat} (d : Nat) (x1 : Int32)  (K : Int32 → (Nat → Nat → Int32) → (Nat → Nat → Int64) → (Nat → Nat → Option Nat) → Prop) (T : zCV C Y_X11_keep (d + 6) [.ref 265, .ref 292] (zmk I L M) (fun I1_1 L1_1 M1_1 => zSI C (zmk I L M) K Y_X11_empty (d + 7) 13 [(0, .ref 265), (1, .int x1), (2, .int (-5)), (3, .int 0)] [] I1_1 L1_1 M1_1)) : zCI C Y_X11_empty (d + 7) [.ref 265, .int x1] (zmk I L M) K := by
  refine S_enter (by decide) (Nat.le_of_ble_eq_true rfl) ?_
  refine S_lv (lv' := [(0, .ref 265), (1, .int x1)]) rfl ?_
  refine S_aload_n 0 dX11_empty_0 rfl rfl ?_
  refine S_aload_n 0 dX11_empty_1 rfl rfl ?_
  refine S_getP f_RX11_91 s_265 p_265_41 dX11_empty_2 ?_
  refine S_callV [.ref 292] [] m_RX11_269 rfl rfl s_265 ⟨rfl, by decide⟩ (Nat.le_of_ble_eq_true rfl) (zroom_0 (by decide)) dX11_empty_5 (zCV_use T ?_)
  intro I1_1 L1_1 M1_1 T1_1
  refine S_bipush (v := -5) dX11_empty_8 (by decide) ?_
  refine S_istore_n dX11_empty_10 rfl (by decide) rfl ?_
  refine S_iconst (v := 0) dX11_empty_11 (by decide) ?_
  refine S_istore_n dX11_empty_12 rfl (by decide) rfl ?_
  exact S_sub [2, 3, 1, 0] rfl T1_1

set_option maxRecDepth 100000 in
theorem t_X11_empty_13 {C : zC} {I : Nat → Nat → Int32} {L : Nat → Nat → Int64} {M : Nat → Nat → Option Nat} {h0 : zH} (d : Nat)   (y1 : Int32) (y2 : Int32) (y3 : Int32) (K : Int32 → (Nat → Nat → Int32) → (Nat → Nat → Int64) → (Nat → Nat → Option Nat) → Prop) (T : ((61 ≤ y3 → zCV C Y_X11_again (d + 6) [.ref 265, .ref 292] (zmk I L M) (fun I1_2 L1_2 M1_2 => K y2 I1_2 L1_2 M1_2)) ∧ (¬ (61 ≤ y3) → ((¬ y2 = (-5) → zCV C Y_X11_again (d + 6) [.ref 265, .ref 292] (zmk I L M) (fun I2_3 L2_3 M2_3 => K y2 I2_3 L2_3 M2_3)) ∧ (y2 = (-5) → ((y3 ≤ 0 → zSI C h0 K Y_X11_empty (d + 7) 33 [(0, .ref 265), (1, .int y1), (2, .int y2), (3, .int y3)] [] I L M) ∧ (¬ (y3 ≤ 0) → zCV C Y_X11_goesNight (d + 6) [.ref 265] (zmk I L M) (fun I3_4 L3_4 M3_4 => zSI C h0 K Y_X11_empty (d + 7) 33 [(0, .ref 265), (1, .int y1), (2, .int y2), (3, .int y3)] [] I3_4 L3_4 M3_4)))))))) : zSI C h0 K Y_X11_empty (d + 7) 13 [(0, .ref 265), (1, .int y1), (2, .int y2), (3, .int y3)] [] I L M := by
  refine S_iload_n 3 dX11_empty_13 rfl rfl ?_
  refine S_bipush (v := 61) dX11_empty_14 (by decide) ?_
  refine S_icmp_ge (tgt := 50) dX11_empty_16 (by decide) (fun q1 => ?_) (fun q1 => ?_)
  · refine S_aload_n 0 dX11_empty_50 rfl rfl ?_
    refine S_aload_n 0 dX11_empty_51 rfl rfl ?_
    refine S_getP f_RX11_91 s_265 p_265_41 dX11_empty_52 ?_
    refine S_callV [.ref 292] [] m_RX11_273 rfl rfl s_265 ⟨rfl, by decide⟩ (Nat.le_of_ble_eq_true rfl) (zroom_0 (by decide)) dX11_empty_55 (zCV_use (T.1 q1) ?_)
    intro I1_2 L1_2 M1_2 T1_2
    refine S_iload_n 2 dX11_empty_58 rfl rfl ?_
    exact S_ireti rfl dX11_empty_59 ⟨_, I1_2, L1_2, M1_2, rfl, rfl, T1_2⟩
  · refine S_iload_n 2 dX11_empty_19 rfl rfl ?_
    refine S_bipush (v := -5) dX11_empty_20 (by decide) ?_
    refine S_icmp_ne (tgt := 50) dX11_empty_22 (by decide) (fun q2 => ?_) (fun q2 => ?_)
    · refine S_aload_n 0 dX11_empty_50 rfl rfl ?_
      refine S_aload_n 0 dX11_empty_51 rfl rfl ?_
      refine S_getP f_RX11_91 s_265 p_265_41 dX11_empty_52 ?_
      refine S_callV [.ref 292] [] m_RX11_273 rfl rfl s_265 ⟨rfl, by decide⟩ (Nat.le_of_ble_eq_true rfl) (zroom_0 (by decide)) dX11_empty_55 (zCV_use ((T.2 q1).1 q2) ?_)
      intro I2_3 L2_3 M2_3 T2_3
      refine S_iload_n 2 dX11_empty_58 rfl rfl ?_
      exact S_ireti rfl dX11_empty_59 ⟨_, I2_3, L2_3, M2_3, rfl, rfl, T2_3⟩
    · refine S_iload_n 3 dX11_empty_25 rfl rfl ?_
      refine S_if_le (tgt := 33) dX11_empty_26 (by decide) (fun q3 => ?_) (fun q3 => ?_)
      · exact S_sub [0, 1, 2, 3] rfl (((T.2 q1).2 q2).1 q3)
      · refine S_aload_n 0 dX11_empty_29 rfl rfl ?_
        refine S_callV [] [] m_RX11_266 rfl rfl s_265 ⟨rfl, by decide⟩ (Nat.le_of_ble_eq_true rfl) (zroom_0 (by decide)) dX11_empty_30 (zCV_use (((T.2 q1).2 q2).2 q3) ?_)
        intro I3_4 L3_4 M3_4 T3_4
        exact S_sub [0, 1, 2, 3] rfl T3_4

set_option maxRecDepth 100000 in
theorem t_X11_empty_33 {C : zC} {I : Nat → Nat → Int32} {L : Nat → Nat → Int64} {M : Nat → Nat → Option Nat} {h0 : zH} (d : Nat)   (y1 : Int32) (y2 : Int32) (y3 : Int32) (K : Int32 → (Nat → Nat → Int32) → (Nat → Nat → Int64) → (Nat → Nat → Option Nat) → Prop) (T : vp_in y1 6 ∧ ((¬ (I 270 y1.toNatClampNeg) = 0 → zSI C h0 K Y_X11_empty (d + 7) 13 [(0, .ref 265), (1, .int y1), (2, .int y2), (3, .int (y3 + 1))] [] I L M) ∧ ((I 270 y1.toNatClampNeg) = 0 → zSI C h0 K Y_X11_empty (d + 7) 13 [(0, .ref 265), (1, .int y1), (2, .int y3), (3, .int (y3 + 1))] [] I L M))) : zSI C h0 K Y_X11_empty (d + 7) 33 [(0, .ref 265), (1, .int y1), (2, .int y2), (3, .int y3)] [] I L M := by
  refine S_aload_n 0 dX11_empty_33 rfl rfl ?_
  refine S_getP f_RX11_24 s_265 p_265_5 dX11_empty_34 ?_
  refine S_iload_n 1 dX11_empty_37 rfl rfl ?_
  refine S_iald s_270 T.1 dX11_empty_38 ?_
  refine S_if_ne (tgt := 44) dX11_empty_39 (by decide) (fun q1 => ?_) (fun q1 => ?_)
  · refine S_iinc 3 dX11_empty_44 rfl rfl (by decide) rfl ?_
    refine S_goto (tgt := 13) dX11_empty_47 (by decide) ?_
    exact S_sub [1, 2, 3, 0] rfl (T.2.1 q1)
  · refine S_iload_n 3 dX11_empty_42 rfl rfl ?_
    refine S_istore_n dX11_empty_43 rfl (by decide) rfl ?_
    refine S_iinc 3 dX11_empty_44 rfl rfl (by decide) rfl ?_
    refine S_goto (tgt := 13) dX11_empty_47 (by decide) ?_
    exact S_sub [2, 3, 1, 0] rfl (T.2.2 q1)

set_option maxRecDepth 100000 in
theorem t_X11_is {C : zC} {I : Nat → Nat → Int32} {L : Nat → Nat → Int64} {M : Nat → Nat → Option Nat} (d : Nat) (x1 : Int32)  (K : Int32 → (Nat → Nat → Int32) → (Nat → Nat → Int64) → (Nat → Nat → Option Nat) → Prop) (T : (((I 265 12) = (I 265 10) → K 0 I L M) ∧ (¬ ((I 265 12) = (I 265 10)) → vp_in ((I 265 12)) 100 ∧ (((I 274 (((I 265 12)).toNatClampNeg)) = x1 → K 1 (u2 I 265 12 (((I 265 12) + (1 : Int32)))) L M) ∧ (¬ ((I 274 (((I 265 12)).toNatClampNeg)) = x1) → K 0 I L M))))) : zCI C Y_X11_is (d + 1) [.ref 265, .int x1] (zmk I L M) K := by
  refine S_enter (by decide) (Nat.le_of_ble_eq_true rfl) ?_
  refine S_lv (lv' := [(0, .ref 265), (1, .int x1)]) rfl ?_
  refine S_aload_n 0 dX11_is_0 rfl rfl ?_
  refine S_getI f_RX11_146 s_265 dX11_is_1 ?_
  refine S_aload_n 0 dX11_is_4 rfl rfl ?_
  refine S_getI f_RX11_143 s_265 dX11_is_5 ?_
  refine S_icmp_eq (tgt := 24) dX11_is_8 (by decide) (fun q1 => ?_) (fun q1 => ?_)
  · refine S_iconst (v := 0) dX11_is_24 (by decide) ?_
    exact S_iretz rfl (by decide) dX11_is_25 ⟨_, I, L, M, rfl, rfl, (T.1 q1)⟩
  · refine S_aload_n 0 dX11_is_11 rfl rfl ?_
    refine S_getP f_RX11_36 s_265 p_265_11 dX11_is_12 ?_
    refine S_aload_n 0 dX11_is_15 rfl rfl ?_
    refine S_getI f_RX11_146 s_265 dX11_is_16 ?_
    refine S_iald s_274 (T.2 q1).1 dX11_is_19 ?_
    refine S_iload_n 1 dX11_is_20 rfl rfl ?_
    refine S_icmp_eq (tgt := 26) dX11_is_21 (by decide) (fun q2 => ?_) (fun q2 => ?_)
    · refine S_aload_n 0 dX11_is_26 rfl rfl ?_
      refine S_dup dX11_is_27 rfl ?_
      refine S_getI f_RX11_146 s_265 dX11_is_28 ?_
      refine S_iconst (v := 1) dX11_is_31 (by decide) ?_
      refine S_iadd dX11_is_32 ?_
      refine S_putI f_RX11_146 s_265 (Or.inl rfl) rfl dX11_is_33 ?_
      refine S_iconst (v := 1) dX11_is_36 (by decide) ?_
      exact S_iretz rfl (by decide) dX11_is_37 ⟨_, u2 I 265 12 (((I 265 12) + (1 : Int32))), L, M, rfl, rfl, ((T.2 q1).2.1 q2)⟩
    · refine S_iconst (v := 0) dX11_is_24 (by decide) ?_
      exact S_iretz rfl (by decide) dX11_is_25 ⟨_, I, L, M, rfl, rfl, ((T.2 q1).2.2 q2)⟩

set_option maxRecDepth 100000 in
theorem t_X11_isE {C : zC} {I : Nat → Nat → Int32} {L : Nat → Nat → Int64} {M : Nat → Nat → Option Nat} (d : Nat)   (K : Int32 → (Nat → Nat → Int32) → (Nat → Nat → Int64) → (Nat → Nat → Option Nat) → Prop) (T : zCI C Y_X11_isT (d + 1) [.ref 265] (zmk I L M) (fun r1_1 I1_1 L1_1 M1_1 => ((¬ r1_1 = 0 → zSI C (zmk I L M) K Y_X11_isE (d + 2) 9 [(0, .ref 265)] [] I1_1 L1_1 M1_1) ∧ (r1_1 = 0 → K 0 I1_1 L1_1 M1_1)))) : zCI C Y_X11_isE (d + 2) [.ref 265] (zmk I L M) K := by
  refine S_enter (by decide) (Nat.le_of_ble_eq_true rfl) ?_
  refine S_lv (lv' := [(0, .ref 265)]) rfl ?_
  refine S_aload_n 0 dX11_isE_0 rfl rfl ?_
  refine S_callV [] [] m_RX11_202 rfl rfl s_265 ⟨rfl, by decide⟩ (Nat.le_of_ble_eq_true rfl) (zroom_0 (by decide)) dX11_isE_1 (zCI_use T ?_)
  intro r1_1 I1_1 L1_1 M1_1 T1_1
  refine S_if_ne (tgt := 9) dX11_isE_4 (by decide) (fun q1 => ?_) (fun q1 => ?_)
  · exact S_sub [0] rfl (T1_1.1 q1)
  · refine S_iconst (v := 0) dX11_isE_7 (by decide) ?_
    exact S_iretz rfl (by decide) dX11_isE_8 ⟨_, I1_1, L1_1, M1_1, rfl, rfl, (T1_1.2 q1)⟩

set_option maxRecDepth 100000 in
theorem t_X11_isE_9 {C : zC} {I : Nat → Nat → Int32} {L : Nat → Nat → Int64} {M : Nat → Nat → Option Nat} {h0 : zH} (d : Nat)    (K : Int32 → (Nat → Nat → Int32) → (Nat → Nat → Int64) → (Nat → Nat → Option Nat) → Prop) (T : zCI C Y_X11_is (d + 1) [.ref 265, .int 124] (zmk I L M) (fun r1_1 I1_1 L1_1 M1_1 => ((r1_1 = 0 → K 1 I1_1 L1_1 M1_1) ∧ (¬ (r1_1 = 0) → zCI C Y_X11_isT (d + 1) [.ref 265] (zmk I1_1 L1_1 M1_1) (fun r2_2 I2_2 L2_2 M2_2 => ((r2_2 = 0 → K 0 I2_2 L2_2 M2_2) ∧ (¬ (r2_2 = 0) → zCI C Y_X11_codes (d + 1) [.ref 265, .int 2] (zmk I2_2 L2_2 M2_2) (fun r3_3 I3_3 L3_3 M3_3 => ((¬ r3_3 = 0 → zSI C h0 K Y_X11_isE (d + 2) 9 [(0, .ref 265)] [] I3_3 L3_3 M3_3) ∧ (r3_3 = 0 → K 0 I3_3 L3_3 M3_3)))))))))) : zSI C h0 K Y_X11_isE (d + 2) 9 [(0, .ref 265)] [] I L M := by
  refine S_aload_n 0 dX11_isE_9 rfl rfl ?_
  refine S_bipush (v := 124) dX11_isE_10 (by decide) ?_
  refine S_callV [.int 124] [] m_RX11_168 rfl rfl s_265 ⟨rfl, by decide⟩ (Nat.le_of_ble_eq_true rfl) (zroom_0 (by decide)) dX11_isE_12 (zCI_use T ?_)
  intro r1_1 I1_1 L1_1 M1_1 T1_1
  refine S_if_eq (tgt := 35) dX11_isE_15 (by decide) (fun q1 => ?_) (fun q1 => ?_)
  · refine S_iconst (v := 1) dX11_isE_35 (by decide) ?_
    exact S_iretz rfl (by decide) dX11_isE_36 ⟨_, I1_1, L1_1, M1_1, rfl, rfl, (T1_1.1 q1)⟩
  · refine S_aload_n 0 dX11_isE_18 rfl rfl ?_
    refine S_callV [] [] m_RX11_202 rfl rfl s_265 ⟨rfl, by decide⟩ (Nat.le_of_ble_eq_true rfl) (zroom_0 (by decide)) dX11_isE_19 (zCI_use (T1_1.2 q1) ?_)
    intro r2_2 I2_2 L2_2 M2_2 T2_2
    refine S_if_eq (tgt := 33) dX11_isE_22 (by decide) (fun q2 => ?_) (fun q2 => ?_)
    · refine S_iconst (v := 0) dX11_isE_33 (by decide) ?_
      exact S_iretz rfl (by decide) dX11_isE_34 ⟨_, I2_2, L2_2, M2_2, rfl, rfl, (T2_2.1 q2)⟩
    · refine S_aload_n 0 dX11_isE_25 rfl rfl ?_
      refine S_iconst (v := 2) dX11_isE_26 (by decide) ?_
      refine S_callV [.int 2] [] m_RX11_184 rfl rfl s_265 ⟨rfl, by decide⟩ (Nat.le_of_ble_eq_true rfl) (zroom_0 (by decide)) dX11_isE_27 (zCI_use (T2_2.2 q2) ?_)
      intro r3_3 I3_3 L3_3 M3_3 T3_3
      refine S_if_ne (tgt := 9) dX11_isE_30 (by decide) (fun q3 => ?_) (fun q3 => ?_)
      · exact S_sub [0] rfl (T3_3.1 q3)
      · refine S_iconst (v := 0) dX11_isE_33 (by decide) ?_
        exact S_iretz rfl (by decide) dX11_isE_34 ⟨_, I3_3, L3_3, M3_3, rfl, rfl, (T3_3.2 q3)⟩

set_option maxRecDepth 100000 in
theorem t_X11_isOpened {C : zC} {I : Nat → Nat → Int32} {L : Nat → Nat → Int64} {M : Nat → Nat → Option Nat} (d : Nat) (x1 : Int32)  (K : Int32 → (Nat → Nat → Int32) → (Nat → Nat → Int64) → (Nat → Nat → Option Nat) → Prop) (T : (((I 265 15) = 4 → K 0 I L M) ∧ (¬ ((I 265 15) = 4) → zCI C Y_X11_is (d + 1) [.ref 265, .int x1] (zmk I L M) (fun r1_2 I1_2 L1_2 M1_2 => ((¬ r1_2 = 0 → K 1 (u2 I1_2 265 15 (((I1_2 265 15) + (1 : Int32)))) L1_2 M1_2) ∧ (r1_2 = 0 → K 0 I1_2 L1_2 M1_2)))))) : zCI C Y_X11_isOpened (d + 2) [.ref 265, .int x1] (zmk I L M) K := by
  refine S_enter (by decide) (Nat.le_of_ble_eq_true rfl) ?_
  refine S_lv (lv' := [(0, .ref 265), (1, .int x1)]) rfl ?_
  refine S_aload_n 0 dX11_isOpened_0 rfl rfl ?_
  refine S_getI f_RX11_187 s_265 dX11_isOpened_1 ?_
  refine S_iconst (v := 4) dX11_isOpened_4 (by decide) ?_
  refine S_icmp_eq (tgt := 16) dX11_isOpened_5 (by decide) (fun q1 => ?_) (fun q1 => ?_)
  · refine S_iconst (v := 0) dX11_isOpened_16 (by decide) ?_
    exact S_iretz rfl (by decide) dX11_isOpened_17 ⟨_, I, L, M, rfl, rfl, (T.1 q1)⟩
  · refine S_aload_n 0 dX11_isOpened_8 rfl rfl ?_
    refine S_iload_n 1 dX11_isOpened_9 rfl rfl ?_
    refine S_callV [.int x1] [] m_RX11_168 rfl rfl s_265 ⟨rfl, by decide⟩ (Nat.le_of_ble_eq_true rfl) (zroom_0 (by decide)) dX11_isOpened_10 (zCI_use (T.2 q1) ?_)
    intro r1_2 I1_2 L1_2 M1_2 T1_2
    refine S_if_ne (tgt := 18) dX11_isOpened_13 (by decide) (fun q2 => ?_) (fun q2 => ?_)
    · refine S_aload_n 0 dX11_isOpened_18 rfl rfl ?_
      refine S_dup dX11_isOpened_19 rfl ?_
      refine S_getI f_RX11_187 s_265 dX11_isOpened_20 ?_
      refine S_iconst (v := 1) dX11_isOpened_23 (by decide) ?_
      refine S_iadd dX11_isOpened_24 ?_
      refine S_putI f_RX11_187 s_265 (Or.inl rfl) rfl dX11_isOpened_25 ?_
      refine S_iconst (v := 1) dX11_isOpened_28 (by decide) ?_
      exact S_iretz rfl (by decide) dX11_isOpened_29 ⟨_, u2 I1_2 265 15 (((I1_2 265 15) + (1 : Int32))), L1_2, M1_2, rfl, rfl, (T1_2.1 q2)⟩
    · refine S_iconst (v := 0) dX11_isOpened_16 (by decide) ?_
      exact S_iretz rfl (by decide) dX11_isOpened_17 ⟨_, I1_2, L1_2, M1_2, rfl, rfl, (T1_2.2 q2)⟩

set_option maxRecDepth 100000 in
theorem t_X11_isT {C : zC} {I : Nat → Nat → Int32} {L : Nat → Nat → Int64} {M : Nat → Nat → Option Nat} (d : Nat)   (K : Int32 → (Nat → Nat → Int32) → (Nat → Nat → Int64) → (Nat → Nat → Option Nat) → Prop) (T : zCI C Y_X11_isF (d + 1) [.ref 265] (zmk I L M) (fun r1_1 I1_1 L1_1 M1_1 => ((¬ r1_1 = 0 → zSI C (zmk I L M) K Y_X11_isT (d + 2) 9 [(0, .ref 265)] [] I1_1 L1_1 M1_1) ∧ (r1_1 = 0 → K 0 I1_1 L1_1 M1_1)))) : zCI C Y_X11_isT (d + 2) [.ref 265] (zmk I L M) K := by
  refine S_enter (by decide) (Nat.le_of_ble_eq_true rfl) ?_
  refine S_lv (lv' := [(0, .ref 265)]) rfl ?_
  refine S_aload_n 0 dX11_isT_0 rfl rfl ?_
  refine S_callV [] [] m_RX11_193 rfl rfl s_265 ⟨rfl, by decide⟩ (Nat.le_of_ble_eq_true rfl) (zroom_0 (by decide)) dX11_isT_1 (zCI_use T ?_)
  intro r1_1 I1_1 L1_1 M1_1 T1_1
  refine S_if_ne (tgt := 9) dX11_isT_4 (by decide) (fun q1 => ?_) (fun q1 => ?_)
  · exact S_sub [0] rfl (T1_1.1 q1)
  · refine S_iconst (v := 0) dX11_isT_7 (by decide) ?_
    exact S_iretz rfl (by decide) dX11_isT_8 ⟨_, I1_1, L1_1, M1_1, rfl, rfl, (T1_1.2 q1)⟩

set_option maxRecDepth 100000 in
theorem t_X11_isT_9 {C : zC} {I : Nat → Nat → Int32} {L : Nat → Nat → Int64} {M : Nat → Nat → Option Nat} {h0 : zH} (d : Nat)    (K : Int32 → (Nat → Nat → Int32) → (Nat → Nat → Int64) → (Nat → Nat → Option Nat) → Prop) (T : zCI C Y_X11_is (d + 1) [.ref 265, .int 38] (zmk I L M) (fun r1_1 I1_1 L1_1 M1_1 => ((r1_1 = 0 → K 1 I1_1 L1_1 M1_1) ∧ (¬ (r1_1 = 0) → zCI C Y_X11_isF (d + 1) [.ref 265] (zmk I1_1 L1_1 M1_1) (fun r2_2 I2_2 L2_2 M2_2 => ((r2_2 = 0 → K 0 I2_2 L2_2 M2_2) ∧ (¬ (r2_2 = 0) → zCI C Y_X11_codes (d + 1) [.ref 265, .int 1] (zmk I2_2 L2_2 M2_2) (fun r3_3 I3_3 L3_3 M3_3 => ((¬ r3_3 = 0 → zSI C h0 K Y_X11_isT (d + 2) 9 [(0, .ref 265)] [] I3_3 L3_3 M3_3) ∧ (r3_3 = 0 → K 0 I3_3 L3_3 M3_3)))))))))) : zSI C h0 K Y_X11_isT (d + 2) 9 [(0, .ref 265)] [] I L M := by
  refine S_aload_n 0 dX11_isT_9 rfl rfl ?_
  refine S_bipush (v := 38) dX11_isT_10 (by decide) ?_
  refine S_callV [.int 38] [] m_RX11_168 rfl rfl s_265 ⟨rfl, by decide⟩ (Nat.le_of_ble_eq_true rfl) (zroom_0 (by decide)) dX11_isT_12 (zCI_use T ?_)
  intro r1_1 I1_1 L1_1 M1_1 T1_1
  refine S_if_eq (tgt := 35) dX11_isT_15 (by decide) (fun q1 => ?_) (fun q1 => ?_)
  · refine S_iconst (v := 1) dX11_isT_35 (by decide) ?_
    exact S_iretz rfl (by decide) dX11_isT_36 ⟨_, I1_1, L1_1, M1_1, rfl, rfl, (T1_1.1 q1)⟩
  · refine S_aload_n 0 dX11_isT_18 rfl rfl ?_
    refine S_callV [] [] m_RX11_193 rfl rfl s_265 ⟨rfl, by decide⟩ (Nat.le_of_ble_eq_true rfl) (zroom_0 (by decide)) dX11_isT_19 (zCI_use (T1_1.2 q1) ?_)
    intro r2_2 I2_2 L2_2 M2_2 T2_2
    refine S_if_eq (tgt := 33) dX11_isT_22 (by decide) (fun q2 => ?_) (fun q2 => ?_)
    · refine S_iconst (v := 0) dX11_isT_33 (by decide) ?_
      exact S_iretz rfl (by decide) dX11_isT_34 ⟨_, I2_2, L2_2, M2_2, rfl, rfl, (T2_2.1 q2)⟩
    · refine S_aload_n 0 dX11_isT_25 rfl rfl ?_
      refine S_iconst (v := 1) dX11_isT_26 (by decide) ?_
      refine S_callV [.int 1] [] m_RX11_184 rfl rfl s_265 ⟨rfl, by decide⟩ (Nat.le_of_ble_eq_true rfl) (zroom_0 (by decide)) dX11_isT_27 (zCI_use (T2_2.2 q2) ?_)
      intro r3_3 I3_3 L3_3 M3_3 T3_3
      refine S_if_ne (tgt := 9) dX11_isT_30 (by decide) (fun q3 => ?_) (fun q3 => ?_)
      · exact S_sub [0] rfl (T3_3.1 q3)
      · refine S_iconst (v := 0) dX11_isT_33 (by decide) ?_
        exact S_iretz rfl (by decide) dX11_isT_34 ⟨_, I3_3, L3_3, M3_3, rfl, rfl, (T3_3.2 q3)⟩

set_option maxRecDepth 100000 in
theorem t_X11_keep {C : zC} {I : Nat → Nat → Int32} {L : Nat → Nat → Int64} {M : Nat → Nat → Option Nat} (d : Nat) {a a_n : Nat} (ha : zsh a = (12, a_n)) (K : (Nat → Nat → Int32) → (Nat → Nat → Int64) → (Nat → Nat → Option Nat) → Prop) (T : zSV C (zmk I L M) K Y_X11_keep (d + 1) 2 [(0, .ref 265), (1, .ref a), (2, .int 0)] [] I L M) : zCV C Y_X11_keep (d + 1) [.ref 265, .ref a] (zmk I L M) K := by
  refine S_enter (by decide) (Nat.le_of_ble_eq_true rfl) ?_
  refine S_lv (lv' := [(0, .ref 265), (1, .ref a)]) rfl ?_
  refine S_iconst (v := 0) dX11_keep_0 (by decide) ?_
  refine S_istore_n dX11_keep_1 rfl (by decide) rfl ?_
  exact S_sub [1, 2, 0] rfl T

set_option maxRecDepth 100000 in
theorem t_X11_keep_2 {C : zC} {I : Nat → Nat → Int32} {L : Nat → Nat → Int64} {M : Nat → Nat → Option Nat} {h0 : zH} (d : Nat) {a a_n : Nat} (ha : zsh a = (12, a_n))  (y2 : Int32) (K : (Nat → Nat → Int32) → (Nat → Nat → Int64) → (Nat → Nat → Option Nat) → Prop) (T : ((12 ≤ y2 → zSV C h0 K Y_X11_keep (d + 1) 37 [(0, .ref 265), (1, .ref a), (2, .int 0)] [] I L M) ∧ (¬ (12 ≤ y2) → vp_in y2 12 ∧ vp_in y2 a_n ∧ vp_in y2 12 ∧ vp_in (((12 : Int32) + y2)) a_n ∧ zSV C h0 K Y_X11_keep (d + 1) 2 [(0, .ref 265), (1, .ref a), (2, .int (y2 + 1))] [] (u2 (u2 I a y2.toNatClampNeg ((I 266 y2.toNatClampNeg))) a ((((12 : Int32) + y2)).toNatClampNeg) (((u2 I a y2.toNatClampNeg ((I 266 y2.toNatClampNeg))) 267 y2.toNatClampNeg))) L M))) : zSV C h0 K Y_X11_keep (d + 1) 2 [(0, .ref 265), (1, .ref a), (2, .int y2)] [] I L M := by
  refine S_iload_n 2 dX11_keep_2 rfl rfl ?_
  refine S_bipush (v := 12) dX11_keep_3 (by decide) ?_
  refine S_icmp_ge (tgt := 35) dX11_keep_5 (by decide) (fun q1 => ?_) (fun q1 => ?_)
  · refine S_iconst (v := 0) dX11_keep_35 (by decide) ?_
    refine S_istore_n dX11_keep_36 rfl (by decide) rfl ?_
    exact S_sub [1, 2, 0] rfl (T.1 q1)
  · refine S_aload_n 1 dX11_keep_8 rfl rfl ?_
    refine S_iload_n 2 dX11_keep_9 rfl rfl ?_
    refine S_aload_n 0 dX11_keep_10 rfl rfl ?_
    refine S_getP f_RX11_9 s_265 p_265_0 dX11_keep_11 ?_
    refine S_iload_n 2 dX11_keep_14 rfl rfl ?_
    refine S_iald s_266 (T.2 q1).1 dX11_keep_15 ?_
    refine S_iast ha (T.2 q1).2.1 dX11_keep_16 ?_
    refine S_aload_n 1 dX11_keep_17 rfl rfl ?_
    refine S_bipush (v := 12) dX11_keep_18 (by decide) ?_
    refine S_iload_n 2 dX11_keep_20 rfl rfl ?_
    refine S_iadd dX11_keep_21 ?_
    refine S_aload_n 0 dX11_keep_22 rfl rfl ?_
    refine S_getP f_RX11_15 s_265 p_265_1 dX11_keep_23 ?_
    refine S_iload_n 2 dX11_keep_26 rfl rfl ?_
    refine S_iald s_267 (T.2 q1).2.2.1 dX11_keep_27 ?_
    refine S_iast ha (T.2 q1).2.2.2.1 dX11_keep_28 ?_
    refine S_iinc 2 dX11_keep_29 rfl rfl (by decide) rfl ?_
    refine S_goto (tgt := 2) dX11_keep_32 (by decide) ?_
    exact S_sub [1, 2, 0] rfl (T.2 q1).2.2.2.2

set_option maxRecDepth 100000 in
theorem t_X11_keep_37 {C : zC} {I : Nat → Nat → Int32} {L : Nat → Nat → Int64} {M : Nat → Nat → Option Nat} {h0 : zH} (d : Nat) {a a_n : Nat} (ha : zsh a = (12, a_n))  (y2 : Int32) (K : (Nat → Nat → Int32) → (Nat → Nat → Int64) → (Nat → Nat → Option Nat) → Prop) (T : ((6 ≤ y2 → zSV C h0 K Y_X11_keep (d + 1) 111 [(0, .ref 265), (1, .ref a), (2, .int 0)] [] I L M) ∧ (¬ (6 ≤ y2) → vp_in y2 6 ∧ vp_in (((24 : Int32) + y2)) a_n ∧ vp_in y2 6 ∧ vp_in (((30 : Int32) + y2)) a_n ∧ vp_in y2 6 ∧ vp_in (((36 : Int32) + y2)) a_n ∧ vp_in y2 6 ∧ vp_in (((42 : Int32) + y2)) a_n ∧ vp_in y2 6 ∧ vp_in (((48 : Int32) + y2)) a_n ∧ zSV C h0 K Y_X11_keep (d + 1) 37 [(0, .ref 265), (1, .ref a), (2, .int (y2 + 1))] [] (u2 (u2 (u2 (u2 (u2 I a ((((24 : Int32) + y2)).toNatClampNeg) ((I 268 y2.toNatClampNeg))) a ((((30 : Int32) + y2)).toNatClampNeg) (((u2 I a ((((24 : Int32) + y2)).toNatClampNeg) ((I 268 y2.toNatClampNeg))) 269 y2.toNatClampNeg))) a ((((36 : Int32) + y2)).toNatClampNeg) (((u2 (u2 I a ((((24 : Int32) + y2)).toNatClampNeg) ((I 268 y2.toNatClampNeg))) a ((((30 : Int32) + y2)).toNatClampNeg) (((u2 I a ((((24 : Int32) + y2)).toNatClampNeg) ((I 268 y2.toNatClampNeg))) 269 y2.toNatClampNeg))) 270 y2.toNatClampNeg))) a ((((42 : Int32) + y2)).toNatClampNeg) (((u2 (u2 (u2 I a ((((24 : Int32) + y2)).toNatClampNeg) ((I 268 y2.toNatClampNeg))) a ((((30 : Int32) + y2)).toNatClampNeg) (((u2 I a ((((24 : Int32) + y2)).toNatClampNeg) ((I 268 y2.toNatClampNeg))) 269 y2.toNatClampNeg))) a ((((36 : Int32) + y2)).toNatClampNeg) (((u2 (u2 I a ((((24 : Int32) + y2)).toNatClampNeg) ((I 268 y2.toNatClampNeg))) a ((((30 : Int32) + y2)).toNatClampNeg) (((u2 I a ((((24 : Int32) + y2)).toNatClampNeg) ((I 268 y2.toNatClampNeg))) 269 y2.toNatClampNeg))) 270 y2.toNatClampNeg))) 271 y2.toNatClampNeg))) a ((((48 : Int32) + y2)).toNatClampNeg) (((u2 (u2 (u2 (u2 I a ((((24 : Int32) + y2)).toNatClampNeg) ((I 268 y2.toNatClampNeg))) a ((((30 : Int32) + y2)).toNatClampNeg) (((u2 I a ((((24 : Int32) + y2)).toNatClampNeg) ((I 268 y2.toNatClampNeg))) 269 y2.toNatClampNeg))) a ((((36 : Int32) + y2)).toNatClampNeg) (((u2 (u2 I a ((((24 : Int32) + y2)).toNatClampNeg) ((I 268 y2.toNatClampNeg))) a ((((30 : Int32) + y2)).toNatClampNeg) (((u2 I a ((((24 : Int32) + y2)).toNatClampNeg) ((I 268 y2.toNatClampNeg))) 269 y2.toNatClampNeg))) 270 y2.toNatClampNeg))) a ((((42 : Int32) + y2)).toNatClampNeg) (((u2 (u2 (u2 I a ((((24 : Int32) + y2)).toNatClampNeg) ((I 268 y2.toNatClampNeg))) a ((((30 : Int32) + y2)).toNatClampNeg) (((u2 I a ((((24 : Int32) + y2)).toNatClampNeg) ((I 268 y2.toNatClampNeg))) 269 y2.toNatClampNeg))) a ((((36 : Int32) + y2)).toNatClampNeg) (((u2 (u2 I a ((((24 : Int32) + y2)).toNatClampNeg) ((I 268 y2.toNatClampNeg))) a ((((30 : Int32) + y2)).toNatClampNeg) (((u2 I a ((((24 : Int32) + y2)).toNatClampNeg) ((I 268 y2.toNatClampNeg))) 269 y2.toNatClampNeg))) 270 y2.toNatClampNeg))) 271 y2.toNatClampNeg))) 272 y2.toNatClampNeg))) L M))) : zSV C h0 K Y_X11_keep (d + 1) 37 [(0, .ref 265), (1, .ref a), (2, .int y2)] [] I L M := by
  refine S_iload_n 2 dX11_keep_37 rfl rfl ?_
  refine S_bipush (v := 6) dX11_keep_38 (by decide) ?_
  refine S_icmp_ge (tgt := 109) dX11_keep_40 (by decide) (fun q1 => ?_) (fun q1 => ?_)
  · refine S_iconst (v := 0) dX11_keep_109 (by decide) ?_
    refine S_istore_n dX11_keep_110 rfl (by decide) rfl ?_
    exact S_sub [1, 2, 0] rfl (T.1 q1)
  · refine S_aload_n 1 dX11_keep_43 rfl rfl ?_
    refine S_bipush (v := 24) dX11_keep_44 (by decide) ?_
    refine S_iload_n 2 dX11_keep_46 rfl rfl ?_
    refine S_iadd dX11_keep_47 ?_
    refine S_aload_n 0 dX11_keep_48 rfl rfl ?_
    refine S_getP f_RX11_18 s_265 p_265_3 dX11_keep_49 ?_
    refine S_iload_n 2 dX11_keep_52 rfl rfl ?_
    refine S_iald s_268 (T.2 q1).1 dX11_keep_53 ?_
    refine S_iast ha (T.2 q1).2.1 dX11_keep_54 ?_
    refine S_aload_n 1 dX11_keep_55 rfl rfl ?_
    refine S_bipush (v := 30) dX11_keep_56 (by decide) ?_
    refine S_iload_n 2 dX11_keep_58 rfl rfl ?_
    refine S_iadd dX11_keep_59 ?_
    refine S_aload_n 0 dX11_keep_60 rfl rfl ?_
    refine S_getP f_RX11_21 s_265 p_265_4 dX11_keep_61 ?_
    refine S_iload_n 2 dX11_keep_64 rfl rfl ?_
    refine S_iald s_269 (T.2 q1).2.2.1 dX11_keep_65 ?_
    refine S_iast ha (T.2 q1).2.2.2.1 dX11_keep_66 ?_
    refine S_aload_n 1 dX11_keep_67 rfl rfl ?_
    refine S_bipush (v := 36) dX11_keep_68 (by decide) ?_
    refine S_iload_n 2 dX11_keep_70 rfl rfl ?_
    refine S_iadd dX11_keep_71 ?_
    refine S_aload_n 0 dX11_keep_72 rfl rfl ?_
    refine S_getP f_RX11_24 s_265 p_265_5 dX11_keep_73 ?_
    refine S_iload_n 2 dX11_keep_76 rfl rfl ?_
    refine S_iald s_270 (T.2 q1).2.2.2.2.1 dX11_keep_77 ?_
    refine S_iast ha (T.2 q1).2.2.2.2.2.1 dX11_keep_78 ?_
    refine S_aload_n 1 dX11_keep_79 rfl rfl ?_
    refine S_bipush (v := 42) dX11_keep_80 (by decide) ?_
    refine S_iload_n 2 dX11_keep_82 rfl rfl ?_
    refine S_iadd dX11_keep_83 ?_
    refine S_aload_n 0 dX11_keep_84 rfl rfl ?_
    refine S_getP f_RX11_27 s_265 p_265_6 dX11_keep_85 ?_
    refine S_iload_n 2 dX11_keep_88 rfl rfl ?_
    refine S_iald s_271 (T.2 q1).2.2.2.2.2.2.1 dX11_keep_89 ?_
    refine S_iast ha (T.2 q1).2.2.2.2.2.2.2.1 dX11_keep_90 ?_
    refine S_aload_n 1 dX11_keep_91 rfl rfl ?_
    refine S_bipush (v := 48) dX11_keep_92 (by decide) ?_
    refine S_iload_n 2 dX11_keep_94 rfl rfl ?_
    refine S_iadd dX11_keep_95 ?_
    refine S_aload_n 0 dX11_keep_96 rfl rfl ?_
    refine S_getP f_RX11_30 s_265 p_265_7 dX11_keep_97 ?_
    refine S_iload_n 2 dX11_keep_100 rfl rfl ?_
    refine S_iald s_272 (T.2 q1).2.2.2.2.2.2.2.2.1 dX11_keep_101 ?_
    refine S_iast ha (T.2 q1).2.2.2.2.2.2.2.2.2.1 dX11_keep_102 ?_
    refine S_iinc 2 dX11_keep_103 rfl rfl (by decide) rfl ?_
    refine S_goto (tgt := 37) dX11_keep_106 (by decide) ?_
    exact S_sub [1, 2, 0] rfl (T.2 q1).2.2.2.2.2.2.2.2.2.2

set_option maxRecDepth 100000 in
theorem t_X11_keep_111 {C : zC} {I : Nat → Nat → Int32} {L : Nat → Nat → Int64} {M : Nat → Nat → Option Nat} {h0 : zH} (d : Nat) {a a_n : Nat} (ha : zsh a = (12, a_n))  (y2 : Int32) (K : (Nat → Nat → Int32) → (Nat → Nat → Int64) → (Nat → Nat → Option Nat) → Prop) (T : ((24 ≤ y2 → zSV C h0 K Y_X11_keep (d + 1) 137 [(0, .ref 265), (1, .ref a), (2, .int 0)] [] I L M) ∧ (¬ (24 ≤ y2) → vp_in y2 24 ∧ vp_in (((54 : Int32) + y2)) a_n ∧ zSV C h0 K Y_X11_keep (d + 1) 111 [(0, .ref 265), (1, .ref a), (2, .int (y2 + 1))] [] (u2 I a ((((54 : Int32) + y2)).toNatClampNeg) ((I 273 y2.toNatClampNeg))) L M))) : zSV C h0 K Y_X11_keep (d + 1) 111 [(0, .ref 265), (1, .ref a), (2, .int y2)] [] I L M := by
  refine S_iload_n 2 dX11_keep_111 rfl rfl ?_
  refine S_bipush (v := 24) dX11_keep_112 (by decide) ?_
  refine S_icmp_ge (tgt := 135) dX11_keep_114 (by decide) (fun q1 => ?_) (fun q1 => ?_)
  · refine S_iconst (v := 0) dX11_keep_135 (by decide) ?_
    refine S_istore_n dX11_keep_136 rfl (by decide) rfl ?_
    exact S_sub [1, 2, 0] rfl (T.1 q1)
  · refine S_aload_n 1 dX11_keep_117 rfl rfl ?_
    refine S_bipush (v := 54) dX11_keep_118 (by decide) ?_
    refine S_iload_n 2 dX11_keep_120 rfl rfl ?_
    refine S_iadd dX11_keep_121 ?_
    refine S_aload_n 0 dX11_keep_122 rfl rfl ?_
    refine S_getP f_RX11_33 s_265 p_265_8 dX11_keep_123 ?_
    refine S_iload_n 2 dX11_keep_126 rfl rfl ?_
    refine S_iald s_273 (T.2 q1).1 dX11_keep_127 ?_
    refine S_iast ha (T.2 q1).2.1 dX11_keep_128 ?_
    refine S_iinc 2 dX11_keep_129 rfl rfl (by decide) rfl ?_
    refine S_goto (tgt := 111) dX11_keep_132 (by decide) ?_
    exact S_sub [1, 2, 0] rfl (T.2 q1).2.2

set_option maxRecDepth 100000 in
theorem t_X11_keep_137 {C : zC} {I : Nat → Nat → Int32} {L : Nat → Nat → Int64} {M : Nat → Nat → Option Nat} {h0 : zH} (d : Nat) {a a_n : Nat} (ha : zsh a = (12, a_n))  (y2 : Int32) (K : (Nat → Nat → Int32) → (Nat → Nat → Int64) → (Nat → Nat → Option Nat) → Prop) (T : ((5 ≤ y2 → zSV C h0 K Y_X11_keep (d + 1) 198 [(0, .ref 265), (1, .ref a), (2, .int 0)] [] I L M) ∧ (¬ (5 ≤ y2) → vp_in y2 5 ∧ vp_in (((78 : Int32) + y2)) a_n ∧ vp_in y2 5 ∧ vp_in (((83 : Int32) + y2)) a_n ∧ vp_in y2 5 ∧ vp_in (((88 : Int32) + y2)) a_n ∧ vp_in y2 5 ∧ vp_in (((93 : Int32) + y2)) a_n ∧ zSV C h0 K Y_X11_keep (d + 1) 137 [(0, .ref 265), (1, .ref a), (2, .int (y2 + 1))] [] (u2 (u2 (u2 (u2 I a ((((78 : Int32) + y2)).toNatClampNeg) ((I 282 y2.toNatClampNeg))) a ((((83 : Int32) + y2)).toNatClampNeg) (((u2 I a ((((78 : Int32) + y2)).toNatClampNeg) ((I 282 y2.toNatClampNeg))) 283 y2.toNatClampNeg))) a ((((88 : Int32) + y2)).toNatClampNeg) (((u2 (u2 I a ((((78 : Int32) + y2)).toNatClampNeg) ((I 282 y2.toNatClampNeg))) a ((((83 : Int32) + y2)).toNatClampNeg) (((u2 I a ((((78 : Int32) + y2)).toNatClampNeg) ((I 282 y2.toNatClampNeg))) 283 y2.toNatClampNeg))) 284 y2.toNatClampNeg))) a ((((93 : Int32) + y2)).toNatClampNeg) (((u2 (u2 (u2 I a ((((78 : Int32) + y2)).toNatClampNeg) ((I 282 y2.toNatClampNeg))) a ((((83 : Int32) + y2)).toNatClampNeg) (((u2 I a ((((78 : Int32) + y2)).toNatClampNeg) ((I 282 y2.toNatClampNeg))) 283 y2.toNatClampNeg))) a ((((88 : Int32) + y2)).toNatClampNeg) (((u2 (u2 I a ((((78 : Int32) + y2)).toNatClampNeg) ((I 282 y2.toNatClampNeg))) a ((((83 : Int32) + y2)).toNatClampNeg) (((u2 I a ((((78 : Int32) + y2)).toNatClampNeg) ((I 282 y2.toNatClampNeg))) 283 y2.toNatClampNeg))) 284 y2.toNatClampNeg))) 285 y2.toNatClampNeg))) L M))) : zSV C h0 K Y_X11_keep (d + 1) 137 [(0, .ref 265), (1, .ref a), (2, .int y2)] [] I L M := by
  refine S_iload_n 2 dX11_keep_137 rfl rfl ?_
  refine S_iconst (v := 5) dX11_keep_138 (by decide) ?_
  refine S_icmp_ge (tgt := 196) dX11_keep_139 (by decide) (fun q1 => ?_) (fun q1 => ?_)
  · refine S_iconst (v := 0) dX11_keep_196 (by decide) ?_
    refine S_istore_n dX11_keep_197 rfl (by decide) rfl ?_
    exact S_sub [1, 2, 0] rfl (T.1 q1)
  · refine S_aload_n 1 dX11_keep_142 rfl rfl ?_
    refine S_bipush (v := 78) dX11_keep_143 (by decide) ?_
    refine S_iload_n 2 dX11_keep_145 rfl rfl ?_
    refine S_iadd dX11_keep_146 ?_
    refine S_aload_n 0 dX11_keep_147 rfl rfl ?_
    refine S_getP f_RX11_61 s_265 p_265_27 dX11_keep_148 ?_
    refine S_iload_n 2 dX11_keep_151 rfl rfl ?_
    refine S_iald s_282 (T.2 q1).1 dX11_keep_152 ?_
    refine S_iast ha (T.2 q1).2.1 dX11_keep_153 ?_
    refine S_aload_n 1 dX11_keep_154 rfl rfl ?_
    refine S_bipush (v := 83) dX11_keep_155 (by decide) ?_
    refine S_iload_n 2 dX11_keep_157 rfl rfl ?_
    refine S_iadd dX11_keep_158 ?_
    refine S_aload_n 0 dX11_keep_159 rfl rfl ?_
    refine S_getP f_RX11_64 s_265 p_265_28 dX11_keep_160 ?_
    refine S_iload_n 2 dX11_keep_163 rfl rfl ?_
    refine S_iald s_283 (T.2 q1).2.2.1 dX11_keep_164 ?_
    refine S_iast ha (T.2 q1).2.2.2.1 dX11_keep_165 ?_
    refine S_aload_n 1 dX11_keep_166 rfl rfl ?_
    refine S_bipush (v := 88) dX11_keep_167 (by decide) ?_
    refine S_iload_n 2 dX11_keep_169 rfl rfl ?_
    refine S_iadd dX11_keep_170 ?_
    refine S_aload_n 0 dX11_keep_171 rfl rfl ?_
    refine S_getP f_RX11_67 s_265 p_265_29 dX11_keep_172 ?_
    refine S_iload_n 2 dX11_keep_175 rfl rfl ?_
    refine S_iald s_284 (T.2 q1).2.2.2.2.1 dX11_keep_176 ?_
    refine S_iast ha (T.2 q1).2.2.2.2.2.1 dX11_keep_177 ?_
    refine S_aload_n 1 dX11_keep_178 rfl rfl ?_
    refine S_bipush (v := 93) dX11_keep_179 (by decide) ?_
    refine S_iload_n 2 dX11_keep_181 rfl rfl ?_
    refine S_iadd dX11_keep_182 ?_
    refine S_aload_n 0 dX11_keep_183 rfl rfl ?_
    refine S_getP f_RX11_70 s_265 p_265_30 dX11_keep_184 ?_
    refine S_iload_n 2 dX11_keep_187 rfl rfl ?_
    refine S_iald s_285 (T.2 q1).2.2.2.2.2.2.1 dX11_keep_188 ?_
    refine S_iast ha (T.2 q1).2.2.2.2.2.2.2.1 dX11_keep_189 ?_
    refine S_iinc 2 dX11_keep_190 rfl rfl (by decide) rfl ?_
    refine S_goto (tgt := 137) dX11_keep_193 (by decide) ?_
    exact S_sub [1, 2, 0] rfl (T.2 q1).2.2.2.2.2.2.2.2

set_option maxRecDepth 100000 in
theorem t_X11_keep_198 {C : zC} {I : Nat → Nat → Int32} {L : Nat → Nat → Int64} {M : Nat → Nat → Option Nat} {h0 : zH} (d : Nat) {a a_n : Nat} (ha : zsh a = (12, a_n))  (y2 : Int32) (K : (Nat → Nat → Int32) → (Nat → Nat → Int64) → (Nat → Nat → Option Nat) → Prop) (T : ((10 ≤ y2 → zSV C h0 K Y_X11_keep (d + 1) 236 [(0, .ref 265), (1, .ref a), (2, .int 0)] [] I L M) ∧ (¬ (10 ≤ y2) → vp_in y2 10 ∧ vp_in (((98 : Int32) + y2)) a_n ∧ vp_in y2 10 ∧ vp_in (((108 : Int32) + y2)) a_n ∧ zSV C h0 K Y_X11_keep (d + 1) 198 [(0, .ref 265), (1, .ref a), (2, .int (y2 + 1))] [] (u2 (u2 I a ((((98 : Int32) + y2)).toNatClampNeg) ((I 286 y2.toNatClampNeg))) a ((((108 : Int32) + y2)).toNatClampNeg) (((u2 I a ((((98 : Int32) + y2)).toNatClampNeg) ((I 286 y2.toNatClampNeg))) 287 y2.toNatClampNeg))) L M))) : zSV C h0 K Y_X11_keep (d + 1) 198 [(0, .ref 265), (1, .ref a), (2, .int y2)] [] I L M := by
  refine S_iload_n 2 dX11_keep_198 rfl rfl ?_
  refine S_bipush (v := 10) dX11_keep_199 (by decide) ?_
  refine S_icmp_ge (tgt := 234) dX11_keep_201 (by decide) (fun q1 => ?_) (fun q1 => ?_)
  · refine S_iconst (v := 0) dX11_keep_234 (by decide) ?_
    refine S_istore_n dX11_keep_235 rfl (by decide) rfl ?_
    exact S_sub [1, 2, 0] rfl (T.1 q1)
  · refine S_aload_n 1 dX11_keep_204 rfl rfl ?_
    refine S_bipush (v := 98) dX11_keep_205 (by decide) ?_
    refine S_iload_n 2 dX11_keep_207 rfl rfl ?_
    refine S_iadd dX11_keep_208 ?_
    refine S_aload_n 0 dX11_keep_209 rfl rfl ?_
    refine S_getP f_RX11_73 s_265 p_265_32 dX11_keep_210 ?_
    refine S_iload_n 2 dX11_keep_213 rfl rfl ?_
    refine S_iald s_286 (T.2 q1).1 dX11_keep_214 ?_
    refine S_iast ha (T.2 q1).2.1 dX11_keep_215 ?_
    refine S_aload_n 1 dX11_keep_216 rfl rfl ?_
    refine S_bipush (v := 108) dX11_keep_217 (by decide) ?_
    refine S_iload_n 2 dX11_keep_219 rfl rfl ?_
    refine S_iadd dX11_keep_220 ?_
    refine S_aload_n 0 dX11_keep_221 rfl rfl ?_
    refine S_getP f_RX11_76 s_265 p_265_33 dX11_keep_222 ?_
    refine S_iload_n 2 dX11_keep_225 rfl rfl ?_
    refine S_iald s_287 (T.2 q1).2.2.1 dX11_keep_226 ?_
    refine S_iast ha (T.2 q1).2.2.2.1 dX11_keep_227 ?_
    refine S_iinc 2 dX11_keep_228 rfl rfl (by decide) rfl ?_
    refine S_goto (tgt := 198) dX11_keep_231 (by decide) ?_
    exact S_sub [1, 2, 0] rfl (T.2 q1).2.2.2.2

set_option maxRecDepth 100000 in
theorem t_X11_keep_236 {C : zC} {I : Nat → Nat → Int32} {L : Nat → Nat → Int64} {M : Nat → Nat → Option Nat} {h0 : zH} (d : Nat) {a a_n : Nat} (ha : zsh a = (12, a_n))  (y2 : Int32) (K : (Nat → Nat → Int32) → (Nat → Nat → Int64) → (Nat → Nat → Option Nat) → Prop) (T : ((8 ≤ y2 → vp_in 134 a_n ∧ vp_in 135 a_n ∧ vp_in 136 a_n ∧ vp_in 137 a_n ∧ vp_in 138 a_n ∧ vp_in 139 a_n ∧ K (u2 (u2 (u2 (u2 (u2 (u2 I a 134 ((I 265 2))) a 135 (((u2 I a 134 ((I 265 2))) 265 9))) a 136 (((u2 (u2 I a 134 ((I 265 2))) a 135 (((u2 I a 134 ((I 265 2))) 265 9))) 265 26))) a 137 (((u2 (u2 (u2 I a 134 ((I 265 2))) a 135 (((u2 I a 134 ((I 265 2))) 265 9))) a 136 (((u2 (u2 I a 134 ((I 265 2))) a 135 (((u2 I a 134 ((I 265 2))) 265 9))) 265 26))) 265 31))) a 138 (((u2 (u2 (u2 (u2 I a 134 ((I 265 2))) a 135 (((u2 I a 134 ((I 265 2))) 265 9))) a 136 (((u2 (u2 I a 134 ((I 265 2))) a 135 (((u2 I a 134 ((I 265 2))) 265 9))) 265 26))) a 137 (((u2 (u2 (u2 I a 134 ((I 265 2))) a 135 (((u2 I a 134 ((I 265 2))) 265 9))) a 136 (((u2 (u2 I a 134 ((I 265 2))) a 135 (((u2 I a 134 ((I 265 2))) 265 9))) 265 26))) 265 31))) 265 34))) a 139 (((u2 (u2 (u2 (u2 (u2 I a 134 ((I 265 2))) a 135 (((u2 I a 134 ((I 265 2))) 265 9))) a 136 (((u2 (u2 I a 134 ((I 265 2))) a 135 (((u2 I a 134 ((I 265 2))) 265 9))) 265 26))) a 137 (((u2 (u2 (u2 I a 134 ((I 265 2))) a 135 (((u2 I a 134 ((I 265 2))) 265 9))) a 136 (((u2 (u2 I a 134 ((I 265 2))) a 135 (((u2 I a 134 ((I 265 2))) 265 9))) 265 26))) 265 31))) a 138 (((u2 (u2 (u2 (u2 I a 134 ((I 265 2))) a 135 (((u2 I a 134 ((I 265 2))) 265 9))) a 136 (((u2 (u2 I a 134 ((I 265 2))) a 135 (((u2 I a 134 ((I 265 2))) 265 9))) 265 26))) a 137 (((u2 (u2 (u2 I a 134 ((I 265 2))) a 135 (((u2 I a 134 ((I 265 2))) 265 9))) a 136 (((u2 (u2 I a 134 ((I 265 2))) a 135 (((u2 I a 134 ((I 265 2))) 265 9))) 265 26))) 265 31))) 265 34))) 265 17))) L M) ∧ (¬ (8 ≤ y2) → vp_in y2 8 ∧ vp_in (((118 : Int32) + y2)) a_n ∧ vp_in y2 8 ∧ vp_in (((126 : Int32) + y2)) a_n ∧ zSV C h0 K Y_X11_keep (d + 1) 236 [(0, .ref 265), (1, .ref a), (2, .int (y2 + 1))] [] (u2 (u2 I a ((((118 : Int32) + y2)).toNatClampNeg) ((I 288 y2.toNatClampNeg))) a ((((126 : Int32) + y2)).toNatClampNeg) (((u2 I a ((((118 : Int32) + y2)).toNatClampNeg) ((I 288 y2.toNatClampNeg))) 289 y2.toNatClampNeg))) L M))) : zSV C h0 K Y_X11_keep (d + 1) 236 [(0, .ref 265), (1, .ref a), (2, .int y2)] [] I L M := by
  refine S_iload_n 2 dX11_keep_236 rfl rfl ?_
  refine S_bipush (v := 8) dX11_keep_237 (by decide) ?_
  refine S_icmp_ge (tgt := 272) dX11_keep_239 (by decide) (fun q1 => ?_) (fun q1 => ?_)
  · refine S_aload_n 1 dX11_keep_272 rfl rfl ?_
    refine S_sipush (v := 134) dX11_keep_273 (by decide) ?_
    refine S_aload_n 0 dX11_keep_276 rfl rfl ?_
    refine S_getI f_RX11_111 s_265 dX11_keep_277 ?_
    refine S_iast ha (T.1 q1).1 dX11_keep_280 ?_
    refine S_aload_n 1 dX11_keep_281 rfl rfl ?_
    refine S_sipush (v := 135) dX11_keep_282 (by decide) ?_
    refine S_aload_n 0 dX11_keep_285 rfl rfl ?_
    refine S_getI f_RX11_221 s_265 dX11_keep_286 ?_
    refine S_iast ha (T.1 q1).2.1 dX11_keep_289 ?_
    refine S_aload_n 1 dX11_keep_290 rfl rfl ?_
    refine S_sipush (v := 136) dX11_keep_291 (by decide) ?_
    refine S_aload_n 0 dX11_keep_294 rfl rfl ?_
    refine S_getI f_RX11_284 s_265 dX11_keep_295 ?_
    refine S_iast ha (T.1 q1).2.2.1 dX11_keep_298 ?_
    refine S_aload_n 1 dX11_keep_299 rfl rfl ?_
    refine S_sipush (v := 137) dX11_keep_300 (by decide) ?_
    refine S_aload_n 0 dX11_keep_303 rfl rfl ?_
    refine S_getI f_RX11_301 s_265 dX11_keep_304 ?_
    refine S_iast ha (T.1 q1).2.2.2.1 dX11_keep_307 ?_
    refine S_aload_n 1 dX11_keep_308 rfl rfl ?_
    refine S_sipush (v := 138) dX11_keep_309 (by decide) ?_
    refine S_aload_n 0 dX11_keep_312 rfl rfl ?_
    refine S_getI f_RX11_307 s_265 dX11_keep_313 ?_
    refine S_iast ha (T.1 q1).2.2.2.2.1 dX11_keep_316 ?_
    refine S_aload_n 1 dX11_keep_317 rfl rfl ?_
    refine S_sipush (v := 139) dX11_keep_318 (by decide) ?_
    refine S_aload_n 0 dX11_keep_321 rfl rfl ?_
    refine S_getI f_RX11_107 s_265 dX11_keep_322 ?_
    refine S_iast ha (T.1 q1).2.2.2.2.2.1 dX11_keep_325 ?_
    exact S_vret rfl dX11_keep_326 ⟨u2 (u2 (u2 (u2 (u2 (u2 I a 134 ((I 265 2))) a 135 (((u2 I a 134 ((I 265 2))) 265 9))) a 136 (((u2 (u2 I a 134 ((I 265 2))) a 135 (((u2 I a 134 ((I 265 2))) 265 9))) 265 26))) a 137 (((u2 (u2 (u2 I a 134 ((I 265 2))) a 135 (((u2 I a 134 ((I 265 2))) 265 9))) a 136 (((u2 (u2 I a 134 ((I 265 2))) a 135 (((u2 I a 134 ((I 265 2))) 265 9))) 265 26))) 265 31))) a 138 (((u2 (u2 (u2 (u2 I a 134 ((I 265 2))) a 135 (((u2 I a 134 ((I 265 2))) 265 9))) a 136 (((u2 (u2 I a 134 ((I 265 2))) a 135 (((u2 I a 134 ((I 265 2))) 265 9))) 265 26))) a 137 (((u2 (u2 (u2 I a 134 ((I 265 2))) a 135 (((u2 I a 134 ((I 265 2))) 265 9))) a 136 (((u2 (u2 I a 134 ((I 265 2))) a 135 (((u2 I a 134 ((I 265 2))) 265 9))) 265 26))) 265 31))) 265 34))) a 139 (((u2 (u2 (u2 (u2 (u2 I a 134 ((I 265 2))) a 135 (((u2 I a 134 ((I 265 2))) 265 9))) a 136 (((u2 (u2 I a 134 ((I 265 2))) a 135 (((u2 I a 134 ((I 265 2))) 265 9))) 265 26))) a 137 (((u2 (u2 (u2 I a 134 ((I 265 2))) a 135 (((u2 I a 134 ((I 265 2))) 265 9))) a 136 (((u2 (u2 I a 134 ((I 265 2))) a 135 (((u2 I a 134 ((I 265 2))) 265 9))) 265 26))) 265 31))) a 138 (((u2 (u2 (u2 (u2 I a 134 ((I 265 2))) a 135 (((u2 I a 134 ((I 265 2))) 265 9))) a 136 (((u2 (u2 I a 134 ((I 265 2))) a 135 (((u2 I a 134 ((I 265 2))) 265 9))) 265 26))) a 137 (((u2 (u2 (u2 I a 134 ((I 265 2))) a 135 (((u2 I a 134 ((I 265 2))) 265 9))) a 136 (((u2 (u2 I a 134 ((I 265 2))) a 135 (((u2 I a 134 ((I 265 2))) 265 9))) 265 26))) 265 31))) 265 34))) 265 17)), L, M, rfl, rfl, (T.1 q1).2.2.2.2.2.2⟩
  · refine S_aload_n 1 dX11_keep_242 rfl rfl ?_
    refine S_bipush (v := 118) dX11_keep_243 (by decide) ?_
    refine S_iload_n 2 dX11_keep_245 rfl rfl ?_
    refine S_iadd dX11_keep_246 ?_
    refine S_aload_n 0 dX11_keep_247 rfl rfl ?_
    refine S_getP f_RX11_79 s_265 p_265_35 dX11_keep_248 ?_
    refine S_iload_n 2 dX11_keep_251 rfl rfl ?_
    refine S_iald s_288 (T.2 q1).1 dX11_keep_252 ?_
    refine S_iast ha (T.2 q1).2.1 dX11_keep_253 ?_
    refine S_aload_n 1 dX11_keep_254 rfl rfl ?_
    refine S_bipush (v := 126) dX11_keep_255 (by decide) ?_
    refine S_iload_n 2 dX11_keep_257 rfl rfl ?_
    refine S_iadd dX11_keep_258 ?_
    refine S_aload_n 0 dX11_keep_259 rfl rfl ?_
    refine S_getP f_RX11_82 s_265 p_265_36 dX11_keep_260 ?_
    refine S_iload_n 2 dX11_keep_263 rfl rfl ?_
    refine S_iald s_289 (T.2 q1).2.2.1 dX11_keep_264 ?_
    refine S_iast ha (T.2 q1).2.2.2.1 dX11_keep_265 ?_
    refine S_iinc 2 dX11_keep_266 rfl rfl (by decide) rfl ?_
    refine S_goto (tgt := 236) dX11_keep_269 (by decide) ?_
    exact S_sub [1, 2, 0] rfl (T.2 q1).2.2.2.2

set_option maxRecDepth 100000 in
theorem t_X11_kept {C : zC} {I : Nat → Nat → Int32} {L : Nat → Nat → Int64} {M : Nat → Nat → Option Nat} (d : Nat) (x0 : Int32) (x1 : Int64)  (K : Int64 → (Nat → Nat → Int32) → (Nat → Nat → Int64) → (Nat → Nat → Option Nat) → Prop) (T : ((x0 = 0 → K (((((((x1 : Int64).toInt32) : Int32).toInt8.toInt32) : Int32).toInt64)) I L M) ∧ (x0 = 1 → K (((((((x1 : Int64).toInt32) : Int32).toInt16.toInt32) : Int32).toInt64)) I L M) ∧ (x0 = 2 → K (((((x1 : Int64).toInt32) : Int32).toInt64)) I L M) ∧ (x0 = 3 → K x1 I L M) ∧ (((x0 : Int32).toInt < 0 ∨ 3 < (x0 : Int32).toInt) → (((lg_cmp x1 (0 : Int64)) = 0 → K 0 I L M) ∧ (¬ ((lg_cmp x1 (0 : Int64)) = 0) → K 1 I L M))))) : zCL C Y_X11_kept (d + 1) [.int x0, .long x1] (zmk I L M) K := by
  refine S_enter (by decide) (Nat.le_of_ble_eq_true rfl) ?_
  refine S_lv (lv' := [(0, .int x0), (1, .long x1)]) rfl ?_
  refine S_iload_n 0 dX11_kept_0 rfl rfl ?_
  rcases ztab0_4 x0 with q1 | q1 | q1 | q1 | q1
  · refine S_tabK (tgt := 32) dX11_kept_1 q1 (by decide) (by decide) (off := 31) rfl (by decide) ?_
    refine S_lload_n 1 dX11_kept_32 rfl rfl ?_
    refine S_l2i dX11_kept_33 ?_
    refine S_i2b dX11_kept_34 ?_
    refine S_i2l dX11_kept_35 ?_
    exact S_lret rfl dX11_kept_36 ⟨_, I, L, M, rfl, rfl, (T.1 q1)⟩
  · refine S_tabK (tgt := 37) dX11_kept_1 q1 (by decide) (by decide) (off := 36) rfl (by decide) ?_
    refine S_lload_n 1 dX11_kept_37 rfl rfl ?_
    refine S_l2i dX11_kept_38 ?_
    refine S_i2s dX11_kept_39 ?_
    refine S_i2l dX11_kept_40 ?_
    exact S_lret rfl dX11_kept_41 ⟨_, I, L, M, rfl, rfl, (T.2.1 q1)⟩
  · refine S_tabK (tgt := 42) dX11_kept_1 q1 (by decide) (by decide) (off := 41) rfl (by decide) ?_
    refine S_lload_n 1 dX11_kept_42 rfl rfl ?_
    refine S_l2i dX11_kept_43 ?_
    refine S_i2l dX11_kept_44 ?_
    exact S_lret rfl dX11_kept_45 ⟨_, I, L, M, rfl, rfl, (T.2.2.1 q1)⟩
  · refine S_tabK (tgt := 46) dX11_kept_1 q1 (by decide) (by decide) (off := 45) rfl (by decide) ?_
    refine S_lload_n 1 dX11_kept_46 rfl rfl ?_
    exact S_lret rfl dX11_kept_47 ⟨_, I, L, M, rfl, rfl, (T.2.2.2.1 q1)⟩
  · refine S_tabOut (tgt := 48) dX11_kept_1 q1 (by decide) ?_
    refine S_lload_n 1 dX11_kept_48 rfl rfl ?_
    refine S_lconst (v := 0) dX11_kept_49 (by decide) ?_
    refine S_lcmp dX11_kept_50 ?_
    refine S_if_eq (tgt := 58) dX11_kept_51 (by decide) (fun q2 => ?_) (fun q2 => ?_)
    · refine S_lconst (v := 0) dX11_kept_58 (by decide) ?_
      exact S_lret rfl dX11_kept_59 ⟨_, I, L, M, rfl, rfl, ((T.2.2.2.2 q1).1 q2)⟩
    · refine S_lconst (v := 1) dX11_kept_54 (by decide) ?_
      refine S_goto (tgt := 59) dX11_kept_55 (by decide) ?_
      exact S_lret rfl dX11_kept_59 ⟨_, I, L, M, rfl, rfl, ((T.2.2.2.2 q1).2 q2)⟩

set_option maxRecDepth 100000 in
theorem t_X11_part {C : zC} {I : Nat → Nat → Int32} {L : Nat → Nat → Int64} {M : Nat → Nat → Option Nat} (d : Nat) (x0 : Int64) (x2 : Int64) (x4 : Int32)  (K : Int64 → (Nat → Nat → Int32) → (Nat → Nat → Int64) → (Nat → Nat → Option Nat) → Prop) (T : zSL C (zmk I L M) K Y_X11_part (d + 1) 6 [(0, .long x0), (2, .long x2), (4, .int x4), (5, .long x0), (7, .long x2)] [] I L M) : zCL C Y_X11_part (d + 1) [.long x0, .long x2, .int x4] (zmk I L M) K := by
  refine S_enter (by decide) (Nat.le_of_ble_eq_true rfl) ?_
  refine S_lv (lv' := [(0, .long x0), (2, .long x2), (4, .int x4)]) rfl ?_
  refine S_lload_n 0 dX11_part_0 rfl rfl ?_
  refine S_lstore dX11_part_1 (by decide) rfl ?_
  refine S_lload_n 2 dX11_part_3 rfl rfl ?_
  refine S_lstore dX11_part_4 (by decide) rfl ?_
  exact S_sub [2, 3, 4, 1, 0] rfl T

set_option maxRecDepth 100000 in
theorem t_X11_part_6 {C : zC} {I : Nat → Nat → Int32} {L : Nat → Nat → Int64} {M : Nat → Nat → Option Nat} {h0 : zH} (d : Nat)   (y0 : Int64) (y2 : Int64) (y4 : Int32) (y5 : Int64) (y7 : Int64) (K : Int64 → (Nat → Nat → Int32) → (Nat → Nat → Int64) → (Nat → Nat → Option Nat) → Prop) (T : (((lg_cmp y7 (0 : Int64)) = 0 → ((¬ y4 = 0 → (¬ (y5 : Int64) = 0) ∧ K ((y2 / y5)) I L M) ∧ (y4 = 0 → (¬ (y5 : Int64) = 0) ∧ K ((y0 / y5)) I L M))) ∧ (¬ ((lg_cmp y7 (0 : Int64)) = 0) → (¬ (y7 : Int64) = 0) ∧ zSL C h0 K Y_X11_part (d + 1) 6 [(0, .long y0), (2, .long y2), (4, .int y4), (5, .long y7), (7, .long (y5 - y5 / y7 * y7))] [] I L M))) : zSL C h0 K Y_X11_part (d + 1) 6 [(0, .long y0), (2, .long y2), (4, .int y4), (5, .long y5), (7, .long y7)] [] I L M := by
  refine S_lload 4 dX11_part_6 rfl ?_
  refine S_lconst (v := 0) dX11_part_8 (by decide) ?_
  refine S_lcmp dX11_part_9 ?_
  refine S_if_eq (tgt := 31) dX11_part_10 (by decide) (fun q1 => ?_) (fun q1 => ?_)
  · refine S_iload 2 dX11_part_31 rfl ?_
    refine S_if_ne (tgt := 43) dX11_part_33 (by decide) (fun q2 => ?_) (fun q2 => ?_)
    · refine S_lload_n 1 dX11_part_43 rfl rfl ?_
      refine S_lload 3 dX11_part_44 rfl ?_
      refine S_ldiv dX11_part_46 ((T.1 q1).1 q2).1 ?_
      exact S_lret rfl dX11_part_47 ⟨_, I, L, M, rfl, rfl, ((T.1 q1).1 q2).2⟩
    · refine S_lload_n 0 dX11_part_36 rfl rfl ?_
      refine S_lload 3 dX11_part_37 rfl ?_
      refine S_ldiv dX11_part_39 ((T.1 q1).2 q2).1 ?_
      refine S_goto (tgt := 47) dX11_part_40 (by decide) ?_
      exact S_lret rfl dX11_part_47 ⟨_, I, L, M, rfl, rfl, ((T.1 q1).2 q2).2⟩
  · refine S_lload 3 dX11_part_13 rfl ?_
    refine S_lload 4 dX11_part_15 rfl ?_
    refine S_lrem dX11_part_17 (T.2 q1).1 ?_
    refine S_lstore dX11_part_18 (by decide) rfl ?_
    refine S_lload 5 dX11_part_20 rfl ?_
    refine S_lstore dX11_part_22 (by decide) rfl ?_
    refine S_lload 1 dX11_part_24 rfl ?_
    refine S_lstore dX11_part_26 (by decide) rfl ?_
    refine S_goto (tgt := 6) dX11_part_28 (by decide) ?_
    exact S_sub [3, 4, 5, 1, 0] rfl (T.2 q1).2

set_option maxRecDepth 100000 in
theorem t_X11_pass {C : zC} {I : Nat → Nat → Int32} {L : Nat → Nat → Int64} {M : Nat → Nat → Option Nat} (d : Nat) (x1 : Int32)  (K : Int32 → (Nat → Nat → Int32) → (Nat → Nat → Int64) → (Nat → Nat → Option Nat) → Prop) (T : ((((0 : Int32) ≤ x1 ∧ x1 ≤ 60) → ((((I 265 9) + x1) ≤ 9999 → zSI C (zmk I L M) K Y_X11_pass (d + 7) 30 [(0, .ref 265), (1, .int x1), (2, .int 0)] [] I L M) ∧ (¬ (((I 265 9) + x1) ≤ 9999) → K ((-3)) I L M))) ∧ (¬ ((0 : Int32) ≤ x1 ∧ x1 ≤ 60) → K ((-2)) I L M))) : zCI C Y_X11_pass (d + 7) [.ref 265, .int x1] (zmk I L M) K := by
  refine S_enter (by decide) (Nat.le_of_ble_eq_true rfl) ?_
  refine S_lv (lv' := [(0, .ref 265), (1, .int x1)]) rfl ?_
  refine S_iload_n 1 dX11_pass_0 rfl rfl ?_
  refine S_iconst (v := 0) dX11_pass_1 (by decide) ?_
  refine S_bipush (v := 60) dX11_pass_2 (by decide) ?_
  refine S_callS [.int x1, .int 0, .int 60] [] m_RX11_114 rfl rfl (Nat.le_of_ble_eq_true rfl) (zroom_0 (by decide)) dX11_pass_4 (zpure (sp_X11_within (I := I) (L := L) (M := M) (d + 5) x1 0 60) ?_)
  refine S_if_ne (tgt := 13) dX11_pass_7 (by decide) (fun q1 => ?_) (fun q1 => ?_)
  · refine S_aload_n 0 dX11_pass_13 rfl rfl ?_
    refine S_getI f_RX11_221 s_265 dX11_pass_14 ?_
    refine S_iload_n 1 dX11_pass_17 rfl rfl ?_
    refine S_iadd dX11_pass_18 ?_
    refine S_sipush (v := 9999) dX11_pass_19 (by decide) ?_
    refine S_icmp_le (tgt := 28) dX11_pass_22 (by decide) (fun q2 => ?_) (fun q2 => ?_)
    · refine S_iconst (v := 0) dX11_pass_28 (by decide) ?_
      refine S_istore_n dX11_pass_29 rfl (by decide) rfl ?_
      exact S_sub [1, 2, 0] rfl ((T.1 (zb_t q1)).1 q2)
    · refine S_bipush (v := -3) dX11_pass_25 (by decide) ?_
      exact S_ireti rfl dX11_pass_27 ⟨_, I, L, M, rfl, rfl, ((T.1 (zb_t q1)).2 q2)⟩
  · refine S_bipush (v := -2) dX11_pass_10 (by decide) ?_
    exact S_ireti rfl dX11_pass_12 ⟨_, I, L, M, rfl, rfl, (T.2 (zb_f q1))⟩

set_option maxRecDepth 100000 in
theorem t_X11_pass_30 {C : zC} {I : Nat → Nat → Int32} {L : Nat → Nat → Int64} {M : Nat → Nat → Option Nat} {h0 : zH} (d : Nat)   (y1 : Int32) (y2 : Int32) (K : Int32 → (Nat → Nat → Int32) → (Nat → Nat → Int64) → (Nat → Nat → Option Nat) → Prop) (T : ((y1 ≤ y2 → K ((I 265 9)) I L M) ∧ (¬ (y1 ≤ y2) → zCV C Y_X11_goesNight (d + 6) [.ref 265] (zmk I L M) (fun I1_2 L1_2 M1_2 => zSI C h0 K Y_X11_pass (d + 7) 30 [(0, .ref 265), (1, .int y1), (2, .int (y2 + 1))] [] I1_2 L1_2 M1_2)))) : zSI C h0 K Y_X11_pass (d + 7) 30 [(0, .ref 265), (1, .int y1), (2, .int y2)] [] I L M := by
  refine S_iload_n 2 dX11_pass_30 rfl rfl ?_
  refine S_iload_n 1 dX11_pass_31 rfl rfl ?_
  refine S_icmp_ge (tgt := 45) dX11_pass_32 (by decide) (fun q1 => ?_) (fun q1 => ?_)
  · refine S_aload_n 0 dX11_pass_45 rfl rfl ?_
    refine S_getI f_RX11_221 s_265 dX11_pass_46 ?_
    exact S_ireti rfl dX11_pass_49 ⟨_, I, L, M, rfl, rfl, (T.1 q1)⟩
  · refine S_aload_n 0 dX11_pass_35 rfl rfl ?_
    refine S_callV [] [] m_RX11_266 rfl rfl s_265 ⟨rfl, by decide⟩ (Nat.le_of_ble_eq_true rfl) (zroom_0 (by decide)) dX11_pass_36 (zCV_use (T.2 q1) ?_)
    intro I1_2 L1_2 M1_2 T1_2
    refine S_iinc 2 dX11_pass_39 rfl rfl (by decide) rfl ?_
    refine S_goto (tgt := 30) dX11_pass_42 (by decide) ?_
    exact S_sub [1, 2, 0] rfl T1_2

set_option maxRecDepth 100000 in
theorem t_X11_plan {C : zC} {I : Nat → Nat → Int32} {L : Nat → Nat → Int64} {M : Nat → Nat → Option Nat} (d : Nat) (x1 : Int32) (x2 : Int32)  (K : Int32 → (Nat → Nat → Int32) → (Nat → Nat → Int64) → (Nat → Nat → Option Nat) → Prop) (T : ((¬ x1 = (-1) → ((¬ ((0 : Int32) ≤ x1 ∧ x1 ≤ 3) → K ((-1)) I L M) ∧ (((0 : Int32) ≤ x1 ∧ x1 ≤ 3) → ((x1 ≤ 0 → zSI C (zmk I L M) K Y_X11_plan (d + 3) 35 [(0, .ref 265), (1, .int x1), (2, .int x2)] [] I L M) ∧ (¬ (x1 ≤ 0) → (((0 ≤ x2 ∧ x2 ≤ I 265 2 - 1) → zSI C (zmk I L M) K Y_X11_plan (d + 3) 35 [(0, .ref 265), (1, .int x1), (2, .int x2)] [] I L M) ∧ (¬ (0 ≤ x2 ∧ x2 ≤ I 265 2 - 1) → K ((-1)) I L M))))))) ∧ (x1 = (-1) → K 0 (u2 I 265 31 0) L M))) : zCI C Y_X11_plan (d + 3) [.ref 265, .int x1, .int x2] (zmk I L M) K := by
  refine S_enter (by decide) (Nat.le_of_ble_eq_true rfl) ?_
  refine S_lv (lv' := [(0, .ref 265), (1, .int x1), (2, .int x2)]) rfl ?_
  refine S_iload_n 1 dX11_plan_0 rfl rfl ?_
  refine S_iconst (v := -1) dX11_plan_1 (by decide) ?_
  refine S_icmp_ne (tgt := 12) dX11_plan_2 (by decide) (fun q1 => ?_) (fun q1 => ?_)
  · refine S_iload_n 1 dX11_plan_12 rfl rfl ?_
    refine S_iconst (v := 0) dX11_plan_13 (by decide) ?_
    refine S_iconst (v := 3) dX11_plan_14 (by decide) ?_
    refine S_callS [.int x1, .int 0, .int 3] [] m_RX11_114 rfl rfl (Nat.le_of_ble_eq_true rfl) (zroom_0 (by decide)) dX11_plan_15 (zpure (sp_X11_within (I := I) (L := L) (M := M) (d + 1) x1 0 3) ?_)
    refine S_if_eq (tgt := 33) dX11_plan_18 (by decide) (fun q2 => ?_) (fun q2 => ?_)
    · refine S_iconst (v := -1) dX11_plan_33 (by decide) ?_
      exact S_ireti rfl dX11_plan_34 ⟨_, I, L, M, rfl, rfl, ((T.1 q1).1 (zb_f q2))⟩
    · refine S_iload_n 1 dX11_plan_21 rfl rfl ?_
      refine S_if_le (tgt := 35) dX11_plan_22 (by decide) (fun q3 => ?_) (fun q3 => ?_)
      · exact S_sub [0, 1, 2] rfl (((T.1 q1).2 (zb_t q2)).1 q3)
      · refine S_aload_n 0 dX11_plan_25 rfl rfl ?_
        refine S_iload_n 2 dX11_plan_26 rfl rfl ?_
        refine S_callV [.int x2] [] m_RX11_118 rfl rfl s_265 ⟨rfl, by decide⟩ (Nat.le_of_ble_eq_true rfl) (zroom_0 (by decide)) dX11_plan_27 (zpure (sp_X11_isOne (I := I) (L := L) (M := M) (d + 0) x2) ?_)
        refine S_if_ne (tgt := 35) dX11_plan_30 (by decide) (fun q4 => ?_) (fun q4 => ?_)
        · exact S_sub [0, 1, 2] rfl ((((T.1 q1).2 (zb_t q2)).2 q3).1 (zb_t q4))
        · refine S_iconst (v := -1) dX11_plan_33 (by decide) ?_
          exact S_ireti rfl dX11_plan_34 ⟨_, I, L, M, rfl, rfl, ((((T.1 q1).2 (zb_t q2)).2 q3).2 (zb_f q4))⟩
  · refine S_aload_n 0 dX11_plan_5 rfl rfl ?_
    refine S_iconst (v := 0) dX11_plan_6 (by decide) ?_
    refine S_putI f_RX11_301 s_265 (Or.inl rfl) rfl dX11_plan_7 ?_
    refine S_iconst (v := 0) dX11_plan_10 (by decide) ?_
    exact S_ireti rfl dX11_plan_11 ⟨_, u2 I 265 31 0, L, M, rfl, rfl, (T.2 q1)⟩

set_option maxRecDepth 100000 in
theorem t_X11_plan_35 {C : zC} {I : Nat → Nat → Int32} {L : Nat → Nat → Int64} {M : Nat → Nat → Option Nat} {h0 : zH} (d : Nat)   (y1 : Int32) (y2 : Int32) (K : Int32 → (Nat → Nat → Int32) → (Nat → Nat → Int64) → (Nat → Nat → Option Nat) → Prop) (T : ((¬ (I 265 31) = 10 → vp_in ((I 265 31)) 10 ∧ ((¬ y1 = 0 → vp_in ((I 265 31)) 10 ∧ K (((I 265 31) + (1 : Int32))) (u2 (u2 (u2 I 286 (((I 265 31)).toNatClampNeg) y1) 265 31 (((I 265 31) + (1 : Int32)))) 287 (((I 265 31)).toNatClampNeg) y2) L M) ∧ (y1 = 0 → vp_in ((I 265 31)) 10 ∧ K (((I 265 31) + (1 : Int32))) (u2 (u2 (u2 I 286 (((I 265 31)).toNatClampNeg) y1) 265 31 (((I 265 31) + (1 : Int32)))) 287 (((I 265 31)).toNatClampNeg) 0) L M))) ∧ ((I 265 31) = 10 → K ((-4)) I L M))) : zSI C h0 K Y_X11_plan (d + 3) 35 [(0, .ref 265), (1, .int y1), (2, .int y2)] [] I L M := by
  refine S_aload_n 0 dX11_plan_35 rfl rfl ?_
  refine S_getI f_RX11_301 s_265 dX11_plan_36 ?_
  refine S_bipush (v := 10) dX11_plan_39 (by decide) ?_
  refine S_icmp_ne (tgt := 47) dX11_plan_41 (by decide) (fun q1 => ?_) (fun q1 => ?_)
  · refine S_aload_n 0 dX11_plan_47 rfl rfl ?_
    refine S_getP f_RX11_73 s_265 p_265_32 dX11_plan_48 ?_
    refine S_aload_n 0 dX11_plan_51 rfl rfl ?_
    refine S_getI f_RX11_301 s_265 dX11_plan_52 ?_
    refine S_iload_n 1 dX11_plan_55 rfl rfl ?_
    refine S_iast s_286 (T.1 q1).1 dX11_plan_56 ?_
    refine S_aload_n 0 dX11_plan_57 rfl rfl ?_
    refine S_getP f_RX11_76 s_265 p_265_33 dX11_plan_58 ?_
    refine S_aload_n 0 dX11_plan_61 rfl rfl ?_
    refine S_dup dX11_plan_62 rfl ?_
    refine S_getI f_RX11_301 s_265 dX11_plan_63 ?_
    refine S_dup_x1 dX11_plan_66 rfl rfl ?_
    refine S_iconst (v := 1) dX11_plan_67 (by decide) ?_
    refine S_iadd dX11_plan_68 ?_
    refine S_putI f_RX11_301 s_265 (Or.inl rfl) rfl dX11_plan_69 ?_
    refine S_iload_n 1 dX11_plan_72 rfl rfl ?_
    refine S_if_ne (tgt := 80) dX11_plan_73 (by decide) (fun q2 => ?_) (fun q2 => ?_)
    · refine S_iload_n 2 dX11_plan_80 rfl rfl ?_
      refine S_iast s_287 ((T.1 q1).2.1 q2).1 dX11_plan_81 ?_
      refine S_aload_n 0 dX11_plan_82 rfl rfl ?_
      refine S_getI f_RX11_301 s_265 dX11_plan_83 ?_
      exact S_ireti rfl dX11_plan_86 ⟨_, u2 (u2 (u2 I 286 (((I 265 31)).toNatClampNeg) y1) 265 31 (((I 265 31) + (1 : Int32)))) 287 (((I 265 31)).toNatClampNeg) y2, L, M, rfl, rfl, ((T.1 q1).2.1 q2).2⟩
    · refine S_iconst (v := 0) dX11_plan_76 (by decide) ?_
      refine S_goto (tgt := 81) dX11_plan_77 (by decide) ?_
      refine S_iast s_287 ((T.1 q1).2.2 q2).1 dX11_plan_81 ?_
      refine S_aload_n 0 dX11_plan_82 rfl rfl ?_
      refine S_getI f_RX11_301 s_265 dX11_plan_83 ?_
      exact S_ireti rfl dX11_plan_86 ⟨_, u2 (u2 (u2 I 286 (((I 265 31)).toNatClampNeg) y1) 265 31 (((I 265 31) + (1 : Int32)))) 287 (((I 265 31)).toNatClampNeg) 0, L, M, rfl, rfl, ((T.1 q1).2.2 q2).2⟩
  · refine S_bipush (v := -4) dX11_plan_44 (by decide) ?_
    exact S_ireti rfl dX11_plan_46 ⟨_, I, L, M, rfl, rfl, (T.2 q1)⟩

set_option maxRecDepth 100000 in
theorem t_X11_prey {C : zC} {I : Nat → Nat → Int32} {L : Nat → Nat → Int64} {M : Nat → Nat → Option Nat} (d : Nat) (x1 : Int32)  (K : Int32 → (Nat → Nat → Int32) → (Nat → Nat → Int64) → (Nat → Nat → Option Nat) → Prop) (T : zSI C (zmk I L M) K Y_X11_prey (d + 5) 8 [(0, .ref 265), (1, .int x1), (2, .int (-5)), (3, .int 0), (4, .int 0)] [] I L M) : zCI C Y_X11_prey (d + 5) [.ref 265, .int x1] (zmk I L M) K := by
  refine S_enter (by decide) (Nat.le_of_ble_eq_true rfl) ?_
  refine S_lv (lv' := [(0, .ref 265), (1, .int x1)]) rfl ?_
  refine S_bipush (v := -5) dX11_prey_0 (by decide) ?_
  refine S_istore_n dX11_prey_2 rfl (by decide) rfl ?_
  refine S_iconst (v := 0) dX11_prey_3 (by decide) ?_
  refine S_istore_n dX11_prey_4 rfl (by decide) rfl ?_
  refine S_iconst (v := 0) dX11_prey_5 (by decide) ?_
  refine S_istore dX11_prey_6 (by decide) rfl ?_
  exact S_sub [3, 4, 2, 1, 0] rfl T

set_option maxRecDepth 100000 in
theorem t_X11_prey_8 {C : zC} {I : Nat → Nat → Int32} {L : Nat → Nat → Int64} {M : Nat → Nat → Option Nat} {h0 : zH} (d : Nat)   (y1 : Int32) (y2 : Int32) (y3 : Int32) (y4 : Int32) (K : Int32 → (Nat → Nat → Int32) → (Nat → Nat → Int64) → (Nat → Nat → Option Nat) → Prop) (T : ((12 ≤ y4 → K y2 I L M) ∧ (¬ (12 ≤ y4) → vp_in y1 6 ∧ ((¬ (I 272 y1.toNatClampNeg) = 1 → K y2 I L M) ∧ ((I 272 y1.toNatClampNeg) = 1 → vp_in y1 6 ∧ (((zhas ((I 270 y1.toNatClampNeg)) y4) → zCI C Y_X11_tempts (d + 4) [.ref 265, .int y1, .int y4] (zmk I L M) (fun r1_4 I1_4 L1_4 M1_4 => ((y3 < r1_4 → zSI C h0 K Y_X11_prey (d + 5) 8 [(0, .ref 265), (1, .int y1), (2, .int y4), (3, .int r1_4), (4, .int (y4 + 1))] [] I1_4 L1_4 M1_4) ∧ (¬ (y3 < r1_4) → zSI C h0 K Y_X11_prey (d + 5) 8 [(0, .ref 265), (1, .int y1), (2, .int y2), (3, .int y3), (4, .int (y4 + 1))] [] I1_4 L1_4 M1_4)))) ∧ (¬ (zhas ((I 270 y1.toNatClampNeg)) y4) → zSI C h0 K Y_X11_prey (d + 5) 8 [(0, .ref 265), (1, .int y1), (2, .int y2), (3, .int y3), (4, .int (y4 + 1))] [] I L M))))))) : zSI C h0 K Y_X11_prey (d + 5) 8 [(0, .ref 265), (1, .int y1), (2, .int y2), (3, .int y3), (4, .int y4)] [] I L M := by
  refine S_iload 4 dX11_prey_8 rfl ?_
  refine S_bipush (v := 12) dX11_prey_10 (by decide) ?_
  refine S_icmp_ge (tgt := 72) dX11_prey_12 (by decide) (fun q1 => ?_) (fun q1 => ?_)
  · refine S_iload_n 2 dX11_prey_72 rfl rfl ?_
    exact S_ireti rfl dX11_prey_73 ⟨_, I, L, M, rfl, rfl, (T.1 q1)⟩
  · refine S_aload_n 0 dX11_prey_15 rfl rfl ?_
    refine S_getP f_RX11_30 s_265 p_265_7 dX11_prey_16 ?_
    refine S_iload_n 1 dX11_prey_19 rfl rfl ?_
    refine S_iald s_272 (T.2 q1).1 dX11_prey_20 ?_
    refine S_iconst (v := 1) dX11_prey_21 (by decide) ?_
    refine S_icmp_ne (tgt := 72) dX11_prey_22 (by decide) (fun q2 => ?_) (fun q2 => ?_)
    · refine S_iload_n 2 dX11_prey_72 rfl rfl ?_
      exact S_ireti rfl dX11_prey_73 ⟨_, I, L, M, rfl, rfl, ((T.2 q1).2.1 q2)⟩
    · refine S_aload_n 0 dX11_prey_25 rfl rfl ?_
      refine S_getP f_RX11_24 s_265 p_265_5 dX11_prey_26 ?_
      refine S_iload_n 1 dX11_prey_29 rfl rfl ?_
      refine S_iald s_270 ((T.2 q1).2.2 q2).1 dX11_prey_30 ?_
      refine S_iload 4 dX11_prey_31 rfl ?_
      refine S_callS [.int (I 270 y1.toNatClampNeg), .int y4] [] m_RX11_139 rfl rfl (Nat.le_of_ble_eq_true rfl) (zroom_0 (by decide)) dX11_prey_33 (zpure (sp_X11_has (I := I) (L := L) (M := M) (d + 3) ((I 270 y1.toNatClampNeg)) y4) ?_)
      refine S_if_ne (tgt := 42) dX11_prey_36 (by decide) (fun q3 => ?_) (fun q3 => ?_)
      · refine S_aload_n 0 dX11_prey_42 rfl rfl ?_
        refine S_iload_n 1 dX11_prey_43 rfl rfl ?_
        refine S_iload 4 dX11_prey_44 rfl ?_
        refine S_callV [.int y1, .int y4] [] m_RX11_125 rfl rfl s_265 ⟨rfl, by decide⟩ (Nat.le_of_ble_eq_true rfl) (zroom_0 (by decide)) dX11_prey_46 (zCI_use (((T.2 q1).2.2 q2).2.1 (zb_t q3)) ?_)
        intro r1_4 I1_4 L1_4 M1_4 T1_4
        refine S_istore dX11_prey_49 (by decide) rfl ?_
        refine S_iload 0 dX11_prey_51 rfl ?_
        refine S_iload_n 4 dX11_prey_53 rfl rfl ?_
        refine S_icmp_gt (tgt := 60) dX11_prey_54 (by decide) (fun q4 => ?_) (fun q4 => ?_)
        · refine S_iload 0 dX11_prey_60 rfl ?_
          refine S_istore_n dX11_prey_62 rfl (by decide) rfl ?_
          refine S_iload 5 dX11_prey_63 rfl ?_
          refine S_istore_n dX11_prey_65 rfl (by decide) rfl ?_
          refine S_iinc 5 dX11_prey_66 rfl rfl (by decide) rfl ?_
          refine S_goto (tgt := 8) dX11_prey_69 (by decide) ?_
          exact S_sub [4, 5, 1, 2, 0] rfl (T1_4.1 q4)
        · refine S_goto (tgt := 66) dX11_prey_57 (by decide) ?_
          refine S_iinc 5 dX11_prey_66 rfl rfl (by decide) rfl ?_
          refine S_goto (tgt := 8) dX11_prey_69 (by decide) ?_
          exact S_sub [2, 3, 4, 5, 0] rfl (T1_4.2 q4)
      · refine S_goto (tgt := 66) dX11_prey_39 (by decide) ?_
        refine S_iinc 4 dX11_prey_66 rfl rfl (by decide) rfl ?_
        refine S_goto (tgt := 8) dX11_prey_69 (by decide) ?_
        exact S_sub [1, 2, 3, 4, 0] rfl (((T.2 q1).2.2 q2).2.2 (zb_f q3))

set_option maxRecDepth 100000 in
theorem t_X11_read {C : zC} {I : Nat → Nat → Int32} {L : Nat → Nat → Int64} {M : Nat → Nat → Option Nat} (d : Nat) (x1 : Int32) (x2 : Int32)  (K : Int64 → (Nat → Nat → Int32) → (Nat → Nat → Int64) → (Nat → Nat → Option Nat) → Prop) (T : ((¬ (0 ≤ x1 ∧ x1 < 6) → K ((-9223372036854775808)) I L M) ∧ ((0 ≤ x1 ∧ x1 < 6) → vp_in x1 6 ∧ (((I 294 x1.toNatClampNeg) < 0 → K ((-9223372036854775808)) I L M) ∧ (¬ ((I 294 x1.toNatClampNeg) < 0) → vp_in x1 6 ∧ ((¬ ((0 : Int32) ≤ x2 ∧ x2 ≤ ((I 295 x1.toNatClampNeg) - (1 : Int32))) → K ((-9223372036854775808)) I L M) ∧ (((0 : Int32) ≤ x2 ∧ x2 ≤ ((I 295 x1.toNatClampNeg) - (1 : Int32))) → vp_in ((((60 : Int32) * x1) + x2)) 360 ∧ K ((L 296 (((((60 : Int32) * x1) + x2)).toNatClampNeg))) I L M))))))) : zCL C Y_X11_read (d + 3) [.ref 265, .int x1, .int x2] (zmk I L M) K := by
  refine S_enter (by decide) (Nat.le_of_ble_eq_true rfl) ?_
  refine S_lv (lv' := [(0, .ref 265), (1, .int x1), (2, .int x2)]) rfl ?_
  refine S_iload_n 1 dX11_read_0 rfl rfl ?_
  refine S_callS [.int x1] [] m_RX11_332 rfl rfl (Nat.le_of_ble_eq_true rfl) (zroom_0 (by decide)) dX11_read_1 (zpure (sp_X11_isTape (I := I) (L := L) (M := M) (d + 0) x1) ?_)
  refine S_if_eq (tgt := 46) dX11_read_4 (by decide) (fun q1 => ?_) (fun q1 => ?_)
  · refine S_ldc2 c_RX11_290 dX11_read_46 ?_
    exact S_lret rfl dX11_read_49 ⟨_, I, L, M, rfl, rfl, (T.1 (zb_f q1))⟩
  · refine S_aload_n 0 dX11_read_7 rfl rfl ?_
    refine S_getP f_RX11_97 s_265 p_265_43 dX11_read_8 ?_
    refine S_iload_n 1 dX11_read_11 rfl rfl ?_
    refine S_iald s_294 (T.2 (zb_t q1)).1 dX11_read_12 ?_
    refine S_if_lt (tgt := 46) dX11_read_13 (by decide) (fun q2 => ?_) (fun q2 => ?_)
    · refine S_ldc2 c_RX11_290 dX11_read_46 ?_
      exact S_lret rfl dX11_read_49 ⟨_, I, L, M, rfl, rfl, ((T.2 (zb_t q1)).2.1 q2)⟩
    · refine S_iload_n 2 dX11_read_16 rfl rfl ?_
      refine S_iconst (v := 0) dX11_read_17 (by decide) ?_
      refine S_aload_n 0 dX11_read_18 rfl rfl ?_
      refine S_getP f_RX11_100 s_265 p_265_44 dX11_read_19 ?_
      refine S_iload_n 1 dX11_read_22 rfl rfl ?_
      refine S_iald s_295 ((T.2 (zb_t q1)).2.2 q2).1 dX11_read_23 ?_
      refine S_iconst (v := 1) dX11_read_24 (by decide) ?_
      refine S_isub dX11_read_25 ?_
      refine S_callS [.int x2, .int 0, .int ((I 295 x1.toNatClampNeg) - (1 : Int32))] [] m_RX11_114 rfl rfl (Nat.le_of_ble_eq_true rfl) (zroom_0 (by decide)) dX11_read_26 (zpure (sp_X11_within (I := I) (L := L) (M := M) (d + 1) x2 0 (((I 295 x1.toNatClampNeg) - (1 : Int32)))) ?_)
      refine S_if_eq (tgt := 46) dX11_read_29 (by decide) (fun q3 => ?_) (fun q3 => ?_)
      · refine S_ldc2 c_RX11_290 dX11_read_46 ?_
        exact S_lret rfl dX11_read_49 ⟨_, I, L, M, rfl, rfl, (((T.2 (zb_t q1)).2.2 q2).2.1 (zb_f q3))⟩
      · refine S_aload_n 0 dX11_read_32 rfl rfl ?_
        refine S_getP f_RX11_103 s_265 p_265_45 dX11_read_33 ?_
        refine S_bipush (v := 60) dX11_read_36 (by decide) ?_
        refine S_iload_n 1 dX11_read_38 rfl rfl ?_
        refine S_imul dX11_read_39 ?_
        refine S_iload_n 2 dX11_read_40 rfl rfl ?_
        refine S_iadd dX11_read_41 ?_
        refine S_lald s_296 (((T.2 (zb_t q1)).2.2 q2).2.2 (zb_t q3)).1 dX11_read_42 ?_
        refine S_goto (tgt := 49) dX11_read_43 (by decide) ?_
        exact S_lret rfl dX11_read_49 ⟨_, I, L, M, rfl, rfl, (((T.2 (zb_t q1)).2.2 q2).2.2 (zb_t q3)).2⟩

set_option maxRecDepth 100000 in
theorem t_X11_sleeps {C : zC} {I : Nat → Nat → Int32} {L : Nat → Nat → Int64} {M : Nat → Nat → Option Nat} (d : Nat) (x1 : Int32) (x2 : Int32) (x3 : Int32)  (K : Int32 → (Nat → Nat → Int32) → (Nat → Nat → Int64) → (Nat → Nat → Option Nat) → Prop) (T : ((x2 = 0 → zCV C Y_X11_ran (d + 1) [.ref 265, .int 10] (zmk I L M) (fun I1_2 L1_2 M1_2 => K ((x3 + x1)) I1_2 L1_2 M1_2)) ∧ (x2 = 1 → zCI C Y_X11_above (d + 1) [.int x2] (zmk I L M) (fun r2_2 I2_2 L2_2 M2_2 => zCI C Y_X11_sleeps (d + 1) [.ref 265, .int x1, .int r2_2, .int x3] (zmk I2_2 L2_2 M2_2) (fun r3_2 I3_2 L3_2 M3_2 => K r3_2 I3_2 L3_2 M3_2))) ∧ (x2 = 2 → zCV C Y_X11_ran (d + 1) [.ref 265, .int 30] (zmk I L M) (fun I4_2 L4_2 M4_2 => zCI C Y_X11_sleeps (d + 1) [.ref 265, .int x1, .int 0, .int (x3 * (3 : Int32))] (zmk I4_2 L4_2 M4_2) (fun r5_2 I5_2 L5_2 M5_2 => K r5_2 I5_2 L5_2 M5_2))) ∧ (x2 = 3 → zCI C Y_X11_above (d + 1) [.int x2] (zmk I L M) (fun r6_2 I6_2 L6_2 M6_2 => zCI C Y_X11_sleeps (d + 1) [.ref 265, .int x1, .int r6_2, .int x3] (zmk I6_2 L6_2 M6_2) (fun r7_2 I7_2 L7_2 M7_2 => K r7_2 I7_2 L7_2 M7_2))) ∧ (x2 = 4 → zCV C Y_X11_ran (d + 1) [.ref 265, .int 50] (zmk I L M) (fun I8_2 L8_2 M8_2 => zCI C Y_X11_sleeps (d + 1) [.ref 265, .int x1, .int 1, .int x3] (zmk I8_2 L8_2 M8_2) (fun r9_2 I9_2 L9_2 M9_2 => K ((-r9_2)) I9_2 L9_2 M9_2))) ∧ (x2 = 5 → zCI C Y_X11_above (d + 1) [.int x2] (zmk I L M) (fun r10_2 I10_2 L10_2 M10_2 => zCI C Y_X11_sleeps (d + 1) [.ref 265, .int x1, .int r10_2, .int x3] (zmk I10_2 L10_2 M10_2) (fun r11_2 I11_2 L11_2 M11_2 => K r11_2 I11_2 L11_2 M11_2))) ∧ (x2 = 6 → zCV C Y_X11_ran (d + 1) [.ref 265, .int 71] (zmk I L M) (fun I12_2 L12_2 M12_2 => zCI C Y_X11_sleeps (d + 1) [.ref 265, .int x1, .int 3, .int x3] (zmk I12_2 L12_2 M12_2) (fun r13_2 I13_2 L13_2 M13_2 => vp_in x1 6 ∧ K ((r13_2 ^^^ (I13_2 269 x1.toNatClampNeg))) I13_2 L13_2 M13_2))) ∧ (((x2 : Int32).toInt < 0 ∨ 6 < (x2 : Int32).toInt) → zCI C Y_X11_above (d + 1) [.int x2] (zmk I L M) (fun r14_2 I14_2 L14_2 M14_2 => zCI C Y_X11_sleeps (d + 1) [.ref 265, .int x1, .int r14_2, .int x3] (zmk I14_2 L14_2 M14_2) (fun r15_2 I15_2 L15_2 M15_2 => K r15_2 I15_2 L15_2 M15_2))))) : zCI C Y_X11_sleeps (d + 2) [.ref 265, .int x1, .int x2, .int x3] (zmk I L M) K := by
  refine S_enter (by decide) (Nat.le_of_ble_eq_true rfl) ?_
  refine S_lv (lv' := [(0, .ref 265), (1, .int x1), (2, .int x2), (3, .int x3)]) rfl ?_
  refine S_iload_n 2 dX11_sleeps_0 rfl rfl ?_
  rcases ztab0_7 x2 with q1 | q1 | q1 | q1 | q1 | q1 | q1 | q1
  · refine S_tabK (tgt := 96) dX11_sleeps_1 q1 (by decide) (by decide) (off := 95) rfl (by decide) ?_
    refine S_aload_n 0 dX11_sleeps_96 rfl rfl ?_
    refine S_bipush (v := 10) dX11_sleeps_97 (by decide) ?_
    refine S_callV [.int 10] [] m_RX11_317 rfl rfl s_265 ⟨rfl, by decide⟩ (Nat.le_of_ble_eq_true rfl) (zroom_0 (by decide)) dX11_sleeps_99 (zCV_use (T.1 q1) ?_)
    intro I1_2 L1_2 M1_2 T1_2
    refine S_iload_n 3 dX11_sleeps_102 rfl rfl ?_
    refine S_iload_n 1 dX11_sleeps_103 rfl rfl ?_
    refine S_iadd dX11_sleeps_104 ?_
    exact S_ireti rfl dX11_sleeps_105 ⟨_, I1_2, L1_2, M1_2, rfl, rfl, T1_2⟩
  · refine S_tabK (tgt := 106) dX11_sleeps_1 q1 (by decide) (by decide) (off := 105) rfl (by decide) ?_
    refine S_aload_n 0 dX11_sleeps_106 rfl rfl ?_
    refine S_iload_n 1 dX11_sleeps_107 rfl rfl ?_
    refine S_iload_n 2 dX11_sleeps_108 rfl rfl ?_
    refine S_callS [.int x2] [.int x1, .ref 265] m_RX11_323 rfl rfl (Nat.le_of_ble_eq_true rfl) (zroom_0 (by decide)) dX11_sleeps_109 (zCI_use (T.2.1 q1) ?_)
    intro r2_2 I2_2 L2_2 M2_2 T2_2
    refine S_iload_n 3 dX11_sleeps_112 rfl rfl ?_
    refine S_callV [.int x1, .int r2_2, .int x3] [] m_RX11_320 rfl rfl s_265 ⟨rfl, by decide⟩ (Nat.le_of_ble_eq_true rfl) (zroom_0 (by decide)) dX11_sleeps_113 (zCI_use T2_2 ?_)
    intro r3_2 I3_2 L3_2 M3_2 T3_2
    exact S_ireti rfl dX11_sleeps_116 ⟨_, I3_2, L3_2, M3_2, rfl, rfl, T3_2⟩
  · refine S_tabK (tgt := 44) dX11_sleeps_1 q1 (by decide) (by decide) (off := 43) rfl (by decide) ?_
    refine S_aload_n 0 dX11_sleeps_44 rfl rfl ?_
    refine S_bipush (v := 30) dX11_sleeps_45 (by decide) ?_
    refine S_callV [.int 30] [] m_RX11_317 rfl rfl s_265 ⟨rfl, by decide⟩ (Nat.le_of_ble_eq_true rfl) (zroom_0 (by decide)) dX11_sleeps_47 (zCV_use (T.2.2.1 q1) ?_)
    intro I4_2 L4_2 M4_2 T4_2
    refine S_aload_n 0 dX11_sleeps_50 rfl rfl ?_
    refine S_iload_n 1 dX11_sleeps_51 rfl rfl ?_
    refine S_iconst (v := 0) dX11_sleeps_52 (by decide) ?_
    refine S_iload_n 3 dX11_sleeps_53 rfl rfl ?_
    refine S_iconst (v := 3) dX11_sleeps_54 (by decide) ?_
    refine S_imul dX11_sleeps_55 ?_
    refine S_callV [.int x1, .int 0, .int (x3 * (3 : Int32))] [] m_RX11_320 rfl rfl s_265 ⟨rfl, by decide⟩ (Nat.le_of_ble_eq_true rfl) (zroom_0 (by decide)) dX11_sleeps_56 (zCI_use T4_2 ?_)
    intro r5_2 I5_2 L5_2 M5_2 T5_2
    exact S_ireti rfl dX11_sleeps_59 ⟨_, I5_2, L5_2, M5_2, rfl, rfl, T5_2⟩
  · refine S_tabK (tgt := 106) dX11_sleeps_1 q1 (by decide) (by decide) (off := 105) rfl (by decide) ?_
    refine S_aload_n 0 dX11_sleeps_106 rfl rfl ?_
    refine S_iload_n 1 dX11_sleeps_107 rfl rfl ?_
    refine S_iload_n 2 dX11_sleeps_108 rfl rfl ?_
    refine S_callS [.int x2] [.int x1, .ref 265] m_RX11_323 rfl rfl (Nat.le_of_ble_eq_true rfl) (zroom_0 (by decide)) dX11_sleeps_109 (zCI_use (T.2.2.2.1 q1) ?_)
    intro r6_2 I6_2 L6_2 M6_2 T6_2
    refine S_iload_n 3 dX11_sleeps_112 rfl rfl ?_
    refine S_callV [.int x1, .int r6_2, .int x3] [] m_RX11_320 rfl rfl s_265 ⟨rfl, by decide⟩ (Nat.le_of_ble_eq_true rfl) (zroom_0 (by decide)) dX11_sleeps_113 (zCI_use T6_2 ?_)
    intro r7_2 I7_2 L7_2 M7_2 T7_2
    exact S_ireti rfl dX11_sleeps_116 ⟨_, I7_2, L7_2, M7_2, rfl, rfl, T7_2⟩
  · refine S_tabK (tgt := 60) dX11_sleeps_1 q1 (by decide) (by decide) (off := 59) rfl (by decide) ?_
    refine S_aload_n 0 dX11_sleeps_60 rfl rfl ?_
    refine S_bipush (v := 50) dX11_sleeps_61 (by decide) ?_
    refine S_callV [.int 50] [] m_RX11_317 rfl rfl s_265 ⟨rfl, by decide⟩ (Nat.le_of_ble_eq_true rfl) (zroom_0 (by decide)) dX11_sleeps_63 (zCV_use (T.2.2.2.2.1 q1) ?_)
    intro I8_2 L8_2 M8_2 T8_2
    refine S_aload_n 0 dX11_sleeps_66 rfl rfl ?_
    refine S_iload_n 1 dX11_sleeps_67 rfl rfl ?_
    refine S_iconst (v := 1) dX11_sleeps_68 (by decide) ?_
    refine S_iload_n 3 dX11_sleeps_69 rfl rfl ?_
    refine S_callV [.int x1, .int 1, .int x3] [] m_RX11_320 rfl rfl s_265 ⟨rfl, by decide⟩ (Nat.le_of_ble_eq_true rfl) (zroom_0 (by decide)) dX11_sleeps_70 (zCI_use T8_2 ?_)
    intro r9_2 I9_2 L9_2 M9_2 T9_2
    refine S_ineg dX11_sleeps_73 ?_
    exact S_ireti rfl dX11_sleeps_74 ⟨_, I9_2, L9_2, M9_2, rfl, rfl, T9_2⟩
  · refine S_tabK (tgt := 106) dX11_sleeps_1 q1 (by decide) (by decide) (off := 105) rfl (by decide) ?_
    refine S_aload_n 0 dX11_sleeps_106 rfl rfl ?_
    refine S_iload_n 1 dX11_sleeps_107 rfl rfl ?_
    refine S_iload_n 2 dX11_sleeps_108 rfl rfl ?_
    refine S_callS [.int x2] [.int x1, .ref 265] m_RX11_323 rfl rfl (Nat.le_of_ble_eq_true rfl) (zroom_0 (by decide)) dX11_sleeps_109 (zCI_use (T.2.2.2.2.2.1 q1) ?_)
    intro r10_2 I10_2 L10_2 M10_2 T10_2
    refine S_iload_n 3 dX11_sleeps_112 rfl rfl ?_
    refine S_callV [.int x1, .int r10_2, .int x3] [] m_RX11_320 rfl rfl s_265 ⟨rfl, by decide⟩ (Nat.le_of_ble_eq_true rfl) (zroom_0 (by decide)) dX11_sleeps_113 (zCI_use T10_2 ?_)
    intro r11_2 I11_2 L11_2 M11_2 T11_2
    exact S_ireti rfl dX11_sleeps_116 ⟨_, I11_2, L11_2, M11_2, rfl, rfl, T11_2⟩
  · refine S_tabK (tgt := 75) dX11_sleeps_1 q1 (by decide) (by decide) (off := 74) rfl (by decide) ?_
    refine S_aload_n 0 dX11_sleeps_75 rfl rfl ?_
    refine S_bipush (v := 71) dX11_sleeps_76 (by decide) ?_
    refine S_callV [.int 71] [] m_RX11_317 rfl rfl s_265 ⟨rfl, by decide⟩ (Nat.le_of_ble_eq_true rfl) (zroom_0 (by decide)) dX11_sleeps_78 (zCV_use (T.2.2.2.2.2.2.1 q1) ?_)
    intro I12_2 L12_2 M12_2 T12_2
    refine S_aload_n 0 dX11_sleeps_81 rfl rfl ?_
    refine S_iload_n 1 dX11_sleeps_82 rfl rfl ?_
    refine S_iconst (v := 3) dX11_sleeps_83 (by decide) ?_
    refine S_iload_n 3 dX11_sleeps_84 rfl rfl ?_
    refine S_callV [.int x1, .int 3, .int x3] [] m_RX11_320 rfl rfl s_265 ⟨rfl, by decide⟩ (Nat.le_of_ble_eq_true rfl) (zroom_0 (by decide)) dX11_sleeps_85 (zCI_use T12_2 ?_)
    intro r13_2 I13_2 L13_2 M13_2 T13_2
    refine S_aload_n 0 dX11_sleeps_88 rfl rfl ?_
    refine S_getP f_RX11_21 s_265 p_265_4 dX11_sleeps_89 ?_
    refine S_iload_n 1 dX11_sleeps_92 rfl rfl ?_
    refine S_iald s_269 T13_2.1 dX11_sleeps_93 ?_
    refine S_ixor dX11_sleeps_94 ?_
    exact S_ireti rfl dX11_sleeps_95 ⟨_, I13_2, L13_2, M13_2, rfl, rfl, T13_2.2⟩
  · refine S_tabOut (tgt := 106) dX11_sleeps_1 q1 (by decide) ?_
    refine S_aload_n 0 dX11_sleeps_106 rfl rfl ?_
    refine S_iload_n 1 dX11_sleeps_107 rfl rfl ?_
    refine S_iload_n 2 dX11_sleeps_108 rfl rfl ?_
    refine S_callS [.int x2] [.int x1, .ref 265] m_RX11_323 rfl rfl (Nat.le_of_ble_eq_true rfl) (zroom_0 (by decide)) dX11_sleeps_109 (zCI_use (T.2.2.2.2.2.2.2 q1) ?_)
    intro r14_2 I14_2 L14_2 M14_2 T14_2
    refine S_iload_n 3 dX11_sleeps_112 rfl rfl ?_
    refine S_callV [.int x1, .int r14_2, .int x3] [] m_RX11_320 rfl rfl s_265 ⟨rfl, by decide⟩ (Nat.le_of_ble_eq_true rfl) (zroom_0 (by decide)) dX11_sleeps_113 (zCI_use T14_2 ?_)
    intro r15_2 I15_2 L15_2 M15_2 T15_2
    exact S_ireti rfl dX11_sleeps_116 ⟨_, I15_2, L15_2, M15_2, rfl, rfl, T15_2⟩

