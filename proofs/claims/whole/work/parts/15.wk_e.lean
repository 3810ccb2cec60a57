set_option maxRecDepth 100000 in
theorem t_X11_again {C : zC} {I : Nat → Nat → Int32} {L : Nat → Nat → Int64} {M : Nat → Nat → Option Nat} (d : Nat) {a a_n : Nat} (ha : zsh a = (12, a_n)) (K : (Nat → Nat → Int32) → (Nat → Nat → Int64) → (Nat → Nat → Option Nat) → Prop) (T : zSV C (zmk I L M) K Y_X11_again (d + 1) 2 [(0, .ref 265), (1, .ref a), (2, .int 0)] [] I L M) : zCV C Y_X11_again (d + 1) [.ref 265, .ref a] (zmk I L M) K := by
  refine S_enter (by decide) (Nat.le_of_ble_eq_true rfl) ?_
  refine S_lv (lv' := [(0, .ref 265), (1, .ref a)]) rfl ?_
  refine S_iconst (v := 0) dX11_again_0 (by decide) ?_
  refine S_istore_n dX11_again_1 rfl (by decide) rfl ?_
  exact S_sub [1, 2, 0] rfl T

set_option maxRecDepth 100000 in
theorem t_X11_again_2 {C : zC} {I : Nat → Nat → Int32} {L : Nat → Nat → Int64} {M : Nat → Nat → Option Nat} {h0 : zH} (d : Nat) {a a_n : Nat} (ha : zsh a = (12, a_n))  (y2 : Int32) (K : (Nat → Nat → Int32) → (Nat → Nat → Int64) → (Nat → Nat → Option Nat) → Prop) (T : ((12 ≤ y2 → zSV C h0 K Y_X11_again (d + 1) 37 [(0, .ref 265), (1, .ref a), (2, .int 0)] [] I L M) ∧ (¬ (12 ≤ y2) → vp_in y2 a_n ∧ vp_in y2 12 ∧ vp_in (((12 : Int32) + y2)) a_n ∧ vp_in y2 12 ∧ zSV C h0 K Y_X11_again (d + 1) 2 [(0, .ref 265), (1, .ref a), (2, .int (y2 + 1))] [] (u2 (u2 I 266 y2.toNatClampNeg ((I a y2.toNatClampNeg))) 267 y2.toNatClampNeg (((u2 I 266 y2.toNatClampNeg ((I a y2.toNatClampNeg))) a ((((12 : Int32) + y2)).toNatClampNeg)))) L M))) : zSV C h0 K Y_X11_again (d + 1) 2 [(0, .ref 265), (1, .ref a), (2, .int y2)] [] I L M := by
  refine S_iload_n 2 dX11_again_2 rfl rfl ?_
  refine S_bipush (v := 12) dX11_again_3 (by decide) ?_
  refine S_icmp_ge (tgt := 35) dX11_again_5 (by decide) (fun q1 => ?_) (fun q1 => ?_)
  · refine S_iconst (v := 0) dX11_again_35 (by decide) ?_
    refine S_istore_n dX11_again_36 rfl (by decide) rfl ?_
    exact S_sub [1, 2, 0] rfl (T.1 q1)
  · refine S_aload_n 0 dX11_again_8 rfl rfl ?_
    refine S_getP f_RX11_9 s_265 p_265_0 dX11_again_9 ?_
    refine S_iload_n 2 dX11_again_12 rfl rfl ?_
    refine S_aload_n 1 dX11_again_13 rfl rfl ?_
    refine S_iload_n 2 dX11_again_14 rfl rfl ?_
    refine S_iald ha (T.2 q1).1 dX11_again_15 ?_
    refine S_iast s_266 (T.2 q1).2.1 dX11_again_16 ?_
    refine S_aload_n 0 dX11_again_17 rfl rfl ?_
    refine S_getP f_RX11_15 s_265 p_265_1 dX11_again_18 ?_
    refine S_iload_n 2 dX11_again_21 rfl rfl ?_
    refine S_aload_n 1 dX11_again_22 rfl rfl ?_
    refine S_bipush (v := 12) dX11_again_23 (by decide) ?_
    refine S_iload_n 2 dX11_again_25 rfl rfl ?_
    refine S_iadd dX11_again_26 ?_
    refine S_iald ha (T.2 q1).2.2.1 dX11_again_27 ?_
    refine S_iast s_267 (T.2 q1).2.2.2.1 dX11_again_28 ?_
    refine S_iinc 2 dX11_again_29 rfl rfl (by decide) rfl ?_
    refine S_goto (tgt := 2) dX11_again_32 (by decide) ?_
    exact S_sub [1, 2, 0] rfl (T.2 q1).2.2.2.2

set_option maxRecDepth 100000 in
theorem t_X11_again_37 {C : zC} {I : Nat → Nat → Int32} {L : Nat → Nat → Int64} {M : Nat → Nat → Option Nat} {h0 : zH} (d : Nat) {a a_n : Nat} (ha : zsh a = (12, a_n))  (y2 : Int32) (K : (Nat → Nat → Int32) → (Nat → Nat → Int64) → (Nat → Nat → Option Nat) → Prop) (T : ((6 ≤ y2 → zSV C h0 K Y_X11_again (d + 1) 111 [(0, .ref 265), (1, .ref a), (2, .int 0)] [] I L M) ∧ (¬ (6 ≤ y2) → vp_in (((24 : Int32) + y2)) a_n ∧ vp_in y2 6 ∧ vp_in (((30 : Int32) + y2)) a_n ∧ vp_in y2 6 ∧ vp_in (((36 : Int32) + y2)) a_n ∧ vp_in y2 6 ∧ vp_in (((42 : Int32) + y2)) a_n ∧ vp_in y2 6 ∧ vp_in (((48 : Int32) + y2)) a_n ∧ vp_in y2 6 ∧ zSV C h0 K Y_X11_again (d + 1) 37 [(0, .ref 265), (1, .ref a), (2, .int (y2 + 1))] [] (u2 (u2 (u2 (u2 (u2 I 268 y2.toNatClampNeg ((I a ((((24 : Int32) + y2)).toNatClampNeg)))) 269 y2.toNatClampNeg (((u2 I 268 y2.toNatClampNeg ((I a ((((24 : Int32) + y2)).toNatClampNeg)))) a ((((30 : Int32) + y2)).toNatClampNeg)))) 270 y2.toNatClampNeg (((u2 (u2 I 268 y2.toNatClampNeg ((I a ((((24 : Int32) + y2)).toNatClampNeg)))) 269 y2.toNatClampNeg (((u2 I 268 y2.toNatClampNeg ((I a ((((24 : Int32) + y2)).toNatClampNeg)))) a ((((30 : Int32) + y2)).toNatClampNeg)))) a ((((36 : Int32) + y2)).toNatClampNeg)))) 271 y2.toNatClampNeg (((u2 (u2 (u2 I 268 y2.toNatClampNeg ((I a ((((24 : Int32) + y2)).toNatClampNeg)))) 269 y2.toNatClampNeg (((u2 I 268 y2.toNatClampNeg ((I a ((((24 : Int32) + y2)).toNatClampNeg)))) a ((((30 : Int32) + y2)).toNatClampNeg)))) 270 y2.toNatClampNeg (((u2 (u2 I 268 y2.toNatClampNeg ((I a ((((24 : Int32) + y2)).toNatClampNeg)))) 269 y2.toNatClampNeg (((u2 I 268 y2.toNatClampNeg ((I a ((((24 : Int32) + y2)).toNatClampNeg)))) a ((((30 : Int32) + y2)).toNatClampNeg)))) a ((((36 : Int32) + y2)).toNatClampNeg)))) a ((((42 : Int32) + y2)).toNatClampNeg)))) 272 y2.toNatClampNeg (((u2 (u2 (u2 (u2 I 268 y2.toNatClampNeg ((I a ((((24 : Int32) + y2)).toNatClampNeg)))) 269 y2.toNatClampNeg (((u2 I 268 y2.toNatClampNeg ((I a ((((24 : Int32) + y2)).toNatClampNeg)))) a ((((30 : Int32) + y2)).toNatClampNeg)))) 270 y2.toNatClampNeg (((u2 (u2 I 268 y2.toNatClampNeg ((I a ((((24 : Int32) + y2)).toNatClampNeg)))) 269 y2.toNatClampNeg (((u2 I 268 y2.toNatClampNeg ((I a ((((24 : Int32) + y2)).toNatClampNeg)))) a ((((30 : Int32) + y2)).toNatClampNeg)))) a ((((36 : Int32) + y2)).toNatClampNeg)))) 271 y2.toNatClampNeg (((u2 (u2 (u2 I 268 y2.toNatClampNeg ((I a ((((24 : Int32) + y2)).toNatClampNeg)))) 269 y2.toNatClampNeg (((u2 I 268 y2.toNatClampNeg ((I a ((((24 : Int32) + y2)).toNatClampNeg)))) a ((((30 : Int32) + y2)).toNatClampNeg)))) 270 y2.toNatClampNeg (((u2 (u2 I 268 y2.toNatClampNeg ((I a ((((24 : Int32) + y2)).toNatClampNeg)))) 269 y2.toNatClampNeg (((u2 I 268 y2.toNatClampNeg ((I a ((((24 : Int32) + y2)).toNatClampNeg)))) a ((((30 : Int32) + y2)).toNatClampNeg)))) a ((((36 : Int32) + y2)).toNatClampNeg)))) a ((((42 : Int32) + y2)).toNatClampNeg)))) a ((((48 : Int32) + y2)).toNatClampNeg)))) L M))) : zSV C h0 K Y_X11_again (d + 1) 37 [(0, .ref 265), (1, .ref a), (2, .int y2)] [] I L M := by
  refine S_iload_n 2 dX11_again_37 rfl rfl ?_
  refine S_bipush (v := 6) dX11_again_38 (by decide) ?_
  refine S_icmp_ge (tgt := 109) dX11_again_40 (by decide) (fun q1 => ?_) (fun q1 => ?_)
  · refine S_iconst (v := 0) dX11_again_109 (by decide) ?_
    refine S_istore_n dX11_again_110 rfl (by decide) rfl ?_
    exact S_sub [1, 2, 0] rfl (T.1 q1)
  · refine S_aload_n 0 dX11_again_43 rfl rfl ?_
    refine S_getP f_RX11_18 s_265 p_265_3 dX11_again_44 ?_
    refine S_iload_n 2 dX11_again_47 rfl rfl ?_
    refine S_aload_n 1 dX11_again_48 rfl rfl ?_
    refine S_bipush (v := 24) dX11_again_49 (by decide) ?_
    refine S_iload_n 2 dX11_again_51 rfl rfl ?_
    refine S_iadd dX11_again_52 ?_
    refine S_iald ha (T.2 q1).1 dX11_again_53 ?_
    refine S_iast s_268 (T.2 q1).2.1 dX11_again_54 ?_
    refine S_aload_n 0 dX11_again_55 rfl rfl ?_
    refine S_getP f_RX11_21 s_265 p_265_4 dX11_again_56 ?_
    refine S_iload_n 2 dX11_again_59 rfl rfl ?_
    refine S_aload_n 1 dX11_again_60 rfl rfl ?_
    refine S_bipush (v := 30) dX11_again_61 (by decide) ?_
    refine S_iload_n 2 dX11_again_63 rfl rfl ?_
    refine S_iadd dX11_again_64 ?_
    refine S_iald ha (T.2 q1).2.2.1 dX11_again_65 ?_
    refine S_iast s_269 (T.2 q1).2.2.2.1 dX11_again_66 ?_
    refine S_aload_n 0 dX11_again_67 rfl rfl ?_
    refine S_getP f_RX11_24 s_265 p_265_5 dX11_again_68 ?_
    refine S_iload_n 2 dX11_again_71 rfl rfl ?_
    refine S_aload_n 1 dX11_again_72 rfl rfl ?_
    refine S_bipush (v := 36) dX11_again_73 (by decide) ?_
    refine S_iload_n 2 dX11_again_75 rfl rfl ?_
    refine S_iadd dX11_again_76 ?_
    refine S_iald ha (T.2 q1).2.2.2.2.1 dX11_again_77 ?_
    refine S_iast s_270 (T.2 q1).2.2.2.2.2.1 dX11_again_78 ?_
    refine S_aload_n 0 dX11_again_79 rfl rfl ?_
    refine S_getP f_RX11_27 s_265 p_265_6 dX11_again_80 ?_
    refine S_iload_n 2 dX11_again_83 rfl rfl ?_
    refine S_aload_n 1 dX11_again_84 rfl rfl ?_
    refine S_bipush (v := 42) dX11_again_85 (by decide) ?_
    refine S_iload_n 2 dX11_again_87 rfl rfl ?_
    refine S_iadd dX11_again_88 ?_
    refine S_iald ha (T.2 q1).2.2.2.2.2.2.1 dX11_again_89 ?_
    refine S_iast s_271 (T.2 q1).2.2.2.2.2.2.2.1 dX11_again_90 ?_
    refine S_aload_n 0 dX11_again_91 rfl rfl ?_
    refine S_getP f_RX11_30 s_265 p_265_7 dX11_again_92 ?_
    refine S_iload_n 2 dX11_again_95 rfl rfl ?_
    refine S_aload_n 1 dX11_again_96 rfl rfl ?_
    refine S_bipush (v := 48) dX11_again_97 (by decide) ?_
    refine S_iload_n 2 dX11_again_99 rfl rfl ?_
    refine S_iadd dX11_again_100 ?_
    refine S_iald ha (T.2 q1).2.2.2.2.2.2.2.2.1 dX11_again_101 ?_
    refine S_iast s_272 (T.2 q1).2.2.2.2.2.2.2.2.2.1 dX11_again_102 ?_
    refine S_iinc 2 dX11_again_103 rfl rfl (by decide) rfl ?_
    refine S_goto (tgt := 37) dX11_again_106 (by decide) ?_
    exact S_sub [1, 2, 0] rfl (T.2 q1).2.2.2.2.2.2.2.2.2.2

set_option maxRecDepth 100000 in
theorem t_X11_again_111 {C : zC} {I : Nat → Nat → Int32} {L : Nat → Nat → Int64} {M : Nat → Nat → Option Nat} {h0 : zH} (d : Nat) {a a_n : Nat} (ha : zsh a = (12, a_n))  (y2 : Int32) (K : (Nat → Nat → Int32) → (Nat → Nat → Int64) → (Nat → Nat → Option Nat) → Prop) (T : ((24 ≤ y2 → zSV C h0 K Y_X11_again (d + 1) 137 [(0, .ref 265), (1, .ref a), (2, .int 0)] [] I L M) ∧ (¬ (24 ≤ y2) → vp_in (((54 : Int32) + y2)) a_n ∧ vp_in y2 24 ∧ zSV C h0 K Y_X11_again (d + 1) 111 [(0, .ref 265), (1, .ref a), (2, .int (y2 + 1))] [] (u2 I 273 y2.toNatClampNeg ((I a ((((54 : Int32) + y2)).toNatClampNeg)))) L M))) : zSV C h0 K Y_X11_again (d + 1) 111 [(0, .ref 265), (1, .ref a), (2, .int y2)] [] I L M := by
  refine S_iload_n 2 dX11_again_111 rfl rfl ?_
  refine S_bipush (v := 24) dX11_again_112 (by decide) ?_
  refine S_icmp_ge (tgt := 135) dX11_again_114 (by decide) (fun q1 => ?_) (fun q1 => ?_)
  · refine S_iconst (v := 0) dX11_again_135 (by decide) ?_
    refine S_istore_n dX11_again_136 rfl (by decide) rfl ?_
    exact S_sub [1, 2, 0] rfl (T.1 q1)
  · refine S_aload_n 0 dX11_again_117 rfl rfl ?_
    refine S_getP f_RX11_33 s_265 p_265_8 dX11_again_118 ?_
    refine S_iload_n 2 dX11_again_121 rfl rfl ?_
    refine S_aload_n 1 dX11_again_122 rfl rfl ?_
    refine S_bipush (v := 54) dX11_again_123 (by decide) ?_
    refine S_iload_n 2 dX11_again_125 rfl rfl ?_
    refine S_iadd dX11_again_126 ?_
    refine S_iald ha (T.2 q1).1 dX11_again_127 ?_
    refine S_iast s_273 (T.2 q1).2.1 dX11_again_128 ?_
    refine S_iinc 2 dX11_again_129 rfl rfl (by decide) rfl ?_
    refine S_goto (tgt := 111) dX11_again_132 (by decide) ?_
    exact S_sub [1, 2, 0] rfl (T.2 q1).2.2

set_option maxRecDepth 100000 in
theorem t_X11_again_137 {C : zC} {I : Nat → Nat → Int32} {L : Nat → Nat → Int64} {M : Nat → Nat → Option Nat} {h0 : zH} (d : Nat) {a a_n : Nat} (ha : zsh a = (12, a_n))  (y2 : Int32) (K : (Nat → Nat → Int32) → (Nat → Nat → Int64) → (Nat → Nat → Option Nat) → Prop) (T : ((5 ≤ y2 → zSV C h0 K Y_X11_again (d + 1) 198 [(0, .ref 265), (1, .ref a), (2, .int 0)] [] I L M) ∧ (¬ (5 ≤ y2) → vp_in (((78 : Int32) + y2)) a_n ∧ vp_in y2 5 ∧ vp_in (((83 : Int32) + y2)) a_n ∧ vp_in y2 5 ∧ vp_in (((88 : Int32) + y2)) a_n ∧ vp_in y2 5 ∧ vp_in (((93 : Int32) + y2)) a_n ∧ vp_in y2 5 ∧ zSV C h0 K Y_X11_again (d + 1) 137 [(0, .ref 265), (1, .ref a), (2, .int (y2 + 1))] [] (u2 (u2 (u2 (u2 I 282 y2.toNatClampNeg ((I a ((((78 : Int32) + y2)).toNatClampNeg)))) 283 y2.toNatClampNeg (((u2 I 282 y2.toNatClampNeg ((I a ((((78 : Int32) + y2)).toNatClampNeg)))) a ((((83 : Int32) + y2)).toNatClampNeg)))) 284 y2.toNatClampNeg (((u2 (u2 I 282 y2.toNatClampNeg ((I a ((((78 : Int32) + y2)).toNatClampNeg)))) 283 y2.toNatClampNeg (((u2 I 282 y2.toNatClampNeg ((I a ((((78 : Int32) + y2)).toNatClampNeg)))) a ((((83 : Int32) + y2)).toNatClampNeg)))) a ((((88 : Int32) + y2)).toNatClampNeg)))) 285 y2.toNatClampNeg (((u2 (u2 (u2 I 282 y2.toNatClampNeg ((I a ((((78 : Int32) + y2)).toNatClampNeg)))) 283 y2.toNatClampNeg (((u2 I 282 y2.toNatClampNeg ((I a ((((78 : Int32) + y2)).toNatClampNeg)))) a ((((83 : Int32) + y2)).toNatClampNeg)))) 284 y2.toNatClampNeg (((u2 (u2 I 282 y2.toNatClampNeg ((I a ((((78 : Int32) + y2)).toNatClampNeg)))) 283 y2.toNatClampNeg (((u2 I 282 y2.toNatClampNeg ((I a ((((78 : Int32) + y2)).toNatClampNeg)))) a ((((83 : Int32) + y2)).toNatClampNeg)))) a ((((88 : Int32) + y2)).toNatClampNeg)))) a ((((93 : Int32) + y2)).toNatClampNeg)))) L M))) : zSV C h0 K Y_X11_again (d + 1) 137 [(0, .ref 265), (1, .ref a), (2, .int y2)] [] I L M := by
  refine S_iload_n 2 dX11_again_137 rfl rfl ?_
  refine S_iconst (v := 5) dX11_again_138 (by decide) ?_
  refine S_icmp_ge (tgt := 196) dX11_again_139 (by decide) (fun q1 => ?_) (fun q1 => ?_)
  · refine S_iconst (v := 0) dX11_again_196 (by decide) ?_
    refine S_istore_n dX11_again_197 rfl (by decide) rfl ?_
    exact S_sub [1, 2, 0] rfl (T.1 q1)
  · refine S_aload_n 0 dX11_again_142 rfl rfl ?_
    refine S_getP f_RX11_61 s_265 p_265_27 dX11_again_143 ?_
    refine S_iload_n 2 dX11_again_146 rfl rfl ?_
    refine S_aload_n 1 dX11_again_147 rfl rfl ?_
    refine S_bipush (v := 78) dX11_again_148 (by decide) ?_
    refine S_iload_n 2 dX11_again_150 rfl rfl ?_
    refine S_iadd dX11_again_151 ?_
    refine S_iald ha (T.2 q1).1 dX11_again_152 ?_
    refine S_iast s_282 (T.2 q1).2.1 dX11_again_153 ?_
    refine S_aload_n 0 dX11_again_154 rfl rfl ?_
    refine S_getP f_RX11_64 s_265 p_265_28 dX11_again_155 ?_
    refine S_iload_n 2 dX11_again_158 rfl rfl ?_
    refine S_aload_n 1 dX11_again_159 rfl rfl ?_
    refine S_bipush (v := 83) dX11_again_160 (by decide) ?_
    refine S_iload_n 2 dX11_again_162 rfl rfl ?_
    refine S_iadd dX11_again_163 ?_
    refine S_iald ha (T.2 q1).2.2.1 dX11_again_164 ?_
    refine S_iast s_283 (T.2 q1).2.2.2.1 dX11_again_165 ?_
    refine S_aload_n 0 dX11_again_166 rfl rfl ?_
    refine S_getP f_RX11_67 s_265 p_265_29 dX11_again_167 ?_
    refine S_iload_n 2 dX11_again_170 rfl rfl ?_
    refine S_aload_n 1 dX11_again_171 rfl rfl ?_
    refine S_bipush (v := 88) dX11_again_172 (by decide) ?_
    refine S_iload_n 2 dX11_again_174 rfl rfl ?_
    refine S_iadd dX11_again_175 ?_
    refine S_iald ha (T.2 q1).2.2.2.2.1 dX11_again_176 ?_
    refine S_iast s_284 (T.2 q1).2.2.2.2.2.1 dX11_again_177 ?_
    refine S_aload_n 0 dX11_again_178 rfl rfl ?_
    refine S_getP f_RX11_70 s_265 p_265_30 dX11_again_179 ?_
    refine S_iload_n 2 dX11_again_182 rfl rfl ?_
    refine S_aload_n 1 dX11_again_183 rfl rfl ?_
    refine S_bipush (v := 93) dX11_again_184 (by decide) ?_
    refine S_iload_n 2 dX11_again_186 rfl rfl ?_
    refine S_iadd dX11_again_187 ?_
    refine S_iald ha (T.2 q1).2.2.2.2.2.2.1 dX11_again_188 ?_
    refine S_iast s_285 (T.2 q1).2.2.2.2.2.2.2.1 dX11_again_189 ?_
    refine S_iinc 2 dX11_again_190 rfl rfl (by decide) rfl ?_
    refine S_goto (tgt := 137) dX11_again_193 (by decide) ?_
    exact S_sub [1, 2, 0] rfl (T.2 q1).2.2.2.2.2.2.2.2

set_option maxRecDepth 100000 in
theorem t_X11_again_198 {C : zC} {I : Nat → Nat → Int32} {L : Nat → Nat → Int64} {M : Nat → Nat → Option Nat} {h0 : zH} (d : Nat) {a a_n : Nat} (ha : zsh a = (12, a_n))  (y2 : Int32) (K : (Nat → Nat → Int32) → (Nat → Nat → Int64) → (Nat → Nat → Option Nat) → Prop) (T : ((10 ≤ y2 → zSV C h0 K Y_X11_again (d + 1) 236 [(0, .ref 265), (1, .ref a), (2, .int 0)] [] I L M) ∧ (¬ (10 ≤ y2) → vp_in (((98 : Int32) + y2)) a_n ∧ vp_in y2 10 ∧ vp_in (((108 : Int32) + y2)) a_n ∧ vp_in y2 10 ∧ zSV C h0 K Y_X11_again (d + 1) 198 [(0, .ref 265), (1, .ref a), (2, .int (y2 + 1))] [] (u2 (u2 I 286 y2.toNatClampNeg ((I a ((((98 : Int32) + y2)).toNatClampNeg)))) 287 y2.toNatClampNeg (((u2 I 286 y2.toNatClampNeg ((I a ((((98 : Int32) + y2)).toNatClampNeg)))) a ((((108 : Int32) + y2)).toNatClampNeg)))) L M))) : zSV C h0 K Y_X11_again (d + 1) 198 [(0, .ref 265), (1, .ref a), (2, .int y2)] [] I L M := by
  refine S_iload_n 2 dX11_again_198 rfl rfl ?_
  refine S_bipush (v := 10) dX11_again_199 (by decide) ?_
  refine S_icmp_ge (tgt := 234) dX11_again_201 (by decide) (fun q1 => ?_) (fun q1 => ?_)
  · refine S_iconst (v := 0) dX11_again_234 (by decide) ?_
    refine S_istore_n dX11_again_235 rfl (by decide) rfl ?_
    exact S_sub [1, 2, 0] rfl (T.1 q1)
  · refine S_aload_n 0 dX11_again_204 rfl rfl ?_
    refine S_getP f_RX11_73 s_265 p_265_32 dX11_again_205 ?_
    refine S_iload_n 2 dX11_again_208 rfl rfl ?_
    refine S_aload_n 1 dX11_again_209 rfl rfl ?_
    refine S_bipush (v := 98) dX11_again_210 (by decide) ?_
    refine S_iload_n 2 dX11_again_212 rfl rfl ?_
    refine S_iadd dX11_again_213 ?_
    refine S_iald ha (T.2 q1).1 dX11_again_214 ?_
    refine S_iast s_286 (T.2 q1).2.1 dX11_again_215 ?_
    refine S_aload_n 0 dX11_again_216 rfl rfl ?_
    refine S_getP f_RX11_76 s_265 p_265_33 dX11_again_217 ?_
    refine S_iload_n 2 dX11_again_220 rfl rfl ?_
    refine S_aload_n 1 dX11_again_221 rfl rfl ?_
    refine S_bipush (v := 108) dX11_again_222 (by decide) ?_
    refine S_iload_n 2 dX11_again_224 rfl rfl ?_
    refine S_iadd dX11_again_225 ?_
    refine S_iald ha (T.2 q1).2.2.1 dX11_again_226 ?_
    refine S_iast s_287 (T.2 q1).2.2.2.1 dX11_again_227 ?_
    refine S_iinc 2 dX11_again_228 rfl rfl (by decide) rfl ?_
    refine S_goto (tgt := 198) dX11_again_231 (by decide) ?_
    exact S_sub [1, 2, 0] rfl (T.2 q1).2.2.2.2

set_option maxRecDepth 100000 in
theorem t_X11_again_236 {C : zC} {I : Nat → Nat → Int32} {L : Nat → Nat → Int64} {M : Nat → Nat → Option Nat} {h0 : zH} (d : Nat) {a a_n : Nat} (ha : zsh a = (12, a_n))  (y2 : Int32) (K : (Nat → Nat → Int32) → (Nat → Nat → Int64) → (Nat → Nat → Option Nat) → Prop) (T : ((8 ≤ y2 → vp_in 134 a_n ∧ vp_in 135 a_n ∧ vp_in 136 a_n ∧ vp_in 137 a_n ∧ vp_in 138 a_n ∧ vp_in 139 a_n ∧ K (u2 (u2 (u2 (u2 (u2 (u2 I 265 2 ((I a 134))) 265 9 (((u2 I 265 2 ((I a 134))) a 135))) 265 26 (((u2 (u2 I 265 2 ((I a 134))) 265 9 (((u2 I 265 2 ((I a 134))) a 135))) a 136))) 265 31 (((u2 (u2 (u2 I 265 2 ((I a 134))) 265 9 (((u2 I 265 2 ((I a 134))) a 135))) 265 26 (((u2 (u2 I 265 2 ((I a 134))) 265 9 (((u2 I 265 2 ((I a 134))) a 135))) a 136))) a 137))) 265 34 (((u2 (u2 (u2 (u2 I 265 2 ((I a 134))) 265 9 (((u2 I 265 2 ((I a 134))) a 135))) 265 26 (((u2 (u2 I 265 2 ((I a 134))) 265 9 (((u2 I 265 2 ((I a 134))) a 135))) a 136))) 265 31 (((u2 (u2 (u2 I 265 2 ((I a 134))) 265 9 (((u2 I 265 2 ((I a 134))) a 135))) 265 26 (((u2 (u2 I 265 2 ((I a 134))) 265 9 (((u2 I 265 2 ((I a 134))) a 135))) a 136))) a 137))) a 138))) 265 17 (((u2 (u2 (u2 (u2 (u2 I 265 2 ((I a 134))) 265 9 (((u2 I 265 2 ((I a 134))) a 135))) 265 26 (((u2 (u2 I 265 2 ((I a 134))) 265 9 (((u2 I 265 2 ((I a 134))) a 135))) a 136))) 265 31 (((u2 (u2 (u2 I 265 2 ((I a 134))) 265 9 (((u2 I 265 2 ((I a 134))) a 135))) 265 26 (((u2 (u2 I 265 2 ((I a 134))) 265 9 (((u2 I 265 2 ((I a 134))) a 135))) a 136))) a 137))) 265 34 (((u2 (u2 (u2 (u2 I 265 2 ((I a 134))) 265 9 (((u2 I 265 2 ((I a 134))) a 135))) 265 26 (((u2 (u2 I 265 2 ((I a 134))) 265 9 (((u2 I 265 2 ((I a 134))) a 135))) a 136))) 265 31 (((u2 (u2 (u2 I 265 2 ((I a 134))) 265 9 (((u2 I 265 2 ((I a 134))) a 135))) 265 26 (((u2 (u2 I 265 2 ((I a 134))) 265 9 (((u2 I 265 2 ((I a 134))) a 135))) a 136))) a 137))) a 138))) a 139))) L M) ∧ (¬ (8 ≤ y2) → vp_in (((118 : Int32) + y2)) a_n ∧ vp_in y2 8 ∧ vp_in (((126 : Int32) + y2)) a_n ∧ vp_in y2 8 ∧ zSV C h0 K Y_X11_again (d + 1) 236 [(0, .ref 265), (1, .ref a), (2, .int (y2 + 1))] [] (u2 (u2 I 288 y2.toNatClampNeg ((I a ((((118 : Int32) + y2)).toNatClampNeg)))) 289 y2.toNatClampNeg (((u2 I 288 y2.toNatClampNeg ((I a ((((118 : Int32) + y2)).toNatClampNeg)))) a ((((126 : Int32) + y2)).toNatClampNeg)))) L M))) : zSV C h0 K Y_X11_again (d + 1) 236 [(0, .ref 265), (1, .ref a), (2, .int y2)] [] I L M := by
  refine S_iload_n 2 dX11_again_236 rfl rfl ?_
  refine S_bipush (v := 8) dX11_again_237 (by decide) ?_
  refine S_icmp_ge (tgt := 272) dX11_again_239 (by decide) (fun q1 => ?_) (fun q1 => ?_)
  · refine S_aload_n 0 dX11_again_272 rfl rfl ?_
    refine S_aload_n 1 dX11_again_273 rfl rfl ?_
    refine S_sipush (v := 134) dX11_again_274 (by decide) ?_
    refine S_iald ha (T.1 q1).1 dX11_again_277 ?_
    refine S_putI f_RX11_111 s_265 (Or.inl rfl) rfl dX11_again_278 ?_
    refine S_aload_n 0 dX11_again_281 rfl rfl ?_
    refine S_aload_n 1 dX11_again_282 rfl rfl ?_
    refine S_sipush (v := 135) dX11_again_283 (by decide) ?_
    refine S_iald ha (T.1 q1).2.1 dX11_again_286 ?_
    refine S_putI f_RX11_221 s_265 (Or.inl rfl) rfl dX11_again_287 ?_
    refine S_aload_n 0 dX11_again_290 rfl rfl ?_
    refine S_aload_n 1 dX11_again_291 rfl rfl ?_
    refine S_sipush (v := 136) dX11_again_292 (by decide) ?_
    refine S_iald ha (T.1 q1).2.2.1 dX11_again_295 ?_
    refine S_putI f_RX11_284 s_265 (Or.inl rfl) rfl dX11_again_296 ?_
    refine S_aload_n 0 dX11_again_299 rfl rfl ?_
    refine S_aload_n 1 dX11_again_300 rfl rfl ?_
    refine S_sipush (v := 137) dX11_again_301 (by decide) ?_
    refine S_iald ha (T.1 q1).2.2.2.1 dX11_again_304 ?_
    refine S_putI f_RX11_301 s_265 (Or.inl rfl) rfl dX11_again_305 ?_
    refine S_aload_n 0 dX11_again_308 rfl rfl ?_
    refine S_aload_n 1 dX11_again_309 rfl rfl ?_
    refine S_sipush (v := 138) dX11_again_310 (by decide) ?_
    refine S_iald ha (T.1 q1).2.2.2.2.1 dX11_again_313 ?_
    refine S_putI f_RX11_307 s_265 (Or.inl rfl) rfl dX11_again_314 ?_
    refine S_aload_n 0 dX11_again_317 rfl rfl ?_
    refine S_aload_n 1 dX11_again_318 rfl rfl ?_
    refine S_sipush (v := 139) dX11_again_319 (by decide) ?_
    refine S_iald ha (T.1 q1).2.2.2.2.2.1 dX11_again_322 ?_
    refine S_putI f_RX11_107 s_265 (Or.inl rfl) rfl dX11_again_323 ?_
    exact S_vret rfl dX11_again_326 ⟨u2 (u2 (u2 (u2 (u2 (u2 I 265 2 ((I a 134))) 265 9 (((u2 I 265 2 ((I a 134))) a 135))) 265 26 (((u2 (u2 I 265 2 ((I a 134))) 265 9 (((u2 I 265 2 ((I a 134))) a 135))) a 136))) 265 31 (((u2 (u2 (u2 I 265 2 ((I a 134))) 265 9 (((u2 I 265 2 ((I a 134))) a 135))) 265 26 (((u2 (u2 I 265 2 ((I a 134))) 265 9 (((u2 I 265 2 ((I a 134))) a 135))) a 136))) a 137))) 265 34 (((u2 (u2 (u2 (u2 I 265 2 ((I a 134))) 265 9 (((u2 I 265 2 ((I a 134))) a 135))) 265 26 (((u2 (u2 I 265 2 ((I a 134))) 265 9 (((u2 I 265 2 ((I a 134))) a 135))) a 136))) 265 31 (((u2 (u2 (u2 I 265 2 ((I a 134))) 265 9 (((u2 I 265 2 ((I a 134))) a 135))) 265 26 (((u2 (u2 I 265 2 ((I a 134))) 265 9 (((u2 I 265 2 ((I a 134))) a 135))) a 136))) a 137))) a 138))) 265 17 (((u2 (u2 (u2 (u2 (u2 I 265 2 ((I a 134))) 265 9 (((u2 I 265 2 ((I a 134))) a 135))) 265 26 (((u2 (u2 I 265 2 ((I a 134))) 265 9 (((u2 I 265 2 ((I a 134))) a 135))) a 136))) 265 31 (((u2 (u2 (u2 I 265 2 ((I a 134))) 265 9 (((u2 I 265 2 ((I a 134))) a 135))) 265 26 (((u2 (u2 I 265 2 ((I a 134))) 265 9 (((u2 I 265 2 ((I a 134))) a 135))) a 136))) a 137))) 265 34 (((u2 (u2 (u2 (u2 I 265 2 ((I a 134))) 265 9 (((u2 I 265 2 ((I a 134))) a 135))) 265 26 (((u2 (u2 I 265 2 ((I a 134))) 265 9 (((u2 I 265 2 ((I a 134))) a 135))) a 136))) 265 31 (((u2 (u2 (u2 I 265 2 ((I a 134))) 265 9 (((u2 I 265 2 ((I a 134))) a 135))) 265 26 (((u2 (u2 I 265 2 ((I a 134))) 265 9 (((u2 I 265 2 ((I a 134))) a 135))) a 136))) a 137))) a 138))) a 139)), L, M, rfl, rfl, (T.1 q1).2.2.2.2.2.2⟩
  · refine S_aload_n 0 dX11_again_242 rfl rfl ?_
    refine S_getP f_RX11_79 s_265 p_265_35 dX11_again_243 ?_
    refine S_iload_n 2 dX11_again_246 rfl rfl ?_
    refine S_aload_n 1 dX11_again_247 rfl rfl ?_
    refine S_bipush (v := 118) dX11_again_248 (by decide) ?_
    refine S_iload_n 2 dX11_again_250 rfl rfl ?_
    refine S_iadd dX11_again_251 ?_
    refine S_iald ha (T.2 q1).1 dX11_again_252 ?_
    refine S_iast s_288 (T.2 q1).2.1 dX11_again_253 ?_
    refine S_aload_n 0 dX11_again_254 rfl rfl ?_
    refine S_getP f_RX11_82 s_265 p_265_36 dX11_again_255 ?_
    refine S_iload_n 2 dX11_again_258 rfl rfl ?_
    refine S_aload_n 1 dX11_again_259 rfl rfl ?_
    refine S_bipush (v := 126) dX11_again_260 (by decide) ?_
    refine S_iload_n 2 dX11_again_262 rfl rfl ?_
    refine S_iadd dX11_again_263 ?_
    refine S_iald ha (T.2 q1).2.2.1 dX11_again_264 ?_
    refine S_iast s_289 (T.2 q1).2.2.2.1 dX11_again_265 ?_
    refine S_iinc 2 dX11_again_266 rfl rfl (by decide) rfl ?_
    refine S_goto (tgt := 236) dX11_again_269 (by decide) ?_
    exact S_sub [1, 2, 0] rfl (T.2 q1).2.2.2.2

set_option maxRecDepth 100000 in
theorem t_X11_allCellar {C : zC} {I : Nat → Nat → Int32} {L : Nat → Nat → Int64} {M : Nat → Nat → Option Nat} (d : Nat)   (K : Int32 → (Nat → Nat → Int32) → (Nat → Nat → Int64) → (Nat → Nat → Option Nat) → Prop) (T : zSI C (zmk I L M) K Y_X11_allCellar (d + 1) 4 [(0, .ref 265), (1, .int 0), (2, .int 0)] [] I L M) : zCI C Y_X11_allCellar (d + 1) [.ref 265] (zmk I L M) K := by
  refine S_enter (by decide) (Nat.le_of_ble_eq_true rfl) ?_
  refine S_lv (lv' := [(0, .ref 265)]) rfl ?_
  refine S_iconst (v := 0) dX11_allCellar_0 (by decide) ?_
  refine S_istore_n dX11_allCellar_1 rfl (by decide) rfl ?_
  refine S_iconst (v := 0) dX11_allCellar_2 (by decide) ?_
  refine S_istore_n dX11_allCellar_3 rfl (by decide) rfl ?_
  exact S_sub [2, 1, 0] rfl T

set_option maxRecDepth 100000 in
theorem t_X11_allCellar_4 {C : zC} {I : Nat → Nat → Int32} {L : Nat → Nat → Int64} {M : Nat → Nat → Option Nat} {h0 : zH} (d : Nat)   (y1 : Int32) (y2 : Int32) (K : Int32 → (Nat → Nat → Int32) → (Nat → Nat → Int64) → (Nat → Nat → Option Nat) → Prop) (T : ((12 ≤ y2 → K y1 I L M) ∧ (¬ (12 ≤ y2) → vp_in y2 12 ∧ zSI C h0 K Y_X11_allCellar (d + 1) 4 [(0, .ref 265), (1, .int (y1 + (I 267 y2.toNatClampNeg))), (2, .int (y2 + 1))] [] I L M))) : zSI C h0 K Y_X11_allCellar (d + 1) 4 [(0, .ref 265), (1, .int y1), (2, .int y2)] [] I L M := by
  refine S_iload_n 2 dX11_allCellar_4 rfl rfl ?_
  refine S_bipush (v := 12) dX11_allCellar_5 (by decide) ?_
  refine S_icmp_ge (tgt := 25) dX11_allCellar_7 (by decide) (fun q1 => ?_) (fun q1 => ?_)
  · refine S_iload_n 1 dX11_allCellar_25 rfl rfl ?_
    exact S_ireti rfl dX11_allCellar_26 ⟨_, I, L, M, rfl, rfl, (T.1 q1)⟩
  · refine S_iload_n 1 dX11_allCellar_10 rfl rfl ?_
    refine S_aload_n 0 dX11_allCellar_11 rfl rfl ?_
    refine S_getP f_RX11_15 s_265 p_265_1 dX11_allCellar_12 ?_
    refine S_iload_n 2 dX11_allCellar_15 rfl rfl ?_
    refine S_iald s_267 (T.2 q1).1 dX11_allCellar_16 ?_
    refine S_iadd dX11_allCellar_17 ?_
    refine S_istore_n dX11_allCellar_18 rfl (by decide) rfl ?_
    refine S_iinc 2 dX11_allCellar_19 rfl rfl (by decide) rfl ?_
    refine S_goto (tgt := 4) dX11_allCellar_22 (by decide) ?_
    exact S_sub [2, 1, 0] rfl (T.2 q1).2

set_option maxRecDepth 100000 in
theorem t_X11_allMean {C : zC} {I : Nat → Nat → Int32} {L : Nat → Nat → Int64} {M : Nat → Nat → Option Nat} (d : Nat)   (K : Int32 → (Nat → Nat → Int32) → (Nat → Nat → Int64) → (Nat → Nat → Option Nat) → Prop) (T : zSI C (zmk I L M) K Y_X11_allMean (d + 2) 4 [(0, .ref 265), (1, .int 0), (2, .int 0)] [] I L M) : zCI C Y_X11_allMean (d + 2) [.ref 265] (zmk I L M) K := by
  refine S_enter (by decide) (Nat.le_of_ble_eq_true rfl) ?_
  refine S_lv (lv' := [(0, .ref 265)]) rfl ?_
  refine S_iconst (v := 0) dX11_allMean_0 (by decide) ?_
  refine S_istore_n dX11_allMean_1 rfl (by decide) rfl ?_
  refine S_iconst (v := 0) dX11_allMean_2 (by decide) ?_
  refine S_istore_n dX11_allMean_3 rfl (by decide) rfl ?_
  exact S_sub [2, 1, 0] rfl T

set_option maxRecDepth 100000 in
theorem t_X11_allMean_4 {C : zC} {I : Nat → Nat → Int32} {L : Nat → Nat → Int64} {M : Nat → Nat → Option Nat} {h0 : zH} (d : Nat)   (y1 : Int32) (y2 : Int32) (K : Int32 → (Nat → Nat → Int32) → (Nat → Nat → Int64) → (Nat → Nat → Option Nat) → Prop) (T : (((I 265 2) ≤ y2 → K y1 I L M) ∧ (¬ ((I 265 2) ≤ y2) → vp_in y2 6 ∧ zSI C h0 K Y_X11_allMean (d + 2) 4 [(0, .ref 265), (1, .int (y1 + (zbc ((I 270 y2.toNatClampNeg))))), (2, .int (y2 + 1))] [] I L M))) : zSI C h0 K Y_X11_allMean (d + 2) 4 [(0, .ref 265), (1, .int y1), (2, .int y2)] [] I L M := by
  refine S_iload_n 2 dX11_allMean_4 rfl rfl ?_
  refine S_aload_n 0 dX11_allMean_5 rfl rfl ?_
  refine S_getI f_RX11_111 s_265 dX11_allMean_6 ?_
  refine S_icmp_ge (tgt := 30) dX11_allMean_9 (by decide) (fun q1 => ?_) (fun q1 => ?_)
  · refine S_iload_n 1 dX11_allMean_30 rfl rfl ?_
    exact S_ireti rfl dX11_allMean_31 ⟨_, I, L, M, rfl, rfl, (T.1 q1)⟩
  · refine S_iload_n 1 dX11_allMean_12 rfl rfl ?_
    refine S_aload_n 0 dX11_allMean_13 rfl rfl ?_
    refine S_getP f_RX11_24 s_265 p_265_5 dX11_allMean_14 ?_
    refine S_iload_n 2 dX11_allMean_17 rfl rfl ?_
    refine S_iald s_270 (T.2 q1).1 dX11_allMean_18 ?_
    refine S_callS [.int (I 270 y2.toNatClampNeg)] [.int y1] m_RX11_245 rfl rfl (Nat.le_of_ble_eq_true rfl) (zroom_0 (by decide)) dX11_allMean_19 (zpure (sp_J6_bitCount_0f7a4 (I := I) (L := L) (M := M) (d + 0) ((I 270 y2.toNatClampNeg))) ?_)
    refine S_iadd dX11_allMean_22 ?_
    refine S_istore_n dX11_allMean_23 rfl (by decide) rfl ?_
    refine S_iinc 2 dX11_allMean_24 rfl rfl (by decide) rfl ?_
    refine S_goto (tgt := 4) dX11_allMean_27 (by decide) ?_
    exact S_sub [2, 1, 0] rfl (T.2 q1).2

set_option maxRecDepth 100000 in
theorem t_X11_backTo {C : zC} {I : Nat → Nat → Int32} {L : Nat → Nat → Int64} {M : Nat → Nat → Option Nat} (d : Nat) (x1 : Int32)  (K : Int32 → (Nat → Nat → Int32) → (Nat → Nat → Int64) → (Nat → Nat → Option Nat) → Prop) (T : zSI C (zmk I L M) K Y_X11_backTo (d + 1) 4 [(0, .ref 265), (1, .int x1), (2, .int 0), (3, .int 0)] [] I L M) : zCI C Y_X11_backTo (d + 1) [.ref 265, .int x1] (zmk I L M) K := by
  refine S_enter (by decide) (Nat.le_of_ble_eq_true rfl) ?_
  refine S_lv (lv' := [(0, .ref 265), (1, .int x1)]) rfl ?_
  refine S_iconst (v := 0) dX11_backTo_0 (by decide) ?_
  refine S_istore_n dX11_backTo_1 rfl (by decide) rfl ?_
  refine S_iconst (v := 0) dX11_backTo_2 (by decide) ?_
  refine S_istore_n dX11_backTo_3 rfl (by decide) rfl ?_
  exact S_sub [2, 3, 1, 0] rfl T

set_option maxRecDepth 100000 in
theorem t_X11_backTo_4 {C : zC} {I : Nat → Nat → Int32} {L : Nat → Nat → Int64} {M : Nat → Nat → Option Nat} {h0 : zH} (d : Nat)   (y1 : Int32) (y2 : Int32) (y3 : Int32) (K : Int32 → (Nat → Nat → Int32) → (Nat → Nat → Int64) → (Nat → Nat → Option Nat) → Prop) (T : ((12 ≤ y3 → zSI C h0 K Y_X11_backTo (d + 1) 33 [(0, .ref 265), (1, .int y1), (2, .int y2), (3, .int 0)] [] I L M) ∧ (¬ (12 ≤ y3) → vp_in y3 12 ∧ (((I 267 y3.toNatClampNeg) ≤ 0 → zSI C h0 K Y_X11_backTo (d + 1) 4 [(0, .ref 265), (1, .int y1), (2, .int y2), (3, .int (y3 + 1))] [] I L M) ∧ (¬ ((I 267 y3.toNatClampNeg) ≤ 0) → zSI C h0 K Y_X11_backTo (d + 1) 4 [(0, .ref 265), (1, .int y1), (2, .int (y2 ||| ((1 : Int32) <<< (y3 &&& 31)))), (3, .int (y3 + 1))] [] I L M))))) : zSI C h0 K Y_X11_backTo (d + 1) 4 [(0, .ref 265), (1, .int y1), (2, .int y2), (3, .int y3)] [] I L M := by
  refine S_iload_n 3 dX11_backTo_4 rfl rfl ?_
  refine S_bipush (v := 12) dX11_backTo_5 (by decide) ?_
  refine S_icmp_ge (tgt := 31) dX11_backTo_7 (by decide) (fun q1 => ?_) (fun q1 => ?_)
  · refine S_iconst (v := 0) dX11_backTo_31 (by decide) ?_
    refine S_istore_n dX11_backTo_32 rfl (by decide) rfl ?_
    exact S_sub [1, 2, 3, 0] rfl (T.1 q1)
  · refine S_aload_n 0 dX11_backTo_10 rfl rfl ?_
    refine S_getP f_RX11_15 s_265 p_265_1 dX11_backTo_11 ?_
    refine S_iload_n 3 dX11_backTo_14 rfl rfl ?_
    refine S_iald s_267 (T.2 q1).1 dX11_backTo_15 ?_
    refine S_if_le (tgt := 25) dX11_backTo_16 (by decide) (fun q2 => ?_) (fun q2 => ?_)
    · refine S_iinc 3 dX11_backTo_25 rfl rfl (by decide) rfl ?_
      refine S_goto (tgt := 4) dX11_backTo_28 (by decide) ?_
      exact S_sub [1, 2, 3, 0] rfl ((T.2 q1).2.1 q2)
    · refine S_iload_n 2 dX11_backTo_19 rfl rfl ?_
      refine S_iconst (v := 1) dX11_backTo_20 (by decide) ?_
      refine S_iload_n 3 dX11_backTo_21 rfl rfl ?_
      refine S_ishl dX11_backTo_22 ?_
      refine S_ior dX11_backTo_23 ?_
      refine S_istore_n dX11_backTo_24 rfl (by decide) rfl ?_
      refine S_iinc 3 dX11_backTo_25 rfl rfl (by decide) rfl ?_
      refine S_goto (tgt := 4) dX11_backTo_28 (by decide) ?_
      exact S_sub [2, 3, 1, 0] rfl ((T.2 q1).2.2 q2)

set_option maxRecDepth 100000 in
theorem t_X11_backTo_33 {C : zC} {I : Nat → Nat → Int32} {L : Nat → Nat → Int64} {M : Nat → Nat → Option Nat} {h0 : zH} (d : Nat)   (y1 : Int32) (y2 : Int32) (y3 : Int32) (K : Int32 → (Nat → Nat → Int32) → (Nat → Nat → Int64) → (Nat → Nat → Option Nat) → Prop) (T : (((I 265 2) ≤ y3 → vp_in y1 6 ∧ vp_in y1 6 ∧ K (((y2 &&& (I 271 y1.toNatClampNeg)) &&& ((I 270 y1.toNatClampNeg) ^^^ (-1 : Int32)))) I L M) ∧ (¬ ((I 265 2) ≤ y3) → ((y3 = y1 → zSI C h0 K Y_X11_backTo (d + 1) 33 [(0, .ref 265), (1, .int y1), (2, .int y2), (3, .int (y3 + 1))] [] I L M) ∧ (¬ (y3 = y1) → vp_in y3 6 ∧ zSI C h0 K Y_X11_backTo (d + 1) 33 [(0, .ref 265), (1, .int y1), (2, .int (y2 ||| (I 270 y3.toNatClampNeg))), (3, .int (y3 + 1))] [] I L M))))) : zSI C h0 K Y_X11_backTo (d + 1) 33 [(0, .ref 265), (1, .int y1), (2, .int y2), (3, .int y3)] [] I L M := by
  refine S_iload_n 3 dX11_backTo_33 rfl rfl ?_
  refine S_aload_n 0 dX11_backTo_34 rfl rfl ?_
  refine S_getI f_RX11_111 s_265 dX11_backTo_35 ?_
  refine S_icmp_ge (tgt := 61) dX11_backTo_38 (by decide) (fun q1 => ?_) (fun q1 => ?_)
  · refine S_iload_n 2 dX11_backTo_61 rfl rfl ?_
    refine S_aload_n 0 dX11_backTo_62 rfl rfl ?_
    refine S_getP f_RX11_27 s_265 p_265_6 dX11_backTo_63 ?_
    refine S_iload_n 1 dX11_backTo_66 rfl rfl ?_
    refine S_iald s_271 (T.1 q1).1 dX11_backTo_67 ?_
    refine S_iand dX11_backTo_68 ?_
    refine S_aload_n 0 dX11_backTo_69 rfl rfl ?_
    refine S_getP f_RX11_24 s_265 p_265_5 dX11_backTo_70 ?_
    refine S_iload_n 1 dX11_backTo_73 rfl rfl ?_
    refine S_iald s_270 (T.1 q1).2.1 dX11_backTo_74 ?_
    refine S_iconst (v := -1) dX11_backTo_75 (by decide) ?_
    refine S_ixor dX11_backTo_76 ?_
    refine S_iand dX11_backTo_77 ?_
    exact S_ireti rfl dX11_backTo_78 ⟨_, I, L, M, rfl, rfl, (T.1 q1).2.2⟩
  · refine S_iload_n 3 dX11_backTo_41 rfl rfl ?_
    refine S_iload_n 1 dX11_backTo_42 rfl rfl ?_
    refine S_icmp_eq (tgt := 55) dX11_backTo_43 (by decide) (fun q2 => ?_) (fun q2 => ?_)
    · refine S_iinc 3 dX11_backTo_55 rfl rfl (by decide) rfl ?_
      refine S_goto (tgt := 33) dX11_backTo_58 (by decide) ?_
      exact S_sub [1, 2, 3, 0] rfl ((T.2 q1).1 q2)
    · refine S_iload_n 2 dX11_backTo_46 rfl rfl ?_
      refine S_aload_n 0 dX11_backTo_47 rfl rfl ?_
      refine S_getP f_RX11_24 s_265 p_265_5 dX11_backTo_48 ?_
      refine S_iload_n 3 dX11_backTo_51 rfl rfl ?_
      refine S_iald s_270 ((T.2 q1).2 q2).1 dX11_backTo_52 ?_
      refine S_ior dX11_backTo_53 ?_
      refine S_istore_n dX11_backTo_54 rfl (by decide) rfl ?_
      refine S_iinc 3 dX11_backTo_55 rfl rfl (by decide) rfl ?_
      refine S_goto (tgt := 33) dX11_backTo_58 (by decide) ?_
      exact S_sub [2, 3, 1, 0] rfl ((T.2 q1).2 q2).2

set_option maxRecDepth 100000 in
theorem t_X11_decoys {C : zC} {I : Nat → Nat → Int32} {L : Nat → Nat → Int64} {M : Nat → Nat → Option Nat} (d : Nat) (x1 : Int32) (x2 : Int32) (x3 : Int32)  (K : Int32 → (Nat → Nat → Int32) → (Nat → Nat → Int64) → (Nat → Nat → Option Nat) → Prop) (T : ((¬ (0 ≤ x1 ∧ x1 ≤ I 265 2 - 1) → K ((-1)) I L M) ∧ ((0 ≤ x1 ∧ x1 ≤ I 265 2 - 1) → (((0 ≤ x2 ∧ x2 < 12) → ((((1 : Int32) ≤ x3 ∧ x3 ≤ 6) → vp_in x1 6 ∧ (((zhas ((I 270 x1.toNatClampNeg)) x2) → vp_in x1 6 ∧ vp_in x1 6 ∧ zSI C (zmk I L M) K Y_X11_decoys (d + 7) 75 [(0, .ref 265), (1, .int x1), (2, .int x2), (3, .int x3), (4, .int (I 270 x1.toNatClampNeg)), (5, .int (I 271 x1.toNatClampNeg)), (6, .int (I 265 9)), (7, .int (-5)), (8, .int 0)] [] I L M) ∧ (¬ (zhas ((I 270 x1.toNatClampNeg)) x2) → K ((-5)) I L M))) ∧ (¬ ((1 : Int32) ≤ x3 ∧ x3 ≤ 6) → K ((-2)) I L M))) ∧ (¬ (0 ≤ x2 ∧ x2 < 12) → K ((-1)) I L M))))) : zCI C Y_X11_decoys (d + 7) [.ref 265, .int x1, .int x2, .int x3] (zmk I L M) K := by
  refine S_enter (by decide) (Nat.le_of_ble_eq_true rfl) ?_
  refine S_lv (lv' := [(0, .ref 265), (1, .int x1), (2, .int x2), (3, .int x3)]) rfl ?_
  refine S_aload_n 0 dX11_decoys_0 rfl rfl ?_
  refine S_iload_n 1 dX11_decoys_1 rfl rfl ?_
  refine S_callV [.int x1] [] m_RX11_118 rfl rfl s_265 ⟨rfl, by decide⟩ (Nat.le_of_ble_eq_true rfl) (zroom_0 (by decide)) dX11_decoys_2 (zpure (sp_X11_isOne (I := I) (L := L) (M := M) (d + 4) x1) ?_)
  refine S_if_eq (tgt := 15) dX11_decoys_5 (by decide) (fun q1 => ?_) (fun q1 => ?_)
  · refine S_iconst (v := -1) dX11_decoys_15 (by decide) ?_
    exact S_ireti rfl dX11_decoys_16 ⟨_, I, L, M, rfl, rfl, (T.1 (zb_f q1))⟩
  · refine S_iload_n 2 dX11_decoys_8 rfl rfl ?_
    refine S_callS [.int x2] [] m_RX11_122 rfl rfl (Nat.le_of_ble_eq_true rfl) (zroom_0 (by decide)) dX11_decoys_9 (zpure (sp_X11_isPurpose (I := I) (L := L) (M := M) (d + 4) x2) ?_)
    refine S_if_ne (tgt := 17) dX11_decoys_12 (by decide) (fun q2 => ?_) (fun q2 => ?_)
    · refine S_iload_n 3 dX11_decoys_17 rfl rfl ?_
      refine S_iconst (v := 1) dX11_decoys_18 (by decide) ?_
      refine S_bipush (v := 6) dX11_decoys_19 (by decide) ?_
      refine S_callS [.int x3, .int 1, .int 6] [] m_RX11_114 rfl rfl (Nat.le_of_ble_eq_true rfl) (zroom_0 (by decide)) dX11_decoys_21 (zpure (sp_X11_within (I := I) (L := L) (M := M) (d + 5) x3 1 6) ?_)
      refine S_if_ne (tgt := 30) dX11_decoys_24 (by decide) (fun q3 => ?_) (fun q3 => ?_)
      · refine S_aload_n 0 dX11_decoys_30 rfl rfl ?_
        refine S_getP f_RX11_24 s_265 p_265_5 dX11_decoys_31 ?_
        refine S_iload_n 1 dX11_decoys_34 rfl rfl ?_
        refine S_iald s_270 (((T.2 (zb_t q1)).1 (zb_t q2)).1 (zb_t q3)).1 dX11_decoys_35 ?_
        refine S_iload_n 2 dX11_decoys_36 rfl rfl ?_
        refine S_callS [.int (I 270 x1.toNatClampNeg), .int x2] [] m_RX11_139 rfl rfl (Nat.le_of_ble_eq_true rfl) (zroom_0 (by decide)) dX11_decoys_37 (zpure (sp_X11_has (I := I) (L := L) (M := M) (d + 5) ((I 270 x1.toNatClampNeg)) x2) ?_)
        refine S_if_ne (tgt := 46) dX11_decoys_40 (by decide) (fun q4 => ?_) (fun q4 => ?_)
        · refine S_aload_n 0 dX11_decoys_46 rfl rfl ?_
          refine S_getP f_RX11_24 s_265 p_265_5 dX11_decoys_47 ?_
          refine S_iload_n 1 dX11_decoys_50 rfl rfl ?_
          refine S_iald s_270 ((((T.2 (zb_t q1)).1 (zb_t q2)).1 (zb_t q3)).2.1 (zb_t q4)).1 dX11_decoys_51 ?_
          refine S_istore dX11_decoys_52 (by decide) rfl ?_
          refine S_aload_n 1 dX11_decoys_54 rfl rfl ?_
          refine S_getP f_RX11_27 s_265 p_265_6 dX11_decoys_55 ?_
          refine S_iload_n 2 dX11_decoys_58 rfl rfl ?_
          refine S_iald s_271 ((((T.2 (zb_t q1)).1 (zb_t q2)).1 (zb_t q3)).2.1 (zb_t q4)).2.1 dX11_decoys_59 ?_
          refine S_istore dX11_decoys_60 (by decide) rfl ?_
          refine S_aload_n 2 dX11_decoys_62 rfl rfl ?_
          refine S_getI f_RX11_221 s_265 dX11_decoys_63 ?_
          refine S_istore dX11_decoys_66 (by decide) rfl ?_
          refine S_bipush (v := -5) dX11_decoys_68 (by decide) ?_
          refine S_istore dX11_decoys_70 (by decide) rfl ?_
          refine S_iconst (v := 0) dX11_decoys_72 (by decide) ?_
          refine S_istore dX11_decoys_73 (by decide) rfl ?_
          exact S_sub [5, 6, 7, 8, 4, 3, 2, 1, 0] rfl ((((T.2 (zb_t q1)).1 (zb_t q2)).1 (zb_t q3)).2.1 (zb_t q4)).2.2
        · refine S_bipush (v := -5) dX11_decoys_43 (by decide) ?_
          exact S_ireti rfl dX11_decoys_45 ⟨_, I, L, M, rfl, rfl, ((((T.2 (zb_t q1)).1 (zb_t q2)).1 (zb_t q3)).2.2 (zb_f q4))⟩
      · refine S_bipush (v := -2) dX11_decoys_27 (by decide) ?_
        exact S_ireti rfl dX11_decoys_29 ⟨_, I, L, M, rfl, rfl, (((T.2 (zb_t q1)).1 (zb_t q2)).2 (zb_f q3))⟩
    · refine S_iconst (v := -1) dX11_decoys_15 (by decide) ?_
      exact S_ireti rfl dX11_decoys_16 ⟨_, I, L, M, rfl, rfl, ((T.2 (zb_t q1)).2 (zb_f q2))⟩

set_option maxRecDepth 100000 in
theorem t_X11_decoys_75 {C : zC} {I : Nat → Nat → Int32} {L : Nat → Nat → Int64} {M : Nat → Nat → Option Nat} {h0 : zH} (d : Nat)   (y1 : Int32) (y2 : Int32) (y3 : Int32) (y4 : Int32) (y5 : Int32) (y6 : Int32) (y7 : Int32) (y8 : Int32) (K : Int32 → (Nat → Nat → Int32) → (Nat → Nat → Int64) → (Nat → Nat → Option Nat) → Prop) (T : ((4096 ≤ y8 → K y7 I L M) ∧ (¬ (4096 ≤ y8) → ((¬ (y8 &&& y4) = 0 → zSI C h0 K Y_X11_decoys (d + 7) 75 [(0, .ref 265), (1, .int y1), (2, .int y2), (3, .int y3), (4, .int y4), (5, .int y5), (6, .int y6), (7, .int y7), (8, .int (y8 + 1))] [] I L M) ∧ ((y8 &&& y4) = 0 → ((y7 = (-5) → zSI C h0 K Y_X11_decoys (d + 7) 114 [(0, .ref 265), (1, .int y1), (2, .int y2), (3, .int y3), (4, .int y4), (5, .int y5), (6, .int y6), (7, .int y7), (8, .int y8)] [] I L M) ∧ (¬ (y7 = (-5)) → (((zbc y8) < (zbc y7) → zSI C h0 K Y_X11_decoys (d + 7) 114 [(0, .ref 265), (1, .int y1), (2, .int y2), (3, .int y3), (4, .int y4), (5, .int y5), (6, .int y6), (7, .int y7), (8, .int y8)] [] I L M) ∧ (¬ ((zbc y8) < (zbc y7)) → zSI C h0 K Y_X11_decoys (d + 7) 75 [(0, .ref 265), (1, .int y1), (2, .int y2), (3, .int y3), (4, .int y4), (5, .int y5), (6, .int y6), (7, .int y7), (8, .int (y8 + 1))] [] I L M))))))))) : zSI C h0 K Y_X11_decoys (d + 7) 75 [(0, .ref 265), (1, .int y1), (2, .int y2), (3, .int y3), (4, .int y4), (5, .int y5), (6, .int y6), (7, .int y7), (8, .int y8)] [] I L M := by
  refine S_iload 8 dX11_decoys_75 rfl ?_
  refine S_sipush (v := 4096) dX11_decoys_77 (by decide) ?_
  refine S_icmp_ge (tgt := 179) dX11_decoys_80 (by decide) (fun q1 => ?_) (fun q1 => ?_)
  · refine S_iload 7 dX11_decoys_179 rfl ?_
    exact S_ireti rfl dX11_decoys_181 ⟨_, I, L, M, rfl, rfl, (T.1 q1)⟩
  · refine S_iload 8 dX11_decoys_83 rfl ?_
    refine S_iload 4 dX11_decoys_85 rfl ?_
    refine S_iand dX11_decoys_87 ?_
    refine S_if_ne (tgt := 173) dX11_decoys_88 (by decide) (fun q2 => ?_) (fun q2 => ?_)
    · refine S_iinc 8 dX11_decoys_173 rfl rfl (by decide) rfl ?_
      refine S_goto (tgt := 75) dX11_decoys_176 (by decide) ?_
      exact S_sub [1, 2, 3, 4, 5, 6, 7, 8, 0] rfl ((T.2 q1).1 q2)
    · refine S_iload 7 dX11_decoys_91 rfl ?_
      refine S_bipush (v := -5) dX11_decoys_93 (by decide) ?_
      refine S_icmp_eq (tgt := 114) dX11_decoys_95 (by decide) (fun q3 => ?_) (fun q3 => ?_)
      · exact S_sub [0, 1, 2, 3, 4, 5, 6, 7, 8] rfl (((T.2 q1).2 q2).1 q3)
      · refine S_iload 8 dX11_decoys_98 rfl ?_
        refine S_callS [.int y8] [] m_RX11_245 rfl rfl (Nat.le_of_ble_eq_true rfl) (zroom_0 (by decide)) dX11_decoys_100 (zpure (sp_J6_bitCount_0f7a4 (I := I) (L := L) (M := M) (d + 5) y8) ?_)
        refine S_iload 7 dX11_decoys_103 rfl ?_
        refine S_callS [.int y7] [.int (zbc y8)] m_RX11_245 rfl rfl (Nat.le_of_ble_eq_true rfl) (zroom_0 (by decide)) dX11_decoys_105 (zpure (sp_J6_bitCount_0f7a4 (I := I) (L := L) (M := M) (d + 5) y7) ?_)
        refine S_icmp_lt (tgt := 114) dX11_decoys_108 (by decide) (fun q4 => ?_) (fun q4 => ?_)
        · exact S_sub [0, 1, 2, 3, 4, 5, 6, 7, 8] rfl ((((T.2 q1).2 q2).2 q3).1 q4)
        · refine S_goto (tgt := 173) dX11_decoys_111 (by decide) ?_
          refine S_iinc 8 dX11_decoys_173 rfl rfl (by decide) rfl ?_
          refine S_goto (tgt := 75) dX11_decoys_176 (by decide) ?_
          exact S_sub [1, 2, 3, 4, 5, 6, 7, 8, 0] rfl ((((T.2 q1).2 q2).2 q3).2 q4)

set_option maxRecDepth 100000 in
theorem t_X11_decoys_114 {C : zC} {I : Nat → Nat → Int32} {L : Nat → Nat → Int64} {M : Nat → Nat → Option Nat} {h0 : zH} (d : Nat)   (y1 : Int32) (y2 : Int32) (y3 : Int32) (y4 : Int32) (y5 : Int32) (y6 : Int32) (y7 : Int32) (y8 : Int32) (K : Int32 → (Nat → Nat → Int32) → (Nat → Nat → Int64) → (Nat → Nat → Option Nat) → Prop) (T : vp_in y1 6 ∧ zSI C h0 K Y_X11_decoys (d + 7) 128 [(0, .ref 265), (1, .int y1), (2, .int y2), (3, .int y3), (4, .int y4), (5, .int y5), (6, .int y6), (7, .int y7), (8, .int y8), (9, .int 0)] [] (u2 I 270 y1.toNatClampNeg ((y4 ||| y8))) L M) : zSI C h0 K Y_X11_decoys (d + 7) 114 [(0, .ref 265), (1, .int y1), (2, .int y2), (3, .int y3), (4, .int y4), (5, .int y5), (6, .int y6), (7, .int y7), (8, .int y8)] [] I L M := by
  refine S_aload_n 0 dX11_decoys_114 rfl rfl ?_
  refine S_getP f_RX11_24 s_265 p_265_5 dX11_decoys_115 ?_
  refine S_iload_n 1 dX11_decoys_118 rfl rfl ?_
  refine S_iload 4 dX11_decoys_119 rfl ?_
  refine S_iload 8 dX11_decoys_121 rfl ?_
  refine S_ior dX11_decoys_123 ?_
  refine S_iast s_270 T.1 dX11_decoys_124 ?_
  refine S_iconst (v := 0) dX11_decoys_125 (by decide) ?_
  refine S_istore dX11_decoys_126 (by decide) rfl ?_
  exact S_sub [1, 2, 3, 4, 5, 6, 7, 8, 9, 0] rfl T.2

set_option maxRecDepth 100000 in
theorem t_X11_decoys_128 {C : zC} {I : Nat → Nat → Int32} {L : Nat → Nat → Int64} {M : Nat → Nat → Option Nat} {h0 : zH} (d : Nat)   (y1 : Int32) (y2 : Int32) (y3 : Int32) (y4 : Int32) (y5 : Int32) (y6 : Int32) (y7 : Int32) (y8 : Int32) (y9 : Int32) (K : Int32 → (Nat → Nat → Int32) → (Nat → Nat → Int64) → (Nat → Nat → Option Nat) → Prop) (T : ((y3 ≤ y9 → vp_in y1 6 ∧ ((¬ (zhas ((I 270 y1.toNatClampNeg)) y2) → zSI C h0 K Y_X11_decoys (d + 7) 162 [(0, .ref 265), (1, .int y1), (2, .int y2), (3, .int y3), (4, .int y4), (5, .int y5), (6, .int y6), (7, .int y7), (8, .int y8)] [] I L M) ∧ ((zhas ((I 270 y1.toNatClampNeg)) y2) → zSI C h0 K Y_X11_decoys (d + 7) 162 [(0, .ref 265), (1, .int y1), (2, .int y2), (3, .int y3), (4, .int y4), (5, .int y5), (6, .int y6), (7, .int y8), (8, .int y8)] [] I L M))) ∧ (¬ (y3 ≤ y9) → zCV C Y_X11_goesOne (d + 6) [.ref 265, .int y1] (zmk I L M) (fun I1_2 L1_2 M1_2 => zSI C h0 K Y_X11_decoys (d + 7) 128 [(0, .ref 265), (1, .int y1), (2, .int y2), (3, .int y3), (4, .int y4), (5, .int y5), (6, .int y6), (7, .int y7), (8, .int y8), (9, .int (y9 + 1))] [] I1_2 L1_2 M1_2)))) : zSI C h0 K Y_X11_decoys (d + 7) 128 [(0, .ref 265), (1, .int y1), (2, .int y2), (3, .int y3), (4, .int y4), (5, .int y5), (6, .int y6), (7, .int y7), (8, .int y8), (9, .int y9)] [] I L M := by
  refine S_iload 9 dX11_decoys_128 rfl ?_
  refine S_iload_n 3 dX11_decoys_130 rfl rfl ?_
  refine S_icmp_ge (tgt := 145) dX11_decoys_131 (by decide) (fun q1 => ?_) (fun q1 => ?_)
  · refine S_aload_n 0 dX11_decoys_145 rfl rfl ?_
    refine S_getP f_RX11_24 s_265 p_265_5 dX11_decoys_146 ?_
    refine S_iload_n 1 dX11_decoys_149 rfl rfl ?_
    refine S_iald s_270 (T.1 q1).1 dX11_decoys_150 ?_
    refine S_iload_n 2 dX11_decoys_151 rfl rfl ?_
    refine S_callS [.int (I 270 y1.toNatClampNeg), .int y2] [] m_RX11_139 rfl rfl (Nat.le_of_ble_eq_true rfl) (zroom_0 (by decide)) dX11_decoys_152 (zpure (sp_X11_has (I := I) (L := L) (M := M) (d + 5) ((I 270 y1.toNatClampNeg)) y2) ?_)
    refine S_if_eq (tgt := 162) dX11_decoys_155 (by decide) (fun q2 => ?_) (fun q2 => ?_)
    · exact S_sub [0, 1, 2, 3, 4, 5, 6, 7, 8] rfl ((T.1 q1).2.1 (zb_f q2))
    · refine S_iload 8 dX11_decoys_158 rfl ?_
      refine S_istore dX11_decoys_160 (by decide) rfl ?_
      exact S_sub [1, 2, 3, 4, 5, 6, 7, 0, 8] rfl ((T.1 q1).2.2 (zb_t q2))
  · refine S_aload_n 0 dX11_decoys_134 rfl rfl ?_
    refine S_iload_n 1 dX11_decoys_135 rfl rfl ?_
    refine S_callV [.int y1] [] m_RX11_276 rfl rfl s_265 ⟨rfl, by decide⟩ (Nat.le_of_ble_eq_true rfl) (zroom_0 (by decide)) dX11_decoys_136 (zCV_use (T.2 q1) ?_)
    intro I1_2 L1_2 M1_2 T1_2
    refine S_iinc 9 dX11_decoys_139 rfl rfl (by decide) rfl ?_
    refine S_goto (tgt := 128) dX11_decoys_142 (by decide) ?_
    exact S_sub [1, 2, 3, 4, 5, 6, 7, 8, 9, 0] rfl T1_2

set_option maxRecDepth 100000 in
theorem t_X11_decoys_162 {C : zC} {I : Nat → Nat → Int32} {L : Nat → Nat → Int64} {M : Nat → Nat → Option Nat} {h0 : zH} (d : Nat)   (y1 : Int32) (y2 : Int32) (y3 : Int32) (y4 : Int32) (y5 : Int32) (y6 : Int32) (y7 : Int32) (y8 : Int32) (K : Int32 → (Nat → Nat → Int32) → (Nat → Nat → Int64) → (Nat → Nat → Option Nat) → Prop) (T : zCV C Y_X11_restores (d + 6) [.ref 265, .int y1, .int y4, .int y5, .int y6] (zmk I L M) (fun I1_1 L1_1 M1_1 => zSI C h0 K Y_X11_decoys (d + 7) 75 [(0, .ref 265), (1, .int y1), (2, .int y2), (3, .int y3), (4, .int y4), (5, .int y5), (6, .int y6), (7, .int y7), (8, .int (y8 + 1))] [] I1_1 L1_1 M1_1)) : zSI C h0 K Y_X11_decoys (d + 7) 162 [(0, .ref 265), (1, .int y1), (2, .int y2), (3, .int y3), (4, .int y4), (5, .int y5), (6, .int y6), (7, .int y7), (8, .int y8)] [] I L M := by
  refine S_aload_n 0 dX11_decoys_162 rfl rfl ?_
  refine S_iload_n 1 dX11_decoys_163 rfl rfl ?_
  refine S_iload 4 dX11_decoys_164 rfl ?_
  refine S_iload 5 dX11_decoys_166 rfl ?_
  refine S_iload 6 dX11_decoys_168 rfl ?_
  refine S_callV [.int y1, .int y4, .int y5, .int y6] [] m_RX11_280 rfl rfl s_265 ⟨rfl, by decide⟩ (Nat.le_of_ble_eq_true rfl) (zroom_0 (by decide)) dX11_decoys_170 (zCV_use T ?_)
  intro I1_1 L1_1 M1_1 T1_1
  refine S_iinc 8 dX11_decoys_173 rfl rfl (by decide) rfl ?_
  refine S_goto (tgt := 75) dX11_decoys_176 (by decide) ?_
  exact S_sub [1, 2, 3, 4, 5, 6, 7, 8, 0] rfl T1_1

set_option maxRecDepth 100000 in
theorem t_X11_feed {C : zC} {I : Nat → Nat → Int32} {L : Nat → Nat → Int64} {M : Nat → Nat → Option Nat} (d : Nat) (x1 : Int32)  (K : Int32 → (Nat → Nat → Int32) → (Nat → Nat → Int64) → (Nat → Nat → Option Nat) → Prop) (T : ((((0 : Int32) ≤ x1 ∧ x1 ≤ 127) → ((¬ (I 265 10) = 100 → vp_in ((I 265 10)) 100 ∧ K (((I 265 10) + (1 : Int32))) (u2 (u2 I 265 10 (((I 265 10) + (1 : Int32)))) 274 (((I 265 10)).toNatClampNeg) x1) L M) ∧ ((I 265 10) = 100 → K ((-4)) I L M))) ∧ (¬ ((0 : Int32) ≤ x1 ∧ x1 ≤ 127) → K ((-2)) I L M))) : zCI C Y_X11_feed (d + 2) [.ref 265, .int x1] (zmk I L M) K := by
  refine S_enter (by decide) (Nat.le_of_ble_eq_true rfl) ?_
  refine S_lv (lv' := [(0, .ref 265), (1, .int x1)]) rfl ?_
  refine S_iload_n 1 dX11_feed_0 rfl rfl ?_
  refine S_iconst (v := 0) dX11_feed_1 (by decide) ?_
  refine S_bipush (v := 127) dX11_feed_2 (by decide) ?_
  refine S_callS [.int x1, .int 0, .int 127] [] m_RX11_114 rfl rfl (Nat.le_of_ble_eq_true rfl) (zroom_0 (by decide)) dX11_feed_4 (zpure (sp_X11_within (I := I) (L := L) (M := M) (d + 0) x1 0 127) ?_)
  refine S_if_ne (tgt := 13) dX11_feed_7 (by decide) (fun q1 => ?_) (fun q1 => ?_)
  · refine S_aload_n 0 dX11_feed_13 rfl rfl ?_
    refine S_getI f_RX11_143 s_265 dX11_feed_14 ?_
    refine S_bipush (v := 100) dX11_feed_17 (by decide) ?_
    refine S_icmp_ne (tgt := 25) dX11_feed_19 (by decide) (fun q2 => ?_) (fun q2 => ?_)
    · refine S_aload_n 0 dX11_feed_25 rfl rfl ?_
      refine S_getP f_RX11_36 s_265 p_265_11 dX11_feed_26 ?_
      refine S_aload_n 0 dX11_feed_29 rfl rfl ?_
      refine S_dup dX11_feed_30 rfl ?_
      refine S_getI f_RX11_143 s_265 dX11_feed_31 ?_
      refine S_dup_x1 dX11_feed_34 rfl rfl ?_
      refine S_iconst (v := 1) dX11_feed_35 (by decide) ?_
      refine S_iadd dX11_feed_36 ?_
      refine S_putI f_RX11_143 s_265 (Or.inl rfl) rfl dX11_feed_37 ?_
      refine S_iload_n 1 dX11_feed_40 rfl rfl ?_
      refine S_iast s_274 ((T.1 (zb_t q1)).1 q2).1 dX11_feed_41 ?_
      refine S_aload_n 0 dX11_feed_42 rfl rfl ?_
      refine S_getI f_RX11_143 s_265 dX11_feed_43 ?_
      exact S_ireti rfl dX11_feed_46 ⟨_, u2 (u2 I 265 10 (((I 265 10) + (1 : Int32)))) 274 (((I 265 10)).toNatClampNeg) x1, L, M, rfl, rfl, ((T.1 (zb_t q1)).1 q2).2⟩
    · refine S_bipush (v := -4) dX11_feed_22 (by decide) ?_
      exact S_ireti rfl dX11_feed_24 ⟨_, I, L, M, rfl, rfl, ((T.1 (zb_t q1)).2 q2)⟩
  · refine S_bipush (v := -2) dX11_feed_10 (by decide) ?_
    exact S_ireti rfl dX11_feed_12 ⟨_, I, L, M, rfl, rfl, (T.2 (zb_f q1))⟩

set_option maxRecDepth 100000 in
theorem t_X11_house {C : zC} {I : Nat → Nat → Int32} {L : Nat → Nat → Int64} {M : Nat → Nat → Option Nat} (d : Nat)   (K : Int32 → (Nat → Nat → Int32) → (Nat → Nat → Int64) → (Nat → Nat → Option Nat) → Prop) (T : ((¬ (I 265 16) = 6 → zSI C (zmk I L M) K Y_X11_house (d + 8) 29 [(0, .ref 265), (1, .int (I 265 24)), (2, .int 0), (3, .int 1), (4, .int 0)] [] (u2 I 265 12 0) L M) ∧ ((I 265 16) = 6 → K ((-4)) I L M))) : zCI C Y_X11_house (d + 8) [.ref 265] (zmk I L M) K := by
  refine S_enter (by decide) (Nat.le_of_ble_eq_true rfl) ?_
  refine S_lv (lv' := [(0, .ref 265)]) rfl ?_
  refine S_aload_n 0 dX11_house_0 rfl rfl ?_
  refine S_getI f_RX11_215 s_265 dX11_house_1 ?_
  refine S_bipush (v := 6) dX11_house_4 (by decide) ?_
  refine S_icmp_ne (tgt := 12) dX11_house_6 (by decide) (fun q1 => ?_) (fun q1 => ?_)
  · refine S_aload_n 0 dX11_house_12 rfl rfl ?_
    refine S_getI f_RX11_171 s_265 dX11_house_13 ?_
    refine S_istore_n dX11_house_16 rfl (by decide) rfl ?_
    refine S_aload_n 1 dX11_house_17 rfl rfl ?_
    refine S_iconst (v := 0) dX11_house_18 (by decide) ?_
    refine S_putI f_RX11_146 s_265 (Or.inl rfl) rfl dX11_house_19 ?_
    refine S_iconst (v := 0) dX11_house_22 (by decide) ?_
    refine S_istore_n dX11_house_23 rfl (by decide) rfl ?_
    refine S_iconst (v := 1) dX11_house_24 (by decide) ?_
    refine S_istore_n dX11_house_25 rfl (by decide) rfl ?_
    refine S_iconst (v := 0) dX11_house_26 (by decide) ?_
    refine S_istore dX11_house_27 (by decide) rfl ?_
    exact S_sub [4, 3, 2, 1, 0] rfl (T.1 q1)
  · refine S_bipush (v := -4) dX11_house_9 (by decide) ?_
    exact S_ireti rfl dX11_house_11 ⟨_, I, L, M, rfl, rfl, (T.2 q1)⟩

set_option maxRecDepth 100000 in
theorem t_X11_house_29 {C : zC} {I : Nat → Nat → Int32} {L : Nat → Nat → Int64} {M : Nat → Nat → Option Nat} {h0 : zH} (d : Nat)   (y1 : Int32) (y2 : Int32) (y3 : Int32) (y4 : Int32) (K : Int32 → (Nat → Nat → Int32) → (Nat → Nat → Int64) → (Nat → Nat → Option Nat) → Prop) (T : ((y3 = 0 → zSI C h0 K Y_X11_house (d + 8) 123 [(0, .ref 265), (1, .int y1), (2, .int y2), (4, .int y4)] [] I L M) ∧ (¬ (y3 = 0) → ((¬ y4 = 0 → zSI C h0 K Y_X11_house (d + 8) 123 [(0, .ref 265), (1, .int y1), (2, .int y2), (4, .int y4)] [] I L M) ∧ (y4 = 0 → ((10 ≤ y2 → zSI C h0 K Y_X11_house (d + 8) 64 [(0, .ref 265), (1, .int y1), (2, .int y2), (4, .int y4)] [] I L M) ∧ (¬ (10 ≤ y2) → zCI C Y_X11_isClause (d + 7) [.ref 265, .int (((10 : Int32) * (I 265 16)) + y2)] (zmk I L M) (fun r1_4 I1_4 L1_4 M1_4 => ((r1_4 = 0 → zSI C h0 K Y_X11_house (d + 8) 64 [(0, .ref 265), (1, .int y1), (2, .int y2), (4, .int y4)] [] I1_4 L1_4 M1_4) ∧ (¬ (r1_4 = 0) → zSI C h0 K Y_X11_house (d + 8) 65 [(0, .ref 265), (1, .int y1), (2, .int y2), (4, .int y4)] [.int 1] I1_4 L1_4 M1_4)))))))))) : zSI C h0 K Y_X11_house (d + 8) 29 [(0, .ref 265), (1, .int y1), (2, .int y2), (3, .int y3), (4, .int y4)] [] I L M := by
  refine S_iload_n 3 dX11_house_29 rfl rfl ?_
  refine S_if_eq (tgt := 123) dX11_house_30 (by decide) (fun q1 => ?_) (fun q1 => ?_)
  · exact S_sub [0, 1, 2, 4] rfl (T.1 q1)
  · refine S_iload 4 dX11_house_33 rfl ?_
    refine S_if_ne (tgt := 123) dX11_house_35 (by decide) (fun q2 => ?_) (fun q2 => ?_)
    · exact S_sub [0, 1, 2, 4] rfl ((T.2 q1).1 q2)
    · refine S_iload_n 2 dX11_house_38 rfl rfl ?_
      refine S_bipush (v := 10) dX11_house_39 (by decide) ?_
      refine S_icmp_ge (tgt := 64) dX11_house_41 (by decide) (fun q3 => ?_) (fun q3 => ?_)
      · exact S_sub [0, 1, 2, 4] rfl (((T.2 q1).2 q2).1 q3)
      · refine S_aload_n 0 dX11_house_44 rfl rfl ?_
        refine S_bipush (v := 10) dX11_house_45 (by decide) ?_
        refine S_aload_n 0 dX11_house_47 rfl rfl ?_
        refine S_getI f_RX11_215 s_265 dX11_house_48 ?_
        refine S_imul dX11_house_51 ?_
        refine S_iload_n 2 dX11_house_52 rfl rfl ?_
        refine S_iadd dX11_house_53 ?_
        refine S_callV [.int (((10 : Int32) * (I 265 16)) + y2)] [] m_RX11_218 rfl rfl s_265 ⟨rfl, by decide⟩ (Nat.le_of_ble_eq_true rfl) (zroom_0 (by decide)) dX11_house_54 (zCI_use (((T.2 q1).2 q2).2 q3) ?_)
        intro r1_4 I1_4 L1_4 M1_4 T1_4
        refine S_if_eq (tgt := 64) dX11_house_57 (by decide) (fun q4 => ?_) (fun q4 => ?_)
        · exact S_sub [0, 1, 2, 4] rfl (T1_4.1 q4)
        · refine S_iconst (v := 1) dX11_house_60 (by decide) ?_
          refine S_goto (tgt := 65) dX11_house_61 (by decide) ?_
          exact S_sub [0, 1, 2, 4] rfl (T1_4.2 q4)

set_option maxRecDepth 100000 in
theorem t_X11_house_123 {C : zC} {I : Nat → Nat → Int32} {L : Nat → Nat → Int64} {M : Nat → Nat → Option Nat} {h0 : zH} (d : Nat)   (y1 : Int32) (y2 : Int32) (y4 : Int32) (K : Int32 → (Nat → Nat → Int32) → (Nat → Nat → Int64) → (Nat → Nat → Option Nat) → Prop) (T : ((¬ y4 = 0 → vp_in ((I 265 16)) 6 ∧ K ((I 265 16)) (u2 (u2 (u2 (u2 I 265 10 0) 275 (((I 265 16)).toNatClampNeg) y2) 265 17 ((I 265 16))) 265 16 (((I 265 16) + (1 : Int32)))) L M) ∧ (y4 = 0 → K (((-10 : Int32) - (I 265 12))) (u2 (u2 I 265 10 0) 265 24 y1) L M))) : zSI C h0 K Y_X11_house (d + 8) 123 [(0, .ref 265), (1, .int y1), (2, .int y2), (4, .int y4)] [] I L M := by
  refine S_aload_n 0 dX11_house_123 rfl rfl ?_
  refine S_iconst (v := 0) dX11_house_124 (by decide) ?_
  refine S_putI f_RX11_143 s_265 (Or.inl rfl) rfl dX11_house_125 ?_
  refine S_iload 3 dX11_house_128 rfl ?_
  refine S_if_ne (tgt := 146) dX11_house_130 (by decide) (fun q1 => ?_) (fun q1 => ?_)
  · refine S_aload_n 0 dX11_house_146 rfl rfl ?_
    refine S_getP f_RX11_39 s_265 p_265_18 dX11_house_147 ?_
    refine S_aload_n 0 dX11_house_150 rfl rfl ?_
    refine S_getI f_RX11_215 s_265 dX11_house_151 ?_
    refine S_iload_n 2 dX11_house_154 rfl rfl ?_
    refine S_iast s_275 (T.1 q1).1 dX11_house_155 ?_
    refine S_aload_n 0 dX11_house_156 rfl rfl ?_
    refine S_aload_n 0 dX11_house_157 rfl rfl ?_
    refine S_getI f_RX11_215 s_265 dX11_house_158 ?_
    refine S_putI f_RX11_107 s_265 (Or.inl rfl) rfl dX11_house_161 ?_
    refine S_aload_n 0 dX11_house_164 rfl rfl ?_
    refine S_dup dX11_house_165 rfl ?_
    refine S_getI f_RX11_215 s_265 dX11_house_166 ?_
    refine S_dup_x1 dX11_house_169 rfl rfl ?_
    refine S_iconst (v := 1) dX11_house_170 (by decide) ?_
    refine S_iadd dX11_house_171 ?_
    refine S_putI f_RX11_215 s_265 (Or.inl rfl) rfl dX11_house_172 ?_
    exact S_ireti rfl dX11_house_175 ⟨_, u2 (u2 (u2 (u2 I 265 10 0) 275 (((I 265 16)).toNatClampNeg) y2) 265 17 ((I 265 16))) 265 16 (((I 265 16) + (1 : Int32))), L, M, rfl, rfl, (T.1 q1).2⟩
  · refine S_aload_n 0 dX11_house_133 rfl rfl ?_
    refine S_iload_n 1 dX11_house_134 rfl rfl ?_
    refine S_putI f_RX11_171 s_265 (Or.inl rfl) rfl dX11_house_135 ?_
    refine S_bipush (v := -10) dX11_house_138 (by decide) ?_
    refine S_aload_n 0 dX11_house_140 rfl rfl ?_
    refine S_getI f_RX11_146 s_265 dX11_house_141 ?_
    refine S_isub dX11_house_144 ?_
    exact S_ireti rfl dX11_house_145 ⟨_, u2 (u2 I 265 10 0) 265 24 y1, L, M, rfl, rfl, (T.2 q1)⟩

set_option maxRecDepth 100000 in
theorem t_X11_house_64 {C : zC} {I : Nat → Nat → Int32} {L : Nat → Nat → Int64} {M : Nat → Nat → Option Nat} {h0 : zH} (d : Nat)   (y1 : Int32) (y2 : Int32) (y4 : Int32) (K : Int32 → (Nat → Nat → Int32) → (Nat → Nat → Int64) → (Nat → Nat → Option Nat) → Prop) (T : zSI C h0 K Y_X11_house (d + 8) 65 [(0, .ref 265), (1, .int y1), (2, .int y2), (4, .int y4)] [.int 0] I L M) : zSI C h0 K Y_X11_house (d + 8) 64 [(0, .ref 265), (1, .int y1), (2, .int y2), (4, .int y4)] [] I L M := by
  refine S_iconst (v := 0) dX11_house_64 (by decide) ?_
  exact S_sub [0, 1, 2, 3] rfl T

set_option maxRecDepth 100000 in
theorem t_X11_house_65 {C : zC} {I : Nat → Nat → Int32} {L : Nat → Nat → Int64} {M : Nat → Nat → Option Nat} {h0 : zH} (d : Nat)   (y1 : Int32) (y2 : Int32) (y4 : Int32) (z0 : Int32) (K : Int32 → (Nat → Nat → Int32) → (Nat → Nat → Int64) → (Nat → Nat → Option Nat) → Prop) (T : ((¬ z0 = 0 → ((¬ (I 265 12) = (I 265 10) → zSI C h0 K Y_X11_house (d + 8) 92 [(0, .ref 265), (1, .int y1), (2, .int (y2 + 1))] [.int 0] I L M) ∧ ((I 265 12) = (I 265 10) → zSI C h0 K Y_X11_house (d + 8) 92 [(0, .ref 265), (1, .int y1), (2, .int (y2 + 1))] [.int 1] I L M))) ∧ (z0 = 0 → zSI C h0 K Y_X11_house (d + 8) 29 [(0, .ref 265), (1, .int y1), (2, .int y2), (3, .int z0), (4, .int y4)] [] I L M))) : zSI C h0 K Y_X11_house (d + 8) 65 [(0, .ref 265), (1, .int y1), (2, .int y2), (4, .int y4)] [.int z0] I L M := by
  refine S_istore_n dX11_house_65 rfl (by decide) rfl ?_
  refine S_iload_n 0 dX11_house_66 rfl rfl ?_
  refine S_if_ne (tgt := 73) dX11_house_67 (by decide) (fun q1 => ?_) (fun q1 => ?_)
  · refine S_iinc 3 dX11_house_73 rfl rfl (by decide) rfl ?_
    refine S_aload_n 2 dX11_house_76 rfl rfl ?_
    refine S_getI f_RX11_146 s_265 dX11_house_77 ?_
    refine S_aload_n 2 dX11_house_80 rfl rfl ?_
    refine S_getI f_RX11_143 s_265 dX11_house_81 ?_
    refine S_icmp_ne (tgt := 91) dX11_house_84 (by decide) (fun q2 => ?_) (fun q2 => ?_)
    · refine S_iconst (v := 0) dX11_house_91 (by decide) ?_
      exact S_sub [2, 3, 0] rfl ((T.1 q1).1 q2)
    · refine S_iconst (v := 1) dX11_house_87 (by decide) ?_
      refine S_goto (tgt := 92) dX11_house_88 (by decide) ?_
      exact S_sub [2, 3, 0] rfl ((T.1 q1).2 q2)
  · refine S_goto (tgt := 29) dX11_house_70 (by decide) ?_
    exact S_sub [1, 2, 3, 0, 4] rfl (T.2 q1)

set_option maxRecDepth 100000 in
theorem t_X11_house_92 {C : zC} {I : Nat → Nat → Int32} {L : Nat → Nat → Int64} {M : Nat → Nat → Option Nat} {h0 : zH} (d : Nat)   (y1 : Int32) (y2 : Int32) (z0 : Int32) (K : Int32 → (Nat → Nat → Int32) → (Nat → Nat → Int64) → (Nat → Nat → Option Nat) → Prop) (T : ((¬ z0 = 0 → zSI C h0 K Y_X11_house (d + 8) 29 [(0, .ref 265), (1, .int y1), (2, .int y2), (3, .int 1), (4, .int z0)] [] I L M) ∧ (z0 = 0 → ((10 ≤ y2 → zSI C h0 K Y_X11_house (d + 8) 29 [(0, .ref 265), (1, .int y1), (2, .int y2), (3, .int 0), (4, .int z0)] [] I L M) ∧ (¬ (10 ≤ y2) → zCI C Y_X11_is (d + 7) [.ref 265, .int 59] (zmk I L M) (fun r1_3 I1_3 L1_3 M1_3 => ((r1_3 = 0 → zSI C h0 K Y_X11_house (d + 8) 29 [(0, .ref 265), (1, .int y1), (2, .int y2), (3, .int 0), (4, .int z0)] [] I1_3 L1_3 M1_3) ∧ (¬ (r1_3 = 0) → zSI C h0 K Y_X11_house (d + 8) 29 [(0, .ref 265), (1, .int y1), (2, .int y2), (3, .int 1), (4, .int z0)] [] I1_3 L1_3 M1_3)))))))) : zSI C h0 K Y_X11_house (d + 8) 92 [(0, .ref 265), (1, .int y1), (2, .int y2)] [.int z0] I L M := by
  refine S_istore dX11_house_92 (by decide) rfl ?_
  refine S_iload 0 dX11_house_94 rfl ?_
  refine S_if_ne (tgt := 114) dX11_house_96 (by decide) (fun q1 => ?_) (fun q1 => ?_)
  · refine S_iconst (v := 1) dX11_house_114 (by decide) ?_
    refine S_goto (tgt := 119) dX11_house_115 (by decide) ?_
    refine S_istore_n dX11_house_119 rfl (by decide) rfl ?_
    refine S_goto (tgt := 29) dX11_house_120 (by decide) ?_
    exact S_sub [2, 3, 4, 0, 1] rfl (T.1 q1)
  · refine S_iload_n 3 dX11_house_99 rfl rfl ?_
    refine S_bipush (v := 10) dX11_house_100 (by decide) ?_
    refine S_icmp_ge (tgt := 118) dX11_house_102 (by decide) (fun q2 => ?_) (fun q2 => ?_)
    · refine S_iconst (v := 0) dX11_house_118 (by decide) ?_
      refine S_istore_n dX11_house_119 rfl (by decide) rfl ?_
      refine S_goto (tgt := 29) dX11_house_120 (by decide) ?_
      exact S_sub [2, 3, 4, 0, 1] rfl ((T.2 q1).1 q2)
    · refine S_aload_n 1 dX11_house_105 rfl rfl ?_
      refine S_bipush (v := 59) dX11_house_106 (by decide) ?_
      refine S_callV [.int 59] [] m_RX11_168 rfl rfl s_265 ⟨rfl, by decide⟩ (Nat.le_of_ble_eq_true rfl) (zroom_0 (by decide)) dX11_house_108 (zCI_use ((T.2 q1).2 q2) ?_)
      intro r1_3 I1_3 L1_3 M1_3 T1_3
      refine S_if_eq (tgt := 118) dX11_house_111 (by decide) (fun q3 => ?_) (fun q3 => ?_)
      · refine S_iconst (v := 0) dX11_house_118 (by decide) ?_
        refine S_istore_n dX11_house_119 rfl (by decide) rfl ?_
        refine S_goto (tgt := 29) dX11_house_120 (by decide) ?_
        exact S_sub [2, 3, 4, 0, 1] rfl (T1_3.1 q3)
      · refine S_iconst (v := 1) dX11_house_114 (by decide) ?_
        refine S_goto (tgt := 119) dX11_house_115 (by decide) ?_
        refine S_istore_n dX11_house_119 rfl (by decide) rfl ?_
        refine S_goto (tgt := 29) dX11_house_120 (by decide) ?_
        exact S_sub [2, 3, 4, 0, 1] rfl (T1_3.2 q3)

set_option maxRecDepth 100000 in
theorem t_X11_image {C : zC} {I : Nat → Nat → Int32} {L : Nat → Nat → Int64} {M : Nat → Nat → Option Nat} (d : Nat)   (K : Int32 → (Nat → Nat → Int32) → (Nat → Nat → Int64) → (Nat → Nat → Option Nat) → Prop) (T : zCV C Y_X11_keep (d + 1) [.ref 265, .ref 291] (zmk (u2 I 265 39 1) L M) (fun I1_1 L1_1 M1_1 => K ((I1_1 265 2)) I1_1 L1_1 M1_1)) : zCI C Y_X11_image (d + 2) [.ref 265] (zmk I L M) K := by
  refine S_enter (by decide) (Nat.le_of_ble_eq_true rfl) ?_
  refine S_lv (lv' := [(0, .ref 265)]) rfl ?_
  refine S_aload_n 0 dX11_image_0 rfl rfl ?_
  refine S_iconst (v := 1) dX11_image_1 (by decide) ?_
  refine S_putZ f_RX11_310 s_265 (Or.inl rfl) rfl (by decide) dX11_image_2 ?_
  refine S_aload_n 0 dX11_image_5 rfl rfl ?_
  refine S_aload_n 0 dX11_image_6 rfl rfl ?_
  refine S_getP f_RX11_88 s_265 p_265_40 dX11_image_7 ?_
  refine S_callV [.ref 291] [] m_RX11_269 rfl rfl s_265 ⟨rfl, by decide⟩ (Nat.le_of_ble_eq_true rfl) (zroom_0 (by decide)) dX11_image_10 (zCV_use T ?_)
  intro I1_1 L1_1 M1_1 T1_1
  refine S_aload_n 0 dX11_image_13 rfl rfl ?_
  refine S_getI f_RX11_111 s_265 dX11_image_14 ?_
  exact S_ireti rfl dX11_image_17 ⟨_, I1_1, L1_1, M1_1, rfl, rfl, T1_1⟩

set_option maxRecDepth 100000 in
theorem t_X11_isF {C : zC} {I : Nat → Nat → Int32} {L : Nat → Nat → Int64} {M : Nat → Nat → Option Nat} (d : Nat)   (K : Int32 → (Nat → Nat → Int32) → (Nat → Nat → Int64) → (Nat → Nat → Option Nat) → Prop) (T : zCI C Y_X11_isOpened (d + 8) [.ref 265, .int 33] (zmk I L M) (fun r1_1 I1_1 L1_1 M1_1 => ((r1_1 = 0 → zCI C Y_X11_isOpened (d + 8) [.ref 265, .int 40] (zmk I1_1 L1_1 M1_1) (fun r2_2 I2_2 L2_2 M2_2 => ((r2_2 = 0 → zCI C Y_X11_isTest (d + 8) [.ref 265] (zmk I2_2 L2_2 M2_2) (fun r3_3 I3_3 L3_3 M3_3 => ((r3_3 = 0 ∨ r3_3 = 1) ∧ K r3_3 I3_3 L3_3 M3_3))) ∧ (¬ (r2_2 = 0) → zCI C Y_X11_isE (d + 8) [.ref 265] (zmk I2_2 L2_2 M2_2) (fun r4_3 I4_3 L4_3 M4_3 => ((r4_3 = 0 → zSI C (zmk I L M) K Y_X11_isF (d + 9) 62 [(0, .ref 265)] [] I4_3 L4_3 M4_3) ∧ (¬ (r4_3 = 0) → zCI C Y_X11_is (d + 8) [.ref 265, .int 41] (zmk I4_3 L4_3 M4_3) (fun r5_4 I5_4 L5_4 M5_4 => ((r5_4 = 0 → zSI C (zmk I L M) K Y_X11_isF (d + 9) 62 [(0, .ref 265)] [] I5_4 L5_4 M5_4) ∧ (¬ (r5_4 = 0) → zSI C (zmk I L M) K Y_X11_isF (d + 9) 63 [(0, .ref 265)] [.int 1] I5_4 L5_4 M5_4)))))))))) ∧ (¬ (r1_1 = 0) → zCI C Y_X11_isF (d + 8) [.ref 265] (zmk I1_1 L1_1 M1_1) (fun r6_2 I6_2 L6_2 M6_2 => ((r6_2 = 0 → zSI C (zmk I L M) K Y_X11_isF (d + 9) 72 [(0, .ref 265), (1, .int 0)] [] I6_2 L6_2 M6_2) ∧ (¬ (r6_2 = 0) → zCI C Y_X11_codes (d + 8) [.ref 265, .int 0] (zmk I6_2 L6_2 M6_2) (fun r7_3 I7_3 L7_3 M7_3 => ((r7_3 = 0 → zSI C (zmk I L M) K Y_X11_isF (d + 9) 72 [(0, .ref 265), (1, .int 0)] [] I7_3 L7_3 M7_3) ∧ (¬ (r7_3 = 0) → zSI C (zmk I L M) K Y_X11_isF (d + 9) 72 [(0, .ref 265), (1, .int 1)] [] I7_3 L7_3 M7_3)))))))))) : zCI C Y_X11_isF (d + 9) [.ref 265] (zmk I L M) K := by
  refine S_enter (by decide) (Nat.le_of_ble_eq_true rfl) ?_
  refine S_lv (lv' := [(0, .ref 265)]) rfl ?_
  refine S_aload_n 0 dX11_isF_0 rfl rfl ?_
  refine S_bipush (v := 33) dX11_isF_1 (by decide) ?_
  refine S_callV [.int 33] [] m_RX11_190 rfl rfl s_265 ⟨rfl, by decide⟩ (Nat.le_of_ble_eq_true rfl) (zroom_0 (by decide)) dX11_isF_3 (zCI_use T ?_)
  intro r1_1 I1_1 L1_1 M1_1 T1_1
  refine S_if_eq (tgt := 33) dX11_isF_6 (by decide) (fun q1 => ?_) (fun q1 => ?_)
  · refine S_aload_n 0 dX11_isF_33 rfl rfl ?_
    refine S_bipush (v := 40) dX11_isF_34 (by decide) ?_
    refine S_callV [.int 40] [] m_RX11_190 rfl rfl s_265 ⟨rfl, by decide⟩ (Nat.le_of_ble_eq_true rfl) (zroom_0 (by decide)) dX11_isF_36 (zCI_use (T1_1.1 q1) ?_)
    intro r2_2 I2_2 L2_2 M2_2 T2_2
    refine S_if_eq (tgt := 67) dX11_isF_39 (by decide) (fun q2 => ?_) (fun q2 => ?_)
    · refine S_aload_n 0 dX11_isF_67 rfl rfl ?_
      refine S_callV [] [] m_RX11_199 rfl rfl s_265 ⟨rfl, by decide⟩ (Nat.le_of_ble_eq_true rfl) (zroom_0 (by decide)) dX11_isF_68 (zCI_use (T2_2.1 q2) ?_)
      intro r3_3 I3_3 L3_3 M3_3 T3_3
      exact S_iretz rfl T3_3.1 dX11_isF_71 ⟨_, I3_3, L3_3, M3_3, rfl, rfl, T3_3.2⟩
    · refine S_aload_n 0 dX11_isF_42 rfl rfl ?_
      refine S_callV [] [] m_RX11_196 rfl rfl s_265 ⟨rfl, by decide⟩ (Nat.le_of_ble_eq_true rfl) (zroom_0 (by decide)) dX11_isF_43 (zCI_use (T2_2.2 q2) ?_)
      intro r4_3 I4_3 L4_3 M4_3 T4_3
      refine S_if_eq (tgt := 62) dX11_isF_46 (by decide) (fun q3 => ?_) (fun q3 => ?_)
      · exact S_sub [0] rfl (T4_3.1 q3)
      · refine S_aload_n 0 dX11_isF_49 rfl rfl ?_
        refine S_bipush (v := 41) dX11_isF_50 (by decide) ?_
        refine S_callV [.int 41] [] m_RX11_168 rfl rfl s_265 ⟨rfl, by decide⟩ (Nat.le_of_ble_eq_true rfl) (zroom_0 (by decide)) dX11_isF_52 (zCI_use (T4_3.2 q3) ?_)
        intro r5_4 I5_4 L5_4 M5_4 T5_4
        refine S_if_eq (tgt := 62) dX11_isF_55 (by decide) (fun q4 => ?_) (fun q4 => ?_)
        · exact S_sub [0] rfl (T5_4.1 q4)
        · refine S_iconst (v := 1) dX11_isF_58 (by decide) ?_
          refine S_goto (tgt := 63) dX11_isF_59 (by decide) ?_
          exact S_sub [0] rfl (T5_4.2 q4)
  · refine S_aload_n 0 dX11_isF_9 rfl rfl ?_
    refine S_callV [] [] m_RX11_193 rfl rfl s_265 ⟨rfl, by decide⟩ (Nat.le_of_ble_eq_true rfl) (zroom_0 (by decide)) dX11_isF_10 (zCI_use (T1_1.2 q1) ?_)
    intro r6_2 I6_2 L6_2 M6_2 T6_2
    refine S_if_eq (tgt := 28) dX11_isF_13 (by decide) (fun q2 => ?_) (fun q2 => ?_)
    · refine S_iconst (v := 0) dX11_isF_28 (by decide) ?_
      refine S_istore_n dX11_isF_29 rfl (by decide) rfl ?_
      refine S_goto (tgt := 72) dX11_isF_30 (by decide) ?_
      exact S_sub [1, 0] rfl (T6_2.1 q2)
    · refine S_aload_n 0 dX11_isF_16 rfl rfl ?_
      refine S_iconst (v := 0) dX11_isF_17 (by decide) ?_
      refine S_callV [.int 0] [] m_RX11_184 rfl rfl s_265 ⟨rfl, by decide⟩ (Nat.le_of_ble_eq_true rfl) (zroom_0 (by decide)) dX11_isF_18 (zCI_use (T6_2.2 q2) ?_)
      intro r7_3 I7_3 L7_3 M7_3 T7_3
      refine S_if_eq (tgt := 28) dX11_isF_21 (by decide) (fun q3 => ?_) (fun q3 => ?_)
      · refine S_iconst (v := 0) dX11_isF_28 (by decide) ?_
        refine S_istore_n dX11_isF_29 rfl (by decide) rfl ?_
        refine S_goto (tgt := 72) dX11_isF_30 (by decide) ?_
        exact S_sub [1, 0] rfl (T7_3.1 q3)
      · refine S_iconst (v := 1) dX11_isF_24 (by decide) ?_
        refine S_goto (tgt := 29) dX11_isF_25 (by decide) ?_
        refine S_istore_n dX11_isF_29 rfl (by decide) rfl ?_
        refine S_goto (tgt := 72) dX11_isF_30 (by decide) ?_
        exact S_sub [1, 0] rfl (T7_3.2 q3)

set_option maxRecDepth 100000 in
theorem t_X11_isF_62 {C : zC} {I : Nat → Nat → Int32} {L : Nat → Nat → Int64} {M : Nat → Nat → Option Nat} {h0 : zH} (d : Nat)    (K : Int32 → (Nat → Nat → Int32) → (Nat → Nat → Int64) → (Nat → Nat → Option Nat) → Prop) (T : zSI C h0 K Y_X11_isF (d + 9) 63 [(0, .ref 265)] [.int 0] I L M) : zSI C h0 K Y_X11_isF (d + 9) 62 [(0, .ref 265)] [] I L M := by
  refine S_iconst (v := 0) dX11_isF_62 (by decide) ?_
  exact S_sub [0] rfl T

set_option maxRecDepth 100000 in
theorem t_X11_isF_63 {C : zC} {I : Nat → Nat → Int32} {L : Nat → Nat → Int64} {M : Nat → Nat → Option Nat} {h0 : zH} (d : Nat)   (z0 : Int32) (K : Int32 → (Nat → Nat → Int32) → (Nat → Nat → Int64) → (Nat → Nat → Option Nat) → Prop) (T : zSI C h0 K Y_X11_isF (d + 9) 72 [(0, .ref 265), (1, .int z0)] [] I L M) : zSI C h0 K Y_X11_isF (d + 9) 63 [(0, .ref 265)] [.int z0] I L M := by
  refine S_istore_n dX11_isF_63 rfl (by decide) rfl ?_
  refine S_goto (tgt := 72) dX11_isF_64 (by decide) ?_
  exact S_sub [1, 0] rfl T

set_option maxRecDepth 100000 in
theorem t_X11_isF_72 {C : zC} {I : Nat → Nat → Int32} {L : Nat → Nat → Int64} {M : Nat → Nat → Option Nat} {h0 : zH} (d : Nat)   (y1 : Int32) (K : Int32 → (Nat → Nat → Int32) → (Nat → Nat → Int64) → (Nat → Nat → Option Nat) → Prop) (T : ((y1 = 0 ∨ y1 = 1) ∧ K y1 (u2 I 265 15 (((I 265 15) - (1 : Int32)))) L M)) : zSI C h0 K Y_X11_isF (d + 9) 72 [(0, .ref 265), (1, .int y1)] [] I L M := by
  refine S_aload_n 0 dX11_isF_72 rfl rfl ?_
  refine S_dup dX11_isF_73 rfl ?_
  refine S_getI f_RX11_187 s_265 dX11_isF_74 ?_
  refine S_iconst (v := 1) dX11_isF_77 (by decide) ?_
  refine S_isub dX11_isF_78 ?_
  refine S_putI f_RX11_187 s_265 (Or.inl rfl) rfl dX11_isF_79 ?_
  refine S_iload_n 1 dX11_isF_82 rfl rfl ?_
  exact S_iretz rfl T.1 dX11_isF_83 ⟨_, u2 I 265 15 (((I 265 15) - (1 : Int32))), L, M, rfl, rfl, T.2⟩

set_option maxRecDepth 100000 in
theorem t_X11_item {C : zC} {I : Nat → Nat → Int32} {L : Nat → Nat → Int64} {M : Nat → Nat → Option Nat} (d : Nat) (x1 : Int32) (x2 : Int32) (x3 : Int64)  (K : Int32 → (Nat → Nat → Int32) → (Nat → Nat → Int64) → (Nat → Nat → Option Nat) → Prop) (T : (((0 ≤ x1 ∧ x1 < 6) → vp_in x1 6 ∧ ((0 ≤ (I 294 x1.toNatClampNeg) → vp_in x1 6 ∧ ((((0 : Int32) ≤ x2 ∧ x2 ≤ ((I 295 x1.toNatClampNeg) - (1 : Int32))) → vp_in x1 6 ∧ zCL C Y_X11_kept (d + 2) [.int (I 294 x1.toNatClampNeg), .long x3] (zmk I L M) (fun r1_4 I1_4 L1_4 M1_4 => vp_in ((((60 : Int32) * x1) + x2)) 360 ∧ K 1 I1_4 (u2 L1_4 296 (((((60 : Int32) * x1) + x2)).toNatClampNeg) r1_4) M1_4)) ∧ (¬ ((0 : Int32) ≤ x2 ∧ x2 ≤ ((I 295 x1.toNatClampNeg) - (1 : Int32))) → K ((-13)) I L M))) ∧ (¬ (0 ≤ (I 294 x1.toNatClampNeg)) → K ((-11)) I L M))) ∧ (¬ (0 ≤ x1 ∧ x1 < 6) → K ((-1)) I L M))) : zCI C Y_X11_item (d + 3) [.ref 265, .int x1, .int x2, .long x3] (zmk I L M) K := by
  refine S_enter (by decide) (Nat.le_of_ble_eq_true rfl) ?_
  refine S_lv (lv' := [(0, .ref 265), (1, .int x1), (2, .int x2), (3, .long x3)]) rfl ?_
  refine S_iload_n 1 dX11_item_0 rfl rfl ?_
  refine S_callS [.int x1] [] m_RX11_332 rfl rfl (Nat.le_of_ble_eq_true rfl) (zroom_0 (by decide)) dX11_item_1 (zpure (sp_X11_isTape (I := I) (L := L) (M := M) (d + 0) x1) ?_)
  refine S_if_ne (tgt := 9) dX11_item_4 (by decide) (fun q1 => ?_) (fun q1 => ?_)
  · refine S_aload_n 0 dX11_item_9 rfl rfl ?_
    refine S_getP f_RX11_97 s_265 p_265_43 dX11_item_10 ?_
    refine S_iload_n 1 dX11_item_13 rfl rfl ?_
    refine S_iald s_294 (T.1 (zb_t q1)).1 dX11_item_14 ?_
    refine S_if_ge (tgt := 21) dX11_item_15 (by decide) (fun q2 => ?_) (fun q2 => ?_)
    · refine S_iload_n 2 dX11_item_21 rfl rfl ?_
      refine S_iconst (v := 0) dX11_item_22 (by decide) ?_
      refine S_aload_n 0 dX11_item_23 rfl rfl ?_
      refine S_getP f_RX11_100 s_265 p_265_44 dX11_item_24 ?_
      refine S_iload_n 1 dX11_item_27 rfl rfl ?_
      refine S_iald s_295 ((T.1 (zb_t q1)).2.1 q2).1 dX11_item_28 ?_
      refine S_iconst (v := 1) dX11_item_29 (by decide) ?_
      refine S_isub dX11_item_30 ?_
      refine S_callS [.int x2, .int 0, .int ((I 295 x1.toNatClampNeg) - (1 : Int32))] [] m_RX11_114 rfl rfl (Nat.le_of_ble_eq_true rfl) (zroom_0 (by decide)) dX11_item_31 (zpure (sp_X11_within (I := I) (L := L) (M := M) (d + 1) x2 0 (((I 295 x1.toNatClampNeg) - (1 : Int32)))) ?_)
      refine S_if_ne (tgt := 40) dX11_item_34 (by decide) (fun q3 => ?_) (fun q3 => ?_)
      · refine S_aload_n 0 dX11_item_40 rfl rfl ?_
        refine S_getP f_RX11_103 s_265 p_265_45 dX11_item_41 ?_
        refine S_bipush (v := 60) dX11_item_44 (by decide) ?_
        refine S_iload_n 1 dX11_item_46 rfl rfl ?_
        refine S_imul dX11_item_47 ?_
        refine S_iload_n 2 dX11_item_48 rfl rfl ?_
        refine S_iadd dX11_item_49 ?_
        refine S_aload_n 0 dX11_item_50 rfl rfl ?_
        refine S_getP f_RX11_97 s_265 p_265_43 dX11_item_51 ?_
        refine S_iload_n 1 dX11_item_54 rfl rfl ?_
        refine S_iald s_294 (((T.1 (zb_t q1)).2.1 q2).2.1 (zb_t q3)).1 dX11_item_55 ?_
        refine S_lload_n 3 dX11_item_56 rfl rfl ?_
        refine S_callS [.int (I 294 x1.toNatClampNeg), .long x3] [.int (((60 : Int32) * x1) + x2), .ref 296] m_RX11_335 rfl rfl (Nat.le_of_ble_eq_true rfl) (zroom_0 (by decide)) dX11_item_57 (zCL_use (((T.1 (zb_t q1)).2.1 q2).2.1 (zb_t q3)).2 ?_)
        intro r1_4 I1_4 L1_4 M1_4 T1_4
        refine S_last s_296 T1_4.1 dX11_item_60 ?_
        refine S_iconst (v := 1) dX11_item_61 (by decide) ?_
        exact S_ireti rfl dX11_item_62 ⟨_, I1_4, u2 L1_4 296 (((((60 : Int32) * x1) + x2)).toNatClampNeg) r1_4, M1_4, rfl, rfl, T1_4.2⟩
      · refine S_bipush (v := -13) dX11_item_37 (by decide) ?_
        exact S_ireti rfl dX11_item_39 ⟨_, I, L, M, rfl, rfl, (((T.1 (zb_t q1)).2.1 q2).2.2 (zb_f q3))⟩
    · refine S_bipush (v := -11) dX11_item_18 (by decide) ?_
      exact S_ireti rfl dX11_item_20 ⟨_, I, L, M, rfl, rfl, ((T.1 (zb_t q1)).2.2 q2)⟩
  · refine S_iconst (v := -1) dX11_item_7 (by decide) ?_
    exact S_ireti rfl dX11_item_8 ⟨_, I, L, M, rfl, rfl, (T.2 (zb_f q1))⟩

set_option maxRecDepth 100000 in
theorem t_X11_judge {C : zC} {I : Nat → Nat → Int32} {L : Nat → Nat → Int64} {M : Nat → Nat → Option Nat} (d : Nat) (x1 : Int32) (x2 : Int32)  (K : Int32 → (Nat → Nat → Int32) → (Nat → Nat → Int64) → (Nat → Nat → Option Nat) → Prop) (T : ((((0 : Int32) ≤ x1 ∧ x1 ≤ 5) → vp_in x1 6 ∧ (((I 294 x1.toNatClampNeg) = (-1) → zSI C (zmk I L M) K Y_X11_judge (d + 2) 35 [(0, .ref 265), (1, .int x1), (2, .int x2), (3, .int 0)] [] I L M) ∧ (¬ ((I 294 x1.toNatClampNeg) = (-1)) → vp_in x1 6 ∧ (((I 294 x1.toNatClampNeg) = 0 → zSI C (zmk I L M) K Y_X11_judge (d + 2) 35 [(0, .ref 265), (1, .int x1), (2, .int x2), (3, .int 0)] [] I L M) ∧ (¬ ((I 294 x1.toNatClampNeg) = 0) → K ((-12)) I L M))))) ∧ (¬ ((0 : Int32) ≤ x1 ∧ x1 ≤ 5) → K ((-1)) I L M))) : zCI C Y_X11_judge (d + 2) [.ref 265, .int x1, .int x2] (zmk I L M) K := by
  refine S_enter (by decide) (Nat.le_of_ble_eq_true rfl) ?_
  refine S_lv (lv' := [(0, .ref 265), (1, .int x1), (2, .int x2)]) rfl ?_
  refine S_iload_n 1 dX11_judge_0 rfl rfl ?_
  refine S_iconst (v := 0) dX11_judge_1 (by decide) ?_
  refine S_iconst (v := 5) dX11_judge_2 (by decide) ?_
  refine S_callS [.int x1, .int 0, .int 5] [] m_RX11_114 rfl rfl (Nat.le_of_ble_eq_true rfl) (zroom_0 (by decide)) dX11_judge_3 (zpure (sp_X11_within (I := I) (L := L) (M := M) (d + 0) x1 0 5) ?_)
  refine S_if_ne (tgt := 11) dX11_judge_6 (by decide) (fun q1 => ?_) (fun q1 => ?_)
  · refine S_aload_n 0 dX11_judge_11 rfl rfl ?_
    refine S_getP f_RX11_97 s_265 p_265_43 dX11_judge_12 ?_
    refine S_iload_n 1 dX11_judge_15 rfl rfl ?_
    refine S_iald s_294 (T.1 (zb_t q1)).1 dX11_judge_16 ?_
    refine S_iconst (v := -1) dX11_judge_17 (by decide) ?_
    refine S_icmp_eq (tgt := 33) dX11_judge_18 (by decide) (fun q2 => ?_) (fun q2 => ?_)
    · refine S_iconst (v := 0) dX11_judge_33 (by decide) ?_
      refine S_istore_n dX11_judge_34 rfl (by decide) rfl ?_
      exact S_sub [1, 2, 3, 0] rfl ((T.1 (zb_t q1)).2.1 q2)
    · refine S_aload_n 0 dX11_judge_21 rfl rfl ?_
      refine S_getP f_RX11_97 s_265 p_265_43 dX11_judge_22 ?_
      refine S_iload_n 1 dX11_judge_25 rfl rfl ?_
      refine S_iald s_294 ((T.1 (zb_t q1)).2.2 q2).1 dX11_judge_26 ?_
      refine S_if_eq (tgt := 33) dX11_judge_27 (by decide) (fun q3 => ?_) (fun q3 => ?_)
      · refine S_iconst (v := 0) dX11_judge_33 (by decide) ?_
        refine S_istore_n dX11_judge_34 rfl (by decide) rfl ?_
        exact S_sub [1, 2, 3, 0] rfl (((T.1 (zb_t q1)).2.2 q2).2.1 q3)
      · refine S_bipush (v := -12) dX11_judge_30 (by decide) ?_
        exact S_ireti rfl dX11_judge_32 ⟨_, I, L, M, rfl, rfl, (((T.1 (zb_t q1)).2.2 q2).2.2 q3)⟩
  · refine S_iconst (v := -1) dX11_judge_9 (by decide) ?_
    exact S_ireti rfl dX11_judge_10 ⟨_, I, L, M, rfl, rfl, (T.2 (zb_f q1))⟩

set_option maxRecDepth 100000 in
theorem t_X11_judge_35 {C : zC} {I : Nat → Nat → Int32} {L : Nat → Nat → Int64} {M : Nat → Nat → Option Nat} {h0 : zH} (d : Nat)   (y1 : Int32) (y2 : Int32) (y3 : Int32) (K : Int32 → (Nat → Nat → Int32) → (Nat → Nat → Int64) → (Nat → Nat → Option Nat) → Prop) (T : ((12 ≤ y3 → K ((-5)) I L M) ∧ (¬ (12 ≤ y3) → vp_in y1 6 ∧ (((I 294 y1.toNatClampNeg) = (-1) → K (((100 : Int32) + y3)) I L M) ∧ (¬ ((I 294 y1.toNatClampNeg) = (-1)) → ((y2 < 0 → K (((100 : Int32) + y3)) I L M) ∧ (¬ (y2 < 0) → vp_in y1 6 ∧ (((lg_cmp (((y2 : Int32).toInt64) + ((y3 : Int32).toInt64)) (((I 295 y1.toNatClampNeg) : Int32).toInt64)) < 0 → vp_in (((((60 : Int32) * y1) + y2) + y3)) 360 ∧ vp_in y3 12 ∧ (((lg_cmp (L 296 ((((((60 : Int32) * y1) + y2) + y3)).toNatClampNeg)) (((I 267 y3.toNatClampNeg) : Int32).toInt64)) = 0 → zSI C h0 K Y_X11_judge (d + 2) 35 [(0, .ref 265), (1, .int y1), (2, .int y2), (3, .int (y3 + 1))] [] I L M) ∧ (¬ ((lg_cmp (L 296 ((((((60 : Int32) * y1) + y2) + y3)).toNatClampNeg)) (((I 267 y3.toNatClampNeg) : Int32).toInt64)) = 0) → K y3 I L M))) ∧ (¬ ((lg_cmp (((y2 : Int32).toInt64) + ((y3 : Int32).toInt64)) (((I 295 y1.toNatClampNeg) : Int32).toInt64)) < 0) → K (((100 : Int32) + y3)) I L M))))))))) : zSI C h0 K Y_X11_judge (d + 2) 35 [(0, .ref 265), (1, .int y1), (2, .int y2), (3, .int y3)] [] I L M := by
  refine S_iload_n 3 dX11_judge_35 rfl rfl ?_
  refine S_bipush (v := 12) dX11_judge_36 (by decide) ?_
  refine S_icmp_ge (tgt := 108) dX11_judge_38 (by decide) (fun q1 => ?_) (fun q1 => ?_)
  · refine S_bipush (v := -5) dX11_judge_108 (by decide) ?_
    exact S_ireti rfl dX11_judge_110 ⟨_, I, L, M, rfl, rfl, (T.1 q1)⟩
  · refine S_aload_n 0 dX11_judge_41 rfl rfl ?_
    refine S_getP f_RX11_97 s_265 p_265_43 dX11_judge_42 ?_
    refine S_iload_n 1 dX11_judge_45 rfl rfl ?_
    refine S_iald s_294 (T.2 q1).1 dX11_judge_46 ?_
    refine S_iconst (v := -1) dX11_judge_47 (by decide) ?_
    refine S_icmp_eq (tgt := 71) dX11_judge_48 (by decide) (fun q2 => ?_) (fun q2 => ?_)
    · refine S_bipush (v := 100) dX11_judge_71 (by decide) ?_
      refine S_iload_n 3 dX11_judge_73 rfl rfl ?_
      refine S_iadd dX11_judge_74 ?_
      exact S_ireti rfl dX11_judge_75 ⟨_, I, L, M, rfl, rfl, ((T.2 q1).2.1 q2)⟩
    · refine S_iload_n 2 dX11_judge_51 rfl rfl ?_
      refine S_if_lt (tgt := 71) dX11_judge_52 (by decide) (fun q3 => ?_) (fun q3 => ?_)
      · refine S_bipush (v := 100) dX11_judge_71 (by decide) ?_
        refine S_iload_n 3 dX11_judge_73 rfl rfl ?_
        refine S_iadd dX11_judge_74 ?_
        exact S_ireti rfl dX11_judge_75 ⟨_, I, L, M, rfl, rfl, (((T.2 q1).2.2 q2).1 q3)⟩
      · refine S_iload_n 2 dX11_judge_55 rfl rfl ?_
        refine S_i2l dX11_judge_56 ?_
        refine S_iload_n 3 dX11_judge_57 rfl rfl ?_
        refine S_i2l dX11_judge_58 ?_
        refine S_ladd dX11_judge_59 ?_
        refine S_aload_n 0 dX11_judge_60 rfl rfl ?_
        refine S_getP f_RX11_100 s_265 p_265_44 dX11_judge_61 ?_
        refine S_iload_n 1 dX11_judge_64 rfl rfl ?_
        refine S_iald s_295 (((T.2 q1).2.2 q2).2 q3).1 dX11_judge_65 ?_
        refine S_i2l dX11_judge_66 ?_
        refine S_lcmp dX11_judge_67 ?_
        refine S_if_lt (tgt := 76) dX11_judge_68 (by decide) (fun q4 => ?_) (fun q4 => ?_)
        · refine S_aload_n 0 dX11_judge_76 rfl rfl ?_
          refine S_getP f_RX11_103 s_265 p_265_45 dX11_judge_77 ?_
          refine S_bipush (v := 60) dX11_judge_80 (by decide) ?_
          refine S_iload_n 1 dX11_judge_82 rfl rfl ?_
          refine S_imul dX11_judge_83 ?_
          refine S_iload_n 2 dX11_judge_84 rfl rfl ?_
          refine S_iadd dX11_judge_85 ?_
          refine S_iload_n 3 dX11_judge_86 rfl rfl ?_
          refine S_iadd dX11_judge_87 ?_
          refine S_lald s_296 ((((T.2 q1).2.2 q2).2 q3).2.1 q4).1 dX11_judge_88 ?_
          refine S_aload_n 0 dX11_judge_89 rfl rfl ?_
          refine S_getP f_RX11_15 s_265 p_265_1 dX11_judge_90 ?_
          refine S_iload_n 3 dX11_judge_93 rfl rfl ?_
          refine S_iald s_267 ((((T.2 q1).2.2 q2).2 q3).2.1 q4).2.1 dX11_judge_94 ?_
          refine S_i2l dX11_judge_95 ?_
          refine S_lcmp dX11_judge_96 ?_
          refine S_if_eq (tgt := 102) dX11_judge_97 (by decide) (fun q5 => ?_) (fun q5 => ?_)
          · refine S_iinc 3 dX11_judge_102 rfl rfl (by decide) rfl ?_
            refine S_goto (tgt := 35) dX11_judge_105 (by decide) ?_
            exact S_sub [1, 2, 3, 0] rfl (((((T.2 q1).2.2 q2).2 q3).2.1 q4).2.2.1 q5)
          · refine S_iload_n 3 dX11_judge_100 rfl rfl ?_
            exact S_ireti rfl dX11_judge_101 ⟨_, I, L, M, rfl, rfl, (((((T.2 q1).2.2 q2).2 q3).2.1 q4).2.2.2 q5)⟩
        · refine S_bipush (v := 100) dX11_judge_71 (by decide) ?_
          refine S_iload_n 3 dX11_judge_73 rfl rfl ?_
          refine S_iadd dX11_judge_74 ?_
          exact S_ireti rfl dX11_judge_75 ⟨_, I, L, M, rfl, rfl, ((((T.2 q1).2.2 q2).2 q3).2.2 q4)⟩

set_option maxRecDepth 100000 in
theorem t_X11_keepOf {C : zC} {I : Nat → Nat → Int32} {L : Nat → Nat → Int64} {M : Nat → Nat → Option Nat} (d : Nat)   (K : Int32 → (Nat → Nat → Int32) → (Nat → Nat → Int64) → (Nat → Nat → Option Nat) → Prop) (T : zSI C (zmk I L M) K Y_X11_keepOf (d + 1) 4 [(0, .ref 265), (1, .int 3), (2, .int 0)] [] I L M) : zCI C Y_X11_keepOf (d + 1) [.ref 265] (zmk I L M) K := by
  refine S_enter (by decide) (Nat.le_of_ble_eq_true rfl) ?_
  refine S_lv (lv' := [(0, .ref 265)]) rfl ?_
  refine S_iconst (v := 3) dX11_keepOf_0 (by decide) ?_
  refine S_istore_n dX11_keepOf_1 rfl (by decide) rfl ?_
  refine S_iconst (v := 0) dX11_keepOf_2 (by decide) ?_
  refine S_istore_n dX11_keepOf_3 rfl (by decide) rfl ?_
  exact S_sub [2, 1, 0] rfl T

set_option maxRecDepth 100000 in
theorem t_X11_keepOf_4 {C : zC} {I : Nat → Nat → Int32} {L : Nat → Nat → Int64} {M : Nat → Nat → Option Nat} {h0 : zH} (d : Nat)   (y1 : Int32) (y2 : Int32) (K : Int32 → (Nat → Nat → Int32) → (Nat → Nat → Int64) → (Nat → Nat → Option Nat) → Prop) (T : (((I 265 17) = (-1) → K y1 I L M) ∧ (¬ ((I 265 17) = (-1)) → vp_in ((I 265 17)) 6 ∧ (((I 275 (((I 265 17)).toNatClampNeg)) ≤ y2 → K y1 I L M) ∧ (¬ ((I 275 (((I 265 17)).toNatClampNeg)) ≤ y2) → vp_in ((((10 : Int32) * (I 265 17)) + y2)) 61 ∧ ((¬ (I 276 (((((10 : Int32) * (I 265 17)) + y2)).toNatClampNeg)) = 2 → zSI C h0 K Y_X11_keepOf (d + 1) 4 [(0, .ref 265), (1, .int y1), (2, .int (y2 + 1))] [] I L M) ∧ ((I 276 (((((10 : Int32) * (I 265 17)) + y2)).toNatClampNeg)) = 2 → vp_in ((((10 : Int32) * (I 265 17)) + y2)) 61 ∧ zSI C h0 K Y_X11_keepOf (d + 1) 4 [(0, .ref 265), (1, .int (I 277 (((((10 : Int32) * (I 265 17)) + y2)).toNatClampNeg))), (2, .int (y2 + 1))] [] I L M))))))) : zSI C h0 K Y_X11_keepOf (d + 1) 4 [(0, .ref 265), (1, .int y1), (2, .int y2)] [] I L M := by
  refine S_aload_n 0 dX11_keepOf_4 rfl rfl ?_
  refine S_getI f_RX11_107 s_265 dX11_keepOf_5 ?_
  refine S_iconst (v := -1) dX11_keepOf_8 (by decide) ?_
  refine S_icmp_eq (tgt := 64) dX11_keepOf_9 (by decide) (fun q1 => ?_) (fun q1 => ?_)
  · refine S_iload_n 1 dX11_keepOf_64 rfl rfl ?_
    exact S_ireti rfl dX11_keepOf_65 ⟨_, I, L, M, rfl, rfl, (T.1 q1)⟩
  · refine S_iload_n 2 dX11_keepOf_12 rfl rfl ?_
    refine S_aload_n 0 dX11_keepOf_13 rfl rfl ?_
    refine S_getP f_RX11_39 s_265 p_265_18 dX11_keepOf_14 ?_
    refine S_aload_n 0 dX11_keepOf_17 rfl rfl ?_
    refine S_getI f_RX11_107 s_265 dX11_keepOf_18 ?_
    refine S_iald s_275 (T.2 q1).1 dX11_keepOf_21 ?_
    refine S_icmp_ge (tgt := 64) dX11_keepOf_22 (by decide) (fun q2 => ?_) (fun q2 => ?_)
    · refine S_iload_n 1 dX11_keepOf_64 rfl rfl ?_
      exact S_ireti rfl dX11_keepOf_65 ⟨_, I, L, M, rfl, rfl, ((T.2 q1).2.1 q2)⟩
    · refine S_aload_n 0 dX11_keepOf_25 rfl rfl ?_
      refine S_getP f_RX11_42 s_265 p_265_19 dX11_keepOf_26 ?_
      refine S_bipush (v := 10) dX11_keepOf_29 (by decide) ?_
      refine S_aload_n 0 dX11_keepOf_31 rfl rfl ?_
      refine S_getI f_RX11_107 s_265 dX11_keepOf_32 ?_
      refine S_imul dX11_keepOf_35 ?_
      refine S_iload_n 2 dX11_keepOf_36 rfl rfl ?_
      refine S_iadd dX11_keepOf_37 ?_
      refine S_iald s_276 ((T.2 q1).2.2 q2).1 dX11_keepOf_38 ?_
      refine S_iconst (v := 2) dX11_keepOf_39 (by decide) ?_
      refine S_icmp_ne (tgt := 58) dX11_keepOf_40 (by decide) (fun q3 => ?_) (fun q3 => ?_)
      · refine S_iinc 2 dX11_keepOf_58 rfl rfl (by decide) rfl ?_
        refine S_goto (tgt := 4) dX11_keepOf_61 (by decide) ?_
        exact S_sub [1, 2, 0] rfl (((T.2 q1).2.2 q2).2.1 q3)
      · refine S_aload_n 0 dX11_keepOf_43 rfl rfl ?_
        refine S_getP f_RX11_45 s_265 p_265_20 dX11_keepOf_44 ?_
        refine S_bipush (v := 10) dX11_keepOf_47 (by decide) ?_
        refine S_aload_n 0 dX11_keepOf_49 rfl rfl ?_
        refine S_getI f_RX11_107 s_265 dX11_keepOf_50 ?_
        refine S_imul dX11_keepOf_53 ?_
        refine S_iload_n 2 dX11_keepOf_54 rfl rfl ?_
        refine S_iadd dX11_keepOf_55 ?_
        refine S_iald s_277 (((T.2 q1).2.2 q2).2.2 q3).1 dX11_keepOf_56 ?_
        refine S_istore_n dX11_keepOf_57 rfl (by decide) rfl ?_
        refine S_iinc 2 dX11_keepOf_58 rfl rfl (by decide) rfl ?_
        refine S_goto (tgt := 4) dX11_keepOf_61 (by decide) ?_
        exact S_sub [2, 1, 0] rfl (((T.2 q1).2.2 q2).2.2 q3).2

set_option maxRecDepth 100000 in
theorem t_X11_lasts {C : zC} {I : Nat → Nat → Int32} {L : Nat → Nat → Int64} {M : Nat → Nat → Option Nat} (d : Nat) (x1 : Int32) (x2 : Int32)  (K : Int32 → (Nat → Nat → Int32) → (Nat → Nat → Int64) → (Nat → Nat → Option Nat) → Prop) (T : ((¬ (0 ≤ x1 ∧ x1 ≤ I 265 2 - 1) → K ((-1)) I L M) ∧ ((0 ≤ x1 ∧ x1 ≤ I 265 2 - 1) → (((0 ≤ x2 ∧ x2 < 12) → vp_in x1 6 ∧ (((zhas ((I 270 x1.toNatClampNeg)) x2) → zCV C Y_X11_keep (d + 6) [.ref 265, .ref 292] (zmk I L M) (fun I1_4 L1_4 M1_4 => zSI C (zmk I L M) K Y_X11_lasts (d + 7) 47 [(0, .ref 265), (1, .int x1), (2, .int x2), (3, .int (-5)), (4, .int 1)] [] I1_4 L1_4 M1_4)) ∧ (¬ (zhas ((I 270 x1.toNatClampNeg)) x2) → K ((-5)) I L M))) ∧ (¬ (0 ≤ x2 ∧ x2 < 12) → K ((-1)) I L M))))) : zCI C Y_X11_lasts (d + 7) [.ref 265, .int x1, .int x2] (zmk I L M) K := by
  refine S_enter (by decide) (Nat.le_of_ble_eq_true rfl) ?_
  refine S_lv (lv' := [(0, .ref 265), (1, .int x1), (2, .int x2)]) rfl ?_
  refine S_aload_n 0 dX11_lasts_0 rfl rfl ?_
  refine S_iload_n 1 dX11_lasts_1 rfl rfl ?_
  refine S_callV [.int x1] [] m_RX11_118 rfl rfl s_265 ⟨rfl, by decide⟩ (Nat.le_of_ble_eq_true rfl) (zroom_0 (by decide)) dX11_lasts_2 (zpure (sp_X11_isOne (I := I) (L := L) (M := M) (d + 4) x1) ?_)
  refine S_if_eq (tgt := 15) dX11_lasts_5 (by decide) (fun q1 => ?_) (fun q1 => ?_)
  · refine S_iconst (v := -1) dX11_lasts_15 (by decide) ?_
    exact S_ireti rfl dX11_lasts_16 ⟨_, I, L, M, rfl, rfl, (T.1 (zb_f q1))⟩
  · refine S_iload_n 2 dX11_lasts_8 rfl rfl ?_
    refine S_callS [.int x2] [] m_RX11_122 rfl rfl (Nat.le_of_ble_eq_true rfl) (zroom_0 (by decide)) dX11_lasts_9 (zpure (sp_X11_isPurpose (I := I) (L := L) (M := M) (d + 4) x2) ?_)
    refine S_if_ne (tgt := 17) dX11_lasts_12 (by decide) (fun q2 => ?_) (fun q2 => ?_)
    · refine S_aload_n 0 dX11_lasts_17 rfl rfl ?_
      refine S_getP f_RX11_24 s_265 p_265_5 dX11_lasts_18 ?_
      refine S_iload_n 1 dX11_lasts_21 rfl rfl ?_
      refine S_iald s_270 ((T.2 (zb_t q1)).1 (zb_t q2)).1 dX11_lasts_22 ?_
      refine S_iload_n 2 dX11_lasts_23 rfl rfl ?_
      refine S_callS [.int (I 270 x1.toNatClampNeg), .int x2] [] m_RX11_139 rfl rfl (Nat.le_of_ble_eq_true rfl) (zroom_0 (by decide)) dX11_lasts_24 (zpure (sp_X11_has (I := I) (L := L) (M := M) (d + 5) ((I 270 x1.toNatClampNeg)) x2) ?_)
      refine S_if_ne (tgt := 33) dX11_lasts_27 (by decide) (fun q3 => ?_) (fun q3 => ?_)
      · refine S_aload_n 0 dX11_lasts_33 rfl rfl ?_
        refine S_aload_n 0 dX11_lasts_34 rfl rfl ?_
        refine S_getP f_RX11_91 s_265 p_265_41 dX11_lasts_35 ?_
        refine S_callV [.ref 292] [] m_RX11_269 rfl rfl s_265 ⟨rfl, by decide⟩ (Nat.le_of_ble_eq_true rfl) (zroom_0 (by decide)) dX11_lasts_38 (zCV_use (((T.2 (zb_t q1)).1 (zb_t q2)).2.1 (zb_t q3)) ?_)
        intro I1_4 L1_4 M1_4 T1_4
        refine S_bipush (v := -5) dX11_lasts_41 (by decide) ?_
        refine S_istore_n dX11_lasts_43 rfl (by decide) rfl ?_
        refine S_iconst (v := 1) dX11_lasts_44 (by decide) ?_
        refine S_istore dX11_lasts_45 (by decide) rfl ?_
        exact S_sub [2, 3, 4, 1, 0] rfl T1_4
      · refine S_bipush (v := -5) dX11_lasts_30 (by decide) ?_
        exact S_ireti rfl dX11_lasts_32 ⟨_, I, L, M, rfl, rfl, (((T.2 (zb_t q1)).1 (zb_t q2)).2.2 (zb_f q3))⟩
    · refine S_iconst (v := -1) dX11_lasts_15 (by decide) ?_
      exact S_ireti rfl dX11_lasts_16 ⟨_, I, L, M, rfl, rfl, ((T.2 (zb_t q1)).2 (zb_f q2))⟩

set_option maxRecDepth 100000 in
theorem t_X11_lasts_47 {C : zC} {I : Nat → Nat → Int32} {L : Nat → Nat → Int64} {M : Nat → Nat → Option Nat} {h0 : zH} (d : Nat)   (y1 : Int32) (y2 : Int32) (y3 : Int32) (y4 : Int32) (K : Int32 → (Nat → Nat → Int32) → (Nat → Nat → Int64) → (Nat → Nat → Option Nat) → Prop) (T : ((61 ≤ y4 → zCV C Y_X11_again (d + 6) [.ref 265, .ref 292] (zmk I L M) (fun I1_2 L1_2 M1_2 => K y3 I1_2 L1_2 M1_2)) ∧ (¬ (61 ≤ y4) → ((¬ y3 = (-5) → zCV C Y_X11_again (d + 6) [.ref 265, .ref 292] (zmk I L M) (fun I2_3 L2_3 M2_3 => K y3 I2_3 L2_3 M2_3)) ∧ (y3 = (-5) → zCV C Y_X11_goesNight (d + 6) [.ref 265] (zmk I L M) (fun I3_3 L3_3 M3_3 => vp_in y1 6 ∧ (((zhas ((I3_3 270 y1.toNatClampNeg)) y2) → zSI C h0 K Y_X11_lasts (d + 7) 47 [(0, .ref 265), (1, .int y1), (2, .int y2), (3, .int y3), (4, .int (y4 + 1))] [] I3_3 L3_3 M3_3) ∧ (¬ (zhas ((I3_3 270 y1.toNatClampNeg)) y2) → zSI C h0 K Y_X11_lasts (d + 7) 47 [(0, .ref 265), (1, .int y1), (2, .int y2), (3, .int y4), (4, .int (y4 + 1))] [] I3_3 L3_3 M3_3)))))))) : zSI C h0 K Y_X11_lasts (d + 7) 47 [(0, .ref 265), (1, .int y1), (2, .int y2), (3, .int y3), (4, .int y4)] [] I L M := by
  refine S_iload 4 dX11_lasts_47 rfl ?_
  refine S_bipush (v := 61) dX11_lasts_49 (by decide) ?_
  refine S_icmp_ge (tgt := 86) dX11_lasts_51 (by decide) (fun q1 => ?_) (fun q1 => ?_)
  · refine S_aload_n 0 dX11_lasts_86 rfl rfl ?_
    refine S_aload_n 0 dX11_lasts_87 rfl rfl ?_
    refine S_getP f_RX11_91 s_265 p_265_41 dX11_lasts_88 ?_
    refine S_callV [.ref 292] [] m_RX11_273 rfl rfl s_265 ⟨rfl, by decide⟩ (Nat.le_of_ble_eq_true rfl) (zroom_0 (by decide)) dX11_lasts_91 (zCV_use (T.1 q1) ?_)
    intro I1_2 L1_2 M1_2 T1_2
    refine S_iload_n 3 dX11_lasts_94 rfl rfl ?_
    exact S_ireti rfl dX11_lasts_95 ⟨_, I1_2, L1_2, M1_2, rfl, rfl, T1_2⟩
  · refine S_iload_n 3 dX11_lasts_54 rfl rfl ?_
    refine S_bipush (v := -5) dX11_lasts_55 (by decide) ?_
    refine S_icmp_ne (tgt := 86) dX11_lasts_57 (by decide) (fun q2 => ?_) (fun q2 => ?_)
    · refine S_aload_n 0 dX11_lasts_86 rfl rfl ?_
      refine S_aload_n 0 dX11_lasts_87 rfl rfl ?_
      refine S_getP f_RX11_91 s_265 p_265_41 dX11_lasts_88 ?_
      refine S_callV [.ref 292] [] m_RX11_273 rfl rfl s_265 ⟨rfl, by decide⟩ (Nat.le_of_ble_eq_true rfl) (zroom_0 (by decide)) dX11_lasts_91 (zCV_use ((T.2 q1).1 q2) ?_)
      intro I2_3 L2_3 M2_3 T2_3
      refine S_iload_n 3 dX11_lasts_94 rfl rfl ?_
      exact S_ireti rfl dX11_lasts_95 ⟨_, I2_3, L2_3, M2_3, rfl, rfl, T2_3⟩
    · refine S_aload_n 0 dX11_lasts_60 rfl rfl ?_
      refine S_callV [] [] m_RX11_266 rfl rfl s_265 ⟨rfl, by decide⟩ (Nat.le_of_ble_eq_true rfl) (zroom_0 (by decide)) dX11_lasts_61 (zCV_use ((T.2 q1).2 q2) ?_)
      intro I3_3 L3_3 M3_3 T3_3
      refine S_aload_n 0 dX11_lasts_64 rfl rfl ?_
      refine S_getP f_RX11_24 s_265 p_265_5 dX11_lasts_65 ?_
      refine S_iload_n 1 dX11_lasts_68 rfl rfl ?_
      refine S_iald s_270 T3_3.1 dX11_lasts_69 ?_
      refine S_iload_n 2 dX11_lasts_70 rfl rfl ?_
      refine S_callS [.int (I3_3 270 y1.toNatClampNeg), .int y2] [] m_RX11_139 rfl rfl (Nat.le_of_ble_eq_true rfl) (zroom_0 (by decide)) dX11_lasts_71 (zpure (sp_X11_has (I := I3_3) (L := L3_3) (M := M3_3) (d + 5) ((I3_3 270 y1.toNatClampNeg)) y2) ?_)
      refine S_if_ne (tgt := 80) dX11_lasts_74 (by decide) (fun q3 => ?_) (fun q3 => ?_)
      · refine S_iinc 4 dX11_lasts_80 rfl rfl (by decide) rfl ?_
        refine S_goto (tgt := 47) dX11_lasts_83 (by decide) ?_
        exact S_sub [1, 2, 3, 4, 0] rfl (T3_3.2.1 (zb_t q3))
      · refine S_iload 4 dX11_lasts_77 rfl ?_
        refine S_istore_n dX11_lasts_79 rfl (by decide) rfl ?_
        refine S_iinc 4 dX11_lasts_80 rfl rfl (by decide) rfl ?_
        refine S_goto (tgt := 47) dX11_lasts_83 (by decide) ?_
        exact S_sub [2, 3, 4, 1, 0] rfl (T3_3.2.2 (zb_f q3))

set_option maxRecDepth 100000 in
theorem t_X11_looked {C : zC} {I : Nat → Nat → Int32} {L : Nat → Nat → Int64} {M : Nat → Nat → Option Nat} (d : Nat)   (K : Int32 → (Nat → Nat → Int32) → (Nat → Nat → Int64) → (Nat → Nat → Option Nat) → Prop) (T : zSI C (zmk I L M) K Y_X11_looked (d + 1) 2 [(0, .ref 265), (1, .int 0)] [] I L M) : zCI C Y_X11_looked (d + 1) [.ref 265] (zmk I L M) K := by
  refine S_enter (by decide) (Nat.le_of_ble_eq_true rfl) ?_
  refine S_lv (lv' := [(0, .ref 265)]) rfl ?_
  refine S_iconst (v := 0) dX11_looked_0 (by decide) ?_
  refine S_istore_n dX11_looked_1 rfl (by decide) rfl ?_
  exact S_sub [1, 0] rfl T

set_option maxRecDepth 100000 in
theorem t_X11_looked_2 {C : zC} {I : Nat → Nat → Int32} {L : Nat → Nat → Int64} {M : Nat → Nat → Option Nat} {h0 : zH} (d : Nat)   (y1 : Int32) (K : Int32 → (Nat → Nat → Int32) → (Nat → Nat → Int64) → (Nat → Nat → Option Nat) → Prop) (T : (((I 265 34) ≤ y1 → K ((-5)) I L M) ∧ (¬ ((I 265 34) ≤ y1) → vp_in y1 8 ∧ vp_in ((I 288 y1.toNatClampNeg)) 12 ∧ vp_in y1 8 ∧ (((I 267 (((I 288 y1.toNatClampNeg)).toNatClampNeg)) = (I 289 y1.toNatClampNeg) → zSI C h0 K Y_X11_looked (d + 1) 2 [(0, .ref 265), (1, .int (y1 + 1))] [] I L M) ∧ (¬ ((I 267 (((I 288 y1.toNatClampNeg)).toNatClampNeg)) = (I 289 y1.toNatClampNeg)) → K y1 I L M))))) : zSI C h0 K Y_X11_looked (d + 1) 2 [(0, .ref 265), (1, .int y1)] [] I L M := by
  refine S_iload_n 1 dX11_looked_2 rfl rfl ?_
  refine S_aload_n 0 dX11_looked_3 rfl rfl ?_
  refine S_getI f_RX11_307 s_265 dX11_looked_4 ?_
  refine S_icmp_ge (tgt := 38) dX11_looked_7 (by decide) (fun q1 => ?_) (fun q1 => ?_)
  · refine S_bipush (v := -5) dX11_looked_38 (by decide) ?_
    exact S_ireti rfl dX11_looked_40 ⟨_, I, L, M, rfl, rfl, (T.1 q1)⟩
  · refine S_aload_n 0 dX11_looked_10 rfl rfl ?_
    refine S_getP f_RX11_15 s_265 p_265_1 dX11_looked_11 ?_
    refine S_aload_n 0 dX11_looked_14 rfl rfl ?_
    refine S_getP f_RX11_79 s_265 p_265_35 dX11_looked_15 ?_
    refine S_iload_n 1 dX11_looked_18 rfl rfl ?_
    refine S_iald s_288 (T.2 q1).1 dX11_looked_19 ?_
    refine S_iald s_267 (T.2 q1).2.1 dX11_looked_20 ?_
    refine S_aload_n 0 dX11_looked_21 rfl rfl ?_
    refine S_getP f_RX11_82 s_265 p_265_36 dX11_looked_22 ?_
    refine S_iload_n 1 dX11_looked_25 rfl rfl ?_
    refine S_iald s_289 (T.2 q1).2.2.1 dX11_looked_26 ?_
    refine S_icmp_eq (tgt := 32) dX11_looked_27 (by decide) (fun q2 => ?_) (fun q2 => ?_)
    · refine S_iinc 1 dX11_looked_32 rfl rfl (by decide) rfl ?_
      refine S_goto (tgt := 2) dX11_looked_35 (by decide) ?_
      exact S_sub [1, 0] rfl ((T.2 q1).2.2.2.1 q2)
    · refine S_iload_n 1 dX11_looked_30 rfl rfl ?_
      exact S_ireti rfl dX11_looked_31 ⟨_, I, L, M, rfl, rfl, ((T.2 q1).2.2.2.2 q2)⟩

set_option maxRecDepth 100000 in
theorem t_X11_mayGive {C : zC} {I : Nat → Nat → Int32} {L : Nat → Nat → Int64} {M : Nat → Nat → Option Nat} (d : Nat) (x1 : Int32) (x2 : Int32)  (K : Int32 → (Nat → Nat → Int32) → (Nat → Nat → Int64) → (Nat → Nat → Option Nat) → Prop) (T : vp_in x1 6 ∧ vp_in x2 6 ∧ vp_in x2 6 ∧ K ((((I 270 x1.toNatClampNeg) &&& (I 271 x2.toNatClampNeg)) &&& ((I 270 x2.toNatClampNeg) ^^^ (-1 : Int32)))) I L M) : zCI C Y_X11_mayGive (d + 1) [.ref 265, .int x1, .int x2] (zmk I L M) K := by
  refine S_enter (by decide) (Nat.le_of_ble_eq_true rfl) ?_
  refine S_lv (lv' := [(0, .ref 265), (1, .int x1), (2, .int x2)]) rfl ?_
  refine S_aload_n 0 dX11_mayGive_0 rfl rfl ?_
  refine S_getP f_RX11_24 s_265 p_265_5 dX11_mayGive_1 ?_
  refine S_iload_n 1 dX11_mayGive_4 rfl rfl ?_
  refine S_iald s_270 T.1 dX11_mayGive_5 ?_
  refine S_aload_n 0 dX11_mayGive_6 rfl rfl ?_
  refine S_getP f_RX11_27 s_265 p_265_6 dX11_mayGive_7 ?_
  refine S_iload_n 2 dX11_mayGive_10 rfl rfl ?_
  refine S_iald s_271 T.2.1 dX11_mayGive_11 ?_
  refine S_iand dX11_mayGive_12 ?_
  refine S_aload_n 0 dX11_mayGive_13 rfl rfl ?_
  refine S_getP f_RX11_24 s_265 p_265_5 dX11_mayGive_14 ?_
  refine S_iload_n 2 dX11_mayGive_17 rfl rfl ?_
  refine S_iald s_270 T.2.2.1 dX11_mayGive_18 ?_
  refine S_iconst (v := -1) dX11_mayGive_19 (by decide) ?_
  refine S_ixor dX11_mayGive_20 ?_
  refine S_iand dX11_mayGive_21 ?_
  exact S_ireti rfl dX11_mayGive_22 ⟨_, I, L, M, rfl, rfl, T.2.2.2⟩

set_option maxRecDepth 100000 in
theorem t_X11_meant {C : zC} {I : Nat → Nat → Int32} {L : Nat → Nat → Int64} {M : Nat → Nat → Option Nat} (d : Nat) (x1 : Int32) (x2 : Int32)  (K : Int32 → (Nat → Nat → Int32) → (Nat → Nat → Int64) → (Nat → Nat → Option Nat) → Prop) (T : ((¬ (0 ≤ x1 ∧ x1 ≤ I 265 2 - 1) → K ((-1)) I L M) ∧ ((0 ≤ x1 ∧ x1 ≤ I 265 2 - 1) → ((((0 : Int32) ≤ x2 ∧ x2 ≤ 1) → vp_in x1 6 ∧ zSI C (zmk I L M) K Y_X11_meant (d + 8) 38 [(0, .ref 265), (1, .int x1), (2, .int x2), (3, .int (I 270 x1.toNatClampNeg)), (4, .int 0), (5, .int (-5)), (6, .int 4095)] [] I L M) ∧ (¬ ((0 : Int32) ≤ x2 ∧ x2 ≤ 1) → K ((-1)) I L M))))) : zCI C Y_X11_meant (d + 8) [.ref 265, .int x1, .int x2] (zmk I L M) K := by
  refine S_enter (by decide) (Nat.le_of_ble_eq_true rfl) ?_
  refine S_lv (lv' := [(0, .ref 265), (1, .int x1), (2, .int x2)]) rfl ?_
  refine S_aload_n 0 dX11_meant_0 rfl rfl ?_
  refine S_iload_n 1 dX11_meant_1 rfl rfl ?_
  refine S_callV [.int x1] [] m_RX11_118 rfl rfl s_265 ⟨rfl, by decide⟩ (Nat.le_of_ble_eq_true rfl) (zroom_0 (by decide)) dX11_meant_2 (zpure (sp_X11_isOne (I := I) (L := L) (M := M) (d + 5) x1) ?_)
  refine S_if_eq (tgt := 17) dX11_meant_5 (by decide) (fun q1 => ?_) (fun q1 => ?_)
  · refine S_iconst (v := -1) dX11_meant_17 (by decide) ?_
    exact S_ireti rfl dX11_meant_18 ⟨_, I, L, M, rfl, rfl, (T.1 (zb_f q1))⟩
  · refine S_iload_n 2 dX11_meant_8 rfl rfl ?_
    refine S_iconst (v := 0) dX11_meant_9 (by decide) ?_
    refine S_iconst (v := 1) dX11_meant_10 (by decide) ?_
    refine S_callS [.int x2, .int 0, .int 1] [] m_RX11_114 rfl rfl (Nat.le_of_ble_eq_true rfl) (zroom_0 (by decide)) dX11_meant_11 (zpure (sp_X11_within (I := I) (L := L) (M := M) (d + 6) x2 0 1) ?_)
    refine S_if_ne (tgt := 19) dX11_meant_14 (by decide) (fun q2 => ?_) (fun q2 => ?_)
    · refine S_aload_n 0 dX11_meant_19 rfl rfl ?_
      refine S_getP f_RX11_24 s_265 p_265_5 dX11_meant_20 ?_
      refine S_iload_n 1 dX11_meant_23 rfl rfl ?_
      refine S_iald s_270 ((T.2 (zb_t q1)).1 (zb_t q2)).1 dX11_meant_24 ?_
      refine S_istore_n dX11_meant_25 rfl (by decide) rfl ?_
      refine S_iconst (v := 0) dX11_meant_26 (by decide) ?_
      refine S_istore dX11_meant_27 (by decide) rfl ?_
      refine S_bipush (v := -5) dX11_meant_29 (by decide) ?_
      refine S_istore dX11_meant_31 (by decide) rfl ?_
      refine S_sipush (v := 4095) dX11_meant_33 (by decide) ?_
      refine S_istore dX11_meant_36 (by decide) rfl ?_
      exact S_sub [4, 5, 6, 3, 2, 1, 0] rfl ((T.2 (zb_t q1)).1 (zb_t q2)).2
    · refine S_iconst (v := -1) dX11_meant_17 (by decide) ?_
      exact S_ireti rfl dX11_meant_18 ⟨_, I, L, M, rfl, rfl, ((T.2 (zb_t q1)).2 (zb_f q2))⟩

set_option maxRecDepth 100000 in
theorem t_X11_meant_38 {C : zC} {I : Nat → Nat → Int32} {L : Nat → Nat → Int64} {M : Nat → Nat → Option Nat} {h0 : zH} (d : Nat)   (y1 : Int32) (y2 : Int32) (y3 : Int32) (y4 : Int32) (y5 : Int32) (y6 : Int32) (K : Int32 → (Nat → Nat → Int32) → (Nat → Nat → Int64) → (Nat → Nat → Option Nat) → Prop) (T : ((y6 < 0 → vp_in y1 6 ∧ ((¬ y2 = 0 → K y5 (u2 I 270 y1.toNatClampNeg y3) L M) ∧ (y2 = 0 → K y4 (u2 I 270 y1.toNatClampNeg y3) L M))) ∧ (¬ (y6 < 0) → vp_in y1 6 ∧ zCI C Y_X11_isSeen (d + 7) [.ref 265, .int y1] (zmk (u2 I 270 y1.toNatClampNeg y6) L M) (fun r1_2 I1_2 L1_2 M1_2 => ((¬ r1_2 = 0 → zSI C h0 K Y_X11_meant (d + 8) 38 [(0, .ref 265), (1, .int y1), (2, .int y2), (3, .int y3), (4, .int (y4 + 1)), (5, .int y6), (6, .int (y6 + (-1)))] [] I1_2 L1_2 M1_2) ∧ (r1_2 = 0 → zSI C h0 K Y_X11_meant (d + 8) 38 [(0, .ref 265), (1, .int y1), (2, .int y2), (3, .int y3), (4, .int y4), (5, .int y5), (6, .int (y6 + (-1)))] [] I1_2 L1_2 M1_2)))))) : zSI C h0 K Y_X11_meant (d + 8) 38 [(0, .ref 265), (1, .int y1), (2, .int y2), (3, .int y3), (4, .int y4), (5, .int y5), (6, .int y6)] [] I L M := by
  refine S_iload 6 dX11_meant_38 rfl ?_
  refine S_if_lt (tgt := 75) dX11_meant_40 (by decide) (fun q1 => ?_) (fun q1 => ?_)
  · refine S_aload_n 0 dX11_meant_75 rfl rfl ?_
    refine S_getP f_RX11_24 s_265 p_265_5 dX11_meant_76 ?_
    refine S_iload_n 1 dX11_meant_79 rfl rfl ?_
    refine S_iload_n 3 dX11_meant_80 rfl rfl ?_
    refine S_iast s_270 (T.1 q1).1 dX11_meant_81 ?_
    refine S_iload_n 2 dX11_meant_82 rfl rfl ?_
    refine S_if_ne (tgt := 91) dX11_meant_83 (by decide) (fun q2 => ?_) (fun q2 => ?_)
    · refine S_iload 5 dX11_meant_91 rfl ?_
      exact S_ireti rfl dX11_meant_93 ⟨_, u2 I 270 y1.toNatClampNeg y3, L, M, rfl, rfl, ((T.1 q1).2.1 q2)⟩
    · refine S_iload 4 dX11_meant_86 rfl ?_
      refine S_goto (tgt := 93) dX11_meant_88 (by decide) ?_
      exact S_ireti rfl dX11_meant_93 ⟨_, u2 I 270 y1.toNatClampNeg y3, L, M, rfl, rfl, ((T.1 q1).2.2 q2)⟩
  · refine S_aload_n 0 dX11_meant_43 rfl rfl ?_
    refine S_getP f_RX11_24 s_265 p_265_5 dX11_meant_44 ?_
    refine S_iload_n 1 dX11_meant_47 rfl rfl ?_
    refine S_iload 6 dX11_meant_48 rfl ?_
    refine S_iast s_270 (T.2 q1).1 dX11_meant_50 ?_
    refine S_aload_n 0 dX11_meant_51 rfl rfl ?_
    refine S_iload_n 1 dX11_meant_52 rfl rfl ?_
    refine S_callV [.int y1] [] m_RX11_287 rfl rfl s_265 ⟨rfl, by decide⟩ (Nat.le_of_ble_eq_true rfl) (zroom_0 (by decide)) dX11_meant_53 (zCI_use (T.2 q1).2 ?_)
    intro r1_2 I1_2 L1_2 M1_2 T1_2
    refine S_if_ne (tgt := 62) dX11_meant_56 (by decide) (fun q2 => ?_) (fun q2 => ?_)
    · refine S_iinc 4 dX11_meant_62 rfl rfl (by decide) rfl ?_
      refine S_iload 6 dX11_meant_65 rfl ?_
      refine S_istore dX11_meant_67 (by decide) rfl ?_
      refine S_iinc 6 dX11_meant_69 rfl rfl (by decide) rfl ?_
      refine S_goto (tgt := 38) dX11_meant_72 (by decide) ?_
      exact S_sub [3, 4, 5, 6, 2, 1, 0] rfl (T1_2.1 q2)
    · refine S_goto (tgt := 69) dX11_meant_59 (by decide) ?_
      refine S_iinc 6 dX11_meant_69 rfl rfl (by decide) rfl ?_
      refine S_goto (tgt := 38) dX11_meant_72 (by decide) ?_
      exact S_sub [1, 2, 3, 4, 5, 6, 0] rfl (T1_2.2 q2)

set_option maxRecDepth 100000 in
theorem t_X11_on {C : zC} {I : Nat → Nat → Int32} {L : Nat → Nat → Int64} {M : Nat → Nat → Option Nat} (d : Nat) (x1 : Int32) (x2 : Int32)  (K : Int32 → (Nat → Nat → Int32) → (Nat → Nat → Int64) → (Nat → Nat → Option Nat) → Prop) (T : ((x2 = 0 → zSI C (zmk I L M) K Y_X11_on (d + 7) 27 [(0, .ref 265), (1, .int x1), (2, .int x2)] [] I L M) ∧ (¬ (x2 = 0) → (((0 ≤ (x2 - (10 : Int32)) ∧ (x2 - (10 : Int32)) < 12) → zSI C (zmk I L M) K Y_X11_on (d + 7) 27 [(0, .ref 265), (1, .int x1), (2, .int x2)] [] I L M) ∧ (¬ (0 ≤ (x2 - (10 : Int32)) ∧ (x2 - (10 : Int32)) < 12) → (((0 ≤ (x2 - (30 : Int32)) ∧ (x2 - (30 : Int32)) ≤ I 265 2 - 1) → zSI C (zmk I L M) K Y_X11_on (d + 7) 27 [(0, .ref 265), (1, .int x1), (2, .int x2)] [] I L M) ∧ (¬ (0 ≤ (x2 - (30 : Int32)) ∧ (x2 - (30 : Int32)) ≤ I 265 2 - 1) → K ((-1)) I L M))))))) : zCI C Y_X11_on (d + 7) [.ref 265, .int x1, .int x2] (zmk I L M) K := by
  refine S_enter (by decide) (Nat.le_of_ble_eq_true rfl) ?_
  refine S_lv (lv' := [(0, .ref 265), (1, .int x1), (2, .int x2)]) rfl ?_
  refine S_iload_n 2 dX11_on_0 rfl rfl ?_
  refine S_if_eq (tgt := 27) dX11_on_1 (by decide) (fun q1 => ?_) (fun q1 => ?_)
  · exact S_sub [0, 1, 2] rfl (T.1 q1)
  · refine S_iload_n 2 dX11_on_4 rfl rfl ?_
    refine S_bipush (v := 10) dX11_on_5 (by decide) ?_
    refine S_isub dX11_on_7 ?_
    refine S_callS [.int (x2 - (10 : Int32))] [] m_RX11_122 rfl rfl (Nat.le_of_ble_eq_true rfl) (zroom_0 (by decide)) dX11_on_8 (zpure (sp_X11_isPurpose (I := I) (L := L) (M := M) (d + 4) ((x2 - (10 : Int32)))) ?_)
    refine S_if_ne (tgt := 27) dX11_on_11 (by decide) (fun q2 => ?_) (fun q2 => ?_)
    · exact S_sub [0, 1, 2] rfl ((T.2 q1).1 (zb_t q2))
    · refine S_aload_n 0 dX11_on_14 rfl rfl ?_
      refine S_iload_n 2 dX11_on_15 rfl rfl ?_
      refine S_bipush (v := 30) dX11_on_16 (by decide) ?_
      refine S_isub dX11_on_18 ?_
      refine S_callV [.int (x2 - (30 : Int32))] [] m_RX11_118 rfl rfl s_265 ⟨rfl, by decide⟩ (Nat.le_of_ble_eq_true rfl) (zroom_0 (by decide)) dX11_on_19 (zpure (sp_X11_isOne (I := I) (L := L) (M := M) (d + 4) ((x2 - (30 : Int32)))) ?_)
      refine S_if_ne (tgt := 27) dX11_on_22 (by decide) (fun q3 => ?_) (fun q3 => ?_)
      · exact S_sub [0, 1, 2] rfl (((T.2 q1).2 (zb_f q2)).1 (zb_t q3))
      · refine S_iconst (v := -1) dX11_on_25 (by decide) ?_
        exact S_ireti rfl dX11_on_26 ⟨_, I, L, M, rfl, rfl, (((T.2 q1).2 (zb_f q2)).2 (zb_f q3))⟩

set_option maxRecDepth 100000 in
theorem t_X11_on_27 {C : zC} {I : Nat → Nat → Int32} {L : Nat → Nat → Int64} {M : Nat → Nat → Option Nat} {h0 : zH} (d : Nat)   (y1 : Int32) (y2 : Int32) (K : Int32 → (Nat → Nat → Int32) → (Nat → Nat → Int64) → (Nat → Nat → Option Nat) → Prop) (T : ((((0 : Int32) ≤ y1 ∧ y1 ≤ 60) → zCV C Y_X11_keep (d + 6) [.ref 265, .ref 292] (zmk I L M) (fun I1_2 L1_2 M1_2 => zSI C h0 K Y_X11_on (d + 7) 50 [(0, .ref 265), (1, .int y1), (2, .int y2), (3, .int 0)] [] I1_2 L1_2 M1_2)) ∧ (¬ ((0 : Int32) ≤ y1 ∧ y1 ≤ 60) → K ((-2)) I L M))) : zSI C h0 K Y_X11_on (d + 7) 27 [(0, .ref 265), (1, .int y1), (2, .int y2)] [] I L M := by
  refine S_iload_n 1 dX11_on_27 rfl rfl ?_
  refine S_iconst (v := 0) dX11_on_28 (by decide) ?_
  refine S_bipush (v := 60) dX11_on_29 (by decide) ?_
  refine S_callS [.int y1, .int 0, .int 60] [] m_RX11_114 rfl rfl (Nat.le_of_ble_eq_true rfl) (zroom_0 (by decide)) dX11_on_31 (zpure (sp_X11_within (I := I) (L := L) (M := M) (d + 5) y1 0 60) ?_)
  refine S_if_ne (tgt := 40) dX11_on_34 (by decide) (fun q1 => ?_) (fun q1 => ?_)
  · refine S_aload_n 0 dX11_on_40 rfl rfl ?_
    refine S_aload_n 0 dX11_on_41 rfl rfl ?_
    refine S_getP f_RX11_91 s_265 p_265_41 dX11_on_42 ?_
    refine S_callV [.ref 292] [] m_RX11_269 rfl rfl s_265 ⟨rfl, by decide⟩ (Nat.le_of_ble_eq_true rfl) (zroom_0 (by decide)) dX11_on_45 (zCV_use (T.1 (zb_t q1)) ?_)
    intro I1_2 L1_2 M1_2 T1_2
    refine S_iconst (v := 0) dX11_on_48 (by decide) ?_
    refine S_istore_n dX11_on_49 rfl (by decide) rfl ?_
    exact S_sub [1, 2, 3, 0] rfl T1_2
  · refine S_bipush (v := -2) dX11_on_37 (by decide) ?_
    exact S_ireti rfl dX11_on_39 ⟨_, I, L, M, rfl, rfl, (T.2 (zb_f q1))⟩

set_option maxRecDepth 100000 in
theorem t_X11_on_50 {C : zC} {I : Nat → Nat → Int32} {L : Nat → Nat → Int64} {M : Nat → Nat → Option Nat} {h0 : zH} (d : Nat)   (y1 : Int32) (y2 : Int32) (y3 : Int32) (K : Int32 → (Nat → Nat → Int32) → (Nat → Nat → Int64) → (Nat → Nat → Option Nat) → Prop) (T : ((y1 ≤ y3 → ((¬ y2 = 0 → ((30 ≤ y2 → vp_in ((y2 - (30 : Int32))) 6 ∧ zCV C Y_X11_again (d + 6) [.ref 265, .ref 292] (zmk I L M) (fun I1_4 L1_4 M1_4 => K ((I 270 (((y2 - (30 : Int32))).toNatClampNeg))) I1_4 L1_4 M1_4)) ∧ (¬ (30 ≤ y2) → vp_in ((y2 - (10 : Int32))) 12 ∧ zCV C Y_X11_again (d + 6) [.ref 265, .ref 292] (zmk I L M) (fun I2_4 L2_4 M2_4 => K ((I 267 (((y2 - (10 : Int32))).toNatClampNeg))) I2_4 L2_4 M2_4)))) ∧ (y2 = 0 → zCI C Y_X11_allMean (d + 6) [.ref 265] (zmk I L M) (fun r3_3 I3_3 L3_3 M3_3 => zCV C Y_X11_again (d + 6) [.ref 265, .ref 292] (zmk I3_3 L3_3 M3_3) (fun I4_3 L4_3 M4_3 => K r3_3 I4_3 L4_3 M4_3))))) ∧ (¬ (y1 ≤ y3) → zCV C Y_X11_goesNight (d + 6) [.ref 265] (zmk I L M) (fun I5_2 L5_2 M5_2 => zSI C h0 K Y_X11_on (d + 7) 50 [(0, .ref 265), (1, .int y1), (2, .int y2), (3, .int (y3 + 1))] [] I5_2 L5_2 M5_2)))) : zSI C h0 K Y_X11_on (d + 7) 50 [(0, .ref 265), (1, .int y1), (2, .int y2), (3, .int y3)] [] I L M := by
  refine S_iload_n 3 dX11_on_50 rfl rfl ?_
  refine S_iload_n 1 dX11_on_51 rfl rfl ?_
  refine S_icmp_ge (tgt := 65) dX11_on_52 (by decide) (fun q1 => ?_) (fun q1 => ?_)
  · refine S_iload_n 2 dX11_on_65 rfl rfl ?_
    refine S_if_ne (tgt := 76) dX11_on_66 (by decide) (fun q2 => ?_) (fun q2 => ?_)
    · refine S_iload_n 2 dX11_on_76 rfl rfl ?_
      refine S_bipush (v := 30) dX11_on_77 (by decide) ?_
      refine S_icmp_ge (tgt := 94) dX11_on_79 (by decide) (fun q3 => ?_) (fun q3 => ?_)
      · refine S_aload_n 0 dX11_on_94 rfl rfl ?_
        refine S_getP f_RX11_24 s_265 p_265_5 dX11_on_95 ?_
        refine S_iload_n 2 dX11_on_98 rfl rfl ?_
        refine S_bipush (v := 30) dX11_on_99 (by decide) ?_
        refine S_isub dX11_on_101 ?_
        refine S_iald s_270 (((T.1 q1).1 q2).1 q3).1 dX11_on_102 ?_
        refine S_istore_n dX11_on_103 rfl (by decide) rfl ?_
        refine S_aload_n 1 dX11_on_104 rfl rfl ?_
        refine S_aload_n 1 dX11_on_105 rfl rfl ?_
        refine S_getP f_RX11_91 s_265 p_265_41 dX11_on_106 ?_
        refine S_callV [.ref 292] [] m_RX11_273 rfl rfl s_265 ⟨rfl, by decide⟩ (Nat.le_of_ble_eq_true rfl) (zroom_0 (by decide)) dX11_on_109 (zCV_use (((T.1 q1).1 q2).1 q3).2 ?_)
        intro I1_4 L1_4 M1_4 T1_4
        refine S_iload_n 0 dX11_on_112 rfl rfl ?_
        exact S_ireti rfl dX11_on_113 ⟨_, I1_4, L1_4, M1_4, rfl, rfl, T1_4⟩
      · refine S_aload_n 0 dX11_on_82 rfl rfl ?_
        refine S_getP f_RX11_15 s_265 p_265_1 dX11_on_83 ?_
        refine S_iload_n 2 dX11_on_86 rfl rfl ?_
        refine S_bipush (v := 10) dX11_on_87 (by decide) ?_
        refine S_isub dX11_on_89 ?_
        refine S_iald s_267 (((T.1 q1).1 q2).2 q3).1 dX11_on_90 ?_
        refine S_goto (tgt := 103) dX11_on_91 (by decide) ?_
        refine S_istore_n dX11_on_103 rfl (by decide) rfl ?_
        refine S_aload_n 1 dX11_on_104 rfl rfl ?_
        refine S_aload_n 1 dX11_on_105 rfl rfl ?_
        refine S_getP f_RX11_91 s_265 p_265_41 dX11_on_106 ?_
        refine S_callV [.ref 292] [] m_RX11_273 rfl rfl s_265 ⟨rfl, by decide⟩ (Nat.le_of_ble_eq_true rfl) (zroom_0 (by decide)) dX11_on_109 (zCV_use (((T.1 q1).1 q2).2 q3).2 ?_)
        intro I2_4 L2_4 M2_4 T2_4
        refine S_iload_n 0 dX11_on_112 rfl rfl ?_
        exact S_ireti rfl dX11_on_113 ⟨_, I2_4, L2_4, M2_4, rfl, rfl, T2_4⟩
    · refine S_aload_n 0 dX11_on_69 rfl rfl ?_
      refine S_callV [] [] m_RX11_257 rfl rfl s_265 ⟨rfl, by decide⟩ (Nat.le_of_ble_eq_true rfl) (zroom_0 (by decide)) dX11_on_70 (zCI_use ((T.1 q1).2 q2) ?_)
      intro r3_3 I3_3 L3_3 M3_3 T3_3
      refine S_goto (tgt := 103) dX11_on_73 (by decide) ?_
      refine S_istore_n dX11_on_103 rfl (by decide) rfl ?_
      refine S_aload_n 1 dX11_on_104 rfl rfl ?_
      refine S_aload_n 1 dX11_on_105 rfl rfl ?_
      refine S_getP f_RX11_91 s_265 p_265_41 dX11_on_106 ?_
      refine S_callV [.ref 292] [] m_RX11_273 rfl rfl s_265 ⟨rfl, by decide⟩ (Nat.le_of_ble_eq_true rfl) (zroom_0 (by decide)) dX11_on_109 (zCV_use T3_3 ?_)
      intro I4_3 L4_3 M4_3 T4_3
      refine S_iload_n 0 dX11_on_112 rfl rfl ?_
      exact S_ireti rfl dX11_on_113 ⟨_, I4_3, L4_3, M4_3, rfl, rfl, T4_3⟩
  · refine S_aload_n 0 dX11_on_55 rfl rfl ?_
    refine S_callV [] [] m_RX11_266 rfl rfl s_265 ⟨rfl, by decide⟩ (Nat.le_of_ble_eq_true rfl) (zroom_0 (by decide)) dX11_on_56 (zCV_use (T.2 q1) ?_)
    intro I5_2 L5_2 M5_2 T5_2
    refine S_iinc 3 dX11_on_59 rfl rfl (by decide) rfl ?_
    refine S_goto (tgt := 50) dX11_on_62 (by decide) ?_
    exact S_sub [1, 2, 3, 0] rfl T5_2

set_option maxRecDepth 100000 in
theorem t_X11_redeem {C : zC} {I : Nat → Nat → Int32} {L : Nat → Nat → Int64} {M : Nat → Nat → Option Nat} (d : Nat) (x1 : Int32) (x2 : Int32)  (K : Int32 → (Nat → Nat → Int32) → (Nat → Nat → Int64) → (Nat → Nat → Option Nat) → Prop) (T : ((¬ (0 ≤ x1 ∧ x1 ≤ I 265 2 - 1) → K ((-1)) I L M) ∧ ((0 ≤ x1 ∧ x1 ≤ I 265 2 - 1) → (((0 ≤ x2 ∧ x2 < 12) → vp_in x1 6 ∧ ((¬ (zhas ((I 271 x1.toNatClampNeg)) x2) → K ((-3)) I L M) ∧ ((zhas ((I 271 x1.toNatClampNeg)) x2) → vp_in x1 6 ∧ (((zhas ((I 270 x1.toNatClampNeg)) x2) → K ((-3)) I L M) ∧ (¬ (zhas ((I 270 x1.toNatClampNeg)) x2) → vp_in x2 12 ∧ ((¬ (I 267 x2.toNatClampNeg) = 0 → vp_in x1 6 ∧ vp_in x1 6 ∧ vp_in x1 6 ∧ vp_in x1 6 ∧ vp_in x2 12 ∧ vp_in x2 12 ∧ vp_in x2 12 ∧ K (((u2 (u2 (u2 I 270 x1.toNatClampNeg (((I 270 x1.toNatClampNeg) ||| ((1 : Int32) <<< (x2 &&& 31))))) 271 x1.toNatClampNeg (((I 271 x1.toNatClampNeg) &&& (((1 : Int32) <<< (x2 &&& 31)) ^^^ (-1 : Int32))))) 267 x2.toNatClampNeg (((I 267 x2.toNatClampNeg) - (1 : Int32)))) 267 x2.toNatClampNeg)) (u2 (u2 (u2 I 270 x1.toNatClampNeg (((I 270 x1.toNatClampNeg) ||| ((1 : Int32) <<< (x2 &&& 31))))) 271 x1.toNatClampNeg (((I 271 x1.toNatClampNeg) &&& (((1 : Int32) <<< (x2 &&& 31)) ^^^ (-1 : Int32))))) 267 x2.toNatClampNeg (((I 267 x2.toNatClampNeg) - (1 : Int32)))) L M) ∧ ((I 267 x2.toNatClampNeg) = 0 → K ((-3)) I L M))))))) ∧ (¬ (0 ≤ x2 ∧ x2 < 12) → K ((-1)) I L M))))) : zCI C Y_X11_redeem (d + 3) [.ref 265, .int x1, .int x2] (zmk I L M) K := by
  refine S_enter (by decide) (Nat.le_of_ble_eq_true rfl) ?_
  refine S_lv (lv' := [(0, .ref 265), (1, .int x1), (2, .int x2)]) rfl ?_
  refine S_aload_n 0 dX11_redeem_0 rfl rfl ?_
  refine S_iload_n 1 dX11_redeem_1 rfl rfl ?_
  refine S_callV [.int x1] [] m_RX11_118 rfl rfl s_265 ⟨rfl, by decide⟩ (Nat.le_of_ble_eq_true rfl) (zroom_0 (by decide)) dX11_redeem_2 (zpure (sp_X11_isOne (I := I) (L := L) (M := M) (d + 0) x1) ?_)
  refine S_if_eq (tgt := 15) dX11_redeem_5 (by decide) (fun q1 => ?_) (fun q1 => ?_)
  · refine S_iconst (v := -1) dX11_redeem_15 (by decide) ?_
    exact S_ireti rfl dX11_redeem_16 ⟨_, I, L, M, rfl, rfl, (T.1 (zb_f q1))⟩
  · refine S_iload_n 2 dX11_redeem_8 rfl rfl ?_
    refine S_callS [.int x2] [] m_RX11_122 rfl rfl (Nat.le_of_ble_eq_true rfl) (zroom_0 (by decide)) dX11_redeem_9 (zpure (sp_X11_isPurpose (I := I) (L := L) (M := M) (d + 0) x2) ?_)
    refine S_if_ne (tgt := 17) dX11_redeem_12 (by decide) (fun q2 => ?_) (fun q2 => ?_)
    · refine S_aload_n 0 dX11_redeem_17 rfl rfl ?_
      refine S_getP f_RX11_27 s_265 p_265_6 dX11_redeem_18 ?_
      refine S_iload_n 1 dX11_redeem_21 rfl rfl ?_
      refine S_iald s_271 ((T.2 (zb_t q1)).1 (zb_t q2)).1 dX11_redeem_22 ?_
      refine S_iload_n 2 dX11_redeem_23 rfl rfl ?_
      refine S_callS [.int (I 271 x1.toNatClampNeg), .int x2] [] m_RX11_139 rfl rfl (Nat.le_of_ble_eq_true rfl) (zroom_0 (by decide)) dX11_redeem_24 (zpure (sp_X11_has (I := I) (L := L) (M := M) (d + 1) ((I 271 x1.toNatClampNeg)) x2) ?_)
      refine S_if_eq (tgt := 52) dX11_redeem_27 (by decide) (fun q3 => ?_) (fun q3 => ?_)
      · refine S_bipush (v := -3) dX11_redeem_52 (by decide) ?_
        exact S_ireti rfl dX11_redeem_54 ⟨_, I, L, M, rfl, rfl, (((T.2 (zb_t q1)).1 (zb_t q2)).2.1 (zb_f q3))⟩
      · refine S_aload_n 0 dX11_redeem_30 rfl rfl ?_
        refine S_getP f_RX11_24 s_265 p_265_5 dX11_redeem_31 ?_
        refine S_iload_n 1 dX11_redeem_34 rfl rfl ?_
        refine S_iald s_270 (((T.2 (zb_t q1)).1 (zb_t q2)).2.2 (zb_t q3)).1 dX11_redeem_35 ?_
        refine S_iload_n 2 dX11_redeem_36 rfl rfl ?_
        refine S_callS [.int (I 270 x1.toNatClampNeg), .int x2] [] m_RX11_139 rfl rfl (Nat.le_of_ble_eq_true rfl) (zroom_0 (by decide)) dX11_redeem_37 (zpure (sp_X11_has (I := I) (L := L) (M := M) (d + 1) ((I 270 x1.toNatClampNeg)) x2) ?_)
        refine S_if_ne (tgt := 52) dX11_redeem_40 (by decide) (fun q4 => ?_) (fun q4 => ?_)
        · refine S_bipush (v := -3) dX11_redeem_52 (by decide) ?_
          exact S_ireti rfl dX11_redeem_54 ⟨_, I, L, M, rfl, rfl, ((((T.2 (zb_t q1)).1 (zb_t q2)).2.2 (zb_t q3)).2.1 (zb_t q4))⟩
        · refine S_aload_n 0 dX11_redeem_43 rfl rfl ?_
          refine S_getP f_RX11_15 s_265 p_265_1 dX11_redeem_44 ?_
          refine S_iload_n 2 dX11_redeem_47 rfl rfl ?_
          refine S_iald s_267 ((((T.2 (zb_t q1)).1 (zb_t q2)).2.2 (zb_t q3)).2.2 (zb_f q4)).1 dX11_redeem_48 ?_
          refine S_if_ne (tgt := 55) dX11_redeem_49 (by decide) (fun q5 => ?_) (fun q5 => ?_)
          · refine S_aload_n 0 dX11_redeem_55 rfl rfl ?_
            refine S_getP f_RX11_24 s_265 p_265_5 dX11_redeem_56 ?_
            refine S_iload_n 1 dX11_redeem_59 rfl rfl ?_
            refine S_dup2 dX11_redeem_60 rfl rfl ?_
            refine S_iald s_270 (((((T.2 (zb_t q1)).1 (zb_t q2)).2.2 (zb_t q3)).2.2 (zb_f q4)).2.1 q5).1 dX11_redeem_61 ?_
            refine S_iconst (v := 1) dX11_redeem_62 (by decide) ?_
            refine S_iload_n 2 dX11_redeem_63 rfl rfl ?_
            refine S_ishl dX11_redeem_64 ?_
            refine S_ior dX11_redeem_65 ?_
            refine S_iast s_270 (((((T.2 (zb_t q1)).1 (zb_t q2)).2.2 (zb_t q3)).2.2 (zb_f q4)).2.1 q5).2.1 dX11_redeem_66 ?_
            refine S_aload_n 0 dX11_redeem_67 rfl rfl ?_
            refine S_getP f_RX11_27 s_265 p_265_6 dX11_redeem_68 ?_
            refine S_iload_n 1 dX11_redeem_71 rfl rfl ?_
            refine S_dup2 dX11_redeem_72 rfl rfl ?_
            refine S_iald s_271 (((((T.2 (zb_t q1)).1 (zb_t q2)).2.2 (zb_t q3)).2.2 (zb_f q4)).2.1 q5).2.2.1 dX11_redeem_73 ?_
            refine S_iconst (v := 1) dX11_redeem_74 (by decide) ?_
            refine S_iload_n 2 dX11_redeem_75 rfl rfl ?_
            refine S_ishl dX11_redeem_76 ?_
            refine S_iconst (v := -1) dX11_redeem_77 (by decide) ?_
            refine S_ixor dX11_redeem_78 ?_
            refine S_iand dX11_redeem_79 ?_
            refine S_iast s_271 (((((T.2 (zb_t q1)).1 (zb_t q2)).2.2 (zb_t q3)).2.2 (zb_f q4)).2.1 q5).2.2.2.1 dX11_redeem_80 ?_
            refine S_aload_n 0 dX11_redeem_81 rfl rfl ?_
            refine S_getP f_RX11_15 s_265 p_265_1 dX11_redeem_82 ?_
            refine S_iload_n 2 dX11_redeem_85 rfl rfl ?_
            refine S_dup2 dX11_redeem_86 rfl rfl ?_
            refine S_iald s_267 (((((T.2 (zb_t q1)).1 (zb_t q2)).2.2 (zb_t q3)).2.2 (zb_f q4)).2.1 q5).2.2.2.2.1 dX11_redeem_87 ?_
            refine S_iconst (v := 1) dX11_redeem_88 (by decide) ?_
            refine S_isub dX11_redeem_89 ?_
            refine S_iast s_267 (((((T.2 (zb_t q1)).1 (zb_t q2)).2.2 (zb_t q3)).2.2 (zb_f q4)).2.1 q5).2.2.2.2.2.1 dX11_redeem_90 ?_
            refine S_aload_n 0 dX11_redeem_91 rfl rfl ?_
            refine S_getP f_RX11_15 s_265 p_265_1 dX11_redeem_92 ?_
            refine S_iload_n 2 dX11_redeem_95 rfl rfl ?_
            refine S_iald s_267 (((((T.2 (zb_t q1)).1 (zb_t q2)).2.2 (zb_t q3)).2.2 (zb_f q4)).2.1 q5).2.2.2.2.2.2.1 dX11_redeem_96 ?_
            exact S_ireti rfl dX11_redeem_97 ⟨_, u2 (u2 (u2 I 270 x1.toNatClampNeg (((I 270 x1.toNatClampNeg) ||| ((1 : Int32) <<< (x2 &&& 31))))) 271 x1.toNatClampNeg (((I 271 x1.toNatClampNeg) &&& (((1 : Int32) <<< (x2 &&& 31)) ^^^ (-1 : Int32))))) 267 x2.toNatClampNeg (((I 267 x2.toNatClampNeg) - (1 : Int32))), L, M, rfl, rfl, (((((T.2 (zb_t q1)).1 (zb_t q2)).2.2 (zb_t q3)).2.2 (zb_f q4)).2.1 q5).2.2.2.2.2.2.2⟩
          · refine S_bipush (v := -3) dX11_redeem_52 (by decide) ?_
            exact S_ireti rfl dX11_redeem_54 ⟨_, I, L, M, rfl, rfl, (((((T.2 (zb_t q1)).1 (zb_t q2)).2.2 (zb_t q3)).2.2 (zb_f q4)).2.2 q5)⟩
    · refine S_iconst (v := -1) dX11_redeem_15 (by decide) ?_
      exact S_ireti rfl dX11_redeem_16 ⟨_, I, L, M, rfl, rfl, ((T.2 (zb_t q1)).2 (zb_f q2))⟩

set_option maxRecDepth 100000 in
theorem t_X11_restores {C : zC} {I : Nat → Nat → Int32} {L : Nat → Nat → Int64} {M : Nat → Nat → Option Nat} (d : Nat) (x1 : Int32) (x2 : Int32) (x3 : Int32) (x4 : Int32)  (K : (Nat → Nat → Int32) → (Nat → Nat → Int64) → (Nat → Nat → Option Nat) → Prop) (T : vp_in x1 6 ∧ vp_in x1 6 ∧ K (u2 (u2 (u2 I 270 x1.toNatClampNeg x2) 271 x1.toNatClampNeg x3) 265 9 x4) L M) : zCV C Y_X11_restores (d + 1) [.ref 265, .int x1, .int x2, .int x3, .int x4] (zmk I L M) K := by
  refine S_enter (by decide) (Nat.le_of_ble_eq_true rfl) ?_
  refine S_lv (lv' := [(0, .ref 265), (1, .int x1), (2, .int x2), (3, .int x3), (4, .int x4)]) rfl ?_
  refine S_aload_n 0 dX11_restores_0 rfl rfl ?_
  refine S_getP f_RX11_24 s_265 p_265_5 dX11_restores_1 ?_
  refine S_iload_n 1 dX11_restores_4 rfl rfl ?_
  refine S_iload_n 2 dX11_restores_5 rfl rfl ?_
  refine S_iast s_270 T.1 dX11_restores_6 ?_
  refine S_aload_n 0 dX11_restores_7 rfl rfl ?_
  refine S_getP f_RX11_27 s_265 p_265_6 dX11_restores_8 ?_
  refine S_iload_n 1 dX11_restores_11 rfl rfl ?_
  refine S_iload_n 3 dX11_restores_12 rfl rfl ?_
  refine S_iast s_271 T.2.1 dX11_restores_13 ?_
  refine S_aload_n 0 dX11_restores_14 rfl rfl ?_
  refine S_iload 4 dX11_restores_15 rfl ?_
  refine S_putI f_RX11_221 s_265 (Or.inl rfl) rfl dX11_restores_17 ?_
  exact S_vret rfl dX11_restores_20 ⟨u2 (u2 (u2 I 270 x1.toNatClampNeg x2) 271 x1.toNatClampNeg x3) 265 9 x4, L, M, rfl, rfl, T.2.2⟩

set_option maxRecDepth 100000 in
theorem t_X11_ringFrom {C : zC} {I : Nat → Nat → Int32} {L : Nat → Nat → Int64} {M : Nat → Nat → Option Nat} (d : Nat) (x1 : Int32) (x2 : Int32) (x3 : Int32) (x4 : Int32)  (K : Int32 → (Nat → Nat → Int32) → (Nat → Nat → Int64) → (Nat → Nat → Option Nat) → Prop) (T : ((x4 ≤ 1 → zSI C (zmk I L M) K Y_X11_ringFrom (d + 2) 28 [(0, .ref 265), (1, .int x1), (2, .int x2), (3, .int x3), (4, .int x4), (5, .int 0), (6, .int (x1 + (1 : Int32)))] [] I L M) ∧ (¬ (x4 ≤ 1) → zCI C Y_X11_mayGive (d + 1) [.ref 265, .int x2, .int x1] (zmk I L M) (fun r1_2 I1_2 L1_2 M1_2 => ((r1_2 = 0 → zSI C (zmk I L M) K Y_X11_ringFrom (d + 2) 28 [(0, .ref 265), (1, .int x1), (2, .int x2), (3, .int x3), (4, .int x4), (5, .int 0), (6, .int (x1 + (1 : Int32)))] [] I1_2 L1_2 M1_2) ∧ (¬ (r1_2 = 0) → zSI C (zmk I L M) K Y_X11_ringFrom (d + 2) 28 [(0, .ref 265), (1, .int x1), (2, .int x2), (3, .int x3), (4, .int x4), (5, .int x4), (6, .int (x1 + (1 : Int32)))] [] I1_2 L1_2 M1_2)))))) : zCI C Y_X11_ringFrom (d + 2) [.ref 265, .int x1, .int x2, .int x3, .int x4] (zmk I L M) K := by
  refine S_enter (by decide) (Nat.le_of_ble_eq_true rfl) ?_
  refine S_lv (lv' := [(0, .ref 265), (1, .int x1), (2, .int x2), (3, .int x3), (4, .int x4)]) rfl ?_
  refine S_iload 4 dX11_ringFrom_0 rfl ?_
  refine S_iconst (v := 1) dX11_ringFrom_2 (by decide) ?_
  refine S_icmp_le (tgt := 20) dX11_ringFrom_3 (by decide) (fun q1 => ?_) (fun q1 => ?_)
  · refine S_iconst (v := 0) dX11_ringFrom_20 (by decide) ?_
    refine S_istore dX11_ringFrom_21 (by decide) rfl ?_
    refine S_iload_n 2 dX11_ringFrom_23 rfl rfl ?_
    refine S_iconst (v := 1) dX11_ringFrom_24 (by decide) ?_
    refine S_iadd dX11_ringFrom_25 ?_
    refine S_istore dX11_ringFrom_26 (by decide) rfl ?_
    exact S_sub [2, 3, 4, 5, 6, 1, 0] rfl (T.1 q1)
  · refine S_aload_n 0 dX11_ringFrom_6 rfl rfl ?_
    refine S_iload_n 2 dX11_ringFrom_7 rfl rfl ?_
    refine S_iload_n 1 dX11_ringFrom_8 rfl rfl ?_
    refine S_callV [.int x2, .int x1] [] m_RX11_250 rfl rfl s_265 ⟨rfl, by decide⟩ (Nat.le_of_ble_eq_true rfl) (zroom_0 (by decide)) dX11_ringFrom_9 (zCI_use (T.2 q1) ?_)
    intro r1_2 I1_2 L1_2 M1_2 T1_2
    refine S_if_eq (tgt := 20) dX11_ringFrom_12 (by decide) (fun q2 => ?_) (fun q2 => ?_)
    · refine S_iconst (v := 0) dX11_ringFrom_20 (by decide) ?_
      refine S_istore dX11_ringFrom_21 (by decide) rfl ?_
      refine S_iload_n 2 dX11_ringFrom_23 rfl rfl ?_
      refine S_iconst (v := 1) dX11_ringFrom_24 (by decide) ?_
      refine S_iadd dX11_ringFrom_25 ?_
      refine S_istore dX11_ringFrom_26 (by decide) rfl ?_
      exact S_sub [2, 3, 4, 5, 6, 1, 0] rfl (T1_2.1 q2)
    · refine S_iload 4 dX11_ringFrom_15 rfl ?_
      refine S_goto (tgt := 21) dX11_ringFrom_17 (by decide) ?_
      refine S_istore dX11_ringFrom_21 (by decide) rfl ?_
      refine S_iload_n 2 dX11_ringFrom_23 rfl rfl ?_
      refine S_iconst (v := 1) dX11_ringFrom_24 (by decide) ?_
      refine S_iadd dX11_ringFrom_25 ?_
      refine S_istore dX11_ringFrom_26 (by decide) rfl ?_
      exact S_sub [2, 3, 4, 5, 6, 1, 0] rfl (T1_2.2 q2)

set_option maxRecDepth 100000 in
theorem t_X11_ringFrom_28 {C : zC} {I : Nat → Nat → Int32} {L : Nat → Nat → Int64} {M : Nat → Nat → Option Nat} {h0 : zH} (d : Nat)   (y1 : Int32) (y2 : Int32) (y3 : Int32) (y4 : Int32) (y5 : Int32) (y6 : Int32) (K : Int32 → (Nat → Nat → Int32) → (Nat → Nat → Int64) → (Nat → Nat → Option Nat) → Prop) (T : (((I 265 2) ≤ y6 → K y5 I L M) ∧ (¬ ((I 265 2) ≤ y6) → (((zhas y3 y6) → zSI C h0 K Y_X11_ringFrom (d + 2) 28 [(0, .ref 265), (1, .int y1), (2, .int y2), (3, .int y3), (4, .int y4), (5, .int y5), (6, .int (y6 + 1))] [] I L M) ∧ (¬ (zhas y3 y6) → zCI C Y_X11_mayGive (d + 1) [.ref 265, .int y2, .int y6] (zmk I L M) (fun r1_3 I1_3 L1_3 M1_3 => ((r1_3 = 0 → zSI C h0 K Y_X11_ringFrom (d + 2) 28 [(0, .ref 265), (1, .int y1), (2, .int y2), (3, .int y3), (4, .int y4), (5, .int y5), (6, .int (y6 + 1))] [] I1_3 L1_3 M1_3) ∧ (¬ (r1_3 = 0) → zCI C Y_X11_ringFrom (d + 1) [.ref 265, .int y1, .int y6, .int (y3 ||| ((1 : Int32) <<< (y6 &&& 31))), .int (y4 + (1 : Int32))] (zmk I1_3 L1_3 M1_3) (fun r2_4 I2_4 L2_4 M2_4 => zSI C h0 K Y_X11_ringFrom (d + 2) 28 [(0, .ref 265), (1, .int y1), (2, .int y2), (3, .int y3), (4, .int y4), (5, .int (if y5 < r2_4 then r2_4 else y5)), (6, .int (y6 + 1))] [] I2_4 L2_4 M2_4))))))))) : zSI C h0 K Y_X11_ringFrom (d + 2) 28 [(0, .ref 265), (1, .int y1), (2, .int y2), (3, .int y3), (4, .int y4), (5, .int y5), (6, .int y6)] [] I L M := by
  refine S_iload 6 dX11_ringFrom_28 rfl ?_
  refine S_aload_n 0 dX11_ringFrom_30 rfl rfl ?_
  refine S_getI f_RX11_111 s_265 dX11_ringFrom_31 ?_
  refine S_icmp_ge (tgt := 86) dX11_ringFrom_34 (by decide) (fun q1 => ?_) (fun q1 => ?_)
  · refine S_iload 5 dX11_ringFrom_86 rfl ?_
    exact S_ireti rfl dX11_ringFrom_88 ⟨_, I, L, M, rfl, rfl, (T.1 q1)⟩
  · refine S_iload_n 3 dX11_ringFrom_37 rfl rfl ?_
    refine S_iload 6 dX11_ringFrom_38 rfl ?_
    refine S_callS [.int y3, .int y6] [] m_RX11_139 rfl rfl (Nat.le_of_ble_eq_true rfl) (zroom_0 (by decide)) dX11_ringFrom_40 (zpure (sp_X11_has (I := I) (L := L) (M := M) (d + 0) y3 y6) ?_)
    refine S_if_ne (tgt := 80) dX11_ringFrom_43 (by decide) (fun q2 => ?_) (fun q2 => ?_)
    · refine S_iinc 6 dX11_ringFrom_80 rfl rfl (by decide) rfl ?_
      refine S_goto (tgt := 28) dX11_ringFrom_83 (by decide) ?_
      exact S_sub [1, 2, 3, 4, 5, 6, 0] rfl ((T.2 q1).1 (zb_t q2))
    · refine S_aload_n 0 dX11_ringFrom_46 rfl rfl ?_
      refine S_iload_n 2 dX11_ringFrom_47 rfl rfl ?_
      refine S_iload 6 dX11_ringFrom_48 rfl ?_
      refine S_callV [.int y2, .int y6] [] m_RX11_250 rfl rfl s_265 ⟨rfl, by decide⟩ (Nat.le_of_ble_eq_true rfl) (zroom_0 (by decide)) dX11_ringFrom_50 (zCI_use ((T.2 q1).2 (zb_f q2)) ?_)
      intro r1_3 I1_3 L1_3 M1_3 T1_3
      refine S_if_eq (tgt := 80) dX11_ringFrom_53 (by decide) (fun q3 => ?_) (fun q3 => ?_)
      · refine S_iinc 6 dX11_ringFrom_80 rfl rfl (by decide) rfl ?_
        refine S_goto (tgt := 28) dX11_ringFrom_83 (by decide) ?_
        exact S_sub [1, 2, 3, 4, 5, 6, 0] rfl (T1_3.1 q3)
      · refine S_iload 5 dX11_ringFrom_56 rfl ?_
        refine S_aload_n 0 dX11_ringFrom_58 rfl rfl ?_
        refine S_iload_n 1 dX11_ringFrom_59 rfl rfl ?_
        refine S_iload 6 dX11_ringFrom_60 rfl ?_
        refine S_iload_n 3 dX11_ringFrom_62 rfl rfl ?_
        refine S_iconst (v := 1) dX11_ringFrom_63 (by decide) ?_
        refine S_iload 6 dX11_ringFrom_64 rfl ?_
        refine S_ishl dX11_ringFrom_66 ?_
        refine S_ior dX11_ringFrom_67 ?_
        refine S_iload 4 dX11_ringFrom_68 rfl ?_
        refine S_iconst (v := 1) dX11_ringFrom_70 (by decide) ?_
        refine S_iadd dX11_ringFrom_71 ?_
        refine S_callV [.int y1, .int y6, .int (y3 ||| ((1 : Int32) <<< (y6 &&& 31))), .int (y4 + (1 : Int32))] [.int y5] m_RX11_253 rfl rfl s_265 ⟨rfl, by decide⟩ (Nat.le_of_ble_eq_true rfl) (zroom_0 (by decide)) dX11_ringFrom_72 (zCI_use (T1_3.2 q3) ?_)
        intro r2_4 I2_4 L2_4 M2_4 T2_4
        refine S_max m_RX11_242 o_maxs o_math o_maxc (Nat.le_of_ble_eq_true rfl) rfl ⟨Nat.le_refl _, Nat.le_refl _⟩ dX11_ringFrom_75 ?_
        refine S_istore dX11_ringFrom_78 (by decide) rfl ?_
        refine S_iinc 6 dX11_ringFrom_80 rfl rfl (by decide) rfl ?_
        refine S_goto (tgt := 28) dX11_ringFrom_83 (by decide) ?_
        exact S_sub [2, 3, 4, 5, 6, 1, 0] rfl T2_4

set_option maxRecDepth 100000 in
theorem t_X11_row {C : zC} {I : Nat → Nat → Int32} {L : Nat → Nat → Int64} {M : Nat → Nat → Option Nat} (d : Nat) (x1 : Int32) (x2 : Int32) (x3 : Int32)  (K : Int32 → (Nat → Nat → Int32) → (Nat → Nat → Int64) → (Nat → Nat → Option Nat) → Prop) (T : ((¬ (0 ≤ x1 ∧ x1 ≤ I 265 2 - 1) → K ((-1)) I L M) ∧ ((0 ≤ x1 ∧ x1 ≤ I 265 2 - 1) → ((((0 : Int32) ≤ x2 ∧ x2 ≤ 3) → ((((0 : Int32) ≤ x3 ∧ x3 ≤ 9) → vp_in x1 6 ∧ (((I 268 x1.toNatClampNeg) = 6 → vp_in ((((4 : Int32) * x1) + x2)) 24 ∧ vp_in ((((4 : Int32) * x1) + x2)) 24 ∧ K ((I 273 (((((4 : Int32) * x1) + x2)).toNatClampNeg))) (u2 I 273 (((((4 : Int32) * x1) + x2)).toNatClampNeg) x3) L M) ∧ (¬ ((I 268 x1.toNatClampNeg) = 6) → K ((-3)) I L M))) ∧ (¬ ((0 : Int32) ≤ x3 ∧ x3 ≤ 9) → K ((-2)) I L M))) ∧ (¬ ((0 : Int32) ≤ x2 ∧ x2 ≤ 3) → K ((-1)) I L M))))) : zCI C Y_X11_row (d + 3) [.ref 265, .int x1, .int x2, .int x3] (zmk I L M) K := by
  refine S_enter (by decide) (Nat.le_of_ble_eq_true rfl) ?_
  refine S_lv (lv' := [(0, .ref 265), (1, .int x1), (2, .int x2), (3, .int x3)]) rfl ?_
  refine S_aload_n 0 dX11_row_0 rfl rfl ?_
  refine S_iload_n 1 dX11_row_1 rfl rfl ?_
  refine S_callV [.int x1] [] m_RX11_118 rfl rfl s_265 ⟨rfl, by decide⟩ (Nat.le_of_ble_eq_true rfl) (zroom_0 (by decide)) dX11_row_2 (zpure (sp_X11_isOne (I := I) (L := L) (M := M) (d + 0) x1) ?_)
  refine S_if_eq (tgt := 17) dX11_row_5 (by decide) (fun q1 => ?_) (fun q1 => ?_)
  · refine S_iconst (v := -1) dX11_row_17 (by decide) ?_
    exact S_ireti rfl dX11_row_18 ⟨_, I, L, M, rfl, rfl, (T.1 (zb_f q1))⟩
  · refine S_iload_n 2 dX11_row_8 rfl rfl ?_
    refine S_iconst (v := 0) dX11_row_9 (by decide) ?_
    refine S_iconst (v := 3) dX11_row_10 (by decide) ?_
    refine S_callS [.int x2, .int 0, .int 3] [] m_RX11_114 rfl rfl (Nat.le_of_ble_eq_true rfl) (zroom_0 (by decide)) dX11_row_11 (zpure (sp_X11_within (I := I) (L := L) (M := M) (d + 1) x2 0 3) ?_)
    refine S_if_ne (tgt := 19) dX11_row_14 (by decide) (fun q2 => ?_) (fun q2 => ?_)
    · refine S_iload_n 3 dX11_row_19 rfl rfl ?_
      refine S_iconst (v := 0) dX11_row_20 (by decide) ?_
      refine S_bipush (v := 9) dX11_row_21 (by decide) ?_
      refine S_callS [.int x3, .int 0, .int 9] [] m_RX11_114 rfl rfl (Nat.le_of_ble_eq_true rfl) (zroom_0 (by decide)) dX11_row_23 (zpure (sp_X11_within (I := I) (L := L) (M := M) (d + 1) x3 0 9) ?_)
      refine S_if_ne (tgt := 32) dX11_row_26 (by decide) (fun q3 => ?_) (fun q3 => ?_)
      · refine S_aload_n 0 dX11_row_32 rfl rfl ?_
        refine S_getP f_RX11_18 s_265 p_265_3 dX11_row_33 ?_
        refine S_iload_n 1 dX11_row_36 rfl rfl ?_
        refine S_iald s_268 (((T.2 (zb_t q1)).1 (zb_t q2)).1 (zb_t q3)).1 dX11_row_37 ?_
        refine S_bipush (v := 6) dX11_row_38 (by decide) ?_
        refine S_icmp_eq (tgt := 46) dX11_row_40 (by decide) (fun q4 => ?_) (fun q4 => ?_)
        · refine S_aload_n 0 dX11_row_46 rfl rfl ?_
          refine S_getP f_RX11_33 s_265 p_265_8 dX11_row_47 ?_
          refine S_iconst (v := 4) dX11_row_50 (by decide) ?_
          refine S_iload_n 1 dX11_row_51 rfl rfl ?_
          refine S_imul dX11_row_52 ?_
          refine S_iload_n 2 dX11_row_53 rfl rfl ?_
          refine S_iadd dX11_row_54 ?_
          refine S_iald s_273 ((((T.2 (zb_t q1)).1 (zb_t q2)).1 (zb_t q3)).2.1 q4).1 dX11_row_55 ?_
          refine S_istore dX11_row_56 (by decide) rfl ?_
          refine S_aload_n 1 dX11_row_58 rfl rfl ?_
          refine S_getP f_RX11_33 s_265 p_265_8 dX11_row_59 ?_
          refine S_iconst (v := 4) dX11_row_62 (by decide) ?_
          refine S_iload_n 2 dX11_row_63 rfl rfl ?_
          refine S_imul dX11_row_64 ?_
          refine S_iload_n 3 dX11_row_65 rfl rfl ?_
          refine S_iadd dX11_row_66 ?_
          refine S_iload_n 4 dX11_row_67 rfl rfl ?_
          refine S_iast s_273 ((((T.2 (zb_t q1)).1 (zb_t q2)).1 (zb_t q3)).2.1 q4).2.1 dX11_row_68 ?_
          refine S_iload 0 dX11_row_69 rfl ?_
          exact S_ireti rfl dX11_row_71 ⟨_, u2 I 273 (((((4 : Int32) * x1) + x2)).toNatClampNeg) x3, L, M, rfl, rfl, ((((T.2 (zb_t q1)).1 (zb_t q2)).1 (zb_t q3)).2.1 q4).2.2⟩
        · refine S_bipush (v := -3) dX11_row_43 (by decide) ?_
          exact S_ireti rfl dX11_row_45 ⟨_, I, L, M, rfl, rfl, ((((T.2 (zb_t q1)).1 (zb_t q2)).1 (zb_t q3)).2.2 q4)⟩
      · refine S_bipush (v := -2) dX11_row_29 (by decide) ?_
        exact S_ireti rfl dX11_row_31 ⟨_, I, L, M, rfl, rfl, (((T.2 (zb_t q1)).1 (zb_t q2)).2 (zb_f q3))⟩
    · refine S_iconst (v := -1) dX11_row_17 (by decide) ?_
      exact S_ireti rfl dX11_row_18 ⟨_, I, L, M, rfl, rfl, ((T.2 (zb_t q1)).2 (zb_f q2))⟩

set_option maxRecDepth 100000 in
theorem t_X11_see {C : zC} {I : Nat → Nat → Int32} {L : Nat → Nat → Int64} {M : Nat → Nat → Option Nat} (d : Nat) (x1 : Int32) (x2 : Int32) (x3 : Int32) (x4 : Int32)  (K : Int32 → (Nat → Nat → Int32) → (Nat → Nat → Int64) → (Nat → Nat → Option Nat) → Prop) (T : ((¬ x1 = (-1) → ((¬ (0 ≤ x1 ∧ x1 ≤ I 265 2 - 1) → K ((-1)) I L M) ∧ ((0 ≤ x1 ∧ x1 ≤ I 265 2 - 1) → (((0 ≤ x3 ∧ x3 < 12) → ((((0 : Int32) ≤ x2 ∧ x2 ≤ 12) → ((¬ (I 265 26) = 5 → vp_in ((I 265 26)) 5 ∧ vp_in ((I 265 26)) 5 ∧ vp_in ((I 265 26)) 5 ∧ ((x4 = 0 → vp_in ((I 265 26)) 5 ∧ K (((I 265 26) + (1 : Int32))) (u2 (u2 (u2 (u2 (u2 I 282 (((I 265 26)).toNatClampNeg) x1) 283 (((I 265 26)).toNatClampNeg) x2) 284 (((I 265 26)).toNatClampNeg) x3) 265 26 (((I 265 26) + (1 : Int32)))) 285 (((I 265 26)).toNatClampNeg) 0) L M) ∧ (¬ (x4 = 0) → vp_in ((I 265 26)) 5 ∧ K (((I 265 26) + (1 : Int32))) (u2 (u2 (u2 (u2 (u2 I 282 (((I 265 26)).toNatClampNeg) x1) 283 (((I 265 26)).toNatClampNeg) x2) 284 (((I 265 26)).toNatClampNeg) x3) 265 26 (((I 265 26) + (1 : Int32)))) 285 (((I 265 26)).toNatClampNeg) 1) L M))) ∧ ((I 265 26) = 5 → K ((-4)) I L M))) ∧ (¬ ((0 : Int32) ≤ x2 ∧ x2 ≤ 12) → K ((-2)) I L M))) ∧ (¬ (0 ≤ x3 ∧ x3 < 12) → K ((-1)) I L M))))) ∧ (x1 = (-1) → K 0 (u2 I 265 26 0) L M))) : zCI C Y_X11_see (d + 3) [.ref 265, .int x1, .int x2, .int x3, .int x4] (zmk I L M) K := by
  refine S_enter (by decide) (Nat.le_of_ble_eq_true rfl) ?_
  refine S_lv (lv' := [(0, .ref 265), (1, .int x1), (2, .int x2), (3, .int x3), (4, .int x4)]) rfl ?_
  refine S_iload_n 1 dX11_see_0 rfl rfl ?_
  refine S_iconst (v := -1) dX11_see_1 (by decide) ?_
  refine S_icmp_ne (tgt := 12) dX11_see_2 (by decide) (fun q1 => ?_) (fun q1 => ?_)
  · refine S_aload_n 0 dX11_see_12 rfl rfl ?_
    refine S_iload_n 1 dX11_see_13 rfl rfl ?_
    refine S_callV [.int x1] [] m_RX11_118 rfl rfl s_265 ⟨rfl, by decide⟩ (Nat.le_of_ble_eq_true rfl) (zroom_0 (by decide)) dX11_see_14 (zpure (sp_X11_isOne (I := I) (L := L) (M := M) (d + 0) x1) ?_)
    refine S_if_eq (tgt := 27) dX11_see_17 (by decide) (fun q2 => ?_) (fun q2 => ?_)
    · refine S_iconst (v := -1) dX11_see_27 (by decide) ?_
      exact S_ireti rfl dX11_see_28 ⟨_, I, L, M, rfl, rfl, ((T.1 q1).1 (zb_f q2))⟩
    · refine S_iload_n 3 dX11_see_20 rfl rfl ?_
      refine S_callS [.int x3] [] m_RX11_122 rfl rfl (Nat.le_of_ble_eq_true rfl) (zroom_0 (by decide)) dX11_see_21 (zpure (sp_X11_isPurpose (I := I) (L := L) (M := M) (d + 0) x3) ?_)
      refine S_if_ne (tgt := 29) dX11_see_24 (by decide) (fun q3 => ?_) (fun q3 => ?_)
      · refine S_iload_n 2 dX11_see_29 rfl rfl ?_
        refine S_iconst (v := 0) dX11_see_30 (by decide) ?_
        refine S_bipush (v := 12) dX11_see_31 (by decide) ?_
        refine S_callS [.int x2, .int 0, .int 12] [] m_RX11_114 rfl rfl (Nat.le_of_ble_eq_true rfl) (zroom_0 (by decide)) dX11_see_33 (zpure (sp_X11_within (I := I) (L := L) (M := M) (d + 1) x2 0 12) ?_)
        refine S_if_ne (tgt := 42) dX11_see_36 (by decide) (fun q4 => ?_) (fun q4 => ?_)
        · refine S_aload_n 0 dX11_see_42 rfl rfl ?_
          refine S_getI f_RX11_284 s_265 dX11_see_43 ?_
          refine S_iconst (v := 5) dX11_see_46 (by decide) ?_
          refine S_icmp_ne (tgt := 53) dX11_see_47 (by decide) (fun q5 => ?_) (fun q5 => ?_)
          · refine S_aload_n 0 dX11_see_53 rfl rfl ?_
            refine S_getP f_RX11_61 s_265 p_265_27 dX11_see_54 ?_
            refine S_aload_n 0 dX11_see_57 rfl rfl ?_
            refine S_getI f_RX11_284 s_265 dX11_see_58 ?_
            refine S_iload_n 1 dX11_see_61 rfl rfl ?_
            refine S_iast s_282 (((((T.1 q1).2 (zb_t q2)).1 (zb_t q3)).1 (zb_t q4)).1 q5).1 dX11_see_62 ?_
            refine S_aload_n 0 dX11_see_63 rfl rfl ?_
            refine S_getP f_RX11_64 s_265 p_265_28 dX11_see_64 ?_
            refine S_aload_n 0 dX11_see_67 rfl rfl ?_
            refine S_getI f_RX11_284 s_265 dX11_see_68 ?_
            refine S_iload_n 2 dX11_see_71 rfl rfl ?_
            refine S_iast s_283 (((((T.1 q1).2 (zb_t q2)).1 (zb_t q3)).1 (zb_t q4)).1 q5).2.1 dX11_see_72 ?_
            refine S_aload_n 0 dX11_see_73 rfl rfl ?_
            refine S_getP f_RX11_67 s_265 p_265_29 dX11_see_74 ?_
            refine S_aload_n 0 dX11_see_77 rfl rfl ?_
            refine S_getI f_RX11_284 s_265 dX11_see_78 ?_
            refine S_iload_n 3 dX11_see_81 rfl rfl ?_
            refine S_iast s_284 (((((T.1 q1).2 (zb_t q2)).1 (zb_t q3)).1 (zb_t q4)).1 q5).2.2.1 dX11_see_82 ?_
            refine S_aload_n 0 dX11_see_83 rfl rfl ?_
            refine S_getP f_RX11_70 s_265 p_265_30 dX11_see_84 ?_
            refine S_aload_n 0 dX11_see_87 rfl rfl ?_
            refine S_dup dX11_see_88 rfl ?_
            refine S_getI f_RX11_284 s_265 dX11_see_89 ?_
            refine S_dup_x1 dX11_see_92 rfl rfl ?_
            refine S_iconst (v := 1) dX11_see_93 (by decide) ?_
            refine S_iadd dX11_see_94 ?_
            refine S_putI f_RX11_284 s_265 (Or.inl rfl) rfl dX11_see_95 ?_
            refine S_iload 4 dX11_see_98 rfl ?_
            refine S_if_eq (tgt := 107) dX11_see_100 (by decide) (fun q6 => ?_) (fun q6 => ?_)
            · refine S_iconst (v := 0) dX11_see_107 (by decide) ?_
              refine S_iast s_285 ((((((T.1 q1).2 (zb_t q2)).1 (zb_t q3)).1 (zb_t q4)).1 q5).2.2.2.1 q6).1 dX11_see_108 ?_
              refine S_aload_n 0 dX11_see_109 rfl rfl ?_
              refine S_getI f_RX11_284 s_265 dX11_see_110 ?_
              exact S_ireti rfl dX11_see_113 ⟨_, u2 (u2 (u2 (u2 (u2 I 282 (((I 265 26)).toNatClampNeg) x1) 283 (((I 265 26)).toNatClampNeg) x2) 284 (((I 265 26)).toNatClampNeg) x3) 265 26 (((I 265 26) + (1 : Int32)))) 285 (((I 265 26)).toNatClampNeg) 0, L, M, rfl, rfl, ((((((T.1 q1).2 (zb_t q2)).1 (zb_t q3)).1 (zb_t q4)).1 q5).2.2.2.1 q6).2⟩
            · refine S_iconst (v := 1) dX11_see_103 (by decide) ?_
              refine S_goto (tgt := 108) dX11_see_104 (by decide) ?_
              refine S_iast s_285 ((((((T.1 q1).2 (zb_t q2)).1 (zb_t q3)).1 (zb_t q4)).1 q5).2.2.2.2 q6).1 dX11_see_108 ?_
              refine S_aload_n 0 dX11_see_109 rfl rfl ?_
              refine S_getI f_RX11_284 s_265 dX11_see_110 ?_
              exact S_ireti rfl dX11_see_113 ⟨_, u2 (u2 (u2 (u2 (u2 I 282 (((I 265 26)).toNatClampNeg) x1) 283 (((I 265 26)).toNatClampNeg) x2) 284 (((I 265 26)).toNatClampNeg) x3) 265 26 (((I 265 26) + (1 : Int32)))) 285 (((I 265 26)).toNatClampNeg) 1, L, M, rfl, rfl, ((((((T.1 q1).2 (zb_t q2)).1 (zb_t q3)).1 (zb_t q4)).1 q5).2.2.2.2 q6).2⟩
          · refine S_bipush (v := -4) dX11_see_50 (by decide) ?_
            exact S_ireti rfl dX11_see_52 ⟨_, I, L, M, rfl, rfl, (((((T.1 q1).2 (zb_t q2)).1 (zb_t q3)).1 (zb_t q4)).2 q5)⟩
        · refine S_bipush (v := -2) dX11_see_39 (by decide) ?_
          exact S_ireti rfl dX11_see_41 ⟨_, I, L, M, rfl, rfl, ((((T.1 q1).2 (zb_t q2)).1 (zb_t q3)).2 (zb_f q4))⟩
      · refine S_iconst (v := -1) dX11_see_27 (by decide) ?_
        exact S_ireti rfl dX11_see_28 ⟨_, I, L, M, rfl, rfl, (((T.1 q1).2 (zb_t q2)).2 (zb_f q3))⟩
  · refine S_aload_n 0 dX11_see_5 rfl rfl ?_
    refine S_iconst (v := 0) dX11_see_6 (by decide) ?_
    refine S_putI f_RX11_284 s_265 (Or.inl rfl) rfl dX11_see_7 ?_
    refine S_iconst (v := 0) dX11_see_10 (by decide) ?_
    exact S_ireti rfl dX11_see_11 ⟨_, u2 I 265 26 0, L, M, rfl, rfl, (T.2 q1)⟩

set_option maxRecDepth 100000 in
theorem t_X11_set {C : zC} {I : Nat → Nat → Int32} {L : Nat → Nat → Int64} {M : Nat → Nat → Option Nat} (d : Nat) (x1 : Int32) (x2 : Int32) (x3 : Int32)  (K : Int32 → (Nat → Nat → Int32) → (Nat → Nat → Int64) → (Nat → Nat → Option Nat) → Prop) (T : ((¬ (0 ≤ x1 ∧ x1 ≤ I 265 2 - 1) → K ((-1)) I L M) ∧ ((0 ≤ x1 ∧ x1 ≤ I 265 2 - 1) → ((((0 : Int32) ≤ x2 ∧ x2 ≤ 1) → ((((0 : Int32) ≤ x3 ∧ x3 ≤ 4095) → ((¬ x2 = 0 → vp_in x1 6 ∧ zSI C (zmk I L M) K Y_X11_set (d + 3) 52 [(0, .ref 265), (1, .int x1), (2, .int x2), (3, .int x3)] [.int (I 271 x1.toNatClampNeg)] I L M) ∧ (x2 = 0 → vp_in x1 6 ∧ zSI C (zmk I L M) K Y_X11_set (d + 3) 52 [(0, .ref 265), (1, .int x1), (2, .int x2), (3, .int x3)] [.int (I 270 x1.toNatClampNeg)] I L M))) ∧ (¬ ((0 : Int32) ≤ x3 ∧ x3 ≤ 4095) → K ((-2)) I L M))) ∧ (¬ ((0 : Int32) ≤ x2 ∧ x2 ≤ 1) → K ((-1)) I L M))))) : zCI C Y_X11_set (d + 3) [.ref 265, .int x1, .int x2, .int x3] (zmk I L M) K := by
  refine S_enter (by decide) (Nat.le_of_ble_eq_true rfl) ?_
  refine S_lv (lv' := [(0, .ref 265), (1, .int x1), (2, .int x2), (3, .int x3)]) rfl ?_
  refine S_aload_n 0 dX11_set_0 rfl rfl ?_
  refine S_iload_n 1 dX11_set_1 rfl rfl ?_
  refine S_callV [.int x1] [] m_RX11_118 rfl rfl s_265 ⟨rfl, by decide⟩ (Nat.le_of_ble_eq_true rfl) (zroom_0 (by decide)) dX11_set_2 (zpure (sp_X11_isOne (I := I) (L := L) (M := M) (d + 0) x1) ?_)
  refine S_if_eq (tgt := 17) dX11_set_5 (by decide) (fun q1 => ?_) (fun q1 => ?_)
  · refine S_iconst (v := -1) dX11_set_17 (by decide) ?_
    exact S_ireti rfl dX11_set_18 ⟨_, I, L, M, rfl, rfl, (T.1 (zb_f q1))⟩
  · refine S_iload_n 2 dX11_set_8 rfl rfl ?_
    refine S_iconst (v := 0) dX11_set_9 (by decide) ?_
    refine S_iconst (v := 1) dX11_set_10 (by decide) ?_
    refine S_callS [.int x2, .int 0, .int 1] [] m_RX11_114 rfl rfl (Nat.le_of_ble_eq_true rfl) (zroom_0 (by decide)) dX11_set_11 (zpure (sp_X11_within (I := I) (L := L) (M := M) (d + 1) x2 0 1) ?_)
    refine S_if_ne (tgt := 19) dX11_set_14 (by decide) (fun q2 => ?_) (fun q2 => ?_)
    · refine S_iload_n 3 dX11_set_19 rfl rfl ?_
      refine S_iconst (v := 0) dX11_set_20 (by decide) ?_
      refine S_sipush (v := 4095) dX11_set_21 (by decide) ?_
      refine S_callS [.int x3, .int 0, .int 4095] [] m_RX11_114 rfl rfl (Nat.le_of_ble_eq_true rfl) (zroom_0 (by decide)) dX11_set_24 (zpure (sp_X11_within (I := I) (L := L) (M := M) (d + 1) x3 0 4095) ?_)
      refine S_if_ne (tgt := 33) dX11_set_27 (by decide) (fun q3 => ?_) (fun q3 => ?_)
      · refine S_iload_n 2 dX11_set_33 rfl rfl ?_
        refine S_if_ne (tgt := 46) dX11_set_34 (by decide) (fun q4 => ?_) (fun q4 => ?_)
        · refine S_aload_n 0 dX11_set_46 rfl rfl ?_
          refine S_getP f_RX11_27 s_265 p_265_6 dX11_set_47 ?_
          refine S_iload_n 1 dX11_set_50 rfl rfl ?_
          refine S_iald s_271 ((((T.2 (zb_t q1)).1 (zb_t q2)).1 (zb_t q3)).1 q4).1 dX11_set_51 ?_
          exact S_sub [0, 1, 2, 3] rfl ((((T.2 (zb_t q1)).1 (zb_t q2)).1 (zb_t q3)).1 q4).2
        · refine S_aload_n 0 dX11_set_37 rfl rfl ?_
          refine S_getP f_RX11_24 s_265 p_265_5 dX11_set_38 ?_
          refine S_iload_n 1 dX11_set_41 rfl rfl ?_
          refine S_iald s_270 ((((T.2 (zb_t q1)).1 (zb_t q2)).1 (zb_t q3)).2 q4).1 dX11_set_42 ?_
          refine S_goto (tgt := 52) dX11_set_43 (by decide) ?_
          exact S_sub [0, 1, 2, 3] rfl ((((T.2 (zb_t q1)).1 (zb_t q2)).1 (zb_t q3)).2 q4).2
      · refine S_bipush (v := -2) dX11_set_30 (by decide) ?_
        exact S_ireti rfl dX11_set_32 ⟨_, I, L, M, rfl, rfl, (((T.2 (zb_t q1)).1 (zb_t q2)).2 (zb_f q3))⟩
    · refine S_iconst (v := -1) dX11_set_17 (by decide) ?_
      exact S_ireti rfl dX11_set_18 ⟨_, I, L, M, rfl, rfl, ((T.2 (zb_t q1)).2 (zb_f q2))⟩

set_option maxRecDepth 100000 in
theorem t_X11_set_52 {C : zC} {I : Nat → Nat → Int32} {L : Nat → Nat → Int64} {M : Nat → Nat → Option Nat} {h0 : zH} (d : Nat)   (y1 : Int32) (y2 : Int32) (y3 : Int32) (z0 : Int32) (K : Int32 → (Nat → Nat → Int32) → (Nat → Nat → Int64) → (Nat → Nat → Option Nat) → Prop) (T : ((¬ y2 = 0 → vp_in y1 6 ∧ K z0 (u2 I 271 y1.toNatClampNeg y3) L M) ∧ (y2 = 0 → vp_in y1 6 ∧ K z0 (u2 I 270 y1.toNatClampNeg y3) L M))) : zSI C h0 K Y_X11_set (d + 3) 52 [(0, .ref 265), (1, .int y1), (2, .int y2), (3, .int y3)] [.int z0] I L M := by
  refine S_istore dX11_set_52 (by decide) rfl ?_
  refine S_iload_n 3 dX11_set_54 rfl rfl ?_
  refine S_if_ne (tgt := 68) dX11_set_55 (by decide) (fun q1 => ?_) (fun q1 => ?_)
  · refine S_aload_n 1 dX11_set_68 rfl rfl ?_
    refine S_getP f_RX11_27 s_265 p_265_6 dX11_set_69 ?_
    refine S_iload_n 2 dX11_set_72 rfl rfl ?_
    refine S_iload_n 4 dX11_set_73 rfl rfl ?_
    refine S_iast s_271 (T.1 q1).1 dX11_set_74 ?_
    refine S_iload 0 dX11_set_75 rfl ?_
    exact S_ireti rfl dX11_set_77 ⟨_, u2 I 271 y1.toNatClampNeg y3, L, M, rfl, rfl, (T.1 q1).2⟩
  · refine S_aload_n 1 dX11_set_58 rfl rfl ?_
    refine S_getP f_RX11_24 s_265 p_265_5 dX11_set_59 ?_
    refine S_iload_n 2 dX11_set_62 rfl rfl ?_
    refine S_iload_n 4 dX11_set_63 rfl rfl ?_
    refine S_iast s_270 (T.2 q1).1 dX11_set_64 ?_
    refine S_goto (tgt := 75) dX11_set_65 (by decide) ?_
    refine S_iload 0 dX11_set_75 rfl ?_
    exact S_ireti rfl dX11_set_77 ⟨_, u2 I 270 y1.toNatClampNeg y3, L, M, rfl, rfl, (T.2 q1).2⟩

set_option maxRecDepth 100000 in
theorem t_X11_shift {C : zC} {I : Nat → Nat → Int32} {L : Nat → Nat → Int64} {M : Nat → Nat → Option Nat} (d : Nat) (x1 : Int32) (x2 : Int32) (x3 : Int32) (x4 : Int32) (x5 : Int32)  (K : Int32 → (Nat → Nat → Int32) → (Nat → Nat → Int64) → (Nat → Nat → Option Nat) → Prop) (T : ((¬ (0 ≤ x1 ∧ x1 < 6) → K ((-1)) I L M) ∧ ((0 ≤ x1 ∧ x1 < 6) → (((0 ≤ x3 ∧ x3 < 6) → vp_in x1 6 ∧ (((I 294 x1.toNatClampNeg) < 0 → K ((-11)) I L M) ∧ (¬ ((I 294 x1.toNatClampNeg) < 0) → vp_in x3 6 ∧ ((0 ≤ (I 294 x3.toNatClampNeg) → vp_in x1 6 ∧ vp_in x3 6 ∧ (((I 294 x1.toNatClampNeg) = (I 294 x3.toNatClampNeg) → ((x5 < 0 → K ((-13)) I L M) ∧ (¬ (x5 < 0) → ((x2 < 0 → K ((-13)) I L M) ∧ (¬ (x2 < 0) → ((x4 < 0 → K ((-13)) I L M) ∧ (¬ (x4 < 0) → vp_in x1 6 ∧ ((0 < (lg_cmp (((x2 : Int32).toInt64) + ((x5 : Int32).toInt64)) (((I 295 x1.toNatClampNeg) : Int32).toInt64)) → K ((-13)) I L M) ∧ (¬ (0 < (lg_cmp (((x2 : Int32).toInt64) + ((x5 : Int32).toInt64)) (((I 295 x1.toNatClampNeg) : Int32).toInt64))) → vp_in x3 6 ∧ (((lg_cmp (((x4 : Int32).toInt64) + ((x5 : Int32).toInt64)) (((I 295 x3.toNatClampNeg) : Int32).toInt64)) ≤ 0 → ((¬ x1 = x3 → zSI C (zmk I L M) K Y_X11_shift (d + 3) 170 [(0, .ref 265), (1, .int x1), (2, .int x2), (3, .int x3), (4, .int x4), (5, .int x5), (6, .int 0)] [] I L M) ∧ (x1 = x3 → ((x4 ≤ x2 → zSI C (zmk I L M) K Y_X11_shift (d + 3) 170 [(0, .ref 265), (1, .int x1), (2, .int x2), (3, .int x3), (4, .int x4), (5, .int x5), (6, .int 0)] [] I L M) ∧ (¬ (x4 ≤ x2) → zSI C (zmk I L M) K Y_X11_shift (d + 3) 124 [(0, .ref 265), (1, .int x1), (2, .int x2), (3, .int x3), (4, .int x4), (5, .int x5), (6, .int (x5 - (1 : Int32)))] [] I L M))))) ∧ (¬ ((lg_cmp (((x4 : Int32).toInt64) + ((x5 : Int32).toInt64)) (((I 295 x3.toNatClampNeg) : Int32).toInt64)) ≤ 0) → K ((-13)) I L M))))))))))) ∧ (¬ ((I 294 x1.toNatClampNeg) = (I 294 x3.toNatClampNeg)) → K ((-12)) I L M))) ∧ (¬ (0 ≤ (I 294 x3.toNatClampNeg)) → K ((-11)) I L M))))) ∧ (¬ (0 ≤ x3 ∧ x3 < 6) → K ((-1)) I L M))))) : zCI C Y_X11_shift (d + 3) [.ref 265, .int x1, .int x2, .int x3, .int x4, .int x5] (zmk I L M) K := by
  refine S_enter (by decide) (Nat.le_of_ble_eq_true rfl) ?_
  refine S_lv (lv' := [(0, .ref 265), (1, .int x1), (2, .int x2), (3, .int x3), (4, .int x4), (5, .int x5)]) rfl ?_
  refine S_iload_n 1 dX11_shift_0 rfl rfl ?_
  refine S_callS [.int x1] [] m_RX11_332 rfl rfl (Nat.le_of_ble_eq_true rfl) (zroom_0 (by decide)) dX11_shift_1 (zpure (sp_X11_isTape (I := I) (L := L) (M := M) (d + 0) x1) ?_)
  refine S_if_eq (tgt := 14) dX11_shift_4 (by decide) (fun q1 => ?_) (fun q1 => ?_)
  · refine S_iconst (v := -1) dX11_shift_14 (by decide) ?_
    exact S_ireti rfl dX11_shift_15 ⟨_, I, L, M, rfl, rfl, (T.1 (zb_f q1))⟩
  · refine S_iload_n 3 dX11_shift_7 rfl rfl ?_
    refine S_callS [.int x3] [] m_RX11_332 rfl rfl (Nat.le_of_ble_eq_true rfl) (zroom_0 (by decide)) dX11_shift_8 (zpure (sp_X11_isTape (I := I) (L := L) (M := M) (d + 0) x3) ?_)
    refine S_if_ne (tgt := 16) dX11_shift_11 (by decide) (fun q2 => ?_) (fun q2 => ?_)
    · refine S_aload_n 0 dX11_shift_16 rfl rfl ?_
      refine S_getP f_RX11_97 s_265 p_265_43 dX11_shift_17 ?_
      refine S_iload_n 1 dX11_shift_20 rfl rfl ?_
      refine S_iald s_294 ((T.2 (zb_t q1)).1 (zb_t q2)).1 dX11_shift_21 ?_
      refine S_if_lt (tgt := 34) dX11_shift_22 (by decide) (fun q3 => ?_) (fun q3 => ?_)
      · refine S_bipush (v := -11) dX11_shift_34 (by decide) ?_
        exact S_ireti rfl dX11_shift_36 ⟨_, I, L, M, rfl, rfl, (((T.2 (zb_t q1)).1 (zb_t q2)).2.1 q3)⟩
      · refine S_aload_n 0 dX11_shift_25 rfl rfl ?_
        refine S_getP f_RX11_97 s_265 p_265_43 dX11_shift_26 ?_
        refine S_iload_n 3 dX11_shift_29 rfl rfl ?_
        refine S_iald s_294 (((T.2 (zb_t q1)).1 (zb_t q2)).2.2 q3).1 dX11_shift_30 ?_
        refine S_if_ge (tgt := 37) dX11_shift_31 (by decide) (fun q4 => ?_) (fun q4 => ?_)
        · refine S_aload_n 0 dX11_shift_37 rfl rfl ?_
          refine S_getP f_RX11_97 s_265 p_265_43 dX11_shift_38 ?_
          refine S_iload_n 1 dX11_shift_41 rfl rfl ?_
          refine S_iald s_294 ((((T.2 (zb_t q1)).1 (zb_t q2)).2.2 q3).2.1 q4).1 dX11_shift_42 ?_
          refine S_aload_n 0 dX11_shift_43 rfl rfl ?_
          refine S_getP f_RX11_97 s_265 p_265_43 dX11_shift_44 ?_
          refine S_iload_n 3 dX11_shift_47 rfl rfl ?_
          refine S_iald s_294 ((((T.2 (zb_t q1)).1 (zb_t q2)).2.2 q3).2.1 q4).2.1 dX11_shift_48 ?_
          refine S_icmp_eq (tgt := 55) dX11_shift_49 (by decide) (fun q5 => ?_) (fun q5 => ?_)
          · refine S_iload 5 dX11_shift_55 rfl ?_
            refine S_if_lt (tgt := 104) dX11_shift_57 (by decide) (fun q6 => ?_) (fun q6 => ?_)
            · refine S_bipush (v := -13) dX11_shift_104 (by decide) ?_
              exact S_ireti rfl dX11_shift_106 ⟨_, I, L, M, rfl, rfl, ((((((T.2 (zb_t q1)).1 (zb_t q2)).2.2 q3).2.1 q4).2.2.1 q5).1 q6)⟩
            · refine S_iload_n 2 dX11_shift_60 rfl rfl ?_
              refine S_if_lt (tgt := 104) dX11_shift_61 (by decide) (fun q7 => ?_) (fun q7 => ?_)
              · refine S_bipush (v := -13) dX11_shift_104 (by decide) ?_
                exact S_ireti rfl dX11_shift_106 ⟨_, I, L, M, rfl, rfl, (((((((T.2 (zb_t q1)).1 (zb_t q2)).2.2 q3).2.1 q4).2.2.1 q5).2 q6).1 q7)⟩
              · refine S_iload 4 dX11_shift_64 rfl ?_
                refine S_if_lt (tgt := 104) dX11_shift_66 (by decide) (fun q8 => ?_) (fun q8 => ?_)
                · refine S_bipush (v := -13) dX11_shift_104 (by decide) ?_
                  exact S_ireti rfl dX11_shift_106 ⟨_, I, L, M, rfl, rfl, ((((((((T.2 (zb_t q1)).1 (zb_t q2)).2.2 q3).2.1 q4).2.2.1 q5).2 q6).2 q7).1 q8)⟩
                · refine S_iload_n 2 dX11_shift_69 rfl rfl ?_
                  refine S_i2l dX11_shift_70 ?_
                  refine S_iload 5 dX11_shift_71 rfl ?_
                  refine S_i2l dX11_shift_73 ?_
                  refine S_ladd dX11_shift_74 ?_
                  refine S_aload_n 0 dX11_shift_75 rfl rfl ?_
                  refine S_getP f_RX11_100 s_265 p_265_44 dX11_shift_76 ?_
                  refine S_iload_n 1 dX11_shift_79 rfl rfl ?_
                  refine S_iald s_295 ((((((((T.2 (zb_t q1)).1 (zb_t q2)).2.2 q3).2.1 q4).2.2.1 q5).2 q6).2 q7).2 q8).1 dX11_shift_80 ?_
                  refine S_i2l dX11_shift_81 ?_
                  refine S_lcmp dX11_shift_82 ?_
                  refine S_if_gt (tgt := 104) dX11_shift_83 (by decide) (fun q9 => ?_) (fun q9 => ?_)
                  · refine S_bipush (v := -13) dX11_shift_104 (by decide) ?_
                    exact S_ireti rfl dX11_shift_106 ⟨_, I, L, M, rfl, rfl, (((((((((T.2 (zb_t q1)).1 (zb_t q2)).2.2 q3).2.1 q4).2.2.1 q5).2 q6).2 q7).2 q8).2.1 q9)⟩
                  · refine S_iload 4 dX11_shift_86 rfl ?_
                    refine S_i2l dX11_shift_88 ?_
                    refine S_iload 5 dX11_shift_89 rfl ?_
                    refine S_i2l dX11_shift_91 ?_
                    refine S_ladd dX11_shift_92 ?_
                    refine S_aload_n 0 dX11_shift_93 rfl rfl ?_
                    refine S_getP f_RX11_100 s_265 p_265_44 dX11_shift_94 ?_
                    refine S_iload_n 3 dX11_shift_97 rfl rfl ?_
                    refine S_iald s_295 (((((((((T.2 (zb_t q1)).1 (zb_t q2)).2.2 q3).2.1 q4).2.2.1 q5).2 q6).2 q7).2 q8).2.2 q9).1 dX11_shift_98 ?_
                    refine S_i2l dX11_shift_99 ?_
                    refine S_lcmp dX11_shift_100 ?_
                    refine S_if_le (tgt := 107) dX11_shift_101 (by decide) (fun q10 => ?_) (fun q10 => ?_)
                    · refine S_iload_n 1 dX11_shift_107 rfl rfl ?_
                      refine S_iload_n 3 dX11_shift_108 rfl rfl ?_
                      refine S_icmp_ne (tgt := 167) dX11_shift_109 (by decide) (fun q11 => ?_) (fun q11 => ?_)
                      · refine S_iconst (v := 0) dX11_shift_167 (by decide) ?_
                        refine S_istore dX11_shift_168 (by decide) rfl ?_
                        exact S_sub [1, 2, 3, 4, 5, 6, 0] rfl (((((((((((T.2 (zb_t q1)).1 (zb_t q2)).2.2 q3).2.1 q4).2.2.1 q5).2 q6).2 q7).2 q8).2.2 q9).2.1 q10).1 q11)
                      · refine S_iload_n 2 dX11_shift_112 rfl rfl ?_
                        refine S_iload 4 dX11_shift_113 rfl ?_
                        refine S_icmp_ge (tgt := 167) dX11_shift_115 (by decide) (fun q12 => ?_) (fun q12 => ?_)
                        · refine S_iconst (v := 0) dX11_shift_167 (by decide) ?_
                          refine S_istore dX11_shift_168 (by decide) rfl ?_
                          exact S_sub [1, 2, 3, 4, 5, 6, 0] rfl ((((((((((((T.2 (zb_t q1)).1 (zb_t q2)).2.2 q3).2.1 q4).2.2.1 q5).2 q6).2 q7).2 q8).2.2 q9).2.1 q10).2 q11).1 q12)
                        · refine S_iload 5 dX11_shift_118 rfl ?_
                          refine S_iconst (v := 1) dX11_shift_120 (by decide) ?_
                          refine S_isub dX11_shift_121 ?_
                          refine S_istore dX11_shift_122 (by decide) rfl ?_
                          exact S_sub [1, 2, 3, 4, 5, 6, 0] rfl ((((((((((((T.2 (zb_t q1)).1 (zb_t q2)).2.2 q3).2.1 q4).2.2.1 q5).2 q6).2 q7).2 q8).2.2 q9).2.1 q10).2 q11).2 q12)
                    · refine S_bipush (v := -13) dX11_shift_104 (by decide) ?_
                      exact S_ireti rfl dX11_shift_106 ⟨_, I, L, M, rfl, rfl, ((((((((((T.2 (zb_t q1)).1 (zb_t q2)).2.2 q3).2.1 q4).2.2.1 q5).2 q6).2 q7).2 q8).2.2 q9).2.2 q10)⟩
          · refine S_bipush (v := -12) dX11_shift_52 (by decide) ?_
            exact S_ireti rfl dX11_shift_54 ⟨_, I, L, M, rfl, rfl, (((((T.2 (zb_t q1)).1 (zb_t q2)).2.2 q3).2.1 q4).2.2.2 q5)⟩
        · refine S_bipush (v := -11) dX11_shift_34 (by decide) ?_
          exact S_ireti rfl dX11_shift_36 ⟨_, I, L, M, rfl, rfl, ((((T.2 (zb_t q1)).1 (zb_t q2)).2.2 q3).2.2 q4)⟩
    · refine S_iconst (v := -1) dX11_shift_14 (by decide) ?_
      exact S_ireti rfl dX11_shift_15 ⟨_, I, L, M, rfl, rfl, ((T.2 (zb_t q1)).2 (zb_f q2))⟩

set_option maxRecDepth 100000 in
theorem t_X11_shift_170 {C : zC} {I : Nat → Nat → Int32} {L : Nat → Nat → Int64} {M : Nat → Nat → Option Nat} {h0 : zH} (d : Nat)   (y1 : Int32) (y2 : Int32) (y3 : Int32) (y4 : Int32) (y5 : Int32) (y6 : Int32) (K : Int32 → (Nat → Nat → Int32) → (Nat → Nat → Int64) → (Nat → Nat → Option Nat) → Prop) (T : ((y5 ≤ y6 → K y5 I L M) ∧ (¬ (y5 ≤ y6) → vp_in (((((60 : Int32) * y1) + y2) + y6)) 360 ∧ vp_in (((((60 : Int32) * y3) + y4) + y6)) 360 ∧ zSI C h0 K Y_X11_shift (d + 3) 170 [(0, .ref 265), (1, .int y1), (2, .int y2), (3, .int y3), (4, .int y4), (5, .int y5), (6, .int (y6 + 1))] [] I (u2 L 296 ((((((60 : Int32) * y3) + y4) + y6)).toNatClampNeg) ((L 296 ((((((60 : Int32) * y1) + y2) + y6)).toNatClampNeg)))) M))) : zSI C h0 K Y_X11_shift (d + 3) 170 [(0, .ref 265), (1, .int y1), (2, .int y2), (3, .int y3), (4, .int y4), (5, .int y5), (6, .int y6)] [] I L M := by
  refine S_iload 6 dX11_shift_170 rfl ?_
  refine S_iload 5 dX11_shift_172 rfl ?_
  refine S_icmp_ge (tgt := 212) dX11_shift_174 (by decide) (fun q1 => ?_) (fun q1 => ?_)
  · refine S_iload 5 dX11_shift_212 rfl ?_
    exact S_ireti rfl dX11_shift_214 ⟨_, I, L, M, rfl, rfl, (T.1 q1)⟩
  · refine S_aload_n 0 dX11_shift_177 rfl rfl ?_
    refine S_getP f_RX11_103 s_265 p_265_45 dX11_shift_178 ?_
    refine S_bipush (v := 60) dX11_shift_181 (by decide) ?_
    refine S_iload_n 3 dX11_shift_183 rfl rfl ?_
    refine S_imul dX11_shift_184 ?_
    refine S_iload 4 dX11_shift_185 rfl ?_
    refine S_iadd dX11_shift_187 ?_
    refine S_iload 6 dX11_shift_188 rfl ?_
    refine S_iadd dX11_shift_190 ?_
    refine S_aload_n 0 dX11_shift_191 rfl rfl ?_
    refine S_getP f_RX11_103 s_265 p_265_45 dX11_shift_192 ?_
    refine S_bipush (v := 60) dX11_shift_195 (by decide) ?_
    refine S_iload_n 1 dX11_shift_197 rfl rfl ?_
    refine S_imul dX11_shift_198 ?_
    refine S_iload_n 2 dX11_shift_199 rfl rfl ?_
    refine S_iadd dX11_shift_200 ?_
    refine S_iload 6 dX11_shift_201 rfl ?_
    refine S_iadd dX11_shift_203 ?_
    refine S_lald s_296 (T.2 q1).1 dX11_shift_204 ?_
    refine S_last s_296 (T.2 q1).2.1 dX11_shift_205 ?_
    refine S_iinc 6 dX11_shift_206 rfl rfl (by decide) rfl ?_
    refine S_goto (tgt := 170) dX11_shift_209 (by decide) ?_
    exact S_sub [1, 2, 3, 4, 5, 6, 0] rfl (T.2 q1).2.2

set_option maxRecDepth 100000 in
theorem t_X11_shift_124 {C : zC} {I : Nat → Nat → Int32} {L : Nat → Nat → Int64} {M : Nat → Nat → Option Nat} {h0 : zH} (d : Nat)   (y1 : Int32) (y2 : Int32) (y3 : Int32) (y4 : Int32) (y5 : Int32) (y6 : Int32) (K : Int32 → (Nat → Nat → Int32) → (Nat → Nat → Int64) → (Nat → Nat → Option Nat) → Prop) (T : ((y6 < 0 → K y5 I L M) ∧ (¬ (y6 < 0) → vp_in (((((60 : Int32) * y1) + y2) + y6)) 360 ∧ vp_in (((((60 : Int32) * y3) + y4) + y6)) 360 ∧ zSI C h0 K Y_X11_shift (d + 3) 124 [(0, .ref 265), (1, .int y1), (2, .int y2), (3, .int y3), (4, .int y4), (5, .int y5), (6, .int (y6 + (-1)))] [] I (u2 L 296 ((((((60 : Int32) * y3) + y4) + y6)).toNatClampNeg) ((L 296 ((((((60 : Int32) * y1) + y2) + y6)).toNatClampNeg)))) M))) : zSI C h0 K Y_X11_shift (d + 3) 124 [(0, .ref 265), (1, .int y1), (2, .int y2), (3, .int y3), (4, .int y4), (5, .int y5), (6, .int y6)] [] I L M := by
  refine S_iload 6 dX11_shift_124 rfl ?_
  refine S_if_lt (tgt := 164) dX11_shift_126 (by decide) (fun q1 => ?_) (fun q1 => ?_)
  · refine S_goto (tgt := 212) dX11_shift_164 (by decide) ?_
    refine S_iload 5 dX11_shift_212 rfl ?_
    exact S_ireti rfl dX11_shift_214 ⟨_, I, L, M, rfl, rfl, (T.1 q1)⟩
  · refine S_aload_n 0 dX11_shift_129 rfl rfl ?_
    refine S_getP f_RX11_103 s_265 p_265_45 dX11_shift_130 ?_
    refine S_bipush (v := 60) dX11_shift_133 (by decide) ?_
    refine S_iload_n 3 dX11_shift_135 rfl rfl ?_
    refine S_imul dX11_shift_136 ?_
    refine S_iload 4 dX11_shift_137 rfl ?_
    refine S_iadd dX11_shift_139 ?_
    refine S_iload 6 dX11_shift_140 rfl ?_
    refine S_iadd dX11_shift_142 ?_
    refine S_aload_n 0 dX11_shift_143 rfl rfl ?_
    refine S_getP f_RX11_103 s_265 p_265_45 dX11_shift_144 ?_
    refine S_bipush (v := 60) dX11_shift_147 (by decide) ?_
    refine S_iload_n 1 dX11_shift_149 rfl rfl ?_
    refine S_imul dX11_shift_150 ?_
    refine S_iload_n 2 dX11_shift_151 rfl rfl ?_
    refine S_iadd dX11_shift_152 ?_
    refine S_iload 6 dX11_shift_153 rfl ?_
    refine S_iadd dX11_shift_155 ?_
    refine S_lald s_296 (T.2 q1).1 dX11_shift_156 ?_
    refine S_last s_296 (T.2 q1).2.1 dX11_shift_157 ?_
    refine S_iinc 6 dX11_shift_158 rfl rfl (by decide) rfl ?_
    refine S_goto (tgt := 124) dX11_shift_161 (by decide) ?_
    exact S_sub [1, 2, 3, 4, 5, 6, 0] rfl (T.2 q1).2.2

set_option maxRecDepth 100000 in
theorem t_X11_stay {C : zC} {I : Nat → Nat → Int32} {L : Nat → Nat → Int64} {M : Nat → Nat → Option Nat} (d : Nat) (x1 : Int32) (x2 : Int32)  (K : Int32 → (Nat → Nat → Int32) → (Nat → Nat → Int64) → (Nat → Nat → Option Nat) → Prop) (T : (((0 ≤ x1 ∧ x1 ≤ I 265 2 - 1) → vp_in x1 6 ∧ ((x2 = 0 → vp_in x1 6 ∧ K ((I 272 x1.toNatClampNeg)) (u2 I 272 x1.toNatClampNeg 0) L M) ∧ (¬ (x2 = 0) → vp_in x1 6 ∧ K ((I 272 x1.toNatClampNeg)) (u2 I 272 x1.toNatClampNeg 1) L M))) ∧ (¬ (0 ≤ x1 ∧ x1 ≤ I 265 2 - 1) → K ((-1)) I L M))) : zCI C Y_X11_stay (d + 3) [.ref 265, .int x1, .int x2] (zmk I L M) K := by
  refine S_enter (by decide) (Nat.le_of_ble_eq_true rfl) ?_
  refine S_lv (lv' := [(0, .ref 265), (1, .int x1), (2, .int x2)]) rfl ?_
  refine S_aload_n 0 dX11_stay_0 rfl rfl ?_
  refine S_iload_n 1 dX11_stay_1 rfl rfl ?_
  refine S_callV [.int x1] [] m_RX11_118 rfl rfl s_265 ⟨rfl, by decide⟩ (Nat.le_of_ble_eq_true rfl) (zroom_0 (by decide)) dX11_stay_2 (zpure (sp_X11_isOne (I := I) (L := L) (M := M) (d + 0) x1) ?_)
  refine S_if_ne (tgt := 10) dX11_stay_5 (by decide) (fun q1 => ?_) (fun q1 => ?_)
  · refine S_aload_n 0 dX11_stay_10 rfl rfl ?_
    refine S_getP f_RX11_30 s_265 p_265_7 dX11_stay_11 ?_
    refine S_iload_n 1 dX11_stay_14 rfl rfl ?_
    refine S_iald s_272 (T.1 (zb_t q1)).1 dX11_stay_15 ?_
    refine S_istore_n dX11_stay_16 rfl (by decide) rfl ?_
    refine S_aload_n 1 dX11_stay_17 rfl rfl ?_
    refine S_getP f_RX11_30 s_265 p_265_7 dX11_stay_18 ?_
    refine S_iload_n 2 dX11_stay_21 rfl rfl ?_
    refine S_iload_n 3 dX11_stay_22 rfl rfl ?_
    refine S_if_eq (tgt := 30) dX11_stay_23 (by decide) (fun q2 => ?_) (fun q2 => ?_)
    · refine S_iconst (v := 0) dX11_stay_30 (by decide) ?_
      refine S_iast s_272 ((T.1 (zb_t q1)).2.1 q2).1 dX11_stay_31 ?_
      refine S_iload_n 0 dX11_stay_32 rfl rfl ?_
      exact S_ireti rfl dX11_stay_33 ⟨_, u2 I 272 x1.toNatClampNeg 0, L, M, rfl, rfl, ((T.1 (zb_t q1)).2.1 q2).2⟩
    · refine S_iconst (v := 1) dX11_stay_26 (by decide) ?_
      refine S_goto (tgt := 31) dX11_stay_27 (by decide) ?_
      refine S_iast s_272 ((T.1 (zb_t q1)).2.2 q2).1 dX11_stay_31 ?_
      refine S_iload_n 0 dX11_stay_32 rfl rfl ?_
      exact S_ireti rfl dX11_stay_33 ⟨_, u2 I 272 x1.toNatClampNeg 1, L, M, rfl, rfl, ((T.1 (zb_t q1)).2.2 q2).2⟩
  · refine S_iconst (v := -1) dX11_stay_8 (by decide) ?_
    exact S_ireti rfl dX11_stay_9 ⟨_, I, L, M, rfl, rfl, (T.2 (zb_f q1))⟩

set_option maxRecDepth 100000 in
theorem t_X11_sum {C : zC} {I : Nat → Nat → Int32} {L : Nat → Nat → Int64} {M : Nat → Nat → Option Nat} (d : Nat) (x1 : Int32) (x2 : Int32)  (K : Int32 → (Nat → Nat → Int32) → (Nat → Nat → Int64) → (Nat → Nat → Option Nat) → Prop) (T : vp_in x2 12 ∧ zSI C (zmk I L M) K Y_X11_sum (d + 3) 14 [(0, .ref 265), (1, .int x1), (2, .int x2), (3, .int ((5 : Int32) + ((2 : Int32) * (I 266 x2.toNatClampNeg)))), (4, .int 0)] [] I L M) : zCI C Y_X11_sum (d + 3) [.ref 265, .int x1, .int x2] (zmk I L M) K := by
  refine S_enter (by decide) (Nat.le_of_ble_eq_true rfl) ?_
  refine S_lv (lv' := [(0, .ref 265), (1, .int x1), (2, .int x2)]) rfl ?_
  refine S_iconst (v := 5) dX11_sum_0 (by decide) ?_
  refine S_iconst (v := 2) dX11_sum_1 (by decide) ?_
  refine S_aload_n 0 dX11_sum_2 rfl rfl ?_
  refine S_getP f_RX11_9 s_265 p_265_0 dX11_sum_3 ?_
  refine S_iload_n 2 dX11_sum_6 rfl rfl ?_
  refine S_iald s_266 T.1 dX11_sum_7 ?_
  refine S_imul dX11_sum_8 ?_
  refine S_iadd dX11_sum_9 ?_
  refine S_istore_n dX11_sum_10 rfl (by decide) rfl ?_
  refine S_iconst (v := 0) dX11_sum_11 (by decide) ?_
  refine S_istore dX11_sum_12 (by decide) rfl ?_
  exact S_sub [2, 3, 4, 1, 0] rfl T.2

set_option maxRecDepth 100000 in
theorem t_X11_sum_14 {C : zC} {I : Nat → Nat → Int32} {L : Nat → Nat → Int64} {M : Nat → Nat → Option Nat} {h0 : zH} (d : Nat)   (y1 : Int32) (y2 : Int32) (y3 : Int32) (y4 : Int32) (K : Int32 → (Nat → Nat → Int32) → (Nat → Nat → Int64) → (Nat → Nat → Option Nat) → Prop) (T : (((I 265 17) = (-1) → K y3 I L M) ∧ (¬ ((I 265 17) = (-1)) → vp_in ((I 265 17)) 6 ∧ (((I 275 (((I 265 17)).toNatClampNeg)) ≤ y4 → K y3 I L M) ∧ (¬ ((I 275 (((I 265 17)).toNatClampNeg)) ≤ y4) → vp_in ((((10 : Int32) * (I 265 17)) + y4)) 61 ∧ ((2 ≤ (I 276 (((((10 : Int32) * (I 265 17)) + y4)).toNatClampNeg)) → zSI C h0 K Y_X11_sum (d + 3) 14 [(0, .ref 265), (1, .int y1), (2, .int y2), (3, .int y3), (4, .int (y4 + 1))] [] I L M) ∧ (¬ (2 ≤ (I 276 (((((10 : Int32) * (I 265 17)) + y4)).toNatClampNeg))) → zCI C Y_X11_isTrue (d + 2) [.ref 265, .int y1, .int y2, .int (((10 : Int32) * (I 265 17)) + y4)] (zmk I L M) (fun r1_4 I1_4 L1_4 M1_4 => ((r1_4 = 0 → zSI C h0 K Y_X11_sum (d + 3) 14 [(0, .ref 265), (1, .int y1), (2, .int y2), (3, .int y3), (4, .int (y4 + 1))] [] I1_4 L1_4 M1_4) ∧ (¬ (r1_4 = 0) → vp_in ((((10 : Int32) * (I 265 17)) + y4)) 61 ∧ ((¬ (I1_4 276 (((((10 : Int32) * (I 265 17)) + y4)).toNatClampNeg)) = 0 → vp_in ((((10 : Int32) * (I 265 17)) + y4)) 61 ∧ zSI C h0 K Y_X11_sum (d + 3) 14 [(0, .ref 265), (1, .int y1), (2, .int y2), (3, .int (y3 + (-(I1_4 277 (((((10 : Int32) * (I 265 17)) + y4)).toNatClampNeg))))), (4, .int (y4 + 1))] [] I1_4 L1_4 M1_4) ∧ ((I1_4 276 (((((10 : Int32) * (I 265 17)) + y4)).toNatClampNeg)) = 0 → vp_in ((((10 : Int32) * (I 265 17)) + y4)) 61 ∧ zSI C h0 K Y_X11_sum (d + 3) 14 [(0, .ref 265), (1, .int y1), (2, .int y2), (3, .int (y3 + (I1_4 277 (((((10 : Int32) * (I 265 17)) + y4)).toNatClampNeg)))), (4, .int (y4 + 1))] [] I1_4 L1_4 M1_4)))))))))))) : zSI C h0 K Y_X11_sum (d + 3) 14 [(0, .ref 265), (1, .int y1), (2, .int y2), (3, .int y3), (4, .int y4)] [] I L M := by
  refine S_aload_n 0 dX11_sum_14 rfl rfl ?_
  refine S_getI f_RX11_107 s_265 dX11_sum_15 ?_
  refine S_iconst (v := -1) dX11_sum_18 (by decide) ?_
  refine S_icmp_eq (tgt := 107) dX11_sum_19 (by decide) (fun q1 => ?_) (fun q1 => ?_)
  · refine S_iload_n 3 dX11_sum_107 rfl rfl ?_
    exact S_ireti rfl dX11_sum_108 ⟨_, I, L, M, rfl, rfl, (T.1 q1)⟩
  · refine S_iload 4 dX11_sum_22 rfl ?_
    refine S_aload_n 0 dX11_sum_24 rfl rfl ?_
    refine S_getP f_RX11_39 s_265 p_265_18 dX11_sum_25 ?_
    refine S_aload_n 0 dX11_sum_28 rfl rfl ?_
    refine S_getI f_RX11_107 s_265 dX11_sum_29 ?_
    refine S_iald s_275 (T.2 q1).1 dX11_sum_32 ?_
    refine S_icmp_ge (tgt := 107) dX11_sum_33 (by decide) (fun q2 => ?_) (fun q2 => ?_)
    · refine S_iload_n 3 dX11_sum_107 rfl rfl ?_
      exact S_ireti rfl dX11_sum_108 ⟨_, I, L, M, rfl, rfl, ((T.2 q1).2.1 q2)⟩
    · refine S_bipush (v := 10) dX11_sum_36 (by decide) ?_
      refine S_aload_n 0 dX11_sum_38 rfl rfl ?_
      refine S_getI f_RX11_107 s_265 dX11_sum_39 ?_
      refine S_imul dX11_sum_42 ?_
      refine S_iload 4 dX11_sum_43 rfl ?_
      refine S_iadd dX11_sum_45 ?_
      refine S_istore dX11_sum_46 (by decide) rfl ?_
      refine S_aload_n 1 dX11_sum_48 rfl rfl ?_
      refine S_getP f_RX11_42 s_265 p_265_19 dX11_sum_49 ?_
      refine S_iload 0 dX11_sum_52 rfl ?_
      refine S_iald s_276 ((T.2 q1).2.2 q2).1 dX11_sum_54 ?_
      refine S_iconst (v := 2) dX11_sum_55 (by decide) ?_
      refine S_icmp_ge (tgt := 101) dX11_sum_56 (by decide) (fun q3 => ?_) (fun q3 => ?_)
      · refine S_iinc 5 dX11_sum_101 rfl rfl (by decide) rfl ?_
        refine S_goto (tgt := 14) dX11_sum_104 (by decide) ?_
        exact S_sub [2, 3, 4, 5, 0] rfl (((T.2 q1).2.2 q2).2.1 q3)
      · refine S_aload_n 1 dX11_sum_59 rfl rfl ?_
        refine S_iload_n 2 dX11_sum_60 rfl rfl ?_
        refine S_iload_n 3 dX11_sum_61 rfl rfl ?_
        refine S_iload 0 dX11_sum_62 rfl ?_
        refine S_callV [.int y1, .int y2, .int (((10 : Int32) * (I 265 17)) + y4)] [] m_RX11_228 rfl rfl s_265 ⟨rfl, by decide⟩ (Nat.le_of_ble_eq_true rfl) (zroom_0 (by decide)) dX11_sum_64 (zCI_use (((T.2 q1).2.2 q2).2.2 q3) ?_)
        intro r1_4 I1_4 L1_4 M1_4 T1_4
        refine S_if_eq (tgt := 101) dX11_sum_67 (by decide) (fun q4 => ?_) (fun q4 => ?_)
        · refine S_iinc 5 dX11_sum_101 rfl rfl (by decide) rfl ?_
          refine S_goto (tgt := 14) dX11_sum_104 (by decide) ?_
          exact S_sub [2, 3, 4, 5, 0] rfl (T1_4.1 q4)
        · refine S_iload_n 4 dX11_sum_70 rfl rfl ?_
          refine S_aload_n 1 dX11_sum_71 rfl rfl ?_
          refine S_getP f_RX11_42 s_265 p_265_19 dX11_sum_72 ?_
          refine S_iload 0 dX11_sum_75 rfl ?_
          refine S_iald s_276 (T1_4.2 q4).1 dX11_sum_77 ?_
          refine S_if_ne (tgt := 91) dX11_sum_78 (by decide) (fun q5 => ?_) (fun q5 => ?_)
          · refine S_aload_n 1 dX11_sum_91 rfl rfl ?_
            refine S_getP f_RX11_45 s_265 p_265_20 dX11_sum_92 ?_
            refine S_iload 0 dX11_sum_95 rfl ?_
            refine S_iald s_277 ((T1_4.2 q4).2.1 q5).1 dX11_sum_97 ?_
            refine S_ineg dX11_sum_98 ?_
            refine S_iadd dX11_sum_99 ?_
            refine S_istore_n dX11_sum_100 rfl (by decide) rfl ?_
            refine S_iinc 5 dX11_sum_101 rfl rfl (by decide) rfl ?_
            refine S_goto (tgt := 14) dX11_sum_104 (by decide) ?_
            exact S_sub [3, 4, 5, 1, 0] rfl ((T1_4.2 q4).2.1 q5).2
          · refine S_aload_n 1 dX11_sum_81 rfl rfl ?_
            refine S_getP f_RX11_45 s_265 p_265_20 dX11_sum_82 ?_
            refine S_iload 0 dX11_sum_85 rfl ?_
            refine S_iald s_277 ((T1_4.2 q4).2.2 q5).1 dX11_sum_87 ?_
            refine S_goto (tgt := 99) dX11_sum_88 (by decide) ?_
            refine S_iadd dX11_sum_99 ?_
            refine S_istore_n dX11_sum_100 rfl (by decide) rfl ?_
            refine S_iinc 5 dX11_sum_101 rfl rfl (by decide) rfl ?_
            refine S_goto (tgt := 14) dX11_sum_104 (by decide) ?_
            exact S_sub [3, 4, 5, 1, 0] rfl ((T1_4.2 q4).2.2 q5).2

set_option maxRecDepth 100000 in
theorem t_X11_tells {C : zC} {I : Nat → Nat → Int32} {L : Nat → Nat → Int64} {M : Nat → Nat → Option Nat} (d : Nat) (x1 : Int32) (x2 : Int32) (x3 : Int32)  (K : Int32 → (Nat → Nat → Int32) → (Nat → Nat → Int64) → (Nat → Nat → Option Nat) → Prop) (T : ((x2 = 0 → zCV C Y_X11_ran (d + 3) [.ref 265, .int 12] (zmk I L M) (fun I1_2 L1_2 M1_2 => vp_in x1 6 ∧ zCI C Y_X11_wakes (d + 3) [.ref 265, .int x1, .int (I1_2 268 x1.toNatClampNeg), .int x3] (zmk I1_2 L1_2 M1_2) (fun r2_2 I2_2 L2_2 M2_2 => K ((r2_2 * (2 : Int32))) I2_2 L2_2 M2_2))) ∧ (x2 = 3 → zCV C Y_X11_ran (d + 3) [.ref 265, .int 40] (zmk I L M) (fun I3_2 L3_2 M3_2 => zCI C Y_X11_tells (d + 3) [.ref 265, .int x1, .int 0, .int x3] (zmk I3_2 L3_2 M3_2) (fun r4_2 I4_2 L4_2 M4_2 => vp_in x1 6 ∧ zCI C Y_X11_wakes (d + 3) [.ref 265, .int x1, .int (I4_2 268 x1.toNatClampNeg), .int 1] (zmk I4_2 L4_2 M4_2) (fun r5_2 I5_2 L5_2 M5_2 => K ((r4_2 + r5_2)) I5_2 L5_2 M5_2)))) ∧ (x2 = 5 → zCV C Y_X11_ran (d + 3) [.ref 265, .int 60] (zmk I L M) (fun I6_2 L6_2 M6_2 => zCI C Y_X11_tells (d + 3) [.ref 265, .int x1, .int 2, .int (x3 - x1)] (zmk I6_2 L6_2 M6_2) (fun r7_2 I7_2 L7_2 M7_2 => K r7_2 I7_2 L7_2 M7_2))) ∧ (¬ x2 = 0 → ¬ x2 = 3 → ¬ x2 = 5 → zCI C Y_X11_above (d + 3) [.int x2] (zmk I L M) (fun r8_1 I8_1 L8_1 M8_1 => zCI C Y_X11_tells (d + 3) [.ref 265, .int x1, .int r8_1, .int x3] (zmk I8_1 L8_1 M8_1) (fun r9_1 I9_1 L9_1 M9_1 => K r9_1 I9_1 L9_1 M9_1))))) : zCI C Y_X11_tells (d + 4) [.ref 265, .int x1, .int x2, .int x3] (zmk I L M) K := by
  refine S_enter (by decide) (Nat.le_of_ble_eq_true rfl) ?_
  refine S_lv (lv' := [(0, .ref 265), (1, .int x1), (2, .int x2), (3, .int x3)]) rfl ?_
  refine S_iload_n 2 dX11_tells_0 rfl rfl ?_
  by_cases q1_0 : x2 = 0
  · refine S_lookK (tgt := 83) dX11_tells_1 (by decide) q1_0 (off := 82) rfl (by decide) ?_
    refine S_aload_n 0 dX11_tells_83 rfl rfl ?_
    refine S_bipush (v := 12) dX11_tells_84 (by decide) ?_
    refine S_callV [.int 12] [] m_RX11_317 rfl rfl s_265 ⟨rfl, by decide⟩ (Nat.le_of_ble_eq_true rfl) (zroom_0 (by decide)) dX11_tells_86 (zCV_use (T.1 q1_0) ?_)
    intro I1_2 L1_2 M1_2 T1_2
    refine S_aload_n 0 dX11_tells_89 rfl rfl ?_
    refine S_iload_n 1 dX11_tells_90 rfl rfl ?_
    refine S_aload_n 0 dX11_tells_91 rfl rfl ?_
    refine S_getP f_RX11_18 s_265 p_265_3 dX11_tells_92 ?_
    refine S_iload_n 1 dX11_tells_95 rfl rfl ?_
    refine S_iald s_268 T1_2.1 dX11_tells_96 ?_
    refine S_iload_n 3 dX11_tells_97 rfl rfl ?_
    refine S_callV [.int x1, .int (I1_2 268 x1.toNatClampNeg), .int x3] [] m_RX11_326 rfl rfl s_265 ⟨rfl, by decide⟩ (Nat.le_of_ble_eq_true rfl) (zroom_0 (by decide)) dX11_tells_98 (zCI_use T1_2.2 ?_)
    intro r2_2 I2_2 L2_2 M2_2 T2_2
    refine S_iconst (v := 2) dX11_tells_101 (by decide) ?_
    refine S_imul dX11_tells_102 ?_
    exact S_ireti rfl dX11_tells_103 ⟨_, I2_2, L2_2, M2_2, rfl, rfl, T2_2⟩
  by_cases q1_1 : x2 = 3
  · refine S_lookK (tgt := 36) dX11_tells_1 (by decide) q1_1 (off := 35) rfl (by decide) ?_
    refine S_aload_n 0 dX11_tells_36 rfl rfl ?_
    refine S_bipush (v := 40) dX11_tells_37 (by decide) ?_
    refine S_callV [.int 40] [] m_RX11_317 rfl rfl s_265 ⟨rfl, by decide⟩ (Nat.le_of_ble_eq_true rfl) (zroom_0 (by decide)) dX11_tells_39 (zCV_use (T.2.1 q1_1) ?_)
    intro I3_2 L3_2 M3_2 T3_2
    refine S_aload_n 0 dX11_tells_42 rfl rfl ?_
    refine S_iload_n 1 dX11_tells_43 rfl rfl ?_
    refine S_iconst (v := 0) dX11_tells_44 (by decide) ?_
    refine S_iload_n 3 dX11_tells_45 rfl rfl ?_
    refine S_callV [.int x1, .int 0, .int x3] [] m_RX11_329 rfl rfl s_265 ⟨rfl, by decide⟩ (Nat.le_of_ble_eq_true rfl) (zroom_0 (by decide)) dX11_tells_46 (zCI_use T3_2 ?_)
    intro r4_2 I4_2 L4_2 M4_2 T4_2
    refine S_istore dX11_tells_49 (by decide) rfl ?_
    refine S_iload 0 dX11_tells_51 rfl ?_
    refine S_aload_n 1 dX11_tells_53 rfl rfl ?_
    refine S_iload_n 2 dX11_tells_54 rfl rfl ?_
    refine S_aload_n 1 dX11_tells_55 rfl rfl ?_
    refine S_getP f_RX11_18 s_265 p_265_3 dX11_tells_56 ?_
    refine S_iload_n 2 dX11_tells_59 rfl rfl ?_
    refine S_iald s_268 T4_2.1 dX11_tells_60 ?_
    refine S_iconst (v := 1) dX11_tells_61 (by decide) ?_
    refine S_callV [.int x1, .int (I4_2 268 x1.toNatClampNeg), .int 1] [.int r4_2] m_RX11_326 rfl rfl s_265 ⟨rfl, by decide⟩ (Nat.le_of_ble_eq_true rfl) (zroom_0 (by decide)) dX11_tells_62 (zCI_use T4_2.2 ?_)
    intro r5_2 I5_2 L5_2 M5_2 T5_2
    refine S_iadd dX11_tells_65 ?_
    exact S_ireti rfl dX11_tells_66 ⟨_, I5_2, L5_2, M5_2, rfl, rfl, T5_2⟩
  by_cases q1_2 : x2 = 5
  · refine S_lookK (tgt := 67) dX11_tells_1 (by decide) q1_2 (off := 66) rfl (by decide) ?_
    refine S_aload_n 0 dX11_tells_67 rfl rfl ?_
    refine S_bipush (v := 60) dX11_tells_68 (by decide) ?_
    refine S_callV [.int 60] [] m_RX11_317 rfl rfl s_265 ⟨rfl, by decide⟩ (Nat.le_of_ble_eq_true rfl) (zroom_0 (by decide)) dX11_tells_70 (zCV_use (T.2.2.1 q1_2) ?_)
    intro I6_2 L6_2 M6_2 T6_2
    refine S_aload_n 0 dX11_tells_73 rfl rfl ?_
    refine S_iload_n 1 dX11_tells_74 rfl rfl ?_
    refine S_iconst (v := 2) dX11_tells_75 (by decide) ?_
    refine S_iload_n 3 dX11_tells_76 rfl rfl ?_
    refine S_iload_n 1 dX11_tells_77 rfl rfl ?_
    refine S_isub dX11_tells_78 ?_
    refine S_callV [.int x1, .int 2, .int (x3 - x1)] [] m_RX11_329 rfl rfl s_265 ⟨rfl, by decide⟩ (Nat.le_of_ble_eq_true rfl) (zroom_0 (by decide)) dX11_tells_79 (zCI_use T6_2 ?_)
    intro r7_2 I7_2 L7_2 M7_2 T7_2
    exact S_ireti rfl dX11_tells_82 ⟨_, I7_2, L7_2, M7_2, rfl, rfl, T7_2⟩
  refine S_lookup (tgt := 104) dX11_tells_1 (by decide) (off := 103) ((lv_osw q1_0 (by decide)).trans ((lv_osw q1_1 (by decide)).trans ((lv_osw q1_2 (by decide)).trans rfl))) (by decide) ?_
  refine S_aload_n 0 dX11_tells_104 rfl rfl ?_
  refine S_iload_n 1 dX11_tells_105 rfl rfl ?_
  refine S_iload_n 2 dX11_tells_106 rfl rfl ?_
  refine S_callS [.int x2] [.int x1, .ref 265] m_RX11_323 rfl rfl (Nat.le_of_ble_eq_true rfl) (zroom_0 (by decide)) dX11_tells_107 (zCI_use (T.2.2.2 q1_0 q1_1 q1_2) ?_)
  intro r8_1 I8_1 L8_1 M8_1 T8_1
  refine S_iload_n 3 dX11_tells_110 rfl rfl ?_
  refine S_callV [.int x1, .int r8_1, .int x3] [] m_RX11_329 rfl rfl s_265 ⟨rfl, by decide⟩ (Nat.le_of_ble_eq_true rfl) (zroom_0 (by decide)) dX11_tells_111 (zCI_use T8_1 ?_)
  intro r9_1 I9_1 L9_1 M9_1 T9_1
  exact S_ireti rfl dX11_tells_114 ⟨_, I9_1, L9_1, M9_1, rfl, rfl, T9_1⟩

set_option maxRecDepth 100000 in
theorem t_X11_trace {C : zC} {I : Nat → Nat → Int32} {L : Nat → Nat → Int64} {M : Nat → Nat → Option Nat} (d : Nat) (x1 : Int32)  (K : Int32 → (Nat → Nat → Int32) → (Nat → Nat → Int64) → (Nat → Nat → Option Nat) → Prop) (T : ((¬ ((0 : Int32) ≤ x1 ∧ x1 ≤ ((if (I 265 37) < 20 then (I 265 37) else 20) - (1 : Int32))) → K ((-1)) I L M) ∧ (((0 : Int32) ≤ x1 ∧ x1 ≤ ((if (I 265 37) < 20 then (I 265 37) else 20) - (1 : Int32))) → vp_in x1 20 ∧ K ((I 290 x1.toNatClampNeg)) I L M))) : zCI C Y_X11_trace (d + 2) [.ref 265, .int x1] (zmk I L M) K := by
  refine S_enter (by decide) (Nat.le_of_ble_eq_true rfl) ?_
  refine S_lv (lv' := [(0, .ref 265), (1, .int x1)]) rfl ?_
  refine S_iload_n 1 dX11_trace_0 rfl rfl ?_
  refine S_iconst (v := 0) dX11_trace_1 (by decide) ?_
  refine S_bipush (v := 20) dX11_trace_2 (by decide) ?_
  refine S_aload_n 0 dX11_trace_4 rfl rfl ?_
  refine S_getI f_RX11_314 s_265 dX11_trace_5 ?_
  refine S_min m_RX11_234 o_mins o_math o_minc (Nat.le_of_ble_eq_true rfl) rfl ⟨Nat.le_refl _, Nat.le_refl _⟩ dX11_trace_8 ?_
  refine S_iconst (v := 1) dX11_trace_11 (by decide) ?_
  refine S_isub dX11_trace_12 ?_
  refine S_callS [.int x1, .int 0, .int ((if (I 265 37) < 20 then (I 265 37) else 20) - (1 : Int32))] [] m_RX11_114 rfl rfl (Nat.le_of_ble_eq_true rfl) (zroom_0 (by decide)) dX11_trace_13 (zpure (sp_X11_within (I := I) (L := L) (M := M) (d + 0) x1 0 (((if (I 265 37) < 20 then (I 265 37) else 20) - (1 : Int32)))) ?_)
  refine S_if_eq (tgt := 28) dX11_trace_16 (by decide) (fun q1 => ?_) (fun q1 => ?_)
  · refine S_iconst (v := -1) dX11_trace_28 (by decide) ?_
    exact S_ireti rfl dX11_trace_29 ⟨_, I, L, M, rfl, rfl, (T.1 (zb_f q1))⟩
  · refine S_aload_n 0 dX11_trace_19 rfl rfl ?_
    refine S_getP f_RX11_85 s_265 p_265_38 dX11_trace_20 ?_
    refine S_iload_n 1 dX11_trace_23 rfl rfl ?_
    refine S_iald s_290 (T.2 (zb_t q1)).1 dX11_trace_24 ?_
    refine S_goto (tgt := 29) dX11_trace_25 (by decide) ?_
    exact S_ireti rfl dX11_trace_29 ⟨_, I, L, M, rfl, rfl, (T.2 (zb_t q1)).2⟩

set_option maxRecDepth 100000 in
theorem t_X11_wakes {C : zC} {I : Nat → Nat → Int32} {L : Nat → Nat → Int64} {M : Nat → Nat → Option Nat} (d : Nat) (x1 : Int32) (x2 : Int32) (x3 : Int32)  (K : Int32 → (Nat → Nat → Int32) → (Nat → Nat → Int64) → (Nat → Nat → Option Nat) → Prop) (T : ((x2 = 0 → zCV C Y_X11_ran (d + 2) [.ref 265, .int 11] (zmk I L M) (fun I1_2 L1_2 M1_2 => vp_in x1 6 ∧ zCI C Y_X11_sleeps (d + 2) [.ref 265, .int x1, .int (I1_2 268 x1.toNatClampNeg), .int x3] (zmk I1_2 L1_2 M1_2) (fun r2_2 I2_2 L2_2 M2_2 => vp_in x1 6 ∧ K ((r2_2 - (I2_2 269 x1.toNatClampNeg))) I2_2 L2_2 M2_2))) ∧ (x2 = 1 → zCV C Y_X11_ran (d + 2) [.ref 265, .int 20] (zmk I L M) (fun I3_2 L3_2 M3_2 => zCI C Y_X11_wakes (d + 2) [.ref 265, .int x1, .int 0, .int x3] (zmk I3_2 L3_2 M3_2) (fun r4_2 I4_2 L4_2 M4_2 => K ((r4_2 ^^^ (6 : Int32))) I4_2 L4_2 M4_2))) ∧ (x2 = 2 → zCI C Y_X11_above (d + 2) [.int x2] (zmk I L M) (fun r5_2 I5_2 L5_2 M5_2 => zCI C Y_X11_wakes (d + 2) [.ref 265, .int x1, .int r5_2, .int x3] (zmk I5_2 L5_2 M5_2) (fun r6_2 I6_2 L6_2 M6_2 => K r6_2 I6_2 L6_2 M6_2))) ∧ (x2 = 3 → zCI C Y_X11_above (d + 2) [.int x2] (zmk I L M) (fun r7_2 I7_2 L7_2 M7_2 => zCI C Y_X11_wakes (d + 2) [.ref 265, .int x1, .int r7_2, .int x3] (zmk I7_2 L7_2 M7_2) (fun r8_2 I8_2 L8_2 M8_2 => K r8_2 I8_2 L8_2 M8_2))) ∧ (x2 = 4 → zCV C Y_X11_ran (d + 2) [.ref 265, .int 51] (zmk I L M) (fun I9_2 L9_2 M9_2 => zCI C Y_X11_wakes (d + 2) [.ref 265, .int x1, .int 1, .int (x3 + (1 : Int32))] (zmk I9_2 L9_2 M9_2) (fun r10_2 I10_2 L10_2 M10_2 => K r10_2 I10_2 L10_2 M10_2))) ∧ (x2 = 5 → zCI C Y_X11_above (d + 2) [.int x2] (zmk I L M) (fun r11_2 I11_2 L11_2 M11_2 => zCI C Y_X11_wakes (d + 2) [.ref 265, .int x1, .int r11_2, .int x3] (zmk I11_2 L11_2 M11_2) (fun r12_2 I12_2 L12_2 M12_2 => K r12_2 I12_2 L12_2 M12_2))) ∧ (x2 = 6 → zCV C Y_X11_ran (d + 2) [.ref 265, .int 70] (zmk I L M) (fun I13_2 L13_2 M13_2 => zCI C Y_X11_wakes (d + 2) [.ref 265, .int x1, .int 3, .int x3] (zmk I13_2 L13_2 M13_2) (fun r14_2 I14_2 L14_2 M14_2 => zCI C Y_X11_sleeps (d + 2) [.ref 265, .int x1, .int 3, .int 2] (zmk I14_2 L14_2 M14_2) (fun r15_2 I15_2 L15_2 M15_2 => K ((r14_2 + r15_2)) I15_2 L15_2 M15_2)))) ∧ (((x2 : Int32).toInt < 0 ∨ 6 < (x2 : Int32).toInt) → zCI C Y_X11_above (d + 2) [.int x2] (zmk I L M) (fun r16_2 I16_2 L16_2 M16_2 => zCI C Y_X11_wakes (d + 2) [.ref 265, .int x1, .int r16_2, .int x3] (zmk I16_2 L16_2 M16_2) (fun r17_2 I17_2 L17_2 M17_2 => K r17_2 I17_2 L17_2 M17_2))))) : zCI C Y_X11_wakes (d + 3) [.ref 265, .int x1, .int x2, .int x3] (zmk I L M) K := by
  refine S_enter (by decide) (Nat.le_of_ble_eq_true rfl) ?_
  refine S_lv (lv' := [(0, .ref 265), (1, .int x1), (2, .int x2), (3, .int x3)]) rfl ?_
  refine S_iload_n 2 dX11_wakes_0 rfl rfl ?_
  rcases ztab0_7 x2 with q1 | q1 | q1 | q1 | q1 | q1 | q1 | q1
  · refine S_tabK (tgt := 103) dX11_wakes_1 q1 (by decide) (by decide) (off := 102) rfl (by decide) ?_
    refine S_aload_n 0 dX11_wakes_103 rfl rfl ?_
    refine S_bipush (v := 11) dX11_wakes_104 (by decide) ?_
    refine S_callV [.int 11] [] m_RX11_317 rfl rfl s_265 ⟨rfl, by decide⟩ (Nat.le_of_ble_eq_true rfl) (zroom_0 (by decide)) dX11_wakes_106 (zCV_use (T.1 q1) ?_)
    intro I1_2 L1_2 M1_2 T1_2
    refine S_aload_n 0 dX11_wakes_109 rfl rfl ?_
    refine S_iload_n 1 dX11_wakes_110 rfl rfl ?_
    refine S_aload_n 0 dX11_wakes_111 rfl rfl ?_
    refine S_getP f_RX11_18 s_265 p_265_3 dX11_wakes_112 ?_
    refine S_iload_n 1 dX11_wakes_115 rfl rfl ?_
    refine S_iald s_268 T1_2.1 dX11_wakes_116 ?_
    refine S_iload_n 3 dX11_wakes_117 rfl rfl ?_
    refine S_callV [.int x1, .int (I1_2 268 x1.toNatClampNeg), .int x3] [] m_RX11_320 rfl rfl s_265 ⟨rfl, by decide⟩ (Nat.le_of_ble_eq_true rfl) (zroom_0 (by decide)) dX11_wakes_118 (zCI_use T1_2.2 ?_)
    intro r2_2 I2_2 L2_2 M2_2 T2_2
    refine S_aload_n 0 dX11_wakes_121 rfl rfl ?_
    refine S_getP f_RX11_21 s_265 p_265_4 dX11_wakes_122 ?_
    refine S_iload_n 1 dX11_wakes_125 rfl rfl ?_
    refine S_iald s_269 T2_2.1 dX11_wakes_126 ?_
    refine S_isub dX11_wakes_127 ?_
    exact S_ireti rfl dX11_wakes_128 ⟨_, I2_2, L2_2, M2_2, rfl, rfl, T2_2.2⟩
  · refine S_tabK (tgt := 44) dX11_wakes_1 q1 (by decide) (by decide) (off := 43) rfl (by decide) ?_
    refine S_aload_n 0 dX11_wakes_44 rfl rfl ?_
    refine S_bipush (v := 20) dX11_wakes_45 (by decide) ?_
    refine S_callV [.int 20] [] m_RX11_317 rfl rfl s_265 ⟨rfl, by decide⟩ (Nat.le_of_ble_eq_true rfl) (zroom_0 (by decide)) dX11_wakes_47 (zCV_use (T.2.1 q1) ?_)
    intro I3_2 L3_2 M3_2 T3_2
    refine S_aload_n 0 dX11_wakes_50 rfl rfl ?_
    refine S_iload_n 1 dX11_wakes_51 rfl rfl ?_
    refine S_iconst (v := 0) dX11_wakes_52 (by decide) ?_
    refine S_iload_n 3 dX11_wakes_53 rfl rfl ?_
    refine S_callV [.int x1, .int 0, .int x3] [] m_RX11_326 rfl rfl s_265 ⟨rfl, by decide⟩ (Nat.le_of_ble_eq_true rfl) (zroom_0 (by decide)) dX11_wakes_54 (zCI_use T3_2 ?_)
    intro r4_2 I4_2 L4_2 M4_2 T4_2
    refine S_bipush (v := 6) dX11_wakes_57 (by decide) ?_
    refine S_ixor dX11_wakes_59 ?_
    exact S_ireti rfl dX11_wakes_60 ⟨_, I4_2, L4_2, M4_2, rfl, rfl, T4_2⟩
  · refine S_tabK (tgt := 129) dX11_wakes_1 q1 (by decide) (by decide) (off := 128) rfl (by decide) ?_
    refine S_aload_n 0 dX11_wakes_129 rfl rfl ?_
    refine S_iload_n 1 dX11_wakes_130 rfl rfl ?_
    refine S_iload_n 2 dX11_wakes_131 rfl rfl ?_
    refine S_callS [.int x2] [.int x1, .ref 265] m_RX11_323 rfl rfl (Nat.le_of_ble_eq_true rfl) (zroom_0 (by decide)) dX11_wakes_132 (zCI_use (T.2.2.1 q1) ?_)
    intro r5_2 I5_2 L5_2 M5_2 T5_2
    refine S_iload_n 3 dX11_wakes_135 rfl rfl ?_
    refine S_callV [.int x1, .int r5_2, .int x3] [] m_RX11_326 rfl rfl s_265 ⟨rfl, by decide⟩ (Nat.le_of_ble_eq_true rfl) (zroom_0 (by decide)) dX11_wakes_136 (zCI_use T5_2 ?_)
    intro r6_2 I6_2 L6_2 M6_2 T6_2
    exact S_ireti rfl dX11_wakes_139 ⟨_, I6_2, L6_2, M6_2, rfl, rfl, T6_2⟩
  · refine S_tabK (tgt := 129) dX11_wakes_1 q1 (by decide) (by decide) (off := 128) rfl (by decide) ?_
    refine S_aload_n 0 dX11_wakes_129 rfl rfl ?_
    refine S_iload_n 1 dX11_wakes_130 rfl rfl ?_
    refine S_iload_n 2 dX11_wakes_131 rfl rfl ?_
    refine S_callS [.int x2] [.int x1, .ref 265] m_RX11_323 rfl rfl (Nat.le_of_ble_eq_true rfl) (zroom_0 (by decide)) dX11_wakes_132 (zCI_use (T.2.2.2.1 q1) ?_)
    intro r7_2 I7_2 L7_2 M7_2 T7_2
    refine S_iload_n 3 dX11_wakes_135 rfl rfl ?_
    refine S_callV [.int x1, .int r7_2, .int x3] [] m_RX11_326 rfl rfl s_265 ⟨rfl, by decide⟩ (Nat.le_of_ble_eq_true rfl) (zroom_0 (by decide)) dX11_wakes_136 (zCI_use T7_2 ?_)
    intro r8_2 I8_2 L8_2 M8_2 T8_2
    exact S_ireti rfl dX11_wakes_139 ⟨_, I8_2, L8_2, M8_2, rfl, rfl, T8_2⟩
  · refine S_tabK (tgt := 61) dX11_wakes_1 q1 (by decide) (by decide) (off := 60) rfl (by decide) ?_
    refine S_aload_n 0 dX11_wakes_61 rfl rfl ?_
    refine S_bipush (v := 51) dX11_wakes_62 (by decide) ?_
    refine S_callV [.int 51] [] m_RX11_317 rfl rfl s_265 ⟨rfl, by decide⟩ (Nat.le_of_ble_eq_true rfl) (zroom_0 (by decide)) dX11_wakes_64 (zCV_use (T.2.2.2.2.1 q1) ?_)
    intro I9_2 L9_2 M9_2 T9_2
    refine S_aload_n 0 dX11_wakes_67 rfl rfl ?_
    refine S_iload_n 1 dX11_wakes_68 rfl rfl ?_
    refine S_iconst (v := 1) dX11_wakes_69 (by decide) ?_
    refine S_iload_n 3 dX11_wakes_70 rfl rfl ?_
    refine S_iconst (v := 1) dX11_wakes_71 (by decide) ?_
    refine S_iadd dX11_wakes_72 ?_
    refine S_callV [.int x1, .int 1, .int (x3 + (1 : Int32))] [] m_RX11_326 rfl rfl s_265 ⟨rfl, by decide⟩ (Nat.le_of_ble_eq_true rfl) (zroom_0 (by decide)) dX11_wakes_73 (zCI_use T9_2 ?_)
    intro r10_2 I10_2 L10_2 M10_2 T10_2
    exact S_ireti rfl dX11_wakes_76 ⟨_, I10_2, L10_2, M10_2, rfl, rfl, T10_2⟩
  · refine S_tabK (tgt := 129) dX11_wakes_1 q1 (by decide) (by decide) (off := 128) rfl (by decide) ?_
    refine S_aload_n 0 dX11_wakes_129 rfl rfl ?_
    refine S_iload_n 1 dX11_wakes_130 rfl rfl ?_
    refine S_iload_n 2 dX11_wakes_131 rfl rfl ?_
    refine S_callS [.int x2] [.int x1, .ref 265] m_RX11_323 rfl rfl (Nat.le_of_ble_eq_true rfl) (zroom_0 (by decide)) dX11_wakes_132 (zCI_use (T.2.2.2.2.2.1 q1) ?_)
    intro r11_2 I11_2 L11_2 M11_2 T11_2
    refine S_iload_n 3 dX11_wakes_135 rfl rfl ?_
    refine S_callV [.int x1, .int r11_2, .int x3] [] m_RX11_326 rfl rfl s_265 ⟨rfl, by decide⟩ (Nat.le_of_ble_eq_true rfl) (zroom_0 (by decide)) dX11_wakes_136 (zCI_use T11_2 ?_)
    intro r12_2 I12_2 L12_2 M12_2 T12_2
    exact S_ireti rfl dX11_wakes_139 ⟨_, I12_2, L12_2, M12_2, rfl, rfl, T12_2⟩
  · refine S_tabK (tgt := 77) dX11_wakes_1 q1 (by decide) (by decide) (off := 76) rfl (by decide) ?_
    refine S_aload_n 0 dX11_wakes_77 rfl rfl ?_
    refine S_bipush (v := 70) dX11_wakes_78 (by decide) ?_
    refine S_callV [.int 70] [] m_RX11_317 rfl rfl s_265 ⟨rfl, by decide⟩ (Nat.le_of_ble_eq_true rfl) (zroom_0 (by decide)) dX11_wakes_80 (zCV_use (T.2.2.2.2.2.2.1 q1) ?_)
    intro I13_2 L13_2 M13_2 T13_2
    refine S_aload_n 0 dX11_wakes_83 rfl rfl ?_
    refine S_iload_n 1 dX11_wakes_84 rfl rfl ?_
    refine S_iconst (v := 3) dX11_wakes_85 (by decide) ?_
    refine S_iload_n 3 dX11_wakes_86 rfl rfl ?_
    refine S_callV [.int x1, .int 3, .int x3] [] m_RX11_326 rfl rfl s_265 ⟨rfl, by decide⟩ (Nat.le_of_ble_eq_true rfl) (zroom_0 (by decide)) dX11_wakes_87 (zCI_use T13_2 ?_)
    intro r14_2 I14_2 L14_2 M14_2 T14_2
    refine S_istore dX11_wakes_90 (by decide) rfl ?_
    refine S_iload 0 dX11_wakes_92 rfl ?_
    refine S_aload_n 1 dX11_wakes_94 rfl rfl ?_
    refine S_iload_n 2 dX11_wakes_95 rfl rfl ?_
    refine S_iconst (v := 3) dX11_wakes_96 (by decide) ?_
    refine S_iconst (v := 2) dX11_wakes_97 (by decide) ?_
    refine S_callV [.int x1, .int 3, .int 2] [.int r14_2] m_RX11_320 rfl rfl s_265 ⟨rfl, by decide⟩ (Nat.le_of_ble_eq_true rfl) (zroom_0 (by decide)) dX11_wakes_98 (zCI_use T14_2 ?_)
    intro r15_2 I15_2 L15_2 M15_2 T15_2
    refine S_iadd dX11_wakes_101 ?_
    exact S_ireti rfl dX11_wakes_102 ⟨_, I15_2, L15_2, M15_2, rfl, rfl, T15_2⟩
  · refine S_tabOut (tgt := 129) dX11_wakes_1 q1 (by decide) ?_
    refine S_aload_n 0 dX11_wakes_129 rfl rfl ?_
    refine S_iload_n 1 dX11_wakes_130 rfl rfl ?_
    refine S_iload_n 2 dX11_wakes_131 rfl rfl ?_
    refine S_callS [.int x2] [.int x1, .ref 265] m_RX11_323 rfl rfl (Nat.le_of_ble_eq_true rfl) (zroom_0 (by decide)) dX11_wakes_132 (zCI_use (T.2.2.2.2.2.2.2 q1) ?_)
    intro r16_2 I16_2 L16_2 M16_2 T16_2
    refine S_iload_n 3 dX11_wakes_135 rfl rfl ?_
    refine S_callV [.int x1, .int r16_2, .int x3] [] m_RX11_326 rfl rfl s_265 ⟨rfl, by decide⟩ (Nat.le_of_ble_eq_true rfl) (zroom_0 (by decide)) dX11_wakes_136 (zCI_use T16_2 ?_)
    intro r17_2 I17_2 L17_2 M17_2 T17_2
    exact S_ireti rfl dX11_wakes_139 ⟨_, I17_2, L17_2, M17_2, rfl, rfl, T17_2⟩

