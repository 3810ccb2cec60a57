/-! the constructors of what is nested: by program (gen_ctor2.py) -/
def o_X0 (N : Nat) (x1 : Int32) : List zO := [(oI 0 x1 (oP 6 (some (N + 1)) (z0 0 7))), (z0 12 4)]
set_option maxRecDepth 100000 in
theorem c_X0 {C : zC} (d : Nat) {pre : List zO} {N : Nat} (hN : pre.length = N) (hn : N < 800000) (hc : hCl (pre ++ [z0 0 7])) (x1 : Int32) : CallSem C Y_X0_init (d + 1) 1 4 [.ref N, .int x1] (zhl (pre ++ [z0 0 7])) (zmade pre (o_X0 N x1)) := by
  refine S_enter (by decide) (Nat.le_of_ble_eq_true rfl) ?_
  refine S_lv (lv' := [(0, .ref N), (1, .int x1)]) rfl ?_
  refine S_aload_n 0 dX0_init_0 rfl rfl ?_
  refine S_objInit m_RX0_3 o_inst o_code (by decide) rfl dX0_init_1 ?_
  refine S_aload_n 0 dX0_init_4 rfl rfl ?_
  refine S_iconst (v := 4) dX0_init_5 (by decide) ?_
  refine T_newi 1 (n := 4) (xs' := [(z0 0 7), (z0 12 4)]) hN ⟨by omega, by omega⟩ rfl rfl (by decide) (by omega) dX0_init_6 hc ⟨zok_r (by omega), trivial, trivial⟩ ⟨zok_r (by omega), trivial⟩ (Nat.le_of_ble_eq_true rfl) (Nat.le_of_ble_eq_true rfl) (fun hc => ?_)
  refine T_putP 0 (xs' := [(oP 6 (some (N + 1)) (z0 0 7)), (z0 12 4)]) hN rfl rfl f_RX0_9 rfl (by show _ < N + 2; omega) rfl (Or.inr ⟨rfl, rfl, rfl⟩) (Or.inr ⟨_, rfl⟩) hc dX0_init_8 (fun hc => ?_)
  refine S_aload_n 0 dX0_init_11 rfl rfl ?_
  refine S_iload_n 1 dX0_init_12 rfl rfl ?_
  refine T_putI 0 (xs' := [(oI 0 x1 (oP 6 (some (N + 1)) (z0 0 7))), (z0 12 4)]) hN rfl rfl f_RX0_15 rfl rfl (Or.inr ⟨rfl, rfl, rfl⟩) rfl hc dX0_init_13 (fun hc => ?_)
  exact S_vret rfl dX0_init_16 ⟨rfl, _, rfl, rfl, hc⟩

def o_X1 (N : Nat) : List zO := [(oP 1 (some (N + 1)) (oI 0 3 (z0 1 3))), (z0 12 100)]
set_option maxRecDepth 100000 in
theorem c_X1 {C : zC} (d : Nat) {pre : List zO} {N : Nat} (hN : pre.length = N) (hn : N < 800000) (hc : hCl (pre ++ [z0 1 3])) : CallSem C Y_X1_init (d + 1) 1 100 [.ref N] (zhl (pre ++ [z0 1 3])) (zmade pre (o_X1 N)) := by
  refine S_enter (by decide) (Nat.le_of_ble_eq_true rfl) ?_
  refine S_lv (lv' := [(0, .ref N)]) rfl ?_
  refine S_aload_n 0 dX1_init_0 rfl rfl ?_
  refine S_objInit m_RX1_3 o_inst o_code (by decide) rfl dX1_init_1 ?_
  refine S_aload_n 0 dX1_init_4 rfl rfl ?_
  refine S_iconst (v := 3) dX1_init_5 (by decide) ?_
  refine T_putI 0 (xs' := [(oI 0 3 (z0 1 3))]) hN rfl rfl f_RX1_9 rfl rfl (Or.inl rfl) rfl hc dX1_init_6 (fun hc => ?_)
  refine S_aload_n 0 dX1_init_9 rfl rfl ?_
  refine S_bipush (v := 100) dX1_init_10 (by decide) ?_
  refine T_newi 1 (n := 100) (xs' := [(oI 0 3 (z0 1 3)), (z0 12 100)]) hN ⟨by omega, by omega⟩ rfl rfl (by decide) (by omega) dX1_init_12 hc ⟨zok_r (by omega), trivial⟩ ⟨zok_r (by omega), trivial⟩ (Nat.le_of_ble_eq_true rfl) (Nat.le_of_ble_eq_true rfl) (fun hc => ?_)
  refine T_putP 0 (xs' := [(oP 1 (some (N + 1)) (oI 0 3 (z0 1 3))), (z0 12 100)]) hN rfl rfl f_RX1_15 rfl (by show _ < N + 2; omega) rfl (Or.inr ⟨rfl, rfl, rfl⟩) (Or.inr ⟨_, rfl⟩) hc dX1_init_14 (fun hc => ?_)
  exact S_vret rfl dX1_init_17 ⟨rfl, _, rfl, rfl, hc⟩

def o_X4 (N : Nat) : List zO := [(oP 0 (some (N + 1)) (z0 4 3)), (z0 12 100)]
set_option maxRecDepth 100000 in
theorem c_X4 {C : zC} (d : Nat) {pre : List zO} {N : Nat} (hN : pre.length = N) (hn : N < 800000) (hc : hCl (pre ++ [z0 4 3])) : CallSem C Y_X4_init (d + 1) 1 100 [.ref N] (zhl (pre ++ [z0 4 3])) (zmade pre (o_X4 N)) := by
  refine S_enter (by decide) (Nat.le_of_ble_eq_true rfl) ?_
  refine S_lv (lv' := [(0, .ref N)]) rfl ?_
  refine S_aload_n 0 dX4_init_0 rfl rfl ?_
  refine S_objInit m_RX4_3 o_inst o_code (by decide) rfl dX4_init_1 ?_
  refine S_aload_n 0 dX4_init_4 rfl rfl ?_
  refine S_bipush (v := 100) dX4_init_5 (by decide) ?_
  refine T_newi 1 (n := 100) (xs' := [(z0 4 3), (z0 12 100)]) hN ⟨by omega, by omega⟩ rfl rfl (by decide) (by omega) dX4_init_7 hc ⟨zok_r (by omega), trivial⟩ ⟨zok_r (by omega), trivial⟩ (Nat.le_of_ble_eq_true rfl) (Nat.le_of_ble_eq_true rfl) (fun hc => ?_)
  refine T_putP 0 (xs' := [(oP 0 (some (N + 1)) (z0 4 3)), (z0 12 100)]) hN rfl rfl f_RX4_9 rfl (by show _ < N + 2; omega) rfl (Or.inr ⟨rfl, rfl, rfl⟩) (Or.inr ⟨_, rfl⟩) hc dX4_init_9 (fun hc => ?_)
  exact S_vret rfl dX4_init_12 ⟨rfl, _, rfl, rfl, hc⟩

def o_X7 (N : Nat) : List zO := [(oP 1 (some (N + 2)) (oP 0 (some (N + 1)) (z0 7 3))), (z0 12 13), (z0 12 13)]
set_option maxRecDepth 100000 in
theorem c_X7 {C : zC} (d : Nat) {pre : List zO} {N : Nat} (hN : pre.length = N) (hn : N < 800000) (hc : hCl (pre ++ [z0 7 3])) : CallSem C Y_X7_init (d + 1) 2 26 [.ref N] (zhl (pre ++ [z0 7 3])) (zmade pre (o_X7 N)) := by
  refine S_enter (by decide) (Nat.le_of_ble_eq_true rfl) ?_
  refine S_lv (lv' := [(0, .ref N)]) rfl ?_
  refine S_aload_n 0 dX7_init_0 rfl rfl ?_
  refine S_objInit m_RX7_3 o_inst o_code (by decide) rfl dX7_init_1 ?_
  refine S_aload_n 0 dX7_init_4 rfl rfl ?_
  refine S_bipush (v := 13) dX7_init_5 (by decide) ?_
  refine T_newi 1 (n := 13) (xs' := [(z0 7 3), (z0 12 13)]) hN ⟨by omega, by omega⟩ rfl rfl (by decide) (by omega) dX7_init_7 hc ⟨zok_r (by omega), trivial⟩ ⟨zok_r (by omega), trivial⟩ (Nat.le_of_ble_eq_true rfl) (Nat.le_of_ble_eq_true rfl) (fun hc => ?_)
  refine T_putP 0 (xs' := [(oP 0 (some (N + 1)) (z0 7 3)), (z0 12 13)]) hN rfl rfl f_RX7_9 rfl (by show _ < N + 2; omega) rfl (Or.inr ⟨rfl, rfl, rfl⟩) (Or.inr ⟨_, rfl⟩) hc dX7_init_9 (fun hc => ?_)
  refine S_aload_n 0 dX7_init_12 rfl rfl ?_
  refine S_bipush (v := 13) dX7_init_13 (by decide) ?_
  refine T_newi 2 (n := 13) (xs' := [(oP 0 (some (N + 1)) (z0 7 3)), (z0 12 13), (z0 12 13)]) hN ⟨by omega, by omega⟩ rfl rfl (by decide) (by omega) dX7_init_15 hc ⟨zok_r (by omega), trivial⟩ ⟨zok_r (by omega), trivial⟩ (Nat.le_of_ble_eq_true rfl) (Nat.le_of_ble_eq_true rfl) (fun hc => ?_)
  refine T_putP 0 (xs' := [(oP 1 (some (N + 2)) (oP 0 (some (N + 1)) (z0 7 3))), (z0 12 13), (z0 12 13)]) hN rfl rfl f_RX7_15 rfl (by show _ < N + 3; omega) rfl (Or.inr ⟨rfl, rfl, rfl⟩) (Or.inr ⟨_, rfl⟩) hc dX7_init_17 (fun hc => ?_)
  exact S_vret rfl dX7_init_20 ⟨rfl, _, rfl, rfl, hc⟩

def o_X5 (N : Nat) : List zO := [(oP 1 (some (N + 2)) (oP 0 (some (N + 1)) (z0 5 2))), (z0 12 6), (z0 12 64)]
set_option maxRecDepth 100000 in
theorem c_X5 {C : zC} (d : Nat) {pre : List zO} {N : Nat} (hN : pre.length = N) (hn : N < 800000) (hc : hCl (pre ++ [z0 5 2])) : CallSem C Y_X5_init (d + 1) 2 70 [.ref N] (zhl (pre ++ [z0 5 2])) (zmade pre (o_X5 N)) := by
  refine S_enter (by decide) (Nat.le_of_ble_eq_true rfl) ?_
  refine S_lv (lv' := [(0, .ref N)]) rfl ?_
  refine S_aload_n 0 dX5_init_0 rfl rfl ?_
  refine S_objInit m_RX5_3 o_inst o_code (by decide) rfl dX5_init_1 ?_
  refine S_aload_n 0 dX5_init_4 rfl rfl ?_
  refine S_bipush (v := 6) dX5_init_5 (by decide) ?_
  refine T_newi 1 (n := 6) (xs' := [(z0 5 2), (z0 12 6)]) hN ⟨by omega, by omega⟩ rfl rfl (by decide) (by omega) dX5_init_7 hc ⟨zok_r (by omega), trivial⟩ ⟨zok_r (by omega), trivial⟩ (Nat.le_of_ble_eq_true rfl) (Nat.le_of_ble_eq_true rfl) (fun hc => ?_)
  refine T_putP 0 (xs' := [(oP 0 (some (N + 1)) (z0 5 2)), (z0 12 6)]) hN rfl rfl f_RX5_9 rfl (by show _ < N + 2; omega) rfl (Or.inr ⟨rfl, rfl, rfl⟩) (Or.inr ⟨_, rfl⟩) hc dX5_init_9 (fun hc => ?_)
  refine S_aload_n 0 dX5_init_12 rfl rfl ?_
  refine S_bipush (v := 64) dX5_init_13 (by decide) ?_
  refine T_newi 2 (n := 64) (xs' := [(oP 0 (some (N + 1)) (z0 5 2)), (z0 12 6), (z0 12 64)]) hN ⟨by omega, by omega⟩ rfl rfl (by decide) (by omega) dX5_init_15 hc ⟨zok_r (by omega), trivial⟩ ⟨zok_r (by omega), trivial⟩ (Nat.le_of_ble_eq_true rfl) (Nat.le_of_ble_eq_true rfl) (fun hc => ?_)
  refine T_putP 0 (xs' := [(oP 1 (some (N + 2)) (oP 0 (some (N + 1)) (z0 5 2))), (z0 12 6), (z0 12 64)]) hN rfl rfl f_RX5_15 rfl (by show _ < N + 3; omega) rfl (Or.inr ⟨rfl, rfl, rfl⟩) (Or.inr ⟨_, rfl⟩) hc dX5_init_17 (fun hc => ?_)
  exact S_vret rfl dX5_init_20 ⟨rfl, _, rfl, rfl, hc⟩

def o_X8 (N : Nat) : List zO := [(oP 0 (some (N + 1)) (z0 8 2)), (z0 12 20)]
set_option maxRecDepth 100000 in
theorem c_X8 {C : zC} (d : Nat) {pre : List zO} {N : Nat} (hN : pre.length = N) (hn : N < 800000) (hc : hCl (pre ++ [z0 8 2])) : CallSem C Y_X8_init (d + 1) 1 20 [.ref N] (zhl (pre ++ [z0 8 2])) (zmade pre (o_X8 N)) := by
  refine S_enter (by decide) (Nat.le_of_ble_eq_true rfl) ?_
  refine S_lv (lv' := [(0, .ref N)]) rfl ?_
  refine S_aload_n 0 dX8_init_0 rfl rfl ?_
  refine S_objInit m_RX8_3 o_inst o_code (by decide) rfl dX8_init_1 ?_
  refine S_aload_n 0 dX8_init_4 rfl rfl ?_
  refine S_bipush (v := 20) dX8_init_5 (by decide) ?_
  refine T_newi 1 (n := 20) (xs' := [(z0 8 2), (z0 12 20)]) hN ⟨by omega, by omega⟩ rfl rfl (by decide) (by omega) dX8_init_7 hc ⟨zok_r (by omega), trivial⟩ ⟨zok_r (by omega), trivial⟩ (Nat.le_of_ble_eq_true rfl) (Nat.le_of_ble_eq_true rfl) (fun hc => ?_)
  refine T_putP 0 (xs' := [(oP 0 (some (N + 1)) (z0 8 2)), (z0 12 20)]) hN rfl rfl f_RX8_9 rfl (by show _ < N + 2; omega) rfl (Or.inr ⟨rfl, rfl, rfl⟩) (Or.inr ⟨_, rfl⟩) hc dX8_init_9 (fun hc => ?_)
  exact S_vret rfl dX8_init_12 ⟨rfl, _, rfl, rfl, hc⟩

def o_X9 (N : Nat) : List zO := [(oP 2 (some (N + 1)) (oI 0 (-1) (z0 9 3))), (z0 13 60)]
set_option maxRecDepth 100000 in
theorem c_X9 {C : zC} (d : Nat) {pre : List zO} {N : Nat} (hN : pre.length = N) (hn : N < 800000) (hc : hCl (pre ++ [z0 9 3])) : CallSem C Y_X9_init (d + 1) 1 60 [.ref N] (zhl (pre ++ [z0 9 3])) (zmade pre (o_X9 N)) := by
  refine S_enter (by decide) (Nat.le_of_ble_eq_true rfl) ?_
  refine S_lv (lv' := [(0, .ref N)]) rfl ?_
  refine S_aload_n 0 dX9_init_0 rfl rfl ?_
  refine S_objInit m_RX9_3 o_inst o_code (by decide) rfl dX9_init_1 ?_
  refine S_aload_n 0 dX9_init_4 rfl rfl ?_
  refine S_iconst (v := (-1)) dX9_init_5 (by decide) ?_
  refine T_putI 0 (xs' := [(oI 0 (-1) (z0 9 3))]) hN rfl rfl f_RX9_9 rfl rfl (Or.inl rfl) rfl hc dX9_init_6 (fun hc => ?_)
  refine S_aload_n 0 dX9_init_9 rfl rfl ?_
  refine S_bipush (v := 60) dX9_init_10 (by decide) ?_
  refine T_newl 1 (n := 60) (xs' := [(oI 0 (-1) (z0 9 3)), (z0 13 60)]) hN ⟨by omega, by omega⟩ rfl rfl (by decide) (by omega) dX9_init_12 hc ⟨zok_r (by omega), trivial⟩ ⟨zok_r (by omega), trivial⟩ (Nat.le_of_ble_eq_true rfl) (Nat.le_of_ble_eq_true rfl) (fun hc => ?_)
  refine T_putP 0 (xs' := [(oP 2 (some (N + 1)) (oI 0 (-1) (z0 9 3))), (z0 13 60)]) hN rfl rfl f_RX9_15 rfl (by show _ < N + 2; omega) rfl (Or.inr ⟨rfl, rfl, rfl⟩) (Or.inr ⟨_, rfl⟩) hc dX9_init_14 (fun hc => ?_)
  exact S_vret rfl dX9_init_17 ⟨rfl, _, rfl, rfl, hc⟩

def o_X6_5 (N : Nat) : List zO := [(oP 0 (some (N + 1)) (z0 6 2)), (oA (N + 1) 5), (z0 12 4), (z0 12 4), (z0 12 4), (z0 12 4), (z0 12 4)]
set_option maxRecDepth 100000 in
theorem c_X6_5 {C : zC} (d : Nat) {pre : List zO} {N : Nat} (hN : pre.length = N) (hn : N < 800000) (hc : hCl (pre ++ [z0 6 2])) : CallSem C Y_X6_init (d + 1) 6 25 [.ref N, .int 5] (zhl (pre ++ [z0 6 2])) (zmade pre (o_X6_5 N)) := by
  refine S_enter (by decide) (Nat.le_of_ble_eq_true rfl) ?_
  refine S_lv (lv' := [(0, .ref N), (1, .int 5)]) rfl ?_
  refine S_aload_n 0 dX6_init_0 rfl rfl ?_
  refine S_objInit m_RX6_3 o_inst o_code (by decide) rfl dX6_init_1 ?_
  refine S_aload_n 0 dX6_init_4 rfl rfl ?_
  refine S_iload_n 1 dX6_init_5 rfl rfl ?_
  refine S_iconst (v := 4) dX6_init_6 (by decide) ?_
  refine T_multi 1 (n := 5) (m := 4) (xs' := [(z0 6 2), (oA (N + 1) 5), (z0 12 4), (z0 12 4), (z0 12 4), (z0 12 4), (z0 12 4)]) hN ⟨by omega, by omega⟩ rfl rfl (by decide) (by decide) (by omega) l_RX6_9 dX6_init_7 hc ⟨zok_r (by omega), trivial, trivial⟩ ⟨zok_r (by omega), trivial⟩ (Nat.le_of_ble_eq_true rfl) (Nat.le_of_ble_eq_true rfl) (fun hc => ?_)
  refine T_putP 0 (xs' := [(oP 0 (some (N + 1)) (z0 6 2)), (oA (N + 1) 5), (z0 12 4), (z0 12 4), (z0 12 4), (z0 12 4), (z0 12 4)]) hN rfl rfl f_RX6_11 rfl (by show _ < N + 7; omega) rfl (Or.inr ⟨rfl, rfl, rfl⟩) (Or.inr ⟨_, rfl⟩) hc dX6_init_11 (fun hc => ?_)
  exact S_vret rfl dX6_init_14 ⟨rfl, _, rfl, rfl, hc⟩

def o_X6_10 (N : Nat) : List zO := [(oP 0 (some (N + 1)) (z0 6 2)), (oA (N + 1) 10), (z0 12 4), (z0 12 4), (z0 12 4), (z0 12 4), (z0 12 4), (z0 12 4), (z0 12 4), (z0 12 4), (z0 12 4), (z0 12 4)]
set_option maxRecDepth 100000 in
theorem c_X6_10 {C : zC} (d : Nat) {pre : List zO} {N : Nat} (hN : pre.length = N) (hn : N < 800000) (hc : hCl (pre ++ [z0 6 2])) : CallSem C Y_X6_init (d + 1) 11 50 [.ref N, .int 10] (zhl (pre ++ [z0 6 2])) (zmade pre (o_X6_10 N)) := by
  refine S_enter (by decide) (Nat.le_of_ble_eq_true rfl) ?_
  refine S_lv (lv' := [(0, .ref N), (1, .int 10)]) rfl ?_
  refine S_aload_n 0 dX6_init_0 rfl rfl ?_
  refine S_objInit m_RX6_3 o_inst o_code (by decide) rfl dX6_init_1 ?_
  refine S_aload_n 0 dX6_init_4 rfl rfl ?_
  refine S_iload_n 1 dX6_init_5 rfl rfl ?_
  refine S_iconst (v := 4) dX6_init_6 (by decide) ?_
  refine T_multi 1 (n := 10) (m := 4) (xs' := [(z0 6 2), (oA (N + 1) 10), (z0 12 4), (z0 12 4), (z0 12 4), (z0 12 4), (z0 12 4), (z0 12 4), (z0 12 4), (z0 12 4), (z0 12 4), (z0 12 4)]) hN ⟨by omega, by omega⟩ rfl rfl (by decide) (by decide) (by omega) l_RX6_9 dX6_init_7 hc ⟨zok_r (by omega), trivial, trivial⟩ ⟨zok_r (by omega), trivial⟩ (Nat.le_of_ble_eq_true rfl) (Nat.le_of_ble_eq_true rfl) (fun hc => ?_)
  refine T_putP 0 (xs' := [(oP 0 (some (N + 1)) (z0 6 2)), (oA (N + 1) 10), (z0 12 4), (z0 12 4), (z0 12 4), (z0 12 4), (z0 12 4), (z0 12 4), (z0 12 4), (z0 12 4), (z0 12 4), (z0 12 4)]) hN rfl rfl f_RX6_11 rfl (by show _ < N + 12; omega) rfl (Or.inr ⟨rfl, rfl, rfl⟩) (Or.inr ⟨_, rfl⟩) hc dX6_init_11 (fun hc => ?_)
  exact S_vret rfl dX6_init_14 ⟨rfl, _, rfl, rfl, hc⟩

def o_X6_8 (N : Nat) : List zO := [(oP 0 (some (N + 1)) (z0 6 2)), (oA (N + 1) 8), (z0 12 4), (z0 12 4), (z0 12 4), (z0 12 4), (z0 12 4), (z0 12 4), (z0 12 4), (z0 12 4)]
set_option maxRecDepth 100000 in
theorem c_X6_8 {C : zC} (d : Nat) {pre : List zO} {N : Nat} (hN : pre.length = N) (hn : N < 800000) (hc : hCl (pre ++ [z0 6 2])) : CallSem C Y_X6_init (d + 1) 9 40 [.ref N, .int 8] (zhl (pre ++ [z0 6 2])) (zmade pre (o_X6_8 N)) := by
  refine S_enter (by decide) (Nat.le_of_ble_eq_true rfl) ?_
  refine S_lv (lv' := [(0, .ref N), (1, .int 8)]) rfl ?_
  refine S_aload_n 0 dX6_init_0 rfl rfl ?_
  refine S_objInit m_RX6_3 o_inst o_code (by decide) rfl dX6_init_1 ?_
  refine S_aload_n 0 dX6_init_4 rfl rfl ?_
  refine S_iload_n 1 dX6_init_5 rfl rfl ?_
  refine S_iconst (v := 4) dX6_init_6 (by decide) ?_
  refine T_multi 1 (n := 8) (m := 4) (xs' := [(z0 6 2), (oA (N + 1) 8), (z0 12 4), (z0 12 4), (z0 12 4), (z0 12 4), (z0 12 4), (z0 12 4), (z0 12 4), (z0 12 4)]) hN ⟨by omega, by omega⟩ rfl rfl (by decide) (by decide) (by omega) l_RX6_9 dX6_init_7 hc ⟨zok_r (by omega), trivial, trivial⟩ ⟨zok_r (by omega), trivial⟩ (Nat.le_of_ble_eq_true rfl) (Nat.le_of_ble_eq_true rfl) (fun hc => ?_)
  refine T_putP 0 (xs' := [(oP 0 (some (N + 1)) (z0 6 2)), (oA (N + 1) 8), (z0 12 4), (z0 12 4), (z0 12 4), (z0 12 4), (z0 12 4), (z0 12 4), (z0 12 4), (z0 12 4)]) hN rfl rfl f_RX6_11 rfl (by show _ < N + 10; omega) rfl (Or.inr ⟨rfl, rfl, rfl⟩) (Or.inr ⟨_, rfl⟩) hc dX6_init_11 (fun hc => ?_)
  exact S_vret rfl dX6_init_14 ⟨rfl, _, rfl, rfl, hc⟩

