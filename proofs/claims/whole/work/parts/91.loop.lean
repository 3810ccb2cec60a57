/-! THE LAW: its loop, its entry -/
theorem z34 {P : Nat → Prop} (h0 : P 0) (h1 : P 1) (h2 : P 2) (h3 : P 3) (h4 : P 4) (h5 : P 5) (h6 : P 6) (h7 : P 7) (h8 : P 8) (h9 : P 9) (h10 : P 10) (h11 : P 11) (h12 : P 12) (h13 : P 13) (h14 : P 14) (h15 : P 15) (h16 : P 16) (h17 : P 17) (h18 : P 18) (h19 : P 19) (h20 : P 20) (h21 : P 21) (h22 : P 22) (h23 : P 23) (h24 : P 24) (h25 : P 25) (h26 : P 26) (h27 : P 27) (h28 : P 28) (h29 : P 29) (h30 : P 30) (h31 : P 31) (h32 : P 32) (h33 : P 33) : ∀ k, k < 34 → P k := by
  intro k h
  match k, h with
  | 0, _ => exact h0
  | 1, _ => exact h1
  | 2, _ => exact h2
  | 3, _ => exact h3
  | 4, _ => exact h4
  | 5, _ => exact h5
  | 6, _ => exact h6
  | 7, _ => exact h7
  | 8, _ => exact h8
  | 9, _ => exact h9
  | 10, _ => exact h10
  | 11, _ => exact h11
  | 12, _ => exact h12
  | 13, _ => exact h13
  | 14, _ => exact h14
  | 15, _ => exact h15
  | 16, _ => exact h16
  | 17, _ => exact h17
  | 18, _ => exact h18
  | 19, _ => exact h19
  | 20, _ => exact h20
  | 21, _ => exact h21
  | 22, _ => exact h22
  | 23, _ => exact h23
  | 24, _ => exact h24
  | 25, _ => exact h25
  | 26, _ => exact h26
  | 27, _ => exact h27
  | 28, _ => exact h28
  | 29, _ => exact h29
  | 30, _ => exact h30
  | 31, _ => exact h31
  | 32, _ => exact h32
  | 33, _ => exact h33
  | n + 34, h => exact absurd h (by omega)
abbrev lLV (x : Int32) : List (Nat × Value) := [(0, .ref 1000002), (1, .ref 0), (2, .ref 265), (3, .int x)]
section LL
variable {nm : String} {C : zC} {Q : zQ} {n0 cl sl : Nat} {I : Nat → Nat → Int32} {L : Nat → Nat → Int64} {M : Nat → Nat → Option Nat}
theorem law_body (hI : Inv I L M) (hcl : cl ≤ 600000) (hsl : sl ≤ 7302250) {x : Int32} (h0 : vp_in x C.2.2.2.1) (h1 : vp_in (x + 1) C.2.2.2.1) (h2 : vp_in (x + 2) C.2.2.2.1) (h3 : vp_in (x + 3) C.2.2.2.1) (h4 : vp_in (x + 4) C.2.2.2.1) (h5 : vp_in (x + 5) C.2.2.2.1) (T : ∀ I' L' M', Inv I' L' M' → Sem C Q n0 (Y_L nm) room_1 1351 (lLV x) [] (zmk I' L' M') cl sl) : Sem C Q n0 (Y_L nm) room_1 27 (lLV x) [] (zmk I L M) cl sl := by
  refine S_aload_n 0 dL_law_27 rfl rfl ?_
  refine S_iload_n 3 dL_law_28 rfl rfl ?_
  refine S_sc_ld h0 dL_law_29 ?_
  refine S_bipush (v := 63) dL_law_30 (by decide) ?_
  refine S_iand dL_law_32 ?_
  generalize C.2.2.2.2 x.toNatClampNeg &&& 63 = y
  by_cases hy : y.toInt < 0 ∨ 33 < y.toInt
  · exact S_tabOut (tgt := 1351) dL_law_33 hy (by decide) (T _ _ _ hI)
  · have hk : y = nI y.toInt.toNat := by
      rw [← Int32.toInt_inj, nI_toInt (by omega)]
      omega
    have hl : y.toInt.toNat < 34 := by omega
    generalize y.toInt.toNat = k at hk hl
    subst hk
    clear hy
    revert k
    refine z34 ?_ ?_ ?_ ?_ ?_ ?_ ?_ ?_ ?_ ?_ ?_ ?_ ?_ ?_ ?_ ?_ ?_ ?_ ?_ ?_ ?_ ?_ ?_ ?_ ?_ ?_ ?_ ?_ ?_ ?_ ?_ ?_ ?_ ?_
    · exact S_tabK (k := 0) (tgt := 184) dL_law_33 (by decide) (by decide) (by decide) rfl (by decide) (lc_0 hI hcl hsl h1 h2 h3 h4 h5 T)
    · exact S_tabK (k := 1) (tgt := 227) dL_law_33 (by decide) (by decide) (by decide) rfl (by decide) (lc_1 hI hcl hsl h1 h2 h3 h4 h5 T)
    · exact S_tabK (k := 2) (tgt := 260) dL_law_33 (by decide) (by decide) (by decide) rfl (by decide) (lc_2 hI hcl hsl h1 h2 h3 h4 h5 T)
    · exact S_tabK (k := 3) (tgt := 303) dL_law_33 (by decide) (by decide) (by decide) rfl (by decide) (lc_3 hI hcl hsl h1 h2 h3 h4 h5 T)
    · exact S_tabK (k := 4) (tgt := 336) dL_law_33 (by decide) (by decide) (by decide) rfl (by decide) (lc_4 hI hcl hsl h1 h2 h3 h4 h5 T)
    · exact S_tabK (k := 5) (tgt := 385) dL_law_33 (by decide) (by decide) (by decide) rfl (by decide) (lc_5 hI hcl hsl h1 h2 h3 h4 h5 T)
    · exact S_tabK (k := 6) (tgt := 418) dL_law_33 (by decide) (by decide) (by decide) rfl (by decide) (lc_6 hI hcl hsl h1 h2 h3 h4 h5 T)
    · exact S_tabK (k := 7) (tgt := 461) dL_law_33 (by decide) (by decide) (by decide) rfl (by decide) (lc_7 hI hcl hsl h1 h2 h3 h4 h5 T)
    · exact S_tabK (k := 8) (tgt := 484) dL_law_33 (by decide) (by decide) (by decide) rfl (by decide) (lc_8 hI hcl hsl h1 h2 h3 h4 h5 T)
    · exact S_tabK (k := 9) (tgt := 497) dL_law_33 (by decide) (by decide) (by decide) rfl (by decide) (lc_9 hI hcl hsl h1 h2 h3 h4 h5 T)
    · exact S_tabK (k := 10) (tgt := 520) dL_law_33 (by decide) (by decide) (by decide) rfl (by decide) (lc_10 hI hcl hsl h1 h2 h3 h4 h5 T)
    · exact S_tabK (k := 11) (tgt := 543) dL_law_33 (by decide) (by decide) (by decide) rfl (by decide) (lc_11 hI hcl hsl h1 h2 h3 h4 h5 T)
    · exact S_tabK (k := 12) (tgt := 576) dL_law_33 (by decide) (by decide) (by decide) rfl (by decide) (lc_12 hI hcl hsl h1 h2 h3 h4 h5 T)
    · exact S_tabK (k := 13) (tgt := 609) dL_law_33 (by decide) (by decide) (by decide) rfl (by decide) (lc_13 hI hcl hsl h1 h2 h3 h4 h5 T)
    · exact S_tabK (k := 14) (tgt := 652) dL_law_33 (by decide) (by decide) (by decide) rfl (by decide) (lc_14 hI hcl hsl h1 h2 h3 h4 h5 T)
    · exact S_tabK (k := 15) (tgt := 721) dL_law_33 (by decide) (by decide) (by decide) rfl (by decide) (lc_15 hI hcl hsl h1 h2 h3 h4 h5 T)
    · exact S_tabK (k := 16) (tgt := 754) dL_law_33 (by decide) (by decide) (by decide) rfl (by decide) (lc_16 hI hcl hsl h1 h2 h3 h4 h5 T)
    · exact S_tabK (k := 17) (tgt := 787) dL_law_33 (by decide) (by decide) (by decide) rfl (by decide) (lc_17 hI hcl hsl h1 h2 h3 h4 h5 T)
    · exact S_tabK (k := 18) (tgt := 821) dL_law_33 (by decide) (by decide) (by decide) rfl (by decide) (lc_18 hI hcl hsl h1 h2 h3 h4 h5 T)
    · exact S_tabK (k := 19) (tgt := 855) dL_law_33 (by decide) (by decide) (by decide) rfl (by decide) (lc_19 hI hcl hsl h1 h2 h3 h4 h5 T)
    · exact S_tabK (k := 20) (tgt := 888) dL_law_33 (by decide) (by decide) (by decide) rfl (by decide) (lc_20 hI hcl hsl h1 h2 h3 h4 h5 T)
    · exact S_tabK (k := 21) (tgt := 911) dL_law_33 (by decide) (by decide) (by decide) rfl (by decide) (lc_21 hI hcl hsl h1 h2 h3 h4 h5 T)
    · exact S_tabK (k := 22) (tgt := 944) dL_law_33 (by decide) (by decide) (by decide) rfl (by decide) (lc_22 hI hcl hsl h1 h2 h3 h4 h5 T)
    · exact S_tabK (k := 23) (tgt := 957) dL_law_33 (by decide) (by decide) (by decide) rfl (by decide) (lc_23 hI hcl hsl h1 h2 h3 h4 h5 T)
    · exact S_tabK (k := 24) (tgt := 990) dL_law_33 (by decide) (by decide) (by decide) rfl (by decide) (lc_24 hI hcl hsl h1 h2 h3 h4 h5 T)
    · exact S_tabK (k := 25) (tgt := 1003) dL_law_33 (by decide) (by decide) (by decide) rfl (by decide) (lc_25 hI hcl hsl h1 h2 h3 h4 h5 T)
    · exact S_tabK (k := 26) (tgt := 1016) dL_law_33 (by decide) (by decide) (by decide) rfl (by decide) (lc_26 hI hcl hsl h1 h2 h3 h4 h5 T)
    · exact S_tabK (k := 27) (tgt := 1059) dL_law_33 (by decide) (by decide) (by decide) rfl (by decide) (lc_27 hI hcl hsl h1 h2 h3 h4 h5 T)
    · exact S_tabK (k := 28) (tgt := 1082) dL_law_33 (by decide) (by decide) (by decide) rfl (by decide) (lc_28 hI hcl hsl h1 h2 h3 h4 h5 T)
    · exact S_tabK (k := 29) (tgt := 1115) dL_law_33 (by decide) (by decide) (by decide) rfl (by decide) (lc_29 hI hcl hsl h1 h2 h3 h4 h5 T)
    · exact S_tabK (k := 30) (tgt := 1138) dL_law_33 (by decide) (by decide) (by decide) rfl (by decide) (lc_30 hI hcl hsl h1 h2 h3 h4 h5 T)
    · exact S_tabK (k := 31) (tgt := 1181) dL_law_33 (by decide) (by decide) (by decide) rfl (by decide) (lc_31 hI hcl hsl h1 h2 h3 h4 h5 T)
    · exact S_tabK (k := 32) (tgt := 1254) dL_law_33 (by decide) (by decide) (by decide) rfl (by decide) (lc_32 hI hcl hsl h1 h2 h3 h4 h5 T)
    · exact S_tabK (k := 33) (tgt := 1288) dL_law_33 (by decide) (by decide) (by decide) rfl (by decide) (lc_33 hI hcl hsl h1 h2 h3 h4 h5 T)
theorem law_cmp {N i : Nat} (hN : N ≤ 3072) (h : N < i + 6) (hi : i ≤ N + 6) : nI N - 6 < nI i := by
  by_cases q : N < 6
  · refine Int32.lt_of_lt_of_le (b := 0) ?_ (nI_pos' (by omega))
    rcases (show N = 0 ∨ N = 1 ∨ N = 2 ∨ N = 3 ∨ N = 4 ∨ N = 5 by omega) with rfl | rfl | rfl | rfl | rfl | rfl <;> decide
  · obtain ⟨m, rfl⟩ : ∃ m, N = m + 6 := ⟨N - 6, by omega⟩
    rw [← nI_add, show nI 6 = 6 from rfl, Int32.add_sub_cancel]
    exact nI_lt (by omega) (by omega)
theorem law_loop (hN : C.2.2.2.1 ≤ 3072) (hcl : cl ≤ 600000) (hsl : sl ≤ 7302250) (hend : ∀ x I L M, Sem C Q n0 (Y_L nm) room_1 1357 (lLV x) [] (zmk I L M) cl sl) : ∀ (f i : Nat) (I : Nat → Nat → Int32) (L : Nat → Nat → Int64) (M : Nat → Nat → Option Nat), C.2.2.2.1 + 6 ≤ i + f → i ≤ C.2.2.2.1 + 6 → Inv I L M → Sem C Q n0 (Y_L nm) room_1 18 (lLV (nI i)) [] (zmk I L M) cl sl := by
  intro f
  induction f with
  | zero =>
    intro i I L M hf hi hI
    refine S_iload_n 3 dL_law_18 rfl rfl ?_
    refine S_aload_n 0 dL_law_19 rfl rfl ?_
    refine S_sc_len (v := nI C.2.2.2.1) rfl dL_law_20 ?_
    refine S_bipush (v := 6) dL_law_21 (by decide) ?_
    refine S_isub dL_law_23 ?_
    refine S_icmp_gt (tgt := 1357) dL_law_24 (by decide) (fun _ => hend _ _ _ _) (fun q => absurd ?_ q)
    exact law_cmp hN (by omega) (by omega)
  | succ f ih =>
    intro i I L M hf hi hI
    refine S_iload_n 3 dL_law_18 rfl rfl ?_
    refine S_aload_n 0 dL_law_19 rfl rfl ?_
    refine S_sc_len (v := nI C.2.2.2.1) rfl dL_law_20 ?_
    refine S_bipush (v := 6) dL_law_21 (by decide) ?_
    refine S_isub dL_law_23 ?_
    refine S_icmp_gt (tgt := 1357) dL_law_24 (by decide) (fun _ => hend _ _ _ _) (fun q => ?_)
    have hi6 : i + 6 ≤ C.2.2.2.1 := Nat.le_of_not_lt fun z => q (law_cmp hN (by omega) (by omega))
    have e : ∀ k : Nat, nI i + nI k = nI (i + k) := fun k => nI_add i k
    refine law_body hI hcl hsl (vp_in_nI (by omega) (by omega)) ?_ ?_ ?_ ?_ ?_ (fun I' L' M' hI' => ?_)
    · show vp_in (nI i + nI 1) _; rw [e]; exact vp_in_nI (by omega) (by omega)
    · show vp_in (nI i + nI 2) _; rw [e]; exact vp_in_nI (by omega) (by omega)
    · show vp_in (nI i + nI 3) _; rw [e]; exact vp_in_nI (by omega) (by omega)
    · show vp_in (nI i + nI 4) _; rw [e]; exact vp_in_nI (by omega) (by omega)
    · show vp_in (nI i + nI 5) _; rw [e]; exact vp_in_nI (by omega) (by omega)
    · refine S_iinc (v := nI (i + 6)) 3 dL_law_1351 rfl (e 6) (Nat.le_of_ble_eq_true rfl) rfl ?_
      refine S_goto (tgt := 18) dL_law_1354 (by decide) ?_
      exact S_sub [1, 2, 3, 0] rfl (ih (i + 6) I' L' M' (by omega) (by omega) hI')
end LL
def QL (C : zC) : zQ := fun _ below args s t => (s.heap.size ≤ C.1.size ∧ ∃ b, args = #[Value.ref b]) → lw_Z below args s t
theorem W_to {p : Program} {l : Launch} {e : Env} {R : Room} {s : State} {m : MethodId} {args : Array Value} {below : List Frame} {meth : Method} {c : Code} {H : Heap} {locs : List Loc} {cells slots : Nat} {Q Q' : State → Prop} {g : JFrame} (h : ∀ t, Q t → Q' t) (k : W p l e R s m args below meth c H locs cells slots Q g) : W p l e R s m args below meth c H locs cells slots Q' g := fun T hT X => by
  obtain ⟨t, a, b⟩ := k T hT X
  exact ⟨t, a, h t b⟩
section LE
variable {nm : String} {C : zC} {n0 cl sl : Nat}
theorem law_end (hcl : cl ≤ 600000) (hsl : sl ≤ 7302250) {lv : List (Nat × Value)} {h : zH} : Sem C (QL C) n0 (Y_L nm) room_1 1357 lv [] h cl sl := by
  refine S_iconst (v := 1) dL_law_1357 (by decide) ?_
  intro ad0 p l e s m args below meth c F B ad H locs ls a1 a2 a3 a4 a5 a6
  by_cases hq : s.heap.size ≤ C.1.size ∧ ∃ b, args = #[Value.ref b]
  · obtain ⟨hq1, b, rfl⟩ := hq
    refine W_to (Q := lw_Z below #[Value.ref b] s) (fun t ht _ => ht) ?_
    refine va_forget (fun q hq => Nat.le_trans hq1 (a5.2.2 q hq)) ?_
    refine W.widen (k := 600000) (n := 7302250) hcl hsl ?_
    exact lw_ret F.1 F.2.1 F.2.2.2.2.2.1 F.2.2.2.2.2.2.1 dL_law_1358
  · exact fun T hT X => ⟨_, Steps.refl _, fun q => absurd q hq⟩
theorem Sem_z {Q : zQ} {Y : zY} {rm : Room} {pc : Nat} {lv : List (Nat × Value)} {st : List Value} (k : Sem C Q n0 Y rm pc lv st zmz cl sl) : Sem C Q n0 Y rm pc lv st (zhl oz) cl sl :=
  fun ad0 p l e s m args below meth c F B ad H locs ls a1 a2 a3 a4 a5 a6 => k ad0 p l e s m args below meth c F B ad H locs ls a1 a2 (by rw [show zn (zhl oz) = 297 from oz_len] at a3; exact a3) (zWd_z a4) a5 a6
end LE
