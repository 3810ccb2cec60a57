/-! PURE METHODS: what they answer -/
theorem S_tabK {C : zC} {Q : zQ} {n0 : Nat} {Y : zY} {rm : Room} {pc : Nat} {lv : List (Nat × Value)} {st : List Value} {h : zH} {cl sl : Nat} {dflt lo hi : Int} {offs : Array Int} {len : Nat} {x k : Int32} {off : Int} {tgt : Nat} (hd : decode Y.2.1 pc = .ok (.tableswitch dflt lo hi offs, len)) (q : x = k) (h1 : ¬ k.toInt < lo) (h2 : ¬ hi < k.toInt) (ho : offs[(k.toInt - lo).toNat]? = some off) (ht : (pc : Int) + off = (tgt : Int)) (kk : Sem C Q n0 Y rm tgt lv st h cl sl) : Sem C Q n0 Y rm pc lv (.int x :: st) h cl sl := by
  subst q
  exact S_tabIn hd h1 h2 ho ht kk
theorem S_lookK {C : zC} {Q : zQ} {n0 : Nat} {Y : zY} {rm : Room} {pc : Nat} {lv : List (Nat × Value)} {st : List Value} {h : zH} {cl sl : Nat} {dflt : Int} {ps : Array (Int × Int)} {len : Nat} {x k : Int32} {off : Int} {tgt : Nat} (hd : decode Y.2.1 pc = .ok (.lookupswitch dflt ps, len)) (hp : (ps.toList.zip (ps.toList.drop 1)).all (fun (a, next) => a.1 < next.1) = true) (q : x = k) (ho : Op.lookupswitch.offset ps.toList dflt k.toInt = off) (ht : (pc : Int) + off = (tgt : Int)) (kk : Sem C Q n0 Y rm tgt lv st h cl sl) : Sem C Q n0 Y rm pc lv (.int x :: st) h cl sl := by
  subst q
  exact S_lookup hd hp ho ht kk
theorem S_pop {C : zC} {Q : zQ} {n0 : Nat} {Y : zY} {rm : Room} {pc : Nat} {lv : List (Nat × Value)} {st : List Value} {h : zH} {cl sl : Nat} {v : Value} (hd : decode Y.2.1 pc = .ok (.pop, 1)) (hc : v.category = 1) (k : Sem C Q n0 Y rm (pc + 1) lv st h cl sl) : Sem C Q n0 Y rm pc lv (v :: st) h cl sl :=
  fun ad0 p l e s m args below meth c F B ad H locs ls a1 a2 a3 a4 a5 a6 => lv_pop F.1 F.2.1 hd (by rw [zv_cat]; exact hc) (k ad0 p l e s m args below meth c F B ad H locs ls a1 a2 a3 a4 a5 a6)
theorem zpI {C : zC} {Y : zY} {d : Nat} {av : List Value} {I : Nat → Nat → Int32} {L : Nat → Nat → Int64} {M : Nat → Nat → Option Nat} {r0 : Int32} (T : zCI C Y d av (zmk I L M) (fun r I' L' M' => r = r0 ∧ I' = I ∧ L' = L ∧ M' = M)) : ∀ R : Option Value → zH → Prop, R (some (.int r0)) (zmk I L M) → CallSem C Y d 0 0 av (zmk I L M) R := fun R k =>
  CallSem_mono T (fun v h' q => by obtain ⟨r, I', L', M', rfl, rfl, rfl, rfl, rfl, rfl⟩ := q; exact k)
theorem zpV {C : zC} {Y : zY} {d : Nat} {av : List Value} {h : zH} {I : Nat → Nat → Int32} {L : Nat → Nat → Int64} {M : Nat → Nat → Option Nat} (T : zCV C Y d av h (fun I' L' M' => I' = I ∧ L' = L ∧ M' = M)) : ∀ R : Option Value → zH → Prop, R none (zmk I L M) → CallSem C Y d 0 0 av h R := fun R k =>
  CallSem_mono T (fun v h' q => by obtain ⟨I', L', M', rfl, rfl, rfl, rfl, rfl⟩ := q; exact k)
theorem zb_y {c : Prop} [Decidable c] (h : c) : 1 = zb c := by simp [zb, h]
theorem zb_n {c : Prop} [Decidable c] (h : ¬ c) : 0 = zb c := by simp [zb, h]
abbrev zhas (b x : Int32) : Prop := (b >>> (x &&& 31)) &&& 1 = 1
theorem zand1 (y : Int32) : y &&& 1 = 0 ∨ y &&& 1 = 1 := by
  have h : (y &&& 1).toBitVec = 0#32 ∨ (y &&& 1).toBitVec = 1#32 := by
    have e : (y &&& 1).toBitVec = y.toBitVec &&& 1#32 := rfl
    rw [e, BitVec.and_one_eq_setWidth_ofBool_getLsbD]
    cases y.toBitVec.getLsbD 0
    · left; rfl
    · right; rfl
  rcases h with h | h
  · exact Or.inl (Int32.toBitVec_inj.mp h)
  · exact Or.inr (Int32.toBitVec_inj.mp h)
theorem zb_c {c c' : Prop} [Decidable c] [Decidable c'] (h : c ↔ c') : zb c = zb c' := ite_congr (propext h) (fun _ => rfl) (fun _ => rfl)
theorem le11 (x : Int32) : x ≤ 11 ↔ x < 12 := by rw [Int32.le_iff_toInt_le, Int32.lt_iff_toInt_lt, show (11 : Int32).toInt = 11 from rfl, show (12 : Int32).toInt = 12 from rfl]; omega
theorem le5 (x : Int32) : x ≤ 5 ↔ x < 6 := by rw [Int32.le_iff_toInt_le, Int32.lt_iff_toInt_lt, show (5 : Int32).toInt = 5 from rfl, show (6 : Int32).toInt = 6 from rfl]; omega
def zwo (b p : Int32) : Int32 := if 0 ≤ p ∧ p < 12 then b &&& (((1 : Int32) <<< (p &&& 31)) ^^^ (-1)) else b
theorem nlt_le {a b : Int32} (h : ¬ a < b) : b ≤ a := by rw [Int32.lt_iff_toInt_lt] at h; rw [Int32.le_iff_toInt_le]; omega
theorem nle_lt {a b : Int32} (h : ¬ a ≤ b) : b < a := by rw [Int32.le_iff_toInt_le] at h; rw [Int32.lt_iff_toInt_lt]; omega
theorem lt_nle {a b : Int32} (h : a < b) : ¬ b ≤ a := by rw [Int32.lt_iff_toInt_lt] at h; rw [Int32.le_iff_toInt_le]; omega
theorem le_nlt {a b : Int32} (h : a ≤ b) : ¬ b < a := by rw [Int32.le_iff_toInt_le] at h; rw [Int32.lt_iff_toInt_lt]; omega

set_option maxRecDepth 100000 in
theorem t_X10_isBelow {C : zC} {I : Nat → Nat → Int32} {L : Nat → Nat → Int64} {M : Nat → Nat → Option Nat} (d : Nat) (x0 : Int32) (x1 : Int32)  (K : Int32 → (Nat → Nat → Int32) → (Nat → Nat → Int64) → (Nat → Nat → Option Nat) → Prop) (T : ((x0 < 0 → K 0 I L M) ∧ (¬ (x0 < 0) → ((x1 ≤ x0 → K 0 I L M) ∧ (¬ (x1 ≤ x0) → K 1 I L M))))) : zCI C Y_X10_isBelow (d + 1) [.int x0, .int x1] (zmk I L M) K := by
  refine S_enter (by decide) (Nat.le_of_ble_eq_true rfl) ?_
  refine S_lv (lv' := [(0, .int x0), (1, .int x1)]) rfl ?_
  refine S_iload_n 0 dX10_isBelow_0 rfl rfl ?_
  refine S_if_lt (tgt := 13) dX10_isBelow_1 (by decide) (fun q1 => ?_) (fun q1 => ?_)
  · refine S_iconst (v := 0) dX10_isBelow_13 (by decide) ?_
    exact S_iretz rfl (by decide) dX10_isBelow_14 ⟨_, I, L, M, rfl, rfl, (T.1 q1)⟩
  · refine S_iload_n 0 dX10_isBelow_4 rfl rfl ?_
    refine S_iload_n 1 dX10_isBelow_5 rfl rfl ?_
    refine S_icmp_ge (tgt := 13) dX10_isBelow_6 (by decide) (fun q2 => ?_) (fun q2 => ?_)
    · refine S_iconst (v := 0) dX10_isBelow_13 (by decide) ?_
      exact S_iretz rfl (by decide) dX10_isBelow_14 ⟨_, I, L, M, rfl, rfl, ((T.2 q1).1 q2)⟩
    · refine S_iconst (v := 1) dX10_isBelow_9 (by decide) ?_
      refine S_goto (tgt := 14) dX10_isBelow_10 (by decide) ?_
      exact S_iretz rfl (by decide) dX10_isBelow_14 ⟨_, I, L, M, rfl, rfl, ((T.2 q1).2 q2)⟩

theorem sp_X10_isBelow {C : zC} {I : Nat → Nat → Int32} {L : Nat → Nat → Int64} {M : Nat → Nat → Option Nat} (d : Nat) (x0 : Int32) (x1 : Int32) : ∀ R : Option Value → zH → Prop, R (some (.int (zb (0 ≤ x0 ∧ x0 < x1)))) (zmk I L M) → CallSem C Y_X10_isBelow (d + 1) 0 0 [.int x0, .int x1] (zmk I L M) R := zpI (t_X10_isBelow d x0 x1 _ ⟨fun q => ⟨zb_n (fun z => le_nlt z.1 q), rfl, rfl, rfl⟩, fun q => ⟨fun q2 => ⟨zb_n (fun z => lt_nle z.2 q2), rfl, rfl, rfl⟩, fun q2 => ⟨zb_y ⟨nlt_le q, nle_lt q2⟩, rfl, rfl, rfl⟩⟩⟩)
set_option maxRecDepth 100000 in
theorem t_X10_isWithin {C : zC} {I : Nat → Nat → Int32} {L : Nat → Nat → Int64} {M : Nat → Nat → Option Nat} (d : Nat) (x0 : Int32) (x1 : Int32)  (K : Int32 → (Nat → Nat → Int32) → (Nat → Nat → Int64) → (Nat → Nat → Option Nat) → Prop) (T : ((x0 < 0 → K 0 I L M) ∧ (¬ (x0 < 0) → ((x1 < x0 → K 0 I L M) ∧ (¬ (x1 < x0) → K 1 I L M))))) : zCI C Y_X10_isWithin (d + 1) [.int x0, .int x1] (zmk I L M) K := by
  refine S_enter (by decide) (Nat.le_of_ble_eq_true rfl) ?_
  refine S_lv (lv' := [(0, .int x0), (1, .int x1)]) rfl ?_
  refine S_iload_n 0 dX10_isWithin_0 rfl rfl ?_
  refine S_if_lt (tgt := 13) dX10_isWithin_1 (by decide) (fun q1 => ?_) (fun q1 => ?_)
  · refine S_iconst (v := 0) dX10_isWithin_13 (by decide) ?_
    exact S_iretz rfl (by decide) dX10_isWithin_14 ⟨_, I, L, M, rfl, rfl, (T.1 q1)⟩
  · refine S_iload_n 0 dX10_isWithin_4 rfl rfl ?_
    refine S_iload_n 1 dX10_isWithin_5 rfl rfl ?_
    refine S_icmp_gt (tgt := 13) dX10_isWithin_6 (by decide) (fun q2 => ?_) (fun q2 => ?_)
    · refine S_iconst (v := 0) dX10_isWithin_13 (by decide) ?_
      exact S_iretz rfl (by decide) dX10_isWithin_14 ⟨_, I, L, M, rfl, rfl, ((T.2 q1).1 q2)⟩
    · refine S_iconst (v := 1) dX10_isWithin_9 (by decide) ?_
      refine S_goto (tgt := 14) dX10_isWithin_10 (by decide) ?_
      exact S_iretz rfl (by decide) dX10_isWithin_14 ⟨_, I, L, M, rfl, rfl, ((T.2 q1).2 q2)⟩

theorem sp_X10_isWithin {C : zC} {I : Nat → Nat → Int32} {L : Nat → Nat → Int64} {M : Nat → Nat → Option Nat} (d : Nat) (x0 : Int32) (x1 : Int32) : ∀ R : Option Value → zH → Prop, R (some (.int (zb (0 ≤ x0 ∧ x0 ≤ x1)))) (zmk I L M) → CallSem C Y_X10_isWithin (d + 1) 0 0 [.int x0, .int x1] (zmk I L M) R := zpI (t_X10_isWithin d x0 x1 _ ⟨fun q => ⟨zb_n (fun z => le_nlt z.1 q), rfl, rfl, rfl⟩, fun q => ⟨fun q2 => ⟨zb_n (fun z => le_nlt z.2 q2), rfl, rfl, rfl⟩, fun q2 => ⟨zb_y ⟨nlt_le q, nlt_le q2⟩, rfl, rfl, rfl⟩⟩⟩)
set_option maxRecDepth 100000 in
theorem t_X10_isPurpose {C : zC} {I : Nat → Nat → Int32} {L : Nat → Nat → Int64} {M : Nat → Nat → Option Nat} (d : Nat) (x0 : Int32)  (K : Int32 → (Nat → Nat → Int32) → (Nat → Nat → Int64) → (Nat → Nat → Option Nat) → Prop) (T : K ((zb (0 ≤ x0 ∧ x0 < 12))) I L M) : zCI C Y_X10_isPurpose (d + 2) [.int x0] (zmk I L M) K := by
  refine S_enter (by decide) (Nat.le_of_ble_eq_true rfl) ?_
  refine S_lv (lv' := [(0, .int x0)]) rfl ?_
  refine S_iload_n 0 dX10_isPurpose_0 rfl rfl ?_
  refine S_bipush (v := 12) dX10_isPurpose_1 (by decide) ?_
  refine S_callS [.int x0, .int 12] [] m_RX10_85 rfl rfl (Nat.le_of_ble_eq_true rfl) (zroom_0 (by decide)) dX10_isPurpose_3 (zpure (sp_X10_isBelow (I := I) (L := L) (M := M) (d + 0) x0 12) ?_)
  exact S_iretz rfl zb_01 dX10_isPurpose_6 ⟨_, I, L, M, rfl, rfl, T⟩

theorem sp_X10_isPurpose {C : zC} {I : Nat → Nat → Int32} {L : Nat → Nat → Int64} {M : Nat → Nat → Option Nat} (d : Nat) (x0 : Int32) : ∀ R : Option Value → zH → Prop, R (some (.int (zb (0 ≤ x0 ∧ x0 < 12)))) (zmk I L M) → CallSem C Y_X10_isPurpose (d + 2) 0 0 [.int x0] (zmk I L M) R := zpI (t_X10_isPurpose d x0 _ ⟨rfl, rfl, rfl, rfl⟩)
set_option maxRecDepth 100000 in
theorem t_X10_isGuest {C : zC} {I : Nat → Nat → Int32} {L : Nat → Nat → Int64} {M : Nat → Nat → Option Nat} (d : Nat) (x1 : Int32)  (K : Int32 → (Nat → Nat → Int32) → (Nat → Nat → Int64) → (Nat → Nat → Option Nat) → Prop) (T : K ((zb (0 ≤ x1 ∧ x1 < (I 3 3)))) I L M) : zCI C Y_X10_isGuest (d + 2) [.ref 0, .int x1] (zmk I L M) K := by
  refine S_enter (by decide) (Nat.le_of_ble_eq_true rfl) ?_
  refine S_lv (lv' := [(0, .ref 0), (1, .int x1)]) rfl ?_
  refine S_iload_n 1 dX10_isGuest_0 rfl rfl ?_
  refine S_aload_n 0 dX10_isGuest_1 rfl rfl ?_
  refine S_getP f_RX10_23 s_0 p_0_1 dX10_isGuest_2 ?_
  refine S_getI f_RX10_92 (sI i0) dX10_isGuest_5 ?_
  refine S_callS [.int x1, .int (I 3 3)] [] m_RX10_85 rfl rfl (Nat.le_of_ble_eq_true rfl) (zroom_0 (by decide)) dX10_isGuest_8 (zpure (sp_X10_isBelow (I := I) (L := L) (M := M) (d + 0) x1 ((I 3 3))) ?_)
  exact S_iretz rfl zb_01 dX10_isGuest_11 ⟨_, I, L, M, rfl, rfl, T⟩

theorem sp_X10_isGuest {C : zC} {I : Nat → Nat → Int32} {L : Nat → Nat → Int64} {M : Nat → Nat → Option Nat} (d : Nat) (x1 : Int32) : ∀ R : Option Value → zH → Prop, R (some (.int (zb (0 ≤ x1 ∧ x1 < I 3 3)))) (zmk I L M) → CallSem C Y_X10_isGuest (d + 2) 0 0 [.ref 0, .int x1] (zmk I L M) R := zpI (t_X10_isGuest d x1 _ ⟨rfl, rfl, rfl, rfl⟩)
set_option maxRecDepth 100000 in
theorem t_X10_has {C : zC} {I : Nat → Nat → Int32} {L : Nat → Nat → Int64} {M : Nat → Nat → Option Nat} (d : Nat) (x0 : Int32) (x1 : Int32)  (K : Int32 → (Nat → Nat → Int32) → (Nat → Nat → Int64) → (Nat → Nat → Option Nat) → Prop) (T : ((((x0 >>> (x1 &&& 31)) &&& (1 : Int32)) = 0 → K 0 I L M) ∧ (¬ (((x0 >>> (x1 &&& 31)) &&& (1 : Int32)) = 0) → K 1 I L M))) : zCI C Y_X10_has (d + 1) [.int x0, .int x1] (zmk I L M) K := by
  refine S_enter (by decide) (Nat.le_of_ble_eq_true rfl) ?_
  refine S_lv (lv' := [(0, .int x0), (1, .int x1)]) rfl ?_
  refine S_iload_n 0 dX10_has_0 rfl rfl ?_
  refine S_iload_n 1 dX10_has_1 rfl rfl ?_
  refine S_ishr dX10_has_2 ?_
  refine S_iconst (v := 1) dX10_has_3 (by decide) ?_
  refine S_iand dX10_has_4 ?_
  refine S_if_eq (tgt := 12) dX10_has_5 (by decide) (fun q1 => ?_) (fun q1 => ?_)
  · refine S_iconst (v := 0) dX10_has_12 (by decide) ?_
    exact S_iretz rfl (by decide) dX10_has_13 ⟨_, I, L, M, rfl, rfl, (T.1 q1)⟩
  · refine S_iconst (v := 1) dX10_has_8 (by decide) ?_
    refine S_goto (tgt := 13) dX10_has_9 (by decide) ?_
    exact S_iretz rfl (by decide) dX10_has_13 ⟨_, I, L, M, rfl, rfl, (T.2 q1)⟩

theorem sp_X10_has {C : zC} {I : Nat → Nat → Int32} {L : Nat → Nat → Int64} {M : Nat → Nat → Option Nat} (d : Nat) (x0 : Int32) (x1 : Int32) : ∀ R : Option Value → zH → Prop, R (some (.int (zb (zhas x0 x1)))) (zmk I L M) → CallSem C Y_X10_has (d + 1) 0 0 [.int x0, .int x1] (zmk I L M) R := zpI (t_X10_has d x0 x1 _ ⟨fun q => ⟨zb_n (fun z => absurd (q.symm.trans z) (by decide)), rfl, rfl, rfl⟩, fun q => ⟨zb_y ((zand1 _).resolve_left q), rfl, rfl, rfl⟩⟩)
set_option maxRecDepth 100000 in
theorem t_X10_without {C : zC} {I : Nat → Nat → Int32} {L : Nat → Nat → Int64} {M : Nat → Nat → Option Nat} (d : Nat) (x0 : Int32) (x1 : Int32)  (K : Int32 → (Nat → Nat → Int32) → (Nat → Nat → Int64) → (Nat → Nat → Option Nat) → Prop) (T : ((¬ (0 ≤ x1 ∧ x1 < 12) → K x0 I L M) ∧ ((0 ≤ x1 ∧ x1 < 12) → K ((x0 &&& (((1 : Int32) <<< (x1 &&& 31)) ^^^ (-1 : Int32)))) I L M))) : zCI C Y_X10_without (d + 3) [.int x0, .int x1] (zmk I L M) K := by
  refine S_enter (by decide) (Nat.le_of_ble_eq_true rfl) ?_
  refine S_lv (lv' := [(0, .int x0), (1, .int x1)]) rfl ?_
  refine S_iload_n 1 dX10_without_0 rfl rfl ?_
  refine S_callS [.int x1] [] m_RX10_143 rfl rfl (Nat.le_of_ble_eq_true rfl) (zroom_0 (by decide)) dX10_without_1 (zpure (sp_X10_isPurpose (I := I) (L := L) (M := M) (d + 0) x1) ?_)
  refine S_if_eq (tgt := 17) dX10_without_4 (by decide) (fun q1 => ?_) (fun q1 => ?_)
  · refine S_iload_n 0 dX10_without_17 rfl rfl ?_
    exact S_ireti rfl dX10_without_18 ⟨_, I, L, M, rfl, rfl, (T.1 (zb_f q1))⟩
  · refine S_iload_n 0 dX10_without_7 rfl rfl ?_
    refine S_iconst (v := 1) dX10_without_8 (by decide) ?_
    refine S_iload_n 1 dX10_without_9 rfl rfl ?_
    refine S_ishl dX10_without_10 ?_
    refine S_iconst (v := -1) dX10_without_11 (by decide) ?_
    refine S_ixor dX10_without_12 ?_
    refine S_iand dX10_without_13 ?_
    refine S_goto (tgt := 18) dX10_without_14 (by decide) ?_
    exact S_ireti rfl dX10_without_18 ⟨_, I, L, M, rfl, rfl, (T.2 (zb_t q1))⟩

theorem sp_X10_without {C : zC} {I : Nat → Nat → Int32} {L : Nat → Nat → Int64} {M : Nat → Nat → Option Nat} (d : Nat) (x0 : Int32) (x1 : Int32) : ∀ R : Option Value → zH → Prop, R (some (.int (zwo x0 x1))) (zmk I L M) → CallSem C Y_X10_without (d + 3) 0 0 [.int x0, .int x1] (zmk I L M) R := zpI (t_X10_without d x0 x1 _ ⟨fun q => ⟨(if_neg q).symm, rfl, rfl, rfl⟩, fun q => ⟨(if_pos q).symm, rfl, rfl, rfl⟩⟩)
set_option maxRecDepth 100000 in
theorem t_X11_within {C : zC} {I : Nat → Nat → Int32} {L : Nat → Nat → Int64} {M : Nat → Nat → Option Nat} (d : Nat) (x0 : Int32) (x1 : Int32) (x2 : Int32)  (K : Int32 → (Nat → Nat → Int32) → (Nat → Nat → Int64) → (Nat → Nat → Option Nat) → Prop) (T : ((x0 < x1 → K 0 I L M) ∧ (¬ (x0 < x1) → ((x2 < x0 → K 0 I L M) ∧ (¬ (x2 < x0) → K 1 I L M))))) : zCI C Y_X11_within (d + 1) [.int x0, .int x1, .int x2] (zmk I L M) K := by
  refine S_enter (by decide) (Nat.le_of_ble_eq_true rfl) ?_
  refine S_lv (lv' := [(0, .int x0), (1, .int x1), (2, .int x2)]) rfl ?_
  refine S_iload_n 0 dX11_within_0 rfl rfl ?_
  refine S_iload_n 1 dX11_within_1 rfl rfl ?_
  refine S_icmp_lt (tgt := 14) dX11_within_2 (by decide) (fun q1 => ?_) (fun q1 => ?_)
  · refine S_iconst (v := 0) dX11_within_14 (by decide) ?_
    exact S_iretz rfl (by decide) dX11_within_15 ⟨_, I, L, M, rfl, rfl, (T.1 q1)⟩
  · refine S_iload_n 0 dX11_within_5 rfl rfl ?_
    refine S_iload_n 2 dX11_within_6 rfl rfl ?_
    refine S_icmp_gt (tgt := 14) dX11_within_7 (by decide) (fun q2 => ?_) (fun q2 => ?_)
    · refine S_iconst (v := 0) dX11_within_14 (by decide) ?_
      exact S_iretz rfl (by decide) dX11_within_15 ⟨_, I, L, M, rfl, rfl, ((T.2 q1).1 q2)⟩
    · refine S_iconst (v := 1) dX11_within_10 (by decide) ?_
      refine S_goto (tgt := 15) dX11_within_11 (by decide) ?_
      exact S_iretz rfl (by decide) dX11_within_15 ⟨_, I, L, M, rfl, rfl, ((T.2 q1).2 q2)⟩

theorem sp_X11_within {C : zC} {I : Nat → Nat → Int32} {L : Nat → Nat → Int64} {M : Nat → Nat → Option Nat} (d : Nat) (x0 : Int32) (x1 : Int32) (x2 : Int32) : ∀ R : Option Value → zH → Prop, R (some (.int (zb (x1 ≤ x0 ∧ x0 ≤ x2)))) (zmk I L M) → CallSem C Y_X11_within (d + 1) 0 0 [.int x0, .int x1, .int x2] (zmk I L M) R := zpI (t_X11_within d x0 x1 x2 _ ⟨fun q => ⟨zb_n (fun z => le_nlt z.1 q), rfl, rfl, rfl⟩, fun q => ⟨fun q2 => ⟨zb_n (fun z => le_nlt z.2 q2), rfl, rfl, rfl⟩, fun q2 => ⟨zb_y ⟨nlt_le q, nlt_le q2⟩, rfl, rfl, rfl⟩⟩⟩)
set_option maxRecDepth 100000 in
theorem t_X11_isPurpose {C : zC} {I : Nat → Nat → Int32} {L : Nat → Nat → Int64} {M : Nat → Nat → Option Nat} (d : Nat) (x0 : Int32)  (K : Int32 → (Nat → Nat → Int32) → (Nat → Nat → Int64) → (Nat → Nat → Option Nat) → Prop) (T : K ((zb ((0 : Int32) ≤ x0 ∧ x0 ≤ 11))) I L M) : zCI C Y_X11_isPurpose (d + 2) [.int x0] (zmk I L M) K := by
  refine S_enter (by decide) (Nat.le_of_ble_eq_true rfl) ?_
  refine S_lv (lv' := [(0, .int x0)]) rfl ?_
  refine S_iload_n 0 dX11_isPurpose_0 rfl rfl ?_
  refine S_iconst (v := 0) dX11_isPurpose_1 (by decide) ?_
  refine S_bipush (v := 11) dX11_isPurpose_2 (by decide) ?_
  refine S_callS [.int x0, .int 0, .int 11] [] m_RX11_114 rfl rfl (Nat.le_of_ble_eq_true rfl) (zroom_0 (by decide)) dX11_isPurpose_4 (zpure (sp_X11_within (I := I) (L := L) (M := M) (d + 0) x0 0 11) ?_)
  exact S_iretz rfl zb_01 dX11_isPurpose_7 ⟨_, I, L, M, rfl, rfl, T⟩

theorem sp_X11_isPurpose {C : zC} {I : Nat → Nat → Int32} {L : Nat → Nat → Int64} {M : Nat → Nat → Option Nat} (d : Nat) (x0 : Int32) : ∀ R : Option Value → zH → Prop, R (some (.int (zb (0 ≤ x0 ∧ x0 < 12)))) (zmk I L M) → CallSem C Y_X11_isPurpose (d + 2) 0 0 [.int x0] (zmk I L M) R := zpI (t_X11_isPurpose d x0 _ ⟨zb_c (and_congr_right fun _ => le11 x0), rfl, rfl, rfl⟩)
set_option maxRecDepth 100000 in
theorem t_X11_isOne {C : zC} {I : Nat → Nat → Int32} {L : Nat → Nat → Int64} {M : Nat → Nat → Option Nat} (d : Nat) (x1 : Int32)  (K : Int32 → (Nat → Nat → Int32) → (Nat → Nat → Int64) → (Nat → Nat → Option Nat) → Prop) (T : K ((zb ((0 : Int32) ≤ x1 ∧ x1 ≤ ((I 265 2) - (1 : Int32))))) I L M) : zCI C Y_X11_isOne (d + 2) [.ref 265, .int x1] (zmk I L M) K := by
  refine S_enter (by decide) (Nat.le_of_ble_eq_true rfl) ?_
  refine S_lv (lv' := [(0, .ref 265), (1, .int x1)]) rfl ?_
  refine S_iload_n 1 dX11_isOne_0 rfl rfl ?_
  refine S_iconst (v := 0) dX11_isOne_1 (by decide) ?_
  refine S_aload_n 0 dX11_isOne_2 rfl rfl ?_
  refine S_getI f_RX11_111 s_265 dX11_isOne_3 ?_
  refine S_iconst (v := 1) dX11_isOne_6 (by decide) ?_
  refine S_isub dX11_isOne_7 ?_
  refine S_callS [.int x1, .int 0, .int ((I 265 2) - (1 : Int32))] [] m_RX11_114 rfl rfl (Nat.le_of_ble_eq_true rfl) (zroom_0 (by decide)) dX11_isOne_8 (zpure (sp_X11_within (I := I) (L := L) (M := M) (d + 0) x1 0 (((I 265 2) - (1 : Int32)))) ?_)
  exact S_iretz rfl zb_01 dX11_isOne_11 ⟨_, I, L, M, rfl, rfl, T⟩

theorem sp_X11_isOne {C : zC} {I : Nat → Nat → Int32} {L : Nat → Nat → Int64} {M : Nat → Nat → Option Nat} (d : Nat) (x1 : Int32) : ∀ R : Option Value → zH → Prop, R (some (.int (zb (0 ≤ x1 ∧ x1 ≤ I 265 2 - 1)))) (zmk I L M) → CallSem C Y_X11_isOne (d + 2) 0 0 [.ref 265, .int x1] (zmk I L M) R := zpI (t_X11_isOne d x1 _ ⟨rfl, rfl, rfl, rfl⟩)
set_option maxRecDepth 100000 in
theorem t_X11_has {C : zC} {I : Nat → Nat → Int32} {L : Nat → Nat → Int64} {M : Nat → Nat → Option Nat} (d : Nat) (x0 : Int32) (x1 : Int32)  (K : Int32 → (Nat → Nat → Int32) → (Nat → Nat → Int64) → (Nat → Nat → Option Nat) → Prop) (T : ((¬ ((x0 >>> (x1 &&& 31)) &&& (1 : Int32)) = 1 → K 0 I L M) ∧ (((x0 >>> (x1 &&& 31)) &&& (1 : Int32)) = 1 → K 1 I L M))) : zCI C Y_X11_has (d + 1) [.int x0, .int x1] (zmk I L M) K := by
  refine S_enter (by decide) (Nat.le_of_ble_eq_true rfl) ?_
  refine S_lv (lv' := [(0, .int x0), (1, .int x1)]) rfl ?_
  refine S_iload_n 0 dX11_has_0 rfl rfl ?_
  refine S_iload_n 1 dX11_has_1 rfl rfl ?_
  refine S_ishr dX11_has_2 ?_
  refine S_iconst (v := 1) dX11_has_3 (by decide) ?_
  refine S_iand dX11_has_4 ?_
  refine S_iconst (v := 1) dX11_has_5 (by decide) ?_
  refine S_icmp_ne (tgt := 13) dX11_has_6 (by decide) (fun q1 => ?_) (fun q1 => ?_)
  · refine S_iconst (v := 0) dX11_has_13 (by decide) ?_
    exact S_iretz rfl (by decide) dX11_has_14 ⟨_, I, L, M, rfl, rfl, (T.1 q1)⟩
  · refine S_iconst (v := 1) dX11_has_9 (by decide) ?_
    refine S_goto (tgt := 14) dX11_has_10 (by decide) ?_
    exact S_iretz rfl (by decide) dX11_has_14 ⟨_, I, L, M, rfl, rfl, (T.2 q1)⟩

theorem sp_X11_has {C : zC} {I : Nat → Nat → Int32} {L : Nat → Nat → Int64} {M : Nat → Nat → Option Nat} (d : Nat) (x0 : Int32) (x1 : Int32) : ∀ R : Option Value → zH → Prop, R (some (.int (zb (zhas x0 x1)))) (zmk I L M) → CallSem C Y_X11_has (d + 1) 0 0 [.int x0, .int x1] (zmk I L M) R := zpI (t_X11_has d x0 x1 _ ⟨fun q => ⟨zb_n q, rfl, rfl, rfl⟩, fun q => ⟨zb_y q, rfl, rfl, rfl⟩⟩)
set_option maxRecDepth 100000 in
theorem t_X11_isTape {C : zC} {I : Nat → Nat → Int32} {L : Nat → Nat → Int64} {M : Nat → Nat → Option Nat} (d : Nat) (x0 : Int32)  (K : Int32 → (Nat → Nat → Int32) → (Nat → Nat → Int64) → (Nat → Nat → Option Nat) → Prop) (T : K ((zb ((0 : Int32) ≤ x0 ∧ x0 ≤ 5))) I L M) : zCI C Y_X11_isTape (d + 2) [.int x0] (zmk I L M) K := by
  refine S_enter (by decide) (Nat.le_of_ble_eq_true rfl) ?_
  refine S_lv (lv' := [(0, .int x0)]) rfl ?_
  refine S_iload_n 0 dX11_isTape_0 rfl rfl ?_
  refine S_iconst (v := 0) dX11_isTape_1 (by decide) ?_
  refine S_iconst (v := 5) dX11_isTape_2 (by decide) ?_
  refine S_callS [.int x0, .int 0, .int 5] [] m_RX11_114 rfl rfl (Nat.le_of_ble_eq_true rfl) (zroom_0 (by decide)) dX11_isTape_3 (zpure (sp_X11_within (I := I) (L := L) (M := M) (d + 0) x0 0 5) ?_)
  exact S_iretz rfl zb_01 dX11_isTape_6 ⟨_, I, L, M, rfl, rfl, T⟩

theorem sp_X11_isTape {C : zC} {I : Nat → Nat → Int32} {L : Nat → Nat → Int64} {M : Nat → Nat → Option Nat} (d : Nat) (x0 : Int32) : ∀ R : Option Value → zH → Prop, R (some (.int (zb (0 ≤ x0 ∧ x0 < 6)))) (zmk I L M) → CallSem C Y_X11_isTape (d + 2) 0 0 [.int x0] (zmk I L M) R := zpI (t_X11_isTape d x0 _ ⟨zb_c (and_congr_right fun _ => le5 x0), rfl, rfl, rfl⟩)
def zbc (x0 : Int32) : Int32 := ((((((((x0 - ((((x0 : Int32).toUInt32 >>> (((1 : Int32) : Int32).toUInt32 &&& Int32.toUInt32 31)).toInt32) &&& (1431655765 : Int32))) &&& (858993459 : Int32)) + (((((x0 - ((((x0 : Int32).toUInt32 >>> (((1 : Int32) : Int32).toUInt32 &&& Int32.toUInt32 31)).toInt32) &&& (1431655765 : Int32))) : Int32).toUInt32 >>> (((2 : Int32) : Int32).toUInt32 &&& Int32.toUInt32 31)).toInt32) &&& (858993459 : Int32))) + ((((((x0 - ((((x0 : Int32).toUInt32 >>> (((1 : Int32) : Int32).toUInt32 &&& Int32.toUInt32 31)).toInt32) &&& (1431655765 : Int32))) &&& (858993459 : Int32)) + (((((x0 - ((((x0 : Int32).toUInt32 >>> (((1 : Int32) : Int32).toUInt32 &&& Int32.toUInt32 31)).toInt32) &&& (1431655765 : Int32))) : Int32).toUInt32 >>> (((2 : Int32) : Int32).toUInt32 &&& Int32.toUInt32 31)).toInt32) &&& (858993459 : Int32))) : Int32).toUInt32 >>> (((4 : Int32) : Int32).toUInt32 &&& Int32.toUInt32 31)).toInt32)) &&& (252645135 : Int32)) + ((((((((x0 - ((((x0 : Int32).toUInt32 >>> (((1 : Int32) : Int32).toUInt32 &&& Int32.toUInt32 31)).toInt32) &&& (1431655765 : Int32))) &&& (858993459 : Int32)) + (((((x0 - ((((x0 : Int32).toUInt32 >>> (((1 : Int32) : Int32).toUInt32 &&& Int32.toUInt32 31)).toInt32) &&& (1431655765 : Int32))) : Int32).toUInt32 >>> (((2 : Int32) : Int32).toUInt32 &&& Int32.toUInt32 31)).toInt32) &&& (858993459 : Int32))) + ((((((x0 - ((((x0 : Int32).toUInt32 >>> (((1 : Int32) : Int32).toUInt32 &&& Int32.toUInt32 31)).toInt32) &&& (1431655765 : Int32))) &&& (858993459 : Int32)) + (((((x0 - ((((x0 : Int32).toUInt32 >>> (((1 : Int32) : Int32).toUInt32 &&& Int32.toUInt32 31)).toInt32) &&& (1431655765 : Int32))) : Int32).toUInt32 >>> (((2 : Int32) : Int32).toUInt32 &&& Int32.toUInt32 31)).toInt32) &&& (858993459 : Int32))) : Int32).toUInt32 >>> (((4 : Int32) : Int32).toUInt32 &&& Int32.toUInt32 31)).toInt32)) &&& (252645135 : Int32)) : Int32).toUInt32 >>> (((8 : Int32) : Int32).toUInt32 &&& Int32.toUInt32 31)).toInt32)) + (((((((((x0 - ((((x0 : Int32).toUInt32 >>> (((1 : Int32) : Int32).toUInt32 &&& Int32.toUInt32 31)).toInt32) &&& (1431655765 : Int32))) &&& (858993459 : Int32)) + (((((x0 - ((((x0 : Int32).toUInt32 >>> (((1 : Int32) : Int32).toUInt32 &&& Int32.toUInt32 31)).toInt32) &&& (1431655765 : Int32))) : Int32).toUInt32 >>> (((2 : Int32) : Int32).toUInt32 &&& Int32.toUInt32 31)).toInt32) &&& (858993459 : Int32))) + ((((((x0 - ((((x0 : Int32).toUInt32 >>> (((1 : Int32) : Int32).toUInt32 &&& Int32.toUInt32 31)).toInt32) &&& (1431655765 : Int32))) &&& (858993459 : Int32)) + (((((x0 - ((((x0 : Int32).toUInt32 >>> (((1 : Int32) : Int32).toUInt32 &&& Int32.toUInt32 31)).toInt32) &&& (1431655765 : Int32))) : Int32).toUInt32 >>> (((2 : Int32) : Int32).toUInt32 &&& Int32.toUInt32 31)).toInt32) &&& (858993459 : Int32))) : Int32).toUInt32 >>> (((4 : Int32) : Int32).toUInt32 &&& Int32.toUInt32 31)).toInt32)) &&& (252645135 : Int32)) + ((((((((x0 - ((((x0 : Int32).toUInt32 >>> (((1 : Int32) : Int32).toUInt32 &&& Int32.toUInt32 31)).toInt32) &&& (1431655765 : Int32))) &&& (858993459 : Int32)) + (((((x0 - ((((x0 : Int32).toUInt32 >>> (((1 : Int32) : Int32).toUInt32 &&& Int32.toUInt32 31)).toInt32) &&& (1431655765 : Int32))) : Int32).toUInt32 >>> (((2 : Int32) : Int32).toUInt32 &&& Int32.toUInt32 31)).toInt32) &&& (858993459 : Int32))) + ((((((x0 - ((((x0 : Int32).toUInt32 >>> (((1 : Int32) : Int32).toUInt32 &&& Int32.toUInt32 31)).toInt32) &&& (1431655765 : Int32))) &&& (858993459 : Int32)) + (((((x0 - ((((x0 : Int32).toUInt32 >>> (((1 : Int32) : Int32).toUInt32 &&& Int32.toUInt32 31)).toInt32) &&& (1431655765 : Int32))) : Int32).toUInt32 >>> (((2 : Int32) : Int32).toUInt32 &&& Int32.toUInt32 31)).toInt32) &&& (858993459 : Int32))) : Int32).toUInt32 >>> (((4 : Int32) : Int32).toUInt32 &&& Int32.toUInt32 31)).toInt32)) &&& (252645135 : Int32)) : Int32).toUInt32 >>> (((8 : Int32) : Int32).toUInt32 &&& Int32.toUInt32 31)).toInt32)) : Int32).toUInt32 >>> (((16 : Int32) : Int32).toUInt32 &&& Int32.toUInt32 31)).toInt32)) &&& (63 : Int32))
set_option maxRecDepth 100000 in
theorem t_J6_bitCount_0f7a4 {C : zC} {I : Nat → Nat → Int32} {L : Nat → Nat → Int64} {M : Nat → Nat → Option Nat} (d : Nat) (x0 : Int32)  (K : Int32 → (Nat → Nat → Int32) → (Nat → Nat → Int64) → (Nat → Nat → Option Nat) → Prop) (T : K (((((((((x0 - ((((x0 : Int32).toUInt32 >>> (((1 : Int32) : Int32).toUInt32 &&& Int32.toUInt32 31)).toInt32) &&& (1431655765 : Int32))) &&& (858993459 : Int32)) + (((((x0 - ((((x0 : Int32).toUInt32 >>> (((1 : Int32) : Int32).toUInt32 &&& Int32.toUInt32 31)).toInt32) &&& (1431655765 : Int32))) : Int32).toUInt32 >>> (((2 : Int32) : Int32).toUInt32 &&& Int32.toUInt32 31)).toInt32) &&& (858993459 : Int32))) + ((((((x0 - ((((x0 : Int32).toUInt32 >>> (((1 : Int32) : Int32).toUInt32 &&& Int32.toUInt32 31)).toInt32) &&& (1431655765 : Int32))) &&& (858993459 : Int32)) + (((((x0 - ((((x0 : Int32).toUInt32 >>> (((1 : Int32) : Int32).toUInt32 &&& Int32.toUInt32 31)).toInt32) &&& (1431655765 : Int32))) : Int32).toUInt32 >>> (((2 : Int32) : Int32).toUInt32 &&& Int32.toUInt32 31)).toInt32) &&& (858993459 : Int32))) : Int32).toUInt32 >>> (((4 : Int32) : Int32).toUInt32 &&& Int32.toUInt32 31)).toInt32)) &&& (252645135 : Int32)) + ((((((((x0 - ((((x0 : Int32).toUInt32 >>> (((1 : Int32) : Int32).toUInt32 &&& Int32.toUInt32 31)).toInt32) &&& (1431655765 : Int32))) &&& (858993459 : Int32)) + (((((x0 - ((((x0 : Int32).toUInt32 >>> (((1 : Int32) : Int32).toUInt32 &&& Int32.toUInt32 31)).toInt32) &&& (1431655765 : Int32))) : Int32).toUInt32 >>> (((2 : Int32) : Int32).toUInt32 &&& Int32.toUInt32 31)).toInt32) &&& (858993459 : Int32))) + ((((((x0 - ((((x0 : Int32).toUInt32 >>> (((1 : Int32) : Int32).toUInt32 &&& Int32.toUInt32 31)).toInt32) &&& (1431655765 : Int32))) &&& (858993459 : Int32)) + (((((x0 - ((((x0 : Int32).toUInt32 >>> (((1 : Int32) : Int32).toUInt32 &&& Int32.toUInt32 31)).toInt32) &&& (1431655765 : Int32))) : Int32).toUInt32 >>> (((2 : Int32) : Int32).toUInt32 &&& Int32.toUInt32 31)).toInt32) &&& (858993459 : Int32))) : Int32).toUInt32 >>> (((4 : Int32) : Int32).toUInt32 &&& Int32.toUInt32 31)).toInt32)) &&& (252645135 : Int32)) : Int32).toUInt32 >>> (((8 : Int32) : Int32).toUInt32 &&& Int32.toUInt32 31)).toInt32)) + (((((((((x0 - ((((x0 : Int32).toUInt32 >>> (((1 : Int32) : Int32).toUInt32 &&& Int32.toUInt32 31)).toInt32) &&& (1431655765 : Int32))) &&& (858993459 : Int32)) + (((((x0 - ((((x0 : Int32).toUInt32 >>> (((1 : Int32) : Int32).toUInt32 &&& Int32.toUInt32 31)).toInt32) &&& (1431655765 : Int32))) : Int32).toUInt32 >>> (((2 : Int32) : Int32).toUInt32 &&& Int32.toUInt32 31)).toInt32) &&& (858993459 : Int32))) + ((((((x0 - ((((x0 : Int32).toUInt32 >>> (((1 : Int32) : Int32).toUInt32 &&& Int32.toUInt32 31)).toInt32) &&& (1431655765 : Int32))) &&& (858993459 : Int32)) + (((((x0 - ((((x0 : Int32).toUInt32 >>> (((1 : Int32) : Int32).toUInt32 &&& Int32.toUInt32 31)).toInt32) &&& (1431655765 : Int32))) : Int32).toUInt32 >>> (((2 : Int32) : Int32).toUInt32 &&& Int32.toUInt32 31)).toInt32) &&& (858993459 : Int32))) : Int32).toUInt32 >>> (((4 : Int32) : Int32).toUInt32 &&& Int32.toUInt32 31)).toInt32)) &&& (252645135 : Int32)) + ((((((((x0 - ((((x0 : Int32).toUInt32 >>> (((1 : Int32) : Int32).toUInt32 &&& Int32.toUInt32 31)).toInt32) &&& (1431655765 : Int32))) &&& (858993459 : Int32)) + (((((x0 - ((((x0 : Int32).toUInt32 >>> (((1 : Int32) : Int32).toUInt32 &&& Int32.toUInt32 31)).toInt32) &&& (1431655765 : Int32))) : Int32).toUInt32 >>> (((2 : Int32) : Int32).toUInt32 &&& Int32.toUInt32 31)).toInt32) &&& (858993459 : Int32))) + ((((((x0 - ((((x0 : Int32).toUInt32 >>> (((1 : Int32) : Int32).toUInt32 &&& Int32.toUInt32 31)).toInt32) &&& (1431655765 : Int32))) &&& (858993459 : Int32)) + (((((x0 - ((((x0 : Int32).toUInt32 >>> (((1 : Int32) : Int32).toUInt32 &&& Int32.toUInt32 31)).toInt32) &&& (1431655765 : Int32))) : Int32).toUInt32 >>> (((2 : Int32) : Int32).toUInt32 &&& Int32.toUInt32 31)).toInt32) &&& (858993459 : Int32))) : Int32).toUInt32 >>> (((4 : Int32) : Int32).toUInt32 &&& Int32.toUInt32 31)).toInt32)) &&& (252645135 : Int32)) : Int32).toUInt32 >>> (((8 : Int32) : Int32).toUInt32 &&& Int32.toUInt32 31)).toInt32)) : Int32).toUInt32 >>> (((16 : Int32) : Int32).toUInt32 &&& Int32.toUInt32 31)).toInt32)) &&& (63 : Int32))) I L M) : zCI C Y_J6_bitCount_0f7a4 (d + 1) [.int x0] (zmk I L M) K := by
  refine S_enter (by decide) (Nat.le_of_ble_eq_true rfl) ?_
  refine S_lv (lv' := [(0, .int x0)]) rfl ?_
  refine S_iload_n 0 dJ6_bitCount_0f7a4_0 rfl rfl ?_
  refine S_iload_n 0 dJ6_bitCount_0f7a4_1 rfl rfl ?_
  refine S_iconst (v := 1) dJ6_bitCount_0f7a4_2 (by decide) ?_
  refine S_iushr dJ6_bitCount_0f7a4_3 ?_
  refine S_ldcw c_RJ6_265 dJ6_bitCount_0f7a4_4 ?_
  refine S_iand dJ6_bitCount_0f7a4_7 ?_
  refine S_isub dJ6_bitCount_0f7a4_8 ?_
  refine S_istore_n dJ6_bitCount_0f7a4_9 rfl (by decide) rfl ?_
  refine S_iload_n 0 dJ6_bitCount_0f7a4_10 rfl rfl ?_
  refine S_ldcw c_RJ6_266 dJ6_bitCount_0f7a4_11 ?_
  refine S_iand dJ6_bitCount_0f7a4_14 ?_
  refine S_iload_n 0 dJ6_bitCount_0f7a4_15 rfl rfl ?_
  refine S_iconst (v := 2) dJ6_bitCount_0f7a4_16 (by decide) ?_
  refine S_iushr dJ6_bitCount_0f7a4_17 ?_
  refine S_ldcw c_RJ6_266 dJ6_bitCount_0f7a4_18 ?_
  refine S_iand dJ6_bitCount_0f7a4_21 ?_
  refine S_iadd dJ6_bitCount_0f7a4_22 ?_
  refine S_istore_n dJ6_bitCount_0f7a4_23 rfl (by decide) rfl ?_
  refine S_iload_n 0 dJ6_bitCount_0f7a4_24 rfl rfl ?_
  refine S_iload_n 0 dJ6_bitCount_0f7a4_25 rfl rfl ?_
  refine S_iconst (v := 4) dJ6_bitCount_0f7a4_26 (by decide) ?_
  refine S_iushr dJ6_bitCount_0f7a4_27 ?_
  refine S_iadd dJ6_bitCount_0f7a4_28 ?_
  refine S_ldcw c_RJ6_267 dJ6_bitCount_0f7a4_29 ?_
  refine S_iand dJ6_bitCount_0f7a4_32 ?_
  refine S_istore_n dJ6_bitCount_0f7a4_33 rfl (by decide) rfl ?_
  refine S_iload_n 0 dJ6_bitCount_0f7a4_34 rfl rfl ?_
  refine S_iload_n 0 dJ6_bitCount_0f7a4_35 rfl rfl ?_
  refine S_bipush (v := 8) dJ6_bitCount_0f7a4_36 (by decide) ?_
  refine S_iushr dJ6_bitCount_0f7a4_38 ?_
  refine S_iadd dJ6_bitCount_0f7a4_39 ?_
  refine S_istore_n dJ6_bitCount_0f7a4_40 rfl (by decide) rfl ?_
  refine S_iload_n 0 dJ6_bitCount_0f7a4_41 rfl rfl ?_
  refine S_iload_n 0 dJ6_bitCount_0f7a4_42 rfl rfl ?_
  refine S_bipush (v := 16) dJ6_bitCount_0f7a4_43 (by decide) ?_
  refine S_iushr dJ6_bitCount_0f7a4_45 ?_
  refine S_iadd dJ6_bitCount_0f7a4_46 ?_
  refine S_istore_n dJ6_bitCount_0f7a4_47 rfl (by decide) rfl ?_
  refine S_iload_n 0 dJ6_bitCount_0f7a4_48 rfl rfl ?_
  refine S_bipush (v := 63) dJ6_bitCount_0f7a4_49 (by decide) ?_
  refine S_iand dJ6_bitCount_0f7a4_51 ?_
  exact S_ireti rfl dJ6_bitCount_0f7a4_52 ⟨_, I, L, M, rfl, rfl, T⟩

theorem sp_J6_bitCount_0f7a4 {C : zC} {I : Nat → Nat → Int32} {L : Nat → Nat → Int64} {M : Nat → Nat → Option Nat} (d : Nat) (x0 : Int32) : ∀ R : Option Value → zH → Prop, R (some (.int (zbc x0))) (zmk I L M) → CallSem C Y_J6_bitCount_0f7a4 (d + 1) 0 0 [.int x0] (zmk I L M) R := zpI (t_J6_bitCount_0f7a4 d x0 _ ⟨rfl, rfl, rfl, rfl⟩)
set_option maxRecDepth 100000 in
theorem t_X0_missed {C : zC} {I : Nat → Nat → Int32} {L : Nat → Nat → Int64} {M : Nat → Nat → Option Nat} (d : Nat) {o : Nat} (ho : zGu o) (K : Int32 → (Nat → Nat → Int32) → (Nat → Nat → Int64) → (Nat → Nat → Option Nat) → Prop) (T : K (((I o 4) &&& ((I o 3) ^^^ (-1 : Int32)))) I L M) : zCI C Y_X0_missed (d + 1) [.ref o] (zmk I L M) K := by
  refine S_enter (by decide) (Nat.le_of_ble_eq_true rfl) ?_
  refine S_lv (lv' := [(0, .ref o)]) rfl ?_
  refine S_aload_n 0 dX0_missed_0 rfl rfl ?_
  refine S_getI f_RX0_28 ho.1 dX0_missed_1 ?_
  refine S_aload_n 0 dX0_missed_4 rfl rfl ?_
  refine S_getI f_RX0_25 ho.1 dX0_missed_5 ?_
  refine S_iconst (v := -1) dX0_missed_8 (by decide) ?_
  refine S_ixor dX0_missed_9 ?_
  refine S_iand dX0_missed_10 ?_
  exact S_ireti rfl dX0_missed_11 ⟨_, I, L, M, rfl, rfl, T⟩

theorem sp_X0_missed {C : zC} {I : Nat → Nat → Int32} {L : Nat → Nat → Int64} {M : Nat → Nat → Option Nat} (d : Nat) {o : Nat} (ho : zGu o) : ∀ R : Option Value → zH → Prop, R (some (.int (I o 4 &&& (I o 3 ^^^ (-1))))) (zmk I L M) → CallSem C Y_X0_missed (d + 1) 0 0 [.ref o] (zmk I L M) R := zpI (t_X0_missed d ho _ ⟨rfl, rfl, rfl, rfl⟩)
set_option maxRecDepth 100000 in
theorem t_X9_isPart {C : zC} {I : Nat → Nat → Int32} {L : Nat → Nat → Int64} {M : Nat → Nat → Option Nat} (d : Nat) {o : Nat} (x1 : Int32) (x2 : Int32) (ho : zTa o) (K : Int32 → (Nat → Nat → Int32) → (Nat → Nat → Int64) → (Nat → Nat → Option Nat) → Prop) (T : ((x1 < 0 → K 0 I L M) ∧ (¬ (x1 < 0) → ((x2 < 0 → K 0 I L M) ∧ (¬ (x2 < 0) → (((I o 1) < x2 → K 0 I L M) ∧ (¬ ((I o 1) < x2) → ((((I o 1) - x2) < x1 → K 0 I L M) ∧ (¬ (((I o 1) - x2) < x1) → K 1 I L M))))))))) : zCI C Y_X9_isPart (d + 1) [.ref o, .int x1, .int x2] (zmk I L M) K := by
  refine S_enter (by decide) (Nat.le_of_ble_eq_true rfl) ?_
  refine S_lv (lv' := [(0, .ref o), (1, .int x1), (2, .int x2)]) rfl ?_
  refine S_iload_n 1 dX9_isPart_0 rfl rfl ?_
  refine S_if_lt (tgt := 30) dX9_isPart_1 (by decide) (fun q1 => ?_) (fun q1 => ?_)
  · refine S_iconst (v := 0) dX9_isPart_30 (by decide) ?_
    exact S_iretz rfl (by decide) dX9_isPart_31 ⟨_, I, L, M, rfl, rfl, (T.1 q1)⟩
  · refine S_iload_n 2 dX9_isPart_4 rfl rfl ?_
    refine S_if_lt (tgt := 30) dX9_isPart_5 (by decide) (fun q2 => ?_) (fun q2 => ?_)
    · refine S_iconst (v := 0) dX9_isPart_30 (by decide) ?_
      exact S_iretz rfl (by decide) dX9_isPart_31 ⟨_, I, L, M, rfl, rfl, ((T.2 q1).1 q2)⟩
    · refine S_iload_n 2 dX9_isPart_8 rfl rfl ?_
      refine S_aload_n 0 dX9_isPart_9 rfl rfl ?_
      refine S_getI f_RX9_19 ho.1 dX9_isPart_10 ?_
      refine S_icmp_gt (tgt := 30) dX9_isPart_13 (by decide) (fun q3 => ?_) (fun q3 => ?_)
      · refine S_iconst (v := 0) dX9_isPart_30 (by decide) ?_
        exact S_iretz rfl (by decide) dX9_isPart_31 ⟨_, I, L, M, rfl, rfl, (((T.2 q1).2 q2).1 q3)⟩
      · refine S_iload_n 1 dX9_isPart_16 rfl rfl ?_
        refine S_aload_n 0 dX9_isPart_17 rfl rfl ?_
        refine S_getI f_RX9_19 ho.1 dX9_isPart_18 ?_
        refine S_iload_n 2 dX9_isPart_21 rfl rfl ?_
        refine S_isub dX9_isPart_22 ?_
        refine S_icmp_gt (tgt := 30) dX9_isPart_23 (by decide) (fun q4 => ?_) (fun q4 => ?_)
        · refine S_iconst (v := 0) dX9_isPart_30 (by decide) ?_
          exact S_iretz rfl (by decide) dX9_isPart_31 ⟨_, I, L, M, rfl, rfl, ((((T.2 q1).2 q2).2 q3).1 q4)⟩
        · refine S_iconst (v := 1) dX9_isPart_26 (by decide) ?_
          refine S_goto (tgt := 31) dX9_isPart_27 (by decide) ?_
          exact S_iretz rfl (by decide) dX9_isPart_31 ⟨_, I, L, M, rfl, rfl, ((((T.2 q1).2 q2).2 q3).2 q4)⟩

theorem sp_X9_isPart {C : zC} {I : Nat → Nat → Int32} {L : Nat → Nat → Int64} {M : Nat → Nat → Option Nat} (d : Nat) {o : Nat} (ho : zTa o) (x1 x2 : Int32) : ∀ R : Option Value → zH → Prop, R (some (.int (zb (0 ≤ x1 ∧ 0 ≤ x2 ∧ x2 ≤ I o 1 ∧ x1 ≤ I o 1 - x2)))) (zmk I L M) → CallSem C Y_X9_isPart (d + 1) 0 0 [.ref o, .int x1, .int x2] (zmk I L M) R := zpI (t_X9_isPart d x1 x2 ho _ ⟨fun q => ⟨zb_n (fun z => le_nlt z.1 q), rfl, rfl, rfl⟩, fun q => ⟨fun q2 => ⟨zb_n (fun z => le_nlt z.2.1 q2), rfl, rfl, rfl⟩, fun q2 => ⟨fun q3 => ⟨zb_n (fun z => le_nlt z.2.2.1 q3), rfl, rfl, rfl⟩, fun q3 => ⟨fun q4 => ⟨zb_n (fun z => le_nlt z.2.2.2 q4), rfl, rfl, rfl⟩, fun q4 => ⟨zb_y ⟨nlt_le q, nlt_le q2, nlt_le q3, nlt_le q4⟩, rfl, rfl, rfl⟩⟩⟩⟩⟩)
