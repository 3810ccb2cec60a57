/-! .. the other row -/
set_option maxRecDepth 100000 in
theorem t_X7_gather_77b {C : zC} {I : Nat → Nat → Int32} {L : Nat → Nat → Int64} {M : Nat → Nat → Option Nat} {h0 : zH} (d : Nat) {o1_n : Nat} {o1 : Nat} (ho1 : zRo o1_n o1) {a_l4 : Nat} (e_l4 : zsh a_l4 = (12, 4)) (y2 : Int32) (y3 : Int32) (K : (Nat → Nat → Int32) → (Nat → Nat → Int64) → (Nat → Nat → Option Nat) → Prop) (T : vp_in ((I a_l4 1)) 13 ∧ vp_in ((I a_l4 1)) 13 ∧ zSV C h0 K Y_X7_gather (d + 2) 23 [(0, .ref 142), (1, .ref o1), (2, .int y2), (3, .int (y3 + 1))] [] (u2 (u2 I 143 (((I a_l4 1)).toNatClampNeg) (((I 143 (((I a_l4 1)).toNatClampNeg)) ||| ((1 : Int32) <<< ((I a_l4 2) &&& 31))))) 142 2 ((if (I 142 2) < ((u2 I 143 (((I a_l4 1)).toNatClampNeg) (((I 143 (((I a_l4 1)).toNatClampNeg)) ||| ((1 : Int32) <<< ((I a_l4 2) &&& 31))))) a_l4 1) then ((u2 I 143 (((I a_l4 1)).toNatClampNeg) (((I 143 (((I a_l4 1)).toNatClampNeg)) ||| ((1 : Int32) <<< ((I a_l4 2) &&& 31))))) a_l4 1) else (I 142 2)))) L M) : zSV C h0 K Y_X7_gather (d + 2) 77 [(0, .ref 142), (1, .ref o1), (2, .int y2), (3, .int y3), (4, .ref a_l4)] [.ref 143] I L M := by
  refine S_astore dX7_gather_77 (by decide) rfl ?_
  refine S_aload 0 dX7_gather_79 rfl ?_
  refine S_aload 5 dX7_gather_81 rfl ?_
  refine S_iconst (v := 1) dX7_gather_83 (by decide) ?_
  refine S_iald e_l4 (by unfold vp_in; decide) dX7_gather_84 ?_
  refine S_dup2 dX7_gather_85 rfl rfl ?_
  refine S_iald s_143 T.1 dX7_gather_86 ?_
  refine S_iconst (v := 1) dX7_gather_87 (by decide) ?_
  refine S_aload 5 dX7_gather_88 rfl ?_
  refine S_iconst (v := 2) dX7_gather_90 (by decide) ?_
  refine S_iald e_l4 (by unfold vp_in; decide) dX7_gather_91 ?_
  refine S_ishl dX7_gather_92 ?_
  refine S_ior dX7_gather_93 ?_
  refine S_iast s_143 T.2.1 dX7_gather_94 ?_
  refine S_aload_n 1 dX7_gather_95 rfl rfl ?_
  refine S_aload_n 1 dX7_gather_96 rfl rfl ?_
  refine S_getI f_RX7_24 s_142 dX7_gather_97 ?_
  refine S_aload 5 dX7_gather_100 rfl ?_
  refine S_iconst (v := 1) dX7_gather_102 (by decide) ?_
  refine S_iald e_l4 (by unfold vp_in; decide) dX7_gather_103 ?_
  refine S_max m_RX7_41 o_maxs o_math o_maxc (Nat.le_of_ble_eq_true rfl) rfl ⟨Nat.le_refl _, Nat.le_refl _⟩ dX7_gather_104 ?_
  refine S_putI f_RX7_24 s_142 (Or.inl rfl) rfl dX7_gather_107 ?_
  refine S_iinc 4 dX7_gather_110 rfl rfl (by decide) rfl ?_
  refine S_goto (tgt := 23) dX7_gather_113 (by decide) ?_
  exact S_sub [2, 3, 4, 0] rfl T.2.2
theorem GS_skip {J : Nat → Nat → Int32} {w : Nat → Int32} {p y : Nat} (h : GS J w p y) (e : ¬ w (78 + y) = nI p) : GS J w p (y + 1) := by
  obtain ⟨l, l1, l2, l3, l4⟩ := h
  refine ⟨l, l1, l2, fun i hi q => ?_, fun n hn x hx => ?_⟩
  · by_cases z : i = y
    · subst z; exact absurd q e
    · exact l3 i (by omega) q
  · obtain ⟨a, b⟩ := l4 n hn x hx
    refine ⟨a.trans ⟨fun ⟨i, hi, q⟩ => ⟨i, by omega, q⟩, fun ⟨i, hi, q⟩ => ⟨i, ?_, q⟩⟩, b.trans ⟨fun ⟨i, hi, q⟩ => ⟨i, by omega, q⟩, fun ⟨i, hi, q⟩ => ⟨i, ?_, q⟩⟩⟩
    · by_cases z : i = y
      · subst z; exact absurd q.1 e
      · omega
    · by_cases z : i = y
      · subst z; exact absurd q.1 e
      · omega
theorem GS_add {J J' : Nat → Nat → Int32} {w : Nat → Int32} {p y n x : Nat} (h : GS J w p y) (hn : n ≤ 12) (hx : x ≤ 11) (e1 : w (78 + y) = nI p) (e2 : w (83 + y) = nI n) (e3 : w (88 + y) = nI x) (e143 : ∀ m, J' 143 m = if m = n ∧ ¬ w (93 + y) = 0 then J 143 m ||| ((1 : Int32) <<< (nI x &&& 31)) else J 143 m) (e144 : ∀ m, J' 144 m = if m = n ∧ w (93 + y) = 0 then J 144 m ||| ((1 : Int32) <<< (nI x &&& 31)) else J 144 m) (e142 : J' 142 2 = if J 142 2 < nI n then nI n else J 142 2) : GS J' w p (y + 1) := by
  obtain ⟨l, l1, l2, l3, l4⟩ := h
  have hl : ∃ l', l' ≤ 12 ∧ l ≤ l' ∧ n ≤ l' ∧ J' 142 2 = nI l' := by
    rw [e142, l2]
    by_cases q : nI l < nI n
    · rw [if_pos q]
      have := (nI_lt_iff (by omega) (by omega)).mp q
      exact ⟨n, hn, by omega, by omega, rfl⟩
    · rw [if_neg q]
      refine ⟨l, l1, by omega, ?_, rfl⟩
      apply Nat.le_of_not_lt
      intro z
      exact q ((nI_lt_iff (by omega) (by omega)).mpr z)
  obtain ⟨l', a1, a2, a3, a4⟩ := hl
  refine ⟨l', a1, a4, fun i hi q m hm em => ?_, fun m hm x' hx' => ⟨?_, ?_⟩⟩
  · by_cases z : i = y
    · subst z
      have : m = n := nI_inj (by omega) (by omega) (em.symm.trans e2)
      omega
    · have := l3 i (by omega) q m hm em
      omega
  · obtain ⟨b1, -⟩ := l4 m hm x' hx'
    rw [e143]
    by_cases c : m = n ∧ ¬ w (93 + y) = 0
    · rw [if_pos c, hb_or, hb_one (by omega), Bool.or_eq_true, b1, decide_eq_true_iff]
      constructor
      · rintro (⟨i, hi, q⟩ | q)
        · exact ⟨i, by omega, q⟩
        · exact ⟨y, by omega, e1, by rw [e2, c.1], by rw [e3, q], c.2⟩
      · rintro ⟨i, hi, q⟩
        by_cases z : i = y
        · subst z
          right
          exact nI_inj (by omega) (by omega) (q.2.2.1.symm.trans e3)
        · left
          exact ⟨i, by omega, q⟩
    · rw [if_neg c, b1]
      refine ⟨fun ⟨i, hi, q⟩ => ⟨i, by omega, q⟩, fun ⟨i, hi, q⟩ => ⟨i, ?_, q⟩⟩
      by_cases z : i = y
      · subst z
        exact absurd ⟨nI_inj (by omega) (by omega) (q.2.1.symm.trans e2), q.2.2.2⟩ c
      · omega
  · obtain ⟨-, b1⟩ := l4 m hm x' hx'
    rw [e144]
    by_cases c : m = n ∧ w (93 + y) = 0
    · rw [if_pos c, hb_or, hb_one (by omega), Bool.or_eq_true, b1, decide_eq_true_iff]
      constructor
      · rintro (⟨i, hi, q⟩ | q)
        · exact ⟨i, by omega, q⟩
        · exact ⟨y, by omega, e1, by rw [e2, c.1], by rw [e3, q], c.2⟩
      · rintro ⟨i, hi, q⟩
        by_cases z : i = y
        · subst z
          right
          exact nI_inj (by omega) (by omega) (q.2.2.1.symm.trans e3)
        · left
          exact ⟨i, by omega, q⟩
    · rw [if_neg c, b1]
      refine ⟨fun ⟨i, hi, q⟩ => ⟨i, by omega, q⟩, fun ⟨i, hi, q⟩ => ⟨i, ?_, q⟩⟩
      by_cases z : i = y
      · subst z
        exact absurd ⟨nI_inj (by omega) (by omega) (q.2.1.symm.trans e2), q.2.2.2⟩ c
      · omega
theorem LU_c2 {I J : Nat → Nat → Int32} {M : Nat → Nat → Option Nat} {o b g p : Nat} {w : Nat → Int32} {cs : List zCl} (h : ∀ a j, a < 139 ∨ (151 ≤ a ∧ a < 163) ∨ 253 ≤ a → J a j = I a j) (q : LU I M o b g p w cs) : LU J M o b g p w cs := by
  obtain ⟨q1, q2, q3, q4, q5, ⟨x, q6, q7⟩, q8, q9, q10, q11, q12, q13, q14⟩ := q
  exact ⟨q1, q2, q3, q4, q5, ⟨x, q6, Hs_c (fun j => h _ _ (by omega)) (fun a j ha => h _ _ (by omega)) q7⟩, GP_c (fun j => h _ _ (by omega)) (fun j => h _ _ (by omega)) (fun j => h _ _ (by omega)) q8, q9, q10, q11, q12, q13, q14⟩
section SM
variable {C : zC} {I I' : Nat → Nat → Int32} {L L' : Nat → Nat → Int64} {M : Nat → Nat → Option Nat}
theorem sp_gather (d : Nat) {p s : Nat} {w : Nat → Int32} (hp : p < 6) (hs : s ≤ 5) (es : I 7 1 = nI s) (hR : RW w s) (er : ∀ i, i < s → I (7 + 2 + i) 0 = w (78 + i) ∧ I (7 + 2 + i) 1 = w (83 + i) ∧ I (7 + 2 + i) 2 = w (88 + i) ∧ I (7 + 2 + i) 3 = w (93 + i)) (K : KV) (hK : ∀ J, (∀ a j, ¬ (a = 142 ∨ a = 143 ∨ a = 144) → J a j = I a j) → GS J w p s → K J L M) : zCV C Y_X7_gather (d + 2) [.ref 142, .ref 7, .int (nI p)] (zmk I L M) K := by
  have hro : zRo 5 7 := by unfold zRo; decide
  refine t_X7_gather d _ hro _ ?_
  refine sp_fill d 0 s_143 (by omega) _ (sp_fill d 0 s_144 (by omega) _ ?_)
  refine count_st (P := fun y J => zSV C (zmk I L M) K Y_X7_gather (d + 2) 23 [(0, .ref 142), (1, .ref 7), (2, .int (nI p)), (3, .int (nI y))] [] J L M) (J := fun y J => (∀ a j, ¬ (a = 142 ∨ a = 143 ∨ a = 144) → J a j = I a j) ∧ GS J w p y) s ?_ ?_ 0 _ (Nat.zero_le _) ⟨fun a j q => ?_, 0, by omega, u2_same _ _ _ _, fun i hi => absurd hi (by omega), fun n hn x hx => ?_⟩
  · intro J h
    exact t_X7_gather_23 d hro _ _ _ (br_t (by rw [h.1 7 1 (by omega), es]; exact Int32.le_refl _) (hK J h.1 h.2))
  · intro y J hy h ih
    obtain ⟨g, n, x, b, g1, n1, x1, b1, g2, n2, x2, b2⟩ := hR y hy
    obtain ⟨f0, f1, f2, f3⟩ := er y hy
    have h5 := vp_in_nI (show y < 5 by omega) (by omega : 5 < 2 ^ 31)
    have h13 := vp_in_nI (show n < 13 by omega) (by omega : 13 < 2 ^ 31)
    have k0 : J (7 + 2 + y) 0 = w (78 + y) := (h.1 _ _ (by omega)).trans f0
    have k1 : J (7 + 2 + y) 1 = nI n := ((h.1 _ _ (by omega)).trans f1).trans n2
    have k2 : J (7 + 2 + y) 2 = nI x := ((h.1 _ _ (by omega)).trans f2).trans x2
    have k3 : J (7 + 2 + y) 3 = w (93 + y) := (h.1 _ _ (by omega)).trans f3
    have ea : zsh (7 + 2 + y) = (12, 4) := (hro.2.2.2 y (by omega)).2
    refine t_X7_gather_23 d hro _ _ _ (br_f (by rw [h.1 7 1 (by omega), es]; exact fun z => by have := (nI_le_iff (a := s) (b := y) (by omega) (by omega)).mp z; omega) ⟨h5, ?_⟩)
    rw [nI_clamp (by omega), k0, k1, k3, nI_1]
    refine ⟨fun z => ih J ⟨h.1, GS_skip h.2 z⟩, fun z => br_t' ⟨nI_pos' (by omega), (nI_le_iff (b := 12) (by omega) (by omega)).mpr n1⟩ ⟨fun z2 => ?_, fun z2 => ?_⟩⟩
    · refine t_X7_gather_77 d hro ea _ _ _ ?_
      rw [k1, k2, nI_clamp (show n < 2 ^ 31 by omega), nI_1]
      refine ⟨h13, h13, ih _ ⟨fun a j q => ?_, ?_⟩⟩
      · rw [u2_n1 _ _ (by omega), u2_n1 _ _ (by omega)]
        exact h.1 a j q
      · refine GS_add h.2 n1 x1 z n2 x2 (fun m => ?_) (fun m => ?_) ?_
        · rw [u2_n1 _ _ (by omega), u2_n1 _ _ (by omega), if_neg (fun q => q.2 z2)]
        · rw [u2_n1 _ _ (by omega)]
          by_cases q : m = n
          · subst q
            rw [u2_same, if_pos ⟨rfl, z2⟩]
          · rw [u2_n2 _ _ q, if_neg (fun q2 => q q2.1)]
        · rw [u2_same, u2_n1 _ _ (by omega), k1]
    · refine t_X7_gather_77b d hro ea _ _ _ ?_
      rw [k1, k2, nI_clamp (show n < 2 ^ 31 by omega), nI_1]
      refine ⟨h13, h13, ih _ ⟨fun a j q => ?_, ?_⟩⟩
      · rw [u2_n1 _ _ (by omega), u2_n1 _ _ (by omega)]
        exact h.1 a j q
      · refine GS_add h.2 n1 x1 z n2 x2 (fun m => ?_) (fun m => ?_) ?_
        · rw [u2_n1 _ _ (by omega)]
          by_cases q : m = n
          · subst q
            rw [u2_same, if_pos ⟨rfl, z2⟩]
          · rw [u2_n2 _ _ q, if_neg (fun q2 => q q2.1)]
        · rw [u2_n1 _ _ (by omega), u2_n1 _ _ (by omega), if_neg (fun q => z2 q.2)]
        · rw [u2_same, u2_n1 _ _ (by omega), k1]
  · rw [u2_n1 _ _ (by omega)]
    unfold zfill
    rw [if_neg (by omega), if_neg (by omega)]
  · have e1 : (u2 (zfill (zfill I 143 13 0) 144 13 0) 142 2 0) 143 n = 0 := by
      rw [u2_n1 _ _ (by omega)]
      unfold zfill
      rw [if_neg (by omega), if_pos rfl, if_pos (by omega)]
    have e2 : (u2 (zfill (zfill I 143 13 0) 144 13 0) 142 2 0) 144 n = 0 := by
      rw [u2_n1 _ _ (by omega)]
      unfold zfill
      rw [if_pos rfl, if_pos (by omega)]
    rw [e1, e2, hb_0]
    exact ⟨⟨fun q => absurd q (by decide), fun ⟨i, hi, _⟩ => absurd hi (by omega)⟩, ⟨fun q => absurd q (by decide), fun ⟨i, hi, _⟩ => absurd hi (by omega)⟩⟩
theorem sp_fits (d : Nat) {J : Nat → Nat → Int32} {g p t s : Nat} {w ww : Nat → Int32} {cs : List zCl} (h : LSt I J M g p w cs) (hG : GS I ww p s) (hR : RW ww s) (ht : t ≤ 9999) (mm : Int32) (K : KI) (hK : ∀ J', LSt I J' M g p w cs → K (zB (seenB ww p (goC w cs p t mm) s 13)) J' L M) : zCI C Y_X7_fits (d + 5) [.ref 142, .ref (163 + 15 * p), .int mm, .int (nI t)] (zmk J L M) K := by
  have hp6 : p < 6 := h.2.1.2.2.2.2.2.2.2.2.1
  refine t_X7_fits d _ _ (hL p hp6) _ ?_
  have hG0 := hG
  obtain ⟨l, l1, l2, l3, l4⟩ := hG0
  have key : ∀ (k n : Nat) (J : Nat → Nat → Int32), n + k = 13 → LSt I J M g p w cs → seenB ww p (goC w cs p t mm) s n = true → zSI C (zmk I L M) K Y_X7_fits (d + 5) 6 [(0, .ref 142), (1, .ref (163 + 15 * p)), (3, .int (nI t)), (4, .int (goC w cs p t mm n)), (5, .int (nI n))] [] J L M := by
    intro k
    induction k with
    | zero =>
      intro n J hn hS hq
      have : n = 13 := by omega
      subst this
      refine t_X7_fits_6 d (hL p hp6) _ _ _ _ (br_t (by rw [hS.1 142 2 (by omega), l2]; exact (nI_lt_iff (by omega) (by omega)).mpr (by omega)) ?_)
      have := hK J hS
      rw [hq] at this
      exact this
    | succ k ih =>
      intro n J hn hS hq
      have h13 := vp_in_nI (show n < 13 by omega) (by omega : 13 < 2 ^ 31)
      have e143 : J 143 n = I 143 n := hS.1 _ _ (by omega)
      have e144 : J 144 n = I 144 n := hS.1 _ _ (by omega)
      refine t_X7_fits_6 d (hL p hp6) _ _ _ _ ?_
      rw [hS.1 142 2 (by omega), nI_clamp (by omega), e143, e144, nI_add]
      have bad : nightB ww p (goC w cs p t mm n) n s = false → K 0 J L M := fun q => by
        have hf : seenB ww p (goC w cs p t mm) s (n + 1) = false := by
          unfold seenB
          rw [q, Bool.and_false]
        have := hK J hS
        rw [seenB_f ww p _ s hf (by omega)] at this
        exact this
      have hni := hG.night hR (n := n) (by omega) (goC w cs p t mm n)
      refine ⟨fun z => ?_, fun z => ⟨h13, fun z2 => bad ?_, fun z2 => ⟨h13, fun z3 => ?_, fun z3 => bad ?_⟩⟩⟩
      · have hall : seenB ww p (goC w cs p t mm) s 13 = true := by
          rw [seenB_iff]
          intro m hm
          by_cases q : m < n
          · exact (seenB_iff ww p _ s n).mp hq m q
          · refine hG.last (by omega) ?_ _
            rw [l2] at z ⊢
            have := (nI_lt_iff (by omega) (by omega)).mp z
            exact (nI_lt_iff (by omega) (by omega)).mpr (by omega)
        have := hK J hS
        rw [hall] at this
        exact this
      · cases e : nightB ww p (goC w cs p t mm n) n s
        · rfl
        · exact absurd (hni.mpr e).1 z2
      · refine sp_preyL d hS (by omega) _ _ fun J' hS' => ?_
        rw [nI_1]
        refine ih (n + 1) J' (by omega) hS' ?_
        unfold seenB
        rw [hq, hni.mp ⟨z2, z3⟩]
        rfl
      · cases e : nightB ww p (goC w cs p t mm n) n s
        · rfl
        · exact absurd (hni.mpr e).2 z3
  exact key 13 0 J rfl h rfl
end SM
