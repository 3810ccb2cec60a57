section SM
variable {C : zC} {I I' : Nat → Nat → Int32} {L L' : Nat → Nat → Int64} {M : Nat → Nat → Option Nat}
theorem zHo_1 : zHo 1 := by unfold zHo; decide +kernel
theorem hid_ho {x : Int32} {inns : Nat} (hi : inns ≤ 6) (h : x = -1 ∨ ∃ k, k < inns ∧ x = nI k) : zHo (hid x) := by
  rcases h with rfl | ⟨k, hk, rfl⟩
  · exact zHo_1
  · unfold hid
    rw [if_neg ((by decide : ∀ k, k < 6 → ¬ nI k = -1) k (by omega)), cn_nI (by omega)]
    exact hH k (by omega)
theorem Wok.cnt {B inns : Nat} {w : Nat → Int32} (h : Wok B inns w) {k : Nat} (hk : 134 ≤ k ∧ k < 139) : ∃ n, n ≤ ub B k ∧ w k = nI n := h.1 k (by omega) (by unfold live; omega)
theorem sp_become (d : Nat) {o o1 B inns : Nat} {w : Nat → Int32} (ho : zInn o) (ho1 : zInn o1) (hd : o + 45 ≤ o1 ∨ o1 + 45 ≤ o) (hW : Wok B inns w) (hi : inns ≤ 6) (hI : InnR PA I M o1 w) (K : (Nat → Nat → Int32) → (Nat → Nat → Int64) → (Nat → Nat → Option Nat) → Prop) (hK : ∀ J', (∀ b j, CF o b j → J' b j = I b j) → (∀ k, k < 139 → live w k → cv J' o k = w k) → K J' L (u2 M o 5 (some (hid (w 139))))) : zCV C Y_X2_become (d + 3) [.ref o, .ref o1] (zmk I L M) K := by
  have hl : ∀ k, 134 ≤ k → k < 139 → cv I o1 k = w k := fun k h1 h2 => hI.1 k h2 trivial (by unfold live; omega)
  obtain ⟨n, hn, en⟩ := hW.cnt (k := 134) (by omega)
  have hn : n ≤ 6 := hn
  obtain ⟨s, hs, es⟩ := hW.cnt (k := 136) (by omega)
  have hs : s ≤ 5 := hs
  obtain ⟨p, hp, ep⟩ := hW.cnt (k := 137) (by omega)
  have hp : p ≤ 10 := hp
  obtain ⟨q, hq, eq⟩ := hW.cnt (k := 138) (by omega)
  have hq : q ≤ 8 := hq
  refine t_X2_become d ho ho1 _ ?_
  refine sp_go d ho ho1 hd hn ((hl 134 (by omega) (by omega)).trans en) (fun g hg => ?_) hI.2 (hid_ho hi hW.2.2) _ fun J1 h1 => ?_
  · have hlv := (live_g (w := w) (g := g) (by rw [en, cn_nI (by omega)]; exact hg) (by omega)).2.2.2.2.1
    obtain ⟨v, hv, ev⟩ := hW.1 (48 + g) (by omega) hlv
    rw [u_i _ g (by omega)] at hv
    have := hI.1 (48 + g) (by omega) trivial hlv
    rw [cv_at (c_i o1 (by omega)) (by omega), ev] at this
    rw [this]
    rcases (by omega : v = 0 ∨ v = 1) with rfl | rfl
    · exact Or.inl rfl
    · exact Or.inr rfl
  refine sp_rows (d + 1) (rI_s ho) (rI_s ho1) hd (by omega) (by omega) (kc := 136) (by omega) rfl hs ((hl 136 (by omega) (by omega)).trans es) h1 _ fun J2 h2 => ?_
  refine sp_rows (d + 1) (rI_p ho) (rI_p ho1) hd (by omega) (by omega) (kc := 137) (by omega) rfl hp ((hl 137 (by omega) (by omega)).trans ep) h2 _ fun J3 h3 => ?_
  refine sp_rows (d + 1) (rI_k ho) (rI_k ho1) hd (by omega) (by omega) (kc := 138) (by omega) rfl hq ((hl 138 (by omega) (by omega)).trans eq) h3 _ fun J4 h4 => ?_
  refine hK J4 h4.1 fun k hk hlv => ?_
  rw [h4.2 k ?_ hk]
  · exact hI.1 k hk trivial hlv
  · unfold live at hlv
    rw [en, es, ep, eq, cn_nI (by omega), cn_nI (by omega), cn_nI (by omega), cn_nI (by omega)] at hlv
    show ((((((DG n k ∨ k = 135) ∨ k = 136) ∨ (4 + 2 ≤ (c0 k).1 ∧ (c0 k).1 < 4 + 2 + s ∧ (c0 k).2 < 4)) ∨ k = 137) ∨ (11 + 2 ≤ (c0 k).1 ∧ (c0 k).1 < 11 + 2 + p ∧ (c0 k).2 < 4)) ∨ k = 138) ∨ (23 + 2 ≤ (c0 k).1 ∧ (c0 k).1 < 23 + 2 + q ∧ (c0 k).2 < 4)
    unfold DG
    rcases (by omega : k < 78 ∨ 134 ≤ k ∨ (78 ≤ k ∧ k < 134)) with h | h | h
    · omega
    · omega
    · have := c0_rows k h.2 h.1
      rcases hlv with a | ⟨a, b, c⟩ | ⟨a, b, c⟩ | ⟨a, b, c⟩ | ⟨a, b, c⟩ | ⟨a, b, c, e⟩ | ⟨a, b, c⟩ | a <;> omega
theorem live_c {w w' : Nat → Int32} (e : ∀ k, k < 139 → w' k = w k) (k : Nat) : live w' k ↔ live w k := live_eq (e _ (by omega)) (e _ (by omega)) (e _ (by omega)) (e _ (by omega)) (fun i hi => e _ (by omega)) k
theorem Wok_c {B inns : Nat} {w w' : Nat → Int32} (e : ∀ k, k < 140 → w' k = w k) (h : Wok B inns w) : Wok B inns w' := by
  refine ⟨fun k hk hl => ?_, fun i hi hz => ?_, ?_⟩
  · rw [e k (by omega)]
    exact h.1 k hk ((live_c (fun k hk => e k (by omega)) k).mp hl)
  · rw [e 137 (by omega)] at hi
    have h10 : i < 10 := by
      obtain ⟨n, h1, h2⟩ := h.cnt (k := 137) (by omega)
      have h1 : n ≤ 10 := h1
      rw [h2, cn_nI (by omega)] at hi
      omega
    rw [e _ (by omega)] at hz ⊢
    rw [e 134 (by omega)]
    exact h.2.1 i hi hz
  · rw [e 139 (by omega)]
    exact h.2.2
theorem pr_image (d : Nat) (h : Inv I L M) : PrI C Y_X10_image Y_X11_image (d + 12) [] I L M := by
  obtain ⟨hW, hI, hN, hIm, hH, hTx, hTr, hTp⟩ := h
  have hinns : cn (I 265 16) ≤ 6 := by
    obtain ⟨hc, cd, a1, a2, a3, a4, -⟩ := hH
    rw [rI_at (by unfold Ra; omega)] at a4
    rw [a4, cn_nI (by omega)]
    exact a1
  refine t_X10_image (d + 8) _ ?_
  refine sp_become (d + 8) i1 i0 (by omega) hW hinns hI _ fun J hJ hv => ?_
  refine t_X11_image (d + 10) _ ?_
  refine sp_keep (d + 10) (n := 140) (by decide +kernel) (by omega) (by omega) (by omega) _ fun J2 h2 => ?_
  have c1 : ∀ b j, b ≠ 291 ∨ 140 ≤ j → b ≠ 0 ∨ j ≠ 4 → b ≠ 265 ∨ j ≠ 39 → CF 48 b j → J2 b j = I b j := fun b j x1 x2 x3 x4 => by
    rw [h2.1 b j x1, u2_ne _ _ x3, u2_ne _ _ x2]
    exact hJ b j x4
  have c2 : ∀ b j, b < 48 ∨ (93 ≤ b ∧ b ≠ 265 ∧ b ≠ 291) → b ≠ 0 ∨ j ≠ 4 → J2 b j = I b j := fun b j x1 x2 => c1 b j (by omega) x2 (by omega) (by unfold CF; omega)
  have ecu : cur (u2 (u2 J 0 4 1) 265 39 1) = cur I := by
    rw [cur_out _ _ (by omega), cur_out _ _ (by omega)]
    exact cur_low fun a ha => funext fun j => hJ a j (by unfold CF; omega)
  have e1 : cur J2 = cur I := cur_eq fun k hk => by
    have := loc_rng k hk
    exact c1 _ _ (by omega) (by omega) (by omega) (by unfold CF; omega)
  have e2 : cv J2 3 = cv I 3 := cv_far fun a ha hb => funext fun j => c2 a j (by omega) (by omega)
  have e3 : ∀ j, j ≠ 39 → J2 265 j = I 265 j := fun j hj => c1 _ _ (by omega) (by omega) (by omega) (by unfold CF; omega)
  have e4 : ∀ k, k < 140 → J2 291 k = cur I k := fun k hk => by rw [h2.2 k hk, ecu]
  have e5 : cv J2 48 = cv J 48 := cv_far fun a ha hb => funext fun j => by
    rw [h2.1 a j (by omega), u2_ne _ _ (by omega), u2_ne _ _ (by omega)]
  have e6 : J2 0 4 = 1 := by
    rw [h2.1 _ _ (by omega)]
    simp (disch := omega) only [u2_same, u2_n1, u2_n2, not_true_eq_false, not_false_eq_true, false_implies, true_implies, forall_const, true_and, and_true, and_self, implies_true]
  have e7 : J2 265 39 = 1 := by
    rw [h2.1 _ _ (by omega)]
    simp (disch := omega) only [u2_same, u2_n1, u2_n2, not_true_eq_false, not_false_eq_true, false_implies, true_implies, forall_const, true_and, and_true, and_self, implies_true]
  have m3 : (u2 M 48 5 (some (hid (cur I 139)))) 3 5 = M 3 5 := u2_n1 _ _ (by omega)
  have hr : ∀ a j, J2 a j = I a j → rI J2 a j = rI I a j := fun a j q => rI_of q
  refine ⟨?_, ?_, ?_, ?_, ?_, ?_, ?_, ?_, ?_⟩
  · rw [e3 2 (by omega)]
    have hn := hI.1 134 (by omega) trivial (by unfold live; omega)
    show I 265 2 = u2 J 0 4 1 3 3
    rw [u2_n1 _ _ (by omega), hJ 3 3 (by unfold CF; omega)]
    exact hn.symm
  · rw [e1, e3 16 (by omega)]
    exact hW
  · rw [e1]
    unfold InnR
    rw [e2, m3]
    exact hI
  · exact Num_c (fun a ha => hr _ _ (c1 _ _ (by omega) (by omega) (by omega) (by unfold CF; omega))) hN
  · unfold Img
    rw [rI_at (I := J2) (a := 0) (j := 4) (by unfold Ra; omega), rI_at (I := J2) (a := 265) (j := 39) (by unfold Ra; omega), rI_at (I := J2) (a := 265) (j := 16) (by unfold Ra; omega)]
    have e9 : rI J2 291 = J2 291 := funext fun j => rI_at (by unfold Ra; omega)
    have e10 : cv (rI J2) 48 = cv J2 48 := cv_far fun a ha hb => funext fun j => rI_at (by unfold Ra; omega)
    rw [e9, e10, e6, e7, e3 16 (by omega), e5]
    refine ⟨rfl, Or.inr rfl, fun _ => ⟨Wok_c e4 hW, fun k hk hl => ?_, ?_⟩⟩
    · rw [e4 k (by omega)]
      exact hv k hk ((live_c (fun k hk => e4 k (by omega)) k).mp hl)
    · rw [e4 139 (by omega)]
      exact u2_same _ _ _ _
  · exact Hou_c (hr _ _ (c2 _ _ (by omega) (by omega))) (hr _ _ (e3 _ (by omega))) (hr _ _ (e3 _ (by omega))) (fun j => hr _ _ (c2 _ _ (by omega) (by omega))) (fun a j ha => hr _ _ (c2 _ _ (by omega) (by omega))) hH
  · exact Txt_c (hr _ _ (c2 _ _ (by omega) (by omega))) (hr _ _ (e3 _ (by omega))) (fun j => hr _ _ (c2 _ _ (by omega) (by omega))) (fun j => hr _ _ (c2 _ _ (by omega) (by omega))) hTx
  · exact Trc_c (hr _ _ (c2 _ _ (by omega) (by omega))) (hr _ _ (e3 _ (by omega))) (fun j => hr _ _ (c2 _ _ (by omega) (by omega))) (fun j => hr _ _ (c2 _ _ (by omega) (by omega))) hTr
  · exact Tap_c (fun a j ha hb => hr _ _ (c2 _ _ (by omega) (by omega))) (fun j => hr _ _ (c2 _ _ (by omega) (by omega))) (fun j => hr _ _ (c2 _ _ (by omega) (by omega))) hTp
theorem pr_undo (d : Nat) (h : Inv I L M) : PrI C Y_X10_undo Y_X11_undo (d + 12) [] I L M := by
  have h0 := h
  obtain ⟨hW, hI, hN, hIm, hH, hTx, hTr, hTp⟩ := h
  have hinns : cn (I 265 16) ≤ 6 := by
    obtain ⟨hc, cd, a1, a2, a3, a4, -⟩ := hH
    rw [rI_at (by unfold Ra; omega)] at a4
    rw [a4, cn_nI (by omega)]
    exact a1
  have hIm0 := hIm
  unfold Img at hIm
  have e9 : rI I 291 = I 291 := funext fun j => rI_at (by unfold Ra; omega)
  have e10 : cv (rI I) 48 = cv I 48 := cv_far fun a ha hb => funext fun j => rI_at (by unfold Ra; omega)
  rw [rI_at (I := I) (a := 0) (j := 4) (by unfold Ra; omega), rI_at (I := I) (a := 265) (j := 39) (by unfold Ra; omega), rI_at (I := I) (a := 265) (j := 16) (by unfold Ra; omega), e9, e10] at hIm
  obtain ⟨f1, f2, f3⟩ := hIm
  refine t_X10_undo (d + 8) _ ⟨fun z => ?_, fun z => ?_⟩
  · obtain ⟨g1, g2, g3⟩ := f3 (f2.resolve_left z)
    refine sp_become (d + 8) i0 i1 (by omega) g1 hinns ⟨fun k hk _ hl => g2 k hk hl, g3⟩ _ fun J hJ hv => ?_
    refine t_X11_undo (d + 10) _ ⟨fun z2 => ?_, fun z2 => ?_⟩
    · refine sp_again (d + 10) (n := 140) (by decide +kernel) (by omega) (by omega) (by omega) _ fun J2 h2 => ?_
      have c1 : ∀ b j, CF 3 b j → AF b j → J2 b j = I b j := fun b j x1 x2 => by rw [h2.1 b j x2, hJ b j x1]
      have e1 : ∀ k, k < 140 → cur J2 k = I 291 k := fun k hk => by
        rw [h2.2 k hk hk]
        exact hJ 291 k (by unfold CF; omega)
      have e2 : cv J2 3 = cv J 3 := cv_far fun a ha hb => funext fun j => h2.1 a j (by unfold AF; omega)
      have hr : ∀ a j, J2 a j = I a j → rI J2 a j = rI I a j := fun a j q => rI_of q
      have c2 : ∀ b j, (48 ≤ b ∧ b < 265) ∨ b < 3 ∨ 290 ≤ b ∨ (274 ≤ b ∧ b ≤ 281) ∨ (b = 265 ∧ ¬ (j = 2 ∨ j = 9 ∨ j = 26 ∨ j = 31 ∨ j = 34 ∨ j = 17)) ∨ (j = 0 ∧ 36 ≤ b ∧ b < 48 ∧ b % 2 = 0) → J2 b j = I b j := fun b j x => c1 b j (by unfold CF; omega) (by unfold AF; omega)
      have e16 : J2 265 16 = I 265 16 := c2 _ _ (by omega)
      refine ⟨?_, ?_, ?_, ?_, ?_, ?_, ?_, ?_, ?_⟩
      · have q1 : J2 265 2 = I 291 134 := e1 134 (by omega)
        have q2 := hv 134 (by omega) (by unfold live; omega)
        rw [q1, ← q2]
        rfl
      · rw [e16]
        exact Wok_c e1 g1
      · refine ⟨fun k hk _ hl => ?_, ?_⟩
        · rw [e2, e1 k (by omega)]
          exact hv k hk ((live_c (fun k hk => e1 k (by omega)) k).mp hl)
        · rw [e1 139 (by omega)]
          exact u2_same _ _ _ _
      · exact Num_c (fun a ha => hr _ _ (c2 _ _ (by omega))) hN
      · rw [u2_n1 _ _ (by omega)]
        exact Img_c (hr _ _ (c2 _ _ (by omega))) (fun a j ha hb => hr _ _ (c2 _ _ (by omega))) (hr _ _ (c2 _ _ (by omega))) (hr _ _ (c2 _ _ (by omega))) (fun j => hr _ _ (c2 _ _ (by omega))) hIm0
      · exact Hou_c (hr _ _ (c2 _ _ (by omega))) (hr _ _ (c2 _ _ (by omega))) (hr _ _ (c2 _ _ (by omega))) (fun j => hr _ _ (c2 _ _ (by omega))) (fun a j ha => hr _ _ (c2 _ _ (by omega))) hH
      · exact Txt_c (hr _ _ (c2 _ _ (by omega))) (hr _ _ (c2 _ _ (by omega))) (fun j => hr _ _ (c2 _ _ (by omega))) (fun j => hr _ _ (c2 _ _ (by omega))) hTx
      · exact Trc_c (hr _ _ (c2 _ _ (by omega))) (hr _ _ (c2 _ _ (by omega))) (fun j => hr _ _ (c2 _ _ (by omega))) (fun j => hr _ _ (c2 _ _ (by omega))) hTr
      · exact Tap_c (fun a j ha hb => hr _ _ (c2 _ _ (by omega))) (fun j => hr _ _ (c2 _ _ (by omega))) (fun j => hr _ _ (c2 _ _ (by omega))) hTp
    · rw [hJ 265 39 (by unfold CF; omega), ← f1] at z2
      exact absurd z2 z
  · refine t_X11_undo (d + 10) _ ⟨fun z2 => absurd (f1.symm.trans z) z2, fun z2 => ⟨rfl, h0⟩⟩
end SM
