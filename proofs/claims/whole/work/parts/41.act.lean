section SM
variable {C : zC} {I I' : Nat → Nat → Int32} {L L' : Nat → Nat → Int64} {M : Nat → Nat → Option Nat}
theorem Inv_trc (h : Inv I L M) (hf : ∀ a j, ¬ (a = 148 ∧ j = 1) → a ≠ 149 → a ≠ 290 → ¬ (a = 265 ∧ j = 37) → I' a j = I a j) (hT : Trc (rI I')) : Inv I' L M := by
  have hf' : ∀ a j, ¬ (a = 148 ∧ j = 1) → a ≠ 149 → a ≠ 290 → ¬ (a = 265 ∧ j = 37) → rI I' a j = rI I a j := fun a j x y z w => rI_of (hf a j x y z w)
  obtain ⟨r1, r2, r3, r4, -, r6⟩ := h.rest
  refine Inv_rest h (cur_eq fun k hk => ?_) (cv_far fun a ha hb => funext fun j => hf a j (by omega) (by omega) (by omega) (by omega)) (hf _ _ (by omega) (by omega) (by omega) (by omega)) ⟨?_, ?_, ?_, ?_, hT, ?_⟩
  · have := loc_rng k hk
    exact hf _ _ (by omega) (by omega) (by omega) (by omega)
  · exact Num_c (fun a ha => hf' _ _ (by omega) (by omega) (by omega) (by omega)) r1
  · exact Img_c (hf' _ _ (by omega) (by omega) (by omega) (by omega)) (fun a j ha hb => hf' _ _ (by omega) (by omega) (by omega) (by omega)) (hf' _ _ (by omega) (by omega) (by omega) (by omega)) (hf' _ _ (by omega) (by omega) (by omega) (by omega)) (fun j => hf' _ _ (by omega) (by omega) (by omega) (by omega)) r2
  · exact Hou_c (hf' _ _ (by omega) (by omega) (by omega) (by omega)) (hf' _ _ (by omega) (by omega) (by omega) (by omega)) (hf' _ _ (by omega) (by omega) (by omega) (by omega)) (fun j => hf' _ _ (by omega) (by omega) (by omega) (by omega)) (fun a j ha => hf' _ _ (by omega) (by omega) (by omega) (by omega)) r3
  · exact Txt_c (hf' _ _ (by omega) (by omega) (by omega) (by omega)) (hf' _ _ (by omega) (by omega) (by omega) (by omega)) (fun j => hf' _ _ (by omega) (by omega) (by omega) (by omega)) (fun j => hf' _ _ (by omega) (by omega) (by omega) (by omega)) r4
  · exact Tap_c (fun a j ha hb => hf' _ _ (by omega) (by omega) (by omega) (by omega)) (fun j => hf' _ _ (by omega) (by omega) (by omega) (by omega)) (fun j => hf' _ _ (by omega) (by omega) (by omega) (by omega)) r6
/-- both have the same row of bodies -/
theorem Inv_acts (h : Inv I L M) {l : List Nat} (hl : l.length < 100) {J1 J2 : Nat → Nat → Int32} (h1 : TC I l J1) (h2 : TM J1 l J2) : Inv J2 L M := by
  refine Inv_trc h (fun a j a1 a2 a3 a4 => ?_) ⟨l.length, by omega, ?_, ?_, fun j hj hj2 => ?_⟩
  · rw [h2.1 a j a3 a4, h1.1 a j a2 a1]
  · rw [rI_at (by unfold Ra; omega), h2.1 _ _ (by omega) (by omega)]
    exact h1.2.1
  · rw [rI_at (by unfold Ra; omega)]
    exact h2.2.1
  · rw [rI_at (by unfold Ra; omega), rI_at (by unfold Ra; omega), h2.1 _ _ (by omega) (by omega), h1.2.2 j hj, h2.2.2 j hj]
theorem TC_0 : TC I [] (u2 I 148 1 0) := ⟨fun b j _ h => u2_ne _ _ (by omega), u2_same _ _ _ _, fun j hj => absurd hj (Nat.not_lt_zero j)⟩
theorem TM_0 : TM I [] (u2 I 265 37 0) := ⟨fun b j _ h => u2_ne _ _ (by omega), u2_same _ _ _ _, fun j hj => absurd hj (Nat.not_lt_zero j)⟩
theorem pr_act (d : Nat) (h : Inv I L M) (x1 x2 x3 : Int32) : PrI C Y_X10_act Y_X11_act (d + 36) [.int x1, .int x2, .int x3] I L M := by
  have e2 : (0 ≤ x2 ∧ x2 < 3) ↔ (0 ≤ x2 ∧ x2 ≤ 2) := and_congr_right fun _ => lt_le1 (by decide) x2
  refine t_X10_act (d + 33) x1 x2 x3 _ ⟨fun q => ?_, fun q => ⟨fun q2 => ?_, fun q2 => ?_⟩⟩
  · refine t_X11_act (d + 31) _ _ _ _ ?_
    simp (disch := omega) only [u2_same, u2_n1, u2_n2, not_true_eq_false, not_false_eq_true, false_implies, true_implies, forall_const, true_and, and_true, and_self, implies_true, h.ng q]
    exact Inv_acts h (l := []) (by decide) TC_0 TM_0
  · obtain ⟨g, hg, hgn, rfl, hq⟩ := h.g q
    obtain ⟨a, ha, rfl⟩ := rg 3 (by omega) q2.1 q2.2
    have hin := vp_in_nI hg (by omega : 6 < 2 ^ 31)
    have hcl := nI_clamp (n := g) (by omega)
    have hlv := live_g hgn hg
    have a1 := h.at (by omega) hlv.1 (l_k g hg) (c_k 3 hg)
    have a2 := h.at (by omega) hlv.2.1 (l_v g hg) (c_v 3 hg)
    obtain ⟨k, hk, ek⟩ := h.val (by omega) hlv.1 (l_k g hg)
    rw [u_k _ g hg] at hk
    have hn : I (3 + 33 + 2 * g) 0 = nI g := by
      have := (h.rest.1 g hg).1
      rw [rI_at (by unfold Ra; omega)] at this
      rw [show 3 + 33 + 2 * g = 36 + 2 * g by omega]
      exact this
    rw [hcl]
    refine ⟨hin, t_X8_plays (d + 33) _ _ ((gI i0) g hg) _ (t_X8_own (d + 33) _ _ _ ((gI i0) g hg) _ ?_)⟩
    rw [show u2 I 148 1 0 (3 + 33 + 2 * g) 1 = nI k by rw [u2_n1 _ _ (by omega), a1, ek]]
    have f1 : ∀ l J, TC I l J → J 265 2 = I 265 2 ∧ J 268 g = nI k ∧ J 269 g = I (3 + 33 + 2 * g) 2 := fun l J hJ => ⟨hJ.1 _ _ (by omega) (by omega), by rw [hJ.1 _ _ (by omega) (by omega)]; exact ek, by rw [hJ.1 _ _ (by omega) (by omega)]; exact a2.symm⟩
    rcases (by omega : a = 0 ∨ a = 1 ∨ a = 2) with rfl | rfl | rfl
    · refine cS (d + 25) x3 hg (by omega) (e := 0) (by decide) (by decide) hn rfl TC_0 _ fun J hJ => ?_
      obtain ⟨b1, b2, b3⟩ := f1 _ _ hJ
      refine t_X11_act (d + 31) _ _ _ _ ?_
      simp (disch := omega) only [u2_same, u2_n1, u2_n2, not_true_eq_false, not_false_eq_true, false_implies, true_implies, forall_const, true_and, and_true, and_self, implies_true, b1, hq, e2.mp q2, hin, hcl, b2]
      refine ⟨fun z => absurd rfl z, fun _ => ?_⟩
      refine mS (d + 31) x3 hg (by omega) (by decide) b3 TM_0 _ fun J2 h2 => ⟨rfl, ?_⟩
      exact Inv_acts h (by have := slL_n k (by omega); simp; omega) hJ h2
    · refine cW (d + 13) x3 hg (by omega) (e := 0) (by decide) (by decide) hn rfl (by omega) (a1.trans ek) TC_0 _ fun J hJ => ?_
      obtain ⟨b1, b2, b3⟩ := f1 _ _ hJ
      refine t_X11_act (d + 31) _ _ _ _ ?_
      simp (disch := omega) only [u2_same, u2_n1, u2_n2, not_true_eq_false, not_false_eq_true, false_implies, true_implies, forall_const, true_and, and_true, and_self, implies_true, b1, hq, e2.mp q2, hin, hcl, b2]
      refine ⟨fun _ => ⟨fun z => absurd rfl z, fun _ => ?_⟩, fun z => absurd z (by decide)⟩
      refine mW (d + 28) x3 hg (by omega) (by decide) b3 (by omega) b2 TM_0 _ fun J2 h2 => ⟨rfl, ?_⟩
      exact Inv_acts h (by have := wkL_n k (by omega) k (by omega); simp; omega) hJ h2
    · refine cT (d + 3) x3 hg (by omega) (e := 0) (by decide) (by decide) hn rfl (by omega) (a1.trans ek) TC_0 _ fun J hJ => ?_
      obtain ⟨b1, b2, b3⟩ := f1 _ _ hJ
      refine t_X11_act (d + 31) _ _ _ _ ?_
      simp (disch := omega) only [u2_same, u2_n1, u2_n2, not_true_eq_false, not_false_eq_true, false_implies, true_implies, forall_const, true_and, and_true, and_self, implies_true, b1, hq, e2.mp q2, hin, hcl, b2]
      refine ⟨fun _ => ⟨fun _ => ?_, fun z => absurd z (by decide)⟩, fun z => absurd z (by decide)⟩
      refine mT (d + 25) x3 hg (by omega) (by decide) b3 (by omega) b2 TM_0 _ fun J2 h2 => ⟨rfl, ?_⟩
      exact Inv_acts h (by have := tlL_n k (by omega) k (by omega); simp; omega) hJ h2
  · obtain ⟨g, hg, hgn, rfl, hq⟩ := h.g q
    refine t_X11_act (d + 31) _ _ _ _ ?_
    have q' : ¬ (0 ≤ x2 ∧ x2 ≤ 2) := fun z => q2 (e2.mpr z)
    simp (disch := omega) only [u2_same, u2_n1, u2_n2, not_true_eq_false, not_false_eq_true, false_implies, true_implies, forall_const, true_and, and_true, and_self, implies_true, hq, q']
    exact Inv_acts h (l := []) (by decide) TC_0 TM_0
end SM
