/-! WHAT ELSE STANDS: part by part -/
theorem Num_c {J J' : Nat → Nat → Int32} (h : ∀ a, (36 ≤ a ∧ a < 48 ∧ a % 2 = 0) ∨ (81 ≤ a ∧ a < 93 ∧ a % 2 = 1) ∨ (126 ≤ a ∧ a < 138 ∧ a % 2 = 0) → J' a 0 = J a 0) (q : Num J) : Num J' := fun g hg => by
  rw [h _ (by omega), h _ (by omega), h _ (by omega)]
  exact q g hg
theorem Img_c {J J' : Nat → Nat → Int32} {m : Option Nat} (h0 : J' 0 4 = J 0 4) (h1 : ∀ a j, 48 ≤ a → a < 93 → J' a j = J a j) (h2 : J' 265 39 = J 265 39) (h3 : J' 265 16 = J 265 16) (h4 : ∀ j, J' 291 j = J 291 j) (q : Img J m) : Img J' m := by
  have e : cv J' 48 = cv J 48 := cv_far fun a ha hb => funext fun j => h1 a j ha (by omega)
  have e2 : J' 291 = J 291 := funext h4
  unfold Img
  rw [h0, h2, h3, e, e2]
  exact q
theorem HRel_c {J J' : Nat → Nat → Int32} {cd i : Nat} {cs : List zCl} (hi : i < 6) (h : ∀ a j, (151 ≤ a ∧ a < 163) ∨ (275 ≤ a ∧ a ≤ 280) → J' a j = J a j) (q : HRel J cd i cs) : HRel J' cd i cs := by
  have e1 : ∀ j, J' (151 + 2 * i) j = J (151 + 2 * i) j := fun j => h _ _ (by omega)
  have e2 : ∀ j, J' (151 + 2 * i + 1) j = J (151 + 2 * i + 1) j := fun j => h _ _ (by omega)
  have e3 : ∀ j, J' 275 j = J 275 j := fun j => h _ _ (by omega)
  have e4 : ∀ j, J' 276 j = J 276 j := fun j => h _ _ (by omega)
  have e5 : ∀ j, J' 277 j = J 277 j := fun j => h _ _ (by omega)
  have e6 : ∀ j, J' 278 j = J 278 j := fun j => h _ _ (by omega)
  have e7 : ∀ j, J' 279 j = J 279 j := fun j => h _ _ (by omega)
  have e8 : ∀ j, J' 280 j = J 280 j := fun j => h _ _ (by omega)
  unfold HRel at q ⊢
  simp only [e1, e2, e3, e4, e5, e6, e7, e8]
  exact q
theorem Hou_c {J J' : Nat → Nat → Int32} (h0 : J' 0 7 = J 0 7) (h1 : J' 265 16 = J 265 16) (h2 : J' 265 24 = J 265 24) (h3 : ∀ j, J' 1 j = J 1 j) (h : ∀ a j, (151 ≤ a ∧ a < 163) ∨ (275 ≤ a ∧ a ≤ 280) → J' a j = J a j) (q : Hou J) : Hou J' := by
  obtain ⟨hc, cd, a1, a2, a3, a4, a5, a6, a7, a8⟩ := q
  refine ⟨hc, cd, a1, a2, by rw [h0]; exact a3, by rw [h1]; exact a4, by rw [h2]; exact a5, by rw [h3]; exact a6, by rw [h3]; exact a7, fun i hi => ?_⟩
  obtain ⟨cs, hcs⟩ := a8 i hi
  exact ⟨cs, HRel_c (by omega) h hcs⟩
theorem Txt_c {J J' : Nat → Nat → Int32} (h1 : J' 138 1 = J 138 1) (h2 : J' 265 10 = J 265 10) (h3 : ∀ j, J' 139 j = J 139 j) (h4 : ∀ j, J' 274 j = J 274 j) (q : Txt J) : Txt J' := by
  unfold Txt
  simp only [h1, h2, h3, h4]
  exact q
theorem Trc_c {J J' : Nat → Nat → Int32} (h1 : J' 148 1 = J 148 1) (h2 : J' 265 37 = J 265 37) (h3 : ∀ j, J' 149 j = J 149 j) (h4 : ∀ j, J' 290 j = J 290 j) (q : Trc J) : Trc J' := by
  unfold Trc
  simp only [h1, h2, h3, h4]
  exact q
theorem Tap_c {J J' : Nat → Nat → Int32} {L : Nat → Nat → Int64} (h : ∀ a j, 253 ≤ a → a < 265 → J' a j = J a j) (h1 : ∀ j, J' 294 j = J 294 j) (h2 : ∀ j, J' 295 j = J 295 j) (q : Tap J L) : Tap J' L := by
  intro t ht
  have e0 := h (253 + 2 * t) 0 (by omega) (by omega)
  have e1 := h (253 + 2 * t) 1 (by omega) (by omega)
  rw [e0, e1, h1, h2]
  exact q t ht
section SM
variable {C : zC} {I I' : Nat → Nat → Int32} {L L' : Nat → Nat → Int64} {M : Nat → Nat → Option Nat}
theorem rI_of {a j : Nat} (h : I' a j = I a j) : rI I' a j = rI I a j := by
  by_cases q : Ra a j
  · rw [rI_at q, rI_at q, h]
  · unfold rI
    rw [@if_neg _ (Classical.propDecidable _) q, @if_neg _ (Classical.propDecidable _) q]
/-- the view stands, and the Inn that is now -/
theorem Inv_rest (h : Inv I L M) (e1 : cur I' = cur I) (e2 : cv I' 3 = cv I 3) (e16 : I' 265 16 = I 265 16) (hR : Rest (rI I') L' (M 48 5)) : Inv I' L' M := by
  obtain ⟨hW, hI, -⟩ := h
  exact ⟨by rw [e1, e16]; exact hW, by unfold InnR; rw [e1, e2]; exact hI, hR⟩
theorem Inv_tap (h : Inv I L M) (hf : ∀ a j, a < 253 ∨ 265 ≤ a → a ≠ 294 → a ≠ 295 → I' a j = I a j) (hT : Tap (rI I') L') : Inv I' L' M := by
  have hf' : ∀ a j, a < 253 ∨ 265 ≤ a → a ≠ 294 → a ≠ 295 → rI I' a j = rI I a j := fun a j x y z => rI_of (hf a j x y z)
  obtain ⟨r1, r2, r3, r4, r5, -⟩ := h.rest
  refine Inv_rest h (cur_eq fun k hk => ?_) (cv_far fun a ha hb => funext fun j => hf a j (by omega) (by omega) (by omega)) (hf _ _ (by omega) (by omega) (by omega)) ⟨?_, ?_, ?_, ?_, ?_, hT⟩
  · have := loc_rng k hk
    exact hf _ _ (by omega) (by omega) (by omega)
  · exact Num_c (fun a ha => hf' _ _ (by omega) (by omega) (by omega)) r1
  · exact Img_c (hf' _ _ (by omega) (by omega) (by omega)) (fun a j ha hb => hf' _ _ (by omega) (by omega) (by omega)) (hf' _ _ (by omega) (by omega) (by omega)) (hf' _ _ (by omega) (by omega) (by omega)) (fun j => hf' _ _ (by omega) (by omega) (by omega)) r2
  · exact Hou_c (hf' _ _ (by omega) (by omega) (by omega)) (hf' _ _ (by omega) (by omega) (by omega)) (hf' _ _ (by omega) (by omega) (by omega)) (fun j => hf' _ _ (by omega) (by omega) (by omega)) (fun a j ha => hf' _ _ (by omega) (by omega) (by omega)) r3
  · exact Txt_c (hf' _ _ (by omega) (by omega) (by omega)) (hf' _ _ (by omega) (by omega) (by omega)) (fun j => hf' _ _ (by omega) (by omega) (by omega)) (fun j => hf' _ _ (by omega) (by omega) (by omega)) r4
  · exact Trc_c (hf' _ _ (by omega) (by omega) (by omega)) (hf' _ _ (by omega) (by omega) (by omega)) (fun j => hf' _ _ (by omega) (by omega) (by omega)) (fun j => hf' _ _ (by omega) (by omega) (by omega)) r5
theorem Inv_txt (h : Inv I L M) (hf : ∀ a j, ¬ (a = 138 ∧ 1 ≤ j) → a ≠ 139 → a ≠ 274 → ¬ (a = 265 ∧ j = 10) → I' a j = I a j) (hT : Txt (rI I')) : Inv I' L M := by
  have hf' : ∀ a j, ¬ (a = 138 ∧ 1 ≤ j) → a ≠ 139 → a ≠ 274 → ¬ (a = 265 ∧ j = 10) → rI I' a j = rI I a j := fun a j x y z w => rI_of (hf a j x y z w)
  obtain ⟨r1, r2, r3, -, r5, r6⟩ := h.rest
  refine Inv_rest h (cur_eq fun k hk => ?_) (cv_far fun a ha hb => funext fun j => hf a j (by omega) (by omega) (by omega) (by omega)) (hf _ _ (by omega) (by omega) (by omega) (by omega)) ⟨?_, ?_, ?_, hT, ?_, ?_⟩
  · have := loc_rng k hk
    exact hf _ _ (by omega) (by omega) (by omega) (by omega)
  · exact Num_c (fun a ha => hf' _ _ (by omega) (by omega) (by omega) (by omega)) r1
  · exact Img_c (hf' _ _ (by omega) (by omega) (by omega) (by omega)) (fun a j ha hb => hf' _ _ (by omega) (by omega) (by omega) (by omega)) (hf' _ _ (by omega) (by omega) (by omega) (by omega)) (hf' _ _ (by omega) (by omega) (by omega) (by omega)) (fun j => hf' _ _ (by omega) (by omega) (by omega) (by omega)) r2
  · exact Hou_c (hf' _ _ (by omega) (by omega) (by omega) (by omega)) (hf' _ _ (by omega) (by omega) (by omega) (by omega)) (hf' _ _ (by omega) (by omega) (by omega) (by omega)) (fun j => hf' _ _ (by omega) (by omega) (by omega) (by omega)) (fun a j ha => hf' _ _ (by omega) (by omega) (by omega) (by omega)) r3
  · exact Trc_c (hf' _ _ (by omega) (by omega) (by omega) (by omega)) (hf' _ _ (by omega) (by omega) (by omega) (by omega)) (fun j => hf' _ _ (by omega) (by omega) (by omega) (by omega)) (fun j => hf' _ _ (by omega) (by omega) (by omega) (by omega)) r5
  · exact Tap_c (fun a j ha hb => hf' _ _ (by omega) (by omega) (by omega) (by omega)) (fun j => hf' _ _ (by omega) (by omega) (by omega) (by omega)) (fun j => hf' _ _ (by omega) (by omega) (by omega) (by omega)) r6
theorem pr_feed (d : Nat) (h : Inv I L M) (x1 : Int32) : PrI C Y_X10_feed Y_X11_feed (d + 12) [.int x1] I L M := by
  obtain ⟨n, hn, en, em, hT⟩ := h.rest.2.2.2.1
  rw [rI_at (by unfold Ra; omega)] at en em
  refine t_X10_feed (d + 10) x1 _ ⟨fun q => ?_, fun q => ?_⟩
  · refine t_X4_takesIn (d + 10) _ _ ?_
    obtain ⟨s, hs, rfl⟩ := rgle 127 (by omega) q.1 q.2
    by_cases h100 : n < 100
    · have hlt : nI n < 100 := (nI_lt_iff (b := 100) (by omega) (by omega)).mpr h100
      have hin := vp_in_nI h100 (by omega : 100 < 2 ^ 31)
      have hne : ¬ nI n = 100 := fun z => absurd (nI_inj (b := 100) (by omega) (by omega) z) (by omega)
      simp (disch := omega) only [u2_same, u2_n1, u2_n2, not_true_eq_false, not_false_eq_true, false_implies, true_implies, forall_const, true_and, and_true, and_self, implies_true, en, hlt, hin, nI_clamp (show n < 2 ^ 31 by omega), show ¬ ((1 : Int32) = 0) by decide]
      refine t_X11_feed (d + 10) _ _ ?_
      simp (disch := omega) only [u2_same, u2_n1, u2_n2, not_true_eq_false, not_false_eq_true, false_implies, true_implies, forall_const, true_and, and_true, and_self, implies_true, em, q, hne, hin, nI_clamp (show n < 2 ^ 31 by omega)]
      refine Inv_txt h (fun a j a1 a2 a3 a4 => ?_) ⟨n + 1, by omega, ?_, ?_, fun j hj => ?_⟩
      · simp only [u2_at]
        rw [if_neg (by omega), if_neg (by omega), if_neg (by omega), if_neg (by omega)]
      · rw [rI_at (by unfold Ra; omega)]
        simp (disch := omega) only [u2_same, u2_n1, u2_n2, not_true_eq_false, not_false_eq_true, false_implies, true_implies, forall_const, true_and, and_true, and_self, implies_true, nI_1]
      · rw [rI_at (by unfold Ra; omega)]
        simp (disch := omega) only [u2_same, u2_n1, u2_n2, not_true_eq_false, not_false_eq_true, false_implies, true_implies, forall_const, true_and, and_true, and_self, implies_true, nI_1]
      · rw [rI_at (by unfold Ra; omega), rI_at (by unfold Ra; omega)]
        by_cases e : j = n
        · subst e
          simp (disch := omega) only [u2_same, u2_n1, u2_n2, not_true_eq_false, not_false_eq_true, false_implies, true_implies, forall_const, true_and, and_true, and_self, implies_true]
          exact ⟨s, hs, rfl⟩
        · simp (disch := omega) only [u2_same, u2_n1, u2_n2, not_true_eq_false, not_false_eq_true, false_implies, true_implies, forall_const, true_and, and_true, and_self, implies_true]
          obtain ⟨c, c1, c2, c3⟩ := hT j (by omega)
          rw [rI_at (by unfold Ra; omega)] at c2 c3
          exact ⟨c, c1, c2, c3⟩
    · have hlt : ¬ nI n < 100 := fun z => h100 ((nI_lt_iff (b := 100) (by omega) (by omega)).mp z)
      have he : nI n = 100 := by rw [show n = 100 by omega]; rfl
      rw [en]
      refine ⟨fun z => absurd z hlt, fun _ => ⟨fun _ => ?_, fun z => absurd rfl z⟩⟩
      refine t_X11_feed (d + 10) _ _ ?_
      simp (disch := omega) only [u2_same, u2_n1, u2_n2, not_true_eq_false, not_false_eq_true, false_implies, true_implies, forall_const, true_and, and_true, and_self, implies_true, em, q, he]
      exact h
  · refine t_X11_feed (d + 10) _ _ ?_
    simp (disch := omega) only [u2_same, u2_n1, u2_n2, not_true_eq_false, not_false_eq_true, false_implies, true_implies, forall_const, true_and, and_true, and_self, implies_true, q]
    exact h
end SM
