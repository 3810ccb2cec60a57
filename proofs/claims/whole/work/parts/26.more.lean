/-! MORE CALLS THAT WRITE -/
theorem cn_nI {n : Nat} (h : n < 2 ^ 31) : cn (nI n) = n := nI_clamp h
theorem nI_lt_iff {a b : Nat} (ha : a < 2 ^ 31) (hb : b < 2 ^ 31) : nI a < nI b ↔ a < b := by
  rw [Int32.lt_iff_toInt_lt, nI_toInt ha, nI_toInt hb]; omega
theorem nI_le_iff {a b : Nat} (ha : a < 2 ^ 31) (hb : b < 2 ^ 31) : nI a ≤ nI b ↔ a ≤ b := by
  rw [Int32.le_iff_toInt_le, nI_toInt ha, nI_toInt hb]; omega
/-- a place that counts and counted before: counts of rows may have changed, but not so that this one came -/
theorem live_from {w w' : Nat → Int32} {k : Nat} (hl : live w' k) (h4 : 24 ≤ k → k < 54 → (k - 24) % 6 < cn (w' 134) → (k - 24) % 6 < cn (w 134)) (h4' : 54 ≤ k → k < 78 → (k - 54) / 4 < cn (w' 134) → (k - 54) / 4 < cn (w 134))
    (h6 : 78 ≤ k → k < 98 → (k - 78) % 5 < cn (w' 136) → (k - 78) % 5 < cn (w 136)) (h7 : 98 ≤ k → k < 108 → k - 98 < cn (w' 137) → k - 98 < cn (w 137))
    (h7' : 108 ≤ k → k < 118 → k - 108 < cn (w' 137) → ¬ w' (98 + (k - 108)) = 0 → k - 108 < cn (w 137) ∧ ¬ w (98 + (k - 108)) = 0) (h8 : 118 ≤ k → k < 134 → (k - 118) % 8 < cn (w' 138) → (k - 118) % 8 < cn (w 138)) : live w k := by
  unfold live at hl ⊢
  rcases hl with a | ⟨a, b, c⟩ | ⟨a, b, c⟩ | ⟨a, b, c⟩ | ⟨a, b, c⟩ | ⟨a, b, c, e⟩ | ⟨a, b, c⟩ | a
  · exact Or.inl a
  · exact Or.inr (Or.inl ⟨a, b, h4 a b c⟩)
  · exact Or.inr (Or.inr (Or.inl ⟨a, b, h4' a b c⟩))
  · exact Or.inr (Or.inr (Or.inr (Or.inl ⟨a, b, h6 a b c⟩)))
  · exact Or.inr (Or.inr (Or.inr (Or.inr (Or.inl ⟨a, b, h7 a b c⟩))))
  · exact Or.inr (Or.inr (Or.inr (Or.inr (Or.inr (Or.inl ⟨a, b, h7' a b c e⟩)))))
  · exact Or.inr (Or.inr (Or.inr (Or.inr (Or.inr (Or.inr (Or.inl ⟨a, b, h8 a b c⟩))))))
  · exact Or.inr (Or.inr (Or.inr (Or.inr (Or.inr (Or.inr (Or.inr a))))))
section SM
variable {C : zC} {I : Nat → Nat → Int32} {L : Nat → Nat → Int64} {M : Nat → Nat → Option Nat}
theorem Inv.cnt (h : Inv I L M) {k a j a' j' : Nat} (hk : 134 ≤ k ∧ k < 139) (e : loc k = (a, j)) (e' : cloc 3 k = (a', j')) : ∃ n, n ≤ ub 9999 k ∧ I a j = nI n ∧ I a' j' = nI n ∧ cur I k = nI n := by
  have hl : live (cur I) k := by unfold live; omega
  obtain ⟨n, h1, h2⟩ := h.val (by omega) hl e
  refine ⟨n, h1, h2, ?_, ?_⟩
  · rw [h.at (by omega) hl e e']; exact h2
  · rw [cur_at e (by omega)]; exact h2
theorem l_s : ∀ x, x < 5 → loc (78 + x) = (282, x) ∧ loc (83 + x) = (283, x) ∧ loc (88 + x) = (284, x) ∧ loc (93 + x) = (285, x) := by decide +kernel
theorem l_g : ∀ x, x < 10 → loc (98 + x) = (286, x) ∧ loc (108 + x) = (287, x) := by decide +kernel
theorem l_b : ∀ x, x < 8 → loc (118 + x) = (288, x) ∧ loc (126 + x) = (289, x) := by decide +kernel
theorem c_s (b : Nat) {x : Nat} (hx : x < 5) : cloc b (78 + x) = (b + 4 + 2 + x, 0) ∧ cloc b (83 + x) = (b + 4 + 2 + x, 1) ∧ cloc b (88 + x) = (b + 4 + 2 + x, 2) ∧ cloc b (93 + x) = (b + 4 + 2 + x, 3) := by
  have h := (by decide +kernel : ∀ x, x < 5 → c0 (78 + x) = (4 + 2 + x, 0) ∧ c0 (83 + x) = (4 + 2 + x, 1) ∧ c0 (88 + x) = (4 + 2 + x, 2) ∧ c0 (93 + x) = (4 + 2 + x, 3)) x hx
  rw [show b + 4 + 2 + x = b + (4 + 2 + x) by omega]
  exact ⟨cloc_of h.1, cloc_of h.2.1, cloc_of h.2.2.1, cloc_of h.2.2.2⟩
theorem c_p (b : Nat) {x : Nat} (hx : x < 10) : cloc b (98 + x) = (b + 11 + 2 + x, 0) ∧ cloc b (108 + x) = (b + 11 + 2 + x, 1) := by
  have h := (by decide +kernel : ∀ x, x < 10 → c0 (98 + x) = (11 + 2 + x, 0) ∧ c0 (108 + x) = (11 + 2 + x, 1)) x hx
  rw [show b + 11 + 2 + x = b + (11 + 2 + x) by omega]
  exact ⟨cloc_of h.1, cloc_of h.2⟩
theorem c_b (b : Nat) {x : Nat} (hx : x < 8) : cloc b (118 + x) = (b + 23 + 2 + x, 0) ∧ cloc b (126 + x) = (b + 23 + 2 + x, 1) := by
  have h := (by decide +kernel : ∀ x, x < 8 → c0 (118 + x) = (23 + 2 + x, 0) ∧ c0 (126 + x) = (23 + 2 + x, 1)) x hx
  rw [show b + 23 + 2 + x = b + (23 + 2 + x) by omega]
  exact ⟨cloc_of h.1, cloc_of h.2⟩
theorem c_skip : ∀ k, k < 139 → ((13 ≤ (c0 k).1 ∧ (c0 k).1 < 23) ∨ (25 ≤ (c0 k).1 ∧ (c0 k).1 < 33) → (c0 k).2 < 2) := by decide +kernel
theorem cv_row (I : Nat → Nat → Int32) {a j : Nat} (v : Int32) (ha : (16 ≤ a ∧ a < 26) ∨ (28 ≤ a ∧ a < 36)) (hj : 2 ≤ j) : cv (u2 I a j v) 3 = cv I 3 := cv_skip I v fun k hk e => by
  have h := c_skip k hk
  have e2 : 3 + (c0 k).1 = a := e
  show (c0 k).2 ≠ j
  have := h (by omega)
  omega
theorem ub_136 (B : Nat) : ub B 136 = 5 := rfl
theorem ub_137 (B : Nat) : ub B 137 = 10 := rfl
theorem ub_138 (B : Nat) : ub B 138 = 8 := rfl
theorem u_s (B : Nat) : ∀ x, x < 5 → ub B (78 + x) = 5 ∧ ub B (83 + x) = 12 ∧ ub B (88 + x) = 11 ∧ ub B (93 + x) = 1 := by
  intro x hx
  unfold ub
  refine ⟨?_, ?_, ?_, ?_⟩
  · repeat (first | rw [if_pos (by omega)] | rw [if_neg (by omega)])
  · repeat (first | rw [if_pos (by omega)] | rw [if_neg (by omega)])
  · repeat (first | rw [if_pos (by omega)] | rw [if_neg (by omega)])
  · repeat (first | rw [if_pos (by omega)] | rw [if_neg (by omega)])
theorem Inv.P (h : Inv I L M) {i : Nat} (hi : i < cn (cur I 137)) (hz : ¬ cur I (98 + i) = 0) : cn (cur I (108 + i)) < cn (cur I 134) := h.1.2.1 i hi hz
theorem pr_see (d : Nat) (h : Inv I L M) (x1 x2 x3 x4 : Int32) : PrI C Y_X10_see Y_X11_see (d + 12) [.int x1, .int x2, .int x3, .int x4] I L M := by
  obtain ⟨s, hs, es, es', ec⟩ := h.cnt (k := 136) (a := 265) (j := 26) (a' := 7) (j' := 1) (by omega) rfl rfl
  rw [ub_136] at hs
  refine t_X10_see (d + 9) x1 x2 x3 x4 _ ⟨fun q0 => ⟨fun q => ?_, fun q => ⟨fun q3 => ⟨fun q2 => ?_, fun q2 => ?_⟩, fun q3 => ?_⟩⟩, fun q0 => ?_⟩
  · refine t_X11_see (d + 9) _ _ _ _ _ ?_
    simp (disch := omega) only [u2_same, u2_n1, u2_n2, not_true_eq_false, not_false_eq_true, false_implies, true_implies, forall_const, true_and, and_true, and_self, implies_true, q0, h.ng q]
    exact h
  · obtain ⟨g, hg, hgn, rfl, hq⟩ := h.g q
    obtain ⟨x, hx, rfl⟩ := rg 12 (by omega) q3.1 q3.2
    obtain ⟨n, hn, rfl⟩ := rgle 12 (by omega) q2.1 q2.2
    have key : ∀ v : Nat, v ≤ 1 → (x4 = 0 ↔ v = 0) → zCI C Y_X6_add (d + 11) [.ref 7, .int (nI g), .int (nI n), .int (nI x), .int (nI v)] (zmk I L M) (fun r I1 L1 M1 => zCI C Y_X11_see (d + 12) [.ref 265, .int (nI g), .int (nI n), .int (nI x), .int x4] (zmk I1 L1 M1) (fun r2 I2 L2 M2 => r2 = r ∧ Inv I2 L2 M2)) := by
      intro v hv hx4
      have hro : zRo 5 7 := by unfold zRo; decide
      refine t_X6_add (d + 10) _ _ _ _ hro _ ?_
      by_cases hs5 : s < 5
      · have hin := vp_in_nI hs5 (by omega : 5 < 2 ^ 31)
        have hlt : nI s < Int32.ofNat 5 := nI_lt hs5 (by omega)
        simp (disch := omega) only [u2_same, u2_n1, u2_n2, not_true_eq_false, not_false_eq_true, false_implies, true_implies, forall_const, true_and, and_true, and_self, implies_true, es', nI_clamp (show s < 2 ^ 31 by omega), hin, hlt]
        refine t_X11_see (d + 9) _ _ _ _ _ ?_
        have hne : ¬ nI s = 6 - 1 := fun z => absurd (nI_inj (by omega) (by omega : 5 < 2 ^ 31) z) (by omega)
        have hne' : ¬ nI s = 5 := fun z => absurd (nI_inj (by omega) (by omega : 5 < 2 ^ 31) z) (by omega)
        simp (disch := omega) only [u2_same, u2_n1, u2_n2, not_true_eq_false, not_false_eq_true, false_implies, true_implies, forall_const, true_and, and_true, and_self, implies_true, es, nI_clamp (show s < 2 ^ 31 by omega), hin, hne', q0, hq, q3, q2]
        obtain ⟨a1, a2, a3, a4⟩ := l_s s hs5
        obtain ⟨b1, b2, b3, b4⟩ := c_s 3 hs5
        obtain ⟨u1, u2', u3, u4⟩ := u_s 9999 s hs5
        have fin : Inv (u2 (u2 (u2 (u2 (u2 (u2 (u2 (u2 (u2 (u2 I (7 + 2 + s) 0 (nI g)) (7 + 2 + s) 1 (nI n)) (7 + 2 + s) 2 (nI x)) (7 + 2 + s) 3 (nI v)) 7 1 (nI s + 1)) 282 s (nI g)) 283 s (nI n)) 284 s (nI x)) 265 26 (nI s + 1)) 285 s (nI v)) L M := by
          refine Inv_new h (w' := upd (upd (upd (upd (upd (cur I) (78 + s) (nI g)) (83 + s) (nI n)) (88 + s) (nI x)) 136 (nI s + 1)) (93 + s) (nI v)) (v' := upd (upd (upd (upd (upd (cv I 3) (78 + s) (nI g)) (83 + s) (nI n)) (88 + s) (nI x)) (93 + s) (nI v)) 136 (nI s + 1)) ?_ ?_ ?_ ?_ ?_ ?_
          · rw [cur_in' _ a4 (by omega), cur_in' _ (show loc 136 = (265, 26) from rfl) (by omega), cur_in' _ a3 (by omega), cur_in' _ a2 (by omega), cur_in' _ a1 (by omega), cur_out _ _ (by omega), cur_out _ _ (by omega), cur_out _ _ (by omega), cur_out _ _ (by omega), cur_out _ _ (by omega)]
          · rw [cv_out _ _ (by omega), cv_out _ _ (by omega), cv_out _ _ (by omega), cv_out _ _ (by omega), cv_out _ _ (by omega), cv_in' _ (show cloc 3 136 = (7, 1) from rfl) (by omega), cv_in' _ b4 (by omega), cv_in' _ b3 (by omega), cv_in' _ b2 (by omega), cv_in' _ b1 (by omega)]
          · rw [rI_out _ _ (by unfold Ra; omega), rI_out _ _ (by unfold Ra; omega), rI_out _ _ (by unfold Ra; omega), rI_out _ _ (by unfold Ra; omega), rI_out _ _ (by unfold Ra; omega), rI_out _ _ (by unfold Ra; omega), rI_out _ _ (by unfold Ra; omega), rI_out _ _ (by unfold Ra; omega), rI_out _ _ (by unfold Ra; omega), rI_out _ _ (by unfold Ra; omega)]
          · simp (disch := omega) only [up_n]
          · intro k hk hl
            by_cases k1 : k = 78 + s
            · subst k1; right; simp (disch := omega) only [up_n, up_s, true_and]; exact ⟨g, by omega, rfl⟩
            by_cases k2 : k = 83 + s
            · subst k2; right; simp (disch := omega) only [up_n, up_s, true_and]; exact ⟨n, by omega, rfl⟩
            by_cases k3 : k = 88 + s
            · subst k3; right; simp (disch := omega) only [up_n, up_s, true_and]; exact ⟨x, by omega, rfl⟩
            by_cases k4 : k = 93 + s
            · subst k4; right; simp (disch := omega) only [up_n, up_s, true_and]; exact ⟨v, by omega, rfl⟩
            by_cases k5 : k = 136
            · subst k5; right; simp (disch := omega) only [up_n, up_s, true_and, nI_1]; exact ⟨s + 1, by rw [ub_136]; omega, rfl⟩
            left
            refine ⟨by simp (disch := omega) only [up_n], by simp (disch := omega) only [up_n], live_from hl ?_ ?_ ?_ ?_ ?_ ?_⟩
            all_goals simp (disch := omega) only [up_n, up_s, nI_1]
            all_goals intro a b
            · exact id
            · exact id
            · rw [ec, cn_nI (by omega), cn_nI (by omega)]; omega
            · exact id
            · intro c e; exact ⟨c, e⟩
            · exact id
          · intro i hi hz
            have h10 : i < 10 := by
              simp (disch := omega) only [up_n] at hi
              obtain ⟨p, p1, p2, p3, p4⟩ := h.cnt (k := 137) (a := 265) (j := 31) (a' := 14) (j' := 1) (by omega) rfl rfl
              rw [ub_137] at p1
              rw [p4, cn_nI (by omega)] at hi
              omega
            simp (disch := omega) only [up_n] at hi hz ⊢
            exact h.P hi hz
        rw [nI_1] at fin ⊢
        refine ⟨fun z => ?_, fun z => ?_⟩
        · have hv0 := hx4.mp z
          subst hv0
          exact fin
        · have hv1 : ¬ v = 0 := fun q => z (hx4.mpr q)
          have hv2 : v = 1 := by omega
          subst hv2
          exact fin
      · have hlt : ¬ nI s < Int32.ofNat 5 := fun z => absurd ((nI_lt_iff (by omega) (by omega)).mp z) hs5
        simp (disch := omega) only [u2_same, u2_n1, u2_n2, not_true_eq_false, not_false_eq_true, false_implies, true_implies, forall_const, true_and, and_true, and_self, implies_true, es', hlt]
        refine t_X11_see (d + 9) _ _ _ _ _ ?_
        have : nI s = 5 := by rw [show s = 5 by omega]; rfl
        simp (disch := omega) only [u2_same, u2_n1, u2_n2, not_true_eq_false, not_false_eq_true, false_implies, true_implies, forall_const, true_and, and_true, and_self, implies_true, es, this, q0, hq, q3, q2]
        exact h
    exact ⟨fun z => key 0 (by omega) ⟨fun _ => rfl, fun _ => z⟩, fun z => key 1 (by omega) ⟨fun q => absurd q z, fun q => absurd q (by omega)⟩⟩
  · obtain ⟨g, hg, hgn, rfl, hq⟩ := h.g q
    refine t_X11_see (d + 9) _ _ _ _ _ ?_
    simp (disch := omega) only [u2_same, u2_n1, u2_n2, not_true_eq_false, not_false_eq_true, false_implies, true_implies, forall_const, true_and, and_true, and_self, implies_true, q0, hq, q3, q2]
    exact h
  · obtain ⟨g, hg, hgn, rfl, hq⟩ := h.g q
    refine t_X11_see (d + 9) _ _ _ _ _ ?_
    simp (disch := omega) only [u2_same, u2_n1, u2_n2, not_true_eq_false, not_false_eq_true, false_implies, true_implies, forall_const, true_and, and_true, and_self, implies_true, q0, hq, q3]
    exact h
  · refine t_X11_see (d + 9) _ _ _ _ _ ?_
    simp (disch := omega) only [u2_same, u2_n1, u2_n2, not_true_eq_false, not_false_eq_true, false_implies, true_implies, forall_const, true_and, and_true, and_self, implies_true, q0]
    refine Inv_new h (w' := upd (cur I) 136 0) (v' := upd (cv I 3) 136 0) ?_ ?_ ?_ ?_ ?_ ?_
    · rw [cur_in' _ (show loc 136 = (265, 26) from rfl) (by omega), cur_out _ _ (by omega)]
    · rw [cv_out _ _ (by omega), cv_in' _ (show cloc 3 136 = (7, 1) from rfl) (by omega)]
    · rw [rI_out _ _ (by unfold Ra; omega), rI_out _ _ (by unfold Ra; omega)]
    · simp (disch := omega) only [up_n]
    · intro k hk hl
      by_cases k5 : k = 136
      · subst k5; right; simp (disch := omega) only [up_n, up_s, true_and, nI_1]; exact ⟨0, by omega, rfl⟩
      left
      refine ⟨by simp (disch := omega) only [up_n], by simp (disch := omega) only [up_n], live_from hl ?_ ?_ ?_ ?_ ?_ ?_⟩
      all_goals simp (disch := omega) only [up_n, up_s, nI_1]
      all_goals intro a b
      · exact id
      · exact id
      · rw [show cn 0 = 0 from rfl]; omega
      · exact id
      · intro c e; exact ⟨c, e⟩
      · exact id
    · intro i hi hz
      have h10 : i < 10 := by
        simp (disch := omega) only [up_n] at hi
        obtain ⟨p, p1, p2, p3, p4⟩ := h.cnt (k := 137) (a := 265) (j := 31) (a' := 14) (j' := 1) (by omega) rfl rfl
        rw [ub_137] at p1
        rw [p4, cn_nI (by omega)] at hi
        omega
      simp (disch := omega) only [up_n] at hi hz ⊢
      exact h.P hi hz
theorem u_g (B : Nat) : ∀ x, x < 10 → ub B (98 + x) = 3 ∧ ub B (108 + x) = 5 := by
  intro x hx
  unfold ub
  refine ⟨?_, ?_⟩
  · repeat (first | rw [if_pos (by omega)] | rw [if_neg (by omega)])
  · repeat (first | rw [if_pos (by omega)] | rw [if_neg (by omega)])
theorem u_b (B : Nat) : ∀ x, x < 8 → ub B (118 + x) = 11 ∧ ub B (126 + x) = 99 := by
  intro x hx
  unfold ub
  refine ⟨?_, ?_⟩
  · repeat (first | rw [if_pos (by omega)] | rw [if_neg (by omega)])
  · repeat (first | rw [if_pos (by omega)] | rw [if_neg (by omega)])
/-- a count of rows becomes nothing -/
theorem Inv_none (h : Inv I L M) {k a : Nat} {j : Nat} (hk : k = 136 ∨ k = 137 ∨ k = 138) (e : loc k = (265, j)) (e' : cloc 3 k = (a, 1)) (ha : a < 265) (hR : ¬ Ra a 1) (hj : ¬ Ra 265 j) : Inv (u2 (u2 I a 1 0) 265 j 0) L M := by
  have hca := cloc_rng 3 (k := k) (by omega)
  rw [e'] at hca
  refine Inv_new h (w' := upd (cur I) k 0) (v' := upd (cv I 3) k 0) ?_ ?_ ?_ ?_ ?_ ?_
  · rw [cur_in' _ e (by omega), cur_out _ _ (by omega)]
  · rw [cv_out _ _ (by omega), cv_in' _ e' (by omega)]
  · rw [rI_out _ _ hj, rI_out _ _ hR]
  · simp (disch := omega) only [up_n]
  · intro q hq hl
    by_cases k5 : q = k
    · subst k5; right; simp (disch := omega) only [up_n, up_s, true_and, nI_1]; exact ⟨0, by omega, rfl⟩
    left
    refine ⟨by simp (disch := omega) only [up_n], by simp (disch := omega) only [up_n], live_from hl ?_ ?_ ?_ ?_ ?_ ?_⟩
    all_goals rcases hk with rfl | rfl | rfl
    all_goals simp (disch := omega) only [up_n, up_s, nI_1]
    all_goals intro a b
    all_goals first | exact id | exact fun c e => ⟨c, e⟩ | (rw [show cn 0 = 0 from rfl]; omega)
  · intro i hi hz
    have h10 : i < 10 := by
      obtain ⟨p, p1, p2, p3, p4⟩ := h.cnt (k := 137) (a := 265) (j := 31) (a' := 14) (j' := 1) (by omega) rfl rfl
      rw [ub_137] at p1
      rcases hk with rfl | rfl | rfl
      · simp (disch := omega) only [up_n] at hi
        rw [p4, cn_nI (by omega)] at hi
        omega
      · simp only [up_s] at hi
        rw [show cn 0 = 0 from rfl] at hi
        omega
      · simp (disch := omega) only [up_n] at hi
        rw [p4, cn_nI (by omega)] at hi
        omega
    by_cases h7 : k = 137
    · subst h7
      simp only [up_s] at hi
      rw [show cn 0 = 0 from rfl] at hi
      omega
    simp (disch := omega) only [up_n] at hi hz ⊢
    exact h.P hi hz
theorem pr_plan (d : Nat) (h : Inv I L M) (x1 x2 : Int32) : PrI C Y_X10_plan Y_X11_plan (d + 12) [.int x1, .int x2] I L M := by
  obtain ⟨p, hp, ep, ep', ec⟩ := h.cnt (k := 137) (a := 265) (j := 31) (a' := 14) (j' := 1) (by omega) rfl rfl
  rw [ub_137] at hp
  have e4 : (0 ≤ x1 ∧ x1 < 4) ↔ (0 ≤ x1 ∧ x1 ≤ 3) := and_congr_right fun _ => lt_le1 (by decide) x1
  have key : ∀ v g : Int32, (v = 0 ↔ x1 = 0) → (0 ≤ x1 ∧ x1 ≤ 3) → ¬ x1 = -1 → g = x2 → (¬ x1 = 0 → ∃ q, q < 6 ∧ q < cn (cur I 134) ∧ x2 = nI q ∧ (0 ≤ x2 ∧ x2 ≤ I 265 2 - 1)) → zSI C (zmk I L M) (fun r I1 L1 M1 => zCI C Y_X11_plan (d + 12) [.ref 265, .int x1, .int x2] (zmk I1 L1 M1) (fun r2 I2 L2 M2 => r2 = r ∧ Inv I2 L2 M2)) Y_X10_plan (d + 12) 40 [(0, .ref 0), (1, .int x1), (2, .int x2)] [] I L M := by
    intro v g hv h1 hm hg hx
    obtain ⟨t, ht, rfl⟩ := rgle 3 (by omega) h1.1 h1.2
    refine t_X10_plan_40 (d + 9) _ _ _ ?_
    have hro : zRo 10 14 := by unfold zRo; decide
    refine t_X6_add (d + 10) _ _ _ _ hro _ ?_
    by_cases hs5 : p < 10
    · have hin := vp_in_nI hs5 (by omega : 10 < 2 ^ 31)
      have hlt : nI p < Int32.ofNat 10 := nI_lt hs5 (by omega)
      simp (disch := omega) only [u2_same, u2_n1, u2_n2, not_true_eq_false, not_false_eq_true, false_implies, true_implies, forall_const, true_and, and_true, and_self, implies_true, ep', nI_clamp (show p < 2 ^ 31 by omega), hin, hlt]
      refine t_X11_plan (d + 9) _ _ _ ?_
      have hne' : ¬ nI p = 10 := fun z => absurd (nI_inj (by omega) (by omega : 10 < 2 ^ 31) z) (by omega)
      obtain ⟨a1, a2⟩ := l_g p hs5
      obtain ⟨b1, b2⟩ := c_p 3 hs5
      obtain ⟨u1, u2'⟩ := u_g 9999 p hs5
      have fin : ∀ y : Int32, (t = 0 → y = 0) → (¬ t = 0 → y = x2) → Inv (u2 (u2 (u2 (u2 (u2 (u2 (u2 (u2 I (14 + 2 + p) 0 (nI t)) (14 + 2 + p) 1 x2) (14 + 2 + p) 2 0) (14 + 2 + p) 3 0) 14 1 (nI p + 1)) 286 p (nI t)) 265 31 (nI p + 1)) 287 p y) L M := by
        intro y hy hy'
        refine Inv_new h (w' := upd (upd (upd (cur I) (98 + p) (nI t)) 137 (nI p + 1)) (108 + p) y) (v' := upd (upd (upd (cv I 3) (98 + p) (nI t)) (108 + p) x2) 137 (nI p + 1)) ?_ ?_ ?_ ?_ ?_ ?_
        · rw [cur_in' _ a2 (by omega), cur_in' _ (show loc 137 = (265, 31) from rfl) (by omega), cur_in' _ a1 (by omega), cur_out _ _ (by omega), cur_out _ _ (by omega), cur_out _ _ (by omega), cur_out _ _ (by omega), cur_out _ _ (by omega)]
        · rw [cv_out _ _ (by omega), cv_out _ _ (by omega), cv_out _ _ (by omega), cv_in' _ (show cloc 3 137 = (14, 1) from rfl) (by omega), cv_row _ _ (by omega) (by omega), cv_row _ _ (by omega) (by omega), cv_in' _ b2 (by omega), cv_in' _ b1 (by omega)]
        · rw [rI_out _ _ (by unfold Ra; omega), rI_out _ _ (by unfold Ra; omega), rI_out _ _ (by unfold Ra; omega), rI_out _ _ (by unfold Ra; omega), rI_out _ _ (by unfold Ra; omega), rI_out _ _ (by unfold Ra; omega), rI_out _ _ (by unfold Ra; omega), rI_out _ _ (by unfold Ra; omega)]
        · simp (disch := omega) only [up_n]
        · intro k hk hl
          by_cases k1 : k = 98 + p
          · subst k1; right; simp (disch := omega) only [up_n, up_s, true_and]; exact ⟨t, by omega, rfl⟩
          by_cases k2 : k = 108 + p
          · subst k2
            have ht0 : ¬ t = 0 := by
              intro q
              unfold live at hl
              have e98 : (upd (upd (upd (cur I) (98 + p) (nI t)) 137 (nI p + 1)) (108 + p) y) (98 + (108 + p - 108)) = nI t := by
                rw [show 98 + (108 + p - 108) = 98 + p by omega]
                simp (disch := omega) only [up_n, up_s]
              rcases hl with a | ⟨a, b, c⟩ | ⟨a, b, c⟩ | ⟨a, b, c⟩ | ⟨a, b, c⟩ | ⟨a, b, c, e⟩ | ⟨a, b, c⟩ | a
              · omega
              · omega
              · omega
              · omega
              · omega
              · exact e (by rw [e98, q]; rfl)
              · omega
              · omega
            right
            simp (disch := omega) only [up_n, up_s, true_and]
            obtain ⟨q, q1, q2, q3, q4⟩ := hx (fun z => ht0 (nI_inj (b := 0) (by omega) (by omega) z))
            rw [hy' ht0]
            exact ⟨rfl, q, by omega, q3⟩
          by_cases k5 : k = 137
          · subst k5; right; simp (disch := omega) only [up_n, up_s, true_and, nI_1]; exact ⟨p + 1, by rw [ub_137]; omega, rfl⟩
          left
          refine ⟨by simp (disch := omega) only [up_n], by simp (disch := omega) only [up_n], live_from hl ?_ ?_ ?_ ?_ ?_ ?_⟩
          all_goals simp (disch := omega) only [up_n, up_s, nI_1]
          · intro a b; exact id
          · intro a b; exact id
          · intro a b; exact id
          · intro a b; rw [ec, cn_nI (by omega), cn_nI (by omega)]; omega
          · intro a b c e
            rw [cn_nI (by omega)] at c
            rw [ec, cn_nI (by omega)]
            simp (disch := omega) only [up_n] at e
            exact ⟨by omega, e⟩
          · intro a b; exact id
        · intro i hi hz
          simp (disch := omega) only [up_n, up_s, nI_1] at hi
          rw [cn_nI (by omega)] at hi
          by_cases ei : i = p
          · subst ei
            simp (disch := omega) only [up_n, up_s] at hz ⊢
            obtain ⟨q, q1, q2, q3, q4⟩ := hx hz
            rw [hy' (fun z => hz (by rw [z]; rfl)), q3, cn_nI (by omega)]
            exact q2
          · simp (disch := omega) only [up_n] at hz ⊢
            exact h.P (by rw [ec, cn_nI (by omega)]; omega) hz
      rw [nI_1] at fin ⊢
      simp (disch := omega) only [u2_same, u2_n1, u2_n2, not_true_eq_false, not_false_eq_true, false_implies, true_implies, forall_const, true_and, and_true, and_self, implies_true, hm, h1]
      have m35 : ∀ y : Int32, (t = 0 → y = 0) → (¬ t = 0 → y = x2) → zSI C (zmk (u2 (u2 (u2 (u2 (u2 I (14 + 2 + p) 0 (nI t)) (14 + 2 + p) 1 x2) (14 + 2 + p) 2 0) (14 + 2 + p) 3 0) 14 1 (nI (p + 1))) L M) (fun r2 I2 L2 M2 => r2 = nI (p + 1) ∧ Inv I2 L2 M2) Y_X11_plan (d + 12) 35 [(0, .ref 265), (1, .int (nI t)), (2, .int x2)] [] (u2 (u2 (u2 (u2 (u2 I (14 + 2 + p) 0 (nI t)) (14 + 2 + p) 1 x2) (14 + 2 + p) 2 0) (14 + 2 + p) 3 0) 14 1 (nI (p + 1))) L M := by
        intro y hy hy'
        refine t_X11_plan_35 (d + 9) _ _ _ ?_
        simp (disch := omega) only [u2_same, u2_n1, u2_n2, not_true_eq_false, not_false_eq_true, false_implies, true_implies, forall_const, true_and, and_true, and_self, implies_true, ep, nI_clamp (show p < 2 ^ 31 by omega), hin, hne', nI_1]
        refine ⟨fun z => ?_, fun z => ?_⟩
        · have := fin y hy hy'
          rw [hy' (fun q => z (by rw [q]; rfl))] at this
          exact this
        · have := fin y hy hy'
          rw [hy (nI_inj (b := 0) (by omega) (by omega) z)] at this
          exact this
      refine ⟨fun z => ?_, fun z => ?_⟩
      · exact m35 0 (fun _ => rfl) (fun q => absurd ((nI_le_iff (b := 0) (by omega) (by omega)).mp z) (by omega))
      · have ht0 : ¬ t = 0 := fun q => z (by rw [q]; decide)
        obtain ⟨q, q1, q2, q3, q4⟩ := hx (fun z => ht0 (nI_inj (b := 0) (by omega) (by omega) z))
        simp (disch := omega) only [u2_same, u2_n1, u2_n2, not_true_eq_false, not_false_eq_true, false_implies, true_implies, forall_const, true_and, and_true, and_self, implies_true, q4]
        exact m35 x2 (fun q => absurd q ht0) (fun _ => rfl)
    · have hlt : ¬ nI p < Int32.ofNat 10 := fun z => absurd ((nI_lt_iff (by omega) (by omega)).mp z) hs5
      simp (disch := omega) only [u2_same, u2_n1, u2_n2, not_true_eq_false, not_false_eq_true, false_implies, true_implies, forall_const, true_and, and_true, and_self, implies_true, ep', hlt]
      refine t_X11_plan (d + 9) _ _ _ ?_
      have : nI p = 10 := by rw [show p = 10 by omega]; rfl
      simp (disch := omega) only [u2_same, u2_n1, u2_n2, not_true_eq_false, not_false_eq_true, false_implies, true_implies, forall_const, true_and, and_true, and_self, implies_true, hm, h1]
      have m35 : zSI C (zmk I L M) (fun r2 I2 L2 M2 => r2 = -4 ∧ Inv I2 L2 M2) Y_X11_plan (d + 12) 35 [(0, .ref 265), (1, .int (nI t)), (2, .int x2)] [] I L M := by
        refine t_X11_plan_35 (d + 9) _ _ _ ?_
        simp (disch := omega) only [u2_same, u2_n1, u2_n2, not_true_eq_false, not_false_eq_true, false_implies, true_implies, forall_const, true_and, and_true, and_self, implies_true, ep, this]
        exact h
      refine ⟨fun z => m35, fun z => ?_⟩
      have ht0 : ¬ t = 0 := fun q => z (by rw [q]; decide)
      obtain ⟨q, q1, q2, q3, q4⟩ := hx (fun z => ht0 (nI_inj (b := 0) (by omega) (by omega) z))
      simp (disch := omega) only [u2_same, u2_n1, u2_n2, not_true_eq_false, not_false_eq_true, false_implies, true_implies, forall_const, true_and, and_true, and_self, implies_true, q4]
      exact m35
  refine t_X10_plan (d + 9) x1 x2 _ ⟨fun q0 => ⟨fun q => ?_, fun q => ⟨fun z => ?_, fun z => ⟨fun z2 => ?_, fun z2 => ?_⟩⟩⟩, fun q0 => ?_⟩
  · refine t_X11_plan (d + 9) _ _ _ ?_
    have q' : ¬ (0 ≤ x1 ∧ x1 ≤ 3) := fun z => q (e4.mpr z)
    simp (disch := omega) only [u2_same, u2_n1, u2_n2, not_true_eq_false, not_false_eq_true, false_implies, true_implies, forall_const, true_and, and_true, and_self, implies_true, q0, q']
    exact h
  · exact key x1 x2 Iff.rfl (e4.mp q) q0 rfl (fun y => absurd z y)
  · obtain ⟨g, hg, hgn, e, hq⟩ := h.g z2
    exact key x1 x2 Iff.rfl (e4.mp q) q0 rfl (fun _ => ⟨g, hg, hgn, e, hq⟩)
  · refine t_X11_plan (d + 9) _ _ _ ?_
    have q' := e4.mp q
    have hz : ¬ x1 ≤ 0 := by
      obtain ⟨t, ht, rfl⟩ := rgle 3 (by omega) q'.1 q'.2
      intro y
      have := (nI_le_iff (b := 0) (by omega) (by omega)).mp y
      exact z (by rw [show t = 0 by omega]; rfl)
    simp (disch := omega) only [u2_same, u2_n1, u2_n2, not_true_eq_false, not_false_eq_true, false_implies, true_implies, forall_const, true_and, and_true, and_self, implies_true, q0, q', hz, h.ng z2]
    exact h
  · refine t_X11_plan (d + 9) _ _ _ ?_
    simp (disch := omega) only [u2_same, u2_n1, u2_n2, not_true_eq_false, not_false_eq_true, false_implies, true_implies, forall_const, true_and, and_true, and_self, implies_true, q0]
    exact Inv_none h (k := 137) (by omega) rfl rfl (by omega) (by unfold Ra; omega) (by unfold Ra; omega)
theorem pr_book (d : Nat) (h : Inv I L M) (x1 x2 : Int32) : PrI C Y_X10_book Y_X11_book (d + 12) [.int x1, .int x2] I L M := by
  obtain ⟨p, hp, ep, ep', ec⟩ := h.cnt (k := 138) (a := 265) (j := 34) (a' := 26) (j' := 1) (by omega) rfl rfl
  rw [ub_138] at hp
  refine t_X10_book (d + 9) x1 x2 _ ⟨fun q0 => ⟨fun q => ⟨fun q2 => ?_, fun q2 => ?_⟩, fun q => ?_⟩, fun q0 => ?_⟩
  · obtain ⟨x, hx, rfl⟩ := rg 12 (by omega) q.1 q.2
    obtain ⟨n, hn, rfl⟩ := rgle 99 (by omega) q2.1 q2.2
    have hro : zRo 8 26 := by unfold zRo; decide
    refine t_X6_add (d + 10) _ _ _ _ hro _ ?_
    by_cases hs5 : p < 8
    · have hin := vp_in_nI hs5 (by omega : 8 < 2 ^ 31)
      have hlt : nI p < Int32.ofNat 8 := nI_lt hs5 (by omega)
      simp (disch := omega) only [u2_same, u2_n1, u2_n2, not_true_eq_false, not_false_eq_true, false_implies, true_implies, forall_const, true_and, and_true, and_self, implies_true, ep', nI_clamp (show p < 2 ^ 31 by omega), hin, hlt]
      refine t_X11_book (d + 9) _ _ _ ?_
      have hne' : ¬ nI p = 8 := fun z => absurd (nI_inj (by omega) (by omega : 8 < 2 ^ 31) z) (by omega)
      simp (disch := omega) only [u2_same, u2_n1, u2_n2, not_true_eq_false, not_false_eq_true, false_implies, true_implies, forall_const, true_and, and_true, and_self, implies_true, ep, nI_clamp (show p < 2 ^ 31 by omega), hin, hne', q0, q, q2]
      obtain ⟨a1, a2⟩ := l_b p hs5
      obtain ⟨b1, b2⟩ := c_b 3 hs5
      obtain ⟨u1, u2'⟩ := u_b 9999 p hs5
      refine Inv_new h (w' := upd (upd (upd (cur I) (118 + p) (nI x)) 138 (nI p + 1)) (126 + p) (nI n)) (v' := upd (upd (upd (cv I 3) (118 + p) (nI x)) (126 + p) (nI n)) 138 (nI p + 1)) ?_ ?_ ?_ ?_ ?_ ?_
      · rw [cur_in' _ a2 (by omega), cur_in' _ (show loc 138 = (265, 34) from rfl) (by omega), cur_in' _ a1 (by omega), cur_out _ _ (by omega), cur_out _ _ (by omega), cur_out _ _ (by omega), cur_out _ _ (by omega), cur_out _ _ (by omega)]
      · rw [cv_out _ _ (by omega), cv_out _ _ (by omega), cv_out _ _ (by omega), cv_in' _ (show cloc 3 138 = (26, 1) from rfl) (by omega), cv_row _ _ (by omega) (by omega), cv_row _ _ (by omega) (by omega), cv_in' _ b2 (by omega), cv_in' _ b1 (by omega)]
      · rw [rI_out _ _ (by unfold Ra; omega), rI_out _ _ (by unfold Ra; omega), rI_out _ _ (by unfold Ra; omega), rI_out _ _ (by unfold Ra; omega), rI_out _ _ (by unfold Ra; omega), rI_out _ _ (by unfold Ra; omega), rI_out _ _ (by unfold Ra; omega), rI_out _ _ (by unfold Ra; omega)]
      · simp (disch := omega) only [up_n]
      · intro k hk hl
        by_cases k1 : k = 118 + p
        · subst k1; right; simp (disch := omega) only [up_n, up_s, true_and]; exact ⟨x, by omega, rfl⟩
        by_cases k2 : k = 126 + p
        · subst k2; right; simp (disch := omega) only [up_n, up_s, true_and]; exact ⟨n, by omega, rfl⟩
        by_cases k5 : k = 138
        · subst k5; right; simp (disch := omega) only [up_n, up_s, true_and, nI_1]; exact ⟨p + 1, by rw [ub_138]; omega, rfl⟩
        left
        refine ⟨by simp (disch := omega) only [up_n], by simp (disch := omega) only [up_n], live_from hl ?_ ?_ ?_ ?_ ?_ ?_⟩
        all_goals simp (disch := omega) only [up_n, up_s, nI_1]
        all_goals intro a b
        · exact id
        · exact id
        · exact id
        · exact id
        · intro c e; simp (disch := omega) only [up_n] at e; exact ⟨c, e⟩
        · rw [ec, cn_nI (by omega), cn_nI (by omega)]; omega
      · intro i hi hz
        have h10 : i < 10 := by
          simp (disch := omega) only [up_n] at hi
          obtain ⟨p, p1, p2, p3, p4⟩ := h.cnt (k := 137) (a := 265) (j := 31) (a' := 14) (j' := 1) (by omega) rfl rfl
          rw [ub_137] at p1
          rw [p4, cn_nI (by omega)] at hi
          omega
        simp (disch := omega) only [up_n] at hi hz ⊢
        exact h.P hi hz
    · have hlt : ¬ nI p < Int32.ofNat 8 := fun z => absurd ((nI_lt_iff (by omega) (by omega)).mp z) hs5
      simp (disch := omega) only [u2_same, u2_n1, u2_n2, not_true_eq_false, not_false_eq_true, false_implies, true_implies, forall_const, true_and, and_true, and_self, implies_true, ep', hlt]
      refine t_X11_book (d + 9) _ _ _ ?_
      have : nI p = 8 := by rw [show p = 8 by omega]; rfl
      simp (disch := omega) only [u2_same, u2_n1, u2_n2, not_true_eq_false, not_false_eq_true, false_implies, true_implies, forall_const, true_and, and_true, and_self, implies_true, ep, this, q0, q, q2]
      exact h
  · refine t_X11_book (d + 9) _ _ _ ?_
    simp (disch := omega) only [u2_same, u2_n1, u2_n2, not_true_eq_false, not_false_eq_true, false_implies, true_implies, forall_const, true_and, and_true, and_self, implies_true, q0, q, q2]
    exact h
  · refine t_X11_book (d + 9) _ _ _ ?_
    simp (disch := omega) only [u2_same, u2_n1, u2_n2, not_true_eq_false, not_false_eq_true, false_implies, true_implies, forall_const, true_and, and_true, and_self, implies_true, q0, q]
    exact h
  · refine t_X11_book (d + 9) _ _ _ ?_
    simp (disch := omega) only [u2_same, u2_n1, u2_n2, not_true_eq_false, not_false_eq_true, false_implies, true_implies, forall_const, true_and, and_true, and_self, implies_true, q0]
    exact Inv_none h (k := 138) (by omega) rfl rfl (by omega) (by unfold Ra; omega) (by unfold Ra; omega)
end SM
