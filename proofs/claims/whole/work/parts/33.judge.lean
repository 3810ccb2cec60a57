/-! JUDGED; TAKEN FOR ONE OF A KIND -/
section SM
variable {C : zC} {I I' : Nat → Nat → Int32} {L L' : Nat → Nat → Int64} {M : Nat → Nat → Option Nat}
abbrev zKI : Type := Int32 → (Nat → Nat → Int32) → (Nat → Nat → Int64) → (Nat → Nat → Option Nat) → Prop
theorem Inv.cel (h : Inv I L M) {x : Nat} (hx : x < 12) : ∃ c, c ≤ 99 ∧ I 267 x = nI c ∧ I 5 x = nI c := by
  have hl : live (cur I) (12 + x) := by unfold live; omega
  obtain ⟨c, hc, e⟩ := h.val (by omega) hl (l_c x hx)
  rw [u_c _ x hx] at hc
  exact ⟨c, hc, e, (h.at (by omega) hl (l_c x hx) (c_c 3 hx)).trans e⟩
theorem jd_none (d : Nat) {h0 : zH} {K : zKI} {t i : Nat} {x : Int32} (ht : t < 6) (hK : K (100 + 0) I L M) (hm : I 294 t = -1 ∨ x < 0 ∨ ∃ n, I 295 t = nI n ∧ n ≤ 60 ∧ ∃ i, i < 2 ^ 31 ∧ x = nI i ∧ n ≤ i) : zSI C h0 K Y_X11_judge (d + 12) 35 [(0, .ref 265), (1, .int (nI t)), (2, .int x), (3, .int 0)] [] I L M := by
  refine t_X11_judge_35 (d + 10) _ _ _ _ ?_
  simp (disch := omega) only [u2_same, u2_n1, u2_n2, not_true_eq_false, not_false_eq_true, false_implies, true_implies, forall_const, true_and, and_true, and_self, implies_true, vp_in_nI ht (by omega : 6 < 2 ^ 31), nI_clamp (show t < 2 ^ 31 by omega), show ¬ (12 : Int32) ≤ 0 by decide]
  refine ⟨fun _ => hK, fun a => ⟨fun _ => hK, fun b => ⟨fun c => ?_, fun _ => hK⟩⟩⟩
  rcases hm with e | e | ⟨n, e, hn, i, hi, e2, hle⟩
  · exact absurd e a
  · exact absurd e b
  · rw [e, e2, lg_cmp_lt, show (0 : Int32) = nI 0 from rfl, (i64_lt hi (by omega) (by omega)).1] at c
    omega
theorem jd_loop (d : Nat) (h : Inv I L M) {h0 h1 : zH} {t i n : Nat} (ht : t < 6) (e1 : ¬ I 294 t = -1) (e2 : I 295 t = nI n) (hn : n ≤ 60) (hi : i ≤ n) (hL : ∀ j, j < 60 → L (253 + 2 * t + 1) j = L 296 (60 * t + j)) : ∃ r : Int32, (∀ K : zKI, K r I L M → zSI C h0 K Y_X10_judge (d + 12) 60 [(0, .ref 0), (2, .int (nI i)), (3, .ref (253 + 2 * t)), (4, .int (nI (n - i))), (5, .int (nI 0))] [] I L M) ∧ (∀ K : zKI, K r I L M → zSI C h1 K Y_X11_judge (d + 12) 35 [(0, .ref 265), (1, .int (nI t)), (2, .int (nI i)), (3, .int (nI 0))] [] I L M) := by
  have hcl := nI_clamp (n := t) (by omega)
  have hin := vp_in_nI ht (by omega : 6 < 2 ^ 31)
  refine count_up (P := fun y => ∃ r : Int32, (∀ K : zKI, K r I L M → zSI C h0 K Y_X10_judge (d + 12) 60 [(0, .ref 0), (2, .int (nI i)), (3, .ref (253 + 2 * t)), (4, .int (nI (n - i))), (5, .int (nI y))] [] I L M) ∧ (∀ K : zKI, K r I L M → zSI C h1 K Y_X11_judge (d + 12) 35 [(0, .ref 265), (1, .int (nI t)), (2, .int (nI i)), (3, .int (nI y))] [] I L M)) 12 ?_ ?_ 0 (by omega)
  · exact ⟨-5, fun K hK => t_X10_judge_60 (d + 10) (hT t ht) _ _ _ _ (br_t (by decide) hK), fun K hK => t_X11_judge_35 (d + 10) _ _ _ _ (br_t (by decide) hK)⟩
  · rintro y hy ⟨r, r1, r2⟩
    have hy12 : ¬ 12 ≤ nI y := fun z => by have := (nI_le_iff (a := 12) (b := y) (by omega) (by omega)).mp z; omega
    have hy0 : ¬ nI i < 0 := le_nlt (nI_pos' (by omega))
    have hyl := vp_in_nI hy (by omega : 12 < 2 ^ 31)
    obtain ⟨c, hc, c1, c2⟩ := h.cel hy
    by_cases hlt : y < n - i
    · have g1 : nI y < nI (n - i) := (nI_lt_iff (by omega) (by omega)).mpr hlt
      have g2 : lg_cmp ((nI i).toInt64 + (nI y).toInt64) (nI n).toInt64 < 0 := by rw [lg_cmp_lt, (i64_lt (by omega) (by omega) (by omega)).1]; omega
      have hLL := hL (i + y) (by omega)
      by_cases hq : lg_cmp (L 296 (60 * t + i + y)) (nI c).toInt64 = 0
      · refine ⟨r, fun K hK => t_X10_judge_60 (d + 10) (hT t ht) _ _ _ _ ?_, fun K hK => t_X11_judge_35 (d + 10) _ _ _ _ ?_⟩
        · simp (disch := omega) only [u2_same, u2_n1, u2_n2, not_true_eq_false, not_false_eq_true, false_implies, true_implies, forall_const, true_and, and_true, and_self, implies_true, hy12, g1, nI_add, nI_clamp (show i + y < 2 ^ 31 by omega), vp_in_nI (show i + y < 60 by omega) (by omega), hyl, nI_clamp (show y < 2 ^ 31 by omega), hLL, c2, show 60 * t + (i + y) = 60 * t + i + y by omega, hq, nI_1]
          exact r1 K hK
        · simp (disch := omega) only [u2_same, u2_n1, u2_n2, not_true_eq_false, not_false_eq_true, false_implies, true_implies, forall_const, true_and, and_true, and_self, implies_true, hy12, hy0, e1, e2, hcl, hin, g2, nI_60, nI_add, nI_clamp (show 60 * t + i + y < 2 ^ 31 by omega), vp_in_nI (show 60 * t + i + y < 360 by omega) (by omega), hyl, nI_clamp (show y < 2 ^ 31 by omega), c1, hq, nI_1]
          exact r2 K hK
      · refine ⟨nI y, fun K hK => t_X10_judge_60 (d + 10) (hT t ht) _ _ _ _ ?_, fun K hK => t_X11_judge_35 (d + 10) _ _ _ _ ?_⟩
        · simp (disch := omega) only [u2_same, u2_n1, u2_n2, not_true_eq_false, not_false_eq_true, false_implies, true_implies, forall_const, true_and, and_true, and_self, implies_true, hy12, g1, nI_add, nI_clamp (show i + y < 2 ^ 31 by omega), vp_in_nI (show i + y < 60 by omega) (by omega), hyl, nI_clamp (show y < 2 ^ 31 by omega), hLL, c2, show 60 * t + (i + y) = 60 * t + i + y by omega, hq, nI_1]
          exact hK
        · simp (disch := omega) only [u2_same, u2_n1, u2_n2, not_true_eq_false, not_false_eq_true, false_implies, true_implies, forall_const, true_and, and_true, and_self, implies_true, hy12, hy0, e1, e2, hcl, hin, g2, nI_60, nI_add, nI_clamp (show 60 * t + i + y < 2 ^ 31 by omega), vp_in_nI (show 60 * t + i + y < 360 by omega) (by omega), hyl, nI_clamp (show y < 2 ^ 31 by omega), c1, hq, nI_1]
          exact hK
    · have g1 : ¬ nI y < nI (n - i) := fun z => hlt ((nI_lt_iff (by omega) (by omega)).mp z)
      have g2 : ¬ lg_cmp ((nI i).toInt64 + (nI y).toInt64) (nI n).toInt64 < 0 := by rw [lg_cmp_lt, (i64_lt (by omega) (by omega) (by omega)).1]; omega
      refine ⟨100 + nI y, fun K hK => t_X10_judge_60 (d + 10) (hT t ht) _ _ _ _ ?_, fun K hK => t_X11_judge_35 (d + 10) _ _ _ _ ?_⟩
      · simp (disch := omega) only [u2_same, u2_n1, u2_n2, not_true_eq_false, not_false_eq_true, false_implies, true_implies, forall_const, true_and, and_true, and_self, implies_true, hy12, g1]
        exact hK
      · simp (disch := omega) only [u2_same, u2_n1, u2_n2, not_true_eq_false, not_false_eq_true, false_implies, true_implies, forall_const, true_and, and_true, and_self, implies_true, hy12, hy0, e1, e2, hcl, hin, g2]
        exact hK
theorem pr_judge (d : Nat) (h : Inv I L M) (x1 x2 : Int32) : PrI C Y_X10_judge Y_X11_judge (d + 12) [.int x1, .int x2] I L M := by
  have e5 : (0 ≤ x1 ∧ x1 < 6) ↔ (0 ≤ x1 ∧ x1 ≤ 5) := and_congr_right fun _ => lt_le1 (by decide) x1
  refine t_X10_judge (d + 10) x1 x2 _ ⟨fun q => ?_, fun q => ?_⟩
  · obtain ⟨t, ht, rfl⟩ := rg 6 (by omega) q.1 q.2
    obtain ⟨so, n, hso, hn, a1, a2, a3, a4, a5⟩ := h.tap ht
    have hin := vp_in_nI ht (by omega : 6 < 2 ^ 31)
    have hcl := nI_clamp (n := t) (by omega)
    rw [hcl, a1]
    have main : (so = 0 ∨ so = -1) → zSI C (zmk I L M) (fun r I1 L1 M1 => zCI C Y_X11_judge (d + 12) [.ref 265, .int (nI t), .int x2] (zmk I1 L1 M1) (fun r2 I2 L2 M2 => r2 = r ∧ Inv I2 L2 M2)) Y_X10_judge (d + 12) 36 [(0, .ref 0), (2, .int x2), (3, .ref (253 + 2 * t))] [] I L M := by
      intro hs
      have ent : ∀ r : Int32, zSI C (zmk I L M) (fun r2 I2 L2 M2 => r2 = r ∧ Inv I2 L2 M2) Y_X11_judge (d + 12) 35 [(0, .ref 265), (1, .int (nI t)), (2, .int x2), (3, .int 0)] [] I L M → zCI C Y_X11_judge (d + 12) [.ref 265, .int (nI t), .int x2] (zmk I L M) (fun r2 I2 L2 M2 => r2 = r ∧ Inv I2 L2 M2) := by
        intro r hr
        refine t_X11_judge (d + 10) _ _ _ ?_
        simp (disch := omega) only [u2_same, u2_n1, u2_n2, not_true_eq_false, not_false_eq_true, false_implies, true_implies, forall_const, true_and, and_true, and_self, implies_true, e5.mp q, hin, hcl, a2]
        refine ⟨fun _ => hr, fun z => ⟨fun _ => hr, fun z2 => ?_⟩⟩
        rcases hs with e | e
        · exact absurd e z2
        · exact absurd e z
      refine t_X10_judge_36 (d + 10) (hT t ht) _ _ ?_
      rw [a3]
      have hz : (0 ≤ x2 ∧ 0 ≤ (0 : Int32) ∧ 0 ≤ nI n ∧ x2 ≤ nI n - 0) ↔ ∃ i, i ≤ n ∧ x2 = nI i := by
        refine (partI hn x2 0).trans ?_
        constructor
        · rintro ⟨i, m, e1, e2, e3⟩
          exact ⟨i, by omega, e1⟩
        · rintro ⟨i, e1, e2⟩
          exact ⟨i, 0, e2, rfl, by omega⟩
      rw [hz]
      refine ⟨fun z => ?_, fun z => ?_⟩
      · refine t_X10_judge_60 (d + 10) (hT t ht) _ _ _ _ ?_
        simp (disch := omega) only [u2_same, u2_n1, u2_n2, not_true_eq_false, not_false_eq_true, false_implies, true_implies, forall_const, true_and, and_true, and_self, implies_true, show ¬ (12 : Int32) ≤ 0 by decide, show ¬ (0 : Int32) < 0 by decide]
        refine ent _ (jd_none d (i := 0) ht ⟨rfl, h⟩ ?_)
        right
        rcases Classical.em (x2 < 0) with q2 | q2
        · exact Or.inl q2
        · obtain ⟨i, hi, rfl⟩ := nI_ex q2
          refine Or.inr ⟨n, a4, hn, i, hi, rfl, ?_⟩
          have : ¬ i ≤ n := fun y => z ⟨i, y, rfl⟩
          omega
      · obtain ⟨i, hi, rfl⟩ := z
        rw [nI_sub hi]
        rcases Classical.em (so = -1) with q2 | q2
        · have hn0 : n = 0 := by
            rcases hso with ⟨-, e⟩ | ⟨s, hs, e⟩
            · exact e
            · rw [q2] at e
              exact absurd e ((by decide : ∀ s, s < 5 → ¬ -1 = nI s) s (by omega))
          subst hn0
          refine t_X10_judge_60 (d + 10) (hT t ht) _ _ _ _ ?_
          simp (disch := omega) only [u2_same, u2_n1, u2_n2, not_true_eq_false, not_false_eq_true, false_implies, true_implies, forall_const, true_and, and_true, and_self, implies_true, show ¬ (12 : Int32) ≤ 0 by decide, show ¬ (0 : Int32) < nI (0 - i) by rw [Nat.zero_sub]; decide]
          exact ent _ (jd_none d (i := 0) ht ⟨rfl, h⟩ (Or.inl (a2.trans q2)))
        · obtain ⟨r, r1, r2⟩ := jd_loop (C := C) (h0 := zmk I L M) (h1 := zmk I L M) d h ht (by rw [a2]; exact q2) a4 hn hi a5
          exact r1 _ (ent r (r2 _ ⟨rfl, h⟩))
    refine ⟨hin, fun z => main (Or.inl z), fun z => ⟨fun z2 => main (Or.inr z2), fun z2 => ?_⟩⟩
    refine t_X11_judge (d + 10) _ _ _ ?_
    simp (disch := omega) only [u2_same, u2_n1, u2_n2, not_true_eq_false, not_false_eq_true, false_implies, true_implies, forall_const, true_and, and_true, and_self, implies_true, e5.mp q, hin, hcl, a2, z, z2]
    exact h
  · refine t_X11_judge (d + 10) _ _ _ ?_
    have q' : ¬ (0 ≤ x1 ∧ x1 ≤ 5) := fun z => q (e5.mpr z)
    simp (disch := omega) only [u2_same, u2_n1, u2_n2, not_true_eq_false, not_false_eq_true, false_implies, true_implies, forall_const, true_and, and_true, and_self, implies_true, q']
    exact h
end SM
