section SM
variable {C : zC} {I I' : Nat → Nat → Int32} {L L' : Nat → Nat → Int64} {M : Nat → Nat → Option Nat}
/-- k is the kind's own, or stands above it -/
abbrev und (v k : Nat) : Prop := v = k ∨ k = 0 ∨ (v = 4 ∧ k = 1) ∨ (v = 5 ∧ k = 2) ∨ (v = 6 ∧ k = 3)
theorem sp_under (d : Nat) {v k : Nat} (hv : v < 7) (hk : k < 7) (K : KI) (hK : K (if und v k then 1 else 0) I L M) : zCI C Y_X10_isUnder (d + 2) [.int (nI v), .int (nI k)] (zmk I L M) K := by
  refine t_X10_isUnder d _ _ _ ?_
  have hin : ∀ v, v < 7 → 0 ≤ nI v ∧ nI v < 7 := fun v hv => ⟨nI_pos' (by omega), (nI_lt_iff (b := 7) (by omega) (by omega)).mpr hv⟩
  have s0 : ∀ y : Nat, y < 6 → (K (if k = 0 then 1 else 0) I L M) → zSI C (zmk I L M) K Y_X10_isUnder (d + 2) 4 [(1, .int (nI k)), (2, .int (nI 0)), (3, .int (nI y))] [] I L M := by
    intro y hy hK
    refine t_X10_isUnder_4 d _ _ _ _ (br_f (fun z => by have := (nI_le_iff (a := 7) (b := y) (by omega) (by omega)).mp z; omega) (br_t' (hin 0 (by omega)) ⟨fun z => ⟨vp_in_nI (by omega) (by omega), ?_⟩, fun z => ?_⟩))
    · have hk0 : ¬ k = 0 := fun e => z (by rw [e])
      rw [if_neg hk0] at hK
      rw [nI_1]
      exact t_X10_isUnder_4 d _ _ _ _ (br_f (fun z => by have := (nI_le_iff (a := 7) (b := y + 1) (by omega) (by omega)).mp z; omega) (br_f' (by decide) hK))
    · have hk0 : k = 0 := (nI_inj (by omega) (by omega) z).symm
      rw [if_pos hk0] at hK
      exact hK
  have s1 : ∀ v y : Nat, v = 1 ∨ v = 2 ∨ v = 3 → y < 5 → (K (if v = k ∨ k = 0 then 1 else 0) I L M) → zSI C (zmk I L M) K Y_X10_isUnder (d + 2) 4 [(1, .int (nI k)), (2, .int (nI v)), (3, .int (nI y))] [] I L M := by
    intro v y hv hy hK
    refine t_X10_isUnder_4 d _ _ _ _ (br_f (fun z => by have := (nI_le_iff (a := 7) (b := y) (by omega) (by omega)).mp z; omega) (br_t' (hin v (by omega)) ⟨fun z => ⟨vp_in_nI (by omega) (by omega), ?_⟩, fun z => ?_⟩))
    · have hk0 : ¬ v = k := fun e => z (by rw [e])
      rw [nI_1, nI_clamp (by omega), show zAbove.getD v 0 = nI 0 by rcases hv with rfl | rfl | rfl <;> rfl]
      refine s0 (y + 1) (by omega) ?_
      simp only [hk0, false_or] at hK
      exact hK
    · have hk0 : v = k := nI_inj (by omega) (by omega) z
      rw [if_pos (Or.inl hk0)] at hK
      exact hK
  have s2 : ∀ v u : Nat, (v = 4 ∧ u = 1) ∨ (v = 5 ∧ u = 2) ∨ (v = 6 ∧ u = 3) → (K (if v = k ∨ u = k ∨ k = 0 then 1 else 0) I L M) → zSI C (zmk I L M) K Y_X10_isUnder (d + 2) 4 [(1, .int (nI k)), (2, .int (nI v)), (3, .int (nI 0))] [] I L M := by
    intro v u hv hK
    refine t_X10_isUnder_4 d _ _ _ _ (br_f (by decide) (br_t' (hin v (by omega)) ⟨fun z => ⟨vp_in_nI (by omega) (by omega), ?_⟩, fun z => ?_⟩))
    · have hk0 : ¬ v = k := fun e => z (by rw [e])
      rw [nI_1, nI_clamp (by omega), show zAbove.getD v 0 = nI u by rcases hv with ⟨rfl, rfl⟩ | ⟨rfl, rfl⟩ | ⟨rfl, rfl⟩ <;> rfl]
      refine s1 u (0 + 1) (by omega) (by omega) ?_
      simp only [hk0, false_or] at hK
      exact hK
    · have hk0 : v = k := nI_inj (by omega) (by omega) z
      rw [if_pos (Or.inl hk0)] at hK
      exact hK
  have fin : ∀ {P : Prop} [Decidable P], (P ↔ und v k) → K (if P then 1 else 0) I L M := fun {P} _ e => by
    by_cases q : und v k
    · rw [if_pos q] at hK
      rw [if_pos (e.mpr q)]
      exact hK
    · rw [if_neg q] at hK
      rw [if_neg (fun z => q (e.mp z))]
      exact hK
  rcases (by omega : v = 0 ∨ (v = 1 ∨ v = 2 ∨ v = 3) ∨ v = 4 ∨ v = 5 ∨ v = 6) with h | h | h | h | h
  · subst h
    exact s0 0 (by omega) (fin (by unfold und; omega))
  · exact s1 v 0 h (by omega) (fin (by unfold und; omega))
  · exact s2 v 1 (by omega) (fin (by unfold und; omega))
  · exact s2 v 2 (by omega) (fin (by unfold und; omega))
  · exact s2 v 3 (by omega) (fin (by unfold und; omega))
theorem sp_tk (d : Nat) {h0 : zH} {g v k : Nat} (hg : g < 6) (hv : v < 7) (hk : k < 7) (e : I 268 g = nI v) (K : KI) (hK : K (if und v k then nI v else -12) I L M) : zSI C h0 K Y_X11_taken (d + 3) 31 [(0, .ref 265), (1, .int (nI g)), (2, .int (nI k)), (3, .int (nI v))] [] I L M := by
  have hcl := nI_clamp (n := g) (by omega)
  have hin := vp_in_nI hg (by omega : 6 < 2 ^ 31)
  have s48 : ∀ u : Nat, u < 7 → K (if u = k then nI v else -12) I L M → zSI C h0 K Y_X11_taken (d + 3) 48 [(0, .ref 265), (1, .int (nI g)), (2, .int (nI k)), (3, .int (nI u))] [] I L M := by
    intro u hu hK
    refine t_X11_taken_48 d _ _ _ _ ⟨fun z => ?_, fun z => ⟨hin, ?_⟩⟩
    · rw [if_neg (fun q => z (by rw [q]))] at hK
      exact hK
    · rw [if_pos (nI_inj (by omega) (by omega) z)] at hK
      rw [hcl, e]
      exact hK
  have stp : ∀ u : Nat, u < 7 → (u = k → K (nI v) I L M) → (u = 0 → ¬ u = k → K (-12) I L M) → (¬ u = k → ¬ u = 0 → zSI C h0 K Y_X11_taken (d + 3) 31 [(0, .ref 265), (1, .int (nI g)), (2, .int (nI k)), (3, .int (nI (abv u)))] [] I L M) → zSI C h0 K Y_X11_taken (d + 3) 31 [(0, .ref 265), (1, .int (nI g)), (2, .int (nI k)), (3, .int (nI u))] [] I L M := by
    intro u hu k1 k2 k3
    refine t_X11_taken_31 d _ _ _ _ ⟨fun z => ?_, fun z => ⟨fun z2 => ?_, fun z2 => ?_⟩⟩
    · have q := nI_inj (by omega) (by omega) z
      exact s48 u hu (by rw [if_pos q]; exact k1 q)
    · have q : ¬ u = k := fun q => z (by rw [q])
      have q0 : u = 0 := by have := (nI_le_iff (b := 0) (by omega) (by omega)).mp z2; omega
      exact s48 u hu (by rw [if_neg q]; exact k2 q0 q)
    · have q : ¬ u = k := fun q => z (by rw [q])
      have q0 : ¬ u = 0 := fun q => z2 (by rw [q]; decide)
      exact sp_above (d + 1) hu _ (k3 q q0)
  have yes : und v k → K (nI v) I L M := fun q => by rw [if_pos q] at hK; exact hK
  have no : ¬ und v k → K (-12) I L M := fun q => by rw [if_neg q] at hK; exact hK
  rcases (by omega : v = 0 ∨ (v = 1 ∨ v = 2 ∨ v = 3) ∨ v = 4 ∨ v = 5 ∨ v = 6) with h | h | h | h | h
  · exact stp v hv (fun q => yes (by unfold und; omega)) (fun q q2 => no (by unfold und; omega)) (fun q q2 => absurd h q2)
  · refine stp v hv (fun q => yes (by unfold und; omega)) (fun q q2 => no (by unfold und; omega)) (fun q q2 => ?_)
    rw [show abv v = 0 by unfold abv; rw [if_neg (by omega), if_neg (by omega), if_neg (by omega)]]
    exact stp 0 (by omega) (fun q => yes (by unfold und; omega)) (fun q q2 => no (by unfold und; omega)) (fun q q2 => absurd rfl q2)
  all_goals subst h
  all_goals refine stp _ (by omega) (fun q => yes (by unfold und; omega)) (fun q q2 => no (by unfold und; omega)) (fun q q2 => ?_)
  all_goals refine stp _ (by decide) (fun q => yes (by unfold und; unfold abv at q; simp at q; omega)) (fun q q2 => absurd q (by decide)) (fun q3 q4 => ?_)
  all_goals exact stp 0 (by omega) (fun q => yes (by unfold und; omega)) (fun q5 q6 => no (by unfold und; unfold abv at q3; simp at q3; omega)) (fun q q2 => absurd rfl q2)
theorem pr_taken (d : Nat) (h : Inv I L M) (x1 x2 : Int32) : PrI C Y_X10_taken Y_X11_taken (d + 12) [.int x1, .int x2] I L M := by
  have e7 : (0 ≤ x2 ∧ x2 < 7) ↔ (0 ≤ x2 ∧ x2 ≤ 6) := and_congr_right fun _ => lt_le1 (by decide) x2
  refine t_X10_taken (d + 9) x1 x2 _ ⟨fun q2 => ⟨fun q => ?_, fun q => ?_⟩, fun q2 => ?_⟩
  · obtain ⟨g, hg, hgn, rfl, hq⟩ := h.g q
    obtain ⟨k, hk, rfl⟩ := rg 7 (by omega) q2.1 q2.2
    have hin := vp_in_nI hg (by omega : 6 < 2 ^ 31)
    have hcl := nI_clamp (n := g) (by omega)
    have hlv := live_g hgn hg
    have a1 := h.at (by omega) hlv.1 (l_k g hg) (c_k 3 hg)
    obtain ⟨v, hv, ev⟩ := h.val (by omega) hlv.1 (l_k g hg)
    rw [u_k _ g hg] at hv
    rw [hcl, a1, ev]
    have md : ∀ r : Int32, r = (if und v k then nI v else -12) → zCI C Y_X11_taken (d + 12) [.ref 265, .int (nI g), .int (nI k)] (zmk I L M) (fun r2 I2 L2 M2 => r2 = r ∧ Inv I2 L2 M2) := by
      intro r hr
      refine t_X11_taken (d + 9) _ _ _ ?_
      simp (disch := omega) only [u2_same, u2_n1, u2_n2, not_true_eq_false, not_false_eq_true, false_implies, true_implies, forall_const, true_and, and_true, and_self, implies_true, e7.mp q2, hq, hin, hcl, ev]
      exact sp_tk (d + 9) hg (by omega) hk ev _ ⟨hr.symm, h⟩
    refine ⟨hin, sp_under (d + 9) (by omega) hk _ ⟨fun z => md _ ?_, fun z => md _ ?_⟩⟩
    · by_cases u : und v k
      · rw [if_pos u] at z
        exact absurd z (by decide)
      · rw [if_neg u]
    · by_cases u : und v k
      · rw [if_pos u]
      · rw [if_neg u] at z
        exact absurd rfl z
  · refine t_X11_taken (d + 9) _ _ _ ?_
    simp (disch := omega) only [u2_same, u2_n1, u2_n2, not_true_eq_false, not_false_eq_true, false_implies, true_implies, forall_const, true_and, and_true, and_self, implies_true, e7.mp q2, h.ng q]
    exact h
  · refine t_X11_taken (d + 9) _ _ _ ?_
    have q' : ¬ (0 ≤ x2 ∧ x2 ≤ 6) := fun z => q2 (e7.mpr z)
    simp (disch := omega) only [u2_same, u2_n1, u2_n2, not_true_eq_false, not_false_eq_true, false_implies, true_implies, forall_const, true_and, and_true, and_self, implies_true, q']
    exact h
end SM
