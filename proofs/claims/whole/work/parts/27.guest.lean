/-! A GUEST COMES; LOOKING -/
theorem zfill4 (I : Nat → Nat → Int32) (a : Nat) (v : Int32) : zfill I a 4 v = u2 (u2 (u2 (u2 I a 0 v) a 1 v) a 2 v) a 3 v := by
  rw [← zfill_s I a 3, ← zfill_s I a 2, ← zfill_s I a 1, ← zfill_s I a 0, zfill_0]
theorem sh_g4 : ∀ n, n < 6 → zsh (3 + 33 + 2 * n + 1) = (12, 4) := by decide +kernel
section SM
variable {C : zC} {I : Nat → Nat → Int32} {L : Nat → Nat → Int64} {M : Nat → Nat → Option Nat}
theorem pr_guest (d : Nat) (h : Inv I L M) (x1 x2 x3 : Int32) : PrI C Y_X10_guest Y_X11_guest (d + 12) [.int x1, .int x2, .int x3] I L M := by
  obtain ⟨n, hn, en, en', ec⟩ := h.cnt (k := 134) (a := 265) (j := 2) (a' := 3) (j' := 3) (by omega) rfl rfl
  have hn : n ≤ 6 := hn
  have hnum := h.rest.1
  have e7 : (0 ≤ x1 ∧ x1 < 7) ↔ (0 ≤ x1 ∧ x1 ≤ 6) := and_congr_right fun _ => lt_le1 (by decide) x1
  refine t_X10_guest (d + 9) x1 x2 x3 _ ⟨fun q => ⟨fun q2 => ?_, fun q2 => ⟨fun q3 => ⟨fun q4 => ?_, fun q4 => ?_⟩, fun q3 => ?_⟩⟩, fun q => ?_⟩
  · refine t_X11_guest (d + 10) _ _ _ _ ?_
    have q' := e7.mp q
    simp (disch := omega) only [u2_same, u2_n1, u2_n2, not_true_eq_false, not_false_eq_true, false_implies, true_implies, forall_const, true_and, and_true, and_self, implies_true, q', q2]
    exact h
  · have q' := e7.mp q
    obtain ⟨k, hk, rfl⟩ := rgle 6 (by omega) q'.1 q'.2
    obtain ⟨v, hv, rfl⟩ := rgle 9 (by omega) q2.1 q2.2
    obtain ⟨m, hm, rfl⟩ := rgle 4095 (by omega) q3.1 q3.2
    rw [en'] at q4
    have hn6 : n < 6 := (nI_lt_iff (b := 6) (by omega) (by omega)).mp q4
    have hin := vp_in_nI hn6 (by omega : 6 < 2 ^ 31)
    rw [en', nI_clamp (show n < 2 ^ 31 by omega)]
    refine ⟨hin, ?_⟩
    have hnu : I (3 + 33 + 2 * n) 0 = nI n := by
      have := (hnum n hn6).1
      rw [rI_at (by unfold Ra; omega)] at this
      rw [show 3 + 33 + 2 * n = 36 + 2 * n by omega]
      exact this
    refine t_X0_come (d + 9) _ _ _ ((gI i0) n hn6) _ ?_
    refine sp_fill _ _ (sh_g4 n hn6) (by omega) _ ?_
    rw [zfill4]
    simp (disch := omega) only [u2_same, u2_n1, u2_n2, not_true_eq_false, not_false_eq_true, false_implies, true_implies, forall_const, true_and, and_true, and_self, implies_true, en', hnu]
    refine t_X11_guest (d + 10) _ _ _ _ ?_
    have hne : ¬ nI n = 6 := fun z => absurd (nI_inj (b := 6) (by omega) (by omega) z) (by omega)
    simp (disch := omega) only [u2_same, u2_n1, u2_n2, not_true_eq_false, not_false_eq_true, false_implies, true_implies, forall_const, true_and, and_true, and_self, implies_true, en, q', q2, q3, hne, hin, nI_clamp (show n < 2 ^ 31 by omega)]
    generalize hJ : u2 (u2 (u2 (u2 (u2 (u2 (u2 (u2 (u2 (u2 I (3 + 33 + 2 * n) 1 (nI k)) (3 + 33 + 2 * n) 2 (nI v)) (3 + 33 + 2 * n) 3 (nI m)) (3 + 33 + 2 * n) 4 0) (3 + 33 + 2 * n) 5 1) (3 + 33 + 2 * n + 1) 0 0) (3 + 33 + 2 * n + 1) 1 0) (3 + 33 + 2 * n + 1) 2 0) (3 + 33 + 2 * n + 1) 3 0) 3 3 (nI n + 1) = J
    have hJ2 : J 265 2 = nI n := by rw [← hJ]; simp (disch := omega) only [u2_same, u2_n1, u2_n2, not_true_eq_false, not_false_eq_true, false_implies, true_implies, forall_const, true_and, and_true, and_self, implies_true, en]
    have h0 : (0 : Int32) = nI 0 := rfl
    rw [h0]
    refine t_X11_guest_101 (d + 10) _ _ (br_f (by decide) ?_)
    simp (disch := omega) only [u2_same, u2_n1, u2_n2, not_true_eq_false, not_false_eq_true, false_implies, true_implies, forall_const, true_and, and_true, and_self, implies_true, hJ2, nI_4, nI_clamp (show 4 * n + 0 < 2 ^ 31 by omega), vp_in_nI (n := 4 * n + 0) (N := 24) (by omega) (by omega), nI_1]
    refine t_X11_guest_101 (d + 10) _ _ (br_f (by decide) ?_)
    simp (disch := omega) only [u2_same, u2_n1, u2_n2, not_true_eq_false, not_false_eq_true, false_implies, true_implies, forall_const, true_and, and_true, and_self, implies_true, hJ2, nI_4, nI_clamp (show 4 * n + (0 + 1) < 2 ^ 31 by omega), vp_in_nI (n := 4 * n + (0 + 1)) (N := 24) (by omega) (by omega), nI_1]
    refine t_X11_guest_101 (d + 10) _ _ (br_f (by decide) ?_)
    simp (disch := omega) only [u2_same, u2_n1, u2_n2, not_true_eq_false, not_false_eq_true, false_implies, true_implies, forall_const, true_and, and_true, and_self, implies_true, hJ2, nI_4, nI_clamp (show 4 * n + (0 + 1 + 1) < 2 ^ 31 by omega), vp_in_nI (n := 4 * n + (0 + 1 + 1)) (N := 24) (by omega) (by omega), nI_1]
    refine t_X11_guest_101 (d + 10) _ _ (br_f (by decide) ?_)
    simp (disch := omega) only [u2_same, u2_n1, u2_n2, not_true_eq_false, not_false_eq_true, false_implies, true_implies, forall_const, true_and, and_true, and_self, implies_true, hJ2, nI_4, nI_clamp (show 4 * n + (0 + 1 + 1 + 1) < 2 ^ 31 by omega), vp_in_nI (n := 4 * n + (0 + 1 + 1 + 1)) (N := 24) (by omega) (by omega), nI_1]
    refine t_X11_guest_101 (d + 10) _ _ (br_t (by decide) ?_)
    simp (disch := omega) only [u2_same, u2_n1, u2_n2, not_true_eq_false, not_false_eq_true, false_implies, true_implies, forall_const, true_and, and_true, and_self, implies_true, hJ2, nI_1]
    rw [← hJ]
    have h1 : nI (n + 1) = nI n + 1 := (nI_1 n).symm
    rw [h1]
    have h00 : nI 0 = 0 := rfl
    rw [h00]

    refine Inv_new h (w' := upd (upd (upd (upd (upd (upd (upd (upd (upd (upd (cur I) (24 + n) (nI k)) (30 + n) (nI v)) (36 + n) (nI m)) (42 + n) 0) (48 + n) 1) (54 + (4 * n + 0)) 0) (54 + (4 * n + 1)) 0) (54 + (4 * n + 2)) 0) (54 + (4 * n + 3)) 0) (134) (nI n + 1)) (v' := upd (upd (upd (upd (upd (upd (upd (upd (upd (upd (cv I 3) (24 + n) (nI k)) (30 + n) (nI v)) (36 + n) (nI m)) (42 + n) 0) (48 + n) 1) (54 + (4 * n + 0)) 0) (54 + (4 * n + 1)) 0) (54 + (4 * n + 2)) 0) (54 + (4 * n + 3)) 0) (134) (nI n + 1)) ?_ ?_ ?_ ?_ ?_ ?_
    · rw [cur_in' _ (show loc 134 = (265, 2) from rfl) (by omega), cur_in' _ (l_r (4 * n + 3) (by omega)) (by omega), cur_in' _ (l_r (4 * n + 2) (by omega)) (by omega), cur_in' _ (l_r (4 * n + 1) (by omega)) (by omega), cur_in' _ (l_r (4 * n + 0) (by omega)) (by omega), cur_in' _ (l_i n hn6) (by omega), cur_in' _ (l_l n hn6) (by omega), cur_in' _ (l_m n hn6) (by omega), cur_in' _ (l_v n hn6) (by omega), cur_in' _ (l_k n hn6) (by omega), cur_out _ _ (by omega), cur_out _ _ (by omega), cur_out _ _ (by omega), cur_out _ _ (by omega), cur_out _ _ (by omega), cur_out _ _ (by omega), cur_out _ _ (by omega), cur_out _ _ (by omega), cur_out _ _ (by omega), cur_out _ _ (by omega)]
    · rw [cv_out _ _ (by omega), cv_out _ _ (by omega), cv_out _ _ (by omega), cv_out _ _ (by omega), cv_out _ _ (by omega), cv_out _ _ (by omega), cv_out _ _ (by omega), cv_out _ _ (by omega), cv_out _ _ (by omega), cv_out _ _ (by omega), cv_in' _ (show cloc 3 134 = (3, 3) from rfl) (by omega), cv_in' _ (c_r 3 hn6 (k := 3) (by omega)) (by omega), cv_in' _ (c_r 3 hn6 (k := 2) (by omega)) (by omega), cv_in' _ (c_r 3 hn6 (k := 1) (by omega)) (by omega), cv_in' _ (c_r 3 hn6 (k := 0) (by omega)) (by omega), cv_in' _ (c_i 3 hn6) (by omega), cv_in' _ (c_l 3 hn6) (by omega), cv_in' _ (c_m 3 hn6) (by omega), cv_in' _ (c_v 3 hn6) (by omega), cv_in' _ (c_k 3 hn6) (by omega)]
    · rw [rI_out _ _ (by unfold Ra; omega), rI_out _ _ (by unfold Ra; omega), rI_out _ _ (by unfold Ra; omega), rI_out _ _ (by unfold Ra; omega), rI_out _ _ (by unfold Ra; omega), rI_out _ _ (by unfold Ra; omega), rI_out _ _ (by unfold Ra; omega), rI_out _ _ (by unfold Ra; omega), rI_out _ _ (by unfold Ra; omega), rI_out _ _ (by unfold Ra; omega), rI_out _ _ (by unfold Ra; omega), rI_out _ _ (by unfold Ra; omega), rI_out _ _ (by unfold Ra; omega), rI_out _ _ (by unfold Ra; omega), rI_out _ _ (by unfold Ra; omega), rI_out _ _ (by unfold Ra; omega), rI_out _ _ (by unfold Ra; omega), rI_out _ _ (by unfold Ra; omega), rI_out _ _ (by unfold Ra; omega), rI_out _ _ (by unfold Ra; omega)]
    · simp (disch := omega) only [up_n]
    · intro j hj hl
      by_cases e : j = 24 + n
      · subst e; right; simp (disch := omega) only [up_n, up_s, true_and]; exact ⟨k, by rw [u_k _ n hn6]; omega, rfl⟩
      by_cases e : j = 30 + n
      · subst e; right; simp (disch := omega) only [up_n, up_s, true_and]; exact ⟨v, by rw [u_v _ n hn6]; omega, rfl⟩
      by_cases e : j = 36 + n
      · subst e; right; simp (disch := omega) only [up_n, up_s, true_and]; exact ⟨m, by rw [u_m _ n hn6]; omega, rfl⟩
      by_cases e : j = 42 + n
      · subst e; right; simp (disch := omega) only [up_n, up_s, true_and]; exact ⟨0, by rw [u_l _ n hn6]; omega, rfl⟩
      by_cases e : j = 48 + n
      · subst e; right; simp (disch := omega) only [up_n, up_s, true_and]; exact ⟨1, by rw [u_i _ n hn6]; omega, rfl⟩
      by_cases e : j = 54 + (4 * n + 0)
      · subst e; right; simp (disch := omega) only [up_n, up_s, true_and]; exact ⟨0, by rw [u_r _ (4 * n + 0) (by omega)]; omega, rfl⟩
      by_cases e : j = 54 + (4 * n + 1)
      · subst e; right; simp (disch := omega) only [up_n, up_s, true_and]; exact ⟨0, by rw [u_r _ (4 * n + 1) (by omega)]; omega, rfl⟩
      by_cases e : j = 54 + (4 * n + 2)
      · subst e; right; simp (disch := omega) only [up_n, up_s, true_and]; exact ⟨0, by rw [u_r _ (4 * n + 2) (by omega)]; omega, rfl⟩
      by_cases e : j = 54 + (4 * n + 3)
      · subst e; right; simp (disch := omega) only [up_n, up_s, true_and]; exact ⟨0, by rw [u_r _ (4 * n + 3) (by omega)]; omega, rfl⟩
      by_cases e : j = 134
      · subst e; right; simp (disch := omega) only [up_n, up_s, true_and, nI_1]; exact ⟨n + 1, by show n + 1 ≤ 6; omega, rfl⟩
      left
      refine ⟨by simp (disch := omega) only [up_n], by simp (disch := omega) only [up_n], live_from hl ?_ ?_ ?_ ?_ ?_ ?_⟩
      all_goals simp (disch := omega) only [up_n, up_s, nI_1]
      all_goals intro a b
      · rw [ec, cn_nI (by omega), cn_nI (by omega)]; omega
      · rw [ec, cn_nI (by omega), cn_nI (by omega)]; omega
      · exact id
      · exact id
      · intro c e; exact ⟨c, e⟩
      · exact id
    · intro i hi hz
      have h10 : i < 10 := by
        simp (disch := omega) only [up_n] at hi
        obtain ⟨p, p1, p2, p3, p4⟩ := h.cnt (k := 137) (a := 265) (j := 31) (a' := 14) (j' := 1) (by omega) rfl rfl
        rw [ub_137] at p1
        rw [p4, cn_nI (by omega)] at hi
        omega
      simp (disch := omega) only [up_n, up_s, nI_1] at hi hz ⊢
      rw [cn_nI (by omega)]
      have := h.P hi hz
      rw [ec, cn_nI (by omega)] at this
      omega
  · refine t_X11_guest (d + 10) _ _ _ _ ?_
    have q' := e7.mp q
    have : I 265 2 = 6 := by
      rw [en]
      rw [en'] at q4
      have : n = 6 := by
        have : ¬ n < 6 := fun z => q4 ((nI_lt_iff (b := 6) (by omega) (by omega)).mpr z)
        omega
      rw [this]
      rfl
    simp (disch := omega) only [u2_same, u2_n1, u2_n2, not_true_eq_false, not_false_eq_true, false_implies, true_implies, forall_const, true_and, and_true, and_self, implies_true, q', q2, q3, this]
    exact h
  · refine t_X11_guest (d + 10) _ _ _ _ ?_
    have q' := e7.mp q
    simp (disch := omega) only [u2_same, u2_n1, u2_n2, not_true_eq_false, not_false_eq_true, false_implies, true_implies, forall_const, true_and, and_true, and_self, implies_true, q', q2, q3]
    exact h
  · refine t_X11_guest (d + 10) _ _ _ _ ?_
    have q' : ¬ (0 ≤ x1 ∧ x1 ≤ 6) := fun z => q (e7.mpr z)
    simp (disch := omega) only [u2_same, u2_n1, u2_n2, not_true_eq_false, not_false_eq_true, false_implies, true_implies, forall_const, true_and, and_true, and_self, implies_true, q']
    exact h
end SM
