/-! CALLS THAT WRITE MORE THAN ONE PLACE -/
theorem cur_in' (I : Nat → Nat → Int32) {k a j : Nat} (e : loc k = (a, j)) (hk : k < 140) (v : Int32) : cur (u2 I a j v) = upd (cur I) k v := by
  have h := cur_in I hk v
  rw [e] at h
  exact h
theorem cv_in' (I : Nat → Nat → Int32) {b k a j : Nat} (e : cloc b k = (a, j)) (hk : k < 139) (v : Int32) : cv (u2 I a j v) b = upd (cv I b) k v := by
  have h := cv_in I b hk v
  rw [e] at h
  exact h
theorem up_s (w : Nat → Int32) (k : Nat) (v : Int32) : upd w k v k = v := by simp [upd]
theorem up_n (w : Nat → Int32) {k j : Nat} (v : Int32) (h : j ≠ k) : upd w k v j = w j := by simp [upd, h]
/-- a place of the Inns that the view does not hold -/
theorem cv_skip (I : Nat → Nat → Int32) {a j b : Nat} (v : Int32) (h : ∀ k, k < 139 → (cloc b k).1 = a → (cloc b k).2 ≠ j) : cv (u2 I a j v) b = cv I b := cv_eq fun k hk => u2_ne _ _ (by
  by_cases e : (cloc b k).1 = a
  · exact Or.inr (h k hk e)
  · exact Or.inl e)
theorem Inv_new {I I' : Nat → Nat → Int32} {L : Nat → Nat → Int64} {M : Nat → Nat → Option Nat} (h : Inv I L M) {w' v' : Nat → Int32} (e1 : cur I' = w') (e2 : cv I' 3 = v') (e3 : rI I' = rI I) (h139 : w' 139 = cur I 139)
    (hk : ∀ k, k < 139 → live w' k → (w' k = cur I k ∧ v' k = cv I 3 k ∧ live (cur I) k) ∨ (v' k = w' k ∧ ∃ j, j ≤ ub 9999 k ∧ w' k = nI j))
    (hP : ∀ i, i < cn (w' 137) → ¬ w' (98 + i) = 0 → cn (w' (108 + i)) < cn (w' 134)) : Inv I' L M := by
  obtain ⟨hW, hI, hR⟩ := h
  have e16 : I' 265 16 = I 265 16 := by rw [← rI_at (I := I') (a := 265) (j := 16) (by unfold Ra; omega), e3, rI_at (by unfold Ra; omega)]
  refine ⟨?_, ?_, by rw [e3]; exact hR⟩
  · rw [e1, e16]
    refine ⟨fun k hk' hl => ?_, hP, by rw [h139]; exact hW.2.2⟩
    rcases hk k hk' hl with ⟨a, b, c⟩ | ⟨a, b⟩
    · rw [a]; exact hW.1 k hk' c
    · exact b
  · rw [e1]
    refine ⟨fun k hk' _ hl => ?_, by rw [h139]; exact hI.2⟩
    rw [e2]
    rcases hk k hk' hl with ⟨a, b, c⟩ | ⟨a, b⟩
    · rw [a, b]; exact hI.1 k hk' trivial c
    · exact a
theorem u2_n1 {α : Type} (I : Nat → Nat → α) {a j b i : Nat} (v : α) (h : b ≠ a) : u2 I a j v b i = I b i := u2_ne I v (Or.inl h)
theorem u2_n2 {α : Type} (I : Nat → Nat → α) {a j b i : Nat} (v : α) (h : i ≠ j) : u2 I a j v b i = I b i := u2_ne I v (Or.inr h)
theorem u2_comm {α : Type} (I : Nat → Nat → α) {a j b i : Nat} (v w : α) (h : a ≠ b ∨ j ≠ i) : u2 (u2 I a j v) b i w = u2 (u2 I b i w) a j v := by
  funext c k
  simp only [u2_at]
  by_cases h1 : c = b ∧ k = i
  · rw [if_pos h1]
    obtain ⟨rfl, rfl⟩ := h1
    by_cases h2 : c = a ∧ k = j
    · obtain ⟨rfl, rfl⟩ := h2; omega
    · rw [if_neg h2, if_pos ⟨rfl, rfl⟩]
  · rw [if_neg h1, if_neg h1]
/-- what the class writes, ahead of what the model writes -/
theorem u2_cm {α : Type} (I : Nat → Nat → α) {a j b i : Nat} (v w : α) (ha : a < 265) (hb : 265 ≤ b) : u2 (u2 I b i w) a j v = u2 (u2 I a j v) b i w := u2_comm I w v (Or.inl (by omega))
theorem Inv_cong {I I' : Nat → Nat → Int32} {L : Nat → Nat → Int64} {M : Nat → Nat → Option Nat} (h : Inv I L M) (e1 : cur I' = cur I) (e2 : cv I' 3 = cv I 3) (e3 : rI I' = rI I) : Inv I' L M := by
  have e16 : I' 265 16 = I 265 16 := by rw [← rI_at (I := I') (a := 265) (j := 16) (by unfold Ra; omega), e3, rI_at (by unfold Ra; omega)]
  obtain ⟨hW, hI, hR⟩ := h
  exact ⟨by rw [e1, e16]; exact hW, by unfold InnR; rw [e1, e2]; exact hI, by rw [e3]; exact hR⟩
section SM
variable {C : zC} {I : Nat → Nat → Int32} {L : Nat → Nat → Int64} {M : Nat → Nat → Option Nat}
theorem pr_redeem (d : Nat) (h : Inv I L M) (x1 x2 : Int32) : PrI C Y_X10_redeem Y_X11_redeem (d + 12) [.int x1, .int x2] I L M := by
  refine t_X10_redeem (d + 9) x1 x2 _ ⟨fun q => ?_, fun q => ⟨fun q2 => ?_, fun q2 => ?_⟩⟩
  · exact t_X11_redeem (d + 9) _ _ _ (br_f' (h.ng q) ⟨rfl, h⟩)
  · obtain ⟨g, hg, hgn, rfl, hq⟩ := h.g q
    obtain ⟨x, hx, rfl⟩ := rg 12 (by omega) q2.1 q2.2
    have hin := vp_in_nI hg (by omega : 6 < 2 ^ 31)
    have hin2 := vp_in_nI hx (by omega : 12 < 2 ^ 31)
    have hcl := nI_clamp (n := g) (by omega)
    have hcl2 := nI_clamp (n := x) (by omega)
    have hlv := live_g hgn hg
    have hm := h.at (by omega) hlv.2.2.1 (l_m g hg) (c_m 3 hg)
    have hl := h.at (by omega) hlv.2.2.2.1 (l_l g hg) (c_l 3 hg)
    have hc := h.at (k := 12 + x) (by omega) (by unfold live; omega) (l_c x hx) (c_c 3 hx)
    obtain ⟨m, hm1, em⟩ := h.val (by omega) hlv.2.2.1 (l_m g hg)
    obtain ⟨l, hl1, el⟩ := h.val (by omega) hlv.2.2.2.1 (l_l g hg)
    obtain ⟨c, hc1, ec⟩ := h.val (k := 12 + x) (by omega) (by unfold live; omega) (l_c x hx)
    rw [u_m _ g hg] at hm1
    rw [u_l _ g hg] at hl1
    rw [u_c _ x hx] at hc1
    have hmiss : zhas (I (3 + 33 + 2 * g) 4 &&& (I (3 + 33 + 2 * g) 3 ^^^ (-1))) (nI x) ↔ zhas (I 271 g) (nI x) ∧ ¬ zhas (I 270 g) (nI x) := by
      rw [hm, hl, zhas_hb (by omega), zhas_hb (by omega), zhas_hb (by omega), hb_and, hb_not _ (by omega)]
      simp
    have hpos : 0 < I 5 x ↔ ¬ I 267 x = 0 := by
      rw [show I 5 x = I 267 x from hc, ec, Int32.lt_iff_toInt_lt, nI_toInt (by omega), show (0 : Int32) = nI 0 from rfl, nI_toInt (by omega), nI_eq (by omega) (by omega)]
      omega
    refine ⟨hin, fun z => ?_, fun z => ⟨hin2, fun z2 => ?_, fun z2 => ?_⟩⟩
    · rw [hcl] at z
      rw [hmiss] at z
      refine t_X11_redeem (d + 9) _ _ _ (br_t' hq (br_t q2 ⟨hin, fun z3 => ⟨rfl, h⟩, fun z3 => ⟨hin, fun z4 => ⟨rfl, h⟩, fun z4 => ?_⟩⟩))
      rw [hcl] at z3 z4
      exact absurd ⟨z3, z4⟩ z
    · rw [hcl] at z
      rw [hmiss] at z
      rw [hcl2] at z2
      have z2' := hpos.mp z2
      refine ⟨hin2, hin2, hin2, ?_⟩
      simp (disch := omega) only [u2_same, u2_n1, u2_n2, not_true_eq_false, not_false_eq_true, false_implies, true_implies, forall_const, true_and, and_true, and_self, implies_true, hcl, hcl2, hm, hl, show I 5 x = I 267 x from hc]
      refine t_X11_redeem (d + 9) _ _ _ ?_
      simp (disch := omega) only [u2_same, u2_n1, u2_n2, not_true_eq_false, not_false_eq_true, false_implies, true_implies, forall_const, true_and, and_true, and_self, implies_true, hcl, hcl2, hin, hin2, hq, q2, eq_true z.1, z.2, z2']
      generalize hmv : (I 270 g ||| (1 : Int32) <<< (nI x &&& 31)) = mv
      generalize hlv' : (I 271 g &&& ((1 : Int32) <<< (nI x &&& 31) ^^^ (-1))) = lv
      generalize hcv : (I 267 x - 1) = cvv
      have hu := Inv_upd (Inv_upd (Inv_upd h (k := 36 + g) (v := mv) (by omega) (by rw [u_m _ g hg, ← hmv]; exact m12_or ⟨m, hm1, em⟩ (m12_one hx))) (k := 42 + g) (v := lv) (by omega) (by rw [u_l _ g hg, ← hlv']; exact m12_and _ ⟨l, hl1, el⟩)) (k := 12 + x) (v := cvv) (by omega) (by
        rw [u_c _ x hx, ← hcv, ec]
        refine ⟨c - 1, by omega, ?_⟩
        refine nI_sub1 (Nat.pos_of_ne_zero fun q => z2' ?_)
        rw [ec, q]; rfl)
      rw [l_m g hg, c_m 3 hg, l_l g hg, c_l 3 hg, l_c x hx, c_c 3 hx] at hu
      simp (disch := omega) only [u2_cm] at hu
      exact hu
    · rw [hcl2] at z2
      have z2' : I 267 x = 0 := Classical.byContradiction fun q => z2 (hpos.mpr q)
      rw [hcl, hmiss] at z
      refine t_X11_redeem (d + 9) _ _ _ ?_
      simp (disch := omega) only [u2_same, u2_n1, u2_n2, not_true_eq_false, not_false_eq_true, false_implies, true_implies, forall_const, true_and, and_true, and_self, implies_true, hcl, hcl2, hin, hin2, hq, q2, eq_true z.1, z.2, z2']
      exact h
  · obtain ⟨g, hg, hgn, rfl, hq⟩ := h.g q
    exact t_X11_redeem (d + 9) _ _ _ (br_t' hq (br_f q2 ⟨rfl, h⟩))
end SM
