/-! KEEP AND AGAIN: the view is copied, and copied back -/
section SM
variable {C : zC} {I I' : Nat → Nat → Int32} {L L' : Nat → Nat → Int64} {M : Nat → Nat → Option Nat}
def KS (I : Nat → Nat → Int32) (a : Nat) (D : Nat → Prop) (J : Nat → Nat → Int32) : Prop := (∀ b j, b ≠ a ∨ 140 ≤ j → J b j = I b j) ∧ ∀ j, D j → J a j = cur I j
theorem KS_step {a k : Nat} {D : Nat → Prop} {J : Nat → Nat → Int32} {v : Int32} (h : KS I a D J) (hk : k < 140) (e : v = cur I k) : KS I a (fun j => D j ∨ j = k) (u2 J a k v) := by
  refine ⟨fun b j hb => ?_, fun j hj => ?_⟩
  · rw [u2_ne _ _ (by omega)]
    exact h.1 b j hb
  · by_cases q : j = k
    · rw [q, u2_same]; exact e
    · rw [u2_n2 _ _ q]
      exact h.2 j (hj.resolve_right q)
theorem KS_mono {a : Nat} {D D' : Nat → Prop} {J : Nat → Nat → Int32} (h : KS I a D J) (q : ∀ j, D' j → D j) : KS I a D' J := ⟨h.1, fun j hj => h.2 j (q j hj)⟩
theorem sp_keep (d : Nat) {a n : Nat} (ha : zsh a = (12, n)) (ha2 : 290 ≤ a) (hn : 140 ≤ n) (hn2 : n < 2 ^ 31) (K : (Nat → Nat → Int32) → (Nat → Nat → Int64) → (Nat → Nat → Option Nat) → Prop) (hK : ∀ J, KS I a (fun j => j < 140) J → K J L M) : zCV C Y_X11_keep (d + 1) [.ref 265, .ref a] (zmk I L M) K := by
  refine t_X11_keep d ha _ ?_
  have p236 : ∀ J, KS I a (fun j => (j < 118) ∨ (118 ≤ j ∧ j < 118 + 0) ∨ (126 ≤ j ∧ j < 126 + 0)) J → zSV C (zmk I L M) K Y_X11_keep (d + 1) 236 [(0, .ref 265), (1, .ref a), (2, .int (nI 0))] [] J L M := fun J hJ => by
    refine count_st (P := fun (y : Nat) (J : Nat → Nat → Int32) => zSV C (zmk I L M) K Y_X11_keep (d + 1) 236 [(0, .ref 265), (1, .ref a), (2, .int (nI y))] [] J L M) (J := fun y J => KS I a (fun j => (j < 118) ∨ (118 ≤ j ∧ j < 118 + y) ∨ (126 ≤ j ∧ j < 126 + y)) J) 8 ?_ ?_ 0 J (by omega) hJ
    · intro J h
      refine t_X11_keep_236 d ha _ _ (br_t (by decide) ?_)
      have i0 : ∀ k, k < 140 → vp_in (nI k) n := fun k hk => vp_in_nI (by omega) hn2
      refine ⟨i0 134 (by omega), i0 135 (by omega), i0 136 (by omega), i0 137 (by omega), i0 138 (by omega), i0 139 (by omega), ?_⟩
      simp (disch := omega) only [u2_same, u2_n1, u2_n2, not_true_eq_false, not_false_eq_true, false_implies, true_implies, forall_const, true_and, and_true, and_self, implies_true]
      have hf : ∀ j, J 265 j = I 265 j := fun j => h.1 265 j (Or.inl (by omega))
      simp only [hf]
      exact hK _ (KS_mono (KS_step (KS_step (KS_step (KS_step (KS_step (KS_step h (k := 134) (by omega) rfl) (k := 135) (by omega) rfl) (k := 136) (by omega) rfl) (k := 137) (by omega) rfl) (k := 138) (by omega) rfl) (k := 139) (by omega) rfl) fun j hj => by omega)
    · intro y J hy h ih
      refine t_X11_keep_236 d ha _ _ (br_f (fun z => by have := (nI_le_iff (a := 8) (b := y) (by omega) (by omega)).mp z; omega) ?_)
      simp (disch := omega) only [u2_same, u2_n1, u2_n2, not_true_eq_false, not_false_eq_true, false_implies, true_implies, forall_const, true_and, and_true, and_self, implies_true, nI_clamp (show y < 2 ^ 31 by omega), vp_in_nI hy (by omega : 8 < 2 ^ 31), nI_1, show (118 : Int32) + nI y = nI (118 + y) from nI_add 118 y, show (126 : Int32) + nI y = nI (126 + y) from nI_add 126 y, nI_clamp (show 118 + y < 2 ^ 31 by omega), nI_clamp (show 126 + y < 2 ^ 31 by omega), vp_in_nI (show 118 + y < n by omega) hn2, vp_in_nI (show 126 + y < n by omega) hn2]
      have hf : ∀ b j, b < 290 → J b j = I b j := fun b j hb => h.1 b j (Or.inl (by omega))
      simp (disch := omega) only [hf]
      exact ih _ (KS_mono ((KS_step (KS_step h (k := 118 + y) (by omega) (cur_at ((l_b y hy).1) (by omega)).symm) (k := 126 + y) (by omega) (cur_at ((l_b y hy).2) (by omega)).symm)) fun j hj => by omega)
  have p198 : ∀ J, KS I a (fun j => (j < 98) ∨ (98 ≤ j ∧ j < 98 + 0) ∨ (108 ≤ j ∧ j < 108 + 0)) J → zSV C (zmk I L M) K Y_X11_keep (d + 1) 198 [(0, .ref 265), (1, .ref a), (2, .int (nI 0))] [] J L M := fun J hJ => by
    refine count_st (P := fun (y : Nat) (J : Nat → Nat → Int32) => zSV C (zmk I L M) K Y_X11_keep (d + 1) 198 [(0, .ref 265), (1, .ref a), (2, .int (nI y))] [] J L M) (J := fun y J => KS I a (fun j => (j < 98) ∨ (98 ≤ j ∧ j < 98 + y) ∨ (108 ≤ j ∧ j < 108 + y)) J) 10 ?_ ?_ 0 J (by omega) hJ
    · intro J h
      refine t_X11_keep_198 d ha _ _ (br_t (by decide) ?_)
      exact p236 J (KS_mono h fun j hj => by omega)
    · intro y J hy h ih
      refine t_X11_keep_198 d ha _ _ (br_f (fun z => by have := (nI_le_iff (a := 10) (b := y) (by omega) (by omega)).mp z; omega) ?_)
      simp (disch := omega) only [u2_same, u2_n1, u2_n2, not_true_eq_false, not_false_eq_true, false_implies, true_implies, forall_const, true_and, and_true, and_self, implies_true, nI_clamp (show y < 2 ^ 31 by omega), vp_in_nI hy (by omega : 10 < 2 ^ 31), nI_1, show (98 : Int32) + nI y = nI (98 + y) from nI_add 98 y, show (108 : Int32) + nI y = nI (108 + y) from nI_add 108 y, nI_clamp (show 98 + y < 2 ^ 31 by omega), nI_clamp (show 108 + y < 2 ^ 31 by omega), vp_in_nI (show 98 + y < n by omega) hn2, vp_in_nI (show 108 + y < n by omega) hn2]
      have hf : ∀ b j, b < 290 → J b j = I b j := fun b j hb => h.1 b j (Or.inl (by omega))
      simp (disch := omega) only [hf]
      exact ih _ (KS_mono ((KS_step (KS_step h (k := 98 + y) (by omega) (cur_at ((l_g y hy).1) (by omega)).symm) (k := 108 + y) (by omega) (cur_at ((l_g y hy).2) (by omega)).symm)) fun j hj => by omega)
  have p137 : ∀ J, KS I a (fun j => (j < 78) ∨ (78 ≤ j ∧ j < 78 + 0) ∨ (83 ≤ j ∧ j < 83 + 0) ∨ (88 ≤ j ∧ j < 88 + 0) ∨ (93 ≤ j ∧ j < 93 + 0)) J → zSV C (zmk I L M) K Y_X11_keep (d + 1) 137 [(0, .ref 265), (1, .ref a), (2, .int (nI 0))] [] J L M := fun J hJ => by
    refine count_st (P := fun (y : Nat) (J : Nat → Nat → Int32) => zSV C (zmk I L M) K Y_X11_keep (d + 1) 137 [(0, .ref 265), (1, .ref a), (2, .int (nI y))] [] J L M) (J := fun y J => KS I a (fun j => (j < 78) ∨ (78 ≤ j ∧ j < 78 + y) ∨ (83 ≤ j ∧ j < 83 + y) ∨ (88 ≤ j ∧ j < 88 + y) ∨ (93 ≤ j ∧ j < 93 + y)) J) 5 ?_ ?_ 0 J (by omega) hJ
    · intro J h
      refine t_X11_keep_137 d ha _ _ (br_t (by decide) ?_)
      exact p198 J (KS_mono h fun j hj => by omega)
    · intro y J hy h ih
      refine t_X11_keep_137 d ha _ _ (br_f (fun z => by have := (nI_le_iff (a := 5) (b := y) (by omega) (by omega)).mp z; omega) ?_)
      simp (disch := omega) only [u2_same, u2_n1, u2_n2, not_true_eq_false, not_false_eq_true, false_implies, true_implies, forall_const, true_and, and_true, and_self, implies_true, nI_clamp (show y < 2 ^ 31 by omega), vp_in_nI hy (by omega : 5 < 2 ^ 31), nI_1, show (78 : Int32) + nI y = nI (78 + y) from nI_add 78 y, show (83 : Int32) + nI y = nI (83 + y) from nI_add 83 y, show (88 : Int32) + nI y = nI (88 + y) from nI_add 88 y, show (93 : Int32) + nI y = nI (93 + y) from nI_add 93 y, nI_clamp (show 78 + y < 2 ^ 31 by omega), nI_clamp (show 83 + y < 2 ^ 31 by omega), nI_clamp (show 88 + y < 2 ^ 31 by omega), nI_clamp (show 93 + y < 2 ^ 31 by omega), vp_in_nI (show 78 + y < n by omega) hn2, vp_in_nI (show 83 + y < n by omega) hn2, vp_in_nI (show 88 + y < n by omega) hn2, vp_in_nI (show 93 + y < n by omega) hn2]
      have hf : ∀ b j, b < 290 → J b j = I b j := fun b j hb => h.1 b j (Or.inl (by omega))
      simp (disch := omega) only [hf]
      exact ih _ (KS_mono ((KS_step (KS_step (KS_step (KS_step h (k := 78 + y) (by omega) (cur_at ((l_s y hy).1) (by omega)).symm) (k := 83 + y) (by omega) (cur_at ((l_s y hy).2.1) (by omega)).symm) (k := 88 + y) (by omega) (cur_at ((l_s y hy).2.2.1) (by omega)).symm) (k := 93 + y) (by omega) (cur_at ((l_s y hy).2.2.2) (by omega)).symm)) fun j hj => by omega)
  have p111 : ∀ J, KS I a (fun j => (j < 54) ∨ (54 ≤ j ∧ j < 54 + 0)) J → zSV C (zmk I L M) K Y_X11_keep (d + 1) 111 [(0, .ref 265), (1, .ref a), (2, .int (nI 0))] [] J L M := fun J hJ => by
    refine count_st (P := fun (y : Nat) (J : Nat → Nat → Int32) => zSV C (zmk I L M) K Y_X11_keep (d + 1) 111 [(0, .ref 265), (1, .ref a), (2, .int (nI y))] [] J L M) (J := fun y J => KS I a (fun j => (j < 54) ∨ (54 ≤ j ∧ j < 54 + y)) J) 24 ?_ ?_ 0 J (by omega) hJ
    · intro J h
      refine t_X11_keep_111 d ha _ _ (br_t (by decide) ?_)
      exact p137 J (KS_mono h fun j hj => by omega)
    · intro y J hy h ih
      refine t_X11_keep_111 d ha _ _ (br_f (fun z => by have := (nI_le_iff (a := 24) (b := y) (by omega) (by omega)).mp z; omega) ?_)
      simp (disch := omega) only [u2_same, u2_n1, u2_n2, not_true_eq_false, not_false_eq_true, false_implies, true_implies, forall_const, true_and, and_true, and_self, implies_true, nI_clamp (show y < 2 ^ 31 by omega), vp_in_nI hy (by omega : 24 < 2 ^ 31), nI_1, show (54 : Int32) + nI y = nI (54 + y) from nI_add 54 y, nI_clamp (show 54 + y < 2 ^ 31 by omega), vp_in_nI (show 54 + y < n by omega) hn2]
      have hf : ∀ b j, b < 290 → J b j = I b j := fun b j hb => h.1 b j (Or.inl (by omega))
      simp (disch := omega) only [hf]
      exact ih _ (KS_mono ((KS_step h (k := 54 + y) (by omega) (cur_at (l_r y hy) (by omega)).symm)) fun j hj => by omega)
  have p37 : ∀ J, KS I a (fun j => (j < 24) ∨ (24 ≤ j ∧ j < 24 + 0) ∨ (30 ≤ j ∧ j < 30 + 0) ∨ (36 ≤ j ∧ j < 36 + 0) ∨ (42 ≤ j ∧ j < 42 + 0) ∨ (48 ≤ j ∧ j < 48 + 0)) J → zSV C (zmk I L M) K Y_X11_keep (d + 1) 37 [(0, .ref 265), (1, .ref a), (2, .int (nI 0))] [] J L M := fun J hJ => by
    refine count_st (P := fun (y : Nat) (J : Nat → Nat → Int32) => zSV C (zmk I L M) K Y_X11_keep (d + 1) 37 [(0, .ref 265), (1, .ref a), (2, .int (nI y))] [] J L M) (J := fun y J => KS I a (fun j => (j < 24) ∨ (24 ≤ j ∧ j < 24 + y) ∨ (30 ≤ j ∧ j < 30 + y) ∨ (36 ≤ j ∧ j < 36 + y) ∨ (42 ≤ j ∧ j < 42 + y) ∨ (48 ≤ j ∧ j < 48 + y)) J) 6 ?_ ?_ 0 J (by omega) hJ
    · intro J h
      refine t_X11_keep_37 d ha _ _ (br_t (by decide) ?_)
      exact p111 J (KS_mono h fun j hj => by omega)
    · intro y J hy h ih
      refine t_X11_keep_37 d ha _ _ (br_f (fun z => by have := (nI_le_iff (a := 6) (b := y) (by omega) (by omega)).mp z; omega) ?_)
      simp (disch := omega) only [u2_same, u2_n1, u2_n2, not_true_eq_false, not_false_eq_true, false_implies, true_implies, forall_const, true_and, and_true, and_self, implies_true, nI_clamp (show y < 2 ^ 31 by omega), vp_in_nI hy (by omega : 6 < 2 ^ 31), nI_1, show (24 : Int32) + nI y = nI (24 + y) from nI_add 24 y, show (30 : Int32) + nI y = nI (30 + y) from nI_add 30 y, show (36 : Int32) + nI y = nI (36 + y) from nI_add 36 y, show (42 : Int32) + nI y = nI (42 + y) from nI_add 42 y, show (48 : Int32) + nI y = nI (48 + y) from nI_add 48 y, nI_clamp (show 24 + y < 2 ^ 31 by omega), nI_clamp (show 30 + y < 2 ^ 31 by omega), nI_clamp (show 36 + y < 2 ^ 31 by omega), nI_clamp (show 42 + y < 2 ^ 31 by omega), nI_clamp (show 48 + y < 2 ^ 31 by omega), vp_in_nI (show 24 + y < n by omega) hn2, vp_in_nI (show 30 + y < n by omega) hn2, vp_in_nI (show 36 + y < n by omega) hn2, vp_in_nI (show 42 + y < n by omega) hn2, vp_in_nI (show 48 + y < n by omega) hn2]
      have hf : ∀ b j, b < 290 → J b j = I b j := fun b j hb => h.1 b j (Or.inl (by omega))
      simp (disch := omega) only [hf]
      exact ih _ (KS_mono ((KS_step (KS_step (KS_step (KS_step (KS_step h (k := 24 + y) (by omega) (cur_at (l_k y hy) (by omega)).symm) (k := 30 + y) (by omega) (cur_at (l_v y hy) (by omega)).symm) (k := 36 + y) (by omega) (cur_at (l_m y hy) (by omega)).symm) (k := 42 + y) (by omega) (cur_at (l_l y hy) (by omega)).symm) (k := 48 + y) (by omega) (cur_at (l_i y hy) (by omega)).symm)) fun j hj => by omega)
  have p2 : ∀ J, KS I a (fun j => (j < 0) ∨ (12 ≤ j ∧ j < 12 + 0)) J → zSV C (zmk I L M) K Y_X11_keep (d + 1) 2 [(0, .ref 265), (1, .ref a), (2, .int (nI 0))] [] J L M := fun J hJ => by
    refine count_st (P := fun (y : Nat) (J : Nat → Nat → Int32) => zSV C (zmk I L M) K Y_X11_keep (d + 1) 2 [(0, .ref 265), (1, .ref a), (2, .int (nI y))] [] J L M) (J := fun y J => KS I a (fun j => (j < y) ∨ (12 ≤ j ∧ j < 12 + y)) J) 12 ?_ ?_ 0 J (by omega) hJ
    · intro J h
      refine t_X11_keep_2 d ha _ _ (br_t (by decide) ?_)
      exact p37 J (KS_mono h fun j hj => by omega)
    · intro y J hy h ih
      refine t_X11_keep_2 d ha _ _ (br_f (fun z => by have := (nI_le_iff (a := 12) (b := y) (by omega) (by omega)).mp z; omega) ?_)
      simp (disch := omega) only [u2_same, u2_n1, u2_n2, not_true_eq_false, not_false_eq_true, false_implies, true_implies, forall_const, true_and, and_true, and_self, implies_true, nI_clamp (show y < 2 ^ 31 by omega), vp_in_nI hy (by omega : 12 < 2 ^ 31), nI_1, show (12 : Int32) + nI y = nI (12 + y) from nI_add 12 y, nI_clamp (show 12 + y < 2 ^ 31 by omega), vp_in_nI (show 12 + y < n by omega) hn2, vp_in_nI (show y < n by omega) hn2]
      have hf : ∀ b j, b < 290 → J b j = I b j := fun b j hb => h.1 b j (Or.inl (by omega))
      simp (disch := omega) only [hf]
      exact ih _ (KS_mono ((KS_step (KS_step h (k := y) (by omega) (cur_at (l_w y hy) (by omega)).symm) (k := 12 + y) (by omega) (cur_at (l_c y hy) (by omega)).symm)) fun j hj => by omega)
  exact p2 I ⟨fun _ _ _ => rfl, fun j hj => by omega⟩
/-- back: every place of the view is the array's -/
def AF (b j : Nat) : Prop := b < 265 ∨ 290 ≤ b ∨ (274 ≤ b ∧ b ≤ 281) ∨ (b = 265 ∧ ¬ (j = 2 ∨ j = 9 ∨ j = 26 ∨ j = 31 ∨ j = 34 ∨ j = 17))
def AS (I : Nat → Nat → Int32) (a : Nat) (D : Nat → Prop) (J : Nat → Nat → Int32) : Prop := (∀ b j, AF b j → J b j = I b j) ∧ ∀ k, D k → k < 140 → cur J k = I a k
theorem AS_step {a k b i : Nat} {D : Nat → Prop} {J : Nat → Nat → Int32} {v : Int32} (h : AS I a D J) (hk : k < 140) (e : loc k = (b, i)) (hv : v = I a k) : AS I a (fun j => D j ∨ j = k) (u2 J b i v) := by
  refine ⟨fun c j hc => ?_, fun j hj h140 => ?_⟩
  · have hl := loc_rng k hk
    rw [e] at hl
    rw [u2_ne _ _ (by
      by_cases q : c = b
      · right
        unfold AF at hc
        intro q2
        have := hl.2.2.2
        simp only at this hl
        subst q
        subst q2
        omega
      · exact Or.inl q)]
    exact h.1 c j hc
  · rw [cur_in' _ e hk]
    by_cases q : j = k
    · rw [q, up_s]; exact hv
    · rw [up_n _ _ q]
      exact h.2 j (hj.resolve_right q) h140
theorem AS_mono {a : Nat} {D D' : Nat → Prop} {J : Nat → Nat → Int32} (h : AS I a D J) (q : ∀ j, D' j → D j) : AS I a D' J := ⟨h.1, fun j hj => h.2 j (q j hj)⟩
theorem sp_again (d : Nat) {a n : Nat} (ha : zsh a = (12, n)) (ha2 : 290 ≤ a) (hn : 140 ≤ n) (hn2 : n < 2 ^ 31) (K : (Nat → Nat → Int32) → (Nat → Nat → Int64) → (Nat → Nat → Option Nat) → Prop) (hK : ∀ J, AS I a (fun j => j < 140) J → K J L M) : zCV C Y_X11_again (d + 1) [.ref 265, .ref a] (zmk I L M) K := by
  refine t_X11_again d ha _ ?_
  have p236 : ∀ J, AS I a (fun j => (j < 118) ∨ (118 ≤ j ∧ j < 118 + 0) ∨ (126 ≤ j ∧ j < 126 + 0)) J → zSV C (zmk I L M) K Y_X11_again (d + 1) 236 [(0, .ref 265), (1, .ref a), (2, .int (nI 0))] [] J L M := fun J hJ => by
    refine count_st (P := fun (y : Nat) (J : Nat → Nat → Int32) => zSV C (zmk I L M) K Y_X11_again (d + 1) 236 [(0, .ref 265), (1, .ref a), (2, .int (nI y))] [] J L M) (J := fun y J => AS I a (fun j => (j < 118) ∨ (118 ≤ j ∧ j < 118 + y) ∨ (126 ≤ j ∧ j < 126 + y)) J) 8 ?_ ?_ 0 J (by omega) hJ
    · intro J h
      refine t_X11_again_236 d ha _ _ (br_t (by decide) ?_)
      have i0 : ∀ k, k < 140 → vp_in (nI k) n := fun k hk => vp_in_nI (by omega) hn2
      refine ⟨i0 134 (by omega), i0 135 (by omega), i0 136 (by omega), i0 137 (by omega), i0 138 (by omega), i0 139 (by omega), ?_⟩
      simp (disch := omega) only [u2_same, u2_n1, u2_n2, not_true_eq_false, not_false_eq_true, false_implies, true_implies, forall_const, true_and, and_true, and_self, implies_true]
      have hf : ∀ j, J a j = I a j := fun j => h.1 a j (by unfold AF; omega)
      simp only [hf]
      exact hK _ (AS_mono (AS_step (AS_step (AS_step (AS_step (AS_step (AS_step h (k := 134) (by omega) rfl rfl) (k := 135) (by omega) rfl rfl) (k := 136) (by omega) rfl rfl) (k := 137) (by omega) rfl rfl) (k := 138) (by omega) rfl rfl) (k := 139) (by omega) rfl rfl) fun j hj => by omega)
    · intro y J hy h ih
      refine t_X11_again_236 d ha _ _ (br_f (fun z => by have := (nI_le_iff (a := 8) (b := y) (by omega) (by omega)).mp z; omega) ?_)
      simp (disch := omega) only [u2_same, u2_n1, u2_n2, not_true_eq_false, not_false_eq_true, false_implies, true_implies, forall_const, true_and, and_true, and_self, implies_true, nI_clamp (show y < 2 ^ 31 by omega), vp_in_nI hy (by omega : 8 < 2 ^ 31), nI_1, show (118 : Int32) + nI y = nI (118 + y) from nI_add 118 y, show (126 : Int32) + nI y = nI (126 + y) from nI_add 126 y, nI_clamp (show 118 + y < 2 ^ 31 by omega), nI_clamp (show 126 + y < 2 ^ 31 by omega), vp_in_nI (show 118 + y < n by omega) hn2, vp_in_nI (show 126 + y < n by omega) hn2]
      have hf : ∀ j, J a j = I a j := fun j => h.1 a j (by unfold AF; omega)
      simp only [hf]
      exact ih _ (AS_mono ((AS_step (AS_step h (k := 118 + y) (by omega) ((l_b y hy).1) rfl) (k := 126 + y) (by omega) ((l_b y hy).2) rfl)) fun j hj => by omega)
  have p198 : ∀ J, AS I a (fun j => (j < 98) ∨ (98 ≤ j ∧ j < 98 + 0) ∨ (108 ≤ j ∧ j < 108 + 0)) J → zSV C (zmk I L M) K Y_X11_again (d + 1) 198 [(0, .ref 265), (1, .ref a), (2, .int (nI 0))] [] J L M := fun J hJ => by
    refine count_st (P := fun (y : Nat) (J : Nat → Nat → Int32) => zSV C (zmk I L M) K Y_X11_again (d + 1) 198 [(0, .ref 265), (1, .ref a), (2, .int (nI y))] [] J L M) (J := fun y J => AS I a (fun j => (j < 98) ∨ (98 ≤ j ∧ j < 98 + y) ∨ (108 ≤ j ∧ j < 108 + y)) J) 10 ?_ ?_ 0 J (by omega) hJ
    · intro J h
      refine t_X11_again_198 d ha _ _ (br_t (by decide) ?_)
      exact p236 J (AS_mono h fun j hj => by omega)
    · intro y J hy h ih
      refine t_X11_again_198 d ha _ _ (br_f (fun z => by have := (nI_le_iff (a := 10) (b := y) (by omega) (by omega)).mp z; omega) ?_)
      simp (disch := omega) only [u2_same, u2_n1, u2_n2, not_true_eq_false, not_false_eq_true, false_implies, true_implies, forall_const, true_and, and_true, and_self, implies_true, nI_clamp (show y < 2 ^ 31 by omega), vp_in_nI hy (by omega : 10 < 2 ^ 31), nI_1, show (98 : Int32) + nI y = nI (98 + y) from nI_add 98 y, show (108 : Int32) + nI y = nI (108 + y) from nI_add 108 y, nI_clamp (show 98 + y < 2 ^ 31 by omega), nI_clamp (show 108 + y < 2 ^ 31 by omega), vp_in_nI (show 98 + y < n by omega) hn2, vp_in_nI (show 108 + y < n by omega) hn2]
      have hf : ∀ j, J a j = I a j := fun j => h.1 a j (by unfold AF; omega)
      simp only [hf]
      exact ih _ (AS_mono ((AS_step (AS_step h (k := 98 + y) (by omega) ((l_g y hy).1) rfl) (k := 108 + y) (by omega) ((l_g y hy).2) rfl)) fun j hj => by omega)
  have p137 : ∀ J, AS I a (fun j => (j < 78) ∨ (78 ≤ j ∧ j < 78 + 0) ∨ (83 ≤ j ∧ j < 83 + 0) ∨ (88 ≤ j ∧ j < 88 + 0) ∨ (93 ≤ j ∧ j < 93 + 0)) J → zSV C (zmk I L M) K Y_X11_again (d + 1) 137 [(0, .ref 265), (1, .ref a), (2, .int (nI 0))] [] J L M := fun J hJ => by
    refine count_st (P := fun (y : Nat) (J : Nat → Nat → Int32) => zSV C (zmk I L M) K Y_X11_again (d + 1) 137 [(0, .ref 265), (1, .ref a), (2, .int (nI y))] [] J L M) (J := fun y J => AS I a (fun j => (j < 78) ∨ (78 ≤ j ∧ j < 78 + y) ∨ (83 ≤ j ∧ j < 83 + y) ∨ (88 ≤ j ∧ j < 88 + y) ∨ (93 ≤ j ∧ j < 93 + y)) J) 5 ?_ ?_ 0 J (by omega) hJ
    · intro J h
      refine t_X11_again_137 d ha _ _ (br_t (by decide) ?_)
      exact p198 J (AS_mono h fun j hj => by omega)
    · intro y J hy h ih
      refine t_X11_again_137 d ha _ _ (br_f (fun z => by have := (nI_le_iff (a := 5) (b := y) (by omega) (by omega)).mp z; omega) ?_)
      simp (disch := omega) only [u2_same, u2_n1, u2_n2, not_true_eq_false, not_false_eq_true, false_implies, true_implies, forall_const, true_and, and_true, and_self, implies_true, nI_clamp (show y < 2 ^ 31 by omega), vp_in_nI hy (by omega : 5 < 2 ^ 31), nI_1, show (78 : Int32) + nI y = nI (78 + y) from nI_add 78 y, show (83 : Int32) + nI y = nI (83 + y) from nI_add 83 y, show (88 : Int32) + nI y = nI (88 + y) from nI_add 88 y, show (93 : Int32) + nI y = nI (93 + y) from nI_add 93 y, nI_clamp (show 78 + y < 2 ^ 31 by omega), nI_clamp (show 83 + y < 2 ^ 31 by omega), nI_clamp (show 88 + y < 2 ^ 31 by omega), nI_clamp (show 93 + y < 2 ^ 31 by omega), vp_in_nI (show 78 + y < n by omega) hn2, vp_in_nI (show 83 + y < n by omega) hn2, vp_in_nI (show 88 + y < n by omega) hn2, vp_in_nI (show 93 + y < n by omega) hn2]
      have hf : ∀ j, J a j = I a j := fun j => h.1 a j (by unfold AF; omega)
      simp only [hf]
      exact ih _ (AS_mono ((AS_step (AS_step (AS_step (AS_step h (k := 78 + y) (by omega) ((l_s y hy).1) rfl) (k := 83 + y) (by omega) ((l_s y hy).2.1) rfl) (k := 88 + y) (by omega) ((l_s y hy).2.2.1) rfl) (k := 93 + y) (by omega) ((l_s y hy).2.2.2) rfl)) fun j hj => by omega)
  have p111 : ∀ J, AS I a (fun j => (j < 54) ∨ (54 ≤ j ∧ j < 54 + 0)) J → zSV C (zmk I L M) K Y_X11_again (d + 1) 111 [(0, .ref 265), (1, .ref a), (2, .int (nI 0))] [] J L M := fun J hJ => by
    refine count_st (P := fun (y : Nat) (J : Nat → Nat → Int32) => zSV C (zmk I L M) K Y_X11_again (d + 1) 111 [(0, .ref 265), (1, .ref a), (2, .int (nI y))] [] J L M) (J := fun y J => AS I a (fun j => (j < 54) ∨ (54 ≤ j ∧ j < 54 + y)) J) 24 ?_ ?_ 0 J (by omega) hJ
    · intro J h
      refine t_X11_again_111 d ha _ _ (br_t (by decide) ?_)
      exact p137 J (AS_mono h fun j hj => by omega)
    · intro y J hy h ih
      refine t_X11_again_111 d ha _ _ (br_f (fun z => by have := (nI_le_iff (a := 24) (b := y) (by omega) (by omega)).mp z; omega) ?_)
      simp (disch := omega) only [u2_same, u2_n1, u2_n2, not_true_eq_false, not_false_eq_true, false_implies, true_implies, forall_const, true_and, and_true, and_self, implies_true, nI_clamp (show y < 2 ^ 31 by omega), vp_in_nI hy (by omega : 24 < 2 ^ 31), nI_1, show (54 : Int32) + nI y = nI (54 + y) from nI_add 54 y, nI_clamp (show 54 + y < 2 ^ 31 by omega), vp_in_nI (show 54 + y < n by omega) hn2]
      have hf : ∀ j, J a j = I a j := fun j => h.1 a j (by unfold AF; omega)
      simp only [hf]
      exact ih _ (AS_mono ((AS_step h (k := 54 + y) (by omega) (l_r y hy) rfl)) fun j hj => by omega)
  have p37 : ∀ J, AS I a (fun j => (j < 24) ∨ (24 ≤ j ∧ j < 24 + 0) ∨ (30 ≤ j ∧ j < 30 + 0) ∨ (36 ≤ j ∧ j < 36 + 0) ∨ (42 ≤ j ∧ j < 42 + 0) ∨ (48 ≤ j ∧ j < 48 + 0)) J → zSV C (zmk I L M) K Y_X11_again (d + 1) 37 [(0, .ref 265), (1, .ref a), (2, .int (nI 0))] [] J L M := fun J hJ => by
    refine count_st (P := fun (y : Nat) (J : Nat → Nat → Int32) => zSV C (zmk I L M) K Y_X11_again (d + 1) 37 [(0, .ref 265), (1, .ref a), (2, .int (nI y))] [] J L M) (J := fun y J => AS I a (fun j => (j < 24) ∨ (24 ≤ j ∧ j < 24 + y) ∨ (30 ≤ j ∧ j < 30 + y) ∨ (36 ≤ j ∧ j < 36 + y) ∨ (42 ≤ j ∧ j < 42 + y) ∨ (48 ≤ j ∧ j < 48 + y)) J) 6 ?_ ?_ 0 J (by omega) hJ
    · intro J h
      refine t_X11_again_37 d ha _ _ (br_t (by decide) ?_)
      exact p111 J (AS_mono h fun j hj => by omega)
    · intro y J hy h ih
      refine t_X11_again_37 d ha _ _ (br_f (fun z => by have := (nI_le_iff (a := 6) (b := y) (by omega) (by omega)).mp z; omega) ?_)
      simp (disch := omega) only [u2_same, u2_n1, u2_n2, not_true_eq_false, not_false_eq_true, false_implies, true_implies, forall_const, true_and, and_true, and_self, implies_true, nI_clamp (show y < 2 ^ 31 by omega), vp_in_nI hy (by omega : 6 < 2 ^ 31), nI_1, show (24 : Int32) + nI y = nI (24 + y) from nI_add 24 y, show (30 : Int32) + nI y = nI (30 + y) from nI_add 30 y, show (36 : Int32) + nI y = nI (36 + y) from nI_add 36 y, show (42 : Int32) + nI y = nI (42 + y) from nI_add 42 y, show (48 : Int32) + nI y = nI (48 + y) from nI_add 48 y, nI_clamp (show 24 + y < 2 ^ 31 by omega), nI_clamp (show 30 + y < 2 ^ 31 by omega), nI_clamp (show 36 + y < 2 ^ 31 by omega), nI_clamp (show 42 + y < 2 ^ 31 by omega), nI_clamp (show 48 + y < 2 ^ 31 by omega), vp_in_nI (show 24 + y < n by omega) hn2, vp_in_nI (show 30 + y < n by omega) hn2, vp_in_nI (show 36 + y < n by omega) hn2, vp_in_nI (show 42 + y < n by omega) hn2, vp_in_nI (show 48 + y < n by omega) hn2]
      have hf : ∀ j, J a j = I a j := fun j => h.1 a j (by unfold AF; omega)
      simp only [hf]
      exact ih _ (AS_mono ((AS_step (AS_step (AS_step (AS_step (AS_step h (k := 24 + y) (by omega) (l_k y hy) rfl) (k := 30 + y) (by omega) (l_v y hy) rfl) (k := 36 + y) (by omega) (l_m y hy) rfl) (k := 42 + y) (by omega) (l_l y hy) rfl) (k := 48 + y) (by omega) (l_i y hy) rfl)) fun j hj => by omega)
  have p2 : ∀ J, AS I a (fun j => (j < 0) ∨ (12 ≤ j ∧ j < 12 + 0)) J → zSV C (zmk I L M) K Y_X11_again (d + 1) 2 [(0, .ref 265), (1, .ref a), (2, .int (nI 0))] [] J L M := fun J hJ => by
    refine count_st (P := fun (y : Nat) (J : Nat → Nat → Int32) => zSV C (zmk I L M) K Y_X11_again (d + 1) 2 [(0, .ref 265), (1, .ref a), (2, .int (nI y))] [] J L M) (J := fun y J => AS I a (fun j => (j < y) ∨ (12 ≤ j ∧ j < 12 + y)) J) 12 ?_ ?_ 0 J (by omega) hJ
    · intro J h
      refine t_X11_again_2 d ha _ _ (br_t (by decide) ?_)
      exact p37 J (AS_mono h fun j hj => by omega)
    · intro y J hy h ih
      refine t_X11_again_2 d ha _ _ (br_f (fun z => by have := (nI_le_iff (a := 12) (b := y) (by omega) (by omega)).mp z; omega) ?_)
      simp (disch := omega) only [u2_same, u2_n1, u2_n2, not_true_eq_false, not_false_eq_true, false_implies, true_implies, forall_const, true_and, and_true, and_self, implies_true, nI_clamp (show y < 2 ^ 31 by omega), vp_in_nI hy (by omega : 12 < 2 ^ 31), nI_1, show (12 : Int32) + nI y = nI (12 + y) from nI_add 12 y, nI_clamp (show 12 + y < 2 ^ 31 by omega), vp_in_nI (show 12 + y < n by omega) hn2, vp_in_nI (show y < n by omega) hn2]
      have hf : ∀ j, J a j = I a j := fun j => h.1 a j (by unfold AF; omega)
      simp only [hf]
      exact ih _ (AS_mono ((AS_step (AS_step h (k := y) (by omega) (l_w y hy) rfl) (k := 12 + y) (by omega) (l_c y hy) rfl)) fun j hj => by omega)
  exact p2 I ⟨fun _ _ _ => rfl, fun j hj => by omega⟩
end SM
