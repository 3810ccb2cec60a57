/-! AN INN BECOMES ANOTHER -/
def CF (o b j : Nat) : Prop := b < o ∨ o + 45 ≤ b ∨ (j = 0 ∧ 33 ≤ b - o ∧ (b - o) % 2 = 1)
def CS (I : Nat → Nat → Int32) (o o1 : Nat) (D : Nat → Prop) (J : Nat → Nat → Int32) : Prop := (∀ b j, CF o b j → J b j = I b j) ∧ ∀ k, D k → k < 139 → cv J o k = cv I o1 k
section SM
variable {C : zC} {I I' : Nat → Nat → Int32} {L L' : Nat → Nat → Int64} {M : Nat → Nat → Option Nat}
theorem CS_mono {o o1 : Nat} {D D' : Nat → Prop} {J : Nat → Nat → Int32} (h : CS I o o1 D J) (q : ∀ k, D' k → k < 139 → D k) : CS I o o1 D' J := ⟨h.1, fun k hk h9 => h.2 k (q k hk h9) h9⟩
theorem CS_step {o o1 k b i : Nat} {D : Nat → Prop} {J : Nat → Nat → Int32} {v : Int32} (h : CS I o o1 D J) (hk : k < 139) (e : cloc o k = (b, i)) (hv : v = cv I o1 k) : CS I o o1 (fun j => D j ∨ j = k) (u2 J b i v) := by
  refine ⟨fun c j hc => ?_, fun j hj h9 => ?_⟩
  · have hl := c0_rng k hk
    have e1 : o + (c0 k).1 = b := (Prod.mk.inj e).1
    have e2 : (c0 k).2 = i := (Prod.mk.inj e).2
    rw [u2_ne _ _ (by unfold CF at hc; omega)]
    exact h.1 c j hc
  · rw [cv_in' _ e hk]
    by_cases q : j = k
    · rw [q, up_s]; exact hv
    · rw [up_n _ _ q]
      exact h.2 j (hj.resolve_right q) h9
theorem CS_blk {o o1 x n : Nat} {D : Nat → Prop} {J : Nat → Nat → Int32} (h : CS I o o1 D J) (hx : x < 45 ∧ (33 ≤ x → x % 2 = 0)) (hd : o + 45 ≤ o1 ∨ o1 + 45 ≤ o) : CS I o o1 (fun k => D k ∨ ((c0 k).1 = x ∧ (c0 k).2 < n)) (uR J (o + x) (va_cpy (J (o1 + x)) (J (o + x)) 0 0 n)) := by
  refine ⟨fun c j hc => ?_, fun k hk h9 => ?_⟩
  · unfold uR
    rw [if_neg (by unfold CF at hc; omega)]
    exact h.1 c j hc
  · have hk' : D k ∨ ((c0 k).1 = x ∧ (c0 k).2 < n) := hk
    unfold cv
    rw [if_pos h9, if_pos h9]
    show uR J (o + x) (va_cpy (J (o1 + x)) (J (o + x)) 0 0 n) (o + (c0 k).1) (c0 k).2 = I (o1 + (c0 k).1) (c0 k).2
    unfold uR va_cpy
    have hl := c0_rng k h9
    by_cases q : (c0 k).1 = x
    · rw [if_pos (by omega)]
      by_cases q2 : (c0 k).2 < n
      · rw [if_pos (by omega), Nat.zero_add, Nat.sub_zero, ← q]
        exact h.1 _ _ (by unfold CF; omega)
      · rw [if_neg (by omega)]
        have := h.2 k (hk'.resolve_right fun z => by omega) h9
        unfold cv at this
        rw [if_pos h9, if_pos h9] at this
        rw [← q]
        exact this
    · rw [if_neg (by omega)]
      have := h.2 k (hk'.resolve_right fun z => by omega) h9
      unfold cv at this
      rw [if_pos h9, if_pos h9] at this
      exact this
theorem c0_w : ∀ k, k < 12 → c0 k = (1, k) := by decide +kernel
theorem c0_c : ∀ k, 12 ≤ k → k < 24 → (c0 k).1 = 2 ∧ (c0 k).2 < 12 := by
  intro k h1 h2
  exact (by decide +kernel : ∀ k, k < 24 → 12 ≤ k → (c0 k).1 = 2 ∧ (c0 k).2 < 12) k h2 h1
theorem c0_r : ∀ k, k < 78 → 54 ≤ k → (c0 k).1 = 34 + 2 * ((k - 54) / 4) ∧ (c0 k).2 < 4 := by decide +kernel
theorem c0_rows : ∀ k, k < 134 → 78 ≤ k → (k < 98 → (c0 k).1 = 4 + 2 + (k - 78) % 5) ∧ (98 ≤ k → k < 118 → (c0 k).1 = 11 + 2 + (k - 98) % 10) ∧ (118 ≤ k → (c0 k).1 = 23 + 2 + (k - 118) % 8) ∧ (c0 k).2 < 4 := by decide +kernel
/-- a guest becomes the other Inn's guest -/
theorem sp_gb (d : Nat) {o o1 g : Nat} (ho : zInn o) (ho1 : zInn o1) (hd : o + 45 ≤ o1 ∨ o1 + 45 ≤ o) (hg : g < 6) {D : Nat → Prop} {J : Nat → Nat → Int32} (h : CS I o o1 D J) (hin : I (o1 + 33 + 2 * g) 5 = 0 ∨ I (o1 + 33 + 2 * g) 5 = 1) (K : (Nat → Nat → Int32) → (Nat → Nat → Int64) → (Nat → Nat → Option Nat) → Prop) (hK : ∀ J', CS I o o1 (fun k => D k ∨ (24 ≤ k ∧ k < 54 ∧ (k - 24) % 6 = g) ∨ (54 ≤ k ∧ k < 78 ∧ (k - 54) / 4 = g)) J' → K J' L M) : zCV C Y_X0_become (d + 1) [.ref (o + 33 + 2 * g), .ref (o1 + 33 + 2 * g)] (zmk J L M) K := by
  have hf : ∀ x j, x < 45 → J (o1 + x) j = I (o1 + x) j := fun x j hx => h.1 _ _ (by unfold CF; omega)
  have f1 : ∀ j, J (o1 + 33 + 2 * g) j = I (o1 + 33 + 2 * g) j := fun j => by rw [show o1 + 33 + 2 * g = o1 + (33 + 2 * g) by omega]; exact hf _ _ (by omega)
  refine t_X0_become d ((gI ho) g hg) ((gI ho1) g hg) _ ?_
  simp (disch := omega) only [u2_same, u2_n1, u2_n2, not_true_eq_false, not_false_eq_true, false_implies, true_implies, forall_const, true_and, and_true, and_self, implies_true, f1]
  refine ⟨hin, ?_⟩
  have h1 := CS_step h (k := 24 + g) (by omega) (c_k o hg) (v := I (o1 + 33 + 2 * g) 1) (cv_at (c_k o1 hg) (by omega)).symm
  have h2 := CS_step h1 (k := 30 + g) (by omega) (c_v o hg) (v := I (o1 + 33 + 2 * g) 2) (cv_at (c_v o1 hg) (by omega)).symm
  have h3 := CS_step h2 (k := 36 + g) (by omega) (c_m o hg) (v := I (o1 + 33 + 2 * g) 3) (cv_at (c_m o1 hg) (by omega)).symm
  have h4 := CS_step h3 (k := 42 + g) (by omega) (c_l o hg) (v := I (o1 + 33 + 2 * g) 4) (cv_at (c_l o1 hg) (by omega)).symm
  have h5 := CS_step h4 (k := 48 + g) (by omega) (c_i o hg) (v := I (o1 + 33 + 2 * g) 5) (cv_at (c_i o1 hg) (by omega)).symm
  have h6 := CS_blk h5 (x := 34 + 2 * g) (n := 4) (by omega) hd
  rw [show o + (34 + 2 * g) = o + 33 + 2 * g + 1 by omega, show o1 + (34 + 2 * g) = o1 + 33 + 2 * g + 1 by omega] at h6
  have e4 : ∀ j, u2 (u2 (u2 (u2 (u2 J (o + 33 + 2 * g) 1 (I (o1 + 33 + 2 * g) 1)) (o + 33 + 2 * g) 2 (I (o1 + 33 + 2 * g) 2)) (o + 33 + 2 * g) 3 (I (o1 + 33 + 2 * g) 3)) (o + 33 + 2 * g) 4 (I (o1 + 33 + 2 * g) 4)) (o + 33 + 2 * g) 5 (I (o1 + 33 + 2 * g) 5) (o1 + 33 + 2 * g + 1) j = J (o1 + 33 + 2 * g + 1) j := fun j => by simp (disch := omega) only [u2_same, u2_n1, u2_n2, not_true_eq_false, not_false_eq_true, false_implies, true_implies, forall_const, true_and, and_true, and_self, implies_true]
  refine hK _ (CS_mono h6 fun k hk h9 => ?_)
  have hk' : D k ∨ (24 ≤ k ∧ k < 54 ∧ (k - 24) % 6 = g) ∨ (54 ≤ k ∧ k < 78 ∧ (k - 54) / 4 = g) := hk
  rcases hk' with q | q | q
  · exact Or.inl (Or.inl (Or.inl (Or.inl (Or.inl (Or.inl q)))))
  · left
    by_cases e : k = 48 + g
    · exact Or.inr e
    left
    by_cases e : k = 42 + g
    · exact Or.inr e
    left
    by_cases e : k = 36 + g
    · exact Or.inr e
    left
    by_cases e : k = 30 + g
    · exact Or.inr e
    left
    right
    omega
  · right
    have := c0_r k (by omega) (by omega)
    omega
end SM
