/-! SHIFT -/
section SM
variable {C : zC} {I I' : Nat → Nat → Int32} {L L' : Nat → Nat → Int64} {M : Nat → Nat → Option Nat}
/-- the model's way: one by one, up or down -/
theorem sh_up (d : Nat) {K : Int32 → (Nat → Nat → Int32) → (Nat → Nat → Int64) → (Nat → Nat → Option Nat) → Prop} {h0 : zH} {t t' i j n : Nat} (ht : t < 6) (ht' : t' < 6) (hi : i + n ≤ 60) (hj : j + n ≤ 60) (hn : t ≠ t' ∨ j ≤ i) (hK : K (nI n) I (zspan L 296 (60 * t' + j) n (fun k => L 296 (60 * t + i + k))) M) : zSI C h0 K Y_X11_shift (d + 12) 170 [(0, .ref 265), (1, .int (nI t)), (2, .int (nI i)), (3, .int (nI t')), (4, .int (nI j)), (5, .int (nI n)), (6, .int (nI 0))] [] I L M := by
  have key := count_up (P := fun k => zSI C h0 K Y_X11_shift (d + 12) 170 [(0, .ref 265), (1, .int (nI t)), (2, .int (nI i)), (3, .int (nI t')), (4, .int (nI j)), (5, .int (nI n)), (6, .int (nI k))] [] I (zspan L 296 (60 * t' + j) k (fun k => L 296 (60 * t + i + k))) M) n
    (t_X11_shift_170 (d + 9) _ _ _ _ _ _ _ (br_t (Int32.le_refl _) hK))
    (fun k hk ih => t_X11_shift_170 (d + 9) _ _ _ _ _ _ _ (br_f (fun z => by have := (nI_le_iff (a := n) (b := k) (by omega) (by omega)).mp z; omega) (by
      have e : zspan L 296 (60 * t' + j) k (fun k => L 296 (60 * t + i + k)) 296 (60 * t + i + k) = L 296 (60 * t + i + k) := by
        rw [zspan_at, if_neg (by omega)]
      simp (disch := omega) only [u2_same, u2_n1, u2_n2, not_true_eq_false, not_false_eq_true, false_implies, true_implies, forall_const, true_and, and_true, and_self, implies_true, nI_60, nI_add, nI_1, nI_clamp (show 60 * t + i + k < 2 ^ 31 by omega), nI_clamp (show 60 * t' + j + k < 2 ^ 31 by omega), vp_in_nI (show 60 * t + i + k < 360 by omega) (by omega), vp_in_nI (show 60 * t' + j + k < 360 by omega) (by omega), e]
      have := zspan_s L 296 (60 * t' + j) k (fun k => L 296 (60 * t + i + k))
      rw [this]
      exact ih))) 0 (by omega)
  rw [zspan_0] at key
  exact key
def zdown {α : Type} (F : Nat → Nat → α) (a o lo n : Nat) (v : Nat → α) : Nat → Nat → α := fun b j => if b = a ∧ o + lo ≤ j ∧ j < o + n then v (j - o) else F b j
theorem sh_down (d : Nat) {K : Int32 → (Nat → Nat → Int32) → (Nat → Nat → Int64) → (Nat → Nat → Option Nat) → Prop} {h0 : zH} {t i j n : Nat} (ht : t < 6) (hi : i + n ≤ 60) (hj : j + n ≤ 60) (hn : i < j) (hK : K (nI n) I (zspan L 296 (60 * t + j) n (fun k => L 296 (60 * t + i + k))) M) : zSI C h0 K Y_X11_shift (d + 12) 124 [(0, .ref 265), (1, .int (nI t)), (2, .int (nI i)), (3, .int (nI t)), (4, .int (nI j)), (5, .int (nI n)), (6, .int (nI n - 1))] [] I L M := by
  have key : ∀ k, k ≤ n → zSI C h0 K Y_X11_shift (d + 12) 124 [(0, .ref 265), (1, .int (nI t)), (2, .int (nI i)), (3, .int (nI t)), (4, .int (nI j)), (5, .int (nI n)), (6, .int (nI k - 1))] [] I (zdown L 296 (60 * t + j) k n (fun k => L 296 (60 * t + i + k))) M := by
    intro k
    induction k with
    | zero =>
      intro _
      refine t_X11_shift_124 (d + 9) _ _ _ _ _ _ _ (br_t (by decide) ?_)
      have e : zdown L 296 (60 * t + j) 0 n (fun k => L 296 (60 * t + i + k)) = zspan L 296 (60 * t + j) n (fun k => L 296 (60 * t + i + k)) := rfl
      rw [e]
      exact hK
    | succ k ih =>
      intro hk
      rw [nI_sub1 (by omega), Nat.add_sub_cancel]
      refine t_X11_shift_124 (d + 9) _ _ _ _ _ _ _ (br_f (le_nlt (nI_pos' (by omega))) ?_)
      have e : zdown L 296 (60 * t + j) (k + 1) n (fun k => L 296 (60 * t + i + k)) 296 (60 * t + i + k) = L 296 (60 * t + i + k) := by
        unfold zdown
        rw [if_neg (by omega)]
      simp (disch := omega) only [u2_same, u2_n1, u2_n2, not_true_eq_false, not_false_eq_true, false_implies, true_implies, forall_const, true_and, and_true, and_self, implies_true, nI_60, nI_add, nI_clamp (show 60 * t + i + k < 2 ^ 31 by omega), nI_clamp (show 60 * t + j + k < 2 ^ 31 by omega), vp_in_nI (show 60 * t + i + k < 360 by omega) (by omega), vp_in_nI (show 60 * t + j + k < 360 by omega) (by omega), e]
      have e2 : u2 (zdown L 296 (60 * t + j) (k + 1) n (fun k => L 296 (60 * t + i + k))) 296 (60 * t + j + k) (L 296 (60 * t + i + k)) = zdown L 296 (60 * t + j) k n (fun k => L 296 (60 * t + i + k)) := by
        funext b m
        rw [u2_at]
        unfold zdown
        by_cases h : b = 296 ∧ m = 60 * t + j + k
        · obtain ⟨rfl, rfl⟩ := h
          rw [if_pos ⟨rfl, rfl⟩, if_pos (by omega)]
          congr 1
          omega
        · rw [if_neg h]
          by_cases h2 : b = 296 ∧ 60 * t + j + (k + 1) ≤ m ∧ m < 60 * t + j + n
          · rw [if_pos h2, if_pos (by omega)]
          · rw [if_neg h2, if_neg (by omega)]
      rw [e2]
      have e3 : nI k + (-1) = nI k - 1 := by rw [Int32.sub_eq_add_neg]; rfl
      rw [e3]
      exact ih (by omega)
  have := key n (by omega)
  have e : zdown L 296 (60 * t + j) n n (fun k => L 296 (60 * t + i + k)) = L := by
    funext b m
    unfold zdown
    rw [if_neg (by omega)]
  rw [e] at this
  exact this
theorem partI {len : Nat} (hl : len ≤ 60) (x y : Int32) : (0 ≤ x ∧ 0 ≤ y ∧ y ≤ nI len ∧ x ≤ nI len - y) ↔ ∃ i n, x = nI i ∧ y = nI n ∧ i + n ≤ len := by
  constructor
  · rintro ⟨a, b, c, e⟩
    obtain ⟨n, hn, rfl⟩ := rgle len (by omega) b c
    rw [nI_sub hn] at e
    obtain ⟨i, hi, rfl⟩ := rgle (len - n) (by omega) a e
    exact ⟨i, n, rfl, rfl, by omega⟩
  · rintro ⟨i, n, rfl, rfl, h⟩
    exact ⟨nI_pos' (by omega), nI_pos' (by omega), (nI_le_iff (by omega) (by omega)).mpr (by omega), by rw [nI_sub (by omega)]; exact (nI_le_iff (by omega) (by omega)).mpr (by omega)⟩
end SM
