/-! TAPES: become, shift, judge -/
theorem i64_lt {a b c : Nat} (ha : a < 2 ^ 31) (hb : b < 2 ^ 31) (hc : c < 2 ^ 31) : ((nI a).toInt64 + (nI b).toInt64 < (nI c).toInt64 ↔ a + b < c) ∧ ((nI a).toInt64 + (nI b).toInt64 ≤ (nI c).toInt64 ↔ a + b ≤ c) ∧ ((nI c).toInt64 < (nI a).toInt64 + (nI b).toInt64 ↔ c < a + b) := by
  have e : ((nI a).toInt64 + (nI b).toInt64).toInt = a + b := by
    rw [Int64.toInt_add, Int32.toInt_toInt64, Int32.toInt_toInt64, nI_toInt ha, nI_toInt hb]
    rw [Int.bmod_eq_of_le] <;> omega
  have e2 : ((nI c).toInt64).toInt = c := by rw [Int32.toInt_toInt64, nI_toInt hc]
  rw [Int64.lt_iff_toInt_lt, Int64.le_iff_toInt_le, Int64.lt_iff_toInt_lt, e, e2]
  omega
section SM
variable {C : zC} {I I' : Nat → Nat → Int32} {L L' : Nat → Nat → Int64} {M : Nat → Nat → Option Nat}
def zspan {α : Type} (F : Nat → Nat → α) (a o n : Nat) (v : Nat → α) : Nat → Nat → α := fun b j => if b = a ∧ o ≤ j ∧ j < o + n then v (j - o) else F b j
theorem zspan_0 {α : Type} (F : Nat → Nat → α) (a o : Nat) (v : Nat → α) : zspan F a o 0 v = F := by
  funext b j
  unfold zspan
  rw [if_neg (by omega)]
theorem zspan_s {α : Type} (F : Nat → Nat → α) (a o n : Nat) (v : Nat → α) : u2 (zspan F a o n v) a (o + n) (v n) = zspan F a o (n + 1) v := by
  funext b j
  rw [u2_at]
  unfold zspan
  by_cases h : b = a ∧ j = o + n
  · obtain ⟨rfl, rfl⟩ := h
    rw [if_pos ⟨rfl, rfl⟩, if_pos (by omega)]
    congr 1
    omega
  · rw [if_neg h]
    by_cases h2 : b = a ∧ o ≤ j ∧ j < o + n
    · rw [if_pos h2, if_pos (by omega)]
    · rw [if_neg h2, if_neg (by omega)]
theorem zspan_at {α : Type} (F : Nat → Nat → α) (a o n : Nat) (v : Nat → α) (b j : Nat) : zspan F a o n v b j = if b = a ∧ o ≤ j ∧ j < o + n then v (j - o) else F b j := rfl
theorem pr_tape_m (d : Nat) {K : Int32 → (Nat → Nat → Int32) → (Nat → Nat → Int64) → (Nat → Nat → Option Nat) → Prop} {h0 : zH} {t : Nat} (ht : t < 6) (hK : K 1 I (zspan L 296 (60 * t) 60 (fun _ => 0)) M) : zSI C h0 K Y_X11_tape (d + 12) 67 [(0, .ref 265), (1, .int (nI t)), (4, .int (nI 0))] [] I L M := by
  have key := count_up (P := fun i => zSI C h0 K Y_X11_tape (d + 12) 67 [(0, .ref 265), (1, .int (nI t)), (4, .int (nI i))] [] I (zspan L 296 (60 * t) i (fun _ => 0)) M) 60
    (t_X11_tape_67 (d + 9) _ _ _ (br_t (by decide) hK))
    (fun i hi ih => t_X11_tape_67 (d + 9) _ _ _ (br_f (fun z => by have := (nI_le_iff (a := 60) (b := i) (by omega) (by omega)).mp z; omega) (by
      simp (disch := omega) only [u2_same, u2_n1, u2_n2, not_true_eq_false, not_false_eq_true, false_implies, true_implies, forall_const, true_and, and_true, and_self, implies_true, nI_60, nI_1, nI_clamp (show 60 * t + i < 2 ^ 31 by omega), vp_in_nI (show 60 * t + i < 360 by omega) (by omega)]
      have := zspan_s L 296 (60 * t) i (fun _ => 0)
      rw [this]
      exact ih))) 0 (by omega)
  rw [zspan_0] at key
  exact key
theorem sort_iff (x : Int32) : ((-1 : Int32) ≤ x ∧ x ≤ 4) ↔ (x = -1 ∨ (0 ≤ x ∧ x < 5)) := by
  rw [Int32.le_iff_toInt_le, Int32.le_iff_toInt_le, Int32.le_iff_toInt_le, Int32.lt_iff_toInt_lt, ← Int32.toInt_inj, show (-1 : Int32).toInt = -1 from rfl, show (0 : Int32).toInt = 0 from rfl, show (4 : Int32).toInt = 4 from rfl, show (5 : Int32).toInt = 5 from rfl]
  omega
theorem pr_tape (d : Nat) (h : Inv I L M) (x1 x2 x3 : Int32) : PrI C Y_X10_tape Y_X11_tape (d + 12) [.int x1, .int x2, .int x3] I L M := by
  have main : ∀ (t : Nat) (so : Int32) (n m : Nat), t < 6 → ((so = -1 ∧ n = 0) ∨ ∃ s, s ≤ 4 ∧ so = nI s) → n ≤ 60 → (∀ K : Int32 → (Nat → Nat → Int32) → (Nat → Nat → Int64) → (Nat → Nat → Option Nat) → Prop, ∀ h0, ∀ I L M, K 1 (u2 (u2 I 294 t so) 295 t (nI n)) (zspan L 296 (60 * t) 60 (fun _ => 0)) M → zSI C h0 K Y_X11_tape (d + 12) 42 [(0, .ref 265), (1, .int (nI t)), (2, .int so), (3, .int x3)] [] I L M) → zCV C Y_X9_become (d + 11) [.ref (253 + 2 * t), .int so, .int (nI n)] (zmk I L M) (fun I1 L1 M1 => zSI C (zmk I1 L1 M1) (fun r2 I2 L2 M2 => r2 = 1 ∧ Inv I2 L2 M2) Y_X11_tape (d + 12) 42 [(0, .ref 265), (1, .int (nI t)), (2, .int so), (3, .int x3)] [] I1 L1 M1) := by
    intro t so n m ht hso hn hm
    refine t_X9_become (d + 9) _ _ (hT t ht) _ ?_
    refine sp_fillL _ _ (hT t ht).2.2 (by omega) _ ?_
    refine hm _ _ _ _ _ ⟨rfl, ?_⟩
    refine Inv_tap h (fun a j _ _ _ => ?_) fun t' ht' => ?_
    · simp (disch := omega) only [u2_same, u2_n1, u2_n2, not_true_eq_false, not_false_eq_true, false_implies, true_implies, forall_const, true_and, and_true, and_self, implies_true]
    · obtain ⟨b1, b2, ⟨n', b3, b4, b5, b6⟩, b7⟩ := h.rest.2.2.2.2.2 t' ht'
      rw [rI_at (by unfold Ra; omega)] at b1 b2 b4 b5 b6
      rw [rI_at (by unfold Ra; omega)] at b2
      simp only [rI_at (show Ra (253 + 2 * t') 0 by unfold Ra; omega), rI_at (show Ra (253 + 2 * t') 1 by unfold Ra; omega), rI_at (show Ra 294 t' by unfold Ra; omega), rI_at (show Ra 295 t' by unfold Ra; omega)]
      by_cases e : t' = t
      · subst e
        simp (disch := omega) only [u2_same, u2_n1, u2_n2, not_true_eq_false, not_false_eq_true, false_implies, true_implies, forall_const, true_and, and_true, and_self, implies_true]
        refine ⟨?_, ⟨n, hn, rfl, rfl, fun z => ?_⟩, fun j hj => ?_⟩
        · rcases hso with ⟨e, -⟩ | e
          · exact Or.inl e
          · exact Or.inr e
        · rcases hso with ⟨-, e⟩ | ⟨s, hs, e⟩
          · exact e
          · rw [z] at e
            exact absurd e ((by decide : ∀ s, s < 5 → ¬ -1 = nI s) s (by omega))
        · rw [zspan_at, zspan_at, if_neg (by omega), if_pos (by omega)]
          unfold zfillL
          rw [if_pos rfl, if_pos hj]
      · simp (disch := omega) only [u2_same, u2_n1, u2_n2, not_true_eq_false, not_false_eq_true, false_implies, true_implies, forall_const, true_and, and_true, and_self, implies_true]
        refine ⟨b1, b2, ⟨n', b3, b4, b5, b6⟩, fun j hj => ?_⟩
        rw [zspan_at, zspan_at, if_neg (by omega), if_neg (by omega)]
        unfold zfillL
        rw [if_neg (by omega), if_neg (by omega)]
        exact b7 j hj
  refine t_X10_tape (d + 9) x1 x2 x3 _ ⟨fun q => ⟨fun q2 => ⟨fun q3 => ?_, fun q3 => ⟨fun q4 => ⟨fun q5 => ?_, fun q5 => ?_⟩, fun q4 => ?_⟩⟩, fun q2 => ?_⟩, fun q => ?_⟩
  · refine t_X11_tape (d + 9) _ _ _ _ ?_
    have z1 : ¬ ((-1 : Int32) ≤ x2 ∧ x2 ≤ 4) := fun z => by
      rcases (sort_iff x2).mp z with z | z
      · exact q2 z
      · exact q3 z
    simp (disch := omega) only [u2_same, u2_n1, u2_n2, not_true_eq_false, not_false_eq_true, false_implies, true_implies, forall_const, true_and, and_true, and_self, implies_true, q, z1]
    exact h
  · obtain ⟨t, ht, rfl⟩ := rg 6 (by omega) q.1 q.2
    obtain ⟨s, hs, rfl⟩ := rg 5 (by omega) q3.1 q3.2
    obtain ⟨n, hn, rfl⟩ := rgle 60 (by omega) q5 q4
    have hin := vp_in_nI ht (by omega : 6 < 2 ^ 31)
    have hcl := nI_clamp (n := t) (by omega)
    have z1 := (sort_iff (nI s)).mpr (Or.inr q3)
    have z2 : ¬ nI s < 0 := le_nlt q3.1
    rw [hcl]
    refine ⟨hin, zCV_mono (main t (nI s) n 0 ht (Or.inr ⟨s, by omega, rfl⟩) hn fun K h0 I L M hK => ?_) fun I1 L1 M1 hk => ?_⟩
    · refine t_X11_tape_42 (d + 9) _ _ _ _ ?_
      simp (disch := omega) only [u2_same, u2_n1, u2_n2, not_true_eq_false, not_false_eq_true, false_implies, true_implies, forall_const, true_and, and_true, and_self, implies_true, hin, q3.1, hcl]
      exact pr_tape_m d ht hK
    · refine t_X11_tape (d + 9) _ _ _ _ ?_
      simp (disch := omega) only [u2_same, u2_n1, u2_n2, not_true_eq_false, not_false_eq_true, false_implies, true_implies, forall_const, true_and, and_true, and_self, implies_true, q, z1, z2, q4]
      refine t_X11_tape_31 (d + 9) _ _ _ _ ?_
      simp (disch := omega) only [u2_same, u2_n1, u2_n2, not_true_eq_false, not_false_eq_true, false_implies, true_implies, forall_const, true_and, and_true, and_self, implies_true, z2, q5]
      exact hk
  · refine t_X11_tape (d + 9) _ _ _ _ ?_
    have z1 := (sort_iff x2).mpr (Or.inr q3)
    have z2 : ¬ x2 < 0 := le_nlt q3.1
    simp (disch := omega) only [u2_same, u2_n1, u2_n2, not_true_eq_false, not_false_eq_true, false_implies, true_implies, forall_const, true_and, and_true, and_self, implies_true, q, z1, z2, q4]
    refine t_X11_tape_31 (d + 9) _ _ _ _ ?_
    simp (disch := omega) only [u2_same, u2_n1, u2_n2, not_true_eq_false, not_false_eq_true, false_implies, true_implies, forall_const, true_and, and_true, and_self, implies_true, z2, q5]
    exact h
  · refine t_X11_tape (d + 9) _ _ _ _ ?_
    have z1 := (sort_iff x2).mpr (Or.inr q3)
    have z2 : ¬ x2 < 0 := le_nlt q3.1
    simp (disch := omega) only [u2_same, u2_n1, u2_n2, not_true_eq_false, not_false_eq_true, false_implies, true_implies, forall_const, true_and, and_true, and_self, implies_true, q, z1, z2, q4]
    exact h
  · obtain ⟨t, ht, rfl⟩ := rg 6 (by omega) q.1 q.2
    have hin := vp_in_nI ht (by omega : 6 < 2 ^ 31)
    have hcl := nI_clamp (n := t) (by omega)
    subst q2
    rw [hcl]
    refine ⟨hin, zCV_mono (main t (-1) 0 0 ht (Or.inl ⟨rfl, rfl⟩) (by omega) fun K h0 I L M hK => ?_) fun I1 L1 M1 hk => ?_⟩
    · refine t_X11_tape_42 (d + 9) _ _ _ _ ?_
      simp (disch := omega) only [u2_same, u2_n1, u2_n2, not_true_eq_false, not_false_eq_true, false_implies, true_implies, forall_const, true_and, and_true, and_self, implies_true, hin, show ¬ (0 : Int32) ≤ -1 by decide, hcl]
      exact pr_tape_m d ht hK
    · refine t_X11_tape (d + 9) _ _ _ _ ?_
      simp (disch := omega) only [u2_same, u2_n1, u2_n2, not_true_eq_false, not_false_eq_true, false_implies, true_implies, forall_const, true_and, and_true, and_self, implies_true, q, show (-1 : Int32) ≤ -1 by decide, show (-1 : Int32) ≤ 4 by decide, show (-1 : Int32) < 0 by decide]
      refine t_X11_tape_31 (d + 9) _ _ _ _ ?_
      simp (disch := omega) only [u2_same, u2_n1, u2_n2, not_true_eq_false, not_false_eq_true, false_implies, true_implies, forall_const, true_and, and_true, and_self, implies_true, show (-1 : Int32) < 0 by decide]
      exact hk
  · refine t_X11_tape (d + 9) _ _ _ _ ?_
    simp (disch := omega) only [u2_same, u2_n1, u2_n2, not_true_eq_false, not_false_eq_true, false_implies, true_implies, forall_const, true_and, and_true, and_self, implies_true, q]
    exact h
end SM
