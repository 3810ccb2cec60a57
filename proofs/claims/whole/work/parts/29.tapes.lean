/-! TAPES -/
theorem rgn {n : Nat} (hn : n < 2 ^ 31) (x : Int32) : (0 ≤ x ∧ x ≤ nI n - 1) ↔ ∃ i, i < n ∧ x = nI i := by
  rcases Nat.eq_zero_or_pos n with rfl | h
  · constructor
    · rintro ⟨a, b⟩
      rw [Int32.le_iff_toInt_le] at a b
      rw [show (nI 0 - 1).toInt = -1 by decide +kernel] at b
      rw [show (0 : Int32).toInt = 0 by decide +kernel] at a
      omega
    · rintro ⟨i, hi, -⟩
      omega
  · rw [nI_sub1 h]
    constructor
    · rintro ⟨a, b⟩
      obtain ⟨i, hi, e⟩ := rgle (n - 1) (by omega) a b
      exact ⟨i, by omega, e⟩
    · rintro ⟨i, hi, rfl⟩
      exact ⟨nI_pos' (by omega), (nI_le_iff (by omega) (by omega)).mpr (by omega)⟩
theorem rgp {n : Nat} (hn : n < 2 ^ 31) (x : Int32) : (0 ≤ x ∧ 0 ≤ (1 : Int32) ∧ 1 ≤ nI n ∧ x ≤ nI n - 1) ↔ ∃ i, i < n ∧ x = nI i := by
  rw [← rgn hn]
  constructor
  · rintro ⟨a, -, -, b⟩
    exact ⟨a, b⟩
  · intro q
    obtain ⟨i, hi, e⟩ := (rgn hn x).mp q
    exact ⟨q.1, by decide, (nI_le_iff (a := 1) (by omega) (by omega)).mpr (by omega), q.2⟩
section SM
variable {C : zC} {I I' : Nat → Nat → Int32} {L L' : Nat → Nat → Int64} {M : Nat → Nat → Option Nat}
theorem Inv.tap (h : Inv I L M) {t : Nat} (ht : t < 6) : ∃ (so : Int32) (n : Nat), ((so = -1 ∧ n = 0) ∨ ∃ s, s ≤ 4 ∧ so = nI s) ∧ n ≤ 60 ∧ I (253 + 2 * t) 0 = so ∧ I 294 t = so ∧ I (253 + 2 * t) 1 = nI n ∧ I 295 t = nI n ∧ ∀ j, j < 60 → L (253 + 2 * t + 1) j = L 296 (60 * t + j) := by
  obtain ⟨h1, h2, ⟨n, h3, h4, h5, h6⟩, h7⟩ := h.rest.2.2.2.2.2 t ht
  rw [rI_at (by unfold Ra; omega)] at h1 h2 h4 h5 h6
  rw [rI_at (by unfold Ra; omega)] at h2
  refine ⟨_, n, ?_, h3, rfl, h2, h4, h5, h7⟩
  rcases h1 with e | e
  · exact Or.inl ⟨e, h6 e⟩
  · exact Or.inr e
theorem so_neg {so : Int32} {n : Nat} (h : (so = -1 ∧ n = 0) ∨ ∃ s, s ≤ 4 ∧ so = nI s) : (so < 0 ↔ so = -1) ∧ (0 ≤ so ↔ ¬ so = -1) ∧ (so < 0 ↔ ¬ 0 ≤ so) := by
  rcases h with ⟨rfl, -⟩ | ⟨s, hs, rfl⟩
  · decide
  · exact (by decide : ∀ s, s < 5 → ((nI s < 0 ↔ nI s = -1) ∧ (0 ≤ nI s ↔ ¬ nI s = -1) ∧ (nI s < 0 ↔ ¬ 0 ≤ nI s))) s (by omega)
theorem nI_60 {g k : Nat} : (60 : Int32) * nI g + nI k = nI (60 * g + k) := by rw [show (60 : Int32) = nI 60 from rfl, pk_mul, nI_add]
theorem pr_read (d : Nat) (h : Inv I L M) (x1 x2 : Int32) : PrL C Y_X10_read Y_X11_read (d + 12) [.int x1, .int x2] I L M := by
  refine t_X10_read (d + 10) x1 x2 _ ⟨fun q => ?_, fun q => ?_⟩
  · refine t_X11_read (d + 9) _ _ _ ?_
    simp (disch := omega) only [u2_same, u2_n1, u2_n2, not_true_eq_false, not_false_eq_true, false_implies, true_implies, forall_const, true_and, and_true, and_self, implies_true, q]
    exact h
  · obtain ⟨t, ht, rfl⟩ := rg 6 (by omega) q.1 q.2
    obtain ⟨so, n, hso, hn, a1, a2, a3, a4, a5⟩ := h.tap ht
    have hin := vp_in_nI ht (by omega : 6 < 2 ^ 31)
    have hcl := nI_clamp (n := t) (by omega)
    rw [hcl, a3, rgp (by omega)]
    refine ⟨hin, fun q2 => ?_, fun q2 => ?_⟩
    · refine t_X11_read (d + 9) _ _ _ ?_
      have q3 : ¬ (0 ≤ x2 ∧ x2 ≤ nI n - 1) := fun z => q2 ((rgn (by omega) _).mp z)
      simp (disch := omega) only [u2_same, u2_n1, u2_n2, not_true_eq_false, not_false_eq_true, false_implies, true_implies, forall_const, true_and, and_true, and_self, implies_true, q, hin, hcl, a2, a4, q3]
      exact ⟨fun _ => h, fun _ => h⟩
    · obtain ⟨i, hi, rfl⟩ := q2
      have hso : ¬ so < 0 := fun z => by
        have e1 := (so_neg hso).1.mp z
        rcases hso with ⟨-, e⟩ | ⟨s, hs, e⟩
        · omega
        · rw [e1] at e
          exact absurd e ((by decide : ∀ s, s < 5 → ¬ -1 = nI s) s (by omega))
      have q3 := (rgn (n := n) (by omega) (nI i)).mpr ⟨i, hi, rfl⟩
      refine ⟨hin, vp_in_nI (show i < 60 by omega) (by omega), t_X11_read (d + 9) _ _ _ ?_⟩
      simp (disch := omega) only [u2_same, u2_n1, u2_n2, not_true_eq_false, not_false_eq_true, false_implies, true_implies, forall_const, true_and, and_true, and_self, implies_true, q, hin, hcl, a2, a4, q3, hso, nI_60, nI_clamp (show 60 * t + i < 2 ^ 31 by omega), nI_clamp (show i < 2 ^ 31 by omega), vp_in_nI (show 60 * t + i < 360 by omega) (by omega)]
      exact ⟨(a5 i (by omega)).symm, h⟩
theorem cut_eq (d : Nat) (so : Int32) (v : Int64) {n t : Nat} (ht : t < 6) (hso : (so = -1 ∧ n = 0) ∨ ∃ s, s ≤ 4 ∧ so = nI s) (e : I (253 + 2 * t) 0 = so) : ∃ r : Int64, (∀ K : Int64 → (Nat → Nat → Int32) → (Nat → Nat → Int64) → (Nat → Nat → Option Nat) → Prop, K r I L M → zCL C Y_X9_cut (d + 1) [.ref (253 + 2 * t), .long v] (zmk I L M) K) ∧ (∀ (I' : Nat → Nat → Int32) (L' : Nat → Nat → Int64) (K : Int64 → (Nat → Nat → Int32) → (Nat → Nat → Int64) → (Nat → Nat → Option Nat) → Prop), K r I' L' M → zCL C Y_X11_kept (d + 1) [.int so, .long v] (zmk I' L' M) K) := by
  have hta := hT t ht
  rcases Classical.em (so = 0) with e0 | e0
  · refine ⟨v.toInt32.toInt8.toInt32.toInt64, fun K hK => t_X9_cut d v hta K ?_, fun I' L' K hK => t_X11_kept d so v K ?_⟩
    · rw [e, e0]
      exact ⟨fun _ => hK, fun z => absurd z (by decide), fun z => absurd z (by decide), fun z => absurd z (by decide), fun z => absurd z (by decide)⟩
    · rw [e0]
      exact ⟨fun _ => hK, fun z => absurd z (by decide), fun z => absurd z (by decide), fun z => absurd z (by decide), fun z => absurd z (by decide)⟩
  rcases Classical.em (so = 1) with e0 | e0
  · refine ⟨v.toInt32.toInt16.toInt32.toInt64, fun K hK => t_X9_cut d v hta K ?_, fun I' L' K hK => t_X11_kept d so v K ?_⟩
    · rw [e, e0]
      exact ⟨fun z => absurd z (by decide), fun _ => hK, fun z => absurd z (by decide), fun z => absurd z (by decide), fun z => absurd z (by decide)⟩
    · rw [e0]
      exact ⟨fun z => absurd z (by decide), fun _ => hK, fun z => absurd z (by decide), fun z => absurd z (by decide), fun z => absurd z (by decide)⟩
  rcases Classical.em (so = 2) with e0 | e0
  · refine ⟨v.toInt32.toInt64, fun K hK => t_X9_cut d v hta K ?_, fun I' L' K hK => t_X11_kept d so v K ?_⟩
    · rw [e, e0]
      exact ⟨fun z => absurd z (by decide), fun z => absurd z (by decide), fun _ => hK, fun z => absurd z (by decide), fun z => absurd z (by decide)⟩
    · rw [e0]
      exact ⟨fun z => absurd z (by decide), fun z => absurd z (by decide), fun _ => hK, fun z => absurd z (by decide), fun z => absurd z (by decide)⟩
  rcases Classical.em (so = 3) with e0 | e0
  · refine ⟨v, fun K hK => t_X9_cut d v hta K ?_, fun I' L' K hK => t_X11_kept d so v K ?_⟩
    · rw [e, e0]
      exact ⟨fun z => absurd z (by decide), fun z => absurd z (by decide), fun z => absurd z (by decide), fun _ => hK, fun z => absurd z (by decide)⟩
    · rw [e0]
      exact ⟨fun z => absurd z (by decide), fun z => absurd z (by decide), fun z => absurd z (by decide), fun _ => hK, fun z => absurd z (by decide)⟩
  · rcases Classical.em (lg_cmp v (0 : Int64) = 0) with e1 | e1
    · refine ⟨0, fun K hK => t_X9_cut d v hta K ?_, fun I' L' K hK => t_X11_kept d so v K ?_⟩
      · rw [e]
        exact ⟨fun z => absurd z ‹_›, fun z => absurd z ‹_›, fun z => absurd z ‹_›, fun z => absurd z ‹_›, fun _ => ⟨fun _ => hK, fun z => absurd e1 z⟩⟩
      · exact ⟨fun z => absurd z ‹_›, fun z => absurd z ‹_›, fun z => absurd z ‹_›, fun z => absurd z ‹_›, fun _ => ⟨fun _ => hK, fun z => absurd e1 z⟩⟩
    · refine ⟨1, fun K hK => t_X9_cut d v hta K ?_, fun I' L' K hK => t_X11_kept d so v K ?_⟩
      · rw [e]
        exact ⟨fun z => absurd z ‹_›, fun z => absurd z ‹_›, fun z => absurd z ‹_›, fun z => absurd z ‹_›, fun _ => ⟨fun z => absurd z e1, fun _ => hK⟩⟩
      · exact ⟨fun z => absurd z ‹_›, fun z => absurd z ‹_›, fun z => absurd z ‹_›, fun z => absurd z ‹_›, fun _ => ⟨fun z => absurd z e1, fun _ => hK⟩⟩
theorem pr_item (d : Nat) (h : Inv I L M) (x1 x2 : Int32) (x3 : Int64) : PrI C Y_X10_item Y_X11_item (d + 12) [.int x1, .int x2, .long x3] I L M := by
  refine t_X10_item (d + 10) x1 x2 x3 _ ⟨fun q => ?_, fun q => ?_⟩
  · obtain ⟨t, ht, rfl⟩ := rg 6 (by omega) q.1 q.2
    obtain ⟨so, n, hso, hn, a1, a2, a3, a4, a5⟩ := h.tap ht
    have hin := vp_in_nI ht (by omega : 6 < 2 ^ 31)
    have hcl := nI_clamp (n := t) (by omega)
    rw [hcl, a1, a3, rgp (by omega)]
    have hs := (so_neg hso).2.1
    refine ⟨hin, fun q2 => ⟨fun q3 => ?_, fun q3 => ?_⟩, fun q2 => ?_⟩
    · obtain ⟨r, hr1, hr2⟩ := cut_eq (C := C) (I := I) (L := L) (M := M) (d + 10) so x3 ht hso a1
      refine hr1 _ ?_
      obtain ⟨i, hi, rfl⟩ := q3
      have q4 := (rgn (n := n) (by omega) (nI i)).mpr ⟨i, hi, rfl⟩
      have hi60 := vp_in_nI (show i < 60 by omega) (by omega)
      refine ⟨hi60, t_X11_item (d + 9) _ _ _ _ ?_⟩
      simp (disch := omega) only [u2_same, u2_n1, u2_n2, not_true_eq_false, not_false_eq_true, false_implies, true_implies, forall_const, true_and, and_true, and_self, implies_true, q, hin, hcl, a2, a4, q4, hs.mpr q2]
      refine hr2 _ _ _ ?_
      simp (disch := omega) only [u2_same, u2_n1, u2_n2, not_true_eq_false, not_false_eq_true, false_implies, true_implies, forall_const, true_and, and_true, and_self, implies_true, nI_60, nI_clamp (show 60 * t + i < 2 ^ 31 by omega), nI_clamp (show i < 2 ^ 31 by omega), vp_in_nI (show 60 * t + i < 360 by omega) (by omega)]
      refine Inv_tap h (fun a j _ _ _ => rfl) fun t' ht' => ?_
      obtain ⟨b1, b2, b3, b4⟩ := h.rest.2.2.2.2.2 t' ht'
      refine ⟨b1, b2, b3, fun j hj => ?_⟩
      have := b4 j hj
      by_cases e : t' = t ∧ j = i
      · obtain ⟨rfl, rfl⟩ := e
        simp (disch := omega) only [u2_same, u2_n1, u2_n2, not_true_eq_false, not_false_eq_true, false_implies, true_implies, forall_const, true_and, and_true, and_self, implies_true]
      · have n1 : 253 + 2 * t' + 1 ≠ 253 + 2 * t + 1 ∨ j ≠ i := by omega
        have n2 : 60 * t' + j ≠ 60 * t + i := by omega
        rw [u2_n1 _ _ (by omega), u2_ne _ _ n1, u2_n2 _ _ n2, u2_n1 _ _ (by omega)]
        exact this
    · have q4 : ¬ (0 ≤ x2 ∧ x2 ≤ nI n - 1) := fun z => q3 ((rgn (by omega) _).mp z)
      refine t_X11_item (d + 9) _ _ _ _ ?_
      simp (disch := omega) only [u2_same, u2_n1, u2_n2, not_true_eq_false, not_false_eq_true, false_implies, true_implies, forall_const, true_and, and_true, and_self, implies_true, q, hin, hcl, a2, a4, q4, hs.mpr q2]
      exact h
    · have hs' : ¬ 0 ≤ so := fun z => hs.mp z q2
      refine t_X11_item (d + 9) _ _ _ _ ?_
      simp (disch := omega) only [u2_same, u2_n1, u2_n2, not_true_eq_false, not_false_eq_true, false_implies, true_implies, forall_const, true_and, and_true, and_self, implies_true, q, hin, hcl, a2, a4, hs']
      exact h
  · refine t_X11_item (d + 9) _ _ _ _ ?_
    simp (disch := omega) only [u2_same, u2_n1, u2_n2, not_true_eq_false, not_false_eq_true, false_implies, true_implies, forall_const, true_and, and_true, and_self, implies_true, q]
    exact h
end SM
