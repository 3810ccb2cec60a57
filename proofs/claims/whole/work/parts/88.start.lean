/-! what stands between the calls holds of the beginning -/
def wz (k : Nat) : Int32 := if k < 12 then nI (k % 10) else if k = 139 then -1 else 0
set_option maxRecDepth 100000 in
theorem oz_cur : ∀ k, k < 140 → zI (zhl oz) (loc k).1 (loc k).2 = wz k := by decide +kernel
set_option maxRecDepth 100000 in
theorem oz_cv : ∀ k, k < 139 → zI (zhl oz) (cloc 3 k).1 (cloc 3 k).2 = wz k := by decide +kernel
theorem oz_ub : ∀ k, k < 12 → k % 10 ≤ ub 9999 k := by decide +kernel
set_option maxRecDepth 100000 in
theorem oz_num : ∀ g, g < 6 → zI (zhl oz) (36 + 2 * g) 0 = nI g ∧ zI (zhl oz) (81 + 2 * g) 0 = nI g ∧ zI (zhl oz) (126 + 2 * g) 0 = nI g := by decide +kernel
set_option maxRecDepth 100000 in
theorem oz_tap : ∀ t, t < 6 → zI (zhl oz) (253 + 2 * t) 0 = -1 ∧ zI (zhl oz) 294 t = -1 ∧ zI (zhl oz) (253 + 2 * t) 1 = 0 ∧ zI (zhl oz) 295 t = 0 ∧ ∀ j, j < 60 → zL (zhl oz) (253 + 2 * t + 1) j = zL (zhl oz) 296 (60 * t + j) := by decide +kernel
set_option maxRecDepth 100000 in
theorem oz_zero : zI (zhl oz) 0 4 = 0 ∧ zI (zhl oz) 265 39 = 0 ∧ zI (zhl oz) 0 7 = 0 ∧ zI (zhl oz) 265 16 = 0 ∧ zI (zhl oz) 265 24 = 0 ∧ zI (zhl oz) 1 0 = 3 ∧ zI (zhl oz) 1 2 = 0 ∧ zI (zhl oz) 138 1 = 0 ∧ zI (zhl oz) 265 10 = 0 ∧ zI (zhl oz) 148 1 = 0 ∧ zI (zhl oz) 265 37 = 0 ∧ zM (zhl oz) 3 5 = some 1 := by decide +kernel
theorem Inv_z : Inv (zI (zhl oz)) (zL (zhl oz)) (zM (zhl oz)) := by
  obtain ⟨z1, z2, z3, z4, z5, z6, z7, z8, z9, z10, z11, z12⟩ := oz_zero
  have ec : cur (zI (zhl oz)) = wz := by
    funext k
    unfold cur
    by_cases h : k < 140
    · rw [if_pos h]; exact oz_cur k h
    · rw [if_neg h]
      unfold wz
      rw [if_neg (by omega), if_neg (by omega)]
  have w0 : ∀ k, 12 ≤ k → k ≠ 139 → wz k = 0 := fun k h1 h2 => by
    unfold wz
    rw [if_neg (by omega), if_neg h2]
  have w9 : wz 139 = -1 := rfl
  refine ⟨?_, ⟨fun k hk _ _ => ?_, ?_⟩, ?_, ?_, ?_, ?_, ?_, ?_⟩
  · rw [ec]
    refine ⟨fun k hk _ => ?_, fun i hi => ?_, Or.inl w9⟩
    · by_cases h : k < 12
      · exact ⟨k % 10, oz_ub k h, if_pos h⟩
      · exact ⟨0, Nat.zero_le _, (w0 k (by omega) (by omega)).trans nI_0.symm⟩
    · rw [w0 137 (by omega) (by omega)] at hi
      exact absurd hi (Nat.not_lt.mpr (by show cn 0 ≤ i; rw [show cn 0 = 0 by decide]; omega))
  · rw [ec]
    unfold cv
    rw [if_pos hk]
    exact oz_cv k hk
  · rw [ec, w9, z12]
    rfl
  · intro g hg
    obtain ⟨a, b, c⟩ := oz_num g hg
    rw [rI_at (by unfold Ra; omega), rI_at (by unfold Ra; omega), rI_at (by unfold Ra; omega)]
    exact ⟨a, b, c⟩
  · unfold Img
    rw [rI_at (by unfold Ra; omega), rI_at (by unfold Ra; omega), z1, z2]
    exact ⟨rfl, Or.inl rfl, fun h => absurd h (by decide)⟩
  · refine ⟨0, 0, by omega, by omega, ?_, ?_, ?_, ?_, ?_, fun i hi => absurd hi (Nat.not_lt_zero _)⟩
    all_goals rw [rI_at (by unfold Ra; omega)]
    · rw [z3, nI_0]
    · rw [z4, nI_0]
    · rw [z5, nI_0]
    · exact z6
    · exact z7
  · refine ⟨0, by omega, ?_, ?_, fun j hj => absurd hj (Nat.not_lt_zero _)⟩
    all_goals rw [rI_at (by unfold Ra; omega)]
    · rw [z8, nI_0]
    · rw [z9, nI_0]
  · refine ⟨0, by omega, ?_, ?_, fun j hj => absurd hj (Nat.not_lt_zero _)⟩
    all_goals rw [rI_at (by unfold Ra; omega)]
    · rw [z10, nI_0]
    · rw [z11, nI_0]
  · intro t ht
    obtain ⟨a, b, c, d, f⟩ := oz_tap t ht
    rw [rI_at (by unfold Ra; omega), rI_at (by unfold Ra; omega), rI_at (by unfold Ra; omega), rI_at (by unfold Ra; omega), a, b, c, d]
    exact ⟨Or.inl rfl, rfl, ⟨0, by omega, nI_0.symm, nI_0.symm, fun _ => rfl⟩, f⟩
