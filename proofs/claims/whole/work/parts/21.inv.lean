/-! THE STATE: a view of 140 ints, as the model's keep() lays it; where it stands in the model and in an Inn -/
abbrev cn (x : Int32) : Nat := x.toNatClampNeg
def loc (k : Nat) : Nat × Nat := if k < 12 then (266, k) else if k < 24 then (267, k - 12) else if k < 30 then (268, k - 24) else if k < 36 then (269, k - 30) else if k < 42 then (270, k - 36) else if k < 48 then (271, k - 42) else if k < 54 then (272, k - 48) else if k < 78 then (273, k - 54) else if k < 83 then (282, k - 78) else if k < 88 then (283, k - 83) else if k < 93 then (284, k - 88) else if k < 98 then (285, k - 93) else if k < 108 then (286, k - 98) else if k < 118 then (287, k - 108) else if k < 126 then (288, k - 118) else if k < 134 then (289, k - 126) else if k = 134 then (265, 2) else if k = 135 then (265, 9) else if k = 136 then (265, 26) else if k = 137 then (265, 31) else if k = 138 then (265, 34) else (265, 17)
def c0 (k : Nat) : Nat × Nat := if k < 12 then (1, k) else if k < 24 then (2, k - 12) else if k < 30 then (33 + 2 * (k - 24), 1) else if k < 36 then (33 + 2 * (k - 30), 2) else if k < 42 then (33 + 2 * (k - 36), 3) else if k < 48 then (33 + 2 * (k - 42), 4) else if k < 54 then (33 + 2 * (k - 48), 5) else if k < 78 then (34 + 2 * ((k - 54) / 4), (k - 54) % 4) else if k < 83 then (6 + (k - 78), 0) else if k < 88 then (6 + (k - 83), 1) else if k < 93 then (6 + (k - 88), 2) else if k < 98 then (6 + (k - 93), 3) else if k < 108 then (13 + (k - 98), 0) else if k < 118 then (13 + (k - 108), 1) else if k < 126 then (25 + (k - 118), 0) else if k < 134 then (25 + (k - 126), 1) else if k = 134 then (0, 3) else if k = 135 then (0, 4) else if k = 136 then (4, 1) else if k = 137 then (11, 1) else (23, 1)
def cloc (b k : Nat) : Nat × Nat := (b + (c0 k).1, (c0 k).2)
def cur (I : Nat → Nat → Int32) (k : Nat) : Int32 := if k < 140 then I (loc k).1 (loc k).2 else 0
def cv (I : Nat → Nat → Int32) (b k : Nat) : Int32 := if k < 139 then I (cloc b k).1 (cloc b k).2 else 0
theorem loc_inj : ∀ k, k < 140 → ∀ j, j < 140 → loc k = loc j → k = j := by decide +kernel
theorem c0_inj : ∀ k, k < 139 → ∀ j, j < 139 → c0 k = c0 j → k = j := by decide +kernel
theorem cloc_inj (b : Nat) {k j : Nat} (hk : k < 139) (hj : j < 139) (h : cloc b k = cloc b j) : k = j := by
  refine c0_inj k hk j hj ?_
  have h1 : b + (c0 k).1 = b + (c0 j).1 := (Prod.mk.inj h).1
  have h2 : (c0 k).2 = (c0 j).2 := (Prod.mk.inj h).2
  exact Prod.ext (by omega) h2
theorem loc_rng : ∀ k, k < 140 → 265 ≤ (loc k).1 ∧ (loc k).1 ≤ 289 ∧ ¬ (274 ≤ (loc k).1 ∧ (loc k).1 ≤ 281) ∧ ((loc k).1 = 265 → (loc k).2 = 2 ∨ (loc k).2 = 9 ∨ (loc k).2 = 26 ∨ (loc k).2 = 31 ∨ (loc k).2 = 34 ∨ (loc k).2 = 17) := by decide +kernel
theorem c0_rng : ∀ k, k < 139 → (c0 k).1 < 45 ∧ (33 ≤ (c0 k).1 → (c0 k).1 % 2 = 1 → 1 ≤ (c0 k).2) := by decide +kernel
theorem cloc_rng (b : Nat) {k : Nat} (hk : k < 139) : b ≤ (cloc b k).1 ∧ (cloc b k).1 < b + 45 := by
  have h := c0_rng k hk
  show b ≤ b + (c0 k).1 ∧ b + (c0 k).1 < b + 45
  omega
theorem u2_at {α : Type} (I : Nat → Nat → α) (a j b i : Nat) (v : α) : u2 I a j v b i = if b = a ∧ i = j then v else I b i := by
  unfold u2
  by_cases h1 : b = a <;> by_cases h2 : i = j <;> simp [h1, h2]
theorem u2_same {α : Type} (I : Nat → Nat → α) (a j : Nat) (v : α) : u2 I a j v a j = v := by simp [u2]
theorem u2_ne {α : Type} (I : Nat → Nat → α) {a j b i : Nat} (v : α) (h : b ≠ a ∨ i ≠ j) : u2 I a j v b i = I b i := by
  rw [u2_at, if_neg]
  intro q
  rcases h with h | h
  · exact h q.1
  · exact h q.2
theorem cur_in (I : Nat → Nat → Int32) {k : Nat} (hk : k < 140) (v : Int32) : cur (u2 I (loc k).1 (loc k).2 v) = upd (cur I) k v := by
  funext j
  unfold cur upd
  by_cases hj : j < 140
  · show (if j < 140 then _ else (0 : Int32)) = if j = k then v else (if j < 140 then _ else 0)
    rw [if_pos hj, if_pos hj, u2_at]
    by_cases e : j = k
    · subst e; simp
    · rw [if_neg e, if_neg]
      intro q
      exact e (loc_inj j hj k hk (Prod.ext q.1 q.2))
  · show (if j < 140 then _ else (0 : Int32)) = if j = k then v else (if j < 140 then _ else 0)
    rw [if_neg hj, if_neg (fun e => hj (by omega)), if_neg hj]
theorem cur_eq {I I' : Nat → Nat → Int32} (h : ∀ k, k < 140 → I' (loc k).1 (loc k).2 = I (loc k).1 (loc k).2) : cur I' = cur I := by
  funext k
  unfold cur
  by_cases hk : k < 140
  · rw [if_pos hk, if_pos hk, h k hk]
  · rw [if_neg hk, if_neg hk]
theorem cur_low {I I' : Nat → Nat → Int32} (h : ∀ a, 265 ≤ a → I' a = I a) : cur I' = cur I := cur_eq fun k hk => by rw [h _ (loc_rng k hk).1]
theorem cur_out (I : Nat → Nat → Int32) {a j : Nat} (v : Int32) (h : a < 265 ∨ 290 ≤ a ∨ (274 ≤ a ∧ a ≤ 281) ∨ (a = 265 ∧ ¬ (j = 2 ∨ j = 9 ∨ j = 26 ∨ j = 31 ∨ j = 34 ∨ j = 17))) : cur (u2 I a j v) = cur I := cur_eq fun k hk => by
  obtain ⟨h1, h2, h3, h4⟩ := loc_rng k hk
  refine u2_ne _ _ ?_
  by_cases e : (loc k).1 = a
  · right
    intro e2
    rw [e] at h1 h2 h3 h4
    rw [e2] at h4
    rcases h with h | h | h | h
    · omega
    · omega
    · omega
    · exact h.2 (h4 h.1)
  · exact Or.inl e
theorem cv_in (I : Nat → Nat → Int32) (b : Nat) {k : Nat} (hk : k < 139) (v : Int32) : cv (u2 I (cloc b k).1 (cloc b k).2 v) b = upd (cv I b) k v := by
  funext j
  unfold cv upd
  by_cases hj : j < 139
  · show (if j < 139 then _ else (0 : Int32)) = if j = k then v else (if j < 139 then _ else 0)
    rw [if_pos hj, if_pos hj, u2_at]
    by_cases e : j = k
    · subst e; simp
    · rw [if_neg e, if_neg]
      intro q
      exact e (cloc_inj b hj hk (Prod.ext q.1 q.2))
  · show (if j < 139 then _ else (0 : Int32)) = if j = k then v else (if j < 139 then _ else 0)
    rw [if_neg hj, if_neg (fun e => hj (by omega)), if_neg hj]
theorem cv_eq {I I' : Nat → Nat → Int32} {b : Nat} (h : ∀ k, k < 139 → I' (cloc b k).1 (cloc b k).2 = I (cloc b k).1 (cloc b k).2) : cv I' b = cv I b := by
  funext k
  unfold cv
  by_cases hk : k < 139
  · rw [if_pos hk, if_pos hk, h k hk]
  · rw [if_neg hk, if_neg hk]
theorem cv_far {I I' : Nat → Nat → Int32} {b : Nat} (h : ∀ a, b ≤ a → a < b + 45 → I' a = I a) : cv I' b = cv I b := cv_eq fun k hk => by rw [h _ (cloc_rng b hk).1 (cloc_rng b hk).2]
theorem cv_out (I : Nat → Nat → Int32) {a j b : Nat} (v : Int32) (h : a < b ∨ b + 45 ≤ a) : cv (u2 I a j v) b = cv I b := cv_far fun c h1 h2 => u2_o _ _ _ (by omega)
/-- how far each place goes; which places count -/
def ub (B k : Nat) : Nat := if k < 12 then 9 else if k < 24 then 99 else if k < 30 then 6 else if k < 36 then 9 else if k < 48 then 4095 else if k < 54 then 1 else if k < 78 then 9 else if k < 83 then 5 else if k < 88 then 12 else if k < 93 then 11 else if k < 98 then 1 else if k < 108 then 3 else if k < 118 then 5 else if k < 126 then 11 else if k < 134 then 99 else if k = 134 then 6 else if k = 135 then B else if k = 136 then 5 else if k = 137 then 10 else 8
def live (w : Nat → Int32) (k : Nat) : Prop := k < 24 ∨ (24 ≤ k ∧ k < 54 ∧ (k - 24) % 6 < cn (w 134)) ∨ (54 ≤ k ∧ k < 78 ∧ (k - 54) / 4 < cn (w 134)) ∨ (78 ≤ k ∧ k < 98 ∧ (k - 78) % 5 < cn (w 136)) ∨ (98 ≤ k ∧ k < 108 ∧ k - 98 < cn (w 137)) ∨ (108 ≤ k ∧ k < 118 ∧ k - 108 < cn (w 137) ∧ ¬ w (98 + (k - 108)) = 0) ∨ (118 ≤ k ∧ k < 134 ∧ (k - 118) % 8 < cn (w 138)) ∨ (134 ≤ k ∧ k < 139)
def Wok (B inns : Nat) (w : Nat → Int32) : Prop := (∀ k, k < 139 → live w k → ∃ j, j ≤ ub B k ∧ w k = nI j) ∧ (∀ i, i < cn (w 137) → ¬ w (98 + i) = 0 → cn (w (108 + i)) < cn (w 134)) ∧ (w 139 = -1 ∨ ∃ h, h < inns ∧ w 139 = nI h)
def hid (x : Int32) : Nat := if x = -1 then 1 else 151 + 2 * cn x
/-- an Inn holds the view, at the places of P -/
def InnR (P : Nat → Prop) (I : Nat → Nat → Int32) (M : Nat → Nat → Option Nat) (b : Nat) (w : Nat → Int32) : Prop := (∀ k, k < 139 → P k → live w k → cv I b k = w k) ∧ M b 5 = some (hid (w 139))
abbrev PA : Nat → Prop := fun _ => True
/-- what no row told by hand is -/
abbrev PN : Nat → Prop := fun k => k < 78 ∨ k = 134 ∨ k = 135
/-- the rest of what counts, but the view and the Inn that is now -/
def Ra (a j : Nat) : Prop := a = 0 ∨ a = 1 ∨ (48 ≤ a ∧ a < 93) ∨ (a = 138 ∧ j = 1) ∨ a = 139 ∨ a = 148 ∨ a = 149 ∨ (151 ≤ a ∧ a < 163) ∨ (253 ≤ a ∧ a < 265) ∨ (a = 265 ∧ (j = 10 ∨ j = 16 ∨ j = 24 ∨ j = 37 ∨ j = 39)) ∨ (274 ≤ a ∧ a ≤ 280) ∨ a = 290 ∨ a = 291 ∨ a = 294 ∨ a = 295 ∨ (j = 0 ∧ ((36 ≤ a ∧ a < 48) ∨ (126 ≤ a ∧ a < 138)) ∧ a % 2 = 0)
noncomputable def rI (I : Nat → Nat → Int32) : Nat → Nat → Int32 := fun a j => @ite _ (Ra a j) (Classical.propDecidable _) (I a j) 0
theorem rI_at {I : Nat → Nat → Int32} {a j : Nat} (h : Ra a j) : rI I a j = I a j := by unfold rI; exact @if_pos _ (Classical.propDecidable _) h _ _ _
theorem rI_eq {I I' : Nat → Nat → Int32} (h : ∀ a j, Ra a j → I' a j = I a j) : rI I' = rI I := by
  funext a j
  by_cases q : Ra a j
  · rw [rI_at q, rI_at q, h a j q]
  · unfold rI
    rw [@if_neg _ (Classical.propDecidable _) q, @if_neg _ (Classical.propDecidable _) q]
theorem rI_out (I : Nat → Nat → Int32) {a j : Nat} (v : Int32) (h : ¬ Ra a j) : rI (u2 I a j v) = rI I := rI_eq fun b i q => u2_ne _ _ (by
  by_cases e : b = a
  · right; intro e2; subst e; subst e2; exact h q
  · exact Or.inl e)
