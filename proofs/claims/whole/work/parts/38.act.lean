/-! THE ACTS -/
section SM
variable {C : zC} {I I' : Nat → Nat → Int32} {L L' : Nat → Nat → Int64} {M : Nat → Nat → Option Nat}
def bd (k a : Nat) : Int32 := if a = 0 then (if k = 2 ∨ k = 5 then 30 else if k = 4 then 50 else if k = 6 then 71 else 10) else if a = 1 then (if k = 1 then 20 else if k = 4 then 51 else if k = 6 then 70 else 11) else (if k = 3 ∨ k = 6 then 40 else if k = 5 then 60 else 12)
theorem sp_bf (d : Nat) : ∀ (k a : Nat), k < 7 → a < 3 → ∀ (K : Int32 → (Nat → Nat → Int32) → (Nat → Nat → Int64) → (Nat → Nat → Option Nat) → Prop), K (bd k a) I L M → zCI C Y_X8_bodyFrom (d + 2) [.int (nI k), .int (nI a)] (zmk I L M) K := by
  intro k a hk ha K hK
  refine t_X8_bodyFrom d _ _ _ ?_
  rcases (by omega : a = 0 ∨ a = 1 ∨ a = 2) with rfl | rfl | rfl <;> rcases (by omega : k = 0 ∨ k = 1 ∨ k = 2 ∨ k = 3 ∨ k = 4 ∨ k = 5 ∨ k = 6) with rfl | rfl | rfl | rfl | rfl | rfl | rfl
  all_goals refine t_X8_bodyFrom_4 d _ _ _ _ (br_f (by decide) (br_t' (by decide) ⟨by unfold vp_in; decide, ?_⟩))
  all_goals first
    | exact br_f (by decide) ⟨by unfold vp_in; decide, hK⟩
    | (refine br_t (by decide) ⟨by unfold vp_in; decide, t_X8_bodyFrom_4 d _ _ _ _ (br_f (by decide) (br_t' (by decide) ⟨by unfold vp_in; decide, ?_⟩))⟩)
  all_goals first
    | exact br_f (by decide) ⟨by unfold vp_in; decide, hK⟩
    | (refine br_t (by decide) ⟨by unfold vp_in; decide, t_X8_bodyFrom_4 d _ _ _ _ (br_f (by decide) (br_t' (by decide) ⟨by unfold vp_in; decide, ?_⟩))⟩)
  all_goals exact br_f (by decide) ⟨by unfold vp_in; decide, hK⟩
/-- the bodies l have run since the latest act began -/
def TC (I : Nat → Nat → Int32) (l : List Nat) (J : Nat → Nat → Int32) : Prop := (∀ b j, b ≠ 149 → ¬ (b = 148 ∧ j = 1) → J b j = I b j) ∧ J 148 1 = nI l.length ∧ ∀ j, j < l.length → J 149 j = nI (l.getD j 0)
def TM (I : Nat → Nat → Int32) (l : List Nat) (J : Nat → Nat → Int32) : Prop := (∀ b j, b ≠ 290 → ¬ (b = 265 ∧ j = 37) → J b j = I b j) ∧ J 265 37 = nI l.length ∧ ∀ j, j < l.length → J 290 j = nI (l.getD j 0)
theorem getD_app (l : List Nat) (b j : Nat) : (l ++ [b]).getD j 0 = if j < l.length then l.getD j 0 else if j = l.length then b else 0 := by
  rw [List.getD_eq_getElem?_getD, List.getElem?_append]
  by_cases h : j < l.length
  · rw [if_pos h, if_pos h, List.getD_eq_getElem?_getD]
  · rw [if_neg h, if_neg h]
    by_cases e : j = l.length
    · subst e; simp
    · rw [if_neg e, List.getElem?_eq_none (by simp; omega)]
      rfl
theorem sp_note (d : Nat) {l : List Nat} {b : Nat} {J : Nat → Nat → Int32} (h : TC I l J) (hl : l.length < 20) (K : (Nat → Nat → Int32) → (Nat → Nat → Int64) → (Nat → Nat → Option Nat) → Prop) (hK : ∀ J', TC I (l ++ [b]) J' → K J' L M) : zCV C Y_X8_note (d + 1) [.ref 148, .int (nI b)] (zmk J L M) K := by
  refine t_X8_note d _ _ ?_
  rw [h.2.1]
  refine br_f (fun z => by have := (nI_le_iff (a := 20) (b := l.length) (by omega) (by omega)).mp z; omega) ⟨vp_in_nI hl (by omega), hK _ ⟨fun c j h1 h2 => ?_, ?_, fun j hj => ?_⟩⟩
  · rw [u2_ne _ _ (by omega), u2_n1 _ _ h1]
    exact h.1 c j h1 h2
  · rw [u2_same, nI_1, List.length_append]; rfl
  · rw [List.length_append] at hj
    rw [u2_n1 _ _ (by omega), nI_clamp (by omega), getD_app, u2_at]
    by_cases e : j = l.length
    · rw [if_pos ⟨rfl, e⟩, if_neg (by omega), if_pos e]
    · have hj2 : j < l.length := by
        have : [b].length = 1 := rfl
        omega
      rw [if_neg (fun z => e z.2), if_pos hj2]
      exact h.2.2 j hj2
theorem sp_ran (d : Nat) {l : List Nat} {b : Nat} {J : Nat → Nat → Int32} (h : TM I l J) (hl : l.length < 20) (K : (Nat → Nat → Int32) → (Nat → Nat → Int64) → (Nat → Nat → Option Nat) → Prop) (hK : ∀ J', TM I (l ++ [b]) J' → K J' L M) : zCV C Y_X11_ran (d + 1) [.ref 265, .int (nI b)] (zmk J L M) K := by
  refine t_X11_ran d _ _ ?_
  rw [h.2.1]
  refine br_f (fun z => by have := (nI_le_iff (a := 20) (b := l.length) (by omega) (by omega)).mp z; omega) ⟨vp_in_nI hl (by omega), hK _ ⟨fun c j h1 h2 => ?_, ?_, fun j hj => ?_⟩⟩
  · rw [u2_ne _ _ (by omega), u2_n1 _ _ h1]
    exact h.1 c j h1 h2
  · rw [u2_same, nI_1, List.length_append]; rfl
  · rw [List.length_append] at hj
    rw [u2_n1 _ _ (by omega), nI_clamp (by omega), getD_app, u2_at]
    by_cases e : j = l.length
    · rw [if_pos ⟨rfl, e⟩, if_neg (by omega), if_pos e]
    · have hj2 : j < l.length := by
        have : [b].length = 1 := rfl
        omega
      rw [if_neg (fun z => e z.2), if_pos hj2]
      exact h.2.2 j hj2
/-- what the acts answer, and which bodies run: g the number, v its v, k0 its kind -/
def slA (g v : Int32) (k : Nat) (x : Int32) : Int32 := if k = 2 ∨ k = 5 then x * 3 + g else if k = 4 then -(x + g) else if k = 6 then (x + g) ^^^ v else x + g
def slL (k : Nat) : List Nat := if k = 2 ∨ k = 5 then [30, 10] else if k = 4 then [50, 10] else if k = 6 then [71, 10] else [10]
def w0A (g v : Int32) (k0 : Nat) (x : Int32) : Int32 := slA g v k0 x - v
def w0L (k0 : Nat) : List Nat := 11 :: slL k0
def wkA (g v : Int32) (k0 k : Nat) (x : Int32) : Int32 := if k = 1 then w0A g v k0 x ^^^ 6 else if k = 4 then w0A g v k0 (x + 1) ^^^ 6 else if k = 6 then w0A g v k0 x + (2 + g) else w0A g v k0 x
def wkL (k0 k : Nat) : List Nat := if k = 1 then 20 :: w0L k0 else if k = 4 then 51 :: 20 :: w0L k0 else if k = 6 then 70 :: w0L k0 ++ [10] else w0L k0
def t0A (g v : Int32) (k0 : Nat) (x : Int32) : Int32 := wkA g v k0 k0 x * 2
def t0L (k0 : Nat) : List Nat := 12 :: wkL k0 k0
def tlA (g v : Int32) (k0 k : Nat) (x : Int32) : Int32 := if k = 3 ∨ k = 6 then t0A g v k0 x + wkA g v k0 k0 1 else if k = 5 then t0A g v k0 (x - g) else t0A g v k0 x
def tlL (k0 k : Nat) : List Nat := if k = 3 ∨ k = 6 then 40 :: t0L k0 ++ wkL k0 k0 else if k = 5 then 60 :: t0L k0 else t0L k0
theorem slL_n : ∀ k, k < 7 → (slL k).length ≤ 2 := by decide
theorem w0L_n : ∀ k, k < 7 → (w0L k).length ≤ 3 := by decide
theorem wkL_n : ∀ k, k < 7 → ∀ k0, k0 < 7 → (wkL k0 k).length ≤ 5 := by decide
theorem t0L_n : ∀ k, k < 7 → (t0L k).length ≤ 6 := by decide
theorem tlL_n : ∀ k, k < 7 → ∀ k0, k0 < 7 → (tlL k0 k).length ≤ 12 := by decide
/-- the class's call of a body, found; what the body does -/
theorem cRun (d : Nat) {g k a e : Nat} {l : List Nat} {J : Nat → Nat → Int32} {x : Int32} (hg : g < 6) (hk : k < 7) (ha : a < 3) (he : e ≤ 40) (hl : l.length < 20) (h : TC I l J) {b : Nat} (hb : bd k a = nI b) (hb0 : ¬ nI b = 0) (hb7 : vp_in (nI b / 10 - 1) 7) (K : Int32 → (Nat → Nat → Int32) → (Nat → Nat → Int64) → (Nat → Nat → Option Nat) → Prop)
    (T : ∀ J2, TC I (l ++ [b]) J2 → ((nI b = 10 → K (x + J2 (3 + 33 + 2 * g) 0) J2 L M) ∧
      (nI b = 11 → zCI C Y_X8_own (d + 2) [.ref 148, .ref (3 + 33 + 2 * g), .int 0, .int x, .int (nI (e + 1))] (zmk J2 L M) (fun r I3 L3 M3 => K (r - I3 (3 + 33 + 2 * g) 2) I3 L3 M3)) ∧
      (nI b = 12 → zCI C Y_X8_own (d + 2) [.ref 148, .ref (3 + 33 + 2 * g), .int 1, .int x, .int (nI (e + 1))] (zmk J2 L M) (fun r I3 L3 M3 => K (r * 2) I3 L3 M3)) ∧
      (nI b = 20 → zCI C Y_X8_runs (d + 2) [.ref 148, .ref (3 + 33 + 2 * g), .int (zAbove.getD (nI b / 10 - 1).toNatClampNeg 0), .int 1, .int x, .int (nI (e + 1))] (zmk J2 L M) (fun r I3 L3 M3 => K (r ^^^ 6) I3 L3 M3)) ∧
      (nI b = 30 → zCI C Y_X8_runs (d + 2) [.ref 148, .ref (3 + 33 + 2 * g), .int (zAbove.getD (nI b / 10 - 1).toNatClampNeg 0), .int 0, .int (x * 3), .int (nI (e + 1))] (zmk J2 L M) K) ∧
      (nI b = 40 → zCI C Y_X8_runs (d + 2) [.ref 148, .ref (3 + 33 + 2 * g), .int (zAbove.getD (nI b / 10 - 1).toNatClampNeg 0), .int 2, .int x, .int (nI (e + 1))] (zmk J2 L M) (fun r7 I7 L7 M7 => zCI C Y_X8_own (d + 2) [.ref 148, .ref (3 + 33 + 2 * g), .int 1, .int 1, .int (nI (e + 1))] (zmk I7 L7 M7) (fun r8 I8 L8 M8 => K (r7 + r8) I8 L8 M8))) ∧
      (nI b = 50 → zCI C Y_X8_runs (d + 2) [.ref 148, .ref (3 + 33 + 2 * g), .int (zAbove.getD (nI b / 10 - 1).toNatClampNeg 0), .int 0, .int x, .int (nI (e + 1))] (zmk J2 L M) (fun r I3 L3 M3 => K (-r) I3 L3 M3)) ∧
      (nI b = 51 → zCI C Y_X8_runs (d + 2) [.ref 148, .ref (3 + 33 + 2 * g), .int (zAbove.getD (nI b / 10 - 1).toNatClampNeg 0), .int 1, .int (x + 1), .int (nI (e + 1))] (zmk J2 L M) K) ∧
      (nI b = 60 → zCI C Y_X8_runs (d + 2) [.ref 148, .ref (3 + 33 + 2 * g), .int (zAbove.getD (nI b / 10 - 1).toNatClampNeg 0), .int 2, .int (x - J2 (3 + 33 + 2 * g) 0), .int (nI (e + 1))] (zmk J2 L M) K) ∧
      (nI b = 70 → zCI C Y_X8_runs (d + 2) [.ref 148, .ref (3 + 33 + 2 * g), .int (zAbove.getD (nI b / 10 - 1).toNatClampNeg 0), .int 1, .int x, .int (nI (e + 1))] (zmk J2 L M) (fun r12 I12 L12 M12 => zCI C Y_X8_runs (d + 2) [.ref 148, .ref (3 + 33 + 2 * g), .int (zAbove.getD (nI b / 10 - 1).toNatClampNeg 0), .int 0, .int 2, .int (nI (e + 1))] (zmk I12 L12 M12) (fun r13 I13 L13 M13 => K (r12 + r13) I13 L13 M13))) ∧
      (nI b = 71 → zCI C Y_X8_runs (d + 2) [.ref 148, .ref (3 + 33 + 2 * g), .int (zAbove.getD (nI b / 10 - 1).toNatClampNeg 0), .int 0, .int x, .int (nI (e + 1))] (zmk J2 L M) (fun r I3 L3 M3 => K (r ^^^ I3 (3 + 33 + 2 * g) 2) I3 L3 M3)) ∧
      (¬ nI b = 10 → ¬ nI b = 11 → ¬ nI b = 12 → ¬ nI b = 20 → ¬ nI b = 30 → ¬ nI b = 40 → ¬ nI b = 50 → ¬ nI b = 51 → ¬ nI b = 60 → ¬ nI b = 70 → ¬ nI b = 71 → K 0 J2 L M))) :
    zCI C Y_X8_runs (d + 3) [.ref 148, .ref (3 + 33 + 2 * g), .int (nI k), .int (nI a), .int x, .int (nI e)] (zmk J L M) K := by
  refine t_X8_runs d _ _ _ _ ((gI i0) g hg) _ ?_
  refine sp_bf d k a hk ha _ ?_
  rw [hb]
  refine br_f hb0 (br_t ((nI_le_iff (b := 40) (by omega) (by omega)).mpr he) ?_)
  refine sp_note (d + 1) h hl _ fun J2 h2 => ⟨hb7, ?_⟩
  rw [nI_1]
  exact T J2 h2
end SM
