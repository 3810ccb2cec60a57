section SM
variable {C : zC} {I I' : Nat → Nat → Int32} {L L' : Nat → Nat → Int64} {M : Nat → Nat → Option Nat}
abbrev KI : Type := Int32 → (Nat → Nat → Int32) → (Nat → Nat → Int64) → (Nat → Nat → Option Nat) → Prop
theorem cS0 (d : Nat) {g e : Nat} {v : Int32} {l : List Nat} {J : Nat → Nat → Int32} (x : Int32) (hg : g < 6) (he : e + 3 ≤ 40) (hl : l.length + 1 ≤ 20) (hn : I (3 + 33 + 2 * g) 0 = nI g) (hv : I (3 + 33 + 2 * g) 2 = v) (h : TC I l J) (K : KI) (hK : ∀ J', TC I (l ++ slL 0) J' → K (slA (nI g) v 0 x) J' L M) : zCI C Y_X8_runs (d + 4) [.ref 148, .ref (3 + 33 + 2 * g), .int (nI 0), .int (nI 0), .int x, .int (nI e)] (zmk J L M) K := by
  have f : ∀ J3 l3, TC I l3 J3 → ∀ j, J3 (3 + 33 + 2 * g) j = I (3 + 33 + 2 * g) j := fun J3 l3 h3 j => h3.1 _ _ (by omega) (by omega)
  refine cRun (d + 1) hg (by decide) (by decide) (by omega) (by omega) h (b := 10) (by decide) (by decide) (by unfold vp_in; decide) _ fun J2 h2 => ⟨fun _ => ?_, fun z => absurd z (by decide), fun z => absurd z (by decide), fun z => absurd z (by decide), fun z => absurd z (by decide), fun z => absurd z (by decide), fun z => absurd z (by decide), fun z => absurd z (by decide), fun z => absurd z (by decide), fun z => absurd z (by decide), fun z => absurd z (by decide), fun z _ _ _ _ _ _ _ _ _ _ => absurd rfl z⟩
  rw [f _ _ h2, hn]
  exact hK J2 h2
theorem cS1 (d : Nat) {g e : Nat} {v : Int32} {l : List Nat} {J : Nat → Nat → Int32} (x : Int32) (hg : g < 6) (he : e + 3 ≤ 40) (hl : l.length + 1 ≤ 20) (hn : I (3 + 33 + 2 * g) 0 = nI g) (hv : I (3 + 33 + 2 * g) 2 = v) (h : TC I l J) (K : KI) (hK : ∀ J', TC I (l ++ slL 1) J' → K (slA (nI g) v 1 x) J' L M) : zCI C Y_X8_runs (d + 4) [.ref 148, .ref (3 + 33 + 2 * g), .int (nI 1), .int (nI 0), .int x, .int (nI e)] (zmk J L M) K := by
  have f : ∀ J3 l3, TC I l3 J3 → ∀ j, J3 (3 + 33 + 2 * g) j = I (3 + 33 + 2 * g) j := fun J3 l3 h3 j => h3.1 _ _ (by omega) (by omega)
  refine cRun (d + 1) hg (by decide) (by decide) (by omega) (by omega) h (b := 10) (by decide) (by decide) (by unfold vp_in; decide) _ fun J2 h2 => ⟨fun _ => ?_, fun z => absurd z (by decide), fun z => absurd z (by decide), fun z => absurd z (by decide), fun z => absurd z (by decide), fun z => absurd z (by decide), fun z => absurd z (by decide), fun z => absurd z (by decide), fun z => absurd z (by decide), fun z => absurd z (by decide), fun z => absurd z (by decide), fun z _ _ _ _ _ _ _ _ _ _ => absurd rfl z⟩
  rw [f _ _ h2, hn]
  exact hK J2 h2
theorem cS3 (d : Nat) {g e : Nat} {v : Int32} {l : List Nat} {J : Nat → Nat → Int32} (x : Int32) (hg : g < 6) (he : e + 3 ≤ 40) (hl : l.length + 1 ≤ 20) (hn : I (3 + 33 + 2 * g) 0 = nI g) (hv : I (3 + 33 + 2 * g) 2 = v) (h : TC I l J) (K : KI) (hK : ∀ J', TC I (l ++ slL 3) J' → K (slA (nI g) v 3 x) J' L M) : zCI C Y_X8_runs (d + 4) [.ref 148, .ref (3 + 33 + 2 * g), .int (nI 3), .int (nI 0), .int x, .int (nI e)] (zmk J L M) K := by
  have f : ∀ J3 l3, TC I l3 J3 → ∀ j, J3 (3 + 33 + 2 * g) j = I (3 + 33 + 2 * g) j := fun J3 l3 h3 j => h3.1 _ _ (by omega) (by omega)
  refine cRun (d + 1) hg (by decide) (by decide) (by omega) (by omega) h (b := 10) (by decide) (by decide) (by unfold vp_in; decide) _ fun J2 h2 => ⟨fun _ => ?_, fun z => absurd z (by decide), fun z => absurd z (by decide), fun z => absurd z (by decide), fun z => absurd z (by decide), fun z => absurd z (by decide), fun z => absurd z (by decide), fun z => absurd z (by decide), fun z => absurd z (by decide), fun z => absurd z (by decide), fun z => absurd z (by decide), fun z _ _ _ _ _ _ _ _ _ _ => absurd rfl z⟩
  rw [f _ _ h2, hn]
  exact hK J2 h2
theorem cS2 (d : Nat) {g e : Nat} {v : Int32} {l : List Nat} {J : Nat → Nat → Int32} (x : Int32) (hg : g < 6) (he : e + 5 ≤ 40) (hl : l.length + 2 ≤ 20) (hn : I (3 + 33 + 2 * g) 0 = nI g) (hv : I (3 + 33 + 2 * g) 2 = v) (h : TC I l J) (K : KI) (hK : ∀ J', TC I (l ++ slL 2) J' → K (slA (nI g) v 2 x) J' L M) : zCI C Y_X8_runs (d + 8) [.ref 148, .ref (3 + 33 + 2 * g), .int (nI 2), .int (nI 0), .int x, .int (nI e)] (zmk J L M) K := by
  have f : ∀ J3 l3, TC I l3 J3 → ∀ j, J3 (3 + 33 + 2 * g) j = I (3 + 33 + 2 * g) j := fun J3 l3 h3 j => h3.1 _ _ (by omega) (by omega)
  refine cRun (d + 5) hg (by decide) (by decide) (by omega) (by omega) h (b := 30) (by decide) (by decide) (by unfold vp_in; decide) _ fun J2 h2 => ⟨fun z => absurd z (by decide), fun z => absurd z (by decide), fun z => absurd z (by decide), fun z => absurd z (by decide), fun _ => ?_, fun z => absurd z (by decide), fun z => absurd z (by decide), fun z => absurd z (by decide), fun z => absurd z (by decide), fun z => absurd z (by decide), fun z => absurd z (by decide), fun _ _ _ _ z _ _ _ _ _ _ => absurd rfl z⟩
  refine cS0 (d + 3) (x * 3) hg (by omega) (by rw [List.length_append]; simp; omega) hn hv h2 _ fun J3 h3 => hK J3 ?_
  rw [List.append_assoc] at h3
  exact h3
theorem cS5 (d : Nat) {g e : Nat} {v : Int32} {l : List Nat} {J : Nat → Nat → Int32} (x : Int32) (hg : g < 6) (he : e + 5 ≤ 40) (hl : l.length + 2 ≤ 20) (hn : I (3 + 33 + 2 * g) 0 = nI g) (hv : I (3 + 33 + 2 * g) 2 = v) (h : TC I l J) (K : KI) (hK : ∀ J', TC I (l ++ slL 5) J' → K (slA (nI g) v 5 x) J' L M) : zCI C Y_X8_runs (d + 8) [.ref 148, .ref (3 + 33 + 2 * g), .int (nI 5), .int (nI 0), .int x, .int (nI e)] (zmk J L M) K := by
  have f : ∀ J3 l3, TC I l3 J3 → ∀ j, J3 (3 + 33 + 2 * g) j = I (3 + 33 + 2 * g) j := fun J3 l3 h3 j => h3.1 _ _ (by omega) (by omega)
  refine cRun (d + 5) hg (by decide) (by decide) (by omega) (by omega) h (b := 30) (by decide) (by decide) (by unfold vp_in; decide) _ fun J2 h2 => ⟨fun z => absurd z (by decide), fun z => absurd z (by decide), fun z => absurd z (by decide), fun z => absurd z (by decide), fun _ => ?_, fun z => absurd z (by decide), fun z => absurd z (by decide), fun z => absurd z (by decide), fun z => absurd z (by decide), fun z => absurd z (by decide), fun z => absurd z (by decide), fun _ _ _ _ z _ _ _ _ _ _ => absurd rfl z⟩
  refine cS0 (d + 3) (x * 3) hg (by omega) (by rw [List.length_append]; simp; omega) hn hv h2 _ fun J3 h3 => hK J3 ?_
  rw [List.append_assoc] at h3
  exact h3
theorem cS4 (d : Nat) {g e : Nat} {v : Int32} {l : List Nat} {J : Nat → Nat → Int32} (x : Int32) (hg : g < 6) (he : e + 5 ≤ 40) (hl : l.length + 2 ≤ 20) (hn : I (3 + 33 + 2 * g) 0 = nI g) (hv : I (3 + 33 + 2 * g) 2 = v) (h : TC I l J) (K : KI) (hK : ∀ J', TC I (l ++ slL 4) J' → K (slA (nI g) v 4 x) J' L M) : zCI C Y_X8_runs (d + 8) [.ref 148, .ref (3 + 33 + 2 * g), .int (nI 4), .int (nI 0), .int x, .int (nI e)] (zmk J L M) K := by
  have f : ∀ J3 l3, TC I l3 J3 → ∀ j, J3 (3 + 33 + 2 * g) j = I (3 + 33 + 2 * g) j := fun J3 l3 h3 j => h3.1 _ _ (by omega) (by omega)
  refine cRun (d + 5) hg (by decide) (by decide) (by omega) (by omega) h (b := 50) (by decide) (by decide) (by unfold vp_in; decide) _ fun J2 h2 => ⟨fun z => absurd z (by decide), fun z => absurd z (by decide), fun z => absurd z (by decide), fun z => absurd z (by decide), fun z => absurd z (by decide), fun z => absurd z (by decide), fun _ => ?_, fun z => absurd z (by decide), fun z => absurd z (by decide), fun z => absurd z (by decide), fun z => absurd z (by decide), fun _ _ _ _ _ _ z _ _ _ _ => absurd rfl z⟩
  refine cS1 (d + 3) x hg (by omega) (by rw [List.length_append]; simp; omega) hn hv h2 _ fun J3 h3 => hK J3 ?_
  rw [List.append_assoc] at h3
  exact h3
theorem cS6 (d : Nat) {g e : Nat} {v : Int32} {l : List Nat} {J : Nat → Nat → Int32} (x : Int32) (hg : g < 6) (he : e + 5 ≤ 40) (hl : l.length + 2 ≤ 20) (hn : I (3 + 33 + 2 * g) 0 = nI g) (hv : I (3 + 33 + 2 * g) 2 = v) (h : TC I l J) (K : KI) (hK : ∀ J', TC I (l ++ slL 6) J' → K (slA (nI g) v 6 x) J' L M) : zCI C Y_X8_runs (d + 8) [.ref 148, .ref (3 + 33 + 2 * g), .int (nI 6), .int (nI 0), .int x, .int (nI e)] (zmk J L M) K := by
  have f : ∀ J3 l3, TC I l3 J3 → ∀ j, J3 (3 + 33 + 2 * g) j = I (3 + 33 + 2 * g) j := fun J3 l3 h3 j => h3.1 _ _ (by omega) (by omega)
  refine cRun (d + 5) hg (by decide) (by decide) (by omega) (by omega) h (b := 71) (by decide) (by decide) (by unfold vp_in; decide) _ fun J2 h2 => ⟨fun z => absurd z (by decide), fun z => absurd z (by decide), fun z => absurd z (by decide), fun z => absurd z (by decide), fun z => absurd z (by decide), fun z => absurd z (by decide), fun z => absurd z (by decide), fun z => absurd z (by decide), fun z => absurd z (by decide), fun z => absurd z (by decide), fun _ => ?_, fun _ _ _ _ _ _ _ _ _ _ z => absurd rfl z⟩
  refine cS3 (d + 3) x hg (by omega) (by rw [List.length_append]; simp; omega) hn hv h2 _ fun J3 h3 => ?_
  rw [f _ _ h3, hv]
  refine hK J3 ?_
  rw [List.append_assoc] at h3
  exact h3
theorem cS (d : Nat) {g e k : Nat} {v : Int32} {l : List Nat} {J : Nat → Nat → Int32} (x : Int32) (hg : g < 6) (hk : k < 7) (he : e + 5 ≤ 40) (hl : l.length + 2 ≤ 20) (hn : I (3 + 33 + 2 * g) 0 = nI g) (hv : I (3 + 33 + 2 * g) 2 = v) (h : TC I l J) (K : KI) (hK : ∀ J', TC I (l ++ slL k) J' → K (slA (nI g) v k x) J' L M) : zCI C Y_X8_runs (d + 8) [.ref 148, .ref (3 + 33 + 2 * g), .int (nI k), .int (nI 0), .int x, .int (nI e)] (zmk J L M) K := by
  rcases (by omega : k = 0 ∨ k = 1 ∨ k = 2 ∨ k = 3 ∨ k = 4 ∨ k = 5 ∨ k = 6) with rfl | rfl | rfl | rfl | rfl | rfl | rfl
  · exact cS0 (d + 4) x hg (by omega) (by omega) hn hv h K hK
  · exact cS1 (d + 4) x hg (by omega) (by omega) hn hv h K hK
  · exact cS2 (d + 0) x hg (by omega) (by omega) hn hv h K hK
  · exact cS3 (d + 4) x hg (by omega) (by omega) hn hv h K hK
  · exact cS4 (d + 0) x hg (by omega) (by omega) hn hv h K hK
  · exact cS5 (d + 0) x hg (by omega) (by omega) hn hv h K hK
  · exact cS6 (d + 0) x hg (by omega) (by omega) hn hv h K hK
theorem cW0 (d : Nat) {g e : Nat} {v : Int32} {l : List Nat} {J : Nat → Nat → Int32} (x : Int32) (hg : g < 6) (he : e + 6 ≤ 40) (hl : l.length + 3 ≤ 20) (hn : I (3 + 33 + 2 * g) 0 = nI g) (hv : I (3 + 33 + 2 * g) 2 = v) {k0 : Nat} (hk0 : k0 < 7) (h1 : I (3 + 33 + 2 * g) 1 = nI k0) (h : TC I l J) (K : KI) (hK : ∀ J', TC I (l ++ wkL k0 0) J' → K (wkA (nI g) v k0 0 x) J' L M) : zCI C Y_X8_runs (d + 13) [.ref 148, .ref (3 + 33 + 2 * g), .int (nI 0), .int (nI 1), .int x, .int (nI e)] (zmk J L M) K := by
  have f : ∀ J3 l3, TC I l3 J3 → ∀ j, J3 (3 + 33 + 2 * g) j = I (3 + 33 + 2 * g) j := fun J3 l3 h3 j => h3.1 _ _ (by omega) (by omega)
  refine cRun (d + 10) hg (by decide) (by decide) (by omega) (by omega) h (b := 11) (by decide) (by decide) (by unfold vp_in; decide) _ fun J2 h2 => ⟨fun z => absurd z (by decide), fun _ => ?_, fun z => absurd z (by decide), fun z => absurd z (by decide), fun z => absurd z (by decide), fun z => absurd z (by decide), fun z => absurd z (by decide), fun z => absurd z (by decide), fun z => absurd z (by decide), fun z => absurd z (by decide), fun z => absurd z (by decide), fun _ z _ _ _ _ _ _ _ _ _ => absurd rfl z⟩
  refine t_X8_own (d + 11) _ _ _ ((gI i0) g hg) _ ?_
  rw [f _ _ h2, h1]
  refine cS (d + 3) x hg hk0 (by omega) (by rw [List.length_append]; simp; omega) hn hv h2 _ fun J3 h3 => ?_
  rw [f _ _ h3, hv]
  refine hK J3 ?_
  rw [List.append_assoc] at h3
  exact h3
theorem cW2 (d : Nat) {g e : Nat} {v : Int32} {l : List Nat} {J : Nat → Nat → Int32} (x : Int32) (hg : g < 6) (he : e + 6 ≤ 40) (hl : l.length + 3 ≤ 20) (hn : I (3 + 33 + 2 * g) 0 = nI g) (hv : I (3 + 33 + 2 * g) 2 = v) {k0 : Nat} (hk0 : k0 < 7) (h1 : I (3 + 33 + 2 * g) 1 = nI k0) (h : TC I l J) (K : KI) (hK : ∀ J', TC I (l ++ wkL k0 2) J' → K (wkA (nI g) v k0 2 x) J' L M) : zCI C Y_X8_runs (d + 13) [.ref 148, .ref (3 + 33 + 2 * g), .int (nI 2), .int (nI 1), .int x, .int (nI e)] (zmk J L M) K := by
  have f : ∀ J3 l3, TC I l3 J3 → ∀ j, J3 (3 + 33 + 2 * g) j = I (3 + 33 + 2 * g) j := fun J3 l3 h3 j => h3.1 _ _ (by omega) (by omega)
  refine cRun (d + 10) hg (by decide) (by decide) (by omega) (by omega) h (b := 11) (by decide) (by decide) (by unfold vp_in; decide) _ fun J2 h2 => ⟨fun z => absurd z (by decide), fun _ => ?_, fun z => absurd z (by decide), fun z => absurd z (by decide), fun z => absurd z (by decide), fun z => absurd z (by decide), fun z => absurd z (by decide), fun z => absurd z (by decide), fun z => absurd z (by decide), fun z => absurd z (by decide), fun z => absurd z (by decide), fun _ z _ _ _ _ _ _ _ _ _ => absurd rfl z⟩
  refine t_X8_own (d + 11) _ _ _ ((gI i0) g hg) _ ?_
  rw [f _ _ h2, h1]
  refine cS (d + 3) x hg hk0 (by omega) (by rw [List.length_append]; simp; omega) hn hv h2 _ fun J3 h3 => ?_
  rw [f _ _ h3, hv]
  refine hK J3 ?_
  rw [List.append_assoc] at h3
  exact h3
theorem cW3 (d : Nat) {g e : Nat} {v : Int32} {l : List Nat} {J : Nat → Nat → Int32} (x : Int32) (hg : g < 6) (he : e + 6 ≤ 40) (hl : l.length + 3 ≤ 20) (hn : I (3 + 33 + 2 * g) 0 = nI g) (hv : I (3 + 33 + 2 * g) 2 = v) {k0 : Nat} (hk0 : k0 < 7) (h1 : I (3 + 33 + 2 * g) 1 = nI k0) (h : TC I l J) (K : KI) (hK : ∀ J', TC I (l ++ wkL k0 3) J' → K (wkA (nI g) v k0 3 x) J' L M) : zCI C Y_X8_runs (d + 13) [.ref 148, .ref (3 + 33 + 2 * g), .int (nI 3), .int (nI 1), .int x, .int (nI e)] (zmk J L M) K := by
  have f : ∀ J3 l3, TC I l3 J3 → ∀ j, J3 (3 + 33 + 2 * g) j = I (3 + 33 + 2 * g) j := fun J3 l3 h3 j => h3.1 _ _ (by omega) (by omega)
  refine cRun (d + 10) hg (by decide) (by decide) (by omega) (by omega) h (b := 11) (by decide) (by decide) (by unfold vp_in; decide) _ fun J2 h2 => ⟨fun z => absurd z (by decide), fun _ => ?_, fun z => absurd z (by decide), fun z => absurd z (by decide), fun z => absurd z (by decide), fun z => absurd z (by decide), fun z => absurd z (by decide), fun z => absurd z (by decide), fun z => absurd z (by decide), fun z => absurd z (by decide), fun z => absurd z (by decide), fun _ z _ _ _ _ _ _ _ _ _ => absurd rfl z⟩
  refine t_X8_own (d + 11) _ _ _ ((gI i0) g hg) _ ?_
  rw [f _ _ h2, h1]
  refine cS (d + 3) x hg hk0 (by omega) (by rw [List.length_append]; simp; omega) hn hv h2 _ fun J3 h3 => ?_
  rw [f _ _ h3, hv]
  refine hK J3 ?_
  rw [List.append_assoc] at h3
  exact h3
theorem cW5 (d : Nat) {g e : Nat} {v : Int32} {l : List Nat} {J : Nat → Nat → Int32} (x : Int32) (hg : g < 6) (he : e + 6 ≤ 40) (hl : l.length + 3 ≤ 20) (hn : I (3 + 33 + 2 * g) 0 = nI g) (hv : I (3 + 33 + 2 * g) 2 = v) {k0 : Nat} (hk0 : k0 < 7) (h1 : I (3 + 33 + 2 * g) 1 = nI k0) (h : TC I l J) (K : KI) (hK : ∀ J', TC I (l ++ wkL k0 5) J' → K (wkA (nI g) v k0 5 x) J' L M) : zCI C Y_X8_runs (d + 13) [.ref 148, .ref (3 + 33 + 2 * g), .int (nI 5), .int (nI 1), .int x, .int (nI e)] (zmk J L M) K := by
  have f : ∀ J3 l3, TC I l3 J3 → ∀ j, J3 (3 + 33 + 2 * g) j = I (3 + 33 + 2 * g) j := fun J3 l3 h3 j => h3.1 _ _ (by omega) (by omega)
  refine cRun (d + 10) hg (by decide) (by decide) (by omega) (by omega) h (b := 11) (by decide) (by decide) (by unfold vp_in; decide) _ fun J2 h2 => ⟨fun z => absurd z (by decide), fun _ => ?_, fun z => absurd z (by decide), fun z => absurd z (by decide), fun z => absurd z (by decide), fun z => absurd z (by decide), fun z => absurd z (by decide), fun z => absurd z (by decide), fun z => absurd z (by decide), fun z => absurd z (by decide), fun z => absurd z (by decide), fun _ z _ _ _ _ _ _ _ _ _ => absurd rfl z⟩
  refine t_X8_own (d + 11) _ _ _ ((gI i0) g hg) _ ?_
  rw [f _ _ h2, h1]
  refine cS (d + 3) x hg hk0 (by omega) (by rw [List.length_append]; simp; omega) hn hv h2 _ fun J3 h3 => ?_
  rw [f _ _ h3, hv]
  refine hK J3 ?_
  rw [List.append_assoc] at h3
  exact h3
theorem cW1 (d : Nat) {g e : Nat} {v : Int32} {l : List Nat} {J : Nat → Nat → Int32} (x : Int32) (hg : g < 6) (he : e + 7 ≤ 40) (hl : l.length + 4 ≤ 20) (hn : I (3 + 33 + 2 * g) 0 = nI g) (hv : I (3 + 33 + 2 * g) 2 = v) {k0 : Nat} (hk0 : k0 < 7) (h1 : I (3 + 33 + 2 * g) 1 = nI k0) (h : TC I l J) (K : KI) (hK : ∀ J', TC I (l ++ wkL k0 1) J' → K (wkA (nI g) v k0 1 x) J' L M) : zCI C Y_X8_runs (d + 17) [.ref 148, .ref (3 + 33 + 2 * g), .int (nI 1), .int (nI 1), .int x, .int (nI e)] (zmk J L M) K := by
  have f : ∀ J3 l3, TC I l3 J3 → ∀ j, J3 (3 + 33 + 2 * g) j = I (3 + 33 + 2 * g) j := fun J3 l3 h3 j => h3.1 _ _ (by omega) (by omega)
  refine cRun (d + 14) hg (by decide) (by decide) (by omega) (by omega) h (b := 20) (by decide) (by decide) (by unfold vp_in; decide) _ fun J2 h2 => ⟨fun z => absurd z (by decide), fun z => absurd z (by decide), fun z => absurd z (by decide), fun _ => ?_, fun z => absurd z (by decide), fun z => absurd z (by decide), fun z => absurd z (by decide), fun z => absurd z (by decide), fun z => absurd z (by decide), fun z => absurd z (by decide), fun z => absurd z (by decide), fun _ _ _ z _ _ _ _ _ _ _ => absurd rfl z⟩
  refine cW0 (d + 3) x hg (by omega) (by rw [List.length_append]; simp; omega) hn hv hk0 h1 h2 _ fun J3 h3 => hK J3 ?_
  rw [List.append_assoc] at h3
  exact h3
theorem cW4 (d : Nat) {g e : Nat} {v : Int32} {l : List Nat} {J : Nat → Nat → Int32} (x : Int32) (hg : g < 6) (he : e + 8 ≤ 40) (hl : l.length + 5 ≤ 20) (hn : I (3 + 33 + 2 * g) 0 = nI g) (hv : I (3 + 33 + 2 * g) 2 = v) {k0 : Nat} (hk0 : k0 < 7) (h1 : I (3 + 33 + 2 * g) 1 = nI k0) (h : TC I l J) (K : KI) (hK : ∀ J', TC I (l ++ wkL k0 4) J' → K (wkA (nI g) v k0 4 x) J' L M) : zCI C Y_X8_runs (d + 20) [.ref 148, .ref (3 + 33 + 2 * g), .int (nI 4), .int (nI 1), .int x, .int (nI e)] (zmk J L M) K := by
  have f : ∀ J3 l3, TC I l3 J3 → ∀ j, J3 (3 + 33 + 2 * g) j = I (3 + 33 + 2 * g) j := fun J3 l3 h3 j => h3.1 _ _ (by omega) (by omega)
  refine cRun (d + 17) hg (by decide) (by decide) (by omega) (by omega) h (b := 51) (by decide) (by decide) (by unfold vp_in; decide) _ fun J2 h2 => ⟨fun z => absurd z (by decide), fun z => absurd z (by decide), fun z => absurd z (by decide), fun z => absurd z (by decide), fun z => absurd z (by decide), fun z => absurd z (by decide), fun z => absurd z (by decide), fun _ => ?_, fun z => absurd z (by decide), fun z => absurd z (by decide), fun z => absurd z (by decide), fun _ _ _ _ _ _ _ z _ _ _ => absurd rfl z⟩
  refine cW1 (d + 2) (x + 1) hg (by omega) (by rw [List.length_append]; simp; omega) hn hv hk0 h1 h2 _ fun J3 h3 => hK J3 ?_
  rw [List.append_assoc] at h3
  exact h3
theorem cW6 (d : Nat) {g e : Nat} {v : Int32} {l : List Nat} {J : Nat → Nat → Int32} (x : Int32) (hg : g < 6) (he : e + 8 ≤ 40) (hl : l.length + 5 ≤ 20) (hn : I (3 + 33 + 2 * g) 0 = nI g) (hv : I (3 + 33 + 2 * g) 2 = v) {k0 : Nat} (hk0 : k0 < 7) (h1 : I (3 + 33 + 2 * g) 1 = nI k0) (h : TC I l J) (K : KI) (hK : ∀ J', TC I (l ++ wkL k0 6) J' → K (wkA (nI g) v k0 6 x) J' L M) : zCI C Y_X8_runs (d + 20) [.ref 148, .ref (3 + 33 + 2 * g), .int (nI 6), .int (nI 1), .int x, .int (nI e)] (zmk J L M) K := by
  have f : ∀ J3 l3, TC I l3 J3 → ∀ j, J3 (3 + 33 + 2 * g) j = I (3 + 33 + 2 * g) j := fun J3 l3 h3 j => h3.1 _ _ (by omega) (by omega)
  refine cRun (d + 17) hg (by decide) (by decide) (by omega) (by omega) h (b := 70) (by decide) (by decide) (by unfold vp_in; decide) _ fun J2 h2 => ⟨fun z => absurd z (by decide), fun z => absurd z (by decide), fun z => absurd z (by decide), fun z => absurd z (by decide), fun z => absurd z (by decide), fun z => absurd z (by decide), fun z => absurd z (by decide), fun z => absurd z (by decide), fun z => absurd z (by decide), fun _ => ?_, fun z => absurd z (by decide), fun _ _ _ _ _ _ _ _ _ z _ => absurd rfl z⟩
  refine cW3 (d + 6) x hg (by omega) (by rw [List.length_append]; simp; omega) hn hv hk0 h1 h2 _ fun J3 h3 => ?_
  have n3 := w0L_n k0 hk0
  refine cS3 (d + 15) 2 hg (by omega) (by rw [List.length_append, List.length_append, show wkL k0 3 = w0L k0 from rfl]; simp; omega) hn hv h3 _ fun J4 h4 => hK J4 ?_
  rw [List.append_assoc, List.append_assoc] at h4
  exact h4
theorem cW (d : Nat) {g e k k0 : Nat} {v : Int32} {l : List Nat} {J : Nat → Nat → Int32} (x : Int32) (hg : g < 6) (hk : k < 7) (he : e + 8 ≤ 40) (hl : l.length + 5 ≤ 20) (hn : I (3 + 33 + 2 * g) 0 = nI g) (hv : I (3 + 33 + 2 * g) 2 = v) (hk0 : k0 < 7) (h1 : I (3 + 33 + 2 * g) 1 = nI k0) (h : TC I l J) (K : KI) (hK : ∀ J', TC I (l ++ wkL k0 k) J' → K (wkA (nI g) v k0 k x) J' L M) : zCI C Y_X8_runs (d + 20) [.ref 148, .ref (3 + 33 + 2 * g), .int (nI k), .int (nI 1), .int x, .int (nI e)] (zmk J L M) K := by
  rcases (by omega : k = 0 ∨ k = 1 ∨ k = 2 ∨ k = 3 ∨ k = 4 ∨ k = 5 ∨ k = 6) with rfl | rfl | rfl | rfl | rfl | rfl | rfl
  · exact cW0 (d + 7) x hg (by omega) (by omega) hn hv hk0 h1 h K hK
  · exact cW1 (d + 3) x hg (by omega) (by omega) hn hv hk0 h1 h K hK
  · exact cW2 (d + 7) x hg (by omega) (by omega) hn hv hk0 h1 h K hK
  · exact cW3 (d + 7) x hg (by omega) (by omega) hn hv hk0 h1 h K hK
  · exact cW4 (d + 0) x hg (by omega) (by omega) hn hv hk0 h1 h K hK
  · exact cW5 (d + 7) x hg (by omega) (by omega) hn hv hk0 h1 h K hK
  · exact cW6 (d + 0) x hg (by omega) (by omega) hn hv hk0 h1 h K hK
theorem cT0 (d : Nat) {g e : Nat} {v : Int32} {l : List Nat} {J : Nat → Nat → Int32} (x : Int32) (hg : g < 6) (he : e + 9 ≤ 40) (hl : l.length + 6 ≤ 20) (hn : I (3 + 33 + 2 * g) 0 = nI g) (hv : I (3 + 33 + 2 * g) 2 = v) {k0 : Nat} (hk0 : k0 < 7) (h1 : I (3 + 33 + 2 * g) 1 = nI k0) (h : TC I l J) (K : KI) (hK : ∀ J', TC I (l ++ tlL k0 0) J' → K (tlA (nI g) v k0 0 x) J' L M) : zCI C Y_X8_runs (d + 26) [.ref 148, .ref (3 + 33 + 2 * g), .int (nI 0), .int (nI 2), .int x, .int (nI e)] (zmk J L M) K := by
  have f : ∀ J3 l3, TC I l3 J3 → ∀ j, J3 (3 + 33 + 2 * g) j = I (3 + 33 + 2 * g) j := fun J3 l3 h3 j => h3.1 _ _ (by omega) (by omega)
  refine cRun (d + 23) hg (by decide) (by decide) (by omega) (by omega) h (b := 12) (by decide) (by decide) (by unfold vp_in; decide) _ fun J2 h2 => ⟨fun z => absurd z (by decide), fun z => absurd z (by decide), fun _ => ?_, fun z => absurd z (by decide), fun z => absurd z (by decide), fun z => absurd z (by decide), fun z => absurd z (by decide), fun z => absurd z (by decide), fun z => absurd z (by decide), fun z => absurd z (by decide), fun z => absurd z (by decide), fun _ _ z _ _ _ _ _ _ _ _ => absurd rfl z⟩
  refine t_X8_own (d + 24) _ _ _ ((gI i0) g hg) _ ?_
  rw [f _ _ h2, h1]
  refine cW (d + 4) x hg hk0 (by omega) (by rw [List.length_append]; simp; omega) hn hv hk0 h1 h2 _ fun J3 h3 => hK J3 ?_
  rw [List.append_assoc] at h3
  exact h3
theorem cT1 (d : Nat) {g e : Nat} {v : Int32} {l : List Nat} {J : Nat → Nat → Int32} (x : Int32) (hg : g < 6) (he : e + 9 ≤ 40) (hl : l.length + 6 ≤ 20) (hn : I (3 + 33 + 2 * g) 0 = nI g) (hv : I (3 + 33 + 2 * g) 2 = v) {k0 : Nat} (hk0 : k0 < 7) (h1 : I (3 + 33 + 2 * g) 1 = nI k0) (h : TC I l J) (K : KI) (hK : ∀ J', TC I (l ++ tlL k0 1) J' → K (tlA (nI g) v k0 1 x) J' L M) : zCI C Y_X8_runs (d + 26) [.ref 148, .ref (3 + 33 + 2 * g), .int (nI 1), .int (nI 2), .int x, .int (nI e)] (zmk J L M) K := by
  have f : ∀ J3 l3, TC I l3 J3 → ∀ j, J3 (3 + 33 + 2 * g) j = I (3 + 33 + 2 * g) j := fun J3 l3 h3 j => h3.1 _ _ (by omega) (by omega)
  refine cRun (d + 23) hg (by decide) (by decide) (by omega) (by omega) h (b := 12) (by decide) (by decide) (by unfold vp_in; decide) _ fun J2 h2 => ⟨fun z => absurd z (by decide), fun z => absurd z (by decide), fun _ => ?_, fun z => absurd z (by decide), fun z => absurd z (by decide), fun z => absurd z (by decide), fun z => absurd z (by decide), fun z => absurd z (by decide), fun z => absurd z (by decide), fun z => absurd z (by decide), fun z => absurd z (by decide), fun _ _ z _ _ _ _ _ _ _ _ => absurd rfl z⟩
  refine t_X8_own (d + 24) _ _ _ ((gI i0) g hg) _ ?_
  rw [f _ _ h2, h1]
  refine cW (d + 4) x hg hk0 (by omega) (by rw [List.length_append]; simp; omega) hn hv hk0 h1 h2 _ fun J3 h3 => hK J3 ?_
  rw [List.append_assoc] at h3
  exact h3
theorem cT2 (d : Nat) {g e : Nat} {v : Int32} {l : List Nat} {J : Nat → Nat → Int32} (x : Int32) (hg : g < 6) (he : e + 9 ≤ 40) (hl : l.length + 6 ≤ 20) (hn : I (3 + 33 + 2 * g) 0 = nI g) (hv : I (3 + 33 + 2 * g) 2 = v) {k0 : Nat} (hk0 : k0 < 7) (h1 : I (3 + 33 + 2 * g) 1 = nI k0) (h : TC I l J) (K : KI) (hK : ∀ J', TC I (l ++ tlL k0 2) J' → K (tlA (nI g) v k0 2 x) J' L M) : zCI C Y_X8_runs (d + 26) [.ref 148, .ref (3 + 33 + 2 * g), .int (nI 2), .int (nI 2), .int x, .int (nI e)] (zmk J L M) K := by
  have f : ∀ J3 l3, TC I l3 J3 → ∀ j, J3 (3 + 33 + 2 * g) j = I (3 + 33 + 2 * g) j := fun J3 l3 h3 j => h3.1 _ _ (by omega) (by omega)
  refine cRun (d + 23) hg (by decide) (by decide) (by omega) (by omega) h (b := 12) (by decide) (by decide) (by unfold vp_in; decide) _ fun J2 h2 => ⟨fun z => absurd z (by decide), fun z => absurd z (by decide), fun _ => ?_, fun z => absurd z (by decide), fun z => absurd z (by decide), fun z => absurd z (by decide), fun z => absurd z (by decide), fun z => absurd z (by decide), fun z => absurd z (by decide), fun z => absurd z (by decide), fun z => absurd z (by decide), fun _ _ z _ _ _ _ _ _ _ _ => absurd rfl z⟩
  refine t_X8_own (d + 24) _ _ _ ((gI i0) g hg) _ ?_
  rw [f _ _ h2, h1]
  refine cW (d + 4) x hg hk0 (by omega) (by rw [List.length_append]; simp; omega) hn hv hk0 h1 h2 _ fun J3 h3 => hK J3 ?_
  rw [List.append_assoc] at h3
  exact h3
theorem cT4 (d : Nat) {g e : Nat} {v : Int32} {l : List Nat} {J : Nat → Nat → Int32} (x : Int32) (hg : g < 6) (he : e + 9 ≤ 40) (hl : l.length + 6 ≤ 20) (hn : I (3 + 33 + 2 * g) 0 = nI g) (hv : I (3 + 33 + 2 * g) 2 = v) {k0 : Nat} (hk0 : k0 < 7) (h1 : I (3 + 33 + 2 * g) 1 = nI k0) (h : TC I l J) (K : KI) (hK : ∀ J', TC I (l ++ tlL k0 4) J' → K (tlA (nI g) v k0 4 x) J' L M) : zCI C Y_X8_runs (d + 26) [.ref 148, .ref (3 + 33 + 2 * g), .int (nI 4), .int (nI 2), .int x, .int (nI e)] (zmk J L M) K := by
  have f : ∀ J3 l3, TC I l3 J3 → ∀ j, J3 (3 + 33 + 2 * g) j = I (3 + 33 + 2 * g) j := fun J3 l3 h3 j => h3.1 _ _ (by omega) (by omega)
  refine cRun (d + 23) hg (by decide) (by decide) (by omega) (by omega) h (b := 12) (by decide) (by decide) (by unfold vp_in; decide) _ fun J2 h2 => ⟨fun z => absurd z (by decide), fun z => absurd z (by decide), fun _ => ?_, fun z => absurd z (by decide), fun z => absurd z (by decide), fun z => absurd z (by decide), fun z => absurd z (by decide), fun z => absurd z (by decide), fun z => absurd z (by decide), fun z => absurd z (by decide), fun z => absurd z (by decide), fun _ _ z _ _ _ _ _ _ _ _ => absurd rfl z⟩
  refine t_X8_own (d + 24) _ _ _ ((gI i0) g hg) _ ?_
  rw [f _ _ h2, h1]
  refine cW (d + 4) x hg hk0 (by omega) (by rw [List.length_append]; simp; omega) hn hv hk0 h1 h2 _ fun J3 h3 => hK J3 ?_
  rw [List.append_assoc] at h3
  exact h3
theorem cT3 (d : Nat) {g e : Nat} {v : Int32} {l : List Nat} {J : Nat → Nat → Int32} (x : Int32) (hg : g < 6) (he : e + 14 ≤ 40) (hl : l.length + 12 ≤ 20) (hn : I (3 + 33 + 2 * g) 0 = nI g) (hv : I (3 + 33 + 2 * g) 2 = v) {k0 : Nat} (hk0 : k0 < 7) (h1 : I (3 + 33 + 2 * g) 1 = nI k0) (h : TC I l J) (K : KI) (hK : ∀ J', TC I (l ++ tlL k0 3) J' → K (tlA (nI g) v k0 3 x) J' L M) : zCI C Y_X8_runs (d + 30) [.ref 148, .ref (3 + 33 + 2 * g), .int (nI 3), .int (nI 2), .int x, .int (nI e)] (zmk J L M) K := by
  have f : ∀ J3 l3, TC I l3 J3 → ∀ j, J3 (3 + 33 + 2 * g) j = I (3 + 33 + 2 * g) j := fun J3 l3 h3 j => h3.1 _ _ (by omega) (by omega)
  refine cRun (d + 27) hg (by decide) (by decide) (by omega) (by omega) h (b := 40) (by decide) (by decide) (by unfold vp_in; decide) _ fun J2 h2 => ⟨fun z => absurd z (by decide), fun z => absurd z (by decide), fun z => absurd z (by decide), fun z => absurd z (by decide), fun z => absurd z (by decide), fun _ => ?_, fun z => absurd z (by decide), fun z => absurd z (by decide), fun z => absurd z (by decide), fun z => absurd z (by decide), fun z => absurd z (by decide), fun _ _ _ _ _ z _ _ _ _ _ => absurd rfl z⟩
  refine cT0 (d + 3) x hg (by omega) (by rw [List.length_append]; simp; omega) hn hv hk0 h1 h2 _ fun J3 h3 => ?_
  have n3 := wkL_n k0 hk0 k0 hk0
  refine t_X8_own (d + 28) _ _ _ ((gI i0) g hg) _ ?_
  rw [f _ _ h3, h1]
  refine cW (d + 8) 1 hg hk0 (by omega) (by rw [List.length_append, List.length_append, show tlL k0 0 = 12 :: wkL k0 k0 from rfl, List.length_cons]; simp; omega) hn hv hk0 h1 h3 _ fun J4 h4 => hK J4 ?_
  rw [List.append_assoc, List.append_assoc] at h4
  exact h4
theorem cT6 (d : Nat) {g e : Nat} {v : Int32} {l : List Nat} {J : Nat → Nat → Int32} (x : Int32) (hg : g < 6) (he : e + 14 ≤ 40) (hl : l.length + 12 ≤ 20) (hn : I (3 + 33 + 2 * g) 0 = nI g) (hv : I (3 + 33 + 2 * g) 2 = v) {k0 : Nat} (hk0 : k0 < 7) (h1 : I (3 + 33 + 2 * g) 1 = nI k0) (h : TC I l J) (K : KI) (hK : ∀ J', TC I (l ++ tlL k0 6) J' → K (tlA (nI g) v k0 6 x) J' L M) : zCI C Y_X8_runs (d + 30) [.ref 148, .ref (3 + 33 + 2 * g), .int (nI 6), .int (nI 2), .int x, .int (nI e)] (zmk J L M) K := by
  have f : ∀ J3 l3, TC I l3 J3 → ∀ j, J3 (3 + 33 + 2 * g) j = I (3 + 33 + 2 * g) j := fun J3 l3 h3 j => h3.1 _ _ (by omega) (by omega)
  refine cRun (d + 27) hg (by decide) (by decide) (by omega) (by omega) h (b := 40) (by decide) (by decide) (by unfold vp_in; decide) _ fun J2 h2 => ⟨fun z => absurd z (by decide), fun z => absurd z (by decide), fun z => absurd z (by decide), fun z => absurd z (by decide), fun z => absurd z (by decide), fun _ => ?_, fun z => absurd z (by decide), fun z => absurd z (by decide), fun z => absurd z (by decide), fun z => absurd z (by decide), fun z => absurd z (by decide), fun _ _ _ _ _ z _ _ _ _ _ => absurd rfl z⟩
  refine cT0 (d + 3) x hg (by omega) (by rw [List.length_append]; simp; omega) hn hv hk0 h1 h2 _ fun J3 h3 => ?_
  have n3 := wkL_n k0 hk0 k0 hk0
  refine t_X8_own (d + 28) _ _ _ ((gI i0) g hg) _ ?_
  rw [f _ _ h3, h1]
  refine cW (d + 8) 1 hg hk0 (by omega) (by rw [List.length_append, List.length_append, show tlL k0 0 = 12 :: wkL k0 k0 from rfl, List.length_cons]; simp; omega) hn hv hk0 h1 h3 _ fun J4 h4 => hK J4 ?_
  rw [List.append_assoc, List.append_assoc] at h4
  exact h4
theorem cT5 (d : Nat) {g e : Nat} {v : Int32} {l : List Nat} {J : Nat → Nat → Int32} (x : Int32) (hg : g < 6) (he : e + 14 ≤ 40) (hl : l.length + 12 ≤ 20) (hn : I (3 + 33 + 2 * g) 0 = nI g) (hv : I (3 + 33 + 2 * g) 2 = v) {k0 : Nat} (hk0 : k0 < 7) (h1 : I (3 + 33 + 2 * g) 1 = nI k0) (h : TC I l J) (K : KI) (hK : ∀ J', TC I (l ++ tlL k0 5) J' → K (tlA (nI g) v k0 5 x) J' L M) : zCI C Y_X8_runs (d + 30) [.ref 148, .ref (3 + 33 + 2 * g), .int (nI 5), .int (nI 2), .int x, .int (nI e)] (zmk J L M) K := by
  have f : ∀ J3 l3, TC I l3 J3 → ∀ j, J3 (3 + 33 + 2 * g) j = I (3 + 33 + 2 * g) j := fun J3 l3 h3 j => h3.1 _ _ (by omega) (by omega)
  refine cRun (d + 27) hg (by decide) (by decide) (by omega) (by omega) h (b := 60) (by decide) (by decide) (by unfold vp_in; decide) _ fun J2 h2 => ⟨fun z => absurd z (by decide), fun z => absurd z (by decide), fun z => absurd z (by decide), fun z => absurd z (by decide), fun z => absurd z (by decide), fun z => absurd z (by decide), fun z => absurd z (by decide), fun z => absurd z (by decide), fun _ => ?_, fun z => absurd z (by decide), fun z => absurd z (by decide), fun _ _ _ _ _ _ _ _ z _ _ => absurd rfl z⟩
  rw [f _ _ h2, hn]
  refine cT2 (d + 3) (x - nI g) hg (by omega) (by rw [List.length_append]; simp; omega) hn hv hk0 h1 h2 _ fun J3 h3 => hK J3 ?_
  rw [List.append_assoc] at h3
  exact h3
theorem cT (d : Nat) {g e k k0 : Nat} {v : Int32} {l : List Nat} {J : Nat → Nat → Int32} (x : Int32) (hg : g < 6) (hk : k < 7) (he : e + 14 ≤ 40) (hl : l.length + 13 ≤ 20) (hn : I (3 + 33 + 2 * g) 0 = nI g) (hv : I (3 + 33 + 2 * g) 2 = v) (hk0 : k0 < 7) (h1 : I (3 + 33 + 2 * g) 1 = nI k0) (h : TC I l J) (K : KI) (hK : ∀ J', TC I (l ++ tlL k0 k) J' → K (tlA (nI g) v k0 k x) J' L M) : zCI C Y_X8_runs (d + 30) [.ref 148, .ref (3 + 33 + 2 * g), .int (nI k), .int (nI 2), .int x, .int (nI e)] (zmk J L M) K := by
  rcases (by omega : k = 0 ∨ k = 1 ∨ k = 2 ∨ k = 3 ∨ k = 4 ∨ k = 5 ∨ k = 6) with rfl | rfl | rfl | rfl | rfl | rfl | rfl
  · exact cT0 (d + 4) x hg (by omega) (by omega) hn hv hk0 h1 h K hK
  · exact cT1 (d + 4) x hg (by omega) (by omega) hn hv hk0 h1 h K hK
  · exact cT2 (d + 4) x hg (by omega) (by omega) hn hv hk0 h1 h K hK
  · exact cT3 d x hg (by omega) (by omega) hn hv hk0 h1 h K hK
  · exact cT4 (d + 4) x hg (by omega) (by omega) hn hv hk0 h1 h K hK
  · exact cT5 d x hg (by omega) (by omega) hn hv hk0 h1 h K hK
  · exact cT6 d x hg (by omega) (by omega) hn hv hk0 h1 h K hK
end SM
