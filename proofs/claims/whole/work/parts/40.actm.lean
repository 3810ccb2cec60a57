section SM
variable {C : zC} {I I' : Nat → Nat → Int32} {L L' : Nat → Nat → Int64} {M : Nat → Nat → Option Nat}
def abv (k : Nat) : Nat := if k = 4 then 1 else if k = 5 then 2 else if k = 6 then 3 else 0
theorem sp_above (d : Nat) {k : Nat} (hk : k < 7) (K : KI) (hK : K (nI (abv k)) I L M) : zCI C Y_X11_above (d + 1) [.int (nI k)] (zmk I L M) K := by
  refine t_X11_above d _ _ ?_
  rcases (by omega : k = 0 ∨ k = 1 ∨ k = 2 ∨ k = 3 ∨ k = 4 ∨ k = 5 ∨ k = 6) with rfl | rfl | rfl | rfl | rfl | rfl | rfl
  · exact ⟨fun _ => ⟨fun _ => ⟨fun _ => hK, fun z => absurd z (by decide)⟩, fun z => absurd z (by decide)⟩, fun z => absurd z (by decide)⟩
  · exact ⟨fun _ => ⟨fun _ => ⟨fun _ => hK, fun z => absurd z (by decide)⟩, fun z => absurd z (by decide)⟩, fun z => absurd z (by decide)⟩
  · exact ⟨fun _ => ⟨fun _ => ⟨fun _ => hK, fun z => absurd z (by decide)⟩, fun z => absurd z (by decide)⟩, fun z => absurd z (by decide)⟩
  · exact ⟨fun _ => ⟨fun _ => ⟨fun _ => hK, fun z => absurd z (by decide)⟩, fun z => absurd z (by decide)⟩, fun z => absurd z (by decide)⟩
  · exact ⟨fun z => absurd rfl z, fun _ => hK⟩
  · exact ⟨fun _ => ⟨fun z => absurd rfl z, fun _ => hK⟩, fun z => absurd z (by decide)⟩
  · exact ⟨fun _ => ⟨fun _ => ⟨fun z => absurd rfl z, fun _ => hK⟩, fun z => absurd z (by decide)⟩, fun z => absurd z (by decide)⟩
theorem mS0 (d : Nat) {g : Nat} {v : Int32} {l : List Nat} {J : Nat → Nat → Int32} (x : Int32) (hg : g < 6) (hl : l.length + 1 ≤ 20) (hv : I 269 g = v) (h : TM I l J) (K : KI) (hK : ∀ J', TM I (l ++ slL 0) J' → K (slA (nI g) v 0 x) J' L M) : zCI C Y_X11_sleeps (d + 2) [.ref 265, .int (nI g), .int (nI 0), .int x] (zmk J L M) K := by
  have hin := vp_in_nI hg (by omega : 6 < 2 ^ 31)
  have hcl := nI_clamp (n := g) (by omega)
  have f : ∀ J3 l3, TM I l3 J3 → (∀ j, J3 268 j = I 268 j) ∧ (∀ j, J3 269 j = I 269 j) := fun J3 l3 h3 => ⟨fun j => h3.1 _ _ (by omega) (by omega), fun j => h3.1 _ _ (by omega) (by omega)⟩
  refine t_X11_sleeps d _ _ _ _ ⟨fun _ => ?_, fun z => absurd z (by decide), fun z => absurd z (by decide), fun z => absurd z (by decide), fun z => absurd z (by decide), fun z => absurd z (by decide), fun z => absurd z (by decide), fun z => absurd z (by decide)⟩
  refine sp_ran d (b := 10) h (by omega) _ fun J2 h2 => ?_
  exact hK J2 h2
theorem mS1 (d : Nat) {g : Nat} {v : Int32} {l : List Nat} {J : Nat → Nat → Int32} (x : Int32) (hg : g < 6) (hl : l.length + 1 ≤ 20) (hv : I 269 g = v) (h : TM I l J) (K : KI) (hK : ∀ J', TM I (l ++ slL 1) J' → K (slA (nI g) v 1 x) J' L M) : zCI C Y_X11_sleeps (d + 3) [.ref 265, .int (nI g), .int (nI 1), .int x] (zmk J L M) K := by
  have hin := vp_in_nI hg (by omega : 6 < 2 ^ 31)
  have hcl := nI_clamp (n := g) (by omega)
  have f : ∀ J3 l3, TM I l3 J3 → (∀ j, J3 268 j = I 268 j) ∧ (∀ j, J3 269 j = I 269 j) := fun J3 l3 h3 => ⟨fun j => h3.1 _ _ (by omega) (by omega), fun j => h3.1 _ _ (by omega) (by omega)⟩
  refine t_X11_sleeps (d + 1) _ _ _ _ ⟨fun z => absurd z (by decide), fun _ => ?_, fun z => absurd z (by decide), fun z => absurd z (by decide), fun z => absurd z (by decide), fun z => absurd z (by decide), fun z => absurd z (by decide), fun z => absurd z (by decide)⟩
  refine sp_above (d + 1) (k := 1) (by decide) _ ?_
  exact mS0 d x hg hl hv h K hK
theorem mS3 (d : Nat) {g : Nat} {v : Int32} {l : List Nat} {J : Nat → Nat → Int32} (x : Int32) (hg : g < 6) (hl : l.length + 1 ≤ 20) (hv : I 269 g = v) (h : TM I l J) (K : KI) (hK : ∀ J', TM I (l ++ slL 3) J' → K (slA (nI g) v 3 x) J' L M) : zCI C Y_X11_sleeps (d + 3) [.ref 265, .int (nI g), .int (nI 3), .int x] (zmk J L M) K := by
  have hin := vp_in_nI hg (by omega : 6 < 2 ^ 31)
  have hcl := nI_clamp (n := g) (by omega)
  have f : ∀ J3 l3, TM I l3 J3 → (∀ j, J3 268 j = I 268 j) ∧ (∀ j, J3 269 j = I 269 j) := fun J3 l3 h3 => ⟨fun j => h3.1 _ _ (by omega) (by omega), fun j => h3.1 _ _ (by omega) (by omega)⟩
  refine t_X11_sleeps (d + 1) _ _ _ _ ⟨fun z => absurd z (by decide), fun z => absurd z (by decide), fun z => absurd z (by decide), fun _ => ?_, fun z => absurd z (by decide), fun z => absurd z (by decide), fun z => absurd z (by decide), fun z => absurd z (by decide)⟩
  refine sp_above (d + 1) (k := 3) (by decide) _ ?_
  exact mS0 d x hg hl hv h K hK
theorem mS2 (d : Nat) {g : Nat} {v : Int32} {l : List Nat} {J : Nat → Nat → Int32} (x : Int32) (hg : g < 6) (hl : l.length + 2 ≤ 20) (hv : I 269 g = v) (h : TM I l J) (K : KI) (hK : ∀ J', TM I (l ++ slL 2) J' → K (slA (nI g) v 2 x) J' L M) : zCI C Y_X11_sleeps (d + 3) [.ref 265, .int (nI g), .int (nI 2), .int x] (zmk J L M) K := by
  have hin := vp_in_nI hg (by omega : 6 < 2 ^ 31)
  have hcl := nI_clamp (n := g) (by omega)
  have f : ∀ J3 l3, TM I l3 J3 → (∀ j, J3 268 j = I 268 j) ∧ (∀ j, J3 269 j = I 269 j) := fun J3 l3 h3 => ⟨fun j => h3.1 _ _ (by omega) (by omega), fun j => h3.1 _ _ (by omega) (by omega)⟩
  refine t_X11_sleeps (d + 1) _ _ _ _ ⟨fun z => absurd z (by decide), fun z => absurd z (by decide), fun _ => ?_, fun z => absurd z (by decide), fun z => absurd z (by decide), fun z => absurd z (by decide), fun z => absurd z (by decide), fun z => absurd z (by decide)⟩
  refine sp_ran (d + 1) (b := 30) h (by omega) _ fun J2 h2 => ?_
  refine mS0 d (x * 3) hg (by rw [List.length_append]; simp; omega) hv h2 _ fun J3 h3 => ?_
  refine hK J3 ?_
  rw [List.append_assoc] at h3
  exact h3
theorem mS5 (d : Nat) {g : Nat} {v : Int32} {l : List Nat} {J : Nat → Nat → Int32} (x : Int32) (hg : g < 6) (hl : l.length + 2 ≤ 20) (hv : I 269 g = v) (h : TM I l J) (K : KI) (hK : ∀ J', TM I (l ++ slL 5) J' → K (slA (nI g) v 5 x) J' L M) : zCI C Y_X11_sleeps (d + 4) [.ref 265, .int (nI g), .int (nI 5), .int x] (zmk J L M) K := by
  have hin := vp_in_nI hg (by omega : 6 < 2 ^ 31)
  have hcl := nI_clamp (n := g) (by omega)
  have f : ∀ J3 l3, TM I l3 J3 → (∀ j, J3 268 j = I 268 j) ∧ (∀ j, J3 269 j = I 269 j) := fun J3 l3 h3 => ⟨fun j => h3.1 _ _ (by omega) (by omega), fun j => h3.1 _ _ (by omega) (by omega)⟩
  refine t_X11_sleeps (d + 2) _ _ _ _ ⟨fun z => absurd z (by decide), fun z => absurd z (by decide), fun z => absurd z (by decide), fun z => absurd z (by decide), fun z => absurd z (by decide), fun _ => ?_, fun z => absurd z (by decide), fun z => absurd z (by decide)⟩
  refine sp_above (d + 2) (k := 5) (by decide) _ ?_
  exact mS2 d x hg hl hv h K hK
theorem mS4 (d : Nat) {g : Nat} {v : Int32} {l : List Nat} {J : Nat → Nat → Int32} (x : Int32) (hg : g < 6) (hl : l.length + 2 ≤ 20) (hv : I 269 g = v) (h : TM I l J) (K : KI) (hK : ∀ J', TM I (l ++ slL 4) J' → K (slA (nI g) v 4 x) J' L M) : zCI C Y_X11_sleeps (d + 4) [.ref 265, .int (nI g), .int (nI 4), .int x] (zmk J L M) K := by
  have hin := vp_in_nI hg (by omega : 6 < 2 ^ 31)
  have hcl := nI_clamp (n := g) (by omega)
  have f : ∀ J3 l3, TM I l3 J3 → (∀ j, J3 268 j = I 268 j) ∧ (∀ j, J3 269 j = I 269 j) := fun J3 l3 h3 => ⟨fun j => h3.1 _ _ (by omega) (by omega), fun j => h3.1 _ _ (by omega) (by omega)⟩
  refine t_X11_sleeps (d + 2) _ _ _ _ ⟨fun z => absurd z (by decide), fun z => absurd z (by decide), fun z => absurd z (by decide), fun z => absurd z (by decide), fun _ => ?_, fun z => absurd z (by decide), fun z => absurd z (by decide), fun z => absurd z (by decide)⟩
  refine sp_ran (d + 2) (b := 50) h (by omega) _ fun J2 h2 => ?_
  refine mS1 d x hg (by rw [List.length_append]; simp; omega) hv h2 _ fun J3 h3 => ?_
  refine hK J3 ?_
  rw [List.append_assoc] at h3
  exact h3
theorem mS6 (d : Nat) {g : Nat} {v : Int32} {l : List Nat} {J : Nat → Nat → Int32} (x : Int32) (hg : g < 6) (hl : l.length + 2 ≤ 20) (hv : I 269 g = v) (h : TM I l J) (K : KI) (hK : ∀ J', TM I (l ++ slL 6) J' → K (slA (nI g) v 6 x) J' L M) : zCI C Y_X11_sleeps (d + 4) [.ref 265, .int (nI g), .int (nI 6), .int x] (zmk J L M) K := by
  have hin := vp_in_nI hg (by omega : 6 < 2 ^ 31)
  have hcl := nI_clamp (n := g) (by omega)
  have f : ∀ J3 l3, TM I l3 J3 → (∀ j, J3 268 j = I 268 j) ∧ (∀ j, J3 269 j = I 269 j) := fun J3 l3 h3 => ⟨fun j => h3.1 _ _ (by omega) (by omega), fun j => h3.1 _ _ (by omega) (by omega)⟩
  refine t_X11_sleeps (d + 2) _ _ _ _ ⟨fun z => absurd z (by decide), fun z => absurd z (by decide), fun z => absurd z (by decide), fun z => absurd z (by decide), fun z => absurd z (by decide), fun z => absurd z (by decide), fun _ => ?_, fun z => absurd z (by decide)⟩
  refine sp_ran (d + 2) (b := 71) h (by omega) _ fun J2 h2 => ?_
  refine mS3 d x hg (by rw [List.length_append]; simp; omega) hv h2 _ fun J3 h3 => ⟨hin, ?_⟩
  rw [hcl, (f _ _ h3).2, hv]
  refine hK J3 ?_
  rw [List.append_assoc] at h3
  exact h3
theorem mS (d : Nat) {g k : Nat} {v : Int32} {l : List Nat} {J : Nat → Nat → Int32} (x : Int32) (hg : g < 6) (hk : k < 7) (hl : l.length + 2 ≤ 20) (hv : I 269 g = v) (h : TM I l J) (K : KI) (hK : ∀ J', TM I (l ++ slL k) J' → K (slA (nI g) v k x) J' L M) : zCI C Y_X11_sleeps (d + 4) [.ref 265, .int (nI g), .int (nI k), .int x] (zmk J L M) K := by
  rcases (by omega : k = 0 ∨ k = 1 ∨ k = 2 ∨ k = 3 ∨ k = 4 ∨ k = 5 ∨ k = 6) with rfl | rfl | rfl | rfl | rfl | rfl | rfl
  · exact mS0 (d + 2) x hg (by omega) hv h K hK
  · exact mS1 (d + 1) x hg (by omega) hv h K hK
  · exact mS2 (d + 1) x hg (by omega) hv h K hK
  · exact mS3 (d + 1) x hg (by omega) hv h K hK
  · exact mS4 (d + 0) x hg (by omega) hv h K hK
  · exact mS5 (d + 0) x hg (by omega) hv h K hK
  · exact mS6 (d + 0) x hg (by omega) hv h K hK
theorem mW0 (d : Nat) {g : Nat} {v : Int32} {l : List Nat} {J : Nat → Nat → Int32} (x : Int32) (hg : g < 6) (hl : l.length + 3 ≤ 20) (hv : I 269 g = v) {k0 : Nat} (hk0 : k0 < 7) (h1 : I 268 g = nI k0) (h : TM I l J) (K : KI) (hK : ∀ J', TM I (l ++ wkL k0 0) J' → K (wkA (nI g) v k0 0 x) J' L M) : zCI C Y_X11_wakes (d + 5) [.ref 265, .int (nI g), .int (nI 0), .int x] (zmk J L M) K := by
  have hin := vp_in_nI hg (by omega : 6 < 2 ^ 31)
  have hcl := nI_clamp (n := g) (by omega)
  have f : ∀ J3 l3, TM I l3 J3 → (∀ j, J3 268 j = I 268 j) ∧ (∀ j, J3 269 j = I 269 j) := fun J3 l3 h3 => ⟨fun j => h3.1 _ _ (by omega) (by omega), fun j => h3.1 _ _ (by omega) (by omega)⟩
  refine t_X11_wakes (d + 2) _ _ _ _ ⟨fun _ => ?_, fun z => absurd z (by decide), fun z => absurd z (by decide), fun z => absurd z (by decide), fun z => absurd z (by decide), fun z => absurd z (by decide), fun z => absurd z (by decide), fun z => absurd z (by decide)⟩
  refine sp_ran (d + 3) (b := 11) h (by omega) _ fun J2 h2 => ⟨hin, ?_⟩
  rw [hcl]
  rw [(f _ _ h2).1, h1]
  refine mS d x hg hk0 (by rw [List.length_append]; simp; omega) hv h2 _ fun J3 h3 => ⟨hin, ?_⟩
  rw [(f _ _ h3).2, hv]
  refine hK J3 ?_
  rw [List.append_assoc] at h3
  exact h3
theorem mW2 (d : Nat) {g : Nat} {v : Int32} {l : List Nat} {J : Nat → Nat → Int32} (x : Int32) (hg : g < 6) (hl : l.length + 3 ≤ 20) (hv : I 269 g = v) {k0 : Nat} (hk0 : k0 < 7) (h1 : I 268 g = nI k0) (h : TM I l J) (K : KI) (hK : ∀ J', TM I (l ++ wkL k0 2) J' → K (wkA (nI g) v k0 2 x) J' L M) : zCI C Y_X11_wakes (d + 6) [.ref 265, .int (nI g), .int (nI 2), .int x] (zmk J L M) K := by
  have hin := vp_in_nI hg (by omega : 6 < 2 ^ 31)
  have hcl := nI_clamp (n := g) (by omega)
  have f : ∀ J3 l3, TM I l3 J3 → (∀ j, J3 268 j = I 268 j) ∧ (∀ j, J3 269 j = I 269 j) := fun J3 l3 h3 => ⟨fun j => h3.1 _ _ (by omega) (by omega), fun j => h3.1 _ _ (by omega) (by omega)⟩
  refine t_X11_wakes (d + 3) _ _ _ _ ⟨fun z => absurd z (by decide), fun z => absurd z (by decide), fun _ => ?_, fun z => absurd z (by decide), fun z => absurd z (by decide), fun z => absurd z (by decide), fun z => absurd z (by decide), fun z => absurd z (by decide)⟩
  refine sp_above (d + 4) (k := 2) (by decide) _ ?_
  exact mW0 d x hg hl hv hk0 h1 h K hK
theorem mW3 (d : Nat) {g : Nat} {v : Int32} {l : List Nat} {J : Nat → Nat → Int32} (x : Int32) (hg : g < 6) (hl : l.length + 3 ≤ 20) (hv : I 269 g = v) {k0 : Nat} (hk0 : k0 < 7) (h1 : I 268 g = nI k0) (h : TM I l J) (K : KI) (hK : ∀ J', TM I (l ++ wkL k0 3) J' → K (wkA (nI g) v k0 3 x) J' L M) : zCI C Y_X11_wakes (d + 6) [.ref 265, .int (nI g), .int (nI 3), .int x] (zmk J L M) K := by
  have hin := vp_in_nI hg (by omega : 6 < 2 ^ 31)
  have hcl := nI_clamp (n := g) (by omega)
  have f : ∀ J3 l3, TM I l3 J3 → (∀ j, J3 268 j = I 268 j) ∧ (∀ j, J3 269 j = I 269 j) := fun J3 l3 h3 => ⟨fun j => h3.1 _ _ (by omega) (by omega), fun j => h3.1 _ _ (by omega) (by omega)⟩
  refine t_X11_wakes (d + 3) _ _ _ _ ⟨fun z => absurd z (by decide), fun z => absurd z (by decide), fun z => absurd z (by decide), fun _ => ?_, fun z => absurd z (by decide), fun z => absurd z (by decide), fun z => absurd z (by decide), fun z => absurd z (by decide)⟩
  refine sp_above (d + 4) (k := 3) (by decide) _ ?_
  exact mW0 d x hg hl hv hk0 h1 h K hK
theorem mW1 (d : Nat) {g : Nat} {v : Int32} {l : List Nat} {J : Nat → Nat → Int32} (x : Int32) (hg : g < 6) (hl : l.length + 4 ≤ 20) (hv : I 269 g = v) {k0 : Nat} (hk0 : k0 < 7) (h1 : I 268 g = nI k0) (h : TM I l J) (K : KI) (hK : ∀ J', TM I (l ++ wkL k0 1) J' → K (wkA (nI g) v k0 1 x) J' L M) : zCI C Y_X11_wakes (d + 6) [.ref 265, .int (nI g), .int (nI 1), .int x] (zmk J L M) K := by
  have hin := vp_in_nI hg (by omega : 6 < 2 ^ 31)
  have hcl := nI_clamp (n := g) (by omega)
  have f : ∀ J3 l3, TM I l3 J3 → (∀ j, J3 268 j = I 268 j) ∧ (∀ j, J3 269 j = I 269 j) := fun J3 l3 h3 => ⟨fun j => h3.1 _ _ (by omega) (by omega), fun j => h3.1 _ _ (by omega) (by omega)⟩
  refine t_X11_wakes (d + 3) _ _ _ _ ⟨fun z => absurd z (by decide), fun _ => ?_, fun z => absurd z (by decide), fun z => absurd z (by decide), fun z => absurd z (by decide), fun z => absurd z (by decide), fun z => absurd z (by decide), fun z => absurd z (by decide)⟩
  refine sp_ran (d + 4) (b := 20) h (by omega) _ fun J2 h2 => ?_
  refine mW0 d x hg (by rw [List.length_append]; simp; omega) hv hk0 h1 h2 _ fun J3 h3 => ?_
  refine hK J3 ?_
  rw [List.append_assoc] at h3
  exact h3
theorem mW5 (d : Nat) {g : Nat} {v : Int32} {l : List Nat} {J : Nat → Nat → Int32} (x : Int32) (hg : g < 6) (hl : l.length + 3 ≤ 20) (hv : I 269 g = v) {k0 : Nat} (hk0 : k0 < 7) (h1 : I 268 g = nI k0) (h : TM I l J) (K : KI) (hK : ∀ J', TM I (l ++ wkL k0 5) J' → K (wkA (nI g) v k0 5 x) J' L M) : zCI C Y_X11_wakes (d + 7) [.ref 265, .int (nI g), .int (nI 5), .int x] (zmk J L M) K := by
  have hin := vp_in_nI hg (by omega : 6 < 2 ^ 31)
  have hcl := nI_clamp (n := g) (by omega)
  have f : ∀ J3 l3, TM I l3 J3 → (∀ j, J3 268 j = I 268 j) ∧ (∀ j, J3 269 j = I 269 j) := fun J3 l3 h3 => ⟨fun j => h3.1 _ _ (by omega) (by omega), fun j => h3.1 _ _ (by omega) (by omega)⟩
  refine t_X11_wakes (d + 4) _ _ _ _ ⟨fun z => absurd z (by decide), fun z => absurd z (by decide), fun z => absurd z (by decide), fun z => absurd z (by decide), fun z => absurd z (by decide), fun _ => ?_, fun z => absurd z (by decide), fun z => absurd z (by decide)⟩
  refine sp_above (d + 5) (k := 5) (by decide) _ ?_
  exact mW2 d x hg hl hv hk0 h1 h K hK
theorem mW4 (d : Nat) {g : Nat} {v : Int32} {l : List Nat} {J : Nat → Nat → Int32} (x : Int32) (hg : g < 6) (hl : l.length + 5 ≤ 20) (hv : I 269 g = v) {k0 : Nat} (hk0 : k0 < 7) (h1 : I 268 g = nI k0) (h : TM I l J) (K : KI) (hK : ∀ J', TM I (l ++ wkL k0 4) J' → K (wkA (nI g) v k0 4 x) J' L M) : zCI C Y_X11_wakes (d + 7) [.ref 265, .int (nI g), .int (nI 4), .int x] (zmk J L M) K := by
  have hin := vp_in_nI hg (by omega : 6 < 2 ^ 31)
  have hcl := nI_clamp (n := g) (by omega)
  have f : ∀ J3 l3, TM I l3 J3 → (∀ j, J3 268 j = I 268 j) ∧ (∀ j, J3 269 j = I 269 j) := fun J3 l3 h3 => ⟨fun j => h3.1 _ _ (by omega) (by omega), fun j => h3.1 _ _ (by omega) (by omega)⟩
  refine t_X11_wakes (d + 4) _ _ _ _ ⟨fun z => absurd z (by decide), fun z => absurd z (by decide), fun z => absurd z (by decide), fun z => absurd z (by decide), fun _ => ?_, fun z => absurd z (by decide), fun z => absurd z (by decide), fun z => absurd z (by decide)⟩
  refine sp_ran (d + 5) (b := 51) h (by omega) _ fun J2 h2 => ?_
  refine mW1 d (x + 1) hg (by rw [List.length_append]; simp; omega) hv hk0 h1 h2 _ fun J3 h3 => ?_
  refine hK J3 ?_
  rw [List.append_assoc] at h3
  exact h3
theorem mW6 (d : Nat) {g : Nat} {v : Int32} {l : List Nat} {J : Nat → Nat → Int32} (x : Int32) (hg : g < 6) (hl : l.length + 5 ≤ 20) (hv : I 269 g = v) {k0 : Nat} (hk0 : k0 < 7) (h1 : I 268 g = nI k0) (h : TM I l J) (K : KI) (hK : ∀ J', TM I (l ++ wkL k0 6) J' → K (wkA (nI g) v k0 6 x) J' L M) : zCI C Y_X11_wakes (d + 7) [.ref 265, .int (nI g), .int (nI 6), .int x] (zmk J L M) K := by
  have hin := vp_in_nI hg (by omega : 6 < 2 ^ 31)
  have hcl := nI_clamp (n := g) (by omega)
  have f : ∀ J3 l3, TM I l3 J3 → (∀ j, J3 268 j = I 268 j) ∧ (∀ j, J3 269 j = I 269 j) := fun J3 l3 h3 => ⟨fun j => h3.1 _ _ (by omega) (by omega), fun j => h3.1 _ _ (by omega) (by omega)⟩
  refine t_X11_wakes (d + 4) _ _ _ _ ⟨fun z => absurd z (by decide), fun z => absurd z (by decide), fun z => absurd z (by decide), fun z => absurd z (by decide), fun z => absurd z (by decide), fun z => absurd z (by decide), fun _ => ?_, fun z => absurd z (by decide)⟩
  refine sp_ran (d + 5) (b := 70) h (by omega) _ fun J2 h2 => ?_
  refine mW3 d x hg (by rw [List.length_append]; simp; omega) hv hk0 h1 h2 _ fun J3 h3 => ?_
  have n3 := w0L_n k0 hk0
  refine mS3 (d + 3) 2 hg (by rw [List.length_append, List.length_append, show wkL k0 3 = w0L k0 from rfl]; simp; omega) hv h3 _ fun J4 h4 => hK J4 ?_
  rw [List.append_assoc, List.append_assoc] at h4
  exact h4
theorem mW (d : Nat) {g k : Nat} {v : Int32} {l : List Nat} {J : Nat → Nat → Int32} (x : Int32) (hg : g < 6) (hk : k < 7) (hl : l.length + 5 ≤ 20) (hv : I 269 g = v) {k0 : Nat} (hk0 : k0 < 7) (h1 : I 268 g = nI k0) (h : TM I l J) (K : KI) (hK : ∀ J', TM I (l ++ wkL k0 k) J' → K (wkA (nI g) v k0 k x) J' L M) : zCI C Y_X11_wakes (d + 7) [.ref 265, .int (nI g), .int (nI k), .int x] (zmk J L M) K := by
  rcases (by omega : k = 0 ∨ k = 1 ∨ k = 2 ∨ k = 3 ∨ k = 4 ∨ k = 5 ∨ k = 6) with rfl | rfl | rfl | rfl | rfl | rfl | rfl
  · exact mW0 (d + 2) x hg (by omega) hv hk0 h1 h K hK
  · exact mW1 (d + 1) x hg (by omega) hv hk0 h1 h K hK
  · exact mW2 (d + 1) x hg (by omega) hv hk0 h1 h K hK
  · exact mW3 (d + 1) x hg (by omega) hv hk0 h1 h K hK
  · exact mW4 (d + 0) x hg (by omega) hv hk0 h1 h K hK
  · exact mW5 (d + 0) x hg (by omega) hv hk0 h1 h K hK
  · exact mW6 (d + 0) x hg (by omega) hv hk0 h1 h K hK
theorem mT0 (d : Nat) {g : Nat} {v : Int32} {l : List Nat} {J : Nat → Nat → Int32} (x : Int32) (hg : g < 6) (hl : l.length + 6 ≤ 20) (hv : I 269 g = v) {k0 : Nat} (hk0 : k0 < 7) (h1 : I 268 g = nI k0) (h : TM I l J) (K : KI) (hK : ∀ J', TM I (l ++ tlL k0 0) J' → K (tlA (nI g) v k0 0 x) J' L M) : zCI C Y_X11_tells (d + 8) [.ref 265, .int (nI g), .int (nI 0), .int x] (zmk J L M) K := by
  have hin := vp_in_nI hg (by omega : 6 < 2 ^ 31)
  have hcl := nI_clamp (n := g) (by omega)
  have f : ∀ J3 l3, TM I l3 J3 → (∀ j, J3 268 j = I 268 j) ∧ (∀ j, J3 269 j = I 269 j) := fun J3 l3 h3 => ⟨fun j => h3.1 _ _ (by omega) (by omega), fun j => h3.1 _ _ (by omega) (by omega)⟩
  refine t_X11_tells (d + 4) _ _ _ _ ⟨fun _ => ?_, fun z => absurd z (by decide), fun z => absurd z (by decide), fun z => absurd rfl z⟩
  refine sp_ran (d + 6) (b := 12) h (by omega) _ fun J2 h2 => ⟨hin, ?_⟩
  rw [hcl]
  rw [(f _ _ h2).1, h1]
  refine mW d x hg hk0 (by rw [List.length_append]; simp; omega) hv hk0 h1 h2 _ fun J3 h3 => ?_
  refine hK J3 ?_
  rw [List.append_assoc] at h3
  exact h3
theorem mT1 (d : Nat) {g : Nat} {v : Int32} {l : List Nat} {J : Nat → Nat → Int32} (x : Int32) (hg : g < 6) (hl : l.length + 6 ≤ 20) (hv : I 269 g = v) {k0 : Nat} (hk0 : k0 < 7) (h1 : I 268 g = nI k0) (h : TM I l J) (K : KI) (hK : ∀ J', TM I (l ++ tlL k0 1) J' → K (tlA (nI g) v k0 1 x) J' L M) : zCI C Y_X11_tells (d + 9) [.ref 265, .int (nI g), .int (nI 1), .int x] (zmk J L M) K := by
  have hin := vp_in_nI hg (by omega : 6 < 2 ^ 31)
  have hcl := nI_clamp (n := g) (by omega)
  have f : ∀ J3 l3, TM I l3 J3 → (∀ j, J3 268 j = I 268 j) ∧ (∀ j, J3 269 j = I 269 j) := fun J3 l3 h3 => ⟨fun j => h3.1 _ _ (by omega) (by omega), fun j => h3.1 _ _ (by omega) (by omega)⟩
  refine t_X11_tells (d + 5) _ _ _ _ ⟨fun z => absurd z (by decide), fun z => absurd z (by decide), fun z => absurd z (by decide), fun _ _ _ => ?_⟩
  refine sp_above (d + 7) (k := 1) (by decide) _ ?_
  exact mT0 d x hg hl hv hk0 h1 h K hK
theorem mT2 (d : Nat) {g : Nat} {v : Int32} {l : List Nat} {J : Nat → Nat → Int32} (x : Int32) (hg : g < 6) (hl : l.length + 6 ≤ 20) (hv : I 269 g = v) {k0 : Nat} (hk0 : k0 < 7) (h1 : I 268 g = nI k0) (h : TM I l J) (K : KI) (hK : ∀ J', TM I (l ++ tlL k0 2) J' → K (tlA (nI g) v k0 2 x) J' L M) : zCI C Y_X11_tells (d + 9) [.ref 265, .int (nI g), .int (nI 2), .int x] (zmk J L M) K := by
  have hin := vp_in_nI hg (by omega : 6 < 2 ^ 31)
  have hcl := nI_clamp (n := g) (by omega)
  have f : ∀ J3 l3, TM I l3 J3 → (∀ j, J3 268 j = I 268 j) ∧ (∀ j, J3 269 j = I 269 j) := fun J3 l3 h3 => ⟨fun j => h3.1 _ _ (by omega) (by omega), fun j => h3.1 _ _ (by omega) (by omega)⟩
  refine t_X11_tells (d + 5) _ _ _ _ ⟨fun z => absurd z (by decide), fun z => absurd z (by decide), fun z => absurd z (by decide), fun _ _ _ => ?_⟩
  refine sp_above (d + 7) (k := 2) (by decide) _ ?_
  exact mT0 d x hg hl hv hk0 h1 h K hK
theorem mT4 (d : Nat) {g : Nat} {v : Int32} {l : List Nat} {J : Nat → Nat → Int32} (x : Int32) (hg : g < 6) (hl : l.length + 6 ≤ 20) (hv : I 269 g = v) {k0 : Nat} (hk0 : k0 < 7) (h1 : I 268 g = nI k0) (h : TM I l J) (K : KI) (hK : ∀ J', TM I (l ++ tlL k0 4) J' → K (tlA (nI g) v k0 4 x) J' L M) : zCI C Y_X11_tells (d + 10) [.ref 265, .int (nI g), .int (nI 4), .int x] (zmk J L M) K := by
  have hin := vp_in_nI hg (by omega : 6 < 2 ^ 31)
  have hcl := nI_clamp (n := g) (by omega)
  have f : ∀ J3 l3, TM I l3 J3 → (∀ j, J3 268 j = I 268 j) ∧ (∀ j, J3 269 j = I 269 j) := fun J3 l3 h3 => ⟨fun j => h3.1 _ _ (by omega) (by omega), fun j => h3.1 _ _ (by omega) (by omega)⟩
  refine t_X11_tells (d + 6) _ _ _ _ ⟨fun z => absurd z (by decide), fun z => absurd z (by decide), fun z => absurd z (by decide), fun _ _ _ => ?_⟩
  refine sp_above (d + 8) (k := 4) (by decide) _ ?_
  exact mT1 d x hg hl hv hk0 h1 h K hK
theorem mT3 (d : Nat) {g : Nat} {v : Int32} {l : List Nat} {J : Nat → Nat → Int32} (x : Int32) (hg : g < 6) (hl : l.length + 12 ≤ 20) (hv : I 269 g = v) {k0 : Nat} (hk0 : k0 < 7) (h1 : I 268 g = nI k0) (h : TM I l J) (K : KI) (hK : ∀ J', TM I (l ++ tlL k0 3) J' → K (tlA (nI g) v k0 3 x) J' L M) : zCI C Y_X11_tells (d + 9) [.ref 265, .int (nI g), .int (nI 3), .int x] (zmk J L M) K := by
  have hin := vp_in_nI hg (by omega : 6 < 2 ^ 31)
  have hcl := nI_clamp (n := g) (by omega)
  have f : ∀ J3 l3, TM I l3 J3 → (∀ j, J3 268 j = I 268 j) ∧ (∀ j, J3 269 j = I 269 j) := fun J3 l3 h3 => ⟨fun j => h3.1 _ _ (by omega) (by omega), fun j => h3.1 _ _ (by omega) (by omega)⟩
  refine t_X11_tells (d + 5) _ _ _ _ ⟨fun z => absurd z (by decide), fun _ => ?_, fun z => absurd z (by decide), fun _ z => absurd rfl z⟩
  refine sp_ran (d + 7) (b := 40) h (by omega) _ fun J2 h2 => ?_
  refine mT0 d x hg (by rw [List.length_append]; simp; omega) hv hk0 h1 h2 _ fun J3 h3 => ⟨hin, ?_⟩
  have n3 := wkL_n k0 hk0 k0 hk0
  rw [hcl, (f _ _ h3).1, h1]
  refine mW (d + 1) 1 hg hk0 (by rw [List.length_append, List.length_append, show tlL k0 0 = 12 :: wkL k0 k0 from rfl, List.length_cons]; simp; omega) hv hk0 h1 h3 _ fun J4 h4 => hK J4 ?_
  rw [List.append_assoc, List.append_assoc] at h4
  exact h4
theorem mT6 (d : Nat) {g : Nat} {v : Int32} {l : List Nat} {J : Nat → Nat → Int32} (x : Int32) (hg : g < 6) (hl : l.length + 12 ≤ 20) (hv : I 269 g = v) {k0 : Nat} (hk0 : k0 < 7) (h1 : I 268 g = nI k0) (h : TM I l J) (K : KI) (hK : ∀ J', TM I (l ++ tlL k0 6) J' → K (tlA (nI g) v k0 6 x) J' L M) : zCI C Y_X11_tells (d + 10) [.ref 265, .int (nI g), .int (nI 6), .int x] (zmk J L M) K := by
  have hin := vp_in_nI hg (by omega : 6 < 2 ^ 31)
  have hcl := nI_clamp (n := g) (by omega)
  have f : ∀ J3 l3, TM I l3 J3 → (∀ j, J3 268 j = I 268 j) ∧ (∀ j, J3 269 j = I 269 j) := fun J3 l3 h3 => ⟨fun j => h3.1 _ _ (by omega) (by omega), fun j => h3.1 _ _ (by omega) (by omega)⟩
  refine t_X11_tells (d + 6) _ _ _ _ ⟨fun z => absurd z (by decide), fun z => absurd z (by decide), fun z => absurd z (by decide), fun _ _ _ => ?_⟩
  refine sp_above (d + 8) (k := 6) (by decide) _ ?_
  exact mT3 d x hg hl hv hk0 h1 h K hK
theorem mT5 (d : Nat) {g : Nat} {v : Int32} {l : List Nat} {J : Nat → Nat → Int32} (x : Int32) (hg : g < 6) (hl : l.length + 7 ≤ 20) (hv : I 269 g = v) {k0 : Nat} (hk0 : k0 < 7) (h1 : I 268 g = nI k0) (h : TM I l J) (K : KI) (hK : ∀ J', TM I (l ++ tlL k0 5) J' → K (tlA (nI g) v k0 5 x) J' L M) : zCI C Y_X11_tells (d + 10) [.ref 265, .int (nI g), .int (nI 5), .int x] (zmk J L M) K := by
  have hin := vp_in_nI hg (by omega : 6 < 2 ^ 31)
  have hcl := nI_clamp (n := g) (by omega)
  have f : ∀ J3 l3, TM I l3 J3 → (∀ j, J3 268 j = I 268 j) ∧ (∀ j, J3 269 j = I 269 j) := fun J3 l3 h3 => ⟨fun j => h3.1 _ _ (by omega) (by omega), fun j => h3.1 _ _ (by omega) (by omega)⟩
  refine t_X11_tells (d + 6) _ _ _ _ ⟨fun z => absurd z (by decide), fun z => absurd z (by decide), fun _ => ?_, fun _ _ z => absurd rfl z⟩
  refine sp_ran (d + 8) (b := 60) h (by omega) _ fun J2 h2 => ?_
  refine mT2 d (x - nI g) hg (by rw [List.length_append]; simp; omega) hv hk0 h1 h2 _ fun J3 h3 => ?_
  refine hK J3 ?_
  rw [List.append_assoc] at h3
  exact h3
theorem mT (d : Nat) {g k : Nat} {v : Int32} {l : List Nat} {J : Nat → Nat → Int32} (x : Int32) (hg : g < 6) (hk : k < 7) (hl : l.length + 12 ≤ 20) (hv : I 269 g = v) {k0 : Nat} (hk0 : k0 < 7) (h1 : I 268 g = nI k0) (h : TM I l J) (K : KI) (hK : ∀ J', TM I (l ++ tlL k0 k) J' → K (tlA (nI g) v k0 k x) J' L M) : zCI C Y_X11_tells (d + 10) [.ref 265, .int (nI g), .int (nI k), .int x] (zmk J L M) K := by
  rcases (by omega : k = 0 ∨ k = 1 ∨ k = 2 ∨ k = 3 ∨ k = 4 ∨ k = 5 ∨ k = 6) with rfl | rfl | rfl | rfl | rfl | rfl | rfl
  · exact mT0 (d + 2) x hg (by omega) hv hk0 h1 h K hK
  · exact mT1 (d + 1) x hg (by omega) hv hk0 h1 h K hK
  · exact mT2 (d + 1) x hg (by omega) hv hk0 h1 h K hK
  · exact mT3 (d + 1) x hg (by omega) hv hk0 h1 h K hK
  · exact mT4 (d + 0) x hg (by omega) hv hk0 h1 h K hK
  · exact mT5 (d + 0) x hg (by omega) hv hk0 h1 h K hK
  · exact mT6 (d + 0) x hg (by omega) hv hk0 h1 h K hK
end SM
