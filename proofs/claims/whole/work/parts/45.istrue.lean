/-! THE SUM, as the model has it -/
section SM
variable {C : zC} {I I' : Nat → Nat → Int32} {L L' : Nat → Nat → Int64} {M : Nat → Nat → Option Nat}
/-- the facts of a view: a guest p, a purpose x -/
def ft (w : Nat → Int32) (p x : Nat) (n : Int32) : Nat → Int32 := fun c => if c = 0 then nI p else if c = 1 then w (24 + p) else if c = 2 then w (30 + p) else if c = 3 then nI x else if c = 4 then w x else n - n / 10 * 10
theorem sp_letter (d : Nat) {p x c : Nat} (hp : p < 6) (hx : x < 12) (hc : c < 6) (K : KI) (hK : K (ft (cur I) p x (I 265 9) c) I L M) : zCI C Y_X11_letterOf (d + 1) [.ref 265, .int (nI p), .int (nI x), .int (nI c)] (zmk I L M) K := by
  have h6 := vp_in_nI hp (by omega : 6 < 2 ^ 31)
  have h12 := vp_in_nI hx (by omega : 12 < 2 ^ 31)
  have c1 := nI_clamp (n := p) (by omega)
  have c2 := nI_clamp (n := x) (by omega)
  have e1 : cur I (24 + p) = I 268 p := cur_at (l_k p hp) (by omega)
  have e2 : cur I (30 + p) = I 269 p := cur_at (l_v p hp) (by omega)
  have e3 : cur I x = I 266 x := cur_at (l_w x hx) (by omega)
  refine t_X11_letterOf d _ _ _ _ ?_
  unfold ft at hK
  rw [e1, e2, e3] at hK
  rw [c1, c2]
  rcases (by omega : c = 0 ∨ c = 1 ∨ c = 2 ∨ c = 3 ∨ c = 4 ∨ c = 5) with rfl | rfl | rfl | rfl | rfl | rfl
  · exact ⟨fun _ => hK, fun z => absurd z (by decide), fun z => absurd z (by decide), fun z => absurd z (by decide), fun z => absurd z (by decide), fun z => absurd z (by decide)⟩
  · exact ⟨fun z => absurd z (by decide), fun _ => ⟨h6, hK⟩, fun z => absurd z (by decide), fun z => absurd z (by decide), fun z => absurd z (by decide), fun z => absurd z (by decide)⟩
  · exact ⟨fun z => absurd z (by decide), fun z => absurd z (by decide), fun _ => ⟨h6, hK⟩, fun z => absurd z (by decide), fun z => absurd z (by decide), fun z => absurd z (by decide)⟩
  · exact ⟨fun z => absurd z (by decide), fun z => absurd z (by decide), fun z => absurd z (by decide), fun _ => hK, fun z => absurd z (by decide), fun z => absurd z (by decide)⟩
  · exact ⟨fun z => absurd z (by decide), fun z => absurd z (by decide), fun z => absurd z (by decide), fun z => absurd z (by decide), fun _ => ⟨h12, hK⟩, fun z => absurd z (by decide)⟩
  · exact ⟨fun z => absurd z (by decide), fun z => absurd z (by decide), fun z => absurd z (by decide), fun z => absurd z (by decide), fun z => absurd z (by decide), fun _ => hK⟩
/-- the model's stack: the newest on top -/
def St (s : List Bool) (J : Nat → Nat → Int32) : Prop := ∀ k, k < s.length → J 281 (s.length - 1 - k) = if s.getD k false then 1 else 0
theorem St_push {s : List Bool} {J : Nat → Nat → Int32} (h : St s J) (b : Bool) : St (b :: s) (u2 J 281 s.length (if b then 1 else 0)) := by
  intro k hk
  rw [List.length_cons] at hk ⊢
  cases k with
  | zero =>
    rw [show s.length + 1 - 1 - 0 = s.length by omega, u2_same]
    simp
  | succ k =>
    rw [u2_n2 _ _ (by omega), show s.length + 1 - 1 - (k + 1) = s.length - 1 - k by omega, h k (by omega)]
    simp
theorem St_top {b b' : Bool} {s : List Bool} {J : Nat → Nat → Int32} (h : St (b :: s) J) : St (b' :: s) (u2 J 281 s.length (if b' then 1 else 0)) := by
  intro k hk
  rw [List.length_cons] at hk ⊢
  cases k with
  | zero =>
    rw [show s.length + 1 - 1 - 0 = s.length by omega, u2_same]
    simp
  | succ k =>
    rw [u2_n2 _ _ (by omega)]
    have := h (k + 1) (by simp; omega)
    rw [List.length_cons] at this
    rw [this]
    simp
theorem St_pop {b : Bool} {s : List Bool} {J : Nat → Nat → Int32} (h : St (b :: s) J) : St s J ∧ J 281 s.length = if b then 1 else 0 := by
  refine ⟨fun k hk => ?_, ?_⟩
  · have := h (k + 1) (by simp; omega)
    rw [List.length_cons, show s.length + 1 - 1 - (k + 1) = s.length - 1 - k by omega] at this
    rw [this]
    simp
  · have := h 0 (by simp)
    rw [List.length_cons, show s.length + 1 - 1 - 0 = s.length by omega] at this
    rw [this]
    simp
end SM
