/-! THE WORLD behind both constructors; what stands between the calls holds of it -/
def oz : List zO := o_X10 0 ++ o_X11 265
def bP (n : Nat) (o : zO) : Prop := ∀ j, n ≤ j → o.2.2.2.1 j = none
def bPL (n : Nat) (os : List zO) : Prop := ∀ o ∈ os, bP n o
theorem bP_z {n k m : Nat} : bP n (z0 k m) := fun _ _ => rfl
theorem bP_I {n j : Nat} {v : Int32} {o : zO} (h : bP n o) : bP n (oI j v o) := h
theorem bP_M {n j : Nat} {v : Option Nat} {o : zO} (h : bP n o) : bP n (oM j v o) := h
theorem bP_P {n j : Nat} {v : Option Nat} {o : zO} (hj : Nat.ble (j + 1) n = true) (h : bP n o) : bP n (oP j v o) := fun i hi => by
  have := Nat.le_of_ble_eq_true hj
  show (if i = j then v else o.2.2.2.1 i) = none
  rw [if_neg (by omega)]
  exact h i hi
theorem bP_A {n N m : Nat} (hj : Nat.ble m n = true) : bP n (oA N m) := fun i hi => by
  have := Nat.le_of_ble_eq_true hj
  show (if i < m then _ else none) = none
  rw [if_neg (by omega)]
theorem bPn {n : Nat} : bPL n [] := fun _ h => absurd h List.not_mem_nil
theorem bPc {n : Nat} {o : zO} {r : List zO} (h : bP n o) (hr : bPL n r) : bPL n (o :: r) := fun x hx => by
  rcases List.mem_cons.mp hx with e | e
  · rw [e]; exact h
  · exact hr x e
set_option maxRecDepth 100000 in
theorem bP_10 : bPL 13 (o_X10 0) := by
  unfold o_X10
  repeat' (first | exact bPn | refine bPc ?_ ?_ | exact bP_z | refine bP_I ?_ | refine bP_M ?_ | refine bP_P rfl ?_ | exact bP_A rfl)
set_option maxRecDepth 100000 in
theorem bP_11 : bPL 46 (o_X11 265) := by
  unfold o_X11
  repeat' (first | exact bPn | refine bPc ?_ ?_ | exact bP_z | refine bP_I ?_ | refine bP_M ?_ | refine bP_P rfl ?_ | exact bP_A rfl)
set_option maxRecDepth 100000 in
theorem oz_len : oz.length = 297 := by decide +kernel
set_option maxRecDepth 100000 in
theorem oz_10 : (o_X10 0).length = 265 := by decide +kernel
set_option maxRecDepth 100000 in
theorem oz_s : ∀ i, i < 297 → zsh i = zs (zhl oz) i := by decide +kernel
set_option maxRecDepth 100000 in
theorem oz_p1 : ∀ i, i < 265 → (∀ j, j < 13 → zP0 i j = zP (zhl oz) i j) ∧ (zpT.getD i []).length ≤ 13 := by decide +kernel
set_option maxRecDepth 100000 in
theorem oz_p2 : ∀ i, i < 32 → (∀ j, j < 46 → zP0 (265 + i) j = zP (zhl oz) (265 + i) j) ∧ (zpT.getD (265 + i) []).length ≤ 46 := by decide +kernel
theorem zP0_out {i j n : Nat} (h : (zpT.getD i []).length ≤ n) (hj : n ≤ j) : zP0 i j = none := by
  unfold zP0
  rw [show (zpT.getD i []).getD j 0 = 0 by rw [List.getD_eq_getElem?_getD, List.getElem?_eq_none (by omega)]; rfl]
theorem oz_p : ∀ i, i < 297 → zP0 i = zP (zhl oz) i := fun i hi => by
  funext j
  by_cases h : i < 265
  · obtain ⟨h1, h2⟩ := oz_p1 i h
    by_cases hj : j < 13
    · exact h1 j hj
    · show _ = zP (zhl (o_X10 0 ++ o_X11 265)) i j
      rw [zP0_out h2 (by omega), (zhl_old (os := o_X10 0) (new := o_X11 265) (by rw [oz_10]; exact h)).2.2.2.1]
      refine (bP_10 _ ?_ j (by omega)).symm
      rw [List.getD_eq_getElem?_getD, List.getElem?_eq_getElem (by rw [oz_10]; exact h)]
      exact List.getElem_mem _
  · obtain ⟨h1, h2⟩ := oz_p2 (i - 265) (by omega)
    rw [show 265 + (i - 265) = i by omega] at h1 h2
    by_cases hj : j < 46
    · exact h1 j hj
    · have hl : i - 265 < (o_X11 265).length := by
        have := oz_len
        unfold oz at this
        rw [List.length_append, oz_10] at this
        omega
      rw [zP0_out h2 (by omega)]
      have hz := (zhl_n (os := o_X10 0) (List.getElem?_eq_getElem hl)).2.2.2.1
      rw [oz_10, show 265 + (i - 265) = i by omega] at hz
      show none = zP (zhl (o_X10 0 ++ o_X11 265)) i j
      rw [hz]
      exact (bP_11 _ (List.getElem_mem _) j (by omega)).symm
theorem zmk_cell {cs : Nat → ClassId} {ad : Nat → Nat} {h : zH} {i : Nat} (e1 : zsh i = zs h i) (e4 : zP0 i = zP h i) : zcell cs ad (zmk (zI h) (zL h) (zM h)) i = zcell cs ad h i := zcell_eq e1 rfl rfl e4 rfl
def zmz : zH := zmk (zI (zhl oz)) (zL (zhl oz)) (zM (zhl oz))
theorem zWd_z {C : zC} {ad : Nat → Nat} {H : Heap} (hW : zWd C ad (zhl oz) H) : zWd C ad zmz H := by
  have e : zws C.2.2.1 ad zmz = zws C.2.2.1 ad (zhl oz) := by
    unfold zws
    rw [show zn zmz = 297 from rfl, show zn (zhl oz) = 297 from oz_len]
    apply List.map_congr_left
    intro i hi
    have hl : i < 297 := List.mem_range.mp hi
    exact congrArg (Prod.mk _) (zmk_cell (oz_s i hl) (oz_p i hl))
  refine ⟨by rw [e]; exact hW.1, by rw [e]; exact hW.2.1, by show 297 ≤ 1000000; omega, zsh_ok⟩
