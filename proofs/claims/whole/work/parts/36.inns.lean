/-! .. whole Inns; THE IMAGE -/
section SM
variable {C : zC} {I I' : Nat → Nat → Int32} {L L' : Nat → Nat → Int64} {M : Nat → Nat → Option Nat}
theorem CS_0 (o o1 : Nat) : CS I o o1 (fun _ => False) I := ⟨fun _ _ _ => rfl, fun _ h => h.elim⟩
abbrev DG (n k : Nat) : Prop := k < 24 ∨ k = 134 ∨ (24 ≤ k ∧ k < 54 ∧ (k - 24) % 6 < n) ∨ (54 ≤ k ∧ k < 78 ∧ (k - 54) / 4 < n)
theorem sp_go (d : Nat) {o o1 n r : Nat} (ho : zInn o) (ho1 : zInn o1) (hd : o + 45 ≤ o1 ∨ o1 + 45 ≤ o) (hn : n ≤ 6) (e3 : I o1 3 = nI n) (hin : ∀ g, g < n → I (o1 + 33 + 2 * g) 5 = 0 ∨ I (o1 + 33 + 2 * g) 5 = 1) (hM : M o1 5 = some r) (hr : zHo r) (K : (Nat → Nat → Int32) → (Nat → Nat → Int64) → (Nat → Nat → Option Nat) → Prop) (hK : ∀ J', CS I o o1 (fun k => DG n k ∨ k = 135) J' → K J' L (u2 M o 5 (some r))) : zCV C Y_X2_goOnFrom (d + 2) [.ref o, .ref o1] (zmk I L M) K := by
  refine t_X2_goOnFrom d ho ho1 _ ?_
  have h1 := CS_blk (CS_0 (I := I) o o1) (x := 1) (n := 12) (by omega) hd
  have h2 := CS_blk h1 (x := 2) (n := 12) (by omega) hd
  generalize uR (uR I (o + 1) (va_cpy (I (o1 + 1)) (I (o + 1)) 0 0 12)) (o + 2) (va_cpy (uR I (o + 1) (va_cpy (I (o1 + 1)) (I (o + 1)) 0 0 12) (o1 + 2)) (uR I (o + 1) (va_cpy (I (o1 + 1)) (I (o + 1)) 0 0 12) (o + 2)) 0 0 12) = J at h2 ⊢
  have f3 : J o1 3 = nI n := by rw [← e3]; exact h2.1 _ _ (by unfold CF; omega)
  have h3 := CS_step h2 (k := 134) (by omega) (cloc_of (b := o) (k := 134) rfl) (v := J o1 3) (by rw [f3, ← e3]; rfl)
  have h4 : CS I o o1 (fun k => DG 0 k) (u2 J o 3 (J o1 3)) := CS_mono h3 fun k hk h9 => by
    have hk' : DG 0 k := hk
    unfold DG at hk'
    by_cases q : k < 12
    · exact Or.inl (Or.inl (Or.inr (by rw [c0_w k q]; exact ⟨rfl, q⟩)))
    · by_cases q2 : k < 24
      · exact Or.inl (Or.inr (c0_c k (by omega) q2))
      · exact Or.inr (by omega)
  refine count_st (P := fun y J => zSV C (zmk I L M) K Y_X2_goOnFrom (d + 2) 40 [(0, .ref o), (1, .ref o1), (2, .int (nI y))] [] J L M) (J := fun y J => CS I o o1 (fun k => DG y k) J) n ?_ ?_ 0 _ (Nat.zero_le _) h4
  · intro J h
    have g3 : J o 3 = nI n := by
      have := h.2 134 (by unfold DG; omega) (by omega)
      rw [← e3]
      exact this
    refine t_X2_goOnFrom_40 d ho ho1 _ _ (br_t (by rw [g3]; exact Int32.le_refl _) ⟨r, hM, hr, ?_⟩)
    have h5 := CS_step h (k := 135) (by omega) (cloc_of (b := o) (k := 135) rfl) (v := J o1 4) (by
      rw [h.1 o1 4 (by unfold CF; omega)]; rfl)
    exact hK _ h5
  · intro y J hy h ih
    have g3 : J o 3 = nI n := by
      have := h.2 134 (by unfold DG; omega) (by omega)
      rw [← e3]
      exact this
    refine t_X2_goOnFrom_40 d ho ho1 _ _ (br_f (fun z => by rw [g3] at z; have := (nI_le_iff (a := n) (b := y) (by omega) (by omega)).mp z; omega) ?_)
    rw [nI_clamp (show y < 2 ^ 31 by omega)]
    have hin6 := vp_in_nI (n := y) (N := 6) (by omega) (by omega)
    refine ⟨hin6, hin6, sp_gb d ho ho1 hd (by omega) h (hin y hy) _ fun J' hJ' => ?_⟩
    rw [nI_1]
    exact ih J' (CS_mono hJ' fun k hk h9 => by
      have hk' : DG (y + 1) k := hk
      unfold DG at hk'
      show DG y k ∨ _
      unfold DG
      omega)
theorem sp_rows (d : Nat) {o o1 x n c kc : Nat} (hr : zRo n (o + x)) (hr1 : zRo n (o1 + x)) (hd : o + 45 ≤ o1 ∨ o1 + 45 ≤ o) (hx : x + 2 + n ≤ 33) (hn : n < 2 ^ 31) (hkc : kc < 139) (ekc : c0 kc = (x, 1)) (hc : c ≤ n) (ec : I (o1 + x) 1 = nI c) {D : Nat → Prop} {J : Nat → Nat → Int32} (h : CS I o o1 D J) (K : (Nat → Nat → Int32) → (Nat → Nat → Int64) → (Nat → Nat → Option Nat) → Prop) (hK : ∀ J', CS I o o1 (fun k => (D k ∨ k = kc) ∨ (x + 2 ≤ (c0 k).1 ∧ (c0 k).1 < x + 2 + c ∧ (c0 k).2 < 4)) J' → K J' L M) : zCV C Y_X6_become (d + 1) [.ref (o + x), .ref (o1 + x)] (zmk J L M) K := by
  refine t_X6_become d hr hr1 _ ?_
  have e1 : J (o1 + x) 1 = nI c := by rw [← ec]; exact h.1 _ _ (by unfold CF; omega)
  have e2 : ¬ Int32.ofNat n < nI c := fun z => by have := (nI_lt_iff (a := n) (b := c) (by omega) (by omega)).mp z; omega
  rw [e1, if_neg e2]
  have h1 := CS_step h hkc (cloc_of (b := o) ekc) (v := nI c) (by rw [cv_at (cloc_of ekc) hkc]; exact ec.symm)
  have h2 : CS I o o1 (fun k => (D k ∨ k = kc) ∨ (x + 2 ≤ (c0 k).1 ∧ (c0 k).1 < x + 2 + 0 ∧ (c0 k).2 < 4)) (u2 J (o + x) 1 (nI c)) := CS_mono h1 fun k hk h9 => by
    have hk' : (D k ∨ k = kc) ∨ (x + 2 ≤ (c0 k).1 ∧ (c0 k).1 < x + 2 + 0 ∧ (c0 k).2 < 4) := hk
    rcases hk' with q | q
    · exact q
    · omega
  refine count_st (P := fun y J => zSV C (zmk _ L M) K Y_X6_become (d + 1) 18 [(0, .ref (o + x)), (1, .ref (o1 + x)), (2, .int (nI y))] [] J L M) (J := fun y J => CS I o o1 (fun k => (D k ∨ k = kc) ∨ (x + 2 ≤ (c0 k).1 ∧ (c0 k).1 < x + 2 + y ∧ (c0 k).2 < 4)) J) c ?_ ?_ 0 _ (Nat.zero_le _) h2
  · intro J h
    have g3 : J (o + x) 1 = nI c := by
      have := h.2 kc (Or.inl (Or.inr rfl)) hkc
      rw [cv_at (cloc_of ekc) hkc, cv_at (cloc_of ekc) hkc] at this
      rw [this, ec]
    exact t_X6_become_18 d hr hr1 _ _ (br_t (by rw [g3]; exact Int32.le_refl _) (hK J h))
  · intro y J hy h ih
    have g3 : J (o + x) 1 = nI c := by
      have := h.2 kc (Or.inl (Or.inr rfl)) hkc
      rw [cv_at (cloc_of ekc) hkc, cv_at (cloc_of ekc) hkc] at this
      rw [this, ec]
    refine t_X6_become_18 d hr hr1 _ _ (br_f (fun z => by rw [g3] at z; have := (nI_le_iff (a := c) (b := y) (by omega) (by omega)).mp z; omega) ?_)
    rw [nI_clamp (show y < 2 ^ 31 by omega)]
    have hin6 := vp_in_nI (n := y) (N := n) (by omega) (by omega)
    refine ⟨hin6, hin6, ?_⟩
    rw [nI_1]
    have h6 := CS_blk h (x := x + 2 + y) (n := 4) (by omega) hd
    rw [show o + (x + 2 + y) = o + x + 2 + y by omega, show o1 + (x + 2 + y) = o1 + x + 2 + y by omega] at h6
    refine ih _ (CS_mono h6 fun k hk h9 => ?_)
    have hk' : (D k ∨ k = kc) ∨ (x + 2 ≤ (c0 k).1 ∧ (c0 k).1 < x + 2 + (y + 1) ∧ (c0 k).2 < 4) := hk
    rcases hk' with q | q
    · exact Or.inl (Or.inl q)
    · by_cases e : (c0 k).1 = x + 2 + y
      · exact Or.inr ⟨e, q.2.2⟩
      · exact Or.inl (Or.inr (by omega))
end SM
