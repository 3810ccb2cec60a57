section SM
variable {C : zC} {I I' : Nat → Nat → Int32} {L L' : Nat → Nat → Int64} {M : Nat → Nat → Option Nat}
theorem sw_n : ∀ n, n < 100 → ¬ (1048576 : Int32) + nI n < 1048477 ∧ ¬ (1048576 : Int32) - nI n < 1048477 ∧ (1048576 : Int32) + nI n - 1048576 = nI n ∧ (1048576 : Int32) - nI n - 1048576 = -nI n := by decide +kernel
theorem sw_all (d : Nat) {h0 : zH} {o a n N : Nat} (ho : zHo o) (ha : zsh a = (12, n)) (hn : 8 ≤ n) (hn2 : n < 2 ^ 31) {f : Nat → Int32} (hf : Fok f) (hfa : ∀ c, c < 6 → I a c = f c) (hN : I o 2 = nI N) (hN2 : N ≤ 100) (K : KI) : ∀ (cs : List zCl) (sum : Int32) (i : Nat), (∀ q ∈ cs, okC q) → i + (cs.flatMap stpC).length = N → (∀ j, j < (cs.flatMap stpC).length → I (o + 1) (i + j) = (cs.flatMap stpC).getD j 0) → K (cs.foldl (fun s q => s + clV f q) sum) I L M → zSI C h0 K Y_X1_sway (d + 1) 7 [(0, .ref o), (1, .ref a), (2, .int sum), (3, .int 0), (4, .int (nI i))] [] I L M := by
  intro cs
  induction cs with
  | nil =>
    intro sum i _ hi _ hK
    have : i = N := by simpa using hi
    subst this
    exact t_X1_sway_7 d ho ha _ _ _ _ (br_t (by rw [hN]; exact Int32.le_refl _) hK)
  | cons q cs ih =>
    intro sum i hok hi hst hK
    obtain ⟨k1, k2, k3, k4, k5⟩ := hok q (by simp)
    have hoks : ∀ q ∈ cs, okC q := fun x hx => hok x (by simp [hx])
    rw [List.flatMap_cons, List.length_append] at hi
    rw [List.flatMap_cons] at hst
    rw [List.foldl_cons] at hK
    by_cases h2 : q.1 = 2
    · have e : stpC q = [] := by unfold stpC; rw [if_neg (by omega), if_neg (by omega)]
      have ec : clV f q = 0 := by unfold clV; rw [if_neg (by omega)]
      rw [e] at hi hst
      rw [ec, Int32.add_zero] at hK
      exact ih sum i hoks (by simpa using hi) (by simpa using hst) hK
    · have h4 := k4 (by omega)
      obtain ⟨s', e1, e2⟩ := ev_dep f q.2.2 [] 1 h4
      obtain ⟨b, rfl⟩ : ∃ b, s' = [b] := by
        cases s' with
        | nil => simp at e2
        | cons b r =>
          cases r with
          | nil => exact ⟨b, rfl⟩
          | cons _ _ => simp at e2
      obtain ⟨st, est, estv⟩ : ∃ st : Int32, stpC q = q.2.2.map stp ++ [st] ∧ (¬ st < 1048477 ∧ st - 1048576 = (if q.1 = 0 then nI q.2.1 else -nI q.2.1)) := by
        have hw := sw_n q.2.1 (by omega)
        unfold stpC
        by_cases h0 : q.1 = 0
        · exact ⟨_, by rw [if_pos h0], hw.1, by rw [if_pos h0]; exact hw.2.2.1⟩
        · exact ⟨_, by rw [if_neg h0, if_pos (by omega)], hw.2.1, by rw [if_neg h0]; exact hw.2.2.2⟩
      have elen : (stpC q).length = q.2.2.length + 1 := by rw [est]; simp
      rw [elen] at hi
      have hstl : ∀ j, j < q.2.2.length → I (o + 1) (i + j) = (q.2.2.map stp).getD j 0 := fun j hj => by
        rw [hst j (by rw [List.length_append, elen]; omega), est, List.append_assoc, List.getD_eq_getElem?_getD, List.getElem?_append_left (by simpa using hj), List.getD_eq_getElem?_getD]
      have hsts : I (o + 1) (i + q.2.2.length) = st := by
        rw [hst q.2.2.length (by rw [List.length_append, elen]; omega), est, List.append_assoc, List.getD_eq_getElem?_getD, List.getElem?_append_right (by simp)]
        simp
      have hstr : ∀ j, j < (cs.flatMap stpC).length → I (o + 1) (i + q.2.2.length + 1 + j) = (cs.flatMap stpC).getD j 0 := fun j hj => by
        have := hst (q.2.2.length + 1 + j) (by rw [List.length_append, elen]; omega)
        rw [show i + q.2.2.length + 1 + j = i + (q.2.2.length + 1 + j) by omega, this, List.getD_eq_getElem?_getD, List.getElem?_append_right (by rw [elen]; omega), elen, List.getD_eq_getElem?_getD]
        congr 2
        omega
      refine sw_tok d ho ha hn hn2 hf hfa hN hN2 K sum q.2.2 [] [b] i 0 1 k5 h4 e1 (by simp) (by omega) hstl Bt_0 fun y' hy => ?_
      refine t_X1_sway_7 d ho ha _ _ _ _ (br_f (fun z => by rw [hN] at z; have := (nI_le_iff (a := N) (b := i + q.2.2.length) (by omega) (by omega)).mp z; omega) ⟨vp_in_nI (by omega) (by omega), ?_⟩)
      rw [nI_clamp (by omega), hsts, nI_1]
      refine br_f estv.1 ⟨fun z => ?_, fun z => ?_⟩
      · have hb : ¬ b = true := fun q => z ((Bt_one hy).mpr (by simpa using q))
        have ec : clV f q = 0 := by
          unfold clV
          rw [e1, if_neg]
          rintro ⟨-, w⟩
          exact hb (by simpa using w)
        rw [ec] at hK
        exact ih _ _ hoks (by omega) hstr hK
      · have hb : b = true := by simpa using (Bt_one hy).mp z
        have ec : clV f q = (if q.1 = 0 then nI q.2.1 else -nI q.2.1) := by
          unfold clV
          rw [e1, hb, if_pos ⟨by omega, rfl⟩]
        rw [ec, ← estv.2] at hK
        exact ih _ _ hoks (by omega) hstr hK
theorem sp_sway (d : Nat) {o a n : Nat} (ho : zHo o) (ha : zsh a = (12, n)) (hn : 8 ≤ n) (hn2 : n < 2 ^ 31) {f : Nat → Int32} (hf : Fok f) (hfa : ∀ c, c < 6 → I a c = f c) {cs : List zCl} (hok : ∀ q ∈ cs, okC q) (hl : (cs.flatMap stpC).length ≤ 100) (hN : I o 2 = nI (cs.flatMap stpC).length) (hst : ∀ j, j < (cs.flatMap stpC).length → I (o + 1) j = (cs.flatMap stpC).getD j 0) (K : KI) (hK : K (swV f cs) I L M) : zCI C Y_X1_sway (d + 1) [.ref o, .ref a] (zmk I L M) K := by
  refine t_X1_sway d ho ha _ ?_
  exact sw_all d ho ha hn hn2 hf hfa hN hl K cs 0 0 hok (by omega) (by simpa using hst) hK
end SM
