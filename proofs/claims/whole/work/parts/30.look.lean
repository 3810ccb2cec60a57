/-! LOOKED, JUDGED, TAKEN, THE TRACE -/
section SM
variable {C : zC} {I I' : Nat → Nat → Int32} {L L' : Nat → Nat → Int64} {M : Nat → Nat → Option Nat}
theorem pr_looked (d : Nat) (h : Inv I L M) : PrI C Y_X10_looked Y_X11_looked (d + 12) [] I L M := by
  obtain ⟨p, hp, ep, ep', ec⟩ := h.cnt (k := 138) (a := 265) (j := 34) (a' := 26) (j' := 1) (by omega) rfl rfl
  rw [ub_138] at hp
  have key : ∃ r : Int32, (∀ K : Int32 → (Nat → Nat → Int32) → (Nat → Nat → Int64) → (Nat → Nat → Option Nat) → Prop, K r I L M → zSI C (zmk I L M) K Y_X10_looked (d + 12) 2 [(0, .ref 0), (1, .int (nI 0))] [] I L M) ∧ (∀ K : Int32 → (Nat → Nat → Int32) → (Nat → Nat → Int64) → (Nat → Nat → Option Nat) → Prop, K r I L M → zSI C (zmk I L M) K Y_X11_looked (d + 12) 2 [(0, .ref 265), (1, .int (nI 0))] [] I L M) := by
    refine count_up (P := fun y => ∃ r : Int32, (∀ K : Int32 → (Nat → Nat → Int32) → (Nat → Nat → Int64) → (Nat → Nat → Option Nat) → Prop, K r I L M → zSI C (zmk I L M) K Y_X10_looked (d + 12) 2 [(0, .ref 0), (1, .int (nI y))] [] I L M) ∧ (∀ K : Int32 → (Nat → Nat → Int32) → (Nat → Nat → Int64) → (Nat → Nat → Option Nat) → Prop, K r I L M → zSI C (zmk I L M) K Y_X11_looked (d + 12) 2 [(0, .ref 265), (1, .int (nI y))] [] I L M)) p ?_ ?_ 0 (by omega)
    · refine ⟨-5, fun K hK => t_X10_looked_2 (d + 9) _ _ ?_, fun K hK => t_X11_looked_2 (d + 11) _ _ ?_⟩
      · rw [ep']
        exact br_t ((nI_le_iff (by omega) (by omega)).mpr (by omega)) hK
      · rw [ep]
        exact br_t ((nI_le_iff (by omega) (by omega)).mpr (by omega)) hK
    · rintro y hy ⟨r, r1, r2⟩
      have hlv : live (cur I) (118 + y) ∧ live (cur I) (126 + y) := by
        unfold live
        rw [ec, cn_nI (by omega)]
        constructor
        · right; right; right; right; right; right; left; omega
        · right; right; right; right; right; right; left; omega
      have l1 := l_b y (by omega)
      have b1 := c_b 3 (x := y) (by omega)
      have u1 := u_b 9999 y (by omega)
      have e1 := h.at (by omega) hlv.1 l1.1 b1.1
      have e2 := h.at (by omega) hlv.2 l1.2 b1.2
      obtain ⟨x, hx, ex⟩ := h.val (by omega) hlv.1 l1.1
      rw [u1.1] at hx
      have e3 := h.at (k := 12 + x) (by omega) (by unfold live; omega) (l_c x (by omega)) (c_c 3 (by omega))
      have hcl := nI_clamp (n := y) (by omega)
      have hclx := nI_clamp (n := x) (by omega)
      have hin8 := vp_in_nI (n := y) (N := 8) (by omega) (by omega)
      have hin12 := vp_in_nI (n := x) (N := 12) (by omega) (by omega)
      have hle : ¬ nI p ≤ nI y := fun z => by have := (nI_le_iff (by omega) (by omega)).mp z; omega
      have hpp : 0 ≤ nI x ∧ nI x < 12 := ⟨nI_pos' (by omega), (nI_lt_iff (b := 12) (by omega) (by omega)).mpr (by omega)⟩
      have ea : I (26 + 2 + y) 0 = nI x := e1.trans ex
      have eb : I (26 + 2 + y) 1 = I 289 y := e2
      have ed : I 5 x = I 267 x := e3
      by_cases hq : I 267 x = I 289 y
      · refine ⟨r, fun K hK => t_X10_looked_2 (d + 9) _ _ ?_, fun K hK => t_X11_looked_2 (d + 11) _ _ ?_⟩
        · simp (disch := omega) only [u2_same, u2_n1, u2_n2, not_true_eq_false, not_false_eq_true, false_implies, true_implies, forall_const, true_and, and_true, and_self, implies_true, ep', hle, hcl, hin8, ea, hpp, hclx, hin12, ed, eb, hq, nI_1]
          exact r1 K hK
        · simp (disch := omega) only [u2_same, u2_n1, u2_n2, not_true_eq_false, not_false_eq_true, false_implies, true_implies, forall_const, true_and, and_true, and_self, implies_true, ep, hle, hcl, hin8, ex, hclx, hin12, hq, nI_1]
          exact r2 K hK
      · refine ⟨nI y, fun K hK => t_X10_looked_2 (d + 9) _ _ ?_, fun K hK => t_X11_looked_2 (d + 11) _ _ ?_⟩
        · simp (disch := omega) only [u2_same, u2_n1, u2_n2, not_true_eq_false, not_false_eq_true, false_implies, true_implies, forall_const, true_and, and_true, and_self, implies_true, ep', hle, hcl, hin8, ea, hpp, hclx, hin12, ed, eb, hq, nI_1]
          exact hK
        · simp (disch := omega) only [u2_same, u2_n1, u2_n2, not_true_eq_false, not_false_eq_true, false_implies, true_implies, forall_const, true_and, and_true, and_self, implies_true, ep, hle, hcl, hin8, ex, hclx, hin12, hq, nI_1]
          exact hK
  obtain ⟨r, r1, r2⟩ := key
  exact t_X10_looked (d + 9) _ (r1 _ (t_X11_looked (d + 11) _ (r2 _ ⟨rfl, h⟩)))
theorem min_eq {n : Nat} (hn : n < 2 ^ 31) : (if 20 < nI n then 20 else nI n) = nI (min n 20) ∧ (if nI n < 20 then nI n else 20) = nI (min n 20) := by
  have a := nI_lt_iff (a := 20) (b := n) (by omega) hn
  have b := nI_lt_iff (a := n) (b := 20) hn (by omega)
  have c : nI 20 = (20 : Int32) := rfl
  rw [c] at a b
  constructor
  · by_cases h : 20 < n
    · rw [if_pos (a.mpr h), Nat.min_eq_right (by omega)]; rfl
    · rw [if_neg (fun z => h (a.mp z)), Nat.min_eq_left (by omega)]
  · by_cases h : n < 20
    · rw [if_pos (b.mpr h), Nat.min_eq_left (by omega)]
    · rw [if_neg (fun z => h (b.mp z)), Nat.min_eq_right (by omega)]; rfl
theorem rgl {n : Nat} (hn : n < 2 ^ 31) (x : Int32) : (0 ≤ x ∧ x < nI n) ↔ ∃ i, i < n ∧ x = nI i := by
  constructor
  · rintro ⟨a, b⟩
    exact rg n hn a b
  · rintro ⟨i, hi, rfl⟩
    exact ⟨nI_pos' (by omega), nI_lt hi hn⟩
theorem pr_trace (d : Nat) (h : Inv I L M) (x1 : Int32) : PrI C Y_X10_trace Y_X11_trace (d + 12) [.int x1] I L M := by
  obtain ⟨n, hn, e1, e2, hT⟩ := h.rest.2.2.2.2.1
  rw [rI_at (by unfold Ra; omega)] at e1 e2
  have m := min_eq (n := n) (by omega)
  refine t_X10_trace (d + 10) x1 _ ?_
  rw [e1, m.1, rgl (by omega)]
  refine ⟨fun q => ?_, fun q => ?_⟩
  · refine t_X11_trace (d + 10) x1 _ ?_
    rw [e2, m.2, rgn (by omega)]
    exact ⟨fun _ => ⟨rfl, h⟩, fun z => absurd z q⟩
  · have q0 := q
    obtain ⟨i, hi, rfl⟩ := q
    have hin := vp_in_nI (n := i) (N := 20) (by omega) (by omega)
    refine ⟨hin, t_X11_trace (d + 10) _ _ ?_⟩
    rw [e2, m.2, rgn (by omega)]
    refine ⟨fun z => absurd q0 z, fun _ => ⟨hin, ?_, h⟩⟩
    rw [nI_clamp (by omega)]
    have := hT i (by omega) (by omega)
    rw [rI_at (by unfold Ra; omega), rI_at (by unfold Ra; omega)] at this
    exact this.symm
end SM
