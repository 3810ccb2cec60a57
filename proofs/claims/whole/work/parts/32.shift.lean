/-! SHIFT -/
section SM
variable {C : zC} {I I' : Nat → Nat → Int32} {L L' : Nat → Nat → Int64} {M : Nat → Nat → Option Nat}
/-- the model's way: one by one, up or down -/
theorem sh_up (d : Nat) {K : Int32 → (Nat → Nat → Int32) → (Nat → Nat → Int64) → (Nat → Nat → Option Nat) → Prop} {h0 : zH} {t t' i j n : Nat} (ht : t < 6) (ht' : t' < 6) (hi : i + n ≤ 60) (hj : j + n ≤ 60) (hn : t ≠ t' ∨ j ≤ i) (hK : K (nI n) I (zspan L 296 (60 * t' + j) n (fun k => L 296 (60 * t + i + k))) M) : zSI C h0 K Y_X11_shift (d + 12) 170 [(0, .ref 265), (1, .int (nI t)), (2, .int (nI i)), (3, .int (nI t')), (4, .int (nI j)), (5, .int (nI n)), (6, .int (nI 0))] [] I L M := by
  have key := count_up (P := fun k => zSI C h0 K Y_X11_shift (d + 12) 170 [(0, .ref 265), (1, .int (nI t)), (2, .int (nI i)), (3, .int (nI t')), (4, .int (nI j)), (5, .int (nI n)), (6, .int (nI k))] [] I (zspan L 296 (60 * t' + j) k (fun k => L 296 (60 * t + i + k))) M) n
    (t_X11_shift_170 (d + 9) _ _ _ _ _ _ _ (br_t (Int32.le_refl _) hK))
    (fun k hk ih => t_X11_shift_170 (d + 9) _ _ _ _ _ _ _ (br_f (fun z => by have := (nI_le_iff (a := n) (b := k) (by omega) (by omega)).mp z; omega) (by
      have e : zspan L 296 (60 * t' + j) k (fun k => L 296 (60 * t + i + k)) 296 (60 * t + i + k) = L 296 (60 * t + i + k) := by
        rw [zspan_at, if_neg (by omega)]
      simp (disch := omega) only [u2_same, u2_n1, u2_n2, not_true_eq_false, not_false_eq_true, false_implies, true_implies, forall_const, true_and, and_true, and_self, implies_true, nI_60, nI_add, nI_1, nI_clamp (show 60 * t + i + k < 2 ^ 31 by omega), nI_clamp (show 60 * t' + j + k < 2 ^ 31 by omega), vp_in_nI (show 60 * t + i + k < 360 by omega) (by omega), vp_in_nI (show 60 * t' + j + k < 360 by omega) (by omega), e]
      have := zspan_s L 296 (60 * t' + j) k (fun k => L 296 (60 * t + i + k))
      rw [this]
      exact ih))) 0 (by omega)
  rw [zspan_0] at key
  exact key
def zdown {α : Type} (F : Nat → Nat → α) (a o lo n : Nat) (v : Nat → α) : Nat → Nat → α := fun b j => if b = a ∧ o + lo ≤ j ∧ j < o + n then v (j - o) else F b j
theorem sh_down (d : Nat) {K : Int32 → (Nat → Nat → Int32) → (Nat → Nat → Int64) → (Nat → Nat → Option Nat) → Prop} {h0 : zH} {t i j n : Nat} (ht : t < 6) (hi : i + n ≤ 60) (hj : j + n ≤ 60) (hn : i < j) (hK : K (nI n) I (zspan L 296 (60 * t + j) n (fun k => L 296 (60 * t + i + k))) M) : zSI C h0 K Y_X11_shift (d + 12) 124 [(0, .ref 265), (1, .int (nI t)), (2, .int (nI i)), (3, .int (nI t)), (4, .int (nI j)), (5, .int (nI n)), (6, .int (nI n - 1))] [] I L M := by
  have key : ∀ k, k ≤ n → zSI C h0 K Y_X11_shift (d + 12) 124 [(0, .ref 265), (1, .int (nI t)), (2, .int (nI i)), (3, .int (nI t)), (4, .int (nI j)), (5, .int (nI n)), (6, .int (nI k - 1))] [] I (zdown L 296 (60 * t + j) k n (fun k => L 296 (60 * t + i + k))) M := by
    intro k
    induction k with
    | zero =>
      intro _
      refine t_X11_shift_124 (d + 9) _ _ _ _ _ _ _ (br_t (by decide) ?_)
      have e : zdown L 296 (60 * t + j) 0 n (fun k => L 296 (60 * t + i + k)) = zspan L 296 (60 * t + j) n (fun k => L 296 (60 * t + i + k)) := rfl
      rw [e]
      exact hK
    | succ k ih =>
      intro hk
      rw [nI_sub1 (by omega), Nat.add_sub_cancel]
      refine t_X11_shift_124 (d + 9) _ _ _ _ _ _ _ (br_f (le_nlt (nI_pos' (by omega))) ?_)
      have e : zdown L 296 (60 * t + j) (k + 1) n (fun k => L 296 (60 * t + i + k)) 296 (60 * t + i + k) = L 296 (60 * t + i + k) := by
        unfold zdown
        rw [if_neg (by omega)]
      simp (disch := omega) only [u2_same, u2_n1, u2_n2, not_true_eq_false, not_false_eq_true, false_implies, true_implies, forall_const, true_and, and_true, and_self, implies_true, nI_60, nI_add, nI_clamp (show 60 * t + i + k < 2 ^ 31 by omega), nI_clamp (show 60 * t + j + k < 2 ^ 31 by omega), vp_in_nI (show 60 * t + i + k < 360 by omega) (by omega), vp_in_nI (show 60 * t + j + k < 360 by omega) (by omega), e]
      have e2 : u2 (zdown L 296 (60 * t + j) (k + 1) n (fun k => L 296 (60 * t + i + k))) 296 (60 * t + j + k) (L 296 (60 * t + i + k)) = zdown L 296 (60 * t + j) k n (fun k => L 296 (60 * t + i + k)) := by
        funext b m
        rw [u2_at]
        unfold zdown
        by_cases h : b = 296 ∧ m = 60 * t + j + k
        · obtain ⟨rfl, rfl⟩ := h
          rw [if_pos ⟨rfl, rfl⟩, if_pos (by omega)]
          congr 1
          omega
        · rw [if_neg h]
          by_cases h2 : b = 296 ∧ 60 * t + j + (k + 1) ≤ m ∧ m < 60 * t + j + n
          · rw [if_pos h2, if_pos (by omega)]
          · rw [if_neg h2, if_neg (by omega)]
      rw [e2]
      have e3 : nI k + (-1) = nI k - 1 := by rw [Int32.sub_eq_add_neg]
      rw [e3]
      exact ih (by omega)
  have := key n (by omega)
  have e : zdown L 296 (60 * t + j) n n (fun k => L 296 (60 * t + i + k)) = L := by
    funext b m
    unfold zdown
    rw [if_neg (by omega)]
  rw [e] at this
  exact this
theorem nI_sub {m n : Nat} (h : n ≤ m) : nI m - nI n = nI (m - n) := by
  have e : nI m = nI (m - n) + nI n := by rw [nI_add]; congr 1; omega
  rw [e, Int32.add_sub_cancel]
theorem partI {len : Nat} (hl : len ≤ 60) (x y : Int32) : (0 ≤ x ∧ 0 ≤ y ∧ y ≤ nI len ∧ x ≤ nI len - y) ↔ ∃ i n, x = nI i ∧ y = nI n ∧ i + n ≤ len := by
  constructor
  · rintro ⟨a, b, c, e⟩
    obtain ⟨n, hn, rfl⟩ := rgle len (by omega) b c
    rw [nI_sub hn] at e
    obtain ⟨i, hi, rfl⟩ := rgle (len - n) (by omega) a e
    exact ⟨i, n, rfl, rfl, by omega⟩
  · rintro ⟨i, n, rfl, rfl, h⟩
    exact ⟨nI_pos' (by omega), nI_pos' (by omega), (nI_le_iff (by omega) (by omega)).mpr (by omega), by rw [nI_sub (by omega)]; exact (nI_le_iff (by omega) (by omega)).mpr (by omega)⟩
theorem nI_ex {x : Int32} (h : ¬ x < 0) : ∃ n, n < 2 ^ 31 ∧ x = nI n := by
  have h0 : (0 : Int32).toInt = 0 := rfl
  rw [Int32.lt_iff_toInt_lt, h0] at h
  have := Int32.toInt_lt x
  refine ⟨x.toInt.toNat, by omega, Int32.toInt_inj.mp ?_⟩
  rw [nI_toInt (by omega)]
  omega
theorem pr_shift (d : Nat) (h : Inv I L M) (x1 x2 x3 x4 x5 : Int32) : PrI C Y_X10_shift Y_X11_shift (d + 12) [.int x1, .int x2, .int x3, .int x4, .int x5] I L M := by
  refine t_X10_shift (d + 10) x1 x2 x3 x4 x5 _ ⟨fun q => ?_, fun q => ⟨fun q3 => ?_, fun q3 => ?_⟩⟩
  · refine t_X11_shift (d + 9) _ _ _ _ _ _ ?_
    simp (disch := omega) only [u2_same, u2_n1, u2_n2, not_true_eq_false, not_false_eq_true, false_implies, true_implies, forall_const, true_and, and_true, and_self, implies_true, q]
    exact h
  · obtain ⟨t, ht, rfl⟩ := rg 6 (by omega) q.1 q.2
    obtain ⟨t', ht', rfl⟩ := rg 6 (by omega) q3.1 q3.2
    obtain ⟨so, n, hso, hn, a1, a2, a3, a4, a5⟩ := h.tap ht
    obtain ⟨so', n', hso', hn', b1, b2, b3, b4, b5⟩ := h.tap ht'
    have hin := vp_in_nI ht (by omega : 6 < 2 ^ 31)
    have hin' := vp_in_nI ht' (by omega : 6 < 2 ^ 31)
    have hcl := nI_clamp (n := t) (by omega)
    have hcl' := nI_clamp (n := t') (by omega)
    have s1 := (so_neg hso)
    have s2 := (so_neg hso')
    rw [hcl, hcl', a1, b1, a3, b3]
    refine ⟨hin, hin', fun z1 => ?_, fun z1 => ⟨fun z2 => ⟨fun z3 => ⟨fun z4 => ?_, fun z4 => ⟨fun z5 => ?_, fun z5 => ?_⟩⟩, fun z3 => ?_⟩, fun z2 => ?_⟩⟩
    · refine t_X11_shift (d + 9) _ _ _ _ _ _ ?_
      simp (disch := omega) only [u2_same, u2_n1, u2_n2, not_true_eq_false, not_false_eq_true, false_implies, true_implies, forall_const, true_and, and_true, and_self, implies_true, q, q3, hin, hcl, a2, s1.1.mpr z1]
      exact h
    · have w1 : ¬ so < 0 := fun z => z1 (s1.1.mp z)
      have w2 := s2.2.1.mpr z2
      try subst z3
      refine t_X11_shift (d + 9) _ _ _ _ _ _ ?_
      simp (disch := omega) only [u2_same, u2_n1, u2_n2, not_true_eq_false, not_false_eq_true, false_implies, true_implies, forall_const, true_and, and_true, and_self, implies_true, q, q3, hin, hin', hcl, hcl', a2, b2, a4, b4, w1, w2]
      refine ⟨fun _ => h, fun y1 => ⟨fun _ => h, fun y2 => ⟨fun _ => h, fun y3 => ⟨fun _ => h, fun y4 => ?_⟩⟩⟩⟩
      obtain ⟨m, hm, rfl⟩ := nI_ex y1
      obtain ⟨i, hi, rfl⟩ := nI_ex y2
      rw [partI hn] at z4
      rw [lg_cmp_gt] at y4
      exact absurd ⟨i, m, rfl, rfl, by have : ¬ n < i + m := fun z => y4 ((i64_lt hi hm (by omega)).2.2.mpr z); omega⟩ z4
    · rw [partI hn] at z4
      rw [partI hn'] at z5
      obtain ⟨i, m, rfl, rfl, him⟩ := z4
      obtain ⟨j, m', rfl, e, hjm⟩ := z5
      have e := nI_inj (by omega) (by omega) e
      subst e
      refine ⟨⟨le_nlt (nI_pos' (by omega)), le_nlt (nI_pos' (by omega)), le_nlt (nI_pos' (by omega)), ?_, ?_⟩, ?_⟩
      · rw [nI_clamp (by omega), nI_clamp (by omega)]; omega
      · rw [nI_clamp (by omega), nI_clamp (by omega)]; omega
      have w1 : ¬ so < 0 := fun z => z1 (s1.1.mp z)
      have w2 := s2.2.1.mpr z2
      try subst z3
      have w3 : ¬ 0 < lg_cmp ((nI i).toInt64 + (nI m).toInt64) (nI n).toInt64 := by rw [lg_cmp_gt, (i64_lt (by omega) (by omega) (by omega)).2.2]; omega
      have w4 : lg_cmp ((nI j).toInt64 + (nI m).toInt64) (nI n').toInt64 ≤ 0 := by rw [lg_cmp_le, (i64_lt (by omega) (by omega) (by omega)).2.1]; omega
      have p1 : ∀ k, ¬ nI k < 0 ∨ True := fun _ => Or.inr trivial
      rw [nI_clamp (show i < 2 ^ 31 by omega), nI_clamp (show j < 2 ^ 31 by omega), nI_clamp (show m < 2 ^ 31 by omega)]
      have fin : Inv I (zspan (uR L (253 + 2 * t' + 1) (va_cpy (L (253 + 2 * t + 1)) (L (253 + 2 * t' + 1)) i j m)) 296 (60 * t' + j) m (fun k => uR L (253 + 2 * t' + 1) (va_cpy (L (253 + 2 * t + 1)) (L (253 + 2 * t' + 1)) i j m) 296 (60 * t + i + k))) M := by
        refine Inv_tap h (fun a j _ _ _ => rfl) fun t2 ht2 => ?_
        obtain ⟨c1, c2, c3, c4⟩ := h.rest.2.2.2.2.2 t2 ht2
        refine ⟨c1, c2, c3, fun k hk => ?_⟩
        rw [zspan_at, zspan_at, if_neg (by omega)]
        unfold uR
        by_cases e : t2 = t'
        · subst e
          rw [if_pos rfl]
          unfold va_cpy
          by_cases e2 : j ≤ k ∧ k < j + m
          · rw [if_pos e2, if_pos (by omega), if_neg (by omega), a5 _ (by omega)]
            congr 1
            omega
          · rw [if_neg e2, if_neg (by omega), if_neg (by omega)]
            exact c4 k hk
        · rw [if_neg (by omega), if_neg (by omega), if_neg (by omega)]
          exact c4 k hk
      refine t_X11_shift (d + 9) _ _ _ _ _ _ ?_
      simp (disch := omega) only [u2_same, u2_n1, u2_n2, not_true_eq_false, not_false_eq_true, false_implies, true_implies, forall_const, true_and, and_true, and_self, implies_true, q, q3, hin, hin', hcl, hcl', a2, b2, a4, b4, w1, w2, w3, w4, le_nlt (nI_pos' (show i < 2 ^ 31 by omega)), le_nlt (nI_pos' (show j < 2 ^ 31 by omega)), le_nlt (nI_pos' (show m < 2 ^ 31 by omega))]
      have h00 : (0 : Int32) = nI 0 := rfl
      refine ⟨fun y => ?_, fun y => ⟨fun y2 => ?_, fun y2 => ?_⟩⟩
      · rw [h00]
        exact sh_up d ht ht' (by omega) (by omega) (Or.inl fun e => y (by rw [e])) ⟨rfl, fin⟩
      · rw [h00]
        exact sh_up d ht ht' (by omega) (by omega) (Or.inr ((nI_le_iff (by omega) (by omega)).mp y2)) ⟨rfl, fin⟩
      · have e := nI_inj (by omega) (by omega) y
        subst e
        have : i < j := by have : ¬ j ≤ i := fun z => y2 ((nI_le_iff (a := j) (b := i) (by omega) (by omega)).mpr z); omega
        exact sh_down d ht (by omega) (by omega) this ⟨rfl, fin⟩
    · have w1 : ¬ so < 0 := fun z => z1 (s1.1.mp z)
      have w2 := s2.2.1.mpr z2
      try subst z3
      rw [partI hn] at z4
      obtain ⟨i, m, rfl, rfl, him⟩ := z4
      have w3 : ¬ 0 < lg_cmp ((nI i).toInt64 + (nI m).toInt64) (nI n).toInt64 := by rw [lg_cmp_gt, (i64_lt (by omega) (by omega) (by omega)).2.2]; omega
      refine t_X11_shift (d + 9) _ _ _ _ _ _ ?_
      simp (disch := omega) only [u2_same, u2_n1, u2_n2, not_true_eq_false, not_false_eq_true, false_implies, true_implies, forall_const, true_and, and_true, and_self, implies_true, q, q3, hin, hin', hcl, hcl', a2, b2, a4, b4, w1, w2, w3, le_nlt (nI_pos' (show i < 2 ^ 31 by omega)), le_nlt (nI_pos' (show m < 2 ^ 31 by omega))]
      refine ⟨fun _ => h, fun y1 => ⟨fun y2 => ?_, fun _ => h⟩⟩
      obtain ⟨j, hj, rfl⟩ := nI_ex y1
      rw [partI hn'] at z5
      rw [lg_cmp_le] at y2
      exact absurd ⟨j, m, rfl, rfl, (i64_lt hj (by omega) (by omega)).2.1.mp y2⟩ z5
    · have w1 : ¬ so < 0 := fun z => z1 (s1.1.mp z)
      have w2 := s2.2.1.mpr z2
      try subst z3
      refine t_X11_shift (d + 9) _ _ _ _ _ _ ?_
      simp (disch := omega) only [u2_same, u2_n1, u2_n2, not_true_eq_false, not_false_eq_true, false_implies, true_implies, forall_const, true_and, and_true, and_self, implies_true, q, q3, hin, hin', hcl, hcl', a2, b2, a4, b4, w1, w2, z3]
      exact h
    · have w1 : ¬ so < 0 := fun z => z1 (s1.1.mp z)
      have w2 : ¬ 0 ≤ so' := fun z => s2.2.1.mp z z2
      refine t_X11_shift (d + 9) _ _ _ _ _ _ ?_
      simp (disch := omega) only [u2_same, u2_n1, u2_n2, not_true_eq_false, not_false_eq_true, false_implies, true_implies, forall_const, true_and, and_true, and_self, implies_true, q, q3, hin, hin', hcl, hcl', a2, b2, a4, b4, w1, w2]
      exact h
  · refine t_X11_shift (d + 9) _ _ _ _ _ _ ?_
    simp (disch := omega) only [u2_same, u2_n1, u2_n2, not_true_eq_false, not_false_eq_true, false_implies, true_implies, forall_const, true_and, and_true, and_self, implies_true, q, q3]
    exact h
end SM
