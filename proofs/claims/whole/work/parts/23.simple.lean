/-! THE SIMPLE CALLS, side by side -/
theorem br_t' {c A B : Prop} (h : c) (b : B) : (¬ c → A) ∧ (c → B) := ⟨fun z => absurd h z, fun _ => b⟩
theorem br_f' {c A B : Prop} (h : ¬ c) (a : A) : (¬ c → A) ∧ (c → B) := ⟨fun _ => a, fun z => absurd z h⟩
/-- one call on both: they answer alike, and what stands between the calls stands behind it -/
def PrI (C : zC) (Yc Ym : zY) (d : Nat) (av : List Value) (I : Nat → Nat → Int32) (L : Nat → Nat → Int64) (M : Nat → Nat → Option Nat) : Prop :=
  zCI C Yc d (.ref 0 :: av) (zmk I L M) (fun r I1 L1 M1 => zCI C Ym d (.ref 265 :: av) (zmk I1 L1 M1) (fun r2 I2 L2 M2 => r2 = r ∧ Inv I2 L2 M2))
def PrL (C : zC) (Yc Ym : zY) (d : Nat) (av : List Value) (I : Nat → Nat → Int32) (L : Nat → Nat → Int64) (M : Nat → Nat → Option Nat) : Prop :=
  zCL C Yc d (.ref 0 :: av) (zmk I L M) (fun r I1 L1 M1 => zCL C Ym d (.ref 265 :: av) (zmk I1 L1 M1) (fun r2 I2 L2 M2 => r2 = r ∧ Inv I2 L2 M2))
theorem l_w : ∀ x, x < 12 → loc x = (266, x) := by decide +kernel
theorem l_c : ∀ x, x < 12 → loc (12 + x) = (267, x) := by decide +kernel
theorem l_k : ∀ x, x < 6 → loc (24 + x) = (268, x) := by decide +kernel
theorem l_v : ∀ x, x < 6 → loc (30 + x) = (269, x) := by decide +kernel
theorem l_m : ∀ x, x < 6 → loc (36 + x) = (270, x) := by decide +kernel
theorem l_l : ∀ x, x < 6 → loc (42 + x) = (271, x) := by decide +kernel
theorem l_i : ∀ x, x < 6 → loc (48 + x) = (272, x) := by decide +kernel
theorem l_r : ∀ x, x < 24 → loc (54 + x) = (273, x) := by decide +kernel
theorem u_k (B : Nat) : ∀ x, x < 6 → ub B (24 + x) = 6 := fun x hx => by unfold ub; rw [if_neg (by omega), if_neg (by omega), if_pos (by omega)]
theorem u_v (B : Nat) : ∀ x, x < 6 → ub B (30 + x) = 9 := fun x hx => by unfold ub; rw [if_neg (by omega), if_neg (by omega), if_neg (by omega), if_pos (by omega)]
theorem u_m (B : Nat) : ∀ x, x < 6 → ub B (36 + x) = 4095 := fun x hx => by unfold ub; rw [if_neg (by omega), if_neg (by omega), if_neg (by omega), if_neg (by omega), if_pos (by omega)]
theorem u_l (B : Nat) : ∀ x, x < 6 → ub B (42 + x) = 4095 := fun x hx => by unfold ub; rw [if_neg (by omega), if_neg (by omega), if_neg (by omega), if_neg (by omega), if_pos (by omega)]
theorem u_i (B : Nat) : ∀ x, x < 6 → ub B (48 + x) = 1 := fun x hx => by unfold ub; rw [if_neg (by omega), if_neg (by omega), if_neg (by omega), if_neg (by omega), if_neg (by omega), if_pos (by omega)]
theorem u_r (B : Nat) : ∀ x, x < 24 → ub B (54 + x) = 9 := fun x hx => by unfold ub; rw [if_neg (by omega), if_neg (by omega), if_neg (by omega), if_neg (by omega), if_neg (by omega), if_neg (by omega), if_pos (by omega)]
theorem u_c (B : Nat) : ∀ x, x < 12 → ub B (12 + x) = 99 := fun x hx => by unfold ub; rw [if_neg (by omega), if_pos (by omega)]
theorem cur_at {I : Nat → Nat → Int32} {k a j : Nat} (h : loc k = (a, j)) (hk : k < 140) : cur I k = I a j := by unfold cur; rw [if_pos hk, h]
theorem cv_at {I : Nat → Nat → Int32} {b k a j : Nat} (h : cloc b k = (a, j)) (hk : k < 139) : cv I b k = I a j := by unfold cv; rw [if_pos hk, h]
theorem cloc_of {b k a j : Nat} (h : c0 k = (a, j)) : cloc b k = (b + a, j) := by unfold cloc; rw [h]
theorem c_w (b : Nat) {x : Nat} (hx : x < 12) : cloc b x = (b + 1, x) := cloc_of ((by decide +kernel : ∀ x, x < 12 → c0 x = (1, x)) x hx)
theorem c_c (b : Nat) {x : Nat} (hx : x < 12) : cloc b (12 + x) = (b + 2, x) := cloc_of ((by decide +kernel : ∀ x, x < 12 → c0 (12 + x) = (2, x)) x hx)
theorem c_k (b : Nat) {x : Nat} (hx : x < 6) : cloc b (24 + x) = (b + 33 + 2 * x, 1) := by rw [Nat.add_assoc]; exact cloc_of ((by decide +kernel : ∀ x, x < 6 → c0 (24 + x) = (33 + 2 * x, 1)) x hx)
theorem c_v (b : Nat) {x : Nat} (hx : x < 6) : cloc b (30 + x) = (b + 33 + 2 * x, 2) := by rw [Nat.add_assoc]; exact cloc_of ((by decide +kernel : ∀ x, x < 6 → c0 (30 + x) = (33 + 2 * x, 2)) x hx)
theorem c_m (b : Nat) {x : Nat} (hx : x < 6) : cloc b (36 + x) = (b + 33 + 2 * x, 3) := by rw [Nat.add_assoc]; exact cloc_of ((by decide +kernel : ∀ x, x < 6 → c0 (36 + x) = (33 + 2 * x, 3)) x hx)
theorem c_l (b : Nat) {x : Nat} (hx : x < 6) : cloc b (42 + x) = (b + 33 + 2 * x, 4) := by rw [Nat.add_assoc]; exact cloc_of ((by decide +kernel : ∀ x, x < 6 → c0 (42 + x) = (33 + 2 * x, 4)) x hx)
theorem c_i (b : Nat) {x : Nat} (hx : x < 6) : cloc b (48 + x) = (b + 33 + 2 * x, 5) := by rw [Nat.add_assoc]; exact cloc_of ((by decide +kernel : ∀ x, x < 6 → c0 (48 + x) = (33 + 2 * x, 5)) x hx)
theorem c_r (b : Nat) {g k : Nat} (hg : g < 6) (hk : k < 4) : cloc b (54 + (4 * g + k)) = (b + 33 + 2 * g + 1, k) := by
  rw [show b + 33 + 2 * g + 1 = b + (33 + 2 * g + 1) by omega]
  exact cloc_of ((by decide +kernel : ∀ g, g < 6 → ∀ k, k < 4 → c0 (54 + (4 * g + k)) = (33 + 2 * g + 1, k)) g hg k hk)
section SM
variable {C : zC} {I : Nat → Nat → Int32} {L : Nat → Nat → Int64} {M : Nat → Nat → Option Nat}
theorem Inv.n (h : Inv I L M) : ∃ n, n ≤ 6 ∧ I 265 2 = nI n ∧ I 3 3 = nI n ∧ cn (cur I 134) = n := by
  obtain ⟨n, h1, h2⟩ := h.1.1 134 (by omega) (by unfold live; omega)
  have e1 : cur I 134 = I 265 2 := rfl
  have e2 : cv I 3 134 = I 3 3 := rfl
  have h3 := h.2.1.1 134 (by omega) trivial (by unfold live; omega)
  have h1' : n ≤ 6 := h1
  exact ⟨n, h1', by rw [← e1]; exact h2, by rw [← e2, h3]; exact h2, by rw [h2]; exact nI_clamp (by omega)⟩
/-- a view's place, as the model and as the Inn have it -/
theorem Inv.at (h : Inv I L M) {k a j a' j' : Nat} (hk : k < 139) (hl : live (cur I) k) (e : loc k = (a, j)) (e' : cloc 3 k = (a', j')) : I a' j' = I a j := by
  have h3 := h.2.1.1 k hk trivial hl
  rw [cv_at e' hk, cur_at e (by omega)] at h3
  exact h3
theorem Inv.val (h : Inv I L M) {k a j : Nat} (hk : k < 139) (hl : live (cur I) k) (e : loc k = (a, j)) : ∃ q, q ≤ ub 9999 k ∧ I a j = nI q := by
  obtain ⟨q, h1, h2⟩ := h.1.1 k hk hl
  rw [cur_at e (by omega)] at h2
  exact ⟨q, h1, h2⟩
theorem one_iff {n : Nat} (hn : n ≤ 6) (x : Int32) : (0 ≤ x ∧ x ≤ nI n - 1) ↔ (0 ≤ x ∧ x < nI n) := by
  refine and_congr_right fun _ => ?_
  rcases Nat.eq_zero_or_pos n with rfl | h
  · rw [Int32.le_iff_toInt_le, Int32.lt_iff_toInt_lt, show (nI 0 - 1).toInt = -1 by decide +kernel, show (nI 0).toInt = 0 by decide +kernel]
    omega
  · rw [nI_sub1 h, Int32.le_iff_toInt_le, Int32.lt_iff_toInt_lt, nI_toInt (by omega), nI_toInt (by omega)]
    omega
theorem lt_le1 {a b : Int32} (h : b.toInt = a.toInt + 1) (x : Int32) : x < b ↔ x ≤ a := by
  rw [Int32.lt_iff_toInt_lt, Int32.le_iff_toInt_le]
  omega
/-- a guest's number in range, on either side -/
theorem Inv.g (h : Inv I L M) {x : Int32} (hx : 0 ≤ x ∧ x < I 3 3) : ∃ g, g < 6 ∧ g < cn (cur I 134) ∧ x = nI g ∧ (0 ≤ x ∧ x ≤ I 265 2 - 1) := by
  obtain ⟨n, h1, h2, h3, h4⟩ := h.n
  rw [h3] at hx
  obtain ⟨g, hg, e⟩ := rg n (by omega) hx.1 hx.2
  exact ⟨g, by omega, by omega, e, by rw [h2]; exact (one_iff h1 x).mpr hx⟩
theorem Inv.ng (h : Inv I L M) {x : Int32} (hx : ¬ (0 ≤ x ∧ x < I 3 3)) : ¬ (0 ≤ x ∧ x ≤ I 265 2 - 1) := by
  obtain ⟨n, h1, h2, h3, h4⟩ := h.n
  rw [h2]
  rw [h3] at hx
  exact fun q => hx ((one_iff h1 x).mp q)
theorem pr_weight (d : Nat) (h : Inv I L M) (x1 x2 : Int32) : PrI C Y_X10_weight Y_X11_weight (d + 12) [.int x1, .int x2] I L M := by
  refine t_X10_weight (d + 9) x1 x2 _ ⟨fun q => ⟨fun q2 => ?_, fun q2 => ?_⟩, fun q => ?_⟩
  · obtain ⟨x, hx, rfl⟩ := rg 12 (by omega) q.1 q.2
    obtain ⟨v, hv, rfl⟩ := rgle 9 (by omega) q2.1 q2.2
    have hin := vp_in_nI hx (by omega : 12 < 2 ^ 31)
    refine ⟨hin, hin, t_X11_weight (d + 9) _ _ _ (br_t q (br_t q2 ⟨hin, hin, ?_, ?_⟩))⟩
    · rw [nI_clamp (by omega), u2_ne _ _ (Or.inl (by omega))]
      exact (h.at (by omega) (by unfold live; omega) (l_w x hx) (c_w 3 hx)).symm
    · have hu := Inv_upd h (k := x) (v := nI v) (by omega) ⟨v, by unfold ub; rw [if_pos hx]; exact hv, rfl⟩
      rw [l_w x hx, c_w 3 hx] at hu
      rw [nI_clamp (by omega)]
      exact hu
  · exact t_X11_weight (d + 9) _ _ _ (br_t q (br_f q2 ⟨rfl, h⟩))
  · exact t_X11_weight (d + 9) _ _ _ (br_f q ⟨rfl, h⟩)
theorem live_g {w : Nat → Int32} {g : Nat} (hg : g < cn (w 134)) (h6 : g < 6) : live w (24 + g) ∧ live w (30 + g) ∧ live w (36 + g) ∧ live w (42 + g) ∧ live w (48 + g) ∧ ∀ k, k < 4 → live w (54 + (4 * g + k)) := by
  unfold live
  refine ⟨?_, ?_, ?_, ?_, ?_, fun k hk => ?_⟩
  · right; left; omega
  · right; left; omega
  · right; left; omega
  · right; left; omega
  · right; left; omega
  · right; right; left; omega
theorem pr_set (d : Nat) (h : Inv I L M) (x1 x2 x3 : Int32) : PrI C Y_X10_set Y_X11_set (d + 12) [.int x1, .int x2, .int x3] I L M := by
  have e2 : (0 ≤ x2 ∧ x2 < 2) ↔ (0 ≤ x2 ∧ x2 ≤ 1) := and_congr_right fun _ => lt_le1 (by decide) x2
  refine t_X10_set (d + 9) x1 x2 x3 _ ⟨fun q => ?_, fun q => ⟨fun q2 => ⟨fun q3 => ?_, fun q3 => ?_⟩, fun q2 => ?_⟩⟩
  · exact t_X11_set (d + 9) _ _ _ _ (br_f' (h.ng q) ⟨rfl, h⟩)
  · obtain ⟨g, hg, hgn, rfl, hq⟩ := h.g q
    obtain ⟨v, hv, rfl⟩ := rgle 4095 (by omega) q3.1 q3.2
    have hin := vp_in_nI hg (by omega : 6 < 2 ^ 31)
    have hcl := nI_clamp (n := g) (by omega)
    have hlv := live_g hgn hg
    refine ⟨hin, fun z => ?_, fun z => ?_⟩
    · refine t_X10_set_59 (d + 9) ((gI i0) _ (by rw [hcl]; exact hg)) _ _ _ _ (br_f' z ?_)
      refine t_X11_set (d + 9) _ _ _ _ (br_t' (by rw [u2_ne _ _ (Or.inl (by omega))]; exact hq) (br_t (e2.mp q2) (br_t q3 (br_f' z ⟨hin, ?_⟩))))
      refine t_X11_set_52 (d + 9) _ _ _ _ _ (br_f' z ⟨hin, ?_, ?_⟩)
      · rw [hcl, u2_ne _ _ (Or.inl (by omega))]
        exact (h.at (by omega) hlv.2.2.2.1 (l_l g hg) (c_l 3 hg)).symm
      · have hu := Inv_upd h (k := 42 + g) (v := nI v) (by omega) ⟨v, by rw [u_l _ g hg]; exact hv, rfl⟩
        rw [l_l g hg, c_l 3 hg] at hu
        rw [hcl]
        exact hu
    · refine t_X10_set_59 (d + 9) ((gI i0) _ (by rw [hcl]; exact hg)) _ _ _ _ (br_t' z ?_)
      refine t_X11_set (d + 9) _ _ _ _ (br_t' (by rw [u2_ne _ _ (Or.inl (by omega))]; exact hq) (br_t (e2.mp q2) (br_t q3 (br_t' z ⟨hin, ?_⟩))))
      refine t_X11_set_52 (d + 9) _ _ _ _ _ (br_t' z ⟨hin, ?_, ?_⟩)
      · rw [hcl, u2_ne _ _ (Or.inl (by omega))]
        exact (h.at (by omega) hlv.2.2.1 (l_m g hg) (c_m 3 hg)).symm
      · have hu := Inv_upd h (k := 36 + g) (v := nI v) (by omega) ⟨v, by rw [u_m _ g hg]; exact hv, rfl⟩
        rw [l_m g hg, c_m 3 hg] at hu
        rw [hcl]
        exact hu
  · obtain ⟨g, hg, hgn, rfl, hq⟩ := h.g q
    exact t_X11_set (d + 9) _ _ _ _ (br_t' hq (br_t (e2.mp q2) (br_f q3 ⟨rfl, h⟩)))
  · obtain ⟨g, hg, hgn, rfl, hq⟩ := h.g q
    exact t_X11_set (d + 9) _ _ _ _ (br_t' hq (br_f (fun z => q2 (e2.mpr z)) ⟨rfl, h⟩))
theorem pr_stay (d : Nat) (h : Inv I L M) (x1 x2 : Int32) (hx2 : x2 = 0 ∨ x2 = 1) : PrI C Y_X10_stay Y_X11_stay (d + 12) [.int x1, .int x2] I L M := by
  refine t_X10_stay (d + 9) x1 x2 _ ⟨fun q => ?_, fun q => ?_⟩
  · obtain ⟨g, hg, hgn, rfl, hq⟩ := h.g q
    have hin := vp_in_nI hg (by omega : 6 < 2 ^ 31)
    have hcl := nI_clamp (n := g) (by omega)
    have hlv := live_g hgn hg
    have hat := h.at (by omega) hlv.2.2.2.2.1 (l_i g hg) (c_i 3 hg)
    obtain ⟨v, hv, ev⟩ := h.val (by omega) hlv.2.2.2.2.1 (l_i g hg)
    rw [u_i _ g hg] at hv
    have hu := fun (v : Nat) (hv : v ≤ 1) => Inv_upd h (k := 48 + g) (v := nI v) (by omega) ⟨v, by rw [u_i _ g hg]; exact hv, rfl⟩
    simp only [l_i g hg, c_i 3 hg] at hu
    have hq' : 0 ≤ nI g ∧ nI g ≤ u2 I (3 + 33 + 2 * g) 5 x2 265 2 - 1 := by rw [u2_ne _ _ (Or.inl (by omega))]; exact hq
    refine ⟨hin, hin, hx2, ?_⟩
    rw [hcl]
    have fin : zCI C Y_X11_stay (d + 12) [.ref 265, .int (nI g), .int x2] (zmk (u2 I (3 + 33 + 2 * g) 5 x2) L M) (fun r2 I2 L2 M2 => r2 = I 272 g ∧ Inv I2 L2 M2) := by
      refine t_X11_stay (d + 9) _ _ _ (br_t hq' ⟨hin, ?_, ?_⟩)
      · intro z
        rw [hcl]
        refine ⟨hin, by rw [u2_ne _ _ (Or.inl (by omega))], ?_⟩
        rw [z]
        exact hu 0 (by omega)
      · intro z
        rw [hcl]
        refine ⟨hin, by rw [u2_ne _ _ (Or.inl (by omega))], ?_⟩
        rw [hx2.resolve_left z]
        exact hu 1 (by omega)
    refine ⟨fun z => ?_, fun z => ?_⟩
    · rw [hat] at z
      rw [z] at fin
      exact fin
    · rw [hat] at z
      have : I 272 g = 1 := by
        rw [ev] at z ⊢
        rcases (by omega : v = 0 ∨ v = 1) with rfl | rfl
        · exact absurd rfl z
        · rfl
      rw [this] at fin
      exact fin
  · exact t_X11_stay (d + 9) _ _ _ (br_f (h.ng q) ⟨rfl, h⟩)
theorem nI_4 {g k : Nat} : (4 : Int32) * nI g + nI k = nI (4 * g + k) := by rw [show (4 : Int32) = nI 4 from rfl, pk_mul, nI_add]
theorem pr_row (d : Nat) (h : Inv I L M) (x1 x2 x3 : Int32) : PrI C Y_X10_row Y_X11_row (d + 12) [.int x1, .int x2, .int x3] I L M := by
  have e2 : (0 ≤ x2 ∧ x2 < 4) ↔ (0 ≤ x2 ∧ x2 ≤ 3) := and_congr_right fun _ => lt_le1 (by decide) x2
  refine t_X10_row (d + 9) x1 x2 x3 _ ⟨fun q => ?_, fun q => ⟨fun q2 => ⟨fun q3 => ?_, fun q3 => ?_⟩, fun q2 => ?_⟩⟩
  · exact t_X11_row (d + 9) _ _ _ _ (br_f' (h.ng q) ⟨rfl, h⟩)
  · obtain ⟨g, hg, hgn, rfl, hq⟩ := h.g q
    obtain ⟨k, hk, rfl⟩ := rg 4 (by omega) q2.1 q2.2
    obtain ⟨v, hv, rfl⟩ := rgle 9 (by omega) q3.1 q3.2
    have hin := vp_in_nI hg (by omega : 6 < 2 ^ 31)
    have hin2 := vp_in_nI hk (by omega : 4 < 2 ^ 31)
    have hin3 := vp_in_nI (n := 4 * g + k) (N := 24) (by omega) (by omega)
    have hcl := nI_clamp (n := g) (by omega)
    have hcl2 := nI_clamp (n := k) (by omega)
    have hlv := live_g hgn hg
    have hk6 := h.at (by omega) hlv.1 (l_k g hg) (c_k 3 hg)
    have hat := h.at (by omega) (hlv.2.2.2.2.2 k hk) (l_r (4 * g + k) (by omega)) (c_r 3 hg hk)
    refine ⟨hin, fun z => ⟨hin2, hin2, ?_⟩, fun z => ?_⟩
    · rw [hcl] at z ⊢
      rw [hcl2]
      rw [hk6] at z
      refine t_X11_row (d + 9) _ _ _ _ (br_t' (by rw [u2_ne _ _ (Or.inl (by omega))]; exact hq) (br_t (e2.mp q2) (br_t q3 ⟨hin, br_t (by rw [u2_ne _ _ (Or.inl (by omega)), hcl]; exact z) ?_⟩)))
      rw [nI_4, nI_clamp (by omega)]
      refine ⟨hin3, hin3, ?_, ?_⟩
      · rw [u2_ne _ _ (Or.inl (by omega))]
        exact hat.symm
      · have hu := Inv_upd h (k := 54 + (4 * g + k)) (v := nI v) (by omega) ⟨v, by rw [u_r _ _ (by omega)]; exact hv, rfl⟩
        rw [l_r _ (by omega), c_r 3 hg hk] at hu
        exact hu
    · rw [hcl, hk6] at z
      exact t_X11_row (d + 9) _ _ _ _ (br_t' hq (br_t (e2.mp q2) (br_t q3 ⟨hin, br_f (by rw [hcl]; exact z) ⟨rfl, h⟩⟩)))
  · obtain ⟨g, hg, hgn, rfl, hq⟩ := h.g q
    exact t_X11_row (d + 9) _ _ _ _ (br_t' hq (br_t (e2.mp q2) (br_f q3 ⟨rfl, h⟩)))
  · obtain ⟨g, hg, hgn, rfl, hq⟩ := h.g q
    exact t_X11_row (d + 9) _ _ _ _ (br_t' hq (br_f (fun z => q2 (e2.mpr z)) ⟨rfl, h⟩))
theorem Inv.rest (h : Inv I L M) : Rest (rI I) L (M 48 5) := h.2.2
theorem pr_count (d : Nat) (h : Inv I L M) (x1 : Int32) : PrI C Y_X10_count Y_X11_count (d + 12) [.int x1] I L M := by
  obtain ⟨n, h1, h2, h3, h4⟩ := h.n
  have a2 : I 7 1 = I 265 26 := h.at (k := 136) (by omega) (by unfold live; omega) rfl rfl
  have a3 : I 14 1 = I 265 31 := h.at (k := 137) (by omega) (by unfold live; omega) rfl rfl
  have a4 : I 26 1 = I 265 34 := h.at (k := 138) (by omega) (by unfold live; omega) rfl rfl
  obtain ⟨-, -, ⟨hc, cd, -, -, b1, b2, -⟩, ⟨tn, -, t1, t2, -⟩, ⟨rn, -, r1, r2, -⟩, -⟩ := h.rest
  rw [rI_at (by unfold Ra; omega)] at b1 b2 t1 t2 r1 r2
  refine t_X10_count (d + 11) x1 _ ⟨fun q => ?_, fun q => ?_, fun q => ?_, fun q => ?_, fun q => ?_, fun q => ?_, fun q => ?_, fun q => ?_⟩
  all_goals refine t_X11_count (d + 11) x1 _ ⟨fun z => ?_, fun z => ?_, fun z => ?_, fun z => ?_, fun z => ?_, fun z => ?_, fun z => ?_, fun z => ?_⟩
  all_goals first
    | exact ⟨by rw [h2, h3], h⟩
    | exact ⟨by rw [b1, b2], h⟩
    | exact ⟨a2.symm, h⟩
    | exact ⟨a3.symm, h⟩
    | exact ⟨a4.symm, h⟩
    | exact ⟨by rw [t1, t2], h⟩
    | exact ⟨by rw [r1, r2], h⟩
    | exact ⟨rfl, h⟩
    | (exfalso; rw [q] at z; revert z; decide)
    | (exfalso; rw [z] at q; revert q; decide)
end SM
