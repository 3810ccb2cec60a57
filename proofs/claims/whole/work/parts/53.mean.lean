/-! FRACTIONS; MEAN -/
abbrev KLt : Type := Int64 → (Nat → Nat → Int32) → (Nat → Nat → Int64) → (Nat → Nat → Option Nat) → Prop
/-- a fraction in lowest terms: above (part 0) or below the line -/
def frV (a b : Nat) (p : Int32) : Int64 := if p = 0 then lN (a / Nat.gcd a b) else lN (b / Nat.gcd a b)
theorem gcd_step (a b : Nat) : Nat.gcd b (a % b) = Nat.gcd a b := by
  rw [Nat.gcd_comm b, Nat.gcd_comm a b, Nat.gcd_rec b a]
theorem lcmp0 (x : Int64) : lg_cmp x 0 = 0 ↔ x = 0 := by
  first
    | exact lg_cmp_eq
    | (rw [lg_cmp_eq])
section SM
variable {C : zC} {I I' : Nat → Nat → Int32} {L L' : Nat → Nat → Int64} {M : Nat → Nat → Option Nat}
theorem sp_lowest (d : Nat) {A B : Nat} (hA : A < 2 ^ 31) (hB : B < 2 ^ 31) (h0 : 0 < B) (p : Int32) (K : KLt) (hK : K (frV A B p) I L M) : zCL C Y_X10_lowest (d + 1) [.int (nI A), .int (nI B), .int p] (zmk I L M) K := by
  refine t_X10_lowest d _ _ _ _ ?_
  have hg : 0 < Nat.gcd A B := Nat.gcd_pos_of_pos_right A h0
  have hgA : Nat.gcd A B ≤ B := Nat.le_of_dvd h0 (Nat.gcd_dvd_right A B)
  have s38 : zSL C (zmk I L M) K Y_X10_lowest (d + 1) 38 [(0, .int (nI A)), (1, .int (nI B)), (2, .int p), (3, .int (nI (Nat.gcd A B)))] [] I L M := by
    have hne : ¬ nI (Nat.gcd A B) = 0 := fun z => by have := nI_inj (b := 0) (by omega) (by omega) z; omega
    refine t_X10_lowest_38 d _ _ _ _ _ (br_f' hne ?_)
    unfold frV at hK
    have d1 := Nat.div_le_self A (Nat.gcd A B)
    have d2 := Nat.div_le_self B (Nat.gcd A B)
    rw [pk_div hB hg (by omega), pk_div hA hg (by omega), nI_l (by omega), nI_l (by omega)]
    refine ⟨fun z => ⟨hne, ?_⟩, fun z => ⟨hne, ?_⟩⟩
    · rw [if_neg z] at hK; exact hK
    · rw [if_pos z] at hK; exact hK
  have key : ∀ (b a i : Nat), i + b ≤ B → a < 2 ^ 31 → Nat.gcd a b = Nat.gcd A B → zSL C (zmk I L M) K Y_X10_lowest (d + 1) 8 [(0, .int (nI A)), (1, .int (nI B)), (2, .int p), (3, .int (nI a)), (4, .int (nI b)), (5, .int (nI i))] [] I L M := by
    intro b
    induction b using Nat.strongRecOn with
    | _ b ih =>
      intro a i hi ha e
      refine t_X10_lowest_8 d _ _ _ _ _ _ _ (br_f (fun z => by have := (nI_lt_iff (a := B) (b := i) (by omega) (by omega)).mp z; omega) ⟨fun z => ?_, fun z => ⟨z, ?_⟩⟩)
      · have : b = 0 := nI_inj (b := 0) (by omega) (by omega) z
        subst this
        rw [Nat.gcd_zero_right] at e
        rw [e]
        exact s38
      · have hb : 0 < b := Nat.pos_of_ne_zero fun q => z (by rw [q]; rfl)
        rw [pk_rem ha hb (by omega), nI_1]
        have := Nat.mod_lt a hb
        exact ih (a % b) this b (i + 1) (by omega) (by omega) (by rw [gcd_step]; exact e)
  exact key B A 0 (by omega) hA rfl
theorem sp_part (d : Nat) {A B : Nat} (hA : A < 2 ^ 31) (hB : B < 2 ^ 31) (h0 : 0 < B) (p : Int32) (K : KLt) (hK : K (frV A B p) I L M) : zCL C Y_X11_part (d + 1) [.long (lN A), .long (lN B), .int p] (zmk I L M) K := by
  refine t_X11_part d _ _ _ _ ?_
  have hg : 0 < Nat.gcd A B := Nat.gcd_pos_of_pos_right A h0
  have hgA : Nat.gcd A B ≤ B := Nat.le_of_dvd h0 (Nat.gcd_dvd_right A B)
  have key : ∀ (b a : Nat), b < 2 ^ 31 → a < 2 ^ 31 → Nat.gcd a b = Nat.gcd A B → zSL C (zmk I L M) K Y_X11_part (d + 1) 6 [(0, .long (lN A)), (2, .long (lN B)), (4, .int p), (5, .long (lN a)), (7, .long (lN b))] [] I L M := by
    intro b
    induction b using Nat.strongRecOn with
    | _ b ih =>
      intro a hb2 ha e
      refine t_X11_part_6 d _ _ _ _ _ _ ?_
      rw [lcmp0]
      refine ⟨fun z => ?_, fun z => ⟨z, ?_⟩⟩
      · have : b = 0 := (lN_eq (b := 0) hb2 (by omega)).mp z
        subst this
        rw [Nat.gcd_zero_right] at e
        subst e
        have hne : ¬ lN (Nat.gcd A B) = 0 := fun z => by have := (lN_eq (b := 0) ha (by omega)).mp z; omega
        unfold frV at hK
        rw [pk_lDiv (by omega) hg (by omega), pk_lDiv (by omega) hg (by omega)]
        refine ⟨fun z => ⟨hne, ?_⟩, fun z => ⟨hne, ?_⟩⟩
        · rw [if_neg z] at hK; exact hK
        · rw [if_pos z] at hK; exact hK
      · have hb : 0 < b := Nat.pos_of_ne_zero fun q => z (by rw [q]; rfl)
        rw [pk_lRem (by omega) hb (by omega)]
        have := Nat.mod_lt a hb
        exact ih (a % b) this b (by omega) (by omega) (by rw [gcd_step]; exact e)
  exact key B A hB hA rfl
/-- how many bits -/
theorem zbc_le2 : ∀ a, a < 64 → ∀ b, b < 64 → ∃ n, n ≤ 12 ∧ zbc (nI (64 * a + b)) = nI n := by decide +kernel
theorem zbc_le (j : Nat) (h : j < 4096) : ∃ n, n ≤ 12 ∧ zbc (nI j) = nI n := by
  have := zbc_le2 (j / 64) (by omega) (j % 64) (by omega)
  rw [Nat.div_add_mod] at this
  exact this
theorem mba_le {B inns : Nat} {w : Nat → Int32} (h : Wok B inns w) : ∀ k, k ≤ cn (w 134) → ∃ n, n ≤ 12 * k ∧ mbaV w k = nI n := by
  intro k
  induction k with
  | zero => intro _; exact ⟨0, by omega, rfl⟩
  | succ k ih =>
    intro hk
    obtain ⟨n, n1, n2⟩ := ih (by omega)
    obtain ⟨g, g1, g2, g3⟩ := h.n
    obtain ⟨-, -, l3, -⟩ := live_g (w := w) (g := k) (by omega) (by omega)
    obtain ⟨m, m1, m2⟩ := h.1 _ (by omega) l3
    rw [u_m _ k (by omega)] at m1
    obtain ⟨q, q1, q2⟩ := zbc_le m (by omega)
    refine ⟨n + q, by omega, ?_⟩
    show mbaV w k + zbc (w (36 + k)) = _
    rw [n2, m2, q2, nI_add]
theorem pr_mean (d : Nat) (h : Inv I L M) (x1 x2 : Int32) : PrL C Y_X10_mean Y_X11_mean (d + 12) [.int x1, .int x2] I L M := by
  obtain ⟨cs, hH⟩ := h.hs
  obtain ⟨n, n1, n2, n3, n4⟩ := h.n
  have e2 : (0 ≤ x2 ∧ x2 < 2) ↔ (0 ≤ x2 ∧ x2 ≤ 1) := and_congr_right fun _ => lt_le1 (by decide) x2
  refine t_X10_mean (d + 5) x1 x2 _ ⟨fun q => ?_, fun q => ⟨fun q2 => ?_, fun q2 => ⟨fun q3 => ?_, fun q3 => ?_⟩⟩⟩
  · exact t_X11_mean (d + 4) _ _ _ (br_f' q ⟨rfl, h⟩)
  · exact t_X11_mean (d + 4) _ _ _ (br_t' q (br_f' (fun z => q2 (e2.mpr z)) ⟨rfl, h⟩))
  · obtain ⟨k, hk, rfl⟩ := rgle 60 (by omega) q.1 q.2
    have hn0 : 0 < n := Nat.pos_of_ne_zero fun z => q3 (by rw [n3, z]; rfl)
    refine sp_behind (d + 5) h hH hk _ fun J M' h1 h2 e3 e48 => ⟨i2, ?_⟩
    have f : ∀ a j, 265 ≤ a → J a j = I a j := fun a j ha => h1 a j (by omega) (by unfold CF; omega)
    have ecu : cur J = cur I := cur_low fun a ha => funext fun j => f a j ha
    have eri := h1.ri (Or.inr rfl)
    have ecv : cv J 3 = cv I 3 := cv_far fun a ha hb => funext fun j => h1 a j (by omega) (by unfold CF; omega)
    have hWk := Wok_nights cs h.1 k
    have w134 : cn (nightsV cs k (cur I) 134) = n := by rw [nightsV_off cs h.1 k (by omega)]; exact n4
    have wm : ∀ g, g < n → J (93 + 33 + 2 * g) 3 = nightsV cs k (cur I) (36 + g) := fun g hg => by
      obtain ⟨-, -, l3, -⟩ := live_g (w := nightsV cs k (cur I)) (g := g) (by omega) (by omega)
      rw [← cv_at (I := J) (c_m 93 (x := g) (by omega)) (by omega)]
      exact h2.1 _ (by omega) (Or.inl (by omega)) l3
    obtain ⟨A, hA, eA⟩ := mba_le hWk n (by omega)
    refine sp_mbaC (d + 9) i2 n1 ?_ wm _ ?_
    · have := h2.1 134 (by omega) (by omega) (by unfold live; omega)
      rw [nightsV_off cs h.1 k (by omega)] at this
      exact this.trans n2
    rw [eA, h1 3 3 (by omega) (by unfold CF; omega), n3]
    refine sp_lowest (d + 10) (by omega) (by omega) hn0 x2 _ ?_
    refine t_X11_mean (d + 4) _ _ _ (br_t' q (br_t' (e2.mp q2) (br_f' (by rw [f 265 2 (by omega), n2]; exact fun z => by have := nI_inj (b := 0) (by omega) (by omega) z; omega) ?_)))
    refine t_X11_on (d + 4) _ _ _ ⟨fun _ => ?_, fun z => absurd rfl z⟩
    refine sp_onM (d + 4) (cs := cs) (n := n) (by rw [f 265 17 (by omega)]; exact Hs_fr eri hH) (by rw [ecu]; exact h.1) n1 ((f _ _ (by omega)).trans n2) hk (Or.inl rfl) _ fun J2 a b c => ?_
    rw [ecu, show onV (nightsV cs k (cur I)) n 0 = nI A by unfold onV; rw [if_pos rfl, eA], nI_l (by omega), show J2 265 2 = nI n by
      have : cur J2 134 = cur I 134 := by rw [b, ecu]
      exact this.trans n2, nI_l (by omega)]
    refine sp_part (d + 10) (by omega) (by omega) hn0 x2 _ ⟨rfl, Inv_same h (a.trans eri) (b.trans ecu) ?_ e3 e48⟩
    rw [← ecv]
    exact cv_far fun a ha hb => funext fun j => c a j (by omega)
  · refine t_X11_mean (d + 4) _ _ _ (br_t' q (br_t' (e2.mp q2) (br_t' ?_ ⟨rfl, h⟩)))
    rw [n2, ← n3]
    exact q3
end SM
