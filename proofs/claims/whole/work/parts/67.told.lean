/-! TOLD -/
def inV (w : Nat → Int32) : Nat → Int32
  | 0 => 0
  | k + 1 => if w (48 + k) = 0 then inV w k else inV w k ||| ((1 : Int32) <<< (nI k &&& 31))
theorem sh0 : ∀ k, k < 6 → (0 : Int32) <<< (nI k &&& 31) = 0 := by decide +kernel
section SM
variable {C : zC} {I I' : Nat → Nat → Int32} {L L' : Nat → Nat → Int64} {M : Nat → Nat → Option Nat}
theorem sp_inC (d : Nat) {n : Nat} {w : Nat → Int32} (hn : n ≤ 6) (e3 : I 3 3 = nI n) (ew : ∀ g, g < n → I (3 + 33 + 2 * g) 5 = w (48 + g)) (K : KI) (hK : K (inV w n) I L M) : zCI C Y_X2_whoIsIn (d + 1) [.ref 3] (zmk I L M) K := by
  refine t_X2_whoIsIn d i0 _ ?_
  refine count_up (P := fun y => zSI C (zmk I L M) K Y_X2_whoIsIn (d + 1) 4 [(0, .ref 3), (1, .int (inV w y)), (2, .int (nI y))] [] I L M) n ?_ ?_ 0 (Nat.zero_le _)
  · exact t_X2_whoIsIn_4 d i0 _ _ _ (br_t (by rw [e3]; exact Int32.le_refl _) hK)
  · intro y hy ih
    refine t_X2_whoIsIn_4 d i0 _ _ _ (br_f (by rw [e3]; exact fun z => by have := (nI_le_iff (a := n) (b := y) (by omega) (by omega)).mp z; omega) ⟨vp_in_nI (by omega) (by omega), ?_⟩)
    rw [nI_clamp (by omega), ew y hy, nI_1, or_0]
    unfold inV at ih
    refine ⟨fun z => ?_, fun z => ?_⟩
    · rw [if_pos z] at ih; exact ih
    · rw [if_neg z] at ih; exact ih
theorem sp_inM (d : Nat) {n : Nat} (hn : n ≤ 6) (e2 : I 265 2 = nI n) (hi : ∀ g, g < n → ∃ v, v ≤ 1 ∧ cur I (48 + g) = nI v) (K : KI) (hK : K (inV (cur I) n) I L M) : zCI C Y_X11_allIn (d + 1) [.ref 265] (zmk I L M) K := by
  refine t_X11_allIn d _ ?_
  refine count_up (P := fun y => zSI C (zmk I L M) K Y_X11_allIn (d + 1) 4 [(0, .ref 265), (1, .int (inV (cur I) y)), (2, .int (nI y))] [] I L M) n ?_ ?_ 0 (Nat.zero_le _)
  · exact t_X11_allIn_4 d _ _ _ (br_t (by rw [e2]; exact Int32.le_refl _) hK)
  · intro y hy ih
    obtain ⟨v, hv, ev'⟩ := hi y hy
    refine t_X11_allIn_4 d _ _ _ (br_f (by rw [e2]; exact fun z => by have := (nI_le_iff (a := n) (b := y) (by omega) (by omega)).mp z; omega) ⟨vp_in_nI (by omega) (by omega), ?_⟩)
    rw [nI_clamp (by omega), ← cur_at (I := I) (l_i y (by omega)) (by omega), ev', nI_1]
    unfold inV at ih
    rw [ev'] at ih
    rcases (by omega : v = 0 ∨ v = 1) with rfl | rfl
    · rw [if_pos (by decide)] at ih
      rw [show nI 0 <<< (nI y &&& 31) = 0 from sh0 y (by omega), or_0]
      exact ih
    · rw [if_neg (by decide)] at ih
      exact ih
theorem sp_ringM (d : Nat) {n : Nat} (hn : n ≤ 6) (en : I 265 2 = nI n) (K : KI) (hK : ∀ m, MB (eV (cur I)) n n m → m ≤ 6 → K (nI m) I L M) : zCI C Y_X11_ring (d + 8) [.ref 265] (zmk I L M) K := by
  refine t_X11_ring (d + 5) _ ?_
  refine count_st (P := fun y (m : Nat) => zSI C (zmk I L M) K Y_X11_ring (d + 8) 4 [(0, .ref 265), (1, .int (nI m)), (2, .int (nI y))] [] I L M) (J := fun y m => MB (eV (cur I)) n y m ∧ m ≤ 6) n ?_ ?_ 0 0 (Nat.zero_le _) ⟨rfl, by omega⟩
  · intro m h
    exact t_X11_ring_4 (d + 5) _ _ _ (br_t (by rw [en]; exact Int32.le_refl _) (hK m h.1 h.2))
  · intro y m hy h ih
    obtain ⟨c1, c2, c3⟩ := cd_one y (by omega)
    refine t_X11_ring_4 (d + 5) _ _ _ (br_f (by rw [en]; exact fun z => by have := (nI_le_iff (a := n) (b := y) (by omega) (by omega)).mp z; omega) ?_)
    rw [c3]
    have := sp_rf (C := C) (L := L) (M := M) d hn en hy 5 (1 <<< y) y (one_2n n hn y hy) hy (Nat.le_refl _) (by omega) (fun r1_2 I1_2 L1_2 M1_2 => zSI C (zmk I L M) K Y_X11_ring (d + 8) 4 [(0, .ref 265), (1, .int (if nI m < r1_2 then r1_2 else nI m)), (2, .int (nI y + 1))] [] I1_2 L1_2 M1_2) ?_
    · rw [c1] at this
      exact this
    · rw [c1]
      intro v hv hv6
      have hm := h.2
      rw [nI_max m v (by omega) (by omega), nI_1]
      refine ih _ ⟨⟨m, v, h.1, hv, rfl⟩, ?_⟩
      by_cases q : m < v
      · rw [if_pos q]; exact hv6
      · rw [if_neg q]; exact hm
theorem sp_takers (d : Nat) {n g : Nat} {w : Nat → Int32} (hn : n ≤ 6) (hg : g < n) (e3 : I 3 3 = nI n) (ew3 : ∀ g, g < n → I (3 + 33 + 2 * g) 3 = w (36 + g)) (ew4 : ∀ g, g < n → I (3 + 33 + 2 * g) 4 = w (42 + g)) (K : KI) (hK : ∀ r : Int32, (∀ q, q < 32 → (hb r q = true ↔ q < n ∧ eV w g q)) → K r I L M) : zCI C Y_X5_takersOf (d + 2) [.ref 3, .ref (3 + 33 + 2 * g)] (zmk I L M) K := by
  have hgu := gI i0 g (by omega)
  refine t_X5_takersOf d i0 hgu _ ?_
  refine count_st (P := fun y (r : Int32) => zSI C (zmk I L M) K Y_X5_takersOf (d + 2) 4 [(0, .ref 3), (1, .ref (3 + 33 + 2 * g)), (2, .int r), (3, .int (nI y))] [] I L M) (J := fun y r => ∀ q, q < 32 → (hb r q = true ↔ q < y ∧ eV w g q)) n ?_ ?_ 0 0 (Nat.zero_le _) (fun q hq => by rw [hb_0]; exact ⟨fun z => absurd z (by decide), fun z => absurd z.1 (by omega)⟩)
  · intro r h
    exact t_X5_takersOf_4 d i0 hgu _ _ _ (br_t (by rw [e3]; exact Int32.le_refl _) (hK r h))
  · intro y r hy h ih
    refine t_X5_takersOf_4 d i0 hgu _ _ _ (br_f (by rw [e3]; exact fun z => by have := (nI_le_iff (a := n) (b := y) (by omega) (by omega)).mp z; omega) ⟨vp_in_nI (by omega) (by omega), ?_⟩)
    rw [nI_clamp (by omega), ew3 g hg, ew3 y hy, ew4 y hy, nI_1, or_0, eV_c]
    refine ⟨fun z => ih r fun q hq => ?_, fun z => ih _ fun q hq => ?_⟩
    · rw [h q hq]
      refine ⟨fun ⟨a, b⟩ => ⟨by omega, b⟩, fun ⟨a, b⟩ => ⟨?_, b⟩⟩
      by_cases x : q = y
      · subst x; exact absurd b z
      · omega
    · rw [hb_or, hb_one (by omega), Bool.or_eq_true, h q hq, decide_eq_true_iff]
      constructor
      · rintro (⟨a, b⟩ | a)
        · exact ⟨by omega, b⟩
        · rw [a]; exact ⟨by omega, Classical.not_not.mp z⟩
      · rintro ⟨a, b⟩
        by_cases x : q = y
        · exact Or.inr x
        · exact Or.inl ⟨by omega, b⟩
theorem sp_ringC (d : Nat) {n : Nat} {w : Nat → Int32} (hn : n ≤ 6) (e3 : I 3 3 = nI n) (ew3 : ∀ g, g < n → I (3 + 33 + 2 * g) 3 = w (36 + g)) (ew4 : ∀ g, g < n → I (3 + 33 + 2 * g) 4 = w (42 + g)) (K : KI) (hK : ∀ m J, (∀ a j, a ≠ 146 → a ≠ 147 → J a j = I a j) → MB (eV w) n n m → m ≤ 6 → K (nI m) J L M) : zCI C Y_X5_longest (d + 4) [.ref 145, .ref 3] (zmk I L M) K := by
  refine t_X5_longest d i0 _ ?_
  refine count_st (P := fun y J => zSI C (zmk I L M) K Y_X5_longest (d + 4) 2 [(0, .ref 145), (1, .ref 3), (2, .int (nI y))] [] J L M) (J := fun y J => (∀ a j, a ≠ 146 → a ≠ 147 → J a j = I a j) ∧ ∀ g, g < y → ∀ q, q < 32 → (hb (J 146 g) q = true ↔ q < n ∧ eV w g q)) n ?_ ?_ 0 I (Nat.zero_le _) ⟨fun _ _ _ _ => rfl, fun g hg => absurd hg (by omega)⟩
  · rintro J ⟨h1, h2⟩
    refine t_X5_longest_2 d i0 _ _ (br_t (by rw [h1 3 3 (by omega) (by omega), e3]; exact Int32.le_refl _) ?_)
    refine count_st (σ := (Nat → Nat → Int32) × Nat) (P := fun y u => zSI C (zmk I L M) K Y_X5_longest (d + 4) 36 [(0, .ref 145), (1, .ref 3), (2, .int (nI u.2)), (3, .int (nI y))] [] u.1 L M) (J := fun y u => (∀ a j, a ≠ 147 → u.1 a j = J a j) ∧ MB (eV w) n y u.2 ∧ u.2 ≤ 6) n ?_ ?_ 0 (J, 0) (Nat.zero_le _) ⟨fun _ _ _ => rfl, rfl, Nat.zero_le _⟩
    · rintro ⟨J1, m⟩ ⟨a1, a2, a3⟩
      replace a1 : ∀ a j, a ≠ 147 → J1 a j = J a j := a1
      refine t_X5_longest_36 d i0 _ _ _ (br_t ?_ (hK m J1 (fun a j q1 q2 => (a1 a j q2).trans (h1 a j q1 q2)) a2 a3))
      show J1 3 3 ≤ nI n
      rw [a1 3 3 (by omega), h1 3 3 (by omega) (by omega), e3]
      exact Int32.le_refl _
    · rintro y ⟨J1, m⟩ hy ⟨a1, a2, a3⟩ ih
      replace a1 : ∀ a j, a ≠ 147 → J1 a j = J a j := a1
      replace a3 : m ≤ 6 := a3
      have e33 : J1 3 3 = nI n := by rw [a1 3 3 (by omega), h1 3 3 (by omega) (by omega), e3]
      dsimp only
      refine t_X5_longest_36 d i0 _ _ _ (br_f (by rw [e33]; exact fun z => by have := (nI_le_iff (a := n) (b := y) (by omega) (by omega)).mp z; omega) ?_)
      rw [e33, nI_1]
      refine sp_lf d hn hy (eV_self w y) (fun g hg q hq => by rw [a1 146 g (by omega)]; exact h2 g hg q hq) _ fun v J2 b1 b2 b3 => ?_
      rw [nI_max m v (by omega) (by omega)]
      refine ih (J2, if m < v then v else m) ⟨fun a j q => (b1 a j q).trans (a1 a j q), ⟨m, v, a2, b2, rfl⟩, ?_⟩
      show (if m < v then v else m) ≤ 6
      by_cases q : m < v
      · rw [if_pos q]; exact b3
      · rw [if_neg q]; exact a3
  · rintro y J hy ⟨h1, h2⟩ ih
    have h6 := vp_in_nI (show y < 6 by omega) (by omega : 6 < 2 ^ 31)
    refine t_X5_longest_2 d i0 _ _ (br_f (by rw [h1 3 3 (by omega) (by omega), e3]; exact fun z => by have := (nI_le_iff (a := n) (b := y) (by omega) (by omega)).mp z; omega) ⟨h6, ?_⟩)
    rw [nI_clamp (by omega), nI_1]
    refine sp_takers (d + 1) hn hy (w := w) ((h1 3 3 (by omega) (by omega)).trans e3) (fun g hg => (h1 _ _ (by omega) (by omega)).trans (ew3 g hg)) (fun g hg => (h1 _ _ (by omega) (by omega)).trans (ew4 g hg)) _ fun r hr => ⟨h6, ih _ ⟨fun a j q1 q2 => ?_, fun g hg q hq => ?_⟩⟩
    · rw [u2_n1 _ _ q1]
      exact h1 a j q1 q2
    · by_cases x : g = y
      · subst x
        rw [u2_same]
        exact hr q hq
      · rw [u2_n2 _ _ x]
        exact h2 g (by omega) q hq
theorem pr_told (d : Nat) (h : Inv I L M) (x1 : Int32) : PrI C Y_X10_told Y_X11_told (d + 12) [.int x1] I L M := by
  obtain ⟨cs, hH⟩ := h.hs
  obtain ⟨n, n1, n2, n3, n4⟩ := h.n
  obtain ⟨t, t1, t2⟩ := h.1.t
  have e4 : I 3 4 = nI t := (h.at (k := 135) (by omega) (by unfold live; omega) rfl rfl).trans t2
  have e9 : I 265 9 = nI t := t2
  have gl : ∀ g, g < n → I (3 + 33 + 2 * g) 3 = cur I (36 + g) ∧ I (3 + 33 + 2 * g) 4 = cur I (42 + g) ∧ I (3 + 33 + 2 * g) 5 = cur I (48 + g) := fun g hg => by
    obtain ⟨l1, l2, l3, l4, l5, l6⟩ := live_g (w := cur I) (g := g) (by omega) (by omega)
    rw [cur_at (l_m g (by omega)) (by omega), cur_at (l_l g (by omega)) (by omega), cur_at (l_i g (by omega)) (by omega)]
    exact ⟨h.at (by omega) l3 (l_m g (by omega)) (c_m 3 (by omega)), h.at (by omega) l4 (l_l g (by omega)) (c_l 3 (by omega)), h.at (by omega) l5 (l_i g (by omega)) (c_i 3 (by omega))⟩
  have small : ∀ {J : Nat → Nat → Int32} {M' : Nat → Nat → Option Nat} {K : KI}, ¬ (0 ≤ x1 - 10 ∧ x1 - 10 < 12) → ¬ (0 ≤ x1 - 30 ∧ x1 - 30 < 12) → ((x1 = 0 → K (J 265 9) J L M') ∧ (x1 = 1 → zCI C Y_X11_keepOf (d + 11) [.ref 265] (zmk J L M') K) ∧ (x1 = 2 → zCI C Y_X11_allMean (d + 11) [.ref 265] (zmk J L M') K) ∧ (x1 = 3 → zCI C Y_X11_ring (d + 11) [.ref 265] (zmk J L M') K) ∧ (x1 = 4 → zCI C Y_X11_allIn (d + 11) [.ref 265] (zmk J L M') K) ∧ ((x1.toInt < 0 ∨ 4 < x1.toInt) → K (-1) J L M')) → zCI C Y_X11_told (d + 12) [.ref 265, .int x1] (zmk J L M') K := by
    intro J M' K h1 h2 hk
    exact t_X11_told (d + 8) _ _ (br_f' h1 (br_f' h2 hk))
  have ne : ∀ c : Nat, c < 5 → x1 = nI c → ¬ (0 ≤ x1 - 10 ∧ x1 - 10 < 12) ∧ ¬ (0 ≤ x1 - 30 ∧ x1 - 30 < 12) := fun c hc e => by
    rw [e]
    exact (by decide : ∀ c, c < 5 → ¬ (0 ≤ nI c - 10 ∧ nI c - 10 < 12) ∧ ¬ (0 ≤ nI c - 30 ∧ nI c - 30 < 12)) c hc
  have nn : ∀ {a b : Nat} {A : Prop}, a < 5 → b < 5 → a ≠ b → x1 = nI a → x1 = nI b → A := fun ha hb hab e1 e2 => absurd (nI_inj (by omega) (by omega) (e1.symm.trans e2)) hab
  have nb : ∀ {a : Nat} {A : Prop}, a < 5 → x1 = nI a → (x1.toInt < 0 ∨ 4 < x1.toInt) → A := fun ha e1 z => by
    rw [e1, nI_toInt (by omega)] at z
    omega
  refine t_X10_told (d + 7) x1 _ ⟨fun z => ?_, fun z => ?_, fun z => ?_, fun z => ?_, fun z => ?_, fun z => ?_⟩
  · exact small (ne 0 (by omega) z).1 (ne 0 (by omega) z).2 ⟨fun _ => ⟨by rw [e9, e4], h⟩, nn (a := 0) (b := 1) (by omega) (by omega) (by omega) z, nn (a := 0) (b := 2) (by omega) (by omega) (by omega) z, nn (a := 0) (b := 3) (by omega) (by omega) (by omega) z, nn (a := 0) (b := 4) (by omega) (by omega) (by omega) z, nb (a := 0) (by omega) z⟩
  · refine ⟨_, h.2.1.2, hH.sw.1, ?_⟩
    refine small (ne 1 (by omega) z).1 (ne 1 (by omega) z).2 ⟨nn (a := 1) (b := 0) (by omega) (by omega) (by omega) z, fun _ => ?_, nn (a := 1) (b := 2) (by omega) (by omega) (by omega) z, nn (a := 1) (b := 3) (by omega) (by omega) (by omega) z, nn (a := 1) (b := 4) (by omega) (by omega) (by omega) z, nb (a := 1) (by omega) z⟩
    exact sp_kp (d + 10) (cs := cs) hH _ ⟨hH.sw.2.2.2.1.symm, h⟩
  · refine sp_mbaC (d + 9) i0 n1 n3 (fun g hg => (gl g hg).1) _ ?_
    refine small (ne 2 (by omega) z).1 (ne 2 (by omega) z).2 ⟨nn (a := 2) (b := 0) (by omega) (by omega) (by omega) z, nn (a := 2) (b := 1) (by omega) (by omega) (by omega) z, fun _ => ?_, nn (a := 2) (b := 3) (by omega) (by omega) (by omega) z, nn (a := 2) (b := 4) (by omega) (by omega) (by omega) z, nb (a := 2) (by omega) z⟩
    exact sp_mbaM (d + 9) n1 n2 _ ⟨rfl, h⟩
  · refine sp_ringC (d + 7) n1 n3 (fun g hg => (gl g hg).1) (fun g hg => (gl g hg).2.1) _ fun m J a1 a2 a3 => ?_
    have eri : rI J = rI I := rI_eq fun a j z => a1 a j (by unfold Ra at z; omega) (by unfold Ra at z; omega)
    have ecu : cur J = cur I := cur_low fun a ha => funext fun j => a1 a j (by omega) (by omega)
    have ecv : cv J 3 = cv I 3 := cv_far fun a ha hb => funext fun j => a1 a j (by omega) (by omega)
    refine small (ne 3 (by omega) z).1 (ne 3 (by omega) z).2 ⟨nn (a := 3) (b := 0) (by omega) (by omega) (by omega) z, nn (a := 3) (b := 1) (by omega) (by omega) (by omega) z, nn (a := 3) (b := 2) (by omega) (by omega) (by omega) z, fun _ => ?_, nn (a := 3) (b := 4) (by omega) (by omega) (by omega) z, nb (a := 3) (by omega) z⟩
    refine sp_ringM (d + 3) n1 ((a1 265 2 (by omega) (by omega)).trans n2) _ fun m' b1 b2 => ?_
    rw [ecu] at b1
    rw [MB_u b1 a2]
    exact ⟨rfl, Inv_same h eri ecu ecv rfl rfl⟩
  · refine sp_inC (d + 10) n1 n3 (fun g hg => (gl g hg).2.2) _ ?_
    refine small (ne 4 (by omega) z).1 (ne 4 (by omega) z).2 ⟨nn (a := 4) (b := 0) (by omega) (by omega) (by omega) z, nn (a := 4) (b := 1) (by omega) (by omega) (by omega) z, nn (a := 4) (b := 2) (by omega) (by omega) (by omega) z, nn (a := 4) (b := 3) (by omega) (by omega) (by omega) z, fun _ => ?_, nb (a := 4) (by omega) z⟩
    exact sp_inM (d + 10) n1 n2 (fun g hg => by
      obtain ⟨-, -, q, -⟩ := h.1.gb (p := g) (by omega)
      exact q) _ ⟨rfl, h⟩
  · refine ⟨fun q => ⟨fun q2 => small q q2 ⟨fun y => nb (a := 0) (by omega) y z, fun y => nb (a := 1) (by omega) y z, fun y => nb (a := 2) (by omega) y z, fun y => nb (a := 3) (by omega) y z, fun y => nb (a := 4) (by omega) y z, fun _ => ⟨rfl, h⟩⟩, fun q2 => ?_⟩, fun q => ?_⟩
    · obtain ⟨x, hx, ex⟩ := rg 12 (by omega) q2.1 q2.2
      have hin := vp_in_nI hx (by omega : 12 < 2 ^ 31)
      rw [ex, nI_clamp (by omega)]
      refine ⟨hin, t_X11_told (d + 8) _ _ (br_f' q (br_t' q2 ?_))⟩
      rw [ex, nI_clamp (by omega)]
      exact ⟨hin, (h.at (by omega) (by unfold live; omega) (l_w x hx) (c_w 3 hx)).symm, h⟩
    · obtain ⟨x, hx, ex⟩ := rg 12 (by omega) q.1 q.2
      have hin := vp_in_nI hx (by omega : 12 < 2 ^ 31)
      rw [ex, nI_clamp (by omega)]
      refine ⟨hin, t_X11_told (d + 8) _ _ (br_t' q ?_)⟩
      rw [ex, nI_clamp (by omega)]
      exact ⟨hin, (h.at (by omega) (by unfold live; omega) (l_c x hx) (c_c 3 hx)).symm, h⟩
end SM
