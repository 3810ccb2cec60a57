/-! THE RING: the class's, by sets -/
theorem Ext_ge {e : Nat → Nat → Prop} {n first : Nat} : ∀ {j s0 g0 s g : Nat}, Ext e n first j s0 g0 s g → s0 ≤ s := by
  intro j
  induction j with
  | zero => rintro s0 g0 s g ⟨rfl, rfl⟩; exact Nat.le_refl _
  | succ j ih =>
    rintro s0 g0 s g ⟨q, _, h⟩
    exact Nat.le_trans Nat.left_le_or (ih h)
/-- who can be the last of a way through all of a set, by the ways that go on from the pairs D -/
def LI (e : Nat → Nat → Prop) (n first : Nat) (D : Nat → Nat → Prop) (J : Nat → Nat → Int32) : Prop := ∀ s', s' < 64 → ∀ g', g' < 6 → (hb (J 147 s') g' = true ↔ (s' = 1 <<< first ∧ g' = first) ∨ ∃ s1 g1, D s1 g1 ∧ (∃ j, Ext e n first j (1 <<< first) first s1 g1) ∧ StW e n first s1 g1 g' ∧ s' = pb s1 g')
def BI (e : Nat → Nat → Prop) (n first : Nat) (D : Nat → Nat → Prop) (m : Nat) : Prop := m ≤ 6 ∧ (m = 0 ∨ ∃ j s' g', Ext e n first j (1 <<< first) first s' g' ∧ e g' first ∧ m = 1 + j) ∧ ∀ j s' g', D s' g' → Ext e n first j (1 <<< first) first s' g' → e g' first → 1 + j ≤ m
theorem LI_congr {e : Nat → Nat → Prop} {n first : Nat} {D D' : Nat → Nat → Prop} {J : Nat → Nat → Int32} (h : LI e n first D J) (q : ∀ s1 g1 j, Ext e n first j (1 <<< first) first s1 g1 → (D s1 g1 ↔ D' s1 g1)) : LI e n first D' J := by
  intro s' hs' g' hg'
  refine (h s' hs' g' hg').trans (or_congr Iff.rfl ⟨?_, ?_⟩)
  · rintro ⟨s1, g1, a, ⟨j, b⟩, c⟩
    exact ⟨s1, g1, (q s1 g1 j b).mp a, ⟨j, b⟩, c⟩
  · rintro ⟨s1, g1, a, ⟨j, b⟩, c⟩
    exact ⟨s1, g1, (q s1 g1 j b).mpr a, ⟨j, b⟩, c⟩
theorem BI_congr {e : Nat → Nat → Prop} {n first m : Nat} {D D' : Nat → Nat → Prop} (h : BI e n first D m) (q : ∀ s1 g1 j, Ext e n first j (1 <<< first) first s1 g1 → (D s1 g1 ↔ D' s1 g1)) : BI e n first D' m := ⟨h.1, h.2.1, fun j s' g' a b c => h.2.2 j s' g' ((q s' g' j b).mpr a) b c⟩
def DnB (s g : Nat) : Nat → Nat → Prop := fun s1 g1 => s1 < s ∨ (s1 = s ∧ g1 < g)
theorem one_2n : ∀ n, n ≤ 6 → ∀ q, q < n → 1 <<< q < 2 ^ n := by decide +kernel
theorem LI_mem {e : Nat → Nat → Prop} {n first s g : Nat} {J : Nat → Nat → Int32} (hn : n ≤ 6) (hf : first < n) (h : LI e n first (DnB s g) J) (hs : s < 2 ^ n) (hg : g < n) : hb (J 147 s) g = true ↔ ∃ j, Ext e n first j (1 <<< first) first s g := by
  have h64 : 2 ^ n ≤ 64 := (by decide : ∀ n, n ≤ 6 → 2 ^ n ≤ 64) n hn
  rw [h s (by omega) g (by omega)]
  constructor
  · rintro (⟨rfl, rfl⟩ | ⟨s1, g1, -, ⟨j, b⟩, c, rfl⟩)
    · exact ⟨0, rfl, rfl⟩
    · exact ⟨j + 1, Ext_snoc b c⟩
  · rintro ⟨j, hj⟩
    cases j with
    | zero => exact Or.inl hj
    | succ j =>
      obtain ⟨s1, g1, a, b, c⟩ := Ext_unsnoc hj
      obtain ⟨k1, k2, k3, k4⟩ := Ext_ok hn a (one_2n n hn first hf) hf (Nat.le_refl _)
      refine Or.inr ⟨s1, g1, Or.inl ?_, ⟨j, a⟩, b, c⟩
      rw [c]
      exact pb_gt s1 (by omega) g (by omega) b.2.2.2
section SM
variable {C : zC} {I I' : Nat → Nat → Int32} {L L' : Nat → Nat → Int64} {M : Nat → Nat → Option Nat}
theorem sp_goOn (d : Nat) {s first : Nat} (hs : s < 64) (hf : first < 6) (tk : Int32) (K : KV) (hK : ∀ J, (∀ a j, a ≠ 147 → J a j = I a j) → (∀ s', s' < 64 → ∀ g', g' < 6 → (hb (J 147 s') g' = true ↔ hb (I 147 s') g' = true ∨ (first < g' ∧ hb tk g' = true ∧ s' = pb s g'))) → K J L M) : zCV C Y_X5_goOn (d + 2) [.ref 145, .int (nI s), .int tk, .int (nI first)] (zmk I L M) K := by
  refine t_X5_goOn d _ _ _ _ ?_
  rw [nI_1]
  refine count_st (P := fun q J => zSV C (zmk I L M) K Y_X5_goOn (d + 2) 5 [(0, .ref 145), (1, .int (nI s)), (2, .int tk), (4, .int (nI q))] [] J L M) (J := fun q J => ((∀ a j, a ≠ 147 → J a j = I a j) ∧ ∀ s', s' < 64 → ∀ g', g' < 6 → (hb (J 147 s') g' = true ↔ hb (I 147 s') g' = true ∨ (first < g' ∧ g' < q ∧ hb tk g' = true ∧ s' = pb s g'))) ∧ first < q) 6 ?_ ?_ (first + 1) I (by omega) ⟨⟨fun _ _ _ => rfl, fun s' hs' g' hg' => ⟨fun z => Or.inl z, fun z => z.elim id fun y => by omega⟩⟩, by omega⟩
  · rintro J ⟨h, -⟩
    refine t_X5_goOn_5 d _ _ _ _ (br_t (by decide) (hK J h.1 fun s' hs' g' hg' => (h.2 s' hs' g' hg').trans (or_congr Iff.rfl ⟨fun ⟨a, _, b, c⟩ => ⟨a, b, c⟩, fun ⟨a, b, c⟩ => ⟨a, hg', b, c⟩⟩)))
  · rintro q J hq ⟨h, hfq⟩ ih
    replace ih := fun s' h => ih s' ⟨h, Nat.lt_succ_of_lt hfq⟩
    refine t_X5_goOn_5 d _ _ _ _ (br_f (fun z => by have := (nI_le_iff (a := 6) (b := q) (by omega) (by omega)).mp z; omega) ?_)
    rw [zhas_hb (by omega), nI_1, pb_nI s hs q hq]
    have hpb := pb_lt s hs q hq
    refine ⟨fun z => ih J ⟨h.1, fun s' hs' g' hg' => (h.2 s' hs' g' hg').trans (or_congr Iff.rfl ⟨fun ⟨a, b, c, e⟩ => ⟨a, by omega, c, e⟩, fun ⟨a, b, c, e⟩ => ⟨a, ?_, c, e⟩⟩)⟩, fun z => ?_⟩
    · by_cases y : g' = q
      · subst y; exact absurd c z
      · omega
    · have hin := vp_in_nI hpb (by omega : 64 < 2 ^ 31)
      refine ⟨hin, hin, ?_⟩
      rw [nI_clamp (by omega)]
      refine ih _ ⟨fun a j ha => by rw [u2_n1 _ _ ha]; exact h.1 a j ha, fun s' hs' g' hg' => ?_⟩
      by_cases y : s' = pb s q
      · rw [y, u2_same, hb_or, hb_one (by omega), Bool.or_eq_true, decide_eq_true_iff, h.2 _ hpb g' hg']
        constructor
        · rintro ((a | ⟨a, b, c, e⟩) | a)
          · exact Or.inl a
          · exact Or.inr ⟨a, by omega, c, e⟩
          · exact Or.inr ⟨by omega, by omega, by rw [a]; exact z, by rw [a]⟩
        · rintro (a | ⟨a, b, c, e⟩)
          · exact Or.inl (Or.inl a)
          · by_cases x : g' = q
            · exact Or.inr x
            · exact Or.inl (Or.inr ⟨a, by omega, c, e⟩)
      · rw [u2_n2 _ _ y, h.2 s' hs' g' hg']
        refine or_congr Iff.rfl ⟨fun ⟨a, b, c, e⟩ => ⟨a, by omega, c, e⟩, fun ⟨a, b, c, e⟩ => ⟨a, ?_, c, e⟩⟩
        by_cases x : g' = q
        · rw [x] at e; exact absurd e y
        · omega
theorem sp_lf (d : Nat) {e : Nat → Nat → Prop} {n first : Nat} (hn : n ≤ 6) (hf : first < n) (hself : ¬ e first first) (hg : ∀ g, g < n → ∀ q, q < 32 → (hb (I 146 g) q = true ↔ q < n ∧ e g q)) (K : KI) (hK : ∀ v J, (∀ a j, a ≠ 147 → J a j = I a j) → DB e n first (1 <<< first) first 1 v → v ≤ 6 → K (nI v) J L M) : zCI C Y_X5_longestFrom (d + 3) [.ref 145, .int (nI first), .int (nI n)] (zmk I L M) K := by
  have h64 : 2 ^ n ≤ 64 := (by decide : ∀ n, n ≤ 6 → 2 ^ n ≤ 64) n hn
  have hb1 := one_2n n hn first hf
  obtain ⟨c1, c2, c3⟩ := cd_one first (by omega)
  have e2n : (1 : Int32) <<< (nI n &&& 31) = nI (2 ^ n) := (by decide : ∀ n, n ≤ 6 → (1 : Int32) <<< (nI n &&& 31) = nI (2 ^ n)) n hn
  refine t_X5_longestFrom d _ _ _ (sp_fill (d + 1) 0 s_147 (by omega) _ ?_)
  rw [c3, nI_clamp (by omega)]
  refine ⟨vp_in_nI c2 (by omega), ?_⟩
  -- what stands at the head of the loops
  have st : LI e n first (DnB (1 <<< first) first) (u2 (zfill I 147 64 0) 147 (1 <<< first) (nI (1 <<< first))) := by
    refine LI_congr (D := fun _ _ => False) (fun s' hs' g' hg' => ?_) fun s1 g1 j hj => ⟨False.elim, fun z => ?_⟩
    · have : hb (u2 (zfill I 147 64 0) 147 (1 <<< first) (nI (1 <<< first)) 147 s') g' = true ↔ s' = 1 <<< first ∧ g' = first := by
        by_cases y : s' = 1 <<< first
        · rw [y, u2_same, tb_hb _ c2 _ (by omega), tb_one first (by omega) g' hg', decide_eq_true_iff]
          exact ⟨fun z => ⟨rfl, z⟩, fun z => z.2⟩
        · rw [u2_n2 _ _ y]
          have : zfill I 147 64 0 147 s' = 0 := by unfold zfill; rw [if_pos rfl, if_pos hs']
          rw [this, hb_0]
          exact ⟨fun z => absurd z (by decide), fun z => absurd z.1 y⟩
      rw [this]
      exact ⟨Or.inl, fun z => z.elim id fun ⟨_, _, a, _⟩ => a.elim⟩
    · have := Ext_ge hj
      obtain ⟨k1, k2, k3, k4⟩ := Ext_ok hn hj hb1 hf (Nat.le_refl _)
      rcases z with z | ⟨z1, z2⟩
      · omega
      · omega
  have key : ∀ (k s : Nat) (J : Nat → Nat → Int32) (m : Nat), s + k = 2 ^ n → 1 <<< first ≤ s → (∀ a j, a ≠ 147 → J a j = I a j) → LI e n first (DnB s first) J → BI e n first (DnB s first) m → zSI C (zmk I L M) K Y_X5_longestFrom (d + 3) 26 [(0, .ref 145), (1, .int (nI first)), (2, .int (nI n)), (3, .int (nI m)), (4, .int (nI s))] [] J L M := by
    intro k
    induction k with
    | zero =>
      intro s J m hs hs1 hJ hL' hB
      refine t_X5_longestFrom_26 d _ _ _ _ _ (br_t (by rw [e2n]; exact (nI_le_iff (by omega) (by omega)).mpr (by omega)) (hK m J hJ ⟨?_, fun j s' g' a b c => ?_⟩ hB.1))
      · rcases hB.2.1 with z | ⟨j, s', g', a, b, c⟩
        · exact Or.inl z
        · refine Or.inr ⟨j, s', g', a, b, c, ?_⟩
          cases j with
          | zero =>
            obtain ⟨a1, a2⟩ := a
            rw [a2] at b
            exact absurd b hself
          | succ j => omega
      · obtain ⟨k1, k2, k3, k4⟩ := Ext_ok hn a hb1 hf (Nat.le_refl _)
        exact hB.2.2 j s' g' (Or.inl (by omega)) a b
    | succ k ihk =>
      intro s J m hs hs1 hJ hL' hB
      refine t_X5_longestFrom_26 d _ _ _ _ _ (br_f (by rw [e2n]; exact fun z => by have := (nI_le_iff (a := 2 ^ n) (b := s) (by omega) (by omega)).mp z; omega) ?_)
      refine count_st (σ := (Nat → Nat → Int32) × Nat) (P := fun g u => zSI C (zmk I L M) K Y_X5_longestFrom (d + 3) 37 [(0, .ref 145), (1, .int (nI first)), (2, .int (nI n)), (3, .int (nI u.2)), (4, .int (nI s)), (5, .int (nI g))] [] u.1 L M) (J := fun g u => first ≤ g ∧ (∀ a j, a ≠ 147 → u.1 a j = I a j) ∧ LI e n first (DnB s g) u.1 ∧ BI e n first (DnB s g) u.2) n ?_ ?_ first (J, m) (by omega) ⟨Nat.le_refl _, hJ, hL', hB⟩
      · rintro ⟨J1, m1⟩ ⟨-, a1, a2, a3⟩
        refine t_X5_longestFrom_37 d _ _ _ _ _ _ (br_t (Int32.le_refl _) ?_)
        rw [nI_1]
        have cg : ∀ s1 g1 j, Ext e n first j (1 <<< first) first s1 g1 → (DnB s n s1 g1 ↔ DnB (s + 1) first s1 g1) := fun s1 g1 j hj => by
          obtain ⟨k1, k2, k3, k4⟩ := Ext_ok hn hj hb1 hf (Nat.le_refl _)
          unfold DnB
          omega
        exact ihk (s + 1) J1 m1 (by omega) (by omega) a1 (LI_congr a2 cg) (BI_congr a3 cg)
      · rintro g ⟨J1, m1⟩ hgn ⟨hfg, a1, a2, a3⟩ ih
        replace ih : ∀ (J' : Nat → Nat → Int32) (m' : Nat), first ≤ g + 1 → (∀ a j, a ≠ 147 → J' a j = I a j) → LI e n first (DnB s (g + 1)) J' → BI e n first (DnB s (g + 1)) m' → zSI C (zmk I L M) K Y_X5_longestFrom (d + 3) 37 [(0, .ref 145), (1, .int (nI first)), (2, .int (nI n)), (3, .int (nI m')), (4, .int (nI s)), (5, .int (nI (g + 1)))] [] J' L M := fun J' m' b1 b2 b3 b4 => ih (J', m') ⟨b1, b2, b3, b4⟩
        replace a1 : ∀ a j, a ≠ 147 → J1 a j = I a j := a1
        replace a2 : LI e n first (DnB s g) J1 := a2
        replace a3 : BI e n first (DnB s g) m1 := a3
        have hs64 : s < 64 := by omega
        dsimp only
        refine t_X5_longestFrom_37 d _ _ _ _ _ _ (br_f (fun z => by have := (nI_le_iff (a := n) (b := g) (by omega) (by omega)).mp z; omega) ⟨vp_in_nI hs64 (by omega), ?_⟩)
        have hmem := LI_mem hn hf a2 (by omega : s < 2 ^ n) hgn
        rw [nI_1, nI_clamp (show s < 2 ^ 31 by omega), nI_clamp (show g < 2 ^ 31 by omega), zhas_hb (by omega)]
        refine ⟨fun z => ?_, fun z => ⟨vp_in_nI (by omega) (by omega), ?_⟩⟩
        · have cg : ∀ s1 g1 j, Ext e n first j (1 <<< first) first s1 g1 → (DnB s g s1 g1 ↔ DnB s (g + 1) s1 g1) := fun s1 g1 j hj => by
            unfold DnB
            constructor
            · omega
            · rintro (y | ⟨y1, y2⟩)
              · exact Or.inl y
              · by_cases x : g1 = g
                · rw [y1, x] at hj
                  exact absurd (hmem.mpr ⟨j, hj⟩) z
                · omega
          exact ih J1 m1 (by omega) a1 (LI_congr a2 cg) (BI_congr a3 cg)
        · obtain ⟨j0, hj0⟩ := hmem.mp z
          have hgv := hg g hgn
          rw [a1 146 g (by omega)]
          refine sp_goOn d hs64 (by omega) _ _ fun J2 b1 b2 => ⟨vp_in_nI (by omega) (by omega), ?_⟩
          rw [b1 146 g (by omega), a1 146 g (by omega), zhas_hb (by omega), hgv first (by omega), cd_zbc s hs64]
          have hL2 : LI e n first (DnB s (g + 1)) J2 := by
            intro s' hs' g' hg'
            rw [b2 s' hs' g' hg', a2 s' hs' g' hg', hb_and, hb_not _ (by omega), tb_hb s hs64 g' (by omega)]
            constructor
            · rintro ((y | ⟨s1, g1, y1, y2, y3, y4⟩) | ⟨y1, y2, y3⟩)
              · exact Or.inl y
              · refine Or.inr ⟨s1, g1, ?_, y2, y3, y4⟩
                unfold DnB at y1 ⊢
                omega
              · simp only [Bool.and_eq_true, Bool.not_eq_true'] at y2
                have := (hgv g' (by omega)).mp y2.1
                exact Or.inr ⟨s, g, Or.inr ⟨rfl, by omega⟩, ⟨j0, hj0⟩, ⟨this.2, y1, this.1, y2.2⟩, y3⟩
            · rintro (y | ⟨s1, g1, y1, y2, y3, y4⟩)
              · exact Or.inl (Or.inl y)
              · by_cases x : s1 = s ∧ g1 = g
                · obtain ⟨rfl, rfl⟩ := x
                  refine Or.inr ⟨y3.2.1, ?_, y4⟩
                  rw [(hgv g' (by omega)).mpr ⟨y3.2.2.1, y3.1⟩, y3.2.2.2]
                  rfl
                · refine Or.inl (Or.inr ⟨s1, g1, ?_, y2, y3, y4⟩)
                  unfold DnB at y1 ⊢
                  omega
          have hF2 : ∀ a j, a ≠ 147 → J2 a j = I a j := fun a j q => (b1 a j q).trans (a1 a j q)
          have hcd : cd6 s = 1 + j0 := by
            have := (Ext_ok hn hj0 hb1 hf (Nat.le_refl _)).2.2.2
            omega
          refine ⟨fun y => ?_, fun y => ?_⟩
          · refine ih J2 m1 (by omega) hF2 hL2 ⟨a3.1, a3.2.1, fun j s' g' x1 x2 x3 => ?_⟩
            by_cases x : s' = s ∧ g' = g
            · rw [x.2] at x3
              exact absurd ⟨hf, x3⟩ y
            · refine a3.2.2 j s' g' ?_ x2 x3
              unfold DnB at x1 ⊢
              omega
          · have hm := a3.1
            have h6 := (cd_6 s hs64).1
            rw [nI_max m1 (cd6 s) (by omega) (by omega)]
            refine ih J2 _ (by omega) hF2 hL2 ⟨?_, ?_, fun j s' g' x1 x2 x3 => ?_⟩
            · by_cases x : m1 < cd6 s
              · rw [if_pos x]; exact h6
              · rw [if_neg x]; exact hm
            · by_cases x : m1 < cd6 s
              · rw [if_pos x]
                exact Or.inr ⟨j0, s, g, hj0, y.2, hcd⟩
              · rw [if_neg x]
                exact a3.2.1
            · have hmx : m1 ≤ (if m1 < cd6 s then cd6 s else m1) ∧ cd6 s ≤ (if m1 < cd6 s then cd6 s else m1) := by
                by_cases x : m1 < cd6 s
                · rw [if_pos x]; omega
                · rw [if_neg x]; omega
              by_cases x : s' = s ∧ g' = g
              · have := (Ext_ok hn x2 hb1 hf (Nat.le_refl _)).2.2.2
                rw [x.1] at this
                omega
              · have := a3.2.2 j s' g' (by unfold DnB at x1 ⊢; omega) x2 x3
                omega
  obtain ⟨k, hk⟩ : ∃ k, 1 <<< first + k = 2 ^ n := ⟨2 ^ n - 1 <<< first, by omega⟩
  refine key k (1 <<< first) _ 0 hk (Nat.le_refl _) (fun a j ha => by
    rw [u2_n1 _ _ ha]
    unfold zfill
    rw [if_neg ha]) st ⟨by omega, Or.inl rfl, fun j s' g' x1 x2 x3 => ?_⟩
  exfalso
  have := Ext_ge x2
  obtain ⟨k1, k2, k3, k4⟩ := Ext_ok hn x2 hb1 hf (Nat.le_refl _)
  unfold DnB at x1
  omega
end SM
