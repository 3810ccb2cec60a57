/-! RINGS: ways that go on; sets as bits -/
def cd6 (s : Nat) : Nat := (List.range 6).countP (fun q => s.testBit q)
def pb (s q : Nat) : Nat := s ||| (1 <<< q)
theorem pb_lt : ∀ s, s < 64 → ∀ q, q < 6 → pb s q < 64 := by decide +kernel
theorem pb_cd : ∀ s, s < 64 → ∀ q, q < 6 → s.testBit q = false → cd6 (pb s q) = cd6 s + 1 := by decide +kernel
theorem pb_gt : ∀ s, s < 64 → ∀ q, q < 6 → s.testBit q = false → s < pb s q := by decide +kernel
theorem pb_n : ∀ n, n ≤ 6 → ∀ s, s < 2 ^ n → ∀ q, q < n → pb s q < 2 ^ n := by decide +kernel
theorem cd_6 : ∀ s, s < 64 → cd6 s ≤ 6 ∧ (cd6 s = 6 → ∀ q, q < 6 → s.testBit q = true) := by decide +kernel
theorem cd_one : ∀ q, q < 6 → cd6 (1 <<< q) = 1 ∧ 1 <<< q < 64 ∧ (1 : Int32) <<< (nI q &&& 31) = nI (1 <<< q) := by decide +kernel
theorem cd_zbc : ∀ s, s < 64 → zbc (nI s) = nI (cd6 s) := by decide +kernel
theorem tb_hb : ∀ s, s < 64 → ∀ q, q < 32 → hb (nI s) q = s.testBit q := by decide +kernel
theorem pb_nI : ∀ s, s < 64 → ∀ q, q < 6 → nI s ||| ((1 : Int32) <<< (nI q &&& 31)) = nI (pb s q) := by decide +kernel
theorem tb_one : ∀ q, q < 6 → ∀ x, x < 6 → (1 <<< q).testBit x = decide (x = q) := by decide +kernel
/-- a step of a way: from g, s being where it was, to q -/
def StW (e : Nat → Nat → Prop) (n first s g q : Nat) : Prop := e g q ∧ first < q ∧ q < n ∧ s.testBit q = false
def Ext (e : Nat → Nat → Prop) (n first : Nat) : Nat → Nat → Nat → Nat → Nat → Prop
  | 0, s0, g0, s, g => s = s0 ∧ g = g0
  | j + 1, s0, g0, s, g => ∃ q, StW e n first s0 g0 q ∧ Ext e n first j (pb s0 q) q s g
theorem Ext_snoc {e : Nat → Nat → Prop} {n first : Nat} : ∀ {j s0 g0 s g q : Nat}, Ext e n first j s0 g0 s g → StW e n first s g q → Ext e n first (j + 1) s0 g0 (pb s q) q := by
  intro j
  induction j with
  | zero =>
    rintro s0 g0 s g q ⟨rfl, rfl⟩ h
    exact ⟨q, h, rfl, rfl⟩
  | succ j ih =>
    rintro s0 g0 s g q ⟨q1, h1, h2⟩ h
    exact ⟨q1, h1, ih h2 h⟩
theorem Ext_unsnoc {e : Nat → Nat → Prop} {n first : Nat} : ∀ {j s0 g0 s g : Nat}, Ext e n first (j + 1) s0 g0 s g → ∃ s1 g1, Ext e n first j s0 g0 s1 g1 ∧ StW e n first s1 g1 g ∧ s = pb s1 g := by
  intro j
  induction j with
  | zero =>
    rintro s0 g0 s g ⟨q, h1, rfl, rfl⟩
    exact ⟨s0, g0, ⟨rfl, rfl⟩, h1, rfl⟩
  | succ j ih =>
    rintro s0 g0 s g ⟨q, h1, h2⟩
    obtain ⟨s1, g1, a, b, c⟩ := ih h2
    exact ⟨s1, g1, ⟨q, h1, a⟩, b, c⟩
theorem Ext_ok {e : Nat → Nat → Prop} {n first : Nat} (hn : n ≤ 6) : ∀ {j s0 g0 s g : Nat}, Ext e n first j s0 g0 s g → s0 < 2 ^ n → g0 < n → first ≤ g0 → s < 2 ^ n ∧ g < n ∧ first ≤ g ∧ cd6 s = cd6 s0 + j := by
  have h64 : 2 ^ n ≤ 64 := (by decide : ∀ n, n ≤ 6 → 2 ^ n ≤ 64) n hn
  intro j
  induction j with
  | zero =>
    rintro s0 g0 s g ⟨rfl, rfl⟩ h1 h2 h3
    exact ⟨h1, h2, h3, rfl⟩
  | succ j ih =>
    rintro s0 g0 s g ⟨q, ⟨a1, a2, a3, a4⟩, h⟩ h1 h2 h3
    obtain ⟨b1, b2, b3, b4⟩ := ih h (pb_n n hn s0 h1 q a3) a3 (by omega)
    refine ⟨b1, b2, b3, ?_⟩
    rw [b4, pb_cd s0 (by omega) q (by omega) a4]
    omega
/-- the longest way from here back to the first: how many are in it (0: none) -/
def DB (e : Nat → Nat → Prop) (n first s0 g0 c v : Nat) : Prop := (v = 0 ∨ ∃ j s g, Ext e n first j s0 g0 s g ∧ e g first ∧ v = c + j ∧ 1 < c + j) ∧ ∀ j s g, Ext e n first j s0 g0 s g → e g first → 1 < c + j → c + j ≤ v
theorem DB_u {e : Nat → Nat → Prop} {n first s0 g0 c v v' : Nat} (h : DB e n first s0 g0 c v) (h' : DB e n first s0 g0 c v') : v = v' := by
  have key : ∀ {a b : Nat}, DB e n first s0 g0 c a → DB e n first s0 g0 c b → a ≤ b := fun {a b} ha hb => by
    rcases ha.1 with q | ⟨j, s, g, q1, q2, q3, q4⟩
    · omega
    · rw [q3]; exact hb.2 j s g q1 q2 q4
  exact Nat.le_antisymm (key h h') (key h' h)
/-- .. the first step being below q -/
def ExL (e : Nat → Nat → Prop) (n first s0 g0 q : Nat) : Nat → Nat → Nat → Prop
  | 0, s, g => s = s0 ∧ g = g0
  | j + 1, s, g => ∃ q', q' < q ∧ StW e n first s0 g0 q' ∧ Ext e n first j (pb s0 q') q' s g
def DL (e : Nat → Nat → Prop) (n first s0 g0 c q v : Nat) : Prop := (v = 0 ∨ ∃ j s g, ExL e n first s0 g0 q j s g ∧ e g first ∧ v = c + j ∧ 1 < c + j) ∧ ∀ j s g, ExL e n first s0 g0 q j s g → e g first → 1 < c + j → c + j ≤ v
theorem ExL_mono {e : Nat → Nat → Prop} {n first s0 g0 q j s g : Nat} (h : ExL e n first s0 g0 q j s g) : ExL e n first s0 g0 (q + 1) j s g := by
  cases j with
  | zero => exact h
  | succ j =>
    obtain ⟨q', a, b⟩ := h
    exact ⟨q', by omega, b⟩
theorem ExL_down {e : Nat → Nat → Prop} {n first s0 g0 q j s g : Nat} (h : ExL e n first s0 g0 (q + 1) j s g) (hs : ¬ StW e n first s0 g0 q) : ExL e n first s0 g0 q j s g := by
  cases j with
  | zero => exact h
  | succ j =>
    obtain ⟨q', a, b, c⟩ := h
    refine ⟨q', ?_, b, c⟩
    by_cases z : q' = q
    · subst z; exact absurd b hs
    · omega
theorem DL_skip {e : Nat → Nat → Prop} {n first s0 g0 c q v : Nat} (h : DL e n first s0 g0 c q v) (hs : ¬ StW e n first s0 g0 q) : DL e n first s0 g0 c (q + 1) v :=
  ⟨h.1.imp id fun ⟨j, s, g, a, b⟩ => ⟨j, s, g, ExL_mono a, b⟩, fun j s g a => h.2 j s g (ExL_down a hs)⟩
theorem DL_step {e : Nat → Nat → Prop} {n first s0 g0 c q v v' : Nat} (h : DL e n first s0 g0 c q v) (hs : StW e n first s0 g0 q) (h' : DB e n first (pb s0 q) q (c + 1) v') : DL e n first s0 g0 c (q + 1) (if v < v' then v' else v) := by
  have up : ∀ j s g, Ext e n first j (pb s0 q) q s g → ExL e n first s0 g0 (q + 1) (j + 1) s g := fun j s g a => ⟨q, by omega, hs, a⟩
  constructor
  · by_cases z : v < v'
    · rw [if_pos z]
      right
      rcases h'.1 with y | ⟨j, s, g, a, b, c', d⟩
      · omega
      · exact ⟨j + 1, s, g, up j s g a, b, by omega, by omega⟩
    · rw [if_neg z]
      exact h.1.imp id fun ⟨j, s, g, a, b⟩ => ⟨j, s, g, ExL_mono a, b⟩
  · intro j s g a b d
    have hm : v ≤ (if v < v' then v' else v) ∧ v' ≤ (if v < v' then v' else v) := by
      by_cases z : v < v'
      · rw [if_pos z]; omega
      · rw [if_neg z]; omega
    cases j with
    | zero =>
      have := h.2 0 s g a b d
      omega
    | succ j =>
      obtain ⟨q', a1, a2, a3⟩ := a
      by_cases z : q' = q
      · subst z
        have := h'.2 j s g a3 b (by omega)
        omega
      · have := h.2 (j + 1) s g ⟨q', by omega, a2, a3⟩ b d
        omega
theorem DL_end {e : Nat → Nat → Prop} {n first s0 g0 c v : Nat} (h : DL e n first s0 g0 c n v) : DB e n first s0 g0 c v := by
  have iff : ∀ j s g, Ext e n first j s0 g0 s g ↔ ExL e n first s0 g0 n j s g := fun j s g => by
    cases j with
    | zero => exact Iff.rfl
    | succ j => exact ⟨fun ⟨q, a, b⟩ => ⟨q, a.2.2.1, a, b⟩, fun ⟨q, _, a, b⟩ => ⟨q, a, b⟩⟩
  exact ⟨h.1.imp id fun ⟨j, s, g, a, b⟩ => ⟨j, s, g, (iff j s g).mpr a, b⟩, fun j s g a => h.2 j s g ((iff j s g).mp a)⟩
theorem DL_start {e : Nat → Nat → Prop} {n first s0 g0 c : Nat} [Decidable (1 < c ∧ e g0 first)] : DL e n first s0 g0 c (first + 1) (if 1 < c ∧ e g0 first then c else 0) := by
  have no : ∀ j s g, ¬ ExL e n first s0 g0 (first + 1) (j + 1) s g := fun j s g ⟨q, a, b, _⟩ => by
    have := b.2.1
    omega
  by_cases z : 1 < c ∧ e g0 first
  · rw [if_pos z]
    refine ⟨Or.inr ⟨0, s0, g0, ⟨rfl, rfl⟩, z.2, rfl, z.1⟩, fun j s g a b d => ?_⟩
    cases j with
    | zero => omega
    | succ j => exact absurd a (no j s g)
  · rw [if_neg z]
    refine ⟨Or.inl rfl, fun j s g a b d => ?_⟩
    cases j with
    | zero =>
      obtain ⟨a1, a2⟩ := a
      rw [a2] at b
      exact absurd ⟨d, b⟩ z
    | succ j => exact absurd a (no j s g)
/-- the greatest of the first k -/
def MB (e : Nat → Nat → Prop) (n : Nat) : Nat → Nat → Prop
  | 0, m => m = 0
  | k + 1, m => ∃ m0 v, MB e n k m0 ∧ DB e n k (1 <<< k) k 1 v ∧ m = if m0 < v then v else m0
theorem MB_u {e : Nat → Nat → Prop} {n : Nat} : ∀ {k m m' : Nat}, MB e n k m → MB e n k m' → m = m' := by
  intro k
  induction k with
  | zero => intro m m' h h'; exact h.trans h'.symm
  | succ k ih =>
    rintro m m' ⟨a, v, h1, h2, h3⟩ ⟨a', v', h1', h2', h3'⟩
    rw [h3, h3', ih h1 h1', DB_u h2 h2']
/-- whether p can give q something -/
def eV (w : Nat → Int32) (p q : Nat) : Prop := ¬ w (36 + p) &&& w (42 + q) &&& (w (36 + q) ^^^ (-1)) = 0
theorem eV_self (w : Nat → Int32) (p : Nat) : ¬ eV w p p := by
  unfold eV
  rw [Classical.not_not]
  apply hb_ext
  intro x hx
  rw [hb_and, hb_and, hb_not _ hx, hb_0]
  cases hb (w (36 + p)) x <;> simp
theorem eV_c (w : Nat → Int32) (p q : Nat) : w (36 + p) &&& (w (42 + q) &&& (w (36 + q) ^^^ (-1))) = 0 ↔ ¬ eV w p q := by
  unfold eV
  rw [Classical.not_not]
  have : w (36 + p) &&& (w (42 + q) &&& (w (36 + q) ^^^ (-1))) = w (36 + p) &&& w (42 + q) &&& (w (36 + q) ^^^ (-1)) := by
    apply hb_ext
    intro x hx
    rw [hb_and, hb_and, hb_and, hb_and, Bool.and_assoc]
  rw [this]
section SM
variable {C : zC} {I I' : Nat → Nat → Int32} {L L' : Nat → Nat → Int64} {M : Nat → Nat → Option Nat}
theorem sp_may (d : Nat) {p q : Nat} (hp : p < 6) (hq : q < 6) (K : KI) (hK : ∀ r : Int32, (r = 0 ↔ ¬ eV (cur I) p q) → K r I L M) : zCI C Y_X11_mayGive (d + 1) [.ref 265, .int (nI p), .int (nI q)] (zmk I L M) K := by
  have h6 := vp_in_nI hp (by omega : 6 < 2 ^ 31)
  have h6' := vp_in_nI hq (by omega : 6 < 2 ^ 31)
  refine t_X11_mayGive d _ _ _ ⟨h6, h6', h6', ?_⟩
  rw [nI_clamp (by omega), nI_clamp (by omega), ← cur_at (I := I) (l_m p hp) (by omega), ← cur_at (I := I) (l_l q hq) (by omega), ← cur_at (I := I) (l_m q hq) (by omega)]
  refine hK _ ?_
  unfold eV
  rw [Classical.not_not]
theorem nI_max (a b : Nat) (ha : a < 2 ^ 31) (hb : b < 2 ^ 31) : (if nI a < nI b then nI b else nI a) = nI (if a < b then b else a) := by
  by_cases z : a < b
  · rw [if_pos z, if_pos ((nI_lt_iff ha hb).mpr z)]
  · rw [if_neg z, if_neg (fun q => z ((nI_lt_iff ha hb).mp q))]
theorem sp_rf (d : Nat) {n first : Nat} (hn : n ≤ 6) (en : I 265 2 = nI n) (hf : first < n) : ∀ (f s0 g0 : Nat), s0 < 2 ^ n → g0 < n → first ≤ g0 → cd6 s0 + f = 6 → ∀ (K : KI), (∀ v, DB (eV (cur I)) n first s0 g0 (cd6 s0) v → v ≤ 6 → K (nI v) I L M) → zCI C Y_X11_ringFrom (d + f + 2) [.ref 265, .int (nI first), .int (nI g0), .int (nI s0), .int (nI (cd6 s0))] (zmk I L M) K := by
  have h64 : 2 ^ n ≤ 64 := (by decide : ∀ n, n ≤ 6 → 2 ^ n ≤ 64) n hn
  intro f
  induction f with
  | zero =>
    intro s0 g0 hs hg hfg hc K hK
    have dec : Decidable (1 < cd6 s0 ∧ eV (cur I) g0 first) := Classical.propDecidable _
    have full := (cd_6 s0 (by omega)).2 (by omega)
    have s28 : ∀ v : Nat, DL (eV (cur I)) n first s0 g0 (cd6 s0) (first + 1) v → v ≤ 6 → zSI C (zmk I L M) K Y_X11_ringFrom (d + 0 + 2) 28 [(0, .ref 265), (1, .int (nI first)), (2, .int (nI g0)), (3, .int (nI s0)), (4, .int (nI (cd6 s0))), (5, .int (nI v)), (6, .int (nI (first + 1)))] [] I L M := by
      intro v hv hv6
      refine count_st (P := fun q (u : Unit) => zSI C (zmk I L M) K Y_X11_ringFrom (d + 0 + 2) 28 [(0, .ref 265), (1, .int (nI first)), (2, .int (nI g0)), (3, .int (nI s0)), (4, .int (nI (cd6 s0))), (5, .int (nI v)), (6, .int (nI q))] [] I L M) (J := fun q u => DL (eV (cur I)) n first s0 g0 (cd6 s0) q v) n ?_ ?_ (first + 1) () (by omega) hv
      · intro u h
        exact t_X11_ringFrom_28 (d + 0) _ _ _ _ _ _ _ (br_t (by rw [en]; exact Int32.le_refl _) (hK v (DL_end h) hv6))
      · intro q u hq h ih
        refine t_X11_ringFrom_28 (d + 0) _ _ _ _ _ _ _ (br_f (by rw [en]; exact fun z => by have := (nI_le_iff (a := n) (b := q) (by omega) (by omega)).mp z; omega) ⟨fun z => ?_, fun z => ?_⟩)
        · rw [nI_1]
          exact ih () (DL_skip h fun z => by have := z.2.2.2; rw [full q (by omega)] at this; exact absurd this (by decide))
        · rw [zhas_hb (by omega), tb_hb s0 (by omega) q (by omega), full q (by omega)] at z
          exact absurd rfl z
    have st := DL_start (e := eV (cur I)) (n := n) (first := first) (s0 := s0) (g0 := g0) (c := cd6 s0)
    refine t_X11_ringFrom (d + 0) _ _ _ _ _ ⟨fun z => ?_, fun z => ?_⟩
    · rw [nI_1]
      have := (nI_le_iff (a := cd6 s0) (b := 1) (by omega) (by omega)).mp z
      omega
    · have h1 : 1 < cd6 s0 := by omega
      refine sp_may (d + 0) (by omega) (by omega) _ fun r hr => ⟨fun z2 => ?_, fun z2 => ?_⟩
      · rw [nI_1]
        rw [if_neg (fun q => hr.mp z2 q.2)] at st
        exact s28 0 st (by omega)
      · rw [nI_1]
        rw [if_pos ⟨h1, Classical.not_not.mp fun q => z2 (hr.mpr q)⟩] at st
        exact s28 (cd6 s0) st (by omega)
  | succ f ihf =>
    intro s0 g0 hs hg hfg hc K hK
    have dec : Decidable (1 < cd6 s0 ∧ eV (cur I) g0 first) := Classical.propDecidable _
    have s28 : ∀ v : Nat, DL (eV (cur I)) n first s0 g0 (cd6 s0) (first + 1) v → v ≤ 6 → zSI C (zmk I L M) K Y_X11_ringFrom (d + (f + 1) + 2) 28 [(0, .ref 265), (1, .int (nI first)), (2, .int (nI g0)), (3, .int (nI s0)), (4, .int (nI (cd6 s0))), (5, .int (nI v)), (6, .int (nI (first + 1)))] [] I L M := by
      intro v hv hv6
      refine count_st (P := fun q (u : Nat) => zSI C (zmk I L M) K Y_X11_ringFrom (d + (f + 1) + 2) 28 [(0, .ref 265), (1, .int (nI first)), (2, .int (nI g0)), (3, .int (nI s0)), (4, .int (nI (cd6 s0))), (5, .int (nI u)), (6, .int (nI q))] [] I L M) (J := fun q u => (DL (eV (cur I)) n first s0 g0 (cd6 s0) q u ∧ u ≤ 6) ∧ first < q) n ?_ ?_ (first + 1) v (by omega) ⟨⟨hv, hv6⟩, by omega⟩
      · intro u h
        exact t_X11_ringFrom_28 (d + (f + 1)) _ _ _ _ _ _ _ (br_t (by rw [en]; exact Int32.le_refl _) (hK u (DL_end h.1.1) h.1.2))
      · rintro q u hq ⟨h, hfq⟩ ih
        replace ih := fun s' h => ih s' ⟨h, Nat.lt_succ_of_lt hfq⟩
        refine t_X11_ringFrom_28 (d + (f + 1)) _ _ _ _ _ _ _ (br_f (by rw [en]; exact fun z => by have := (nI_le_iff (a := n) (b := q) (by omega) (by omega)).mp z; omega) ?_)
        rw [zhas_hb (by omega), tb_hb s0 (by omega) q (by omega), nI_1]
        refine ⟨fun z => ih u ⟨DL_skip h.1 fun y => by rw [y.2.2.2] at z; exact absurd z (by decide), h.2⟩, fun z => ?_⟩
        have hnb : s0.testBit q = false := by simpa using z
        refine sp_may (d + (f + 1)) (by omega) (by omega) _ fun r hr => ⟨fun z2 => ih u ⟨DL_skip h.1 fun y => hr.mp z2 y.1, h.2⟩, fun z2 => ?_⟩
        rw [pb_nI s0 (by omega) q (by omega), nI_1]
        have hstp : StW (eV (cur I)) n first s0 g0 q := ⟨Classical.not_not.mp fun y => z2 (hr.mpr y), hfq, hq, hnb⟩
        have hcd := pb_cd s0 (by omega) q (by omega) hnb
        rw [← hcd]
        refine ihf (pb s0 q) q (pb_n n hn s0 hs q hq) hq (by omega) (by omega) _ fun v' hv' hv6' => ?_
        rw [nI_max u v' (by omega) (by omega)]
        rw [hcd] at hv'
        refine ih _ ⟨DL_step h.1 hstp hv', ?_⟩
        by_cases y : u < v'
        · rw [if_pos y]; exact hv6'
        · rw [if_neg y]; exact h.2
    have st := DL_start (e := eV (cur I)) (n := n) (first := first) (s0 := s0) (g0 := g0) (c := cd6 s0)
    refine t_X11_ringFrom (d + (f + 1)) _ _ _ _ _ ⟨fun z => ?_, fun z => ?_⟩
    · rw [nI_1]
      have := (nI_le_iff (a := cd6 s0) (b := 1) (by omega) (by omega)).mp z
      rw [if_neg (fun q => by omega)] at st
      exact s28 0 st (by omega)
    · have h1 : 1 < cd6 s0 := by
        apply Nat.lt_of_not_le
        intro q
        exact z ((nI_le_iff (b := 1) (by omega) (by omega)).mpr q)
      refine sp_may (d + (f + 1)) (by omega) (by omega) _ fun r hr => ⟨fun z2 => ?_, fun z2 => ?_⟩
      · rw [nI_1]
        rw [if_neg (fun q => hr.mp z2 q.2)] at st
        exact s28 0 st (by omega)
      · rw [nI_1]
        rw [if_pos ⟨h1, Classical.not_not.mp fun q => z2 (hr.mpr q)⟩] at st
        have := (cd_6 s0 (by omega)).1
        exact s28 (cd6 s0) st (by omega)
end SM
