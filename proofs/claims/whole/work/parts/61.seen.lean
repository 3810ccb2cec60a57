/-! SEEN -/
def zB (b : Bool) : Int32 := if b then 1 else 0
def rowB (w : Nat → Int32) (p : Nat) (m : Int32) (n i : Nat) : Bool := if w (78 + i) = nI p ∧ w (83 + i) = nI n then decide (zhas m (w (88 + i)) ↔ w (93 + i) = 1) else true
def nightB (w : Nat → Int32) (p : Nat) (m : Int32) (n : Nat) : Nat → Bool
  | 0 => true
  | i + 1 => nightB w p m n i && rowB w p m n i
def seenB (w : Nat → Int32) (p : Nat) (f : Nat → Int32) (s : Nat) : Nat → Bool
  | 0 => true
  | n + 1 => seenB w p f s n && nightB w p (f n) n s
theorem nightB_iff (w : Nat → Int32) (p : Nat) (m : Int32) (n : Nat) : ∀ s, nightB w p m n s = true ↔ ∀ i, i < s → rowB w p m n i = true := by
  intro s
  induction s with
  | zero => exact ⟨fun _ i hi => absurd hi (by omega), fun _ => rfl⟩
  | succ s ih =>
    unfold nightB
    rw [Bool.and_eq_true, ih]
    exact ⟨fun q i hi => by
      by_cases e : i = s
      · subst e; exact q.2
      · exact q.1 i (by omega), fun q => ⟨fun i hi => q i (by omega), q s (by omega)⟩⟩
theorem seenB_iff (w : Nat → Int32) (p : Nat) (f : Nat → Int32) (s : Nat) : ∀ k, seenB w p f s k = true ↔ ∀ n, n < k → nightB w p (f n) n s = true := by
  intro k
  induction k with
  | zero => exact ⟨fun _ i hi => absurd hi (by omega), fun _ => rfl⟩
  | succ k ih =>
    unfold seenB
    rw [Bool.and_eq_true, ih]
    exact ⟨fun q i hi => by
      by_cases e : i = k
      · subst e; exact q.2
      · exact q.1 i (by omega), fun q => ⟨fun i hi => q i (by omega), q k (by omega)⟩⟩
theorem seenB_f (w : Nat → Int32) (p : Nat) (f : Nat → Int32) (s : Nat) {k n : Nat} (h : seenB w p f s k = false) (hk : k ≤ n) : seenB w p f s n = false := by
  cases e : seenB w p f s n with
  | false => rfl
  | true =>
    rw [seenB_iff] at e
    have := (seenB_iff w p f s k).mpr fun i hi => e i (by omega)
    rw [h] at this
    exact absurd this (by decide)
theorem seenB_congr (w : Nat → Int32) (p : Nat) {f g : Nat → Int32} (s : Nat) : ∀ k, (∀ n, n < k → f n = g n) → seenB w p f s k = seenB w p g s k := by
  intro k
  induction k with
  | zero => intro _; rfl
  | succ k ih =>
    intro h
    unfold seenB
    rw [ih fun n hn => h n (by omega), h k (by omega)]
theorem seenB_w {w w' : Nat → Int32} (p : Nat) (f : Nat → Int32) (s : Nat) (h : ∀ j, 78 ≤ j → j < 98 → w' j = w j) (hs : s ≤ 5) : ∀ k, seenB w' p f s k = seenB w p f s k := by
  have hr : ∀ m n i, i < 5 → rowB w' p m n i = rowB w p m n i := fun m n i hi => by
    unfold rowB
    rw [h _ (by omega) (by omega), h _ (by omega) (by omega), h _ (by omega) (by omega), h _ (by omega) (by omega)]
  have hn : ∀ m n i, i ≤ 5 → nightB w' p m n i = nightB w p m n i := fun m n i => by
    induction i with
    | zero => intro _; rfl
    | succ i ih =>
      intro hi
      unfold nightB
      rw [ih (by omega), hr m n i (by omega)]
  intro k
  induction k with
  | zero => rfl
  | succ k ih =>
    unfold seenB
    rw [ih, hn _ _ s hs]
/-- the rows seen -/
def RW (w : Nat → Int32) (s : Nat) : Prop := ∀ i, i < s → ∃ g n x b, g ≤ 5 ∧ n ≤ 12 ∧ x ≤ 11 ∧ b ≤ 1 ∧ w (78 + i) = nI g ∧ w (83 + i) = nI n ∧ w (88 + i) = nI x ∧ w (93 + i) = nI b
theorem Wok.rw {B inns : Nat} {w : Nat → Int32} (h : Wok B inns w) : ∃ s, s ≤ 5 ∧ w 136 = nI s ∧ RW w s := by
  obtain ⟨s, s1, s2⟩ := h.cnt (k := 136) (by omega)
  have s1 : s ≤ 5 := s1
  refine ⟨s, s1, s2, fun i hi => ?_⟩
  obtain ⟨u1, u2', u3, u4⟩ := u_s B i (by omega)
  have hl : ∀ k, k < 98 → 78 ≤ k → (k - 78) % 5 = i → live w k := fun k h1 h2 h3 => by
    unfold live
    right; right; right; left
    rw [s2, cn_nI (by omega)]
    omega
  obtain ⟨g, g1, g2⟩ := h.1 (78 + i) (by omega) (hl _ (by omega) (by omega) (by omega))
  obtain ⟨n, n1, n2⟩ := h.1 (83 + i) (by omega) (hl _ (by omega) (by omega) (by omega))
  obtain ⟨x, x1, x2⟩ := h.1 (88 + i) (by omega) (hl _ (by omega) (by omega) (by omega))
  obtain ⟨b, b1, b2⟩ := h.1 (93 + i) (by omega) (hl _ (by omega) (by omega) (by omega))
  exact ⟨g, n, x, b, by omega, by omega, by omega, by omega, g2, n2, x2, b2⟩
/-- what the Sight has gathered -/
def GS (J : Nat → Nat → Int32) (w : Nat → Int32) (p s : Nat) : Prop := ∃ l, l ≤ 12 ∧ J 142 2 = nI l ∧ (∀ i, i < s → w (78 + i) = nI p → ∀ n, n ≤ 12 → w (83 + i) = nI n → n ≤ l) ∧ ∀ n, n ≤ 12 → ∀ x, x < 32 → (hb (J 143 n) x = true ↔ ∃ i, i < s ∧ w (78 + i) = nI p ∧ w (83 + i) = nI n ∧ w (88 + i) = nI x ∧ ¬ w (93 + i) = 0) ∧ (hb (J 144 n) x = true ↔ ∃ i, i < s ∧ w (78 + i) = nI p ∧ w (83 + i) = nI n ∧ w (88 + i) = nI x ∧ w (93 + i) = 0)
theorem and0 {a b : Int32} : a &&& b = 0 ↔ ∀ x, x < 32 → hb a x = true → hb b x = false := by
  constructor
  · intro h x hx q
    have := congrArg (fun y => hb y x) h
    simp only [hb_and, hb_0, q, Bool.true_and] at this
    exact this
  · intro h
    apply hb_ext
    intro x hx
    rw [hb_and, hb_0]
    cases q : hb a x
    · rfl
    · rw [h x hx q]; rfl
theorem GS.night {J : Nat → Nat → Int32} {w : Nat → Int32} {p s : Nat} (h : GS J w p s) (hR : RW w s) {n : Nat} (hn : n ≤ 12) (m : Int32) : (J 143 n &&& (m ^^^ (-1)) = 0 ∧ J 144 n &&& m = 0) ↔ nightB w p m n s = true := by
  obtain ⟨l, -, -, -, h4⟩ := h
  rw [nightB_iff, and0, and0]
  constructor
  · rintro ⟨q1, q2⟩ i hi
    unfold rowB
    by_cases e : w (78 + i) = nI p ∧ w (83 + i) = nI n
    · rw [if_pos e]
      obtain ⟨g, n', x, b, g1, n1, x1, b1, g2, n2, x2, b2⟩ := hR i hi
      obtain ⟨a1, a2⟩ := h4 n hn x (by omega)
      rw [decide_eq_true_iff, x2, zhas_hb (by omega)]
      by_cases hb0 : w (93 + i) = 0
      · have := q2 x (by omega) (a2.mpr ⟨i, hi, e.1, e.2, x2, hb0⟩)
        rw [this, hb0]
        exact ⟨fun z => absurd z (by decide), fun z => absurd z (by decide)⟩
      · have := q1 x (by omega) (a1.mpr ⟨i, hi, e.1, e.2, x2, hb0⟩)
        rw [hb_not _ (by omega)] at this
        have hm : hb m x = true := by simpa using this
        rw [hm]
        refine ⟨fun _ => ?_, fun _ => rfl⟩
        rw [b2] at hb0 ⊢
        rcases (by omega : b = 0 ∨ b = 1) with rfl | rfl
        · exact absurd rfl hb0
        · rfl
    · rw [if_neg e]
  · intro q
    refine ⟨fun x hx z => ?_, fun x hx z => ?_⟩
    · obtain ⟨i, hi, e1, e2, e3, e4⟩ := ((h4 n hn x hx).1).mp z
      have := q i hi
      unfold rowB at this
      rw [if_pos ⟨e1, e2⟩, decide_eq_true_iff, e3, zhas_hb (by omega)] at this
      obtain ⟨g, n', x', b, g1, n1, x1, b1, g2, n2, x2, b2⟩ := hR i hi
      have h1 : w (93 + i) = 1 := by
        rw [b2] at e4 ⊢
        rcases (by omega : b = 0 ∨ b = 1) with rfl | rfl
        · exact absurd rfl e4
        · rfl
      rw [hb_not _ hx, this.mpr h1]
      rfl
    · obtain ⟨i, hi, e1, e2, e3, e4⟩ := ((h4 n hn x hx).2).mp z
      have := q i hi
      unfold rowB at this
      rw [if_pos ⟨e1, e2⟩, decide_eq_true_iff, e3, zhas_hb (by omega), e4] at this
      cases hm : hb m x
      · rfl
      · exact absurd (this.mp hm) (by decide)
theorem GS.last {J : Nat → Nat → Int32} {w : Nat → Int32} {p s n : Nat} (h : GS J w p s) (hn : n ≤ 12) (hl : J 142 2 < nI n) (m : Int32) : nightB w p m n s = true := by
  obtain ⟨l, l1, l2, l3, -⟩ := h
  rw [l2] at hl
  have hln := (nI_lt_iff (by omega) (by omega)).mp hl
  rw [nightB_iff]
  intro i hi
  unfold rowB
  by_cases e : w (78 + i) = nI p ∧ w (83 + i) = nI n
  · have := l3 i hi e.1 n hn e.2
    omega
  · rw [if_neg e]
theorem ones_back' (cs : List zCl) {p : Nat} (hp : p < 6) (w : Nat → Int32) (k : Nat) : upd (upd (upd (onesV cs p k w) (36 + p) (w (36 + p))) (42 + p) (w (42 + p))) 135 (w 135) = w := by
  have := ones_back cs hp w (w (36 + p)) k
  rw [upd_id] at this
  exact this
section SM
variable {C : zC} {I I' : Nat → Nat → Int32} {L L' : Nat → Nat → Int64} {M : Nat → Nat → Option Nat}
theorem sp_isSeen (d : Nat) {p s k0 v0 t : Nat} (hp : p < 6) {cs : List zCl} (hH : Hs I (I 265 17) cs) (hk : k0 ≤ 6) (ek : cur I (24 + p) = nI k0) (hv : v0 ≤ 1) (ev0 : cur I (48 + p) = nI v0) (hs : s ≤ 5) (es : I 265 26 = nI s) (hR : RW (cur I) s) (K : KI) (hK : ∀ J, MF I J → cur J = cur I → K (zB (seenB (cur I) p (fun n => onesV cs p n (cur I) (36 + p)) s 13)) J L M) : zCI C Y_X11_isSeen (d + 7) [.ref 265, .int (nI p)] (zmk I L M) K := by
  have h6 := vp_in_nI hp (by omega : 6 < 2 ^ 31)
  refine t_X11_isSeen d _ _ ⟨h6, h6, ?_⟩
  rw [nI_clamp (by omega), ← cur_at (I := I) (l_m p hp) (by omega), ← cur_at (I := I) (l_l p hp) (by omega), show I 265 9 = cur I 135 from rfl]
  generalize hf : (fun n => onesV cs p n (cur I) (36 + p)) = f at hK
  have s133 : ∀ (J : Nat → Nat → Int32) (k : Nat) (v : Int32), MF I J → cur J = onesV cs p k (cur I) → v = zB (seenB (cur I) p f s 13) → zSI C (zmk I L M) K Y_X11_isSeen (d + 7) 133 [(0, .ref 265), (1, .int (nI p)), (2, .int (cur I (36 + p))), (3, .int (cur I (42 + p))), (4, .int (cur I 135)), (5, .int v)] [] J L M := by
    rintro J k v hJ hc rfl
    refine t_X11_isSeen_133 d _ _ _ _ _ _ (t_X11_restores (d + 5) _ _ _ _ _ ⟨h6, h6, ?_, ?_⟩)
    · cases seenB (cur I) p f s 13
      · exact Or.inl rfl
      · exact Or.inr rfl
    · rw [nI_clamp (by omega)]
      refine hK _ (fun a j q => ?_) ?_
      · rw [u2_ne _ _ (by omega), u2_n1 _ _ (by omega), u2_n1 _ _ (by omega)]
        exact hJ a j q
      · rw [cur_in' _ (show loc 135 = (265, 9) from rfl) (by omega), cur_in' _ (l_l p hp) (by omega), cur_in' _ (l_m p hp) (by omega), hc]
        exact ones_back' cs hp (cur I) k
  have key : ∀ (k n : Nat) (J : Nat → Nat → Int32), n + k = 13 → MF I J → cur J = onesV cs p (n - 1) (cur I) → zSI C (zmk I L M) K Y_X11_isSeen (d + 7) 26 [(0, .ref 265), (1, .int (nI p)), (2, .int (cur I (36 + p))), (3, .int (cur I (42 + p))), (4, .int (cur I 135)), (5, .int (zB (seenB (cur I) p f s n))), (6, .int (nI n))] [] J L M := by
    intro k
    induction k with
    | zero =>
      intro n J hn hJ hc
      have : n = 13 := by omega
      subst this
      exact t_X11_isSeen_26 d _ _ _ _ _ _ _ (br_t (by decide) (s133 J _ _ hJ hc rfl))
    | succ k ih =>
      intro n J hn hJ hc
      refine t_X11_isSeen_26 d _ _ _ _ _ _ _ (br_f (fun z => by have := (nI_le_iff (a := 13) (b := n) (by omega) (by omega)).mp z; omega) ⟨fun z => ?_, fun z => ?_⟩)
      · refine s133 J _ _ hJ hc ?_
        have hfz : seenB (cur I) p f s n = false := by
          cases e : seenB (cur I) p f s n
          · rfl
          · rw [e] at z; exact absurd z (by decide)
        rw [hfz, seenB_f (cur I) p f s hfz (by omega)]
      · have s51 : ∀ J', MF I J' → cur J' = onesV cs p n (cur I) → zSI C (zmk I L M) K Y_X11_isSeen (d + 7) 51 [(0, .ref 265), (1, .int (nI p)), (2, .int (cur I (36 + p))), (3, .int (cur I (42 + p))), (4, .int (cur I 135)), (5, .int (zB (seenB (cur I) p f s n))), (6, .int (nI n)), (7, .int 0)] [] J' L M := by
          intro J' hJ' hc'
          have em : J' 270 p = f n := by
            rw [← cur_at (I := J') (l_m p hp) (by omega), hc', ← hf]
          refine via (fun zz => ?_) (count_up (P := fun i => zSI C (zmk I L M) K Y_X11_isSeen (d + 7) 51 [(0, .ref 265), (1, .int (nI p)), (2, .int (cur I (36 + p))), (3, .int (cur I (42 + p))), (4, .int (cur I 135)), (5, .int (zB (seenB (cur I) p f s n && nightB (cur I) p (f n) n i))), (6, .int (nI n)), (7, .int (nI i))] [] J' L M) s ?_ ?_ 0 (Nat.zero_le _))
          · have e : (seenB (cur I) p f s n && nightB (cur I) p (f n) n 0) = seenB (cur I) p f s n := Bool.and_true _
            try dsimp only at zz
            rw [e] at zz
            exact zz
          · refine t_X11_isSeen_51 d _ _ _ _ _ _ _ _ (br_t (by rw [hJ' 265 26 (by omega), es]; exact Int32.le_refl _) ?_)
            rw [nI_1]
            exact ih (n + 1) J' (by omega) hJ' hc'
          · intro i hi ihi
            obtain ⟨g, n', x, b, g1, n1, x1, b1, g2, n2, x2, b2⟩ := hR i hi
            have h5 := vp_in_nI (show i < 5 by omega) (by omega : 5 < 2 ^ 31)
            obtain ⟨q1, q2, q3, q4⟩ := l_s i (by omega)
            refine t_X11_isSeen_51 d _ _ _ _ _ _ _ _ (br_f (by rw [hJ' 265 26 (by omega), es]; exact fun z => by have := (nI_le_iff (a := s) (b := i) (by omega) (by omega)).mp z; omega) ⟨h5, ?_⟩)
            rw [nI_clamp (show i < 2 ^ 31 by omega), nI_clamp (show p < 2 ^ 31 by omega), hJ' 282 i (by omega), hJ' 283 i (by omega), hJ' 284 i (by omega), hJ' 285 i (by omega), em, ← cur_at (I := I) q1 (by omega), ← cur_at (I := I) q2 (by omega), ← cur_at (I := I) q3 (by omega), ← cur_at (I := I) q4 (by omega), nI_1]
            unfold nightB at ihi
            rw [← Bool.and_assoc] at ihi
            have skip : ¬ (cur I (78 + i) = nI p ∧ cur I (83 + i) = nI n) → zSI C (zmk I L M) K Y_X11_isSeen (d + 7) 51 [(0, .ref 265), (1, .int (nI p)), (2, .int (cur I (36 + p))), (3, .int (cur I (42 + p))), (4, .int (cur I 135)), (5, .int (zB (seenB (cur I) p f s n && nightB (cur I) p (f n) n i))), (6, .int (nI n)), (7, .int (nI (i + 1)))] [] J' L M := fun q => by
              unfold rowB at ihi
              rw [if_neg q, Bool.and_true] at ihi
              exact ihi
            refine ⟨fun z1 => skip fun q => z1 q.1, fun z1 => ⟨h5, fun z2 => skip fun q => z2 q.2, fun z2 => ⟨h6, h5, h5, fun z3 => ?_, fun z3 => ?_⟩⟩⟩
            · unfold rowB at ihi
              rw [if_pos ⟨z1, z2⟩] at ihi
              refine t_X11_isSeen_115 d _ _ _ _ _ _ _ _ _ _ ?_
              rw [nI_1]
              refine ⟨fun z4 => ?_, fun z4 => ?_⟩
              · rw [decide_eq_true (show (zhas (f n) (cur I (88 + i)) ↔ cur I (93 + i) = 1) from ⟨fun q => absurd q (zb_f z4), fun q => absurd q z3⟩), Bool.and_true] at ihi
                exact ihi
              · rw [decide_eq_false (show ¬ (zhas (f n) (cur I (88 + i)) ↔ cur I (93 + i) = 1) from fun q => z3 (q.mp (zb_t z4))), Bool.and_false] at ihi
                exact ihi
            · unfold rowB at ihi
              rw [if_pos ⟨z1, z2⟩] at ihi
              refine t_X11_isSeen_115 d _ _ _ _ _ _ _ _ _ _ ?_
              rw [nI_1]
              refine ⟨fun z4 => ?_, fun z4 => ?_⟩
              · rw [decide_eq_true (show (zhas (f n) (cur I (88 + i)) ↔ cur I (93 + i) = 1) from ⟨fun _ => z3, fun _ => zb_t (by rw [z4]; decide)⟩), Bool.and_true] at ihi
                exact ihi
              · rw [decide_eq_false (show ¬ (zhas (f n) (cur I (88 + i)) ↔ cur I (93 + i) = 1) from fun q => z4 (by
                  have := q.mpr z3
                  unfold zb
                  rw [if_pos this])), Bool.and_false] at ihi
                exact ihi
        refine ⟨fun z2 => ?_, fun z2 => ?_⟩
        · have : n = 0 := by
            have := (nI_le_iff (a := n) (b := 0) (by omega) (by omega)).mp z2
            omega
          subst this
          exact s51 J hJ hc
        · have hn0 : 0 < n := Nat.pos_of_ne_zero fun q => z2 (by rw [q]; decide)
          have offc : ∀ j, j ≠ 36 + p → j ≠ 42 + p → j ≠ 135 → cur J j = cur I j := fun j j1 j2 j3 => by rw [hc, onesV_off cs _ _ j1 j2 j3]
          refine sp_oneM d hp (cs := cs) (by rw [hJ 265 17 (by omega)]; exact hJ.hs hH) hk (by rw [offc _ (by omega) (by omega) (by omega)]; exact ek) hv (by rw [offc _ (by omega) (by omega) (by omega)]; exact ev0) _ fun J4 a b => ?_
          refine s51 J4 (hJ.tr a) ?_
          rw [b, hc]
          obtain ⟨m, rfl⟩ : ∃ m, n = m + 1 := ⟨n - 1, by omega⟩
          rfl
  exact key 13 0 I rfl MF.rf rfl
end SM
