/-! A NIGHT, of the class -/
theorem min99 (a : Int32) : (if 99 < a then (99 : Int32) else a) = if a < 99 then a else 99 := by
  by_cases h : a < 99
  · rw [if_pos h, if_neg (le_nlt (Int32.le_of_lt h))]
  · rw [if_neg h]
    by_cases h2 : 99 < a
    · rw [if_pos h2]
    · rw [if_neg h2]
      exact Int32.le_antisymm (nlt_le h2) (nlt_le h)
theorem max0 (a : Int32) : (if a < 0 then (0 : Int32) else a) = if 0 < a then a else 0 := by
  by_cases h : 0 < a
  · rw [if_pos h, if_neg (le_nlt (Int32.le_of_lt h))]
  · rw [if_neg h]
    by_cases h2 : a < 0
    · rw [if_pos h2]
    · rw [if_neg h2]
      exact Int32.le_antisymm (nlt_le h) (nlt_le h2)
theorem InnR_upd {P : Nat → Prop} {I : Nat → Nat → Int32} {M : Nat → Nat → Option Nat} {b : Nat} {w : Nat → Int32} (h : InnR P I M b w) {k a j : Nat} (hk : k < 98 ∨ k = 135) (e : cloc b k = (a, j)) (v : Int32) : InnR P (u2 I a j v) M b (upd w k v) := by
  refine ⟨fun i hi hP hl => ?_, by rw [up_n _ _ (by omega)]; exact h.2⟩
  rw [cv_in' _ e (by omega)]
  by_cases q : i = k
  · subst q; rw [up_s, up_s]
  · rw [up_n _ _ q, up_n _ _ q]
    exact h.1 i hi hP ((live_upd v hk i).mp hl)
theorem InnR_w {P : Nat → Prop} {I : Nat → Nat → Int32} {M : Nat → Nat → Option Nat} {b : Nat} {w w' : Nat → Int32} (h : InnR P I M b w) (e : ∀ k, k < 140 → w' k = w k) : InnR P I M b w' := by
  refine ⟨fun k hk hP hl => ?_, by rw [e 139 (by omega)]; exact h.2⟩
  rw [e k (by omega)]
  exact h.1 k hk hP ((live_c (fun k hk => e k (by omega)) k).mp hl)
theorem InnR_fr {P : Nat → Prop} {I J : Nat → Nat → Int32} {M : Nat → Nat → Option Nat} {b : Nat} {w : Nat → Int32} (h : InnR P I M b w) (e : ∀ a j, b ≤ a → a < b + 45 → J a j = I a j) : InnR P J M b w := by
  have : cv J b = cv I b := cv_far fun a h1 h2 => funext fun j => e a j h1 h2
  exact ⟨fun k hk hP hl => by rw [this]; exact h.1 k hk hP hl, h.2⟩
/-- the numbers of an Inn's guests -/
def Nm (I : Nat → Nat → Int32) (b : Nat) : Prop := ∀ g, g < 6 → I (b + 33 + 2 * g) 0 = nI g
/-- what an Inn's nights may write: itself and the Lures -/
def NF (b : Nat) (I J : Nat → Nat → Int32) : Prop := ∀ a j, (a < 163 ∨ 253 ≤ a) → CF b a j → J a j = I a j
theorem NF.rf {b : Nat} {I : Nat → Nat → Int32} : NF b I I := fun _ _ _ _ => rfl
theorem NF.tr {b : Nat} {I J K : Nat → Nat → Int32} (h1 : NF b I J) (h2 : NF b J K) : NF b I K := fun a j h q => (h2 a j h q).trans (h1 a j h q)
theorem NF.nm {b : Nat} {I J : Nat → Nat → Int32} (hb : b < 94) (h : NF b I J) (q : Nm I b) : Nm J b := fun g hg => (h _ _ (by omega) (by unfold CF; omega)).trans (q g hg)
theorem NF.ri {b : Nat} {I J : Nat → Nat → Int32} (hb : b = 3 ∨ b = 93) (h : NF b I J) : rI J = rI I := rI_eq fun a j q => by
  refine h a j (by unfold Ra at q; omega) ?_
  unfold Ra at q
  unfold CF
  omega
theorem NF.hs {b : Nat} {I J : Nat → Nat → Int32} (hb : b = 3 ∨ b = 93) (h : NF b I J) {x : Int32} {cs : List zCl} (q : Hs I x cs) : Hs J x cs := Hs_fr (h.ri hb) q
/-- the Inn b as its nights need it: n guests, the view w0 by which they tempt -/
theorem InnR_gp {P : Nat → Prop} {I : Nat → Nat → Int32} {M : Nat → Nat → Option Nat} {b p : Nat} {w : Nat → Int32} (hP : ∀ k, PN k → P k) (h : InnR P I M b w) (hN : Nm I b) (hp : p < cn (w 134)) (h6 : p < 6) : GP I b (b + 33 + 2 * p) p w := by
  obtain ⟨l1, l2, l3, l4, l5, l6⟩ := live_g hp h6
  have f : ∀ k a j, k < 78 → live w k → cloc b k = (a, j) → I a j = w k := fun k a j hk hl e => by
    rw [← cv_at (I := I) e (by omega)]
    exact h.1 k (by omega) (hP k (Or.inl hk)) hl
  exact ⟨fun x hx => f x _ _ (by omega) (by unfold live; omega) (c_w b hx), hN p h6, f _ _ _ (by omega) l1 (c_k b h6), f _ _ _ (by omega) l2 (c_v b h6), f _ _ _ (by omega) l4 (c_l b h6), f _ _ _ (by omega) l5 (c_i b h6), fun k hk => f _ _ _ (by omega) (l6 k hk) (c_r b h6 hk)⟩
theorem GP_w {I : Nat → Nat → Int32} {b g p : Nat} {w w' : Nat → Int32} (hp : p < 6) (h : GP I b g p w) (e : ∀ k, k < 36 ∧ (k < 12 ∨ 24 ≤ k) ∨ k = 42 + p ∨ (48 ≤ k ∧ k < 78) → w' k = w k) : GP I b g p w' := by
  obtain ⟨q1, q2, q3, q4, q5, q6, q7⟩ := h
  exact ⟨fun x hx => by rw [e _ (by omega)]; exact q1 x hx, q2, by rw [e _ (by omega)]; exact q3, by rw [e _ (by omega)]; exact q4, by rw [e _ (by omega)]; exact q5, by rw [e _ (by omega)]; exact q6, fun k hk => by rw [e _ (by omega)]; exact q7 k hk⟩
theorem temV_congr {w w' : Nat → Int32} (cs : List zCl) {p x : Nat} (n : Int32) (e1 : w' x = w x) (e2 : w' (24 + p) = w (24 + p)) (e3 : w' (30 + p) = w (30 + p)) (e4 : zhas (w' (42 + p)) (nI x) ↔ zhas (w (42 + p)) (nI x)) (e5 : ∀ k, k < 4 → w' (54 + (4 * p + k)) = w (54 + (4 * p + k))) : temV w' cs p x n = temV w cs p x n := by
  have ef : ft w' p x n = ft w p x n := by unfold ft; rw [e1, e2, e3]
  have es : sumV w' cs p x n = sumV w cs p x n := by unfold sumV; rw [ef, e1]
  unfold temV lovV thiV
  rw [es, e1, e2, e3, e5 _ (Nat.mod_lt _ (by omega))]
  by_cases q : zhas (w (42 + p)) (nI x)
  · rw [if_pos q, if_pos (e4.mpr q)]
  · rw [if_neg q, if_neg (fun z => q (e4.mp z))]
theorem hb_zwo (b : Int32) {y k : Nat} (hy : y < 12) (hk : k < 32) : hb (zwo b (nI y)) k = (hb b k && !decide (k = y)) := by
  rw [zwo_y b hy, hb_and, hb_not _ hk, hb_one (by omega)]
theorem hb_zor_ (b : Int32) {y k : Nat} (hy : y < 12) : hb (zor_ b (nI y)) k = (hb b k || decide (k = y)) := by
  unfold zor_
  rw [if_neg (m5_ne y hy), hb_or, hb_one (by omega)]
/-- behind a night the rankings hold for what is still meant -/
theorem LV_night {I : Nat → Nat → Int32} {o p B inns : Nat} {w : Nat → Int32} {cs : List zCl} (hW : Wok B inns w) (hp : p < cn (w 134)) (h : LV I o (LG w cs p) (w (36 + p))) : LV I o (LG (nightV cs w) cs p) (nightV cs w (36 + p)) := by
  obtain ⟨n, n1, n2, n3⟩ := hW.n
  obtain ⟨m1, m2⟩ := nightV_m cs (w := w) (by omega) hp
  rw [m1]
  have off : ∀ j, j < 12 ∨ (24 ≤ j ∧ j < 36) ∨ (48 ≤ j ∧ j ≠ 135) → nightV cs w j = w j := fun j hj => nightV_off cs (by omega) hj
  intro t ht
  rcases h t ht with a | ⟨r, a1, a2, a3, a4, a5⟩
  · exact Or.inl a
  · refine Or.inr ⟨r, a1, a2, a3, a4, fun mm hm => ?_⟩
    have hsub : ∀ k, k < 12 → hb (zwo (w (36 + p)) (pyV cs w p)) k = true → hb (w (36 + p)) k = true ∧ (hb (zor_ (w (42 + p)) (pyV cs w p)) k = hb (w (42 + p)) k) := by
      intro k hk hq
      rcases pyV_ok cs w p with e | ⟨y, hy, e⟩
      · rw [e, zwo_m] at hq
        rw [e]
        exact ⟨hq, by unfold zor_; rw [if_pos rfl]⟩
      · rw [e, hb_zwo _ hy (by omega)] at hq
        rw [e, hb_zor_ _ hy]
        simp only [Bool.and_eq_true, Bool.not_eq_true', decide_eq_false_iff_not] at hq
        exact ⟨hq.1, by rw [decide_eq_false hq.2, Bool.or_false]⟩
    rw [a5 mm fun k hk hq => (hsub k hk (hm k hk hq)).1]
    refine pk_congr (fun x hx => rfl) fun x hx hq => ?_
    refine (temV_congr cs _ (off _ (by omega)) (off _ (by omega)) (off _ (by omega)) ?_ fun k hk => off _ (by omega)).symm
    rw [m2, zhas_hb (by omega), zhas_hb (by omega), (hsub x hx (hm x hx hq)).2]
def LMs (M : Nat → Nat → Option Nat) (b n : Nat) : Prop := ∀ p, p < n → M (163 + 15 * p) 0 = some b ∧ M (163 + 15 * p) 1 = some (b + 33 + 2 * p)
section SM
variable {C : zC} {I I' : Nat → Nat → Int32} {L L' : Nat → Nat → Int64} {M : Nat → Nat → Option Nat}
theorem sp_lgC (d : Nat) {P : Nat → Prop} {b : Nat} {w : Nat → Int32} (hb : zInn b) (hb2 : b < 94) (hP : ∀ k, PN k → P k) (hI : InnR P I M b w) (K : (Nat → Nat → Int32) → (Nat → Nat → Int64) → (Nat → Nat → Option Nat) → Prop) (hK : ∀ J, (∀ a j, a ≠ b + 2 → J a j = I a j) → InnR P J M b (lgP w 12) → K J L M) : zCV C Y_X2_letGo (d + 1) [.ref b] (zmk I L M) K := by
  refine t_X2_letGo d hb _ ?_
  refine count_st (P := fun y J => zSV C (zmk I L M) K Y_X2_letGo (d + 1) 2 [(0, .ref b), (1, .int (nI y))] [] J L M) (J := fun y J => (∀ a j, a ≠ b + 2 → J a j = I a j) ∧ InnR P J M b (lgP w y)) 12 ?_ ?_ 0 I (Nat.zero_le _) ⟨fun _ _ _ => rfl, by rw [lgP_0]; exact hI⟩
  · intro J h
    exact t_X2_letGo_2 d hb _ _ (br_t (by decide) (hK J h.1 h.2))
  · intro y J hy h ih
    have hlt : ¬ (12 : Int32) ≤ nI y := fun z => by have := (nI_le_iff (a := 12) (b := y) (by omega) (by omega)).mp z; omega
    have hin := vp_in_nI hy (by omega : 12 < 2 ^ 31)
    refine t_X2_letGo_2 d hb _ _ (br_f hlt ⟨hin, hin, ?_⟩)
    rw [nI_clamp (by omega), nI_1, max0]
    have e : J (b + 2) y = w (12 + y) := by
      rw [← cv_at (I := J) (c_c b hy) (by omega), h.2.1 (12 + y) (by omega) (hP _ (Or.inl (by omega))) (by unfold live; omega)]
      exact lgP_out _ (by omega)
    rw [e]
    refine ih _ ⟨fun a j q => ?_, by rw [lgP_s]; exact InnR_upd h.2 (by omega) (c_c b hy) _⟩
    · rw [u2_n1 _ _ q]
      exact h.1 a j q
theorem sp_nightC (d : Nat) {P : Nat → Prop} {b B inns : Nat} {w : Nat → Int32} {cs : List zCl} (hb : b = 3 ∨ b = 93) (hP : ∀ k, PN k → P k) (hW : Wok B inns w) (hB : B < 1000000) (hI : InnR P I M b w) (hH : Hs I (w 139) cs) (hN : Nm I b) (hM : LMs M b (cn (w 134))) (hV0 : ∀ p, p < cn (w 134) → LV I (163 + 15 * p) (LG w cs p) (w (36 + p))) (K : (Nat → Nat → Int32) → (Nat → Nat → Int64) → (Nat → Nat → Option Nat) → Prop) (hK : ∀ J, NF b I J → InnR P J M b (nightV cs w) → (∀ p, p < cn (w 134) → LV J (163 + 15 * p) (LG (nightV cs w) cs p) (nightV cs w (36 + p))) → K J L M) : zCV C Y_X10_goNight (d + 5) [.ref 0, .ref b] (zmk I L M) K := by
  have hbi : zInn b := by rcases hb with rfl | rfl; exact i0; exact i2
  have hb2 : b < 94 := by omega
  obtain ⟨n, n1, n2, n3⟩ := hW.n
  obtain ⟨t, t1, t2⟩ := hW.t
  have hX := pyV_ok cs w
  have lt_n : ∀ y, y < n → ¬ nI n ≤ nI y := fun y hy z => by have := (nI_le_iff (a := n) (b := y) (by omega) (by omega)).mp z; omega
  have at134 : ∀ {J : Nat → Nat → Int32} {w' : Nat → Int32}, InnR P J M b w' → J b 3 = w' 134 ∧ J b 4 = w' 135 := fun h => ⟨h.1 134 (by omega) (hP _ (by omega)) (by unfold live; omega), h.1 135 (by omega) (hP _ (by omega)) (by unfold live; omega)⟩
  refine t_X10_goNight d hbi _ ?_
  refine count_st (P := fun y J => zSV C (zmk I L M) K Y_X10_goNight (d + 5) 2 [(0, .ref 0), (1, .ref b), (2, .int (nI y))] [] J L M) (J := fun y J => NF b I J ∧ InnR P J M b (tksV (pyV cs w) w y) ∧ ∀ p, p < n → LV J (163 + 15 * p) (LG w cs p) (w (36 + p))) n ?_ ?_ 0 I (Nat.zero_le _) ⟨NF.rf, hI, fun p hp => hV0 p (by omega)⟩
  · rintro J ⟨hF, hR, hV⟩
    obtain ⟨a1, a2⟩ := at134 hR
    rw [tksV_far hX (by omega) (by omega)] at a1 a2
    have hHJ := hF.hs hb hH
    obtain ⟨s1, s2, s3, s4, s5, s6, s7, s8⟩ := hHJ.sw
    have e139 : tksV (pyV cs w) w n 139 = w 139 := tksV_far hX (by omega) (by omega)
    have hM5 : M b 5 = some (hid (w 139)) := by rw [← e139]; exact hR.2
    have hF2 : NF b I (u2 J b 4 (J b 4 + 1)) := fun a j q q2 => by
      unfold CF at q2
      rw [u2_n1 _ _ (by omega)]
      exact hF a j q (by unfold CF; omega)
    have hR2 : InnR P (u2 J b 4 (J b 4 + 1)) M b (midV cs w) := by
      rw [a2]
      unfold midV
      rw [n3]
      exact InnR_upd hR (by omega) (cloc_of (b := b) (k := 135) rfl) _
    have hV2 : ∀ J', (∀ a j, 163 ≤ a → a < 253 → J' a j = J a j) → ∀ p, p < cn (w 134) → LV J' (163 + 15 * p) (LG (nightV cs w) cs p) (nightV cs w (36 + p)) := fun J' hJ' p hp => by
      refine LV_night hW hp fun t ht => ?_
      rcases hV p (by omega) t ht with a | ⟨r, q1, q2, q3, q4, q5⟩
      · exact Or.inl ((hJ' _ _ (by omega) (by omega)).trans a)
      · exact Or.inr ⟨r, q1, q2, (hJ' _ _ (by omega) (by omega)).trans q3, fun i hi => (hJ' _ _ (by omega) (by omega)).trans (q4 i hi), q5⟩
    have eh : u2 J b 4 (J b 4 + 1) (hid (w 139)) 0 = nI (kpC cs) := by
      rw [u2_ne _ _ (by
        by_cases q : hid (w 139) = b
        · right; omega
        · exact Or.inl q)]
      exact s4
    have e44 : u2 J b 4 (J b 4 + 1) b 4 = w 135 + 1 := by rw [u2_same, a2]
    refine t_X10_goNight_2 d hbi _ _ (br_t (by rw [a1, n2]; exact Int32.le_refl _) ⟨_, hM5, s1, ?_⟩)
    rw [eh, e44]
    have fin : (kpC cs = 0 ∨ ¬ (w 135 + 1 - (w 135 + 1) / nI (kpC cs) * nI (kpC cs) = 0)) → K (u2 J b 4 (J b 4 + 1)) L M := fun q => by
      refine hK _ hF2 ?_ (hV2 _ fun a j h1 h2 => u2_n1 _ _ (by omega))
      unfold nightV
      rw [if_pos q]
      exact hR2
    refine ⟨fun z => fin (Or.inl ?_), fun z => ⟨_, hM5, s1, fun z2 => z (by rw [← eh, z2]; exact Int32.le_refl _), fun z2 => fin (Or.inr (by rw [← eh]; exact z2)), fun z2 => ?_⟩⟩
    · have := (nI_le_iff (a := kpC cs) (b := 0) (by omega) (by omega)).mp z
      omega
    · refine sp_lgC (d + 3) hbi hb2 hP hR2 _ fun J' h1 h2 => ?_
      refine hK _ (hF2.tr fun a j q1 q2 => h1 a j (by unfold CF at q2; omega)) ?_ (hV2 _ fun a j q1 q2 => (h1 a j (by omega)).trans (u2_n1 _ _ (by omega)))
      · unfold nightV
        rw [if_neg]
        · exact h2
        · rintro (q | q)
          · exact z (by rw [q]; exact Int32.le_refl _)
          · exact q (by rw [← eh]; exact z2)
  · rintro y J hy ⟨hF, hR, hV⟩ ih
    obtain ⟨a1, a2⟩ := at134 hR
    rw [tksV_far hX (by omega) (by omega)] at a1 a2
    have h6 := vp_in_nI (show y < 6 by omega) (by omega : 6 < 2 ^ 31)
    have hNJ := hF.nm hb2 hN
    have e139 : tksV (pyV cs w) w y 139 = w 139 := tksV_far hX (by omega) (by omega)
    have e134 : tksV (pyV cs w) w y 134 = w 134 := tksV_far hX (by omega) (by omega)
    obtain ⟨l1, l2, l3, l4, l5, l6⟩ := live_g (w := tksV (pyV cs w) w y) (g := y) (by rw [e134]; omega) (by omega)
    have gp : GP J b (b + 33 + 2 * y) y w := GP_w (by omega) (InnR_gp hP hR hNJ (by rw [e134]; omega) (by omega)) fun k hk => (tksV_off hX y (by omega) fun p hp => by omega).symm
    have e3 : J (b + 33 + 2 * y) 3 = w (36 + y) := by
      rw [← cv_at (I := J) (c_m b (x := y) (by omega)) (by omega), hR.1 _ (by omega) (hP _ (Or.inl (by omega))) l3]
      exact tksV_off hX y (by omega) fun p hp => by omega
    have e4 : J (b + 33 + 2 * y) 4 = w (42 + y) := gp.2.2.2.2.1
    have hLU : LU J M (163 + 15 * y) b (b + 33 + 2 * y) y w cs := ⟨hL y (by omega), hbi, gI hbi y (by omega), (hM y (by omega)).1, (hM y (by omega)).2, ⟨w 139, by rw [← e139]; exact hR.2, hF.hs hb hH⟩, gp, hW.gb (by omega), by omega, by omega, by omega, hb2, by omega⟩
    refine t_X10_goNight_2 d hbi _ _ (br_f (by rw [a1, n2]; exact lt_n y hy) ⟨h6, h6, ?_⟩)
    rw [nI_clamp (by omega), e3, a2, t2, nI_1]
    refine sp_preyC d hLU (by omega) (hV y hy) _ (fun k hk q => q) _ fun J1 h1 hV1 => ?_
    have hX1 : preyV w cs y (w (36 + y)) (nI t) = pyV cs w y := by unfold pyV; rw [t2]
    rw [hX1]
    have hF1 : NF b I J1 := fun a j q q2 => (h1 a j (by omega)).trans (hF a j q q2)
    have hR1 : InnR P J1 M b (tksV (pyV cs w) w y) := InnR_fr hR fun a j q q2 => h1 a j (by omega)
    have hVV : ∀ p, p < n → LV J1 (163 + 15 * p) (LG w cs p) (w (36 + p)) := fun p hp => by
      by_cases q : p = y
      · subst q; exact hV1
      · intro t ht
        rcases hV p hp t ht with a | ⟨r, q1, q2, q3, q4, q5⟩
        · exact Or.inl ((h1 _ _ (by omega)).trans a)
        · exact Or.inr ⟨r, q1, q2, (h1 _ _ (by omega)).trans q3, fun i hi => (h1 _ _ (by omega)).trans (q4 i hi), q5⟩
    rcases hX y with e | ⟨x, hx, e⟩
    · have e2 : tksV (pyV cs w) w (y + 1) = tksV (pyV cs w) w y := by
        show tkV _ y (pyV cs w y) = _
        rw [e, tkV_m]
      rw [e2] at ih
      rw [e]
      exact br_f' (by decide) (ih J1 ⟨hF1, hR1, hVV⟩)
    · have e2 : tksV (pyV cs w) w (y + 1) = tkV (tksV (pyV cs w) w y) y (nI x) := by
        show tkV _ y (pyV cs w y) = _
        rw [e]
      rw [e2, tkV_y _ _ hx] at ih
      rw [e]
      have h12 := vp_in_nI hx (by omega : 12 < 2 ^ 31)
      refine br_t' ⟨nI_pos' (by omega), (nI_lt_iff (b := 12) (by omega) (by omega)).mpr hx⟩ ⟨h6, t_X2_take (d + 3) _ hbi (gI hbi y (by omega)) _ ⟨h12, h12, ?_⟩⟩
      rw [nI_clamp (show x < 2 ^ 31 by omega), min99]
      have f3 : J1 (b + 33 + 2 * y) 3 = tksV (pyV cs w) w y (36 + y) := by
        rw [← cv_at (I := J1) (c_m b (x := y) (by omega)) (by omega)]
        exact hR1.1 _ (by omega) (hP _ (Or.inl (by omega))) l3
      have f4 : J1 (b + 33 + 2 * y) 4 = tksV (pyV cs w) w y (42 + y) := by
        rw [← cv_at (I := J1) (c_l b (x := y) (by omega)) (by omega)]
        exact hR1.1 _ (by omega) (hP _ (Or.inl (by omega))) l4
      have f5 : J1 (b + 2) x = tksV (pyV cs w) w y (12 + x) := by
        rw [← cv_at (I := J1) (c_c b hx) (by omega)]
        exact hR1.1 _ (by omega) (hP _ (Or.inl (by omega))) (by unfold live; omega)
      simp (disch := omega) only [u2_same, u2_n1, u2_n2, not_true_eq_false, not_false_eq_true, false_implies, true_implies, forall_const, true_and, and_true, and_self, implies_true, f3, f4, f5]
      refine ih _ ⟨fun a j q q2 => ?_, ?_, fun p hp t ht => ?_⟩
      · unfold CF at q2
        rw [u2_n1 _ _ (by omega), u2_ne _ _ (by omega), u2_ne _ _ (by omega)]
        exact hF1 a j q (by unfold CF; omega)
      · exact InnR_upd (InnR_upd (InnR_upd hR1 (by omega) (c_m b (by omega)) _) (by omega) (c_l b (by omega)) _) (by omega) (c_c b hx) _
      · rcases hVV p hp t ht with a | ⟨r, q1, q2, q3, q4, q5⟩
        · left
          rw [u2_n1 _ _ (by omega), u2_n1 _ _ (by omega), u2_n1 _ _ (by omega)]
          exact a
        · refine Or.inr ⟨r, q1, q2, ?_, fun i hi => ?_, q5⟩
          · rw [u2_n1 _ _ (by omega), u2_n1 _ _ (by omega), u2_n1 _ _ (by omega)]
            exact q3
          · rw [u2_n1 _ _ (by omega), u2_n1 _ _ (by omega), u2_n1 _ _ (by omega)]
            exact q4 i hi
end SM
