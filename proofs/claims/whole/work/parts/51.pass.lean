/-! NIGHTS, side by side -/
def mbaV (w : Nat → Int32) : Nat → Int32
  | 0 => 0
  | k + 1 => mbaV w k + zbc (w (36 + k))
def stoV (w : Nat → Int32) : Nat → Int32
  | 0 => 0
  | k + 1 => stoV w k + w (12 + k)
abbrev KV : Type := (Nat → Nat → Int32) → (Nat → Nat → Int64) → (Nat → Nat → Option Nat) → Prop
/-- the Inn b, some nights on: its view w, its Lures good -/
def NS (I0 : Nat → Nat → Int32) (b : Nat) (P : Nat → Prop) (cs : List zCl) (n : Nat) (M : Nat → Nat → Option Nat) (w : Nat → Int32) (J : Nat → Nat → Int32) : Prop := NF b I0 J ∧ InnR P J M b w ∧ ∀ p, p < n → LV J (163 + 15 * p) (LG w cs p) (w (36 + p))
theorem Wok_tight {B inns t : Nat} {w : Nat → Int32} (h : Wok B inns w) (e : w 135 = nI t) : Wok t inns w := by
  refine ⟨fun k hk hl => ?_, h.2⟩
  by_cases q : k = 135
  · subst q; exact ⟨t, Nat.le_refl _, e⟩
  · rw [ub_B (B' := B) q]; exact h.1 k hk hl
theorem Inv.nm {I : Nat → Nat → Int32} {L : Nat → Nat → Int64} {M : Nat → Nat → Option Nat} (h : Inv I L M) : Nm I 3 ∧ Nm I 93 := by
  obtain ⟨-, -, hN, -⟩ := h
  refine ⟨fun g hg => ?_, fun g hg => ?_⟩
  · have := (hN g hg).1
    rw [rI_at (by unfold Ra; omega)] at this
    rw [show 3 + 33 + 2 * g = 36 + 2 * g by omega]
    exact this
  · have := (hN g hg).2.2
    rw [rI_at (by unfold Ra; omega)] at this
    rw [show 93 + 33 + 2 * g = 126 + 2 * g by omega]
    exact this
/-- a call that leaves the view as w' on both sides -/
theorem Inv_to {I J : Nat → Nat → Int32} {L : Nat → Nat → Int64} {M M' : Nat → Nat → Option Nat} {w' : Nat → Int32} (h : Inv I L M) (e1 : rI J = rI I) (e2 : cur J = w') (e3 : InnR PA J M' 3 w') (e4 : Wok 9999 (cn (I 265 16)) w') (e5 : M' 48 5 = M 48 5) : Inv J L M' := by
  have e16 : J 265 16 = I 265 16 := by rw [← rI_at (I := J) (a := 265) (j := 16) (by unfold Ra; omega), e1, rI_at (by unfold Ra; omega)]
  obtain ⟨-, -, hR⟩ := h
  refine ⟨by rw [e2, e16]; exact e4, by rw [e2]; exact e3, ?_⟩
  rw [e1, e5]
  exact hR
/-- a call that leaves the view as it is -/
theorem Inv_same {I J : Nat → Nat → Int32} {L : Nat → Nat → Int64} {M M' : Nat → Nat → Option Nat} (h : Inv I L M) (e1 : rI J = rI I) (e2 : cur J = cur I) (e3 : cv J 3 = cv I 3) (e4 : M' 3 5 = M 3 5) (e5 : M' 48 5 = M 48 5) : Inv J L M' := by
  refine Inv_to h e1 e2 ⟨fun k hk hP hl => ?_, by rw [e4]; exact h.2.1.2⟩ h.1 e5
  rw [e3]
  exact h.2.1.1 k hk hP hl
section SM
variable {C : zC} {I I' : Nat → Nat → Int32} {L L' : Nat → Nat → Int64} {M : Nat → Nat → Option Nat}
theorem sp_nightNS (d : Nat) {I0 J : Nat → Nat → Int32} {P : Nat → Prop} {b B inns n : Nat} {w : Nat → Int32} {cs : List zCl} (hb : b = 3 ∨ b = 93) (hP : ∀ k, PN k → P k) (hW : Wok B inns w) (hB : B < 1000000) (hH : Hs I0 (w 139) cs) (hN : Nm I0 b) (hM : LMs M b n) (hn : cn (w 134) = n) (h : NS I0 b P cs n M w J) (K : KV) (hK : ∀ J', NS I0 b P cs n M (nightV cs w) J' → K J' L M) : zCV C Y_X10_goNight (d + 5) [.ref 0, .ref b] (zmk J L M) K := by
  subst hn
  obtain ⟨h1, h2, h3⟩ := h
  exact sp_nightC d hb hP hW hB h2 (h1.hs hb hH) (h1.nm (by omega) hN) hM h3 K fun J' a1 a2 a3 => hK J' ⟨h1.tr a1, a2, a3⟩
theorem sp_settle (d : Nat) {b n : Nat} (hb : zInn b) (hb2 : b < 94) (hn : n ≤ 6) (e : I b 3 = nI n) (K : KV) (hK : ∀ J M', (∀ a j, a < 163 ∨ 253 ≤ a → J a j = I a j) → (∀ a j, a < 163 ∨ 253 ≤ a → M' a j = M a j) → LMs M' b n → (∀ p t, p < n → t < 10 → J (163 + 15 * p + 12) t = -1) → K J L M') : zCV C Y_X10_settle (d + 3) [.ref 0, .ref b] (zmk I L M) K := by
  refine t_X10_settle d hb _ ?_
  refine count_st (σ := (Nat → Nat → Int32) × (Nat → Nat → Option Nat)) (P := fun y s => zSV C (zmk I L M) K Y_X10_settle (d + 3) 2 [(0, .ref 0), (1, .ref b), (2, .int (nI y))] [] s.1 L s.2) (J := fun y s => (∀ a j, a < 163 ∨ 253 ≤ a → s.1 a j = I a j) ∧ (∀ a j, a < 163 ∨ 253 ≤ a → s.2 a j = M a j) ∧ LMs s.2 b y ∧ ∀ p t, p < y → t < 10 → s.1 (163 + 15 * p + 12) t = -1) n ?_ ?_ 0 (I, M) (Nat.zero_le _) ⟨fun _ _ _ => rfl, fun _ _ _ => rfl, fun p hp => absurd hp (by omega), fun p t hp => absurd hp (by omega)⟩
  · rintro ⟨J, M'⟩ ⟨a1, a2, a3, a4⟩
    exact t_X10_settle_2 d hb _ _ (br_t (by rw [a1 b 3 (by omega), e]; exact Int32.le_refl _) (hK J M' a1 a2 a3 a4))
  · rintro y ⟨J, M'⟩ hy ⟨a1, a2, a3, a4⟩ ih
    have h6 := vp_in_nI (show y < 6 by omega) (by omega : 6 < 2 ^ 31)
    refine t_X10_settle_2 d hb _ _ (br_f (by rw [a1 b 3 (by omega), e]; exact fun z => by have := (nI_le_iff (a := n) (b := y) (by omega) (by omega)).mp z; omega) ⟨h6, h6, ?_⟩)
    rw [nI_clamp (by omega), nI_1]
    refine sp_settle1 d (hL y (by omega)) hb (gI hb y (by omega)) _ fun J1 b1 b2 => ih (J1, _) ⟨fun a j ha => (b1 a j (by omega)).trans (a1 a j ha), fun a j ha => ?_, fun p hp => ?_, fun p t hp ht => ?_⟩
    · show u2 (u2 M' _ _ _) _ _ _ a j = _
      rw [u2_n1 _ _ (by omega), u2_n1 _ _ (by omega)]
      exact a2 a j ha
    · show u2 (u2 M' _ _ _) _ _ _ (163 + 15 * p) 0 = _ ∧ u2 (u2 M' _ _ _) _ _ _ (163 + 15 * p) 1 = _
      by_cases q : p = y
      · subst q
        rw [u2_same, u2_n2 _ _ (by omega), u2_same]
        exact ⟨rfl, rfl⟩
      · rw [u2_n1 _ _ (by omega), u2_n1 _ _ (by omega), u2_n1 _ _ (by omega), u2_n1 _ _ (by omega)]
        exact a3 p (by omega)
    · by_cases q : p = y
      · subst q; exact b2 t ht
      · exact (b1 _ _ (by omega)).trans (a4 p t (by omega) ht)
theorem NS_0 {J : Nat → Nat → Int32} {M' : Nat → Nat → Option Nat} {P : Nat → Prop} {b n : Nat} {w : Nat → Int32} {cs : List zCl} (hb : b < 94) (h : InnR P I M b w) (h1 : ∀ a j, a < 163 ∨ 253 ≤ a → J a j = I a j) (h2 : ∀ a j, a < 163 ∨ 253 ≤ a → M' a j = M a j) (h3 : ∀ p t, p < n → t < 10 → J (163 + 15 * p + 12) t = -1) : NS I b P cs n M' w J := by
  refine ⟨fun a j q _ => h1 a j q, ?_, fun p hp t ht => Or.inl (h3 p t hp ht)⟩
  have := InnR_fr h (J := J) fun a j q1 q2 => h1 a j (by omega)
  exact ⟨this.1, by rw [h2 b 5 (by omega)]; exact this.2⟩
theorem pr_pass (d : Nat) (h : Inv I L M) (x1 : Int32) : PrI C Y_X10_pass Y_X11_pass (d + 12) [.int x1] I L M := by
  obtain ⟨cs, hH⟩ := h.hs
  obtain ⟨n, n1, n2, n3, n4⟩ := h.n
  obtain ⟨t, t1, t2⟩ := h.1.t
  have t2' : I 265 9 = nI t := t2
  have t3 : I 3 4 = nI t := (h.at (k := 135) (by omega) (by unfold live; omega) rfl rfl).trans t2'
  have hWt := Wok_tight h.1 t2
  refine t_X10_pass (d + 6) x1 _ ⟨fun q => ⟨fun q2 => ?_, fun q2 => ?_⟩, fun q => ?_⟩
  · obtain ⟨k, hk, rfl⟩ := rgle 60 (by omega) q.1 q.2
    have htk : t + k ≤ 9999 := by
      rw [t3, nI_add] at q2
      exact (nI_le_iff (a := t + k) (b := 9999) (by omega) (by omega)).mp q2
    refine sp_settle (d + 8) i0 (by omega) n1 n3 _ fun J M' a1 a2 a3 a4 => ?_
    have hns : NS I 3 PA cs n M' (cur I) J := NS_0 (by omega) h.2.1 a1 a2 a4
    refine count_st (P := fun y J => zSI C (zmk I L M) _ Y_X10_pass (d + 12) 40 [(0, .ref 0), (1, .int (nI k)), (2, .int (nI y))] [] J L M') (J := fun y J => NS I 3 PA cs n M' (nightsV cs y (cur I)) J) k ?_ ?_ 0 J (Nat.zero_le _) hns
    · intro J1 h1
      refine t_X10_pass_40 (d + 6) _ _ _ (br_t (Int32.le_refl _) ?_)
      have f : ∀ a j, 265 ≤ a → J1 a j = I a j := fun a j ha => h1.1 a j (by omega) (by unfold CF; omega)
      have ecu : cur J1 = cur I := cur_low fun a ha => funext fun j => f a j ha
      have e34 : J1 3 4 = nI (t + k) := by
        rw [← nightsV_t cs t2 k]
        exact h1.2.1.1 135 (by omega) trivial (by unfold live; omega)
      refine t_X11_pass (d + 5) _ _ (br_t q (br_t (by rw [f 265 9 (by omega), t2', nI_add]; exact (nI_le_iff (a := t + k) (b := 9999) (by omega) (by omega)).mpr htk) ?_))
      refine count_st (P := fun y J => zSI C (zmk J1 L M') _ Y_X11_pass (d + 12) 30 [(0, .ref 265), (1, .int (nI k)), (2, .int (nI y))] [] J L M') (J := fun y J => MF J1 J ∧ cur J = nightsV cs y (cur I)) k ?_ ?_ 0 J1 (Nat.zero_le _) ⟨MF.rf, ecu⟩
      · intro J2 h2
        refine t_X11_pass_30 (d + 5) _ _ _ (br_t (Int32.le_refl _) ⟨?_, ?_⟩)
        · rw [e34, ← nightsV_t cs t2 k, ← h2.2]; rfl
        · refine Inv_to h (h2.1.ri.trans (h1.1.ri (Or.inl rfl))) h2.2 (InnR_fr h1.2.1 fun a j _ _ => h2.1 a j (by omega)) (Wok_B (Wok_nights cs hWt k) htk) (a2 48 5 (by omega))
      · intro y J2 hy h2 ih
        refine t_X11_pass_30 (d + 5) _ _ _ (br_f (fun z => by have := (nI_le_iff (a := k) (b := y) (by omega) (by omega)).mp z; omega) ?_)
        have hw := Wok_nights cs hWt y
        refine sp_nightM (d + 5) (cs := cs) (by
          rw [h2.1 265 17 (by omega), f 265 17 (by omega)]
          exact h2.1.hs (h1.1.hs (Or.inl rfl) hH)) (by rw [h2.2]; exact hw) _ fun J3 c1 c2 => ?_
        rw [nI_1]
        exact ih J3 ⟨h2.1.tr c1, by rw [c2, h2.2]; rfl⟩
    · intro y J1 hy h1 ih
      refine t_X10_pass_40 (d + 6) _ _ _ (br_f (fun z => by have := (nI_le_iff (a := k) (b := y) (by omega) (by omega)).mp z; omega) ?_)
      rw [nI_1]
      refine sp_nightNS (d + 6) (Or.inl rfl) (fun _ _ => trivial) (Wok_nights cs hWt y) (by omega) (by rw [nightsV_off cs h.1 y (by omega)]; exact hH) h.nm.1 a3 (by rw [nightsV_off cs h.1 y (by omega)]; exact n4) h1 _ fun J' hJ' => ih J' hJ'
  · refine t_X11_pass (d + 5) _ _ (br_t q (br_f (by rw [t2', ← t3]; exact q2) ⟨rfl, h⟩))
  · exact t_X11_pass (d + 5) _ _ (br_f q ⟨rfl, h⟩)
/-- THE TRIAL INN, some nights behind now -/
theorem sp_trial (d : Nat) (h : Inv I L M) {n : Nat} (hn : cn (cur I 134) = n) (cs : List zCl) (K : KV) (hK : ∀ J M', NS I 93 PN cs n M' (cur I) J → LMs M' 93 n → M' 3 5 = M 3 5 → M' 48 5 = M 48 5 → K J L M') : zCV C Y_X2_goOnFrom (d + 5) [.ref 93, .ref 3] (zmk I L M) (fun I1 L1 M1 => zCV C Y_X10_settle (d + 5) [.ref 0, .ref 93] (zmk I1 L1 M1) K) := by
  obtain ⟨n', n1, n2, n3, n4⟩ := h.n
  have hnn : n' = n := n4.symm.trans hn
  subst hnn
  have hinns : cn (I 265 16) ≤ 6 := by
    obtain ⟨-, -, -, -, ⟨hc, cd, a1, a2, a3, a4, -⟩, -⟩ := h
    rw [rI_at (by unfold Ra; omega)] at a4
    rw [a4, cn_nI (by omega)]
    exact a1
  refine sp_go (d + 3) i2 i0 (by omega) n1 n3 (fun g hg => ?_) h.2.1.2 (hid_ho hinns h.1.2.2) _ fun J1 h1 => ?_
  · obtain ⟨-, -, -, -, l5, -⟩ := live_g (w := cur I) (g := g) (by omega) (by omega)
    obtain ⟨v, hv, ev⟩ := h.1.1 (48 + g) (by omega) l5
    rw [u_i _ g (by omega)] at hv
    have := h.2.1.1 (48 + g) (by omega) trivial l5
    rw [cv_at (c_i 3 (by omega)) (by omega), ev] at this
    rw [this]
    rcases (by omega : v = 0 ∨ v = 1) with rfl | rfl
    · exact Or.inl rfl
    · exact Or.inr rfl
  · have e3 : J1 93 3 = nI n' := by
      have := h1.2 134 (by unfold DG; omega) (by omega)
      rw [← n3]
      exact this
    have hR : InnR PN J1 (u2 M 93 5 (some (hid (cur I 139)))) 93 (cur I) := by
      refine ⟨fun k hk hP hl => ?_, u2_same _ _ _ _⟩
      rw [h1.2 k ?_ hk]
      · exact h.2.1.1 k hk trivial hl
      · unfold live at hl
        rw [n4] at hl
        show DG n' k ∨ k = 135
        unfold DG
        omega
    refine sp_settle (d + 2) i2 (by omega) n1 e3 _ fun J2 M' a1 a2 a3 a4 => ?_
    have q := NS_0 (cs := cs) (by omega) hR a1 a2 a4
    refine hK J2 M' ⟨fun a j q1 q2 => (a1 a j q1).trans (h1.1 a j q2), q.2⟩ a3 ?_ ?_
    · rw [a2 3 5 (by omega)]; exact u2_n1 _ _ (by omega)
    · rw [a2 48 5 (by omega)]; exact u2_n1 _ _ (by omega)
theorem sp_behind (d : Nat) (h : Inv I L M) {cs : List zCl} (hH : Hs I (cur I 139) cs) {k : Nat} (hk : k ≤ 60) (K : Nat → (Nat → Nat → Int32) → (Nat → Nat → Int64) → (Nat → Nat → Option Nat) → Prop) (hK : ∀ J M', NF 93 I J → InnR PN J M' 93 (nightsV cs k (cur I)) → M' 3 5 = M 3 5 → M' 48 5 = M 48 5 → K 93 J L M') : zCR C Y_X10_behind (d + 6) [.ref 0, .int (nI k)] (zmk I L M) K := by
  obtain ⟨n, n1, n2, n3, n4⟩ := h.n
  refine t_X10_behind d _ _ (sp_trial d h n4 cs _ fun J M' h1 hM e3 e48 => ?_)
  refine count_st (P := fun y J => zSR C (zmk I L M) K Y_X10_behind (d + 6) 21 [(0, .ref 0), (1, .int (nI k)), (2, .int (nI y))] [] J L M') (J := fun y J => NS I 93 PN cs n M' (nightsV cs y (cur I)) J) k ?_ ?_ 0 J (Nat.zero_le _) h1
  · intro J1 h1
    exact t_X10_behind_21 d _ _ _ (br_t (Int32.le_refl _) (hK J1 M' h1.1 h1.2.1 e3 e48))
  · intro y J1 hy h1 ih
    refine t_X10_behind_21 d _ _ _ (br_f (fun z => by have := (nI_le_iff (a := k) (b := y) (by omega) (by omega)).mp z; omega) ?_)
    rw [nI_1]
    refine sp_nightNS d (Or.inr rfl) (fun _ q => q) (Wok_nights cs h.1 y) (by omega) (by rw [nightsV_off cs h.1 y (by omega)]; exact hH) h.nm.2 hM (by rw [nightsV_off cs h.1 y (by omega)]; exact n4) h1 _ fun J' hJ' => ih J' hJ'
theorem sp_mbaC (d : Nat) {b n : Nat} {w : Nat → Int32} (hb : zInn b) (hn : n ≤ 6) (e : I b 3 = nI n) (ew : ∀ g, g < n → I (b + 33 + 2 * g) 3 = w (36 + g)) (K : KI) (hK : K (mbaV w n) I L M) : zCI C Y_X2_meantByAll (d + 2) [.ref b] (zmk I L M) K := by
  refine t_X2_meantByAll d hb _ ?_
  refine count_up (P := fun y => zSI C (zmk I L M) K Y_X2_meantByAll (d + 2) 4 [(0, .ref b), (1, .int (mbaV w y)), (2, .int (nI y))] [] I L M) n ?_ ?_ 0 (Nat.zero_le _)
  · exact t_X2_meantByAll_4 d hb _ _ _ (br_t (by rw [e]; exact Int32.le_refl _) hK)
  · intro y hy ih
    refine t_X2_meantByAll_4 d hb _ _ _ (br_f (by rw [e]; exact fun z => by have := (nI_le_iff (a := n) (b := y) (by omega) (by omega)).mp z; omega) ⟨vp_in_nI (by omega) (by omega), ?_⟩)
    rw [nI_clamp (by omega), ew y hy, nI_1]
    exact ih
theorem sp_mbaM (d : Nat) {n : Nat} (hn : n ≤ 6) (e : I 265 2 = nI n) (K : KI) (hK : K (mbaV (cur I) n) I L M) : zCI C Y_X11_allMean (d + 2) [.ref 265] (zmk I L M) K := by
  refine t_X11_allMean d _ ?_
  refine count_up (P := fun y => zSI C (zmk I L M) K Y_X11_allMean (d + 2) 4 [(0, .ref 265), (1, .int (mbaV (cur I) y)), (2, .int (nI y))] [] I L M) n ?_ ?_ 0 (Nat.zero_le _)
  · exact t_X11_allMean_4 d _ _ _ (br_t (by rw [e]; exact Int32.le_refl _) hK)
  · intro y hy ih
    refine t_X11_allMean_4 d _ _ _ (br_f (by rw [e]; exact fun z => by have := (nI_le_iff (a := n) (b := y) (by omega) (by omega)).mp z; omega) ⟨vp_in_nI (by omega) (by omega), ?_⟩)
    rw [nI_clamp (by omega), ← cur_at (I := I) (l_m y (by omega)) (by omega), nI_1]
    exact ih
theorem sp_stoC (d : Nat) {b : Nat} {w : Nat → Int32} (hb : zInn b) (ew : ∀ x, x < 12 → I (b + 2) x = w (12 + x)) (K : KI) (hK : K (stoV w 12) I L M) : zCI C Y_X2_storedInAll (d + 1) [.ref b] (zmk I L M) K := by
  refine t_X2_storedInAll d hb _ ?_
  refine count_up (P := fun y => zSI C (zmk I L M) K Y_X2_storedInAll (d + 1) 4 [(0, .ref b), (1, .int (stoV w y)), (2, .int (nI y))] [] I L M) 12 ?_ ?_ 0 (Nat.zero_le _)
  · exact t_X2_storedInAll_4 d hb _ _ _ (br_t (by decide) hK)
  · intro y hy ih
    refine t_X2_storedInAll_4 d hb _ _ _ (br_f (fun z => by have := (nI_le_iff (a := 12) (b := y) (by omega) (by omega)).mp z; omega) ⟨vp_in_nI (by omega) (by omega), ?_⟩)
    rw [nI_clamp (by omega), ew y hy, nI_1]
    exact ih
theorem sp_stoM (d : Nat) (K : KI) (hK : K (stoV (cur I) 12) I L M) : zCI C Y_X11_allCellar (d + 1) [.ref 265] (zmk I L M) K := by
  refine t_X11_allCellar d _ ?_
  refine count_up (P := fun y => zSI C (zmk I L M) K Y_X11_allCellar (d + 1) 4 [(0, .ref 265), (1, .int (stoV (cur I) y)), (2, .int (nI y))] [] I L M) 12 ?_ ?_ 0 (Nat.zero_le _)
  · exact t_X11_allCellar_4 d _ _ _ (br_t (by decide) hK)
  · intro y hy ih
    refine t_X11_allCellar_4 d _ _ _ (br_f (fun z => by have := (nI_le_iff (a := 12) (b := y) (by omega) (by omega)).mp z; omega) ⟨vp_in_nI (by omega) (by omega), ?_⟩)
    rw [nI_clamp (by omega), ← cur_at (I := I) (l_c y (by omega)) (by omega), nI_1]
    exact ih
end SM
