/-! ENDS -/
def rowV (cs : List zCl) (w : Nat → Int32) (t p : Int32) : Nat → Int32 := if t = 0 then nightV cs w else if t = 3 then upd (upd w (36 + cn p) (w (36 + cn p) ||| w (42 + cn p))) (42 + cn p) 0 else upd w (48 + cn p) (t - 1)
theorem rowV_0 (cs : List zCl) (w : Nat → Int32) (p : Int32) : rowV cs w (nI 0) p = nightV cs w := by unfold rowV; rw [if_pos (show nI 0 = 0 from rfl)]
theorem rowV_3 (cs : List zCl) (w : Nat → Int32) {p : Nat} (hp : p < 6) : rowV cs w (nI 3) (nI p) = upd (upd w (36 + p) (w (36 + p) ||| w (42 + p))) (42 + p) 0 := by
  unfold rowV
  rw [if_neg (show ¬ nI 3 = 0 by decide), if_pos (show nI 3 = 3 from rfl), cn_nI (by omega)]
theorem rowV_i (cs : List zCl) (w : Nat → Int32) {t p : Nat} (hp : p < 6) (h0 : ¬ t = 0) (h3 : ¬ t = 3) (ht : t ≤ 3) : rowV cs w (nI t) (nI p) = upd w (48 + p) (nI (t - 1)) := by
  unfold rowV
  rw [if_neg (show ¬ nI t = 0 from fun z => h0 (nI_inj (b := 0) (by omega) (by omega) z)), if_neg (show ¬ nI t = 3 from fun z => h3 (nI_inj (b := 3) (by omega) (by omega) z)), cn_nI (by omega), nI_sub1 (by omega)]
def rowsV (cs : List zCl) (w : Nat → Int32) : Nat → Nat → Int32
  | 0 => w
  | k + 1 => rowV cs (rowsV cs w k) (w (98 + k)) (w (108 + k))
theorem Wok_row {B inns : Nat} {cs : List zCl} {w : Nat → Int32} (h : Wok B inns w) {t p : Nat} (ht : t ≤ 3) (hp : ¬ t = 0 → p < cn (w 134)) : Wok (B + 1) inns (rowV cs w (nI t) (nI p)) := by
  by_cases h0 : t = 0
  · subst h0
    rw [rowV_0]
    exact Wok_night cs h
  · have hp := hp h0
    obtain ⟨n, n1, n2, n3⟩ := h.n
    obtain ⟨l1, l2, l3, l4, l5, l6⟩ := live_g hp (by omega)
    by_cases h3 : t = 3
    · subst h3
      rw [rowV_3 cs w (by omega)]
      have vm := h.1 _ (by omega) l3
      have vl := h.1 _ (by omega) l4
      rw [u_m _ p (by omega)] at vm
      rw [u_l _ p (by omega)] at vl
      exact Wok_B (Wok_upd (Wok_upd h (by omega) (by rw [u_m _ p (by omega)]; exact m12_or vm vl)) (by omega) (by rw [u_l _ p (by omega)]; exact ⟨0, by omega, rfl⟩)) (by omega)
    · rw [rowV_i cs w (by omega) h0 h3 ht]
      exact Wok_B (Wok_upd h (by omega) (by rw [u_i _ p (by omega)]; exact ⟨t - 1, by omega, rfl⟩)) (by omega)
theorem rowV_off (cs : List zCl) {w : Nat → Int32} (hn : cn (w 134) ≤ 6) {t p : Nat} (ht : t ≤ 3) (hp : ¬ t = 0 → p < 6) {j : Nat} (hj : j < 12 ∨ (24 ≤ j ∧ j < 36) ∨ (54 ≤ j ∧ j ≠ 135)) : rowV cs w (nI t) (nI p) j = w j := by
  by_cases h0 : t = 0
  · subst h0
    rw [rowV_0]
    exact nightV_off cs hn (by omega)
  · have hp := hp h0
    by_cases h3 : t = 3
    · subst h3
      rw [rowV_3 cs w (show p < 6 by assumption), up_n _ _ (by omega), up_n _ _ (by omega)]
    · rw [rowV_i cs w (show p < 6 by assumption) h0 h3 ht, up_n _ _ (by omega)]
/-- the plan's rows -/
theorem Wok.plan {B inns : Nat} {w : Nat → Int32} (h : Wok B inns w) : ∃ m, m ≤ 10 ∧ w 137 = nI m ∧ ∀ i, i < m → ∃ t p, t ≤ 3 ∧ w (98 + i) = nI t ∧ (¬ t = 0 → p < cn (w 134) ∧ w (108 + i) = nI p) := by
  obtain ⟨m, m1, m2⟩ := h.cnt (k := 137) (by omega)
  have m1 : m ≤ 10 := m1
  refine ⟨m, m1, m2, fun i hi => ?_⟩
  have hi' : i < cn (w 137) := by rw [m2, cn_nI (by omega)]; exact hi
  obtain ⟨t, t1, t2⟩ := h.1 (98 + i) (by omega) (by unfold live; omega)
  have t1' : t ≤ 3 := by
    have : ub B (98 + i) = 3 := by
      unfold ub
      simp only [show ¬ 98 + i < 12 by omega, show ¬ 98 + i < 24 by omega, show ¬ 98 + i < 30 by omega, show ¬ 98 + i < 36 by omega, show ¬ 98 + i < 48 by omega, show ¬ 98 + i < 54 by omega, show ¬ 98 + i < 78 by omega, show ¬ 98 + i < 83 by omega, show ¬ 98 + i < 88 by omega, show ¬ 98 + i < 93 by omega, show ¬ 98 + i < 98 by omega, show 98 + i < 108 by omega, if_true, if_false]
    omega
  by_cases h0 : t = 0
  · exact ⟨t, 0, t1', t2, fun z => absurd h0 z⟩
  · have hz : ¬ w (98 + i) = 0 := by rw [t2]; exact fun z => h0 (nI_inj (b := 0) (by omega) (by omega) z)
    have hp := h.2.1 i hi' hz
    obtain ⟨p, p1, p2⟩ := h.1 (108 + i) (by omega) (by
      unfold live
      right; right; right; right; right; left
      exact ⟨by omega, by omega, by omega, by rw [show 98 + (108 + i - 108) = 98 + i by omega]; exact hz⟩)
    have p1' : p ≤ 5 := by
      have : ub B (108 + i) = 5 := by
        unfold ub
        simp only [show ¬ 108 + i < 12 by omega, show ¬ 108 + i < 24 by omega, show ¬ 108 + i < 30 by omega, show ¬ 108 + i < 36 by omega, show ¬ 108 + i < 48 by omega, show ¬ 108 + i < 54 by omega, show ¬ 108 + i < 78 by omega, show ¬ 108 + i < 83 by omega, show ¬ 108 + i < 88 by omega, show ¬ 108 + i < 93 by omega, show ¬ 108 + i < 98 by omega, show ¬ 108 + i < 108 by omega, show 108 + i < 118 by omega, if_true, if_false]
      omega
    rw [p2, cn_nI (by omega)] at hp
    exact ⟨t, p, t1', t2, fun _ => ⟨hp, p2⟩⟩
theorem rowsV_ok {B inns : Nat} {cs : List zCl} {w : Nat → Int32} (h : Wok B inns w) : ∀ k, k ≤ cn (w 137) → Wok (B + k) inns (rowsV cs w k) ∧ ∀ j, (j < 12 ∨ (24 ≤ j ∧ j < 36) ∨ (54 ≤ j ∧ j ≠ 135)) → rowsV cs w k j = w j := by
  obtain ⟨m, m1, m2, m3⟩ := h.plan
  obtain ⟨n, n1, n2, n3⟩ := h.n
  intro k
  induction k with
  | zero => intro _; exact ⟨h, fun _ _ => rfl⟩
  | succ k ih =>
    intro hk
    obtain ⟨a, b⟩ := ih (by omega)
    rw [m2, cn_nI (by omega)] at hk
    obtain ⟨t, p, t1, t2, t3⟩ := m3 k (by omega)
    have e134 : rowsV cs w k 134 = w 134 := b 134 (by omega)
    have q : ∃ p', w (108 + k) = p' ∧ rowsV cs w (k + 1) = rowV cs (rowsV cs w k) (nI t) p' := ⟨_, rfl, by rw [← t2]; rfl⟩
    by_cases h0 : t = 0
    · subst h0
      have e : rowsV cs w (k + 1) = nightV cs (rowsV cs w k) := by
        show rowV cs (rowsV cs w k) (w (98 + k)) (w (108 + k)) = _
        rw [t2, rowV_0]
      rw [e]
      refine ⟨Wok_night cs a, fun j hj => ?_⟩
      rw [nightV_off cs (by rw [e134]; omega) (by omega)]
      exact b j hj
    · obtain ⟨p1, p2⟩ := t3 h0
      have e : rowsV cs w (k + 1) = rowV cs (rowsV cs w k) (nI t) (nI p) := by rw [← t2, ← p2]; rfl
      rw [e]
      refine ⟨Wok_row a t1 fun _ => by rw [e134]; exact p1, fun j hj => ?_⟩
      rw [rowV_off cs (by rw [e134]; omega) t1 (fun _ => by omega) hj]
      exact b j hj
def endV (w : Nat → Int32) (n : Nat) (x : Int32) : Int32 := if x = 0 then mbaV w n else stoV w 12
/-- what the model's plans may write -/
def MG (I J : Nat → Nat → Int32) : Prop := ∀ a j, ¬ (a = 281 ∨ a = 293 ∨ a = 267 ∨ a = 270 ∨ a = 271 ∨ a = 272 ∨ (a = 265 ∧ j = 9)) → J a j = I a j
section SM
variable {C : zC} {I I' : Nat → Nat → Int32} {L L' : Nat → Nat → Int64} {M : Nat → Nat → Option Nat}
theorem sp_endsM (d : Nat) {cs : List zCl} {B inns n : Nat} (hH : Hs I (I 265 17) cs) (hW : Wok B inns (cur I)) (hn : n ≤ 6) (e : I 265 2 = nI n) (x : Int32) (hx : 0 ≤ x ∧ x ≤ 1) (K : KI) (hK : ∀ J, rI J = rI I → cur J = cur I → (∀ a j, a < 265 → J a j = I a j) → K (endV (rowsV cs (cur I) (cn (cur I 137))) n x) J L M) : zCI C Y_X11_ends (d + 7) [.ref 265, .int x] (zmk I L M) K := by
  refine t_X11_ends d _ _ (br_t hx ?_)
  refine sp_keep (d + 5) z292 (by omega) (by omega) (by omega) _ fun J1 h1 => ?_
  obtain ⟨f1, c1, r1⟩ := h1.fr
  obtain ⟨m, m1, m2, m3⟩ := hW.plan
  have m2' : I 265 31 = nI m := m2
  have n3 : cn (cur I 134) = n := by
    have : cur I 134 = nI n := e
    rw [this, cn_nI (by omega)]
  rw [m2, cn_nI (by omega)] at hK
  refine count_st (P := fun y J => zSI C (zmk I L M) K Y_X11_ends (d + 7) 21 [(0, .ref 265), (1, .int x), (2, .int (nI y))] [] J L M) (J := fun y J => MG J1 J ∧ cur J = rowsV cs (cur I) y) m ?_ ?_ 0 J1 (Nat.zero_le _) ⟨fun _ _ _ => rfl, c1⟩
  · intro J h
    have fin : ∀ (v : Int32), v = endV (rowsV cs (cur I) m) n x → zCV C Y_X11_again (d + 6) [.ref 265, .ref 292] (zmk J L M) (fun I1 L1 M1 => K v I1 L1 M1) := by
      intro v hv
      refine sp_again (d + 5) z292 (by omega) (by omega) (by omega) _ fun J3 h3 => ?_
      obtain ⟨a, b, c⟩ := again_same h1 (fun a j q1 q2 => h.1 a j (by unfold AF at q1; omega)) h3
      rw [hv]
      exact hK J3 a b c
    refine t_X11_ends_21 d _ _ _ (br_t (by rw [h.1 265 31 (by omega), f1 _ _ (by omega), m2']; exact Int32.le_refl _) ⟨fun z => ?_, fun z => ?_⟩)
    · refine sp_stoM (d + 5) _ ?_
      rw [h.2]
      exact fin _ (by unfold endV; rw [if_neg z])
    · refine sp_mbaM (d + 4) hn (by rw [h.1 265 2 (by omega), f1 _ _ (by omega)]; exact e) _ ?_
      rw [h.2]
      exact fin _ (by unfold endV; rw [if_pos z])
  · intro y J hy h ih
    obtain ⟨t, p, t1, t2, t3⟩ := m3 y hy
    obtain ⟨w1, w2⟩ := rowsV_ok (cs := cs) hW y (by rw [m2, cn_nI (by omega)]; omega)
    have h10 := vp_in_nI (show y < 10 by omega) (by omega : 10 < 2 ^ 31)
    have e286 : J 286 y = nI t := by
      rw [h.1 286 y (by omega), f1 _ _ (by omega), ← t2]
      exact (cur_at (l_g y (by omega)).1 (by omega)).symm
    refine t_X11_ends_21 d _ _ _ (br_f (by rw [h.1 265 31 (by omega), f1 _ _ (by omega), m2']; exact fun z => by have := (nI_le_iff (a := m) (b := y) (by omega) (by omega)).mp z; omega) ⟨h10, h10, ?_⟩)
    rw [nI_clamp (by omega), e286, nI_1]
    by_cases h0 : t = 0
    · subst h0
      have er : rowsV cs (cur I) (y + 1) = nightV cs (rowsV cs (cur I) y) := by
        show rowV cs (rowsV cs (cur I) y) (cur I (98 + y)) (cur I (108 + y)) = _
        rw [t2, rowV_0]
      rw [er] at ih
      refine br_t' rfl ?_
      refine sp_nightM d (cs := cs) (by
        rw [h.1 265 17 (by omega), f1 265 17 (by omega)]
        exact Hs_fr (rI_eq fun a j q => h.1 a j (by unfold Ra at q; omega)) (Hs_fr r1 hH)) (by rw [h.2]; exact w1) _ fun J3 a b => ?_
      exact ih J3 ⟨fun a' j q => (a a' j (by omega)).trans (h.1 a' j q), by rw [b, h.2]⟩
    · obtain ⟨p1, p2⟩ := t3 h0
      have e287 : J 287 y = nI p := by
        rw [h.1 287 y (by omega), f1 _ _ (by omega), ← p2]
        exact (cur_at (l_g y (by omega)).2 (by omega)).symm
      have h6 := vp_in_nI (show p < 6 by omega) (by omega : 6 < 2 ^ 31)
      have er : rowsV cs (cur I) (y + 1) = rowV cs (rowsV cs (cur I) y) (nI t) (nI p) := by rw [← t2, ← p2]; rfl
      rw [er] at ih
      rw [e287, nI_clamp (show p < 2 ^ 31 by omega)]
      refine br_f' (fun z => h0 (nI_inj (b := 0) (by omega) (by omega) z)) ⟨h10, fun z => ⟨h6, h6, h6, h6, ?_⟩, fun z => ⟨h10, h6, ?_⟩⟩
      · have ht3 : t = 3 := by
          have := (nI_le_iff (a := 3) (b := t) (by omega) (by omega)).mp z
          omega
        subst ht3
        rw [rowV_3 cs _ (by omega)] at ih
        refine ih _ ⟨fun a j q => ?_, ?_⟩
        · rw [u2_n1 _ _ (by omega), u2_n1 _ _ (by omega)]
          exact h.1 a j q
        · rw [cur_in' _ (l_l p (by omega)) (by omega), cur_in' _ (l_m p (by omega)) (by omega), h.2]
          rw [← cur_at (I := J) (l_m p (by omega)) (by omega), ← cur_at (I := J) (l_l p (by omega)) (by omega), h.2]
      · have ht3 : ¬ t = 3 := fun q => z (by rw [q]; decide)
        rw [rowV_i cs _ (by omega) h0 ht3 t1] at ih
        rw [nI_sub1 (by omega)]
        refine ih _ ⟨fun a j q => ?_, ?_⟩
        · rw [u2_n1 _ _ (by omega)]
          exact h.1 a j q
        · rw [cur_in' _ (l_i p (by omega)) (by omega), h.2]
end SM
