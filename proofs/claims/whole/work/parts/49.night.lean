/-! A NIGHT, of a view -/
def tkV (w : Nat → Int32) (p : Nat) (x : Int32) : Nat → Int32 := if x = -5 then w else upd (upd (upd w (36 + p) (w (36 + p) &&& (((1 : Int32) <<< (x &&& 31)) ^^^ (-1 : Int32)))) (42 + p) (w (42 + p) ||| ((1 : Int32) <<< (x &&& 31)))) (12 + cn x) (if w (12 + cn x) + 1 < 99 then w (12 + cn x) + 1 else 99)
def tksV (X : Nat → Int32) (w : Nat → Int32) : Nat → Nat → Int32
  | 0 => w
  | k + 1 => tkV (tksV X w k) k (X k)
def pyV (cs : List zCl) (w : Nat → Int32) (p : Nat) : Int32 := preyV w cs p (w (36 + p)) (w 135)
def midV (cs : List zCl) (w : Nat → Int32) : Nat → Int32 := upd (tksV (pyV cs w) w (cn (w 134))) 135 (w 135 + 1)
def lgP (w : Nat → Int32) (y : Nat) : Nat → Int32 := fun k => if 12 ≤ k ∧ k < 12 + y then (if 0 < w k - 1 then w k - 1 else 0) else w k
theorem lgP_in (w : Nat → Int32) {y k : Nat} (h : 12 ≤ k ∧ k < 12 + y) : lgP w y k = if 0 < w k - 1 then w k - 1 else 0 := if_pos h
theorem lgP_out (w : Nat → Int32) {y k : Nat} (h : ¬ (12 ≤ k ∧ k < 12 + y)) : lgP w y k = w k := if_neg h
theorem lgP_0 (w : Nat → Int32) : lgP w 0 = w := funext fun k => lgP_out w (by omega)
theorem lgP_s (w : Nat → Int32) (y : Nat) : lgP w (y + 1) = upd (lgP w y) (12 + y) (if 0 < w (12 + y) - 1 then w (12 + y) - 1 else 0) := by
  funext k
  by_cases q : k = 12 + y
  · subst q
    rw [up_s, lgP_in w (by omega)]
  · rw [up_n _ _ q]
    by_cases q2 : 12 ≤ k ∧ k < 12 + y
    · rw [lgP_in w q2, lgP_in w (by omega)]
    · rw [lgP_out w q2, lgP_out w (by omega)]
def nightV (cs : List zCl) (w : Nat → Int32) : Nat → Int32 := if kpC cs = 0 ∨ ¬ (w 135 + 1 - (w 135 + 1) / nI (kpC cs) * nI (kpC cs) = 0) then midV cs w else lgP (midV cs w) 12
def nightsV (cs : List zCl) : Nat → (Nat → Int32) → Nat → Int32
  | 0, w => w
  | k + 1, w => nightV cs (nightsV cs k w)
def okX (X : Nat → Int32) : Prop := ∀ p, X p = -5 ∨ ∃ y, y < 12 ∧ X p = nI y
theorem pyV_ok (cs : List zCl) (w : Nat → Int32) : okX (pyV cs w) := fun p => by
  rcases preyV_cases w cs p (w (36 + p)) (w 135) with h | ⟨y, h, e, -⟩
  · exact Or.inl h
  · exact Or.inr ⟨y, h, e⟩
theorem m5_ne : ∀ y, y < 12 → ¬ nI y = -5 := by decide +kernel
theorem tkV_m (w : Nat → Int32) (p : Nat) : tkV w p (-5) = w := by unfold tkV; rw [if_pos rfl]
theorem tkV_y (w : Nat → Int32) (p : Nat) {y : Nat} (hy : y < 12) : tkV w p (nI y) = upd (upd (upd w (36 + p) (w (36 + p) &&& (((1 : Int32) <<< (nI y &&& 31)) ^^^ (-1 : Int32)))) (42 + p) (w (42 + p) ||| ((1 : Int32) <<< (nI y &&& 31)))) (12 + y) (if w (12 + y) + 1 < 99 then w (12 + y) + 1 else 99) := by
  unfold tkV
  rw [if_neg (m5_ne y hy), cn_nI (by omega)]
theorem tkV_off {w : Nat → Int32} {p : Nat} {x : Int32} (hx : x = -5 ∨ ∃ y, y < 12 ∧ x = nI y) {j : Nat} (h1 : j ≠ 36 + p) (h2 : j ≠ 42 + p) (h3 : j < 12 ∨ 24 ≤ j) : tkV w p x j = w j := by
  rcases hx with rfl | ⟨y, hy, rfl⟩
  · rw [tkV_m]
  · rw [tkV_y w p hy, up_n _ _ (by omega), up_n _ _ h2, up_n _ _ h1]
theorem tksV_off {X w : Nat → Int32} (hX : okX X) : ∀ (k : Nat) {j : Nat}, (j < 12 ∨ 24 ≤ j) → (∀ p, p < k → j ≠ 36 + p ∧ j ≠ 42 + p) → tksV X w k j = w j := by
  intro k
  induction k with
  | zero => intro j _ _; rfl
  | succ k ih =>
    intro j h1 h2
    show tkV (tksV X w k) k (X k) j = w j
    rw [tkV_off (hX k) (h2 k (by omega)).1 (h2 k (by omega)).2 h1]
    exact ih h1 fun p hp => h2 p (by omega)
theorem tksV_far {X w : Nat → Int32} (hX : okX X) {k j : Nat} (hk : k ≤ 6) (h : j < 12 ∨ (24 ≤ j ∧ j < 36) ∨ 48 ≤ j) : tksV X w k j = w j := tksV_off hX k (by omega) fun p hp => by omega
theorem zwo_m (b : Int32) : zwo b (-5) = b := by unfold zwo; rw [if_neg (by decide)]
theorem zwo_y (b : Int32) {y : Nat} (hy : y < 12) : zwo b (nI y) = b &&& (((1 : Int32) <<< (nI y &&& 31)) ^^^ (-1)) := by unfold zwo; rw [if_pos ⟨nI_pos' (by omega), (nI_lt_iff (b := 12) (by omega) (by omega)).mpr hy⟩]
def zor_ (b x : Int32) : Int32 := if x = -5 then b else b ||| ((1 : Int32) <<< (x &&& 31))
theorem tksV_m {X w : Nat → Int32} (hX : okX X) {k p : Nat} (hk : k ≤ 6) (hp : p < k) : tksV X w k (36 + p) = zwo (w (36 + p)) (X p) ∧ tksV X w k (42 + p) = zor_ (w (42 + p)) (X p) := by
  induction k with
  | zero => omega
  | succ k ih =>
    show tkV (tksV X w k) k (X k) (36 + p) = _ ∧ tkV (tksV X w k) k (X k) (42 + p) = _
    by_cases e : p = k
    · subst e
      have a1 : tksV X w p (36 + p) = w (36 + p) := tksV_off hX p (by omega) fun q hq => by omega
      have a2 : tksV X w p (42 + p) = w (42 + p) := tksV_off hX p (by omega) fun q hq => by omega
      rcases hX p with e | ⟨y, hy, e⟩
      · rw [e, tkV_m, a1, a2, zwo_m]
        exact ⟨rfl, rfl⟩
      · rw [e, tkV_y _ _ hy, zwo_y _ hy]
        unfold zor_
        rw [if_neg (m5_ne y hy)]
        simp (disch := omega) only [up_n, up_s, a1, a2, and_self]
    · have := ih (by omega) (by omega)
      rw [tkV_off (hX k) (by omega) (by omega) (by omega), tkV_off (hX k) (by omega) (by omega) (by omega)]
      exact this
theorem nightV_eq (cs : List zCl) (w : Nat → Int32) {j : Nat} (h : j < 12 ∨ 24 ≤ j) : nightV cs w j = midV cs w j := by
  unfold nightV
  by_cases q : kpC cs = 0 ∨ ¬ (w 135 + 1 - (w 135 + 1) / nI (kpC cs) * nI (kpC cs) = 0)
  · rw [if_pos q]
  · rw [if_neg q]
    exact lgP_out _ (by omega)
theorem nightV_off (cs : List zCl) {w : Nat → Int32} (hn : cn (w 134) ≤ 6) {j : Nat} (h : j < 12 ∨ (24 ≤ j ∧ j < 36) ∨ (48 ≤ j ∧ j ≠ 135)) : nightV cs w j = w j := by
  rw [nightV_eq cs w (by omega)]
  unfold midV
  rw [up_n _ _ (by omega)]
  exact tksV_far (pyV_ok cs w) hn (by omega)
theorem nightV_135 (cs : List zCl) (w : Nat → Int32) : nightV cs w 135 = w 135 + 1 := by
  rw [nightV_eq cs w (by omega)]
  unfold midV
  rw [up_s]
theorem nightV_m (cs : List zCl) {w : Nat → Int32} (hn : cn (w 134) ≤ 6) {p : Nat} (hp : p < cn (w 134)) : nightV cs w (36 + p) = zwo (w (36 + p)) (pyV cs w p) ∧ nightV cs w (42 + p) = zor_ (w (42 + p)) (pyV cs w p) := by
  rw [nightV_eq cs w (by omega), nightV_eq cs w (by omega)]
  unfold midV
  rw [up_n _ _ (by omega), up_n _ _ (by omega)]
  exact tksV_m (pyV_ok cs w) hn hp
theorem Wok.n {B inns : Nat} {w : Nat → Int32} (h : Wok B inns w) : ∃ n, n ≤ 6 ∧ w 134 = nI n ∧ cn (w 134) = n := by
  obtain ⟨n, h1, h2⟩ := h.cnt (k := 134) (by omega)
  have h1 : n ≤ 6 := h1
  exact ⟨n, h1, h2, by rw [h2, cn_nI (by omega)]⟩
theorem Wok.t {B inns : Nat} {w : Nat → Int32} (h : Wok B inns w) : ∃ t, t ≤ B ∧ w 135 = nI t := h.cnt (k := 135) (by omega)
theorem Wok.gb {B inns : Nat} {w : Nat → Int32} (h : Wok B inns w) {p : Nat} (hp : p < cn (w 134)) : GB w p := by
  obtain ⟨n, h1, h2, h3⟩ := h.n
  obtain ⟨l1, l2, l3, l4, l5, l6⟩ := live_g hp (by omega)
  obtain ⟨k, k1, k2⟩ := h.1 _ (by omega) l1
  obtain ⟨v, v1, v2⟩ := h.1 _ (by omega) l2
  obtain ⟨i, i1, i2⟩ := h.1 _ (by omega) l5
  rw [u_k _ p (by omega)] at k1
  rw [u_v _ p (by omega)] at v1
  rw [u_i _ p (by omega)] at i1
  exact ⟨⟨k, k1, k2⟩, ⟨v, v1, v2⟩, ⟨i, i1, i2⟩, fun x hx => by
    obtain ⟨j, j1, j2⟩ := h.1 x (by omega) (by unfold live; omega)
    unfold ub at j1
    rw [if_pos hx] at j1
    exact ⟨j, j1, j2⟩⟩
theorem live_upd {w : Nat → Int32} {k : Nat} (v : Int32) (hk : k < 98 ∨ k = 135) (j : Nat) : live (upd w k v) j ↔ live w j := live_eq (up_n _ _ (by omega)) (up_n _ _ (by omega)) (up_n _ _ (by omega)) (up_n _ _ (by omega)) (fun i hi => up_n _ _ (by omega)) j
theorem Wok_upd {B inns : Nat} {w : Nat → Int32} (h : Wok B inns w) {k : Nat} {v : Int32} (hk : k < 98 ∨ k = 135) (hv : ∃ j, j ≤ ub B k ∧ v = nI j) : Wok B inns (upd w k v) := by
  refine ⟨fun j hj hl => ?_, fun i hi hz => ?_, by rw [up_n _ _ (by omega)]; exact h.2.2⟩
  · by_cases e : j = k
    · subst e; rw [up_s]; exact hv
    · rw [up_n _ _ e]; exact h.1 j hj ((live_upd v hk j).mp hl)
  · rw [up_n _ _ (by omega)] at hi
    have h10 : i < 10 := by
      obtain ⟨n, h1, h2⟩ := h.cnt (k := 137) (by omega)
      have h1 : n ≤ 10 := h1
      rw [h2, cn_nI (by omega)] at hi
      omega
    rw [up_n _ _ (by omega)] at hz
    rw [up_n _ _ (by omega), up_n _ _ (by omega)]
    exact h.2.1 i hi hz
theorem ub_B {B B' k : Nat} (hk : k ≠ 135) : ub B k = ub B' k := by
  unfold ub
  simp only [hk, if_false]
theorem Wok_B {B B' inns : Nat} {w : Nat → Int32} (h : Wok B inns w) (hB : B ≤ B') : Wok B' inns w := by
  refine ⟨fun k hk hl => ?_, h.2⟩
  obtain ⟨j, h1, h2⟩ := h.1 k hk hl
  refine ⟨j, ?_, h2⟩
  by_cases e : k = 135
  · subst e
    exact Nat.le_trans (show j ≤ B from h1) hB
  · rw [ub_B (B' := B) e]; exact h1
theorem Wok_tk {B inns : Nat} {w : Nat → Int32} (h : Wok B inns w) {p : Nat} (hp : p < cn (w 134)) {x : Int32} (hx : x = -5 ∨ ∃ y, y < 12 ∧ x = nI y) : Wok B inns (tkV w p x) := by
  rcases hx with rfl | ⟨y, hy, rfl⟩
  · rw [tkV_m]; exact h
  · obtain ⟨n, h1, h2, h3⟩ := h.n
    obtain ⟨l1, l2, l3, l4, l5, l6⟩ := live_g hp (by omega)
    have vm := h.1 _ (by omega) l3
    have vl := h.1 _ (by omega) l4
    have vc := h.1 (12 + y) (by omega) (by unfold live; omega)
    rw [u_m _ p (by omega)] at vm
    rw [u_l _ p (by omega)] at vl
    rw [u_c _ y hy] at vc
    rw [tkV_y _ _ hy]
    refine Wok_upd (Wok_upd (Wok_upd h (by omega) ?_) (by omega) ?_) (by omega) ?_
    · rw [u_m _ p (by omega)]; exact m12_and _ vm
    · rw [u_l _ p (by omega)]; exact m12_or vl (m12_one hy)
    · rw [u_c _ y hy]
      obtain ⟨c, c1, c2⟩ := vc
      rw [c2, nI_1]
      by_cases q : nI (c + 1) < 99
      · rw [if_pos q]
        have := (nI_lt_iff (a := c + 1) (b := 99) (by omega) (by omega)).mp q
        exact ⟨c + 1, by omega, rfl⟩
      · rw [if_neg q]; exact ⟨99, by omega, rfl⟩
theorem Wok_tks {B inns : Nat} {X w : Nat → Int32} (hX : okX X) (h : Wok B inns w) : ∀ k, k ≤ cn (w 134) → Wok B inns (tksV X w k) := by
  intro k
  induction k with
  | zero => intro _; exact h
  | succ k ih =>
    intro hk
    obtain ⟨n, h1, h2, h3⟩ := h.n
    refine Wok_tk (ih (by omega)) ?_ (hX k)
    rw [tksV_far hX (by omega) (by omega)]
    omega
theorem Wok_lg {B inns : Nat} {w : Nat → Int32} (h : Wok B inns w) : ∀ y, y ≤ 12 → Wok B inns (lgP w y) := by
  intro y
  induction y with
  | zero =>
    intro _
    rw [lgP_0]
    exact h
  | succ y ih =>
    intro hy
    rw [lgP_s]
    refine Wok_upd (ih (by omega)) (by omega) ?_
    rw [u_c _ y (by omega)]
    obtain ⟨c, c1, c2⟩ := h.1 (12 + y) (by omega) (by unfold live; omega)
    rw [u_c _ y (by omega)] at c1
    rw [c2]
    by_cases q : 0 < nI c - 1
    · rw [if_pos q]
      by_cases c0 : c = 0
      · subst c0; exact absurd q (by decide)
      · rw [nI_sub1 (by omega)]; exact ⟨c - 1, by omega, rfl⟩
    · rw [if_neg q]; exact ⟨0, by omega, rfl⟩
theorem Wok_night {B inns : Nat} {w : Nat → Int32} (cs : List zCl) (h : Wok B inns w) : Wok (B + 1) inns (nightV cs w) := by
  obtain ⟨t, t1, t2⟩ := h.t
  have h1 : Wok (B + 1) inns (midV cs w) := Wok_upd (Wok_B (Wok_tks (pyV_ok cs w) h _ (Nat.le_refl _)) (by omega)) (by omega) ⟨t + 1, show t + 1 ≤ B + 1 by omega, by rw [t2, nI_1]⟩
  unfold nightV
  by_cases q : kpC cs = 0 ∨ ¬ (w 135 + 1 - (w 135 + 1) / nI (kpC cs) * nI (kpC cs) = 0)
  · rw [if_pos q]; exact h1
  · rw [if_neg q]; exact Wok_lg h1 12 (by omega)
theorem Wok_nights {B inns : Nat} {w : Nat → Int32} (cs : List zCl) (h : Wok B inns w) : ∀ k, Wok (B + k) inns (nightsV cs k w) := by
  intro k
  induction k with
  | zero => exact h
  | succ k ih => exact Wok_night cs ih
theorem nightsV_off (cs : List zCl) {B inns : Nat} {w : Nat → Int32} (h : Wok B inns w) : ∀ (k : Nat) {j : Nat}, (j < 12 ∨ (24 ≤ j ∧ j < 36) ∨ (48 ≤ j ∧ j ≠ 135)) → nightsV cs k w j = w j := by
  intro k
  induction k with
  | zero => intro j _; rfl
  | succ k ih =>
    intro j hj
    obtain ⟨n, h1, h2, h3⟩ := (Wok_nights cs h k).n
    show nightV cs (nightsV cs k w) j = w j
    rw [nightV_off cs (by omega) hj]
    exact ih hj
theorem nightsV_t (cs : List zCl) {w : Nat → Int32} {t : Nat} (ht : w 135 = nI t) : ∀ k, nightsV cs k w 135 = nI (t + k) := by
  intro k
  induction k with
  | zero => exact ht
  | succ k ih =>
    show nightV cs (nightsV cs k w) 135 = _
    rw [nightV_135, ih, nI_1]
    rfl
/-- what the model's nights may write -/
def MF (I J : Nat → Nat → Int32) : Prop := ∀ a j, ¬ (a = 281 ∨ a = 293 ∨ a = 267 ∨ a = 270 ∨ a = 271 ∨ (a = 265 ∧ j = 9)) → J a j = I a j
theorem MF.rf {I : Nat → Nat → Int32} : MF I I := fun _ _ _ => rfl
theorem MF.tr {I J K : Nat → Nat → Int32} (h1 : MF I J) (h2 : MF J K) : MF I K := fun a j h => (h2 a j h).trans (h1 a j h)
theorem MF.ri {I J : Nat → Nat → Int32} (h : MF I J) : rI J = rI I := rI_eq fun a j q => h a j (by unfold Ra at q; omega)
theorem MF.hs {I J : Nat → Nat → Int32} (h : MF I J) {x : Int32} {cs : List zCl} (q : Hs I x cs) : Hs J x cs := Hs_fr h.ri q
section SM
variable {C : zC} {I I' : Nat → Nat → Int32} {L L' : Nat → Nat → Int64} {M : Nat → Nat → Option Nat}
theorem sp_lgM (d : Nat) {hh : zH} (K : (Nat → Nat → Int32) → (Nat → Nat → Int64) → (Nat → Nat → Option Nat) → Prop) (hK : ∀ J, MF I J → cur J = lgP (cur I) 12 → K J L M) : zSV C hh K Y_X11_goesNight (d + 6) 135 [(0, .ref 265), (2, .int 0)] [] I L M := by
  refine count_st (P := fun y J => zSV C hh K Y_X11_goesNight (d + 6) 135 [(0, .ref 265), (2, .int (nI y))] [] J L M) (J := fun y J => MF I J ∧ cur J = lgP (cur I) y) 12 ?_ ?_ 0 I (Nat.zero_le _) ⟨MF.rf, ?_⟩
  · intro J h
    exact t_X11_goesNight_135 d _ _ (br_t (by decide) (hK J h.1 h.2))
  · intro y J hy h ih
    have hlt : ¬ (12 : Int32) ≤ nI y := fun z => by have := (nI_le_iff (a := 12) (b := y) (by omega) (by omega)).mp z; omega
    have hin := vp_in_nI hy (by omega : 12 < 2 ^ 31)
    refine t_X11_goesNight_135 d _ _ (br_f hlt ⟨hin, hin, ?_⟩)
    rw [nI_clamp (by omega), nI_1]
    refine ih _ ⟨fun a j q => ?_, ?_⟩
    · rw [u2_n1 _ _ (by omega)]; exact h.1 a j q
    · rw [cur_in' _ (l_c y hy) (by omega), h.2]
      have e : J 267 y = cur I (12 + y) := by
        rw [← cur_at (I := J) (l_c y hy) (by omega), h.2]
        exact lgP_out _ (by omega)
      rw [e, lgP_s]
  · rw [lgP_0]
theorem sp_nightM (d : Nat) {cs : List zCl} {B inns : Nat} (hH : Hs I (I 265 17) cs) (hW : Wok B inns (cur I)) (K : (Nat → Nat → Int32) → (Nat → Nat → Int64) → (Nat → Nat → Option Nat) → Prop) (hK : ∀ J, MF I J → cur J = nightV cs (cur I) → K J L M) : zCV C Y_X11_goesNight (d + 6) [.ref 265] (zmk I L M) K := by
  obtain ⟨n, n1, n2, n3⟩ := hW.n
  have n2' : I 265 2 = nI n := n2
  have hX := pyV_ok cs (cur I)
  have hkp : kpC cs ≤ 99 := hH.sw.2.2.2.2.2.2.1
  have lt_n : ∀ y, y < n → ¬ nI n ≤ nI y := fun y hy z => by have := (nI_le_iff (a := n) (b := y) (by omega) (by omega)).mp z; omega
  refine t_X11_goesNight d _ ?_
  refine count_st (P := fun y J => zSV C (zmk I L M) K Y_X11_goesNight (d + 6) 2 [(0, .ref 265), (1, .int (nI y))] [] J L M) (J := fun y J => MF I J ∧ cur J = cur I ∧ ∀ i, i < y → J 293 i = pyV cs (cur I) i) n ?_ ?_ 0 I (Nat.zero_le _) ⟨MF.rf, rfl, fun i hi => by omega⟩
  · intro J1 h1
    refine t_X11_goesNight_2 d _ _ (br_t (by rw [h1.1 265 2 (by omega), n2']; exact Int32.le_refl _) ?_)
    refine count_st (P := fun y J => zSV C (zmk I L M) K Y_X11_goesNight (d + 6) 29 [(0, .ref 265), (1, .int (nI y))] [] J L M) (J := fun y J => MF I J ∧ cur J = tksV (pyV cs (cur I)) (cur I) y ∧ ∀ i, i < n → J 293 i = pyV cs (cur I) i) n ?_ ?_ 0 J1 (Nat.zero_le _) ⟨h1.1, h1.2.1, h1.2.2⟩
    · intro J h
      have e9 : J 265 9 = cur I 135 := by
        have q := tksV_far (w := cur I) hX (k := n) (j := 135) (by omega) (by omega)
        rw [← h.2.1] at q
        exact q
      refine t_X11_goesNight_29 d _ _ (br_t (by rw [h.1 265 2 (by omega), n2']; exact Int32.le_refl _) ?_)
      have hF : MF I (u2 J 265 9 (J 265 9 + 1)) := fun a j q => by rw [u2_ne _ _ (by omega)]; exact h.1 a j q
      have hc : cur (u2 J 265 9 (J 265 9 + 1)) = midV cs (cur I) := by
        rw [cur_in' _ (show loc 135 = (265, 9) from rfl) (by omega), h.2.1, e9]
        unfold midV
        rw [n3]
      refine sp_kp (d + 4) (cs := cs) (by rw [hF 265 17 (by omega)]; exact hF.hs hH) _ ?_
      have hk := hK (u2 J 265 9 (J 265 9 + 1)) hF
      have e99 : u2 J 265 9 (J 265 9 + 1) 265 9 = cur I 135 + 1 := by rw [u2_same, e9]
      rw [e99]
      refine ⟨fun z => hk ?_, fun z => ⟨z, fun z2 => ?_, fun z2 => hk ?_⟩⟩
      · have : kpC cs = 0 := nI_inj (b := 0) (by omega) (by omega) z
        rw [hc]
        unfold nightV
        rw [if_pos (Or.inl this)]
      · refine sp_lgM d K fun J2 a b => hK J2 (hF.tr a) ?_
        rw [b, hc]
        unfold nightV
        rw [if_neg]
        rintro (q | q)
        · exact z (by rw [q]; rfl)
        · exact q z2
      · rw [hc]
        unfold nightV
        rw [if_pos (Or.inr z2)]
    · intro y J hy h ih
      have h6 := vp_in_nI (show y < 6 by omega) (by omega : 6 < 2 ^ 31)
      refine t_X11_goesNight_29 d _ _ (br_f (by rw [h.1 265 2 (by omega), n2']; exact lt_n y hy) ⟨h6, ?_⟩)
      rw [nI_clamp (by omega), h.2.2 y hy, nI_1]
      rcases hX y with e | ⟨x, hx, e⟩
      · have e2 : tksV (pyV cs (cur I)) (cur I) (y + 1) = tksV (pyV cs (cur I)) (cur I) y := by
          show tkV _ y (pyV cs (cur I) y) = _
          rw [e, tkV_m]
        rw [e2] at ih
        rw [e]
        exact ⟨fun z => absurd rfl z, fun _ => ih J h⟩
      · have e2 : tksV (pyV cs (cur I)) (cur I) (y + 1) = tkV (tksV (pyV cs (cur I)) (cur I) y) y (nI x) := by
          show tkV _ y (pyV cs (cur I) y) = _
          rw [e]
        rw [e2, tkV_y _ _ hx, ← h.2.1] at ih
        rw [e, nI_clamp (show x < 2 ^ 31 by omega)]
        have h12 := vp_in_nI hx (by omega : 12 < 2 ^ 31)
        refine ⟨fun _ => ⟨h6, h6, h6, h6, h12, h12, ih _ ⟨fun a j q => ?_, ?_, fun i hi => ?_⟩⟩, fun z => absurd z (m5_ne x hx)⟩
        · rw [u2_n1 _ _ (by omega), u2_n1 _ _ (by omega), u2_n1 _ _ (by omega)]
          exact h.1 a j q
        · rw [cur_in' _ (l_c x hx) (by omega), cur_in' _ (l_l y (by omega)) (by omega), cur_in' _ (l_m y (by omega)) (by omega)]
          rw [cur_at (I := J) (l_m y (by omega)) (by omega), cur_at (I := J) (l_l y (by omega)) (by omega), cur_at (I := J) (l_c x hx) (by omega)]
        · rw [u2_n1 _ _ (by omega), u2_n1 _ _ (by omega), u2_n1 _ _ (by omega)]
          exact h.2.2 i hi
  · intro y J hy h ih
    have h6 := vp_in_nI (show y < 6 by omega) (by omega : 6 < 2 ^ 31)
    refine t_X11_goesNight_2 d _ _ (br_f (by rw [h.1 265 2 (by omega), n2']; exact lt_n y hy) ?_)
    obtain ⟨⟨k, hk, ek⟩, -, ⟨v, hv, ev'⟩, -⟩ := hW.gb (p := y) (by omega)
    refine sp_preyM d (show y < 6 by omega) (cs := cs) (by rw [h.1 265 17 (by omega)]; exact h.1.hs hH) hk (by rw [h.2.1]; exact ek) hv (by rw [h.2.1]; exact ev') _ fun J' hJ' => ⟨h6, ?_⟩
    rw [h.2.1, nI_clamp (by omega), nI_1]
    have e9 : J 265 9 = cur I 135 := by rw [← h.2.1]; rfl
    rw [e9]
    refine ih _ ⟨fun a j q => ?_, ?_, fun i hi => ?_⟩
    · rw [u2_n1 _ _ (by omega), hJ' a j (by omega)]; exact h.1 a j q
    · rw [cur_out _ _ (by omega), ← h.2.1]
      exact cur_eq fun k hk => hJ' _ _ (by have := loc_rng k hk; omega)
    · by_cases q : i = y
      · rw [q, u2_same]; rfl
      · rw [u2_n2 _ _ q, hJ' _ _ (by omega)]
        exact h.2.2 i (by omega)
end SM
