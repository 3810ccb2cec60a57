/-! ONE GUEST ALONE, night by night -/
def goC (w : Nat → Int32) (cs : List zCl) (p t : Nat) (mm : Int32) : Nat → Int32
  | 0 => mm
  | k + 1 => zwo (goC w cs p t mm k) (preyV w cs p (goC w cs p t mm k) (nI (t + k)))
theorem goC_sub (w : Nat → Int32) (cs : List zCl) (p t : Nat) (mm : Int32) (k : Nat) {x : Nat} (hx : x < 12) (h : hb (goC w cs p t mm (k + 1)) x = true) : hb (goC w cs p t mm k) x = true := by
  have e : goC w cs p t mm (k + 1) = zwo (goC w cs p t mm k) (preyV w cs p (goC w cs p t mm k) (nI (t + k))) := rfl
  rw [e] at h
  rcases preyV_cases w cs p (goC w cs p t mm k) (nI (t + k)) with q | ⟨y, hy, q, -⟩
  · rw [q, zwo_m] at h; exact h
  · rw [q, hb_zwo _ hy (by omega)] at h
    simp only [Bool.and_eq_true] at h
    exact h.1
theorem goC_mono (w : Nat → Int32) (cs : List zCl) (p t : Nat) (mm : Int32) (k i : Nat) {x : Nat} (hx : x < 12) (h : hb (goC w cs p t mm (k + i)) x = true) : hb (goC w cs p t mm k) x = true := by
  induction i with
  | zero => exact h
  | succ i ih => exact ih (goC_sub w cs p t mm (k + i) hx h)
/-- what the guest's temptations rest on is the same, but for what was lost out of reach -/
def Sm (w w' : Nat → Int32) (p : Nat) (mm : Int32) : Prop := (∀ x, x < 12 → w' x = w x) ∧ w' (24 + p) = w (24 + p) ∧ w' (30 + p) = w (30 + p) ∧ w' (48 + p) = w (48 + p) ∧ (∀ k, k < 4 → w' (54 + (4 * p + k)) = w (54 + (4 * p + k))) ∧ ∀ x, x < 12 → hb mm x = true → hb (w' (42 + p)) x = hb (w (42 + p)) x
theorem preyV_congr {w w' : Nat → Int32} (cs : List zCl) {p : Nat} {mm : Int32} (n : Int32) (h : Sm w w' p mm) : preyV w' cs p mm n = preyV w cs p mm n := by
  obtain ⟨h1, h2, h3, h4, h5, h6⟩ := h
  have e : pk (fun x => temV w' cs p x n) (fun x => hb mm x) 12 = pk (fun x => temV w cs p x n) (fun x => hb mm x) 12 := by
    refine pk_congr (fun x hx => rfl) fun x hx hq => ?_
    exact temV_congr cs n (h1 x hx) h2 h3 (by rw [zhas_hb (by omega), zhas_hb (by omega), h6 x hx hq]) h5
  unfold preyV
  rw [h4, e]
/-- views that follow each other, as one guest sees them -/
def Sq (w : Nat → Int32) (cs : List zCl) (p t N : Nat) (W : Nat → Nat → Int32) : Prop := W 0 (42 + p) = w (42 + p) ∧ (∀ k, k < N → W (k + 1) (36 + p) = zwo (W k (36 + p)) (pyV cs (W k) p) ∧ W (k + 1) (42 + p) = zor_ (W k (42 + p)) (pyV cs (W k) p)) ∧ ∀ k, k ≤ N → W k 135 = nI (t + k) ∧ (∀ x, x < 12 → W k x = w x) ∧ W k (24 + p) = w (24 + p) ∧ W k (30 + p) = w (30 + p) ∧ W k (48 + p) = w (48 + p) ∧ ∀ j, j < 4 → W k (54 + (4 * p + j)) = w (54 + (4 * p + j))
theorem Sq.go {w : Nat → Int32} {cs : List zCl} {p t N : Nat} {W : Nat → Nat → Int32} (h : Sq w cs p t N W) : ∀ k, k ≤ N → W k (36 + p) = goC w cs p t (W 0 (36 + p)) k ∧ ∀ x, x < 12 → hb (W k (36 + p)) x = true → hb (W k (42 + p)) x = hb (w (42 + p)) x := by
  obtain ⟨h0, h1, h2⟩ := h
  intro k
  induction k with
  | zero => intro _; exact ⟨rfl, fun x _ _ => by rw [h0]⟩
  | succ k ih =>
    intro hk
    obtain ⟨a, b⟩ := ih (by omega)
    obtain ⟨c1, c2⟩ := h1 k (by omega)
    obtain ⟨d1, d2, d3, d4, d5, d6⟩ := h2 k (by omega)
    have ep : pyV cs (W k) p = preyV w cs p (goC w cs p t (W 0 (36 + p)) k) (nI (t + k)) := by
      unfold pyV
      rw [preyV_congr cs (W k 135) ⟨d2, d3, d4, d5, d6, b⟩, d1, a]
    refine ⟨?_, fun x hx hq => ?_⟩
    · rw [c1, ep, a]; rfl
    · rw [c2]
      rw [c1] at hq
      rcases pyV_ok cs (W k) p with e | ⟨y, hy, e⟩
      · rw [e, zwo_m] at hq
        rw [e]
        unfold zor_
        rw [if_pos rfl]
        exact b x hx hq
      · rw [e, hb_zwo _ hy (by omega)] at hq
        simp only [Bool.and_eq_true, Bool.not_eq_true', decide_eq_false_iff_not] at hq
        rw [e, hb_zor_ _ hy, decide_eq_false hq.2, Bool.or_false]
        exact b x hx hq.1
theorem Sq_nights (cs : List zCl) {B inns p t : Nat} {w : Nat → Int32} (hW : Wok B inns w) (ht : w 135 = nI t) (hp : p < cn (w 134)) (N : Nat) : Sq w cs p t N (fun k => nightsV cs k w) := by
  obtain ⟨n, n1, n2, n3⟩ := hW.n
  have off := fun k j (hj : j < 12 ∨ (24 ≤ j ∧ j < 36) ∨ (48 ≤ j ∧ j ≠ 135)) => nightsV_off cs hW k hj
  refine ⟨rfl, fun k hk => ?_, fun k hk => ⟨nightsV_t cs ht k, fun x hx => off k x (by omega), off k _ (by omega), off k _ (by omega), off k _ (by omega), fun j hj => off k _ (by omega)⟩⟩
  have e : nightsV cs k w 134 = w 134 := off k 134 (by omega)
  exact nightV_m cs (w := nightsV cs k w) (by rw [e]; omega) (by rw [e]; exact hp)
/-- a night as one guest knows it alone -/
def oneV (cs : List zCl) (p : Nat) (w : Nat → Int32) : Nat → Int32 := upd (upd (upd w (36 + p) (zwo (w (36 + p)) (pyV cs w p))) (42 + p) (zor_ (w (42 + p)) (pyV cs w p))) 135 (w 135 + 1)
def onesV (cs : List zCl) (p : Nat) : Nat → (Nat → Int32) → Nat → Int32
  | 0, w => w
  | k + 1, w => oneV cs p (onesV cs p k w)
theorem onesV_off (cs : List zCl) {p : Nat} (w : Nat → Int32) : ∀ (k : Nat) {j : Nat}, j ≠ 36 + p → j ≠ 42 + p → j ≠ 135 → onesV cs p k w j = w j := by
  intro k
  induction k with
  | zero => intro j _ _ _; rfl
  | succ k ih =>
    intro j h1 h2 h3
    show oneV cs p (onesV cs p k w) j = w j
    unfold oneV
    rw [up_n _ _ h3, up_n _ _ h2, up_n _ _ h1]
    exact ih h1 h2 h3
theorem onesV_t (cs : List zCl) {p : Nat} (hp : p < 6) {w : Nat → Int32} {t : Nat} (ht : w 135 = nI t) : ∀ k, onesV cs p k w 135 = nI (t + k) := by
  intro k
  induction k with
  | zero => exact ht
  | succ k ih =>
    show oneV cs p (onesV cs p k w) 135 = _
    unfold oneV
    rw [up_s, ih, nI_1]
    rfl
theorem Sq_ones (cs : List zCl) {p t : Nat} (hp : p < 6) {w : Nat → Int32} (ht : w 135 = nI t) (N : Nat) : Sq w cs p t N (fun k => onesV cs p k w) := by
  have off := fun k j (h1 : j ≠ 36 + p) (h2 : j ≠ 42 + p) (h3 : j ≠ 135) => onesV_off cs (p := p) w k h1 h2 h3
  refine ⟨rfl, fun k hk => ?_, fun k hk => ⟨onesV_t cs hp ht k, fun x hx => off k x (by omega) (by omega) (by omega), off k _ (by omega) (by omega) (by omega), off k _ (by omega) (by omega) (by omega), off k _ (by omega) (by omega) (by omega), fun j hj => off k _ (by omega) (by omega) (by omega)⟩⟩
  show oneV cs p (onesV cs p k w) (36 + p) = _ ∧ oneV cs p (onesV cs p k w) (42 + p) = _
  unfold oneV
  rw [up_n _ _ (by omega), up_n _ _ (by omega), up_s, up_n _ _ (by omega), up_s]
  exact ⟨rfl, rfl⟩
theorem goC_w {w w' : Nat → Int32} (cs : List zCl) {p : Nat} (t : Nat) (mm : Int32) (h : ∀ m, Sm w w' p m) : ∀ k, goC w' cs p t mm k = goC w cs p t mm k := by
  intro k
  induction k with
  | zero => rfl
  | succ k ih =>
    show zwo (goC w' cs p t mm k) (preyV w' cs p (goC w' cs p t mm k) (nI (t + k))) = zwo (goC w cs p t mm k) (preyV w cs p (goC w cs p t mm k) (nI (t + k)))
    rw [ih, preyV_congr cs _ (h _)]
/-- the first from i on, of k, by which f is so -/
def fstV (f : Nat → Prop) [DecidablePred f] : Nat → Nat → Int32
  | 0, _ => -5
  | k + 1, i => if f i then nI i else fstV f k (i + 1)
/-- the Lure of the guest p, its object g, ready -/
def LSt (I0 J : Nat → Nat → Int32) (M : Nat → Nat → Option Nat) (g p : Nat) (w : Nat → Int32) (cs : List zCl) : Prop := (∀ a j, a < 163 ∨ 253 ≤ a → J a j = I0 a j) ∧ LU J M (163 + 15 * p) 3 g p w cs ∧ LV J (163 + 15 * p) (LG w cs p) (-1)
section SM
variable {C : zC} {I I' : Nat → Nat → Int32} {L L' : Nat → Nat → Int64} {M : Nat → Nat → Option Nat}
theorem sp_preyL (d : Nat) {J : Nat → Nat → Int32} {g p t : Nat} {w : Nat → Int32} {cs : List zCl} (h : LSt I J M g p w cs) (ht : t < 2 ^ 31) (mm : Int32) (K : KI) (hK : ∀ J', LSt I J' M g p w cs → K (preyV w cs p mm (nI t)) J' L M) : zCI C Y_X3_prey (d + 4) [.ref (163 + 15 * p), .int mm, .int (nI t)] (zmk J L M) K := by
  obtain ⟨h1, h2, h3⟩ := h
  have hp6 : p < 6 := h2.2.2.2.2.2.2.2.2.1
  exact sp_preyC d h2 ht h3 mm (fun k hk _ => hb_m1 k (by omega)) K fun J' a b => hK J' ⟨fun a' j q => (a a' j (by omega)).trans (h1 a' j q), LU_c (fun a' j q => a a' j (by omega)) h2, b⟩
theorem sp_lureOf (d : Nat) {g p : Nat} {w : Nat → Int32} {cs : List zCl} (hp : p < 6) (hg : zGu g) (hg2 : g < 138) (e0 : I g 0 = nI p) (hH : ∃ h, M 3 5 = some (hid h) ∧ Hs I h cs) (hG : GP I 3 g p w) (hB : GB w p) (K : Nat → (Nat → Nat → Int32) → (Nat → Nat → Int64) → (Nat → Nat → Option Nat) → Prop) (hK : ∀ J M', LSt I J M' g p w cs → M' 3 5 = M 3 5 → M' 48 5 = M 48 5 → K (163 + 15 * p) J L M') : zCR C Y_X10_lureOf (d + 3) [.ref 0, .ref g] (zmk I L M) K := by
  refine t_X10_lureOf d hg _ ?_
  rw [e0, nI_clamp (by omega)]
  refine ⟨vp_in_nI hp (by omega), sp_settle1 d (hL p hp) i0 hg _ fun J a b => ?_⟩
  obtain ⟨x, x1, x2⟩ := hH
  refine hK J _ ⟨fun a' j q => a a' j (by omega), ?_, fun t ht => Or.inl (b t ht)⟩ ?_ ?_
  · refine LU_c (I := I) (fun a' j q => a a' j (by omega)) ⟨hL p hp, i0, hg, ?_, ?_, ⟨x, ?_, x2⟩, hG, hB, hp, by omega, by omega, by omega, hg2⟩
    · rw [u2_n2 _ _ (by omega), u2_same]
    · rw [u2_same]
    · rw [u2_n1 _ _ (by omega), u2_n1 _ _ (by omega)]; exact x1
  · rw [u2_n1 _ _ (by omega), u2_n1 _ _ (by omega)]
  · rw [u2_n1 _ _ (by omega), u2_n1 _ _ (by omega)]
/-- .. of a guest as it is now -/
theorem sp_lureN (d : Nat) (h : Inv I L M) {cs : List zCl} (hH : Hs I (cur I 139) cs) {p : Nat} (hp : p < cn (cur I 134)) (hp6 : p < 6) (K : Nat → (Nat → Nat → Int32) → (Nat → Nat → Int64) → (Nat → Nat → Option Nat) → Prop) (hK : ∀ J M', LSt I J M' (3 + 33 + 2 * p) p (cur I) cs → M' 3 5 = M 3 5 → M' 48 5 = M 48 5 → K (163 + 15 * p) J L M') : zCR C Y_X10_lureOf (d + 3) [.ref 0, .ref (3 + 33 + 2 * p)] (zmk I L M) K :=
  sp_lureOf d hp6 (gI i0 p hp6) (by omega) (h.nm.1 p hp6) ⟨cur I 139, h.2.1.2, hH⟩ (InnR_gp (fun _ _ => trivial) h.2.1 h.nm.1 hp hp6) (h.1.gb hp) K hK
theorem LSt.inv (h : Inv I L M) {J : Nat → Nat → Int32} {M' : Nat → Nat → Option Nat} {g p : Nat} {w : Nat → Int32} {cs : List zCl} (q : LSt I J M' g p w cs) : rI J = rI I ∧ cur J = cur I ∧ cv J 3 = cv I 3 := ⟨rI_eq fun a j z => q.1 a j (by unfold Ra at z; omega), cur_low fun a ha => funext fun j => q.1 a j (by omega), cv_far fun a ha hb => funext fun j => q.1 a j (by omega)⟩
theorem Inv.no (h : Inv I L M) {x1 : Int32} (q : ¬ (0 ≤ x1 ∧ x1 < I 3 3)) : ¬ (0 ≤ x1 ∧ x1 ≤ I 265 2 - 1) := h.ng q
/-- NIGHTS until it means nothing: the class's -/
theorem sp_emC (d : Nat) (h : Inv I L M) {cs : List zCl} (hH : Hs I (cur I 139) cs) {p t : Nat} (hp : p < cn (cur I 134)) (hp6 : p < 6) (ht : cur I 135 = nI t) (ht2 : t ≤ 9999) (K : KI) (hK : ∀ J M', LSt I J M' (3 + 33 + 2 * p) p (cur I) cs → M' 3 5 = M 3 5 → M' 48 5 = M 48 5 → K (fstV (fun i => goC (cur I) cs p t (cur I (36 + p)) i = 0) 61 0) J L M') : zCI C Y_X10_nightsToEmpty (d + 5) [.ref 0, .ref (3 + 33 + 2 * p)] (zmk I L M) K := by
  have hg := gI i0 p hp6
  have hlv := live_g hp hp6
  have e3 : I (3 + 33 + 2 * p) 3 = cur I (36 + p) := by
    rw [cur_at (l_m p hp6) (by omega)]
    exact h.at (by omega) hlv.2.2.1 (l_m p hp6) (c_m 3 hp6)
  have e4 : I 3 4 = nI t := (h.at (k := 135) (by omega) (by unfold live; omega) rfl rfl).trans ht
  refine t_X10_nightsToEmpty d hg _ (sp_lureN (d + 1) h hH hp hp6 _ fun J M' hS m1 m2 => ⟨hL p hp6, ?_⟩)
  rw [hS.1 _ _ (by omega), e3]
  have key : ∀ (k i : Nat) (J : Nat → Nat → Int32), i + k = 61 → LSt I J M' (3 + 33 + 2 * p) p (cur I) cs → (∀ J, LSt I J M' (3 + 33 + 2 * p) p (cur I) cs → K (fstV (fun i => goC (cur I) cs p t (cur I (36 + p)) i = 0) k i) J L M') → zSI C (zmk I L M) K Y_X10_nightsToEmpty (d + 5) 14 [(0, .ref 0), (2, .ref (163 + 15 * p)), (3, .int (goC (cur I) cs p t (cur I (36 + p)) i)), (4, .int (nI i))] [] J L M' := by
    intro k
    induction k with
    | zero =>
      intro i J hi hS hK
      refine t_X10_nightsToEmpty_14 d hg (hL p hp6) _ _ _ (br_t ((nI_lt_iff (a := 60) (by omega) (by omega)).mpr (by omega)) ?_)
      exact hK J hS
    | succ k ih =>
      intro i J hi hS hK
      refine t_X10_nightsToEmpty_14 d hg (hL p hp6) _ _ _ (br_f (fun z => by have := (nI_lt_iff (a := 60) (b := i) (by omega) (by omega)).mp z; omega) ⟨fun z => ?_, fun z => ?_⟩)
      · rw [hS.1 3 4 (by omega), e4, nI_add]
        refine sp_preyL d hS (by omega) _ _ fun J' hS' => ?_
        rw [nI_1]
        refine ih (i + 1) J' (by omega) hS' fun J2 h2 => ?_
        have := hK J2 h2
        unfold fstV at this
        rw [if_neg z] at this
        exact this
      · have := hK J hS
        unfold fstV at this
        rw [if_pos z] at this
        exact this
  exact key 61 0 J rfl hS fun J hJ => hK J M' hJ m1 m2
end SM
