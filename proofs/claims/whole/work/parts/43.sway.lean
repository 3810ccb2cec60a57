/-! THE SWAY OF A HOUSE: the class's row of steps -/
theorem sm1 : ((1 : Int32) &&& 31).toBitVec.smod 32 = 1#32 := by decide
theorem hb_shl (a : Int32) (k : Nat) : hb (a <<< ((1 : Int32) &&& 31)) k = (decide (k < 32) && decide (1 ≤ k) && hb a (k - 1)) := by
  unfold hb
  rw [Int32.toBitVec_shiftLeft, sm1, BitVec.shiftLeft_eq', BitVec.getLsbD_shiftLeft]
  by_cases h : k < 32
  · by_cases h2 : k < 1
    · have : k = 0 := by omega
      subst this
      rfl
    · simp [h, show 1 ≤ k by omega, show ¬ k = 0 by omega]
  · simp [h]
theorem hb_shr (a : Int32) (k : Nat) : hb ((a.toUInt32 >>> ((1 : Int32).toUInt32 &&& Int32.toUInt32 31)).toInt32) k = hb a (k + 1) := by
  unfold hb
  show ((a.toUInt32 >>> ((1 : Int32).toUInt32 &&& Int32.toUInt32 31)).toBitVec).getLsbD k = _
  rw [UInt32.toBitVec_shiftRight]
  have : (((1 : Int32).toUInt32 &&& Int32.toUInt32 31).toBitVec % 32) = 1#32 := by decide
  rw [this, BitVec.ushiftRight_eq', BitVec.getLsbD_ushiftRight, Nat.add_comm]
  rfl
/-- the open answers, as bits, the newest lowest -/
def Bt (s : List Bool) (y : Int32) : Prop := ∀ k, k < 32 → hb y k = s.getD k false
theorem Bt_0 : Bt [] 0 := fun k _ => by rw [hb_0]; rfl
theorem hb_n1 : ∀ k, k < 32 → hb 1 k = decide (k = 0) := by decide +kernel
theorem hb_m2 : ∀ k, k < 32 → hb (-2) k = decide (k ≠ 0) := by decide +kernel
theorem Bt_push {s : List Bool} {y : Int32} (h : Bt s y) (hs : s.length < 31) (b : Bool) : Bt (b :: s) ((y <<< ((1 : Int32) &&& 31)) ||| (if b then 1 else 0)) := by
  intro k hk
  rw [hb_or, hb_shl]
  have e : hb (if b then 1 else 0) k = (b && decide (k = 0)) := by
    cases b
    · rw [if_neg (by decide), hb_0]; rfl
    · rw [if_pos rfl, hb_n1 k hk]; simp
  rw [e]
  cases k with
  | zero => simp
  | succ k =>
    rw [Nat.add_sub_cancel, h k (by omega)]
    simp [hk]
theorem Bt_not {b : Bool} {s : List Bool} {y : Int32} (h : Bt (b :: s) y) : Bt ((!b) :: s) (y ^^^ 1) := by
  intro k hk
  rw [hb_xor, h k hk, hb_n1 k hk]
  cases k with
  | zero => cases b <;> rfl
  | succ k => simp
theorem Bt_and {a b : Bool} {s : List Bool} {y : Int32} (h : Bt (b :: a :: s) y) (hs : s.length < 30) : Bt ((a && b) :: s) (((y.toUInt32 >>> ((1 : Int32).toUInt32 &&& Int32.toUInt32 31)).toInt32) &&& ((y &&& 1) ||| (-2))) := by
  intro k hk
  have e : hb y (k + 1) = (a :: s).getD k false := by
    by_cases q : k + 1 < 32
    · rw [h (k + 1) q]; rfl
    · rw [hb_big _ (by omega), List.getD_eq_getElem?_getD, List.getElem?_eq_none (by simp; omega)]
      rfl
  rw [hb_and, hb_shr, hb_or, hb_and, hb_n1 k hk, hb_m2 k hk, e]
  cases k with
  | zero =>
    rw [h 0 (by omega)]
    simp
  | succ k => simp
theorem Bt_or {a b : Bool} {s : List Bool} {y : Int32} (h : Bt (b :: a :: s) y) (hs : s.length < 30) : Bt ((a || b) :: s) (((y.toUInt32 >>> ((1 : Int32).toUInt32 &&& Int32.toUInt32 31)).toInt32) ||| (y &&& 1)) := by
  intro k hk
  have e : hb y (k + 1) = (a :: s).getD k false := by
    by_cases q : k + 1 < 32
    · rw [h (k + 1) q]; rfl
    · rw [hb_big _ (by omega), List.getD_eq_getElem?_getD, List.getElem?_eq_none (by simp; omega)]
      rfl
  rw [hb_or, hb_shr, hb_and, hb_n1 k hk, e]
  cases k with
  | zero =>
    rw [h 0 (by omega)]
    simp
  | succ k => simp
theorem Bt_one {s : List Bool} {y : Int32} (h : Bt s y) : y &&& 1 = 1 ↔ s.getD 0 false = true := by
  rw [← h 0 (by omega)]
  rcases zand1 y with e | e
  · have : hb (y &&& 1) 0 = false := by rw [e, hb_0]
    rw [hb_and, hb_n1 0 (by omega)] at this
    simp at this
    rw [this, e]
    decide
  · have : hb (y &&& 1) 0 = true := by rw [e, hb_n1 0 (by omega)]; rfl
    rw [hb_and, hb_n1 0 (by omega)] at this
    simp at this
    rw [this, e]
    decide
theorem stp_dec : ∀ c, c < 1803 → 3 ≤ c → 0 ≤ stp c ∧ stp c < 1048477 ∧ (stp c >>> ((14 : Int32) &&& 31)) &&& 7 = nI ((c - 3) / 300) ∧ (stp c >>> ((7 : Int32) &&& 31)) &&& 127 = nI (if (c - 3) / 100 % 3 = 0 then 0 else if (c - 3) / 100 % 3 = 1 then (c - 3) % 100 else (c - 3) % 100 + 1) ∧ stp c &&& 127 = nI (if (c - 3) / 100 % 3 = 0 then (c - 3) % 100 else if (c - 3) / 100 % 3 = 1 then (c - 3) % 100 + 1 else 127) := by decide +kernel
theorem ev_dep (f : Nat → Int32) : ∀ (l : List Nat) (s : List Bool) (m : Nat), dep l s.length = some m → ∃ s', ev f l s = some s' ∧ s'.length = m := by
  intro l
  induction l with
  | nil =>
    intro s m h
    exact ⟨s, rfl, by simpa [dep] using h⟩
  | cons c l ih =>
    intro s m h
    unfold dep at h
    unfold ev
    by_cases h3 : 3 ≤ c
    · rw [if_pos h3] at h ⊢
      by_cases h30 : s.length < 30
      · rw [if_pos h30] at h
        exact ih (tkT f c :: s) m (by simpa using h)
      · rw [if_neg h30] at h
        exact absurd h (by simp)
    · rw [if_neg h3] at h ⊢
      by_cases h0 : c = 0
      · rw [if_pos h0] at h
        cases s with
        | nil => exact absurd h (by simp)
        | cons b r =>
          simp only [h0, if_true]
          exact ih ((!b) :: r) m (by simpa using h)
      · rw [if_neg h0] at h
        cases s with
        | nil => exact absurd h (by simp)
        | cons b r =>
          simp only [h0, if_false]
          cases r with
          | nil => exact absurd h (by simp)
          | cons a q =>
            simp only
            exact ih _ m (by simpa using h)
/-- facts that the class's tests read as the model's do -/
def Fok (f : Nat → Int32) : Prop := ∀ c, c < 6 → ∃ j, j ≤ 99 ∧ f c = nI j
section SM
variable {C : zC} {I I' : Nat → Nat → Int32} {L L' : Nat → Nat → Int64} {M : Nat → Nat → Option Nat}
/-- the steps of one expression, from place i on -/
theorem sw_tok (d : Nat) {h0 : zH} {o a n N : Nat} (ho : zHo o) (ha : zsh a = (12, n)) (hn : 8 ≤ n) (hn2 : n < 2 ^ 31) {f : Nat → Int32} (hf : Fok f) (hfa : ∀ c, c < 6 → I a c = f c) (hN : I o 2 = nI N) (hN2 : N ≤ 100) (K : KI) (sum : Int32) : ∀ (l : List Nat) (s s' : List Bool) (i : Nat) (y : Int32) (m : Nat), (∀ c ∈ l, c < 1803) → dep l s.length = some m → ev f l s = some s' → s.length ≤ 30 → i + l.length < N → (∀ j, j < l.length → I (o + 1) (i + j) = (l.map stp).getD j 0) → Bt s y → (∀ y', Bt s' y' → zSI C h0 K Y_X1_sway (d + 1) 7 [(0, .ref o), (1, .ref a), (2, .int sum), (3, .int y'), (4, .int (nI (i + l.length)))] [] I L M) → zSI C h0 K Y_X1_sway (d + 1) 7 [(0, .ref o), (1, .ref a), (2, .int sum), (3, .int y), (4, .int (nI i))] [] I L M := by
  intro l
  induction l with
  | nil =>
    intro s s' i y m _ _ he _ _ _ hb hK
    have : s = s' := by simpa [ev] using he
    subst this
    exact hK y hb
  | cons c l ih =>
    intro s s' i y m hc hdp he hs hi hst hb hK
    have hc0 : c < 1803 := hc c (by simp)
    have hcl : ∀ c ∈ l, c < 1803 := fun x hx => hc x (by simp [hx])
    rw [List.length_cons] at hi
    have hst0 : I (o + 1) i = stp c := by
      have := hst 0 (by simp)
      simpa using this
    have hst1 : ∀ j, j < l.length → I (o + 1) (i + 1 + j) = (l.map stp).getD j 0 := fun j hj => by
      have := hst (j + 1) (by simp; omega)
      rw [show i + 1 + j = i + (j + 1) by omega, this]
      simp
    have hK' : ∀ y', Bt s' y' → zSI C h0 K Y_X1_sway (d + 1) 7 [(0, .ref o), (1, .ref a), (2, .int sum), (3, .int y'), (4, .int (nI (i + 1 + l.length)))] [] I L M := fun y' hy => by
      have := hK y' hy
      rw [List.length_cons, show i + (l.length + 1) = i + 1 + l.length by omega] at this
      exact this
    have hcli := nI_clamp (n := i) (by omega)
    have hle : ¬ I o 2 ≤ nI i := fun z => by rw [hN] at z; have := (nI_le_iff (a := N) (b := i) (by omega) (by omega)).mp z; omega
    refine t_X1_sway_7 d ho ha _ _ _ _ (br_f hle ⟨vp_in_nI (by omega) (by omega), ?_⟩)
    rw [hcli, hst0, nI_1]
    unfold dep at hdp
    unfold ev at he
    by_cases h3 : 3 ≤ c
    · rw [if_pos h3] at hdp he
      obtain ⟨q1, q2, q3, q4, q5⟩ := stp_dec c hc0 h3
      have h30 : s.length < 30 := by
        apply Classical.byContradiction
        intro q
        rw [if_neg q] at hdp
        exact absurd hdp (by simp)
      rw [if_pos h30] at hdp
      have hL6 : (c - 3) / 300 < 6 := by omega
      obtain ⟨v, hv, ev'⟩ := hf _ hL6
      have fin : ∀ b : Bool, tkT f c = b → zSI C h0 K Y_X1_sway (d + 1) 7 [(0, .ref o), (1, .ref a), (2, .int sum), (3, .int ((y <<< ((1 : Int32) &&& 31)) ||| (if b then 1 else 0))), (4, .int (nI (i + 1)))] [] I L M := by
        intro b hbt
        rw [hbt] at he
        exact ih (b :: s) s' (i + 1) _ m hcl (by simpa using hdp) he (by simp; omega) (by omega) hst1 (Bt_push hb (by omega) b) hK'
      have no : tkT f c = false → zSI C h0 K Y_X1_sway (d + 1) 100 [(0, .ref o), (1, .ref a), (2, .int sum), (3, .int y), (4, .int (nI i))] [] I L M := fun q => t_X1_sway_100 d ho ha _ _ _ _ (t_X1_sway_101 d ho ha _ _ _ _ _ (br_t rfl (by rw [nI_1]; exact fin false q)))
      have yes : tkT f c = true → zSI C h0 K Y_X1_sway (d + 1) 101 [(0, .ref o), (1, .ref a), (2, .int sum), (3, .int y), (4, .int (nI i))] [.int 1] I L M := fun q => t_X1_sway_101 d ho ha _ _ _ _ _ (br_f (by decide) (by rw [nI_1]; exact fin true q))
      refine br_t q2 (br_f (le_nlt q1) ?_)
      rw [q3, q4, q5, nI_clamp (by omega), hfa _ hL6, ev']
      refine ⟨vp_in_nI (by omega) hn2, ?_⟩
      unfold tkT at no yes
      rw [ev'] at no yes
      have h100 : (c - 3) % 100 < 100 := Nat.mod_lt _ (by omega)
      by_cases r0 : (c - 3) / 100 % 3 = 0
      · simp only [if_pos r0] at no yes ⊢
        rw [show (127 : Int32) = nI 127 from rfl] at *
        refine br_f (fun z => by have := (nI_lt_iff (a := v) (b := 0) (by omega) (by omega)).mp z; omega) ⟨fun z => no (decide_eq_false fun z2 => ?_), fun z => yes (decide_eq_true ?_)⟩
        · have := (nI_le_iff (by omega) (by omega)).mp z
          have := (nI_lt_iff (by omega) (by omega)).mp z2
          omega
        · have : ¬ (c - 3) % 100 ≤ v := fun q => z ((nI_le_iff (by omega) (by omega)).mpr q)
          exact (nI_lt_iff (by omega) (by omega)).mpr (by omega)
      · by_cases r1 : (c - 3) / 100 % 3 = 1
        · simp only [if_neg r0, if_pos r1] at no yes ⊢
          refine ⟨fun z => no (decide_eq_false fun z2 => ?_), fun z0 => ⟨fun z => no (decide_eq_false fun z2 => ?_), fun z => yes (decide_eq_true ?_)⟩⟩
          · rw [z2] at z
            exact absurd ((nI_lt_iff (by omega) (by omega)).mp z) (by omega)
          · rw [z2] at z
            exact absurd ((nI_le_iff (by omega) (by omega)).mp z) (by omega)
          · have a1 : ¬ v < (c - 3) % 100 := fun q => z0 ((nI_lt_iff (by omega) (by omega)).mpr q)
            have a2 : ¬ (c - 3) % 100 + 1 ≤ v := fun q => z ((nI_le_iff (by omega) (by omega)).mpr q)
            rw [show v = (c - 3) % 100 by omega]
        · simp only [if_neg r0, if_neg r1] at no yes ⊢
          refine ⟨fun z => no (decide_eq_false fun z2 => ?_), fun z0 => ⟨fun z => ?_, fun z => yes (decide_eq_true ?_)⟩⟩
          · have := (nI_lt_iff (by omega) (by omega)).mp z
            have := (nI_lt_iff (by omega) (by omega)).mp z2
            omega
          · have := (nI_le_iff (by omega) (by omega)).mp z
            omega
          · have a1 : ¬ v < (c - 3) % 100 + 1 := fun q => z0 ((nI_lt_iff (by omega) (by omega)).mpr q)
            exact (nI_lt_iff (by omega) (by omega)).mpr (by omega)
    · rw [if_neg h3] at hdp he
      have hneg : stp c < 1048477 ∧ stp c < 0 := (by decide : ∀ c, c < 3 → stp c < 1048477 ∧ stp c < 0) c (by omega)
      refine br_t hneg.1 (br_t hneg.2 ?_)
      cases s with
      | nil =>
        by_cases h0 : c = 0
        · rw [if_pos h0] at hdp; exact absurd hdp (by simp)
        · rw [if_neg h0] at hdp; exact absurd hdp (by simp)
      | cons b r =>
        by_cases h0 : c = 0
        · rw [if_pos h0] at hdp
          subst h0
          simp only [if_true] at he
          exact br_t' (by decide) (ih ((!b) :: r) s' (i + 1) _ m hcl (by simpa using hdp) he (by simpa using hs) (by omega) hst1 (Bt_not hb) hK')
        · rw [if_neg h0] at hdp
          cases r with
          | nil => exact absurd hdp (by simp)
          | cons a' q =>
            simp only [h0, if_false] at he
            rw [List.length_cons, List.length_cons] at hs
            rcases (by omega : c = 1 ∨ c = 2) with rfl | rfl
            · refine br_f' (by decide) (br_t' (by decide) (ih ((a' && b) :: q) s' (i + 1) _ m hcl (by simpa using hdp) he (by simp; omega) (by omega) hst1 (Bt_and hb (by omega)) hK'))
            · refine br_f' (by decide) (br_f' (by decide) (ih ((a' || b) :: q) s' (i + 1) _ m hcl (by simpa using hdp) he (by simp; omega) (by omega) hst1 (Bt_or hb (by omega)) hK'))
end SM
