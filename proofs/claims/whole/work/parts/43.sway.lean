/-! THE SWAY OF A HOUSE: the class's row of steps -/
theorem sm1 : ((1 : Int32) &&& 31).toBitVec.smod 32 = 1#32 := by decide
theorem hb_shl (a : Int32) (k : Nat) : hb (a <<< ((1 : Int32) &&& 31)) k = (decide (k < 32) && decide (1 ≤ k) && hb a (k - 1)) := by
  unfold hb
  rw [Int32.toBitVec_shiftLeft, sm1, BitVec.shiftLeft_eq', BitVec.getLsbD_shiftLeft]
  by_cases h : k < 32
  · by_cases h2 : k < 1
    · have : k = 0 := by omega
      subst this
      rfl
    · simp [h, show 1 ≤ k by omega, show ¬ k = 0 by omega]
  · simp [h]
theorem hb_shr (a : Int32) (k : Nat) : hb ((a.toUInt32 >>> ((1 : Int32).toUInt32 &&& Int32.toUInt32 31)).toInt32) k = hb a (k + 1) := by
  unfold hb
  show ((a.toUInt32 >>> ((1 : Int32).toUInt32 &&& Int32.toUInt32 31)).toBitVec).getLsbD k = _
  rw [UInt32.toBitVec_shiftRight]
  have : (((1 : Int32).toUInt32 &&& Int32.toUInt32 31).toBitVec % 32) = 1#32 := by decide
  rw [this, BitVec.ushiftRight_eq', BitVec.getLsbD_ushiftRight, Nat.add_comm]
  rfl
/-- the open answers, as bits, the newest lowest -/
def Bt (s : List Bool) (y : Int32) : Prop := ∀ k, k < 32 → hb y k = s.getD k false
theorem Bt_0 : Bt [] 0 := fun k _ => by rw [hb_0]; rfl
theorem hb_n1 : ∀ k, k < 32 → hb 1 k = decide (k = 0) := by decide +kernel
theorem hb_m2 : ∀ k, k < 32 → hb (-2) k = decide (k ≠ 0) := by decide +kernel
theorem Bt_push {s : List Bool} {y : Int32} (h : Bt s y) (hs : s.length < 31) (b : Bool) : Bt (b :: s) ((y <<< ((1 : Int32) &&& 31)) ||| (if b then 1 else 0)) := by
  intro k hk
  rw [hb_or, hb_shl]
  have e : hb (if b then 1 else 0) k = (b && decide (k = 0)) := by
    cases b
    · rw [if_neg (by decide), hb_0]; rfl
    · rw [if_pos rfl, hb_n1 k hk]; simp
  rw [e]
  cases k with
  | zero => simp
  | succ k =>
    rw [Nat.add_sub_cancel, h k (by omega)]
    simp [hk]
theorem Bt_not {b : Bool} {s : List Bool} {y : Int32} (h : Bt (b :: s) y) : Bt ((!b) :: s) (y ^^^ 1) := by
  intro k hk
  rw [hb_xor, h k hk, hb_n1 k hk]
  cases k with
  | zero => cases b <;> rfl
  | succ k => simp
theorem Bt_and {a b : Bool} {s : List Bool} {y : Int32} (h : Bt (b :: a :: s) y) (hs : s.length < 30) : Bt ((a && b) :: s) (((y.toUInt32 >>> ((1 : Int32).toUInt32 &&& Int32.toUInt32 31)).toInt32) &&& ((y &&& 1) ||| (-2))) := by
  intro k hk
  have e : hb y (k + 1) = (a :: s).getD k false := by
    by_cases q : k + 1 < 32
    · rw [h (k + 1) q]; rfl
    · rw [hb_big _ (by omega), List.getD_eq_getElem?_getD, List.getElem?_eq_none (by simp; omega)]
      rfl
  rw [hb_and, hb_shr, hb_or, hb_and, hb_n1 k hk, hb_m2 k hk, e]
  cases k with
  | zero =>
    rw [h 0 (by omega)]
    simp
  | succ k => simp
theorem Bt_or {a b : Bool} {s : List Bool} {y : Int32} (h : Bt (b :: a :: s) y) (hs : s.length < 30) : Bt ((a || b) :: s) (((y.toUInt32 >>> ((1 : Int32).toUInt32 &&& Int32.toUInt32 31)).toInt32) ||| (y &&& 1)) := by
  intro k hk
  have e : hb y (k + 1) = (a :: s).getD k false := by
    by_cases q : k + 1 < 32
    · rw [h (k + 1) q]; rfl
    · rw [hb_big _ (by omega), List.getD_eq_getElem?_getD, List.getElem?_eq_none (by simp; omega)]
      rfl
  rw [hb_or, hb_shr, hb_and, hb_n1 k hk, e]
  cases k with
  | zero =>
    rw [h 0 (by omega)]
    simp
  | succ k => simp
theorem Bt_one {s : List Bool} {y : Int32} (h : Bt s y) : y &&& 1 = 1 ↔ s.getD 0 false = true := by
  rw [← h 0 (by omega)]
  rcases zand1 y with e | e
  · have : hb (y &&& 1) 0 = false := by rw [e, hb_0]
    rw [hb_and, hb_n1 0 (by omega)] at this
    simp at this
    rw [this, e]
    decide
  · have : hb (y &&& 1) 0 = true := by rw [e, hb_n1 0 (by omega)]; rfl
    rw [hb_and, hb_n1 0 (by omega)] at this
    simp at this
    rw [this, e]
    decide
theorem stp_dec : ∀ c, c < 1803 → 3 ≤ c → 0 ≤ stp c ∧ stp c < 1048477 ∧ (stp c >>> ((14 : Int32) &&& 31)) &&& 7 = nI ((c - 3) / 300) ∧ (stp c >>> ((7 : Int32) &&& 31)) &&& 127 = nI (if (c - 3) / 100 % 3 = 0 then 0 else if (c - 3) / 100 % 3 = 1 then (c - 3) % 100 else (c - 3) % 100 + 1) ∧ stp c &&& 127 = nI (if (c - 3) / 100 % 3 = 0 then (c - 3) % 100 else if (c - 3) / 100 % 3 = 1 then (c - 3) % 100 + 1 else 127) := by decide +kernel
