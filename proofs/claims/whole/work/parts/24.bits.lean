/-! BITS -/
def hb (a : Int32) (k : Nat) : Bool := a.toBitVec.getLsbD k
theorem hb_and (a b : Int32) (k : Nat) : hb (a &&& b) k = (hb a k && hb b k) := by
  unfold hb
  rw [Int32.toBitVec_and, BitVec.getLsbD_and]
theorem hb_or (a b : Int32) (k : Nat) : hb (a ||| b) k = (hb a k || hb b k) := by
  unfold hb
  rw [Int32.toBitVec_or, BitVec.getLsbD_or]
theorem hb_xor (a b : Int32) (k : Nat) : hb (a ^^^ b) k = (hb a k ^^ hb b k) := by
  unfold hb
  rw [Int32.toBitVec_xor, BitVec.getLsbD_xor]
theorem hb_m1 : ∀ k, k < 32 → hb (-1) k = true := by decide +kernel
theorem hb_big (a : Int32) {k : Nat} (h : 32 ≤ k) : hb a k = false := BitVec.getLsbD_of_ge _ _ h
theorem hb_not (a : Int32) {k : Nat} (h : k < 32) : hb (a ^^^ (-1)) k = !hb a k := by
  rw [hb_xor, hb_m1 k h]
  cases hb a k <;> rfl
theorem hb_one' : ∀ x, x < 32 → ∀ k, k < 32 → hb ((1 : Int32) <<< (nI x &&& 31)) k = decide (k = x) := by decide +kernel
theorem hb_one {x : Nat} (hx : x < 32) (k : Nat) : hb ((1 : Int32) <<< (nI x &&& 31)) k = decide (k = x) := by
  by_cases h : k < 32
  · exact hb_one' x hx k h
  · rw [hb_big _ (by omega)]
    exact (decide_eq_false (by omega)).symm
theorem hb_0 (k : Nat) : hb 0 k = false := by simp [hb]
theorem hb_ext {a b : Int32} (h : ∀ k, k < 32 → hb a k = hb b k) : a = b := by
  apply Int32.toBitVec_inj.mp
  apply BitVec.eq_of_getLsbD_eq
  exact h
theorem sm32 : ∀ k, k < 32 → (nI k &&& 31).toBitVec.smod 32 = BitVec.ofNat 32 k := by decide +kernel
theorem zhas_hb {a : Int32} {k : Nat} (hk : k < 32) : zhas a (nI k) ↔ hb a k = true := by
  unfold zhas
  rw [← Int32.toBitVec_inj, Int32.toBitVec_and, Int32.toBitVec_shiftRight, sm32 k hk]
  have e : hb a k = (a.toBitVec.sshiftRight' (BitVec.ofNat 32 k)).getLsbD 0 := by
    rw [BitVec.sshiftRight_eq', BitVec.getLsbD_sshiftRight]
    have : (BitVec.ofNat 32 k).toNat = k := by simp; omega
    rw [this]
    simp [hb, hk]
  rw [e, show (1 : Int32).toBitVec = 1#32 from rfl, BitVec.and_one_eq_setWidth_ofBool_getLsbD]
  cases (a.toBitVec.sshiftRight' (BitVec.ofNat 32 k)).getLsbD 0 <;> decide
/-- a set of purposes: no bit beyond the twelfth -/
theorem m12 (a : Int32) : (∃ j, j ≤ 4095 ∧ a = nI j) ↔ ∀ k, 12 ≤ k → k < 32 → hb a k = false := by
  constructor
  · rintro ⟨j, hj, rfl⟩ k hk h32
    show (Int32.ofNat j).toBitVec.getLsbD k = false
    rw [show (Int32.ofNat j).toBitVec = BitVec.ofNat 32 j from rfl, BitVec.getLsbD_ofNat]
    have : j.testBit k = false := Nat.testBit_lt_two_pow (Nat.lt_of_lt_of_le (by omega : j < 2 ^ 12) (Nat.pow_le_pow_right (by omega) hk))
    simp [this]
  · intro h
    have hlt : a.toBitVec.toNat < 2 ^ 12 := by
      apply Nat.lt_of_not_le
      intro q
      obtain ⟨i, hi, hbt⟩ := Nat.exists_ge_and_testBit_of_ge_two_pow q
      have h32 : i < 32 := by
        apply Nat.lt_of_not_le
        intro q2
        have := Nat.testBit_lt_two_pow (x := a.toBitVec.toNat) (i := i) (Nat.lt_of_lt_of_le a.toBitVec.isLt (Nat.pow_le_pow_right (by omega) q2))
        rw [hbt] at this
        exact absurd this (by decide)
      have h2 := h i hi h32
      unfold hb at h2
      rw [BitVec.getLsbD] at h2
      rw [hbt] at h2
      exact absurd h2 (by decide)
    refine ⟨a.toBitVec.toNat, by omega, ?_⟩
    apply Int32.toBitVec_inj.mp
    show a.toBitVec = BitVec.ofNat 32 _
    simp
theorem m12_or {a b : Int32} (ha : ∃ j, j ≤ 4095 ∧ a = nI j) (hb' : ∃ j, j ≤ 4095 ∧ b = nI j) : ∃ j, j ≤ 4095 ∧ a ||| b = nI j := by
  rw [m12] at *
  intro k h1 h2
  rw [hb_or, ha k h1 h2, hb' k h1 h2]
  rfl
theorem m12_and {a : Int32} (b : Int32) (ha : ∃ j, j ≤ 4095 ∧ a = nI j) : ∃ j, j ≤ 4095 ∧ a &&& b = nI j := by
  rw [m12] at *
  intro k h1 h2
  rw [hb_and, ha k h1 h2]
  rfl
theorem m12_one {x : Nat} (hx : x < 12) : ∃ j, j ≤ 4095 ∧ (1 : Int32) <<< (nI x &&& 31) = nI j := by
  rw [m12]
  intro k h1 h2
  rw [hb_one (by omega)]
  exact decide_eq_false (by omega)
/-- two sets of purposes are alike if they hold the same -/
theorem m12_ext {a b : Int32} (ha : ∃ j, j ≤ 4095 ∧ a = nI j) (hb' : ∃ j, j ≤ 4095 ∧ b = nI j) (h : ∀ k, k < 12 → hb a k = hb b k) : a = b := by
  rw [m12] at ha hb'
  apply hb_ext
  intro k hk
  by_cases h12 : k < 12
  · exact h k h12
  · rw [ha k (by omega) hk, hb' k (by omega) hk]
