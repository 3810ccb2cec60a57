/-! NUMBERS -/
theorem rg {x : Int32} (N : Nat) (hN : N < 2 ^ 31) (h0 : 0 ≤ x) (h1 : x < nI N) : ∃ j, j < N ∧ x = nI j := by
  rw [Int32.le_iff_toInt_le, Int32.toInt_zero] at h0
  rw [Int32.lt_iff_toInt_lt, nI_toInt hN] at h1
  refine ⟨x.toInt.toNat, by omega, Int32.toInt_inj.mp ?_⟩
  rw [nI_toInt (by omega)]
  omega
theorem rgle {x : Int32} (N : Nat) (hN : N < 2 ^ 31) (h0 : 0 ≤ x) (h1 : x ≤ nI N) : ∃ j, j ≤ N ∧ x = nI j := by
  rw [Int32.le_iff_toInt_le, Int32.toInt_zero] at h0
  rw [Int32.le_iff_toInt_le, nI_toInt hN] at h1
  refine ⟨x.toInt.toNat, by omega, Int32.toInt_inj.mp ?_⟩
  rw [nI_toInt (by omega)]
  omega
theorem nI_in0 {j N : Nat} (h : j < N) (hN : N < 2 ^ 31) : 0 ≤ nI j ∧ nI j < nI N := ⟨nI_pos' (by omega), nI_lt h hN⟩
theorem nI_inle {j N : Nat} (h : j ≤ N) (hN : N < 2 ^ 31) : 0 ≤ nI j ∧ nI j ≤ nI N := ⟨nI_pos' (by omega), nI_le h hN⟩
theorem nI_inj {a b : Nat} (ha : a < 2 ^ 31) (hb : b < 2 ^ 31) (h : nI a = nI b) : a = b := (nI_eq ha hb).mp h
theorem nI_sub1 {n : Nat} (h : 0 < n) : nI n - 1 = nI (n - 1) := by
  obtain ⟨m, rfl⟩ : ∃ m, n = m + 1 := ⟨n - 1, by omega⟩
  exact nI_pred m
/-- a loop that counts up to n: k turns are left -/
theorem count_up {P : Nat → Prop} (n : Nat) (hend : P n) (hstep : ∀ i, i < n → P (i + 1) → P i) : ∀ i, i ≤ n → P i := by
  intro i hi
  obtain ⟨k, hk⟩ : ∃ k, i + k = n := ⟨n - i, by omega⟩
  induction k generalizing i with
  | zero => rw [show i = n by omega]; exact hend
  | succ k ih =>
    by_cases h : i < n
    · exact hstep i h (ih (i + 1) (by omega) (by omega))
    · rw [show i = n by omega]; exact hend
/-- .. with a state that changes -/
theorem count_st {σ : Type} {P : Nat → σ → Prop} {J : Nat → σ → Prop} (n : Nat) (hend : ∀ s, J n s → P n s) (hstep : ∀ i s, i < n → J i s → (∀ s', J (i + 1) s' → P (i + 1) s') → P i s) : ∀ i s, i ≤ n → J i s → P i s := by
  intro i s hi
  obtain ⟨k, hk⟩ : ∃ k, i + k = n := ⟨n - i, by omega⟩
  induction k generalizing i s with
  | zero => intro h; rw [show i = n by omega] at h ⊢; exact hend s h
  | succ k ih =>
    intro h
    by_cases hl : i < n
    · exact hstep i s hl h (fun s' h' => ih (i + 1) s' (by omega) (by omega) h')
    · rw [show i = n by omega] at h ⊢; exact hend s h
/-! JDK: Arrays.fill -/
def zfill (I : Nat → Nat → Int32) (a n : Nat) (v : Int32) : Nat → Nat → Int32 := fun b j => if b = a then (if j < n then v else I b j) else I b j
theorem zfill_0 (I : Nat → Nat → Int32) (a : Nat) (v : Int32) : zfill I a 0 v = I := by
  funext b j
  simp [zfill]
theorem zfill_s (I : Nat → Nat → Int32) (a i : Nat) (v : Int32) : u2 (zfill I a i v) a i v = zfill I a (i + 1) v := by
  funext b j
  by_cases hb : b = a
  · subst hb
    by_cases hj : j = i
    · subst hj; simp [u2, zfill]
    · by_cases h2 : j < i
      · simp [u2, zfill, hj, h2, Nat.lt_succ_of_lt h2]
      · simp [u2, zfill, hj, h2, show ¬ j < i + 1 by omega]
  · simp [u2, zfill, hb]
theorem sp_fill {C : zC} {I : Nat → Nat → Int32} {L : Nat → Nat → Int64} {M : Nat → Nat → Option Nat} (d : Nat) {a n : Nat} (v : Int32) (ha : zsh a = (12, n)) (hn : n < 2 ^ 31) (K : (Nat → Nat → Int32) → (Nat → Nat → Int64) → (Nat → Nat → Option Nat) → Prop) (hK : K (zfill I a n v) L M) : zCV C Y_J7_fill_53178 (d + 1) [.ref a, .int v] (zmk I L M) K := by
  refine t_J7_fill_53178 d v ha K ?_
  have key := count_up (P := fun i => zSV C (zmk I L M) K Y_J7_fill_53178 (d + 1) 5 [(0, .ref a), (1, .int v), (2, .int (nI i)), (3, .int (Int32.ofNat n))] [] (zfill I a i v) L M) n
    (t_J7_fill_53178_5 d ha v (nI n) (Int32.ofNat n) K ⟨fun _ => hK, fun q => absurd (Int32.le_refl _) q⟩)
    (fun i hi ih => t_J7_fill_53178_5 d ha v (nI i) (Int32.ofNat n) K ⟨fun q => absurd q (nI_ge hi hn), fun _ => ⟨vp_in_nI hi hn, by
      rw [nI_clamp (by omega), zfill_s, nI_1]
      exact ih⟩⟩) 0 (Nat.zero_le n)
  rw [zfill_0] at key
  exact key
def zfillL (L : Nat → Nat → Int64) (a n : Nat) (v : Int64) : Nat → Nat → Int64 := fun b j => if b = a then (if j < n then v else L b j) else L b j
theorem zfillL_0 (L : Nat → Nat → Int64) (a : Nat) (v : Int64) : zfillL L a 0 v = L := by
  funext b j
  simp [zfillL]
theorem zfillL_s (L : Nat → Nat → Int64) (a i : Nat) (v : Int64) : u2 (zfillL L a i v) a i v = zfillL L a (i + 1) v := by
  funext b j
  by_cases hb : b = a
  · subst hb
    by_cases hj : j = i
    · subst hj; simp [u2, zfillL]
    · by_cases h2 : j < i
      · simp [u2, zfillL, hj, h2, Nat.lt_succ_of_lt h2]
      · simp [u2, zfillL, hj, h2, show ¬ j < i + 1 by omega]
  · simp [u2, zfillL, hb]
theorem sp_fillL {C : zC} {I : Nat → Nat → Int32} {L : Nat → Nat → Int64} {M : Nat → Nat → Option Nat} (d : Nat) {a n : Nat} (v : Int64) (ha : zsh a = (13, n)) (hn : n < 2 ^ 31) (K : (Nat → Nat → Int32) → (Nat → Nat → Int64) → (Nat → Nat → Option Nat) → Prop) (hK : K I (zfillL L a n v) M) : zCV C Y_J7_fill_d0a16 (d + 1) [.ref a, .long v] (zmk I L M) K := by
  refine t_J7_fill_d0a16 d v ha K ?_
  have key := count_up (P := fun i => zSV C (zmk I L M) K Y_J7_fill_d0a16 (d + 1) 6 [(0, .ref a), (1, .long v), (3, .int (nI i)), (4, .int (Int32.ofNat n))] [] I (zfillL L a i v) M) n
    (t_J7_fill_d0a16_6 d ha v (nI n) (Int32.ofNat n) K ⟨fun _ => hK, fun q => absurd (Int32.le_refl _) q⟩)
    (fun i hi ih => t_J7_fill_d0a16_6 d ha v (nI i) (Int32.ofNat n) K ⟨fun q => absurd q (nI_ge hi hn), fun _ => ⟨vp_in_nI hi hn, by
      rw [nI_clamp (by omega), zfillL_s, nI_1]
      exact ih⟩⟩) 0 (Nat.zero_le n)
  rw [zfillL_0] at key
  exact key
