/-! THE READING, the model's -/
def MX (I : Nat → Nat → Int32) (T : Nat → Nat) (n : Nat) : Prop := I 265 10 = nI n ∧ n ≤ 100 ∧ (∀ j, j < n → I 274 j = nI (T j)) ∧ ∀ j, T j < 128
/-- at place a, op openings, the codes l behind the first cd -/
def MS (I : Nat → Nat → Int32) (a : Nat) (op : Int32) (cd : Nat) (l : List Nat) (J : Nat → Nat → Int32) : Prop := (∀ b j, ¬ (b = 265 ∧ (j = 12 ∨ j = 13 ∨ j = 14 ∨ j = 15 ∨ j = 24)) → b ≠ 280 → J b j = I b j) ∧ J 265 12 = nI a ∧ J 265 15 = op ∧ J 265 24 = nI (cd + l.length) ∧ (∀ j, j < l.length → J 280 (cd + j) = nI (l.getD j 0)) ∧ ∀ j, j < cd → J 280 j = I 280 j
def ttV (T : Nat → Nat) (n : Nat) (F : Nat → Rs) (a : Nat) (c : List Nat) : Rs := match F a with
  | (true, b, c') => lpT T n F 101 b (c ++ c')
  | (false, b, c') => (false, b, c ++ c')
theorem ee_tt (T : Nat → Nat) (n : Nat) (F : Nat → Rs) (a : Nat) (c : List Nat) : eeV T n F a c = (match ttV T n F a c with
    | (true, b', c'') => lpE T n F 101 b' c''
    | (false, b', c'') => (false, b', c'')) := by
  unfold eeV ttV
  cases F a with
  | mk ok r =>
    obtain ⟨b, c1⟩ := r
    cases ok with
    | true =>
      show (match lpT T n F 101 b (c ++ c1) with
        | (true, b', c'') => lpE T n F 101 b' c''
        | (false, b', c'') => (false, b', c'')) = _
      rfl
    | false => rfl
theorem lpE_tt (T : Nat → Nat) (n : Nat) (F : Nat → Rs) (k a : Nat) (c : List Nat) : lpE T n F (k + 1) a c = if nxV T n a = 124 then (match ttV T n F (a + 1) c with
    | (true, b', c'') => lpE T n F k b' (c'' ++ [2])
    | (false, b', c'') => (false, b', c'')) else (true, a, c) := by
  show (if nxV T n a = 124 then _ else _) = _
  by_cases h : nxV T n a = 124
  · rw [if_pos h, if_pos h]
    unfold ttV
    cases F (a + 1) with
    | mk ok r =>
      obtain ⟨b, c1⟩ := r
      cases ok with
      | true => rfl
      | false => rfl
  · rw [if_neg h, if_neg h]
theorem tt_gd {T : Nat → Nat} {n D : Nat} {F : Nat → Rs} (hF : ∀ a, a ≤ n → GdF n D a (F a)) {a : Nat} (ha : a ≤ n) (c : List Nat) : a ≤ (ttV T n F a c).2.1 ∧ (ttV T n F a c).2.1 ≤ n ∧ (ttV T n F a c).2.2.length ≤ c.length + ((ttV T n F a c).2.1 - a) ∧ ((ttV T n F a c).1 = true → a < (ttV T n F a c).2.1) := by
  have g := hF a ha
  unfold ttV
  cases e : F a with
  | mk ok r =>
    obtain ⟨b, c1⟩ := r
    rw [e] at g
    obtain ⟨g1, g2, g3, -, g5⟩ := g
    simp only at g1 g2 g3
    cases ok with
    | true =>
      have g6 := (g5 rfl).1
      simp only at g6
      obtain ⟨t1, t2, c2, t3, t4, -⟩ := lpT_gd (T := T) hF 101 b (c ++ c1) g2
      show a ≤ (lpT T n F 101 b (c ++ c1)).2.1 ∧ (lpT T n F 101 b (c ++ c1)).2.1 ≤ n ∧ (lpT T n F 101 b (c ++ c1)).2.2.length ≤ c.length + ((lpT T n F 101 b (c ++ c1)).2.1 - a) ∧ ((lpT T n F 101 b (c ++ c1)).1 = true → a < (lpT T n F 101 b (c ++ c1)).2.1)
      rw [t3, List.length_append, List.length_append]
      exact ⟨by omega, t2, by omega, fun _ => by omega⟩
    | false =>
      show a ≤ b ∧ b ≤ n ∧ (c ++ c1).length ≤ c.length + (b - a) ∧ (false = true → a < b)
      rw [List.length_append]
      exact ⟨g1, g2, by omega, fun z => absurd z (by decide)⟩
section SM
variable {C : zC} {I I' : Nat → Nat → Int32} {L L' : Nat → Nat → Int64} {M : Nat → Nat → Option Nat}
theorem MS.mx {a cd : Nat} {op : Int32} {l : List Nat} {J : Nat → Nat → Int32} {T : Nat → Nat} {n : Nat} (hT : MX I T n) (h : MS I a op cd l J) : MX J T n := ⟨(h.1 265 10 (by omega) (by omega)).trans hT.1, hT.2.1, fun j hj => (h.1 274 j (by omega) (by omega)).trans (hT.2.2.1 j hj), hT.2.2.2⟩
theorem MS_to {a cd b : Nat} {op : Int32} {l : List Nat} {J : Nat → Nat → Int32} (h : MS I a op cd l J) : MS I b op cd l (u2 J 265 12 (nI b)) := ⟨fun c j h1 h2 => by rw [u2_ne _ _ (by omega)]; exact h.1 c j h1 h2, u2_same _ _ _ _, by rw [u2_n2 _ _ (by omega)]; exact h.2.2.1, by rw [u2_n2 _ _ (by omega)]; exact h.2.2.2.1, fun j hj => by rw [u2_n1 _ _ (by omega)]; exact h.2.2.2.2.1 j hj, fun j hj => by rw [u2_n1 _ _ (by omega)]; exact h.2.2.2.2.2 j hj⟩
theorem MS_op {a cd : Nat} {op b : Int32} {l : List Nat} {J : Nat → Nat → Int32} (h : MS I a op cd l J) : MS I a b cd l (u2 J 265 15 b) := ⟨fun c j h1 h2 => by rw [u2_ne _ _ (by omega)]; exact h.1 c j h1 h2, by rw [u2_n2 _ _ (by omega)]; exact h.2.1, u2_same _ _ _ _, by rw [u2_n2 _ _ (by omega)]; exact h.2.2.2.1, fun j hj => by rw [u2_n1 _ _ (by omega)]; exact h.2.2.2.2.1 j hj, fun j hj => by rw [u2_n1 _ _ (by omega)]; exact h.2.2.2.2.2 j hj⟩
theorem MS_vd {a cd k : Nat} {op : Int32} {l : List Nat} {J : Nat → Nat → Int32} (h : MS I a op cd l J) (hk : k = 13 ∨ k = 14) (v : Int32) : MS I a op cd l (u2 J 265 k v) := ⟨fun c j h1 h2 => by rw [u2_ne _ _ (by omega)]; exact h.1 c j h1 h2, by rw [u2_n2 _ _ (by omega)]; exact h.2.1, by rw [u2_n2 _ _ (by omega)]; exact h.2.2.1, by rw [u2_n2 _ _ (by omega)]; exact h.2.2.2.1, fun j hj => by rw [u2_n1 _ _ (by omega)]; exact h.2.2.2.2.1 j hj, fun j hj => by rw [u2_n1 _ _ (by omega)]; exact h.2.2.2.2.2 j hj⟩
theorem sp_is (d : Nat) {a cd n : Nat} {op : Int32} {l : List Nat} {J : Nat → Nat → Int32} {T : Nat → Nat} (hT : MX I T n) (ha : a ≤ n) (h : MS I a op cd l J) (v : Int32) (hv : ¬ v = -1) (K : KI) (h1 : nxV T n a = v → ∀ J', MS I (a + 1) op cd l J' → K 1 J' L M) (h0 : ¬ nxV T n a = v → ∀ J', MS I a op cd l J' → K 0 J' L M) : zCI C Y_X11_is (d + 1) [.ref 265, .int v] (zmk J L M) K := by
  have hT' := h.mx hT
  have hn := hT.2.1
  refine t_X11_is d _ _ ?_
  rw [hT'.1, h.2.1]
  unfold nxV at h1 h0
  refine ⟨fun z => ?_, fun z => ?_⟩
  · have : a = n := nI_inj (by omega) (by omega) z
    rw [if_neg (by omega)] at h0
    exact h0 (fun q => hv q.symm) J h
  · have han : a < n := Nat.lt_of_le_of_ne ha fun q => z (by rw [q])
    rw [if_pos han] at h1 h0
    refine ⟨vp_in_nI (by omega) (by omega), ?_⟩
    rw [nI_clamp (by omega), hT'.2.2.1 a han, nI_1]
    exact ⟨fun q => h1 q _ (MS_to h), fun q => h0 q J h⟩
theorem sp_codes (d : Nat) {a cd : Nat} {op : Int32} {l : List Nat} {J : Nat → Nat → Int32} (h : MS I a op cd l J) (hl : cd + l.length < 800) (x : Nat) (K : KI) (h1 : ∀ J', MS I a op cd (l ++ [x]) J' → K 1 J' L M) : zCI C Y_X11_codes (d + 1) [.ref 265, .int (nI x)] (zmk J L M) K := by
  refine t_X11_codes d _ _ ?_
  rw [h.2.2.2.1]
  refine ⟨vp_in_nI hl (by omega), ?_⟩
  rw [nI_clamp (by omega), nI_1]
  refine h1 _ ⟨fun b j q1 q2 => ?_, ?_, ?_, ?_, fun j hj => ?_, fun j hj => ?_⟩
  · rw [u2_n1 _ _ q2, u2_ne _ _ (by omega)]
    exact h.1 b j q1 q2
  · rw [u2_n1 _ _ (by omega), u2_n2 _ _ (by omega)]; exact h.2.1
  · rw [u2_n1 _ _ (by omega), u2_n2 _ _ (by omega)]; exact h.2.2.1
  · rw [u2_n1 _ _ (by omega), u2_same, List.length_append]; rfl
  · rw [List.length_append, List.length_singleton] at hj
    by_cases e : j = l.length
    · subst e
      rw [u2_same, List.getD_eq_getElem?_getD]
      simp
    · rw [u2_n2 _ _ (by omega), u2_n1 _ _ (by omega), List.getD_eq_getElem?_getD, List.getElem?_append_left (by omega), ← List.getD_eq_getElem?_getD]
      exact h.2.2.2.2.1 j (by omega)
  · rw [u2_n2 _ _ (by omega), u2_n1 _ _ (by omega)]
    exact h.2.2.2.2.2 j hj
theorem sp_dig (d : Nat) {a cd n : Nat} {op : Int32} {l : List Nat} {J : Nat → Nat → Int32} {T : Nat → Nat} (hT : MX I T n) (ha : a ≤ n) (h : MS I a op cd l J) (K : KI) (hK : K (zB (dgV T n a)) J L M) : zCI C Y_X11_isDigit (d + 1) [.ref 265] (zmk J L M) K := by
  have hT' := h.mx hT
  have hn := hT.2.1
  have hc := hT.2.2.2 a
  refine t_X11_isDigit d _ ?_
  rw [hT'.1, h.2.1]
  unfold dgV at hK
  refine ⟨fun z => ?_, fun z => ?_⟩
  · have := (nI_le_iff (a := n) (b := a) (by omega) (by omega)).mp z
    rw [decide_eq_false (by omega)] at hK
    exact hK
  · have han : a < n := Nat.lt_of_not_le fun q => z ((nI_le_iff (by omega) (by omega)).mpr q)
    have hin := vp_in_nI (show a < 100 by omega) (by omega : 100 < 2 ^ 31)
    refine ⟨hin, ?_⟩
    rw [nI_clamp (by omega), hT'.2.2.1 a han]
    refine ⟨fun y => ?_, fun y => ⟨hin, fun w => ?_, fun w => ?_⟩⟩
    · have := (nI_lt_iff (a := T a) (b := 48) (by omega) (by omega)).mp y
      rw [decide_eq_false (by omega)] at hK
      exact hK
    · have := (nI_lt_iff (a := 57) (b := T a) (by omega) (by omega)).mp w
      rw [decide_eq_false (by omega)] at hK
      exact hK
    · have q1 : ¬ T a < 48 := fun q => y ((nI_lt_iff (b := 48) (by omega) (by omega)).mpr q)
      have q2 : ¬ 57 < T a := fun q => w ((nI_lt_iff (a := 57) (by omega) (by omega)).mpr q)
      rw [decide_eq_true (by omega)] at hK
      exact hK
theorem sp_numM (d : Nat) {a cd n : Nat} {op : Int32} {l : List Nat} {J : Nat → Nat → Int32} {T : Nat → Nat} (hT : MX I T n) (ha : a ≤ n) (h : MS I a op cd l J) (K : KI) (h0 : numV T n a = none → ∀ J', MS I a op cd l J' → K 0 J' L M) (h1 : ∀ v b, numV T n a = some (v, b) → ∀ J', MS I b op cd l J' → J' 265 13 = nI v → K 1 J' L M) : zCI C Y_X11_isNumber (d + 2) [.ref 265] (zmk J L M) K := by
  have hn := hT.2.1
  refine t_X11_isNumber d _ ?_
  have s72 : ∀ {J' : Nat → Nat → Int32} {hh : zH} (k : Nat), k ≤ 2 → J' 265 14 = nI k → (k = 0 → K 0 J' L M) → (¬ k = 0 → K 1 J' L M) → zSI C hh K Y_X11_isNumber (d + 2) 72 [(0, .ref 265)] [] J' L M := by
    intro J' hh k hk e k0 k1
    refine t_X11_isNumber_72 d _ ?_
    rw [e]
    refine ⟨fun z => k0 ?_, fun z => k1 fun q => z (by rw [q]; decide)⟩
    have := (nI_le_iff (a := k) (b := 0) (by omega) (by omega)).mp z
    omega
  have one : ∀ {a' : Nat} {J' : Nat → Nat → Int32} {hh : zH} (k v : Nat), k < 2 → a' ≤ n → v ≤ 9 → MS I a' op cd l J' → J' 265 14 = nI k → J' 265 13 = nI v → (dgV T n a' = false → zSI C hh K Y_X11_isNumber (d + 2) 72 [(0, .ref 265)] [] J' L M) → (dgV T n a' = true → ∀ J'', MS I (a' + 1) op cd l J'' → J'' 265 14 = nI (k + 1) → J'' 265 13 = nI (10 * v + (T a' - 48)) → zSI C hh K Y_X11_isNumber (d + 2) 10 [(0, .ref 265)] [] J'' L M) → zSI C hh K Y_X11_isNumber (d + 2) 10 [(0, .ref 265)] [] J' L M := by
    intro a' J' hh k v hk ha' hv h' e14 e13 k0 k1
    refine t_X11_isNumber_10 d _ ?_
    rw [e14]
    refine br_f (fun z => by have := (nI_le_iff (a := 2) (b := k) (by omega) (by omega)).mp z; omega) ?_
    refine sp_dig d hT ha' h' _ ?_
    cases hd : dgV T n a' with
    | false => exact ⟨fun _ => k0 hd, fun z => absurd rfl z⟩
    | true =>
      refine ⟨fun z => absurd z (by decide), fun _ => ?_⟩
      have hd' := hd
      unfold dgV at hd'
      have hd2 := of_decide_eq_true hd'
      have hT' := h'.mx hT
      rw [h'.2.1]
      refine ⟨vp_in_nI (by omega) (by omega), ?_⟩
      rw [nI_clamp (by omega), hT'.2.2.1 a' hd2.1, e13, e14, nI_1, nI_1]
      refine k1 hd _ (MS_vd (MS_to (MS_vd h' (Or.inl rfl) _)) (Or.inr rfl) _) (u2_same _ _ _ _) ?_
      rw [u2_n2 _ _ (by omega), u2_n2 _ _ (by omega), u2_same, nI_10, show (48 : Int32) = nI 48 from rfl, nI_sub (by omega)]
      congr 1
      omega
  have r0 : MS I a op cd l (u2 (u2 J 265 13 0) 265 14 0) := MS_vd (MS_vd h (Or.inl rfl) _) (Or.inr rfl) _
  refine one 0 0 (by omega) ha (by omega) r0 (u2_same _ _ _ _) (by rw [u2_n2 _ _ (by omega), u2_same]; rfl) (fun q => s72 0 (by omega) (u2_same _ _ _ _) (fun _ => h0 ?_ _ r0) fun z => absurd rfl z) fun q J1 r1 e14 e13 => ?_
  · unfold numV
    rw [q]
    rfl
  · have q' := q
    unfold dgV at q'
    have q2 := of_decide_eq_true q'
    have ev1 : 10 * 0 + (T a - 48) = T a - 48 := by omega
    rw [ev1] at e13
    have hT1 := hT.2.2.2 a
    refine one 1 (T a - 48) (by omega) (by omega) (by omega) r1 e14 e13 (fun w => s72 1 (by omega) e14 (fun z => absurd z (by decide)) fun _ => h1 _ _ ?_ J1 r1 e13) fun w J2 r2 f14 f13 => ?_
    · unfold numV
      rw [q, w]
      rfl
    · refine t_X11_isNumber_10 d _ ?_
      rw [f14]
      refine br_t (by decide) (s72 2 (by omega) f14 (fun z => absurd z (by decide)) fun _ => h1 _ (a + 2) ?_ J2 r2 f13)
      unfold numV
      rw [q, w]
      rfl
theorem code_eq (l r v : Nat) : (((3 : Int32) + ((300 : Int32) * nI l)) + ((100 : Int32) * nI r)) + nI v = nI (3 + 300 * l + 100 * r + v) := by
  rw [show (3 : Int32) = nI 3 from rfl, show (300 : Int32) = nI 300 from rfl, show (100 : Int32) = nI 100 from rfl, pk_mul, pk_mul, nI_add, nI_add, nI_add]
theorem sp_tstM (d : Nat) {a cd n : Nat} {op : Int32} {l : List Nat} {J : Nat → Nat → Int32} {T : Nat → Nat} (hT : MX I T n) (ha : a ≤ n) (h : MS I a op cd l J) (hl : cd + l.length + (n - a) ≤ 799) (K : KI) (h1 : (tstV T n a).1 = true → ∀ J', MS I (tstV T n a).2.1 op cd (l ++ (tstV T n a).2.2) J' → K 1 J' L M) (h0 : (tstV T n a).1 = false → ∀ J' l', MS I (tstV T n a).2.1 op cd l' J' → K 0 J' L M) : zCI C Y_X11_isTest (d + 8) [.ref 265] (zmk J L M) K := by
  have hn := hT.2.1
  have hTT := hT.2.2.2
  have hT' := h.mx hT
  unfold tstV at h1 h0
  -- behind the relation
  have s99 : ∀ {hz : zH} (lt : Nat) {J' : Nat → Nat → Int32}, lt < 6 → oneOf T n a ltL = nI lt → a < n → MS I (a + 1) op cd l J' → zSI C hz K Y_X11_isTest (d + 8) 99 [(0, .ref 265), (1, .int (nI lt))] [.int (oneOf T n (a + 1) rlL)] J' L M := by
    intro hz lt J' hlt elt han r1
    rw [if_neg (by rw [elt]; exact le_nlt (nI_pos' (by omega)))] at h1 h0
    refine t_X11_isTest_99 d _ _ _ ?_
    rcases oneOf_rl hTT n (a + 1) with ⟨p, e⟩ | ⟨r, hr, er, har, p⟩
    · rw [if_pos p] at h0
      exact ⟨fun z => absurd p (le_nlt z), fun _ => h0 rfl J' l r1⟩
    · rw [if_neg p, elt, er, cn_nI (by omega), cn_nI (by omega)] at h1
      rw [if_neg p, elt, er, cn_nI (by omega), cn_nI (by omega)] at h0
      refine ⟨fun _ => ?_, fun z => absurd (nlt_le p) z⟩
      rw [r1.2.1, nI_1]
      refine sp_numM (d + 5) hT (by omega) (MS_to r1 (b := a + 1 + 1)) _ (fun w J2 r2 => ⟨fun _ => ?_, fun z => absurd rfl z⟩) fun v b w J2 r2 ev => ⟨fun z => absurd z (by decide), fun _ => ?_⟩
      · rw [show a + 1 + 1 = a + 2 by omega] at w r2
        rw [w] at h0
        exact h0 rfl J2 l r2
      · rw [show a + 1 + 1 = a + 2 by omega] at w
        obtain ⟨w1, w2, w3⟩ := numV_ok w
        rw [w] at h1
        rw [ev, er, code_eq]
        refine sp_codes (d + 6) r2 (by omega) _ _ fun J3 r3 => ⟨fun z => absurd z (by decide), fun _ => h1 rfl J3 r3⟩
  have s41 : ∀ {hz : zH}, zSI C hz K Y_X11_isTest (d + 8) 41 [(0, .ref 265)] [.int (oneOf T n a ltL)] J L M := by
    intro hz
    refine t_X11_isTest_41 d _ _ ?_
    rcases oneOf_lt hTT n a with ⟨q, e⟩ | ⟨lt, hlt, elt, hal, q⟩
    · rw [if_pos q] at h0
      exact ⟨fun z => absurd q (le_nlt z), fun _ => h0 rfl J l h⟩
    · refine ⟨fun _ => ?_, fun z => absurd (nlt_le q) z⟩
      rw [elt, hT'.1, h.2.1, nI_1]
      have r1 := MS_to (b := a + 1) h
      have none98 : oneOf T n (a + 1) rlL = -1 → zSI C hz K Y_X11_isTest (d + 8) 98 [(0, .ref 265), (1, .int (nI lt))] [] (u2 J 265 12 (nI (a + 1))) L M := fun e => by
        refine t_X11_isTest_98 d _ _ ?_
        rw [← e]
        exact s99 lt hlt elt hal r1
      refine ⟨fun z => none98 ?_, fun z => ⟨vp_in_nI (by have := Nat.lt_of_not_le fun q => z ((nI_le_iff (a := n) (b := a + 1) (by omega) (by omega)).mpr q); omega) (by omega), ?_⟩⟩
      · have := (nI_le_iff (a := n) (b := a + 1) (by omega) (by omega)).mp z
        unfold oneOf
        rw [if_neg (by omega)]
      · have han : a + 1 < n := Nat.lt_of_not_le fun q => z ((nI_le_iff (by omega) (by omega)).mpr q)
        rw [nI_clamp (by omega), hT'.2.2.1 (a + 1) han]
        have hc := hTT (a + 1)
        refine ⟨fun y => none98 ?_, fun y => ⟨vp_in_nI (by omega) (by omega), ?_⟩⟩
        · have := (nI_le_iff (a := T (a + 1)) (b := 0) (by omega) (by omega)).mp y
          unfold oneOf
          rw [if_pos han, show T (a + 1) = 0 by omega]
          decide
        · refine sp_sidx d (i := 9) (by omega) (by decide) hc _ ?_
          have e : ixV (nI (T (a + 1))) (zsBy.getD 9 []) 0 = oneOf T n (a + 1) rlL := by
            unfold oneOf
            rw [if_pos han]
            rfl
          rw [e]
          exact s99 lt hlt elt hal r1
  have none40 : ∀ {hz : zH}, oneOf T n a ltL = -1 → zSI C hz K Y_X11_isTest (d + 8) 40 [(0, .ref 265)] [] J L M := fun e => by
    refine t_X11_isTest_40 d _ ?_
    rw [← e]
    exact s41
  refine t_X11_isTest d _ ?_
  rw [hT'.1, h.2.1]
  refine ⟨fun z => none40 ?_, fun z => ?_⟩
  · have := (nI_le_iff (a := n) (b := a) (by omega) (by omega)).mp z
    unfold oneOf
    rw [if_neg (by omega)]
  · have han : a < n := Nat.lt_of_not_le fun q => z ((nI_le_iff (by omega) (by omega)).mpr q)
    refine ⟨vp_in_nI (by omega) (by omega), ?_⟩
    rw [nI_clamp (by omega), hT'.2.2.1 a han]
    have hc := hTT a
    refine ⟨fun y => none40 ?_, fun y => ⟨vp_in_nI (by omega) (by omega), ?_⟩⟩
    · have := (nI_le_iff (a := T a) (b := 0) (by omega) (by omega)).mp y
      unfold oneOf
      rw [if_pos han, show T a = 0 by omega]
      decide
    · refine sp_sidx d (i := 8) (by omega) (by decide) hc _ ?_
      have e : ixV (nI (T a)) (zsBy.getD 8 []) 0 = oneOf T n a ltL := by
        unfold oneOf
        rw [if_pos han]
        rfl
      rw [e]
      exact s41
end SM
