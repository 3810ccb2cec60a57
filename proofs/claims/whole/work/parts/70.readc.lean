/-! THE READER, the class's -/
def TX (I : Nat → Nat → Int32) (T : Nat → Nat) (n : Nat) : Prop := I 138 1 = nI n ∧ n ≤ 100 ∧ (∀ j, j < n → I 139 j = nI (T j)) ∧ ∀ j, T j < 128
/-- at place a, the house o holding the steps S and the keep kp -/
def RS (I : Nat → Nat → Int32) (o a : Nat) (S : List Int32) (kp : Int32) (J : Nat → Nat → Int32) : Prop := (∀ b j, ¬ (b = 138 ∧ j = 2) → ¬ (b = o ∧ (j = 0 ∨ j = 2)) → b ≠ o + 1 → J b j = I b j) ∧ J 138 2 = nI a ∧ J o 2 = nI S.length ∧ (∀ j, j < S.length → J (o + 1) j = S.getD j 0) ∧ J o 0 = kp
theorem lpT_fuel {T : Nat → Nat} {n D : Nat} {F : Nat → Rs} (hF : ∀ a, a ≤ n → GdF n D a (F a)) : ∀ (k k' a : Nat) (c : List Nat), a ≤ n → n - a < k → n - a < k' → lpT T n F k a c = lpT T n F k' a c := by
  intro k
  induction k with
  | zero => intro k' a c _ h; omega
  | succ k ih =>
    intro k' a c ha h h'
    obtain ⟨k2, rfl⟩ : ∃ k2, k' = k2 + 1 := ⟨k' - 1, by omega⟩
    unfold lpT
    by_cases q : nxV T n a = 38
    · rw [if_pos q, if_pos q]
      have han := nx_in q (by decide)
      have g := hF (a + 1) (by omega)
      cases e : F (a + 1) with
      | mk ok r =>
        obtain ⟨b, c1⟩ := r
        rw [e] at g
        obtain ⟨g1, g2, g3, g4, g5⟩ := g
        simp only at g1 g2 g3 g4 g5
        cases ok with
        | true => exact ih k2 b _ g2 (by omega) (by omega)
        | false => rfl
    · rw [if_neg q, if_neg q]
theorem lpE_fuel {T : Nat → Nat} {n D : Nat} {F : Nat → Rs} (hF : ∀ a, a ≤ n → GdF n D a (F a)) : ∀ (k k' a : Nat) (c : List Nat), a ≤ n → n - a < k → n - a < k' → lpE T n F k a c = lpE T n F k' a c := by
  intro k
  induction k with
  | zero => intro k' a c _ h; omega
  | succ k ih =>
    intro k' a c ha h h'
    obtain ⟨k2, rfl⟩ : ∃ k2, k' = k2 + 1 := ⟨k' - 1, by omega⟩
    unfold lpE
    by_cases q : nxV T n a = 124
    · rw [if_pos q, if_pos q]
      have han := nx_in q (by decide)
      have g := hF (a + 1) (by omega)
      cases e : F (a + 1) with
      | mk ok r =>
        obtain ⟨b, c1⟩ := r
        rw [e] at g
        obtain ⟨g1, g2, g3, g4, g5⟩ := g
        simp only at g1 g2 g3 g4 g5
        cases ok with
        | true =>
          have t := lpT_gd (T := T) hF 101 b (c ++ c1) g2
          show (match lpT T n F 101 b (c ++ c1) with
            | (true, b', c'') => lpE T n F k b' (c'' ++ [2])
            | (false, b', c'') => (false, b', c'')) = (match lpT T n F 101 b (c ++ c1) with
            | (true, b', c'') => lpE T n F k2 b' (c'' ++ [2])
            | (false, b', c'') => (false, b', c''))
          cases e2 : lpT T n F 101 b (c ++ c1) with
          | mk ok2 r2 =>
            obtain ⟨b2, c2⟩ := r2
            rw [e2] at t
            obtain ⟨t1, t2, -⟩ := t
            simp only at t1 t2
            cases ok2 with
            | true => exact ih k2 b2 _ t2 (by omega) (by omega)
            | false => rfl
        | false => rfl
    · rw [if_neg q, if_neg q]
/-- the rest of a choice, from the head of the class's loop on -/
def hdV (T : Nat → Nat) (n : Nat) (F : Nat → Rs) (an orr : Bool) (a : Nat) (c : List Nat) : Rs := match F a with
  | (false, b, c') => (false, b, c ++ c')
  | (true, b, c') => match lpT T n F 101 b (c ++ c' ++ (if an then [1] else [])) with
    | (false, b', c'') => (false, b', c'')
    | (true, b', c'') => lpE T n F 101 b' (c'' ++ (if orr then [2] else []))
theorem hd_ee (T : Nat → Nat) (n : Nat) (F : Nat → Rs) (a : Nat) (c : List Nat) : hdV T n F false false a c = eeV T n F a c := by
  unfold hdV eeV
  cases F a with
  | mk ok r =>
    obtain ⟨b, c1⟩ := r
    cases ok with
    | true =>
      show (match lpT T n F 101 b (c ++ c1 ++ []) with
        | (false, b', c'') => (false, b', c'')
        | (true, b', c'') => lpE T n F 101 b' (c'' ++ [])) = (match lpT T n F 101 b (c ++ c1) with
        | (true, b', c'') => lpE T n F 101 b' c''
        | (false, b', c'') => (false, b', c''))
      rw [List.append_nil]
      cases lpT T n F 101 b (c ++ c1) with
      | mk ok2 r2 =>
        obtain ⟨b2, c2⟩ := r2
        cases ok2 with
        | true => show lpE T n F 101 b2 (c2 ++ []) = _; rw [List.append_nil]
        | false => rfl
    | false => rfl
section SM
variable {C : zC} {I I' : Nat → Nat → Int32} {L L' : Nat → Nat → Int64} {M : Nat → Nat → Option Nat}
theorem RS.tx {o a : Nat} {S : List Int32} {kp : Int32} {J : Nat → Nat → Int32} {T : Nat → Nat} {n : Nat} (ho : 151 ≤ o) (hT : TX I T n) (h : RS I o a S kp J) : TX J T n := ⟨(h.1 138 1 (by omega) (by omega) (by omega)).trans hT.1, hT.2.1, fun j hj => (h.1 139 j (by omega) (by omega) (by omega)).trans (hT.2.2.1 j hj), hT.2.2.2⟩
theorem RS_to {o a b : Nat} {S : List Int32} {kp : Int32} {J : Nat → Nat → Int32} (ho : 151 ≤ o) (h : RS I o a S kp J) : RS I o b S kp (u2 J 138 2 (nI b)) := ⟨fun c j h1 h2 h3 => by rw [u2_ne _ _ (by omega)]; exact h.1 c j h1 h2 h3, u2_same _ _ _ _, by rw [u2_n1 _ _ (by omega)]; exact h.2.2.1, fun j hj => by rw [u2_n1 _ _ (by omega)]; exact h.2.2.2.1 j hj, by rw [u2_n1 _ _ (by omega)]; exact h.2.2.2.2⟩
theorem sp_next (d : Nat) {o a n : Nat} {S : List Int32} {kp : Int32} {J : Nat → Nat → Int32} {T : Nat → Nat} (ho : 151 ≤ o) (hT : TX I T n) (ha : a ≤ n) (h : RS I o a S kp J) (K : KI) (hK : K (nxV T n a) J L M) : zCI C Y_X4_next (d + 1) [.ref 138] (zmk J L M) K := by
  have hT' := h.tx ho hT
  have hn := hT.2.1
  refine t_X4_next d _ ?_
  rw [hT'.1, h.2.1]
  unfold nxV at hK
  refine ⟨fun z => ?_, fun z => ?_⟩
  · have := (nI_le_iff (a := n) (b := a) (by omega) (by omega)).mp z
    rw [if_neg (by omega)] at hK
    exact hK
  · have han : a < n := Nat.lt_of_not_le fun q => z ((nI_le_iff (by omega) (by omega)).mpr q)
    rw [if_pos han] at hK
    refine ⟨vp_in_nI (by omega) (by omega), ?_⟩
    rw [nI_clamp (by omega), hT'.2.2.1 a han]
    exact hK
theorem sp_takes (d : Nat) {o a n : Nat} {S : List Int32} {kp : Int32} {J : Nat → Nat → Int32} {T : Nat → Nat} (ho : 151 ≤ o) (hT : TX I T n) (ha : a ≤ n) (h : RS I o a S kp J) (v : Int32) (K : KI) (h1 : nxV T n a = v → ∀ J', RS I o (a + 1) S kp J' → K 1 J' L M) (h0 : ¬ nxV T n a = v → ∀ J', RS I o a S kp J' → K 0 J' L M) : zCI C Y_X4_takes (d + 2) [.ref 138, .int v] (zmk J L M) K := by
  refine t_X4_takes d _ _ (sp_next d ho hT ha h _ ⟨fun z => ?_, fun z => ?_⟩)
  · refine t_X4_takes_13 d _ _ ⟨fun _ => ⟨Or.inl rfl, ?_⟩, fun y => absurd rfl y⟩
    rw [Int32.add_zero, h.2.1]
    exact h0 z _ (RS_to ho h)
  · refine t_X4_takes_13 d _ _ ⟨fun y => absurd y (by decide), fun _ => ⟨Or.inr rfl, ?_⟩⟩
    rw [h.2.1, nI_1]
    exact h1 z _ (RS_to ho h)
theorem sp_add (d : Nat) {o a : Nat} {S : List Int32} {kp : Int32} {J : Nat → Nat → Int32} (hh : zHo o) (ho : 151 ≤ o) (h : RS I o a S kp J) (hS : S.length < 100) (x : Int32) (K : KV) (hK : ∀ J', RS I o a (S ++ [x]) kp J' → K J' L M) : zCV C Y_X1_add (d + 1) [.ref o, .int x] (zmk J L M) K := by
  refine t_X1_add d _ hh _ ?_
  rw [h.2.2.1]
  refine ⟨fun z => by have := (nI_le_iff (a := 100) (b := S.length) (by omega) (by omega)).mp z; omega, fun _ => ⟨vp_in_nI hS (by omega), ?_⟩⟩
  rw [u2_n1 _ _ (by omega), h.2.2.1, nI_clamp (by omega), nI_1]
  refine hK _ ⟨fun b j q1 q2 q3 => ?_, ?_, ?_, fun j hj => ?_, ?_⟩
  · rw [u2_ne _ _ (by omega), u2_n1 _ _ q3]
    exact h.1 b j q1 q2 q3
  · rw [u2_n1 _ _ (by omega), u2_n1 _ _ (by omega)]
    exact h.2.1
  · rw [u2_same, List.length_append]
    rfl
  · rw [u2_n1 _ _ (by omega), List.getD_eq_getElem?_getD]
    rw [List.length_append, List.length_singleton] at hj
    by_cases e : j = S.length
    · subst e
      rw [u2_same]
      simp
    · rw [u2_n2 _ _ e, List.getElem?_append_left (by omega), ← List.getD_eq_getElem?_getD]
      exact h.2.2.2.1 j (by omega)
  · rw [u2_n2 _ _ (by omega), u2_n1 _ _ (by omega)]
    exact h.2.2.2.2
/-- readsAnyOf -/
theorem sp_any (d : Nat) {o a n i : Nat} {S : List Int32} {kp : Int32} {J : Nat → Nat → Int32} {T : Nat → Nat} (ho : 151 ≤ o) (hT : TX I T n) (ha : a ≤ n) (h : RS I o a S kp J) (hi : i < 10) (hl : 0 < (zsBy.getD i []).length) (K : KI) (hK : ∀ J', RS I o (if oneOf T n a (zsBy.getD i []) < 0 then a else a + 1) S kp J' → K (oneOf T n a (zsBy.getD i [])) J' L M) : zCI C Y_X4_readsAnyOf (d + 8) [.ref 138, .ref (1000010 + i)] (zmk J L M) K := by
  have hT' := h.tx ho hT
  have hn := hT.2.1
  refine t_X4_readsAnyOf d hi _ ?_
  rw [hT'.1, h.2.1]
  unfold oneOf at hK
  refine ⟨fun z => ?_, fun z => ?_⟩
  · have han := (nI_lt_iff (by omega) (by omega)).mp z
    rw [if_pos han] at hK
    refine ⟨vp_in_nI (by omega) (by omega), ?_⟩
    rw [nI_clamp (by omega), hT'.2.2.1 a han, (chr_i8 (T a) (hT.2.2.2 a)).2]
    refine sp_sidx d hi hl (hT.2.2.2 a) _ ⟨fun y => ?_, fun y => ?_⟩
    · rw [if_neg (le_nlt y)] at hK
      rw [h.2.1, nI_1]
      exact hK _ (RS_to ho h)
    · rw [if_pos (nle_lt y)] at hK
      rw [h.2.1, Int32.add_zero]
      exact hK _ (RS_to ho h)
  · have han : ¬ a < n := fun q => z ((nI_lt_iff (by omega) (by omega)).mpr q)
    rw [if_neg han, if_pos (by decide)] at hK
    exact hK _ h
theorem sp_num (d : Nat) {o a n : Nat} {S : List Int32} {kp : Int32} {J : Nat → Nat → Int32} {T : Nat → Nat} (ho : 151 ≤ o) (hT : TX I T n) (ha : a ≤ n) (h : RS I o a S kp J) (K : KI) (h0 : numV T n a = none → K (-1) J L M) (h1 : ∀ v b, numV T n a = some (v, b) → ∀ J', RS I o b S kp J' → K (nI v) J' L M) : zCI C Y_X4_readsNumber (d + 1) [.ref 138] (zmk J L M) K := by
  have hn := hT.2.1
  refine t_X4_readsNumber d _ ?_
  -- one digit more, or none
  have stp1 : ∀ {a' : Nat} {J' : Nat → Nat → Int32} {hh : zH} (y1 y2 z0 : Int32), ¬ 2 ≤ y2 → a' ≤ n → RS I o a' S kp J' → (if 0 ≤ y1 then y1 * 10 else 0) = z0 → (dgV T n a' = false → K y1 J' L M) → (dgV T n a' = true → ∀ J'', RS I o (a' + 1) S kp J'' → zSI C hh K Y_X4_readsNumber (d + 1) 4 [(0, .ref 138), (1, .int ((z0 + nI (T a')) - 48)), (2, .int (y2 + 1))] [] J'' L M) → zSI C hh K Y_X4_readsNumber (d + 1) 4 [(0, .ref 138), (1, .int y1), (2, .int y2)] [] J' L M := by
    intro a' J' hh y1 y2 z0 hy ha' h' hz k0 k1
    have hT' := h'.tx ho hT
    refine t_X4_readsNumber_4 d _ _ _ (br_f hy ?_)
    rw [hT'.1, h'.2.1]
    refine ⟨fun z => k0 ?_, fun z => ?_⟩
    · have := (nI_le_iff (a := n) (b := a') (by omega) (by omega)).mp z
      unfold dgV
      exact decide_eq_false (by omega)
    · have han : a' < n := Nat.lt_of_not_le fun q => z ((nI_le_iff (by omega) (by omega)).mpr q)
      have hc := hT.2.2.2 a'
      have hin := vp_in_nI (show a' < 100 by omega) (by omega : 100 < 2 ^ 31)
      refine ⟨hin, ?_⟩
      rw [nI_clamp (by omega), hT'.2.2.1 a' han]
      refine ⟨fun y => k0 ?_, fun y => ⟨hin, fun w => k0 ?_, fun w => ?_⟩⟩
      · have := (nI_lt_iff (a := T a') (b := 48) (by omega) (by omega)).mp y
        unfold dgV
        exact decide_eq_false (by omega)
      · have := (nI_lt_iff (a := 57) (b := T a') (by omega) (by omega)).mp w
        unfold dgV
        exact decide_eq_false (by omega)
      · have hd : dgV T n a' = true := by
          unfold dgV
          have q1 : ¬ T a' < 48 := fun q => y ((nI_lt_iff (b := 48) (by omega) (by omega)).mpr q)
          have q2 : ¬ 57 < T a' := fun q => w ((nI_lt_iff (a := 57) (by omega) (by omega)).mpr q)
          exact decide_eq_true (by omega)
        have s60 : zSI C hh K Y_X4_readsNumber (d + 1) 60 [(0, .ref 138), (2, .int y2)] [.int z0] J' L M := by
          refine t_X4_readsNumber_60 d _ _ _ ?_
          rw [h'.2.1]
          refine ⟨hin, ?_⟩
          rw [nI_clamp (by omega), hT'.2.2.1 a' han, nI_1]
          exact k1 hd _ (RS_to ho h')
        refine ⟨fun q => ?_, fun q => ?_⟩
        · rw [if_pos q] at hz
          rw [hz]
          exact s60
        · rw [if_neg q] at hz
          rw [hz]
          exact s60
  refine stp1 (-1) 0 0 (by decide) ha h (by decide) (fun q => h0 ?_) fun q J1 r1 => ?_
  · unfold numV
    rw [q]
    rfl
  · have q' := q
    unfold dgV at q'
    have q2 := of_decide_eq_true q'
    have e1 : (0 + nI (T a)) - 48 = nI (T a - 48) := by
      rw [Int32.zero_add]
      exact nI_sub (m := T a) (n := 48) q2.2.1
    rw [e1]
    have hT1 := hT.2.2.2 a
    refine stp1 (nI (T a - 48)) (0 + 1) (nI ((T a - 48) * 10)) (by decide) (by omega) r1 (by rw [if_pos (nI_pos' (by omega)), show (10 : Int32) = nI 10 from rfl, pk_mul]) (fun w => h1 _ _ ?_ J1 r1) fun w J2 r2 => ?_
    · unfold numV
      rw [q, w]
      rfl
    · have w' := w
      unfold dgV at w'
      have w2 := of_decide_eq_true w'
      have hT2 := hT.2.2.2 (a + 1)
      refine t_X4_readsNumber_4 d _ _ _ (br_t (by decide) ?_)
      rw [nI_add, show (48 : Int32) = nI 48 from rfl, nI_sub (by omega), show (T a - 48) * 10 + T (a + 1) - 48 = 10 * (T a - 48) + (T (a + 1) - 48) by omega]
      refine h1 _ (a + 2) ?_ J2 r2
      unfold numV
      rw [q, w]
      rfl
theorem stp_t : ∀ l, l < 6 → ∀ r, r < 3 → ∀ v, v < 100 → ((nI l <<< ((14 : Int32) &&& 31)) ||| ((if r = 0 then 0 else if r = 1 then nI v else nI v + 1) <<< ((7 : Int32) &&& 31))) ||| (if r = 0 then nI v else if r = 1 then nI v + 1 else 127) = stp (3 + 300 * l + 100 * r + v) := by decide +kernel
theorem sp_tst (d : Nat) {o a n : Nat} {S : List Int32} {kp : Int32} {J : Nat → Nat → Int32} {T : Nat → Nat} (hh : zHo o) (ho : 151 ≤ o) (hT : TX I T n) (ha : a ≤ n) (h : RS I o a S kp J) (hS : S.length + (n - a) ≤ 100) (K : KI) (h1 : (tstV T n a).1 = true → ∀ J', RS I o (tstV T n a).2.1 (S ++ (tstV T n a).2.2.map stp) kp J' → K 1 J' L M) (h0 : (tstV T n a).1 = false → ∀ J' S' kp', RS I o (tstV T n a).2.1 S' kp' J' → K 0 J' L M) : zCI C Y_X4_readsTest (d + 9) [.ref 138, .ref o] (zmk J L M) K := by
  have hn := hT.2.1
  have hTT := hT.2.2.2
  refine t_X4_readsTest d hh _ ?_
  refine sp_any d (i := 3) ho hT ha h (by omega) (by decide) _ fun J1 r1 => ?_
  rw [show zsBy.getD 3 [] = ltL from rfl] at r1 ⊢
  unfold tstV at h1 h0
  rcases oneOf_lt hTT n a with ⟨q, e⟩ | ⟨l, hl, el, hal, q⟩
  · rw [if_pos q] at r1 h1 h0
    exact ⟨fun z => absurd q (le_nlt z), fun _ => h0 rfl J1 S kp r1⟩
  · rw [if_neg q] at r1 h1 h0
    refine ⟨fun _ => ?_, fun z => absurd (nlt_le q) z⟩
    refine sp_any d (i := 4) ho hT (by omega) r1 (by omega) (by decide) _ fun J2 r2 => ?_
    rw [show zsBy.getD 4 [] = rlL from rfl] at r2 ⊢
    rcases oneOf_rl hTT n (a + 1) with ⟨p, e⟩ | ⟨r, hr, er, har, p⟩
    · rw [if_pos p] at r2 h1 h0
      exact ⟨fun z => absurd p (le_nlt z), fun _ => h0 rfl J2 S kp r2⟩
    · rw [if_neg p] at r2 h1 h0
      refine ⟨fun _ => ?_, fun z => absurd (nlt_le p) z⟩
      rw [el, er]
      rw [el, er, cn_nI (by omega), cn_nI (by omega)] at h1
      refine sp_num (d + 7) ho hT (by omega) r2 _ (fun w => ⟨fun z => absurd z (by decide), fun _ => ?_⟩) fun v b w J3 r3 => ?_
      · rw [show a + 1 + 1 = a + 2 by omega] at w r2
        rw [w] at h0
        exact h0 rfl J2 S kp r2
      · rw [show a + 1 + 1 = a + 2 by omega] at w
        obtain ⟨w1, w2, w3⟩ := numV_ok w
        rw [w] at h1
        refine ⟨fun _ => ?_, fun z => absurd (nI_pos' (by omega)) z⟩
        have fin : ∀ x y : Int32, x = (if r = 0 then 0 else if r = 1 then nI v else nI v + 1) → y = (if r = 0 then nI v else if r = 1 then nI v + 1 else 127) → zSI C (zmk J L M) K Y_X4_readsTest (d + 9) 86 [(1, .ref o), (2, .int (nI l)), (5, .int x)] [.int y] J3 L M := by
          rintro x y rfl rfl
          refine t_X4_readsTest_86 d hh _ _ _ _ ?_
          rw [stp_t l hl r hr v (by omega)]
          exact sp_add (d + 7) hh ho r3 (by omega) _ _ fun J4 r4 => h1 rfl J4 r4
        have s61 : ∀ x : Int32, x = (if r = 0 then 0 else if r = 1 then nI v else nI v + 1) → zSI C (zmk J L M) K Y_X4_readsTest (d + 9) 61 [(1, .ref o), (2, .int (nI l)), (3, .int (nI r)), (4, .int (nI v))] [.int x] J3 L M := by
          intro x hx
          refine t_X4_readsTest_61 d hh _ _ _ _ _ ⟨fun z => ⟨fun z2 => fin x _ hx ?_, fun z2 => fin x _ hx ?_⟩, fun z => fin x _ hx ?_⟩
          · rw [if_neg (fun y => z (by rw [y]; rfl)), if_neg (fun y => z2 (by rw [y]; rfl))]
          · have : r = 1 := nI_inj (b := 1) (by omega) (by omega) z2
            rw [this]; rfl
          · have : r = 0 := nI_inj (b := 0) (by omega) (by omega) z
            rw [this]; rfl
        refine ⟨fun z => ⟨fun z2 => s61 _ ?_, fun z2 => s61 _ ?_⟩, fun z => s61 _ ?_⟩
        · rw [if_neg (fun y => z (by rw [y]; rfl)), if_neg (fun y => z2 (by rw [y]; rfl))]
        · have : r = 1 := nI_inj (b := 1) (by omega) (by omega) z2
          rw [this]; rfl
        · have : r = 0 := nI_inj (b := 0) (by omega) (by omega) z
          rw [this]; rfl
end SM
