/-! THE TEXT, read: pure. A reading answers whether, where, and the codes -/
abbrev Rs : Type := Bool × Nat × List Nat
def nxV (T : Nat → Nat) (n a : Nat) : Int32 := if a < n then nI (T a) else -1
def dgV (T : Nat → Nat) (n a : Nat) : Bool := decide (a < n ∧ 48 ≤ T a ∧ T a ≤ 57)
/-- a number: its value and where it ends -/
def numV (T : Nat → Nat) (n a : Nat) : Option (Nat × Nat) := if dgV T n a then (if dgV T n (a + 1) then some (10 * (T a - 48) + (T (a + 1) - 48), a + 2) else some (T a - 48, a + 1)) else none
/-- which of some signs -/
def oneOf (T : Nat → Nat) (n a : Nat) (l : List Int32) : Int32 := if a < n then ixV (nI (T a)) l 0 else -1
def ltL : List Int32 := [112, 107, 118, 120, 119, 110]
def rlL : List Int32 := [60, 61, 62]
def tstV (T : Nat → Nat) (n a : Nat) : Rs :=
  if oneOf T n a ltL < 0 then (false, a, []) else if oneOf T n (a + 1) rlL < 0 then (false, a + 1, []) else match numV T n (a + 2) with
    | none => (false, a + 2, [])
    | some (v, b) => (true, b, [3 + 300 * cn (oneOf T n a ltL) + 100 * cn (oneOf T n (a + 1) rlL) + v])
/-- & and what follows it, as long as it goes on -/
def lpT (T : Nat → Nat) (n : Nat) (F : Nat → Rs) : Nat → Nat → List Nat → Rs
  | 0, a, c => (true, a, c)
  | k + 1, a, c => if nxV T n a = 38 then (match F (a + 1) with
    | (true, b, c') => lpT T n F k b (c ++ c' ++ [1])
    | (false, b, c') => (false, b, c ++ c')) else (true, a, c)
/-- | and what follows it -/
def lpE (T : Nat → Nat) (n : Nat) (F : Nat → Rs) : Nat → Nat → List Nat → Rs
  | 0, a, c => (true, a, c)
  | k + 1, a, c => if nxV T n a = 124 then (match F (a + 1) with
    | (true, b, c') => (match lpT T n F 101 b (c ++ c') with
      | (true, b', c'') => lpE T n F k b' (c'' ++ [2])
      | (false, b', c'') => (false, b', c''))
    | (false, b, c') => (false, b, c ++ c')) else (true, a, c)
def eeV (T : Nat → Nat) (n : Nat) (F : Nat → Rs) (a : Nat) (c : List Nat) : Rs := match F a with
  | (true, b, c') => (match lpT T n F 101 b (c ++ c') with
    | (true, b', c'') => lpE T n F 101 b' c''
    | (false, b', c'') => (false, b', c''))
  | (false, b, c') => (false, b, c ++ c')
/-- F, k more openings being allowed -/
def ffV (T : Nat → Nat) (n : Nat) : Nat → Nat → Rs
  | 0, a => tstV T n a
  | k + 1, a => if nxV T n a = 33 then (match ffV T n k (a + 1) with
      | (true, b, c) => (true, b, c ++ [0])
      | (false, b, c) => (false, b, c))
    else if nxV T n a = 40 then (match eeV T n (ffV T n k) (a + 1) [] with
      | (true, b, c) => if nxV T n b = 41 then (true, b + 1, c) else (false, b, c)
      | (false, b, c) => (false, b, c))
    else tstV T n a
/-- what every reading keeps: it goes forward, no more codes than signs, codes in range, one answer open behind it -/
def GdF (n D a : Nat) (r : Rs) : Prop := a ≤ r.2.1 ∧ r.2.1 ≤ n ∧ r.2.2.length ≤ r.2.1 - a ∧ (∀ c ∈ r.2.2, c < 1803) ∧ (r.1 = true → a < r.2.1 ∧ ∀ m, m + D ≤ 30 → dep r.2.2 m = some (m + 1))
theorem dep_app : ∀ (x y : List Nat) (m : Nat), dep (x ++ y) m = (dep x m).bind (dep y) := by
  intro x
  induction x with
  | nil => intro y m; rfl
  | cons c x ih =>
    intro y m
    show dep (c :: (x ++ y)) m = _
    unfold dep
    by_cases h3 : 3 ≤ c
    · rw [if_pos h3, if_pos h3]
      by_cases h30 : m < 30
      · rw [if_pos h30, if_pos h30]; exact ih y (m + 1)
      · rw [if_neg h30, if_neg h30]; rfl
    · rw [if_neg h3, if_neg h3]
      by_cases h0 : c = 0
      · rw [if_pos h0, if_pos h0]
        by_cases h1 : 1 ≤ m
        · rw [if_pos h1, if_pos h1]; exact ih y m
        · rw [if_neg h1, if_neg h1]; rfl
      · rw [if_neg h0, if_neg h0]
        by_cases h2 : 2 ≤ m
        · rw [if_pos h2, if_pos h2]; exact ih y (m - 1)
        · rw [if_neg h2, if_neg h2]; rfl
theorem dep_1 (m : Nat) : dep [1] (m + 1 + 1) = some (m + 1) := by
  unfold dep
  rw [if_neg (by omega), if_neg (by omega), if_pos (by omega)]
  rfl
theorem dep_2 (m : Nat) : dep [2] (m + 1 + 1) = some (m + 1) := by
  unfold dep
  rw [if_neg (by omega), if_neg (by omega), if_pos (by omega)]
  rfl
theorem dep_0 (m : Nat) : dep [0] (m + 1) = some (m + 1) := by
  unfold dep
  rw [if_neg (by omega), if_pos rfl, if_pos (by omega)]
  rfl
theorem ixV_rng : ∀ c, c < 128 → (ixV (nI c) ltL 0 = -1 ∨ ∃ j, j < 6 ∧ ixV (nI c) ltL 0 = nI j) ∧ (ixV (nI c) rlL 0 = -1 ∨ ∃ j, j < 3 ∧ ixV (nI c) rlL 0 = nI j) := by decide +kernel
theorem oneOf_lt {T : Nat → Nat} (hT : ∀ j, T j < 128) (n a : Nat) : (oneOf T n a ltL < 0 ∧ oneOf T n a ltL = -1) ∨ ∃ j, j < 6 ∧ oneOf T n a ltL = nI j ∧ a < n ∧ ¬ oneOf T n a ltL < 0 := by
  unfold oneOf
  by_cases h : a < n
  · rw [if_pos h]
    rcases (ixV_rng (T a) (hT a)).1 with e | ⟨j, hj, e⟩
    · rw [e]; exact Or.inl ⟨by decide, rfl⟩
    · rw [e]; exact Or.inr ⟨j, hj, rfl, h, le_nlt (nI_pos' (by omega))⟩
  · rw [if_neg h]; exact Or.inl ⟨by decide, rfl⟩
theorem oneOf_rl {T : Nat → Nat} (hT : ∀ j, T j < 128) (n a : Nat) : (oneOf T n a rlL < 0 ∧ oneOf T n a rlL = -1) ∨ ∃ j, j < 3 ∧ oneOf T n a rlL = nI j ∧ a < n ∧ ¬ oneOf T n a rlL < 0 := by
  unfold oneOf
  by_cases h : a < n
  · rw [if_pos h]
    rcases (ixV_rng (T a) (hT a)).2 with e | ⟨j, hj, e⟩
    · rw [e]; exact Or.inl ⟨by decide, rfl⟩
    · rw [e]; exact Or.inr ⟨j, hj, rfl, h, le_nlt (nI_pos' (by omega))⟩
  · rw [if_neg h]; exact Or.inl ⟨by decide, rfl⟩
theorem numV_ok {T : Nat → Nat} {n a v b : Nat} (h : numV T n a = some (v, b)) : v ≤ 99 ∧ a < b ∧ b ≤ n := by
  unfold numV dgV at h
  by_cases h1 : a < n ∧ 48 ≤ T a ∧ T a ≤ 57
  · rw [if_pos (decide_eq_true h1)] at h
    by_cases h2 : a + 1 < n ∧ 48 ≤ T (a + 1) ∧ T (a + 1) ≤ 57
    · rw [if_pos (decide_eq_true h2)] at h
      have : 10 * (T a - 48) + (T (a + 1) - 48) = v ∧ a + 2 = b := by simpa using h
      omega
    · rw [if_neg (by simpa using h2)] at h
      have : T a - 48 = v ∧ a + 1 = b := by simpa using h
      omega
  · rw [if_neg (by simpa using h1)] at h
    exact absurd h (by simp)
theorem tst_gd {T : Nat → Nat} (hT : ∀ j, T j < 128) {n a : Nat} (ha : a ≤ n) : GdF n 1 a (tstV T n a) := by
  unfold tstV
  rcases oneOf_lt hT n a with ⟨h, -⟩ | ⟨j, hj, ej, hj2, h⟩
  · rw [if_pos h]
    exact ⟨Nat.le_refl _, ha, Nat.zero_le _, by simp, fun z => absurd z (by simp)⟩
  · rw [if_neg h]
    rcases oneOf_rl hT n (a + 1) with ⟨g, -⟩ | ⟨k, hk, ek, hk2, g⟩
    · rw [if_pos g]
      exact ⟨by show a ≤ a + 1; omega, by show a + 1 ≤ n; omega, Nat.zero_le _, by simp, fun z => absurd z (by simp)⟩
    · rw [if_neg g]
      cases e : numV T n (a + 2) with
      | none => exact ⟨by show a ≤ a + 2; omega, by show a + 2 ≤ n; omega, Nat.zero_le _, by simp, fun z => absurd z (by simp)⟩
      | some q =>
        obtain ⟨v, b⟩ := q
        obtain ⟨b1, b2, b3⟩ := numV_ok e
        rw [ej, ek, cn_nI (by omega), cn_nI (by omega)]
        refine ⟨by show a ≤ b; omega, b3, by show 1 ≤ b - a; omega, fun c hc => ?_, fun _ => ⟨by show a < b; omega, fun m hm => ?_⟩⟩
        · have : c = 3 + 300 * j + 100 * k + v := by simpa using hc
          omega
        · show dep [3 + 300 * j + 100 * k + v] m = _
          unfold dep
          rw [if_pos (by omega), if_pos (by omega)]
          rfl
/-- a row of codes already read, c, and a reading that goes on from it -/
def GdL (n D a : Nat) (c : List Nat) (r : Rs) : Prop := a ≤ r.2.1 ∧ r.2.1 ≤ n ∧ (∃ c', r.2.2 = c ++ c' ∧ c'.length ≤ r.2.1 - a ∧ (∀ x ∈ c', x < 1803) ∧ (r.1 = true → ∀ m, m + D ≤ 30 → dep c' (m + 1) = some (m + 1)))
theorem lpT_gd {T : Nat → Nat} {n D : Nat} {F : Nat → Rs} (hF : ∀ a, a ≤ n → GdF n D a (F a)) : ∀ (k a : Nat) (c : List Nat), a ≤ n → GdL n (D + 1) a c (lpT T n F k a c) := by
  intro k
  induction k with
  | zero => intro a c ha; exact ⟨Nat.le_refl _, ha, [], by simp [lpT], by simp, by simp, fun _ m _ => rfl⟩
  | succ k ih =>
    intro a c ha
    unfold lpT
    by_cases h : nxV T n a = 38
    · rw [if_pos h]
      have han : a < n := by
        unfold nxV at h
        by_cases q : a < n
        · exact q
        · rw [if_neg q] at h; exact absurd h (by decide)
      have g := hF (a + 1) (by omega)
      cases e : F (a + 1) with
      | mk ok r =>
        obtain ⟨b, c1⟩ := r
        rw [e] at g
        obtain ⟨g1, g2, g3, g4, g5⟩ := g
        simp only at g1 g2 g3 g4 g5
        cases ok with
        | true =>
          obtain ⟨i1, i2, c2, i3, i4, i5, i6⟩ := ih b (c ++ c1 ++ [1]) g2
          refine ⟨by show a ≤ (lpT T n F k b (c ++ c1 ++ [1])).2.1; omega, i2, c1 ++ [1] ++ c2, ?_, ?_, ?_, ?_⟩
          · show (lpT T n F k b (c ++ c1 ++ [1])).2.2 = _
            rw [i3]
            simp
          · show _ ≤ (lpT T n F k b (c ++ c1 ++ [1])).2.1 - a
            rw [List.length_append, List.length_append, List.length_singleton]
            omega
          · intro x hx
            rcases List.mem_append.mp hx with hx | hx
            · rcases List.mem_append.mp hx with hx | hx
              · exact g4 x hx
              · have : x = 1 := by simpa using hx
                omega
            · exact i5 x hx
          · intro z m hm
            have z' : (lpT T n F k b (c ++ c1 ++ [1])).1 = true := z
            rw [dep_app, dep_app, (g5 rfl).2 (m + 1) (by omega)]
            show ((dep [1] (m + 1 + 1)).bind (dep c2)) = _
            rw [dep_1]
            exact i6 z' m hm
        | false =>
          refine ⟨by show a ≤ b; omega, g2, c1, rfl, by show c1.length ≤ b - a; omega, g4, fun z => absurd z (by simp)⟩
    · rw [if_neg h]
      exact ⟨Nat.le_refl _, ha, [], by simp, by simp, by simp, fun _ m _ => rfl⟩
theorem lpE_gd {T : Nat → Nat} {n D : Nat} {F : Nat → Rs} (hF : ∀ a, a ≤ n → GdF n D a (F a)) : ∀ (k a : Nat) (c : List Nat), a ≤ n → GdL n (D + 2) a c (lpE T n F k a c) := by
  intro k
  induction k with
  | zero => intro a c ha; exact ⟨Nat.le_refl _, ha, [], by simp [lpE], by simp, by simp, fun _ m _ => rfl⟩
  | succ k ih =>
    intro a c ha
    unfold lpE
    by_cases h : nxV T n a = 124
    · rw [if_pos h]
      have han : a < n := by
        unfold nxV at h
        by_cases q : a < n
        · exact q
        · rw [if_neg q] at h; exact absurd h (by decide)
      have g := hF (a + 1) (by omega)
      cases e : F (a + 1) with
      | mk ok r =>
        obtain ⟨b, c1⟩ := r
        rw [e] at g
        obtain ⟨g1, g2, g3, g4, g5⟩ := g
        simp only at g1 g2 g3 g4 g5
        cases ok with
        | true =>
          have t := lpT_gd (T := T) hF 101 b (c ++ c1) g2
          show GdL n (D + 2) a c (match lpT T n F 101 b (c ++ c1) with
            | (true, b', c'') => lpE T n F k b' (c'' ++ [2])
            | (false, b', c'') => (false, b', c''))
          cases e2 : lpT T n F 101 b (c ++ c1) with
          | mk ok2 r2 =>
            obtain ⟨b2, c2⟩ := r2
            rw [e2] at t
            obtain ⟨t1, t2, c3, t3, t4, t5, t6⟩ := t
            simp only at t1 t2 t3 t4 t5 t6
            cases ok2 with
            | true =>
              obtain ⟨i1, i2, c4, i3, i4, i5, i6⟩ := ih b2 (c2 ++ [2]) t2
              refine ⟨by show a ≤ (lpE T n F k b2 (c2 ++ [2])).2.1; omega, i2, c1 ++ c3 ++ [2] ++ c4, ?_, ?_, ?_, ?_⟩
              · show (lpE T n F k b2 (c2 ++ [2])).2.2 = _
                rw [i3, t3]
                simp
              · show _ ≤ (lpE T n F k b2 (c2 ++ [2])).2.1 - a
                rw [List.length_append, List.length_append, List.length_append, List.length_singleton]
                omega
              · intro x hx
                rcases List.mem_append.mp hx with hx | hx
                · rcases List.mem_append.mp hx with hx | hx
                  · rcases List.mem_append.mp hx with hx | hx
                    · exact g4 x hx
                    · exact t5 x hx
                  · have : x = 2 := by simpa using hx
                    omega
                · exact i5 x hx
              · intro z m hm
                have z' : (lpE T n F k b2 (c2 ++ [2])).1 = true := z
                rw [dep_app, dep_app, dep_app, (g5 rfl).2 (m + 1) (by omega)]
                show (((dep c3 (m + 1 + 1)).bind (dep [2])).bind (dep c4)) = _
                rw [t6 rfl (m + 1) (by omega)]
                show ((dep [2] (m + 1 + 1)).bind (dep c4)) = _
                rw [dep_2]
                exact i6 z' m hm
            | false =>
              refine ⟨by show a ≤ b2; omega, t2, c1 ++ c3, by show c2 = _; rw [t3, List.append_assoc], by show (c1 ++ c3).length ≤ b2 - a; rw [List.length_append]; omega, fun x hx => ?_, fun z => absurd z (by simp)⟩
              rcases List.mem_append.mp hx with hx | hx
              · exact g4 x hx
              · exact t5 x hx
        | false =>
          refine ⟨by show a ≤ b; omega, g2, c1, rfl, by show c1.length ≤ b - a; omega, g4, fun z => absurd z (by simp)⟩
    · rw [if_neg h]
      exact ⟨Nat.le_refl _, ha, [], by simp, by simp, by simp, fun _ m _ => rfl⟩
theorem ee_gd {T : Nat → Nat} {n D : Nat} {F : Nat → Rs} (hF : ∀ a, a ≤ n → GdF n D a (F a)) {a : Nat} (ha : a ≤ n) : GdF n (D + 2) a (eeV T n F a []) := by
  have g := hF a ha
  unfold eeV
  cases e : F a with
  | mk ok r =>
    obtain ⟨b, c1⟩ := r
    rw [e] at g
    obtain ⟨g1, g2, g3, g4, g5⟩ := g
    simp only at g1 g2 g3 g4 g5
    cases ok with
    | true =>
      have t := lpT_gd (T := T) hF 101 b ([] ++ c1) g2
      show GdF n (D + 2) a (match lpT T n F 101 b ([] ++ c1) with
        | (true, b', c'') => lpE T n F 101 b' c''
        | (false, b', c'') => (false, b', c''))
      cases e2 : lpT T n F 101 b ([] ++ c1) with
      | mk ok2 r2 =>
        obtain ⟨b2, c2⟩ := r2
        rw [e2] at t
        obtain ⟨t1, t2, c3, t3, t4, t5, t6⟩ := t
        simp only at t1 t2 t3 t4 t5 t6
        rw [List.nil_append] at t3
        cases ok2 with
        | true =>
          obtain ⟨i1, i2, c4, i3, i4, i5, i6⟩ := lpE_gd (T := T) hF 101 b2 c2 t2
          show GdF n (D + 2) a (lpE T n F 101 b2 c2)
          refine ⟨by omega, i2, ?_, ?_, fun z => ⟨by have := (g5 rfl).1; omega, fun m hm => ?_⟩⟩
          · have hl2 : c2.length = c1.length + c3.length := by rw [t3, List.length_append]
            rw [i3, List.length_append]
            omega
          · intro x hx
            rw [i3, t3] at hx
            rcases List.mem_append.mp hx with hx | hx
            · rcases List.mem_append.mp hx with hx | hx
              · exact g4 x hx
              · exact t5 x hx
            · exact i5 x hx
          · rw [i3, t3, dep_app, dep_app, (g5 rfl).2 m (by omega)]
            show ((dep c3 (m + 1)).bind (dep c4)) = _
            rw [t6 rfl m (by omega)]
            exact i6 z m hm
        | false =>
          refine ⟨by show a ≤ b2; omega, t2, by show c2.length ≤ b2 - a; rw [t3, List.length_append]; omega, fun x hx => ?_, fun z => absurd z (by simp)⟩
          have hx' : x ∈ c2 := hx
          rw [t3] at hx'
          rcases List.mem_append.mp hx' with hx | hx
          · exact g4 x hx
          · exact t5 x hx
    | false =>
      refine ⟨by show a ≤ b; omega, g2, by show ([] ++ c1).length ≤ b - a; rw [List.nil_append]; omega, g4, fun z => absurd z (by simp)⟩
theorem nx_in {T : Nat → Nat} {n a : Nat} {v : Int32} (h : nxV T n a = v) (hv : ¬ v = -1) : a < n := by
  unfold nxV at h
  by_cases q : a < n
  · exact q
  · rw [if_neg q] at h; exact absurd h.symm hv
theorem ff_gd {T : Nat → Nat} (hT : ∀ j, T j < 128) {n : Nat} : ∀ (k a : Nat), a ≤ n → GdF n (2 * k + 1) a (ffV T n k a) := by
  intro k
  induction k with
  | zero => intro a ha; exact tst_gd hT ha
  | succ k ih =>
    intro a ha
    have lift : ∀ {D D' a' : Nat} {r : Rs}, D ≤ D' → GdF n D a' r → GdF n D' a' r := fun hd h => ⟨h.1, h.2.1, h.2.2.1, h.2.2.2.1, fun z => ⟨(h.2.2.2.2 z).1, fun m hm => (h.2.2.2.2 z).2 m (by omega)⟩⟩
    unfold ffV
    by_cases h33 : nxV T n a = 33
    · rw [if_pos h33]
      have han := nx_in h33 (by decide)
      have g := ih (a + 1) (by omega)
      cases e : ffV T n k (a + 1) with
      | mk ok r =>
        obtain ⟨b, c1⟩ := r
        rw [e] at g
        obtain ⟨g1, g2, g3, g4, g5⟩ := g
        simp only at g1 g2 g3 g4 g5
        cases ok with
        | true =>
          refine ⟨by show a ≤ b; omega, g2, by show (c1 ++ [0]).length ≤ b - a; rw [List.length_append, List.length_singleton]; omega, fun x hx => ?_, fun _ => ⟨by show a < b; omega, fun m hm => ?_⟩⟩
          · have hx' : x ∈ c1 ++ [0] := hx
            rcases List.mem_append.mp hx' with hx | hx
            · exact g4 x hx
            · have : x = 0 := by simpa using hx
              omega
          · show dep (c1 ++ [0]) m = _
            rw [dep_app, (g5 rfl).2 m (by omega)]
            exact dep_0 m
        | false =>
          exact ⟨by show a ≤ b; omega, g2, by show c1.length ≤ b - a; omega, g4, fun z => absurd z (by simp)⟩
    · rw [if_neg h33]
      by_cases h40 : nxV T n a = 40
      · rw [if_pos h40]
        have han := nx_in h40 (by decide)
        have g := ee_gd (T := T) ih (a := a + 1) (by omega)
        cases e : eeV T n (ffV T n k) (a + 1) [] with
        | mk ok r =>
          obtain ⟨b, c1⟩ := r
          rw [e] at g
          obtain ⟨g1, g2, g3, g4, g5⟩ := g
          simp only at g1 g2 g3 g4 g5
          cases ok with
          | true =>
            show GdF n (2 * (k + 1) + 1) a (if nxV T n b = 41 then (true, b + 1, c1) else (false, b, c1))
            by_cases h41 : nxV T n b = 41
            · rw [if_pos h41]
              have hbn := nx_in h41 (by decide)
              exact ⟨by show a ≤ b + 1; omega, by show b + 1 ≤ n; omega, by show c1.length ≤ b + 1 - a; omega, g4, fun _ => ⟨by show a < b + 1; omega, fun m hm => (g5 rfl).2 m (by omega)⟩⟩
            · rw [if_neg h41]
              exact ⟨by show a ≤ b; omega, g2, by show c1.length ≤ b - a; omega, g4, fun z => absurd z (by simp)⟩
          | false =>
            exact ⟨by show a ≤ b; omega, g2, by show c1.length ≤ b - a; omega, g4, fun z => absurd z (by simp)⟩
      · rw [if_neg h40]
        exact lift (by omega) (tst_gd hT ha)
