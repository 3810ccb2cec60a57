theorem hd_amp {T : Nat → Nat} {n D : Nat} {F : Nat → Rs} (hF : ∀ a, a ≤ n → GdF n D a (F a)) (hn : n ≤ 100) {an orr : Bool} {a b : Nat} {c c' : List Nat} (e : F a = (true, b, c')) (hb : b ≤ n) (q : nxV T n b = 38) : hdV T n F an orr a c = hdV T n F true orr (b + 1) (c ++ c' ++ (if an then [1] else [])) := by
  have han := nx_in q (by decide)
  unfold hdV
  rw [e]
  show (match lpT T n F (100 + 1) b (c ++ c' ++ (if an then [1] else [])) with
    | (false, b', c'') => (false, b', c'')
    | (true, b', c'') => lpE T n F 101 b' (c'' ++ (if orr then [2] else []))) = _
  have g := hF (b + 1) (by omega)
  have el : lpT T n F (100 + 1) b (c ++ c' ++ (if an then [1] else [])) = (match F (b + 1) with
    | (true, b2, c1) => lpT T n F 100 b2 (c ++ c' ++ (if an then [1] else []) ++ c1 ++ [1])
    | (false, b2, c1) => (false, b2, c ++ c' ++ (if an then [1] else []) ++ c1)) := by
    show (if nxV T n b = 38 then _ else _) = _
    rw [if_pos q]
    cases F (b + 1) with
    | mk ok r =>
      obtain ⟨b2, c1⟩ := r
      cases ok <;> rfl
  rw [el]
  cases e2 : F (b + 1) with
  | mk ok r =>
    obtain ⟨b2, c1⟩ := r
    rw [e2] at g
    obtain ⟨g1, g2, -⟩ := g
    simp only at g1 g2
    cases ok with
    | true =>
      show (match lpT T n F 100 b2 (c ++ c' ++ (if an then [1] else []) ++ c1 ++ [1]) with
        | (false, b', c'') => (false, b', c'')
        | (true, b', c'') => lpE T n F 101 b' (c'' ++ (if orr then [2] else []))) = _
      rw [lpT_fuel hF 100 101 b2 _ g2 (by omega) (by omega)]
      rfl
    | false => rfl
theorem hd_bar {T : Nat → Nat} {n D : Nat} {F : Nat → Rs} (hF : ∀ a, a ≤ n → GdF n D a (F a)) (hn : n ≤ 100) {an orr : Bool} {a b : Nat} {c c' : List Nat} (e : F a = (true, b, c')) (hb : b ≤ n) (q : ¬ nxV T n b = 38) (q2 : nxV T n b = 124) : hdV T n F an orr a c = hdV T n F false true (b + 1) (c ++ c' ++ (if an then [1] else []) ++ (if orr then [2] else [])) := by
  have han := nx_in q2 (by decide)
  generalize hc3 : c ++ c' ++ (if an then [1] else []) ++ (if orr then [2] else []) = c3
  have e0 : hdV T n F an orr a c = lpE T n F 101 b c3 := by
    unfold hdV
    rw [e]
    show (match lpT T n F (100 + 1) b (c ++ c' ++ (if an then [1] else [])) with
      | (false, b', c'') => (false, b', c'')
      | (true, b', c'') => lpE T n F 101 b' (c'' ++ (if orr then [2] else []))) = _
    have el : lpT T n F (100 + 1) b (c ++ c' ++ (if an then [1] else [])) = (true, b, c ++ c' ++ (if an then [1] else [])) := by
      show (if nxV T n b = 38 then _ else _) = _
      rw [if_neg q]
    rw [el, ← hc3]
  rw [e0]
  have g := hF (b + 1) (by omega)
  have el : lpE T n F (100 + 1) b c3 = (match F (b + 1) with
    | (true, b2, c1) => (match lpT T n F 101 b2 (c3 ++ c1) with
      | (true, b', c'') => lpE T n F 100 b' (c'' ++ [2])
      | (false, b', c'') => (false, b', c''))
    | (false, b2, c1) => (false, b2, c3 ++ c1)) := by
    show (if nxV T n b = 124 then _ else _) = _
    rw [if_pos q2]
    cases F (b + 1) with
    | mk ok r =>
      obtain ⟨b2, c1⟩ := r
      cases ok <;> rfl
  rw [show (101 : Nat) = 100 + 1 from rfl, el]
  unfold hdV
  cases e2 : F (b + 1) with
  | mk ok r =>
    obtain ⟨b2, c1⟩ := r
    rw [e2] at g
    obtain ⟨g1, g2, -⟩ := g
    simp only at g1 g2
    cases ok with
    | true =>
      show (match lpT T n F 101 b2 (c3 ++ c1) with
        | (true, b', c'') => lpE T n F 100 b' (c'' ++ [2])
        | (false, b', c'') => (false, b', c'')) = (match lpT T n F 101 b2 (c3 ++ c1 ++ []) with
        | (false, b', c'') => (false, b', c'')
        | (true, b', c'') => lpE T n F 101 b' (c'' ++ [2]))
      rw [List.append_nil]
      have t := lpT_gd (T := T) hF 101 b2 (c3 ++ c1) g2
      cases e3 : lpT T n F 101 b2 (c3 ++ c1) with
      | mk ok2 r2 =>
        obtain ⟨b3, c4⟩ := r2
        rw [e3] at t
        obtain ⟨t1, t2, -⟩ := t
        simp only at t1 t2
        cases ok2 with
        | true => exact lpE_fuel hF 100 101 b3 _ t2 (by omega) (by omega)
        | false => rfl
    | false => rfl
theorem hd_end {T : Nat → Nat} {n : Nat} {F : Nat → Rs} {an orr : Bool} {a b : Nat} {c c' : List Nat} (e : F a = (true, b, c')) (q : ¬ nxV T n b = 38) (q2 : ¬ nxV T n b = 124) : hdV T n F an orr a c = (true, b, c ++ c' ++ (if an then [1] else []) ++ (if orr then [2] else [])) := by
  unfold hdV
  rw [e]
  show (match lpT T n F (100 + 1) b (c ++ c' ++ (if an then [1] else [])) with
    | (false, b', c'') => (false, b', c'')
    | (true, b', c'') => lpE T n F (100 + 1) b' (c'' ++ (if orr then [2] else []))) = _
  have el : lpT T n F (100 + 1) b (c ++ c' ++ (if an then [1] else [])) = (true, b, c ++ c' ++ (if an then [1] else [])) := by
    show (if nxV T n b = 38 then _ else _) = _
    rw [if_neg q]
  rw [el]
  show (if nxV T n b = 124 then _ else _) = _
  rw [if_neg q2]
theorem hd_no {T : Nat → Nat} {n : Nat} {F : Nat → Rs} {an orr : Bool} {a b : Nat} {c c' : List Nat} (e : F a = (false, b, c')) : hdV T n F an orr a c = (false, b, c ++ c') := by
  unfold hdV
  rw [e]
def b1 (b : Bool) : Nat := if b then 1 else 0
section SM
variable {C : zC} {I I' : Nat → Nat → Int32} {L L' : Nat → Nat → Int64} {M : Nat → Nat → Option Nat}
/-- what readsOne does with x as its depth, N frames being there -/
def FC (C : zC) (I : Nat → Nat → Int32) (L : Nat → Nat → Int64) (M : Nat → Nat → Option Nat) (o n : Nat) (F : Nat → Rs) (x : Int32) (N : Nat) : Prop := ∀ (D a : Nat) (S : List Int32) (kp : Int32) (J : Nat → Nat → Int32) (K : KI), a ≤ n → S.length + (n - a) ≤ 100 → RS I o a S kp J → ((F a).1 = true → ∀ J', RS I o (F a).2.1 (S ++ (F a).2.2.map stp) kp J' → K 1 J' L M) → ((F a).1 = false → ∀ J' S' kp', RS I o (F a).2.1 S' kp' J' → K 0 J' L M) → zCI C Y_X4_readsOne (D + N + 1) [.ref 138, .ref o, .int x] (zmk J L M) K
theorem sp_choice {o n N W : Nat} {T : Nat → Nat} {F : Nat → Rs} {x : Int32} (hh : zHo o) (ho : 151 ≤ o) (hT : TX I T n) (hG : ∀ a, a ≤ n → GdF n W a (F a)) (hF : FC C I L M o n F x N) (D a : Nat) (S : List Int32) (kp : Int32) (J : Nat → Nat → Int32) (K : KI) (ha : a ≤ n) (hS : S.length + (n - a) ≤ 100) (h : RS I o a S kp J) (h1 : (eeV T n F a []).1 = true → ∀ J', RS I o (eeV T n F a []).2.1 (S ++ (eeV T n F a []).2.2.map stp) kp J' → K 1 J' L M) (h0 : (eeV T n F a []).1 = false → ∀ J' S' kp', RS I o (eeV T n F a []).2.1 S' kp' J' → K 0 J' L M) : zCI C Y_X4_readsChoice (D + N + 2) [.ref 138, .ref o, .int x] (zmk J L M) K := by
  have hn := hT.2.1
  refine t_X4_readsChoice (D + N) _ hh _ ?_
  rw [← hd_ee] at h1 h0
  have key : ∀ (m : Nat) (an orr : Bool) (i a : Nat) (c : List Nat) (J : Nat → Nat → Int32), n - a ≤ m → a ≤ n → 2 * i ≤ a → S.length + c.length + (n - a) + b1 an + b1 orr ≤ 100 → RS I o a (S ++ c.map stp) kp J → ((hdV T n F an orr a c).1 = true → ∀ J', RS I o (hdV T n F an orr a c).2.1 (S ++ (hdV T n F an orr a c).2.2.map stp) kp J' → K 1 J' L M) → ((hdV T n F an orr a c).1 = false → ∀ J' S' kp', RS I o (hdV T n F an orr a c).2.1 S' kp' J' → K 0 J' L M) → ∀ {hz : zH}, zSI C hz K Y_X4_readsChoice (D + N + 2) 8 [(0, .ref 138), (1, .ref o), (2, .int x), (3, .int (zB an)), (4, .int (zB orr)), (5, .int (nI i))] [] J L M := by
    intro m
    induction m with
    | zero =>
      intro an orr i a c J hm ha hi hS h h1 h0 hz
      refine t_X4_readsChoice_8 (D + N) hh _ _ _ _ _ (br_f (fun z => by have := (nI_le_iff (a := 100) (b := i) (by omega) (by omega)).mp z; omega) ?_)
      have hg := hG a ha
      refine hF D a (S ++ c.map stp) kp J _ ha (by rw [List.length_append, List.length_map]; omega) h (fun z => ?_) (fun z J1 S1 kp1 r1 => ⟨fun y => absurd rfl y, fun _ => ?_⟩)
      · have := (hg.2.2.2.2 z).1
        have := hg.2.1
        omega
      · cases e : F a with
        | mk ok r =>
          obtain ⟨b, c'⟩ := r
          rw [e] at z r1
          have z' : ok = false := z
          subst z'
          rw [hd_no e] at h0
          exact h0 rfl J1 S1 kp1 r1
    | succ m ih =>
      intro an orr i a c J hm ha hi hS h h1 h0 hz
      refine t_X4_readsChoice_8 (D + N) hh _ _ _ _ _ (br_f (fun z => by have := (nI_le_iff (a := 100) (b := i) (by omega) (by omega)).mp z; omega) ?_)
      have hg := hG a ha
      refine hF D a (S ++ c.map stp) kp J _ ha (by rw [List.length_append, List.length_map]; omega) h (fun z J1 r1 => ?_) (fun z J1 S1 kp1 r1 => ⟨fun y => absurd rfl y, fun _ => ?_⟩)
      · cases e : F a with
        | mk ok r =>
          obtain ⟨b, c'⟩ := r
          rw [e] at z r1 hg
          have z' : ok = true := z
          subst z'
          obtain ⟨g1, g2, g3, -, g5⟩ := hg
          have g6 := (g5 rfl).1
          simp only at g1 g2 g3 g6
          replace r1 : RS I o b (S ++ c.map stp ++ c'.map stp) kp J1 := r1
          -- behind the place where an & is joined
          have s36 : ∀ J2, RS I o b (S ++ (c ++ c' ++ (if an then [1] else [])).map stp) kp J2 → zSI C hz K Y_X4_readsChoice (D + N + 2) 36 [(0, .ref 138), (1, .ref o), (2, .int x), (4, .int (zB orr)), (5, .int (nI i))] [] J2 L M := by
            intro J2 r2
            have len2 : (c ++ c' ++ (if an then [1] else [])).length = c.length + c'.length + b1 an := by
              rw [List.length_append, List.length_append]
              cases an <;> rfl
            refine t_X4_readsChoice_36 (D + N) hh _ _ _ _ (sp_next (D + N) ho hT g2 r2 _ ⟨fun q => ?_, fun q => ?_⟩)
            · -- no &
              refine t_X4_readsChoice_50 (D + N) hh _ _ _ _ _ ⟨fun y => absurd rfl y, fun _ => ?_⟩
              have s66 : ∀ J3, RS I o b (S ++ (c ++ c' ++ (if an then [1] else []) ++ (if orr then [2] else [])).map stp) kp J3 → zSI C hz K Y_X4_readsChoice (D + N + 2) 66 [(0, .ref 138), (1, .ref o), (2, .int x), (3, .int 0), (5, .int (nI i))] [] J3 L M := by
                intro J3 r3
                have len3 : (c ++ c' ++ (if an then [1] else []) ++ (if orr then [2] else [])).length = c.length + c'.length + b1 an + b1 orr := by
                  rw [List.length_append, len2]
                  cases orr <;> rfl
                refine t_X4_readsChoice_66 (D + N) hh _ _ _ _ (sp_next (D + N) ho hT g2 r3 _ ⟨fun q2 => ?_, fun q2 => ?_⟩)
                · rw [hd_end e q q2] at h1
                  exact t_X4_readsChoice_82 (D + N) hh _ _ _ _ _ ⟨fun y => absurd rfl y, fun _ => ⟨fun y => absurd rfl y, fun _ => h1 rfl J3 r3⟩⟩
                · have hbn := nx_in q2 (by decide)
                  rw [hd_bar hG hn e g2 q q2] at h1 h0
                  refine t_X4_readsChoice_82 (D + N) hh _ _ _ _ _ ⟨fun y => absurd rfl y, fun _ => ⟨fun _ => ?_, fun y => absurd y (by decide)⟩⟩
                  refine t_X4_readsChoice_93 (D + N) hh _ _ _ _ _ ?_
                  rw [r3.2.1, nI_1, nI_1]
                  exact ih false true (i + 1) (b + 1) _ _ (by omega) (by omega) (by omega) (by rw [len3]; simp only [b1, if_true] at *; simp; omega) (RS_to ho r3) h1 h0
              cases orr with
              | false => exact ⟨fun _ => s66 J2 (by simpa using r2), fun y => absurd rfl y⟩
              | true =>
                refine ⟨fun y => absurd y (by decide), fun _ => ?_⟩
                refine sp_add (D + N) hh ho r2 (by rw [List.length_append, List.length_map, len2]; simp only [b1, if_true] at *; omega) _ _ fun J3 r3 => s66 J3 ?_
                have : S ++ (c ++ c' ++ (if an then [1] else [])).map stp ++ [-3] = S ++ (c ++ c' ++ (if an then [1] else []) ++ (if true then [2] else [])).map stp := by
                  rw [if_pos rfl, List.map_append (l₂ := [2]), ← List.append_assoc]
                  rfl
                rw [← this]
                exact r3
            · have hbn := nx_in q (by decide)
              rw [hd_amp hG hn e g2 q] at h1 h0
              refine t_X4_readsChoice_50 (D + N) hh _ _ _ _ _ ⟨fun _ => ?_, fun y => absurd y (by decide)⟩
              refine t_X4_readsChoice_82 (D + N) hh _ _ _ _ _ ⟨fun _ => ?_, fun y => absurd y (by decide)⟩
              refine t_X4_readsChoice_93 (D + N) hh _ _ _ _ _ ?_
              rw [r2.2.1, nI_1, nI_1]
              exact ih true orr (i + 1) (b + 1) _ _ (by omega) (by omega) (by omega) (by rw [len2]; simp only [b1, if_true] at *; omega) (RS_to ho r2) h1 h0
          refine ⟨fun _ => ?_, fun y => absurd y (by decide)⟩
          cases an with
          | false =>
            refine ⟨fun _ => s36 J1 ?_, fun y => absurd rfl y⟩
            rw [List.append_assoc, ← List.map_append] at r1
            simpa using r1
          | true =>
            refine ⟨fun y => absurd y (by decide), fun _ => ?_⟩
            refine sp_add (D + N) hh ho r1 (by rw [List.length_append, List.length_append, List.length_map, List.length_map]; simp only [b1, if_true] at *; omega) _ _ fun J2 r2 => s36 J2 ?_
            have : S ++ c.map stp ++ c'.map stp ++ [-2] = S ++ (c ++ c' ++ (if true then [1] else [])).map stp := by
              rw [if_pos rfl, List.map_append, List.map_append]
              simp only [List.append_assoc]
              rfl
            rw [← this]
            exact r2
      · cases e : F a with
        | mk ok r =>
          obtain ⟨b, c'⟩ := r
          rw [e] at z r1
          have z' : ok = false := z
          subst z'
          rw [hd_no e] at h0
          exact h0 rfl J1 S1 kp1 r1
  exact key n false false 0 a [] J (by omega) ha (by omega) (by simp [b1]; omega) (by simpa using h) h1 h0
theorem sp_one {o n : Nat} {T : Nat → Nat} (hh : zHo o) (ho : 151 ≤ o) (hT : TX I T n) : ∀ k, k ≤ 4 → FC C I L M o n (ffV T n k) (nI (4 - k)) (9 + 2 * k) := by
  have hn := hT.2.1
  have hTT := hT.2.2.2
  intro k
  induction k with
  | zero =>
    intro _ D a S kp J K ha hS h h1 h0
    refine t_X4_readsOne D _ hh _ (br_t (by decide) ?_)
    refine t_X4_readsOne_50 D hh _ _ (br_t (by decide) ?_)
    exact sp_tst D hh ho hT ha h hS _ (fun z J' r => ⟨Or.inr rfl, h1 z J' r⟩) (fun z J' S' kp' r => ⟨Or.inl rfl, h0 z J' S' kp' r⟩)
  | succ k ih =>
    intro hk D a S kp J K ha hS h h1 h0
    have ihk := ih (by omega)
    have hx : ¬ (4 : Int32) ≤ nI (4 - (k + 1)) := fun z => by have := (nI_le_iff (a := 4) (by omega) (by omega)).mp z; omega
    have hx1 : nI (4 - (k + 1)) + 1 = nI (4 - k) := by rw [nI_1, show 4 - (k + 1) + 1 = 4 - k by omega]
    have hgk : ∀ a, a ≤ n → GdF n (2 * k + 1) a (ffV T n k a) := fun a ha => ff_gd hTT k a ha
    rw [show D + (9 + 2 * (k + 1)) + 1 = (D + 2 + 2 * k) + 10 by omega]
    unfold ffV at h1 h0
    refine t_X4_readsOne (D + 2 + 2 * k) _ hh _ (br_f hx (sp_next _ ho hT ha h _ ⟨fun z => ?_, fun z => ?_⟩))
    · rw [if_neg z] at h1 h0
      refine t_X4_readsOne_50 (D + 2 + 2 * k) hh _ _ (br_f hx (sp_next _ ho hT ha h _ ⟨fun z2 => ?_, fun z2 => ?_⟩))
      · rw [if_neg z2] at h1 h0
        exact sp_tst (D + 2 + 2 * k) hh ho hT ha h hS _ (fun z J' r => ⟨Or.inr rfl, h1 z J' r⟩) (fun z J' S' kp' r => ⟨Or.inl rfl, h0 z J' S' kp' r⟩)
      · rw [if_pos z2] at h1 h0
        have han := nx_in z2 (by decide)
        rw [h.2.1, hx1, nI_1, show D + 2 + 2 * k + 9 = (D + 1) + (9 + 2 * k) + 1 by omega]
        have hg := hgk (a + 1) (by omega)
        refine ihk (D + 1) (a + 1) S kp _ _ (by omega) (by omega) (RS_to ho h) (fun w J1 r1 => ⟨fun _ => ?_, fun y => absurd y (by decide)⟩) (fun w J1 S1 kp1 r1 => ⟨fun y => absurd rfl y, fun _ => ?_⟩)
        · cases e : ffV T n k (a + 1) with
          | mk ok r =>
            obtain ⟨b, c'⟩ := r
            rw [e] at w r1 hg h1
            have w' : ok = true := w
            subst w'
            obtain ⟨g1, g2, g3, -⟩ := hg
            simp only at g1 g2 g3
            replace r1 : RS I o b (S ++ c'.map stp) kp J1 := r1
            refine sp_add _ hh ho r1 (by rw [List.length_append, List.length_map]; omega) _ _ fun J2 r2 => h1 rfl J2 ?_
            have : S ++ c'.map stp ++ [-1] = S ++ (c' ++ [0]).map stp := by
              rw [List.map_append, ← List.append_assoc]
              rfl
            rw [← this]
            exact r2
        · cases e : ffV T n k (a + 1) with
          | mk ok r =>
            obtain ⟨b, c'⟩ := r
            rw [e] at w r1 h0
            have w' : ok = false := w
            subst w'
            exact h0 rfl J1 S1 kp1 r1
    · have z33 : ¬ nxV T n a = 33 := by rw [z]; decide
      rw [if_neg z33, if_pos z] at h1 h0
      have han := nx_in z (by decide)
      rw [h.2.1, hx1, nI_1, show D + 2 + 2 * k + 9 = D + (9 + 2 * k) + 2 by omega]
      have hg := ee_gd (T := T) hgk (a := a + 1) (by omega)
      refine sp_choice hh ho hT hgk ihk D (a + 1) S kp _ _ (by omega) (by omega) (RS_to ho h) (fun w J1 r1 => ⟨fun y => absurd y (by decide), fun _ => ?_⟩) (fun w J1 S1 kp1 r1 => ⟨fun _ => ?_, fun y => absurd rfl y⟩)
      · cases e : eeV T n (ffV T n k) (a + 1) [] with
        | mk ok r =>
          obtain ⟨b, c'⟩ := r
          rw [e] at w r1 hg h1 h0
          have w' : ok = true := w
          subst w'
          obtain ⟨g1, g2, g3, -⟩ := hg
          simp only at g1 g2 g3
          replace r1 : RS I o b (S ++ c'.map stp) kp J1 := r1
          replace h1 : (if nxV T n b = 41 then ((true, b + 1, c') : Rs) else (false, b, c')).1 = true → ∀ J', RS I o (if nxV T n b = 41 then ((true, b + 1, c') : Rs) else (false, b, c')).2.1 (S ++ (if nxV T n b = 41 then ((true, b + 1, c') : Rs) else (false, b, c')).2.2.map stp) kp J' → K 1 J' L M := h1
          replace h0 : (if nxV T n b = 41 then ((true, b + 1, c') : Rs) else (false, b, c')).1 = false → ∀ J' S' kp', RS I o (if nxV T n b = 41 then ((true, b + 1, c') : Rs) else (false, b, c')).2.1 S' kp' J' → K 0 J' L M := h0
          rw [show D + (9 + 2 * k) + 2 = (D + 9 + 2 * k) + 2 by omega]
          refine sp_takes (D + 9 + 2 * k) ho hT g2 r1 41 _ (fun y J2 r2 => ⟨fun x => absurd x (by decide), fun _ => ?_⟩) (fun y J2 r2 => ⟨fun _ => ?_, fun x => absurd rfl x⟩)
          · rw [if_pos y] at h1
            exact h1 rfl J2 r2
          · rw [if_neg y] at h0
            exact h0 rfl J2 _ kp r2
      · cases e : eeV T n (ffV T n k) (a + 1) [] with
        | mk ok r =>
          obtain ⟨b, c'⟩ := r
          rw [e] at w r1 h0
          have w' : ok = false := w
          subst w'
          exact h0 rfl J1 S1 kp1 r1
end SM
