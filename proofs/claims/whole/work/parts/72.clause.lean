/-! CLAUSES AND HOUSES, read: pure, and the class's -/
def wrdV (T : Nat → Nat) (n : Nat) : List Int32 → Nat → Bool × Nat
  | [], a => (true, a)
  | c :: t, a => if nxV T n a = c then wrdV T n t (a + 1) else (false, a)
abbrev Rc : Type := Bool × Nat × zCl
def kwV (T : Nat → Nat) (n a : Nat) : Nat := if nxV T n a = 102 then 0 else if nxV T n a = 108 then 1 else 2
def clsV (T : Nat → Nat) (n a : Nat) : Rc := match wrdV T n (zsBy.getD (kwV T n a) []) a with
  | (false, b) => (false, b, (0, 0, []))
  | (true, b) => match numV T n b with
    | none => (false, b, (0, 0, []))
    | some (v, b2) => if kwV T n a = 2 then (true, b2, (2, v, [])) else if nxV T n b2 = 32 then (match eeV T n (ffV T n 4) (b2 + 1) [] with
      | (true, b3, c) => (true, b3, (kwV T n a, v, c))
      | (false, b3, c) => (false, b3, (0, 0, []))) else (false, b2, (0, 0, []))
theorem kw_le (T : Nat → Nat) (n a : Nat) : kwV T n a ≤ 2 := by
  unfold kwV
  by_cases h : nxV T n a = 102
  · rw [if_pos h]; omega
  · rw [if_neg h]
    by_cases h2 : nxV T n a = 108
    · rw [if_pos h2]; omega
    · rw [if_neg h2]; omega
theorem wrd_ok {T : Nat → Nat} {n : Nat} : ∀ (l : List Int32) (a : Nat), a ≤ n → (∀ c ∈ l, ¬ c = -1) → a ≤ (wrdV T n l a).2 ∧ (wrdV T n l a).2 ≤ n := by
  intro l
  induction l with
  | nil => intro a ha _; exact ⟨Nat.le_refl _, ha⟩
  | cons c l ih =>
    intro a ha hc
    unfold wrdV
    by_cases h : nxV T n a = c
    · rw [if_pos h]
      have := nx_in h (hc c List.mem_cons_self)
      obtain ⟨i1, i2⟩ := ih (a + 1) (by omega) fun x hx => hc x (List.mem_cons_of_mem _ hx)
      exact ⟨by omega, i2⟩
    · rw [if_neg h]
      exact ⟨Nat.le_refl _, ha⟩
theorem zsBy_ne : ∀ i, i < 10 → ∀ c ∈ zsBy.getD i [], ¬ c = -1 := by decide +kernel
def GdC (n a : Nat) (r : Rc) : Prop := a ≤ r.2.1 ∧ r.2.1 ≤ n ∧ (r.1 = true → a < r.2.1 ∧ okC r.2.2 ∧ (stpC r.2.2).length ≤ r.2.1 - a ∧ r.2.2.2.2.length ≤ r.2.1 - a)
theorem stpC_len (q : zCl) : (stpC q).length ≤ q.2.2.length + 1 := by
  unfold stpC
  by_cases h : q.1 = 0
  · rw [if_pos h]; simp
  · rw [if_neg h]
    by_cases h2 : q.1 = 1
    · rw [if_pos h2]; simp
    · rw [if_neg h2]; simp
theorem cls_gd {T : Nat → Nat} (hT : ∀ j, T j < 128) {n a : Nat} (ha : a ≤ n) : GdC n a (clsV T n a) := by
  have hk := kw_le T n a
  have hw := wrd_ok (T := T) (zsBy.getD (kwV T n a) []) a ha (zsBy_ne _ (by omega))
  unfold clsV
  cases e : wrdV T n (zsBy.getD (kwV T n a) []) a with
  | mk ok b =>
    rw [e] at hw
    simp only at hw
    cases ok with
    | false => exact ⟨hw.1, hw.2, fun z => absurd z (by simp)⟩
    | true =>
      show GdC n a (match numV T n b with
        | none => (false, b, (0, 0, []))
        | some (v, b2) => if kwV T n a = 2 then (true, b2, (2, v, [])) else if nxV T n b2 = 32 then (match eeV T n (ffV T n 4) (b2 + 1) [] with
          | (true, b3, c) => (true, b3, (kwV T n a, v, c))
          | (false, b3, c) => (false, b3, (0, 0, []))) else (false, b2, (0, 0, [])))
      cases e2 : numV T n b with
      | none => exact ⟨hw.1, hw.2, fun z => absurd z (by simp)⟩
      | some q =>
        obtain ⟨v, b2⟩ := q
        obtain ⟨n1, n2, n3⟩ := numV_ok e2
        show GdC n a (if kwV T n a = 2 then (true, b2, (2, v, [])) else if nxV T n b2 = 32 then (match eeV T n (ffV T n 4) (b2 + 1) [] with
          | (true, b3, c) => (true, b3, (kwV T n a, v, c))
          | (false, b3, c) => (false, b3, (0, 0, []))) else (false, b2, (0, 0, [])))
        by_cases h2 : kwV T n a = 2
        · rw [if_pos h2]
          refine ⟨by show a ≤ b2; omega, n3, fun _ => ⟨by show a < b2; omega, ⟨Nat.le_refl _, n1, fun _ => rfl, fun z => ?_, fun c hc => ?_⟩, Nat.zero_le _, Nat.zero_le _⟩⟩
          · have : (2 : Nat) < 2 := z
            omega
          · exact absurd hc (by simp)
        · rw [if_neg h2]
          by_cases h3 : nxV T n b2 = 32
          · rw [if_pos h3]
            have hb := nx_in h3 (by decide)
            have g := ee_gd (T := T) (n := n) (ff_gd hT 4) (a := b2 + 1) (by omega)
            cases e3 : eeV T n (ffV T n 4) (b2 + 1) [] with
            | mk ok3 r3 =>
              obtain ⟨b3, c⟩ := r3
              rw [e3] at g
              obtain ⟨g1, g2, g3, g4, g5⟩ := g
              simp only at g1 g2 g3 g4 g5
              cases ok3 with
              | false => exact ⟨by show a ≤ b3; omega, g2, fun z => absurd z (by simp)⟩
              | true =>
                have hd := (g5 rfl).2 0 (by omega)
                refine ⟨by show a ≤ b3; omega, g2, fun _ => ⟨by show a < b3; omega, ⟨hk, n1, fun z => absurd z h2, fun _ => hd, g4⟩, ?_, by show c.length ≤ b3 - a; omega⟩⟩
                have := stpC_len (kwV T n a, v, c)
                show (stpC (kwV T n a, v, c)).length ≤ b3 - a
                have e5 : (kwV T n a, v, c).2.2.length = c.length := rfl
                omega
          · rw [if_neg h3]
            exact ⟨by show a ≤ b2; omega, n3, fun z => absurd z (by simp)⟩
def houV (T : Nat → Nat) (n : Nat) : Nat → Nat → List zCl → Bool × Nat × List zCl
  | 0, a, cs => (false, a, cs)
  | m + 1, a, cs => match clsV T n a with
    | (false, b, _) => (false, b, cs)
    | (true, b, q) => if b = n then (true, b, cs ++ [q]) else if m = 0 then (false, b, cs ++ [q]) else if nxV T n b = 59 then houV T n m (b + 1) (cs ++ [q]) else (false, b, cs ++ [q])
section SM
variable {C : zC} {I I' : Nat → Nat → Int32} {L L' : Nat → Nat → Int64} {M : Nat → Nat → Option Nat}
theorem RS_kp {o a : Nat} {S : List Int32} {kp : Int32} {J : Nat → Nat → Int32} (ho : 151 ≤ o) (h : RS I o a S kp J) (v : Int32) : RS I o a S v (u2 J o 0 v) := ⟨fun b j q1 q2 q3 => by rw [u2_ne _ _ (by omega)]; exact h.1 b j q1 q2 q3, by rw [u2_n1 _ _ (by omega)]; exact h.2.1, by rw [u2_n2 _ _ (by omega)]; exact h.2.2.1, fun j hj => by rw [u2_n1 _ _ (by omega)]; exact h.2.2.2.1 j hj, u2_same _ _ _ _⟩
def kpN (q : zCl) (kp : Int32) : Int32 := if q.1 = 2 then nI q.2.1 else kp
theorem sp_clause (D : Nat) {o a n : Nat} {S : List Int32} {kp : Int32} {J : Nat → Nat → Int32} {T : Nat → Nat} (hh : zHo o) (ho : 151 ≤ o) (hT : TX I T n) (ha : a ≤ n) (h : RS I o a S kp J) (hS : S.length + (n - a) ≤ 100) (K : KI) (h1 : (clsV T n a).1 = true → ∀ J', RS I o (clsV T n a).2.1 (S ++ stpC (clsV T n a).2.2) (kpN (clsV T n a).2.2 kp) J' → K 1 J' L M) (h0 : (clsV T n a).1 = false → ∀ J' S' kp', RS I o (clsV T n a).2.1 S' kp' J' → K 0 J' L M) : zCI C Y_X4_readsClause (D + 20) [.ref 138, .ref o] (zmk J L M) K := by
  have hn := hT.2.1
  have hTT := hT.2.2.2
  have hk := kw_le T n a
  -- the word, from its i-th sign on
  have s33 : ∀ {hz : zH} (w : Nat) (y2 : Int32), w = kwV T n a → (y2 = 102 ↔ w = 0) → (y2 = 107 ↔ w = 2 ∧ nxV T n a = 107) → (w = 2 → ¬ nxV T n a = 107 → (wrdV T n (zsBy.getD w []) a).1 = false) → y2 = nxV T n a → zSI C hz K Y_X4_readsClause (D + 20) 33 [(0, .ref 138), (1, .ref o), (2, .int y2), (3, .ref (1000010 + w)), (4, .int 0)] [] J L M := by
    intro hz w y2 hw hy0 hy2 hbad hyn
    have hw10 : w < 10 := by omega
    have hl7 := (slen w hw10).2
    have key : ∀ (t : List Int32) (i a' : Nat) (J' : Nat → Nat → Int32), i + t.length = (zsBy.getD w []).length → (∀ k, k < t.length → (zsBy.getD w []).getD (i + k) 0 = t.getD k 0) → (∀ c ∈ t, ¬ c = -1) → a' ≤ n → RS I o a' S kp J' → wrdV T n (zsBy.getD w []) a = wrdV T n t a' → a ≤ a' → zSI C hz K Y_X4_readsClause (D + 20) 33 [(0, .ref 138), (1, .ref o), (2, .int y2), (3, .ref (1000010 + w)), (4, .int (nI i))] [] J' L M := by
      intro t
      induction t with
      | nil =>
        intro i a' J' hi _ _ ha' r' he haa
        rw [List.length_nil] at hi
        have he' : wrdV T n (zsBy.getD w []) a = (true, a') := he
        refine t_X4_readsClause_33 (D + 14) hh _ _ hw10 _ (sp_slen (D + 17) hw10 _ (br_t ((nI_le_iff (by omega) (by omega)).mpr (by omega)) ?_))
        have ec : clsV T n a = (match numV T n a' with
          | none => (false, a', (0, 0, []))
          | some (v, b2) => if w = 2 then (true, b2, (2, v, [])) else if nxV T n b2 = 32 then (match eeV T n (ffV T n 4) (b2 + 1) [] with
            | (true, b3, c) => (true, b3, (w, v, c))
            | (false, b3, c) => (false, b3, (0, 0, []))) else (false, b2, (0, 0, []))) := by
          unfold clsV
          rw [← hw, he']
        rw [ec] at h1 h0
        refine sp_num (D + 18) ho hT ha' r' _ (fun e2 => ⟨fun z => absurd z (by decide), fun _ => ?_⟩) fun v b2 e2 J2 r2 => ?_
        · rw [e2] at h0
          exact h0 rfl J' S kp r'
        · rw [e2] at h1 h0
          obtain ⟨n1, n2, n3⟩ := numV_ok e2
          refine ⟨fun _ => ?_, fun z => absurd (nI_pos' (by omega)) z⟩
          replace h1 : (if w = 2 then ((true, b2, (2, v, [])) : Rc) else if nxV T n b2 = 32 then (match eeV T n (ffV T n 4) (b2 + 1) [] with
            | (true, b3, c) => (true, b3, (w, v, c))
            | (false, b3, c) => (false, b3, (0, 0, []))) else (false, b2, (0, 0, []))).1 = true → ∀ J', RS I o (if w = 2 then ((true, b2, (2, v, [])) : Rc) else if nxV T n b2 = 32 then (match eeV T n (ffV T n 4) (b2 + 1) [] with
            | (true, b3, c) => (true, b3, (w, v, c))
            | (false, b3, c) => (false, b3, (0, 0, []))) else (false, b2, (0, 0, []))).2.1 (S ++ stpC (if w = 2 then ((true, b2, (2, v, [])) : Rc) else if nxV T n b2 = 32 then (match eeV T n (ffV T n 4) (b2 + 1) [] with
            | (true, b3, c) => (true, b3, (w, v, c))
            | (false, b3, c) => (false, b3, (0, 0, []))) else (false, b2, (0, 0, []))).2.2) (kpN (if w = 2 then ((true, b2, (2, v, [])) : Rc) else if nxV T n b2 = 32 then (match eeV T n (ffV T n 4) (b2 + 1) [] with
            | (true, b3, c) => (true, b3, (w, v, c))
            | (false, b3, c) => (false, b3, (0, 0, []))) else (false, b2, (0, 0, []))).2.2 kp) J' → K 1 J' L M := h1
          replace h0 : (if w = 2 then ((true, b2, (2, v, [])) : Rc) else if nxV T n b2 = 32 then (match eeV T n (ffV T n 4) (b2 + 1) [] with
            | (true, b3, c) => (true, b3, (w, v, c))
            | (false, b3, c) => (false, b3, (0, 0, []))) else (false, b2, (0, 0, []))).1 = false → ∀ J' S' kp', RS I o (if w = 2 then ((true, b2, (2, v, [])) : Rc) else if nxV T n b2 = 32 then (match eeV T n (ffV T n 4) (b2 + 1) [] with
            | (true, b3, c) => (true, b3, (w, v, c))
            | (false, b3, c) => (false, b3, (0, 0, []))) else (false, b2, (0, 0, []))).2.1 S' kp' J' → K 0 J' L M := h0
          refine ⟨fun z => ?_, fun z => ?_⟩
          · have hw2 : ¬ w = 2 := fun q => by
              have hbad' := hbad q
              by_cases q7 : nxV T n a = 107
              · exact z (hy2.mpr ⟨q, q7⟩)
              · rw [he'] at hbad'
                exact absurd (hbad' q7) (by simp)
            rw [if_neg hw2] at h1 h0
            refine sp_takes (D + 17) ho hT n3 r2 32 _ (fun q J3 r3 => ⟨fun y => absurd y (by decide), fun _ => ?_⟩) (fun q J3 r3 => ⟨fun _ => ?_, fun y => absurd rfl y⟩)
            · rw [if_pos q] at h1 h0
              have hb := nx_in q (by decide)
              have g := ee_gd (T := T) (n := n) (ff_gd hTT 4) (a := b2 + 1) (by omega)
              refine sp_choice hh ho hT (ff_gd hTT 4) (sp_one hh ho hT 4 (by omega)) D (b2 + 1) S kp J3 _ (by omega) (by omega) r3 (fun x J4 r4 => ⟨fun _ => ?_, fun y => absurd y (by decide)⟩) (fun x J4 S4 kp4 r4 => ⟨fun y => absurd rfl y, fun _ => ?_⟩)
              · cases e3 : eeV T n (ffV T n 4) (b2 + 1) [] with
                | mk ok3 r5 =>
                  obtain ⟨b3, c⟩ := r5
                  rw [e3] at x r4 g h1
                  have x' : ok3 = true := x
                  subst x'
                  obtain ⟨g1, g2, g3, -⟩ := g
                  simp only at g1 g2 g3
                  replace r4 : RS I o b3 (S ++ c.map stp) kp J4 := r4
                  have hlen : (S ++ c.map stp).length < 100 := by
                    rw [List.length_append, List.length_map]
                    omega
                  refine ⟨fun y => ?_, fun y => ?_⟩
                  · have hw1 : w = 1 := by
                      have : ¬ w = 0 := fun p => y (hy0.mpr p)
                      omega
                    refine sp_add (D + 18) hh ho r4 hlen _ _ fun J5 r5 => h1 rfl J5 ?_
                    have e6 : stpC (w, v, c) = c.map stp ++ [1048576 - nI v] := by
                      unfold stpC
                      rw [hw1, if_neg (show ¬ (1 : Nat) = 0 by decide), if_pos rfl]
                    have e7 : kpN (w, v, c) kp = kp := by
                      unfold kpN
                      rw [hw1, if_neg (show ¬ (1 : Nat) = 2 by decide)]
                    show RS I o b3 (S ++ stpC (w, v, c)) (kpN (w, v, c) kp) J5
                    rw [e6, e7, ← List.append_assoc]
                    exact r5
                  · have hw1 : w = 0 := hy0.mp y
                    refine sp_add (D + 18) hh ho r4 hlen _ _ fun J5 r5 => h1 rfl J5 ?_
                    have e6 : stpC (w, v, c) = c.map stp ++ [1048576 + nI v] := by
                      unfold stpC
                      rw [hw1, if_pos rfl]
                    have e7 : kpN (w, v, c) kp = kp := by
                      unfold kpN
                      rw [hw1, if_neg (show ¬ (0 : Nat) = 2 by decide)]
                    show RS I o b3 (S ++ stpC (w, v, c)) (kpN (w, v, c) kp) J5
                    rw [e6, e7, ← List.append_assoc]
                    exact r5
              · cases e3 : eeV T n (ffV T n 4) (b2 + 1) [] with
                | mk ok3 r5 =>
                  obtain ⟨b3, c⟩ := r5
                  rw [e3] at x r4 h0
                  have x' : ok3 = false := x
                  subst x'
                  exact h0 rfl J4 S4 kp4 r4
            · rw [if_neg q] at h0
              exact h0 rfl J3 S kp r3
          · have hw2 : w = 2 := (hy2.mp z).1
            rw [if_pos hw2] at h1
            refine h1 rfl _ ?_
            show RS I o b2 (S ++ []) (nI v) _
            rw [List.append_nil]
            exact RS_kp ho r2 (nI v)
      | cons c t ih =>
        intro i a' J' hi hg hc ha' r' he haa
        rw [List.length_cons] at hi
        refine t_X4_readsClause_33 (D + 14) hh _ _ hw10 _ (sp_slen (D + 17) hw10 _ (br_f (fun z => by have := (nI_le_iff (a := (zsBy.getD w []).length) (b := i) (by omega) (by omega)).mp z; omega) ?_))
        refine sp_schr (D + 14) hw10 (by omega) _ ?_
        rw [show (zsBy.getD w []).getD i 0 = c from hg 0 (by simp)]
        refine sp_takes (D + 17) ho hT ha' r' c _ (fun q J3 r3 => ⟨fun _ => ?_, fun y => absurd y (by decide)⟩) (fun q J3 r3 => ⟨fun y => absurd rfl y, fun _ => ?_⟩)
        · have hb := nx_in q (hc c List.mem_cons_self)
          rw [nI_1]
          refine ih (i + 1) (a' + 1) J3 (by omega) (fun k hk => ?_) (fun x hx => hc x (List.mem_cons_of_mem _ hx)) (by omega) r3 ?_ (by omega)
          · have := hg (k + 1) (by simp; omega)
            rw [show i + 1 + k = i + (k + 1) by omega, this]
            simp
          · rw [he]
            show (if nxV T n a' = c then wrdV T n t (a' + 1) else (false, a')) = _
            rw [if_pos q]
        · have ef : wrdV T n (zsBy.getD w []) a = (false, a') := by
            rw [he]
            show (if nxV T n a' = c then wrdV T n t (a' + 1) else (false, a')) = _
            rw [if_neg q]
          have ec : clsV T n a = (false, a', (0, 0, [])) := by
            unfold clsV
            rw [← hw, ef]
          rw [ec] at h0
          exact h0 rfl J3 S kp r3
    exact key (zsBy.getD w []) 0 a J (by omega) (fun k hk => by rw [Nat.zero_add]) (zsBy_ne w hw10) ha h rfl (Nat.le_refl _)
  have nx107 : ¬ nxV T n a = 107 → (wrdV T n (zsBy.getD 2 []) a).1 = false := fun q => by
    show (if nxV T n a = 107 then _ else ((false, a) : Bool × Nat)).1 = false
    rw [if_neg q]
  refine t_X4_readsClause (D + 14) hh _ (sp_next (D + 18) ho hT ha h _ ⟨fun z => ⟨fun z2 => ?_, fun z2 => ?_⟩, fun z => ?_⟩)
  · have hw : 2 = kwV T n a := by unfold kwV; rw [if_neg z, if_neg z2]
    exact s33 2 _ hw ⟨fun q => absurd q z, fun q => absurd q (by decide)⟩ ⟨fun q => ⟨rfl, q⟩, fun q => q.2⟩ (fun _ q => nx107 q) rfl
  · have hw : 1 = kwV T n a := by unfold kwV; rw [if_neg z, if_pos z2]
    exact s33 1 _ hw ⟨fun q => absurd q z, fun q => absurd q (by decide)⟩ ⟨fun q => absurd (z2.symm.trans q) (by decide), fun q => absurd q.1 (by decide)⟩ (fun q => absurd q (by decide)) rfl
  · have hw : 0 = kwV T n a := by unfold kwV; rw [if_pos z]
    exact s33 0 _ hw ⟨fun _ => rfl, fun _ => z⟩ ⟨fun q => absurd (z.symm.trans q) (by decide), fun q => absurd q.1 (by decide)⟩ (fun q => absurd q (by decide)) rfl
theorem sp_builds (D : Nat) {o n : Nat} {T : Nat → Nat} (hh : zHo o) (ho : 151 ≤ o) (hT : TX I T n) (K : KI) (h1 : (houV T n 10 0 []).1 = true → ∀ J', RS I o (houV T n 10 0 []).2.1 ((houV T n 10 0 []).2.2.flatMap stpC) (nI (kpC (houV T n 10 0 []).2.2)) J' → K 1 J' L M) (h0 : (houV T n 10 0 []).1 = false → ∀ J' S' kp', RS I o (houV T n 10 0 []).2.1 S' kp' J' → K 0 J' L M) : zCI C Y_X4_builds (D + 21) [.ref 138, .ref o] (zmk I L M) K := by
  have hn := hT.2.1
  have hTT := hT.2.2.2
  refine t_X4_builds (D + 14) hh _ (t_X1_clear (D + 19) hh _ ?_)
  have r0 : RS I o 0 [] 3 (u2 (u2 (u2 I o 0 3) o 2 0) 138 2 0) := ⟨fun b j q1 q2 q3 => by rw [u2_ne _ _ (by omega), u2_ne _ _ (by omega), u2_ne _ _ (by omega)], u2_same _ _ _ _, by rw [u2_n1 _ _ (by omega), u2_same]; rfl, fun j hj => absurd hj (by simp), by rw [u2_n1 _ _ (by omega), u2_n2 _ _ (by omega), u2_same]⟩
  have key : ∀ (m a : Nat) (cs : List zCl) (J : Nat → Nat → Int32), m ≤ 10 → 0 < m → a ≤ n → (cs.flatMap stpC).length ≤ a → RS I o a (cs.flatMap stpC) (nI (kpC cs)) J → houV T n 10 0 [] = houV T n m a cs → zSI C (zmk I L M) K Y_X4_builds (D + 21) 11 [(0, .ref 138), (1, .ref o), (2, .int (nI (11 - m)))] [] J L M := by
    intro m
    induction m with
    | zero => intro a cs J _ h; omega
    | succ m ih =>
      intro a cs J hm _ ha hl r he
      have hc := cls_gd hTT ha
      refine t_X4_builds_11 (D + 14) hh _ _ (br_f (fun z => by have := (nI_lt_iff (a := 10) (b := 11 - (m + 1)) (by omega) (by omega)).mp z; omega) ?_)
      have e0 : houV T n (m + 1) a cs = (match clsV T n a with
        | (false, b, _) => (false, b, cs)
        | (true, b, q) => if b = n then (true, b, cs ++ [q]) else if m = 0 then (false, b, cs ++ [q]) else if nxV T n b = 59 then houV T n m (b + 1) (cs ++ [q]) else (false, b, cs ++ [q])) := rfl
      refine sp_clause D hh ho hT ha r (by omega) _ (fun x J1 r1 => ⟨fun _ => ?_, fun y => absurd y (by decide)⟩) (fun x J1 S1 kp1 r1 => ⟨fun y => absurd rfl y, fun _ => ?_⟩)
      · cases e : clsV T n a with
        | mk ok rr =>
          obtain ⟨b, q⟩ := rr
          rw [e] at x r1 hc e0
          have x' : ok = true := x
          subst x'
          obtain ⟨g1, g2, g3⟩ := hc
          obtain ⟨g4, g5, g6, -⟩ := g3 rfl
          simp only at g1 g2 g4 g6
          replace r1 : RS I o b (cs.flatMap stpC ++ stpC q) (kpN q (nI (kpC cs))) J1 := r1
          have ek : kpN q (nI (kpC cs)) = nI (kpC (cs ++ [q])) := by
            unfold kpN
            rw [kpC_app]
            by_cases y : q.1 = 2
            · rw [if_pos y, if_pos y]
            · rw [if_neg y, if_neg y]
          have es : cs.flatMap stpC ++ stpC q = (cs ++ [q]).flatMap stpC := by rw [List.flatMap_append]; simp
          rw [ek, es] at r1
          have hl2 : ((cs ++ [q]).flatMap stpC).length ≤ b := by
            rw [← es, List.length_append]
            omega
          have e1 : houV T n 10 0 [] = if b = n then (true, b, cs ++ [q]) else if m = 0 then (false, b, cs ++ [q]) else if nxV T n b = 59 then houV T n m (b + 1) (cs ++ [q]) else (false, b, cs ++ [q]) := he.trans e0
          have hT1 := r1.tx ho hT
          rw [r1.2.1, hT1.1]
          refine ⟨fun y => ?_, fun y => ?_⟩
          · have hbn : ¬ b = n := fun p => y (by rw [p])
            rw [if_neg hbn] at e1
            refine ⟨fun w => ?_, fun w => ?_⟩
            · have hm0 : m = 0 := by
                have := nI_inj (b := 10) (by omega) (by omega) w
                omega
              rw [if_pos hm0] at e1
              rw [e1] at h0
              exact h0 rfl J1 _ _ r1
            · have hm0 : ¬ m = 0 := fun p => w (by rw [p]; rfl)
              rw [if_neg hm0] at e1
              refine sp_takes (D + 18) ho hT g2 r1 59 _ (fun p J2 r2 => ⟨fun _ => ?_, fun v => absurd v (by decide)⟩) (fun p J2 r2 => ⟨fun v => absurd rfl v, fun _ => ?_⟩)
              · rw [if_pos p] at e1
                have hb := nx_in p (by decide)
                have := ih (b + 1) (cs ++ [q]) J2 (by omega) (by omega) (by omega) (by omega) r2 e1
                rw [nI_1, show 11 - (m + 1) + 1 = 11 - m by omega]
                exact this
              · rw [if_neg p] at e1
                rw [e1] at h0
                exact h0 rfl J2 _ _ r2
          · have hbn : b = n := nI_inj (by omega) (by omega) y
            rw [if_pos hbn] at e1
            rw [e1] at h1
            exact h1 rfl J1 r1
      · cases e : clsV T n a with
        | mk ok rr =>
          obtain ⟨b, q⟩ := rr
          rw [e] at x r1 e0
          have x' : ok = false := x
          subst x'
          rw [he, e0] at h0
          exact h0 rfl J1 S1 kp1 r1
  exact key 10 0 [] _ (by omega) (by omega) (by omega) (by simp) r0 rfl
end SM
