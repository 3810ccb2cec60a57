section SM
variable {C : zC} {I I' : Nat → Nat → Int32} {L L' : Nat → Nat → Int64} {M : Nat → Nat → Option Nat}
def CB (I : Nat → Nat → Int32) (b ci cd : Nat) (J : Nat → Nat → Int32) : Prop := (∀ b' j, ¬ (b' = 265 ∧ (j = 12 ∨ j = 13 ∨ j = 14 ∨ j = 15 ∨ j = 24)) → b' ≠ 280 → ¬ (276 ≤ b' ∧ b' ≤ 279 ∧ j = ci) → J b' j = I b' j) ∧ J 265 12 = nI b ∧ ∀ j, j < cd → J 280 j = I 280 j
def CM (I : Nat → Nat → Int32) (b ci cd : Nat) (q : zCl) (J : Nat → Nat → Int32) : Prop := CB I b ci cd J ∧ J 265 24 = nI (cd + q.2.2.length) ∧ J 276 ci = nI q.1 ∧ J 277 ci = nI q.2.1 ∧ J 278 ci = nI cd ∧ J 279 ci = nI q.2.2.length ∧ ∀ t, t < q.2.2.length → J 280 (cd + t) = nI (q.2.2.getD t 0)
theorem MS_cb {a cd ci : Nat} {op : Int32} {l : List Nat} {J : Nat → Nat → Int32} (h : MS I a op cd l J) : CB I a ci cd J := ⟨fun b j h1 h2 _ => h.1 b j h1 h2, h.2.1, h.2.2.2.2.2⟩
theorem MS_rf {a cd : Nat} (e12 : I 265 12 = nI a) (e24 : I 265 24 = nI cd) : MS I a (I 265 15) cd [] I := ⟨fun _ _ _ _ => rfl, e12, rfl, e24, fun j hj => absurd hj (by simp), fun _ _ => rfl⟩
theorem nI_subr (a b : Nat) : nI (a + b) - nI a = nI b := by rw [nI_sub (by omega), Nat.add_sub_cancel_left]
theorem zsBy_5 : ∀ i, i < 3 → zsBy.getD (5 + i) [] = zsBy.getD i [] := by decide +kernel
theorem sp_clauseM (D : Nat) {a cd ci n : Nat} {T : Nat → Nat} (hT : MX I T n) (ha : a ≤ n) (hci : ci < 61) (e12 : I 265 12 = nI a) (e24 : I 265 24 = nI cd) (hcd : cd + (n - a) ≤ 799) (K : KI) (h1 : (clsV T n a).1 = true → ∀ J', CM I (clsV T n a).2.1 ci cd (clsV T n a).2.2 J' → K 1 J' L M) (h0 : (clsV T n a).1 = false → ∀ J', CB I (clsV T n a).2.1 ci cd J' → K 0 J' L M) : zCI C Y_X11_isClause (D + 24) [.ref 265, .int (nI ci)] (zmk I L M) K := by
  have hn := hT.2.1
  have hTT := hT.2.2.2
  have h61 := vp_in_nI hci (by omega : 61 < 2 ^ 31)
  have hcc := nI_clamp (n := ci) (by omega)
  have hk := kw_le T n a
  have m0 := MS_rf (cd := cd) e12 e24
  -- behind the word
  have s115 : ∀ {hz : zH} (w : Nat) (J' : Nat → Nat → Int32) (a' : Nat), w = kwV T n a → wrdV T n (zsBy.getD w []) a = (true, a') → a' ≤ n → a ≤ a' → MS I a' (I 265 15) cd [] J' → zSI C hz K Y_X11_isClause (D + 24) 115 [(0, .ref 265), (1, .int (nI ci)), (2, .int (nI w))] [.int 1] J' L M := by
    intro hz w J' a' hw he ha' haa r
    have ec : clsV T n a = (match numV T n a' with
      | none => (false, a', (0, 0, []))
      | some (v, b2) => if w = 2 then (true, b2, (2, v, [])) else if nxV T n b2 = 32 then (match eeV T n (ffV T n 4) (b2 + 1) [] with
        | (true, b3, c) => (true, b3, (w, v, c))
        | (false, b3, c) => (false, b3, (0, 0, []))) else (false, b2, (0, 0, []))) := by
      unfold clsV
      rw [← hw, he]
      rfl
    rw [ec] at h1 h0
    refine t_X11_isClause_115 (D + 17) _ _ _ _ ⟨fun y => absurd y (by decide), fun _ => ?_⟩
    refine sp_numM (D + 21) hT ha' r _ (fun e2 J2 r2 => ⟨fun y => absurd rfl y, fun _ => ?_⟩) fun v b2 e2 J2 r2 ev => ⟨fun _ => ⟨h61, h61, h61, ?_⟩, fun y => absurd y (by decide)⟩
    · rw [e2] at h0
      exact h0 rfl J2 (MS_cb r2)
    · obtain ⟨n1, n2, n3⟩ := numV_ok e2
      rw [e2] at h1 h0
      replace h1 : (if w = 2 then ((true, b2, (2, v, [])) : Rc) else if nxV T n b2 = 32 then (match eeV T n (ffV T n 4) (b2 + 1) [] with
        | (true, b3, c) => (true, b3, (w, v, c))
        | (false, b3, c) => (false, b3, (0, 0, []))) else (false, b2, (0, 0, []))).1 = true → ∀ J', CM I (if w = 2 then ((true, b2, (2, v, [])) : Rc) else if nxV T n b2 = 32 then (match eeV T n (ffV T n 4) (b2 + 1) [] with
        | (true, b3, c) => (true, b3, (w, v, c))
        | (false, b3, c) => (false, b3, (0, 0, []))) else (false, b2, (0, 0, []))).2.1 ci cd (if w = 2 then ((true, b2, (2, v, [])) : Rc) else if nxV T n b2 = 32 then (match eeV T n (ffV T n 4) (b2 + 1) [] with
        | (true, b3, c) => (true, b3, (w, v, c))
        | (false, b3, c) => (false, b3, (0, 0, []))) else (false, b2, (0, 0, []))).2.2 J' → K 1 J' L M := h1
      replace h0 : (if w = 2 then ((true, b2, (2, v, [])) : Rc) else if nxV T n b2 = 32 then (match eeV T n (ffV T n 4) (b2 + 1) [] with
        | (true, b3, c) => (true, b3, (w, v, c))
        | (false, b3, c) => (false, b3, (0, 0, []))) else (false, b2, (0, 0, []))).1 = false → ∀ J', CB I (if w = 2 then ((true, b2, (2, v, [])) : Rc) else if nxV T n b2 = 32 then (match eeV T n (ffV T n 4) (b2 + 1) [] with
        | (true, b3, c) => (true, b3, (w, v, c))
        | (false, b3, c) => (false, b3, (0, 0, []))) else (false, b2, (0, 0, []))).2.1 ci cd J' → K 0 J' L M := h0
      rw [hcc, ev, r2.2.2.2.1]
      rw [show cd + ([] : List Nat).length = cd from rfl]
      generalize hJ3 : u2 (u2 (u2 (u2 J2 276 ci (nI w)) 277 ci (nI v)) 278 ci (nI cd)) 265 15 0 = J3
      have f3 : ∀ b' j, ¬ (b' = 265 ∧ j = 15) → ¬ (276 ≤ b' ∧ b' ≤ 279 ∧ j = ci) → J3 b' j = J2 b' j := fun b' j q1 q2 => by
        rw [← hJ3, u2_ne _ _ (by omega), u2_ne _ _ (by omega), u2_ne _ _ (by omega), u2_ne _ _ (by omega)]
      have j276 : J3 276 ci = nI w := by rw [← hJ3]; simp (disch := omega) only [u2_same, u2_n1, u2_n2, not_true_eq_false, not_false_eq_true, false_implies, true_implies, forall_const, true_and, and_true, and_self, implies_true]
      have j277 : J3 277 ci = nI v := by rw [← hJ3]; simp (disch := omega) only [u2_same, u2_n1, u2_n2, not_true_eq_false, not_false_eq_true, false_implies, true_implies, forall_const, true_and, and_true, and_self, implies_true]
      have j278 : J3 278 ci = nI cd := by rw [← hJ3]; simp (disch := omega) only [u2_same, u2_n1, u2_n2, not_true_eq_false, not_false_eq_true, false_implies, true_implies, forall_const, true_and, and_true, and_self, implies_true]
      have m3 : MS J3 b2 (J3 265 15) cd [] J3 := MS_rf ((f3 265 12 (by omega) (by omega)).trans r2.2.1) ((f3 265 24 (by omega) (by omega)).trans r2.2.2.2.1)
      have e315 : J3 265 15 = 0 := by rw [← hJ3, u2_same]
      rw [e315] at m3
      have t3 : MX J3 T n := ⟨(f3 265 10 (by omega) (by omega)).trans ((r2.mx hT).1), hn, fun j hj => (f3 274 j (by omega) (by omega)).trans ((r2.mx hT).2.2.1 j hj), hTT⟩
      have cb : ∀ {b : Nat} {op : Int32} {l : List Nat} {J4 : Nat → Nat → Int32}, MS J3 b op cd l J4 → CB I b ci cd J4 := fun {b op l J4} r4 => ⟨fun b' j q1 q2 q3 => by rw [r4.1 b' j q1 q2, f3 b' j (by omega) q3]; exact r2.1 b' j q1 q2, r4.2.1, fun j hj => by rw [r4.2.2.2.2.2 j hj, f3 280 j (by omega) (by omega)]; exact r2.2.2.2.2.2 j hj⟩
      have s184 : ∀ {hz : zH} (b : Nat) (c : List Nat) (J4 : Nat → Nat → Int32), MS J3 b 0 cd c J4 → (∀ J', CM I b ci cd (w, v, c) J' → K 1 J' L M) → zSI C hz K Y_X11_isClause (D + 24) 184 [(0, .ref 265), (1, .int (nI ci))] [] J4 L M := by
        intro hz b c J4 r4 hk
        refine t_X11_isClause_184 (D + 17) _ _ ⟨h61, h61, ?_⟩
        rw [hcc, r4.2.2.2.1, r4.1 278 ci (by omega) (by omega), j278, nI_subr]
        have c4 := cb r4
        refine hk _ ⟨⟨fun b' j q1 q2 q3 => by rw [u2_ne _ _ (by omega)]; exact c4.1 b' j q1 q2 q3, by rw [u2_n1 _ _ (by omega)]; exact c4.2.1, fun j hj => by rw [u2_n1 _ _ (by omega)]; exact c4.2.2 j hj⟩, by rw [u2_n1 _ _ (by omega)]; exact r4.2.2.2.1, ?_, ?_, ?_, u2_same _ _ _ _, fun t ht => by rw [u2_n1 _ _ (by omega)]; exact r4.2.2.2.2.1 t ht⟩
        · rw [u2_n1 _ _ (by omega), r4.1 276 ci (by omega) (by omega)]; exact j276
        · rw [u2_n1 _ _ (by omega), r4.1 277 ci (by omega) (by omega)]; exact j277
        · rw [u2_n1 _ _ (by omega), r4.1 278 ci (by omega) (by omega)]; exact j278
      refine ⟨fun z => ?_, fun z => ?_⟩
      · have hw2 : w = 2 := by
          have := (nI_le_iff (a := 2) (b := w) (by omega) (by omega)).mp z
          omega
        rw [if_pos hw2] at h1
        refine s184 b2 [] J3 m3 fun J' r => h1 rfl J' ?_
        rw [hw2] at r
        exact r
      · have hw2 : ¬ w = 2 := fun q => z (by rw [q]; decide)
        rw [if_neg hw2] at h1 h0
        refine sp_is (D + 22) t3 n3 m3 32 (by decide) _ (fun q J4 r4 => ⟨fun y => absurd y (by decide), fun _ => ?_⟩) (fun q J4 r4 => ⟨fun _ => ?_, fun y => absurd rfl y⟩)
        · rw [if_pos q] at h1 h0
          have hb := nx_in q (by decide)
          refine sp_isE t3 (ff_gd hTT 4) (sp_isF t3 4 (by omega)) D (b2 + 1) [] J4 _ (by omega) (by rw [List.length_nil]; omega) r4 (fun x J5 r5 => ⟨fun _ => ?_, fun y => absurd y (by decide)⟩) (fun x J5 l5 r5 => ⟨fun y => absurd rfl y, fun _ => ?_⟩)
          · cases e3 : eeV T n (ffV T n 4) (b2 + 1) [] with
            | mk ok3 rr =>
              obtain ⟨b3, c⟩ := rr
              rw [e3] at x r5 h1
              have x' : ok3 = true := x
              subst x'
              exact s184 b3 c J5 r5 fun J' r => h1 rfl J' r
          · cases e3 : eeV T n (ffV T n 4) (b2 + 1) [] with
            | mk ok3 rr =>
              obtain ⟨b3, c⟩ := rr
              rw [e3] at x r5 h0
              have x' : ok3 = false := x
              subst x'
              exact h0 rfl J5 (cb r5)
        · rw [if_neg q] at h0
          exact h0 rfl J4 (cb r4)
  have s115n : ∀ {hz : zH} (y2 : Int32) (w : Nat) (J' : Nat → Nat → Int32) (a' : Nat), w = kwV T n a → wrdV T n (zsBy.getD w []) a = (false, a') → MS I a' (I 265 15) cd [] J' → zSI C hz K Y_X11_isClause (D + 24) 115 [(0, .ref 265), (1, .int (nI ci)), (2, .int y2)] [.int 0] J' L M := by
    intro hz y2 w J' a' hw he r
    have ec : clsV T n a = (false, a', (0, 0, [])) := by
      unfold clsV
      rw [← hw, he]
    rw [ec] at h0
    exact t_X11_isClause_115 (D + 17) _ _ _ _ ⟨fun _ => h0 rfl J' (MS_cb r), fun y => absurd rfl y⟩
  have hwo : ∀ w, w < 10 → a ≤ (wrdV T n (zsBy.getD w []) a).2 ∧ (wrdV T n (zsBy.getD w []) a).2 ≤ n := fun w hw => wrd_ok _ a ha (zsBy_ne w hw)
  have s69 : ∀ {hz : zH} (w : Nat), w < 3 → w = kwV T n a → zSI C hz K Y_X11_isClause (D + 24) 69 [(0, .ref 265), (1, .int (nI ci)), (2, .int (nI w))] [] I L M := by
    intro hz w hw3 hw
    have ez := zsBy_5 w hw3
    have hwo' := hwo w (by omega)
    refine t_X11_isClause_69 (D + 17) _ _ _ ?_
    rcases (by omega : w = 0 ∨ w = 1 ∨ w = 2) with rfl | rfl | rfl
    · refine br_t' (by decide) (sp_isAll (D + 17) hT ha m0 (i := 5) (by omega) _ (fun x J1 r1 => ?_) (fun x J1 r1 => ?_))
      · rw [show zsBy.getD 5 [] = zsBy.getD 0 [] from ez] at x r1
        exact s115 0 J1 _ hw (Prod.ext x rfl) hwo'.2 hwo'.1 r1
      · rw [show zsBy.getD 5 [] = zsBy.getD 0 [] from ez] at x r1
        exact s115n _ 0 J1 _ hw (Prod.ext x rfl) r1
    · refine br_f' (by decide) (br_t' (by decide) (sp_isAll (D + 17) hT ha m0 (i := 6) (by omega) _ (fun x J1 r1 => ?_) (fun x J1 r1 => ?_)))
      · rw [show zsBy.getD 6 [] = zsBy.getD 1 [] from ez] at x r1
        exact s115 1 J1 _ hw (Prod.ext x rfl) hwo'.2 hwo'.1 r1
      · rw [show zsBy.getD 6 [] = zsBy.getD 1 [] from ez] at x r1
        exact s115n _ 1 J1 _ hw (Prod.ext x rfl) r1
    · refine br_f' (by decide) (br_f' (by decide) (br_t' (by decide) (sp_isAll (D + 17) hT ha m0 (i := 7) (by omega) _ (fun x J1 r1 => ⟨fun y => absurd y (by decide), fun _ => ?_⟩) (fun x J1 r1 => ⟨fun _ => ?_, fun y => absurd rfl y⟩))))
      · rw [show zsBy.getD 7 [] = zsBy.getD 2 [] from ez] at x r1
        exact s115 2 J1 _ hw (Prod.ext x rfl) hwo'.2 hwo'.1 r1
      · rw [show zsBy.getD 7 [] = zsBy.getD 2 [] from ez] at x r1
        exact t_X11_isClause_114 (D + 17) _ _ _ (s115n _ 2 J1 _ hw (Prod.ext x rfl) r1)
  have sm1 : ∀ {hz : zH}, ¬ nxV T n a = 102 → ¬ nxV T n a = 108 → ¬ nxV T n a = 107 → zSI C hz K Y_X11_isClause (D + 24) 69 [(0, .ref 265), (1, .int (nI ci)), (2, .int (-1))] [] I L M := by
    intro hz q1 q2 q3
    have hw : 2 = kwV T n a := by unfold kwV; rw [if_neg q1, if_neg q2]
    have he : wrdV T n (zsBy.getD 2 []) a = (false, a) := by
      show (if nxV T n a = 107 then _ else ((false, a) : Bool × Nat)) = _
      rw [if_neg q3]
    exact t_X11_isClause_69 (D + 17) _ _ _ (br_f' (by decide) (br_f' (by decide) (br_f' (by decide) (t_X11_isClause_114 (D + 17) _ _ _ (s115n _ 2 I a hw he m0)))))
  refine t_X11_isClause (D + 17) _ _ ?_
  rw [hT.1, e12]
  refine ⟨fun z => ?_, fun z => ?_⟩
  · have := (nI_le_iff (a := n) (b := a) (by omega) (by omega)).mp z
    have enx : nxV T n a = -1 := by unfold nxV; rw [if_neg (by omega)]
    exact sm1 (by rw [enx]; decide) (by rw [enx]; decide) (by rw [enx]; decide)
  · have han : a < n := Nat.lt_of_not_le fun q => z ((nI_le_iff (by omega) (by omega)).mpr q)
    have enx : nI (T a) = nxV T n a := by unfold nxV; rw [if_pos han]
    have hin := vp_in_nI (show a < 100 by omega) (by omega : 100 < 2 ^ 31)
    refine ⟨hin, ?_⟩
    rw [nI_clamp (by omega), hT.2.2.1 a han, enx]
    refine ⟨fun q1 => ⟨hin, fun q2 => ⟨hin, fun q3 => sm1 q1 q2 q3, fun q3 => s69 2 (by omega) (by unfold kwV; rw [if_neg q1, if_neg q2])⟩, fun q2 => s69 1 (by omega) (by unfold kwV; rw [if_neg q1, if_pos q2])⟩, fun q1 => s69 0 (by omega) (by unfold kwV; rw [if_pos q1])⟩
def HB (I : Nat → Nat → Int32) (hc cd a : Nat) (J : Nat → Nat → Int32) : Prop := (∀ b j, ¬ (b = 265 ∧ (j = 12 ∨ j = 13 ∨ j = 14 ∨ j = 15 ∨ j = 24)) → b ≠ 280 → ¬ (276 ≤ b ∧ b ≤ 279 ∧ 10 * hc ≤ j) → J b j = I b j) ∧ J 265 12 = nI a ∧ ∀ j, j < cd → J 280 j = I 280 j
def HC (I : Nat → Nat → Int32) (hc cd a : Nat) (cs : List zCl) (J : Nat → Nat → Int32) : Prop := HB I hc cd a J ∧ (∀ q ∈ cs, okC q) ∧ ∃ ct, J 265 24 = nI ct ∧ cd ≤ ct ∧ ct ≤ cd + a ∧ ∀ j, j < cs.length → J 276 (10 * hc + j) = nI (cs.getD j (0, 0, [])).1 ∧ J 277 (10 * hc + j) = nI (cs.getD j (0, 0, [])).2.1 ∧ ∃ bg, J 278 (10 * hc + j) = nI bg ∧ J 279 (10 * hc + j) = nI (cs.getD j (0, 0, [])).2.2.length ∧ bg + (cs.getD j (0, 0, [])).2.2.length ≤ ct ∧ ∀ t, t < (cs.getD j (0, 0, [])).2.2.length → J 280 (bg + t) = nI ((cs.getD j (0, 0, [])).2.2.getD t 0)
theorem HC_to {hc cd a b : Nat} {cs : List zCl} {J : Nat → Nat → Int32} (h : HC I hc cd a cs J) (hab : a ≤ b) : HC I hc cd b cs (u2 J 265 12 (nI b)) := by
  obtain ⟨⟨x1, x2, x3⟩, y, ct, z1, z2, z3, z4⟩ := h
  refine ⟨⟨fun b' j q1 q2 q3 => by rw [u2_ne _ _ (by omega)]; exact x1 b' j q1 q2 q3, u2_same _ _ _ _, fun j hj => by rw [u2_n1 _ _ (by omega)]; exact x3 j hj⟩, y, ct, by rw [u2_n2 _ _ (by omega)]; exact z1, z2, by omega, fun j hj => ?_⟩
  obtain ⟨w1, w2, bg, w3, w4, w5, w6⟩ := z4 j hj
  exact ⟨by rw [u2_n1 _ _ (by omega)]; exact w1, by rw [u2_n1 _ _ (by omega)]; exact w2, bg, by rw [u2_n1 _ _ (by omega)]; exact w3, by rw [u2_n1 _ _ (by omega)]; exact w4, w5, fun t ht => by rw [u2_n1 _ _ (by omega)]; exact w6 t ht⟩
theorem sp_houM (D : Nat) {hc cd n : Nat} {T : Nat → Nat} (hT : MX I T n) (hhc : hc < 6) (hcd : cd ≤ 600) (e16 : I 265 16 = nI hc) (e24 : I 265 24 = nI cd) (K : KI) (h1 : (houV T n 10 0 []).1 = true → (houV T n 10 0 []).2.2.length ≤ 10 → ∀ J, HC I hc cd (houV T n 10 0 []).2.1 (houV T n 10 0 []).2.2 J → K (nI hc) (u2 (u2 (u2 (u2 J 265 10 0) 275 hc (nI (houV T n 10 0 []).2.2.length)) 265 17 (nI hc)) 265 16 (nI hc + 1)) L M) (h0 : (houV T n 10 0 []).1 = false → ∀ J, HB I hc cd (houV T n 10 0 []).2.1 J → K (-10 - nI (houV T n 10 0 []).2.1) (u2 (u2 J 265 10 0) 265 24 (nI cd)) L M) : zCI C Y_X11_house (D + 25) [.ref 265] (zmk I L M) K := by
  have hn := hT.2.1
  have hTT := hT.2.2.2
  refine t_X11_house (D + 17) _ ⟨fun _ => ?_, fun z => by rw [e16] at z; have := nI_inj (b := 6) (by omega) (by omega) z; omega⟩
  rw [e24]
  -- behind the loop
  have s123n : ∀ {hz : zH} (y2 : Int32) (J : Nat → Nat → Int32) (b : Nat), HB I hc cd b J → (K (-10 - nI b) (u2 (u2 J 265 10 0) 265 24 (nI cd)) L M) → zSI C hz K Y_X11_house (D + 25) 123 [(0, .ref 265), (1, .int (nI cd)), (2, .int y2), (4, .int 0)] [] J L M := by
    intro hz y2 J b hB hk
    refine t_X11_house_123 (D + 17) _ _ _ _ ⟨fun y => absurd rfl y, fun _ => ?_⟩
    rw [hB.2.1]
    exact hk
  have s29n : ∀ {hz : zH} (y2 : Int32) (J : Nat → Nat → Int32) (b : Nat), HB I hc cd b J → (K (-10 - nI b) (u2 (u2 J 265 10 0) 265 24 (nI cd)) L M) → zSI C hz K Y_X11_house (D + 25) 29 [(0, .ref 265), (1, .int (nI cd)), (2, .int y2), (3, .int 0), (4, .int 0)] [] J L M := fun y2 J b hB hk => t_X11_house_29 (D + 17) _ _ _ _ _ (br_t rfl (s123n y2 J b hB hk))
  have key : ∀ {hz : zH} (m a : Nat) (cs : List zCl) (J : Nat → Nat → Int32), 0 < m → cs.length + m = 10 → a ≤ n → HC I hc cd a cs J → houV T n 10 0 [] = houV T n m a cs → zSI C hz K Y_X11_house (D + 25) 29 [(0, .ref 265), (1, .int (nI cd)), (2, .int (nI cs.length)), (3, .int 1), (4, .int 0)] [] J L M := by
    intro hz m
    induction m with
    | zero => intro a cs J h; omega
    | succ m ih =>
      intro a cs J _ hlen ha hC he
      have hc2 := cls_gd hTT ha
      obtain ⟨⟨x1, x2, x3⟩, y, ct, z1, z2, z3, z4⟩ := hC
      have hTJ : MX J T n := ⟨(x1 265 10 (by omega) (by omega) (by omega)).trans hT.1, hn, fun j hj => (x1 274 j (by omega) (by omega) (by omega)).trans (hT.2.2.1 j hj), hTT⟩
      have eJ16 : J 265 16 = nI hc := (x1 265 16 (by omega) (by omega) (by omega)).trans e16
      have e0 : houV T n (m + 1) a cs = (match clsV T n a with
        | (false, b, _) => (false, b, cs)
        | (true, b, q) => if b = n then (true, b, cs ++ [q]) else if m = 0 then (false, b, cs ++ [q]) else if nxV T n b = 59 then houV T n m (b + 1) (cs ++ [q]) else (false, b, cs ++ [q])) := rfl
      refine t_X11_house_29 (D + 17) _ _ _ _ _ (br_f (by decide) (br_t' rfl (br_f (fun z => by have := (nI_le_iff (a := 10) (b := cs.length) (by omega) (by omega)).mp z; omega) ?_)))
      rw [eJ16, nI_10]
      have hBof : ∀ {b ci : Nat} {J1 : Nat → Nat → Int32}, 10 * hc ≤ ci → CB J b ci ct J1 → HB I hc cd b J1 := fun {b ci J1} hci r => ⟨fun b' j q1 q2 q3 => (r.1 b' j q1 q2 (by omega)).trans (x1 b' j q1 q2 q3), r.2.1, fun j hj => (r.2.2 j (by omega)).trans (x3 j hj)⟩
      refine sp_clauseM D hTJ ha (ci := 10 * hc + cs.length) (cd := ct) (by omega) x2 z1 (by omega) _ (fun x J1 r1 => ⟨fun y => absurd y (by decide), fun _ => ?_⟩) (fun x J1 r1 => ⟨fun _ => ?_, fun y => absurd rfl y⟩)
      · cases e : clsV T n a with
        | mk ok rr =>
          obtain ⟨b, q⟩ := rr
          rw [e] at x r1 hc2 e0
          have x' : ok = true := x
          subst x'
          obtain ⟨g1, g2, g3⟩ := hc2
          obtain ⟨g4, g5, -, g7⟩ := g3 rfl
          simp only at g1 g2 g4 g7
          obtain ⟨c1, c2, c3, c4, c5, c6, c7⟩ := r1
          simp only at c1 c2 c3 c4 c5 c6 c7
          have hB1 : HB I hc cd b J1 := hBof (by omega) c1
          have hC1 : HC I hc cd b (cs ++ [q]) J1 := by
            refine ⟨hB1, fun q' hq' => ?_, ct + q.2.2.length, c2, by omega, by omega, fun j hj => ?_⟩
            · rcases List.mem_append.mp hq' with p | p
              · exact y q' p
              · rw [show q' = q by simpa using p]; exact g5
            · rw [List.length_append, List.length_singleton] at hj
              by_cases p : j < cs.length
              · rw [List.getD_eq_getElem?_getD, List.getElem?_append_left p, ← List.getD_eq_getElem?_getD]
                obtain ⟨w1, w2, bg, w3, w4, w5, w6⟩ := z4 j p
                exact ⟨(c1.1 _ _ (by omega) (by omega) (by omega)).trans w1, (c1.1 _ _ (by omega) (by omega) (by omega)).trans w2, bg, (c1.1 _ _ (by omega) (by omega) (by omega)).trans w3, (c1.1 _ _ (by omega) (by omega) (by omega)).trans w4, by omega, fun t ht => (c1.2.2 _ (by omega)).trans (w6 t ht)⟩
              · have ej : j = cs.length := by omega
                subst ej
                have eq : (cs ++ [q]).getD cs.length (0, 0, []) = q := by
                  rw [List.getD_eq_getElem?_getD]
                  simp
                rw [eq]
                exact ⟨c3, c4, ct, c5, c6, by omega, c7⟩
          have e1 : houV T n 10 0 [] = if b = n then (true, b, cs ++ [q]) else if m = 0 then (false, b, cs ++ [q]) else if nxV T n b = 59 then houV T n m (b + 1) (cs ++ [q]) else (false, b, cs ++ [q]) := he.trans e0
          have e265 : J1 265 10 = nI n := (hB1.1 265 10 (by omega) (by omega) (by omega)).trans hT.1
          have elen : (cs ++ [q]).length = cs.length + 1 := by rw [List.length_append]; rfl
          refine t_X11_house_65 (D + 17) _ _ _ _ _ ⟨fun _ => ?_, fun y => absurd y (by decide)⟩
          rw [hB1.2.1, e265, nI_1]
          refine ⟨fun p => ?_, fun p => ?_⟩
          · have hbn : ¬ b = n := fun p' => p (by rw [p'])
            rw [if_neg hbn] at e1
            refine t_X11_house_92 (D + 17) _ _ _ _ ⟨fun y => absurd rfl y, fun _ => ⟨fun w => ?_, fun w => ?_⟩⟩
            · have hm0 : m = 0 := by
                have := (nI_le_iff (a := 10) (b := cs.length + 1) (by omega) (by omega)).mp w
                omega
              rw [if_pos hm0] at e1
              rw [e1] at h0
              exact s29n _ J1 b hB1 (h0 rfl J1 hB1)
            · have hm0 : ¬ m = 0 := fun p' => w ((nI_le_iff (a := 10) (by omega) (by omega)).mpr (by omega))
              rw [if_neg hm0] at e1
              have hTJ1 : MX J1 T n := ⟨e265, hn, fun j hj => (hB1.1 274 j (by omega) (by omega) (by omega)).trans (hT.2.2.1 j hj), hTT⟩
              have mm := MS_rf (I := J1) (a := b) (cd := ct + q.2.2.length) hB1.2.1 c2
              refine sp_is (D + 23) hTJ1 g2 mm 59 (by decide) _ (fun p2 J2 r2 => ⟨fun y => absurd y (by decide), fun _ => ?_⟩) (fun p2 J2 r2 => ⟨fun _ => ?_, fun y => absurd rfl y⟩)
              · rw [if_pos p2] at e1
                have hb := nx_in p2 (by decide)
                obtain ⟨⟨k1, k2, k3⟩, ky, ct', k4, k5, k6, k7⟩ := hC1
                have hC2 : HC I hc cd (b + 1) (cs ++ [q]) J2 := by
                  have ect : ct' = ct + q.2.2.length := nI_inj (by omega) (by omega) (k4.symm.trans c2)
                  refine ⟨⟨fun b' j q1 q2 q3 => (r2.1 b' j q1 q2).trans (k1 b' j q1 q2 q3), r2.2.1, fun j hj => (r2.2.2.2.2.2 j (by omega)).trans (k3 j hj)⟩, ky, ct', by rw [r2.2.2.2.1, ect]; rfl, k5, by omega, fun j hj => ?_⟩
                  obtain ⟨w1, w2, bg, w3, w4, w5, w6⟩ := k7 j hj
                  exact ⟨(r2.1 _ _ (by omega) (by omega)).trans w1, (r2.1 _ _ (by omega) (by omega)).trans w2, bg, (r2.1 _ _ (by omega) (by omega)).trans w3, (r2.1 _ _ (by omega) (by omega)).trans w4, w5, fun t ht => (r2.2.2.2.2.2 _ (by omega)).trans (w6 t ht)⟩
                have := ih (b + 1) (cs ++ [q]) J2 (by omega) (by omega) (by omega) hC2 e1
                rw [elen] at this
                exact this
              · rw [if_neg p2] at e1
                rw [e1] at h0
                have hB2 : HB I hc cd b J2 := ⟨fun b' j q1 q2 q3 => (r2.1 b' j q1 q2).trans (hB1.1 b' j q1 q2 q3), r2.2.1, fun j hj => (r2.2.2.2.2.2 j (by omega)).trans (hB1.2.2 j hj)⟩
                exact s29n _ J2 b hB2 (h0 rfl J2 hB2)
          · have hbn : b = n := nI_inj (by omega) (by omega) p
            rw [if_pos hbn] at e1
            rw [e1] at h1
            refine t_X11_house_92 (D + 17) _ _ _ _ ⟨fun _ => ?_, fun y => absurd y (by decide)⟩
            refine t_X11_house_29 (D + 17) _ _ _ _ _ (br_f (by decide) (br_f' (by decide) ?_))
            refine t_X11_house_123 (D + 17) _ _ _ _ ⟨fun _ => ?_, fun y => absurd y (by decide)⟩
            rw [show J1 265 16 = nI hc from (hB1.1 265 16 (by omega) (by omega) (by omega)).trans e16, nI_clamp (by omega)]
            refine ⟨vp_in_nI hhc (by omega), ?_⟩
            have := h1 rfl (by rw [elen]; omega) J1 hC1
            rw [elen] at this
            exact this
      · cases e : clsV T n a with
        | mk ok rr =>
          obtain ⟨b, q⟩ := rr
          rw [e] at x r1 e0
          have x' : ok = false := x
          subst x'
          have hB1 : HB I hc cd b J1 := hBof (by omega) r1
          rw [he, e0] at h0
          refine t_X11_house_64 (D + 17) _ _ _ _ (t_X11_house_65 (D + 17) _ _ _ _ _ ⟨fun y => absurd rfl y, fun _ => s29n _ J1 b hB1 (h0 rfl J1 hB1)⟩)
  refine key 10 0 [] _ (by omega) (by simp) (by omega) ⟨⟨fun b' j q1 q2 q3 => by rw [u2_ne _ _ (by omega)], u2_same _ _ _ _, fun j hj => by rw [u2_n1 _ _ (by omega)]⟩, by simp, cd, by rw [u2_n2 _ _ (by omega)]; exact e24, Nat.le_refl _, by omega, fun j hj => absurd hj (by simp)⟩ rfl
end SM
