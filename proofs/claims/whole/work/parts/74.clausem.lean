section SM
variable {C : zC} {I I' : Nat → Nat → Int32} {L L' : Nat → Nat → Int64} {M : Nat → Nat → Option Nat}
/-- what isF does with op openings, N frames being there -/
def FM (C : zC) (I : Nat → Nat → Int32) (L : Nat → Nat → Int64) (M : Nat → Nat → Option Nat) (n cd : Nat) (F : Nat → Rs) (op : Int32) (N : Nat) : Prop := ∀ (D a : Nat) (l : List Nat) (J : Nat → Nat → Int32) (K : KI), a ≤ n → cd + l.length + (n - a) ≤ 799 → MS I a op cd l J → ((F a).1 = true → ∀ J', MS I (F a).2.1 op cd (l ++ (F a).2.2) J' → K 1 J' L M) → ((F a).1 = false → ∀ J' l', MS I (F a).2.1 op cd l' J' → K 0 J' L M) → zCI C Y_X11_isF (D + N + 1) [.ref 265] (zmk J L M) K
theorem sp_isT {n cd N W : Nat} {T : Nat → Nat} {F : Nat → Rs} {op : Int32} (hT : MX I T n) (hG : ∀ a, a ≤ n → GdF n W a (F a)) (hF : FM C I L M n cd F op N) (D a : Nat) (l0 c : List Nat) (J : Nat → Nat → Int32) (K : KI) (ha : a ≤ n) (hl : cd + l0.length + c.length + (n - a) ≤ 799) (h : MS I a op cd (l0 ++ c) J) (h1 : (ttV T n F a c).1 = true → ∀ J', MS I (ttV T n F a c).2.1 op cd (l0 ++ (ttV T n F a c).2.2) J' → K 1 J' L M) (h0 : (ttV T n F a c).1 = false → ∀ J' l', MS I (ttV T n F a c).2.1 op cd l' J' → K 0 J' L M) : zCI C Y_X11_isT (D + N + 2) [.ref 265] (zmk J L M) K := by
  have hn := hT.2.1
  have hg := hG a ha
  refine t_X11_isT (D + N) _ (hF D a (l0 ++ c) J _ ha (by rw [List.length_append]; omega) h (fun x J1 r1 => ⟨fun _ => ?_, fun y => absurd y (by decide)⟩) (fun x J1 l1 r1 => ⟨fun y => absurd rfl y, fun _ => ?_⟩))
  · have key : ∀ (m b : Nat) (c' : List Nat) (J' : Nat → Nat → Int32), n - b ≤ m → b ≤ n → cd + l0.length + c'.length + (n - b) ≤ 799 → MS I b op cd (l0 ++ c') J' → ((lpT T n F 101 b c').1 = true → ∀ J', MS I (lpT T n F 101 b c').2.1 op cd (l0 ++ (lpT T n F 101 b c').2.2) J' → K 1 J' L M) → ((lpT T n F 101 b c').1 = false → ∀ J' l', MS I (lpT T n F 101 b c').2.1 op cd l' J' → K 0 J' L M) → zSI C (zmk J L M) K Y_X11_isT (D + N + 2) 9 [(0, .ref 265)] [] J' L M := by
      intro m
      induction m with
      | zero =>
        intro b c' J' hm hb hl r k1 k0
        refine t_X11_isT_9 (D + N) _ (sp_is (D + N) hT hb r 38 (by decide) _ (fun q J2 r2 => ?_) (fun q J2 r2 => ⟨fun _ => ?_, fun y => absurd rfl y⟩))
        · have := nx_in q (by decide)
          omega
        · have e : lpT T n F (100 + 1) b c' = (true, b, c') := by
            show (if nxV T n b = 38 then _ else _) = _
            rw [if_neg q]
          rw [show (101 : Nat) = 100 + 1 from rfl, e] at k1
          exact k1 rfl J2 r2
      | succ m ih =>
        intro b c' J' hm hb hl r k1 k0
        refine t_X11_isT_9 (D + N) _ (sp_is (D + N) hT hb r 38 (by decide) _ (fun q J2 r2 => ⟨fun y => absurd y (by decide), fun _ => ?_⟩) (fun q J2 r2 => ⟨fun _ => ?_, fun y => absurd rfl y⟩))
        · have hbn := nx_in q (by decide)
          have hg2 := hG (b + 1) (by omega)
          have e : lpT T n F (100 + 1) b c' = (match F (b + 1) with
            | (true, b2, c2) => lpT T n F 100 b2 (c' ++ c2 ++ [1])
            | (false, b2, c2) => (false, b2, c' ++ c2)) := by
            show (if nxV T n b = 38 then _ else _) = _
            rw [if_pos q]
            cases F (b + 1) with
            | mk ok r =>
              obtain ⟨b2, c2⟩ := r
              cases ok <;> rfl
          rw [show (101 : Nat) = 100 + 1 from rfl, e] at k1 k0
          refine hF D (b + 1) (l0 ++ c') J2 _ (by omega) (by rw [List.length_append]; omega) r2 (fun x J3 r3 => ⟨fun y => absurd y (by decide), fun _ => ?_⟩) (fun x J3 l3 r3 => ⟨fun _ => ?_, fun y => absurd rfl y⟩)
          · cases e2 : F (b + 1) with
            | mk ok rr =>
              obtain ⟨b2, c2⟩ := rr
              rw [e2] at x r3 hg2 k1 k0
              have x' : ok = true := x
              subst x'
              obtain ⟨g1, g2, g3, -⟩ := hg2
              simp only at g1 g2 g3
              replace r3 : MS I b2 op cd (l0 ++ c' ++ c2) J3 := r3
              replace k1 : (lpT T n F 100 b2 (c' ++ c2 ++ [1])).1 = true → ∀ J', MS I (lpT T n F 100 b2 (c' ++ c2 ++ [1])).2.1 op cd (l0 ++ (lpT T n F 100 b2 (c' ++ c2 ++ [1])).2.2) J' → K 1 J' L M := k1
              replace k0 : (lpT T n F 100 b2 (c' ++ c2 ++ [1])).1 = false → ∀ J' l', MS I (lpT T n F 100 b2 (c' ++ c2 ++ [1])).2.1 op cd l' J' → K 0 J' L M := k0
              rw [lpT_fuel hG 100 101 b2 _ g2 (by omega) (by omega)] at k1 k0
              refine sp_codes (D + N) r3 (by rw [List.length_append, List.length_append]; omega) 1 _ fun J4 r4 => ⟨fun _ => ?_, fun y => absurd y (by decide)⟩
              refine ih b2 (c' ++ c2 ++ [1]) J4 (by omega) g2 (by rw [List.length_append, List.length_append, List.length_singleton]; omega) ?_ k1 k0
              rw [show l0 ++ (c' ++ c2 ++ [1]) = l0 ++ c' ++ c2 ++ [1] by simp]
              exact r4
          · cases e2 : F (b + 1) with
            | mk ok rr =>
              obtain ⟨b2, c2⟩ := rr
              rw [e2] at x r3 k0
              have x' : ok = false := x
              subst x'
              exact k0 rfl J3 l3 r3
        · have e : lpT T n F (100 + 1) b c' = (true, b, c') := by
            show (if nxV T n b = 38 then _ else _) = _
            rw [if_neg q]
          rw [show (101 : Nat) = 100 + 1 from rfl, e] at k1
          exact k1 rfl J2 r2
    unfold ttV at h1 h0
    cases e : F a with
    | mk ok rr =>
      obtain ⟨b, c1⟩ := rr
      rw [e] at x r1 hg h1 h0
      have x' : ok = true := x
      subst x'
      obtain ⟨g1, g2, g3, -⟩ := hg
      simp only at g1 g2 g3
      replace r1 : MS I b op cd (l0 ++ c ++ c1) J1 := r1
      refine key n b (c ++ c1) J1 (by omega) g2 (by rw [List.length_append]; omega) ?_ h1 h0
      rw [← List.append_assoc]
      exact r1
  · unfold ttV at h0
    cases e : F a with
    | mk ok rr =>
      obtain ⟨b, c1⟩ := rr
      rw [e] at x r1 h0
      have x' : ok = false := x
      subst x'
      exact h0 rfl J1 l1 r1
theorem sp_isE {n cd N W : Nat} {T : Nat → Nat} {F : Nat → Rs} {op : Int32} (hT : MX I T n) (hG : ∀ a, a ≤ n → GdF n W a (F a)) (hF : FM C I L M n cd F op N) (D a : Nat) (l0 : List Nat) (J : Nat → Nat → Int32) (K : KI) (ha : a ≤ n) (hl : cd + l0.length + (n - a) ≤ 799) (h : MS I a op cd l0 J) (h1 : (eeV T n F a []).1 = true → ∀ J', MS I (eeV T n F a []).2.1 op cd (l0 ++ (eeV T n F a []).2.2) J' → K 1 J' L M) (h0 : (eeV T n F a []).1 = false → ∀ J' l', MS I (eeV T n F a []).2.1 op cd l' J' → K 0 J' L M) : zCI C Y_X11_isE (D + N + 3) [.ref 265] (zmk J L M) K := by
  have hn := hT.2.1
  have key : ∀ {hz : zH} (m b : Nat) (c' : List Nat) (J' : Nat → Nat → Int32), n - b ≤ m → b ≤ n → cd + l0.length + c'.length + (n - b) ≤ 799 → MS I b op cd (l0 ++ c') J' → ((lpE T n F 101 b c').1 = true → ∀ J', MS I (lpE T n F 101 b c').2.1 op cd (l0 ++ (lpE T n F 101 b c').2.2) J' → K 1 J' L M) → ((lpE T n F 101 b c').1 = false → ∀ J' l', MS I (lpE T n F 101 b c').2.1 op cd l' J' → K 0 J' L M) → zSI C hz K Y_X11_isE (D + N + 3) 9 [(0, .ref 265)] [] J' L M := by
    intro hz m
    induction m with
    | zero =>
      intro b c' J' hm hb hl r k1 k0
      refine t_X11_isE_9 (D + N + 1) _ (sp_is (D + N + 1) hT hb r 124 (by decide) _ (fun q J2 r2 => ?_) (fun q J2 r2 => ⟨fun _ => ?_, fun y => absurd rfl y⟩))
      · have := nx_in q (by decide)
        omega
      · rw [show (101 : Nat) = 100 + 1 from rfl, lpE_tt, if_neg q] at k1
        exact k1 rfl J2 r2
    | succ m ih =>
      intro b c' J' hm hb hl r k1 k0
      refine t_X11_isE_9 (D + N + 1) _ (sp_is (D + N + 1) hT hb r 124 (by decide) _ (fun q J2 r2 => ⟨fun y => absurd y (by decide), fun _ => ?_⟩) (fun q J2 r2 => ⟨fun _ => ?_, fun y => absurd rfl y⟩))
      · have hbn := nx_in q (by decide)
        have hg2 := tt_gd (T := T) hG (a := b + 1) (by omega) c'
        rw [show (101 : Nat) = 100 + 1 from rfl, lpE_tt, if_pos q] at k1 k0
        refine sp_isT hT hG hF D (b + 1) l0 c' J2 _ (by omega) (by omega) r2 (fun x J3 r3 => ⟨fun y => absurd y (by decide), fun _ => ?_⟩) (fun x J3 l3 r3 => ⟨fun _ => ?_, fun y => absurd rfl y⟩)
        · cases e2 : ttV T n F (b + 1) c' with
          | mk ok rr =>
            obtain ⟨b2, c2⟩ := rr
            rw [e2] at x r3 hg2 k1 k0
            have x' : ok = true := x
            subst x'
            obtain ⟨g1, g2, g3, -⟩ := hg2
            simp only at g1 g2 g3
            replace r3 : MS I b2 op cd (l0 ++ c2) J3 := r3
            replace k1 : (lpE T n F 100 b2 (c2 ++ [2])).1 = true → ∀ J', MS I (lpE T n F 100 b2 (c2 ++ [2])).2.1 op cd (l0 ++ (lpE T n F 100 b2 (c2 ++ [2])).2.2) J' → K 1 J' L M := k1
            replace k0 : (lpE T n F 100 b2 (c2 ++ [2])).1 = false → ∀ J' l', MS I (lpE T n F 100 b2 (c2 ++ [2])).2.1 op cd l' J' → K 0 J' L M := k0
            rw [lpE_fuel hG 100 101 b2 _ g2 (by omega) (by omega)] at k1 k0
            refine sp_codes (D + N + 1) r3 (by rw [List.length_append]; omega) 2 _ fun J4 r4 => ⟨fun _ => ?_, fun y => absurd y (by decide)⟩
            refine ih b2 (c2 ++ [2]) J4 (by omega) g2 (by rw [List.length_append, List.length_singleton]; omega) ?_ k1 k0
            rw [← List.append_assoc]
            exact r4
        · cases e2 : ttV T n F (b + 1) c' with
          | mk ok rr =>
            obtain ⟨b2, c2⟩ := rr
            rw [e2] at x r3 k0
            have x' : ok = false := x
            subst x'
            exact k0 rfl J3 l3 r3
      · rw [show (101 : Nat) = 100 + 1 from rfl, lpE_tt, if_neg q] at k1
        exact k1 rfl J2 r2
  rw [ee_tt] at h1 h0
  have hg := tt_gd (T := T) hG ha []
  refine t_X11_isE (D + N + 1) _ (sp_isT hT hG hF D a l0 [] J _ ha (by rw [List.length_nil]; omega) (by rw [List.append_nil]; exact h) (fun x J1 r1 => ⟨fun _ => ?_, fun y => absurd y (by decide)⟩) (fun x J1 l1 r1 => ⟨fun y => absurd rfl y, fun _ => ?_⟩))
  · cases e2 : ttV T n F a [] with
    | mk ok rr =>
      obtain ⟨b2, c2⟩ := rr
      rw [e2] at x r1 hg h1 h0
      have x' : ok = true := x
      subst x'
      obtain ⟨g1, g2, g3, -⟩ := hg
      simp only [List.length_nil] at g1 g2 g3
      exact key n b2 c2 J1 (by omega) g2 (by omega) r1 h1 h0
  · cases e2 : ttV T n F a [] with
    | mk ok rr =>
      obtain ⟨b2, c2⟩ := rr
      rw [e2] at x r1 h0
      have x' : ok = false := x
      subst x'
      exact h0 rfl J1 l1 r1
theorem sp_opd (d : Nat) {a cd n op : Nat} {l : List Nat} {J : Nat → Nat → Int32} {T : Nat → Nat} (hT : MX I T n) (ha : a ≤ n) (h : MS I a (nI op) cd l J) (hop : op ≤ 4) (v : Int32) (hv : ¬ v = -1) (K : KI) (h1 : op < 4 → nxV T n a = v → ∀ J', MS I (a + 1) (nI (op + 1)) cd l J' → K 1 J' L M) (h0 : op = 4 ∨ ¬ nxV T n a = v → ∀ J', MS I a (nI op) cd l J' → K 0 J' L M) : zCI C Y_X11_isOpened (d + 2) [.ref 265, .int v] (zmk J L M) K := by
  refine t_X11_isOpened d _ _ ?_
  rw [h.2.2.1]
  refine ⟨fun z => h0 (Or.inl (nI_inj (b := 4) (by omega) (by omega) z)) J h, fun z => ?_⟩
  have hlt : op < 4 := by
    have : ¬ op = 4 := fun q => z (by rw [q]; rfl)
    omega
  refine sp_is d hT ha h v hv _ (fun q J1 r1 => ⟨fun _ => ?_, fun y => absurd y (by decide)⟩) (fun q J1 r1 => ⟨fun y => absurd rfl y, fun _ => h0 (Or.inr q) J1 r1⟩)
  rw [r1.2.2.1, nI_1]
  exact h1 hlt q _ (MS_op r1)
theorem sp_isF {n cd : Nat} {T : Nat → Nat} (hT : MX I T n) : ∀ k, k ≤ 4 → FM C I L M n cd (ffV T n k) (nI (4 - k)) (8 + 3 * k) := by
  have hn := hT.2.1
  have hTT := hT.2.2.2
  intro k
  induction k with
  | zero =>
    intro _ D a l J K ha hl h h1 h0
    refine t_X11_isF D _ (sp_opd (D + 6) hT ha h (by omega) 33 (by decide) _ (fun q => absurd q (by omega)) fun _ J1 r1 => ⟨fun _ => ?_, fun y => absurd rfl y⟩)
    refine sp_opd (D + 6) hT ha r1 (by omega) 40 (by decide) _ (fun q => absurd q (by omega)) fun _ J2 r2 => ⟨fun _ => ?_, fun y => absurd rfl y⟩
    exact sp_tstM D hT ha r2 hl _ (fun z J' r => ⟨Or.inr rfl, h1 z J' r⟩) (fun z J' l' r => ⟨Or.inl rfl, h0 z J' l' r⟩)
  | succ k ih =>
    intro hk D a l J K ha hl h h1 h0
    have ihk := ih (by omega)
    have hgk : ∀ a, a ≤ n → GdF n (2 * k + 1) a (ffV T n k a) := fun a ha => ff_gd hTT k a ha
    have hop1 : 4 - (k + 1) + 1 = 4 - k := by omega
    have hback : nI (4 - k) - 1 = nI (4 - (k + 1)) := by rw [nI_sub1 (by omega)]; rfl
    rw [show D + (8 + 3 * (k + 1)) + 1 = (D + 3 + 3 * k) + 9 by omega]
    unfold ffV at h1 h0
    have s72 : ∀ {hz : zH} (J' : Nat → Nat → Int32) (b : Nat) (l' : List Nat), MS I b (nI (4 - k)) cd l' J' → ∀ v : Int32, (v = 0 ∨ v = 1) → (∀ J'', MS I b (nI (4 - (k + 1))) cd l' J'' → K v J'' L M) → zSI C hz K Y_X11_isF (D + 3 + 3 * k + 9) 72 [(0, .ref 265), (1, .int v)] [] J' L M := by
      intro hz J' b l' r v hv hk
      refine t_X11_isF_72 (D + 3 + 3 * k) _ _ ⟨hv, ?_⟩
      rw [r.2.2.1, hback]
      exact hk _ (MS_op r)
    refine t_X11_isF (D + 3 + 3 * k) _ (sp_opd (D + 3 + 3 * k + 6) hT ha h (by omega) 33 (by decide) _ (fun _ q J1 r1 => ⟨fun y => absurd y (by decide), fun _ => ?_⟩) fun q J1 r1 => ⟨fun _ => ?_, fun y => absurd rfl y⟩)
    · -- !
      rw [if_pos q] at h1 h0
      have han := nx_in q (by decide)
      rw [hop1] at r1
      have hg := hgk (a + 1) (by omega)
      rw [show D + 3 + 3 * k + 8 = (D + 2) + (8 + 3 * k) + 1 by omega]
      refine ihk (D + 2) (a + 1) l J1 _ (by omega) (by omega) r1 (fun x J2 r2 => ⟨fun y => absurd y (by decide), fun _ => ?_⟩) (fun x J2 l2 r2 => ⟨fun _ => ?_, fun y => absurd rfl y⟩)
      · cases e : ffV T n k (a + 1) with
        | mk ok rr =>
          obtain ⟨b, c'⟩ := rr
          rw [e] at x r2 hg h1
          have x' : ok = true := x
          subst x'
          obtain ⟨g1, g2, g3, -⟩ := hg
          simp only at g1 g2 g3
          replace r2 : MS I b (nI (4 - k)) cd (l ++ c') J2 := r2
          refine sp_codes _ r2 (by rw [List.length_append]; omega) 0 _ fun J3 r3 => ⟨fun y => absurd y (by decide), fun _ => ?_⟩
          refine s72 J3 b _ r3 1 (Or.inr rfl) fun J4 r4 => h1 rfl J4 ?_
          show MS I b (nI (4 - (k + 1))) cd (l ++ (c' ++ [0])) J4
          rw [← List.append_assoc]
          exact r4
      · cases e : ffV T n k (a + 1) with
        | mk ok rr =>
          obtain ⟨b, c'⟩ := rr
          rw [e] at x r2 h0
          have x' : ok = false := x
          subst x'
          exact s72 J2 b l2 r2 0 (Or.inl rfl) fun J4 r4 => h0 rfl J4 l2 r4
    · have q33 : ¬ nxV T n a = 33 := q.resolve_left (by omega)
      rw [if_neg q33] at h1 h0
      refine sp_opd (D + 3 + 3 * k + 6) hT ha r1 (by omega) 40 (by decide) _ (fun _ q J2 r2 => ⟨fun y => absurd y (by decide), fun _ => ?_⟩) fun q J2 r2 => ⟨fun _ => ?_, fun y => absurd rfl y⟩
      · -- (
        rw [if_pos q] at h1 h0
        have han := nx_in q (by decide)
        rw [hop1] at r2
        have hg := ee_gd (T := T) hgk (a := a + 1) (by omega)
        rw [show D + 3 + 3 * k + 8 = D + (8 + 3 * k) + 3 by omega]
        refine sp_isE hT hgk ihk D (a + 1) l J2 _ (by omega) (by omega) r2 (fun x J3 r3 => ⟨fun y => absurd y (by decide), fun _ => ?_⟩) (fun x J3 l3 r3 => ⟨fun _ => ?_, fun y => absurd rfl y⟩)
        · cases e : eeV T n (ffV T n k) (a + 1) [] with
          | mk ok rr =>
            obtain ⟨b, c'⟩ := rr
            rw [e] at x r3 hg h1 h0
            have x' : ok = true := x
            subst x'
            obtain ⟨g1, g2, g3, -⟩ := hg
            simp only at g1 g2 g3
            replace r3 : MS I b (nI (4 - k)) cd (l ++ c') J3 := r3
            replace h1 : (if nxV T n b = 41 then ((true, b + 1, c') : Rs) else (false, b, c')).1 = true → ∀ J', MS I (if nxV T n b = 41 then ((true, b + 1, c') : Rs) else (false, b, c')).2.1 (nI (4 - (k + 1))) cd (l ++ (if nxV T n b = 41 then ((true, b + 1, c') : Rs) else (false, b, c')).2.2) J' → K 1 J' L M := h1
            replace h0 : (if nxV T n b = 41 then ((true, b + 1, c') : Rs) else (false, b, c')).1 = false → ∀ J' l', MS I (if nxV T n b = 41 then ((true, b + 1, c') : Rs) else (false, b, c')).2.1 (nI (4 - (k + 1))) cd l' J' → K 0 J' L M := h0
            rw [show D + (8 + 3 * k) + 3 = (D + 8 + 3 * k + 2) + 1 by omega]
            refine sp_is (D + 8 + 3 * k + 2) hT g2 r3 41 (by decide) _ (fun y J4 r4 => ⟨fun x => absurd x (by decide), fun _ => ?_⟩) (fun y J4 r4 => ⟨fun _ => ?_, fun x => absurd rfl x⟩)
            · rw [if_pos y] at h1
              refine t_X11_isF_63 (D + 3 + 3 * k) _ _ (s72 J4 (b + 1) _ r4 1 (Or.inr rfl) fun J5 r5 => h1 rfl J5 r5)
            · rw [if_neg y] at h0
              refine t_X11_isF_62 (D + 3 + 3 * k) _ (t_X11_isF_63 (D + 3 + 3 * k) _ _ (s72 J4 b _ r4 0 (Or.inl rfl) fun J5 r5 => h0 rfl J5 _ r5))
        · cases e : eeV T n (ffV T n k) (a + 1) [] with
          | mk ok rr =>
            obtain ⟨b, c'⟩ := rr
            rw [e] at x r3 h0
            have x' : ok = false := x
            subst x'
            refine t_X11_isF_62 (D + 3 + 3 * k) _ (t_X11_isF_63 (D + 3 + 3 * k) _ _ (s72 J3 b l3 r3 0 (Or.inl rfl) fun J5 r5 => h0 rfl J5 _ r5))
      · have q40 : ¬ nxV T n a = 40 := q.resolve_left (by omega)
        rw [if_neg q40] at h1 h0
        exact sp_tstM (D + 3 + 3 * k) hT ha r2 hl _ (fun z J' r => ⟨Or.inr rfl, h1 z J' r⟩) (fun z J' l' r => ⟨Or.inl rfl, h0 z J' l' r⟩)
theorem sp_isAll (d : Nat) {a cd n i : Nat} {op : Int32} {l : List Nat} {J : Nat → Nat → Int32} {T : Nat → Nat} (hT : MX I T n) (ha : a ≤ n) (h : MS I a op cd l J) (hi : i < 10) (K : KI) (h1 : (wrdV T n (zsBy.getD i []) a).1 = true → ∀ J', MS I (wrdV T n (zsBy.getD i []) a).2 op cd l J' → K 1 J' L M) (h0 : (wrdV T n (zsBy.getD i []) a).1 = false → ∀ J', MS I (wrdV T n (zsBy.getD i []) a).2 op cd l J' → K 0 J' L M) : zCI C Y_X11_isAll (d + 6) [.ref 265, .ref (1000010 + i)] (zmk J L M) K := by
  have hl7 := (slen i hi).2
  refine t_X11_isAll d hi _ ?_
  have key : ∀ (t : List Int32) (j a' : Nat) (J' : Nat → Nat → Int32), j + t.length = (zsBy.getD i []).length → (∀ k, k < t.length → (zsBy.getD i []).getD (j + k) 0 = t.getD k 0) → (∀ c ∈ t, ¬ c = -1) → a' ≤ n → MS I a' op cd l J' → wrdV T n (zsBy.getD i []) a = wrdV T n t a' → zSI C (zmk J L M) K Y_X11_isAll (d + 6) 2 [(0, .ref 265), (1, .ref (1000010 + i)), (2, .int (nI j))] [] J' L M := by
    intro t
    induction t with
    | nil =>
      intro j a' J' hj _ _ ha' r he
      rw [List.length_nil] at hj
      rw [he] at h1
      refine t_X11_isAll_2 d hi _ hi _ (sp_slen (d + 3) hi _ (br_t ((nI_le_iff (by omega) (by omega)).mpr (by omega)) ?_))
      exact h1 rfl J' r
    | cons c t ih =>
      intro j a' J' hj hg hc ha' r he
      rw [List.length_cons] at hj
      refine t_X11_isAll_2 d hi _ hi _ (sp_slen (d + 3) hi _ (br_f (fun z => by have := (nI_le_iff (a := (zsBy.getD i []).length) (b := j) (by omega) (by omega)).mp z; omega) ?_))
      refine sp_schr d hi (by omega) _ ?_
      rw [show (zsBy.getD i []).getD j 0 = c from hg 0 (by simp)]
      have ew : wrdV T n (c :: t) a' = if nxV T n a' = c then wrdV T n t (a' + 1) else (false, a') := rfl
      refine sp_is (d + 4) hT ha' r c (hc c List.mem_cons_self) _ (fun q J3 r3 => ⟨fun _ => ?_, fun y => absurd y (by decide)⟩) (fun q J3 r3 => ⟨fun y => absurd rfl y, fun _ => ?_⟩)
      · have hb := nx_in q (hc c List.mem_cons_self)
        rw [if_pos q] at ew
        rw [nI_1]
        refine ih (j + 1) (a' + 1) J3 (by omega) (fun k hk => ?_) (fun x hx => hc x (List.mem_cons_of_mem _ hx)) (by omega) r3 (he.trans ew)
        have := hg (k + 1) (by simp; omega)
        rw [show j + 1 + k = j + (k + 1) by omega, this]
        simp
      · rw [if_neg q] at ew
        rw [he, ew] at h0
        exact h0 rfl J3 r3
  exact key (zsBy.getD i []) 0 a J (by omega) (fun k hk => by rw [Nat.zero_add]) (zsBy_ne i hi) ha h rfl
end SM
