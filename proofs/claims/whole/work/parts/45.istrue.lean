/-! THE SUM, as the model has it -/
section SM
variable {C : zC} {I I' : Nat → Nat → Int32} {L L' : Nat → Nat → Int64} {M : Nat → Nat → Option Nat}
/-- the facts of a view: a guest p, a purpose x -/
def ft (w : Nat → Int32) (p x : Nat) (n : Int32) : Nat → Int32 := fun c => if c = 0 then nI p else if c = 1 then w (24 + p) else if c = 2 then w (30 + p) else if c = 3 then nI x else if c = 4 then w x else n - n / 10 * 10
theorem sp_letter (d : Nat) {p x c : Nat} (hp : p < 6) (hx : x < 12) (hc : c < 6) (K : KI) (hK : K (ft (cur I) p x (I 265 9) c) I L M) : zCI C Y_X11_letterOf (d + 1) [.ref 265, .int (nI p), .int (nI x), .int (nI c)] (zmk I L M) K := by
  have h6 := vp_in_nI hp (by omega : 6 < 2 ^ 31)
  have h12 := vp_in_nI hx (by omega : 12 < 2 ^ 31)
  have c1 := nI_clamp (n := p) (by omega)
  have c2 := nI_clamp (n := x) (by omega)
  have e1 : cur I (24 + p) = I 268 p := cur_at (l_k p hp) (by omega)
  have e2 : cur I (30 + p) = I 269 p := cur_at (l_v p hp) (by omega)
  have e3 : cur I x = I 266 x := cur_at (l_w x hx) (by omega)
  refine t_X11_letterOf d _ _ _ _ ?_
  unfold ft at hK
  rw [e1, e2, e3] at hK
  rw [c1, c2]
  rcases (by omega : c = 0 ∨ c = 1 ∨ c = 2 ∨ c = 3 ∨ c = 4 ∨ c = 5) with rfl | rfl | rfl | rfl | rfl | rfl
  · exact ⟨fun _ => hK, fun z => absurd z (by decide), fun z => absurd z (by decide), fun z => absurd z (by decide), fun z => absurd z (by decide), fun z => absurd z (by decide)⟩
  · exact ⟨fun z => absurd z (by decide), fun _ => ⟨h6, hK⟩, fun z => absurd z (by decide), fun z => absurd z (by decide), fun z => absurd z (by decide), fun z => absurd z (by decide)⟩
  · exact ⟨fun z => absurd z (by decide), fun z => absurd z (by decide), fun _ => ⟨h6, hK⟩, fun z => absurd z (by decide), fun z => absurd z (by decide), fun z => absurd z (by decide)⟩
  · exact ⟨fun z => absurd z (by decide), fun z => absurd z (by decide), fun z => absurd z (by decide), fun _ => hK, fun z => absurd z (by decide), fun z => absurd z (by decide)⟩
  · exact ⟨fun z => absurd z (by decide), fun z => absurd z (by decide), fun z => absurd z (by decide), fun z => absurd z (by decide), fun _ => ⟨h12, hK⟩, fun z => absurd z (by decide)⟩
  · exact ⟨fun z => absurd z (by decide), fun z => absurd z (by decide), fun z => absurd z (by decide), fun z => absurd z (by decide), fun z => absurd z (by decide), fun _ => hK⟩
/-- the model's stack: the newest on top -/
def St (s : List Bool) (J : Nat → Nat → Int32) : Prop := ∀ k, k < s.length → J 281 (s.length - 1 - k) = if s.getD k false then 1 else 0
theorem St_push {s : List Bool} {J : Nat → Nat → Int32} (h : St s J) (b : Bool) : St (b :: s) (u2 J 281 s.length (if b then 1 else 0)) := by
  intro k hk
  rw [List.length_cons] at hk ⊢
  cases k with
  | zero =>
    rw [show s.length + 1 - 1 - 0 = s.length by omega, u2_same]
    simp
  | succ k =>
    rw [u2_n2 _ _ (by omega), show s.length + 1 - 1 - (k + 1) = s.length - 1 - k by omega, h k (by omega)]
    simp
theorem St_top {b b' : Bool} {s : List Bool} {J : Nat → Nat → Int32} (h : St (b :: s) J) : St (b' :: s) (u2 J 281 s.length (if b' then 1 else 0)) := by
  intro k hk
  rw [List.length_cons] at hk ⊢
  cases k with
  | zero =>
    rw [show s.length + 1 - 1 - 0 = s.length by omega, u2_same]
    simp
  | succ k =>
    rw [u2_n2 _ _ (by omega)]
    have := h (k + 1) (by simp; omega)
    rw [List.length_cons] at this
    rw [this]
    simp
theorem St_pop {b : Bool} {s : List Bool} {J : Nat → Nat → Int32} (h : St (b :: s) J) : St s J ∧ J 281 s.length = if b then 1 else 0 := by
  refine ⟨fun k hk => ?_, ?_⟩
  · have := h (k + 1) (by simp; omega)
    rw [List.length_cons, show s.length + 1 - 1 - (k + 1) = s.length - 1 - k by omega] at this
    rw [this]
    simp
  · have := h 0 (by simp)
    rw [List.length_cons, show s.length + 1 - 1 - 0 = s.length by omega] at this
    rw [this]
    simp
theorem code_dec : ∀ c, c < 1803 → 3 ≤ c → ¬ nI c < 3 ∧ (nI c - 3) / 300 = nI ((c - 3) / 300) ∧ (nI c - 3) / 100 - (nI c - 3) / 100 / 3 * 3 = nI ((c - 3) / 100 % 3) ∧ nI c - 3 - (nI c - 3) / 100 * 100 = nI ((c - 3) % 100) := by decide +kernel
abbrev FrS (I J : Nat → Nat → Int32) : Prop := ∀ b j, b ≠ 281 → J b j = I b j
set_option maxHeartbeats 8000000 in
theorem tr_tok (d : Nat) {hh : zH} {p x c bg len : Nat} (hp : p < 6) (hx : x < 12) (hc : c < 61) (hb : I 278 c = nI bg) (hl : I 279 c = nI len) (hbl : bg + len ≤ 800) (K : KI) : ∀ (l : List Nat) (s s' : List Bool) (i : Nat) (J : Nat → Nat → Int32) (m : Nat), (∀ c ∈ l, c < 1803) → dep l s.length = some m → ev (ft (cur I) p x (I 265 9)) l s = some s' → s.length ≤ 30 → i + l.length = bg + len → (∀ j, j < l.length → I 280 (i + j) = nI (l.getD j 0)) → FrS I J → St s J → (∀ J', FrS I J' → St s' J' → zSI C hh K Y_X11_isTrue (d + 2) 11 [(0, .ref 265), (1, .int (nI p)), (2, .int (nI x)), (3, .int (nI c)), (4, .int (nI s'.length)), (5, .int (nI (bg + len)))] [] J' L M) → zSI C hh K Y_X11_isTrue (d + 2) 11 [(0, .ref 265), (1, .int (nI p)), (2, .int (nI x)), (3, .int (nI c)), (4, .int (nI s.length)), (5, .int (nI i))] [] J L M := by
  have hc61 := vp_in_nI hc (by omega : 61 < 2 ^ 31)
  have hcc := nI_clamp (n := c) (by omega)
  intro l
  induction l with
  | nil =>
    intro s s' i J m _ _ he _ hi _ hF hS hK
    have : s = s' := by simpa [ev] using he
    subst this
    have : i = bg + len := by simpa using hi
    subst this
    exact hK J hF hS
  | cons t l ih =>
    intro s s' i J m hcs hdp he hs hi hst hF hS hK
    have ht0 : t < 1803 := hcs t (by simp)
    have hcl : ∀ c ∈ l, c < 1803 := fun x hx => hcs x (by simp [hx])
    rw [List.length_cons] at hi
    have hst0 : I 280 i = nI t := by
      have := hst 0 (by simp)
      simpa using this
    have hst1 : ∀ j, j < l.length → I 280 (i + 1 + j) = nI (l.getD j 0) := fun j hj => by
      have := hst (j + 1) (by simp; omega)
      rw [show i + 1 + j = i + (j + 1) by omega, this]
      simp
    refine t_X11_isTrue_11 d _ _ _ _ _ _ ⟨hc61, hc61, ?_⟩
    rw [hcc, hF 278 c (by omega), hF 279 c (by omega), hb, hl, nI_add]
    refine br_f (fun z => by have := (nI_le_iff (a := bg + len) (b := i) (by omega) (by omega)).mp z; omega) ⟨vp_in_nI (show i < 800 by omega) (by omega), ?_⟩
    rw [nI_clamp (show i < 2 ^ 31 by omega), hF 280 i (by omega), hst0, nI_1]
    unfold dep at hdp
    unfold ev at he
    have ecu : cur J = cur I := cur_eq fun k hk => hF _ _ (by have := loc_rng k hk; omega)
    have e9 : J 265 9 = I 265 9 := hF _ _ (by omega)
    have hsl : vp_in (nI s.length) 110 := vp_in_nI (by omega) (by omega)
    have hscl := nI_clamp (n := s.length) (by omega)
    by_cases h3 : 3 ≤ t
    · rw [if_pos h3] at hdp he
      obtain ⟨q0, q1, q2, q3⟩ := code_dec t ht0 h3
      have h30 : s.length < 30 := by
        apply Classical.byContradiction
        intro q
        rw [if_neg q] at hdp
        exact absurd hdp (by simp)
      rw [if_pos h30] at hdp
      have fin : ∀ b : Bool, tkT (ft (cur I) p x (I 265 9)) t = b → zSI C hh K Y_X11_isTrue (d + 2) 11 [(0, .ref 265), (1, .int (nI p)), (2, .int (nI x)), (3, .int (nI c)), (4, .int (nI (s.length + 1))), (5, .int (nI (i + 1)))] [] (u2 J 281 s.length (if b then 1 else 0)) L M := by
        intro b hbt
        rw [hbt] at he
        exact ih (b :: s) s' (i + 1) _ m hcl (by simpa using hdp) he (by simp; omega) (by omega) hst1 (fun b j hb => by rw [u2_n1 _ _ hb]; exact hF b j hb) (St_push hS b) hK
      refine br_f q0 ?_
      rw [q1, q2, q3]
      refine sp_letter d hp hx (by omega) _ ?_
      rw [ecu, e9, hscl, nI_1]
      unfold tkT at fin
      have r3 : (t - 3) / 100 % 3 < 3 := Nat.mod_lt _ (by omega)
      by_cases r0 : (t - 3) / 100 % 3 = 0
      · simp only [if_pos r0] at fin
        rw [r0]
        refine ⟨fun z => absurd rfl z, fun _ => ⟨fun z => ⟨hsl, fin false (decide_eq_false (le_nlt z))⟩, fun z => ⟨hsl, fin true (decide_eq_true (nle_lt z))⟩⟩⟩
      · by_cases r1 : (t - 3) / 100 % 3 = 1
        · simp only [if_neg r0, if_pos r1] at fin
          rw [r1]
          refine ⟨fun _ => ⟨fun z => absurd rfl z, fun _ => ⟨fun z => ⟨hsl, fin false (decide_eq_false z)⟩, fun z => ⟨hsl, fin true (decide_eq_true z)⟩⟩⟩, fun z => absurd z (by decide)⟩
        · simp only [if_neg r0, if_neg r1] at fin
          rw [show (t - 3) / 100 % 3 = 2 by omega]
          refine ⟨fun _ => ⟨fun _ => ⟨fun z => ⟨hsl, fin false (decide_eq_false (le_nlt z))⟩, fun z => ⟨hsl, fin true (decide_eq_true (nle_lt z))⟩⟩, fun z => absurd z (by decide)⟩, fun z => absurd z (by decide)⟩
    · rw [if_neg h3] at hdp he
      refine br_t ((nI_lt_iff (b := 3) (by omega) (by omega)).mpr (by omega)) ?_
      cases s with
      | nil =>
        by_cases h0 : t = 0
        · rw [if_pos h0] at hdp; exact absurd hdp (by simp)
        · rw [if_neg h0] at hdp; exact absurd hdp (by simp)
      | cons b r =>
        have hb1 := (St_pop hS).2
        rw [List.length_cons] at hs
        have en : nI (b :: r).length - 1 = nI r.length := by rw [List.length_cons, nI_sub1 (by omega), Nat.add_sub_cancel]
        have en' : nI (b :: r).length + -1 = nI r.length := by rw [← en, Int32.sub_eq_add_neg]
        have hrl : vp_in (nI r.length) 110 := vp_in_nI (by omega) (by omega)
        have hrcl := nI_clamp (n := r.length) (by omega)
        by_cases h0 : t = 0
        · rw [if_pos h0] at hdp
          subst h0
          simp only [if_true] at he
          refine br_t' (by decide) ?_
          rw [en, hrcl, hb1]
          have fin : zSI C hh K Y_X11_isTrue (d + 2) 11 [(0, .ref 265), (1, .int (nI p)), (2, .int (nI x)), (3, .int (nI c)), (4, .int (nI (b :: r).length)), (5, .int (nI (i + 1)))] [] (u2 J 281 r.length (if !b then 1 else 0)) L M := ih ((!b) :: r) s' (i + 1) _ m hcl (by simpa using hdp) he (by simpa using hs) (by omega) hst1 (fun b j hb => by rw [u2_n1 _ _ hb]; exact hF b j hb) (St_top hS) hK
          cases b
          · exact ⟨hrl, fun z => absurd rfl z, fun _ => ⟨hrl, fin⟩⟩
          · exact ⟨hrl, fun _ => ⟨hrl, fin⟩, fun z => absurd z (by decide)⟩
        · rw [if_neg h0] at hdp
          cases r with
          | nil => exact absurd hdp (by simp)
          | cons a q =>
            simp only [h0, if_false] at he
            rw [List.length_cons] at hs
            have ha1 := (St_pop (St_pop hS).1).2
            have em : nI (a :: q).length - 1 = nI q.length := by rw [List.length_cons, nI_sub1 (by omega), Nat.add_sub_cancel]
            have hql : vp_in (nI q.length) 110 := vp_in_nI (by omega) (by omega)
            have hqcl := nI_clamp (n := q.length) (by omega)
            have fin : ∀ v : Bool, ev (ft (cur I) p x (I 265 9)) l (v :: q) = some s' → zSI C hh K Y_X11_isTrue (d + 2) 11 [(0, .ref 265), (1, .int (nI p)), (2, .int (nI x)), (3, .int (nI c)), (4, .int (nI (a :: q).length)), (5, .int (nI (i + 1)))] [] (u2 J 281 q.length (if v then 1 else 0)) L M := fun v hv => ih (v :: q) s' (i + 1) _ m hcl (by simpa using hdp) hv (by simp; omega) (by omega) hst1 (fun b j hb => by rw [u2_n1 _ _ hb]; exact hF b j hb) (St_top (St_pop hS).1) hK
            rcases (by omega : t = 1 ∨ t = 2) with rfl | rfl
            · simp only [if_true] at he
              refine br_f' (by decide) (br_t' (by decide) ?_)
              rw [en', em, hqcl, hrcl, ha1, hb1]
              cases a <;> cases b
              · exact ⟨hql, fun _ => ⟨hql, fin _ he⟩, fun z => absurd rfl z⟩
              · exact ⟨hql, fun _ => ⟨hql, fin _ he⟩, fun z => absurd rfl z⟩
              · exact ⟨hql, fun z => absurd z (by decide), fun _ => ⟨hrl, fun _ => ⟨hql, fin _ he⟩, fun z => absurd rfl z⟩⟩
              · exact ⟨hql, fun z => absurd z (by decide), fun _ => ⟨hrl, fun z => absurd z (by decide), fun _ => ⟨hql, fin _ he⟩⟩⟩
            · simp only [show ¬ (2 : Nat) = 1 by decide, if_false] at he
              refine br_f' (by decide) (br_f' (by decide) ?_)
              rw [en', em, hqcl, hrcl, ha1, hb1]
              cases a <;> cases b
              · exact ⟨hql, fun z => absurd rfl z, fun _ => ⟨hrl, fun _ => ⟨hql, fin _ he⟩, fun z => absurd rfl z⟩⟩
              · exact ⟨hql, fun z => absurd rfl z, fun _ => ⟨hrl, fun z => absurd z (by decide), fun _ => ⟨hql, fin _ he⟩⟩⟩
              · exact ⟨hql, fun _ => ⟨hql, fin _ he⟩, fun z => absurd z (by decide)⟩
              · exact ⟨hql, fun _ => ⟨hql, fin _ he⟩, fun z => absurd z (by decide)⟩
end SM
