/-! THE SUM, THE KEEP, WHAT TEMPTS: the model's -/
theorem sw7 {k0 : Nat} (h : k0 ≤ 6) {A0 A1 A2 A3 A4 A5 A6 : Prop} (b1 : k0 = 1 → A1) (b2 : k0 = 2 → A2) (b3 : k0 = 3 → A3) (b4 : k0 = 4 → A4) (b5 : k0 = 5 → A5) (b6 : k0 = 6 → A6) (b0 : k0 = 0 → A0) : (nI k0 = 1 → A1) ∧ (nI k0 = 2 → A2) ∧ (nI k0 = 3 → A3) ∧ (nI k0 = 4 → A4) ∧ (nI k0 = 5 → A5) ∧ (nI k0 = 6 → A6) ∧ (((nI k0).toInt < 1 ∨ 6 < (nI k0).toInt) → A0) :=
  ⟨fun z => b1 (nI_inj (b := 1) (by omega) (by omega) z), fun z => b2 (nI_inj (b := 2) (by omega) (by omega) z), fun z => b3 (nI_inj (b := 3) (by omega) (by omega) z), fun z => b4 (nI_inj (b := 4) (by omega) (by omega) z), fun z => b5 (nI_inj (b := 5) (by omega) (by omega) z), fun z => b6 (nI_inj (b := 6) (by omega) (by omega) z), fun z => b0 (by rw [nI_toInt (by omega)] at z; omega)⟩
theorem fold_sh (f : Nat → Int32) : ∀ (cs : List zCl) (a : Int32), cs.foldl (fun s q => s + clV f q) a = a + swV f cs := by
  intro cs
  induction cs with
  | nil => intro a; show a = a + 0; rw [Int32.add_zero]
  | cons q cs ih =>
    intro a
    unfold swV
    rw [List.foldl_cons, List.foldl_cons, ih, ih, Int32.zero_add, Int32.add_assoc]
theorem swV_app (f : Nat → Int32) (cs : List zCl) (q : zCl) : swV f (cs ++ [q]) = swV f cs + clV f q := by
  unfold swV
  rw [List.foldl_append]
  rfl
theorem kpC_app (cs : List zCl) (q : zCl) : kpC (cs ++ [q]) = if q.1 = 2 then q.2.1 else kpC cs := by
  unfold kpC
  rw [List.foldl_append]
  rfl
theorem take_s {α : Type} (l : List α) (z : α) {y : Nat} (h : y < l.length) : l.take (y + 1) = l.take y ++ [l.getD y z] := by
  rw [List.take_add_one, List.getElem?_eq_getElem h, List.getD_eq_getElem?_getD, List.getElem?_eq_getElem h]
  rfl
/-- the house h stands, its clauses are cs -/
def Hs (J : Nat → Nat → Int32) (h : Int32) (cs : List zCl) : Prop := (h = -1 ∧ cs = [] ∧ J 1 0 = 3 ∧ J 1 2 = 0) ∨ ∃ i cd, i < 6 ∧ cd ≤ 600 ∧ h = nI i ∧ HRel J cd i cs
theorem Hs_c {J J' : Nat → Nat → Int32} {h : Int32} {cs : List zCl} (h1 : ∀ j, J' 1 j = J 1 j) (hh : ∀ a j, (151 ≤ a ∧ a < 163) ∨ (275 ≤ a ∧ a ≤ 280) → J' a j = J a j) (q : Hs J h cs) : Hs J' h cs := by
  rcases q with ⟨a, b, c, e⟩ | ⟨i, cd, hi, hcd, e, q1, q2, q3, q4, q5, q6, q7, q8⟩
  · exact Or.inl ⟨a, b, by rw [h1]; exact c, by rw [h1]; exact e⟩
  · refine Or.inr ⟨i, cd, hi, hcd, e, q1, q2, ?_, q4, ?_, fun j hj => ?_, ?_, fun j hj => ?_⟩
    · rw [hh _ _ (by omega)]; exact q3
    · rw [hh _ _ (by omega)]; exact q5
    · rw [hh _ _ (by omega)]; exact q6 j hj
    · rw [hh _ _ (by omega)]; exact q7
    · obtain ⟨r1, r2, bg, r3, r4, r5, r6⟩ := q8 j hj
      refine ⟨?_, ?_, bg, ?_, ?_, r5, fun t ht => ?_⟩
      · rw [hh _ _ (by omega)]; exact r1
      · rw [hh _ _ (by omega)]; exact r2
      · rw [hh _ _ (by omega)]; exact r3
      · rw [hh _ _ (by omega)]; exact r4
      · rw [hh _ _ (by omega)]; exact r6 t ht
theorem Hs_rI {J : Nat → Nat → Int32} {h : Int32} {cs : List zCl} : Hs (rI J) h cs ↔ Hs J h cs := by
  have e : ∀ a j, a = 1 ∨ (151 ≤ a ∧ a < 163) ∨ (275 ≤ a ∧ a ≤ 280) → rI J a j = J a j := fun a j q => rI_at (by unfold Ra; omega)
  exact ⟨fun q => Hs_c (fun j => (e 1 j (by omega)).symm) (fun a j x => (e a j (by omega)).symm) q, fun q => Hs_c (fun j => e 1 j (by omega)) (fun a j x => e a j (by omega)) q⟩
theorem Hs_fr {J J' : Nat → Nat → Int32} {h : Int32} {cs : List zCl} (e : rI J' = rI J) (q : Hs J h cs) : Hs J' h cs := Hs_rI.mp (by rw [e]; exact Hs_rI.mpr q)
/-- some clauses there are -/
theorem Inv.hs {I : Nat → Nat → Int32} {L : Nat → Nat → Int64} {M : Nat → Nat → Option Nat} (h : Inv I L M) : ∃ cs, Hs I (cur I 139) cs := by
  obtain ⟨hW, -, -, -, ⟨hc, cd, a1, a2, a3, a4, a5, a6, a7, a8⟩, -⟩ := h
  rcases hW.2.2 with e | ⟨i, hi, e⟩
  · rw [rI_at (by unfold Ra; omega)] at a6 a7
    exact ⟨[], Or.inl ⟨e, rfl, a6, a7⟩⟩
  · rw [rI_at (by unfold Ra; omega)] at a4
    rw [a4, cn_nI (by omega)] at hi
    obtain ⟨cs, hcs⟩ := a8 i hi
    exact ⟨cs, Hs_rI.mp (Or.inr ⟨i, cd, by omega, by omega, e, hcs⟩)⟩
def sumV (w : Nat → Int32) (cs : List zCl) (p x : Nat) (n : Int32) : Int32 := 5 + 2 * w x + swV (ft w p x n) cs
def lovV (w : Nat → Int32) (s : Int32) (p x : Nat) : Int32 := if x % 2 = 0 then s + w (30 + p) else s
def thiV (w : Nat → Int32) (s : Int32) (p x : Nat) : Int32 := if w (30 + p) ≤ w x then s else 0
def temV (w : Nat → Int32) (cs : List zCl) (p x : Nat) (n : Int32) : Int32 :=
  if w (24 + p) = 1 then lovV w (sumV w cs p x n) p x else if w (24 + p) = 2 then sumV w cs p x n / 2 else if w (24 + p) = 3 then thiV w (sumV w cs p x n) p x else if w (24 + p) = 4 then (if zhas (w (42 + p)) (nI x) then lovV w (sumV w cs p x n) p x - 10 else lovV w (sumV w cs p x n) p x) else if w (24 + p) = 5 then sumV w cs p x n / 2 + (n - n / 5 * 5) else if w (24 + p) = 6 then thiV w (sumV w cs p x n) p x + w (54 + (4 * p + x % 4)) else sumV w cs p x n
theorem x2 : ∀ x, x < 12 → (nI x - nI x / 2 * 2 = 0 ↔ x % 2 = 0) := by decide +kernel
theorem x4 : ∀ x, x < 12 → nI x - nI x / 4 * 4 = nI (x % 4) := by decide +kernel
section SM
variable {C : zC} {I I' : Nat → Nat → Int32} {L L' : Nat → Nat → Int64} {M : Nat → Nat → Option Nat}
theorem sp_isTrue (d : Nat) {p x c bg : Nat} {l : List Nat} (hp : p < 6) (hx : x < 12) (hc : c < 61) (hb : I 278 c = nI bg) (hl : I 279 c = nI l.length) (hbl : bg + l.length ≤ 800) (hcs : ∀ c ∈ l, c < 1803) (hd : dep l 0 = some 1) (hst : ∀ j, j < l.length → I 280 (bg + j) = nI (l.getD j 0)) (K : KI) (hK : ∀ J, FrS I J → K (if ev (ft (cur I) p x (I 265 9)) l [] = some [true] then 1 else 0) J L M) : zCI C Y_X11_isTrue (d + 2) [.ref 265, .int (nI p), .int (nI x), .int (nI c)] (zmk I L M) K := by
  have hc61 := vp_in_nI hc (by omega : 61 < 2 ^ 31)
  have hcc := nI_clamp (n := c) (by omega)
  obtain ⟨s', e1, e2⟩ := ev_dep (ft (cur I) p x (I 265 9)) l [] 1 hd
  obtain ⟨b, rfl⟩ : ∃ b, s' = [b] := by
    match s', e2 with
    | [b], _ => exact ⟨b, rfl⟩
  refine t_X11_isTrue d _ _ _ _ ⟨hc61, ?_⟩
  rw [hcc, hb]
  refine tr_tok d hp hx hc hb hl hbl K l [] [b] bg I 1 hcs hd e1 (by simp) rfl hst (fun _ _ _ => rfl) (fun k hk => absurd hk (by simp)) fun J hF hS => ?_
  refine t_X11_isTrue_11 d _ _ _ _ _ _ ⟨hc61, hc61, ?_⟩
  rw [hcc, hF 278 c (by omega), hF 279 c (by omega), hb, hl, nI_add]
  have h0 : J 281 0 = if b then 1 else 0 := (St_pop hS).2
  have hk := hK J hF
  rw [e1] at hk
  refine br_t (Int32.le_refl _) ?_
  rw [h0]
  cases b
  · rw [if_neg (by decide)] at hk
    exact ⟨Or.inl rfl, hk⟩
  · rw [if_pos rfl] at hk
    exact ⟨Or.inr rfl, hk⟩
theorem via {A B : Prop} (f : A → B) (a : A) : B := f a
theorem nI_10 {g k : Nat} : (10 : Int32) * nI g + nI k = nI (10 * g + k) := by rw [show (10 : Int32) = nI 10 from rfl, pk_mul, nI_add]
theorem m1_ne : ∀ i, i < 6 → ¬ nI i = -1 := by decide +kernel
theorem sp_sum (d : Nat) {p x : Nat} (hp : p < 6) (hx : x < 12) {cs : List zCl} (hH : Hs I (I 265 17) cs) (K : KI) (hK : ∀ J, FrS I J → K (sumV (cur I) cs p x (I 265 9)) J L M) : zCI C Y_X11_sum (d + 3) [.ref 265, .int (nI p), .int (nI x)] (zmk I L M) K := by
  have h12 := vp_in_nI hx (by omega : 12 < 2 ^ 31)
  have e3 : cur I x = I 266 x := cur_at (l_w x hx) (by omega)
  refine t_X11_sum d _ _ _ ⟨h12, ?_⟩
  rw [nI_clamp (by omega), ← e3]
  rcases hH with ⟨a, rfl, -, -⟩ | ⟨i, cd, hi, hcd, e, q1, q2, -, -, -, -, q7, q8⟩
  · refine t_X11_sum_14 d _ _ _ _ _ (br_t a ?_)
    have := hK I (fun _ _ _ => rfl)
    unfold sumV swV at this
    rw [List.foldl_nil, Int32.add_zero] at this
    exact this
  · refine via (fun z => ?_) (count_st (P := fun y J => zSI C (zmk I L M) K Y_X11_sum (d + 3) 14 [(0, .ref 265), (1, .int (nI p)), (2, .int (nI x)), (3, .int (5 + 2 * cur I x + swV (ft (cur I) p x (I 265 9)) (cs.take y))), (4, .int (nI y))] [] J L M) (J := fun y J => FrS I J) cs.length ?_ ?_ 0 I (Nat.zero_le _) (fun _ _ _ => rfl))
    · try dsimp only at z
      rw [List.take_zero] at z
      have e0 : swV (ft (cur I) p x (I 265 9)) [] = 0 := rfl
      rw [e0, Int32.add_zero] at z
      exact z
    · intro J h
      rw [List.take_length]
      refine t_X11_sum_14 d _ _ _ _ _ (br_f (by rw [h _ _ (by omega), e]; exact m1_ne i hi) ?_)
      rw [h 265 17 (by omega), e, h 275 _ (by omega), nI_clamp (by omega), q7]
      exact ⟨vp_in_nI hi (by omega), br_t (Int32.le_refl _) (hK J h)⟩
    · intro y J hy h ih
      obtain ⟨r1, r2, bg, r3, r4, r5, r6⟩ := q8 y hy
      have hmem : cs.getD y (0, 0, []) ∈ cs := by
        rw [List.getD_eq_getElem?_getD, List.getElem?_eq_getElem hy]
        exact List.getElem_mem hy
      obtain ⟨k1, k2, k3, k4, k5⟩ := q1 _ hmem
      have hc61 : 10 * i + y < 61 := by omega
      have hin61 := vp_in_nI hc61 (by omega : 61 < 2 ^ 31)
      rw [take_s cs (0, 0, []) hy, swV_app] at ih
      generalize cs.getD y (0, 0, []) = q at *
      refine t_X11_sum_14 d _ _ _ _ _ (br_f (by rw [h _ _ (by omega), e]; exact m1_ne i hi) ?_)
      rw [h 265 17 (by omega), e, h 275 _ (by omega), nI_clamp (by omega), q7]
      refine ⟨vp_in_nI hi (by omega), br_f (fun z => by have := (nI_le_iff (a := cs.length) (b := y) (by omega) (by omega)).mp z; omega) ?_⟩
      rw [nI_10, nI_clamp (by omega), h 276 _ (by omega), r1, nI_1]
      refine ⟨hin61, fun z => ?_, fun z => ?_⟩
      · have : ¬ q.1 < 2 := fun z2 => by have := (nI_le_iff (a := 2) (b := q.1) (by omega) (by omega)).mp z; omega
        have ec : clV (ft (cur I) p x (I 265 9)) q = 0 := by unfold clV; rw [if_neg (fun z2 => this z2.1)]
        rw [ec, Int32.add_zero] at ih
        exact ih J h
      · have hq2 : q.1 < 2 := by
          apply Classical.byContradiction
          intro z2
          exact z ((nI_le_iff (a := 2) (b := q.1) (by omega) (by omega)).mpr (by omega))
        have ecu : cur J = cur I := cur_eq fun k hk => h _ _ (by have := loc_rng k hk; omega)
        have e9 : J 265 9 = I 265 9 := h _ _ (by omega)
        refine sp_isTrue d hp hx hc61 (by rw [h _ _ (by omega)]; exact r3) (by rw [h _ _ (by omega)]; exact r4) (by omega) k5 (k4 hq2) (fun t ht => by rw [h _ _ (by omega)]; exact r6 t ht) _ fun J' hJ' => ?_
        have h' : FrS I J' := fun b j hb => (hJ' b j hb).trans (h b j hb)
        rw [ecu, e9]
        by_cases ht : ev (ft (cur I) p x (I 265 9)) q.2.2 [] = some [true]
        · rw [if_pos ht]
          have ec : clV (ft (cur I) p x (I 265 9)) q = if q.1 = 0 then nI q.2.1 else -nI q.2.1 := by unfold clV; rw [if_pos ⟨hq2, ht⟩]
          rw [ec] at ih
          refine br_f (by decide) ⟨hin61, ?_⟩
          rw [h' 276 _ (by omega), r1, h' 277 _ (by omega), r2]
          by_cases h0 : q.1 = 0
          · rw [if_pos h0, ← Int32.add_assoc] at ih
            rw [h0]
            exact ⟨fun z => absurd rfl z, fun _ => ⟨hin61, ih J' h'⟩⟩
          · rw [if_neg h0, ← Int32.add_assoc] at ih
            rw [show q.1 = 1 by omega]
            exact ⟨fun _ => ⟨hin61, ih J' h'⟩, fun z => absurd z (by decide)⟩
        · rw [if_neg ht]
          have ec : clV (ft (cur I) p x (I 265 9)) q = 0 := by unfold clV; rw [if_neg (fun z2 => ht z2.2)]
          rw [ec, Int32.add_zero] at ih
          exact br_t rfl (ih J' h')
theorem sp_kp (d : Nat) {cs : List zCl} (hH : Hs I (I 265 17) cs) (K : KI) (hK : K (nI (kpC cs)) I L M) : zCI C Y_X11_keepOf (d + 1) [.ref 265] (zmk I L M) K := by
  refine t_X11_keepOf d _ ?_
  rcases hH with ⟨a, rfl, -, -⟩ | ⟨i, cd, hi, hcd, e, q1, q2, -, -, -, -, q7, q8⟩
  · exact t_X11_keepOf_4 d _ _ _ (br_t a hK)
  · refine via (fun z => ?_) (count_up (P := fun y => zSI C (zmk I L M) K Y_X11_keepOf (d + 1) 4 [(0, .ref 265), (1, .int (nI (kpC (cs.take y)))), (2, .int (nI y))] [] I L M) cs.length ?_ ?_ 0 (Nat.zero_le _))
    · exact z
    · rw [List.take_length]
      refine t_X11_keepOf_4 d _ _ _ (br_f (by rw [e]; exact m1_ne i hi) ?_)
      rw [e, nI_clamp (by omega), q7]
      exact ⟨vp_in_nI hi (by omega), br_t (Int32.le_refl _) hK⟩
    · intro y hy ih
      obtain ⟨r1, r2, -⟩ := q8 y hy
      have hmem : cs.getD y (0, 0, []) ∈ cs := by
        rw [List.getD_eq_getElem?_getD, List.getElem?_eq_getElem hy]
        exact List.getElem_mem hy
      obtain ⟨k1, k2, -⟩ := q1 _ hmem
      have hin61 := vp_in_nI (show 10 * i + y < 61 by omega) (by omega : 61 < 2 ^ 31)
      rw [take_s cs (0, 0, []) hy, kpC_app] at ih
      generalize cs.getD y (0, 0, []) = q at *
      refine t_X11_keepOf_4 d _ _ _ (br_f (by rw [e]; exact m1_ne i hi) ?_)
      rw [e, nI_clamp (by omega), q7]
      refine ⟨vp_in_nI hi (by omega), br_f (fun z => by have := (nI_le_iff (a := cs.length) (b := y) (by omega) (by omega)).mp z; omega) ?_⟩
      rw [nI_10, nI_clamp (by omega), r1, r2, nI_1]
      refine ⟨hin61, fun z => ?_, fun z => ?_⟩
      · rw [if_neg (fun z2 => z (by rw [z2]; rfl))] at ih
        exact ih
      · rw [if_pos (nI_inj (b := 2) (by omega) (by omega) z)] at ih
        exact ⟨hin61, ih⟩
theorem sp_temM (d : Nat) {p x k0 : Nat} (hp : p < 6) (hx : x < 12) {cs : List zCl} (hH : Hs I (I 265 17) cs) (hk : k0 ≤ 6) (ek : cur I (24 + p) = nI k0) (K : KI) (hK : ∀ J, FrS I J → K (temV (cur I) cs p x (I 265 9)) J L M) : zCI C Y_X11_tempts (d + 4) [.ref 265, .int (nI p), .int (nI x)] (zmk I L M) K := by
  have h6 := vp_in_nI hp (by omega : 6 < 2 ^ 31)
  have h12 := vp_in_nI hx (by omega : 12 < 2 ^ 31)
  have c1 := nI_clamp (n := p) (by omega)
  have c2 := nI_clamp (n := x) (by omega)
  refine t_X11_tempts d _ _ _ (sp_sum d hp hx hH _ fun J hJ => ?_)
  have f : ∀ b j, b ≠ 281 → J b j = I b j := hJ
  have e1 : cur I (24 + p) = J 268 p := by rw [f _ _ (by omega)]; exact cur_at (l_k p hp) (by omega)
  have e2 : cur I (30 + p) = J 269 p := by rw [f _ _ (by omega)]; exact cur_at (l_v p hp) (by omega)
  have e3 : cur I x = J 266 x := by rw [f _ _ (by omega)]; exact cur_at (l_w x hx) (by omega)
  have e4 : cur I (42 + p) = J 271 p := by rw [f _ _ (by omega)]; exact cur_at (l_l p hp) (by omega)
  have e5 : cur I (54 + (4 * p + x % 4)) = J 273 (4 * p + x % 4) := by rw [f _ _ (by omega)]; exact cur_at (l_r _ (by omega)) (by omega)
  have e9 : I 265 9 = J 265 9 := (f _ _ (by omega)).symm
  have hk' := hK J hJ
  unfold temV at hk'
  generalize sumV (cur I) cs p x (I 265 9) = s at hk' ⊢
  have s47 : zSI C (zmk I L M) K Y_X11_tempts (d + 4) 47 [(0, .ref 265), (1, .int (nI p)), (2, .int (nI x)), (3, .int s), (4, .int (lovV (cur I) s p x))] [.int (thiV (cur I) s p x)] J L M := by
    refine t_X11_tempts_47 d _ _ _ _ _ _ ⟨h6, ?_⟩
    rw [c1, ← e1, ek, x4 x hx, nI_4, nI_clamp (by omega), ← e4, ← e5, ← e9]
    rw [ek] at hk'
    refine sw7 hk ?_ ?_ ?_ ?_ ?_ ?_ ?_
    · rintro rfl
      rw [if_pos (by decide)] at hk'
      exact hk'
    · rintro rfl
      rw [if_neg (by decide), if_pos (by decide)] at hk'
      exact hk'
    · rintro rfl
      rw [if_neg (by decide), if_neg (by decide), if_pos (by decide)] at hk'
      exact hk'
    · rintro rfl
      rw [if_neg (by decide), if_neg (by decide), if_neg (by decide), if_pos (by decide)] at hk'
      refine ⟨h6, fun z => ?_, fun z => ?_⟩
      · rw [if_neg z] at hk'
        exact hk'
      · rw [if_pos z] at hk'
        exact hk'
    · rintro rfl
      rw [if_neg (by decide), if_neg (by decide), if_neg (by decide), if_neg (by decide), if_pos (by decide)] at hk'
      exact hk'
    · rintro rfl
      rw [if_neg (by decide), if_neg (by decide), if_neg (by decide), if_neg (by decide), if_neg (by decide), if_pos (by decide)] at hk'
      exact ⟨vp_in_nI (by omega) (by omega), hk'⟩
    · rintro rfl
      rw [if_neg (by decide), if_neg (by decide), if_neg (by decide), if_neg (by decide), if_neg (by decide), if_neg (by decide)] at hk'
      exact hk'
  have s25 : zSI C (zmk I L M) K Y_X11_tempts (d + 4) 25 [(0, .ref 265), (1, .int (nI p)), (2, .int (nI x)), (3, .int s)] [.int (lovV (cur I) s p x)] J L M := by
    refine t_X11_tempts_25 d _ _ _ _ _ ⟨h6, h12, ?_⟩
    rw [c1, c2, ← e2, ← e3]
    unfold thiV at s47
    refine ⟨fun z => ?_, fun z => ?_⟩
    · rw [if_pos z] at s47
      exact s47
    · rw [if_neg z] at s47
      exact s47
  rw [x2 x hx, c1, ← e2]
  unfold lovV at s25
  refine ⟨fun z => ?_, fun z => ?_⟩
  · rw [if_neg z] at s25
    exact s25
  · rw [if_pos z] at s25
    exact ⟨h6, s25⟩
end SM
