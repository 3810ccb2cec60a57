/-! THE LURE: the class's ranking -/
/-- a guest, as the Lure sees it: its own object g, the weights of the Inn b -/
def GP (I : Nat → Nat → Int32) (b g p : Nat) (w : Nat → Int32) : Prop := (∀ x, x < 12 → I (b + 1) x = w x) ∧ I g 0 = nI p ∧ I g 1 = w (24 + p) ∧ I g 2 = w (30 + p) ∧ I g 4 = w (42 + p) ∧ I g 5 = w (48 + p) ∧ ∀ k, k < 4 → I (g + 1) k = w (54 + (4 * p + k))
/-- how far the numbers go that a guest's temptations rest on -/
def GB (w : Nat → Int32) (p : Nat) : Prop := (∃ k, k ≤ 6 ∧ w (24 + p) = nI k) ∧ (∃ v, v ≤ 9 ∧ w (30 + p) = nI v) ∧ (∃ i, i ≤ 1 ∧ w (48 + p) = nI i) ∧ ∀ x, x < 12 → ∃ j, j ≤ 9 ∧ w x = nI j
theorem GP_c {I J : Nat → Nat → Int32} {b g p : Nat} {w : Nat → Int32} (h1 : ∀ j, J (b + 1) j = I (b + 1) j) (h2 : ∀ j, J g j = I g j) (h3 : ∀ j, J (g + 1) j = I (g + 1) j) (q : GP I b g p w) : GP J b g p w := by
  obtain ⟨q1, q2, q3, q4, q5, q6, q7⟩ := q
  exact ⟨fun x hx => (h1 x).trans (q1 x hx), (h2 _).trans q2, (h2 _).trans q3, (h2 _).trans q4, (h2 _).trans q5, (h2 _).trans q6, fun k hk => (h3 k).trans (q7 k hk)⟩
theorem ft_ok {w : Nat → Int32} {p x t : Nat} (hp : p < 6) (hx : x < 12) (hB : GB w p) (ht : t < 2 ^ 31) : Fok (ft w p x (nI t)) := by
  obtain ⟨⟨k, hk, ek⟩, ⟨v, hv, ev'⟩, -, hw⟩ := hB
  obtain ⟨j, hj, ej⟩ := hw x hx
  intro c hc
  unfold ft
  rcases (by omega : c = 0 ∨ c = 1 ∨ c = 2 ∨ c = 3 ∨ c = 4 ∨ c = 5) with rfl | rfl | rfl | rfl | rfl | rfl
  · exact ⟨p, by omega, rfl⟩
  · exact ⟨k, by omega, ek⟩
  · exact ⟨v, by omega, ev'⟩
  · exact ⟨x, by omega, rfl⟩
  · exact ⟨j, by omega, ej⟩
  · refine ⟨t % 10, by omega, ?_⟩
    exact pk_rem (d := 10) ht (by omega) (by omega)
theorem temV_mod (w : Nat → Int32) (cs : List zCl) (p x : Nat) {t : Nat} (ht : t < 2 ^ 31) : temV w cs p x (nI (t % 10)) = temV w cs p x (nI t) := by
  have e1 : ∀ t, t < 2 ^ 31 → nI t - nI t / 10 * 10 = nI (t % 10) := fun t h => pk_rem (d := 10) h (by omega) (by omega)
  have e2 : ∀ t, t < 2 ^ 31 → nI t - nI t / 5 * 5 = nI (t % 5) := fun t h => pk_rem (d := 5) h (by omega) (by omega)
  have ef : ft w p x (nI (t % 10)) = ft w p x (nI t) := by
    unfold ft
    rw [e1 t ht, e1 (t % 10) (by omega), Nat.mod_mod]
  unfold temV sumV
  rw [ef, e2 t ht, e2 (t % 10) (by omega), Nat.mod_mod_of_dvd t (by decide : 5 ∣ 10)]
/-- the Lure o is for g of the Inn b, whose house is h -/
def LU (I : Nat → Nat → Int32) (M : Nat → Nat → Option Nat) (o b g p : Nat) (w : Nat → Int32) (cs : List zCl) : Prop := zLu o ∧ zInn b ∧ zGu g ∧ M o 0 = some b ∧ M o 1 = some g ∧ (∃ h, M b 5 = some (hid h) ∧ Hs I h cs) ∧ GP I b g p w ∧ GB w p ∧ p < 6 ∧ o + 15 ≤ 253 ∧ 163 ≤ o ∧ b < 94 ∧ g < 138
theorem LU_c {I J : Nat → Nat → Int32} {M : Nat → Nat → Option Nat} {o b g p : Nat} {w : Nat → Int32} {cs : List zCl} (h : ∀ a j, a < 163 ∨ 253 ≤ a → J a j = I a j) (q : LU I M o b g p w cs) : LU J M o b g p w cs := by
  obtain ⟨q1, q2, q3, q4, q5, ⟨x, q6, q7⟩, q8, q9, q10, q11, q12, q13, q14⟩ := q
  exact ⟨q1, q2, q3, q4, q5, ⟨x, q6, Hs_c (fun j => h _ _ (by omega)) (fun a j ha => h _ _ (by omega)) q7⟩, GP_c (fun j => h _ _ (by omega)) (fun j => h _ _ (by omega)) (fun j => h _ _ (by omega)) q8, q9, q10, q11, q12, q13, q14⟩
section SM
variable {C : zC} {I I' : Nat → Nat → Int32} {L L' : Nat → Nat → Int64} {M : Nat → Nat → Option Nat}
theorem Hs.sw {h : Int32} {cs : List zCl} (q : Hs I h cs) : zHo (hid h) ∧ (∀ q ∈ cs, okC q) ∧ (cs.flatMap stpC).length ≤ 100 ∧ I (hid h) 0 = nI (kpC cs) ∧ I (hid h) 2 = nI (cs.flatMap stpC).length ∧ (∀ j, j < (cs.flatMap stpC).length → I (hid h + 1) j = (cs.flatMap stpC).getD j 0) ∧ kpC cs ≤ 99 ∧ hid h < 163 := by
  have hkp : ∀ l : List zCl, (∀ q ∈ l, okC q) → kpC l ≤ 99 := by
    intro l
    have : ∀ (l : List zCl) (k : Nat), k ≤ 99 → (∀ q ∈ l, okC q) → l.foldl (fun k q => if q.1 = 2 then q.2.1 else k) k ≤ 99 := by
      intro l
      induction l with
      | nil => intro k hk _; exact hk
      | cons q l ih =>
        intro k hk hq
        rw [List.foldl_cons]
        refine ih _ ?_ (fun z hz => hq z (List.mem_cons_of_mem _ hz))
        by_cases e : q.1 = 2
        · rw [if_pos e]; exact (hq q List.mem_cons_self).2.1
        · rw [if_neg e]; exact hk
    exact this l 3 (by omega)
  rcases q with ⟨rfl, rfl, a, b⟩ | ⟨i, cd, hi, hcd, rfl, q1, q2, q3, q4, q5, q6, q7, q8⟩
  · exact ⟨zHo_1, by simp, by simp, a, b, fun j hj => absurd hj (by simp), by decide, by decide⟩
  · have e : hid (nI i) = 151 + 2 * i := by
      unfold hid
      rw [if_neg (m1_ne i hi), cn_nI (by omega)]
    rw [e]
    exact ⟨hH i hi, q1, q4, q3, q5, q6, hkp cs q1, by omega⟩
theorem sp_learn (d : Nat) {o b g p x t : Nat} {w : Nat → Int32} {cs : List zCl} (h : LU I M o b g p w cs) (hx : x < 12) (K : (Nat → Nat → Int32) → (Nat → Nat → Int64) → (Nat → Nat → Option Nat) → Prop) (hK : ∀ J, (∀ a j, a ≠ o + 14 → J a j = I a j) → (∀ c, c < 6 → J (o + 14) c = ft w p x (nI t) c) → K J L M) : zCV C Y_X3_learn (d + 1) [.ref o, .int (nI x), .int (w x), .int (nI t)] (zmk I L M) K := by
  obtain ⟨h1, h2, h3, h4, h5, h6, ⟨-, g0, g1, g2, -⟩, -, hp, ho1, ho2, hb, hg⟩ := h
  refine t_X3_learn d _ _ _ h1 _ ⟨g, h5, h3, g, h5, h3, g, h5, h3, ?_⟩
  refine hK _ (fun a j ha => by simp (disch := omega) only [u2_same, u2_n1, u2_n2, not_true_eq_false, not_false_eq_true, false_implies, true_implies, forall_const, true_and, and_true, and_self, implies_true, ha]) (fun c hc => ?_)
  unfold ft
  rcases (by omega : c = 0 ∨ c = 1 ∨ c = 2 ∨ c = 3 ∨ c = 4 ∨ c = 5) with rfl | rfl | rfl | rfl | rfl | rfl
  all_goals simp (disch := omega) only [u2_same, u2_n1, u2_n2, not_true_eq_false, not_false_eq_true, false_implies, true_implies, forall_const, true_and, and_true, and_self, implies_true, g0, g1, g2]
  all_goals simp
theorem sp_tem (d : Nat) {o b g p x t : Nat} {w : Nat → Int32} {cs : List zCl} (h : LU I M o b g p w cs) (hx : x < 12) (ht : t < 2 ^ 31) (K : KI) (hK : ∀ J, (∀ a j, a ≠ o + 14 → J a j = I a j) → K (temV w cs p x (nI t)) J L M) : zCI C Y_X3_tempts (d + 2) [.ref o, .int (nI x), .int (nI t)] (zmk I L M) K := by
  have h0 := h
  obtain ⟨h1, h2, h3, h4, h5, ⟨hh, h6, h7⟩, ⟨gw, g0, g1, g2, g4, g5, gr⟩, hB, hp, ho1, ho2, hb, hg⟩ := h
  have h12 := vp_in_nI hx (by omega : 12 < 2 ^ 31)
  have c2 := nI_clamp (n := x) (by omega)
  obtain ⟨s1, s2, s3, -, s5, s6, -, s8⟩ := h7.sw
  refine t_X3_tempts d _ _ h1 _ ⟨b, h4, h2, h12, ?_⟩
  rw [c2, gw x hx]
  refine sp_learn d h0 hx _ fun J hJ hf => ⟨b, h4, h2, hid hh, h6, s1, ?_⟩
  refine sp_sway d s1 h1.2.2.2.2.2.2.2.2.1 (by omega) (by omega) (ft_ok hp hx hB ht) hf s2 s3 (by rw [hJ _ _ (by omega)]; exact s5) (fun j hj => by rw [hJ _ _ (by omega)]; exact s6 j hj) _ ?_
  have hk' := hK J hJ
  unfold temV at hk'
  rw [show (5 : Int32) + 2 * w x + swV (ft w p x (nI t)) cs = sumV w cs p x (nI t) from rfl]
  generalize sumV w cs p x (nI t) = s at hk' ⊢
  have e0 : ∀ j, J g j = I g j := fun j => hJ _ _ (by omega)
  obtain ⟨⟨k0, hk, ek⟩, -⟩ := hB
  have s79 : zSI C (zmk I L M) K Y_X3_tempts (d + 2) 79 [(0, .ref o), (1, .int (nI x)), (2, .int (nI t)), (4, .int s), (5, .int (lovV w s p x))] [.int (thiV w s p x)] J L M := by
    refine t_X3_tempts_79 d h1 _ _ _ _ _ _ ⟨g, h5, h3, ?_⟩
    rw [e0, g1, ek]
    rw [ek] at hk'
    refine sw7 hk ?_ ?_ ?_ ?_ ?_ ?_ ?_
    · rintro rfl
      rw [if_pos (by decide)] at hk'
      exact hk'
    · rintro rfl
      rw [if_neg (by decide), if_pos (by decide)] at hk'
      exact hk'
    · rintro rfl
      rw [if_neg (by decide), if_neg (by decide), if_pos (by decide)] at hk'
      exact hk'
    · rintro rfl
      rw [if_neg (by decide), if_neg (by decide), if_neg (by decide), if_pos (by decide)] at hk'
      refine ⟨g, h5, h3, ?_⟩
      rw [e0, g4]
      refine ⟨fun z => ?_, fun z => ?_⟩
      · rw [if_neg z] at hk'
        exact hk'
      · rw [if_pos z] at hk'
        exact hk'
    · rintro rfl
      rw [if_neg (by decide), if_neg (by decide), if_neg (by decide), if_neg (by decide), if_pos (by decide)] at hk'
      exact hk'
    · rintro rfl
      rw [if_neg (by decide), if_neg (by decide), if_neg (by decide), if_neg (by decide), if_neg (by decide), if_pos (by decide)] at hk'
      refine ⟨g, h5, h3, ?_⟩
      rw [x4 x hx, nI_clamp (by omega), hJ (g + 1) _ (by omega), gr _ (by omega)]
      exact ⟨vp_in_nI (by omega) (by omega), hk'⟩
    · rintro rfl
      rw [if_neg (by decide), if_neg (by decide), if_neg (by decide), if_neg (by decide), if_neg (by decide), if_neg (by decide)] at hk'
      exact hk'
  have s60 : zSI C (zmk I L M) K Y_X3_tempts (d + 2) 60 [(0, .ref o), (1, .int (nI x)), (2, .int (nI t)), (3, .int (w x)), (4, .int s)] [.int (lovV w s p x)] J L M := by
    refine t_X3_tempts_60 d h1 _ _ _ _ _ _ ⟨g, h5, h3, ?_⟩
    rw [e0, g2]
    unfold thiV at s79
    refine ⟨fun z => ?_, fun z => ?_⟩
    · rw [if_pos z] at s79
      exact s79
    · rw [if_neg z] at s79
      exact s79
  rw [x2 x hx]
  unfold lovV at s60
  refine ⟨fun z => ?_, fun z => ⟨g, h5, h3, ?_⟩⟩
  · rw [if_neg z] at s60
    exact s60
  · rw [if_pos z] at s60
    rw [e0, g2]
    exact s60
/-- row a and strengths s hold the list r, but for a free place at n -/
def RkA (G : Nat → Int32) (J : Nat → Nat → Int32) (s a : Nat) (r1 r2 : List Nat) : Prop := (∀ i, i < r1.length → J a i = nI (r1.getD i 0) ∧ J s i = G (r1.getD i 0)) ∧ ∀ i, i < r2.length → J a (r1.length + 1 + i) = nI (r2.getD i 0) ∧ J s (r1.length + 1 + i) = G (r2.getD i 0)
def RkF (G : Nat → Int32) (J : Nat → Nat → Int32) (s a : Nat) (r : List Nat) : Prop := ∀ i, i < r.length → J a i = nI (r.getD i 0) ∧ J s i = G (r.getD i 0)
theorem getD_mem {l : List Nat} {i : Nat} (h : i < l.length) : l.getD i 0 ∈ l := by
  rw [List.getD_eq_getElem?_getD, List.getElem?_eq_getElem h]
  exact List.getElem_mem h
theorem getD_l (l l' : List Nat) {i : Nat} (h : i < l.length) : (l ++ l').getD i 0 = l.getD i 0 := by
  rw [List.getD_eq_getElem?_getD, List.getElem?_append_left h, List.getD_eq_getElem?_getD]
theorem getD_r (l l' : List Nat) (i : Nat) : (l ++ l').getD (l.length + i) 0 = l'.getD i 0 := by
  rw [List.getD_eq_getElem?_getD, List.getElem?_append_right (by omega), List.getD_eq_getElem?_getD]
  congr 2
  omega
theorem u2_two (J : Nat → Nat → Int32) {a b : Nat} (h : a ≠ b) (p : Nat) (v1 v2 : Int32) (i : Nat) : u2 (u2 J b p v1) a p v2 a i = (if i = p then v2 else J a i) ∧ u2 (u2 J b p v1) a p v2 b i = (if i = p then v1 else J b i) := by
  constructor
  · by_cases q : i = p
    · rw [if_pos q, q, u2_same]
    · rw [if_neg q, u2_n2 _ _ q, u2_n1 _ _ h]
  · rw [u2_n1 _ _ (fun z => h z.symm)]
    by_cases q : i = p
    · rw [if_pos q, q, u2_same]
    · rw [if_neg q, u2_n2 _ _ q]
theorem sp_rank (d : Nat) {o b g p t : Nat} {w : Nat → Int32} {cs : List zCl} (h : LU I M o b g p w cs) (ht : t < 10) (K : (Nat → Nat → Int32) → (Nat → Nat → Int64) → (Nat → Nat → Option Nat) → Prop) (hK : ∀ J r, (∀ a j, a ≠ o + 14 → a ≠ o + 13 → a ≠ o + 2 + t → (a ≠ o + 12 ∨ j ≠ t) → J a j = I a j) → Rk (fun x => temV w cs p x (nI t)) 12 r → J (o + 12) t = nI r.length → (∀ i, i < r.length → J (o + 2 + t) i = nI (r.getD i 0)) → K J L M) : zCV C Y_X3_rank (d + 3) [.ref o, .int (nI t)] (zmk I L M) K := by
  have h0 := h
  obtain ⟨h1, h2, h3, h4, h5, ⟨hh, h6, h7⟩, ⟨gw, g0, g1, g2, g4, g5, gr⟩, hB, hp, ho1, ho2, hb, hg⟩ := h
  have ct := nI_clamp (n := t) (by omega)
  have hint := vp_in_nI ht (by omega : 10 < 2 ^ 31)
  have el2 : zsh (o + 2 + t) = (12, 12) := (h1.2.2.2.2.2.2.2.2.2 t ht).2
  refine t_X3_rank d _ h1 _ ⟨hint, ?_⟩
  rw [ct]
  generalize hG : (fun x => temV w cs p x (nI t)) = G at hK
  refine count_st (σ := (Nat → Nat → Int32) × List Nat) (P := fun y s => zSV C (zmk I L M) K Y_X3_rank (d + 3) 12 [(0, .ref o), (1, .int (nI t)), (2, .ref (o + 2 + t)), (3, .int (nI s.2.length)), (4, .int (nI y))] [] s.1 L M) (J := fun y s => (∀ a j, a ≠ o + 14 → a ≠ o + 13 → a ≠ o + 2 + t → s.1 a j = I a j) ∧ Rk G y s.2 ∧ RkF G s.1 (o + 13) (o + 2 + t) s.2) 12 ?_ ?_ 0 (I, []) (Nat.zero_le _) ⟨fun _ _ _ _ _ => rfl, Rk_0 G, fun i hi => absurd hi (by simp)⟩
  · rintro ⟨J, r⟩ ⟨hF, hR, hA⟩
    refine t_X3_rank_12 d h1 el2 _ _ _ _ (br_t (by decide) ⟨hint, ?_⟩)
    rw [ct]
    refine hK _ r (fun a j a1 a2 a3 a4 => ?_) hR (by simp (disch := omega) only [u2_same, u2_n1, u2_n2, not_true_eq_false, not_false_eq_true, false_implies, true_implies, forall_const, true_and, and_true, and_self, implies_true]) (fun i hi => ?_)
    · rw [u2_ne _ _ a4]
      exact hF a j a1 a2 a3
    · rw [u2_n1 _ _ (by omega)]
      exact (hA i hi).1
  · rintro y ⟨J, r⟩ hy ⟨hF, hR, hA⟩ ih
    replace ih : ∀ (J' : Nat → Nat → Int32) (r' : List Nat), (∀ a j, a ≠ o + 14 → a ≠ o + 13 → a ≠ o + 2 + t → J' a j = I a j) → Rk G (y + 1) r' → RkF G J' (o + 13) (o + 2 + t) r' → zSV C (zmk I L M) K Y_X3_rank (d + 3) 12 [(0, .ref o), (1, .int (nI t)), (2, .ref (o + 2 + t)), (3, .int (nI r'.length)), (4, .int (nI (y + 1)))] [] J' L M := fun J' r' a1 a2 a3 => ih (J', r') ⟨a1, a2, a3⟩
    replace hF : ∀ a j, a ≠ o + 14 → a ≠ o + 13 → a ≠ o + 2 + t → J a j = I a j := hF
    replace hR : Rk G y r := hR
    replace hA : RkF G J (o + 13) (o + 2 + t) r := hA
    have hlt : ¬ (12 : Int32) ≤ nI y := fun z => by have := (nI_le_iff (a := 12) (b := y) (by omega) (by omega)).mp z; omega
    refine t_X3_rank_12 d h1 el2 _ _ _ _ (br_f hlt ?_)
    refine sp_tem d (LU_c (fun a j ha => hF a j (by omega) (by omega) (by omega)) h0) hy (by omega) _ fun J1 hJ1 => ?_
    have hF1 : ∀ a j, a ≠ o + 14 → a ≠ o + 13 → a ≠ o + 2 + t → J1 a j = I a j := fun a j a1 a2 a3 => (hJ1 a j a1).trans (hF a j a1 a2 a3)
    replace hJ1 : ∀ a j, a ≠ o + 14 → J1 a j = J a j := hJ1
    have hA1 : RkF G J1 (o + 13) (o + 2 + t) r := fun i hi => by rw [hJ1 _ _ (by omega), hJ1 _ _ (by omega)]; exact hA i hi
    rw [show temV w cs p y (nI t) = G y by rw [← hG], nI_1]
    refine ⟨fun z => ih J1 r hF1 (Rk_skip hR z) hA1, fun z => ?_⟩
    have hpos := nle_lt z
    have hlen := hR.2.2.1
    -- the place sinks
    have s36 : ∀ (k : Nat) (r1 r2 : List Nat) (J2 : Nat → Nat → Int32), r1.length = k → r1 ++ r2 = r → (∀ a j, a ≠ o + 14 → a ≠ o + 13 → a ≠ o + 2 + t → J2 a j = I a j) → RkA G J2 (o + 13) (o + 2 + t) r1 r2 → (∀ y' ∈ r2, G y' < G y) → zSV C (zmk I L M) K Y_X3_rank (d + 3) 36 [(0, .ref o), (1, .int (nI t)), (2, .ref (o + 2 + t)), (3, .int (nI r.length)), (4, .int (nI y)), (5, .int (G y)), (6, .int (nI k))] [] J2 L M := by
      intro k
      induction k with
      | zero =>
        intro r1 r2 J2 hk hr hF2 hA2 hl2
        have hr1 : r1 = [] := List.length_eq_zero_iff.mp hk
        subst hr1
        refine t_X3_rank_36 d h1 el2 _ _ _ _ _ _ (br_t (by decide) ?_)
        have hin0 := vp_in_nI (show 0 < 12 by omega) (by omega : 12 < 2 ^ 31)
        refine t_X3_rank_87 d h1 el2 _ _ _ _ _ _ ⟨hin0, hin0, ?_⟩
        rw [nI_1, nI_1, nI_clamp (by omega)]
        have hput : Rk G (y + 1) (y :: r2) := by
          have := Rk_put (r1 := []) (r2 := r2) (by rw [hr]; exact hR) hpos (by simp) hl2
          exact this
        have hr' : r2 = r := hr
        have := ih (u2 (u2 J2 (o + 13) 0 (G y)) (o + 2 + t) 0 (nI y)) (y :: r2) (fun a j a1 a2 a3 => by rw [u2_n1 _ _ a3, u2_n1 _ _ a2]; exact hF2 a j a1 a2 a3) hput fun i hi => ?_
        · rw [hr', List.length_cons] at this
          exact this
        · cases i with
          | zero => simp (disch := omega) only [u2_same, u2_n1, u2_n2, not_true_eq_false, not_false_eq_true, false_implies, true_implies, forall_const, true_and, and_true, and_self, implies_true]; simp
          | succ i =>
            have hi' : i < r2.length := by simpa using hi
            obtain ⟨q1, q2⟩ := hA2.2 i hi'
            rw [u2_n2 _ _ (by omega), u2_n1 _ _ (by omega), u2_n1 _ _ (by omega), u2_n2 _ _ (by omega)]
            simp only [List.length_nil] at q1 q2
            rw [show 0 + 1 + i = i + 1 by omega] at q1 q2
            rw [q1, q2]
            simp
      | succ k ihk =>
        intro r1 r2 J2 hk hr hF2 hA2 hl2
        have hrl : r1.length + r2.length = r.length := by rw [← hr, List.length_append]
        have hs1 : nI (k + 1) - 1 = nI k := by rw [nI_sub1 (by omega), Nat.add_sub_cancel]
        have hs2 : nI (k + 1) + -1 = nI k := by rw [← hs1, Int32.sub_eq_add_neg]
        have hink := vp_in_nI (show k < 12 by omega) (by omega : 12 < 2 ^ 31)
        have hink1 := vp_in_nI (show k + 1 < 12 by omega) (by omega : 12 < 2 ^ 31)
        obtain ⟨v, r1', rfl⟩ : ∃ v r1', r1 = r1' ++ [v] := by
          rcases List.eq_nil_or_concat r1 with e | ⟨a, b, e⟩
          · rw [e] at hk; exact absurd hk (by simp)
          · exact ⟨b, a, by rw [e, List.concat_eq_append]⟩
        have hl1 : r1'.length = k := by simpa using hk
        have hA0 := hA2.1 k (by rw [hk]; omega)
        rw [show (r1' ++ [v]).getD k 0 = v by rw [← hl1, ← Nat.add_zero r1'.length, getD_r]; rfl] at hA0
        refine t_X3_rank_36 d h1 el2 _ _ _ _ _ _ (br_f (fun z => by have := (nI_le_iff (a := k + 1) (b := 0) (by omega) (by omega)).mp z; omega) ?_)
        rw [hs1, hs2, nI_clamp (show k < 2 ^ 31 by omega), nI_clamp (show k + 1 < 2 ^ 31 by omega), hA0.2]
        refine ⟨hink, fun z2 => ?_, fun z2 => ⟨hink, hink1, hink, hink1, ?_⟩⟩
        · refine t_X3_rank_87 d h1 el2 _ _ _ _ _ _ ⟨hink1, hink1, ?_⟩
          rw [nI_1, nI_1, nI_clamp (show k + 1 < 2 ^ 31 by omega)]
          have hso := hR.2.1
          rw [← hr] at hso
          have hput : Rk G (y + 1) ((r1' ++ [v]) ++ y :: r2) := by
            refine Rk_put (by rw [hr]; exact hR) hpos (fun y' hy' => ?_) hl2
            rcases List.mem_append.mp hy' with q | q
            · have h3 := (List.pairwise_append.mp (List.pairwise_append.mp hso).1).2.2 y' q v (by simp)
              exact Int32.le_trans z2 h3
            · have : y' = v := by simpa using q
              rw [this]
              exact z2
          have := ih (u2 (u2 J2 (o + 13) (k + 1) (G y)) (o + 2 + t) (k + 1) (nI y)) ((r1' ++ [v]) ++ y :: r2) (fun a j a1 a2 a3 => by rw [u2_n1 _ _ a3, u2_n1 _ _ a2]; exact hF2 a j a1 a2 a3) hput fun i hi => ?_
          · rw [show ((r1' ++ [v]) ++ y :: r2).length = r.length + 1 by rw [← hr]; simp; omega] at this
            exact this
          · rw [List.length_append, List.length_cons] at hi
            rw [(u2_two J2 (by omega) _ _ _ i).1, (u2_two J2 (by omega) _ _ _ i).2]
            by_cases e1 : i < k + 1
            · rw [if_neg (by omega), if_neg (by omega), getD_l _ _ (by omega)]
              exact hA2.1 i (by omega)
            · by_cases e2 : i = k + 1
              · rw [if_pos e2, if_pos e2, e2, ← hk, ← Nat.add_zero (r1' ++ [v]).length, getD_r]
                exact ⟨rfl, rfl⟩
              · rw [if_neg e2, if_neg e2]
                obtain ⟨j, rfl⟩ : ∃ j, i = k + 2 + j := ⟨i - k - 2, by omega⟩
                obtain ⟨q1, q2⟩ := hA2.2 j (by omega)
                rw [hk, show k + 1 + 1 + j = k + 2 + j by omega] at q1 q2
                have eg : ((r1' ++ [v]) ++ y :: r2).getD (k + 2 + j) 0 = r2.getD j 0 := by
                  rw [show k + 2 + j = (r1' ++ [v]).length + (j + 1) by omega, getD_r]
                  rfl
                rw [q1, q2, eg]
                exact ⟨rfl, rfl⟩
        · refine ihk r1' (v :: r2) _ hl1 (by rw [← hr]; simp) (fun a j a1 a2 a3 => by rw [u2_n1 _ _ a3, u2_n1 _ _ a2]; exact hF2 a j a1 a2 a3) ⟨fun i hi => ?_, fun i hi => ?_⟩ (fun y' hy' => ?_)
          · rw [(u2_two J2 (by omega) _ _ _ i).1, (u2_two J2 (by omega) _ _ _ i).2, if_neg (by omega), if_neg (by omega)]
            have := hA2.1 i (by omega)
            rw [getD_l _ _ hi] at this
            exact this
          · rw [(u2_two J2 (by omega) _ _ _ _).1, (u2_two J2 (by omega) _ _ _ _).2]
            rw [List.length_cons] at hi
            cases i with
            | zero =>
              rw [if_pos (by omega), if_pos (by omega), u2_n1 _ _ (by omega), hA0.1]
              exact ⟨rfl, rfl⟩
            | succ i =>
              rw [if_neg (by omega), if_neg (by omega)]
              obtain ⟨q1, q2⟩ := hA2.2 i (by omega)
              rw [hk] at q1 q2
              rw [show r1'.length + 1 + (i + 1) = k + 1 + 1 + i by omega, q1, q2]
              simp
          · rcases List.mem_cons.mp hy' with rfl | q
            · exact nle_lt z2
            · exact hl2 y' q
    refine s36 r.length r [] J1 rfl (by simp) hF1 ⟨hA1, fun i hi => absurd hi (by simp)⟩ (by simp)
/-- what the Lure has ranked holds for all sets within mm0 -/
def LV (I : Nat → Nat → Int32) (o : Nat) (G : Nat → Nat → Int32) (mm0 : Int32) : Prop := ∀ t, t < 10 → I (o + 12) t = -1 ∨ ∃ r : List Nat, (∀ y ∈ r, y < 12) ∧ r.length ≤ 12 ∧ I (o + 12) t = nI r.length ∧ (∀ i, i < r.length → I (o + 2 + t) i = nI (r.getD i 0)) ∧ ∀ mm : Int32, (∀ k, k < 12 → hb mm k = true → hb mm0 k = true) → r.find? (fun x => hb mm x) = pk (G t) (fun x => hb mm x) 12
abbrev LG (w : Nat → Int32) (cs : List zCl) (p : Nat) : Nat → Nat → Int32 := fun t x => temV w cs p x (nI t)
theorem sp_prey39 (d : Nat) {hh : zH} {o t : Nat} (ho : zLu o) (ht : t < 10) (mm : Int32) {r : List Nat} (hr : ∀ y ∈ r, y < 12) (hl : r.length ≤ 12) (e1 : I (o + 12) t = nI r.length) (e2 : ∀ i, i < r.length → I (o + 2 + t) i = nI (r.getD i 0)) (K : KI) (hK : K (opI (r.find? (fun x => hb mm x))) I L M) : zSI C hh K Y_X3_prey (d + 4) 39 [(0, .ref o), (1, .int mm), (3, .int (nI t)), (4, .int 0)] [] I L M := by
  have ct := nI_clamp (n := t) (by omega)
  have hint := vp_in_nI ht (by omega : 10 < 2 ^ 31)
  have key : ∀ (r2 : List Nat) (i : Nat), (∀ y ∈ r2, y < 12) → i + r2.length = r.length → (∀ j, j < r2.length → I (o + 2 + t) (i + j) = nI (r2.getD j 0)) → K (opI (r2.find? (fun x => hb mm x))) I L M → zSI C hh K Y_X3_prey (d + 4) 39 [(0, .ref o), (1, .int mm), (3, .int (nI t)), (4, .int (nI i))] [] I L M := by
    intro r2
    induction r2 with
    | nil =>
      intro i _ hi _ hK
      refine t_X3_prey_39 d ho _ _ _ _ ⟨hint, ?_⟩
      rw [ct, e1]
      exact br_t ((nI_le_iff (by omega) (by omega)).mpr (by simp at hi; omega)) hK
    | cons v r2 ih =>
      intro i hv hi he hK
      rw [List.length_cons] at hi
      have e0 : I (o + 2 + t) i = nI v := he 0 (by simp)
      have hv12 : v < 12 := hv v (by simp)
      refine t_X3_prey_39 d ho _ _ _ _ ⟨hint, ?_⟩
      rw [ct, e1, nI_clamp (show i < 2 ^ 31 by omega), e0, zhas_hb (by omega), nI_1]
      have hin := vp_in_nI (show i < 12 by omega) (by omega : 12 < 2 ^ 31)
      refine br_f (fun z => by have := (nI_le_iff (a := r.length) (b := i) (by omega) (by omega)).mp z; omega) ⟨hint, hin, fun z => ?_, fun z => ⟨hint, hin, ?_⟩⟩
      · rw [List.find?_cons] at hK
        rw [show hb mm v = false by simpa using z] at hK
        exact ih (i + 1) (fun y hy => hv y (List.mem_cons_of_mem _ hy)) (by omega) (fun j hj => by
          have := he (j + 1) (by simp; omega)
          rw [show i + 1 + j = i + (j + 1) by omega, this]
          simp) hK
      · rw [List.find?_cons, z] at hK
        exact hK
  exact key r 0 hr (by omega) (fun j hj => by rw [Nat.zero_add]; exact e2 j hj) hK
theorem sp_preyC (d : Nat) {o b g p t : Nat} {w : Nat → Int32} {cs : List zCl} {mm0 : Int32} (h : LU I M o b g p w cs) (ht : t < 2 ^ 31) (hV : LV I o (LG w cs p) mm0) (mm : Int32) (hm : ∀ k, k < 12 → hb mm k = true → hb mm0 k = true) (K : KI) (hK : ∀ J, (∀ a j, a < o ∨ o + 15 ≤ a → J a j = I a j) → LV J o (LG w cs p) mm0 → K (preyV w cs p mm (nI t)) J L M) : zCI C Y_X3_prey (d + 4) [.ref o, .int mm, .int (nI t)] (zmk I L M) K := by
  have h0 := h
  obtain ⟨h1, h2, h3, h4, h5, ⟨hh, h6, h7⟩, ⟨gw, g0, g1, g2, g4, g5, gr⟩, hB, hp, ho1, ho2, hb', hg⟩ := h
  have em : nI t - nI t / 10 * 10 = nI (t % 10) := pk_rem (d := 10) ht (by omega) (by omega)
  have ht10 : t % 10 < 10 := Nat.mod_lt _ (by omega)
  have hint := vp_in_nI ht10 (by omega : 10 < 2 ^ 31)
  have eG : (fun x => temV w cs p x (nI t)) = LG w cs p (t % 10) := funext fun x => (temV_mod w cs p x ht).symm
  unfold preyV at hK
  rw [eG] at hK
  refine t_X3_prey d _ _ h1 _ ⟨g, h5, h3, ?_⟩
  rw [g5, em, nI_clamp (show t % 10 < 2 ^ 31 by omega)]
  refine ⟨fun z => ?_, fun z => br_t (nI_pos' (by omega)) ⟨hint, ?_⟩⟩
  · have := hK I (fun _ _ _ => rfl) hV
    rw [if_pos z] at this
    exact this
  · rw [if_neg z] at hK
    rcases hV (t % 10) ht10 with e | ⟨r, r1, r2, r3, r4, r5⟩
    · rw [e]
      refine br_f (by decide) (sp_rank d h0 ht10 _ fun J r hJ hR q1 q2 => ?_)
      refine sp_prey39 d h1 ht10 mm (fun y hy => (hR.1 y hy).1) hR.2.2.1 q1 q2 K ?_
      rw [hR.2.2.2]
      refine hK J (fun a j ha => hJ a j (by omega) (by omega) (by omega) (by omega)) fun t2 ht2 => ?_
      by_cases e2 : t2 = t % 10
      · subst e2
        exact Or.inr ⟨r, fun y hy => (hR.1 y hy).1, hR.2.2.1, q1, q2, fun mm _ => hR.2.2.2 _⟩
      · rcases hV t2 ht2 with a | ⟨r', a1, a2, a3, a4, a5⟩
        · left
          rw [hJ _ _ (by omega) (by omega) (by omega) (by omega)]
          exact a
        · right
          refine ⟨r', a1, a2, ?_, fun i hi => ?_, a5⟩
          · rw [hJ _ _ (by omega) (by omega) (by omega) (by omega)]
            exact a3
          · rw [hJ _ _ (by omega) (by omega) (by omega) (by omega)]
            exact a4 i hi
    · rw [r3]
      refine ⟨fun _ => sp_prey39 d h1 ht10 mm r1 r2 r3 r4 K ?_, fun z2 => absurd (nI_pos' (by omega)) z2⟩
      rw [r5 mm hm]
      exact hK I (fun _ _ _ => rfl) hV
theorem sp_settle1 (d : Nat) {o b g : Nat} (ho : zLu o) (hb : zInn b) (hg : zGu g) (K : (Nat → Nat → Int32) → (Nat → Nat → Int64) → (Nat → Nat → Option Nat) → Prop) (hK : ∀ J, (∀ a j, a ≠ o + 12 → J a j = I a j) → (∀ t, t < 10 → J (o + 12) t = -1) → K J L (u2 (u2 M o 0 (some b)) o 1 (some g))) : zCV C Y_X3_settle (d + 2) [.ref o, .ref b, .ref g] (zmk I L M) K := by
  refine t_X3_settle d ho hb hg _ ?_
  refine sp_fill d (-1) ho.2.2.2.2.2.2.1 (by omega) _ (hK _ (fun a j ha => by unfold zfill; rw [if_neg ha]) (fun t ht => by unfold zfill; rw [if_pos rfl, if_pos ht]))
end SM
