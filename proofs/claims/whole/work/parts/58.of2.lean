/-! OF -/
def icV (w : Nat → Int32) : Nat → Int32
  | 0 => 0
  | k + 1 => if w (12 + k) ≤ 0 then icV w k else icV w k ||| ((1 : Int32) <<< (nI k &&& 31))
def obV (w : Nat → Int32) (q : Nat → Bool) (a : Int32) : Nat → Int32
  | 0 => a
  | k + 1 => if q k then obV w q a k ||| w (36 + k) else obV w q a k
theorem obV_hb (w : Nat → Int32) (p : Nat) (a : Int32) (x : Nat) : ∀ k, (hb (obV w (fun _ => true) a k) x || hb (w (36 + p)) x) = (hb (obV w (fun g => decide (g ≠ p)) a k) x || hb (w (36 + p)) x) := by
  intro k
  induction k with
  | zero => rfl
  | succ k ih =>
    unfold obV
    rw [if_pos rfl, hb_or]
    by_cases e : k = p
    · subst e
      rw [if_neg (by simp), ← ih]
      cases hb (obV w (fun _ => true) a k) x <;> cases hb (w (36 + k)) x <;> rfl
    · rw [if_pos (by simp [e]), hb_or]
      cases h1 : hb (w (36 + p)) x
      · rw [h1] at ih
        simp only [Bool.or_false] at ih ⊢
        rw [ih]
      · simp
theorem bk_eq (w : Nat → Int32) (p : Nat) (a l : Int32) (k : Nat) : obV w (fun _ => true) a k &&& (l &&& (w (36 + p) ^^^ (-1))) = (obV w (fun g => decide (g ≠ p)) a k &&& l) &&& (w (36 + p) ^^^ (-1)) := by
  apply hb_ext
  intro x hx
  have := obV_hb w p a x k
  rw [hb_and, hb_and, hb_and, hb_and, hb_not _ hx]
  cases h1 : hb (w (36 + p)) x
  · rw [h1] at this
    simp only [Bool.or_false] at this
    rw [this]
    cases hb (obV w (fun g => decide (g ≠ p)) a k) x <;> cases hb l x <;> rfl
  · simp
theorem or_0 (a : Int32) : a ||| 0 = a := by
  apply hb_ext
  intro x _
  rw [hb_or, hb_0, Bool.or_false]
section SM
variable {C : zC} {I I' : Nat → Nat → Int32} {L L' : Nat → Nat → Int64} {M : Nat → Nat → Option Nat}
theorem sp_bkC (d : Nat) {p n : Nat} {w : Nat → Int32} (hp6 : p < 6) (hn : n ≤ 6) (e3 : I 3 3 = nI n) (ew : ∀ g, g < n → I (3 + 33 + 2 * g) 3 = w (36 + g)) (ec : ∀ x, x < 12 → I (3 + 2) x = w (12 + x)) (em : I (3 + 33 + 2 * p) 3 = w (36 + p)) (el : I (3 + 33 + 2 * p) 4 = w (42 + p)) (K : KI) (hK : K (obV w (fun _ => true) (icV w 12) n &&& (w (42 + p) &&& (w (36 + p) ^^^ (-1)))) I L M) : zCI C Y_X10_backTo (d + 2) [.ref 0, .ref (3 + 33 + 2 * p)] (zmk I L M) K := by
  have hg := gI i0 p hp6
  refine t_X10_backTo d hg _ (t_X2_inCellar d i0 _ ?_)
  refine count_up (P := fun y => zSI C (zmk I L M) _ Y_X2_inCellar (d + 1) 4 [(0, .ref 3), (1, .int (icV w y)), (2, .int (nI y))] [] I L M) 12 ?_ ?_ 0 (Nat.zero_le _)
  · refine t_X2_inCellar_4 d i0 _ _ _ (br_t (by decide) ?_)
    refine count_up (P := fun y => zSI C (zmk I L M) K Y_X10_backTo (d + 2) 10 [(0, .ref 0), (1, .ref (3 + 33 + 2 * p)), (2, .int (obV w (fun _ => true) (icV w 12) y)), (3, .int (nI y))] [] I L M) n ?_ ?_ 0 (Nat.zero_le _)
    · refine t_X10_backTo_10 d hg _ _ _ (br_t (by rw [e3]; exact Int32.le_refl _) ?_)
      rw [em, el]
      exact hK
    · intro y hy ih
      refine t_X10_backTo_10 d hg _ _ _ (br_f (by rw [e3]; exact fun z => by have := (nI_le_iff (a := n) (b := y) (by omega) (by omega)).mp z; omega) ⟨vp_in_nI (by omega) (by omega), ?_⟩)
      rw [nI_clamp (by omega), ew y hy, nI_1]
      exact ih
  · intro y hy ih
    refine t_X2_inCellar_4 d i0 _ _ _ (br_f (fun z => by have := (nI_le_iff (a := 12) (b := y) (by omega) (by omega)).mp z; omega) ⟨vp_in_nI hy (by omega), ?_⟩)
    rw [nI_clamp (by omega), ec y hy, nI_1, or_0]
    unfold icV at ih
    refine ⟨fun z => ?_, fun z => ?_⟩
    · rw [if_pos z] at ih; exact ih
    · rw [if_neg z] at ih; exact ih
theorem sp_bkM (d : Nat) {p n : Nat} (hp6 : p < 6) (hn : n ≤ 6) (e2 : I 265 2 = nI n) (K : KI) (hK : K ((obV (cur I) (fun g => decide (g ≠ p)) (icV (cur I) 12) n &&& cur I (42 + p)) &&& (cur I (36 + p) ^^^ (-1))) I L M) : zCI C Y_X11_backTo (d + 1) [.ref 265, .int (nI p)] (zmk I L M) K := by
  have h6 := vp_in_nI hp6 (by omega : 6 < 2 ^ 31)
  refine t_X11_backTo d _ _ ?_
  refine count_up (P := fun y => zSI C (zmk I L M) K Y_X11_backTo (d + 1) 4 [(0, .ref 265), (1, .int (nI p)), (2, .int (icV (cur I) y)), (3, .int (nI y))] [] I L M) 12 ?_ ?_ 0 (Nat.zero_le _)
  · refine t_X11_backTo_4 d _ _ _ _ (br_t (by decide) ?_)
    refine count_up (P := fun y => zSI C (zmk I L M) K Y_X11_backTo (d + 1) 33 [(0, .ref 265), (1, .int (nI p)), (2, .int (obV (cur I) (fun g => decide (g ≠ p)) (icV (cur I) 12) y)), (3, .int (nI y))] [] I L M) n ?_ ?_ 0 (Nat.zero_le _)
    · refine t_X11_backTo_33 d _ _ _ _ (br_t (by rw [e2]; exact Int32.le_refl _) ⟨h6, h6, ?_⟩)
      rw [nI_clamp (by omega), ← cur_at (I := I) (l_l p hp6) (by omega), ← cur_at (I := I) (l_m p hp6) (by omega)]
      exact hK
    · intro y hy ih
      refine t_X11_backTo_33 d _ _ _ _ (br_f (by rw [e2]; exact fun z => by have := (nI_le_iff (a := n) (b := y) (by omega) (by omega)).mp z; omega) ?_)
      rw [nI_1, nI_clamp (show y < 2 ^ 31 by omega)]
      unfold obV at ih
      refine ⟨fun z => ?_, fun z => ⟨vp_in_nI (by omega) (by omega), ?_⟩⟩
      · rw [if_neg (by simp; exact nI_inj (by omega) (by omega) z)] at ih
        exact ih
      · rw [if_pos (by simp; exact fun q => z (by rw [q]))] at ih
        rw [← cur_at (I := I) (l_m y (by omega)) (by omega)]
        exact ih
  · intro y hy ih
    refine t_X11_backTo_4 d _ _ _ _ (br_f (fun z => by have := (nI_le_iff (a := 12) (b := y) (by omega) (by omega)).mp z; omega) ⟨vp_in_nI hy (by omega), ?_⟩)
    rw [nI_clamp (by omega), ← cur_at (I := I) (l_c y hy) (by omega), nI_1]
    unfold icV at ih
    refine ⟨fun z => ?_, fun z => ?_⟩
    · rw [if_pos z] at ih; exact ih
    · rw [if_neg z] at ih; exact ih
theorem sm10 {x : Int32} (h : 0 ≤ x - 10 ∧ x - 10 < 12) : ∃ j, j < 12 ∧ x - 10 = nI j ∧ x = nI (10 + j) := by
  obtain ⟨j, hj, ej⟩ := rg 12 (by omega) h.1 h.2
  refine ⟨j, hj, ej, ?_⟩
  have : x = (x - 10) + 10 := by rw [Int32.sub_add_cancel]
  rw [this, ej, show (10 : Int32) = nI 10 from rfl, nI_add, Nat.add_comm]
theorem pr_of (d : Nat) (h : Inv I L M) (x1 x2 : Int32) : PrI C Y_X10_of Y_X11_of (d + 12) [.int x1, .int x2] I L M := by
  obtain ⟨cs, hH⟩ := h.hs
  obtain ⟨n, n1, n2, n3, n4⟩ := h.n
  refine t_X10_of (d + 6) x1 x2 _ ⟨fun q => ?_, fun q => ?_⟩
  · obtain ⟨p, hp6, hp, rfl, hq⟩ := h.g q
    have h6 := vp_in_nI hp6 (by omega : 6 < 2 ^ 31)
    have hcl := nI_clamp (n := p) (by omega)
    obtain ⟨t, t1, t2⟩ := h.1.t
    obtain ⟨l1, l2, l3, l4, l5, l6⟩ := live_g hp hp6
    have a1 := h.at (by omega) l1 (l_k p hp6) (c_k 3 hp6)
    have a2 := h.at (by omega) l2 (l_v p hp6) (c_v 3 hp6)
    have a3 := h.at (by omega) l3 (l_m p hp6) (c_m 3 hp6)
    have a4 := h.at (by omega) l4 (l_l p hp6) (c_l 3 hp6)
    have a5 := h.at (by omega) l5 (l_i p hp6) (c_i 3 hp6)
    have e3 : I (3 + 33 + 2 * p) 3 = cur I (36 + p) := by rw [cur_at (l_m p hp6) (by omega)]; exact a3
    have e4 : I 3 4 = nI t := (h.at (k := 135) (by omega) (by unfold live; omega) rfl rfl).trans t2
    have e9 : I 265 9 = nI t := t2
    obtain ⟨⟨k0, hk0, ek0⟩, -, ⟨v0, hv0, ev0⟩, -⟩ := h.1.gb hp
    have small : ∀ {J : Nat → Nat → Int32} {M' : Nat → Nat → Option Nat} {K : KI}, J 265 2 = I 265 2 → ¬ (0 ≤ x2 - 10 ∧ x2 - 10 < 12) → ((x2 = 0 → vp_in (nI p) 6 ∧ K (J 268 p) J L M') ∧ (x2 = 1 → vp_in (nI p) 6 ∧ K (J 269 p) J L M') ∧ (x2 = 2 → vp_in (nI p) 6 ∧ K (J 270 p) J L M') ∧ (x2 = 3 → vp_in (nI p) 6 ∧ K (J 271 p) J L M') ∧ (x2 = 4 → vp_in (nI p) 6 ∧ K (J 272 p) J L M') ∧ (x2 = 5 → zCI C Y_X11_prey (d + 11) [.ref 265, .int (nI p)] (zmk J L M') K) ∧ (x2 = 6 → zCI C Y_X11_empty (d + 11) [.ref 265, .int (nI p)] (zmk J L M') K) ∧ (x2 = 7 → zCI C Y_X11_backTo (d + 11) [.ref 265, .int (nI p)] (zmk J L M') K) ∧ ((x2.toInt < 0 ∨ 7 < x2.toInt) → K (-10001) J L M')) → zCI C Y_X11_of (d + 12) [.ref 265, .int (nI p), .int x2] (zmk J L M') K := by
      intro J M' K e2 hx hk
      refine t_X11_of (d + 4) _ _ _ (br_t (by rw [e2]; exact hq) (br_f' hx ?_))
      rw [hcl]
      exact hk
    have ne : ∀ c : Nat, c < 8 → x2 = nI c → ¬ (0 ≤ x2 - 10 ∧ x2 - 10 < 12) := fun c hc e => by
      rw [e]
      exact (by decide : ∀ c, c < 8 → ¬ (0 ≤ nI c - 10 ∧ nI c - 10 < 12)) c hc
    have nn : ∀ {a b : Nat} {A : Prop}, a < 8 → b < 8 → a ≠ b → x2 = nI a → x2 = nI b → A := fun ha hb hab e1 e2 => absurd (nI_inj (by omega) (by omega) (e1.symm.trans e2)) hab
    have nb : ∀ {a : Nat} {A : Prop}, a < 8 → x2 = nI a → (x2.toInt < 0 ∨ 7 < x2.toInt) → A := fun ha e1 z => by
      rw [e1, nI_toInt (by omega)] at z
      omega
    refine ⟨h6, ?_⟩
    rw [hcl]
    refine ⟨fun z => ?_, fun z => ?_, fun z => ?_, fun z => ?_, fun z => ?_, fun z => ?_, fun z => ?_, fun z => ?_, fun z => ?_⟩
    · exact small rfl (ne 0 (by omega) z) ⟨fun _ => ⟨h6, a1.symm, h⟩, nn (a := 0) (b := 1) (by omega) (by omega) (by omega) z, nn (a := 0) (b := 2) (by omega) (by omega) (by omega) z, nn (a := 0) (b := 3) (by omega) (by omega) (by omega) z, nn (a := 0) (b := 4) (by omega) (by omega) (by omega) z, nn (a := 0) (b := 5) (by omega) (by omega) (by omega) z, nn (a := 0) (b := 6) (by omega) (by omega) (by omega) z, nn (a := 0) (b := 7) (by omega) (by omega) (by omega) z, nb (a := 0) (by omega) z⟩
    · exact small rfl (ne 1 (by omega) z) ⟨nn (a := 1) (b := 0) (by omega) (by omega) (by omega) z, fun _ => ⟨h6, a2.symm, h⟩, nn (a := 1) (b := 2) (by omega) (by omega) (by omega) z, nn (a := 1) (b := 3) (by omega) (by omega) (by omega) z, nn (a := 1) (b := 4) (by omega) (by omega) (by omega) z, nn (a := 1) (b := 5) (by omega) (by omega) (by omega) z, nn (a := 1) (b := 6) (by omega) (by omega) (by omega) z, nn (a := 1) (b := 7) (by omega) (by omega) (by omega) z, nb (a := 1) (by omega) z⟩
    · exact small rfl (ne 2 (by omega) z) ⟨nn (a := 2) (b := 0) (by omega) (by omega) (by omega) z, nn (a := 2) (b := 1) (by omega) (by omega) (by omega) z, fun _ => ⟨h6, a3.symm, h⟩, nn (a := 2) (b := 3) (by omega) (by omega) (by omega) z, nn (a := 2) (b := 4) (by omega) (by omega) (by omega) z, nn (a := 2) (b := 5) (by omega) (by omega) (by omega) z, nn (a := 2) (b := 6) (by omega) (by omega) (by omega) z, nn (a := 2) (b := 7) (by omega) (by omega) (by omega) z, nb (a := 2) (by omega) z⟩
    · exact small rfl (ne 3 (by omega) z) ⟨nn (a := 3) (b := 0) (by omega) (by omega) (by omega) z, nn (a := 3) (b := 1) (by omega) (by omega) (by omega) z, nn (a := 3) (b := 2) (by omega) (by omega) (by omega) z, fun _ => ⟨h6, a4.symm, h⟩, nn (a := 3) (b := 4) (by omega) (by omega) (by omega) z, nn (a := 3) (b := 5) (by omega) (by omega) (by omega) z, nn (a := 3) (b := 6) (by omega) (by omega) (by omega) z, nn (a := 3) (b := 7) (by omega) (by omega) (by omega) z, nb (a := 3) (by omega) z⟩
    · have e5 : cur I (48 + p) = I 272 p := cur_at (l_i p hp6) (by omega)
      have k4 : ∀ r : Int32, I 272 p = r → zCI C Y_X11_of (d + 12) [.ref 265, .int (nI p), .int x2] (zmk I L M) (fun r2 I2 L2 M2 => r2 = r ∧ Inv I2 L2 M2) := fun r hr => small rfl (ne 4 (by omega) z) ⟨nn (a := 4) (b := 0) (by omega) (by omega) (by omega) z, nn (a := 4) (b := 1) (by omega) (by omega) (by omega) z, nn (a := 4) (b := 2) (by omega) (by omega) (by omega) z, nn (a := 4) (b := 3) (by omega) (by omega) (by omega) z, fun _ => ⟨h6, hr, h⟩, nn (a := 4) (b := 5) (by omega) (by omega) (by omega) z, nn (a := 4) (b := 6) (by omega) (by omega) (by omega) z, nn (a := 4) (b := 7) (by omega) (by omega) (by omega) z, nb (a := 4) (by omega) z⟩
      rw [a5]
      refine ⟨fun z2 => k4 0 z2, fun z2 => k4 1 ?_⟩
      rw [← e5, ev0] at z2 ⊢
      rcases (by omega : v0 = 0 ∨ v0 = 1) with rfl | rfl
      · exact absurd rfl z2
      · rfl
    · refine sp_lureN (d + 8) h hH hp hp6 _ fun J M' hS m1 m2 => ⟨hL p hp6, ?_⟩
      rw [hS.1 _ _ (by omega), hS.1 3 4 (by omega), e3, e4]
      refine sp_preyL (d + 7) hS (by omega) _ _ fun J' hS' => ?_
      obtain ⟨eri, ecu, ecv⟩ := hS'.inv h
      have f : ∀ a j, 253 ≤ a → J' a j = I a j := fun a j ha => hS'.1 a j (by omega)
      refine small (f _ _ (by omega)) (ne 5 (by omega) z) ⟨nn (a := 5) (b := 0) (by omega) (by omega) (by omega) z, nn (a := 5) (b := 1) (by omega) (by omega) (by omega) z, nn (a := 5) (b := 2) (by omega) (by omega) (by omega) z, nn (a := 5) (b := 3) (by omega) (by omega) (by omega) z, nn (a := 5) (b := 4) (by omega) (by omega) (by omega) z, fun _ => ?_, nn (a := 5) (b := 6) (by omega) (by omega) (by omega) z, nn (a := 5) (b := 7) (by omega) (by omega) (by omega) z, nb (a := 5) (by omega) z⟩
      refine sp_preyM (d + 6) hp6 (cs := cs) (by rw [f 265 17 (by omega)]; exact Hs_fr eri hH) hk0 (by rw [ecu]; exact ek0) hv0 (by rw [ecu]; exact ev0) _ fun J2 hJ2 => ?_
      rw [ecu, f 265 9 (by omega), e9]
      refine ⟨rfl, Inv_same h ((rI_eq fun a j q => hJ2 a j (by unfold Ra at q; omega)).trans eri) ((cur_eq fun k hk => hJ2 _ _ (by have := loc_rng k hk; omega)).trans ecu) ?_ m1 m2⟩
      rw [← ecv]
      exact cv_far fun a ha hb => funext fun j => hJ2 a j (by omega)
    · refine sp_emC (d + 6) h hH hp hp6 t2 t1 _ fun J M' hS m1 m2 => ?_
      obtain ⟨eri, ecu, ecv⟩ := hS.inv h
      have f : ∀ a j, 253 ≤ a → J a j = I a j := fun a j ha => hS.1 a j (by omega)
      refine small (f _ _ (by omega)) (ne 6 (by omega) z) ⟨nn (a := 6) (b := 0) (by omega) (by omega) (by omega) z, nn (a := 6) (b := 1) (by omega) (by omega) (by omega) z, nn (a := 6) (b := 2) (by omega) (by omega) (by omega) z, nn (a := 6) (b := 3) (by omega) (by omega) (by omega) z, nn (a := 6) (b := 4) (by omega) (by omega) (by omega) z, nn (a := 6) (b := 5) (by omega) (by omega) (by omega) z, fun _ => ?_, nn (a := 6) (b := 7) (by omega) (by omega) (by omega) z, nb (a := 6) (by omega) z⟩
      refine sp_emM (d + 4) (cs := cs) (by rw [f 265 17 (by omega)]; exact Hs_fr eri hH) (by rw [ecu]; exact h.1) hp6 _ fun J2 a b c => ?_
      rw [ecu]
      refine ⟨?_, Inv_same h (a.trans eri) (b.trans ecu) ?_ m1 m2⟩
      · refine fst_congr 61 0 fun j a b => ?_
        rw [((Sq_nights cs h.1 t2 hp 61).go j (by omega)).1]
        exact Iff.rfl
      · rw [← ecv]
        exact cv_far fun a ha hb => funext fun j => c a j (by omega)
    · refine sp_bkC (d + 9) hp6 n1 n3 (w := cur I) (fun g hg => ?_) (fun x hx => ?_) e3 (by rw [cur_at (l_l p hp6) (by omega)]; exact a4) _ ?_
      · obtain ⟨-, -, g3, -⟩ := live_g (w := cur I) (g := g) (by omega) (by omega)
        rw [cur_at (l_m g (by omega)) (by omega)]
        exact h.at (by omega) g3 (l_m g (by omega)) (c_m 3 (by omega))
      · rw [cur_at (l_c x hx) (by omega)]
        exact h.at (by omega) (by unfold live; omega) (l_c x hx) (c_c 3 hx)
      · refine small rfl (ne 7 (by omega) z) ⟨nn (a := 7) (b := 0) (by omega) (by omega) (by omega) z, nn (a := 7) (b := 1) (by omega) (by omega) (by omega) z, nn (a := 7) (b := 2) (by omega) (by omega) (by omega) z, nn (a := 7) (b := 3) (by omega) (by omega) (by omega) z, nn (a := 7) (b := 4) (by omega) (by omega) (by omega) z, nn (a := 7) (b := 5) (by omega) (by omega) (by omega) z, nn (a := 7) (b := 6) (by omega) (by omega) (by omega) z, fun _ => ?_, nb (a := 7) (by omega) z⟩
        exact sp_bkM (d + 10) hp6 n1 n2 _ ⟨(bk_eq (cur I) p _ _ n).symm, h⟩
    · refine ⟨fun q2 => small rfl q2 ⟨fun q => nb (a := 0) (by omega) q z, fun q => nb (a := 1) (by omega) q z, fun q => nb (a := 2) (by omega) q z, fun q => nb (a := 3) (by omega) q z, fun q => nb (a := 4) (by omega) q z, fun q => nb (a := 5) (by omega) q z, fun q => nb (a := 6) (by omega) q z, fun q => nb (a := 7) (by omega) q z, fun _ => ⟨rfl, h⟩⟩, fun q2 => ?_⟩
      obtain ⟨x, hx, ex, -⟩ := sm10 q2
      refine sp_lureN (d + 8) h hH hp hp6 _ fun J M' hS m1 m2 => ⟨hL p hp6, ?_⟩
      rw [hS.1 3 4 (by omega), e4, ex]
      refine sp_tem (d + 9) hS.2.1 hx (by omega) _ fun J' hJ' => ?_
      have hS' : ∀ a j, a < 163 ∨ 253 ≤ a → J' a j = I a j := fun a j q => (hJ' a j (by omega)).trans (hS.1 a j q)
      have f : ∀ a j, 253 ≤ a → J' a j = I a j := fun a j ha => hS' a j (by omega)
      have eri : rI J' = rI I := rI_eq fun a j q => hS' a j (by unfold Ra at q; omega)
      have ecu : cur J' = cur I := cur_low fun a ha => funext fun j => f a j (by omega)
      have ecv : cv J' 3 = cv I 3 := cv_far fun a ha hb => funext fun j => hS' a j (by omega)
      refine t_X11_of (d + 4) _ _ _ (br_t (by rw [f 265 2 (by omega)]; exact hq) (br_t' q2 ?_))
      rw [ex]
      refine sp_temM (d + 7) hp6 hx (cs := cs) (by rw [f 265 17 (by omega)]; exact Hs_fr eri hH) hk0 (by rw [ecu]; exact ek0) _ fun J2 hJ2 => ?_
      rw [ecu, f 265 9 (by omega), e9]
      refine ⟨rfl, Inv_same h ((rI_eq fun a j q => hJ2 a j (by unfold Ra at q; omega)).trans eri) ((cur_eq fun k hk => hJ2 _ _ (by have := loc_rng k hk; omega)).trans ecu) ?_ m1 m2⟩
      rw [← ecv]
      exact cv_far fun a ha hb => funext fun j => hJ2 a j (by omega)
  · exact t_X11_of (d + 4) _ _ _ (br_f (h.ng q) ⟨rfl, h⟩)
end SM
