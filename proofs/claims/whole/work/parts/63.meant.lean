/-! MEANT, CAN -/
def mnV (P : Nat → Bool) (N : Nat) : Nat → Nat
  | 0 => 0
  | j + 1 => if P (N - 1 - j) = true then mnV P N j + 1 else mnV P N j
def leV (P : Nat → Bool) (N : Nat) : Nat → Int32
  | 0 => -5
  | j + 1 => if P (N - 1 - j) = true then nI (N - 1 - j) else leV P N j
def dnV (N j : Nat) : Int32 := if j < N then nI (N - 1 - j) else -1
theorem dn_s {N j : Nat} (hN : N < 2 ^ 31) (h : j < N) : dnV N j = nI (N - 1 - j) ∧ dnV N j + -1 = dnV N (j + 1) ∧ ¬ dnV N j < 0 := by
  unfold dnV
  rw [if_pos h]
  refine ⟨rfl, ?_, fun z => ?_⟩
  · by_cases q : j + 1 < N
    · rw [if_pos q, ← Int32.sub_eq_add_neg, nI_sub1 (by omega)]
      congr 1
    · rw [if_neg q, show N - 1 - j = 0 by omega]
      decide
  · have := nI_pos' (n := N - 1 - j) (by omega)
    exact absurd this (lt_nle z)
theorem dn_e (N : Nat) : dnV N N < 0 := by
  unfold dnV
  rw [if_neg (by omega)]
  decide
theorem Sm_v (w : Nat → Int32) {p : Nat} (hp : p < 6) (v mm : Int32) : Sm w (upd w (36 + p) v) p mm := Sm_m w hp v mm
section SM
variable {C : zC} {I I' : Nat → Nat → Int32} {L L' : Nat → Nat → Int64} {M : Nat → Nat → Option Nat}
/-- what is seen of p, were mm what it means now, the view being w -/
def fitB (w : Nat → Int32) (cs : List zCl) (p t s : Nat) (mm : Int32) : Bool := seenB w p (goC w cs p t mm) s 13
theorem Inv.rows (h : Inv I L M) {s : Nat} (e : cur I 136 = nI s) (hs : s ≤ 5) : I 7 1 = nI s ∧ ∀ i, i < s → I (7 + 2 + i) 0 = cur I (78 + i) ∧ I (7 + 2 + i) 1 = cur I (83 + i) ∧ I (7 + 2 + i) 2 = cur I (88 + i) ∧ I (7 + 2 + i) 3 = cur I (93 + i) := by
  refine ⟨(h.at (k := 136) (by omega) (by unfold live; omega) rfl rfl).trans e, fun i hi => ?_⟩
  have hl : ∀ k, k < 98 → 78 ≤ k → (k - 78) % 5 = i → live (cur I) k := fun k h1 h2 h3 => by
    unfold live
    right; right; right; left
    rw [e, cn_nI (by omega)]
    omega
  obtain ⟨a1, a2, a3, a4⟩ := l_s i (by omega)
  obtain ⟨b1, b2, b3, b4⟩ := c_s 3 (x := i) (by omega)
  rw [cur_at a1 (by omega), cur_at a2 (by omega), cur_at a3 (by omega), cur_at a4 (by omega)]
  exact ⟨h.at (by omega) (hl _ (by omega) (by omega) (by omega)) a1 b1, h.at (by omega) (hl _ (by omega) (by omega) (by omega)) a2 b2, h.at (by omega) (hl _ (by omega) (by omega) (by omega)) a3 b3, h.at (by omega) (hl _ (by omega) (by omega) (by omega)) a4 b4⟩
theorem pr_meant (d : Nat) (h : Inv I L M) (x1 x2 : Int32) : PrI C Y_X10_meant Y_X11_meant (d + 12) [.int x1, .int x2] I L M := by
  obtain ⟨cs, hH⟩ := h.hs
  have e2 : (0 ≤ x2 ∧ x2 < 2) ↔ (0 ≤ x2 ∧ x2 ≤ 1) := and_congr_right fun _ => lt_le1 (by decide) x2
  refine t_X10_meant (d + 6) x1 x2 _ ⟨fun q => ?_, fun q => ⟨fun q2 => ?_, fun q2 => ?_⟩⟩
  · exact t_X11_meant (d + 4) _ _ _ (br_f' (h.ng q) ⟨rfl, h⟩)
  · obtain ⟨p, hp6, hp, rfl, hq⟩ := h.g q
    have h6 := vp_in_nI hp6 (by omega : 6 < 2 ^ 31)
    obtain ⟨t, t1, t2⟩ := h.1.t
    obtain ⟨s, s1, s2, hR⟩ := h.1.rw
    obtain ⟨es, er⟩ := h.rows s2 s1
    have e4 : I 3 4 = nI t := (h.at (k := 135) (by omega) (by unfold live; omega) rfl rfl).trans t2
    have e5 : I 270 p = cur I (36 + p) := (cur_at (l_m p hp6) (by omega)).symm
    obtain ⟨⟨k0, hk0, ek0⟩, -, ⟨v0, hv0, ev0⟩, -⟩ := h.1.gb hp
    rw [nI_clamp (by omega)]
    refine ⟨h6, sp_lureN (d + 8) h hH hp hp6 _ fun J M' hS m1 m2 => ⟨hL p hp6, ?_⟩⟩
    refine sp_gather (d + 9) hp6 s1 ((hS.1 _ _ (by omega)).trans es) hR (fun i hi => ?_) _ fun Jg hg hG => ?_
    · rw [hS.1 _ _ (by omega), hS.1 _ _ (by omega), hS.1 _ _ (by omega), hS.1 _ _ (by omega)]
      exact er i hi
    have hgI : ∀ a j, a < 142 ∨ (145 ≤ a ∧ a < 163) ∨ 253 ≤ a → Jg a j = I a j := fun a j q => (hg a j (by omega)).trans (hS.1 a j (by omega))
    have hSg : LSt Jg Jg M' (3 + 33 + 2 * p) p (cur I) cs := ⟨fun _ _ _ => rfl, LU_c2 (fun a j q => hg a j (by omega)) hS.2.1, fun t ht => by
      rcases hS.2.2 t ht with a | ⟨r, q1, q2, q3, q4, q5⟩
      · exact Or.inl ((hg _ _ (by omega)).trans a)
      · exact Or.inr ⟨r, q1, q2, (hg _ _ (by omega)).trans q3, fun i hi => (hg _ _ (by omega)).trans (q4 i hi), q5⟩⟩
    generalize hP : (fun k : Nat => fitB (cur I) cs p t s (nI k)) = P
    refine count_st (P := fun y J => zSI C (zmk I L M) _ Y_X10_meant (d + 12) 59 [(0, .ref 0), (2, .int x2), (3, .ref (163 + 15 * p)), (4, .int (nI (mnV P 4096 y))), (5, .int (leV P 4096 y)), (6, .int (dnV 4096 y))] [] J L M') (J := fun y J => LSt Jg J M' (3 + 33 + 2 * p) p (cur I) cs) 4096 ?_ ?_ 0 Jg (Nat.zero_le _) hSg
    · intro J hS2
      have hJI : ∀ a j, a < 142 ∨ (145 ≤ a ∧ a < 163) ∨ 253 ≤ a → J a j = I a j := fun a j q => (hS2.1 a j (by omega)).trans (hgI a j q)
      have eri : rI J = rI I := rI_eq fun a j z => hJI a j (by unfold Ra at z; omega)
      have ecu : cur J = cur I := cur_low fun a ha => funext fun j => hJI a j (by omega)
      have ecv : cv J 3 = cv I 3 := cv_far fun a ha hb => funext fun j => hJI a j (by omega)
      have mod : ∀ v : Int32, (v = if x2 = 0 then nI (mnV P 4096 4096) else leV P 4096 4096) → zCI C Y_X11_meant (d + 12) [.ref 265, .int (nI p), .int x2] (zmk J L M') (fun r2 I2 L2 M2 => r2 = v ∧ Inv I2 L2 M2) := by
        intro v hv
        refine t_X11_meant (d + 4) _ _ _ (br_t' (by rw [hJI 265 2 (by omega)]; exact hq) (br_t (e2.mp q2) ⟨h6, ?_⟩))
        rw [nI_clamp (by omega), hJI 270 p (by omega), e5]
        refine count_st (P := fun y J2 => zSI C (zmk J L M') _ Y_X11_meant (d + 12) 38 [(0, .ref 265), (1, .int (nI p)), (2, .int x2), (3, .int (cur I (36 + p))), (4, .int (nI (mnV P 4096 y))), (5, .int (leV P 4096 y)), (6, .int (dnV 4096 y))] [] J2 L M') (J := fun y J2 => MF J J2 ∧ ∃ v, cur J2 = upd (cur I) (36 + p) v) 4096 ?_ ?_ 0 J (Nat.zero_le _) ⟨MF.rf, cur I (36 + p), by rw [ecu, upd_id]⟩
        · rintro J2 ⟨g1, v', g2⟩
          have fin : Inv (u2 J2 270 p (cur I (36 + p))) L M' := by
            refine Inv_same h ?_ ?_ ?_ m1 m2
            · rw [← eri, ← g1.ri]
              exact rI_out _ _ (by unfold Ra; omega)
            · rw [cur_in' _ (l_m p hp6) (by omega), g2, upd_bk]
            · rw [← ecv]
              exact cv_far fun a ha hb => funext fun j => by
                rw [u2_n1 _ _ (by omega)]
                exact g1 a j (by omega)
          refine t_X11_meant_38 (d + 4) _ _ _ _ _ _ _ (br_t (dn_e 4096) ⟨h6, ?_⟩)
          rw [nI_clamp (by omega)]
          refine ⟨fun z => ⟨?_, fin⟩, fun z => ⟨?_, fin⟩⟩
          · rw [hv, if_neg z]
          · rw [hv, if_pos z]
        · rintro y J2 hy ⟨g1, v', g2⟩ ih
          obtain ⟨q1, q2', q3⟩ := dn_s (N := 4096) (by omega) hy
          refine t_X11_meant_38 (d + 4) _ _ _ _ _ _ _ (br_f q3 ⟨h6, ?_⟩)
          rw [nI_clamp (by omega), q2', q1]
          have hF : MF J (u2 J2 270 p (nI (4096 - 1 - y))) := fun a j q => by rw [u2_n1 _ _ (by omega)]; exact g1 a j q
          have hcv : cur (u2 J2 270 p (nI (4096 - 1 - y))) = upd (cur I) (36 + p) (nI (4096 - 1 - y)) := by rw [cur_in' _ (l_m p hp6) (by omega), g2, upd_up]
          refine sp_isSeen (d + 4) (t := t) hp6 (cs := cs) (s := s) (by rw [hF 265 17 (by omega), hJI 265 17 (by omega)]; exact hF.hs (Hs_fr eri hH)) hk0 (by rw [hcv, up_n _ _ (by omega)]; exact ek0) hv0 (by rw [hcv, up_n _ _ (by omega)]; exact ev0) s1 (by rw [hF 265 26 (by omega), hJI 265 26 (by omega)]; exact s2) (by
            rw [hcv]
            intro i hi
            rw [up_n _ _ (by omega), up_n _ _ (by omega), up_n _ _ (by omega), up_n _ _ (by omega)]
            exact hR i hi) _ fun J3 a b => ?_
          have ePk : seenB (cur (u2 J2 270 p (nI (4096 - 1 - y)))) p (fun n => onesV cs p n (cur (u2 J2 270 p (nI (4096 - 1 - y)))) (36 + p)) s 13 = P (4096 - 1 - y) := by
            rw [hcv, seenB_w p _ s (fun j j1 j2 => up_n _ _ (by omega)) s1, ← hP]
            refine seenB_congr (cur I) p s 13 fun n hn => ?_
            have hgo := ((Sq_ones cs hp6 (w := upd (cur I) (36 + p) (nI (4096 - 1 - y))) (t := t) (by rw [up_n _ _ (by omega)]; exact t2) n).go n (Nat.le_refl _)).1
            refine hgo.trans ?_
            rw [show onesV cs p 0 (upd (cur I) (36 + p) (nI (4096 - 1 - y))) (36 + p) = nI (4096 - 1 - y) from up_s _ _ _]
            exact goC_w cs t _ (fun m => Sm_m (cur I) hp6 _ m) n
          rw [ePk]
          have ih' := ih J3 ⟨hF.tr a, nI (4096 - 1 - y), b.trans hcv⟩
          unfold mnV leV at ih'
          rw [nI_1]
          cases hc : P (4096 - 1 - y)
          · rw [hc, if_neg (by decide), if_neg (by decide)] at ih'
            exact ⟨fun z => absurd rfl z, fun _ => ih'⟩
          · rw [hc, if_pos rfl, if_pos rfl] at ih'
            exact ⟨fun _ => ih', fun z => absurd z (by decide)⟩
      refine t_X10_meant_59 (d + 6) (hL p hp6) _ _ _ _ _ (br_t (dn_e 4096) ⟨fun z => mod _ (by rw [if_neg z]), fun z => mod _ (by rw [if_pos z])⟩)
    · intro y J hy hS2 ih
      obtain ⟨q1, q2', q3⟩ := dn_s (N := 4096) (by omega) hy
      refine t_X10_meant_59 (d + 6) (hL p hp6) _ _ _ _ _ (br_f q3 ?_)
      rw [q2', q1, hS2.1 3 4 (by omega), hgI 3 4 (by omega), e4]
      refine sp_fits (d + 6) hS2 hG hR t1 _ _ fun J' hS' => ?_
      have ePk : seenB (cur I) p (goC (cur I) cs p t (nI (4096 - 1 - y))) s 13 = P (4096 - 1 - y) := by rw [← hP]; rfl
      rw [ePk]
      have ih' := ih J' hS'
      unfold mnV leV at ih'
      rw [nI_1]
      cases hc : P (4096 - 1 - y)
      · rw [hc, if_neg (by decide), if_neg (by decide)] at ih'
        exact ⟨fun _ => ih', fun z => absurd rfl z⟩
      · rw [hc, if_pos rfl, if_pos rfl] at ih'
        exact ⟨fun z => absurd z (by decide), fun _ => ih'⟩
  · obtain ⟨p, hp6, hp, rfl, hq⟩ := h.g q
    exact t_X11_meant (d + 4) _ _ _ (br_t' hq (br_f (fun z => q2 (e2.mpr z)) ⟨rfl, h⟩))
end SM
