section SM
variable {C : zC} {I I' : Nat → Nat → Int32} {L L' : Nat → Nat → Int64} {M : Nat → Nat → Option Nat}
theorem pr_can (d : Nat) (h : Inv I L M) (x1 x2 : Int32) : PrI C Y_X10_can Y_X11_can (d + 12) [.int x1, .int x2] I L M := by
  obtain ⟨cs, hH⟩ := h.hs
  have e2 : (0 ≤ x2 ∧ x2 < 2) ↔ (0 ≤ x2 ∧ x2 ≤ 1) := and_congr_right fun _ => lt_le1 (by decide) x2
  refine t_X10_can (d + 6) x1 x2 _ ⟨fun q => ?_, fun q => ⟨fun q2 => ?_, fun q2 => ?_⟩⟩
  · exact t_X11_can (d + 4) _ _ _ (br_f' (h.ng q) ⟨rfl, h⟩)
  · obtain ⟨p, hp6, hp, rfl, hq⟩ := h.g q
    have h6 := vp_in_nI hp6 (by omega : 6 < 2 ^ 31)
    obtain ⟨t, t1, t2⟩ := h.1.t
    obtain ⟨s, s1, s2, hR⟩ := h.1.rw
    obtain ⟨es, er⟩ := h.rows s2 s1
    have e4 : I 3 4 = nI t := (h.at (k := 135) (by omega) (by unfold live; omega) rfl rfl).trans t2
    have e5 : I 269 p = cur I (30 + p) := (cur_at (l_v p hp6) (by omega)).symm
    obtain ⟨⟨k0, hk0, ek0⟩, ⟨vv, hvv, evv⟩, ⟨v0, hv0, ev0⟩, hw9⟩ := h.1.gb hp
    obtain ⟨l1, l2, l3, l4, l5, l6⟩ := live_g hp hp6
    have cvI : ∀ k, k < 139 → live (cur I) k → cv I 3 k = cur I k := fun k hk hl => h.2.1.1 k hk trivial hl
    have hin : I (3 + 33 + 2 * p) 5 = 0 ∨ I (3 + 33 + 2 * p) 5 = 1 := by
      rw [← cv_at (I := I) (c_i 3 (x := p) hp6) (by omega), cvI _ (by omega) l5, ev0]
      rcases (by omega : v0 = 0 ∨ v0 = 1) with rfl | rfl
      · exact Or.inl rfl
      · exact Or.inr rfl
    rw [nI_clamp (by omega)]
    refine ⟨h6, h6, sp_gb (d + 10) i2 i0 (by omega) hp6 (CS_0 93 3) hin _ fun Jc hc => ?_⟩
    have hcI : ∀ a j, CF 93 a j → Jc a j = I a j := hc.1
    refine sp_gather (d + 9) hp6 s1 ((hcI _ _ (by unfold CF; omega)).trans es) hR (fun i hi => ?_) _ fun Jg hg hG => ?_
    · rw [hcI _ _ (by unfold CF; omega), hcI _ _ (by unfold CF; omega), hcI _ _ (by unfold CF; omega), hcI _ _ (by unfold CF; omega)]
      exact er i hi
    have cvc : ∀ k, k < 139 → (24 ≤ k ∧ k < 54 ∧ (k - 24) % 6 = p) ∨ (54 ≤ k ∧ k < 78 ∧ (k - 54) / 4 = p) → live (cur I) k → cv Jc 93 k = cur I k := fun k hk hD hl => by
      rw [hc.2 k (Or.inr hD) hk]
      exact cvI k hk hl
    have hgI : ∀ a j, CF 93 a j → ¬ (a = 142 ∨ a = 143 ∨ a = 144) → Jg a j = I a j := fun a j q1 q2 => (hg a j q2).trans (hcI a j q1)
    have g1 : Jg (93 + 33 + 2 * p) 1 = cur I (24 + p) := by
      rw [hg _ _ (by omega), ← cv_at (I := Jc) (c_k 93 (x := p) hp6) (by omega)]
      exact cvc _ (by omega) (by omega) l1
    have g3 : Jg (93 + 33 + 2 * p) 3 = cur I (36 + p) := by
      rw [hg _ _ (by omega), ← cv_at (I := Jc) (c_m 93 (x := p) hp6) (by omega)]
      exact cvc _ (by omega) (by omega) l3
    have g4 : Jg (93 + 33 + 2 * p) 4 = cur I (42 + p) := by
      rw [hg _ _ (by omega), ← cv_at (I := Jc) (c_l 93 (x := p) hp6) (by omega)]
      exact cvc _ (by omega) (by omega) l4
    have g5 : Jg (93 + 33 + 2 * p) 5 = cur I (48 + p) := by
      rw [hg _ _ (by omega), ← cv_at (I := Jc) (c_i 93 (x := p) hp6) (by omega)]
      exact cvc _ (by omega) (by omega) l5
    have g6 : ∀ k, k < 4 → Jg (93 + 33 + 2 * p + 1) k = cur I (54 + (4 * p + k)) := fun k hk => by
      rw [hg _ _ (by omega), ← cv_at (I := Jc) (c_r 93 (g := p) hp6 hk) (by omega)]
      exact cvc _ (by omega) (by omega) (l6 k hk)
    have g0 : Jg (93 + 33 + 2 * p) 0 = nI p := by
      rw [hgI _ _ (by unfold CF; omega) (by omega)]
      exact h.nm.2 p hp6
    have gw : ∀ x, x < 12 → Jg (3 + 1) x = cur I x := fun x hx => by
      rw [hgI _ _ (by unfold CF; omega) (by omega), ← cv_at (I := I) (c_w 3 hx) (by omega)]
      exact cvI x (by omega) (by unfold live; omega)
    generalize hP : (fun k : Nat => seenB (cur I) p (goC (upd (cur I) (30 + p) (nI k)) cs p t (cur I (36 + p))) s 13) = P
    refine count_st (σ := (Nat → Nat → Int32) × (Nat → Nat → Option Nat)) (P := fun y s' => zSI C (zmk I L M) _ Y_X10_can (d + 12) 67 [(0, .ref 0), (2, .int x2), (3, .ref (93 + 33 + 2 * p)), (4, .int (nI (mnV P 10 y))), (5, .int (leV P 10 y)), (6, .int (dnV 10 y))] [] s'.1 L s'.2) (J := fun y s' => (∀ a j, (a < 163 ∨ 253 ≤ a) → (a ≠ 93 + 33 + 2 * p ∨ j ≠ 2) → s'.1 a j = Jg a j) ∧ s'.2 3 5 = M 3 5 ∧ s'.2 48 5 = M 48 5) 10 ?_ ?_ 0 (Jg, M) (Nat.zero_le _) ⟨fun _ _ _ _ => rfl, rfl, rfl⟩
    · rintro ⟨J, Mx⟩ ⟨hJ, m1, m2⟩
      replace hJ : ∀ a j, (a < 163 ∨ 253 ≤ a) → (a ≠ 93 + 33 + 2 * p ∨ j ≠ 2) → J a j = Jg a j := hJ
      replace m1 : Mx 3 5 = M 3 5 := m1
      replace m2 : Mx 48 5 = M 48 5 := m2
      have hJI : ∀ a j, (a < 163 ∨ 253 ≤ a) → CF 93 a j → ¬ (a = 142 ∨ a = 143 ∨ a = 144) → J a j = I a j := fun a j q1 q2 q3 => (hJ a j q1 (by unfold CF at q2; omega)).trans (hgI a j q2 q3)
      have eri : rI J = rI I := rI_eq fun a j z => hJI a j (by unfold Ra at z; omega) (by unfold Ra at z; unfold CF; omega) (by unfold Ra at z; omega)
      have ecu : cur J = cur I := cur_low fun a ha => funext fun j => hJI a j (by omega) (by unfold CF; omega) (by omega)
      have ecv : cv J 3 = cv I 3 := cv_far fun a ha hb => funext fun j => hJI a j (by omega) (by unfold CF; omega) (by omega)
      have f : ∀ a j, 265 ≤ a → J a j = I a j := fun a j q => hJI a j (by omega) (by unfold CF; omega) (by omega)
      have mod : ∀ v : Int32, (v = if x2 = 0 then nI (mnV P 10 10) else leV P 10 10) → zCI C Y_X11_can (d + 12) [.ref 265, .int (nI p), .int x2] (zmk J L Mx) (fun r2 I2 L2 M2 => r2 = v ∧ Inv I2 L2 M2) := by
        intro v hv
        refine t_X11_can (d + 4) _ _ _ (br_t' (by rw [f 265 2 (by omega)]; exact hq) (br_t (e2.mp q2) ⟨h6, ?_⟩))
        rw [nI_clamp (by omega), f 269 p (by omega), e5]
        refine count_st (P := fun y J2 => zSI C (zmk J L Mx) _ Y_X11_can (d + 12) 37 [(0, .ref 265), (1, .int (nI p)), (2, .int x2), (3, .int (cur I (30 + p))), (4, .int (nI (mnV P 10 y))), (5, .int (leV P 10 y)), (6, .int (dnV 10 y))] [] J2 L Mx) (J := fun y J2 => (∀ a j, a ≠ 269 → ¬ (a = 281 ∨ a = 293 ∨ a = 267 ∨ a = 270 ∨ a = 271 ∨ (a = 265 ∧ j = 9)) → J2 a j = J a j) ∧ ∃ v, cur J2 = upd (cur I) (30 + p) v) 10 ?_ ?_ 0 J (Nat.zero_le _) ⟨fun _ _ _ _ => rfl, cur I (30 + p), by rw [ecu, upd_id]⟩
        · rintro J2 ⟨b1, v', b2⟩
          have fin : Inv (u2 J2 269 p (cur I (30 + p))) L Mx := by
            refine Inv_same h ?_ ?_ ?_ m1 m2
            · rw [← eri]
              exact rI_eq fun a j q => by
                rw [u2_n1 _ _ (by unfold Ra at q; omega)]
                exact b1 a j (by unfold Ra at q; omega) (by unfold Ra at q; omega)
            · rw [cur_in' _ (l_v p hp6) (by omega), b2, upd_bk]
            · rw [← ecv]
              exact cv_far fun a ha hb => funext fun j => by
                rw [u2_n1 _ _ (by omega)]
                exact b1 a j (by omega) (by omega)
          refine t_X11_can_37 (d + 4) _ _ _ _ _ _ _ (br_t (dn_e 10) ⟨h6, ?_⟩)
          rw [nI_clamp (by omega)]
          refine ⟨fun z => ⟨?_, fin⟩, fun z => ⟨?_, fin⟩⟩
          · rw [hv, if_neg z]
          · rw [hv, if_pos z]
        · rintro y J2 hy ⟨b1, v', b2⟩ ih
          obtain ⟨q1, q2', q3⟩ := dn_s (N := 10) (by omega) hy
          refine t_X11_can_37 (d + 4) _ _ _ _ _ _ _ (br_f q3 ⟨h6, ?_⟩)
          rw [nI_clamp (by omega), q2', q1]
          have hF : ∀ a j, a ≠ 269 → ¬ (a = 281 ∨ a = 293 ∨ a = 267 ∨ a = 270 ∨ a = 271 ∨ (a = 265 ∧ j = 9)) → u2 J2 269 p (nI (10 - 1 - y)) a j = J a j := fun a j qq q => by rw [u2_n1 _ _ qq]; exact b1 a j qq q
          have hcv : cur (u2 J2 269 p (nI (10 - 1 - y))) = upd (cur I) (30 + p) (nI (10 - 1 - y)) := by rw [cur_in' _ (l_v p hp6) (by omega), b2, upd_up]
          refine sp_isSeen (d + 4) (t := t) hp6 (cs := cs) (s := s) (by
            rw [hF 265 17 (by omega) (by omega), f 265 17 (by omega)]
            refine Hs_fr ?_ hH
            rw [← eri]
            exact rI_eq fun a j q => hF a j (by unfold Ra at q; omega) (by unfold Ra at q; omega)) hk0 (by rw [hcv, up_n _ _ (by omega)]; exact ek0) hv0 (by rw [hcv, up_n _ _ (by omega)]; exact ev0) s1 (by rw [hF 265 26 (by omega) (by omega), f 265 26 (by omega)]; exact s2) (by
            rw [hcv]
            intro i hi
            rw [up_n _ _ (by omega), up_n _ _ (by omega), up_n _ _ (by omega), up_n _ _ (by omega)]
            exact hR i hi) _ fun J3 a b => ?_
          have ePk : seenB (cur (u2 J2 269 p (nI (10 - 1 - y)))) p (fun n => onesV cs p n (cur (u2 J2 269 p (nI (10 - 1 - y)))) (36 + p)) s 13 = P (10 - 1 - y) := by
            rw [hcv, seenB_w p _ s (fun j j1 j2 => up_n _ _ (by omega)) s1, ← hP]
            refine seenB_congr (cur I) p s 13 fun n hn => ?_
            have hgo := ((Sq_ones cs hp6 (w := upd (cur I) (30 + p) (nI (10 - 1 - y))) (t := t) (by rw [up_n _ _ (by omega)]; exact t2) n).go n (Nat.le_refl _)).1
            refine hgo.trans ?_
            rw [show onesV cs p 0 (upd (cur I) (30 + p) (nI (10 - 1 - y))) (36 + p) = cur I (36 + p) from up_n _ _ (by omega)]
          rw [ePk]
          have ih' := ih J3 ⟨fun a' j qq q => (a a' j q).trans (hF a' j qq q), nI (10 - 1 - y), b.trans hcv⟩
          unfold mnV leV at ih'
          rw [nI_1]
          cases hc : P (10 - 1 - y)
          · rw [hc, if_neg (by decide), if_neg (by decide)] at ih'
            exact ⟨fun z => absurd rfl z, fun _ => ih'⟩
          · rw [hc, if_pos rfl, if_pos rfl] at ih'
            exact ⟨fun _ => ih', fun z => absurd z (by decide)⟩
      refine t_X10_can_67 (d + 6) (gI i2 p hp6) _ _ _ _ _ (br_t (dn_e 10) ⟨fun z => mod _ (by rw [if_neg z]), fun z => mod _ (by rw [if_pos z])⟩)
    · rintro y ⟨J, Mx⟩ hy ⟨hJ, m1, m2⟩ ih
      replace hJ : ∀ a j, (a < 163 ∨ 253 ≤ a) → (a ≠ 93 + 33 + 2 * p ∨ j ≠ 2) → J a j = Jg a j := hJ
      replace m1 : Mx 3 5 = M 3 5 := m1
      replace m2 : Mx 48 5 = M 48 5 := m2
      obtain ⟨q1, q2', q3⟩ := dn_s (N := 10) (by omega) hy
      refine t_X10_can_67 (d + 6) (gI i2 p hp6) _ _ _ _ _ (br_f q3 ?_)
      rw [q2', q1]
      have hB : ∀ a j, (a < 163 ∨ 253 ≤ a) → (a ≠ 93 + 33 + 2 * p ∨ j ≠ 2) → u2 J (93 + 33 + 2 * p) 2 (nI (10 - 1 - y)) a j = Jg a j := fun a j a1 a2 => by
        rw [u2_ne _ _ a2]
        exact hJ a j a1 a2
      refine sp_lureOf (d + 8) (w := upd (cur I) (30 + p) (nI (10 - 1 - y))) (cs := cs) hp6 (gI i2 p hp6) (by omega) (by rw [hB _ _ (by omega) (by omega)]; exact g0) ⟨cur I 139, m1.trans h.2.1.2, ?_⟩ ?_ ?_ _ fun J1 M1 hS n1 n2 => ⟨hL p hp6, ?_⟩
      · refine Hs_fr ?_ hH
        refine rI_eq fun a j z => ?_
        rw [hB a j (by unfold Ra at z; omega) (by unfold Ra at z; omega)]
        exact hgI a j (by unfold Ra at z; unfold CF; omega) (by unfold Ra at z; omega)
      · refine ⟨fun x hx => ?_, ?_, ?_, ?_, ?_, ?_, fun k hk => ?_⟩
        · rw [hB _ _ (by omega) (by omega), up_n _ _ (by omega)]; exact gw x hx
        · rw [hB _ _ (by omega) (by omega)]; exact g0
        · rw [hB _ _ (by omega) (by omega), up_n _ _ (by omega)]; exact g1
        · rw [u2_same, up_s]
        · rw [hB _ _ (by omega) (by omega), up_n _ _ (by omega)]; exact g4
        · rw [hB _ _ (by omega) (by omega), up_n _ _ (by omega)]; exact g5
        · rw [hB _ _ (by omega) (by omega), up_n _ _ (by omega)]; exact g6 k hk
      · exact ⟨⟨k0, hk0, by rw [up_n _ _ (by omega)]; exact ek0⟩, ⟨10 - 1 - y, by omega, up_s _ _ _⟩, ⟨v0, hv0, by rw [up_n _ _ (by omega)]; exact ev0⟩, fun x hx => by rw [up_n _ _ (by omega)]; exact hw9 x hx⟩
      · rw [hS.1 _ _ (by omega), hB _ _ (by omega) (by omega), g3, hS.1 3 4 (by omega), hB 3 4 (by omega) (by omega), hgI 3 4 (by unfold CF; omega) (by omega), e4]
        have hG2 : GS (u2 J (93 + 33 + 2 * p) 2 (nI (10 - 1 - y))) (cur I) p s := by
          obtain ⟨l, a1, a2, a3, a4⟩ := hG
          refine ⟨l, a1, by rw [hB _ _ (by omega) (by omega)]; exact a2, a3, fun n hn x hx => ?_⟩
          rw [hB _ _ (by omega) (by omega), hB _ _ (by omega) (by omega)]
          exact a4 n hn x hx
        refine sp_fits (d + 6) hS hG2 hR t1 _ _ fun J' hS' => ?_
        have ePk : seenB (cur I) p (goC (upd (cur I) (30 + p) (nI (10 - 1 - y))) cs p t (cur I (36 + p))) s 13 = P (10 - 1 - y) := by rw [← hP]
        rw [ePk]
        have ih' := ih (J', M1) ⟨fun a j a1 a2 => (hS'.1 a j a1).trans (hB a j a1 a2), n1.trans m1, n2.trans m2⟩
        unfold mnV leV at ih'
        rw [nI_1]
        cases hc : P (10 - 1 - y)
        · rw [hc, if_neg (by decide), if_neg (by decide)] at ih'
          exact ⟨fun _ => ih', fun z => absurd rfl z⟩
        · rw [hc, if_pos rfl, if_pos rfl] at ih'
          exact ⟨fun z => absurd z (by decide), fun _ => ih'⟩
  · obtain ⟨p, hp6, hp, rfl, hq⟩ := h.g q
    exact t_X11_can (d + 4) _ _ _ (br_t' hq (br_f (fun z => q2 (e2.mpr z)) ⟨rfl, h⟩))
end SM
