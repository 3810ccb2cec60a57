def fwV (b : Int32) : Int32 := if b = -5 then 13 else zbc b
theorem ones_back (cs : List zCl) {p : Nat} (hp : p < 6) (w : Nat → Int32) (v : Int32) (k : Nat) : upd (upd (upd (onesV cs p k (upd w (36 + p) v)) (36 + p) (w (36 + p))) (42 + p) (w (42 + p))) 135 (w 135) = w := by
  funext j
  by_cases h1 : j = 135
  · rw [h1, up_s]
  by_cases h2 : j = 42 + p
  · rw [h2, up_n _ _ (by omega), up_s]
  by_cases h3 : j = 36 + p
  · rw [h3, up_n _ _ (by omega), up_n _ _ (by omega), up_s]
  rw [up_n _ _ h1, up_n _ _ h2, up_n _ _ h3, onesV_off cs _ k h3 h2 h1, up_n _ _ h3]
section SM
variable {C : zC} {I I' : Nat → Nat → Int32} {L L' : Nat → Nat → Int64} {M : Nat → Nat → Option Nat}
theorem sp_keeps (d : Nat) {J : Nat → Nat → Int32} {g p t x n : Nat} {w : Nat → Int32} {cs : List zCl} (h : LSt I J M g p w cs) (e4 : I 3 4 = nI t) (ht : t ≤ 9999) (hn : n ≤ 6) (hx : x < 12) (mm : Int32) (K : KI) (hK : ∀ J', LSt I J' M g p w cs → K (zb (zhas (goC w cs p t mm n) (nI x))) J' L M) : zCI C Y_X10_keeps (d + 5) [.ref 0, .ref (163 + 15 * p), .int mm, .int (nI x), .int (nI n)] (zmk J L M) K := by
  have hp6 : p < 6 := h.2.1.2.2.2.2.2.2.2.2.1
  refine t_X10_keeps d _ _ _ (hL p hp6) _ ?_
  refine count_st (P := fun y J => zSI C (zmk _ L M) K Y_X10_keeps (d + 5) 6 [(0, .ref 0), (1, .ref (163 + 15 * p)), (3, .int (nI x)), (4, .int (nI n)), (5, .int (goC w cs p t mm y)), (6, .int (nI y))] [] J L M) (J := fun y J => LSt I J M g p w cs) n ?_ ?_ 0 J (Nat.zero_le _) h
  · intro J hS
    exact t_X10_keeps_6 d (hL p hp6) _ _ _ _ _ (br_t (Int32.le_refl _) (hK J hS))
  · intro y J hy hS ih
    refine t_X10_keeps_6 d (hL p hp6) _ _ _ _ _ (br_f (fun z => by have := (nI_le_iff (a := n) (b := y) (by omega) (by omega)).mp z; omega) ⟨fun z => ?_, fun z => ?_⟩)
    · have e : zb (zhas (goC w cs p t mm y) (nI x)) = zb (zhas (goC w cs p t mm n) (nI x)) := zb_c ⟨fun q => absurd q z, fun q => by
        rw [zhas_hb (by omega)] at q ⊢
        obtain ⟨i, rfl⟩ : ∃ i, n = y + i := ⟨n - y, by omega⟩
        exact goC_mono w cs p t mm y i hx q⟩
      rw [e]
      exact hK J hS
    · rw [hS.1 3 4 (by omega), e4, nI_add]
      refine sp_preyL d hS (by omega) _ _ fun J' hS' => ?_
      rw [nI_1]
      exact ih J' hS'
theorem pr_decoys (d : Nat) (h : Inv I L M) (x1 x2 x3 : Int32) : PrI C Y_X10_decoys Y_X11_decoys (d + 12) [.int x1, .int x2, .int x3] I L M := by
  obtain ⟨cs, hH⟩ := h.hs
  refine t_X10_decoys (d + 5) x1 x2 x3 _ ⟨fun q => ?_, fun q => ⟨fun q2 => ⟨fun q3 => ?_, fun q3 => ⟨fun q4 => ?_, fun q4 => ?_⟩⟩, fun q2 => ?_⟩⟩
  · exact t_X11_decoys (d + 5) _ _ _ _ (br_f' (h.ng q) ⟨rfl, h⟩)
  · obtain ⟨p, hp6, hp, rfl, hq⟩ := h.g q
    exact t_X11_decoys (d + 5) _ _ _ _ (br_t' hq (br_t q2 (br_f (fun z => lt_nle q3 z.1) ⟨rfl, h⟩)))
  · obtain ⟨p, hp6, hp, rfl, hq⟩ := h.g q
    obtain ⟨x, hx, rfl⟩ := rg 12 (by omega) q2.1 q2.2
    obtain ⟨n, hn, rfl⟩ := rgle 6 (by omega) (by
      have := nlt_le q3
      rw [Int32.le_iff_toInt_le] at this ⊢
      rw [show (1 : Int32).toInt = 1 from rfl] at this
      rw [show (0 : Int32).toInt = 0 from rfl]
      omega) q4
    have h6 := vp_in_nI hp6 (by omega : 6 < 2 ^ 31)
    obtain ⟨t, t1, t2⟩ := h.1.t
    obtain ⟨l1, l2, l3, l4, l5, l6⟩ := live_g hp hp6
    have e3 : I (3 + 33 + 2 * p) 3 = cur I (36 + p) := by
      rw [cur_at (l_m p hp6) (by omega)]
      exact h.at (by omega) l3 (l_m p hp6) (c_m 3 hp6)
    have e4 : I 3 4 = nI t := (h.at (k := 135) (by omega) (by unfold live; omega) rfl rfl).trans t2
    have e9 : I 265 9 = nI t := t2
    have e5 : I 270 p = cur I (36 + p) := (cur_at (l_m p hp6) (by omega)).symm
    have e6 : I 271 p = cur I (42 + p) := (cur_at (l_l p hp6) (by omega)).symm
    have q34 : (1 : Int32) ≤ nI n ∧ nI n ≤ 6 := ⟨nlt_le q3, q4⟩
    obtain ⟨⟨k0, hk0, ek0⟩, -, ⟨v0, hv0, ev0⟩, -⟩ := h.1.gb hp
    rw [nI_clamp (by omega), e3]
    refine ⟨h6, fun z => ?_, fun z => ?_⟩
    · refine t_X11_decoys (d + 5) _ _ _ _ (br_t' hq (br_t q2 (br_t q34 ⟨h6, ?_⟩)))
      rw [nI_clamp (by omega), e5]
      exact br_f z ⟨rfl, h⟩
    · refine t_X10_fewestDecoys (d + 5) _ _ (gI i0 p hp6) _ (sp_lureN (d + 7) h hH hp hp6 _ fun J M' hS m1 m2 => ⟨hL p hp6, ?_⟩)
      refine count_st (P := fun y J => zSI C (zmk I L M) _ Y_X10_fewestDecoys (d + 11) 18 [(0, .ref 0), (1, .ref (3 + 33 + 2 * p)), (2, .int (nI x)), (3, .int (nI n)), (4, .ref (163 + 15 * p)), (5, .int (decV (cur I) cs p t x n y)), (6, .int (fwV (decV (cur I) cs p t x n y))), (7, .int (nI y))] [] J L M') (J := fun y J => LSt I J M' (3 + 33 + 2 * p) p (cur I) cs) 4096 ?_ ?_ 0 J (Nat.zero_le _) hS
      · intro J hS
        refine t_X10_fewestDecoys_18 (d + 5) (gI i0 p hp6) (hL p hp6) _ _ _ _ _ _ (br_t (by decide) ?_)
        obtain ⟨eri, ecu, ecv⟩ := hS.inv h
        have f' : ∀ a j, 253 ≤ a → J a j = I a j := fun a j ha => hS.1 a j (by omega)
        refine t_X11_decoys (d + 5) _ _ _ _ (br_t' (by rw [f' 265 2 (by omega)]; exact hq) (br_t q2 (br_t q34 ⟨h6, ?_⟩)))
        rw [nI_clamp (by omega), f' 270 p (by omega), e5, f' 271 p (by omega), e6, f' 265 9 (by omega), e9]
        refine br_t z ⟨h6, h6, ?_⟩
        refine count_st (P := fun y J2 => zSI C (zmk J L M') _ Y_X11_decoys (d + 12) 75 [(0, .ref 265), (1, .int (nI p)), (2, .int (nI x)), (3, .int (nI n)), (4, .int (cur I (36 + p))), (5, .int (cur I (42 + p))), (6, .int (nI t)), (7, .int (decV (cur I) cs p t x n y)), (8, .int (nI y))] [] J2 L M') (J := fun y J2 => MF J J2 ∧ cur J2 = cur I) 4096 ?_ ?_ 0 J (Nat.zero_le _) ⟨MF.rf, ecu⟩
        · rintro J2 ⟨g1, g2⟩
          refine t_X11_decoys_75 (d + 5) _ _ _ _ _ _ _ _ _ (br_t (by decide) ⟨rfl, Inv_same h (g1.ri.trans eri) g2 ?_ m1 m2⟩)
          rw [← ecv]
          exact cv_far fun a ha hb => funext fun j => g1 a j (by omega)
        · rintro y J2 hy ⟨g1, g2⟩ ih
          have hlt : ¬ (4096 : Int32) ≤ nI y := fun z => by have := (nI_le_iff (a := 4096) (b := y) (by omega) (by omega)).mp z; omega
          have stay : decV (cur I) cs p t x n (y + 1) = decV (cur I) cs p t x n y → zSI C (zmk J L M') (fun r2 I2 L2 M2 => r2 = decV (cur I) cs p t x n 4096 ∧ Inv I2 L2 M2) Y_X11_decoys (d + 12) 75 [(0, .ref 265), (1, .int (nI p)), (2, .int (nI x)), (3, .int (nI n)), (4, .int (cur I (36 + p))), (5, .int (cur I (42 + p))), (6, .int (nI t)), (7, .int (decV (cur I) cs p t x n y)), (8, .int (nI y + 1))] [] J2 L M' := fun e => by
            have := ih J2 ⟨g1, g2⟩
            rw [e] at this
            rw [nI_1]
            exact this
          have s114 : nI y &&& cur I (36 + p) = 0 → (decV (cur I) cs p t x n y = -5 ∨ zbc (nI y) < zbc (decV (cur I) cs p t x n y)) → zSI C (zmk J L M') (fun r2 I2 L2 M2 => r2 = decV (cur I) cs p t x n 4096 ∧ Inv I2 L2 M2) Y_X11_decoys (d + 12) 114 [(0, .ref 265), (1, .int (nI p)), (2, .int (nI x)), (3, .int (nI n)), (4, .int (cur I (36 + p))), (5, .int (cur I (42 + p))), (6, .int (nI t)), (7, .int (decV (cur I) cs p t x n y)), (8, .int (nI y))] [] J2 L M' := by
            intro y1 y2
            refine t_X11_decoys_114 (d + 5) _ _ _ _ _ _ _ _ _ ⟨h6, ?_⟩
            rw [nI_clamp (by omega)]
            refine count_st (P := fun i J3 => zSI C (zmk J L M') _ Y_X11_decoys (d + 12) 128 [(0, .ref 265), (1, .int (nI p)), (2, .int (nI x)), (3, .int (nI n)), (4, .int (cur I (36 + p))), (5, .int (cur I (42 + p))), (6, .int (nI t)), (7, .int (decV (cur I) cs p t x n y)), (8, .int (nI y)), (9, .int (nI i))] [] J3 L M') (J := fun i J3 => MF J J3 ∧ cur J3 = onesV cs p i (upd (cur I) (36 + p) (cur I (36 + p) ||| nI y))) n ?_ ?_ 0 _ (Nat.zero_le _) ⟨fun a j q => by rw [u2_n1 _ _ (by omega)]; exact g1 a j q, by rw [cur_in' _ (l_m p hp6) (by omega), g2]; rfl⟩
            · rintro J3 ⟨k1, k2⟩
              refine t_X11_decoys_128 (d + 5) _ _ _ _ _ _ _ _ _ _ (br_t (Int32.le_refl _) ⟨h6, ?_⟩)
              have hgo : J3 270 p = goC (cur I) cs p t (cur I (36 + p) ||| nI y) n := by
                rw [← cur_at (I := J3) (l_m p hp6) (by omega), k2]
                have := ((Sq_ones cs hp6 (w := upd (cur I) (36 + p) (cur I (36 + p) ||| nI y)) (t := t) (by rw [up_n _ _ (by omega)]; exact t2) n).go n (Nat.le_refl _)).1
                rw [this, show onesV cs p 0 (upd (cur I) (36 + p) (cur I (36 + p) ||| nI y)) (36 + p) = cur I (36 + p) ||| nI y from up_s _ _ _]
                exact goC_w cs t _ (fun m => Sm_m (cur I) hp6 _ m) n
              rw [nI_clamp (by omega), hgo]
              have s162 : ∀ v : Int32, decV (cur I) cs p t x n (y + 1) = v → zSI C (zmk J L M') (fun r2 I2 L2 M2 => r2 = decV (cur I) cs p t x n 4096 ∧ Inv I2 L2 M2) Y_X11_decoys (d + 12) 162 [(0, .ref 265), (1, .int (nI p)), (2, .int (nI x)), (3, .int (nI n)), (4, .int (cur I (36 + p))), (5, .int (cur I (42 + p))), (6, .int (nI t)), (7, .int v), (8, .int (nI y))] [] J3 L M' := by
                rintro v rfl
                refine t_X11_decoys_162 (d + 5) _ _ _ _ _ _ _ _ _ (t_X11_restores (d + 10) _ _ _ _ _ ⟨h6, h6, ?_⟩)
                rw [nI_clamp (by omega), nI_1]
                refine ih _ ⟨fun a j q => ?_, ?_⟩
                · rw [u2_ne _ _ (by omega), u2_n1 _ _ (by omega), u2_n1 _ _ (by omega)]
                  exact k1 a j q
                · rw [cur_in' _ (show loc 135 = (265, 9) from rfl) (by omega), cur_in' _ (l_l p hp6) (by omega), cur_in' _ (l_m p hp6) (by omega), k2, ← t2]
                  exact ones_back cs hp6 (cur I) _ n
              refine ⟨fun z3 => s162 _ ?_, fun z3 => s162 _ ?_⟩
              · show (if _ then _ else _) = _
                rw [if_neg (fun q => z3 q.2.2)]
              · show (if _ then _ else _) = _
                rw [if_pos ⟨y1, y2, z3⟩]
            · rintro i J3 hi ⟨k1, k2⟩ ihi
              refine t_X11_decoys_128 (d + 5) _ _ _ _ _ _ _ _ _ _ (br_f (fun z => by have := (nI_le_iff (a := n) (b := i) (by omega) (by omega)).mp z; omega) ?_)
              have offc : ∀ j, j ≠ 36 + p → j ≠ 42 + p → j ≠ 135 → cur J3 j = cur I j := fun j j1 j2 j3 => by rw [k2, onesV_off cs _ i j1 j2 j3, up_n _ _ j1]
              refine sp_oneM (d + 5) hp6 (cs := cs) (by rw [k1 265 17 (by omega), f' 265 17 (by omega)]; exact k1.hs (Hs_fr eri hH)) hk0 (by rw [offc _ (by omega) (by omega) (by omega)]; exact ek0) hv0 (by rw [offc _ (by omega) (by omega) (by omega)]; exact ev0) _ fun J4 a b => ?_
              rw [nI_1]
              exact ihi J4 ⟨k1.tr a, by rw [b, k2]; rfl⟩
          refine t_X11_decoys_75 (d + 5) _ _ _ _ _ _ _ _ _ (br_f hlt ⟨fun z => stay ?_, fun z => ⟨fun z2 => s114 z (Or.inl z2), fun z2 => ⟨fun z3 => s114 z (Or.inr z3), fun z3 => stay ?_⟩⟩⟩)
          · show (if _ then _ else _) = _
            rw [if_neg (fun q => z q.1)]
          · show (if _ then _ else _) = _
            rw [if_neg (fun q => q.2.1.elim z2 z3)]
      · intro y J hy hS ih
        have hlt : ¬ (4095 : Int32) < nI y := fun z => by have := (nI_lt_iff (a := 4095) (b := y) (by omega) (by omega)).mp z; omega
        have stay : ∀ J', LSt I J' M' (3 + 33 + 2 * p) p (cur I) cs → decV (cur I) cs p t x n (y + 1) = decV (cur I) cs p t x n y → zSI C (zmk I L M) (fun r I1 L1 M1 => zCI C Y_X11_decoys (d + 12) [.ref 265, .int (nI p), .int (nI x), .int (nI n)] (zmk I1 L1 M1) (fun r2 I2 L2 M2 => r2 = r ∧ Inv I2 L2 M2)) Y_X10_fewestDecoys (d + 11) 18 [(0, .ref 0), (1, .ref (3 + 33 + 2 * p)), (2, .int (nI x)), (3, .int (nI n)), (4, .ref (163 + 15 * p)), (5, .int (decV (cur I) cs p t x n y)), (6, .int (fwV (decV (cur I) cs p t x n y))), (7, .int (nI y + 1))] [] J' L M' := fun J' hS' e => by
          have := ih J' hS'
          rw [e] at this
          rw [nI_1]
          exact this
        obtain ⟨zn, zn1, zn2⟩ := zbc_le y hy
        have hfw : ¬ fwV (decV (cur I) cs p t x n y) ≤ zbc (nI y) ↔ (decV (cur I) cs p t x n y = -5 ∨ zbc (nI y) < zbc (decV (cur I) cs p t x n y)) := by
          unfold fwV
          by_cases e : decV (cur I) cs p t x n y = -5
          · rw [if_pos e]
            refine ⟨fun _ => Or.inl e, fun _ q => ?_⟩
            rw [zn2] at q
            have := (nI_le_iff (a := 13) (b := zn) (by omega) (by omega)).mp q
            omega
          · rw [if_neg e]
            exact ⟨fun q => Or.inr (nle_lt q), fun q => lt_nle (q.resolve_left e)⟩
        refine t_X10_fewestDecoys_18 (d + 5) (gI i0 p hp6) (hL p hp6) _ _ _ _ _ _ (br_f hlt ?_)
        rw [hS.1 _ _ (by omega), e3]
        refine ⟨fun z => stay J hS ?_, fun z => ⟨fun z2 => stay J hS ?_, fun z2 => ?_⟩⟩
        · show (if _ then _ else _) = _
          rw [if_neg (fun q => z q.1)]
        · show (if _ then _ else _) = _
          rw [if_neg (fun q => (hfw.mpr q.2.1) z2)]
        · refine sp_keeps (d + 5) hS e4 t1 hn hx _ _ fun J' hS' => ⟨fun z3 => stay J' hS' ?_, fun z3 => ?_⟩
          · show (if _ then _ else _) = _
            rw [if_neg (fun q => (zb_f z3) q.2.2)]
          · have := ih J' hS'
            have e : decV (cur I) cs p t x n (y + 1) = nI y := by
              show (if _ then _ else _) = _
              rw [if_pos ⟨z, hfw.mp z2, zb_t z3⟩]
            rw [e] at this
            unfold fwV at this
            rw [if_neg (m5_n hy)] at this
            rw [nI_1]
            exact this
  · obtain ⟨p, hp6, hp, rfl, hq⟩ := h.g q
    exact t_X11_decoys (d + 5) _ _ _ _ (br_t' hq (br_t q2 (br_f (fun z => q4 z.2) ⟨rfl, h⟩)))
  · obtain ⟨p, hp6, hp, rfl, hq⟩ := h.g q
    exact t_X11_decoys (d + 5) _ _ _ _ (br_t' hq (br_f q2 ⟨rfl, h⟩))
end SM
