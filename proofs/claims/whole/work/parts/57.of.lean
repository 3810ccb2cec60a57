/-! OF, LASTS -/
theorem m5_61 : ∀ i, i < 61 → ¬ nI i = -5 := by decide +kernel
theorem fst_congr {f g : Nat → Prop} [DecidablePred f] [DecidablePred g] : ∀ (k i : Nat), (∀ j, i ≤ j → j < i + k → (f j ↔ g j)) → fstV f k i = fstV g k i := by
  intro k
  induction k with
  | zero => intro i _; rfl
  | succ k ih =>
    intro i h
    unfold fstV
    rw [ih (i + 1) fun j a b => h j (by omega) (by omega)]
    by_cases q : f i
    · rw [if_pos q, if_pos ((h i (by omega) (by omega)).mp q)]
    · rw [if_neg q, if_neg (fun z => q ((h i (by omega) (by omega)).mpr z))]
section SM
variable {C : zC} {I I' : Nat → Nat → Int32} {L L' : Nat → Nat → Int64} {M : Nat → Nat → Option Nat}
theorem sp_emM (d : Nat) {cs : List zCl} {B inns p : Nat} (hH : Hs I (I 265 17) cs) (hW : Wok B inns (cur I)) (hp6 : p < 6) (K : KI) (hK : ∀ J, rI J = rI I → cur J = cur I → (∀ a j, a < 265 → J a j = I a j) → K (fstV (fun i => nightsV cs i (cur I) (36 + p) = 0) 61 0) J L M) : zCI C Y_X11_empty (d + 7) [.ref 265, .int (nI p)] (zmk I L M) K := by
  have h6 := vp_in_nI hp6 (by omega : 6 < 2 ^ 31)
  refine t_X11_empty d _ _ ?_
  refine sp_keep (d + 5) z292 (by omega) (by omega) (by omega) _ fun J1 h1 => ?_
  obtain ⟨f1, c1, r1⟩ := h1.fr
  have fin : ∀ (J : Nat → Nat → Int32) (v : Int32), MF J1 J → v = fstV (fun i => nightsV cs i (cur I) (36 + p) = 0) 61 0 → zCV C Y_X11_again (d + 6) [.ref 265, .ref 292] (zmk J L M) (fun I1 L1 M1 => K v I1 L1 M1) := by
    intro J v hJ hv
    refine sp_again (d + 5) z292 (by omega) (by omega) (by omega) _ fun J3 h3 => ?_
    obtain ⟨a, b, c⟩ := again_same h1 hJ.keep h3
    rw [hv]
    exact hK J3 a b c
  have key : ∀ (k i : Nat) (J : Nat → Nat → Int32), i + k = 61 → MF J1 J → cur J = nightsV cs (i - 1) (cur I) → fstV (fun i => nightsV cs i (cur I) (36 + p) = 0) 61 0 = fstV (fun i => nightsV cs i (cur I) (36 + p) = 0) k i → zSI C (zmk I L M) K Y_X11_empty (d + 7) 13 [(0, .ref 265), (1, .int (nI p)), (2, .int (-5)), (3, .int (nI i))] [] J L M := by
    intro k
    induction k with
    | zero =>
      intro i J hi hF hc he
      exact t_X11_empty_13 d _ _ _ _ (br_t ((nI_le_iff (a := 61) (by omega) (by omega)).mpr (by omega)) (fin J _ hF he.symm))
    | succ k ih =>
      intro i J hi hF hc he
      have s33 : ∀ J', MF J1 J' → cur J' = nightsV cs i (cur I) → zSI C (zmk I L M) K Y_X11_empty (d + 7) 33 [(0, .ref 265), (1, .int (nI p)), (2, .int (-5)), (3, .int (nI i))] [] J' L M := by
        intro J' hF' hc'
        refine t_X11_empty_33 d _ _ _ _ ⟨h6, ?_⟩
        rw [nI_clamp (by omega), ← cur_at (I := J') (l_m p hp6) (by omega), hc', nI_1]
        unfold fstV at he
        refine ⟨fun z => ?_, fun z => ?_⟩
        · rw [if_neg z] at he
          exact ih (i + 1) J' (by omega) hF' hc' he
        · rw [if_pos z] at he
          by_cases q : 61 ≤ i + 1
          · exact t_X11_empty_13 d _ _ _ _ (br_t ((nI_le_iff (a := 61) (by omega) (by omega)).mpr q) (fin J' _ hF' he.symm))
          · exact t_X11_empty_13 d _ _ _ _ (br_f (fun z => q ((nI_le_iff (a := 61) (by omega) (by omega)).mp z)) (br_f' (m5_61 i (by omega)) (fin J' _ hF' he.symm)))
      refine t_X11_empty_13 d _ _ _ _ (br_f (fun z => by have := (nI_le_iff (a := 61) (b := i) (by omega) (by omega)).mp z; omega) (br_t' rfl ⟨fun z => ?_, fun z => ?_⟩))
      · have : i = 0 := by
          have := (nI_le_iff (a := i) (b := 0) (by omega) (by omega)).mp z
          omega
        subst this
        exact s33 J hF hc
      · have hi0 : 0 < i := Nat.pos_of_ne_zero fun q => z (by rw [q]; decide)
        refine sp_nightM d (cs := cs) (by
          rw [hF 265 17 (by omega), f1 265 17 (by omega)]
          exact hF.hs (Hs_fr r1 hH)) (by rw [hc]; exact Wok_nights cs hW (i - 1)) _ fun J3 a b => ?_
        refine s33 J3 (hF.tr a) ?_
        rw [b, hc]
        obtain ⟨m, rfl⟩ : ∃ m, i = m + 1 := ⟨i - 1, by omega⟩
        rfl
  exact key 61 0 J1 rfl MF.rf c1 rfl
theorem sp_laM (d : Nat) {cs : List zCl} {B inns p x : Nat} (hH : Hs I (I 265 17) cs) (hW : Wok B inns (cur I)) (hp6 : p < 6) (hx : x < 12) (K : KI) (hK : ∀ J, rI J = rI I → cur J = cur I → (∀ a j, a < 265 → J a j = I a j) → K (fstV (fun i => ¬ zhas (nightsV cs i (cur I) (36 + p)) (nI x)) 60 1) J L M) {hh : zH} : zCV C Y_X11_keep (d + 6) [.ref 265, .ref 292] (zmk I L M) (fun I1 L1 M1 => zSI C hh K Y_X11_lasts (d + 7) 47 [(0, .ref 265), (1, .int (nI p)), (2, .int (nI x)), (3, .int (-5)), (4, .int 1)] [] I1 L1 M1) := by
  have h6 := vp_in_nI hp6 (by omega : 6 < 2 ^ 31)
  refine sp_keep (d + 5) z292 (by omega) (by omega) (by omega) _ fun J1 h1 => ?_
  obtain ⟨f1, c1, r1⟩ := h1.fr
  have fin : ∀ (J : Nat → Nat → Int32) (v : Int32), MF J1 J → v = fstV (fun i => ¬ zhas (nightsV cs i (cur I) (36 + p)) (nI x)) 60 1 → zCV C Y_X11_again (d + 6) [.ref 265, .ref 292] (zmk J L M) (fun I1 L1 M1 => K v I1 L1 M1) := by
    intro J v hJ hv
    refine sp_again (d + 5) z292 (by omega) (by omega) (by omega) _ fun J3 h3 => ?_
    obtain ⟨a, b, c⟩ := again_same h1 hJ.keep h3
    rw [hv]
    exact hK J3 a b c
  have key : ∀ (k i : Nat) (J : Nat → Nat → Int32), i + 1 + k = 61 → MF J1 J → cur J = nightsV cs i (cur I) → fstV (fun i => ¬ zhas (nightsV cs i (cur I) (36 + p)) (nI x)) 60 1 = fstV (fun i => ¬ zhas (nightsV cs i (cur I) (36 + p)) (nI x)) k (i + 1) → zSI C hh K Y_X11_lasts (d + 7) 47 [(0, .ref 265), (1, .int (nI p)), (2, .int (nI x)), (3, .int (-5)), (4, .int (nI (i + 1)))] [] J L M := by
    intro k
    induction k with
    | zero =>
      intro i J hi hF hc he
      exact t_X11_lasts_47 d _ _ _ _ _ (br_t ((nI_le_iff (a := 61) (by omega) (by omega)).mpr (by omega)) (fin J _ hF he.symm))
    | succ k ih =>
      intro i J hi hF hc he
      refine t_X11_lasts_47 d _ _ _ _ _ (br_f (fun z => by have := (nI_le_iff (a := 61) (b := i + 1) (by omega) (by omega)).mp z; omega) (br_t' rfl ?_))
      refine sp_nightM d (cs := cs) (by
        rw [hF 265 17 (by omega), f1 265 17 (by omega)]
        exact hF.hs (Hs_fr r1 hH)) (by rw [hc]; exact Wok_nights cs hW i) _ fun J3 a b => ⟨h6, ?_⟩
      have hc3 : cur J3 = nightsV cs (i + 1) (cur I) := by rw [b, hc]; rfl
      rw [nI_clamp (by omega), ← cur_at (I := J3) (l_m p hp6) (by omega), hc3, nI_1]
      unfold fstV at he
      refine ⟨fun z => ?_, fun z => ?_⟩
      · rw [if_neg (show ¬ ¬ zhas (nightsV cs (i + 1) (cur I) (36 + p)) (nI x) from fun q => q z)] at he
        exact ih (i + 1) J3 (by omega) (hF.tr a) hc3 he
      · rw [if_pos z] at he
        by_cases q : 61 ≤ i + 1 + 1
        · exact t_X11_lasts_47 d _ _ _ _ _ (br_t ((nI_le_iff (a := 61) (by omega) (by omega)).mpr q) (fin J3 _ (hF.tr a) he.symm))
        · exact t_X11_lasts_47 d _ _ _ _ _ (br_f (fun z => q ((nI_le_iff (a := 61) (by omega) (by omega)).mp z)) (br_f' (m5_61 (i + 1) (by omega)) (fin J3 _ (hF.tr a) he.symm)))
  exact key 60 0 J1 rfl MF.rf c1 rfl
theorem pr_lasts (d : Nat) (h : Inv I L M) (x1 x2 : Int32) : PrI C Y_X10_lasts Y_X11_lasts (d + 12) [.int x1, .int x2] I L M := by
  obtain ⟨cs, hH⟩ := h.hs
  refine t_X10_lasts (d + 7) x1 x2 _ ⟨fun q => ?_, fun q => ⟨fun q2 => ?_, fun q2 => ?_⟩⟩
  · exact t_X11_lasts (d + 5) _ _ _ (br_f' (h.ng q) ⟨rfl, h⟩)
  · obtain ⟨p, hp6, hp, rfl, hq⟩ := h.g q
    obtain ⟨x, hx, rfl⟩ := rg 12 (by omega) q2.1 q2.2
    have h6 := vp_in_nI hp6 (by omega : 6 < 2 ^ 31)
    obtain ⟨t, t1, t2⟩ := h.1.t
    have hlv := live_g hp hp6
    have e3 : I (3 + 33 + 2 * p) 3 = cur I (36 + p) := by
      rw [cur_at (l_m p hp6) (by omega)]
      exact h.at (by omega) hlv.2.2.1 (l_m p hp6) (c_m 3 hp6)
    have e4 : I 3 4 = nI t := (h.at (k := 135) (by omega) (by unfold live; omega) rfl rfl).trans t2
    have e5 : I 270 p = cur I (36 + p) := (cur_at (l_m p hp6) (by omega)).symm
    rw [nI_clamp (by omega), e3]
    refine ⟨h6, fun z => ?_, fun z => ?_⟩
    · refine sp_lureN (d + 8) h hH hp hp6 _ fun J M' hS m1 m2 => ⟨hL p hp6, ?_⟩
      rw [hS.1 _ _ (by omega), e3]
      have key : ∀ (k i : Nat) (J : Nat → Nat → Int32), i + 1 + k = 61 → LSt I J M' (3 + 33 + 2 * p) p (cur I) cs → fstV (fun i => ¬ zhas (goC (cur I) cs p t (cur I (36 + p)) i) (nI x)) 60 1 = fstV (fun i => ¬ zhas (goC (cur I) cs p t (cur I (36 + p)) i) (nI x)) k (i + 1) → zSI C (zmk I L M) (fun r I1 L1 M1 => zCI C Y_X11_lasts (d + 12) [.ref 265, .int (nI p), .int (nI x)] (zmk I1 L1 M1) (fun r2 I2 L2 M2 => r2 = r ∧ Inv I2 L2 M2)) Y_X10_lasts (d + 12) 57 [(0, .ref 0), (2, .int (nI x)), (4, .ref (163 + 15 * p)), (5, .int (goC (cur I) cs p t (cur I (36 + p)) i)), (6, .int (nI (i + 1)))] [] J L M' := by
        have mod : ∀ (J : Nat → Nat → Int32) (v : Int32), LSt I J M' (3 + 33 + 2 * p) p (cur I) cs → fstV (fun i => ¬ zhas (goC (cur I) cs p t (cur I (36 + p)) i) (nI x)) 60 1 = v → zCI C Y_X11_lasts (d + 12) [.ref 265, .int (nI p), .int (nI x)] (zmk J L M') (fun r2 I2 L2 M2 => r2 = v ∧ Inv I2 L2 M2) := by
          intro J v hS hv
          obtain ⟨eri, ecu, ecv⟩ := hS.inv h
          have f : ∀ a j, 253 ≤ a → J a j = I a j := fun a j ha => hS.1 a j (by omega)
          refine t_X11_lasts (d + 5) _ _ _ (br_t' (by rw [f 265 2 (by omega)]; exact hq) (br_t q2 ⟨h6, ?_⟩))
          rw [nI_clamp (by omega), f 270 p (by omega), e5]
          refine br_t z ?_
          refine sp_laM (d + 5) (cs := cs) (by rw [f 265 17 (by omega)]; exact Hs_fr eri hH) (by rw [ecu]; exact h.1) hp6 hx _ fun J2 a b c => ?_
          rw [ecu]
          refine ⟨?_, Inv_same h (a.trans eri) (b.trans ecu) ?_ m1 m2⟩
          · rw [← hv]
            refine fst_congr 60 1 fun j a b => ?_
            rw [((Sq_nights cs h.1 t2 hp 60).go j (by omega)).1]
            exact Iff.rfl
          · rw [← ecv]
            exact cv_far fun a ha hb => funext fun j => c a j (by omega)
        intro k
        induction k with
        | zero =>
          intro i J hi hS he
          exact t_X10_lasts_57 (d + 7) (hL p hp6) _ _ _ _ (br_t ((nI_lt_iff (a := 60) (by omega) (by omega)).mpr (by omega)) (mod J _ hS he))
        | succ k ih =>
          intro i J hi hS he
          refine t_X10_lasts_57 (d + 7) (hL p hp6) _ _ _ _ (br_f (fun z => by have := (nI_lt_iff (a := 60) (b := i + 1) (by omega) (by omega)).mp z; omega) ?_)
          rw [hS.1 3 4 (by omega), e4, nI_add, show nI (t + (i + 1)) - 1 = nI (t + i) by rw [nI_sub1 (by omega)]; rfl]
          refine sp_preyL (d + 7) hS (by omega) _ _ fun J' hS' => ?_
          have eg : zwo (goC (cur I) cs p t (cur I (36 + p)) i) (preyV (cur I) cs p (goC (cur I) cs p t (cur I (36 + p)) i) (nI (t + i))) = goC (cur I) cs p t (cur I (36 + p)) (i + 1) := rfl
          rw [eg, nI_1]
          unfold fstV at he
          refine ⟨fun z => ?_, fun z => ?_⟩
          · rw [if_neg (show ¬ ¬ zhas (goC (cur I) cs p t (cur I (36 + p)) (i + 1)) (nI x) from fun q => q z)] at he
            exact ih (i + 1) J' (by omega) hS' he
          · rw [if_pos z] at he
            exact mod J' _ hS' he
      exact key 60 0 J rfl hS rfl
    · refine t_X11_lasts (d + 5) _ _ _ (br_t' hq (br_t q2 ⟨h6, ?_⟩))
      rw [nI_clamp (by omega), e5]
      exact br_f z ⟨rfl, h⟩
  · obtain ⟨p, hp6, hp, rfl, hq⟩ := h.g q
    exact t_X11_lasts (d + 5) _ _ _ (br_t' hq (br_f q2 ⟨rfl, h⟩))
end SM
