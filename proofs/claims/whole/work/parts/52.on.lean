/-! ON, MEAN, ENDS -/
/-- kept ahead, and had again -/
theorem again_same {I J1 J2 J3 : Nat → Nat → Int32} (h1 : KS I 292 (fun j => j < 140) J1) (h2 : ∀ a j, a = 292 ∨ AF a j → ¬ (a = 281 ∨ a = 293) → J2 a j = J1 a j) (h3 : AS J2 292 (fun j => j < 140) J3) : rI J3 = rI I ∧ cur J3 = cur I ∧ ∀ a j, a < 265 → J3 a j = I a j := by
  have f : ∀ a j, AF a j → a ≠ 292 → a ≠ 281 → a ≠ 293 → J3 a j = I a j := fun a j q1 q2 q3 q4 => by
    rw [h3.1 a j q1, h2 a j (Or.inr q1) (by omega), h1.1 a j (Or.inl q2)]
  refine ⟨rI_eq fun a j q => f a j (by unfold Ra at q; unfold AF; omega) (by unfold Ra at q; omega) (by unfold Ra at q; omega) (by unfold Ra at q; omega), ?_, fun a j q => f a j (by unfold AF; omega) (by omega) (by omega) (by omega)⟩
  funext k
  by_cases hk : k < 140
  · rw [h3.2 k hk hk, h2 292 k (Or.inl rfl) (by omega), h1.2 k hk]
  · unfold cur
    rw [if_neg hk, if_neg hk]
theorem MF.keep {J1 J2 : Nat → Nat → Int32} (h : MF J1 J2) : ∀ a j, a = 292 ∨ AF a j → ¬ (a = 281 ∨ a = 293) → J2 a j = J1 a j := fun a j q1 q2 => h a j (by unfold AF at q1; omega)
theorem z292 : zsh 292 = (12, 140) := by decide +kernel
theorem KS.fr {I J : Nat → Nat → Int32} (h : KS I 292 (fun j => j < 140) J) : (∀ a j, a ≠ 292 → J a j = I a j) ∧ cur J = cur I ∧ rI J = rI I := ⟨fun a j q => h.1 a j (Or.inl q), cur_eq fun k hk => h.1 _ _ (Or.inl (by have := loc_rng k hk; omega)), rI_eq fun a j q => h.1 a j (Or.inl (by unfold Ra at q; omega))⟩
section SM
variable {C : zC} {I I' : Nat → Nat → Int32} {L L' : Nat → Nat → Int64} {M : Nat → Nat → Option Nat}
/-- what on() tells -/
def onV (w : Nat → Int32) (n : Nat) (x : Int32) : Int32 := if x = 0 then mbaV w n else if 30 ≤ x then w (36 + cn (x - 30)) else w (12 + cn (x - 10))
theorem sp_onM (d : Nat) {cs : List zCl} {B inns n k : Nat} (hH : Hs I (I 265 17) cs) (hW : Wok B inns (cur I)) (hn : n ≤ 6) (e : I 265 2 = nI n) (hk : k ≤ 60) {x : Int32} (hx : x = 0 ∨ (∃ j, j < 12 ∧ x - 10 = nI j ∧ ¬ 30 ≤ x ∧ ¬ x = 0) ∨ ∃ p, p < n ∧ x - 30 = nI p ∧ 30 ≤ x ∧ ¬ x = 0) (K : KI) (hK : ∀ J, rI J = rI I → cur J = cur I → (∀ a j, a < 265 → J a j = I a j) → K (onV (nightsV cs k (cur I)) n x) J L M) {hh : zH} : zSI C hh K Y_X11_on (d + 7) 27 [(0, .ref 265), (1, .int (nI k)), (2, .int x)] [] I L M := by
  have q60 : (0 : Int32) ≤ nI k ∧ nI k ≤ 60 := ⟨nI_pos' (by omega), (nI_le_iff (a := k) (b := 60) (by omega) (by omega)).mpr hk⟩
  refine t_X11_on_27 d _ _ _ (br_t q60 ?_)
  refine sp_keep (d + 5) z292 (by omega) (by omega) (by omega) _ fun J1 h1 => ?_
  obtain ⟨f1, c1, r1⟩ := h1.fr
  refine count_st (P := fun y J => zSI C hh K Y_X11_on (d + 7) 50 [(0, .ref 265), (1, .int (nI k)), (2, .int x), (3, .int (nI y))] [] J L M) (J := fun y J => MF J1 J ∧ cur J = nightsV cs y (cur I)) k ?_ ?_ 0 J1 (Nat.zero_le _) ⟨MF.rf, c1⟩
  · intro J h
    have fin : ∀ (J2 : Nat → Nat → Int32) (v : Int32), (∀ a j, a ≠ 281 → J2 a j = J a j) → v = onV (nightsV cs k (cur I)) n x → zCV C Y_X11_again (d + 6) [.ref 265, .ref 292] (zmk J2 L M) (fun I1 L1 M1 => K v I1 L1 M1) := by
      intro J2 v hJ hv
      refine sp_again (d + 5) z292 (by omega) (by omega) (by omega) _ fun J3 h3 => ?_
      obtain ⟨a, b, c⟩ := again_same h1 (fun a j q1 q2 => (hJ a j (by omega)).trans (h.1.keep a j q1 q2)) h3
      rw [hv]
      exact hK J3 a b c
    refine t_X11_on_50 d _ _ _ _ (br_t (Int32.le_refl _) ?_)
    rcases hx with rfl | ⟨j, hj, ej, q1, q2⟩ | ⟨p, hp, ep, q1, q2⟩
    · refine br_t' rfl (sp_mbaM (d + 4) hn (by rw [h.1 265 2 (by omega), f1 _ _ (by omega)]; exact e) _ ?_)
      rw [h.2]
      exact fin J _ (fun _ _ _ => rfl) (by unfold onV; rw [if_pos rfl])
    · refine br_f' q2 (br_f q1 ?_)
      rw [ej, nI_clamp (by omega)]
      refine ⟨vp_in_nI hj (by omega), fin J _ (fun _ _ _ => rfl) ?_⟩
      unfold onV
      rw [if_neg q2, if_neg q1, ej, cn_nI (by omega), ← h.2]
      exact (cur_at (l_c j hj) (by omega)).symm
    · refine br_f' q2 (br_t q1 ?_)
      rw [ep, nI_clamp (by omega)]
      refine ⟨vp_in_nI (by omega) (by omega), fin J _ (fun _ _ _ => rfl) ?_⟩
      unfold onV
      rw [if_neg q2, if_pos q1, ep, cn_nI (by omega), ← h.2]
      exact (cur_at (l_m p (by omega)) (by omega)).symm
  · intro y J hy h ih
    refine t_X11_on_50 d _ _ _ _ (br_f (fun z => by have := (nI_le_iff (a := k) (b := y) (by omega) (by omega)).mp z; omega) ?_)
    refine sp_nightM d (cs := cs) (by
      rw [h.1 265 17 (by omega), f1 265 17 (by omega)]
      exact h.1.hs (Hs_fr r1 hH)) (by rw [h.2]; exact Wok_nights cs hW y) _ fun J3 a b => ?_
    rw [nI_1]
    exact ih J3 ⟨h.1.tr a, by rw [b, h.2]; rfl⟩
theorem i32s (x : Int32) (c : Int32) : (x - c).toInt = (x.toInt - c.toInt).bmod (2 ^ 32) := Int32.toInt_sub x c
theorem pr_on (d : Nat) (h : Inv I L M) (x1 x2 : Int32) : PrI C Y_X10_on Y_X11_on (d + 12) [.int x1, .int x2] I L M := by
  obtain ⟨cs, hH⟩ := h.hs
  obtain ⟨n, n1, n2, n3, n4⟩ := h.n
  have g1 : (0 ≤ x2 - 30 ∧ x2 - 30 < I 3 3) ↔ (0 ≤ x2 - 30 ∧ x2 - 30 ≤ I 265 2 - 1) := by rw [n2, n3]; exact (one_iff n1 _).symm
  -- the three ways
  have key : (x2 = 0 ∨ (∃ j, j < 12 ∧ x2 - 10 = nI j ∧ ¬ 30 ≤ x2 ∧ ¬ x2 = 0) ∨ ∃ p, p < n ∧ x2 - 30 = nI p ∧ 30 ≤ x2 ∧ ¬ x2 = 0) → zSI C (zmk I L M) (fun r I1 L1 M1 => zCI C Y_X11_on (d + 12) [.ref 265, .int x1, .int x2] (zmk I1 L1 M1) (fun r2 I2 L2 M2 => r2 = r ∧ Inv I2 L2 M2)) Y_X10_on (d + 12) 33 [(0, .ref 0), (1, .int x1), (2, .int x2), (3, .int (zb (0 ≤ (x2 - (30 : Int32)) ∧ (x2 - (30 : Int32)) < I 3 3))), (4, .int (zb (0 ≤ (x2 - (10 : Int32)) ∧ (x2 - (10 : Int32)) < 12)))] [] I L M := by
    intro hx
    -- the model's way to its pc 27
    have m27 : ∀ {J M'} {K : KI}, J 265 2 = I 265 2 → zSI C (zmk J L M') K Y_X11_on (d + 12) 27 [(0, .ref 265), (1, .int x1), (2, .int x2)] [] J L M' → zCI C Y_X11_on (d + 12) [.ref 265, .int x1, .int x2] (zmk J L M') K := by
      intro J M' K e2 k
      refine t_X11_on (d + 5) _ _ _ ?_
      rw [e2, ← g1]
      refine ⟨fun _ => k, fun q0 => ⟨fun _ => k, fun q1 => ⟨fun _ => k, fun q2 => ?_⟩⟩⟩
      exfalso
      rcases hx with q | ⟨j, hj, ej, -⟩ | ⟨p, hp, ep, -⟩
      · exact q0 q
      · exact q1 (by rw [ej]; exact ⟨nI_pos' (by omega), (nI_lt_iff (b := 12) (by omega) (by omega)).mpr hj⟩)
      · exact q2 (by rw [ep, n3]; exact ⟨nI_pos' (by omega), (nI_lt_iff (by omega) (by omega)).mpr hp⟩)
    refine t_X10_on_33 (d + 5) _ _ _ _ _ ⟨fun q => ?_, fun q => ?_⟩
    · obtain ⟨k, hk, rfl⟩ := rgle 60 (by omega) q.1 q.2
      refine sp_behind (d + 5) h hH hk _ fun J M' h1 h2 e3 e48 => ⟨i2, ?_⟩
      have f : ∀ a j, 265 ≤ a → J a j = I a j := fun a j ha => h1 a j (by omega) (by unfold CF; omega)
      have ecu : cur J = cur I := cur_low fun a ha => funext fun j => f a j ha
      have eri := h1.ri (Or.inr rfl)
      have ecv : cv J 3 = cv I 3 := cv_far fun a ha hb => funext fun j => h1 a j (by omega) (by unfold CF; omega)
      -- the model tells onV
      have mod : ∀ v : Int32, v = onV (nightsV cs k (cur I)) n x2 → zCI C Y_X11_on (d + 12) [.ref 265, .int (nI k), .int x2] (zmk J L M') (fun r2 I2 L2 M2 => r2 = v ∧ Inv I2 L2 M2) := by
        intro v hv
        refine m27 (f _ _ (by omega)) ?_
        refine sp_onM (d + 5) (cs := cs) (n := n) (by rw [f 265 17 (by omega)]; exact Hs_fr eri hH) (by rw [ecu]; exact h.1) n1 ((f _ _ (by omega)).trans n2) hk hx _ fun J2 a b c => ?_
        rw [ecu, hv]
        refine ⟨rfl, Inv_same h (a.trans eri) (b.trans ecu) ?_ e3 e48⟩
        rw [← ecv]
        exact cv_far fun a ha hb => funext fun j => c a j (by omega)
      have w134 : cn (nightsV cs k (cur I) 134) = n := by rw [nightsV_off cs h.1 k (by omega)]; exact n4
      have wm : ∀ g, g < n → J (93 + 33 + 2 * g) 3 = nightsV cs k (cur I) (36 + g) := fun g hg => by
        obtain ⟨-, -, l3, -⟩ := live_g (w := nightsV cs k (cur I)) (g := g) (by omega) (by omega)
        rw [← cv_at (I := J) (c_m 93 (x := g) (by omega)) (by omega)]
        exact h2.1 _ (by omega) (Or.inl (by omega)) l3
      rcases hx with rfl | ⟨j, hj, ej, q1, q2⟩ | ⟨p, hp, ep, q1, q2⟩
      · refine ⟨fun _ => ⟨fun _ => ?_, fun z => absurd (zb_t z).1 (by decide)⟩, fun z => absurd (zb_t z).1 (by decide)⟩
        refine sp_mbaC (d + 9) i2 n1 ?_ wm _ (mod _ (by unfold onV; rw [if_pos rfl]))
        have := h2.1 134 (by omega) (by omega) (by unfold live; omega)
        rw [nightsV_off cs h.1 k (by omega)] at this
        exact this.trans n2
      · have q30 : ¬ (0 ≤ x2 - 30 ∧ x2 - 30 < I 3 3) := by
          rintro ⟨z, z2⟩
          apply q1
          have e1 : x2 = nI (10 + j) := by
            have : x2 = (x2 - 10) + 10 := by rw [Int32.sub_add_cancel]
            rw [this, ej, show (10 : Int32) = nI 10 from rfl, nI_add, Nat.add_comm]
          exfalso
          rw [e1] at z
          exact absurd z ((by decide : ∀ j, j < 12 → ¬ 0 ≤ nI (10 + j) - 30) j hj)
        refine ⟨fun _ => ⟨fun z => absurd (by rw [ej]; exact ⟨nI_pos' (by omega), (nI_lt_iff (b := 12) (by omega) (by omega)).mpr hj⟩) (zb_f z), fun _ => ?_⟩, fun z => absurd (zb_t z) q30⟩
        rw [ej, nI_clamp (by omega)]
        refine ⟨vp_in_nI hj (by omega), mod _ ?_⟩
        unfold onV
        rw [if_neg q2, if_neg q1, ej, cn_nI (by omega), ← cv_at (I := J) (c_c 93 hj) (by omega)]
        exact h2.1 _ (by omega) (Or.inl (by omega)) (by unfold live; omega)
      · refine ⟨fun z => absurd (by rw [ep, n3]; exact ⟨nI_pos' (by omega), (nI_lt_iff (by omega) (by omega)).mpr hp⟩) (zb_f z), fun _ => ?_⟩
        rw [ep, nI_clamp (by omega)]
        refine ⟨vp_in_nI (by omega) (by omega), mod _ ?_⟩
        unfold onV
        rw [if_neg q2, if_pos q1, ep, cn_nI (by omega)]
        exact wm p hp
    · refine m27 rfl ?_
      exact t_X11_on_27 (d + 5) _ _ _ (br_f q ⟨rfl, h⟩)
  refine t_X10_on (d + 5) x1 x2 _ ⟨fun q => key (Or.inl q), fun q0 => ⟨fun q => key (Or.inr (Or.inl ?_)), fun q1 => ⟨fun q => key (Or.inr (Or.inr ?_)), fun q2 => ?_⟩⟩⟩
  · obtain ⟨j, hj, ej⟩ := rg 12 (by omega) q.1 q.2
    refine ⟨j, hj, ej, ?_, q0⟩
    have e1 : x2 = nI (10 + j) := by
      have : x2 = (x2 - 10) + 10 := by rw [Int32.sub_add_cancel]
      rw [this, ej, show (10 : Int32) = nI 10 from rfl, nI_add, Nat.add_comm]
    rw [e1]
    exact (by decide : ∀ j, j < 12 → ¬ 30 ≤ nI (10 + j)) j hj
  · rw [n3] at q
    obtain ⟨p, hp, ep⟩ := rg n (by omega) q.1 q.2
    refine ⟨p, hp, ep, ?_, q0⟩
    have e1 : x2 = nI (30 + p) := by
      have : x2 = (x2 - 30) + 30 := by rw [Int32.sub_add_cancel]
      rw [this, ep, show (30 : Int32) = nI 30 from rfl, nI_add, Nat.add_comm]
    rw [e1]
    exact (nI_le_iff (a := 30) (by omega) (by omega)).mpr (by omega)
  · refine t_X11_on (d + 5) _ _ _ ?_
    rw [← g1]
    exact br_f q0 (br_f q1 (br_f q2 ⟨rfl, h⟩))
end SM
