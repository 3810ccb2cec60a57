/-! HOUSE -/
theorem HRel_tr {J J' : Nat → Nat → Int32} {cd cd' i : Nat} {cs : List zCl} (h : HRel J cd i cs) (hcd : cd ≤ cd') (e1 : ∀ j, J' (151 + 2 * i) j = J (151 + 2 * i) j) (e2 : ∀ j, J' (151 + 2 * i + 1) j = J (151 + 2 * i + 1) j) (e3 : J' 275 i = J 275 i) (e4 : ∀ b j, 276 ≤ b → b ≤ 279 → j < 10 * i + 10 → J' b j = J b j) (e5 : ∀ j, j < cd → J' 280 j = J 280 j) : HRel J' cd' i cs := by
  obtain ⟨q1, q2, q3, q4, q5, q6, q7, q8⟩ := h
  refine ⟨q1, q2, (e1 0).trans q3, q4, (e1 2).trans q5, fun j hj => (e2 j).trans (q6 j hj), e3.trans q7, fun j hj => ?_⟩
  obtain ⟨r1, r2, bg, r3, r4, r5, r6⟩ := q8 j hj
  exact ⟨(e4 _ _ (by omega) (by omega) (by omega)).trans r1, (e4 _ _ (by omega) (by omega) (by omega)).trans r2, bg, (e4 _ _ (by omega) (by omega) (by omega)).trans r3, (e4 _ _ (by omega) (by omega) (by omega)).trans r4, by omega, fun t ht => (e5 _ (by omega)).trans (r6 t ht)⟩
theorem hou_gd {T : Nat → Nat} (hT : ∀ j, T j < 128) {n : Nat} : ∀ (m a : Nat) (cs : List zCl), a ≤ n → (cs.flatMap stpC).length ≤ a → (houV T n m a cs).1 = true → ((houV T n m a cs).2.2.flatMap stpC).length ≤ (houV T n m a cs).2.1 ∧ (houV T n m a cs).2.1 ≤ n := by
  intro m
  induction m with
  | zero => intro a cs _ _ h; exact absurd h (by simp [houV])
  | succ m ih =>
    intro a cs ha hl
    have hc := cls_gd hT ha
    have e0 : houV T n (m + 1) a cs = (match clsV T n a with
      | (false, b, _) => (false, b, cs)
      | (true, b, q) => if b = n then (true, b, cs ++ [q]) else if m = 0 then (false, b, cs ++ [q]) else if nxV T n b = 59 then houV T n m (b + 1) (cs ++ [q]) else (false, b, cs ++ [q])) := rfl
    rw [e0]
    cases e : clsV T n a with
    | mk ok rr =>
      obtain ⟨b, q⟩ := rr
      rw [e] at hc
      cases ok with
      | false => intro h; exact absurd h (by simp)
      | true =>
        obtain ⟨g1, g2, g3⟩ := hc
        obtain ⟨g4, g5, g6, -⟩ := g3 rfl
        simp only at g1 g2 g4 g6
        have hl2 : ((cs ++ [q]).flatMap stpC).length ≤ b := by
          have es : (cs ++ [q]).flatMap stpC = cs.flatMap stpC ++ stpC q := by rw [List.flatMap_append]; simp
          rw [es, List.length_append]
          omega
        have key : ∀ X : Bool × Nat × List zCl, X = (if b = n then (true, b, cs ++ [q]) else if m = 0 then (false, b, cs ++ [q]) else if nxV T n b = 59 then houV T n m (b + 1) (cs ++ [q]) else (false, b, cs ++ [q])) → X.1 = true → (X.2.2.flatMap stpC).length ≤ X.2.1 ∧ X.2.1 ≤ n := by
          intro X hX
          by_cases h1 : b = n
          · rw [if_pos h1] at hX
            subst hX
            intro _
            exact ⟨hl2, g2⟩
          · rw [if_neg h1] at hX
            by_cases h2 : m = 0
            · rw [if_pos h2] at hX
              subst hX
              intro h; exact absurd h (by simp)
            · rw [if_neg h2] at hX
              by_cases h3 : nxV T n b = 59
              · rw [if_pos h3] at hX
                subst hX
                have := nx_in h3 (by decide)
                exact ih (b + 1) (cs ++ [q]) (by omega) (by omega)
              · rw [if_neg h3] at hX
                subst hX
                intro h; exact absurd h (by simp)
        exact key _ rfl
theorem Wok_inns {B i i' : Nat} {w : Nat → Int32} (h : Wok B i w) (hi : i ≤ i') : Wok B i' w := ⟨h.1, h.2.1, h.2.2.imp id fun ⟨k, a, b⟩ => ⟨k, by omega, b⟩⟩
section SM
variable {C : zC} {I I' : Nat → Nat → Int32} {L L' : Nat → Nat → Int64} {M : Nat → Nat → Option Nat}
theorem pr_house (d : Nat) (h : Inv I L M) : PrI C Y_X10_house Y_X11_house (d + 36) [] I L M := by
  have h0 := h
  obtain ⟨hW, hI, hN, hIm, ⟨hc, cd, a1, a2, a3, a4, a5, a6, a7, a8⟩, ⟨n, b1, b2, b3, b4⟩, hTr, hTp⟩ := h
  rw [rI_at (by unfold Ra; omega)] at a3 a4 a5 a6 a7 b2 b3
  have b4' : ∀ j, j < n → ∃ c, c ≤ 127 ∧ I 139 j = nI c ∧ I 274 j = nI c := fun j hj => by
    obtain ⟨c, c1, c2, c3⟩ := b4 j hj
    rw [rI_at (by unfold Ra; omega)] at c2 c3
    exact ⟨c, c1, c2, c3⟩
  generalize hT0 : (fun j => if j < n then cn (I 139 j) else 0) = T
  have hTj : ∀ j, j < n → I 139 j = nI (T j) ∧ I 274 j = nI (T j) ∧ T j < 128 := fun j hj => by
    obtain ⟨c, c1, c2, c3⟩ := b4' j hj
    have : T j = c := by rw [← hT0]; show (if j < n then cn (I 139 j) else 0) = c; rw [if_pos hj, c2, cn_nI (by omega)]
    rw [this]
    exact ⟨c2, c3, by omega⟩
  have hTT : ∀ j, T j < 128 := fun j => by
    by_cases q : j < n
    · exact (hTj j q).2.2
    · rw [← hT0]; show (if j < n then cn (I 139 j) else 0) < 128; rw [if_neg q]; omega
  have hTC : TX I T n := ⟨b2, b1, fun j hj => (hTj j hj).1, hTT⟩
  refine t_X10_house (d + 28) _ ⟨fun z => ?_, fun z => ?_⟩
  · rw [a3] at z ⊢
    have hc6 : hc < 6 := (nI_lt_iff (b := 6) (by omega) (by omega)).mp z
    have hin := vp_in_nI hc6 (by omega : 6 < 2 ^ 31)
    rw [nI_clamp (by omega)]
    refine ⟨hin, ?_⟩
    generalize ho : 151 + 2 * hc = o
    have hho : zHo o := by rw [← ho]; exact hH hc hc6
    refine sp_builds (d + 14) hho (by omega) hTC _ (fun x J r => ⟨fun _ => ?_, fun y => absurd y (by decide)⟩) (fun x J S kp r => ⟨fun y => absurd rfl y, fun _ => ?_⟩)
    · -- a house
      have hgd := hou_gd hTT 10 0 [] (by omega) (by simp) x
      have j07 : J 0 7 = nI hc := (r.1 0 7 (by omega) (by omega) (by omega)).trans a3
      rw [j07]
      generalize hJc : u2 (u2 J 138 1 0) 0 7 (nI hc + 1) = Jc
      have fc : ∀ a j, ¬ (a = 138 ∧ (j = 1 ∨ j = 2)) → ¬ (a = 0 ∧ j = 7) → ¬ (a = o ∧ (j = 0 ∨ j = 2)) → a ≠ o + 1 → Jc a j = I a j := fun a j q1 q2 q3 q4 => by
        rw [← hJc, u2_ne _ _ (by omega), u2_ne _ _ (by omega)]
        exact r.1 a j (by omega) q3 q4
      have fc2 : ∀ a j, 265 ≤ a → Jc a j = I a j := fun a j q => fc a j (by omega) (by omega) (by omega) (by omega)
      refine sp_houM (d + 11) (T := T) (n := n) (hc := hc) (cd := cd) ⟨(fc2 _ _ (by omega)).trans b3, b1, fun j hj => (fc2 _ _ (by omega)).trans (hTj j hj).2.1, hTT⟩ hc6 (by omega) ((fc2 _ _ (by omega)).trans a4) ((fc2 _ _ (by omega)).trans a5) _ (fun x2 hlen Jm hm => ?_) (fun x2 Jm hm => ?_)
      · obtain ⟨⟨m1, m2, m3⟩, m4, ct, m5, m6, m7, m8⟩ := hm
        generalize hcs : (houV T n 10 0 []).2.2 = cs at *
        generalize hbb : (houV T n 10 0 []).2.1 = b at *
        refine ⟨by rw [Int32.add_sub_cancel], ?_⟩
        generalize hF : u2 (u2 (u2 (u2 Jm 265 10 0) 275 hc (nI cs.length)) 265 17 (nI hc)) 265 16 (nI hc + 1) = F
        have f1 : ∀ a j, ¬ (a = 265 ∧ (j = 10 ∨ j = 16 ∨ j = 17)) → ¬ (a = 275 ∧ j = hc) → F a j = Jm a j := fun a j q1 q2 => by
          rw [← hF, u2_ne _ _ (by omega), u2_ne _ _ (by omega), u2_ne _ _ (by omega), u2_ne _ _ (by omega)]
        have f2 : ∀ a j, a < 265 → F a j = Jc a j := fun a j q => (f1 a j (by omega) (by omega)).trans (m1 a j (by omega) (by omega) (by omega))
        have fr : ∀ a j, ¬ (a = 138 ∧ (j = 1 ∨ j = 2)) → ¬ (a = 0 ∧ j = 7) → ¬ (a = o ∧ (j = 0 ∨ j = 2)) → a ≠ o + 1 → ¬ (a = 265 ∧ (j = 10 ∨ j = 12 ∨ j = 13 ∨ j = 14 ∨ j = 15 ∨ j = 16 ∨ j = 17 ∨ j = 24)) → ¬ (a = 275 ∧ j = hc) → ¬ (276 ≤ a ∧ a ≤ 279 ∧ 10 * hc ≤ j) → ¬ (a = 280 ∧ cd ≤ j) → F a j = I a j := fun a j q1 q2 q3 q4 q5 q6 q7 q8 => by
          rw [f1 a j (by omega) q6]
          by_cases e : a = 280
          · subst e
            rw [m3 j (by omega)]
            exact fc2 280 j (by omega)
          · rw [m1 a j (by omega) e (by omega)]
            exact fc a j q1 q2 q3 q4
        have g16 : F 265 16 = nI (hc + 1) := by rw [← hF, u2_same, nI_1]
        have g17 : F 265 17 = nI hc := by rw [← hF, u2_n2 _ _ (by omega), u2_same]
        have g10 : F 265 10 = 0 := by rw [← hF, u2_n2 _ _ (by omega), u2_n2 _ _ (by omega), u2_n1 _ _ (by omega), u2_same]
        have g275 : F 275 hc = nI cs.length := by rw [← hF, u2_n1 _ _ (by omega), u2_n1 _ _ (by omega), u2_same]
        have ecu : cur F = upd (cur I) 139 (nI hc) := by
          funext k
          by_cases e : k = 139
          · subst e
            rw [up_s]
            exact g17
          · rw [up_n _ _ e]
            unfold cur
            by_cases hk : k < 140
            · rw [if_pos hk, if_pos hk]
              have hl := loc_rng k hk
              have hni : ¬ ((loc k).1 = 265 ∧ (loc k).2 = 17) := fun q => e (loc_inj k hk 139 (by omega) (Prod.ext q.1 q.2))
              exact fr _ _ (by omega) (by omega) (by omega) (by omega) (by omega) (by omega) (by omega) (by omega)
            · rw [if_neg hk, if_neg hk]
        have ecv : cv F 3 = cv I 3 := cv_far fun a ha hb => funext fun j => fr a j (by omega) (by omega) (by omega) (by omega) (by omega) (by omega) (by omega) (by omega)
        have elv : ∀ k, live (upd (cur I) 139 (nI hc)) k ↔ live (cur I) k := fun k => live_eq (up_n _ _ (by omega)) (up_n _ _ (by omega)) (up_n _ _ (by omega)) (up_n _ _ (by omega)) (fun i hi => up_n _ _ (by omega)) k
        have hW' := hW
        rw [a4, cn_nI (by omega)] at hW'
        refine ⟨?_, ?_, ?_, ?_, ?_, ?_, ?_, ?_⟩
        · rw [ecu, g16, cn_nI (by omega)]
          refine ⟨fun k hk hl => ?_, fun i hi hz => ?_, Or.inr ⟨hc, by omega, up_s _ _ _⟩⟩
          · rw [up_n _ _ (by omega)]
            exact hW'.1 k hk ((elv k).mp hl)
          · rw [up_n _ _ (by omega)] at hi
            have h10 : i < 10 := by
              obtain ⟨m, k1, k2⟩ := hW'.cnt (k := 137) (by omega)
              have k1 : m ≤ 10 := k1
              rw [k2, cn_nI (by omega)] at hi
              omega
            rw [up_n _ _ (by omega)] at hz
            rw [up_n _ _ (by omega), up_n _ _ (by omega)]
            exact hW'.2.1 i hi hz
        · rw [ecu]
          refine ⟨fun k hk _ hl => ?_, ?_⟩
          · rw [ecv, up_n _ _ (by omega)]
            exact hI.1 k hk trivial ((elv k).mp hl)
          · rw [up_s, u2_same]
            unfold hid
            rw [if_neg (m1_ne hc hc6), cn_nI (by omega), ho]
        · exact Num_c (fun a ha => rI_of (fr a 0 (by omega) (by omega) (by omega) (by omega) (by omega) (by omega) (by omega) (by omega))) hN
        · rw [u2_n1 _ _ (by omega)]
          unfold Img at hIm ⊢
          have e9 : rI F 291 = rI I 291 := funext fun j => rI_of (fr 291 j (by omega) (by omega) (by omega) (by omega) (by omega) (by omega) (by omega) (by omega))
          have e10 : cv (rI F) 48 = cv (rI I) 48 := cv_far fun a ha hb => funext fun j => rI_of (fr a j (by omega) (by omega) (by omega) (by omega) (by omega) (by omega) (by omega) (by omega))
          have e11 : rI F 0 4 = rI I 0 4 := rI_of (fr 0 4 (by omega) (by omega) (by omega) (by omega) (by omega) (by omega) (by omega) (by omega))
          have e12 : rI F 265 39 = rI I 265 39 := rI_of (fr 265 39 (by omega) (by omega) (by omega) (by omega) (by omega) (by omega) (by omega) (by omega))
          rw [e9, e10, e11, e12]
          refine ⟨hIm.1, hIm.2.1, fun y => ?_⟩
          obtain ⟨k1, k2, k3⟩ := hIm.2.2 y
          refine ⟨?_, k2, k3⟩
          rw [rI_at (by unfold Ra; omega), g16, cn_nI (by omega)]
          rw [rI_at (by unfold Ra; omega), a4, cn_nI (by omega)] at k1
          exact Wok_inns k1 (by omega)
        · refine ⟨hc + 1, ct, by omega, by have := hgd.2; omega, ?_, ?_, ?_, ?_, ?_, fun i hi => ?_⟩
          · rw [rI_at (by unfold Ra; omega), f2 0 7 (by omega), ← hJc, u2_same, nI_1]
          · rw [rI_at (by unfold Ra; omega)]; exact g16
          · rw [rI_at (by unfold Ra; omega), f1 265 24 (by omega) (by omega)]; exact m5
          · rw [rI_at (by unfold Ra; omega), fr 1 0 (by omega) (by omega) (by omega) (by omega) (by omega) (by omega) (by omega) (by omega)]; exact a6
          · rw [rI_at (by unfold Ra; omega), fr 1 2 (by omega) (by omega) (by omega) (by omega) (by omega) (by omega) (by omega) (by omega)]; exact a7
          · by_cases e : i < hc
            · obtain ⟨cs', hcs'⟩ := a8 i e
              refine ⟨cs', HRel_tr hcs' m6 (fun j => rI_of (fr _ _ (by omega) (by omega) (by omega) (by omega) (by omega) (by omega) (by omega) (by omega))) (fun j => rI_of (fr _ _ (by omega) (by omega) (by omega) (by omega) (by omega) (by omega) (by omega) (by omega))) (rI_of (fr _ _ (by omega) (by omega) (by omega) (by omega) (by omega) (by omega) (by omega) (by omega))) (fun b' j q1 q2 q3 => rI_of (fr _ _ (by omega) (by omega) (by omega) (by omega) (by omega) (by omega) (by omega) (by omega))) (fun j hj => rI_of (fr _ _ (by omega) (by omega) (by omega) (by omega) (by omega) (by omega) (by omega) (by omega)))⟩
            · have ei : i = hc := by omega
              subst ei
              have r1 : ∀ a j, (151 ≤ a ∧ a < 163) ∨ (274 ≤ a ∧ a ≤ 280) → rI F a j = F a j := fun a j q => rI_at (by unfold Ra; omega)
              have jo : ∀ a j, a = o ∨ a = o + 1 → F a j = J a j := fun a j q => by
                rw [f2 a j (by omega), ← hJc, u2_ne _ _ (by omega), u2_ne _ _ (by omega)]
              refine ⟨cs, m4, hlen, ?_, ?_, ?_, fun j hj => ?_, ?_, fun j hj => ?_⟩
              · rw [ho, r1 _ _ (by omega), jo _ _ (by omega)]; exact r.2.2.2.2
              · have := hgd.1; have := hgd.2; omega
              · rw [ho, r1 _ _ (by omega), jo _ _ (by omega)]; exact r.2.2.1
              · rw [ho, r1 _ _ (by omega), jo _ _ (by omega)]; exact r.2.2.2.1 j hj
              · rw [r1 _ _ (by omega)]; exact g275
              · obtain ⟨w1, w2, bg, w3, w4, w5, w6⟩ := m8 j hj
                refine ⟨?_, ?_, bg, ?_, ?_, w5, fun t ht => ?_⟩
                · rw [r1 _ _ (by omega), f1 _ _ (by omega) (by omega)]; exact w1
                · rw [r1 _ _ (by omega), f1 _ _ (by omega) (by omega)]; exact w2
                · rw [r1 _ _ (by omega), f1 _ _ (by omega) (by omega)]; exact w3
                · rw [r1 _ _ (by omega), f1 _ _ (by omega) (by omega)]; exact w4
                · rw [r1 _ _ (by omega), f1 _ _ (by omega) (by omega)]; exact w6 t ht
        · refine ⟨0, by omega, ?_, ?_, fun j hj => absurd hj (by omega)⟩
          · rw [rI_at (by unfold Ra; omega), f2 138 1 (by omega), ← hJc, u2_n1 _ _ (by omega), u2_same]; rfl
          · rw [rI_at (by unfold Ra; omega)]; exact g10
        · exact Trc_c (rI_of (fr _ _ (by omega) (by omega) (by omega) (by omega) (by omega) (by omega) (by omega) (by omega))) (rI_of (fr _ _ (by omega) (by omega) (by omega) (by omega) (by omega) (by omega) (by omega) (by omega))) (fun j => rI_of (fr _ _ (by omega) (by omega) (by omega) (by omega) (by omega) (by omega) (by omega) (by omega))) (fun j => rI_of (fr _ _ (by omega) (by omega) (by omega) (by omega) (by omega) (by omega) (by omega) (by omega))) hTr
        · exact Tap_c (fun a j ha hb => rI_of (fr _ _ (by omega) (by omega) (by omega) (by omega) (by omega) (by omega) (by omega) (by omega))) (fun j => rI_of (fr _ _ (by omega) (by omega) (by omega) (by omega) (by omega) (by omega) (by omega) (by omega))) (fun j => rI_of (fr _ _ (by omega) (by omega) (by omega) (by omega) (by omega) (by omega) (by omega) (by omega))) hTp
      · rw [x] at x2
        exact absurd x2 (by decide)
    · -- none
      have j138 : J 138 2 = nI (houV T n 10 0 []).2.1 := r.2.1
      rw [j138]
      generalize hJc : u2 J 138 1 0 = Jc
      have fc : ∀ a j, ¬ (a = 138 ∧ (j = 1 ∨ j = 2)) → ¬ (a = o ∧ (j = 0 ∨ j = 2)) → a ≠ o + 1 → Jc a j = I a j := fun a j q1 q3 q4 => by
        rw [← hJc, u2_ne _ _ (by omega)]
        exact r.1 a j (by omega) q3 q4
      have fc2 : ∀ a j, 265 ≤ a → Jc a j = I a j := fun a j q => fc a j (by omega) (by omega) (by omega)
      refine sp_houM (d + 11) (T := T) (n := n) (hc := hc) (cd := cd) ⟨(fc2 _ _ (by omega)).trans b3, b1, fun j hj => (fc2 _ _ (by omega)).trans (hTj j hj).2.1, hTT⟩ hc6 (by omega) ((fc2 _ _ (by omega)).trans a4) ((fc2 _ _ (by omega)).trans a5) _ (fun x2 hlen Jm hm => ?_) (fun x2 Jm hm => ?_)
      · rw [x] at x2
        exact absurd x2 (by decide)
      · obtain ⟨m1, m2, m3⟩ := hm
        refine ⟨rfl, ?_⟩
        generalize hF : u2 (u2 Jm 265 10 0) 265 24 (nI cd) = F
        have fr : ∀ a j, ¬ (a = 138 ∧ (j = 1 ∨ j = 2)) → ¬ (a = o ∧ (j = 0 ∨ j = 2)) → a ≠ o + 1 → ¬ (a = 265 ∧ (j = 10 ∨ j = 12 ∨ j = 13 ∨ j = 14 ∨ j = 15 ∨ j = 24)) → ¬ (276 ≤ a ∧ a ≤ 279 ∧ 10 * hc ≤ j) → ¬ (a = 280 ∧ cd ≤ j) → F a j = I a j := fun a j q1 q3 q4 q5 q7 q8 => by
          rw [← hF, u2_ne _ _ (by omega), u2_ne _ _ (by omega)]
          by_cases e : a = 280
          · subst e
            rw [m3 j (by omega)]
            exact fc2 280 j (by omega)
          · rw [m1 a j (by omega) e (by omega)]
            exact fc a j q1 q3 q4
        have ecu : cur F = cur I := cur_eq fun k hk => by
          have hl := loc_rng k hk
          exact fr _ _ (by omega) (by omega) (by omega) (by omega) (by omega) (by omega)
        have ecv : cv F 3 = cv I 3 := cv_far fun a ha hb => funext fun j => fr a j (by omega) (by omega) (by omega) (by omega) (by omega) (by omega)
        have g16 : F 265 16 = I 265 16 := fr _ _ (by omega) (by omega) (by omega) (by omega) (by omega) (by omega)
        refine ⟨?_, ?_, ?_, ?_, ?_, ?_, ?_, ?_⟩
        · rw [ecu, g16]; exact hW
        · unfold InnR; rw [ecu, ecv]; exact hI
        · exact Num_c (fun a ha => rI_of (fr a 0 (by omega) (by omega) (by omega) (by omega) (by omega) (by omega))) hN
        · exact Img_c (rI_of (fr _ _ (by omega) (by omega) (by omega) (by omega) (by omega) (by omega))) (fun a j ha hb => rI_of (fr _ _ (by omega) (by omega) (by omega) (by omega) (by omega) (by omega))) (rI_of (fr _ _ (by omega) (by omega) (by omega) (by omega) (by omega) (by omega))) (rI_of g16) (fun j => rI_of (fr _ _ (by omega) (by omega) (by omega) (by omega) (by omega) (by omega))) hIm
        · refine ⟨hc, cd, a1, a2, ?_, ?_, ?_, ?_, ?_, fun i hi => ?_⟩
          · rw [rI_at (by unfold Ra; omega), fr 0 7 (by omega) (by omega) (by omega) (by omega) (by omega) (by omega)]; exact a3
          · rw [rI_at (by unfold Ra; omega), g16]; exact a4
          · rw [rI_at (by unfold Ra; omega), ← hF, u2_same]
          · rw [rI_at (by unfold Ra; omega), fr 1 0 (by omega) (by omega) (by omega) (by omega) (by omega) (by omega)]; exact a6
          · rw [rI_at (by unfold Ra; omega), fr 1 2 (by omega) (by omega) (by omega) (by omega) (by omega) (by omega)]; exact a7
          · obtain ⟨cs', hcs'⟩ := a8 i hi
            refine ⟨cs', HRel_tr hcs' (Nat.le_refl _) (fun j => rI_of (fr _ _ (by omega) (by omega) (by omega) (by omega) (by omega) (by omega))) (fun j => rI_of (fr _ _ (by omega) (by omega) (by omega) (by omega) (by omega) (by omega))) (rI_of (fr _ _ (by omega) (by omega) (by omega) (by omega) (by omega) (by omega))) (fun b' j q1 q2 q3 => rI_of (fr _ _ (by omega) (by omega) (by omega) (by omega) (by omega) (by omega))) (fun j hj => rI_of (fr _ _ (by omega) (by omega) (by omega) (by omega) (by omega) (by omega)))⟩
        · refine ⟨0, by omega, ?_, ?_, fun j hj => absurd hj (by omega)⟩
          · rw [rI_at (by unfold Ra; omega), ← hF, u2_n1 _ _ (by omega), u2_n1 _ _ (by omega), m1 138 1 (by omega) (by omega) (by omega), ← hJc, u2_same]; rfl
          · rw [rI_at (by unfold Ra; omega), ← hF, u2_n2 _ _ (by omega), u2_same]; rfl
        · exact Trc_c (rI_of (fr _ _ (by omega) (by omega) (by omega) (by omega) (by omega) (by omega))) (rI_of (fr _ _ (by omega) (by omega) (by omega) (by omega) (by omega) (by omega))) (fun j => rI_of (fr _ _ (by omega) (by omega) (by omega) (by omega) (by omega) (by omega))) (fun j => rI_of (fr _ _ (by omega) (by omega) (by omega) (by omega) (by omega) (by omega))) hTr
        · exact Tap_c (fun a j ha hb => rI_of (fr _ _ (by omega) (by omega) (by omega) (by omega) (by omega) (by omega))) (fun j => rI_of (fr _ _ (by omega) (by omega) (by omega) (by omega) (by omega) (by omega))) (fun j => rI_of (fr _ _ (by omega) (by omega) (by omega) (by omega) (by omega) (by omega))) hTp
  · have : nI hc = 6 := by
      rw [a3] at z
      have : hc = 6 := by
        have : ¬ hc < 6 := fun q => z ((nI_lt_iff (b := 6) (by omega) (by omega)).mpr q)
        omega
      rw [this]; rfl
    exact t_X11_house (d + 28) _ ⟨fun y => absurd (a4.trans this) y, fun _ => ⟨rfl, h0⟩⟩
end SM
