section SM
variable {C : zC} {I I' : Nat → Nat → Int32} {L L' : Nat → Nat → Int64} {M : Nat → Nat → Option Nat}
theorem LV_w {J J' : Nat → Nat → Int32} {o p : Nat} {w w' : Nat → Int32} {cs : List zCl} {mm : Int32} (h : LV J o (LG w cs p) mm) (hJ : ∀ a j, o ≤ a → a < o + 15 → J' a j = J a j) (e : ∀ x n, x < 12 → temV w' cs p x n = temV w cs p x n) : LV J' o (LG w' cs p) mm := by
  intro t ht
  rcases h t ht with a | ⟨r, q1, q2, q3, q4, q5⟩
  · exact Or.inl ((hJ _ _ (by omega) (by omega)).trans a)
  · refine Or.inr ⟨r, q1, q2, (hJ _ _ (by omega) (by omega)).trans q3, fun i hi => (hJ _ _ (by omega) (by omega)).trans (q4 i hi), fun m hm => ?_⟩
    rw [q5 m hm]
    exact pk_congr (fun x hx => rfl) fun x hx _ => (e x _ hx).symm
theorem sp_goRowNS (d : Nat) {I0 J : Nat → Nat → Int32} {B inns n t p : Nat} {w : Nat → Int32} {cs : List zCl} {x : Int32} (hW : Wok B inns w) (hB : B < 1000000) (hH : Hs I0 (w 139) cs) (hN : Nm I0 93) (hM : LMs M 93 n) (hn : cn (w 134) = n) (h : NS I0 93 PN cs n M w J) (ht : t ≤ 3) (hp : ¬ t = 0 → p < n ∧ x = nI p) (K : KV) (hK : ∀ J' M', NS I0 93 PN cs n M' (rowV cs w (nI t) (nI p)) J' → LMs M' 93 n → M' 3 5 = M 3 5 → M' 48 5 = M 48 5 → K J' L M') : zCV C Y_X10_goRow (d + 6) [.ref 0, .ref 93, .int (nI t), .int x] (zmk J L M) K := by
  refine t_X10_goRow d _ _ i2 _ ?_
  by_cases h0 : t = 0
  · subst h0
    rw [rowV_0] at hK
    refine br_t' rfl ?_
    exact sp_nightNS d (Or.inr rfl) (fun _ q => q) hW hB hH hN hM hn h K fun J' h' => hK J' M h' hM rfl rfl
  · obtain ⟨p1, rfl⟩ := hp h0
    obtain ⟨n', n1, n2, n3⟩ := hW.n
    have hp6 : p < 6 := by omega
    obtain ⟨h1, h2, h3⟩ := h
    obtain ⟨l1, l2, l3, l4, l5, l6⟩ := live_g (w := w) (g := p) (by omega) hp6
    have e3 : J 93 3 = nI n := by
      have := h2.1 134 (by omega) (by omega) (by unfold live; omega)
      have e : J 93 3 = w 134 := this
      rw [e, n2, ← hn, n3]
    have h6 := vp_in_nI hp6 (by omega : 6 < 2 ^ 31)
    refine br_f' (fun z => h0 (nI_inj (b := 0) (by omega) (by omega) z)) (br_t' (by rw [e3]; exact ⟨nI_pos' (by omega), (nI_lt_iff (by omega) (by omega)).mpr p1⟩) ⟨h6, ?_⟩)
    rw [nI_clamp (show p < 2 ^ 31 by omega)]
    have nfw : ∀ (J' : Nat → Nat → Int32), (∀ a j, a ≠ 93 + 33 + 2 * p → J' a j = J a j) → (∀ j, j = 0 → J' (93 + 33 + 2 * p) j = J (93 + 33 + 2 * p) j) → NF 93 I0 J' := fun J' q1 q2 a j a1 a2 => by
      by_cases q : a = 93 + 33 + 2 * p
      · subst q
        have j0 : j = 0 := by unfold CF at a2; omega
        rw [q2 j j0]
        exact h1 _ _ a1 a2
      · rw [q1 a j q]
        exact h1 a j a1 a2
    by_cases h3' : t = 3
    · subst h3'
      rw [rowV_3 cs w hp6] at hK
      refine br_t' rfl ⟨h6, ?_⟩
      have f3 : J (93 + 33 + 2 * p) 3 = w (36 + p) := by
        rw [← cv_at (I := J) (c_m 93 (x := p) hp6) (by omega)]
        exact h2.1 _ (by omega) (Or.inl (by omega)) l3
      have f4 : J (93 + 33 + 2 * p) 4 = w (42 + p) := by
        rw [← cv_at (I := J) (c_l 93 (x := p) hp6) (by omega)]
        exact h2.1 _ (by omega) (Or.inl (by omega)) l4
      rw [f3, f4]
      have hR := InnR_upd (InnR_upd h2 (by omega) (c_m 93 hp6) (w (36 + p) ||| w (42 + p))) (by omega) (c_l 93 hp6) 0
      refine sp_settle1 (d + 3) (hL p hp6) i2 (gI i2 p hp6) _ fun J1 b1 b2 => ?_
      refine hK J1 _ ⟨fun a j a1 a2 => ?_, ?_, fun q hq => ?_⟩ (fun q hq => ?_) ?_ ?_
      · rw [b1 a j (by omega)]
        refine nfw _ (fun a j q => by rw [u2_n1 _ _ q, u2_n1 _ _ q]) (fun j q => by rw [u2_n2 _ _ (by omega), u2_n2 _ _ (by omega)]) a j a1 a2
      · have := InnR_fr hR (J := J1) fun a j q1 q2 => b1 a j (by omega)
        exact ⟨this.1, by rw [u2_n1 _ _ (by omega), u2_n1 _ _ (by omega)]; exact this.2⟩
      · by_cases e : q = p
        · subst e
          exact fun t ht => Or.inl (b2 t ht)
        · rw [up_n _ _ (by omega), up_n _ _ (by omega)]
          refine LV_w (h3 q hq) (fun a j a1 a2 => by rw [b1 a j (by omega), u2_n1 _ _ (by omega), u2_n1 _ _ (by omega)]) fun x n hx => ?_
          refine temV_congr cs n ?_ ?_ ?_ ?_ fun k hk => ?_
          · rw [up_n _ _ (by omega), up_n _ _ (by omega)]
          · rw [up_n _ _ (by omega), up_n _ _ (by omega)]
          · rw [up_n _ _ (by omega), up_n _ _ (by omega)]
          · rw [up_n _ _ (by omega), up_n _ _ (by omega)]
          · rw [up_n _ _ (by omega), up_n _ _ (by omega)]
      · by_cases e : q = p
        · subst e
          rw [u2_same, u2_n2 _ _ (by omega), u2_same]
          exact ⟨rfl, rfl⟩
        · rw [u2_n1 _ _ (by omega), u2_n1 _ _ (by omega), u2_n1 _ _ (by omega), u2_n1 _ _ (by omega)]
          exact hM q hq
      · rw [u2_n1 _ _ (by omega), u2_n1 _ _ (by omega)]
      · rw [u2_n1 _ _ (by omega), u2_n1 _ _ (by omega)]
    · rw [rowV_i cs w hp6 h0 h3' ht] at hK
      have hi : ∀ v : Int32, v = nI (t - 1) → K (u2 J (93 + 33 + 2 * p) 5 v) L M := by
        rintro v rfl
        refine hK _ M ⟨nfw _ (fun a j q => by rw [u2_n1 _ _ q]) (fun j q => by rw [u2_n2 _ _ (by omega)]), InnR_upd h2 (by omega) (c_i 93 hp6) _, fun q hq => ?_⟩ hM rfl rfl
        rw [up_n _ _ (by omega)]
        refine LV_w (h3 q hq) (fun a j a1 a2 => by rw [u2_n1 _ _ (by omega)]) fun x n hx => ?_
        refine temV_congr cs n (up_n _ _ (by omega)) (up_n _ _ (by omega)) (up_n _ _ (by omega)) (by rw [up_n _ _ (by omega)]) fun k hk => up_n _ _ (by omega)
      refine br_f' (fun z => h3' (nI_inj (b := 3) (by omega) (by omega) z)) ⟨fun z => hi 0 ?_, fun z => hi 1 ?_⟩
      · have : t = 1 := by
          have : ¬ t = 2 := fun q => z (by rw [q]; rfl)
          omega
        rw [this]; rfl
      · have : t = 2 := nI_inj (b := 2) (by omega) (by omega) z
        rw [this]; rfl
theorem pr_ends (d : Nat) (h : Inv I L M) (x1 : Int32) : PrI C Y_X10_ends Y_X11_ends (d + 12) [.int x1] I L M := by
  obtain ⟨cs, hH⟩ := h.hs
  obtain ⟨n, n1, n2, n3, n4⟩ := h.n
  obtain ⟨m, m1, m2, m3⟩ := h.1.plan
  have e2 : (0 ≤ x1 ∧ x1 < 2) ↔ (0 ≤ x1 ∧ x1 ≤ 1) := and_congr_right fun _ => lt_le1 (by decide) x1
  refine t_X10_ends (d + 5) x1 _ ⟨fun q => ?_, fun q => ?_⟩
  · refine sp_trial (d + 6) h n4 cs _ fun J M' h1 hM e3 e48 => ?_
    have p14 : I 14 1 = nI m := by
      have := h.at (k := 137) (by omega) (by unfold live; omega) rfl rfl
      exact this.trans m2
    refine count_st (σ := (Nat → Nat → Int32) × (Nat → Nat → Option Nat)) (P := fun y s => zSI C (zmk I L M) _ Y_X10_ends (d + 12) 31 [(0, .ref 0), (1, .int x1), (2, .int (nI y))] [] s.1 L s.2) (J := fun y s => NS I 93 PN cs n s.2 (rowsV cs (cur I) y) s.1 ∧ LMs s.2 93 n ∧ s.2 3 5 = M 3 5 ∧ s.2 48 5 = M 48 5) m ?_ ?_ 0 (J, M') (Nat.zero_le _) ⟨h1, hM, e3, e48⟩
    · rintro ⟨J1, M1⟩ ⟨h1, hM, e3, e48⟩
      replace h1 : NS I 93 PN cs n M1 (rowsV cs (cur I) m) J1 := h1
      replace e3 : M1 3 5 = M 3 5 := e3
      replace e48 : M1 48 5 = M 48 5 := e48
      obtain ⟨wk1, wk2⟩ := rowsV_ok (cs := cs) h.1 m (by rw [m2, cn_nI (by omega)]; omega)
      have f : ∀ a j, 265 ≤ a → J1 a j = I a j := fun a j ha => h1.1 a j (by omega) (by unfold CF; omega)
      have ecu : cur J1 = cur I := cur_low fun a ha => funext fun j => f a j ha
      have eri := h1.1.ri (Or.inr rfl)
      have ecv : cv J1 3 = cv I 3 := cv_far fun a ha hb => funext fun j => h1.1 a j (by omega) (by unfold CF; omega)
      have mod : ∀ v : Int32, v = endV (rowsV cs (cur I) m) n x1 → zCI C Y_X11_ends (d + 12) [.ref 265, .int x1] (zmk J1 L M1) (fun r2 I2 L2 M2 => r2 = v ∧ Inv I2 L2 M2) := by
        intro v hv
        refine sp_endsM (d + 5) (cs := cs) (n := n) (by rw [f 265 17 (by omega)]; exact Hs_fr eri hH) (by rw [ecu]; exact h.1) n1 ((f _ _ (by omega)).trans n2) x1 (e2.mp q) _ fun J2 a b c => ?_
        rw [ecu, m2, cn_nI (by omega), hv]
        refine ⟨rfl, Inv_same h (a.trans eri) (b.trans ecu) ?_ e3 e48⟩
        rw [← ecv]
        exact cv_far fun a ha hb => funext fun j => c a j (by omega)
      have w134 : cn (rowsV cs (cur I) m 134) = n := by rw [wk2 134 (by omega)]; exact n4
      have wm : ∀ g, g < n → J1 (93 + 33 + 2 * g) 3 = rowsV cs (cur I) m (36 + g) := fun g hg => by
        obtain ⟨-, -, l3, -⟩ := live_g (w := rowsV cs (cur I) m) (g := g) (by omega) (by omega)
        rw [← cv_at (I := J1) (c_m 93 (x := g) (by omega)) (by omega)]
        exact h1.2.1.1 _ (by omega) (Or.inl (by omega)) l3
      refine t_X10_ends_31 (d + 5) _ _ _ (br_t (by
        show J1 14 1 ≤ nI m
        rw [h1.1 14 1 (by omega) (by unfold CF; omega), p14]
        exact Int32.le_refl _) ⟨fun z => ?_, fun z => ?_⟩)
      · refine sp_stoC (d + 10) i2 (w := rowsV cs (cur I) m) (fun x hx => ?_) _ (mod _ (by unfold endV; rw [if_neg z]))
        show J1 (93 + 2) x = _
        rw [← cv_at (I := J1) (c_c 93 hx) (by omega)]
        exact h1.2.1.1 _ (by omega) (Or.inl (by omega)) (by unfold live; omega)
      · refine sp_mbaC (d + 9) i2 n1 ?_ wm _ (mod _ (by unfold endV; rw [if_pos z]))
        have := h1.2.1.1 134 (by omega) (by omega) (by unfold live; omega)
        rw [wk2 134 (by omega)] at this
        exact this.trans n2
    · rintro y ⟨J1, M1⟩ hy ⟨h1, hM, e3, e48⟩ ih
      replace h1 : NS I 93 PN cs n M1 (rowsV cs (cur I) y) J1 := h1
      replace hM : LMs M1 93 n := hM
      replace e3 : M1 3 5 = M 3 5 := e3
      replace e48 : M1 48 5 = M 48 5 := e48
      obtain ⟨wk1, wk2⟩ := rowsV_ok (cs := cs) h.1 y (by rw [m2, cn_nI (by omega)]; omega)
      obtain ⟨t, p, t1, t2, t3⟩ := m3 y hy
      have h10 := vp_in_nI (show y < 10 by omega) (by omega : 10 < 2 ^ 31)
      have et : J1 (14 + 2 + y) 0 = nI t := by
        rw [h1.1 _ _ (by omega) (by unfold CF; omega), ← t2, cur_at (l_g y (by omega)).1 (by omega)]
        exact h.at (k := 98 + y) (by omega) (by unfold live; rw [m2, cn_nI (by omega)]; omega) (l_g y (by omega)).1 (c_p 3 (by omega)).1
      have ep : ¬ t = 0 → J1 (14 + 2 + y) 1 = nI p := fun z => by
        have hz : ¬ cur I (98 + y) = 0 := by rw [t2]; exact fun z2 => z (nI_inj (b := 0) (by omega) (by omega) z2)
        rw [h1.1 _ _ (by omega) (by unfold CF; omega), ← (t3 z).2, cur_at (l_g y (by omega)).2 (by omega)]
        refine h.at (k := 108 + y) (by omega) ?_ (l_g y (by omega)).2 (c_p 3 (by omega)).2
        unfold live
        right; right; right; right; right; left
        exact ⟨by omega, by omega, by rw [m2, cn_nI (by omega)]; omega, by rw [show 98 + (108 + y - 108) = 98 + y by omega]; exact hz⟩
      refine t_X10_ends_31 (d + 5) _ _ _ (br_f (by
        show ¬ J1 14 1 ≤ nI y
        rw [h1.1 14 1 (by omega) (by unfold CF; omega), p14]
        exact fun z => by have := (nI_le_iff (a := m) (b := y) (by omega) (by omega)).mp z; omega) ⟨h10, h10, ?_⟩)
      rw [nI_clamp (by omega), nI_1]
      show zCV C Y_X10_goRow (d + 11) [.ref 0, .ref 93, .int (J1 (14 + 2 + y) 0), .int (J1 (14 + 2 + y) 1)] (zmk J1 L M1) _
      rw [et]
      refine sp_goRowNS (d + 5) wk1 (by omega) (by rw [wk2 139 (by omega)]; exact hH) h.nm.2 hM (by rw [wk2 134 (by omega)]; exact n4) h1 t1 (p := p) (fun z => ⟨by have := (t3 z).1; omega, ep z⟩) _ fun J2 M2 a1 a2 a3 a4 => ?_
      have er : rowsV cs (cur I) (y + 1) = rowV cs (rowsV cs (cur I) y) (nI t) (nI p) := by
        show rowV cs (rowsV cs (cur I) y) (cur I (98 + y)) (cur I (108 + y)) = _
        rw [t2]
        by_cases z : t = 0
        · rw [z, rowV_0, rowV_0]
        · rw [(t3 z).2]
      exact ih (J2, M2) ⟨by rw [er]; exact a1, a2, a3.trans e3, a4.trans e48⟩
  · exact t_X11_ends (d + 5) _ _ (br_f (fun z => q (e2.mpr z)) ⟨rfl, h⟩)
end SM
