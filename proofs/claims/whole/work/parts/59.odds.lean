/-! ODDS, DECOYS -/
theorem upd_id (w : Nat → Int32) (k : Nat) : upd w k (w k) = w := by
  funext j
  by_cases q : j = k
  · rw [q, up_s]
  · rw [up_n _ _ q]
theorem upd_bk (w : Nat → Int32) (k : Nat) (v : Int32) : upd (upd w k v) k (w k) = w := by
  funext j
  by_cases q : j = k
  · rw [q, up_s]
  · rw [up_n _ _ q, up_n _ _ q]
theorem upd_up (w : Nat → Int32) (k : Nat) (v v' : Int32) : upd (upd w k v) k v' = upd w k v' := by
  funext j
  by_cases q : j = k
  · rw [q, up_s, up_s]
  · rw [up_n _ _ q, up_n _ _ q, up_n _ _ q]
theorem Sm_m (w : Nat → Int32) {p : Nat} (hp : p < 6) (v mm : Int32) : Sm w (upd w (36 + p) v) p mm := ⟨fun x hx => up_n _ _ (by omega), up_n _ _ (by omega), up_n _ _ (by omega), up_n _ _ (by omega), fun k hk => up_n _ _ (by omega), fun x hx _ => by rw [up_n _ _ (by omega)]⟩
def cntV (f : Nat → Prop) [DecidablePred f] : Nat → Nat
  | 0 => 0
  | k + 1 => if f k then cntV f k + 1 else cntV f k
theorem cnt_le (f : Nat → Prop) [DecidablePred f] : ∀ k, cntV f k ≤ k := by
  intro k
  induction k with
  | zero => exact Nat.le_refl _
  | succ k ih =>
    unfold cntV
    by_cases q : f k
    · rw [if_pos q]; omega
    · rw [if_neg q]; omega
/-- what the best set is, of the first k -/
def decV (w : Nat → Int32) (cs : List zCl) (p t x n : Nat) : Nat → Int32
  | 0 => -5
  | k + 1 => if nI k &&& w (36 + p) = 0 ∧ (decV w cs p t x n k = -5 ∨ zbc (nI k) < zbc (decV w cs p t x n k)) ∧ zhas (goC w cs p t (w (36 + p) ||| nI k) n) (nI x) then nI k else decV w cs p t x n k
theorem decV_in (w : Nat → Int32) (cs : List zCl) (p t x n : Nat) : ∀ k, k ≤ 4096 → decV w cs p t x n k = -5 ∨ ∃ j, j < 4096 ∧ decV w cs p t x n k = nI j := by
  intro k
  induction k with
  | zero => intro _; exact Or.inl rfl
  | succ k ih =>
    intro hk
    unfold decV
    by_cases q : nI k &&& w (36 + p) = 0 ∧ (decV w cs p t x n k = -5 ∨ zbc (nI k) < zbc (decV w cs p t x n k)) ∧ zhas (goC w cs p t (w (36 + p) ||| nI k) n) (nI x)
    · rw [if_pos q]; exact Or.inr ⟨k, by omega, rfl⟩
    · rw [if_neg q]; exact ih (by omega)
theorem m5_4k : ∀ a, a < 64 → ∀ b, b < 64 → ¬ nI (64 * a + b) = -5 := by decide +kernel
theorem m5_n {j : Nat} (h : j < 4096) : ¬ nI j = -5 := by
  have := m5_4k (j / 64) (by omega) (j % 64) (by omega)
  rw [Nat.div_add_mod] at this
  exact this
section SM
variable {C : zC} {I I' : Nat → Nat → Int32} {L L' : Nat → Nat → Int64} {M : Nat → Nat → Option Nat}
theorem sp_oneM (d : Nat) {p k0 v0 : Nat} (hp : p < 6) {cs : List zCl} (hH : Hs I (I 265 17) cs) (hk : k0 ≤ 6) (ek : cur I (24 + p) = nI k0) (hv : v0 ≤ 1) (ev0 : cur I (48 + p) = nI v0) (K : KV) (hK : ∀ J, MF I J → cur J = oneV cs p (cur I) → K J L M) : zCV C Y_X11_goesOne (d + 6) [.ref 265, .int (nI p)] (zmk I L M) K := by
  have h6 := vp_in_nI hp (by omega : 6 < 2 ^ 31)
  refine t_X11_goesOne d _ _ (sp_preyM d hp hH hk ek hv ev0 _ fun J hJ => ?_)
  have ecu : cur J = cur I := cur_eq fun k hk => hJ _ _ (by have := loc_rng k hk; omega)
  have e9 : J 265 9 = cur I 135 := by rw [← ecu]; rfl
  have ep : preyV (cur I) cs p (cur I (36 + p)) (I 265 9) = pyV cs (cur I) p := rfl
  rw [ep, nI_clamp (by omega), e9]
  refine ⟨fun z => hK _ (fun a j q => ?_) ?_, fun z => ⟨h6, h6, h6, h6, hK _ (fun a j q => ?_) ?_⟩⟩
  · rw [u2_ne _ _ (by omega), hJ a j (by omega)]
  · rw [cur_in' _ (show loc 135 = (265, 9) from rfl) (by omega), ecu]
    unfold oneV
    rw [z, zwo_m]
    unfold zor_
    rw [if_pos rfl, upd_id, upd_id]
  · rw [u2_ne _ _ (by omega), u2_n1 _ _ (by omega), u2_n1 _ _ (by omega), hJ a j (by omega)]
  · rw [cur_in' _ (show loc 135 = (265, 9) from rfl) (by omega), cur_in' _ (l_l p hp) (by omega), cur_in' _ (l_m p hp) (by omega), ← cur_at (I := J) (l_m p hp) (by omega), ← cur_at (I := J) (l_l p hp) (by omega), ecu]
    rcases pyV_ok cs (cur I) p with e | ⟨y, hy, e⟩
    · exact absurd e z
    · unfold oneV
      rw [e, zwo_y _ hy]
      unfold zor_
      rw [if_neg (m5_ne y hy)]
theorem pr_odds (d : Nat) (h : Inv I L M) (x1 x2 : Int32) : PrL C Y_X10_odds Y_X11_odds (d + 12) [.int x1, .int x2] I L M := by
  obtain ⟨cs, hH⟩ := h.hs
  have e2 : (0 ≤ x2 ∧ x2 < 2) ↔ (0 ≤ x2 ∧ x2 ≤ 1) := and_congr_right fun _ => lt_le1 (by decide) x2
  refine t_X10_odds (d + 7) x1 x2 _ ⟨fun q => ?_, fun q => ⟨fun q2 => ?_, fun q2 => ?_⟩⟩
  · exact t_X11_odds (d + 6) _ _ _ (br_f' (h.ng q) ⟨rfl, h⟩)
  · obtain ⟨p, hp6, hp, rfl, hq⟩ := h.g q
    have h6 := vp_in_nI hp6 (by omega : 6 < 2 ^ 31)
    obtain ⟨t, t1, t2⟩ := h.1.t
    obtain ⟨l1, l2, l3, l4, l5, l6⟩ := live_g hp hp6
    have e3 : I (3 + 33 + 2 * p) 3 = cur I (36 + p) := by
      rw [cur_at (l_m p hp6) (by omega)]
      exact h.at (by omega) l3 (l_m p hp6) (c_m 3 hp6)
    have e4 : I 3 4 = nI t := (h.at (k := 135) (by omega) (by unfold live; omega) rfl rfl).trans t2
    have e9 : I 265 9 = nI t := t2
    have e5 : I 270 p = cur I (36 + p) := (cur_at (l_m p hp6) (by omega)).symm
    obtain ⟨⟨k0, hk0, ek0⟩, -, ⟨v0, hv0, ev0⟩, -⟩ := h.1.gb hp
    rw [nI_clamp (by omega)]
    refine ⟨h6, sp_lureN (d + 8) h hH hp hp6 _ fun J M' hS m1 m2 => ⟨hL p hp6, ?_⟩⟩
    rw [hS.1 _ _ (by omega), hS.1 3 4 (by omega), e3, e4]
    refine sp_preyL (d + 7) hS (by omega) _ _ fun J0 hS0 => ?_
    generalize hx0 : preyV (cur I) cs p (cur I (36 + p)) (nI t) = x0
    generalize hf : (fun x : Nat => ¬ preyV (cur I) cs p (cur I (36 + p) ||| ((1 : Int32) <<< (nI x &&& 31))) (nI t) = x0) = f
    have hfx : ∀ x, f x ↔ ¬ preyV (cur I) cs p (cur I (36 + p) ||| ((1 : Int32) <<< (nI x &&& 31))) (nI t) = x0 := fun x => by rw [← hf]
    have dec : DecidablePred f := fun x => decidable_of_iff _ (hfx x).symm
    refine count_st (P := fun y J => zSL C (zmk I L M) _ Y_X10_odds (d + 12) 61 [(0, .ref 0), (2, .int x2), (3, .ref (3 + 33 + 2 * p)), (4, .ref (163 + 15 * p)), (5, .int x0), (6, .int (nI (@cntV f dec y))), (7, .int (nI y))] [] J L M') (J := fun y J => LSt I J M' (3 + 33 + 2 * p) p (cur I) cs) 12 ?_ ?_ 0 J0 (Nat.zero_le _) hS0
    · intro J hS
      have hc12 := @cnt_le f dec 12
      refine t_X10_odds_61 (d + 7) (hL p hp6) (gI i0 p hp6) _ _ _ _ _ (br_t (by decide) ?_)
      refine sp_lowest (d + 10) (by omega) (B := 12) (by omega) (by omega) x2 _ ?_
      obtain ⟨eri, ecu, ecv⟩ := hS.inv h
      have f' : ∀ a j, 253 ≤ a → J a j = I a j := fun a j ha => hS.1 a j (by omega)
      refine t_X11_odds (d + 6) _ _ _ (br_t' (by rw [f' 265 2 (by omega)]; exact hq) (br_t (e2.mp q2) ⟨h6, ?_⟩))
      refine sp_preyM (d + 6) hp6 (cs := cs) (by rw [f' 265 17 (by omega)]; exact Hs_fr eri hH) hk0 (by rw [ecu]; exact ek0) hv0 (by rw [ecu]; exact ev0) _ fun J1 hJ1 => ?_
      rw [ecu, f' 265 9 (by omega), e9, hx0, nI_clamp (by omega), f' 270 p (by omega), e5]
      have ecu1 : cur J1 = cur I := (cur_eq fun k hk => hJ1 _ _ (by have := loc_rng k hk; omega)).trans ecu
      have r1 : rI J1 = rI I := (rI_eq fun a j q => hJ1 a j (by unfold Ra at q; omega)).trans eri
      refine count_st (P := fun y J => zSL C (zmk _ L M') _ Y_X11_odds (d + 12) 41 [(0, .ref 265), (1, .int (nI p)), (2, .int x2), (3, .int (cur I (36 + p))), (4, .int x0), (5, .int (nI (@cntV f dec y))), (6, .int (nI y))] [] J L M') (J := fun y J2 => (∀ a j, a ≠ 281 → a ≠ 270 → J2 a j = J1 a j) ∧ ∃ v, cur J2 = upd (cur I) (36 + p) v) 12 ?_ ?_ 0 J1 (Nat.zero_le _) ⟨fun _ _ _ _ => rfl, cur I (36 + p), by rw [ecu1, upd_id]⟩
      · rintro J2 ⟨g1, v, g2⟩
        refine t_X11_odds_41 (d + 6) _ _ _ _ _ _ _ (br_t (by decide) ⟨h6, ?_⟩)
        rw [nI_clamp (by omega), nI_l (by omega)]
        refine sp_part (d + 10) (by omega) (B := 12) (by omega) (by omega) x2 _ ⟨rfl, Inv_same h ?_ ?_ ?_ m1 m2⟩
        · rw [← r1]
          exact rI_eq fun a j q => by
            rw [u2_n1 _ _ (by unfold Ra at q; omega)]
            exact g1 a j (by unfold Ra at q; omega) (by unfold Ra at q; omega)
        · rw [cur_in' _ (l_m p hp6) (by omega), g2, upd_bk]
        · rw [← ecv]
          exact cv_far fun a ha hb => funext fun j => by
            rw [u2_n1 _ _ (by omega), g1 a j (by omega) (by omega)]
            exact hJ1 a j (by omega)
      · rintro y J2 hy ⟨g1, v, g2⟩ ih
        have hlt : ¬ (12 : Int32) ≤ nI y := fun z => by have := (nI_le_iff (a := 12) (b := y) (by omega) (by omega)).mp z; omega
        refine t_X11_odds_41 (d + 6) _ _ _ _ _ _ _ (br_f hlt ⟨h6, ?_⟩)
        rw [nI_clamp (by omega)]
        generalize hmv : cur I (36 + p) ||| (1 : Int32) <<< (nI y &&& 31) = mv
        have hcv : cur (u2 J2 270 p mv) = upd (cur I) (36 + p) mv := by rw [cur_in' _ (l_m p hp6) (by omega), g2, upd_up]
        refine sp_preyM (d + 6) hp6 (cs := cs) ?_ hk0 (by rw [hcv, up_n _ _ (by omega)]; exact ek0) hv0 (by rw [hcv, up_n _ _ (by omega)]; exact ev0) _ fun J3 hJ3 => ?_
        · rw [u2_n1 _ _ (by omega), g1 265 17 (by omega) (by omega), hJ1 265 17 (by omega), f' 265 17 (by omega)]
          refine Hs_fr ?_ hH
          rw [← r1]
          exact rI_eq fun a j q => by
            rw [u2_n1 _ _ (by unfold Ra at q; omega)]
            exact g1 a j (by unfold Ra at q; omega) (by unfold Ra at q; omega)
        · have e99 : u2 J2 270 p mv 265 9 = nI t := by
            rw [u2_n1 _ _ (by omega), g1 265 9 (by omega) (by omega), hJ1 265 9 (by omega), f' 265 9 (by omega), e9]
          rw [hcv, up_s, e99, preyV_congr cs (nI t) (Sm_m (cur I) hp6 mv mv), nI_1]
          have nxt : (∀ a j, a ≠ 281 → a ≠ 270 → J3 a j = J1 a j) ∧ ∃ v, cur J3 = upd (cur I) (36 + p) v := ⟨fun a j a1 a2 => by rw [hJ3 a j a1, u2_n1 _ _ a2]; exact g1 a j a1 a2, mv, (cur_eq fun k hk => hJ3 _ _ (by have := loc_rng k hk; omega)).trans hcv⟩
          have ih' := ih J3 nxt
          have hfy := hfx y
          rw [hmv] at hfy
          unfold cntV at ih'
          refine ⟨fun z => ?_, fun z => ?_⟩
          · rw [if_neg (fun q => hfy.mp q z)] at ih'
            exact ih'
          · rw [if_pos (hfy.mpr z)] at ih'
            rw [nI_1]
            exact ih'
    · intro y J hy hS ih
      have hlt : ¬ (12 : Int32) ≤ nI y := fun z => by have := (nI_le_iff (a := 12) (b := y) (by omega) (by omega)).mp z; omega
      refine t_X10_odds_61 (d + 7) (hL p hp6) (gI i0 p hp6) _ _ _ _ _ (br_f hlt ?_)
      rw [hS.1 _ _ (by omega), hS.1 3 4 (by omega), e3, e4]
      refine sp_preyL (d + 7) hS (by omega) _ _ fun J' hS' => ?_
      have ih' := ih J' hS'
      rw [nI_1]
      unfold cntV at ih'
      refine ⟨fun z => ?_, fun z => ?_⟩
      · rw [if_neg (fun q => (hfx y).mp q z)] at ih'
        exact ih'
      · rw [if_pos ((hfx y).mpr z)] at ih'
        rw [nI_1]
        exact ih'
  · obtain ⟨p, hp6, hp, rfl, hq⟩ := h.g q
    exact t_X11_odds (d + 6) _ _ _ (br_t' hq (br_f (fun z => q2 (e2.mpr z)) ⟨rfl, h⟩))
end SM
