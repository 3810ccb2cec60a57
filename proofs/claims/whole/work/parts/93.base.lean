/-! what stands before the law begins, out of the premises -/
abbrev lG : List Cond := flatC (Jvm.Cond.and given_1 narrow_1)
abbrev lst (i : Nat) : Term := .string (zsOw.getD i "") (zsIx.getD i 0)
set_option maxRecDepth 100000 in
theorem gp_ab : Cond.arrayOf (.static "InnPurposes" "ABOVE" "[I") .int ∈ lG ∧ Cond.eq (.length (.static "InnPurposes" "ABOVE" "[I")) (.int (Int32.ofNat 7)) ∈ lG ∧ ∀ j, j < 7 → Cond.eq (.elem (.static "InnPurposes" "ABOVE" "[I") (.int (Int32.ofNat j))) (.int (zAbove.getD j 0)) ∈ lG := by decide +kernel
set_option maxRecDepth 100000 in
theorem gp_bo : Cond.arrayOf (.static "InnPurposes" "BODIES" "[I") .int ∈ lG ∧ Cond.eq (.length (.static "InnPurposes" "BODIES" "[I")) (.int (Int32.ofNat 21)) ∈ lG ∧ ∀ j, j < 21 → Cond.eq (.elem (.static "InnPurposes" "BODIES" "[I") (.int (Int32.ofNat j))) (.int (zBodies.getD j 0)) ∈ lG := by decide +kernel
set_option maxRecDepth 100000 in
theorem gp_cs : Cond.eq (.static "java/lang/String" "COMPACT_STRINGS" "Z") (.int 1) ∈ lG ∧ Cond.isRef (.static "jdk/internal/util/Preconditions" "SIOOBE_FORMATTER" "Ljava/util/function/BiFunction;") ∈ lG := by decide +kernel
set_option maxRecDepth 100000 in
theorem gp_st : ∀ i, i < 10 → Cond.exactly (lst i) "java/lang/String" ∈ lG ∧ Cond.eq (.field (lst i) "java/lang/String" "coder" "B") (.int 0) ∈ lG ∧ Cond.arrayOf (.field (lst i) "java/lang/String" "value" "[B") .byte ∈ lG ∧ Cond.eq (.length (.field (lst i) "java/lang/String" "value" "[B")) (.int (Int32.ofNat (zsBy.getD i []).length)) ∈ lG ∧
    ∀ j, j < (zsBy.getD i []).length → Cond.eq (.elem (.field (lst i) "java/lang/String" "value" "[B") (.int (Int32.ofNat j))) (.int ((zsBy.getD i []).getD j 0)) ∈ lG := by decide +kernel
theorem zsBy_len : ∀ i, i < 10 → (zsBy.getD i []).length < 100 := by decide +kernel
def sPl : List Nat := [446, 447, 448, 521, 585, 1096, 1107, 1108, 1141, 1143]
set_option maxRecDepth 100000 in
theorem gp_sr : ∀ i, i < 10 → tables_1[sPl.getD i 0]? = some (Cond.stringRef (zsOw.getD i "") (zsIx.getD i 0) (zsTx.getD i "")) := by decide +kernel
def lad (ta tb b tp : Nat) (adK adV : Nat → Nat) (i : Nat) : Nat := if i = 1000000 then ta else if i = 1000001 then tb else if i = 1000002 then b else if i = 1000003 then tp else if i < 1000030 then adK (i - 1000010) else adV (i - 1000030)
theorem lad_K {ta tb b tp : Nat} {adK adV : Nat → Nat} {i : Nat} (hi : i < 10) : lad ta tb b tp adK adV (1000010 + i) = adK i := by
  unfold lad
  rw [if_neg (by omega), if_neg (by omega), if_neg (by omega), if_neg (by omega), if_pos (by omega), Nat.add_sub_cancel_left]
theorem lad_V {ta tb b tp : Nat} {adK adV : Nat → Nat} {i : Nat} (hi : i < 10) : lad ta tb b tp adK adV (1000030 + i) = adV i := by
  unfold lad
  rw [if_neg (by omega), if_neg (by omega), if_neg (by omega), if_neg (by omega), if_neg (by omega), Nat.add_sub_cancel_left]
section LB
variable {s : State} {b N : Nat} {xs : Nat → Int32}
theorem base_str (hgv : (Jvm.Cond.and given_1 narrow_1).before #[Value.ref b] s = true) {A : Nat → Prop} (hA : ∀ a : Nat, a < s.heap.size → ¬ A a) (i : Nat) (hi : i < 10) : ∃ k v : Nat, (va_O "java/lang/String" k A s s.heap ∧ va_OF "java/lang/String" "coder" "B" (.int 0) k A s s.heap ∧ va_OF "java/lang/String" "value" "[B" (.ref v) k A s s.heap ∧ va_T .byte v (zsBy.getD i []).length (fun j => .int ((zsBy.getD i []).getD j 0)) A s s.heap) ∧ (lst i).eval #[Value.ref b] s none [] s = some (.ref k) := by
  have hg := flat_of_before _ hgv
  obtain ⟨g1, g2, g3, g4, g5⟩ := gp_st i hi
  obtain ⟨adK, adV, h1, h2⟩ := vk_Sof (args := #[Value.ref b]) (s := s) (N := 1) (tm := fun _ => lst i) (len := [(zsBy.getD i []).length]) (byt := [zsBy.getD i []]) (A := A) (fun k hk => by
      rcases (show k = 0 by omega) with rfl
      have := zsBy_len i hi
      show (zsBy.getD i []).length < 2 ^ 31
      omega) (fun k hk => hg _ g1) (fun k hk => hg _ g2) (fun k hk => hg _ g3) (fun k hk => by rcases (show k = 0 by omega) with rfl; exact hg _ g4) (fun k hk j hj => by rcases (show k = 0 by omega) with rfl; exact hg _ (g5 j hj)) (fun k j hk hj hne => absurd (show k = j by omega) hne) hA
  exact ⟨adK 0, adV 0, h1.1 0 (by omega), h2 0 (by omega)⟩
theorem base_cls (hts : ∀ w ∈ zT, w.before #[Value.ref b] s = true) : ∃ (dC : Nat → ClassId) (dI : Nat → Nat → Nat), ∀ (k : Nat) (q : vw_C), zcls[k]? = some q → u_Kn s q.1 q.2.1 q.2.2 (dC k) (dI k) := by
  have hi : ∀ ci, ci < 12 → Cond.instantiable (zR ci) (zN ci) ∈ zT := z12 i_X0 i_X1 i_X2 i_X3 i_X4 i_X5 i_X6 i_X7 i_X8 i_X9 i_X10 i_X11
  have hz : ∀ ci, ci < 12 → ∃ (q : ClassId × (Nat → Nat)), u_Kn s (zR ci) (zTt ci) (zN ci) q.1 q.2 := fun ci h => by
    obtain ⟨c, iS, hk⟩ := u_known hts (zin ci h) (hts _ (hi ci h))
    exact ⟨(c, iS), hk⟩
  refine ⟨fun k => if h : k < 12 then (hz k h).choose.1 else 0, fun k => if h : k < 12 then (hz k h).choose.2 else fun _ => 0, fun k q hq => ?_⟩
  have hk : k < 12 := (List.getElem?_eq_some_iff.mp hq).1
  rw [zcls_at k hk] at hq
  cases hq
  simp only [dif_pos hk]
  exact (hz k hk).choose_spec
theorem base_arr (hts : ∀ w ∈ lw_tbl, w.before #[Value.ref b] s = true) : ∃ cs : Nat → ClassId, ∀ (k : Nat) (q : ClassId × FieldType), (ztys cs)[k]? = some q → ArrOfT s q.1 q.2 ∧ va_RA s q.1 q.2 := by
  have hz : ∀ w ∈ zT, w ∈ lw_tbl := fun w hw => (List.mem_filter.mp hw).1
  obtain ⟨c0, k0, m0, a0, b0, d0⟩ := Cond.arrayClass_spec (hts _ (hz _ a_int))
  obtain ⟨c1, k1, m1, a1, b1, d1⟩ := Cond.arrayClass_spec (hts _ (hz _ a_long))
  obtain ⟨c2, k2, m2, a2, b2, d2⟩ := Cond.arrayClass_spec (hts _ (hz _ a_bool))
  obtain ⟨m3, c3, k3, e3, -, b3, d3, a3⟩ := arrayOverA_spec (hts _ a_II)
  obtain ⟨m4, c4, k4, e4, -, b4, d4, a4⟩ := Cond.arrayOver_spec (hts _ a_Guest)
  obtain ⟨m5, c5, k5, e5, -, b5, d5, a5⟩ := Cond.arrayOver_spec (hts _ a_House)
  obtain ⟨m6, c6, k6, e6, -, b6, d6, a6⟩ := Cond.arrayOver_spec (hts _ a_Lure)
  obtain ⟨m7, c7, k7, e7, -, b7, d7, a7⟩ := Cond.arrayOver_spec (hts _ a_Tape)
  have hA : ∀ {c : ClassId} {k : Class} {m : ClassId} {t : FieldType}, s.vm.classes[c]? = some k → k.kind = .array m t → ArrOfT s c t := fun h1 h2 => fun n z => ⟨(fun k h => by cases h), _, h1, _, h2⟩
  refine ⟨fun k => [c0, c1, c2, c3, c4, c5, c6, c7].getD k 0, fun k q hq => ?_⟩
  match k, hq with
  | 0, hq => cases hq; exact ⟨hA b0 d0, a0⟩
  | 1, hq => cases hq; exact ⟨hA b1 d1, a1⟩
  | 2, hq => cases hq; exact ⟨hA b2 d2, a2⟩
  | 3, hq => cases hq; exact ⟨hA b3 d3, a3⟩
  | 4, hq => cases hq; exact ⟨hA b4 d4, k4, m4, b4, d4, e4, a4⟩
  | 5, hq => cases hq; exact ⟨hA b5 d5, k5, m5, b5, d5, e5, a5⟩
  | 6, hq => cases hq; exact ⟨hA b6 d6, k6, m6, b6, d6, e6, a6⟩
  | 7, hq => cases hq; exact ⟨hA b7 d7, k7, m7, b7, d7, e7, a7⟩
  | k + 8, hq => simp [ztys] at hq
theorem base_of (hts : ∀ w ∈ lw_tbl, w.before #[Value.ref b] s = true) (hgv : (Jvm.Cond.and given_1 narrow_1).before #[Value.ref b] s = true) (hX : va_X b N xs s s.heap) (hbl : b < s.heap.size) (hN : N ≤ 3072) : ∃ (C : zC) (ad : Nat → Nat), C.1 = s.heap ∧ C.2.2.2.1 = N ∧ ad 1000002 = b ∧ zBase C ad s := by
  have hz : ∀ w ∈ zT, w.before #[Value.ref b] s = true := fun w hw => hts w (List.mem_filter.mp hw).1
  have hg := flat_of_before _ hgv
  have hA : ∀ a : Nat, a < s.heap.size → ¬ (fun q : Nat => s.heap.size ≤ q) a := fun a h => Nat.not_le.mpr h
  obtain ⟨dC, dI, hC⟩ := base_cls hz
  obtain ⟨cs, hcs⟩ := base_arr hts
  obtain ⟨g1, g2, g3⟩ := gp_ab
  obtain ⟨ta, ea, va⟩ := va_Tof (args := #[Value.ref b]) (N := 7) (f := fun j => .int (zAbove.getD j 0)) (by decide) (hg _ g1) (va_eqt (hg _ g2)) (fun j hj => va_eqt (hg _ (g3 j hj))) hA
  have za := va_Zof (hts _ (zT_tn 801 (by decide +kernel))) (hts _ (zT_tn 1 (by decide +kernel))) ea hA
  obtain ⟨f1, f2, f3⟩ := gp_bo
  obtain ⟨tb, eb, vb⟩ := va_Tof (args := #[Value.ref b]) (N := 21) (f := fun j => .int (zBodies.getD j 0)) (by decide) (hg _ f1) (va_eqt (hg _ f2)) (fun j hj => va_eqt (hg _ (f3 j hj))) hA
  have zb := va_Zof (hts _ (zT_tn 799 (by decide +kernel))) (hts _ (zT_tn 1 (by decide +kernel))) eb hA
  have zc := va_Zof (hts _ (zT_tn 458 (by decide +kernel))) (hts _ (zT_tn 15 (by decide +kernel))) (va_eqi (hg _ gp_cs.1)) hA
  have zp := va_Zqof (hts _ (zT_tn 474 (by decide +kernel))) (hts _ (zT_tn 17 (by decide +kernel))) (hg _ gp_cs.2) hA
  have hs := base_str hgv hA
  obtain ⟨tp, zp⟩ : ∃ tp : Nat, va_Z "jdk/internal/util/Preconditions" "SIOOBE_FORMATTER" "Ljava/util/function/BiFunction;" .null (fun q : Nat => s.heap.size ≤ q) s s.heap ∨ va_Z "jdk/internal/util/Preconditions" "SIOOBE_FORMATTER" "Ljava/util/function/BiFunction;" (.ref tp) (fun q : Nat => s.heap.size ≤ q) s s.heap := by
    rcases zp with h | ⟨t, h⟩
    · exact ⟨0, Or.inl h⟩
    · exact ⟨t, Or.inr h⟩
  obtain ⟨adK, hK⟩ : ∃ adK : Nat → Nat, ∀ i, i < 10 → ∃ v : Nat, (va_O "java/lang/String" (adK i) (fun q : Nat => s.heap.size ≤ q) s s.heap ∧ va_OF "java/lang/String" "coder" "B" (.int 0) (adK i) (fun q : Nat => s.heap.size ≤ q) s s.heap ∧ va_OF "java/lang/String" "value" "[B" (.ref v) (adK i) (fun q : Nat => s.heap.size ≤ q) s s.heap ∧ va_T .byte v (zsBy.getD i []).length (fun j => .int ((zsBy.getD i []).getD j 0)) (fun q : Nat => s.heap.size ≤ q) s s.heap) ∧ (lst i).eval #[Value.ref b] s none [] s = some (.ref (adK i)) :=
    ⟨fun i => if h : i < 10 then (hs i h).choose else 0, fun i hi => by simp only [dif_pos hi]; exact (hs i hi).choose_spec⟩
  obtain ⟨adV, hV⟩ : ∃ adV : Nat → Nat, ∀ i, i < 10 → (va_O "java/lang/String" (adK i) (fun q : Nat => s.heap.size ≤ q) s s.heap ∧ va_OF "java/lang/String" "coder" "B" (.int 0) (adK i) (fun q : Nat => s.heap.size ≤ q) s s.heap ∧ va_OF "java/lang/String" "value" "[B" (.ref (adV i)) (adK i) (fun q : Nat => s.heap.size ≤ q) s s.heap ∧ va_T .byte (adV i) (zsBy.getD i []).length (fun j => .int ((zsBy.getD i []).getD j 0)) (fun q : Nat => s.heap.size ≤ q) s s.heap) ∧ (lst i).eval #[Value.ref b] s none [] s = some (.ref (adK i)) :=
    ⟨fun i => if h : i < 10 then (hK i h).choose else 0, fun i hi => by simp only [dif_pos hi]; exact (hK i hi).choose_spec⟩
  have hsc : va_T .int b N (fun j => .int (xs j)) (fun q : Nat => s.heap.size ≤ q) s s.heap := by
    obtain ⟨cell, h1, h2, h3, h4, h5⟩ := hX
    exact ⟨cell, h1, h2, h3, Nat.le_of_eq h4.symm, by rw [h4], h5, hA b hbl⟩
  refine ⟨(s.heap, (dC, dI), cs, N, xs), lad ta tb b tp adK adV, rfl, rfl, rfl, ⟨hC, hcs⟩, ⟨za, va, zb, vb, hsc, zc, zp, fun i hi => ?_⟩, fun i hi => ?_, Nat.le_refl _, ?_⟩
  · obtain ⟨v1, v2, v3, v4⟩ := (hV i hi).1
    rw [lad_K hi, lad_V hi]
    exact ⟨v1, v2, v3, v4⟩
  · rw [lad_K hi]
    exact vk_R.of (A := #[Value.ref b]) (hts _ (zT_tn (sPl.getD i 0) (gp_sr i hi))) (hV i hi).2
  · exact ⟨fun a i x h hm => va_Nw.of rfl (hts _ hm), fun a i b n d h hm => va_Nw.of rfl (hts _ hm), fun D hm => va_AO.of (hts _ hm), hts _ a_II⟩
/-- YOUR PART: from the entry, for every script, the law comes to its end with true -/
theorem whole_start {p : Program} {e : Env} {s : State} {m : MethodId} {below : List Frame} {meth : Method} {c : Code} (l : Launch) (hflags : l.flags = flags0) {b L : Nat} {xs : Nat → Int32} (hL : L ≤ 3072) (C0 : lw_At p s m meth c b L xs) : W p l e room_1 s m #[Value.ref b] below meth c s.heap [] 0 0 (lw_Z below #[Value.ref b] s) (entryFrame m ([Value.ref b] : List Value).toArray 4) := by
  obtain ⟨hx, hb, hr, hml, hown, hts, hX, hbl, hlocks, hgv⟩ := id C0
  obtain ⟨C, ad, c1, c2, c3, hB⟩ := base_of hts hgv hX hbl hL
  have F : zFix (Y_L meth.name) p s m #[Value.ref b] meth c := ⟨hx, hb, hml, hown, fun w hw => hts w (List.mem_filter.mp hw).1, hr, hlocks, rfl⟩
  have hl := lv_entry ([.ref b]) (n := 4) (Nat.le_of_ble_eq_true rfl)
  rw [lg_entry_eq]
  generalize (lg_sl ([.ref b]) ++ List.replicate (4 - (lg_sl ([.ref b])).length) Slot.unset).toArray = ls at hl ⊢
  have hl : lv_has ls 4 [(0, .ref b)] := hl
  have e0 : zws C.2.2.1 ad (zhl ([] ++ [])) = [] := rfl
  have hW0 : zWd C ad (zhl ([] ++ [])) s.heap := ⟨by rw [e0]; exact fun k q h => by simp at h, by rw [e0]; exact ⟨fun i j p q h => by simp at h, fun k q h => by simp at h⟩, Nat.zero_le _, zhl_99 _⟩
  have hw := law_start (nm := meth.name) (C := C) (by rw [c2]; exact hL) ad p l e s m #[Value.ref b] below meth c F hB ad s.heap [] ls (fun _ _ => rfl) (fun _ => rfl) (Nat.zero_le _) hW0 va_S.rf (by
    show lv_has ls 4 [(0, .ref (ad 1000002))]
    rw [c3]
    exact hl)
  exact W_to (fun t ht => ht ⟨Nat.le_of_eq (by rw [c1]), b, rfl⟩) hw
end LB
