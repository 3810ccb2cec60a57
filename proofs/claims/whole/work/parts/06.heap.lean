/-! THE LAYER: fields, arrays, calls, ends -/
theorem zin : ∀ ci, ci < 12 → ∀ w ∈ u_ws (zR ci) (zTt ci) (zN ci), w ∈ zT := z12 (by decide +kernel) (by decide +kernel) (by decide +kernel) (by decide +kernel) (by decide +kernel) (by decide +kernel) (by decide +kernel) (by decide +kernel) (by decide +kernel) (by decide +kernel) (by decide +kernel) (by decide +kernel)
/-- own's pool entry idx is field j of class ci, of sort t -/
def zfl (own : String) (idx ci j t : Nat) : Prop := ci < 12 ∧ j < zN ci ∧ zf ci j = t ∧ Cond.fieldLink own idx (zTt ci j).1 (zTt ci j).2.1 (zTt ci j).2.2.1 ∈ zT
theorem zWd_lt {C : zC} {ad : Nat → Nat} {h : zH} {H : Heap} {a ci n : Nat} (hW : zWd C ad h H) (hs : zs h a = (ci, n)) (hc : ci < 99) : a < zn h := by
  rcases hW.2.2.2 a with q | q
  · exact q
  · rw [hs] at q
    exact absurd (Prod.mk.inj q).1 (Nat.ne_of_lt hc)
theorem zat_o {C : zC} {ad : Nat → Nat} {h : zH} {H : Heap} {a ci n : Nat} (hW : zWd C ad h H) (hs : zs h a = (ci, n)) (hc : ci < 12) : (zws C.2.2.1 ad h)[a]? = some (ad a, .inr (ci, (List.range (zN ci)).map (zfv ad h a ci))) := by
  rw [zws_at (zWd_lt hW hs (by omega)), zcell_o hs hc]
theorem zfs_at {ad : Nat → Nat} {h : zH} {a ci j : Nat} (hj : j < zN ci) : ((List.range (zN ci)).map (zfv ad h a ci))[j]? = some (zfv ad h a ci j) := by simp [hj]
theorem zfv_0 {ad : Nat → Nat} {h : zH} {a ci j : Nat} (e : zf ci j = 0) : zfv ad h a ci j = .int (zI h a j) := by unfold zfv; rw [e]; rfl
theorem zfv_1 {ad : Nat → Nat} {h : zH} {a ci j : Nat} (e : zf ci j = 1) : zfv ad h a ci j = .long (zL h a j) := by unfold zfv; rw [e]; rfl
theorem zfv_2 {ad : Nat → Nat} {h : zH} {a ci j : Nat} (e : zf ci j = 2) : zfv ad h a ci j = va_rf ((zP h a j).map ad) := by unfold zfv; rw [e]; rfl
theorem zfv_3 {ad : Nat → Nat} {h : zH} {a ci j : Nat} (e : zf ci j = 3) : zfv ad h a ci j = va_rf ((zM h a j).map ad) := by unfold zfv; rw [e]; rfl
theorem zfs_set {ad : Nat → Nat} {h h' : zH} {a ci j : Nat} {v : Value} (hj : zfv ad h' a ci j = v) (ho : ∀ i, i ≠ j → zfv ad h' a ci i = zfv ad h a ci i) : ((List.range (zN ci)).map (zfv ad h a ci)).set j v = (List.range (zN ci)).map (zfv ad h' a ci) := by
  apply List.ext_getElem?
  intro i
  rw [List.getElem?_set]
  by_cases hi : j = i
  · subst hi
    by_cases hl : j < zN ci
    · simp [hl, hj]
    · simp [hl]
  · rw [if_neg hi]
    by_cases hl : i < zN ci
    · simp [hl, ho i (fun q => hi q.symm)]
    · simp [hl]
theorem zWd_set {C : zC} {ad : Nat → Nat} {h h' : zH} {H H1 : Heap} {a : Nat} {e : va_E} (hW : zWd C ad h H) (hn : zn h' = zn h) (hz : zs h' = zs h) (he : zcell C.2.2.1 ad h' a = e) (ho : ∀ i, i ≠ a → zcell C.2.2.1 ad h' i = zcell C.2.2.1 ad h i)
    (hP : va_P C.2.1 zcls ((zws C.2.2.1 ad h).set a (ad a, e)) H1) (hD : va_D (zA C) ((zws C.2.2.1 ad h).set a (ad a, e))) : zWd C ad h' H1 := by
  rw [zws_set hn he ho] at hP hD
  exact ⟨hP, hD, by rw [hn]; exact hW.2.2.1, by rw [hn, hz]; exact hW.2.2.2⟩
theorem zcell_sI {cs : Nat → ClassId} {ad : Nat → Nat} {h : zH} {a j i : Nat} {x : Int32} (hi : i ≠ a) : zcell cs ad (zsI h a j x) i = zcell cs ad h i := zcell_eq rfl (u2_o _ _ _ hi) rfl rfl rfl
theorem zcell_sL {cs : Nat → ClassId} {ad : Nat → Nat} {h : zH} {a j i : Nat} {x : Int64} (hi : i ≠ a) : zcell cs ad (zsL h a j x) i = zcell cs ad h i := zcell_eq rfl rfl (u2_o _ _ _ hi) rfl rfl
theorem zcell_sP {cs : Nat → ClassId} {ad : Nat → Nat} {h : zH} {a j i : Nat} {x : Option Nat} (hi : i ≠ a) : zcell cs ad (zsP h a j x) i = zcell cs ad h i := zcell_eq rfl rfl rfl (u2_o _ _ _ hi) rfl
theorem zcell_sM {cs : Nat → ClassId} {ad : Nat → Nat} {h : zH} {a j i : Nat} {x : Option Nat} (hi : i ≠ a) : zcell cs ad (zsM h a j x) i = zcell cs ad h i := zcell_eq rfl rfl rfl rfl (u2_o _ _ _ hi)
theorem zcell_rI {cs : Nat → ClassId} {ad : Nat → Nat} {h : zH} {a i : Nat} {r : Nat → Int32} (hi : i ≠ a) : zcell cs ad (zrI h a r) i = zcell cs ad h i := zcell_eq rfl (uR_o _ _ hi) rfl rfl rfl
theorem zcell_rL {cs : Nat → ClassId} {ad : Nat → Nat} {h : zH} {a i : Nat} {r : Nat → Int64} (hi : i ≠ a) : zcell cs ad (zrL h a r) i = zcell cs ad h i := zcell_eq rfl rfl (uR_o _ _ hi) rfl rfl
section ZH
variable {C : zC} {Q : zQ} {n0 : Nat} {Y : zY} {rm : Room} {pc : Nat} {lv : List (Nat × Value)} {st : List Value} {h : zH} {cl sl : Nat}
theorem S_getI {a ci j idx n : Nat} (hf : zfl Y.1.cls idx ci j 0) (hs : zs h a = (ci, n)) (hd : decode Y.2.1 pc = .ok (.getfield idx, 3)) (k : Sem C Q n0 Y rm (pc + 3) lv (.int (zI h a j) :: st) h cl sl) : Sem C Q n0 Y rm pc lv (.ref a :: st) h cl sl :=
  fun ad0 p l e s m args below meth c F B ad H locs ls a1 a2 a3 a4 a5 a6 => va_get F.1 F.2.1 F.2.2.2.2.1 (zin ci hf.1) F.2.2.2.1 B.1 a4.1 a (zat_o a4 hs hf.1) (zcls_at ci hf.1) j hf.2.1 (F.2.2.2.2.1 _ hf.2.2.2) (fun _ q => q) (v := .int (zI h a j)) (by rw [zfs_at hf.2.1, zfv_0 hf.2.2.1]) hd (k ad0 p l e s m args below meth c F B ad H locs ls a1 a2 a3 a4 a5 a6)
theorem S_getL {a ci j idx n : Nat} (hf : zfl Y.1.cls idx ci j 1) (hs : zs h a = (ci, n)) (hd : decode Y.2.1 pc = .ok (.getfield idx, 3)) (k : Sem C Q n0 Y rm (pc + 3) lv (.long (zL h a j) :: st) h cl sl) : Sem C Q n0 Y rm pc lv (.ref a :: st) h cl sl :=
  fun ad0 p l e s m args below meth c F B ad H locs ls a1 a2 a3 a4 a5 a6 => va_get F.1 F.2.1 F.2.2.2.2.1 (zin ci hf.1) F.2.2.2.1 B.1 a4.1 a (zat_o a4 hs hf.1) (zcls_at ci hf.1) j hf.2.1 (F.2.2.2.2.1 _ hf.2.2.2) (fun _ q => q) (v := .long (zL h a j)) (by rw [zfs_at hf.2.1, zfv_1 hf.2.2.1]) hd (k ad0 p l e s m args below meth c F B ad H locs ls a1 a2 a3 a4 a5 a6)
theorem S_getP {a b ci j idx n : Nat} (hf : zfl Y.1.cls idx ci j 2) (hs : zs h a = (ci, n)) (hp : zP h a j = some b) (hd : decode Y.2.1 pc = .ok (.getfield idx, 3)) (k : Sem C Q n0 Y rm (pc + 3) lv (.ref b :: st) h cl sl) : Sem C Q n0 Y rm pc lv (.ref a :: st) h cl sl :=
  fun ad0 p l e s m args below meth c F B ad H locs ls a1 a2 a3 a4 a5 a6 => va_get F.1 F.2.1 F.2.2.2.2.1 (zin ci hf.1) F.2.2.2.1 B.1 a4.1 a (zat_o a4 hs hf.1) (zcls_at ci hf.1) j hf.2.1 (F.2.2.2.2.1 _ hf.2.2.2) (fun _ q => q) (v := .ref (ad b)) (by rw [zfs_at hf.2.1, zfv_2 hf.2.2.1, hp]; rfl) hd (k ad0 p l e s m args below meth c F B ad H locs ls a1 a2 a3 a4 a5 a6)
theorem S_getM {a b ci j idx n : Nat} (hf : zfl Y.1.cls idx ci j 3) (hs : zs h a = (ci, n)) (hp : zM h a j = some b) (hd : decode Y.2.1 pc = .ok (.getfield idx, 3)) (k : Sem C Q n0 Y rm (pc + 3) lv (.ref b :: st) h cl sl) : Sem C Q n0 Y rm pc lv (.ref a :: st) h cl sl :=
  fun ad0 p l e s m args below meth c F B ad H locs ls a1 a2 a3 a4 a5 a6 => va_get F.1 F.2.1 F.2.2.2.2.1 (zin ci hf.1) F.2.2.2.1 B.1 a4.1 a (zat_o a4 hs hf.1) (zcls_at ci hf.1) j hf.2.1 (F.2.2.2.2.1 _ hf.2.2.2) (fun _ q => q) (v := .ref (ad b)) (by rw [zfs_at hf.2.1, zfv_3 hf.2.2.1, hp]; rfl) hd (k ad0 p l e s m args below meth c F B ad H locs ls a1 a2 a3 a4 a5 a6)
/-- a field written: the new heap's cell is given -/
theorem S_putX {a ci j idx n : Nat} {t : Nat} {v : Value} {h' : zH} (hf : zfl Y.1.cls idx ci j t) (hs : zs h a = (ci, n)) (hfin : (zTt ci j).2.2.2 = false ∨ ((zTt ci j).2.2.2 = true ∧ Y.1.name = "<init>" ∧ (zTt ci j).1 = Y.1.cls))
    (hv : ∀ ad, narrow (zty ci j) (zv ad v) = zv ad v ∧ fits (zty ci j) (zv ad v) = true) (hn : zn h' = zn h) (hz : zs h' = zs h) (hj : ∀ ad, zfv ad h' a ci j = zv ad v) (hi : ∀ ad i, i ≠ j → zfv ad h' a ci i = zfv ad h a ci i) (ho : ∀ cs ad i, i ≠ a → zcell cs ad h' i = zcell cs ad h i)
    (hd : decode Y.2.1 pc = .ok (.putfield idx, 3)) (k : Sem C Q n0 Y rm (pc + 3) lv st h' cl sl) : Sem C Q n0 Y rm pc lv (v :: .ref a :: st) h cl sl := by
  intro ad0 p l e s m args below meth c F B ad H locs ls a1 a2 a3 a4 a5 a6
  have hcell : zcell C.2.2.1 ad h' a = .inr (ci, ((List.range (zN ci)).map (zfv ad h a ci)).set j (zv ad v)) := by
    rw [zcell_o (n := n) (by rw [hz]; exact hs) hf.1, zfs_set (hj ad) (hi ad)]
  have kk : ∀ (H1 : Heap) (locs1 : List Loc), va_P C.2.1 zcls ((zws C.2.2.1 ad h).set a (ad a, .inr (ci, ((List.range (zN ci)).map (zfv ad h a ci)).set j (zv ad v)))) H1 → va_D (zA C) ((zws C.2.2.1 ad h).set a (ad a, .inr (ci, ((List.range (zN ci)).map (zfv ad h a ci)).set j (zv ad v)))) → va_S (zA C) s.heap H1 locs1 → W p l e rm s m args below meth c H1 locs1 cl sl (Q ad0 below args s) (F0 m (pc + 3) ls (st.map (zv ad))) := fun H1 locs1 hP hD hS =>
    k ad0 p l e s m args below meth c F B ad H1 locs1 ls a1 a2 (by rw [hn]; exact a3) (zWd_set a4 hn hz hcell (ho _ ad) hP hD) hS a6
  rcases hfin with q | ⟨q, q2, q3⟩
  · exact va_put F.1 F.2.1 F.2.2.2.2.1 (zin ci hf.1) (zty ci) (zty_ok ci hf.1) (znm ci hf.1) F.2.2.2.1 B.1 a4.1 a4.2.1 a5 a (zat_o a4 hs hf.1) (zcls_at ci hf.1) j hf.2.1 (F.2.2.2.2.1 _ hf.2.2.2) (fun _ q => q) q (zty_ok ci hf.1 j hf.2.1) (hv ad).1 (hv ad).2 (by simp [hf.2.1]) hd kk
  · exact va_putF F.1 F.2.1 F.2.2.2.2.1 (zin ci hf.1) (zty ci) (zty_ok ci hf.1) (znm ci hf.1) F.2.2.2.1 B.1 a4.1 a4.2.1 a5 a (zat_o a4 hs hf.1) (zcls_at ci hf.1) j hf.2.1 (F.2.2.2.2.1 _ hf.2.2.2) (fun _ q => q) q (F.2.2.2.2.2.2.2.trans q2) q3 (zty_ok ci hf.1 j hf.2.1) (hv ad).1 (hv ad).2 (by simp [hf.2.1]) hd kk
theorem zfv_sI {ad : Nat → Nat} {h : zH} {a ci j i : Nat} {x : Int32} (hi : i ≠ j) : zfv ad (zsI h a j x) a ci i = zfv ad h a ci i := by
  unfold zfv
  rw [show zI (zsI h a j x) a i = zI h a i by simp [zI, zsI, u2, hi], show zL (zsI h a j x) = zL h from rfl, show zP (zsI h a j x) = zP h from rfl, show zM (zsI h a j x) = zM h from rfl]
theorem zfv_sP {ad : Nat → Nat} {h : zH} {a ci j i : Nat} {x : Option Nat} (hi : i ≠ j) : zfv ad (zsP h a j x) a ci i = zfv ad h a ci i := by
  unfold zfv
  rw [show zP (zsP h a j x) a i = zP h a i by simp [zP, zsP, u2, hi], show zL (zsP h a j x) = zL h from rfl, show zI (zsP h a j x) = zI h from rfl, show zM (zsP h a j x) = zM h from rfl]
theorem zfv_sM {ad : Nat → Nat} {h : zH} {a ci j i : Nat} {x : Option Nat} (hi : i ≠ j) : zfv ad (zsM h a j x) a ci i = zfv ad h a ci i := by
  unfold zfv
  rw [show zM (zsM h a j x) a i = zM h a i by simp [zM, zsM, u2, hi], show zL (zsM h a j x) = zL h from rfl, show zI (zsM h a j x) = zI h from rfl, show zP (zsM h a j x) = zP h from rfl]
def zfin (own nm : String) (ci j : Nat) : Prop := (zTt ci j).2.2.2 = false ∨ ((zTt ci j).2.2.2 = true ∧ nm = "<init>" ∧ (zTt ci j).1 = own)
theorem S_putI {a ci j idx n : Nat} {x : Int32} (hf : zfl Y.1.cls idx ci j 0) (hs : zs h a = (ci, n)) (hfin : zfin Y.1.cls Y.1.name ci j) (ht : zty ci j = .int) (hd : decode Y.2.1 pc = .ok (.putfield idx, 3)) (k : Sem C Q n0 Y rm (pc + 3) lv st (zsI h a j x) cl sl) : Sem C Q n0 Y rm pc lv (.int x :: .ref a :: st) h cl sl :=
  S_putX (h' := zsI h a j x) hf hs hfin (fun ad => by rw [ht]; exact ⟨rfl, rfl⟩) rfl rfl (fun ad => by rw [zfv_0 hf.2.2.1]; show Value.int _ = Value.int x; congr 1; simp [zI, zsI, u2]) (fun ad i hi => zfv_sI hi) (fun cs ad i hi => zcell_sI hi) hd k
theorem S_putZ {a ci j idx n : Nat} {x : Int32} (hf : zfl Y.1.cls idx ci j 0) (hs : zs h a = (ci, n)) (hfin : zfin Y.1.cls Y.1.name ci j) (ht : zty ci j = .boolean) (hx : x = 0 ∨ x = 1) (hd : decode Y.2.1 pc = .ok (.putfield idx, 3)) (k : Sem C Q n0 Y rm (pc + 3) lv st (zsI h a j x) cl sl) : Sem C Q n0 Y rm pc lv (.int x :: .ref a :: st) h cl sl :=
  S_putX (h' := zsI h a j x) hf hs hfin (fun ad => by rw [ht]; rcases hx with rfl | rfl <;> exact ⟨rfl, rfl⟩) rfl rfl (fun ad => by rw [zfv_0 hf.2.2.1]; show Value.int _ = Value.int x; congr 1; simp [zI, zsI, u2]) (fun ad i hi => zfv_sI hi) (fun cs ad i hi => zcell_sI hi) hd k
def zrefTy (t : FieldType) : Prop := (∃ n, t = .object n) ∨ ∃ u, t = .array u
theorem zrefTy_ok {t : FieldType} (h : zrefTy t) (a : Nat) : narrow t (.ref a) = .ref a ∧ fits t (.ref a) = true := by
  rcases h with ⟨n, rfl⟩ | ⟨u, rfl⟩ <;> exact ⟨rfl, rfl⟩
theorem S_putP {a b ci j idx n : Nat} (hf : zfl Y.1.cls idx ci j 2) (hs : zs h a = (ci, n)) (hfin : zfin Y.1.cls Y.1.name ci j) (ht : zrefTy (zty ci j)) (hd : decode Y.2.1 pc = .ok (.putfield idx, 3)) (k : Sem C Q n0 Y rm (pc + 3) lv st (zsP h a j (some b)) cl sl) : Sem C Q n0 Y rm pc lv (.ref b :: .ref a :: st) h cl sl :=
  S_putX (h' := zsP h a j (some b)) hf hs hfin (fun ad => zrefTy_ok ht _) rfl rfl (fun ad => by rw [zfv_2 hf.2.2.1, show zP (zsP h a j (some b)) a j = some b by simp [zP, zsP, u2]]; rfl) (fun ad i hi => zfv_sP hi) (fun cs ad i hi => zcell_sP hi) hd k
theorem S_putM {a b ci j idx n : Nat} (hf : zfl Y.1.cls idx ci j 3) (hs : zs h a = (ci, n)) (hfin : zfin Y.1.cls Y.1.name ci j) (ht : zrefTy (zty ci j)) (hd : decode Y.2.1 pc = .ok (.putfield idx, 3)) (k : Sem C Q n0 Y rm (pc + 3) lv st (zsM h a j (some b)) cl sl) : Sem C Q n0 Y rm pc lv (.ref b :: .ref a :: st) h cl sl :=
  S_putX (h' := zsM h a j (some b)) hf hs hfin (fun ad => zrefTy_ok ht _) rfl rfl (fun ad => by rw [zfv_3 hf.2.2.1, show zM (zsM h a j (some b)) a j = some b by simp [zM, zsM, u2]]; rfl) (fun ad i hi => zfv_sM hi) (fun cs ad i hi => zcell_sM hi) hd k
-- arrays
theorem zat_i {ad : Nat → Nat} {H : Heap} {a n : Nat} (hW : zWd C ad h H) (hs : zs h a = (12, n)) : (zws C.2.2.1 ad h)[a]? = some (ad a, .inl (C.2.2.1 0, n, .inl (zI h a))) := by rw [zws_at (zWd_lt hW hs (by omega)), zcell_i hs]
theorem zat_l {ad : Nat → Nat} {H : Heap} {a n : Nat} (hW : zWd C ad h H) (hs : zs h a = (13, n)) : (zws C.2.2.1 ad h)[a]? = some (ad a, .inl (C.2.2.1 1, n, .inr (.inl (zL h a)))) := by rw [zws_at (zWd_lt hW hs (by omega)), zcell_l hs]
theorem zat_z {ad : Nat → Nat} {H : Heap} {a n : Nat} (hW : zWd C ad h H) (hs : zs h a = (14, n)) : (zws C.2.2.1 ad h)[a]? = some (ad a, .inl (C.2.2.1 2, n, .inl (zI h a))) := by rw [zws_at (zWd_lt hW hs (by omega)), zcell_z hs]
theorem zat_q {ad : Nat → Nat} {H : Heap} {a n k : Nat} (hW : zWd C ad h H) (hs : zs h a = (15 + k, n)) (hk : k < 5) : (zws C.2.2.1 ad h)[a]? = some (ad a, .inl (C.2.2.1 (3 + k), n, .inr (.inr (.inr (.inr (fun j => (zP h a j).map ad)))))) := by rw [zws_at (zWd_lt hW hs (by omega)), zcell_q hs hk]
theorem S_iald {a n : Nat} {i : Int32} (hs : zs h a = (12, n)) (hin : vp_in i n) (hd : decode Y.2.1 pc = .ok (.iaload, 1)) (k : Sem C Q n0 Y rm (pc + 1) lv (.int (zI h a i.toNatClampNeg) :: st) h cl sl) : Sem C Q n0 Y rm pc lv (.int i :: .ref a :: st) h cl sl :=
  fun ad0 p l e s m args below meth c F B ad H locs ls a1 a2 a3 a4 a5 a6 => va_iald F.1 F.2.1 B.1 a4.1 a 0 (zat_i a4 hs) rfl hin hd (k ad0 p l e s m args below meth c F B ad H locs ls a1 a2 a3 a4 a5 a6)
theorem S_lald {a n : Nat} {i : Int32} (hs : zs h a = (13, n)) (hin : vp_in i n) (hd : decode Y.2.1 pc = .ok (.laload, 1)) (k : Sem C Q n0 Y rm (pc + 1) lv (.long (zL h a i.toNatClampNeg) :: st) h cl sl) : Sem C Q n0 Y rm pc lv (.int i :: .ref a :: st) h cl sl :=
  fun ad0 p l e s m args below meth c F B ad H locs ls a1 a2 a3 a4 a5 a6 => va_lald F.1 F.2.1 B.1 a4.1 a 1 (zat_l a4 hs) rfl hin hd (k ad0 p l e s m args below meth c F B ad H locs ls a1 a2 a3 a4 a5 a6)
theorem S_zald {a n : Nat} {i : Int32} (hs : zs h a = (14, n)) (hin : vp_in i n) (hd : decode Y.2.1 pc = .ok (.baload, 1)) (k : Sem C Q n0 Y rm (pc + 1) lv (.int (zI h a i.toNatClampNeg) :: st) h cl sl) : Sem C Q n0 Y rm pc lv (.int i :: .ref a :: st) h cl sl :=
  fun ad0 p l e s m args below meth c F B ad H locs ls a1 a2 a3 a4 a5 a6 => va_zald F.1 F.2.1 B.1 a4.1 a 2 (zat_z a4 hs) rfl hin hd (k ad0 p l e s m args below meth c F B ad H locs ls a1 a2 a3 a4 a5 a6)
theorem S_iast {a n : Nat} {i x : Int32} (hs : zs h a = (12, n)) (hin : vp_in i n) (hd : decode Y.2.1 pc = .ok (.iastore, 1)) (k : Sem C Q n0 Y rm (pc + 1) lv st (zsI h a i.toNatClampNeg x) cl sl) : Sem C Q n0 Y rm pc lv (.int x :: .int i :: .ref a :: st) h cl sl := by
  intro ad0 p l e s m args below meth c F B ad H locs ls a1 a2 a3 a4 a5 a6
  refine va_iast F.1 F.2.1 B.1 a4.1 a4.2.1 a5 a 0 (zat_i a4 hs) rfl hin hd (fun H1 locs1 hP hD hS => k ad0 p l e s m args below meth c F B ad H1 locs1 ls a1 a2 a3 (zWd_set a4 rfl rfl ?_ (fun i hi => zcell_sI hi) hP hD) hS a6)
  rw [zcell_i (h := zsI h a i.toNatClampNeg x) hs, show zI (zsI h a i.toNatClampNeg x) a = upd (zI h a) i.toNatClampNeg x from u2_s _ _ _ _]
theorem S_zast {a n : Nat} {i x : Int32} (hs : zs h a = (14, n)) (hin : vp_in i n) (hx : x = 0 ∨ x = 1) (hd : decode Y.2.1 pc = .ok (.bastore, 1)) (k : Sem C Q n0 Y rm (pc + 1) lv st (zsI h a i.toNatClampNeg x) cl sl) : Sem C Q n0 Y rm pc lv (.int x :: .int i :: .ref a :: st) h cl sl := by
  intro ad0 p l e s m args below meth c F B ad H locs ls a1 a2 a3 a4 a5 a6
  refine va_zast F.1 F.2.1 B.1 a4.1 a4.2.1 a5 a 2 (zat_z a4 hs) rfl hin hd (fun H1 locs1 hP hD hS => k ad0 p l e s m args below meth c F B ad H1 locs1 ls a1 a2 a3 (zWd_set a4 rfl rfl ?_ (fun i hi => zcell_sI hi) hP hD) hS a6)
  rw [zcell_z (h := zsI h a i.toNatClampNeg x) hs, show zI (zsI h a i.toNatClampNeg x) a = upd (zI h a) i.toNatClampNeg x from u2_s _ _ _ _, show vp_nar .boolean x = x by rcases hx with rfl | rfl <;> rfl]
theorem S_last {a n : Nat} {i : Int32} {x : Int64} (hs : zs h a = (13, n)) (hin : vp_in i n) (hd : decode Y.2.1 pc = .ok (.lastore, 1)) (k : Sem C Q n0 Y rm (pc + 1) lv st (zsL h a i.toNatClampNeg x) cl sl) : Sem C Q n0 Y rm pc lv (.long x :: .int i :: .ref a :: st) h cl sl := by
  intro ad0 p l e s m args below meth c F B ad H locs ls a1 a2 a3 a4 a5 a6
  refine va_last F.1 F.2.1 B.1 a4.1 a4.2.1 a5 a 1 (zat_l a4 hs) rfl hin hd (fun H1 locs1 hP hD hS => k ad0 p l e s m args below meth c F B ad H1 locs1 ls a1 a2 a3 (zWd_set a4 rfl rfl ?_ (fun i hi => zcell_sL hi) hP hD) hS a6)
  rw [zcell_l (h := zsL h a i.toNatClampNeg x) hs, show zL (zsL h a i.toNatClampNeg x) a = vp_updL (zL h a) i.toNatClampNeg x from u2_s _ _ _ _]
/-- an array of references, of kind 15 + q -/
theorem S_aald {a b n : Nat} (q : Nat) {i : Int32} (hq : q < 5) (hs : zs h a = (15 + q, n)) (hin : vp_in i n) (hp : zP h a i.toNatClampNeg = some b) (hd : decode Y.2.1 pc = .ok (.aaload, 1)) (k : Sem C Q n0 Y rm (pc + 1) lv (.ref b :: st) h cl sl) : Sem C Q n0 Y rm pc lv (.int i :: .ref a :: st) h cl sl := by
  intro ad0 p l e s m args below meth c F B ad H locs ls a1 a2 a3 a4 a5 a6
  have hlt : i.toNatClampNeg < n := Nat.not_le.mp fun q => hin (Or.inr q)
  have hty : ∃ ty, (ztys C.2.2.1)[3 + q]? = some (C.2.2.1 (3 + q), ty) ∧ ty.isReference = true := by
    match q, hq with
    | 0, _ => exact ⟨_, rfl, rfl⟩
    | 1, _ => exact ⟨_, rfl, rfl⟩
    | 2, _ => exact ⟨_, rfl, rfl⟩
    | 3, _ => exact ⟨_, rfl, rfl⟩
    | 4, _ => exact ⟨_, rfl, rfl⟩
    | n + 5, h => exact absurd h (by omega)
  obtain ⟨ty, ht, hr⟩ := hty
  refine W.aald (v := .ref (ad b)) (ty := ty) F.1 F.2.1 (a4.1 a _ (zat_q a4 hs hq)) ((B.1.2 _ _ ht).1 n (fun j => va_rf ((zP h a j).map ad))) hr (fun q => by cases q) (by show ¬ (i < 0 ∨ (arrV _ _ _).slots.size ≤ _); rw [arrV_size]; exact hin) (by show (arrV _ _ _).slots[_]? = _; rw [arrV_read _ _ hlt]; show some (va_rf (Option.map ad (zP h a i.toNatClampNeg))) = _; rw [hp]; rfl) rfl rfl hd (k ad0 p l e s m args below meth c F B ad H locs ls a1 a2 a3 a4 a5 a6)
theorem S_alen_q {a n : Nat} (q : Nat) {v : Int32} (hq : q < 5) (hs : zs h a = (15 + q, n)) (hv : Int32.ofNat n = v) (hd : decode Y.2.1 pc = .ok (.arraylength, 1)) (k : Sem C Q n0 Y rm (pc + 1) lv (.int v :: st) h cl sl) : Sem C Q n0 Y rm pc lv (.ref a :: st) h cl sl := by
  intro ad0 p l e s m args below meth c F B ad H locs ls a1 a2 a3 a4 a5 a6
  have hty : ∃ ty, (ztys C.2.2.1)[3 + q]? = some (C.2.2.1 (3 + q), ty) := by
    match q, hq with
    | 0, _ => exact ⟨_, rfl⟩
    | 1, _ => exact ⟨_, rfl⟩
    | 2, _ => exact ⟨_, rfl⟩
    | 3, _ => exact ⟨_, rfl⟩
    | 4, _ => exact ⟨_, rfl⟩
    | n + 5, h => exact absurd h (by omega)
  obtain ⟨ty, ht⟩ := hty
  exact va_alen F.1 F.2.1 B.1 a4.1 a (3 + q) (x := (n, _)) (zat_q a4 hs hq) ht hv hd (k ad0 p l e s m args below meth c F B ad H locs ls a1 a2 a3 a4 a5 a6)
theorem S_alen_i {a n : Nat} {v : Int32} (hs : zs h a = (12, n)) (hv : Int32.ofNat n = v) (hd : decode Y.2.1 pc = .ok (.arraylength, 1)) (k : Sem C Q n0 Y rm (pc + 1) lv (.int v :: st) h cl sl) : Sem C Q n0 Y rm pc lv (.ref a :: st) h cl sl :=
  fun ad0 p l e s m args below meth c F B ad H locs ls a1 a2 a3 a4 a5 a6 => va_alen F.1 F.2.1 B.1 a4.1 a 0 (x := (n, _)) (zat_i a4 hs) rfl hv hd (k ad0 p l e s m args below meth c F B ad H locs ls a1 a2 a3 a4 a5 a6)
theorem S_alen_l {a n : Nat} {v : Int32} (hs : zs h a = (13, n)) (hv : Int32.ofNat n = v) (hd : decode Y.2.1 pc = .ok (.arraylength, 1)) (k : Sem C Q n0 Y rm (pc + 1) lv (.int v :: st) h cl sl) : Sem C Q n0 Y rm pc lv (.ref a :: st) h cl sl :=
  fun ad0 p l e s m args below meth c F B ad H locs ls a1 a2 a3 a4 a5 a6 => va_alen F.1 F.2.1 B.1 a4.1 a 1 (x := (n, _)) (zat_l a4 hs) rfl hv hd (k ad0 p l e s m args below meth c F B ad H locs ls a1 a2 a3 a4 a5 a6)
-- what stands before
theorem S_above {idx : Nat} (hw : Cond.fieldLink Y.1.cls idx "InnPurposes" "ABOVE" "[I" ∈ zT) (hd : decode Y.2.1 pc = .ok (.getstatic idx, 3)) (k : Sem C Q n0 Y rm (pc + 3) lv (.ref 1000000 :: st) h cl sl) : Sem C Q n0 Y rm pc lv st h cl sl :=
  fun ad0 p l e s m args below meth c F B ad H locs ls a1 a2 a3 a4 a5 a6 => va_gets F.1 F.2.1 B.2.1.1 a5 F.2.2.2.1 (F.2.2.2.2.1 _ hw) (fun _ q => q) hd (by rw [← a1 1000000 (Or.inr (by omega))]; exact k ad0 p l e s m args below meth c F B ad H locs ls a1 a2 a3 a4 a5 a6)
theorem S_bodies {idx : Nat} (hw : Cond.fieldLink Y.1.cls idx "InnPurposes" "BODIES" "[I" ∈ zT) (hd : decode Y.2.1 pc = .ok (.getstatic idx, 3)) (k : Sem C Q n0 Y rm (pc + 3) lv (.ref 1000001 :: st) h cl sl) : Sem C Q n0 Y rm pc lv st h cl sl :=
  fun ad0 p l e s m args below meth c F B ad H locs ls a1 a2 a3 a4 a5 a6 => va_gets F.1 F.2.1 B.2.1.2.2.1 a5 F.2.2.2.1 (F.2.2.2.2.1 _ hw) (fun _ q => q) hd (by rw [← a1 1000001 (Or.inr (by omega))]; exact k ad0 p l e s m args below meth c F B ad H locs ls a1 a2 a3 a4 a5 a6)
theorem S_compact {idx : Nat} (hw : Cond.fieldLink Y.1.cls idx "java/lang/String" "COMPACT_STRINGS" "Z" ∈ zT) (hd : decode Y.2.1 pc = .ok (.getstatic idx, 3)) (k : Sem C Q n0 Y rm (pc + 3) lv (.int 1 :: st) h cl sl) : Sem C Q n0 Y rm pc lv st h cl sl :=
  fun ad0 p l e s m args below meth c F B ad H locs ls a1 a2 a3 a4 a5 a6 => va_gets F.1 F.2.1 B.2.1.2.2.2.2.2.1 a5 F.2.2.2.1 (F.2.2.2.2.1 _ hw) (fun _ q => q) hd (k ad0 p l e s m args below meth c F B ad H locs ls a1 a2 a3 a4 a5 a6)
theorem S_sioobe {idx : Nat} (hw : Cond.fieldLink Y.1.cls idx "jdk/internal/util/Preconditions" "SIOOBE_FORMATTER" "Ljava/util/function/BiFunction;" ∈ zT) (hd : decode Y.2.1 pc = .ok (.getstatic idx, 3)) (k : ∀ v : Value, v = .null ∨ v = .ref 1000003 → Sem C Q n0 Y rm (pc + 3) lv (v :: st) h cl sl) : Sem C Q n0 Y rm pc lv st h cl sl := by
  intro ad0 p l e s m args below meth c F B ad H locs ls a1 a2 a3 a4 a5 a6
  rcases B.2.1.2.2.2.2.2.2.1 with q | q
  · exact va_gets F.1 F.2.1 q a5 F.2.2.2.1 (F.2.2.2.2.1 _ hw) (fun _ q => q) hd (k .null (Or.inl rfl) ad0 p l e s m args below meth c F B ad H locs ls a1 a2 a3 a4 a5 a6)
  · exact va_gets F.1 F.2.1 q a5 F.2.2.2.1 (F.2.2.2.2.1 _ hw) (fun _ q => q) hd (by rw [← a1 1000003 (Or.inr (by omega))]; exact k (.ref 1000003) (Or.inr rfl) ad0 p l e s m args below meth c F B ad H locs ls a1 a2 a3 a4 a5 a6)
theorem S_ab_ld {i : Int32} (hin : vp_in i 7) (hd : decode Y.2.1 pc = .ok (.iaload, 1)) (k : Sem C Q n0 Y rm (pc + 1) lv (.int (zAbove.getD i.toNatClampNeg 0) :: st) h cl sl) : Sem C Q n0 Y rm pc lv (.int i :: .ref 1000000 :: st) h cl sl := by
  intro ad0 p l e s m args below meth c F B ad H locs ls a1 a2 a3 a4 a5 a6
  show W p l e rm s m args below meth c H locs cl sl (Q ad0 below args s) (F0 m pc ls (.int i :: .ref (ad 1000000) :: st.map (zv ad)))
  rw [a1 1000000 (Or.inr (by omega))]
  exact va_ti F.1 F.2.1 B.2.1.2.1 a5 hin rfl hd (k ad0 p l e s m args below meth c F B ad H locs ls a1 a2 a3 a4 a5 a6)
theorem S_bo_ld {i : Int32} (hin : vp_in i 21) (hd : decode Y.2.1 pc = .ok (.iaload, 1)) (k : Sem C Q n0 Y rm (pc + 1) lv (.int (zBodies.getD i.toNatClampNeg 0) :: st) h cl sl) : Sem C Q n0 Y rm pc lv (.int i :: .ref 1000001 :: st) h cl sl := by
  intro ad0 p l e s m args below meth c F B ad H locs ls a1 a2 a3 a4 a5 a6
  show W p l e rm s m args below meth c H locs cl sl (Q ad0 below args s) (F0 m pc ls (.int i :: .ref (ad 1000001) :: st.map (zv ad)))
  rw [a1 1000001 (Or.inr (by omega))]
  exact va_ti F.1 F.2.1 B.2.1.2.2.2.1 a5 hin rfl hd (k ad0 p l e s m args below meth c F B ad H locs ls a1 a2 a3 a4 a5 a6)
theorem S_sc_ld {i : Int32} (hin : vp_in i C.2.2.2.1) (hd : decode Y.2.1 pc = .ok (.iaload, 1)) (k : Sem C Q n0 Y rm (pc + 1) lv (.int (C.2.2.2.2 i.toNatClampNeg) :: st) h cl sl) : Sem C Q n0 Y rm pc lv (.int i :: .ref 1000002 :: st) h cl sl := by
  intro ad0 p l e s m args below meth c F B ad H locs ls a1 a2 a3 a4 a5 a6
  show W p l e rm s m args below meth c H locs cl sl (Q ad0 below args s) (F0 m pc ls (.int i :: .ref (ad 1000002) :: st.map (zv ad)))
  rw [a1 1000002 (Or.inr (by omega))]
  exact va_ti F.1 F.2.1 B.2.1.2.2.2.2.1 a5 hin rfl hd (k ad0 p l e s m args below meth c F B ad H locs ls a1 a2 a3 a4 a5 a6)
theorem S_sc_len {v : Int32} (hv : Int32.ofNat C.2.2.2.1 = v) (hd : decode Y.2.1 pc = .ok (.arraylength, 1)) (k : Sem C Q n0 Y rm (pc + 1) lv (.int v :: st) h cl sl) : Sem C Q n0 Y rm pc lv (.ref 1000002 :: st) h cl sl := by
  intro ad0 p l e s m args below meth c F B ad H locs ls a1 a2 a3 a4 a5 a6
  show W p l e rm s m args below meth c H locs cl sl (Q ad0 below args s) (F0 m pc ls (.ref (ad 1000002) :: st.map (zv ad)))
  rw [a1 1000002 (Or.inr (by omega))]
  exact va_tlen F.1 F.2.1 B.2.1.2.2.2.2.1 a5 hv hd (k ad0 p l e s m args below meth c F B ad H locs ls a1 a2 a3 a4 a5 a6)
/-- a literal's coder, value, its bytes -/
theorem S_st_coder (i : Nat) (hi : i < 10) {idx : Nat} (hw : Cond.fieldLink Y.1.cls idx "java/lang/String" "coder" "B" ∈ zT) (hd : decode Y.2.1 pc = .ok (.getfield idx, 3)) (k : Sem C Q n0 Y rm (pc + 3) lv (.int 0 :: st) h cl sl) : Sem C Q n0 Y rm pc lv (.ref (1000010 + i) :: st) h cl sl := by
  intro ad0 p l e s m args below meth c F B ad H locs ls a1 a2 a3 a4 a5 a6
  show W p l e rm s m args below meth c H locs cl sl (Q ad0 below args s) (F0 m pc ls (.ref (ad (1000010 + i)) :: st.map (zv ad)))
  rw [a1 (1000010 + i) (Or.inr (by omega))]
  exact vk_getf F.1 F.2.1 (B.2.1.2.2.2.2.2.2.2 i hi).2.1 a5 F.2.2.2.1 (F.2.2.2.2.1 _ hw) (fun _ q => q) hd (k ad0 p l e s m args below meth c F B ad H locs ls a1 a2 a3 a4 a5 a6)
theorem S_st_value (i : Nat) (hi : i < 10) {idx : Nat} (hw : Cond.fieldLink Y.1.cls idx "java/lang/String" "value" "[B" ∈ zT) (hd : decode Y.2.1 pc = .ok (.getfield idx, 3)) (k : Sem C Q n0 Y rm (pc + 3) lv (.ref (1000030 + i) :: st) h cl sl) : Sem C Q n0 Y rm pc lv (.ref (1000010 + i) :: st) h cl sl := by
  intro ad0 p l e s m args below meth c F B ad H locs ls a1 a2 a3 a4 a5 a6
  show W p l e rm s m args below meth c H locs cl sl (Q ad0 below args s) (F0 m pc ls (.ref (ad (1000010 + i)) :: st.map (zv ad)))
  rw [a1 (1000010 + i) (Or.inr (by omega))]
  exact vk_getf F.1 F.2.1 (B.2.1.2.2.2.2.2.2.2 i hi).2.2.1 a5 F.2.2.2.1 (F.2.2.2.2.1 _ hw) (fun _ q => q) hd (by rw [← a1 (1000030 + i) (Or.inr (by omega))]; exact k ad0 p l e s m args below meth c F B ad H locs ls a1 a2 a3 a4 a5 a6)
theorem S_st_len (i : Nat) (hi : i < 10) {v : Int32} (hv : Int32.ofNat (zsBy.getD i []).length = v) (hd : decode Y.2.1 pc = .ok (.arraylength, 1)) (k : Sem C Q n0 Y rm (pc + 1) lv (.int v :: st) h cl sl) : Sem C Q n0 Y rm pc lv (.ref (1000030 + i) :: st) h cl sl := by
  intro ad0 p l e s m args below meth c F B ad H locs ls a1 a2 a3 a4 a5 a6
  show W p l e rm s m args below meth c H locs cl sl (Q ad0 below args s) (F0 m pc ls (.ref (ad (1000030 + i)) :: st.map (zv ad)))
  rw [a1 (1000030 + i) (Or.inr (by omega))]
  exact va_tlen F.1 F.2.1 (B.2.1.2.2.2.2.2.2.2 i hi).2.2.2 a5 hv hd (k ad0 p l e s m args below meth c F B ad H locs ls a1 a2 a3 a4 a5 a6)
theorem S_st_ld (i : Nat) (hi : i < 10) {j : Int32} (hin : vp_in j (zsBy.getD i []).length) (hd : decode Y.2.1 pc = .ok (.baload, 1)) (k : Sem C Q n0 Y rm (pc + 1) lv (.int ((zsBy.getD i []).getD j.toNatClampNeg 0) :: st) h cl sl) : Sem C Q n0 Y rm pc lv (.int j :: .ref (1000030 + i) :: st) h cl sl := by
  intro ad0 p l e s m args below meth c F B ad H locs ls a1 a2 a3 a4 a5 a6
  show W p l e rm s m args below meth c H locs cl sl (Q ad0 below args s) (F0 m pc ls (.int j :: .ref (ad (1000030 + i)) :: st.map (zv ad)))
  rw [a1 (1000030 + i) (Or.inr (by omega))]
  exact va_tb F.1 F.2.1 (B.2.1.2.2.2.2.2.2.2 i hi).2.2.2 a5 hin rfl hd (k ad0 p l e s m args below meth c F B ad H locs ls a1 a2 a3 a4 a5 a6)
end ZH
