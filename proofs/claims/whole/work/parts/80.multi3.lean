/-! int[n][k]: the rule over lists of objects; the setters; calls of constructors -/
def oA (N n : Nat) : zO := ((15, n), fun _ => 0, fun _ => 0, fun j => if j < n then some (N + 1 + j) else none, fun _ => none)
def zmA (N n k : Nat) : List zO := oA N n :: List.replicate n (z0 12 k)
theorem zD_new {A : Nat → Prop} {ws : va_W} {D : va_G} {cl : List vw_C} {H : Heap} {n : Nat} {f : Nat → va_E} (hD : va_D A ws) (hP : va_P D cl ws H) (hA : ∀ q, H.size ≤ q → A q) : va_D A (ws ++ (List.range n).map (fun i => (H.size + i, f i))) := by
  have key : ∀ (k : Nat) (q : Nat × va_E), (ws ++ (List.range n).map (fun i => (H.size + i, f i)))[k]? = some q → (ws[k]? = some q ∧ q.1 < H.size ∧ k < ws.length) ∨ (ws.length ≤ k ∧ q.1 = H.size + (k - ws.length)) := by
    intro k q hk
    by_cases hl : k < ws.length
    · rw [List.getElem?_append_left hl] at hk
      exact Or.inl ⟨hk, (hP k q hk).lt, hl⟩
    · rw [List.getElem?_append_right (by omega)] at hk
      by_cases hz : k - ws.length < n
      · rw [List.getElem?_map, List.getElem?_range hz] at hk
        cases hk
        exact Or.inr ⟨by omega, rfl⟩
      · rw [List.getElem?_eq_none (by simp; omega)] at hk
        cases hk
  refine ⟨fun i j x y hx hy e => ?_, fun k q hk => ?_⟩
  · rcases key i x hx with ⟨q1, q2, q3⟩ | ⟨q1, q2⟩ <;> rcases key j y hy with ⟨r1, r2, r3⟩ | ⟨r1, r2⟩
    · exact hD.1 i j x y q1 r1 e
    · omega
    · omega
    · omega
  · rcases key k q hk with ⟨q1, q2, q3⟩ | ⟨q1, q2⟩
    · exact hD.2 k q q1
    · rw [q2]; exact hA _ (by omega)
theorem zhl_n {os new : List zO} {i : Nat} {o : zO} (h : new[i]? = some o) : zs (zhl (os ++ new)) (os.length + i) = o.1 ∧ zI (zhl (os ++ new)) (os.length + i) = o.2.1 ∧ zL (zhl (os ++ new)) (os.length + i) = o.2.2.1 ∧ zP (zhl (os ++ new)) (os.length + i) = o.2.2.2.1 ∧ zM (zhl (os ++ new)) (os.length + i) = o.2.2.2.2 := by
  have e : (os ++ new).getD (os.length + i) (z0 99 0) = o := by
    rw [List.getD_eq_getElem?_getD, List.getElem?_append_right (by omega), Nat.add_sub_cancel_left, h]
    rfl
  exact ⟨congrArg (fun o : zO => o.1) e, congrArg (fun o : zO => o.2.1) e, congrArg (fun o : zO => o.2.2.1) e, congrArg (fun o : zO => o.2.2.2.1) e, congrArg (fun o : zO => o.2.2.2.2) e⟩
section ZM
variable {C : zC} {Q : zQ} {n0 : Nat} {Y : zY} {rm : Room} {pc : Nat} {lv : List (Nat × Value)} {st : List Value} {os : List zO} {cl sl : Nat}
theorem zmA_len (N n k : Nat) : (zmA N n k).length = n + 1 := by simp [zmA]
theorem hCl_A {os : List zO} (h : hCl os) (n k : Nat) : hCl (os ++ zmA os.length n k) := hCl_app h fun o ho j b hb => by
  rw [List.length_append, zmA_len]
  rcases List.mem_cons.mp ho with e | e
  · subst e
    rcases hb with hb | hb
    · have hb' : (if j < n then some (os.length + 1 + j) else none) = some b := hb
      by_cases q : j < n
      · rw [if_pos q] at hb'; cases hb'; omega
      · rw [if_neg q] at hb'; cases hb'
    · cases hb
  · rw [(List.mem_replicate.mp e).2] at hb
    rcases hb with hb | hb <;> exact absurd hb (by simp [z0])
theorem R_multi {idx n k : Nat} {x y : Int32} (hx : ¬ x < 0 ∧ x.toNatClampNeg = n) (hy : ¬ y < 0 ∧ y.toNatClampNeg = k) (hn9 : n ≤ 1000 ∧ k ≤ 1000) (hl : Cond.classLink Y.1.cls idx "[[I" ∈ zT) (hd : decode Y.2.1 pc = .ok (.multianewarray idx 2, 4)) (hc : hCl os) (hn : os.length < 900000) (hlv : ∀ x ∈ lv, zok os.length x.2) (hst : ∀ v ∈ st, zok os.length v) (hcl : cl + (1 + n) ≤ rm.cells) (hsl : sl + (n + n * k) ≤ rm.slots)
    (kk : hCl (os ++ zmA os.length n k) → Sem C Q n0 Y rm (pc + 4) lv (.ref os.length :: st) (zhl (os ++ zmA os.length n k)) (cl + 1 + n) (sl + n + n * k)) : Sem C Q n0 Y rm pc lv (.int y :: .int x :: st) (zhl os) cl sl := by
  intro ad0 p l e s m args below meth c F B ad H locs ls a1 a2 a3 a4 a5 a6
  obtain ⟨hx1, rfl⟩ := hx
  obtain ⟨hy1, rfl⟩ := hy
  refine W_multi F.1 F.2.1 F.2.2.2.1 (F.2.2.2.2.1 _ hl) B.2.2.2.2.2.2.2 (F.2.2.2.2.1 _ a_int) hd hx1 hy1 hn9.1 hn9.2 hcl hsl a5.1 (fun H1 ca cb c1 c2 h1 h2 h3 h4 => ?_)
  have e3 : ca = C.2.2.1 3 := Option.some.inj (c1.symm.trans (B.1.2 3 (C.2.2.1 3, .array .int) rfl).2)
  have e0 : cb = C.2.2.1 0 := Option.some.inj (c2.symm.trans (B.1.2 0 (C.2.2.1 0, .int) rfl).2)
  subst e3
  subst e0
  generalize x.toNatClampNeg = n at *
  generalize y.toNatClampNeg = k at *
  have hw := zws_new (cs := C.2.2.1) (ad := ad) (new := zmA os.length n k) (q := H.size) hc
  have hD : va_D (zA C) (zws C.2.2.1 (zad ad os.length (zmA os.length n k).length H.size) (zhl (os ++ zmA os.length n k))) := by
    rw [hw]
    exact zD_new a4.2.1 a4.1 (fun q hq => Nat.le_trans B.2.2.2.1 (Nat.le_trans a5.1 hq))
  have hP : va_P C.2.1 zcls (zws C.2.2.1 (zad ad os.length (zmA os.length n k).length H.size) (zhl (os ++ zmA os.length n k))) H1 := by
    rw [hw]
    refine (a4.1.kept (fun i z hz => h3 _ (a4.1 i z hz).lt)).app (fun i z hz => ?_)
    have hi : i < n + 1 := by
      have := (List.getElem?_eq_some_iff.mp hz).1
      rw [List.length_map, List.length_range, zmA_len] at this
      exact this
    rw [List.getElem?_map, List.getElem?_range (by rw [zmA_len]; exact hi)] at hz
    cases hz
    cases i with
    | zero =>
      obtain ⟨z1, z2, z3, z4, z5⟩ := zhl_n (os := os) (new := zmA os.length n k) (i := 0) (o := oA os.length n) rfl
      show va_at _ _ (H.size + 0, zcell C.2.2.1 _ (zhl (os ++ zmA os.length n k)) (os.length + 0)) H1
      rw [zcell_q (k := 0) (n := n) z1 (by omega), z4]
      show H1[H.size]? = some (vp_cell _ _)
      rw [h2, vp_cell_q]
      congr 1
      unfold mgO
      congr 1
      funext j
      show (if j < n then Value.ref (H.size + 1 + j) else Value.null) = va_rf ((if j < n then some (os.length + 1 + j) else none).map _)
      by_cases q : j < n
      · rw [if_pos q, if_pos q]
        show _ = Value.ref (zad ad os.length (zmA os.length n k).length H.size (os.length + 1 + j))
        rw [show os.length + 1 + j = os.length + (1 + j) by omega, zad_n (by rw [zmA_len]; omega), Nat.add_assoc]
      · rw [if_neg q, if_neg q]
        rfl
    | succ i =>
      have hi2 : i < n := by omega
      obtain ⟨z1, z2, z3, z4, z5⟩ := zhl_n (os := os) (new := zmA os.length n k) (i := i + 1) (o := z0 12 k) (by show (List.replicate n (z0 12 k))[i]? = _; rw [List.getElem?_replicate, if_pos hi2])
      show va_at _ _ (H.size + (i + 1), zcell C.2.2.1 _ (zhl (os ++ zmA os.length n k)) (os.length + (i + 1))) H1
      rw [zcell_i (n := k) z1, z2]
      show H1[H.size + (i + 1)]? = some (vp_cell _ _)
      rw [show H.size + (i + 1) = H.size + 1 + i by omega, h4 i hi2, vp_cell_i]
      rfl
  have hg := R_grow (l := l) (e := e) (below := below) F B (kk (hCl_A hc _ _)) (by omega) (by rw [zmA_len]; omega) hlv a1 a3 a6 hP hD ⟨by have := a5.1; omega, fun q hq hz => (h3 q (Nat.lt_of_lt_of_le hq a5.1)).trans (a5.2.1 q hq hz), a5.2.2⟩
  have e2 : (Value.ref os.length :: st).map (zv (zad ad os.length (zmA os.length n k).length H.size)) = .ref H.size :: st.map (zv ad) := by
    rw [List.map_cons, zvs_ext hst (fun i hi => zad_o (by rw [zmA_len]; omega))]
    congr 1
    show Value.ref (zad ad os.length _ H.size (os.length + 0)) = _
    rw [zad_n (by rw [zmA_len]; omega)]
    rfl
  rw [e2] at hg
  exact hg
-- setters
theorem R_putI {a ci j idx n : Nat} {x : Int32} (hf : zfl Y.1.cls idx ci j 0) (hs : zs (zhl os) a = (ci, n)) (ha : a < os.length) (hfin : zfin Y.1.cls Y.1.name ci j) (ht : zty ci j = .int) (hc : hCl os) (hd : decode Y.2.1 pc = .ok (.putfield idx, 3)) (k : hCl (zmo os a (oI j x)) → Sem C Q n0 Y rm (pc + 3) lv st (zhl (zmo os a (oI j x))) cl sl) : Sem C Q n0 Y rm pc lv (.int x :: .ref a :: st) (zhl os) cl sl :=
  S_putI hf hs hfin ht hd (by rw [zhl_I ha]; exact k (hCl_I hc a j x))
theorem R_putP {a b ci j idx n : Nat} (hf : zfl Y.1.cls idx ci j 2) (hs : zs (zhl os) a = (ci, n)) (ha : a < os.length) (hb : b < os.length) (hfin : zfin Y.1.cls Y.1.name ci j) (ht : zrefTy (zty ci j)) (hc : hCl os) (hd : decode Y.2.1 pc = .ok (.putfield idx, 3)) (k : hCl (zmo os a (oP j (some b))) → Sem C Q n0 Y rm (pc + 3) lv st (zhl (zmo os a (oP j (some b)))) cl sl) : Sem C Q n0 Y rm pc lv (.ref b :: .ref a :: st) (zhl os) cl sl :=
  S_putP hf hs hfin ht hd (by rw [zhl_P ha]; exact k (hCl_P hc a j hb))
theorem R_putM {a b ci j idx n : Nat} (hf : zfl Y.1.cls idx ci j 3) (hs : zs (zhl os) a = (ci, n)) (ha : a < os.length) (hb : b < os.length) (hfin : zfin Y.1.cls Y.1.name ci j) (ht : zrefTy (zty ci j)) (hc : hCl os) (hd : decode Y.2.1 pc = .ok (.putfield idx, 3)) (k : hCl (zmo os a (oM j (some b))) → Sem C Q n0 Y rm (pc + 3) lv st (zhl (zmo os a (oM j (some b)))) cl sl) : Sem C Q n0 Y rm pc lv (.ref b :: .ref a :: st) (zhl os) cl sl :=
  S_putM hf hs hfin ht hd (by rw [zhl_M ha]; exact k (hCl_M hc a j hb))
theorem R_iast {a n : Nat} {i x : Int32} (j : Nat) (hs : zs (zhl os) a = (12, n)) (ha : a < os.length) (hin : vp_in i n) (hj : i.toNatClampNeg = j) (hc : hCl os) (hd : decode Y.2.1 pc = .ok (.iastore, 1)) (k : hCl (zmo os a (oI j x)) → Sem C Q n0 Y rm (pc + 1) lv st (zhl (zmo os a (oI j x))) cl sl) : Sem C Q n0 Y rm pc lv (.int x :: .int i :: .ref a :: st) (zhl os) cl sl :=
  S_iast hs hin hd (by rw [hj, zhl_I ha]; exact k (hCl_I hc a j x))
theorem R_astq {a b n ci k n2 : Nat} {i : Int32} (j : Nat) (hk : k < 5 ∧ (ztys C.2.2.1)[3 + k]? = some (C.2.2.1 (3 + k), .object (zR ci))) (hci : ci < 12) (hs : zs (zhl os) a = (15 + k, n)) (ha : a < os.length) (hb : b < os.length) (hsb : zs (zhl os) b = (ci, n2)) (hin : vp_in i n) (hj : i.toNatClampNeg = j) (hc : hCl os) (hd : decode Y.2.1 pc = .ok (.aastore, 1)) (kk : hCl (zmo os a (oP j (some b))) → Sem C Q n0 Y rm (pc + 1) lv st (zhl (zmo os a (oP j (some b)))) cl sl) : Sem C Q n0 Y rm pc lv (.ref b :: .int i :: .ref a :: st) (zhl os) cl sl := by
  subst hj
  intro ad0 p l e s m args below meth c F B ad H locs ls a1 a2 a3 a4 a5 a6
  refine va_astq F.1 F.2.1 B.1 a4.1 a4.2.1 a5 a (3 + k) b ci (zat_q a4 hs hk.1) hk.2 (zat_o a4 hsb hci) (zcls_at ci hci) hin hd (fun H1 locs1 hP hD hS => ?_)
  have hz : zws C.2.2.1 ad (zsP (zhl os) a i.toNatClampNeg (some b)) = (zws C.2.2.1 ad (zhl os)).set a (ad a, .inl (C.2.2.1 (3 + k), n, .inr (.inr (.inr (.inr (va_up (fun j => (zP (zhl os) a j).map ad) i.toNatClampNeg (some (ad b)))))))) := by
    refine (zws_set (h := zhl os) (h' := zsP (zhl os) a i.toNatClampNeg (some b)) rfl ?_ (fun i hi => zcell_sP hi)).symm
    rw [zcell_q (h := zsP (zhl os) a i.toNatClampNeg (some b)) hs hk.1]
    congr 7
    funext q
    by_cases e : q = i.toNatClampNeg
    · subst e
      simp [zP, zsP, u2, va_up]
    · simp [zP, zsP, u2, va_up, e]
  rw [← hz] at hP hD
  rw [zhl_P ha] at hP hD
  refine kk (hCl_P hc a _ hb) ad0 p l e s m args below meth c F B ad H1 locs1 ls a1 a2 ?_ ⟨hP, hD, ?_, zhl_99 _⟩ hS a6
  · show n0 ≤ (zmo _ _ _).length
    rw [zmo_len]
    exact a3
  · show (zmo _ _ _).length ≤ _
    rw [zmo_len]
    exact a4.2.2.1
end ZM
