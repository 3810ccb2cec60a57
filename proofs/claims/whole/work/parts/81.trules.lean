/-! RULES for constructors: heaps 'pre ++ xs', the prefix any, the rest explicit -/
def zoks (n : Nat) : List Value → Prop
  | [] => True
  | v :: r => zok n v ∧ zoks n r
theorem zoks_st {n : Nat} : ∀ {st : List Value}, zoks n st → ∀ v ∈ st, zok n v
  | [], _, v, h => absurd h List.not_mem_nil
  | w :: r, hk, v, h => by
    rcases List.mem_cons.mp h with e | e
    · rw [e]; exact hk.1
    · exact zoks_st hk.2 v e
theorem zoks_lv {n : Nat} {lv : List (Nat × Value)} (h : zoks n (lv.map Prod.snd)) : ∀ x ∈ lv, zok n x.2 := fun x hx => zoks_st h x.2 (List.mem_map_of_mem hx)
section ZT
variable {C : zC} {Q : zQ} {n0 : Nat} {Y : zY} {rm : Room} {pc : Nat} {lv : List (Nat × Value)} {st : List Value} {pre xs xs' : List zO} {N cl sl : Nat}
theorem T_s {i a : Nat} {o : zO} (hN : pre.length = N) (ha : a = N + i) (ho : xs[i]? = some o) : zs (zhl (pre ++ xs)) a = o.1 ∧ zP (zhl (pre ++ xs)) a = o.2.2.2.1 ∧ a < (pre ++ xs).length := by
  subst hN
  subst ha
  have h := zhl_n (os := pre) ho
  refine ⟨h.1, h.2.2.2.1, ?_⟩
  rw [List.length_append]
  have := (List.getElem?_eq_some_iff.mp ho).1
  omega
theorem T_z {f : zO → zO} {i a : Nat} (hN : pre.length = N) (ha : a = N + i) (hx : zmo xs i f = xs') : zmo (pre ++ xs) a f = pre ++ xs' := by
  subst hN
  subst ha
  rw [zmo_app, hx]
theorem T_len {k : Nat} (hN : pre.length = N) (hk : xs.length = k) : (pre ++ xs).length = N + k := by rw [List.length_append, hN, hk]
theorem T_putI (i : Nat) {a ci j idx n : Nat} {b : Int32} {o : zO} (hN : pre.length = N) (ha : a = N + i) (ho : xs[i]? = some o) (hf : zfl Y.1.cls idx ci j 0) (hs : o.1 = (ci, n)) (hx : zmo xs i (oI j b) = xs') (hfin : zfin Y.1.cls Y.1.name ci j) (ht : zty ci j = .int) (hc : hCl (pre ++ xs)) (hd : decode Y.2.1 pc = .ok (.putfield idx, 3)) (k : hCl (pre ++ xs') → Sem C Q n0 Y rm (pc + 3) lv st (zhl (pre ++ xs')) cl sl) : Sem C Q n0 Y rm pc lv (.int b :: .ref a :: st) (zhl (pre ++ xs)) cl sl := by
  obtain ⟨s1, s2, s3⟩ := T_s hN ha ho
  refine R_putI hf (s1.trans hs) s3 hfin ht hc hd (fun h => ?_)
  rw [T_z hN ha hx] at h ⊢
  exact k h
theorem T_putP (i : Nat) {a ci j idx n : Nat} {b : Nat} {o : zO} (hN : pre.length = N) (ha : a = N + i) (ho : xs[i]? = some o) (hf : zfl Y.1.cls idx ci j 2) (hs : o.1 = (ci, n)) (hb : b < N + xs.length) (hx : zmo xs i (oP j (some b)) = xs') (hfin : zfin Y.1.cls Y.1.name ci j) (ht : zrefTy (zty ci j)) (hc : hCl (pre ++ xs)) (hd : decode Y.2.1 pc = .ok (.putfield idx, 3)) (k : hCl (pre ++ xs') → Sem C Q n0 Y rm (pc + 3) lv st (zhl (pre ++ xs')) cl sl) : Sem C Q n0 Y rm pc lv (.ref b :: .ref a :: st) (zhl (pre ++ xs)) cl sl := by
  obtain ⟨s1, s2, s3⟩ := T_s hN ha ho
  refine R_putP hf (s1.trans hs) s3 (by rw [List.length_append, hN]; exact hb) hfin ht hc hd (fun h => ?_)
  rw [T_z hN ha hx] at h ⊢
  exact k h
theorem T_putM (i : Nat) {a ci j idx n : Nat} {b : Nat} {o : zO} (hN : pre.length = N) (ha : a = N + i) (ho : xs[i]? = some o) (hf : zfl Y.1.cls idx ci j 3) (hs : o.1 = (ci, n)) (hb : b < N + xs.length) (hx : zmo xs i (oM j (some b)) = xs') (hfin : zfin Y.1.cls Y.1.name ci j) (ht : zrefTy (zty ci j)) (hc : hCl (pre ++ xs)) (hd : decode Y.2.1 pc = .ok (.putfield idx, 3)) (k : hCl (pre ++ xs') → Sem C Q n0 Y rm (pc + 3) lv st (zhl (pre ++ xs')) cl sl) : Sem C Q n0 Y rm pc lv (.ref b :: .ref a :: st) (zhl (pre ++ xs)) cl sl := by
  obtain ⟨s1, s2, s3⟩ := T_s hN ha ho
  refine R_putM hf (s1.trans hs) s3 (by rw [List.length_append, hN]; exact hb) hfin ht hc hd (fun h => ?_)
  rw [T_z hN ha hx] at h ⊢
  exact k h
theorem T_iast (i j : Nat) {a n : Nat} {q x : Int32} {o : zO} (hN : pre.length = N) (ha : a = N + i) (ho : xs[i]? = some o) (hs : o.1 = (12, n)) (hx : zmo xs i (oI j x) = xs') (hin : vp_in q n) (hj : q.toNatClampNeg = j) (hc : hCl (pre ++ xs)) (hd : decode Y.2.1 pc = .ok (.iastore, 1)) (k : hCl (pre ++ xs') → Sem C Q n0 Y rm (pc + 1) lv st (zhl (pre ++ xs')) cl sl) : Sem C Q n0 Y rm pc lv (.int x :: .int q :: .ref a :: st) (zhl (pre ++ xs)) cl sl := by
  obtain ⟨s1, s2, s3⟩ := T_s hN ha ho
  refine R_iast j (s1.trans hs) s3 hin hj hc hd (fun h => ?_)
  rw [T_z hN ha hx] at h ⊢
  exact k h
theorem T_astq (i j i2 : Nat) {a b n ci kk n2 : Nat} {q : Int32} {o o2 : zO} (hN : pre.length = N) (ha : a = N + i) (ho : xs[i]? = some o) (hs : o.1 = (15 + kk, n)) (hb : b = N + i2) (ho2 : xs[i2]? = some o2) (hs2 : o2.1 = (ci, n2)) (hk : kk < 5 ∧ (ztys C.2.2.1)[3 + kk]? = some (C.2.2.1 (3 + kk), .object (zR ci))) (hci : ci < 12) (hx : zmo xs i (oP j (some b)) = xs') (hin : vp_in q n) (hj : q.toNatClampNeg = j) (hc : hCl (pre ++ xs)) (hd : decode Y.2.1 pc = .ok (.aastore, 1)) (k : hCl (pre ++ xs') → Sem C Q n0 Y rm (pc + 1) lv st (zhl (pre ++ xs')) cl sl) : Sem C Q n0 Y rm pc lv (.ref b :: .int q :: .ref a :: st) (zhl (pre ++ xs)) cl sl := by
  obtain ⟨s1, s2, s3⟩ := T_s hN ha ho
  obtain ⟨r1, r2, r3⟩ := T_s hN hb ho2
  refine R_astq j hk hci (s1.trans hs) s3 r3 (r1.trans hs2) hin hj hc hd (fun h => ?_)
  rw [T_z hN ha hx] at h ⊢
  exact k h
theorem T_getP (i : Nat) {a b ci j idx n : Nat} {o : zO} (hN : pre.length = N) (ha : a = N + i) (ho : xs[i]? = some o) (hf : zfl Y.1.cls idx ci j 2) (hs : o.1 = (ci, n)) (hp : o.2.2.2.1 j = some b) (hd : decode Y.2.1 pc = .ok (.getfield idx, 3)) (k : Sem C Q n0 Y rm (pc + 3) lv (.ref b :: st) (zhl (pre ++ xs)) cl sl) : Sem C Q n0 Y rm pc lv (.ref a :: st) (zhl (pre ++ xs)) cl sl := by
  obtain ⟨s1, s2, s3⟩ := T_s hN ha ho
  exact S_getP hf (s1.trans hs) (by rw [s2]; exact hp) hd k
theorem T_new (k : Nat) {ci idx n : Nat} (hN : pre.length = N) (hn9 : N < 800000 ∧ k < 1000) (hk : xs.length = k) (hx : xs ++ [z0 ci (zN ci)] = xs') (hci : ci < 12) (hl : Cond.classLink Y.1.cls idx (zR ci) ∈ zT) (hi : Cond.instantiable (zR ci) (zN ci) ∈ zT) (hj : Cond.initialized (zR ci) ∈ zT) (hd : decode Y.2.1 pc = .ok (.new idx, 3)) (hc : hCl (pre ++ xs)) (hlv : zoks (N + k) (lv.map Prod.snd)) (hst : zoks (N + k) st) (hcl : cl + 1 ≤ rm.cells) (hsl : sl + zN ci ≤ rm.slots) (hz : zN ci = n)
    (kk : hCl (pre ++ xs') → Sem C Q n0 Y rm (pc + 3) lv (.ref (N + k) :: st) (zhl (pre ++ xs')) (cl + 1) (sl + n)) : Sem C Q n0 Y rm pc lv st (zhl (pre ++ xs)) cl sl := by
  subst hz
  have e := T_len hN hk
  refine R_new hci hl hi hj hd hc (by omega) (by rw [e]; exact zoks_lv hlv) (by rw [e]; exact zoks_st hst) hcl hsl (fun h => ?_)
  rw [List.append_assoc, hx] at h ⊢
  rw [e]
  exact kk h
theorem T_newi (k : Nat) {n : Nat} {x : Int32} (hN : pre.length = N) (hn9 : N < 800000 ∧ k < 1000) (hk : xs.length = k) (hx : xs ++ [z0 12 n] = xs') (hx1 : ¬ x < 0 ∧ x.toNatClampNeg = n) (hn1 : n ≤ 1000) (hd : decode Y.2.1 pc = .ok (.newarray .int, 2)) (hc : hCl (pre ++ xs)) (hlv : zoks (N + k) (lv.map Prod.snd)) (hst : zoks (N + k) st) (hcl : cl + 1 ≤ rm.cells) (hsl : sl + n ≤ rm.slots)
    (kk : hCl (pre ++ xs') → Sem C Q n0 Y rm (pc + 2) lv (.ref (N + k) :: st) (zhl (pre ++ xs')) (cl + 1) (sl + n)) : Sem C Q n0 Y rm pc lv (.int x :: st) (zhl (pre ++ xs)) cl sl := by
  have e := T_len hN hk
  refine R_newi hx1 hn1 hd hc (by omega) (by rw [e]; exact zoks_lv hlv) (by rw [e]; exact zoks_st hst) hcl hsl (fun h => ?_)
  rw [List.append_assoc, hx] at h ⊢
  rw [e]
  exact kk h
theorem T_newl (k : Nat) {n : Nat} {x : Int32} (hN : pre.length = N) (hn9 : N < 800000 ∧ k < 1000) (hk : xs.length = k) (hx : xs ++ [z0 13 n] = xs') (hx1 : ¬ x < 0 ∧ x.toNatClampNeg = n) (hn1 : n ≤ 1000) (hd : decode Y.2.1 pc = .ok (.newarray .long, 2)) (hc : hCl (pre ++ xs)) (hlv : zoks (N + k) (lv.map Prod.snd)) (hst : zoks (N + k) st) (hcl : cl + 1 ≤ rm.cells) (hsl : sl + n ≤ rm.slots)
    (kk : hCl (pre ++ xs') → Sem C Q n0 Y rm (pc + 2) lv (.ref (N + k) :: st) (zhl (pre ++ xs')) (cl + 1) (sl + n)) : Sem C Q n0 Y rm pc lv (.int x :: st) (zhl (pre ++ xs)) cl sl := by
  have e := T_len hN hk
  refine R_newl hx1 hn1 hd hc (by omega) (by rw [e]; exact zoks_lv hlv) (by rw [e]; exact zoks_st hst) hcl hsl (fun h => ?_)
  rw [List.append_assoc, hx] at h ⊢
  rw [e]
  exact kk h
theorem T_newb (k : Nat) {n : Nat} {x : Int32} (hN : pre.length = N) (hn9 : N < 800000 ∧ k < 1000) (hk : xs.length = k) (hx : xs ++ [z0 14 n] = xs') (hx1 : ¬ x < 0 ∧ x.toNatClampNeg = n) (hn1 : n ≤ 1000) (hd : decode Y.2.1 pc = .ok (.newarray .boolean, 2)) (hc : hCl (pre ++ xs)) (hlv : zoks (N + k) (lv.map Prod.snd)) (hst : zoks (N + k) st) (hcl : cl + 1 ≤ rm.cells) (hsl : sl + n ≤ rm.slots)
    (kk : hCl (pre ++ xs') → Sem C Q n0 Y rm (pc + 2) lv (.ref (N + k) :: st) (zhl (pre ++ xs')) (cl + 1) (sl + n)) : Sem C Q n0 Y rm pc lv (.int x :: st) (zhl (pre ++ xs)) cl sl := by
  have e := T_len hN hk
  refine R_newb hx1 hn1 hd hc (by omega) (by rw [e]; exact zoks_lv hlv) (by rw [e]; exact zoks_st hst) hcl hsl (fun h => ?_)
  rw [List.append_assoc, hx] at h ⊢
  rw [e]
  exact kk h
theorem T_newq (k : Nat) {n kq idx : Nat} {x : Int32} {D : String} (hN : pre.length = N) (hn9 : N < 800000 ∧ k < 1000) (hk : xs.length = k) (hx : xs ++ [z0 (15 + kq) n] = xs') (hq : kq < 5 ∧ (ztys C.2.2.1)[3 + kq]? = some (C.2.2.1 (3 + kq), .object D)) (hx1 : ¬ x < 0 ∧ x.toNatClampNeg = n) (hn1 : n ≤ 1000) (hl : Cond.classLink Y.1.cls idx D ∈ zT) (ho : Cond.arrayOver (.object D) ∈ lw_tbl) (hd : decode Y.2.1 pc = .ok (.anewarray idx, 3)) (hc : hCl (pre ++ xs)) (hlv : zoks (N + k) (lv.map Prod.snd)) (hst : zoks (N + k) st) (hcl : cl + 1 ≤ rm.cells) (hsl : sl + n ≤ rm.slots)
    (kk : hCl (pre ++ xs') → Sem C Q n0 Y rm (pc + 3) lv (.ref (N + k) :: st) (zhl (pre ++ xs')) (cl + 1) (sl + n)) : Sem C Q n0 Y rm pc lv (.int x :: st) (zhl (pre ++ xs)) cl sl := by
  have e := T_len hN hk
  refine R_newq hq hx1 hn1 hl ho hd hc (by omega) (by rw [e]; exact zoks_lv hlv) (by rw [e]; exact zoks_st hst) hcl hsl (fun h => ?_)
  rw [List.append_assoc, hx] at h ⊢
  rw [e]
  exact kk h
theorem T_multi (k : Nat) {n m idx : Nat} {x y : Int32} (hN : pre.length = N) (hn9 : N < 800000 ∧ k < 1000) (hk : xs.length = k) (hx : xs ++ zmA (N + k) n m = xs') (hx1 : ¬ x < 0 ∧ x.toNatClampNeg = n) (hy1 : ¬ y < 0 ∧ y.toNatClampNeg = m) (hn1 : n ≤ 1000 ∧ m ≤ 1000) (hl : Cond.classLink Y.1.cls idx "[[I" ∈ zT) (hd : decode Y.2.1 pc = .ok (.multianewarray idx 2, 4)) (hc : hCl (pre ++ xs)) (hlv : zoks (N + k) (lv.map Prod.snd)) (hst : zoks (N + k) st) (hcl : cl + (1 + n) ≤ rm.cells) (hsl : sl + (n + n * m) ≤ rm.slots)
    (kk : hCl (pre ++ xs') → Sem C Q n0 Y rm (pc + 4) lv (.ref (N + k) :: st) (zhl (pre ++ xs')) (cl + 1 + n) (sl + n + n * m)) : Sem C Q n0 Y rm pc lv (.int y :: .int x :: st) (zhl (pre ++ xs)) cl sl := by
  have e := T_len hN hk
  refine R_multi hx1 hy1 hn1 hl hd hc (by omega) (by rw [e]; exact zoks_lv hlv) (by rw [e]; exact zoks_st hst) hcl hsl (fun h => ?_)
  rw [e, List.append_assoc, hx] at h ⊢
  exact kk h
/-- what a constructor answers -/
def zmade (pre xs : List zO) (v : Option Value) (h : zH) : Prop := v = none ∧ ∃ os, h = zhl os ∧ os = pre ++ xs ∧ hCl os
theorem zmade_to {Yc : zY} {d mc ms : Nat} {av : List Value} {xs0 new : List zO} {z : zO} (hx : xs0 ++ [z] = xs) (hx2 : xs0 ++ new = xs') (h : CallSem C Yc d mc ms av (zhl ((pre ++ xs0) ++ [z])) (zmade (pre ++ xs0) new)) : CallSem C Yc d mc ms av (zhl (pre ++ xs)) (zmade pre xs') := by
  subst hx
  subst hx2
  rw [List.append_assoc] at h
  exact CallSem_mono h (fun v h' q => ⟨q.1, q.2.choose, q.2.choose_spec.1, by rw [q.2.choose_spec.2.1, List.append_assoc], q.2.choose_spec.2.2⟩)
theorem T_callI (k : Nat) {Yc : zY} {a idx n d mc ms : Nat} (As rest : List Value) (hN : pre.length = N) (hk : xs.length = k) (hm : zmI Y.1.cls idx Yc n) (hst : st = As.reverse ++ .ref a :: rest) (hn : As.length = n) (hr : (rest.map fun v => v.category).sum ≤ 8) (hrm : zroom rm Yc d mc ms cl sl) (hmc : mc ≠ 0) (hlv : zoks (N + k) (lv.map Prod.snd)) (hrs : zoks (N + k) rest) (hd : decode Y.2.1 pc = .ok (.invokespecial idx, 3))
    (hcall : CallSem C Yc d mc ms (.ref a :: As) (zhl (pre ++ xs)) (zmade pre xs')) (kk : hCl (pre ++ xs') → Sem C Q n0 Y rm (pc + 3) lv rest (zhl (pre ++ xs')) (cl + mc) (sl + ms)) : Sem C Q n0 Y rm pc lv st (zhl (pre ++ xs)) cl sl := by
  have e := T_len hN hk
  refine S_callI As rest hm hst hn hr hrm hmc (by show ∀ x ∈ lv, zok (pre ++ xs).length _; rw [e]; exact zoks_lv hlv) (by show ∀ x ∈ rest, zok (pre ++ xs).length _; rw [e]; exact zoks_st hrs) hd (CallSem_mono hcall ?_)
  rintro v h' ⟨rfl, os, rfl, rfl, h⟩
  exact kk h
theorem T_callIN (k : Nat) {Yc : zY} {a idx n d mc ms : Nat} (As rest : List Value) (hN : pre.length = N) (hk : xs.length = k) (hm : zmIN Y.1.cls idx Yc n) (hst : st = As.reverse ++ .ref a :: rest) (hn : As.length = n) (hr : (rest.map fun v => v.category).sum ≤ 8) (hrm : zroom rm Yc d mc ms cl sl) (hmc : mc ≠ 0) (hlv : zoks (N + k) (lv.map Prod.snd)) (hrs : zoks (N + k) rest) (hd : decode Y.2.1 pc = .ok (.invokespecial idx, 3))
    (hcall : CallSem C Yc d mc ms (.ref a :: As) (zhl (pre ++ xs)) (zmade pre xs')) (kk : hCl (pre ++ xs') → Sem C Q n0 Y rm (pc + 3) lv rest (zhl (pre ++ xs')) (cl + mc) (sl + ms)) : Sem C Q n0 Y rm pc lv st (zhl (pre ++ xs)) cl sl := by
  have e := T_len hN hk
  refine S_callIN As rest hm hst hn hr hrm hmc (by show ∀ x ∈ lv, zok (pre ++ xs).length _; rw [e]; exact zoks_lv hlv) (by show ∀ x ∈ rest, zok (pre ++ xs).length _; rw [e]; exact zoks_st hrs) hd (CallSem_mono hcall ?_)
  rintro v h' ⟨rfl, os, rfl, rfl, h⟩
  exact kk h
end ZT
