/-! HEAPS OUT OF LISTS OF OBJECTS, for the constructors; what makes objects, as rules -/
abbrev zO : Type := (Nat × Nat) × (Nat → Int32) × (Nat → Int64) × (Nat → Option Nat) × (Nat → Option Nat)
def z0 (k n : Nat) : zO := ((k, n), fun _ => 0, fun _ => 0, fun _ => none, fun _ => none)
def zhl (os : List zO) : zH := (os.length, fun a => (os.getD a (z0 99 0)).1, fun a => (os.getD a (z0 99 0)).2.1, fun a => (os.getD a (z0 99 0)).2.2.1, fun a => (os.getD a (z0 99 0)).2.2.2.1, fun a => (os.getD a (z0 99 0)).2.2.2.2)
def hCl (os : List zO) : Prop := ∀ o ∈ os, ∀ j b, (o.2.2.2.1 j = some b ∨ o.2.2.2.2 j = some b) → b < os.length
def zmo (os : List zO) (a : Nat) (f : zO → zO) : List zO := match os, a with
  | [], _ => []
  | o :: r, 0 => f o :: r
  | o :: r, n + 1 => o :: zmo r n f
def oI (j : Nat) (v : Int32) (o : zO) : zO := (o.1, (fun i => if i = j then v else o.2.1 i), o.2.2)
def oP (j : Nat) (v : Option Nat) (o : zO) : zO := (o.1, o.2.1, o.2.2.1, (fun i => if i = j then v else o.2.2.2.1 i), o.2.2.2.2)
def oM (j : Nat) (v : Option Nat) (o : zO) : zO := (o.1, o.2.1, o.2.2.1, o.2.2.2.1, (fun i => if i = j then v else o.2.2.2.2 i))
theorem zmo_len (f : zO → zO) : ∀ (os : List zO) (a : Nat), (zmo os a f).length = os.length
  | [], _ => rfl
  | o :: r, 0 => rfl
  | o :: r, n + 1 => congrArg (· + 1) (zmo_len f r n)
theorem zmo_at (f : zO → zO) (x : zO) : ∀ (os : List zO) (a i : Nat), a < os.length → (zmo os a f).getD i x = if i = a then f (os.getD a x) else os.getD i x
  | [], _, _, h => absurd h (Nat.not_lt_zero _)
  | o :: r, 0, 0, _ => rfl
  | o :: r, 0, i + 1, _ => by rw [if_neg (by omega)]; rfl
  | o :: r, n + 1, 0, _ => by rw [if_neg (by omega)]; rfl
  | o :: r, n + 1, i + 1, h => by
    have := zmo_at f x r n i (Nat.lt_of_succ_lt_succ h)
    show (zmo r n f).getD i x = _
    rw [this]
    by_cases q : i = n
    · rw [if_pos q, if_pos (by omega)]; rfl
    · rw [if_neg q, if_neg (by omega)]; rfl
theorem zmo_app (f : zO → zO) (xs : List zO) (i : Nat) : ∀ pre : List zO, zmo (pre ++ xs) (pre.length + i) f = pre ++ zmo xs i f
  | [] => by rw [List.nil_append, List.length_nil, Nat.zero_add]; rfl
  | o :: r => by
    rw [List.length_cons, show r.length + 1 + i = (r.length + i) + 1 by omega]
    exact congrArg (List.cons o) (zmo_app f xs i r)
theorem zmo_mem {f : zO → zO} {x : zO} : ∀ {os : List zO} {a : Nat}, x ∈ zmo os a f → x ∈ os ∨ ∃ o ∈ os, x = f o
  | [], _, h => absurd h List.not_mem_nil
  | o :: r, 0, h => by
    rcases List.mem_cons.mp h with e | e
    · exact Or.inr ⟨o, List.mem_cons_self, e⟩
    · exact Or.inl (List.mem_cons_of_mem _ e)
  | o :: r, n + 1, h => by
    rcases List.mem_cons.mp h with e | e
    · exact Or.inl (by rw [e]; exact List.mem_cons_self)
    · rcases zmo_mem e with q | ⟨y, q, e2⟩
      · exact Or.inl (List.mem_cons_of_mem _ q)
      · exact Or.inr ⟨y, List.mem_cons_of_mem _ q, e2⟩
theorem zhl_I {os : List zO} {a : Nat} (h : a < os.length) (j : Nat) (v : Int32) : zsI (zhl os) a j v = zhl (zmo os a (oI j v)) := by
  unfold zsI zhl
  simp only [zmo_len]
  refine congrArg (Prod.mk _) (Prod.ext (funext fun i => ?_) (Prod.ext (funext fun i => funext fun k => ?_) (Prod.ext (funext fun i => ?_) (Prod.ext (funext fun i => ?_) (funext fun i => ?_)))))
  all_goals (show _ = _)
  all_goals simp only [zmo_at _ _ _ _ _ h]
  all_goals by_cases q : i = a <;> simp [q, u2, oI]
theorem zhl_P {os : List zO} {a : Nat} (h : a < os.length) (j : Nat) (v : Option Nat) : zsP (zhl os) a j v = zhl (zmo os a (oP j v)) := by
  unfold zsP zhl
  simp only [zmo_len]
  refine congrArg (Prod.mk _) (Prod.ext (funext fun i => ?_) (Prod.ext (funext fun i => ?_) (Prod.ext (funext fun i => ?_) (Prod.ext (funext fun i => funext fun k => ?_) (funext fun i => ?_)))))
  all_goals (show _ = _)
  all_goals simp only [zmo_at _ _ _ _ _ h]
  all_goals by_cases q : i = a <;> simp [q, u2, oP]
theorem zhl_M {os : List zO} {a : Nat} (h : a < os.length) (j : Nat) (v : Option Nat) : zsM (zhl os) a j v = zhl (zmo os a (oM j v)) := by
  unfold zsM zhl
  simp only [zmo_len]
  refine congrArg (Prod.mk _) (Prod.ext (funext fun i => ?_) (Prod.ext (funext fun i => ?_) (Prod.ext (funext fun i => ?_) (Prod.ext (funext fun i => ?_) (funext fun i => funext fun k => ?_)))))
  all_goals (show _ = _)
  all_goals simp only [zmo_at _ _ _ _ _ h]
  all_goals by_cases q : i = a <;> simp [q, u2, oM]
theorem hCl_I {os : List zO} (h : hCl os) (a j : Nat) (v : Int32) : hCl (zmo os a (oI j v)) := by
  intro x hx i b hb
  rw [zmo_len]
  rcases zmo_mem hx with q | ⟨o, q, rfl⟩
  · exact h x q i b hb
  · exact h o q i b hb
theorem hCl_P {os : List zO} (h : hCl os) (a j : Nat) {b0 : Nat} (h0 : b0 < os.length) : hCl (zmo os a (oP j (some b0))) := by
  intro x hx i b hb
  rw [zmo_len]
  rcases zmo_mem hx with q | ⟨o, q, rfl⟩
  · exact h x q i b hb
  · rcases hb with hb | hb
    · have hb' : (if i = j then some b0 else o.2.2.2.1 i) = some b := hb
      by_cases e : i = j
      · rw [if_pos e] at hb'; cases hb'; exact h0
      · rw [if_neg e] at hb'; exact h o q i b (Or.inl hb')
    · exact h o q i b (Or.inr hb)
theorem hCl_M {os : List zO} (h : hCl os) (a j : Nat) {b0 : Nat} (h0 : b0 < os.length) : hCl (zmo os a (oM j (some b0))) := by
  intro x hx i b hb
  rw [zmo_len]
  rcases zmo_mem hx with q | ⟨o, q, rfl⟩
  · exact h x q i b hb
  · rcases hb with hb | hb
    · exact h o q i b (Or.inl hb)
    · have hb' : (if i = j then some b0 else o.2.2.2.2 i) = some b := hb
      by_cases e : i = j
      · rw [if_pos e] at hb'; cases hb'; exact h0
      · rw [if_neg e] at hb'; exact h o q i b (Or.inr hb')
theorem hCl_app {os new : List zO} (h : hCl os) (hn : ∀ o ∈ new, ∀ j b, (o.2.2.2.1 j = some b ∨ o.2.2.2.2 j = some b) → b < (os ++ new).length) : hCl (os ++ new) := by
  intro x hx i b hb
  rcases List.mem_append.mp hx with q | q
  · have := h x q i b hb
    rw [List.length_append]
    omega
  · exact hn x q i b hb
theorem hCl_0 {os : List zO} (h : hCl os) (k n : Nat) : hCl (os ++ [z0 k n]) := hCl_app h fun o ho j b hb => by
  rw [List.mem_singleton.mp ho] at hb
  rcases hb with hb | hb <;> exact absurd hb (by simp [z0])
def zad (ad : Nat → Nat) (N n q : Nat) : Nat → Nat := fun i => if N ≤ i ∧ i < N + n then q + (i - N) else ad i
theorem zad_o {ad : Nat → Nat} {N n q i : Nat} (h : i < N ∨ N + n ≤ i) : zad ad N n q i = ad i := if_neg (by omega)
theorem zad_n {ad : Nat → Nat} {N n q i : Nat} (h : i < n) : zad ad N n q (N + i) = q + i := by
  unfold zad
  rw [if_pos (by omega)]
  omega
theorem zcell_ad {cs : Nat → ClassId} {ad ad' : Nat → Nat} {h : zH} {a : Nat} (e : ∀ j b, (zP h a j = some b ∨ zM h a j = some b) → ad' b = ad b) : zcell cs ad' h a = zcell cs ad h a := by
  have e1 : ∀ j, (zP h a j).map ad' = (zP h a j).map ad := fun j => by
    cases q : zP h a j with
    | none => rfl
    | some b => exact congrArg some (e j b (Or.inl q))
  have e2 : ∀ j, (zM h a j).map ad' = (zM h a j).map ad := fun j => by
    cases q : zM h a j with
    | none => rfl
    | some b => exact congrArg some (e j b (Or.inr q))
  have e3 : ∀ ci, zfv ad' h a ci = zfv ad h a ci := fun ci => by
    funext j
    unfold zfv
    rw [e1, e2]
  unfold zcell
  simp only [e1, e3]
theorem zhl_old {os new : List zO} {i : Nat} (h : i < os.length) : zs (zhl (os ++ new)) i = zs (zhl os) i ∧ zI (zhl (os ++ new)) i = zI (zhl os) i ∧ zL (zhl (os ++ new)) i = zL (zhl os) i ∧ zP (zhl (os ++ new)) i = zP (zhl os) i ∧ zM (zhl (os ++ new)) i = zM (zhl os) i := by
  have e : (os ++ new).getD i (z0 99 0) = os.getD i (z0 99 0) := by
    rw [List.getD_eq_getElem?_getD, List.getD_eq_getElem?_getD, List.getElem?_append_left h]
  exact ⟨congrArg (fun o : zO => o.1) e, congrArg (fun o : zO => o.2.1) e, congrArg (fun o : zO => o.2.2.1) e, congrArg (fun o : zO => o.2.2.2.1) e, congrArg (fun o : zO => o.2.2.2.2) e⟩
theorem zws_new {cs : Nat → ClassId} {ad : Nat → Nat} {os new : List zO} {q : Nat} (hc : hCl os) : zws cs (zad ad os.length new.length q) (zhl (os ++ new)) = zws cs ad (zhl os) ++ (List.range new.length).map (fun i => (q + i, zcell cs (zad ad os.length new.length q) (zhl (os ++ new)) (os.length + i))) := by
  unfold zws
  rw [show zn (zhl (os ++ new)) = os.length + new.length from List.length_append, List.range_add, List.map_append, List.map_map]
  congr 1
  · apply List.map_congr_left
    intro i hi
    have hl : i < os.length := List.mem_range.mp hi
    obtain ⟨e1, e2, e3, e4, e5⟩ := zhl_old (new := new) hl
    rw [zad_o (Or.inl hl), zcell_eq e1 e2 e3 e4 e5]
    congr 1
    refine zcell_ad fun j b hb => zad_o (Or.inl ?_)
    have hm : os.getD i (z0 99 0) ∈ os := by
      rw [List.getD_eq_getElem?_getD, List.getElem?_eq_getElem hl]
      exact List.getElem_mem hl
    exact hc _ hm j b hb
  · apply List.map_congr_left
    intro i hi
    have hl : i < new.length := List.mem_range.mp hi
    show (zad ad os.length new.length q (os.length + i), _) = _
    rw [zad_n hl]
theorem zhl_99 (os : List zO) : ∀ a, a < zn (zhl os) ∨ zs (zhl os) a = (99, 0) := fun a => by
  rcases Nat.lt_or_ge a os.length with h | h
  · exact Or.inl h
  · right
    show (os.getD a (z0 99 0)).1 = _
    rw [List.getD_eq_getElem?_getD, List.getElem?_eq_none h]
    rfl
section ZR
variable {C : zC} {Q : zQ} {n0 : Nat} {Y : zY} {rm : Room} {pc : Nat} {lv : List (Nat × Value)} {st : List Value} {os new : List zO} {cl sl : Nat}
/-- behind what made the objects 'new' -/
theorem R_grow {pc' cl' sl' q : Nat} {st' : List Value} {ad0 ad : Nat → Nat} {p : Program} {l : Launch} {e : Env} {s : State} {m : MethodId} {args : Array Value} {below : List Frame} {meth : Method} {c : Code} {H1 : Heap} {locs : List Loc} {ls : Array Slot} (F : zFix Y p s m args meth c) (B : zBase C ad0 s)
    (k : Sem C Q n0 Y rm pc' lv st' (zhl (os ++ new)) cl' sl') (hcl : cl' ≠ 0) (hlen : os.length + new.length ≤ 1000000) (hlv : ∀ x ∈ lv, zok os.length x.2) (a1 : ∀ i, (i < n0 ∨ 1000000 ≤ i) → ad i = ad0 i) (a3 : n0 ≤ os.length) (a6 : lv_has ls Y.2.2.1 (lv.map (zl ad)))
    (hP : va_P C.2.1 zcls (zws C.2.2.1 (zad ad os.length new.length q) (zhl (os ++ new))) H1) (hD : va_D (zA C) (zws C.2.2.1 (zad ad os.length new.length q) (zhl (os ++ new)))) (hS : va_S (zA C) s.heap H1 locs) : W p l e rm s m args below meth c H1 locs cl' sl' (Q ad0 below args s) (F0 m pc' ls (st'.map (zv (zad ad os.length new.length q)))) := by
  have he : ∀ i, (i < os.length ∨ 1000000 ≤ i) → zad ad os.length new.length q i = ad i := fun i hi => zad_o (by omega)
  refine k ad0 p l e s m args below meth c F B _ H1 locs ls (fun i hi => (he i (by omega)).trans (a1 i hi)) (fun z => absurd z hcl) ?_ ⟨hP, hD, ?_, zhl_99 _⟩ hS ?_
  · show n0 ≤ (os ++ new).length
    rw [List.length_append]; omega
  · show (os ++ new).length ≤ _
    rw [List.length_append]; exact hlen
  · rw [zls_ext hlv he]
    exact a6
def zdef (ci j : Nat) : Bool := match zty ci j with
  | .int => true
  | .boolean => true
  | .long => true
  | .object _ => true
  | .array _ => true
  | _ => false
theorem zdef_ok : ∀ ci, ci < 12 → ∀ j, j < zN ci → zdef ci j = true := z12 (by decide +kernel) (by decide +kernel) (by decide +kernel) (by decide +kernel) (by decide +kernel) (by decide +kernel) (by decide +kernel) (by decide +kernel) (by decide +kernel) (by decide +kernel) (by decide +kernel) (by decide +kernel)
theorem zfv_def {ad : Nat → Nat} {h : zH} {a ci j : Nat} (hd : zdef ci j = true) (h1 : zI h a = fun _ => 0) (h2 : zL h a = fun _ => 0) (h3 : zP h a = fun _ => none) (h4 : zM h a = fun _ => none) : zfv ad h a ci j = defaultValue (zty ci j) := by
  unfold zfv zf
  rw [h1, h2, h3, h4]
  unfold zdef at hd
  cases e : zty ci j <;> rw [e] at hd <;> first | rfl | (exact absurd hd (by decide)) | skip
  all_goals (simp only []; split <;> first | rfl | skip)
  all_goals (rename_i q; split at q <;> first | (exact absurd q (by decide)) | rfl | skip)
  all_goals (split at q <;> exact absurd q (by decide))
theorem zhl_z {os : List zO} {k n : Nat} : zs (zhl (os ++ [z0 k n])) os.length = (k, n) ∧ zI (zhl (os ++ [z0 k n])) os.length = (fun _ => 0) ∧ zL (zhl (os ++ [z0 k n])) os.length = (fun _ => 0) ∧ zP (zhl (os ++ [z0 k n])) os.length = (fun _ => none) ∧ zM (zhl (os ++ [z0 k n])) os.length = (fun _ => none) := by
  have e : (os ++ [z0 k n]).getD os.length (z0 99 0) = z0 k n := by
    rw [List.getD_eq_getElem?_getD, List.getElem?_append_right (Nat.le_refl _), Nat.sub_self]
    rfl
  exact ⟨congrArg (fun o : zO => o.1) e, congrArg (fun o : zO => o.2.1) e, congrArg (fun o : zO => o.2.2.1) e, congrArg (fun o : zO => o.2.2.2.1) e, congrArg (fun o : zO => o.2.2.2.2) e⟩
theorem R_one {k n : Nat} {cs : Nat → ClassId} {ad : Nat → Nat} {q : Nat} {e : va_E} (hc : hCl os) (he : zcell cs (zad ad os.length 1 q) (zhl (os ++ [z0 k n])) os.length = e) : zws cs (zad ad os.length [z0 k n].length q) (zhl (os ++ [z0 k n])) = zws cs ad (zhl os) ++ [(q, e)] := by
  rw [zws_new hc]
  show _ ++ [(q + 0, zcell cs (zad ad os.length 1 q) _ (os.length + 0))] = _
  rw [Nat.add_zero, Nat.add_zero, he]
theorem R_new {ci idx : Nat} (hci : ci < 12) (hl : Cond.classLink Y.1.cls idx (zR ci) ∈ zT) (hi : Cond.instantiable (zR ci) (zN ci) ∈ zT) (hj : Cond.initialized (zR ci) ∈ zT) (hd : decode Y.2.1 pc = .ok (.new idx, 3)) (hc : hCl os) (hn : os.length < 900000) (hlv : ∀ x ∈ lv, zok os.length x.2) (hst : ∀ v ∈ st, zok os.length v) (hcl : cl + 1 ≤ rm.cells) (hsl : sl + zN ci ≤ rm.slots)
    (k : hCl (os ++ [z0 ci (zN ci)]) → Sem C Q n0 Y rm (pc + 3) lv (.ref os.length :: st) (zhl (os ++ [z0 ci (zN ci)])) (cl + 1) (sl + zN ci)) : Sem C Q n0 Y rm pc lv st (zhl os) cl sl := by
  intro ad0 p l e s m args below meth c F B ad H locs ls a1 a2 a3 a4 a5 a6
  obtain ⟨z1, z2, z3, z4, z5⟩ := zhl_z (os := os) (k := ci) (n := zN ci)
  have hz : ∀ ad' : Nat → Nat, ∀ j, j < zN ci → zfv ad' (zhl (os ++ [z0 ci (zN ci)])) os.length ci j = defaultValue (zty ci j) := fun ad' j hj => zfv_def (zdef_ok ci hci j hj) z2 z3 z4 z5
  refine va_new (ci := ci) (fs := (List.range (zN ci)).map (fun j => defaultValue (zty ci j))) F.1 F.2.1 F.2.2.2.2.1 (zin ci hci) (zty ci) (zty_ok ci hci) F.2.2.2.1 (F.2.2.2.2.1 _ hl) (F.2.2.2.2.1 _ hi) (F.2.2.2.2.1 _ hj) B.1 a4.1 a4.2.1 a5 (fun q hq => Nat.le_trans B.2.2.2.1 hq) (zcls_at ci hci) (fun j hj => by simp [vp_V, hj]) hcl hsl hd (fun q H1 hP hD hS => ?_)
  have he : zcell C.2.2.1 (zad ad os.length 1 q) (zhl (os ++ [z0 ci (zN ci)])) os.length = .inr (ci, (List.range (zN ci)).map (fun j => defaultValue (zty ci j))) := by
    rw [zcell_o z1 hci]
    congr 2
    apply List.map_congr_left
    intro j hj
    exact hz _ j (List.mem_range.mp hj)
  rw [← R_one hc he] at hP hD
  have hg := R_grow (l := l) (e := e) (below := below) F B (k (hCl_0 hc _ _)) (by omega) (by show os.length + 1 ≤ _; omega) hlv a1 a3 a6 hP hD hS
  have e2 : (Value.ref os.length :: st).map (zv (zad ad os.length [z0 ci (zN ci)].length q)) = .ref q :: st.map (zv ad) := by
    rw [List.map_cons, zvs_ext hst (fun i hi => zad_o (by show i < os.length ∨ os.length + 1 ≤ i; omega))]
    congr 1
    show Value.ref (zad ad os.length 1 q (os.length + 0)) = _
    rw [zad_n (by omega)]
    rfl
  rw [e2] at hg
  exact hg
theorem R_st {o : zO} {ad : Nat → Nat} {q : Nat} (hst : ∀ v ∈ st, zok os.length v) (hn : os.length < 900000 := by omega) : (Value.ref os.length :: st).map (zv (zad ad os.length [o].length q)) = .ref q :: st.map (zv ad) := by
  rw [List.map_cons, zvs_ext hst (fun i hi => zad_o (by show i < os.length ∨ os.length + 1 ≤ i; omega))]
  congr 1
  show Value.ref (zad ad os.length 1 q (os.length + 0)) = _
  rw [zad_n (by omega)]
  rfl
theorem R_newi {n : Nat} {x : Int32} (hx : ¬ x < 0 ∧ x.toNatClampNeg = n) (hn9 : n ≤ 1000) (hd : decode Y.2.1 pc = .ok (.newarray .int, 2)) (hc : hCl os) (hn : os.length < 900000) (hlv : ∀ x ∈ lv, zok os.length x.2) (hst : ∀ v ∈ st, zok os.length v) (hcl : cl + 1 ≤ rm.cells) (hsl : sl + n ≤ rm.slots)
    (k : hCl (os ++ [z0 12 n]) → Sem C Q n0 Y rm (pc + 2) lv (.ref os.length :: st) (zhl (os ++ [z0 12 n])) (cl + 1) (sl + n)) : Sem C Q n0 Y rm pc lv (.int x :: st) (zhl os) cl sl := by
  intro ad0 p l e s m args below meth c F B ad H locs ls a1 a2 a3 a4 a5 a6
  obtain ⟨z1, z2, z3, z4, z5⟩ := zhl_z (os := os) (k := 12) (n := n)
  refine va_newa (atype := .int) (ty := .int) (a0 := (n, .inl (fun _ => 0))) F.1 F.2.1 (F.2.2.2.2.1 _ a_int) rfl B.1 a4.1 a4.2.1 a5 (fun q hq => Nat.le_trans B.2.2.2.1 hq) (fun _ => rfl) hx.1 hx.2 (by show n * 4 ≤ _; omega) hcl hsl hd (fun q cA H1 hK hP hD hS => ?_)
  have hcA : cA = C.2.2.1 0 := Option.some.inj ((hK.2 8 (cA, .int) rfl).2.symm.trans (B.1.2 0 (C.2.2.1 0, .int) rfl).2)
  subst hcA
  have he : zcell C.2.2.1 (zad ad os.length 1 q) (zhl (os ++ [z0 12 n])) os.length = .inl (C.2.2.1 0, n, .inl (fun _ => 0)) := by
    rw [zcell_i z1, z2]
  rw [← R_one hc he] at hP hD
  have hg := R_grow (l := l) (e := e) (below := below) F B (k (hCl_0 hc _ _)) (by omega) (by show os.length + 1 ≤ _; omega) hlv a1 a3 a6 hP hD hS
  have e2 : (Value.ref os.length :: st).map (zv (zad ad os.length [z0 12 n].length q)) = .ref q :: st.map (zv ad) := R_st hst
  rw [e2] at hg
  exact hg
theorem R_newl {n : Nat} {x : Int32} (hx : ¬ x < 0 ∧ x.toNatClampNeg = n) (hn9 : n ≤ 1000) (hd : decode Y.2.1 pc = .ok (.newarray .long, 2)) (hc : hCl os) (hn : os.length < 900000) (hlv : ∀ x ∈ lv, zok os.length x.2) (hst : ∀ v ∈ st, zok os.length v) (hcl : cl + 1 ≤ rm.cells) (hsl : sl + n ≤ rm.slots)
    (k : hCl (os ++ [z0 13 n]) → Sem C Q n0 Y rm (pc + 2) lv (.ref os.length :: st) (zhl (os ++ [z0 13 n])) (cl + 1) (sl + n)) : Sem C Q n0 Y rm pc lv (.int x :: st) (zhl os) cl sl := by
  intro ad0 p l e s m args below meth c F B ad H locs ls a1 a2 a3 a4 a5 a6
  obtain ⟨z1, z2, z3, z4, z5⟩ := zhl_z (os := os) (k := 13) (n := n)
  refine va_newa (atype := .long) (ty := .long) (a0 := (n, .inr (.inl (fun _ => 0)))) F.1 F.2.1 (F.2.2.2.2.1 _ a_long) rfl B.1 a4.1 a4.2.1 a5 (fun q hq => Nat.le_trans B.2.2.2.1 hq) (fun _ => rfl) hx.1 hx.2 (by show n * 8 ≤ _; omega) hcl hsl hd (fun q cA H1 hK hP hD hS => ?_)
  have hcA : cA = C.2.2.1 1 := Option.some.inj ((hK.2 8 (cA, .long) rfl).2.symm.trans (B.1.2 1 (C.2.2.1 1, .long) rfl).2)
  subst hcA
  have he : zcell C.2.2.1 (zad ad os.length 1 q) (zhl (os ++ [z0 13 n])) os.length = .inl (C.2.2.1 1, n, .inr (.inl (fun _ => 0))) := by
    rw [zcell_l z1, z3]
  rw [← R_one hc he] at hP hD
  have hg := R_grow (l := l) (e := e) (below := below) F B (k (hCl_0 hc _ _)) (by omega) (by show os.length + 1 ≤ _; omega) hlv a1 a3 a6 hP hD hS
  have e2 : (Value.ref os.length :: st).map (zv (zad ad os.length [z0 13 n].length q)) = .ref q :: st.map (zv ad) := R_st hst
  rw [e2] at hg
  exact hg
theorem R_newb {n : Nat} {x : Int32} (hx : ¬ x < 0 ∧ x.toNatClampNeg = n) (hn9 : n ≤ 1000) (hd : decode Y.2.1 pc = .ok (.newarray .boolean, 2)) (hc : hCl os) (hn : os.length < 900000) (hlv : ∀ x ∈ lv, zok os.length x.2) (hst : ∀ v ∈ st, zok os.length v) (hcl : cl + 1 ≤ rm.cells) (hsl : sl + n ≤ rm.slots)
    (k : hCl (os ++ [z0 14 n]) → Sem C Q n0 Y rm (pc + 2) lv (.ref os.length :: st) (zhl (os ++ [z0 14 n])) (cl + 1) (sl + n)) : Sem C Q n0 Y rm pc lv (.int x :: st) (zhl os) cl sl := by
  intro ad0 p l e s m args below meth c F B ad H locs ls a1 a2 a3 a4 a5 a6
  obtain ⟨z1, z2, z3, z4, z5⟩ := zhl_z (os := os) (k := 14) (n := n)
  refine va_newa (atype := .boolean) (ty := .boolean) (a0 := (n, .inl (fun _ => 0))) F.1 F.2.1 (F.2.2.2.2.1 _ a_bool) rfl B.1 a4.1 a4.2.1 a5 (fun q hq => Nat.le_trans B.2.2.2.1 hq) (fun _ => rfl) hx.1 hx.2 (by show n * 1 ≤ _; omega) hcl hsl hd (fun q cA H1 hK hP hD hS => ?_)
  have hcA : cA = C.2.2.1 2 := Option.some.inj ((hK.2 8 (cA, .boolean) rfl).2.symm.trans (B.1.2 2 (C.2.2.1 2, .boolean) rfl).2)
  subst hcA
  have he : zcell C.2.2.1 (zad ad os.length 1 q) (zhl (os ++ [z0 14 n])) os.length = .inl (C.2.2.1 2, n, .inl (fun _ => 0)) := by
    rw [zcell_z z1, z2]
  rw [← R_one hc he] at hP hD
  have hg := R_grow (l := l) (e := e) (below := below) F B (k (hCl_0 hc _ _)) (by omega) (by show os.length + 1 ≤ _; omega) hlv a1 a3 a6 hP hD hS
  have e2 : (Value.ref os.length :: st).map (zv (zad ad os.length [z0 14 n].length q)) = .ref q :: st.map (zv ad) := R_st hst
  rw [e2] at hg
  exact hg
theorem R_newq {n k idx : Nat} {x : Int32} {D : String} (hk : k < 5 ∧ (ztys C.2.2.1)[3 + k]? = some (C.2.2.1 (3 + k), .object D)) (hx : ¬ x < 0 ∧ x.toNatClampNeg = n) (hn9 : n ≤ 1000) (hl : Cond.classLink Y.1.cls idx D ∈ zT) (ho : Cond.arrayOver (.object D) ∈ lw_tbl) (hd : decode Y.2.1 pc = .ok (.anewarray idx, 3)) (hc : hCl os) (hn : os.length < 900000) (hlv : ∀ x ∈ lv, zok os.length x.2) (hst : ∀ v ∈ st, zok os.length v) (hcl : cl + 1 ≤ rm.cells) (hsl : sl + n ≤ rm.slots)
    (kk : hCl (os ++ [z0 (15 + k) n]) → Sem C Q n0 Y rm (pc + 3) lv (.ref os.length :: st) (zhl (os ++ [z0 (15 + k) n])) (cl + 1) (sl + n)) : Sem C Q n0 Y rm pc lv (.int x :: st) (zhl os) cl sl := by
  intro ad0 p l e s m args below meth c F B ad H locs ls a1 a2 a3 a4 a5 a6
  obtain ⟨z1, z2, z3, z4, z5⟩ := zhl_z (os := os) (k := 15 + k) (n := n)
  refine va_newq F.1 F.2.1 F.2.2.2.1 (F.2.2.2.2.1 _ hl) (B.2.2.2.2.2.2.1 _ ho) B.1 a4.1 a4.2.1 a5 (fun q hq => Nat.le_trans B.2.2.2.1 hq) hx.1 hx.2 (by omega) hcl hsl hd (fun q cA H1 hK hP hD hS => ?_)
  have hcA : cA = C.2.2.1 (3 + k) := by
    obtain ⟨-, -, -, -, -, f1⟩ := (hK.2 8 (cA, .object D) rfl).2
    obtain ⟨-, -, -, -, -, f2⟩ := (B.1.2 (3 + k) _ hk.2).2
    exact Option.some.inj (f1.symm.trans f2)
  subst hcA
  have he : zcell C.2.2.1 (zad ad os.length 1 q) (zhl (os ++ [z0 (15 + k) n])) os.length = .inl (C.2.2.1 (3 + k), n, .inr (.inr (.inr (.inr (fun _ => none))))) := by
    rw [zcell_q z1 hk.1, z4]
    rfl
  rw [← R_one hc he] at hP hD
  have hg := R_grow (l := l) (e := e) (below := below) F B (kk (hCl_0 hc _ _)) (by omega) (by show os.length + 1 ≤ _; omega) hlv a1 a3 a6 hP hD hS
  have e2 : (Value.ref os.length :: st).map (zv (zad ad os.length [z0 (15 + k) n].length q)) = .ref q :: st.map (zv ad) := R_st hst
  rw [e2] at hg
  exact hg
end ZR
