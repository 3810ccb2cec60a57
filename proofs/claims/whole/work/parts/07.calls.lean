/-! THE LAYER: calls and ends -/
theorem zG_of {ws : List Cond} (h : ∀ w ∈ ws, w ∈ zT) : GoodIn zT ws := fun w hw => ⟨h w hw, good_of_word (List.mem_filter.mp (h w hw)).2⟩
theorem zIn_ws {Y : zY} (h : zcode Y ∈ zT) : ∀ w ∈ zWs Y, w ∈ zT := fun w hw => (zGood h w hw).1
theorem zPc_blind {C : zC} {ad : Nat → Nat} {av : List Value} {h : zH} : FrameBlind (zPc C ad av h) := fun a U g mk q => ⟨q.1, q.2.1, zBase_calling q.2.2⟩
/-- own's pool entry idx calls Y (n arguments) on an object of its own class -/
def zmV (own : String) (idx : Nat) (Y : zY) (n : Nat) : Prop :=
  Cond.methodLink own idx Y.1 ∈ zT ∧ Cond.instanceMethod Y.1 ∈ zT ∧ Cond.selects Y.1.cls Y.1 Y.1 ∈ zT ∧ Cond.initialized Y.1.cls ∈ zT ∧ zcode Y ∈ zT ∧ (Y.1.cls ≠ "java/lang/invoke/MethodHandle" ∧ Y.1.cls ≠ "java/lang/invoke/VarHandle" ∧ (parseMethodDescriptor Y.1.desc).map (fun d => d.parameters.length) = some n)
def zmS (own : String) (idx : Nat) (Y : zY) (n : Nat) : Prop :=
  Cond.methodLink own idx Y.1 ∈ zT ∧ Cond.static Y.1 ∈ zT ∧ Cond.initialized Y.1.cls ∈ zT ∧ zcode Y ∈ zT ∧ (Y.1.cls ≠ "java/lang/invoke/MethodHandle" ∧ Y.1.cls ≠ "java/lang/invoke/VarHandle" ∧ (parseMethodDescriptor Y.1.desc).map (fun d => d.parameters.length) = some n)
def zmSN (own : String) (idx : Nat) (Y : zY) (n : Nat) : Prop :=
  Cond.methodLinkNest own idx Y.1 "InnPurposes" ∈ lw_tbl ∧ Cond.static Y.1 ∈ zT ∧ Cond.initialized Y.1.cls ∈ zT ∧ zcode Y ∈ zT ∧ (Y.1.cls ≠ "java/lang/invoke/MethodHandle" ∧ Y.1.cls ≠ "java/lang/invoke/VarHandle" ∧ (parseMethodDescriptor Y.1.desc).map (fun d => d.parameters.length) = some n)
def zmI (own : String) (idx : Nat) (Y : zY) (n : Nat) : Prop :=
  Cond.methodLink own idx Y.1 ∈ zT ∧ Cond.instanceMethod Y.1 ∈ zT ∧ Cond.initialized Y.1.cls ∈ zT ∧ zcode Y ∈ zT ∧ Y.1.name = "<init>" ∧ Y.2.2.2 = none ∧ (Y.1.cls ≠ "java/lang/invoke/MethodHandle" ∧ Y.1.cls ≠ "java/lang/invoke/VarHandle" ∧ (parseMethodDescriptor Y.1.desc).map (fun d => d.parameters.length) = some n)
def zmIN (own : String) (idx : Nat) (Y : zY) (n : Nat) : Prop :=
  Cond.methodLinkNest own idx Y.1 "InnPurposes" ∈ lw_tbl ∧ Cond.instanceMethod Y.1 ∈ zT ∧ Cond.initialized Y.1.cls ∈ zT ∧ zcode Y ∈ zT ∧ Y.1.name = "<init>" ∧ Y.2.2.2 = none ∧ (Y.1.cls ≠ "java/lang/invoke/MethodHandle" ∧ Y.1.cls ≠ "java/lang/invoke/VarHandle" ∧ (parseMethodDescriptor Y.1.desc).map (fun d => d.parameters.length) = some n)
section ZK
variable {p : Program} {l : Launch} {e : Env} {R : Room} {s : State} {m : MethodId} {args : Array Value} {below : List Frame} {meth : Method} {c : Code} {H : Heap} {locs : List Loc} {cells slots mc ms : Nat} {Qw : State → Prop}
/-- behind a call -/
theorem zback {C : zC} {ad : Nat → Nat} {h : zH} {R' : Option Value → zH → Prop} {a : Array Value} {pc : Nat} {ls : Array Slot} {st0 rest : List Value} (hr : va_Run p l e R s m args below meth c H locs cells slots mc ms (F0 m pc ls st0) rest (zQc C ad h mc R' a) (zA C)) (hS : va_S (zA C) s.heap H locs)
    (kk : ∀ (v : Option Value) (h' : zH) (ad' : Nat → Nat) (H1 : Heap) (locs1 : List Loc), (mc = 0 → ad' = ad) → (∀ i, (i < zn h ∨ 1000000 ≤ i) → ad' i = ad i) → zn h ≤ zn h' → zWd C ad' h' H1 → R' v h' → va_S (zA C) s.heap H1 locs1 →
      W p l e R s m args below meth c H1 locs1 (cells + mc) (slots + ms) Qw (F0 m (pc + 3) ls ((v.map (zv ad')).toList ++ rest))) : W p l e R s m args below meth c H locs cells slots Qw (F0 m pc ls st0) := by
  intro T hT X
  obtain ⟨v, st₀, t, T', L, h0, X', hL, e1, e2, ⟨⟨v', h', ad', hv, x1, x2, x3, x4, x5⟩, hz, hk⟩, st⟩ := hr T hT X
  cases hv
  rw [h0] at hz hk
  obtain ⟨t2, a1, b1⟩ := kk v' h' ad' T'.heap (locs ++ L) x1 x2 x3 (by rw [e1]; exact x4) x5
    ⟨Nat.le_trans hS.1 (by rw [e1]; exact hz), fun q h1 h2 => by rw [e1, hk q (Nat.lt_of_lt_of_le h1 hS.1) h2]; exact hS.2.1 q h1 h2, fun q hq => by
      rcases List.mem_append.mp hq with h | h
      · exact hS.2.2 q h
      · exact hL q h⟩ T' rfl X'
  exact ⟨t2, st t2 a1, b1⟩
end ZK
/-- a value that an object world of n objects can hold -/
def zok (n : Nat) (v : Value) : Prop := match v with
  | .ref k => k < n ∨ 1000000 ≤ k
  | _ => True
theorem zv_ext {ad ad' : Nat → Nat} {n : Nat} {v : Value} (hv : zok n v) (he : ∀ i, (i < n ∨ 1000000 ≤ i) → ad' i = ad i) : zv ad' v = zv ad v := by
  cases v <;> first | rfl | (show Value.ref _ = Value.ref _; rw [he _ hv])
theorem zvs_ext {ad ad' : Nat → Nat} {n : Nat} : ∀ {st : List Value}, (∀ v ∈ st, zok n v) → (∀ i, (i < n ∨ 1000000 ≤ i) → ad' i = ad i) → st.map (zv ad') = st.map (zv ad)
  | [], _, _ => rfl
  | v :: vs, hv, he => by
    rw [List.map_cons, List.map_cons, zv_ext (hv v List.mem_cons_self) he, zvs_ext (fun w hw => hv w (List.mem_cons_of_mem _ hw)) he]
theorem zls_ext {ad ad' : Nat → Nat} {n : Nat} : ∀ {lv : List (Nat × Value)}, (∀ q ∈ lv, zok n q.2) → (∀ i, (i < n ∨ 1000000 ≤ i) → ad' i = ad i) → lv.map (zl ad') = lv.map (zl ad)
  | [], _, _ => rfl
  | v :: vs, hv, he => by
    rw [List.map_cons, List.map_cons, zls_ext (fun w hw => hv w (List.mem_cons_of_mem _ hw)) he]
    show (v.1, zv ad' v.2) :: _ = (v.1, zv ad v.2) :: _
    rw [zv_ext (hv v List.mem_cons_self) he]
section ZC
variable {C : zC} {Q : zQ} {n0 : Nat} {Y : zY} {rm : Room} {pc : Nat} {lv : List (Nat × Value)} {st : List Value} {h : zH} {cl sl : Nat}
def zroom (rm : Room) (Yc : zY) (d mc ms cl sl : Nat) : Prop := d + 1 ≤ rm.frames ∧ 8 + (Yc.2.2.1 + 11) + 40 * d ≤ rm.locals ∧ cl + mc ≤ rm.cells ∧ sl + ms ≤ rm.slots
theorem zroom_0 {Yc : zY} {d : Nat} (hL : Yc.2.2.1 ≤ 21) : zroom (zrm (d + 1) 0 0) Yc d 0 0 0 0 := ⟨Nat.le_refl _, by show _ ≤ 40 * (d + 1); omega, Nat.le_refl _, Nat.le_refl _⟩
theorem zrest {rest : List Value} (ad : Nat → Nat) (hr : (rest.map fun v => v.category).sum ≤ 8) : ((rest.map (zv ad)).map fun v => v.category).sum ≤ 8 := by
  rw [List.map_map, show ((fun v : Value => v.category) ∘ zv ad) = (fun v => v.category) from funext fun v => zv_cat ad v]
  exact hr
/-- the end of every call: nothing was made -/
theorem zcall_end {Yc : zY} {rest As : List Value} {ad0 : Nat → Nat} {p : Program} {l : Launch} {e : Env} {s : State} {m : MethodId} {args : Array Value} {below : List Frame} {meth : Method} {c : Code} (F : zFix Y p s m args meth c) (B : zBase C ad0 s) {ad : Nat → Nat} {H : Heap} {locs : List Loc} {ls : Array Slot}
    (a1 : ∀ i, (i < n0 ∨ 1000000 ≤ i) → ad i = ad0 i) (a2 : cl = 0 → ad = ad0) (a3 : n0 ≤ zn h) (a5 : va_S (zA C) s.heap H locs) (a6 : lv_has ls Y.2.2.1 (lv.map (zl ad))) {a : Array Value} {st0 : List Value}
    (hr : va_Run p l e rm s m args below meth c H locs cl sl 0 0 (F0 m pc ls st0) (rest.map (zv ad)) (zQc C ad h 0 (fun v h' => Sem C Q n0 Y rm (pc + 3) lv (v.toList ++ rest) h' cl sl) a) (zA C)) : W p l e rm s m args below meth c H locs cl sl (Q ad0 below args s) (F0 m pc ls st0) := by
  refine zback hr a5 (fun v h' ad' H1 locs1 x1 x2 x3 x4 x5 x6 => ?_)
  obtain rfl := x1 rfl
  have q := x5 ad0 p l e s m args below meth c F B ad' H1 locs1 ls a1 a2 (Nat.le_trans a3 x3) x4 x6 a6
  rw [List.map_append] at q
  cases v <;> exact q
theorem zcall_endA {Yc : zY} {mc ms : Nat} {rest As : List Value} {ad0 : Nat → Nat} {p : Program} {l : Launch} {e : Env} {s : State} {m : MethodId} {args : Array Value} {below : List Frame} {meth : Method} {c : Code} (F : zFix Y p s m args meth c) (B : zBase C ad0 s) {ad : Nat → Nat} {H : Heap} {locs : List Loc} {ls : Array Slot} (hmc : mc ≠ 0)
    (hlv : ∀ q ∈ lv, zok (zn h) q.2) (hrs : ∀ v ∈ rest, zok (zn h) v)
    (a1 : ∀ i, (i < n0 ∨ 1000000 ≤ i) → ad i = ad0 i) (a3 : n0 ≤ zn h) (a5 : va_S (zA C) s.heap H locs) (a6 : lv_has ls Y.2.2.1 (lv.map (zl ad))) {a : Array Value} {st0 : List Value}
    (hr : va_Run p l e rm s m args below meth c H locs cl sl mc ms (F0 m pc ls st0) (rest.map (zv ad)) (zQc C ad h mc (fun v h' => Sem C Q n0 Y rm (pc + 3) lv (v.toList ++ rest) h' (cl + mc) (sl + ms)) a) (zA C)) : W p l e rm s m args below meth c H locs cl sl (Q ad0 below args s) (F0 m pc ls st0) := by
  refine zback hr a5 (fun v h' ad' H1 locs1 x1 x2 x3 x4 x5 x6 => ?_)
  have q := x5 ad0 p l e s m args below meth c F B ad' H1 locs1 ls (fun i hi => (x2 i (hi.imp (fun z => Nat.lt_of_lt_of_le z a3) id)).trans (a1 i hi)) (fun z => absurd z (by omega)) (Nat.le_trans a3 x3) x4 x6 (by rw [zls_ext hlv x2]; exact a6)
  rw [List.map_append, zvs_ext hrs x2] at q
  cases v <;> exact q
theorem zmapst (ad : Nat → Nat) (As rest : List Value) (a : Nat) : (As.reverse ++ .ref a :: rest).map (zv ad) = (As.map (zv ad)).reverse ++ .ref (ad a) :: rest.map (zv ad) := by rw [List.map_append, List.map_reverse]; rfl
theorem zrecv {ad0 ad : Nat → Nat} {s : State} {H : Heap} {a ci sz : Nat} (B : zBase C ad0 s) (a4 : zWd C ad h H) (hs : zs h a = (ci, sz)) (hc : ci < 12) : ∃ cell : Cell, H[ad a]? = some cell ∧ cell.vm.isStatics = false ∧ s.vm.findClass (zR ci) = some cell.cls := va_recv B.1 a4.1 (zcls_at ci hc) (zat_o a4 hs hc)
theorem S_callV {Yc : zY} {a idx n ci sz d : Nat} (As rest : List Value) (hm : zmV Y.1.cls idx Yc n) (hst : st = As.reverse ++ .ref a :: rest) (hn : As.length = n) (hs : zs h a = (ci, sz)) (hC : zR ci = Yc.1.cls ∧ ci < 12) (hr : (rest.map fun v => v.category).sum ≤ 8) (hrm : zroom rm Yc d 0 0 cl sl)
    (hd : decode Y.2.1 pc = .ok (.invokevirtual idx, 3)) (hc : CallSem C Yc d 0 0 (.ref a :: As) h (fun v h' => Sem C Q n0 Y rm (pc + 3) lv (v.toList ++ rest) h' cl sl)) : Sem C Q n0 Y rm pc lv st h cl sl := by
  intro ad0 p l e s m args below meth c F B ad H locs ls a1 a2 a3 a4 a5 a6
  subst hst
  obtain ⟨w1, w2, w3, w4, w5, w6⟩ := hm
  refine zcall_end (Yc := Yc) (As := As) F B a1 a2 a3 a5 a6 (va_runV (As := As.map (zv ad)) (rest := rest.map (zv ad)) ⟨F.1, F.2.1, F.2.2.1, F.2.2.2.1, F.2.2.2.2.1⟩ (hc l ad) (cwV (bytes := Yc.2.1) (maxL := Yc.2.2.1) (ret := Yc.2.2.2) (C := Yc.1.cls) n F.2.2.2.2.1 (zG_of fun w hw => ?_) rfl rfl rfl ⟨rfl, w6⟩ ⟨hrm.1, hrm.2.1⟩) ⟨zPc_blind, by rw [← hC.1]; exact zrecv B a4 hs hC.2, fun U hU hW => ⟨rfl, by rw [hU]; exact a4, zBase_moved B a5 hU hW (fun i hi => a1 i (Or.inr hi))⟩⟩ rfl (by rw [List.length_map]; exact hn) a6.1 (zmapst ad As rest a) (lv_room (zrest ad hr)) hd ⟨hrm.2.2.1, hrm.2.2.2⟩)
  rcases List.mem_append.mp hw with q | q
  · simp only [List.mem_cons, List.not_mem_nil, or_false] at q
    rcases q with rfl | rfl | rfl | rfl
    · exact w1
    · exact w2
    · exact w3
    · exact w4
  · exact zIn_ws w5 w q
theorem zmapst0 (ad : Nat → Nat) (As rest : List Value) : (As.reverse ++ rest).map (zv ad) = (As.map (zv ad)).reverse ++ rest.map (zv ad) := by rw [List.map_append, List.map_reverse]
theorem S_callS {Yc : zY} {idx n d : Nat} (As rest : List Value) (hm : zmS Y.1.cls idx Yc n) (hst : st = As.reverse ++ rest) (hn : As.length = n) (hr : (rest.map fun v => v.category).sum ≤ 8) (hrm : zroom rm Yc d 0 0 cl sl)
    (hd : decode Y.2.1 pc = .ok (.invokestatic idx, 3)) (hc : CallSem C Yc d 0 0 As h (fun v h' => Sem C Q n0 Y rm (pc + 3) lv (v.toList ++ rest) h' cl sl)) : Sem C Q n0 Y rm pc lv st h cl sl := by
  intro ad0 p l e s m args below meth c F B ad H locs ls a1 a2 a3 a4 a5 a6
  subst hst
  obtain ⟨w1, w2, w4, w5, w6⟩ := hm
  refine zcall_end (Yc := Yc) (As := As) F B a1 a2 a3 a5 a6 (va_runS (As := As.map (zv ad)) (rest := rest.map (zv ad)) ⟨F.1, F.2.1, F.2.2.1, F.2.2.2.1, F.2.2.2.2.1⟩ (hc l ad) (va_cwS (bytes := Yc.2.1) (maxL := Yc.2.2.1) (ret := Yc.2.2.2) n F.2.2.2.2.1 (zG_of fun w hw => ?_) rfl rfl rfl w6 ⟨hrm.1, hrm.2.1⟩) ⟨zPc_blind, fun U hU hW => ⟨rfl, by rw [hU]; exact a4, zBase_moved B a5 hU hW (fun i hi => a1 i (Or.inr hi))⟩⟩ rfl (by rw [List.length_map]; exact hn) a6.1 (zmapst0 ad As rest) (lv_room (zrest ad hr)) hd ⟨hrm.2.2.1, hrm.2.2.2⟩)
  rcases List.mem_append.mp hw with q | q
  · simp only [List.mem_cons, List.not_mem_nil, or_false] at q
    rcases q with rfl | rfl | rfl
    · exact w1
    · exact w2
    · exact w4
  · exact zIn_ws w5 w q
theorem S_callSN {Yc : zY} {idx n d : Nat} (As rest : List Value) (hm : zmSN Y.1.cls idx Yc n) (hst : st = As.reverse ++ rest) (hn : As.length = n) (hr : (rest.map fun v => v.category).sum ≤ 8) (hrm : zroom rm Yc d 0 0 cl sl)
    (hd : decode Y.2.1 pc = .ok (.invokestatic idx, 3)) (hc : CallSem C Yc d 0 0 As h (fun v h' => Sem C Q n0 Y rm (pc + 3) lv (v.toList ++ rest) h' cl sl)) : Sem C Q n0 Y rm pc lv st h cl sl := by
  intro ad0 p l e s m args below meth c F B ad H locs ls a1 a2 a3 a4 a5 a6
  subst hst
  obtain ⟨w1, w2, w4, w5, w6⟩ := hm
  have hl : va_Nw (.methodLinkNest Y.1.cls idx Yc.1 "InnPurposes") s := B.2.2.2.2.1 _ _ _ _ w1
  exact zcall_end (Yc := Yc) (As := As) F B a1 a2 a3 a5 a6 (va_runSN (As := As.map (zv ad)) (rest := rest.map (zv ad)) ⟨F.1, F.2.1, F.2.2.1, F.2.2.2.1, F.2.2.2.2.1⟩ (hc l ad) ⟨va_cnB (bytes := Yc.2.1) (maxL := Yc.2.2.1) (ret := Yc.2.2.2) n F.2.2.2.2.1 (zGood w5) rfl rfl rfl hl (F.2.2.2.2.1 _ w4) w6 ⟨hrm.1, hrm.2.1⟩, F.2.2.2.2.1 _ w2, trivial⟩ ⟨zPc_blind, fun U hU hW => ⟨rfl, by rw [hU]; exact a4, zBase_moved B a5 hU hW (fun i hi => a1 i (Or.inr hi))⟩⟩ rfl (by rw [List.length_map]; exact hn) a6.1 (zmapst0 ad As rest) (lv_room (zrest ad hr)) hd ⟨hrm.2.2.1, hrm.2.2.2⟩)
theorem S_aboveN {idx : Nat} (hw : Cond.fieldLinkNest Y.1.cls idx "InnPurposes" "ABOVE" "[I" "InnPurposes" ∈ lw_tbl) (hd : decode Y.2.1 pc = .ok (.getstatic idx, 3)) (k : Sem C Q n0 Y rm (pc + 3) lv (.ref 1000000 :: st) h cl sl) : Sem C Q n0 Y rm pc lv st h cl sl :=
  fun ad0 p l e s m args below meth c F B ad H locs ls a1 a2 a3 a4 a5 a6 => va_getsN F.1 F.2.1 B.2.1.1 a5 F.2.2.2.1 (va_Nw.use rfl (B.2.2.2.2.2.1 _ _ _ _ _ _ hw)) (fun _ q => q) hd (by rw [← a1 1000000 (Or.inr (by omega))]; exact k ad0 p l e s m args below meth c F B ad H locs ls a1 a2 a3 a4 a5 a6)
theorem S_bodiesN {idx : Nat} (hw : Cond.fieldLinkNest Y.1.cls idx "InnPurposes" "BODIES" "[I" "InnPurposes" ∈ lw_tbl) (hd : decode Y.2.1 pc = .ok (.getstatic idx, 3)) (k : Sem C Q n0 Y rm (pc + 3) lv (.ref 1000001 :: st) h cl sl) : Sem C Q n0 Y rm pc lv st h cl sl :=
  fun ad0 p l e s m args below meth c F B ad H locs ls a1 a2 a3 a4 a5 a6 => va_getsN F.1 F.2.1 B.2.1.2.2.1 a5 F.2.2.2.1 (va_Nw.use rfl (B.2.2.2.2.2.1 _ _ _ _ _ _ hw)) (fun _ q => q) hd (by rw [← a1 1000001 (Or.inr (by omega))]; exact k ad0 p l e s m args below meth c F B ad H locs ls a1 a2 a3 a4 a5 a6)
/-- a constructor called (it makes mc cells) -/
theorem S_callI {Yc : zY} {a idx n d mc ms : Nat} (As rest : List Value) (hm : zmI Y.1.cls idx Yc n) (hst : st = As.reverse ++ .ref a :: rest) (hn : As.length = n) (hr : (rest.map fun v => v.category).sum ≤ 8) (hrm : zroom rm Yc d mc ms cl sl) (hmc : mc ≠ 0)
    (hlv : ∀ q ∈ lv, zok (zn h) q.2) (hrs : ∀ v ∈ rest, zok (zn h) v)
    (hd : decode Y.2.1 pc = .ok (.invokespecial idx, 3)) (hc : CallSem C Yc d mc ms (.ref a :: As) h (fun v h' => Sem C Q n0 Y rm (pc + 3) lv (v.toList ++ rest) h' (cl + mc) (sl + ms))) : Sem C Q n0 Y rm pc lv st h cl sl := by
  intro ad0 p l e s m args below meth c F B ad H locs ls a1 a2 a3 a4 a5 a6
  subst hst
  obtain ⟨w1, w2, w4, w5, w6, w7, w8⟩ := hm
  exact zcall_endA (Yc := Yc) (As := As) F B hmc hlv hrs a1 a3 a5 a6 (va_runI (As := As.map (zv ad)) (rest := rest.map (zv ad)) ⟨F.1, F.2.1, F.2.2.1, F.2.2.2.1, F.2.2.2.2.1⟩ (hc l ad) (cwI (bytes := Yc.2.1) (maxL := Yc.2.2.1) n F.2.2.2.2.1 (zGood w5) (by rw [← w7]; rfl) rfl rfl (F.2.2.2.2.1 _ w4) (F.2.2.2.2.1 _ w1) (F.2.2.2.2.1 _ w2) w6 w8 ⟨hrm.1, hrm.2.1⟩) ⟨zPc_blind, fun U hU hW => ⟨rfl, by rw [hU]; exact a4, zBase_moved B a5 hU hW (fun i hi => a1 i (Or.inr hi))⟩⟩ rfl (by rw [List.length_map]; exact hn) a6.1 (zmapst ad As rest a) (lv_room (zrest ad hr)) hd ⟨hrm.2.2.1, hrm.2.2.2⟩)
theorem S_callIN {Yc : zY} {a idx n d mc ms : Nat} (As rest : List Value) (hm : zmIN Y.1.cls idx Yc n) (hst : st = As.reverse ++ .ref a :: rest) (hn : As.length = n) (hr : (rest.map fun v => v.category).sum ≤ 8) (hrm : zroom rm Yc d mc ms cl sl) (hmc : mc ≠ 0)
    (hlv : ∀ q ∈ lv, zok (zn h) q.2) (hrs : ∀ v ∈ rest, zok (zn h) v)
    (hd : decode Y.2.1 pc = .ok (.invokespecial idx, 3)) (hc : CallSem C Yc d mc ms (.ref a :: As) h (fun v h' => Sem C Q n0 Y rm (pc + 3) lv (v.toList ++ rest) h' (cl + mc) (sl + ms))) : Sem C Q n0 Y rm pc lv st h cl sl := by
  intro ad0 p l e s m args below meth c F B ad H locs ls a1 a2 a3 a4 a5 a6
  subst hst
  obtain ⟨w1, w2, w4, w5, w6, w7, w8⟩ := hm
  have hl : va_Nw (.methodLinkNest Y.1.cls idx Yc.1 "InnPurposes") s := B.2.2.2.2.1 _ _ _ _ w1
  exact zcall_endA (Yc := Yc) (As := As) F B hmc hlv hrs a1 a3 a5 a6 (va_runIN (As := As.map (zv ad)) (rest := rest.map (zv ad)) ⟨F.1, F.2.1, F.2.2.1, F.2.2.2.1, F.2.2.2.2.1⟩ (hc l ad) ⟨va_cnB (bytes := Yc.2.1) (maxL := Yc.2.2.1) (ret := none) n F.2.2.2.2.1 (zGood w5) (by rw [← w7]; rfl) rfl rfl hl (F.2.2.2.2.1 _ w4) w8 ⟨hrm.1, hrm.2.1⟩, w6, F.2.2.2.2.1 _ w2⟩ ⟨zPc_blind, fun U hU hW => ⟨rfl, by rw [hU]; exact a4, zBase_moved B a5 hU hW (fun i hi => a1 i (Or.inr hi))⟩⟩ rfl (by rw [List.length_map]; exact hn) a6.1 (zmapst ad As rest a) (lv_room (zrest ad hr)) hd ⟨hrm.2.2.1, hrm.2.2.2⟩)
/-- a call on a literal -/
theorem S_callT (i : Nat) (hi : i < 10) {Yc : zY} {idx n d : Nat} (As rest : List Value) (hm : zmV Y.1.cls idx Yc n) (hst : st = As.reverse ++ .ref (1000010 + i) :: rest) (hn : As.length = n) (hC : Yc.1.cls = "java/lang/String") (hr : (rest.map fun v => v.category).sum ≤ 8) (hrm : zroom rm Yc d 0 0 cl sl)
    (hd : decode Y.2.1 pc = .ok (.invokevirtual idx, 3)) (hc : CallSem C Yc d 0 0 (.ref (1000010 + i) :: As) h (fun v h' => Sem C Q n0 Y rm (pc + 3) lv (v.toList ++ rest) h' cl sl)) : Sem C Q n0 Y rm pc lv st h cl sl := by
  intro ad0 p l e s m args below meth c F B ad H locs ls a1 a2 a3 a4 a5 a6
  subst hst
  obtain ⟨w1, w2, w3, w4, w5, w6⟩ := hm
  have hrv : ∃ cell : Cell, H[ad (1000010 + i)]? = some cell ∧ cell.vm.isStatics = false ∧ s.vm.findClass Yc.1.cls = some cell.cls := by
    obtain ⟨cell, h1, h2, h3, -⟩ := (B.2.1.2.2.2.2.2.2.2 i hi).1.kept a5.2.1
    exact ⟨cell, by rw [a1 (1000010 + i) (Or.inr (by omega))]; exact h1, h2, by rw [hC]; exact h3⟩
  refine zcall_end (Yc := Yc) (As := As) F B a1 a2 a3 a5 a6 (va_runV (As := As.map (zv ad)) (rest := rest.map (zv ad)) ⟨F.1, F.2.1, F.2.2.1, F.2.2.2.1, F.2.2.2.2.1⟩ (hc l ad) (cwV (bytes := Yc.2.1) (maxL := Yc.2.2.1) (ret := Yc.2.2.2) (C := Yc.1.cls) n F.2.2.2.2.1 (zG_of fun w hw => ?_) rfl rfl rfl ⟨rfl, w6⟩ ⟨hrm.1, hrm.2.1⟩) ⟨zPc_blind, hrv, fun U hU hW => ⟨rfl, by rw [hU]; exact a4, zBase_moved B a5 hU hW (fun i hi => a1 i (Or.inr hi))⟩⟩ rfl (by rw [List.length_map]; exact hn) a6.1 (zmapst ad As rest _) (lv_room (zrest ad hr)) hd ⟨hrm.2.2.1, hrm.2.2.2⟩)
  rcases List.mem_append.mp hw with q | q
  · simp only [List.mem_cons, List.not_mem_nil, or_false] at q
    rcases q with rfl | rfl | rfl | rfl
    · exact w1
    · exact w2
    · exact w3
    · exact w4
  · exact zIn_ws w5 w q
-- natives and Math
theorem S_objInit {a idx d mc ms : Nat} (w1 : Cond.methodLink Y.1.cls idx objectInit ∈ zT) (w2 : Cond.instanceMethod objectInit ∈ zT) (w3 : Cond.code objectInit ⟨#[0xb1]⟩ 1 none ∈ zT) (hr : (st.map fun v => v.category).sum ≤ 8) (hrm : rm = zrm (d + 1) mc ms) (hd : decode Y.2.1 pc = .ok (.invokespecial idx, 3)) (k : Sem C Q n0 Y rm (pc + 3) lv st h cl sl) : Sem C Q n0 Y rm pc lv (.ref a :: st) h cl sl := by
  intro ad0 p l e s m args below meth c F B ad H locs ls a1 a2 a3 a4 a5 a6
  have hz := zrest ad hr
  refine W.objInit F.1 F.2.1 F.2.2.2.1 (F.2.2.2.2.1 _ w1) (F.2.2.2.2.1 _ w2) (F.2.2.2.2.1 _ w3) rfl (a6.1.trans F.2.2.1.symm) rfl hd (by rw [hrm]; exact Nat.succ_le_succ (Nat.zero_le d)) ?_ (k ad0 p l e s m args below meth c F B ad H locs ls a1 a2 a3 a4 a5 a6)
  rw [hrm]
  show 2 * 0 + _ + 12 ≤ 40 * (d + 1)
  omega
theorem S_max {x y : Int32} {idx d mc ms : Nat} (w1 : Cond.methodLink Y.1.cls idx Lib.Math.max.name ∈ zT) (w2 : Cond.static Lib.Math.max.name ∈ zT) (w3 : Cond.initialized "java/lang/Math" ∈ zT) (w4 : Cond.code Lib.Math.max.name Lib.Math.max.code 2 (some .int) ∈ zT) (hr : (st.map fun v => v.category).sum ≤ 8) (hrm : rm = zrm (d + 1) mc ms) (hcs : cl ≤ mc ∧ sl ≤ ms) (hd : decode Y.2.1 pc = .ok (.invokestatic idx, 3)) (k : Sem C Q n0 Y rm (pc + 3) lv (.int (if x < y then y else x) :: st) h cl sl) : Sem C Q n0 Y rm pc lv (.int y :: .int x :: st) h cl sl := by
  intro ad0 p l e s m args below meth c F B ad H locs ls a1 a2 a3 a4 a5 a6
  have hz := zrest ad hr
  refine va_mmax F.1 F.2.1 (F.2.2.1.trans a6.1.symm) F.2.2.2.1 (F.2.2.2.2.1 _ w1) (F.2.2.2.2.1 _ w2) (F.2.2.2.2.1 _ w3) (F.2.2.2.2.1 _ w4) (by rw [hrm]; exact Nat.succ_le_succ (Nat.zero_le d)) ?_ (by rw [hrm]; exact hcs.1) (by rw [hrm]; exact hcs.2) hd (k ad0 p l e s m args below meth c F B ad H locs ls a1 a2 a3 a4 a5 a6)
  rw [hrm]
  show _ + 13 ≤ 40 * (d + 1)
  omega
theorem S_min {x y : Int32} {idx d mc ms : Nat} (w1 : Cond.methodLink Y.1.cls idx Lib.Math.min.name ∈ zT) (w2 : Cond.static Lib.Math.min.name ∈ zT) (w3 : Cond.initialized "java/lang/Math" ∈ zT) (w4 : Cond.code Lib.Math.min.name Lib.Math.min.code 2 (some .int) ∈ zT) (hr : (st.map fun v => v.category).sum ≤ 8) (hrm : rm = zrm (d + 1) mc ms) (hcs : cl ≤ mc ∧ sl ≤ ms) (hd : decode Y.2.1 pc = .ok (.invokestatic idx, 3)) (k : Sem C Q n0 Y rm (pc + 3) lv (.int (if y < x then y else x) :: st) h cl sl) : Sem C Q n0 Y rm pc lv (.int y :: .int x :: st) h cl sl := by
  intro ad0 p l e s m args below meth c F B ad H locs ls a1 a2 a3 a4 a5 a6
  have hz := zrest ad hr
  refine va_mmin F.1 F.2.1 (F.2.2.1.trans a6.1.symm) F.2.2.2.1 (F.2.2.2.2.1 _ w1) (F.2.2.2.2.1 _ w2) (F.2.2.2.2.1 _ w3) (F.2.2.2.2.1 _ w4) (by rw [hrm]; exact Nat.succ_le_succ (Nat.zero_le d)) ?_ (by rw [hrm]; exact hcs.1) (by rw [hrm]; exact hcs.2) hd (k ad0 p l e s m args below meth c F B ad H locs ls a1 a2 a3 a4 a5 a6)
  rw [hrm]
  show _ + 13 ≤ 40 * (d + 1)
  omega
/-- System.arraycopy, of ints and of longs -/
theorem S_copyI {a a0 n1 n2 : Nat} {sp dp n : Int32} {idx d mc ms : Nat} (w1 : Cond.methodLink Y.1.cls idx arraycopyName ∈ zT) (w2 : Cond.native arraycopyName ∈ zT) (w3 : Cond.static arraycopyName ∈ zT) (w4 : Cond.initialized "java/lang/System" ∈ zT) (hs0 : zs h a0 = (12, n1)) (hs1 : zs h a = (12, n2)) (h1 : ¬ sp < 0) (h2 : ¬ dp < 0) (h3 : ¬ n < 0) (h4 : sp.toNatClampNeg + n.toNatClampNeg ≤ n1) (h5 : dp.toNatClampNeg + n.toNatClampNeg ≤ n2) (hr : (st.map fun v => v.category).sum ≤ 8) (hrm : rm = zrm (d + 1) mc ms) (hd : decode Y.2.1 pc = .ok (.invokestatic idx, 3))
    (k : Sem C Q n0 Y rm (pc + 3) lv st (zrI h a (va_cpy (zI h a0) (zI h a) sp.toNatClampNeg dp.toNatClampNeg n.toNatClampNeg)) cl sl) : Sem C Q n0 Y rm pc lv (.int n :: .int dp :: .ref a :: .int sp :: .ref a0 :: st) h cl sl := by
  intro ad0 p l e s m args below meth c F B ad H locs ls a1 a2 a3 a4 a5 a6
  have hz := zrest ad hr
  refine va_copyi F.1 F.2.1 (F.2.2.1.trans a6.1.symm) F.2.2.2.1 (F.2.2.2.2.1 _ w1) (F.2.2.2.2.1 _ w2) (F.2.2.2.2.1 _ w3) (F.2.2.2.2.1 _ w4) B.1 a4.1 a4.2.1 a5 a0 a 0 0 (zat_i a4 hs0) (zat_i a4 hs1) rfl rfl rfl h1 h2 h3 h4 h5 (fun _ _ => rfl) (by rw [hrm]; exact Nat.succ_le_succ (Nat.zero_le d)) ?_ hd (fun H1 locs1 hP hD hS => k ad0 p l e s m args below meth c F B ad H1 locs1 ls a1 a2 a3 (zWd_set a4 rfl rfl ?_ (fun i hi => zcell_rI hi) hP hD) hS a6)
  · rw [hrm, show nativeFrameWords "java/lang/System" "arraycopy" 5 = 7 by decide +kernel]
    show _ + (7 + 11) ≤ 40 * (d + 1)
    omega
  · rw [zcell_i (h := zrI h a _) hs1, show zI (zrI h a _) a = _ from uR_s _ _ _]
theorem S_copyL {a a0 n1 n2 : Nat} {sp dp n : Int32} {idx d mc ms : Nat} (w1 : Cond.methodLink Y.1.cls idx arraycopyName ∈ zT) (w2 : Cond.native arraycopyName ∈ zT) (w3 : Cond.static arraycopyName ∈ zT) (w4 : Cond.initialized "java/lang/System" ∈ zT) (hs0 : zs h a0 = (13, n1)) (hs1 : zs h a = (13, n2)) (h1 : ¬ sp < 0) (h2 : ¬ dp < 0) (h3 : ¬ n < 0) (h4 : sp.toNatClampNeg + n.toNatClampNeg ≤ n1) (h5 : dp.toNatClampNeg + n.toNatClampNeg ≤ n2) (hr : (st.map fun v => v.category).sum ≤ 8) (hrm : rm = zrm (d + 1) mc ms) (hd : decode Y.2.1 pc = .ok (.invokestatic idx, 3))
    (k : Sem C Q n0 Y rm (pc + 3) lv st (zrL h a (va_cpy (zL h a0) (zL h a) sp.toNatClampNeg dp.toNatClampNeg n.toNatClampNeg)) cl sl) : Sem C Q n0 Y rm pc lv (.int n :: .int dp :: .ref a :: .int sp :: .ref a0 :: st) h cl sl := by
  intro ad0 p l e s m args below meth c F B ad H locs ls a1 a2 a3 a4 a5 a6
  have hz := zrest ad hr
  refine va_copyl F.1 F.2.1 (F.2.2.1.trans a6.1.symm) F.2.2.2.1 (F.2.2.2.2.1 _ w1) (F.2.2.2.2.1 _ w2) (F.2.2.2.2.1 _ w3) (F.2.2.2.2.1 _ w4) B.1 a4.1 a4.2.1 a5 a0 a 1 1 (zat_l a4 hs0) (zat_l a4 hs1) rfl rfl rfl h1 h2 h3 h4 h5 (fun _ _ => rfl) (by rw [hrm]; exact Nat.succ_le_succ (Nat.zero_le d)) ?_ hd (fun H1 locs1 hP hD hS => k ad0 p l e s m args below meth c F B ad H1 locs1 ls a1 a2 a3 (zWd_set a4 rfl rfl ?_ (fun i hi => zcell_rL hi) hP hD) hS a6)
  · rw [hrm, show nativeFrameWords "java/lang/System" "arraycopy" 5 = 7 by decide +kernel]
    show _ + (7 + 11) ≤ 40 * (d + 1)
    omega
  · rw [zcell_l (h := zrL h a _) hs1, show zL (zrL h a _) a = _ from uR_s _ _ _]
end ZC
section ZE
variable {C : zC} {Y : zY} {rm : Room} {pc : Nat} {lv : List (Nat × Value)} {h h0 : zH} {mc ms : Nat} {R : Option Value → zH → Prop}
theorem zQc_end {ad0 ad : Nat → Nat} {s t : State} {H : Heap} {locs : List Loc} {args : Array Value} {v : Option Value} (a1 : ∀ i, (i < zn h0 ∨ 1000000 ≤ i) → ad i = ad0 i) (a2 : mc = 0 → ad = ad0) (a3 : zn h0 ≤ zn h) (a4 : zWd C ad h H) (a5 : va_S (zA C) s.heap H locs) (hR : R v h) (ht : t.heap = H) : zQc C ad0 h0 mc R args s (.returned (v.map (zv ad))) t :=
  ⟨⟨v, h, ad, rfl, a2, a1, a3, by rw [ht]; exact a4, hR⟩, a5.F ht⟩
theorem S_ireti {x : Int32} (hret : Y.2.2.2 = some .int) (hd : decode Y.2.1 pc = .ok (.ireturn, 1)) (hR : R (some (.int x)) h) : Sem C (zQm C h0 mc ms R) (zn h0) Y rm pc lv [.int x] h mc ms :=
  fun ad0 p l e s m args below meth c F B ad H locs ls a1 a2 a3 a4 a5 a6 => W.iret F.1 F.2.1 (F.2.2.2.2.2.1.trans hret) (fun t ht hW => zQc_end (v := some (.int x)) a1 a2 a3 a4 a5 hR ht) a5.2.2 hd F.2.2.2.2.2.2.1
theorem S_iretz {x : Int32} (hret : Y.2.2.2 = some .boolean) (hx : x = 0 ∨ x = 1) (hd : decode Y.2.1 pc = .ok (.ireturn, 1)) (hR : R (some (.int x)) h) : Sem C (zQm C h0 mc ms R) (zn h0) Y rm pc lv [.int x] h mc ms :=
  fun ad0 p l e s m args below meth c F B ad H locs ls a1 a2 a3 a4 a5 a6 => W.zret F.1 F.2.1 (F.2.2.2.2.2.1.trans hret) (by rcases hx with rfl | rfl <;> rfl) (fun t ht hW => zQc_end (v := some (.int x)) a1 a2 a3 a4 a5 hR ht) a5.2.2 hd F.2.2.2.2.2.2.1
theorem S_iretn {x : Int32} {ty : FieldType} (hret : Y.2.2.2 = some ty) (hx : narrow ty (.int x) = .int x) (hd : decode Y.2.1 pc = .ok (.ireturn, 1)) (hR : R (some (.int x)) h) : Sem C (zQm C h0 mc ms R) (zn h0) Y rm pc lv [.int x] h mc ms :=
  fun ad0 p l e s m args below meth c F B ad H locs ls a1 a2 a3 a4 a5 a6 => W.zret F.1 F.2.1 (F.2.2.2.2.2.1.trans hret) hx (fun t ht hW => zQc_end (v := some (.int x)) a1 a2 a3 a4 a5 hR ht) a5.2.2 hd F.2.2.2.2.2.2.1
theorem S_lret {x : Int64} (hret : Y.2.2.2 = some .long) (hd : decode Y.2.1 pc = .ok (.lreturn, 1)) (hR : R (some (.long x)) h) : Sem C (zQm C h0 mc ms R) (zn h0) Y rm pc lv [.long x] h mc ms :=
  fun ad0 p l e s m args below meth c F B ad H locs ls a1 a2 a3 a4 a5 a6 => W.lret F.1 F.2.1 (F.2.2.2.2.2.1.trans hret) (fun t ht hW => zQc_end (v := some (.long x)) a1 a2 a3 a4 a5 hR ht) a5.2.2 hd F.2.2.2.2.2.2.1
theorem S_aret {a : Nat} {rt : FieldType} (hret : Y.2.2.2 = some rt) (hrt : (∃ n, rt = .object n) ∨ ∃ t, rt = .array t) (hd : decode Y.2.1 pc = .ok (.areturn, 1)) (hR : R (some (.ref a)) h) : Sem C (zQm C h0 mc ms R) (zn h0) Y rm pc lv [.ref a] h mc ms :=
  fun ad0 p l e s m args below meth c F B ad H locs ls a1 a2 a3 a4 a5 a6 => W.aret F.1 F.2.1 (F.2.2.2.2.2.1.trans hret) hrt (Or.inr ⟨_, rfl⟩) (fun t ht hW => zQc_end (v := some (.ref a)) a1 a2 a3 a4 a5 hR ht) a5.2.2 hd F.2.2.2.2.2.2.1
theorem S_vret (hret : Y.2.2.2 = none) (hd : decode Y.2.1 pc = .ok (.return_, 1)) (hR : R none h) : Sem C (zQm C h0 mc ms R) (zn h0) Y rm pc lv [] h mc ms :=
  fun ad0 p l e s m args below meth c F B ad H locs ls a1 a2 a3 a4 a5 a6 => W.vret F.1 F.2.1 (F.2.2.2.2.2.1.trans hret) (fun t ht hW => zQc_end (v := none) a1 a2 a3 a4 a5 hR ht) a5.2.2 hd F.2.2.2.2.2.2.1
end ZE
