/-! THE LAYER: an abstract heap of numbered objects (shape; ints; longs; fixed references; references that change), and what the machine does over it -/
def zT : List Cond := lw_tbl.filter goodWord
theorem zT_tb (i : Nat) {w : Cond} (h : tables_1[i]? = some w) (hg : goodWord w = true) : w ∈ zT := List.mem_filter.mpr ⟨List.mem_append_right _ (List.mem_of_getElem? h), hg⟩
theorem zT_sl (i : Nat) {w : Cond} (h : (k2_sels lw_privs)[i]? = some w) (hg : goodWord w = true) : w ∈ zT := List.mem_filter.mpr ⟨List.mem_append_left _ (List.mem_of_getElem? h), hg⟩
theorem zT_tn (i : Nat) {w : Cond} (h : tables_1[i]? = some w) : w ∈ lw_tbl := List.mem_append_right _ (List.mem_of_getElem? h)
abbrev zY : Type := MethodName × ByteArray × Nat × Option FieldType
def zcode (Y : zY) : Cond := .code Y.1 Y.2.1 Y.2.2.1 Y.2.2.2
def zWs (Y : zY) : List Cond := zcode Y :: zT
theorem zGood {Y : zY} (h : zcode Y ∈ zT) : GoodIn zT (zWs Y) := by
  intro w hw
  have hm : w ∈ zT := by
    rcases List.mem_cons.mp hw with e | e
    · rw [e]; exact h
    · exact e
  exact ⟨hm, good_of_word (List.mem_filter.mp hm).2⟩
/-- the classes -/
def zR : Nat → String := fun k => match k with
  | 0 => RX0 | 1 => RX1 | 2 => RX2 | 3 => RX3 | 4 => RX4 | 5 => RX5 | 6 => RX6 | 7 => RX7 | 8 => RX8 | 9 => RX9 | 10 => RX10 | _ => RX11
def zTt : Nat → u_T := fun k => match k with
  | 0 => TX0 | 1 => TX1 | 2 => TX2 | 3 => TX3 | 4 => TX4 | 5 => TX5 | 6 => TX6 | 7 => TX7 | 8 => TX8 | 9 => TX9 | 10 => TX10 | _ => TX11
def zN : Nat → Nat := fun k => match k with
  | 0 => 7 | 1 => 3 | 2 => 9 | 3 => 6 | 4 => 3 | 5 => 2 | 6 => 2 | 7 => 3 | 8 => 2 | 9 => 3 | 10 => 13 | _ => 46
def zty : Nat → Nat → FieldType := fun k => match k with
  | 0 => tyX0 | 1 => tyX1 | 2 => tyX2 | 3 => tyX3 | 4 => tyX4 | 5 => tyX5 | 6 => tyX6 | 7 => tyX7 | 8 => tyX8 | 9 => tyX9 | 10 => tyX10 | _ => tyX11
def zcls : List vw_C := [(RX0, TX0, 7), (RX1, TX1, 3), (RX2, TX2, 9), (RX3, TX3, 6), (RX4, TX4, 3), (RX5, TX5, 2), (RX6, TX6, 2), (RX7, TX7, 3), (RX8, TX8, 2), (RX9, TX9, 3), (RX10, TX10, 13), (RX11, TX11, 46)]
theorem z12 {P : Nat → Prop} (h0 : P 0) (h1 : P 1) (h2 : P 2) (h3 : P 3) (h4 : P 4) (h5 : P 5) (h6 : P 6) (h7 : P 7) (h8 : P 8) (h9 : P 9) (h10 : P 10) (h11 : P 11) : ∀ ci, ci < 12 → P ci := by
  intro ci h
  match ci, h with
  | 0, _ => exact h0
  | 1, _ => exact h1
  | 2, _ => exact h2
  | 3, _ => exact h3
  | 4, _ => exact h4
  | 5, _ => exact h5
  | 6, _ => exact h6
  | 7, _ => exact h7
  | 8, _ => exact h8
  | 9, _ => exact h9
  | 10, _ => exact h10
  | 11, _ => exact h11
  | n + 12, h => exact absurd h (by omega)
theorem zcls_at : ∀ ci, ci < 12 → zcls[ci]? = some (zR ci, zTt ci, zN ci) := z12 rfl rfl rfl rfl rfl rfl rfl rfl rfl rfl rfl rfl
theorem zty_ok : ∀ ci, ci < 12 → ∀ k, k < zN ci → parseFieldDescriptor (zTt ci k).2.2.1 = some (zty ci k) := z12 tyX0_ok tyX1_ok tyX2_ok tyX3_ok tyX4_ok tyX5_ok tyX6_ok tyX7_ok tyX8_ok tyX9_ok tyX10_ok tyX11_ok
theorem znm : ∀ ci, ci < 12 → ∀ a, a < zN ci → ∀ b, b < zN ci → a ≠ b → (zTt ci a).2.1 ≠ (zTt ci b).2.1 := z12 nmX0 nmX1 nmX2 nmX3 nmX4 nmX5 nmX6 nmX7 nmX8 nmX9 nmX10 nmX11
/-- 0: ints and booleans; 1: longs; 3: references that change (an Inn's house, a Lure's inn and guest); 2: the others -/
def zf (ci j : Nat) : Nat := match zty ci j with
  | .int => 0
  | .boolean => 0
  | .long => 1
  | _ => if ci = 2 ∧ (zTt 2 j).2.1 = "house" then 3 else if ci = 3 ∧ ((zTt 3 j).2.1 = "inn" ∨ (zTt 3 j).2.1 = "guest") then 3 else 2
def ztys (cs : Nat → ClassId) : List (ClassId × FieldType) := [(cs 0, .int), (cs 1, .long), (cs 2, .boolean), (cs 3, .array .int), (cs 4, .object RX0), (cs 5, .object RX1), (cs 6, .object RX3), (cs 7, .object RX9)]
/-- number of objects, shapes (kind, size), ints, longs, fixed references, changing references -/
abbrev zH : Type := Nat × (Nat → Nat × Nat) × (Nat → Nat → Int32) × (Nat → Nat → Int64) × (Nat → Nat → Option Nat) × (Nat → Nat → Option Nat)
def zn (h : zH) : Nat := h.1
def zs (h : zH) : Nat → Nat × Nat := h.2.1
def zI (h : zH) : Nat → Nat → Int32 := h.2.2.1
def zL (h : zH) : Nat → Nat → Int64 := h.2.2.2.1
def zP (h : zH) : Nat → Nat → Option Nat := h.2.2.2.2.1
def zM (h : zH) : Nat → Nat → Option Nat := h.2.2.2.2.2
def u2 {α : Type} (f : Nat → Nat → α) (a j : Nat) (v : α) : Nat → Nat → α := fun b i => if b = a then (if i = j then v else f b i) else f b i
def uR {α : Type} (f : Nat → Nat → α) (a : Nat) (r : Nat → α) : Nat → Nat → α := fun b i => if b = a then r i else f b i
def zsI (h : zH) (a j : Nat) (v : Int32) : zH := (h.1, h.2.1, u2 h.2.2.1 a j v, h.2.2.2)
def zsL (h : zH) (a j : Nat) (v : Int64) : zH := (h.1, h.2.1, h.2.2.1, u2 h.2.2.2.1 a j v, h.2.2.2.2)
def zsP (h : zH) (a j : Nat) (v : Option Nat) : zH := (h.1, h.2.1, h.2.2.1, h.2.2.2.1, u2 h.2.2.2.2.1 a j v, h.2.2.2.2.2)
def zsM (h : zH) (a j : Nat) (v : Option Nat) : zH := (h.1, h.2.1, h.2.2.1, h.2.2.2.1, h.2.2.2.2.1, u2 h.2.2.2.2.2 a j v)
def zrI (h : zH) (a : Nat) (r : Nat → Int32) : zH := (h.1, h.2.1, uR h.2.2.1 a r, h.2.2.2)
def zrL (h : zH) (a : Nat) (r : Nat → Int64) : zH := (h.1, h.2.1, h.2.2.1, uR h.2.2.2.1 a r, h.2.2.2.2)
/-- a new object at the end: of kind k and size n, all 0 -/
def zadd (h : zH) (k n : Nat) : zH := (h.1 + 1, va_up h.2.1 h.1 (k, n), uR h.2.2.1 h.1 (fun _ => 0), uR h.2.2.2.1 h.1 (fun _ => 0), uR h.2.2.2.2.1 h.1 (fun _ => none), uR h.2.2.2.2.2 h.1 (fun _ => none))
theorem u2_s {α : Type} (f : Nat → Nat → α) (a j : Nat) (v : α) : u2 f a j v a = fun i => if i = j then v else f a i := by funext i; simp [u2]
theorem u2_o {α : Type} (f : Nat → Nat → α) {a b : Nat} (j : Nat) (v : α) (h : b ≠ a) : u2 f a j v b = f b := by funext i; simp [u2, h]
theorem uR_s {α : Type} (f : Nat → Nat → α) (a : Nat) (r : Nat → α) : uR f a r a = r := by funext i; simp [uR]
theorem uR_o {α : Type} (f : Nat → Nat → α) {a b : Nat} (r : Nat → α) (h : b ≠ a) : uR f a r b = f b := by funext i; simp [uR, h]
def zv (ad : Nat → Nat) : Value → Value
  | .ref k => .ref (ad k)
  | v => v
def zl (ad : Nat → Nat) (q : Nat × Value) : Nat × Value := (q.1, zv ad q.2)
theorem zv_cat (ad : Nat → Nat) (v : Value) : (zv ad v).category = v.category := by cases v <;> rfl
def zfv (ad : Nat → Nat) (h : zH) (a ci j : Nat) : Value := match zf ci j with
  | 0 => .int (zI h a j)
  | 1 => .long (zL h a j)
  | 2 => va_rf ((zP h a j).map ad)
  | _ => va_rf ((zM h a j).map ad)
def zcell (cs : Nat → ClassId) (ad : Nat → Nat) (h : zH) (a : Nat) : va_E := match (zs h a).1 with
  | 12 => .inl (cs 0, (zs h a).2, .inl (zI h a))
  | 13 => .inl (cs 1, (zs h a).2, .inr (.inl (zL h a)))
  | 14 => .inl (cs 2, (zs h a).2, .inl (zI h a))
  | 15 => .inl (cs 3, (zs h a).2, .inr (.inr (.inr (.inr (fun j => (zP h a j).map ad)))))
  | 16 => .inl (cs 4, (zs h a).2, .inr (.inr (.inr (.inr (fun j => (zP h a j).map ad)))))
  | 17 => .inl (cs 5, (zs h a).2, .inr (.inr (.inr (.inr (fun j => (zP h a j).map ad)))))
  | 18 => .inl (cs 6, (zs h a).2, .inr (.inr (.inr (.inr (fun j => (zP h a j).map ad)))))
  | 19 => .inl (cs 7, (zs h a).2, .inr (.inr (.inr (.inr (fun j => (zP h a j).map ad)))))
  | ci => .inr (ci, (List.range (zN ci)).map (zfv ad h a ci))
theorem zcell_o {cs : Nat → ClassId} {ad : Nat → Nat} {h : zH} {a ci n : Nat} (hs : zs h a = (ci, n)) (hc : ci < 12) : zcell cs ad h a = .inr (ci, (List.range (zN ci)).map (zfv ad h a ci)) := by
  unfold zcell
  rw [hs]
  match ci, hc with
  | 0, _ => rfl
  | 1, _ => rfl
  | 2, _ => rfl
  | 3, _ => rfl
  | 4, _ => rfl
  | 5, _ => rfl
  | 6, _ => rfl
  | 7, _ => rfl
  | 8, _ => rfl
  | 9, _ => rfl
  | 10, _ => rfl
  | 11, _ => rfl
  | n + 12, h => exact absurd h (by omega)
theorem zcell_i {cs : Nat → ClassId} {ad : Nat → Nat} {h : zH} {a n : Nat} (hs : zs h a = (12, n)) : zcell cs ad h a = .inl (cs 0, n, .inl (zI h a)) := by unfold zcell; rw [hs]; rfl
theorem zcell_l {cs : Nat → ClassId} {ad : Nat → Nat} {h : zH} {a n : Nat} (hs : zs h a = (13, n)) : zcell cs ad h a = .inl (cs 1, n, .inr (.inl (zL h a))) := by unfold zcell; rw [hs]; rfl
theorem zcell_z {cs : Nat → ClassId} {ad : Nat → Nat} {h : zH} {a n : Nat} (hs : zs h a = (14, n)) : zcell cs ad h a = .inl (cs 2, n, .inl (zI h a)) := by unfold zcell; rw [hs]; rfl
theorem zcell_q {cs : Nat → ClassId} {ad : Nat → Nat} {h : zH} {a n k : Nat} (hs : zs h a = (15 + k, n)) (hk : k < 5) : zcell cs ad h a = .inl (cs (3 + k), n, .inr (.inr (.inr (.inr (fun j => (zP h a j).map ad))))) := by
  unfold zcell
  rw [hs]
  match k, hk with
  | 0, _ => rfl
  | 1, _ => rfl
  | 2, _ => rfl
  | 3, _ => rfl
  | 4, _ => rfl
  | n + 5, h => exact absurd h (by omega)
theorem zcell_eq {cs : Nat → ClassId} {ad : Nat → Nat} {h h' : zH} {a : Nat} (e1 : zs h' a = zs h a) (e2 : zI h' a = zI h a) (e3 : zL h' a = zL h a) (e4 : zP h' a = zP h a) (e5 : zM h' a = zM h a) : zcell cs ad h' a = zcell cs ad h a := by
  have e6 : ∀ ci, zfv ad h' a ci = zfv ad h a ci := fun ci => by
    funext j
    unfold zfv
    rw [e2, e3, e4, e5]
  unfold zcell
  rw [e1, e2, e3, e4]
  simp only [e6]
def zws (cs : Nat → ClassId) (ad : Nat → Nat) (h : zH) : va_W := (List.range (zn h)).map (fun i => (ad i, zcell cs ad h i))
theorem zws_at {cs : Nat → ClassId} {ad : Nat → Nat} {h : zH} {a : Nat} (ha : a < zn h) : (zws cs ad h)[a]? = some (ad a, zcell cs ad h a) := by simp [zws, ha]
theorem zws_set {cs : Nat → ClassId} {ad : Nat → Nat} {h h' : zH} {a : Nat} {e : va_E} (hn : zn h' = zn h) (he : zcell cs ad h' a = e) (ho : ∀ i, i ≠ a → zcell cs ad h' i = zcell cs ad h i) : (zws cs ad h).set a (ad a, e) = zws cs ad h' := by
  apply List.ext_getElem?
  intro i
  rw [List.getElem?_set]
  by_cases hi : i = a
  · subst hi
    by_cases hl : i < zn h
    · simp [zws, hl, hn, he]
    · simp [zws, hl, hn]
  · rw [if_neg (fun q => hi q.symm)]
    by_cases hl : i < zn h
    · simp [zws, hl, hn, ho i hi]
    · simp [zws, hl, hn]
theorem zws_add {cs : Nat → ClassId} {ad : Nat → Nat} {h h' : zH} {q : Nat} {e : va_E} (hn : zn h' = zn h + 1) (hz : ∀ i, i < zn h → zP h i = zP h' i) (he : zcell cs (va_up ad (zn h) q) h' (zn h) = e) (ho : ∀ i, i < zn h → zcell cs (va_up ad (zn h) q) h' i = zcell cs ad h i) : zws cs ad h ++ [(q, e)] = zws cs (va_up ad (zn h) q) h' := by
  unfold zws
  rw [hn, List.range_succ, List.map_append]
  congr 1
  · apply List.map_congr_left
    intro i hi
    have hl := List.mem_range.mp hi
    rw [ho i hl]
    simp [va_up, Nat.ne_of_lt hl]
  · simp [va_up, he]
/-- the launch's base heap; the classes; the arrays' classes; the script -/
abbrev zC : Type := Heap × va_G × (Nat → ClassId) × Nat × (Nat → Int32)
def zA (C : zC) : Nat → Prop := fun q => C.1.size ≤ q
def zWd (C : zC) (ad : Nat → Nat) (h : zH) (H : Heap) : Prop :=
  va_P C.2.1 zcls (zws C.2.2.1 ad h) H ∧ va_D (zA C) (zws C.2.2.1 ad h) ∧ zn h ≤ 1000000 ∧ ∀ a, a < zn h ∨ zs h a = (99, 0)
def zAbove : List Int32 := [-1, 0, 0, 0, 1, 2, 3]
def zBodies : List Int32 := [10, 11, 12, 0, 20, 0, 30, 0, 0, 0, 0, 40, 50, 51, 0, 0, 0, 60, 71, 70, 0]
def zsTx : List String := ["fancy ", "leave ", "keep ", "pkvxwn", "<=>", "fancy ", "leave ", "keep ", "pkvxwn", "<=>"]
def zsOw : List String := [RX4, RX4, RX4, RX4, RX4, RX11, RX11, RX11, RX11, RX11]
def zsIx : List Nat := [39, 41, 43, 74, 80, 205, 211, 213, 174, 179]
def zsBy : List (List Int32) := [[102, 97, 110, 99, 121, 32], [108, 101, 97, 118, 101, 32], [107, 101, 101, 112, 32], [112, 107, 118, 120, 119, 110], [60, 61, 62], [102, 97, 110, 99, 121, 32], [108, 101, 97, 118, 101, 32], [107, 101, 101, 112, 32], [112, 107, 118, 120, 119, 110], [60, 61, 62]]
/-- what stands before the law begins: the two tables, the script, String's and Preconditions' statics, the ten literals -/
def zOld (C : zC) (ad : Nat → Nat) (U : State) (H : Heap) : Prop :=
  va_Z "InnPurposes" "ABOVE" "[I" (.ref (ad 1000000)) (zA C) U H ∧ va_T .int (ad 1000000) 7 (fun j => .int (zAbove.getD j 0)) (zA C) U H ∧
  va_Z "InnPurposes" "BODIES" "[I" (.ref (ad 1000001)) (zA C) U H ∧ va_T .int (ad 1000001) 21 (fun j => .int (zBodies.getD j 0)) (zA C) U H ∧
  va_T .int (ad 1000002) C.2.2.2.1 (fun j => .int (C.2.2.2.2 j)) (zA C) U H ∧
  va_Z "java/lang/String" "COMPACT_STRINGS" "Z" (.int 1) (zA C) U H ∧
  (va_Z "jdk/internal/util/Preconditions" "SIOOBE_FORMATTER" "Ljava/util/function/BiFunction;" .null (zA C) U H ∨ va_Z "jdk/internal/util/Preconditions" "SIOOBE_FORMATTER" "Ljava/util/function/BiFunction;" (.ref (ad 1000003)) (zA C) U H) ∧
  (∀ i, i < 10 → va_O "java/lang/String" (ad (1000010 + i)) (zA C) U H ∧ va_OF "java/lang/String" "coder" "B" (.int 0) (ad (1000010 + i)) (zA C) U H ∧ va_OF "java/lang/String" "value" "[B" (.ref (ad (1000030 + i))) (ad (1000010 + i)) (zA C) U H ∧ va_T .byte (ad (1000030 + i)) (zsBy.getD i []).length (fun j => .int ((zsBy.getD i []).getD j 0)) (zA C) U H)
def zStr (ad : Nat → Nat) (U : State) : Prop := ∀ i, i < 10 → vk_R (zsOw.getD i "") (zsIx.getD i 0) (zsTx.getD i "") (ad (1000010 + i)) U
/-- links between nest mates, arrays over classes: words that a call doesn't carry -/
def zNst (U : State) : Prop := (∀ a i x h, Cond.methodLinkNest a i x h ∈ lw_tbl → va_Nw (.methodLinkNest a i x h) U) ∧ (∀ a i b n d h, Cond.fieldLinkNest a i b n d h ∈ lw_tbl → va_Nw (.fieldLinkNest a i b n d h) U) ∧ (∀ C, Cond.arrayOver (.object C) ∈ lw_tbl → va_AO C U) ∧ (Cond.arrayOver (.array .int)).before #[] U = true
def zfi (vm : Vm) (comp : ClassId) : Option Nat := vm.classes.findIdx? fun (x : Class) => match x.kind with | .array component _ => component == comp | _ => false
theorem zfi_bare (vm : Vm) (comp : ClassId) : zfi vm.bare comp = zfi vm comp := by
  unfold zfi
  simp only [Vm.bare, Array.findIdx?_map]
  rfl
theorem zAOI_moved {u U : State} (hvm : u.vm.Alike U.vm) (h : (Cond.arrayOver (.array .int)).before #[] u = true) : (Cond.arrayOver (.array .int)).before #[] U = true := by
  obtain ⟨comp, c, k, h1, h2, h3, h4, h5⟩ := arrayOverA_spec h
  obtain ⟨k', hk', he⟩ := hvm.2.2 _ _ h3
  have hi : zfi U.vm comp = some c := by
    rw [← zfi_bare]
    first | rw [hvm.bare_eq] | rw [← hvm.bare_eq]
    rw [zfi_bare]
    exact h2
  have hkind : k'.kind = .array comp (.array .int) := by rw [he]; exact h4
  have f1 : U.vm.findClass (FieldType.array .int).toString = some comp := by rw [hvm.findClass]; exact h1
  have f2 : U.vm.findClass ("[" ++ (FieldType.array .int).toString) = some c := by rw [hvm.findClass]; exact h5
  unfold Cond.before Cond.holds
  simp only [Cond.value]
  rw [f1, Option.bind_some]
  refine (congrArg (fun o : Option Nat => (o.bind (fun c => (U.vm.classes[c]?).map fun (k : Class) => match k.kind with | .array _ ty => decide (ty = FieldType.array .int) && decide (U.vm.findClass ("[" ++ (FieldType.array .int).toString) = some c) | _ => false) == some true)) hi).trans ?_
  simp [hk', hkind, f2]
theorem zNst_warm {s U : State} (hW : s.WarmedH U.vm) (h : zNst s) : zNst U := ⟨fun a i x n hm => (h.1 a i x n hm).warmM hW, fun a i b n d q hm => (h.2.1 a i b n d q hm).warmF hW, fun C hm => (h.2.2.1 C hm).moved hW.alike, zAOI_moved hW.alike h.2.2.2⟩
theorem zNst_same {s U : State} (hv : s.vm = U.vm) (h : zNst s) : zNst U := ⟨fun a i x n hm => (h.1 a i x n hm).same rfl hv, fun a i b n d q hm => (h.2.1 a i b n d q hm).same rfl hv, fun C hm => (h.2.2.1 C hm).moved (by rw [hv]; exact Vm.Alike.refl _), zAOI_moved (by rw [hv]; exact Vm.Alike.refl _) h.2.2.2⟩
def zBase (C : zC) (ad : Nat → Nat) (s : State) : Prop := va_K C.2.1 zcls (ztys C.2.2.1) s ∧ zOld C ad s s.heap ∧ zStr ad s ∧ C.1.size ≤ s.heap.size ∧ zNst s
theorem zOld_moved {C : zC} {ad : Nat → Nat} {u U : State} {H : Heap} (hvm : u.vm.Alike U.vm) (h : zOld C ad u H) : zOld C ad U H := by
  obtain ⟨h1, h2, h3, h4, h5, h6, h7, h8⟩ := h
  exact ⟨h1.moved hvm, h2.moved hvm, h3.moved hvm, h4.moved hvm, h5.moved hvm, h6.moved hvm, h7.imp (fun q => q.moved hvm) (fun q => q.moved hvm), fun i hi => ⟨(h8 i hi).1.moved hvm, (h8 i hi).2.1.moved hvm, (h8 i hi).2.2.1.moved hvm, (h8 i hi).2.2.2.moved hvm⟩⟩
theorem zOld_kept {C : zC} {ad : Nat → Nat} {U : State} {H H1 : Heap} (h : zOld C ad U H) (hq : ∀ a : Nat, a < H.size → ¬ zA C a → H1[a]? = H[a]?) : zOld C ad U H1 := by
  obtain ⟨h1, h2, h3, h4, h5, h6, h7, h8⟩ := h
  exact ⟨h1.kept hq, h2.kept hq, h3.kept hq, h4.kept hq, h5.kept hq, h6.kept hq, h7.imp (fun q => q.kept hq) (fun q => q.kept hq), fun i hi => ⟨(h8 i hi).1.kept hq, (h8 i hi).2.1.kept hq, (h8 i hi).2.2.1.kept hq, (h8 i hi).2.2.2.kept hq⟩⟩
theorem zOld_ad {C : zC} {ad ad' : Nat → Nat} {U : State} {H : Heap} (h : zOld C ad U H) (he : ∀ i, 1000000 ≤ i → ad' i = ad i) : zOld C ad' U H := by
  obtain ⟨h1, h2, h3, h4, h5, h6, h7, h8⟩ := h
  refine ⟨?_, ?_, ?_, ?_, ?_, h6, ?_, fun i hi => ?_⟩
  · rw [he 1000000 (by omega)]; exact h1
  · rw [he 1000000 (by omega)]; exact h2
  · rw [he 1000001 (by omega)]; exact h3
  · rw [he 1000001 (by omega)]; exact h4
  · rw [he 1000002 (by omega)]; exact h5
  · rw [he 1000003 (by omega)]; exact h7
  · rw [he (1000010 + i) (by omega), he (1000030 + i) (by omega)]; exact h8 i hi
theorem zBase_moved {C : zC} {ad ad' : Nat → Nat} {s U : State} {H : Heap} {locs : List Loc} (h : zBase C ad s) (hS : va_S (zA C) s.heap H locs) (hU : U.heap = H) (hW : s.WarmedH U.vm) (he : ∀ i, 1000000 ≤ i → ad' i = ad i) : zBase C ad' U := by
  obtain ⟨h1, h2, h3, h4, h5⟩ := h
  refine ⟨va_K.moved hW.alike h1, ?_, fun i hi => ?_, ?_, zNst_warm hW h5⟩
  · rw [hU]
    exact zOld_ad (zOld_kept (zOld_moved hW.alike h2) hS.2.1) he
  · rw [he (1000010 + i) (by omega)]
    exact (h3 i hi).warm hW
  · rw [hU]
    exact Nat.le_trans h4 hS.1
theorem zBase_calling {C : zC} {ad : Nat → Nat} {U : State} {g : JFrame} {mk : MethodId} {a : Array Value} (h : zBase C ad U) : zBase C ad (U.calling g mk a) := by
  obtain ⟨h1, h2, h3, h4, h5⟩ := h
  exact ⟨va_K.moved (u := U) (U := U.calling g mk a) (Vm.Alike.refl U.vm) h1, zOld_moved (u := U) (U := U.calling g mk a) (Vm.Alike.refl U.vm) h2, fun i hi => (h3 i hi).same rfl, h4, zNst_same (s := U) (U := U.calling g mk a) rfl h5⟩
def zPc (C : zC) (ad : Nat → Nat) (av : List Value) (h : zH) : Array Value → State → Prop := fun a U => a = (av.map (zv ad)).toArray ∧ zWd C ad h U.heap ∧ zBase C ad U
def zQc (C : zC) (ad : Nat → Nat) (h : zH) (mc : Nat) (R : Option Value → zH → Prop) : Array Value → State → Outcome → State → Prop := fun _ st o t =>
  (∃ (v : Option Value) (h' : zH) (ad' : Nat → Nat), o = .returned (v.map (zv ad')) ∧ (mc = 0 → ad' = ad) ∧ (∀ i, (i < zn h ∨ 1000000 ≤ i) → ad' i = ad i) ∧ zn h ≤ zn h' ∧ zWd C ad' h' t.heap ∧ R v h') ∧ va_F (zA C) st t
def zrm (d mc ms : Nat) : Room := { frames := d, cells := mc, slots := ms, locals := 40 * d }
/-- METHOD Y, called over av and h: it returns with R -/
def CallSem (C : zC) (Y : zY) (d mc ms : Nat) (av : List Value) (h : zH) (R : Option Value → zH → Prop) : Prop :=
  ∀ (l : Launch) (ad : Nat → Nat), Met l Y.1 (zWs Y) (zrm d mc ms) (zPc C ad av h) (zQc C ad h mc R) mc ms (zA C)
abbrev zQ : Type := (Nat → Nat) → List Frame → Array Value → State → State → Prop
def zFix (Y : zY) (p : Program) (s : State) (m : MethodId) (args : Array Value) (meth : Method) (c : Code) : Prop :=
  p.tables.exec = Jvm.exec ∧ c.code = Y.2.1 ∧ c.maxLocals = Y.2.2.1 ∧ s.vm.findClass Y.1.cls = some m.cls ∧ (∀ w ∈ zT, w.before args s = true) ∧ meth.sig.returnType = Y.2.2.2 ∧ meth.locks = false ∧ meth.name = Y.1.name
/-- inside method Y, at pc: it comes to Q -/
def Sem (C : zC) (Q : zQ) (n0 : Nat) (Y : zY) (rm : Room) (pc : Nat) (lv : List (Nat × Value)) (st : List Value) (h : zH) (cl sl : Nat) : Prop :=
  ∀ (ad0 : Nat → Nat) (p : Program) (l : Launch) (e : Env) (s : State) (m : MethodId) (args : Array Value) (below : List Frame) (meth : Method) (c : Code), zFix Y p s m args meth c → zBase C ad0 s →
    ∀ (ad : Nat → Nat) (H : Heap) (locs : List Loc) (ls : Array Slot), (∀ i, (i < n0 ∨ 1000000 ≤ i) → ad i = ad0 i) → (cl = 0 → ad = ad0) → n0 ≤ zn h → zWd C ad h H → va_S (zA C) s.heap H locs → lv_has ls Y.2.2.1 (lv.map (zl ad)) →
      W p l e rm s m args below meth c H locs cl sl (Q ad0 below args s) (F0 m pc ls (st.map (zv ad)))
def zQm (C : zC) (h0 : zH) (mc ms : Nat) (R : Option Value → zH → Prop) : zQ := fun ad0 below args s => MQ below (zQc C ad0 h0 mc R) args s mc ms (zA C)
theorem lv_args_zv (ad : Nat → Nat) : ∀ (av : List Value) (k : Nat), lv_args k (av.map (zv ad)) = (lv_args k av).map (zl ad)
  | [], k => rfl
  | v :: vs, k => by
    show (k, zv ad v) :: lv_args (if (zv ad v).category = 2 then k + 2 else k + 1) (vs.map (zv ad)) = (k, zv ad v) :: (lv_args (if v.category = 2 then k + 2 else k + 1) vs).map (zl ad)
    rw [zv_cat, lv_args_zv ad vs]
theorem lg_sl_len (ad : Nat → Nat) (av : List Value) : (lg_sl (av.map (zv ad))).length = (lg_sl av).length := by
  induction av with
  | nil => rfl
  | cons v vs ih =>
    have e : ∀ (w : Value) (ws : List Value), (lg_sl (w :: ws)).length = (if w.category = 2 then 2 else 1) + (lg_sl ws).length := fun w ws => by
      unfold lg_sl
      rw [List.flatMap_cons, List.length_append]
      split <;> rfl
    show (lg_sl (zv ad v :: vs.map (zv ad))).length = _
    rw [e, e, ih, zv_cat]
theorem S_enter {C : zC} {Y : zY} {d mc ms : Nat} {av : List Value} {h : zH} {R : Option Value → zH → Prop} (hY : plainName Y.1.cls = true) (hl : (lg_sl av).length ≤ Y.2.2.1)
    (k : Sem C (zQm C h mc ms R) (zn h) Y (zrm d mc ms) 0 (lv_args 0 av) [] h 0 0) : CallSem C Y d mc ms av h R := by
  intro l ad
  refine Met.ofW (cc := Y.2.1) (maxL := Y.2.2.1) (ret := Y.2.2.2) hY rfl ?_
  intro p e s m args below meth c s₁ B hml hv
  obtain ⟨rfl, hWd, hBs⟩ := hv
  have hts := atoms_spec (ws := zWs Y) B.pre
  rw [lg_entry_eq]
  refine k ad p l e s m _ below meth c ⟨B.exec, B.bytes, hml, findClass_of_methodNamed B.named, fun w hw => hts w (List.mem_cons_of_mem _ hw), B.returns, B.notSynchronized, (name_of_methodNamed B.named B.method).1⟩ hBs ad s.heap [] _ (fun _ _ => rfl) (fun _ => rfl) (Nat.le_refl _) hWd va_S.rf ?_
  rw [← lv_args_zv]
  exact lv_entry _ (by rw [lg_sl_len]; exact hl)
