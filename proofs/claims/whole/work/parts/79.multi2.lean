/-! int[n][k]: the rule -/
section WM
variable {p : Program} {l : Launch} {e : Env} {R : Room} {s : State} {m : MethodId} {args : Array Value} {below : List Frame} {meth : Method} {c : Code} {H : Heap} {locs : List Loc} {cells slots : Nat} {Q : State → Prop}
theorem W_multi {cc : ByteArray} (hexec : p.tables.exec = Jvm.exec) (hb : c.code = cc) {own : String} {index pc : Nat} {ls : Array Slot} {rest : List Value} (hown : s.vm.findClass own = some m.cls) (hclink : (Cond.classLink own index "[[I").before args s = true) (hover : (Cond.arrayOver (.array .int)).before args s = true) (harr : (Cond.arrayClass .int).before args s = true)
    {n k : Int32} (hdg : decode cc pc = .ok (.multianewarray index 2, 4)) (hn : ¬ n < 0) (hk : ¬ k < 0) (hn2 : n.toNatClampNeg ≤ 1000) (hk2 : k.toNatClampNeg ≤ 1000) (hcells : cells + (1 + n.toNatClampNeg) ≤ R.cells) (hslots : slots + (n.toNatClampNeg + n.toNatClampNeg * k.toNatClampNeg) ≤ R.slots) (hH0 : s.heap.size ≤ H.size)
    (kk : ∀ (H1 : Heap) (ca cb : ClassId), s.vm.findClass "[[I" = some ca → s.vm.findClass "[I" = some cb → H1.size = H.size + 1 + n.toNatClampNeg → H1[H.size]? = some (mgO ca n.toNatClampNeg H.size n.toNatClampNeg) → (∀ a : Nat, a < H.size → H1[a]? = H[a]?) → (∀ j : Nat, j < n.toNatClampNeg → H1[H.size + 1 + j]? = some (mgI cb k.toNatClampNeg)) →
      W p l e R s m args below meth c H1 locs (cells + 1 + n.toNatClampNeg) (slots + n.toNatClampNeg + n.toNatClampNeg * k.toNatClampNeg) Q (F0 m (pc + 4) ls (.ref H.size :: rest))) : W p l e R s m args below meth c H locs cells slots Q (F0 m pc ls (.int k :: .int n :: rest)) := by
  intro T hT X
  subst hT
  have hpl : e.platform.magicAccessors = ({} : Platform).magicAccessors := by rw [X.admits.platform]
  obtain ⟨cb, ca, ka, w1, w2, w3, w4, w5⟩ := arrayOverA_spec hover
  obtain ⟨cb', kb, cc1, v1, v2, v3⟩ := Cond.arrayClass_spec harr
  have ecb : cb' = cb := Option.some.inj (v1.symm.trans w1)
  subst ecb
  obtain ⟨ca', u1, u2⟩ := Cond.classLink_spec hown hclink e.platform hpl
  have eca : ca' = ca := Option.some.inj (u1.symm.trans w5)
  subst eca
  obtain ⟨g1, g2, g3⟩ := State.classEntry (e := e) X.warmed u2
  generalize T.vm.noted m.cls index (.cls ca') = vm1 at g1 g2 g3
  have hal : s.vm.Alike vm1 := g2.alike
  obtain ⟨ka1, x1, x2⟩ := hal.2.2 _ _ w3
  obtain ⟨kb1, y1, y2⟩ := hal.2.2 _ _ v2
  have q1 : ka1.kind = .array cb' (.array .int) := by rw [x2]; exact w4
  have q2 : kb1.kind = .array cc1 .int := by rw [y2]; exact v3
  have X1 := X.noted g2
  obtain ⟨r1, r2⟩ := X.roomAbove hcells hslots
  have XG := mgS_stand X1 hH0 ca' cb' n.toNatClampNeg k.toNatClampNeg n.toNatClampNeg
  obtain ⟨f1, f2, f3, f4, f5, f6⟩ := mgS_is (T.setVm vm1) ca' cb' n.toNatClampNeg k.toNatClampNeg n.toNatClampNeg
  obtain ⟨t, a1, b1⟩ := kk _ ca' cb' w5 w1 f1 f2 f5 f6 _ rfl XG
  refine ⟨t, ?_, b1⟩
  have l1 : ¬ n.toNatClampNeg > e.platform.arrayLengthLimit := by rw [Launch.admits_arrayLengthLimit X.admits]; omega
  have l2 : ¬ n.toNatClampNeg * componentBytes (.array .int) > e.platform.maxHeapBytes := by
    rw [Launch.admits_maxHeapBytes X.admits]; show ¬ n.toNatClampNeg * 4 > 536870912; omega
  have l3 : ¬ k.toNatClampNeg > e.platform.arrayLengthLimit := by rw [Launch.admits_arrayLengthLimit X.admits]; omega
  have l4 : ¬ k.toNatClampNeg * componentBytes .int > e.platform.maxHeapBytes := by
    rw [Launch.admits_maxHeapBytes X.admits]; show ¬ k.toNatClampNeg * 4 > 536870912; omega
  jvm_step X.here [hexec, hb, hdg]
  simp only [multianewarray.sem, wp_bind', W.resolveClassAt_links (State.method?_setTop (F0 m pc ls (.int k :: .int n :: rest)) X.here.top) g1]
  rw [W.popN, if_neg (by decide)]
  refine ⟨F0 m pc ls (.int k :: .int n :: rest), State.topJava?_setTop' (s := T.setVm vm1) _ X.here.top, [.int n, .int k], rest, rfl, rfl, ?_⟩
  simp only [List.mapM_cons, List.mapM_nil, wp_bind', wp_pure']
  refine mg_make (ka := ka1) (kb := kb1) (cb := cb') (cc := cc1) x1 q1 y1 q2 hn hk l1 l2 l3 l4 r1 r2 (fun d' acts' => ?_)
  have eS : ((T.setTop (F0 m pc ls (.int k :: .int n :: rest))).setVm vm1).setTop (F0 m pc ls rest) = (T.setVm vm1).setTop (F0 m pc ls rest) := by
    show ((T.setVm vm1).setTop _).setTop _ = _
    rw [State.setTop_setTop]
  show wp _ _ _ _ _ _ (mgS (((T.setTop (F0 m pc ls (.int k :: .int n :: rest))).setVm vm1).setTop (F0 m pc ls rest)) ca' cb' _ _ _)
  rw [eS, mgS_top]
  simp only [wp_bind', W.mark, W.pushRef, State.topJava?_setTop' _ XG.here.top, Option.some.injEq, exists_eq_left', State.setTop_setTop, State.heap_setTop]
  intro acts
  simp [jvm, XG.here.top]
  exact a1
end WM
