/-! int[n][k] made by one instruction: the outer array, then its rows, one behind another -/
def mgO (ca n h0 i : Nat) : Cell := arrV ca n (fun j => if j < i then .ref (h0 + 1 + j) else .null)
def mgI (cb k : Nat) : Cell := arrV cb k (fun _ => .int 0)
def mgS (T : State) (ca cb n k : Nat) : Nat → State
  | 0 => T.pushCell (mgO ca n T.heap.size 0)
  | i + 1 => ((mgS T ca cb n k i).pushCell (mgI cb k)).setCell T.heap.size (mgO ca n T.heap.size (i + 1))
theorem mgO_set (ca n h0 i : Nat) : (mgO ca n h0 i).setSlot i (.ref (h0 + 1 + i)) = mgO ca n h0 (i + 1) := by
  unfold mgO
  rw [arrV_store]
  congr 1
  funext j
  unfold updV
  show (if j = i then _ else if j < i then _ else _) = _
  by_cases h : j = i
  · subst h
    rw [if_pos rfl, if_pos (by omega)]
  · rw [if_neg h]
    by_cases h2 : j < i
    · rw [if_pos h2, if_pos (by omega)]
    · rw [if_neg h2, if_neg (by omega)]
theorem mgS_is (T : State) (ca cb n k : Nat) : ∀ i, (mgS T ca cb n k i).heap.size = T.heap.size + 1 + i ∧ (mgS T ca cb n k i).heap[T.heap.size]? = some (mgO ca n T.heap.size i) ∧ (mgS T ca cb n k i).vm = T.vm ∧ (mgS T ca cb n k i).slotsUsed = T.slotsUsed + n + i * k ∧
    (∀ a : Nat, a < T.heap.size → (mgS T ca cb n k i).heap[a]? = T.heap[a]?) ∧ ∀ j : Nat, j < i → (mgS T ca cb n k i).heap[T.heap.size + 1 + j]? = some (mgI cb k) := by
  intro i
  induction i with
  | zero => exact ⟨by simp [mgS], by simp [mgS], rfl, by simp [mgS, mgO, arrV_size], fun a ha => State.heap_pushCell_of_lt _ _ ha, fun j hj => absurd hj (Nat.not_lt_zero _)⟩
  | succ i ih =>
    obtain ⟨s1, s2, s3, s4, s5, s6⟩ := ih
    have l0 : T.heap.size < (mgS T ca cb n k i).heap.size := by omega
    have e2 : ((mgS T ca cb n k i).pushCell (mgI cb k)).heap[T.heap.size]? = some (mgO ca n T.heap.size i) := by rw [State.heap_pushCell_of_lt (h := l0)]; exact s2
    refine ⟨?_, State.heap_setCell_self e2, by simp [mgS, s3], ?_, fun a ha => ?_, fun j hj => ?_⟩
    · simp [mgS, State.setCell, s1]; omega
    · simp [mgS, s4, mgI, arrV_size, Nat.succ_mul]; omega
    · show (((mgS T ca cb n k i).pushCell (mgI cb k)).setCell T.heap.size _).heap[a]? = _
      rw [State.heap_setCell_other (Nat.ne_of_gt ha), State.heap_pushCell_of_lt (h := Nat.lt_trans ha l0)]
      exact s5 a ha
    · show (((mgS T ca cb n k i).pushCell (mgI cb k)).setCell T.heap.size _).heap[T.heap.size + 1 + j]? = _
      rw [State.heap_setCell_other (show T.heap.size ≠ T.heap.size + 1 + j by omega)]
      by_cases q : j < i
      · rw [State.heap_pushCell_of_lt (h := (by omega : T.heap.size + 1 + j < (mgS T ca cb n k i).heap.size))]
        exact s6 j q
      · rw [show T.heap.size + 1 + j = (mgS T ca cb n k i).heap.size by omega]
        exact State.heap_pushCell_size _ _
theorem mgS_top (T : State) (f : JFrame) (ca cb n k : Nat) : ∀ i, mgS (T.setTop f) ca cb n k i = (mgS T ca cb n k i).setTop f := by
  intro i
  induction i with
  | zero => rfl
  | succ i ih => simp only [mgS, ih, State.heap_setTop, State.pushCell_setTop, State.setCell_setTop]
section MG
variable {p : Program} {l : Launch} {e : Env} {R : Room} {s : State} {m : MethodId} {args : Array Value} {below : List Frame} {meth : Method} {c : Code} {T : State} {locs : List Loc} {cells slots : Nat}
theorem mgS_stand (X : Stand p l e R s m args below meth c T locs cells slots) (hT : s.heap.size ≤ T.heap.size) (ca cb n k : Nat) : ∀ i, Stand p l e R s m args below meth c (mgS T ca cb n k i) locs (cells + 1 + i) (slots + n + i * k) := by
  intro i
  induction i with
  | zero =>
    have h := X.pushed (mgO ca n T.heap.size 0)
    rw [show (mgO ca n T.heap.size 0).slots.size = n from arrV_size _ _ _] at h
    simpa [mgS] using h
  | succ i ih =>
    obtain ⟨s1, s2, s3, s4, s5, s6⟩ := mgS_is T ca cb n k i
    have l0 : T.heap.size < (mgS T ca cb n k i).heap.size := by omega
    have e2 : ((mgS T ca cb n k i).pushCell (mgI cb k)).heap[T.heap.size]? = some (mgO ca n T.heap.size i) := by rw [State.heap_pushCell_of_lt (h := l0)]; exact s2
    have h := (ih.pushed (mgI cb k)).stored e2 i (.ref (T.heap.size + 1 + i))
    rw [mgO_set, show (mgI cb k).slots.size = k from arrV_size _ _ _] at h
    have h2 := Stand.forget h (fun y hy => by rw [List.mem_singleton.mp hy]; exact hT)
    have e3 : slots + n + (i + 1) * k = slots + n + i * k + k := by rw [Nat.succ_mul]; omega
    rw [e3]
    exact h2
end MG
section MW
variable {E : CtlPost} {e : Env} {d : Bool} {acts : List Action} {s : State}
theorem mg_row {cb cc : ClassId} {kb : Class} {k : Int32} {Q : Addr → Pre} (hkb : s.vm.classes[cb]? = some kb) (hkind : kb.kind = .array cc .int) (hk : ¬ k < 0) (h1 : ¬ k.toNatClampNeg > e.platform.arrayLengthLimit) (h2 : ¬ k.toNatClampNeg * componentBytes .int > e.platform.maxHeapBytes)
    (hc : s.heap.size < e.platform.maxCells) (hs : s.slotsUsed + k.toNatClampNeg ≤ e.platform.maxSlots) (hq : ∀ acts', Q s.heap.size d acts' (s.pushCell (mgI cb k.toNatClampNeg))) : wp (multianewarray.make cb [k]) Q E e d acts s := by
  rw [multianewarray.make]
  simp only [wp_bind', W.ite, hk, if_false, wp_pure', W.theClass, hkb, hkind, Option.some.injEq, exists_eq_left']
  refine W.newArray_of hkb hkind h1 h2 hc hs rfl fun acts' => ?_
  rw [show ({ cls := cb, slots := Array.replicate k.toNatClampNeg (defaultValue .int) } : Cell) = mgI cb k.toNatClampNeg from arrV_new _ _ _]
  exact hq acts'
theorem mg_make {ca cb cc : ClassId} {ka kb : Class} {n k : Int32} {Q : Addr → Pre} (hka : s.vm.classes[ca]? = some ka) (hkinda : ka.kind = .array cb (.array .int)) (hkb : s.vm.classes[cb]? = some kb) (hkindb : kb.kind = .array cc .int) (hn : ¬ n < 0) (hk : ¬ k < 0)
    (h1 : ¬ n.toNatClampNeg > e.platform.arrayLengthLimit) (h2 : ¬ n.toNatClampNeg * componentBytes (.array .int) > e.platform.maxHeapBytes) (h3 : ¬ k.toNatClampNeg > e.platform.arrayLengthLimit) (h4 : ¬ k.toNatClampNeg * componentBytes .int > e.platform.maxHeapBytes)
    (hc : s.heap.size + (1 + n.toNatClampNeg) ≤ e.platform.maxCells) (hs : s.slotsUsed + (n.toNatClampNeg + n.toNatClampNeg * k.toNatClampNeg) ≤ e.platform.maxSlots)
    (hq : ∀ d' acts', Q s.heap.size d' acts' (mgS s ca cb n.toNatClampNeg k.toNatClampNeg n.toNatClampNeg)) : wp (multianewarray.make ca [n, k]) Q E e d acts s := by
  generalize hN : n.toNatClampNeg = N at *
  generalize hK : k.toNatClampNeg = K at *
  have hfd : ([k].find? (· < 0)) = none := by simp [hk]
  rw [multianewarray.make]
  simp only [wp_bind', W.ite, hn, if_false, wp_pure', W.theClass, hka, hkinda, Option.some.injEq, exists_eq_left']
  rw [hN]
  refine W.newArray_of hka hkinda h1 h2 (by omega) (by have := Nat.zero_le (N * K); omega) rfl fun acts1 => ?_
  rw [show ({ cls := ca, slots := Array.replicate N .null } : Cell) = mgO ca N s.heap.size 0 from (arrV_new _ _ _).trans (by unfold mgO; congr 1)]
  simp only [hfd]
  rw [ite_self, wp_bind', Std.Legacy.Range.forIn_eq_forIn_range']
  rw [show ([:N] : Std.Legacy.Range).size = N by simp [Std.Legacy.Range.size]]
  show wp (forIn (List.range' 0 N 1) PUnit.unit _) _ E e d _ _
  refine wp_forIn_inv (fun rest u => ∃ i, i ≤ N ∧ rest = List.range' i (N - i) ∧ u = mgS s ca cb N K i) _ _ ⟨0, Nat.zero_le _, rfl, rfl⟩ ?_ ?_
  · rintro x rest u d' acts' Q' ⟨i, hi, hl, rfl⟩ hnext
    have hlt : i < N := by
      rcases Nat.lt_or_ge i N with h | h
      · exact h
      · rw [show N - i = 0 by omega] at hl; cases hl
    rw [show N - i = (N - (i + 1)) + 1 by omega, List.range'_succ] at hl
    obtain ⟨rfl, hrest⟩ := List.cons.inj hl
    obtain ⟨s1, s2, s3, s4, s5, s6⟩ := mgS_is s ca cb N K x
    have hm := Nat.mul_le_mul_right K (show x + 1 ≤ N from hlt)
    rw [Nat.succ_mul] at hm
    have l0 : s.heap.size < (mgS s ca cb N K x).heap.size := by omega
    simp only [wp_bind']
    refine mg_row (by rw [s3]; exact hkb) hkindb hk (by rw [hK]; exact h3) (by rw [hK]; exact h4) (by omega) (by rw [hK, s4]; omega) fun acts2 => ?_
    rw [hK]
    have o2 : (mgO ca N s.heap.size x).slots.size = N := arrV_size _ _ _
    simp only [wp_bind', W.writeLoc, wp_pure']
    refine ⟨mgO ca N s.heap.size x, by rw [State.heap_pushCell_of_lt (h := l0)]; exact s2, by show (VmData.none : VmData) ≠ _; simp, by rw [o2]; exact hlt, ?_, hnext _ _ _ ⟨x + 1, hlt, hrest, ?_⟩⟩
    · show State.fitsSlot _ ca .none _ _ = true
      simp [State.fitsSlot, State.slotType?, s3, hka, hkinda, fits]
    · rw [s1, mgO_set]
      rfl
  · rintro u d' acts' ⟨i, hi, hl, rfl⟩
    have hiN : i = N := by
      rcases Nat.lt_or_ge i N with h | h
      · rw [show N - i = (N - (i + 1)) + 1 by omega, List.range'_succ] at hl; cases hl
      · omega
    subst hiN
    simp only [wp_pure']
    exact hq _ _
end MW
