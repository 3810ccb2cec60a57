/-! WHAT STANDS BETWEEN THE CALLS -/
/-- a clause: its word (0 fancy, 1 leave, 2 keep), its number, its tests and what joins them, in the model's codes -/
abbrev zCl : Type := Nat × Nat × List Nat
def tkT (f : Nat → Int32) (c : Nat) : Bool := if (c - 3) / 100 % 3 = 0 then decide (f ((c - 3) / 300) < nI ((c - 3) % 100)) else if (c - 3) / 100 % 3 = 1 then decide (f ((c - 3) / 300) = nI ((c - 3) % 100)) else decide (nI ((c - 3) % 100) < f ((c - 3) / 300))
def ev (f : Nat → Int32) : List Nat → List Bool → Option (List Bool)
  | [], s => some s
  | c :: l, s => if 3 ≤ c then ev f l (tkT f c :: s) else match s with
    | [] => none
    | b :: r => if c = 0 then ev f l ((!b) :: r) else match r with
      | [] => none
      | a :: q => ev f l ((if c = 1 then a && b else a || b) :: q)
/-- how many stand open behind the codes (30 at most on the way) -/
def dep : List Nat → Nat → Option Nat
  | [], n => some n
  | c :: l, n => if 3 ≤ c then (if n < 30 then dep l (n + 1) else none) else if c = 0 then (if 1 ≤ n then dep l n else none) else (if 2 ≤ n then dep l (n - 1) else none)
def stp (c : Nat) : Int32 := if c = 0 then -1 else if c = 1 then -2 else if c = 2 then -3 else nI ((c - 3) / 300 * 16384 + (if (c - 3) / 100 % 3 = 0 then 0 else if (c - 3) / 100 % 3 = 1 then (c - 3) % 100 else (c - 3) % 100 + 1) * 128 + (if (c - 3) / 100 % 3 = 0 then (c - 3) % 100 else if (c - 3) / 100 % 3 = 1 then (c - 3) % 100 + 1 else 127))
def okC (q : zCl) : Prop := q.1 ≤ 2 ∧ q.2.1 ≤ 99 ∧ (q.1 = 2 → q.2.2 = []) ∧ (q.1 < 2 → dep q.2.2 0 = some 1) ∧ ∀ c ∈ q.2.2, c < 1803
def stpC (q : zCl) : List Int32 := if q.1 = 0 then q.2.2.map stp ++ [1048576 + nI q.2.1] else if q.1 = 1 then q.2.2.map stp ++ [1048576 - nI q.2.1] else []
def kpC (cs : List zCl) : Nat := cs.foldl (fun k q => if q.1 = 2 then q.2.1 else k) 3
/-- what a clause adds -/
def clV (f : Nat → Int32) (q : zCl) : Int32 := if q.1 < 2 ∧ ev f q.2.2 [] = some [true] then (if q.1 = 0 then nI q.2.1 else -nI q.2.1) else 0
def swV (f : Nat → Int32) (cs : List zCl) : Int32 := cs.foldl (fun s q => s + clV f q) 0
/-- house i of the class and of the model are these clauses -/
def HRel (J : Nat → Nat → Int32) (cd i : Nat) (cs : List zCl) : Prop :=
  (∀ q ∈ cs, okC q) ∧ cs.length ≤ 10 ∧
  J (151 + 2 * i) 0 = nI (kpC cs) ∧ (cs.flatMap stpC).length ≤ 100 ∧ J (151 + 2 * i) 2 = nI (cs.flatMap stpC).length ∧ (∀ j, j < (cs.flatMap stpC).length → J (151 + 2 * i + 1) j = (cs.flatMap stpC).getD j 0) ∧
  J 275 i = nI cs.length ∧ ∀ j, j < cs.length → J 276 (10 * i + j) = nI (cs.getD j (0, 0, [])).1 ∧ J 277 (10 * i + j) = nI (cs.getD j (0, 0, [])).2.1 ∧ ∃ bg, J 278 (10 * i + j) = nI bg ∧ J 279 (10 * i + j) = nI (cs.getD j (0, 0, [])).2.2.length ∧ bg + (cs.getD j (0, 0, [])).2.2.length ≤ cd ∧ ∀ t, t < (cs.getD j (0, 0, [])).2.2.length → J 280 (bg + t) = nI ((cs.getD j (0, 0, [])).2.2.getD t 0)
def Num (J : Nat → Nat → Int32) : Prop := ∀ g, g < 6 → J (36 + 2 * g) 0 = nI g ∧ J (81 + 2 * g) 0 = nI g ∧ J (126 + 2 * g) 0 = nI g
def Img (J : Nat → Nat → Int32) (m : Option Nat) : Prop := J 0 4 = J 265 39 ∧ (J 0 4 = 0 ∨ J 0 4 = 1) ∧ (J 0 4 = 1 → Wok 9999 (cn (J 265 16)) (J 291) ∧ (∀ k, k < 139 → live (J 291) k → cv J 48 k = J 291 k) ∧ m = some (hid (J 291 139)))
def Hou (J : Nat → Nat → Int32) : Prop := ∃ hc cd, hc ≤ 6 ∧ cd ≤ 100 * hc ∧ J 0 7 = nI hc ∧ J 265 16 = nI hc ∧ J 265 24 = nI cd ∧ J 1 0 = 3 ∧ J 1 2 = 0 ∧ ∀ i, i < hc → ∃ cs, HRel J cd i cs
def Txt (J : Nat → Nat → Int32) : Prop := ∃ n, n ≤ 100 ∧ J 138 1 = nI n ∧ J 265 10 = nI n ∧ ∀ j, j < n → ∃ c, c ≤ 127 ∧ J 139 j = nI c ∧ J 274 j = nI c
def Trc (J : Nat → Nat → Int32) : Prop := ∃ n, n < 1000000 ∧ J 148 1 = nI n ∧ J 265 37 = nI n ∧ ∀ j, j < n → j < 20 → J 149 j = J 290 j
def Tap (J : Nat → Nat → Int32) (L : Nat → Nat → Int64) : Prop := ∀ t, t < 6 → (J (253 + 2 * t) 0 = -1 ∨ ∃ s, s ≤ 4 ∧ J (253 + 2 * t) 0 = nI s) ∧ J 294 t = J (253 + 2 * t) 0 ∧ (∃ n, n ≤ 60 ∧ J (253 + 2 * t) 1 = nI n ∧ J 295 t = nI n ∧ (J (253 + 2 * t) 0 = -1 → n = 0)) ∧ ∀ j, j < 60 → L (253 + 2 * t + 1) j = L 296 (60 * t + j)
def Rest (J : Nat → Nat → Int32) (L : Nat → Nat → Int64) (m : Option Nat) : Prop := Num J ∧ Img J m ∧ Hou J ∧ Txt J ∧ Trc J ∧ Tap J L
def Inv (I : Nat → Nat → Int32) (L : Nat → Nat → Int64) (M : Nat → Nat → Option Nat) : Prop := Wok 9999 (cn (I 265 16)) (cur I) ∧ InnR PA I M 3 (cur I) ∧ Rest (rI I) L (M 48 5)
theorem live_eq {w w' : Nat → Int32} (e1 : w' 134 = w 134) (e2 : w' 136 = w 136) (e3 : w' 137 = w 137) (e4 : w' 138 = w 138) (e5 : ∀ i, i < 10 → w' (98 + i) = w (98 + i)) (k : Nat) : live w' k ↔ live w k := by
  have e6 : (108 ≤ k ∧ k < 118 ∧ k - 108 < cn (w 137) ∧ ¬ w' (98 + (k - 108)) = 0) ↔ (108 ≤ k ∧ k < 118 ∧ k - 108 < cn (w 137) ∧ ¬ w (98 + (k - 108)) = 0) := by
    constructor
    · rintro ⟨a, b, c, d⟩
      exact ⟨a, b, c, by rw [← e5 (k - 108) (by omega)]; exact d⟩
    · rintro ⟨a, b, c, d⟩
      exact ⟨a, b, c, by rw [e5 (k - 108) (by omega)]; exact d⟩
  unfold live
  rw [e1, e2, e3, e4, e6]
/-- a place of the view is written on both sides -/
theorem Inv_upd {I : Nat → Nat → Int32} {L : Nat → Nat → Int64} {M : Nat → Nat → Option Nat} (h : Inv I L M) {k : Nat} {v : Int32} (hk : k < 98 ∨ k = 135) (hv : ∃ j, j ≤ ub 9999 k ∧ v = nI j) : Inv (u2 (u2 I (cloc 3 k).1 (cloc 3 k).2 v) (loc k).1 (loc k).2 v) L M := by
  obtain ⟨hW, hI, hR⟩ := h
  have hk2 : k < 139 := by omega
  have hc := cloc_rng 3 hk2
  have hl := loc_rng k (by omega)
  have e1 : cur (u2 (u2 I (cloc 3 k).1 (cloc 3 k).2 v) (loc k).1 (loc k).2 v) = upd (cur I) k v := by
    rw [cur_in _ (by omega), cur_out I v (Or.inl (by omega))]
  have e2 : cv (u2 (u2 I (cloc 3 k).1 (cloc 3 k).2 v) (loc k).1 (loc k).2 v) 3 = upd (cv I 3) k v := by
    rw [cv_out _ v (by omega), cv_in I 3 hk2]
  have e3 : rI (u2 (u2 I (cloc 3 k).1 (cloc 3 k).2 v) (loc k).1 (loc k).2 v) = rI I := by
    rw [rI_out _ v, rI_out I v]
    · have h2 := c0_rng k hk2
      show ¬ Ra (3 + (c0 k).1) (c0 k).2
      unfold Ra
      omega
    · unfold Ra
      omega
  have eL : ∀ j, live (upd (cur I) k v) j ↔ live (cur I) j := live_eq (by simp [upd]; omega) (by simp [upd]; omega) (by simp [upd]; omega) (by simp [upd]; omega) (fun i hi => by simp [upd]; omega)
  have e139 : upd (cur I) k v 139 = cur I 139 := by simp [upd]; omega
  refine ⟨?_, ?_, ?_⟩
  · have e4 : (u2 (u2 I (cloc 3 k).1 (cloc 3 k).2 v) (loc k).1 (loc k).2 v) 265 16 = I 265 16 := by
      rw [u2_ne _ _ (by
        by_cases q : (265 : Nat) = (loc k).1
        · right
          have := hl.2.2.2 q.symm
          omega
        · exact Or.inl q), u2_ne _ _ (Or.inl (by omega))]
    rw [e1, e4]
    refine ⟨fun j hj hlv => ?_, fun i hi hz => ?_, ?_⟩
    · by_cases e : j = k
      · subst e
        obtain ⟨q, h1, h2⟩ := hv
        exact ⟨q, h1, by simp [upd, h2]⟩
      · obtain ⟨q, h1, h2⟩ := hW.1 j hj ((eL j).mp hlv)
        exact ⟨q, h1, by simp [upd, e, h2]⟩
    · have a1 : upd (cur I) k v 137 = cur I 137 := by simp [upd]; omega
      have a2 : upd (cur I) k v 134 = cur I 134 := by simp [upd]; omega
      rw [a1] at hi
      have hp : i < 10 := by
        obtain ⟨q, h1, h2⟩ := hW.1 137 (by omega) (by unfold live; omega)
        rw [h2] at hi
        have h1' : q ≤ 10 := h1
        rw [show cn (nI q) = q from nI_clamp (by omega)] at hi
        omega
      have a3 : upd (cur I) k v (98 + i) = cur I (98 + i) := by simp [upd]; omega
      have a4 : upd (cur I) k v (108 + i) = cur I (108 + i) := by simp [upd]; omega
      rw [a3] at hz
      rw [a2, a4]
      exact hW.2.1 i hi hz
    · rw [e139]
      exact hW.2.2
  · rw [e1]
    refine ⟨fun j hj _ hlv => ?_, ?_⟩
    · rw [e2]
      by_cases e : j = k
      · subst e; simp [upd]
      · simp only [upd, if_neg e]
        exact hI.1 j hj trivial ((eL j).mp hlv)
    · rw [e139]
      exact hI.2
  · rw [e3]
    exact hR
