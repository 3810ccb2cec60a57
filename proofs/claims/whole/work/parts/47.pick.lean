/-! WHAT TEMPTS MOST: of several the first -/
def mst (G : Nat → Int32) : Option Nat → Int32
  | none => 0
  | some y => G y
def opI : Option Nat → Int32
  | none => -5
  | some y => nI y
def pk (G : Nat → Int32) (m : Nat → Bool) : Nat → Option Nat
  | 0 => none
  | k + 1 => if m k = true ∧ mst G (pk G m k) < G k then some k else pk G m k
theorem pk_pos {G : Nat → Int32} {m : Nat → Bool} : ∀ {k y : Nat}, pk G m k = some y → y < k ∧ 0 < G y ∧ m y = true := by
  intro k
  induction k with
  | zero => intro y h; exact absurd h (by simp [pk])
  | succ k ih =>
    intro y h
    unfold pk at h
    by_cases q : m k = true ∧ mst G (pk G m k) < G k
    · rw [if_pos q] at h
      have e : k = y := by simpa using h
      subst e
      refine ⟨by omega, ?_, q.1⟩
      have q2 := q.2
      cases hb : pk G m k with
      | none => rw [hb] at q2; exact q2
      | some z =>
        rw [hb] at q2
        have := (ih hb).2.1
        exact Int32.lt_trans this q2
    · rw [if_neg q] at h
      obtain ⟨a, b, c⟩ := ih h
      exact ⟨by omega, b, c⟩
theorem pk_congr {G G' : Nat → Int32} {m m' : Nat → Bool} : ∀ {k : Nat}, (∀ x, x < k → m x = m' x) → (∀ x, x < k → m x = true → G x = G' x) → pk G m k = pk G' m' k := by
  intro k
  induction k with
  | zero => intro _ _; rfl
  | succ k ih =>
    intro h1 h2
    have e := ih (fun x hx => h1 x (by omega)) (fun x hx => h2 x (by omega))
    have em : mst G (pk G m k) = mst G' (pk G' m' k) := by
      rw [← e]
      cases hb : pk G m k with
      | none => rfl
      | some y =>
        obtain ⟨a, -, c⟩ := pk_pos hb
        exact h2 y (by omega) c
    unfold pk
    rw [em, e, h1 k (by omega)]
    by_cases q : m' k = true
    · rw [h2 k (by omega) (by rw [h1 k (by omega)]; exact q)]
    · rw [if_neg (fun z => q z.1), if_neg (fun z => q z.1)]
/-- a ranking of the first k -/
def Rk (G : Nat → Int32) (k : Nat) (r : List Nat) : Prop := (∀ y ∈ r, y < k ∧ 0 < G y) ∧ r.Pairwise (fun a b => G b ≤ G a) ∧ r.length ≤ k ∧ ∀ m : Nat → Bool, r.find? m = pk G m k
theorem Rk_0 (G : Nat → Int32) : Rk G 0 [] := ⟨by simp, List.Pairwise.nil, by simp, fun m => rfl⟩
theorem Rk_skip {G : Nat → Int32} {k : Nat} {r : List Nat} (h : Rk G k r) (hk : G k ≤ 0) : Rk G (k + 1) r := by
  obtain ⟨h1, h2, h3, h4⟩ := h
  refine ⟨fun y hy => ⟨by have := (h1 y hy).1; omega, (h1 y hy).2⟩, h2, by omega, fun m => ?_⟩
  rw [h4 m]
  show _ = if m k = true ∧ mst G (pk G m k) < G k then some k else pk G m k
  rw [if_neg]
  rintro ⟨-, q⟩
  cases hb : pk G m k with
  | none =>
    rw [hb] at q
    exact absurd hk (lt_nle q)
  | some y =>
    rw [hb] at q
    exact absurd hk (lt_nle (Int32.lt_trans (pk_pos hb).2.1 q))
theorem Rk_put {G : Nat → Int32} {k : Nat} {r1 r2 : List Nat} (h : Rk G k (r1 ++ r2)) (hk : 0 < G k) (l1 : ∀ y ∈ r1, G k ≤ G y) (l2 : ∀ y ∈ r2, G y < G k) : Rk G (k + 1) (r1 ++ k :: r2) := by
  obtain ⟨h1, h2, h3, h4⟩ := h
  rw [List.length_append] at h3
  refine ⟨fun y hy => ?_, ?_, by rw [List.length_append, List.length_cons]; omega, fun m => ?_⟩
  · rcases List.mem_append.mp hy with q | q
    · exact ⟨by have := (h1 y (List.mem_append_left _ q)).1; omega, (h1 y (List.mem_append_left _ q)).2⟩
    · rcases List.mem_cons.mp q with rfl | q
      · exact ⟨by omega, hk⟩
      · exact ⟨by have := (h1 y (List.mem_append_right _ q)).1; omega, (h1 y (List.mem_append_right _ q)).2⟩
  · obtain ⟨p1, p2, p3⟩ := List.pairwise_append.mp h2
    refine List.pairwise_append.mpr ⟨p1, List.pairwise_cons.mpr ⟨fun y hy => Int32.le_of_lt (l2 y hy), p2⟩, fun a ha b hb => ?_⟩
    rcases List.mem_cons.mp hb with rfl | hb
    · exact l1 a ha
    · exact p3 a ha b hb
  · have e := h4 m
    rw [List.find?_append] at e ⊢
    unfold pk
    rw [← e]
    cases hb : r1.find? m with
    | some y =>
      have hy := List.mem_of_find?_eq_some hb
      show some y = _
      rw [show (some y).or (r2.find? m) = some y from rfl, if_neg]
      rintro ⟨-, q⟩
      exact absurd (l1 y hy) (lt_nle q)
    | none =>
      show (k :: r2).find? m = _
      rw [show (none : Option Nat).or (r2.find? m) = r2.find? m by cases r2.find? m <;> rfl, List.find?_cons]
      cases hm : m k with
      | false =>
        rw [if_neg (fun z => absurd z.1 (by decide))]
      | true =>
        rw [if_pos]
        refine ⟨rfl, ?_⟩
        cases hc : r2.find? m with
        | none => exact hk
        | some y => exact l2 y (List.mem_of_find?_eq_some hc)
def preyV (w : Nat → Int32) (cs : List zCl) (p : Nat) (mm n : Int32) : Int32 := if w (48 + p) = 0 then -5 else opI (pk (fun x => temV w cs p x n) (fun x => hb mm x) 12)
theorem preyV_cases (w : Nat → Int32) (cs : List zCl) (p : Nat) (mm n : Int32) : preyV w cs p mm n = -5 ∨ ∃ y, y < 12 ∧ preyV w cs p mm n = nI y ∧ hb mm y = true := by
  unfold preyV
  by_cases h : w (48 + p) = 0
  · rw [if_pos h]; exact Or.inl rfl
  · rw [if_neg h]
    cases hb : pk (fun x => temV w cs p x n) (fun x => hb mm x) 12 with
    | none => exact Or.inl rfl
    | some y => exact Or.inr ⟨y, (pk_pos hb).1, rfl, (pk_pos hb).2.2⟩
section SM
variable {C : zC} {I I' : Nat → Nat → Int32} {L L' : Nat → Nat → Int64} {M : Nat → Nat → Option Nat}
theorem sp_preyM (d : Nat) {p k0 v0 : Nat} (hp : p < 6) {cs : List zCl} (hH : Hs I (I 265 17) cs) (hk : k0 ≤ 6) (ek : cur I (24 + p) = nI k0) (hv : v0 ≤ 1) (ev0 : cur I (48 + p) = nI v0) (K : KI) (hK : ∀ J, FrS I J → K (preyV (cur I) cs p (cur I (36 + p)) (I 265 9)) J L M) : zCI C Y_X11_prey (d + 5) [.ref 265, .int (nI p)] (zmk I L M) K := by
  have h6 := vp_in_nI hp (by omega : 6 < 2 ^ 31)
  have c1 := nI_clamp (n := p) (by omega)
  have e2 : cur I (48 + p) = I 272 p := cur_at (l_i p hp) (by omega)
  have e3 : cur I (36 + p) = I 270 p := cur_at (l_m p hp) (by omega)
  refine t_X11_prey d _ _ ?_
  unfold preyV at hK
  rw [ev0, e3] at hK
  by_cases h0 : v0 = 0
  · subst h0
    rw [if_pos (show nI 0 = 0 from rfl)] at hK
    refine t_X11_prey_8 d _ _ _ _ _ (br_f (by decide) ⟨h6, fun _ => hK I (fun _ _ _ => rfl), fun z => ?_⟩)
    rw [c1, ← e2, ev0] at z
    exact absurd z (by decide)
  · have h1 : v0 = 1 := by omega
    subst h1
    rw [if_neg (show ¬ nI 1 = 0 by decide)] at hK
    refine count_st (P := fun y J => zSI C (zmk I L M) K Y_X11_prey (d + 5) 8 [(0, .ref 265), (1, .int (nI p)), (2, .int (opI (pk (fun x => temV (cur I) cs p x (I 265 9)) (fun x => hb (I 270 p) x) y))), (3, .int (mst (fun x => temV (cur I) cs p x (I 265 9)) (pk (fun x => temV (cur I) cs p x (I 265 9)) (fun x => hb (I 270 p) x) y))), (4, .int (nI y))] [] J L M) (J := fun y J => FrS I J) 12 ?_ ?_ 0 I (Nat.zero_le _) (fun _ _ _ => rfl)
    · intro J h
      exact t_X11_prey_8 d _ _ _ _ _ (br_t (by decide) (hK J h))
    · intro y J hy h ih
      have hlt : ¬ (12 : Int32) ≤ nI y := fun z => by have := (nI_le_iff (a := 12) (b := y) (by omega) (by omega)).mp z; omega
      have ecu : cur J = cur I := cur_eq fun k hk => h _ _ (by have := loc_rng k hk; omega)
      refine t_X11_prey_8 d _ _ _ _ _ (br_f hlt ⟨h6, ?_⟩)
      rw [c1, h 272 p (by omega), ← e2, ev0, h 270 p (by omega), zhas_hb (by omega), nI_1]
      refine ⟨fun z => absurd rfl z, fun _ => ⟨h6, fun z => ?_, fun z => ?_⟩⟩
      · refine sp_temM d hp hy (by rw [h _ _ (by omega)]; exact Hs_c (fun j => h _ _ (by omega)) (fun a j ha => h _ _ (by omega)) hH) hk (by rw [ecu]; exact ek) _ fun J' hJ' => ?_
        have h' : FrS I J' := fun b j hb => (hJ' b j hb).trans (h b j hb)
        rw [ecu, h 265 9 (by omega)]
        have ih' := ih J' h'
        refine ⟨fun q => ?_, fun q => ?_⟩
        · simp only [pk] at ih'
          rw [if_pos ⟨z, q⟩] at ih'
          exact ih'
        · simp only [pk] at ih'
          rw [if_neg (fun z2 => q z2.2)] at ih'
          exact ih'
      · have ih' := ih J h
        simp only [pk] at ih'
        rw [if_neg (fun z2 => z z2.1)] at ih'
        exact ih'
end SM
