/-! STRINGS: the literals -/
def ixV (v : Int32) : List Int32 → Nat → Int32
  | [], _ => -1
  | a :: t, j => if a = v then nI j else ixV v t (j + 1)
theorem slen : ∀ i, i < 10 → Int32.ofNat (zsBy.getD i []).length >>> ((0 : Int32) &&& 31) = nI (zsBy.getD i []).length ∧ (zsBy.getD i []).length < 7 := by decide +kernel
theorem schr : ∀ i, i < 10 → ∀ j, j < 7 → ((((((zsBy.getD i []).getD j 0) &&& (255 : Int32)) : Int32).toUInt32 % 65536).toInt32) = (zsBy.getD i []).getD j 0 ∧ narrow .char (.int ((zsBy.getD i []).getD j 0)) = .int ((zsBy.getD i []).getD j 0) := by decide +kernel
theorem chr_i8 : ∀ c, c < 128 → (nI c).toInt8.toInt32 = nI c ∧ (((nI c) : Int32).toUInt32 % 65536).toInt32 = nI c := by decide +kernel
section SM
variable {C : zC} {I I' : Nat → Nat → Int32} {L L' : Nat → Nat → Int64} {M : Nat → Nat → Option Nat}
theorem sp_slen (d : Nat) {i : Nat} (hi : i < 10) (K : KI) (hK : K (nI (zsBy.getD i []).length) I L M) : zCI C Y_J0_length_8abf5 (d + 2) [.ref (1000010 + i)] (zmk I L M) K := by
  refine t_J0_length_8abf5 d hi _ (t_J0_coder_7d493 d hi _ ⟨fun z => absurd z (by decide), fun _ => ⟨by decide, ?_⟩⟩)
  rw [(slen i hi).1]
  exact hK
theorem sp_latin (d : Nat) {i : Nat} (hi : i < 10) (K : KI) (hK : K 1 I L M) : zCI C Y_J0_isLatin1_aae02 (d + 1) [.ref (1000010 + i)] (zmk I L M) K :=
  t_J0_isLatin1_aae02 d hi _ ⟨fun z => absurd z (by decide), fun _ => ⟨fun z => absurd rfl z, fun _ => hK⟩⟩
theorem sp_schr (d : Nat) {i j : Nat} (hi : i < 10) (hj : j < (zsBy.getD i []).length) (K : KI) (hK : K ((zsBy.getD i []).getD j 0) I L M) : zCI C Y_J0_charAt_5068e (d + 5) [.ref (1000010 + i), .int (nI j)] (zmk I L M) K := by
  have hl := (slen i hi).2
  obtain ⟨s1, s2⟩ := schr i hi j (by omega)
  refine t_J0_charAt_5068e d _ hi _ (sp_latin (d + 3) hi _ ⟨fun z => absurd z (by decide), fun _ => ?_⟩)
  refine t_J1_charAt_3b067 (d + 1) _ hi _ (t_J0_checkIndex_df160 (d + 1) _ _ _ fun vf hvf => t_J3_checkIndex_8e157 (d + 1) _ _ hvf _ ?_)
  have h1 : ¬ nI j < 0 := le_nlt (nI_pos' (by omega))
  have h2 : nI j < Int32.ofNat (zsBy.getD i []).length := nI_lt hj (by omega)
  refine ⟨fun z => absurd z h1, fun _ => ⟨fun _ => ⟨vp_in_nI hj (by omega), ?_⟩, fun z => absurd h2 z⟩⟩
  rw [nI_clamp (by omega), s1]
  exact ⟨s2, s2, hK⟩
theorem sp_sidx (d : Nat) {i c : Nat} (hi : i < 10) (hl0 : 0 < (zsBy.getD i []).length) (hc : c < 128) (K : KI) (hK : K (ixV (nI c) (zsBy.getD i []) 0) I L M) : zCI C Y_J0_indexOf_0f7a4 (d + 7) [.ref (1000010 + i), .int (nI c)] (zmk I L M) K := by
  have hl := (slen i hi).2
  refine t_J0_indexOf_0f7a4 d _ hi _ (t_J0_indexOf_7cf53 d _ _ hi _ (sp_latin (d + 4) hi _ ⟨fun z => absurd z (by decide), fun _ => ?_⟩))
  refine sp_slen (d + 3) hi _ (t_J1_indexOf_4cfef (d + 3) _ _ _ hi _ (t_J1_canEncode_9a6ad (d + 3) _ _ ?_))
  have h1 : ¬ nI c < 0 := le_nlt (nI_pos' (by omega))
  have h2 : ¬ 255 < nI c := fun z => by have := (nI_lt_iff (a := 255) (b := c) (by omega) (by omega)).mp z; omega
  refine ⟨fun z => absurd z h1, fun _ => ⟨fun z => absurd z h2, fun _ => ⟨fun _ => ?_, fun z => absurd z (by decide)⟩⟩⟩
  have e1 : (if (0 : Int32) < 0 then (0 : Int32) else 0) = 0 := by decide
  have e2 : (if Int32.ofNat (zsBy.getD i []).length < nI (zsBy.getD i []).length then Int32.ofNat (zsBy.getD i []).length else nI (zsBy.getD i []).length) = nI (zsBy.getD i []).length := by
    rw [if_neg]
    exact le_nlt (Int32.le_refl _)
  rw [e1, e2]
  refine ⟨fun _ => t_J1_indexOfChar_4cfef (d + 3) _ _ _ hi _ ?_, fun z => absurd ((nI_lt_iff (a := 0) (by omega) (by omega)).mpr hl0) z⟩
  rw [(chr_i8 c hc).1]
  have key : ∀ (t : List Int32) (j : Nat), j + t.length = (zsBy.getD i []).length → (∀ k, k < t.length → (zsBy.getD i []).getD (j + k) 0 = t.getD k 0) → K (ixV (nI c) t j) I L M → zSI C (zmk I L M) K Y_J1_indexOfChar_4cfef (d + 4) 7 [(0, .ref (1000030 + i)), (3, .int (nI (zsBy.getD i []).length)), (4, .int (nI c)), (5, .int (nI j))] [] I L M := by
    intro t
    induction t with
    | nil =>
      intro j hj _ hK
      exact t_J1_indexOfChar_4cfef_7 (d + 3) hi _ _ _ _ (br_t ((nI_le_iff (by omega) (by omega)).mpr (by rw [List.length_nil] at hj; omega)) hK)
    | cons a t ih =>
      intro j hj hg hK
      rw [List.length_cons] at hj
      have h0 : (zsBy.getD i []).getD j 0 = a := hg 0 (by simp)
      refine t_J1_indexOfChar_4cfef_7 (d + 3) hi _ _ _ _ (br_f (fun z => by have := (nI_le_iff (a := (zsBy.getD i []).length) (b := j) (by omega) (by omega)).mp z; omega) ⟨vp_in_nI (by omega) (by omega), ?_⟩)
      rw [nI_clamp (by omega), h0, nI_1]
      unfold ixV at hK
      refine ⟨fun z => ?_, fun z => ?_⟩
      · rw [if_neg z] at hK
        exact ih (j + 1) (by omega) (fun k hk => by
          have := hg (k + 1) (by simp; omega)
          rw [show j + 1 + k = j + (k + 1) by omega, this]
          simp) hK
      · rw [if_pos z] at hK
        exact hK
  exact key _ 0 (by omega) (fun k hk => by rw [Nat.zero_add]) hK
end SM
