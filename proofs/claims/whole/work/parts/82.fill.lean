/-! Arrays.fill inside a constructor -/
theorem zok_r {n k : Nat} (h : k < n) : zok n (.ref k) := Or.inl h
def flx (xs : List zO) (i : Nat) (v : Int32) : Nat → List zO
  | 0 => xs
  | k + 1 => zmo (flx xs i v k) i (oI k v)
theorem flx_len (xs : List zO) (i : Nat) (v : Int32) : ∀ k, (flx xs i v k).length = xs.length
  | 0 => rfl
  | k + 1 => (zmo_len _ _ _).trans (flx_len xs i v k)
theorem flx_app {pre xs : List zO} {i : Nat} {v : Int32} : ∀ k, flx (pre ++ xs) (pre.length + i) v k = pre ++ flx xs i v k
  | 0 => rfl
  | k + 1 => by
    show zmo (flx (pre ++ xs) _ v k) _ _ = _
    rw [flx_app k, zmo_app]
    rfl
theorem flx_s {os : List zO} {a : Nat} {v : Int32} (ha : a < os.length) (b : Nat) : ∀ k, zs (zhl (flx os a v k)) b = zs (zhl os) b
  | 0 => rfl
  | k + 1 => by
    show zs (zhl (zmo (flx os a v k) a (oI k v))) b = _
    rw [← zhl_I (by rw [flx_len]; exact ha)]
    exact flx_s ha b k
theorem flx_c {os : List zO} {a : Nat} {v : Int32} (h : hCl os) : ∀ k, hCl (flx os a v k)
  | 0 => h
  | k + 1 => hCl_I (flx_c h k) a k v
theorem c_fill {C : zC} {os : List zO} (d : Nat) {a n : Nat} (v : Int32) (hs : zs (zhl os) a = (12, n)) (ha : a < os.length) (hn : n < 2 ^ 31) (hc : hCl os) (K : Option Value → zH → Prop) (hK : hCl (flx os a v n) → K none (zhl (flx os a v n))) : CallSem C Y_J7_fill_53178 (d + 1) 0 0 [.ref a, .int v] (zhl os) K := by
  refine S_enter (by decide) (Nat.le_of_ble_eq_true rfl) ?_
  refine S_lv (lv' := [(0, .ref a), (1, .int v)]) rfl ?_
  refine S_iconst (v := 0) dJ7_fill_53178_0 (by decide) ?_
  refine S_istore_n dJ7_fill_53178_1 rfl (by decide) rfl ?_
  refine S_aload_n 1 dJ7_fill_53178_2 rfl rfl ?_
  refine S_alen_i (v := (Int32.ofNat n)) hs rfl dJ7_fill_53178_3 ?_
  refine S_istore_n dJ7_fill_53178_4 rfl (by decide) rfl ?_
  refine S_sub (lv' := [(0, .ref a), (1, .int v), (2, .int 0), (3, .int (Int32.ofNat n))]) [2, 3, 1, 0] rfl ?_
  refine count_up (P := fun i => Sem C (zQm C (zhl os) 0 0 K) (zn (zhl os)) Y_J7_fill_53178 (zrm (d + 1) 0 0) 5 [(0, .ref a), (1, .int v), (2, .int (nI i)), (3, .int (Int32.ofNat n))] [] (zhl (flx os a v i)) 0 0) n ?_ (fun i hi ih => ?_) 0 (Nat.zero_le n)
  · refine S_iload_n 2 dJ7_fill_53178_5 rfl rfl ?_
    refine S_iload_n 3 dJ7_fill_53178_6 rfl rfl ?_
    refine S_icmp_ge (tgt := 20) dJ7_fill_53178_7 (by decide) (fun q1 => ?_) (fun q1 => absurd (Int32.le_refl _) q1)
    exact S_vret rfl dJ7_fill_53178_20 (hK (flx_c hc n))
  · refine S_iload_n 2 dJ7_fill_53178_5 rfl rfl ?_
    refine S_iload_n 3 dJ7_fill_53178_6 rfl rfl ?_
    refine S_icmp_ge (tgt := 20) dJ7_fill_53178_7 (by decide) (fun q1 => absurd q1 (nI_ge hi hn)) (fun q1 => ?_)
    refine S_aload_n 0 dJ7_fill_53178_10 rfl rfl ?_
    refine S_iload_n 2 dJ7_fill_53178_11 rfl rfl ?_
    refine S_iload_n 1 dJ7_fill_53178_12 rfl rfl ?_
    refine R_iast i ((flx_s ha a i).trans hs) (by rw [flx_len]; exact ha) (vp_in_nI hi hn) (nI_clamp (by omega)) (flx_c hc i) dJ7_fill_53178_13 (fun _ => ?_)
    refine S_iinc (v := nI (i + 1)) 2 dJ7_fill_53178_14 rfl (nI_1 i) (by decide) rfl ?_
    refine S_goto (tgt := 5) dJ7_fill_53178_17 (by decide) ?_
    exact S_sub [1, 2, 0, 3] rfl ih
section ZF
variable {C : zC} {Q : zQ} {n0 : Nat} {Y : zY} {rm : Room} {pc : Nat} {lv : List (Nat × Value)} {st : List Value} {pre xs xs' : List zO} {N cl sl : Nat}
theorem T_fill (i : Nat) {a n idx d : Nat} {x : Int32} {o : zO} (hN : pre.length = N) (ha : a = N + i) (ho : xs[i]? = some o) (hs : o.1 = (12, n)) (hx : flx xs i x n = xs') (hm : zmS Y.1.cls idx Y_J7_fill_53178 2) (hn : n < 2 ^ 31) (hr : (st.map fun v => v.category).sum ≤ 8) (hrm : zroom rm Y_J7_fill_53178 (d + 1) 0 0 cl sl) (hd : decode Y.2.1 pc = .ok (.invokestatic idx, 3)) (hc : hCl (pre ++ xs))
    (k : hCl (pre ++ xs') → Sem C Q n0 Y rm (pc + 3) lv st (zhl (pre ++ xs')) cl sl) : Sem C Q n0 Y rm pc lv (.int x :: .ref a :: st) (zhl (pre ++ xs)) cl sl := by
  obtain ⟨s1, s2, s3⟩ := T_s hN ha ho
  refine S_callS [.ref a, .int x] st hm rfl rfl hr hrm hd (c_fill d x (s1.trans hs) s3 hn hc _ (fun h => ?_))
  have e : flx (pre ++ xs) a x n = pre ++ xs' := by
    rw [ha, ← hN, flx_app, hx]
  rw [e] at h ⊢
  exact k h
end ZF
