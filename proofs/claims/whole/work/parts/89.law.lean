/-! THE LAW: its cases, one by one (by program: gen_law.py) -/
def Y_L (nm : String) : zY := (⟨RL, nm, "([I)Z"⟩, cL_law, 4, ret)
abbrev lsc (C : zC) (x k : Int32) : Int32 := C.2.2.2.2 (x + k).toNatClampNeg
theorem lcmp_self (r : Int64) : lg_cmp r r = 0 := by unfold lg_cmp; simp
section LC
variable {nm : String} {C : zC} {Q : zQ} {n0 cl sl : Nat} {I : Nat → Nat → Int32} {L : Nat → Nat → Int64} {M : Nat → Nat → Option Nat}
theorem lroom {cl sl : Nat} (d : Nat) {Yc : zY} (hY : Yc.2.2.1 ≤ 21) (h1 : cl ≤ 600000) (h2 : sl ≤ 7302250) (hd : d ≤ 1000 := by omega) : zroom room_1 Yc d 0 0 cl sl := ⟨by show d + 1 ≤ 2048; omega, by show _ ≤ 84000; omega, h1, h2⟩
/-- guest -/
theorem lc_0 (hI : Inv I L M) (hcl : cl ≤ 600000) (hsl : sl ≤ 7302250) {x : Int32} (h1 : vp_in (x + 1) C.2.2.2.1) (h2 : vp_in (x + 2) C.2.2.2.1) (h3 : vp_in (x + 3) C.2.2.2.1) (h4 : vp_in (x + 4) C.2.2.2.1) (h5 : vp_in (x + 5) C.2.2.2.1) (T : ∀ I' L' M', Inv I' L' M' → Sem C Q n0 (Y_L nm) room_1 1351 [(0, .ref 1000002), (1, .ref 0), (2, .ref 265), (3, .int x)] [] (zmk I' L' M') cl sl) : Sem C Q n0 (Y_L nm) room_1 184 [(0, .ref 1000002), (1, .ref 0), (2, .ref 265), (3, .int x)] [] (zmk I L M) cl sl := by
  refine S_aload_n 1 dL_law_184 rfl rfl ?_
  refine S_aload_n 0 dL_law_185 rfl rfl ?_
  refine S_iload_n 3 dL_law_186 rfl rfl ?_
  refine S_iconst (v := 1) dL_law_187 (by decide) ?_
  refine S_iadd dL_law_188 ?_
  refine S_sc_ld h1 dL_law_189 ?_
  refine S_aload_n 0 dL_law_190 rfl rfl ?_
  refine S_iload_n 3 dL_law_191 rfl rfl ?_
  refine S_iconst (v := 2) dL_law_192 (by decide) ?_
  refine S_iadd dL_law_193 ?_
  refine S_sc_ld h2 dL_law_194 ?_
  refine S_aload_n 0 dL_law_195 rfl rfl ?_
  refine S_iload_n 3 dL_law_196 rfl rfl ?_
  refine S_iconst (v := 3) dL_law_197 (by decide) ?_
  refine S_iadd dL_law_198 ?_
  refine S_sc_ld h3 dL_law_199 ?_
  refine S_callV [.int _, .int _, .int _] [] m_RL_13 rfl rfl s_0 ⟨rfl, by omega⟩ (Nat.le_of_ble_eq_true rfl) (lroom 40 (by decide) hcl hsl) dL_law_200 (CallSem_mono (pr_guest 28 hI _ _ _) ?_)
  rintro v h' ⟨r, I1, L1, M1, rfl, rfl, q1⟩
  show Sem _ _ _ _ _ _ _ [.int r] _ _ _
  refine S_aload_n 2 dL_law_203 rfl rfl ?_
  refine S_aload_n 0 dL_law_204 rfl rfl ?_
  refine S_iload_n 3 dL_law_205 rfl rfl ?_
  refine S_iconst (v := 1) dL_law_206 (by decide) ?_
  refine S_iadd dL_law_207 ?_
  refine S_sc_ld h1 dL_law_208 ?_
  refine S_aload_n 0 dL_law_209 rfl rfl ?_
  refine S_iload_n 3 dL_law_210 rfl rfl ?_
  refine S_iconst (v := 2) dL_law_211 (by decide) ?_
  refine S_iadd dL_law_212 ?_
  refine S_sc_ld h2 dL_law_213 ?_
  refine S_aload_n 0 dL_law_214 rfl rfl ?_
  refine S_iload_n 3 dL_law_215 rfl rfl ?_
  refine S_iconst (v := 3) dL_law_216 (by decide) ?_
  refine S_iadd dL_law_217 ?_
  refine S_sc_ld h3 dL_law_218 ?_
  refine S_callV [.int _, .int _, .int _] [.int r] m_RL_17 rfl rfl s_265 ⟨rfl, by omega⟩ (Nat.le_of_ble_eq_true rfl) (lroom 40 (by decide) hcl hsl) dL_law_219 (CallSem_mono q1 ?_)
  rintro v h' ⟨r2, I2, L2, M2, rfl, rfl, rfl, q2⟩
  show Sem _ _ _ _ _ _ _ [.int _, .int _] _ _ _
  refine S_icmp_eq (tgt := 1351) dL_law_222 (by decide) (fun _ => ?_) (fun q => absurd rfl q)
  exact T _ _ _ q2
/-- of -/
theorem lc_1 (hI : Inv I L M) (hcl : cl ≤ 600000) (hsl : sl ≤ 7302250) {x : Int32} (h1 : vp_in (x + 1) C.2.2.2.1) (h2 : vp_in (x + 2) C.2.2.2.1) (h3 : vp_in (x + 3) C.2.2.2.1) (h4 : vp_in (x + 4) C.2.2.2.1) (h5 : vp_in (x + 5) C.2.2.2.1) (T : ∀ I' L' M', Inv I' L' M' → Sem C Q n0 (Y_L nm) room_1 1351 [(0, .ref 1000002), (1, .ref 0), (2, .ref 265), (3, .int x)] [] (zmk I' L' M') cl sl) : Sem C Q n0 (Y_L nm) room_1 227 [(0, .ref 1000002), (1, .ref 0), (2, .ref 265), (3, .int x)] [] (zmk I L M) cl sl := by
  refine S_aload_n 1 dL_law_227 rfl rfl ?_
  refine S_aload_n 0 dL_law_228 rfl rfl ?_
  refine S_iload_n 3 dL_law_229 rfl rfl ?_
  refine S_iconst (v := 1) dL_law_230 (by decide) ?_
  refine S_iadd dL_law_231 ?_
  refine S_sc_ld h1 dL_law_232 ?_
  refine S_aload_n 0 dL_law_233 rfl rfl ?_
  refine S_iload_n 3 dL_law_234 rfl rfl ?_
  refine S_iconst (v := 2) dL_law_235 (by decide) ?_
  refine S_iadd dL_law_236 ?_
  refine S_sc_ld h2 dL_law_237 ?_
  refine S_callV [.int _, .int _] [] m_RL_18 rfl rfl s_0 ⟨rfl, by omega⟩ (Nat.le_of_ble_eq_true rfl) (lroom 40 (by decide) hcl hsl) dL_law_238 (CallSem_mono (pr_of 28 hI _ _) ?_)
  rintro v h' ⟨r, I1, L1, M1, rfl, rfl, q1⟩
  show Sem _ _ _ _ _ _ _ [.int r] _ _ _
  refine S_aload_n 2 dL_law_241 rfl rfl ?_
  refine S_aload_n 0 dL_law_242 rfl rfl ?_
  refine S_iload_n 3 dL_law_243 rfl rfl ?_
  refine S_iconst (v := 1) dL_law_244 (by decide) ?_
  refine S_iadd dL_law_245 ?_
  refine S_sc_ld h1 dL_law_246 ?_
  refine S_aload_n 0 dL_law_247 rfl rfl ?_
  refine S_iload_n 3 dL_law_248 rfl rfl ?_
  refine S_iconst (v := 2) dL_law_249 (by decide) ?_
  refine S_iadd dL_law_250 ?_
  refine S_sc_ld h2 dL_law_251 ?_
  refine S_callV [.int _, .int _] [.int r] m_RL_22 rfl rfl s_265 ⟨rfl, by omega⟩ (Nat.le_of_ble_eq_true rfl) (lroom 40 (by decide) hcl hsl) dL_law_252 (CallSem_mono q1 ?_)
  rintro v h' ⟨r2, I2, L2, M2, rfl, rfl, rfl, q2⟩
  show Sem _ _ _ _ _ _ _ [.int _, .int _] _ _ _
  refine S_icmp_eq (tgt := 1351) dL_law_255 (by decide) (fun _ => ?_) (fun q => absurd rfl q)
  exact T _ _ _ q2
/-- set -/
theorem lc_2 (hI : Inv I L M) (hcl : cl ≤ 600000) (hsl : sl ≤ 7302250) {x : Int32} (h1 : vp_in (x + 1) C.2.2.2.1) (h2 : vp_in (x + 2) C.2.2.2.1) (h3 : vp_in (x + 3) C.2.2.2.1) (h4 : vp_in (x + 4) C.2.2.2.1) (h5 : vp_in (x + 5) C.2.2.2.1) (T : ∀ I' L' M', Inv I' L' M' → Sem C Q n0 (Y_L nm) room_1 1351 [(0, .ref 1000002), (1, .ref 0), (2, .ref 265), (3, .int x)] [] (zmk I' L' M') cl sl) : Sem C Q n0 (Y_L nm) room_1 260 [(0, .ref 1000002), (1, .ref 0), (2, .ref 265), (3, .int x)] [] (zmk I L M) cl sl := by
  refine S_aload_n 1 dL_law_260 rfl rfl ?_
  refine S_aload_n 0 dL_law_261 rfl rfl ?_
  refine S_iload_n 3 dL_law_262 rfl rfl ?_
  refine S_iconst (v := 1) dL_law_263 (by decide) ?_
  refine S_iadd dL_law_264 ?_
  refine S_sc_ld h1 dL_law_265 ?_
  refine S_aload_n 0 dL_law_266 rfl rfl ?_
  refine S_iload_n 3 dL_law_267 rfl rfl ?_
  refine S_iconst (v := 2) dL_law_268 (by decide) ?_
  refine S_iadd dL_law_269 ?_
  refine S_sc_ld h2 dL_law_270 ?_
  refine S_aload_n 0 dL_law_271 rfl rfl ?_
  refine S_iload_n 3 dL_law_272 rfl rfl ?_
  refine S_iconst (v := 3) dL_law_273 (by decide) ?_
  refine S_iadd dL_law_274 ?_
  refine S_sc_ld h3 dL_law_275 ?_
  refine S_callV [.int _, .int _, .int _] [] m_RL_23 rfl rfl s_0 ⟨rfl, by omega⟩ (Nat.le_of_ble_eq_true rfl) (lroom 40 (by decide) hcl hsl) dL_law_276 (CallSem_mono (pr_set 28 hI _ _ _) ?_)
  rintro v h' ⟨r, I1, L1, M1, rfl, rfl, q1⟩
  show Sem _ _ _ _ _ _ _ [.int r] _ _ _
  refine S_aload_n 2 dL_law_279 rfl rfl ?_
  refine S_aload_n 0 dL_law_280 rfl rfl ?_
  refine S_iload_n 3 dL_law_281 rfl rfl ?_
  refine S_iconst (v := 1) dL_law_282 (by decide) ?_
  refine S_iadd dL_law_283 ?_
  refine S_sc_ld h1 dL_law_284 ?_
  refine S_aload_n 0 dL_law_285 rfl rfl ?_
  refine S_iload_n 3 dL_law_286 rfl rfl ?_
  refine S_iconst (v := 2) dL_law_287 (by decide) ?_
  refine S_iadd dL_law_288 ?_
  refine S_sc_ld h2 dL_law_289 ?_
  refine S_aload_n 0 dL_law_290 rfl rfl ?_
  refine S_iload_n 3 dL_law_291 rfl rfl ?_
  refine S_iconst (v := 3) dL_law_292 (by decide) ?_
  refine S_iadd dL_law_293 ?_
  refine S_sc_ld h3 dL_law_294 ?_
  refine S_callV [.int _, .int _, .int _] [.int r] m_RL_26 rfl rfl s_265 ⟨rfl, by omega⟩ (Nat.le_of_ble_eq_true rfl) (lroom 40 (by decide) hcl hsl) dL_law_295 (CallSem_mono q1 ?_)
  rintro v h' ⟨r2, I2, L2, M2, rfl, rfl, rfl, q2⟩
  show Sem _ _ _ _ _ _ _ [.int _, .int _] _ _ _
  refine S_icmp_eq (tgt := 1351) dL_law_298 (by decide) (fun _ => ?_) (fun q => absurd rfl q)
  exact T _ _ _ q2
/-- weight -/
theorem lc_3 (hI : Inv I L M) (hcl : cl ≤ 600000) (hsl : sl ≤ 7302250) {x : Int32} (h1 : vp_in (x + 1) C.2.2.2.1) (h2 : vp_in (x + 2) C.2.2.2.1) (h3 : vp_in (x + 3) C.2.2.2.1) (h4 : vp_in (x + 4) C.2.2.2.1) (h5 : vp_in (x + 5) C.2.2.2.1) (T : ∀ I' L' M', Inv I' L' M' → Sem C Q n0 (Y_L nm) room_1 1351 [(0, .ref 1000002), (1, .ref 0), (2, .ref 265), (3, .int x)] [] (zmk I' L' M') cl sl) : Sem C Q n0 (Y_L nm) room_1 303 [(0, .ref 1000002), (1, .ref 0), (2, .ref 265), (3, .int x)] [] (zmk I L M) cl sl := by
  refine S_aload_n 1 dL_law_303 rfl rfl ?_
  refine S_aload_n 0 dL_law_304 rfl rfl ?_
  refine S_iload_n 3 dL_law_305 rfl rfl ?_
  refine S_iconst (v := 1) dL_law_306 (by decide) ?_
  refine S_iadd dL_law_307 ?_
  refine S_sc_ld h1 dL_law_308 ?_
  refine S_aload_n 0 dL_law_309 rfl rfl ?_
  refine S_iload_n 3 dL_law_310 rfl rfl ?_
  refine S_iconst (v := 2) dL_law_311 (by decide) ?_
  refine S_iadd dL_law_312 ?_
  refine S_sc_ld h2 dL_law_313 ?_
  refine S_callV [.int _, .int _] [] m_RL_27 rfl rfl s_0 ⟨rfl, by omega⟩ (Nat.le_of_ble_eq_true rfl) (lroom 40 (by decide) hcl hsl) dL_law_314 (CallSem_mono (pr_weight 28 hI _ _) ?_)
  rintro v h' ⟨r, I1, L1, M1, rfl, rfl, q1⟩
  show Sem _ _ _ _ _ _ _ [.int r] _ _ _
  refine S_aload_n 2 dL_law_317 rfl rfl ?_
  refine S_aload_n 0 dL_law_318 rfl rfl ?_
  refine S_iload_n 3 dL_law_319 rfl rfl ?_
  refine S_iconst (v := 1) dL_law_320 (by decide) ?_
  refine S_iadd dL_law_321 ?_
  refine S_sc_ld h1 dL_law_322 ?_
  refine S_aload_n 0 dL_law_323 rfl rfl ?_
  refine S_iload_n 3 dL_law_324 rfl rfl ?_
  refine S_iconst (v := 2) dL_law_325 (by decide) ?_
  refine S_iadd dL_law_326 ?_
  refine S_sc_ld h2 dL_law_327 ?_
  refine S_callV [.int _, .int _] [.int r] m_RL_30 rfl rfl s_265 ⟨rfl, by omega⟩ (Nat.le_of_ble_eq_true rfl) (lroom 40 (by decide) hcl hsl) dL_law_328 (CallSem_mono q1 ?_)
  rintro v h' ⟨r2, I2, L2, M2, rfl, rfl, rfl, q2⟩
  show Sem _ _ _ _ _ _ _ [.int _, .int _] _ _ _
  refine S_icmp_eq (tgt := 1351) dL_law_331 (by decide) (fun _ => ?_) (fun q => absurd rfl q)
  exact T _ _ _ q2
/-- stay -/
theorem lc_4 (hI : Inv I L M) (hcl : cl ≤ 600000) (hsl : sl ≤ 7302250) {x : Int32} (h1 : vp_in (x + 1) C.2.2.2.1) (h2 : vp_in (x + 2) C.2.2.2.1) (h3 : vp_in (x + 3) C.2.2.2.1) (h4 : vp_in (x + 4) C.2.2.2.1) (h5 : vp_in (x + 5) C.2.2.2.1) (T : ∀ I' L' M', Inv I' L' M' → Sem C Q n0 (Y_L nm) room_1 1351 [(0, .ref 1000002), (1, .ref 0), (2, .ref 265), (3, .int x)] [] (zmk I' L' M') cl sl) : Sem C Q n0 (Y_L nm) room_1 336 [(0, .ref 1000002), (1, .ref 0), (2, .ref 265), (3, .int x)] [] (zmk I L M) cl sl := by
  refine S_aload_n 1 dL_law_336 rfl rfl ?_
  refine S_aload_n 0 dL_law_337 rfl rfl ?_
  refine S_iload_n 3 dL_law_338 rfl rfl ?_
  refine S_iconst (v := 1) dL_law_339 (by decide) ?_
  refine S_iadd dL_law_340 ?_
  refine S_sc_ld h1 dL_law_341 ?_
  refine S_aload_n 0 dL_law_342 rfl rfl ?_
  refine S_iload_n 3 dL_law_343 rfl rfl ?_
  refine S_iconst (v := 2) dL_law_344 (by decide) ?_
  refine S_iadd dL_law_345 ?_
  refine S_sc_ld h2 dL_law_346 ?_
  refine S_if_eq (tgt := 354) dL_law_347 (by decide) (fun z2 => ?_) (fun z2 => ?_)
  ·
    refine S_iconst (v := 0) dL_law_354 (by decide) ?_
    refine S_callV [.int _, .int _] [] m_RL_31 rfl rfl s_0 ⟨rfl, by omega⟩ (Nat.le_of_ble_eq_true rfl) (lroom 40 (by decide) hcl hsl) dL_law_355 (CallSem_mono (pr_stay 28 hI _ _ (Or.inl rfl)) ?_)
    rintro v h' ⟨r, I1, L1, M1, rfl, rfl, q1⟩
    show Sem _ _ _ _ _ _ _ [.int r] _ _ _
    refine S_aload_n 2 dL_law_358 rfl rfl ?_
    refine S_aload_n 0 dL_law_359 rfl rfl ?_
    refine S_iload_n 3 dL_law_360 rfl rfl ?_
    refine S_iconst (v := 1) dL_law_361 (by decide) ?_
    refine S_iadd dL_law_362 ?_
    refine S_sc_ld h1 dL_law_363 ?_
    refine S_aload_n 0 dL_law_364 rfl rfl ?_
    refine S_iload_n 3 dL_law_365 rfl rfl ?_
    refine S_iconst (v := 2) dL_law_366 (by decide) ?_
    refine S_iadd dL_law_367 ?_
    refine S_sc_ld h2 dL_law_368 ?_
    refine S_if_eq (tgt := 376) dL_law_369 (by decide) (fun _ => ?_) (fun q => absurd z2 q)
    refine S_iconst (v := 0) dL_law_376 (by decide) ?_
    refine S_callV [.int _, .int _] [.int r] m_RL_35 rfl rfl s_265 ⟨rfl, by omega⟩ (Nat.le_of_ble_eq_true rfl) (lroom 40 (by decide) hcl hsl) dL_law_377 (CallSem_mono q1 ?_)
    rintro v h' ⟨r2, I2, L2, M2, rfl, rfl, rfl, q2⟩
    show Sem _ _ _ _ _ _ _ [.int _, .int _] _ _ _
    refine S_icmp_eq (tgt := 1351) dL_law_380 (by decide) (fun _ => ?_) (fun q => absurd rfl q)
    exact T _ _ _ q2
  ·
    refine S_iconst (v := 1) dL_law_350 (by decide) ?_
    refine S_goto (tgt := 355) dL_law_351 (by decide) ?_
    refine S_callV [.int _, .int _] [] m_RL_31 rfl rfl s_0 ⟨rfl, by omega⟩ (Nat.le_of_ble_eq_true rfl) (lroom 40 (by decide) hcl hsl) dL_law_355 (CallSem_mono (pr_stay 28 hI _ _ (Or.inr rfl)) ?_)
    rintro v h' ⟨r, I1, L1, M1, rfl, rfl, q1⟩
    show Sem _ _ _ _ _ _ _ [.int r] _ _ _
    refine S_aload_n 2 dL_law_358 rfl rfl ?_
    refine S_aload_n 0 dL_law_359 rfl rfl ?_
    refine S_iload_n 3 dL_law_360 rfl rfl ?_
    refine S_iconst (v := 1) dL_law_361 (by decide) ?_
    refine S_iadd dL_law_362 ?_
    refine S_sc_ld h1 dL_law_363 ?_
    refine S_aload_n 0 dL_law_364 rfl rfl ?_
    refine S_iload_n 3 dL_law_365 rfl rfl ?_
    refine S_iconst (v := 2) dL_law_366 (by decide) ?_
    refine S_iadd dL_law_367 ?_
    refine S_sc_ld h2 dL_law_368 ?_
    refine S_if_eq (tgt := 376) dL_law_369 (by decide) (fun q => absurd q z2) (fun _ => ?_)
    refine S_iconst (v := 1) dL_law_372 (by decide) ?_
    refine S_goto (tgt := 377) dL_law_373 (by decide) ?_
    refine S_callV [.int _, .int _] [.int r] m_RL_35 rfl rfl s_265 ⟨rfl, by omega⟩ (Nat.le_of_ble_eq_true rfl) (lroom 40 (by decide) hcl hsl) dL_law_377 (CallSem_mono q1 ?_)
    rintro v h' ⟨r2, I2, L2, M2, rfl, rfl, rfl, q2⟩
    show Sem _ _ _ _ _ _ _ [.int _, .int _] _ _ _
    refine S_icmp_eq (tgt := 1351) dL_law_380 (by decide) (fun _ => ?_) (fun q => absurd rfl q)
    exact T _ _ _ q2
/-- redeem -/
theorem lc_5 (hI : Inv I L M) (hcl : cl ≤ 600000) (hsl : sl ≤ 7302250) {x : Int32} (h1 : vp_in (x + 1) C.2.2.2.1) (h2 : vp_in (x + 2) C.2.2.2.1) (h3 : vp_in (x + 3) C.2.2.2.1) (h4 : vp_in (x + 4) C.2.2.2.1) (h5 : vp_in (x + 5) C.2.2.2.1) (T : ∀ I' L' M', Inv I' L' M' → Sem C Q n0 (Y_L nm) room_1 1351 [(0, .ref 1000002), (1, .ref 0), (2, .ref 265), (3, .int x)] [] (zmk I' L' M') cl sl) : Sem C Q n0 (Y_L nm) room_1 385 [(0, .ref 1000002), (1, .ref 0), (2, .ref 265), (3, .int x)] [] (zmk I L M) cl sl := by
  refine S_aload_n 1 dL_law_385 rfl rfl ?_
  refine S_aload_n 0 dL_law_386 rfl rfl ?_
  refine S_iload_n 3 dL_law_387 rfl rfl ?_
  refine S_iconst (v := 1) dL_law_388 (by decide) ?_
  refine S_iadd dL_law_389 ?_
  refine S_sc_ld h1 dL_law_390 ?_
  refine S_aload_n 0 dL_law_391 rfl rfl ?_
  refine S_iload_n 3 dL_law_392 rfl rfl ?_
  refine S_iconst (v := 2) dL_law_393 (by decide) ?_
  refine S_iadd dL_law_394 ?_
  refine S_sc_ld h2 dL_law_395 ?_
  refine S_callV [.int _, .int _] [] m_RL_36 rfl rfl s_0 ⟨rfl, by omega⟩ (Nat.le_of_ble_eq_true rfl) (lroom 40 (by decide) hcl hsl) dL_law_396 (CallSem_mono (pr_redeem 28 hI _ _) ?_)
  rintro v h' ⟨r, I1, L1, M1, rfl, rfl, q1⟩
  show Sem _ _ _ _ _ _ _ [.int r] _ _ _
  refine S_aload_n 2 dL_law_399 rfl rfl ?_
  refine S_aload_n 0 dL_law_400 rfl rfl ?_
  refine S_iload_n 3 dL_law_401 rfl rfl ?_
  refine S_iconst (v := 1) dL_law_402 (by decide) ?_
  refine S_iadd dL_law_403 ?_
  refine S_sc_ld h1 dL_law_404 ?_
  refine S_aload_n 0 dL_law_405 rfl rfl ?_
  refine S_iload_n 3 dL_law_406 rfl rfl ?_
  refine S_iconst (v := 2) dL_law_407 (by decide) ?_
  refine S_iadd dL_law_408 ?_
  refine S_sc_ld h2 dL_law_409 ?_
  refine S_callV [.int _, .int _] [.int r] m_RL_39 rfl rfl s_265 ⟨rfl, by omega⟩ (Nat.le_of_ble_eq_true rfl) (lroom 40 (by decide) hcl hsl) dL_law_410 (CallSem_mono q1 ?_)
  rintro v h' ⟨r2, I2, L2, M2, rfl, rfl, rfl, q2⟩
  show Sem _ _ _ _ _ _ _ [.int _, .int _] _ _ _
  refine S_icmp_eq (tgt := 1351) dL_law_413 (by decide) (fun _ => ?_) (fun q => absurd rfl q)
  exact T _ _ _ q2
/-- row -/
theorem lc_6 (hI : Inv I L M) (hcl : cl ≤ 600000) (hsl : sl ≤ 7302250) {x : Int32} (h1 : vp_in (x + 1) C.2.2.2.1) (h2 : vp_in (x + 2) C.2.2.2.1) (h3 : vp_in (x + 3) C.2.2.2.1) (h4 : vp_in (x + 4) C.2.2.2.1) (h5 : vp_in (x + 5) C.2.2.2.1) (T : ∀ I' L' M', Inv I' L' M' → Sem C Q n0 (Y_L nm) room_1 1351 [(0, .ref 1000002), (1, .ref 0), (2, .ref 265), (3, .int x)] [] (zmk I' L' M') cl sl) : Sem C Q n0 (Y_L nm) room_1 418 [(0, .ref 1000002), (1, .ref 0), (2, .ref 265), (3, .int x)] [] (zmk I L M) cl sl := by
  refine S_aload_n 1 dL_law_418 rfl rfl ?_
  refine S_aload_n 0 dL_law_419 rfl rfl ?_
  refine S_iload_n 3 dL_law_420 rfl rfl ?_
  refine S_iconst (v := 1) dL_law_421 (by decide) ?_
  refine S_iadd dL_law_422 ?_
  refine S_sc_ld h1 dL_law_423 ?_
  refine S_aload_n 0 dL_law_424 rfl rfl ?_
  refine S_iload_n 3 dL_law_425 rfl rfl ?_
  refine S_iconst (v := 2) dL_law_426 (by decide) ?_
  refine S_iadd dL_law_427 ?_
  refine S_sc_ld h2 dL_law_428 ?_
  refine S_aload_n 0 dL_law_429 rfl rfl ?_
  refine S_iload_n 3 dL_law_430 rfl rfl ?_
  refine S_iconst (v := 3) dL_law_431 (by decide) ?_
  refine S_iadd dL_law_432 ?_
  refine S_sc_ld h3 dL_law_433 ?_
  refine S_callV [.int _, .int _, .int _] [] m_RL_40 rfl rfl s_0 ⟨rfl, by omega⟩ (Nat.le_of_ble_eq_true rfl) (lroom 40 (by decide) hcl hsl) dL_law_434 (CallSem_mono (pr_row 28 hI _ _ _) ?_)
  rintro v h' ⟨r, I1, L1, M1, rfl, rfl, q1⟩
  show Sem _ _ _ _ _ _ _ [.int r] _ _ _
  refine S_aload_n 2 dL_law_437 rfl rfl ?_
  refine S_aload_n 0 dL_law_438 rfl rfl ?_
  refine S_iload_n 3 dL_law_439 rfl rfl ?_
  refine S_iconst (v := 1) dL_law_440 (by decide) ?_
  refine S_iadd dL_law_441 ?_
  refine S_sc_ld h1 dL_law_442 ?_
  refine S_aload_n 0 dL_law_443 rfl rfl ?_
  refine S_iload_n 3 dL_law_444 rfl rfl ?_
  refine S_iconst (v := 2) dL_law_445 (by decide) ?_
  refine S_iadd dL_law_446 ?_
  refine S_sc_ld h2 dL_law_447 ?_
  refine S_aload_n 0 dL_law_448 rfl rfl ?_
  refine S_iload_n 3 dL_law_449 rfl rfl ?_
  refine S_iconst (v := 3) dL_law_450 (by decide) ?_
  refine S_iadd dL_law_451 ?_
  refine S_sc_ld h3 dL_law_452 ?_
  refine S_callV [.int _, .int _, .int _] [.int r] m_RL_43 rfl rfl s_265 ⟨rfl, by omega⟩ (Nat.le_of_ble_eq_true rfl) (lroom 40 (by decide) hcl hsl) dL_law_453 (CallSem_mono q1 ?_)
  rintro v h' ⟨r2, I2, L2, M2, rfl, rfl, rfl, q2⟩
  show Sem _ _ _ _ _ _ _ [.int _, .int _] _ _ _
  refine S_icmp_eq (tgt := 1351) dL_law_456 (by decide) (fun _ => ?_) (fun q => absurd rfl q)
  exact T _ _ _ q2
/-- feed -/
theorem lc_7 (hI : Inv I L M) (hcl : cl ≤ 600000) (hsl : sl ≤ 7302250) {x : Int32} (h1 : vp_in (x + 1) C.2.2.2.1) (h2 : vp_in (x + 2) C.2.2.2.1) (h3 : vp_in (x + 3) C.2.2.2.1) (h4 : vp_in (x + 4) C.2.2.2.1) (h5 : vp_in (x + 5) C.2.2.2.1) (T : ∀ I' L' M', Inv I' L' M' → Sem C Q n0 (Y_L nm) room_1 1351 [(0, .ref 1000002), (1, .ref 0), (2, .ref 265), (3, .int x)] [] (zmk I' L' M') cl sl) : Sem C Q n0 (Y_L nm) room_1 461 [(0, .ref 1000002), (1, .ref 0), (2, .ref 265), (3, .int x)] [] (zmk I L M) cl sl := by
  refine S_aload_n 1 dL_law_461 rfl rfl ?_
  refine S_aload_n 0 dL_law_462 rfl rfl ?_
  refine S_iload_n 3 dL_law_463 rfl rfl ?_
  refine S_iconst (v := 1) dL_law_464 (by decide) ?_
  refine S_iadd dL_law_465 ?_
  refine S_sc_ld h1 dL_law_466 ?_
  refine S_callV [.int _] [] m_RL_44 rfl rfl s_0 ⟨rfl, by omega⟩ (Nat.le_of_ble_eq_true rfl) (lroom 40 (by decide) hcl hsl) dL_law_467 (CallSem_mono (pr_feed 28 hI _) ?_)
  rintro v h' ⟨r, I1, L1, M1, rfl, rfl, q1⟩
  show Sem _ _ _ _ _ _ _ [.int r] _ _ _
  refine S_aload_n 2 dL_law_470 rfl rfl ?_
  refine S_aload_n 0 dL_law_471 rfl rfl ?_
  refine S_iload_n 3 dL_law_472 rfl rfl ?_
  refine S_iconst (v := 1) dL_law_473 (by decide) ?_
  refine S_iadd dL_law_474 ?_
  refine S_sc_ld h1 dL_law_475 ?_
  refine S_callV [.int _] [.int r] m_RL_48 rfl rfl s_265 ⟨rfl, by omega⟩ (Nat.le_of_ble_eq_true rfl) (lroom 40 (by decide) hcl hsl) dL_law_476 (CallSem_mono q1 ?_)
  rintro v h' ⟨r2, I2, L2, M2, rfl, rfl, rfl, q2⟩
  show Sem _ _ _ _ _ _ _ [.int _, .int _] _ _ _
  refine S_icmp_eq (tgt := 1351) dL_law_479 (by decide) (fun _ => ?_) (fun q => absurd rfl q)
  exact T _ _ _ q2
/-- house -/
theorem lc_8 (hI : Inv I L M) (hcl : cl ≤ 600000) (hsl : sl ≤ 7302250) {x : Int32} (h1 : vp_in (x + 1) C.2.2.2.1) (h2 : vp_in (x + 2) C.2.2.2.1) (h3 : vp_in (x + 3) C.2.2.2.1) (h4 : vp_in (x + 4) C.2.2.2.1) (h5 : vp_in (x + 5) C.2.2.2.1) (T : ∀ I' L' M', Inv I' L' M' → Sem C Q n0 (Y_L nm) room_1 1351 [(0, .ref 1000002), (1, .ref 0), (2, .ref 265), (3, .int x)] [] (zmk I' L' M') cl sl) : Sem C Q n0 (Y_L nm) room_1 484 [(0, .ref 1000002), (1, .ref 0), (2, .ref 265), (3, .int x)] [] (zmk I L M) cl sl := by
  refine S_aload_n 1 dL_law_484 rfl rfl ?_
  refine S_callV [] [] m_RL_49 rfl rfl s_0 ⟨rfl, by omega⟩ (Nat.le_of_ble_eq_true rfl) (lroom 40 (by decide) hcl hsl) dL_law_485 (CallSem_mono (pr_house 4 hI) ?_)
  rintro v h' ⟨r, I1, L1, M1, rfl, rfl, q1⟩
  show Sem _ _ _ _ _ _ _ [.int r] _ _ _
  refine S_aload_n 2 dL_law_488 rfl rfl ?_
  refine S_callV [] [.int r] m_RL_53 rfl rfl s_265 ⟨rfl, by omega⟩ (Nat.le_of_ble_eq_true rfl) (lroom 40 (by decide) hcl hsl) dL_law_489 (CallSem_mono q1 ?_)
  rintro v h' ⟨r2, I2, L2, M2, rfl, rfl, rfl, q2⟩
  show Sem _ _ _ _ _ _ _ [.int _, .int _] _ _ _
  refine S_icmp_eq (tgt := 1351) dL_law_492 (by decide) (fun _ => ?_) (fun q => absurd rfl q)
  exact T _ _ _ q2
/-- told -/
theorem lc_9 (hI : Inv I L M) (hcl : cl ≤ 600000) (hsl : sl ≤ 7302250) {x : Int32} (h1 : vp_in (x + 1) C.2.2.2.1) (h2 : vp_in (x + 2) C.2.2.2.1) (h3 : vp_in (x + 3) C.2.2.2.1) (h4 : vp_in (x + 4) C.2.2.2.1) (h5 : vp_in (x + 5) C.2.2.2.1) (T : ∀ I' L' M', Inv I' L' M' → Sem C Q n0 (Y_L nm) room_1 1351 [(0, .ref 1000002), (1, .ref 0), (2, .ref 265), (3, .int x)] [] (zmk I' L' M') cl sl) : Sem C Q n0 (Y_L nm) room_1 497 [(0, .ref 1000002), (1, .ref 0), (2, .ref 265), (3, .int x)] [] (zmk I L M) cl sl := by
  refine S_aload_n 1 dL_law_497 rfl rfl ?_
  refine S_aload_n 0 dL_law_498 rfl rfl ?_
  refine S_iload_n 3 dL_law_499 rfl rfl ?_
  refine S_iconst (v := 1) dL_law_500 (by decide) ?_
  refine S_iadd dL_law_501 ?_
  refine S_sc_ld h1 dL_law_502 ?_
  refine S_callV [.int _] [] m_RL_54 rfl rfl s_0 ⟨rfl, by omega⟩ (Nat.le_of_ble_eq_true rfl) (lroom 40 (by decide) hcl hsl) dL_law_503 (CallSem_mono (pr_told 28 hI _) ?_)
  rintro v h' ⟨r, I1, L1, M1, rfl, rfl, q1⟩
  show Sem _ _ _ _ _ _ _ [.int r] _ _ _
  refine S_aload_n 2 dL_law_506 rfl rfl ?_
  refine S_aload_n 0 dL_law_507 rfl rfl ?_
  refine S_iload_n 3 dL_law_508 rfl rfl ?_
  refine S_iconst (v := 1) dL_law_509 (by decide) ?_
  refine S_iadd dL_law_510 ?_
  refine S_sc_ld h1 dL_law_511 ?_
  refine S_callV [.int _] [.int r] m_RL_57 rfl rfl s_265 ⟨rfl, by omega⟩ (Nat.le_of_ble_eq_true rfl) (lroom 40 (by decide) hcl hsl) dL_law_512 (CallSem_mono q1 ?_)
  rintro v h' ⟨r2, I2, L2, M2, rfl, rfl, rfl, q2⟩
  show Sem _ _ _ _ _ _ _ [.int _, .int _] _ _ _
  refine S_icmp_eq (tgt := 1351) dL_law_515 (by decide) (fun _ => ?_) (fun q => absurd rfl q)
  exact T _ _ _ q2
/-- pass -/
theorem lc_10 (hI : Inv I L M) (hcl : cl ≤ 600000) (hsl : sl ≤ 7302250) {x : Int32} (h1 : vp_in (x + 1) C.2.2.2.1) (h2 : vp_in (x + 2) C.2.2.2.1) (h3 : vp_in (x + 3) C.2.2.2.1) (h4 : vp_in (x + 4) C.2.2.2.1) (h5 : vp_in (x + 5) C.2.2.2.1) (T : ∀ I' L' M', Inv I' L' M' → Sem C Q n0 (Y_L nm) room_1 1351 [(0, .ref 1000002), (1, .ref 0), (2, .ref 265), (3, .int x)] [] (zmk I' L' M') cl sl) : Sem C Q n0 (Y_L nm) room_1 520 [(0, .ref 1000002), (1, .ref 0), (2, .ref 265), (3, .int x)] [] (zmk I L M) cl sl := by
  refine S_aload_n 1 dL_law_520 rfl rfl ?_
  refine S_aload_n 0 dL_law_521 rfl rfl ?_
  refine S_iload_n 3 dL_law_522 rfl rfl ?_
  refine S_iconst (v := 1) dL_law_523 (by decide) ?_
  refine S_iadd dL_law_524 ?_
  refine S_sc_ld h1 dL_law_525 ?_
  refine S_callV [.int _] [] m_RL_58 rfl rfl s_0 ⟨rfl, by omega⟩ (Nat.le_of_ble_eq_true rfl) (lroom 40 (by decide) hcl hsl) dL_law_526 (CallSem_mono (pr_pass 28 hI _) ?_)
  rintro v h' ⟨r, I1, L1, M1, rfl, rfl, q1⟩
  show Sem _ _ _ _ _ _ _ [.int r] _ _ _
  refine S_aload_n 2 dL_law_529 rfl rfl ?_
  refine S_aload_n 0 dL_law_530 rfl rfl ?_
  refine S_iload_n 3 dL_law_531 rfl rfl ?_
  refine S_iconst (v := 1) dL_law_532 (by decide) ?_
  refine S_iadd dL_law_533 ?_
  refine S_sc_ld h1 dL_law_534 ?_
  refine S_callV [.int _] [.int r] m_RL_61 rfl rfl s_265 ⟨rfl, by omega⟩ (Nat.le_of_ble_eq_true rfl) (lroom 40 (by decide) hcl hsl) dL_law_535 (CallSem_mono q1 ?_)
  rintro v h' ⟨r2, I2, L2, M2, rfl, rfl, rfl, q2⟩
  show Sem _ _ _ _ _ _ _ [.int _, .int _] _ _ _
  refine S_icmp_eq (tgt := 1351) dL_law_538 (by decide) (fun _ => ?_) (fun q => absurd rfl q)
  exact T _ _ _ q2
/-- on -/
theorem lc_11 (hI : Inv I L M) (hcl : cl ≤ 600000) (hsl : sl ≤ 7302250) {x : Int32} (h1 : vp_in (x + 1) C.2.2.2.1) (h2 : vp_in (x + 2) C.2.2.2.1) (h3 : vp_in (x + 3) C.2.2.2.1) (h4 : vp_in (x + 4) C.2.2.2.1) (h5 : vp_in (x + 5) C.2.2.2.1) (T : ∀ I' L' M', Inv I' L' M' → Sem C Q n0 (Y_L nm) room_1 1351 [(0, .ref 1000002), (1, .ref 0), (2, .ref 265), (3, .int x)] [] (zmk I' L' M') cl sl) : Sem C Q n0 (Y_L nm) room_1 543 [(0, .ref 1000002), (1, .ref 0), (2, .ref 265), (3, .int x)] [] (zmk I L M) cl sl := by
  refine S_aload_n 1 dL_law_543 rfl rfl ?_
  refine S_aload_n 0 dL_law_544 rfl rfl ?_
  refine S_iload_n 3 dL_law_545 rfl rfl ?_
  refine S_iconst (v := 1) dL_law_546 (by decide) ?_
  refine S_iadd dL_law_547 ?_
  refine S_sc_ld h1 dL_law_548 ?_
  refine S_aload_n 0 dL_law_549 rfl rfl ?_
  refine S_iload_n 3 dL_law_550 rfl rfl ?_
  refine S_iconst (v := 2) dL_law_551 (by decide) ?_
  refine S_iadd dL_law_552 ?_
  refine S_sc_ld h2 dL_law_553 ?_
  refine S_callV [.int _, .int _] [] m_RL_62 rfl rfl s_0 ⟨rfl, by omega⟩ (Nat.le_of_ble_eq_true rfl) (lroom 40 (by decide) hcl hsl) dL_law_554 (CallSem_mono (pr_on 28 hI _ _) ?_)
  rintro v h' ⟨r, I1, L1, M1, rfl, rfl, q1⟩
  show Sem _ _ _ _ _ _ _ [.int r] _ _ _
  refine S_aload_n 2 dL_law_557 rfl rfl ?_
  refine S_aload_n 0 dL_law_558 rfl rfl ?_
  refine S_iload_n 3 dL_law_559 rfl rfl ?_
  refine S_iconst (v := 1) dL_law_560 (by decide) ?_
  refine S_iadd dL_law_561 ?_
  refine S_sc_ld h1 dL_law_562 ?_
  refine S_aload_n 0 dL_law_563 rfl rfl ?_
  refine S_iload_n 3 dL_law_564 rfl rfl ?_
  refine S_iconst (v := 2) dL_law_565 (by decide) ?_
  refine S_iadd dL_law_566 ?_
  refine S_sc_ld h2 dL_law_567 ?_
  refine S_callV [.int _, .int _] [.int r] m_RL_65 rfl rfl s_265 ⟨rfl, by omega⟩ (Nat.le_of_ble_eq_true rfl) (lroom 40 (by decide) hcl hsl) dL_law_568 (CallSem_mono q1 ?_)
  rintro v h' ⟨r2, I2, L2, M2, rfl, rfl, rfl, q2⟩
  show Sem _ _ _ _ _ _ _ [.int _, .int _] _ _ _
  refine S_icmp_eq (tgt := 1351) dL_law_571 (by decide) (fun _ => ?_) (fun q => absurd rfl q)
  exact T _ _ _ q2
/-- lasts -/
theorem lc_12 (hI : Inv I L M) (hcl : cl ≤ 600000) (hsl : sl ≤ 7302250) {x : Int32} (h1 : vp_in (x + 1) C.2.2.2.1) (h2 : vp_in (x + 2) C.2.2.2.1) (h3 : vp_in (x + 3) C.2.2.2.1) (h4 : vp_in (x + 4) C.2.2.2.1) (h5 : vp_in (x + 5) C.2.2.2.1) (T : ∀ I' L' M', Inv I' L' M' → Sem C Q n0 (Y_L nm) room_1 1351 [(0, .ref 1000002), (1, .ref 0), (2, .ref 265), (3, .int x)] [] (zmk I' L' M') cl sl) : Sem C Q n0 (Y_L nm) room_1 576 [(0, .ref 1000002), (1, .ref 0), (2, .ref 265), (3, .int x)] [] (zmk I L M) cl sl := by
  refine S_aload_n 1 dL_law_576 rfl rfl ?_
  refine S_aload_n 0 dL_law_577 rfl rfl ?_
  refine S_iload_n 3 dL_law_578 rfl rfl ?_
  refine S_iconst (v := 1) dL_law_579 (by decide) ?_
  refine S_iadd dL_law_580 ?_
  refine S_sc_ld h1 dL_law_581 ?_
  refine S_aload_n 0 dL_law_582 rfl rfl ?_
  refine S_iload_n 3 dL_law_583 rfl rfl ?_
  refine S_iconst (v := 2) dL_law_584 (by decide) ?_
  refine S_iadd dL_law_585 ?_
  refine S_sc_ld h2 dL_law_586 ?_
  refine S_callV [.int _, .int _] [] m_RL_66 rfl rfl s_0 ⟨rfl, by omega⟩ (Nat.le_of_ble_eq_true rfl) (lroom 40 (by decide) hcl hsl) dL_law_587 (CallSem_mono (pr_lasts 28 hI _ _) ?_)
  rintro v h' ⟨r, I1, L1, M1, rfl, rfl, q1⟩
  show Sem _ _ _ _ _ _ _ [.int r] _ _ _
  refine S_aload_n 2 dL_law_590 rfl rfl ?_
  refine S_aload_n 0 dL_law_591 rfl rfl ?_
  refine S_iload_n 3 dL_law_592 rfl rfl ?_
  refine S_iconst (v := 1) dL_law_593 (by decide) ?_
  refine S_iadd dL_law_594 ?_
  refine S_sc_ld h1 dL_law_595 ?_
  refine S_aload_n 0 dL_law_596 rfl rfl ?_
  refine S_iload_n 3 dL_law_597 rfl rfl ?_
  refine S_iconst (v := 2) dL_law_598 (by decide) ?_
  refine S_iadd dL_law_599 ?_
  refine S_sc_ld h2 dL_law_600 ?_
  refine S_callV [.int _, .int _] [.int r] m_RL_69 rfl rfl s_265 ⟨rfl, by omega⟩ (Nat.le_of_ble_eq_true rfl) (lroom 40 (by decide) hcl hsl) dL_law_601 (CallSem_mono q1 ?_)
  rintro v h' ⟨r2, I2, L2, M2, rfl, rfl, rfl, q2⟩
  show Sem _ _ _ _ _ _ _ [.int _, .int _] _ _ _
  refine S_icmp_eq (tgt := 1351) dL_law_604 (by decide) (fun _ => ?_) (fun q => absurd rfl q)
  exact T _ _ _ q2
/-- decoys -/
theorem lc_13 (hI : Inv I L M) (hcl : cl ≤ 600000) (hsl : sl ≤ 7302250) {x : Int32} (h1 : vp_in (x + 1) C.2.2.2.1) (h2 : vp_in (x + 2) C.2.2.2.1) (h3 : vp_in (x + 3) C.2.2.2.1) (h4 : vp_in (x + 4) C.2.2.2.1) (h5 : vp_in (x + 5) C.2.2.2.1) (T : ∀ I' L' M', Inv I' L' M' → Sem C Q n0 (Y_L nm) room_1 1351 [(0, .ref 1000002), (1, .ref 0), (2, .ref 265), (3, .int x)] [] (zmk I' L' M') cl sl) : Sem C Q n0 (Y_L nm) room_1 609 [(0, .ref 1000002), (1, .ref 0), (2, .ref 265), (3, .int x)] [] (zmk I L M) cl sl := by
  refine S_aload_n 1 dL_law_609 rfl rfl ?_
  refine S_aload_n 0 dL_law_610 rfl rfl ?_
  refine S_iload_n 3 dL_law_611 rfl rfl ?_
  refine S_iconst (v := 1) dL_law_612 (by decide) ?_
  refine S_iadd dL_law_613 ?_
  refine S_sc_ld h1 dL_law_614 ?_
  refine S_aload_n 0 dL_law_615 rfl rfl ?_
  refine S_iload_n 3 dL_law_616 rfl rfl ?_
  refine S_iconst (v := 2) dL_law_617 (by decide) ?_
  refine S_iadd dL_law_618 ?_
  refine S_sc_ld h2 dL_law_619 ?_
  refine S_aload_n 0 dL_law_620 rfl rfl ?_
  refine S_iload_n 3 dL_law_621 rfl rfl ?_
  refine S_iconst (v := 3) dL_law_622 (by decide) ?_
  refine S_iadd dL_law_623 ?_
  refine S_sc_ld h3 dL_law_624 ?_
  refine S_callV [.int _, .int _, .int _] [] m_RL_70 rfl rfl s_0 ⟨rfl, by omega⟩ (Nat.le_of_ble_eq_true rfl) (lroom 40 (by decide) hcl hsl) dL_law_625 (CallSem_mono (pr_decoys 28 hI _ _ _) ?_)
  rintro v h' ⟨r, I1, L1, M1, rfl, rfl, q1⟩
  show Sem _ _ _ _ _ _ _ [.int r] _ _ _
  refine S_aload_n 2 dL_law_628 rfl rfl ?_
  refine S_aload_n 0 dL_law_629 rfl rfl ?_
  refine S_iload_n 3 dL_law_630 rfl rfl ?_
  refine S_iconst (v := 1) dL_law_631 (by decide) ?_
  refine S_iadd dL_law_632 ?_
  refine S_sc_ld h1 dL_law_633 ?_
  refine S_aload_n 0 dL_law_634 rfl rfl ?_
  refine S_iload_n 3 dL_law_635 rfl rfl ?_
  refine S_iconst (v := 2) dL_law_636 (by decide) ?_
  refine S_iadd dL_law_637 ?_
  refine S_sc_ld h2 dL_law_638 ?_
  refine S_aload_n 0 dL_law_639 rfl rfl ?_
  refine S_iload_n 3 dL_law_640 rfl rfl ?_
  refine S_iconst (v := 3) dL_law_641 (by decide) ?_
  refine S_iadd dL_law_642 ?_
  refine S_sc_ld h3 dL_law_643 ?_
  refine S_callV [.int _, .int _, .int _] [.int r] m_RL_73 rfl rfl s_265 ⟨rfl, by omega⟩ (Nat.le_of_ble_eq_true rfl) (lroom 40 (by decide) hcl hsl) dL_law_644 (CallSem_mono q1 ?_)
  rintro v h' ⟨r2, I2, L2, M2, rfl, rfl, rfl, q2⟩
  show Sem _ _ _ _ _ _ _ [.int _, .int _] _ _ _
  refine S_icmp_eq (tgt := 1351) dL_law_647 (by decide) (fun _ => ?_) (fun q => absurd rfl q)
  exact T _ _ _ q2
/-- see -/
theorem lc_14 (hI : Inv I L M) (hcl : cl ≤ 600000) (hsl : sl ≤ 7302250) {x : Int32} (h1 : vp_in (x + 1) C.2.2.2.1) (h2 : vp_in (x + 2) C.2.2.2.1) (h3 : vp_in (x + 3) C.2.2.2.1) (h4 : vp_in (x + 4) C.2.2.2.1) (h5 : vp_in (x + 5) C.2.2.2.1) (T : ∀ I' L' M', Inv I' L' M' → Sem C Q n0 (Y_L nm) room_1 1351 [(0, .ref 1000002), (1, .ref 0), (2, .ref 265), (3, .int x)] [] (zmk I' L' M') cl sl) : Sem C Q n0 (Y_L nm) room_1 652 [(0, .ref 1000002), (1, .ref 0), (2, .ref 265), (3, .int x)] [] (zmk I L M) cl sl := by
  refine S_aload_n 1 dL_law_652 rfl rfl ?_
  refine S_aload_n 0 dL_law_653 rfl rfl ?_
  refine S_iload_n 3 dL_law_654 rfl rfl ?_
  refine S_iconst (v := 1) dL_law_655 (by decide) ?_
  refine S_iadd dL_law_656 ?_
  refine S_sc_ld h1 dL_law_657 ?_
  refine S_aload_n 0 dL_law_658 rfl rfl ?_
  refine S_iload_n 3 dL_law_659 rfl rfl ?_
  refine S_iconst (v := 2) dL_law_660 (by decide) ?_
  refine S_iadd dL_law_661 ?_
  refine S_sc_ld h2 dL_law_662 ?_
  refine S_aload_n 0 dL_law_663 rfl rfl ?_
  refine S_iload_n 3 dL_law_664 rfl rfl ?_
  refine S_iconst (v := 3) dL_law_665 (by decide) ?_
  refine S_iadd dL_law_666 ?_
  refine S_sc_ld h3 dL_law_667 ?_
  refine S_aload_n 0 dL_law_668 rfl rfl ?_
  refine S_iload_n 3 dL_law_669 rfl rfl ?_
  refine S_iconst (v := 4) dL_law_670 (by decide) ?_
  refine S_iadd dL_law_671 ?_
  refine S_sc_ld h4 dL_law_672 ?_
  refine S_if_eq (tgt := 680) dL_law_673 (by decide) (fun z4 => ?_) (fun z4 => ?_)
  ·
    refine S_iconst (v := 0) dL_law_680 (by decide) ?_
    refine S_callV [.int _, .int _, .int _, .int _] [] m_RL_74 rfl rfl s_0 ⟨rfl, by omega⟩ (Nat.le_of_ble_eq_true rfl) (lroom 40 (by decide) hcl hsl) dL_law_681 (CallSem_mono (pr_see 28 hI _ _ _ _) ?_)
    rintro v h' ⟨r, I1, L1, M1, rfl, rfl, q1⟩
    show Sem _ _ _ _ _ _ _ [.int r] _ _ _
    refine S_aload_n 2 dL_law_684 rfl rfl ?_
    refine S_aload_n 0 dL_law_685 rfl rfl ?_
    refine S_iload_n 3 dL_law_686 rfl rfl ?_
    refine S_iconst (v := 1) dL_law_687 (by decide) ?_
    refine S_iadd dL_law_688 ?_
    refine S_sc_ld h1 dL_law_689 ?_
    refine S_aload_n 0 dL_law_690 rfl rfl ?_
    refine S_iload_n 3 dL_law_691 rfl rfl ?_
    refine S_iconst (v := 2) dL_law_692 (by decide) ?_
    refine S_iadd dL_law_693 ?_
    refine S_sc_ld h2 dL_law_694 ?_
    refine S_aload_n 0 dL_law_695 rfl rfl ?_
    refine S_iload_n 3 dL_law_696 rfl rfl ?_
    refine S_iconst (v := 3) dL_law_697 (by decide) ?_
    refine S_iadd dL_law_698 ?_
    refine S_sc_ld h3 dL_law_699 ?_
    refine S_aload_n 0 dL_law_700 rfl rfl ?_
    refine S_iload_n 3 dL_law_701 rfl rfl ?_
    refine S_iconst (v := 4) dL_law_702 (by decide) ?_
    refine S_iadd dL_law_703 ?_
    refine S_sc_ld h4 dL_law_704 ?_
    refine S_if_eq (tgt := 712) dL_law_705 (by decide) (fun _ => ?_) (fun q => absurd z4 q)
    refine S_iconst (v := 0) dL_law_712 (by decide) ?_
    refine S_callV [.int _, .int _, .int _, .int _] [.int r] m_RL_78 rfl rfl s_265 ⟨rfl, by omega⟩ (Nat.le_of_ble_eq_true rfl) (lroom 40 (by decide) hcl hsl) dL_law_713 (CallSem_mono q1 ?_)
    rintro v h' ⟨r2, I2, L2, M2, rfl, rfl, rfl, q2⟩
    show Sem _ _ _ _ _ _ _ [.int _, .int _] _ _ _
    refine S_icmp_eq (tgt := 1351) dL_law_716 (by decide) (fun _ => ?_) (fun q => absurd rfl q)
    exact T _ _ _ q2
  ·
    refine S_iconst (v := 1) dL_law_676 (by decide) ?_
    refine S_goto (tgt := 681) dL_law_677 (by decide) ?_
    refine S_callV [.int _, .int _, .int _, .int _] [] m_RL_74 rfl rfl s_0 ⟨rfl, by omega⟩ (Nat.le_of_ble_eq_true rfl) (lroom 40 (by decide) hcl hsl) dL_law_681 (CallSem_mono (pr_see 28 hI _ _ _ _) ?_)
    rintro v h' ⟨r, I1, L1, M1, rfl, rfl, q1⟩
    show Sem _ _ _ _ _ _ _ [.int r] _ _ _
    refine S_aload_n 2 dL_law_684 rfl rfl ?_
    refine S_aload_n 0 dL_law_685 rfl rfl ?_
    refine S_iload_n 3 dL_law_686 rfl rfl ?_
    refine S_iconst (v := 1) dL_law_687 (by decide) ?_
    refine S_iadd dL_law_688 ?_
    refine S_sc_ld h1 dL_law_689 ?_
    refine S_aload_n 0 dL_law_690 rfl rfl ?_
    refine S_iload_n 3 dL_law_691 rfl rfl ?_
    refine S_iconst (v := 2) dL_law_692 (by decide) ?_
    refine S_iadd dL_law_693 ?_
    refine S_sc_ld h2 dL_law_694 ?_
    refine S_aload_n 0 dL_law_695 rfl rfl ?_
    refine S_iload_n 3 dL_law_696 rfl rfl ?_
    refine S_iconst (v := 3) dL_law_697 (by decide) ?_
    refine S_iadd dL_law_698 ?_
    refine S_sc_ld h3 dL_law_699 ?_
    refine S_aload_n 0 dL_law_700 rfl rfl ?_
    refine S_iload_n 3 dL_law_701 rfl rfl ?_
    refine S_iconst (v := 4) dL_law_702 (by decide) ?_
    refine S_iadd dL_law_703 ?_
    refine S_sc_ld h4 dL_law_704 ?_
    refine S_if_eq (tgt := 712) dL_law_705 (by decide) (fun q => absurd q z4) (fun _ => ?_)
    refine S_iconst (v := 1) dL_law_708 (by decide) ?_
    refine S_goto (tgt := 713) dL_law_709 (by decide) ?_
    refine S_callV [.int _, .int _, .int _, .int _] [.int r] m_RL_78 rfl rfl s_265 ⟨rfl, by omega⟩ (Nat.le_of_ble_eq_true rfl) (lroom 40 (by decide) hcl hsl) dL_law_713 (CallSem_mono q1 ?_)
    rintro v h' ⟨r2, I2, L2, M2, rfl, rfl, rfl, q2⟩
    show Sem _ _ _ _ _ _ _ [.int _, .int _] _ _ _
    refine S_icmp_eq (tgt := 1351) dL_law_716 (by decide) (fun _ => ?_) (fun q => absurd rfl q)
    exact T _ _ _ q2
/-- meant -/
theorem lc_15 (hI : Inv I L M) (hcl : cl ≤ 600000) (hsl : sl ≤ 7302250) {x : Int32} (h1 : vp_in (x + 1) C.2.2.2.1) (h2 : vp_in (x + 2) C.2.2.2.1) (h3 : vp_in (x + 3) C.2.2.2.1) (h4 : vp_in (x + 4) C.2.2.2.1) (h5 : vp_in (x + 5) C.2.2.2.1) (T : ∀ I' L' M', Inv I' L' M' → Sem C Q n0 (Y_L nm) room_1 1351 [(0, .ref 1000002), (1, .ref 0), (2, .ref 265), (3, .int x)] [] (zmk I' L' M') cl sl) : Sem C Q n0 (Y_L nm) room_1 721 [(0, .ref 1000002), (1, .ref 0), (2, .ref 265), (3, .int x)] [] (zmk I L M) cl sl := by
  refine S_aload_n 1 dL_law_721 rfl rfl ?_
  refine S_aload_n 0 dL_law_722 rfl rfl ?_
  refine S_iload_n 3 dL_law_723 rfl rfl ?_
  refine S_iconst (v := 1) dL_law_724 (by decide) ?_
  refine S_iadd dL_law_725 ?_
  refine S_sc_ld h1 dL_law_726 ?_
  refine S_aload_n 0 dL_law_727 rfl rfl ?_
  refine S_iload_n 3 dL_law_728 rfl rfl ?_
  refine S_iconst (v := 2) dL_law_729 (by decide) ?_
  refine S_iadd dL_law_730 ?_
  refine S_sc_ld h2 dL_law_731 ?_
  refine S_callV [.int _, .int _] [] m_RL_79 rfl rfl s_0 ⟨rfl, by omega⟩ (Nat.le_of_ble_eq_true rfl) (lroom 40 (by decide) hcl hsl) dL_law_732 (CallSem_mono (pr_meant 28 hI _ _) ?_)
  rintro v h' ⟨r, I1, L1, M1, rfl, rfl, q1⟩
  show Sem _ _ _ _ _ _ _ [.int r] _ _ _
  refine S_aload_n 2 dL_law_735 rfl rfl ?_
  refine S_aload_n 0 dL_law_736 rfl rfl ?_
  refine S_iload_n 3 dL_law_737 rfl rfl ?_
  refine S_iconst (v := 1) dL_law_738 (by decide) ?_
  refine S_iadd dL_law_739 ?_
  refine S_sc_ld h1 dL_law_740 ?_
  refine S_aload_n 0 dL_law_741 rfl rfl ?_
  refine S_iload_n 3 dL_law_742 rfl rfl ?_
  refine S_iconst (v := 2) dL_law_743 (by decide) ?_
  refine S_iadd dL_law_744 ?_
  refine S_sc_ld h2 dL_law_745 ?_
  refine S_callV [.int _, .int _] [.int r] m_RL_82 rfl rfl s_265 ⟨rfl, by omega⟩ (Nat.le_of_ble_eq_true rfl) (lroom 40 (by decide) hcl hsl) dL_law_746 (CallSem_mono q1 ?_)
  rintro v h' ⟨r2, I2, L2, M2, rfl, rfl, rfl, q2⟩
  show Sem _ _ _ _ _ _ _ [.int _, .int _] _ _ _
  refine S_icmp_eq (tgt := 1351) dL_law_749 (by decide) (fun _ => ?_) (fun q => absurd rfl q)
  exact T _ _ _ q2
/-- can -/
theorem lc_16 (hI : Inv I L M) (hcl : cl ≤ 600000) (hsl : sl ≤ 7302250) {x : Int32} (h1 : vp_in (x + 1) C.2.2.2.1) (h2 : vp_in (x + 2) C.2.2.2.1) (h3 : vp_in (x + 3) C.2.2.2.1) (h4 : vp_in (x + 4) C.2.2.2.1) (h5 : vp_in (x + 5) C.2.2.2.1) (T : ∀ I' L' M', Inv I' L' M' → Sem C Q n0 (Y_L nm) room_1 1351 [(0, .ref 1000002), (1, .ref 0), (2, .ref 265), (3, .int x)] [] (zmk I' L' M') cl sl) : Sem C Q n0 (Y_L nm) room_1 754 [(0, .ref 1000002), (1, .ref 0), (2, .ref 265), (3, .int x)] [] (zmk I L M) cl sl := by
  refine S_aload_n 1 dL_law_754 rfl rfl ?_
  refine S_aload_n 0 dL_law_755 rfl rfl ?_
  refine S_iload_n 3 dL_law_756 rfl rfl ?_
  refine S_iconst (v := 1) dL_law_757 (by decide) ?_
  refine S_iadd dL_law_758 ?_
  refine S_sc_ld h1 dL_law_759 ?_
  refine S_aload_n 0 dL_law_760 rfl rfl ?_
  refine S_iload_n 3 dL_law_761 rfl rfl ?_
  refine S_iconst (v := 2) dL_law_762 (by decide) ?_
  refine S_iadd dL_law_763 ?_
  refine S_sc_ld h2 dL_law_764 ?_
  refine S_callV [.int _, .int _] [] m_RL_83 rfl rfl s_0 ⟨rfl, by omega⟩ (Nat.le_of_ble_eq_true rfl) (lroom 40 (by decide) hcl hsl) dL_law_765 (CallSem_mono (pr_can 28 hI _ _) ?_)
  rintro v h' ⟨r, I1, L1, M1, rfl, rfl, q1⟩
  show Sem _ _ _ _ _ _ _ [.int r] _ _ _
  refine S_aload_n 2 dL_law_768 rfl rfl ?_
  refine S_aload_n 0 dL_law_769 rfl rfl ?_
  refine S_iload_n 3 dL_law_770 rfl rfl ?_
  refine S_iconst (v := 1) dL_law_771 (by decide) ?_
  refine S_iadd dL_law_772 ?_
  refine S_sc_ld h1 dL_law_773 ?_
  refine S_aload_n 0 dL_law_774 rfl rfl ?_
  refine S_iload_n 3 dL_law_775 rfl rfl ?_
  refine S_iconst (v := 2) dL_law_776 (by decide) ?_
  refine S_iadd dL_law_777 ?_
  refine S_sc_ld h2 dL_law_778 ?_
  refine S_callV [.int _, .int _] [.int r] m_RL_86 rfl rfl s_265 ⟨rfl, by omega⟩ (Nat.le_of_ble_eq_true rfl) (lroom 40 (by decide) hcl hsl) dL_law_779 (CallSem_mono q1 ?_)
  rintro v h' ⟨r2, I2, L2, M2, rfl, rfl, rfl, q2⟩
  show Sem _ _ _ _ _ _ _ [.int _, .int _] _ _ _
  refine S_icmp_eq (tgt := 1351) dL_law_782 (by decide) (fun _ => ?_) (fun q => absurd rfl q)
  exact T _ _ _ q2
/-- odds -/
theorem lc_17 (hI : Inv I L M) (hcl : cl ≤ 600000) (hsl : sl ≤ 7302250) {x : Int32} (h1 : vp_in (x + 1) C.2.2.2.1) (h2 : vp_in (x + 2) C.2.2.2.1) (h3 : vp_in (x + 3) C.2.2.2.1) (h4 : vp_in (x + 4) C.2.2.2.1) (h5 : vp_in (x + 5) C.2.2.2.1) (T : ∀ I' L' M', Inv I' L' M' → Sem C Q n0 (Y_L nm) room_1 1351 [(0, .ref 1000002), (1, .ref 0), (2, .ref 265), (3, .int x)] [] (zmk I' L' M') cl sl) : Sem C Q n0 (Y_L nm) room_1 787 [(0, .ref 1000002), (1, .ref 0), (2, .ref 265), (3, .int x)] [] (zmk I L M) cl sl := by
  refine S_aload_n 1 dL_law_787 rfl rfl ?_
  refine S_aload_n 0 dL_law_788 rfl rfl ?_
  refine S_iload_n 3 dL_law_789 rfl rfl ?_
  refine S_iconst (v := 1) dL_law_790 (by decide) ?_
  refine S_iadd dL_law_791 ?_
  refine S_sc_ld h1 dL_law_792 ?_
  refine S_aload_n 0 dL_law_793 rfl rfl ?_
  refine S_iload_n 3 dL_law_794 rfl rfl ?_
  refine S_iconst (v := 2) dL_law_795 (by decide) ?_
  refine S_iadd dL_law_796 ?_
  refine S_sc_ld h2 dL_law_797 ?_
  refine S_callV [.int _, .int _] [] m_RL_87 rfl rfl s_0 ⟨rfl, by omega⟩ (Nat.le_of_ble_eq_true rfl) (lroom 40 (by decide) hcl hsl) dL_law_798 (CallSem_mono (pr_odds 28 hI _ _) ?_)
  rintro v h' ⟨r, I1, L1, M1, rfl, rfl, q1⟩
  show Sem _ _ _ _ _ _ _ [.long r] _ _ _
  refine S_aload_n 2 dL_law_801 rfl rfl ?_
  refine S_aload_n 0 dL_law_802 rfl rfl ?_
  refine S_iload_n 3 dL_law_803 rfl rfl ?_
  refine S_iconst (v := 1) dL_law_804 (by decide) ?_
  refine S_iadd dL_law_805 ?_
  refine S_sc_ld h1 dL_law_806 ?_
  refine S_aload_n 0 dL_law_807 rfl rfl ?_
  refine S_iload_n 3 dL_law_808 rfl rfl ?_
  refine S_iconst (v := 2) dL_law_809 (by decide) ?_
  refine S_iadd dL_law_810 ?_
  refine S_sc_ld h2 dL_law_811 ?_
  refine S_callV [.int _, .int _] [.long r] m_RL_91 rfl rfl s_265 ⟨rfl, by omega⟩ (Nat.le_of_ble_eq_true rfl) (lroom 40 (by decide) hcl hsl) dL_law_812 (CallSem_mono q1 ?_)
  rintro v h' ⟨r2, I2, L2, M2, rfl, rfl, rfl, q2⟩
  show Sem _ _ _ _ _ _ _ [.long _, .long _] _ _ _
  refine S_lcmp dL_law_815 ?_
  refine S_if_eq (tgt := 1351) dL_law_816 (by decide) (fun _ => ?_) (fun q => absurd (lcmp_self _) q)
  exact T _ _ _ q2
/-- mean -/
theorem lc_18 (hI : Inv I L M) (hcl : cl ≤ 600000) (hsl : sl ≤ 7302250) {x : Int32} (h1 : vp_in (x + 1) C.2.2.2.1) (h2 : vp_in (x + 2) C.2.2.2.1) (h3 : vp_in (x + 3) C.2.2.2.1) (h4 : vp_in (x + 4) C.2.2.2.1) (h5 : vp_in (x + 5) C.2.2.2.1) (T : ∀ I' L' M', Inv I' L' M' → Sem C Q n0 (Y_L nm) room_1 1351 [(0, .ref 1000002), (1, .ref 0), (2, .ref 265), (3, .int x)] [] (zmk I' L' M') cl sl) : Sem C Q n0 (Y_L nm) room_1 821 [(0, .ref 1000002), (1, .ref 0), (2, .ref 265), (3, .int x)] [] (zmk I L M) cl sl := by
  refine S_aload_n 1 dL_law_821 rfl rfl ?_
  refine S_aload_n 0 dL_law_822 rfl rfl ?_
  refine S_iload_n 3 dL_law_823 rfl rfl ?_
  refine S_iconst (v := 1) dL_law_824 (by decide) ?_
  refine S_iadd dL_law_825 ?_
  refine S_sc_ld h1 dL_law_826 ?_
  refine S_aload_n 0 dL_law_827 rfl rfl ?_
  refine S_iload_n 3 dL_law_828 rfl rfl ?_
  refine S_iconst (v := 2) dL_law_829 (by decide) ?_
  refine S_iadd dL_law_830 ?_
  refine S_sc_ld h2 dL_law_831 ?_
  refine S_callV [.int _, .int _] [] m_RL_92 rfl rfl s_0 ⟨rfl, by omega⟩ (Nat.le_of_ble_eq_true rfl) (lroom 40 (by decide) hcl hsl) dL_law_832 (CallSem_mono (pr_mean 28 hI _ _) ?_)
  rintro v h' ⟨r, I1, L1, M1, rfl, rfl, q1⟩
  show Sem _ _ _ _ _ _ _ [.long r] _ _ _
  refine S_aload_n 2 dL_law_835 rfl rfl ?_
  refine S_aload_n 0 dL_law_836 rfl rfl ?_
  refine S_iload_n 3 dL_law_837 rfl rfl ?_
  refine S_iconst (v := 1) dL_law_838 (by decide) ?_
  refine S_iadd dL_law_839 ?_
  refine S_sc_ld h1 dL_law_840 ?_
  refine S_aload_n 0 dL_law_841 rfl rfl ?_
  refine S_iload_n 3 dL_law_842 rfl rfl ?_
  refine S_iconst (v := 2) dL_law_843 (by decide) ?_
  refine S_iadd dL_law_844 ?_
  refine S_sc_ld h2 dL_law_845 ?_
  refine S_callV [.int _, .int _] [.long r] m_RL_95 rfl rfl s_265 ⟨rfl, by omega⟩ (Nat.le_of_ble_eq_true rfl) (lroom 40 (by decide) hcl hsl) dL_law_846 (CallSem_mono q1 ?_)
  rintro v h' ⟨r2, I2, L2, M2, rfl, rfl, rfl, q2⟩
  show Sem _ _ _ _ _ _ _ [.long _, .long _] _ _ _
  refine S_lcmp dL_law_849 ?_
  refine S_if_eq (tgt := 1351) dL_law_850 (by decide) (fun _ => ?_) (fun q => absurd (lcmp_self _) q)
  exact T _ _ _ q2
/-- plan -/
theorem lc_19 (hI : Inv I L M) (hcl : cl ≤ 600000) (hsl : sl ≤ 7302250) {x : Int32} (h1 : vp_in (x + 1) C.2.2.2.1) (h2 : vp_in (x + 2) C.2.2.2.1) (h3 : vp_in (x + 3) C.2.2.2.1) (h4 : vp_in (x + 4) C.2.2.2.1) (h5 : vp_in (x + 5) C.2.2.2.1) (T : ∀ I' L' M', Inv I' L' M' → Sem C Q n0 (Y_L nm) room_1 1351 [(0, .ref 1000002), (1, .ref 0), (2, .ref 265), (3, .int x)] [] (zmk I' L' M') cl sl) : Sem C Q n0 (Y_L nm) room_1 855 [(0, .ref 1000002), (1, .ref 0), (2, .ref 265), (3, .int x)] [] (zmk I L M) cl sl := by
  refine S_aload_n 1 dL_law_855 rfl rfl ?_
  refine S_aload_n 0 dL_law_856 rfl rfl ?_
  refine S_iload_n 3 dL_law_857 rfl rfl ?_
  refine S_iconst (v := 1) dL_law_858 (by decide) ?_
  refine S_iadd dL_law_859 ?_
  refine S_sc_ld h1 dL_law_860 ?_
  refine S_aload_n 0 dL_law_861 rfl rfl ?_
  refine S_iload_n 3 dL_law_862 rfl rfl ?_
  refine S_iconst (v := 2) dL_law_863 (by decide) ?_
  refine S_iadd dL_law_864 ?_
  refine S_sc_ld h2 dL_law_865 ?_
  refine S_callV [.int _, .int _] [] m_RL_96 rfl rfl s_0 ⟨rfl, by omega⟩ (Nat.le_of_ble_eq_true rfl) (lroom 40 (by decide) hcl hsl) dL_law_866 (CallSem_mono (pr_plan 28 hI _ _) ?_)
  rintro v h' ⟨r, I1, L1, M1, rfl, rfl, q1⟩
  show Sem _ _ _ _ _ _ _ [.int r] _ _ _
  refine S_aload_n 2 dL_law_869 rfl rfl ?_
  refine S_aload_n 0 dL_law_870 rfl rfl ?_
  refine S_iload_n 3 dL_law_871 rfl rfl ?_
  refine S_iconst (v := 1) dL_law_872 (by decide) ?_
  refine S_iadd dL_law_873 ?_
  refine S_sc_ld h1 dL_law_874 ?_
  refine S_aload_n 0 dL_law_875 rfl rfl ?_
  refine S_iload_n 3 dL_law_876 rfl rfl ?_
  refine S_iconst (v := 2) dL_law_877 (by decide) ?_
  refine S_iadd dL_law_878 ?_
  refine S_sc_ld h2 dL_law_879 ?_
  refine S_callV [.int _, .int _] [.int r] m_RL_99 rfl rfl s_265 ⟨rfl, by omega⟩ (Nat.le_of_ble_eq_true rfl) (lroom 40 (by decide) hcl hsl) dL_law_880 (CallSem_mono q1 ?_)
  rintro v h' ⟨r2, I2, L2, M2, rfl, rfl, rfl, q2⟩
  show Sem _ _ _ _ _ _ _ [.int _, .int _] _ _ _
  refine S_icmp_eq (tgt := 1351) dL_law_883 (by decide) (fun _ => ?_) (fun q => absurd rfl q)
  exact T _ _ _ q2
/-- ends -/
theorem lc_20 (hI : Inv I L M) (hcl : cl ≤ 600000) (hsl : sl ≤ 7302250) {x : Int32} (h1 : vp_in (x + 1) C.2.2.2.1) (h2 : vp_in (x + 2) C.2.2.2.1) (h3 : vp_in (x + 3) C.2.2.2.1) (h4 : vp_in (x + 4) C.2.2.2.1) (h5 : vp_in (x + 5) C.2.2.2.1) (T : ∀ I' L' M', Inv I' L' M' → Sem C Q n0 (Y_L nm) room_1 1351 [(0, .ref 1000002), (1, .ref 0), (2, .ref 265), (3, .int x)] [] (zmk I' L' M') cl sl) : Sem C Q n0 (Y_L nm) room_1 888 [(0, .ref 1000002), (1, .ref 0), (2, .ref 265), (3, .int x)] [] (zmk I L M) cl sl := by
  refine S_aload_n 1 dL_law_888 rfl rfl ?_
  refine S_aload_n 0 dL_law_889 rfl rfl ?_
  refine S_iload_n 3 dL_law_890 rfl rfl ?_
  refine S_iconst (v := 1) dL_law_891 (by decide) ?_
  refine S_iadd dL_law_892 ?_
  refine S_sc_ld h1 dL_law_893 ?_
  refine S_callV [.int _] [] m_RL_100 rfl rfl s_0 ⟨rfl, by omega⟩ (Nat.le_of_ble_eq_true rfl) (lroom 40 (by decide) hcl hsl) dL_law_894 (CallSem_mono (pr_ends 28 hI _) ?_)
  rintro v h' ⟨r, I1, L1, M1, rfl, rfl, q1⟩
  show Sem _ _ _ _ _ _ _ [.int r] _ _ _
  refine S_aload_n 2 dL_law_897 rfl rfl ?_
  refine S_aload_n 0 dL_law_898 rfl rfl ?_
  refine S_iload_n 3 dL_law_899 rfl rfl ?_
  refine S_iconst (v := 1) dL_law_900 (by decide) ?_
  refine S_iadd dL_law_901 ?_
  refine S_sc_ld h1 dL_law_902 ?_
  refine S_callV [.int _] [.int r] m_RL_103 rfl rfl s_265 ⟨rfl, by omega⟩ (Nat.le_of_ble_eq_true rfl) (lroom 40 (by decide) hcl hsl) dL_law_903 (CallSem_mono q1 ?_)
  rintro v h' ⟨r2, I2, L2, M2, rfl, rfl, rfl, q2⟩
  show Sem _ _ _ _ _ _ _ [.int _, .int _] _ _ _
  refine S_icmp_eq (tgt := 1351) dL_law_906 (by decide) (fun _ => ?_) (fun q => absurd rfl q)
  exact T _ _ _ q2
/-- book -/
theorem lc_21 (hI : Inv I L M) (hcl : cl ≤ 600000) (hsl : sl ≤ 7302250) {x : Int32} (h1 : vp_in (x + 1) C.2.2.2.1) (h2 : vp_in (x + 2) C.2.2.2.1) (h3 : vp_in (x + 3) C.2.2.2.1) (h4 : vp_in (x + 4) C.2.2.2.1) (h5 : vp_in (x + 5) C.2.2.2.1) (T : ∀ I' L' M', Inv I' L' M' → Sem C Q n0 (Y_L nm) room_1 1351 [(0, .ref 1000002), (1, .ref 0), (2, .ref 265), (3, .int x)] [] (zmk I' L' M') cl sl) : Sem C Q n0 (Y_L nm) room_1 911 [(0, .ref 1000002), (1, .ref 0), (2, .ref 265), (3, .int x)] [] (zmk I L M) cl sl := by
  refine S_aload_n 1 dL_law_911 rfl rfl ?_
  refine S_aload_n 0 dL_law_912 rfl rfl ?_
  refine S_iload_n 3 dL_law_913 rfl rfl ?_
  refine S_iconst (v := 1) dL_law_914 (by decide) ?_
  refine S_iadd dL_law_915 ?_
  refine S_sc_ld h1 dL_law_916 ?_
  refine S_aload_n 0 dL_law_917 rfl rfl ?_
  refine S_iload_n 3 dL_law_918 rfl rfl ?_
  refine S_iconst (v := 2) dL_law_919 (by decide) ?_
  refine S_iadd dL_law_920 ?_
  refine S_sc_ld h2 dL_law_921 ?_
  refine S_callV [.int _, .int _] [] m_RL_104 rfl rfl s_0 ⟨rfl, by omega⟩ (Nat.le_of_ble_eq_true rfl) (lroom 40 (by decide) hcl hsl) dL_law_922 (CallSem_mono (pr_book 28 hI _ _) ?_)
  rintro v h' ⟨r, I1, L1, M1, rfl, rfl, q1⟩
  show Sem _ _ _ _ _ _ _ [.int r] _ _ _
  refine S_aload_n 2 dL_law_925 rfl rfl ?_
  refine S_aload_n 0 dL_law_926 rfl rfl ?_
  refine S_iload_n 3 dL_law_927 rfl rfl ?_
  refine S_iconst (v := 1) dL_law_928 (by decide) ?_
  refine S_iadd dL_law_929 ?_
  refine S_sc_ld h1 dL_law_930 ?_
  refine S_aload_n 0 dL_law_931 rfl rfl ?_
  refine S_iload_n 3 dL_law_932 rfl rfl ?_
  refine S_iconst (v := 2) dL_law_933 (by decide) ?_
  refine S_iadd dL_law_934 ?_
  refine S_sc_ld h2 dL_law_935 ?_
  refine S_callV [.int _, .int _] [.int r] m_RL_107 rfl rfl s_265 ⟨rfl, by omega⟩ (Nat.le_of_ble_eq_true rfl) (lroom 40 (by decide) hcl hsl) dL_law_936 (CallSem_mono q1 ?_)
  rintro v h' ⟨r2, I2, L2, M2, rfl, rfl, rfl, q2⟩
  show Sem _ _ _ _ _ _ _ [.int _, .int _] _ _ _
  refine S_icmp_eq (tgt := 1351) dL_law_939 (by decide) (fun _ => ?_) (fun q => absurd rfl q)
  exact T _ _ _ q2
/-- looked -/
theorem lc_22 (hI : Inv I L M) (hcl : cl ≤ 600000) (hsl : sl ≤ 7302250) {x : Int32} (h1 : vp_in (x + 1) C.2.2.2.1) (h2 : vp_in (x + 2) C.2.2.2.1) (h3 : vp_in (x + 3) C.2.2.2.1) (h4 : vp_in (x + 4) C.2.2.2.1) (h5 : vp_in (x + 5) C.2.2.2.1) (T : ∀ I' L' M', Inv I' L' M' → Sem C Q n0 (Y_L nm) room_1 1351 [(0, .ref 1000002), (1, .ref 0), (2, .ref 265), (3, .int x)] [] (zmk I' L' M') cl sl) : Sem C Q n0 (Y_L nm) room_1 944 [(0, .ref 1000002), (1, .ref 0), (2, .ref 265), (3, .int x)] [] (zmk I L M) cl sl := by
  refine S_aload_n 1 dL_law_944 rfl rfl ?_
  refine S_callV [] [] m_RL_108 rfl rfl s_0 ⟨rfl, by omega⟩ (Nat.le_of_ble_eq_true rfl) (lroom 40 (by decide) hcl hsl) dL_law_945 (CallSem_mono (pr_looked 28 hI) ?_)
  rintro v h' ⟨r, I1, L1, M1, rfl, rfl, q1⟩
  show Sem _ _ _ _ _ _ _ [.int r] _ _ _
  refine S_aload_n 2 dL_law_948 rfl rfl ?_
  refine S_callV [] [.int r] m_RL_111 rfl rfl s_265 ⟨rfl, by omega⟩ (Nat.le_of_ble_eq_true rfl) (lroom 40 (by decide) hcl hsl) dL_law_949 (CallSem_mono q1 ?_)
  rintro v h' ⟨r2, I2, L2, M2, rfl, rfl, rfl, q2⟩
  show Sem _ _ _ _ _ _ _ [.int _, .int _] _ _ _
  refine S_icmp_eq (tgt := 1351) dL_law_952 (by decide) (fun _ => ?_) (fun q => absurd rfl q)
  exact T _ _ _ q2
/-- judge -/
theorem lc_23 (hI : Inv I L M) (hcl : cl ≤ 600000) (hsl : sl ≤ 7302250) {x : Int32} (h1 : vp_in (x + 1) C.2.2.2.1) (h2 : vp_in (x + 2) C.2.2.2.1) (h3 : vp_in (x + 3) C.2.2.2.1) (h4 : vp_in (x + 4) C.2.2.2.1) (h5 : vp_in (x + 5) C.2.2.2.1) (T : ∀ I' L' M', Inv I' L' M' → Sem C Q n0 (Y_L nm) room_1 1351 [(0, .ref 1000002), (1, .ref 0), (2, .ref 265), (3, .int x)] [] (zmk I' L' M') cl sl) : Sem C Q n0 (Y_L nm) room_1 957 [(0, .ref 1000002), (1, .ref 0), (2, .ref 265), (3, .int x)] [] (zmk I L M) cl sl := by
  refine S_aload_n 1 dL_law_957 rfl rfl ?_
  refine S_aload_n 0 dL_law_958 rfl rfl ?_
  refine S_iload_n 3 dL_law_959 rfl rfl ?_
  refine S_iconst (v := 1) dL_law_960 (by decide) ?_
  refine S_iadd dL_law_961 ?_
  refine S_sc_ld h1 dL_law_962 ?_
  refine S_aload_n 0 dL_law_963 rfl rfl ?_
  refine S_iload_n 3 dL_law_964 rfl rfl ?_
  refine S_iconst (v := 2) dL_law_965 (by decide) ?_
  refine S_iadd dL_law_966 ?_
  refine S_sc_ld h2 dL_law_967 ?_
  refine S_callV [.int _, .int _] [] m_RL_112 rfl rfl s_0 ⟨rfl, by omega⟩ (Nat.le_of_ble_eq_true rfl) (lroom 40 (by decide) hcl hsl) dL_law_968 (CallSem_mono (pr_judge 28 hI _ _) ?_)
  rintro v h' ⟨r, I1, L1, M1, rfl, rfl, q1⟩
  show Sem _ _ _ _ _ _ _ [.int r] _ _ _
  refine S_aload_n 2 dL_law_971 rfl rfl ?_
  refine S_aload_n 0 dL_law_972 rfl rfl ?_
  refine S_iload_n 3 dL_law_973 rfl rfl ?_
  refine S_iconst (v := 1) dL_law_974 (by decide) ?_
  refine S_iadd dL_law_975 ?_
  refine S_sc_ld h1 dL_law_976 ?_
  refine S_aload_n 0 dL_law_977 rfl rfl ?_
  refine S_iload_n 3 dL_law_978 rfl rfl ?_
  refine S_iconst (v := 2) dL_law_979 (by decide) ?_
  refine S_iadd dL_law_980 ?_
  refine S_sc_ld h2 dL_law_981 ?_
  refine S_callV [.int _, .int _] [.int r] m_RL_115 rfl rfl s_265 ⟨rfl, by omega⟩ (Nat.le_of_ble_eq_true rfl) (lroom 40 (by decide) hcl hsl) dL_law_982 (CallSem_mono q1 ?_)
  rintro v h' ⟨r2, I2, L2, M2, rfl, rfl, rfl, q2⟩
  show Sem _ _ _ _ _ _ _ [.int _, .int _] _ _ _
  refine S_icmp_eq (tgt := 1351) dL_law_985 (by decide) (fun _ => ?_) (fun q => absurd rfl q)
  exact T _ _ _ q2
/-- image -/
theorem lc_24 (hI : Inv I L M) (hcl : cl ≤ 600000) (hsl : sl ≤ 7302250) {x : Int32} (h1 : vp_in (x + 1) C.2.2.2.1) (h2 : vp_in (x + 2) C.2.2.2.1) (h3 : vp_in (x + 3) C.2.2.2.1) (h4 : vp_in (x + 4) C.2.2.2.1) (h5 : vp_in (x + 5) C.2.2.2.1) (T : ∀ I' L' M', Inv I' L' M' → Sem C Q n0 (Y_L nm) room_1 1351 [(0, .ref 1000002), (1, .ref 0), (2, .ref 265), (3, .int x)] [] (zmk I' L' M') cl sl) : Sem C Q n0 (Y_L nm) room_1 990 [(0, .ref 1000002), (1, .ref 0), (2, .ref 265), (3, .int x)] [] (zmk I L M) cl sl := by
  refine S_aload_n 1 dL_law_990 rfl rfl ?_
  refine S_callV [] [] m_RL_116 rfl rfl s_0 ⟨rfl, by omega⟩ (Nat.le_of_ble_eq_true rfl) (lroom 40 (by decide) hcl hsl) dL_law_991 (CallSem_mono (pr_image 28 hI) ?_)
  rintro v h' ⟨r, I1, L1, M1, rfl, rfl, q1⟩
  show Sem _ _ _ _ _ _ _ [.int r] _ _ _
  refine S_aload_n 2 dL_law_994 rfl rfl ?_
  refine S_callV [] [.int r] m_RL_119 rfl rfl s_265 ⟨rfl, by omega⟩ (Nat.le_of_ble_eq_true rfl) (lroom 40 (by decide) hcl hsl) dL_law_995 (CallSem_mono q1 ?_)
  rintro v h' ⟨r2, I2, L2, M2, rfl, rfl, rfl, q2⟩
  show Sem _ _ _ _ _ _ _ [.int _, .int _] _ _ _
  refine S_icmp_eq (tgt := 1351) dL_law_998 (by decide) (fun _ => ?_) (fun q => absurd rfl q)
  exact T _ _ _ q2
/-- undo -/
theorem lc_25 (hI : Inv I L M) (hcl : cl ≤ 600000) (hsl : sl ≤ 7302250) {x : Int32} (h1 : vp_in (x + 1) C.2.2.2.1) (h2 : vp_in (x + 2) C.2.2.2.1) (h3 : vp_in (x + 3) C.2.2.2.1) (h4 : vp_in (x + 4) C.2.2.2.1) (h5 : vp_in (x + 5) C.2.2.2.1) (T : ∀ I' L' M', Inv I' L' M' → Sem C Q n0 (Y_L nm) room_1 1351 [(0, .ref 1000002), (1, .ref 0), (2, .ref 265), (3, .int x)] [] (zmk I' L' M') cl sl) : Sem C Q n0 (Y_L nm) room_1 1003 [(0, .ref 1000002), (1, .ref 0), (2, .ref 265), (3, .int x)] [] (zmk I L M) cl sl := by
  refine S_aload_n 1 dL_law_1003 rfl rfl ?_
  refine S_callV [] [] m_RL_120 rfl rfl s_0 ⟨rfl, by omega⟩ (Nat.le_of_ble_eq_true rfl) (lroom 40 (by decide) hcl hsl) dL_law_1004 (CallSem_mono (pr_undo 28 hI) ?_)
  rintro v h' ⟨r, I1, L1, M1, rfl, rfl, q1⟩
  show Sem _ _ _ _ _ _ _ [.int r] _ _ _
  refine S_aload_n 2 dL_law_1007 rfl rfl ?_
  refine S_callV [] [.int r] m_RL_123 rfl rfl s_265 ⟨rfl, by omega⟩ (Nat.le_of_ble_eq_true rfl) (lroom 40 (by decide) hcl hsl) dL_law_1008 (CallSem_mono q1 ?_)
  rintro v h' ⟨r2, I2, L2, M2, rfl, rfl, rfl, q2⟩
  show Sem _ _ _ _ _ _ _ [.int _, .int _] _ _ _
  refine S_icmp_eq (tgt := 1351) dL_law_1011 (by decide) (fun _ => ?_) (fun q => absurd rfl q)
  exact T _ _ _ q2
/-- act -/
theorem lc_26 (hI : Inv I L M) (hcl : cl ≤ 600000) (hsl : sl ≤ 7302250) {x : Int32} (h1 : vp_in (x + 1) C.2.2.2.1) (h2 : vp_in (x + 2) C.2.2.2.1) (h3 : vp_in (x + 3) C.2.2.2.1) (h4 : vp_in (x + 4) C.2.2.2.1) (h5 : vp_in (x + 5) C.2.2.2.1) (T : ∀ I' L' M', Inv I' L' M' → Sem C Q n0 (Y_L nm) room_1 1351 [(0, .ref 1000002), (1, .ref 0), (2, .ref 265), (3, .int x)] [] (zmk I' L' M') cl sl) : Sem C Q n0 (Y_L nm) room_1 1016 [(0, .ref 1000002), (1, .ref 0), (2, .ref 265), (3, .int x)] [] (zmk I L M) cl sl := by
  refine S_aload_n 1 dL_law_1016 rfl rfl ?_
  refine S_aload_n 0 dL_law_1017 rfl rfl ?_
  refine S_iload_n 3 dL_law_1018 rfl rfl ?_
  refine S_iconst (v := 1) dL_law_1019 (by decide) ?_
  refine S_iadd dL_law_1020 ?_
  refine S_sc_ld h1 dL_law_1021 ?_
  refine S_aload_n 0 dL_law_1022 rfl rfl ?_
  refine S_iload_n 3 dL_law_1023 rfl rfl ?_
  refine S_iconst (v := 2) dL_law_1024 (by decide) ?_
  refine S_iadd dL_law_1025 ?_
  refine S_sc_ld h2 dL_law_1026 ?_
  refine S_aload_n 0 dL_law_1027 rfl rfl ?_
  refine S_iload_n 3 dL_law_1028 rfl rfl ?_
  refine S_iconst (v := 3) dL_law_1029 (by decide) ?_
  refine S_iadd dL_law_1030 ?_
  refine S_sc_ld h3 dL_law_1031 ?_
  refine S_callV [.int _, .int _, .int _] [] m_RL_124 rfl rfl s_0 ⟨rfl, by omega⟩ (Nat.le_of_ble_eq_true rfl) (lroom 40 (by decide) hcl hsl) dL_law_1032 (CallSem_mono (pr_act 4 hI _ _ _) ?_)
  rintro v h' ⟨r, I1, L1, M1, rfl, rfl, q1⟩
  show Sem _ _ _ _ _ _ _ [.int r] _ _ _
  refine S_aload_n 2 dL_law_1035 rfl rfl ?_
  refine S_aload_n 0 dL_law_1036 rfl rfl ?_
  refine S_iload_n 3 dL_law_1037 rfl rfl ?_
  refine S_iconst (v := 1) dL_law_1038 (by decide) ?_
  refine S_iadd dL_law_1039 ?_
  refine S_sc_ld h1 dL_law_1040 ?_
  refine S_aload_n 0 dL_law_1041 rfl rfl ?_
  refine S_iload_n 3 dL_law_1042 rfl rfl ?_
  refine S_iconst (v := 2) dL_law_1043 (by decide) ?_
  refine S_iadd dL_law_1044 ?_
  refine S_sc_ld h2 dL_law_1045 ?_
  refine S_aload_n 0 dL_law_1046 rfl rfl ?_
  refine S_iload_n 3 dL_law_1047 rfl rfl ?_
  refine S_iconst (v := 3) dL_law_1048 (by decide) ?_
  refine S_iadd dL_law_1049 ?_
  refine S_sc_ld h3 dL_law_1050 ?_
  refine S_callV [.int _, .int _, .int _] [.int r] m_RL_127 rfl rfl s_265 ⟨rfl, by omega⟩ (Nat.le_of_ble_eq_true rfl) (lroom 40 (by decide) hcl hsl) dL_law_1051 (CallSem_mono q1 ?_)
  rintro v h' ⟨r2, I2, L2, M2, rfl, rfl, rfl, q2⟩
  show Sem _ _ _ _ _ _ _ [.int _, .int _] _ _ _
  refine S_icmp_eq (tgt := 1351) dL_law_1054 (by decide) (fun _ => ?_) (fun q => absurd rfl q)
  exact T _ _ _ q2
/-- trace -/
theorem lc_27 (hI : Inv I L M) (hcl : cl ≤ 600000) (hsl : sl ≤ 7302250) {x : Int32} (h1 : vp_in (x + 1) C.2.2.2.1) (h2 : vp_in (x + 2) C.2.2.2.1) (h3 : vp_in (x + 3) C.2.2.2.1) (h4 : vp_in (x + 4) C.2.2.2.1) (h5 : vp_in (x + 5) C.2.2.2.1) (T : ∀ I' L' M', Inv I' L' M' → Sem C Q n0 (Y_L nm) room_1 1351 [(0, .ref 1000002), (1, .ref 0), (2, .ref 265), (3, .int x)] [] (zmk I' L' M') cl sl) : Sem C Q n0 (Y_L nm) room_1 1059 [(0, .ref 1000002), (1, .ref 0), (2, .ref 265), (3, .int x)] [] (zmk I L M) cl sl := by
  refine S_aload_n 1 dL_law_1059 rfl rfl ?_
  refine S_aload_n 0 dL_law_1060 rfl rfl ?_
  refine S_iload_n 3 dL_law_1061 rfl rfl ?_
  refine S_iconst (v := 1) dL_law_1062 (by decide) ?_
  refine S_iadd dL_law_1063 ?_
  refine S_sc_ld h1 dL_law_1064 ?_
  refine S_callV [.int _] [] m_RL_128 rfl rfl s_0 ⟨rfl, by omega⟩ (Nat.le_of_ble_eq_true rfl) (lroom 40 (by decide) hcl hsl) dL_law_1065 (CallSem_mono (pr_trace 28 hI _) ?_)
  rintro v h' ⟨r, I1, L1, M1, rfl, rfl, q1⟩
  show Sem _ _ _ _ _ _ _ [.int r] _ _ _
  refine S_aload_n 2 dL_law_1068 rfl rfl ?_
  refine S_aload_n 0 dL_law_1069 rfl rfl ?_
  refine S_iload_n 3 dL_law_1070 rfl rfl ?_
  refine S_iconst (v := 1) dL_law_1071 (by decide) ?_
  refine S_iadd dL_law_1072 ?_
  refine S_sc_ld h1 dL_law_1073 ?_
  refine S_callV [.int _] [.int r] m_RL_131 rfl rfl s_265 ⟨rfl, by omega⟩ (Nat.le_of_ble_eq_true rfl) (lroom 40 (by decide) hcl hsl) dL_law_1074 (CallSem_mono q1 ?_)
  rintro v h' ⟨r2, I2, L2, M2, rfl, rfl, rfl, q2⟩
  show Sem _ _ _ _ _ _ _ [.int _, .int _] _ _ _
  refine S_icmp_eq (tgt := 1351) dL_law_1077 (by decide) (fun _ => ?_) (fun q => absurd rfl q)
  exact T _ _ _ q2
/-- taken -/
theorem lc_28 (hI : Inv I L M) (hcl : cl ≤ 600000) (hsl : sl ≤ 7302250) {x : Int32} (h1 : vp_in (x + 1) C.2.2.2.1) (h2 : vp_in (x + 2) C.2.2.2.1) (h3 : vp_in (x + 3) C.2.2.2.1) (h4 : vp_in (x + 4) C.2.2.2.1) (h5 : vp_in (x + 5) C.2.2.2.1) (T : ∀ I' L' M', Inv I' L' M' → Sem C Q n0 (Y_L nm) room_1 1351 [(0, .ref 1000002), (1, .ref 0), (2, .ref 265), (3, .int x)] [] (zmk I' L' M') cl sl) : Sem C Q n0 (Y_L nm) room_1 1082 [(0, .ref 1000002), (1, .ref 0), (2, .ref 265), (3, .int x)] [] (zmk I L M) cl sl := by
  refine S_aload_n 1 dL_law_1082 rfl rfl ?_
  refine S_aload_n 0 dL_law_1083 rfl rfl ?_
  refine S_iload_n 3 dL_law_1084 rfl rfl ?_
  refine S_iconst (v := 1) dL_law_1085 (by decide) ?_
  refine S_iadd dL_law_1086 ?_
  refine S_sc_ld h1 dL_law_1087 ?_
  refine S_aload_n 0 dL_law_1088 rfl rfl ?_
  refine S_iload_n 3 dL_law_1089 rfl rfl ?_
  refine S_iconst (v := 2) dL_law_1090 (by decide) ?_
  refine S_iadd dL_law_1091 ?_
  refine S_sc_ld h2 dL_law_1092 ?_
  refine S_callV [.int _, .int _] [] m_RL_132 rfl rfl s_0 ⟨rfl, by omega⟩ (Nat.le_of_ble_eq_true rfl) (lroom 40 (by decide) hcl hsl) dL_law_1093 (CallSem_mono (pr_taken 28 hI _ _) ?_)
  rintro v h' ⟨r, I1, L1, M1, rfl, rfl, q1⟩
  show Sem _ _ _ _ _ _ _ [.int r] _ _ _
  refine S_aload_n 2 dL_law_1096 rfl rfl ?_
  refine S_aload_n 0 dL_law_1097 rfl rfl ?_
  refine S_iload_n 3 dL_law_1098 rfl rfl ?_
  refine S_iconst (v := 1) dL_law_1099 (by decide) ?_
  refine S_iadd dL_law_1100 ?_
  refine S_sc_ld h1 dL_law_1101 ?_
  refine S_aload_n 0 dL_law_1102 rfl rfl ?_
  refine S_iload_n 3 dL_law_1103 rfl rfl ?_
  refine S_iconst (v := 2) dL_law_1104 (by decide) ?_
  refine S_iadd dL_law_1105 ?_
  refine S_sc_ld h2 dL_law_1106 ?_
  refine S_callV [.int _, .int _] [.int r] m_RL_135 rfl rfl s_265 ⟨rfl, by omega⟩ (Nat.le_of_ble_eq_true rfl) (lroom 40 (by decide) hcl hsl) dL_law_1107 (CallSem_mono q1 ?_)
  rintro v h' ⟨r2, I2, L2, M2, rfl, rfl, rfl, q2⟩
  show Sem _ _ _ _ _ _ _ [.int _, .int _] _ _ _
  refine S_icmp_eq (tgt := 1351) dL_law_1110 (by decide) (fun _ => ?_) (fun q => absurd rfl q)
  exact T _ _ _ q2
/-- count -/
theorem lc_29 (hI : Inv I L M) (hcl : cl ≤ 600000) (hsl : sl ≤ 7302250) {x : Int32} (h1 : vp_in (x + 1) C.2.2.2.1) (h2 : vp_in (x + 2) C.2.2.2.1) (h3 : vp_in (x + 3) C.2.2.2.1) (h4 : vp_in (x + 4) C.2.2.2.1) (h5 : vp_in (x + 5) C.2.2.2.1) (T : ∀ I' L' M', Inv I' L' M' → Sem C Q n0 (Y_L nm) room_1 1351 [(0, .ref 1000002), (1, .ref 0), (2, .ref 265), (3, .int x)] [] (zmk I' L' M') cl sl) : Sem C Q n0 (Y_L nm) room_1 1115 [(0, .ref 1000002), (1, .ref 0), (2, .ref 265), (3, .int x)] [] (zmk I L M) cl sl := by
  refine S_aload_n 1 dL_law_1115 rfl rfl ?_
  refine S_aload_n 0 dL_law_1116 rfl rfl ?_
  refine S_iload_n 3 dL_law_1117 rfl rfl ?_
  refine S_iconst (v := 1) dL_law_1118 (by decide) ?_
  refine S_iadd dL_law_1119 ?_
  refine S_sc_ld h1 dL_law_1120 ?_
  refine S_callV [.int _] [] m_RL_136 rfl rfl s_0 ⟨rfl, by omega⟩ (Nat.le_of_ble_eq_true rfl) (lroom 40 (by decide) hcl hsl) dL_law_1121 (CallSem_mono (pr_count 28 hI _) ?_)
  rintro v h' ⟨r, I1, L1, M1, rfl, rfl, q1⟩
  show Sem _ _ _ _ _ _ _ [.int r] _ _ _
  refine S_aload_n 2 dL_law_1124 rfl rfl ?_
  refine S_aload_n 0 dL_law_1125 rfl rfl ?_
  refine S_iload_n 3 dL_law_1126 rfl rfl ?_
  refine S_iconst (v := 1) dL_law_1127 (by decide) ?_
  refine S_iadd dL_law_1128 ?_
  refine S_sc_ld h1 dL_law_1129 ?_
  refine S_callV [.int _] [.int r] m_RL_139 rfl rfl s_265 ⟨rfl, by omega⟩ (Nat.le_of_ble_eq_true rfl) (lroom 40 (by decide) hcl hsl) dL_law_1130 (CallSem_mono q1 ?_)
  rintro v h' ⟨r2, I2, L2, M2, rfl, rfl, rfl, q2⟩
  show Sem _ _ _ _ _ _ _ [.int _, .int _] _ _ _
  refine S_icmp_eq (tgt := 1351) dL_law_1133 (by decide) (fun _ => ?_) (fun q => absurd rfl q)
  exact T _ _ _ q2
/-- tape -/
theorem lc_30 (hI : Inv I L M) (hcl : cl ≤ 600000) (hsl : sl ≤ 7302250) {x : Int32} (h1 : vp_in (x + 1) C.2.2.2.1) (h2 : vp_in (x + 2) C.2.2.2.1) (h3 : vp_in (x + 3) C.2.2.2.1) (h4 : vp_in (x + 4) C.2.2.2.1) (h5 : vp_in (x + 5) C.2.2.2.1) (T : ∀ I' L' M', Inv I' L' M' → Sem C Q n0 (Y_L nm) room_1 1351 [(0, .ref 1000002), (1, .ref 0), (2, .ref 265), (3, .int x)] [] (zmk I' L' M') cl sl) : Sem C Q n0 (Y_L nm) room_1 1138 [(0, .ref 1000002), (1, .ref 0), (2, .ref 265), (3, .int x)] [] (zmk I L M) cl sl := by
  refine S_aload_n 1 dL_law_1138 rfl rfl ?_
  refine S_aload_n 0 dL_law_1139 rfl rfl ?_
  refine S_iload_n 3 dL_law_1140 rfl rfl ?_
  refine S_iconst (v := 1) dL_law_1141 (by decide) ?_
  refine S_iadd dL_law_1142 ?_
  refine S_sc_ld h1 dL_law_1143 ?_
  refine S_aload_n 0 dL_law_1144 rfl rfl ?_
  refine S_iload_n 3 dL_law_1145 rfl rfl ?_
  refine S_iconst (v := 2) dL_law_1146 (by decide) ?_
  refine S_iadd dL_law_1147 ?_
  refine S_sc_ld h2 dL_law_1148 ?_
  refine S_aload_n 0 dL_law_1149 rfl rfl ?_
  refine S_iload_n 3 dL_law_1150 rfl rfl ?_
  refine S_iconst (v := 3) dL_law_1151 (by decide) ?_
  refine S_iadd dL_law_1152 ?_
  refine S_sc_ld h3 dL_law_1153 ?_
  refine S_callV [.int _, .int _, .int _] [] m_RL_140 rfl rfl s_0 ⟨rfl, by omega⟩ (Nat.le_of_ble_eq_true rfl) (lroom 40 (by decide) hcl hsl) dL_law_1154 (CallSem_mono (pr_tape 28 hI _ _ _) ?_)
  rintro v h' ⟨r, I1, L1, M1, rfl, rfl, q1⟩
  show Sem _ _ _ _ _ _ _ [.int r] _ _ _
  refine S_aload_n 2 dL_law_1157 rfl rfl ?_
  refine S_aload_n 0 dL_law_1158 rfl rfl ?_
  refine S_iload_n 3 dL_law_1159 rfl rfl ?_
  refine S_iconst (v := 1) dL_law_1160 (by decide) ?_
  refine S_iadd dL_law_1161 ?_
  refine S_sc_ld h1 dL_law_1162 ?_
  refine S_aload_n 0 dL_law_1163 rfl rfl ?_
  refine S_iload_n 3 dL_law_1164 rfl rfl ?_
  refine S_iconst (v := 2) dL_law_1165 (by decide) ?_
  refine S_iadd dL_law_1166 ?_
  refine S_sc_ld h2 dL_law_1167 ?_
  refine S_aload_n 0 dL_law_1168 rfl rfl ?_
  refine S_iload_n 3 dL_law_1169 rfl rfl ?_
  refine S_iconst (v := 3) dL_law_1170 (by decide) ?_
  refine S_iadd dL_law_1171 ?_
  refine S_sc_ld h3 dL_law_1172 ?_
  refine S_callV [.int _, .int _, .int _] [.int r] m_RL_143 rfl rfl s_265 ⟨rfl, by omega⟩ (Nat.le_of_ble_eq_true rfl) (lroom 40 (by decide) hcl hsl) dL_law_1173 (CallSem_mono q1 ?_)
  rintro v h' ⟨r2, I2, L2, M2, rfl, rfl, rfl, q2⟩
  show Sem _ _ _ _ _ _ _ [.int _, .int _] _ _ _
  refine S_icmp_eq (tgt := 1351) dL_law_1176 (by decide) (fun _ => ?_) (fun q => absurd rfl q)
  exact T _ _ _ q2
/-- item -/
theorem lc_31 (hI : Inv I L M) (hcl : cl ≤ 600000) (hsl : sl ≤ 7302250) {x : Int32} (h1 : vp_in (x + 1) C.2.2.2.1) (h2 : vp_in (x + 2) C.2.2.2.1) (h3 : vp_in (x + 3) C.2.2.2.1) (h4 : vp_in (x + 4) C.2.2.2.1) (h5 : vp_in (x + 5) C.2.2.2.1) (T : ∀ I' L' M', Inv I' L' M' → Sem C Q n0 (Y_L nm) room_1 1351 [(0, .ref 1000002), (1, .ref 0), (2, .ref 265), (3, .int x)] [] (zmk I' L' M') cl sl) : Sem C Q n0 (Y_L nm) room_1 1181 [(0, .ref 1000002), (1, .ref 0), (2, .ref 265), (3, .int x)] [] (zmk I L M) cl sl := by
  refine S_aload_n 1 dL_law_1181 rfl rfl ?_
  refine S_aload_n 0 dL_law_1182 rfl rfl ?_
  refine S_iload_n 3 dL_law_1183 rfl rfl ?_
  refine S_iconst (v := 1) dL_law_1184 (by decide) ?_
  refine S_iadd dL_law_1185 ?_
  refine S_sc_ld h1 dL_law_1186 ?_
  refine S_aload_n 0 dL_law_1187 rfl rfl ?_
  refine S_iload_n 3 dL_law_1188 rfl rfl ?_
  refine S_iconst (v := 2) dL_law_1189 (by decide) ?_
  refine S_iadd dL_law_1190 ?_
  refine S_sc_ld h2 dL_law_1191 ?_
  refine S_aload_n 0 dL_law_1192 rfl rfl ?_
  refine S_iload_n 3 dL_law_1193 rfl rfl ?_
  refine S_iconst (v := 3) dL_law_1194 (by decide) ?_
  refine S_iadd dL_law_1195 ?_
  refine S_sc_ld h3 dL_law_1196 ?_
  refine S_i2l dL_law_1197 ?_
  refine S_bipush (v := 32) dL_law_1198 (by decide) ?_
  refine S_lshl dL_law_1200 ?_
  refine S_aload_n 0 dL_law_1201 rfl rfl ?_
  refine S_iload_n 3 dL_law_1202 rfl rfl ?_
  refine S_iconst (v := 4) dL_law_1203 (by decide) ?_
  refine S_iadd dL_law_1204 ?_
  refine S_sc_ld h4 dL_law_1205 ?_
  refine S_i2l dL_law_1206 ?_
  refine S_ldc2 c_RL_144 dL_law_1207 ?_
  refine S_land dL_law_1210 ?_
  refine S_lor dL_law_1211 ?_
  refine S_callV [.int _, .int _, .long _] [] m_RL_146 rfl rfl s_0 ⟨rfl, by omega⟩ (Nat.le_of_ble_eq_true rfl) (lroom 40 (by decide) hcl hsl) dL_law_1212 (CallSem_mono (pr_item 28 hI _ _ _) ?_)
  rintro v h' ⟨r, I1, L1, M1, rfl, rfl, q1⟩
  show Sem _ _ _ _ _ _ _ [.int r] _ _ _
  refine S_aload_n 2 dL_law_1215 rfl rfl ?_
  refine S_aload_n 0 dL_law_1216 rfl rfl ?_
  refine S_iload_n 3 dL_law_1217 rfl rfl ?_
  refine S_iconst (v := 1) dL_law_1218 (by decide) ?_
  refine S_iadd dL_law_1219 ?_
  refine S_sc_ld h1 dL_law_1220 ?_
  refine S_aload_n 0 dL_law_1221 rfl rfl ?_
  refine S_iload_n 3 dL_law_1222 rfl rfl ?_
  refine S_iconst (v := 2) dL_law_1223 (by decide) ?_
  refine S_iadd dL_law_1224 ?_
  refine S_sc_ld h2 dL_law_1225 ?_
  refine S_aload_n 0 dL_law_1226 rfl rfl ?_
  refine S_iload_n 3 dL_law_1227 rfl rfl ?_
  refine S_iconst (v := 3) dL_law_1228 (by decide) ?_
  refine S_iadd dL_law_1229 ?_
  refine S_sc_ld h3 dL_law_1230 ?_
  refine S_i2l dL_law_1231 ?_
  refine S_bipush (v := 32) dL_law_1232 (by decide) ?_
  refine S_lshl dL_law_1234 ?_
  refine S_aload_n 0 dL_law_1235 rfl rfl ?_
  refine S_iload_n 3 dL_law_1236 rfl rfl ?_
  refine S_iconst (v := 4) dL_law_1237 (by decide) ?_
  refine S_iadd dL_law_1238 ?_
  refine S_sc_ld h4 dL_law_1239 ?_
  refine S_i2l dL_law_1240 ?_
  refine S_ldc2 c_RL_144 dL_law_1241 ?_
  refine S_land dL_law_1244 ?_
  refine S_lor dL_law_1245 ?_
  refine S_callV [.int _, .int _, .long _] [.int r] m_RL_150 rfl rfl s_265 ⟨rfl, by omega⟩ (Nat.le_of_ble_eq_true rfl) (lroom 40 (by decide) hcl hsl) dL_law_1246 (CallSem_mono q1 ?_)
  rintro v h' ⟨r2, I2, L2, M2, rfl, rfl, rfl, q2⟩
  show Sem _ _ _ _ _ _ _ [.int _, .int _] _ _ _
  refine S_icmp_eq (tgt := 1351) dL_law_1249 (by decide) (fun _ => ?_) (fun q => absurd rfl q)
  exact T _ _ _ q2
/-- read -/
theorem lc_32 (hI : Inv I L M) (hcl : cl ≤ 600000) (hsl : sl ≤ 7302250) {x : Int32} (h1 : vp_in (x + 1) C.2.2.2.1) (h2 : vp_in (x + 2) C.2.2.2.1) (h3 : vp_in (x + 3) C.2.2.2.1) (h4 : vp_in (x + 4) C.2.2.2.1) (h5 : vp_in (x + 5) C.2.2.2.1) (T : ∀ I' L' M', Inv I' L' M' → Sem C Q n0 (Y_L nm) room_1 1351 [(0, .ref 1000002), (1, .ref 0), (2, .ref 265), (3, .int x)] [] (zmk I' L' M') cl sl) : Sem C Q n0 (Y_L nm) room_1 1254 [(0, .ref 1000002), (1, .ref 0), (2, .ref 265), (3, .int x)] [] (zmk I L M) cl sl := by
  refine S_aload_n 1 dL_law_1254 rfl rfl ?_
  refine S_aload_n 0 dL_law_1255 rfl rfl ?_
  refine S_iload_n 3 dL_law_1256 rfl rfl ?_
  refine S_iconst (v := 1) dL_law_1257 (by decide) ?_
  refine S_iadd dL_law_1258 ?_
  refine S_sc_ld h1 dL_law_1259 ?_
  refine S_aload_n 0 dL_law_1260 rfl rfl ?_
  refine S_iload_n 3 dL_law_1261 rfl rfl ?_
  refine S_iconst (v := 2) dL_law_1262 (by decide) ?_
  refine S_iadd dL_law_1263 ?_
  refine S_sc_ld h2 dL_law_1264 ?_
  refine S_callV [.int _, .int _] [] m_RL_151 rfl rfl s_0 ⟨rfl, by omega⟩ (Nat.le_of_ble_eq_true rfl) (lroom 40 (by decide) hcl hsl) dL_law_1265 (CallSem_mono (pr_read 28 hI _ _) ?_)
  rintro v h' ⟨r, I1, L1, M1, rfl, rfl, q1⟩
  show Sem _ _ _ _ _ _ _ [.long r] _ _ _
  refine S_aload_n 2 dL_law_1268 rfl rfl ?_
  refine S_aload_n 0 dL_law_1269 rfl rfl ?_
  refine S_iload_n 3 dL_law_1270 rfl rfl ?_
  refine S_iconst (v := 1) dL_law_1271 (by decide) ?_
  refine S_iadd dL_law_1272 ?_
  refine S_sc_ld h1 dL_law_1273 ?_
  refine S_aload_n 0 dL_law_1274 rfl rfl ?_
  refine S_iload_n 3 dL_law_1275 rfl rfl ?_
  refine S_iconst (v := 2) dL_law_1276 (by decide) ?_
  refine S_iadd dL_law_1277 ?_
  refine S_sc_ld h2 dL_law_1278 ?_
  refine S_callV [.int _, .int _] [.long r] m_RL_154 rfl rfl s_265 ⟨rfl, by omega⟩ (Nat.le_of_ble_eq_true rfl) (lroom 40 (by decide) hcl hsl) dL_law_1279 (CallSem_mono q1 ?_)
  rintro v h' ⟨r2, I2, L2, M2, rfl, rfl, rfl, q2⟩
  show Sem _ _ _ _ _ _ _ [.long _, .long _] _ _ _
  refine S_lcmp dL_law_1282 ?_
  refine S_if_eq (tgt := 1351) dL_law_1283 (by decide) (fun _ => ?_) (fun q => absurd (lcmp_self _) q)
  exact T _ _ _ q2
/-- shift -/
theorem lc_33 (hI : Inv I L M) (hcl : cl ≤ 600000) (hsl : sl ≤ 7302250) {x : Int32} (h1 : vp_in (x + 1) C.2.2.2.1) (h2 : vp_in (x + 2) C.2.2.2.1) (h3 : vp_in (x + 3) C.2.2.2.1) (h4 : vp_in (x + 4) C.2.2.2.1) (h5 : vp_in (x + 5) C.2.2.2.1) (T : ∀ I' L' M', Inv I' L' M' → Sem C Q n0 (Y_L nm) room_1 1351 [(0, .ref 1000002), (1, .ref 0), (2, .ref 265), (3, .int x)] [] (zmk I' L' M') cl sl) : Sem C Q n0 (Y_L nm) room_1 1288 [(0, .ref 1000002), (1, .ref 0), (2, .ref 265), (3, .int x)] [] (zmk I L M) cl sl := by
  refine S_aload_n 1 dL_law_1288 rfl rfl ?_
  refine S_aload_n 0 dL_law_1289 rfl rfl ?_
  refine S_iload_n 3 dL_law_1290 rfl rfl ?_
  refine S_iconst (v := 1) dL_law_1291 (by decide) ?_
  refine S_iadd dL_law_1292 ?_
  refine S_sc_ld h1 dL_law_1293 ?_
  refine S_aload_n 0 dL_law_1294 rfl rfl ?_
  refine S_iload_n 3 dL_law_1295 rfl rfl ?_
  refine S_iconst (v := 2) dL_law_1296 (by decide) ?_
  refine S_iadd dL_law_1297 ?_
  refine S_sc_ld h2 dL_law_1298 ?_
  refine S_aload_n 0 dL_law_1299 rfl rfl ?_
  refine S_iload_n 3 dL_law_1300 rfl rfl ?_
  refine S_iconst (v := 3) dL_law_1301 (by decide) ?_
  refine S_iadd dL_law_1302 ?_
  refine S_sc_ld h3 dL_law_1303 ?_
  refine S_aload_n 0 dL_law_1304 rfl rfl ?_
  refine S_iload_n 3 dL_law_1305 rfl rfl ?_
  refine S_iconst (v := 4) dL_law_1306 (by decide) ?_
  refine S_iadd dL_law_1307 ?_
  refine S_sc_ld h4 dL_law_1308 ?_
  refine S_aload_n 0 dL_law_1309 rfl rfl ?_
  refine S_iload_n 3 dL_law_1310 rfl rfl ?_
  refine S_iconst (v := 5) dL_law_1311 (by decide) ?_
  refine S_iadd dL_law_1312 ?_
  refine S_sc_ld h5 dL_law_1313 ?_
  refine S_callV [.int _, .int _, .int _, .int _, .int _] [] m_RL_155 rfl rfl s_0 ⟨rfl, by omega⟩ (Nat.le_of_ble_eq_true rfl) (lroom 40 (by decide) hcl hsl) dL_law_1314 (CallSem_mono (pr_shift 28 hI _ _ _ _ _) ?_)
  rintro v h' ⟨r, I1, L1, M1, rfl, rfl, q1⟩
  show Sem _ _ _ _ _ _ _ [.int r] _ _ _
  refine S_aload_n 2 dL_law_1317 rfl rfl ?_
  refine S_aload_n 0 dL_law_1318 rfl rfl ?_
  refine S_iload_n 3 dL_law_1319 rfl rfl ?_
  refine S_iconst (v := 1) dL_law_1320 (by decide) ?_
  refine S_iadd dL_law_1321 ?_
  refine S_sc_ld h1 dL_law_1322 ?_
  refine S_aload_n 0 dL_law_1323 rfl rfl ?_
  refine S_iload_n 3 dL_law_1324 rfl rfl ?_
  refine S_iconst (v := 2) dL_law_1325 (by decide) ?_
  refine S_iadd dL_law_1326 ?_
  refine S_sc_ld h2 dL_law_1327 ?_
  refine S_aload_n 0 dL_law_1328 rfl rfl ?_
  refine S_iload_n 3 dL_law_1329 rfl rfl ?_
  refine S_iconst (v := 3) dL_law_1330 (by decide) ?_
  refine S_iadd dL_law_1331 ?_
  refine S_sc_ld h3 dL_law_1332 ?_
  refine S_aload_n 0 dL_law_1333 rfl rfl ?_
  refine S_iload_n 3 dL_law_1334 rfl rfl ?_
  refine S_iconst (v := 4) dL_law_1335 (by decide) ?_
  refine S_iadd dL_law_1336 ?_
  refine S_sc_ld h4 dL_law_1337 ?_
  refine S_aload_n 0 dL_law_1338 rfl rfl ?_
  refine S_iload_n 3 dL_law_1339 rfl rfl ?_
  refine S_iconst (v := 5) dL_law_1340 (by decide) ?_
  refine S_iadd dL_law_1341 ?_
  refine S_sc_ld h5 dL_law_1342 ?_
  refine S_callV [.int _, .int _, .int _, .int _, .int _] [.int r] m_RL_159 rfl rfl s_265 ⟨rfl, by omega⟩ (Nat.le_of_ble_eq_true rfl) (lroom 40 (by decide) hcl hsl) dL_law_1343 (CallSem_mono q1 ?_)
  rintro v h' ⟨r2, I2, L2, M2, rfl, rfl, rfl, q2⟩
  show Sem _ _ _ _ _ _ _ [.int _, .int _] _ _ _
  refine S_icmp_eq (tgt := 1351) dL_law_1346 (by decide) (fun _ => ?_) (fun q => absurd rfl q)
  exact T _ _ _ q2
end LC
