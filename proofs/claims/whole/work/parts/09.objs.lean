/-! THE OBJECTS: numbered as the two constructors make them -/
def zshT : List (Nat × Nat) := [(10, 13), (1, 3), (12, 100), (2, 9), (12, 12), (12, 12), (16, 6), (6, 2), (15, 5), (12, 4), (12, 4), (12, 4), (12, 4), (12, 4), (6, 2), (15, 10), (12, 4), (12, 4), (12, 4), (12, 4), (12, 4), (12, 4), (12, 4), (12, 4), (12, 4), (12, 4), (6, 2), (15, 8), (12, 4), (12, 4), (12, 4), (12, 4), (12, 4), (12, 4), (12, 4), (12, 4), (0, 7), (12, 4), (0, 7), (12, 4), (0, 7), (12, 4), (0, 7), (12, 4), (0, 7), (12, 4), (0, 7), (12, 4), (2, 9), (12, 12), (12, 12), (16, 6), (6, 2), (15, 5), (12, 4), (12, 4), (12, 4), (12, 4), (12, 4), (6, 2), (15, 10), (12, 4), (12, 4), (12, 4), (12, 4), (12, 4), (12, 4), (12, 4), (12, 4), (12, 4), (12, 4), (6, 2), (15, 8), (12, 4), (12, 4), (12, 4), (12, 4), (12, 4), (12, 4), (12, 4), (12, 4), (0, 7), (12, 4), (0, 7), (12, 4), (0, 7), (12, 4), (0, 7), (12, 4), (0, 7), (12, 4), (0, 7), (12, 4), (2, 9), (12, 12), (12, 12), (16, 6), (6, 2), (15, 5), (12, 4), (12, 4), (12, 4), (12, 4), (12, 4), (6, 2), (15, 10), (12, 4), (12, 4), (12, 4), (12, 4), (12, 4), (12, 4), (12, 4), (12, 4), (12, 4), (12, 4), (6, 2), (15, 8), (12, 4), (12, 4), (12, 4), (12, 4), (12, 4), (12, 4), (12, 4), (12, 4), (0, 7), (12, 4), (0, 7), (12, 4), (0, 7), (12, 4), (0, 7), (12, 4), (0, 7), (12, 4), (0, 7), (12, 4), (4, 3), (12, 100), (17, 6), (18, 6), (7, 3), (12, 13), (12, 13), (5, 2), (12, 6), (12, 64), (8, 2), (12, 20), (19, 6), (1, 3), (12, 100), (1, 3), (12, 100), (1, 3), (12, 100), (1, 3), (12, 100), (1, 3), (12, 100), (1, 3), (12, 100), (3, 6), (15, 10), (12, 12), (12, 12), (12, 12), (12, 12), (12, 12), (12, 12), (12, 12), (12, 12), (12, 12), (12, 12), (12, 10), (12, 12), (12, 8), (3, 6), (15, 10), (12, 12), (12, 12), (12, 12), (12, 12), (12, 12), (12, 12), (12, 12), (12, 12), (12, 12), (12, 12), (12, 10), (12, 12), (12, 8), (3, 6), (15, 10), (12, 12), (12, 12), (12, 12), (12, 12), (12, 12), (12, 12), (12, 12), (12, 12), (12, 12), (12, 12), (12, 10), (12, 12), (12, 8), (3, 6), (15, 10), (12, 12), (12, 12), (12, 12), (12, 12), (12, 12), (12, 12), (12, 12), (12, 12), (12, 12), (12, 12), (12, 10), (12, 12), (12, 8), (3, 6), (15, 10), (12, 12), (12, 12), (12, 12), (12, 12), (12, 12), (12, 12), (12, 12), (12, 12), (12, 12), (12, 12), (12, 10), (12, 12), (12, 8), (3, 6), (15, 10), (12, 12), (12, 12), (12, 12), (12, 12), (12, 12), (12, 12), (12, 12), (12, 12), (12, 12), (12, 12), (12, 10), (12, 12), (12, 8), (9, 3), (13, 60), (9, 3), (13, 60), (9, 3), (13, 60), (9, 3), (13, 60), (9, 3), (13, 60), (9, 3), (13, 60), (11, 46), (12, 12), (12, 12), (12, 6), (12, 6), (12, 6), (12, 6), (12, 6), (12, 24), (12, 100), (12, 6), (12, 61), (12, 61), (12, 61), (12, 61), (12, 800), (14, 110), (12, 5), (12, 5), (12, 5), (12, 5), (12, 10), (12, 10), (12, 8), (12, 8), (12, 20), (12, 140), (12, 140), (12, 6), (12, 6), (12, 6), (13, 360)]
def zsh (a : Nat) : Nat × Nat := zshT.getD a (99, 0)
def zpT : List (List Nat) := [[1, 3, 48, 93, 0, 138, 140, 0, 141, 142, 145, 148, 150], [0, 2], [], [4, 5, 6, 0, 0, 0, 7, 14, 26], [], [], [36, 38, 40, 42, 44, 46], [8], [9, 10, 11, 12, 13], [], [], [], [], [], [15], [16, 17, 18, 19, 20, 21, 22, 23, 24, 25], [], [], [], [], [], [], [], [], [], [], [27], [28, 29, 30, 31, 32, 33, 34, 35], [], [], [], [], [], [], [], [], [0, 0, 0, 0, 0, 0, 37], [], [0, 0, 0, 0, 0, 0, 39], [], [0, 0, 0, 0, 0, 0, 41], [], [0, 0, 0, 0, 0, 0, 43], [], [0, 0, 0, 0, 0, 0, 45], [], [0, 0, 0, 0, 0, 0, 47], [], [49, 50, 51, 0, 0, 0, 52, 59, 71], [], [], [81, 83, 85, 87, 89, 91], [53], [54, 55, 56, 57, 58], [], [], [], [], [], [60], [61, 62, 63, 64, 65, 66, 67, 68, 69, 70], [], [], [], [], [], [], [], [], [], [], [72], [73, 74, 75, 76, 77, 78, 79, 80], [], [], [], [], [], [], [], [], [0, 0, 0, 0, 0, 0, 82], [], [0, 0, 0, 0, 0, 0, 84], [], [0, 0, 0, 0, 0, 0, 86], [], [0, 0, 0, 0, 0, 0, 88], [], [0, 0, 0, 0, 0, 0, 90], [], [0, 0, 0, 0, 0, 0, 92], [], [94, 95, 96, 0, 0, 0, 97, 104, 116], [], [], [126, 128, 130, 132, 134, 136], [98], [99, 100, 101, 102, 103], [], [], [], [], [], [105], [106, 107, 108, 109, 110, 111, 112, 113, 114, 115], [], [], [], [], [], [], [], [], [], [], [117], [118, 119, 120, 121, 122, 123, 124, 125], [], [], [], [], [], [], [], [], [0, 0, 0, 0, 0, 0, 127], [], [0, 0, 0, 0, 0, 0, 129], [], [0, 0, 0, 0, 0, 0, 131], [], [0, 0, 0, 0, 0, 0, 133], [], [0, 0, 0, 0, 0, 0, 135], [], [0, 0, 0, 0, 0, 0, 137], [], [139], [], [151, 153, 155, 157, 159, 161], [163, 178, 193, 208, 223, 238], [143, 144], [], [], [146, 147], [], [], [149], [], [253, 255, 257, 259, 261, 263], [0, 152], [], [0, 154], [], [0, 156], [], [0, 158], [], [0, 160], [], [0, 162], [], [0, 0, 164, 175, 176, 177], [165, 166, 167, 168, 169, 170, 171, 172, 173, 174], [], [], [], [], [], [], [], [], [], [], [], [], [], [0, 0, 179, 190, 191, 192], [180, 181, 182, 183, 184, 185, 186, 187, 188, 189], [], [], [], [], [], [], [], [], [], [], [], [], [], [0, 0, 194, 205, 206, 207], [195, 196, 197, 198, 199, 200, 201, 202, 203, 204], [], [], [], [], [], [], [], [], [], [], [], [], [], [0, 0, 209, 220, 221, 222], [210, 211, 212, 213, 214, 215, 216, 217, 218, 219], [], [], [], [], [], [], [], [], [], [], [], [], [], [0, 0, 224, 235, 236, 237], [225, 226, 227, 228, 229, 230, 231, 232, 233, 234], [], [], [], [], [], [], [], [], [], [], [], [], [], [0, 0, 239, 250, 251, 252], [240, 241, 242, 243, 244, 245, 246, 247, 248, 249], [], [], [], [], [], [], [], [], [], [], [], [], [], [0, 0, 254], [], [0, 0, 256], [], [0, 0, 258], [], [0, 0, 260], [], [0, 0, 262], [], [0, 0, 264], [], [266, 267, 0, 268, 269, 270, 271, 272, 273, 0, 0, 274, 0, 0, 0, 0, 0, 0, 275, 276, 277, 278, 279, 280, 0, 281, 0, 282, 283, 284, 285, 0, 286, 287, 0, 288, 289, 0, 290, 0, 291, 292, 293, 294, 295, 296], [], [], [], [], [], [], [], [], [], [], [], [], [], [], [], [], [], [], [], [], [], [], [], [], [], [], [], [], [], [], []]
def zP0 (a j : Nat) : Option Nat := match (zpT.getD a []).getD j 0 with
  | 0 => none
  | k + 1 => some (k + 1)
def zmk (I : Nat → Nat → Int32) (L : Nat → Nat → Int64) (M : Nat → Nat → Option Nat) : zH := (297, zsh, I, L, zP0, M)
theorem zshT_len : zshT.length = 297 := by decide +kernel
theorem zsh_ok : ∀ a, a < 297 ∨ zsh a = (99, 0) := fun a => by
  rcases Nat.lt_or_ge a 297 with h | h
  · exact Or.inl h
  · right
    unfold zsh
    rw [List.getD_eq_getElem?_getD, List.getElem?_eq_none (by rw [zshT_len]; exact h)]
    rfl
theorem s_0 : zsh 0 = (10, 13) := by decide +kernel
theorem s_138 : zsh 138 = (4, 3) := by decide +kernel
theorem s_139 : zsh 139 = (12, 100) := by decide +kernel
theorem s_140 : zsh 140 = (17, 6) := by decide +kernel
theorem s_141 : zsh 141 = (18, 6) := by decide +kernel
theorem s_142 : zsh 142 = (7, 3) := by decide +kernel
theorem s_143 : zsh 143 = (12, 13) := by decide +kernel
theorem s_144 : zsh 144 = (12, 13) := by decide +kernel
theorem s_145 : zsh 145 = (5, 2) := by decide +kernel
theorem s_146 : zsh 146 = (12, 6) := by decide +kernel
theorem s_147 : zsh 147 = (12, 64) := by decide +kernel
theorem s_148 : zsh 148 = (8, 2) := by decide +kernel
theorem s_149 : zsh 149 = (12, 20) := by decide +kernel
theorem s_150 : zsh 150 = (19, 6) := by decide +kernel
theorem s_265 : zsh 265 = (11, 46) := by decide +kernel
theorem s_266 : zsh 266 = (12, 12) := by decide +kernel
theorem s_267 : zsh 267 = (12, 12) := by decide +kernel
theorem s_268 : zsh 268 = (12, 6) := by decide +kernel
theorem s_269 : zsh 269 = (12, 6) := by decide +kernel
theorem s_270 : zsh 270 = (12, 6) := by decide +kernel
theorem s_271 : zsh 271 = (12, 6) := by decide +kernel
theorem s_272 : zsh 272 = (12, 6) := by decide +kernel
theorem s_273 : zsh 273 = (12, 24) := by decide +kernel
theorem s_274 : zsh 274 = (12, 100) := by decide +kernel
theorem s_275 : zsh 275 = (12, 6) := by decide +kernel
theorem s_276 : zsh 276 = (12, 61) := by decide +kernel
theorem s_277 : zsh 277 = (12, 61) := by decide +kernel
theorem s_278 : zsh 278 = (12, 61) := by decide +kernel
theorem s_279 : zsh 279 = (12, 61) := by decide +kernel
theorem s_280 : zsh 280 = (12, 800) := by decide +kernel
theorem s_281 : zsh 281 = (14, 110) := by decide +kernel
theorem s_282 : zsh 282 = (12, 5) := by decide +kernel
theorem s_283 : zsh 283 = (12, 5) := by decide +kernel
theorem s_284 : zsh 284 = (12, 5) := by decide +kernel
theorem s_285 : zsh 285 = (12, 5) := by decide +kernel
theorem s_286 : zsh 286 = (12, 10) := by decide +kernel
theorem s_287 : zsh 287 = (12, 10) := by decide +kernel
theorem s_288 : zsh 288 = (12, 8) := by decide +kernel
theorem s_289 : zsh 289 = (12, 8) := by decide +kernel
theorem s_290 : zsh 290 = (12, 20) := by decide +kernel
theorem s_291 : zsh 291 = (12, 140) := by decide +kernel
theorem s_292 : zsh 292 = (12, 140) := by decide +kernel
theorem s_293 : zsh 293 = (12, 6) := by decide +kernel
theorem s_294 : zsh 294 = (12, 6) := by decide +kernel
theorem s_295 : zsh 295 = (12, 6) := by decide +kernel
theorem s_296 : zsh 296 = (13, 360) := by decide +kernel
theorem p_0_0 : zP0 0 0 = some 1 := by decide +kernel
theorem p_0_1 : zP0 0 1 = some 3 := by decide +kernel
theorem p_0_2 : zP0 0 2 = some 48 := by decide +kernel
theorem p_0_3 : zP0 0 3 = some 93 := by decide +kernel
theorem p_0_5 : zP0 0 5 = some 138 := by decide +kernel
theorem p_0_6 : zP0 0 6 = some 140 := by decide +kernel
theorem p_0_8 : zP0 0 8 = some 141 := by decide +kernel
theorem p_0_9 : zP0 0 9 = some 142 := by decide +kernel
theorem p_0_10 : zP0 0 10 = some 145 := by decide +kernel
theorem p_0_11 : zP0 0 11 = some 148 := by decide +kernel
theorem p_0_12 : zP0 0 12 = some 150 := by decide +kernel
theorem p_138_0 : zP0 138 0 = some 139 := by decide +kernel
theorem p_142_0 : zP0 142 0 = some 143 := by decide +kernel
theorem p_142_1 : zP0 142 1 = some 144 := by decide +kernel
theorem p_145_0 : zP0 145 0 = some 146 := by decide +kernel
theorem p_145_1 : zP0 145 1 = some 147 := by decide +kernel
theorem p_148_0 : zP0 148 0 = some 149 := by decide +kernel
theorem p_265_0 : zP0 265 0 = some 266 := by decide +kernel
theorem p_265_1 : zP0 265 1 = some 267 := by decide +kernel
theorem p_265_3 : zP0 265 3 = some 268 := by decide +kernel
theorem p_265_4 : zP0 265 4 = some 269 := by decide +kernel
theorem p_265_5 : zP0 265 5 = some 270 := by decide +kernel
theorem p_265_6 : zP0 265 6 = some 271 := by decide +kernel
theorem p_265_7 : zP0 265 7 = some 272 := by decide +kernel
theorem p_265_8 : zP0 265 8 = some 273 := by decide +kernel
theorem p_265_11 : zP0 265 11 = some 274 := by decide +kernel
theorem p_265_18 : zP0 265 18 = some 275 := by decide +kernel
theorem p_265_19 : zP0 265 19 = some 276 := by decide +kernel
theorem p_265_20 : zP0 265 20 = some 277 := by decide +kernel
theorem p_265_21 : zP0 265 21 = some 278 := by decide +kernel
theorem p_265_22 : zP0 265 22 = some 279 := by decide +kernel
theorem p_265_23 : zP0 265 23 = some 280 := by decide +kernel
theorem p_265_25 : zP0 265 25 = some 281 := by decide +kernel
theorem p_265_27 : zP0 265 27 = some 282 := by decide +kernel
theorem p_265_28 : zP0 265 28 = some 283 := by decide +kernel
theorem p_265_29 : zP0 265 29 = some 284 := by decide +kernel
theorem p_265_30 : zP0 265 30 = some 285 := by decide +kernel
theorem p_265_32 : zP0 265 32 = some 286 := by decide +kernel
theorem p_265_33 : zP0 265 33 = some 287 := by decide +kernel
theorem p_265_35 : zP0 265 35 = some 288 := by decide +kernel
theorem p_265_36 : zP0 265 36 = some 289 := by decide +kernel
theorem p_265_38 : zP0 265 38 = some 290 := by decide +kernel
theorem p_265_40 : zP0 265 40 = some 291 := by decide +kernel
theorem p_265_41 : zP0 265 41 = some 292 := by decide +kernel
theorem p_265_42 : zP0 265 42 = some 293 := by decide +kernel
theorem p_265_43 : zP0 265 43 = some 294 := by decide +kernel
theorem p_265_44 : zP0 265 44 = some 295 := by decide +kernel
theorem p_265_45 : zP0 265 45 = some 296 := by decide +kernel
def zInn (b : Nat) : Prop := b = 3 ∨ b = 48 ∨ b = 93
def zHo (o : Nat) : Prop := zsh o = (1, 3) ∧ zP0 o 1 = some (o + 1) ∧ zsh (o + 1) = (12, 100)
def zGu (o : Nat) : Prop := zsh o = (0, 7) ∧ zP0 o 6 = some (o + 1) ∧ zsh (o + 1) = (12, 4)
def zTa (o : Nat) : Prop := zsh o = (9, 3) ∧ zP0 o 2 = some (o + 1) ∧ zsh (o + 1) = (13, 60)
def zRo (n o : Nat) : Prop := zsh o = (6, 2) ∧ zP0 o 0 = some (o + 1) ∧ zsh (o + 1) = (15 + 0, n) ∧ ∀ i, i < n → zP0 (o + 1) i = some (o + 2 + i) ∧ zsh (o + 2 + i) = (12, 4)
def zLu (o : Nat) : Prop := zsh o = (3, 6) ∧ zP0 o 2 = some (o + 1) ∧ zP0 o 3 = some (o + 12) ∧ zP0 o 4 = some (o + 13) ∧ zP0 o 5 = some (o + 14) ∧ zsh (o + 1) = (15 + 0, 10) ∧ zsh (o + 12) = (12, 10) ∧ zsh (o + 13) = (12, 12) ∧ zsh (o + 14) = (12, 8) ∧ ∀ i, i < 10 → zP0 (o + 1) i = some (o + 2 + i) ∧ zsh (o + 2 + i) = (12, 12)
theorem zInn_c {P : Nat → Prop} (h0 : P 3) (h1 : P 48) (h2 : P 93) {b : Nat} (hb : zInn b) : P b := by
  rcases hb with rfl | rfl | rfl
  · exact h0
  · exact h1
  · exact h2
theorem sI {b : Nat} (hb : zInn b) : zsh b = (2, 9) := zInn_c (P := fun b => zsh b = (2, 9)) (by decide +kernel) (by decide +kernel) (by decide +kernel) hb
theorem pI_w {b : Nat} (hb : zInn b) : zP0 b 0 = some (b + 1) := zInn_c (P := fun b => zP0 b 0 = some (b + 1)) (by decide +kernel) (by decide +kernel) (by decide +kernel) hb
theorem sI_w {b : Nat} (hb : zInn b) : zsh (b + 1) = (12, 12) := zInn_c (P := fun b => zsh (b + 1) = (12, 12)) (by decide +kernel) (by decide +kernel) (by decide +kernel) hb
theorem pI_c {b : Nat} (hb : zInn b) : zP0 b 1 = some (b + 2) := zInn_c (P := fun b => zP0 b 1 = some (b + 2)) (by decide +kernel) (by decide +kernel) (by decide +kernel) hb
theorem sI_c {b : Nat} (hb : zInn b) : zsh (b + 2) = (12, 12) := zInn_c (P := fun b => zsh (b + 2) = (12, 12)) (by decide +kernel) (by decide +kernel) (by decide +kernel) hb
theorem pI_g {b : Nat} (hb : zInn b) : zP0 b 2 = some (b + 3) := zInn_c (P := fun b => zP0 b 2 = some (b + 3)) (by decide +kernel) (by decide +kernel) (by decide +kernel) hb
theorem sI_g {b : Nat} (hb : zInn b) : zsh (b + 3) = (15 + 1, 6) := zInn_c (P := fun b => zsh (b + 3) = (15 + 1, 6)) (by decide +kernel) (by decide +kernel) (by decide +kernel) hb
theorem pI_s {b : Nat} (hb : zInn b) : zP0 b 6 = some (b + 4) := zInn_c (P := fun b => zP0 b 6 = some (b + 4)) (by decide +kernel) (by decide +kernel) (by decide +kernel) hb
theorem sI_s {b : Nat} (hb : zInn b) : zsh (b + 4) = (6, 2) := zInn_c (P := fun b => zsh (b + 4) = (6, 2)) (by decide +kernel) (by decide +kernel) (by decide +kernel) hb
theorem pI_p {b : Nat} (hb : zInn b) : zP0 b 7 = some (b + 11) := zInn_c (P := fun b => zP0 b 7 = some (b + 11)) (by decide +kernel) (by decide +kernel) (by decide +kernel) hb
theorem sI_p {b : Nat} (hb : zInn b) : zsh (b + 11) = (6, 2) := zInn_c (P := fun b => zsh (b + 11) = (6, 2)) (by decide +kernel) (by decide +kernel) (by decide +kernel) hb
theorem pI_k {b : Nat} (hb : zInn b) : zP0 b 8 = some (b + 23) := zInn_c (P := fun b => zP0 b 8 = some (b + 23)) (by decide +kernel) (by decide +kernel) (by decide +kernel) hb
theorem sI_k {b : Nat} (hb : zInn b) : zsh (b + 23) = (6, 2) := zInn_c (P := fun b => zsh (b + 23) = (6, 2)) (by decide +kernel) (by decide +kernel) (by decide +kernel) hb
theorem rI_s {b : Nat} (hb : zInn b) : zRo 5 (b + 4) := ⟨sI_s hb, zInn_c (P := fun b => zP0 (b + 4) 0 = some (b + 4 + 1)) (by decide +kernel) (by decide +kernel) (by decide +kernel) hb, zInn_c (P := fun b => zsh (b + 4 + 1) = (15 + 0, 5)) (by decide +kernel) (by decide +kernel) (by decide +kernel) hb, zInn_c (P := fun b => ∀ i, i < 5 → zP0 (b + 4 + 1) i = some (b + 4 + 2 + i) ∧ zsh (b + 4 + 2 + i) = (12, 4)) (by decide +kernel) (by decide +kernel) (by decide +kernel) hb⟩
theorem rI_p {b : Nat} (hb : zInn b) : zRo 10 (b + 11) := ⟨sI_p hb, zInn_c (P := fun b => zP0 (b + 11) 0 = some (b + 11 + 1)) (by decide +kernel) (by decide +kernel) (by decide +kernel) hb, zInn_c (P := fun b => zsh (b + 11 + 1) = (15 + 0, 10)) (by decide +kernel) (by decide +kernel) (by decide +kernel) hb, zInn_c (P := fun b => ∀ i, i < 10 → zP0 (b + 11 + 1) i = some (b + 11 + 2 + i) ∧ zsh (b + 11 + 2 + i) = (12, 4)) (by decide +kernel) (by decide +kernel) (by decide +kernel) hb⟩
theorem rI_k {b : Nat} (hb : zInn b) : zRo 8 (b + 23) := ⟨sI_k hb, zInn_c (P := fun b => zP0 (b + 23) 0 = some (b + 23 + 1)) (by decide +kernel) (by decide +kernel) (by decide +kernel) hb, zInn_c (P := fun b => zsh (b + 23 + 1) = (15 + 0, 8)) (by decide +kernel) (by decide +kernel) (by decide +kernel) hb, zInn_c (P := fun b => ∀ i, i < 8 → zP0 (b + 23 + 1) i = some (b + 23 + 2 + i) ∧ zsh (b + 23 + 2 + i) = (12, 4)) (by decide +kernel) (by decide +kernel) (by decide +kernel) hb⟩
theorem gI_p {b : Nat} (hb : zInn b) : ∀ g, g < 6 → zP0 (b + 3) g = some (b + 33 + 2 * g) := zInn_c (P := fun b => ∀ g, g < 6 → zP0 (b + 3) g = some (b + 33 + 2 * g)) (by decide +kernel) (by decide +kernel) (by decide +kernel) hb
theorem gI {b : Nat} (hb : zInn b) : ∀ g, g < 6 → zGu (b + 33 + 2 * g) := fun g hg => ⟨zInn_c (P := fun b => ∀ g, g < 6 → zsh (b + 33 + 2 * g) = (0, 7)) (by decide +kernel) (by decide +kernel) (by decide +kernel) hb g hg, zInn_c (P := fun b => ∀ g, g < 6 → zP0 (b + 33 + 2 * g) 6 = some (b + 33 + 2 * g + 1)) (by decide +kernel) (by decide +kernel) (by decide +kernel) hb g hg, zInn_c (P := fun b => ∀ g, g < 6 → zsh (b + 33 + 2 * g + 1) = (12, 4)) (by decide +kernel) (by decide +kernel) (by decide +kernel) hb g hg⟩
theorem i0 : zInn 3 := Or.inl rfl
theorem i1 : zInn 48 := Or.inr (Or.inl rfl)
theorem i2 : zInn 93 := Or.inr (Or.inr rfl)
theorem hBare : zHo 1 := ⟨by decide +kernel, by decide +kernel, by decide +kernel⟩
theorem hH_p : ∀ i, i < 6 → zP0 140 i = some (151 + 2 * i) := by decide +kernel
theorem hH : ∀ i, i < 6 → zHo (151 + 2 * i) := fun i hi => ⟨(by decide +kernel : ∀ i, i < 6 → zsh (151 + 2 * i) = (1, 3)) i hi, (by decide +kernel : ∀ i, i < 6 → zP0 (151 + 2 * i) 1 = some (151 + 2 * i + 1)) i hi, (by decide +kernel : ∀ i, i < 6 → zsh (151 + 2 * i + 1) = (12, 100)) i hi⟩
theorem hT_p : ∀ i, i < 6 → zP0 150 i = some (253 + 2 * i) := by decide +kernel
theorem hT : ∀ i, i < 6 → zTa (253 + 2 * i) := fun i hi => ⟨(by decide +kernel : ∀ i, i < 6 → zsh (253 + 2 * i) = (9, 3)) i hi, (by decide +kernel : ∀ i, i < 6 → zP0 (253 + 2 * i) 2 = some (253 + 2 * i + 1)) i hi, (by decide +kernel : ∀ i, i < 6 → zsh (253 + 2 * i + 1) = (13, 60)) i hi⟩
theorem hL_p : ∀ i, i < 6 → zP0 141 i = some (163 + 15 * i) := by decide +kernel
theorem hL : ∀ i, i < 6 → zLu (163 + 15 * i) := fun i hi => ⟨(by decide +kernel : ∀ i, i < 6 → zsh (163 + 15 * i) = (3, 6)) i hi, (by decide +kernel : ∀ i, i < 6 → zP0 (163 + 15 * i) 2 = some (163 + 15 * i + 1)) i hi, (by decide +kernel : ∀ i, i < 6 → zP0 (163 + 15 * i) 3 = some (163 + 15 * i + 12)) i hi, (by decide +kernel : ∀ i, i < 6 → zP0 (163 + 15 * i) 4 = some (163 + 15 * i + 13)) i hi, (by decide +kernel : ∀ i, i < 6 → zP0 (163 + 15 * i) 5 = some (163 + 15 * i + 14)) i hi, (by decide +kernel : ∀ i, i < 6 → zsh (163 + 15 * i + 1) = (15 + 0, 10)) i hi, (by decide +kernel : ∀ i, i < 6 → zsh (163 + 15 * i + 12) = (12, 10)) i hi, (by decide +kernel : ∀ i, i < 6 → zsh (163 + 15 * i + 13) = (12, 12)) i hi, (by decide +kernel : ∀ i, i < 6 → zsh (163 + 15 * i + 14) = (12, 8)) i hi, (by decide +kernel : ∀ i, i < 6 → ∀ j, j < 10 → zP0 (163 + 15 * i + 1) j = some (163 + 15 * i + 2 + j) ∧ zsh (163 + 15 * i + 2 + j) = (12, 12)) i hi⟩
/-- an index that is in range, as a place -/
theorem vp_lt {i : Int32} {n : Nat} (h : vp_in i n) : i.toNatClampNeg < n := Nat.not_le.mp fun q => h (Or.inr q)
/-- a call that answers an int, a long, an object, nothing; over the objects that stand -/
theorem CallSem_mono {C : zC} {Y : zY} {d mc ms : Nat} {av : List Value} {h : zH} {R R' : Option Value → zH → Prop} (hc : CallSem C Y d mc ms av h R) (hR : ∀ v h', R v h' → R' v h') : CallSem C Y d mc ms av h R' := by
  intro l ad p e ha c1 c2 s m args below hf happ hp hk
  obtain ⟨n, o, h1, h2, h3, ⟨⟨v, h', ad', e1, e2, e3, e4, e5, e6⟩, hF⟩, hE⟩ := hc l ad p e ha c1 c2 s m args below hf happ hp hk
  exact ⟨n, o, h1, h2, h3, ⟨⟨v, h', ad', e1, e2, e3, e4, e5, hR v h' e6⟩, hF⟩, hE⟩
def zCI (C : zC) (Y : zY) (d : Nat) (av : List Value) (h : zH) (K : Int32 → (Nat → Nat → Int32) → (Nat → Nat → Int64) → (Nat → Nat → Option Nat) → Prop) : Prop := CallSem C Y d 0 0 av h (fun v h' => ∃ r I L M, v = some (.int r) ∧ h' = zmk I L M ∧ K r I L M)
def zCL (C : zC) (Y : zY) (d : Nat) (av : List Value) (h : zH) (K : Int64 → (Nat → Nat → Int32) → (Nat → Nat → Int64) → (Nat → Nat → Option Nat) → Prop) : Prop := CallSem C Y d 0 0 av h (fun v h' => ∃ r I L M, v = some (.long r) ∧ h' = zmk I L M ∧ K r I L M)
def zCR (C : zC) (Y : zY) (d : Nat) (av : List Value) (h : zH) (K : Nat → (Nat → Nat → Int32) → (Nat → Nat → Int64) → (Nat → Nat → Option Nat) → Prop) : Prop := CallSem C Y d 0 0 av h (fun v h' => ∃ r I L M, v = some (.ref r) ∧ h' = zmk I L M ∧ K r I L M)
def zCV (C : zC) (Y : zY) (d : Nat) (av : List Value) (h : zH) (K : (Nat → Nat → Int32) → (Nat → Nat → Int64) → (Nat → Nat → Option Nat) → Prop) : Prop := CallSem C Y d 0 0 av h (fun v h' => ∃ I L M, v = none ∧ h' = zmk I L M ∧ K I L M)


section ZU
variable {C : zC} {Q : zQ} {n0 : Nat} {Y Yc : zY} {rm : Room} {pc d : Nat} {lv : List (Nat × Value)} {av rest : List Value} {h : zH} {cl sl : Nat}
theorem S_lv {lv' : List (Nat × Value)} {st : List Value} (e : lv = lv') (k : Sem C Q n0 Y rm pc lv' st h cl sl) : Sem C Q n0 Y rm pc lv st h cl sl := e ▸ k
theorem zpure {r : Int32} (hp : ∀ R : Option Value → zH → Prop, R (some (.int r)) h → CallSem C Yc d 0 0 av h R) (k : Sem C Q n0 Y rm pc lv (.int r :: rest) h cl sl) : CallSem C Yc d 0 0 av h (fun v h' => Sem C Q n0 Y rm pc lv (v.toList ++ rest) h' cl sl) := hp _ k
theorem zpureV (hp : ∀ R : Option Value → zH → Prop, R none h → CallSem C Yc d 0 0 av h R) (k : Sem C Q n0 Y rm pc lv rest h cl sl) : CallSem C Yc d 0 0 av h (fun v h' => Sem C Q n0 Y rm pc lv (v.toList ++ rest) h' cl sl) := hp _ k
theorem zCI_use {K : Int32 → (Nat → Nat → Int32) → (Nat → Nat → Int64) → (Nat → Nat → Option Nat) → Prop} (T : zCI C Yc d av h K) (k : ∀ r I L M, K r I L M → Sem C Q n0 Y rm pc lv (.int r :: rest) (zmk I L M) cl sl) : CallSem C Yc d 0 0 av h (fun v h' => Sem C Q n0 Y rm pc lv (v.toList ++ rest) h' cl sl) :=
  CallSem_mono T (fun v h' q => by obtain ⟨r, I, L, M, rfl, rfl, x⟩ := q; exact k r I L M x)
theorem zCL_use {K : Int64 → (Nat → Nat → Int32) → (Nat → Nat → Int64) → (Nat → Nat → Option Nat) → Prop} (T : zCL C Yc d av h K) (k : ∀ r I L M, K r I L M → Sem C Q n0 Y rm pc lv (.long r :: rest) (zmk I L M) cl sl) : CallSem C Yc d 0 0 av h (fun v h' => Sem C Q n0 Y rm pc lv (v.toList ++ rest) h' cl sl) :=
  CallSem_mono T (fun v h' q => by obtain ⟨r, I, L, M, rfl, rfl, x⟩ := q; exact k r I L M x)
theorem zCR_use {K : Nat → (Nat → Nat → Int32) → (Nat → Nat → Int64) → (Nat → Nat → Option Nat) → Prop} (T : zCR C Yc d av h K) (k : ∀ r I L M, K r I L M → Sem C Q n0 Y rm pc lv (.ref r :: rest) (zmk I L M) cl sl) : CallSem C Yc d 0 0 av h (fun v h' => Sem C Q n0 Y rm pc lv (v.toList ++ rest) h' cl sl) :=
  CallSem_mono T (fun v h' q => by obtain ⟨r, I, L, M, rfl, rfl, x⟩ := q; exact k r I L M x)
theorem zCV_use {K : (Nat → Nat → Int32) → (Nat → Nat → Int64) → (Nat → Nat → Option Nat) → Prop} (T : zCV C Yc d av h K) (k : ∀ I L M, K I L M → Sem C Q n0 Y rm pc lv rest (zmk I L M) cl sl) : CallSem C Yc d 0 0 av h (fun v h' => Sem C Q n0 Y rm pc lv (v.toList ++ rest) h' cl sl) :=
  CallSem_mono T (fun v h' q => by obtain ⟨I, L, M, rfl, rfl, x⟩ := q; exact k I L M x)
end ZU
theorem zCI_mono {C : zC} {Y : zY} {d : Nat} {av : List Value} {h : zH} {K K' : Int32 → (Nat → Nat → Int32) → (Nat → Nat → Int64) → (Nat → Nat → Option Nat) → Prop} (T : zCI C Y d av h K) (k : ∀ r I L M, K r I L M → K' r I L M) : zCI C Y d av h K' := CallSem_mono T (fun v h' q => by obtain ⟨r, I, L, M, e1, e2, x⟩ := q; exact ⟨r, I, L, M, e1, e2, k r I L M x⟩)
theorem zCV_mono {C : zC} {Y : zY} {d : Nat} {av : List Value} {h : zH} {K K' : (Nat → Nat → Int32) → (Nat → Nat → Int64) → (Nat → Nat → Option Nat) → Prop} (T : zCV C Y d av h K) (k : ∀ I L M, K I L M → K' I L M) : zCV C Y d av h K' := CallSem_mono T (fun v h' q => by obtain ⟨I, L, M, e1, e2, x⟩ := q; exact ⟨I, L, M, e1, e2, k I L M x⟩)
/-- inside a method that answers an int, a long, an object, nothing -/
abbrev zSI (C : zC) (h0 : zH) (K : Int32 → (Nat → Nat → Int32) → (Nat → Nat → Int64) → (Nat → Nat → Option Nat) → Prop) (Y : zY) (d pc : Nat) (lv : List (Nat × Value)) (st : List Value) (I : Nat → Nat → Int32) (L : Nat → Nat → Int64) (M : Nat → Nat → Option Nat) : Prop := Sem C (zQm C h0 0 0 (fun v h' => ∃ r I L M, v = some (.int r) ∧ h' = zmk I L M ∧ K r I L M)) (zn h0) Y (zrm d 0 0) pc lv st (zmk I L M) 0 0
abbrev zSL (C : zC) (h0 : zH) (K : Int64 → (Nat → Nat → Int32) → (Nat → Nat → Int64) → (Nat → Nat → Option Nat) → Prop) (Y : zY) (d pc : Nat) (lv : List (Nat × Value)) (st : List Value) (I : Nat → Nat → Int32) (L : Nat → Nat → Int64) (M : Nat → Nat → Option Nat) : Prop := Sem C (zQm C h0 0 0 (fun v h' => ∃ r I L M, v = some (.long r) ∧ h' = zmk I L M ∧ K r I L M)) (zn h0) Y (zrm d 0 0) pc lv st (zmk I L M) 0 0
abbrev zSR (C : zC) (h0 : zH) (K : Nat → (Nat → Nat → Int32) → (Nat → Nat → Int64) → (Nat → Nat → Option Nat) → Prop) (Y : zY) (d pc : Nat) (lv : List (Nat × Value)) (st : List Value) (I : Nat → Nat → Int32) (L : Nat → Nat → Int64) (M : Nat → Nat → Option Nat) : Prop := Sem C (zQm C h0 0 0 (fun v h' => ∃ r I L M, v = some (.ref r) ∧ h' = zmk I L M ∧ K r I L M)) (zn h0) Y (zrm d 0 0) pc lv st (zmk I L M) 0 0
abbrev zSV (C : zC) (h0 : zH) (K : (Nat → Nat → Int32) → (Nat → Nat → Int64) → (Nat → Nat → Option Nat) → Prop) (Y : zY) (d pc : Nat) (lv : List (Nat × Value)) (st : List Value) (I : Nat → Nat → Int32) (L : Nat → Nat → Int64) (M : Nat → Nat → Option Nat) : Prop := Sem C (zQm C h0 0 0 (fun v h' => ∃ I L M, v = none ∧ h' = zmk I L M ∧ K I L M)) (zn h0) Y (zrm d 0 0) pc lv st (zmk I L M) 0 0
/-- a truth, as an int -/
def zb (c : Prop) [Decidable c] : Int32 := if c then 1 else 0
theorem zb_f {c : Prop} [Decidable c] (h : zb c = 0) : ¬ c := fun q => by simp [zb, q] at h
theorem zb_t {c : Prop} [Decidable c] (h : ¬ zb c = 0) : c := Classical.byContradiction fun q => h (by simp [zb, q])
theorem zb_01 {c : Prop} [Decidable c] : zb c = 0 ∨ zb c = 1 := by
  by_cases q : c
  · exact Or.inr (by simp [zb, q])
  · exact Or.inl (by simp [zb, q])
theorem ztab0_7 (x : Int32) : x = 0 ∨ x = 1 ∨ x = 2 ∨ x = 3 ∨ x = 4 ∨ x = 5 ∨ x = 6 ∨ (x.toInt < 0 ∨ 6 < x.toInt) := by
  have e : ∀ k : Int32, x.toInt = k.toInt → x = k := fun k h => Int32.toInt_inj.mp h
  rcases (by omega : x.toInt = 0 ∨ x.toInt = 1 ∨ x.toInt = 2 ∨ x.toInt = 3 ∨ x.toInt = 4 ∨ x.toInt = 5 ∨ x.toInt = 6 ∨ (x.toInt < 0 ∨ 6 < x.toInt)) with h | h | h | h | h | h | h | h
  · exact Or.inl (e 0 h)
  · exact Or.inr (Or.inl (e 1 h))
  · exact Or.inr (Or.inr (Or.inl (e 2 h)))
  · exact Or.inr (Or.inr (Or.inr (Or.inl (e 3 h))))
  · exact Or.inr (Or.inr (Or.inr (Or.inr (Or.inl (e 4 h)))))
  · exact Or.inr (Or.inr (Or.inr (Or.inr (Or.inr (Or.inl (e 5 h))))))
  · exact Or.inr (Or.inr (Or.inr (Or.inr (Or.inr (Or.inr (Or.inl (e 6 h)))))))
  · exact Or.inr (Or.inr (Or.inr (Or.inr (Or.inr (Or.inr (Or.inr h))))))
theorem ztab0_5 (x : Int32) : x = 0 ∨ x = 1 ∨ x = 2 ∨ x = 3 ∨ x = 4 ∨ (x.toInt < 0 ∨ 4 < x.toInt) := by
  have e : ∀ k : Int32, x.toInt = k.toInt → x = k := fun k h => Int32.toInt_inj.mp h
  rcases (by omega : x.toInt = 0 ∨ x.toInt = 1 ∨ x.toInt = 2 ∨ x.toInt = 3 ∨ x.toInt = 4 ∨ (x.toInt < 0 ∨ 4 < x.toInt)) with h | h | h | h | h | h
  · exact Or.inl (e 0 h)
  · exact Or.inr (Or.inl (e 1 h))
  · exact Or.inr (Or.inr (Or.inl (e 2 h)))
  · exact Or.inr (Or.inr (Or.inr (Or.inl (e 3 h))))
  · exact Or.inr (Or.inr (Or.inr (Or.inr (Or.inl (e 4 h)))))
  · exact Or.inr (Or.inr (Or.inr (Or.inr (Or.inr h))))
theorem ztab1_6 (x : Int32) : x = 1 ∨ x = 2 ∨ x = 3 ∨ x = 4 ∨ x = 5 ∨ x = 6 ∨ (x.toInt < 1 ∨ 6 < x.toInt) := by
  have e : ∀ k : Int32, x.toInt = k.toInt → x = k := fun k h => Int32.toInt_inj.mp h
  rcases (by omega : x.toInt = 1 ∨ x.toInt = 2 ∨ x.toInt = 3 ∨ x.toInt = 4 ∨ x.toInt = 5 ∨ x.toInt = 6 ∨ (x.toInt < 1 ∨ 6 < x.toInt)) with h | h | h | h | h | h | h
  · exact Or.inl (e 1 h)
  · exact Or.inr (Or.inl (e 2 h))
  · exact Or.inr (Or.inr (Or.inl (e 3 h)))
  · exact Or.inr (Or.inr (Or.inr (Or.inl (e 4 h))))
  · exact Or.inr (Or.inr (Or.inr (Or.inr (Or.inl (e 5 h)))))
  · exact Or.inr (Or.inr (Or.inr (Or.inr (Or.inr (Or.inl (e 6 h))))))
  · exact Or.inr (Or.inr (Or.inr (Or.inr (Or.inr (Or.inr h)))))
theorem ztab0_4 (x : Int32) : x = 0 ∨ x = 1 ∨ x = 2 ∨ x = 3 ∨ (x.toInt < 0 ∨ 3 < x.toInt) := by
  have e : ∀ k : Int32, x.toInt = k.toInt → x = k := fun k h => Int32.toInt_inj.mp h
  rcases (by omega : x.toInt = 0 ∨ x.toInt = 1 ∨ x.toInt = 2 ∨ x.toInt = 3 ∨ (x.toInt < 0 ∨ 3 < x.toInt)) with h | h | h | h | h
  · exact Or.inl (e 0 h)
  · exact Or.inr (Or.inl (e 1 h))
  · exact Or.inr (Or.inr (Or.inl (e 2 h)))
  · exact Or.inr (Or.inr (Or.inr (Or.inl (e 3 h))))
  · exact Or.inr (Or.inr (Or.inr (Or.inr h)))
theorem ztab0_8 (x : Int32) : x = 0 ∨ x = 1 ∨ x = 2 ∨ x = 3 ∨ x = 4 ∨ x = 5 ∨ x = 6 ∨ x = 7 ∨ (x.toInt < 0 ∨ 7 < x.toInt) := by
  have e : ∀ k : Int32, x.toInt = k.toInt → x = k := fun k h => Int32.toInt_inj.mp h
  rcases (by omega : x.toInt = 0 ∨ x.toInt = 1 ∨ x.toInt = 2 ∨ x.toInt = 3 ∨ x.toInt = 4 ∨ x.toInt = 5 ∨ x.toInt = 6 ∨ x.toInt = 7 ∨ (x.toInt < 0 ∨ 7 < x.toInt)) with h | h | h | h | h | h | h | h | h
  · exact Or.inl (e 0 h)
  · exact Or.inr (Or.inl (e 1 h))
  · exact Or.inr (Or.inr (Or.inl (e 2 h)))
  · exact Or.inr (Or.inr (Or.inr (Or.inl (e 3 h))))
  · exact Or.inr (Or.inr (Or.inr (Or.inr (Or.inl (e 4 h)))))
  · exact Or.inr (Or.inr (Or.inr (Or.inr (Or.inr (Or.inl (e 5 h))))))
  · exact Or.inr (Or.inr (Or.inr (Or.inr (Or.inr (Or.inr (Or.inl (e 6 h)))))))
  · exact Or.inr (Or.inr (Or.inr (Or.inr (Or.inr (Or.inr (Or.inr (Or.inl (e 7 h))))))))
  · exact Or.inr (Or.inr (Or.inr (Or.inr (Or.inr (Or.inr (Or.inr (Or.inr h)))))))
theorem ztab0_34 (x : Int32) : x = 0 ∨ x = 1 ∨ x = 2 ∨ x = 3 ∨ x = 4 ∨ x = 5 ∨ x = 6 ∨ x = 7 ∨ x = 8 ∨ x = 9 ∨ x = 10 ∨ x = 11 ∨ x = 12 ∨ x = 13 ∨ x = 14 ∨ x = 15 ∨ x = 16 ∨ x = 17 ∨ x = 18 ∨ x = 19 ∨ x = 20 ∨ x = 21 ∨ x = 22 ∨ x = 23 ∨ x = 24 ∨ x = 25 ∨ x = 26 ∨ x = 27 ∨ x = 28 ∨ x = 29 ∨ x = 30 ∨ x = 31 ∨ x = 32 ∨ x = 33 ∨ (x.toInt < 0 ∨ 33 < x.toInt) := by
  have e : ∀ k : Int32, x.toInt = k.toInt → x = k := fun k h => Int32.toInt_inj.mp h
  rcases (by omega : x.toInt = 0 ∨ x.toInt = 1 ∨ x.toInt = 2 ∨ x.toInt = 3 ∨ x.toInt = 4 ∨ x.toInt = 5 ∨ x.toInt = 6 ∨ x.toInt = 7 ∨ x.toInt = 8 ∨ x.toInt = 9 ∨ x.toInt = 10 ∨ x.toInt = 11 ∨ x.toInt = 12 ∨ x.toInt = 13 ∨ x.toInt = 14 ∨ x.toInt = 15 ∨ x.toInt = 16 ∨ x.toInt = 17 ∨ x.toInt = 18 ∨ x.toInt = 19 ∨ x.toInt = 20 ∨ x.toInt = 21 ∨ x.toInt = 22 ∨ x.toInt = 23 ∨ x.toInt = 24 ∨ x.toInt = 25 ∨ x.toInt = 26 ∨ x.toInt = 27 ∨ x.toInt = 28 ∨ x.toInt = 29 ∨ x.toInt = 30 ∨ x.toInt = 31 ∨ x.toInt = 32 ∨ x.toInt = 33 ∨ (x.toInt < 0 ∨ 33 < x.toInt)) with h | h | h | h | h | h | h | h | h | h | h | h | h | h | h | h | h | h | h | h | h | h | h | h | h | h | h | h | h | h | h | h | h | h | h
  · exact Or.inl (e 0 h)
  · exact Or.inr (Or.inl (e 1 h))
  · exact Or.inr (Or.inr (Or.inl (e 2 h)))
  · exact Or.inr (Or.inr (Or.inr (Or.inl (e 3 h))))
  · exact Or.inr (Or.inr (Or.inr (Or.inr (Or.inl (e 4 h)))))
  · exact Or.inr (Or.inr (Or.inr (Or.inr (Or.inr (Or.inl (e 5 h))))))
  · exact Or.inr (Or.inr (Or.inr (Or.inr (Or.inr (Or.inr (Or.inl (e 6 h)))))))
  · exact Or.inr (Or.inr (Or.inr (Or.inr (Or.inr (Or.inr (Or.inr (Or.inl (e 7 h))))))))
  · exact Or.inr (Or.inr (Or.inr (Or.inr (Or.inr (Or.inr (Or.inr (Or.inr (Or.inl (e 8 h)))))))))
  · exact Or.inr (Or.inr (Or.inr (Or.inr (Or.inr (Or.inr (Or.inr (Or.inr (Or.inr (Or.inl (e 9 h))))))))))
  · exact Or.inr (Or.inr (Or.inr (Or.inr (Or.inr (Or.inr (Or.inr (Or.inr (Or.inr (Or.inr (Or.inl (e 10 h)))))))))))
  · exact Or.inr (Or.inr (Or.inr (Or.inr (Or.inr (Or.inr (Or.inr (Or.inr (Or.inr (Or.inr (Or.inr (Or.inl (e 11 h))))))))))))
  · exact Or.inr (Or.inr (Or.inr (Or.inr (Or.inr (Or.inr (Or.inr (Or.inr (Or.inr (Or.inr (Or.inr (Or.inr (Or.inl (e 12 h)))))))))))))
  · exact Or.inr (Or.inr (Or.inr (Or.inr (Or.inr (Or.inr (Or.inr (Or.inr (Or.inr (Or.inr (Or.inr (Or.inr (Or.inr (Or.inl (e 13 h))))))))))))))
  · exact Or.inr (Or.inr (Or.inr (Or.inr (Or.inr (Or.inr (Or.inr (Or.inr (Or.inr (Or.inr (Or.inr (Or.inr (Or.inr (Or.inr (Or.inl (e 14 h)))))))))))))))
  · exact Or.inr (Or.inr (Or.inr (Or.inr (Or.inr (Or.inr (Or.inr (Or.inr (Or.inr (Or.inr (Or.inr (Or.inr (Or.inr (Or.inr (Or.inr (Or.inl (e 15 h))))))))))))))))
  · exact Or.inr (Or.inr (Or.inr (Or.inr (Or.inr (Or.inr (Or.inr (Or.inr (Or.inr (Or.inr (Or.inr (Or.inr (Or.inr (Or.inr (Or.inr (Or.inr (Or.inl (e 16 h)))))))))))))))))
  · exact Or.inr (Or.inr (Or.inr (Or.inr (Or.inr (Or.inr (Or.inr (Or.inr (Or.inr (Or.inr (Or.inr (Or.inr (Or.inr (Or.inr (Or.inr (Or.inr (Or.inr (Or.inl (e 17 h))))))))))))))))))
  · exact Or.inr (Or.inr (Or.inr (Or.inr (Or.inr (Or.inr (Or.inr (Or.inr (Or.inr (Or.inr (Or.inr (Or.inr (Or.inr (Or.inr (Or.inr (Or.inr (Or.inr (Or.inr (Or.inl (e 18 h)))))))))))))))))))
  · exact Or.inr (Or.inr (Or.inr (Or.inr (Or.inr (Or.inr (Or.inr (Or.inr (Or.inr (Or.inr (Or.inr (Or.inr (Or.inr (Or.inr (Or.inr (Or.inr (Or.inr (Or.inr (Or.inr (Or.inl (e 19 h))))))))))))))))))))
  · exact Or.inr (Or.inr (Or.inr (Or.inr (Or.inr (Or.inr (Or.inr (Or.inr (Or.inr (Or.inr (Or.inr (Or.inr (Or.inr (Or.inr (Or.inr (Or.inr (Or.inr (Or.inr (Or.inr (Or.inr (Or.inl (e 20 h)))))))))))))))))))))
  · exact Or.inr (Or.inr (Or.inr (Or.inr (Or.inr (Or.inr (Or.inr (Or.inr (Or.inr (Or.inr (Or.inr (Or.inr (Or.inr (Or.inr (Or.inr (Or.inr (Or.inr (Or.inr (Or.inr (Or.inr (Or.inr (Or.inl (e 21 h))))))))))))))))))))))
  · exact Or.inr (Or.inr (Or.inr (Or.inr (Or.inr (Or.inr (Or.inr (Or.inr (Or.inr (Or.inr (Or.inr (Or.inr (Or.inr (Or.inr (Or.inr (Or.inr (Or.inr (Or.inr (Or.inr (Or.inr (Or.inr (Or.inr (Or.inl (e 22 h)))))))))))))))))))))))
  · exact Or.inr (Or.inr (Or.inr (Or.inr (Or.inr (Or.inr (Or.inr (Or.inr (Or.inr (Or.inr (Or.inr (Or.inr (Or.inr (Or.inr (Or.inr (Or.inr (Or.inr (Or.inr (Or.inr (Or.inr (Or.inr (Or.inr (Or.inr (Or.inl (e 23 h))))))))))))))))))))))))
  · exact Or.inr (Or.inr (Or.inr (Or.inr (Or.inr (Or.inr (Or.inr (Or.inr (Or.inr (Or.inr (Or.inr (Or.inr (Or.inr (Or.inr (Or.inr (Or.inr (Or.inr (Or.inr (Or.inr (Or.inr (Or.inr (Or.inr (Or.inr (Or.inr (Or.inl (e 24 h)))))))))))))))))))))))))
  · exact Or.inr (Or.inr (Or.inr (Or.inr (Or.inr (Or.inr (Or.inr (Or.inr (Or.inr (Or.inr (Or.inr (Or.inr (Or.inr (Or.inr (Or.inr (Or.inr (Or.inr (Or.inr (Or.inr (Or.inr (Or.inr (Or.inr (Or.inr (Or.inr (Or.inr (Or.inl (e 25 h))))))))))))))))))))))))))
  · exact Or.inr (Or.inr (Or.inr (Or.inr (Or.inr (Or.inr (Or.inr (Or.inr (Or.inr (Or.inr (Or.inr (Or.inr (Or.inr (Or.inr (Or.inr (Or.inr (Or.inr (Or.inr (Or.inr (Or.inr (Or.inr (Or.inr (Or.inr (Or.inr (Or.inr (Or.inr (Or.inl (e 26 h)))))))))))))))))))))))))))
  · exact Or.inr (Or.inr (Or.inr (Or.inr (Or.inr (Or.inr (Or.inr (Or.inr (Or.inr (Or.inr (Or.inr (Or.inr (Or.inr (Or.inr (Or.inr (Or.inr (Or.inr (Or.inr (Or.inr (Or.inr (Or.inr (Or.inr (Or.inr (Or.inr (Or.inr (Or.inr (Or.inr (Or.inl (e 27 h))))))))))))))))))))))))))))
  · exact Or.inr (Or.inr (Or.inr (Or.inr (Or.inr (Or.inr (Or.inr (Or.inr (Or.inr (Or.inr (Or.inr (Or.inr (Or.inr (Or.inr (Or.inr (Or.inr (Or.inr (Or.inr (Or.inr (Or.inr (Or.inr (Or.inr (Or.inr (Or.inr (Or.inr (Or.inr (Or.inr (Or.inr (Or.inl (e 28 h)))))))))))))))))))))))))))))
  · exact Or.inr (Or.inr (Or.inr (Or.inr (Or.inr (Or.inr (Or.inr (Or.inr (Or.inr (Or.inr (Or.inr (Or.inr (Or.inr (Or.inr (Or.inr (Or.inr (Or.inr (Or.inr (Or.inr (Or.inr (Or.inr (Or.inr (Or.inr (Or.inr (Or.inr (Or.inr (Or.inr (Or.inr (Or.inr (Or.inl (e 29 h))))))))))))))))))))))))))))))
  · exact Or.inr (Or.inr (Or.inr (Or.inr (Or.inr (Or.inr (Or.inr (Or.inr (Or.inr (Or.inr (Or.inr (Or.inr (Or.inr (Or.inr (Or.inr (Or.inr (Or.inr (Or.inr (Or.inr (Or.inr (Or.inr (Or.inr (Or.inr (Or.inr (Or.inr (Or.inr (Or.inr (Or.inr (Or.inr (Or.inr (Or.inl (e 30 h)))))))))))))))))))))))))))))))
  · exact Or.inr (Or.inr (Or.inr (Or.inr (Or.inr (Or.inr (Or.inr (Or.inr (Or.inr (Or.inr (Or.inr (Or.inr (Or.inr (Or.inr (Or.inr (Or.inr (Or.inr (Or.inr (Or.inr (Or.inr (Or.inr (Or.inr (Or.inr (Or.inr (Or.inr (Or.inr (Or.inr (Or.inr (Or.inr (Or.inr (Or.inr (Or.inl (e 31 h))))))))))))))))))))))))))))))))
  · exact Or.inr (Or.inr (Or.inr (Or.inr (Or.inr (Or.inr (Or.inr (Or.inr (Or.inr (Or.inr (Or.inr (Or.inr (Or.inr (Or.inr (Or.inr (Or.inr (Or.inr (Or.inr (Or.inr (Or.inr (Or.inr (Or.inr (Or.inr (Or.inr (Or.inr (Or.inr (Or.inr (Or.inr (Or.inr (Or.inr (Or.inr (Or.inr (Or.inl (e 32 h)))))))))))))))))))))))))))))))))
  · exact Or.inr (Or.inr (Or.inr (Or.inr (Or.inr (Or.inr (Or.inr (Or.inr (Or.inr (Or.inr (Or.inr (Or.inr (Or.inr (Or.inr (Or.inr (Or.inr (Or.inr (Or.inr (Or.inr (Or.inr (Or.inr (Or.inr (Or.inr (Or.inr (Or.inr (Or.inr (Or.inr (Or.inr (Or.inr (Or.inr (Or.inr (Or.inr (Or.inr (Or.inl (e 33 h))))))))))))))))))))))))))))))))))
  · exact Or.inr (Or.inr (Or.inr (Or.inr (Or.inr (Or.inr (Or.inr (Or.inr (Or.inr (Or.inr (Or.inr (Or.inr (Or.inr (Or.inr (Or.inr (Or.inr (Or.inr (Or.inr (Or.inr (Or.inr (Or.inr (Or.inr (Or.inr (Or.inr (Or.inr (Or.inr (Or.inr (Or.inr (Or.inr (Or.inr (Or.inr (Or.inr (Or.inr (Or.inr h)))))))))))))))))))))))))))))))))
theorem ztab0_3 (x : Int32) : x = 0 ∨ x = 1 ∨ x = 2 ∨ (x.toInt < 0 ∨ 2 < x.toInt) := by
  have e : ∀ k : Int32, x.toInt = k.toInt → x = k := fun k h => Int32.toInt_inj.mp h
  rcases (by omega : x.toInt = 0 ∨ x.toInt = 1 ∨ x.toInt = 2 ∨ (x.toInt < 0 ∨ 2 < x.toInt)) with h | h | h | h
  · exact Or.inl (e 0 h)
  · exact Or.inr (Or.inl (e 1 h))
  · exact Or.inr (Or.inr (Or.inl (e 2 h)))
  · exact Or.inr (Or.inr (Or.inr h))

