def xLn (a : Nat) : Nat := match xS0[a]? with
  | some q => q.2
  | none => 0
theorem s0_0 : xS0[0]? = some (0, 0) := by decide +kernel
theorem s0_1 : xS0[1]? = some (1, 0) := by decide +kernel
theorem s0_2 : xS0[2]? = some (64, 153) := by decide +kernel
theorem s0_3 : xS0[3]? = some (64, 75) := by decide +kernel
theorem s0_4 : xS0[4]? = some (64, 75) := by decide +kernel
theorem s0_5 : xS0[5]? = some (64, 18) := by decide +kernel
theorem s0_6 : xS0[6]? = some (2, 0) := by decide +kernel
theorem s0_7 : xS0[7]? = some (64, 12) := by decide +kernel
theorem s0_8 : xS0[8]? = some (64, 12) := by decide +kernel
theorem s0_9 : xS0[9]? = some (64, 12) := by decide +kernel
theorem s0_10 : xS0[10]? = some (64, 12) := by decide +kernel
theorem s0_11 : xS0[11]? = some (65, 12) := by decide +kernel
theorem s0_12 : xS0[12]? = some (64, 12) := by decide +kernel
theorem s0_13 : xS0[13]? = some (3, 0) := by decide +kernel
theorem s0_17 : xS0[17]? = some (3, 0) := by decide +kernel
theorem s0_21 : xS0[21]? = some (4, 0) := by decide +kernel
theorem s0_22 : xS0[22]? = some (67, 12) := by decide +kernel
theorem s0_227 : xS0[227]? = some (7, 0) := by decide +kernel
theorem s0_228 : xS0[228]? = some (5, 0) := by decide +kernel
theorem s0_229 : xS0[229]? = some (66, 5) := by decide +kernel
theorem s0_245 : xS0[245]? = some (6, 0) := by decide +kernel
theorem s0_248 : xS0[248]? = some (8, 0) := by decide +kernel
theorem s0_249 : xS0[249]? = some (64, 1767) := by decide +kernel
theorem s0_250 : xS0[250]? = some (9, 0) := by decide +kernel
theorem s0_251 : xS0[251]? = some (64, 160) := by decide +kernel
theorem s0_252 : xS0[252]? = some (64, 8) := by decide +kernel
theorem s0_253 : xS0[253]? = some (64, 8) := by decide +kernel
theorem s0_254 : xS0[254]? = some (64, 32) := by decide +kernel
theorem s0_255 : xS0[255]? = some (64, 40) := by decide +kernel
theorem s0_256 : xS0[256]? = some (64, 3) := by decide +kernel
theorem s0_257 : xS0[257]? = some (64, 3) := by decide +kernel
theorem s0_258 : xS0[258]? = some (64, 65) := by decide +kernel
theorem s0_259 : xS0[259]? = some (64, 195) := by decide +kernel
theorem s0_260 : xS0[260]? = some (64, 1170) := by decide +kernel
theorem s0_261 : xS0[261]? = some (64, 195) := by decide +kernel
theorem s0_262 : xS0[262]? = some (64, 1170) := by decide +kernel
theorem s0_263 : xS0[263]? = some (64, 13) := by decide +kernel
theorem s0_264 : xS0[264]? = some (64, 13) := by decide +kernel
theorem s0_265 : xS0[265]? = some (64, 13) := by decide +kernel
theorem s0_266 : xS0[266]? = some (64, 78) := by decide +kernel
theorem s0_267 : xS0[267]? = some (64, 8) := by decide +kernel
theorem s0_268 : xS0[268]? = some (64, 8) := by decide +kernel
theorem s0_269 : xS0[269]? = some (64, 8) := by decide +kernel
theorem s0_270 : xS0[270]? = some (64, 8) := by decide +kernel
theorem s0_271 : xS0[271]? = some (64, 2048) := by decide +kernel
theorem s0_272 : xS0[272]? = some (64, 256) := by decide +kernel
theorem lp_0_5 {P : xPt} (hL : xL P) : P 0 5 = some 1 := (hL 0 5 (by decide +kernel)).trans (by decide +kernel)
theorem lp_0_6 {P : xPt} (hL : xL P) : P 0 6 = some 13 := (hL 0 6 (by decide +kernel)).trans (by decide +kernel)
theorem lp_0_7 {P : xPt} (hL : xL P) : P 0 7 = some 17 := (hL 0 7 (by decide +kernel)).trans (by decide +kernel)
theorem lp_0_8 {P : xPt} (hL : xL P) : P 0 8 = some 21 := (hL 0 8 (by decide +kernel)).trans (by decide +kernel)
theorem lp_0_9 {P : xPt} (hL : xL P) : P 0 9 = some 227 := (hL 0 9 (by decide +kernel)).trans (by decide +kernel)
theorem lp_0_10 {P : xPt} (hL : xL P) : P 0 10 = some 248 := (hL 0 10 (by decide +kernel)).trans (by decide +kernel)
theorem lp_1_0 {P : xPt} (hL : xL P) : P 1 0 = some 2 := (hL 1 0 (by decide +kernel)).trans (by decide +kernel)
theorem lp_1_7 {P : xPt} (hL : xL P) : P 1 7 = some 3 := (hL 1 7 (by decide +kernel)).trans (by decide +kernel)
theorem lp_1_8 {P : xPt} (hL : xL P) : P 1 8 = some 4 := (hL 1 8 (by decide +kernel)).trans (by decide +kernel)
theorem lp_1_10 {P : xPt} (hL : xL P) : P 1 10 = some 5 := (hL 1 10 (by decide +kernel)).trans (by decide +kernel)
theorem lp_1_12 {P : xPt} (hL : xL P) : P 1 12 = some 6 := (hL 1 12 (by decide +kernel)).trans (by decide +kernel)
theorem lp_6_0 {P : xPt} (hL : xL P) : P 6 0 = some 7 := (hL 6 0 (by decide +kernel)).trans (by decide +kernel)
theorem lp_6_1 {P : xPt} (hL : xL P) : P 6 1 = some 8 := (hL 6 1 (by decide +kernel)).trans (by decide +kernel)
theorem lp_6_2 {P : xPt} (hL : xL P) : P 6 2 = some 9 := (hL 6 2 (by decide +kernel)).trans (by decide +kernel)
theorem lp_6_3 {P : xPt} (hL : xL P) : P 6 3 = some 10 := (hL 6 3 (by decide +kernel)).trans (by decide +kernel)
theorem lp_6_4 {P : xPt} (hL : xL P) : P 6 4 = some 11 := (hL 6 4 (by decide +kernel)).trans (by decide +kernel)
theorem lp_6_5 {P : xPt} (hL : xL P) : P 6 5 = some 12 := (hL 6 5 (by decide +kernel)).trans (by decide +kernel)
theorem lp_21_0 {P : xPt} (hL : xL P) : P 21 0 = some 22 := (hL 21 0 (by decide +kernel)).trans (by decide +kernel)
theorem lp_227_0 {P : xPt} (hL : xL P) : P 227 0 = some 228 := (hL 227 0 (by decide +kernel)).trans (by decide +kernel)
theorem lp_227_1 {P : xPt} (hL : xL P) : P 227 1 = some 245 := (hL 227 1 (by decide +kernel)).trans (by decide +kernel)
theorem lp_228_0 {P : xPt} (hL : xL P) : P 228 0 = some 229 := (hL 228 0 (by decide +kernel)).trans (by decide +kernel)
theorem lp_248_0 {P : xPt} (hL : xL P) : P 248 0 = some 249 := (hL 248 0 (by decide +kernel)).trans (by decide +kernel)
theorem lp_250_2 {P : xPt} (hL : xL P) : P 250 2 = some 251 := (hL 250 2 (by decide +kernel)).trans (by decide +kernel)
theorem lp_250_19 {P : xPt} (hL : xL P) : P 250 19 = some 252 := (hL 250 19 (by decide +kernel)).trans (by decide +kernel)
theorem lp_250_20 {P : xPt} (hL : xL P) : P 250 20 = some 253 := (hL 250 20 (by decide +kernel)).trans (by decide +kernel)
theorem lp_250_22 {P : xPt} (hL : xL P) : P 250 22 = some 254 := (hL 250 22 (by decide +kernel)).trans (by decide +kernel)
theorem lp_250_23 {P : xPt} (hL : xL P) : P 250 23 = some 255 := (hL 250 23 (by decide +kernel)).trans (by decide +kernel)
theorem lp_250_25 {P : xPt} (hL : xL P) : P 250 25 = some 256 := (hL 250 25 (by decide +kernel)).trans (by decide +kernel)
theorem lp_250_26 {P : xPt} (hL : xL P) : P 250 26 = some 257 := (hL 250 26 (by decide +kernel)).trans (by decide +kernel)
theorem lp_250_28 {P : xPt} (hL : xL P) : P 250 28 = some 258 := (hL 250 28 (by decide +kernel)).trans (by decide +kernel)
theorem lp_250_29 {P : xPt} (hL : xL P) : P 250 29 = some 259 := (hL 250 29 (by decide +kernel)).trans (by decide +kernel)
theorem lp_250_30 {P : xPt} (hL : xL P) : P 250 30 = some 260 := (hL 250 30 (by decide +kernel)).trans (by decide +kernel)
theorem lp_250_31 {P : xPt} (hL : xL P) : P 250 31 = some 261 := (hL 250 31 (by decide +kernel)).trans (by decide +kernel)
theorem lp_250_32 {P : xPt} (hL : xL P) : P 250 32 = some 262 := (hL 250 32 (by decide +kernel)).trans (by decide +kernel)
theorem lp_250_33 {P : xPt} (hL : xL P) : P 250 33 = some 263 := (hL 250 33 (by decide +kernel)).trans (by decide +kernel)
theorem lp_250_34 {P : xPt} (hL : xL P) : P 250 34 = some 264 := (hL 250 34 (by decide +kernel)).trans (by decide +kernel)
theorem lp_250_35 {P : xPt} (hL : xL P) : P 250 35 = some 265 := (hL 250 35 (by decide +kernel)).trans (by decide +kernel)
theorem lp_250_36 {P : xPt} (hL : xL P) : P 250 36 = some 266 := (hL 250 36 (by decide +kernel)).trans (by decide +kernel)
theorem lp_250_38 {P : xPt} (hL : xL P) : P 250 38 = some 267 := (hL 250 38 (by decide +kernel)).trans (by decide +kernel)
theorem lp_250_39 {P : xPt} (hL : xL P) : P 250 39 = some 268 := (hL 250 39 (by decide +kernel)).trans (by decide +kernel)
theorem lp_250_40 {P : xPt} (hL : xL P) : P 250 40 = some 269 := (hL 250 40 (by decide +kernel)).trans (by decide +kernel)
theorem lp_250_41 {P : xPt} (hL : xL P) : P 250 41 = some 270 := (hL 250 41 (by decide +kernel)).trans (by decide +kernel)
theorem lp_250_43 {P : xPt} (hL : xL P) : P 250 43 = some 271 := (hL 250 43 (by decide +kernel)).trans (by decide +kernel)
theorem lp_250_45 {P : xPt} (hL : xL P) : P 250 45 = some 272 := (hL 250 45 (by decide +kernel)).trans (by decide +kernel)
theorem lo0_1_0 : ∀ a, a < 273 → xS0[a]? = some (1, 0) → xFz a 0 = true ∧ xP0 a 0 = some (a + 1) ∧ xS0[a + 1]? = some (64, 153) := by decide +kernel
theorem lo_1_0 {P : xPt} {a : Nat} (hL : xL P) (h : xS0[a]? = some (1, 0)) : P a 0 = some (a + 1) := (hL a 0 (lo0_1_0 a (x_lt0 h) h).1).trans (lo0_1_0 a (x_lt0 h) h).2.1
theorem so_1_0 {a : Nat} (h : xS0[a]? = some (1, 0)) : xS0[a + 1]? = some (64, 153) := (lo0_1_0 a (x_lt0 h) h).2.2
theorem lo0_1_10 : ∀ a, a < 273 → xS0[a]? = some (1, 0) → xFz a 10 = true ∧ xP0 a 10 = some (a + 4) ∧ xS0[a + 4]? = some (64, 18) := by decide +kernel
theorem lo_1_10 {P : xPt} {a : Nat} (hL : xL P) (h : xS0[a]? = some (1, 0)) : P a 10 = some (a + 4) := (hL a 10 (lo0_1_10 a (x_lt0 h) h).1).trans (lo0_1_10 a (x_lt0 h) h).2.1
theorem so_1_10 {a : Nat} (h : xS0[a]? = some (1, 0)) : xS0[a + 4]? = some (64, 18) := (lo0_1_10 a (x_lt0 h) h).2.2
theorem lo0_1_7 : ∀ a, a < 273 → xS0[a]? = some (1, 0) → xFz a 7 = true ∧ xP0 a 7 = some (a + 2) ∧ xS0[a + 2]? = some (64, 75) := by decide +kernel
theorem lo_1_7 {P : xPt} {a : Nat} (hL : xL P) (h : xS0[a]? = some (1, 0)) : P a 7 = some (a + 2) := (hL a 7 (lo0_1_7 a (x_lt0 h) h).1).trans (lo0_1_7 a (x_lt0 h) h).2.1
theorem so_1_7 {a : Nat} (h : xS0[a]? = some (1, 0)) : xS0[a + 2]? = some (64, 75) := (lo0_1_7 a (x_lt0 h) h).2.2
theorem lo0_1_8 : ∀ a, a < 273 → xS0[a]? = some (1, 0) → xFz a 8 = true ∧ xP0 a 8 = some (a + 3) ∧ xS0[a + 3]? = some (64, 75) := by decide +kernel
theorem lo_1_8 {P : xPt} {a : Nat} (hL : xL P) (h : xS0[a]? = some (1, 0)) : P a 8 = some (a + 3) := (hL a 8 (lo0_1_8 a (x_lt0 h) h).1).trans (lo0_1_8 a (x_lt0 h) h).2.1
theorem so_1_8 {a : Nat} (h : xS0[a]? = some (1, 0)) : xS0[a + 3]? = some (64, 75) := (lo0_1_8 a (x_lt0 h) h).2.2
theorem lo0_3_0 : ∀ a, a < 273 → xS0[a]? = some (3, 0) → xFz a 0 = true ∧ xP0 a 0 = some (a + 1) ∧ xS0[a + 1]? = some (64, 3) := by decide +kernel
theorem lo_3_0 {P : xPt} {a : Nat} (hL : xL P) (h : xS0[a]? = some (3, 0)) : P a 0 = some (a + 1) := (hL a 0 (lo0_3_0 a (x_lt0 h) h).1).trans (lo0_3_0 a (x_lt0 h) h).2.1
theorem so_3_0 {a : Nat} (h : xS0[a]? = some (3, 0)) : xS0[a + 1]? = some (64, 3) := (lo0_3_0 a (x_lt0 h) h).2.2
theorem lo0_3_1 : ∀ a, a < 273 → xS0[a]? = some (3, 0) → xFz a 1 = true ∧ xP0 a 1 = some (a + 2) ∧ xS0[a + 2]? = some (65, 3) := by decide +kernel
theorem lo_3_1 {P : xPt} {a : Nat} (hL : xL P) (h : xS0[a]? = some (3, 0)) : P a 1 = some (a + 2) := (hL a 1 (lo0_3_1 a (x_lt0 h) h).1).trans (lo0_3_1 a (x_lt0 h) h).2.1
theorem so_3_1 {a : Nat} (h : xS0[a]? = some (3, 0)) : xS0[a + 2]? = some (65, 3) := (lo0_3_1 a (x_lt0 h) h).2.2
theorem lo0_3_2 : ∀ a, a < 273 → xS0[a]? = some (3, 0) → xFz a 2 = true ∧ xP0 a 2 = some (a + 3) ∧ xS0[a + 3]? = some (65, 3) := by decide +kernel
theorem lo_3_2 {P : xPt} {a : Nat} (hL : xL P) (h : xS0[a]? = some (3, 0)) : P a 2 = some (a + 3) := (hL a 2 (lo0_3_2 a (x_lt0 h) h).1).trans (lo0_3_2 a (x_lt0 h) h).2.1
theorem so_3_2 {a : Nat} (h : xS0[a]? = some (3, 0)) : xS0[a + 3]? = some (65, 3) := (lo0_3_2 a (x_lt0 h) h).2.2
theorem lo0_5_0 : ∀ a, a < 273 → xS0[a]? = some (5, 0) → xFz a 0 = true ∧ xP0 a 0 = some (a + 1) ∧ xS0[a + 1]? = some (66, 5) := by decide +kernel
theorem lo_5_0 {P : xPt} {a : Nat} (hL : xL P) (h : xS0[a]? = some (5, 0)) : P a 0 = some (a + 1) := (hL a 0 (lo0_5_0 a (x_lt0 h) h).1).trans (lo0_5_0 a (x_lt0 h) h).2.1
theorem so_5_0 {a : Nat} (h : xS0[a]? = some (5, 0)) : xS0[a + 1]? = some (66, 5) := (lo0_5_0 a (x_lt0 h) h).2.2
theorem lo0_6_0 : ∀ a, a < 273 → xS0[a]? = some (6, 0) → xFz a 0 = true ∧ xP0 a 0 = some (a + 1) ∧ xS0[a + 1]? = some (65, xLn (a + 1)) := by decide +kernel
theorem lo_6_0 {P : xPt} {a : Nat} (hL : xL P) (h : xS0[a]? = some (6, 0)) : P a 0 = some (a + 1) := (hL a 0 (lo0_6_0 a (x_lt0 h) h).1).trans (lo0_6_0 a (x_lt0 h) h).2.1
theorem so_6_0 {a : Nat} (h : xS0[a]? = some (6, 0)) : xS0[a + 1]? = some (65, xLn (a + 1)) := (lo0_6_0 a (x_lt0 h) h).2.2
theorem lo0_6_1 : ∀ a, a < 273 → xS0[a]? = some (6, 0) → xFz a 1 = true ∧ xP0 a 1 = some (a + 2) ∧ xS0[a + 2]? = some (65, xLn (a + 2)) := by decide +kernel
theorem lo_6_1 {P : xPt} {a : Nat} (hL : xL P) (h : xS0[a]? = some (6, 0)) : P a 1 = some (a + 2) := (hL a 1 (lo0_6_1 a (x_lt0 h) h).1).trans (lo0_6_1 a (x_lt0 h) h).2.1
theorem so_6_1 {a : Nat} (h : xS0[a]? = some (6, 0)) : xS0[a + 2]? = some (65, xLn (a + 2)) := (lo0_6_1 a (x_lt0 h) h).2.2
