/-! kinds of the cells and references, as equations; by program (wip/whole/gen55.py) -/
theorem c_k0 : cw_kt cw_NX 0 = (11, 0) := by decide +kernel
theorem c_k1 : cw_kt cw_NX 1 = (9, 0) := by decide +kernel
theorem c_k2 : cw_kt cw_NX 2 = (2, 0) := by decide +kernel
theorem c_k3 : cw_kt cw_NX 3 = (25, 7) := by decide +kernel
theorem c_k4 : cw_kt cw_NX 4 = (20, 5) := by decide +kernel
theorem c_k5 : cw_kt cw_NX 5 = (20, 5) := by decide +kernel
theorem c_k6 : cw_kt cw_NX 6 = (20, 5) := by decide +kernel
theorem c_k7 : cw_kt cw_NX 7 = (20, 5) := by decide +kernel
theorem c_k8 : cw_kt cw_NX 8 = (20, 5) := by decide +kernel
theorem c_k9 : cw_kt cw_NX 9 = (20, 5) := by decide +kernel
theorem c_k10 : cw_kt cw_NX 10 = (20, 5) := by decide +kernel
theorem c_k11 : cw_kt cw_NX 11 = (25, 7) := by decide +kernel
theorem c_k12 : cw_kt cw_NX 12 = (20, 24) := by decide +kernel
theorem c_k13 : cw_kt cw_NX 13 = (20, 24) := by decide +kernel
theorem c_k14 : cw_kt cw_NX 14 = (20, 24) := by decide +kernel
theorem c_k15 : cw_kt cw_NX 15 = (20, 24) := by decide +kernel
theorem c_k16 : cw_kt cw_NX 16 = (20, 24) := by decide +kernel
theorem c_k17 : cw_kt cw_NX 17 = (20, 24) := by decide +kernel
theorem c_k18 : cw_kt cw_NX 18 = (20, 24) := by decide +kernel
theorem c_k19 : cw_kt cw_NX 19 = (20, 7) := by decide +kernel
theorem c_k20 : cw_kt cw_NX 20 = (25, 4) := by decide +kernel
theorem c_k21 : cw_kt cw_NX 21 = (20, 7) := by decide +kernel
theorem c_k22 : cw_kt cw_NX 22 = (20, 7) := by decide +kernel
theorem c_k23 : cw_kt cw_NX 23 = (20, 7) := by decide +kernel
theorem c_k24 : cw_kt cw_NX 24 = (20, 7) := by decide +kernel
theorem c_k25 : cw_kt cw_NX 25 = (20, 4) := by decide +kernel
theorem c_k26 : cw_kt cw_NX 26 = (20, 40) := by decide +kernel
theorem c_k27 : cw_kt cw_NX 27 = (6, 0) := by decide +kernel
theorem c_k28 : cw_kt cw_NX 28 = (20, 6) := by decide +kernel
theorem c_k29 : cw_kt cw_NX 29 = (20, 6) := by decide +kernel
theorem c_k30 : cw_kt cw_NX 30 = (21, 6) := by decide +kernel
theorem c_k31 : cw_kt cw_NX 31 = (7, 0) := by decide +kernel
theorem c_k32 : cw_kt cw_NX 32 = (20, 24) := by decide +kernel
theorem c_k33 : cw_kt cw_NX 33 = (20, 24) := by decide +kernel
theorem c_k34 : cw_kt cw_NX 34 = (1, 0) := by decide +kernel
theorem c_k35 : cw_kt cw_NX 35 = (0, 0) := by decide +kernel
theorem c_k36 : cw_kt cw_NX 36 = (21, 4) := by decide +kernel
theorem c_k37 : cw_kt cw_NX 37 = (20, 4) := by decide +kernel
theorem c_k38 : cw_kt cw_NX 38 = (20, 4) := by decide +kernel
theorem c_k39 : cw_kt cw_NX 39 = (20, 4) := by decide +kernel
theorem c_k40 : cw_kt cw_NX 40 = (25, 4) := by decide +kernel
theorem c_k41 : cw_kt cw_NX 41 = (20, 4) := by decide +kernel
theorem c_k42 : cw_kt cw_NX 42 = (20, 4) := by decide +kernel
theorem c_k43 : cw_kt cw_NX 43 = (20, 4) := by decide +kernel
theorem c_k44 : cw_kt cw_NX 44 = (20, 4) := by decide +kernel
theorem c_k45 : cw_kt cw_NX 45 = (21, 4) := by decide +kernel
theorem c_k46 : cw_kt cw_NX 46 = (21, 4) := by decide +kernel
theorem c_k47 : cw_kt cw_NX 47 = (24, 2) := by decide +kernel
theorem c_k48 : cw_kt cw_NX 48 = (9, 0) := by decide +kernel
theorem c_k94 : cw_kt cw_NX 94 = (9, 0) := by decide +kernel
theorem c_k140 : cw_kt cw_NX 140 = (22, 2) := by decide +kernel
theorem c_k141 : cw_kt cw_NX 141 = (3, 0) := by decide +kernel
theorem c_k142 : cw_kt cw_NX 142 = (20, 13) := by decide +kernel
theorem c_k143 : cw_kt cw_NX 143 = (20, 13) := by decide +kernel
theorem c_k144 : cw_kt cw_NX 144 = (20, 13) := by decide +kernel
theorem c_k145 : cw_kt cw_NX 145 = (20, 7) := by decide +kernel
theorem c_k146 : cw_kt cw_NX 146 = (20, 40) := by decide +kernel
theorem c_k147 : cw_kt cw_NX 147 = (20, 13) := by decide +kernel
theorem c_k148 : cw_kt cw_NX 148 = (5, 0) := by decide +kernel
theorem c_k151 : cw_kt cw_NX 151 = (23, 7) := by decide +kernel
theorem c_k166 : cw_kt cw_NX 166 = (20, 7) := by decide +kernel
theorem c_k167 : cw_kt cw_NX 167 = (20, 7) := by decide +kernel
theorem c_k168 : cw_kt cw_NX 168 = (20, 7) := by decide +kernel
theorem c_k169 : cw_kt cw_NX 169 = (21, 7) := by decide +kernel
theorem c_k170 : cw_kt cw_NX 170 = (21, 13) := by decide +kernel
theorem c_k171 : cw_kt cw_NX 171 = (21, 13) := by decide +kernel
theorem c_k172 : cw_kt cw_NX 172 = (23, 13) := by decide +kernel
theorem c_k199 : cw_kt cw_NX 199 = (23, 13) := by decide +kernel
theorem c_k226 : cw_kt cw_NX 226 = (23, 13) := by decide +kernel
theorem c_k253 : cw_kt cw_NX 253 = (23, 7) := by decide +kernel
theorem c_k276 : cw_kt cw_NX 276 = (8, 0) := by decide +kernel
theorem c_k277 : cw_kt cw_NX 277 = (20, 24) := by decide +kernel
theorem c_k278 : cw_kt cw_NX 278 = (20, 40) := by decide +kernel
theorem c_k279 : cw_kt cw_NX 279 = (4, 0) := by decide +kernel
theorem c_k292 : cw_kt cw_NX 292 = (4, 0) := by decide +kernel
theorem c_k305 : cw_kt cw_NX 305 = (4, 0) := by decide +kernel
theorem c_k318 : cw_kt cw_NX 318 = (20, 24) := by decide +kernel
theorem c_k319 : cw_kt cw_NX 319 = (12, 0) := by decide +kernel
theorem c_k320 : cw_kt cw_NX 320 = (20, 7168) := by decide +kernel
theorem c_k321 : cw_kt cw_NX 321 = (20, 224) := by decide +kernel
theorem c_k322 : cw_kt cw_NX 322 = (20, 224) := by decide +kernel
theorem c_k323 : cw_kt cw_NX 323 = (21, 80) := by decide +kernel
theorem c_k324 : cw_kt cw_NX 324 = (20, 402) := by decide +kernel
theorem c_k325 : cw_kt cw_NX 325 = (20, 804) := by decide +kernel
theorem c_k326 : cw_kt cw_NX 326 = (22, 2) := by decide +kernel
theorem c_k327 : cw_kt cw_NX 327 = (20, 64) := by decide +kernel
theorem c_k328 : cw_kt cw_NX 328 = (20, 64) := by decide +kernel
theorem c_k329 : cw_kt cw_NX 329 = (20, 64) := by decide +kernel
theorem c_k330 : cw_kt cw_NX 330 = (20, 64) := by decide +kernel
theorem c_k331 : cw_kt cw_NX 331 = (21, 64) := by decide +kernel
theorem c_k332 : cw_kt cw_NX 332 = (21, 64) := by decide +kernel
theorem c_k333 : cw_kt cw_NX 333 = (21, 64) := by decide +kernel
theorem c_k334 : cw_kt cw_NX 334 = (20, 7) := by decide +kernel
theorem c_k335 : cw_kt cw_NX 335 = (22, 7) := by decide +kernel
theorem c_k336 : cw_kt cw_NX 336 = (21, 7) := by decide +kernel
theorem c_k337 : cw_kt cw_NX 337 = (20, 24) := by decide +kernel
theorem c_k338 : cw_kt cw_NX 338 = (21, 6) := by decide +kernel
theorem c_k339 : cw_kt cw_NX 339 = (21, 12) := by decide +kernel
theorem c_k340 : cw_kt cw_NX 340 = (20, 625) := by decide +kernel
theorem c_k341 : cw_kt cw_NX 341 = (20, 25) := by decide +kernel
theorem c_k342 : cw_kt cw_NX 342 = (20, 50) := by decide +kernel
theorem c_k343 : cw_kt cw_NX 343 = (20, 576) := by decide +kernel
theorem c_k344 : cw_kt cw_NX 344 = (20, 24) := by decide +kernel
theorem c_k345 : cw_kt cw_NX 345 = (20, 24) := by decide +kernel
theorem c_k346 : cw_kt cw_NX 346 = (20, 4) := by decide +kernel
theorem c_k347 : cw_kt cw_NX 347 = (20, 4) := by decide +kernel
theorem Sh.r0_0 {M : cw_M} (h : Sh M) : M 0 0 = 1 := (h _ _ (by decide +kernel)).trans (by decide +kernel)
theorem Sh.r0_1 {M : cw_M} (h : Sh M) : M 0 1 = 47 := (h _ _ (by decide +kernel)).trans (by decide +kernel)
theorem Sh.r0_2 {M : cw_M} (h : Sh M) : M 0 2 = 140 := (h _ _ (by decide +kernel)).trans (by decide +kernel)
theorem Sh.r0_3 {M : cw_M} (h : Sh M) : M 0 3 = 141 := (h _ _ (by decide +kernel)).trans (by decide +kernel)
theorem Sh.r0_4 {M : cw_M} (h : Sh M) : M 0 4 = 148 := (h _ _ (by decide +kernel)).trans (by decide +kernel)
theorem Sh.r0_5 {M : cw_M} (h : Sh M) : M 0 5 = 276 := (h _ _ (by decide +kernel)).trans (by decide +kernel)
theorem Sh.r0_6 {M : cw_M} (h : Sh M) : M 0 6 = 279 := (h _ _ (by decide +kernel)).trans (by decide +kernel)
theorem Sh.r0_7 {M : cw_M} (h : Sh M) : M 0 7 = 292 := (h _ _ (by decide +kernel)).trans (by decide +kernel)
theorem Sh.r0_8 {M : cw_M} (h : Sh M) : M 0 8 = 305 := (h _ _ (by decide +kernel)).trans (by decide +kernel)
theorem Sh.r0_9 {M : cw_M} (h : Sh M) : M 0 9 = 318 := (h _ _ (by decide +kernel)).trans (by decide +kernel)
theorem Sh.r1_0 {M : cw_M} (h : Sh M) : M 1 0 = 2 := (h _ _ (by decide +kernel)).trans (by decide +kernel)
theorem Sh.r1_1 {M : cw_M} (h : Sh M) : M 1 1 = 27 := (h _ _ (by decide +kernel)).trans (by decide +kernel)
theorem Sh.r1_2 {M : cw_M} (h : Sh M) : M 1 2 = 31 := (h _ _ (by decide +kernel)).trans (by decide +kernel)
theorem Sh.r1_3 {M : cw_M} (h : Sh M) : M 1 3 = 34 := (h _ _ (by decide +kernel)).trans (by decide +kernel)
theorem Sh.r1_4 {M : cw_M} (h : Sh M) : M 1 4 = 35 := (h _ _ (by decide +kernel)).trans (by decide +kernel)
theorem Sh.r2_1 {M : cw_M} (h : Sh M) : M 2 1 = 3 := (h _ _ (by decide +kernel)).trans (by decide +kernel)
theorem Sh.r2_2 {M : cw_M} (h : Sh M) : M 2 2 = 11 := (h _ _ (by decide +kernel)).trans (by decide +kernel)
theorem Sh.r2_3 {M : cw_M} (h : Sh M) : M 2 3 = 19 := (h _ _ (by decide +kernel)).trans (by decide +kernel)
theorem Sh.r2_4 {M : cw_M} (h : Sh M) : M 2 4 = 20 := (h _ _ (by decide +kernel)).trans (by decide +kernel)
theorem Sh.r2_5 {M : cw_M} (h : Sh M) : M 2 5 = 25 := (h _ _ (by decide +kernel)).trans (by decide +kernel)
theorem Sh.r2_7 {M : cw_M} (h : Sh M) : M 2 7 = 26 := (h _ _ (by decide +kernel)).trans (by decide +kernel)
theorem Sh.a3 {M : cw_M} (h : Sh M) {p : Int} (h0 : 0 ≤ p) (h1 : p < 7) : M 3 p = 4 + p := by
  rcases (show p = 0 ∨ p = 1 ∨ p = 2 ∨ p = 3 ∨ p = 4 ∨ p = 5 ∨ p = 6 by omega) with rfl | rfl | rfl | rfl | rfl | rfl | rfl <;> exact (h _ _ (by decide +kernel)).trans (by decide +kernel)
theorem c_a3 {p : Int} (h0 : 0 ≤ p) (h1 : p < 7) : cw_kt cw_NX (4 + p) = (20, 5) := by
  rcases (show p = 0 ∨ p = 1 ∨ p = 2 ∨ p = 3 ∨ p = 4 ∨ p = 5 ∨ p = 6 by omega) with rfl | rfl | rfl | rfl | rfl | rfl | rfl <;> decide +kernel
theorem Sh.a11 {M : cw_M} (h : Sh M) {p : Int} (h0 : 0 ≤ p) (h1 : p < 7) : M 11 p = 12 + p := by
  rcases (show p = 0 ∨ p = 1 ∨ p = 2 ∨ p = 3 ∨ p = 4 ∨ p = 5 ∨ p = 6 by omega) with rfl | rfl | rfl | rfl | rfl | rfl | rfl <;> exact (h _ _ (by decide +kernel)).trans (by decide +kernel)
theorem c_a11 {p : Int} (h0 : 0 ≤ p) (h1 : p < 7) : cw_kt cw_NX (12 + p) = (20, 24) := by
  rcases (show p = 0 ∨ p = 1 ∨ p = 2 ∨ p = 3 ∨ p = 4 ∨ p = 5 ∨ p = 6 by omega) with rfl | rfl | rfl | rfl | rfl | rfl | rfl <;> decide +kernel
theorem Sh.a20 {M : cw_M} (h : Sh M) {p : Int} (h0 : 0 ≤ p) (h1 : p < 4) : M 20 p = 21 + p := by
  rcases (show p = 0 ∨ p = 1 ∨ p = 2 ∨ p = 3 by omega) with rfl | rfl | rfl | rfl <;> exact (h _ _ (by decide +kernel)).trans (by decide +kernel)
theorem c_a20 {p : Int} (h0 : 0 ≤ p) (h1 : p < 4) : cw_kt cw_NX (21 + p) = (20, 7) := by
  rcases (show p = 0 ∨ p = 1 ∨ p = 2 ∨ p = 3 by omega) with rfl | rfl | rfl | rfl <;> decide +kernel
theorem Sh.r27_1 {M : cw_M} (h : Sh M) : M 27 1 = 28 := (h _ _ (by decide +kernel)).trans (by decide +kernel)
theorem Sh.r27_2 {M : cw_M} (h : Sh M) : M 27 2 = 29 := (h _ _ (by decide +kernel)).trans (by decide +kernel)
theorem Sh.r27_3 {M : cw_M} (h : Sh M) : M 27 3 = 30 := (h _ _ (by decide +kernel)).trans (by decide +kernel)
theorem Sh.r31_1 {M : cw_M} (h : Sh M) : M 31 1 = 32 := (h _ _ (by decide +kernel)).trans (by decide +kernel)
theorem Sh.r31_2 {M : cw_M} (h : Sh M) : M 31 2 = 33 := (h _ _ (by decide +kernel)).trans (by decide +kernel)
theorem Sh.r35_0 {M : cw_M} (h : Sh M) : M 35 0 = 36 := (h _ _ (by decide +kernel)).trans (by decide +kernel)
theorem Sh.r35_1 {M : cw_M} (h : Sh M) : M 35 1 = 37 := (h _ _ (by decide +kernel)).trans (by decide +kernel)
theorem Sh.r35_2 {M : cw_M} (h : Sh M) : M 35 2 = 38 := (h _ _ (by decide +kernel)).trans (by decide +kernel)
theorem Sh.r35_3 {M : cw_M} (h : Sh M) : M 35 3 = 39 := (h _ _ (by decide +kernel)).trans (by decide +kernel)
theorem Sh.r35_4 {M : cw_M} (h : Sh M) : M 35 4 = 40 := (h _ _ (by decide +kernel)).trans (by decide +kernel)
theorem Sh.r35_5 {M : cw_M} (h : Sh M) : M 35 5 = 45 := (h _ _ (by decide +kernel)).trans (by decide +kernel)
theorem Sh.r35_6 {M : cw_M} (h : Sh M) : M 35 6 = 46 := (h _ _ (by decide +kernel)).trans (by decide +kernel)
theorem Sh.a40 {M : cw_M} (h : Sh M) {p : Int} (h0 : 0 ≤ p) (h1 : p < 4) : M 40 p = 41 + p := by
  rcases (show p = 0 ∨ p = 1 ∨ p = 2 ∨ p = 3 by omega) with rfl | rfl | rfl | rfl <;> exact (h _ _ (by decide +kernel)).trans (by decide +kernel)
theorem c_a40 {p : Int} (h0 : 0 ≤ p) (h1 : p < 4) : cw_kt cw_NX (41 + p) = (20, 4) := by
  rcases (show p = 0 ∨ p = 1 ∨ p = 2 ∨ p = 3 by omega) with rfl | rfl | rfl | rfl <;> decide +kernel
theorem Sh.a47 {M : cw_M} (h : Sh M) {p : Int} (h0 : 0 ≤ p) (h1 : p < 2) : M 47 p = 48 + 46 * p := by
  rcases (show p = 0 ∨ p = 1 by omega) with rfl | rfl <;> exact (h _ _ (by decide +kernel)).trans (by decide +kernel)
theorem c_a47 {p : Int} (h0 : 0 ≤ p) (h1 : p < 2) : cw_kt cw_NX (48 + 46 * p) = (9, 0) := by
  rcases (show p = 0 ∨ p = 1 by omega) with rfl | rfl <;> decide +kernel
theorem Sh.r48_0 {M : cw_M} (h : Sh M) : M 48 0 = 49 := (h _ _ (by decide +kernel)).trans (by decide +kernel)
theorem Sh.r48_1 {M : cw_M} (h : Sh M) : M 48 1 = 74 := (h _ _ (by decide +kernel)).trans (by decide +kernel)
theorem Sh.r48_2 {M : cw_M} (h : Sh M) : M 48 2 = 78 := (h _ _ (by decide +kernel)).trans (by decide +kernel)
theorem Sh.r48_3 {M : cw_M} (h : Sh M) : M 48 3 = 81 := (h _ _ (by decide +kernel)).trans (by decide +kernel)
theorem Sh.r48_4 {M : cw_M} (h : Sh M) : M 48 4 = 82 := (h _ _ (by decide +kernel)).trans (by decide +kernel)
theorem Sh.r94_0 {M : cw_M} (h : Sh M) : M 94 0 = 95 := (h _ _ (by decide +kernel)).trans (by decide +kernel)
theorem Sh.r94_1 {M : cw_M} (h : Sh M) : M 94 1 = 120 := (h _ _ (by decide +kernel)).trans (by decide +kernel)
theorem Sh.r94_2 {M : cw_M} (h : Sh M) : M 94 2 = 124 := (h _ _ (by decide +kernel)).trans (by decide +kernel)
theorem Sh.r94_3 {M : cw_M} (h : Sh M) : M 94 3 = 127 := (h _ _ (by decide +kernel)).trans (by decide +kernel)
theorem Sh.r94_4 {M : cw_M} (h : Sh M) : M 94 4 = 128 := (h _ _ (by decide +kernel)).trans (by decide +kernel)
theorem Sh.r141_1 {M : cw_M} (h : Sh M) : M 141 1 = 142 := (h _ _ (by decide +kernel)).trans (by decide +kernel)
theorem Sh.r141_2 {M : cw_M} (h : Sh M) : M 141 2 = 143 := (h _ _ (by decide +kernel)).trans (by decide +kernel)
theorem Sh.r141_3 {M : cw_M} (h : Sh M) : M 141 3 = 144 := (h _ _ (by decide +kernel)).trans (by decide +kernel)
theorem Sh.r141_4 {M : cw_M} (h : Sh M) : M 141 4 = 145 := (h _ _ (by decide +kernel)).trans (by decide +kernel)
theorem Sh.r141_5 {M : cw_M} (h : Sh M) : M 141 5 = 146 := (h _ _ (by decide +kernel)).trans (by decide +kernel)
theorem Sh.r141_7 {M : cw_M} (h : Sh M) : M 141 7 = 147 := (h _ _ (by decide +kernel)).trans (by decide +kernel)
theorem Sh.r148_0 {M : cw_M} (h : Sh M) : M 148 0 = 149 := (h _ _ (by decide +kernel)).trans (by decide +kernel)
theorem Sh.r148_1 {M : cw_M} (h : Sh M) : M 148 1 = 151 := (h _ _ (by decide +kernel)).trans (by decide +kernel)
theorem Sh.r148_3 {M : cw_M} (h : Sh M) : M 148 3 = 166 := (h _ _ (by decide +kernel)).trans (by decide +kernel)
theorem Sh.r148_4 {M : cw_M} (h : Sh M) : M 148 4 = 167 := (h _ _ (by decide +kernel)).trans (by decide +kernel)
theorem Sh.r148_5 {M : cw_M} (h : Sh M) : M 148 5 = 168 := (h _ _ (by decide +kernel)).trans (by decide +kernel)
theorem Sh.r148_6 {M : cw_M} (h : Sh M) : M 148 6 = 169 := (h _ _ (by decide +kernel)).trans (by decide +kernel)
theorem Sh.r148_7 {M : cw_M} (h : Sh M) : M 148 7 = 170 := (h _ _ (by decide +kernel)).trans (by decide +kernel)
theorem Sh.r148_8 {M : cw_M} (h : Sh M) : M 148 8 = 171 := (h _ _ (by decide +kernel)).trans (by decide +kernel)
theorem Sh.r148_9 {M : cw_M} (h : Sh M) : M 148 9 = 172 := (h _ _ (by decide +kernel)).trans (by decide +kernel)
theorem Sh.r148_10 {M : cw_M} (h : Sh M) : M 148 10 = 199 := (h _ _ (by decide +kernel)).trans (by decide +kernel)
theorem Sh.r148_11 {M : cw_M} (h : Sh M) : M 148 11 = 226 := (h _ _ (by decide +kernel)).trans (by decide +kernel)
theorem Sh.r148_12 {M : cw_M} (h : Sh M) : M 148 12 = 253 := (h _ _ (by decide +kernel)).trans (by decide +kernel)
theorem Sh.r148_13 {M : cw_M} (h : Sh M) : M 148 13 = 268 := (h _ _ (by decide +kernel)).trans (by decide +kernel)
theorem Sh.r148_14 {M : cw_M} (h : Sh M) : M 148 14 = 270 := (h _ _ (by decide +kernel)).trans (by decide +kernel)
theorem Sh.r148_15 {M : cw_M} (h : Sh M) : M 148 15 = 272 := (h _ _ (by decide +kernel)).trans (by decide +kernel)
theorem Sh.r148_16 {M : cw_M} (h : Sh M) : M 148 16 = 274 := (h _ _ (by decide +kernel)).trans (by decide +kernel)
theorem Sh.a151 {M : cw_M} (h : Sh M) {p : Int} (h0 : 0 ≤ p) (h1 : p < 7) : M 151 p = 152 + 2 * p := by
  rcases (show p = 0 ∨ p = 1 ∨ p = 2 ∨ p = 3 ∨ p = 4 ∨ p = 5 ∨ p = 6 by omega) with rfl | rfl | rfl | rfl | rfl | rfl | rfl <;> exact (h _ _ (by decide +kernel)).trans (by decide +kernel)
theorem c_a151 {p : Int} (h0 : 0 ≤ p) (h1 : p < 7) : cw_kt cw_NX (152 + 2 * p) = (10, 0) := by
  rcases (show p = 0 ∨ p = 1 ∨ p = 2 ∨ p = 3 ∨ p = 4 ∨ p = 5 ∨ p = 6 by omega) with rfl | rfl | rfl | rfl | rfl | rfl | rfl <;> decide +kernel
theorem Sh.a172 {M : cw_M} (h : Sh M) {p : Int} (h0 : 0 ≤ p) (h1 : p < 13) : M 172 p = 173 + 2 * p := by
  rcases (show p = 0 ∨ p = 1 ∨ p = 2 ∨ p = 3 ∨ p = 4 ∨ p = 5 ∨ p = 6 ∨ p = 7 ∨ p = 8 ∨ p = 9 ∨ p = 10 ∨ p = 11 ∨ p = 12 by omega) with rfl | rfl | rfl | rfl | rfl | rfl | rfl | rfl | rfl | rfl | rfl | rfl | rfl <;> exact (h _ _ (by decide +kernel)).trans (by decide +kernel)
theorem c_a172 {p : Int} (h0 : 0 ≤ p) (h1 : p < 13) : cw_kt cw_NX (173 + 2 * p) = (10, 0) := by
  rcases (show p = 0 ∨ p = 1 ∨ p = 2 ∨ p = 3 ∨ p = 4 ∨ p = 5 ∨ p = 6 ∨ p = 7 ∨ p = 8 ∨ p = 9 ∨ p = 10 ∨ p = 11 ∨ p = 12 by omega) with rfl | rfl | rfl | rfl | rfl | rfl | rfl | rfl | rfl | rfl | rfl | rfl | rfl <;> decide +kernel
theorem Sh.a199 {M : cw_M} (h : Sh M) {p : Int} (h0 : 0 ≤ p) (h1 : p < 13) : M 199 p = 200 + 2 * p := by
  rcases (show p = 0 ∨ p = 1 ∨ p = 2 ∨ p = 3 ∨ p = 4 ∨ p = 5 ∨ p = 6 ∨ p = 7 ∨ p = 8 ∨ p = 9 ∨ p = 10 ∨ p = 11 ∨ p = 12 by omega) with rfl | rfl | rfl | rfl | rfl | rfl | rfl | rfl | rfl | rfl | rfl | rfl | rfl <;> exact (h _ _ (by decide +kernel)).trans (by decide +kernel)
theorem c_a199 {p : Int} (h0 : 0 ≤ p) (h1 : p < 13) : cw_kt cw_NX (200 + 2 * p) = (10, 0) := by
  rcases (show p = 0 ∨ p = 1 ∨ p = 2 ∨ p = 3 ∨ p = 4 ∨ p = 5 ∨ p = 6 ∨ p = 7 ∨ p = 8 ∨ p = 9 ∨ p = 10 ∨ p = 11 ∨ p = 12 by omega) with rfl | rfl | rfl | rfl | rfl | rfl | rfl | rfl | rfl | rfl | rfl | rfl | rfl <;> decide +kernel
theorem Sh.a226 {M : cw_M} (h : Sh M) {p : Int} (h0 : 0 ≤ p) (h1 : p < 13) : M 226 p = 227 + 2 * p := by
  rcases (show p = 0 ∨ p = 1 ∨ p = 2 ∨ p = 3 ∨ p = 4 ∨ p = 5 ∨ p = 6 ∨ p = 7 ∨ p = 8 ∨ p = 9 ∨ p = 10 ∨ p = 11 ∨ p = 12 by omega) with rfl | rfl | rfl | rfl | rfl | rfl | rfl | rfl | rfl | rfl | rfl | rfl | rfl <;> exact (h _ _ (by decide +kernel)).trans (by decide +kernel)
theorem c_a226 {p : Int} (h0 : 0 ≤ p) (h1 : p < 13) : cw_kt cw_NX (227 + 2 * p) = (10, 0) := by
  rcases (show p = 0 ∨ p = 1 ∨ p = 2 ∨ p = 3 ∨ p = 4 ∨ p = 5 ∨ p = 6 ∨ p = 7 ∨ p = 8 ∨ p = 9 ∨ p = 10 ∨ p = 11 ∨ p = 12 by omega) with rfl | rfl | rfl | rfl | rfl | rfl | rfl | rfl | rfl | rfl | rfl | rfl | rfl <;> decide +kernel
theorem Sh.a253 {M : cw_M} (h : Sh M) {p : Int} (h0 : 0 ≤ p) (h1 : p < 7) : M 253 p = 254 + 2 * p := by
  rcases (show p = 0 ∨ p = 1 ∨ p = 2 ∨ p = 3 ∨ p = 4 ∨ p = 5 ∨ p = 6 by omega) with rfl | rfl | rfl | rfl | rfl | rfl | rfl <;> exact (h _ _ (by decide +kernel)).trans (by decide +kernel)
theorem c_a253 {p : Int} (h0 : 0 ≤ p) (h1 : p < 7) : cw_kt cw_NX (254 + 2 * p) = (10, 0) := by
  rcases (show p = 0 ∨ p = 1 ∨ p = 2 ∨ p = 3 ∨ p = 4 ∨ p = 5 ∨ p = 6 by omega) with rfl | rfl | rfl | rfl | rfl | rfl | rfl <;> decide +kernel
theorem Sh.r276_1 {M : cw_M} (h : Sh M) : M 276 1 = 277 := (h _ _ (by decide +kernel)).trans (by decide +kernel)
theorem Sh.r276_3 {M : cw_M} (h : Sh M) : M 276 3 = 278 := (h _ _ (by decide +kernel)).trans (by decide +kernel)
theorem Sh.r279_0 {M : cw_M} (h : Sh M) : M 279 0 = 280 := (h _ _ (by decide +kernel)).trans (by decide +kernel)
theorem Sh.r279_1 {M : cw_M} (h : Sh M) : M 279 1 = 282 := (h _ _ (by decide +kernel)).trans (by decide +kernel)
theorem Sh.r279_2 {M : cw_M} (h : Sh M) : M 279 2 = 284 := (h _ _ (by decide +kernel)).trans (by decide +kernel)
theorem Sh.r279_3 {M : cw_M} (h : Sh M) : M 279 3 = 286 := (h _ _ (by decide +kernel)).trans (by decide +kernel)
theorem Sh.r279_4 {M : cw_M} (h : Sh M) : M 279 4 = 288 := (h _ _ (by decide +kernel)).trans (by decide +kernel)
theorem Sh.r279_5 {M : cw_M} (h : Sh M) : M 279 5 = 290 := (h _ _ (by decide +kernel)).trans (by decide +kernel)
theorem Sh.r292_0 {M : cw_M} (h : Sh M) : M 292 0 = 293 := (h _ _ (by decide +kernel)).trans (by decide +kernel)
theorem Sh.r292_1 {M : cw_M} (h : Sh M) : M 292 1 = 295 := (h _ _ (by decide +kernel)).trans (by decide +kernel)
theorem Sh.r292_2 {M : cw_M} (h : Sh M) : M 292 2 = 297 := (h _ _ (by decide +kernel)).trans (by decide +kernel)
theorem Sh.r292_3 {M : cw_M} (h : Sh M) : M 292 3 = 299 := (h _ _ (by decide +kernel)).trans (by decide +kernel)
theorem Sh.r292_4 {M : cw_M} (h : Sh M) : M 292 4 = 301 := (h _ _ (by decide +kernel)).trans (by decide +kernel)
theorem Sh.r292_5 {M : cw_M} (h : Sh M) : M 292 5 = 303 := (h _ _ (by decide +kernel)).trans (by decide +kernel)
theorem Sh.r305_0 {M : cw_M} (h : Sh M) : M 305 0 = 306 := (h _ _ (by decide +kernel)).trans (by decide +kernel)
theorem Sh.r305_1 {M : cw_M} (h : Sh M) : M 305 1 = 308 := (h _ _ (by decide +kernel)).trans (by decide +kernel)
theorem Sh.r305_2 {M : cw_M} (h : Sh M) : M 305 2 = 310 := (h _ _ (by decide +kernel)).trans (by decide +kernel)
theorem Sh.r305_3 {M : cw_M} (h : Sh M) : M 305 3 = 312 := (h _ _ (by decide +kernel)).trans (by decide +kernel)
theorem Sh.r305_4 {M : cw_M} (h : Sh M) : M 305 4 = 314 := (h _ _ (by decide +kernel)).trans (by decide +kernel)
theorem Sh.r305_5 {M : cw_M} (h : Sh M) : M 305 5 = 316 := (h _ _ (by decide +kernel)).trans (by decide +kernel)
theorem Sh.r319_0 {M : cw_M} (h : Sh M) : M 319 0 = 320 := (h _ _ (by decide +kernel)).trans (by decide +kernel)
theorem Sh.r319_1 {M : cw_M} (h : Sh M) : M 319 1 = 321 := (h _ _ (by decide +kernel)).trans (by decide +kernel)
theorem Sh.r319_2 {M : cw_M} (h : Sh M) : M 319 2 = 322 := (h _ _ (by decide +kernel)).trans (by decide +kernel)
theorem Sh.r319_3 {M : cw_M} (h : Sh M) : M 319 3 = 323 := (h _ _ (by decide +kernel)).trans (by decide +kernel)
theorem Sh.r319_4 {M : cw_M} (h : Sh M) : M 319 4 = 324 := (h _ _ (by decide +kernel)).trans (by decide +kernel)
theorem Sh.r319_5 {M : cw_M} (h : Sh M) : M 319 5 = 325 := (h _ _ (by decide +kernel)).trans (by decide +kernel)
theorem Sh.r319_6 {M : cw_M} (h : Sh M) : M 319 6 = 326 := (h _ _ (by decide +kernel)).trans (by decide +kernel)
theorem Sh.r319_8 {M : cw_M} (h : Sh M) : M 319 8 = 327 := (h _ _ (by decide +kernel)).trans (by decide +kernel)
theorem Sh.r319_9 {M : cw_M} (h : Sh M) : M 319 9 = 328 := (h _ _ (by decide +kernel)).trans (by decide +kernel)
theorem Sh.r319_10 {M : cw_M} (h : Sh M) : M 319 10 = 329 := (h _ _ (by decide +kernel)).trans (by decide +kernel)
theorem Sh.r319_11 {M : cw_M} (h : Sh M) : M 319 11 = 330 := (h _ _ (by decide +kernel)).trans (by decide +kernel)
theorem Sh.r319_12 {M : cw_M} (h : Sh M) : M 319 12 = 331 := (h _ _ (by decide +kernel)).trans (by decide +kernel)
theorem Sh.r319_13 {M : cw_M} (h : Sh M) : M 319 13 = 332 := (h _ _ (by decide +kernel)).trans (by decide +kernel)
theorem Sh.r319_14 {M : cw_M} (h : Sh M) : M 319 14 = 333 := (h _ _ (by decide +kernel)).trans (by decide +kernel)
theorem Sh.r319_15 {M : cw_M} (h : Sh M) : M 319 15 = 334 := (h _ _ (by decide +kernel)).trans (by decide +kernel)
theorem Sh.r319_16 {M : cw_M} (h : Sh M) : M 319 16 = 335 := (h _ _ (by decide +kernel)).trans (by decide +kernel)
theorem Sh.r319_17 {M : cw_M} (h : Sh M) : M 319 17 = 336 := (h _ _ (by decide +kernel)).trans (by decide +kernel)
theorem Sh.r319_20 {M : cw_M} (h : Sh M) : M 319 20 = 337 := (h _ _ (by decide +kernel)).trans (by decide +kernel)
theorem Sh.r319_21 {M : cw_M} (h : Sh M) : M 319 21 = 338 := (h _ _ (by decide +kernel)).trans (by decide +kernel)
theorem Sh.r319_22 {M : cw_M} (h : Sh M) : M 319 22 = 339 := (h _ _ (by decide +kernel)).trans (by decide +kernel)
theorem Sh.r319_23 {M : cw_M} (h : Sh M) : M 319 23 = 340 := (h _ _ (by decide +kernel)).trans (by decide +kernel)
theorem Sh.r319_24 {M : cw_M} (h : Sh M) : M 319 24 = 341 := (h _ _ (by decide +kernel)).trans (by decide +kernel)
theorem Sh.r319_25 {M : cw_M} (h : Sh M) : M 319 25 = 342 := (h _ _ (by decide +kernel)).trans (by decide +kernel)
theorem Sh.r319_26 {M : cw_M} (h : Sh M) : M 319 26 = 343 := (h _ _ (by decide +kernel)).trans (by decide +kernel)
theorem Sh.r319_29 {M : cw_M} (h : Sh M) : M 319 29 = 344 := (h _ _ (by decide +kernel)).trans (by decide +kernel)
theorem Sh.r319_30 {M : cw_M} (h : Sh M) : M 319 30 = 345 := (h _ _ (by decide +kernel)).trans (by decide +kernel)
theorem Sh.r319_31 {M : cw_M} (h : Sh M) : M 319 31 = 346 := (h _ _ (by decide +kernel)).trans (by decide +kernel)
theorem Sh.r319_32 {M : cw_M} (h : Sh M) : M 319 32 = 347 := (h _ _ (by decide +kernel)).trans (by decide +kernel)
def IsS (s : Int) : Prop := s = 1 ∨ s = 48 ∨ s = 94
theorem s_k0 {s : Int} (h : IsS s) : cw_kt cw_NX (s) = (9, 0) := by
  rcases h with rfl | rfl | rfl <;> decide +kernel
theorem Sh.s0_0 {M : cw_M} (h : Sh M) {s : Int} (q : IsS s) : M (s) 0 = s + 1 := by
  rcases q with rfl | rfl | rfl <;> exact (h _ _ (by decide +kernel)).trans (by decide +kernel)
theorem Sh.s0_1 {M : cw_M} (h : Sh M) {s : Int} (q : IsS s) : M (s) 1 = s + 26 := by
  rcases q with rfl | rfl | rfl <;> exact (h _ _ (by decide +kernel)).trans (by decide +kernel)
theorem Sh.s0_2 {M : cw_M} (h : Sh M) {s : Int} (q : IsS s) : M (s) 2 = s + 30 := by
  rcases q with rfl | rfl | rfl <;> exact (h _ _ (by decide +kernel)).trans (by decide +kernel)
theorem Sh.s0_3 {M : cw_M} (h : Sh M) {s : Int} (q : IsS s) : M (s) 3 = s + 33 := by
  rcases q with rfl | rfl | rfl <;> exact (h _ _ (by decide +kernel)).trans (by decide +kernel)
theorem Sh.s0_4 {M : cw_M} (h : Sh M) {s : Int} (q : IsS s) : M (s) 4 = s + 34 := by
  rcases q with rfl | rfl | rfl <;> exact (h _ _ (by decide +kernel)).trans (by decide +kernel)
theorem s_k1 {s : Int} (h : IsS s) : cw_kt cw_NX (s + 1) = (2, 0) := by
  rcases h with rfl | rfl | rfl <;> decide +kernel
theorem Sh.s1_1 {M : cw_M} (h : Sh M) {s : Int} (q : IsS s) : M (s + 1) 1 = s + 2 := by
  rcases q with rfl | rfl | rfl <;> exact (h _ _ (by decide +kernel)).trans (by decide +kernel)
theorem Sh.s1_2 {M : cw_M} (h : Sh M) {s : Int} (q : IsS s) : M (s + 1) 2 = s + 10 := by
  rcases q with rfl | rfl | rfl <;> exact (h _ _ (by decide +kernel)).trans (by decide +kernel)
theorem Sh.s1_3 {M : cw_M} (h : Sh M) {s : Int} (q : IsS s) : M (s + 1) 3 = s + 18 := by
  rcases q with rfl | rfl | rfl <;> exact (h _ _ (by decide +kernel)).trans (by decide +kernel)
theorem Sh.s1_4 {M : cw_M} (h : Sh M) {s : Int} (q : IsS s) : M (s + 1) 4 = s + 19 := by
  rcases q with rfl | rfl | rfl <;> exact (h _ _ (by decide +kernel)).trans (by decide +kernel)
theorem Sh.s1_5 {M : cw_M} (h : Sh M) {s : Int} (q : IsS s) : M (s + 1) 5 = s + 24 := by
  rcases q with rfl | rfl | rfl <;> exact (h _ _ (by decide +kernel)).trans (by decide +kernel)
theorem Sh.s1_7 {M : cw_M} (h : Sh M) {s : Int} (q : IsS s) : M (s + 1) 7 = s + 25 := by
  rcases q with rfl | rfl | rfl <;> exact (h _ _ (by decide +kernel)).trans (by decide +kernel)
theorem s_k2 {s : Int} (h : IsS s) : cw_kt cw_NX (s + 2) = (25, 7) := by
  rcases h with rfl | rfl | rfl <;> decide +kernel
theorem Sh.sa2 {M : cw_M} (h : Sh M) {s p : Int} (q : IsS s) (h0 : 0 ≤ p) (h1 : p < 7) : M (s + 2) p = s + 3 + p := by
  rcases (show p = 0 ∨ p = 1 ∨ p = 2 ∨ p = 3 ∨ p = 4 ∨ p = 5 ∨ p = 6 by omega) with rfl | rfl | rfl | rfl | rfl | rfl | rfl <;> rcases q with rfl | rfl | rfl <;> exact (h _ _ (by decide +kernel)).trans (by decide +kernel)
theorem s_a2 {s p : Int} (q : IsS s) (h0 : 0 ≤ p) (h1 : p < 7) : cw_kt cw_NX (s + 3 + p) = (20, 5) := by
  rcases (show p = 0 ∨ p = 1 ∨ p = 2 ∨ p = 3 ∨ p = 4 ∨ p = 5 ∨ p = 6 by omega) with rfl | rfl | rfl | rfl | rfl | rfl | rfl <;> rcases q with rfl | rfl | rfl <;> decide +kernel
theorem s_k3 {s : Int} (h : IsS s) : cw_kt cw_NX (s + 3) = (20, 5) := by
  rcases h with rfl | rfl | rfl <;> decide +kernel
theorem s_k4 {s : Int} (h : IsS s) : cw_kt cw_NX (s + 4) = (20, 5) := by
  rcases h with rfl | rfl | rfl <;> decide +kernel
theorem s_k5 {s : Int} (h : IsS s) : cw_kt cw_NX (s + 5) = (20, 5) := by
  rcases h with rfl | rfl | rfl <;> decide +kernel
theorem s_k6 {s : Int} (h : IsS s) : cw_kt cw_NX (s + 6) = (20, 5) := by
  rcases h with rfl | rfl | rfl <;> decide +kernel
theorem s_k7 {s : Int} (h : IsS s) : cw_kt cw_NX (s + 7) = (20, 5) := by
  rcases h with rfl | rfl | rfl <;> decide +kernel
theorem s_k8 {s : Int} (h : IsS s) : cw_kt cw_NX (s + 8) = (20, 5) := by
  rcases h with rfl | rfl | rfl <;> decide +kernel
theorem s_k9 {s : Int} (h : IsS s) : cw_kt cw_NX (s + 9) = (20, 5) := by
  rcases h with rfl | rfl | rfl <;> decide +kernel
theorem s_k10 {s : Int} (h : IsS s) : cw_kt cw_NX (s + 10) = (25, 7) := by
  rcases h with rfl | rfl | rfl <;> decide +kernel
theorem Sh.sa10 {M : cw_M} (h : Sh M) {s p : Int} (q : IsS s) (h0 : 0 ≤ p) (h1 : p < 7) : M (s + 10) p = s + 11 + p := by
  rcases (show p = 0 ∨ p = 1 ∨ p = 2 ∨ p = 3 ∨ p = 4 ∨ p = 5 ∨ p = 6 by omega) with rfl | rfl | rfl | rfl | rfl | rfl | rfl <;> rcases q with rfl | rfl | rfl <;> exact (h _ _ (by decide +kernel)).trans (by decide +kernel)
theorem s_a10 {s p : Int} (q : IsS s) (h0 : 0 ≤ p) (h1 : p < 7) : cw_kt cw_NX (s + 11 + p) = (20, 24) := by
  rcases (show p = 0 ∨ p = 1 ∨ p = 2 ∨ p = 3 ∨ p = 4 ∨ p = 5 ∨ p = 6 by omega) with rfl | rfl | rfl | rfl | rfl | rfl | rfl <;> rcases q with rfl | rfl | rfl <;> decide +kernel
theorem s_k11 {s : Int} (h : IsS s) : cw_kt cw_NX (s + 11) = (20, 24) := by
  rcases h with rfl | rfl | rfl <;> decide +kernel
theorem s_k12 {s : Int} (h : IsS s) : cw_kt cw_NX (s + 12) = (20, 24) := by
  rcases h with rfl | rfl | rfl <;> decide +kernel
theorem s_k13 {s : Int} (h : IsS s) : cw_kt cw_NX (s + 13) = (20, 24) := by
  rcases h with rfl | rfl | rfl <;> decide +kernel
theorem s_k14 {s : Int} (h : IsS s) : cw_kt cw_NX (s + 14) = (20, 24) := by
  rcases h with rfl | rfl | rfl <;> decide +kernel
theorem s_k15 {s : Int} (h : IsS s) : cw_kt cw_NX (s + 15) = (20, 24) := by
  rcases h with rfl | rfl | rfl <;> decide +kernel
theorem s_k16 {s : Int} (h : IsS s) : cw_kt cw_NX (s + 16) = (20, 24) := by
  rcases h with rfl | rfl | rfl <;> decide +kernel
theorem s_k17 {s : Int} (h : IsS s) : cw_kt cw_NX (s + 17) = (20, 24) := by
  rcases h with rfl | rfl | rfl <;> decide +kernel
theorem s_k18 {s : Int} (h : IsS s) : cw_kt cw_NX (s + 18) = (20, 7) := by
  rcases h with rfl | rfl | rfl <;> decide +kernel
theorem s_k19 {s : Int} (h : IsS s) : cw_kt cw_NX (s + 19) = (25, 4) := by
  rcases h with rfl | rfl | rfl <;> decide +kernel
theorem Sh.sa19 {M : cw_M} (h : Sh M) {s p : Int} (q : IsS s) (h0 : 0 ≤ p) (h1 : p < 4) : M (s + 19) p = s + 20 + p := by
  rcases (show p = 0 ∨ p = 1 ∨ p = 2 ∨ p = 3 by omega) with rfl | rfl | rfl | rfl <;> rcases q with rfl | rfl | rfl <;> exact (h _ _ (by decide +kernel)).trans (by decide +kernel)
theorem s_a19 {s p : Int} (q : IsS s) (h0 : 0 ≤ p) (h1 : p < 4) : cw_kt cw_NX (s + 20 + p) = (20, 7) := by
  rcases (show p = 0 ∨ p = 1 ∨ p = 2 ∨ p = 3 by omega) with rfl | rfl | rfl | rfl <;> rcases q with rfl | rfl | rfl <;> decide +kernel
theorem s_k20 {s : Int} (h : IsS s) : cw_kt cw_NX (s + 20) = (20, 7) := by
  rcases h with rfl | rfl | rfl <;> decide +kernel
theorem s_k21 {s : Int} (h : IsS s) : cw_kt cw_NX (s + 21) = (20, 7) := by
  rcases h with rfl | rfl | rfl <;> decide +kernel
theorem s_k22 {s : Int} (h : IsS s) : cw_kt cw_NX (s + 22) = (20, 7) := by
  rcases h with rfl | rfl | rfl <;> decide +kernel
theorem s_k23 {s : Int} (h : IsS s) : cw_kt cw_NX (s + 23) = (20, 7) := by
  rcases h with rfl | rfl | rfl <;> decide +kernel
theorem s_k24 {s : Int} (h : IsS s) : cw_kt cw_NX (s + 24) = (20, 4) := by
  rcases h with rfl | rfl | rfl <;> decide +kernel
theorem s_k25 {s : Int} (h : IsS s) : cw_kt cw_NX (s + 25) = (20, 40) := by
  rcases h with rfl | rfl | rfl <;> decide +kernel
theorem s_k26 {s : Int} (h : IsS s) : cw_kt cw_NX (s + 26) = (6, 0) := by
  rcases h with rfl | rfl | rfl <;> decide +kernel
theorem Sh.s26_1 {M : cw_M} (h : Sh M) {s : Int} (q : IsS s) : M (s + 26) 1 = s + 27 := by
  rcases q with rfl | rfl | rfl <;> exact (h _ _ (by decide +kernel)).trans (by decide +kernel)
theorem Sh.s26_2 {M : cw_M} (h : Sh M) {s : Int} (q : IsS s) : M (s + 26) 2 = s + 28 := by
  rcases q with rfl | rfl | rfl <;> exact (h _ _ (by decide +kernel)).trans (by decide +kernel)
theorem Sh.s26_3 {M : cw_M} (h : Sh M) {s : Int} (q : IsS s) : M (s + 26) 3 = s + 29 := by
  rcases q with rfl | rfl | rfl <;> exact (h _ _ (by decide +kernel)).trans (by decide +kernel)
theorem s_k27 {s : Int} (h : IsS s) : cw_kt cw_NX (s + 27) = (20, 6) := by
  rcases h with rfl | rfl | rfl <;> decide +kernel
theorem s_k28 {s : Int} (h : IsS s) : cw_kt cw_NX (s + 28) = (20, 6) := by
  rcases h with rfl | rfl | rfl <;> decide +kernel
theorem s_k29 {s : Int} (h : IsS s) : cw_kt cw_NX (s + 29) = (21, 6) := by
  rcases h with rfl | rfl | rfl <;> decide +kernel
theorem s_k30 {s : Int} (h : IsS s) : cw_kt cw_NX (s + 30) = (7, 0) := by
  rcases h with rfl | rfl | rfl <;> decide +kernel
theorem Sh.s30_1 {M : cw_M} (h : Sh M) {s : Int} (q : IsS s) : M (s + 30) 1 = s + 31 := by
  rcases q with rfl | rfl | rfl <;> exact (h _ _ (by decide +kernel)).trans (by decide +kernel)
theorem Sh.s30_2 {M : cw_M} (h : Sh M) {s : Int} (q : IsS s) : M (s + 30) 2 = s + 32 := by
  rcases q with rfl | rfl | rfl <;> exact (h _ _ (by decide +kernel)).trans (by decide +kernel)
theorem s_k31 {s : Int} (h : IsS s) : cw_kt cw_NX (s + 31) = (20, 24) := by
  rcases h with rfl | rfl | rfl <;> decide +kernel
theorem s_k32 {s : Int} (h : IsS s) : cw_kt cw_NX (s + 32) = (20, 24) := by
  rcases h with rfl | rfl | rfl <;> decide +kernel
theorem s_k33 {s : Int} (h : IsS s) : cw_kt cw_NX (s + 33) = (1, 0) := by
  rcases h with rfl | rfl | rfl <;> decide +kernel
theorem s_k34 {s : Int} (h : IsS s) : cw_kt cw_NX (s + 34) = (0, 0) := by
  rcases h with rfl | rfl | rfl <;> decide +kernel
theorem Sh.s34_0 {M : cw_M} (h : Sh M) {s : Int} (q : IsS s) : M (s + 34) 0 = s + 35 := by
  rcases q with rfl | rfl | rfl <;> exact (h _ _ (by decide +kernel)).trans (by decide +kernel)
theorem Sh.s34_1 {M : cw_M} (h : Sh M) {s : Int} (q : IsS s) : M (s + 34) 1 = s + 36 := by
  rcases q with rfl | rfl | rfl <;> exact (h _ _ (by decide +kernel)).trans (by decide +kernel)
theorem Sh.s34_2 {M : cw_M} (h : Sh M) {s : Int} (q : IsS s) : M (s + 34) 2 = s + 37 := by
  rcases q with rfl | rfl | rfl <;> exact (h _ _ (by decide +kernel)).trans (by decide +kernel)
theorem Sh.s34_3 {M : cw_M} (h : Sh M) {s : Int} (q : IsS s) : M (s + 34) 3 = s + 38 := by
  rcases q with rfl | rfl | rfl <;> exact (h _ _ (by decide +kernel)).trans (by decide +kernel)
theorem Sh.s34_4 {M : cw_M} (h : Sh M) {s : Int} (q : IsS s) : M (s + 34) 4 = s + 39 := by
  rcases q with rfl | rfl | rfl <;> exact (h _ _ (by decide +kernel)).trans (by decide +kernel)
theorem Sh.s34_5 {M : cw_M} (h : Sh M) {s : Int} (q : IsS s) : M (s + 34) 5 = s + 44 := by
  rcases q with rfl | rfl | rfl <;> exact (h _ _ (by decide +kernel)).trans (by decide +kernel)
theorem Sh.s34_6 {M : cw_M} (h : Sh M) {s : Int} (q : IsS s) : M (s + 34) 6 = s + 45 := by
  rcases q with rfl | rfl | rfl <;> exact (h _ _ (by decide +kernel)).trans (by decide +kernel)
theorem s_k35 {s : Int} (h : IsS s) : cw_kt cw_NX (s + 35) = (21, 4) := by
  rcases h with rfl | rfl | rfl <;> decide +kernel
theorem s_k36 {s : Int} (h : IsS s) : cw_kt cw_NX (s + 36) = (20, 4) := by
  rcases h with rfl | rfl | rfl <;> decide +kernel
theorem s_k37 {s : Int} (h : IsS s) : cw_kt cw_NX (s + 37) = (20, 4) := by
  rcases h with rfl | rfl | rfl <;> decide +kernel
theorem s_k38 {s : Int} (h : IsS s) : cw_kt cw_NX (s + 38) = (20, 4) := by
  rcases h with rfl | rfl | rfl <;> decide +kernel
theorem s_k39 {s : Int} (h : IsS s) : cw_kt cw_NX (s + 39) = (25, 4) := by
  rcases h with rfl | rfl | rfl <;> decide +kernel
theorem Sh.sa39 {M : cw_M} (h : Sh M) {s p : Int} (q : IsS s) (h0 : 0 ≤ p) (h1 : p < 4) : M (s + 39) p = s + 40 + p := by
  rcases (show p = 0 ∨ p = 1 ∨ p = 2 ∨ p = 3 by omega) with rfl | rfl | rfl | rfl <;> rcases q with rfl | rfl | rfl <;> exact (h _ _ (by decide +kernel)).trans (by decide +kernel)
theorem s_a39 {s p : Int} (q : IsS s) (h0 : 0 ≤ p) (h1 : p < 4) : cw_kt cw_NX (s + 40 + p) = (20, 4) := by
  rcases (show p = 0 ∨ p = 1 ∨ p = 2 ∨ p = 3 by omega) with rfl | rfl | rfl | rfl <;> rcases q with rfl | rfl | rfl <;> decide +kernel
theorem s_k40 {s : Int} (h : IsS s) : cw_kt cw_NX (s + 40) = (20, 4) := by
  rcases h with rfl | rfl | rfl <;> decide +kernel
theorem s_k41 {s : Int} (h : IsS s) : cw_kt cw_NX (s + 41) = (20, 4) := by
  rcases h with rfl | rfl | rfl <;> decide +kernel
theorem s_k42 {s : Int} (h : IsS s) : cw_kt cw_NX (s + 42) = (20, 4) := by
  rcases h with rfl | rfl | rfl <;> decide +kernel
theorem s_k43 {s : Int} (h : IsS s) : cw_kt cw_NX (s + 43) = (20, 4) := by
  rcases h with rfl | rfl | rfl <;> decide +kernel
theorem s_k44 {s : Int} (h : IsS s) : cw_kt cw_NX (s + 44) = (21, 4) := by
  rcases h with rfl | rfl | rfl <;> decide +kernel
theorem s_k45 {s : Int} (h : IsS s) : cw_kt cw_NX (s + 45) = (21, 4) := by
  rcases h with rfl | rfl | rfl <;> decide +kernel
theorem up_if {M : cw_M} {a k v a' k' : Int} : cw_up M a k v a' k' = if a' = a ∧ k' = k then v else M a' k' := by
  unfold cw_up
  by_cases h : a' = a
  · by_cases q : k' = k
    · rw [if_pos (show a' = a ∧ k' = k from ⟨h, q⟩), if_pos h]; exact if_pos q
    · rw [if_neg (show ¬ (a' = a ∧ k' = k) from fun z => q z.2), if_pos h, h]; exact if_neg q
  · rw [if_neg (show ¬ (a' = a ∧ k' = k) from fun z => h z.1), if_neg h]
/-- a cell's row put anew -/
def cw_sf (M : cw_M) (a : Int) (F : Int → Int) : cw_M := fun a' => if a' = a then F else M a'
theorem sf_if {M : cw_M} {a a' k' : Int} {F : Int → Int} : cw_sf M a F a' k' = if a' = a then F k' else M a' k' := by
  unfold cw_sf
  split <;> rfl
theorem sf_eq {M : cw_M} {a : Int} {F : Int → Int} : cw_sf M a F a = F := if_pos rfl
theorem sf_ne {M : cw_M} {a a' : Int} {F : Int → Int} (h : a' ≠ a) : cw_sf M a F a' = M a' := if_neg h
theorem sf_id {M : cw_M} {a : Int} : cw_sf M a (M a) = M := by
  funext b; unfold cw_sf; split
  · rename_i h; rw [h]
  · rfl
theorem sf_sf {M : cw_M} {a : Int} {F G : Int → Int} : cw_sf (cw_sf M a F) a G = cw_sf M a G := by
  funext b; unfold cw_sf; split <;> rfl
/-- the places from lo on, n of them being put -/
def cw_fi (F G : Int → Int) (lo hi : Int) : Int → Int := fun k => if lo ≤ k ∧ k < hi then G k else F k
theorem fi_0 {F G : Int → Int} {lo : Int} : cw_fi F G lo lo = F := by
  funext k; unfold cw_fi; exact if_neg (by omega)
theorem fi_up {M : cw_M} {a : Int} {F G : Int → Int} {lo hi v : Int} (h : lo ≤ hi) (hv : v = G hi) : cw_up (cw_sf M a (cw_fi F G lo hi)) a hi v = cw_sf M a (cw_fi F G lo (hi + 1)) := by
  funext b k
  rw [up_if, sf_if, sf_if]
  by_cases hb : b = a
  · rw [if_pos hb, if_pos hb]
    by_cases hk : k = hi
    · rw [if_pos ⟨hb, hk⟩, hv, hk]; unfold cw_fi; rw [if_pos (by omega)]
    · rw [if_neg (fun z => hk z.2)]; unfold cw_fi
      by_cases hq : lo ≤ k ∧ k < hi
      · rw [if_pos hq, if_pos (by omega)]
      · rw [if_neg hq, if_neg (by omega)]
  · rw [if_neg (fun z => hb z.1), if_neg hb, if_neg hb]
theorem cp_fi {M : cw_M} {a0 a n : Int} : cw_cp M a0 0 a 0 n = cw_sf M a (cw_fi (M a) (M a0) 0 n) := by
  funext b
  unfold cw_cp cw_sf cw_fi
  split
  · funext k
    rw [Int.zero_add, Int.zero_add, Int.sub_zero]
  · rfl
theorem Sh.sf {M : cw_M} (h : Sh M) {a : Int} {F : Int → Int} (hr : ∀ k, cw_rs a k = false) : Sh (cw_sf M a F) := by
  intro b k hb
  rw [sf_if]
  by_cases q : b = a
  · subst q; rw [hr k] at hb; cases hb
  · rw [if_neg q]; exact h b k hb
theorem w_sf1 {M : cw_M} {a k : Int} {F : Int → Int} : cw_sf M a F a k = F k := by rw [sf_eq]
theorem w_sf3 {M : cw_M} {a a' k : Int} {F : Int → Int} (h : ¬ a' = a) : cw_sf M a F a' k = M a' k := by rw [sf_ne h]
