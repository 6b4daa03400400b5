/-! every method is as its table says: by the kernel -/
set_option maxRecDepth 1000000 in
theorem mb_240 : mBB 240 = true := by decide +kernel
set_option maxRecDepth 1000000 in
theorem mb_241 : mBB 241 = true := by decide +kernel
set_option maxRecDepth 1000000 in
theorem mb_242 : mBB 242 = true := by decide +kernel
set_option maxRecDepth 1000000 in
theorem mb_243 : mBB 243 = true := by decide +kernel
set_option maxRecDepth 1000000 in
theorem mb_244 : mBB 244 = true := by decide +kernel
set_option maxRecDepth 1000000 in
theorem mb_245 : mBB 245 = true := by decide +kernel
set_option maxRecDepth 1000000 in
theorem mb_246 : mBB 246 = true := by decide +kernel
set_option maxRecDepth 1000000 in
theorem mb_247 : mBB 247 = true := by decide +kernel
set_option maxRecDepth 1000000 in
theorem mb_248 : mBB 248 = true := by decide +kernel
set_option maxRecDepth 1000000 in
theorem mb_249 : mBB 249 = true := by decide +kernel
set_option maxRecDepth 1000000 in
theorem mb_250 : mBB 250 = true := by decide +kernel
set_option maxRecDepth 1000000 in
theorem mb_251 : mBB 251 = true := by decide +kernel
set_option maxRecDepth 1000000 in
theorem mb_252 : mBB 252 = true := by decide +kernel
set_option maxRecDepth 1000000 in
theorem mb_253 : mBB 253 = true := by decide +kernel
set_option maxRecDepth 1000000 in
theorem mb_254 : mBB 254 = true := by decide +kernel
set_option maxRecDepth 1000000 in
theorem mb_255 : mBB 255 = true := by decide +kernel
set_option maxRecDepth 1000000 in
theorem mb_256 : mBB 256 = true := by decide +kernel
set_option maxRecDepth 1000000 in
theorem mb_257 : mBB 257 = true := by decide +kernel
set_option maxRecDepth 1000000 in
theorem mb_258 : mBB 258 = true := by decide +kernel
set_option maxRecDepth 1000000 in
theorem mb_259 : mBB 259 = true := by decide +kernel
set_option maxRecDepth 1000000 in
theorem mb_260 : mBB 260 = true := by decide +kernel
set_option maxRecDepth 1000000 in
theorem mb_261 : mBB 261 = true := by decide +kernel
set_option maxRecDepth 1000000 in
theorem mb_262 : mBB 262 = true := by decide +kernel
set_option maxRecDepth 1000000 in
theorem mb_263 : mBB 263 = true := by decide +kernel
set_option maxRecDepth 1000000 in
theorem mb_264 : mBB 264 = true := by decide +kernel
set_option maxRecDepth 1000000 in
theorem mb_265 : mBB 265 = true := by decide +kernel
set_option maxRecDepth 1000000 in
theorem mb_266 : mBB 266 = true := by decide +kernel
set_option maxRecDepth 1000000 in
theorem mb_267 : mBB 267 = true := by decide +kernel
set_option maxRecDepth 1000000 in
theorem mb_268 : mBB 268 = true := by decide +kernel
set_option maxRecDepth 1000000 in
theorem mb_269 : mBB 269 = true := by decide +kernel
set_option maxRecDepth 1000000 in
theorem mb_270 : mBB 270 = true := by decide +kernel
set_option maxRecDepth 1000000 in
theorem mb_271 : mBB 271 = true := by decide +kernel
set_option maxRecDepth 1000000 in
theorem mb_272 : mBB 272 = true := by decide +kernel
set_option maxRecDepth 1000000 in
theorem mb_273 : mBB 273 = true := by decide +kernel
set_option maxRecDepth 1000000 in
theorem mb_274 : mBB 274 = true := by decide +kernel
set_option maxRecDepth 1000000 in
theorem mb_275 : mBB 275 = true := by decide +kernel
set_option maxRecDepth 1000000 in
theorem mb_276 : mBB 276 = true := by decide +kernel
set_option maxRecDepth 1000000 in
theorem mb_277 : mBB 277 = true := by decide +kernel
set_option maxRecDepth 1000000 in
theorem mb_278 : mBB 278 = true := by decide +kernel
set_option maxRecDepth 1000000 in
theorem mb_279 : mBB 279 = true := by decide +kernel
theorem mbc_6 : ∀ j, j < 40 → mBB (240 + j) = true
  | 0, _ => mb_240
  | 1, _ => mb_241
  | 2, _ => mb_242
  | 3, _ => mb_243
  | 4, _ => mb_244
  | 5, _ => mb_245
  | 6, _ => mb_246
  | 7, _ => mb_247
  | 8, _ => mb_248
  | 9, _ => mb_249
  | 10, _ => mb_250
  | 11, _ => mb_251
  | 12, _ => mb_252
  | 13, _ => mb_253
  | 14, _ => mb_254
  | 15, _ => mb_255
  | 16, _ => mb_256
  | 17, _ => mb_257
  | 18, _ => mb_258
  | 19, _ => mb_259
  | 20, _ => mb_260
  | 21, _ => mb_261
  | 22, _ => mb_262
  | 23, _ => mb_263
  | 24, _ => mb_264
  | 25, _ => mb_265
  | 26, _ => mb_266
  | 27, _ => mb_267
  | 28, _ => mb_268
  | 29, _ => mb_269
  | 30, _ => mb_270
  | 31, _ => mb_271
  | 32, _ => mb_272
  | 33, _ => mb_273
  | 34, _ => mb_274
  | 35, _ => mb_275
  | 36, _ => mb_276
  | 37, _ => mb_277
  | 38, _ => mb_278
  | 39, _ => mb_279
  | j + 40, h => absurd h (by omega)
set_option maxRecDepth 1000000 in
theorem mb_280 : mBB 280 = true := by decide +kernel
set_option maxRecDepth 1000000 in
theorem mb_281 : mBB 281 = true := by decide +kernel
set_option maxRecDepth 1000000 in
theorem mb_282 : mBB 282 = true := by decide +kernel
set_option maxRecDepth 1000000 in
theorem mb_283 : mBB 283 = true := by decide +kernel
set_option maxRecDepth 1000000 in
theorem mb_284 : mBB 284 = true := by decide +kernel
set_option maxRecDepth 1000000 in
theorem mb_285 : mBB 285 = true := by decide +kernel
set_option maxRecDepth 1000000 in
theorem mb_286 : mBB 286 = true := by decide +kernel
set_option maxRecDepth 1000000 in
theorem mb_287 : mBB 287 = true := by decide +kernel
set_option maxRecDepth 1000000 in
theorem mb_288 : mBB 288 = true := by decide +kernel
set_option maxRecDepth 1000000 in
theorem mb_289 : mBB 289 = true := by decide +kernel
set_option maxRecDepth 1000000 in
theorem mb_290 : mBB 290 = true := by decide +kernel
set_option maxRecDepth 1000000 in
theorem mb_291 : mBB 291 = true := by decide +kernel
set_option maxRecDepth 1000000 in
theorem mb_292 : mBB 292 = true := by decide +kernel
set_option maxRecDepth 1000000 in
theorem mb_293 : mBB 293 = true := by decide +kernel
set_option maxRecDepth 1000000 in
theorem mb_294 : mBB 294 = true := by decide +kernel
set_option maxRecDepth 1000000 in
theorem mb_295 : mBB 295 = true := by decide +kernel
set_option maxRecDepth 1000000 in
theorem mb_296 : mBB 296 = true := by decide +kernel
set_option maxRecDepth 1000000 in
theorem mb_297 : mBB 297 = true := by decide +kernel
set_option maxRecDepth 1000000 in
theorem mb_298 : mBB 298 = true := by decide +kernel
set_option maxRecDepth 1000000 in
theorem mb_299 : mBB 299 = true := by decide +kernel
set_option maxRecDepth 1000000 in
theorem mb_300 : mBB 300 = true := by decide +kernel
set_option maxRecDepth 1000000 in
theorem mb_301 : mBB 301 = true := by decide +kernel
set_option maxRecDepth 1000000 in
theorem mb_302 : mBB 302 = true := by decide +kernel
set_option maxRecDepth 1000000 in
theorem mb_303 : mBB 303 = true := by decide +kernel
set_option maxRecDepth 1000000 in
theorem mb_304 : mBB 304 = true := by decide +kernel
set_option maxRecDepth 1000000 in
theorem mb_305 : mBB 305 = true := by decide +kernel
set_option maxRecDepth 1000000 in
theorem mb_306 : mBB 306 = true := by decide +kernel
set_option maxRecDepth 1000000 in
theorem mb_307 : mBB 307 = true := by decide +kernel
set_option maxRecDepth 1000000 in
theorem mb_308 : mBB 308 = true := by decide +kernel
set_option maxRecDepth 1000000 in
theorem mb_309 : mBB 309 = true := by decide +kernel
set_option maxRecDepth 1000000 in
theorem mb_310 : mBB 310 = true := by decide +kernel
set_option maxRecDepth 1000000 in
theorem mb_311 : mBB 311 = true := by decide +kernel
set_option maxRecDepth 1000000 in
theorem mb_312 : mBB 312 = true := by decide +kernel
set_option maxRecDepth 1000000 in
theorem mb_313 : mBB 313 = true := by decide +kernel
set_option maxRecDepth 1000000 in
theorem mb_314 : mBB 314 = true := by decide +kernel
set_option maxRecDepth 1000000 in
theorem mb_315 : mBB 315 = true := by decide +kernel
set_option maxRecDepth 1000000 in
theorem mb_316 : mBB 316 = true := by decide +kernel
set_option maxRecDepth 1000000 in
theorem mb_317 : mBB 317 = true := by decide +kernel
set_option maxRecDepth 1000000 in
theorem mb_318 : mBB 318 = true := by decide +kernel
set_option maxRecDepth 1000000 in
theorem mb_319 : mBB 319 = true := by decide +kernel
theorem mbc_7 : ∀ j, j < 40 → mBB (280 + j) = true
  | 0, _ => mb_280
  | 1, _ => mb_281
  | 2, _ => mb_282
  | 3, _ => mb_283
  | 4, _ => mb_284
  | 5, _ => mb_285
  | 6, _ => mb_286
  | 7, _ => mb_287
  | 8, _ => mb_288
  | 9, _ => mb_289
  | 10, _ => mb_290
  | 11, _ => mb_291
  | 12, _ => mb_292
  | 13, _ => mb_293
  | 14, _ => mb_294
  | 15, _ => mb_295
  | 16, _ => mb_296
  | 17, _ => mb_297
  | 18, _ => mb_298
  | 19, _ => mb_299
  | 20, _ => mb_300
  | 21, _ => mb_301
  | 22, _ => mb_302
  | 23, _ => mb_303
  | 24, _ => mb_304
  | 25, _ => mb_305
  | 26, _ => mb_306
  | 27, _ => mb_307
  | 28, _ => mb_308
  | 29, _ => mb_309
  | 30, _ => mb_310
  | 31, _ => mb_311
  | 32, _ => mb_312
  | 33, _ => mb_313
  | 34, _ => mb_314
  | 35, _ => mb_315
  | 36, _ => mb_316
  | 37, _ => mb_317
  | 38, _ => mb_318
  | 39, _ => mb_319
  | j + 40, h => absurd h (by omega)
set_option maxRecDepth 1000000 in
theorem mb_320 : mBB 320 = true := by decide +kernel
set_option maxRecDepth 1000000 in
theorem mb_321 : mBB 321 = true := by decide +kernel
set_option maxRecDepth 1000000 in
theorem mb_322 : mBB 322 = true := by decide +kernel
set_option maxRecDepth 1000000 in
theorem mb_323 : mBB 323 = true := by decide +kernel
set_option maxRecDepth 1000000 in
theorem mb_324 : mBB 324 = true := by decide +kernel
set_option maxRecDepth 1000000 in
theorem mb_325 : mBB 325 = true := by decide +kernel
set_option maxRecDepth 1000000 in
theorem mb_326 : mBB 326 = true := by decide +kernel
set_option maxRecDepth 1000000 in
theorem mb_327 : mBB 327 = true := by decide +kernel
set_option maxRecDepth 1000000 in
theorem mb_328 : mBB 328 = true := by decide +kernel
set_option maxRecDepth 1000000 in
theorem mb_329 : mBB 329 = true := by decide +kernel
set_option maxRecDepth 1000000 in
theorem mb_330 : mBB 330 = true := by decide +kernel
theorem mbc_8 : ∀ j, j < 11 → mBB (320 + j) = true
  | 0, _ => mb_320
  | 1, _ => mb_321
  | 2, _ => mb_322
  | 3, _ => mb_323
  | 4, _ => mb_324
  | 5, _ => mb_325
  | 6, _ => mb_326
  | 7, _ => mb_327
  | 8, _ => mb_328
  | 9, _ => mb_329
  | 10, _ => mb_330
  | j + 11, h => absurd h (by omega)
theorem mG_lt {k : Nat} {M : PMr} (h : mG k = some M) : k < 332 := by
  unfold mG at h
  split at h
  · rename_i e
    have h1 := (List.getElem?_eq_some_iff.mp h).1
    have h2 : mtab_0.length = 40 := by decide +kernel
    omega
  · rename_i e
    have h1 := (List.getElem?_eq_some_iff.mp h).1
    have h2 : mtab_1.length = 40 := by decide +kernel
    omega
  · rename_i e
    have h1 := (List.getElem?_eq_some_iff.mp h).1
    have h2 : mtab_2.length = 40 := by decide +kernel
    omega
  · rename_i e
    have h1 := (List.getElem?_eq_some_iff.mp h).1
    have h2 : mtab_3.length = 40 := by decide +kernel
    omega
  · rename_i e
    have h1 := (List.getElem?_eq_some_iff.mp h).1
    have h2 : mtab_4.length = 40 := by decide +kernel
    omega
  · rename_i e
    have h1 := (List.getElem?_eq_some_iff.mp h).1
    have h2 : mtab_5.length = 40 := by decide +kernel
    omega
  · rename_i e
    have h1 := (List.getElem?_eq_some_iff.mp h).1
    have h2 : mtab_6.length = 40 := by decide +kernel
    omega
  · rename_i e
    have h1 := (List.getElem?_eq_some_iff.mp h).1
    have h2 : mtab_7.length = 40 := by decide +kernel
    omega
  · rename_i e
    have h1 := (List.getElem?_eq_some_iff.mp h).1
    have h2 : mtab_8.length = 12 := by decide +kernel
    omega
  · cases h
theorem mb_all : ∀ k M, mG k = some M → k ≠ m_L_law → mB k M = true := by
  intro k M hM hk
  have hlt := mG_lt hM
  have hk : k ≠ 331 := hk
  have key : mBB k = true := by
    have e : k = 40 * (k / 40) + k % 40 := by omega
    rcases (show k / 40 = 0 ∨ k / 40 = 1 ∨ k / 40 = 2 ∨ k / 40 = 3 ∨ k / 40 = 4 ∨ k / 40 = 5 ∨ k / 40 = 6 ∨ k / 40 = 7 ∨ k / 40 = 8 by omega) with q | q | q | q | q | q | q | q | q
    · rw [e, q]
      exact mbc_0 (k % 40) (by omega)
    · rw [e, q]
      exact mbc_1 (k % 40) (by omega)
    · rw [e, q]
      exact mbc_2 (k % 40) (by omega)
    · rw [e, q]
      exact mbc_3 (k % 40) (by omega)
    · rw [e, q]
      exact mbc_4 (k % 40) (by omega)
    · rw [e, q]
      exact mbc_5 (k % 40) (by omega)
    · rw [e, q]
      exact mbc_6 (k % 40) (by omega)
    · rw [e, q]
      exact mbc_7 (k % 40) (by omega)
    · rw [e, q]
      exact mbc_8 (k % 40) (by omega)
  unfold mBB at key
  rw [hM] at key
  exact key
theorem cw_all : ∀ k M, mG k = some M → k ≠ m_L_law → Cond.code M.1 M.2.1 M.2.2.1 M.2.2.2.1 ∈ gd_tbl := by
  intro k M hM hk
  have hk : k ≠ 331 := hk
  have hc : M.1.cls ≠ "StairRodsLaw" := by
    have := mb_all k M hM hk
    unfold mB at this
    simp only [Bool.and_eq_true, decide_eq_true_eq] at this
    exact this.1.2
  have h := hM
  unfold mG at h
  split at h
  · exact cwc_0 M (List.mem_of_getElem? h) hc
  · exact cwc_1 M (List.mem_of_getElem? h) hc
  · exact cwc_2 M (List.mem_of_getElem? h) hc
  · exact cwc_3 M (List.mem_of_getElem? h) hc
  · exact cwc_4 M (List.mem_of_getElem? h) hc
  · exact cwc_5 M (List.mem_of_getElem? h) hc
  · exact cwc_6 M (List.mem_of_getElem? h) hc
  · exact cwc_7 M (List.mem_of_getElem? h) hc
  · exact cwc_8 M (List.mem_of_getElem? h) hc
  · cases h
theorem law_not (d : Nat) (a : List Value) (h : PH) (Q : PQ) : ¬ Ev d m_L_law a h Q := by
  intro w
  cases d with
  | zero => exact w
  | succ d =>
    unfold Ev at w
    split at w
    · rename_i M hM
      have e : M.2.2.2.2.2.2.2 = [] := by
        have h1 : (mG m_L_law).map (fun M => M.2.2.2.2.2.2.2) = some [] := rfl
        rw [hM] at h1
        exact Option.some.inj h1
      rcases w with ⟨q, -⟩ | ⟨-, -, w⟩
      · revert q; decide
      · rw [e] at w
        exact w (fun _ _ _ _ => False) (fun _ _ _ _ q => q.elim (fun ⟨E, hE, _⟩ => by cases hE) (fun ⟨_, _, q⟩ => q))
    · exact w
