/-! the law's calls, 1 -/
section LO
variable {G : LX} {i : Int} {S : ST} {ν : Nat → Nat → Option Nat} {μ : Nat → Nat → Int} {k n : Nat}
theorem lo_fill (hC : lC G) (hL : G.L ≤ 3072) (hi : 0 ≤ i ∧ i ≤ (G.L : Int) - 6) (hk : k ≤ 600000) (hn : n ≤ 7302250) (hw : Wd S ν μ) (K : ∀ S' ν' μ', Wd S' ν' μ' → LJ G 1039 (lLS i) [] SH ν' μ' k n) : LJ G 144 (lLS i) [] SH ν μ k n := by
  obtain ⟨hS, HM, f, s, hW, HX⟩ := hw
  refine LJ.aload_n (pc := 144) (i := 1) 2 hC d_law_144 rfl rfl ?_
  refine LJ.arg (pc := 145) (z := 1) (y := wv G i 1) 0 hC d_law_145 d_law_146 d_law_147 d_law_148 d_law_149 ⟨by decide, by decide⟩ rfl (by omega) hL rfl ?_
  refine LJ.arg (pc := 150) (z := 2) (y := wv G i 2) 0 hC d_law_150 d_law_151 d_law_152 d_law_153 d_law_154 ⟨by decide, by decide⟩ rfl (by omega) hL rfl ?_
  refine LJ.arg (pc := 155) (z := 3) (y := wv G i 3) 0 hC d_law_155 d_law_156 d_law_157 d_law_158 d_law_159 ⟨by decide, by decide⟩ rfl (by omega) hL rfl ?_
  refine LJ.callV (pc := 160) (vs := [vI (wv G i 1), vI (wv G i 2), vI (wv G i 3)]) (st := []) hC d_law_160 rfl okM_X9_fill rfl lk_L_13 inst_X9_fill sel_X9_fill sh_9 rfl ⟨⟨Nat.le_of_ble_eq_true rfl, Nat.le_of_ble_eq_true rfl⟩, ⟨hk, hn⟩, Nat.le_of_ble_eq_true rfl⟩ (Nat.le_of_ble_eq_true rfl) (xo_fill hW hS HX fun f s ν μ1 hW HX1 fr => ?_)
  have HM := MS_lift fr HM
  refine LJ.nrm (pc' := 163) (ls' := lLS i) (st' := [(vI (oFill S (wv G i 1) (wv G i 2) (wv G i 3)).1)]) (k' := k) (n' := n) rfl rfl rfl rfl rfl ?_
  refine LJ.aload_n (pc := 163) (i := 2) 1 hC d_law_163 rfl rfl ?_
  refine LJ.arg (pc := 164) (z := 1) (y := wv G i 1) 0 hC d_law_164 d_law_165 d_law_166 d_law_167 d_law_168 ⟨by decide, by decide⟩ rfl (by omega) hL rfl ?_
  refine LJ.arg (pc := 169) (z := 2) (y := wv G i 2) 0 hC d_law_169 d_law_170 d_law_171 d_law_172 d_law_173 ⟨by decide, by decide⟩ rfl (by omega) hL rfl ?_
  refine LJ.arg (pc := 174) (z := 3) (y := wv G i 3) 0 hC d_law_174 d_law_175 d_law_176 d_law_177 d_law_178 ⟨by decide, by decide⟩ rfl (by omega) hL rfl ?_
  refine LJ.callV (pc := 179) (vs := [vI (wv G i 1), vI (wv G i 2), vI (wv G i 3)]) (st := [(vI (oFill S (wv G i 1) (wv G i 2) (wv G i 3)).1)]) hC d_law_179 rfl okM_X10_fill rfl lk_L_17 inst_X10_fill sel_X10_fill sh_10 rfl ⟨⟨Nat.le_of_ble_eq_true rfl, Nat.le_of_ble_eq_true rfl⟩, ⟨hk, hn⟩, Nat.le_of_ble_eq_true rfl⟩ (Nat.le_of_ble_eq_true rfl) (mo_fill hW hS HM fun μ2 HM2 fr2 => ?_)
  refine LJ.nrm (pc' := 182) (ls' := lLS i) (st' := [(vI (oFill S (wv G i 1) (wv G i 2) (wv G i 3)).1), (vI (oFill S (wv G i 1) (wv G i 2) (wv G i 3)).1)]) (k' := k) (n' := n) rfl rfl rfl rfl rfl ?_
  refine LJ.same (pc := 182) 1039 hC d_law_182 (by decide) ?_
  exact K (oFill S (wv G i 1) (wv G i 2) (wv G i 3)).2 ν μ2 ⟨(okS_fill hS), HM2, _, _, hW, XS_lift fr2 (wf_f hW) (okS_fill (S := S) hS).1.1 HX1⟩
theorem lo_part (hC : lC G) (hL : G.L ≤ 3072) (hi : 0 ≤ i ∧ i ≤ (G.L : Int) - 6) (hk : k ≤ 600000) (hn : n ≤ 7302250) (hw : Wd S ν μ) (K : ∀ S' ν' μ', Wd S' ν' μ' → LJ G 1039 (lLS i) [] SH ν' μ' k n) : LJ G 187 (lLS i) [] SH ν μ k n := by
  obtain ⟨hS, HM, f, s, hW, HX⟩ := hw
  refine LJ.aload_n (pc := 187) (i := 1) 2 hC d_law_187 rfl rfl ?_
  refine LJ.arg (pc := 188) (z := 1) (y := wv G i 1) 0 hC d_law_188 d_law_189 d_law_190 d_law_191 d_law_192 ⟨by decide, by decide⟩ rfl (by omega) hL rfl ?_
  refine LJ.arg (pc := 193) (z := 2) (y := wv G i 2) 0 hC d_law_193 d_law_194 d_law_195 d_law_196 d_law_197 ⟨by decide, by decide⟩ rfl (by omega) hL rfl ?_
  refine LJ.arg (pc := 198) (z := 3) (y := wv G i 3) 0 hC d_law_198 d_law_199 d_law_200 d_law_201 d_law_202 ⟨by decide, by decide⟩ rfl (by omega) hL rfl ?_
  refine LJ.flag (pc := 203) 211 hC d_law_203 d_law_206 d_law_207 d_law_210 rfl rfl rfl ?_
  refine LJ.callV (pc := 211) (vs := [vI (wv G i 1), vI (wv G i 2), vI (wb G i 3)]) (st := []) hC d_law_211 rfl okM_X9_part rfl lk_L_18 inst_X9_part sel_X9_part sh_9 rfl ⟨⟨Nat.le_of_ble_eq_true rfl, Nat.le_of_ble_eq_true rfl⟩, ⟨hk, hn⟩, Nat.le_of_ble_eq_true rfl⟩ (Nat.le_of_ble_eq_true rfl) (xo_part hW hS HX fun f s ν μ1 hW HX1 fr => ?_)
  have HM := MS_lift fr HM
  refine LJ.nrm (pc' := 214) (ls' := lLS i) (st' := [(vI (oPart S (wv G i 1) (wv G i 2) (wb G i 3)).1)]) (k' := k) (n' := n) rfl rfl rfl rfl rfl ?_
  refine LJ.aload_n (pc := 214) (i := 2) 1 hC d_law_214 rfl rfl ?_
  refine LJ.arg (pc := 215) (z := 1) (y := wv G i 1) 0 hC d_law_215 d_law_216 d_law_217 d_law_218 d_law_219 ⟨by decide, by decide⟩ rfl (by omega) hL rfl ?_
  refine LJ.arg (pc := 220) (z := 2) (y := wv G i 2) 0 hC d_law_220 d_law_221 d_law_222 d_law_223 d_law_224 ⟨by decide, by decide⟩ rfl (by omega) hL rfl ?_
  refine LJ.arg (pc := 225) (z := 3) (y := wv G i 3) 0 hC d_law_225 d_law_226 d_law_227 d_law_228 d_law_229 ⟨by decide, by decide⟩ rfl (by omega) hL rfl ?_
  refine LJ.flag (pc := 230) 238 hC d_law_230 d_law_233 d_law_234 d_law_237 rfl rfl rfl ?_
  refine LJ.callV (pc := 238) (vs := [vI (wv G i 1), vI (wv G i 2), vI (wb G i 3)]) (st := [(vI (oPart S (wv G i 1) (wv G i 2) (wb G i 3)).1)]) hC d_law_238 rfl okM_X10_part rfl lk_L_22 inst_X10_part sel_X10_part sh_10 rfl ⟨⟨Nat.le_of_ble_eq_true rfl, Nat.le_of_ble_eq_true rfl⟩, ⟨hk, hn⟩, Nat.le_of_ble_eq_true rfl⟩ (Nat.le_of_ble_eq_true rfl) (mo_part hW hS HM (wb01 _ _ _) fun μ2 HM2 fr2 => ?_)
  refine LJ.nrm (pc' := 241) (ls' := lLS i) (st' := [(vI (oPart S (wv G i 1) (wv G i 2) (wb G i 3)).1), (vI (oPart S (wv G i 1) (wv G i 2) (wb G i 3)).1)]) (k' := k) (n' := n) rfl rfl rfl rfl rfl ?_
  refine LJ.same (pc := 241) 1039 hC d_law_241 (by decide) ?_
  exact K (oPart S (wv G i 1) (wv G i 2) (wb G i 3)).2 ν μ2 ⟨(okS_part hS), HM2, _, _, hW, XS_lift fr2 (wf_f hW) (okS_part (S := S) hS).1.1 HX1⟩
theorem lo_split (hC : lC G) (hL : G.L ≤ 3072) (hi : 0 ≤ i ∧ i ≤ (G.L : Int) - 6) (hk : k ≤ 600000) (hn : n ≤ 7302250) (hw : Wd S ν μ) (K : ∀ S' ν' μ', Wd S' ν' μ' → LJ G 1039 (lLS i) [] SH ν' μ' k n) : LJ G 246 (lLS i) [] SH ν μ k n := by
  obtain ⟨hS, HM, f, s, hW, HX⟩ := hw
  refine LJ.aload_n (pc := 246) (i := 1) 2 hC d_law_246 rfl rfl ?_
  refine LJ.arg (pc := 247) (z := 1) (y := wv G i 1) 0 hC d_law_247 d_law_248 d_law_249 d_law_250 d_law_251 ⟨by decide, by decide⟩ rfl (by omega) hL rfl ?_
  refine LJ.arg (pc := 252) (z := 2) (y := wv G i 2) 0 hC d_law_252 d_law_253 d_law_254 d_law_255 d_law_256 ⟨by decide, by decide⟩ rfl (by omega) hL rfl ?_
  refine LJ.flag (pc := 257) 265 hC d_law_257 d_law_260 d_law_261 d_law_264 rfl rfl rfl ?_
  refine LJ.arg (pc := 265) (z := 3) (y := wv G i 3) 0 hC d_law_265 d_law_266 d_law_267 d_law_268 d_law_269 ⟨by decide, by decide⟩ rfl (by omega) hL rfl ?_
  refine LJ.callV (pc := 270) (vs := [vI (wv G i 1), vI (wb G i 2), vI (wv G i 3)]) (st := []) hC d_law_270 rfl okM_X9_split rfl lk_L_23 inst_X9_split sel_X9_split sh_9 rfl ⟨⟨Nat.le_of_ble_eq_true rfl, Nat.le_of_ble_eq_true rfl⟩, ⟨hk, hn⟩, Nat.le_of_ble_eq_true rfl⟩ (Nat.le_of_ble_eq_true rfl) (xo_split hW hS HX fun f s ν μ1 hW HX1 fr => ?_)
  have HM := MS_lift fr HM
  refine LJ.nrm (pc' := 273) (ls' := lLS i) (st' := [(vI (oSplit S (wv G i 1) (wb G i 2) (wv G i 3)).1)]) (k' := k) (n' := n) rfl rfl rfl rfl rfl ?_
  refine LJ.aload_n (pc := 273) (i := 2) 1 hC d_law_273 rfl rfl ?_
  refine LJ.arg (pc := 274) (z := 1) (y := wv G i 1) 0 hC d_law_274 d_law_275 d_law_276 d_law_277 d_law_278 ⟨by decide, by decide⟩ rfl (by omega) hL rfl ?_
  refine LJ.arg (pc := 279) (z := 2) (y := wv G i 2) 0 hC d_law_279 d_law_280 d_law_281 d_law_282 d_law_283 ⟨by decide, by decide⟩ rfl (by omega) hL rfl ?_
  refine LJ.flag (pc := 284) 292 hC d_law_284 d_law_287 d_law_288 d_law_291 rfl rfl rfl ?_
  refine LJ.arg (pc := 292) (z := 3) (y := wv G i 3) 0 hC d_law_292 d_law_293 d_law_294 d_law_295 d_law_296 ⟨by decide, by decide⟩ rfl (by omega) hL rfl ?_
  refine LJ.callV (pc := 297) (vs := [vI (wv G i 1), vI (wb G i 2), vI (wv G i 3)]) (st := [(vI (oSplit S (wv G i 1) (wb G i 2) (wv G i 3)).1)]) hC d_law_297 rfl okM_X10_split rfl lk_L_27 inst_X10_split sel_X10_split sh_10 rfl ⟨⟨Nat.le_of_ble_eq_true rfl, Nat.le_of_ble_eq_true rfl⟩, ⟨hk, hn⟩, Nat.le_of_ble_eq_true rfl⟩ (Nat.le_of_ble_eq_true rfl) (mo_split hW hS HM fun μ2 HM2 fr2 => ?_)
  refine LJ.nrm (pc' := 300) (ls' := lLS i) (st' := [(vI (oSplit S (wv G i 1) (wb G i 2) (wv G i 3)).1), (vI (oSplit S (wv G i 1) (wb G i 2) (wv G i 3)).1)]) (k' := k) (n' := n) rfl rfl rfl rfl rfl ?_
  refine LJ.same (pc := 300) 1039 hC d_law_300 (by decide) ?_
  exact K (oSplit S (wv G i 1) (wb G i 2) (wv G i 3)).2 ν μ2 ⟨(okS_split hS), HM2, _, _, hW, XS_lift fr2 (wf_f hW) (okS_split (S := S) hS).1.1 HX1⟩
theorem lo_repeat (hC : lC G) (hL : G.L ≤ 3072) (hi : 0 ≤ i ∧ i ≤ (G.L : Int) - 6) (hk : k ≤ 600000) (hn : n ≤ 7302250) (hw : Wd S ν μ) (K : ∀ S' ν' μ', Wd S' ν' μ' → LJ G 1039 (lLS i) [] SH ν' μ' k n) : LJ G 305 (lLS i) [] SH ν μ k n := by
  obtain ⟨hS, HM, f, s, hW, HX⟩ := hw
  refine LJ.aload_n (pc := 305) (i := 1) 2 hC d_law_305 rfl rfl ?_
  refine LJ.arg (pc := 306) (z := 1) (y := wv G i 1) 0 hC d_law_306 d_law_307 d_law_308 d_law_309 d_law_310 ⟨by decide, by decide⟩ rfl (by omega) hL rfl ?_
  refine LJ.arg (pc := 311) (z := 2) (y := wv G i 2) 0 hC d_law_311 d_law_312 d_law_313 d_law_314 d_law_315 ⟨by decide, by decide⟩ rfl (by omega) hL rfl ?_
  refine LJ.arg (pc := 316) (z := 3) (y := wv G i 3) 0 hC d_law_316 d_law_317 d_law_318 d_law_319 d_law_320 ⟨by decide, by decide⟩ rfl (by omega) hL rfl ?_
  refine LJ.arg (pc := 321) (z := 4) (y := wv G i 4) 0 hC d_law_321 d_law_322 d_law_323 d_law_324 d_law_325 ⟨by decide, by decide⟩ rfl (by omega) hL rfl ?_
  refine LJ.flag (pc := 326) 334 hC d_law_326 d_law_329 d_law_330 d_law_333 rfl rfl rfl ?_
  refine LJ.arg (pc := 334) (z := 5) (y := wv G i 5) 0 hC d_law_334 d_law_335 d_law_336 d_law_337 d_law_338 ⟨by decide, by decide⟩ rfl (by omega) hL rfl ?_
  refine LJ.callV (pc := 339) (vs := [vI (wv G i 1), vI (wv G i 2), vI (wv G i 3), vI (wb G i 4), vI (wv G i 5)]) (st := []) hC d_law_339 rfl okM_X9_repeat rfl lk_L_28 inst_X9_repeat sel_X9_repeat sh_9 rfl ⟨⟨Nat.le_of_ble_eq_true rfl, Nat.le_of_ble_eq_true rfl⟩, ⟨hk, hn⟩, Nat.le_of_ble_eq_true rfl⟩ (Nat.le_of_ble_eq_true rfl) (xo_repeat hW hS HX fun f s ν μ1 hW HX1 fr => ?_)
  have HM := MS_lift fr HM
  refine LJ.nrm (pc' := 342) (ls' := lLS i) (st' := [(vI (oRepeat S (wv G i 1) (wv G i 2) (wv G i 3) (wb G i 4) (wv G i 5)).1)]) (k' := k) (n' := n) rfl rfl rfl rfl rfl ?_
  refine LJ.aload_n (pc := 342) (i := 2) 1 hC d_law_342 rfl rfl ?_
  refine LJ.arg (pc := 343) (z := 1) (y := wv G i 1) 0 hC d_law_343 d_law_344 d_law_345 d_law_346 d_law_347 ⟨by decide, by decide⟩ rfl (by omega) hL rfl ?_
  refine LJ.arg (pc := 348) (z := 2) (y := wv G i 2) 0 hC d_law_348 d_law_349 d_law_350 d_law_351 d_law_352 ⟨by decide, by decide⟩ rfl (by omega) hL rfl ?_
  refine LJ.arg (pc := 353) (z := 3) (y := wv G i 3) 0 hC d_law_353 d_law_354 d_law_355 d_law_356 d_law_357 ⟨by decide, by decide⟩ rfl (by omega) hL rfl ?_
  refine LJ.arg (pc := 358) (z := 4) (y := wv G i 4) 0 hC d_law_358 d_law_359 d_law_360 d_law_361 d_law_362 ⟨by decide, by decide⟩ rfl (by omega) hL rfl ?_
  refine LJ.flag (pc := 363) 371 hC d_law_363 d_law_366 d_law_367 d_law_370 rfl rfl rfl ?_
  refine LJ.arg (pc := 371) (z := 5) (y := wv G i 5) 0 hC d_law_371 d_law_372 d_law_373 d_law_374 d_law_375 ⟨by decide, by decide⟩ rfl (by omega) hL rfl ?_
  refine LJ.callV (pc := 376) (vs := [vI (wv G i 1), vI (wv G i 2), vI (wv G i 3), vI (wb G i 4), vI (wv G i 5)]) (st := [(vI (oRepeat S (wv G i 1) (wv G i 2) (wv G i 3) (wb G i 4) (wv G i 5)).1)]) hC d_law_376 rfl okM_X10_repeat rfl lk_L_32 inst_X10_repeat sel_X10_repeat sh_10 rfl ⟨⟨Nat.le_of_ble_eq_true rfl, Nat.le_of_ble_eq_true rfl⟩, ⟨hk, hn⟩, Nat.le_of_ble_eq_true rfl⟩ (Nat.le_of_ble_eq_true rfl) (mo_repeat hW hS HM fun μ2 HM2 fr2 => ?_)
  refine LJ.nrm (pc' := 379) (ls' := lLS i) (st' := [(vI (oRepeat S (wv G i 1) (wv G i 2) (wv G i 3) (wb G i 4) (wv G i 5)).1), (vI (oRepeat S (wv G i 1) (wv G i 2) (wv G i 3) (wb G i 4) (wv G i 5)).1)]) (k' := k) (n' := n) rfl rfl rfl rfl rfl ?_
  refine LJ.same (pc := 379) 1039 hC d_law_379 (by decide) ?_
  exact K (oRepeat S (wv G i 1) (wv G i 2) (wv G i 3) (wb G i 4) (wv G i 5)).2 ν μ2 ⟨(okS_repeat hS), HM2, _, _, hW, XS_lift fr2 (wf_f hW) (okS_repeat (S := S) hS).1.1 HX1⟩
theorem lo_only (hC : lC G) (hL : G.L ≤ 3072) (hi : 0 ≤ i ∧ i ≤ (G.L : Int) - 6) (hk : k ≤ 600000) (hn : n ≤ 7302250) (hw : Wd S ν μ) (K : ∀ S' ν' μ', Wd S' ν' μ' → LJ G 1039 (lLS i) [] SH ν' μ' k n) : LJ G 384 (lLS i) [] SH ν μ k n := by
  obtain ⟨hS, HM, f, s, hW, HX⟩ := hw
  refine LJ.aload_n (pc := 384) (i := 1) 2 hC d_law_384 rfl rfl ?_
  refine LJ.arg (pc := 385) (z := 1) (y := wv G i 1) 0 hC d_law_385 d_law_386 d_law_387 d_law_388 d_law_389 ⟨by decide, by decide⟩ rfl (by omega) hL rfl ?_
  refine LJ.arg (pc := 390) (z := 2) (y := wv G i 2) 0 hC d_law_390 d_law_391 d_law_392 d_law_393 d_law_394 ⟨by decide, by decide⟩ rfl (by omega) hL rfl ?_
  refine LJ.flag (pc := 395) 403 hC d_law_395 d_law_398 d_law_399 d_law_402 rfl rfl rfl ?_
  refine LJ.arg (pc := 403) (z := 3) (y := wv G i 3) 0 hC d_law_403 d_law_404 d_law_405 d_law_406 d_law_407 ⟨by decide, by decide⟩ rfl (by omega) hL rfl ?_
  refine LJ.arg (pc := 408) (z := 4) (y := wv G i 4) 0 hC d_law_408 d_law_409 d_law_410 d_law_411 d_law_412 ⟨by decide, by decide⟩ rfl (by omega) hL rfl ?_
  refine LJ.callV (pc := 413) (vs := [vI (wv G i 1), vI (wb G i 2), vI (wv G i 3), vI (wv G i 4)]) (st := []) hC d_law_413 rfl okM_X9_only rfl lk_L_33 inst_X9_only sel_X9_only sh_9 rfl ⟨⟨Nat.le_of_ble_eq_true rfl, Nat.le_of_ble_eq_true rfl⟩, ⟨hk, hn⟩, Nat.le_of_ble_eq_true rfl⟩ (Nat.le_of_ble_eq_true rfl) (xo_only hW hS HX fun f s ν μ1 hW HX1 fr => ?_)
  have HM := MS_lift fr HM
  refine LJ.nrm (pc' := 416) (ls' := lLS i) (st' := [(vI (oOnly S (wv G i 1) (wb G i 2) (wv G i 3) (wv G i 4)).1)]) (k' := k) (n' := n) rfl rfl rfl rfl rfl ?_
  refine LJ.aload_n (pc := 416) (i := 2) 1 hC d_law_416 rfl rfl ?_
  refine LJ.arg (pc := 417) (z := 1) (y := wv G i 1) 0 hC d_law_417 d_law_418 d_law_419 d_law_420 d_law_421 ⟨by decide, by decide⟩ rfl (by omega) hL rfl ?_
  refine LJ.arg (pc := 422) (z := 2) (y := wv G i 2) 0 hC d_law_422 d_law_423 d_law_424 d_law_425 d_law_426 ⟨by decide, by decide⟩ rfl (by omega) hL rfl ?_
  refine LJ.flag (pc := 427) 435 hC d_law_427 d_law_430 d_law_431 d_law_434 rfl rfl rfl ?_
  refine LJ.arg (pc := 435) (z := 3) (y := wv G i 3) 0 hC d_law_435 d_law_436 d_law_437 d_law_438 d_law_439 ⟨by decide, by decide⟩ rfl (by omega) hL rfl ?_
  refine LJ.arg (pc := 440) (z := 4) (y := wv G i 4) 0 hC d_law_440 d_law_441 d_law_442 d_law_443 d_law_444 ⟨by decide, by decide⟩ rfl (by omega) hL rfl ?_
  refine LJ.callV (pc := 445) (vs := [vI (wv G i 1), vI (wb G i 2), vI (wv G i 3), vI (wv G i 4)]) (st := [(vI (oOnly S (wv G i 1) (wb G i 2) (wv G i 3) (wv G i 4)).1)]) hC d_law_445 rfl okM_X10_only rfl lk_L_37 inst_X10_only sel_X10_only sh_10 rfl ⟨⟨Nat.le_of_ble_eq_true rfl, Nat.le_of_ble_eq_true rfl⟩, ⟨hk, hn⟩, Nat.le_of_ble_eq_true rfl⟩ (Nat.le_of_ble_eq_true rfl) (mo_only hW hS HM fun μ2 HM2 fr2 => ?_)
  refine LJ.nrm (pc' := 448) (ls' := lLS i) (st' := [(vI (oOnly S (wv G i 1) (wb G i 2) (wv G i 3) (wv G i 4)).1), (vI (oOnly S (wv G i 1) (wb G i 2) (wv G i 3) (wv G i 4)).1)]) (k' := k) (n' := n) rfl rfl rfl rfl rfl ?_
  refine LJ.same (pc := 448) 1039 hC d_law_448 (by decide) ?_
  exact K (oOnly S (wv G i 1) (wb G i 2) (wv G i 3) (wv G i 4)).2 ν μ2 ⟨(okS_only hS), HM2, _, _, hW, XS_lift fr2 (wf_f hW) (okS_only (S := S) hS).1.1 HX1⟩
theorem lo_clear (hC : lC G) (hL : G.L ≤ 3072) (hi : 0 ≤ i ∧ i ≤ (G.L : Int) - 6) (hk : k ≤ 600000) (hn : n ≤ 7302250) (hw : Wd S ν μ) (K : ∀ S' ν' μ', Wd S' ν' μ' → LJ G 1039 (lLS i) [] SH ν' μ' k n) : LJ G 453 (lLS i) [] SH ν μ k n := by
  obtain ⟨hS, HM, f, s, hW, HX⟩ := hw
  refine LJ.aload_n (pc := 453) (i := 1) 2 hC d_law_453 rfl rfl ?_
  refine LJ.callV (pc := 454) (vs := []) (st := []) hC d_law_454 rfl okM_X9_clear rfl lk_L_38 inst_X9_clear sel_X9_clear sh_9 rfl ⟨⟨Nat.le_of_ble_eq_true rfl, Nat.le_of_ble_eq_true rfl⟩, ⟨hk, hn⟩, Nat.le_of_ble_eq_true rfl⟩ (Nat.le_of_ble_eq_true rfl) (xo_clear hW hS HX fun f s ν μ1 hW HX1 fr => ?_)
  have HM := MS_lift fr HM
  refine LJ.nrm (pc' := 457) (ls' := lLS i) (st' := [(vI (oClear S).1)]) (k' := k) (n' := n) rfl rfl rfl rfl rfl ?_
  refine LJ.aload_n (pc := 457) (i := 2) 1 hC d_law_457 rfl rfl ?_
  refine LJ.callV (pc := 458) (vs := []) (st := [(vI (oClear S).1)]) hC d_law_458 rfl okM_X10_clear rfl lk_L_42 inst_X10_clear sel_X10_clear sh_10 rfl ⟨⟨Nat.le_of_ble_eq_true rfl, Nat.le_of_ble_eq_true rfl⟩, ⟨hk, hn⟩, Nat.le_of_ble_eq_true rfl⟩ (Nat.le_of_ble_eq_true rfl) (mo_clear hW HM fun μ2 HM2 fr2 => ?_)
  refine LJ.nrm (pc' := 461) (ls' := lLS i) (st' := [(vI (oClear S).1), (vI (oClear S).1)]) (k' := k) (n' := n) rfl rfl rfl rfl rfl ?_
  refine LJ.same (pc := 461) 1039 hC d_law_461 (by decide) ?_
  exact K (oClear S).2 ν μ2 ⟨(okS_clear hS), HM2, _, _, hW, XS_lift fr2 (wf_f hW) (okS_clear (S := S) hS).1.1 HX1⟩
theorem lo_rule (hC : lC G) (hL : G.L ≤ 3072) (hi : 0 ≤ i ∧ i ≤ (G.L : Int) - 6) (hk : k ≤ 600000) (hn : n ≤ 7302250) (hw : Wd S ν μ) (K : ∀ S' ν' μ', Wd S' ν' μ' → LJ G 1039 (lLS i) [] SH ν' μ' k n) : LJ G 466 (lLS i) [] SH ν μ k n := by
  obtain ⟨hS, HM, f, s, hW, HX⟩ := hw
  refine LJ.aload_n (pc := 466) (i := 1) 2 hC d_law_466 rfl rfl ?_
  refine LJ.arg (pc := 467) (z := 1) (y := wv G i 1) 0 hC d_law_467 d_law_468 d_law_469 d_law_470 d_law_471 ⟨by decide, by decide⟩ rfl (by omega) hL rfl ?_
  refine LJ.arg (pc := 472) (z := 2) (y := wv G i 2) 0 hC d_law_472 d_law_473 d_law_474 d_law_475 d_law_476 ⟨by decide, by decide⟩ rfl (by omega) hL rfl ?_
  refine LJ.callV (pc := 477) (vs := [vI (wv G i 1), vI (wv G i 2)]) (st := []) hC d_law_477 rfl okM_X9_rule rfl lk_L_43 inst_X9_rule sel_X9_rule sh_9 rfl ⟨⟨Nat.le_of_ble_eq_true rfl, Nat.le_of_ble_eq_true rfl⟩, ⟨hk, hn⟩, Nat.le_of_ble_eq_true rfl⟩ (Nat.le_of_ble_eq_true rfl) (xo_rule hW hS HX fun f s ν μ1 hW HX1 fr => ?_)
  have HM := MS_lift fr HM
  refine LJ.nrm (pc' := 480) (ls' := lLS i) (st' := [(vI (ruleF (sN S) (sR S) (wv G i 1) (wv G i 2)))]) (k' := k) (n' := n) rfl rfl rfl rfl rfl ?_
  refine LJ.aload_n (pc := 480) (i := 2) 1 hC d_law_480 rfl rfl ?_
  refine LJ.arg (pc := 481) (z := 1) (y := wv G i 1) 0 hC d_law_481 d_law_482 d_law_483 d_law_484 d_law_485 ⟨by decide, by decide⟩ rfl (by omega) hL rfl ?_
  refine LJ.arg (pc := 486) (z := 2) (y := wv G i 2) 0 hC d_law_486 d_law_487 d_law_488 d_law_489 d_law_490 ⟨by decide, by decide⟩ rfl (by omega) hL rfl ?_
  refine LJ.callV (pc := 491) (vs := [vI (wv G i 1), vI (wv G i 2)]) (st := [(vI (ruleF (sN S) (sR S) (wv G i 1) (wv G i 2)))]) hC d_law_491 rfl okM_X10_rule rfl lk_L_47 inst_X10_rule sel_X10_rule sh_10 rfl ⟨⟨Nat.le_of_ble_eq_true rfl, Nat.le_of_ble_eq_true rfl⟩, ⟨hk, hn⟩, Nat.le_of_ble_eq_true rfl⟩ (Nat.le_of_ble_eq_true rfl) (mo_rule hW hS HM fun μ2 HM2 fr2 => ?_)
  refine LJ.nrm (pc' := 494) (ls' := lLS i) (st' := [(vI (ruleF (sN S) (sR S) (wv G i 1) (wv G i 2))), (vI (ruleF (sN S) (sR S) (wv G i 1) (wv G i 2)))]) (k' := k) (n' := n) rfl rfl rfl rfl rfl ?_
  refine LJ.same (pc := 494) 1039 hC d_law_494 (by decide) ?_
  exact K S ν μ2 ⟨hS, HM2, _, _, hW, XS_lift fr2 (wf_f hW) (hS).1.1 HX1⟩
theorem lo_holds (hC : lC G) (hL : G.L ≤ 3072) (hi : 0 ≤ i ∧ i ≤ (G.L : Int) - 6) (hk : k ≤ 600000) (hn : n ≤ 7302250) (hw : Wd S ν μ) (K : ∀ S' ν' μ', Wd S' ν' μ' → LJ G 1039 (lLS i) [] SH ν' μ' k n) : LJ G 499 (lLS i) [] SH ν μ k n := by
  obtain ⟨hS, HM, f, s, hW, HX⟩ := hw
  refine LJ.aload_n (pc := 499) (i := 1) 2 hC d_law_499 rfl rfl ?_
  refine LJ.arg (pc := 500) (z := 1) (y := wv G i 1) 0 hC d_law_500 d_law_501 d_law_502 d_law_503 d_law_504 ⟨by decide, by decide⟩ rfl (by omega) hL rfl ?_
  refine LJ.arg (pc := 505) (z := 2) (y := wv G i 2) 0 hC d_law_505 d_law_506 d_law_507 d_law_508 d_law_509 ⟨by decide, by decide⟩ rfl (by omega) hL rfl ?_
  refine LJ.arg (pc := 510) (z := 3) (y := wv G i 3) 0 hC d_law_510 d_law_511 d_law_512 d_law_513 d_law_514 ⟨by decide, by decide⟩ rfl (by omega) hL rfl ?_
  refine LJ.callV (pc := 515) (vs := [vI (wv G i 1), vI (wv G i 2), vI (wv G i 3)]) (st := []) hC d_law_515 rfl okM_X9_holds rfl lk_L_48 inst_X9_holds sel_X9_holds sh_9 rfl ⟨⟨Nat.le_of_ble_eq_true rfl, Nat.le_of_ble_eq_true rfl⟩, ⟨hk, hn⟩, Nat.le_of_ble_eq_true rfl⟩ (Nat.le_of_ble_eq_true rfl) (xo_holds hW hS HX fun f s ν μ1 hW HX1 fr => ?_)
  have HM := MS_lift fr HM
  refine LJ.nrm (pc' := 518) (ls' := lLS i) (st' := [(vI (ansHolds (sN S) (sR S) (wv G i 1) (wv G i 2) (wv G i 3)))]) (k' := k) (n' := n) rfl rfl rfl rfl rfl ?_
  refine LJ.aload_n (pc := 518) (i := 2) 1 hC d_law_518 rfl rfl ?_
  refine LJ.arg (pc := 519) (z := 1) (y := wv G i 1) 0 hC d_law_519 d_law_520 d_law_521 d_law_522 d_law_523 ⟨by decide, by decide⟩ rfl (by omega) hL rfl ?_
  refine LJ.arg (pc := 524) (z := 2) (y := wv G i 2) 0 hC d_law_524 d_law_525 d_law_526 d_law_527 d_law_528 ⟨by decide, by decide⟩ rfl (by omega) hL rfl ?_
  refine LJ.arg (pc := 529) (z := 3) (y := wv G i 3) 0 hC d_law_529 d_law_530 d_law_531 d_law_532 d_law_533 ⟨by decide, by decide⟩ rfl (by omega) hL rfl ?_
  refine LJ.callV (pc := 534) (vs := [vI (wv G i 1), vI (wv G i 2), vI (wv G i 3)]) (st := [(vI (ansHolds (sN S) (sR S) (wv G i 1) (wv G i 2) (wv G i 3)))]) hC d_law_534 rfl okM_X10_holds rfl lk_L_51 inst_X10_holds sel_X10_holds sh_10 rfl ⟨⟨Nat.le_of_ble_eq_true rfl, Nat.le_of_ble_eq_true rfl⟩, ⟨hk, hn⟩, Nat.le_of_ble_eq_true rfl⟩ (Nat.le_of_ble_eq_true rfl) (mo_holds hW hS HM fun μ2 HM2 fr2 => ?_)
  refine LJ.nrm (pc' := 537) (ls' := lLS i) (st' := [(vI (ansHolds (sN S) (sR S) (wv G i 1) (wv G i 2) (wv G i 3))), (vI (ansHolds (sN S) (sR S) (wv G i 1) (wv G i 2) (wv G i 3)))]) (k' := k) (n' := n) rfl rfl rfl rfl rfl ?_
  refine LJ.same (pc := 537) 1039 hC d_law_537 (by decide) ?_
  exact K S ν μ2 ⟨hS, HM2, _, _, hW, XS_lift fr2 (wf_f hW) (hS).1.1 HX1⟩
theorem lo_piece (hC : lC G) (hL : G.L ≤ 3072) (hi : 0 ≤ i ∧ i ≤ (G.L : Int) - 6) (hk : k ≤ 600000) (hn : n ≤ 7302250) (hw : Wd S ν μ) (K : ∀ S' ν' μ', Wd S' ν' μ' → LJ G 1039 (lLS i) [] SH ν' μ' k n) : LJ G 542 (lLS i) [] SH ν μ k n := by
  obtain ⟨hS, HM, f, s, hW, HX⟩ := hw
  refine LJ.aload_n (pc := 542) (i := 1) 2 hC d_law_542 rfl rfl ?_
  refine LJ.arg (pc := 543) (z := 1) (y := wv G i 1) 0 hC d_law_543 d_law_544 d_law_545 d_law_546 d_law_547 ⟨by decide, by decide⟩ rfl (by omega) hL rfl ?_
  refine LJ.arg (pc := 548) (z := 2) (y := wv G i 2) 0 hC d_law_548 d_law_549 d_law_550 d_law_551 d_law_552 ⟨by decide, by decide⟩ rfl (by omega) hL rfl ?_
  refine LJ.arg (pc := 553) (z := 3) (y := wv G i 3) 0 hC d_law_553 d_law_554 d_law_555 d_law_556 d_law_557 ⟨by decide, by decide⟩ rfl (by omega) hL rfl ?_
  refine LJ.arg (pc := 558) (z := 4) (y := wv G i 4) 0 hC d_law_558 d_law_559 d_law_560 d_law_561 d_law_562 ⟨by decide, by decide⟩ rfl (by omega) hL rfl ?_
  refine LJ.arg (pc := 563) (z := 5) (y := wv G i 5) 0 hC d_law_563 d_law_564 d_law_565 d_law_566 d_law_567 ⟨by decide, by decide⟩ rfl (by omega) hL rfl ?_
  refine LJ.flag (pc := 568) 576 hC d_law_568 d_law_571 d_law_572 d_law_575 rfl rfl rfl ?_
  refine LJ.callV (pc := 576) (vs := [vI (wv G i 1), vI (wv G i 2), vI (wv G i 3), vI (wv G i 4), vI (wb G i 5)]) (st := []) hC d_law_576 rfl okM_X9_piece rfl lk_L_52 inst_X9_piece sel_X9_piece sh_9 rfl ⟨⟨Nat.le_of_ble_eq_true rfl, Nat.le_of_ble_eq_true rfl⟩, ⟨hk, hn⟩, Nat.le_of_ble_eq_true rfl⟩ (Nat.le_of_ble_eq_true rfl) (xo_piece hW hS HX fun f s ν μ1 hW HX1 fr => ?_)
  have HM := MS_lift fr HM
  refine LJ.nrm (pc' := 579) (ls' := lLS i) (st' := [(vI (ansPiece (sN S) (sR S) (wv G i 1) (wv G i 2) (wv G i 3) (wv G i 4) (wb G i 5)))]) (k' := k) (n' := n) rfl rfl rfl rfl rfl ?_
  refine LJ.aload_n (pc := 579) (i := 2) 1 hC d_law_579 rfl rfl ?_
  refine LJ.arg (pc := 580) (z := 1) (y := wv G i 1) 0 hC d_law_580 d_law_581 d_law_582 d_law_583 d_law_584 ⟨by decide, by decide⟩ rfl (by omega) hL rfl ?_
  refine LJ.arg (pc := 585) (z := 2) (y := wv G i 2) 0 hC d_law_585 d_law_586 d_law_587 d_law_588 d_law_589 ⟨by decide, by decide⟩ rfl (by omega) hL rfl ?_
  refine LJ.arg (pc := 590) (z := 3) (y := wv G i 3) 0 hC d_law_590 d_law_591 d_law_592 d_law_593 d_law_594 ⟨by decide, by decide⟩ rfl (by omega) hL rfl ?_
  refine LJ.arg (pc := 595) (z := 4) (y := wv G i 4) 0 hC d_law_595 d_law_596 d_law_597 d_law_598 d_law_599 ⟨by decide, by decide⟩ rfl (by omega) hL rfl ?_
  refine LJ.arg (pc := 600) (z := 5) (y := wv G i 5) 0 hC d_law_600 d_law_601 d_law_602 d_law_603 d_law_604 ⟨by decide, by decide⟩ rfl (by omega) hL rfl ?_
  refine LJ.flag (pc := 605) 613 hC d_law_605 d_law_608 d_law_609 d_law_612 rfl rfl rfl ?_
  refine LJ.callV (pc := 613) (vs := [vI (wv G i 1), vI (wv G i 2), vI (wv G i 3), vI (wv G i 4), vI (wb G i 5)]) (st := [(vI (ansPiece (sN S) (sR S) (wv G i 1) (wv G i 2) (wv G i 3) (wv G i 4) (wb G i 5)))]) hC d_law_613 rfl okM_X10_piece rfl lk_L_56 inst_X10_piece sel_X10_piece sh_10 rfl ⟨⟨Nat.le_of_ble_eq_true rfl, Nat.le_of_ble_eq_true rfl⟩, ⟨hk, hn⟩, Nat.le_of_ble_eq_true rfl⟩ (Nat.le_of_ble_eq_true rfl) (mo_piece hW hS HM fun μ2 HM2 fr2 => ?_)
  refine LJ.nrm (pc' := 616) (ls' := lLS i) (st' := [(vI (ansPiece (sN S) (sR S) (wv G i 1) (wv G i 2) (wv G i 3) (wv G i 4) (wb G i 5))), (vI (ansPiece (sN S) (sR S) (wv G i 1) (wv G i 2) (wv G i 3) (wv G i 4) (wb G i 5)))]) (k' := k) (n' := n) rfl rfl rfl rfl rfl ?_
  refine LJ.same (pc := 616) 1039 hC d_law_616 (by decide) ?_
  exact K S ν μ2 ⟨hS, HM2, _, _, hW, XS_lift fr2 (wf_f hW) (hS).1.1 HX1⟩
theorem lo_draw (hC : lC G) (hL : G.L ≤ 3072) (hi : 0 ≤ i ∧ i ≤ (G.L : Int) - 6) (hk : k ≤ 600000) (hn : n ≤ 7302250) (hw : Wd S ν μ) (K : ∀ S' ν' μ', Wd S' ν' μ' → LJ G 1039 (lLS i) [] SH ν' μ' k n) : LJ G 621 (lLS i) [] SH ν μ k n := by
  obtain ⟨hS, HM, f, s, hW, HX⟩ := hw
  refine LJ.aload_n (pc := 621) (i := 1) 2 hC d_law_621 rfl rfl ?_
  refine LJ.arg (pc := 622) (z := 1) (y := wv G i 1) 0 hC d_law_622 d_law_623 d_law_624 d_law_625 d_law_626 ⟨by decide, by decide⟩ rfl (by omega) hL rfl ?_
  refine LJ.arg (pc := 627) (z := 2) (y := wv G i 2) 0 hC d_law_627 d_law_628 d_law_629 d_law_630 d_law_631 ⟨by decide, by decide⟩ rfl (by omega) hL rfl ?_
  refine LJ.arg (pc := 632) (z := 3) (y := wv G i 3) 0 hC d_law_632 d_law_633 d_law_634 d_law_635 d_law_636 ⟨by decide, by decide⟩ rfl (by omega) hL rfl ?_
  refine LJ.callV (pc := 637) (vs := [vI (wv G i 1), vI (wv G i 2), vI (wv G i 3)]) (st := []) hC d_law_637 rfl okM_X9_draw rfl lk_L_57 inst_X9_draw sel_X9_draw sh_9 rfl ⟨⟨Nat.le_of_ble_eq_true rfl, Nat.le_of_ble_eq_true rfl⟩, ⟨hk, hn⟩, Nat.le_of_ble_eq_true rfl⟩ (Nat.le_of_ble_eq_true rfl) (xo_draw hW hS HX fun f s ν μ1 hW HX1 fr => ?_)
  have HM := MS_lift fr HM
  refine LJ.nrm (pc' := 640) (ls' := lLS i) (st' := [(vI (oDraw S (wv G i 1) (wv G i 2) (wv G i 3)).1)]) (k' := k) (n' := n) rfl rfl rfl rfl rfl ?_
  refine LJ.aload_n (pc := 640) (i := 2) 1 hC d_law_640 rfl rfl ?_
  refine LJ.arg (pc := 641) (z := 1) (y := wv G i 1) 0 hC d_law_641 d_law_642 d_law_643 d_law_644 d_law_645 ⟨by decide, by decide⟩ rfl (by omega) hL rfl ?_
  refine LJ.arg (pc := 646) (z := 2) (y := wv G i 2) 0 hC d_law_646 d_law_647 d_law_648 d_law_649 d_law_650 ⟨by decide, by decide⟩ rfl (by omega) hL rfl ?_
  refine LJ.arg (pc := 651) (z := 3) (y := wv G i 3) 0 hC d_law_651 d_law_652 d_law_653 d_law_654 d_law_655 ⟨by decide, by decide⟩ rfl (by omega) hL rfl ?_
  refine LJ.callV (pc := 656) (vs := [vI (wv G i 1), vI (wv G i 2), vI (wv G i 3)]) (st := [(vI (oDraw S (wv G i 1) (wv G i 2) (wv G i 3)).1)]) hC d_law_656 rfl okM_X10_draw rfl lk_L_60 inst_X10_draw sel_X10_draw sh_10 rfl ⟨⟨Nat.le_of_ble_eq_true rfl, Nat.le_of_ble_eq_true rfl⟩, ⟨hk, hn⟩, Nat.le_of_ble_eq_true rfl⟩ (Nat.le_of_ble_eq_true rfl) (mo_draw hW hS HM fun μ2 HM2 fr2 => ?_)
  refine LJ.nrm (pc' := 659) (ls' := lLS i) (st' := [(vI (oDraw S (wv G i 1) (wv G i 2) (wv G i 3)).1), (vI (oDraw S (wv G i 1) (wv G i 2) (wv G i 3)).1)]) (k' := k) (n' := n) rfl rfl rfl rfl rfl ?_
  refine LJ.same (pc := 659) 1039 hC d_law_659 (by decide) ?_
  exact K (oDraw S (wv G i 1) (wv G i 2) (wv G i 3)).2 ν μ2 ⟨(okS_draw hS), HM2, _, _, hW, XS_lift fr2 (wf_f hW) (okS_draw (S := S) hS).1.1 HX1⟩
theorem lo_at (hC : lC G) (hL : G.L ≤ 3072) (hi : 0 ≤ i ∧ i ≤ (G.L : Int) - 6) (hk : k ≤ 600000) (hn : n ≤ 7302250) (hw : Wd S ν μ) (K : ∀ S' ν' μ', Wd S' ν' μ' → LJ G 1039 (lLS i) [] SH ν' μ' k n) : LJ G 664 (lLS i) [] SH ν μ k n := by
  obtain ⟨hS, HM, f, s, hW, HX⟩ := hw
  refine LJ.aload_n (pc := 664) (i := 1) 2 hC d_law_664 rfl rfl ?_
  refine LJ.arg (pc := 665) (z := 1) (y := wv G i 1) 0 hC d_law_665 d_law_666 d_law_667 d_law_668 d_law_669 ⟨by decide, by decide⟩ rfl (by omega) hL rfl ?_
  refine LJ.arg (pc := 670) (z := 2) (y := wv G i 2) 0 hC d_law_670 d_law_671 d_law_672 d_law_673 d_law_674 ⟨by decide, by decide⟩ rfl (by omega) hL rfl ?_
  refine LJ.callV (pc := 675) (vs := [vI (wv G i 1), vI (wv G i 2)]) (st := []) hC d_law_675 rfl okM_X9_at rfl lk_L_61 inst_X9_at sel_X9_at sh_9 rfl ⟨⟨Nat.le_of_ble_eq_true rfl, Nat.le_of_ble_eq_true rfl⟩, ⟨hk, hn⟩, Nat.le_of_ble_eq_true rfl⟩ (Nat.le_of_ble_eq_true rfl) (xo_at hW hS HX fun f s ν μ1 hW HX1 fr => ?_)
  have HM := MS_lift fr HM
  refine LJ.nrm (pc' := 678) (ls' := lLS i) (st' := [(vI (ansAt (sF S) (wv G i 1) (wv G i 2)))]) (k' := k) (n' := n) rfl rfl rfl rfl rfl ?_
  refine LJ.aload_n (pc := 678) (i := 2) 1 hC d_law_678 rfl rfl ?_
  refine LJ.arg (pc := 679) (z := 1) (y := wv G i 1) 0 hC d_law_679 d_law_680 d_law_681 d_law_682 d_law_683 ⟨by decide, by decide⟩ rfl (by omega) hL rfl ?_
  refine LJ.arg (pc := 684) (z := 2) (y := wv G i 2) 0 hC d_law_684 d_law_685 d_law_686 d_law_687 d_law_688 ⟨by decide, by decide⟩ rfl (by omega) hL rfl ?_
  refine LJ.callV (pc := 689) (vs := [vI (wv G i 1), vI (wv G i 2)]) (st := [(vI (ansAt (sF S) (wv G i 1) (wv G i 2)))]) hC d_law_689 rfl okM_X10_at rfl lk_L_64 inst_X10_at sel_X10_at sh_10 rfl ⟨⟨Nat.le_of_ble_eq_true rfl, Nat.le_of_ble_eq_true rfl⟩, ⟨hk, hn⟩, Nat.le_of_ble_eq_true rfl⟩ (Nat.le_of_ble_eq_true rfl) (mo_at hW hS HM fun μ2 HM2 fr2 => ?_)
  refine LJ.nrm (pc' := 692) (ls' := lLS i) (st' := [(vI (ansAt (sF S) (wv G i 1) (wv G i 2))), (vI (ansAt (sF S) (wv G i 1) (wv G i 2)))]) (k' := k) (n' := n) rfl rfl rfl rfl rfl ?_
  refine LJ.same (pc := 692) 1039 hC d_law_692 (by decide) ?_
  exact K S ν μ2 ⟨hS, HM2, _, _, hW, XS_lift fr2 (wf_f hW) (hS).1.1 HX1⟩
theorem lo_step (hC : lC G) (hL : G.L ≤ 3072) (hi : 0 ≤ i ∧ i ≤ (G.L : Int) - 6) (hk : k ≤ 600000) (hn : n ≤ 7302250) (hw : Wd S ν μ) (K : ∀ S' ν' μ', Wd S' ν' μ' → LJ G 1039 (lLS i) [] SH ν' μ' k n) : LJ G 697 (lLS i) [] SH ν μ k n := by
  obtain ⟨hS, HM, f, s, hW, HX⟩ := hw
  refine LJ.aload_n (pc := 697) (i := 1) 2 hC d_law_697 rfl rfl ?_
  refine LJ.arg (pc := 698) (z := 1) (y := wv G i 1) 0 hC d_law_698 d_law_699 d_law_700 d_law_701 d_law_702 ⟨by decide, by decide⟩ rfl (by omega) hL rfl ?_
  refine LJ.callV (pc := 703) (vs := [vI (wv G i 1)]) (st := []) hC d_law_703 rfl okM_X9_step rfl lk_L_65 inst_X9_step sel_X9_step sh_9 rfl ⟨⟨Nat.le_of_ble_eq_true rfl, Nat.le_of_ble_eq_true rfl⟩, ⟨hk, hn⟩, Nat.le_of_ble_eq_true rfl⟩ (Nat.le_of_ble_eq_true rfl) (xo_step hW hS HX fun f s ν μ1 hW HX1 fr => ?_)
  have HM := MS_lift fr HM
  refine LJ.nrm (pc' := 706) (ls' := lLS i) (st' := [(vI (ansStep (sF S) (wv G i 1)))]) (k' := k) (n' := n) rfl rfl rfl rfl rfl ?_
  refine LJ.aload_n (pc := 706) (i := 2) 1 hC d_law_706 rfl rfl ?_
  refine LJ.arg (pc := 707) (z := 1) (y := wv G i 1) 0 hC d_law_707 d_law_708 d_law_709 d_law_710 d_law_711 ⟨by decide, by decide⟩ rfl (by omega) hL rfl ?_
  refine LJ.callV (pc := 712) (vs := [vI (wv G i 1)]) (st := [(vI (ansStep (sF S) (wv G i 1)))]) hC d_law_712 rfl okM_X10_step rfl lk_L_69 inst_X10_step sel_X10_step sh_10 rfl ⟨⟨Nat.le_of_ble_eq_true rfl, Nat.le_of_ble_eq_true rfl⟩, ⟨hk, hn⟩, Nat.le_of_ble_eq_true rfl⟩ (Nat.le_of_ble_eq_true rfl) (mo_step hW hS HM fun μ2 HM2 fr2 => ?_)
  refine LJ.nrm (pc' := 715) (ls' := lLS i) (st' := [(vI (ansStep (sF S) (wv G i 1))), (vI (ansStep (sF S) (wv G i 1)))]) (k' := k) (n' := n) rfl rfl rfl rfl rfl ?_
  refine LJ.same (pc := 715) 1039 hC d_law_715 (by decide) ?_
  exact K S ν μ2 ⟨hS, HM2, _, _, hW, XS_lift fr2 (wf_f hW) (hS).1.1 HX1⟩
end LO
