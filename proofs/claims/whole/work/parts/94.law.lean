/-! the law: the calls, one by one -/
section CAS
variable {L : Nat} {xs : Nat → Int32} {V g : AMem} {i : Int}
theorem lc_0 (h : Inv L xs V g) (hi : 0 ≤ i) (hL : i + 4 ≤ L) (hl : L ≤ 2048) : ∃ V' g', RF 224 160 [vR 1, vR 2, vR 137, vI i] [] (SH L) g = RF 224 18 [vR 1, vR 2, vR 137, vI (i + 4)] [] (SH L) g' ∧ Inv L xs V' g' := by
  obtain ⟨t, hC⟩ := h.2.1
  have hX : CO (oAnew V) (jX_anew L g) g := cX_anew hC
  obtain ⟨g1, g2, e1, hh, e2, hI⟩ := inv_step (q2 := fun g1 => jM_anew L g1) h hX (oAnew_V h.1) (fun g1 hR => RO_w (cM_anew hR))
  unfold jX_anew at e1
  unfold jM_anew at e2
  refine ⟨_, g2, ?_, hI⟩
  rw [RF_row (pc' := 161) (ls' := [vR 1, vR 2, vR 137, vI i]) (st' := [vR 2]) (sh' := SH L) (g' := g) k224_160 rfl rfl]
  rw [u_callI (ls0 := [vR 2, vU]) (rest := []) (pc' := 164) (v := (oAnew V).1) (g' := g1) k224_161 rfl (hy4 rfl rfl rfl rfl) rfl rfl hq_91 rfl e1]
  rw [RF_row (pc' := 165) (ls' := [vR 1, vR 2, vR 137, vI i]) (st' := [vR 137, vI (oAnew V).1]) (sh' := SH L) (g' := g1) k224_164 rfl rfl]
  rw [u_callI (ls0 := [vR 137, vU]) (rest := [vI (oAnew V).1]) (pc' := 168) (v := (oAnew V).1) (g' := g2) k224_165 rfl (hy4 rfl rfl rfl rfl) rfl rfl hq_148 rfl e2]
  exact w_endI k224_168 rfl hi (by omega)
theorem lc_1 (h : Inv L xs V g) (hi : 0 ≤ i) (hL : i + 4 ≤ L) (hl : L ≤ 2048) : ∃ V' g', RF 224 173 [vR 1, vR 2, vR 137, vI i] [] (SH L) g = RF 224 18 [vR 1, vR 2, vR 137, vI (i + 4)] [] (SH L) g' ∧ Inv L xs V' g' := by
  obtain ⟨t, hC⟩ := h.2.1
  have hX : CO (oBlock V) (jX_block L g) g := cX_block h.1 hC
  obtain ⟨g1, g2, e1, hh, e2, hI⟩ := inv_step (q2 := fun g1 => jM_block L g1) h hX (oBlock_V h.1) (fun g1 hR => RO_w (cM_block h.1 hR))
  unfold jX_block at e1
  unfold jM_block at e2
  refine ⟨_, g2, ?_, hI⟩
  rw [RF_row (pc' := 174) (ls' := [vR 1, vR 2, vR 137, vI i]) (st' := [vR 2]) (sh' := SH L) (g' := g) k224_173 rfl rfl]
  rw [u_callI (ls0 := [vR 2]) (rest := []) (pc' := 177) (v := (oBlock V).1) (g' := g1) k224_174 rfl (hy4 rfl rfl rfl rfl) rfl rfl hq_93 rfl e1]
  rw [RF_row (pc' := 178) (ls' := [vR 1, vR 2, vR 137, vI i]) (st' := [vR 137, vI (oBlock V).1]) (sh' := SH L) (g' := g1) k224_177 rfl rfl]
  rw [u_callI (ls0 := [vR 137]) (rest := [vI (oBlock V).1]) (pc' := 181) (v := (oBlock V).1) (g' := g2) k224_178 rfl (hy4 rfl rfl rfl rfl) rfl rfl hq_150 rfl e2]
  exact w_endI k224_181 rfl hi (by omega)
theorem lc_2 (h : Inv L xs V g) (hi : 0 ≤ i) (hL : i + 4 ≤ L) (hl : L ≤ 2048) : ∃ V' g', RF 224 186 [vR 1, vR 2, vR 137, vI i] [] (SH L) g = RF 224 18 [vR 1, vR 2, vR 137, vI (i + 4)] [] (SH L) g' ∧ Inv L xs V' g' := by
  obtain ⟨t, hC⟩ := h.2.1
  have hX : CO (oParameter V (g 1 (i + 1)) (g 1 (i + 2))) (jX_parameter L (g 1 (i + 1)) (g 1 (i + 2)) g) g := cX_parameter h.1 hC (cno_x h (show 0 ≤ i + 2 by omega) (show i + 2 < L by omega))
  obtain ⟨g1, g2, e1, hh, e2, hI⟩ := inv_step (q2 := fun g1 => jM_parameter L (g 1 (i + 1)) (g 1 (i + 2)) g1) h hX (oParameter_V h.1) (fun g1 hR => RO_w (cM_parameter h.1 hR (cno_x h (show 0 ≤ i + 2 by omega) (show i + 2 < L by omega))))
  unfold jX_parameter at e1
  unfold jM_parameter at e2
  refine ⟨_, g2, ?_, hI⟩
  rw [RF_row (pc' := 187) (ls' := [vR 1, vR 2, vR 137, vI i]) (st' := [vR 2]) (sh' := SH L) (g' := g) k224_186 rfl rfl]
  rw [w_arg (g := g) (i := i) (v := g 1 (i + 1)) (k := 1) (pc' := 192) k224_187 k224_188 k224_189 k224_190 k224_191 hi (by omega) (by omega) hl rfl rfl]
  rw [w_arg (g := g) (i := i) (v := g 1 (i + 2)) (k := 2) (pc' := 197) k224_192 k224_193 k224_194 k224_195 k224_196 hi (by omega) (by omega) hl rfl rfl]
  rw [u_callI (ls0 := [vR 2, vI (g 1 (i + 1)), vI (g 1 (i + 2))]) (rest := []) (pc' := 200) (v := (oParameter V (g 1 (i + 1)) (g 1 (i + 2))).1) (g' := g1) k224_197 rfl (hy4 rfl rfl rfl rfl) rfl rfl hq_94 rfl e1]
  rw [RF_row (pc' := 201) (ls' := [vR 1, vR 2, vR 137, vI i]) (st' := [vR 137, vI (oParameter V (g 1 (i + 1)) (g 1 (i + 2))).1]) (sh' := SH L) (g' := g1) k224_200 rfl rfl]
  rw [w_arg (g := g1) (i := i) (v := g 1 (i + 1)) (k := 1) (pc' := 206) k224_201 k224_202 k224_203 k224_204 k224_205 hi (by omega) (by omega) hl (hh _) rfl]
  rw [w_arg (g := g1) (i := i) (v := g 1 (i + 2)) (k := 2) (pc' := 211) k224_206 k224_207 k224_208 k224_209 k224_210 hi (by omega) (by omega) hl (hh _) rfl]
  rw [u_callI (ls0 := [vR 137, vI (g 1 (i + 1)), vI (g 1 (i + 2))]) (rest := [vI (oParameter V (g 1 (i + 1)) (g 1 (i + 2))).1]) (pc' := 214) (v := (oParameter V (g 1 (i + 1)) (g 1 (i + 2))).1) (g' := g2) k224_211 rfl (hy4 rfl rfl rfl rfl) rfl rfl hq_153 rfl e2]
  exact w_endI k224_214 rfl hi (by omega)
theorem lc_3 (h : Inv L xs V g) (hi : 0 ≤ i) (hL : i + 4 ≤ L) (hl : L ≤ 2048) : ∃ V' g', RF 224 219 [vR 1, vR 2, vR 137, vI i] [] (SH L) g = RF 224 18 [vR 1, vR 2, vR 137, vI (i + 4)] [] (SH L) g' ∧ Inv L xs V' g' := by
  obtain ⟨t, hC⟩ := h.2.1
  have hX : CO (oEdge V (g 1 (i + 1)) (g 1 (i + 2)) (g 1 (i + 3))) (jX_edge L (g 1 (i + 1)) (g 1 (i + 2)) (g 1 (i + 3)) g) g := cX_edge h.1 hC
  obtain ⟨g1, g2, e1, hh, e2, hI⟩ := inv_step (q2 := fun g1 => jM_edge L (g 1 (i + 1)) (g 1 (i + 2)) (g 1 (i + 3)) g1) h hX (oEdge_V h.1) (fun g1 hR => RO_w (cM_edge h.1 hR))
  unfold jX_edge at e1
  unfold jM_edge at e2
  refine ⟨_, g2, ?_, hI⟩
  rw [RF_row (pc' := 220) (ls' := [vR 1, vR 2, vR 137, vI i]) (st' := [vR 2]) (sh' := SH L) (g' := g) k224_219 rfl rfl]
  rw [w_arg (g := g) (i := i) (v := g 1 (i + 1)) (k := 1) (pc' := 225) k224_220 k224_221 k224_222 k224_223 k224_224 hi (by omega) (by omega) hl rfl rfl]
  rw [w_arg (g := g) (i := i) (v := g 1 (i + 2)) (k := 2) (pc' := 230) k224_225 k224_226 k224_227 k224_228 k224_229 hi (by omega) (by omega) hl rfl rfl]
  rw [w_arg (g := g) (i := i) (v := g 1 (i + 3)) (k := 3) (pc' := 235) k224_230 k224_231 k224_232 k224_233 k224_234 hi (by omega) (by omega) hl rfl rfl]
  rw [u_callI (ls0 := [vR 2, vI (g 1 (i + 1)), vI (g 1 (i + 2)), vI (g 1 (i + 3))]) (rest := []) (pc' := 238) (v := (oEdge V (g 1 (i + 1)) (g 1 (i + 2)) (g 1 (i + 3))).1) (g' := g1) k224_235 rfl (hy4 rfl rfl rfl rfl) rfl rfl hq_95 rfl e1]
  rw [RF_row (pc' := 239) (ls' := [vR 1, vR 2, vR 137, vI i]) (st' := [vR 137, vI (oEdge V (g 1 (i + 1)) (g 1 (i + 2)) (g 1 (i + 3))).1]) (sh' := SH L) (g' := g1) k224_238 rfl rfl]
  rw [w_arg (g := g1) (i := i) (v := g 1 (i + 1)) (k := 1) (pc' := 244) k224_239 k224_240 k224_241 k224_242 k224_243 hi (by omega) (by omega) hl (hh _) rfl]
  rw [w_arg (g := g1) (i := i) (v := g 1 (i + 2)) (k := 2) (pc' := 249) k224_244 k224_245 k224_246 k224_247 k224_248 hi (by omega) (by omega) hl (hh _) rfl]
  rw [w_arg (g := g1) (i := i) (v := g 1 (i + 3)) (k := 3) (pc' := 254) k224_249 k224_250 k224_251 k224_252 k224_253 hi (by omega) (by omega) hl (hh _) rfl]
  rw [u_callI (ls0 := [vR 137, vI (g 1 (i + 1)), vI (g 1 (i + 2)), vI (g 1 (i + 3))]) (rest := [vI (oEdge V (g 1 (i + 1)) (g 1 (i + 2)) (g 1 (i + 3))).1]) (pc' := 257) (v := (oEdge V (g 1 (i + 1)) (g 1 (i + 2)) (g 1 (i + 3))).1) (g' := g2) k224_254 rfl (hy4 rfl rfl rfl rfl) rfl rfl hq_155 rfl e2]
  exact w_endI k224_257 rfl hi (by omega)
theorem lc_4 (h : Inv L xs V g) (hi : 0 ≤ i) (hL : i + 4 ≤ L) (hl : L ≤ 2048) : ∃ V' g', RF 224 262 [vR 1, vR 2, vR 137, vI i] [] (SH L) g = RF 224 18 [vR 1, vR 2, vR 137, vI (i + 4)] [] (SH L) g' ∧ Inv L xs V' g' := by
  obtain ⟨t, hC⟩ := h.2.1
  have hX : CO (oArgument V (g 1 (i + 1)) (g 1 (i + 2)) (g 1 (i + 3))) (jX_argument L (g 1 (i + 1)) (g 1 (i + 2)) (g 1 (i + 3)) g) g := cX_argument h.1 hC (cno_x h (show 0 ≤ i + 3 by omega) (show i + 3 < L by omega))
  obtain ⟨g1, g2, e1, hh, e2, hI⟩ := inv_step (q2 := fun g1 => jM_argument L (g 1 (i + 1)) (g 1 (i + 2)) (g 1 (i + 3)) g1) h hX (oArgument_V h.1) (fun g1 hR => RO_w (cM_argument h.1 hR (cno_x h (show 0 ≤ i + 3 by omega) (show i + 3 < L by omega))))
  unfold jX_argument at e1
  unfold jM_argument at e2
  refine ⟨_, g2, ?_, hI⟩
  rw [RF_row (pc' := 263) (ls' := [vR 1, vR 2, vR 137, vI i]) (st' := [vR 2]) (sh' := SH L) (g' := g) k224_262 rfl rfl]
  rw [w_arg (g := g) (i := i) (v := g 1 (i + 1)) (k := 1) (pc' := 268) k224_263 k224_264 k224_265 k224_266 k224_267 hi (by omega) (by omega) hl rfl rfl]
  rw [w_arg (g := g) (i := i) (v := g 1 (i + 2)) (k := 2) (pc' := 273) k224_268 k224_269 k224_270 k224_271 k224_272 hi (by omega) (by omega) hl rfl rfl]
  rw [w_arg (g := g) (i := i) (v := g 1 (i + 3)) (k := 3) (pc' := 278) k224_273 k224_274 k224_275 k224_276 k224_277 hi (by omega) (by omega) hl rfl rfl]
  rw [u_callI (ls0 := [vR 2, vI (g 1 (i + 1)), vI (g 1 (i + 2)), vI (g 1 (i + 3)), vU]) (rest := []) (pc' := 281) (v := (oArgument V (g 1 (i + 1)) (g 1 (i + 2)) (g 1 (i + 3))).1) (g' := g1) k224_278 rfl (hy4 rfl rfl rfl rfl) rfl rfl hq_96 rfl e1]
  rw [RF_row (pc' := 282) (ls' := [vR 1, vR 2, vR 137, vI i]) (st' := [vR 137, vI (oArgument V (g 1 (i + 1)) (g 1 (i + 2)) (g 1 (i + 3))).1]) (sh' := SH L) (g' := g1) k224_281 rfl rfl]
  rw [w_arg (g := g1) (i := i) (v := g 1 (i + 1)) (k := 1) (pc' := 287) k224_282 k224_283 k224_284 k224_285 k224_286 hi (by omega) (by omega) hl (hh _) rfl]
  rw [w_arg (g := g1) (i := i) (v := g 1 (i + 2)) (k := 2) (pc' := 292) k224_287 k224_288 k224_289 k224_290 k224_291 hi (by omega) (by omega) hl (hh _) rfl]
  rw [w_arg (g := g1) (i := i) (v := g 1 (i + 3)) (k := 3) (pc' := 297) k224_292 k224_293 k224_294 k224_295 k224_296 hi (by omega) (by omega) hl (hh _) rfl]
  rw [u_callI (ls0 := [vR 137, vI (g 1 (i + 1)), vI (g 1 (i + 2)), vI (g 1 (i + 3)), vU]) (rest := [vI (oArgument V (g 1 (i + 1)) (g 1 (i + 2)) (g 1 (i + 3))).1]) (pc' := 300) (v := (oArgument V (g 1 (i + 1)) (g 1 (i + 2)) (g 1 (i + 3))).1) (g' := g2) k224_297 rfl (hy4 rfl rfl rfl rfl) rfl rfl hq_157 rfl e2]
  exact w_endI k224_300 rfl hi (by omega)
theorem lc_5 (h : Inv L xs V g) (hi : 0 ≤ i) (hL : i + 4 ≤ L) (hl : L ≤ 2048) : ∃ V' g', RF 224 305 [vR 1, vR 2, vR 137, vI i] [] (SH L) g = RF 224 18 [vR 1, vR 2, vR 137, vI (i + 4)] [] (SH L) g' ∧ Inv L xs V' g' := by
  obtain ⟨t, hC⟩ := h.2.1
  have hX : CO (oWeight V (g 1 (i + 1)) (g 1 (i + 2))) (jX_weight L (g 1 (i + 1)) (g 1 (i + 2)) g) g := cX_weight h.1 hC
  obtain ⟨g1, g2, e1, hh, e2, hI⟩ := inv_step (q2 := fun g1 => jM_weight L (g 1 (i + 1)) (g 1 (i + 2)) g1) h hX (oWeight_V h.1) (fun g1 hR => RO_w (cM_weight h.1 hR))
  unfold jX_weight at e1
  unfold jM_weight at e2
  refine ⟨_, g2, ?_, hI⟩
  rw [RF_row (pc' := 306) (ls' := [vR 1, vR 2, vR 137, vI i]) (st' := [vR 2]) (sh' := SH L) (g' := g) k224_305 rfl rfl]
  rw [w_arg (g := g) (i := i) (v := g 1 (i + 1)) (k := 1) (pc' := 311) k224_306 k224_307 k224_308 k224_309 k224_310 hi (by omega) (by omega) hl rfl rfl]
  rw [w_arg (g := g) (i := i) (v := g 1 (i + 2)) (k := 2) (pc' := 316) k224_311 k224_312 k224_313 k224_314 k224_315 hi (by omega) (by omega) hl rfl rfl]
  rw [u_callI (ls0 := [vR 2, vI (g 1 (i + 1)), vI (g 1 (i + 2)), vU]) (rest := []) (pc' := 319) (v := (oWeight V (g 1 (i + 1)) (g 1 (i + 2))).1) (g' := g1) k224_316 rfl (hy4 rfl rfl rfl rfl) rfl rfl hq_97 rfl e1]
  rw [RF_row (pc' := 320) (ls' := [vR 1, vR 2, vR 137, vI i]) (st' := [vR 137, vI (oWeight V (g 1 (i + 1)) (g 1 (i + 2))).1]) (sh' := SH L) (g' := g1) k224_319 rfl rfl]
  rw [w_arg (g := g1) (i := i) (v := g 1 (i + 1)) (k := 1) (pc' := 325) k224_320 k224_321 k224_322 k224_323 k224_324 hi (by omega) (by omega) hl (hh _) rfl]
  rw [w_arg (g := g1) (i := i) (v := g 1 (i + 2)) (k := 2) (pc' := 330) k224_325 k224_326 k224_327 k224_328 k224_329 hi (by omega) (by omega) hl (hh _) rfl]
  rw [u_callI (ls0 := [vR 137, vI (g 1 (i + 1)), vI (g 1 (i + 2)), vU]) (rest := [vI (oWeight V (g 1 (i + 1)) (g 1 (i + 2))).1]) (pc' := 333) (v := (oWeight V (g 1 (i + 1)) (g 1 (i + 2))).1) (g' := g2) k224_330 rfl (hy4 rfl rfl rfl rfl) rfl rfl hq_158 rfl e2]
  exact w_endI k224_333 rfl hi (by omega)
theorem lc_6 (h : Inv L xs V g) (hi : 0 ≤ i) (hL : i + 4 ≤ L) (hl : L ≤ 2048) : ∃ V' g', RF 224 338 [vR 1, vR 2, vR 137, vI i] [] (SH L) g = RF 224 18 [vR 1, vR 2, vR 137, vI (i + 4)] [] (SH L) g' ∧ Inv L xs V' g' := by
  obtain ⟨t, hC⟩ := h.2.1
  have hX : CO (oMachine V (g 1 (i + 1))) (jX_machine L (g 1 (i + 1)) g) g := cX_machine h.1 hC
  obtain ⟨g1, g2, e1, hh, e2, hI⟩ := inv_step (q2 := fun g1 => jM_machine L (g 1 (i + 1)) g1) h hX (oMachine_V h.1) (fun g1 hR => RO_w (cM_machine h.1 hR))
  unfold jX_machine at e1
  unfold jM_machine at e2
  refine ⟨_, g2, ?_, hI⟩
  rw [RF_row (pc' := 339) (ls' := [vR 1, vR 2, vR 137, vI i]) (st' := [vR 2]) (sh' := SH L) (g' := g) k224_338 rfl rfl]
  rw [w_arg (g := g) (i := i) (v := g 1 (i + 1)) (k := 1) (pc' := 344) k224_339 k224_340 k224_341 k224_342 k224_343 hi (by omega) (by omega) hl rfl rfl]
  rw [u_callI (ls0 := [vR 2, vI (g 1 (i + 1)), vU]) (rest := []) (pc' := 347) (v := (oMachine V (g 1 (i + 1))).1) (g' := g1) k224_344 rfl (hy4 rfl rfl rfl rfl) rfl rfl hq_98 rfl e1]
  rw [RF_row (pc' := 348) (ls' := [vR 1, vR 2, vR 137, vI i]) (st' := [vR 137, vI (oMachine V (g 1 (i + 1))).1]) (sh' := SH L) (g' := g1) k224_347 rfl rfl]
  rw [w_arg (g := g1) (i := i) (v := g 1 (i + 1)) (k := 1) (pc' := 353) k224_348 k224_349 k224_350 k224_351 k224_352 hi (by omega) (by omega) hl (hh _) rfl]
  rw [u_callI (ls0 := [vR 137, vI (g 1 (i + 1)), vU]) (rest := [vI (oMachine V (g 1 (i + 1))).1]) (pc' := 356) (v := (oMachine V (g 1 (i + 1))).1) (g' := g2) k224_353 rfl (hy4 rfl rfl rfl rfl) rfl rfl hq_159 rfl e2]
  exact w_endI k224_356 rfl hi (by omega)
theorem lc_7 (h : Inv L xs V g) (hi : 0 ≤ i) (hL : i + 4 ≤ L) (hl : L ≤ 2048) : ∃ V' g', RF 224 361 [vR 1, vR 2, vR 137, vI i] [] (SH L) g = RF 224 18 [vR 1, vR 2, vR 137, vI (i + 4)] [] (SH L) g' ∧ Inv L xs V' g' := by
  obtain ⟨t, hC⟩ := h.2.1
  have hX : CO (oOf V (g 1 (i + 1)) (g 1 (i + 2))) (jX_of L (g 1 (i + 1)) (g 1 (i + 2)) g) g := cX_of h.1 hC
  obtain ⟨g1, g2, e1, hh, e2, hI⟩ := inv_step (q2 := fun g1 => jM_of L (g 1 (i + 1)) (g 1 (i + 2)) g1) h hX (oOf_V h.1) (fun g1 hR => RO_w (cM_of h.1 hR))
  unfold jX_of at e1
  unfold jM_of at e2
  refine ⟨_, g2, ?_, hI⟩
  rw [RF_row (pc' := 362) (ls' := [vR 1, vR 2, vR 137, vI i]) (st' := [vR 2]) (sh' := SH L) (g' := g) k224_361 rfl rfl]
  rw [w_arg (g := g) (i := i) (v := g 1 (i + 1)) (k := 1) (pc' := 367) k224_362 k224_363 k224_364 k224_365 k224_366 hi (by omega) (by omega) hl rfl rfl]
  rw [w_arg (g := g) (i := i) (v := g 1 (i + 2)) (k := 2) (pc' := 372) k224_367 k224_368 k224_369 k224_370 k224_371 hi (by omega) (by omega) hl rfl rfl]
  rw [u_callI (ls0 := [vR 2, vI (g 1 (i + 1)), vI (g 1 (i + 2))]) (rest := []) (pc' := 375) (v := (oOf V (g 1 (i + 1)) (g 1 (i + 2))).1) (g' := g1) k224_372 rfl (hy4 rfl rfl rfl rfl) rfl rfl hq_100 rfl e1]
  rw [RF_row (pc' := 376) (ls' := [vR 1, vR 2, vR 137, vI i]) (st' := [vR 137, vI (oOf V (g 1 (i + 1)) (g 1 (i + 2))).1]) (sh' := SH L) (g' := g1) k224_375 rfl rfl]
  rw [w_arg (g := g1) (i := i) (v := g 1 (i + 1)) (k := 1) (pc' := 381) k224_376 k224_377 k224_378 k224_379 k224_380 hi (by omega) (by omega) hl (hh _) rfl]
  rw [w_arg (g := g1) (i := i) (v := g 1 (i + 2)) (k := 2) (pc' := 386) k224_381 k224_382 k224_383 k224_384 k224_385 hi (by omega) (by omega) hl (hh _) rfl]
  rw [u_callI (ls0 := [vR 137, vI (g 1 (i + 1)), vI (g 1 (i + 2))]) (rest := [vI (oOf V (g 1 (i + 1)) (g 1 (i + 2))).1]) (pc' := 389) (v := (oOf V (g 1 (i + 1)) (g 1 (i + 2))).1) (g' := g2) k224_386 rfl (hy4 rfl rfl rfl rfl) rfl rfl hq_166 rfl e2]
  exact w_endI k224_389 rfl hi (by omega)
theorem lc_8 (h : Inv L xs V g) (hi : 0 ≤ i) (hL : i + 4 ≤ L) (hl : L ≤ 2048) : ∃ V' g', RF 224 394 [vR 1, vR 2, vR 137, vI i] [] (SH L) g = RF 224 18 [vR 1, vR 2, vR 137, vI (i + 4)] [] (SH L) g' ∧ Inv L xs V' g' := by
  obtain ⟨t, hC⟩ := h.2.1
  have hX : CO (oAbout V (g 1 (i + 1)) (g 1 (i + 2))) (jX_about L (g 1 (i + 1)) (g 1 (i + 2)) g) g := cX_about h.1 hC
  obtain ⟨g1, g2, e1, hh, e2, hI⟩ := inv_step (q2 := fun g1 => jM_about L (g 1 (i + 1)) (g 1 (i + 2)) g1) h hX (oAbout_V h.1) (fun g1 hR => RO_w (cM_about h.1 hR))
  unfold jX_about at e1
  unfold jM_about at e2
  refine ⟨_, g2, ?_, hI⟩
  rw [RF_row (pc' := 395) (ls' := [vR 1, vR 2, vR 137, vI i]) (st' := [vR 2]) (sh' := SH L) (g' := g) k224_394 rfl rfl]
  rw [w_arg (g := g) (i := i) (v := g 1 (i + 1)) (k := 1) (pc' := 400) k224_395 k224_396 k224_397 k224_398 k224_399 hi (by omega) (by omega) hl rfl rfl]
  rw [w_arg (g := g) (i := i) (v := g 1 (i + 2)) (k := 2) (pc' := 405) k224_400 k224_401 k224_402 k224_403 k224_404 hi (by omega) (by omega) hl rfl rfl]
  rw [u_callI (ls0 := [vR 2, vI (g 1 (i + 1)), vI (g 1 (i + 2))]) (rest := []) (pc' := 408) (v := (oAbout V (g 1 (i + 1)) (g 1 (i + 2))).1) (g' := g1) k224_405 rfl (hy4 rfl rfl rfl rfl) rfl rfl hq_101 rfl e1]
  rw [RF_row (pc' := 409) (ls' := [vR 1, vR 2, vR 137, vI i]) (st' := [vR 137, vI (oAbout V (g 1 (i + 1)) (g 1 (i + 2))).1]) (sh' := SH L) (g' := g1) k224_408 rfl rfl]
  rw [w_arg (g := g1) (i := i) (v := g 1 (i + 1)) (k := 1) (pc' := 414) k224_409 k224_410 k224_411 k224_412 k224_413 hi (by omega) (by omega) hl (hh _) rfl]
  rw [w_arg (g := g1) (i := i) (v := g 1 (i + 2)) (k := 2) (pc' := 419) k224_414 k224_415 k224_416 k224_417 k224_418 hi (by omega) (by omega) hl (hh _) rfl]
  rw [u_callI (ls0 := [vR 137, vI (g 1 (i + 1)), vI (g 1 (i + 2))]) (rest := [vI (oAbout V (g 1 (i + 1)) (g 1 (i + 2))).1]) (pc' := 422) (v := (oAbout V (g 1 (i + 1)) (g 1 (i + 2))).1) (g' := g2) k224_419 rfl (hy4 rfl rfl rfl rfl) rfl rfl hq_167 rfl e2]
  exact w_endI k224_422 rfl hi (by omega)
theorem lc_9 (h : Inv L xs V g) (hi : 0 ≤ i) (hL : i + 4 ≤ L) (hl : L ≤ 2048) : ∃ V' g', RF 224 427 [vR 1, vR 2, vR 137, vI i] [] (SH L) g = RF 224 18 [vR 1, vR 2, vR 137, vI (i + 4)] [] (SH L) g' ∧ Inv L xs V' g' := by
  obtain ⟨t, hC⟩ := h.2.1
  have hX : CO (oRegion V (g 1 (i + 1)) (g 1 (i + 2))) (jX_region L (g 1 (i + 1)) (g 1 (i + 2)) g) g := cX_region h.1 hC
  obtain ⟨g1, g2, e1, hh, e2, hI⟩ := inv_step (q2 := fun g1 => jM_region L (g 1 (i + 1)) (g 1 (i + 2)) g1) h hX (oRegion_V h.1) (fun g1 hR => RO_w (cM_region h.1 hR))
  unfold jX_region at e1
  unfold jM_region at e2
  refine ⟨_, g2, ?_, hI⟩
  rw [RF_row (pc' := 428) (ls' := [vR 1, vR 2, vR 137, vI i]) (st' := [vR 2]) (sh' := SH L) (g' := g) k224_427 rfl rfl]
  rw [w_arg (g := g) (i := i) (v := g 1 (i + 1)) (k := 1) (pc' := 433) k224_428 k224_429 k224_430 k224_431 k224_432 hi (by omega) (by omega) hl rfl rfl]
  rw [w_arg (g := g) (i := i) (v := g 1 (i + 2)) (k := 2) (pc' := 438) k224_433 k224_434 k224_435 k224_436 k224_437 hi (by omega) (by omega) hl rfl rfl]
  rw [u_callI (ls0 := [vR 2, vI (g 1 (i + 1)), vI (g 1 (i + 2))]) (rest := []) (pc' := 441) (v := (oRegion V (g 1 (i + 1)) (g 1 (i + 2))).1) (g' := g1) k224_438 rfl (hy4 rfl rfl rfl rfl) rfl rfl hq_102 rfl e1]
  rw [RF_row (pc' := 442) (ls' := [vR 1, vR 2, vR 137, vI i]) (st' := [vR 137, vI (oRegion V (g 1 (i + 1)) (g 1 (i + 2))).1]) (sh' := SH L) (g' := g1) k224_441 rfl rfl]
  rw [w_arg (g := g1) (i := i) (v := g 1 (i + 1)) (k := 1) (pc' := 447) k224_442 k224_443 k224_444 k224_445 k224_446 hi (by omega) (by omega) hl (hh _) rfl]
  rw [w_arg (g := g1) (i := i) (v := g 1 (i + 2)) (k := 2) (pc' := 452) k224_447 k224_448 k224_449 k224_450 k224_451 hi (by omega) (by omega) hl (hh _) rfl]
  rw [u_callI (ls0 := [vR 137, vI (g 1 (i + 1)), vI (g 1 (i + 2))]) (rest := [vI (oRegion V (g 1 (i + 1)) (g 1 (i + 2))).1]) (pc' := 455) (v := (oRegion V (g 1 (i + 1)) (g 1 (i + 2))).1) (g' := g2) k224_452 rfl (hy4 rfl rfl rfl rfl) rfl rfl hq_168 rfl e2]
  exact w_endI k224_455 rfl hi (by omega)
theorem lc_10 (h : Inv L xs V g) (hi : 0 ≤ i) (hL : i + 4 ≤ L) (hl : L ≤ 2048) : ∃ V' g', RF 224 460 [vR 1, vR 2, vR 137, vI i] [] (SH L) g = RF 224 18 [vR 1, vR 2, vR 137, vI (i + 4)] [] (SH L) g' ∧ Inv L xs V' g' := by
  obtain ⟨t, hC⟩ := h.2.1
  have hX : CO (oGiven V (g 1 (i + 1)) (g 1 (i + 2))) (jX_given L (g 1 (i + 1)) (g 1 (i + 2)) g) g := cX_given h.1 hC
  obtain ⟨g1, g2, e1, hh, e2, hI⟩ := inv_step (q2 := fun g1 => jM_given L (g 1 (i + 1)) (g 1 (i + 2)) g1) h hX (oGiven_V h.1) (fun g1 hR => RO_w (cM_given h.1 hR))
  unfold jX_given at e1
  unfold jM_given at e2
  refine ⟨_, g2, ?_, hI⟩
  rw [RF_row (pc' := 461) (ls' := [vR 1, vR 2, vR 137, vI i]) (st' := [vR 2]) (sh' := SH L) (g' := g) k224_460 rfl rfl]
  rw [w_arg (g := g) (i := i) (v := g 1 (i + 1)) (k := 1) (pc' := 466) k224_461 k224_462 k224_463 k224_464 k224_465 hi (by omega) (by omega) hl rfl rfl]
  rw [w_arg (g := g) (i := i) (v := g 1 (i + 2)) (k := 2) (pc' := 471) k224_466 k224_467 k224_468 k224_469 k224_470 hi (by omega) (by omega) hl rfl rfl]
  rw [u_callI (ls0 := [vR 2, vI (g 1 (i + 1)), vI (g 1 (i + 2))]) (rest := []) (pc' := 474) (v := (oGiven V (g 1 (i + 1)) (g 1 (i + 2))).1) (g' := g1) k224_471 rfl (hy4 rfl rfl rfl rfl) rfl rfl hq_103 rfl e1]
  rw [RF_row (pc' := 475) (ls' := [vR 1, vR 2, vR 137, vI i]) (st' := [vR 137, vI (oGiven V (g 1 (i + 1)) (g 1 (i + 2))).1]) (sh' := SH L) (g' := g1) k224_474 rfl rfl]
  rw [w_arg (g := g1) (i := i) (v := g 1 (i + 1)) (k := 1) (pc' := 480) k224_475 k224_476 k224_477 k224_478 k224_479 hi (by omega) (by omega) hl (hh _) rfl]
  rw [w_arg (g := g1) (i := i) (v := g 1 (i + 2)) (k := 2) (pc' := 485) k224_480 k224_481 k224_482 k224_483 k224_484 hi (by omega) (by omega) hl (hh _) rfl]
  rw [u_callI (ls0 := [vR 137, vI (g 1 (i + 1)), vI (g 1 (i + 2))]) (rest := [vI (oGiven V (g 1 (i + 1)) (g 1 (i + 2))).1]) (pc' := 488) (v := (oGiven V (g 1 (i + 1)) (g 1 (i + 2))).1) (g' := g2) k224_485 rfl (hy4 rfl rfl rfl rfl) rfl rfl hq_169 rfl e2]
  exact w_endI k224_488 rfl hi (by omega)
theorem lc_11 (h : Inv L xs V g) (hi : 0 ≤ i) (hL : i + 4 ≤ L) (hl : L ≤ 2048) : ∃ V' g', RF 224 493 [vR 1, vR 2, vR 137, vI i] [] (SH L) g = RF 224 18 [vR 1, vR 2, vR 137, vI (i + 4)] [] (SH L) g' ∧ Inv L xs V' g' := by
  obtain ⟨t, hC⟩ := h.2.1
  have hX : CO (oType V (g 1 (i + 1))) (jX_type L (g 1 (i + 1)) g) g := cX_type h.1 hC
  obtain ⟨g1, g2, e1, hh, e2, hI⟩ := inv_step (q2 := fun g1 => jM_type L (g 1 (i + 1)) g1) h hX (oType_V h.1) (fun g1 hR => RO_w (cM_type h.1 hR))
  unfold jX_type at e1
  unfold jM_type at e2
  refine ⟨_, g2, ?_, hI⟩
  rw [RF_row (pc' := 494) (ls' := [vR 1, vR 2, vR 137, vI i]) (st' := [vR 2]) (sh' := SH L) (g' := g) k224_493 rfl rfl]
  rw [w_arg (g := g) (i := i) (v := g 1 (i + 1)) (k := 1) (pc' := 499) k224_494 k224_495 k224_496 k224_497 k224_498 hi (by omega) (by omega) hl rfl rfl]
  rw [u_callI (ls0 := [vR 2, vI (g 1 (i + 1))]) (rest := []) (pc' := 502) (v := (oType V (g 1 (i + 1))).1) (g' := g1) k224_499 rfl (hy4 rfl rfl rfl rfl) rfl rfl hq_104 rfl e1]
  rw [RF_row (pc' := 503) (ls' := [vR 1, vR 2, vR 137, vI i]) (st' := [vR 137, vI (oType V (g 1 (i + 1))).1]) (sh' := SH L) (g' := g1) k224_502 rfl rfl]
  rw [w_arg (g := g1) (i := i) (v := g 1 (i + 1)) (k := 1) (pc' := 508) k224_503 k224_504 k224_505 k224_506 k224_507 hi (by omega) (by omega) hl (hh _) rfl]
  rw [u_callI (ls0 := [vR 137, vI (g 1 (i + 1))]) (rest := [vI (oType V (g 1 (i + 1))).1]) (pc' := 511) (v := (oType V (g 1 (i + 1))).1) (g' := g2) k224_508 rfl (hy4 rfl rfl rfl rfl) rfl rfl hq_208 rfl e2]
  exact w_endI k224_511 rfl hi (by omega)
theorem lc_12 (h : Inv L xs V g) (hi : 0 ≤ i) (hL : i + 4 ≤ L) (hl : L ≤ 2048) : ∃ V' g', RF 224 516 [vR 1, vR 2, vR 137, vI i] [] (SH L) g = RF 224 18 [vR 1, vR 2, vR 137, vI (i + 4)] [] (SH L) g' ∧ Inv L xs V' g' := by
  obtain ⟨t, hC⟩ := h.2.1
  have hX : CO (oClear V) (jX_clear L g) g := cX_clear h.1 hC
  obtain ⟨g1, g2, e1, hh, e2, hI⟩ := inv_step (q2 := fun g1 => jM_clear L g1) h hX (oClear_V h.1) (fun g1 hR => RO_w (cM_clear h.1 hR))
  unfold jX_clear at e1
  unfold jM_clear at e2
  refine ⟨_, g2, ?_, hI⟩
  rw [RF_row (pc' := 517) (ls' := [vR 1, vR 2, vR 137, vI i]) (st' := [vR 2]) (sh' := SH L) (g' := g) k224_516 rfl rfl]
  rw [u_callI (ls0 := [vR 2, vU]) (rest := []) (pc' := 520) (v := (oClear V).1) (g' := g1) k224_517 rfl (hy4 rfl rfl rfl rfl) rfl rfl hq_105 rfl e1]
  rw [RF_row (pc' := 521) (ls' := [vR 1, vR 2, vR 137, vI i]) (st' := [vR 137, vI (oClear V).1]) (sh' := SH L) (g' := g1) k224_520 rfl rfl]
  rw [u_callI (ls0 := [vR 137, vU]) (rest := [vI (oClear V).1]) (pc' := 524) (v := (oClear V).1) (g' := g2) k224_521 rfl (hy4 rfl rfl rfl rfl) rfl rfl hq_209 rfl e2]
  exact w_endI k224_524 rfl hi (by omega)
theorem lc_13 (h : Inv L xs V g) (hi : 0 ≤ i) (hL : i + 4 ≤ L) (hl : L ≤ 2048) : ∃ V' g', RF 224 529 [vR 1, vR 2, vR 137, vI i] [] (SH L) g = RF 224 18 [vR 1, vR 2, vR 137, vI (i + 4)] [] (SH L) g' ∧ Inv L xs V' g' := by
  obtain ⟨t, hC⟩ := h.2.1
  have hX : CO (oRead V) (jX_read L g) g := cX_read h.1 hC
  obtain ⟨g1, g2, e1, hh, e2, hI⟩ := inv_step (q2 := fun g1 => jM_read L g1) h hX (oRead_V h.1) (fun g1 hR => cM_read h.1 hR)
  unfold jX_read at e1
  unfold jM_read at e2
  refine ⟨_, g2, ?_, hI⟩
  rw [RF_row (pc' := 530) (ls' := [vR 1, vR 2, vR 137, vI i]) (st' := [vR 2]) (sh' := SH L) (g' := g) k224_529 rfl rfl]
  rw [u_callI (ls0 := [vR 2, vU, vU]) (rest := []) (pc' := 533) (v := (oRead V).1) (g' := g1) k224_530 rfl (hy4 rfl rfl rfl rfl) rfl rfl hq_106 rfl e1]
  rw [RF_row (pc' := 534) (ls' := [vR 1, vR 2, vR 137, vI i]) (st' := [vR 137, vI (oRead V).1]) (sh' := SH L) (g' := g1) k224_533 rfl rfl]
  rw [u_callI (ls0 := [vR 137, vU]) (rest := [vI (oRead V).1]) (pc' := 537) (v := (oRead V).1) (g' := g2) k224_534 rfl (hy4 rfl rfl rfl rfl) rfl rfl hq_223 rfl e2]
  exact w_endI k224_537 rfl hi (by omega)
theorem lc_14 (h : Inv L xs V g) (hi : 0 ≤ i) (hL : i + 4 ≤ L) (hl : L ≤ 2048) : ∃ V' g', RF 224 542 [vR 1, vR 2, vR 137, vI i] [] (SH L) g = RF 224 18 [vR 1, vR 2, vR 137, vI (i + 4)] [] (SH L) g' ∧ Inv L xs V' g' := by
  obtain ⟨t, hC⟩ := h.2.1
  have hX : CO (oSteps V (g 1 (i + 1)) (g 1 (i + 2))) (jX_steps L (g 1 (i + 1)) (g 1 (i + 2)) g) g := cX_steps h.1 hC
  obtain ⟨g1, g2, e1, hh, e2, hI⟩ := inv_step (q2 := fun g1 => jM_steps L (g 1 (i + 1)) (g 1 (i + 2)) g1) h hX (oSteps_V h.1) (fun g1 hR => RO_w (cM_steps h.1 hR))
  unfold jX_steps at e1
  unfold jM_steps at e2
  refine ⟨_, g2, ?_, hI⟩
  rw [RF_row (pc' := 543) (ls' := [vR 1, vR 2, vR 137, vI i]) (st' := [vR 2]) (sh' := SH L) (g' := g) k224_542 rfl rfl]
  rw [w_arg (g := g) (i := i) (v := g 1 (i + 1)) (k := 1) (pc' := 548) k224_543 k224_544 k224_545 k224_546 k224_547 hi (by omega) (by omega) hl rfl rfl]
  rw [w_arg (g := g) (i := i) (v := g 1 (i + 2)) (k := 2) (pc' := 553) k224_548 k224_549 k224_550 k224_551 k224_552 hi (by omega) (by omega) hl rfl rfl]
  rw [u_callI (ls0 := [vR 2, vI (g 1 (i + 1)), vI (g 1 (i + 2)), vU]) (rest := []) (pc' := 556) (v := (oSteps V (g 1 (i + 1)) (g 1 (i + 2))).1) (g' := g1) k224_553 rfl (hy4 rfl rfl rfl rfl) rfl rfl hq_109 rfl e1]
  rw [RF_row (pc' := 557) (ls' := [vR 1, vR 2, vR 137, vI i]) (st' := [vR 137, vI (oSteps V (g 1 (i + 1)) (g 1 (i + 2))).1]) (sh' := SH L) (g' := g1) k224_556 rfl rfl]
  rw [w_arg (g := g1) (i := i) (v := g 1 (i + 1)) (k := 1) (pc' := 562) k224_557 k224_558 k224_559 k224_560 k224_561 hi (by omega) (by omega) hl (hh _) rfl]
  rw [w_arg (g := g1) (i := i) (v := g 1 (i + 2)) (k := 2) (pc' := 567) k224_562 k224_563 k224_564 k224_565 k224_566 hi (by omega) (by omega) hl (hh _) rfl]
  rw [u_callI (ls0 := [vR 137, vI (g 1 (i + 1)), vI (g 1 (i + 2))]) (rest := [vI (oSteps V (g 1 (i + 1)) (g 1 (i + 2))).1]) (pc' := 570) (v := (oSteps V (g 1 (i + 1)) (g 1 (i + 2))).1) (g' := g2) k224_567 rfl (hy4 rfl rfl rfl rfl) rfl rfl hq_184 rfl e2]
  exact w_endI k224_570 rfl hi (by omega)
theorem lc_15 (h : Inv L xs V g) (hi : 0 ≤ i) (hL : i + 4 ≤ L) (hl : L ≤ 2048) : ∃ V' g', RF 224 575 [vR 1, vR 2, vR 137, vI i] [] (SH L) g = RF 224 18 [vR 1, vR 2, vR 137, vI (i + 4)] [] (SH L) g' ∧ Inv L xs V' g' := by
  obtain ⟨t, hC⟩ := h.2.1
  have hX : CO (oStep V (g 1 (i + 1)) (g 1 (i + 2)) (g 1 (i + 3))) (jX_step L (g 1 (i + 1)) (g 1 (i + 2)) (g 1 (i + 3)) g) g := cX_step h.1 hC
  obtain ⟨g1, g2, e1, hh, e2, hI⟩ := inv_step (q2 := fun g1 => jM_step L (g 1 (i + 1)) (g 1 (i + 2)) (g 1 (i + 3)) g1) h hX (oStep_V h.1) (fun g1 hR => RO_w (cM_step h.1 hR))
  unfold jX_step at e1
  unfold jM_step at e2
  refine ⟨_, g2, ?_, hI⟩
  rw [RF_row (pc' := 576) (ls' := [vR 1, vR 2, vR 137, vI i]) (st' := [vR 2]) (sh' := SH L) (g' := g) k224_575 rfl rfl]
  rw [w_arg (g := g) (i := i) (v := g 1 (i + 1)) (k := 1) (pc' := 581) k224_576 k224_577 k224_578 k224_579 k224_580 hi (by omega) (by omega) hl rfl rfl]
  rw [w_arg (g := g) (i := i) (v := g 1 (i + 2)) (k := 2) (pc' := 586) k224_581 k224_582 k224_583 k224_584 k224_585 hi (by omega) (by omega) hl rfl rfl]
  rw [w_arg (g := g) (i := i) (v := g 1 (i + 3)) (k := 3) (pc' := 591) k224_586 k224_587 k224_588 k224_589 k224_590 hi (by omega) (by omega) hl rfl rfl]
  rw [u_callI (ls0 := [vR 2, vI (g 1 (i + 1)), vI (g 1 (i + 2)), vI (g 1 (i + 3)), vU]) (rest := []) (pc' := 594) (v := (oStep V (g 1 (i + 1)) (g 1 (i + 2)) (g 1 (i + 3))).1) (g' := g1) k224_591 rfl (hy4 rfl rfl rfl rfl) rfl rfl hq_110 rfl e1]
  rw [RF_row (pc' := 595) (ls' := [vR 1, vR 2, vR 137, vI i]) (st' := [vR 137, vI (oStep V (g 1 (i + 1)) (g 1 (i + 2)) (g 1 (i + 3))).1]) (sh' := SH L) (g' := g1) k224_594 rfl rfl]
  rw [w_arg (g := g1) (i := i) (v := g 1 (i + 1)) (k := 1) (pc' := 600) k224_595 k224_596 k224_597 k224_598 k224_599 hi (by omega) (by omega) hl (hh _) rfl]
  rw [w_arg (g := g1) (i := i) (v := g 1 (i + 2)) (k := 2) (pc' := 605) k224_600 k224_601 k224_602 k224_603 k224_604 hi (by omega) (by omega) hl (hh _) rfl]
  rw [w_arg (g := g1) (i := i) (v := g 1 (i + 3)) (k := 3) (pc' := 610) k224_605 k224_606 k224_607 k224_608 k224_609 hi (by omega) (by omega) hl (hh _) rfl]
  rw [u_callI (ls0 := [vR 137, vI (g 1 (i + 1)), vI (g 1 (i + 2)), vI (g 1 (i + 3))]) (rest := [vI (oStep V (g 1 (i + 1)) (g 1 (i + 2)) (g 1 (i + 3))).1]) (pc' := 613) (v := (oStep V (g 1 (i + 1)) (g 1 (i + 2)) (g 1 (i + 3))).1) (g' := g2) k224_610 rfl (hy4 rfl rfl rfl rfl) rfl rfl hq_185 rfl e2]
  exact w_endI k224_613 rfl hi (by omega)
theorem lc_16 (h : Inv L xs V g) (hi : 0 ≤ i) (hL : i + 4 ≤ L) (hl : L ≤ 2048) : ∃ V' g', RF 224 618 [vR 1, vR 2, vR 137, vI i] [] (SH L) g = RF 224 18 [vR 1, vR 2, vR 137, vI (i + 4)] [] (SH L) g' ∧ Inv L xs V' g' := by
  obtain ⟨t, hC⟩ := h.2.1
  have hX : CO (oCost V (g 1 (i + 1))) (jX_cost L (g 1 (i + 1)) g) g := cX_cost h.1 hC
  obtain ⟨g1, g2, e1, hh, e2, hI⟩ := inv_step (q2 := fun g1 => jM_cost L (g 1 (i + 1)) g1) h hX (oCost_V h.1) (fun g1 hR => RO_w (cM_cost h.1 hR))
  unfold jX_cost at e1
  unfold jM_cost at e2
  refine ⟨_, g2, ?_, hI⟩
  rw [RF_row (pc' := 619) (ls' := [vR 1, vR 2, vR 137, vI i]) (st' := [vR 2]) (sh' := SH L) (g' := g) k224_618 rfl rfl]
  rw [w_arg (g := g) (i := i) (v := g 1 (i + 1)) (k := 1) (pc' := 624) k224_619 k224_620 k224_621 k224_622 k224_623 hi (by omega) (by omega) hl rfl rfl]
  rw [u_callI (ls0 := [vR 2, vI (g 1 (i + 1)), vU]) (rest := []) (pc' := 627) (v := (oCost V (g 1 (i + 1))).1) (g' := g1) k224_624 rfl (hy4 rfl rfl rfl rfl) rfl rfl hq_111 rfl e1]
  rw [RF_row (pc' := 628) (ls' := [vR 1, vR 2, vR 137, vI i]) (st' := [vR 137, vI (oCost V (g 1 (i + 1))).1]) (sh' := SH L) (g' := g1) k224_627 rfl rfl]
  rw [w_arg (g := g1) (i := i) (v := g 1 (i + 1)) (k := 1) (pc' := 633) k224_628 k224_629 k224_630 k224_631 k224_632 hi (by omega) (by omega) hl (hh _) rfl]
  rw [u_callI (ls0 := [vR 137, vI (g 1 (i + 1))]) (rest := [vI (oCost V (g 1 (i + 1))).1]) (pc' := 636) (v := (oCost V (g 1 (i + 1))).1) (g' := g2) k224_633 rfl (hy4 rfl rfl rfl rfl) rfl rfl hq_186 rfl e2]
  exact w_endI k224_636 rfl hi (by omega)
theorem lc_17 (h : Inv L xs V g) (hi : 0 ≤ i) (hL : i + 4 ≤ L) (hl : L ≤ 2048) : ∃ V' g', RF 224 641 [vR 1, vR 2, vR 137, vI i] [] (SH L) g = RF 224 18 [vR 1, vR 2, vR 137, vI (i + 4)] [] (SH L) g' ∧ Inv L xs V' g' := by
  obtain ⟨t, hC⟩ := h.2.1
  have hX : CO (oRings V (g 1 (i + 1)) (g 1 (i + 2))) (jX_rings L (g 1 (i + 1)) (g 1 (i + 2)) g) g := cX_rings h.1 hC
  obtain ⟨g1, g2, e1, hh, e2, hI⟩ := inv_step (q2 := fun g1 => jM_rings L (g 1 (i + 1)) (g 1 (i + 2)) g1) h hX (oRings_V h.1) (fun g1 hR => RO_w (cM_rings h.1 hR))
  unfold jX_rings at e1
  unfold jM_rings at e2
  refine ⟨_, g2, ?_, hI⟩
  rw [RF_row (pc' := 642) (ls' := [vR 1, vR 2, vR 137, vI i]) (st' := [vR 2]) (sh' := SH L) (g' := g) k224_641 rfl rfl]
  rw [w_arg (g := g) (i := i) (v := g 1 (i + 1)) (k := 1) (pc' := 647) k224_642 k224_643 k224_644 k224_645 k224_646 hi (by omega) (by omega) hl rfl rfl]
  rw [w_arg (g := g) (i := i) (v := g 1 (i + 2)) (k := 2) (pc' := 652) k224_647 k224_648 k224_649 k224_650 k224_651 hi (by omega) (by omega) hl rfl rfl]
  rw [u_callI (ls0 := [vR 2, vI (g 1 (i + 1)), vI (g 1 (i + 2)), vU]) (rest := []) (pc' := 655) (v := (oRings V (g 1 (i + 1)) (g 1 (i + 2))).1) (g' := g1) k224_652 rfl (hy4 rfl rfl rfl rfl) rfl rfl hq_112 rfl e1]
  rw [RF_row (pc' := 656) (ls' := [vR 1, vR 2, vR 137, vI i]) (st' := [vR 137, vI (oRings V (g 1 (i + 1)) (g 1 (i + 2))).1]) (sh' := SH L) (g' := g1) k224_655 rfl rfl]
  rw [w_arg (g := g1) (i := i) (v := g 1 (i + 1)) (k := 1) (pc' := 661) k224_656 k224_657 k224_658 k224_659 k224_660 hi (by omega) (by omega) hl (hh _) rfl]
  rw [w_arg (g := g1) (i := i) (v := g 1 (i + 2)) (k := 2) (pc' := 666) k224_661 k224_662 k224_663 k224_664 k224_665 hi (by omega) (by omega) hl (hh _) rfl]
  rw [u_callI (ls0 := [vR 137, vI (g 1 (i + 1)), vI (g 1 (i + 2)), vU, vU, vU, vU, vU]) (rest := [vI (oRings V (g 1 (i + 1)) (g 1 (i + 2))).1]) (pc' := 669) (v := (oRings V (g 1 (i + 1)) (g 1 (i + 2))).1) (g' := g2) k224_666 rfl (hy4 rfl rfl rfl rfl) rfl rfl hq_189 rfl e2]
  exact w_endI k224_669 rfl hi (by omega)
theorem lc_18 (h : Inv L xs V g) (hi : 0 ≤ i) (hL : i + 4 ≤ L) (hl : L ≤ 2048) : ∃ V' g', RF 224 674 [vR 1, vR 2, vR 137, vI i] [] (SH L) g = RF 224 18 [vR 1, vR 2, vR 137, vI (i + 4)] [] (SH L) g' ∧ Inv L xs V' g' := by
  obtain ⟨t, hC⟩ := h.2.1
  have hX : CO (oCheapest V (g 1 (i + 1)) (g 1 (i + 2))) (jX_cheapest L (g 1 (i + 1)) (g 1 (i + 2)) g) g := cX_cheapest h.1 hC
  obtain ⟨g1, g2, e1, hh, e2, hI⟩ := inv_step (q2 := fun g1 => jM_cheapest L (g 1 (i + 1)) (g 1 (i + 2)) g1) h hX (oCheapest_V h.1) (fun g1 hR => RO_w (cM_cheapest h.1 hR))
  unfold jX_cheapest at e1
  unfold jM_cheapest at e2
  refine ⟨_, g2, ?_, hI⟩
  rw [RF_row (pc' := 675) (ls' := [vR 1, vR 2, vR 137, vI i]) (st' := [vR 2]) (sh' := SH L) (g' := g) k224_674 rfl rfl]
  rw [w_arg (g := g) (i := i) (v := g 1 (i + 1)) (k := 1) (pc' := 680) k224_675 k224_676 k224_677 k224_678 k224_679 hi (by omega) (by omega) hl rfl rfl]
  rw [w_arg (g := g) (i := i) (v := g 1 (i + 2)) (k := 2) (pc' := 685) k224_680 k224_681 k224_682 k224_683 k224_684 hi (by omega) (by omega) hl rfl rfl]
  rw [u_callI (ls0 := [vR 2, vI (g 1 (i + 1)), vI (g 1 (i + 2)), vU, vU, vU, vU, vU]) (rest := []) (pc' := 688) (v := (oCheapest V (g 1 (i + 1)) (g 1 (i + 2))).1) (g' := g1) k224_685 rfl (hy4 rfl rfl rfl rfl) rfl rfl hq_114 rfl e1]
  rw [RF_row (pc' := 689) (ls' := [vR 1, vR 2, vR 137, vI i]) (st' := [vR 137, vI (oCheapest V (g 1 (i + 1)) (g 1 (i + 2))).1]) (sh' := SH L) (g' := g1) k224_688 rfl rfl]
  rw [w_arg (g := g1) (i := i) (v := g 1 (i + 1)) (k := 1) (pc' := 694) k224_689 k224_690 k224_691 k224_692 k224_693 hi (by omega) (by omega) hl (hh _) rfl]
  rw [w_arg (g := g1) (i := i) (v := g 1 (i + 2)) (k := 2) (pc' := 699) k224_694 k224_695 k224_696 k224_697 k224_698 hi (by omega) (by omega) hl (hh _) rfl]
  rw [u_callI (ls0 := [vR 137, vI (g 1 (i + 1)), vI (g 1 (i + 2)), vU, vU, vU, vU]) (rest := [vI (oCheapest V (g 1 (i + 1)) (g 1 (i + 2))).1]) (pc' := 702) (v := (oCheapest V (g 1 (i + 1)) (g 1 (i + 2))).1) (g' := g2) k224_699 rfl (hy4 rfl rfl rfl rfl) rfl rfl hq_190 rfl e2]
  exact w_endI k224_702 rfl hi (by omega)
theorem lc_19 (h : Inv L xs V g) (hi : 0 ≤ i) (hL : i + 4 ≤ L) (hl : L ≤ 2048) : ∃ V' g', RF 224 707 [vR 1, vR 2, vR 137, vI i] [] (SH L) g = RF 224 18 [vR 1, vR 2, vR 137, vI (i + 4)] [] (SH L) g' ∧ Inv L xs V' g' := by
  obtain ⟨t, hC⟩ := h.2.1
  have hX : CO (oFree V (g 1 (i + 1)) (g 1 (i + 2))) (jX_free L (g 1 (i + 1)) (g 1 (i + 2)) g) g := cX_free h.1 hC
  obtain ⟨g1, g2, e1, hh, e2, hI⟩ := inv_step (q2 := fun g1 => jM_free L (g 1 (i + 1)) (g 1 (i + 2)) g1) h hX (oFree_V h.1) (fun g1 hR => RO_w (cM_free h.1 hR))
  unfold jX_free at e1
  unfold jM_free at e2
  refine ⟨_, g2, ?_, hI⟩
  rw [RF_row (pc' := 708) (ls' := [vR 1, vR 2, vR 137, vI i]) (st' := [vR 2]) (sh' := SH L) (g' := g) k224_707 rfl rfl]
  rw [w_arg (g := g) (i := i) (v := g 1 (i + 1)) (k := 1) (pc' := 713) k224_708 k224_709 k224_710 k224_711 k224_712 hi (by omega) (by omega) hl rfl rfl]
  rw [w_arg (g := g) (i := i) (v := g 1 (i + 2)) (k := 2) (pc' := 718) k224_713 k224_714 k224_715 k224_716 k224_717 hi (by omega) (by omega) hl rfl rfl]
  rw [u_callI (ls0 := [vR 2, vI (g 1 (i + 1)), vI (g 1 (i + 2)), vU, vU]) (rest := []) (pc' := 721) (v := (oFree V (g 1 (i + 1)) (g 1 (i + 2))).1) (g' := g1) k224_718 rfl (hy4 rfl rfl rfl rfl) rfl rfl hq_115 rfl e1]
  rw [RF_row (pc' := 722) (ls' := [vR 1, vR 2, vR 137, vI i]) (st' := [vR 137, vI (oFree V (g 1 (i + 1)) (g 1 (i + 2))).1]) (sh' := SH L) (g' := g1) k224_721 rfl rfl]
  rw [w_arg (g := g1) (i := i) (v := g 1 (i + 1)) (k := 1) (pc' := 727) k224_722 k224_723 k224_724 k224_725 k224_726 hi (by omega) (by omega) hl (hh _) rfl]
  rw [w_arg (g := g1) (i := i) (v := g 1 (i + 2)) (k := 2) (pc' := 732) k224_727 k224_728 k224_729 k224_730 k224_731 hi (by omega) (by omega) hl (hh _) rfl]
  rw [u_callI (ls0 := [vR 137, vI (g 1 (i + 1)), vI (g 1 (i + 2)), vU, vU, vU]) (rest := [vI (oFree V (g 1 (i + 1)) (g 1 (i + 2))).1]) (pc' := 735) (v := (oFree V (g 1 (i + 1)) (g 1 (i + 2))).1) (g' := g2) k224_732 rfl (hy4 rfl rfl rfl rfl) rfl rfl hq_191 rfl e2]
  exact w_endI k224_735 rfl hi (by omega)
theorem lc_20 (h : Inv L xs V g) (hi : 0 ≤ i) (hL : i + 4 ≤ L) (hl : L ≤ 2048) : ∃ V' g', RF 224 740 [vR 1, vR 2, vR 137, vI i] [] (SH L) g = RF 224 18 [vR 1, vR 2, vR 137, vI (i + 4)] [] (SH L) g' ∧ Inv L xs V' g' := by
  obtain ⟨t, hC⟩ := h.2.1
  have hX : CO (oTail V (g 1 (i + 1))) (jX_tail L (g 1 (i + 1)) g) g := cX_tail h.1 hC
  obtain ⟨g1, g2, e1, hh, e2, hI⟩ := inv_step (q2 := fun g1 => jM_tail L (g 1 (i + 1)) g1) h hX (oTail_V h.1) (fun g1 hR => RO_w (cM_tail h.1 hR))
  unfold jX_tail at e1
  unfold jM_tail at e2
  refine ⟨_, g2, ?_, hI⟩
  rw [RF_row (pc' := 741) (ls' := [vR 1, vR 2, vR 137, vI i]) (st' := [vR 2]) (sh' := SH L) (g' := g) k224_740 rfl rfl]
  rw [w_arg (g := g) (i := i) (v := g 1 (i + 1)) (k := 1) (pc' := 746) k224_741 k224_742 k224_743 k224_744 k224_745 hi (by omega) (by omega) hl rfl rfl]
  rw [u_callI (ls0 := [vR 2, vI (g 1 (i + 1)), vU, vU, vU]) (rest := []) (pc' := 749) (v := (oTail V (g 1 (i + 1))).1) (g' := g1) k224_746 rfl (hy4 rfl rfl rfl rfl) rfl rfl hq_117 rfl e1]
  rw [RF_row (pc' := 750) (ls' := [vR 1, vR 2, vR 137, vI i]) (st' := [vR 137, vI (oTail V (g 1 (i + 1))).1]) (sh' := SH L) (g' := g1) k224_749 rfl rfl]
  rw [w_arg (g := g1) (i := i) (v := g 1 (i + 1)) (k := 1) (pc' := 755) k224_750 k224_751 k224_752 k224_753 k224_754 hi (by omega) (by omega) hl (hh _) rfl]
  rw [u_callI (ls0 := [vR 137, vI (g 1 (i + 1)), vU, vU, vU, vU, vU]) (rest := [vI (oTail V (g 1 (i + 1))).1]) (pc' := 758) (v := (oTail V (g 1 (i + 1))).1) (g' := g2) k224_755 rfl (hy4 rfl rfl rfl rfl) rfl rfl hq_194 rfl e2]
  exact w_endI k224_758 rfl hi (by omega)
theorem lc_21 (h : Inv L xs V g) (hi : 0 ≤ i) (hL : i + 4 ≤ L) (hl : L ≤ 2048) : ∃ V' g', RF 224 763 [vR 1, vR 2, vR 137, vI i] [] (SH L) g = RF 224 18 [vR 1, vR 2, vR 137, vI (i + 4)] [] (SH L) g' ∧ Inv L xs V' g' := by
  obtain ⟨v, g1, g2, V1, e1, hh, e2, hI⟩ := inv_run (e := g 1 (i + 1)) (s := g 1 (i + 2)) (w := g 1 (i + 3)) h
  unfold jX_run at e1
  unfold jM_run at e2
  refine ⟨V1, g2, ?_, hI⟩
  rw [RF_row (pc' := 764) (ls' := [vR 1, vR 2, vR 137, vI i]) (st' := [vR 2]) (sh' := SH L) (g' := g) k224_763 rfl rfl]
  rw [w_arg (g := g) (i := i) (v := g 1 (i + 1)) (k := 1) (pc' := 769) k224_764 k224_765 k224_766 k224_767 k224_768 hi (by omega) (by omega) hl rfl rfl]
  rw [w_arg (g := g) (i := i) (v := g 1 (i + 2)) (k := 2) (pc' := 774) k224_769 k224_770 k224_771 k224_772 k224_773 hi (by omega) (by omega) hl rfl rfl]
  rw [w_arg (g := g) (i := i) (v := g 1 (i + 3)) (k := 3) (pc' := 779) k224_774 k224_775 k224_776 k224_777 k224_778 hi (by omega) (by omega) hl rfl rfl]
  rw [u_callL (ls0 := [vR 2, vI (g 1 (i + 1)), vI (g 1 (i + 2)), vI (g 1 (i + 3)), vU]) (rest := []) (pc' := 782) (v := v) (g' := g1) k224_779 rfl (hy4 rfl rfl rfl rfl) rfl rfl hq_118 rfl e1]
  rw [RF_row (pc' := 783) (ls' := [vR 1, vR 2, vR 137, vI i]) (st' := [vR 137, vL v]) (sh' := SH L) (g' := g1) k224_782 rfl rfl]
  rw [w_arg (g := g1) (i := i) (v := g 1 (i + 1)) (k := 1) (pc' := 788) k224_783 k224_784 k224_785 k224_786 k224_787 hi (by omega) (by omega) hl (hh _) rfl]
  rw [w_arg (g := g1) (i := i) (v := g 1 (i + 2)) (k := 2) (pc' := 793) k224_788 k224_789 k224_790 k224_791 k224_792 hi (by omega) (by omega) hl (hh _) rfl]
  rw [w_arg (g := g1) (i := i) (v := g 1 (i + 3)) (k := 3) (pc' := 798) k224_793 k224_794 k224_795 k224_796 k224_797 hi (by omega) (by omega) hl (hh _) rfl]
  rw [u_callL (ls0 := [vR 137, vI (g 1 (i + 1)), vI (g 1 (i + 2)), vI (g 1 (i + 3)), vU, vU, vU, vU, vU]) (rest := [vL v]) (pc' := 801) (v := v) (g' := g2) k224_798 rfl (hy4 rfl rfl rfl rfl) rfl rfl hq_200 rfl e2]
  exact w_endL k224_801 k224_802 rfl hi (by omega)
theorem lc_22 (h : Inv L xs V g) (hi : 0 ≤ i) (hL : i + 4 ≤ L) (hl : L ≤ 2048) : ∃ V' g', RF 224 807 [vR 1, vR 2, vR 137, vI i] [] (SH L) g = RF 224 18 [vR 1, vR 2, vR 137, vI (i + 4)] [] (SH L) g' ∧ Inv L xs V' g' := by
  obtain ⟨t, hC⟩ := h.2.1
  have hX : CO (oWhole V (g 1 (i + 1))) (jX_whole L (g 1 (i + 1)) g) g := cX_whole h.1 hC
  obtain ⟨g1, g2, e1, hh, e2, hI⟩ := inv_step (q2 := fun g1 => jM_whole L (g 1 (i + 1)) g1) h hX (oWhole_V h.1) (fun g1 hR => RO_w (cM_whole h.1 hR))
  unfold jX_whole at e1
  unfold jM_whole at e2
  refine ⟨_, g2, ?_, hI⟩
  rw [RF_row (pc' := 808) (ls' := [vR 1, vR 2, vR 137, vI i]) (st' := [vR 2]) (sh' := SH L) (g' := g) k224_807 rfl rfl]
  rw [w_arg (g := g) (i := i) (v := g 1 (i + 1)) (k := 1) (pc' := 813) k224_808 k224_809 k224_810 k224_811 k224_812 hi (by omega) (by omega) hl rfl rfl]
  rw [u_callI (ls0 := [vR 2, vI (g 1 (i + 1)), vU, vU]) (rest := []) (pc' := 816) (v := (oWhole V (g 1 (i + 1))).1) (g' := g1) k224_813 rfl (hy4 rfl rfl rfl rfl) rfl rfl hq_120 rfl e1]
  rw [RF_row (pc' := 817) (ls' := [vR 1, vR 2, vR 137, vI i]) (st' := [vR 137, vI (oWhole V (g 1 (i + 1))).1]) (sh' := SH L) (g' := g1) k224_816 rfl rfl]
  rw [w_arg (g := g1) (i := i) (v := g 1 (i + 1)) (k := 1) (pc' := 822) k224_817 k224_818 k224_819 k224_820 k224_821 hi (by omega) (by omega) hl (hh _) rfl]
  rw [u_callI (ls0 := [vR 137, vI (g 1 (i + 1)), vU, vU, vU, vU, vU]) (rest := [vI (oWhole V (g 1 (i + 1))).1]) (pc' := 825) (v := (oWhole V (g 1 (i + 1))).1) (g' := g2) k224_822 rfl (hy4 rfl rfl rfl rfl) rfl rfl hq_201 rfl e2]
  exact w_endI k224_825 rfl hi (by omega)
theorem lc_23 (h : Inv L xs V g) (hi : 0 ≤ i) (hL : i + 4 ≤ L) (hl : L ≤ 2048) : ∃ V' g', RF 224 830 [vR 1, vR 2, vR 137, vI i] [] (SH L) g = RF 224 18 [vR 1, vR 2, vR 137, vI (i + 4)] [] (SH L) g' ∧ Inv L xs V' g' := by
  obtain ⟨t, hC⟩ := h.2.1
  have hX : CO (oDearest V) (jX_dearest L g) g := cX_dearest h.1 hC
  obtain ⟨g1, g2, e1, hh, e2, hI⟩ := inv_step (q2 := fun g1 => jM_dearest L g1) h hX (oDearest_V h.1) (fun g1 hR => RO_w (cM_dearest h.1 hR))
  unfold jX_dearest at e1
  unfold jM_dearest at e2
  refine ⟨_, g2, ?_, hI⟩
  rw [RF_row (pc' := 831) (ls' := [vR 1, vR 2, vR 137, vI i]) (st' := [vR 2]) (sh' := SH L) (g' := g) k224_830 rfl rfl]
  rw [u_callI (ls0 := [vR 2, vU, vU, vU]) (rest := []) (pc' := 834) (v := (oDearest V).1) (g' := g1) k224_831 rfl (hy4 rfl rfl rfl rfl) rfl rfl hq_122 rfl e1]
  rw [RF_row (pc' := 835) (ls' := [vR 1, vR 2, vR 137, vI i]) (st' := [vR 137, vI (oDearest V).1]) (sh' := SH L) (g' := g1) k224_834 rfl rfl]
  rw [u_callI (ls0 := [vR 137, vU, vU, vU, vU]) (rest := [vI (oDearest V).1]) (pc' := 838) (v := (oDearest V).1) (g' := g2) k224_835 rfl (hy4 rfl rfl rfl rfl) rfl rfl hq_202 rfl e2]
  exact w_endI k224_838 rfl hi (by omega)
theorem lc_24 (h : Inv L xs V g) (hi : 0 ≤ i) (hL : i + 4 ≤ L) (hl : L ≤ 2048) : ∃ V' g', RF 224 843 [vR 1, vR 2, vR 137, vI i] [] (SH L) g = RF 224 18 [vR 1, vR 2, vR 137, vI (i + 4)] [] (SH L) g' ∧ Inv L xs V' g' := by
  obtain ⟨t, hC⟩ := h.2.1
  have hX : CO (oReach V (g 1 (i + 1)) (g 1 (i + 2))) (jX_reach L (g 1 (i + 1)) (g 1 (i + 2)) g) g := cX_reach h.1 hC
  obtain ⟨g1, g2, e1, hh, e2, hI⟩ := inv_step (q2 := fun g1 => jM_reach L (g 1 (i + 1)) (g 1 (i + 2)) g1) h hX (oReach_V h.1) (fun g1 hR => RO_w (cM_reach h.1 hR))
  unfold jX_reach at e1
  unfold jM_reach at e2
  refine ⟨_, g2, ?_, hI⟩
  rw [RF_row (pc' := 844) (ls' := [vR 1, vR 2, vR 137, vI i]) (st' := [vR 2]) (sh' := SH L) (g' := g) k224_843 rfl rfl]
  rw [w_arg (g := g) (i := i) (v := g 1 (i + 1)) (k := 1) (pc' := 849) k224_844 k224_845 k224_846 k224_847 k224_848 hi (by omega) (by omega) hl rfl rfl]
  rw [w_arg (g := g) (i := i) (v := g 1 (i + 2)) (k := 2) (pc' := 854) k224_849 k224_850 k224_851 k224_852 k224_853 hi (by omega) (by omega) hl rfl rfl]
  rw [u_callI (ls0 := [vR 2, vI (g 1 (i + 1)), vI (g 1 (i + 2)), vU]) (rest := []) (pc' := 857) (v := (oReach V (g 1 (i + 1)) (g 1 (i + 2))).1) (g' := g1) k224_854 rfl (hy4 rfl rfl rfl rfl) rfl rfl hq_125 rfl e1]
  rw [RF_row (pc' := 858) (ls' := [vR 1, vR 2, vR 137, vI i]) (st' := [vR 137, vI (oReach V (g 1 (i + 1)) (g 1 (i + 2))).1]) (sh' := SH L) (g' := g1) k224_857 rfl rfl]
  rw [w_arg (g := g1) (i := i) (v := g 1 (i + 1)) (k := 1) (pc' := 863) k224_858 k224_859 k224_860 k224_861 k224_862 hi (by omega) (by omega) hl (hh _) rfl]
  rw [w_arg (g := g1) (i := i) (v := g 1 (i + 2)) (k := 2) (pc' := 868) k224_863 k224_864 k224_865 k224_866 k224_867 hi (by omega) (by omega) hl (hh _) rfl]
  rw [u_callI (ls0 := [vR 137, vI (g 1 (i + 1)), vI (g 1 (i + 2)), vU, vU, vU]) (rest := [vI (oReach V (g 1 (i + 1)) (g 1 (i + 2))).1]) (pc' := 871) (v := (oReach V (g 1 (i + 1)) (g 1 (i + 2))).1) (g' := g2) k224_868 rfl (hy4 rfl rfl rfl rfl) rfl rfl hq_203 rfl e2]
  exact w_endI k224_871 rfl hi (by omega)
theorem lc_25 (h : Inv L xs V g) (hi : 0 ≤ i) (hL : i + 4 ≤ L) (hl : L ≤ 2048) : ∃ V' g', RF 224 876 [vR 1, vR 2, vR 137, vI i] [] (SH L) g = RF 224 18 [vR 1, vR 2, vR 137, vI (i + 4)] [] (SH L) g' ∧ Inv L xs V' g' := by
  obtain ⟨t, hC⟩ := h.2.1
  have hX : CO (oDraw V (g 1 (i + 1)) (g 1 (i + 2)) (g 1 (i + 3))) (jX_draw L (g 1 (i + 1)) (g 1 (i + 2)) (g 1 (i + 3)) g) g := cX_draw h.1 hC
  obtain ⟨g1, g2, e1, hh, e2, hI⟩ := inv_step (q2 := fun g1 => jM_draw L (g 1 (i + 1)) (g 1 (i + 2)) (g 1 (i + 3)) g1) h hX (oDraw_V h.1) (fun g1 hR => RO_w (cM_draw h.1 hR))
  unfold jX_draw at e1
  unfold jM_draw at e2
  refine ⟨_, g2, ?_, hI⟩
  rw [RF_row (pc' := 877) (ls' := [vR 1, vR 2, vR 137, vI i]) (st' := [vR 2]) (sh' := SH L) (g' := g) k224_876 rfl rfl]
  rw [w_arg (g := g) (i := i) (v := g 1 (i + 1)) (k := 1) (pc' := 882) k224_877 k224_878 k224_879 k224_880 k224_881 hi (by omega) (by omega) hl rfl rfl]
  rw [w_arg (g := g) (i := i) (v := g 1 (i + 2)) (k := 2) (pc' := 887) k224_882 k224_883 k224_884 k224_885 k224_886 hi (by omega) (by omega) hl rfl rfl]
  rw [w_arg (g := g) (i := i) (v := g 1 (i + 3)) (k := 3) (pc' := 892) k224_887 k224_888 k224_889 k224_890 k224_891 hi (by omega) (by omega) hl rfl rfl]
  rw [u_callI (ls0 := [vR 2, vI (g 1 (i + 1)), vI (g 1 (i + 2)), vI (g 1 (i + 3)), vU]) (rest := []) (pc' := 895) (v := (oDraw V (g 1 (i + 1)) (g 1 (i + 2)) (g 1 (i + 3))).1) (g' := g1) k224_892 rfl (hy4 rfl rfl rfl rfl) rfl rfl hq_128 rfl e1]
  rw [RF_row (pc' := 896) (ls' := [vR 1, vR 2, vR 137, vI i]) (st' := [vR 137, vI (oDraw V (g 1 (i + 1)) (g 1 (i + 2)) (g 1 (i + 3))).1]) (sh' := SH L) (g' := g1) k224_895 rfl rfl]
  rw [w_arg (g := g1) (i := i) (v := g 1 (i + 1)) (k := 1) (pc' := 901) k224_896 k224_897 k224_898 k224_899 k224_900 hi (by omega) (by omega) hl (hh _) rfl]
  rw [w_arg (g := g1) (i := i) (v := g 1 (i + 2)) (k := 2) (pc' := 906) k224_901 k224_902 k224_903 k224_904 k224_905 hi (by omega) (by omega) hl (hh _) rfl]
  rw [w_arg (g := g1) (i := i) (v := g 1 (i + 3)) (k := 3) (pc' := 911) k224_906 k224_907 k224_908 k224_909 k224_910 hi (by omega) (by omega) hl (hh _) rfl]
  rw [u_callI (ls0 := [vR 137, vI (g 1 (i + 1)), vI (g 1 (i + 2)), vI (g 1 (i + 3)), vU, vU, vU, vU, vU, vU, vU, vU, vU]) (rest := [vI (oDraw V (g 1 (i + 1)) (g 1 (i + 2)) (g 1 (i + 3))).1]) (pc' := 914) (v := (oDraw V (g 1 (i + 1)) (g 1 (i + 2)) (g 1 (i + 3))).1) (g' := g2) k224_911 rfl (hy4 rfl rfl rfl rfl) rfl rfl hq_204 rfl e2]
  exact w_endI k224_914 rfl hi (by omega)
theorem lc_26 (h : Inv L xs V g) (hi : 0 ≤ i) (hL : i + 4 ≤ L) (hl : L ≤ 2048) : ∃ V' g', RF 224 919 [vR 1, vR 2, vR 137, vI i] [] (SH L) g = RF 224 18 [vR 1, vR 2, vR 137, vI (i + 4)] [] (SH L) g' ∧ Inv L xs V' g' := by
  obtain ⟨t, hC⟩ := h.2.1
  have hX : CO (oTold V (g 1 (i + 1))) (jX_told L (g 1 (i + 1)) g) g := cX_told h.1 hC
  obtain ⟨g1, g2, e1, hh, e2, hI⟩ := inv_step (q2 := fun g1 => jM_told L (g 1 (i + 1)) g1) h hX (oTold_V h.1) (fun g1 hR => RO_w (cM_told h.1 hR))
  unfold jX_told at e1
  unfold jM_told at e2
  refine ⟨_, g2, ?_, hI⟩
  rw [RF_row (pc' := 920) (ls' := [vR 1, vR 2, vR 137, vI i]) (st' := [vR 2]) (sh' := SH L) (g' := g) k224_919 rfl rfl]
  rw [w_arg (g := g) (i := i) (v := g 1 (i + 1)) (k := 1) (pc' := 925) k224_920 k224_921 k224_922 k224_923 k224_924 hi (by omega) (by omega) hl rfl rfl]
  rw [u_callI (ls0 := [vR 2, vI (g 1 (i + 1))]) (rest := []) (pc' := 928) (v := (oTold V (g 1 (i + 1))).1) (g' := g1) k224_925 rfl (hy4 rfl rfl rfl rfl) rfl rfl hq_130 rfl e1]
  rw [RF_row (pc' := 929) (ls' := [vR 1, vR 2, vR 137, vI i]) (st' := [vR 137, vI (oTold V (g 1 (i + 1))).1]) (sh' := SH L) (g' := g1) k224_928 rfl rfl]
  rw [w_arg (g := g1) (i := i) (v := g 1 (i + 1)) (k := 1) (pc' := 934) k224_929 k224_930 k224_931 k224_932 k224_933 hi (by omega) (by omega) hl (hh _) rfl]
  rw [u_callI (ls0 := [vR 137, vI (g 1 (i + 1))]) (rest := [vI (oTold V (g 1 (i + 1))).1]) (pc' := 937) (v := (oTold V (g 1 (i + 1))).1) (g' := g2) k224_934 rfl (hy4 rfl rfl rfl rfl) rfl rfl hq_206 rfl e2]
  exact w_endI k224_937 rfl hi (by omega)
theorem lc_27 (h : Inv L xs V g) (hi : 0 ≤ i) (hL : i + 4 ≤ L) (hl : L ≤ 2048) : ∃ V' g', RF 224 942 [vR 1, vR 2, vR 137, vI i] [] (SH L) g = RF 224 18 [vR 1, vR 2, vR 137, vI (i + 4)] [] (SH L) g' ∧ Inv L xs V' g' := by
  obtain ⟨t, hC⟩ := h.2.1
  have hX : CO (oDigest V) (jX_digest L g) g := cX_digest h.1 hC
  obtain ⟨g1, g2, e1, hh, e2, hI⟩ := inv_step (q2 := fun g1 => jM_digest L g1) h hX (oDigest_V h.1) (fun g1 hR => RO_w (cM_digest h.1 hR))
  unfold jX_digest at e1
  unfold jM_digest at e2
  refine ⟨_, g2, ?_, hI⟩
  rw [RF_row (pc' := 943) (ls' := [vR 1, vR 2, vR 137, vI i]) (st' := [vR 2]) (sh' := SH L) (g' := g) k224_942 rfl rfl]
  rw [u_callL (ls0 := [vR 2, vU, vU, vU]) (rest := []) (pc' := 946) (v := (oDigest V).1) (g' := g1) k224_943 rfl (hy4 rfl rfl rfl rfl) rfl rfl hq_131 rfl e1]
  rw [RF_row (pc' := 947) (ls' := [vR 1, vR 2, vR 137, vI i]) (st' := [vR 137, vL (oDigest V).1]) (sh' := SH L) (g' := g1) k224_946 rfl rfl]
  rw [u_callL (ls0 := [vR 137, vU, vU, vU, vU]) (rest := [vL (oDigest V).1]) (pc' := 950) (v := (oDigest V).1) (g' := g2) k224_947 rfl (hy4 rfl rfl rfl rfl) rfl rfl hq_207 rfl e2]
  exact w_endL k224_950 k224_951 rfl hi (by omega)
end CAS
