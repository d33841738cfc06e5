/-! the law: the calls, one by one -/
section CAS
variable {L : Nat} {xs : Nat → Int32} {V g : AMem} {i : Int}
theorem lc_0 (h : Inv L xs V g) (hi : 0 ≤ i) (hL : i + 4 ≤ L) (hl : L ≤ 2048) : ∃ V' g', RF 226 160 [vR 1, vR 2, vR 137, vI i] [] (SH L) g = RF 226 18 [vR 1, vR 2, vR 137, vI (i + 4)] [] (SH L) g' ∧ Inv L xs V' g' := by
  obtain ⟨t, hC⟩ := h.2.1
  have hX : CO (oAnew V) (jX_anew L g) g := cX_anew hC
  obtain ⟨g1, g2, e1, hh, e2, hI⟩ := inv_step (q2 := fun g1 => jM_anew L g1) h hX (oAnew_V h.1) (fun g1 hR => RO_w (cM_anew hR))
  unfold jX_anew at e1
  unfold jM_anew at e2
  refine ⟨_, g2, ?_, hI⟩
  rw [RF_row (pc' := 161) (ls' := [vR 1, vR 2, vR 137, vI i]) (st' := [vR 2]) (sh' := SH L) (g' := g) k226_160 rfl rfl]
  rw [u_callI (ls0 := [vR 2, vU]) (rest := []) (pc' := 164) (v := (oAnew V).1) (g' := g1) k226_161 rfl (hy4 rfl rfl rfl rfl) rfl rfl hq_93 rfl e1]
  rw [RF_row (pc' := 165) (ls' := [vR 1, vR 2, vR 137, vI i]) (st' := [vR 137, vI (oAnew V).1]) (sh' := SH L) (g' := g1) k226_164 rfl rfl]
  rw [u_callI (ls0 := [vR 137, vU]) (rest := [vI (oAnew V).1]) (pc' := 168) (v := (oAnew V).1) (g' := g2) k226_165 rfl (hy4 rfl rfl rfl rfl) rfl rfl hq_150 rfl e2]
  exact w_endI k226_168 rfl hi (by omega)
theorem lc_1 (h : Inv L xs V g) (hi : 0 ≤ i) (hL : i + 4 ≤ L) (hl : L ≤ 2048) : ∃ V' g', RF 226 173 [vR 1, vR 2, vR 137, vI i] [] (SH L) g = RF 226 18 [vR 1, vR 2, vR 137, vI (i + 4)] [] (SH L) g' ∧ Inv L xs V' g' := by
  obtain ⟨t, hC⟩ := h.2.1
  have hX : CO (oBlock V) (jX_block L g) g := cX_block h.1 hC
  obtain ⟨g1, g2, e1, hh, e2, hI⟩ := inv_step (q2 := fun g1 => jM_block L g1) h hX (oBlock_V h.1) (fun g1 hR => RO_w (cM_block h.1 hR))
  unfold jX_block at e1
  unfold jM_block at e2
  refine ⟨_, g2, ?_, hI⟩
  rw [RF_row (pc' := 174) (ls' := [vR 1, vR 2, vR 137, vI i]) (st' := [vR 2]) (sh' := SH L) (g' := g) k226_173 rfl rfl]
  rw [u_callI (ls0 := [vR 2]) (rest := []) (pc' := 177) (v := (oBlock V).1) (g' := g1) k226_174 rfl (hy4 rfl rfl rfl rfl) rfl rfl hq_95 rfl e1]
  rw [RF_row (pc' := 178) (ls' := [vR 1, vR 2, vR 137, vI i]) (st' := [vR 137, vI (oBlock V).1]) (sh' := SH L) (g' := g1) k226_177 rfl rfl]
  rw [u_callI (ls0 := [vR 137]) (rest := [vI (oBlock V).1]) (pc' := 181) (v := (oBlock V).1) (g' := g2) k226_178 rfl (hy4 rfl rfl rfl rfl) rfl rfl hq_152 rfl e2]
  exact w_endI k226_181 rfl hi (by omega)
theorem lc_2 (h : Inv L xs V g) (hi : 0 ≤ i) (hL : i + 4 ≤ L) (hl : L ≤ 2048) : ∃ V' g', RF 226 186 [vR 1, vR 2, vR 137, vI i] [] (SH L) g = RF 226 18 [vR 1, vR 2, vR 137, vI (i + 4)] [] (SH L) g' ∧ Inv L xs V' g' := by
  obtain ⟨t, hC⟩ := h.2.1
  have hX : CO (oParameter V (g 1 (i + 1)) (g 1 (i + 2))) (jX_parameter L (g 1 (i + 1)) (g 1 (i + 2)) g) g := cX_parameter h.1 hC (cno_x h (show 0 ≤ i + 2 by omega) (show i + 2 < L by omega))
  obtain ⟨g1, g2, e1, hh, e2, hI⟩ := inv_step (q2 := fun g1 => jM_parameter L (g 1 (i + 1)) (g 1 (i + 2)) g1) h hX (oParameter_V h.1) (fun g1 hR => RO_w (cM_parameter h.1 hR (cno_x h (show 0 ≤ i + 2 by omega) (show i + 2 < L by omega))))
  unfold jX_parameter at e1
  unfold jM_parameter at e2
  refine ⟨_, g2, ?_, hI⟩
  rw [RF_row (pc' := 187) (ls' := [vR 1, vR 2, vR 137, vI i]) (st' := [vR 2]) (sh' := SH L) (g' := g) k226_186 rfl rfl]
  rw [w_arg (g := g) (i := i) (v := g 1 (i + 1)) (k := 1) (pc' := 192) k226_187 k226_188 k226_189 k226_190 k226_191 hi (by omega) (by omega) hl rfl rfl]
  rw [w_arg (g := g) (i := i) (v := g 1 (i + 2)) (k := 2) (pc' := 197) k226_192 k226_193 k226_194 k226_195 k226_196 hi (by omega) (by omega) hl rfl rfl]
  rw [u_callI (ls0 := [vR 2, vI (g 1 (i + 1)), vI (g 1 (i + 2))]) (rest := []) (pc' := 200) (v := (oParameter V (g 1 (i + 1)) (g 1 (i + 2))).1) (g' := g1) k226_197 rfl (hy4 rfl rfl rfl rfl) rfl rfl hq_96 rfl e1]
  rw [RF_row (pc' := 201) (ls' := [vR 1, vR 2, vR 137, vI i]) (st' := [vR 137, vI (oParameter V (g 1 (i + 1)) (g 1 (i + 2))).1]) (sh' := SH L) (g' := g1) k226_200 rfl rfl]
  rw [w_arg (g := g1) (i := i) (v := g 1 (i + 1)) (k := 1) (pc' := 206) k226_201 k226_202 k226_203 k226_204 k226_205 hi (by omega) (by omega) hl (hh _) rfl]
  rw [w_arg (g := g1) (i := i) (v := g 1 (i + 2)) (k := 2) (pc' := 211) k226_206 k226_207 k226_208 k226_209 k226_210 hi (by omega) (by omega) hl (hh _) rfl]
  rw [u_callI (ls0 := [vR 137, vI (g 1 (i + 1)), vI (g 1 (i + 2))]) (rest := [vI (oParameter V (g 1 (i + 1)) (g 1 (i + 2))).1]) (pc' := 214) (v := (oParameter V (g 1 (i + 1)) (g 1 (i + 2))).1) (g' := g2) k226_211 rfl (hy4 rfl rfl rfl rfl) rfl rfl hq_155 rfl e2]
  exact w_endI k226_214 rfl hi (by omega)
theorem lc_3 (h : Inv L xs V g) (hi : 0 ≤ i) (hL : i + 4 ≤ L) (hl : L ≤ 2048) : ∃ V' g', RF 226 219 [vR 1, vR 2, vR 137, vI i] [] (SH L) g = RF 226 18 [vR 1, vR 2, vR 137, vI (i + 4)] [] (SH L) g' ∧ Inv L xs V' g' := by
  obtain ⟨t, hC⟩ := h.2.1
  have hX : CO (oEdge V (g 1 (i + 1)) (g 1 (i + 2)) (g 1 (i + 3))) (jX_edge L (g 1 (i + 1)) (g 1 (i + 2)) (g 1 (i + 3)) g) g := cX_edge h.1 hC
  obtain ⟨g1, g2, e1, hh, e2, hI⟩ := inv_step (q2 := fun g1 => jM_edge L (g 1 (i + 1)) (g 1 (i + 2)) (g 1 (i + 3)) g1) h hX (oEdge_V h.1) (fun g1 hR => RO_w (cM_edge h.1 hR))
  unfold jX_edge at e1
  unfold jM_edge at e2
  refine ⟨_, g2, ?_, hI⟩
  rw [RF_row (pc' := 220) (ls' := [vR 1, vR 2, vR 137, vI i]) (st' := [vR 2]) (sh' := SH L) (g' := g) k226_219 rfl rfl]
  rw [w_arg (g := g) (i := i) (v := g 1 (i + 1)) (k := 1) (pc' := 225) k226_220 k226_221 k226_222 k226_223 k226_224 hi (by omega) (by omega) hl rfl rfl]
  rw [w_arg (g := g) (i := i) (v := g 1 (i + 2)) (k := 2) (pc' := 230) k226_225 k226_226 k226_227 k226_228 k226_229 hi (by omega) (by omega) hl rfl rfl]
  rw [w_arg (g := g) (i := i) (v := g 1 (i + 3)) (k := 3) (pc' := 235) k226_230 k226_231 k226_232 k226_233 k226_234 hi (by omega) (by omega) hl rfl rfl]
  rw [u_callI (ls0 := [vR 2, vI (g 1 (i + 1)), vI (g 1 (i + 2)), vI (g 1 (i + 3))]) (rest := []) (pc' := 238) (v := (oEdge V (g 1 (i + 1)) (g 1 (i + 2)) (g 1 (i + 3))).1) (g' := g1) k226_235 rfl (hy4 rfl rfl rfl rfl) rfl rfl hq_97 rfl e1]
  rw [RF_row (pc' := 239) (ls' := [vR 1, vR 2, vR 137, vI i]) (st' := [vR 137, vI (oEdge V (g 1 (i + 1)) (g 1 (i + 2)) (g 1 (i + 3))).1]) (sh' := SH L) (g' := g1) k226_238 rfl rfl]
  rw [w_arg (g := g1) (i := i) (v := g 1 (i + 1)) (k := 1) (pc' := 244) k226_239 k226_240 k226_241 k226_242 k226_243 hi (by omega) (by omega) hl (hh _) rfl]
  rw [w_arg (g := g1) (i := i) (v := g 1 (i + 2)) (k := 2) (pc' := 249) k226_244 k226_245 k226_246 k226_247 k226_248 hi (by omega) (by omega) hl (hh _) rfl]
  rw [w_arg (g := g1) (i := i) (v := g 1 (i + 3)) (k := 3) (pc' := 254) k226_249 k226_250 k226_251 k226_252 k226_253 hi (by omega) (by omega) hl (hh _) rfl]
  rw [u_callI (ls0 := [vR 137, vI (g 1 (i + 1)), vI (g 1 (i + 2)), vI (g 1 (i + 3))]) (rest := [vI (oEdge V (g 1 (i + 1)) (g 1 (i + 2)) (g 1 (i + 3))).1]) (pc' := 257) (v := (oEdge V (g 1 (i + 1)) (g 1 (i + 2)) (g 1 (i + 3))).1) (g' := g2) k226_254 rfl (hy4 rfl rfl rfl rfl) rfl rfl hq_157 rfl e2]
  exact w_endI k226_257 rfl hi (by omega)
theorem lc_4 (h : Inv L xs V g) (hi : 0 ≤ i) (hL : i + 4 ≤ L) (hl : L ≤ 2048) : ∃ V' g', RF 226 262 [vR 1, vR 2, vR 137, vI i] [] (SH L) g = RF 226 18 [vR 1, vR 2, vR 137, vI (i + 4)] [] (SH L) g' ∧ Inv L xs V' g' := by
  obtain ⟨t, hC⟩ := h.2.1
  have hX : CO (oArgument V (g 1 (i + 1)) (g 1 (i + 2)) (g 1 (i + 3))) (jX_argument L (g 1 (i + 1)) (g 1 (i + 2)) (g 1 (i + 3)) g) g := cX_argument h.1 hC (cno_x h (show 0 ≤ i + 3 by omega) (show i + 3 < L by omega))
  obtain ⟨g1, g2, e1, hh, e2, hI⟩ := inv_step (q2 := fun g1 => jM_argument L (g 1 (i + 1)) (g 1 (i + 2)) (g 1 (i + 3)) g1) h hX (oArgument_V h.1) (fun g1 hR => RO_w (cM_argument h.1 hR (cno_x h (show 0 ≤ i + 3 by omega) (show i + 3 < L by omega))))
  unfold jX_argument at e1
  unfold jM_argument at e2
  refine ⟨_, g2, ?_, hI⟩
  rw [RF_row (pc' := 263) (ls' := [vR 1, vR 2, vR 137, vI i]) (st' := [vR 2]) (sh' := SH L) (g' := g) k226_262 rfl rfl]
  rw [w_arg (g := g) (i := i) (v := g 1 (i + 1)) (k := 1) (pc' := 268) k226_263 k226_264 k226_265 k226_266 k226_267 hi (by omega) (by omega) hl rfl rfl]
  rw [w_arg (g := g) (i := i) (v := g 1 (i + 2)) (k := 2) (pc' := 273) k226_268 k226_269 k226_270 k226_271 k226_272 hi (by omega) (by omega) hl rfl rfl]
  rw [w_arg (g := g) (i := i) (v := g 1 (i + 3)) (k := 3) (pc' := 278) k226_273 k226_274 k226_275 k226_276 k226_277 hi (by omega) (by omega) hl rfl rfl]
  rw [u_callI (ls0 := [vR 2, vI (g 1 (i + 1)), vI (g 1 (i + 2)), vI (g 1 (i + 3)), vU]) (rest := []) (pc' := 281) (v := (oArgument V (g 1 (i + 1)) (g 1 (i + 2)) (g 1 (i + 3))).1) (g' := g1) k226_278 rfl (hy4 rfl rfl rfl rfl) rfl rfl hq_98 rfl e1]
  rw [RF_row (pc' := 282) (ls' := [vR 1, vR 2, vR 137, vI i]) (st' := [vR 137, vI (oArgument V (g 1 (i + 1)) (g 1 (i + 2)) (g 1 (i + 3))).1]) (sh' := SH L) (g' := g1) k226_281 rfl rfl]
  rw [w_arg (g := g1) (i := i) (v := g 1 (i + 1)) (k := 1) (pc' := 287) k226_282 k226_283 k226_284 k226_285 k226_286 hi (by omega) (by omega) hl (hh _) rfl]
  rw [w_arg (g := g1) (i := i) (v := g 1 (i + 2)) (k := 2) (pc' := 292) k226_287 k226_288 k226_289 k226_290 k226_291 hi (by omega) (by omega) hl (hh _) rfl]
  rw [w_arg (g := g1) (i := i) (v := g 1 (i + 3)) (k := 3) (pc' := 297) k226_292 k226_293 k226_294 k226_295 k226_296 hi (by omega) (by omega) hl (hh _) rfl]
  rw [u_callI (ls0 := [vR 137, vI (g 1 (i + 1)), vI (g 1 (i + 2)), vI (g 1 (i + 3)), vU]) (rest := [vI (oArgument V (g 1 (i + 1)) (g 1 (i + 2)) (g 1 (i + 3))).1]) (pc' := 300) (v := (oArgument V (g 1 (i + 1)) (g 1 (i + 2)) (g 1 (i + 3))).1) (g' := g2) k226_297 rfl (hy4 rfl rfl rfl rfl) rfl rfl hq_159 rfl e2]
  exact w_endI k226_300 rfl hi (by omega)
theorem lc_5 (h : Inv L xs V g) (hi : 0 ≤ i) (hL : i + 4 ≤ L) (hl : L ≤ 2048) : ∃ V' g', RF 226 305 [vR 1, vR 2, vR 137, vI i] [] (SH L) g = RF 226 18 [vR 1, vR 2, vR 137, vI (i + 4)] [] (SH L) g' ∧ Inv L xs V' g' := by
  obtain ⟨t, hC⟩ := h.2.1
  have hX : CO (oWeight V (g 1 (i + 1)) (g 1 (i + 2))) (jX_weight L (g 1 (i + 1)) (g 1 (i + 2)) g) g := cX_weight h.1 hC
  obtain ⟨g1, g2, e1, hh, e2, hI⟩ := inv_step (q2 := fun g1 => jM_weight L (g 1 (i + 1)) (g 1 (i + 2)) g1) h hX (oWeight_V h.1) (fun g1 hR => RO_w (cM_weight h.1 hR))
  unfold jX_weight at e1
  unfold jM_weight at e2
  refine ⟨_, g2, ?_, hI⟩
  rw [RF_row (pc' := 306) (ls' := [vR 1, vR 2, vR 137, vI i]) (st' := [vR 2]) (sh' := SH L) (g' := g) k226_305 rfl rfl]
  rw [w_arg (g := g) (i := i) (v := g 1 (i + 1)) (k := 1) (pc' := 311) k226_306 k226_307 k226_308 k226_309 k226_310 hi (by omega) (by omega) hl rfl rfl]
  rw [w_arg (g := g) (i := i) (v := g 1 (i + 2)) (k := 2) (pc' := 316) k226_311 k226_312 k226_313 k226_314 k226_315 hi (by omega) (by omega) hl rfl rfl]
  rw [u_callI (ls0 := [vR 2, vI (g 1 (i + 1)), vI (g 1 (i + 2)), vU]) (rest := []) (pc' := 319) (v := (oWeight V (g 1 (i + 1)) (g 1 (i + 2))).1) (g' := g1) k226_316 rfl (hy4 rfl rfl rfl rfl) rfl rfl hq_99 rfl e1]
  rw [RF_row (pc' := 320) (ls' := [vR 1, vR 2, vR 137, vI i]) (st' := [vR 137, vI (oWeight V (g 1 (i + 1)) (g 1 (i + 2))).1]) (sh' := SH L) (g' := g1) k226_319 rfl rfl]
  rw [w_arg (g := g1) (i := i) (v := g 1 (i + 1)) (k := 1) (pc' := 325) k226_320 k226_321 k226_322 k226_323 k226_324 hi (by omega) (by omega) hl (hh _) rfl]
  rw [w_arg (g := g1) (i := i) (v := g 1 (i + 2)) (k := 2) (pc' := 330) k226_325 k226_326 k226_327 k226_328 k226_329 hi (by omega) (by omega) hl (hh _) rfl]
  rw [u_callI (ls0 := [vR 137, vI (g 1 (i + 1)), vI (g 1 (i + 2)), vU]) (rest := [vI (oWeight V (g 1 (i + 1)) (g 1 (i + 2))).1]) (pc' := 333) (v := (oWeight V (g 1 (i + 1)) (g 1 (i + 2))).1) (g' := g2) k226_330 rfl (hy4 rfl rfl rfl rfl) rfl rfl hq_160 rfl e2]
  exact w_endI k226_333 rfl hi (by omega)
theorem lc_6 (h : Inv L xs V g) (hi : 0 ≤ i) (hL : i + 4 ≤ L) (hl : L ≤ 2048) : ∃ V' g', RF 226 338 [vR 1, vR 2, vR 137, vI i] [] (SH L) g = RF 226 18 [vR 1, vR 2, vR 137, vI (i + 4)] [] (SH L) g' ∧ Inv L xs V' g' := by
  obtain ⟨t, hC⟩ := h.2.1
  have hX : CO (oMachine V (g 1 (i + 1))) (jX_machine L (g 1 (i + 1)) g) g := cX_machine h.1 hC
  obtain ⟨g1, g2, e1, hh, e2, hI⟩ := inv_step (q2 := fun g1 => jM_machine L (g 1 (i + 1)) g1) h hX (oMachine_V h.1) (fun g1 hR => RO_w (cM_machine h.1 hR))
  unfold jX_machine at e1
  unfold jM_machine at e2
  refine ⟨_, g2, ?_, hI⟩
  rw [RF_row (pc' := 339) (ls' := [vR 1, vR 2, vR 137, vI i]) (st' := [vR 2]) (sh' := SH L) (g' := g) k226_338 rfl rfl]
  rw [w_arg (g := g) (i := i) (v := g 1 (i + 1)) (k := 1) (pc' := 344) k226_339 k226_340 k226_341 k226_342 k226_343 hi (by omega) (by omega) hl rfl rfl]
  rw [u_callI (ls0 := [vR 2, vI (g 1 (i + 1)), vU]) (rest := []) (pc' := 347) (v := (oMachine V (g 1 (i + 1))).1) (g' := g1) k226_344 rfl (hy4 rfl rfl rfl rfl) rfl rfl hq_100 rfl e1]
  rw [RF_row (pc' := 348) (ls' := [vR 1, vR 2, vR 137, vI i]) (st' := [vR 137, vI (oMachine V (g 1 (i + 1))).1]) (sh' := SH L) (g' := g1) k226_347 rfl rfl]
  rw [w_arg (g := g1) (i := i) (v := g 1 (i + 1)) (k := 1) (pc' := 353) k226_348 k226_349 k226_350 k226_351 k226_352 hi (by omega) (by omega) hl (hh _) rfl]
  rw [u_callI (ls0 := [vR 137, vI (g 1 (i + 1)), vU]) (rest := [vI (oMachine V (g 1 (i + 1))).1]) (pc' := 356) (v := (oMachine V (g 1 (i + 1))).1) (g' := g2) k226_353 rfl (hy4 rfl rfl rfl rfl) rfl rfl hq_161 rfl e2]
  exact w_endI k226_356 rfl hi (by omega)
theorem lc_7 (h : Inv L xs V g) (hi : 0 ≤ i) (hL : i + 4 ≤ L) (hl : L ≤ 2048) : ∃ V' g', RF 226 361 [vR 1, vR 2, vR 137, vI i] [] (SH L) g = RF 226 18 [vR 1, vR 2, vR 137, vI (i + 4)] [] (SH L) g' ∧ Inv L xs V' g' := by
  obtain ⟨t, hC⟩ := h.2.1
  have hX : CO (oOf V (g 1 (i + 1)) (g 1 (i + 2))) (jX_of L (g 1 (i + 1)) (g 1 (i + 2)) g) g := cX_of h.1 hC
  obtain ⟨g1, g2, e1, hh, e2, hI⟩ := inv_step (q2 := fun g1 => jM_of L (g 1 (i + 1)) (g 1 (i + 2)) g1) h hX (oOf_V h.1) (fun g1 hR => RO_w (cM_of h.1 hR))
  unfold jX_of at e1
  unfold jM_of at e2
  refine ⟨_, g2, ?_, hI⟩
  rw [RF_row (pc' := 362) (ls' := [vR 1, vR 2, vR 137, vI i]) (st' := [vR 2]) (sh' := SH L) (g' := g) k226_361 rfl rfl]
  rw [w_arg (g := g) (i := i) (v := g 1 (i + 1)) (k := 1) (pc' := 367) k226_362 k226_363 k226_364 k226_365 k226_366 hi (by omega) (by omega) hl rfl rfl]
  rw [w_arg (g := g) (i := i) (v := g 1 (i + 2)) (k := 2) (pc' := 372) k226_367 k226_368 k226_369 k226_370 k226_371 hi (by omega) (by omega) hl rfl rfl]
  rw [u_callI (ls0 := [vR 2, vI (g 1 (i + 1)), vI (g 1 (i + 2))]) (rest := []) (pc' := 375) (v := (oOf V (g 1 (i + 1)) (g 1 (i + 2))).1) (g' := g1) k226_372 rfl (hy4 rfl rfl rfl rfl) rfl rfl hq_102 rfl e1]
  rw [RF_row (pc' := 376) (ls' := [vR 1, vR 2, vR 137, vI i]) (st' := [vR 137, vI (oOf V (g 1 (i + 1)) (g 1 (i + 2))).1]) (sh' := SH L) (g' := g1) k226_375 rfl rfl]
  rw [w_arg (g := g1) (i := i) (v := g 1 (i + 1)) (k := 1) (pc' := 381) k226_376 k226_377 k226_378 k226_379 k226_380 hi (by omega) (by omega) hl (hh _) rfl]
  rw [w_arg (g := g1) (i := i) (v := g 1 (i + 2)) (k := 2) (pc' := 386) k226_381 k226_382 k226_383 k226_384 k226_385 hi (by omega) (by omega) hl (hh _) rfl]
  rw [u_callI (ls0 := [vR 137, vI (g 1 (i + 1)), vI (g 1 (i + 2))]) (rest := [vI (oOf V (g 1 (i + 1)) (g 1 (i + 2))).1]) (pc' := 389) (v := (oOf V (g 1 (i + 1)) (g 1 (i + 2))).1) (g' := g2) k226_386 rfl (hy4 rfl rfl rfl rfl) rfl rfl hq_168 rfl e2]
  exact w_endI k226_389 rfl hi (by omega)
theorem lc_8 (h : Inv L xs V g) (hi : 0 ≤ i) (hL : i + 4 ≤ L) (hl : L ≤ 2048) : ∃ V' g', RF 226 394 [vR 1, vR 2, vR 137, vI i] [] (SH L) g = RF 226 18 [vR 1, vR 2, vR 137, vI (i + 4)] [] (SH L) g' ∧ Inv L xs V' g' := by
  obtain ⟨t, hC⟩ := h.2.1
  have hX : CO (oAbout V (g 1 (i + 1)) (g 1 (i + 2))) (jX_about L (g 1 (i + 1)) (g 1 (i + 2)) g) g := cX_about h.1 hC
  obtain ⟨g1, g2, e1, hh, e2, hI⟩ := inv_step (q2 := fun g1 => jM_about L (g 1 (i + 1)) (g 1 (i + 2)) g1) h hX (oAbout_V h.1) (fun g1 hR => RO_w (cM_about h.1 hR))
  unfold jX_about at e1
  unfold jM_about at e2
  refine ⟨_, g2, ?_, hI⟩
  rw [RF_row (pc' := 395) (ls' := [vR 1, vR 2, vR 137, vI i]) (st' := [vR 2]) (sh' := SH L) (g' := g) k226_394 rfl rfl]
  rw [w_arg (g := g) (i := i) (v := g 1 (i + 1)) (k := 1) (pc' := 400) k226_395 k226_396 k226_397 k226_398 k226_399 hi (by omega) (by omega) hl rfl rfl]
  rw [w_arg (g := g) (i := i) (v := g 1 (i + 2)) (k := 2) (pc' := 405) k226_400 k226_401 k226_402 k226_403 k226_404 hi (by omega) (by omega) hl rfl rfl]
  rw [u_callI (ls0 := [vR 2, vI (g 1 (i + 1)), vI (g 1 (i + 2))]) (rest := []) (pc' := 408) (v := (oAbout V (g 1 (i + 1)) (g 1 (i + 2))).1) (g' := g1) k226_405 rfl (hy4 rfl rfl rfl rfl) rfl rfl hq_103 rfl e1]
  rw [RF_row (pc' := 409) (ls' := [vR 1, vR 2, vR 137, vI i]) (st' := [vR 137, vI (oAbout V (g 1 (i + 1)) (g 1 (i + 2))).1]) (sh' := SH L) (g' := g1) k226_408 rfl rfl]
  rw [w_arg (g := g1) (i := i) (v := g 1 (i + 1)) (k := 1) (pc' := 414) k226_409 k226_410 k226_411 k226_412 k226_413 hi (by omega) (by omega) hl (hh _) rfl]
  rw [w_arg (g := g1) (i := i) (v := g 1 (i + 2)) (k := 2) (pc' := 419) k226_414 k226_415 k226_416 k226_417 k226_418 hi (by omega) (by omega) hl (hh _) rfl]
  rw [u_callI (ls0 := [vR 137, vI (g 1 (i + 1)), vI (g 1 (i + 2))]) (rest := [vI (oAbout V (g 1 (i + 1)) (g 1 (i + 2))).1]) (pc' := 422) (v := (oAbout V (g 1 (i + 1)) (g 1 (i + 2))).1) (g' := g2) k226_419 rfl (hy4 rfl rfl rfl rfl) rfl rfl hq_169 rfl e2]
  exact w_endI k226_422 rfl hi (by omega)
theorem lc_9 (h : Inv L xs V g) (hi : 0 ≤ i) (hL : i + 4 ≤ L) (hl : L ≤ 2048) : ∃ V' g', RF 226 427 [vR 1, vR 2, vR 137, vI i] [] (SH L) g = RF 226 18 [vR 1, vR 2, vR 137, vI (i + 4)] [] (SH L) g' ∧ Inv L xs V' g' := by
  obtain ⟨t, hC⟩ := h.2.1
  have hX : CO (oRegion V (g 1 (i + 1)) (g 1 (i + 2))) (jX_region L (g 1 (i + 1)) (g 1 (i + 2)) g) g := cX_region h.1 hC
  obtain ⟨g1, g2, e1, hh, e2, hI⟩ := inv_step (q2 := fun g1 => jM_region L (g 1 (i + 1)) (g 1 (i + 2)) g1) h hX (oRegion_V h.1) (fun g1 hR => RO_w (cM_region h.1 hR))
  unfold jX_region at e1
  unfold jM_region at e2
  refine ⟨_, g2, ?_, hI⟩
  rw [RF_row (pc' := 428) (ls' := [vR 1, vR 2, vR 137, vI i]) (st' := [vR 2]) (sh' := SH L) (g' := g) k226_427 rfl rfl]
  rw [w_arg (g := g) (i := i) (v := g 1 (i + 1)) (k := 1) (pc' := 433) k226_428 k226_429 k226_430 k226_431 k226_432 hi (by omega) (by omega) hl rfl rfl]
  rw [w_arg (g := g) (i := i) (v := g 1 (i + 2)) (k := 2) (pc' := 438) k226_433 k226_434 k226_435 k226_436 k226_437 hi (by omega) (by omega) hl rfl rfl]
  rw [u_callI (ls0 := [vR 2, vI (g 1 (i + 1)), vI (g 1 (i + 2))]) (rest := []) (pc' := 441) (v := (oRegion V (g 1 (i + 1)) (g 1 (i + 2))).1) (g' := g1) k226_438 rfl (hy4 rfl rfl rfl rfl) rfl rfl hq_104 rfl e1]
  rw [RF_row (pc' := 442) (ls' := [vR 1, vR 2, vR 137, vI i]) (st' := [vR 137, vI (oRegion V (g 1 (i + 1)) (g 1 (i + 2))).1]) (sh' := SH L) (g' := g1) k226_441 rfl rfl]
  rw [w_arg (g := g1) (i := i) (v := g 1 (i + 1)) (k := 1) (pc' := 447) k226_442 k226_443 k226_444 k226_445 k226_446 hi (by omega) (by omega) hl (hh _) rfl]
  rw [w_arg (g := g1) (i := i) (v := g 1 (i + 2)) (k := 2) (pc' := 452) k226_447 k226_448 k226_449 k226_450 k226_451 hi (by omega) (by omega) hl (hh _) rfl]
  rw [u_callI (ls0 := [vR 137, vI (g 1 (i + 1)), vI (g 1 (i + 2))]) (rest := [vI (oRegion V (g 1 (i + 1)) (g 1 (i + 2))).1]) (pc' := 455) (v := (oRegion V (g 1 (i + 1)) (g 1 (i + 2))).1) (g' := g2) k226_452 rfl (hy4 rfl rfl rfl rfl) rfl rfl hq_170 rfl e2]
  exact w_endI k226_455 rfl hi (by omega)
theorem lc_10 (h : Inv L xs V g) (hi : 0 ≤ i) (hL : i + 4 ≤ L) (hl : L ≤ 2048) : ∃ V' g', RF 226 460 [vR 1, vR 2, vR 137, vI i] [] (SH L) g = RF 226 18 [vR 1, vR 2, vR 137, vI (i + 4)] [] (SH L) g' ∧ Inv L xs V' g' := by
  obtain ⟨t, hC⟩ := h.2.1
  have hX : CO (oGiven V (g 1 (i + 1)) (g 1 (i + 2))) (jX_given L (g 1 (i + 1)) (g 1 (i + 2)) g) g := cX_given h.1 hC
  obtain ⟨g1, g2, e1, hh, e2, hI⟩ := inv_step (q2 := fun g1 => jM_given L (g 1 (i + 1)) (g 1 (i + 2)) g1) h hX (oGiven_V h.1) (fun g1 hR => RO_w (cM_given h.1 hR))
  unfold jX_given at e1
  unfold jM_given at e2
  refine ⟨_, g2, ?_, hI⟩
  rw [RF_row (pc' := 461) (ls' := [vR 1, vR 2, vR 137, vI i]) (st' := [vR 2]) (sh' := SH L) (g' := g) k226_460 rfl rfl]
  rw [w_arg (g := g) (i := i) (v := g 1 (i + 1)) (k := 1) (pc' := 466) k226_461 k226_462 k226_463 k226_464 k226_465 hi (by omega) (by omega) hl rfl rfl]
  rw [w_arg (g := g) (i := i) (v := g 1 (i + 2)) (k := 2) (pc' := 471) k226_466 k226_467 k226_468 k226_469 k226_470 hi (by omega) (by omega) hl rfl rfl]
  rw [u_callI (ls0 := [vR 2, vI (g 1 (i + 1)), vI (g 1 (i + 2))]) (rest := []) (pc' := 474) (v := (oGiven V (g 1 (i + 1)) (g 1 (i + 2))).1) (g' := g1) k226_471 rfl (hy4 rfl rfl rfl rfl) rfl rfl hq_105 rfl e1]
  rw [RF_row (pc' := 475) (ls' := [vR 1, vR 2, vR 137, vI i]) (st' := [vR 137, vI (oGiven V (g 1 (i + 1)) (g 1 (i + 2))).1]) (sh' := SH L) (g' := g1) k226_474 rfl rfl]
  rw [w_arg (g := g1) (i := i) (v := g 1 (i + 1)) (k := 1) (pc' := 480) k226_475 k226_476 k226_477 k226_478 k226_479 hi (by omega) (by omega) hl (hh _) rfl]
  rw [w_arg (g := g1) (i := i) (v := g 1 (i + 2)) (k := 2) (pc' := 485) k226_480 k226_481 k226_482 k226_483 k226_484 hi (by omega) (by omega) hl (hh _) rfl]
  rw [u_callI (ls0 := [vR 137, vI (g 1 (i + 1)), vI (g 1 (i + 2))]) (rest := [vI (oGiven V (g 1 (i + 1)) (g 1 (i + 2))).1]) (pc' := 488) (v := (oGiven V (g 1 (i + 1)) (g 1 (i + 2))).1) (g' := g2) k226_485 rfl (hy4 rfl rfl rfl rfl) rfl rfl hq_171 rfl e2]
  exact w_endI k226_488 rfl hi (by omega)
theorem lc_11 (h : Inv L xs V g) (hi : 0 ≤ i) (hL : i + 4 ≤ L) (hl : L ≤ 2048) : ∃ V' g', RF 226 493 [vR 1, vR 2, vR 137, vI i] [] (SH L) g = RF 226 18 [vR 1, vR 2, vR 137, vI (i + 4)] [] (SH L) g' ∧ Inv L xs V' g' := by
  obtain ⟨t, hC⟩ := h.2.1
  have hX : CO (oType V (g 1 (i + 1))) (jX_type L (g 1 (i + 1)) g) g := cX_type h.1 hC
  obtain ⟨g1, g2, e1, hh, e2, hI⟩ := inv_step (q2 := fun g1 => jM_type L (g 1 (i + 1)) g1) h hX (oType_V h.1) (fun g1 hR => RO_w (cM_type h.1 hR))
  unfold jX_type at e1
  unfold jM_type at e2
  refine ⟨_, g2, ?_, hI⟩
  rw [RF_row (pc' := 494) (ls' := [vR 1, vR 2, vR 137, vI i]) (st' := [vR 2]) (sh' := SH L) (g' := g) k226_493 rfl rfl]
  rw [w_arg (g := g) (i := i) (v := g 1 (i + 1)) (k := 1) (pc' := 499) k226_494 k226_495 k226_496 k226_497 k226_498 hi (by omega) (by omega) hl rfl rfl]
  rw [u_callI (ls0 := [vR 2, vI (g 1 (i + 1))]) (rest := []) (pc' := 502) (v := (oType V (g 1 (i + 1))).1) (g' := g1) k226_499 rfl (hy4 rfl rfl rfl rfl) rfl rfl hq_106 rfl e1]
  rw [RF_row (pc' := 503) (ls' := [vR 1, vR 2, vR 137, vI i]) (st' := [vR 137, vI (oType V (g 1 (i + 1))).1]) (sh' := SH L) (g' := g1) k226_502 rfl rfl]
  rw [w_arg (g := g1) (i := i) (v := g 1 (i + 1)) (k := 1) (pc' := 508) k226_503 k226_504 k226_505 k226_506 k226_507 hi (by omega) (by omega) hl (hh _) rfl]
  rw [u_callI (ls0 := [vR 137, vI (g 1 (i + 1))]) (rest := [vI (oType V (g 1 (i + 1))).1]) (pc' := 511) (v := (oType V (g 1 (i + 1))).1) (g' := g2) k226_508 rfl (hy4 rfl rfl rfl rfl) rfl rfl hq_210 rfl e2]
  exact w_endI k226_511 rfl hi (by omega)
theorem lc_12 (h : Inv L xs V g) (hi : 0 ≤ i) (hL : i + 4 ≤ L) (hl : L ≤ 2048) : ∃ V' g', RF 226 516 [vR 1, vR 2, vR 137, vI i] [] (SH L) g = RF 226 18 [vR 1, vR 2, vR 137, vI (i + 4)] [] (SH L) g' ∧ Inv L xs V' g' := by
  obtain ⟨t, hC⟩ := h.2.1
  have hX : CO (oClear V) (jX_clear L g) g := cX_clear h.1 hC
  obtain ⟨g1, g2, e1, hh, e2, hI⟩ := inv_step (q2 := fun g1 => jM_clear L g1) h hX (oClear_V h.1) (fun g1 hR => RO_w (cM_clear h.1 hR))
  unfold jX_clear at e1
  unfold jM_clear at e2
  refine ⟨_, g2, ?_, hI⟩
  rw [RF_row (pc' := 517) (ls' := [vR 1, vR 2, vR 137, vI i]) (st' := [vR 2]) (sh' := SH L) (g' := g) k226_516 rfl rfl]
  rw [u_callI (ls0 := [vR 2, vU]) (rest := []) (pc' := 520) (v := (oClear V).1) (g' := g1) k226_517 rfl (hy4 rfl rfl rfl rfl) rfl rfl hq_107 rfl e1]
  rw [RF_row (pc' := 521) (ls' := [vR 1, vR 2, vR 137, vI i]) (st' := [vR 137, vI (oClear V).1]) (sh' := SH L) (g' := g1) k226_520 rfl rfl]
  rw [u_callI (ls0 := [vR 137, vU]) (rest := [vI (oClear V).1]) (pc' := 524) (v := (oClear V).1) (g' := g2) k226_521 rfl (hy4 rfl rfl rfl rfl) rfl rfl hq_211 rfl e2]
  exact w_endI k226_524 rfl hi (by omega)
theorem lc_13 (h : Inv L xs V g) (hi : 0 ≤ i) (hL : i + 4 ≤ L) (hl : L ≤ 2048) : ∃ V' g', RF 226 529 [vR 1, vR 2, vR 137, vI i] [] (SH L) g = RF 226 18 [vR 1, vR 2, vR 137, vI (i + 4)] [] (SH L) g' ∧ Inv L xs V' g' := by
  obtain ⟨t, hC⟩ := h.2.1
  have hX : CO (oRead V) (jX_read L g) g := cX_read h.1 hC
  obtain ⟨g1, g2, e1, hh, e2, hI⟩ := inv_step (q2 := fun g1 => jM_read L g1) h hX (oRead_V h.1) (fun g1 hR => cM_read h.1 hR)
  unfold jX_read at e1
  unfold jM_read at e2
  refine ⟨_, g2, ?_, hI⟩
  rw [RF_row (pc' := 530) (ls' := [vR 1, vR 2, vR 137, vI i]) (st' := [vR 2]) (sh' := SH L) (g' := g) k226_529 rfl rfl]
  rw [u_callI (ls0 := [vR 2, vU, vU]) (rest := []) (pc' := 533) (v := (oRead V).1) (g' := g1) k226_530 rfl (hy4 rfl rfl rfl rfl) rfl rfl hq_108 rfl e1]
  rw [RF_row (pc' := 534) (ls' := [vR 1, vR 2, vR 137, vI i]) (st' := [vR 137, vI (oRead V).1]) (sh' := SH L) (g' := g1) k226_533 rfl rfl]
  rw [u_callI (ls0 := [vR 137, vU]) (rest := [vI (oRead V).1]) (pc' := 537) (v := (oRead V).1) (g' := g2) k226_534 rfl (hy4 rfl rfl rfl rfl) rfl rfl hq_225 rfl e2]
  exact w_endI k226_537 rfl hi (by omega)
theorem lc_14 (h : Inv L xs V g) (hi : 0 ≤ i) (hL : i + 4 ≤ L) (hl : L ≤ 2048) : ∃ V' g', RF 226 542 [vR 1, vR 2, vR 137, vI i] [] (SH L) g = RF 226 18 [vR 1, vR 2, vR 137, vI (i + 4)] [] (SH L) g' ∧ Inv L xs V' g' := by
  obtain ⟨t, hC⟩ := h.2.1
  have hX : CO (oSteps V (g 1 (i + 1)) (g 1 (i + 2))) (jX_steps L (g 1 (i + 1)) (g 1 (i + 2)) g) g := cX_steps h.1 hC
  obtain ⟨g1, g2, e1, hh, e2, hI⟩ := inv_step (q2 := fun g1 => jM_steps L (g 1 (i + 1)) (g 1 (i + 2)) g1) h hX (oSteps_V h.1) (fun g1 hR => RO_w (cM_steps h.1 hR))
  unfold jX_steps at e1
  unfold jM_steps at e2
  refine ⟨_, g2, ?_, hI⟩
  rw [RF_row (pc' := 543) (ls' := [vR 1, vR 2, vR 137, vI i]) (st' := [vR 2]) (sh' := SH L) (g' := g) k226_542 rfl rfl]
  rw [w_arg (g := g) (i := i) (v := g 1 (i + 1)) (k := 1) (pc' := 548) k226_543 k226_544 k226_545 k226_546 k226_547 hi (by omega) (by omega) hl rfl rfl]
  rw [w_arg (g := g) (i := i) (v := g 1 (i + 2)) (k := 2) (pc' := 553) k226_548 k226_549 k226_550 k226_551 k226_552 hi (by omega) (by omega) hl rfl rfl]
  rw [u_callI (ls0 := [vR 2, vI (g 1 (i + 1)), vI (g 1 (i + 2)), vU]) (rest := []) (pc' := 556) (v := (oSteps V (g 1 (i + 1)) (g 1 (i + 2))).1) (g' := g1) k226_553 rfl (hy4 rfl rfl rfl rfl) rfl rfl hq_111 rfl e1]
  rw [RF_row (pc' := 557) (ls' := [vR 1, vR 2, vR 137, vI i]) (st' := [vR 137, vI (oSteps V (g 1 (i + 1)) (g 1 (i + 2))).1]) (sh' := SH L) (g' := g1) k226_556 rfl rfl]
  rw [w_arg (g := g1) (i := i) (v := g 1 (i + 1)) (k := 1) (pc' := 562) k226_557 k226_558 k226_559 k226_560 k226_561 hi (by omega) (by omega) hl (hh _) rfl]
  rw [w_arg (g := g1) (i := i) (v := g 1 (i + 2)) (k := 2) (pc' := 567) k226_562 k226_563 k226_564 k226_565 k226_566 hi (by omega) (by omega) hl (hh _) rfl]
  rw [u_callI (ls0 := [vR 137, vI (g 1 (i + 1)), vI (g 1 (i + 2))]) (rest := [vI (oSteps V (g 1 (i + 1)) (g 1 (i + 2))).1]) (pc' := 570) (v := (oSteps V (g 1 (i + 1)) (g 1 (i + 2))).1) (g' := g2) k226_567 rfl (hy4 rfl rfl rfl rfl) rfl rfl hq_186 rfl e2]
  exact w_endI k226_570 rfl hi (by omega)
theorem lc_15 (h : Inv L xs V g) (hi : 0 ≤ i) (hL : i + 4 ≤ L) (hl : L ≤ 2048) : ∃ V' g', RF 226 575 [vR 1, vR 2, vR 137, vI i] [] (SH L) g = RF 226 18 [vR 1, vR 2, vR 137, vI (i + 4)] [] (SH L) g' ∧ Inv L xs V' g' := by
  obtain ⟨t, hC⟩ := h.2.1
  have hX : CO (oStep V (g 1 (i + 1)) (g 1 (i + 2)) (g 1 (i + 3))) (jX_step L (g 1 (i + 1)) (g 1 (i + 2)) (g 1 (i + 3)) g) g := cX_step h.1 hC
  obtain ⟨g1, g2, e1, hh, e2, hI⟩ := inv_step (q2 := fun g1 => jM_step L (g 1 (i + 1)) (g 1 (i + 2)) (g 1 (i + 3)) g1) h hX (oStep_V h.1) (fun g1 hR => RO_w (cM_step h.1 hR))
  unfold jX_step at e1
  unfold jM_step at e2
  refine ⟨_, g2, ?_, hI⟩
  rw [RF_row (pc' := 576) (ls' := [vR 1, vR 2, vR 137, vI i]) (st' := [vR 2]) (sh' := SH L) (g' := g) k226_575 rfl rfl]
  rw [w_arg (g := g) (i := i) (v := g 1 (i + 1)) (k := 1) (pc' := 581) k226_576 k226_577 k226_578 k226_579 k226_580 hi (by omega) (by omega) hl rfl rfl]
  rw [w_arg (g := g) (i := i) (v := g 1 (i + 2)) (k := 2) (pc' := 586) k226_581 k226_582 k226_583 k226_584 k226_585 hi (by omega) (by omega) hl rfl rfl]
  rw [w_arg (g := g) (i := i) (v := g 1 (i + 3)) (k := 3) (pc' := 591) k226_586 k226_587 k226_588 k226_589 k226_590 hi (by omega) (by omega) hl rfl rfl]
  rw [u_callI (ls0 := [vR 2, vI (g 1 (i + 1)), vI (g 1 (i + 2)), vI (g 1 (i + 3)), vU]) (rest := []) (pc' := 594) (v := (oStep V (g 1 (i + 1)) (g 1 (i + 2)) (g 1 (i + 3))).1) (g' := g1) k226_591 rfl (hy4 rfl rfl rfl rfl) rfl rfl hq_112 rfl e1]
  rw [RF_row (pc' := 595) (ls' := [vR 1, vR 2, vR 137, vI i]) (st' := [vR 137, vI (oStep V (g 1 (i + 1)) (g 1 (i + 2)) (g 1 (i + 3))).1]) (sh' := SH L) (g' := g1) k226_594 rfl rfl]
  rw [w_arg (g := g1) (i := i) (v := g 1 (i + 1)) (k := 1) (pc' := 600) k226_595 k226_596 k226_597 k226_598 k226_599 hi (by omega) (by omega) hl (hh _) rfl]
  rw [w_arg (g := g1) (i := i) (v := g 1 (i + 2)) (k := 2) (pc' := 605) k226_600 k226_601 k226_602 k226_603 k226_604 hi (by omega) (by omega) hl (hh _) rfl]
  rw [w_arg (g := g1) (i := i) (v := g 1 (i + 3)) (k := 3) (pc' := 610) k226_605 k226_606 k226_607 k226_608 k226_609 hi (by omega) (by omega) hl (hh _) rfl]
  rw [u_callI (ls0 := [vR 137, vI (g 1 (i + 1)), vI (g 1 (i + 2)), vI (g 1 (i + 3))]) (rest := [vI (oStep V (g 1 (i + 1)) (g 1 (i + 2)) (g 1 (i + 3))).1]) (pc' := 613) (v := (oStep V (g 1 (i + 1)) (g 1 (i + 2)) (g 1 (i + 3))).1) (g' := g2) k226_610 rfl (hy4 rfl rfl rfl rfl) rfl rfl hq_187 rfl e2]
  exact w_endI k226_613 rfl hi (by omega)
theorem lc_16 (h : Inv L xs V g) (hi : 0 ≤ i) (hL : i + 4 ≤ L) (hl : L ≤ 2048) : ∃ V' g', RF 226 618 [vR 1, vR 2, vR 137, vI i] [] (SH L) g = RF 226 18 [vR 1, vR 2, vR 137, vI (i + 4)] [] (SH L) g' ∧ Inv L xs V' g' := by
  obtain ⟨t, hC⟩ := h.2.1
  have hX : CO (oCost V (g 1 (i + 1))) (jX_cost L (g 1 (i + 1)) g) g := cX_cost h.1 hC
  obtain ⟨g1, g2, e1, hh, e2, hI⟩ := inv_step (q2 := fun g1 => jM_cost L (g 1 (i + 1)) g1) h hX (oCost_V h.1) (fun g1 hR => RO_w (cM_cost h.1 hR))
  unfold jX_cost at e1
  unfold jM_cost at e2
  refine ⟨_, g2, ?_, hI⟩
  rw [RF_row (pc' := 619) (ls' := [vR 1, vR 2, vR 137, vI i]) (st' := [vR 2]) (sh' := SH L) (g' := g) k226_618 rfl rfl]
  rw [w_arg (g := g) (i := i) (v := g 1 (i + 1)) (k := 1) (pc' := 624) k226_619 k226_620 k226_621 k226_622 k226_623 hi (by omega) (by omega) hl rfl rfl]
  rw [u_callI (ls0 := [vR 2, vI (g 1 (i + 1)), vU]) (rest := []) (pc' := 627) (v := (oCost V (g 1 (i + 1))).1) (g' := g1) k226_624 rfl (hy4 rfl rfl rfl rfl) rfl rfl hq_113 rfl e1]
  rw [RF_row (pc' := 628) (ls' := [vR 1, vR 2, vR 137, vI i]) (st' := [vR 137, vI (oCost V (g 1 (i + 1))).1]) (sh' := SH L) (g' := g1) k226_627 rfl rfl]
  rw [w_arg (g := g1) (i := i) (v := g 1 (i + 1)) (k := 1) (pc' := 633) k226_628 k226_629 k226_630 k226_631 k226_632 hi (by omega) (by omega) hl (hh _) rfl]
  rw [u_callI (ls0 := [vR 137, vI (g 1 (i + 1))]) (rest := [vI (oCost V (g 1 (i + 1))).1]) (pc' := 636) (v := (oCost V (g 1 (i + 1))).1) (g' := g2) k226_633 rfl (hy4 rfl rfl rfl rfl) rfl rfl hq_188 rfl e2]
  exact w_endI k226_636 rfl hi (by omega)
theorem lc_17 (h : Inv L xs V g) (hi : 0 ≤ i) (hL : i + 4 ≤ L) (hl : L ≤ 2048) : ∃ V' g', RF 226 641 [vR 1, vR 2, vR 137, vI i] [] (SH L) g = RF 226 18 [vR 1, vR 2, vR 137, vI (i + 4)] [] (SH L) g' ∧ Inv L xs V' g' := by
  obtain ⟨t, hC⟩ := h.2.1
  have hX : CO (oRings V (g 1 (i + 1)) (g 1 (i + 2))) (jX_rings L (g 1 (i + 1)) (g 1 (i + 2)) g) g := cX_rings h.1 hC
  obtain ⟨g1, g2, e1, hh, e2, hI⟩ := inv_step (q2 := fun g1 => jM_rings L (g 1 (i + 1)) (g 1 (i + 2)) g1) h hX (oRings_V h.1) (fun g1 hR => RO_w (cM_rings h.1 hR))
  unfold jX_rings at e1
  unfold jM_rings at e2
  refine ⟨_, g2, ?_, hI⟩
  rw [RF_row (pc' := 642) (ls' := [vR 1, vR 2, vR 137, vI i]) (st' := [vR 2]) (sh' := SH L) (g' := g) k226_641 rfl rfl]
  rw [w_arg (g := g) (i := i) (v := g 1 (i + 1)) (k := 1) (pc' := 647) k226_642 k226_643 k226_644 k226_645 k226_646 hi (by omega) (by omega) hl rfl rfl]
  rw [w_arg (g := g) (i := i) (v := g 1 (i + 2)) (k := 2) (pc' := 652) k226_647 k226_648 k226_649 k226_650 k226_651 hi (by omega) (by omega) hl rfl rfl]
  rw [u_callI (ls0 := [vR 2, vI (g 1 (i + 1)), vI (g 1 (i + 2)), vU]) (rest := []) (pc' := 655) (v := (oRings V (g 1 (i + 1)) (g 1 (i + 2))).1) (g' := g1) k226_652 rfl (hy4 rfl rfl rfl rfl) rfl rfl hq_114 rfl e1]
  rw [RF_row (pc' := 656) (ls' := [vR 1, vR 2, vR 137, vI i]) (st' := [vR 137, vI (oRings V (g 1 (i + 1)) (g 1 (i + 2))).1]) (sh' := SH L) (g' := g1) k226_655 rfl rfl]
  rw [w_arg (g := g1) (i := i) (v := g 1 (i + 1)) (k := 1) (pc' := 661) k226_656 k226_657 k226_658 k226_659 k226_660 hi (by omega) (by omega) hl (hh _) rfl]
  rw [w_arg (g := g1) (i := i) (v := g 1 (i + 2)) (k := 2) (pc' := 666) k226_661 k226_662 k226_663 k226_664 k226_665 hi (by omega) (by omega) hl (hh _) rfl]
  rw [u_callI (ls0 := [vR 137, vI (g 1 (i + 1)), vI (g 1 (i + 2)), vU, vU, vU, vU, vU]) (rest := [vI (oRings V (g 1 (i + 1)) (g 1 (i + 2))).1]) (pc' := 669) (v := (oRings V (g 1 (i + 1)) (g 1 (i + 2))).1) (g' := g2) k226_666 rfl (hy4 rfl rfl rfl rfl) rfl rfl hq_191 rfl e2]
  exact w_endI k226_669 rfl hi (by omega)
theorem lc_18 (h : Inv L xs V g) (hi : 0 ≤ i) (hL : i + 4 ≤ L) (hl : L ≤ 2048) : ∃ V' g', RF 226 674 [vR 1, vR 2, vR 137, vI i] [] (SH L) g = RF 226 18 [vR 1, vR 2, vR 137, vI (i + 4)] [] (SH L) g' ∧ Inv L xs V' g' := by
  obtain ⟨t, hC⟩ := h.2.1
  have hX : CO (oCheapest V (g 1 (i + 1)) (g 1 (i + 2))) (jX_cheapest L (g 1 (i + 1)) (g 1 (i + 2)) g) g := cX_cheapest h.1 hC
  obtain ⟨g1, g2, e1, hh, e2, hI⟩ := inv_step (q2 := fun g1 => jM_cheapest L (g 1 (i + 1)) (g 1 (i + 2)) g1) h hX (oCheapest_V h.1) (fun g1 hR => RO_w (cM_cheapest h.1 hR))
  unfold jX_cheapest at e1
  unfold jM_cheapest at e2
  refine ⟨_, g2, ?_, hI⟩
  rw [RF_row (pc' := 675) (ls' := [vR 1, vR 2, vR 137, vI i]) (st' := [vR 2]) (sh' := SH L) (g' := g) k226_674 rfl rfl]
  rw [w_arg (g := g) (i := i) (v := g 1 (i + 1)) (k := 1) (pc' := 680) k226_675 k226_676 k226_677 k226_678 k226_679 hi (by omega) (by omega) hl rfl rfl]
  rw [w_arg (g := g) (i := i) (v := g 1 (i + 2)) (k := 2) (pc' := 685) k226_680 k226_681 k226_682 k226_683 k226_684 hi (by omega) (by omega) hl rfl rfl]
  rw [u_callI (ls0 := [vR 2, vI (g 1 (i + 1)), vI (g 1 (i + 2)), vU, vU, vU, vU, vU]) (rest := []) (pc' := 688) (v := (oCheapest V (g 1 (i + 1)) (g 1 (i + 2))).1) (g' := g1) k226_685 rfl (hy4 rfl rfl rfl rfl) rfl rfl hq_116 rfl e1]
  rw [RF_row (pc' := 689) (ls' := [vR 1, vR 2, vR 137, vI i]) (st' := [vR 137, vI (oCheapest V (g 1 (i + 1)) (g 1 (i + 2))).1]) (sh' := SH L) (g' := g1) k226_688 rfl rfl]
  rw [w_arg (g := g1) (i := i) (v := g 1 (i + 1)) (k := 1) (pc' := 694) k226_689 k226_690 k226_691 k226_692 k226_693 hi (by omega) (by omega) hl (hh _) rfl]
  rw [w_arg (g := g1) (i := i) (v := g 1 (i + 2)) (k := 2) (pc' := 699) k226_694 k226_695 k226_696 k226_697 k226_698 hi (by omega) (by omega) hl (hh _) rfl]
  rw [u_callI (ls0 := [vR 137, vI (g 1 (i + 1)), vI (g 1 (i + 2)), vU, vU, vU, vU]) (rest := [vI (oCheapest V (g 1 (i + 1)) (g 1 (i + 2))).1]) (pc' := 702) (v := (oCheapest V (g 1 (i + 1)) (g 1 (i + 2))).1) (g' := g2) k226_699 rfl (hy4 rfl rfl rfl rfl) rfl rfl hq_192 rfl e2]
  exact w_endI k226_702 rfl hi (by omega)
theorem lc_19 (h : Inv L xs V g) (hi : 0 ≤ i) (hL : i + 4 ≤ L) (hl : L ≤ 2048) : ∃ V' g', RF 226 707 [vR 1, vR 2, vR 137, vI i] [] (SH L) g = RF 226 18 [vR 1, vR 2, vR 137, vI (i + 4)] [] (SH L) g' ∧ Inv L xs V' g' := by
  obtain ⟨t, hC⟩ := h.2.1
  have hX : CO (oFree V (g 1 (i + 1)) (g 1 (i + 2))) (jX_free L (g 1 (i + 1)) (g 1 (i + 2)) g) g := cX_free h.1 hC
  obtain ⟨g1, g2, e1, hh, e2, hI⟩ := inv_step (q2 := fun g1 => jM_free L (g 1 (i + 1)) (g 1 (i + 2)) g1) h hX (oFree_V h.1) (fun g1 hR => RO_w (cM_free h.1 hR))
  unfold jX_free at e1
  unfold jM_free at e2
  refine ⟨_, g2, ?_, hI⟩
  rw [RF_row (pc' := 708) (ls' := [vR 1, vR 2, vR 137, vI i]) (st' := [vR 2]) (sh' := SH L) (g' := g) k226_707 rfl rfl]
  rw [w_arg (g := g) (i := i) (v := g 1 (i + 1)) (k := 1) (pc' := 713) k226_708 k226_709 k226_710 k226_711 k226_712 hi (by omega) (by omega) hl rfl rfl]
  rw [w_arg (g := g) (i := i) (v := g 1 (i + 2)) (k := 2) (pc' := 718) k226_713 k226_714 k226_715 k226_716 k226_717 hi (by omega) (by omega) hl rfl rfl]
  rw [u_callI (ls0 := [vR 2, vI (g 1 (i + 1)), vI (g 1 (i + 2)), vU, vU]) (rest := []) (pc' := 721) (v := (oFree V (g 1 (i + 1)) (g 1 (i + 2))).1) (g' := g1) k226_718 rfl (hy4 rfl rfl rfl rfl) rfl rfl hq_117 rfl e1]
  rw [RF_row (pc' := 722) (ls' := [vR 1, vR 2, vR 137, vI i]) (st' := [vR 137, vI (oFree V (g 1 (i + 1)) (g 1 (i + 2))).1]) (sh' := SH L) (g' := g1) k226_721 rfl rfl]
  rw [w_arg (g := g1) (i := i) (v := g 1 (i + 1)) (k := 1) (pc' := 727) k226_722 k226_723 k226_724 k226_725 k226_726 hi (by omega) (by omega) hl (hh _) rfl]
  rw [w_arg (g := g1) (i := i) (v := g 1 (i + 2)) (k := 2) (pc' := 732) k226_727 k226_728 k226_729 k226_730 k226_731 hi (by omega) (by omega) hl (hh _) rfl]
  rw [u_callI (ls0 := [vR 137, vI (g 1 (i + 1)), vI (g 1 (i + 2)), vU, vU, vU]) (rest := [vI (oFree V (g 1 (i + 1)) (g 1 (i + 2))).1]) (pc' := 735) (v := (oFree V (g 1 (i + 1)) (g 1 (i + 2))).1) (g' := g2) k226_732 rfl (hy4 rfl rfl rfl rfl) rfl rfl hq_193 rfl e2]
  exact w_endI k226_735 rfl hi (by omega)
theorem lc_20 (h : Inv L xs V g) (hi : 0 ≤ i) (hL : i + 4 ≤ L) (hl : L ≤ 2048) : ∃ V' g', RF 226 740 [vR 1, vR 2, vR 137, vI i] [] (SH L) g = RF 226 18 [vR 1, vR 2, vR 137, vI (i + 4)] [] (SH L) g' ∧ Inv L xs V' g' := by
  obtain ⟨t, hC⟩ := h.2.1
  have hX : CO (oTail V (g 1 (i + 1))) (jX_tail L (g 1 (i + 1)) g) g := cX_tail h.1 hC
  obtain ⟨g1, g2, e1, hh, e2, hI⟩ := inv_step (q2 := fun g1 => jM_tail L (g 1 (i + 1)) g1) h hX (oTail_V h.1) (fun g1 hR => RO_w (cM_tail h.1 hR))
  unfold jX_tail at e1
  unfold jM_tail at e2
  refine ⟨_, g2, ?_, hI⟩
  rw [RF_row (pc' := 741) (ls' := [vR 1, vR 2, vR 137, vI i]) (st' := [vR 2]) (sh' := SH L) (g' := g) k226_740 rfl rfl]
  rw [w_arg (g := g) (i := i) (v := g 1 (i + 1)) (k := 1) (pc' := 746) k226_741 k226_742 k226_743 k226_744 k226_745 hi (by omega) (by omega) hl rfl rfl]
  rw [u_callI (ls0 := [vR 2, vI (g 1 (i + 1)), vU, vU, vU]) (rest := []) (pc' := 749) (v := (oTail V (g 1 (i + 1))).1) (g' := g1) k226_746 rfl (hy4 rfl rfl rfl rfl) rfl rfl hq_119 rfl e1]
  rw [RF_row (pc' := 750) (ls' := [vR 1, vR 2, vR 137, vI i]) (st' := [vR 137, vI (oTail V (g 1 (i + 1))).1]) (sh' := SH L) (g' := g1) k226_749 rfl rfl]
  rw [w_arg (g := g1) (i := i) (v := g 1 (i + 1)) (k := 1) (pc' := 755) k226_750 k226_751 k226_752 k226_753 k226_754 hi (by omega) (by omega) hl (hh _) rfl]
  rw [u_callI (ls0 := [vR 137, vI (g 1 (i + 1)), vU, vU, vU, vU, vU]) (rest := [vI (oTail V (g 1 (i + 1))).1]) (pc' := 758) (v := (oTail V (g 1 (i + 1))).1) (g' := g2) k226_755 rfl (hy4 rfl rfl rfl rfl) rfl rfl hq_196 rfl e2]
  exact w_endI k226_758 rfl hi (by omega)
theorem lc_21 (h : Inv L xs V g) (hi : 0 ≤ i) (hL : i + 4 ≤ L) (hl : L ≤ 2048) : ∃ V' g', RF 226 763 [vR 1, vR 2, vR 137, vI i] [] (SH L) g = RF 226 18 [vR 1, vR 2, vR 137, vI (i + 4)] [] (SH L) g' ∧ Inv L xs V' g' := by
  obtain ⟨v, g1, g2, V1, e1, hh, e2, hI⟩ := inv_run (e := g 1 (i + 1)) (s := g 1 (i + 2)) (w := g 1 (i + 3)) h
  unfold jX_run at e1
  unfold jM_run at e2
  refine ⟨V1, g2, ?_, hI⟩
  rw [RF_row (pc' := 764) (ls' := [vR 1, vR 2, vR 137, vI i]) (st' := [vR 2]) (sh' := SH L) (g' := g) k226_763 rfl rfl]
  rw [w_arg (g := g) (i := i) (v := g 1 (i + 1)) (k := 1) (pc' := 769) k226_764 k226_765 k226_766 k226_767 k226_768 hi (by omega) (by omega) hl rfl rfl]
  rw [w_arg (g := g) (i := i) (v := g 1 (i + 2)) (k := 2) (pc' := 774) k226_769 k226_770 k226_771 k226_772 k226_773 hi (by omega) (by omega) hl rfl rfl]
  rw [w_arg (g := g) (i := i) (v := g 1 (i + 3)) (k := 3) (pc' := 779) k226_774 k226_775 k226_776 k226_777 k226_778 hi (by omega) (by omega) hl rfl rfl]
  rw [u_callL (ls0 := [vR 2, vI (g 1 (i + 1)), vI (g 1 (i + 2)), vI (g 1 (i + 3)), vU]) (rest := []) (pc' := 782) (v := v) (g' := g1) k226_779 rfl (hy4 rfl rfl rfl rfl) rfl rfl hq_120 rfl e1]
  rw [RF_row (pc' := 783) (ls' := [vR 1, vR 2, vR 137, vI i]) (st' := [vR 137, vL v]) (sh' := SH L) (g' := g1) k226_782 rfl rfl]
  rw [w_arg (g := g1) (i := i) (v := g 1 (i + 1)) (k := 1) (pc' := 788) k226_783 k226_784 k226_785 k226_786 k226_787 hi (by omega) (by omega) hl (hh _) rfl]
  rw [w_arg (g := g1) (i := i) (v := g 1 (i + 2)) (k := 2) (pc' := 793) k226_788 k226_789 k226_790 k226_791 k226_792 hi (by omega) (by omega) hl (hh _) rfl]
  rw [w_arg (g := g1) (i := i) (v := g 1 (i + 3)) (k := 3) (pc' := 798) k226_793 k226_794 k226_795 k226_796 k226_797 hi (by omega) (by omega) hl (hh _) rfl]
  rw [u_callL (ls0 := [vR 137, vI (g 1 (i + 1)), vI (g 1 (i + 2)), vI (g 1 (i + 3)), vU, vU, vU, vU, vU]) (rest := [vL v]) (pc' := 801) (v := v) (g' := g2) k226_798 rfl (hy4 rfl rfl rfl rfl) rfl rfl hq_202 rfl e2]
  exact w_endL k226_801 k226_802 rfl hi (by omega)
theorem lc_22 (h : Inv L xs V g) (hi : 0 ≤ i) (hL : i + 4 ≤ L) (hl : L ≤ 2048) : ∃ V' g', RF 226 807 [vR 1, vR 2, vR 137, vI i] [] (SH L) g = RF 226 18 [vR 1, vR 2, vR 137, vI (i + 4)] [] (SH L) g' ∧ Inv L xs V' g' := by
  obtain ⟨t, hC⟩ := h.2.1
  have hX : CO (oWhole V (g 1 (i + 1))) (jX_whole L (g 1 (i + 1)) g) g := cX_whole h.1 hC
  obtain ⟨g1, g2, e1, hh, e2, hI⟩ := inv_step (q2 := fun g1 => jM_whole L (g 1 (i + 1)) g1) h hX (oWhole_V h.1) (fun g1 hR => RO_w (cM_whole h.1 hR))
  unfold jX_whole at e1
  unfold jM_whole at e2
  refine ⟨_, g2, ?_, hI⟩
  rw [RF_row (pc' := 808) (ls' := [vR 1, vR 2, vR 137, vI i]) (st' := [vR 2]) (sh' := SH L) (g' := g) k226_807 rfl rfl]
  rw [w_arg (g := g) (i := i) (v := g 1 (i + 1)) (k := 1) (pc' := 813) k226_808 k226_809 k226_810 k226_811 k226_812 hi (by omega) (by omega) hl rfl rfl]
  rw [u_callI (ls0 := [vR 2, vI (g 1 (i + 1)), vU, vU]) (rest := []) (pc' := 816) (v := (oWhole V (g 1 (i + 1))).1) (g' := g1) k226_813 rfl (hy4 rfl rfl rfl rfl) rfl rfl hq_122 rfl e1]
  rw [RF_row (pc' := 817) (ls' := [vR 1, vR 2, vR 137, vI i]) (st' := [vR 137, vI (oWhole V (g 1 (i + 1))).1]) (sh' := SH L) (g' := g1) k226_816 rfl rfl]
  rw [w_arg (g := g1) (i := i) (v := g 1 (i + 1)) (k := 1) (pc' := 822) k226_817 k226_818 k226_819 k226_820 k226_821 hi (by omega) (by omega) hl (hh _) rfl]
  rw [u_callI (ls0 := [vR 137, vI (g 1 (i + 1)), vU, vU, vU, vU, vU]) (rest := [vI (oWhole V (g 1 (i + 1))).1]) (pc' := 825) (v := (oWhole V (g 1 (i + 1))).1) (g' := g2) k226_822 rfl (hy4 rfl rfl rfl rfl) rfl rfl hq_203 rfl e2]
  exact w_endI k226_825 rfl hi (by omega)
theorem lc_23 (h : Inv L xs V g) (hi : 0 ≤ i) (hL : i + 4 ≤ L) (hl : L ≤ 2048) : ∃ V' g', RF 226 830 [vR 1, vR 2, vR 137, vI i] [] (SH L) g = RF 226 18 [vR 1, vR 2, vR 137, vI (i + 4)] [] (SH L) g' ∧ Inv L xs V' g' := by
  obtain ⟨t, hC⟩ := h.2.1
  have hX : CO (oDearest V) (jX_dearest L g) g := cX_dearest h.1 hC
  obtain ⟨g1, g2, e1, hh, e2, hI⟩ := inv_step (q2 := fun g1 => jM_dearest L g1) h hX (oDearest_V h.1) (fun g1 hR => RO_w (cM_dearest h.1 hR))
  unfold jX_dearest at e1
  unfold jM_dearest at e2
  refine ⟨_, g2, ?_, hI⟩
  rw [RF_row (pc' := 831) (ls' := [vR 1, vR 2, vR 137, vI i]) (st' := [vR 2]) (sh' := SH L) (g' := g) k226_830 rfl rfl]
  rw [u_callI (ls0 := [vR 2, vU, vU, vU]) (rest := []) (pc' := 834) (v := (oDearest V).1) (g' := g1) k226_831 rfl (hy4 rfl rfl rfl rfl) rfl rfl hq_124 rfl e1]
  rw [RF_row (pc' := 835) (ls' := [vR 1, vR 2, vR 137, vI i]) (st' := [vR 137, vI (oDearest V).1]) (sh' := SH L) (g' := g1) k226_834 rfl rfl]
  rw [u_callI (ls0 := [vR 137, vU, vU, vU, vU]) (rest := [vI (oDearest V).1]) (pc' := 838) (v := (oDearest V).1) (g' := g2) k226_835 rfl (hy4 rfl rfl rfl rfl) rfl rfl hq_204 rfl e2]
  exact w_endI k226_838 rfl hi (by omega)
theorem lc_24 (h : Inv L xs V g) (hi : 0 ≤ i) (hL : i + 4 ≤ L) (hl : L ≤ 2048) : ∃ V' g', RF 226 843 [vR 1, vR 2, vR 137, vI i] [] (SH L) g = RF 226 18 [vR 1, vR 2, vR 137, vI (i + 4)] [] (SH L) g' ∧ Inv L xs V' g' := by
  obtain ⟨t, hC⟩ := h.2.1
  have hX : CO (oReach V (g 1 (i + 1)) (g 1 (i + 2))) (jX_reach L (g 1 (i + 1)) (g 1 (i + 2)) g) g := cX_reach h.1 hC
  obtain ⟨g1, g2, e1, hh, e2, hI⟩ := inv_step (q2 := fun g1 => jM_reach L (g 1 (i + 1)) (g 1 (i + 2)) g1) h hX (oReach_V h.1) (fun g1 hR => RO_w (cM_reach h.1 hR))
  unfold jX_reach at e1
  unfold jM_reach at e2
  refine ⟨_, g2, ?_, hI⟩
  rw [RF_row (pc' := 844) (ls' := [vR 1, vR 2, vR 137, vI i]) (st' := [vR 2]) (sh' := SH L) (g' := g) k226_843 rfl rfl]
  rw [w_arg (g := g) (i := i) (v := g 1 (i + 1)) (k := 1) (pc' := 849) k226_844 k226_845 k226_846 k226_847 k226_848 hi (by omega) (by omega) hl rfl rfl]
  rw [w_arg (g := g) (i := i) (v := g 1 (i + 2)) (k := 2) (pc' := 854) k226_849 k226_850 k226_851 k226_852 k226_853 hi (by omega) (by omega) hl rfl rfl]
  rw [u_callI (ls0 := [vR 2, vI (g 1 (i + 1)), vI (g 1 (i + 2)), vU]) (rest := []) (pc' := 857) (v := (oReach V (g 1 (i + 1)) (g 1 (i + 2))).1) (g' := g1) k226_854 rfl (hy4 rfl rfl rfl rfl) rfl rfl hq_127 rfl e1]
  rw [RF_row (pc' := 858) (ls' := [vR 1, vR 2, vR 137, vI i]) (st' := [vR 137, vI (oReach V (g 1 (i + 1)) (g 1 (i + 2))).1]) (sh' := SH L) (g' := g1) k226_857 rfl rfl]
  rw [w_arg (g := g1) (i := i) (v := g 1 (i + 1)) (k := 1) (pc' := 863) k226_858 k226_859 k226_860 k226_861 k226_862 hi (by omega) (by omega) hl (hh _) rfl]
  rw [w_arg (g := g1) (i := i) (v := g 1 (i + 2)) (k := 2) (pc' := 868) k226_863 k226_864 k226_865 k226_866 k226_867 hi (by omega) (by omega) hl (hh _) rfl]
  rw [u_callI (ls0 := [vR 137, vI (g 1 (i + 1)), vI (g 1 (i + 2)), vU, vU, vU]) (rest := [vI (oReach V (g 1 (i + 1)) (g 1 (i + 2))).1]) (pc' := 871) (v := (oReach V (g 1 (i + 1)) (g 1 (i + 2))).1) (g' := g2) k226_868 rfl (hy4 rfl rfl rfl rfl) rfl rfl hq_205 rfl e2]
  exact w_endI k226_871 rfl hi (by omega)
theorem lc_25 (h : Inv L xs V g) (hi : 0 ≤ i) (hL : i + 4 ≤ L) (hl : L ≤ 2048) : ∃ V' g', RF 226 876 [vR 1, vR 2, vR 137, vI i] [] (SH L) g = RF 226 18 [vR 1, vR 2, vR 137, vI (i + 4)] [] (SH L) g' ∧ Inv L xs V' g' := by
  obtain ⟨t, hC⟩ := h.2.1
  have hX : CO (oDraw V (g 1 (i + 1)) (g 1 (i + 2)) (g 1 (i + 3))) (jX_draw L (g 1 (i + 1)) (g 1 (i + 2)) (g 1 (i + 3)) g) g := cX_draw h.1 hC
  obtain ⟨g1, g2, e1, hh, e2, hI⟩ := inv_step (q2 := fun g1 => jM_draw L (g 1 (i + 1)) (g 1 (i + 2)) (g 1 (i + 3)) g1) h hX (oDraw_V h.1) (fun g1 hR => RO_w (cM_draw h.1 hR))
  unfold jX_draw at e1
  unfold jM_draw at e2
  refine ⟨_, g2, ?_, hI⟩
  rw [RF_row (pc' := 877) (ls' := [vR 1, vR 2, vR 137, vI i]) (st' := [vR 2]) (sh' := SH L) (g' := g) k226_876 rfl rfl]
  rw [w_arg (g := g) (i := i) (v := g 1 (i + 1)) (k := 1) (pc' := 882) k226_877 k226_878 k226_879 k226_880 k226_881 hi (by omega) (by omega) hl rfl rfl]
  rw [w_arg (g := g) (i := i) (v := g 1 (i + 2)) (k := 2) (pc' := 887) k226_882 k226_883 k226_884 k226_885 k226_886 hi (by omega) (by omega) hl rfl rfl]
  rw [w_arg (g := g) (i := i) (v := g 1 (i + 3)) (k := 3) (pc' := 892) k226_887 k226_888 k226_889 k226_890 k226_891 hi (by omega) (by omega) hl rfl rfl]
  rw [u_callI (ls0 := [vR 2, vI (g 1 (i + 1)), vI (g 1 (i + 2)), vI (g 1 (i + 3)), vU]) (rest := []) (pc' := 895) (v := (oDraw V (g 1 (i + 1)) (g 1 (i + 2)) (g 1 (i + 3))).1) (g' := g1) k226_892 rfl (hy4 rfl rfl rfl rfl) rfl rfl hq_130 rfl e1]
  rw [RF_row (pc' := 896) (ls' := [vR 1, vR 2, vR 137, vI i]) (st' := [vR 137, vI (oDraw V (g 1 (i + 1)) (g 1 (i + 2)) (g 1 (i + 3))).1]) (sh' := SH L) (g' := g1) k226_895 rfl rfl]
  rw [w_arg (g := g1) (i := i) (v := g 1 (i + 1)) (k := 1) (pc' := 901) k226_896 k226_897 k226_898 k226_899 k226_900 hi (by omega) (by omega) hl (hh _) rfl]
  rw [w_arg (g := g1) (i := i) (v := g 1 (i + 2)) (k := 2) (pc' := 906) k226_901 k226_902 k226_903 k226_904 k226_905 hi (by omega) (by omega) hl (hh _) rfl]
  rw [w_arg (g := g1) (i := i) (v := g 1 (i + 3)) (k := 3) (pc' := 911) k226_906 k226_907 k226_908 k226_909 k226_910 hi (by omega) (by omega) hl (hh _) rfl]
  rw [u_callI (ls0 := [vR 137, vI (g 1 (i + 1)), vI (g 1 (i + 2)), vI (g 1 (i + 3)), vU, vU, vU, vU, vU, vU, vU, vU, vU]) (rest := [vI (oDraw V (g 1 (i + 1)) (g 1 (i + 2)) (g 1 (i + 3))).1]) (pc' := 914) (v := (oDraw V (g 1 (i + 1)) (g 1 (i + 2)) (g 1 (i + 3))).1) (g' := g2) k226_911 rfl (hy4 rfl rfl rfl rfl) rfl rfl hq_206 rfl e2]
  exact w_endI k226_914 rfl hi (by omega)
theorem lc_26 (h : Inv L xs V g) (hi : 0 ≤ i) (hL : i + 4 ≤ L) (hl : L ≤ 2048) : ∃ V' g', RF 226 919 [vR 1, vR 2, vR 137, vI i] [] (SH L) g = RF 226 18 [vR 1, vR 2, vR 137, vI (i + 4)] [] (SH L) g' ∧ Inv L xs V' g' := by
  obtain ⟨t, hC⟩ := h.2.1
  have hX : CO (oTold V (g 1 (i + 1))) (jX_told L (g 1 (i + 1)) g) g := cX_told h.1 hC
  obtain ⟨g1, g2, e1, hh, e2, hI⟩ := inv_step (q2 := fun g1 => jM_told L (g 1 (i + 1)) g1) h hX (oTold_V h.1) (fun g1 hR => RO_w (cM_told h.1 hR))
  unfold jX_told at e1
  unfold jM_told at e2
  refine ⟨_, g2, ?_, hI⟩
  rw [RF_row (pc' := 920) (ls' := [vR 1, vR 2, vR 137, vI i]) (st' := [vR 2]) (sh' := SH L) (g' := g) k226_919 rfl rfl]
  rw [w_arg (g := g) (i := i) (v := g 1 (i + 1)) (k := 1) (pc' := 925) k226_920 k226_921 k226_922 k226_923 k226_924 hi (by omega) (by omega) hl rfl rfl]
  rw [u_callI (ls0 := [vR 2, vI (g 1 (i + 1))]) (rest := []) (pc' := 928) (v := (oTold V (g 1 (i + 1))).1) (g' := g1) k226_925 rfl (hy4 rfl rfl rfl rfl) rfl rfl hq_132 rfl e1]
  rw [RF_row (pc' := 929) (ls' := [vR 1, vR 2, vR 137, vI i]) (st' := [vR 137, vI (oTold V (g 1 (i + 1))).1]) (sh' := SH L) (g' := g1) k226_928 rfl rfl]
  rw [w_arg (g := g1) (i := i) (v := g 1 (i + 1)) (k := 1) (pc' := 934) k226_929 k226_930 k226_931 k226_932 k226_933 hi (by omega) (by omega) hl (hh _) rfl]
  rw [u_callI (ls0 := [vR 137, vI (g 1 (i + 1))]) (rest := [vI (oTold V (g 1 (i + 1))).1]) (pc' := 937) (v := (oTold V (g 1 (i + 1))).1) (g' := g2) k226_934 rfl (hy4 rfl rfl rfl rfl) rfl rfl hq_208 rfl e2]
  exact w_endI k226_937 rfl hi (by omega)
theorem lc_27 (h : Inv L xs V g) (hi : 0 ≤ i) (hL : i + 4 ≤ L) (hl : L ≤ 2048) : ∃ V' g', RF 226 942 [vR 1, vR 2, vR 137, vI i] [] (SH L) g = RF 226 18 [vR 1, vR 2, vR 137, vI (i + 4)] [] (SH L) g' ∧ Inv L xs V' g' := by
  obtain ⟨t, hC⟩ := h.2.1
  have hX : CO (oDigest V) (jX_digest L g) g := cX_digest h.1 hC
  obtain ⟨g1, g2, e1, hh, e2, hI⟩ := inv_step (q2 := fun g1 => jM_digest L g1) h hX (oDigest_V h.1) (fun g1 hR => RO_w (cM_digest h.1 hR))
  unfold jX_digest at e1
  unfold jM_digest at e2
  refine ⟨_, g2, ?_, hI⟩
  rw [RF_row (pc' := 943) (ls' := [vR 1, vR 2, vR 137, vI i]) (st' := [vR 2]) (sh' := SH L) (g' := g) k226_942 rfl rfl]
  rw [u_callL (ls0 := [vR 2, vU, vU, vU]) (rest := []) (pc' := 946) (v := (oDigest V).1) (g' := g1) k226_943 rfl (hy4 rfl rfl rfl rfl) rfl rfl hq_133 rfl e1]
  rw [RF_row (pc' := 947) (ls' := [vR 1, vR 2, vR 137, vI i]) (st' := [vR 137, vL (oDigest V).1]) (sh' := SH L) (g' := g1) k226_946 rfl rfl]
  rw [u_callL (ls0 := [vR 137, vU, vU, vU, vU]) (rest := [vL (oDigest V).1]) (pc' := 950) (v := (oDigest V).1) (g' := g2) k226_947 rfl (hy4 rfl rfl rfl rfl) rfl rfl hq_209 rfl e2]
  exact w_endL k226_950 k226_951 rfl hi (by omega)
end CAS
