set_option maxRecDepth 20000 in
set_option maxHeartbeats 4000000 in
theorem Law_law_L18 (x3 : Int32) (σ : jm_S) : jv 201 18 [some (.ref 1005), some (.ref 0), some (.ref 61), some (.int x3)] [] σ = (if ((Int32.ofNat (σ 1006 0).toNatClampNeg) - (6 : Int32)) < x3 then some (some (.int (1 : Int32)), σ) else (if x3 < 0 ∨ (σ 1006 0).toNatClampNeg ≤ x3.toNatClampNeg then none else jv 201 33 [some (.ref 1005), some (.ref 0), some (.ref 61), some (.int x3)] [(.int ((σ 1005 x3.toNatClampNeg) &&& (63 : Int32)))] σ)) := by
  refine (sv_iload_n jM201 c201_18 rfl rfl).trans ?_
  refine (sv_aload_n jM201 c201_19 rfl rfl).trans ?_
  refine (sv_alen jM201 c201_20 rfl (ln_1005 _) rfl).trans ?_
  refine (sv_bipush jM201 c201_21 rfl (v := 6) (by decide +kernel)).trans ?_
  refine (sv_isub jM201 c201_23 rfl).trans ?_
  refine (sv_icmp_gt jM201 c201_24 rfl (t := 1393) (by decide +kernel)).trans ?_
  refine jif _ ?_ ?_
  ·
    refine (sv_iconst jM201 c201_1393 rfl (v := 1) (by decide +kernel)).trans ?_
    exact sv_zret jM201 c201_1394 rfl rfl (by decide +kernel)
  ·
    refine (sv_aload_n jM201 c201_27 rfl rfl).trans ?_
    refine (sv_iload_n jM201 c201_28 rfl rfl).trans ?_
    refine (sv_iald jM201 c201_29 rfl (ia_1005 _)).trans ?_
    refine jif _ rfl ?_
    refine (sv_bipush jM201 c201_30 rfl (v := 63) (by decide +kernel)).trans ?_
    refine (sv_iand jM201 c201_32 rfl).trans ?_
    rfl
set_option maxRecDepth 20000 in
set_option maxHeartbeats 4000000 in
theorem Law_law_S33_0 (x3 : Int32) (σ : jm_S) : jv 201 33 [some (.ref 1005), some (.ref 0), some (.ref 61), some (.int x3)] [(.int (0 : Int32))] σ = (if (x3 + (1 : Int32)) < 0 ∨ (σ 1006 0).toNatClampNeg ≤ (x3 + (1 : Int32)).toNatClampNeg then none else (if (x3 + (2 : Int32)) < 0 ∨ (σ 1006 0).toNatClampNeg ≤ (x3 + (2 : Int32)).toNatClampNeg then none else (if (x3 + (3 : Int32)) < 0 ∨ (σ 1006 0).toNatClampNeg ≤ (x3 + (3 : Int32)).toNatClampNeg then none else (if (x3 + (4 : Int32)) < 0 ∨ (σ 1006 0).toNatClampNeg ≤ (x3 + (4 : Int32)).toNatClampNeg then none else (if (x3 + (5 : Int32)) < 0 ∨ (σ 1006 0).toNatClampNeg ≤ (x3 + (5 : Int32)).toNatClampNeg then none else jbi (jc 0 [(.ref 0), (.int (σ 1005 (x3 + (1 : Int32)).toNatClampNeg)), (.int (σ 1005 (x3 + (2 : Int32)).toNatClampNeg)), (.int (σ 1005 (x3 + (3 : Int32)).toNatClampNeg)), (.int (σ 1005 (x3 + (4 : Int32)).toNatClampNeg)), (.int (σ 1005 (x3 + (5 : Int32)).toNatClampNeg))] σ) (fun r1 τ1 => (if (x3 + (1 : Int32)) < 0 ∨ (τ1 1006 0).toNatClampNeg ≤ (x3 + (1 : Int32)).toNatClampNeg then none else (if (x3 + (2 : Int32)) < 0 ∨ (τ1 1006 0).toNatClampNeg ≤ (x3 + (2 : Int32)).toNatClampNeg then none else (if (x3 + (3 : Int32)) < 0 ∨ (τ1 1006 0).toNatClampNeg ≤ (x3 + (3 : Int32)).toNatClampNeg then none else (if (x3 + (4 : Int32)) < 0 ∨ (τ1 1006 0).toNatClampNeg ≤ (x3 + (4 : Int32)).toNatClampNeg then none else (if (x3 + (5 : Int32)) < 0 ∨ (τ1 1006 0).toNatClampNeg ≤ (x3 + (5 : Int32)).toNatClampNeg then none else jbi (jc 128 [(.ref 61), (.int (τ1 1005 (x3 + (1 : Int32)).toNatClampNeg)), (.int (τ1 1005 (x3 + (2 : Int32)).toNatClampNeg)), (.int (τ1 1005 (x3 + (3 : Int32)).toNatClampNeg)), (.int (τ1 1005 (x3 + (4 : Int32)).toNatClampNeg)), (.int (τ1 1005 (x3 + (5 : Int32)).toNatClampNeg))] τ1) (fun r2 τ2 => (if r1 = r2 then jv 201 18 [some (.ref 1005), some (.ref 0), some (.ref 61), some (.int (x3 + 6))] [] τ2 else some (some (.int (0 : Int32)), τ2)))))))))))))) := by
  refine (sv_ts jM201 c201_33 rfl (by decide +kernel) (z := 147) (by decide +kernel) (t := 180) (by decide +kernel)).trans ?_
  refine (sv_aload_n jM201 c201_180 rfl rfl).trans ?_
  refine (sv_aload_n jM201 c201_181 rfl rfl).trans ?_
  refine (sv_iload_n jM201 c201_182 rfl rfl).trans ?_
  refine (sv_iconst jM201 c201_183 rfl (v := 1) (by decide +kernel)).trans ?_
  refine (sv_iadd jM201 c201_184 rfl).trans ?_
  refine (sv_iald jM201 c201_185 rfl (ia_1005 _)).trans ?_
  refine jif _ rfl ?_
  refine (sv_aload_n jM201 c201_186 rfl rfl).trans ?_
  refine (sv_iload_n jM201 c201_187 rfl rfl).trans ?_
  refine (sv_iconst jM201 c201_188 rfl (v := 2) (by decide +kernel)).trans ?_
  refine (sv_iadd jM201 c201_189 rfl).trans ?_
  refine (sv_iald jM201 c201_190 rfl (ia_1005 _)).trans ?_
  refine jif _ rfl ?_
  refine (sv_aload_n jM201 c201_191 rfl rfl).trans ?_
  refine (sv_iload_n jM201 c201_192 rfl rfl).trans ?_
  refine (sv_iconst jM201 c201_193 rfl (v := 3) (by decide +kernel)).trans ?_
  refine (sv_iadd jM201 c201_194 rfl).trans ?_
  refine (sv_iald jM201 c201_195 rfl (ia_1005 _)).trans ?_
  refine jif _ rfl ?_
  refine (sv_aload_n jM201 c201_196 rfl rfl).trans ?_
  refine (sv_iload_n jM201 c201_197 rfl rfl).trans ?_
  refine (sv_iconst jM201 c201_198 rfl (v := 4) (by decide +kernel)).trans ?_
  refine (sv_iadd jM201 c201_199 rfl).trans ?_
  refine (sv_iald jM201 c201_200 rfl (ia_1005 _)).trans ?_
  refine jif _ rfl ?_
  refine (sv_aload_n jM201 c201_201 rfl rfl).trans ?_
  refine (sv_iload_n jM201 c201_202 rfl rfl).trans ?_
  refine (sv_iconst jM201 c201_203 rfl (v := 5) (by decide +kernel)).trans ?_
  refine (sv_iadd jM201 c201_204 rfl).trans ?_
  refine (sv_iald jM201 c201_205 rfl (ia_1005 _)).trans ?_
  refine jif _ rfl ?_
  refine (sv_callvi (pl := 0) jM201 c201_206 rfl (jm_call_v (a := 0) (as := [(.int (σ 1005 (x3 + (1 : Int32)).toNatClampNeg)), (.int (σ 1005 (x3 + (2 : Int32)).toNatClampNeg)), (.int (σ 1005 (x3 + (3 : Int32)).toNatClampNeg)), (.int (σ 1005 (x3 + (4 : Int32)).toNatClampNeg)), (.int (σ 1005 (x3 + (5 : Int32)).toNatClampNeg))]) (rest := []) lm_10_13 rfl jM0 rfl rfl rfl rfl rfl) jM0 rfl (Or.inl rfl)).trans ?_
  refine jbi_c (fun r1 τ1 => ?_)
  refine (sv_aload_n jM201 c201_209 rfl rfl).trans ?_
  refine (sv_aload_n jM201 c201_210 rfl rfl).trans ?_
  refine (sv_iload_n jM201 c201_211 rfl rfl).trans ?_
  refine (sv_iconst jM201 c201_212 rfl (v := 1) (by decide +kernel)).trans ?_
  refine (sv_iadd jM201 c201_213 rfl).trans ?_
  refine (sv_iald jM201 c201_214 rfl (ia_1005 _)).trans ?_
  refine jif _ rfl ?_
  refine (sv_aload_n jM201 c201_215 rfl rfl).trans ?_
  refine (sv_iload_n jM201 c201_216 rfl rfl).trans ?_
  refine (sv_iconst jM201 c201_217 rfl (v := 2) (by decide +kernel)).trans ?_
  refine (sv_iadd jM201 c201_218 rfl).trans ?_
  refine (sv_iald jM201 c201_219 rfl (ia_1005 _)).trans ?_
  refine jif _ rfl ?_
  refine (sv_aload_n jM201 c201_220 rfl rfl).trans ?_
  refine (sv_iload_n jM201 c201_221 rfl rfl).trans ?_
  refine (sv_iconst jM201 c201_222 rfl (v := 3) (by decide +kernel)).trans ?_
  refine (sv_iadd jM201 c201_223 rfl).trans ?_
  refine (sv_iald jM201 c201_224 rfl (ia_1005 _)).trans ?_
  refine jif _ rfl ?_
  refine (sv_aload_n jM201 c201_225 rfl rfl).trans ?_
  refine (sv_iload_n jM201 c201_226 rfl rfl).trans ?_
  refine (sv_iconst jM201 c201_227 rfl (v := 4) (by decide +kernel)).trans ?_
  refine (sv_iadd jM201 c201_228 rfl).trans ?_
  refine (sv_iald jM201 c201_229 rfl (ia_1005 _)).trans ?_
  refine jif _ rfl ?_
  refine (sv_aload_n jM201 c201_230 rfl rfl).trans ?_
  refine (sv_iload_n jM201 c201_231 rfl rfl).trans ?_
  refine (sv_iconst jM201 c201_232 rfl (v := 5) (by decide +kernel)).trans ?_
  refine (sv_iadd jM201 c201_233 rfl).trans ?_
  refine (sv_iald jM201 c201_234 rfl (ia_1005 _)).trans ?_
  refine jif _ rfl ?_
  refine (sv_callvi (pl := 0) jM201 c201_235 rfl (jm_call_v (a := 61) (as := [(.int (τ1 1005 (x3 + (1 : Int32)).toNatClampNeg)), (.int (τ1 1005 (x3 + (2 : Int32)).toNatClampNeg)), (.int (τ1 1005 (x3 + (3 : Int32)).toNatClampNeg)), (.int (τ1 1005 (x3 + (4 : Int32)).toNatClampNeg)), (.int (τ1 1005 (x3 + (5 : Int32)).toNatClampNeg))]) (rest := [(.int r1)]) lm_10_17 rfl jM128 rfl rfl rfl rfl rfl) jM128 rfl (Or.inl rfl)).trans ?_
  refine jbi_c (fun r2 τ2 => ?_)
  refine (sv_icmp_eq jM201 c201_238 rfl (t := 1387) (by decide +kernel)).trans ?_
  refine jif _ ?_ ?_
  ·
    refine (sv_iinc (ls1 := [some (.ref 1005), some (.ref 0), some (.ref 61), some (.int (x3 + 6))]) jM201 c201_1387 rfl rfl (v := 6) (by decide +kernel) rfl).trans ?_
    refine (sv_goto jM201 c201_1390 rfl (t := 18) (by decide +kernel)).trans ?_
    rfl
  ·
    refine (sv_iconst jM201 c201_241 rfl (v := 0) (by decide +kernel)).trans ?_
    exact sv_zret jM201 c201_242 rfl rfl (by decide +kernel)
set_option maxRecDepth 20000 in
set_option maxHeartbeats 4000000 in
theorem Law_law_S33_1 (x3 : Int32) (σ : jm_S) : jv 201 33 [some (.ref 1005), some (.ref 0), some (.ref 61), some (.int x3)] [(.int (1 : Int32))] σ = (if (x3 + (1 : Int32)) < 0 ∨ (σ 1006 0).toNatClampNeg ≤ (x3 + (1 : Int32)).toNatClampNeg then none else (if (x3 + (2 : Int32)) < 0 ∨ (σ 1006 0).toNatClampNeg ≤ (x3 + (2 : Int32)).toNatClampNeg then none else jbi (jc 7 [(.ref 0), (.int (σ 1005 (x3 + (1 : Int32)).toNatClampNeg)), (.int (σ 1005 (x3 + (2 : Int32)).toNatClampNeg))] σ) (fun r1 τ1 => (if (x3 + (1 : Int32)) < 0 ∨ (τ1 1006 0).toNatClampNeg ≤ (x3 + (1 : Int32)).toNatClampNeg then none else (if (x3 + (2 : Int32)) < 0 ∨ (τ1 1006 0).toNatClampNeg ≤ (x3 + (2 : Int32)).toNatClampNeg then none else jbi (jc 131 [(.ref 61), (.int (τ1 1005 (x3 + (1 : Int32)).toNatClampNeg)), (.int (τ1 1005 (x3 + (2 : Int32)).toNatClampNeg))] τ1) (fun r2 τ2 => (if r1 = r2 then jv 201 18 [some (.ref 1005), some (.ref 0), some (.ref 61), some (.int (x3 + 6))] [] τ2 else some (some (.int (0 : Int32)), τ2)))))))) := by
  refine (sv_ts jM201 c201_33 rfl (by decide +kernel) (z := 210) (by decide +kernel) (t := 243) (by decide +kernel)).trans ?_
  refine (sv_aload_n jM201 c201_243 rfl rfl).trans ?_
  refine (sv_aload_n jM201 c201_244 rfl rfl).trans ?_
  refine (sv_iload_n jM201 c201_245 rfl rfl).trans ?_
  refine (sv_iconst jM201 c201_246 rfl (v := 1) (by decide +kernel)).trans ?_
  refine (sv_iadd jM201 c201_247 rfl).trans ?_
  refine (sv_iald jM201 c201_248 rfl (ia_1005 _)).trans ?_
  refine jif _ rfl ?_
  refine (sv_aload_n jM201 c201_249 rfl rfl).trans ?_
  refine (sv_iload_n jM201 c201_250 rfl rfl).trans ?_
  refine (sv_iconst jM201 c201_251 rfl (v := 2) (by decide +kernel)).trans ?_
  refine (sv_iadd jM201 c201_252 rfl).trans ?_
  refine (sv_iald jM201 c201_253 rfl (ia_1005 _)).trans ?_
  refine jif _ rfl ?_
  refine (sv_callvi (pl := 0) jM201 c201_254 rfl (jm_call_v (a := 0) (as := [(.int (σ 1005 (x3 + (1 : Int32)).toNatClampNeg)), (.int (σ 1005 (x3 + (2 : Int32)).toNatClampNeg))]) (rest := []) lm_10_18 rfl jM7 rfl rfl rfl rfl rfl) jM7 rfl (Or.inl rfl)).trans ?_
  refine jbi_c (fun r1 τ1 => ?_)
  refine (sv_aload_n jM201 c201_257 rfl rfl).trans ?_
  refine (sv_aload_n jM201 c201_258 rfl rfl).trans ?_
  refine (sv_iload_n jM201 c201_259 rfl rfl).trans ?_
  refine (sv_iconst jM201 c201_260 rfl (v := 1) (by decide +kernel)).trans ?_
  refine (sv_iadd jM201 c201_261 rfl).trans ?_
  refine (sv_iald jM201 c201_262 rfl (ia_1005 _)).trans ?_
  refine jif _ rfl ?_
  refine (sv_aload_n jM201 c201_263 rfl rfl).trans ?_
  refine (sv_iload_n jM201 c201_264 rfl rfl).trans ?_
  refine (sv_iconst jM201 c201_265 rfl (v := 2) (by decide +kernel)).trans ?_
  refine (sv_iadd jM201 c201_266 rfl).trans ?_
  refine (sv_iald jM201 c201_267 rfl (ia_1005 _)).trans ?_
  refine jif _ rfl ?_
  refine (sv_callvi (pl := 0) jM201 c201_268 rfl (jm_call_v (a := 61) (as := [(.int (τ1 1005 (x3 + (1 : Int32)).toNatClampNeg)), (.int (τ1 1005 (x3 + (2 : Int32)).toNatClampNeg))]) (rest := [(.int r1)]) lm_10_22 rfl jM131 rfl rfl rfl rfl rfl) jM131 rfl (Or.inl rfl)).trans ?_
  refine jbi_c (fun r2 τ2 => ?_)
  refine (sv_icmp_eq jM201 c201_271 rfl (t := 1387) (by decide +kernel)).trans ?_
  refine jif _ ?_ ?_
  ·
    refine (sv_iinc (ls1 := [some (.ref 1005), some (.ref 0), some (.ref 61), some (.int (x3 + 6))]) jM201 c201_1387 rfl rfl (v := 6) (by decide +kernel) rfl).trans ?_
    refine (sv_goto jM201 c201_1390 rfl (t := 18) (by decide +kernel)).trans ?_
    rfl
  ·
    refine (sv_iconst jM201 c201_274 rfl (v := 0) (by decide +kernel)).trans ?_
    exact sv_zret jM201 c201_275 rfl rfl (by decide +kernel)
set_option maxRecDepth 20000 in
set_option maxHeartbeats 4000000 in
theorem Law_law_S33_2 (x3 : Int32) (σ : jm_S) : jv 201 33 [some (.ref 1005), some (.ref 0), some (.ref 61), some (.int x3)] [(.int (2 : Int32))] σ = (if (x3 + (1 : Int32)) < 0 ∨ (σ 1006 0).toNatClampNeg ≤ (x3 + (1 : Int32)).toNatClampNeg then none else (if (x3 + (2 : Int32)) < 0 ∨ (σ 1006 0).toNatClampNeg ≤ (x3 + (2 : Int32)).toNatClampNeg then none else (if (x3 + (3 : Int32)) < 0 ∨ (σ 1006 0).toNatClampNeg ≤ (x3 + (3 : Int32)).toNatClampNeg then none else jbi (jc 10 [(.ref 0), (.int (σ 1005 (x3 + (1 : Int32)).toNatClampNeg)), (.int (σ 1005 (x3 + (2 : Int32)).toNatClampNeg)), (.int (σ 1005 (x3 + (3 : Int32)).toNatClampNeg))] σ) (fun r1 τ1 => (if (x3 + (1 : Int32)) < 0 ∨ (τ1 1006 0).toNatClampNeg ≤ (x3 + (1 : Int32)).toNatClampNeg then none else (if (x3 + (2 : Int32)) < 0 ∨ (τ1 1006 0).toNatClampNeg ≤ (x3 + (2 : Int32)).toNatClampNeg then none else (if (x3 + (3 : Int32)) < 0 ∨ (τ1 1006 0).toNatClampNeg ≤ (x3 + (3 : Int32)).toNatClampNeg then none else jbi (jc 132 [(.ref 61), (.int (τ1 1005 (x3 + (1 : Int32)).toNatClampNeg)), (.int (τ1 1005 (x3 + (2 : Int32)).toNatClampNeg)), (.int (τ1 1005 (x3 + (3 : Int32)).toNatClampNeg))] τ1) (fun r2 τ2 => (if r1 = r2 then jv 201 18 [some (.ref 1005), some (.ref 0), some (.ref 61), some (.int (x3 + 6))] [] τ2 else some (some (.int (0 : Int32)), τ2)))))))))) := by
  refine (sv_ts jM201 c201_33 rfl (by decide +kernel) (z := 243) (by decide +kernel) (t := 276) (by decide +kernel)).trans ?_
  refine (sv_aload_n jM201 c201_276 rfl rfl).trans ?_
  refine (sv_aload_n jM201 c201_277 rfl rfl).trans ?_
  refine (sv_iload_n jM201 c201_278 rfl rfl).trans ?_
  refine (sv_iconst jM201 c201_279 rfl (v := 1) (by decide +kernel)).trans ?_
  refine (sv_iadd jM201 c201_280 rfl).trans ?_
  refine (sv_iald jM201 c201_281 rfl (ia_1005 _)).trans ?_
  refine jif _ rfl ?_
  refine (sv_aload_n jM201 c201_282 rfl rfl).trans ?_
  refine (sv_iload_n jM201 c201_283 rfl rfl).trans ?_
  refine (sv_iconst jM201 c201_284 rfl (v := 2) (by decide +kernel)).trans ?_
  refine (sv_iadd jM201 c201_285 rfl).trans ?_
  refine (sv_iald jM201 c201_286 rfl (ia_1005 _)).trans ?_
  refine jif _ rfl ?_
  refine (sv_aload_n jM201 c201_287 rfl rfl).trans ?_
  refine (sv_iload_n jM201 c201_288 rfl rfl).trans ?_
  refine (sv_iconst jM201 c201_289 rfl (v := 3) (by decide +kernel)).trans ?_
  refine (sv_iadd jM201 c201_290 rfl).trans ?_
  refine (sv_iald jM201 c201_291 rfl (ia_1005 _)).trans ?_
  refine jif _ rfl ?_
  refine (sv_callvi (pl := 0) jM201 c201_292 rfl (jm_call_v (a := 0) (as := [(.int (σ 1005 (x3 + (1 : Int32)).toNatClampNeg)), (.int (σ 1005 (x3 + (2 : Int32)).toNatClampNeg)), (.int (σ 1005 (x3 + (3 : Int32)).toNatClampNeg))]) (rest := []) lm_10_23 rfl jM10 rfl rfl rfl rfl rfl) jM10 rfl (Or.inl rfl)).trans ?_
  refine jbi_c (fun r1 τ1 => ?_)
  refine (sv_aload_n jM201 c201_295 rfl rfl).trans ?_
  refine (sv_aload_n jM201 c201_296 rfl rfl).trans ?_
  refine (sv_iload_n jM201 c201_297 rfl rfl).trans ?_
  refine (sv_iconst jM201 c201_298 rfl (v := 1) (by decide +kernel)).trans ?_
  refine (sv_iadd jM201 c201_299 rfl).trans ?_
  refine (sv_iald jM201 c201_300 rfl (ia_1005 _)).trans ?_
  refine jif _ rfl ?_
  refine (sv_aload_n jM201 c201_301 rfl rfl).trans ?_
  refine (sv_iload_n jM201 c201_302 rfl rfl).trans ?_
  refine (sv_iconst jM201 c201_303 rfl (v := 2) (by decide +kernel)).trans ?_
  refine (sv_iadd jM201 c201_304 rfl).trans ?_
  refine (sv_iald jM201 c201_305 rfl (ia_1005 _)).trans ?_
  refine jif _ rfl ?_
  refine (sv_aload_n jM201 c201_306 rfl rfl).trans ?_
  refine (sv_iload_n jM201 c201_307 rfl rfl).trans ?_
  refine (sv_iconst jM201 c201_308 rfl (v := 3) (by decide +kernel)).trans ?_
  refine (sv_iadd jM201 c201_309 rfl).trans ?_
  refine (sv_iald jM201 c201_310 rfl (ia_1005 _)).trans ?_
  refine jif _ rfl ?_
  refine (sv_callvi (pl := 0) jM201 c201_311 rfl (jm_call_v (a := 61) (as := [(.int (τ1 1005 (x3 + (1 : Int32)).toNatClampNeg)), (.int (τ1 1005 (x3 + (2 : Int32)).toNatClampNeg)), (.int (τ1 1005 (x3 + (3 : Int32)).toNatClampNeg))]) (rest := [(.int r1)]) lm_10_27 rfl jM132 rfl rfl rfl rfl rfl) jM132 rfl (Or.inl rfl)).trans ?_
  refine jbi_c (fun r2 τ2 => ?_)
  refine (sv_icmp_eq jM201 c201_314 rfl (t := 1387) (by decide +kernel)).trans ?_
  refine jif _ ?_ ?_
  ·
    refine (sv_iinc (ls1 := [some (.ref 1005), some (.ref 0), some (.ref 61), some (.int (x3 + 6))]) jM201 c201_1387 rfl rfl (v := 6) (by decide +kernel) rfl).trans ?_
    refine (sv_goto jM201 c201_1390 rfl (t := 18) (by decide +kernel)).trans ?_
    rfl
  ·
    refine (sv_iconst jM201 c201_317 rfl (v := 0) (by decide +kernel)).trans ?_
    exact sv_zret jM201 c201_318 rfl rfl (by decide +kernel)
set_option maxRecDepth 20000 in
set_option maxHeartbeats 4000000 in
theorem Law_law_S33_3 (x3 : Int32) (σ : jm_S) : jv 201 33 [some (.ref 1005), some (.ref 0), some (.ref 61), some (.int x3)] [(.int (3 : Int32))] σ = jbi (jc 13 [(.ref 0)] σ) (fun r1 τ1 => jbi (jc 134 [(.ref 61)] τ1) (fun r2 τ2 => (if r1 = r2 then jv 201 18 [some (.ref 1005), some (.ref 0), some (.ref 61), some (.int (x3 + 6))] [] τ2 else some (some (.int (0 : Int32)), τ2)))) := by
  refine (sv_ts jM201 c201_33 rfl (by decide +kernel) (z := 286) (by decide +kernel) (t := 319) (by decide +kernel)).trans ?_
  refine (sv_aload_n jM201 c201_319 rfl rfl).trans ?_
  refine (sv_callvi (pl := 0) jM201 c201_320 rfl (jm_call_v (a := 0) (as := []) (rest := []) lm_10_28 rfl jM13 rfl rfl rfl rfl rfl) jM13 rfl (Or.inl rfl)).trans ?_
  refine jbi_c (fun r1 τ1 => ?_)
  refine (sv_aload_n jM201 c201_323 rfl rfl).trans ?_
  refine (sv_callvi (pl := 0) jM201 c201_324 rfl (jm_call_v (a := 61) (as := []) (rest := [(.int r1)]) lm_10_32 rfl jM134 rfl rfl rfl rfl rfl) jM134 rfl (Or.inl rfl)).trans ?_
  refine jbi_c (fun r2 τ2 => ?_)
  refine (sv_icmp_eq jM201 c201_327 rfl (t := 1387) (by decide +kernel)).trans ?_
  refine jif _ ?_ ?_
  ·
    refine (sv_iinc (ls1 := [some (.ref 1005), some (.ref 0), some (.ref 61), some (.int (x3 + 6))]) jM201 c201_1387 rfl rfl (v := 6) (by decide +kernel) rfl).trans ?_
    refine (sv_goto jM201 c201_1390 rfl (t := 18) (by decide +kernel)).trans ?_
    rfl
  ·
    refine (sv_iconst jM201 c201_330 rfl (v := 0) (by decide +kernel)).trans ?_
    exact sv_zret jM201 c201_331 rfl rfl (by decide +kernel)
set_option maxRecDepth 20000 in
set_option maxHeartbeats 4000000 in
theorem Law_law_S33_4 (x3 : Int32) (σ : jm_S) : jv 201 33 [some (.ref 1005), some (.ref 0), some (.ref 61), some (.int x3)] [(.int (4 : Int32))] σ = (if (x3 + (1 : Int32)) < 0 ∨ (σ 1006 0).toNatClampNeg ≤ (x3 + (1 : Int32)).toNatClampNeg then none else (if (x3 + (2 : Int32)) < 0 ∨ (σ 1006 0).toNatClampNeg ≤ (x3 + (2 : Int32)).toNatClampNeg then none else jbi (jc 14 [(.ref 0), (.int (σ 1005 (x3 + (1 : Int32)).toNatClampNeg)), (.int (σ 1005 (x3 + (2 : Int32)).toNatClampNeg))] σ) (fun r1 τ1 => (if (x3 + (1 : Int32)) < 0 ∨ (τ1 1006 0).toNatClampNeg ≤ (x3 + (1 : Int32)).toNatClampNeg then none else (if (x3 + (2 : Int32)) < 0 ∨ (τ1 1006 0).toNatClampNeg ≤ (x3 + (2 : Int32)).toNatClampNeg then none else jbi (jc 135 [(.ref 61), (.int (τ1 1005 (x3 + (1 : Int32)).toNatClampNeg)), (.int (τ1 1005 (x3 + (2 : Int32)).toNatClampNeg))] τ1) (fun r2 τ2 => (if r1 = r2 then jv 201 18 [some (.ref 1005), some (.ref 0), some (.ref 61), some (.int (x3 + 6))] [] τ2 else some (some (.int (0 : Int32)), τ2)))))))) := by
  refine (sv_ts jM201 c201_33 rfl (by decide +kernel) (z := 299) (by decide +kernel) (t := 332) (by decide +kernel)).trans ?_
  refine (sv_aload_n jM201 c201_332 rfl rfl).trans ?_
  refine (sv_aload_n jM201 c201_333 rfl rfl).trans ?_
  refine (sv_iload_n jM201 c201_334 rfl rfl).trans ?_
  refine (sv_iconst jM201 c201_335 rfl (v := 1) (by decide +kernel)).trans ?_
  refine (sv_iadd jM201 c201_336 rfl).trans ?_
  refine (sv_iald jM201 c201_337 rfl (ia_1005 _)).trans ?_
  refine jif _ rfl ?_
  refine (sv_aload_n jM201 c201_338 rfl rfl).trans ?_
  refine (sv_iload_n jM201 c201_339 rfl rfl).trans ?_
  refine (sv_iconst jM201 c201_340 rfl (v := 2) (by decide +kernel)).trans ?_
  refine (sv_iadd jM201 c201_341 rfl).trans ?_
  refine (sv_iald jM201 c201_342 rfl (ia_1005 _)).trans ?_
  refine jif _ rfl ?_
  refine (sv_callvi (pl := 0) jM201 c201_343 rfl (jm_call_v (a := 0) (as := [(.int (σ 1005 (x3 + (1 : Int32)).toNatClampNeg)), (.int (σ 1005 (x3 + (2 : Int32)).toNatClampNeg))]) (rest := []) lm_10_33 rfl jM14 rfl rfl rfl rfl rfl) jM14 rfl (Or.inl rfl)).trans ?_
  refine jbi_c (fun r1 τ1 => ?_)
  refine (sv_aload_n jM201 c201_346 rfl rfl).trans ?_
  refine (sv_aload_n jM201 c201_347 rfl rfl).trans ?_
  refine (sv_iload_n jM201 c201_348 rfl rfl).trans ?_
  refine (sv_iconst jM201 c201_349 rfl (v := 1) (by decide +kernel)).trans ?_
  refine (sv_iadd jM201 c201_350 rfl).trans ?_
  refine (sv_iald jM201 c201_351 rfl (ia_1005 _)).trans ?_
  refine jif _ rfl ?_
  refine (sv_aload_n jM201 c201_352 rfl rfl).trans ?_
  refine (sv_iload_n jM201 c201_353 rfl rfl).trans ?_
  refine (sv_iconst jM201 c201_354 rfl (v := 2) (by decide +kernel)).trans ?_
  refine (sv_iadd jM201 c201_355 rfl).trans ?_
  refine (sv_iald jM201 c201_356 rfl (ia_1005 _)).trans ?_
  refine jif _ rfl ?_
  refine (sv_callvi (pl := 0) jM201 c201_357 rfl (jm_call_v (a := 61) (as := [(.int (τ1 1005 (x3 + (1 : Int32)).toNatClampNeg)), (.int (τ1 1005 (x3 + (2 : Int32)).toNatClampNeg))]) (rest := [(.int r1)]) lm_10_36 rfl jM135 rfl rfl rfl rfl rfl) jM135 rfl (Or.inl rfl)).trans ?_
  refine jbi_c (fun r2 τ2 => ?_)
  refine (sv_icmp_eq jM201 c201_360 rfl (t := 1387) (by decide +kernel)).trans ?_
  refine jif _ ?_ ?_
  ·
    refine (sv_iinc (ls1 := [some (.ref 1005), some (.ref 0), some (.ref 61), some (.int (x3 + 6))]) jM201 c201_1387 rfl rfl (v := 6) (by decide +kernel) rfl).trans ?_
    refine (sv_goto jM201 c201_1390 rfl (t := 18) (by decide +kernel)).trans ?_
    rfl
  ·
    refine (sv_iconst jM201 c201_363 rfl (v := 0) (by decide +kernel)).trans ?_
    exact sv_zret jM201 c201_364 rfl rfl (by decide +kernel)
set_option maxRecDepth 20000 in
set_option maxHeartbeats 4000000 in
theorem Law_law_S33_5 (x3 : Int32) (σ : jm_S) : jv 201 33 [some (.ref 1005), some (.ref 0), some (.ref 61), some (.int x3)] [(.int (5 : Int32))] σ = (if (x3 + (1 : Int32)) < 0 ∨ (σ 1006 0).toNatClampNeg ≤ (x3 + (1 : Int32)).toNatClampNeg then none else (if (x3 + (2 : Int32)) < 0 ∨ (σ 1006 0).toNatClampNeg ≤ (x3 + (2 : Int32)).toNatClampNeg then none else jbi (jc 15 [(.ref 0), (.int (σ 1005 (x3 + (1 : Int32)).toNatClampNeg)), (.int (σ 1005 (x3 + (2 : Int32)).toNatClampNeg))] σ) (fun r1 τ1 => (if (x3 + (1 : Int32)) < 0 ∨ (τ1 1006 0).toNatClampNeg ≤ (x3 + (1 : Int32)).toNatClampNeg then none else (if (x3 + (2 : Int32)) < 0 ∨ (τ1 1006 0).toNatClampNeg ≤ (x3 + (2 : Int32)).toNatClampNeg then none else jbi (jc 136 [(.ref 61), (.int (τ1 1005 (x3 + (1 : Int32)).toNatClampNeg)), (.int (τ1 1005 (x3 + (2 : Int32)).toNatClampNeg))] τ1) (fun r2 τ2 => (if r1 = r2 then jv 201 18 [some (.ref 1005), some (.ref 0), some (.ref 61), some (.int (x3 + 6))] [] τ2 else some (some (.int (0 : Int32)), τ2)))))))) := by
  refine (sv_ts jM201 c201_33 rfl (by decide +kernel) (z := 332) (by decide +kernel) (t := 365) (by decide +kernel)).trans ?_
  refine (sv_aload_n jM201 c201_365 rfl rfl).trans ?_
  refine (sv_aload_n jM201 c201_366 rfl rfl).trans ?_
  refine (sv_iload_n jM201 c201_367 rfl rfl).trans ?_
  refine (sv_iconst jM201 c201_368 rfl (v := 1) (by decide +kernel)).trans ?_
  refine (sv_iadd jM201 c201_369 rfl).trans ?_
  refine (sv_iald jM201 c201_370 rfl (ia_1005 _)).trans ?_
  refine jif _ rfl ?_
  refine (sv_aload_n jM201 c201_371 rfl rfl).trans ?_
  refine (sv_iload_n jM201 c201_372 rfl rfl).trans ?_
  refine (sv_iconst jM201 c201_373 rfl (v := 2) (by decide +kernel)).trans ?_
  refine (sv_iadd jM201 c201_374 rfl).trans ?_
  refine (sv_iald jM201 c201_375 rfl (ia_1005 _)).trans ?_
  refine jif _ rfl ?_
  refine (sv_callvi (pl := 0) jM201 c201_376 rfl (jm_call_v (a := 0) (as := [(.int (σ 1005 (x3 + (1 : Int32)).toNatClampNeg)), (.int (σ 1005 (x3 + (2 : Int32)).toNatClampNeg))]) (rest := []) lm_10_37 rfl jM15 rfl rfl rfl rfl rfl) jM15 rfl (Or.inl rfl)).trans ?_
  refine jbi_c (fun r1 τ1 => ?_)
  refine (sv_aload_n jM201 c201_379 rfl rfl).trans ?_
  refine (sv_aload_n jM201 c201_380 rfl rfl).trans ?_
  refine (sv_iload_n jM201 c201_381 rfl rfl).trans ?_
  refine (sv_iconst jM201 c201_382 rfl (v := 1) (by decide +kernel)).trans ?_
  refine (sv_iadd jM201 c201_383 rfl).trans ?_
  refine (sv_iald jM201 c201_384 rfl (ia_1005 _)).trans ?_
  refine jif _ rfl ?_
  refine (sv_aload_n jM201 c201_385 rfl rfl).trans ?_
  refine (sv_iload_n jM201 c201_386 rfl rfl).trans ?_
  refine (sv_iconst jM201 c201_387 rfl (v := 2) (by decide +kernel)).trans ?_
  refine (sv_iadd jM201 c201_388 rfl).trans ?_
  refine (sv_iald jM201 c201_389 rfl (ia_1005 _)).trans ?_
  refine jif _ rfl ?_
  refine (sv_callvi (pl := 0) jM201 c201_390 rfl (jm_call_v (a := 61) (as := [(.int (τ1 1005 (x3 + (1 : Int32)).toNatClampNeg)), (.int (τ1 1005 (x3 + (2 : Int32)).toNatClampNeg))]) (rest := [(.int r1)]) lm_10_40 rfl jM136 rfl rfl rfl rfl rfl) jM136 rfl (Or.inl rfl)).trans ?_
  refine jbi_c (fun r2 τ2 => ?_)
  refine (sv_icmp_eq jM201 c201_393 rfl (t := 1387) (by decide +kernel)).trans ?_
  refine jif _ ?_ ?_
  ·
    refine (sv_iinc (ls1 := [some (.ref 1005), some (.ref 0), some (.ref 61), some (.int (x3 + 6))]) jM201 c201_1387 rfl rfl (v := 6) (by decide +kernel) rfl).trans ?_
    refine (sv_goto jM201 c201_1390 rfl (t := 18) (by decide +kernel)).trans ?_
    rfl
  ·
    refine (sv_iconst jM201 c201_396 rfl (v := 0) (by decide +kernel)).trans ?_
    exact sv_zret jM201 c201_397 rfl rfl (by decide +kernel)
set_option maxRecDepth 20000 in
set_option maxHeartbeats 4000000 in
theorem Law_law_S33_6 (x3 : Int32) (σ : jm_S) : jv 201 33 [some (.ref 1005), some (.ref 0), some (.ref 61), some (.int x3)] [(.int (6 : Int32))] σ = (if (x3 + (1 : Int32)) < 0 ∨ (σ 1006 0).toNatClampNeg ≤ (x3 + (1 : Int32)).toNatClampNeg then none else jbi (jc 33 [(.ref 0), (.int (σ 1005 (x3 + (1 : Int32)).toNatClampNeg))] σ) (fun r1 τ1 => (if (x3 + (1 : Int32)) < 0 ∨ (τ1 1006 0).toNatClampNeg ≤ (x3 + (1 : Int32)).toNatClampNeg then none else jbi (jc 138 [(.ref 61), (.int (τ1 1005 (x3 + (1 : Int32)).toNatClampNeg))] τ1) (fun r2 τ2 => (if r1 = r2 then jv 201 18 [some (.ref 1005), some (.ref 0), some (.ref 61), some (.int (x3 + 6))] [] τ2 else some (some (.int (0 : Int32)), τ2)))))) := by
  refine (sv_ts jM201 c201_33 rfl (by decide +kernel) (z := 365) (by decide +kernel) (t := 398) (by decide +kernel)).trans ?_
  refine (sv_aload_n jM201 c201_398 rfl rfl).trans ?_
  refine (sv_aload_n jM201 c201_399 rfl rfl).trans ?_
  refine (sv_iload_n jM201 c201_400 rfl rfl).trans ?_
  refine (sv_iconst jM201 c201_401 rfl (v := 1) (by decide +kernel)).trans ?_
  refine (sv_iadd jM201 c201_402 rfl).trans ?_
  refine (sv_iald jM201 c201_403 rfl (ia_1005 _)).trans ?_
  refine jif _ rfl ?_
  refine (sv_callvi (pl := 0) jM201 c201_404 rfl (jm_call_v (a := 0) (as := [(.int (σ 1005 (x3 + (1 : Int32)).toNatClampNeg))]) (rest := []) lm_10_41 rfl jM33 rfl rfl rfl rfl rfl) jM33 rfl (Or.inl rfl)).trans ?_
  refine jbi_c (fun r1 τ1 => ?_)
  refine (sv_aload_n jM201 c201_407 rfl rfl).trans ?_
  refine (sv_aload_n jM201 c201_408 rfl rfl).trans ?_
  refine (sv_iload_n jM201 c201_409 rfl rfl).trans ?_
  refine (sv_iconst jM201 c201_410 rfl (v := 1) (by decide +kernel)).trans ?_
  refine (sv_iadd jM201 c201_411 rfl).trans ?_
  refine (sv_iald jM201 c201_412 rfl (ia_1005 _)).trans ?_
  refine jif _ rfl ?_
  refine (sv_callvi (pl := 0) jM201 c201_413 rfl (jm_call_v (a := 61) (as := [(.int (τ1 1005 (x3 + (1 : Int32)).toNatClampNeg))]) (rest := [(.int r1)]) lm_10_45 rfl jM138 rfl rfl rfl rfl rfl) jM138 rfl (Or.inl rfl)).trans ?_
  refine jbi_c (fun r2 τ2 => ?_)
  refine (sv_icmp_eq jM201 c201_416 rfl (t := 1387) (by decide +kernel)).trans ?_
  refine jif _ ?_ ?_
  ·
    refine (sv_iinc (ls1 := [some (.ref 1005), some (.ref 0), some (.ref 61), some (.int (x3 + 6))]) jM201 c201_1387 rfl rfl (v := 6) (by decide +kernel) rfl).trans ?_
    refine (sv_goto jM201 c201_1390 rfl (t := 18) (by decide +kernel)).trans ?_
    rfl
  ·
    refine (sv_iconst jM201 c201_419 rfl (v := 0) (by decide +kernel)).trans ?_
    exact sv_zret jM201 c201_420 rfl rfl (by decide +kernel)
set_option maxRecDepth 20000 in
set_option maxHeartbeats 4000000 in
theorem Law_law_S33_7 (x3 : Int32) (σ : jm_S) : jv 201 33 [some (.ref 1005), some (.ref 0), some (.ref 61), some (.int x3)] [(.int (7 : Int32))] σ = (if (x3 + (1 : Int32)) < 0 ∨ (σ 1006 0).toNatClampNeg ≤ (x3 + (1 : Int32)).toNatClampNeg then none else jbi (jc 34 [(.ref 0), (.int (σ 1005 (x3 + (1 : Int32)).toNatClampNeg))] σ) (fun r1 τ1 => (if (x3 + (1 : Int32)) < 0 ∨ (τ1 1006 0).toNatClampNeg ≤ (x3 + (1 : Int32)).toNatClampNeg then none else jbi (jc 139 [(.ref 61), (.int (τ1 1005 (x3 + (1 : Int32)).toNatClampNeg))] τ1) (fun r2 τ2 => (if r1 = r2 then jv 201 18 [some (.ref 1005), some (.ref 0), some (.ref 61), some (.int (x3 + 6))] [] τ2 else some (some (.int (0 : Int32)), τ2)))))) := by
  refine (sv_ts jM201 c201_33 rfl (by decide +kernel) (z := 388) (by decide +kernel) (t := 421) (by decide +kernel)).trans ?_
  refine (sv_aload_n jM201 c201_421 rfl rfl).trans ?_
  refine (sv_aload_n jM201 c201_422 rfl rfl).trans ?_
  refine (sv_iload_n jM201 c201_423 rfl rfl).trans ?_
  refine (sv_iconst jM201 c201_424 rfl (v := 1) (by decide +kernel)).trans ?_
  refine (sv_iadd jM201 c201_425 rfl).trans ?_
  refine (sv_iald jM201 c201_426 rfl (ia_1005 _)).trans ?_
  refine jif _ rfl ?_
  refine (sv_callvi (pl := 0) jM201 c201_427 rfl (jm_call_v (a := 0) (as := [(.int (σ 1005 (x3 + (1 : Int32)).toNatClampNeg))]) (rest := []) lm_10_46 rfl jM34 rfl rfl rfl rfl rfl) jM34 rfl (Or.inl rfl)).trans ?_
  refine jbi_c (fun r1 τ1 => ?_)
  refine (sv_aload_n jM201 c201_430 rfl rfl).trans ?_
  refine (sv_aload_n jM201 c201_431 rfl rfl).trans ?_
  refine (sv_iload_n jM201 c201_432 rfl rfl).trans ?_
  refine (sv_iconst jM201 c201_433 rfl (v := 1) (by decide +kernel)).trans ?_
  refine (sv_iadd jM201 c201_434 rfl).trans ?_
  refine (sv_iald jM201 c201_435 rfl (ia_1005 _)).trans ?_
  refine jif _ rfl ?_
  refine (sv_callvi (pl := 0) jM201 c201_436 rfl (jm_call_v (a := 61) (as := [(.int (τ1 1005 (x3 + (1 : Int32)).toNatClampNeg))]) (rest := [(.int r1)]) lm_10_49 rfl jM139 rfl rfl rfl rfl rfl) jM139 rfl (Or.inl rfl)).trans ?_
  refine jbi_c (fun r2 τ2 => ?_)
  refine (sv_icmp_eq jM201 c201_439 rfl (t := 1387) (by decide +kernel)).trans ?_
  refine jif _ ?_ ?_
  ·
    refine (sv_iinc (ls1 := [some (.ref 1005), some (.ref 0), some (.ref 61), some (.int (x3 + 6))]) jM201 c201_1387 rfl rfl (v := 6) (by decide +kernel) rfl).trans ?_
    refine (sv_goto jM201 c201_1390 rfl (t := 18) (by decide +kernel)).trans ?_
    rfl
  ·
    refine (sv_iconst jM201 c201_442 rfl (v := 0) (by decide +kernel)).trans ?_
    exact sv_zret jM201 c201_443 rfl rfl (by decide +kernel)
set_option maxRecDepth 20000 in
set_option maxHeartbeats 4000000 in
theorem Law_law_S33_8 (x3 : Int32) (σ : jm_S) : jv 201 33 [some (.ref 1005), some (.ref 0), some (.ref 61), some (.int x3)] [(.int (8 : Int32))] σ = (if (x3 + (1 : Int32)) < 0 ∨ (σ 1006 0).toNatClampNeg ≤ (x3 + (1 : Int32)).toNatClampNeg then none else (if (x3 + (2 : Int32)) < 0 ∨ (σ 1006 0).toNatClampNeg ≤ (x3 + (2 : Int32)).toNatClampNeg then none else jbi (jc 35 [(.ref 0), (.int (σ 1005 (x3 + (1 : Int32)).toNatClampNeg)), (.int (σ 1005 (x3 + (2 : Int32)).toNatClampNeg))] σ) (fun r1 τ1 => (if (x3 + (1 : Int32)) < 0 ∨ (τ1 1006 0).toNatClampNeg ≤ (x3 + (1 : Int32)).toNatClampNeg then none else (if (x3 + (2 : Int32)) < 0 ∨ (τ1 1006 0).toNatClampNeg ≤ (x3 + (2 : Int32)).toNatClampNeg then none else jbi (jc 148 [(.ref 61), (.int (τ1 1005 (x3 + (1 : Int32)).toNatClampNeg)), (.int (τ1 1005 (x3 + (2 : Int32)).toNatClampNeg))] τ1) (fun r2 τ2 => (if r1 = r2 then jv 201 18 [some (.ref 1005), some (.ref 0), some (.ref 61), some (.int (x3 + 6))] [] τ2 else some (some (.int (0 : Int32)), τ2)))))))) := by
  refine (sv_ts jM201 c201_33 rfl (by decide +kernel) (z := 411) (by decide +kernel) (t := 444) (by decide +kernel)).trans ?_
  refine (sv_aload_n jM201 c201_444 rfl rfl).trans ?_
  refine (sv_aload_n jM201 c201_445 rfl rfl).trans ?_
  refine (sv_iload_n jM201 c201_446 rfl rfl).trans ?_
  refine (sv_iconst jM201 c201_447 rfl (v := 1) (by decide +kernel)).trans ?_
  refine (sv_iadd jM201 c201_448 rfl).trans ?_
  refine (sv_iald jM201 c201_449 rfl (ia_1005 _)).trans ?_
  refine jif _ rfl ?_
  refine (sv_aload_n jM201 c201_450 rfl rfl).trans ?_
  refine (sv_iload_n jM201 c201_451 rfl rfl).trans ?_
  refine (sv_iconst jM201 c201_452 rfl (v := 2) (by decide +kernel)).trans ?_
  refine (sv_iadd jM201 c201_453 rfl).trans ?_
  refine (sv_iald jM201 c201_454 rfl (ia_1005 _)).trans ?_
  refine jif _ rfl ?_
  refine (sv_callvi (pl := 0) jM201 c201_455 rfl (jm_call_v (a := 0) (as := [(.int (σ 1005 (x3 + (1 : Int32)).toNatClampNeg)), (.int (σ 1005 (x3 + (2 : Int32)).toNatClampNeg))]) (rest := []) lm_10_50 rfl jM35 rfl rfl rfl rfl rfl) jM35 rfl (Or.inl rfl)).trans ?_
  refine jbi_c (fun r1 τ1 => ?_)
  refine (sv_aload_n jM201 c201_458 rfl rfl).trans ?_
  refine (sv_aload_n jM201 c201_459 rfl rfl).trans ?_
  refine (sv_iload_n jM201 c201_460 rfl rfl).trans ?_
  refine (sv_iconst jM201 c201_461 rfl (v := 1) (by decide +kernel)).trans ?_
  refine (sv_iadd jM201 c201_462 rfl).trans ?_
  refine (sv_iald jM201 c201_463 rfl (ia_1005 _)).trans ?_
  refine jif _ rfl ?_
  refine (sv_aload_n jM201 c201_464 rfl rfl).trans ?_
  refine (sv_iload_n jM201 c201_465 rfl rfl).trans ?_
  refine (sv_iconst jM201 c201_466 rfl (v := 2) (by decide +kernel)).trans ?_
  refine (sv_iadd jM201 c201_467 rfl).trans ?_
  refine (sv_iald jM201 c201_468 rfl (ia_1005 _)).trans ?_
  refine jif _ rfl ?_
  refine (sv_callvi (pl := 0) jM201 c201_469 rfl (jm_call_v (a := 61) (as := [(.int (τ1 1005 (x3 + (1 : Int32)).toNatClampNeg)), (.int (τ1 1005 (x3 + (2 : Int32)).toNatClampNeg))]) (rest := [(.int r1)]) lm_10_53 rfl jM148 rfl rfl rfl rfl rfl) jM148 rfl (Or.inl rfl)).trans ?_
  refine jbi_c (fun r2 τ2 => ?_)
  refine (sv_icmp_eq jM201 c201_472 rfl (t := 1387) (by decide +kernel)).trans ?_
  refine jif _ ?_ ?_
  ·
    refine (sv_iinc (ls1 := [some (.ref 1005), some (.ref 0), some (.ref 61), some (.int (x3 + 6))]) jM201 c201_1387 rfl rfl (v := 6) (by decide +kernel) rfl).trans ?_
    refine (sv_goto jM201 c201_1390 rfl (t := 18) (by decide +kernel)).trans ?_
    rfl
  ·
    refine (sv_iconst jM201 c201_475 rfl (v := 0) (by decide +kernel)).trans ?_
    exact sv_zret jM201 c201_476 rfl rfl (by decide +kernel)
set_option maxRecDepth 20000 in
set_option maxHeartbeats 4000000 in
theorem Law_law_S33_9 (x3 : Int32) (σ : jm_S) : jv 201 33 [some (.ref 1005), some (.ref 0), some (.ref 61), some (.int x3)] [(.int (9 : Int32))] σ = (if (x3 + (1 : Int32)) < 0 ∨ (σ 1006 0).toNatClampNeg ≤ (x3 + (1 : Int32)).toNatClampNeg then none else (if (x3 + (2 : Int32)) < 0 ∨ (σ 1006 0).toNatClampNeg ≤ (x3 + (2 : Int32)).toNatClampNeg then none else (if (x3 + (3 : Int32)) < 0 ∨ (σ 1006 0).toNatClampNeg ≤ (x3 + (3 : Int32)).toNatClampNeg then none else jbi (jc 36 [(.ref 0), (.int (σ 1005 (x3 + (1 : Int32)).toNatClampNeg)), (.int (σ 1005 (x3 + (2 : Int32)).toNatClampNeg)), (.int (σ 1005 (x3 + (3 : Int32)).toNatClampNeg))] σ) (fun r1 τ1 => (if (x3 + (1 : Int32)) < 0 ∨ (τ1 1006 0).toNatClampNeg ≤ (x3 + (1 : Int32)).toNatClampNeg then none else (if (x3 + (2 : Int32)) < 0 ∨ (τ1 1006 0).toNatClampNeg ≤ (x3 + (2 : Int32)).toNatClampNeg then none else (if (x3 + (3 : Int32)) < 0 ∨ (τ1 1006 0).toNatClampNeg ≤ (x3 + (3 : Int32)).toNatClampNeg then none else jbi (jc 149 [(.ref 61), (.int (τ1 1005 (x3 + (1 : Int32)).toNatClampNeg)), (.int (τ1 1005 (x3 + (2 : Int32)).toNatClampNeg)), (.int (τ1 1005 (x3 + (3 : Int32)).toNatClampNeg))] τ1) (fun r2 τ2 => (if r1 = r2 then jv 201 18 [some (.ref 1005), some (.ref 0), some (.ref 61), some (.int (x3 + 6))] [] τ2 else some (some (.int (0 : Int32)), τ2)))))))))) := by
  refine (sv_ts jM201 c201_33 rfl (by decide +kernel) (z := 444) (by decide +kernel) (t := 477) (by decide +kernel)).trans ?_
  refine (sv_aload_n jM201 c201_477 rfl rfl).trans ?_
  refine (sv_aload_n jM201 c201_478 rfl rfl).trans ?_
  refine (sv_iload_n jM201 c201_479 rfl rfl).trans ?_
  refine (sv_iconst jM201 c201_480 rfl (v := 1) (by decide +kernel)).trans ?_
  refine (sv_iadd jM201 c201_481 rfl).trans ?_
  refine (sv_iald jM201 c201_482 rfl (ia_1005 _)).trans ?_
  refine jif _ rfl ?_
  refine (sv_aload_n jM201 c201_483 rfl rfl).trans ?_
  refine (sv_iload_n jM201 c201_484 rfl rfl).trans ?_
  refine (sv_iconst jM201 c201_485 rfl (v := 2) (by decide +kernel)).trans ?_
  refine (sv_iadd jM201 c201_486 rfl).trans ?_
  refine (sv_iald jM201 c201_487 rfl (ia_1005 _)).trans ?_
  refine jif _ rfl ?_
  refine (sv_aload_n jM201 c201_488 rfl rfl).trans ?_
  refine (sv_iload_n jM201 c201_489 rfl rfl).trans ?_
  refine (sv_iconst jM201 c201_490 rfl (v := 3) (by decide +kernel)).trans ?_
  refine (sv_iadd jM201 c201_491 rfl).trans ?_
  refine (sv_iald jM201 c201_492 rfl (ia_1005 _)).trans ?_
  refine jif _ rfl ?_
  refine (sv_callvi (pl := 0) jM201 c201_493 rfl (jm_call_v (a := 0) (as := [(.int (σ 1005 (x3 + (1 : Int32)).toNatClampNeg)), (.int (σ 1005 (x3 + (2 : Int32)).toNatClampNeg)), (.int (σ 1005 (x3 + (3 : Int32)).toNatClampNeg))]) (rest := []) lm_10_54 rfl jM36 rfl rfl rfl rfl rfl) jM36 rfl (Or.inl rfl)).trans ?_
  refine jbi_c (fun r1 τ1 => ?_)
  refine (sv_aload_n jM201 c201_496 rfl rfl).trans ?_
  refine (sv_aload_n jM201 c201_497 rfl rfl).trans ?_
  refine (sv_iload_n jM201 c201_498 rfl rfl).trans ?_
  refine (sv_iconst jM201 c201_499 rfl (v := 1) (by decide +kernel)).trans ?_
  refine (sv_iadd jM201 c201_500 rfl).trans ?_
  refine (sv_iald jM201 c201_501 rfl (ia_1005 _)).trans ?_
  refine jif _ rfl ?_
  refine (sv_aload_n jM201 c201_502 rfl rfl).trans ?_
  refine (sv_iload_n jM201 c201_503 rfl rfl).trans ?_
  refine (sv_iconst jM201 c201_504 rfl (v := 2) (by decide +kernel)).trans ?_
  refine (sv_iadd jM201 c201_505 rfl).trans ?_
  refine (sv_iald jM201 c201_506 rfl (ia_1005 _)).trans ?_
  refine jif _ rfl ?_
  refine (sv_aload_n jM201 c201_507 rfl rfl).trans ?_
  refine (sv_iload_n jM201 c201_508 rfl rfl).trans ?_
  refine (sv_iconst jM201 c201_509 rfl (v := 3) (by decide +kernel)).trans ?_
  refine (sv_iadd jM201 c201_510 rfl).trans ?_
  refine (sv_iald jM201 c201_511 rfl (ia_1005 _)).trans ?_
  refine jif _ rfl ?_
  refine (sv_callvi (pl := 0) jM201 c201_512 rfl (jm_call_v (a := 61) (as := [(.int (τ1 1005 (x3 + (1 : Int32)).toNatClampNeg)), (.int (τ1 1005 (x3 + (2 : Int32)).toNatClampNeg)), (.int (τ1 1005 (x3 + (3 : Int32)).toNatClampNeg))]) (rest := [(.int r1)]) lm_10_57 rfl jM149 rfl rfl rfl rfl rfl) jM149 rfl (Or.inl rfl)).trans ?_
  refine jbi_c (fun r2 τ2 => ?_)
  refine (sv_icmp_eq jM201 c201_515 rfl (t := 1387) (by decide +kernel)).trans ?_
  refine jif _ ?_ ?_
  ·
    refine (sv_iinc (ls1 := [some (.ref 1005), some (.ref 0), some (.ref 61), some (.int (x3 + 6))]) jM201 c201_1387 rfl rfl (v := 6) (by decide +kernel) rfl).trans ?_
    refine (sv_goto jM201 c201_1390 rfl (t := 18) (by decide +kernel)).trans ?_
    rfl
  ·
    refine (sv_iconst jM201 c201_518 rfl (v := 0) (by decide +kernel)).trans ?_
    exact sv_zret jM201 c201_519 rfl rfl (by decide +kernel)
set_option maxRecDepth 20000 in
set_option maxHeartbeats 4000000 in
theorem Law_law_S33_10 (x3 : Int32) (σ : jm_S) : jv 201 33 [some (.ref 1005), some (.ref 0), some (.ref 61), some (.int x3)] [(.int (10 : Int32))] σ = (if (x3 + (1 : Int32)) < 0 ∨ (σ 1006 0).toNatClampNeg ≤ (x3 + (1 : Int32)).toNatClampNeg then none else (if (x3 + (2 : Int32)) < 0 ∨ (σ 1006 0).toNatClampNeg ≤ (x3 + (2 : Int32)).toNatClampNeg then none else (if (σ 1005 (x3 + (2 : Int32)).toNatClampNeg) = 0 then jbi (jc 48 [(.ref 0), (.int (σ 1005 (x3 + (1 : Int32)).toNatClampNeg)), (.int (0 : Int32))] σ) (fun r1 τ1 => (if (x3 + (1 : Int32)) < 0 ∨ (τ1 1006 0).toNatClampNeg ≤ (x3 + (1 : Int32)).toNatClampNeg then none else (if (x3 + (2 : Int32)) < 0 ∨ (τ1 1006 0).toNatClampNeg ≤ (x3 + (2 : Int32)).toNatClampNeg then none else (if (τ1 1005 (x3 + (2 : Int32)).toNatClampNeg) = 0 then jbi (jc 161 [(.ref 61), (.int (τ1 1005 (x3 + (1 : Int32)).toNatClampNeg)), (.int (0 : Int32))] τ1) (fun r2 τ2 => (if r1 = r2 then jv 201 18 [some (.ref 1005), some (.ref 0), some (.ref 61), some (.int (x3 + 6))] [] τ2 else some (some (.int (0 : Int32)), τ2))) else jbi (jc 161 [(.ref 61), (.int (τ1 1005 (x3 + (1 : Int32)).toNatClampNeg)), (.int (1 : Int32))] τ1) (fun r3 τ3 => (if r1 = r3 then jv 201 18 [some (.ref 1005), some (.ref 0), some (.ref 61), some (.int (x3 + 6))] [] τ3 else some (some (.int (0 : Int32)), τ3))))))) else jbi (jc 48 [(.ref 0), (.int (σ 1005 (x3 + (1 : Int32)).toNatClampNeg)), (.int (1 : Int32))] σ) (fun r4 τ4 => (if (x3 + (1 : Int32)) < 0 ∨ (τ4 1006 0).toNatClampNeg ≤ (x3 + (1 : Int32)).toNatClampNeg then none else (if (x3 + (2 : Int32)) < 0 ∨ (τ4 1006 0).toNatClampNeg ≤ (x3 + (2 : Int32)).toNatClampNeg then none else (if (τ4 1005 (x3 + (2 : Int32)).toNatClampNeg) = 0 then jbi (jc 161 [(.ref 61), (.int (τ4 1005 (x3 + (1 : Int32)).toNatClampNeg)), (.int (0 : Int32))] τ4) (fun r5 τ5 => (if r4 = r5 then jv 201 18 [some (.ref 1005), some (.ref 0), some (.ref 61), some (.int (x3 + 6))] [] τ5 else some (some (.int (0 : Int32)), τ5))) else jbi (jc 161 [(.ref 61), (.int (τ4 1005 (x3 + (1 : Int32)).toNatClampNeg)), (.int (1 : Int32))] τ4) (fun r6 τ6 => (if r4 = r6 then jv 201 18 [some (.ref 1005), some (.ref 0), some (.ref 61), some (.int (x3 + 6))] [] τ6 else some (some (.int (0 : Int32)), τ6)))))))))) := by
  refine (sv_ts jM201 c201_33 rfl (by decide +kernel) (z := 487) (by decide +kernel) (t := 520) (by decide +kernel)).trans ?_
  refine (sv_aload_n jM201 c201_520 rfl rfl).trans ?_
  refine (sv_aload_n jM201 c201_521 rfl rfl).trans ?_
  refine (sv_iload_n jM201 c201_522 rfl rfl).trans ?_
  refine (sv_iconst jM201 c201_523 rfl (v := 1) (by decide +kernel)).trans ?_
  refine (sv_iadd jM201 c201_524 rfl).trans ?_
  refine (sv_iald jM201 c201_525 rfl (ia_1005 _)).trans ?_
  refine jif _ rfl ?_
  refine (sv_aload_n jM201 c201_526 rfl rfl).trans ?_
  refine (sv_iload_n jM201 c201_527 rfl rfl).trans ?_
  refine (sv_iconst jM201 c201_528 rfl (v := 2) (by decide +kernel)).trans ?_
  refine (sv_iadd jM201 c201_529 rfl).trans ?_
  refine (sv_iald jM201 c201_530 rfl (ia_1005 _)).trans ?_
  refine jif _ rfl ?_
  refine (sv_if_eq jM201 c201_531 rfl (t := 538) (by decide +kernel)).trans ?_
  refine jif _ ?_ ?_
  ·
    refine (sv_iconst jM201 c201_538 rfl (v := 0) (by decide +kernel)).trans ?_
    refine (sv_callvi (pl := 0) jM201 c201_539 rfl (jm_call_v (a := 0) (as := [(.int (σ 1005 (x3 + (1 : Int32)).toNatClampNeg)), (.int (0 : Int32))]) (rest := []) lm_10_58 rfl jM48 rfl rfl rfl rfl rfl) jM48 rfl (Or.inl rfl)).trans ?_
    refine jbi_c (fun r1 τ1 => ?_)
    refine (sv_aload_n jM201 c201_542 rfl rfl).trans ?_
    refine (sv_aload_n jM201 c201_543 rfl rfl).trans ?_
    refine (sv_iload_n jM201 c201_544 rfl rfl).trans ?_
    refine (sv_iconst jM201 c201_545 rfl (v := 1) (by decide +kernel)).trans ?_
    refine (sv_iadd jM201 c201_546 rfl).trans ?_
    refine (sv_iald jM201 c201_547 rfl (ia_1005 _)).trans ?_
    refine jif _ rfl ?_
    refine (sv_aload_n jM201 c201_548 rfl rfl).trans ?_
    refine (sv_iload_n jM201 c201_549 rfl rfl).trans ?_
    refine (sv_iconst jM201 c201_550 rfl (v := 2) (by decide +kernel)).trans ?_
    refine (sv_iadd jM201 c201_551 rfl).trans ?_
    refine (sv_iald jM201 c201_552 rfl (ia_1005 _)).trans ?_
    refine jif _ rfl ?_
    refine (sv_if_eq jM201 c201_553 rfl (t := 560) (by decide +kernel)).trans ?_
    refine jif _ ?_ ?_
    ·
      refine (sv_iconst jM201 c201_560 rfl (v := 0) (by decide +kernel)).trans ?_
      refine (sv_callvi (pl := 0) jM201 c201_561 rfl (jm_call_v (a := 61) (as := [(.int (τ1 1005 (x3 + (1 : Int32)).toNatClampNeg)), (.int (0 : Int32))]) (rest := [(.int r1)]) lm_10_62 rfl jM161 rfl rfl rfl rfl rfl) jM161 rfl (Or.inl rfl)).trans ?_
      refine jbi_c (fun r2 τ2 => ?_)
      refine (sv_icmp_eq jM201 c201_564 rfl (t := 1387) (by decide +kernel)).trans ?_
      refine jif _ ?_ ?_
      ·
        refine (sv_iinc (ls1 := [some (.ref 1005), some (.ref 0), some (.ref 61), some (.int (x3 + 6))]) jM201 c201_1387 rfl rfl (v := 6) (by decide +kernel) rfl).trans ?_
        refine (sv_goto jM201 c201_1390 rfl (t := 18) (by decide +kernel)).trans ?_
        rfl
      ·
        refine (sv_iconst jM201 c201_567 rfl (v := 0) (by decide +kernel)).trans ?_
        exact sv_zret jM201 c201_568 rfl rfl (by decide +kernel)
    ·
      refine (sv_iconst jM201 c201_556 rfl (v := 1) (by decide +kernel)).trans ?_
      refine (sv_goto jM201 c201_557 rfl (t := 561) (by decide +kernel)).trans ?_
      refine (sv_callvi (pl := 0) jM201 c201_561 rfl (jm_call_v (a := 61) (as := [(.int (τ1 1005 (x3 + (1 : Int32)).toNatClampNeg)), (.int (1 : Int32))]) (rest := [(.int r1)]) lm_10_62 rfl jM161 rfl rfl rfl rfl rfl) jM161 rfl (Or.inl rfl)).trans ?_
      refine jbi_c (fun r3 τ3 => ?_)
      refine (sv_icmp_eq jM201 c201_564 rfl (t := 1387) (by decide +kernel)).trans ?_
      refine jif _ ?_ ?_
      ·
        refine (sv_iinc (ls1 := [some (.ref 1005), some (.ref 0), some (.ref 61), some (.int (x3 + 6))]) jM201 c201_1387 rfl rfl (v := 6) (by decide +kernel) rfl).trans ?_
        refine (sv_goto jM201 c201_1390 rfl (t := 18) (by decide +kernel)).trans ?_
        rfl
      ·
        refine (sv_iconst jM201 c201_567 rfl (v := 0) (by decide +kernel)).trans ?_
        exact sv_zret jM201 c201_568 rfl rfl (by decide +kernel)
  ·
    refine (sv_iconst jM201 c201_534 rfl (v := 1) (by decide +kernel)).trans ?_
    refine (sv_goto jM201 c201_535 rfl (t := 539) (by decide +kernel)).trans ?_
    refine (sv_callvi (pl := 0) jM201 c201_539 rfl (jm_call_v (a := 0) (as := [(.int (σ 1005 (x3 + (1 : Int32)).toNatClampNeg)), (.int (1 : Int32))]) (rest := []) lm_10_58 rfl jM48 rfl rfl rfl rfl rfl) jM48 rfl (Or.inl rfl)).trans ?_
    refine jbi_c (fun r4 τ4 => ?_)
    refine (sv_aload_n jM201 c201_542 rfl rfl).trans ?_
    refine (sv_aload_n jM201 c201_543 rfl rfl).trans ?_
    refine (sv_iload_n jM201 c201_544 rfl rfl).trans ?_
    refine (sv_iconst jM201 c201_545 rfl (v := 1) (by decide +kernel)).trans ?_
    refine (sv_iadd jM201 c201_546 rfl).trans ?_
    refine (sv_iald jM201 c201_547 rfl (ia_1005 _)).trans ?_
    refine jif _ rfl ?_
    refine (sv_aload_n jM201 c201_548 rfl rfl).trans ?_
    refine (sv_iload_n jM201 c201_549 rfl rfl).trans ?_
    refine (sv_iconst jM201 c201_550 rfl (v := 2) (by decide +kernel)).trans ?_
    refine (sv_iadd jM201 c201_551 rfl).trans ?_
    refine (sv_iald jM201 c201_552 rfl (ia_1005 _)).trans ?_
    refine jif _ rfl ?_
    refine (sv_if_eq jM201 c201_553 rfl (t := 560) (by decide +kernel)).trans ?_
    refine jif _ ?_ ?_
    ·
      refine (sv_iconst jM201 c201_560 rfl (v := 0) (by decide +kernel)).trans ?_
      refine (sv_callvi (pl := 0) jM201 c201_561 rfl (jm_call_v (a := 61) (as := [(.int (τ4 1005 (x3 + (1 : Int32)).toNatClampNeg)), (.int (0 : Int32))]) (rest := [(.int r4)]) lm_10_62 rfl jM161 rfl rfl rfl rfl rfl) jM161 rfl (Or.inl rfl)).trans ?_
      refine jbi_c (fun r5 τ5 => ?_)
      refine (sv_icmp_eq jM201 c201_564 rfl (t := 1387) (by decide +kernel)).trans ?_
      refine jif _ ?_ ?_
      ·
        refine (sv_iinc (ls1 := [some (.ref 1005), some (.ref 0), some (.ref 61), some (.int (x3 + 6))]) jM201 c201_1387 rfl rfl (v := 6) (by decide +kernel) rfl).trans ?_
        refine (sv_goto jM201 c201_1390 rfl (t := 18) (by decide +kernel)).trans ?_
        rfl
      ·
        refine (sv_iconst jM201 c201_567 rfl (v := 0) (by decide +kernel)).trans ?_
        exact sv_zret jM201 c201_568 rfl rfl (by decide +kernel)
    ·
      refine (sv_iconst jM201 c201_556 rfl (v := 1) (by decide +kernel)).trans ?_
      refine (sv_goto jM201 c201_557 rfl (t := 561) (by decide +kernel)).trans ?_
      refine (sv_callvi (pl := 0) jM201 c201_561 rfl (jm_call_v (a := 61) (as := [(.int (τ4 1005 (x3 + (1 : Int32)).toNatClampNeg)), (.int (1 : Int32))]) (rest := [(.int r4)]) lm_10_62 rfl jM161 rfl rfl rfl rfl rfl) jM161 rfl (Or.inl rfl)).trans ?_
      refine jbi_c (fun r6 τ6 => ?_)
      refine (sv_icmp_eq jM201 c201_564 rfl (t := 1387) (by decide +kernel)).trans ?_
      refine jif _ ?_ ?_
      ·
        refine (sv_iinc (ls1 := [some (.ref 1005), some (.ref 0), some (.ref 61), some (.int (x3 + 6))]) jM201 c201_1387 rfl rfl (v := 6) (by decide +kernel) rfl).trans ?_
        refine (sv_goto jM201 c201_1390 rfl (t := 18) (by decide +kernel)).trans ?_
        rfl
      ·
        refine (sv_iconst jM201 c201_567 rfl (v := 0) (by decide +kernel)).trans ?_
        exact sv_zret jM201 c201_568 rfl rfl (by decide +kernel)
set_option maxRecDepth 20000 in
set_option maxHeartbeats 4000000 in
theorem Law_law_S33_11 (x3 : Int32) (σ : jm_S) : jv 201 33 [some (.ref 1005), some (.ref 0), some (.ref 61), some (.int x3)] [(.int (11 : Int32))] σ = (if (x3 + (1 : Int32)) < 0 ∨ (σ 1006 0).toNatClampNeg ≤ (x3 + (1 : Int32)).toNatClampNeg then none else (if (x3 + (2 : Int32)) < 0 ∨ (σ 1006 0).toNatClampNeg ≤ (x3 + (2 : Int32)).toNatClampNeg then none else jbi (jc 54 [(.ref 0), (.int (σ 1005 (x3 + (1 : Int32)).toNatClampNeg)), (.int (σ 1005 (x3 + (2 : Int32)).toNatClampNeg))] σ) (fun r1 τ1 => (if (x3 + (1 : Int32)) < 0 ∨ (τ1 1006 0).toNatClampNeg ≤ (x3 + (1 : Int32)).toNatClampNeg then none else (if (x3 + (2 : Int32)) < 0 ∨ (τ1 1006 0).toNatClampNeg ≤ (x3 + (2 : Int32)).toNatClampNeg then none else jbi (jc 162 [(.ref 61), (.int (τ1 1005 (x3 + (1 : Int32)).toNatClampNeg)), (.int (τ1 1005 (x3 + (2 : Int32)).toNatClampNeg))] τ1) (fun r2 τ2 => (if r1 = r2 then jv 201 18 [some (.ref 1005), some (.ref 0), some (.ref 61), some (.int (x3 + 6))] [] τ2 else some (some (.int (0 : Int32)), τ2)))))))) := by
  refine (sv_ts jM201 c201_33 rfl (by decide +kernel) (z := 536) (by decide +kernel) (t := 569) (by decide +kernel)).trans ?_
  refine (sv_aload_n jM201 c201_569 rfl rfl).trans ?_
  refine (sv_aload_n jM201 c201_570 rfl rfl).trans ?_
  refine (sv_iload_n jM201 c201_571 rfl rfl).trans ?_
  refine (sv_iconst jM201 c201_572 rfl (v := 1) (by decide +kernel)).trans ?_
  refine (sv_iadd jM201 c201_573 rfl).trans ?_
  refine (sv_iald jM201 c201_574 rfl (ia_1005 _)).trans ?_
  refine jif _ rfl ?_
  refine (sv_aload_n jM201 c201_575 rfl rfl).trans ?_
  refine (sv_iload_n jM201 c201_576 rfl rfl).trans ?_
  refine (sv_iconst jM201 c201_577 rfl (v := 2) (by decide +kernel)).trans ?_
  refine (sv_iadd jM201 c201_578 rfl).trans ?_
  refine (sv_iald jM201 c201_579 rfl (ia_1005 _)).trans ?_
  refine jif _ rfl ?_
  refine (sv_callvi (pl := 0) jM201 c201_580 rfl (jm_call_v (a := 0) (as := [(.int (σ 1005 (x3 + (1 : Int32)).toNatClampNeg)), (.int (σ 1005 (x3 + (2 : Int32)).toNatClampNeg))]) (rest := []) lm_10_63 rfl jM54 rfl rfl rfl rfl rfl) jM54 rfl (Or.inl rfl)).trans ?_
  refine jbi_c (fun r1 τ1 => ?_)
  refine (sv_aload_n jM201 c201_583 rfl rfl).trans ?_
  refine (sv_aload_n jM201 c201_584 rfl rfl).trans ?_
  refine (sv_iload_n jM201 c201_585 rfl rfl).trans ?_
  refine (sv_iconst jM201 c201_586 rfl (v := 1) (by decide +kernel)).trans ?_
  refine (sv_iadd jM201 c201_587 rfl).trans ?_
  refine (sv_iald jM201 c201_588 rfl (ia_1005 _)).trans ?_
  refine jif _ rfl ?_
  refine (sv_aload_n jM201 c201_589 rfl rfl).trans ?_
  refine (sv_iload_n jM201 c201_590 rfl rfl).trans ?_
  refine (sv_iconst jM201 c201_591 rfl (v := 2) (by decide +kernel)).trans ?_
  refine (sv_iadd jM201 c201_592 rfl).trans ?_
  refine (sv_iald jM201 c201_593 rfl (ia_1005 _)).trans ?_
  refine jif _ rfl ?_
  refine (sv_callvi (pl := 0) jM201 c201_594 rfl (jm_call_v (a := 61) (as := [(.int (τ1 1005 (x3 + (1 : Int32)).toNatClampNeg)), (.int (τ1 1005 (x3 + (2 : Int32)).toNatClampNeg))]) (rest := [(.int r1)]) lm_10_66 rfl jM162 rfl rfl rfl rfl rfl) jM162 rfl (Or.inl rfl)).trans ?_
  refine jbi_c (fun r2 τ2 => ?_)
  refine (sv_icmp_eq jM201 c201_597 rfl (t := 1387) (by decide +kernel)).trans ?_
  refine jif _ ?_ ?_
  ·
    refine (sv_iinc (ls1 := [some (.ref 1005), some (.ref 0), some (.ref 61), some (.int (x3 + 6))]) jM201 c201_1387 rfl rfl (v := 6) (by decide +kernel) rfl).trans ?_
    refine (sv_goto jM201 c201_1390 rfl (t := 18) (by decide +kernel)).trans ?_
    rfl
  ·
    refine (sv_iconst jM201 c201_600 rfl (v := 0) (by decide +kernel)).trans ?_
    exact sv_zret jM201 c201_601 rfl rfl (by decide +kernel)
set_option maxRecDepth 20000 in
set_option maxHeartbeats 4000000 in
theorem Law_law_S33_12 (x3 : Int32) (σ : jm_S) : jv 201 33 [some (.ref 1005), some (.ref 0), some (.ref 61), some (.int x3)] [(.int (12 : Int32))] σ = jbi (jc 62 [(.ref 0)] σ) (fun r1 τ1 => jbi (jc 172 [(.ref 61)] τ1) (fun r2 τ2 => (if r1 = r2 then jv 201 18 [some (.ref 1005), some (.ref 0), some (.ref 61), some (.int (x3 + 6))] [] τ2 else some (some (.int (0 : Int32)), τ2)))) := by
  refine (sv_ts jM201 c201_33 rfl (by decide +kernel) (z := 569) (by decide +kernel) (t := 602) (by decide +kernel)).trans ?_
  refine (sv_aload_n jM201 c201_602 rfl rfl).trans ?_
  refine (sv_callvi (pl := 0) jM201 c201_603 rfl (jm_call_v (a := 0) (as := []) (rest := []) lm_10_67 rfl jM62 rfl rfl rfl rfl rfl) jM62 rfl (Or.inl rfl)).trans ?_
  refine jbi_c (fun r1 τ1 => ?_)
  refine (sv_aload_n jM201 c201_606 rfl rfl).trans ?_
  refine (sv_callvi (pl := 0) jM201 c201_607 rfl (jm_call_v (a := 61) (as := []) (rest := [(.int r1)]) lm_10_70 rfl jM172 rfl rfl rfl rfl rfl) jM172 rfl (Or.inl rfl)).trans ?_
  refine jbi_c (fun r2 τ2 => ?_)
  refine (sv_icmp_eq jM201 c201_610 rfl (t := 1387) (by decide +kernel)).trans ?_
  refine jif _ ?_ ?_
  ·
    refine (sv_iinc (ls1 := [some (.ref 1005), some (.ref 0), some (.ref 61), some (.int (x3 + 6))]) jM201 c201_1387 rfl rfl (v := 6) (by decide +kernel) rfl).trans ?_
    refine (sv_goto jM201 c201_1390 rfl (t := 18) (by decide +kernel)).trans ?_
    rfl
  ·
    refine (sv_iconst jM201 c201_613 rfl (v := 0) (by decide +kernel)).trans ?_
    exact sv_zret jM201 c201_614 rfl rfl (by decide +kernel)
set_option maxRecDepth 20000 in
set_option maxHeartbeats 4000000 in
theorem Law_law_S33_13 (x3 : Int32) (σ : jm_S) : jv 201 33 [some (.ref 1005), some (.ref 0), some (.ref 61), some (.int x3)] [(.int (13 : Int32))] σ = (if (x3 + (1 : Int32)) < 0 ∨ (σ 1006 0).toNatClampNeg ≤ (x3 + (1 : Int32)).toNatClampNeg then none else (if (x3 + (2 : Int32)) < 0 ∨ (σ 1006 0).toNatClampNeg ≤ (x3 + (2 : Int32)).toNatClampNeg then none else jbi (jc 64 [(.ref 0), (.int (σ 1005 (x3 + (1 : Int32)).toNatClampNeg)), (.int (σ 1005 (x3 + (2 : Int32)).toNatClampNeg))] σ) (fun r1 τ1 => (if (x3 + (1 : Int32)) < 0 ∨ (τ1 1006 0).toNatClampNeg ≤ (x3 + (1 : Int32)).toNatClampNeg then none else (if (x3 + (2 : Int32)) < 0 ∨ (τ1 1006 0).toNatClampNeg ≤ (x3 + (2 : Int32)).toNatClampNeg then none else jbi (jc 174 [(.ref 61), (.int (τ1 1005 (x3 + (1 : Int32)).toNatClampNeg)), (.int (τ1 1005 (x3 + (2 : Int32)).toNatClampNeg))] τ1) (fun r2 τ2 => (if r1 = r2 then jv 201 18 [some (.ref 1005), some (.ref 0), some (.ref 61), some (.int (x3 + 6))] [] τ2 else some (some (.int (0 : Int32)), τ2)))))))) := by
  refine (sv_ts jM201 c201_33 rfl (by decide +kernel) (z := 582) (by decide +kernel) (t := 615) (by decide +kernel)).trans ?_
  refine (sv_aload_n jM201 c201_615 rfl rfl).trans ?_
  refine (sv_aload_n jM201 c201_616 rfl rfl).trans ?_
  refine (sv_iload_n jM201 c201_617 rfl rfl).trans ?_
  refine (sv_iconst jM201 c201_618 rfl (v := 1) (by decide +kernel)).trans ?_
  refine (sv_iadd jM201 c201_619 rfl).trans ?_
  refine (sv_iald jM201 c201_620 rfl (ia_1005 _)).trans ?_
  refine jif _ rfl ?_
  refine (sv_aload_n jM201 c201_621 rfl rfl).trans ?_
  refine (sv_iload_n jM201 c201_622 rfl rfl).trans ?_
  refine (sv_iconst jM201 c201_623 rfl (v := 2) (by decide +kernel)).trans ?_
  refine (sv_iadd jM201 c201_624 rfl).trans ?_
  refine (sv_iald jM201 c201_625 rfl (ia_1005 _)).trans ?_
  refine jif _ rfl ?_
  refine (sv_callvi (pl := 0) jM201 c201_626 rfl (jm_call_v (a := 0) (as := [(.int (σ 1005 (x3 + (1 : Int32)).toNatClampNeg)), (.int (σ 1005 (x3 + (2 : Int32)).toNatClampNeg))]) (rest := []) lm_10_71 rfl jM64 rfl rfl rfl rfl rfl) jM64 rfl (Or.inl rfl)).trans ?_
  refine jbi_c (fun r1 τ1 => ?_)
  refine (sv_aload_n jM201 c201_629 rfl rfl).trans ?_
  refine (sv_aload_n jM201 c201_630 rfl rfl).trans ?_
  refine (sv_iload_n jM201 c201_631 rfl rfl).trans ?_
  refine (sv_iconst jM201 c201_632 rfl (v := 1) (by decide +kernel)).trans ?_
  refine (sv_iadd jM201 c201_633 rfl).trans ?_
  refine (sv_iald jM201 c201_634 rfl (ia_1005 _)).trans ?_
  refine jif _ rfl ?_
  refine (sv_aload_n jM201 c201_635 rfl rfl).trans ?_
  refine (sv_iload_n jM201 c201_636 rfl rfl).trans ?_
  refine (sv_iconst jM201 c201_637 rfl (v := 2) (by decide +kernel)).trans ?_
  refine (sv_iadd jM201 c201_638 rfl).trans ?_
  refine (sv_iald jM201 c201_639 rfl (ia_1005 _)).trans ?_
  refine jif _ rfl ?_
  refine (sv_callvi (pl := 0) jM201 c201_640 rfl (jm_call_v (a := 61) (as := [(.int (τ1 1005 (x3 + (1 : Int32)).toNatClampNeg)), (.int (τ1 1005 (x3 + (2 : Int32)).toNatClampNeg))]) (rest := [(.int r1)]) lm_10_74 rfl jM174 rfl rfl rfl rfl rfl) jM174 rfl (Or.inl rfl)).trans ?_
  refine jbi_c (fun r2 τ2 => ?_)
  refine (sv_icmp_eq jM201 c201_643 rfl (t := 1387) (by decide +kernel)).trans ?_
  refine jif _ ?_ ?_
  ·
    refine (sv_iinc (ls1 := [some (.ref 1005), some (.ref 0), some (.ref 61), some (.int (x3 + 6))]) jM201 c201_1387 rfl rfl (v := 6) (by decide +kernel) rfl).trans ?_
    refine (sv_goto jM201 c201_1390 rfl (t := 18) (by decide +kernel)).trans ?_
    rfl
  ·
    refine (sv_iconst jM201 c201_646 rfl (v := 0) (by decide +kernel)).trans ?_
    exact sv_zret jM201 c201_647 rfl rfl (by decide +kernel)
set_option maxRecDepth 20000 in
set_option maxHeartbeats 4000000 in
theorem Law_law_S33_14 (x3 : Int32) (σ : jm_S) : jv 201 33 [some (.ref 1005), some (.ref 0), some (.ref 61), some (.int x3)] [(.int (14 : Int32))] σ = (if (x3 + (1 : Int32)) < 0 ∨ (σ 1006 0).toNatClampNeg ≤ (x3 + (1 : Int32)).toNatClampNeg then none else (if (x3 + (2 : Int32)) < 0 ∨ (σ 1006 0).toNatClampNeg ≤ (x3 + (2 : Int32)).toNatClampNeg then none else jbi (jc 69 [(.ref 0), (.int (σ 1005 (x3 + (1 : Int32)).toNatClampNeg)), (.int (σ 1005 (x3 + (2 : Int32)).toNatClampNeg))] σ) (fun r1 τ1 => (if (x3 + (1 : Int32)) < 0 ∨ (τ1 1006 0).toNatClampNeg ≤ (x3 + (1 : Int32)).toNatClampNeg then none else (if (x3 + (2 : Int32)) < 0 ∨ (τ1 1006 0).toNatClampNeg ≤ (x3 + (2 : Int32)).toNatClampNeg then none else jbi (jc 178 [(.ref 61), (.int (τ1 1005 (x3 + (1 : Int32)).toNatClampNeg)), (.int (τ1 1005 (x3 + (2 : Int32)).toNatClampNeg))] τ1) (fun r2 τ2 => (if r1 = r2 then jv 201 18 [some (.ref 1005), some (.ref 0), some (.ref 61), some (.int (x3 + 6))] [] τ2 else some (some (.int (0 : Int32)), τ2)))))))) := by
  refine (sv_ts jM201 c201_33 rfl (by decide +kernel) (z := 615) (by decide +kernel) (t := 648) (by decide +kernel)).trans ?_
  refine (sv_aload_n jM201 c201_648 rfl rfl).trans ?_
  refine (sv_aload_n jM201 c201_649 rfl rfl).trans ?_
  refine (sv_iload_n jM201 c201_650 rfl rfl).trans ?_
  refine (sv_iconst jM201 c201_651 rfl (v := 1) (by decide +kernel)).trans ?_
  refine (sv_iadd jM201 c201_652 rfl).trans ?_
  refine (sv_iald jM201 c201_653 rfl (ia_1005 _)).trans ?_
  refine jif _ rfl ?_
  refine (sv_aload_n jM201 c201_654 rfl rfl).trans ?_
  refine (sv_iload_n jM201 c201_655 rfl rfl).trans ?_
  refine (sv_iconst jM201 c201_656 rfl (v := 2) (by decide +kernel)).trans ?_
  refine (sv_iadd jM201 c201_657 rfl).trans ?_
  refine (sv_iald jM201 c201_658 rfl (ia_1005 _)).trans ?_
  refine jif _ rfl ?_
  refine (sv_callvi (pl := 0) jM201 c201_659 rfl (jm_call_v (a := 0) (as := [(.int (σ 1005 (x3 + (1 : Int32)).toNatClampNeg)), (.int (σ 1005 (x3 + (2 : Int32)).toNatClampNeg))]) (rest := []) lm_10_75 rfl jM69 rfl rfl rfl rfl rfl) jM69 rfl (Or.inl rfl)).trans ?_
  refine jbi_c (fun r1 τ1 => ?_)
  refine (sv_aload_n jM201 c201_662 rfl rfl).trans ?_
  refine (sv_aload_n jM201 c201_663 rfl rfl).trans ?_
  refine (sv_iload_n jM201 c201_664 rfl rfl).trans ?_
  refine (sv_iconst jM201 c201_665 rfl (v := 1) (by decide +kernel)).trans ?_
  refine (sv_iadd jM201 c201_666 rfl).trans ?_
  refine (sv_iald jM201 c201_667 rfl (ia_1005 _)).trans ?_
  refine jif _ rfl ?_
  refine (sv_aload_n jM201 c201_668 rfl rfl).trans ?_
  refine (sv_iload_n jM201 c201_669 rfl rfl).trans ?_
  refine (sv_iconst jM201 c201_670 rfl (v := 2) (by decide +kernel)).trans ?_
  refine (sv_iadd jM201 c201_671 rfl).trans ?_
  refine (sv_iald jM201 c201_672 rfl (ia_1005 _)).trans ?_
  refine jif _ rfl ?_
  refine (sv_callvi (pl := 0) jM201 c201_673 rfl (jm_call_v (a := 61) (as := [(.int (τ1 1005 (x3 + (1 : Int32)).toNatClampNeg)), (.int (τ1 1005 (x3 + (2 : Int32)).toNatClampNeg))]) (rest := [(.int r1)]) lm_10_78 rfl jM178 rfl rfl rfl rfl rfl) jM178 rfl (Or.inl rfl)).trans ?_
  refine jbi_c (fun r2 τ2 => ?_)
  refine (sv_icmp_eq jM201 c201_676 rfl (t := 1387) (by decide +kernel)).trans ?_
  refine jif _ ?_ ?_
  ·
    refine (sv_iinc (ls1 := [some (.ref 1005), some (.ref 0), some (.ref 61), some (.int (x3 + 6))]) jM201 c201_1387 rfl rfl (v := 6) (by decide +kernel) rfl).trans ?_
    refine (sv_goto jM201 c201_1390 rfl (t := 18) (by decide +kernel)).trans ?_
    rfl
  ·
    refine (sv_iconst jM201 c201_679 rfl (v := 0) (by decide +kernel)).trans ?_
    exact sv_zret jM201 c201_680 rfl rfl (by decide +kernel)
set_option maxRecDepth 20000 in
set_option maxHeartbeats 4000000 in
theorem Law_law_S33_15 (x3 : Int32) (σ : jm_S) : jv 201 33 [some (.ref 1005), some (.ref 0), some (.ref 61), some (.int x3)] [(.int (15 : Int32))] σ = (if (x3 + (1 : Int32)) < 0 ∨ (σ 1006 0).toNatClampNeg ≤ (x3 + (1 : Int32)).toNatClampNeg then none else (if (x3 + (2 : Int32)) < 0 ∨ (σ 1006 0).toNatClampNeg ≤ (x3 + (2 : Int32)).toNatClampNeg then none else jbi (jc 74 [(.ref 0), (.int (σ 1005 (x3 + (1 : Int32)).toNatClampNeg)), (.int (σ 1005 (x3 + (2 : Int32)).toNatClampNeg))] σ) (fun r1 τ1 => (if (x3 + (1 : Int32)) < 0 ∨ (τ1 1006 0).toNatClampNeg ≤ (x3 + (1 : Int32)).toNatClampNeg then none else (if (x3 + (2 : Int32)) < 0 ∨ (τ1 1006 0).toNatClampNeg ≤ (x3 + (2 : Int32)).toNatClampNeg then none else jbi (jc 179 [(.ref 61), (.int (τ1 1005 (x3 + (1 : Int32)).toNatClampNeg)), (.int (τ1 1005 (x3 + (2 : Int32)).toNatClampNeg))] τ1) (fun r2 τ2 => (if r1 = r2 then jv 201 18 [some (.ref 1005), some (.ref 0), some (.ref 61), some (.int (x3 + 6))] [] τ2 else some (some (.int (0 : Int32)), τ2)))))))) := by
  refine (sv_ts jM201 c201_33 rfl (by decide +kernel) (z := 648) (by decide +kernel) (t := 681) (by decide +kernel)).trans ?_
  refine (sv_aload_n jM201 c201_681 rfl rfl).trans ?_
  refine (sv_aload_n jM201 c201_682 rfl rfl).trans ?_
  refine (sv_iload_n jM201 c201_683 rfl rfl).trans ?_
  refine (sv_iconst jM201 c201_684 rfl (v := 1) (by decide +kernel)).trans ?_
  refine (sv_iadd jM201 c201_685 rfl).trans ?_
  refine (sv_iald jM201 c201_686 rfl (ia_1005 _)).trans ?_
  refine jif _ rfl ?_
  refine (sv_aload_n jM201 c201_687 rfl rfl).trans ?_
  refine (sv_iload_n jM201 c201_688 rfl rfl).trans ?_
  refine (sv_iconst jM201 c201_689 rfl (v := 2) (by decide +kernel)).trans ?_
  refine (sv_iadd jM201 c201_690 rfl).trans ?_
  refine (sv_iald jM201 c201_691 rfl (ia_1005 _)).trans ?_
  refine jif _ rfl ?_
  refine (sv_callvi (pl := 0) jM201 c201_692 rfl (jm_call_v (a := 0) (as := [(.int (σ 1005 (x3 + (1 : Int32)).toNatClampNeg)), (.int (σ 1005 (x3 + (2 : Int32)).toNatClampNeg))]) (rest := []) lm_10_79 rfl jM74 rfl rfl rfl rfl rfl) jM74 rfl (Or.inl rfl)).trans ?_
  refine jbi_c (fun r1 τ1 => ?_)
  refine (sv_aload_n jM201 c201_695 rfl rfl).trans ?_
  refine (sv_aload_n jM201 c201_696 rfl rfl).trans ?_
  refine (sv_iload_n jM201 c201_697 rfl rfl).trans ?_
  refine (sv_iconst jM201 c201_698 rfl (v := 1) (by decide +kernel)).trans ?_
  refine (sv_iadd jM201 c201_699 rfl).trans ?_
  refine (sv_iald jM201 c201_700 rfl (ia_1005 _)).trans ?_
  refine jif _ rfl ?_
  refine (sv_aload_n jM201 c201_701 rfl rfl).trans ?_
  refine (sv_iload_n jM201 c201_702 rfl rfl).trans ?_
  refine (sv_iconst jM201 c201_703 rfl (v := 2) (by decide +kernel)).trans ?_
  refine (sv_iadd jM201 c201_704 rfl).trans ?_
  refine (sv_iald jM201 c201_705 rfl (ia_1005 _)).trans ?_
  refine jif _ rfl ?_
  refine (sv_callvi (pl := 0) jM201 c201_706 rfl (jm_call_v (a := 61) (as := [(.int (τ1 1005 (x3 + (1 : Int32)).toNatClampNeg)), (.int (τ1 1005 (x3 + (2 : Int32)).toNatClampNeg))]) (rest := [(.int r1)]) lm_10_82 rfl jM179 rfl rfl rfl rfl rfl) jM179 rfl (Or.inl rfl)).trans ?_
  refine jbi_c (fun r2 τ2 => ?_)
  refine (sv_icmp_eq jM201 c201_709 rfl (t := 1387) (by decide +kernel)).trans ?_
  refine jif _ ?_ ?_
  ·
    refine (sv_iinc (ls1 := [some (.ref 1005), some (.ref 0), some (.ref 61), some (.int (x3 + 6))]) jM201 c201_1387 rfl rfl (v := 6) (by decide +kernel) rfl).trans ?_
    refine (sv_goto jM201 c201_1390 rfl (t := 18) (by decide +kernel)).trans ?_
    rfl
  ·
    refine (sv_iconst jM201 c201_712 rfl (v := 0) (by decide +kernel)).trans ?_
    exact sv_zret jM201 c201_713 rfl rfl (by decide +kernel)
set_option maxRecDepth 20000 in
set_option maxHeartbeats 4000000 in
theorem Law_law_S33_16 (x3 : Int32) (σ : jm_S) : jv 201 33 [some (.ref 1005), some (.ref 0), some (.ref 61), some (.int x3)] [(.int (16 : Int32))] σ = (if (x3 + (1 : Int32)) < 0 ∨ (σ 1006 0).toNatClampNeg ≤ (x3 + (1 : Int32)).toNatClampNeg then none else (if (x3 + (2 : Int32)) < 0 ∨ (σ 1006 0).toNatClampNeg ≤ (x3 + (2 : Int32)).toNatClampNeg then none else jbi (jc 75 [(.ref 0), (.int (σ 1005 (x3 + (1 : Int32)).toNatClampNeg)), (.int (σ 1005 (x3 + (2 : Int32)).toNatClampNeg))] σ) (fun r1 τ1 => (if (x3 + (1 : Int32)) < 0 ∨ (τ1 1006 0).toNatClampNeg ≤ (x3 + (1 : Int32)).toNatClampNeg then none else (if (x3 + (2 : Int32)) < 0 ∨ (τ1 1006 0).toNatClampNeg ≤ (x3 + (2 : Int32)).toNatClampNeg then none else jbi (jc 181 [(.ref 61), (.int (τ1 1005 (x3 + (1 : Int32)).toNatClampNeg)), (.int (τ1 1005 (x3 + (2 : Int32)).toNatClampNeg))] τ1) (fun r2 τ2 => (if r1 = r2 then jv 201 18 [some (.ref 1005), some (.ref 0), some (.ref 61), some (.int (x3 + 6))] [] τ2 else some (some (.int (0 : Int32)), τ2)))))))) := by
  refine (sv_ts jM201 c201_33 rfl (by decide +kernel) (z := 681) (by decide +kernel) (t := 714) (by decide +kernel)).trans ?_
  refine (sv_aload_n jM201 c201_714 rfl rfl).trans ?_
  refine (sv_aload_n jM201 c201_715 rfl rfl).trans ?_
  refine (sv_iload_n jM201 c201_716 rfl rfl).trans ?_
  refine (sv_iconst jM201 c201_717 rfl (v := 1) (by decide +kernel)).trans ?_
  refine (sv_iadd jM201 c201_718 rfl).trans ?_
  refine (sv_iald jM201 c201_719 rfl (ia_1005 _)).trans ?_
  refine jif _ rfl ?_
  refine (sv_aload_n jM201 c201_720 rfl rfl).trans ?_
  refine (sv_iload_n jM201 c201_721 rfl rfl).trans ?_
  refine (sv_iconst jM201 c201_722 rfl (v := 2) (by decide +kernel)).trans ?_
  refine (sv_iadd jM201 c201_723 rfl).trans ?_
  refine (sv_iald jM201 c201_724 rfl (ia_1005 _)).trans ?_
  refine jif _ rfl ?_
  refine (sv_callvi (pl := 0) jM201 c201_725 rfl (jm_call_v (a := 0) (as := [(.int (σ 1005 (x3 + (1 : Int32)).toNatClampNeg)), (.int (σ 1005 (x3 + (2 : Int32)).toNatClampNeg))]) (rest := []) lm_10_83 rfl jM75 rfl rfl rfl rfl rfl) jM75 rfl (Or.inl rfl)).trans ?_
  refine jbi_c (fun r1 τ1 => ?_)
  refine (sv_aload_n jM201 c201_728 rfl rfl).trans ?_
  refine (sv_aload_n jM201 c201_729 rfl rfl).trans ?_
  refine (sv_iload_n jM201 c201_730 rfl rfl).trans ?_
  refine (sv_iconst jM201 c201_731 rfl (v := 1) (by decide +kernel)).trans ?_
  refine (sv_iadd jM201 c201_732 rfl).trans ?_
  refine (sv_iald jM201 c201_733 rfl (ia_1005 _)).trans ?_
  refine jif _ rfl ?_
  refine (sv_aload_n jM201 c201_734 rfl rfl).trans ?_
  refine (sv_iload_n jM201 c201_735 rfl rfl).trans ?_
  refine (sv_iconst jM201 c201_736 rfl (v := 2) (by decide +kernel)).trans ?_
  refine (sv_iadd jM201 c201_737 rfl).trans ?_
  refine (sv_iald jM201 c201_738 rfl (ia_1005 _)).trans ?_
  refine jif _ rfl ?_
  refine (sv_callvi (pl := 0) jM201 c201_739 rfl (jm_call_v (a := 61) (as := [(.int (τ1 1005 (x3 + (1 : Int32)).toNatClampNeg)), (.int (τ1 1005 (x3 + (2 : Int32)).toNatClampNeg))]) (rest := [(.int r1)]) lm_10_86 rfl jM181 rfl rfl rfl rfl rfl) jM181 rfl (Or.inl rfl)).trans ?_
  refine jbi_c (fun r2 τ2 => ?_)
  refine (sv_icmp_eq jM201 c201_742 rfl (t := 1387) (by decide +kernel)).trans ?_
  refine jif _ ?_ ?_
  ·
    refine (sv_iinc (ls1 := [some (.ref 1005), some (.ref 0), some (.ref 61), some (.int (x3 + 6))]) jM201 c201_1387 rfl rfl (v := 6) (by decide +kernel) rfl).trans ?_
    refine (sv_goto jM201 c201_1390 rfl (t := 18) (by decide +kernel)).trans ?_
    rfl
  ·
    refine (sv_iconst jM201 c201_745 rfl (v := 0) (by decide +kernel)).trans ?_
    exact sv_zret jM201 c201_746 rfl rfl (by decide +kernel)
set_option maxRecDepth 20000 in
set_option maxHeartbeats 4000000 in
theorem Law_law_S33_17 (x3 : Int32) (σ : jm_S) : jv 201 33 [some (.ref 1005), some (.ref 0), some (.ref 61), some (.int x3)] [(.int (17 : Int32))] σ = (if (x3 + (1 : Int32)) < 0 ∨ (σ 1006 0).toNatClampNeg ≤ (x3 + (1 : Int32)).toNatClampNeg then none else jbi (jc 77 [(.ref 0), (.int (σ 1005 (x3 + (1 : Int32)).toNatClampNeg))] σ) (fun r1 τ1 => (if (x3 + (1 : Int32)) < 0 ∨ (τ1 1006 0).toNatClampNeg ≤ (x3 + (1 : Int32)).toNatClampNeg then none else jbi (jc 182 [(.ref 61), (.int (τ1 1005 (x3 + (1 : Int32)).toNatClampNeg))] τ1) (fun r2 τ2 => (if r1 = r2 then jv 201 18 [some (.ref 1005), some (.ref 0), some (.ref 61), some (.int (x3 + 6))] [] τ2 else some (some (.int (0 : Int32)), τ2)))))) := by
  refine (sv_ts jM201 c201_33 rfl (by decide +kernel) (z := 714) (by decide +kernel) (t := 747) (by decide +kernel)).trans ?_
  refine (sv_aload_n jM201 c201_747 rfl rfl).trans ?_
  refine (sv_aload_n jM201 c201_748 rfl rfl).trans ?_
  refine (sv_iload_n jM201 c201_749 rfl rfl).trans ?_
  refine (sv_iconst jM201 c201_750 rfl (v := 1) (by decide +kernel)).trans ?_
  refine (sv_iadd jM201 c201_751 rfl).trans ?_
  refine (sv_iald jM201 c201_752 rfl (ia_1005 _)).trans ?_
  refine jif _ rfl ?_
  refine (sv_callvi (pl := 0) jM201 c201_753 rfl (jm_call_v (a := 0) (as := [(.int (σ 1005 (x3 + (1 : Int32)).toNatClampNeg))]) (rest := []) lm_10_87 rfl jM77 rfl rfl rfl rfl rfl) jM77 rfl (Or.inl rfl)).trans ?_
  refine jbi_c (fun r1 τ1 => ?_)
  refine (sv_aload_n jM201 c201_756 rfl rfl).trans ?_
  refine (sv_aload_n jM201 c201_757 rfl rfl).trans ?_
  refine (sv_iload_n jM201 c201_758 rfl rfl).trans ?_
  refine (sv_iconst jM201 c201_759 rfl (v := 1) (by decide +kernel)).trans ?_
  refine (sv_iadd jM201 c201_760 rfl).trans ?_
  refine (sv_iald jM201 c201_761 rfl (ia_1005 _)).trans ?_
  refine jif _ rfl ?_
  refine (sv_callvi (pl := 0) jM201 c201_762 rfl (jm_call_v (a := 61) (as := [(.int (τ1 1005 (x3 + (1 : Int32)).toNatClampNeg))]) (rest := [(.int r1)]) lm_10_90 rfl jM182 rfl rfl rfl rfl rfl) jM182 rfl (Or.inl rfl)).trans ?_
  refine jbi_c (fun r2 τ2 => ?_)
  refine (sv_icmp_eq jM201 c201_765 rfl (t := 1387) (by decide +kernel)).trans ?_
  refine jif _ ?_ ?_
  ·
    refine (sv_iinc (ls1 := [some (.ref 1005), some (.ref 0), some (.ref 61), some (.int (x3 + 6))]) jM201 c201_1387 rfl rfl (v := 6) (by decide +kernel) rfl).trans ?_
    refine (sv_goto jM201 c201_1390 rfl (t := 18) (by decide +kernel)).trans ?_
    rfl
  ·
    refine (sv_iconst jM201 c201_768 rfl (v := 0) (by decide +kernel)).trans ?_
    exact sv_zret jM201 c201_769 rfl rfl (by decide +kernel)
set_option maxRecDepth 20000 in
set_option maxHeartbeats 4000000 in
theorem Law_law_S33_18 (x3 : Int32) (σ : jm_S) : jv 201 33 [some (.ref 1005), some (.ref 0), some (.ref 61), some (.int x3)] [(.int (18 : Int32))] σ = (if (x3 + (1 : Int32)) < 0 ∨ (σ 1006 0).toNatClampNeg ≤ (x3 + (1 : Int32)).toNatClampNeg then none else (if (x3 + (2 : Int32)) < 0 ∨ (σ 1006 0).toNatClampNeg ≤ (x3 + (2 : Int32)).toNatClampNeg then none else (if (x3 + (3 : Int32)) < 0 ∨ (σ 1006 0).toNatClampNeg ≤ (x3 + (3 : Int32)).toNatClampNeg then none else jbi (jc 79 [(.ref 0), (.int (σ 1005 (x3 + (1 : Int32)).toNatClampNeg)), (.int (σ 1005 (x3 + (2 : Int32)).toNatClampNeg)), (.int (σ 1005 (x3 + (3 : Int32)).toNatClampNeg))] σ) (fun r1 τ1 => (if (x3 + (1 : Int32)) < 0 ∨ (τ1 1006 0).toNatClampNeg ≤ (x3 + (1 : Int32)).toNatClampNeg then none else (if (x3 + (2 : Int32)) < 0 ∨ (τ1 1006 0).toNatClampNeg ≤ (x3 + (2 : Int32)).toNatClampNeg then none else (if (x3 + (3 : Int32)) < 0 ∨ (τ1 1006 0).toNatClampNeg ≤ (x3 + (3 : Int32)).toNatClampNeg then none else jbi (jc 183 [(.ref 61), (.int (τ1 1005 (x3 + (1 : Int32)).toNatClampNeg)), (.int (τ1 1005 (x3 + (2 : Int32)).toNatClampNeg)), (.int (τ1 1005 (x3 + (3 : Int32)).toNatClampNeg))] τ1) (fun r2 τ2 => (if r1 = r2 then jv 201 18 [some (.ref 1005), some (.ref 0), some (.ref 61), some (.int (x3 + 6))] [] τ2 else some (some (.int (0 : Int32)), τ2)))))))))) := by
  refine (sv_ts jM201 c201_33 rfl (by decide +kernel) (z := 737) (by decide +kernel) (t := 770) (by decide +kernel)).trans ?_
  refine (sv_aload_n jM201 c201_770 rfl rfl).trans ?_
  refine (sv_aload_n jM201 c201_771 rfl rfl).trans ?_
  refine (sv_iload_n jM201 c201_772 rfl rfl).trans ?_
  refine (sv_iconst jM201 c201_773 rfl (v := 1) (by decide +kernel)).trans ?_
  refine (sv_iadd jM201 c201_774 rfl).trans ?_
  refine (sv_iald jM201 c201_775 rfl (ia_1005 _)).trans ?_
  refine jif _ rfl ?_
  refine (sv_aload_n jM201 c201_776 rfl rfl).trans ?_
  refine (sv_iload_n jM201 c201_777 rfl rfl).trans ?_
  refine (sv_iconst jM201 c201_778 rfl (v := 2) (by decide +kernel)).trans ?_
  refine (sv_iadd jM201 c201_779 rfl).trans ?_
  refine (sv_iald jM201 c201_780 rfl (ia_1005 _)).trans ?_
  refine jif _ rfl ?_
  refine (sv_aload_n jM201 c201_781 rfl rfl).trans ?_
  refine (sv_iload_n jM201 c201_782 rfl rfl).trans ?_
  refine (sv_iconst jM201 c201_783 rfl (v := 3) (by decide +kernel)).trans ?_
  refine (sv_iadd jM201 c201_784 rfl).trans ?_
  refine (sv_iald jM201 c201_785 rfl (ia_1005 _)).trans ?_
  refine jif _ rfl ?_
  refine (sv_callvi (pl := 0) jM201 c201_786 rfl (jm_call_v (a := 0) (as := [(.int (σ 1005 (x3 + (1 : Int32)).toNatClampNeg)), (.int (σ 1005 (x3 + (2 : Int32)).toNatClampNeg)), (.int (σ 1005 (x3 + (3 : Int32)).toNatClampNeg))]) (rest := []) lm_10_91 rfl jM79 rfl rfl rfl rfl rfl) jM79 rfl (Or.inl rfl)).trans ?_
  refine jbi_c (fun r1 τ1 => ?_)
  refine (sv_aload_n jM201 c201_789 rfl rfl).trans ?_
  refine (sv_aload_n jM201 c201_790 rfl rfl).trans ?_
  refine (sv_iload_n jM201 c201_791 rfl rfl).trans ?_
  refine (sv_iconst jM201 c201_792 rfl (v := 1) (by decide +kernel)).trans ?_
  refine (sv_iadd jM201 c201_793 rfl).trans ?_
  refine (sv_iald jM201 c201_794 rfl (ia_1005 _)).trans ?_
  refine jif _ rfl ?_
  refine (sv_aload_n jM201 c201_795 rfl rfl).trans ?_
  refine (sv_iload_n jM201 c201_796 rfl rfl).trans ?_
  refine (sv_iconst jM201 c201_797 rfl (v := 2) (by decide +kernel)).trans ?_
  refine (sv_iadd jM201 c201_798 rfl).trans ?_
  refine (sv_iald jM201 c201_799 rfl (ia_1005 _)).trans ?_
  refine jif _ rfl ?_
  refine (sv_aload_n jM201 c201_800 rfl rfl).trans ?_
  refine (sv_iload_n jM201 c201_801 rfl rfl).trans ?_
  refine (sv_iconst jM201 c201_802 rfl (v := 3) (by decide +kernel)).trans ?_
  refine (sv_iadd jM201 c201_803 rfl).trans ?_
  refine (sv_iald jM201 c201_804 rfl (ia_1005 _)).trans ?_
  refine jif _ rfl ?_
  refine (sv_callvi (pl := 0) jM201 c201_805 rfl (jm_call_v (a := 61) (as := [(.int (τ1 1005 (x3 + (1 : Int32)).toNatClampNeg)), (.int (τ1 1005 (x3 + (2 : Int32)).toNatClampNeg)), (.int (τ1 1005 (x3 + (3 : Int32)).toNatClampNeg))]) (rest := [(.int r1)]) lm_10_94 rfl jM183 rfl rfl rfl rfl rfl) jM183 rfl (Or.inl rfl)).trans ?_
  refine jbi_c (fun r2 τ2 => ?_)
  refine (sv_icmp_eq jM201 c201_808 rfl (t := 1387) (by decide +kernel)).trans ?_
  refine jif _ ?_ ?_
  ·
    refine (sv_iinc (ls1 := [some (.ref 1005), some (.ref 0), some (.ref 61), some (.int (x3 + 6))]) jM201 c201_1387 rfl rfl (v := 6) (by decide +kernel) rfl).trans ?_
    refine (sv_goto jM201 c201_1390 rfl (t := 18) (by decide +kernel)).trans ?_
    rfl
  ·
    refine (sv_iconst jM201 c201_811 rfl (v := 0) (by decide +kernel)).trans ?_
    exact sv_zret jM201 c201_812 rfl rfl (by decide +kernel)
set_option maxRecDepth 20000 in
set_option maxHeartbeats 4000000 in
theorem Law_law_S33_19 (x3 : Int32) (σ : jm_S) : jv 201 33 [some (.ref 1005), some (.ref 0), some (.ref 61), some (.int x3)] [(.int (19 : Int32))] σ = (if (x3 + (1 : Int32)) < 0 ∨ (σ 1006 0).toNatClampNeg ≤ (x3 + (1 : Int32)).toNatClampNeg then none else (if (x3 + (2 : Int32)) < 0 ∨ (σ 1006 0).toNatClampNeg ≤ (x3 + (2 : Int32)).toNatClampNeg then none else (if (x3 + (3 : Int32)) < 0 ∨ (σ 1006 0).toNatClampNeg ≤ (x3 + (3 : Int32)).toNatClampNeg then none else jbi (jc 82 [(.ref 0), (.int (σ 1005 (x3 + (1 : Int32)).toNatClampNeg)), (.int (σ 1005 (x3 + (2 : Int32)).toNatClampNeg)), (.int (σ 1005 (x3 + (3 : Int32)).toNatClampNeg))] σ) (fun r1 τ1 => (if (x3 + (1 : Int32)) < 0 ∨ (τ1 1006 0).toNatClampNeg ≤ (x3 + (1 : Int32)).toNatClampNeg then none else (if (x3 + (2 : Int32)) < 0 ∨ (τ1 1006 0).toNatClampNeg ≤ (x3 + (2 : Int32)).toNatClampNeg then none else (if (x3 + (3 : Int32)) < 0 ∨ (τ1 1006 0).toNatClampNeg ≤ (x3 + (3 : Int32)).toNatClampNeg then none else jbi (jc 185 [(.ref 61), (.int (τ1 1005 (x3 + (1 : Int32)).toNatClampNeg)), (.int (τ1 1005 (x3 + (2 : Int32)).toNatClampNeg)), (.int (τ1 1005 (x3 + (3 : Int32)).toNatClampNeg))] τ1) (fun r2 τ2 => (if r1 = r2 then jv 201 18 [some (.ref 1005), some (.ref 0), some (.ref 61), some (.int (x3 + 6))] [] τ2 else some (some (.int (0 : Int32)), τ2)))))))))) := by
  refine (sv_ts jM201 c201_33 rfl (by decide +kernel) (z := 780) (by decide +kernel) (t := 813) (by decide +kernel)).trans ?_
  refine (sv_aload_n jM201 c201_813 rfl rfl).trans ?_
  refine (sv_aload_n jM201 c201_814 rfl rfl).trans ?_
  refine (sv_iload_n jM201 c201_815 rfl rfl).trans ?_
  refine (sv_iconst jM201 c201_816 rfl (v := 1) (by decide +kernel)).trans ?_
  refine (sv_iadd jM201 c201_817 rfl).trans ?_
  refine (sv_iald jM201 c201_818 rfl (ia_1005 _)).trans ?_
  refine jif _ rfl ?_
  refine (sv_aload_n jM201 c201_819 rfl rfl).trans ?_
  refine (sv_iload_n jM201 c201_820 rfl rfl).trans ?_
  refine (sv_iconst jM201 c201_821 rfl (v := 2) (by decide +kernel)).trans ?_
  refine (sv_iadd jM201 c201_822 rfl).trans ?_
  refine (sv_iald jM201 c201_823 rfl (ia_1005 _)).trans ?_
  refine jif _ rfl ?_
  refine (sv_aload_n jM201 c201_824 rfl rfl).trans ?_
  refine (sv_iload_n jM201 c201_825 rfl rfl).trans ?_
  refine (sv_iconst jM201 c201_826 rfl (v := 3) (by decide +kernel)).trans ?_
  refine (sv_iadd jM201 c201_827 rfl).trans ?_
  refine (sv_iald jM201 c201_828 rfl (ia_1005 _)).trans ?_
  refine jif _ rfl ?_
  refine (sv_callvi (pl := 0) jM201 c201_829 rfl (jm_call_v (a := 0) (as := [(.int (σ 1005 (x3 + (1 : Int32)).toNatClampNeg)), (.int (σ 1005 (x3 + (2 : Int32)).toNatClampNeg)), (.int (σ 1005 (x3 + (3 : Int32)).toNatClampNeg))]) (rest := []) lm_10_95 rfl jM82 rfl rfl rfl rfl rfl) jM82 rfl (Or.inl rfl)).trans ?_
  refine jbi_c (fun r1 τ1 => ?_)
  refine (sv_aload_n jM201 c201_832 rfl rfl).trans ?_
  refine (sv_aload_n jM201 c201_833 rfl rfl).trans ?_
  refine (sv_iload_n jM201 c201_834 rfl rfl).trans ?_
  refine (sv_iconst jM201 c201_835 rfl (v := 1) (by decide +kernel)).trans ?_
  refine (sv_iadd jM201 c201_836 rfl).trans ?_
  refine (sv_iald jM201 c201_837 rfl (ia_1005 _)).trans ?_
  refine jif _ rfl ?_
  refine (sv_aload_n jM201 c201_838 rfl rfl).trans ?_
  refine (sv_iload_n jM201 c201_839 rfl rfl).trans ?_
  refine (sv_iconst jM201 c201_840 rfl (v := 2) (by decide +kernel)).trans ?_
  refine (sv_iadd jM201 c201_841 rfl).trans ?_
  refine (sv_iald jM201 c201_842 rfl (ia_1005 _)).trans ?_
  refine jif _ rfl ?_
  refine (sv_aload_n jM201 c201_843 rfl rfl).trans ?_
  refine (sv_iload_n jM201 c201_844 rfl rfl).trans ?_
  refine (sv_iconst jM201 c201_845 rfl (v := 3) (by decide +kernel)).trans ?_
  refine (sv_iadd jM201 c201_846 rfl).trans ?_
  refine (sv_iald jM201 c201_847 rfl (ia_1005 _)).trans ?_
  refine jif _ rfl ?_
  refine (sv_callvi (pl := 0) jM201 c201_848 rfl (jm_call_v (a := 61) (as := [(.int (τ1 1005 (x3 + (1 : Int32)).toNatClampNeg)), (.int (τ1 1005 (x3 + (2 : Int32)).toNatClampNeg)), (.int (τ1 1005 (x3 + (3 : Int32)).toNatClampNeg))]) (rest := [(.int r1)]) lm_10_98 rfl jM185 rfl rfl rfl rfl rfl) jM185 rfl (Or.inl rfl)).trans ?_
  refine jbi_c (fun r2 τ2 => ?_)
  refine (sv_icmp_eq jM201 c201_851 rfl (t := 1387) (by decide +kernel)).trans ?_
  refine jif _ ?_ ?_
  ·
    refine (sv_iinc (ls1 := [some (.ref 1005), some (.ref 0), some (.ref 61), some (.int (x3 + 6))]) jM201 c201_1387 rfl rfl (v := 6) (by decide +kernel) rfl).trans ?_
    refine (sv_goto jM201 c201_1390 rfl (t := 18) (by decide +kernel)).trans ?_
    rfl
  ·
    refine (sv_iconst jM201 c201_854 rfl (v := 0) (by decide +kernel)).trans ?_
    exact sv_zret jM201 c201_855 rfl rfl (by decide +kernel)
set_option maxRecDepth 20000 in
set_option maxHeartbeats 4000000 in
theorem Law_law_S33_20 (x3 : Int32) (σ : jm_S) : jv 201 33 [some (.ref 1005), some (.ref 0), some (.ref 61), some (.int x3)] [(.int (20 : Int32))] σ = (if (x3 + (1 : Int32)) < 0 ∨ (σ 1006 0).toNatClampNeg ≤ (x3 + (1 : Int32)).toNatClampNeg then none else (if (x3 + (2 : Int32)) < 0 ∨ (σ 1006 0).toNatClampNeg ≤ (x3 + (2 : Int32)).toNatClampNeg then none else (if (x3 + (3 : Int32)) < 0 ∨ (σ 1006 0).toNatClampNeg ≤ (x3 + (3 : Int32)).toNatClampNeg then none else (if (x3 + (4 : Int32)) < 0 ∨ (σ 1006 0).toNatClampNeg ≤ (x3 + (4 : Int32)).toNatClampNeg then none else jbi (jc 85 [(.ref 0), (.int (σ 1005 (x3 + (1 : Int32)).toNatClampNeg)), (.int (σ 1005 (x3 + (2 : Int32)).toNatClampNeg)), (.int (σ 1005 (x3 + (3 : Int32)).toNatClampNeg)), (.int (σ 1005 (x3 + (4 : Int32)).toNatClampNeg))] σ) (fun r1 τ1 => (if (x3 + (1 : Int32)) < 0 ∨ (τ1 1006 0).toNatClampNeg ≤ (x3 + (1 : Int32)).toNatClampNeg then none else (if (x3 + (2 : Int32)) < 0 ∨ (τ1 1006 0).toNatClampNeg ≤ (x3 + (2 : Int32)).toNatClampNeg then none else (if (x3 + (3 : Int32)) < 0 ∨ (τ1 1006 0).toNatClampNeg ≤ (x3 + (3 : Int32)).toNatClampNeg then none else (if (x3 + (4 : Int32)) < 0 ∨ (τ1 1006 0).toNatClampNeg ≤ (x3 + (4 : Int32)).toNatClampNeg then none else jbi (jc 188 [(.ref 61), (.int (τ1 1005 (x3 + (1 : Int32)).toNatClampNeg)), (.int (τ1 1005 (x3 + (2 : Int32)).toNatClampNeg)), (.int (τ1 1005 (x3 + (3 : Int32)).toNatClampNeg)), (.int (τ1 1005 (x3 + (4 : Int32)).toNatClampNeg))] τ1) (fun r2 τ2 => (if r1 = r2 then jv 201 18 [some (.ref 1005), some (.ref 0), some (.ref 61), some (.int (x3 + 6))] [] τ2 else some (some (.int (0 : Int32)), τ2)))))))))))) := by
  refine (sv_ts jM201 c201_33 rfl (by decide +kernel) (z := 823) (by decide +kernel) (t := 856) (by decide +kernel)).trans ?_
  refine (sv_aload_n jM201 c201_856 rfl rfl).trans ?_
  refine (sv_aload_n jM201 c201_857 rfl rfl).trans ?_
  refine (sv_iload_n jM201 c201_858 rfl rfl).trans ?_
  refine (sv_iconst jM201 c201_859 rfl (v := 1) (by decide +kernel)).trans ?_
  refine (sv_iadd jM201 c201_860 rfl).trans ?_
  refine (sv_iald jM201 c201_861 rfl (ia_1005 _)).trans ?_
  refine jif _ rfl ?_
  refine (sv_aload_n jM201 c201_862 rfl rfl).trans ?_
  refine (sv_iload_n jM201 c201_863 rfl rfl).trans ?_
  refine (sv_iconst jM201 c201_864 rfl (v := 2) (by decide +kernel)).trans ?_
  refine (sv_iadd jM201 c201_865 rfl).trans ?_
  refine (sv_iald jM201 c201_866 rfl (ia_1005 _)).trans ?_
  refine jif _ rfl ?_
  refine (sv_aload_n jM201 c201_867 rfl rfl).trans ?_
  refine (sv_iload_n jM201 c201_868 rfl rfl).trans ?_
  refine (sv_iconst jM201 c201_869 rfl (v := 3) (by decide +kernel)).trans ?_
  refine (sv_iadd jM201 c201_870 rfl).trans ?_
  refine (sv_iald jM201 c201_871 rfl (ia_1005 _)).trans ?_
  refine jif _ rfl ?_
  refine (sv_aload_n jM201 c201_872 rfl rfl).trans ?_
  refine (sv_iload_n jM201 c201_873 rfl rfl).trans ?_
  refine (sv_iconst jM201 c201_874 rfl (v := 4) (by decide +kernel)).trans ?_
  refine (sv_iadd jM201 c201_875 rfl).trans ?_
  refine (sv_iald jM201 c201_876 rfl (ia_1005 _)).trans ?_
  refine jif _ rfl ?_
  refine (sv_callvi (pl := 0) jM201 c201_877 rfl (jm_call_v (a := 0) (as := [(.int (σ 1005 (x3 + (1 : Int32)).toNatClampNeg)), (.int (σ 1005 (x3 + (2 : Int32)).toNatClampNeg)), (.int (σ 1005 (x3 + (3 : Int32)).toNatClampNeg)), (.int (σ 1005 (x3 + (4 : Int32)).toNatClampNeg))]) (rest := []) lm_10_99 rfl jM85 rfl rfl rfl rfl rfl) jM85 rfl (Or.inl rfl)).trans ?_
  refine jbi_c (fun r1 τ1 => ?_)
  refine (sv_aload_n jM201 c201_880 rfl rfl).trans ?_
  refine (sv_aload_n jM201 c201_881 rfl rfl).trans ?_
  refine (sv_iload_n jM201 c201_882 rfl rfl).trans ?_
  refine (sv_iconst jM201 c201_883 rfl (v := 1) (by decide +kernel)).trans ?_
  refine (sv_iadd jM201 c201_884 rfl).trans ?_
  refine (sv_iald jM201 c201_885 rfl (ia_1005 _)).trans ?_
  refine jif _ rfl ?_
  refine (sv_aload_n jM201 c201_886 rfl rfl).trans ?_
  refine (sv_iload_n jM201 c201_887 rfl rfl).trans ?_
  refine (sv_iconst jM201 c201_888 rfl (v := 2) (by decide +kernel)).trans ?_
  refine (sv_iadd jM201 c201_889 rfl).trans ?_
  refine (sv_iald jM201 c201_890 rfl (ia_1005 _)).trans ?_
  refine jif _ rfl ?_
  refine (sv_aload_n jM201 c201_891 rfl rfl).trans ?_
  refine (sv_iload_n jM201 c201_892 rfl rfl).trans ?_
  refine (sv_iconst jM201 c201_893 rfl (v := 3) (by decide +kernel)).trans ?_
  refine (sv_iadd jM201 c201_894 rfl).trans ?_
  refine (sv_iald jM201 c201_895 rfl (ia_1005 _)).trans ?_
  refine jif _ rfl ?_
  refine (sv_aload_n jM201 c201_896 rfl rfl).trans ?_
  refine (sv_iload_n jM201 c201_897 rfl rfl).trans ?_
  refine (sv_iconst jM201 c201_898 rfl (v := 4) (by decide +kernel)).trans ?_
  refine (sv_iadd jM201 c201_899 rfl).trans ?_
  refine (sv_iald jM201 c201_900 rfl (ia_1005 _)).trans ?_
  refine jif _ rfl ?_
  refine (sv_callvi (pl := 0) jM201 c201_901 rfl (jm_call_v (a := 61) (as := [(.int (τ1 1005 (x3 + (1 : Int32)).toNatClampNeg)), (.int (τ1 1005 (x3 + (2 : Int32)).toNatClampNeg)), (.int (τ1 1005 (x3 + (3 : Int32)).toNatClampNeg)), (.int (τ1 1005 (x3 + (4 : Int32)).toNatClampNeg))]) (rest := [(.int r1)]) lm_10_103 rfl jM188 rfl rfl rfl rfl rfl) jM188 rfl (Or.inl rfl)).trans ?_
  refine jbi_c (fun r2 τ2 => ?_)
  refine (sv_icmp_eq jM201 c201_904 rfl (t := 1387) (by decide +kernel)).trans ?_
  refine jif _ ?_ ?_
  ·
    refine (sv_iinc (ls1 := [some (.ref 1005), some (.ref 0), some (.ref 61), some (.int (x3 + 6))]) jM201 c201_1387 rfl rfl (v := 6) (by decide +kernel) rfl).trans ?_
    refine (sv_goto jM201 c201_1390 rfl (t := 18) (by decide +kernel)).trans ?_
    rfl
  ·
    refine (sv_iconst jM201 c201_907 rfl (v := 0) (by decide +kernel)).trans ?_
    exact sv_zret jM201 c201_908 rfl rfl (by decide +kernel)
set_option maxRecDepth 20000 in
set_option maxHeartbeats 4000000 in
theorem Law_law_S33_21 (x3 : Int32) (σ : jm_S) : jv 201 33 [some (.ref 1005), some (.ref 0), some (.ref 61), some (.int x3)] [(.int (21 : Int32))] σ = (if (x3 + (1 : Int32)) < 0 ∨ (σ 1006 0).toNatClampNeg ≤ (x3 + (1 : Int32)).toNatClampNeg then none else (if (x3 + (2 : Int32)) < 0 ∨ (σ 1006 0).toNatClampNeg ≤ (x3 + (2 : Int32)).toNatClampNeg then none else (if (x3 + (3 : Int32)) < 0 ∨ (σ 1006 0).toNatClampNeg ≤ (x3 + (3 : Int32)).toNatClampNeg then none else (if (x3 + (4 : Int32)) < 0 ∨ (σ 1006 0).toNatClampNeg ≤ (x3 + (4 : Int32)).toNatClampNeg then none else (if (x3 + (5 : Int32)) < 0 ∨ (σ 1006 0).toNatClampNeg ≤ (x3 + (5 : Int32)).toNatClampNeg then none else jbl (jc 86 [(.ref 0), (.int (σ 1005 (x3 + (1 : Int32)).toNatClampNeg)), (.int (σ 1005 (x3 + (2 : Int32)).toNatClampNeg)), (.int (σ 1005 (x3 + (3 : Int32)).toNatClampNeg)), (.int (σ 1005 (x3 + (4 : Int32)).toNatClampNeg)), (.int (σ 1005 (x3 + (5 : Int32)).toNatClampNeg))] σ) (fun r1 τ1 => (if (x3 + (1 : Int32)) < 0 ∨ (τ1 1006 0).toNatClampNeg ≤ (x3 + (1 : Int32)).toNatClampNeg then none else (if (x3 + (2 : Int32)) < 0 ∨ (τ1 1006 0).toNatClampNeg ≤ (x3 + (2 : Int32)).toNatClampNeg then none else (if (x3 + (3 : Int32)) < 0 ∨ (τ1 1006 0).toNatClampNeg ≤ (x3 + (3 : Int32)).toNatClampNeg then none else (if (x3 + (4 : Int32)) < 0 ∨ (τ1 1006 0).toNatClampNeg ≤ (x3 + (4 : Int32)).toNatClampNeg then none else (if (x3 + (5 : Int32)) < 0 ∨ (τ1 1006 0).toNatClampNeg ≤ (x3 + (5 : Int32)).toNatClampNeg then none else jbl (jc 189 [(.ref 61), (.int (τ1 1005 (x3 + (1 : Int32)).toNatClampNeg)), (.int (τ1 1005 (x3 + (2 : Int32)).toNatClampNeg)), (.int (τ1 1005 (x3 + (3 : Int32)).toNatClampNeg)), (.int (τ1 1005 (x3 + (4 : Int32)).toNatClampNeg)), (.int (τ1 1005 (x3 + (5 : Int32)).toNatClampNeg))] τ1) (fun r2 τ2 => (if (lg_cmp r1 r2) = 0 then jv 201 18 [some (.ref 1005), some (.ref 0), some (.ref 61), some (.int (x3 + 6))] [] τ2 else some (some (.int (0 : Int32)), τ2)))))))))))))) := by
  refine (sv_ts jM201 c201_33 rfl (by decide +kernel) (z := 876) (by decide +kernel) (t := 909) (by decide +kernel)).trans ?_
  refine (sv_aload_n jM201 c201_909 rfl rfl).trans ?_
  refine (sv_aload_n jM201 c201_910 rfl rfl).trans ?_
  refine (sv_iload_n jM201 c201_911 rfl rfl).trans ?_
  refine (sv_iconst jM201 c201_912 rfl (v := 1) (by decide +kernel)).trans ?_
  refine (sv_iadd jM201 c201_913 rfl).trans ?_
  refine (sv_iald jM201 c201_914 rfl (ia_1005 _)).trans ?_
  refine jif _ rfl ?_
  refine (sv_aload_n jM201 c201_915 rfl rfl).trans ?_
  refine (sv_iload_n jM201 c201_916 rfl rfl).trans ?_
  refine (sv_iconst jM201 c201_917 rfl (v := 2) (by decide +kernel)).trans ?_
  refine (sv_iadd jM201 c201_918 rfl).trans ?_
  refine (sv_iald jM201 c201_919 rfl (ia_1005 _)).trans ?_
  refine jif _ rfl ?_
  refine (sv_aload_n jM201 c201_920 rfl rfl).trans ?_
  refine (sv_iload_n jM201 c201_921 rfl rfl).trans ?_
  refine (sv_iconst jM201 c201_922 rfl (v := 3) (by decide +kernel)).trans ?_
  refine (sv_iadd jM201 c201_923 rfl).trans ?_
  refine (sv_iald jM201 c201_924 rfl (ia_1005 _)).trans ?_
  refine jif _ rfl ?_
  refine (sv_aload_n jM201 c201_925 rfl rfl).trans ?_
  refine (sv_iload_n jM201 c201_926 rfl rfl).trans ?_
  refine (sv_iconst jM201 c201_927 rfl (v := 4) (by decide +kernel)).trans ?_
  refine (sv_iadd jM201 c201_928 rfl).trans ?_
  refine (sv_iald jM201 c201_929 rfl (ia_1005 _)).trans ?_
  refine jif _ rfl ?_
  refine (sv_aload_n jM201 c201_930 rfl rfl).trans ?_
  refine (sv_iload_n jM201 c201_931 rfl rfl).trans ?_
  refine (sv_iconst jM201 c201_932 rfl (v := 5) (by decide +kernel)).trans ?_
  refine (sv_iadd jM201 c201_933 rfl).trans ?_
  refine (sv_iald jM201 c201_934 rfl (ia_1005 _)).trans ?_
  refine jif _ rfl ?_
  refine (sv_callvl (pl := 0) jM201 c201_935 rfl (jm_call_v (a := 0) (as := [(.int (σ 1005 (x3 + (1 : Int32)).toNatClampNeg)), (.int (σ 1005 (x3 + (2 : Int32)).toNatClampNeg)), (.int (σ 1005 (x3 + (3 : Int32)).toNatClampNeg)), (.int (σ 1005 (x3 + (4 : Int32)).toNatClampNeg)), (.int (σ 1005 (x3 + (5 : Int32)).toNatClampNeg))]) (rest := []) lm_10_104 rfl jM86 rfl rfl rfl rfl rfl) jM86 rfl rfl).trans ?_
  refine jbl_c (fun r1 τ1 => ?_)
  refine (sv_aload_n jM201 c201_938 rfl rfl).trans ?_
  refine (sv_aload_n jM201 c201_939 rfl rfl).trans ?_
  refine (sv_iload_n jM201 c201_940 rfl rfl).trans ?_
  refine (sv_iconst jM201 c201_941 rfl (v := 1) (by decide +kernel)).trans ?_
  refine (sv_iadd jM201 c201_942 rfl).trans ?_
  refine (sv_iald jM201 c201_943 rfl (ia_1005 _)).trans ?_
  refine jif _ rfl ?_
  refine (sv_aload_n jM201 c201_944 rfl rfl).trans ?_
  refine (sv_iload_n jM201 c201_945 rfl rfl).trans ?_
  refine (sv_iconst jM201 c201_946 rfl (v := 2) (by decide +kernel)).trans ?_
  refine (sv_iadd jM201 c201_947 rfl).trans ?_
  refine (sv_iald jM201 c201_948 rfl (ia_1005 _)).trans ?_
  refine jif _ rfl ?_
  refine (sv_aload_n jM201 c201_949 rfl rfl).trans ?_
  refine (sv_iload_n jM201 c201_950 rfl rfl).trans ?_
  refine (sv_iconst jM201 c201_951 rfl (v := 3) (by decide +kernel)).trans ?_
  refine (sv_iadd jM201 c201_952 rfl).trans ?_
  refine (sv_iald jM201 c201_953 rfl (ia_1005 _)).trans ?_
  refine jif _ rfl ?_
  refine (sv_aload_n jM201 c201_954 rfl rfl).trans ?_
  refine (sv_iload_n jM201 c201_955 rfl rfl).trans ?_
  refine (sv_iconst jM201 c201_956 rfl (v := 4) (by decide +kernel)).trans ?_
  refine (sv_iadd jM201 c201_957 rfl).trans ?_
  refine (sv_iald jM201 c201_958 rfl (ia_1005 _)).trans ?_
  refine jif _ rfl ?_
  refine (sv_aload_n jM201 c201_959 rfl rfl).trans ?_
  refine (sv_iload_n jM201 c201_960 rfl rfl).trans ?_
  refine (sv_iconst jM201 c201_961 rfl (v := 5) (by decide +kernel)).trans ?_
  refine (sv_iadd jM201 c201_962 rfl).trans ?_
  refine (sv_iald jM201 c201_963 rfl (ia_1005 _)).trans ?_
  refine jif _ rfl ?_
  refine (sv_callvl (pl := 0) jM201 c201_964 rfl (jm_call_v (a := 61) (as := [(.int (τ1 1005 (x3 + (1 : Int32)).toNatClampNeg)), (.int (τ1 1005 (x3 + (2 : Int32)).toNatClampNeg)), (.int (τ1 1005 (x3 + (3 : Int32)).toNatClampNeg)), (.int (τ1 1005 (x3 + (4 : Int32)).toNatClampNeg)), (.int (τ1 1005 (x3 + (5 : Int32)).toNatClampNeg))]) (rest := [(.long r1)]) lm_10_108 rfl jM189 rfl rfl rfl rfl rfl) jM189 rfl rfl).trans ?_
  refine jbl_c (fun r2 τ2 => ?_)
  refine (sv_lcmp jM201 c201_967 rfl).trans ?_
  refine (sv_if_eq jM201 c201_968 rfl (t := 1387) (by decide +kernel)).trans ?_
  refine jif _ ?_ ?_
  ·
    refine (sv_iinc (ls1 := [some (.ref 1005), some (.ref 0), some (.ref 61), some (.int (x3 + 6))]) jM201 c201_1387 rfl rfl (v := 6) (by decide +kernel) rfl).trans ?_
    refine (sv_goto jM201 c201_1390 rfl (t := 18) (by decide +kernel)).trans ?_
    rfl
  ·
    refine (sv_iconst jM201 c201_971 rfl (v := 0) (by decide +kernel)).trans ?_
    exact sv_zret jM201 c201_972 rfl rfl (by decide +kernel)
set_option maxRecDepth 20000 in
set_option maxHeartbeats 4000000 in
theorem Law_law_S33_22 (x3 : Int32) (σ : jm_S) : jv 201 33 [some (.ref 1005), some (.ref 0), some (.ref 61), some (.int x3)] [(.int (22 : Int32))] σ = (if (x3 + (1 : Int32)) < 0 ∨ (σ 1006 0).toNatClampNeg ≤ (x3 + (1 : Int32)).toNatClampNeg then none else (if (x3 + (2 : Int32)) < 0 ∨ (σ 1006 0).toNatClampNeg ≤ (x3 + (2 : Int32)).toNatClampNeg then none else (if (x3 + (3 : Int32)) < 0 ∨ (σ 1006 0).toNatClampNeg ≤ (x3 + (3 : Int32)).toNatClampNeg then none else (if (x3 + (4 : Int32)) < 0 ∨ (σ 1006 0).toNatClampNeg ≤ (x3 + (4 : Int32)).toNatClampNeg then none else (if (x3 + (5 : Int32)) < 0 ∨ (σ 1006 0).toNatClampNeg ≤ (x3 + (5 : Int32)).toNatClampNeg then none else jbi (jc 91 [(.ref 0), (.int (σ 1005 (x3 + (1 : Int32)).toNatClampNeg)), (.int (σ 1005 (x3 + (2 : Int32)).toNatClampNeg)), (.int (σ 1005 (x3 + (3 : Int32)).toNatClampNeg)), (.int (σ 1005 (x3 + (4 : Int32)).toNatClampNeg)), (.int (σ 1005 (x3 + (5 : Int32)).toNatClampNeg))] σ) (fun r1 τ1 => (if (x3 + (1 : Int32)) < 0 ∨ (τ1 1006 0).toNatClampNeg ≤ (x3 + (1 : Int32)).toNatClampNeg then none else (if (x3 + (2 : Int32)) < 0 ∨ (τ1 1006 0).toNatClampNeg ≤ (x3 + (2 : Int32)).toNatClampNeg then none else (if (x3 + (3 : Int32)) < 0 ∨ (τ1 1006 0).toNatClampNeg ≤ (x3 + (3 : Int32)).toNatClampNeg then none else (if (x3 + (4 : Int32)) < 0 ∨ (τ1 1006 0).toNatClampNeg ≤ (x3 + (4 : Int32)).toNatClampNeg then none else (if (x3 + (5 : Int32)) < 0 ∨ (τ1 1006 0).toNatClampNeg ≤ (x3 + (5 : Int32)).toNatClampNeg then none else jbi (jc 193 [(.ref 61), (.int (τ1 1005 (x3 + (1 : Int32)).toNatClampNeg)), (.int (τ1 1005 (x3 + (2 : Int32)).toNatClampNeg)), (.int (τ1 1005 (x3 + (3 : Int32)).toNatClampNeg)), (.int (τ1 1005 (x3 + (4 : Int32)).toNatClampNeg)), (.int (τ1 1005 (x3 + (5 : Int32)).toNatClampNeg))] τ1) (fun r2 τ2 => (if r1 = r2 then jv 201 18 [some (.ref 1005), some (.ref 0), some (.ref 61), some (.int (x3 + 6))] [] τ2 else some (some (.int (0 : Int32)), τ2)))))))))))))) := by
  refine (sv_ts jM201 c201_33 rfl (by decide +kernel) (z := 940) (by decide +kernel) (t := 973) (by decide +kernel)).trans ?_
  refine (sv_aload_n jM201 c201_973 rfl rfl).trans ?_
  refine (sv_aload_n jM201 c201_974 rfl rfl).trans ?_
  refine (sv_iload_n jM201 c201_975 rfl rfl).trans ?_
  refine (sv_iconst jM201 c201_976 rfl (v := 1) (by decide +kernel)).trans ?_
  refine (sv_iadd jM201 c201_977 rfl).trans ?_
  refine (sv_iald jM201 c201_978 rfl (ia_1005 _)).trans ?_
  refine jif _ rfl ?_
  refine (sv_aload_n jM201 c201_979 rfl rfl).trans ?_
  refine (sv_iload_n jM201 c201_980 rfl rfl).trans ?_
  refine (sv_iconst jM201 c201_981 rfl (v := 2) (by decide +kernel)).trans ?_
  refine (sv_iadd jM201 c201_982 rfl).trans ?_
  refine (sv_iald jM201 c201_983 rfl (ia_1005 _)).trans ?_
  refine jif _ rfl ?_
  refine (sv_aload_n jM201 c201_984 rfl rfl).trans ?_
  refine (sv_iload_n jM201 c201_985 rfl rfl).trans ?_
  refine (sv_iconst jM201 c201_986 rfl (v := 3) (by decide +kernel)).trans ?_
  refine (sv_iadd jM201 c201_987 rfl).trans ?_
  refine (sv_iald jM201 c201_988 rfl (ia_1005 _)).trans ?_
  refine jif _ rfl ?_
  refine (sv_aload_n jM201 c201_989 rfl rfl).trans ?_
  refine (sv_iload_n jM201 c201_990 rfl rfl).trans ?_
  refine (sv_iconst jM201 c201_991 rfl (v := 4) (by decide +kernel)).trans ?_
  refine (sv_iadd jM201 c201_992 rfl).trans ?_
  refine (sv_iald jM201 c201_993 rfl (ia_1005 _)).trans ?_
  refine jif _ rfl ?_
  refine (sv_aload_n jM201 c201_994 rfl rfl).trans ?_
  refine (sv_iload_n jM201 c201_995 rfl rfl).trans ?_
  refine (sv_iconst jM201 c201_996 rfl (v := 5) (by decide +kernel)).trans ?_
  refine (sv_iadd jM201 c201_997 rfl).trans ?_
  refine (sv_iald jM201 c201_998 rfl (ia_1005 _)).trans ?_
  refine jif _ rfl ?_
  refine (sv_callvi (pl := 0) jM201 c201_999 rfl (jm_call_v (a := 0) (as := [(.int (σ 1005 (x3 + (1 : Int32)).toNatClampNeg)), (.int (σ 1005 (x3 + (2 : Int32)).toNatClampNeg)), (.int (σ 1005 (x3 + (3 : Int32)).toNatClampNeg)), (.int (σ 1005 (x3 + (4 : Int32)).toNatClampNeg)), (.int (σ 1005 (x3 + (5 : Int32)).toNatClampNeg))]) (rest := []) lm_10_109 rfl jM91 rfl rfl rfl rfl rfl) jM91 rfl (Or.inl rfl)).trans ?_
  refine jbi_c (fun r1 τ1 => ?_)
  refine (sv_aload_n jM201 c201_1002 rfl rfl).trans ?_
  refine (sv_aload_n jM201 c201_1003 rfl rfl).trans ?_
  refine (sv_iload_n jM201 c201_1004 rfl rfl).trans ?_
  refine (sv_iconst jM201 c201_1005 rfl (v := 1) (by decide +kernel)).trans ?_
  refine (sv_iadd jM201 c201_1006 rfl).trans ?_
  refine (sv_iald jM201 c201_1007 rfl (ia_1005 _)).trans ?_
  refine jif _ rfl ?_
  refine (sv_aload_n jM201 c201_1008 rfl rfl).trans ?_
  refine (sv_iload_n jM201 c201_1009 rfl rfl).trans ?_
  refine (sv_iconst jM201 c201_1010 rfl (v := 2) (by decide +kernel)).trans ?_
  refine (sv_iadd jM201 c201_1011 rfl).trans ?_
  refine (sv_iald jM201 c201_1012 rfl (ia_1005 _)).trans ?_
  refine jif _ rfl ?_
  refine (sv_aload_n jM201 c201_1013 rfl rfl).trans ?_
  refine (sv_iload_n jM201 c201_1014 rfl rfl).trans ?_
  refine (sv_iconst jM201 c201_1015 rfl (v := 3) (by decide +kernel)).trans ?_
  refine (sv_iadd jM201 c201_1016 rfl).trans ?_
  refine (sv_iald jM201 c201_1017 rfl (ia_1005 _)).trans ?_
  refine jif _ rfl ?_
  refine (sv_aload_n jM201 c201_1018 rfl rfl).trans ?_
  refine (sv_iload_n jM201 c201_1019 rfl rfl).trans ?_
  refine (sv_iconst jM201 c201_1020 rfl (v := 4) (by decide +kernel)).trans ?_
  refine (sv_iadd jM201 c201_1021 rfl).trans ?_
  refine (sv_iald jM201 c201_1022 rfl (ia_1005 _)).trans ?_
  refine jif _ rfl ?_
  refine (sv_aload_n jM201 c201_1023 rfl rfl).trans ?_
  refine (sv_iload_n jM201 c201_1024 rfl rfl).trans ?_
  refine (sv_iconst jM201 c201_1025 rfl (v := 5) (by decide +kernel)).trans ?_
  refine (sv_iadd jM201 c201_1026 rfl).trans ?_
  refine (sv_iald jM201 c201_1027 rfl (ia_1005 _)).trans ?_
  refine jif _ rfl ?_
  refine (sv_callvi (pl := 0) jM201 c201_1028 rfl (jm_call_v (a := 61) (as := [(.int (τ1 1005 (x3 + (1 : Int32)).toNatClampNeg)), (.int (τ1 1005 (x3 + (2 : Int32)).toNatClampNeg)), (.int (τ1 1005 (x3 + (3 : Int32)).toNatClampNeg)), (.int (τ1 1005 (x3 + (4 : Int32)).toNatClampNeg)), (.int (τ1 1005 (x3 + (5 : Int32)).toNatClampNeg))]) (rest := [(.int r1)]) lm_10_112 rfl jM193 rfl rfl rfl rfl rfl) jM193 rfl (Or.inl rfl)).trans ?_
  refine jbi_c (fun r2 τ2 => ?_)
  refine (sv_icmp_eq jM201 c201_1031 rfl (t := 1387) (by decide +kernel)).trans ?_
  refine jif _ ?_ ?_
  ·
    refine (sv_iinc (ls1 := [some (.ref 1005), some (.ref 0), some (.ref 61), some (.int (x3 + 6))]) jM201 c201_1387 rfl rfl (v := 6) (by decide +kernel) rfl).trans ?_
    refine (sv_goto jM201 c201_1390 rfl (t := 18) (by decide +kernel)).trans ?_
    rfl
  ·
    refine (sv_iconst jM201 c201_1034 rfl (v := 0) (by decide +kernel)).trans ?_
    exact sv_zret jM201 c201_1035 rfl rfl (by decide +kernel)
set_option maxRecDepth 20000 in
set_option maxHeartbeats 4000000 in
theorem Law_law_S33_23 (x3 : Int32) (σ : jm_S) : jv 201 33 [some (.ref 1005), some (.ref 0), some (.ref 61), some (.int x3)] [(.int (23 : Int32))] σ = (if (x3 + (1 : Int32)) < 0 ∨ (σ 1006 0).toNatClampNeg ≤ (x3 + (1 : Int32)).toNatClampNeg then none else (if (x3 + (2 : Int32)) < 0 ∨ (σ 1006 0).toNatClampNeg ≤ (x3 + (2 : Int32)).toNatClampNeg then none else jbi (jc 93 [(.ref 0), (.int (σ 1005 (x3 + (1 : Int32)).toNatClampNeg)), (.int (σ 1005 (x3 + (2 : Int32)).toNatClampNeg))] σ) (fun r1 τ1 => (if (x3 + (1 : Int32)) < 0 ∨ (τ1 1006 0).toNatClampNeg ≤ (x3 + (1 : Int32)).toNatClampNeg then none else (if (x3 + (2 : Int32)) < 0 ∨ (τ1 1006 0).toNatClampNeg ≤ (x3 + (2 : Int32)).toNatClampNeg then none else jbi (jc 194 [(.ref 61), (.int (τ1 1005 (x3 + (1 : Int32)).toNatClampNeg)), (.int (τ1 1005 (x3 + (2 : Int32)).toNatClampNeg))] τ1) (fun r2 τ2 => (if r1 = r2 then jv 201 18 [some (.ref 1005), some (.ref 0), some (.ref 61), some (.int (x3 + 6))] [] τ2 else some (some (.int (0 : Int32)), τ2)))))))) := by
  refine (sv_ts jM201 c201_33 rfl (by decide +kernel) (z := 1003) (by decide +kernel) (t := 1036) (by decide +kernel)).trans ?_
  refine (sv_aload_n jM201 c201_1036 rfl rfl).trans ?_
  refine (sv_aload_n jM201 c201_1037 rfl rfl).trans ?_
  refine (sv_iload_n jM201 c201_1038 rfl rfl).trans ?_
  refine (sv_iconst jM201 c201_1039 rfl (v := 1) (by decide +kernel)).trans ?_
  refine (sv_iadd jM201 c201_1040 rfl).trans ?_
  refine (sv_iald jM201 c201_1041 rfl (ia_1005 _)).trans ?_
  refine jif _ rfl ?_
  refine (sv_aload_n jM201 c201_1042 rfl rfl).trans ?_
  refine (sv_iload_n jM201 c201_1043 rfl rfl).trans ?_
  refine (sv_iconst jM201 c201_1044 rfl (v := 2) (by decide +kernel)).trans ?_
  refine (sv_iadd jM201 c201_1045 rfl).trans ?_
  refine (sv_iald jM201 c201_1046 rfl (ia_1005 _)).trans ?_
  refine jif _ rfl ?_
  refine (sv_callvi (pl := 0) jM201 c201_1047 rfl (jm_call_v (a := 0) (as := [(.int (σ 1005 (x3 + (1 : Int32)).toNatClampNeg)), (.int (σ 1005 (x3 + (2 : Int32)).toNatClampNeg))]) (rest := []) lm_10_113 rfl jM93 rfl rfl rfl rfl rfl) jM93 rfl (Or.inl rfl)).trans ?_
  refine jbi_c (fun r1 τ1 => ?_)
  refine (sv_aload_n jM201 c201_1050 rfl rfl).trans ?_
  refine (sv_aload_n jM201 c201_1051 rfl rfl).trans ?_
  refine (sv_iload_n jM201 c201_1052 rfl rfl).trans ?_
  refine (sv_iconst jM201 c201_1053 rfl (v := 1) (by decide +kernel)).trans ?_
  refine (sv_iadd jM201 c201_1054 rfl).trans ?_
  refine (sv_iald jM201 c201_1055 rfl (ia_1005 _)).trans ?_
  refine jif _ rfl ?_
  refine (sv_aload_n jM201 c201_1056 rfl rfl).trans ?_
  refine (sv_iload_n jM201 c201_1057 rfl rfl).trans ?_
  refine (sv_iconst jM201 c201_1058 rfl (v := 2) (by decide +kernel)).trans ?_
  refine (sv_iadd jM201 c201_1059 rfl).trans ?_
  refine (sv_iald jM201 c201_1060 rfl (ia_1005 _)).trans ?_
  refine jif _ rfl ?_
  refine (sv_callvi (pl := 0) jM201 c201_1061 rfl (jm_call_v (a := 61) (as := [(.int (τ1 1005 (x3 + (1 : Int32)).toNatClampNeg)), (.int (τ1 1005 (x3 + (2 : Int32)).toNatClampNeg))]) (rest := [(.int r1)]) lm_10_116 rfl jM194 rfl rfl rfl rfl rfl) jM194 rfl (Or.inl rfl)).trans ?_
  refine jbi_c (fun r2 τ2 => ?_)
  refine (sv_icmp_eq jM201 c201_1064 rfl (t := 1387) (by decide +kernel)).trans ?_
  refine jif _ ?_ ?_
  ·
    refine (sv_iinc (ls1 := [some (.ref 1005), some (.ref 0), some (.ref 61), some (.int (x3 + 6))]) jM201 c201_1387 rfl rfl (v := 6) (by decide +kernel) rfl).trans ?_
    refine (sv_goto jM201 c201_1390 rfl (t := 18) (by decide +kernel)).trans ?_
    rfl
  ·
    refine (sv_iconst jM201 c201_1067 rfl (v := 0) (by decide +kernel)).trans ?_
    exact sv_zret jM201 c201_1068 rfl rfl (by decide +kernel)
set_option maxRecDepth 20000 in
set_option maxHeartbeats 4000000 in
theorem Law_law_S33_24 (x3 : Int32) (σ : jm_S) : jv 201 33 [some (.ref 1005), some (.ref 0), some (.ref 61), some (.int x3)] [(.int (24 : Int32))] σ = (if (x3 + (1 : Int32)) < 0 ∨ (σ 1006 0).toNatClampNeg ≤ (x3 + (1 : Int32)).toNatClampNeg then none else jbi (jc 96 [(.ref 0), (.int (σ 1005 (x3 + (1 : Int32)).toNatClampNeg))] σ) (fun r1 τ1 => (if (x3 + (1 : Int32)) < 0 ∨ (τ1 1006 0).toNatClampNeg ≤ (x3 + (1 : Int32)).toNatClampNeg then none else jbi (jc 195 [(.ref 61), (.int (τ1 1005 (x3 + (1 : Int32)).toNatClampNeg))] τ1) (fun r2 τ2 => (if r1 = r2 then jv 201 18 [some (.ref 1005), some (.ref 0), some (.ref 61), some (.int (x3 + 6))] [] τ2 else some (some (.int (0 : Int32)), τ2)))))) := by
  refine (sv_ts jM201 c201_33 rfl (by decide +kernel) (z := 1036) (by decide +kernel) (t := 1069) (by decide +kernel)).trans ?_
  refine (sv_aload_n jM201 c201_1069 rfl rfl).trans ?_
  refine (sv_aload_n jM201 c201_1070 rfl rfl).trans ?_
  refine (sv_iload_n jM201 c201_1071 rfl rfl).trans ?_
  refine (sv_iconst jM201 c201_1072 rfl (v := 1) (by decide +kernel)).trans ?_
  refine (sv_iadd jM201 c201_1073 rfl).trans ?_
  refine (sv_iald jM201 c201_1074 rfl (ia_1005 _)).trans ?_
  refine jif _ rfl ?_
  refine (sv_callvi (pl := 0) jM201 c201_1075 rfl (jm_call_v (a := 0) (as := [(.int (σ 1005 (x3 + (1 : Int32)).toNatClampNeg))]) (rest := []) lm_10_117 rfl jM96 rfl rfl rfl rfl rfl) jM96 rfl (Or.inl rfl)).trans ?_
  refine jbi_c (fun r1 τ1 => ?_)
  refine (sv_aload_n jM201 c201_1078 rfl rfl).trans ?_
  refine (sv_aload_n jM201 c201_1079 rfl rfl).trans ?_
  refine (sv_iload_n jM201 c201_1080 rfl rfl).trans ?_
  refine (sv_iconst jM201 c201_1081 rfl (v := 1) (by decide +kernel)).trans ?_
  refine (sv_iadd jM201 c201_1082 rfl).trans ?_
  refine (sv_iald jM201 c201_1083 rfl (ia_1005 _)).trans ?_
  refine jif _ rfl ?_
  refine (sv_callvi (pl := 0) jM201 c201_1084 rfl (jm_call_v (a := 61) (as := [(.int (τ1 1005 (x3 + (1 : Int32)).toNatClampNeg))]) (rest := [(.int r1)]) lm_10_120 rfl jM195 rfl rfl rfl rfl rfl) jM195 rfl (Or.inl rfl)).trans ?_
  refine jbi_c (fun r2 τ2 => ?_)
  refine (sv_icmp_eq jM201 c201_1087 rfl (t := 1387) (by decide +kernel)).trans ?_
  refine jif _ ?_ ?_
  ·
    refine (sv_iinc (ls1 := [some (.ref 1005), some (.ref 0), some (.ref 61), some (.int (x3 + 6))]) jM201 c201_1387 rfl rfl (v := 6) (by decide +kernel) rfl).trans ?_
    refine (sv_goto jM201 c201_1390 rfl (t := 18) (by decide +kernel)).trans ?_
    rfl
  ·
    refine (sv_iconst jM201 c201_1090 rfl (v := 0) (by decide +kernel)).trans ?_
    exact sv_zret jM201 c201_1091 rfl rfl (by decide +kernel)
set_option maxRecDepth 20000 in
set_option maxHeartbeats 4000000 in
theorem Law_law_S33_25 (x3 : Int32) (σ : jm_S) : jv 201 33 [some (.ref 1005), some (.ref 0), some (.ref 61), some (.int x3)] [(.int (25 : Int32))] σ = (if (x3 + (1 : Int32)) < 0 ∨ (σ 1006 0).toNatClampNeg ≤ (x3 + (1 : Int32)).toNatClampNeg then none else (if (x3 + (2 : Int32)) < 0 ∨ (σ 1006 0).toNatClampNeg ≤ (x3 + (2 : Int32)).toNatClampNeg then none else (if (x3 + (3 : Int32)) < 0 ∨ (σ 1006 0).toNatClampNeg ≤ (x3 + (3 : Int32)).toNatClampNeg then none else jbi (jc 102 [(.ref 0), (.int (σ 1005 (x3 + (1 : Int32)).toNatClampNeg)), (.int (σ 1005 (x3 + (2 : Int32)).toNatClampNeg)), (.int (σ 1005 (x3 + (3 : Int32)).toNatClampNeg))] σ) (fun r1 τ1 => (if (x3 + (1 : Int32)) < 0 ∨ (τ1 1006 0).toNatClampNeg ≤ (x3 + (1 : Int32)).toNatClampNeg then none else (if (x3 + (2 : Int32)) < 0 ∨ (τ1 1006 0).toNatClampNeg ≤ (x3 + (2 : Int32)).toNatClampNeg then none else (if (x3 + (3 : Int32)) < 0 ∨ (τ1 1006 0).toNatClampNeg ≤ (x3 + (3 : Int32)).toNatClampNeg then none else jbi (jc 118 [(.ref 61), (.int (τ1 1005 (x3 + (1 : Int32)).toNatClampNeg)), (.int (τ1 1005 (x3 + (2 : Int32)).toNatClampNeg)), (.int (τ1 1005 (x3 + (3 : Int32)).toNatClampNeg))] τ1) (fun r2 τ2 => (if r1 = r2 then jv 201 18 [some (.ref 1005), some (.ref 0), some (.ref 61), some (.int (x3 + 6))] [] τ2 else some (some (.int (0 : Int32)), τ2)))))))))) := by
  refine (sv_ts jM201 c201_33 rfl (by decide +kernel) (z := 1059) (by decide +kernel) (t := 1092) (by decide +kernel)).trans ?_
  refine (sv_aload_n jM201 c201_1092 rfl rfl).trans ?_
  refine (sv_aload_n jM201 c201_1093 rfl rfl).trans ?_
  refine (sv_iload_n jM201 c201_1094 rfl rfl).trans ?_
  refine (sv_iconst jM201 c201_1095 rfl (v := 1) (by decide +kernel)).trans ?_
  refine (sv_iadd jM201 c201_1096 rfl).trans ?_
  refine (sv_iald jM201 c201_1097 rfl (ia_1005 _)).trans ?_
  refine jif _ rfl ?_
  refine (sv_aload_n jM201 c201_1098 rfl rfl).trans ?_
  refine (sv_iload_n jM201 c201_1099 rfl rfl).trans ?_
  refine (sv_iconst jM201 c201_1100 rfl (v := 2) (by decide +kernel)).trans ?_
  refine (sv_iadd jM201 c201_1101 rfl).trans ?_
  refine (sv_iald jM201 c201_1102 rfl (ia_1005 _)).trans ?_
  refine jif _ rfl ?_
  refine (sv_aload_n jM201 c201_1103 rfl rfl).trans ?_
  refine (sv_iload_n jM201 c201_1104 rfl rfl).trans ?_
  refine (sv_iconst jM201 c201_1105 rfl (v := 3) (by decide +kernel)).trans ?_
  refine (sv_iadd jM201 c201_1106 rfl).trans ?_
  refine (sv_iald jM201 c201_1107 rfl (ia_1005 _)).trans ?_
  refine jif _ rfl ?_
  refine (sv_callvi (pl := 0) jM201 c201_1108 rfl (jm_call_v (a := 0) (as := [(.int (σ 1005 (x3 + (1 : Int32)).toNatClampNeg)), (.int (σ 1005 (x3 + (2 : Int32)).toNatClampNeg)), (.int (σ 1005 (x3 + (3 : Int32)).toNatClampNeg))]) (rest := []) lm_10_121 rfl jM102 rfl rfl rfl rfl rfl) jM102 rfl (Or.inl rfl)).trans ?_
  refine jbi_c (fun r1 τ1 => ?_)
  refine (sv_aload_n jM201 c201_1111 rfl rfl).trans ?_
  refine (sv_aload_n jM201 c201_1112 rfl rfl).trans ?_
  refine (sv_iload_n jM201 c201_1113 rfl rfl).trans ?_
  refine (sv_iconst jM201 c201_1114 rfl (v := 1) (by decide +kernel)).trans ?_
  refine (sv_iadd jM201 c201_1115 rfl).trans ?_
  refine (sv_iald jM201 c201_1116 rfl (ia_1005 _)).trans ?_
  refine jif _ rfl ?_
  refine (sv_aload_n jM201 c201_1117 rfl rfl).trans ?_
  refine (sv_iload_n jM201 c201_1118 rfl rfl).trans ?_
  refine (sv_iconst jM201 c201_1119 rfl (v := 2) (by decide +kernel)).trans ?_
  refine (sv_iadd jM201 c201_1120 rfl).trans ?_
  refine (sv_iald jM201 c201_1121 rfl (ia_1005 _)).trans ?_
  refine jif _ rfl ?_
  refine (sv_aload_n jM201 c201_1122 rfl rfl).trans ?_
  refine (sv_iload_n jM201 c201_1123 rfl rfl).trans ?_
  refine (sv_iconst jM201 c201_1124 rfl (v := 3) (by decide +kernel)).trans ?_
  refine (sv_iadd jM201 c201_1125 rfl).trans ?_
  refine (sv_iald jM201 c201_1126 rfl (ia_1005 _)).trans ?_
  refine jif _ rfl ?_
  refine (sv_callvi (pl := 0) jM201 c201_1127 rfl (jm_call_v (a := 61) (as := [(.int (τ1 1005 (x3 + (1 : Int32)).toNatClampNeg)), (.int (τ1 1005 (x3 + (2 : Int32)).toNatClampNeg)), (.int (τ1 1005 (x3 + (3 : Int32)).toNatClampNeg))]) (rest := [(.int r1)]) lm_10_124 rfl jM118 rfl rfl rfl rfl rfl) jM118 rfl (Or.inl rfl)).trans ?_
  refine jbi_c (fun r2 τ2 => ?_)
  refine (sv_icmp_eq jM201 c201_1130 rfl (t := 1387) (by decide +kernel)).trans ?_
  refine jif _ ?_ ?_
  ·
    refine (sv_iinc (ls1 := [some (.ref 1005), some (.ref 0), some (.ref 61), some (.int (x3 + 6))]) jM201 c201_1387 rfl rfl (v := 6) (by decide +kernel) rfl).trans ?_
    refine (sv_goto jM201 c201_1390 rfl (t := 18) (by decide +kernel)).trans ?_
    rfl
  ·
    refine (sv_iconst jM201 c201_1133 rfl (v := 0) (by decide +kernel)).trans ?_
    exact sv_zret jM201 c201_1134 rfl rfl (by decide +kernel)
set_option maxRecDepth 20000 in
set_option maxHeartbeats 4000000 in
theorem Law_law_S33_26 (x3 : Int32) (σ : jm_S) : jv 201 33 [some (.ref 1005), some (.ref 0), some (.ref 61), some (.int x3)] [(.int (26 : Int32))] σ = (if (x3 + (1 : Int32)) < 0 ∨ (σ 1006 0).toNatClampNeg ≤ (x3 + (1 : Int32)).toNatClampNeg then none else jbi (jc 104 [(.ref 0), (.int (σ 1005 (x3 + (1 : Int32)).toNatClampNeg))] σ) (fun r1 τ1 => (if (x3 + (1 : Int32)) < 0 ∨ (τ1 1006 0).toNatClampNeg ≤ (x3 + (1 : Int32)).toNatClampNeg then none else jbi (jc 122 [(.ref 61), (.int (τ1 1005 (x3 + (1 : Int32)).toNatClampNeg))] τ1) (fun r2 τ2 => (if r1 = r2 then jv 201 18 [some (.ref 1005), some (.ref 0), some (.ref 61), some (.int (x3 + 6))] [] τ2 else some (some (.int (0 : Int32)), τ2)))))) := by
  refine (sv_ts jM201 c201_33 rfl (by decide +kernel) (z := 1102) (by decide +kernel) (t := 1135) (by decide +kernel)).trans ?_
  refine (sv_aload_n jM201 c201_1135 rfl rfl).trans ?_
  refine (sv_aload_n jM201 c201_1136 rfl rfl).trans ?_
  refine (sv_iload_n jM201 c201_1137 rfl rfl).trans ?_
  refine (sv_iconst jM201 c201_1138 rfl (v := 1) (by decide +kernel)).trans ?_
  refine (sv_iadd jM201 c201_1139 rfl).trans ?_
  refine (sv_iald jM201 c201_1140 rfl (ia_1005 _)).trans ?_
  refine jif _ rfl ?_
  refine (sv_callvi (pl := 0) jM201 c201_1141 rfl (jm_call_v (a := 0) (as := [(.int (σ 1005 (x3 + (1 : Int32)).toNatClampNeg))]) (rest := []) lm_10_125 rfl jM104 rfl rfl rfl rfl rfl) jM104 rfl (Or.inl rfl)).trans ?_
  refine jbi_c (fun r1 τ1 => ?_)
  refine (sv_aload_n jM201 c201_1144 rfl rfl).trans ?_
  refine (sv_aload_n jM201 c201_1145 rfl rfl).trans ?_
  refine (sv_iload_n jM201 c201_1146 rfl rfl).trans ?_
  refine (sv_iconst jM201 c201_1147 rfl (v := 1) (by decide +kernel)).trans ?_
  refine (sv_iadd jM201 c201_1148 rfl).trans ?_
  refine (sv_iald jM201 c201_1149 rfl (ia_1005 _)).trans ?_
  refine jif _ rfl ?_
  refine (sv_callvi (pl := 0) jM201 c201_1150 rfl (jm_call_v (a := 61) (as := [(.int (τ1 1005 (x3 + (1 : Int32)).toNatClampNeg))]) (rest := [(.int r1)]) lm_10_128 rfl jM122 rfl rfl rfl rfl rfl) jM122 rfl (Or.inl rfl)).trans ?_
  refine jbi_c (fun r2 τ2 => ?_)
  refine (sv_icmp_eq jM201 c201_1153 rfl (t := 1387) (by decide +kernel)).trans ?_
  refine jif _ ?_ ?_
  ·
    refine (sv_iinc (ls1 := [some (.ref 1005), some (.ref 0), some (.ref 61), some (.int (x3 + 6))]) jM201 c201_1387 rfl rfl (v := 6) (by decide +kernel) rfl).trans ?_
    refine (sv_goto jM201 c201_1390 rfl (t := 18) (by decide +kernel)).trans ?_
    rfl
  ·
    refine (sv_iconst jM201 c201_1156 rfl (v := 0) (by decide +kernel)).trans ?_
    exact sv_zret jM201 c201_1157 rfl rfl (by decide +kernel)
set_option maxRecDepth 20000 in
set_option maxHeartbeats 4000000 in
theorem Law_law_S33_27 (x3 : Int32) (σ : jm_S) : jv 201 33 [some (.ref 1005), some (.ref 0), some (.ref 61), some (.int x3)] [(.int (27 : Int32))] σ = (if (x3 + (1 : Int32)) < 0 ∨ (σ 1006 0).toNatClampNeg ≤ (x3 + (1 : Int32)).toNatClampNeg then none else (if (x3 + (2 : Int32)) < 0 ∨ (σ 1006 0).toNatClampNeg ≤ (x3 + (2 : Int32)).toNatClampNeg then none else (if (x3 + (3 : Int32)) < 0 ∨ (σ 1006 0).toNatClampNeg ≤ (x3 + (3 : Int32)).toNatClampNeg then none else (if (x3 + (4 : Int32)) < 0 ∨ (σ 1006 0).toNatClampNeg ≤ (x3 + (4 : Int32)).toNatClampNeg then none else jbi (jc 105 [(.ref 0), (.int (σ 1005 (x3 + (1 : Int32)).toNatClampNeg)), (.int (σ 1005 (x3 + (2 : Int32)).toNatClampNeg)), (.int (σ 1005 (x3 + (3 : Int32)).toNatClampNeg)), (.int (σ 1005 (x3 + (4 : Int32)).toNatClampNeg))] σ) (fun r1 τ1 => (if (x3 + (1 : Int32)) < 0 ∨ (τ1 1006 0).toNatClampNeg ≤ (x3 + (1 : Int32)).toNatClampNeg then none else (if (x3 + (2 : Int32)) < 0 ∨ (τ1 1006 0).toNatClampNeg ≤ (x3 + (2 : Int32)).toNatClampNeg then none else (if (x3 + (3 : Int32)) < 0 ∨ (τ1 1006 0).toNatClampNeg ≤ (x3 + (3 : Int32)).toNatClampNeg then none else (if (x3 + (4 : Int32)) < 0 ∨ (τ1 1006 0).toNatClampNeg ≤ (x3 + (4 : Int32)).toNatClampNeg then none else jbi (jc 123 [(.ref 61), (.int (τ1 1005 (x3 + (1 : Int32)).toNatClampNeg)), (.int (τ1 1005 (x3 + (2 : Int32)).toNatClampNeg)), (.int (τ1 1005 (x3 + (3 : Int32)).toNatClampNeg)), (.int (τ1 1005 (x3 + (4 : Int32)).toNatClampNeg))] τ1) (fun r2 τ2 => (if r1 = r2 then jv 201 18 [some (.ref 1005), some (.ref 0), some (.ref 61), some (.int (x3 + 6))] [] τ2 else some (some (.int (0 : Int32)), τ2)))))))))))) := by
  refine (sv_ts jM201 c201_33 rfl (by decide +kernel) (z := 1125) (by decide +kernel) (t := 1158) (by decide +kernel)).trans ?_
  refine (sv_aload_n jM201 c201_1158 rfl rfl).trans ?_
  refine (sv_aload_n jM201 c201_1159 rfl rfl).trans ?_
  refine (sv_iload_n jM201 c201_1160 rfl rfl).trans ?_
  refine (sv_iconst jM201 c201_1161 rfl (v := 1) (by decide +kernel)).trans ?_
  refine (sv_iadd jM201 c201_1162 rfl).trans ?_
  refine (sv_iald jM201 c201_1163 rfl (ia_1005 _)).trans ?_
  refine jif _ rfl ?_
  refine (sv_aload_n jM201 c201_1164 rfl rfl).trans ?_
  refine (sv_iload_n jM201 c201_1165 rfl rfl).trans ?_
  refine (sv_iconst jM201 c201_1166 rfl (v := 2) (by decide +kernel)).trans ?_
  refine (sv_iadd jM201 c201_1167 rfl).trans ?_
  refine (sv_iald jM201 c201_1168 rfl (ia_1005 _)).trans ?_
  refine jif _ rfl ?_
  refine (sv_aload_n jM201 c201_1169 rfl rfl).trans ?_
  refine (sv_iload_n jM201 c201_1170 rfl rfl).trans ?_
  refine (sv_iconst jM201 c201_1171 rfl (v := 3) (by decide +kernel)).trans ?_
  refine (sv_iadd jM201 c201_1172 rfl).trans ?_
  refine (sv_iald jM201 c201_1173 rfl (ia_1005 _)).trans ?_
  refine jif _ rfl ?_
  refine (sv_aload_n jM201 c201_1174 rfl rfl).trans ?_
  refine (sv_iload_n jM201 c201_1175 rfl rfl).trans ?_
  refine (sv_iconst jM201 c201_1176 rfl (v := 4) (by decide +kernel)).trans ?_
  refine (sv_iadd jM201 c201_1177 rfl).trans ?_
  refine (sv_iald jM201 c201_1178 rfl (ia_1005 _)).trans ?_
  refine jif _ rfl ?_
  refine (sv_callvi (pl := 0) jM201 c201_1179 rfl (jm_call_v (a := 0) (as := [(.int (σ 1005 (x3 + (1 : Int32)).toNatClampNeg)), (.int (σ 1005 (x3 + (2 : Int32)).toNatClampNeg)), (.int (σ 1005 (x3 + (3 : Int32)).toNatClampNeg)), (.int (σ 1005 (x3 + (4 : Int32)).toNatClampNeg))]) (rest := []) lm_10_129 rfl jM105 rfl rfl rfl rfl rfl) jM105 rfl (Or.inl rfl)).trans ?_
  refine jbi_c (fun r1 τ1 => ?_)
  refine (sv_aload_n jM201 c201_1182 rfl rfl).trans ?_
  refine (sv_aload_n jM201 c201_1183 rfl rfl).trans ?_
  refine (sv_iload_n jM201 c201_1184 rfl rfl).trans ?_
  refine (sv_iconst jM201 c201_1185 rfl (v := 1) (by decide +kernel)).trans ?_
  refine (sv_iadd jM201 c201_1186 rfl).trans ?_
  refine (sv_iald jM201 c201_1187 rfl (ia_1005 _)).trans ?_
  refine jif _ rfl ?_
  refine (sv_aload_n jM201 c201_1188 rfl rfl).trans ?_
  refine (sv_iload_n jM201 c201_1189 rfl rfl).trans ?_
  refine (sv_iconst jM201 c201_1190 rfl (v := 2) (by decide +kernel)).trans ?_
  refine (sv_iadd jM201 c201_1191 rfl).trans ?_
  refine (sv_iald jM201 c201_1192 rfl (ia_1005 _)).trans ?_
  refine jif _ rfl ?_
  refine (sv_aload_n jM201 c201_1193 rfl rfl).trans ?_
  refine (sv_iload_n jM201 c201_1194 rfl rfl).trans ?_
  refine (sv_iconst jM201 c201_1195 rfl (v := 3) (by decide +kernel)).trans ?_
  refine (sv_iadd jM201 c201_1196 rfl).trans ?_
  refine (sv_iald jM201 c201_1197 rfl (ia_1005 _)).trans ?_
  refine jif _ rfl ?_
  refine (sv_aload_n jM201 c201_1198 rfl rfl).trans ?_
  refine (sv_iload_n jM201 c201_1199 rfl rfl).trans ?_
  refine (sv_iconst jM201 c201_1200 rfl (v := 4) (by decide +kernel)).trans ?_
  refine (sv_iadd jM201 c201_1201 rfl).trans ?_
  refine (sv_iald jM201 c201_1202 rfl (ia_1005 _)).trans ?_
  refine jif _ rfl ?_
  refine (sv_callvi (pl := 0) jM201 c201_1203 rfl (jm_call_v (a := 61) (as := [(.int (τ1 1005 (x3 + (1 : Int32)).toNatClampNeg)), (.int (τ1 1005 (x3 + (2 : Int32)).toNatClampNeg)), (.int (τ1 1005 (x3 + (3 : Int32)).toNatClampNeg)), (.int (τ1 1005 (x3 + (4 : Int32)).toNatClampNeg))]) (rest := [(.int r1)]) lm_10_132 rfl jM123 rfl rfl rfl rfl rfl) jM123 rfl (Or.inl rfl)).trans ?_
  refine jbi_c (fun r2 τ2 => ?_)
  refine (sv_icmp_eq jM201 c201_1206 rfl (t := 1387) (by decide +kernel)).trans ?_
  refine jif _ ?_ ?_
  ·
    refine (sv_iinc (ls1 := [some (.ref 1005), some (.ref 0), some (.ref 61), some (.int (x3 + 6))]) jM201 c201_1387 rfl rfl (v := 6) (by decide +kernel) rfl).trans ?_
    refine (sv_goto jM201 c201_1390 rfl (t := 18) (by decide +kernel)).trans ?_
    rfl
  ·
    refine (sv_iconst jM201 c201_1209 rfl (v := 0) (by decide +kernel)).trans ?_
    exact sv_zret jM201 c201_1210 rfl rfl (by decide +kernel)
set_option maxRecDepth 20000 in
set_option maxHeartbeats 4000000 in
theorem Law_law_S33_28 (x3 : Int32) (σ : jm_S) : jv 201 33 [some (.ref 1005), some (.ref 0), some (.ref 61), some (.int x3)] [(.int (28 : Int32))] σ = (if (x3 + (1 : Int32)) < 0 ∨ (σ 1006 0).toNatClampNeg ≤ (x3 + (1 : Int32)).toNatClampNeg then none else (if (x3 + (2 : Int32)) < 0 ∨ (σ 1006 0).toNatClampNeg ≤ (x3 + (2 : Int32)).toNatClampNeg then none else (if (x3 + (3 : Int32)) < 0 ∨ (σ 1006 0).toNatClampNeg ≤ (x3 + (3 : Int32)).toNatClampNeg then none else jbi (jc 108 [(.ref 0), (.int (σ 1005 (x3 + (1 : Int32)).toNatClampNeg)), (.int (σ 1005 (x3 + (2 : Int32)).toNatClampNeg)), (.int (σ 1005 (x3 + (3 : Int32)).toNatClampNeg))] σ) (fun r1 τ1 => (if (x3 + (1 : Int32)) < 0 ∨ (τ1 1006 0).toNatClampNeg ≤ (x3 + (1 : Int32)).toNatClampNeg then none else (if (x3 + (2 : Int32)) < 0 ∨ (τ1 1006 0).toNatClampNeg ≤ (x3 + (2 : Int32)).toNatClampNeg then none else (if (x3 + (3 : Int32)) < 0 ∨ (τ1 1006 0).toNatClampNeg ≤ (x3 + (3 : Int32)).toNatClampNeg then none else jbi (jc 126 [(.ref 61), (.int (τ1 1005 (x3 + (1 : Int32)).toNatClampNeg)), (.int (τ1 1005 (x3 + (2 : Int32)).toNatClampNeg)), (.int (τ1 1005 (x3 + (3 : Int32)).toNatClampNeg))] τ1) (fun r2 τ2 => (if r1 = r2 then jv 201 18 [some (.ref 1005), some (.ref 0), some (.ref 61), some (.int (x3 + 6))] [] τ2 else some (some (.int (0 : Int32)), τ2)))))))))) := by
  refine (sv_ts jM201 c201_33 rfl (by decide +kernel) (z := 1178) (by decide +kernel) (t := 1211) (by decide +kernel)).trans ?_
  refine (sv_aload_n jM201 c201_1211 rfl rfl).trans ?_
  refine (sv_aload_n jM201 c201_1212 rfl rfl).trans ?_
  refine (sv_iload_n jM201 c201_1213 rfl rfl).trans ?_
  refine (sv_iconst jM201 c201_1214 rfl (v := 1) (by decide +kernel)).trans ?_
  refine (sv_iadd jM201 c201_1215 rfl).trans ?_
  refine (sv_iald jM201 c201_1216 rfl (ia_1005 _)).trans ?_
  refine jif _ rfl ?_
  refine (sv_aload_n jM201 c201_1217 rfl rfl).trans ?_
  refine (sv_iload_n jM201 c201_1218 rfl rfl).trans ?_
  refine (sv_iconst jM201 c201_1219 rfl (v := 2) (by decide +kernel)).trans ?_
  refine (sv_iadd jM201 c201_1220 rfl).trans ?_
  refine (sv_iald jM201 c201_1221 rfl (ia_1005 _)).trans ?_
  refine jif _ rfl ?_
  refine (sv_aload_n jM201 c201_1222 rfl rfl).trans ?_
  refine (sv_iload_n jM201 c201_1223 rfl rfl).trans ?_
  refine (sv_iconst jM201 c201_1224 rfl (v := 3) (by decide +kernel)).trans ?_
  refine (sv_iadd jM201 c201_1225 rfl).trans ?_
  refine (sv_iald jM201 c201_1226 rfl (ia_1005 _)).trans ?_
  refine jif _ rfl ?_
  refine (sv_callvi (pl := 0) jM201 c201_1227 rfl (jm_call_v (a := 0) (as := [(.int (σ 1005 (x3 + (1 : Int32)).toNatClampNeg)), (.int (σ 1005 (x3 + (2 : Int32)).toNatClampNeg)), (.int (σ 1005 (x3 + (3 : Int32)).toNatClampNeg))]) (rest := []) lm_10_133 rfl jM108 rfl rfl rfl rfl rfl) jM108 rfl (Or.inl rfl)).trans ?_
  refine jbi_c (fun r1 τ1 => ?_)
  refine (sv_aload_n jM201 c201_1230 rfl rfl).trans ?_
  refine (sv_aload_n jM201 c201_1231 rfl rfl).trans ?_
  refine (sv_iload_n jM201 c201_1232 rfl rfl).trans ?_
  refine (sv_iconst jM201 c201_1233 rfl (v := 1) (by decide +kernel)).trans ?_
  refine (sv_iadd jM201 c201_1234 rfl).trans ?_
  refine (sv_iald jM201 c201_1235 rfl (ia_1005 _)).trans ?_
  refine jif _ rfl ?_
  refine (sv_aload_n jM201 c201_1236 rfl rfl).trans ?_
  refine (sv_iload_n jM201 c201_1237 rfl rfl).trans ?_
  refine (sv_iconst jM201 c201_1238 rfl (v := 2) (by decide +kernel)).trans ?_
  refine (sv_iadd jM201 c201_1239 rfl).trans ?_
  refine (sv_iald jM201 c201_1240 rfl (ia_1005 _)).trans ?_
  refine jif _ rfl ?_
  refine (sv_aload_n jM201 c201_1241 rfl rfl).trans ?_
  refine (sv_iload_n jM201 c201_1242 rfl rfl).trans ?_
  refine (sv_iconst jM201 c201_1243 rfl (v := 3) (by decide +kernel)).trans ?_
  refine (sv_iadd jM201 c201_1244 rfl).trans ?_
  refine (sv_iald jM201 c201_1245 rfl (ia_1005 _)).trans ?_
  refine jif _ rfl ?_
  refine (sv_callvi (pl := 0) jM201 c201_1246 rfl (jm_call_v (a := 61) (as := [(.int (τ1 1005 (x3 + (1 : Int32)).toNatClampNeg)), (.int (τ1 1005 (x3 + (2 : Int32)).toNatClampNeg)), (.int (τ1 1005 (x3 + (3 : Int32)).toNatClampNeg))]) (rest := [(.int r1)]) lm_10_136 rfl jM126 rfl rfl rfl rfl rfl) jM126 rfl (Or.inl rfl)).trans ?_
  refine jbi_c (fun r2 τ2 => ?_)
  refine (sv_icmp_eq jM201 c201_1249 rfl (t := 1387) (by decide +kernel)).trans ?_
  refine jif _ ?_ ?_
  ·
    refine (sv_iinc (ls1 := [some (.ref 1005), some (.ref 0), some (.ref 61), some (.int (x3 + 6))]) jM201 c201_1387 rfl rfl (v := 6) (by decide +kernel) rfl).trans ?_
    refine (sv_goto jM201 c201_1390 rfl (t := 18) (by decide +kernel)).trans ?_
    rfl
  ·
    refine (sv_iconst jM201 c201_1252 rfl (v := 0) (by decide +kernel)).trans ?_
    exact sv_zret jM201 c201_1253 rfl rfl (by decide +kernel)
set_option maxRecDepth 20000 in
set_option maxHeartbeats 4000000 in
theorem Law_law_S33_29 (x3 : Int32) (σ : jm_S) : jv 201 33 [some (.ref 1005), some (.ref 0), some (.ref 61), some (.int x3)] [(.int (29 : Int32))] σ = (if (x3 + (1 : Int32)) < 0 ∨ (σ 1006 0).toNatClampNeg ≤ (x3 + (1 : Int32)).toNatClampNeg then none else (if (x3 + (2 : Int32)) < 0 ∨ (σ 1006 0).toNatClampNeg ≤ (x3 + (2 : Int32)).toNatClampNeg then none else (if (x3 + (3 : Int32)) < 0 ∨ (σ 1006 0).toNatClampNeg ≤ (x3 + (3 : Int32)).toNatClampNeg then none else (if (x3 + (4 : Int32)) < 0 ∨ (σ 1006 0).toNatClampNeg ≤ (x3 + (4 : Int32)).toNatClampNeg then none else (if (x3 + (5 : Int32)) < 0 ∨ (σ 1006 0).toNatClampNeg ≤ (x3 + (5 : Int32)).toNatClampNeg then none else jbi (jc 109 [(.ref 0), (.int (σ 1005 (x3 + (1 : Int32)).toNatClampNeg)), (.int (σ 1005 (x3 + (2 : Int32)).toNatClampNeg)), (.int (σ 1005 (x3 + (3 : Int32)).toNatClampNeg)), (.int (σ 1005 (x3 + (4 : Int32)).toNatClampNeg)), (.int (σ 1005 (x3 + (5 : Int32)).toNatClampNeg))] σ) (fun r1 τ1 => (if (x3 + (1 : Int32)) < 0 ∨ (τ1 1006 0).toNatClampNeg ≤ (x3 + (1 : Int32)).toNatClampNeg then none else (if (x3 + (2 : Int32)) < 0 ∨ (τ1 1006 0).toNatClampNeg ≤ (x3 + (2 : Int32)).toNatClampNeg then none else (if (x3 + (3 : Int32)) < 0 ∨ (τ1 1006 0).toNatClampNeg ≤ (x3 + (3 : Int32)).toNatClampNeg then none else (if (x3 + (4 : Int32)) < 0 ∨ (τ1 1006 0).toNatClampNeg ≤ (x3 + (4 : Int32)).toNatClampNeg then none else (if (x3 + (5 : Int32)) < 0 ∨ (τ1 1006 0).toNatClampNeg ≤ (x3 + (5 : Int32)).toNatClampNeg then none else jbi (jc 127 [(.ref 61), (.int (τ1 1005 (x3 + (1 : Int32)).toNatClampNeg)), (.int (τ1 1005 (x3 + (2 : Int32)).toNatClampNeg)), (.int (τ1 1005 (x3 + (3 : Int32)).toNatClampNeg)), (.int (τ1 1005 (x3 + (4 : Int32)).toNatClampNeg)), (.int (τ1 1005 (x3 + (5 : Int32)).toNatClampNeg))] τ1) (fun r2 τ2 => (if r1 = r2 then jv 201 18 [some (.ref 1005), some (.ref 0), some (.ref 61), some (.int (x3 + 6))] [] τ2 else some (some (.int (0 : Int32)), τ2)))))))))))))) := by
  refine (sv_ts jM201 c201_33 rfl (by decide +kernel) (z := 1221) (by decide +kernel) (t := 1254) (by decide +kernel)).trans ?_
  refine (sv_aload_n jM201 c201_1254 rfl rfl).trans ?_
  refine (sv_aload_n jM201 c201_1255 rfl rfl).trans ?_
  refine (sv_iload_n jM201 c201_1256 rfl rfl).trans ?_
  refine (sv_iconst jM201 c201_1257 rfl (v := 1) (by decide +kernel)).trans ?_
  refine (sv_iadd jM201 c201_1258 rfl).trans ?_
  refine (sv_iald jM201 c201_1259 rfl (ia_1005 _)).trans ?_
  refine jif _ rfl ?_
  refine (sv_aload_n jM201 c201_1260 rfl rfl).trans ?_
  refine (sv_iload_n jM201 c201_1261 rfl rfl).trans ?_
  refine (sv_iconst jM201 c201_1262 rfl (v := 2) (by decide +kernel)).trans ?_
  refine (sv_iadd jM201 c201_1263 rfl).trans ?_
  refine (sv_iald jM201 c201_1264 rfl (ia_1005 _)).trans ?_
  refine jif _ rfl ?_
  refine (sv_aload_n jM201 c201_1265 rfl rfl).trans ?_
  refine (sv_iload_n jM201 c201_1266 rfl rfl).trans ?_
  refine (sv_iconst jM201 c201_1267 rfl (v := 3) (by decide +kernel)).trans ?_
  refine (sv_iadd jM201 c201_1268 rfl).trans ?_
  refine (sv_iald jM201 c201_1269 rfl (ia_1005 _)).trans ?_
  refine jif _ rfl ?_
  refine (sv_aload_n jM201 c201_1270 rfl rfl).trans ?_
  refine (sv_iload_n jM201 c201_1271 rfl rfl).trans ?_
  refine (sv_iconst jM201 c201_1272 rfl (v := 4) (by decide +kernel)).trans ?_
  refine (sv_iadd jM201 c201_1273 rfl).trans ?_
  refine (sv_iald jM201 c201_1274 rfl (ia_1005 _)).trans ?_
  refine jif _ rfl ?_
  refine (sv_aload_n jM201 c201_1275 rfl rfl).trans ?_
  refine (sv_iload_n jM201 c201_1276 rfl rfl).trans ?_
  refine (sv_iconst jM201 c201_1277 rfl (v := 5) (by decide +kernel)).trans ?_
  refine (sv_iadd jM201 c201_1278 rfl).trans ?_
  refine (sv_iald jM201 c201_1279 rfl (ia_1005 _)).trans ?_
  refine jif _ rfl ?_
  refine (sv_callvi (pl := 0) jM201 c201_1280 rfl (jm_call_v (a := 0) (as := [(.int (σ 1005 (x3 + (1 : Int32)).toNatClampNeg)), (.int (σ 1005 (x3 + (2 : Int32)).toNatClampNeg)), (.int (σ 1005 (x3 + (3 : Int32)).toNatClampNeg)), (.int (σ 1005 (x3 + (4 : Int32)).toNatClampNeg)), (.int (σ 1005 (x3 + (5 : Int32)).toNatClampNeg))]) (rest := []) lm_10_137 rfl jM109 rfl rfl rfl rfl rfl) jM109 rfl (Or.inl rfl)).trans ?_
  refine jbi_c (fun r1 τ1 => ?_)
  refine (sv_aload_n jM201 c201_1283 rfl rfl).trans ?_
  refine (sv_aload_n jM201 c201_1284 rfl rfl).trans ?_
  refine (sv_iload_n jM201 c201_1285 rfl rfl).trans ?_
  refine (sv_iconst jM201 c201_1286 rfl (v := 1) (by decide +kernel)).trans ?_
  refine (sv_iadd jM201 c201_1287 rfl).trans ?_
  refine (sv_iald jM201 c201_1288 rfl (ia_1005 _)).trans ?_
  refine jif _ rfl ?_
  refine (sv_aload_n jM201 c201_1289 rfl rfl).trans ?_
  refine (sv_iload_n jM201 c201_1290 rfl rfl).trans ?_
  refine (sv_iconst jM201 c201_1291 rfl (v := 2) (by decide +kernel)).trans ?_
  refine (sv_iadd jM201 c201_1292 rfl).trans ?_
  refine (sv_iald jM201 c201_1293 rfl (ia_1005 _)).trans ?_
  refine jif _ rfl ?_
  refine (sv_aload_n jM201 c201_1294 rfl rfl).trans ?_
  refine (sv_iload_n jM201 c201_1295 rfl rfl).trans ?_
  refine (sv_iconst jM201 c201_1296 rfl (v := 3) (by decide +kernel)).trans ?_
  refine (sv_iadd jM201 c201_1297 rfl).trans ?_
  refine (sv_iald jM201 c201_1298 rfl (ia_1005 _)).trans ?_
  refine jif _ rfl ?_
  refine (sv_aload_n jM201 c201_1299 rfl rfl).trans ?_
  refine (sv_iload_n jM201 c201_1300 rfl rfl).trans ?_
  refine (sv_iconst jM201 c201_1301 rfl (v := 4) (by decide +kernel)).trans ?_
  refine (sv_iadd jM201 c201_1302 rfl).trans ?_
  refine (sv_iald jM201 c201_1303 rfl (ia_1005 _)).trans ?_
  refine jif _ rfl ?_
  refine (sv_aload_n jM201 c201_1304 rfl rfl).trans ?_
  refine (sv_iload_n jM201 c201_1305 rfl rfl).trans ?_
  refine (sv_iconst jM201 c201_1306 rfl (v := 5) (by decide +kernel)).trans ?_
  refine (sv_iadd jM201 c201_1307 rfl).trans ?_
  refine (sv_iald jM201 c201_1308 rfl (ia_1005 _)).trans ?_
  refine jif _ rfl ?_
  refine (sv_callvi (pl := 0) jM201 c201_1309 rfl (jm_call_v (a := 61) (as := [(.int (τ1 1005 (x3 + (1 : Int32)).toNatClampNeg)), (.int (τ1 1005 (x3 + (2 : Int32)).toNatClampNeg)), (.int (τ1 1005 (x3 + (3 : Int32)).toNatClampNeg)), (.int (τ1 1005 (x3 + (4 : Int32)).toNatClampNeg)), (.int (τ1 1005 (x3 + (5 : Int32)).toNatClampNeg))]) (rest := [(.int r1)]) lm_10_140 rfl jM127 rfl rfl rfl rfl rfl) jM127 rfl (Or.inl rfl)).trans ?_
  refine jbi_c (fun r2 τ2 => ?_)
  refine (sv_icmp_eq jM201 c201_1312 rfl (t := 1387) (by decide +kernel)).trans ?_
  refine jif _ ?_ ?_
  ·
    refine (sv_iinc (ls1 := [some (.ref 1005), some (.ref 0), some (.ref 61), some (.int (x3 + 6))]) jM201 c201_1387 rfl rfl (v := 6) (by decide +kernel) rfl).trans ?_
    refine (sv_goto jM201 c201_1390 rfl (t := 18) (by decide +kernel)).trans ?_
    rfl
  ·
    refine (sv_iconst jM201 c201_1315 rfl (v := 0) (by decide +kernel)).trans ?_
    exact sv_zret jM201 c201_1316 rfl rfl (by decide +kernel)
set_option maxRecDepth 20000 in
set_option maxHeartbeats 4000000 in
theorem Law_law_S33_30 (x3 : Int32) (σ : jm_S) : jv 201 33 [some (.ref 1005), some (.ref 0), some (.ref 61), some (.int x3)] [(.int (30 : Int32))] σ = (if (x3 + (1 : Int32)) < 0 ∨ (σ 1006 0).toNatClampNeg ≤ (x3 + (1 : Int32)).toNatClampNeg then none else (if (x3 + (2 : Int32)) < 0 ∨ (σ 1006 0).toNatClampNeg ≤ (x3 + (2 : Int32)).toNatClampNeg then none else jbi (jc 111 [(.ref 0), (.int (σ 1005 (x3 + (1 : Int32)).toNatClampNeg)), (.int (σ 1005 (x3 + (2 : Int32)).toNatClampNeg))] σ) (fun r1 τ1 => (if (x3 + (1 : Int32)) < 0 ∨ (τ1 1006 0).toNatClampNeg ≤ (x3 + (1 : Int32)).toNatClampNeg then none else (if (x3 + (2 : Int32)) < 0 ∨ (τ1 1006 0).toNatClampNeg ≤ (x3 + (2 : Int32)).toNatClampNeg then none else jbi (jc 198 [(.ref 61), (.int (τ1 1005 (x3 + (1 : Int32)).toNatClampNeg)), (.int (τ1 1005 (x3 + (2 : Int32)).toNatClampNeg))] τ1) (fun r2 τ2 => (if r1 = r2 then jv 201 18 [some (.ref 1005), some (.ref 0), some (.ref 61), some (.int (x3 + 6))] [] τ2 else some (some (.int (0 : Int32)), τ2)))))))) := by
  refine (sv_ts jM201 c201_33 rfl (by decide +kernel) (z := 1284) (by decide +kernel) (t := 1317) (by decide +kernel)).trans ?_
  refine (sv_aload_n jM201 c201_1317 rfl rfl).trans ?_
  refine (sv_aload_n jM201 c201_1318 rfl rfl).trans ?_
  refine (sv_iload_n jM201 c201_1319 rfl rfl).trans ?_
  refine (sv_iconst jM201 c201_1320 rfl (v := 1) (by decide +kernel)).trans ?_
  refine (sv_iadd jM201 c201_1321 rfl).trans ?_
  refine (sv_iald jM201 c201_1322 rfl (ia_1005 _)).trans ?_
  refine jif _ rfl ?_
  refine (sv_aload_n jM201 c201_1323 rfl rfl).trans ?_
  refine (sv_iload_n jM201 c201_1324 rfl rfl).trans ?_
  refine (sv_iconst jM201 c201_1325 rfl (v := 2) (by decide +kernel)).trans ?_
  refine (sv_iadd jM201 c201_1326 rfl).trans ?_
  refine (sv_iald jM201 c201_1327 rfl (ia_1005 _)).trans ?_
  refine jif _ rfl ?_
  refine (sv_callvi (pl := 0) jM201 c201_1328 rfl (jm_call_v (a := 0) (as := [(.int (σ 1005 (x3 + (1 : Int32)).toNatClampNeg)), (.int (σ 1005 (x3 + (2 : Int32)).toNatClampNeg))]) (rest := []) lm_10_141 rfl jM111 rfl rfl rfl rfl rfl) jM111 rfl (Or.inl rfl)).trans ?_
  refine jbi_c (fun r1 τ1 => ?_)
  refine (sv_aload_n jM201 c201_1331 rfl rfl).trans ?_
  refine (sv_aload_n jM201 c201_1332 rfl rfl).trans ?_
  refine (sv_iload_n jM201 c201_1333 rfl rfl).trans ?_
  refine (sv_iconst jM201 c201_1334 rfl (v := 1) (by decide +kernel)).trans ?_
  refine (sv_iadd jM201 c201_1335 rfl).trans ?_
  refine (sv_iald jM201 c201_1336 rfl (ia_1005 _)).trans ?_
  refine jif _ rfl ?_
  refine (sv_aload_n jM201 c201_1337 rfl rfl).trans ?_
  refine (sv_iload_n jM201 c201_1338 rfl rfl).trans ?_
  refine (sv_iconst jM201 c201_1339 rfl (v := 2) (by decide +kernel)).trans ?_
  refine (sv_iadd jM201 c201_1340 rfl).trans ?_
  refine (sv_iald jM201 c201_1341 rfl (ia_1005 _)).trans ?_
  refine jif _ rfl ?_
  refine (sv_callvi (pl := 0) jM201 c201_1342 rfl (jm_call_v (a := 61) (as := [(.int (τ1 1005 (x3 + (1 : Int32)).toNatClampNeg)), (.int (τ1 1005 (x3 + (2 : Int32)).toNatClampNeg))]) (rest := [(.int r1)]) lm_10_144 rfl jM198 rfl rfl rfl rfl rfl) jM198 rfl (Or.inl rfl)).trans ?_
  refine jbi_c (fun r2 τ2 => ?_)
  refine (sv_icmp_eq jM201 c201_1345 rfl (t := 1387) (by decide +kernel)).trans ?_
  refine jif _ ?_ ?_
  ·
    refine (sv_iinc (ls1 := [some (.ref 1005), some (.ref 0), some (.ref 61), some (.int (x3 + 6))]) jM201 c201_1387 rfl rfl (v := 6) (by decide +kernel) rfl).trans ?_
    refine (sv_goto jM201 c201_1390 rfl (t := 18) (by decide +kernel)).trans ?_
    rfl
  ·
    refine (sv_iconst jM201 c201_1348 rfl (v := 0) (by decide +kernel)).trans ?_
    exact sv_zret jM201 c201_1349 rfl rfl (by decide +kernel)
set_option maxRecDepth 20000 in
set_option maxHeartbeats 4000000 in
theorem Law_law_S33_31 (x3 : Int32) (σ : jm_S) : jv 201 33 [some (.ref 1005), some (.ref 0), some (.ref 61), some (.int x3)] [(.int (31 : Int32))] σ = (if (x3 + (1 : Int32)) < 0 ∨ (σ 1006 0).toNatClampNeg ≤ (x3 + (1 : Int32)).toNatClampNeg then none else jbi (jc 112 [(.ref 0), (.int (σ 1005 (x3 + (1 : Int32)).toNatClampNeg))] σ) (fun r1 τ1 => (if (x3 + (1 : Int32)) < 0 ∨ (τ1 1006 0).toNatClampNeg ≤ (x3 + (1 : Int32)).toNatClampNeg then none else jbi (jc 199 [(.ref 61), (.int (τ1 1005 (x3 + (1 : Int32)).toNatClampNeg))] τ1) (fun r2 τ2 => (if r1 = r2 then jv 201 18 [some (.ref 1005), some (.ref 0), some (.ref 61), some (.int (x3 + 6))] [] τ2 else some (some (.int (0 : Int32)), τ2)))))) := by
  refine (sv_ts jM201 c201_33 rfl (by decide +kernel) (z := 1317) (by decide +kernel) (t := 1350) (by decide +kernel)).trans ?_
  refine (sv_aload_n jM201 c201_1350 rfl rfl).trans ?_
  refine (sv_aload_n jM201 c201_1351 rfl rfl).trans ?_
  refine (sv_iload_n jM201 c201_1352 rfl rfl).trans ?_
  refine (sv_iconst jM201 c201_1353 rfl (v := 1) (by decide +kernel)).trans ?_
  refine (sv_iadd jM201 c201_1354 rfl).trans ?_
  refine (sv_iald jM201 c201_1355 rfl (ia_1005 _)).trans ?_
  refine jif _ rfl ?_
  refine (sv_callvi (pl := 0) jM201 c201_1356 rfl (jm_call_v (a := 0) (as := [(.int (σ 1005 (x3 + (1 : Int32)).toNatClampNeg))]) (rest := []) lm_10_145 rfl jM112 rfl rfl rfl rfl rfl) jM112 rfl (Or.inl rfl)).trans ?_
  refine jbi_c (fun r1 τ1 => ?_)
  refine (sv_aload_n jM201 c201_1359 rfl rfl).trans ?_
  refine (sv_aload_n jM201 c201_1360 rfl rfl).trans ?_
  refine (sv_iload_n jM201 c201_1361 rfl rfl).trans ?_
  refine (sv_iconst jM201 c201_1362 rfl (v := 1) (by decide +kernel)).trans ?_
  refine (sv_iadd jM201 c201_1363 rfl).trans ?_
  refine (sv_iald jM201 c201_1364 rfl (ia_1005 _)).trans ?_
  refine jif _ rfl ?_
  refine (sv_callvi (pl := 0) jM201 c201_1365 rfl (jm_call_v (a := 61) (as := [(.int (τ1 1005 (x3 + (1 : Int32)).toNatClampNeg))]) (rest := [(.int r1)]) lm_10_148 rfl jM199 rfl rfl rfl rfl rfl) jM199 rfl (Or.inl rfl)).trans ?_
  refine jbi_c (fun r2 τ2 => ?_)
  refine (sv_icmp_eq jM201 c201_1368 rfl (t := 1387) (by decide +kernel)).trans ?_
  refine jif _ ?_ ?_
  ·
    refine (sv_iinc (ls1 := [some (.ref 1005), some (.ref 0), some (.ref 61), some (.int (x3 + 6))]) jM201 c201_1387 rfl rfl (v := 6) (by decide +kernel) rfl).trans ?_
    refine (sv_goto jM201 c201_1390 rfl (t := 18) (by decide +kernel)).trans ?_
    rfl
  ·
    refine (sv_iconst jM201 c201_1371 rfl (v := 0) (by decide +kernel)).trans ?_
    exact sv_zret jM201 c201_1372 rfl rfl (by decide +kernel)
set_option maxRecDepth 20000 in
set_option maxHeartbeats 4000000 in
theorem Law_law_S33_32 (x3 : Int32) (σ : jm_S) : jv 201 33 [some (.ref 1005), some (.ref 0), some (.ref 61), some (.int x3)] [(.int (32 : Int32))] σ = jbl (jc 114 [(.ref 0)] σ) (fun r1 τ1 => jbl (jc 200 [(.ref 61)] τ1) (fun r2 τ2 => (if (lg_cmp r1 r2) = 0 then jv 201 18 [some (.ref 1005), some (.ref 0), some (.ref 61), some (.int (x3 + 6))] [] τ2 else some (some (.int (0 : Int32)), τ2)))) := by
  refine (sv_ts jM201 c201_33 rfl (by decide +kernel) (z := 1340) (by decide +kernel) (t := 1373) (by decide +kernel)).trans ?_
  refine (sv_aload_n jM201 c201_1373 rfl rfl).trans ?_
  refine (sv_callvl (pl := 0) jM201 c201_1374 rfl (jm_call_v (a := 0) (as := []) (rest := []) lm_10_149 rfl jM114 rfl rfl rfl rfl rfl) jM114 rfl rfl).trans ?_
  refine jbl_c (fun r1 τ1 => ?_)
  refine (sv_aload_n jM201 c201_1377 rfl rfl).trans ?_
  refine (sv_callvl (pl := 0) jM201 c201_1378 rfl (jm_call_v (a := 61) (as := []) (rest := [(.long r1)]) lm_10_153 rfl jM200 rfl rfl rfl rfl rfl) jM200 rfl rfl).trans ?_
  refine jbl_c (fun r2 τ2 => ?_)
  refine (sv_lcmp jM201 c201_1381 rfl).trans ?_
  refine (sv_if_eq jM201 c201_1382 rfl (t := 1387) (by decide +kernel)).trans ?_
  refine jif _ ?_ ?_
  ·
    refine (sv_iinc (ls1 := [some (.ref 1005), some (.ref 0), some (.ref 61), some (.int (x3 + 6))]) jM201 c201_1387 rfl rfl (v := 6) (by decide +kernel) rfl).trans ?_
    refine (sv_goto jM201 c201_1390 rfl (t := 18) (by decide +kernel)).trans ?_
    rfl
  ·
    refine (sv_iconst jM201 c201_1385 rfl (v := 0) (by decide +kernel)).trans ?_
    exact sv_zret jM201 c201_1386 rfl rfl (by decide +kernel)
set_option maxRecDepth 20000 in
set_option maxHeartbeats 4000000 in
theorem Law_law_S33_o (x3 : Int32) (y0 : Int32) (σ : jm_S) (hx : y0.toInt < 0 ∨ 32 < y0.toInt) : jv 201 33 [some (.ref 1005), some (.ref 0), some (.ref 61), some (.int x3)] [(.int y0)] σ = jv 201 18 [some (.ref 1005), some (.ref 0), some (.ref 61), some (.int (x3 + 6))] [] σ := by
  refine (sv_tso jM201 c201_33 rfl (t := 1387) (by decide +kernel) hx).trans ?_
  refine (sv_iinc (ls1 := [some (.ref 1005), some (.ref 0), some (.ref 61), some (.int (x3 + 6))]) jM201 c201_1387 rfl rfl (v := 6) (by decide +kernel) rfl).trans ?_
  refine (sv_goto jM201 c201_1390 rfl (t := 18) (by decide +kernel)).trans ?_
  rfl
