set_option maxRecDepth 20000 in
set_option maxHeartbeats 4000000 in
theorem okl_L_law_L18 (V : EV) {l1 : Nat} {l2 : Nat} {CL SL : Nat} (hCL : CL ≤ mM M_L_law) (hSL : SL ≤ mS M_L_law) (n : Nat) : ∀ {cl sl : Nat} {h : HA} {l3 : Int32} {r : Int32} {hR : HA} , (H : L_law_L18 V l1 l2 n h l3 = some (r, hR)) → (hcl : cl + n * 47 ≤ CL) → (hsl : sl + n * 4165 ≤ SL) → WP V M_L_law 18 [(0, .ref (vE V 9)), (1, .ref l1), (2, .ref l2), (3, .int l3)] [] h cl sl (some (.int r)) hR := by
  induction n with
  | zero =>
    intro cl sl h l3 r hR H hcl hsl
    rw [L_law_L18] at H
    cases H
  | succ n ih =>
    intro cl sl h l3 r hR H hcl hsl
    rw [L_law_L18] at H
    refine WP.iload_n d_L_law_18 3 rfl ?_
    refine WP.aload_n d_L_law_19 0 rfl ?_
    refine WP.sclen d_L_law_20 ?_
    refine WP.bipush d_L_law_21 kb_6 ?_
    refine WP.isub d_L_law_23 ?_
    rcases oj H with ⟨hc, H⟩ | ⟨hc, H⟩
    · refine WP.icmp_gt_t d_L_law_24 hc ?_
      refine WP.iconst d_L_law_1960 ki_1 ?_
      cases H
      exact WP.ireturn d_L_law_1961 rfl rfl (by omega) (by omega)
    · refine WP.icmp_gt_f d_L_law_24 hc ?_
      refine WP.aload_n d_L_law_27 0 rfl ?_
      refine WP.iload_n d_L_law_28 3 rfl ?_
      obtain ⟨x7, ex7, H⟩ := ob H
      refine WP.scl d_L_law_29 ex7 ?_
      refine WP.bipush d_L_law_30 kb_63 ?_
      refine WP.iand d_L_law_32 ?_
      rcases oj H with ⟨hq0, H⟩ | ⟨hq0, H⟩
      · refine WP.tsw (t := 200) 0 d_L_law_33 (by rw [hq0]; decide) (by decide) rfl (by decide) ?_
        refine WP.aload_n d_L_law_200 1 rfl ?_
        refine WP.aload_n d_L_law_201 0 rfl ?_
        refine WP.iload_n d_L_law_202 3 rfl ?_
        refine WP.iconst d_L_law_203 ki_1 ?_
        refine WP.iadd d_L_law_204 ?_
        obtain ⟨x8, ex8, H⟩ := ob H
        refine WP.scl d_L_law_205 ex8 ?_
        refine WP.aload_n d_L_law_206 0 rfl ?_
        refine WP.iload_n d_L_law_207 3 rfl ?_
        refine WP.iconst d_L_law_208 ki_2 ?_
        refine WP.iadd d_L_law_209 ?_
        obtain ⟨x9, ex9, H⟩ := ob H
        refine WP.scl d_L_law_210 ex9 ?_
        refine WP.aload_n d_L_law_211 0 rfl ?_
        refine WP.iload_n d_L_law_212 3 rfl ?_
        refine WP.iconst d_L_law_213 ki_3 ?_
        refine WP.iadd d_L_law_214 ?_
        obtain ⟨x10, ex10, H⟩ := ob H
        refine WP.scl d_L_law_215 ex10 ?_
        refine WP.aload_n d_L_law_216 0 rfl ?_
        refine WP.iload_n d_L_law_217 3 rfl ?_
        refine WP.iconst d_L_law_218 ki_4 ?_
        refine WP.iadd d_L_law_219 ?_
        obtain ⟨x11, ex11, H⟩ := ob H
        refine WP.scl d_L_law_220 ex11 ?_
        refine WP.aload_n d_L_law_221 0 rfl ?_
        refine WP.iload_n d_L_law_222 3 rfl ?_
        refine WP.iconst d_L_law_223 ki_5 ?_
        refine WP.iadd d_L_law_224 ?_
        obtain ⟨x12, ex12, H⟩ := ob H
        refine WP.scl d_L_law_225 ex12 ?_
        obtain ⟨⟨x15, h14⟩, e13, H⟩ := ob H
        refine WP.cV (c := 8) (As := [.int x8, .int x9, .int x10, .int x11, .int x12]) (st := []) (st9 := [.int x15]) (cl9 := cl) (sl9 := sl) d_L_law_226 (ok_X7_feed V e13) tv_X7_feed ti_X7_feed ts_X7_feed lk_L_13 ⟨Nat.le_of_ble_eq_true rfl, Nat.le_of_ble_eq_true rfl, (by have := mM_X7_feed; have := mS_X7_feed; omega), (by have := mM_X7_feed; have := mS_X7_feed; omega)⟩ kc_X7_feed (kd_X7_feed e13) rfl rfl (Nat.le_of_ble_eq_true rfl) rfl rfl rfl ?_
        refine WP.aload_n d_L_law_229 2 rfl ?_
        refine WP.aload_n d_L_law_230 0 rfl ?_
        refine WP.iload_n d_L_law_231 3 rfl ?_
        refine WP.iconst d_L_law_232 ki_1 ?_
        refine WP.iadd d_L_law_233 ?_
        obtain ⟨x16, ex16, H⟩ := ob H
        refine WP.scl d_L_law_234 ex16 ?_
        refine WP.aload_n d_L_law_235 0 rfl ?_
        refine WP.iload_n d_L_law_236 3 rfl ?_
        refine WP.iconst d_L_law_237 ki_2 ?_
        refine WP.iadd d_L_law_238 ?_
        obtain ⟨x17, ex17, H⟩ := ob H
        refine WP.scl d_L_law_239 ex17 ?_
        refine WP.aload_n d_L_law_240 0 rfl ?_
        refine WP.iload_n d_L_law_241 3 rfl ?_
        refine WP.iconst d_L_law_242 ki_3 ?_
        refine WP.iadd d_L_law_243 ?_
        obtain ⟨x18, ex18, H⟩ := ob H
        refine WP.scl d_L_law_244 ex18 ?_
        refine WP.aload_n d_L_law_245 0 rfl ?_
        refine WP.iload_n d_L_law_246 3 rfl ?_
        refine WP.iconst d_L_law_247 ki_4 ?_
        refine WP.iadd d_L_law_248 ?_
        obtain ⟨x19, ex19, H⟩ := ob H
        refine WP.scl d_L_law_249 ex19 ?_
        refine WP.aload_n d_L_law_250 0 rfl ?_
        refine WP.iload_n d_L_law_251 3 rfl ?_
        refine WP.iconst d_L_law_252 ki_5 ?_
        refine WP.iadd d_L_law_253 ?_
        obtain ⟨x20, ex20, H⟩ := ob H
        refine WP.scl d_L_law_254 ex20 ?_
        obtain ⟨⟨x23, h22⟩, e21, H⟩ := ob H
        refine WP.cV (c := 9) (As := [.int x16, .int x17, .int x18, .int x19, .int x20]) (st := [.int x15]) (st9 := [.int x23, .int x15]) (cl9 := cl) (sl9 := sl) d_L_law_255 (ok_X8_feed V e21) tv_X8_feed ti_X8_feed ts_X8_feed lk_L_17 ⟨Nat.le_of_ble_eq_true rfl, Nat.le_of_ble_eq_true rfl, (by have := mM_X8_feed; have := mS_X8_feed; omega), (by have := mM_X8_feed; have := mS_X8_feed; omega)⟩ kc_X8_feed (kd_X8_feed e21) rfl rfl (Nat.le_of_ble_eq_true rfl) rfl rfl rfl ?_
        rcases oj H with ⟨hc, H⟩ | ⟨hc, H⟩
        · refine WP.icmp_eq_t d_L_law_258 hc ?_
          refine WP.iinc (lv9 := [(3, .int (l3 + 6)), (0, .ref (vE V 9)), (1, .ref l1), (2, .ref l2)]) d_L_law_1954 3 rfl ki_6 (Nat.le_of_ble_eq_true rfl) rfl ?_
          refine WP.goto d_L_law_1957 ?_
          refine WP.sub [1, 2, 3, 0] (lv' := [(0, .ref (vE V 9)), (1, .ref l1), (2, .ref l2), (3, .int (l3 + 6))]) rfl ?_
          refine WP.widen (cl' := cl + 47) (sl' := sl + 4165) (by omega) (by omega) ?_
          exact ih H (by omega) (by omega)
        · refine WP.icmp_eq_f d_L_law_258 hc ?_
          refine WP.iconst d_L_law_261 ki_0 ?_
          cases H
          exact WP.ireturn d_L_law_262 rfl rfl (by omega) (by omega)
      · skip
        rcases oj H with ⟨hq1, H⟩ | ⟨hq1, H⟩
        · refine WP.tsw (t := 263) 1 d_L_law_33 (by rw [hq1]; decide) (by decide) rfl (by decide) ?_
          refine WP.aload_n d_L_law_263 1 rfl ?_
          refine WP.aload_n d_L_law_264 0 rfl ?_
          refine WP.iload_n d_L_law_265 3 rfl ?_
          refine WP.iconst d_L_law_266 ki_1 ?_
          refine WP.iadd d_L_law_267 ?_
          obtain ⟨x24, ex24, H⟩ := ob H
          refine WP.scl d_L_law_268 ex24 ?_
          obtain ⟨⟨x27, h26⟩, e25, H⟩ := ob H
          refine WP.cV (c := 8) (As := [.int x24]) (st := []) (st9 := [.int x27]) (cl9 := cl) (sl9 := sl) d_L_law_269 (ok_X7_end V e25) tv_X7_end ti_X7_end ts_X7_end lk_L_18 ⟨Nat.le_of_ble_eq_true rfl, Nat.le_of_ble_eq_true rfl, (by have := mM_X7_end; have := mS_X7_end; omega), (by have := mM_X7_end; have := mS_X7_end; omega)⟩ kc_X7_end (kd_X7_end e25) rfl rfl (Nat.le_of_ble_eq_true rfl) rfl rfl rfl ?_
          refine WP.aload_n d_L_law_272 2 rfl ?_
          refine WP.aload_n d_L_law_273 0 rfl ?_
          refine WP.iload_n d_L_law_274 3 rfl ?_
          refine WP.iconst d_L_law_275 ki_1 ?_
          refine WP.iadd d_L_law_276 ?_
          obtain ⟨x28, ex28, H⟩ := ob H
          refine WP.scl d_L_law_277 ex28 ?_
          obtain ⟨⟨x31, h30⟩, e29, H⟩ := ob H
          refine WP.cV (c := 9) (As := [.int x28]) (st := [.int x27]) (st9 := [.int x31, .int x27]) (cl9 := cl) (sl9 := sl) d_L_law_278 (ok_X8_end V e29) tv_X8_end ti_X8_end ts_X8_end lk_L_22 ⟨Nat.le_of_ble_eq_true rfl, Nat.le_of_ble_eq_true rfl, (by have := mM_X8_end; have := mS_X8_end; omega), (by have := mM_X8_end; have := mS_X8_end; omega)⟩ kc_X8_end (kd_X8_end e29) rfl rfl (Nat.le_of_ble_eq_true rfl) rfl rfl rfl ?_
          rcases oj H with ⟨hc, H⟩ | ⟨hc, H⟩
          · refine WP.icmp_eq_t d_L_law_281 hc ?_
            refine WP.iinc (lv9 := [(3, .int (l3 + 6)), (0, .ref (vE V 9)), (1, .ref l1), (2, .ref l2)]) d_L_law_1954 3 rfl ki_6 (Nat.le_of_ble_eq_true rfl) rfl ?_
            refine WP.goto d_L_law_1957 ?_
            refine WP.sub [1, 2, 3, 0] (lv' := [(0, .ref (vE V 9)), (1, .ref l1), (2, .ref l2), (3, .int (l3 + 6))]) rfl ?_
            refine WP.widen (cl' := cl + 47) (sl' := sl + 4165) (by omega) (by omega) ?_
            exact ih H (by omega) (by omega)
          · refine WP.icmp_eq_f d_L_law_281 hc ?_
            refine WP.iconst d_L_law_284 ki_0 ?_
            cases H
            exact WP.ireturn d_L_law_285 rfl rfl (by omega) (by omega)
        · skip
          rcases oj H with ⟨hq2, H⟩ | ⟨hq2, H⟩
          · refine WP.tsw (t := 286) 2 d_L_law_33 (by rw [hq2]; decide) (by decide) rfl (by decide) ?_
            refine WP.aload_n d_L_law_286 1 rfl ?_
            refine WP.aload_n d_L_law_287 0 rfl ?_
            refine WP.iload_n d_L_law_288 3 rfl ?_
            refine WP.iconst d_L_law_289 ki_1 ?_
            refine WP.iadd d_L_law_290 ?_
            obtain ⟨x32, ex32, H⟩ := ob H
            refine WP.scl d_L_law_291 ex32 ?_
            refine WP.aload_n d_L_law_292 0 rfl ?_
            refine WP.iload_n d_L_law_293 3 rfl ?_
            refine WP.iconst d_L_law_294 ki_2 ?_
            refine WP.iadd d_L_law_295 ?_
            obtain ⟨x33, ex33, H⟩ := ob H
            refine WP.scl d_L_law_296 ex33 ?_
            obtain ⟨⟨x36, h35⟩, e34, H⟩ := ob H
            refine WP.cV (c := 8) (As := [.int x32, .int x33]) (st := []) (st9 := [.int x36]) (cl9 := cl) (sl9 := sl) d_L_law_297 (ok_X7_text V e34) tv_X7_text ti_X7_text ts_X7_text lk_L_23 ⟨Nat.le_of_ble_eq_true rfl, Nat.le_of_ble_eq_true rfl, (by have := mM_X7_text; have := mS_X7_text; omega), (by have := mM_X7_text; have := mS_X7_text; omega)⟩ kc_X7_text (kd_X7_text e34) rfl rfl (Nat.le_of_ble_eq_true rfl) rfl rfl rfl ?_
            refine WP.aload_n d_L_law_300 2 rfl ?_
            refine WP.aload_n d_L_law_301 0 rfl ?_
            refine WP.iload_n d_L_law_302 3 rfl ?_
            refine WP.iconst d_L_law_303 ki_1 ?_
            refine WP.iadd d_L_law_304 ?_
            obtain ⟨x37, ex37, H⟩ := ob H
            refine WP.scl d_L_law_305 ex37 ?_
            refine WP.aload_n d_L_law_306 0 rfl ?_
            refine WP.iload_n d_L_law_307 3 rfl ?_
            refine WP.iconst d_L_law_308 ki_2 ?_
            refine WP.iadd d_L_law_309 ?_
            obtain ⟨x38, ex38, H⟩ := ob H
            refine WP.scl d_L_law_310 ex38 ?_
            obtain ⟨⟨x41, h40⟩, e39, H⟩ := ob H
            refine WP.cV (c := 9) (As := [.int x37, .int x38]) (st := [.int x36]) (st9 := [.int x41, .int x36]) (cl9 := cl) (sl9 := sl) d_L_law_311 (ok_X8_text V e39) tv_X8_text ti_X8_text ts_X8_text lk_L_27 ⟨Nat.le_of_ble_eq_true rfl, Nat.le_of_ble_eq_true rfl, (by have := mM_X8_text; have := mS_X8_text; omega), (by have := mM_X8_text; have := mS_X8_text; omega)⟩ kc_X8_text (kd_X8_text e39) rfl rfl (Nat.le_of_ble_eq_true rfl) rfl rfl rfl ?_
            rcases oj H with ⟨hc, H⟩ | ⟨hc, H⟩
            · refine WP.icmp_eq_t d_L_law_314 hc ?_
              refine WP.iinc (lv9 := [(3, .int (l3 + 6)), (0, .ref (vE V 9)), (1, .ref l1), (2, .ref l2)]) d_L_law_1954 3 rfl ki_6 (Nat.le_of_ble_eq_true rfl) rfl ?_
              refine WP.goto d_L_law_1957 ?_
              refine WP.sub [1, 2, 3, 0] (lv' := [(0, .ref (vE V 9)), (1, .ref l1), (2, .ref l2), (3, .int (l3 + 6))]) rfl ?_
              refine WP.widen (cl' := cl + 47) (sl' := sl + 4165) (by omega) (by omega) ?_
              exact ih H (by omega) (by omega)
            · refine WP.icmp_eq_f d_L_law_314 hc ?_
              refine WP.iconst d_L_law_317 ki_0 ?_
              cases H
              exact WP.ireturn d_L_law_318 rfl rfl (by omega) (by omega)
          · skip
            rcases oj H with ⟨hq3, H⟩ | ⟨hq3, H⟩
            · refine WP.tsw (t := 319) 3 d_L_law_33 (by rw [hq3]; decide) (by decide) rfl (by decide) ?_
              refine WP.aload_n d_L_law_319 1 rfl ?_
              refine WP.aload_n d_L_law_320 0 rfl ?_
              refine WP.iload_n d_L_law_321 3 rfl ?_
              refine WP.iconst d_L_law_322 ki_1 ?_
              refine WP.iadd d_L_law_323 ?_
              obtain ⟨x42, ex42, H⟩ := ob H
              refine WP.scl d_L_law_324 ex42 ?_
              obtain ⟨x44, e43, H⟩ := ob H
              refine WP.cV (c := 8) (As := [.int x42]) (st := []) (st9 := [.int x44]) (cl9 := cl) (sl9 := sl) d_L_law_325 (ok_X7_fault V e43) tv_X7_fault ti_X7_fault ts_X7_fault lk_L_28 ⟨Nat.le_of_ble_eq_true rfl, Nat.le_of_ble_eq_true rfl, (by have := mM_X7_fault; have := mS_X7_fault; omega), (by have := mM_X7_fault; have := mS_X7_fault; omega)⟩ kc_X7_fault (kd_X7_fault e43) rfl rfl (Nat.le_of_ble_eq_true rfl) rfl rfl rfl ?_
              refine WP.aload_n d_L_law_328 2 rfl ?_
              refine WP.aload_n d_L_law_329 0 rfl ?_
              refine WP.iload_n d_L_law_330 3 rfl ?_
              refine WP.iconst d_L_law_331 ki_1 ?_
              refine WP.iadd d_L_law_332 ?_
              obtain ⟨x45, ex45, H⟩ := ob H
              refine WP.scl d_L_law_333 ex45 ?_
              obtain ⟨⟨x48, h47⟩, e46, H⟩ := ob H
              refine WP.cV (c := 9) (As := [.int x45]) (st := [.int x44]) (st9 := [.int x48, .int x44]) (cl9 := cl) (sl9 := sl) d_L_law_334 (ok_X8_fault V e46) tv_X8_fault ti_X8_fault ts_X8_fault lk_L_31 ⟨Nat.le_of_ble_eq_true rfl, Nat.le_of_ble_eq_true rfl, (by have := mM_X8_fault; have := mS_X8_fault; omega), (by have := mM_X8_fault; have := mS_X8_fault; omega)⟩ kc_X8_fault (kd_X8_fault e46) rfl rfl (Nat.le_of_ble_eq_true rfl) rfl rfl rfl ?_
              rcases oj H with ⟨hc, H⟩ | ⟨hc, H⟩
              · refine WP.icmp_eq_t d_L_law_337 hc ?_
                refine WP.iinc (lv9 := [(3, .int (l3 + 6)), (0, .ref (vE V 9)), (1, .ref l1), (2, .ref l2)]) d_L_law_1954 3 rfl ki_6 (Nat.le_of_ble_eq_true rfl) rfl ?_
                refine WP.goto d_L_law_1957 ?_
                refine WP.sub [1, 2, 3, 0] (lv' := [(0, .ref (vE V 9)), (1, .ref l1), (2, .ref l2), (3, .int (l3 + 6))]) rfl ?_
                refine WP.widen (cl' := cl + 47) (sl' := sl + 4165) (by omega) (by omega) ?_
                exact ih H (by omega) (by omega)
              · refine WP.icmp_eq_f d_L_law_337 hc ?_
                refine WP.iconst d_L_law_340 ki_0 ?_
                cases H
                exact WP.ireturn d_L_law_341 rfl rfl (by omega) (by omega)
            · skip
              rcases oj H with ⟨hq4, H⟩ | ⟨hq4, H⟩
              · refine WP.tsw (t := 342) 4 d_L_law_33 (by rw [hq4]; decide) (by decide) rfl (by decide) ?_
                refine WP.aload_n d_L_law_342 1 rfl ?_
                refine WP.aload_n d_L_law_343 0 rfl ?_
                refine WP.iload_n d_L_law_344 3 rfl ?_
                refine WP.iconst d_L_law_345 ki_1 ?_
                refine WP.iadd d_L_law_346 ?_
                obtain ⟨x49, ex49, H⟩ := ob H
                refine WP.scl d_L_law_347 ex49 ?_
                refine WP.aload_n d_L_law_348 0 rfl ?_
                refine WP.iload_n d_L_law_349 3 rfl ?_
                refine WP.iconst d_L_law_350 ki_2 ?_
                refine WP.iadd d_L_law_351 ?_
                obtain ⟨x50, ex50, H⟩ := ob H
                refine WP.scl d_L_law_352 ex50 ?_
                obtain ⟨⟨x53, h52⟩, e51, H⟩ := ob H
                refine WP.cV (c := 8) (As := [.int x49, .int x50]) (st := []) (st9 := [.int x53]) (cl9 := cl) (sl9 := sl) d_L_law_353 (ok_X7_court V e51) tv_X7_court ti_X7_court ts_X7_court lk_L_32 ⟨Nat.le_of_ble_eq_true rfl, Nat.le_of_ble_eq_true rfl, (by have := mM_X7_court; have := mS_X7_court; omega), (by have := mM_X7_court; have := mS_X7_court; omega)⟩ kc_X7_court (kd_X7_court e51) rfl rfl (Nat.le_of_ble_eq_true rfl) rfl rfl rfl ?_
                refine WP.aload_n d_L_law_356 2 rfl ?_
                refine WP.aload_n d_L_law_357 0 rfl ?_
                refine WP.iload_n d_L_law_358 3 rfl ?_
                refine WP.iconst d_L_law_359 ki_1 ?_
                refine WP.iadd d_L_law_360 ?_
                obtain ⟨x54, ex54, H⟩ := ob H
                refine WP.scl d_L_law_361 ex54 ?_
                refine WP.aload_n d_L_law_362 0 rfl ?_
                refine WP.iload_n d_L_law_363 3 rfl ?_
                refine WP.iconst d_L_law_364 ki_2 ?_
                refine WP.iadd d_L_law_365 ?_
                obtain ⟨x55, ex55, H⟩ := ob H
                refine WP.scl d_L_law_366 ex55 ?_
                obtain ⟨⟨x58, h57⟩, e56, H⟩ := ob H
                refine WP.cV (c := 9) (As := [.int x54, .int x55]) (st := [.int x53]) (st9 := [.int x58, .int x53]) (cl9 := cl) (sl9 := sl) d_L_law_367 (ok_X8_court V e56) tv_X8_court ti_X8_court ts_X8_court lk_L_35 ⟨Nat.le_of_ble_eq_true rfl, Nat.le_of_ble_eq_true rfl, (by have := mM_X8_court; have := mS_X8_court; omega), (by have := mM_X8_court; have := mS_X8_court; omega)⟩ kc_X8_court (kd_X8_court e56) rfl rfl (Nat.le_of_ble_eq_true rfl) rfl rfl rfl ?_
                rcases oj H with ⟨hc, H⟩ | ⟨hc, H⟩
                · refine WP.icmp_eq_t d_L_law_370 hc ?_
                  refine WP.iinc (lv9 := [(3, .int (l3 + 6)), (0, .ref (vE V 9)), (1, .ref l1), (2, .ref l2)]) d_L_law_1954 3 rfl ki_6 (Nat.le_of_ble_eq_true rfl) rfl ?_
                  refine WP.goto d_L_law_1957 ?_
                  refine WP.sub [1, 2, 3, 0] (lv' := [(0, .ref (vE V 9)), (1, .ref l1), (2, .ref l2), (3, .int (l3 + 6))]) rfl ?_
                  refine WP.widen (cl' := cl + 47) (sl' := sl + 4165) (by omega) (by omega) ?_
                  exact ih H (by omega) (by omega)
                · refine WP.icmp_eq_f d_L_law_370 hc ?_
                  refine WP.iconst d_L_law_373 ki_0 ?_
                  cases H
                  exact WP.ireturn d_L_law_374 rfl rfl (by omega) (by omega)
              · skip
                rcases oj H with ⟨hq5, H⟩ | ⟨hq5, H⟩
                · refine WP.tsw (t := 375) 5 d_L_law_33 (by rw [hq5]; decide) (by decide) rfl (by decide) ?_
                  refine WP.aload_n d_L_law_375 1 rfl ?_
                  refine WP.aload_n d_L_law_376 0 rfl ?_
                  refine WP.iload_n d_L_law_377 3 rfl ?_
                  refine WP.iconst d_L_law_378 ki_1 ?_
                  refine WP.iadd d_L_law_379 ?_
                  obtain ⟨x59, ex59, H⟩ := ob H
                  refine WP.scl d_L_law_380 ex59 ?_
                  refine WP.aload_n d_L_law_381 0 rfl ?_
                  refine WP.iload_n d_L_law_382 3 rfl ?_
                  refine WP.iconst d_L_law_383 ki_2 ?_
                  refine WP.iadd d_L_law_384 ?_
                  obtain ⟨x60, ex60, H⟩ := ob H
                  refine WP.scl d_L_law_385 ex60 ?_
                  obtain ⟨⟨x63, h62⟩, e61, H⟩ := ob H
                  refine WP.cV (c := 8) (As := [.int x59, .int x60]) (st := []) (st9 := [.int x63]) (cl9 := cl) (sl9 := sl) d_L_law_386 (ok_X7_wall V e61) tv_X7_wall ti_X7_wall ts_X7_wall lk_L_36 ⟨Nat.le_of_ble_eq_true rfl, Nat.le_of_ble_eq_true rfl, (by have := mM_X7_wall; have := mS_X7_wall; omega), (by have := mM_X7_wall; have := mS_X7_wall; omega)⟩ kc_X7_wall (kd_X7_wall e61) rfl rfl (Nat.le_of_ble_eq_true rfl) rfl rfl rfl ?_
                  refine WP.aload_n d_L_law_389 2 rfl ?_
                  refine WP.aload_n d_L_law_390 0 rfl ?_
                  refine WP.iload_n d_L_law_391 3 rfl ?_
                  refine WP.iconst d_L_law_392 ki_1 ?_
                  refine WP.iadd d_L_law_393 ?_
                  obtain ⟨x64, ex64, H⟩ := ob H
                  refine WP.scl d_L_law_394 ex64 ?_
                  refine WP.aload_n d_L_law_395 0 rfl ?_
                  refine WP.iload_n d_L_law_396 3 rfl ?_
                  refine WP.iconst d_L_law_397 ki_2 ?_
                  refine WP.iadd d_L_law_398 ?_
                  obtain ⟨x65, ex65, H⟩ := ob H
                  refine WP.scl d_L_law_399 ex65 ?_
                  obtain ⟨⟨x68, h67⟩, e66, H⟩ := ob H
                  refine WP.cV (c := 9) (As := [.int x64, .int x65]) (st := [.int x63]) (st9 := [.int x68, .int x63]) (cl9 := cl) (sl9 := sl) d_L_law_400 (ok_X8_wall V e66) tv_X8_wall ti_X8_wall ts_X8_wall lk_L_40 ⟨Nat.le_of_ble_eq_true rfl, Nat.le_of_ble_eq_true rfl, (by have := mM_X8_wall; have := mS_X8_wall; omega), (by have := mM_X8_wall; have := mS_X8_wall; omega)⟩ kc_X8_wall (kd_X8_wall e66) rfl rfl (Nat.le_of_ble_eq_true rfl) rfl rfl rfl ?_
                  rcases oj H with ⟨hc, H⟩ | ⟨hc, H⟩
                  · refine WP.icmp_eq_t d_L_law_403 hc ?_
                    refine WP.iinc (lv9 := [(3, .int (l3 + 6)), (0, .ref (vE V 9)), (1, .ref l1), (2, .ref l2)]) d_L_law_1954 3 rfl ki_6 (Nat.le_of_ble_eq_true rfl) rfl ?_
                    refine WP.goto d_L_law_1957 ?_
                    refine WP.sub [1, 2, 3, 0] (lv' := [(0, .ref (vE V 9)), (1, .ref l1), (2, .ref l2), (3, .int (l3 + 6))]) rfl ?_
                    refine WP.widen (cl' := cl + 47) (sl' := sl + 4165) (by omega) (by omega) ?_
                    exact ih H (by omega) (by omega)
                  · refine WP.icmp_eq_f d_L_law_403 hc ?_
                    refine WP.iconst d_L_law_406 ki_0 ?_
                    cases H
                    exact WP.ireturn d_L_law_407 rfl rfl (by omega) (by omega)
                · skip
                  rcases oj H with ⟨hq6, H⟩ | ⟨hq6, H⟩
                  · refine WP.tsw (t := 408) 6 d_L_law_33 (by rw [hq6]; decide) (by decide) rfl (by decide) ?_
                    refine WP.aload_n d_L_law_408 1 rfl ?_
                    refine WP.aload_n d_L_law_409 0 rfl ?_
                    refine WP.iload_n d_L_law_410 3 rfl ?_
                    refine WP.iconst d_L_law_411 ki_1 ?_
                    refine WP.iadd d_L_law_412 ?_
                    obtain ⟨x69, ex69, H⟩ := ob H
                    refine WP.scl d_L_law_413 ex69 ?_
                    refine WP.aload_n d_L_law_414 0 rfl ?_
                    refine WP.iload_n d_L_law_415 3 rfl ?_
                    refine WP.iconst d_L_law_416 ki_2 ?_
                    refine WP.iadd d_L_law_417 ?_
                    obtain ⟨x70, ex70, H⟩ := ob H
                    refine WP.scl d_L_law_418 ex70 ?_
                    refine WP.aload_n d_L_law_419 0 rfl ?_
                    refine WP.iload_n d_L_law_420 3 rfl ?_
                    refine WP.iconst d_L_law_421 ki_3 ?_
                    refine WP.iadd d_L_law_422 ?_
                    obtain ⟨x71, ex71, H⟩ := ob H
                    refine WP.scl d_L_law_423 ex71 ?_
                    obtain ⟨⟨x74, h73⟩, e72, H⟩ := ob H
                    refine WP.cV (c := 8) (As := [.int x69, .int x70, .int x71]) (st := []) (st9 := [.int x74]) (cl9 := cl) (sl9 := sl) d_L_law_424 (ok_X7_judge V e72) tv_X7_judge ti_X7_judge ts_X7_judge lk_L_41 ⟨Nat.le_of_ble_eq_true rfl, Nat.le_of_ble_eq_true rfl, (by have := mM_X7_judge; have := mS_X7_judge; omega), (by have := mM_X7_judge; have := mS_X7_judge; omega)⟩ kc_X7_judge (kd_X7_judge e72) rfl rfl (Nat.le_of_ble_eq_true rfl) rfl rfl rfl ?_
                    refine WP.aload_n d_L_law_427 2 rfl ?_
                    refine WP.aload_n d_L_law_428 0 rfl ?_
                    refine WP.iload_n d_L_law_429 3 rfl ?_
                    refine WP.iconst d_L_law_430 ki_1 ?_
                    refine WP.iadd d_L_law_431 ?_
                    obtain ⟨x75, ex75, H⟩ := ob H
                    refine WP.scl d_L_law_432 ex75 ?_
                    refine WP.aload_n d_L_law_433 0 rfl ?_
                    refine WP.iload_n d_L_law_434 3 rfl ?_
                    refine WP.iconst d_L_law_435 ki_2 ?_
                    refine WP.iadd d_L_law_436 ?_
                    obtain ⟨x76, ex76, H⟩ := ob H
                    refine WP.scl d_L_law_437 ex76 ?_
                    refine WP.aload_n d_L_law_438 0 rfl ?_
                    refine WP.iload_n d_L_law_439 3 rfl ?_
                    refine WP.iconst d_L_law_440 ki_3 ?_
                    refine WP.iadd d_L_law_441 ?_
                    obtain ⟨x77, ex77, H⟩ := ob H
                    refine WP.scl d_L_law_442 ex77 ?_
                    obtain ⟨⟨x80, h79⟩, e78, H⟩ := ob H
                    refine WP.cV (c := 9) (As := [.int x75, .int x76, .int x77]) (st := [.int x74]) (st9 := [.int x80, .int x74]) (cl9 := cl) (sl9 := sl) d_L_law_443 (ok_X8_judge V e78) tv_X8_judge ti_X8_judge ts_X8_judge lk_L_45 ⟨Nat.le_of_ble_eq_true rfl, Nat.le_of_ble_eq_true rfl, (by have := mM_X8_judge; have := mS_X8_judge; omega), (by have := mM_X8_judge; have := mS_X8_judge; omega)⟩ kc_X8_judge (kd_X8_judge e78) rfl rfl (Nat.le_of_ble_eq_true rfl) rfl rfl rfl ?_
                    rcases oj H with ⟨hc, H⟩ | ⟨hc, H⟩
                    · refine WP.icmp_eq_t d_L_law_446 hc ?_
                      refine WP.iinc (lv9 := [(3, .int (l3 + 6)), (0, .ref (vE V 9)), (1, .ref l1), (2, .ref l2)]) d_L_law_1954 3 rfl ki_6 (Nat.le_of_ble_eq_true rfl) rfl ?_
                      refine WP.goto d_L_law_1957 ?_
                      refine WP.sub [1, 2, 3, 0] (lv' := [(0, .ref (vE V 9)), (1, .ref l1), (2, .ref l2), (3, .int (l3 + 6))]) rfl ?_
                      refine WP.widen (cl' := cl + 47) (sl' := sl + 4165) (by omega) (by omega) ?_
                      exact ih H (by omega) (by omega)
                    · refine WP.icmp_eq_f d_L_law_446 hc ?_
                      refine WP.iconst d_L_law_449 ki_0 ?_
                      cases H
                      exact WP.ireturn d_L_law_450 rfl rfl (by omega) (by omega)
                  · skip
                    rcases oj H with ⟨hq7, H⟩ | ⟨hq7, H⟩
                    · refine WP.tsw (t := 451) 7 d_L_law_33 (by rw [hq7]; decide) (by decide) rfl (by decide) ?_
                      refine WP.aload_n d_L_law_451 1 rfl ?_
                      refine WP.aload_n d_L_law_452 0 rfl ?_
                      refine WP.iload_n d_L_law_453 3 rfl ?_
                      refine WP.iconst d_L_law_454 ki_1 ?_
                      refine WP.iadd d_L_law_455 ?_
                      obtain ⟨x81, ex81, H⟩ := ob H
                      refine WP.scl d_L_law_456 ex81 ?_
                      refine WP.aload_n d_L_law_457 0 rfl ?_
                      refine WP.iload_n d_L_law_458 3 rfl ?_
                      refine WP.iconst d_L_law_459 ki_2 ?_
                      refine WP.iadd d_L_law_460 ?_
                      obtain ⟨x82, ex82, H⟩ := ob H
                      refine WP.scl d_L_law_461 ex82 ?_
                      refine WP.aload_n d_L_law_462 0 rfl ?_
                      refine WP.iload_n d_L_law_463 3 rfl ?_
                      refine WP.iconst d_L_law_464 ki_3 ?_
                      refine WP.iadd d_L_law_465 ?_
                      obtain ⟨x83, ex83, H⟩ := ob H
                      refine WP.scl d_L_law_466 ex83 ?_
                      obtain ⟨j84, hs85, H⟩ := ol H
                      have J86 : WP V M_L_law 475 [(0, .ref (vE V 9)), (1, .ref l1), (2, .ref l2), (3, .int l3)] [.int j84, .int x82, .int x81, .ref l1] h cl sl (some (.int r)) hR := by
                        obtain ⟨⟨x89, h88⟩, e87, H⟩ := ob H
                        refine WP.cV (c := 8) (As := [.int x81, .int x82, .int j84]) (st := []) (st9 := [.int x89]) (cl9 := cl) (sl9 := sl) d_L_law_475 (ok_X7_pleader V e87) tv_X7_pleader ti_X7_pleader ts_X7_pleader lk_L_46 ⟨Nat.le_of_ble_eq_true rfl, Nat.le_of_ble_eq_true rfl, (by have := mM_X7_pleader; have := mS_X7_pleader; omega), (by have := mM_X7_pleader; have := mS_X7_pleader; omega)⟩ kc_X7_pleader (kd_X7_pleader e87) rfl rfl (Nat.le_of_ble_eq_true rfl) rfl rfl rfl ?_
                        refine WP.aload_n d_L_law_478 2 rfl ?_
                        refine WP.aload_n d_L_law_479 0 rfl ?_
                        refine WP.iload_n d_L_law_480 3 rfl ?_
                        refine WP.iconst d_L_law_481 ki_1 ?_
                        refine WP.iadd d_L_law_482 ?_
                        obtain ⟨x90, ex90, H⟩ := ob H
                        refine WP.scl d_L_law_483 ex90 ?_
                        refine WP.aload_n d_L_law_484 0 rfl ?_
                        refine WP.iload_n d_L_law_485 3 rfl ?_
                        refine WP.iconst d_L_law_486 ki_2 ?_
                        refine WP.iadd d_L_law_487 ?_
                        obtain ⟨x91, ex91, H⟩ := ob H
                        refine WP.scl d_L_law_488 ex91 ?_
                        refine WP.aload_n d_L_law_489 0 rfl ?_
                        refine WP.iload_n d_L_law_490 3 rfl ?_
                        refine WP.iconst d_L_law_491 ki_3 ?_
                        refine WP.iadd d_L_law_492 ?_
                        obtain ⟨x92, ex92, H⟩ := ob H
                        refine WP.scl d_L_law_493 ex92 ?_
                        obtain ⟨j93, hs94, H⟩ := ol H
                        have J95 : WP V M_L_law 502 [(0, .ref (vE V 9)), (1, .ref l1), (2, .ref l2), (3, .int l3)] [.int j93, .int x91, .int x90, .ref l2, .int x89] h88 cl sl (some (.int r)) hR := by
                          obtain ⟨⟨x98, h97⟩, e96, H⟩ := ob H
                          refine WP.cV (c := 9) (As := [.int x90, .int x91, .int j93]) (st := [.int x89]) (st9 := [.int x98, .int x89]) (cl9 := cl) (sl9 := sl) d_L_law_502 (ok_X8_pleader V e96) tv_X8_pleader ti_X8_pleader ts_X8_pleader lk_L_50 ⟨Nat.le_of_ble_eq_true rfl, Nat.le_of_ble_eq_true rfl, (by have := mM_X8_pleader; have := mS_X8_pleader; omega), (by have := mM_X8_pleader; have := mS_X8_pleader; omega)⟩ kc_X8_pleader (kd_X8_pleader e96) rfl rfl (Nat.le_of_ble_eq_true rfl) rfl rfl rfl ?_
                          rcases oj H with ⟨hc, H⟩ | ⟨hc, H⟩
                          · refine WP.icmp_eq_t d_L_law_505 hc ?_
                            refine WP.iinc (lv9 := [(3, .int (l3 + 6)), (0, .ref (vE V 9)), (1, .ref l1), (2, .ref l2)]) d_L_law_1954 3 rfl ki_6 (Nat.le_of_ble_eq_true rfl) rfl ?_
                            refine WP.goto d_L_law_1957 ?_
                            refine WP.sub [1, 2, 3, 0] (lv' := [(0, .ref (vE V 9)), (1, .ref l1), (2, .ref l2), (3, .int (l3 + 6))]) rfl ?_
                            refine WP.widen (cl' := cl + 47) (sl' := sl + 4165) (by omega) (by omega) ?_
                            exact ih H (by omega) (by omega)
                          · refine WP.icmp_eq_f d_L_law_505 hc ?_
                            refine WP.iconst d_L_law_508 ki_0 ?_
                            cases H
                            exact WP.ireturn d_L_law_509 rfl rfl (by omega) (by omega)
                        rcases oj hs94 with ⟨hc, hs94⟩ | ⟨hc, hs94⟩
                        · refine WP.if_eq_t d_L_law_494 hc ?_
                          refine WP.iconst d_L_law_501 ki_0 ?_
                          cases hs94
                          exact WP.sub [0, 1, 2, 3] rfl J95
                        · refine WP.if_eq_f d_L_law_494 hc ?_
                          refine WP.iconst d_L_law_497 ki_1 ?_
                          refine WP.goto d_L_law_498 ?_
                          cases hs94
                          exact WP.sub [0, 1, 2, 3] rfl J95
                      rcases oj hs85 with ⟨hc, hs85⟩ | ⟨hc, hs85⟩
                      · refine WP.if_eq_t d_L_law_467 hc ?_
                        refine WP.iconst d_L_law_474 ki_0 ?_
                        cases hs85
                        exact WP.sub [0, 1, 2, 3] rfl J86
                      · refine WP.if_eq_f d_L_law_467 hc ?_
                        refine WP.iconst d_L_law_470 ki_1 ?_
                        refine WP.goto d_L_law_471 ?_
                        cases hs85
                        exact WP.sub [0, 1, 2, 3] rfl J86
                    · skip
                      rcases oj H with ⟨hq8, H⟩ | ⟨hq8, H⟩
                      · refine WP.tsw (t := 510) 8 d_L_law_33 (by rw [hq8]; decide) (by decide) rfl (by decide) ?_
                        refine WP.aload_n d_L_law_510 1 rfl ?_
                        refine WP.aload_n d_L_law_511 0 rfl ?_
                        refine WP.iload_n d_L_law_512 3 rfl ?_
                        refine WP.iconst d_L_law_513 ki_1 ?_
                        refine WP.iadd d_L_law_514 ?_
                        obtain ⟨x99, ex99, H⟩ := ob H
                        refine WP.scl d_L_law_515 ex99 ?_
                        refine WP.aload_n d_L_law_516 0 rfl ?_
                        refine WP.iload_n d_L_law_517 3 rfl ?_
                        refine WP.iconst d_L_law_518 ki_2 ?_
                        refine WP.iadd d_L_law_519 ?_
                        obtain ⟨x100, ex100, H⟩ := ob H
                        refine WP.scl d_L_law_520 ex100 ?_
                        refine WP.aload_n d_L_law_521 0 rfl ?_
                        refine WP.iload_n d_L_law_522 3 rfl ?_
                        refine WP.iconst d_L_law_523 ki_3 ?_
                        refine WP.iadd d_L_law_524 ?_
                        obtain ⟨x101, ex101, H⟩ := ob H
                        refine WP.scl d_L_law_525 ex101 ?_
                        obtain ⟨⟨x104, h103⟩, e102, H⟩ := ob H
                        refine WP.cV (c := 8) (As := [.int x99, .int x100, .int x101]) (st := []) (st9 := [.int x104]) (cl9 := cl) (sl9 := sl) d_L_law_526 (ok_X7_far V e102) tv_X7_far ti_X7_far ts_X7_far lk_L_51 ⟨Nat.le_of_ble_eq_true rfl, Nat.le_of_ble_eq_true rfl, (by have := mM_X7_far; have := mS_X7_far; omega), (by have := mM_X7_far; have := mS_X7_far; omega)⟩ kc_X7_far (kd_X7_far e102) rfl rfl (Nat.le_of_ble_eq_true rfl) rfl rfl rfl ?_
                        refine WP.aload_n d_L_law_529 2 rfl ?_
                        refine WP.aload_n d_L_law_530 0 rfl ?_
                        refine WP.iload_n d_L_law_531 3 rfl ?_
                        refine WP.iconst d_L_law_532 ki_1 ?_
                        refine WP.iadd d_L_law_533 ?_
                        obtain ⟨x105, ex105, H⟩ := ob H
                        refine WP.scl d_L_law_534 ex105 ?_
                        refine WP.aload_n d_L_law_535 0 rfl ?_
                        refine WP.iload_n d_L_law_536 3 rfl ?_
                        refine WP.iconst d_L_law_537 ki_2 ?_
                        refine WP.iadd d_L_law_538 ?_
                        obtain ⟨x106, ex106, H⟩ := ob H
                        refine WP.scl d_L_law_539 ex106 ?_
                        refine WP.aload_n d_L_law_540 0 rfl ?_
                        refine WP.iload_n d_L_law_541 3 rfl ?_
                        refine WP.iconst d_L_law_542 ki_3 ?_
                        refine WP.iadd d_L_law_543 ?_
                        obtain ⟨x107, ex107, H⟩ := ob H
                        refine WP.scl d_L_law_544 ex107 ?_
                        obtain ⟨⟨x110, h109⟩, e108, H⟩ := ob H
                        refine WP.cV (c := 9) (As := [.int x105, .int x106, .int x107]) (st := [.int x104]) (st9 := [.int x110, .int x104]) (cl9 := cl) (sl9 := sl) d_L_law_545 (ok_X8_far V e108) tv_X8_far ti_X8_far ts_X8_far lk_L_54 ⟨Nat.le_of_ble_eq_true rfl, Nat.le_of_ble_eq_true rfl, (by have := mM_X8_far; have := mS_X8_far; omega), (by have := mM_X8_far; have := mS_X8_far; omega)⟩ kc_X8_far (kd_X8_far e108) rfl rfl (Nat.le_of_ble_eq_true rfl) rfl rfl rfl ?_
                        rcases oj H with ⟨hc, H⟩ | ⟨hc, H⟩
                        · refine WP.icmp_eq_t d_L_law_548 hc ?_
                          refine WP.iinc (lv9 := [(3, .int (l3 + 6)), (0, .ref (vE V 9)), (1, .ref l1), (2, .ref l2)]) d_L_law_1954 3 rfl ki_6 (Nat.le_of_ble_eq_true rfl) rfl ?_
                          refine WP.goto d_L_law_1957 ?_
                          refine WP.sub [1, 2, 3, 0] (lv' := [(0, .ref (vE V 9)), (1, .ref l1), (2, .ref l2), (3, .int (l3 + 6))]) rfl ?_
                          refine WP.widen (cl' := cl + 47) (sl' := sl + 4165) (by omega) (by omega) ?_
                          exact ih H (by omega) (by omega)
                        · refine WP.icmp_eq_f d_L_law_548 hc ?_
                          refine WP.iconst d_L_law_551 ki_0 ?_
                          cases H
                          exact WP.ireturn d_L_law_552 rfl rfl (by omega) (by omega)
                      · skip
                        rcases oj H with ⟨hq9, H⟩ | ⟨hq9, H⟩
                        · refine WP.tsw (t := 553) 9 d_L_law_33 (by rw [hq9]; decide) (by decide) rfl (by decide) ?_
                          refine WP.aload_n d_L_law_553 1 rfl ?_
                          refine WP.aload_n d_L_law_554 0 rfl ?_
                          refine WP.iload_n d_L_law_555 3 rfl ?_
                          refine WP.iconst d_L_law_556 ki_1 ?_
                          refine WP.iadd d_L_law_557 ?_
                          obtain ⟨x111, ex111, H⟩ := ob H
                          refine WP.scl d_L_law_558 ex111 ?_
                          refine WP.aload_n d_L_law_559 0 rfl ?_
                          refine WP.iload_n d_L_law_560 3 rfl ?_
                          refine WP.iconst d_L_law_561 ki_2 ?_
                          refine WP.iadd d_L_law_562 ?_
                          obtain ⟨x112, ex112, H⟩ := ob H
                          refine WP.scl d_L_law_563 ex112 ?_
                          refine WP.aload_n d_L_law_564 0 rfl ?_
                          refine WP.iload_n d_L_law_565 3 rfl ?_
                          refine WP.iconst d_L_law_566 ki_3 ?_
                          refine WP.iadd d_L_law_567 ?_
                          obtain ⟨x113, ex113, H⟩ := ob H
                          refine WP.scl d_L_law_568 ex113 ?_
                          refine WP.aload_n d_L_law_569 0 rfl ?_
                          refine WP.iload_n d_L_law_570 3 rfl ?_
                          refine WP.iconst d_L_law_571 ki_4 ?_
                          refine WP.iadd d_L_law_572 ?_
                          obtain ⟨x114, ex114, H⟩ := ob H
                          refine WP.scl d_L_law_573 ex114 ?_
                          obtain ⟨⟨x117, h116⟩, e115, H⟩ := ob H
                          refine WP.cV (c := 8) (As := [.int x111, .int x112, .int x113, .int x114]) (st := []) (st9 := [.int x117]) (cl9 := cl) (sl9 := sl) d_L_law_574 (ok_X7_comes V e115) tv_X7_comes ti_X7_comes ts_X7_comes lk_L_55 ⟨Nat.le_of_ble_eq_true rfl, Nat.le_of_ble_eq_true rfl, (by have := mM_X7_comes; have := mS_X7_comes; omega), (by have := mM_X7_comes; have := mS_X7_comes; omega)⟩ kc_X7_comes (kd_X7_comes e115) rfl rfl (Nat.le_of_ble_eq_true rfl) rfl rfl rfl ?_
                          refine WP.aload_n d_L_law_577 2 rfl ?_
                          refine WP.aload_n d_L_law_578 0 rfl ?_
                          refine WP.iload_n d_L_law_579 3 rfl ?_
                          refine WP.iconst d_L_law_580 ki_1 ?_
                          refine WP.iadd d_L_law_581 ?_
                          obtain ⟨x118, ex118, H⟩ := ob H
                          refine WP.scl d_L_law_582 ex118 ?_
                          refine WP.aload_n d_L_law_583 0 rfl ?_
                          refine WP.iload_n d_L_law_584 3 rfl ?_
                          refine WP.iconst d_L_law_585 ki_2 ?_
                          refine WP.iadd d_L_law_586 ?_
                          obtain ⟨x119, ex119, H⟩ := ob H
                          refine WP.scl d_L_law_587 ex119 ?_
                          refine WP.aload_n d_L_law_588 0 rfl ?_
                          refine WP.iload_n d_L_law_589 3 rfl ?_
                          refine WP.iconst d_L_law_590 ki_3 ?_
                          refine WP.iadd d_L_law_591 ?_
                          obtain ⟨x120, ex120, H⟩ := ob H
                          refine WP.scl d_L_law_592 ex120 ?_
                          refine WP.aload_n d_L_law_593 0 rfl ?_
                          refine WP.iload_n d_L_law_594 3 rfl ?_
                          refine WP.iconst d_L_law_595 ki_4 ?_
                          refine WP.iadd d_L_law_596 ?_
                          obtain ⟨x121, ex121, H⟩ := ob H
                          refine WP.scl d_L_law_597 ex121 ?_
                          obtain ⟨⟨x124, h123⟩, e122, H⟩ := ob H
                          refine WP.cV (c := 9) (As := [.int x118, .int x119, .int x120, .int x121]) (st := [.int x117]) (st9 := [.int x124, .int x117]) (cl9 := cl) (sl9 := sl) d_L_law_598 (ok_X8_comes V e122) tv_X8_comes ti_X8_comes ts_X8_comes lk_L_59 ⟨Nat.le_of_ble_eq_true rfl, Nat.le_of_ble_eq_true rfl, (by have := mM_X8_comes; have := mS_X8_comes; omega), (by have := mM_X8_comes; have := mS_X8_comes; omega)⟩ kc_X8_comes (kd_X8_comes e122) rfl rfl (Nat.le_of_ble_eq_true rfl) rfl rfl rfl ?_
                          rcases oj H with ⟨hc, H⟩ | ⟨hc, H⟩
                          · refine WP.icmp_eq_t d_L_law_601 hc ?_
                            refine WP.iinc (lv9 := [(3, .int (l3 + 6)), (0, .ref (vE V 9)), (1, .ref l1), (2, .ref l2)]) d_L_law_1954 3 rfl ki_6 (Nat.le_of_ble_eq_true rfl) rfl ?_
                            refine WP.goto d_L_law_1957 ?_
                            refine WP.sub [1, 2, 3, 0] (lv' := [(0, .ref (vE V 9)), (1, .ref l1), (2, .ref l2), (3, .int (l3 + 6))]) rfl ?_
                            refine WP.widen (cl' := cl + 47) (sl' := sl + 4165) (by omega) (by omega) ?_
                            exact ih H (by omega) (by omega)
                          · refine WP.icmp_eq_f d_L_law_601 hc ?_
                            refine WP.iconst d_L_law_604 ki_0 ?_
                            cases H
                            exact WP.ireturn d_L_law_605 rfl rfl (by omega) (by omega)
                        · skip
                          rcases oj H with ⟨hq10, H⟩ | ⟨hq10, H⟩
                          · refine WP.tsw (t := 606) 10 d_L_law_33 (by rw [hq10]; decide) (by decide) rfl (by decide) ?_
                            refine WP.aload_n d_L_law_606 1 rfl ?_
                            refine WP.aload_n d_L_law_607 0 rfl ?_
                            refine WP.iload_n d_L_law_608 3 rfl ?_
                            refine WP.iconst d_L_law_609 ki_1 ?_
                            refine WP.iadd d_L_law_610 ?_
                            obtain ⟨x125, ex125, H⟩ := ob H
                            refine WP.scl d_L_law_611 ex125 ?_
                            refine WP.aload_n d_L_law_612 0 rfl ?_
                            refine WP.iload_n d_L_law_613 3 rfl ?_
                            refine WP.iconst d_L_law_614 ki_2 ?_
                            refine WP.iadd d_L_law_615 ?_
                            obtain ⟨x126, ex126, H⟩ := ob H
                            refine WP.scl d_L_law_616 ex126 ?_
                            refine WP.aload_n d_L_law_617 0 rfl ?_
                            refine WP.iload_n d_L_law_618 3 rfl ?_
                            refine WP.iconst d_L_law_619 ki_3 ?_
                            refine WP.iadd d_L_law_620 ?_
                            obtain ⟨x127, ex127, H⟩ := ob H
                            refine WP.scl d_L_law_621 ex127 ?_
                            refine WP.aload_n d_L_law_622 0 rfl ?_
                            refine WP.iload_n d_L_law_623 3 rfl ?_
                            refine WP.iconst d_L_law_624 ki_4 ?_
                            refine WP.iadd d_L_law_625 ?_
                            obtain ⟨x128, ex128, H⟩ := ob H
                            refine WP.scl d_L_law_626 ex128 ?_
                            obtain ⟨⟨x131, h130⟩, e129, H⟩ := ob H
                            refine WP.cV (c := 8) (As := [.int x125, .int x126, .int x127, .int x128]) (st := []) (st9 := [.int x131]) (cl9 := cl) (sl9 := sl) d_L_law_627 (ok_X7_ears V e129) tv_X7_ears ti_X7_ears ts_X7_ears lk_L_60 ⟨Nat.le_of_ble_eq_true rfl, Nat.le_of_ble_eq_true rfl, (by have := mM_X7_ears; have := mS_X7_ears; omega), (by have := mM_X7_ears; have := mS_X7_ears; omega)⟩ kc_X7_ears (kd_X7_ears e129) rfl rfl (Nat.le_of_ble_eq_true rfl) rfl rfl rfl ?_
                            refine WP.aload_n d_L_law_630 2 rfl ?_
                            refine WP.aload_n d_L_law_631 0 rfl ?_
                            refine WP.iload_n d_L_law_632 3 rfl ?_
                            refine WP.iconst d_L_law_633 ki_1 ?_
                            refine WP.iadd d_L_law_634 ?_
                            obtain ⟨x132, ex132, H⟩ := ob H
                            refine WP.scl d_L_law_635 ex132 ?_
                            refine WP.aload_n d_L_law_636 0 rfl ?_
                            refine WP.iload_n d_L_law_637 3 rfl ?_
                            refine WP.iconst d_L_law_638 ki_2 ?_
                            refine WP.iadd d_L_law_639 ?_
                            obtain ⟨x133, ex133, H⟩ := ob H
                            refine WP.scl d_L_law_640 ex133 ?_
                            refine WP.aload_n d_L_law_641 0 rfl ?_
                            refine WP.iload_n d_L_law_642 3 rfl ?_
                            refine WP.iconst d_L_law_643 ki_3 ?_
                            refine WP.iadd d_L_law_644 ?_
                            obtain ⟨x134, ex134, H⟩ := ob H
                            refine WP.scl d_L_law_645 ex134 ?_
                            refine WP.aload_n d_L_law_646 0 rfl ?_
                            refine WP.iload_n d_L_law_647 3 rfl ?_
                            refine WP.iconst d_L_law_648 ki_4 ?_
                            refine WP.iadd d_L_law_649 ?_
                            obtain ⟨x135, ex135, H⟩ := ob H
                            refine WP.scl d_L_law_650 ex135 ?_
                            obtain ⟨⟨x138, h137⟩, e136, H⟩ := ob H
                            refine WP.cV (c := 9) (As := [.int x132, .int x133, .int x134, .int x135]) (st := [.int x131]) (st9 := [.int x138, .int x131]) (cl9 := cl) (sl9 := sl) d_L_law_651 (ok_X8_ears V e136) tv_X8_ears ti_X8_ears ts_X8_ears lk_L_63 ⟨Nat.le_of_ble_eq_true rfl, Nat.le_of_ble_eq_true rfl, (by have := mM_X8_ears; have := mS_X8_ears; omega), (by have := mM_X8_ears; have := mS_X8_ears; omega)⟩ kc_X8_ears (kd_X8_ears e136) rfl rfl (Nat.le_of_ble_eq_true rfl) rfl rfl rfl ?_
                            rcases oj H with ⟨hc, H⟩ | ⟨hc, H⟩
                            · refine WP.icmp_eq_t d_L_law_654 hc ?_
                              refine WP.iinc (lv9 := [(3, .int (l3 + 6)), (0, .ref (vE V 9)), (1, .ref l1), (2, .ref l2)]) d_L_law_1954 3 rfl ki_6 (Nat.le_of_ble_eq_true rfl) rfl ?_
                              refine WP.goto d_L_law_1957 ?_
                              refine WP.sub [1, 2, 3, 0] (lv' := [(0, .ref (vE V 9)), (1, .ref l1), (2, .ref l2), (3, .int (l3 + 6))]) rfl ?_
                              refine WP.widen (cl' := cl + 47) (sl' := sl + 4165) (by omega) (by omega) ?_
                              exact ih H (by omega) (by omega)
                            · refine WP.icmp_eq_f d_L_law_654 hc ?_
                              refine WP.iconst d_L_law_657 ki_0 ?_
                              cases H
                              exact WP.ireturn d_L_law_658 rfl rfl (by omega) (by omega)
                          · skip
                            rcases oj H with ⟨hq11, H⟩ | ⟨hq11, H⟩
                            · refine WP.tsw (t := 659) 11 d_L_law_33 (by rw [hq11]; decide) (by decide) rfl (by decide) ?_
                              refine WP.aload_n d_L_law_659 1 rfl ?_
                              refine WP.aload_n d_L_law_660 0 rfl ?_
                              refine WP.iload_n d_L_law_661 3 rfl ?_
                              refine WP.iconst d_L_law_662 ki_1 ?_
                              refine WP.iadd d_L_law_663 ?_
                              obtain ⟨x139, ex139, H⟩ := ob H
                              refine WP.scl d_L_law_664 ex139 ?_
                              refine WP.aload_n d_L_law_665 0 rfl ?_
                              refine WP.iload_n d_L_law_666 3 rfl ?_
                              refine WP.iconst d_L_law_667 ki_2 ?_
                              refine WP.iadd d_L_law_668 ?_
                              obtain ⟨x140, ex140, H⟩ := ob H
                              refine WP.scl d_L_law_669 ex140 ?_
                              refine WP.aload_n d_L_law_670 0 rfl ?_
                              refine WP.iload_n d_L_law_671 3 rfl ?_
                              refine WP.iconst d_L_law_672 ki_3 ?_
                              refine WP.iadd d_L_law_673 ?_
                              obtain ⟨x141, ex141, H⟩ := ob H
                              refine WP.scl d_L_law_674 ex141 ?_
                              refine WP.aload_n d_L_law_675 0 rfl ?_
                              refine WP.iload_n d_L_law_676 3 rfl ?_
                              refine WP.iconst d_L_law_677 ki_4 ?_
                              refine WP.iadd d_L_law_678 ?_
                              obtain ⟨x142, ex142, H⟩ := ob H
                              refine WP.scl d_L_law_679 ex142 ?_
                              obtain ⟨j143, hs144, H⟩ := ol H
                              have J145 : WP V M_L_law 688 [(0, .ref (vE V 9)), (1, .ref l1), (2, .ref l2), (3, .int l3)] [.int j143, .int x141, .int x140, .int x139, .ref l1] h cl sl (some (.int r)) hR := by
                                obtain ⟨⟨x148, h147⟩, e146, H⟩ := ob H
                                refine WP.cV (c := 8) (As := [.int x139, .int x140, .int x141, .int j143]) (st := []) (st9 := [.int x148]) (cl9 := cl) (sl9 := sl) d_L_law_688 (ok_X7_pulpit V e146) tv_X7_pulpit ti_X7_pulpit ts_X7_pulpit lk_L_64 ⟨Nat.le_of_ble_eq_true rfl, Nat.le_of_ble_eq_true rfl, (by have := mM_X7_pulpit; have := mS_X7_pulpit; omega), (by have := mM_X7_pulpit; have := mS_X7_pulpit; omega)⟩ kc_X7_pulpit (kd_X7_pulpit e146) rfl rfl (Nat.le_of_ble_eq_true rfl) rfl rfl rfl ?_
                                refine WP.aload_n d_L_law_691 2 rfl ?_
                                refine WP.aload_n d_L_law_692 0 rfl ?_
                                refine WP.iload_n d_L_law_693 3 rfl ?_
                                refine WP.iconst d_L_law_694 ki_1 ?_
                                refine WP.iadd d_L_law_695 ?_
                                obtain ⟨x149, ex149, H⟩ := ob H
                                refine WP.scl d_L_law_696 ex149 ?_
                                refine WP.aload_n d_L_law_697 0 rfl ?_
                                refine WP.iload_n d_L_law_698 3 rfl ?_
                                refine WP.iconst d_L_law_699 ki_2 ?_
                                refine WP.iadd d_L_law_700 ?_
                                obtain ⟨x150, ex150, H⟩ := ob H
                                refine WP.scl d_L_law_701 ex150 ?_
                                refine WP.aload_n d_L_law_702 0 rfl ?_
                                refine WP.iload_n d_L_law_703 3 rfl ?_
                                refine WP.iconst d_L_law_704 ki_3 ?_
                                refine WP.iadd d_L_law_705 ?_
                                obtain ⟨x151, ex151, H⟩ := ob H
                                refine WP.scl d_L_law_706 ex151 ?_
                                refine WP.aload_n d_L_law_707 0 rfl ?_
                                refine WP.iload_n d_L_law_708 3 rfl ?_
                                refine WP.iconst d_L_law_709 ki_4 ?_
                                refine WP.iadd d_L_law_710 ?_
                                obtain ⟨x152, ex152, H⟩ := ob H
                                refine WP.scl d_L_law_711 ex152 ?_
                                obtain ⟨j153, hs154, H⟩ := ol H
                                have J155 : WP V M_L_law 720 [(0, .ref (vE V 9)), (1, .ref l1), (2, .ref l2), (3, .int l3)] [.int j153, .int x151, .int x150, .int x149, .ref l2, .int x148] h147 cl sl (some (.int r)) hR := by
                                  obtain ⟨⟨x158, h157⟩, e156, H⟩ := ob H
                                  refine WP.cV (c := 9) (As := [.int x149, .int x150, .int x151, .int j153]) (st := [.int x148]) (st9 := [.int x158, .int x148]) (cl9 := cl) (sl9 := sl) d_L_law_720 (ok_X8_pulpit V e156) tv_X8_pulpit ti_X8_pulpit ts_X8_pulpit lk_L_68 ⟨Nat.le_of_ble_eq_true rfl, Nat.le_of_ble_eq_true rfl, (by have := mM_X8_pulpit; have := mS_X8_pulpit; omega), (by have := mM_X8_pulpit; have := mS_X8_pulpit; omega)⟩ kc_X8_pulpit (kd_X8_pulpit e156) rfl rfl (Nat.le_of_ble_eq_true rfl) rfl rfl rfl ?_
                                  rcases oj H with ⟨hc, H⟩ | ⟨hc, H⟩
                                  · refine WP.icmp_eq_t d_L_law_723 hc ?_
                                    refine WP.iinc (lv9 := [(3, .int (l3 + 6)), (0, .ref (vE V 9)), (1, .ref l1), (2, .ref l2)]) d_L_law_1954 3 rfl ki_6 (Nat.le_of_ble_eq_true rfl) rfl ?_
                                    refine WP.goto d_L_law_1957 ?_
                                    refine WP.sub [1, 2, 3, 0] (lv' := [(0, .ref (vE V 9)), (1, .ref l1), (2, .ref l2), (3, .int (l3 + 6))]) rfl ?_
                                    refine WP.widen (cl' := cl + 47) (sl' := sl + 4165) (by omega) (by omega) ?_
                                    exact ih H (by omega) (by omega)
                                  · refine WP.icmp_eq_f d_L_law_723 hc ?_
                                    refine WP.iconst d_L_law_726 ki_0 ?_
                                    cases H
                                    exact WP.ireturn d_L_law_727 rfl rfl (by omega) (by omega)
                                rcases oj hs154 with ⟨hc, hs154⟩ | ⟨hc, hs154⟩
                                · refine WP.if_eq_t d_L_law_712 hc ?_
                                  refine WP.iconst d_L_law_719 ki_0 ?_
                                  cases hs154
                                  exact WP.sub [0, 1, 2, 3] rfl J155
                                · refine WP.if_eq_f d_L_law_712 hc ?_
                                  refine WP.iconst d_L_law_715 ki_1 ?_
                                  refine WP.goto d_L_law_716 ?_
                                  cases hs154
                                  exact WP.sub [0, 1, 2, 3] rfl J155
                              rcases oj hs144 with ⟨hc, hs144⟩ | ⟨hc, hs144⟩
                              · refine WP.if_eq_t d_L_law_680 hc ?_
                                refine WP.iconst d_L_law_687 ki_0 ?_
                                cases hs144
                                exact WP.sub [0, 1, 2, 3] rfl J145
                              · refine WP.if_eq_f d_L_law_680 hc ?_
                                refine WP.iconst d_L_law_683 ki_1 ?_
                                refine WP.goto d_L_law_684 ?_
                                cases hs144
                                exact WP.sub [0, 1, 2, 3] rfl J145
                            · skip
                              rcases oj H with ⟨hq12, H⟩ | ⟨hq12, H⟩
                              · refine WP.tsw (t := 728) 12 d_L_law_33 (by rw [hq12]; decide) (by decide) rfl (by decide) ?_
                                refine WP.aload_n d_L_law_728 1 rfl ?_
                                refine WP.aload_n d_L_law_729 0 rfl ?_
                                refine WP.iload_n d_L_law_730 3 rfl ?_
                                refine WP.iconst d_L_law_731 ki_1 ?_
                                refine WP.iadd d_L_law_732 ?_
                                obtain ⟨x159, ex159, H⟩ := ob H
                                refine WP.scl d_L_law_733 ex159 ?_
                                refine WP.aload_n d_L_law_734 0 rfl ?_
                                refine WP.iload_n d_L_law_735 3 rfl ?_
                                refine WP.iconst d_L_law_736 ki_2 ?_
                                refine WP.iadd d_L_law_737 ?_
                                obtain ⟨x160, ex160, H⟩ := ob H
                                refine WP.scl d_L_law_738 ex160 ?_
                                refine WP.aload_n d_L_law_739 0 rfl ?_
                                refine WP.iload_n d_L_law_740 3 rfl ?_
                                refine WP.iconst d_L_law_741 ki_3 ?_
                                refine WP.iadd d_L_law_742 ?_
                                obtain ⟨x161, ex161, H⟩ := ob H
                                refine WP.scl d_L_law_743 ex161 ?_
                                refine WP.aload_n d_L_law_744 0 rfl ?_
                                refine WP.iload_n d_L_law_745 3 rfl ?_
                                refine WP.iconst d_L_law_746 ki_4 ?_
                                refine WP.iadd d_L_law_747 ?_
                                obtain ⟨x162, ex162, H⟩ := ob H
                                refine WP.scl d_L_law_748 ex162 ?_
                                obtain ⟨⟨x165, h164⟩, e163, H⟩ := ob H
                                refine WP.cV (c := 8) (As := [.int x159, .int x160, .int x161, .int x162]) (st := []) (st9 := [.int x165]) (cl9 := cl) (sl9 := sl) d_L_law_749 (ok_X7_near V e163) tv_X7_near ti_X7_near ts_X7_near lk_L_69 ⟨Nat.le_of_ble_eq_true rfl, Nat.le_of_ble_eq_true rfl, (by have := mM_X7_near; have := mS_X7_near; omega), (by have := mM_X7_near; have := mS_X7_near; omega)⟩ kc_X7_near (kd_X7_near e163) rfl rfl (Nat.le_of_ble_eq_true rfl) rfl rfl rfl ?_
                                refine WP.aload_n d_L_law_752 2 rfl ?_
                                refine WP.aload_n d_L_law_753 0 rfl ?_
                                refine WP.iload_n d_L_law_754 3 rfl ?_
                                refine WP.iconst d_L_law_755 ki_1 ?_
                                refine WP.iadd d_L_law_756 ?_
                                obtain ⟨x166, ex166, H⟩ := ob H
                                refine WP.scl d_L_law_757 ex166 ?_
                                refine WP.aload_n d_L_law_758 0 rfl ?_
                                refine WP.iload_n d_L_law_759 3 rfl ?_
                                refine WP.iconst d_L_law_760 ki_2 ?_
                                refine WP.iadd d_L_law_761 ?_
                                obtain ⟨x167, ex167, H⟩ := ob H
                                refine WP.scl d_L_law_762 ex167 ?_
                                refine WP.aload_n d_L_law_763 0 rfl ?_
                                refine WP.iload_n d_L_law_764 3 rfl ?_
                                refine WP.iconst d_L_law_765 ki_3 ?_
                                refine WP.iadd d_L_law_766 ?_
                                obtain ⟨x168, ex168, H⟩ := ob H
                                refine WP.scl d_L_law_767 ex168 ?_
                                refine WP.aload_n d_L_law_768 0 rfl ?_
                                refine WP.iload_n d_L_law_769 3 rfl ?_
                                refine WP.iconst d_L_law_770 ki_4 ?_
                                refine WP.iadd d_L_law_771 ?_
                                obtain ⟨x169, ex169, H⟩ := ob H
                                refine WP.scl d_L_law_772 ex169 ?_
                                obtain ⟨⟨x172, h171⟩, e170, H⟩ := ob H
                                refine WP.cV (c := 9) (As := [.int x166, .int x167, .int x168, .int x169]) (st := [.int x165]) (st9 := [.int x172, .int x165]) (cl9 := cl) (sl9 := sl) d_L_law_773 (ok_X8_near V e170) tv_X8_near ti_X8_near ts_X8_near lk_L_72 ⟨Nat.le_of_ble_eq_true rfl, Nat.le_of_ble_eq_true rfl, (by have := mM_X8_near; have := mS_X8_near; omega), (by have := mM_X8_near; have := mS_X8_near; omega)⟩ kc_X8_near (kd_X8_near e170) rfl rfl (Nat.le_of_ble_eq_true rfl) rfl rfl rfl ?_
                                rcases oj H with ⟨hc, H⟩ | ⟨hc, H⟩
                                · refine WP.icmp_eq_t d_L_law_776 hc ?_
                                  refine WP.iinc (lv9 := [(3, .int (l3 + 6)), (0, .ref (vE V 9)), (1, .ref l1), (2, .ref l2)]) d_L_law_1954 3 rfl ki_6 (Nat.le_of_ble_eq_true rfl) rfl ?_
                                  refine WP.goto d_L_law_1957 ?_
                                  refine WP.sub [1, 2, 3, 0] (lv' := [(0, .ref (vE V 9)), (1, .ref l1), (2, .ref l2), (3, .int (l3 + 6))]) rfl ?_
                                  refine WP.widen (cl' := cl + 47) (sl' := sl + 4165) (by omega) (by omega) ?_
                                  exact ih H (by omega) (by omega)
                                · refine WP.icmp_eq_f d_L_law_776 hc ?_
                                  refine WP.iconst d_L_law_779 ki_0 ?_
                                  cases H
                                  exact WP.ireturn d_L_law_780 rfl rfl (by omega) (by omega)
                              · skip
                                rcases oj H with ⟨hq13, H⟩ | ⟨hq13, H⟩
                                · refine WP.tsw (t := 781) 13 d_L_law_33 (by rw [hq13]; decide) (by decide) rfl (by decide) ?_
                                  refine WP.aload_n d_L_law_781 1 rfl ?_
                                  refine WP.aload_n d_L_law_782 0 rfl ?_
                                  refine WP.iload_n d_L_law_783 3 rfl ?_
                                  refine WP.iconst d_L_law_784 ki_1 ?_
                                  refine WP.iadd d_L_law_785 ?_
                                  obtain ⟨x173, ex173, H⟩ := ob H
                                  refine WP.scl d_L_law_786 ex173 ?_
                                  refine WP.aload_n d_L_law_787 0 rfl ?_
                                  refine WP.iload_n d_L_law_788 3 rfl ?_
                                  refine WP.iconst d_L_law_789 ki_2 ?_
                                  refine WP.iadd d_L_law_790 ?_
                                  obtain ⟨x174, ex174, H⟩ := ob H
                                  refine WP.scl d_L_law_791 ex174 ?_
                                  refine WP.aload_n d_L_law_792 0 rfl ?_
                                  refine WP.iload_n d_L_law_793 3 rfl ?_
                                  refine WP.iconst d_L_law_794 ki_3 ?_
                                  refine WP.iadd d_L_law_795 ?_
                                  obtain ⟨x175, ex175, H⟩ := ob H
                                  refine WP.scl d_L_law_796 ex175 ?_
                                  refine WP.aload_n d_L_law_797 0 rfl ?_
                                  refine WP.iload_n d_L_law_798 3 rfl ?_
                                  refine WP.iconst d_L_law_799 ki_4 ?_
                                  refine WP.iadd d_L_law_800 ?_
                                  obtain ⟨x176, ex176, H⟩ := ob H
                                  refine WP.scl d_L_law_801 ex176 ?_
                                  obtain ⟨⟨x179, h178⟩, e177, H⟩ := ob H
                                  refine WP.cV (c := 8) (As := [.int x173, .int x174, .int x175, .int x176]) (st := []) (st9 := [.int x179]) (cl9 := (cl + 3)) (sl9 := (sl + 4165)) d_L_law_802 (ok_X7_round V e177) tv_X7_round ti_X7_round ts_X7_round lk_L_73 ⟨Nat.le_of_ble_eq_true rfl, Nat.le_of_ble_eq_true rfl, (by have := mM_X7_round; have := mS_X7_round; omega), (by have := mM_X7_round; have := mS_X7_round; omega)⟩ kc_X7_round (kd_X7_round e177) rfl rfl (Nat.le_of_ble_eq_true rfl) rfl rfl rfl ?_
                                  refine WP.aload_n d_L_law_805 2 rfl ?_
                                  refine WP.aload_n d_L_law_806 0 rfl ?_
                                  refine WP.iload_n d_L_law_807 3 rfl ?_
                                  refine WP.iconst d_L_law_808 ki_1 ?_
                                  refine WP.iadd d_L_law_809 ?_
                                  obtain ⟨x180, ex180, H⟩ := ob H
                                  refine WP.scl d_L_law_810 ex180 ?_
                                  refine WP.aload_n d_L_law_811 0 rfl ?_
                                  refine WP.iload_n d_L_law_812 3 rfl ?_
                                  refine WP.iconst d_L_law_813 ki_2 ?_
                                  refine WP.iadd d_L_law_814 ?_
                                  obtain ⟨x181, ex181, H⟩ := ob H
                                  refine WP.scl d_L_law_815 ex181 ?_
                                  refine WP.aload_n d_L_law_816 0 rfl ?_
                                  refine WP.iload_n d_L_law_817 3 rfl ?_
                                  refine WP.iconst d_L_law_818 ki_3 ?_
                                  refine WP.iadd d_L_law_819 ?_
                                  obtain ⟨x182, ex182, H⟩ := ob H
                                  refine WP.scl d_L_law_820 ex182 ?_
                                  refine WP.aload_n d_L_law_821 0 rfl ?_
                                  refine WP.iload_n d_L_law_822 3 rfl ?_
                                  refine WP.iconst d_L_law_823 ki_4 ?_
                                  refine WP.iadd d_L_law_824 ?_
                                  obtain ⟨x183, ex183, H⟩ := ob H
                                  refine WP.scl d_L_law_825 ex183 ?_
                                  obtain ⟨⟨x186, h185⟩, e184, H⟩ := ob H
                                  refine WP.cV (c := 9) (As := [.int x180, .int x181, .int x182, .int x183]) (st := [.int x179]) (st9 := [.int x186, .int x179]) (cl9 := (cl + 3)) (sl9 := (sl + 4165)) d_L_law_826 (ok_X8_round V e184) tv_X8_round ti_X8_round ts_X8_round lk_L_76 ⟨Nat.le_of_ble_eq_true rfl, Nat.le_of_ble_eq_true rfl, (by have := mM_X8_round; have := mS_X8_round; omega), (by have := mM_X8_round; have := mS_X8_round; omega)⟩ kc_X8_round (kd_X8_round e184) rfl rfl (Nat.le_of_ble_eq_true rfl) rfl rfl rfl ?_
                                  rcases oj H with ⟨hc, H⟩ | ⟨hc, H⟩
                                  · refine WP.icmp_eq_t d_L_law_829 hc ?_
                                    refine WP.iinc (lv9 := [(3, .int (l3 + 6)), (0, .ref (vE V 9)), (1, .ref l1), (2, .ref l2)]) d_L_law_1954 3 rfl ki_6 (Nat.le_of_ble_eq_true rfl) rfl ?_
                                    refine WP.goto d_L_law_1957 ?_
                                    refine WP.sub [1, 2, 3, 0] (lv' := [(0, .ref (vE V 9)), (1, .ref l1), (2, .ref l2), (3, .int (l3 + 6))]) rfl ?_
                                    refine WP.widen (cl' := cl + 47) (sl' := sl + 4165) (by omega) (by omega) ?_
                                    exact ih H (by omega) (by omega)
                                  · refine WP.icmp_eq_f d_L_law_829 hc ?_
                                    refine WP.iconst d_L_law_832 ki_0 ?_
                                    cases H
                                    exact WP.ireturn d_L_law_833 rfl rfl (by omega) (by omega)
                                · skip
                                  rcases oj H with ⟨hq14, H⟩ | ⟨hq14, H⟩
                                  · refine WP.tsw (t := 834) 14 d_L_law_33 (by rw [hq14]; decide) (by decide) rfl (by decide) ?_
                                    refine WP.aload_n d_L_law_834 1 rfl ?_
                                    refine WP.aload_n d_L_law_835 0 rfl ?_
                                    refine WP.iload_n d_L_law_836 3 rfl ?_
                                    refine WP.iconst d_L_law_837 ki_1 ?_
                                    refine WP.iadd d_L_law_838 ?_
                                    obtain ⟨x187, ex187, H⟩ := ob H
                                    refine WP.scl d_L_law_839 ex187 ?_
                                    refine WP.aload_n d_L_law_840 0 rfl ?_
                                    refine WP.iload_n d_L_law_841 3 rfl ?_
                                    refine WP.iconst d_L_law_842 ki_2 ?_
                                    refine WP.iadd d_L_law_843 ?_
                                    obtain ⟨x188, ex188, H⟩ := ob H
                                    refine WP.scl d_L_law_844 ex188 ?_
                                    refine WP.aload_n d_L_law_845 0 rfl ?_
                                    refine WP.iload_n d_L_law_846 3 rfl ?_
                                    refine WP.iconst d_L_law_847 ki_3 ?_
                                    refine WP.iadd d_L_law_848 ?_
                                    obtain ⟨x189, ex189, H⟩ := ob H
                                    refine WP.scl d_L_law_849 ex189 ?_
                                    refine WP.aload_n d_L_law_850 0 rfl ?_
                                    refine WP.iload_n d_L_law_851 3 rfl ?_
                                    refine WP.iconst d_L_law_852 ki_4 ?_
                                    refine WP.iadd d_L_law_853 ?_
                                    obtain ⟨x190, ex190, H⟩ := ob H
                                    refine WP.scl d_L_law_854 ex190 ?_
                                    obtain ⟨⟨x193, h192⟩, e191, H⟩ := ob H
                                    refine WP.cV (c := 8) (As := [.int x187, .int x188, .int x189, .int x190]) (st := []) (st9 := [.int x193]) (cl9 := cl) (sl9 := sl) d_L_law_855 (ok_X7_echo V e191) tv_X7_echo ti_X7_echo ts_X7_echo lk_L_77 ⟨Nat.le_of_ble_eq_true rfl, Nat.le_of_ble_eq_true rfl, (by have := mM_X7_echo; have := mS_X7_echo; omega), (by have := mM_X7_echo; have := mS_X7_echo; omega)⟩ kc_X7_echo (kd_X7_echo e191) rfl rfl (Nat.le_of_ble_eq_true rfl) rfl rfl rfl ?_
                                    refine WP.aload_n d_L_law_858 2 rfl ?_
                                    refine WP.aload_n d_L_law_859 0 rfl ?_
                                    refine WP.iload_n d_L_law_860 3 rfl ?_
                                    refine WP.iconst d_L_law_861 ki_1 ?_
                                    refine WP.iadd d_L_law_862 ?_
                                    obtain ⟨x194, ex194, H⟩ := ob H
                                    refine WP.scl d_L_law_863 ex194 ?_
                                    refine WP.aload_n d_L_law_864 0 rfl ?_
                                    refine WP.iload_n d_L_law_865 3 rfl ?_
                                    refine WP.iconst d_L_law_866 ki_2 ?_
                                    refine WP.iadd d_L_law_867 ?_
                                    obtain ⟨x195, ex195, H⟩ := ob H
                                    refine WP.scl d_L_law_868 ex195 ?_
                                    refine WP.aload_n d_L_law_869 0 rfl ?_
                                    refine WP.iload_n d_L_law_870 3 rfl ?_
                                    refine WP.iconst d_L_law_871 ki_3 ?_
                                    refine WP.iadd d_L_law_872 ?_
                                    obtain ⟨x196, ex196, H⟩ := ob H
                                    refine WP.scl d_L_law_873 ex196 ?_
                                    refine WP.aload_n d_L_law_874 0 rfl ?_
                                    refine WP.iload_n d_L_law_875 3 rfl ?_
                                    refine WP.iconst d_L_law_876 ki_4 ?_
                                    refine WP.iadd d_L_law_877 ?_
                                    obtain ⟨x197, ex197, H⟩ := ob H
                                    refine WP.scl d_L_law_878 ex197 ?_
                                    obtain ⟨⟨x200, h199⟩, e198, H⟩ := ob H
                                    refine WP.cV (c := 9) (As := [.int x194, .int x195, .int x196, .int x197]) (st := [.int x193]) (st9 := [.int x200, .int x193]) (cl9 := cl) (sl9 := sl) d_L_law_879 (ok_X8_echo V e198) tv_X8_echo ti_X8_echo ts_X8_echo lk_L_80 ⟨Nat.le_of_ble_eq_true rfl, Nat.le_of_ble_eq_true rfl, (by have := mM_X8_echo; have := mS_X8_echo; omega), (by have := mM_X8_echo; have := mS_X8_echo; omega)⟩ kc_X8_echo (kd_X8_echo e198) rfl rfl (Nat.le_of_ble_eq_true rfl) rfl rfl rfl ?_
                                    rcases oj H with ⟨hc, H⟩ | ⟨hc, H⟩
                                    · refine WP.icmp_eq_t d_L_law_882 hc ?_
                                      refine WP.iinc (lv9 := [(3, .int (l3 + 6)), (0, .ref (vE V 9)), (1, .ref l1), (2, .ref l2)]) d_L_law_1954 3 rfl ki_6 (Nat.le_of_ble_eq_true rfl) rfl ?_
                                      refine WP.goto d_L_law_1957 ?_
                                      refine WP.sub [1, 2, 3, 0] (lv' := [(0, .ref (vE V 9)), (1, .ref l1), (2, .ref l2), (3, .int (l3 + 6))]) rfl ?_
                                      refine WP.widen (cl' := cl + 47) (sl' := sl + 4165) (by omega) (by omega) ?_
                                      exact ih H (by omega) (by omega)
                                    · refine WP.icmp_eq_f d_L_law_882 hc ?_
                                      refine WP.iconst d_L_law_885 ki_0 ?_
                                      cases H
                                      exact WP.ireturn d_L_law_886 rfl rfl (by omega) (by omega)
                                  · skip
                                    rcases oj H with ⟨hq15, H⟩ | ⟨hq15, H⟩
                                    · refine WP.tsw (t := 887) 15 d_L_law_33 (by rw [hq15]; decide) (by decide) rfl (by decide) ?_
                                      refine WP.aload_n d_L_law_887 1 rfl ?_
                                      refine WP.aload_n d_L_law_888 0 rfl ?_
                                      refine WP.iload_n d_L_law_889 3 rfl ?_
                                      refine WP.iconst d_L_law_890 ki_1 ?_
                                      refine WP.iadd d_L_law_891 ?_
                                      obtain ⟨x201, ex201, H⟩ := ob H
                                      refine WP.scl d_L_law_892 ex201 ?_
                                      refine WP.aload_n d_L_law_893 0 rfl ?_
                                      refine WP.iload_n d_L_law_894 3 rfl ?_
                                      refine WP.iconst d_L_law_895 ki_2 ?_
                                      refine WP.iadd d_L_law_896 ?_
                                      obtain ⟨x202, ex202, H⟩ := ob H
                                      refine WP.scl d_L_law_897 ex202 ?_
                                      refine WP.aload_n d_L_law_898 0 rfl ?_
                                      refine WP.iload_n d_L_law_899 3 rfl ?_
                                      refine WP.iconst d_L_law_900 ki_3 ?_
                                      refine WP.iadd d_L_law_901 ?_
                                      obtain ⟨x203, ex203, H⟩ := ob H
                                      refine WP.scl d_L_law_902 ex203 ?_
                                      obtain ⟨x205, e204, H⟩ := ob H
                                      refine WP.cV (c := 8) (As := [.int x201, .int x202, .int x203]) (st := []) (st9 := [.int x205]) (cl9 := cl) (sl9 := sl) d_L_law_903 (ok_X7_deed V e204) tv_X7_deed ti_X7_deed ts_X7_deed lk_L_81 ⟨Nat.le_of_ble_eq_true rfl, Nat.le_of_ble_eq_true rfl, (by have := mM_X7_deed; have := mS_X7_deed; omega), (by have := mM_X7_deed; have := mS_X7_deed; omega)⟩ kc_X7_deed (kd_X7_deed e204) rfl rfl (Nat.le_of_ble_eq_true rfl) rfl rfl rfl ?_
                                      refine WP.aload_n d_L_law_906 2 rfl ?_
                                      refine WP.aload_n d_L_law_907 0 rfl ?_
                                      refine WP.iload_n d_L_law_908 3 rfl ?_
                                      refine WP.iconst d_L_law_909 ki_1 ?_
                                      refine WP.iadd d_L_law_910 ?_
                                      obtain ⟨x206, ex206, H⟩ := ob H
                                      refine WP.scl d_L_law_911 ex206 ?_
                                      refine WP.aload_n d_L_law_912 0 rfl ?_
                                      refine WP.iload_n d_L_law_913 3 rfl ?_
                                      refine WP.iconst d_L_law_914 ki_2 ?_
                                      refine WP.iadd d_L_law_915 ?_
                                      obtain ⟨x207, ex207, H⟩ := ob H
                                      refine WP.scl d_L_law_916 ex207 ?_
                                      refine WP.aload_n d_L_law_917 0 rfl ?_
                                      refine WP.iload_n d_L_law_918 3 rfl ?_
                                      refine WP.iconst d_L_law_919 ki_3 ?_
                                      refine WP.iadd d_L_law_920 ?_
                                      obtain ⟨x208, ex208, H⟩ := ob H
                                      refine WP.scl d_L_law_921 ex208 ?_
                                      obtain ⟨⟨x211, h210⟩, e209, H⟩ := ob H
                                      refine WP.cV (c := 9) (As := [.int x206, .int x207, .int x208]) (st := [.int x205]) (st9 := [.int x211, .int x205]) (cl9 := cl) (sl9 := sl) d_L_law_922 (ok_X8_deed V e209) tv_X8_deed ti_X8_deed ts_X8_deed lk_L_84 ⟨Nat.le_of_ble_eq_true rfl, Nat.le_of_ble_eq_true rfl, (by have := mM_X8_deed; have := mS_X8_deed; omega), (by have := mM_X8_deed; have := mS_X8_deed; omega)⟩ kc_X8_deed (kd_X8_deed e209) rfl rfl (Nat.le_of_ble_eq_true rfl) rfl rfl rfl ?_
                                      rcases oj H with ⟨hc, H⟩ | ⟨hc, H⟩
                                      · refine WP.icmp_eq_t d_L_law_925 hc ?_
                                        refine WP.iinc (lv9 := [(3, .int (l3 + 6)), (0, .ref (vE V 9)), (1, .ref l1), (2, .ref l2)]) d_L_law_1954 3 rfl ki_6 (Nat.le_of_ble_eq_true rfl) rfl ?_
                                        refine WP.goto d_L_law_1957 ?_
                                        refine WP.sub [1, 2, 3, 0] (lv' := [(0, .ref (vE V 9)), (1, .ref l1), (2, .ref l2), (3, .int (l3 + 6))]) rfl ?_
                                        refine WP.widen (cl' := cl + 47) (sl' := sl + 4165) (by omega) (by omega) ?_
                                        exact ih H (by omega) (by omega)
                                      · refine WP.icmp_eq_f d_L_law_925 hc ?_
                                        refine WP.iconst d_L_law_928 ki_0 ?_
                                        cases H
                                        exact WP.ireturn d_L_law_929 rfl rfl (by omega) (by omega)
                                    · skip
                                      rcases oj H with ⟨hq16, H⟩ | ⟨hq16, H⟩
                                      · refine WP.tsw (t := 930) 16 d_L_law_33 (by rw [hq16]; decide) (by decide) rfl (by decide) ?_
                                        refine WP.aload_n d_L_law_930 1 rfl ?_
                                        refine WP.aload_n d_L_law_931 0 rfl ?_
                                        refine WP.iload_n d_L_law_932 3 rfl ?_
                                        refine WP.iconst d_L_law_933 ki_1 ?_
                                        refine WP.iadd d_L_law_934 ?_
                                        obtain ⟨x212, ex212, H⟩ := ob H
                                        refine WP.scl d_L_law_935 ex212 ?_
                                        refine WP.aload_n d_L_law_936 0 rfl ?_
                                        refine WP.iload_n d_L_law_937 3 rfl ?_
                                        refine WP.iconst d_L_law_938 ki_2 ?_
                                        refine WP.iadd d_L_law_939 ?_
                                        obtain ⟨x213, ex213, H⟩ := ob H
                                        refine WP.scl d_L_law_940 ex213 ?_
                                        obtain ⟨⟨x216, h215⟩, e214, H⟩ := ob H
                                        refine WP.cV (c := 8) (As := [.int x212, .int x213]) (st := []) (st9 := [.int x216]) (cl9 := cl) (sl9 := sl) d_L_law_941 (ok_X7_stop V e214) tv_X7_stop ti_X7_stop ts_X7_stop lk_L_85 ⟨Nat.le_of_ble_eq_true rfl, Nat.le_of_ble_eq_true rfl, (by have := mM_X7_stop; have := mS_X7_stop; omega), (by have := mM_X7_stop; have := mS_X7_stop; omega)⟩ kc_X7_stop (kd_X7_stop e214) rfl rfl (Nat.le_of_ble_eq_true rfl) rfl rfl rfl ?_
                                        refine WP.aload_n d_L_law_944 2 rfl ?_
                                        refine WP.aload_n d_L_law_945 0 rfl ?_
                                        refine WP.iload_n d_L_law_946 3 rfl ?_
                                        refine WP.iconst d_L_law_947 ki_1 ?_
                                        refine WP.iadd d_L_law_948 ?_
                                        obtain ⟨x217, ex217, H⟩ := ob H
                                        refine WP.scl d_L_law_949 ex217 ?_
                                        refine WP.aload_n d_L_law_950 0 rfl ?_
                                        refine WP.iload_n d_L_law_951 3 rfl ?_
                                        refine WP.iconst d_L_law_952 ki_2 ?_
                                        refine WP.iadd d_L_law_953 ?_
                                        obtain ⟨x218, ex218, H⟩ := ob H
                                        refine WP.scl d_L_law_954 ex218 ?_
                                        obtain ⟨⟨x221, h220⟩, e219, H⟩ := ob H
                                        refine WP.cV (c := 9) (As := [.int x217, .int x218]) (st := [.int x216]) (st9 := [.int x221, .int x216]) (cl9 := cl) (sl9 := sl) d_L_law_955 (ok_X8_stop V e219) tv_X8_stop ti_X8_stop ts_X8_stop lk_L_88 ⟨Nat.le_of_ble_eq_true rfl, Nat.le_of_ble_eq_true rfl, (by have := mM_X8_stop; have := mS_X8_stop; omega), (by have := mM_X8_stop; have := mS_X8_stop; omega)⟩ kc_X8_stop (kd_X8_stop e219) rfl rfl (Nat.le_of_ble_eq_true rfl) rfl rfl rfl ?_
                                        rcases oj H with ⟨hc, H⟩ | ⟨hc, H⟩
                                        · refine WP.icmp_eq_t d_L_law_958 hc ?_
                                          refine WP.iinc (lv9 := [(3, .int (l3 + 6)), (0, .ref (vE V 9)), (1, .ref l1), (2, .ref l2)]) d_L_law_1954 3 rfl ki_6 (Nat.le_of_ble_eq_true rfl) rfl ?_
                                          refine WP.goto d_L_law_1957 ?_
                                          refine WP.sub [1, 2, 3, 0] (lv' := [(0, .ref (vE V 9)), (1, .ref l1), (2, .ref l2), (3, .int (l3 + 6))]) rfl ?_
                                          refine WP.widen (cl' := cl + 47) (sl' := sl + 4165) (by omega) (by omega) ?_
                                          exact ih H (by omega) (by omega)
                                        · refine WP.icmp_eq_f d_L_law_958 hc ?_
                                          refine WP.iconst d_L_law_961 ki_0 ?_
                                          cases H
                                          exact WP.ireturn d_L_law_962 rfl rfl (by omega) (by omega)
                                      · skip
                                        rcases oj H with ⟨hq17, H⟩ | ⟨hq17, H⟩
                                        · refine WP.tsw (t := 963) 17 d_L_law_33 (by rw [hq17]; decide) (by decide) rfl (by decide) ?_
                                          refine WP.aload_n d_L_law_963 1 rfl ?_
                                          refine WP.aload_n d_L_law_964 0 rfl ?_
                                          refine WP.iload_n d_L_law_965 3 rfl ?_
                                          refine WP.iconst d_L_law_966 ki_1 ?_
                                          refine WP.iadd d_L_law_967 ?_
                                          obtain ⟨x222, ex222, H⟩ := ob H
                                          refine WP.scl d_L_law_968 ex222 ?_
                                          refine WP.aload_n d_L_law_969 0 rfl ?_
                                          refine WP.iload_n d_L_law_970 3 rfl ?_
                                          refine WP.iconst d_L_law_971 ki_2 ?_
                                          refine WP.iadd d_L_law_972 ?_
                                          obtain ⟨x223, ex223, H⟩ := ob H
                                          refine WP.scl d_L_law_973 ex223 ?_
                                          refine WP.aload_n d_L_law_974 0 rfl ?_
                                          refine WP.iload_n d_L_law_975 3 rfl ?_
                                          refine WP.iconst d_L_law_976 ki_3 ?_
                                          refine WP.iadd d_L_law_977 ?_
                                          obtain ⟨x224, ex224, H⟩ := ob H
                                          refine WP.scl d_L_law_978 ex224 ?_
                                          refine WP.aload_n d_L_law_979 0 rfl ?_
                                          refine WP.iload_n d_L_law_980 3 rfl ?_
                                          refine WP.iconst d_L_law_981 ki_4 ?_
                                          refine WP.iadd d_L_law_982 ?_
                                          obtain ⟨x225, ex225, H⟩ := ob H
                                          refine WP.scl d_L_law_983 ex225 ?_
                                          refine WP.aload_n d_L_law_984 0 rfl ?_
                                          refine WP.iload_n d_L_law_985 3 rfl ?_
                                          refine WP.iconst d_L_law_986 ki_5 ?_
                                          refine WP.iadd d_L_law_987 ?_
                                          obtain ⟨x226, ex226, H⟩ := ob H
                                          refine WP.scl d_L_law_988 ex226 ?_
                                          obtain ⟨j227, hs228, H⟩ := ol H
                                          have J229 : WP V M_L_law 997 [(0, .ref (vE V 9)), (1, .ref l1), (2, .ref l2), (3, .int l3)] [.int j227, .int x225, .int x224, .int x223, .int x222, .ref l1] h cl sl (some (.int r)) hR := by
                                            obtain ⟨⟨x232, h231⟩, e230, H⟩ := ob H
                                            refine WP.cV (c := 8) (As := [.int x222, .int x223, .int x224, .int x225, .int j227]) (st := []) (st9 := [.int x232]) (cl9 := cl) (sl9 := sl) d_L_law_997 (ok_X7_stands V e230) tv_X7_stands ti_X7_stands ts_X7_stands lk_L_89 ⟨Nat.le_of_ble_eq_true rfl, Nat.le_of_ble_eq_true rfl, (by have := mM_X7_stands; have := mS_X7_stands; omega), (by have := mM_X7_stands; have := mS_X7_stands; omega)⟩ kc_X7_stands (kd_X7_stands e230) rfl rfl (Nat.le_of_ble_eq_true rfl) rfl rfl rfl ?_
                                            refine WP.aload_n d_L_law_1000 2 rfl ?_
                                            refine WP.aload_n d_L_law_1001 0 rfl ?_
                                            refine WP.iload_n d_L_law_1002 3 rfl ?_
                                            refine WP.iconst d_L_law_1003 ki_1 ?_
                                            refine WP.iadd d_L_law_1004 ?_
                                            obtain ⟨x233, ex233, H⟩ := ob H
                                            refine WP.scl d_L_law_1005 ex233 ?_
                                            refine WP.aload_n d_L_law_1006 0 rfl ?_
                                            refine WP.iload_n d_L_law_1007 3 rfl ?_
                                            refine WP.iconst d_L_law_1008 ki_2 ?_
                                            refine WP.iadd d_L_law_1009 ?_
                                            obtain ⟨x234, ex234, H⟩ := ob H
                                            refine WP.scl d_L_law_1010 ex234 ?_
                                            refine WP.aload_n d_L_law_1011 0 rfl ?_
                                            refine WP.iload_n d_L_law_1012 3 rfl ?_
                                            refine WP.iconst d_L_law_1013 ki_3 ?_
                                            refine WP.iadd d_L_law_1014 ?_
                                            obtain ⟨x235, ex235, H⟩ := ob H
                                            refine WP.scl d_L_law_1015 ex235 ?_
                                            refine WP.aload_n d_L_law_1016 0 rfl ?_
                                            refine WP.iload_n d_L_law_1017 3 rfl ?_
                                            refine WP.iconst d_L_law_1018 ki_4 ?_
                                            refine WP.iadd d_L_law_1019 ?_
                                            obtain ⟨x236, ex236, H⟩ := ob H
                                            refine WP.scl d_L_law_1020 ex236 ?_
                                            refine WP.aload_n d_L_law_1021 0 rfl ?_
                                            refine WP.iload_n d_L_law_1022 3 rfl ?_
                                            refine WP.iconst d_L_law_1023 ki_5 ?_
                                            refine WP.iadd d_L_law_1024 ?_
                                            obtain ⟨x237, ex237, H⟩ := ob H
                                            refine WP.scl d_L_law_1025 ex237 ?_
                                            obtain ⟨j238, hs239, H⟩ := ol H
                                            have J240 : WP V M_L_law 1034 [(0, .ref (vE V 9)), (1, .ref l1), (2, .ref l2), (3, .int l3)] [.int j238, .int x236, .int x235, .int x234, .int x233, .ref l2, .int x232] h231 cl sl (some (.int r)) hR := by
                                              obtain ⟨⟨x243, h242⟩, e241, H⟩ := ob H
                                              refine WP.cV (c := 9) (As := [.int x233, .int x234, .int x235, .int x236, .int j238]) (st := [.int x232]) (st9 := [.int x243, .int x232]) (cl9 := cl) (sl9 := sl) d_L_law_1034 (ok_X8_stands V e241) tv_X8_stands ti_X8_stands ts_X8_stands lk_L_93 ⟨Nat.le_of_ble_eq_true rfl, Nat.le_of_ble_eq_true rfl, (by have := mM_X8_stands; have := mS_X8_stands; omega), (by have := mM_X8_stands; have := mS_X8_stands; omega)⟩ kc_X8_stands (kd_X8_stands e241) rfl rfl (Nat.le_of_ble_eq_true rfl) rfl rfl rfl ?_
                                              rcases oj H with ⟨hc, H⟩ | ⟨hc, H⟩
                                              · refine WP.icmp_eq_t d_L_law_1037 hc ?_
                                                refine WP.iinc (lv9 := [(3, .int (l3 + 6)), (0, .ref (vE V 9)), (1, .ref l1), (2, .ref l2)]) d_L_law_1954 3 rfl ki_6 (Nat.le_of_ble_eq_true rfl) rfl ?_
                                                refine WP.goto d_L_law_1957 ?_
                                                refine WP.sub [1, 2, 3, 0] (lv' := [(0, .ref (vE V 9)), (1, .ref l1), (2, .ref l2), (3, .int (l3 + 6))]) rfl ?_
                                                refine WP.widen (cl' := cl + 47) (sl' := sl + 4165) (by omega) (by omega) ?_
                                                exact ih H (by omega) (by omega)
                                              · refine WP.icmp_eq_f d_L_law_1037 hc ?_
                                                refine WP.iconst d_L_law_1040 ki_0 ?_
                                                cases H
                                                exact WP.ireturn d_L_law_1041 rfl rfl (by omega) (by omega)
                                            rcases oj hs239 with ⟨hc, hs239⟩ | ⟨hc, hs239⟩
                                            · refine WP.if_eq_t d_L_law_1026 hc ?_
                                              refine WP.iconst d_L_law_1033 ki_0 ?_
                                              cases hs239
                                              exact WP.sub [0, 1, 2, 3] rfl J240
                                            · refine WP.if_eq_f d_L_law_1026 hc ?_
                                              refine WP.iconst d_L_law_1029 ki_1 ?_
                                              refine WP.goto d_L_law_1030 ?_
                                              cases hs239
                                              exact WP.sub [0, 1, 2, 3] rfl J240
                                          rcases oj hs228 with ⟨hc, hs228⟩ | ⟨hc, hs228⟩
                                          · refine WP.if_eq_t d_L_law_989 hc ?_
                                            refine WP.iconst d_L_law_996 ki_0 ?_
                                            cases hs228
                                            exact WP.sub [0, 1, 2, 3] rfl J229
                                          · refine WP.if_eq_f d_L_law_989 hc ?_
                                            refine WP.iconst d_L_law_992 ki_1 ?_
                                            refine WP.goto d_L_law_993 ?_
                                            cases hs228
                                            exact WP.sub [0, 1, 2, 3] rfl J229
                                        · skip
                                          rcases oj H with ⟨hq18, H⟩ | ⟨hq18, H⟩
                                          · refine WP.tsw (t := 1042) 18 d_L_law_33 (by rw [hq18]; decide) (by decide) rfl (by decide) ?_
                                            refine WP.aload_n d_L_law_1042 1 rfl ?_
                                            refine WP.aload_n d_L_law_1043 0 rfl ?_
                                            refine WP.iload_n d_L_law_1044 3 rfl ?_
                                            refine WP.iconst d_L_law_1045 ki_1 ?_
                                            refine WP.iadd d_L_law_1046 ?_
                                            obtain ⟨x244, ex244, H⟩ := ob H
                                            refine WP.scl d_L_law_1047 ex244 ?_
                                            refine WP.aload_n d_L_law_1048 0 rfl ?_
                                            refine WP.iload_n d_L_law_1049 3 rfl ?_
                                            refine WP.iconst d_L_law_1050 ki_2 ?_
                                            refine WP.iadd d_L_law_1051 ?_
                                            obtain ⟨x245, ex245, H⟩ := ob H
                                            refine WP.scl d_L_law_1052 ex245 ?_
                                            refine WP.aload_n d_L_law_1053 0 rfl ?_
                                            refine WP.iload_n d_L_law_1054 3 rfl ?_
                                            refine WP.iconst d_L_law_1055 ki_3 ?_
                                            refine WP.iadd d_L_law_1056 ?_
                                            obtain ⟨x246, ex246, H⟩ := ob H
                                            refine WP.scl d_L_law_1057 ex246 ?_
                                            refine WP.aload_n d_L_law_1058 0 rfl ?_
                                            refine WP.iload_n d_L_law_1059 3 rfl ?_
                                            refine WP.iconst d_L_law_1060 ki_4 ?_
                                            refine WP.iadd d_L_law_1061 ?_
                                            obtain ⟨x247, ex247, H⟩ := ob H
                                            refine WP.scl d_L_law_1062 ex247 ?_
                                            obtain ⟨⟨x250, h249⟩, e248, H⟩ := ob H
                                            refine WP.cV (c := 8) (As := [.int x244, .int x245, .int x246, .int x247]) (st := []) (st9 := [.int x250]) (cl9 := cl) (sl9 := sl) d_L_law_1063 (ok_X7_knows V e248) tv_X7_knows ti_X7_knows ts_X7_knows lk_L_94 ⟨Nat.le_of_ble_eq_true rfl, Nat.le_of_ble_eq_true rfl, (by have := mM_X7_knows; have := mS_X7_knows; omega), (by have := mM_X7_knows; have := mS_X7_knows; omega)⟩ kc_X7_knows (kd_X7_knows e248) rfl rfl (Nat.le_of_ble_eq_true rfl) rfl rfl rfl ?_
                                            refine WP.aload_n d_L_law_1066 2 rfl ?_
                                            refine WP.aload_n d_L_law_1067 0 rfl ?_
                                            refine WP.iload_n d_L_law_1068 3 rfl ?_
                                            refine WP.iconst d_L_law_1069 ki_1 ?_
                                            refine WP.iadd d_L_law_1070 ?_
                                            obtain ⟨x251, ex251, H⟩ := ob H
                                            refine WP.scl d_L_law_1071 ex251 ?_
                                            refine WP.aload_n d_L_law_1072 0 rfl ?_
                                            refine WP.iload_n d_L_law_1073 3 rfl ?_
                                            refine WP.iconst d_L_law_1074 ki_2 ?_
                                            refine WP.iadd d_L_law_1075 ?_
                                            obtain ⟨x252, ex252, H⟩ := ob H
                                            refine WP.scl d_L_law_1076 ex252 ?_
                                            refine WP.aload_n d_L_law_1077 0 rfl ?_
                                            refine WP.iload_n d_L_law_1078 3 rfl ?_
                                            refine WP.iconst d_L_law_1079 ki_3 ?_
                                            refine WP.iadd d_L_law_1080 ?_
                                            obtain ⟨x253, ex253, H⟩ := ob H
                                            refine WP.scl d_L_law_1081 ex253 ?_
                                            refine WP.aload_n d_L_law_1082 0 rfl ?_
                                            refine WP.iload_n d_L_law_1083 3 rfl ?_
                                            refine WP.iconst d_L_law_1084 ki_4 ?_
                                            refine WP.iadd d_L_law_1085 ?_
                                            obtain ⟨x254, ex254, H⟩ := ob H
                                            refine WP.scl d_L_law_1086 ex254 ?_
                                            obtain ⟨⟨x257, h256⟩, e255, H⟩ := ob H
                                            refine WP.cV (c := 9) (As := [.int x251, .int x252, .int x253, .int x254]) (st := [.int x250]) (st9 := [.int x257, .int x250]) (cl9 := cl) (sl9 := sl) d_L_law_1087 (ok_X8_knows V e255) tv_X8_knows ti_X8_knows ts_X8_knows lk_L_97 ⟨Nat.le_of_ble_eq_true rfl, Nat.le_of_ble_eq_true rfl, (by have := mM_X8_knows; have := mS_X8_knows; omega), (by have := mM_X8_knows; have := mS_X8_knows; omega)⟩ kc_X8_knows (kd_X8_knows e255) rfl rfl (Nat.le_of_ble_eq_true rfl) rfl rfl rfl ?_
                                            rcases oj H with ⟨hc, H⟩ | ⟨hc, H⟩
                                            · refine WP.icmp_eq_t d_L_law_1090 hc ?_
                                              refine WP.iinc (lv9 := [(3, .int (l3 + 6)), (0, .ref (vE V 9)), (1, .ref l1), (2, .ref l2)]) d_L_law_1954 3 rfl ki_6 (Nat.le_of_ble_eq_true rfl) rfl ?_
                                              refine WP.goto d_L_law_1957 ?_
                                              refine WP.sub [1, 2, 3, 0] (lv' := [(0, .ref (vE V 9)), (1, .ref l1), (2, .ref l2), (3, .int (l3 + 6))]) rfl ?_
                                              refine WP.widen (cl' := cl + 47) (sl' := sl + 4165) (by omega) (by omega) ?_
                                              exact ih H (by omega) (by omega)
                                            · refine WP.icmp_eq_f d_L_law_1090 hc ?_
                                              refine WP.iconst d_L_law_1093 ki_0 ?_
                                              cases H
                                              exact WP.ireturn d_L_law_1094 rfl rfl (by omega) (by omega)
                                          · skip
                                            rcases oj H with ⟨hq19, H⟩ | ⟨hq19, H⟩
                                            · refine WP.tsw (t := 1095) 19 d_L_law_33 (by rw [hq19]; decide) (by decide) rfl (by decide) ?_
                                              refine WP.aload_n d_L_law_1095 1 rfl ?_
                                              refine WP.aload_n d_L_law_1096 0 rfl ?_
                                              refine WP.iload_n d_L_law_1097 3 rfl ?_
                                              refine WP.iconst d_L_law_1098 ki_1 ?_
                                              refine WP.iadd d_L_law_1099 ?_
                                              obtain ⟨x258, ex258, H⟩ := ob H
                                              refine WP.scl d_L_law_1100 ex258 ?_
                                              refine WP.aload_n d_L_law_1101 0 rfl ?_
                                              refine WP.iload_n d_L_law_1102 3 rfl ?_
                                              refine WP.iconst d_L_law_1103 ki_2 ?_
                                              refine WP.iadd d_L_law_1104 ?_
                                              obtain ⟨x259, ex259, H⟩ := ob H
                                              refine WP.scl d_L_law_1105 ex259 ?_
                                              refine WP.aload_n d_L_law_1106 0 rfl ?_
                                              refine WP.iload_n d_L_law_1107 3 rfl ?_
                                              refine WP.iconst d_L_law_1108 ki_3 ?_
                                              refine WP.iadd d_L_law_1109 ?_
                                              obtain ⟨x260, ex260, H⟩ := ob H
                                              refine WP.scl d_L_law_1110 ex260 ?_
                                              obtain ⟨⟨x263, h262⟩, e261, H⟩ := ob H
                                              refine WP.cV (c := 8) (As := [.int x258, .int x259, .int x260]) (st := []) (st9 := [.int x263]) (cl9 := cl) (sl9 := sl) d_L_law_1111 (ok_X7_heard V e261) tv_X7_heard ti_X7_heard ts_X7_heard lk_L_98 ⟨Nat.le_of_ble_eq_true rfl, Nat.le_of_ble_eq_true rfl, (by have := mM_X7_heard; have := mS_X7_heard; omega), (by have := mM_X7_heard; have := mS_X7_heard; omega)⟩ kc_X7_heard (kd_X7_heard e261) rfl rfl (Nat.le_of_ble_eq_true rfl) rfl rfl rfl ?_
                                              refine WP.aload_n d_L_law_1114 2 rfl ?_
                                              refine WP.aload_n d_L_law_1115 0 rfl ?_
                                              refine WP.iload_n d_L_law_1116 3 rfl ?_
                                              refine WP.iconst d_L_law_1117 ki_1 ?_
                                              refine WP.iadd d_L_law_1118 ?_
                                              obtain ⟨x264, ex264, H⟩ := ob H
                                              refine WP.scl d_L_law_1119 ex264 ?_
                                              refine WP.aload_n d_L_law_1120 0 rfl ?_
                                              refine WP.iload_n d_L_law_1121 3 rfl ?_
                                              refine WP.iconst d_L_law_1122 ki_2 ?_
                                              refine WP.iadd d_L_law_1123 ?_
                                              obtain ⟨x265, ex265, H⟩ := ob H
                                              refine WP.scl d_L_law_1124 ex265 ?_
                                              refine WP.aload_n d_L_law_1125 0 rfl ?_
                                              refine WP.iload_n d_L_law_1126 3 rfl ?_
                                              refine WP.iconst d_L_law_1127 ki_3 ?_
                                              refine WP.iadd d_L_law_1128 ?_
                                              obtain ⟨x266, ex266, H⟩ := ob H
                                              refine WP.scl d_L_law_1129 ex266 ?_
                                              obtain ⟨⟨x269, h268⟩, e267, H⟩ := ob H
                                              refine WP.cV (c := 9) (As := [.int x264, .int x265, .int x266]) (st := [.int x263]) (st9 := [.int x269, .int x263]) (cl9 := cl) (sl9 := sl) d_L_law_1130 (ok_X8_heard V e267) tv_X8_heard ti_X8_heard ts_X8_heard lk_L_101 ⟨Nat.le_of_ble_eq_true rfl, Nat.le_of_ble_eq_true rfl, (by have := mM_X8_heard; have := mS_X8_heard; omega), (by have := mM_X8_heard; have := mS_X8_heard; omega)⟩ kc_X8_heard (kd_X8_heard e267) rfl rfl (Nat.le_of_ble_eq_true rfl) rfl rfl rfl ?_
                                              rcases oj H with ⟨hc, H⟩ | ⟨hc, H⟩
                                              · refine WP.icmp_eq_t d_L_law_1133 hc ?_
                                                refine WP.iinc (lv9 := [(3, .int (l3 + 6)), (0, .ref (vE V 9)), (1, .ref l1), (2, .ref l2)]) d_L_law_1954 3 rfl ki_6 (Nat.le_of_ble_eq_true rfl) rfl ?_
                                                refine WP.goto d_L_law_1957 ?_
                                                refine WP.sub [1, 2, 3, 0] (lv' := [(0, .ref (vE V 9)), (1, .ref l1), (2, .ref l2), (3, .int (l3 + 6))]) rfl ?_
                                                refine WP.widen (cl' := cl + 47) (sl' := sl + 4165) (by omega) (by omega) ?_
                                                exact ih H (by omega) (by omega)
                                              · refine WP.icmp_eq_f d_L_law_1133 hc ?_
                                                refine WP.iconst d_L_law_1136 ki_0 ?_
                                                cases H
                                                exact WP.ireturn d_L_law_1137 rfl rfl (by omega) (by omega)
                                            · skip
                                              rcases oj H with ⟨hq20, H⟩ | ⟨hq20, H⟩
                                              · refine WP.tsw (t := 1138) 20 d_L_law_33 (by rw [hq20]; decide) (by decide) rfl (by decide) ?_
                                                refine WP.aload_n d_L_law_1138 1 rfl ?_
                                                refine WP.aload_n d_L_law_1139 0 rfl ?_
                                                refine WP.iload_n d_L_law_1140 3 rfl ?_
                                                refine WP.iconst d_L_law_1141 ki_1 ?_
                                                refine WP.iadd d_L_law_1142 ?_
                                                obtain ⟨x270, ex270, H⟩ := ob H
                                                refine WP.scl d_L_law_1143 ex270 ?_
                                                refine WP.aload_n d_L_law_1144 0 rfl ?_
                                                refine WP.iload_n d_L_law_1145 3 rfl ?_
                                                refine WP.iconst d_L_law_1146 ki_2 ?_
                                                refine WP.iadd d_L_law_1147 ?_
                                                obtain ⟨x271, ex271, H⟩ := ob H
                                                refine WP.scl d_L_law_1148 ex271 ?_
                                                refine WP.aload_n d_L_law_1149 0 rfl ?_
                                                refine WP.iload_n d_L_law_1150 3 rfl ?_
                                                refine WP.iconst d_L_law_1151 ki_3 ?_
                                                refine WP.iadd d_L_law_1152 ?_
                                                obtain ⟨x272, ex272, H⟩ := ob H
                                                refine WP.scl d_L_law_1153 ex272 ?_
                                                obtain ⟨x274, e273, H⟩ := ob H
                                                refine WP.cV (c := 8) (As := [.int x270, .int x271, .int x272]) (st := []) (st9 := [.int x274]) (cl9 := cl) (sl9 := sl) d_L_law_1154 (ok_X7_rule V e273) tv_X7_rule ti_X7_rule ts_X7_rule lk_L_102 ⟨Nat.le_of_ble_eq_true rfl, Nat.le_of_ble_eq_true rfl, (by have := mM_X7_rule; have := mS_X7_rule; omega), (by have := mM_X7_rule; have := mS_X7_rule; omega)⟩ kc_X7_rule (kd_X7_rule e273) rfl rfl (Nat.le_of_ble_eq_true rfl) rfl rfl rfl ?_
                                                refine WP.aload_n d_L_law_1157 2 rfl ?_
                                                refine WP.aload_n d_L_law_1158 0 rfl ?_
                                                refine WP.iload_n d_L_law_1159 3 rfl ?_
                                                refine WP.iconst d_L_law_1160 ki_1 ?_
                                                refine WP.iadd d_L_law_1161 ?_
                                                obtain ⟨x275, ex275, H⟩ := ob H
                                                refine WP.scl d_L_law_1162 ex275 ?_
                                                refine WP.aload_n d_L_law_1163 0 rfl ?_
                                                refine WP.iload_n d_L_law_1164 3 rfl ?_
                                                refine WP.iconst d_L_law_1165 ki_2 ?_
                                                refine WP.iadd d_L_law_1166 ?_
                                                obtain ⟨x276, ex276, H⟩ := ob H
                                                refine WP.scl d_L_law_1167 ex276 ?_
                                                refine WP.aload_n d_L_law_1168 0 rfl ?_
                                                refine WP.iload_n d_L_law_1169 3 rfl ?_
                                                refine WP.iconst d_L_law_1170 ki_3 ?_
                                                refine WP.iadd d_L_law_1171 ?_
                                                obtain ⟨x277, ex277, H⟩ := ob H
                                                refine WP.scl d_L_law_1172 ex277 ?_
                                                obtain ⟨⟨x280, h279⟩, e278, H⟩ := ob H
                                                refine WP.cV (c := 9) (As := [.int x275, .int x276, .int x277]) (st := [.int x274]) (st9 := [.int x280, .int x274]) (cl9 := cl) (sl9 := sl) d_L_law_1173 (ok_X8_rule V e278) tv_X8_rule ti_X8_rule ts_X8_rule lk_L_105 ⟨Nat.le_of_ble_eq_true rfl, Nat.le_of_ble_eq_true rfl, (by have := mM_X8_rule; have := mS_X8_rule; omega), (by have := mM_X8_rule; have := mS_X8_rule; omega)⟩ kc_X8_rule (kd_X8_rule e278) rfl rfl (Nat.le_of_ble_eq_true rfl) rfl rfl rfl ?_
                                                rcases oj H with ⟨hc, H⟩ | ⟨hc, H⟩
                                                · refine WP.icmp_eq_t d_L_law_1176 hc ?_
                                                  refine WP.iinc (lv9 := [(3, .int (l3 + 6)), (0, .ref (vE V 9)), (1, .ref l1), (2, .ref l2)]) d_L_law_1954 3 rfl ki_6 (Nat.le_of_ble_eq_true rfl) rfl ?_
                                                  refine WP.goto d_L_law_1957 ?_
                                                  refine WP.sub [1, 2, 3, 0] (lv' := [(0, .ref (vE V 9)), (1, .ref l1), (2, .ref l2), (3, .int (l3 + 6))]) rfl ?_
                                                  refine WP.widen (cl' := cl + 47) (sl' := sl + 4165) (by omega) (by omega) ?_
                                                  exact ih H (by omega) (by omega)
                                                · refine WP.icmp_eq_f d_L_law_1176 hc ?_
                                                  refine WP.iconst d_L_law_1179 ki_0 ?_
                                                  cases H
                                                  exact WP.ireturn d_L_law_1180 rfl rfl (by omega) (by omega)
                                              · skip
                                                rcases oj H with ⟨hq21, H⟩ | ⟨hq21, H⟩
                                                · refine WP.tsw (t := 1181) 21 d_L_law_33 (by rw [hq21]; decide) (by decide) rfl (by decide) ?_
                                                  refine WP.aload_n d_L_law_1181 1 rfl ?_
                                                  refine WP.aload_n d_L_law_1182 0 rfl ?_
                                                  refine WP.iload_n d_L_law_1183 3 rfl ?_
                                                  refine WP.iconst d_L_law_1184 ki_1 ?_
                                                  refine WP.iadd d_L_law_1185 ?_
                                                  obtain ⟨x281, ex281, H⟩ := ob H
                                                  refine WP.scl d_L_law_1186 ex281 ?_
                                                  refine WP.aload_n d_L_law_1187 0 rfl ?_
                                                  refine WP.iload_n d_L_law_1188 3 rfl ?_
                                                  refine WP.iconst d_L_law_1189 ki_2 ?_
                                                  refine WP.iadd d_L_law_1190 ?_
                                                  obtain ⟨x282, ex282, H⟩ := ob H
                                                  refine WP.scl d_L_law_1191 ex282 ?_
                                                  refine WP.aload_n d_L_law_1192 0 rfl ?_
                                                  refine WP.iload_n d_L_law_1193 3 rfl ?_
                                                  refine WP.iconst d_L_law_1194 ki_3 ?_
                                                  refine WP.iadd d_L_law_1195 ?_
                                                  obtain ⟨x283, ex283, H⟩ := ob H
                                                  refine WP.scl d_L_law_1196 ex283 ?_
                                                  refine WP.aload_n d_L_law_1197 0 rfl ?_
                                                  refine WP.iload_n d_L_law_1198 3 rfl ?_
                                                  refine WP.iconst d_L_law_1199 ki_4 ?_
                                                  refine WP.iadd d_L_law_1200 ?_
                                                  obtain ⟨x284, ex284, H⟩ := ob H
                                                  refine WP.scl d_L_law_1201 ex284 ?_
                                                  obtain ⟨⟨x287, h286⟩, e285, H⟩ := ob H
                                                  refine WP.cV (c := 8) (As := [.int x281, .int x282, .int x283, .int x284]) (st := []) (st9 := [.int x287]) (cl9 := cl) (sl9 := sl) d_L_law_1202 (ok_X7_votes V e285) tv_X7_votes ti_X7_votes ts_X7_votes lk_L_106 ⟨Nat.le_of_ble_eq_true rfl, Nat.le_of_ble_eq_true rfl, (by have := mM_X7_votes; have := mS_X7_votes; omega), (by have := mM_X7_votes; have := mS_X7_votes; omega)⟩ kc_X7_votes (kd_X7_votes e285) rfl rfl (Nat.le_of_ble_eq_true rfl) rfl rfl rfl ?_
                                                  refine WP.aload_n d_L_law_1205 2 rfl ?_
                                                  refine WP.aload_n d_L_law_1206 0 rfl ?_
                                                  refine WP.iload_n d_L_law_1207 3 rfl ?_
                                                  refine WP.iconst d_L_law_1208 ki_1 ?_
                                                  refine WP.iadd d_L_law_1209 ?_
                                                  obtain ⟨x288, ex288, H⟩ := ob H
                                                  refine WP.scl d_L_law_1210 ex288 ?_
                                                  refine WP.aload_n d_L_law_1211 0 rfl ?_
                                                  refine WP.iload_n d_L_law_1212 3 rfl ?_
                                                  refine WP.iconst d_L_law_1213 ki_2 ?_
                                                  refine WP.iadd d_L_law_1214 ?_
                                                  obtain ⟨x289, ex289, H⟩ := ob H
                                                  refine WP.scl d_L_law_1215 ex289 ?_
                                                  refine WP.aload_n d_L_law_1216 0 rfl ?_
                                                  refine WP.iload_n d_L_law_1217 3 rfl ?_
                                                  refine WP.iconst d_L_law_1218 ki_3 ?_
                                                  refine WP.iadd d_L_law_1219 ?_
                                                  obtain ⟨x290, ex290, H⟩ := ob H
                                                  refine WP.scl d_L_law_1220 ex290 ?_
                                                  refine WP.aload_n d_L_law_1221 0 rfl ?_
                                                  refine WP.iload_n d_L_law_1222 3 rfl ?_
                                                  refine WP.iconst d_L_law_1223 ki_4 ?_
                                                  refine WP.iadd d_L_law_1224 ?_
                                                  obtain ⟨x291, ex291, H⟩ := ob H
                                                  refine WP.scl d_L_law_1225 ex291 ?_
                                                  obtain ⟨⟨x294, h293⟩, e292, H⟩ := ob H
                                                  refine WP.cV (c := 9) (As := [.int x288, .int x289, .int x290, .int x291]) (st := [.int x287]) (st9 := [.int x294, .int x287]) (cl9 := cl) (sl9 := sl) d_L_law_1226 (ok_X8_votes V e292) tv_X8_votes ti_X8_votes ts_X8_votes lk_L_109 ⟨Nat.le_of_ble_eq_true rfl, Nat.le_of_ble_eq_true rfl, (by have := mM_X8_votes; have := mS_X8_votes; omega), (by have := mM_X8_votes; have := mS_X8_votes; omega)⟩ kc_X8_votes (kd_X8_votes e292) rfl rfl (Nat.le_of_ble_eq_true rfl) rfl rfl rfl ?_
                                                  rcases oj H with ⟨hc, H⟩ | ⟨hc, H⟩
                                                  · refine WP.icmp_eq_t d_L_law_1229 hc ?_
                                                    refine WP.iinc (lv9 := [(3, .int (l3 + 6)), (0, .ref (vE V 9)), (1, .ref l1), (2, .ref l2)]) d_L_law_1954 3 rfl ki_6 (Nat.le_of_ble_eq_true rfl) rfl ?_
                                                    refine WP.goto d_L_law_1957 ?_
                                                    refine WP.sub [1, 2, 3, 0] (lv' := [(0, .ref (vE V 9)), (1, .ref l1), (2, .ref l2), (3, .int (l3 + 6))]) rfl ?_
                                                    refine WP.widen (cl' := cl + 47) (sl' := sl + 4165) (by omega) (by omega) ?_
                                                    exact ih H (by omega) (by omega)
                                                  · refine WP.icmp_eq_f d_L_law_1229 hc ?_
                                                    refine WP.iconst d_L_law_1232 ki_0 ?_
                                                    cases H
                                                    exact WP.ireturn d_L_law_1233 rfl rfl (by omega) (by omega)
                                                · skip
                                                  rcases oj H with ⟨hq22, H⟩ | ⟨hq22, H⟩
                                                  · refine WP.tsw (t := 1234) 22 d_L_law_33 (by rw [hq22]; decide) (by decide) rfl (by decide) ?_
                                                    refine WP.aload_n d_L_law_1234 1 rfl ?_
                                                    refine WP.aload_n d_L_law_1235 0 rfl ?_
                                                    refine WP.iload_n d_L_law_1236 3 rfl ?_
                                                    refine WP.iconst d_L_law_1237 ki_1 ?_
                                                    refine WP.iadd d_L_law_1238 ?_
                                                    obtain ⟨x295, ex295, H⟩ := ob H
                                                    refine WP.scl d_L_law_1239 ex295 ?_
                                                    refine WP.aload_n d_L_law_1240 0 rfl ?_
                                                    refine WP.iload_n d_L_law_1241 3 rfl ?_
                                                    refine WP.iconst d_L_law_1242 ki_2 ?_
                                                    refine WP.iadd d_L_law_1243 ?_
                                                    obtain ⟨x296, ex296, H⟩ := ob H
                                                    refine WP.scl d_L_law_1244 ex296 ?_
                                                    refine WP.aload_n d_L_law_1245 0 rfl ?_
                                                    refine WP.iload_n d_L_law_1246 3 rfl ?_
                                                    refine WP.iconst d_L_law_1247 ki_3 ?_
                                                    refine WP.iadd d_L_law_1248 ?_
                                                    obtain ⟨x297, ex297, H⟩ := ob H
                                                    refine WP.scl d_L_law_1249 ex297 ?_
                                                    refine WP.aload_n d_L_law_1250 0 rfl ?_
                                                    refine WP.iload_n d_L_law_1251 3 rfl ?_
                                                    refine WP.iconst d_L_law_1252 ki_4 ?_
                                                    refine WP.iadd d_L_law_1253 ?_
                                                    obtain ⟨x298, ex298, H⟩ := ob H
                                                    refine WP.scl d_L_law_1254 ex298 ?_
                                                    obtain ⟨⟨x301, h300⟩, e299, H⟩ := ob H
                                                    refine WP.cV (c := 8) (As := [.int x295, .int x296, .int x297, .int x298]) (st := []) (st9 := [.int x301]) (cl9 := cl) (sl9 := sl) d_L_law_1255 (ok_X7_sway V e299) tv_X7_sway ti_X7_sway ts_X7_sway lk_L_110 ⟨Nat.le_of_ble_eq_true rfl, Nat.le_of_ble_eq_true rfl, (by have := mM_X7_sway; have := mS_X7_sway; omega), (by have := mM_X7_sway; have := mS_X7_sway; omega)⟩ kc_X7_sway (kd_X7_sway e299) rfl rfl (Nat.le_of_ble_eq_true rfl) rfl rfl rfl ?_
                                                    refine WP.aload_n d_L_law_1258 2 rfl ?_
                                                    refine WP.aload_n d_L_law_1259 0 rfl ?_
                                                    refine WP.iload_n d_L_law_1260 3 rfl ?_
                                                    refine WP.iconst d_L_law_1261 ki_1 ?_
                                                    refine WP.iadd d_L_law_1262 ?_
                                                    obtain ⟨x302, ex302, H⟩ := ob H
                                                    refine WP.scl d_L_law_1263 ex302 ?_
                                                    refine WP.aload_n d_L_law_1264 0 rfl ?_
                                                    refine WP.iload_n d_L_law_1265 3 rfl ?_
                                                    refine WP.iconst d_L_law_1266 ki_2 ?_
                                                    refine WP.iadd d_L_law_1267 ?_
                                                    obtain ⟨x303, ex303, H⟩ := ob H
                                                    refine WP.scl d_L_law_1268 ex303 ?_
                                                    refine WP.aload_n d_L_law_1269 0 rfl ?_
                                                    refine WP.iload_n d_L_law_1270 3 rfl ?_
                                                    refine WP.iconst d_L_law_1271 ki_3 ?_
                                                    refine WP.iadd d_L_law_1272 ?_
                                                    obtain ⟨x304, ex304, H⟩ := ob H
                                                    refine WP.scl d_L_law_1273 ex304 ?_
                                                    refine WP.aload_n d_L_law_1274 0 rfl ?_
                                                    refine WP.iload_n d_L_law_1275 3 rfl ?_
                                                    refine WP.iconst d_L_law_1276 ki_4 ?_
                                                    refine WP.iadd d_L_law_1277 ?_
                                                    obtain ⟨x305, ex305, H⟩ := ob H
                                                    refine WP.scl d_L_law_1278 ex305 ?_
                                                    obtain ⟨⟨x308, h307⟩, e306, H⟩ := ob H
                                                    refine WP.cV (c := 9) (As := [.int x302, .int x303, .int x304, .int x305]) (st := [.int x301]) (st9 := [.int x308, .int x301]) (cl9 := cl) (sl9 := sl) d_L_law_1279 (ok_X8_sway V e306) tv_X8_sway ti_X8_sway ts_X8_sway lk_L_113 ⟨Nat.le_of_ble_eq_true rfl, Nat.le_of_ble_eq_true rfl, (by have := mM_X8_sway; have := mS_X8_sway; omega), (by have := mM_X8_sway; have := mS_X8_sway; omega)⟩ kc_X8_sway (kd_X8_sway e306) rfl rfl (Nat.le_of_ble_eq_true rfl) rfl rfl rfl ?_
                                                    rcases oj H with ⟨hc, H⟩ | ⟨hc, H⟩
                                                    · refine WP.icmp_eq_t d_L_law_1282 hc ?_
                                                      refine WP.iinc (lv9 := [(3, .int (l3 + 6)), (0, .ref (vE V 9)), (1, .ref l1), (2, .ref l2)]) d_L_law_1954 3 rfl ki_6 (Nat.le_of_ble_eq_true rfl) rfl ?_
                                                      refine WP.goto d_L_law_1957 ?_
                                                      refine WP.sub [1, 2, 3, 0] (lv' := [(0, .ref (vE V 9)), (1, .ref l1), (2, .ref l2), (3, .int (l3 + 6))]) rfl ?_
                                                      refine WP.widen (cl' := cl + 47) (sl' := sl + 4165) (by omega) (by omega) ?_
                                                      exact ih H (by omega) (by omega)
                                                    · refine WP.icmp_eq_f d_L_law_1282 hc ?_
                                                      refine WP.iconst d_L_law_1285 ki_0 ?_
                                                      cases H
                                                      exact WP.ireturn d_L_law_1286 rfl rfl (by omega) (by omega)
                                                  · skip
                                                    rcases oj H with ⟨hq23, H⟩ | ⟨hq23, H⟩
                                                    · refine WP.tsw (t := 1287) 23 d_L_law_33 (by rw [hq23]; decide) (by decide) rfl (by decide) ?_
                                                      refine WP.aload_n d_L_law_1287 1 rfl ?_
                                                      refine WP.aload_n d_L_law_1288 0 rfl ?_
                                                      refine WP.iload_n d_L_law_1289 3 rfl ?_
                                                      refine WP.iconst d_L_law_1290 ki_1 ?_
                                                      refine WP.iadd d_L_law_1291 ?_
                                                      obtain ⟨x309, ex309, H⟩ := ob H
                                                      refine WP.scl d_L_law_1292 ex309 ?_
                                                      refine WP.aload_n d_L_law_1293 0 rfl ?_
                                                      refine WP.iload_n d_L_law_1294 3 rfl ?_
                                                      refine WP.iconst d_L_law_1295 ki_2 ?_
                                                      refine WP.iadd d_L_law_1296 ?_
                                                      obtain ⟨x310, ex310, H⟩ := ob H
                                                      refine WP.scl d_L_law_1297 ex310 ?_
                                                      refine WP.aload_n d_L_law_1298 0 rfl ?_
                                                      refine WP.iload_n d_L_law_1299 3 rfl ?_
                                                      refine WP.iconst d_L_law_1300 ki_3 ?_
                                                      refine WP.iadd d_L_law_1301 ?_
                                                      obtain ⟨x311, ex311, H⟩ := ob H
                                                      refine WP.scl d_L_law_1302 ex311 ?_
                                                      refine WP.aload_n d_L_law_1303 0 rfl ?_
                                                      refine WP.iload_n d_L_law_1304 3 rfl ?_
                                                      refine WP.iconst d_L_law_1305 ki_4 ?_
                                                      refine WP.iadd d_L_law_1306 ?_
                                                      obtain ⟨x312, ex312, H⟩ := ob H
                                                      refine WP.scl d_L_law_1307 ex312 ?_
                                                      obtain ⟨j313, hs314, H⟩ := ol H
                                                      have J315 : WP V M_L_law 1316 [(0, .ref (vE V 9)), (1, .ref l1), (2, .ref l2), (3, .int l3)] [.int j313, .int x311, .int x310, .int x309, .ref l1] h cl sl (some (.int r)) hR := by
                                                        obtain ⟨⟨x318, h317⟩, e316, H⟩ := ob H
                                                        refine WP.cV (c := 8) (As := [.int x309, .int x310, .int x311, .int j313]) (st := []) (st9 := [.int x318]) (cl9 := cl) (sl9 := sl) d_L_law_1316 (ok_X7_sold V e316) tv_X7_sold ti_X7_sold ts_X7_sold lk_L_114 ⟨Nat.le_of_ble_eq_true rfl, Nat.le_of_ble_eq_true rfl, (by have := mM_X7_sold; have := mS_X7_sold; omega), (by have := mM_X7_sold; have := mS_X7_sold; omega)⟩ kc_X7_sold (kd_X7_sold e316) rfl rfl (Nat.le_of_ble_eq_true rfl) rfl rfl rfl ?_
                                                        refine WP.aload_n d_L_law_1319 2 rfl ?_
                                                        refine WP.aload_n d_L_law_1320 0 rfl ?_
                                                        refine WP.iload_n d_L_law_1321 3 rfl ?_
                                                        refine WP.iconst d_L_law_1322 ki_1 ?_
                                                        refine WP.iadd d_L_law_1323 ?_
                                                        obtain ⟨x319, ex319, H⟩ := ob H
                                                        refine WP.scl d_L_law_1324 ex319 ?_
                                                        refine WP.aload_n d_L_law_1325 0 rfl ?_
                                                        refine WP.iload_n d_L_law_1326 3 rfl ?_
                                                        refine WP.iconst d_L_law_1327 ki_2 ?_
                                                        refine WP.iadd d_L_law_1328 ?_
                                                        obtain ⟨x320, ex320, H⟩ := ob H
                                                        refine WP.scl d_L_law_1329 ex320 ?_
                                                        refine WP.aload_n d_L_law_1330 0 rfl ?_
                                                        refine WP.iload_n d_L_law_1331 3 rfl ?_
                                                        refine WP.iconst d_L_law_1332 ki_3 ?_
                                                        refine WP.iadd d_L_law_1333 ?_
                                                        obtain ⟨x321, ex321, H⟩ := ob H
                                                        refine WP.scl d_L_law_1334 ex321 ?_
                                                        refine WP.aload_n d_L_law_1335 0 rfl ?_
                                                        refine WP.iload_n d_L_law_1336 3 rfl ?_
                                                        refine WP.iconst d_L_law_1337 ki_4 ?_
                                                        refine WP.iadd d_L_law_1338 ?_
                                                        obtain ⟨x322, ex322, H⟩ := ob H
                                                        refine WP.scl d_L_law_1339 ex322 ?_
                                                        obtain ⟨j323, hs324, H⟩ := ol H
                                                        have J325 : WP V M_L_law 1348 [(0, .ref (vE V 9)), (1, .ref l1), (2, .ref l2), (3, .int l3)] [.int j323, .int x321, .int x320, .int x319, .ref l2, .int x318] h317 cl sl (some (.int r)) hR := by
                                                          obtain ⟨⟨x328, h327⟩, e326, H⟩ := ob H
                                                          refine WP.cV (c := 9) (As := [.int x319, .int x320, .int x321, .int j323]) (st := [.int x318]) (st9 := [.int x328, .int x318]) (cl9 := cl) (sl9 := sl) d_L_law_1348 (ok_X8_sold V e326) tv_X8_sold ti_X8_sold ts_X8_sold lk_L_117 ⟨Nat.le_of_ble_eq_true rfl, Nat.le_of_ble_eq_true rfl, (by have := mM_X8_sold; have := mS_X8_sold; omega), (by have := mM_X8_sold; have := mS_X8_sold; omega)⟩ kc_X8_sold (kd_X8_sold e326) rfl rfl (Nat.le_of_ble_eq_true rfl) rfl rfl rfl ?_
                                                          rcases oj H with ⟨hc, H⟩ | ⟨hc, H⟩
                                                          · refine WP.icmp_eq_t d_L_law_1351 hc ?_
                                                            refine WP.iinc (lv9 := [(3, .int (l3 + 6)), (0, .ref (vE V 9)), (1, .ref l1), (2, .ref l2)]) d_L_law_1954 3 rfl ki_6 (Nat.le_of_ble_eq_true rfl) rfl ?_
                                                            refine WP.goto d_L_law_1957 ?_
                                                            refine WP.sub [1, 2, 3, 0] (lv' := [(0, .ref (vE V 9)), (1, .ref l1), (2, .ref l2), (3, .int (l3 + 6))]) rfl ?_
                                                            refine WP.widen (cl' := cl + 47) (sl' := sl + 4165) (by omega) (by omega) ?_
                                                            exact ih H (by omega) (by omega)
                                                          · refine WP.icmp_eq_f d_L_law_1351 hc ?_
                                                            refine WP.iconst d_L_law_1354 ki_0 ?_
                                                            cases H
                                                            exact WP.ireturn d_L_law_1355 rfl rfl (by omega) (by omega)
                                                        rcases oj hs324 with ⟨hc, hs324⟩ | ⟨hc, hs324⟩
                                                        · refine WP.if_eq_t d_L_law_1340 hc ?_
                                                          refine WP.iconst d_L_law_1347 ki_0 ?_
                                                          cases hs324
                                                          exact WP.sub [0, 1, 2, 3] rfl J325
                                                        · refine WP.if_eq_f d_L_law_1340 hc ?_
                                                          refine WP.iconst d_L_law_1343 ki_1 ?_
                                                          refine WP.goto d_L_law_1344 ?_
                                                          cases hs324
                                                          exact WP.sub [0, 1, 2, 3] rfl J325
                                                      rcases oj hs314 with ⟨hc, hs314⟩ | ⟨hc, hs314⟩
                                                      · refine WP.if_eq_t d_L_law_1308 hc ?_
                                                        refine WP.iconst d_L_law_1315 ki_0 ?_
                                                        cases hs314
                                                        exact WP.sub [0, 1, 2, 3] rfl J315
                                                      · refine WP.if_eq_f d_L_law_1308 hc ?_
                                                        refine WP.iconst d_L_law_1311 ki_1 ?_
                                                        refine WP.goto d_L_law_1312 ?_
                                                        cases hs314
                                                        exact WP.sub [0, 1, 2, 3] rfl J315
                                                    · skip
                                                      rcases oj H with ⟨hq24, H⟩ | ⟨hq24, H⟩
                                                      · refine WP.tsw (t := 1356) 24 d_L_law_33 (by rw [hq24]; decide) (by decide) rfl (by decide) ?_
                                                        refine WP.aload_n d_L_law_1356 1 rfl ?_
                                                        refine WP.aload_n d_L_law_1357 0 rfl ?_
                                                        refine WP.iload_n d_L_law_1358 3 rfl ?_
                                                        refine WP.iconst d_L_law_1359 ki_1 ?_
                                                        refine WP.iadd d_L_law_1360 ?_
                                                        obtain ⟨x329, ex329, H⟩ := ob H
                                                        refine WP.scl d_L_law_1361 ex329 ?_
                                                        refine WP.aload_n d_L_law_1362 0 rfl ?_
                                                        refine WP.iload_n d_L_law_1363 3 rfl ?_
                                                        refine WP.iconst d_L_law_1364 ki_2 ?_
                                                        refine WP.iadd d_L_law_1365 ?_
                                                        obtain ⟨x330, ex330, H⟩ := ob H
                                                        refine WP.scl d_L_law_1366 ex330 ?_
                                                        refine WP.aload_n d_L_law_1367 0 rfl ?_
                                                        refine WP.iload_n d_L_law_1368 3 rfl ?_
                                                        refine WP.iconst d_L_law_1369 ki_3 ?_
                                                        refine WP.iadd d_L_law_1370 ?_
                                                        obtain ⟨x331, ex331, H⟩ := ob H
                                                        refine WP.scl d_L_law_1371 ex331 ?_
                                                        obtain ⟨⟨x334, h333⟩, e332, H⟩ := ob H
                                                        refine WP.cV (c := 8) (As := [.int x329, .int x330, .int x331]) (st := []) (st9 := [.int x334]) (cl9 := cl) (sl9 := sl) d_L_law_1372 (ok_X7_seats V e332) tv_X7_seats ti_X7_seats ts_X7_seats lk_L_118 ⟨Nat.le_of_ble_eq_true rfl, Nat.le_of_ble_eq_true rfl, (by have := mM_X7_seats; have := mS_X7_seats; omega), (by have := mM_X7_seats; have := mS_X7_seats; omega)⟩ kc_X7_seats (kd_X7_seats e332) rfl rfl (Nat.le_of_ble_eq_true rfl) rfl rfl rfl ?_
                                                        refine WP.aload_n d_L_law_1375 2 rfl ?_
                                                        refine WP.aload_n d_L_law_1376 0 rfl ?_
                                                        refine WP.iload_n d_L_law_1377 3 rfl ?_
                                                        refine WP.iconst d_L_law_1378 ki_1 ?_
                                                        refine WP.iadd d_L_law_1379 ?_
                                                        obtain ⟨x335, ex335, H⟩ := ob H
                                                        refine WP.scl d_L_law_1380 ex335 ?_
                                                        refine WP.aload_n d_L_law_1381 0 rfl ?_
                                                        refine WP.iload_n d_L_law_1382 3 rfl ?_
                                                        refine WP.iconst d_L_law_1383 ki_2 ?_
                                                        refine WP.iadd d_L_law_1384 ?_
                                                        obtain ⟨x336, ex336, H⟩ := ob H
                                                        refine WP.scl d_L_law_1385 ex336 ?_
                                                        refine WP.aload_n d_L_law_1386 0 rfl ?_
                                                        refine WP.iload_n d_L_law_1387 3 rfl ?_
                                                        refine WP.iconst d_L_law_1388 ki_3 ?_
                                                        refine WP.iadd d_L_law_1389 ?_
                                                        obtain ⟨x337, ex337, H⟩ := ob H
                                                        refine WP.scl d_L_law_1390 ex337 ?_
                                                        obtain ⟨⟨x340, h339⟩, e338, H⟩ := ob H
                                                        refine WP.cV (c := 9) (As := [.int x335, .int x336, .int x337]) (st := [.int x334]) (st9 := [.int x340, .int x334]) (cl9 := cl) (sl9 := sl) d_L_law_1391 (ok_X8_seats V e338) tv_X8_seats ti_X8_seats ts_X8_seats lk_L_121 ⟨Nat.le_of_ble_eq_true rfl, Nat.le_of_ble_eq_true rfl, (by have := mM_X8_seats; have := mS_X8_seats; omega), (by have := mM_X8_seats; have := mS_X8_seats; omega)⟩ kc_X8_seats (kd_X8_seats e338) rfl rfl (Nat.le_of_ble_eq_true rfl) rfl rfl rfl ?_
                                                        rcases oj H with ⟨hc, H⟩ | ⟨hc, H⟩
                                                        · refine WP.icmp_eq_t d_L_law_1394 hc ?_
                                                          refine WP.iinc (lv9 := [(3, .int (l3 + 6)), (0, .ref (vE V 9)), (1, .ref l1), (2, .ref l2)]) d_L_law_1954 3 rfl ki_6 (Nat.le_of_ble_eq_true rfl) rfl ?_
                                                          refine WP.goto d_L_law_1957 ?_
                                                          refine WP.sub [1, 2, 3, 0] (lv' := [(0, .ref (vE V 9)), (1, .ref l1), (2, .ref l2), (3, .int (l3 + 6))]) rfl ?_
                                                          refine WP.widen (cl' := cl + 47) (sl' := sl + 4165) (by omega) (by omega) ?_
                                                          exact ih H (by omega) (by omega)
                                                        · refine WP.icmp_eq_f d_L_law_1394 hc ?_
                                                          refine WP.iconst d_L_law_1397 ki_0 ?_
                                                          cases H
                                                          exact WP.ireturn d_L_law_1398 rfl rfl (by omega) (by omega)
                                                      · skip
                                                        rcases oj H with ⟨hq25, H⟩ | ⟨hq25, H⟩
                                                        · refine WP.tsw (t := 1399) 25 d_L_law_33 (by rw [hq25]; decide) (by decide) rfl (by decide) ?_
                                                          refine WP.aload_n d_L_law_1399 1 rfl ?_
                                                          refine WP.aload_n d_L_law_1400 0 rfl ?_
                                                          refine WP.iload_n d_L_law_1401 3 rfl ?_
                                                          refine WP.iconst d_L_law_1402 ki_1 ?_
                                                          refine WP.iadd d_L_law_1403 ?_
                                                          obtain ⟨x341, ex341, H⟩ := ob H
                                                          refine WP.scl d_L_law_1404 ex341 ?_
                                                          refine WP.aload_n d_L_law_1405 0 rfl ?_
                                                          refine WP.iload_n d_L_law_1406 3 rfl ?_
                                                          refine WP.iconst d_L_law_1407 ki_2 ?_
                                                          refine WP.iadd d_L_law_1408 ?_
                                                          obtain ⟨x342, ex342, H⟩ := ob H
                                                          refine WP.scl d_L_law_1409 ex342 ?_
                                                          refine WP.aload_n d_L_law_1410 0 rfl ?_
                                                          refine WP.iload_n d_L_law_1411 3 rfl ?_
                                                          refine WP.iconst d_L_law_1412 ki_3 ?_
                                                          refine WP.iadd d_L_law_1413 ?_
                                                          obtain ⟨x343, ex343, H⟩ := ob H
                                                          refine WP.scl d_L_law_1414 ex343 ?_
                                                          obtain ⟨x345, e344, H⟩ := ob H
                                                          refine WP.cV (c := 8) (As := [.int x341, .int x342, .int x343]) (st := []) (st9 := [.int x345]) (cl9 := cl) (sl9 := sl) d_L_law_1415 (ok_X7_claim V e344) tv_X7_claim ti_X7_claim ts_X7_claim lk_L_122 ⟨Nat.le_of_ble_eq_true rfl, Nat.le_of_ble_eq_true rfl, (by have := mM_X7_claim; have := mS_X7_claim; omega), (by have := mM_X7_claim; have := mS_X7_claim; omega)⟩ kc_X7_claim (kd_X7_claim e344) rfl rfl (Nat.le_of_ble_eq_true rfl) rfl rfl rfl ?_
                                                          refine WP.aload_n d_L_law_1418 2 rfl ?_
                                                          refine WP.aload_n d_L_law_1419 0 rfl ?_
                                                          refine WP.iload_n d_L_law_1420 3 rfl ?_
                                                          refine WP.iconst d_L_law_1421 ki_1 ?_
                                                          refine WP.iadd d_L_law_1422 ?_
                                                          obtain ⟨x346, ex346, H⟩ := ob H
                                                          refine WP.scl d_L_law_1423 ex346 ?_
                                                          refine WP.aload_n d_L_law_1424 0 rfl ?_
                                                          refine WP.iload_n d_L_law_1425 3 rfl ?_
                                                          refine WP.iconst d_L_law_1426 ki_2 ?_
                                                          refine WP.iadd d_L_law_1427 ?_
                                                          obtain ⟨x347, ex347, H⟩ := ob H
                                                          refine WP.scl d_L_law_1428 ex347 ?_
                                                          refine WP.aload_n d_L_law_1429 0 rfl ?_
                                                          refine WP.iload_n d_L_law_1430 3 rfl ?_
                                                          refine WP.iconst d_L_law_1431 ki_3 ?_
                                                          refine WP.iadd d_L_law_1432 ?_
                                                          obtain ⟨x348, ex348, H⟩ := ob H
                                                          refine WP.scl d_L_law_1433 ex348 ?_
                                                          obtain ⟨⟨x351, h350⟩, e349, H⟩ := ob H
                                                          refine WP.cV (c := 9) (As := [.int x346, .int x347, .int x348]) (st := [.int x345]) (st9 := [.int x351, .int x345]) (cl9 := cl) (sl9 := sl) d_L_law_1434 (ok_X8_claim V e349) tv_X8_claim ti_X8_claim ts_X8_claim lk_L_125 ⟨Nat.le_of_ble_eq_true rfl, Nat.le_of_ble_eq_true rfl, (by have := mM_X8_claim; have := mS_X8_claim; omega), (by have := mM_X8_claim; have := mS_X8_claim; omega)⟩ kc_X8_claim (kd_X8_claim e349) rfl rfl (Nat.le_of_ble_eq_true rfl) rfl rfl rfl ?_
                                                          rcases oj H with ⟨hc, H⟩ | ⟨hc, H⟩
                                                          · refine WP.icmp_eq_t d_L_law_1437 hc ?_
                                                            refine WP.iinc (lv9 := [(3, .int (l3 + 6)), (0, .ref (vE V 9)), (1, .ref l1), (2, .ref l2)]) d_L_law_1954 3 rfl ki_6 (Nat.le_of_ble_eq_true rfl) rfl ?_
                                                            refine WP.goto d_L_law_1957 ?_
                                                            refine WP.sub [1, 2, 3, 0] (lv' := [(0, .ref (vE V 9)), (1, .ref l1), (2, .ref l2), (3, .int (l3 + 6))]) rfl ?_
                                                            refine WP.widen (cl' := cl + 47) (sl' := sl + 4165) (by omega) (by omega) ?_
                                                            exact ih H (by omega) (by omega)
                                                          · refine WP.icmp_eq_f d_L_law_1437 hc ?_
                                                            refine WP.iconst d_L_law_1440 ki_0 ?_
                                                            cases H
                                                            exact WP.ireturn d_L_law_1441 rfl rfl (by omega) (by omega)
                                                        · skip
                                                          rcases oj H with ⟨hq26, H⟩ | ⟨hq26, H⟩
                                                          · refine WP.tsw (t := 1442) 26 d_L_law_33 (by rw [hq26]; decide) (by decide) rfl (by decide) ?_
                                                            refine WP.aload_n d_L_law_1442 1 rfl ?_
                                                            refine WP.aload_n d_L_law_1443 0 rfl ?_
                                                            refine WP.iload_n d_L_law_1444 3 rfl ?_
                                                            refine WP.iconst d_L_law_1445 ki_1 ?_
                                                            refine WP.iadd d_L_law_1446 ?_
                                                            obtain ⟨x352, ex352, H⟩ := ob H
                                                            refine WP.scl d_L_law_1447 ex352 ?_
                                                            refine WP.aload_n d_L_law_1448 0 rfl ?_
                                                            refine WP.iload_n d_L_law_1449 3 rfl ?_
                                                            refine WP.iconst d_L_law_1450 ki_2 ?_
                                                            refine WP.iadd d_L_law_1451 ?_
                                                            obtain ⟨x353, ex353, H⟩ := ob H
                                                            refine WP.scl d_L_law_1452 ex353 ?_
                                                            refine WP.aload_n d_L_law_1453 0 rfl ?_
                                                            refine WP.iload_n d_L_law_1454 3 rfl ?_
                                                            refine WP.iconst d_L_law_1455 ki_3 ?_
                                                            refine WP.iadd d_L_law_1456 ?_
                                                            obtain ⟨x354, ex354, H⟩ := ob H
                                                            refine WP.scl d_L_law_1457 ex354 ?_
                                                            refine WP.aload_n d_L_law_1458 0 rfl ?_
                                                            refine WP.iload_n d_L_law_1459 3 rfl ?_
                                                            refine WP.iconst d_L_law_1460 ki_4 ?_
                                                            refine WP.iadd d_L_law_1461 ?_
                                                            obtain ⟨x355, ex355, H⟩ := ob H
                                                            refine WP.scl d_L_law_1462 ex355 ?_
                                                            obtain ⟨⟨x358, h357⟩, e356, H⟩ := ob H
                                                            refine WP.cV (c := 8) (As := [.int x352, .int x353, .int x354, .int x355]) (st := []) (st9 := [.int x358]) (cl9 := cl) (sl9 := sl) d_L_law_1463 (ok_X7_lips V e356) tv_X7_lips ti_X7_lips ts_X7_lips lk_L_126 ⟨Nat.le_of_ble_eq_true rfl, Nat.le_of_ble_eq_true rfl, (by have := mM_X7_lips; have := mS_X7_lips; omega), (by have := mM_X7_lips; have := mS_X7_lips; omega)⟩ kc_X7_lips (kd_X7_lips e356) rfl rfl (Nat.le_of_ble_eq_true rfl) rfl rfl rfl ?_
                                                            refine WP.aload_n d_L_law_1466 2 rfl ?_
                                                            refine WP.aload_n d_L_law_1467 0 rfl ?_
                                                            refine WP.iload_n d_L_law_1468 3 rfl ?_
                                                            refine WP.iconst d_L_law_1469 ki_1 ?_
                                                            refine WP.iadd d_L_law_1470 ?_
                                                            obtain ⟨x359, ex359, H⟩ := ob H
                                                            refine WP.scl d_L_law_1471 ex359 ?_
                                                            refine WP.aload_n d_L_law_1472 0 rfl ?_
                                                            refine WP.iload_n d_L_law_1473 3 rfl ?_
                                                            refine WP.iconst d_L_law_1474 ki_2 ?_
                                                            refine WP.iadd d_L_law_1475 ?_
                                                            obtain ⟨x360, ex360, H⟩ := ob H
                                                            refine WP.scl d_L_law_1476 ex360 ?_
                                                            refine WP.aload_n d_L_law_1477 0 rfl ?_
                                                            refine WP.iload_n d_L_law_1478 3 rfl ?_
                                                            refine WP.iconst d_L_law_1479 ki_3 ?_
                                                            refine WP.iadd d_L_law_1480 ?_
                                                            obtain ⟨x361, ex361, H⟩ := ob H
                                                            refine WP.scl d_L_law_1481 ex361 ?_
                                                            refine WP.aload_n d_L_law_1482 0 rfl ?_
                                                            refine WP.iload_n d_L_law_1483 3 rfl ?_
                                                            refine WP.iconst d_L_law_1484 ki_4 ?_
                                                            refine WP.iadd d_L_law_1485 ?_
                                                            obtain ⟨x362, ex362, H⟩ := ob H
                                                            refine WP.scl d_L_law_1486 ex362 ?_
                                                            obtain ⟨⟨x365, h364⟩, e363, H⟩ := ob H
                                                            refine WP.cV (c := 9) (As := [.int x359, .int x360, .int x361, .int x362]) (st := [.int x358]) (st9 := [.int x365, .int x358]) (cl9 := cl) (sl9 := sl) d_L_law_1487 (ok_X8_lips V e363) tv_X8_lips ti_X8_lips ts_X8_lips lk_L_129 ⟨Nat.le_of_ble_eq_true rfl, Nat.le_of_ble_eq_true rfl, (by have := mM_X8_lips; have := mS_X8_lips; omega), (by have := mM_X8_lips; have := mS_X8_lips; omega)⟩ kc_X8_lips (kd_X8_lips e363) rfl rfl (Nat.le_of_ble_eq_true rfl) rfl rfl rfl ?_
                                                            rcases oj H with ⟨hc, H⟩ | ⟨hc, H⟩
                                                            · refine WP.icmp_eq_t d_L_law_1490 hc ?_
                                                              refine WP.iinc (lv9 := [(3, .int (l3 + 6)), (0, .ref (vE V 9)), (1, .ref l1), (2, .ref l2)]) d_L_law_1954 3 rfl ki_6 (Nat.le_of_ble_eq_true rfl) rfl ?_
                                                              refine WP.goto d_L_law_1957 ?_
                                                              refine WP.sub [1, 2, 3, 0] (lv' := [(0, .ref (vE V 9)), (1, .ref l1), (2, .ref l2), (3, .int (l3 + 6))]) rfl ?_
                                                              refine WP.widen (cl' := cl + 47) (sl' := sl + 4165) (by omega) (by omega) ?_
                                                              exact ih H (by omega) (by omega)
                                                            · refine WP.icmp_eq_f d_L_law_1490 hc ?_
                                                              refine WP.iconst d_L_law_1493 ki_0 ?_
                                                              cases H
                                                              exact WP.ireturn d_L_law_1494 rfl rfl (by omega) (by omega)
                                                          · skip
                                                            rcases oj H with ⟨hq27, H⟩ | ⟨hq27, H⟩
                                                            · refine WP.tsw (t := 1495) 27 d_L_law_33 (by rw [hq27]; decide) (by decide) rfl (by decide) ?_
                                                              refine WP.aload_n d_L_law_1495 1 rfl ?_
                                                              refine WP.aload_n d_L_law_1496 0 rfl ?_
                                                              refine WP.iload_n d_L_law_1497 3 rfl ?_
                                                              refine WP.iconst d_L_law_1498 ki_1 ?_
                                                              refine WP.iadd d_L_law_1499 ?_
                                                              obtain ⟨x366, ex366, H⟩ := ob H
                                                              refine WP.scl d_L_law_1500 ex366 ?_
                                                              refine WP.aload_n d_L_law_1501 0 rfl ?_
                                                              refine WP.iload_n d_L_law_1502 3 rfl ?_
                                                              refine WP.iconst d_L_law_1503 ki_2 ?_
                                                              refine WP.iadd d_L_law_1504 ?_
                                                              obtain ⟨x367, ex367, H⟩ := ob H
                                                              refine WP.scl d_L_law_1505 ex367 ?_
                                                              refine WP.aload_n d_L_law_1506 0 rfl ?_
                                                              refine WP.iload_n d_L_law_1507 3 rfl ?_
                                                              refine WP.iconst d_L_law_1508 ki_3 ?_
                                                              refine WP.iadd d_L_law_1509 ?_
                                                              obtain ⟨x368, ex368, H⟩ := ob H
                                                              refine WP.scl d_L_law_1510 ex368 ?_
                                                              refine WP.aload_n d_L_law_1511 0 rfl ?_
                                                              refine WP.iload_n d_L_law_1512 3 rfl ?_
                                                              refine WP.iconst d_L_law_1513 ki_4 ?_
                                                              refine WP.iadd d_L_law_1514 ?_
                                                              obtain ⟨x369, ex369, H⟩ := ob H
                                                              refine WP.scl d_L_law_1515 ex369 ?_
                                                              refine WP.aload_n d_L_law_1516 0 rfl ?_
                                                              refine WP.iload_n d_L_law_1517 3 rfl ?_
                                                              refine WP.iconst d_L_law_1518 ki_5 ?_
                                                              refine WP.iadd d_L_law_1519 ?_
                                                              obtain ⟨x370, ex370, H⟩ := ob H
                                                              refine WP.scl d_L_law_1520 ex370 ?_
                                                              obtain ⟨⟨x373, h372⟩, e371, H⟩ := ob H
                                                              refine WP.cV (c := 8) (As := [.int x366, .int x367, .int x368, .int x369, .int x370]) (st := []) (st9 := [.int x373]) (cl9 := cl) (sl9 := sl) d_L_law_1521 (ok_X7_drawn V e371) tv_X7_drawn ti_X7_drawn ts_X7_drawn lk_L_130 ⟨Nat.le_of_ble_eq_true rfl, Nat.le_of_ble_eq_true rfl, (by have := mM_X7_drawn; have := mS_X7_drawn; omega), (by have := mM_X7_drawn; have := mS_X7_drawn; omega)⟩ kc_X7_drawn (kd_X7_drawn e371) rfl rfl (Nat.le_of_ble_eq_true rfl) rfl rfl rfl ?_
                                                              refine WP.aload_n d_L_law_1524 2 rfl ?_
                                                              refine WP.aload_n d_L_law_1525 0 rfl ?_
                                                              refine WP.iload_n d_L_law_1526 3 rfl ?_
                                                              refine WP.iconst d_L_law_1527 ki_1 ?_
                                                              refine WP.iadd d_L_law_1528 ?_
                                                              obtain ⟨x374, ex374, H⟩ := ob H
                                                              refine WP.scl d_L_law_1529 ex374 ?_
                                                              refine WP.aload_n d_L_law_1530 0 rfl ?_
                                                              refine WP.iload_n d_L_law_1531 3 rfl ?_
                                                              refine WP.iconst d_L_law_1532 ki_2 ?_
                                                              refine WP.iadd d_L_law_1533 ?_
                                                              obtain ⟨x375, ex375, H⟩ := ob H
                                                              refine WP.scl d_L_law_1534 ex375 ?_
                                                              refine WP.aload_n d_L_law_1535 0 rfl ?_
                                                              refine WP.iload_n d_L_law_1536 3 rfl ?_
                                                              refine WP.iconst d_L_law_1537 ki_3 ?_
                                                              refine WP.iadd d_L_law_1538 ?_
                                                              obtain ⟨x376, ex376, H⟩ := ob H
                                                              refine WP.scl d_L_law_1539 ex376 ?_
                                                              refine WP.aload_n d_L_law_1540 0 rfl ?_
                                                              refine WP.iload_n d_L_law_1541 3 rfl ?_
                                                              refine WP.iconst d_L_law_1542 ki_4 ?_
                                                              refine WP.iadd d_L_law_1543 ?_
                                                              obtain ⟨x377, ex377, H⟩ := ob H
                                                              refine WP.scl d_L_law_1544 ex377 ?_
                                                              refine WP.aload_n d_L_law_1545 0 rfl ?_
                                                              refine WP.iload_n d_L_law_1546 3 rfl ?_
                                                              refine WP.iconst d_L_law_1547 ki_5 ?_
                                                              refine WP.iadd d_L_law_1548 ?_
                                                              obtain ⟨x378, ex378, H⟩ := ob H
                                                              refine WP.scl d_L_law_1549 ex378 ?_
                                                              obtain ⟨⟨x381, h380⟩, e379, H⟩ := ob H
                                                              refine WP.cV (c := 9) (As := [.int x374, .int x375, .int x376, .int x377, .int x378]) (st := [.int x373]) (st9 := [.int x381, .int x373]) (cl9 := cl) (sl9 := sl) d_L_law_1550 (ok_X8_drawn V e379) tv_X8_drawn ti_X8_drawn ts_X8_drawn lk_L_133 ⟨Nat.le_of_ble_eq_true rfl, Nat.le_of_ble_eq_true rfl, (by have := mM_X8_drawn; have := mS_X8_drawn; omega), (by have := mM_X8_drawn; have := mS_X8_drawn; omega)⟩ kc_X8_drawn (kd_X8_drawn e379) rfl rfl (Nat.le_of_ble_eq_true rfl) rfl rfl rfl ?_
                                                              rcases oj H with ⟨hc, H⟩ | ⟨hc, H⟩
                                                              · refine WP.icmp_eq_t d_L_law_1553 hc ?_
                                                                refine WP.iinc (lv9 := [(3, .int (l3 + 6)), (0, .ref (vE V 9)), (1, .ref l1), (2, .ref l2)]) d_L_law_1954 3 rfl ki_6 (Nat.le_of_ble_eq_true rfl) rfl ?_
                                                                refine WP.goto d_L_law_1957 ?_
                                                                refine WP.sub [1, 2, 3, 0] (lv' := [(0, .ref (vE V 9)), (1, .ref l1), (2, .ref l2), (3, .int (l3 + 6))]) rfl ?_
                                                                refine WP.widen (cl' := cl + 47) (sl' := sl + 4165) (by omega) (by omega) ?_
                                                                exact ih H (by omega) (by omega)
                                                              · refine WP.icmp_eq_f d_L_law_1553 hc ?_
                                                                refine WP.iconst d_L_law_1556 ki_0 ?_
                                                                cases H
                                                                exact WP.ireturn d_L_law_1557 rfl rfl (by omega) (by omega)
                                                            · skip
                                                              rcases oj H with ⟨hq28, H⟩ | ⟨hq28, H⟩
                                                              · refine WP.tsw (t := 1558) 28 d_L_law_33 (by rw [hq28]; decide) (by decide) rfl (by decide) ?_
                                                                refine WP.aload_n d_L_law_1558 1 rfl ?_
                                                                refine WP.aload_n d_L_law_1559 0 rfl ?_
                                                                refine WP.iload_n d_L_law_1560 3 rfl ?_
                                                                refine WP.iconst d_L_law_1561 ki_1 ?_
                                                                refine WP.iadd d_L_law_1562 ?_
                                                                obtain ⟨x382, ex382, H⟩ := ob H
                                                                refine WP.scl d_L_law_1563 ex382 ?_
                                                                refine WP.aload_n d_L_law_1564 0 rfl ?_
                                                                refine WP.iload_n d_L_law_1565 3 rfl ?_
                                                                refine WP.iconst d_L_law_1566 ki_2 ?_
                                                                refine WP.iadd d_L_law_1567 ?_
                                                                obtain ⟨x383, ex383, H⟩ := ob H
                                                                refine WP.scl d_L_law_1568 ex383 ?_
                                                                refine WP.aload_n d_L_law_1569 0 rfl ?_
                                                                refine WP.iload_n d_L_law_1570 3 rfl ?_
                                                                refine WP.iconst d_L_law_1571 ki_3 ?_
                                                                refine WP.iadd d_L_law_1572 ?_
                                                                obtain ⟨x384, ex384, H⟩ := ob H
                                                                refine WP.scl d_L_law_1573 ex384 ?_
                                                                refine WP.aload_n d_L_law_1574 0 rfl ?_
                                                                refine WP.iload_n d_L_law_1575 3 rfl ?_
                                                                refine WP.iconst d_L_law_1576 ki_4 ?_
                                                                refine WP.iadd d_L_law_1577 ?_
                                                                obtain ⟨x385, ex385, H⟩ := ob H
                                                                refine WP.scl d_L_law_1578 ex385 ?_
                                                                obtain ⟨⟨x388, h387⟩, e386, H⟩ := ob H
                                                                refine WP.cV (c := 8) (As := [.int x382, .int x383, .int x384, .int x385]) (st := []) (st9 := [.int x388]) (cl9 := cl) (sl9 := sl) d_L_law_1579 (ok_X7_hush V e386) tv_X7_hush ti_X7_hush ts_X7_hush lk_L_134 ⟨Nat.le_of_ble_eq_true rfl, Nat.le_of_ble_eq_true rfl, (by have := mM_X7_hush; have := mS_X7_hush; omega), (by have := mM_X7_hush; have := mS_X7_hush; omega)⟩ kc_X7_hush (kd_X7_hush e386) rfl rfl (Nat.le_of_ble_eq_true rfl) rfl rfl rfl ?_
                                                                refine WP.aload_n d_L_law_1582 2 rfl ?_
                                                                refine WP.aload_n d_L_law_1583 0 rfl ?_
                                                                refine WP.iload_n d_L_law_1584 3 rfl ?_
                                                                refine WP.iconst d_L_law_1585 ki_1 ?_
                                                                refine WP.iadd d_L_law_1586 ?_
                                                                obtain ⟨x389, ex389, H⟩ := ob H
                                                                refine WP.scl d_L_law_1587 ex389 ?_
                                                                refine WP.aload_n d_L_law_1588 0 rfl ?_
                                                                refine WP.iload_n d_L_law_1589 3 rfl ?_
                                                                refine WP.iconst d_L_law_1590 ki_2 ?_
                                                                refine WP.iadd d_L_law_1591 ?_
                                                                obtain ⟨x390, ex390, H⟩ := ob H
                                                                refine WP.scl d_L_law_1592 ex390 ?_
                                                                refine WP.aload_n d_L_law_1593 0 rfl ?_
                                                                refine WP.iload_n d_L_law_1594 3 rfl ?_
                                                                refine WP.iconst d_L_law_1595 ki_3 ?_
                                                                refine WP.iadd d_L_law_1596 ?_
                                                                obtain ⟨x391, ex391, H⟩ := ob H
                                                                refine WP.scl d_L_law_1597 ex391 ?_
                                                                refine WP.aload_n d_L_law_1598 0 rfl ?_
                                                                refine WP.iload_n d_L_law_1599 3 rfl ?_
                                                                refine WP.iconst d_L_law_1600 ki_4 ?_
                                                                refine WP.iadd d_L_law_1601 ?_
                                                                obtain ⟨x392, ex392, H⟩ := ob H
                                                                refine WP.scl d_L_law_1602 ex392 ?_
                                                                obtain ⟨⟨x395, h394⟩, e393, H⟩ := ob H
                                                                refine WP.cV (c := 9) (As := [.int x389, .int x390, .int x391, .int x392]) (st := [.int x388]) (st9 := [.int x395, .int x388]) (cl9 := cl) (sl9 := sl) d_L_law_1603 (ok_X8_hush V e393) tv_X8_hush ti_X8_hush ts_X8_hush lk_L_137 ⟨Nat.le_of_ble_eq_true rfl, Nat.le_of_ble_eq_true rfl, (by have := mM_X8_hush; have := mS_X8_hush; omega), (by have := mM_X8_hush; have := mS_X8_hush; omega)⟩ kc_X8_hush (kd_X8_hush e393) rfl rfl (Nat.le_of_ble_eq_true rfl) rfl rfl rfl ?_
                                                                rcases oj H with ⟨hc, H⟩ | ⟨hc, H⟩
                                                                · refine WP.icmp_eq_t d_L_law_1606 hc ?_
                                                                  refine WP.iinc (lv9 := [(3, .int (l3 + 6)), (0, .ref (vE V 9)), (1, .ref l1), (2, .ref l2)]) d_L_law_1954 3 rfl ki_6 (Nat.le_of_ble_eq_true rfl) rfl ?_
                                                                  refine WP.goto d_L_law_1957 ?_
                                                                  refine WP.sub [1, 2, 3, 0] (lv' := [(0, .ref (vE V 9)), (1, .ref l1), (2, .ref l2), (3, .int (l3 + 6))]) rfl ?_
                                                                  refine WP.widen (cl' := cl + 47) (sl' := sl + 4165) (by omega) (by omega) ?_
                                                                  exact ih H (by omega) (by omega)
                                                                · refine WP.icmp_eq_f d_L_law_1606 hc ?_
                                                                  refine WP.iconst d_L_law_1609 ki_0 ?_
                                                                  cases H
                                                                  exact WP.ireturn d_L_law_1610 rfl rfl (by omega) (by omega)
                                                              · skip
                                                                rcases oj H with ⟨hq29, H⟩ | ⟨hq29, H⟩
                                                                · refine WP.tsw (t := 1611) 29 d_L_law_33 (by rw [hq29]; decide) (by decide) rfl (by decide) ?_
                                                                  refine WP.aload_n d_L_law_1611 1 rfl ?_
                                                                  refine WP.aload_n d_L_law_1612 0 rfl ?_
                                                                  refine WP.iload_n d_L_law_1613 3 rfl ?_
                                                                  refine WP.iconst d_L_law_1614 ki_1 ?_
                                                                  refine WP.iadd d_L_law_1615 ?_
                                                                  obtain ⟨x396, ex396, H⟩ := ob H
                                                                  refine WP.scl d_L_law_1616 ex396 ?_
                                                                  refine WP.aload_n d_L_law_1617 0 rfl ?_
                                                                  refine WP.iload_n d_L_law_1618 3 rfl ?_
                                                                  refine WP.iconst d_L_law_1619 ki_2 ?_
                                                                  refine WP.iadd d_L_law_1620 ?_
                                                                  obtain ⟨x397, ex397, H⟩ := ob H
                                                                  refine WP.scl d_L_law_1621 ex397 ?_
                                                                  refine WP.aload_n d_L_law_1622 0 rfl ?_
                                                                  refine WP.iload_n d_L_law_1623 3 rfl ?_
                                                                  refine WP.iconst d_L_law_1624 ki_3 ?_
                                                                  refine WP.iadd d_L_law_1625 ?_
                                                                  obtain ⟨x398, ex398, H⟩ := ob H
                                                                  refine WP.scl d_L_law_1626 ex398 ?_
                                                                  obtain ⟨⟨x401, h400⟩, e399, H⟩ := ob H
                                                                  refine WP.cV (c := 8) (As := [.int x396, .int x397, .int x398]) (st := []) (st9 := [.int x401]) (cl9 := cl) (sl9 := sl) d_L_law_1627 (ok_X7_bench V e399) tv_X7_bench ti_X7_bench ts_X7_bench lk_L_138 ⟨Nat.le_of_ble_eq_true rfl, Nat.le_of_ble_eq_true rfl, (by have := mM_X7_bench; have := mS_X7_bench; omega), (by have := mM_X7_bench; have := mS_X7_bench; omega)⟩ kc_X7_bench (kd_X7_bench e399) rfl rfl (Nat.le_of_ble_eq_true rfl) rfl rfl rfl ?_
                                                                  refine WP.aload_n d_L_law_1630 2 rfl ?_
                                                                  refine WP.aload_n d_L_law_1631 0 rfl ?_
                                                                  refine WP.iload_n d_L_law_1632 3 rfl ?_
                                                                  refine WP.iconst d_L_law_1633 ki_1 ?_
                                                                  refine WP.iadd d_L_law_1634 ?_
                                                                  obtain ⟨x402, ex402, H⟩ := ob H
                                                                  refine WP.scl d_L_law_1635 ex402 ?_
                                                                  refine WP.aload_n d_L_law_1636 0 rfl ?_
                                                                  refine WP.iload_n d_L_law_1637 3 rfl ?_
                                                                  refine WP.iconst d_L_law_1638 ki_2 ?_
                                                                  refine WP.iadd d_L_law_1639 ?_
                                                                  obtain ⟨x403, ex403, H⟩ := ob H
                                                                  refine WP.scl d_L_law_1640 ex403 ?_
                                                                  refine WP.aload_n d_L_law_1641 0 rfl ?_
                                                                  refine WP.iload_n d_L_law_1642 3 rfl ?_
                                                                  refine WP.iconst d_L_law_1643 ki_3 ?_
                                                                  refine WP.iadd d_L_law_1644 ?_
                                                                  obtain ⟨x404, ex404, H⟩ := ob H
                                                                  refine WP.scl d_L_law_1645 ex404 ?_
                                                                  obtain ⟨⟨x407, h406⟩, e405, H⟩ := ob H
                                                                  refine WP.cV (c := 9) (As := [.int x402, .int x403, .int x404]) (st := [.int x401]) (st9 := [.int x407, .int x401]) (cl9 := cl) (sl9 := sl) d_L_law_1646 (ok_X8_bench V e405) tv_X8_bench ti_X8_bench ts_X8_bench lk_L_141 ⟨Nat.le_of_ble_eq_true rfl, Nat.le_of_ble_eq_true rfl, (by have := mM_X8_bench; have := mS_X8_bench; omega), (by have := mM_X8_bench; have := mS_X8_bench; omega)⟩ kc_X8_bench (kd_X8_bench e405) rfl rfl (Nat.le_of_ble_eq_true rfl) rfl rfl rfl ?_
                                                                  rcases oj H with ⟨hc, H⟩ | ⟨hc, H⟩
                                                                  · refine WP.icmp_eq_t d_L_law_1649 hc ?_
                                                                    refine WP.iinc (lv9 := [(3, .int (l3 + 6)), (0, .ref (vE V 9)), (1, .ref l1), (2, .ref l2)]) d_L_law_1954 3 rfl ki_6 (Nat.le_of_ble_eq_true rfl) rfl ?_
                                                                    refine WP.goto d_L_law_1957 ?_
                                                                    refine WP.sub [1, 2, 3, 0] (lv' := [(0, .ref (vE V 9)), (1, .ref l1), (2, .ref l2), (3, .int (l3 + 6))]) rfl ?_
                                                                    refine WP.widen (cl' := cl + 47) (sl' := sl + 4165) (by omega) (by omega) ?_
                                                                    exact ih H (by omega) (by omega)
                                                                  · refine WP.icmp_eq_f d_L_law_1649 hc ?_
                                                                    refine WP.iconst d_L_law_1652 ki_0 ?_
                                                                    cases H
                                                                    exact WP.ireturn d_L_law_1653 rfl rfl (by omega) (by omega)
                                                                · skip
                                                                  rcases oj H with ⟨hq30, H⟩ | ⟨hq30, H⟩
                                                                  · refine WP.tsw (t := 1654) 30 d_L_law_33 (by rw [hq30]; decide) (by decide) rfl (by decide) ?_
                                                                    refine WP.aload_n d_L_law_1654 1 rfl ?_
                                                                    refine WP.aload_n d_L_law_1655 0 rfl ?_
                                                                    refine WP.iload_n d_L_law_1656 3 rfl ?_
                                                                    refine WP.iconst d_L_law_1657 ki_1 ?_
                                                                    refine WP.iadd d_L_law_1658 ?_
                                                                    obtain ⟨x408, ex408, H⟩ := ob H
                                                                    refine WP.scl d_L_law_1659 ex408 ?_
                                                                    refine WP.aload_n d_L_law_1660 0 rfl ?_
                                                                    refine WP.iload_n d_L_law_1661 3 rfl ?_
                                                                    refine WP.iconst d_L_law_1662 ki_2 ?_
                                                                    refine WP.iadd d_L_law_1663 ?_
                                                                    obtain ⟨x409, ex409, H⟩ := ob H
                                                                    refine WP.scl d_L_law_1664 ex409 ?_
                                                                    refine WP.aload_n d_L_law_1665 0 rfl ?_
                                                                    refine WP.iload_n d_L_law_1666 3 rfl ?_
                                                                    refine WP.iconst d_L_law_1667 ki_3 ?_
                                                                    refine WP.iadd d_L_law_1668 ?_
                                                                    obtain ⟨x410, ex410, H⟩ := ob H
                                                                    refine WP.scl d_L_law_1669 ex410 ?_
                                                                    obtain ⟨⟨x413, h412⟩, e411, H⟩ := ob H
                                                                    refine WP.cV (c := 8) (As := [.int x408, .int x409, .int x410]) (st := []) (st9 := [.int x413]) (cl9 := cl) (sl9 := sl) d_L_law_1670 (ok_X7_idle V e411) tv_X7_idle ti_X7_idle ts_X7_idle lk_L_142 ⟨Nat.le_of_ble_eq_true rfl, Nat.le_of_ble_eq_true rfl, (by have := mM_X7_idle; have := mS_X7_idle; omega), (by have := mM_X7_idle; have := mS_X7_idle; omega)⟩ kc_X7_idle (kd_X7_idle e411) rfl rfl (Nat.le_of_ble_eq_true rfl) rfl rfl rfl ?_
                                                                    refine WP.aload_n d_L_law_1673 2 rfl ?_
                                                                    refine WP.aload_n d_L_law_1674 0 rfl ?_
                                                                    refine WP.iload_n d_L_law_1675 3 rfl ?_
                                                                    refine WP.iconst d_L_law_1676 ki_1 ?_
                                                                    refine WP.iadd d_L_law_1677 ?_
                                                                    obtain ⟨x414, ex414, H⟩ := ob H
                                                                    refine WP.scl d_L_law_1678 ex414 ?_
                                                                    refine WP.aload_n d_L_law_1679 0 rfl ?_
                                                                    refine WP.iload_n d_L_law_1680 3 rfl ?_
                                                                    refine WP.iconst d_L_law_1681 ki_2 ?_
                                                                    refine WP.iadd d_L_law_1682 ?_
                                                                    obtain ⟨x415, ex415, H⟩ := ob H
                                                                    refine WP.scl d_L_law_1683 ex415 ?_
                                                                    refine WP.aload_n d_L_law_1684 0 rfl ?_
                                                                    refine WP.iload_n d_L_law_1685 3 rfl ?_
                                                                    refine WP.iconst d_L_law_1686 ki_3 ?_
                                                                    refine WP.iadd d_L_law_1687 ?_
                                                                    obtain ⟨x416, ex416, H⟩ := ob H
                                                                    refine WP.scl d_L_law_1688 ex416 ?_
                                                                    obtain ⟨⟨x419, h418⟩, e417, H⟩ := ob H
                                                                    refine WP.cV (c := 9) (As := [.int x414, .int x415, .int x416]) (st := [.int x413]) (st9 := [.int x419, .int x413]) (cl9 := cl) (sl9 := sl) d_L_law_1689 (ok_X8_idle V e417) tv_X8_idle ti_X8_idle ts_X8_idle lk_L_145 ⟨Nat.le_of_ble_eq_true rfl, Nat.le_of_ble_eq_true rfl, (by have := mM_X8_idle; have := mS_X8_idle; omega), (by have := mM_X8_idle; have := mS_X8_idle; omega)⟩ kc_X8_idle (kd_X8_idle e417) rfl rfl (Nat.le_of_ble_eq_true rfl) rfl rfl rfl ?_
                                                                    rcases oj H with ⟨hc, H⟩ | ⟨hc, H⟩
                                                                    · refine WP.icmp_eq_t d_L_law_1692 hc ?_
                                                                      refine WP.iinc (lv9 := [(3, .int (l3 + 6)), (0, .ref (vE V 9)), (1, .ref l1), (2, .ref l2)]) d_L_law_1954 3 rfl ki_6 (Nat.le_of_ble_eq_true rfl) rfl ?_
                                                                      refine WP.goto d_L_law_1957 ?_
                                                                      refine WP.sub [1, 2, 3, 0] (lv' := [(0, .ref (vE V 9)), (1, .ref l1), (2, .ref l2), (3, .int (l3 + 6))]) rfl ?_
                                                                      refine WP.widen (cl' := cl + 47) (sl' := sl + 4165) (by omega) (by omega) ?_
                                                                      exact ih H (by omega) (by omega)
                                                                    · refine WP.icmp_eq_f d_L_law_1692 hc ?_
                                                                      refine WP.iconst d_L_law_1695 ki_0 ?_
                                                                      cases H
                                                                      exact WP.ireturn d_L_law_1696 rfl rfl (by omega) (by omega)
                                                                  · skip
                                                                    rcases oj H with ⟨hq31, H⟩ | ⟨hq31, H⟩
                                                                    · refine WP.tsw (t := 1697) 31 d_L_law_33 (by rw [hq31]; decide) (by decide) rfl (by decide) ?_
                                                                      refine WP.aload_n d_L_law_1697 1 rfl ?_
                                                                      refine WP.aload_n d_L_law_1698 0 rfl ?_
                                                                      refine WP.iload_n d_L_law_1699 3 rfl ?_
                                                                      refine WP.iconst d_L_law_1700 ki_1 ?_
                                                                      refine WP.iadd d_L_law_1701 ?_
                                                                      obtain ⟨x420, ex420, H⟩ := ob H
                                                                      refine WP.scl d_L_law_1702 ex420 ?_
                                                                      refine WP.aload_n d_L_law_1703 0 rfl ?_
                                                                      refine WP.iload_n d_L_law_1704 3 rfl ?_
                                                                      refine WP.iconst d_L_law_1705 ki_2 ?_
                                                                      refine WP.iadd d_L_law_1706 ?_
                                                                      obtain ⟨x421, ex421, H⟩ := ob H
                                                                      refine WP.scl d_L_law_1707 ex421 ?_
                                                                      refine WP.aload_n d_L_law_1708 0 rfl ?_
                                                                      refine WP.iload_n d_L_law_1709 3 rfl ?_
                                                                      refine WP.iconst d_L_law_1710 ki_3 ?_
                                                                      refine WP.iadd d_L_law_1711 ?_
                                                                      obtain ⟨x422, ex422, H⟩ := ob H
                                                                      refine WP.scl d_L_law_1712 ex422 ?_
                                                                      refine WP.aload_n d_L_law_1713 0 rfl ?_
                                                                      refine WP.iload_n d_L_law_1714 3 rfl ?_
                                                                      refine WP.iconst d_L_law_1715 ki_4 ?_
                                                                      refine WP.iadd d_L_law_1716 ?_
                                                                      obtain ⟨x423, ex423, H⟩ := ob H
                                                                      refine WP.scl d_L_law_1717 ex423 ?_
                                                                      obtain ⟨⟨x426, h425⟩, e424, H⟩ := ob H
                                                                      refine WP.cV (c := 8) (As := [.int x420, .int x421, .int x422, .int x423]) (st := []) (st9 := [.int x426]) (cl9 := cl) (sl9 := sl) d_L_law_1718 (ok_X7_persuade V e424) tv_X7_persuade ti_X7_persuade ts_X7_persuade lk_L_146 ⟨Nat.le_of_ble_eq_true rfl, Nat.le_of_ble_eq_true rfl, (by have := mM_X7_persuade; have := mS_X7_persuade; omega), (by have := mM_X7_persuade; have := mS_X7_persuade; omega)⟩ kc_X7_persuade (kd_X7_persuade e424) rfl rfl (Nat.le_of_ble_eq_true rfl) rfl rfl rfl ?_
                                                                      refine WP.aload_n d_L_law_1721 2 rfl ?_
                                                                      refine WP.aload_n d_L_law_1722 0 rfl ?_
                                                                      refine WP.iload_n d_L_law_1723 3 rfl ?_
                                                                      refine WP.iconst d_L_law_1724 ki_1 ?_
                                                                      refine WP.iadd d_L_law_1725 ?_
                                                                      obtain ⟨x427, ex427, H⟩ := ob H
                                                                      refine WP.scl d_L_law_1726 ex427 ?_
                                                                      refine WP.aload_n d_L_law_1727 0 rfl ?_
                                                                      refine WP.iload_n d_L_law_1728 3 rfl ?_
                                                                      refine WP.iconst d_L_law_1729 ki_2 ?_
                                                                      refine WP.iadd d_L_law_1730 ?_
                                                                      obtain ⟨x428, ex428, H⟩ := ob H
                                                                      refine WP.scl d_L_law_1731 ex428 ?_
                                                                      refine WP.aload_n d_L_law_1732 0 rfl ?_
                                                                      refine WP.iload_n d_L_law_1733 3 rfl ?_
                                                                      refine WP.iconst d_L_law_1734 ki_3 ?_
                                                                      refine WP.iadd d_L_law_1735 ?_
                                                                      obtain ⟨x429, ex429, H⟩ := ob H
                                                                      refine WP.scl d_L_law_1736 ex429 ?_
                                                                      refine WP.aload_n d_L_law_1737 0 rfl ?_
                                                                      refine WP.iload_n d_L_law_1738 3 rfl ?_
                                                                      refine WP.iconst d_L_law_1739 ki_4 ?_
                                                                      refine WP.iadd d_L_law_1740 ?_
                                                                      obtain ⟨x430, ex430, H⟩ := ob H
                                                                      refine WP.scl d_L_law_1741 ex430 ?_
                                                                      obtain ⟨⟨x433, h432⟩, e431, H⟩ := ob H
                                                                      refine WP.cV (c := 9) (As := [.int x427, .int x428, .int x429, .int x430]) (st := [.int x426]) (st9 := [.int x433, .int x426]) (cl9 := cl) (sl9 := sl) d_L_law_1742 (ok_X8_persuade V e431) tv_X8_persuade ti_X8_persuade ts_X8_persuade lk_L_149 ⟨Nat.le_of_ble_eq_true rfl, Nat.le_of_ble_eq_true rfl, (by have := mM_X8_persuade; have := mS_X8_persuade; omega), (by have := mM_X8_persuade; have := mS_X8_persuade; omega)⟩ kc_X8_persuade (kd_X8_persuade e431) rfl rfl (Nat.le_of_ble_eq_true rfl) rfl rfl rfl ?_
                                                                      rcases oj H with ⟨hc, H⟩ | ⟨hc, H⟩
                                                                      · refine WP.icmp_eq_t d_L_law_1745 hc ?_
                                                                        refine WP.iinc (lv9 := [(3, .int (l3 + 6)), (0, .ref (vE V 9)), (1, .ref l1), (2, .ref l2)]) d_L_law_1954 3 rfl ki_6 (Nat.le_of_ble_eq_true rfl) rfl ?_
                                                                        refine WP.goto d_L_law_1957 ?_
                                                                        refine WP.sub [1, 2, 3, 0] (lv' := [(0, .ref (vE V 9)), (1, .ref l1), (2, .ref l2), (3, .int (l3 + 6))]) rfl ?_
                                                                        refine WP.widen (cl' := cl + 47) (sl' := sl + 4165) (by omega) (by omega) ?_
                                                                        exact ih H (by omega) (by omega)
                                                                      · refine WP.icmp_eq_f d_L_law_1745 hc ?_
                                                                        refine WP.iconst d_L_law_1748 ki_0 ?_
                                                                        cases H
                                                                        exact WP.ireturn d_L_law_1749 rfl rfl (by omega) (by omega)
                                                                    · skip
                                                                      rcases oj H with ⟨hq32, H⟩ | ⟨hq32, H⟩
                                                                      · refine WP.tsw (t := 1750) 32 d_L_law_33 (by rw [hq32]; decide) (by decide) rfl (by decide) ?_
                                                                        refine WP.aload_n d_L_law_1750 1 rfl ?_
                                                                        refine WP.aload_n d_L_law_1751 0 rfl ?_
                                                                        refine WP.iload_n d_L_law_1752 3 rfl ?_
                                                                        refine WP.iconst d_L_law_1753 ki_1 ?_
                                                                        refine WP.iadd d_L_law_1754 ?_
                                                                        obtain ⟨x434, ex434, H⟩ := ob H
                                                                        refine WP.scl d_L_law_1755 ex434 ?_
                                                                        refine WP.aload_n d_L_law_1756 0 rfl ?_
                                                                        refine WP.iload_n d_L_law_1757 3 rfl ?_
                                                                        refine WP.iconst d_L_law_1758 ki_2 ?_
                                                                        refine WP.iadd d_L_law_1759 ?_
                                                                        obtain ⟨x435, ex435, H⟩ := ob H
                                                                        refine WP.scl d_L_law_1760 ex435 ?_
                                                                        obtain ⟨⟨x438, h437⟩, e436, H⟩ := ob H
                                                                        refine WP.cV (c := 8) (As := [.int x434, .int x435]) (st := []) (st9 := [.int x438]) (cl9 := cl) (sl9 := sl) d_L_law_1761 (ok_X7_areas V e436) tv_X7_areas ti_X7_areas ts_X7_areas lk_L_150 ⟨Nat.le_of_ble_eq_true rfl, Nat.le_of_ble_eq_true rfl, (by have := mM_X7_areas; have := mS_X7_areas; omega), (by have := mM_X7_areas; have := mS_X7_areas; omega)⟩ kc_X7_areas (kd_X7_areas e436) rfl rfl (Nat.le_of_ble_eq_true rfl) rfl rfl rfl ?_
                                                                        refine WP.aload_n d_L_law_1764 2 rfl ?_
                                                                        refine WP.aload_n d_L_law_1765 0 rfl ?_
                                                                        refine WP.iload_n d_L_law_1766 3 rfl ?_
                                                                        refine WP.iconst d_L_law_1767 ki_1 ?_
                                                                        refine WP.iadd d_L_law_1768 ?_
                                                                        obtain ⟨x439, ex439, H⟩ := ob H
                                                                        refine WP.scl d_L_law_1769 ex439 ?_
                                                                        refine WP.aload_n d_L_law_1770 0 rfl ?_
                                                                        refine WP.iload_n d_L_law_1771 3 rfl ?_
                                                                        refine WP.iconst d_L_law_1772 ki_2 ?_
                                                                        refine WP.iadd d_L_law_1773 ?_
                                                                        obtain ⟨x440, ex440, H⟩ := ob H
                                                                        refine WP.scl d_L_law_1774 ex440 ?_
                                                                        obtain ⟨⟨x443, h442⟩, e441, H⟩ := ob H
                                                                        refine WP.cV (c := 9) (As := [.int x439, .int x440]) (st := [.int x438]) (st9 := [.int x443, .int x438]) (cl9 := cl) (sl9 := sl) d_L_law_1775 (ok_X8_areas V e441) tv_X8_areas ti_X8_areas ts_X8_areas lk_L_153 ⟨Nat.le_of_ble_eq_true rfl, Nat.le_of_ble_eq_true rfl, (by have := mM_X8_areas; have := mS_X8_areas; omega), (by have := mM_X8_areas; have := mS_X8_areas; omega)⟩ kc_X8_areas (kd_X8_areas e441) rfl rfl (Nat.le_of_ble_eq_true rfl) rfl rfl rfl ?_
                                                                        rcases oj H with ⟨hc, H⟩ | ⟨hc, H⟩
                                                                        · refine WP.icmp_eq_t d_L_law_1778 hc ?_
                                                                          refine WP.iinc (lv9 := [(3, .int (l3 + 6)), (0, .ref (vE V 9)), (1, .ref l1), (2, .ref l2)]) d_L_law_1954 3 rfl ki_6 (Nat.le_of_ble_eq_true rfl) rfl ?_
                                                                          refine WP.goto d_L_law_1957 ?_
                                                                          refine WP.sub [1, 2, 3, 0] (lv' := [(0, .ref (vE V 9)), (1, .ref l1), (2, .ref l2), (3, .int (l3 + 6))]) rfl ?_
                                                                          refine WP.widen (cl' := cl + 47) (sl' := sl + 4165) (by omega) (by omega) ?_
                                                                          exact ih H (by omega) (by omega)
                                                                        · refine WP.icmp_eq_f d_L_law_1778 hc ?_
                                                                          refine WP.iconst d_L_law_1781 ki_0 ?_
                                                                          cases H
                                                                          exact WP.ireturn d_L_law_1782 rfl rfl (by omega) (by omega)
                                                                      · skip
                                                                        rcases oj H with ⟨hq33, H⟩ | ⟨hq33, H⟩
                                                                        · refine WP.tsw (t := 1783) 33 d_L_law_33 (by rw [hq33]; decide) (by decide) rfl (by decide) ?_
                                                                          refine WP.aload_n d_L_law_1783 1 rfl ?_
                                                                          refine WP.aload_n d_L_law_1784 0 rfl ?_
                                                                          refine WP.iload_n d_L_law_1785 3 rfl ?_
                                                                          refine WP.iconst d_L_law_1786 ki_1 ?_
                                                                          refine WP.iadd d_L_law_1787 ?_
                                                                          obtain ⟨x444, ex444, H⟩ := ob H
                                                                          refine WP.scl d_L_law_1788 ex444 ?_
                                                                          refine WP.aload_n d_L_law_1789 0 rfl ?_
                                                                          refine WP.iload_n d_L_law_1790 3 rfl ?_
                                                                          refine WP.iconst d_L_law_1791 ki_2 ?_
                                                                          refine WP.iadd d_L_law_1792 ?_
                                                                          obtain ⟨x445, ex445, H⟩ := ob H
                                                                          refine WP.scl d_L_law_1793 ex445 ?_
                                                                          refine WP.aload_n d_L_law_1794 0 rfl ?_
                                                                          refine WP.iload_n d_L_law_1795 3 rfl ?_
                                                                          refine WP.iconst d_L_law_1796 ki_3 ?_
                                                                          refine WP.iadd d_L_law_1797 ?_
                                                                          obtain ⟨x446, ex446, H⟩ := ob H
                                                                          refine WP.scl d_L_law_1798 ex446 ?_
                                                                          obtain ⟨j447, hs448, H⟩ := ol H
                                                                          have J449 : WP V M_L_law 1807 [(0, .ref (vE V 9)), (1, .ref l1), (2, .ref l2), (3, .int l3)] [.int j447, .int x445, .int x444, .ref l1] h cl sl (some (.int r)) hR := by
                                                                            obtain ⟨⟨x452, h451⟩, e450, H⟩ := ob H
                                                                            refine WP.cV (c := 8) (As := [.int x444, .int x445, .int j447]) (st := []) (st9 := [.int x452]) (cl9 := cl) (sl9 := sl) d_L_law_1807 (ok_X7_mouth V e450) tv_X7_mouth ti_X7_mouth ts_X7_mouth lk_L_154 ⟨Nat.le_of_ble_eq_true rfl, Nat.le_of_ble_eq_true rfl, (by have := mM_X7_mouth; have := mS_X7_mouth; omega), (by have := mM_X7_mouth; have := mS_X7_mouth; omega)⟩ kc_X7_mouth (kd_X7_mouth e450) rfl rfl (Nat.le_of_ble_eq_true rfl) rfl rfl rfl ?_
                                                                            refine WP.aload_n d_L_law_1810 2 rfl ?_
                                                                            refine WP.aload_n d_L_law_1811 0 rfl ?_
                                                                            refine WP.iload_n d_L_law_1812 3 rfl ?_
                                                                            refine WP.iconst d_L_law_1813 ki_1 ?_
                                                                            refine WP.iadd d_L_law_1814 ?_
                                                                            obtain ⟨x453, ex453, H⟩ := ob H
                                                                            refine WP.scl d_L_law_1815 ex453 ?_
                                                                            refine WP.aload_n d_L_law_1816 0 rfl ?_
                                                                            refine WP.iload_n d_L_law_1817 3 rfl ?_
                                                                            refine WP.iconst d_L_law_1818 ki_2 ?_
                                                                            refine WP.iadd d_L_law_1819 ?_
                                                                            obtain ⟨x454, ex454, H⟩ := ob H
                                                                            refine WP.scl d_L_law_1820 ex454 ?_
                                                                            refine WP.aload_n d_L_law_1821 0 rfl ?_
                                                                            refine WP.iload_n d_L_law_1822 3 rfl ?_
                                                                            refine WP.iconst d_L_law_1823 ki_3 ?_
                                                                            refine WP.iadd d_L_law_1824 ?_
                                                                            obtain ⟨x455, ex455, H⟩ := ob H
                                                                            refine WP.scl d_L_law_1825 ex455 ?_
                                                                            obtain ⟨j456, hs457, H⟩ := ol H
                                                                            have J458 : WP V M_L_law 1834 [(0, .ref (vE V 9)), (1, .ref l1), (2, .ref l2), (3, .int l3)] [.int j456, .int x454, .int x453, .ref l2, .int x452] h451 cl sl (some (.int r)) hR := by
                                                                              obtain ⟨⟨x461, h460⟩, e459, H⟩ := ob H
                                                                              refine WP.cV (c := 9) (As := [.int x453, .int x454, .int j456]) (st := [.int x452]) (st9 := [.int x461, .int x452]) (cl9 := cl) (sl9 := sl) d_L_law_1834 (ok_X8_mouth V e459) tv_X8_mouth ti_X8_mouth ts_X8_mouth lk_L_157 ⟨Nat.le_of_ble_eq_true rfl, Nat.le_of_ble_eq_true rfl, (by have := mM_X8_mouth; have := mS_X8_mouth; omega), (by have := mM_X8_mouth; have := mS_X8_mouth; omega)⟩ kc_X8_mouth (kd_X8_mouth e459) rfl rfl (Nat.le_of_ble_eq_true rfl) rfl rfl rfl ?_
                                                                              rcases oj H with ⟨hc, H⟩ | ⟨hc, H⟩
                                                                              · refine WP.icmp_eq_t d_L_law_1837 hc ?_
                                                                                refine WP.iinc (lv9 := [(3, .int (l3 + 6)), (0, .ref (vE V 9)), (1, .ref l1), (2, .ref l2)]) d_L_law_1954 3 rfl ki_6 (Nat.le_of_ble_eq_true rfl) rfl ?_
                                                                                refine WP.goto d_L_law_1957 ?_
                                                                                refine WP.sub [1, 2, 3, 0] (lv' := [(0, .ref (vE V 9)), (1, .ref l1), (2, .ref l2), (3, .int (l3 + 6))]) rfl ?_
                                                                                refine WP.widen (cl' := cl + 47) (sl' := sl + 4165) (by omega) (by omega) ?_
                                                                                exact ih H (by omega) (by omega)
                                                                              · refine WP.icmp_eq_f d_L_law_1837 hc ?_
                                                                                refine WP.iconst d_L_law_1840 ki_0 ?_
                                                                                cases H
                                                                                exact WP.ireturn d_L_law_1841 rfl rfl (by omega) (by omega)
                                                                            rcases oj hs457 with ⟨hc, hs457⟩ | ⟨hc, hs457⟩
                                                                            · refine WP.if_eq_t d_L_law_1826 hc ?_
                                                                              refine WP.iconst d_L_law_1833 ki_0 ?_
                                                                              cases hs457
                                                                              exact WP.sub [0, 1, 2, 3] rfl J458
                                                                            · refine WP.if_eq_f d_L_law_1826 hc ?_
                                                                              refine WP.iconst d_L_law_1829 ki_1 ?_
                                                                              refine WP.goto d_L_law_1830 ?_
                                                                              cases hs457
                                                                              exact WP.sub [0, 1, 2, 3] rfl J458
                                                                          rcases oj hs448 with ⟨hc, hs448⟩ | ⟨hc, hs448⟩
                                                                          · refine WP.if_eq_t d_L_law_1799 hc ?_
                                                                            refine WP.iconst d_L_law_1806 ki_0 ?_
                                                                            cases hs448
                                                                            exact WP.sub [0, 1, 2, 3] rfl J449
                                                                          · refine WP.if_eq_f d_L_law_1799 hc ?_
                                                                            refine WP.iconst d_L_law_1802 ki_1 ?_
                                                                            refine WP.goto d_L_law_1803 ?_
                                                                            cases hs448
                                                                            exact WP.sub [0, 1, 2, 3] rfl J449
                                                                        · skip
                                                                          rcases oj H with ⟨hq34, H⟩ | ⟨hq34, H⟩
                                                                          · refine WP.tsw (t := 1842) 34 d_L_law_33 (by rw [hq34]; decide) (by decide) rfl (by decide) ?_
                                                                            refine WP.aload_n d_L_law_1842 1 rfl ?_
                                                                            refine WP.aload_n d_L_law_1843 0 rfl ?_
                                                                            refine WP.iload_n d_L_law_1844 3 rfl ?_
                                                                            refine WP.iconst d_L_law_1845 ki_1 ?_
                                                                            refine WP.iadd d_L_law_1846 ?_
                                                                            obtain ⟨x462, ex462, H⟩ := ob H
                                                                            refine WP.scl d_L_law_1847 ex462 ?_
                                                                            refine WP.aload_n d_L_law_1848 0 rfl ?_
                                                                            refine WP.iload_n d_L_law_1849 3 rfl ?_
                                                                            refine WP.iconst d_L_law_1850 ki_2 ?_
                                                                            refine WP.iadd d_L_law_1851 ?_
                                                                            obtain ⟨x463, ex463, H⟩ := ob H
                                                                            refine WP.scl d_L_law_1852 ex463 ?_
                                                                            refine WP.aload_n d_L_law_1853 0 rfl ?_
                                                                            refine WP.iload_n d_L_law_1854 3 rfl ?_
                                                                            refine WP.iconst d_L_law_1855 ki_3 ?_
                                                                            refine WP.iadd d_L_law_1856 ?_
                                                                            obtain ⟨x464, ex464, H⟩ := ob H
                                                                            refine WP.scl d_L_law_1857 ex464 ?_
                                                                            obtain ⟨⟨x467, h466⟩, e465, H⟩ := ob H
                                                                            refine WP.cV (c := 8) (As := [.int x462, .int x463, .int x464]) (st := []) (st9 := [.int x467]) (cl9 := cl) (sl9 := sl) d_L_law_1858 (ok_X7_rift V e465) tv_X7_rift ti_X7_rift ts_X7_rift lk_L_158 ⟨Nat.le_of_ble_eq_true rfl, Nat.le_of_ble_eq_true rfl, (by have := mM_X7_rift; have := mS_X7_rift; omega), (by have := mM_X7_rift; have := mS_X7_rift; omega)⟩ kc_X7_rift (kd_X7_rift e465) rfl rfl (Nat.le_of_ble_eq_true rfl) rfl rfl rfl ?_
                                                                            refine WP.aload_n d_L_law_1861 2 rfl ?_
                                                                            refine WP.aload_n d_L_law_1862 0 rfl ?_
                                                                            refine WP.iload_n d_L_law_1863 3 rfl ?_
                                                                            refine WP.iconst d_L_law_1864 ki_1 ?_
                                                                            refine WP.iadd d_L_law_1865 ?_
                                                                            obtain ⟨x468, ex468, H⟩ := ob H
                                                                            refine WP.scl d_L_law_1866 ex468 ?_
                                                                            refine WP.aload_n d_L_law_1867 0 rfl ?_
                                                                            refine WP.iload_n d_L_law_1868 3 rfl ?_
                                                                            refine WP.iconst d_L_law_1869 ki_2 ?_
                                                                            refine WP.iadd d_L_law_1870 ?_
                                                                            obtain ⟨x469, ex469, H⟩ := ob H
                                                                            refine WP.scl d_L_law_1871 ex469 ?_
                                                                            refine WP.aload_n d_L_law_1872 0 rfl ?_
                                                                            refine WP.iload_n d_L_law_1873 3 rfl ?_
                                                                            refine WP.iconst d_L_law_1874 ki_3 ?_
                                                                            refine WP.iadd d_L_law_1875 ?_
                                                                            obtain ⟨x470, ex470, H⟩ := ob H
                                                                            refine WP.scl d_L_law_1876 ex470 ?_
                                                                            obtain ⟨⟨x473, h472⟩, e471, H⟩ := ob H
                                                                            refine WP.cV (c := 9) (As := [.int x468, .int x469, .int x470]) (st := [.int x467]) (st9 := [.int x473, .int x467]) (cl9 := cl) (sl9 := sl) d_L_law_1877 (ok_X8_rift V e471) tv_X8_rift ti_X8_rift ts_X8_rift lk_L_161 ⟨Nat.le_of_ble_eq_true rfl, Nat.le_of_ble_eq_true rfl, (by have := mM_X8_rift; have := mS_X8_rift; omega), (by have := mM_X8_rift; have := mS_X8_rift; omega)⟩ kc_X8_rift (kd_X8_rift e471) rfl rfl (Nat.le_of_ble_eq_true rfl) rfl rfl rfl ?_
                                                                            rcases oj H with ⟨hc, H⟩ | ⟨hc, H⟩
                                                                            · refine WP.icmp_eq_t d_L_law_1880 hc ?_
                                                                              refine WP.iinc (lv9 := [(3, .int (l3 + 6)), (0, .ref (vE V 9)), (1, .ref l1), (2, .ref l2)]) d_L_law_1954 3 rfl ki_6 (Nat.le_of_ble_eq_true rfl) rfl ?_
                                                                              refine WP.goto d_L_law_1957 ?_
                                                                              refine WP.sub [1, 2, 3, 0] (lv' := [(0, .ref (vE V 9)), (1, .ref l1), (2, .ref l2), (3, .int (l3 + 6))]) rfl ?_
                                                                              refine WP.widen (cl' := cl + 47) (sl' := sl + 4165) (by omega) (by omega) ?_
                                                                              exact ih H (by omega) (by omega)
                                                                            · refine WP.icmp_eq_f d_L_law_1880 hc ?_
                                                                              refine WP.iconst d_L_law_1883 ki_0 ?_
                                                                              cases H
                                                                              exact WP.ireturn d_L_law_1884 rfl rfl (by omega) (by omega)
                                                                          · skip
                                                                            rcases oj H with ⟨hq35, H⟩ | ⟨hq35, H⟩
                                                                            · refine WP.tsw (t := 1885) 35 d_L_law_33 (by rw [hq35]; decide) (by decide) rfl (by decide) ?_
                                                                              refine WP.aload_n d_L_law_1885 1 rfl ?_
                                                                              refine WP.aload_n d_L_law_1886 0 rfl ?_
                                                                              refine WP.iload_n d_L_law_1887 3 rfl ?_
                                                                              refine WP.iconst d_L_law_1888 ki_1 ?_
                                                                              refine WP.iadd d_L_law_1889 ?_
                                                                              obtain ⟨x474, ex474, H⟩ := ob H
                                                                              refine WP.scl d_L_law_1890 ex474 ?_
                                                                              obtain ⟨x476, e475, H⟩ := ob H
                                                                              refine WP.cV (c := 8) (As := [.int x474]) (st := []) (st9 := [.int x476]) (cl9 := cl) (sl9 := sl) d_L_law_1891 (ok_X7_count V e475) tv_X7_count ti_X7_count ts_X7_count lk_L_162 ⟨Nat.le_of_ble_eq_true rfl, Nat.le_of_ble_eq_true rfl, (by have := mM_X7_count; have := mS_X7_count; omega), (by have := mM_X7_count; have := mS_X7_count; omega)⟩ kc_X7_count (kd_X7_count e475) rfl rfl (Nat.le_of_ble_eq_true rfl) rfl rfl rfl ?_
                                                                              refine WP.aload_n d_L_law_1894 2 rfl ?_
                                                                              refine WP.aload_n d_L_law_1895 0 rfl ?_
                                                                              refine WP.iload_n d_L_law_1896 3 rfl ?_
                                                                              refine WP.iconst d_L_law_1897 ki_1 ?_
                                                                              refine WP.iadd d_L_law_1898 ?_
                                                                              obtain ⟨x477, ex477, H⟩ := ob H
                                                                              refine WP.scl d_L_law_1899 ex477 ?_
                                                                              obtain ⟨⟨x480, h479⟩, e478, H⟩ := ob H
                                                                              refine WP.cV (c := 9) (As := [.int x477]) (st := [.int x476]) (st9 := [.int x480, .int x476]) (cl9 := cl) (sl9 := sl) d_L_law_1900 (ok_X8_count V e478) tv_X8_count ti_X8_count ts_X8_count lk_L_165 ⟨Nat.le_of_ble_eq_true rfl, Nat.le_of_ble_eq_true rfl, (by have := mM_X8_count; have := mS_X8_count; omega), (by have := mM_X8_count; have := mS_X8_count; omega)⟩ kc_X8_count (kd_X8_count e478) rfl rfl (Nat.le_of_ble_eq_true rfl) rfl rfl rfl ?_
                                                                              rcases oj H with ⟨hc, H⟩ | ⟨hc, H⟩
                                                                              · refine WP.icmp_eq_t d_L_law_1903 hc ?_
                                                                                refine WP.iinc (lv9 := [(3, .int (l3 + 6)), (0, .ref (vE V 9)), (1, .ref l1), (2, .ref l2)]) d_L_law_1954 3 rfl ki_6 (Nat.le_of_ble_eq_true rfl) rfl ?_
                                                                                refine WP.goto d_L_law_1957 ?_
                                                                                refine WP.sub [1, 2, 3, 0] (lv' := [(0, .ref (vE V 9)), (1, .ref l1), (2, .ref l2), (3, .int (l3 + 6))]) rfl ?_
                                                                                refine WP.widen (cl' := cl + 47) (sl' := sl + 4165) (by omega) (by omega) ?_
                                                                                exact ih H (by omega) (by omega)
                                                                              · refine WP.icmp_eq_f d_L_law_1903 hc ?_
                                                                                refine WP.iconst d_L_law_1906 ki_0 ?_
                                                                                cases H
                                                                                exact WP.ireturn d_L_law_1907 rfl rfl (by omega) (by omega)
                                                                            · skip
                                                                              rcases oj H with ⟨hq36, H⟩ | ⟨hq36, H⟩
                                                                              · refine WP.tsw (t := 1908) 36 d_L_law_33 (by rw [hq36]; decide) (by decide) rfl (by decide) ?_
                                                                                refine WP.aload_n d_L_law_1908 1 rfl ?_
                                                                                refine WP.aload_n d_L_law_1909 0 rfl ?_
                                                                                refine WP.iload_n d_L_law_1910 3 rfl ?_
                                                                                refine WP.iconst d_L_law_1911 ki_1 ?_
                                                                                refine WP.iadd d_L_law_1912 ?_
                                                                                obtain ⟨x481, ex481, H⟩ := ob H
                                                                                refine WP.scl d_L_law_1913 ex481 ?_
                                                                                obtain ⟨⟨x484, h483⟩, e482, H⟩ := ob H
                                                                                refine WP.cV (c := 8) (As := [.int x481]) (st := []) (st9 := [.int x484]) (cl9 := (cl + 47)) (sl9 := (sl + 2667)) d_L_law_1914 (ok_X7_image V e482) tv_X7_image ti_X7_image ts_X7_image lk_L_166 ⟨Nat.le_of_ble_eq_true rfl, Nat.le_of_ble_eq_true rfl, (by have := mM_X7_image; have := mS_X7_image; omega), (by have := mM_X7_image; have := mS_X7_image; omega)⟩ kc_X7_image (kd_X7_image e482) rfl rfl (Nat.le_of_ble_eq_true rfl) rfl rfl rfl ?_
                                                                                refine WP.aload_n d_L_law_1917 2 rfl ?_
                                                                                refine WP.aload_n d_L_law_1918 0 rfl ?_
                                                                                refine WP.iload_n d_L_law_1919 3 rfl ?_
                                                                                refine WP.iconst d_L_law_1920 ki_1 ?_
                                                                                refine WP.iadd d_L_law_1921 ?_
                                                                                obtain ⟨x485, ex485, H⟩ := ob H
                                                                                refine WP.scl d_L_law_1922 ex485 ?_
                                                                                obtain ⟨⟨x488, h487⟩, e486, H⟩ := ob H
                                                                                refine WP.cV (c := 9) (As := [.int x485]) (st := [.int x484]) (st9 := [.int x488, .int x484]) (cl9 := (cl + 47)) (sl9 := (sl + 2667)) d_L_law_1923 (ok_X8_image V e486) tv_X8_image ti_X8_image ts_X8_image lk_L_170 ⟨Nat.le_of_ble_eq_true rfl, Nat.le_of_ble_eq_true rfl, (by have := mM_X8_image; have := mS_X8_image; omega), (by have := mM_X8_image; have := mS_X8_image; omega)⟩ kc_X8_image (kd_X8_image e486) rfl rfl (Nat.le_of_ble_eq_true rfl) rfl rfl rfl ?_
                                                                                rcases oj H with ⟨hc, H⟩ | ⟨hc, H⟩
                                                                                · refine WP.icmp_eq_t d_L_law_1926 hc ?_
                                                                                  refine WP.iinc (lv9 := [(3, .int (l3 + 6)), (0, .ref (vE V 9)), (1, .ref l1), (2, .ref l2)]) d_L_law_1954 3 rfl ki_6 (Nat.le_of_ble_eq_true rfl) rfl ?_
                                                                                  refine WP.goto d_L_law_1957 ?_
                                                                                  refine WP.sub [1, 2, 3, 0] (lv' := [(0, .ref (vE V 9)), (1, .ref l1), (2, .ref l2), (3, .int (l3 + 6))]) rfl ?_
                                                                                  refine WP.widen (cl' := cl + 47) (sl' := sl + 4165) (by omega) (by omega) ?_
                                                                                  exact ih H (by omega) (by omega)
                                                                                · refine WP.icmp_eq_f d_L_law_1926 hc ?_
                                                                                  refine WP.iconst d_L_law_1929 ki_0 ?_
                                                                                  cases H
                                                                                  exact WP.ireturn d_L_law_1930 rfl rfl (by omega) (by omega)
                                                                              · skip
                                                                                rcases oj H with ⟨hq37, H⟩ | ⟨hq37, H⟩
                                                                                · refine WP.tsw (t := 1931) 37 d_L_law_33 (by rw [hq37]; decide) (by decide) rfl (by decide) ?_
                                                                                  refine WP.aload_n d_L_law_1931 1 rfl ?_
                                                                                  refine WP.aload_n d_L_law_1932 0 rfl ?_
                                                                                  refine WP.iload_n d_L_law_1933 3 rfl ?_
                                                                                  refine WP.iconst d_L_law_1934 ki_1 ?_
                                                                                  refine WP.iadd d_L_law_1935 ?_
                                                                                  obtain ⟨x489, ex489, H⟩ := ob H
                                                                                  refine WP.scl d_L_law_1936 ex489 ?_
                                                                                  obtain ⟨⟨x492, h491⟩, e490, H⟩ := ob H
                                                                                  refine WP.cV (c := 8) (As := [.int x489]) (st := []) (st9 := [.int x492]) (cl9 := cl) (sl9 := sl) d_L_law_1937 (ok_X7_again V e490) tv_X7_again ti_X7_again ts_X7_again lk_L_171 ⟨Nat.le_of_ble_eq_true rfl, Nat.le_of_ble_eq_true rfl, (by have := mM_X7_again; have := mS_X7_again; omega), (by have := mM_X7_again; have := mS_X7_again; omega)⟩ kc_X7_again (kd_X7_again e490) rfl rfl (Nat.le_of_ble_eq_true rfl) rfl rfl rfl ?_
                                                                                  refine WP.aload_n d_L_law_1940 2 rfl ?_
                                                                                  refine WP.aload_n d_L_law_1941 0 rfl ?_
                                                                                  refine WP.iload_n d_L_law_1942 3 rfl ?_
                                                                                  refine WP.iconst d_L_law_1943 ki_1 ?_
                                                                                  refine WP.iadd d_L_law_1944 ?_
                                                                                  obtain ⟨x493, ex493, H⟩ := ob H
                                                                                  refine WP.scl d_L_law_1945 ex493 ?_
                                                                                  obtain ⟨⟨x496, h495⟩, e494, H⟩ := ob H
                                                                                  refine WP.cV (c := 9) (As := [.int x493]) (st := [.int x492]) (st9 := [.int x496, .int x492]) (cl9 := cl) (sl9 := sl) d_L_law_1946 (ok_X8_again V e494) tv_X8_again ti_X8_again ts_X8_again lk_L_174 ⟨Nat.le_of_ble_eq_true rfl, Nat.le_of_ble_eq_true rfl, (by have := mM_X8_again; have := mS_X8_again; omega), (by have := mM_X8_again; have := mS_X8_again; omega)⟩ kc_X8_again (kd_X8_again e494) rfl rfl (Nat.le_of_ble_eq_true rfl) rfl rfl rfl ?_
                                                                                  rcases oj H with ⟨hc, H⟩ | ⟨hc, H⟩
                                                                                  · refine WP.icmp_eq_t d_L_law_1949 hc ?_
                                                                                    refine WP.iinc (lv9 := [(3, .int (l3 + 6)), (0, .ref (vE V 9)), (1, .ref l1), (2, .ref l2)]) d_L_law_1954 3 rfl ki_6 (Nat.le_of_ble_eq_true rfl) rfl ?_
                                                                                    refine WP.goto d_L_law_1957 ?_
                                                                                    refine WP.sub [1, 2, 3, 0] (lv' := [(0, .ref (vE V 9)), (1, .ref l1), (2, .ref l2), (3, .int (l3 + 6))]) rfl ?_
                                                                                    refine WP.widen (cl' := cl + 47) (sl' := sl + 4165) (by omega) (by omega) ?_
                                                                                    exact ih H (by omega) (by omega)
                                                                                  · refine WP.icmp_eq_f d_L_law_1949 hc ?_
                                                                                    refine WP.iconst d_L_law_1952 ki_0 ?_
                                                                                    cases H
                                                                                    exact WP.ireturn d_L_law_1953 rfl rfl (by omega) (by omega)
                                                                                · skip
                                                                                  refine WP.tswd (t := 1954) d_L_law_33 (tsw_out (n := 38) [0, 1, 2, 3, 4, 5, 6, 7, 8, 9, 10, 11, 12, 13, 14, 15, 16, 17, 18, 19, 20, 21, 22, 23, 24, 25, 26, 27, 28, 29, 30, 31, 32, 33, 34, 35, 36, 37] (by decide) (by decide +kernel) (List.forall_mem_cons.mpr ⟨hq0, (List.forall_mem_cons.mpr ⟨hq1, (List.forall_mem_cons.mpr ⟨hq2, (List.forall_mem_cons.mpr ⟨hq3, (List.forall_mem_cons.mpr ⟨hq4, (List.forall_mem_cons.mpr ⟨hq5, (List.forall_mem_cons.mpr ⟨hq6, (List.forall_mem_cons.mpr ⟨hq7, (List.forall_mem_cons.mpr ⟨hq8, (List.forall_mem_cons.mpr ⟨hq9, (List.forall_mem_cons.mpr ⟨hq10, (List.forall_mem_cons.mpr ⟨hq11, (List.forall_mem_cons.mpr ⟨hq12, (List.forall_mem_cons.mpr ⟨hq13, (List.forall_mem_cons.mpr ⟨hq14, (List.forall_mem_cons.mpr ⟨hq15, (List.forall_mem_cons.mpr ⟨hq16, (List.forall_mem_cons.mpr ⟨hq17, (List.forall_mem_cons.mpr ⟨hq18, (List.forall_mem_cons.mpr ⟨hq19, (List.forall_mem_cons.mpr ⟨hq20, (List.forall_mem_cons.mpr ⟨hq21, (List.forall_mem_cons.mpr ⟨hq22, (List.forall_mem_cons.mpr ⟨hq23, (List.forall_mem_cons.mpr ⟨hq24, (List.forall_mem_cons.mpr ⟨hq25, (List.forall_mem_cons.mpr ⟨hq26, (List.forall_mem_cons.mpr ⟨hq27, (List.forall_mem_cons.mpr ⟨hq28, (List.forall_mem_cons.mpr ⟨hq29, (List.forall_mem_cons.mpr ⟨hq30, (List.forall_mem_cons.mpr ⟨hq31, (List.forall_mem_cons.mpr ⟨hq32, (List.forall_mem_cons.mpr ⟨hq33, (List.forall_mem_cons.mpr ⟨hq34, (List.forall_mem_cons.mpr ⟨hq35, (List.forall_mem_cons.mpr ⟨hq36, (List.forall_mem_cons.mpr ⟨hq37, (fun _ hz9 => absurd hz9 List.not_mem_nil)⟩)⟩)⟩)⟩)⟩)⟩)⟩)⟩)⟩)⟩)⟩)⟩)⟩)⟩)⟩)⟩)⟩)⟩)⟩)⟩)⟩)⟩)⟩)⟩)⟩)⟩)⟩)⟩)⟩)⟩)⟩)⟩)⟩)⟩)⟩)⟩)⟩)⟩)) (by decide) ?_
                                                                                  refine WP.iinc (lv9 := [(3, .int (l3 + 6)), (0, .ref (vE V 9)), (1, .ref l1), (2, .ref l2)]) d_L_law_1954 3 rfl ki_6 (Nat.le_of_ble_eq_true rfl) rfl ?_
                                                                                  refine WP.goto d_L_law_1957 ?_
                                                                                  refine WP.sub [1, 2, 3, 0] (lv' := [(0, .ref (vE V 9)), (1, .ref l1), (2, .ref l2), (3, .int (l3 + 6))]) rfl ?_
                                                                                  refine WP.widen (cl' := cl + 47) (sl' := sl + 4165) (by omega) (by omega) ?_
                                                                                  exact ih H (by omega) (by omega)

set_option maxRecDepth 20000 in
set_option maxHeartbeats 4000000 in
theorem okw_L_law (V : EV) {h : HA} {r : Int32} {hR : HA} (H : L_law V h = some (r, hR)) : WP V M_L_law 0 [(0, .ref (vE V 9))] [] h 0 0 (some (.int r)) hR := by
  unfold L_law at H
  obtain ⟨h1, eh1, H⟩ := ol H
  refine WP.new (c := 8) d_L_law_0 (Nat.le_of_ble_eq_true rfl) (Nat.le_of_ble_eq_true rfl) wc_L_7 wn_8 wz_X7 (Nat.le_of_ble_eq_true rfl) (Nat.le_of_ble_eq_true rfl) (by intro k hk; exact newd_8 k hk) ?_
  rw [eh1]
  refine WP.cs (cl9 := 1) (sl9 := 6) rfl rfl ?_
  refine WP.dup d_L_law_3 rfl ?_
  obtain ⟨h3, e2, H⟩ := ob H
  refine WP.cI (As := []) (st := [.ref (hz h)]) (cl9 := 75) (sl9 := 3565) d_L_law_4 (ok_X7_init V e2) tv_X7_init ti_X7_init rfl rfl lk_L_9 ⟨Nat.le_of_ble_eq_true rfl, Nat.le_of_ble_eq_true rfl, Nat.le_of_ble_eq_true rfl, Nat.le_of_ble_eq_true rfl⟩ rfl rfl (Nat.le_of_ble_eq_true rfl) rfl rfl ?_
  refine WP.astore_n (lv9 := [(1, .ref (hz h)), (0, .ref (vE V 9))]) d_L_law_7 (Nat.le_of_ble_eq_true rfl) rfl ?_
  obtain ⟨h4, eh4, H⟩ := ol H
  refine WP.new (c := 9) d_L_law_8 (Nat.le_of_ble_eq_true rfl) (Nat.le_of_ble_eq_true rfl) wc_L_10 wn_9 wz_X8 (Nat.le_of_ble_eq_true rfl) (Nat.le_of_ble_eq_true rfl) (by intro k hk; exact newd_9 k hk) ?_
  rw [eh4]
  refine WP.cs (cl9 := 76) (sl9 := 3620) rfl rfl ?_
  refine WP.dup d_L_law_11 rfl ?_
  obtain ⟨h6, e5, H⟩ := ob H
  refine WP.cI (As := []) (st := [.ref (hz h3)]) (cl9 := 106) (sl9 := 78365) d_L_law_12 (ok_X8_init V e5) tv_X8_init ti_X8_init rfl rfl lk_L_12 ⟨Nat.le_of_ble_eq_true rfl, Nat.le_of_ble_eq_true rfl, Nat.le_of_ble_eq_true rfl, Nat.le_of_ble_eq_true rfl⟩ rfl rfl (Nat.le_of_ble_eq_true rfl) rfl rfl ?_
  refine WP.astore_n (lv9 := [(2, .ref (hz h3)), (1, .ref (hz h)), (0, .ref (vE V 9))]) d_L_law_15 (Nat.le_of_ble_eq_true rfl) rfl ?_
  refine WP.iconst d_L_law_16 ki_0 ?_
  refine WP.istore_n (lv9 := [(3, .int 0), (2, .ref (hz h3)), (1, .ref (hz h)), (0, .ref (vE V 9))]) d_L_law_17 (Nat.le_of_ble_eq_true rfl) rfl ?_
  refine WP.sub [3, 2, 1, 0] (lv' := [(0, .ref (vE V 9)), (1, .ref (hz h)), (2, .ref (hz h3)), (3, .int 0)]) rfl ?_
  exact okl_L_law_L18 V (CL := 24264) (SL := 2219175) (Nat.le_of_ble_eq_true rfl) (Nat.le_of_ble_eq_true rfl) _ H (Nat.le_of_ble_eq_true rfl) (Nat.le_of_ble_eq_true rfl)
