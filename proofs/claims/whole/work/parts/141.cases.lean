theorem kcL_13 : Cond.constantLong R_law 13 4294967295 ∈ gw := (gwi 1249 (by decide +kernel) rfl)
theorem lkL_15 : Cond.methodLink R_law 15 yX9_feed ∈ gw := (gwi 372 (by decide +kernel) rfl)
theorem lkL_19 : Cond.methodLink R_law 19 yX10_feed ∈ gw := (gwi 981 (by decide +kernel) rfl)
set_option maxRecDepth 100000 in
set_option maxHeartbeats 4000000 in
theorem LW_feed {X : Wx} {b L i c : Nat} {xs : Nat → Int32} {S : Sv} {h : Hp} (hL : L ≤ 3072) (hi : i + 6 ≤ L) (hR : RelC S h ∧ RelM S h) (ho : Ok S c) (hc : c < 512) (hop : OpOk mX9_feed mX10_feed [.long (((Int32.toInt64 (xs (i + 1))) <<< (Int32.toInt64 32 &&& 63)) ||| ((Int32.toInt64 (xs (i + 2))) &&& 4294967295)), .int (xs (i + 3))]) (hn : ∀ S2 h2, RelC S2 h2 → RelM S2 h2 → Ok S2 (c + 1) → LV X b L xs 1027 [(0, .ref b), (1, .ref (X.2.2.2 70)), (2, .ref (X.2.2.2 209)), (3, .int (nI i))] [] h2) : LV X b L xs 156 [(0, .ref b), (1, .ref (X.2.2.2 70)), (2, .ref (X.2.2.2 209)), (3, .int (nI i))] [] h := by
  obtain ⟨r, hO, hC, hM⟩ := hop X S c h hR.1 hR.2 ho hc
  refine L_aload_n dL_law_156 rfl 1 rfl ?_
  refine L_aload_n dL_law_157 rfl 0 rfl ?_
  refine L_iload_n dL_law_158 rfl 3 rfl ?_
  refine L_iconst (v := 1) dL_law_159 (by decide) ?_
  refine L_iadd dL_law_160 ?_
  refine L_sld (j := i + 1) hL (by rw [show (1 : Int32) = nI 1 from rfl, nI_add]) (by omega) dL_law_161 ?_
  refine L_i2l dL_law_162 ?_
  refine L_bipush (v := 32) dL_law_163 (by decide) ?_
  refine L_lshl dL_law_165 ?_
  refine L_aload_n dL_law_166 rfl 0 rfl ?_
  refine L_iload_n dL_law_167 rfl 3 rfl ?_
  refine L_iconst (v := 2) dL_law_168 (by decide) ?_
  refine L_iadd dL_law_169 ?_
  refine L_sld (j := i + 2) hL (by rw [show (2 : Int32) = nI 2 from rfl, nI_add]) (by omega) dL_law_170 ?_
  refine L_i2l dL_law_171 ?_
  refine L_ldc2 dL_law_172 kcL_13 ?_
  refine L_land dL_law_175 ?_
  refine L_lor dL_law_176 ?_
  refine L_aload_n dL_law_177 rfl 0 rfl ?_
  refine L_iload_n dL_law_178 rfl 3 rfl ?_
  refine L_iconst (v := 3) dL_law_179 (by decide) ?_
  refine L_iadd dL_law_180 ?_
  refine L_sld (j := i + 3) hL (by rw [show (3 : Int32) = nI 3 from rfl, nI_add]) (by omega) dL_law_181 ?_
  refine L_call (i := 70) (ci := 9) (As := [.long (((Int32.toInt64 (xs (i + 1))) <<< (Int32.toInt64 32 &&& 63)) ||| ((Int32.toInt64 (xs (i + 2))) &&& 4294967295)), .int (xs (i + 3))]) (v := r.1) (d := 60) miX9_feed lkL_15 sh70 ⟨_, _, rfl⟩ rfl rfl (fun _ => rfl) (Nat.le_of_ble_eq_true rfl) dL_law_182 (by decide) hC (fun h1 q1 => ?_)
  refine L_aload_n dL_law_185 rfl 2 rfl ?_
  refine L_aload_n dL_law_186 rfl 0 rfl ?_
  refine L_iload_n dL_law_187 rfl 3 rfl ?_
  refine L_iconst (v := 1) dL_law_188 (by decide) ?_
  refine L_iadd dL_law_189 ?_
  refine L_sld (j := i + 1) hL (by rw [show (1 : Int32) = nI 1 from rfl, nI_add]) (by omega) dL_law_190 ?_
  refine L_i2l dL_law_191 ?_
  refine L_bipush (v := 32) dL_law_192 (by decide) ?_
  refine L_lshl dL_law_194 ?_
  refine L_aload_n dL_law_195 rfl 0 rfl ?_
  refine L_iload_n dL_law_196 rfl 3 rfl ?_
  refine L_iconst (v := 2) dL_law_197 (by decide) ?_
  refine L_iadd dL_law_198 ?_
  refine L_sld (j := i + 2) hL (by rw [show (2 : Int32) = nI 2 from rfl, nI_add]) (by omega) dL_law_199 ?_
  refine L_i2l dL_law_200 ?_
  refine L_ldc2 dL_law_201 kcL_13 ?_
  refine L_land dL_law_204 ?_
  refine L_lor dL_law_205 ?_
  refine L_aload_n dL_law_206 rfl 0 rfl ?_
  refine L_iload_n dL_law_207 rfl 3 rfl ?_
  refine L_iconst (v := 3) dL_law_208 (by decide) ?_
  refine L_iadd dL_law_209 ?_
  refine L_sld (j := i + 3) hL (by rw [show (3 : Int32) = nI 3 from rfl, nI_add]) (by omega) dL_law_210 ?_
  refine L_call (i := 209) (ci := 10) (As := [.long (((Int32.toInt64 (xs (i + 1))) <<< (Int32.toInt64 32 &&& 63)) ||| ((Int32.toInt64 (xs (i + 2))) &&& 4294967295)), .int (xs (i + 3))]) (v := r.1) (d := 60) miX10_feed lkL_19 sh209 ⟨_, _, rfl⟩ rfl rfl (fun _ => rfl) (Nat.le_of_ble_eq_true rfl) dL_law_211 (by decide) (hM h1 (hR.2.keep q1.2)) (fun h2 q2 => ?_)
  refine L_eq (tgt := 1027) dL_law_214 (by decide) rfl ?_
  exact hn r.2 h2 (q1.1.keep (q2.2.mono (fun a ha => zC_low ha))) q2.1 hO
theorem lkL_20 : Cond.methodLink R_law 20 yX9_read ∈ gw := (gwi 387 (by decide +kernel) rfl)
theorem lkL_24 : Cond.methodLink R_law 24 yX10_read ∈ gw := (gwi 993 (by decide +kernel) rfl)
set_option maxRecDepth 100000 in
set_option maxHeartbeats 4000000 in
theorem LW_read {X : Wx} {b L i c : Nat} {xs : Nat → Int32} {S : Sv} {h : Hp} (hL : L ≤ 3072) (hi : i + 6 ≤ L) (hR : RelC S h ∧ RelM S h) (ho : Ok S c) (hc : c < 512) (hop : OpOk mX9_read mX10_read [.int (xs (i + 1))]) (hn : ∀ S2 h2, RelC S2 h2 → RelM S2 h2 → Ok S2 (c + 1) → LV X b L xs 1027 [(0, .ref b), (1, .ref (X.2.2.2 70)), (2, .ref (X.2.2.2 209)), (3, .int (nI i))] [] h2) : LV X b L xs 219 [(0, .ref b), (1, .ref (X.2.2.2 70)), (2, .ref (X.2.2.2 209)), (3, .int (nI i))] [] h := by
  obtain ⟨r, hO, hC, hM⟩ := hop X S c h hR.1 hR.2 ho hc
  refine L_aload_n dL_law_219 rfl 1 rfl ?_
  refine L_aload_n dL_law_220 rfl 0 rfl ?_
  refine L_iload_n dL_law_221 rfl 3 rfl ?_
  refine L_iconst (v := 1) dL_law_222 (by decide) ?_
  refine L_iadd dL_law_223 ?_
  refine L_sld (j := i + 1) hL (by rw [show (1 : Int32) = nI 1 from rfl, nI_add]) (by omega) dL_law_224 ?_
  refine L_call (i := 70) (ci := 9) (As := [.int (xs (i + 1))]) (v := r.1) (d := 60) miX9_read lkL_20 sh70 ⟨_, _, rfl⟩ rfl rfl (fun _ => rfl) (Nat.le_of_ble_eq_true rfl) dL_law_225 (by decide) hC (fun h1 q1 => ?_)
  refine L_aload_n dL_law_228 rfl 2 rfl ?_
  refine L_aload_n dL_law_229 rfl 0 rfl ?_
  refine L_iload_n dL_law_230 rfl 3 rfl ?_
  refine L_iconst (v := 1) dL_law_231 (by decide) ?_
  refine L_iadd dL_law_232 ?_
  refine L_sld (j := i + 1) hL (by rw [show (1 : Int32) = nI 1 from rfl, nI_add]) (by omega) dL_law_233 ?_
  refine L_call (i := 209) (ci := 10) (As := [.int (xs (i + 1))]) (v := r.1) (d := 60) miX10_read lkL_24 sh209 ⟨_, _, rfl⟩ rfl rfl (fun _ => rfl) (Nat.le_of_ble_eq_true rfl) dL_law_234 (by decide) (hM h1 (hR.2.keep q1.2)) (fun h2 q2 => ?_)
  refine L_eq (tgt := 1027) dL_law_237 (by decide) rfl ?_
  exact hn r.2 h2 (q1.1.keep (q2.2.mono (fun a ha => zC_low ha))) q2.1 hO
theorem lkL_25 : Cond.methodLink R_law 25 yX9_write ∈ gw := (gwi 488 (by decide +kernel) rfl)
theorem lkL_28 : Cond.methodLink R_law 28 yX10_write ∈ gw := (gwi 1046 (by decide +kernel) rfl)
set_option maxRecDepth 100000 in
set_option maxHeartbeats 4000000 in
theorem LW_write {X : Wx} {b L i c : Nat} {xs : Nat → Int32} {S : Sv} {h : Hp} (hL : L ≤ 3072) (hi : i + 6 ≤ L) (hR : RelC S h ∧ RelM S h) (ho : Ok S c) (hc : c < 512) (hop : OpOk mX9_write mX10_write [.int (xs (i + 1))]) (hn : ∀ S2 h2, RelC S2 h2 → RelM S2 h2 → Ok S2 (c + 1) → LV X b L xs 1027 [(0, .ref b), (1, .ref (X.2.2.2 70)), (2, .ref (X.2.2.2 209)), (3, .int (nI i))] [] h2) : LV X b L xs 242 [(0, .ref b), (1, .ref (X.2.2.2 70)), (2, .ref (X.2.2.2 209)), (3, .int (nI i))] [] h := by
  obtain ⟨r, hO, hC, hM⟩ := hop X S c h hR.1 hR.2 ho hc
  refine L_aload_n dL_law_242 rfl 1 rfl ?_
  refine L_aload_n dL_law_243 rfl 0 rfl ?_
  refine L_iload_n dL_law_244 rfl 3 rfl ?_
  refine L_iconst (v := 1) dL_law_245 (by decide) ?_
  refine L_iadd dL_law_246 ?_
  refine L_sld (j := i + 1) hL (by rw [show (1 : Int32) = nI 1 from rfl, nI_add]) (by omega) dL_law_247 ?_
  refine L_call (i := 70) (ci := 9) (As := [.int (xs (i + 1))]) (v := r.1) (d := 60) miX9_write lkL_25 sh70 ⟨_, _, rfl⟩ rfl rfl (fun _ => rfl) (Nat.le_of_ble_eq_true rfl) dL_law_248 (by decide) hC (fun h1 q1 => ?_)
  refine L_aload_n dL_law_251 rfl 2 rfl ?_
  refine L_aload_n dL_law_252 rfl 0 rfl ?_
  refine L_iload_n dL_law_253 rfl 3 rfl ?_
  refine L_iconst (v := 1) dL_law_254 (by decide) ?_
  refine L_iadd dL_law_255 ?_
  refine L_sld (j := i + 1) hL (by rw [show (1 : Int32) = nI 1 from rfl, nI_add]) (by omega) dL_law_256 ?_
  refine L_call (i := 209) (ci := 10) (As := [.int (xs (i + 1))]) (v := r.1) (d := 60) miX10_write lkL_28 sh209 ⟨_, _, rfl⟩ rfl rfl (fun _ => rfl) (Nat.le_of_ble_eq_true rfl) dL_law_257 (by decide) (hM h1 (hR.2.keep q1.2)) (fun h2 q2 => ?_)
  refine L_eq (tgt := 1027) dL_law_260 (by decide) rfl ?_
  exact hn r.2 h2 (q1.1.keep (q2.2.mono (fun a ha => zC_low ha))) q2.1 hO
theorem lkL_29 : Cond.methodLink R_law 29 yX9_letter ∈ gw := (gwi 524 (by decide +kernel) rfl)
theorem lkL_32 : Cond.methodLink R_law 32 yX10_letter ∈ gw := (gwi 1066 (by decide +kernel) rfl)
set_option maxRecDepth 100000 in
set_option maxHeartbeats 4000000 in
theorem LW_letter {X : Wx} {b L i c : Nat} {xs : Nat → Int32} {S : Sv} {h : Hp} (hL : L ≤ 3072) (hi : i + 6 ≤ L) (hR : RelC S h ∧ RelM S h) (ho : Ok S c) (hc : c < 512) (hop : OpOk mX9_letter mX10_letter [.int (xs (i + 1))]) (hn : ∀ S2 h2, RelC S2 h2 → RelM S2 h2 → Ok S2 (c + 1) → LV X b L xs 1027 [(0, .ref b), (1, .ref (X.2.2.2 70)), (2, .ref (X.2.2.2 209)), (3, .int (nI i))] [] h2) : LV X b L xs 265 [(0, .ref b), (1, .ref (X.2.2.2 70)), (2, .ref (X.2.2.2 209)), (3, .int (nI i))] [] h := by
  obtain ⟨r, hO, hC, hM⟩ := hop X S c h hR.1 hR.2 ho hc
  refine L_aload_n dL_law_265 rfl 1 rfl ?_
  refine L_aload_n dL_law_266 rfl 0 rfl ?_
  refine L_iload_n dL_law_267 rfl 3 rfl ?_
  refine L_iconst (v := 1) dL_law_268 (by decide) ?_
  refine L_iadd dL_law_269 ?_
  refine L_sld (j := i + 1) hL (by rw [show (1 : Int32) = nI 1 from rfl, nI_add]) (by omega) dL_law_270 ?_
  refine L_call (i := 70) (ci := 9) (As := [.int (xs (i + 1))]) (v := r.1) (d := 60) miX9_letter lkL_29 sh70 ⟨_, _, rfl⟩ rfl rfl (fun _ => rfl) (Nat.le_of_ble_eq_true rfl) dL_law_271 (by decide) hC (fun h1 q1 => ?_)
  refine L_aload_n dL_law_274 rfl 2 rfl ?_
  refine L_aload_n dL_law_275 rfl 0 rfl ?_
  refine L_iload_n dL_law_276 rfl 3 rfl ?_
  refine L_iconst (v := 1) dL_law_277 (by decide) ?_
  refine L_iadd dL_law_278 ?_
  refine L_sld (j := i + 1) hL (by rw [show (1 : Int32) = nI 1 from rfl, nI_add]) (by omega) dL_law_279 ?_
  refine L_call (i := 209) (ci := 10) (As := [.int (xs (i + 1))]) (v := r.1) (d := 60) miX10_letter lkL_32 sh209 ⟨_, _, rfl⟩ rfl rfl (fun _ => rfl) (Nat.le_of_ble_eq_true rfl) dL_law_280 (by decide) (hM h1 (hR.2.keep q1.2)) (fun h2 q2 => ?_)
  refine L_eq (tgt := 1027) dL_law_283 (by decide) rfl ?_
  exact hn r.2 h2 (q1.1.keep (q2.2.mono (fun a ha => zC_low ha))) q2.1 hO
theorem lkL_33 : Cond.methodLink R_law 33 yX9_copy ∈ gw := (gwi 528 (by decide +kernel) rfl)
theorem lkL_37 : Cond.methodLink R_law 37 yX10_copy ∈ gw := (gwi 1070 (by decide +kernel) rfl)
set_option maxRecDepth 100000 in
set_option maxHeartbeats 4000000 in
theorem LW_copy {X : Wx} {b L i c : Nat} {xs : Nat → Int32} {S : Sv} {h : Hp} (hL : L ≤ 3072) (hi : i + 6 ≤ L) (hR : RelC S h ∧ RelM S h) (ho : Ok S c) (hc : c < 512) (hop : OpOk mX9_copy mX10_copy [.int (xs (i + 1)), .int (xs (i + 2))]) (hn : ∀ S2 h2, RelC S2 h2 → RelM S2 h2 → Ok S2 (c + 1) → LV X b L xs 1027 [(0, .ref b), (1, .ref (X.2.2.2 70)), (2, .ref (X.2.2.2 209)), (3, .int (nI i))] [] h2) : LV X b L xs 288 [(0, .ref b), (1, .ref (X.2.2.2 70)), (2, .ref (X.2.2.2 209)), (3, .int (nI i))] [] h := by
  obtain ⟨r, hO, hC, hM⟩ := hop X S c h hR.1 hR.2 ho hc
  refine L_aload_n dL_law_288 rfl 1 rfl ?_
  refine L_aload_n dL_law_289 rfl 0 rfl ?_
  refine L_iload_n dL_law_290 rfl 3 rfl ?_
  refine L_iconst (v := 1) dL_law_291 (by decide) ?_
  refine L_iadd dL_law_292 ?_
  refine L_sld (j := i + 1) hL (by rw [show (1 : Int32) = nI 1 from rfl, nI_add]) (by omega) dL_law_293 ?_
  refine L_aload_n dL_law_294 rfl 0 rfl ?_
  refine L_iload_n dL_law_295 rfl 3 rfl ?_
  refine L_iconst (v := 2) dL_law_296 (by decide) ?_
  refine L_iadd dL_law_297 ?_
  refine L_sld (j := i + 2) hL (by rw [show (2 : Int32) = nI 2 from rfl, nI_add]) (by omega) dL_law_298 ?_
  refine L_call (i := 70) (ci := 9) (As := [.int (xs (i + 1)), .int (xs (i + 2))]) (v := r.1) (d := 60) miX9_copy lkL_33 sh70 ⟨_, _, rfl⟩ rfl rfl (fun _ => rfl) (Nat.le_of_ble_eq_true rfl) dL_law_299 (by decide) hC (fun h1 q1 => ?_)
  refine L_aload_n dL_law_302 rfl 2 rfl ?_
  refine L_aload_n dL_law_303 rfl 0 rfl ?_
  refine L_iload_n dL_law_304 rfl 3 rfl ?_
  refine L_iconst (v := 1) dL_law_305 (by decide) ?_
  refine L_iadd dL_law_306 ?_
  refine L_sld (j := i + 1) hL (by rw [show (1 : Int32) = nI 1 from rfl, nI_add]) (by omega) dL_law_307 ?_
  refine L_aload_n dL_law_308 rfl 0 rfl ?_
  refine L_iload_n dL_law_309 rfl 3 rfl ?_
  refine L_iconst (v := 2) dL_law_310 (by decide) ?_
  refine L_iadd dL_law_311 ?_
  refine L_sld (j := i + 2) hL (by rw [show (2 : Int32) = nI 2 from rfl, nI_add]) (by omega) dL_law_312 ?_
  refine L_call (i := 209) (ci := 10) (As := [.int (xs (i + 1)), .int (xs (i + 2))]) (v := r.1) (d := 60) miX10_copy lkL_37 sh209 ⟨_, _, rfl⟩ rfl rfl (fun _ => rfl) (Nat.le_of_ble_eq_true rfl) dL_law_313 (by decide) (hM h1 (hR.2.keep q1.2)) (fun h2 q2 => ?_)
  refine L_eq (tgt := 1027) dL_law_316 (by decide) rfl ?_
  exact hn r.2 h2 (q1.1.keep (q2.2.mono (fun a ha => zC_low ha))) q2.1 hO
theorem lkL_38 : Cond.methodLink R_law 38 yX9_clear ∈ gw := (gwi 532 (by decide +kernel) rfl)
theorem lkL_41 : Cond.methodLink R_law 41 yX10_clear ∈ gw := (gwi 1074 (by decide +kernel) rfl)
set_option maxRecDepth 100000 in
set_option maxHeartbeats 4000000 in
theorem LW_clear {X : Wx} {b L i c : Nat} {xs : Nat → Int32} {S : Sv} {h : Hp} (hL : L ≤ 3072) (hi : i + 6 ≤ L) (hR : RelC S h ∧ RelM S h) (ho : Ok S c) (hc : c < 512) (hop : OpOk mX9_clear mX10_clear [.int (xs (i + 1))]) (hn : ∀ S2 h2, RelC S2 h2 → RelM S2 h2 → Ok S2 (c + 1) → LV X b L xs 1027 [(0, .ref b), (1, .ref (X.2.2.2 70)), (2, .ref (X.2.2.2 209)), (3, .int (nI i))] [] h2) : LV X b L xs 321 [(0, .ref b), (1, .ref (X.2.2.2 70)), (2, .ref (X.2.2.2 209)), (3, .int (nI i))] [] h := by
  obtain ⟨r, hO, hC, hM⟩ := hop X S c h hR.1 hR.2 ho hc
  refine L_aload_n dL_law_321 rfl 1 rfl ?_
  refine L_aload_n dL_law_322 rfl 0 rfl ?_
  refine L_iload_n dL_law_323 rfl 3 rfl ?_
  refine L_iconst (v := 1) dL_law_324 (by decide) ?_
  refine L_iadd dL_law_325 ?_
  refine L_sld (j := i + 1) hL (by rw [show (1 : Int32) = nI 1 from rfl, nI_add]) (by omega) dL_law_326 ?_
  refine L_call (i := 70) (ci := 9) (As := [.int (xs (i + 1))]) (v := r.1) (d := 60) miX9_clear lkL_38 sh70 ⟨_, _, rfl⟩ rfl rfl (fun _ => rfl) (Nat.le_of_ble_eq_true rfl) dL_law_327 (by decide) hC (fun h1 q1 => ?_)
  refine L_aload_n dL_law_330 rfl 2 rfl ?_
  refine L_aload_n dL_law_331 rfl 0 rfl ?_
  refine L_iload_n dL_law_332 rfl 3 rfl ?_
  refine L_iconst (v := 1) dL_law_333 (by decide) ?_
  refine L_iadd dL_law_334 ?_
  refine L_sld (j := i + 1) hL (by rw [show (1 : Int32) = nI 1 from rfl, nI_add]) (by omega) dL_law_335 ?_
  refine L_call (i := 209) (ci := 10) (As := [.int (xs (i + 1))]) (v := r.1) (d := 60) miX10_clear lkL_41 sh209 ⟨_, _, rfl⟩ rfl rfl (fun _ => rfl) (Nat.le_of_ble_eq_true rfl) dL_law_336 (by decide) (hM h1 (hR.2.keep q1.2)) (fun h2 q2 => ?_)
  refine L_eq (tgt := 1027) dL_law_339 (by decide) rfl ?_
  exact hn r.2 h2 (q1.1.keep (q2.2.mono (fun a ha => zC_low ha))) q2.1 hO
theorem lkL_42 : Cond.methodLink R_law 42 yX9_node ∈ gw := (gwi 536 (by decide +kernel) rfl)
theorem lkL_46 : Cond.methodLink R_law 46 yX10_node ∈ gw := (gwi 1078 (by decide +kernel) rfl)
set_option maxRecDepth 100000 in
set_option maxHeartbeats 4000000 in
theorem LW_node {X : Wx} {b L i c : Nat} {xs : Nat → Int32} {S : Sv} {h : Hp} (hL : L ≤ 3072) (hi : i + 6 ≤ L) (hR : RelC S h ∧ RelM S h) (ho : Ok S c) (hc : c < 512) (hop : OpOk mX9_node mX10_node [.int (xs (i + 1)), .int (xs (i + 2)), .int (xs (i + 3))]) (hn : ∀ S2 h2, RelC S2 h2 → RelM S2 h2 → Ok S2 (c + 1) → LV X b L xs 1027 [(0, .ref b), (1, .ref (X.2.2.2 70)), (2, .ref (X.2.2.2 209)), (3, .int (nI i))] [] h2) : LV X b L xs 344 [(0, .ref b), (1, .ref (X.2.2.2 70)), (2, .ref (X.2.2.2 209)), (3, .int (nI i))] [] h := by
  obtain ⟨r, hO, hC, hM⟩ := hop X S c h hR.1 hR.2 ho hc
  refine L_aload_n dL_law_344 rfl 1 rfl ?_
  refine L_aload_n dL_law_345 rfl 0 rfl ?_
  refine L_iload_n dL_law_346 rfl 3 rfl ?_
  refine L_iconst (v := 1) dL_law_347 (by decide) ?_
  refine L_iadd dL_law_348 ?_
  refine L_sld (j := i + 1) hL (by rw [show (1 : Int32) = nI 1 from rfl, nI_add]) (by omega) dL_law_349 ?_
  refine L_aload_n dL_law_350 rfl 0 rfl ?_
  refine L_iload_n dL_law_351 rfl 3 rfl ?_
  refine L_iconst (v := 2) dL_law_352 (by decide) ?_
  refine L_iadd dL_law_353 ?_
  refine L_sld (j := i + 2) hL (by rw [show (2 : Int32) = nI 2 from rfl, nI_add]) (by omega) dL_law_354 ?_
  refine L_aload_n dL_law_355 rfl 0 rfl ?_
  refine L_iload_n dL_law_356 rfl 3 rfl ?_
  refine L_iconst (v := 3) dL_law_357 (by decide) ?_
  refine L_iadd dL_law_358 ?_
  refine L_sld (j := i + 3) hL (by rw [show (3 : Int32) = nI 3 from rfl, nI_add]) (by omega) dL_law_359 ?_
  refine L_call (i := 70) (ci := 9) (As := [.int (xs (i + 1)), .int (xs (i + 2)), .int (xs (i + 3))]) (v := r.1) (d := 60) miX9_node lkL_42 sh70 ⟨_, _, rfl⟩ rfl rfl (fun _ => rfl) (Nat.le_of_ble_eq_true rfl) dL_law_360 (by decide) hC (fun h1 q1 => ?_)
  refine L_aload_n dL_law_363 rfl 2 rfl ?_
  refine L_aload_n dL_law_364 rfl 0 rfl ?_
  refine L_iload_n dL_law_365 rfl 3 rfl ?_
  refine L_iconst (v := 1) dL_law_366 (by decide) ?_
  refine L_iadd dL_law_367 ?_
  refine L_sld (j := i + 1) hL (by rw [show (1 : Int32) = nI 1 from rfl, nI_add]) (by omega) dL_law_368 ?_
  refine L_aload_n dL_law_369 rfl 0 rfl ?_
  refine L_iload_n dL_law_370 rfl 3 rfl ?_
  refine L_iconst (v := 2) dL_law_371 (by decide) ?_
  refine L_iadd dL_law_372 ?_
  refine L_sld (j := i + 2) hL (by rw [show (2 : Int32) = nI 2 from rfl, nI_add]) (by omega) dL_law_373 ?_
  refine L_aload_n dL_law_374 rfl 0 rfl ?_
  refine L_iload_n dL_law_375 rfl 3 rfl ?_
  refine L_iconst (v := 3) dL_law_376 (by decide) ?_
  refine L_iadd dL_law_377 ?_
  refine L_sld (j := i + 3) hL (by rw [show (3 : Int32) = nI 3 from rfl, nI_add]) (by omega) dL_law_378 ?_
  refine L_call (i := 209) (ci := 10) (As := [.int (xs (i + 1)), .int (xs (i + 2)), .int (xs (i + 3))]) (v := r.1) (d := 60) miX10_node lkL_46 sh209 ⟨_, _, rfl⟩ rfl rfl (fun _ => rfl) (Nat.le_of_ble_eq_true rfl) dL_law_379 (by decide) (hM h1 (hR.2.keep q1.2)) (fun h2 q2 => ?_)
  refine L_eq (tgt := 1027) dL_law_382 (by decide) rfl ?_
  exact hn r.2 h2 (q1.1.keep (q2.2.mono (fun a ha => zC_low ha))) q2.1 hO
theorem lkL_47 : Cond.methodLink R_law 47 yX9_size ∈ gw := (gwi 560 (by decide +kernel) rfl)
theorem lkL_50 : Cond.methodLink R_law 50 yX10_size ∈ gw := (gwi 1090 (by decide +kernel) rfl)
set_option maxRecDepth 100000 in
set_option maxHeartbeats 4000000 in
theorem LW_size {X : Wx} {b L i c : Nat} {xs : Nat → Int32} {S : Sv} {h : Hp} (hL : L ≤ 3072) (hi : i + 6 ≤ L) (hR : RelC S h ∧ RelM S h) (ho : Ok S c) (hc : c < 512) (hop : OpOk mX9_size mX10_size [.int (xs (i + 1))]) (hn : ∀ S2 h2, RelC S2 h2 → RelM S2 h2 → Ok S2 (c + 1) → LV X b L xs 1027 [(0, .ref b), (1, .ref (X.2.2.2 70)), (2, .ref (X.2.2.2 209)), (3, .int (nI i))] [] h2) : LV X b L xs 387 [(0, .ref b), (1, .ref (X.2.2.2 70)), (2, .ref (X.2.2.2 209)), (3, .int (nI i))] [] h := by
  obtain ⟨r, hO, hC, hM⟩ := hop X S c h hR.1 hR.2 ho hc
  refine L_aload_n dL_law_387 rfl 1 rfl ?_
  refine L_aload_n dL_law_388 rfl 0 rfl ?_
  refine L_iload_n dL_law_389 rfl 3 rfl ?_
  refine L_iconst (v := 1) dL_law_390 (by decide) ?_
  refine L_iadd dL_law_391 ?_
  refine L_sld (j := i + 1) hL (by rw [show (1 : Int32) = nI 1 from rfl, nI_add]) (by omega) dL_law_392 ?_
  refine L_call (i := 70) (ci := 9) (As := [.int (xs (i + 1))]) (v := r.1) (d := 60) miX9_size lkL_47 sh70 ⟨_, _, rfl⟩ rfl rfl (fun _ => rfl) (Nat.le_of_ble_eq_true rfl) dL_law_393 (by decide) hC (fun h1 q1 => ?_)
  refine L_aload_n dL_law_396 rfl 2 rfl ?_
  refine L_aload_n dL_law_397 rfl 0 rfl ?_
  refine L_iload_n dL_law_398 rfl 3 rfl ?_
  refine L_iconst (v := 1) dL_law_399 (by decide) ?_
  refine L_iadd dL_law_400 ?_
  refine L_sld (j := i + 1) hL (by rw [show (1 : Int32) = nI 1 from rfl, nI_add]) (by omega) dL_law_401 ?_
  refine L_call (i := 209) (ci := 10) (As := [.int (xs (i + 1))]) (v := r.1) (d := 60) miX10_size lkL_50 sh209 ⟨_, _, rfl⟩ rfl rfl (fun _ => rfl) (Nat.le_of_ble_eq_true rfl) dL_law_402 (by decide) (hM h1 (hR.2.keep q1.2)) (fun h2 q2 => ?_)
  refine L_eq (tgt := 1027) dL_law_405 (by decide) rfl ?_
  exact hn r.2 h2 (q1.1.keep (q2.2.mono (fun a ha => zC_low ha))) q2.1 hO
theorem lkL_51 : Cond.methodLink R_law 51 yX9_relabel ∈ gw := (gwi 564 (by decide +kernel) rfl)
theorem lkL_54 : Cond.methodLink R_law 54 yX10_relabel ∈ gw := (gwi 1094 (by decide +kernel) rfl)
set_option maxRecDepth 100000 in
set_option maxHeartbeats 4000000 in
theorem LW_relabel {X : Wx} {b L i c : Nat} {xs : Nat → Int32} {S : Sv} {h : Hp} (hL : L ≤ 3072) (hi : i + 6 ≤ L) (hR : RelC S h ∧ RelM S h) (ho : Ok S c) (hc : c < 512) (hop : OpOk mX9_relabel mX10_relabel [.int (xs (i + 1)), .int (xs (i + 2))]) (hn : ∀ S2 h2, RelC S2 h2 → RelM S2 h2 → Ok S2 (c + 1) → LV X b L xs 1027 [(0, .ref b), (1, .ref (X.2.2.2 70)), (2, .ref (X.2.2.2 209)), (3, .int (nI i))] [] h2) : LV X b L xs 410 [(0, .ref b), (1, .ref (X.2.2.2 70)), (2, .ref (X.2.2.2 209)), (3, .int (nI i))] [] h := by
  obtain ⟨r, hO, hC, hM⟩ := hop X S c h hR.1 hR.2 ho hc
  refine L_aload_n dL_law_410 rfl 1 rfl ?_
  refine L_aload_n dL_law_411 rfl 0 rfl ?_
  refine L_iload_n dL_law_412 rfl 3 rfl ?_
  refine L_iconst (v := 1) dL_law_413 (by decide) ?_
  refine L_iadd dL_law_414 ?_
  refine L_sld (j := i + 1) hL (by rw [show (1 : Int32) = nI 1 from rfl, nI_add]) (by omega) dL_law_415 ?_
  refine L_aload_n dL_law_416 rfl 0 rfl ?_
  refine L_iload_n dL_law_417 rfl 3 rfl ?_
  refine L_iconst (v := 2) dL_law_418 (by decide) ?_
  refine L_iadd dL_law_419 ?_
  refine L_sld (j := i + 2) hL (by rw [show (2 : Int32) = nI 2 from rfl, nI_add]) (by omega) dL_law_420 ?_
  refine L_call (i := 70) (ci := 9) (As := [.int (xs (i + 1)), .int (xs (i + 2))]) (v := r.1) (d := 60) miX9_relabel lkL_51 sh70 ⟨_, _, rfl⟩ rfl rfl (fun _ => rfl) (Nat.le_of_ble_eq_true rfl) dL_law_421 (by decide) hC (fun h1 q1 => ?_)
  refine L_aload_n dL_law_424 rfl 2 rfl ?_
  refine L_aload_n dL_law_425 rfl 0 rfl ?_
  refine L_iload_n dL_law_426 rfl 3 rfl ?_
  refine L_iconst (v := 1) dL_law_427 (by decide) ?_
  refine L_iadd dL_law_428 ?_
  refine L_sld (j := i + 1) hL (by rw [show (1 : Int32) = nI 1 from rfl, nI_add]) (by omega) dL_law_429 ?_
  refine L_aload_n dL_law_430 rfl 0 rfl ?_
  refine L_iload_n dL_law_431 rfl 3 rfl ?_
  refine L_iconst (v := 2) dL_law_432 (by decide) ?_
  refine L_iadd dL_law_433 ?_
  refine L_sld (j := i + 2) hL (by rw [show (2 : Int32) = nI 2 from rfl, nI_add]) (by omega) dL_law_434 ?_
  refine L_call (i := 209) (ci := 10) (As := [.int (xs (i + 1)), .int (xs (i + 2))]) (v := r.1) (d := 60) miX10_relabel lkL_54 sh209 ⟨_, _, rfl⟩ rfl rfl (fun _ => rfl) (Nat.le_of_ble_eq_true rfl) dL_law_435 (by decide) (hM h1 (hR.2.keep q1.2)) (fun h2 q2 => ?_)
  refine L_eq (tgt := 1027) dL_law_438 (by decide) rfl ?_
  exact hn r.2 h2 (q1.1.keep (q2.2.mono (fun a ha => zC_low ha))) q2.1 hO
theorem lkL_55 : Cond.methodLink R_law 55 yX9_retext ∈ gw := (gwi 601 (by decide +kernel) rfl)
theorem lkL_58 : Cond.methodLink R_law 58 yX10_retext ∈ gw := (gwi 1106 (by decide +kernel) rfl)
set_option maxRecDepth 100000 in
set_option maxHeartbeats 4000000 in
theorem LW_retext {X : Wx} {b L i c : Nat} {xs : Nat → Int32} {S : Sv} {h : Hp} (hL : L ≤ 3072) (hi : i + 6 ≤ L) (hR : RelC S h ∧ RelM S h) (ho : Ok S c) (hc : c < 512) (hop : OpOk mX9_retext mX10_retext [.int (xs (i + 1)), .int (xs (i + 2))]) (hn : ∀ S2 h2, RelC S2 h2 → RelM S2 h2 → Ok S2 (c + 1) → LV X b L xs 1027 [(0, .ref b), (1, .ref (X.2.2.2 70)), (2, .ref (X.2.2.2 209)), (3, .int (nI i))] [] h2) : LV X b L xs 443 [(0, .ref b), (1, .ref (X.2.2.2 70)), (2, .ref (X.2.2.2 209)), (3, .int (nI i))] [] h := by
  obtain ⟨r, hO, hC, hM⟩ := hop X S c h hR.1 hR.2 ho hc
  refine L_aload_n dL_law_443 rfl 1 rfl ?_
  refine L_aload_n dL_law_444 rfl 0 rfl ?_
  refine L_iload_n dL_law_445 rfl 3 rfl ?_
  refine L_iconst (v := 1) dL_law_446 (by decide) ?_
  refine L_iadd dL_law_447 ?_
  refine L_sld (j := i + 1) hL (by rw [show (1 : Int32) = nI 1 from rfl, nI_add]) (by omega) dL_law_448 ?_
  refine L_aload_n dL_law_449 rfl 0 rfl ?_
  refine L_iload_n dL_law_450 rfl 3 rfl ?_
  refine L_iconst (v := 2) dL_law_451 (by decide) ?_
  refine L_iadd dL_law_452 ?_
  refine L_sld (j := i + 2) hL (by rw [show (2 : Int32) = nI 2 from rfl, nI_add]) (by omega) dL_law_453 ?_
  refine L_call (i := 70) (ci := 9) (As := [.int (xs (i + 1)), .int (xs (i + 2))]) (v := r.1) (d := 60) miX9_retext lkL_55 sh70 ⟨_, _, rfl⟩ rfl rfl (fun _ => rfl) (Nat.le_of_ble_eq_true rfl) dL_law_454 (by decide) hC (fun h1 q1 => ?_)
  refine L_aload_n dL_law_457 rfl 2 rfl ?_
  refine L_aload_n dL_law_458 rfl 0 rfl ?_
  refine L_iload_n dL_law_459 rfl 3 rfl ?_
  refine L_iconst (v := 1) dL_law_460 (by decide) ?_
  refine L_iadd dL_law_461 ?_
  refine L_sld (j := i + 1) hL (by rw [show (1 : Int32) = nI 1 from rfl, nI_add]) (by omega) dL_law_462 ?_
  refine L_aload_n dL_law_463 rfl 0 rfl ?_
  refine L_iload_n dL_law_464 rfl 3 rfl ?_
  refine L_iconst (v := 2) dL_law_465 (by decide) ?_
  refine L_iadd dL_law_466 ?_
  refine L_sld (j := i + 2) hL (by rw [show (2 : Int32) = nI 2 from rfl, nI_add]) (by omega) dL_law_467 ?_
  refine L_call (i := 209) (ci := 10) (As := [.int (xs (i + 1)), .int (xs (i + 2))]) (v := r.1) (d := 60) miX10_retext lkL_58 sh209 ⟨_, _, rfl⟩ rfl rfl (fun _ => rfl) (Nat.le_of_ble_eq_true rfl) dL_law_468 (by decide) (hM h1 (hR.2.keep q1.2)) (fun h2 q2 => ?_)
  refine L_eq (tgt := 1027) dL_law_471 (by decide) rfl ?_
  exact hn r.2 h2 (q1.1.keep (q2.2.mono (fun a ha => zC_low ha))) q2.1 hO
theorem lkL_59 : Cond.methodLink R_law 59 yX9_put ∈ gw := (gwi 610 (by decide +kernel) rfl)
theorem lkL_63 : Cond.methodLink R_law 63 yX10_put ∈ gw := (gwi 1110 (by decide +kernel) rfl)
set_option maxRecDepth 100000 in
set_option maxHeartbeats 4000000 in
theorem LW_put {X : Wx} {b L i c : Nat} {xs : Nat → Int32} {S : Sv} {h : Hp} (hL : L ≤ 3072) (hi : i + 6 ≤ L) (hR : RelC S h ∧ RelM S h) (ho : Ok S c) (hc : c < 512) (hop : OpOk mX9_put mX10_put [.int (xs (i + 1)), .int (xs (i + 2)), .int (xs (i + 3)), .int (xs (i + 4)), .int (xs (i + 5))]) (hn : ∀ S2 h2, RelC S2 h2 → RelM S2 h2 → Ok S2 (c + 1) → LV X b L xs 1027 [(0, .ref b), (1, .ref (X.2.2.2 70)), (2, .ref (X.2.2.2 209)), (3, .int (nI i))] [] h2) : LV X b L xs 476 [(0, .ref b), (1, .ref (X.2.2.2 70)), (2, .ref (X.2.2.2 209)), (3, .int (nI i))] [] h := by
  obtain ⟨r, hO, hC, hM⟩ := hop X S c h hR.1 hR.2 ho hc
  refine L_aload_n dL_law_476 rfl 1 rfl ?_
  refine L_aload_n dL_law_477 rfl 0 rfl ?_
  refine L_iload_n dL_law_478 rfl 3 rfl ?_
  refine L_iconst (v := 1) dL_law_479 (by decide) ?_
  refine L_iadd dL_law_480 ?_
  refine L_sld (j := i + 1) hL (by rw [show (1 : Int32) = nI 1 from rfl, nI_add]) (by omega) dL_law_481 ?_
  refine L_aload_n dL_law_482 rfl 0 rfl ?_
  refine L_iload_n dL_law_483 rfl 3 rfl ?_
  refine L_iconst (v := 2) dL_law_484 (by decide) ?_
  refine L_iadd dL_law_485 ?_
  refine L_sld (j := i + 2) hL (by rw [show (2 : Int32) = nI 2 from rfl, nI_add]) (by omega) dL_law_486 ?_
  refine L_aload_n dL_law_487 rfl 0 rfl ?_
  refine L_iload_n dL_law_488 rfl 3 rfl ?_
  refine L_iconst (v := 3) dL_law_489 (by decide) ?_
  refine L_iadd dL_law_490 ?_
  refine L_sld (j := i + 3) hL (by rw [show (3 : Int32) = nI 3 from rfl, nI_add]) (by omega) dL_law_491 ?_
  refine L_aload_n dL_law_492 rfl 0 rfl ?_
  refine L_iload_n dL_law_493 rfl 3 rfl ?_
  refine L_iconst (v := 4) dL_law_494 (by decide) ?_
  refine L_iadd dL_law_495 ?_
  refine L_sld (j := i + 4) hL (by rw [show (4 : Int32) = nI 4 from rfl, nI_add]) (by omega) dL_law_496 ?_
  refine L_aload_n dL_law_497 rfl 0 rfl ?_
  refine L_iload_n dL_law_498 rfl 3 rfl ?_
  refine L_iconst (v := 5) dL_law_499 (by decide) ?_
  refine L_iadd dL_law_500 ?_
  refine L_sld (j := i + 5) hL (by rw [show (5 : Int32) = nI 5 from rfl, nI_add]) (by omega) dL_law_501 ?_
  refine L_call (i := 70) (ci := 9) (As := [.int (xs (i + 1)), .int (xs (i + 2)), .int (xs (i + 3)), .int (xs (i + 4)), .int (xs (i + 5))]) (v := r.1) (d := 60) miX9_put lkL_59 sh70 ⟨_, _, rfl⟩ rfl rfl (fun _ => rfl) (Nat.le_of_ble_eq_true rfl) dL_law_502 (by decide) hC (fun h1 q1 => ?_)
  refine L_aload_n dL_law_505 rfl 2 rfl ?_
  refine L_aload_n dL_law_506 rfl 0 rfl ?_
  refine L_iload_n dL_law_507 rfl 3 rfl ?_
  refine L_iconst (v := 1) dL_law_508 (by decide) ?_
  refine L_iadd dL_law_509 ?_
  refine L_sld (j := i + 1) hL (by rw [show (1 : Int32) = nI 1 from rfl, nI_add]) (by omega) dL_law_510 ?_
  refine L_aload_n dL_law_511 rfl 0 rfl ?_
  refine L_iload_n dL_law_512 rfl 3 rfl ?_
  refine L_iconst (v := 2) dL_law_513 (by decide) ?_
  refine L_iadd dL_law_514 ?_
  refine L_sld (j := i + 2) hL (by rw [show (2 : Int32) = nI 2 from rfl, nI_add]) (by omega) dL_law_515 ?_
  refine L_aload_n dL_law_516 rfl 0 rfl ?_
  refine L_iload_n dL_law_517 rfl 3 rfl ?_
  refine L_iconst (v := 3) dL_law_518 (by decide) ?_
  refine L_iadd dL_law_519 ?_
  refine L_sld (j := i + 3) hL (by rw [show (3 : Int32) = nI 3 from rfl, nI_add]) (by omega) dL_law_520 ?_
  refine L_aload_n dL_law_521 rfl 0 rfl ?_
  refine L_iload_n dL_law_522 rfl 3 rfl ?_
  refine L_iconst (v := 4) dL_law_523 (by decide) ?_
  refine L_iadd dL_law_524 ?_
  refine L_sld (j := i + 4) hL (by rw [show (4 : Int32) = nI 4 from rfl, nI_add]) (by omega) dL_law_525 ?_
  refine L_aload_n dL_law_526 rfl 0 rfl ?_
  refine L_iload_n dL_law_527 rfl 3 rfl ?_
  refine L_iconst (v := 5) dL_law_528 (by decide) ?_
  refine L_iadd dL_law_529 ?_
  refine L_sld (j := i + 5) hL (by rw [show (5 : Int32) = nI 5 from rfl, nI_add]) (by omega) dL_law_530 ?_
  refine L_call (i := 209) (ci := 10) (As := [.int (xs (i + 1)), .int (xs (i + 2)), .int (xs (i + 3)), .int (xs (i + 4)), .int (xs (i + 5))]) (v := r.1) (d := 60) miX10_put lkL_63 sh209 ⟨_, _, rfl⟩ rfl rfl (fun _ => rfl) (Nat.le_of_ble_eq_true rfl) dL_law_531 (by decide) (hM h1 (hR.2.keep q1.2)) (fun h2 q2 => ?_)
  refine L_eq (tgt := 1027) dL_law_534 (by decide) rfl ?_
  exact hn r.2 h2 (q1.1.keep (q2.2.mono (fun a ha => zC_low ha))) q2.1 hO
theorem lkL_64 : Cond.methodLink R_law 64 yX9_take ∈ gw := (gwi 631 (by decide +kernel) rfl)
theorem lkL_67 : Cond.methodLink R_law 67 yX10_take ∈ gw := (gwi 1126 (by decide +kernel) rfl)
set_option maxRecDepth 100000 in
set_option maxHeartbeats 4000000 in
theorem LW_take {X : Wx} {b L i c : Nat} {xs : Nat → Int32} {S : Sv} {h : Hp} (hL : L ≤ 3072) (hi : i + 6 ≤ L) (hR : RelC S h ∧ RelM S h) (ho : Ok S c) (hc : c < 512) (hop : OpOk mX9_take mX10_take [.int (xs (i + 1)), .int (xs (i + 2))]) (hn : ∀ S2 h2, RelC S2 h2 → RelM S2 h2 → Ok S2 (c + 1) → LV X b L xs 1027 [(0, .ref b), (1, .ref (X.2.2.2 70)), (2, .ref (X.2.2.2 209)), (3, .int (nI i))] [] h2) : LV X b L xs 539 [(0, .ref b), (1, .ref (X.2.2.2 70)), (2, .ref (X.2.2.2 209)), (3, .int (nI i))] [] h := by
  obtain ⟨r, hO, hC, hM⟩ := hop X S c h hR.1 hR.2 ho hc
  refine L_aload_n dL_law_539 rfl 1 rfl ?_
  refine L_aload_n dL_law_540 rfl 0 rfl ?_
  refine L_iload_n dL_law_541 rfl 3 rfl ?_
  refine L_iconst (v := 1) dL_law_542 (by decide) ?_
  refine L_iadd dL_law_543 ?_
  refine L_sld (j := i + 1) hL (by rw [show (1 : Int32) = nI 1 from rfl, nI_add]) (by omega) dL_law_544 ?_
  refine L_aload_n dL_law_545 rfl 0 rfl ?_
  refine L_iload_n dL_law_546 rfl 3 rfl ?_
  refine L_iconst (v := 2) dL_law_547 (by decide) ?_
  refine L_iadd dL_law_548 ?_
  refine L_sld (j := i + 2) hL (by rw [show (2 : Int32) = nI 2 from rfl, nI_add]) (by omega) dL_law_549 ?_
  refine L_call (i := 70) (ci := 9) (As := [.int (xs (i + 1)), .int (xs (i + 2))]) (v := r.1) (d := 60) miX9_take lkL_64 sh70 ⟨_, _, rfl⟩ rfl rfl (fun _ => rfl) (Nat.le_of_ble_eq_true rfl) dL_law_550 (by decide) hC (fun h1 q1 => ?_)
  refine L_aload_n dL_law_553 rfl 2 rfl ?_
  refine L_aload_n dL_law_554 rfl 0 rfl ?_
  refine L_iload_n dL_law_555 rfl 3 rfl ?_
  refine L_iconst (v := 1) dL_law_556 (by decide) ?_
  refine L_iadd dL_law_557 ?_
  refine L_sld (j := i + 1) hL (by rw [show (1 : Int32) = nI 1 from rfl, nI_add]) (by omega) dL_law_558 ?_
  refine L_aload_n dL_law_559 rfl 0 rfl ?_
  refine L_iload_n dL_law_560 rfl 3 rfl ?_
  refine L_iconst (v := 2) dL_law_561 (by decide) ?_
  refine L_iadd dL_law_562 ?_
  refine L_sld (j := i + 2) hL (by rw [show (2 : Int32) = nI 2 from rfl, nI_add]) (by omega) dL_law_563 ?_
  refine L_call (i := 209) (ci := 10) (As := [.int (xs (i + 1)), .int (xs (i + 2))]) (v := r.1) (d := 60) miX10_take lkL_67 sh209 ⟨_, _, rfl⟩ rfl rfl (fun _ => rfl) (Nat.le_of_ble_eq_true rfl) dL_law_564 (by decide) (hM h1 (hR.2.keep q1.2)) (fun h2 q2 => ?_)
  refine L_eq (tgt := 1027) dL_law_567 (by decide) rfl ?_
  exact hn r.2 h2 (q1.1.keep (q2.2.mono (fun a ha => zC_low ha))) q2.1 hO
theorem lkL_68 : Cond.methodLink R_law 68 yX9_move ∈ gw := (gwi 639 (by decide +kernel) rfl)
theorem lkL_72 : Cond.methodLink R_law 72 yX10_move ∈ gw := (gwi 1130 (by decide +kernel) rfl)
set_option maxRecDepth 100000 in
set_option maxHeartbeats 4000000 in
theorem LW_move {X : Wx} {b L i c : Nat} {xs : Nat → Int32} {S : Sv} {h : Hp} (hL : L ≤ 3072) (hi : i + 6 ≤ L) (hR : RelC S h ∧ RelM S h) (ho : Ok S c) (hc : c < 512) (hop : OpOk mX9_move mX10_move [.int (xs (i + 1)), .int (xs (i + 2)), .int (xs (i + 3)), .int (xs (i + 4))]) (hn : ∀ S2 h2, RelC S2 h2 → RelM S2 h2 → Ok S2 (c + 1) → LV X b L xs 1027 [(0, .ref b), (1, .ref (X.2.2.2 70)), (2, .ref (X.2.2.2 209)), (3, .int (nI i))] [] h2) : LV X b L xs 572 [(0, .ref b), (1, .ref (X.2.2.2 70)), (2, .ref (X.2.2.2 209)), (3, .int (nI i))] [] h := by
  obtain ⟨r, hO, hC, hM⟩ := hop X S c h hR.1 hR.2 ho hc
  refine L_aload_n dL_law_572 rfl 1 rfl ?_
  refine L_aload_n dL_law_573 rfl 0 rfl ?_
  refine L_iload_n dL_law_574 rfl 3 rfl ?_
  refine L_iconst (v := 1) dL_law_575 (by decide) ?_
  refine L_iadd dL_law_576 ?_
  refine L_sld (j := i + 1) hL (by rw [show (1 : Int32) = nI 1 from rfl, nI_add]) (by omega) dL_law_577 ?_
  refine L_aload_n dL_law_578 rfl 0 rfl ?_
  refine L_iload_n dL_law_579 rfl 3 rfl ?_
  refine L_iconst (v := 2) dL_law_580 (by decide) ?_
  refine L_iadd dL_law_581 ?_
  refine L_sld (j := i + 2) hL (by rw [show (2 : Int32) = nI 2 from rfl, nI_add]) (by omega) dL_law_582 ?_
  refine L_aload_n dL_law_583 rfl 0 rfl ?_
  refine L_iload_n dL_law_584 rfl 3 rfl ?_
  refine L_iconst (v := 3) dL_law_585 (by decide) ?_
  refine L_iadd dL_law_586 ?_
  refine L_sld (j := i + 3) hL (by rw [show (3 : Int32) = nI 3 from rfl, nI_add]) (by omega) dL_law_587 ?_
  refine L_aload_n dL_law_588 rfl 0 rfl ?_
  refine L_iload_n dL_law_589 rfl 3 rfl ?_
  refine L_iconst (v := 4) dL_law_590 (by decide) ?_
  refine L_iadd dL_law_591 ?_
  refine L_sld (j := i + 4) hL (by rw [show (4 : Int32) = nI 4 from rfl, nI_add]) (by omega) dL_law_592 ?_
  refine L_call (i := 70) (ci := 9) (As := [.int (xs (i + 1)), .int (xs (i + 2)), .int (xs (i + 3)), .int (xs (i + 4))]) (v := r.1) (d := 60) miX9_move lkL_68 sh70 ⟨_, _, rfl⟩ rfl rfl (fun _ => rfl) (Nat.le_of_ble_eq_true rfl) dL_law_593 (by decide) hC (fun h1 q1 => ?_)
  refine L_aload_n dL_law_596 rfl 2 rfl ?_
  refine L_aload_n dL_law_597 rfl 0 rfl ?_
  refine L_iload_n dL_law_598 rfl 3 rfl ?_
  refine L_iconst (v := 1) dL_law_599 (by decide) ?_
  refine L_iadd dL_law_600 ?_
  refine L_sld (j := i + 1) hL (by rw [show (1 : Int32) = nI 1 from rfl, nI_add]) (by omega) dL_law_601 ?_
  refine L_aload_n dL_law_602 rfl 0 rfl ?_
  refine L_iload_n dL_law_603 rfl 3 rfl ?_
  refine L_iconst (v := 2) dL_law_604 (by decide) ?_
  refine L_iadd dL_law_605 ?_
  refine L_sld (j := i + 2) hL (by rw [show (2 : Int32) = nI 2 from rfl, nI_add]) (by omega) dL_law_606 ?_
  refine L_aload_n dL_law_607 rfl 0 rfl ?_
  refine L_iload_n dL_law_608 rfl 3 rfl ?_
  refine L_iconst (v := 3) dL_law_609 (by decide) ?_
  refine L_iadd dL_law_610 ?_
  refine L_sld (j := i + 3) hL (by rw [show (3 : Int32) = nI 3 from rfl, nI_add]) (by omega) dL_law_611 ?_
  refine L_aload_n dL_law_612 rfl 0 rfl ?_
  refine L_iload_n dL_law_613 rfl 3 rfl ?_
  refine L_iconst (v := 4) dL_law_614 (by decide) ?_
  refine L_iadd dL_law_615 ?_
  refine L_sld (j := i + 4) hL (by rw [show (4 : Int32) = nI 4 from rfl, nI_add]) (by omega) dL_law_616 ?_
  refine L_call (i := 209) (ci := 10) (As := [.int (xs (i + 1)), .int (xs (i + 2)), .int (xs (i + 3)), .int (xs (i + 4))]) (v := r.1) (d := 60) miX10_move lkL_72 sh209 ⟨_, _, rfl⟩ rfl rfl (fun _ => rfl) (Nat.le_of_ble_eq_true rfl) dL_law_617 (by decide) (hM h1 (hR.2.keep q1.2)) (fun h2 q2 => ?_)
  refine L_eq (tgt := 1027) dL_law_620 (by decide) rfl ?_
  exact hn r.2 h2 (q1.1.keep (q2.2.mono (fun a ha => zC_low ha))) q2.1 hO
theorem lkL_73 : Cond.methodLink R_law 73 yX9_price ∈ gw := (gwi 655 (by decide +kernel) rfl)
theorem lkL_76 : Cond.methodLink R_law 76 yX10_price ∈ gw := (gwi 1134 (by decide +kernel) rfl)
set_option maxRecDepth 100000 in
set_option maxHeartbeats 4000000 in
theorem LW_price {X : Wx} {b L i c : Nat} {xs : Nat → Int32} {S : Sv} {h : Hp} (hL : L ≤ 3072) (hi : i + 6 ≤ L) (hR : RelC S h ∧ RelM S h) (ho : Ok S c) (hc : c < 512) (hop : OpOk mX9_price mX10_price [.int (xs (i + 1)), .int (xs (i + 2))]) (hn : ∀ S2 h2, RelC S2 h2 → RelM S2 h2 → Ok S2 (c + 1) → LV X b L xs 1027 [(0, .ref b), (1, .ref (X.2.2.2 70)), (2, .ref (X.2.2.2 209)), (3, .int (nI i))] [] h2) : LV X b L xs 625 [(0, .ref b), (1, .ref (X.2.2.2 70)), (2, .ref (X.2.2.2 209)), (3, .int (nI i))] [] h := by
  obtain ⟨r, hO, hC, hM⟩ := hop X S c h hR.1 hR.2 ho hc
  refine L_aload_n dL_law_625 rfl 1 rfl ?_
  refine L_aload_n dL_law_626 rfl 0 rfl ?_
  refine L_iload_n dL_law_627 rfl 3 rfl ?_
  refine L_iconst (v := 1) dL_law_628 (by decide) ?_
  refine L_iadd dL_law_629 ?_
  refine L_sld (j := i + 1) hL (by rw [show (1 : Int32) = nI 1 from rfl, nI_add]) (by omega) dL_law_630 ?_
  refine L_aload_n dL_law_631 rfl 0 rfl ?_
  refine L_iload_n dL_law_632 rfl 3 rfl ?_
  refine L_iconst (v := 2) dL_law_633 (by decide) ?_
  refine L_iadd dL_law_634 ?_
  refine L_sld (j := i + 2) hL (by rw [show (2 : Int32) = nI 2 from rfl, nI_add]) (by omega) dL_law_635 ?_
  refine L_call (i := 70) (ci := 9) (As := [.int (xs (i + 1)), .int (xs (i + 2))]) (v := r.1) (d := 60) miX9_price lkL_73 sh70 ⟨_, _, rfl⟩ rfl rfl (fun _ => rfl) (Nat.le_of_ble_eq_true rfl) dL_law_636 (by decide) hC (fun h1 q1 => ?_)
  refine L_aload_n dL_law_639 rfl 2 rfl ?_
  refine L_aload_n dL_law_640 rfl 0 rfl ?_
  refine L_iload_n dL_law_641 rfl 3 rfl ?_
  refine L_iconst (v := 1) dL_law_642 (by decide) ?_
  refine L_iadd dL_law_643 ?_
  refine L_sld (j := i + 1) hL (by rw [show (1 : Int32) = nI 1 from rfl, nI_add]) (by omega) dL_law_644 ?_
  refine L_aload_n dL_law_645 rfl 0 rfl ?_
  refine L_iload_n dL_law_646 rfl 3 rfl ?_
  refine L_iconst (v := 2) dL_law_647 (by decide) ?_
  refine L_iadd dL_law_648 ?_
  refine L_sld (j := i + 2) hL (by rw [show (2 : Int32) = nI 2 from rfl, nI_add]) (by omega) dL_law_649 ?_
  refine L_call (i := 209) (ci := 10) (As := [.int (xs (i + 1)), .int (xs (i + 2))]) (v := r.1) (d := 60) miX10_price lkL_76 sh209 ⟨_, _, rfl⟩ rfl rfl (fun _ => rfl) (Nat.le_of_ble_eq_true rfl) dL_law_650 (by decide) (hM h1 (hR.2.keep q1.2)) (fun h2 q2 => ?_)
  refine L_eq (tgt := 1027) dL_law_653 (by decide) rfl ?_
  exact hn r.2 h2 (q1.1.keep (q2.2.mono (fun a ha => zC_low ha))) q2.1 hO
theorem lkL_77 : Cond.methodLink R_law 77 yX9_distance ∈ gw := (gwi 659 (by decide +kernel) rfl)
theorem lkL_80 : Cond.methodLink R_law 80 yX10_distance ∈ gw := (gwi 1138 (by decide +kernel) rfl)
set_option maxRecDepth 100000 in
set_option maxHeartbeats 4000000 in
theorem LW_distance {X : Wx} {b L i c : Nat} {xs : Nat → Int32} {S : Sv} {h : Hp} (hL : L ≤ 3072) (hi : i + 6 ≤ L) (hR : RelC S h ∧ RelM S h) (ho : Ok S c) (hc : c < 512) (hop : OpOk mX9_distance mX10_distance [.int (xs (i + 1)), .int (xs (i + 2))]) (hn : ∀ S2 h2, RelC S2 h2 → RelM S2 h2 → Ok S2 (c + 1) → LV X b L xs 1027 [(0, .ref b), (1, .ref (X.2.2.2 70)), (2, .ref (X.2.2.2 209)), (3, .int (nI i))] [] h2) : LV X b L xs 658 [(0, .ref b), (1, .ref (X.2.2.2 70)), (2, .ref (X.2.2.2 209)), (3, .int (nI i))] [] h := by
  obtain ⟨r, hO, hC, hM⟩ := hop X S c h hR.1 hR.2 ho hc
  refine L_aload_n dL_law_658 rfl 1 rfl ?_
  refine L_aload_n dL_law_659 rfl 0 rfl ?_
  refine L_iload_n dL_law_660 rfl 3 rfl ?_
  refine L_iconst (v := 1) dL_law_661 (by decide) ?_
  refine L_iadd dL_law_662 ?_
  refine L_sld (j := i + 1) hL (by rw [show (1 : Int32) = nI 1 from rfl, nI_add]) (by omega) dL_law_663 ?_
  refine L_aload_n dL_law_664 rfl 0 rfl ?_
  refine L_iload_n dL_law_665 rfl 3 rfl ?_
  refine L_iconst (v := 2) dL_law_666 (by decide) ?_
  refine L_iadd dL_law_667 ?_
  refine L_sld (j := i + 2) hL (by rw [show (2 : Int32) = nI 2 from rfl, nI_add]) (by omega) dL_law_668 ?_
  refine L_call (i := 70) (ci := 9) (As := [.int (xs (i + 1)), .int (xs (i + 2))]) (v := r.1) (d := 60) miX9_distance lkL_77 sh70 ⟨_, _, rfl⟩ rfl rfl (fun _ => rfl) (Nat.le_of_ble_eq_true rfl) dL_law_669 (by decide) hC (fun h1 q1 => ?_)
  refine L_aload_n dL_law_672 rfl 2 rfl ?_
  refine L_aload_n dL_law_673 rfl 0 rfl ?_
  refine L_iload_n dL_law_674 rfl 3 rfl ?_
  refine L_iconst (v := 1) dL_law_675 (by decide) ?_
  refine L_iadd dL_law_676 ?_
  refine L_sld (j := i + 1) hL (by rw [show (1 : Int32) = nI 1 from rfl, nI_add]) (by omega) dL_law_677 ?_
  refine L_aload_n dL_law_678 rfl 0 rfl ?_
  refine L_iload_n dL_law_679 rfl 3 rfl ?_
  refine L_iconst (v := 2) dL_law_680 (by decide) ?_
  refine L_iadd dL_law_681 ?_
  refine L_sld (j := i + 2) hL (by rw [show (2 : Int32) = nI 2 from rfl, nI_add]) (by omega) dL_law_682 ?_
  refine L_call (i := 209) (ci := 10) (As := [.int (xs (i + 1)), .int (xs (i + 2))]) (v := r.1) (d := 60) miX10_distance lkL_80 sh209 ⟨_, _, rfl⟩ rfl rfl (fun _ => rfl) (Nat.le_of_ble_eq_true rfl) dL_law_683 (by decide) (hM h1 (hR.2.keep q1.2)) (fun h2 q2 => ?_)
  refine L_eq (tgt := 1027) dL_law_686 (by decide) rfl ?_
  exact hn r.2 h2 (q1.1.keep (q2.2.mono (fun a ha => zC_low ha))) q2.1 hO
theorem lkL_81 : Cond.methodLink R_law 81 yX9_map ∈ gw := (gwi 700 (by decide +kernel) rfl)
theorem lkL_84 : Cond.methodLink R_law 84 yX10_map ∈ gw := (gwi 1165 (by decide +kernel) rfl)
set_option maxRecDepth 100000 in
set_option maxHeartbeats 4000000 in
theorem LW_map {X : Wx} {b L i c : Nat} {xs : Nat → Int32} {S : Sv} {h : Hp} (hL : L ≤ 3072) (hi : i + 6 ≤ L) (hR : RelC S h ∧ RelM S h) (ho : Ok S c) (hc : c < 512) (hop : OpOk mX9_map mX10_map [.int (xs (i + 1)), .int (xs (i + 2))]) (hn : ∀ S2 h2, RelC S2 h2 → RelM S2 h2 → Ok S2 (c + 1) → LV X b L xs 1027 [(0, .ref b), (1, .ref (X.2.2.2 70)), (2, .ref (X.2.2.2 209)), (3, .int (nI i))] [] h2) : LV X b L xs 691 [(0, .ref b), (1, .ref (X.2.2.2 70)), (2, .ref (X.2.2.2 209)), (3, .int (nI i))] [] h := by
  obtain ⟨r, hO, hC, hM⟩ := hop X S c h hR.1 hR.2 ho hc
  refine L_aload_n dL_law_691 rfl 1 rfl ?_
  refine L_aload_n dL_law_692 rfl 0 rfl ?_
  refine L_iload_n dL_law_693 rfl 3 rfl ?_
  refine L_iconst (v := 1) dL_law_694 (by decide) ?_
  refine L_iadd dL_law_695 ?_
  refine L_sld (j := i + 1) hL (by rw [show (1 : Int32) = nI 1 from rfl, nI_add]) (by omega) dL_law_696 ?_
  refine L_aload_n dL_law_697 rfl 0 rfl ?_
  refine L_iload_n dL_law_698 rfl 3 rfl ?_
  refine L_iconst (v := 2) dL_law_699 (by decide) ?_
  refine L_iadd dL_law_700 ?_
  refine L_sld (j := i + 2) hL (by rw [show (2 : Int32) = nI 2 from rfl, nI_add]) (by omega) dL_law_701 ?_
  refine L_call (i := 70) (ci := 9) (As := [.int (xs (i + 1)), .int (xs (i + 2))]) (v := r.1) (d := 60) miX9_map lkL_81 sh70 ⟨_, _, rfl⟩ rfl rfl (fun _ => rfl) (Nat.le_of_ble_eq_true rfl) dL_law_702 (by decide) hC (fun h1 q1 => ?_)
  refine L_aload_n dL_law_705 rfl 2 rfl ?_
  refine L_aload_n dL_law_706 rfl 0 rfl ?_
  refine L_iload_n dL_law_707 rfl 3 rfl ?_
  refine L_iconst (v := 1) dL_law_708 (by decide) ?_
  refine L_iadd dL_law_709 ?_
  refine L_sld (j := i + 1) hL (by rw [show (1 : Int32) = nI 1 from rfl, nI_add]) (by omega) dL_law_710 ?_
  refine L_aload_n dL_law_711 rfl 0 rfl ?_
  refine L_iload_n dL_law_712 rfl 3 rfl ?_
  refine L_iconst (v := 2) dL_law_713 (by decide) ?_
  refine L_iadd dL_law_714 ?_
  refine L_sld (j := i + 2) hL (by rw [show (2 : Int32) = nI 2 from rfl, nI_add]) (by omega) dL_law_715 ?_
  refine L_call (i := 209) (ci := 10) (As := [.int (xs (i + 1)), .int (xs (i + 2))]) (v := r.1) (d := 60) miX10_map lkL_84 sh209 ⟨_, _, rfl⟩ rfl rfl (fun _ => rfl) (Nat.le_of_ble_eq_true rfl) dL_law_716 (by decide) (hM h1 (hR.2.keep q1.2)) (fun h2 q2 => ?_)
  refine L_eq (tgt := 1027) dL_law_719 (by decide) rfl ?_
  exact hn r.2 h2 (q1.1.keep (q2.2.mono (fun a ha => zC_low ha))) q2.1 hO
theorem lkL_85 : Cond.methodLink R_law 85 yX9_pair ∈ gw := (gwi 744 (by decide +kernel) rfl)
theorem lkL_88 : Cond.methodLink R_law 88 yX10_pair ∈ gw := (gwi 1177 (by decide +kernel) rfl)
set_option maxRecDepth 100000 in
set_option maxHeartbeats 4000000 in
theorem LW_pair {X : Wx} {b L i c : Nat} {xs : Nat → Int32} {S : Sv} {h : Hp} (hL : L ≤ 3072) (hi : i + 6 ≤ L) (hR : RelC S h ∧ RelM S h) (ho : Ok S c) (hc : c < 512) (hop : OpOk mX9_pair mX10_pair [.int (xs (i + 1)), .int (xs (i + 2))]) (hn : ∀ S2 h2, RelC S2 h2 → RelM S2 h2 → Ok S2 (c + 1) → LV X b L xs 1027 [(0, .ref b), (1, .ref (X.2.2.2 70)), (2, .ref (X.2.2.2 209)), (3, .int (nI i))] [] h2) : LV X b L xs 724 [(0, .ref b), (1, .ref (X.2.2.2 70)), (2, .ref (X.2.2.2 209)), (3, .int (nI i))] [] h := by
  obtain ⟨r, hO, hC, hM⟩ := hop X S c h hR.1 hR.2 ho hc
  refine L_aload_n dL_law_724 rfl 1 rfl ?_
  refine L_aload_n dL_law_725 rfl 0 rfl ?_
  refine L_iload_n dL_law_726 rfl 3 rfl ?_
  refine L_iconst (v := 1) dL_law_727 (by decide) ?_
  refine L_iadd dL_law_728 ?_
  refine L_sld (j := i + 1) hL (by rw [show (1 : Int32) = nI 1 from rfl, nI_add]) (by omega) dL_law_729 ?_
  refine L_aload_n dL_law_730 rfl 0 rfl ?_
  refine L_iload_n dL_law_731 rfl 3 rfl ?_
  refine L_iconst (v := 2) dL_law_732 (by decide) ?_
  refine L_iadd dL_law_733 ?_
  refine L_sld (j := i + 2) hL (by rw [show (2 : Int32) = nI 2 from rfl, nI_add]) (by omega) dL_law_734 ?_
  refine L_call (i := 70) (ci := 9) (As := [.int (xs (i + 1)), .int (xs (i + 2))]) (v := r.1) (d := 60) miX9_pair lkL_85 sh70 ⟨_, _, rfl⟩ rfl rfl (fun _ => rfl) (Nat.le_of_ble_eq_true rfl) dL_law_735 (by decide) hC (fun h1 q1 => ?_)
  refine L_aload_n dL_law_738 rfl 2 rfl ?_
  refine L_aload_n dL_law_739 rfl 0 rfl ?_
  refine L_iload_n dL_law_740 rfl 3 rfl ?_
  refine L_iconst (v := 1) dL_law_741 (by decide) ?_
  refine L_iadd dL_law_742 ?_
  refine L_sld (j := i + 1) hL (by rw [show (1 : Int32) = nI 1 from rfl, nI_add]) (by omega) dL_law_743 ?_
  refine L_aload_n dL_law_744 rfl 0 rfl ?_
  refine L_iload_n dL_law_745 rfl 3 rfl ?_
  refine L_iconst (v := 2) dL_law_746 (by decide) ?_
  refine L_iadd dL_law_747 ?_
  refine L_sld (j := i + 2) hL (by rw [show (2 : Int32) = nI 2 from rfl, nI_add]) (by omega) dL_law_748 ?_
  refine L_call (i := 209) (ci := 10) (As := [.int (xs (i + 1)), .int (xs (i + 2))]) (v := r.1) (d := 60) miX10_pair lkL_88 sh209 ⟨_, _, rfl⟩ rfl rfl (fun _ => rfl) (Nat.le_of_ble_eq_true rfl) dL_law_749 (by decide) (hM h1 (hR.2.keep q1.2)) (fun h2 q2 => ?_)
  refine L_eq (tgt := 1027) dL_law_752 (by decide) rfl ?_
  exact hn r.2 h2 (q1.1.keep (q2.2.mono (fun a ha => zC_low ha))) q2.1 hO
theorem lkL_89 : Cond.methodLink R_law 89 yX9_acts ∈ gw := (gwi 748 (by decide +kernel) rfl)
theorem lkL_93 : Cond.methodLink R_law 93 yX10_acts ∈ gw := (gwi 1181 (by decide +kernel) rfl)
set_option maxRecDepth 100000 in
set_option maxHeartbeats 4000000 in
theorem LW_acts {X : Wx} {b L i c : Nat} {xs : Nat → Int32} {S : Sv} {h : Hp} (hL : L ≤ 3072) (hi : i + 6 ≤ L) (hR : RelC S h ∧ RelM S h) (ho : Ok S c) (hc : c < 512) (hop : OpOk mX9_acts mX10_acts []) (hn : ∀ S2 h2, RelC S2 h2 → RelM S2 h2 → Ok S2 (c + 1) → LV X b L xs 1027 [(0, .ref b), (1, .ref (X.2.2.2 70)), (2, .ref (X.2.2.2 209)), (3, .int (nI i))] [] h2) : LV X b L xs 757 [(0, .ref b), (1, .ref (X.2.2.2 70)), (2, .ref (X.2.2.2 209)), (3, .int (nI i))] [] h := by
  obtain ⟨r, hO, hC, hM⟩ := hop X S c h hR.1 hR.2 ho hc
  refine L_aload_n dL_law_757 rfl 1 rfl ?_
  refine L_call (i := 70) (ci := 9) (As := []) (v := r.1) (d := 60) miX9_acts lkL_89 sh70 ⟨_, _, rfl⟩ rfl rfl (fun _ => rfl) (Nat.le_of_ble_eq_true rfl) dL_law_758 (by decide) hC (fun h1 q1 => ?_)
  refine L_aload_n dL_law_761 rfl 2 rfl ?_
  refine L_call (i := 209) (ci := 10) (As := []) (v := r.1) (d := 60) miX10_acts lkL_93 sh209 ⟨_, _, rfl⟩ rfl rfl (fun _ => rfl) (Nat.le_of_ble_eq_true rfl) dL_law_762 (by decide) (hM h1 (hR.2.keep q1.2)) (fun h2 q2 => ?_)
  refine L_eq (tgt := 1027) dL_law_765 (by decide) rfl ?_
  exact hn r.2 h2 (q1.1.keep (q2.2.mono (fun a ha => zC_low ha))) q2.1 hO
theorem lkL_94 : Cond.methodLink R_law 94 yX9_act ∈ gw := (gwi 752 (by decide +kernel) rfl)
theorem lkL_97 : Cond.methodLink R_law 97 yX10_act ∈ gw := (gwi 1185 (by decide +kernel) rfl)
set_option maxRecDepth 100000 in
set_option maxHeartbeats 4000000 in
theorem LW_act {X : Wx} {b L i c : Nat} {xs : Nat → Int32} {S : Sv} {h : Hp} (hL : L ≤ 3072) (hi : i + 6 ≤ L) (hR : RelC S h ∧ RelM S h) (ho : Ok S c) (hc : c < 512) (hop : OpOk mX9_act mX10_act [.int (xs (i + 1)), .int (xs (i + 2))]) (hn : ∀ S2 h2, RelC S2 h2 → RelM S2 h2 → Ok S2 (c + 1) → LV X b L xs 1027 [(0, .ref b), (1, .ref (X.2.2.2 70)), (2, .ref (X.2.2.2 209)), (3, .int (nI i))] [] h2) : LV X b L xs 770 [(0, .ref b), (1, .ref (X.2.2.2 70)), (2, .ref (X.2.2.2 209)), (3, .int (nI i))] [] h := by
  obtain ⟨r, hO, hC, hM⟩ := hop X S c h hR.1 hR.2 ho hc
  refine L_aload_n dL_law_770 rfl 1 rfl ?_
  refine L_aload_n dL_law_771 rfl 0 rfl ?_
  refine L_iload_n dL_law_772 rfl 3 rfl ?_
  refine L_iconst (v := 1) dL_law_773 (by decide) ?_
  refine L_iadd dL_law_774 ?_
  refine L_sld (j := i + 1) hL (by rw [show (1 : Int32) = nI 1 from rfl, nI_add]) (by omega) dL_law_775 ?_
  refine L_aload_n dL_law_776 rfl 0 rfl ?_
  refine L_iload_n dL_law_777 rfl 3 rfl ?_
  refine L_iconst (v := 2) dL_law_778 (by decide) ?_
  refine L_iadd dL_law_779 ?_
  refine L_sld (j := i + 2) hL (by rw [show (2 : Int32) = nI 2 from rfl, nI_add]) (by omega) dL_law_780 ?_
  refine L_call (i := 70) (ci := 9) (As := [.int (xs (i + 1)), .int (xs (i + 2))]) (v := r.1) (d := 60) miX9_act lkL_94 sh70 ⟨_, _, rfl⟩ rfl rfl (fun _ => rfl) (Nat.le_of_ble_eq_true rfl) dL_law_781 (by decide) hC (fun h1 q1 => ?_)
  refine L_aload_n dL_law_784 rfl 2 rfl ?_
  refine L_aload_n dL_law_785 rfl 0 rfl ?_
  refine L_iload_n dL_law_786 rfl 3 rfl ?_
  refine L_iconst (v := 1) dL_law_787 (by decide) ?_
  refine L_iadd dL_law_788 ?_
  refine L_sld (j := i + 1) hL (by rw [show (1 : Int32) = nI 1 from rfl, nI_add]) (by omega) dL_law_789 ?_
  refine L_aload_n dL_law_790 rfl 0 rfl ?_
  refine L_iload_n dL_law_791 rfl 3 rfl ?_
  refine L_iconst (v := 2) dL_law_792 (by decide) ?_
  refine L_iadd dL_law_793 ?_
  refine L_sld (j := i + 2) hL (by rw [show (2 : Int32) = nI 2 from rfl, nI_add]) (by omega) dL_law_794 ?_
  refine L_call (i := 209) (ci := 10) (As := [.int (xs (i + 1)), .int (xs (i + 2))]) (v := r.1) (d := 60) miX10_act lkL_97 sh209 ⟨_, _, rfl⟩ rfl rfl (fun _ => rfl) (Nat.le_of_ble_eq_true rfl) dL_law_795 (by decide) (hM h1 (hR.2.keep q1.2)) (fun h2 q2 => ?_)
  refine L_eq (tgt := 1027) dL_law_798 (by decide) rfl ?_
  exact hn r.2 h2 (q1.1.keep (q2.2.mono (fun a ha => zC_low ha))) q2.1 hO
theorem lkL_98 : Cond.methodLink R_law 98 yX9_like ∈ gw := (gwi 756 (by decide +kernel) rfl)
theorem lkL_101 : Cond.methodLink R_law 101 yX10_like ∈ gw := (gwi 1189 (by decide +kernel) rfl)
set_option maxRecDepth 100000 in
set_option maxHeartbeats 4000000 in
theorem LW_like {X : Wx} {b L i c : Nat} {xs : Nat → Int32} {S : Sv} {h : Hp} (hL : L ≤ 3072) (hi : i + 6 ≤ L) (hR : RelC S h ∧ RelM S h) (ho : Ok S c) (hc : c < 512) (hop : OpOk mX9_like mX10_like []) (hn : ∀ S2 h2, RelC S2 h2 → RelM S2 h2 → Ok S2 (c + 1) → LV X b L xs 1027 [(0, .ref b), (1, .ref (X.2.2.2 70)), (2, .ref (X.2.2.2 209)), (3, .int (nI i))] [] h2) : LV X b L xs 803 [(0, .ref b), (1, .ref (X.2.2.2 70)), (2, .ref (X.2.2.2 209)), (3, .int (nI i))] [] h := by
  obtain ⟨r, hO, hC, hM⟩ := hop X S c h hR.1 hR.2 ho hc
  refine L_aload_n dL_law_803 rfl 1 rfl ?_
  refine L_call (i := 70) (ci := 9) (As := []) (v := r.1) (d := 60) miX9_like lkL_98 sh70 ⟨_, _, rfl⟩ rfl rfl (fun _ => rfl) (Nat.le_of_ble_eq_true rfl) dL_law_804 (by decide) hC (fun h1 q1 => ?_)
  refine L_aload_n dL_law_807 rfl 2 rfl ?_
  refine L_call (i := 209) (ci := 10) (As := []) (v := r.1) (d := 60) miX10_like lkL_101 sh209 ⟨_, _, rfl⟩ rfl rfl (fun _ => rfl) (Nat.le_of_ble_eq_true rfl) dL_law_808 (by decide) (hM h1 (hR.2.keep q1.2)) (fun h2 q2 => ?_)
  refine L_eq (tgt := 1027) dL_law_811 (by decide) rfl ?_
  exact hn r.2 h2 (q1.1.keep (q2.2.mono (fun a ha => zC_low ha))) q2.1 hO
theorem lkL_102 : Cond.methodLink R_law 102 yX9_same ∈ gw := (gwi 760 (by decide +kernel) rfl)
theorem lkL_105 : Cond.methodLink R_law 105 yX10_same ∈ gw := (gwi 1193 (by decide +kernel) rfl)
set_option maxRecDepth 100000 in
set_option maxHeartbeats 4000000 in
theorem LW_same {X : Wx} {b L i c : Nat} {xs : Nat → Int32} {S : Sv} {h : Hp} (hL : L ≤ 3072) (hi : i + 6 ≤ L) (hR : RelC S h ∧ RelM S h) (ho : Ok S c) (hc : c < 512) (hop : OpOk mX9_same mX10_same [.int (xs (i + 1)), .int (xs (i + 2))]) (hn : ∀ S2 h2, RelC S2 h2 → RelM S2 h2 → Ok S2 (c + 1) → LV X b L xs 1027 [(0, .ref b), (1, .ref (X.2.2.2 70)), (2, .ref (X.2.2.2 209)), (3, .int (nI i))] [] h2) : LV X b L xs 816 [(0, .ref b), (1, .ref (X.2.2.2 70)), (2, .ref (X.2.2.2 209)), (3, .int (nI i))] [] h := by
  obtain ⟨r, hO, hC, hM⟩ := hop X S c h hR.1 hR.2 ho hc
  refine L_aload_n dL_law_816 rfl 1 rfl ?_
  refine L_aload_n dL_law_817 rfl 0 rfl ?_
  refine L_iload_n dL_law_818 rfl 3 rfl ?_
  refine L_iconst (v := 1) dL_law_819 (by decide) ?_
  refine L_iadd dL_law_820 ?_
  refine L_sld (j := i + 1) hL (by rw [show (1 : Int32) = nI 1 from rfl, nI_add]) (by omega) dL_law_821 ?_
  refine L_aload_n dL_law_822 rfl 0 rfl ?_
  refine L_iload_n dL_law_823 rfl 3 rfl ?_
  refine L_iconst (v := 2) dL_law_824 (by decide) ?_
  refine L_iadd dL_law_825 ?_
  refine L_sld (j := i + 2) hL (by rw [show (2 : Int32) = nI 2 from rfl, nI_add]) (by omega) dL_law_826 ?_
  refine L_call (i := 70) (ci := 9) (As := [.int (xs (i + 1)), .int (xs (i + 2))]) (v := r.1) (d := 60) miX9_same lkL_102 sh70 ⟨_, _, rfl⟩ rfl rfl (fun _ => rfl) (Nat.le_of_ble_eq_true rfl) dL_law_827 (by decide) hC (fun h1 q1 => ?_)
  refine L_aload_n dL_law_830 rfl 2 rfl ?_
  refine L_aload_n dL_law_831 rfl 0 rfl ?_
  refine L_iload_n dL_law_832 rfl 3 rfl ?_
  refine L_iconst (v := 1) dL_law_833 (by decide) ?_
  refine L_iadd dL_law_834 ?_
  refine L_sld (j := i + 1) hL (by rw [show (1 : Int32) = nI 1 from rfl, nI_add]) (by omega) dL_law_835 ?_
  refine L_aload_n dL_law_836 rfl 0 rfl ?_
  refine L_iload_n dL_law_837 rfl 3 rfl ?_
  refine L_iconst (v := 2) dL_law_838 (by decide) ?_
  refine L_iadd dL_law_839 ?_
  refine L_sld (j := i + 2) hL (by rw [show (2 : Int32) = nI 2 from rfl, nI_add]) (by omega) dL_law_840 ?_
  refine L_call (i := 209) (ci := 10) (As := [.int (xs (i + 1)), .int (xs (i + 2))]) (v := r.1) (d := 60) miX10_same lkL_105 sh209 ⟨_, _, rfl⟩ rfl rfl (fun _ => rfl) (Nat.le_of_ble_eq_true rfl) dL_law_841 (by decide) (hM h1 (hR.2.keep q1.2)) (fun h2 q2 => ?_)
  refine L_eq (tgt := 1027) dL_law_844 (by decide) rfl ?_
  exact hn r.2 h2 (q1.1.keep (q2.2.mono (fun a ha => zC_low ha))) q2.1 hO
theorem lkL_106 : Cond.methodLink R_law 106 yX9_unlike ∈ gw := (gwi 790 (by decide +kernel) rfl)
theorem lkL_109 : Cond.methodLink R_law 109 yX10_unlike ∈ gw := (gwi 1205 (by decide +kernel) rfl)
set_option maxRecDepth 100000 in
set_option maxHeartbeats 4000000 in
theorem LW_unlike {X : Wx} {b L i c : Nat} {xs : Nat → Int32} {S : Sv} {h : Hp} (hL : L ≤ 3072) (hi : i + 6 ≤ L) (hR : RelC S h ∧ RelM S h) (ho : Ok S c) (hc : c < 512) (hop : OpOk mX9_unlike mX10_unlike [.int (xs (i + 1))]) (hn : ∀ S2 h2, RelC S2 h2 → RelM S2 h2 → Ok S2 (c + 1) → LV X b L xs 1027 [(0, .ref b), (1, .ref (X.2.2.2 70)), (2, .ref (X.2.2.2 209)), (3, .int (nI i))] [] h2) : LV X b L xs 849 [(0, .ref b), (1, .ref (X.2.2.2 70)), (2, .ref (X.2.2.2 209)), (3, .int (nI i))] [] h := by
  obtain ⟨r, hO, hC, hM⟩ := hop X S c h hR.1 hR.2 ho hc
  refine L_aload_n dL_law_849 rfl 1 rfl ?_
  refine L_aload_n dL_law_850 rfl 0 rfl ?_
  refine L_iload_n dL_law_851 rfl 3 rfl ?_
  refine L_iconst (v := 1) dL_law_852 (by decide) ?_
  refine L_iadd dL_law_853 ?_
  refine L_sld (j := i + 1) hL (by rw [show (1 : Int32) = nI 1 from rfl, nI_add]) (by omega) dL_law_854 ?_
  refine L_call (i := 70) (ci := 9) (As := [.int (xs (i + 1))]) (v := r.1) (d := 60) miX9_unlike lkL_106 sh70 ⟨_, _, rfl⟩ rfl rfl (fun _ => rfl) (Nat.le_of_ble_eq_true rfl) dL_law_855 (by decide) hC (fun h1 q1 => ?_)
  refine L_aload_n dL_law_858 rfl 2 rfl ?_
  refine L_aload_n dL_law_859 rfl 0 rfl ?_
  refine L_iload_n dL_law_860 rfl 3 rfl ?_
  refine L_iconst (v := 1) dL_law_861 (by decide) ?_
  refine L_iadd dL_law_862 ?_
  refine L_sld (j := i + 1) hL (by rw [show (1 : Int32) = nI 1 from rfl, nI_add]) (by omega) dL_law_863 ?_
  refine L_call (i := 209) (ci := 10) (As := [.int (xs (i + 1))]) (v := r.1) (d := 60) miX10_unlike lkL_109 sh209 ⟨_, _, rfl⟩ rfl rfl (fun _ => rfl) (Nat.le_of_ble_eq_true rfl) dL_law_864 (by decide) (hM h1 (hR.2.keep q1.2)) (fun h2 q2 => ?_)
  refine L_eq (tgt := 1027) dL_law_867 (by decide) rfl ?_
  exact hn r.2 h2 (q1.1.keep (q2.2.mono (fun a ha => zC_low ha))) q2.1 hO
theorem lkL_110 : Cond.methodLink R_law 110 yX9_shared ∈ gw := (gwi 794 (by decide +kernel) rfl)
theorem lkL_113 : Cond.methodLink R_law 113 yX10_shared ∈ gw := (gwi 1209 (by decide +kernel) rfl)
set_option maxRecDepth 100000 in
set_option maxHeartbeats 4000000 in
theorem LW_shared {X : Wx} {b L i c : Nat} {xs : Nat → Int32} {S : Sv} {h : Hp} (hL : L ≤ 3072) (hi : i + 6 ≤ L) (hR : RelC S h ∧ RelM S h) (ho : Ok S c) (hc : c < 512) (hop : OpOk mX9_shared mX10_shared [.int (xs (i + 1)), .int (xs (i + 2))]) (hn : ∀ S2 h2, RelC S2 h2 → RelM S2 h2 → Ok S2 (c + 1) → LV X b L xs 1027 [(0, .ref b), (1, .ref (X.2.2.2 70)), (2, .ref (X.2.2.2 209)), (3, .int (nI i))] [] h2) : LV X b L xs 872 [(0, .ref b), (1, .ref (X.2.2.2 70)), (2, .ref (X.2.2.2 209)), (3, .int (nI i))] [] h := by
  obtain ⟨r, hO, hC, hM⟩ := hop X S c h hR.1 hR.2 ho hc
  refine L_aload_n dL_law_872 rfl 1 rfl ?_
  refine L_aload_n dL_law_873 rfl 0 rfl ?_
  refine L_iload_n dL_law_874 rfl 3 rfl ?_
  refine L_iconst (v := 1) dL_law_875 (by decide) ?_
  refine L_iadd dL_law_876 ?_
  refine L_sld (j := i + 1) hL (by rw [show (1 : Int32) = nI 1 from rfl, nI_add]) (by omega) dL_law_877 ?_
  refine L_aload_n dL_law_878 rfl 0 rfl ?_
  refine L_iload_n dL_law_879 rfl 3 rfl ?_
  refine L_iconst (v := 2) dL_law_880 (by decide) ?_
  refine L_iadd dL_law_881 ?_
  refine L_sld (j := i + 2) hL (by rw [show (2 : Int32) = nI 2 from rfl, nI_add]) (by omega) dL_law_882 ?_
  refine L_call (i := 70) (ci := 9) (As := [.int (xs (i + 1)), .int (xs (i + 2))]) (v := r.1) (d := 60) miX9_shared lkL_110 sh70 ⟨_, _, rfl⟩ rfl rfl (fun _ => rfl) (Nat.le_of_ble_eq_true rfl) dL_law_883 (by decide) hC (fun h1 q1 => ?_)
  refine L_aload_n dL_law_886 rfl 2 rfl ?_
  refine L_aload_n dL_law_887 rfl 0 rfl ?_
  refine L_iload_n dL_law_888 rfl 3 rfl ?_
  refine L_iconst (v := 1) dL_law_889 (by decide) ?_
  refine L_iadd dL_law_890 ?_
  refine L_sld (j := i + 1) hL (by rw [show (1 : Int32) = nI 1 from rfl, nI_add]) (by omega) dL_law_891 ?_
  refine L_aload_n dL_law_892 rfl 0 rfl ?_
  refine L_iload_n dL_law_893 rfl 3 rfl ?_
  refine L_iconst (v := 2) dL_law_894 (by decide) ?_
  refine L_iadd dL_law_895 ?_
  refine L_sld (j := i + 2) hL (by rw [show (2 : Int32) = nI 2 from rfl, nI_add]) (by omega) dL_law_896 ?_
  refine L_call (i := 209) (ci := 10) (As := [.int (xs (i + 1)), .int (xs (i + 2))]) (v := r.1) (d := 60) miX10_shared lkL_113 sh209 ⟨_, _, rfl⟩ rfl rfl (fun _ => rfl) (Nat.le_of_ble_eq_true rfl) dL_law_897 (by decide) (hM h1 (hR.2.keep q1.2)) (fun h2 q2 => ?_)
  refine L_eq (tgt := 1027) dL_law_900 (by decide) rfl ?_
  exact hn r.2 h2 (q1.1.keep (q2.2.mono (fun a ha => zC_low ha))) q2.1 hO
theorem lkL_114 : Cond.methodLink R_law 114 yX9_merge ∈ gw := (gwi 798 (by decide +kernel) rfl)
theorem lkL_117 : Cond.methodLink R_law 117 yX10_merge ∈ gw := (gwi 1213 (by decide +kernel) rfl)
set_option maxRecDepth 100000 in
set_option maxHeartbeats 4000000 in
theorem LW_merge {X : Wx} {b L i c : Nat} {xs : Nat → Int32} {S : Sv} {h : Hp} (hL : L ≤ 3072) (hi : i + 6 ≤ L) (hR : RelC S h ∧ RelM S h) (ho : Ok S c) (hc : c < 512) (hop : OpOk mX9_merge mX10_merge [.int (xs (i + 1)), .int (xs (i + 2)), .int (xs (i + 3)), .int (xs (i + 4))]) (hn : ∀ S2 h2, RelC S2 h2 → RelM S2 h2 → Ok S2 (c + 1) → LV X b L xs 1027 [(0, .ref b), (1, .ref (X.2.2.2 70)), (2, .ref (X.2.2.2 209)), (3, .int (nI i))] [] h2) : LV X b L xs 905 [(0, .ref b), (1, .ref (X.2.2.2 70)), (2, .ref (X.2.2.2 209)), (3, .int (nI i))] [] h := by
  obtain ⟨r, hO, hC, hM⟩ := hop X S c h hR.1 hR.2 ho hc
  refine L_aload_n dL_law_905 rfl 1 rfl ?_
  refine L_aload_n dL_law_906 rfl 0 rfl ?_
  refine L_iload_n dL_law_907 rfl 3 rfl ?_
  refine L_iconst (v := 1) dL_law_908 (by decide) ?_
  refine L_iadd dL_law_909 ?_
  refine L_sld (j := i + 1) hL (by rw [show (1 : Int32) = nI 1 from rfl, nI_add]) (by omega) dL_law_910 ?_
  refine L_aload_n dL_law_911 rfl 0 rfl ?_
  refine L_iload_n dL_law_912 rfl 3 rfl ?_
  refine L_iconst (v := 2) dL_law_913 (by decide) ?_
  refine L_iadd dL_law_914 ?_
  refine L_sld (j := i + 2) hL (by rw [show (2 : Int32) = nI 2 from rfl, nI_add]) (by omega) dL_law_915 ?_
  refine L_aload_n dL_law_916 rfl 0 rfl ?_
  refine L_iload_n dL_law_917 rfl 3 rfl ?_
  refine L_iconst (v := 3) dL_law_918 (by decide) ?_
  refine L_iadd dL_law_919 ?_
  refine L_sld (j := i + 3) hL (by rw [show (3 : Int32) = nI 3 from rfl, nI_add]) (by omega) dL_law_920 ?_
  refine L_aload_n dL_law_921 rfl 0 rfl ?_
  refine L_iload_n dL_law_922 rfl 3 rfl ?_
  refine L_iconst (v := 4) dL_law_923 (by decide) ?_
  refine L_iadd dL_law_924 ?_
  refine L_sld (j := i + 4) hL (by rw [show (4 : Int32) = nI 4 from rfl, nI_add]) (by omega) dL_law_925 ?_
  refine L_call (i := 70) (ci := 9) (As := [.int (xs (i + 1)), .int (xs (i + 2)), .int (xs (i + 3)), .int (xs (i + 4))]) (v := r.1) (d := 60) miX9_merge lkL_114 sh70 ⟨_, _, rfl⟩ rfl rfl (fun _ => rfl) (Nat.le_of_ble_eq_true rfl) dL_law_926 (by decide) hC (fun h1 q1 => ?_)
  refine L_aload_n dL_law_929 rfl 2 rfl ?_
  refine L_aload_n dL_law_930 rfl 0 rfl ?_
  refine L_iload_n dL_law_931 rfl 3 rfl ?_
  refine L_iconst (v := 1) dL_law_932 (by decide) ?_
  refine L_iadd dL_law_933 ?_
  refine L_sld (j := i + 1) hL (by rw [show (1 : Int32) = nI 1 from rfl, nI_add]) (by omega) dL_law_934 ?_
  refine L_aload_n dL_law_935 rfl 0 rfl ?_
  refine L_iload_n dL_law_936 rfl 3 rfl ?_
  refine L_iconst (v := 2) dL_law_937 (by decide) ?_
  refine L_iadd dL_law_938 ?_
  refine L_sld (j := i + 2) hL (by rw [show (2 : Int32) = nI 2 from rfl, nI_add]) (by omega) dL_law_939 ?_
  refine L_aload_n dL_law_940 rfl 0 rfl ?_
  refine L_iload_n dL_law_941 rfl 3 rfl ?_
  refine L_iconst (v := 3) dL_law_942 (by decide) ?_
  refine L_iadd dL_law_943 ?_
  refine L_sld (j := i + 3) hL (by rw [show (3 : Int32) = nI 3 from rfl, nI_add]) (by omega) dL_law_944 ?_
  refine L_aload_n dL_law_945 rfl 0 rfl ?_
  refine L_iload_n dL_law_946 rfl 3 rfl ?_
  refine L_iconst (v := 4) dL_law_947 (by decide) ?_
  refine L_iadd dL_law_948 ?_
  refine L_sld (j := i + 4) hL (by rw [show (4 : Int32) = nI 4 from rfl, nI_add]) (by omega) dL_law_949 ?_
  refine L_call (i := 209) (ci := 10) (As := [.int (xs (i + 1)), .int (xs (i + 2)), .int (xs (i + 3)), .int (xs (i + 4))]) (v := r.1) (d := 60) miX10_merge lkL_117 sh209 ⟨_, _, rfl⟩ rfl rfl (fun _ => rfl) (Nat.le_of_ble_eq_true rfl) dL_law_950 (by decide) (hM h1 (hR.2.keep q1.2)) (fun h2 q2 => ?_)
  refine L_eq (tgt := 1027) dL_law_953 (by decide) rfl ?_
  exact hn r.2 h2 (q1.1.keep (q2.2.mono (fun a ha => zC_low ha))) q2.1 hO
theorem lkL_118 : Cond.methodLink R_law 118 yX9_merged ∈ gw := (gwi 853 (by decide +kernel) rfl)
theorem lkL_121 : Cond.methodLink R_law 121 yX10_merged ∈ gw := (gwi 1237 (by decide +kernel) rfl)
set_option maxRecDepth 100000 in
set_option maxHeartbeats 4000000 in
theorem LW_merged {X : Wx} {b L i c : Nat} {xs : Nat → Int32} {S : Sv} {h : Hp} (hL : L ≤ 3072) (hi : i + 6 ≤ L) (hR : RelC S h ∧ RelM S h) (ho : Ok S c) (hc : c < 512) (hop : OpOk mX9_merged mX10_merged []) (hn : ∀ S2 h2, RelC S2 h2 → RelM S2 h2 → Ok S2 (c + 1) → LV X b L xs 1027 [(0, .ref b), (1, .ref (X.2.2.2 70)), (2, .ref (X.2.2.2 209)), (3, .int (nI i))] [] h2) : LV X b L xs 958 [(0, .ref b), (1, .ref (X.2.2.2 70)), (2, .ref (X.2.2.2 209)), (3, .int (nI i))] [] h := by
  obtain ⟨r, hO, hC, hM⟩ := hop X S c h hR.1 hR.2 ho hc
  refine L_aload_n dL_law_958 rfl 1 rfl ?_
  refine L_call (i := 70) (ci := 9) (As := []) (v := r.1) (d := 60) miX9_merged lkL_118 sh70 ⟨_, _, rfl⟩ rfl rfl (fun _ => rfl) (Nat.le_of_ble_eq_true rfl) dL_law_959 (by decide) hC (fun h1 q1 => ?_)
  refine L_aload_n dL_law_962 rfl 2 rfl ?_
  refine L_call (i := 209) (ci := 10) (As := []) (v := r.1) (d := 60) miX10_merged lkL_121 sh209 ⟨_, _, rfl⟩ rfl rfl (fun _ => rfl) (Nat.le_of_ble_eq_true rfl) dL_law_963 (by decide) (hM h1 (hR.2.keep q1.2)) (fun h2 q2 => ?_)
  refine L_eq (tgt := 1027) dL_law_966 (by decide) rfl ?_
  exact hn r.2 h2 (q1.1.keep (q2.2.mono (fun a ha => zC_low ha))) q2.1 hO
theorem lkL_122 : Cond.methodLink R_law 122 yX9_clash ∈ gw := (gwi 857 (by decide +kernel) rfl)
theorem lkL_125 : Cond.methodLink R_law 125 yX10_clash ∈ gw := (gwi 1241 (by decide +kernel) rfl)
set_option maxRecDepth 100000 in
set_option maxHeartbeats 4000000 in
theorem LW_clash {X : Wx} {b L i c : Nat} {xs : Nat → Int32} {S : Sv} {h : Hp} (hL : L ≤ 3072) (hi : i + 6 ≤ L) (hR : RelC S h ∧ RelM S h) (ho : Ok S c) (hc : c < 512) (hop : OpOk mX9_clash mX10_clash [.int (xs (i + 1)), .int (xs (i + 2))]) (hn : ∀ S2 h2, RelC S2 h2 → RelM S2 h2 → Ok S2 (c + 1) → LV X b L xs 1027 [(0, .ref b), (1, .ref (X.2.2.2 70)), (2, .ref (X.2.2.2 209)), (3, .int (nI i))] [] h2) : LV X b L xs 971 [(0, .ref b), (1, .ref (X.2.2.2 70)), (2, .ref (X.2.2.2 209)), (3, .int (nI i))] [] h := by
  obtain ⟨r, hO, hC, hM⟩ := hop X S c h hR.1 hR.2 ho hc
  refine L_aload_n dL_law_971 rfl 1 rfl ?_
  refine L_aload_n dL_law_972 rfl 0 rfl ?_
  refine L_iload_n dL_law_973 rfl 3 rfl ?_
  refine L_iconst (v := 1) dL_law_974 (by decide) ?_
  refine L_iadd dL_law_975 ?_
  refine L_sld (j := i + 1) hL (by rw [show (1 : Int32) = nI 1 from rfl, nI_add]) (by omega) dL_law_976 ?_
  refine L_aload_n dL_law_977 rfl 0 rfl ?_
  refine L_iload_n dL_law_978 rfl 3 rfl ?_
  refine L_iconst (v := 2) dL_law_979 (by decide) ?_
  refine L_iadd dL_law_980 ?_
  refine L_sld (j := i + 2) hL (by rw [show (2 : Int32) = nI 2 from rfl, nI_add]) (by omega) dL_law_981 ?_
  refine L_call (i := 70) (ci := 9) (As := [.int (xs (i + 1)), .int (xs (i + 2))]) (v := r.1) (d := 60) miX9_clash lkL_122 sh70 ⟨_, _, rfl⟩ rfl rfl (fun _ => rfl) (Nat.le_of_ble_eq_true rfl) dL_law_982 (by decide) hC (fun h1 q1 => ?_)
  refine L_aload_n dL_law_985 rfl 2 rfl ?_
  refine L_aload_n dL_law_986 rfl 0 rfl ?_
  refine L_iload_n dL_law_987 rfl 3 rfl ?_
  refine L_iconst (v := 1) dL_law_988 (by decide) ?_
  refine L_iadd dL_law_989 ?_
  refine L_sld (j := i + 1) hL (by rw [show (1 : Int32) = nI 1 from rfl, nI_add]) (by omega) dL_law_990 ?_
  refine L_aload_n dL_law_991 rfl 0 rfl ?_
  refine L_iload_n dL_law_992 rfl 3 rfl ?_
  refine L_iconst (v := 2) dL_law_993 (by decide) ?_
  refine L_iadd dL_law_994 ?_
  refine L_sld (j := i + 2) hL (by rw [show (2 : Int32) = nI 2 from rfl, nI_add]) (by omega) dL_law_995 ?_
  refine L_call (i := 209) (ci := 10) (As := [.int (xs (i + 1)), .int (xs (i + 2))]) (v := r.1) (d := 60) miX10_clash lkL_125 sh209 ⟨_, _, rfl⟩ rfl rfl (fun _ => rfl) (Nat.le_of_ble_eq_true rfl) dL_law_996 (by decide) (hM h1 (hR.2.keep q1.2)) (fun h2 q2 => ?_)
  refine L_eq (tgt := 1027) dL_law_999 (by decide) rfl ?_
  exact hn r.2 h2 (q1.1.keep (q2.2.mono (fun a ha => zC_low ha))) q2.1 hO
theorem lkL_126 : Cond.methodLink R_law 126 yX9_found ∈ gw := (gwi 861 (by decide +kernel) rfl)
theorem lkL_129 : Cond.methodLink R_law 129 yX10_found ∈ gw := (gwi 1245 (by decide +kernel) rfl)
set_option maxRecDepth 100000 in
set_option maxHeartbeats 4000000 in
theorem LW_found {X : Wx} {b L i c : Nat} {xs : Nat → Int32} {S : Sv} {h : Hp} (hL : L ≤ 3072) (hi : i + 6 ≤ L) (hR : RelC S h ∧ RelM S h) (ho : Ok S c) (hc : c < 512) (hop : OpOk mX9_found mX10_found [.int (xs (i + 1))]) (hn : ∀ S2 h2, RelC S2 h2 → RelM S2 h2 → Ok S2 (c + 1) → LV X b L xs 1027 [(0, .ref b), (1, .ref (X.2.2.2 70)), (2, .ref (X.2.2.2 209)), (3, .int (nI i))] [] h2) : LV X b L xs 1004 [(0, .ref b), (1, .ref (X.2.2.2 70)), (2, .ref (X.2.2.2 209)), (3, .int (nI i))] [] h := by
  obtain ⟨r, hO, hC, hM⟩ := hop X S c h hR.1 hR.2 ho hc
  refine L_aload_n dL_law_1004 rfl 1 rfl ?_
  refine L_aload_n dL_law_1005 rfl 0 rfl ?_
  refine L_iload_n dL_law_1006 rfl 3 rfl ?_
  refine L_iconst (v := 1) dL_law_1007 (by decide) ?_
  refine L_iadd dL_law_1008 ?_
  refine L_sld (j := i + 1) hL (by rw [show (1 : Int32) = nI 1 from rfl, nI_add]) (by omega) dL_law_1009 ?_
  refine L_call (i := 70) (ci := 9) (As := [.int (xs (i + 1))]) (v := r.1) (d := 60) miX9_found lkL_126 sh70 ⟨_, _, rfl⟩ rfl rfl (fun _ => rfl) (Nat.le_of_ble_eq_true rfl) dL_law_1010 (by decide) hC (fun h1 q1 => ?_)
  refine L_aload_n dL_law_1013 rfl 2 rfl ?_
  refine L_aload_n dL_law_1014 rfl 0 rfl ?_
  refine L_iload_n dL_law_1015 rfl 3 rfl ?_
  refine L_iconst (v := 1) dL_law_1016 (by decide) ?_
  refine L_iadd dL_law_1017 ?_
  refine L_sld (j := i + 1) hL (by rw [show (1 : Int32) = nI 1 from rfl, nI_add]) (by omega) dL_law_1018 ?_
  refine L_call (i := 209) (ci := 10) (As := [.int (xs (i + 1))]) (v := r.1) (d := 60) miX10_found lkL_129 sh209 ⟨_, _, rfl⟩ rfl rfl (fun _ => rfl) (Nat.le_of_ble_eq_true rfl) dL_law_1019 (by decide) (hM h1 (hR.2.keep q1.2)) (fun h2 q2 => ?_)
  refine L_eq (tgt := 1027) dL_law_1022 (by decide) rfl ?_
  exact hn r.2 h2 (q1.1.keep (q2.2.mono (fun a ha => zC_low ha))) q2.1 hO
/-- every call, both sides -/
def AllOps : Prop := (∀ (a0 : Int64) (a1 : Int32), OpOk mX9_feed mX10_feed [.long a0, .int a1]) ∧ (∀ (a0 : Int32), OpOk mX9_read mX10_read [.int a0]) ∧ (∀ (a0 : Int32), OpOk mX9_write mX10_write [.int a0]) ∧ (∀ (a0 : Int32), OpOk mX9_letter mX10_letter [.int a0]) ∧ (∀ (a0 : Int32) (a1 : Int32), OpOk mX9_copy mX10_copy [.int a0, .int a1]) ∧ (∀ (a0 : Int32), OpOk mX9_clear mX10_clear [.int a0]) ∧ (∀ (a0 : Int32) (a1 : Int32) (a2 : Int32), OpOk mX9_node mX10_node [.int a0, .int a1, .int a2]) ∧ (∀ (a0 : Int32), OpOk mX9_size mX10_size [.int a0]) ∧ (∀ (a0 : Int32) (a1 : Int32), OpOk mX9_relabel mX10_relabel [.int a0, .int a1]) ∧ (∀ (a0 : Int32) (a1 : Int32), OpOk mX9_retext mX10_retext [.int a0, .int a1]) ∧ (∀ (a0 : Int32) (a1 : Int32) (a2 : Int32) (a3 : Int32) (a4 : Int32), OpOk mX9_put mX10_put [.int a0, .int a1, .int a2, .int a3, .int a4]) ∧ (∀ (a0 : Int32) (a1 : Int32), OpOk mX9_take mX10_take [.int a0, .int a1]) ∧ (∀ (a0 : Int32) (a1 : Int32) (a2 : Int32) (a3 : Int32), OpOk mX9_move mX10_move [.int a0, .int a1, .int a2, .int a3]) ∧ (∀ (a0 : Int32) (a1 : Int32), OpOk mX9_price mX10_price [.int a0, .int a1]) ∧ (∀ (a0 : Int32) (a1 : Int32), OpOk mX9_distance mX10_distance [.int a0, .int a1]) ∧ (∀ (a0 : Int32) (a1 : Int32), OpOk mX9_map mX10_map [.int a0, .int a1]) ∧ (∀ (a0 : Int32) (a1 : Int32), OpOk mX9_pair mX10_pair [.int a0, .int a1]) ∧ (OpOk mX9_acts mX10_acts []) ∧ (∀ (a0 : Int32) (a1 : Int32), OpOk mX9_act mX10_act [.int a0, .int a1]) ∧ (OpOk mX9_like mX10_like []) ∧ (∀ (a0 : Int32) (a1 : Int32), OpOk mX9_same mX10_same [.int a0, .int a1]) ∧ (∀ (a0 : Int32), OpOk mX9_unlike mX10_unlike [.int a0]) ∧ (∀ (a0 : Int32) (a1 : Int32), OpOk mX9_shared mX10_shared [.int a0, .int a1]) ∧ (∀ (a0 : Int32) (a1 : Int32) (a2 : Int32) (a3 : Int32), OpOk mX9_merge mX10_merge [.int a0, .int a1, .int a2, .int a3]) ∧ (OpOk mX9_merged mX10_merged []) ∧ (∀ (a0 : Int32) (a1 : Int32), OpOk mX9_clash mX10_clash [.int a0, .int a1]) ∧ (∀ (a0 : Int32), OpOk mX9_found mX10_found [.int a0])
theorem andN {n : Nat} (x : Int32) : x &&& 31 = nI (x.toBitVec.toNat % 32) := pk_and x 5 rfl
set_option maxRecDepth 100000 in
set_option maxHeartbeats 4000000 in
theorem law_loop (hA : AllOps) {X : Wx} {b L : Nat} {xs : Nat → Int32} (hL : L ≤ 3072) : ∀ (f i c : Nat) (S : Sv) (h : Hp), L < i + 6 * f → i = 6 * c → i ≤ L → RelC S h ∧ RelM S h → Ok S c → LV X b L xs 18 [(0, .ref b), (1, .ref (X.2.2.2 70)), (2, .ref (X.2.2.2 209)), (3, .int (nI i))] [] h := by
  intro f
  induction f with
  | zero => intro i c S h h1 h2 h3; omega
  | succ f ih =>
    intro i c S h h1 h2 h3 hR ho
    refine L_iload_n dL_law_18 rfl 3 rfl ?_
    refine L_aload_n dL_law_19 rfl 0 rfl ?_
    refine L_slen dL_law_20 ?_
    refine L_bipush (v := 6) dL_law_21 (by decide) ?_
    refine L_isub dL_law_23 ?_
    have e6 : (nI L - 6).toInt = (L : Int) - 6 := pk_sub_toInt (a := L) (b := 6) (by omega) (by decide)
    refine L_gt (tgt := 1033) dL_law_24 (by decide) (fun z => ?_) (fun z => ?_)
    · exact L_iconst (v := 1) dL_law_1033 (by decide) (L_ret dL_law_1034)
    · rw [fa_lt, e6, nI_toInt (by omega)] at z
      have hi : i + 6 ≤ L := by omega
      have hc : c < 512 := by omega
      have nxt : ∀ S2 h2, RelC S2 h2 → RelM S2 h2 → Ok S2 (c + 1) → LV X b L xs 1027 [(0, .ref b), (1, .ref (X.2.2.2 70)), (2, .ref (X.2.2.2 209)), (3, .int (nI i))] [] h2 := by
        intro S2 h4 r1 r2 o2
        refine L_iinc (v := nI (i + 6)) (l2 := [(3, .int (nI (i + 6))), (0, .ref b), (1, .ref (X.2.2.2 70)), (2, .ref (X.2.2.2 209))]) dL_law_1027 3 rfl (nI_add i 6) (by decide) rfl ?_
        refine L_goto (tgt := 18) dL_law_1030 (by decide) ?_
        have k := ih (i + 6) (c + 1) S2 h4 (by omega) (by omega) hi ⟨r1, r2⟩ o2
        intro p e s m below meth cd H sa C hP hS hl
        exact k p e s m below meth cd H sa C hP hS (lv_sub hl [1, 2, 3, 0] rfl)
      refine L_aload_n dL_law_27 rfl 0 rfl ?_
      refine L_iload_n dL_law_28 rfl 3 rfl ?_
      refine L_sld (j := i) hL rfl (by omega) dL_law_29 ?_
      refine L_bipush (v := 31) dL_law_30 (by decide) ?_
      refine L_iand dL_law_32 ?_
      rw [andN (n := 0) (xs i)]
      have hk : (xs i).toBitVec.toNat % 32 < 32 := Nat.mod_lt _ (by decide)
      generalize (xs i).toBitVec.toNat % 32 = k at hk
      by_cases q0 : k = 0
      · subst q0
        exact L_tableIn (tgt := 156) (off := 123) dL_law_33 (by decide) (by decide) rfl (by decide) (LW_feed hL hi hR ho hc (hA.1 _ _) nxt)
      by_cases q1 : k = 1
      · subst q1
        exact L_tableIn (tgt := 219) (off := 186) dL_law_33 (by decide) (by decide) rfl (by decide) (LW_read hL hi hR ho hc (hA.2.1 _) nxt)
      by_cases q2 : k = 2
      · subst q2
        exact L_tableIn (tgt := 242) (off := 209) dL_law_33 (by decide) (by decide) rfl (by decide) (LW_write hL hi hR ho hc (hA.2.2.1 _) nxt)
      by_cases q3 : k = 3
      · subst q3
        exact L_tableIn (tgt := 265) (off := 232) dL_law_33 (by decide) (by decide) rfl (by decide) (LW_letter hL hi hR ho hc (hA.2.2.2.1 _) nxt)
      by_cases q4 : k = 4
      · subst q4
        exact L_tableIn (tgt := 288) (off := 255) dL_law_33 (by decide) (by decide) rfl (by decide) (LW_copy hL hi hR ho hc (hA.2.2.2.2.1 _ _) nxt)
      by_cases q5 : k = 5
      · subst q5
        exact L_tableIn (tgt := 321) (off := 288) dL_law_33 (by decide) (by decide) rfl (by decide) (LW_clear hL hi hR ho hc (hA.2.2.2.2.2.1 _) nxt)
      by_cases q6 : k = 6
      · subst q6
        exact L_tableIn (tgt := 344) (off := 311) dL_law_33 (by decide) (by decide) rfl (by decide) (LW_node hL hi hR ho hc (hA.2.2.2.2.2.2.1 _ _ _) nxt)
      by_cases q7 : k = 7
      · subst q7
        exact L_tableIn (tgt := 387) (off := 354) dL_law_33 (by decide) (by decide) rfl (by decide) (LW_size hL hi hR ho hc (hA.2.2.2.2.2.2.2.1 _) nxt)
      by_cases q8 : k = 8
      · subst q8
        exact L_tableIn (tgt := 410) (off := 377) dL_law_33 (by decide) (by decide) rfl (by decide) (LW_relabel hL hi hR ho hc (hA.2.2.2.2.2.2.2.2.1 _ _) nxt)
      by_cases q9 : k = 9
      · subst q9
        exact L_tableIn (tgt := 443) (off := 410) dL_law_33 (by decide) (by decide) rfl (by decide) (LW_retext hL hi hR ho hc (hA.2.2.2.2.2.2.2.2.2.1 _ _) nxt)
      by_cases q10 : k = 10
      · subst q10
        exact L_tableIn (tgt := 476) (off := 443) dL_law_33 (by decide) (by decide) rfl (by decide) (LW_put hL hi hR ho hc (hA.2.2.2.2.2.2.2.2.2.2.1 _ _ _ _ _) nxt)
      by_cases q11 : k = 11
      · subst q11
        exact L_tableIn (tgt := 539) (off := 506) dL_law_33 (by decide) (by decide) rfl (by decide) (LW_take hL hi hR ho hc (hA.2.2.2.2.2.2.2.2.2.2.2.1 _ _) nxt)
      by_cases q12 : k = 12
      · subst q12
        exact L_tableIn (tgt := 572) (off := 539) dL_law_33 (by decide) (by decide) rfl (by decide) (LW_move hL hi hR ho hc (hA.2.2.2.2.2.2.2.2.2.2.2.2.1 _ _ _ _) nxt)
      by_cases q13 : k = 13
      · subst q13
        exact L_tableIn (tgt := 625) (off := 592) dL_law_33 (by decide) (by decide) rfl (by decide) (LW_price hL hi hR ho hc (hA.2.2.2.2.2.2.2.2.2.2.2.2.2.1 _ _) nxt)
      by_cases q14 : k = 14
      · subst q14
        exact L_tableIn (tgt := 658) (off := 625) dL_law_33 (by decide) (by decide) rfl (by decide) (LW_distance hL hi hR ho hc (hA.2.2.2.2.2.2.2.2.2.2.2.2.2.2.1 _ _) nxt)
      by_cases q15 : k = 15
      · subst q15
        exact L_tableIn (tgt := 691) (off := 658) dL_law_33 (by decide) (by decide) rfl (by decide) (LW_map hL hi hR ho hc (hA.2.2.2.2.2.2.2.2.2.2.2.2.2.2.2.1 _ _) nxt)
      by_cases q16 : k = 16
      · subst q16
        exact L_tableIn (tgt := 724) (off := 691) dL_law_33 (by decide) (by decide) rfl (by decide) (LW_pair hL hi hR ho hc (hA.2.2.2.2.2.2.2.2.2.2.2.2.2.2.2.2.1 _ _) nxt)
      by_cases q17 : k = 17
      · subst q17
        exact L_tableIn (tgt := 757) (off := 724) dL_law_33 (by decide) (by decide) rfl (by decide) (LW_acts hL hi hR ho hc (hA.2.2.2.2.2.2.2.2.2.2.2.2.2.2.2.2.2.1) nxt)
      by_cases q18 : k = 18
      · subst q18
        exact L_tableIn (tgt := 770) (off := 737) dL_law_33 (by decide) (by decide) rfl (by decide) (LW_act hL hi hR ho hc (hA.2.2.2.2.2.2.2.2.2.2.2.2.2.2.2.2.2.2.1 _ _) nxt)
      by_cases q19 : k = 19
      · subst q19
        exact L_tableIn (tgt := 803) (off := 770) dL_law_33 (by decide) (by decide) rfl (by decide) (LW_like hL hi hR ho hc (hA.2.2.2.2.2.2.2.2.2.2.2.2.2.2.2.2.2.2.2.1) nxt)
      by_cases q20 : k = 20
      · subst q20
        exact L_tableIn (tgt := 816) (off := 783) dL_law_33 (by decide) (by decide) rfl (by decide) (LW_same hL hi hR ho hc (hA.2.2.2.2.2.2.2.2.2.2.2.2.2.2.2.2.2.2.2.2.1 _ _) nxt)
      by_cases q21 : k = 21
      · subst q21
        exact L_tableIn (tgt := 849) (off := 816) dL_law_33 (by decide) (by decide) rfl (by decide) (LW_unlike hL hi hR ho hc (hA.2.2.2.2.2.2.2.2.2.2.2.2.2.2.2.2.2.2.2.2.2.1 _) nxt)
      by_cases q22 : k = 22
      · subst q22
        exact L_tableIn (tgt := 872) (off := 839) dL_law_33 (by decide) (by decide) rfl (by decide) (LW_shared hL hi hR ho hc (hA.2.2.2.2.2.2.2.2.2.2.2.2.2.2.2.2.2.2.2.2.2.2.1 _ _) nxt)
      by_cases q23 : k = 23
      · subst q23
        exact L_tableIn (tgt := 905) (off := 872) dL_law_33 (by decide) (by decide) rfl (by decide) (LW_merge hL hi hR ho hc (hA.2.2.2.2.2.2.2.2.2.2.2.2.2.2.2.2.2.2.2.2.2.2.2.1 _ _ _ _) nxt)
      by_cases q24 : k = 24
      · subst q24
        exact L_tableIn (tgt := 958) (off := 925) dL_law_33 (by decide) (by decide) rfl (by decide) (LW_merged hL hi hR ho hc (hA.2.2.2.2.2.2.2.2.2.2.2.2.2.2.2.2.2.2.2.2.2.2.2.2.1) nxt)
      by_cases q25 : k = 25
      · subst q25
        exact L_tableIn (tgt := 971) (off := 938) dL_law_33 (by decide) (by decide) rfl (by decide) (LW_clash hL hi hR ho hc (hA.2.2.2.2.2.2.2.2.2.2.2.2.2.2.2.2.2.2.2.2.2.2.2.2.2.1 _ _) nxt)
      by_cases q26 : k = 26
      · subst q26
        exact L_tableIn (tgt := 1004) (off := 971) dL_law_33 (by decide) (by decide) rfl (by decide) (LW_found hL hi hR ho hc (hA.2.2.2.2.2.2.2.2.2.2.2.2.2.2.2.2.2.2.2.2.2.2.2.2.2.2 _) nxt)
      refine L_tableOut (tgt := 1027) dL_law_33 (Or.inr ?_) (by decide) (nxt S h hR.1 hR.2 ho.up)
      rw [nI_toInt (by omega)]
      omega
