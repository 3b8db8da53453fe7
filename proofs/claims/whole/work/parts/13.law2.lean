set_option maxRecDepth 100000 in
set_option maxHeartbeats 4000000 in
theorem lw_c0 {Rel : Mm → Mm → Prop} (hst : St_write Rel) {κ : Kx} {εx εm : Ev} {A : Nat → Prop} {b L i : Nat} {xs : Nat → Int32} (C : Cf κ code 4 RL (some .boolean) 40) (E : Lc κ εx εm A b L xs) (hL : L ≤ 2048) (hi : i + 4 ≤ L) {μx μm : Mm} (hRel : Rel μx μm) (next : ∀ μx' μm', Rel μx' μm' → G κ (Vl (kS κ) εx εm μx' μm' A) 4 1285 [(3, .int (nI i)), (2, .ref (ea εm 0)), (1, .ref (ea εx 0)), (0, .ref b)] []) : G κ (Vl (kS κ) εx εm μx μm A) 4 188 [(3, .int (nI i)), (2, .ref (ea εm 0)), (1, .ref (ea εx 0)), (0, .ref b)] [] := by
  obtain ⟨r, μx', μm', hx, hm, hR⟩ := hst (xs (i + 1)) μx μm hRel
  refine g_aload_n (pc := 188) (i := 1) (j := 2) C dL_law_188 rfl rfl ?_
  refine g_aload_n (pc := 189) (i := 0) (j := 3) C dL_law_189 rfl rfl ?_
  refine g_iload_n (pc := 190) (i := 3) (j := 0) C dL_law_190 rfl rfl ?_
  refine g_iconst (pc := 191) C dL_law_191 ci_1 ?_
  refine g_iadd (pc := 192) C dL_law_192 ?_
  refine l_ald (pc := 193) (j := i + 1) C E (by omega) (by omega) (nI_plus i 1) dL_law_193 ?_
  refine l_callX (pc := 194) (st := []) C E lkL_13 (As := [.int (xs (i + 1))]) rfl (kX7_write (kl κ) εx (xs (i + 1)) μx (r, μx') hx) (by decide) rfl (Nat.le_of_ble_eq_true rfl) dL_law_194 ?_
  show G κ (Vl (kS κ) εx εm μx' μm A) 4 197 [(3, .int (nI i)), (2, .ref (ea εm 0)), (1, .ref (ea εx 0)), (0, .ref b)] [.int r]
  refine g_aload_n (pc := 197) (i := 2) (j := 1) C dL_law_197 rfl rfl ?_
  refine g_aload_n (pc := 198) (i := 0) (j := 3) C dL_law_198 rfl rfl ?_
  refine g_iload_n (pc := 199) (i := 3) (j := 0) C dL_law_199 rfl rfl ?_
  refine g_iconst (pc := 200) C dL_law_200 ci_1 ?_
  refine g_iadd (pc := 201) C dL_law_201 ?_
  refine l_ald (pc := 202) (j := i + 1) C E (by omega) (by omega) (nI_plus i 1) dL_law_202 ?_
  refine l_callM (pc := 203) (st := [.int r]) C E lkL_17 (As := [.int (xs (i + 1))]) rfl (kX8_write (kl κ) εm (xs (i + 1)) μm (r, μm') hm) (by decide) rfl (Nat.le_of_ble_eq_true rfl) dL_law_203 ?_
  show G κ (Vl (kS κ) εx εm μx' μm' A) 4 206 [(3, .int (nI i)), (2, .ref (ea εm 0)), (1, .ref (ea εx 0)), (0, .ref b)] [.int r, .int r]
  exact l_eqi (pc := 206) (tgt := 1285) C rfl dL_law_206 rfl (next μx' μm' hR)
set_option maxRecDepth 100000 in
set_option maxHeartbeats 4000000 in
theorem lw_c1 {Rel : Mm → Mm → Prop} (hst : St_wipe Rel) {κ : Kx} {εx εm : Ev} {A : Nat → Prop} {b L i : Nat} {xs : Nat → Int32} (C : Cf κ code 4 RL (some .boolean) 40) (E : Lc κ εx εm A b L xs) (hL : L ≤ 2048) (hi : i + 4 ≤ L) {μx μm : Mm} (hRel : Rel μx μm) (next : ∀ μx' μm', Rel μx' μm' → G κ (Vl (kS κ) εx εm μx' μm' A) 4 1285 [(3, .int (nI i)), (2, .ref (ea εm 0)), (1, .ref (ea εx 0)), (0, .ref b)] []) : G κ (Vl (kS κ) εx εm μx μm A) 4 211 [(3, .int (nI i)), (2, .ref (ea εm 0)), (1, .ref (ea εx 0)), (0, .ref b)] [] := by
  obtain ⟨r, μx', μm', hx, hm, hR⟩ := hst  μx μm hRel
  refine g_aload_n (pc := 211) (i := 1) (j := 2) C dL_law_211 rfl rfl ?_
  refine l_callX (pc := 212) (st := []) C E lkL_18 (As := []) rfl (kX7_wipe (kl κ) εx μx (r, μx') hx) (by decide) rfl (Nat.le_of_ble_eq_true rfl) dL_law_212 ?_
  show G κ (Vl (kS κ) εx εm μx' μm A) 4 215 [(3, .int (nI i)), (2, .ref (ea εm 0)), (1, .ref (ea εx 0)), (0, .ref b)] [.int r]
  refine g_aload_n (pc := 215) (i := 2) (j := 1) C dL_law_215 rfl rfl ?_
  refine l_callM (pc := 216) (st := [.int r]) C E lkL_22 (As := []) rfl (kX8_wipe (kl κ) εm μm (r, μm') hm) (by decide) rfl (Nat.le_of_ble_eq_true rfl) dL_law_216 ?_
  show G κ (Vl (kS κ) εx εm μx' μm' A) 4 219 [(3, .int (nI i)), (2, .ref (ea εm 0)), (1, .ref (ea εx 0)), (0, .ref b)] [.int r, .int r]
  exact l_eqi (pc := 219) (tgt := 1285) C rfl dL_law_219 rfl (next μx' μm' hR)
set_option maxRecDepth 100000 in
set_option maxHeartbeats 4000000 in
theorem lw_c2 {Rel : Mm → Mm → Prop} (hst : St_fault Rel) {κ : Kx} {εx εm : Ev} {A : Nat → Prop} {b L i : Nat} {xs : Nat → Int32} (C : Cf κ code 4 RL (some .boolean) 40) (E : Lc κ εx εm A b L xs) (hL : L ≤ 2048) (hi : i + 4 ≤ L) {μx μm : Mm} (hRel : Rel μx μm) (next : ∀ μx' μm', Rel μx' μm' → G κ (Vl (kS κ) εx εm μx' μm' A) 4 1285 [(3, .int (nI i)), (2, .ref (ea εm 0)), (1, .ref (ea εx 0)), (0, .ref b)] []) : G κ (Vl (kS κ) εx εm μx μm A) 4 224 [(3, .int (nI i)), (2, .ref (ea εm 0)), (1, .ref (ea εx 0)), (0, .ref b)] [] := by
  obtain ⟨r, μx', μm', hx, hm, hR⟩ := hst  μx μm hRel
  refine g_aload_n (pc := 224) (i := 1) (j := 2) C dL_law_224 rfl rfl ?_
  refine l_callX (pc := 225) (st := []) C E lkL_23 (As := []) rfl (kX7_fault (kl κ) εx μx (r, μx') hx) (by decide) rfl (Nat.le_of_ble_eq_true rfl) dL_law_225 ?_
  show G κ (Vl (kS κ) εx εm μx' μm A) 4 228 [(3, .int (nI i)), (2, .ref (ea εm 0)), (1, .ref (ea εx 0)), (0, .ref b)] [.int r]
  refine g_aload_n (pc := 228) (i := 2) (j := 1) C dL_law_228 rfl rfl ?_
  refine l_callM (pc := 229) (st := [.int r]) C E lkL_26 (As := []) rfl (kX8_fault (kl κ) εm μm (r, μm') hm) (by decide) rfl (Nat.le_of_ble_eq_true rfl) dL_law_229 ?_
  show G κ (Vl (kS κ) εx εm μx' μm' A) 4 232 [(3, .int (nI i)), (2, .ref (ea εm 0)), (1, .ref (ea εx 0)), (0, .ref b)] [.int r, .int r]
  exact l_eqi (pc := 232) (tgt := 1285) C rfl dL_law_232 rfl (next μx' μm' hR)
set_option maxRecDepth 100000 in
set_option maxHeartbeats 4000000 in
theorem lw_c3 {Rel : Mm → Mm → Prop} (hst : St_tell Rel) {κ : Kx} {εx εm : Ev} {A : Nat → Prop} {b L i : Nat} {xs : Nat → Int32} (C : Cf κ code 4 RL (some .boolean) 40) (E : Lc κ εx εm A b L xs) (hL : L ≤ 2048) (hi : i + 4 ≤ L) {μx μm : Mm} (hRel : Rel μx μm) (next : ∀ μx' μm', Rel μx' μm' → G κ (Vl (kS κ) εx εm μx' μm' A) 4 1285 [(3, .int (nI i)), (2, .ref (ea εm 0)), (1, .ref (ea εx 0)), (0, .ref b)] []) : G κ (Vl (kS κ) εx εm μx μm A) 4 237 [(3, .int (nI i)), (2, .ref (ea εm 0)), (1, .ref (ea εx 0)), (0, .ref b)] [] := by
  obtain ⟨r, μx', μm', hx, hm, hR⟩ := hst (xs (i + 1)) μx μm hRel
  refine g_aload_n (pc := 237) (i := 1) (j := 2) C dL_law_237 rfl rfl ?_
  refine g_aload_n (pc := 238) (i := 0) (j := 3) C dL_law_238 rfl rfl ?_
  refine g_iload_n (pc := 239) (i := 3) (j := 0) C dL_law_239 rfl rfl ?_
  refine g_iconst (pc := 240) C dL_law_240 ci_1 ?_
  refine g_iadd (pc := 241) C dL_law_241 ?_
  refine l_ald (pc := 242) (j := i + 1) C E (by omega) (by omega) (nI_plus i 1) dL_law_242 ?_
  refine l_callX (pc := 243) (st := []) C E lkL_27 (As := [.int (xs (i + 1))]) rfl (kX7_tell (kl κ) εx (xs (i + 1)) μx (r, μx') hx) (by decide) rfl (Nat.le_of_ble_eq_true rfl) dL_law_243 ?_
  show G κ (Vl (kS κ) εx εm μx' μm A) 4 246 [(3, .int (nI i)), (2, .ref (ea εm 0)), (1, .ref (ea εx 0)), (0, .ref b)] [.int r]
  refine g_aload_n (pc := 246) (i := 2) (j := 1) C dL_law_246 rfl rfl ?_
  refine g_aload_n (pc := 247) (i := 0) (j := 3) C dL_law_247 rfl rfl ?_
  refine g_iload_n (pc := 248) (i := 3) (j := 0) C dL_law_248 rfl rfl ?_
  refine g_iconst (pc := 249) C dL_law_249 ci_1 ?_
  refine g_iadd (pc := 250) C dL_law_250 ?_
  refine l_ald (pc := 251) (j := i + 1) C E (by omega) (by omega) (nI_plus i 1) dL_law_251 ?_
  refine l_callM (pc := 252) (st := [.int r]) C E lkL_30 (As := [.int (xs (i + 1))]) rfl (kX8_tell (kl κ) εm (xs (i + 1)) μm (r, μm') hm) (by decide) rfl (Nat.le_of_ble_eq_true rfl) dL_law_252 ?_
  show G κ (Vl (kS κ) εx εm μx' μm' A) 4 255 [(3, .int (nI i)), (2, .ref (ea εm 0)), (1, .ref (ea εx 0)), (0, .ref b)] [.int r, .int r]
  exact l_eqi (pc := 255) (tgt := 1285) C rfl dL_law_255 rfl (next μx' μm' hR)
set_option maxRecDepth 100000 in
set_option maxHeartbeats 4000000 in
theorem lw_c4 {Rel : Mm → Mm → Prop} (hst : St_about Rel) {κ : Kx} {εx εm : Ev} {A : Nat → Prop} {b L i : Nat} {xs : Nat → Int32} (C : Cf κ code 4 RL (some .boolean) 40) (E : Lc κ εx εm A b L xs) (hL : L ≤ 2048) (hi : i + 4 ≤ L) {μx μm : Mm} (hRel : Rel μx μm) (next : ∀ μx' μm', Rel μx' μm' → G κ (Vl (kS κ) εx εm μx' μm' A) 4 1285 [(3, .int (nI i)), (2, .ref (ea εm 0)), (1, .ref (ea εx 0)), (0, .ref b)] []) : G κ (Vl (kS κ) εx εm μx μm A) 4 260 [(3, .int (nI i)), (2, .ref (ea εm 0)), (1, .ref (ea εx 0)), (0, .ref b)] [] := by
  obtain ⟨r, hx, hm, hR⟩ := hst (xs (i + 1)) μx μm hRel
  refine g_aload_n (pc := 260) (i := 1) (j := 2) C dL_law_260 rfl rfl ?_
  refine g_aload_n (pc := 261) (i := 0) (j := 3) C dL_law_261 rfl rfl ?_
  refine g_iload_n (pc := 262) (i := 3) (j := 0) C dL_law_262 rfl rfl ?_
  refine g_iconst (pc := 263) C dL_law_263 ci_1 ?_
  refine g_iadd (pc := 264) C dL_law_264 ?_
  refine l_ald (pc := 265) (j := i + 1) C E (by omega) (by omega) (nI_plus i 1) dL_law_265 ?_
  refine l_callX (pc := 266) (st := []) C E lkL_31 (As := [.int (xs (i + 1))]) rfl (kX7_about (kl κ) εx (xs (i + 1)) μx r hx) (by decide) rfl (Nat.le_of_ble_eq_true rfl) dL_law_266 ?_
  show G κ (Vl (kS κ) εx εm μx μm A) 4 269 [(3, .int (nI i)), (2, .ref (ea εm 0)), (1, .ref (ea εx 0)), (0, .ref b)] [.int r]
  refine g_aload_n (pc := 269) (i := 2) (j := 1) C dL_law_269 rfl rfl ?_
  refine g_aload_n (pc := 270) (i := 0) (j := 3) C dL_law_270 rfl rfl ?_
  refine g_iload_n (pc := 271) (i := 3) (j := 0) C dL_law_271 rfl rfl ?_
  refine g_iconst (pc := 272) C dL_law_272 ci_1 ?_
  refine g_iadd (pc := 273) C dL_law_273 ?_
  refine l_ald (pc := 274) (j := i + 1) C E (by omega) (by omega) (nI_plus i 1) dL_law_274 ?_
  refine l_callM (pc := 275) (st := [.int r]) C E lkL_34 (As := [.int (xs (i + 1))]) rfl (kX8_about (kl κ) εm (xs (i + 1)) μm r hm) (by decide) rfl (Nat.le_of_ble_eq_true rfl) dL_law_275 ?_
  show G κ (Vl (kS κ) εx εm μx μm A) 4 278 [(3, .int (nI i)), (2, .ref (ea εm 0)), (1, .ref (ea εx 0)), (0, .ref b)] [.int r, .int r]
  exact l_eqi (pc := 278) (tgt := 1285) C rfl dL_law_278 rfl (next μx μm hR)
set_option maxRecDepth 100000 in
set_option maxHeartbeats 4000000 in
theorem lw_c5 {Rel : Mm → Mm → Prop} (hst : St_make Rel) {κ : Kx} {εx εm : Ev} {A : Nat → Prop} {b L i : Nat} {xs : Nat → Int32} (C : Cf κ code 4 RL (some .boolean) 40) (E : Lc κ εx εm A b L xs) (hL : L ≤ 2048) (hi : i + 4 ≤ L) {μx μm : Mm} (hRel : Rel μx μm) (next : ∀ μx' μm', Rel μx' μm' → G κ (Vl (kS κ) εx εm μx' μm' A) 4 1285 [(3, .int (nI i)), (2, .ref (ea εm 0)), (1, .ref (ea εx 0)), (0, .ref b)] []) : G κ (Vl (kS κ) εx εm μx μm A) 4 283 [(3, .int (nI i)), (2, .ref (ea εm 0)), (1, .ref (ea εx 0)), (0, .ref b)] [] := by
  obtain ⟨r, μx', μm', hx, hm, hR⟩ := hst (xs (i + 1)) (xs (i + 2)) (xs (i + 3)) μx μm hRel
  refine g_aload_n (pc := 283) (i := 1) (j := 2) C dL_law_283 rfl rfl ?_
  refine g_aload_n (pc := 284) (i := 0) (j := 3) C dL_law_284 rfl rfl ?_
  refine g_iload_n (pc := 285) (i := 3) (j := 0) C dL_law_285 rfl rfl ?_
  refine g_iconst (pc := 286) C dL_law_286 ci_1 ?_
  refine g_iadd (pc := 287) C dL_law_287 ?_
  refine l_ald (pc := 288) (j := i + 1) C E (by omega) (by omega) (nI_plus i 1) dL_law_288 ?_
  refine g_aload_n (pc := 289) (i := 0) (j := 3) C dL_law_289 rfl rfl ?_
  refine g_iload_n (pc := 290) (i := 3) (j := 0) C dL_law_290 rfl rfl ?_
  refine g_iconst (pc := 291) C dL_law_291 ci_2 ?_
  refine g_iadd (pc := 292) C dL_law_292 ?_
  refine l_ald (pc := 293) (j := i + 2) C E (by omega) (by omega) (nI_plus i 2) dL_law_293 ?_
  refine g_aload_n (pc := 294) (i := 0) (j := 3) C dL_law_294 rfl rfl ?_
  refine g_iload_n (pc := 295) (i := 3) (j := 0) C dL_law_295 rfl rfl ?_
  refine g_iconst (pc := 296) C dL_law_296 ci_3 ?_
  refine g_iadd (pc := 297) C dL_law_297 ?_
  refine l_ald (pc := 298) (j := i + 3) C E (by omega) (by omega) (nI_plus i 3) dL_law_298 ?_
  refine l_callX (pc := 299) (st := []) C E lkL_35 (As := [.int (xs (i + 1)), .int (xs (i + 2)), .int (xs (i + 3))]) rfl (kX7_make (kl κ) εx (xs (i + 1)) (xs (i + 2)) (xs (i + 3)) μx (r, μx') hx) (by decide) rfl (Nat.le_of_ble_eq_true rfl) dL_law_299 ?_
  show G κ (Vl (kS κ) εx εm μx' μm A) 4 302 [(3, .int (nI i)), (2, .ref (ea εm 0)), (1, .ref (ea εx 0)), (0, .ref b)] [.int r]
  refine g_aload_n (pc := 302) (i := 2) (j := 1) C dL_law_302 rfl rfl ?_
  refine g_aload_n (pc := 303) (i := 0) (j := 3) C dL_law_303 rfl rfl ?_
  refine g_iload_n (pc := 304) (i := 3) (j := 0) C dL_law_304 rfl rfl ?_
  refine g_iconst (pc := 305) C dL_law_305 ci_1 ?_
  refine g_iadd (pc := 306) C dL_law_306 ?_
  refine l_ald (pc := 307) (j := i + 1) C E (by omega) (by omega) (nI_plus i 1) dL_law_307 ?_
  refine g_aload_n (pc := 308) (i := 0) (j := 3) C dL_law_308 rfl rfl ?_
  refine g_iload_n (pc := 309) (i := 3) (j := 0) C dL_law_309 rfl rfl ?_
  refine g_iconst (pc := 310) C dL_law_310 ci_2 ?_
  refine g_iadd (pc := 311) C dL_law_311 ?_
  refine l_ald (pc := 312) (j := i + 2) C E (by omega) (by omega) (nI_plus i 2) dL_law_312 ?_
  refine g_aload_n (pc := 313) (i := 0) (j := 3) C dL_law_313 rfl rfl ?_
  refine g_iload_n (pc := 314) (i := 3) (j := 0) C dL_law_314 rfl rfl ?_
  refine g_iconst (pc := 315) C dL_law_315 ci_3 ?_
  refine g_iadd (pc := 316) C dL_law_316 ?_
  refine l_ald (pc := 317) (j := i + 3) C E (by omega) (by omega) (nI_plus i 3) dL_law_317 ?_
  refine l_callM (pc := 318) (st := [.int r]) C E lkL_39 (As := [.int (xs (i + 1)), .int (xs (i + 2)), .int (xs (i + 3))]) rfl (kX8_make (kl κ) εm (xs (i + 1)) (xs (i + 2)) (xs (i + 3)) μm (r, μm') hm) (by decide) rfl (Nat.le_of_ble_eq_true rfl) dL_law_318 ?_
  show G κ (Vl (kS κ) εx εm μx' μm' A) 4 321 [(3, .int (nI i)), (2, .ref (ea εm 0)), (1, .ref (ea εx 0)), (0, .ref b)] [.int r, .int r]
  exact l_eqi (pc := 321) (tgt := 1285) C rfl dL_law_321 rfl (next μx' μm' hR)
set_option maxRecDepth 100000 in
set_option maxHeartbeats 4000000 in
theorem lw_c6 {Rel : Mm → Mm → Prop} (hst : St_share Rel) {κ : Kx} {εx εm : Ev} {A : Nat → Prop} {b L i : Nat} {xs : Nat → Int32} (C : Cf κ code 4 RL (some .boolean) 40) (E : Lc κ εx εm A b L xs) (hL : L ≤ 2048) (hi : i + 4 ≤ L) {μx μm : Mm} (hRel : Rel μx μm) (next : ∀ μx' μm', Rel μx' μm' → G κ (Vl (kS κ) εx εm μx' μm' A) 4 1285 [(3, .int (nI i)), (2, .ref (ea εm 0)), (1, .ref (ea εx 0)), (0, .ref b)] []) : G κ (Vl (kS κ) εx εm μx μm A) 4 326 [(3, .int (nI i)), (2, .ref (ea εm 0)), (1, .ref (ea εx 0)), (0, .ref b)] [] := by
  obtain ⟨r, μx', μm', hx, hm, hR⟩ := hst (xs (i + 1)) (xs (i + 2)) μx μm hRel
  refine g_aload_n (pc := 326) (i := 1) (j := 2) C dL_law_326 rfl rfl ?_
  refine g_aload_n (pc := 327) (i := 0) (j := 3) C dL_law_327 rfl rfl ?_
  refine g_iload_n (pc := 328) (i := 3) (j := 0) C dL_law_328 rfl rfl ?_
  refine g_iconst (pc := 329) C dL_law_329 ci_1 ?_
  refine g_iadd (pc := 330) C dL_law_330 ?_
  refine l_ald (pc := 331) (j := i + 1) C E (by omega) (by omega) (nI_plus i 1) dL_law_331 ?_
  refine g_aload_n (pc := 332) (i := 0) (j := 3) C dL_law_332 rfl rfl ?_
  refine g_iload_n (pc := 333) (i := 3) (j := 0) C dL_law_333 rfl rfl ?_
  refine g_iconst (pc := 334) C dL_law_334 ci_2 ?_
  refine g_iadd (pc := 335) C dL_law_335 ?_
  refine l_ald (pc := 336) (j := i + 2) C E (by omega) (by omega) (nI_plus i 2) dL_law_336 ?_
  refine l_callX (pc := 337) (st := []) C E lkL_40 (As := [.int (xs (i + 1)), .int (xs (i + 2))]) rfl (kX7_share (kl κ) εx (xs (i + 1)) (xs (i + 2)) μx (r, μx') hx) (by decide) rfl (Nat.le_of_ble_eq_true rfl) dL_law_337 ?_
  show G κ (Vl (kS κ) εx εm μx' μm A) 4 340 [(3, .int (nI i)), (2, .ref (ea εm 0)), (1, .ref (ea εx 0)), (0, .ref b)] [.int r]
  refine g_aload_n (pc := 340) (i := 2) (j := 1) C dL_law_340 rfl rfl ?_
  refine g_aload_n (pc := 341) (i := 0) (j := 3) C dL_law_341 rfl rfl ?_
  refine g_iload_n (pc := 342) (i := 3) (j := 0) C dL_law_342 rfl rfl ?_
  refine g_iconst (pc := 343) C dL_law_343 ci_1 ?_
  refine g_iadd (pc := 344) C dL_law_344 ?_
  refine l_ald (pc := 345) (j := i + 1) C E (by omega) (by omega) (nI_plus i 1) dL_law_345 ?_
  refine g_aload_n (pc := 346) (i := 0) (j := 3) C dL_law_346 rfl rfl ?_
  refine g_iload_n (pc := 347) (i := 3) (j := 0) C dL_law_347 rfl rfl ?_
  refine g_iconst (pc := 348) C dL_law_348 ci_2 ?_
  refine g_iadd (pc := 349) C dL_law_349 ?_
  refine l_ald (pc := 350) (j := i + 2) C E (by omega) (by omega) (nI_plus i 2) dL_law_350 ?_
  refine l_callM (pc := 351) (st := [.int r]) C E lkL_44 (As := [.int (xs (i + 1)), .int (xs (i + 2))]) rfl (kX8_share (kl κ) εm (xs (i + 1)) (xs (i + 2)) μm (r, μm') hm) (by decide) rfl (Nat.le_of_ble_eq_true rfl) dL_law_351 ?_
  show G κ (Vl (kS κ) εx εm μx' μm' A) 4 354 [(3, .int (nI i)), (2, .ref (ea εm 0)), (1, .ref (ea εx 0)), (0, .ref b)] [.int r, .int r]
  exact l_eqi (pc := 354) (tgt := 1285) C rfl dL_law_354 rfl (next μx' μm' hR)
set_option maxRecDepth 100000 in
set_option maxHeartbeats 4000000 in
theorem lw_c7 {Rel : Mm → Mm → Prop} (hst : St_thing Rel) {κ : Kx} {εx εm : Ev} {A : Nat → Prop} {b L i : Nat} {xs : Nat → Int32} (C : Cf κ code 4 RL (some .boolean) 40) (E : Lc κ εx εm A b L xs) (hL : L ≤ 2048) (hi : i + 4 ≤ L) {μx μm : Mm} (hRel : Rel μx μm) (next : ∀ μx' μm', Rel μx' μm' → G κ (Vl (kS κ) εx εm μx' μm' A) 4 1285 [(3, .int (nI i)), (2, .ref (ea εm 0)), (1, .ref (ea εx 0)), (0, .ref b)] []) : G κ (Vl (kS κ) εx εm μx μm A) 4 359 [(3, .int (nI i)), (2, .ref (ea εm 0)), (1, .ref (ea εx 0)), (0, .ref b)] [] := by
  obtain ⟨r, hx, hm, hR⟩ := hst (xs (i + 1)) (xs (i + 2)) μx μm hRel
  refine g_aload_n (pc := 359) (i := 1) (j := 2) C dL_law_359 rfl rfl ?_
  refine g_aload_n (pc := 360) (i := 0) (j := 3) C dL_law_360 rfl rfl ?_
  refine g_iload_n (pc := 361) (i := 3) (j := 0) C dL_law_361 rfl rfl ?_
  refine g_iconst (pc := 362) C dL_law_362 ci_1 ?_
  refine g_iadd (pc := 363) C dL_law_363 ?_
  refine l_ald (pc := 364) (j := i + 1) C E (by omega) (by omega) (nI_plus i 1) dL_law_364 ?_
  refine g_aload_n (pc := 365) (i := 0) (j := 3) C dL_law_365 rfl rfl ?_
  refine g_iload_n (pc := 366) (i := 3) (j := 0) C dL_law_366 rfl rfl ?_
  refine g_iconst (pc := 367) C dL_law_367 ci_2 ?_
  refine g_iadd (pc := 368) C dL_law_368 ?_
  refine l_ald (pc := 369) (j := i + 2) C E (by omega) (by omega) (nI_plus i 2) dL_law_369 ?_
  refine l_callX (pc := 370) (st := []) C E lkL_45 (As := [.int (xs (i + 1)), .int (xs (i + 2))]) rfl (kX7_thing (kl κ) εx (xs (i + 1)) (xs (i + 2)) μx r hx) (by decide) rfl (Nat.le_of_ble_eq_true rfl) dL_law_370 ?_
  show G κ (Vl (kS κ) εx εm μx μm A) 4 373 [(3, .int (nI i)), (2, .ref (ea εm 0)), (1, .ref (ea εx 0)), (0, .ref b)] [.int r]
  refine g_aload_n (pc := 373) (i := 2) (j := 1) C dL_law_373 rfl rfl ?_
  refine g_aload_n (pc := 374) (i := 0) (j := 3) C dL_law_374 rfl rfl ?_
  refine g_iload_n (pc := 375) (i := 3) (j := 0) C dL_law_375 rfl rfl ?_
  refine g_iconst (pc := 376) C dL_law_376 ci_1 ?_
  refine g_iadd (pc := 377) C dL_law_377 ?_
  refine l_ald (pc := 378) (j := i + 1) C E (by omega) (by omega) (nI_plus i 1) dL_law_378 ?_
  refine g_aload_n (pc := 379) (i := 0) (j := 3) C dL_law_379 rfl rfl ?_
  refine g_iload_n (pc := 380) (i := 3) (j := 0) C dL_law_380 rfl rfl ?_
  refine g_iconst (pc := 381) C dL_law_381 ci_2 ?_
  refine g_iadd (pc := 382) C dL_law_382 ?_
  refine l_ald (pc := 383) (j := i + 2) C E (by omega) (by omega) (nI_plus i 2) dL_law_383 ?_
  refine l_callM (pc := 384) (st := [.int r]) C E lkL_48 (As := [.int (xs (i + 1)), .int (xs (i + 2))]) rfl (kX8_thing (kl κ) εm (xs (i + 1)) (xs (i + 2)) μm r hm) (by decide) rfl (Nat.le_of_ble_eq_true rfl) dL_law_384 ?_
  show G κ (Vl (kS κ) εx εm μx μm A) 4 387 [(3, .int (nI i)), (2, .ref (ea εm 0)), (1, .ref (ea εx 0)), (0, .ref b)] [.int r, .int r]
  exact l_eqi (pc := 387) (tgt := 1285) C rfl dL_law_387 rfl (next μx μm hR)
set_option maxRecDepth 100000 in
set_option maxHeartbeats 4000000 in
theorem lw_c8 {Rel : Mm → Mm → Prop} (hst : St_same Rel) {κ : Kx} {εx εm : Ev} {A : Nat → Prop} {b L i : Nat} {xs : Nat → Int32} (C : Cf κ code 4 RL (some .boolean) 40) (E : Lc κ εx εm A b L xs) (hL : L ≤ 2048) (hi : i + 4 ≤ L) {μx μm : Mm} (hRel : Rel μx μm) (next : ∀ μx' μm', Rel μx' μm' → G κ (Vl (kS κ) εx εm μx' μm' A) 4 1285 [(3, .int (nI i)), (2, .ref (ea εm 0)), (1, .ref (ea εx 0)), (0, .ref b)] []) : G κ (Vl (kS κ) εx εm μx μm A) 4 392 [(3, .int (nI i)), (2, .ref (ea εm 0)), (1, .ref (ea εx 0)), (0, .ref b)] [] := by
  obtain ⟨r, hx, hm, hR⟩ := hst (xs (i + 1)) (xs (i + 2)) μx μm hRel
  refine g_aload_n (pc := 392) (i := 1) (j := 2) C dL_law_392 rfl rfl ?_
  refine g_aload_n (pc := 393) (i := 0) (j := 3) C dL_law_393 rfl rfl ?_
  refine g_iload_n (pc := 394) (i := 3) (j := 0) C dL_law_394 rfl rfl ?_
  refine g_iconst (pc := 395) C dL_law_395 ci_1 ?_
  refine g_iadd (pc := 396) C dL_law_396 ?_
  refine l_ald (pc := 397) (j := i + 1) C E (by omega) (by omega) (nI_plus i 1) dL_law_397 ?_
  refine g_aload_n (pc := 398) (i := 0) (j := 3) C dL_law_398 rfl rfl ?_
  refine g_iload_n (pc := 399) (i := 3) (j := 0) C dL_law_399 rfl rfl ?_
  refine g_iconst (pc := 400) C dL_law_400 ci_2 ?_
  refine g_iadd (pc := 401) C dL_law_401 ?_
  refine l_ald (pc := 402) (j := i + 2) C E (by omega) (by omega) (nI_plus i 2) dL_law_402 ?_
  refine l_callX (pc := 403) (st := []) C E lkL_49 (As := [.int (xs (i + 1)), .int (xs (i + 2))]) rfl (kX7_same (kl κ) εx (xs (i + 1)) (xs (i + 2)) μx r hx) (by decide) rfl (Nat.le_of_ble_eq_true rfl) dL_law_403 ?_
  show G κ (Vl (kS κ) εx εm μx μm A) 4 406 [(3, .int (nI i)), (2, .ref (ea εm 0)), (1, .ref (ea εx 0)), (0, .ref b)] [.int r]
  refine g_aload_n (pc := 406) (i := 2) (j := 1) C dL_law_406 rfl rfl ?_
  refine g_aload_n (pc := 407) (i := 0) (j := 3) C dL_law_407 rfl rfl ?_
  refine g_iload_n (pc := 408) (i := 3) (j := 0) C dL_law_408 rfl rfl ?_
  refine g_iconst (pc := 409) C dL_law_409 ci_1 ?_
  refine g_iadd (pc := 410) C dL_law_410 ?_
  refine l_ald (pc := 411) (j := i + 1) C E (by omega) (by omega) (nI_plus i 1) dL_law_411 ?_
  refine g_aload_n (pc := 412) (i := 0) (j := 3) C dL_law_412 rfl rfl ?_
  refine g_iload_n (pc := 413) (i := 3) (j := 0) C dL_law_413 rfl rfl ?_
  refine g_iconst (pc := 414) C dL_law_414 ci_2 ?_
  refine g_iadd (pc := 415) C dL_law_415 ?_
  refine l_ald (pc := 416) (j := i + 2) C E (by omega) (by omega) (nI_plus i 2) dL_law_416 ?_
  refine l_callM (pc := 417) (st := [.int r]) C E lkL_52 (As := [.int (xs (i + 1)), .int (xs (i + 2))]) rfl (kX8_same (kl κ) εm (xs (i + 1)) (xs (i + 2)) μm r hm) (by decide) rfl (Nat.le_of_ble_eq_true rfl) dL_law_417 ?_
  show G κ (Vl (kS κ) εx εm μx μm A) 4 420 [(3, .int (nI i)), (2, .ref (ea εm 0)), (1, .ref (ea εx 0)), (0, .ref b)] [.int r, .int r]
  exact l_eqi (pc := 420) (tgt := 1285) C rfl dL_law_420 rfl (next μx μm hR)
set_option maxRecDepth 100000 in
set_option maxHeartbeats 4000000 in
theorem lw_c9 {Rel : Mm → Mm → Prop} (hst : St_cell Rel) {κ : Kx} {εx εm : Ev} {A : Nat → Prop} {b L i : Nat} {xs : Nat → Int32} (C : Cf κ code 4 RL (some .boolean) 40) (E : Lc κ εx εm A b L xs) (hL : L ≤ 2048) (hi : i + 4 ≤ L) {μx μm : Mm} (hRel : Rel μx μm) (next : ∀ μx' μm', Rel μx' μm' → G κ (Vl (kS κ) εx εm μx' μm' A) 4 1285 [(3, .int (nI i)), (2, .ref (ea εm 0)), (1, .ref (ea εx 0)), (0, .ref b)] []) : G κ (Vl (kS κ) εx εm μx μm A) 4 425 [(3, .int (nI i)), (2, .ref (ea εm 0)), (1, .ref (ea εx 0)), (0, .ref b)] [] := by
  obtain ⟨r, μm', hx, hm, hR⟩ := hst (xs (i + 1)) (xs (i + 2)) (xs (i + 3)) μx μm hRel
  refine g_aload_n (pc := 425) (i := 1) (j := 2) C dL_law_425 rfl rfl ?_
  refine g_aload_n (pc := 426) (i := 0) (j := 3) C dL_law_426 rfl rfl ?_
  refine g_iload_n (pc := 427) (i := 3) (j := 0) C dL_law_427 rfl rfl ?_
  refine g_iconst (pc := 428) C dL_law_428 ci_1 ?_
  refine g_iadd (pc := 429) C dL_law_429 ?_
  refine l_ald (pc := 430) (j := i + 1) C E (by omega) (by omega) (nI_plus i 1) dL_law_430 ?_
  refine g_aload_n (pc := 431) (i := 0) (j := 3) C dL_law_431 rfl rfl ?_
  refine g_iload_n (pc := 432) (i := 3) (j := 0) C dL_law_432 rfl rfl ?_
  refine g_iconst (pc := 433) C dL_law_433 ci_2 ?_
  refine g_iadd (pc := 434) C dL_law_434 ?_
  refine l_ald (pc := 435) (j := i + 2) C E (by omega) (by omega) (nI_plus i 2) dL_law_435 ?_
  refine g_aload_n (pc := 436) (i := 0) (j := 3) C dL_law_436 rfl rfl ?_
  refine g_iload_n (pc := 437) (i := 3) (j := 0) C dL_law_437 rfl rfl ?_
  refine g_iconst (pc := 438) C dL_law_438 ci_3 ?_
  refine g_iadd (pc := 439) C dL_law_439 ?_
  refine l_ald (pc := 440) (j := i + 3) C E (by omega) (by omega) (nI_plus i 3) dL_law_440 ?_
  refine l_callX (pc := 441) (st := []) C E lkL_53 (As := [.int (xs (i + 1)), .int (xs (i + 2)), .int (xs (i + 3))]) rfl (kX7_cell (kl κ) εx (xs (i + 1)) (xs (i + 2)) (xs (i + 3)) μx r hx) (by decide) rfl (Nat.le_of_ble_eq_true rfl) dL_law_441 ?_
  show G κ (Vl (kS κ) εx εm μx μm A) 4 444 [(3, .int (nI i)), (2, .ref (ea εm 0)), (1, .ref (ea εx 0)), (0, .ref b)] [.long r]
  refine g_aload_n (pc := 444) (i := 2) (j := 1) C dL_law_444 rfl rfl ?_
  refine g_aload_n (pc := 445) (i := 0) (j := 3) C dL_law_445 rfl rfl ?_
  refine g_iload_n (pc := 446) (i := 3) (j := 0) C dL_law_446 rfl rfl ?_
  refine g_iconst (pc := 447) C dL_law_447 ci_1 ?_
  refine g_iadd (pc := 448) C dL_law_448 ?_
  refine l_ald (pc := 449) (j := i + 1) C E (by omega) (by omega) (nI_plus i 1) dL_law_449 ?_
  refine g_aload_n (pc := 450) (i := 0) (j := 3) C dL_law_450 rfl rfl ?_
  refine g_iload_n (pc := 451) (i := 3) (j := 0) C dL_law_451 rfl rfl ?_
  refine g_iconst (pc := 452) C dL_law_452 ci_2 ?_
  refine g_iadd (pc := 453) C dL_law_453 ?_
  refine l_ald (pc := 454) (j := i + 2) C E (by omega) (by omega) (nI_plus i 2) dL_law_454 ?_
  refine g_aload_n (pc := 455) (i := 0) (j := 3) C dL_law_455 rfl rfl ?_
  refine g_iload_n (pc := 456) (i := 3) (j := 0) C dL_law_456 rfl rfl ?_
  refine g_iconst (pc := 457) C dL_law_457 ci_3 ?_
  refine g_iadd (pc := 458) C dL_law_458 ?_
  refine l_ald (pc := 459) (j := i + 3) C E (by omega) (by omega) (nI_plus i 3) dL_law_459 ?_
  refine l_callM (pc := 460) (st := [.long r]) C E lkL_57 (As := [.int (xs (i + 1)), .int (xs (i + 2)), .int (xs (i + 3))]) rfl (kX8_cell (kl κ) εm (xs (i + 1)) (xs (i + 2)) (xs (i + 3)) μm (r, μm') hm) (by decide) rfl (Nat.le_of_ble_eq_true rfl) dL_law_460 ?_
  show G κ (Vl (kS κ) εx εm μx μm' A) 4 463 [(3, .int (nI i)), (2, .ref (ea εm 0)), (1, .ref (ea εx 0)), (0, .ref b)] [.long r, .long r]
  exact l_eql (pc := 463) (tgt := 1285) C rfl dL_law_463 dL_law_464 rfl (next μx μm' hR)
set_option maxRecDepth 100000 in
set_option maxHeartbeats 4000000 in
theorem lw_c10 {Rel : Mm → Mm → Prop} (hst : St_give Rel) {κ : Kx} {εx εm : Ev} {A : Nat → Prop} {b L i : Nat} {xs : Nat → Int32} (C : Cf κ code 4 RL (some .boolean) 40) (E : Lc κ εx εm A b L xs) (hL : L ≤ 2048) (hi : i + 4 ≤ L) {μx μm : Mm} (hRel : Rel μx μm) (next : ∀ μx' μm', Rel μx' μm' → G κ (Vl (kS κ) εx εm μx' μm' A) 4 1285 [(3, .int (nI i)), (2, .ref (ea εm 0)), (1, .ref (ea εx 0)), (0, .ref b)] []) : G κ (Vl (kS κ) εx εm μx μm A) 4 469 [(3, .int (nI i)), (2, .ref (ea εm 0)), (1, .ref (ea εx 0)), (0, .ref b)] [] := by
  obtain ⟨r, μx', μm', hx, hm, hR⟩ := hst (xs (i + 1)) ((jlshl (Int32.toInt64 (xs (i + 2))) (32 : Int32)) ||| ((Int32.toInt64 (xs (i + 3))) &&& (4294967295 : Int64))) μx μm hRel
  refine g_aload_n (pc := 469) (i := 1) (j := 2) C dL_law_469 rfl rfl ?_
  refine g_aload_n (pc := 470) (i := 0) (j := 3) C dL_law_470 rfl rfl ?_
  refine g_iload_n (pc := 471) (i := 3) (j := 0) C dL_law_471 rfl rfl ?_
  refine g_iconst (pc := 472) C dL_law_472 ci_1 ?_
  refine g_iadd (pc := 473) C dL_law_473 ?_
  refine l_ald (pc := 474) (j := i + 1) C E (by omega) (by omega) (nI_plus i 1) dL_law_474 ?_
  refine g_aload_n (pc := 475) (i := 0) (j := 3) C dL_law_475 rfl rfl ?_
  refine g_iload_n (pc := 476) (i := 3) (j := 0) C dL_law_476 rfl rfl ?_
  refine g_iconst (pc := 477) C dL_law_477 ci_2 ?_
  refine g_iadd (pc := 478) C dL_law_478 ?_
  refine l_ald (pc := 479) (j := i + 2) C E (by omega) (by omega) (nI_plus i 2) dL_law_479 ?_
  refine g_i2l (pc := 480) C dL_law_480 ?_
  refine g_bipush (pc := 481) C dL_law_481 cb_32 ?_
  refine g_lshl (pc := 483) C dL_law_483 ?_
  refine g_aload_n (pc := 484) (i := 0) (j := 3) C dL_law_484 rfl rfl ?_
  refine g_iload_n (pc := 485) (i := 3) (j := 0) C dL_law_485 rfl rfl ?_
  refine g_iconst (pc := 486) C dL_law_486 ci_3 ?_
  refine g_iadd (pc := 487) C dL_law_487 ?_
  refine l_ald (pc := 488) (j := i + 3) C E (by omega) (by omega) (nI_plus i 3) dL_law_488 ?_
  refine g_i2l (pc := 489) C dL_law_489 ?_
  refine g_ldc2 (pc := 490) C cnL_58 dL_law_490 ?_
  refine g_land (pc := 493) C dL_law_493 ?_
  refine g_lor (pc := 494) C dL_law_494 ?_
  refine l_callX (pc := 495) (st := []) C E lkL_60 (As := [.int (xs (i + 1)), .long ((jlshl (Int32.toInt64 (xs (i + 2))) (32 : Int32)) ||| ((Int32.toInt64 (xs (i + 3))) &&& (4294967295 : Int64)))]) rfl (kX7_give (kl κ) εx (xs (i + 1)) ((jlshl (Int32.toInt64 (xs (i + 2))) (32 : Int32)) ||| ((Int32.toInt64 (xs (i + 3))) &&& (4294967295 : Int64))) μx (r, μx') hx) (by decide) rfl (Nat.le_of_ble_eq_true rfl) dL_law_495 ?_
  show G κ (Vl (kS κ) εx εm μx' μm A) 4 498 [(3, .int (nI i)), (2, .ref (ea εm 0)), (1, .ref (ea εx 0)), (0, .ref b)] [.int r]
  refine g_aload_n (pc := 498) (i := 2) (j := 1) C dL_law_498 rfl rfl ?_
  refine g_aload_n (pc := 499) (i := 0) (j := 3) C dL_law_499 rfl rfl ?_
  refine g_iload_n (pc := 500) (i := 3) (j := 0) C dL_law_500 rfl rfl ?_
  refine g_iconst (pc := 501) C dL_law_501 ci_1 ?_
  refine g_iadd (pc := 502) C dL_law_502 ?_
  refine l_ald (pc := 503) (j := i + 1) C E (by omega) (by omega) (nI_plus i 1) dL_law_503 ?_
  refine g_aload_n (pc := 504) (i := 0) (j := 3) C dL_law_504 rfl rfl ?_
  refine g_iload_n (pc := 505) (i := 3) (j := 0) C dL_law_505 rfl rfl ?_
  refine g_iconst (pc := 506) C dL_law_506 ci_2 ?_
  refine g_iadd (pc := 507) C dL_law_507 ?_
  refine l_ald (pc := 508) (j := i + 2) C E (by omega) (by omega) (nI_plus i 2) dL_law_508 ?_
  refine g_i2l (pc := 509) C dL_law_509 ?_
  refine g_bipush (pc := 510) C dL_law_510 cb_32 ?_
  refine g_lshl (pc := 512) C dL_law_512 ?_
  refine g_aload_n (pc := 513) (i := 0) (j := 3) C dL_law_513 rfl rfl ?_
  refine g_iload_n (pc := 514) (i := 3) (j := 0) C dL_law_514 rfl rfl ?_
  refine g_iconst (pc := 515) C dL_law_515 ci_3 ?_
  refine g_iadd (pc := 516) C dL_law_516 ?_
  refine l_ald (pc := 517) (j := i + 3) C E (by omega) (by omega) (nI_plus i 3) dL_law_517 ?_
  refine g_i2l (pc := 518) C dL_law_518 ?_
  refine g_ldc2 (pc := 519) C cnL_58 dL_law_519 ?_
  refine g_land (pc := 522) C dL_law_522 ?_
  refine g_lor (pc := 523) C dL_law_523 ?_
  refine l_callM (pc := 524) (st := [.int r]) C E lkL_64 (As := [.int (xs (i + 1)), .long ((jlshl (Int32.toInt64 (xs (i + 2))) (32 : Int32)) ||| ((Int32.toInt64 (xs (i + 3))) &&& (4294967295 : Int64)))]) rfl (kX8_give (kl κ) εm (xs (i + 1)) ((jlshl (Int32.toInt64 (xs (i + 2))) (32 : Int32)) ||| ((Int32.toInt64 (xs (i + 3))) &&& (4294967295 : Int64))) μm (r, μm') hm) (by decide) rfl (Nat.le_of_ble_eq_true rfl) dL_law_524 ?_
  show G κ (Vl (kS κ) εx εm μx' μm' A) 4 527 [(3, .int (nI i)), (2, .ref (ea εm 0)), (1, .ref (ea εx 0)), (0, .ref b)] [.int r, .int r]
  exact l_eqi (pc := 527) (tgt := 1285) C rfl dL_law_527 rfl (next μx' μm' hR)
set_option maxRecDepth 100000 in
set_option maxHeartbeats 4000000 in
theorem lw_c11 {Rel : Mm → Mm → Prop} (hst : St_mark Rel) {κ : Kx} {εx εm : Ev} {A : Nat → Prop} {b L i : Nat} {xs : Nat → Int32} (C : Cf κ code 4 RL (some .boolean) 40) (E : Lc κ εx εm A b L xs) (hL : L ≤ 2048) (hi : i + 4 ≤ L) {μx μm : Mm} (hRel : Rel μx μm) (next : ∀ μx' μm', Rel μx' μm' → G κ (Vl (kS κ) εx εm μx' μm' A) 4 1285 [(3, .int (nI i)), (2, .ref (ea εm 0)), (1, .ref (ea εx 0)), (0, .ref b)] []) : G κ (Vl (kS κ) εx εm μx μm A) 4 532 [(3, .int (nI i)), (2, .ref (ea εm 0)), (1, .ref (ea εx 0)), (0, .ref b)] [] := by
  obtain ⟨r, μx', μm', hx, hm, hR⟩ := hst (xs (i + 1)) (xs (i + 2)) μx μm hRel
  refine g_aload_n (pc := 532) (i := 1) (j := 2) C dL_law_532 rfl rfl ?_
  refine g_aload_n (pc := 533) (i := 0) (j := 3) C dL_law_533 rfl rfl ?_
  refine g_iload_n (pc := 534) (i := 3) (j := 0) C dL_law_534 rfl rfl ?_
  refine g_iconst (pc := 535) C dL_law_535 ci_1 ?_
  refine g_iadd (pc := 536) C dL_law_536 ?_
  refine l_ald (pc := 537) (j := i + 1) C E (by omega) (by omega) (nI_plus i 1) dL_law_537 ?_
  refine g_aload_n (pc := 538) (i := 0) (j := 3) C dL_law_538 rfl rfl ?_
  refine g_iload_n (pc := 539) (i := 3) (j := 0) C dL_law_539 rfl rfl ?_
  refine g_iconst (pc := 540) C dL_law_540 ci_2 ?_
  refine g_iadd (pc := 541) C dL_law_541 ?_
  refine l_ald (pc := 542) (j := i + 2) C E (by omega) (by omega) (nI_plus i 2) dL_law_542 ?_
  refine l_callX (pc := 543) (st := []) C E lkL_65 (As := [.int (xs (i + 1)), .int (xs (i + 2))]) rfl (kX7_mark (kl κ) εx (xs (i + 1)) (xs (i + 2)) μx (r, μx') hx) (by decide) rfl (Nat.le_of_ble_eq_true rfl) dL_law_543 ?_
  show G κ (Vl (kS κ) εx εm μx' μm A) 4 546 [(3, .int (nI i)), (2, .ref (ea εm 0)), (1, .ref (ea εx 0)), (0, .ref b)] [.int r]
  refine g_aload_n (pc := 546) (i := 2) (j := 1) C dL_law_546 rfl rfl ?_
  refine g_aload_n (pc := 547) (i := 0) (j := 3) C dL_law_547 rfl rfl ?_
  refine g_iload_n (pc := 548) (i := 3) (j := 0) C dL_law_548 rfl rfl ?_
  refine g_iconst (pc := 549) C dL_law_549 ci_1 ?_
  refine g_iadd (pc := 550) C dL_law_550 ?_
  refine l_ald (pc := 551) (j := i + 1) C E (by omega) (by omega) (nI_plus i 1) dL_law_551 ?_
  refine g_aload_n (pc := 552) (i := 0) (j := 3) C dL_law_552 rfl rfl ?_
  refine g_iload_n (pc := 553) (i := 3) (j := 0) C dL_law_553 rfl rfl ?_
  refine g_iconst (pc := 554) C dL_law_554 ci_2 ?_
  refine g_iadd (pc := 555) C dL_law_555 ?_
  refine l_ald (pc := 556) (j := i + 2) C E (by omega) (by omega) (nI_plus i 2) dL_law_556 ?_
  refine l_callM (pc := 557) (st := [.int r]) C E lkL_68 (As := [.int (xs (i + 1)), .int (xs (i + 2))]) rfl (kX8_mark (kl κ) εm (xs (i + 1)) (xs (i + 2)) μm (r, μm') hm) (by decide) rfl (Nat.le_of_ble_eq_true rfl) dL_law_557 ?_
  show G κ (Vl (kS κ) εx εm μx' μm' A) 4 560 [(3, .int (nI i)), (2, .ref (ea εm 0)), (1, .ref (ea εx 0)), (0, .ref b)] [.int r, .int r]
  exact l_eqi (pc := 560) (tgt := 1285) C rfl dL_law_560 rfl (next μx' μm' hR)
set_option maxRecDepth 100000 in
set_option maxHeartbeats 4000000 in
theorem lw_c12 {Rel : Mm → Mm → Prop} (hst : St_text Rel) {κ : Kx} {εx εm : Ev} {A : Nat → Prop} {b L i : Nat} {xs : Nat → Int32} (C : Cf κ code 4 RL (some .boolean) 40) (E : Lc κ εx εm A b L xs) (hL : L ≤ 2048) (hi : i + 4 ≤ L) {μx μm : Mm} (hRel : Rel μx μm) (next : ∀ μx' μm', Rel μx' μm' → G κ (Vl (kS κ) εx εm μx' μm' A) 4 1285 [(3, .int (nI i)), (2, .ref (ea εm 0)), (1, .ref (ea εx 0)), (0, .ref b)] []) : G κ (Vl (kS κ) εx εm μx μm A) 4 565 [(3, .int (nI i)), (2, .ref (ea εm 0)), (1, .ref (ea εx 0)), (0, .ref b)] [] := by
  obtain ⟨r, μx', μm', hx, hm, hR⟩ := hst (xs (i + 1)) μx μm hRel
  refine g_aload_n (pc := 565) (i := 1) (j := 2) C dL_law_565 rfl rfl ?_
  refine g_aload_n (pc := 566) (i := 0) (j := 3) C dL_law_566 rfl rfl ?_
  refine g_iload_n (pc := 567) (i := 3) (j := 0) C dL_law_567 rfl rfl ?_
  refine g_iconst (pc := 568) C dL_law_568 ci_1 ?_
  refine g_iadd (pc := 569) C dL_law_569 ?_
  refine l_ald (pc := 570) (j := i + 1) C E (by omega) (by omega) (nI_plus i 1) dL_law_570 ?_
  refine l_callX (pc := 571) (st := []) C E lkL_69 (As := [.int (xs (i + 1))]) rfl (kX7_text (kl κ) εx (xs (i + 1)) μx (r, μx') hx) (by decide) rfl (Nat.le_of_ble_eq_true rfl) dL_law_571 ?_
  show G κ (Vl (kS κ) εx εm μx' μm A) 4 574 [(3, .int (nI i)), (2, .ref (ea εm 0)), (1, .ref (ea εx 0)), (0, .ref b)] [.int r]
  refine g_aload_n (pc := 574) (i := 2) (j := 1) C dL_law_574 rfl rfl ?_
  refine g_aload_n (pc := 575) (i := 0) (j := 3) C dL_law_575 rfl rfl ?_
  refine g_iload_n (pc := 576) (i := 3) (j := 0) C dL_law_576 rfl rfl ?_
  refine g_iconst (pc := 577) C dL_law_577 ci_1 ?_
  refine g_iadd (pc := 578) C dL_law_578 ?_
  refine l_ald (pc := 579) (j := i + 1) C E (by omega) (by omega) (nI_plus i 1) dL_law_579 ?_
  refine l_callM (pc := 580) (st := [.int r]) C E lkL_72 (As := [.int (xs (i + 1))]) rfl (kX8_text (kl κ) εm (xs (i + 1)) μm (r, μm') hm) (by decide) rfl (Nat.le_of_ble_eq_true rfl) dL_law_580 ?_
  show G κ (Vl (kS κ) εx εm μx' μm' A) 4 583 [(3, .int (nI i)), (2, .ref (ea εm 0)), (1, .ref (ea εx 0)), (0, .ref b)] [.int r, .int r]
  exact l_eqi (pc := 583) (tgt := 1285) C rfl dL_law_583 rfl (next μx' μm' hR)
set_option maxRecDepth 100000 in
set_option maxHeartbeats 4000000 in
theorem lw_c13 {Rel : Mm → Mm → Prop} (hst : St_turn Rel) {κ : Kx} {εx εm : Ev} {A : Nat → Prop} {b L i : Nat} {xs : Nat → Int32} (C : Cf κ code 4 RL (some .boolean) 40) (E : Lc κ εx εm A b L xs) (hL : L ≤ 2048) (hi : i + 4 ≤ L) {μx μm : Mm} (hRel : Rel μx μm) (next : ∀ μx' μm', Rel μx' μm' → G κ (Vl (kS κ) εx εm μx' μm' A) 4 1285 [(3, .int (nI i)), (2, .ref (ea εm 0)), (1, .ref (ea εx 0)), (0, .ref b)] []) : G κ (Vl (kS κ) εx εm μx μm A) 4 588 [(3, .int (nI i)), (2, .ref (ea εm 0)), (1, .ref (ea εx 0)), (0, .ref b)] [] := by
  obtain ⟨r, μx', μm', hx, hm, hR⟩ := hst  μx μm hRel
  refine g_aload_n (pc := 588) (i := 1) (j := 2) C dL_law_588 rfl rfl ?_
  refine l_callX (pc := 589) (st := []) C E lkL_73 (As := []) rfl (kX7_turn (kl κ) εx μx (r, μx') hx) (by decide) rfl (Nat.le_of_ble_eq_true rfl) dL_law_589 ?_
  show G κ (Vl (kS κ) εx εm μx' μm A) 4 592 [(3, .int (nI i)), (2, .ref (ea εm 0)), (1, .ref (ea εx 0)), (0, .ref b)] [.int r]
  refine g_aload_n (pc := 592) (i := 2) (j := 1) C dL_law_592 rfl rfl ?_
  refine l_callM (pc := 593) (st := [.int r]) C E lkL_76 (As := []) rfl (kX8_turn (kl κ) εm μm (r, μm') hm) (by decide) rfl (Nat.le_of_ble_eq_true rfl) dL_law_593 ?_
  show G κ (Vl (kS κ) εx εm μx' μm' A) 4 596 [(3, .int (nI i)), (2, .ref (ea εm 0)), (1, .ref (ea εx 0)), (0, .ref b)] [.int r, .int r]
  exact l_eqi (pc := 596) (tgt := 1285) C rfl dL_law_596 rfl (next μx' μm' hR)
set_option maxRecDepth 100000 in
set_option maxHeartbeats 4000000 in
theorem lw_c14 {Rel : Mm → Mm → Prop} (hst : St_hand Rel) {κ : Kx} {εx εm : Ev} {A : Nat → Prop} {b L i : Nat} {xs : Nat → Int32} (C : Cf κ code 4 RL (some .boolean) 40) (E : Lc κ εx εm A b L xs) (hL : L ≤ 2048) (hi : i + 4 ≤ L) {μx μm : Mm} (hRel : Rel μx μm) (next : ∀ μx' μm', Rel μx' μm' → G κ (Vl (kS κ) εx εm μx' μm' A) 4 1285 [(3, .int (nI i)), (2, .ref (ea εm 0)), (1, .ref (ea εx 0)), (0, .ref b)] []) : G κ (Vl (kS κ) εx εm μx μm A) 4 601 [(3, .int (nI i)), (2, .ref (ea εm 0)), (1, .ref (ea εx 0)), (0, .ref b)] [] := by
  obtain ⟨r, hx, hm, hR⟩ := hst (xs (i + 1)) μx μm hRel
  refine g_aload_n (pc := 601) (i := 1) (j := 2) C dL_law_601 rfl rfl ?_
  refine g_aload_n (pc := 602) (i := 0) (j := 3) C dL_law_602 rfl rfl ?_
  refine g_iload_n (pc := 603) (i := 3) (j := 0) C dL_law_603 rfl rfl ?_
  refine g_iconst (pc := 604) C dL_law_604 ci_1 ?_
  refine g_iadd (pc := 605) C dL_law_605 ?_
  refine l_ald (pc := 606) (j := i + 1) C E (by omega) (by omega) (nI_plus i 1) dL_law_606 ?_
  refine l_callX (pc := 607) (st := []) C E lkL_77 (As := [.int (xs (i + 1))]) rfl (kX7_hand (kl κ) εx (xs (i + 1)) μx r hx) (by decide) rfl (Nat.le_of_ble_eq_true rfl) dL_law_607 ?_
  show G κ (Vl (kS κ) εx εm μx μm A) 4 610 [(3, .int (nI i)), (2, .ref (ea εm 0)), (1, .ref (ea εx 0)), (0, .ref b)] [.long r]
  refine g_aload_n (pc := 610) (i := 2) (j := 1) C dL_law_610 rfl rfl ?_
  refine g_aload_n (pc := 611) (i := 0) (j := 3) C dL_law_611 rfl rfl ?_
  refine g_iload_n (pc := 612) (i := 3) (j := 0) C dL_law_612 rfl rfl ?_
  refine g_iconst (pc := 613) C dL_law_613 ci_1 ?_
  refine g_iadd (pc := 614) C dL_law_614 ?_
  refine l_ald (pc := 615) (j := i + 1) C E (by omega) (by omega) (nI_plus i 1) dL_law_615 ?_
  refine l_callM (pc := 616) (st := [.long r]) C E lkL_81 (As := [.int (xs (i + 1))]) rfl (kX8_hand (kl κ) εm (xs (i + 1)) μm r hm) (by decide) rfl (Nat.le_of_ble_eq_true rfl) dL_law_616 ?_
  show G κ (Vl (kS κ) εx εm μx μm A) 4 619 [(3, .int (nI i)), (2, .ref (ea εm 0)), (1, .ref (ea εx 0)), (0, .ref b)] [.long r, .long r]
  exact l_eql (pc := 619) (tgt := 1285) C rfl dL_law_619 dL_law_620 rfl (next μx μm hR)
set_option maxRecDepth 100000 in
set_option maxHeartbeats 4000000 in
theorem lw_c15 {Rel : Mm → Mm → Prop} (hst : St_grow Rel) {κ : Kx} {εx εm : Ev} {A : Nat → Prop} {b L i : Nat} {xs : Nat → Int32} (C : Cf κ code 4 RL (some .boolean) 40) (E : Lc κ εx εm A b L xs) (hL : L ≤ 2048) (hi : i + 4 ≤ L) {μx μm : Mm} (hRel : Rel μx μm) (next : ∀ μx' μm', Rel μx' μm' → G κ (Vl (kS κ) εx εm μx' μm' A) 4 1285 [(3, .int (nI i)), (2, .ref (ea εm 0)), (1, .ref (ea εx 0)), (0, .ref b)] []) : G κ (Vl (kS κ) εx εm μx μm A) 4 625 [(3, .int (nI i)), (2, .ref (ea εm 0)), (1, .ref (ea εx 0)), (0, .ref b)] [] := by
  obtain ⟨r, μx', μm', hx, hm, hR⟩ := hst (xs (i + 1)) μx μm hRel
  refine g_aload_n (pc := 625) (i := 1) (j := 2) C dL_law_625 rfl rfl ?_
  refine g_aload_n (pc := 626) (i := 0) (j := 3) C dL_law_626 rfl rfl ?_
  refine g_iload_n (pc := 627) (i := 3) (j := 0) C dL_law_627 rfl rfl ?_
  refine g_iconst (pc := 628) C dL_law_628 ci_1 ?_
  refine g_iadd (pc := 629) C dL_law_629 ?_
  refine l_ald (pc := 630) (j := i + 1) C E (by omega) (by omega) (nI_plus i 1) dL_law_630 ?_
  refine l_callX (pc := 631) (st := []) C E lkL_82 (As := [.int (xs (i + 1))]) rfl (kX7_grow (kl κ) εx (xs (i + 1)) μx (r, μx') hx) (by decide) rfl (Nat.le_of_ble_eq_true rfl) dL_law_631 ?_
  show G κ (Vl (kS κ) εx εm μx' μm A) 4 634 [(3, .int (nI i)), (2, .ref (ea εm 0)), (1, .ref (ea εx 0)), (0, .ref b)] [.int r]
  refine g_aload_n (pc := 634) (i := 2) (j := 1) C dL_law_634 rfl rfl ?_
  refine g_aload_n (pc := 635) (i := 0) (j := 3) C dL_law_635 rfl rfl ?_
  refine g_iload_n (pc := 636) (i := 3) (j := 0) C dL_law_636 rfl rfl ?_
  refine g_iconst (pc := 637) C dL_law_637 ci_1 ?_
  refine g_iadd (pc := 638) C dL_law_638 ?_
  refine l_ald (pc := 639) (j := i + 1) C E (by omega) (by omega) (nI_plus i 1) dL_law_639 ?_
  refine l_callM (pc := 640) (st := [.int r]) C E lkL_85 (As := [.int (xs (i + 1))]) rfl (kX8_grow (kl κ) εm (xs (i + 1)) μm (r, μm') hm) (by decide) rfl (Nat.le_of_ble_eq_true rfl) dL_law_640 ?_
  show G κ (Vl (kS κ) εx εm μx' μm' A) 4 643 [(3, .int (nI i)), (2, .ref (ea εm 0)), (1, .ref (ea εx 0)), (0, .ref b)] [.int r, .int r]
  exact l_eqi (pc := 643) (tgt := 1285) C rfl dL_law_643 rfl (next μx' μm' hR)
set_option maxRecDepth 100000 in
set_option maxHeartbeats 4000000 in
theorem lw_c16 {Rel : Mm → Mm → Prop} (hst : St_take Rel) {κ : Kx} {εx εm : Ev} {A : Nat → Prop} {b L i : Nat} {xs : Nat → Int32} (C : Cf κ code 4 RL (some .boolean) 40) (E : Lc κ εx εm A b L xs) (hL : L ≤ 2048) (hi : i + 4 ≤ L) {μx μm : Mm} (hRel : Rel μx μm) (next : ∀ μx' μm', Rel μx' μm' → G κ (Vl (kS κ) εx εm μx' μm' A) 4 1285 [(3, .int (nI i)), (2, .ref (ea εm 0)), (1, .ref (ea εx 0)), (0, .ref b)] []) : G κ (Vl (kS κ) εx εm μx μm A) 4 648 [(3, .int (nI i)), (2, .ref (ea εm 0)), (1, .ref (ea εx 0)), (0, .ref b)] [] := by
  obtain ⟨r, μx', μm', hx, hm, hR⟩ := hst (xs (i + 1)) (xs (i + 2)) (xs (i + 3)) μx μm hRel
  refine g_aload_n (pc := 648) (i := 1) (j := 2) C dL_law_648 rfl rfl ?_
  refine g_aload_n (pc := 649) (i := 0) (j := 3) C dL_law_649 rfl rfl ?_
  refine g_iload_n (pc := 650) (i := 3) (j := 0) C dL_law_650 rfl rfl ?_
  refine g_iconst (pc := 651) C dL_law_651 ci_1 ?_
  refine g_iadd (pc := 652) C dL_law_652 ?_
  refine l_ald (pc := 653) (j := i + 1) C E (by omega) (by omega) (nI_plus i 1) dL_law_653 ?_
  refine g_aload_n (pc := 654) (i := 0) (j := 3) C dL_law_654 rfl rfl ?_
  refine g_iload_n (pc := 655) (i := 3) (j := 0) C dL_law_655 rfl rfl ?_
  refine g_iconst (pc := 656) C dL_law_656 ci_2 ?_
  refine g_iadd (pc := 657) C dL_law_657 ?_
  refine l_ald (pc := 658) (j := i + 2) C E (by omega) (by omega) (nI_plus i 2) dL_law_658 ?_
  refine g_aload_n (pc := 659) (i := 0) (j := 3) C dL_law_659 rfl rfl ?_
  refine g_iload_n (pc := 660) (i := 3) (j := 0) C dL_law_660 rfl rfl ?_
  refine g_iconst (pc := 661) C dL_law_661 ci_3 ?_
  refine g_iadd (pc := 662) C dL_law_662 ?_
  refine l_ald (pc := 663) (j := i + 3) C E (by omega) (by omega) (nI_plus i 3) dL_law_663 ?_
  refine l_callX (pc := 664) (st := []) C E lkL_86 (As := [.int (xs (i + 1)), .int (xs (i + 2)), .int (xs (i + 3))]) rfl (kX7_take (kl κ) εx (xs (i + 1)) (xs (i + 2)) (xs (i + 3)) μx (r, μx') hx) (by decide) rfl (Nat.le_of_ble_eq_true rfl) dL_law_664 ?_
  show G κ (Vl (kS κ) εx εm μx' μm A) 4 667 [(3, .int (nI i)), (2, .ref (ea εm 0)), (1, .ref (ea εx 0)), (0, .ref b)] [.int r]
  refine g_aload_n (pc := 667) (i := 2) (j := 1) C dL_law_667 rfl rfl ?_
  refine g_aload_n (pc := 668) (i := 0) (j := 3) C dL_law_668 rfl rfl ?_
  refine g_iload_n (pc := 669) (i := 3) (j := 0) C dL_law_669 rfl rfl ?_
  refine g_iconst (pc := 670) C dL_law_670 ci_1 ?_
  refine g_iadd (pc := 671) C dL_law_671 ?_
  refine l_ald (pc := 672) (j := i + 1) C E (by omega) (by omega) (nI_plus i 1) dL_law_672 ?_
  refine g_aload_n (pc := 673) (i := 0) (j := 3) C dL_law_673 rfl rfl ?_
  refine g_iload_n (pc := 674) (i := 3) (j := 0) C dL_law_674 rfl rfl ?_
  refine g_iconst (pc := 675) C dL_law_675 ci_2 ?_
  refine g_iadd (pc := 676) C dL_law_676 ?_
  refine l_ald (pc := 677) (j := i + 2) C E (by omega) (by omega) (nI_plus i 2) dL_law_677 ?_
  refine g_aload_n (pc := 678) (i := 0) (j := 3) C dL_law_678 rfl rfl ?_
  refine g_iload_n (pc := 679) (i := 3) (j := 0) C dL_law_679 rfl rfl ?_
  refine g_iconst (pc := 680) C dL_law_680 ci_3 ?_
  refine g_iadd (pc := 681) C dL_law_681 ?_
  refine l_ald (pc := 682) (j := i + 3) C E (by omega) (by omega) (nI_plus i 3) dL_law_682 ?_
  refine l_callM (pc := 683) (st := [.int r]) C E lkL_89 (As := [.int (xs (i + 1)), .int (xs (i + 2)), .int (xs (i + 3))]) rfl (kX8_take (kl κ) εm (xs (i + 1)) (xs (i + 2)) (xs (i + 3)) μm (r, μm') hm) (by decide) rfl (Nat.le_of_ble_eq_true rfl) dL_law_683 ?_
  show G κ (Vl (kS κ) εx εm μx' μm' A) 4 686 [(3, .int (nI i)), (2, .ref (ea εm 0)), (1, .ref (ea εx 0)), (0, .ref b)] [.int r, .int r]
  exact l_eqi (pc := 686) (tgt := 1285) C rfl dL_law_686 rfl (next μx' μm' hR)
set_option maxRecDepth 100000 in
set_option maxHeartbeats 4000000 in
theorem lw_c17 {Rel : Mm → Mm → Prop} (hst : St_fetch Rel) {κ : Kx} {εx εm : Ev} {A : Nat → Prop} {b L i : Nat} {xs : Nat → Int32} (C : Cf κ code 4 RL (some .boolean) 40) (E : Lc κ εx εm A b L xs) (hL : L ≤ 2048) (hi : i + 4 ≤ L) {μx μm : Mm} (hRel : Rel μx μm) (next : ∀ μx' μm', Rel μx' μm' → G κ (Vl (kS κ) εx εm μx' μm' A) 4 1285 [(3, .int (nI i)), (2, .ref (ea εm 0)), (1, .ref (ea εx 0)), (0, .ref b)] []) : G κ (Vl (kS κ) εx εm μx μm A) 4 691 [(3, .int (nI i)), (2, .ref (ea εm 0)), (1, .ref (ea εx 0)), (0, .ref b)] [] := by
  obtain ⟨r, μx', μm', hx, hm, hR⟩ := hst (xs (i + 1)) (xs (i + 2)) μx μm hRel
  refine g_aload_n (pc := 691) (i := 1) (j := 2) C dL_law_691 rfl rfl ?_
  refine g_aload_n (pc := 692) (i := 0) (j := 3) C dL_law_692 rfl rfl ?_
  refine g_iload_n (pc := 693) (i := 3) (j := 0) C dL_law_693 rfl rfl ?_
  refine g_iconst (pc := 694) C dL_law_694 ci_1 ?_
  refine g_iadd (pc := 695) C dL_law_695 ?_
  refine l_ald (pc := 696) (j := i + 1) C E (by omega) (by omega) (nI_plus i 1) dL_law_696 ?_
  refine g_aload_n (pc := 697) (i := 0) (j := 3) C dL_law_697 rfl rfl ?_
  refine g_iload_n (pc := 698) (i := 3) (j := 0) C dL_law_698 rfl rfl ?_
  refine g_iconst (pc := 699) C dL_law_699 ci_2 ?_
  refine g_iadd (pc := 700) C dL_law_700 ?_
  refine l_ald (pc := 701) (j := i + 2) C E (by omega) (by omega) (nI_plus i 2) dL_law_701 ?_
  refine l_callX (pc := 702) (st := []) C E lkL_90 (As := [.int (xs (i + 1)), .int (xs (i + 2))]) rfl (kX7_fetch (kl κ) εx (xs (i + 1)) (xs (i + 2)) μx (r, μx') hx) (by decide) rfl (Nat.le_of_ble_eq_true rfl) dL_law_702 ?_
  show G κ (Vl (kS κ) εx εm μx' μm A) 4 705 [(3, .int (nI i)), (2, .ref (ea εm 0)), (1, .ref (ea εx 0)), (0, .ref b)] [.int r]
  refine g_aload_n (pc := 705) (i := 2) (j := 1) C dL_law_705 rfl rfl ?_
  refine g_aload_n (pc := 706) (i := 0) (j := 3) C dL_law_706 rfl rfl ?_
  refine g_iload_n (pc := 707) (i := 3) (j := 0) C dL_law_707 rfl rfl ?_
  refine g_iconst (pc := 708) C dL_law_708 ci_1 ?_
  refine g_iadd (pc := 709) C dL_law_709 ?_
  refine l_ald (pc := 710) (j := i + 1) C E (by omega) (by omega) (nI_plus i 1) dL_law_710 ?_
  refine g_aload_n (pc := 711) (i := 0) (j := 3) C dL_law_711 rfl rfl ?_
  refine g_iload_n (pc := 712) (i := 3) (j := 0) C dL_law_712 rfl rfl ?_
  refine g_iconst (pc := 713) C dL_law_713 ci_2 ?_
  refine g_iadd (pc := 714) C dL_law_714 ?_
  refine l_ald (pc := 715) (j := i + 2) C E (by omega) (by omega) (nI_plus i 2) dL_law_715 ?_
  refine l_callM (pc := 716) (st := [.int r]) C E lkL_93 (As := [.int (xs (i + 1)), .int (xs (i + 2))]) rfl (kX8_fetch (kl κ) εm (xs (i + 1)) (xs (i + 2)) μm (r, μm') hm) (by decide) rfl (Nat.le_of_ble_eq_true rfl) dL_law_716 ?_
  show G κ (Vl (kS κ) εx εm μx' μm' A) 4 719 [(3, .int (nI i)), (2, .ref (ea εm 0)), (1, .ref (ea εx 0)), (0, .ref b)] [.int r, .int r]
  exact l_eqi (pc := 719) (tgt := 1285) C rfl dL_law_719 rfl (next μx' μm' hR)
set_option maxRecDepth 100000 in
set_option maxHeartbeats 4000000 in
theorem lw_c18 {Rel : Mm → Mm → Prop} (hst : St_lay Rel) {κ : Kx} {εx εm : Ev} {A : Nat → Prop} {b L i : Nat} {xs : Nat → Int32} (C : Cf κ code 4 RL (some .boolean) 40) (E : Lc κ εx εm A b L xs) (hL : L ≤ 2048) (hi : i + 4 ≤ L) {μx μm : Mm} (hRel : Rel μx μm) (next : ∀ μx' μm', Rel μx' μm' → G κ (Vl (kS κ) εx εm μx' μm' A) 4 1285 [(3, .int (nI i)), (2, .ref (ea εm 0)), (1, .ref (ea εx 0)), (0, .ref b)] []) : G κ (Vl (kS κ) εx εm μx μm A) 4 724 [(3, .int (nI i)), (2, .ref (ea εm 0)), (1, .ref (ea εx 0)), (0, .ref b)] [] := by
  obtain ⟨r, μx', μm', hx, hm, hR⟩ := hst (xs (i + 1)) (xs (i + 2)) μx μm hRel
  refine g_aload_n (pc := 724) (i := 1) (j := 2) C dL_law_724 rfl rfl ?_
  refine g_aload_n (pc := 725) (i := 0) (j := 3) C dL_law_725 rfl rfl ?_
  refine g_iload_n (pc := 726) (i := 3) (j := 0) C dL_law_726 rfl rfl ?_
  refine g_iconst (pc := 727) C dL_law_727 ci_1 ?_
  refine g_iadd (pc := 728) C dL_law_728 ?_
  refine l_ald (pc := 729) (j := i + 1) C E (by omega) (by omega) (nI_plus i 1) dL_law_729 ?_
  refine g_aload_n (pc := 730) (i := 0) (j := 3) C dL_law_730 rfl rfl ?_
  refine g_iload_n (pc := 731) (i := 3) (j := 0) C dL_law_731 rfl rfl ?_
  refine g_iconst (pc := 732) C dL_law_732 ci_2 ?_
  refine g_iadd (pc := 733) C dL_law_733 ?_
  refine l_ald (pc := 734) (j := i + 2) C E (by omega) (by omega) (nI_plus i 2) dL_law_734 ?_
  refine l_callX (pc := 735) (st := []) C E lkL_94 (As := [.int (xs (i + 1)), .int (xs (i + 2))]) rfl (kX7_lay (kl κ) εx (xs (i + 1)) (xs (i + 2)) μx (r, μx') hx) (by decide) rfl (Nat.le_of_ble_eq_true rfl) dL_law_735 ?_
  show G κ (Vl (kS κ) εx εm μx' μm A) 4 738 [(3, .int (nI i)), (2, .ref (ea εm 0)), (1, .ref (ea εx 0)), (0, .ref b)] [.int r]
  refine g_aload_n (pc := 738) (i := 2) (j := 1) C dL_law_738 rfl rfl ?_
  refine g_aload_n (pc := 739) (i := 0) (j := 3) C dL_law_739 rfl rfl ?_
  refine g_iload_n (pc := 740) (i := 3) (j := 0) C dL_law_740 rfl rfl ?_
  refine g_iconst (pc := 741) C dL_law_741 ci_1 ?_
  refine g_iadd (pc := 742) C dL_law_742 ?_
  refine l_ald (pc := 743) (j := i + 1) C E (by omega) (by omega) (nI_plus i 1) dL_law_743 ?_
  refine g_aload_n (pc := 744) (i := 0) (j := 3) C dL_law_744 rfl rfl ?_
  refine g_iload_n (pc := 745) (i := 3) (j := 0) C dL_law_745 rfl rfl ?_
  refine g_iconst (pc := 746) C dL_law_746 ci_2 ?_
  refine g_iadd (pc := 747) C dL_law_747 ?_
  refine l_ald (pc := 748) (j := i + 2) C E (by omega) (by omega) (nI_plus i 2) dL_law_748 ?_
  refine l_callM (pc := 749) (st := [.int r]) C E lkL_97 (As := [.int (xs (i + 1)), .int (xs (i + 2))]) rfl (kX8_lay (kl κ) εm (xs (i + 1)) (xs (i + 2)) μm (r, μm') hm) (by decide) rfl (Nat.le_of_ble_eq_true rfl) dL_law_749 ?_
  show G κ (Vl (kS κ) εx εm μx' μm' A) 4 752 [(3, .int (nI i)), (2, .ref (ea εm 0)), (1, .ref (ea εx 0)), (0, .ref b)] [.int r, .int r]
  exact l_eqi (pc := 752) (tgt := 1285) C rfl dL_law_752 rfl (next μx' μm' hR)
set_option maxRecDepth 100000 in
set_option maxHeartbeats 4000000 in
theorem lw_c19 {Rel : Mm → Mm → Prop} (hst : St_scatter Rel) {κ : Kx} {εx εm : Ev} {A : Nat → Prop} {b L i : Nat} {xs : Nat → Int32} (C : Cf κ code 4 RL (some .boolean) 40) (E : Lc κ εx εm A b L xs) (hL : L ≤ 2048) (hi : i + 4 ≤ L) {μx μm : Mm} (hRel : Rel μx μm) (next : ∀ μx' μm', Rel μx' μm' → G κ (Vl (kS κ) εx εm μx' μm' A) 4 1285 [(3, .int (nI i)), (2, .ref (ea εm 0)), (1, .ref (ea εx 0)), (0, .ref b)] []) : G κ (Vl (kS κ) εx εm μx μm A) 4 757 [(3, .int (nI i)), (2, .ref (ea εm 0)), (1, .ref (ea εx 0)), (0, .ref b)] [] := by
  obtain ⟨r, μx', μm', hx, hm, hR⟩ := hst (xs (i + 1)) ((jlshl (Int32.toInt64 (xs (i + 2))) (32 : Int32)) ||| ((Int32.toInt64 (xs (i + 3))) &&& (4294967295 : Int64))) μx μm hRel
  refine g_aload_n (pc := 757) (i := 1) (j := 2) C dL_law_757 rfl rfl ?_
  refine g_aload_n (pc := 758) (i := 0) (j := 3) C dL_law_758 rfl rfl ?_
  refine g_iload_n (pc := 759) (i := 3) (j := 0) C dL_law_759 rfl rfl ?_
  refine g_iconst (pc := 760) C dL_law_760 ci_1 ?_
  refine g_iadd (pc := 761) C dL_law_761 ?_
  refine l_ald (pc := 762) (j := i + 1) C E (by omega) (by omega) (nI_plus i 1) dL_law_762 ?_
  refine g_aload_n (pc := 763) (i := 0) (j := 3) C dL_law_763 rfl rfl ?_
  refine g_iload_n (pc := 764) (i := 3) (j := 0) C dL_law_764 rfl rfl ?_
  refine g_iconst (pc := 765) C dL_law_765 ci_2 ?_
  refine g_iadd (pc := 766) C dL_law_766 ?_
  refine l_ald (pc := 767) (j := i + 2) C E (by omega) (by omega) (nI_plus i 2) dL_law_767 ?_
  refine g_i2l (pc := 768) C dL_law_768 ?_
  refine g_bipush (pc := 769) C dL_law_769 cb_32 ?_
  refine g_lshl (pc := 771) C dL_law_771 ?_
  refine g_aload_n (pc := 772) (i := 0) (j := 3) C dL_law_772 rfl rfl ?_
  refine g_iload_n (pc := 773) (i := 3) (j := 0) C dL_law_773 rfl rfl ?_
  refine g_iconst (pc := 774) C dL_law_774 ci_3 ?_
  refine g_iadd (pc := 775) C dL_law_775 ?_
  refine l_ald (pc := 776) (j := i + 3) C E (by omega) (by omega) (nI_plus i 3) dL_law_776 ?_
  refine g_i2l (pc := 777) C dL_law_777 ?_
  refine g_ldc2 (pc := 778) C cnL_58 dL_law_778 ?_
  refine g_land (pc := 781) C dL_law_781 ?_
  refine g_lor (pc := 782) C dL_law_782 ?_
  refine l_callX (pc := 783) (st := []) C E lkL_98 (As := [.int (xs (i + 1)), .long ((jlshl (Int32.toInt64 (xs (i + 2))) (32 : Int32)) ||| ((Int32.toInt64 (xs (i + 3))) &&& (4294967295 : Int64)))]) rfl (kX7_scatter (kl κ) εx (xs (i + 1)) ((jlshl (Int32.toInt64 (xs (i + 2))) (32 : Int32)) ||| ((Int32.toInt64 (xs (i + 3))) &&& (4294967295 : Int64))) μx (r, μx') hx) (by decide) rfl (Nat.le_of_ble_eq_true rfl) dL_law_783 ?_
  show G κ (Vl (kS κ) εx εm μx' μm A) 4 786 [(3, .int (nI i)), (2, .ref (ea εm 0)), (1, .ref (ea εx 0)), (0, .ref b)] [.int r]
  refine g_aload_n (pc := 786) (i := 2) (j := 1) C dL_law_786 rfl rfl ?_
  refine g_aload_n (pc := 787) (i := 0) (j := 3) C dL_law_787 rfl rfl ?_
  refine g_iload_n (pc := 788) (i := 3) (j := 0) C dL_law_788 rfl rfl ?_
  refine g_iconst (pc := 789) C dL_law_789 ci_1 ?_
  refine g_iadd (pc := 790) C dL_law_790 ?_
  refine l_ald (pc := 791) (j := i + 1) C E (by omega) (by omega) (nI_plus i 1) dL_law_791 ?_
  refine g_aload_n (pc := 792) (i := 0) (j := 3) C dL_law_792 rfl rfl ?_
  refine g_iload_n (pc := 793) (i := 3) (j := 0) C dL_law_793 rfl rfl ?_
  refine g_iconst (pc := 794) C dL_law_794 ci_2 ?_
  refine g_iadd (pc := 795) C dL_law_795 ?_
  refine l_ald (pc := 796) (j := i + 2) C E (by omega) (by omega) (nI_plus i 2) dL_law_796 ?_
  refine g_i2l (pc := 797) C dL_law_797 ?_
  refine g_bipush (pc := 798) C dL_law_798 cb_32 ?_
  refine g_lshl (pc := 800) C dL_law_800 ?_
  refine g_aload_n (pc := 801) (i := 0) (j := 3) C dL_law_801 rfl rfl ?_
  refine g_iload_n (pc := 802) (i := 3) (j := 0) C dL_law_802 rfl rfl ?_
  refine g_iconst (pc := 803) C dL_law_803 ci_3 ?_
  refine g_iadd (pc := 804) C dL_law_804 ?_
  refine l_ald (pc := 805) (j := i + 3) C E (by omega) (by omega) (nI_plus i 3) dL_law_805 ?_
  refine g_i2l (pc := 806) C dL_law_806 ?_
  refine g_ldc2 (pc := 807) C cnL_58 dL_law_807 ?_
  refine g_land (pc := 810) C dL_law_810 ?_
  refine g_lor (pc := 811) C dL_law_811 ?_
  refine l_callM (pc := 812) (st := [.int r]) C E lkL_101 (As := [.int (xs (i + 1)), .long ((jlshl (Int32.toInt64 (xs (i + 2))) (32 : Int32)) ||| ((Int32.toInt64 (xs (i + 3))) &&& (4294967295 : Int64)))]) rfl (kX8_scatter (kl κ) εm (xs (i + 1)) ((jlshl (Int32.toInt64 (xs (i + 2))) (32 : Int32)) ||| ((Int32.toInt64 (xs (i + 3))) &&& (4294967295 : Int64))) μm (r, μm') hm) (by decide) rfl (Nat.le_of_ble_eq_true rfl) dL_law_812 ?_
  show G κ (Vl (kS κ) εx εm μx' μm' A) 4 815 [(3, .int (nI i)), (2, .ref (ea εm 0)), (1, .ref (ea εx 0)), (0, .ref b)] [.int r, .int r]
  exact l_eqi (pc := 815) (tgt := 1285) C rfl dL_law_815 rfl (next μx' μm' hR)
set_option maxRecDepth 100000 in
set_option maxHeartbeats 4000000 in
theorem lw_c20 {Rel : Mm → Mm → Prop} (hst : St_convert Rel) {κ : Kx} {εx εm : Ev} {A : Nat → Prop} {b L i : Nat} {xs : Nat → Int32} (C : Cf κ code 4 RL (some .boolean) 40) (E : Lc κ εx εm A b L xs) (hL : L ≤ 2048) (hi : i + 4 ≤ L) {μx μm : Mm} (hRel : Rel μx μm) (next : ∀ μx' μm', Rel μx' μm' → G κ (Vl (kS κ) εx εm μx' μm' A) 4 1285 [(3, .int (nI i)), (2, .ref (ea εm 0)), (1, .ref (ea εx 0)), (0, .ref b)] []) : G κ (Vl (kS κ) εx εm μx μm A) 4 820 [(3, .int (nI i)), (2, .ref (ea εm 0)), (1, .ref (ea εx 0)), (0, .ref b)] [] := by
  obtain ⟨r, μx', μm', hx, hm, hR⟩ := hst (xs (i + 1)) (xs (i + 2)) (xs (i + 3)) μx μm hRel
  refine g_aload_n (pc := 820) (i := 1) (j := 2) C dL_law_820 rfl rfl ?_
  refine g_aload_n (pc := 821) (i := 0) (j := 3) C dL_law_821 rfl rfl ?_
  refine g_iload_n (pc := 822) (i := 3) (j := 0) C dL_law_822 rfl rfl ?_
  refine g_iconst (pc := 823) C dL_law_823 ci_1 ?_
  refine g_iadd (pc := 824) C dL_law_824 ?_
  refine l_ald (pc := 825) (j := i + 1) C E (by omega) (by omega) (nI_plus i 1) dL_law_825 ?_
  refine g_aload_n (pc := 826) (i := 0) (j := 3) C dL_law_826 rfl rfl ?_
  refine g_iload_n (pc := 827) (i := 3) (j := 0) C dL_law_827 rfl rfl ?_
  refine g_iconst (pc := 828) C dL_law_828 ci_2 ?_
  refine g_iadd (pc := 829) C dL_law_829 ?_
  refine l_ald (pc := 830) (j := i + 2) C E (by omega) (by omega) (nI_plus i 2) dL_law_830 ?_
  refine g_aload_n (pc := 831) (i := 0) (j := 3) C dL_law_831 rfl rfl ?_
  refine g_iload_n (pc := 832) (i := 3) (j := 0) C dL_law_832 rfl rfl ?_
  refine g_iconst (pc := 833) C dL_law_833 ci_3 ?_
  refine g_iadd (pc := 834) C dL_law_834 ?_
  refine l_ald (pc := 835) (j := i + 3) C E (by omega) (by omega) (nI_plus i 3) dL_law_835 ?_
  refine l_callX (pc := 836) (st := []) C E lkL_102 (As := [.int (xs (i + 1)), .int (xs (i + 2)), .int (xs (i + 3))]) rfl (kX7_convert (kl κ) εx (xs (i + 1)) (xs (i + 2)) (xs (i + 3)) μx (r, μx') hx) (by decide) rfl (Nat.le_of_ble_eq_true rfl) dL_law_836 ?_
  show G κ (Vl (kS κ) εx εm μx' μm A) 4 839 [(3, .int (nI i)), (2, .ref (ea εm 0)), (1, .ref (ea εx 0)), (0, .ref b)] [.int r]
  refine g_aload_n (pc := 839) (i := 2) (j := 1) C dL_law_839 rfl rfl ?_
  refine g_aload_n (pc := 840) (i := 0) (j := 3) C dL_law_840 rfl rfl ?_
  refine g_iload_n (pc := 841) (i := 3) (j := 0) C dL_law_841 rfl rfl ?_
  refine g_iconst (pc := 842) C dL_law_842 ci_1 ?_
  refine g_iadd (pc := 843) C dL_law_843 ?_
  refine l_ald (pc := 844) (j := i + 1) C E (by omega) (by omega) (nI_plus i 1) dL_law_844 ?_
  refine g_aload_n (pc := 845) (i := 0) (j := 3) C dL_law_845 rfl rfl ?_
  refine g_iload_n (pc := 846) (i := 3) (j := 0) C dL_law_846 rfl rfl ?_
  refine g_iconst (pc := 847) C dL_law_847 ci_2 ?_
  refine g_iadd (pc := 848) C dL_law_848 ?_
  refine l_ald (pc := 849) (j := i + 2) C E (by omega) (by omega) (nI_plus i 2) dL_law_849 ?_
  refine g_aload_n (pc := 850) (i := 0) (j := 3) C dL_law_850 rfl rfl ?_
  refine g_iload_n (pc := 851) (i := 3) (j := 0) C dL_law_851 rfl rfl ?_
  refine g_iconst (pc := 852) C dL_law_852 ci_3 ?_
  refine g_iadd (pc := 853) C dL_law_853 ?_
  refine l_ald (pc := 854) (j := i + 3) C E (by omega) (by omega) (nI_plus i 3) dL_law_854 ?_
  refine l_callM (pc := 855) (st := [.int r]) C E lkL_105 (As := [.int (xs (i + 1)), .int (xs (i + 2)), .int (xs (i + 3))]) rfl (kX8_convert (kl κ) εm (xs (i + 1)) (xs (i + 2)) (xs (i + 3)) μm (r, μm') hm) (by decide) rfl (Nat.le_of_ble_eq_true rfl) dL_law_855 ?_
  show G κ (Vl (kS κ) εx εm μx' μm' A) 4 858 [(3, .int (nI i)), (2, .ref (ea εm 0)), (1, .ref (ea εx 0)), (0, .ref b)] [.int r, .int r]
  exact l_eqi (pc := 858) (tgt := 1285) C rfl dL_law_858 rfl (next μx' μm' hR)
set_option maxRecDepth 100000 in
set_option maxHeartbeats 4000000 in
theorem lw_c21 {Rel : Mm → Mm → Prop} (hst : St_report Rel) {κ : Kx} {εx εm : Ev} {A : Nat → Prop} {b L i : Nat} {xs : Nat → Int32} (C : Cf κ code 4 RL (some .boolean) 40) (E : Lc κ εx εm A b L xs) (hL : L ≤ 2048) (hi : i + 4 ≤ L) {μx μm : Mm} (hRel : Rel μx μm) (next : ∀ μx' μm', Rel μx' μm' → G κ (Vl (kS κ) εx εm μx' μm' A) 4 1285 [(3, .int (nI i)), (2, .ref (ea εm 0)), (1, .ref (ea εx 0)), (0, .ref b)] []) : G κ (Vl (kS κ) εx εm μx μm A) 4 863 [(3, .int (nI i)), (2, .ref (ea εm 0)), (1, .ref (ea εx 0)), (0, .ref b)] [] := by
  obtain ⟨r, hx, hm, hR⟩ := hst (xs (i + 1)) μx μm hRel
  refine g_aload_n (pc := 863) (i := 1) (j := 2) C dL_law_863 rfl rfl ?_
  refine g_aload_n (pc := 864) (i := 0) (j := 3) C dL_law_864 rfl rfl ?_
  refine g_iload_n (pc := 865) (i := 3) (j := 0) C dL_law_865 rfl rfl ?_
  refine g_iconst (pc := 866) C dL_law_866 ci_1 ?_
  refine g_iadd (pc := 867) C dL_law_867 ?_
  refine l_ald (pc := 868) (j := i + 1) C E (by omega) (by omega) (nI_plus i 1) dL_law_868 ?_
  refine l_callX (pc := 869) (st := []) C E lkL_106 (As := [.int (xs (i + 1))]) rfl (kX7_report (kl κ) εx (xs (i + 1)) μx r hx) (by decide) rfl (Nat.le_of_ble_eq_true rfl) dL_law_869 ?_
  show G κ (Vl (kS κ) εx εm μx μm A) 4 872 [(3, .int (nI i)), (2, .ref (ea εm 0)), (1, .ref (ea εx 0)), (0, .ref b)] [.int r]
  refine g_aload_n (pc := 872) (i := 2) (j := 1) C dL_law_872 rfl rfl ?_
  refine g_aload_n (pc := 873) (i := 0) (j := 3) C dL_law_873 rfl rfl ?_
  refine g_iload_n (pc := 874) (i := 3) (j := 0) C dL_law_874 rfl rfl ?_
  refine g_iconst (pc := 875) C dL_law_875 ci_1 ?_
  refine g_iadd (pc := 876) C dL_law_876 ?_
  refine l_ald (pc := 877) (j := i + 1) C E (by omega) (by omega) (nI_plus i 1) dL_law_877 ?_
  refine l_callM (pc := 878) (st := [.int r]) C E lkL_109 (As := [.int (xs (i + 1))]) rfl (kX8_report (kl κ) εm (xs (i + 1)) μm r hm) (by decide) rfl (Nat.le_of_ble_eq_true rfl) dL_law_878 ?_
  show G κ (Vl (kS κ) εx εm μx μm A) 4 881 [(3, .int (nI i)), (2, .ref (ea εm 0)), (1, .ref (ea εx 0)), (0, .ref b)] [.int r, .int r]
  exact l_eqi (pc := 881) (tgt := 1285) C rfl dL_law_881 rfl (next μx μm hR)
set_option maxRecDepth 100000 in
set_option maxHeartbeats 4000000 in
theorem lw_c22 {Rel : Mm → Mm → Prop} (hst : St_chains Rel) {κ : Kx} {εx εm : Ev} {A : Nat → Prop} {b L i : Nat} {xs : Nat → Int32} (C : Cf κ code 4 RL (some .boolean) 40) (E : Lc κ εx εm A b L xs) (hL : L ≤ 2048) (hi : i + 4 ≤ L) {μx μm : Mm} (hRel : Rel μx μm) (next : ∀ μx' μm', Rel μx' μm' → G κ (Vl (kS κ) εx εm μx' μm' A) 4 1285 [(3, .int (nI i)), (2, .ref (ea εm 0)), (1, .ref (ea εx 0)), (0, .ref b)] []) : G κ (Vl (kS κ) εx εm μx μm A) 4 886 [(3, .int (nI i)), (2, .ref (ea εm 0)), (1, .ref (ea εx 0)), (0, .ref b)] [] := by
  obtain ⟨r, μm', hx, hm, hR⟩ := hst (xs (i + 1)) (xs (i + 2)) μx μm hRel
  refine g_aload_n (pc := 886) (i := 1) (j := 2) C dL_law_886 rfl rfl ?_
  refine g_aload_n (pc := 887) (i := 0) (j := 3) C dL_law_887 rfl rfl ?_
  refine g_iload_n (pc := 888) (i := 3) (j := 0) C dL_law_888 rfl rfl ?_
  refine g_iconst (pc := 889) C dL_law_889 ci_1 ?_
  refine g_iadd (pc := 890) C dL_law_890 ?_
  refine l_ald (pc := 891) (j := i + 1) C E (by omega) (by omega) (nI_plus i 1) dL_law_891 ?_
  refine g_aload_n (pc := 892) (i := 0) (j := 3) C dL_law_892 rfl rfl ?_
  refine g_iload_n (pc := 893) (i := 3) (j := 0) C dL_law_893 rfl rfl ?_
  refine g_iconst (pc := 894) C dL_law_894 ci_2 ?_
  refine g_iadd (pc := 895) C dL_law_895 ?_
  refine l_ald (pc := 896) (j := i + 2) C E (by omega) (by omega) (nI_plus i 2) dL_law_896 ?_
  refine l_callX (pc := 897) (st := []) C E lkL_110 (As := [.int (xs (i + 1)), .int (xs (i + 2))]) rfl (kX7_chains (kl κ) εx (xs (i + 1)) (xs (i + 2)) μx r hx) (by decide) rfl (Nat.le_of_ble_eq_true rfl) dL_law_897 ?_
  show G κ (Vl (kS κ) εx εm μx μm A) 4 900 [(3, .int (nI i)), (2, .ref (ea εm 0)), (1, .ref (ea εx 0)), (0, .ref b)] [.int r]
  refine g_aload_n (pc := 900) (i := 2) (j := 1) C dL_law_900 rfl rfl ?_
  refine g_aload_n (pc := 901) (i := 0) (j := 3) C dL_law_901 rfl rfl ?_
  refine g_iload_n (pc := 902) (i := 3) (j := 0) C dL_law_902 rfl rfl ?_
  refine g_iconst (pc := 903) C dL_law_903 ci_1 ?_
  refine g_iadd (pc := 904) C dL_law_904 ?_
  refine l_ald (pc := 905) (j := i + 1) C E (by omega) (by omega) (nI_plus i 1) dL_law_905 ?_
  refine g_aload_n (pc := 906) (i := 0) (j := 3) C dL_law_906 rfl rfl ?_
  refine g_iload_n (pc := 907) (i := 3) (j := 0) C dL_law_907 rfl rfl ?_
  refine g_iconst (pc := 908) C dL_law_908 ci_2 ?_
  refine g_iadd (pc := 909) C dL_law_909 ?_
  refine l_ald (pc := 910) (j := i + 2) C E (by omega) (by omega) (nI_plus i 2) dL_law_910 ?_
  refine l_callM (pc := 911) (st := [.int r]) C E lkL_113 (As := [.int (xs (i + 1)), .int (xs (i + 2))]) rfl (kX8_chains (kl κ) εm (xs (i + 1)) (xs (i + 2)) μm (r, μm') hm) (by decide) rfl (Nat.le_of_ble_eq_true rfl) dL_law_911 ?_
  show G κ (Vl (kS κ) εx εm μx μm' A) 4 914 [(3, .int (nI i)), (2, .ref (ea εm 0)), (1, .ref (ea εx 0)), (0, .ref b)] [.int r, .int r]
  exact l_eqi (pc := 914) (tgt := 1285) C rfl dL_law_914 rfl (next μx μm' hR)
set_option maxRecDepth 100000 in
set_option maxHeartbeats 4000000 in
theorem lw_c23 {Rel : Mm → Mm → Prop} (hst : St_carry Rel) {κ : Kx} {εx εm : Ev} {A : Nat → Prop} {b L i : Nat} {xs : Nat → Int32} (C : Cf κ code 4 RL (some .boolean) 40) (E : Lc κ εx εm A b L xs) (hL : L ≤ 2048) (hi : i + 4 ≤ L) {μx μm : Mm} (hRel : Rel μx μm) (next : ∀ μx' μm', Rel μx' μm' → G κ (Vl (kS κ) εx εm μx' μm' A) 4 1285 [(3, .int (nI i)), (2, .ref (ea εm 0)), (1, .ref (ea εx 0)), (0, .ref b)] []) : G κ (Vl (kS κ) εx εm μx μm A) 4 919 [(3, .int (nI i)), (2, .ref (ea εm 0)), (1, .ref (ea εx 0)), (0, .ref b)] [] := by
  obtain ⟨r, μx', μm', hx, hm, hR⟩ := hst (xs (i + 1)) (xs (i + 2)) (xs (i + 3)) μx μm hRel
  refine g_aload_n (pc := 919) (i := 1) (j := 2) C dL_law_919 rfl rfl ?_
  refine g_aload_n (pc := 920) (i := 0) (j := 3) C dL_law_920 rfl rfl ?_
  refine g_iload_n (pc := 921) (i := 3) (j := 0) C dL_law_921 rfl rfl ?_
  refine g_iconst (pc := 922) C dL_law_922 ci_1 ?_
  refine g_iadd (pc := 923) C dL_law_923 ?_
  refine l_ald (pc := 924) (j := i + 1) C E (by omega) (by omega) (nI_plus i 1) dL_law_924 ?_
  refine g_aload_n (pc := 925) (i := 0) (j := 3) C dL_law_925 rfl rfl ?_
  refine g_iload_n (pc := 926) (i := 3) (j := 0) C dL_law_926 rfl rfl ?_
  refine g_iconst (pc := 927) C dL_law_927 ci_2 ?_
  refine g_iadd (pc := 928) C dL_law_928 ?_
  refine l_ald (pc := 929) (j := i + 2) C E (by omega) (by omega) (nI_plus i 2) dL_law_929 ?_
  refine g_aload_n (pc := 930) (i := 0) (j := 3) C dL_law_930 rfl rfl ?_
  refine g_iload_n (pc := 931) (i := 3) (j := 0) C dL_law_931 rfl rfl ?_
  refine g_iconst (pc := 932) C dL_law_932 ci_3 ?_
  refine g_iadd (pc := 933) C dL_law_933 ?_
  refine l_ald (pc := 934) (j := i + 3) C E (by omega) (by omega) (nI_plus i 3) dL_law_934 ?_
  refine l_callX (pc := 935) (st := []) C E lkL_114 (As := [.int (xs (i + 1)), .int (xs (i + 2)), .int (xs (i + 3))]) rfl (kX7_carry (kl κ) εx (xs (i + 1)) (xs (i + 2)) (xs (i + 3)) μx (r, μx') hx) (by decide) rfl (Nat.le_of_ble_eq_true rfl) dL_law_935 ?_
  show G κ (Vl (kS κ) εx εm μx' μm A) 4 938 [(3, .int (nI i)), (2, .ref (ea εm 0)), (1, .ref (ea εx 0)), (0, .ref b)] [.int r]
  refine g_aload_n (pc := 938) (i := 2) (j := 1) C dL_law_938 rfl rfl ?_
  refine g_aload_n (pc := 939) (i := 0) (j := 3) C dL_law_939 rfl rfl ?_
  refine g_iload_n (pc := 940) (i := 3) (j := 0) C dL_law_940 rfl rfl ?_
  refine g_iconst (pc := 941) C dL_law_941 ci_1 ?_
  refine g_iadd (pc := 942) C dL_law_942 ?_
  refine l_ald (pc := 943) (j := i + 1) C E (by omega) (by omega) (nI_plus i 1) dL_law_943 ?_
  refine g_aload_n (pc := 944) (i := 0) (j := 3) C dL_law_944 rfl rfl ?_
  refine g_iload_n (pc := 945) (i := 3) (j := 0) C dL_law_945 rfl rfl ?_
  refine g_iconst (pc := 946) C dL_law_946 ci_2 ?_
  refine g_iadd (pc := 947) C dL_law_947 ?_
  refine l_ald (pc := 948) (j := i + 2) C E (by omega) (by omega) (nI_plus i 2) dL_law_948 ?_
  refine g_aload_n (pc := 949) (i := 0) (j := 3) C dL_law_949 rfl rfl ?_
  refine g_iload_n (pc := 950) (i := 3) (j := 0) C dL_law_950 rfl rfl ?_
  refine g_iconst (pc := 951) C dL_law_951 ci_3 ?_
  refine g_iadd (pc := 952) C dL_law_952 ?_
  refine l_ald (pc := 953) (j := i + 3) C E (by omega) (by omega) (nI_plus i 3) dL_law_953 ?_
  refine l_callM (pc := 954) (st := [.int r]) C E lkL_117 (As := [.int (xs (i + 1)), .int (xs (i + 2)), .int (xs (i + 3))]) rfl (kX8_carry (kl κ) εm (xs (i + 1)) (xs (i + 2)) (xs (i + 3)) μm (r, μm') hm) (by decide) rfl (Nat.le_of_ble_eq_true rfl) dL_law_954 ?_
  show G κ (Vl (kS κ) εx εm μx' μm' A) 4 957 [(3, .int (nI i)), (2, .ref (ea εm 0)), (1, .ref (ea εx 0)), (0, .ref b)] [.int r, .int r]
  exact l_eqi (pc := 957) (tgt := 1285) C rfl dL_law_957 rfl (next μx' μm' hR)
set_option maxRecDepth 100000 in
set_option maxHeartbeats 4000000 in
theorem lw_c24 {Rel : Mm → Mm → Prop} (hst : St_ends Rel) {κ : Kx} {εx εm : Ev} {A : Nat → Prop} {b L i : Nat} {xs : Nat → Int32} (C : Cf κ code 4 RL (some .boolean) 40) (E : Lc κ εx εm A b L xs) (hL : L ≤ 2048) (hi : i + 4 ≤ L) {μx μm : Mm} (hRel : Rel μx μm) (next : ∀ μx' μm', Rel μx' μm' → G κ (Vl (kS κ) εx εm μx' μm' A) 4 1285 [(3, .int (nI i)), (2, .ref (ea εm 0)), (1, .ref (ea εx 0)), (0, .ref b)] []) : G κ (Vl (kS κ) εx εm μx μm A) 4 962 [(3, .int (nI i)), (2, .ref (ea εm 0)), (1, .ref (ea εx 0)), (0, .ref b)] [] := by
  obtain ⟨r, μm', hx, hm, hR⟩ := hst (xs (i + 1)) (xs (i + 2)) (xs (i + 3)) μx μm hRel
  refine g_aload_n (pc := 962) (i := 1) (j := 2) C dL_law_962 rfl rfl ?_
  refine g_aload_n (pc := 963) (i := 0) (j := 3) C dL_law_963 rfl rfl ?_
  refine g_iload_n (pc := 964) (i := 3) (j := 0) C dL_law_964 rfl rfl ?_
  refine g_iconst (pc := 965) C dL_law_965 ci_1 ?_
  refine g_iadd (pc := 966) C dL_law_966 ?_
  refine l_ald (pc := 967) (j := i + 1) C E (by omega) (by omega) (nI_plus i 1) dL_law_967 ?_
  refine g_aload_n (pc := 968) (i := 0) (j := 3) C dL_law_968 rfl rfl ?_
  refine g_iload_n (pc := 969) (i := 3) (j := 0) C dL_law_969 rfl rfl ?_
  refine g_iconst (pc := 970) C dL_law_970 ci_2 ?_
  refine g_iadd (pc := 971) C dL_law_971 ?_
  refine l_ald (pc := 972) (j := i + 2) C E (by omega) (by omega) (nI_plus i 2) dL_law_972 ?_
  refine g_aload_n (pc := 973) (i := 0) (j := 3) C dL_law_973 rfl rfl ?_
  refine g_iload_n (pc := 974) (i := 3) (j := 0) C dL_law_974 rfl rfl ?_
  refine g_iconst (pc := 975) C dL_law_975 ci_3 ?_
  refine g_iadd (pc := 976) C dL_law_976 ?_
  refine l_ald (pc := 977) (j := i + 3) C E (by omega) (by omega) (nI_plus i 3) dL_law_977 ?_
  refine l_callX (pc := 978) (st := []) C E lkL_118 (As := [.int (xs (i + 1)), .int (xs (i + 2)), .int (xs (i + 3))]) rfl (kX7_ends (kl κ) εx (xs (i + 1)) (xs (i + 2)) (xs (i + 3)) μx r hx) (by decide) rfl (Nat.le_of_ble_eq_true rfl) dL_law_978 ?_
  show G κ (Vl (kS κ) εx εm μx μm A) 4 981 [(3, .int (nI i)), (2, .ref (ea εm 0)), (1, .ref (ea εx 0)), (0, .ref b)] [.int r]
  refine g_aload_n (pc := 981) (i := 2) (j := 1) C dL_law_981 rfl rfl ?_
  refine g_aload_n (pc := 982) (i := 0) (j := 3) C dL_law_982 rfl rfl ?_
  refine g_iload_n (pc := 983) (i := 3) (j := 0) C dL_law_983 rfl rfl ?_
  refine g_iconst (pc := 984) C dL_law_984 ci_1 ?_
  refine g_iadd (pc := 985) C dL_law_985 ?_
  refine l_ald (pc := 986) (j := i + 1) C E (by omega) (by omega) (nI_plus i 1) dL_law_986 ?_
  refine g_aload_n (pc := 987) (i := 0) (j := 3) C dL_law_987 rfl rfl ?_
  refine g_iload_n (pc := 988) (i := 3) (j := 0) C dL_law_988 rfl rfl ?_
  refine g_iconst (pc := 989) C dL_law_989 ci_2 ?_
  refine g_iadd (pc := 990) C dL_law_990 ?_
  refine l_ald (pc := 991) (j := i + 2) C E (by omega) (by omega) (nI_plus i 2) dL_law_991 ?_
  refine g_aload_n (pc := 992) (i := 0) (j := 3) C dL_law_992 rfl rfl ?_
  refine g_iload_n (pc := 993) (i := 3) (j := 0) C dL_law_993 rfl rfl ?_
  refine g_iconst (pc := 994) C dL_law_994 ci_3 ?_
  refine g_iadd (pc := 995) C dL_law_995 ?_
  refine l_ald (pc := 996) (j := i + 3) C E (by omega) (by omega) (nI_plus i 3) dL_law_996 ?_
  refine l_callM (pc := 997) (st := [.int r]) C E lkL_121 (As := [.int (xs (i + 1)), .int (xs (i + 2)), .int (xs (i + 3))]) rfl (kX8_ends (kl κ) εm (xs (i + 1)) (xs (i + 2)) (xs (i + 3)) μm (r, μm') hm) (by decide) rfl (Nat.le_of_ble_eq_true rfl) dL_law_997 ?_
  show G κ (Vl (kS κ) εx εm μx μm' A) 4 1000 [(3, .int (nI i)), (2, .ref (ea εm 0)), (1, .ref (ea εx 0)), (0, .ref b)] [.int r, .int r]
  exact l_eqi (pc := 1000) (tgt := 1285) C rfl dL_law_1000 rfl (next μx μm' hR)
set_option maxRecDepth 100000 in
set_option maxHeartbeats 4000000 in
theorem lw_c25 {Rel : Mm → Mm → Prop} (hst : St_least Rel) {κ : Kx} {εx εm : Ev} {A : Nat → Prop} {b L i : Nat} {xs : Nat → Int32} (C : Cf κ code 4 RL (some .boolean) 40) (E : Lc κ εx εm A b L xs) (hL : L ≤ 2048) (hi : i + 4 ≤ L) {μx μm : Mm} (hRel : Rel μx μm) (next : ∀ μx' μm', Rel μx' μm' → G κ (Vl (kS κ) εx εm μx' μm' A) 4 1285 [(3, .int (nI i)), (2, .ref (ea εm 0)), (1, .ref (ea εx 0)), (0, .ref b)] []) : G κ (Vl (kS κ) εx εm μx μm A) 4 1005 [(3, .int (nI i)), (2, .ref (ea εm 0)), (1, .ref (ea εx 0)), (0, .ref b)] [] := by
  obtain ⟨r, hx, hm, hR⟩ := hst (xs (i + 1)) μx μm hRel
  refine g_aload_n (pc := 1005) (i := 1) (j := 2) C dL_law_1005 rfl rfl ?_
  refine g_aload_n (pc := 1006) (i := 0) (j := 3) C dL_law_1006 rfl rfl ?_
  refine g_iload_n (pc := 1007) (i := 3) (j := 0) C dL_law_1007 rfl rfl ?_
  refine g_iconst (pc := 1008) C dL_law_1008 ci_1 ?_
  refine g_iadd (pc := 1009) C dL_law_1009 ?_
  refine l_ald (pc := 1010) (j := i + 1) C E (by omega) (by omega) (nI_plus i 1) dL_law_1010 ?_
  refine l_callX (pc := 1011) (st := []) C E lkL_122 (As := [.int (xs (i + 1))]) rfl (kX7_least (kl κ) εx (xs (i + 1)) μx r hx) (by decide) rfl (Nat.le_of_ble_eq_true rfl) dL_law_1011 ?_
  show G κ (Vl (kS κ) εx εm μx μm A) 4 1014 [(3, .int (nI i)), (2, .ref (ea εm 0)), (1, .ref (ea εx 0)), (0, .ref b)] [.int r]
  refine g_aload_n (pc := 1014) (i := 2) (j := 1) C dL_law_1014 rfl rfl ?_
  refine g_aload_n (pc := 1015) (i := 0) (j := 3) C dL_law_1015 rfl rfl ?_
  refine g_iload_n (pc := 1016) (i := 3) (j := 0) C dL_law_1016 rfl rfl ?_
  refine g_iconst (pc := 1017) C dL_law_1017 ci_1 ?_
  refine g_iadd (pc := 1018) C dL_law_1018 ?_
  refine l_ald (pc := 1019) (j := i + 1) C E (by omega) (by omega) (nI_plus i 1) dL_law_1019 ?_
  refine l_callM (pc := 1020) (st := [.int r]) C E lkL_125 (As := [.int (xs (i + 1))]) rfl (kX8_least (kl κ) εm (xs (i + 1)) μm r hm) (by decide) rfl (Nat.le_of_ble_eq_true rfl) dL_law_1020 ?_
  show G κ (Vl (kS κ) εx εm μx μm A) 4 1023 [(3, .int (nI i)), (2, .ref (ea εm 0)), (1, .ref (ea εx 0)), (0, .ref b)] [.int r, .int r]
  exact l_eqi (pc := 1023) (tgt := 1285) C rfl dL_law_1023 rfl (next μx μm hR)
set_option maxRecDepth 100000 in
set_option maxHeartbeats 4000000 in
theorem lw_c26 {Rel : Mm → Mm → Prop} (hst : St_join Rel) {κ : Kx} {εx εm : Ev} {A : Nat → Prop} {b L i : Nat} {xs : Nat → Int32} (C : Cf κ code 4 RL (some .boolean) 40) (E : Lc κ εx εm A b L xs) (hL : L ≤ 2048) (hi : i + 4 ≤ L) {μx μm : Mm} (hRel : Rel μx μm) (next : ∀ μx' μm', Rel μx' μm' → G κ (Vl (kS κ) εx εm μx' μm' A) 4 1285 [(3, .int (nI i)), (2, .ref (ea εm 0)), (1, .ref (ea εx 0)), (0, .ref b)] []) : G κ (Vl (kS κ) εx εm μx μm A) 4 1028 [(3, .int (nI i)), (2, .ref (ea εm 0)), (1, .ref (ea εx 0)), (0, .ref b)] [] := by
  obtain ⟨r, μx', μm', hx, hm, hR⟩ := hst (xs (i + 1)) (xs (i + 2)) (xs (i + 3)) μx μm hRel
  refine g_aload_n (pc := 1028) (i := 1) (j := 2) C dL_law_1028 rfl rfl ?_
  refine g_aload_n (pc := 1029) (i := 0) (j := 3) C dL_law_1029 rfl rfl ?_
  refine g_iload_n (pc := 1030) (i := 3) (j := 0) C dL_law_1030 rfl rfl ?_
  refine g_iconst (pc := 1031) C dL_law_1031 ci_1 ?_
  refine g_iadd (pc := 1032) C dL_law_1032 ?_
  refine l_ald (pc := 1033) (j := i + 1) C E (by omega) (by omega) (nI_plus i 1) dL_law_1033 ?_
  refine g_aload_n (pc := 1034) (i := 0) (j := 3) C dL_law_1034 rfl rfl ?_
  refine g_iload_n (pc := 1035) (i := 3) (j := 0) C dL_law_1035 rfl rfl ?_
  refine g_iconst (pc := 1036) C dL_law_1036 ci_2 ?_
  refine g_iadd (pc := 1037) C dL_law_1037 ?_
  refine l_ald (pc := 1038) (j := i + 2) C E (by omega) (by omega) (nI_plus i 2) dL_law_1038 ?_
  refine g_aload_n (pc := 1039) (i := 0) (j := 3) C dL_law_1039 rfl rfl ?_
  refine g_iload_n (pc := 1040) (i := 3) (j := 0) C dL_law_1040 rfl rfl ?_
  refine g_iconst (pc := 1041) C dL_law_1041 ci_3 ?_
  refine g_iadd (pc := 1042) C dL_law_1042 ?_
  refine l_ald (pc := 1043) (j := i + 3) C E (by omega) (by omega) (nI_plus i 3) dL_law_1043 ?_
  refine l_callX (pc := 1044) (st := []) C E lkL_126 (As := [.int (xs (i + 1)), .int (xs (i + 2)), .int (xs (i + 3))]) rfl (kX7_join (kl κ) εx (xs (i + 1)) (xs (i + 2)) (xs (i + 3)) μx (r, μx') hx) (by decide) rfl (Nat.le_of_ble_eq_true rfl) dL_law_1044 ?_
  show G κ (Vl (kS κ) εx εm μx' μm A) 4 1047 [(3, .int (nI i)), (2, .ref (ea εm 0)), (1, .ref (ea εx 0)), (0, .ref b)] [.int r]
  refine g_aload_n (pc := 1047) (i := 2) (j := 1) C dL_law_1047 rfl rfl ?_
  refine g_aload_n (pc := 1048) (i := 0) (j := 3) C dL_law_1048 rfl rfl ?_
  refine g_iload_n (pc := 1049) (i := 3) (j := 0) C dL_law_1049 rfl rfl ?_
  refine g_iconst (pc := 1050) C dL_law_1050 ci_1 ?_
  refine g_iadd (pc := 1051) C dL_law_1051 ?_
  refine l_ald (pc := 1052) (j := i + 1) C E (by omega) (by omega) (nI_plus i 1) dL_law_1052 ?_
  refine g_aload_n (pc := 1053) (i := 0) (j := 3) C dL_law_1053 rfl rfl ?_
  refine g_iload_n (pc := 1054) (i := 3) (j := 0) C dL_law_1054 rfl rfl ?_
  refine g_iconst (pc := 1055) C dL_law_1055 ci_2 ?_
  refine g_iadd (pc := 1056) C dL_law_1056 ?_
  refine l_ald (pc := 1057) (j := i + 2) C E (by omega) (by omega) (nI_plus i 2) dL_law_1057 ?_
  refine g_aload_n (pc := 1058) (i := 0) (j := 3) C dL_law_1058 rfl rfl ?_
  refine g_iload_n (pc := 1059) (i := 3) (j := 0) C dL_law_1059 rfl rfl ?_
  refine g_iconst (pc := 1060) C dL_law_1060 ci_3 ?_
  refine g_iadd (pc := 1061) C dL_law_1061 ?_
  refine l_ald (pc := 1062) (j := i + 3) C E (by omega) (by omega) (nI_plus i 3) dL_law_1062 ?_
  refine l_callM (pc := 1063) (st := [.int r]) C E lkL_129 (As := [.int (xs (i + 1)), .int (xs (i + 2)), .int (xs (i + 3))]) rfl (kX8_join (kl κ) εm (xs (i + 1)) (xs (i + 2)) (xs (i + 3)) μm (r, μm') hm) (by decide) rfl (Nat.le_of_ble_eq_true rfl) dL_law_1063 ?_
  show G κ (Vl (kS κ) εx εm μx' μm' A) 4 1066 [(3, .int (nI i)), (2, .ref (ea εm 0)), (1, .ref (ea εx 0)), (0, .ref b)] [.int r, .int r]
  exact l_eqi (pc := 1066) (tgt := 1285) C rfl dL_law_1066 rfl (next μx' μm' hR)
set_option maxRecDepth 100000 in
set_option maxHeartbeats 4000000 in
theorem lw_c27 {Rel : Mm → Mm → Prop} (hst : St_cut Rel) {κ : Kx} {εx εm : Ev} {A : Nat → Prop} {b L i : Nat} {xs : Nat → Int32} (C : Cf κ code 4 RL (some .boolean) 40) (E : Lc κ εx εm A b L xs) (hL : L ≤ 2048) (hi : i + 4 ≤ L) {μx μm : Mm} (hRel : Rel μx μm) (next : ∀ μx' μm', Rel μx' μm' → G κ (Vl (kS κ) εx εm μx' μm' A) 4 1285 [(3, .int (nI i)), (2, .ref (ea εm 0)), (1, .ref (ea εx 0)), (0, .ref b)] []) : G κ (Vl (kS κ) εx εm μx μm A) 4 1071 [(3, .int (nI i)), (2, .ref (ea εm 0)), (1, .ref (ea εx 0)), (0, .ref b)] [] := by
  obtain ⟨r, μx', μm', hx, hm, hR⟩ := hst (xs (i + 1)) (xs (i + 2)) (xs (i + 3)) μx μm hRel
  refine g_aload_n (pc := 1071) (i := 1) (j := 2) C dL_law_1071 rfl rfl ?_
  refine g_aload_n (pc := 1072) (i := 0) (j := 3) C dL_law_1072 rfl rfl ?_
  refine g_iload_n (pc := 1073) (i := 3) (j := 0) C dL_law_1073 rfl rfl ?_
  refine g_iconst (pc := 1074) C dL_law_1074 ci_1 ?_
  refine g_iadd (pc := 1075) C dL_law_1075 ?_
  refine l_ald (pc := 1076) (j := i + 1) C E (by omega) (by omega) (nI_plus i 1) dL_law_1076 ?_
  refine g_aload_n (pc := 1077) (i := 0) (j := 3) C dL_law_1077 rfl rfl ?_
  refine g_iload_n (pc := 1078) (i := 3) (j := 0) C dL_law_1078 rfl rfl ?_
  refine g_iconst (pc := 1079) C dL_law_1079 ci_2 ?_
  refine g_iadd (pc := 1080) C dL_law_1080 ?_
  refine l_ald (pc := 1081) (j := i + 2) C E (by omega) (by omega) (nI_plus i 2) dL_law_1081 ?_
  refine g_aload_n (pc := 1082) (i := 0) (j := 3) C dL_law_1082 rfl rfl ?_
  refine g_iload_n (pc := 1083) (i := 3) (j := 0) C dL_law_1083 rfl rfl ?_
  refine g_iconst (pc := 1084) C dL_law_1084 ci_3 ?_
  refine g_iadd (pc := 1085) C dL_law_1085 ?_
  refine l_ald (pc := 1086) (j := i + 3) C E (by omega) (by omega) (nI_plus i 3) dL_law_1086 ?_
  refine l_callX (pc := 1087) (st := []) C E lkL_130 (As := [.int (xs (i + 1)), .int (xs (i + 2)), .int (xs (i + 3))]) rfl (kX7_cut (kl κ) εx (xs (i + 1)) (xs (i + 2)) (xs (i + 3)) μx (r, μx') hx) (by decide) rfl (Nat.le_of_ble_eq_true rfl) dL_law_1087 ?_
  show G κ (Vl (kS κ) εx εm μx' μm A) 4 1090 [(3, .int (nI i)), (2, .ref (ea εm 0)), (1, .ref (ea εx 0)), (0, .ref b)] [.int r]
  refine g_aload_n (pc := 1090) (i := 2) (j := 1) C dL_law_1090 rfl rfl ?_
  refine g_aload_n (pc := 1091) (i := 0) (j := 3) C dL_law_1091 rfl rfl ?_
  refine g_iload_n (pc := 1092) (i := 3) (j := 0) C dL_law_1092 rfl rfl ?_
  refine g_iconst (pc := 1093) C dL_law_1093 ci_1 ?_
  refine g_iadd (pc := 1094) C dL_law_1094 ?_
  refine l_ald (pc := 1095) (j := i + 1) C E (by omega) (by omega) (nI_plus i 1) dL_law_1095 ?_
  refine g_aload_n (pc := 1096) (i := 0) (j := 3) C dL_law_1096 rfl rfl ?_
  refine g_iload_n (pc := 1097) (i := 3) (j := 0) C dL_law_1097 rfl rfl ?_
  refine g_iconst (pc := 1098) C dL_law_1098 ci_2 ?_
  refine g_iadd (pc := 1099) C dL_law_1099 ?_
  refine l_ald (pc := 1100) (j := i + 2) C E (by omega) (by omega) (nI_plus i 2) dL_law_1100 ?_
  refine g_aload_n (pc := 1101) (i := 0) (j := 3) C dL_law_1101 rfl rfl ?_
  refine g_iload_n (pc := 1102) (i := 3) (j := 0) C dL_law_1102 rfl rfl ?_
  refine g_iconst (pc := 1103) C dL_law_1103 ci_3 ?_
  refine g_iadd (pc := 1104) C dL_law_1104 ?_
  refine l_ald (pc := 1105) (j := i + 3) C E (by omega) (by omega) (nI_plus i 3) dL_law_1105 ?_
  refine l_callM (pc := 1106) (st := [.int r]) C E lkL_133 (As := [.int (xs (i + 1)), .int (xs (i + 2)), .int (xs (i + 3))]) rfl (kX8_cut (kl κ) εm (xs (i + 1)) (xs (i + 2)) (xs (i + 3)) μm (r, μm') hm) (by decide) rfl (Nat.le_of_ble_eq_true rfl) dL_law_1106 ?_
  show G κ (Vl (kS κ) εx εm μx' μm' A) 4 1109 [(3, .int (nI i)), (2, .ref (ea εm 0)), (1, .ref (ea εx 0)), (0, .ref b)] [.int r, .int r]
  exact l_eqi (pc := 1109) (tgt := 1285) C rfl dL_law_1109 rfl (next μx' μm' hR)
set_option maxRecDepth 100000 in
set_option maxHeartbeats 4000000 in
theorem lw_c28 {Rel : Mm → Mm → Prop} (hst : St_alike Rel) {κ : Kx} {εx εm : Ev} {A : Nat → Prop} {b L i : Nat} {xs : Nat → Int32} (C : Cf κ code 4 RL (some .boolean) 40) (E : Lc κ εx εm A b L xs) (hL : L ≤ 2048) (hi : i + 4 ≤ L) {μx μm : Mm} (hRel : Rel μx μm) (next : ∀ μx' μm', Rel μx' μm' → G κ (Vl (kS κ) εx εm μx' μm' A) 4 1285 [(3, .int (nI i)), (2, .ref (ea εm 0)), (1, .ref (ea εx 0)), (0, .ref b)] []) : G κ (Vl (kS κ) εx εm μx μm A) 4 1114 [(3, .int (nI i)), (2, .ref (ea εm 0)), (1, .ref (ea εx 0)), (0, .ref b)] [] := by
  obtain ⟨r, μm', hx, hm, hR⟩ := hst (xs (i + 1)) (xs (i + 2)) μx μm hRel
  refine g_aload_n (pc := 1114) (i := 1) (j := 2) C dL_law_1114 rfl rfl ?_
  refine g_aload_n (pc := 1115) (i := 0) (j := 3) C dL_law_1115 rfl rfl ?_
  refine g_iload_n (pc := 1116) (i := 3) (j := 0) C dL_law_1116 rfl rfl ?_
  refine g_iconst (pc := 1117) C dL_law_1117 ci_1 ?_
  refine g_iadd (pc := 1118) C dL_law_1118 ?_
  refine l_ald (pc := 1119) (j := i + 1) C E (by omega) (by omega) (nI_plus i 1) dL_law_1119 ?_
  refine g_aload_n (pc := 1120) (i := 0) (j := 3) C dL_law_1120 rfl rfl ?_
  refine g_iload_n (pc := 1121) (i := 3) (j := 0) C dL_law_1121 rfl rfl ?_
  refine g_iconst (pc := 1122) C dL_law_1122 ci_2 ?_
  refine g_iadd (pc := 1123) C dL_law_1123 ?_
  refine l_ald (pc := 1124) (j := i + 2) C E (by omega) (by omega) (nI_plus i 2) dL_law_1124 ?_
  refine l_callX (pc := 1125) (st := []) C E lkL_134 (As := [.int (xs (i + 1)), .int (xs (i + 2))]) rfl (kX7_alike (kl κ) εx (xs (i + 1)) (xs (i + 2)) μx r hx) (by decide) rfl (Nat.le_of_ble_eq_true rfl) dL_law_1125 ?_
  show G κ (Vl (kS κ) εx εm μx μm A) 4 1128 [(3, .int (nI i)), (2, .ref (ea εm 0)), (1, .ref (ea εx 0)), (0, .ref b)] [.int r]
  refine g_aload_n (pc := 1128) (i := 2) (j := 1) C dL_law_1128 rfl rfl ?_
  refine g_aload_n (pc := 1129) (i := 0) (j := 3) C dL_law_1129 rfl rfl ?_
  refine g_iload_n (pc := 1130) (i := 3) (j := 0) C dL_law_1130 rfl rfl ?_
  refine g_iconst (pc := 1131) C dL_law_1131 ci_1 ?_
  refine g_iadd (pc := 1132) C dL_law_1132 ?_
  refine l_ald (pc := 1133) (j := i + 1) C E (by omega) (by omega) (nI_plus i 1) dL_law_1133 ?_
  refine g_aload_n (pc := 1134) (i := 0) (j := 3) C dL_law_1134 rfl rfl ?_
  refine g_iload_n (pc := 1135) (i := 3) (j := 0) C dL_law_1135 rfl rfl ?_
  refine g_iconst (pc := 1136) C dL_law_1136 ci_2 ?_
  refine g_iadd (pc := 1137) C dL_law_1137 ?_
  refine l_ald (pc := 1138) (j := i + 2) C E (by omega) (by omega) (nI_plus i 2) dL_law_1138 ?_
  refine l_callM (pc := 1139) (st := [.int r]) C E lkL_137 (As := [.int (xs (i + 1)), .int (xs (i + 2))]) rfl (kX8_alike (kl κ) εm (xs (i + 1)) (xs (i + 2)) μm (r, μm') hm) (by decide) rfl (Nat.le_of_ble_eq_true rfl) dL_law_1139 ?_
  show G κ (Vl (kS κ) εx εm μx μm' A) 4 1142 [(3, .int (nI i)), (2, .ref (ea εm 0)), (1, .ref (ea εx 0)), (0, .ref b)] [.int r, .int r]
  exact l_eqi (pc := 1142) (tgt := 1285) C rfl dL_law_1142 rfl (next μx μm' hR)
set_option maxRecDepth 100000 in
set_option maxHeartbeats 4000000 in
theorem lw_c29 {Rel : Mm → Mm → Prop} (hst : St_unlike Rel) {κ : Kx} {εx εm : Ev} {A : Nat → Prop} {b L i : Nat} {xs : Nat → Int32} (C : Cf κ code 4 RL (some .boolean) 40) (E : Lc κ εx εm A b L xs) (hL : L ≤ 2048) (hi : i + 4 ≤ L) {μx μm : Mm} (hRel : Rel μx μm) (next : ∀ μx' μm', Rel μx' μm' → G κ (Vl (kS κ) εx εm μx' μm' A) 4 1285 [(3, .int (nI i)), (2, .ref (ea εm 0)), (1, .ref (ea εx 0)), (0, .ref b)] []) : G κ (Vl (kS κ) εx εm μx μm A) 4 1147 [(3, .int (nI i)), (2, .ref (ea εm 0)), (1, .ref (ea εx 0)), (0, .ref b)] [] := by
  obtain ⟨r, hx, hm, hR⟩ := hst (xs (i + 1)) μx μm hRel
  refine g_aload_n (pc := 1147) (i := 1) (j := 2) C dL_law_1147 rfl rfl ?_
  refine g_aload_n (pc := 1148) (i := 0) (j := 3) C dL_law_1148 rfl rfl ?_
  refine g_iload_n (pc := 1149) (i := 3) (j := 0) C dL_law_1149 rfl rfl ?_
  refine g_iconst (pc := 1150) C dL_law_1150 ci_1 ?_
  refine g_iadd (pc := 1151) C dL_law_1151 ?_
  refine l_ald (pc := 1152) (j := i + 1) C E (by omega) (by omega) (nI_plus i 1) dL_law_1152 ?_
  refine l_callX (pc := 1153) (st := []) C E lkL_138 (As := [.int (xs (i + 1))]) rfl (kX7_unlike (kl κ) εx (xs (i + 1)) μx r hx) (by decide) rfl (Nat.le_of_ble_eq_true rfl) dL_law_1153 ?_
  show G κ (Vl (kS κ) εx εm μx μm A) 4 1156 [(3, .int (nI i)), (2, .ref (ea εm 0)), (1, .ref (ea εx 0)), (0, .ref b)] [.int r]
  refine g_aload_n (pc := 1156) (i := 2) (j := 1) C dL_law_1156 rfl rfl ?_
  refine g_aload_n (pc := 1157) (i := 0) (j := 3) C dL_law_1157 rfl rfl ?_
  refine g_iload_n (pc := 1158) (i := 3) (j := 0) C dL_law_1158 rfl rfl ?_
  refine g_iconst (pc := 1159) C dL_law_1159 ci_1 ?_
  refine g_iadd (pc := 1160) C dL_law_1160 ?_
  refine l_ald (pc := 1161) (j := i + 1) C E (by omega) (by omega) (nI_plus i 1) dL_law_1161 ?_
  refine l_callM (pc := 1162) (st := [.int r]) C E lkL_141 (As := [.int (xs (i + 1))]) rfl (kX8_unlike (kl κ) εm (xs (i + 1)) μm r hm) (by decide) rfl (Nat.le_of_ble_eq_true rfl) dL_law_1162 ?_
  show G κ (Vl (kS κ) εx εm μx μm A) 4 1165 [(3, .int (nI i)), (2, .ref (ea εm 0)), (1, .ref (ea εx 0)), (0, .ref b)] [.int r, .int r]
  exact l_eqi (pc := 1165) (tgt := 1285) C rfl dL_law_1165 rfl (next μx μm hR)
set_option maxRecDepth 100000 in
set_option maxHeartbeats 4000000 in
theorem lw_c30 {Rel : Mm → Mm → Prop} (hst : St_total Rel) {κ : Kx} {εx εm : Ev} {A : Nat → Prop} {b L i : Nat} {xs : Nat → Int32} (C : Cf κ code 4 RL (some .boolean) 40) (E : Lc κ εx εm A b L xs) (hL : L ≤ 2048) (hi : i + 4 ≤ L) {μx μm : Mm} (hRel : Rel μx μm) (next : ∀ μx' μm', Rel μx' μm' → G κ (Vl (kS κ) εx εm μx' μm' A) 4 1285 [(3, .int (nI i)), (2, .ref (ea εm 0)), (1, .ref (ea εx 0)), (0, .ref b)] []) : G κ (Vl (kS κ) εx εm μx μm A) 4 1170 [(3, .int (nI i)), (2, .ref (ea εm 0)), (1, .ref (ea εx 0)), (0, .ref b)] [] := by
  obtain ⟨r, μx', μm', hx, hm, hR⟩ := hst (xs (i + 1)) (xs (i + 2)) μx μm hRel
  refine g_aload_n (pc := 1170) (i := 1) (j := 2) C dL_law_1170 rfl rfl ?_
  refine g_aload_n (pc := 1171) (i := 0) (j := 3) C dL_law_1171 rfl rfl ?_
  refine g_iload_n (pc := 1172) (i := 3) (j := 0) C dL_law_1172 rfl rfl ?_
  refine g_iconst (pc := 1173) C dL_law_1173 ci_1 ?_
  refine g_iadd (pc := 1174) C dL_law_1174 ?_
  refine l_ald (pc := 1175) (j := i + 1) C E (by omega) (by omega) (nI_plus i 1) dL_law_1175 ?_
  refine g_aload_n (pc := 1176) (i := 0) (j := 3) C dL_law_1176 rfl rfl ?_
  refine g_iload_n (pc := 1177) (i := 3) (j := 0) C dL_law_1177 rfl rfl ?_
  refine g_iconst (pc := 1178) C dL_law_1178 ci_2 ?_
  refine g_iadd (pc := 1179) C dL_law_1179 ?_
  refine l_ald (pc := 1180) (j := i + 2) C E (by omega) (by omega) (nI_plus i 2) dL_law_1180 ?_
  refine l_callX (pc := 1181) (st := []) C E lkL_142 (As := [.int (xs (i + 1)), .int (xs (i + 2))]) rfl (kX7_total (kl κ) εx (xs (i + 1)) (xs (i + 2)) μx (r, μx') hx) (by decide) rfl (Nat.le_of_ble_eq_true rfl) dL_law_1181 ?_
  show G κ (Vl (kS κ) εx εm μx' μm A) 4 1184 [(3, .int (nI i)), (2, .ref (ea εm 0)), (1, .ref (ea εx 0)), (0, .ref b)] [.int r]
  refine g_aload_n (pc := 1184) (i := 2) (j := 1) C dL_law_1184 rfl rfl ?_
  refine g_aload_n (pc := 1185) (i := 0) (j := 3) C dL_law_1185 rfl rfl ?_
  refine g_iload_n (pc := 1186) (i := 3) (j := 0) C dL_law_1186 rfl rfl ?_
  refine g_iconst (pc := 1187) C dL_law_1187 ci_1 ?_
  refine g_iadd (pc := 1188) C dL_law_1188 ?_
  refine l_ald (pc := 1189) (j := i + 1) C E (by omega) (by omega) (nI_plus i 1) dL_law_1189 ?_
  refine g_aload_n (pc := 1190) (i := 0) (j := 3) C dL_law_1190 rfl rfl ?_
  refine g_iload_n (pc := 1191) (i := 3) (j := 0) C dL_law_1191 rfl rfl ?_
  refine g_iconst (pc := 1192) C dL_law_1192 ci_2 ?_
  refine g_iadd (pc := 1193) C dL_law_1193 ?_
  refine l_ald (pc := 1194) (j := i + 2) C E (by omega) (by omega) (nI_plus i 2) dL_law_1194 ?_
  refine l_callM (pc := 1195) (st := [.int r]) C E lkL_145 (As := [.int (xs (i + 1)), .int (xs (i + 2))]) rfl (kX8_total (kl κ) εm (xs (i + 1)) (xs (i + 2)) μm (r, μm') hm) (by decide) rfl (Nat.le_of_ble_eq_true rfl) dL_law_1195 ?_
  show G κ (Vl (kS κ) εx εm μx' μm' A) 4 1198 [(3, .int (nI i)), (2, .ref (ea εm 0)), (1, .ref (ea εx 0)), (0, .ref b)] [.int r, .int r]
  exact l_eqi (pc := 1198) (tgt := 1285) C rfl dL_law_1198 rfl (next μx' μm' hR)
set_option maxRecDepth 100000 in
set_option maxHeartbeats 4000000 in
theorem lw_c31 {Rel : Mm → Mm → Prop} (hst : St_see Rel) {κ : Kx} {εx εm : Ev} {A : Nat → Prop} {b L i : Nat} {xs : Nat → Int32} (C : Cf κ code 4 RL (some .boolean) 40) (E : Lc κ εx εm A b L xs) (hL : L ≤ 2048) (hi : i + 4 ≤ L) {μx μm : Mm} (hRel : Rel μx μm) (next : ∀ μx' μm', Rel μx' μm' → G κ (Vl (kS κ) εx εm μx' μm' A) 4 1285 [(3, .int (nI i)), (2, .ref (ea εm 0)), (1, .ref (ea εx 0)), (0, .ref b)] []) : G κ (Vl (kS κ) εx εm μx μm A) 4 1203 [(3, .int (nI i)), (2, .ref (ea εm 0)), (1, .ref (ea εx 0)), (0, .ref b)] [] := by
  obtain ⟨r, μx', μm', hx, hm, hR⟩ := hst (xs (i + 1)) (xs (i + 2)) (xs (i + 3)) μx μm hRel
  refine g_aload_n (pc := 1203) (i := 1) (j := 2) C dL_law_1203 rfl rfl ?_
  refine g_aload_n (pc := 1204) (i := 0) (j := 3) C dL_law_1204 rfl rfl ?_
  refine g_iload_n (pc := 1205) (i := 3) (j := 0) C dL_law_1205 rfl rfl ?_
  refine g_iconst (pc := 1206) C dL_law_1206 ci_1 ?_
  refine g_iadd (pc := 1207) C dL_law_1207 ?_
  refine l_ald (pc := 1208) (j := i + 1) C E (by omega) (by omega) (nI_plus i 1) dL_law_1208 ?_
  refine g_aload_n (pc := 1209) (i := 0) (j := 3) C dL_law_1209 rfl rfl ?_
  refine g_iload_n (pc := 1210) (i := 3) (j := 0) C dL_law_1210 rfl rfl ?_
  refine g_iconst (pc := 1211) C dL_law_1211 ci_2 ?_
  refine g_iadd (pc := 1212) C dL_law_1212 ?_
  refine l_ald (pc := 1213) (j := i + 2) C E (by omega) (by omega) (nI_plus i 2) dL_law_1213 ?_
  refine g_aload_n (pc := 1214) (i := 0) (j := 3) C dL_law_1214 rfl rfl ?_
  refine g_iload_n (pc := 1215) (i := 3) (j := 0) C dL_law_1215 rfl rfl ?_
  refine g_iconst (pc := 1216) C dL_law_1216 ci_3 ?_
  refine g_iadd (pc := 1217) C dL_law_1217 ?_
  refine l_ald (pc := 1218) (j := i + 3) C E (by omega) (by omega) (nI_plus i 3) dL_law_1218 ?_
  refine l_callX (pc := 1219) (st := []) C E lkL_146 (As := [.int (xs (i + 1)), .int (xs (i + 2)), .int (xs (i + 3))]) rfl (kX7_see (kl κ) εx (xs (i + 1)) (xs (i + 2)) (xs (i + 3)) μx (r, μx') hx) (by decide) rfl (Nat.le_of_ble_eq_true rfl) dL_law_1219 ?_
  show G κ (Vl (kS κ) εx εm μx' μm A) 4 1222 [(3, .int (nI i)), (2, .ref (ea εm 0)), (1, .ref (ea εx 0)), (0, .ref b)] [.int r]
  refine g_aload_n (pc := 1222) (i := 2) (j := 1) C dL_law_1222 rfl rfl ?_
  refine g_aload_n (pc := 1223) (i := 0) (j := 3) C dL_law_1223 rfl rfl ?_
  refine g_iload_n (pc := 1224) (i := 3) (j := 0) C dL_law_1224 rfl rfl ?_
  refine g_iconst (pc := 1225) C dL_law_1225 ci_1 ?_
  refine g_iadd (pc := 1226) C dL_law_1226 ?_
  refine l_ald (pc := 1227) (j := i + 1) C E (by omega) (by omega) (nI_plus i 1) dL_law_1227 ?_
  refine g_aload_n (pc := 1228) (i := 0) (j := 3) C dL_law_1228 rfl rfl ?_
  refine g_iload_n (pc := 1229) (i := 3) (j := 0) C dL_law_1229 rfl rfl ?_
  refine g_iconst (pc := 1230) C dL_law_1230 ci_2 ?_
  refine g_iadd (pc := 1231) C dL_law_1231 ?_
  refine l_ald (pc := 1232) (j := i + 2) C E (by omega) (by omega) (nI_plus i 2) dL_law_1232 ?_
  refine g_aload_n (pc := 1233) (i := 0) (j := 3) C dL_law_1233 rfl rfl ?_
  refine g_iload_n (pc := 1234) (i := 3) (j := 0) C dL_law_1234 rfl rfl ?_
  refine g_iconst (pc := 1235) C dL_law_1235 ci_3 ?_
  refine g_iadd (pc := 1236) C dL_law_1236 ?_
  refine l_ald (pc := 1237) (j := i + 3) C E (by omega) (by omega) (nI_plus i 3) dL_law_1237 ?_
  refine l_callM (pc := 1238) (st := [.int r]) C E lkL_149 (As := [.int (xs (i + 1)), .int (xs (i + 2)), .int (xs (i + 3))]) rfl (kX8_see (kl κ) εm (xs (i + 1)) (xs (i + 2)) (xs (i + 3)) μm (r, μm') hm) (by decide) rfl (Nat.le_of_ble_eq_true rfl) dL_law_1238 ?_
  show G κ (Vl (kS κ) εx εm μx' μm' A) 4 1241 [(3, .int (nI i)), (2, .ref (ea εm 0)), (1, .ref (ea εx 0)), (0, .ref b)] [.int r, .int r]
  exact l_eqi (pc := 1241) (tgt := 1285) C rfl dL_law_1241 rfl (next μx' μm' hR)
set_option maxRecDepth 100000 in
set_option maxHeartbeats 4000000 in
theorem lw_c32 {Rel : Mm → Mm → Prop} (hst : St_unsee Rel) {κ : Kx} {εx εm : Ev} {A : Nat → Prop} {b L i : Nat} {xs : Nat → Int32} (C : Cf κ code 4 RL (some .boolean) 40) (E : Lc κ εx εm A b L xs) (hL : L ≤ 2048) (hi : i + 4 ≤ L) {μx μm : Mm} (hRel : Rel μx μm) (next : ∀ μx' μm', Rel μx' μm' → G κ (Vl (kS κ) εx εm μx' μm' A) 4 1285 [(3, .int (nI i)), (2, .ref (ea εm 0)), (1, .ref (ea εx 0)), (0, .ref b)] []) : G κ (Vl (kS κ) εx εm μx μm A) 4 1246 [(3, .int (nI i)), (2, .ref (ea εm 0)), (1, .ref (ea εx 0)), (0, .ref b)] [] := by
  obtain ⟨r, μx', μm', hx, hm, hR⟩ := hst  μx μm hRel
  refine g_aload_n (pc := 1246) (i := 1) (j := 2) C dL_law_1246 rfl rfl ?_
  refine l_callX (pc := 1247) (st := []) C E lkL_150 (As := []) rfl (kX7_unsee (kl κ) εx μx (r, μx') hx) (by decide) rfl (Nat.le_of_ble_eq_true rfl) dL_law_1247 ?_
  show G κ (Vl (kS κ) εx εm μx' μm A) 4 1250 [(3, .int (nI i)), (2, .ref (ea εm 0)), (1, .ref (ea εx 0)), (0, .ref b)] [.int r]
  refine g_aload_n (pc := 1250) (i := 2) (j := 1) C dL_law_1250 rfl rfl ?_
  refine l_callM (pc := 1251) (st := [.int r]) C E lkL_153 (As := []) rfl (kX8_unsee (kl κ) εm μm (r, μm') hm) (by decide) rfl (Nat.le_of_ble_eq_true rfl) dL_law_1251 ?_
  show G κ (Vl (kS κ) εx εm μx' μm' A) 4 1254 [(3, .int (nI i)), (2, .ref (ea εm 0)), (1, .ref (ea εx 0)), (0, .ref b)] [.int r, .int r]
  exact l_eqi (pc := 1254) (tgt := 1285) C rfl dL_law_1254 rfl (next μx' μm' hR)
set_option maxRecDepth 100000 in
set_option maxHeartbeats 4000000 in
theorem lw_c33 {Rel : Mm → Mm → Prop} (hst : St_which Rel) {κ : Kx} {εx εm : Ev} {A : Nat → Prop} {b L i : Nat} {xs : Nat → Int32} (C : Cf κ code 4 RL (some .boolean) 40) (E : Lc κ εx εm A b L xs) (hL : L ≤ 2048) (hi : i + 4 ≤ L) {μx μm : Mm} (hRel : Rel μx μm) (next : ∀ μx' μm', Rel μx' μm' → G κ (Vl (kS κ) εx εm μx' μm' A) 4 1285 [(3, .int (nI i)), (2, .ref (ea εm 0)), (1, .ref (ea εx 0)), (0, .ref b)] []) : G κ (Vl (kS κ) εx εm μx μm A) 4 1259 [(3, .int (nI i)), (2, .ref (ea εm 0)), (1, .ref (ea εx 0)), (0, .ref b)] [] := by
  obtain ⟨r, hx, hm, hR⟩ := hst  μx μm hRel
  refine g_aload_n (pc := 1259) (i := 1) (j := 2) C dL_law_1259 rfl rfl ?_
  refine l_callX (pc := 1260) (st := []) C E lkL_154 (As := []) rfl (kX7_which (kl κ) εx μx r hx) (by decide) rfl (Nat.le_of_ble_eq_true rfl) dL_law_1260 ?_
  show G κ (Vl (kS κ) εx εm μx μm A) 4 1263 [(3, .int (nI i)), (2, .ref (ea εm 0)), (1, .ref (ea εx 0)), (0, .ref b)] [.int r]
  refine g_aload_n (pc := 1263) (i := 2) (j := 1) C dL_law_1263 rfl rfl ?_
  refine l_callM (pc := 1264) (st := [.int r]) C E lkL_157 (As := []) rfl (kX8_which (kl κ) εm μm r hm) (by decide) rfl (Nat.le_of_ble_eq_true rfl) dL_law_1264 ?_
  show G κ (Vl (kS κ) εx εm μx μm A) 4 1267 [(3, .int (nI i)), (2, .ref (ea εm 0)), (1, .ref (ea εx 0)), (0, .ref b)] [.int r, .int r]
  exact l_eqi (pc := 1267) (tgt := 1285) C rfl dL_law_1267 rfl (next μx μm hR)
set_option maxRecDepth 100000 in
set_option maxHeartbeats 4000000 in
theorem lw_c34 {Rel : Mm → Mm → Prop} (hst : St_undo Rel) {κ : Kx} {εx εm : Ev} {A : Nat → Prop} {b L i : Nat} {xs : Nat → Int32} (C : Cf κ code 4 RL (some .boolean) 40) (E : Lc κ εx εm A b L xs) (hL : L ≤ 2048) (hi : i + 4 ≤ L) {μx μm : Mm} (hRel : Rel μx μm) (next : ∀ μx' μm', Rel μx' μm' → G κ (Vl (kS κ) εx εm μx' μm' A) 4 1285 [(3, .int (nI i)), (2, .ref (ea εm 0)), (1, .ref (ea εx 0)), (0, .ref b)] []) : G κ (Vl (kS κ) εx εm μx μm A) 4 1272 [(3, .int (nI i)), (2, .ref (ea εm 0)), (1, .ref (ea εx 0)), (0, .ref b)] [] := by
  obtain ⟨r, μx', μm', hx, hm, hR⟩ := hst  μx μm hRel
  refine g_aload_n (pc := 1272) (i := 1) (j := 2) C dL_law_1272 rfl rfl ?_
  refine l_callX (pc := 1273) (st := []) C E lkL_158 (As := []) rfl (kX7_undo (kl κ) εx μx (r, μx') hx) (by decide) rfl (Nat.le_of_ble_eq_true rfl) dL_law_1273 ?_
  show G κ (Vl (kS κ) εx εm μx' μm A) 4 1276 [(3, .int (nI i)), (2, .ref (ea εm 0)), (1, .ref (ea εx 0)), (0, .ref b)] [.int r]
  refine g_aload_n (pc := 1276) (i := 2) (j := 1) C dL_law_1276 rfl rfl ?_
  refine l_callM (pc := 1277) (st := [.int r]) C E lkL_161 (As := []) rfl (kX8_undo (kl κ) εm μm (r, μm') hm) (by decide) rfl (Nat.le_of_ble_eq_true rfl) dL_law_1277 ?_
  show G κ (Vl (kS κ) εx εm μx' μm' A) 4 1280 [(3, .int (nI i)), (2, .ref (ea εm 0)), (1, .ref (ea εx 0)), (0, .ref b)] [.int r, .int r]
  exact l_eqi (pc := 1280) (tgt := 1285) C rfl dL_law_1280 rfl (next μx' μm' hR)
