section
variable {p : Program} {l : Launch} {e : Env} {s : State} {m : MethodId} {below : List Frame} {meth : Method} {c : Code} {G : GT} {b L : Nat} {xs : Nat → Int32}
set_option maxHeartbeats 4000000 in
set_option maxRecDepth 100000 in
theorem lcase_0 (hC : CallFix p m c cL_law 4 s #[Value.ref b] TB RL) (hKG : KK G s) (hAG : ∀ a, AG G a → s.heap.size ≤ a) (hSG : ∀ (H : Heap) (locs : List Loc), va_S (fun q => s.heap.size ≤ q) s.heap H locs → SG G s H) (hn : ∀ i ∈ LsF, i ∈ gL G) (hX : va_X b L xs s s.heap) (hbl : b < s.heap.size) (hbA : ¬ (fun q : Nat => s.heap.size ≤ q) b) {x3 : Int32} (hin : ∀ j : Int32, (0 ≤ j ∧ j ≤ 5) → vp_in (x3 + j) L) {M M2 : Mem} (hop : RunOp 0 (xs (x3 + 1).toNatClampNeg) (xs (x3 + 2).toNatClampNeg) (xs (x3 + 3).toNatClampNeg) (xs (x3 + 4).toNatClampNeg) (xs (x3 + 5).toNatClampNeg) M M2) {H : Heap} {locs : List Loc} {ls : Array Slot} (hP : PP G M H) (hS : va_S (fun q => s.heap.size ≤ q) s.heap H locs) (hl : lv_has ls 4 [(0, .ref b), (1, .ref (G.1 50)), (2, .ref (G.1 61)), (3, .int x3)]) (kk : ∀ (H1 : Heap) (locs1 : List Loc), PP G M2 H1 → va_S (fun q => s.heap.size ≤ q) s.heap H1 locs1 → W p l e room_1 s m #[Value.ref b] below meth c H1 locs1 600000 7302250 (lw_Z below #[Value.ref b] s) (F0 m 1220 ls [])) : W p l e room_1 s m #[Value.ref b] below meth c H locs 600000 7302250 (lw_Z below #[Value.ref b] s) (F0 m 180 ls []) := by
  obtain ⟨hx, hb, hml, hown, hts⟩ := id hC
  obtain ⟨r, M1, h1, h2⟩ := hop
  refine lv_aload_n hx hb dL_law_180 rfl (lv_at hl 1 rfl) ?_
  refine lv_aload_n hx hb dL_law_181 rfl (lv_at hl 0 rfl) ?_
  refine lv_iload_n hx hb dL_law_182 rfl (lv_at hl 3 rfl) ?_
  refine lv_iconst (v := 1) hx hb dL_law_183 (by decide) ?_
  refine lv_iadd hx hb dL_law_184 ?_
  refine va_sld hx hb hX hbl hbA hS (hin 1 (by decide)) dL_law_185 ?_
  refine lv_aload_n hx hb dL_law_186 rfl (lv_at hl 0 rfl) ?_
  refine lv_iload_n hx hb dL_law_187 rfl (lv_at hl 3 rfl) ?_
  refine lv_iconst (v := 2) hx hb dL_law_188 (by decide) ?_
  refine lv_iadd hx hb dL_law_189 ?_
  refine va_sld hx hb hX hbl hbA hS (hin 2 (by decide)) dL_law_190 ?_
  refine lv_aload_n hx hb dL_law_191 rfl (lv_at hl 0 rfl) ?_
  refine lv_iload_n hx hb dL_law_192 rfl (lv_at hl 3 rfl) ?_
  refine lv_iconst (v := 3) hx hb dL_law_193 (by decide) ?_
  refine lv_iadd hx hb dL_law_194 ?_
  refine va_sld hx hb hX hbl hbA hS (hin 3 (by decide)) dL_law_195 ?_
  refine cL_ (ci := 6) (i := 50) (C := RX6) (T := TX6) (N := 8) (As := [.int (xs (x3 + 1).toNatClampNeg), .int (xs (x3 + 2).toNatClampNeg), .int (xs (x3 + 3).toNatClampNeg)]) (v := some (.int r)) (rest := []) (st1 := [.int r]) hC hKG hAG (hSG _ _ hS) hP hS (hn _ (by decide)) rfl rfl (c_X6_road l G hn (xs (x3 + 1).toNatClampNeg) (xs (x3 + 2).toNatClampNeg) (xs (x3 + 3).toNatClampNeg) M r M1 h1) kV_X6_road lmL_13 ⟨Nat.le_of_ble_eq_true rfl, Nat.le_of_ble_eq_true rfl⟩ rfl hl.1 (Nat.le_of_ble_eq_true rfl) dL_law_196 ⟨Nat.le_of_ble_eq_true rfl, Nat.le_of_ble_eq_true rfl⟩ rfl (fun H locs hP hS => ?_)
  refine lv_aload_n hx hb dL_law_199 rfl (lv_at hl 2 rfl) ?_
  refine lv_aload_n hx hb dL_law_200 rfl (lv_at hl 0 rfl) ?_
  refine lv_iload_n hx hb dL_law_201 rfl (lv_at hl 3 rfl) ?_
  refine lv_iconst (v := 1) hx hb dL_law_202 (by decide) ?_
  refine lv_iadd hx hb dL_law_203 ?_
  refine va_sld hx hb hX hbl hbA hS (hin 1 (by decide)) dL_law_204 ?_
  refine lv_aload_n hx hb dL_law_205 rfl (lv_at hl 0 rfl) ?_
  refine lv_iload_n hx hb dL_law_206 rfl (lv_at hl 3 rfl) ?_
  refine lv_iconst (v := 2) hx hb dL_law_207 (by decide) ?_
  refine lv_iadd hx hb dL_law_208 ?_
  refine va_sld hx hb hX hbl hbA hS (hin 2 (by decide)) dL_law_209 ?_
  refine lv_aload_n hx hb dL_law_210 rfl (lv_at hl 0 rfl) ?_
  refine lv_iload_n hx hb dL_law_211 rfl (lv_at hl 3 rfl) ?_
  refine lv_iconst (v := 3) hx hb dL_law_212 (by decide) ?_
  refine lv_iadd hx hb dL_law_213 ?_
  refine va_sld hx hb hX hbl hbA hS (hin 3 (by decide)) dL_law_214 ?_
  refine cL_ (ci := 7) (i := 61) (C := RX7) (T := TX7) (N := 29) (As := [.int (xs (x3 + 1).toNatClampNeg), .int (xs (x3 + 2).toNatClampNeg), .int (xs (x3 + 3).toNatClampNeg)]) (v := some (.int r)) (rest := [.int r]) (st1 := [.int r, .int r]) hC hKG hAG (hSG _ _ hS) hP hS (hn _ (by decide)) rfl rfl (c_X7_road l G hn (xs (x3 + 1).toNatClampNeg) (xs (x3 + 2).toNatClampNeg) (xs (x3 + 3).toNatClampNeg) M1 r M2 h2) kV_X7_road lmL_17 ⟨Nat.le_of_ble_eq_true rfl, Nat.le_of_ble_eq_true rfl⟩ rfl hl.1 (Nat.le_of_ble_eq_true rfl) dL_law_215 ⟨Nat.le_of_ble_eq_true rfl, Nat.le_of_ble_eq_true rfl⟩ rfl (fun H locs hP hS => ?_)
  refine lv_icmp_eq (tgt := 1220) hx hb dL_law_218 (by decide) (fun _ => ?_) (fun hc => absurd rfl hc)
  exact kk H locs hP hS
set_option maxHeartbeats 4000000 in
set_option maxRecDepth 100000 in
theorem lcase_1 (hC : CallFix p m c cL_law 4 s #[Value.ref b] TB RL) (hKG : KK G s) (hAG : ∀ a, AG G a → s.heap.size ≤ a) (hSG : ∀ (H : Heap) (locs : List Loc), va_S (fun q => s.heap.size ≤ q) s.heap H locs → SG G s H) (hn : ∀ i ∈ LsF, i ∈ gL G) (hX : va_X b L xs s s.heap) (hbl : b < s.heap.size) (hbA : ¬ (fun q : Nat => s.heap.size ≤ q) b) {x3 : Int32} (hin : ∀ j : Int32, (0 ≤ j ∧ j ≤ 5) → vp_in (x3 + j) L) {M M2 : Mem} (hop : RunOp 1 (xs (x3 + 1).toNatClampNeg) (xs (x3 + 2).toNatClampNeg) (xs (x3 + 3).toNatClampNeg) (xs (x3 + 4).toNatClampNeg) (xs (x3 + 5).toNatClampNeg) M M2) {H : Heap} {locs : List Loc} {ls : Array Slot} (hP : PP G M H) (hS : va_S (fun q => s.heap.size ≤ q) s.heap H locs) (hl : lv_has ls 4 [(0, .ref b), (1, .ref (G.1 50)), (2, .ref (G.1 61)), (3, .int x3)]) (kk : ∀ (H1 : Heap) (locs1 : List Loc), PP G M2 H1 → va_S (fun q => s.heap.size ≤ q) s.heap H1 locs1 → W p l e room_1 s m #[Value.ref b] below meth c H1 locs1 600000 7302250 (lw_Z below #[Value.ref b] s) (F0 m 1220 ls [])) : W p l e room_1 s m #[Value.ref b] below meth c H locs 600000 7302250 (lw_Z below #[Value.ref b] s) (F0 m 223 ls []) := by
  obtain ⟨hx, hb, hml, hown, hts⟩ := id hC
  obtain ⟨r, M1, h1, h2⟩ := hop
  refine lv_aload_n hx hb dL_law_223 rfl (lv_at hl 1 rfl) ?_
  refine lv_aload_n hx hb dL_law_224 rfl (lv_at hl 0 rfl) ?_
  refine lv_iload_n hx hb dL_law_225 rfl (lv_at hl 3 rfl) ?_
  refine lv_iconst (v := 1) hx hb dL_law_226 (by decide) ?_
  refine lv_iadd hx hb dL_law_227 ?_
  refine va_sld hx hb hX hbl hbA hS (hin 1 (by decide)) dL_law_228 ?_
  refine lv_aload_n hx hb dL_law_229 rfl (lv_at hl 0 rfl) ?_
  refine lv_iload_n hx hb dL_law_230 rfl (lv_at hl 3 rfl) ?_
  refine lv_iconst (v := 2) hx hb dL_law_231 (by decide) ?_
  refine lv_iadd hx hb dL_law_232 ?_
  refine va_sld hx hb hX hbl hbA hS (hin 2 (by decide)) dL_law_233 ?_
  refine cL_ (ci := 6) (i := 50) (C := RX6) (T := TX6) (N := 8) (As := [.int (xs (x3 + 1).toNatClampNeg), .int (xs (x3 + 2).toNatClampNeg)]) (v := some (.int r)) (rest := []) (st1 := [.int r]) hC hKG hAG (hSG _ _ hS) hP hS (hn _ (by decide)) rfl rfl (c_X6_away l G hn (xs (x3 + 1).toNatClampNeg) (xs (x3 + 2).toNatClampNeg) M r M1 h1) kV_X6_away lmL_18 ⟨Nat.le_of_ble_eq_true rfl, Nat.le_of_ble_eq_true rfl⟩ rfl hl.1 (Nat.le_of_ble_eq_true rfl) dL_law_234 ⟨Nat.le_of_ble_eq_true rfl, Nat.le_of_ble_eq_true rfl⟩ rfl (fun H locs hP hS => ?_)
  refine lv_aload_n hx hb dL_law_237 rfl (lv_at hl 2 rfl) ?_
  refine lv_aload_n hx hb dL_law_238 rfl (lv_at hl 0 rfl) ?_
  refine lv_iload_n hx hb dL_law_239 rfl (lv_at hl 3 rfl) ?_
  refine lv_iconst (v := 1) hx hb dL_law_240 (by decide) ?_
  refine lv_iadd hx hb dL_law_241 ?_
  refine va_sld hx hb hX hbl hbA hS (hin 1 (by decide)) dL_law_242 ?_
  refine lv_aload_n hx hb dL_law_243 rfl (lv_at hl 0 rfl) ?_
  refine lv_iload_n hx hb dL_law_244 rfl (lv_at hl 3 rfl) ?_
  refine lv_iconst (v := 2) hx hb dL_law_245 (by decide) ?_
  refine lv_iadd hx hb dL_law_246 ?_
  refine va_sld hx hb hX hbl hbA hS (hin 2 (by decide)) dL_law_247 ?_
  refine cL_ (ci := 7) (i := 61) (C := RX7) (T := TX7) (N := 29) (As := [.int (xs (x3 + 1).toNatClampNeg), .int (xs (x3 + 2).toNatClampNeg)]) (v := some (.int r)) (rest := [.int r]) (st1 := [.int r, .int r]) hC hKG hAG (hSG _ _ hS) hP hS (hn _ (by decide)) rfl rfl (c_X7_away l G hn (xs (x3 + 1).toNatClampNeg) (xs (x3 + 2).toNatClampNeg) M1 r M2 h2) kV_X7_away lmL_22 ⟨Nat.le_of_ble_eq_true rfl, Nat.le_of_ble_eq_true rfl⟩ rfl hl.1 (Nat.le_of_ble_eq_true rfl) dL_law_248 ⟨Nat.le_of_ble_eq_true rfl, Nat.le_of_ble_eq_true rfl⟩ rfl (fun H locs hP hS => ?_)
  refine lv_icmp_eq (tgt := 1220) hx hb dL_law_251 (by decide) (fun _ => ?_) (fun hc => absurd rfl hc)
  exact kk H locs hP hS
set_option maxHeartbeats 4000000 in
set_option maxRecDepth 100000 in
theorem lcase_2 (hC : CallFix p m c cL_law 4 s #[Value.ref b] TB RL) (hKG : KK G s) (hAG : ∀ a, AG G a → s.heap.size ≤ a) (hSG : ∀ (H : Heap) (locs : List Loc), va_S (fun q => s.heap.size ≤ q) s.heap H locs → SG G s H) (hn : ∀ i ∈ LsF, i ∈ gL G) (hX : va_X b L xs s s.heap) (hbl : b < s.heap.size) (hbA : ¬ (fun q : Nat => s.heap.size ≤ q) b) {x3 : Int32} (hin : ∀ j : Int32, (0 ≤ j ∧ j ≤ 5) → vp_in (x3 + j) L) {M M2 : Mem} (hop : RunOp 2 (xs (x3 + 1).toNatClampNeg) (xs (x3 + 2).toNatClampNeg) (xs (x3 + 3).toNatClampNeg) (xs (x3 + 4).toNatClampNeg) (xs (x3 + 5).toNatClampNeg) M M2) {H : Heap} {locs : List Loc} {ls : Array Slot} (hP : PP G M H) (hS : va_S (fun q => s.heap.size ≤ q) s.heap H locs) (hl : lv_has ls 4 [(0, .ref b), (1, .ref (G.1 50)), (2, .ref (G.1 61)), (3, .int x3)]) (kk : ∀ (H1 : Heap) (locs1 : List Loc), PP G M2 H1 → va_S (fun q => s.heap.size ≤ q) s.heap H1 locs1 → W p l e room_1 s m #[Value.ref b] below meth c H1 locs1 600000 7302250 (lw_Z below #[Value.ref b] s) (F0 m 1220 ls [])) : W p l e room_1 s m #[Value.ref b] below meth c H locs 600000 7302250 (lw_Z below #[Value.ref b] s) (F0 m 256 ls []) := by
  obtain ⟨hx, hb, hml, hown, hts⟩ := id hC
  obtain ⟨r, M1, h1, h2⟩ := hop
  refine lv_aload_n hx hb dL_law_256 rfl (lv_at hl 1 rfl) ?_
  refine lv_aload_n hx hb dL_law_257 rfl (lv_at hl 0 rfl) ?_
  refine lv_iload_n hx hb dL_law_258 rfl (lv_at hl 3 rfl) ?_
  refine lv_iconst (v := 1) hx hb dL_law_259 (by decide) ?_
  refine lv_iadd hx hb dL_law_260 ?_
  refine va_sld hx hb hX hbl hbA hS (hin 1 (by decide)) dL_law_261 ?_
  refine lv_aload_n hx hb dL_law_262 rfl (lv_at hl 0 rfl) ?_
  refine lv_iload_n hx hb dL_law_263 rfl (lv_at hl 3 rfl) ?_
  refine lv_iconst (v := 2) hx hb dL_law_264 (by decide) ?_
  refine lv_iadd hx hb dL_law_265 ?_
  refine va_sld hx hb hX hbl hbA hS (hin 2 (by decide)) dL_law_266 ?_
  refine lv_aload_n hx hb dL_law_267 rfl (lv_at hl 0 rfl) ?_
  refine lv_iload_n hx hb dL_law_268 rfl (lv_at hl 3 rfl) ?_
  refine lv_iconst (v := 3) hx hb dL_law_269 (by decide) ?_
  refine lv_iadd hx hb dL_law_270 ?_
  refine va_sld hx hb hX hbl hbA hS (hin 3 (by decide)) dL_law_271 ?_
  refine lv_aload_n hx hb dL_law_272 rfl (lv_at hl 0 rfl) ?_
  refine lv_iload_n hx hb dL_law_273 rfl (lv_at hl 3 rfl) ?_
  refine lv_iconst (v := 4) hx hb dL_law_274 (by decide) ?_
  refine lv_iadd hx hb dL_law_275 ?_
  refine va_sld hx hb hX hbl hbA hS (hin 4 (by decide)) dL_law_276 ?_
  refine lv_aload_n hx hb dL_law_277 rfl (lv_at hl 0 rfl) ?_
  refine lv_iload_n hx hb dL_law_278 rfl (lv_at hl 3 rfl) ?_
  refine lv_iconst (v := 5) hx hb dL_law_279 (by decide) ?_
  refine lv_iadd hx hb dL_law_280 ?_
  refine va_sld hx hb hX hbl hbA hS (hin 5 (by decide)) dL_law_281 ?_
  refine cL_ (ci := 6) (i := 50) (C := RX6) (T := TX6) (N := 8) (As := [.int (xs (x3 + 1).toNatClampNeg), .int (xs (x3 + 2).toNatClampNeg), .int (xs (x3 + 3).toNatClampNeg), .int (xs (x3 + 4).toNatClampNeg), .int (xs (x3 + 5).toNatClampNeg)]) (v := some (.int r)) (rest := []) (st1 := [.int r]) hC hKG hAG (hSG _ _ hS) hP hS (hn _ (by decide)) rfl rfl (c_X6_word l G hn (xs (x3 + 1).toNatClampNeg) (xs (x3 + 2).toNatClampNeg) (xs (x3 + 3).toNatClampNeg) (xs (x3 + 4).toNatClampNeg) (xs (x3 + 5).toNatClampNeg) M r M1 h1) kV_X6_word lmL_23 ⟨Nat.le_of_ble_eq_true rfl, Nat.le_of_ble_eq_true rfl⟩ rfl hl.1 (Nat.le_of_ble_eq_true rfl) dL_law_282 ⟨Nat.le_of_ble_eq_true rfl, Nat.le_of_ble_eq_true rfl⟩ rfl (fun H locs hP hS => ?_)
  refine lv_aload_n hx hb dL_law_285 rfl (lv_at hl 2 rfl) ?_
  refine lv_aload_n hx hb dL_law_286 rfl (lv_at hl 0 rfl) ?_
  refine lv_iload_n hx hb dL_law_287 rfl (lv_at hl 3 rfl) ?_
  refine lv_iconst (v := 1) hx hb dL_law_288 (by decide) ?_
  refine lv_iadd hx hb dL_law_289 ?_
  refine va_sld hx hb hX hbl hbA hS (hin 1 (by decide)) dL_law_290 ?_
  refine lv_aload_n hx hb dL_law_291 rfl (lv_at hl 0 rfl) ?_
  refine lv_iload_n hx hb dL_law_292 rfl (lv_at hl 3 rfl) ?_
  refine lv_iconst (v := 2) hx hb dL_law_293 (by decide) ?_
  refine lv_iadd hx hb dL_law_294 ?_
  refine va_sld hx hb hX hbl hbA hS (hin 2 (by decide)) dL_law_295 ?_
  refine lv_aload_n hx hb dL_law_296 rfl (lv_at hl 0 rfl) ?_
  refine lv_iload_n hx hb dL_law_297 rfl (lv_at hl 3 rfl) ?_
  refine lv_iconst (v := 3) hx hb dL_law_298 (by decide) ?_
  refine lv_iadd hx hb dL_law_299 ?_
  refine va_sld hx hb hX hbl hbA hS (hin 3 (by decide)) dL_law_300 ?_
  refine lv_aload_n hx hb dL_law_301 rfl (lv_at hl 0 rfl) ?_
  refine lv_iload_n hx hb dL_law_302 rfl (lv_at hl 3 rfl) ?_
  refine lv_iconst (v := 4) hx hb dL_law_303 (by decide) ?_
  refine lv_iadd hx hb dL_law_304 ?_
  refine va_sld hx hb hX hbl hbA hS (hin 4 (by decide)) dL_law_305 ?_
  refine lv_aload_n hx hb dL_law_306 rfl (lv_at hl 0 rfl) ?_
  refine lv_iload_n hx hb dL_law_307 rfl (lv_at hl 3 rfl) ?_
  refine lv_iconst (v := 5) hx hb dL_law_308 (by decide) ?_
  refine lv_iadd hx hb dL_law_309 ?_
  refine va_sld hx hb hX hbl hbA hS (hin 5 (by decide)) dL_law_310 ?_
  refine cL_ (ci := 7) (i := 61) (C := RX7) (T := TX7) (N := 29) (As := [.int (xs (x3 + 1).toNatClampNeg), .int (xs (x3 + 2).toNatClampNeg), .int (xs (x3 + 3).toNatClampNeg), .int (xs (x3 + 4).toNatClampNeg), .int (xs (x3 + 5).toNatClampNeg)]) (v := some (.int r)) (rest := [.int r]) (st1 := [.int r, .int r]) hC hKG hAG (hSG _ _ hS) hP hS (hn _ (by decide)) rfl rfl (c_X7_word l G hn (xs (x3 + 1).toNatClampNeg) (xs (x3 + 2).toNatClampNeg) (xs (x3 + 3).toNatClampNeg) (xs (x3 + 4).toNatClampNeg) (xs (x3 + 5).toNatClampNeg) M1 r M2 h2) kV_X7_word lmL_27 ⟨Nat.le_of_ble_eq_true rfl, Nat.le_of_ble_eq_true rfl⟩ rfl hl.1 (Nat.le_of_ble_eq_true rfl) dL_law_311 ⟨Nat.le_of_ble_eq_true rfl, Nat.le_of_ble_eq_true rfl⟩ rfl (fun H locs hP hS => ?_)
  refine lv_icmp_eq (tgt := 1220) hx hb dL_law_314 (by decide) (fun _ => ?_) (fun hc => absurd rfl hc)
  exact kk H locs hP hS
set_option maxHeartbeats 4000000 in
set_option maxRecDepth 100000 in
theorem lcase_3 (hC : CallFix p m c cL_law 4 s #[Value.ref b] TB RL) (hKG : KK G s) (hAG : ∀ a, AG G a → s.heap.size ≤ a) (hSG : ∀ (H : Heap) (locs : List Loc), va_S (fun q => s.heap.size ≤ q) s.heap H locs → SG G s H) (hn : ∀ i ∈ LsF, i ∈ gL G) (hX : va_X b L xs s s.heap) (hbl : b < s.heap.size) (hbA : ¬ (fun q : Nat => s.heap.size ≤ q) b) {x3 : Int32} (hin : ∀ j : Int32, (0 ≤ j ∧ j ≤ 5) → vp_in (x3 + j) L) {M M2 : Mem} (hop : RunOp 3 (xs (x3 + 1).toNatClampNeg) (xs (x3 + 2).toNatClampNeg) (xs (x3 + 3).toNatClampNeg) (xs (x3 + 4).toNatClampNeg) (xs (x3 + 5).toNatClampNeg) M M2) {H : Heap} {locs : List Loc} {ls : Array Slot} (hP : PP G M H) (hS : va_S (fun q => s.heap.size ≤ q) s.heap H locs) (hl : lv_has ls 4 [(0, .ref b), (1, .ref (G.1 50)), (2, .ref (G.1 61)), (3, .int x3)]) (kk : ∀ (H1 : Heap) (locs1 : List Loc), PP G M2 H1 → va_S (fun q => s.heap.size ≤ q) s.heap H1 locs1 → W p l e room_1 s m #[Value.ref b] below meth c H1 locs1 600000 7302250 (lw_Z below #[Value.ref b] s) (F0 m 1220 ls [])) : W p l e room_1 s m #[Value.ref b] below meth c H locs 600000 7302250 (lw_Z below #[Value.ref b] s) (F0 m 319 ls []) := by
  obtain ⟨hx, hb, hml, hown, hts⟩ := id hC
  obtain ⟨r, M1, h1, h2⟩ := hop
  refine lv_aload_n hx hb dL_law_319 rfl (lv_at hl 1 rfl) ?_
  refine lv_aload_n hx hb dL_law_320 rfl (lv_at hl 0 rfl) ?_
  refine lv_iload_n hx hb dL_law_321 rfl (lv_at hl 3 rfl) ?_
  refine lv_iconst (v := 1) hx hb dL_law_322 (by decide) ?_
  refine lv_iadd hx hb dL_law_323 ?_
  refine va_sld hx hb hX hbl hbA hS (hin 1 (by decide)) dL_law_324 ?_
  refine cL_ (ci := 6) (i := 50) (C := RX6) (T := TX6) (N := 8) (As := [.int (xs (x3 + 1).toNatClampNeg)]) (v := some (.int r)) (rest := []) (st1 := [.int r]) hC hKG hAG (hSG _ _ hS) hP hS (hn _ (by decide)) rfl rfl (c_X6_read l G hn (xs (x3 + 1).toNatClampNeg) M r M1 h1) kV_X6_read lmL_28 ⟨Nat.le_of_ble_eq_true rfl, Nat.le_of_ble_eq_true rfl⟩ rfl hl.1 (Nat.le_of_ble_eq_true rfl) dL_law_325 ⟨Nat.le_of_ble_eq_true rfl, Nat.le_of_ble_eq_true rfl⟩ rfl (fun H locs hP hS => ?_)
  refine lv_aload_n hx hb dL_law_328 rfl (lv_at hl 2 rfl) ?_
  refine lv_aload_n hx hb dL_law_329 rfl (lv_at hl 0 rfl) ?_
  refine lv_iload_n hx hb dL_law_330 rfl (lv_at hl 3 rfl) ?_
  refine lv_iconst (v := 1) hx hb dL_law_331 (by decide) ?_
  refine lv_iadd hx hb dL_law_332 ?_
  refine va_sld hx hb hX hbl hbA hS (hin 1 (by decide)) dL_law_333 ?_
  refine cL_ (ci := 7) (i := 61) (C := RX7) (T := TX7) (N := 29) (As := [.int (xs (x3 + 1).toNatClampNeg)]) (v := some (.int r)) (rest := [.int r]) (st1 := [.int r, .int r]) hC hKG hAG (hSG _ _ hS) hP hS (hn _ (by decide)) rfl rfl (c_X7_read l G hn (xs (x3 + 1).toNatClampNeg) M1 r M2 h2) kV_X7_read lmL_32 ⟨Nat.le_of_ble_eq_true rfl, Nat.le_of_ble_eq_true rfl⟩ rfl hl.1 (Nat.le_of_ble_eq_true rfl) dL_law_334 ⟨Nat.le_of_ble_eq_true rfl, Nat.le_of_ble_eq_true rfl⟩ rfl (fun H locs hP hS => ?_)
  refine lv_icmp_eq (tgt := 1220) hx hb dL_law_337 (by decide) (fun _ => ?_) (fun hc => absurd rfl hc)
  exact kk H locs hP hS
set_option maxHeartbeats 4000000 in
set_option maxRecDepth 100000 in
theorem lcase_4 (hC : CallFix p m c cL_law 4 s #[Value.ref b] TB RL) (hKG : KK G s) (hAG : ∀ a, AG G a → s.heap.size ≤ a) (hSG : ∀ (H : Heap) (locs : List Loc), va_S (fun q => s.heap.size ≤ q) s.heap H locs → SG G s H) (hn : ∀ i ∈ LsF, i ∈ gL G) (hX : va_X b L xs s s.heap) (hbl : b < s.heap.size) (hbA : ¬ (fun q : Nat => s.heap.size ≤ q) b) {x3 : Int32} (hin : ∀ j : Int32, (0 ≤ j ∧ j ≤ 5) → vp_in (x3 + j) L) {M M2 : Mem} (hop : RunOp 4 (xs (x3 + 1).toNatClampNeg) (xs (x3 + 2).toNatClampNeg) (xs (x3 + 3).toNatClampNeg) (xs (x3 + 4).toNatClampNeg) (xs (x3 + 5).toNatClampNeg) M M2) {H : Heap} {locs : List Loc} {ls : Array Slot} (hP : PP G M H) (hS : va_S (fun q => s.heap.size ≤ q) s.heap H locs) (hl : lv_has ls 4 [(0, .ref b), (1, .ref (G.1 50)), (2, .ref (G.1 61)), (3, .int x3)]) (kk : ∀ (H1 : Heap) (locs1 : List Loc), PP G M2 H1 → va_S (fun q => s.heap.size ≤ q) s.heap H1 locs1 → W p l e room_1 s m #[Value.ref b] below meth c H1 locs1 600000 7302250 (lw_Z below #[Value.ref b] s) (F0 m 1220 ls [])) : W p l e room_1 s m #[Value.ref b] below meth c H locs 600000 7302250 (lw_Z below #[Value.ref b] s) (F0 m 342 ls []) := by
  obtain ⟨hx, hb, hml, hown, hts⟩ := id hC
  obtain ⟨r, M1, h1, h2⟩ := hop
  refine lv_aload_n hx hb dL_law_342 rfl (lv_at hl 1 rfl) ?_
  refine lv_aload_n hx hb dL_law_343 rfl (lv_at hl 0 rfl) ?_
  refine lv_iload_n hx hb dL_law_344 rfl (lv_at hl 3 rfl) ?_
  refine lv_iconst (v := 1) hx hb dL_law_345 (by decide) ?_
  refine lv_iadd hx hb dL_law_346 ?_
  refine va_sld hx hb hX hbl hbA hS (hin 1 (by decide)) dL_law_347 ?_
  refine lv_aload_n hx hb dL_law_348 rfl (lv_at hl 0 rfl) ?_
  refine lv_iload_n hx hb dL_law_349 rfl (lv_at hl 3 rfl) ?_
  refine lv_iconst (v := 2) hx hb dL_law_350 (by decide) ?_
  refine lv_iadd hx hb dL_law_351 ?_
  refine va_sld hx hb hX hbl hbA hS (hin 2 (by decide)) dL_law_352 ?_
  refine cL_ (ci := 6) (i := 50) (C := RX6) (T := TX6) (N := 8) (As := [.int (xs (x3 + 1).toNatClampNeg), .int (xs (x3 + 2).toNatClampNeg)]) (v := some (.int r)) (rest := []) (st1 := [.int r]) hC hKG hAG (hSG _ _ hS) hP hS (hn _ (by decide)) rfl rfl (c_X6_is l G hn (xs (x3 + 1).toNatClampNeg) (xs (x3 + 2).toNatClampNeg) M r M1 h1) kV_X6_is lmL_33 ⟨Nat.le_of_ble_eq_true rfl, Nat.le_of_ble_eq_true rfl⟩ rfl hl.1 (Nat.le_of_ble_eq_true rfl) dL_law_353 ⟨Nat.le_of_ble_eq_true rfl, Nat.le_of_ble_eq_true rfl⟩ rfl (fun H locs hP hS => ?_)
  refine lv_aload_n hx hb dL_law_356 rfl (lv_at hl 2 rfl) ?_
  refine lv_aload_n hx hb dL_law_357 rfl (lv_at hl 0 rfl) ?_
  refine lv_iload_n hx hb dL_law_358 rfl (lv_at hl 3 rfl) ?_
  refine lv_iconst (v := 1) hx hb dL_law_359 (by decide) ?_
  refine lv_iadd hx hb dL_law_360 ?_
  refine va_sld hx hb hX hbl hbA hS (hin 1 (by decide)) dL_law_361 ?_
  refine lv_aload_n hx hb dL_law_362 rfl (lv_at hl 0 rfl) ?_
  refine lv_iload_n hx hb dL_law_363 rfl (lv_at hl 3 rfl) ?_
  refine lv_iconst (v := 2) hx hb dL_law_364 (by decide) ?_
  refine lv_iadd hx hb dL_law_365 ?_
  refine va_sld hx hb hX hbl hbA hS (hin 2 (by decide)) dL_law_366 ?_
  refine cL_ (ci := 7) (i := 61) (C := RX7) (T := TX7) (N := 29) (As := [.int (xs (x3 + 1).toNatClampNeg), .int (xs (x3 + 2).toNatClampNeg)]) (v := some (.int r)) (rest := [.int r]) (st1 := [.int r, .int r]) hC hKG hAG (hSG _ _ hS) hP hS (hn _ (by decide)) rfl rfl (c_X7_is l G hn (xs (x3 + 1).toNatClampNeg) (xs (x3 + 2).toNatClampNeg) M1 r M2 h2) kV_X7_is lmL_36 ⟨Nat.le_of_ble_eq_true rfl, Nat.le_of_ble_eq_true rfl⟩ rfl hl.1 (Nat.le_of_ble_eq_true rfl) dL_law_367 ⟨Nat.le_of_ble_eq_true rfl, Nat.le_of_ble_eq_true rfl⟩ rfl (fun H locs hP hS => ?_)
  refine lv_icmp_eq (tgt := 1220) hx hb dL_law_370 (by decide) (fun _ => ?_) (fun hc => absurd rfl hc)
  exact kk H locs hP hS
set_option maxHeartbeats 4000000 in
set_option maxRecDepth 100000 in
theorem lcase_5 (hC : CallFix p m c cL_law 4 s #[Value.ref b] TB RL) (hKG : KK G s) (hAG : ∀ a, AG G a → s.heap.size ≤ a) (hSG : ∀ (H : Heap) (locs : List Loc), va_S (fun q => s.heap.size ≤ q) s.heap H locs → SG G s H) (hn : ∀ i ∈ LsF, i ∈ gL G) (hX : va_X b L xs s s.heap) (hbl : b < s.heap.size) (hbA : ¬ (fun q : Nat => s.heap.size ≤ q) b) {x3 : Int32} (hin : ∀ j : Int32, (0 ≤ j ∧ j ≤ 5) → vp_in (x3 + j) L) {M M2 : Mem} (hop : RunOp 5 (xs (x3 + 1).toNatClampNeg) (xs (x3 + 2).toNatClampNeg) (xs (x3 + 3).toNatClampNeg) (xs (x3 + 4).toNatClampNeg) (xs (x3 + 5).toNatClampNeg) M M2) {H : Heap} {locs : List Loc} {ls : Array Slot} (hP : PP G M H) (hS : va_S (fun q => s.heap.size ≤ q) s.heap H locs) (hl : lv_has ls 4 [(0, .ref b), (1, .ref (G.1 50)), (2, .ref (G.1 61)), (3, .int x3)]) (kk : ∀ (H1 : Heap) (locs1 : List Loc), PP G M2 H1 → va_S (fun q => s.heap.size ≤ q) s.heap H1 locs1 → W p l e room_1 s m #[Value.ref b] below meth c H1 locs1 600000 7302250 (lw_Z below #[Value.ref b] s) (F0 m 1220 ls [])) : W p l e room_1 s m #[Value.ref b] below meth c H locs 600000 7302250 (lw_Z below #[Value.ref b] s) (F0 m 375 ls []) := by
  obtain ⟨hx, hb, hml, hown, hts⟩ := id hC
  obtain ⟨r, M1, h1, h2⟩ := hop
  refine lv_aload_n hx hb dL_law_375 rfl (lv_at hl 1 rfl) ?_
  refine lv_aload_n hx hb dL_law_376 rfl (lv_at hl 0 rfl) ?_
  refine lv_iload_n hx hb dL_law_377 rfl (lv_at hl 3 rfl) ?_
  refine lv_iconst (v := 1) hx hb dL_law_378 (by decide) ?_
  refine lv_iadd hx hb dL_law_379 ?_
  refine va_sld hx hb hX hbl hbA hS (hin 1 (by decide)) dL_law_380 ?_
  refine cL_ (ci := 6) (i := 50) (C := RX6) (T := TX6) (N := 8) (As := [.int (xs (x3 + 1).toNatClampNeg)]) (v := some (.int r)) (rest := []) (st1 := [.int r]) hC hKG hAG (hSG _ _ hS) hP hS (hn _ (by decide)) rfl rfl (c_X6_keep l G hn (xs (x3 + 1).toNatClampNeg) M r M1 h1) kV_X6_keep lmL_37 ⟨Nat.le_of_ble_eq_true rfl, Nat.le_of_ble_eq_true rfl⟩ rfl hl.1 (Nat.le_of_ble_eq_true rfl) dL_law_381 ⟨Nat.le_of_ble_eq_true rfl, Nat.le_of_ble_eq_true rfl⟩ rfl (fun H locs hP hS => ?_)
  refine lv_aload_n hx hb dL_law_384 rfl (lv_at hl 2 rfl) ?_
  refine lv_aload_n hx hb dL_law_385 rfl (lv_at hl 0 rfl) ?_
  refine lv_iload_n hx hb dL_law_386 rfl (lv_at hl 3 rfl) ?_
  refine lv_iconst (v := 1) hx hb dL_law_387 (by decide) ?_
  refine lv_iadd hx hb dL_law_388 ?_
  refine va_sld hx hb hX hbl hbA hS (hin 1 (by decide)) dL_law_389 ?_
  refine cL_ (ci := 7) (i := 61) (C := RX7) (T := TX7) (N := 29) (As := [.int (xs (x3 + 1).toNatClampNeg)]) (v := some (.int r)) (rest := [.int r]) (st1 := [.int r, .int r]) hC hKG hAG (hSG _ _ hS) hP hS (hn _ (by decide)) rfl rfl (c_X7_keep l G hn (xs (x3 + 1).toNatClampNeg) M1 r M2 h2) kV_X7_keep lmL_40 ⟨Nat.le_of_ble_eq_true rfl, Nat.le_of_ble_eq_true rfl⟩ rfl hl.1 (Nat.le_of_ble_eq_true rfl) dL_law_390 ⟨Nat.le_of_ble_eq_true rfl, Nat.le_of_ble_eq_true rfl⟩ rfl (fun H locs hP hS => ?_)
  refine lv_icmp_eq (tgt := 1220) hx hb dL_law_393 (by decide) (fun _ => ?_) (fun hc => absurd rfl hc)
  exact kk H locs hP hS
set_option maxHeartbeats 4000000 in
set_option maxRecDepth 100000 in
theorem lcase_6 (hC : CallFix p m c cL_law 4 s #[Value.ref b] TB RL) (hKG : KK G s) (hAG : ∀ a, AG G a → s.heap.size ≤ a) (hSG : ∀ (H : Heap) (locs : List Loc), va_S (fun q => s.heap.size ≤ q) s.heap H locs → SG G s H) (hn : ∀ i ∈ LsF, i ∈ gL G) (hX : va_X b L xs s s.heap) (hbl : b < s.heap.size) (hbA : ¬ (fun q : Nat => s.heap.size ≤ q) b) {x3 : Int32} (hin : ∀ j : Int32, (0 ≤ j ∧ j ≤ 5) → vp_in (x3 + j) L) {M M2 : Mem} (hop : RunOp 6 (xs (x3 + 1).toNatClampNeg) (xs (x3 + 2).toNatClampNeg) (xs (x3 + 3).toNatClampNeg) (xs (x3 + 4).toNatClampNeg) (xs (x3 + 5).toNatClampNeg) M M2) {H : Heap} {locs : List Loc} {ls : Array Slot} (hP : PP G M H) (hS : va_S (fun q => s.heap.size ≤ q) s.heap H locs) (hl : lv_has ls 4 [(0, .ref b), (1, .ref (G.1 50)), (2, .ref (G.1 61)), (3, .int x3)]) (kk : ∀ (H1 : Heap) (locs1 : List Loc), PP G M2 H1 → va_S (fun q => s.heap.size ≤ q) s.heap H1 locs1 → W p l e room_1 s m #[Value.ref b] below meth c H1 locs1 600000 7302250 (lw_Z below #[Value.ref b] s) (F0 m 1220 ls [])) : W p l e room_1 s m #[Value.ref b] below meth c H locs 600000 7302250 (lw_Z below #[Value.ref b] s) (F0 m 398 ls []) := by
  obtain ⟨hx, hb, hml, hown, hts⟩ := id hC
  obtain ⟨r, M1, h1, h2⟩ := hop
  refine lv_aload_n hx hb dL_law_398 rfl (lv_at hl 1 rfl) ?_
  refine lv_aload_n hx hb dL_law_399 rfl (lv_at hl 0 rfl) ?_
  refine lv_iload_n hx hb dL_law_400 rfl (lv_at hl 3 rfl) ?_
  refine lv_iconst (v := 1) hx hb dL_law_401 (by decide) ?_
  refine lv_iadd hx hb dL_law_402 ?_
  refine va_sld hx hb hX hbl hbA hS (hin 1 (by decide)) dL_law_403 ?_
  refine lv_aload_n hx hb dL_law_404 rfl (lv_at hl 0 rfl) ?_
  refine lv_iload_n hx hb dL_law_405 rfl (lv_at hl 3 rfl) ?_
  refine lv_iconst (v := 2) hx hb dL_law_406 (by decide) ?_
  refine lv_iadd hx hb dL_law_407 ?_
  refine va_sld hx hb hX hbl hbA hS (hin 2 (by decide)) dL_law_408 ?_
  refine cL_ (ci := 6) (i := 50) (C := RX6) (T := TX6) (N := 8) (As := [.int (xs (x3 + 1).toNatClampNeg), .int (xs (x3 + 2).toNatClampNeg)]) (v := some (.int r)) (rest := []) (st1 := [.int r]) hC hKG hAG (hSG _ _ hS) hP hS (hn _ (by decide)) rfl rfl (c_X6_type l G hn (xs (x3 + 1).toNatClampNeg) (xs (x3 + 2).toNatClampNeg) M r M1 h1) kV_X6_type lmL_41 ⟨Nat.le_of_ble_eq_true rfl, Nat.le_of_ble_eq_true rfl⟩ rfl hl.1 (Nat.le_of_ble_eq_true rfl) dL_law_409 ⟨Nat.le_of_ble_eq_true rfl, Nat.le_of_ble_eq_true rfl⟩ rfl (fun H locs hP hS => ?_)
  refine lv_aload_n hx hb dL_law_412 rfl (lv_at hl 2 rfl) ?_
  refine lv_aload_n hx hb dL_law_413 rfl (lv_at hl 0 rfl) ?_
  refine lv_iload_n hx hb dL_law_414 rfl (lv_at hl 3 rfl) ?_
  refine lv_iconst (v := 1) hx hb dL_law_415 (by decide) ?_
  refine lv_iadd hx hb dL_law_416 ?_
  refine va_sld hx hb hX hbl hbA hS (hin 1 (by decide)) dL_law_417 ?_
  refine lv_aload_n hx hb dL_law_418 rfl (lv_at hl 0 rfl) ?_
  refine lv_iload_n hx hb dL_law_419 rfl (lv_at hl 3 rfl) ?_
  refine lv_iconst (v := 2) hx hb dL_law_420 (by decide) ?_
  refine lv_iadd hx hb dL_law_421 ?_
  refine va_sld hx hb hX hbl hbA hS (hin 2 (by decide)) dL_law_422 ?_
  refine cL_ (ci := 7) (i := 61) (C := RX7) (T := TX7) (N := 29) (As := [.int (xs (x3 + 1).toNatClampNeg), .int (xs (x3 + 2).toNatClampNeg)]) (v := some (.int r)) (rest := [.int r]) (st1 := [.int r, .int r]) hC hKG hAG (hSG _ _ hS) hP hS (hn _ (by decide)) rfl rfl (c_X7_type l G hn (xs (x3 + 1).toNatClampNeg) (xs (x3 + 2).toNatClampNeg) M1 r M2 h2) kV_X7_type lmL_44 ⟨Nat.le_of_ble_eq_true rfl, Nat.le_of_ble_eq_true rfl⟩ rfl hl.1 (Nat.le_of_ble_eq_true rfl) dL_law_423 ⟨Nat.le_of_ble_eq_true rfl, Nat.le_of_ble_eq_true rfl⟩ rfl (fun H locs hP hS => ?_)
  refine lv_icmp_eq (tgt := 1220) hx hb dL_law_426 (by decide) (fun _ => ?_) (fun hc => absurd rfl hc)
  exact kk H locs hP hS
set_option maxHeartbeats 4000000 in
set_option maxRecDepth 100000 in
theorem lcase_7 (hC : CallFix p m c cL_law 4 s #[Value.ref b] TB RL) (hKG : KK G s) (hAG : ∀ a, AG G a → s.heap.size ≤ a) (hSG : ∀ (H : Heap) (locs : List Loc), va_S (fun q => s.heap.size ≤ q) s.heap H locs → SG G s H) (hn : ∀ i ∈ LsF, i ∈ gL G) (hX : va_X b L xs s s.heap) (hbl : b < s.heap.size) (hbA : ¬ (fun q : Nat => s.heap.size ≤ q) b) {x3 : Int32} (hin : ∀ j : Int32, (0 ≤ j ∧ j ≤ 5) → vp_in (x3 + j) L) {M M2 : Mem} (hop : RunOp 7 (xs (x3 + 1).toNatClampNeg) (xs (x3 + 2).toNatClampNeg) (xs (x3 + 3).toNatClampNeg) (xs (x3 + 4).toNatClampNeg) (xs (x3 + 5).toNatClampNeg) M M2) {H : Heap} {locs : List Loc} {ls : Array Slot} (hP : PP G M H) (hS : va_S (fun q => s.heap.size ≤ q) s.heap H locs) (hl : lv_has ls 4 [(0, .ref b), (1, .ref (G.1 50)), (2, .ref (G.1 61)), (3, .int x3)]) (kk : ∀ (H1 : Heap) (locs1 : List Loc), PP G M2 H1 → va_S (fun q => s.heap.size ≤ q) s.heap H1 locs1 → W p l e room_1 s m #[Value.ref b] below meth c H1 locs1 600000 7302250 (lw_Z below #[Value.ref b] s) (F0 m 1220 ls [])) : W p l e room_1 s m #[Value.ref b] below meth c H locs 600000 7302250 (lw_Z below #[Value.ref b] s) (F0 m 431 ls []) := by
  obtain ⟨hx, hb, hml, hown, hts⟩ := id hC
  obtain ⟨r, M1, h1, h2⟩ := hop
  refine lv_aload_n hx hb dL_law_431 rfl (lv_at hl 1 rfl) ?_
  refine lv_aload_n hx hb dL_law_432 rfl (lv_at hl 0 rfl) ?_
  refine lv_iload_n hx hb dL_law_433 rfl (lv_at hl 3 rfl) ?_
  refine lv_iconst (v := 1) hx hb dL_law_434 (by decide) ?_
  refine lv_iadd hx hb dL_law_435 ?_
  refine va_sld hx hb hX hbl hbA hS (hin 1 (by decide)) dL_law_436 ?_
  refine cL_ (ci := 6) (i := 50) (C := RX6) (T := TX6) (N := 8) (As := [.int (xs (x3 + 1).toNatClampNeg)]) (v := some (.int r)) (rest := []) (st1 := [.int r]) hC hKG hAG (hSG _ _ hS) hP hS (hn _ (by decide)) rfl rfl (c_X6_wipe l G hn (xs (x3 + 1).toNatClampNeg) M r M1 h1) kV_X6_wipe lmL_45 ⟨Nat.le_of_ble_eq_true rfl, Nat.le_of_ble_eq_true rfl⟩ rfl hl.1 (Nat.le_of_ble_eq_true rfl) dL_law_437 ⟨Nat.le_of_ble_eq_true rfl, Nat.le_of_ble_eq_true rfl⟩ rfl (fun H locs hP hS => ?_)
  refine lv_aload_n hx hb dL_law_440 rfl (lv_at hl 2 rfl) ?_
  refine lv_aload_n hx hb dL_law_441 rfl (lv_at hl 0 rfl) ?_
  refine lv_iload_n hx hb dL_law_442 rfl (lv_at hl 3 rfl) ?_
  refine lv_iconst (v := 1) hx hb dL_law_443 (by decide) ?_
  refine lv_iadd hx hb dL_law_444 ?_
  refine va_sld hx hb hX hbl hbA hS (hin 1 (by decide)) dL_law_445 ?_
  refine cL_ (ci := 7) (i := 61) (C := RX7) (T := TX7) (N := 29) (As := [.int (xs (x3 + 1).toNatClampNeg)]) (v := some (.int r)) (rest := [.int r]) (st1 := [.int r, .int r]) hC hKG hAG (hSG _ _ hS) hP hS (hn _ (by decide)) rfl rfl (c_X7_wipe l G hn (xs (x3 + 1).toNatClampNeg) M1 r M2 h2) kV_X7_wipe lmL_48 ⟨Nat.le_of_ble_eq_true rfl, Nat.le_of_ble_eq_true rfl⟩ rfl hl.1 (Nat.le_of_ble_eq_true rfl) dL_law_446 ⟨Nat.le_of_ble_eq_true rfl, Nat.le_of_ble_eq_true rfl⟩ rfl (fun H locs hP hS => ?_)
  refine lv_icmp_eq (tgt := 1220) hx hb dL_law_449 (by decide) (fun _ => ?_) (fun hc => absurd rfl hc)
  exact kk H locs hP hS
set_option maxHeartbeats 4000000 in
set_option maxRecDepth 100000 in
theorem lcase_8 (hC : CallFix p m c cL_law 4 s #[Value.ref b] TB RL) (hKG : KK G s) (hAG : ∀ a, AG G a → s.heap.size ≤ a) (hSG : ∀ (H : Heap) (locs : List Loc), va_S (fun q => s.heap.size ≤ q) s.heap H locs → SG G s H) (hn : ∀ i ∈ LsF, i ∈ gL G) (hX : va_X b L xs s s.heap) (hbl : b < s.heap.size) (hbA : ¬ (fun q : Nat => s.heap.size ≤ q) b) {x3 : Int32} (hin : ∀ j : Int32, (0 ≤ j ∧ j ≤ 5) → vp_in (x3 + j) L) {M M2 : Mem} (hop : RunOp 8 (xs (x3 + 1).toNatClampNeg) (xs (x3 + 2).toNatClampNeg) (xs (x3 + 3).toNatClampNeg) (xs (x3 + 4).toNatClampNeg) (xs (x3 + 5).toNatClampNeg) M M2) {H : Heap} {locs : List Loc} {ls : Array Slot} (hP : PP G M H) (hS : va_S (fun q => s.heap.size ≤ q) s.heap H locs) (hl : lv_has ls 4 [(0, .ref b), (1, .ref (G.1 50)), (2, .ref (G.1 61)), (3, .int x3)]) (kk : ∀ (H1 : Heap) (locs1 : List Loc), PP G M2 H1 → va_S (fun q => s.heap.size ≤ q) s.heap H1 locs1 → W p l e room_1 s m #[Value.ref b] below meth c H1 locs1 600000 7302250 (lw_Z below #[Value.ref b] s) (F0 m 1220 ls [])) : W p l e room_1 s m #[Value.ref b] below meth c H locs 600000 7302250 (lw_Z below #[Value.ref b] s) (F0 m 454 ls []) := by
  obtain ⟨hx, hb, hml, hown, hts⟩ := id hC
  obtain ⟨r, M1, h1, h2⟩ := hop
  refine lv_aload_n hx hb dL_law_454 rfl (lv_at hl 1 rfl) ?_
  refine lv_aload_n hx hb dL_law_455 rfl (lv_at hl 0 rfl) ?_
  refine lv_iload_n hx hb dL_law_456 rfl (lv_at hl 3 rfl) ?_
  refine lv_iconst (v := 1) hx hb dL_law_457 (by decide) ?_
  refine lv_iadd hx hb dL_law_458 ?_
  refine va_sld hx hb hX hbl hbA hS (hin 1 (by decide)) dL_law_459 ?_
  refine cL_ (ci := 6) (i := 50) (C := RX6) (T := TX6) (N := 8) (As := [.int (xs (x3 + 1).toNatClampNeg)]) (v := some (.int r)) (rest := []) (st1 := [.int r]) hC hKG hAG (hSG _ _ hS) hP hS (hn _ (by decide)) rfl rfl (c_X6_fault l G hn (xs (x3 + 1).toNatClampNeg) M r M1 h1) kV_X6_fault lmL_49 ⟨Nat.le_of_ble_eq_true rfl, Nat.le_of_ble_eq_true rfl⟩ rfl hl.1 (Nat.le_of_ble_eq_true rfl) dL_law_460 ⟨Nat.le_of_ble_eq_true rfl, Nat.le_of_ble_eq_true rfl⟩ rfl (fun H locs hP hS => ?_)
  refine lv_aload_n hx hb dL_law_463 rfl (lv_at hl 2 rfl) ?_
  refine lv_aload_n hx hb dL_law_464 rfl (lv_at hl 0 rfl) ?_
  refine lv_iload_n hx hb dL_law_465 rfl (lv_at hl 3 rfl) ?_
  refine lv_iconst (v := 1) hx hb dL_law_466 (by decide) ?_
  refine lv_iadd hx hb dL_law_467 ?_
  refine va_sld hx hb hX hbl hbA hS (hin 1 (by decide)) dL_law_468 ?_
  refine cL_ (ci := 7) (i := 61) (C := RX7) (T := TX7) (N := 29) (As := [.int (xs (x3 + 1).toNatClampNeg)]) (v := some (.int r)) (rest := [.int r]) (st1 := [.int r, .int r]) hC hKG hAG (hSG _ _ hS) hP hS (hn _ (by decide)) rfl rfl (c_X7_fault l G hn (xs (x3 + 1).toNatClampNeg) M1 r M2 h2) kV_X7_fault lmL_52 ⟨Nat.le_of_ble_eq_true rfl, Nat.le_of_ble_eq_true rfl⟩ rfl hl.1 (Nat.le_of_ble_eq_true rfl) dL_law_469 ⟨Nat.le_of_ble_eq_true rfl, Nat.le_of_ble_eq_true rfl⟩ rfl (fun H locs hP hS => ?_)
  refine lv_icmp_eq (tgt := 1220) hx hb dL_law_472 (by decide) (fun _ => ?_) (fun hc => absurd rfl hc)
  exact kk H locs hP hS
set_option maxHeartbeats 4000000 in
set_option maxRecDepth 100000 in
theorem lcase_9 (hC : CallFix p m c cL_law 4 s #[Value.ref b] TB RL) (hKG : KK G s) (hAG : ∀ a, AG G a → s.heap.size ≤ a) (hSG : ∀ (H : Heap) (locs : List Loc), va_S (fun q => s.heap.size ≤ q) s.heap H locs → SG G s H) (hn : ∀ i ∈ LsF, i ∈ gL G) (hX : va_X b L xs s s.heap) (hbl : b < s.heap.size) (hbA : ¬ (fun q : Nat => s.heap.size ≤ q) b) {x3 : Int32} (hin : ∀ j : Int32, (0 ≤ j ∧ j ≤ 5) → vp_in (x3 + j) L) {M M2 : Mem} (hop : RunOp 9 (xs (x3 + 1).toNatClampNeg) (xs (x3 + 2).toNatClampNeg) (xs (x3 + 3).toNatClampNeg) (xs (x3 + 4).toNatClampNeg) (xs (x3 + 5).toNatClampNeg) M M2) {H : Heap} {locs : List Loc} {ls : Array Slot} (hP : PP G M H) (hS : va_S (fun q => s.heap.size ≤ q) s.heap H locs) (hl : lv_has ls 4 [(0, .ref b), (1, .ref (G.1 50)), (2, .ref (G.1 61)), (3, .int x3)]) (kk : ∀ (H1 : Heap) (locs1 : List Loc), PP G M2 H1 → va_S (fun q => s.heap.size ≤ q) s.heap H1 locs1 → W p l e room_1 s m #[Value.ref b] below meth c H1 locs1 600000 7302250 (lw_Z below #[Value.ref b] s) (F0 m 1220 ls [])) : W p l e room_1 s m #[Value.ref b] below meth c H locs 600000 7302250 (lw_Z below #[Value.ref b] s) (F0 m 477 ls []) := by
  obtain ⟨hx, hb, hml, hown, hts⟩ := id hC
  obtain ⟨r, M1, h1, h2⟩ := hop
  refine lv_aload_n hx hb dL_law_477 rfl (lv_at hl 1 rfl) ?_
  refine lv_aload_n hx hb dL_law_478 rfl (lv_at hl 0 rfl) ?_
  refine lv_iload_n hx hb dL_law_479 rfl (lv_at hl 3 rfl) ?_
  refine lv_iconst (v := 1) hx hb dL_law_480 (by decide) ?_
  refine lv_iadd hx hb dL_law_481 ?_
  refine va_sld hx hb hX hbl hbA hS (hin 1 (by decide)) dL_law_482 ?_
  refine lv_aload_n hx hb dL_law_483 rfl (lv_at hl 0 rfl) ?_
  refine lv_iload_n hx hb dL_law_484 rfl (lv_at hl 3 rfl) ?_
  refine lv_iconst (v := 2) hx hb dL_law_485 (by decide) ?_
  refine lv_iadd hx hb dL_law_486 ?_
  refine va_sld hx hb hX hbl hbA hS (hin 2 (by decide)) dL_law_487 ?_
  refine cL_ (ci := 6) (i := 50) (C := RX6) (T := TX6) (N := 8) (As := [.int (xs (x3 + 1).toNatClampNeg), .int (xs (x3 + 2).toNatClampNeg)]) (v := some (.int r)) (rest := []) (st1 := [.int r]) hC hKG hAG (hSG _ _ hS) hP hS (hn _ (by decide)) rfl rfl (c_X6_law l G hn (xs (x3 + 1).toNatClampNeg) (xs (x3 + 2).toNatClampNeg) M r M1 h1) kV_X6_law lmL_53 ⟨Nat.le_of_ble_eq_true rfl, Nat.le_of_ble_eq_true rfl⟩ rfl hl.1 (Nat.le_of_ble_eq_true rfl) dL_law_488 ⟨Nat.le_of_ble_eq_true rfl, Nat.le_of_ble_eq_true rfl⟩ rfl (fun H locs hP hS => ?_)
  refine lv_aload_n hx hb dL_law_491 rfl (lv_at hl 2 rfl) ?_
  refine lv_aload_n hx hb dL_law_492 rfl (lv_at hl 0 rfl) ?_
  refine lv_iload_n hx hb dL_law_493 rfl (lv_at hl 3 rfl) ?_
  refine lv_iconst (v := 1) hx hb dL_law_494 (by decide) ?_
  refine lv_iadd hx hb dL_law_495 ?_
  refine va_sld hx hb hX hbl hbA hS (hin 1 (by decide)) dL_law_496 ?_
  refine lv_aload_n hx hb dL_law_497 rfl (lv_at hl 0 rfl) ?_
  refine lv_iload_n hx hb dL_law_498 rfl (lv_at hl 3 rfl) ?_
  refine lv_iconst (v := 2) hx hb dL_law_499 (by decide) ?_
  refine lv_iadd hx hb dL_law_500 ?_
  refine va_sld hx hb hX hbl hbA hS (hin 2 (by decide)) dL_law_501 ?_
  refine cL_ (ci := 7) (i := 61) (C := RX7) (T := TX7) (N := 29) (As := [.int (xs (x3 + 1).toNatClampNeg), .int (xs (x3 + 2).toNatClampNeg)]) (v := some (.int r)) (rest := [.int r]) (st1 := [.int r, .int r]) hC hKG hAG (hSG _ _ hS) hP hS (hn _ (by decide)) rfl rfl (c_X7_law l G hn (xs (x3 + 1).toNatClampNeg) (xs (x3 + 2).toNatClampNeg) M1 r M2 h2) kV_X7_law lmL_56 ⟨Nat.le_of_ble_eq_true rfl, Nat.le_of_ble_eq_true rfl⟩ rfl hl.1 (Nat.le_of_ble_eq_true rfl) dL_law_502 ⟨Nat.le_of_ble_eq_true rfl, Nat.le_of_ble_eq_true rfl⟩ rfl (fun H locs hP hS => ?_)
  refine lv_icmp_eq (tgt := 1220) hx hb dL_law_505 (by decide) (fun _ => ?_) (fun hc => absurd rfl hc)
  exact kk H locs hP hS
set_option maxHeartbeats 4000000 in
set_option maxRecDepth 100000 in
theorem lcase_10 (hC : CallFix p m c cL_law 4 s #[Value.ref b] TB RL) (hKG : KK G s) (hAG : ∀ a, AG G a → s.heap.size ≤ a) (hSG : ∀ (H : Heap) (locs : List Loc), va_S (fun q => s.heap.size ≤ q) s.heap H locs → SG G s H) (hn : ∀ i ∈ LsF, i ∈ gL G) (hX : va_X b L xs s s.heap) (hbl : b < s.heap.size) (hbA : ¬ (fun q : Nat => s.heap.size ≤ q) b) {x3 : Int32} (hin : ∀ j : Int32, (0 ≤ j ∧ j ≤ 5) → vp_in (x3 + j) L) {M M2 : Mem} (hop : RunOp 10 (xs (x3 + 1).toNatClampNeg) (xs (x3 + 2).toNatClampNeg) (xs (x3 + 3).toNatClampNeg) (xs (x3 + 4).toNatClampNeg) (xs (x3 + 5).toNatClampNeg) M M2) {H : Heap} {locs : List Loc} {ls : Array Slot} (hP : PP G M H) (hS : va_S (fun q => s.heap.size ≤ q) s.heap H locs) (hl : lv_has ls 4 [(0, .ref b), (1, .ref (G.1 50)), (2, .ref (G.1 61)), (3, .int x3)]) (kk : ∀ (H1 : Heap) (locs1 : List Loc), PP G M2 H1 → va_S (fun q => s.heap.size ≤ q) s.heap H1 locs1 → W p l e room_1 s m #[Value.ref b] below meth c H1 locs1 600000 7302250 (lw_Z below #[Value.ref b] s) (F0 m 1220 ls [])) : W p l e room_1 s m #[Value.ref b] below meth c H locs 600000 7302250 (lw_Z below #[Value.ref b] s) (F0 m 510 ls []) := by
  obtain ⟨hx, hb, hml, hown, hts⟩ := id hC
  obtain ⟨r, M1, h1, h2⟩ := hop
  refine lv_aload_n hx hb dL_law_510 rfl (lv_at hl 1 rfl) ?_
  refine lv_aload_n hx hb dL_law_511 rfl (lv_at hl 0 rfl) ?_
  refine lv_iload_n hx hb dL_law_512 rfl (lv_at hl 3 rfl) ?_
  refine lv_iconst (v := 1) hx hb dL_law_513 (by decide) ?_
  refine lv_iadd hx hb dL_law_514 ?_
  refine va_sld hx hb hX hbl hbA hS (hin 1 (by decide)) dL_law_515 ?_
  refine lv_aload_n hx hb dL_law_516 rfl (lv_at hl 0 rfl) ?_
  refine lv_iload_n hx hb dL_law_517 rfl (lv_at hl 3 rfl) ?_
  refine lv_iconst (v := 2) hx hb dL_law_518 (by decide) ?_
  refine lv_iadd hx hb dL_law_519 ?_
  refine va_sld hx hb hX hbl hbA hS (hin 2 (by decide)) dL_law_520 ?_
  refine cL_ (ci := 6) (i := 50) (C := RX6) (T := TX6) (N := 8) (As := [.int (xs (x3 + 1).toNatClampNeg), .int (xs (x3 + 2).toNatClampNeg)]) (v := some (.int r)) (rest := []) (st1 := [.int r]) hC hKG hAG (hSG _ _ hS) hP hS (hn _ (by decide)) rfl rfl (c_X6_heard l G hn (xs (x3 + 1).toNatClampNeg) (xs (x3 + 2).toNatClampNeg) M r M1 h1) kV_X6_heard lmL_57 ⟨Nat.le_of_ble_eq_true rfl, Nat.le_of_ble_eq_true rfl⟩ rfl hl.1 (Nat.le_of_ble_eq_true rfl) dL_law_521 ⟨Nat.le_of_ble_eq_true rfl, Nat.le_of_ble_eq_true rfl⟩ rfl (fun H locs hP hS => ?_)
  refine lv_aload_n hx hb dL_law_524 rfl (lv_at hl 2 rfl) ?_
  refine lv_aload_n hx hb dL_law_525 rfl (lv_at hl 0 rfl) ?_
  refine lv_iload_n hx hb dL_law_526 rfl (lv_at hl 3 rfl) ?_
  refine lv_iconst (v := 1) hx hb dL_law_527 (by decide) ?_
  refine lv_iadd hx hb dL_law_528 ?_
  refine va_sld hx hb hX hbl hbA hS (hin 1 (by decide)) dL_law_529 ?_
  refine lv_aload_n hx hb dL_law_530 rfl (lv_at hl 0 rfl) ?_
  refine lv_iload_n hx hb dL_law_531 rfl (lv_at hl 3 rfl) ?_
  refine lv_iconst (v := 2) hx hb dL_law_532 (by decide) ?_
  refine lv_iadd hx hb dL_law_533 ?_
  refine va_sld hx hb hX hbl hbA hS (hin 2 (by decide)) dL_law_534 ?_
  refine cL_ (ci := 7) (i := 61) (C := RX7) (T := TX7) (N := 29) (As := [.int (xs (x3 + 1).toNatClampNeg), .int (xs (x3 + 2).toNatClampNeg)]) (v := some (.int r)) (rest := [.int r]) (st1 := [.int r, .int r]) hC hKG hAG (hSG _ _ hS) hP hS (hn _ (by decide)) rfl rfl (c_X7_heard l G hn (xs (x3 + 1).toNatClampNeg) (xs (x3 + 2).toNatClampNeg) M1 r M2 h2) kV_X7_heard lmL_60 ⟨Nat.le_of_ble_eq_true rfl, Nat.le_of_ble_eq_true rfl⟩ rfl hl.1 (Nat.le_of_ble_eq_true rfl) dL_law_535 ⟨Nat.le_of_ble_eq_true rfl, Nat.le_of_ble_eq_true rfl⟩ rfl (fun H locs hP hS => ?_)
  refine lv_icmp_eq (tgt := 1220) hx hb dL_law_538 (by decide) (fun _ => ?_) (fun hc => absurd rfl hc)
  exact kk H locs hP hS
set_option maxHeartbeats 4000000 in
set_option maxRecDepth 100000 in
theorem lcase_11 (hC : CallFix p m c cL_law 4 s #[Value.ref b] TB RL) (hKG : KK G s) (hAG : ∀ a, AG G a → s.heap.size ≤ a) (hSG : ∀ (H : Heap) (locs : List Loc), va_S (fun q => s.heap.size ≤ q) s.heap H locs → SG G s H) (hn : ∀ i ∈ LsF, i ∈ gL G) (hX : va_X b L xs s s.heap) (hbl : b < s.heap.size) (hbA : ¬ (fun q : Nat => s.heap.size ≤ q) b) {x3 : Int32} (hin : ∀ j : Int32, (0 ≤ j ∧ j ≤ 5) → vp_in (x3 + j) L) {M M2 : Mem} (hop : RunOp 11 (xs (x3 + 1).toNatClampNeg) (xs (x3 + 2).toNatClampNeg) (xs (x3 + 3).toNatClampNeg) (xs (x3 + 4).toNatClampNeg) (xs (x3 + 5).toNatClampNeg) M M2) {H : Heap} {locs : List Loc} {ls : Array Slot} (hP : PP G M H) (hS : va_S (fun q => s.heap.size ≤ q) s.heap H locs) (hl : lv_has ls 4 [(0, .ref b), (1, .ref (G.1 50)), (2, .ref (G.1 61)), (3, .int x3)]) (kk : ∀ (H1 : Heap) (locs1 : List Loc), PP G M2 H1 → va_S (fun q => s.heap.size ≤ q) s.heap H1 locs1 → W p l e room_1 s m #[Value.ref b] below meth c H1 locs1 600000 7302250 (lw_Z below #[Value.ref b] s) (F0 m 1220 ls [])) : W p l e room_1 s m #[Value.ref b] below meth c H locs 600000 7302250 (lw_Z below #[Value.ref b] s) (F0 m 543 ls []) := by
  obtain ⟨hx, hb, hml, hown, hts⟩ := id hC
  obtain ⟨r, M1, h1, h2⟩ := hop
  refine lv_aload_n hx hb dL_law_543 rfl (lv_at hl 1 rfl) ?_
  refine lv_aload_n hx hb dL_law_544 rfl (lv_at hl 0 rfl) ?_
  refine lv_iload_n hx hb dL_law_545 rfl (lv_at hl 3 rfl) ?_
  refine lv_iconst (v := 1) hx hb dL_law_546 (by decide) ?_
  refine lv_iadd hx hb dL_law_547 ?_
  refine va_sld hx hb hX hbl hbA hS (hin 1 (by decide)) dL_law_548 ?_
  refine lv_aload_n hx hb dL_law_549 rfl (lv_at hl 0 rfl) ?_
  refine lv_iload_n hx hb dL_law_550 rfl (lv_at hl 3 rfl) ?_
  refine lv_iconst (v := 2) hx hb dL_law_551 (by decide) ?_
  refine lv_iadd hx hb dL_law_552 ?_
  refine va_sld hx hb hX hbl hbA hS (hin 2 (by decide)) dL_law_553 ?_
  refine lv_aload_n hx hb dL_law_554 rfl (lv_at hl 0 rfl) ?_
  refine lv_iload_n hx hb dL_law_555 rfl (lv_at hl 3 rfl) ?_
  refine lv_iconst (v := 3) hx hb dL_law_556 (by decide) ?_
  refine lv_iadd hx hb dL_law_557 ?_
  refine va_sld hx hb hX hbl hbA hS (hin 3 (by decide)) dL_law_558 ?_
  refine cL_ (ci := 6) (i := 50) (C := RX6) (T := TX6) (N := 8) (As := [.int (xs (x3 + 1).toNatClampNeg), .int (xs (x3 + 2).toNatClampNeg), .int (xs (x3 + 3).toNatClampNeg)]) (v := some (.int r)) (rest := []) (st1 := [.int r]) hC hKG hAG (hSG _ _ hS) hP hS (hn _ (by decide)) rfl rfl (c_X6_ordered l G hn (xs (x3 + 1).toNatClampNeg) (xs (x3 + 2).toNatClampNeg) (xs (x3 + 3).toNatClampNeg) M r M1 h1) kV_X6_ordered lmL_61 ⟨Nat.le_of_ble_eq_true rfl, Nat.le_of_ble_eq_true rfl⟩ rfl hl.1 (Nat.le_of_ble_eq_true rfl) dL_law_559 ⟨Nat.le_of_ble_eq_true rfl, Nat.le_of_ble_eq_true rfl⟩ rfl (fun H locs hP hS => ?_)
  refine lv_aload_n hx hb dL_law_562 rfl (lv_at hl 2 rfl) ?_
  refine lv_aload_n hx hb dL_law_563 rfl (lv_at hl 0 rfl) ?_
  refine lv_iload_n hx hb dL_law_564 rfl (lv_at hl 3 rfl) ?_
  refine lv_iconst (v := 1) hx hb dL_law_565 (by decide) ?_
  refine lv_iadd hx hb dL_law_566 ?_
  refine va_sld hx hb hX hbl hbA hS (hin 1 (by decide)) dL_law_567 ?_
  refine lv_aload_n hx hb dL_law_568 rfl (lv_at hl 0 rfl) ?_
  refine lv_iload_n hx hb dL_law_569 rfl (lv_at hl 3 rfl) ?_
  refine lv_iconst (v := 2) hx hb dL_law_570 (by decide) ?_
  refine lv_iadd hx hb dL_law_571 ?_
  refine va_sld hx hb hX hbl hbA hS (hin 2 (by decide)) dL_law_572 ?_
  refine lv_aload_n hx hb dL_law_573 rfl (lv_at hl 0 rfl) ?_
  refine lv_iload_n hx hb dL_law_574 rfl (lv_at hl 3 rfl) ?_
  refine lv_iconst (v := 3) hx hb dL_law_575 (by decide) ?_
  refine lv_iadd hx hb dL_law_576 ?_
  refine va_sld hx hb hX hbl hbA hS (hin 3 (by decide)) dL_law_577 ?_
  refine cL_ (ci := 7) (i := 61) (C := RX7) (T := TX7) (N := 29) (As := [.int (xs (x3 + 1).toNatClampNeg), .int (xs (x3 + 2).toNatClampNeg), .int (xs (x3 + 3).toNatClampNeg)]) (v := some (.int r)) (rest := [.int r]) (st1 := [.int r, .int r]) hC hKG hAG (hSG _ _ hS) hP hS (hn _ (by decide)) rfl rfl (c_X7_ordered l G hn (xs (x3 + 1).toNatClampNeg) (xs (x3 + 2).toNatClampNeg) (xs (x3 + 3).toNatClampNeg) M1 r M2 h2) kV_X7_ordered lmL_64 ⟨Nat.le_of_ble_eq_true rfl, Nat.le_of_ble_eq_true rfl⟩ rfl hl.1 (Nat.le_of_ble_eq_true rfl) dL_law_578 ⟨Nat.le_of_ble_eq_true rfl, Nat.le_of_ble_eq_true rfl⟩ rfl (fun H locs hP hS => ?_)
  refine lv_icmp_eq (tgt := 1220) hx hb dL_law_581 (by decide) (fun _ => ?_) (fun hc => absurd rfl hc)
  exact kk H locs hP hS
set_option maxHeartbeats 4000000 in
set_option maxRecDepth 100000 in
theorem lcase_12 (hC : CallFix p m c cL_law 4 s #[Value.ref b] TB RL) (hKG : KK G s) (hAG : ∀ a, AG G a → s.heap.size ≤ a) (hSG : ∀ (H : Heap) (locs : List Loc), va_S (fun q => s.heap.size ≤ q) s.heap H locs → SG G s H) (hn : ∀ i ∈ LsF, i ∈ gL G) (hX : va_X b L xs s s.heap) (hbl : b < s.heap.size) (hbA : ¬ (fun q : Nat => s.heap.size ≤ q) b) {x3 : Int32} (hin : ∀ j : Int32, (0 ≤ j ∧ j ≤ 5) → vp_in (x3 + j) L) {M M2 : Mem} (hop : RunOp 12 (xs (x3 + 1).toNatClampNeg) (xs (x3 + 2).toNatClampNeg) (xs (x3 + 3).toNatClampNeg) (xs (x3 + 4).toNatClampNeg) (xs (x3 + 5).toNatClampNeg) M M2) {H : Heap} {locs : List Loc} {ls : Array Slot} (hP : PP G M H) (hS : va_S (fun q => s.heap.size ≤ q) s.heap H locs) (hl : lv_has ls 4 [(0, .ref b), (1, .ref (G.1 50)), (2, .ref (G.1 61)), (3, .int x3)]) (kk : ∀ (H1 : Heap) (locs1 : List Loc), PP G M2 H1 → va_S (fun q => s.heap.size ≤ q) s.heap H1 locs1 → W p l e room_1 s m #[Value.ref b] below meth c H1 locs1 600000 7302250 (lw_Z below #[Value.ref b] s) (F0 m 1220 ls [])) : W p l e room_1 s m #[Value.ref b] below meth c H locs 600000 7302250 (lw_Z below #[Value.ref b] s) (F0 m 586 ls []) := by
  obtain ⟨hx, hb, hml, hown, hts⟩ := id hC
  obtain ⟨r, M1, h1, h2⟩ := hop
  refine lv_aload_n hx hb dL_law_586 rfl (lv_at hl 1 rfl) ?_
  refine lv_aload_n hx hb dL_law_587 rfl (lv_at hl 0 rfl) ?_
  refine lv_iload_n hx hb dL_law_588 rfl (lv_at hl 3 rfl) ?_
  refine lv_iconst (v := 1) hx hb dL_law_589 (by decide) ?_
  refine lv_iadd hx hb dL_law_590 ?_
  refine va_sld hx hb hX hbl hbA hS (hin 1 (by decide)) dL_law_591 ?_
  refine lv_aload_n hx hb dL_law_592 rfl (lv_at hl 0 rfl) ?_
  refine lv_iload_n hx hb dL_law_593 rfl (lv_at hl 3 rfl) ?_
  refine lv_iconst (v := 2) hx hb dL_law_594 (by decide) ?_
  refine lv_iadd hx hb dL_law_595 ?_
  refine va_sld hx hb hX hbl hbA hS (hin 2 (by decide)) dL_law_596 ?_
  refine cL_ (ci := 6) (i := 50) (C := RX6) (T := TX6) (N := 8) (As := [.int (xs (x3 + 1).toNatClampNeg), .int (xs (x3 + 2).toNatClampNeg)]) (v := some (.int r)) (rest := []) (st1 := [.int r]) hC hKG hAG (hSG _ _ hS) hP hS (hn _ (by decide)) rfl rfl (c_X6_head l G hn (xs (x3 + 1).toNatClampNeg) (xs (x3 + 2).toNatClampNeg) M r M1 h1) kV_X6_head lmL_65 ⟨Nat.le_of_ble_eq_true rfl, Nat.le_of_ble_eq_true rfl⟩ rfl hl.1 (Nat.le_of_ble_eq_true rfl) dL_law_597 ⟨Nat.le_of_ble_eq_true rfl, Nat.le_of_ble_eq_true rfl⟩ rfl (fun H locs hP hS => ?_)
  refine lv_aload_n hx hb dL_law_600 rfl (lv_at hl 2 rfl) ?_
  refine lv_aload_n hx hb dL_law_601 rfl (lv_at hl 0 rfl) ?_
  refine lv_iload_n hx hb dL_law_602 rfl (lv_at hl 3 rfl) ?_
  refine lv_iconst (v := 1) hx hb dL_law_603 (by decide) ?_
  refine lv_iadd hx hb dL_law_604 ?_
  refine va_sld hx hb hX hbl hbA hS (hin 1 (by decide)) dL_law_605 ?_
  refine lv_aload_n hx hb dL_law_606 rfl (lv_at hl 0 rfl) ?_
  refine lv_iload_n hx hb dL_law_607 rfl (lv_at hl 3 rfl) ?_
  refine lv_iconst (v := 2) hx hb dL_law_608 (by decide) ?_
  refine lv_iadd hx hb dL_law_609 ?_
  refine va_sld hx hb hX hbl hbA hS (hin 2 (by decide)) dL_law_610 ?_
  refine cL_ (ci := 7) (i := 61) (C := RX7) (T := TX7) (N := 29) (As := [.int (xs (x3 + 1).toNatClampNeg), .int (xs (x3 + 2).toNatClampNeg)]) (v := some (.int r)) (rest := [.int r]) (st1 := [.int r, .int r]) hC hKG hAG (hSG _ _ hS) hP hS (hn _ (by decide)) rfl rfl (c_X7_head l G hn (xs (x3 + 1).toNatClampNeg) (xs (x3 + 2).toNatClampNeg) M1 r M2 h2) kV_X7_head lmL_68 ⟨Nat.le_of_ble_eq_true rfl, Nat.le_of_ble_eq_true rfl⟩ rfl hl.1 (Nat.le_of_ble_eq_true rfl) dL_law_611 ⟨Nat.le_of_ble_eq_true rfl, Nat.le_of_ble_eq_true rfl⟩ rfl (fun H locs hP hS => ?_)
  refine lv_icmp_eq (tgt := 1220) hx hb dL_law_614 (by decide) (fun _ => ?_) (fun hc => absurd rfl hc)
  exact kk H locs hP hS
set_option maxHeartbeats 4000000 in
set_option maxRecDepth 100000 in
theorem lcase_13 (hC : CallFix p m c cL_law 4 s #[Value.ref b] TB RL) (hKG : KK G s) (hAG : ∀ a, AG G a → s.heap.size ≤ a) (hSG : ∀ (H : Heap) (locs : List Loc), va_S (fun q => s.heap.size ≤ q) s.heap H locs → SG G s H) (hn : ∀ i ∈ LsF, i ∈ gL G) (hX : va_X b L xs s s.heap) (hbl : b < s.heap.size) (hbA : ¬ (fun q : Nat => s.heap.size ≤ q) b) {x3 : Int32} (hin : ∀ j : Int32, (0 ≤ j ∧ j ≤ 5) → vp_in (x3 + j) L) {M M2 : Mem} (hop : RunOp 13 (xs (x3 + 1).toNatClampNeg) (xs (x3 + 2).toNatClampNeg) (xs (x3 + 3).toNatClampNeg) (xs (x3 + 4).toNatClampNeg) (xs (x3 + 5).toNatClampNeg) M M2) {H : Heap} {locs : List Loc} {ls : Array Slot} (hP : PP G M H) (hS : va_S (fun q => s.heap.size ≤ q) s.heap H locs) (hl : lv_has ls 4 [(0, .ref b), (1, .ref (G.1 50)), (2, .ref (G.1 61)), (3, .int x3)]) (kk : ∀ (H1 : Heap) (locs1 : List Loc), PP G M2 H1 → va_S (fun q => s.heap.size ≤ q) s.heap H1 locs1 → W p l e room_1 s m #[Value.ref b] below meth c H1 locs1 600000 7302250 (lw_Z below #[Value.ref b] s) (F0 m 1220 ls [])) : W p l e room_1 s m #[Value.ref b] below meth c H locs 600000 7302250 (lw_Z below #[Value.ref b] s) (F0 m 619 ls []) := by
  obtain ⟨hx, hb, hml, hown, hts⟩ := id hC
  obtain ⟨r, M1, h1, h2⟩ := hop
  refine lv_aload_n hx hb dL_law_619 rfl (lv_at hl 1 rfl) ?_
  refine lv_aload_n hx hb dL_law_620 rfl (lv_at hl 0 rfl) ?_
  refine lv_iload_n hx hb dL_law_621 rfl (lv_at hl 3 rfl) ?_
  refine lv_iconst (v := 1) hx hb dL_law_622 (by decide) ?_
  refine lv_iadd hx hb dL_law_623 ?_
  refine va_sld hx hb hX hbl hbA hS (hin 1 (by decide)) dL_law_624 ?_
  refine lv_aload_n hx hb dL_law_625 rfl (lv_at hl 0 rfl) ?_
  refine lv_iload_n hx hb dL_law_626 rfl (lv_at hl 3 rfl) ?_
  refine lv_iconst (v := 2) hx hb dL_law_627 (by decide) ?_
  refine lv_iadd hx hb dL_law_628 ?_
  refine va_sld hx hb hX hbl hbA hS (hin 2 (by decide)) dL_law_629 ?_
  refine cL_ (ci := 6) (i := 50) (C := RX6) (T := TX6) (N := 8) (As := [.int (xs (x3 + 1).toNatClampNeg), .int (xs (x3 + 2).toNatClampNeg)]) (v := some (.int r)) (rest := []) (st1 := [.int r]) hC hKG hAG (hSG _ _ hS) hP hS (hn _ (by decide)) rfl rfl (c_X6_orders l G hn (xs (x3 + 1).toNatClampNeg) (xs (x3 + 2).toNatClampNeg) M r M1 h1) kV_X6_orders lmL_69 ⟨Nat.le_of_ble_eq_true rfl, Nat.le_of_ble_eq_true rfl⟩ rfl hl.1 (Nat.le_of_ble_eq_true rfl) dL_law_630 ⟨Nat.le_of_ble_eq_true rfl, Nat.le_of_ble_eq_true rfl⟩ rfl (fun H locs hP hS => ?_)
  refine lv_aload_n hx hb dL_law_633 rfl (lv_at hl 2 rfl) ?_
  refine lv_aload_n hx hb dL_law_634 rfl (lv_at hl 0 rfl) ?_
  refine lv_iload_n hx hb dL_law_635 rfl (lv_at hl 3 rfl) ?_
  refine lv_iconst (v := 1) hx hb dL_law_636 (by decide) ?_
  refine lv_iadd hx hb dL_law_637 ?_
  refine va_sld hx hb hX hbl hbA hS (hin 1 (by decide)) dL_law_638 ?_
  refine lv_aload_n hx hb dL_law_639 rfl (lv_at hl 0 rfl) ?_
  refine lv_iload_n hx hb dL_law_640 rfl (lv_at hl 3 rfl) ?_
  refine lv_iconst (v := 2) hx hb dL_law_641 (by decide) ?_
  refine lv_iadd hx hb dL_law_642 ?_
  refine va_sld hx hb hX hbl hbA hS (hin 2 (by decide)) dL_law_643 ?_
  refine cL_ (ci := 7) (i := 61) (C := RX7) (T := TX7) (N := 29) (As := [.int (xs (x3 + 1).toNatClampNeg), .int (xs (x3 + 2).toNatClampNeg)]) (v := some (.int r)) (rest := [.int r]) (st1 := [.int r, .int r]) hC hKG hAG (hSG _ _ hS) hP hS (hn _ (by decide)) rfl rfl (c_X7_orders l G hn (xs (x3 + 1).toNatClampNeg) (xs (x3 + 2).toNatClampNeg) M1 r M2 h2) kV_X7_orders lmL_72 ⟨Nat.le_of_ble_eq_true rfl, Nat.le_of_ble_eq_true rfl⟩ rfl hl.1 (Nat.le_of_ble_eq_true rfl) dL_law_644 ⟨Nat.le_of_ble_eq_true rfl, Nat.le_of_ble_eq_true rfl⟩ rfl (fun H locs hP hS => ?_)
  refine lv_icmp_eq (tgt := 1220) hx hb dL_law_647 (by decide) (fun _ => ?_) (fun hc => absurd rfl hc)
  exact kk H locs hP hS
set_option maxHeartbeats 4000000 in
set_option maxRecDepth 100000 in
theorem lcase_14 (hC : CallFix p m c cL_law 4 s #[Value.ref b] TB RL) (hKG : KK G s) (hAG : ∀ a, AG G a → s.heap.size ≤ a) (hSG : ∀ (H : Heap) (locs : List Loc), va_S (fun q => s.heap.size ≤ q) s.heap H locs → SG G s H) (hn : ∀ i ∈ LsF, i ∈ gL G) (hX : va_X b L xs s s.heap) (hbl : b < s.heap.size) (hbA : ¬ (fun q : Nat => s.heap.size ≤ q) b) {x3 : Int32} (hin : ∀ j : Int32, (0 ≤ j ∧ j ≤ 5) → vp_in (x3 + j) L) {M M2 : Mem} (hop : RunOp 14 (xs (x3 + 1).toNatClampNeg) (xs (x3 + 2).toNatClampNeg) (xs (x3 + 3).toNatClampNeg) (xs (x3 + 4).toNatClampNeg) (xs (x3 + 5).toNatClampNeg) M M2) {H : Heap} {locs : List Loc} {ls : Array Slot} (hP : PP G M H) (hS : va_S (fun q => s.heap.size ≤ q) s.heap H locs) (hl : lv_has ls 4 [(0, .ref b), (1, .ref (G.1 50)), (2, .ref (G.1 61)), (3, .int x3)]) (kk : ∀ (H1 : Heap) (locs1 : List Loc), PP G M2 H1 → va_S (fun q => s.heap.size ≤ q) s.heap H1 locs1 → W p l e room_1 s m #[Value.ref b] below meth c H1 locs1 600000 7302250 (lw_Z below #[Value.ref b] s) (F0 m 1220 ls [])) : W p l e room_1 s m #[Value.ref b] below meth c H locs 600000 7302250 (lw_Z below #[Value.ref b] s) (F0 m 652 ls []) := by
  obtain ⟨hx, hb, hml, hown, hts⟩ := id hC
  obtain ⟨r, M1, h1, h2⟩ := hop
  refine lv_aload_n hx hb dL_law_652 rfl (lv_at hl 1 rfl) ?_
  refine lv_aload_n hx hb dL_law_653 rfl (lv_at hl 0 rfl) ?_
  refine lv_iload_n hx hb dL_law_654 rfl (lv_at hl 3 rfl) ?_
  refine lv_iconst (v := 1) hx hb dL_law_655 (by decide) ?_
  refine lv_iadd hx hb dL_law_656 ?_
  refine va_sld hx hb hX hbl hbA hS (hin 1 (by decide)) dL_law_657 ?_
  refine lv_aload_n hx hb dL_law_658 rfl (lv_at hl 0 rfl) ?_
  refine lv_iload_n hx hb dL_law_659 rfl (lv_at hl 3 rfl) ?_
  refine lv_iconst (v := 2) hx hb dL_law_660 (by decide) ?_
  refine lv_iadd hx hb dL_law_661 ?_
  refine va_sld hx hb hX hbl hbA hS (hin 2 (by decide)) dL_law_662 ?_
  refine lv_aload_n hx hb dL_law_663 rfl (lv_at hl 0 rfl) ?_
  refine lv_iload_n hx hb dL_law_664 rfl (lv_at hl 3 rfl) ?_
  refine lv_iconst (v := 3) hx hb dL_law_665 (by decide) ?_
  refine lv_iadd hx hb dL_law_666 ?_
  refine va_sld hx hb hX hbl hbA hS (hin 3 (by decide)) dL_law_667 ?_
  refine cL_ (ci := 6) (i := 50) (C := RX6) (T := TX6) (N := 8) (As := [.int (xs (x3 + 1).toNatClampNeg), .int (xs (x3 + 2).toNatClampNeg), .int (xs (x3 + 3).toNatClampNeg)]) (v := some (.int r)) (rest := []) (st1 := [.int r]) hC hKG hAG (hSG _ _ hS) hP hS (hn _ (by decide)) rfl rfl (c_X6_strikes l G hn (xs (x3 + 1).toNatClampNeg) (xs (x3 + 2).toNatClampNeg) (xs (x3 + 3).toNatClampNeg) M r M1 h1) kV_X6_strikes lmL_73 ⟨Nat.le_of_ble_eq_true rfl, Nat.le_of_ble_eq_true rfl⟩ rfl hl.1 (Nat.le_of_ble_eq_true rfl) dL_law_668 ⟨Nat.le_of_ble_eq_true rfl, Nat.le_of_ble_eq_true rfl⟩ rfl (fun H locs hP hS => ?_)
  refine lv_aload_n hx hb dL_law_671 rfl (lv_at hl 2 rfl) ?_
  refine lv_aload_n hx hb dL_law_672 rfl (lv_at hl 0 rfl) ?_
  refine lv_iload_n hx hb dL_law_673 rfl (lv_at hl 3 rfl) ?_
  refine lv_iconst (v := 1) hx hb dL_law_674 (by decide) ?_
  refine lv_iadd hx hb dL_law_675 ?_
  refine va_sld hx hb hX hbl hbA hS (hin 1 (by decide)) dL_law_676 ?_
  refine lv_aload_n hx hb dL_law_677 rfl (lv_at hl 0 rfl) ?_
  refine lv_iload_n hx hb dL_law_678 rfl (lv_at hl 3 rfl) ?_
  refine lv_iconst (v := 2) hx hb dL_law_679 (by decide) ?_
  refine lv_iadd hx hb dL_law_680 ?_
  refine va_sld hx hb hX hbl hbA hS (hin 2 (by decide)) dL_law_681 ?_
  refine lv_aload_n hx hb dL_law_682 rfl (lv_at hl 0 rfl) ?_
  refine lv_iload_n hx hb dL_law_683 rfl (lv_at hl 3 rfl) ?_
  refine lv_iconst (v := 3) hx hb dL_law_684 (by decide) ?_
  refine lv_iadd hx hb dL_law_685 ?_
  refine va_sld hx hb hX hbl hbA hS (hin 3 (by decide)) dL_law_686 ?_
  refine cL_ (ci := 7) (i := 61) (C := RX7) (T := TX7) (N := 29) (As := [.int (xs (x3 + 1).toNatClampNeg), .int (xs (x3 + 2).toNatClampNeg), .int (xs (x3 + 3).toNatClampNeg)]) (v := some (.int r)) (rest := [.int r]) (st1 := [.int r, .int r]) hC hKG hAG (hSG _ _ hS) hP hS (hn _ (by decide)) rfl rfl (c_X7_strikes l G hn (xs (x3 + 1).toNatClampNeg) (xs (x3 + 2).toNatClampNeg) (xs (x3 + 3).toNatClampNeg) M1 r M2 h2) kV_X7_strikes lmL_76 ⟨Nat.le_of_ble_eq_true rfl, Nat.le_of_ble_eq_true rfl⟩ rfl hl.1 (Nat.le_of_ble_eq_true rfl) dL_law_687 ⟨Nat.le_of_ble_eq_true rfl, Nat.le_of_ble_eq_true rfl⟩ rfl (fun H locs hP hS => ?_)
  refine lv_icmp_eq (tgt := 1220) hx hb dL_law_690 (by decide) (fun _ => ?_) (fun hc => absurd rfl hc)
  exact kk H locs hP hS
set_option maxHeartbeats 4000000 in
set_option maxRecDepth 100000 in
theorem lcase_15 (hC : CallFix p m c cL_law 4 s #[Value.ref b] TB RL) (hKG : KK G s) (hAG : ∀ a, AG G a → s.heap.size ≤ a) (hSG : ∀ (H : Heap) (locs : List Loc), va_S (fun q => s.heap.size ≤ q) s.heap H locs → SG G s H) (hn : ∀ i ∈ LsF, i ∈ gL G) (hX : va_X b L xs s s.heap) (hbl : b < s.heap.size) (hbA : ¬ (fun q : Nat => s.heap.size ≤ q) b) {x3 : Int32} (hin : ∀ j : Int32, (0 ≤ j ∧ j ≤ 5) → vp_in (x3 + j) L) {M M2 : Mem} (hop : RunOp 15 (xs (x3 + 1).toNatClampNeg) (xs (x3 + 2).toNatClampNeg) (xs (x3 + 3).toNatClampNeg) (xs (x3 + 4).toNatClampNeg) (xs (x3 + 5).toNatClampNeg) M M2) {H : Heap} {locs : List Loc} {ls : Array Slot} (hP : PP G M H) (hS : va_S (fun q => s.heap.size ≤ q) s.heap H locs) (hl : lv_has ls 4 [(0, .ref b), (1, .ref (G.1 50)), (2, .ref (G.1 61)), (3, .int x3)]) (kk : ∀ (H1 : Heap) (locs1 : List Loc), PP G M2 H1 → va_S (fun q => s.heap.size ≤ q) s.heap H1 locs1 → W p l e room_1 s m #[Value.ref b] below meth c H1 locs1 600000 7302250 (lw_Z below #[Value.ref b] s) (F0 m 1220 ls [])) : W p l e room_1 s m #[Value.ref b] below meth c H locs 600000 7302250 (lw_Z below #[Value.ref b] s) (F0 m 695 ls []) := by
  obtain ⟨hx, hb, hml, hown, hts⟩ := id hC
  obtain ⟨r, M1, h1, h2⟩ := hop
  refine lv_aload_n hx hb dL_law_695 rfl (lv_at hl 1 rfl) ?_
  refine lv_aload_n hx hb dL_law_696 rfl (lv_at hl 0 rfl) ?_
  refine lv_iload_n hx hb dL_law_697 rfl (lv_at hl 3 rfl) ?_
  refine lv_iconst (v := 1) hx hb dL_law_698 (by decide) ?_
  refine lv_iadd hx hb dL_law_699 ?_
  refine va_sld hx hb hX hbl hbA hS (hin 1 (by decide)) dL_law_700 ?_
  refine lv_aload_n hx hb dL_law_701 rfl (lv_at hl 0 rfl) ?_
  refine lv_iload_n hx hb dL_law_702 rfl (lv_at hl 3 rfl) ?_
  refine lv_iconst (v := 2) hx hb dL_law_703 (by decide) ?_
  refine lv_iadd hx hb dL_law_704 ?_
  refine va_sld hx hb hX hbl hbA hS (hin 2 (by decide)) dL_law_705 ?_
  refine cL_ (ci := 6) (i := 50) (C := RX6) (T := TX6) (N := 8) (As := [.int (xs (x3 + 1).toNatClampNeg), .int (xs (x3 + 2).toNatClampNeg)]) (v := some (.int r)) (rest := []) (st1 := [.int r]) hC hKG hAG (hSG _ _ hS) hP hS (hn _ (by decide)) rfl rfl (c_X6_sound l G hn (xs (x3 + 1).toNatClampNeg) (xs (x3 + 2).toNatClampNeg) M r M1 h1) kV_X6_sound lmL_77 ⟨Nat.le_of_ble_eq_true rfl, Nat.le_of_ble_eq_true rfl⟩ rfl hl.1 (Nat.le_of_ble_eq_true rfl) dL_law_706 ⟨Nat.le_of_ble_eq_true rfl, Nat.le_of_ble_eq_true rfl⟩ rfl (fun H locs hP hS => ?_)
  refine lv_aload_n hx hb dL_law_709 rfl (lv_at hl 2 rfl) ?_
  refine lv_aload_n hx hb dL_law_710 rfl (lv_at hl 0 rfl) ?_
  refine lv_iload_n hx hb dL_law_711 rfl (lv_at hl 3 rfl) ?_
  refine lv_iconst (v := 1) hx hb dL_law_712 (by decide) ?_
  refine lv_iadd hx hb dL_law_713 ?_
  refine va_sld hx hb hX hbl hbA hS (hin 1 (by decide)) dL_law_714 ?_
  refine lv_aload_n hx hb dL_law_715 rfl (lv_at hl 0 rfl) ?_
  refine lv_iload_n hx hb dL_law_716 rfl (lv_at hl 3 rfl) ?_
  refine lv_iconst (v := 2) hx hb dL_law_717 (by decide) ?_
  refine lv_iadd hx hb dL_law_718 ?_
  refine va_sld hx hb hX hbl hbA hS (hin 2 (by decide)) dL_law_719 ?_
  refine cL_ (ci := 7) (i := 61) (C := RX7) (T := TX7) (N := 29) (As := [.int (xs (x3 + 1).toNatClampNeg), .int (xs (x3 + 2).toNatClampNeg)]) (v := some (.int r)) (rest := [.int r]) (st1 := [.int r, .int r]) hC hKG hAG (hSG _ _ hS) hP hS (hn _ (by decide)) rfl rfl (c_X7_sound l G hn (xs (x3 + 1).toNatClampNeg) (xs (x3 + 2).toNatClampNeg) M1 r M2 h2) kV_X7_sound lmL_80 ⟨Nat.le_of_ble_eq_true rfl, Nat.le_of_ble_eq_true rfl⟩ rfl hl.1 (Nat.le_of_ble_eq_true rfl) dL_law_720 ⟨Nat.le_of_ble_eq_true rfl, Nat.le_of_ble_eq_true rfl⟩ rfl (fun H locs hP hS => ?_)
  refine lv_icmp_eq (tgt := 1220) hx hb dL_law_723 (by decide) (fun _ => ?_) (fun hc => absurd rfl hc)
  exact kk H locs hP hS
set_option maxHeartbeats 4000000 in
set_option maxRecDepth 100000 in
theorem lcase_16 (hC : CallFix p m c cL_law 4 s #[Value.ref b] TB RL) (hKG : KK G s) (hAG : ∀ a, AG G a → s.heap.size ≤ a) (hSG : ∀ (H : Heap) (locs : List Loc), va_S (fun q => s.heap.size ≤ q) s.heap H locs → SG G s H) (hn : ∀ i ∈ LsF, i ∈ gL G) (hX : va_X b L xs s s.heap) (hbl : b < s.heap.size) (hbA : ¬ (fun q : Nat => s.heap.size ≤ q) b) {x3 : Int32} (hin : ∀ j : Int32, (0 ≤ j ∧ j ≤ 5) → vp_in (x3 + j) L) {M M2 : Mem} (hop : RunOp 16 (xs (x3 + 1).toNatClampNeg) (xs (x3 + 2).toNatClampNeg) (xs (x3 + 3).toNatClampNeg) (xs (x3 + 4).toNatClampNeg) (xs (x3 + 5).toNatClampNeg) M M2) {H : Heap} {locs : List Loc} {ls : Array Slot} (hP : PP G M H) (hS : va_S (fun q => s.heap.size ≤ q) s.heap H locs) (hl : lv_has ls 4 [(0, .ref b), (1, .ref (G.1 50)), (2, .ref (G.1 61)), (3, .int x3)]) (kk : ∀ (H1 : Heap) (locs1 : List Loc), PP G M2 H1 → va_S (fun q => s.heap.size ≤ q) s.heap H1 locs1 → W p l e room_1 s m #[Value.ref b] below meth c H1 locs1 600000 7302250 (lw_Z below #[Value.ref b] s) (F0 m 1220 ls [])) : W p l e room_1 s m #[Value.ref b] below meth c H locs 600000 7302250 (lw_Z below #[Value.ref b] s) (F0 m 728 ls []) := by
  obtain ⟨hx, hb, hml, hown, hts⟩ := id hC
  obtain ⟨r, M1, h1, h2⟩ := hop
  refine lv_aload_n hx hb dL_law_728 rfl (lv_at hl 1 rfl) ?_
  refine lv_aload_n hx hb dL_law_729 rfl (lv_at hl 0 rfl) ?_
  refine lv_iload_n hx hb dL_law_730 rfl (lv_at hl 3 rfl) ?_
  refine lv_iconst (v := 1) hx hb dL_law_731 (by decide) ?_
  refine lv_iadd hx hb dL_law_732 ?_
  refine va_sld hx hb hX hbl hbA hS (hin 1 (by decide)) dL_law_733 ?_
  refine cL_ (ci := 6) (i := 50) (C := RX6) (T := TX6) (N := 8) (As := [.int (xs (x3 + 1).toNatClampNeg)]) (v := some (.int r)) (rest := []) (st1 := [.int r]) hC hKG hAG (hSG _ _ hS) hP hS (hn _ (by decide)) rfl rfl (c_X6_least l G hn (xs (x3 + 1).toNatClampNeg) M r M1 h1) kV_X6_least lmL_81 ⟨Nat.le_of_ble_eq_true rfl, Nat.le_of_ble_eq_true rfl⟩ rfl hl.1 (Nat.le_of_ble_eq_true rfl) dL_law_734 ⟨Nat.le_of_ble_eq_true rfl, Nat.le_of_ble_eq_true rfl⟩ rfl (fun H locs hP hS => ?_)
  refine lv_aload_n hx hb dL_law_737 rfl (lv_at hl 2 rfl) ?_
  refine lv_aload_n hx hb dL_law_738 rfl (lv_at hl 0 rfl) ?_
  refine lv_iload_n hx hb dL_law_739 rfl (lv_at hl 3 rfl) ?_
  refine lv_iconst (v := 1) hx hb dL_law_740 (by decide) ?_
  refine lv_iadd hx hb dL_law_741 ?_
  refine va_sld hx hb hX hbl hbA hS (hin 1 (by decide)) dL_law_742 ?_
  refine cL_ (ci := 7) (i := 61) (C := RX7) (T := TX7) (N := 29) (As := [.int (xs (x3 + 1).toNatClampNeg)]) (v := some (.int r)) (rest := [.int r]) (st1 := [.int r, .int r]) hC hKG hAG (hSG _ _ hS) hP hS (hn _ (by decide)) rfl rfl (c_X7_least l G hn (xs (x3 + 1).toNatClampNeg) M1 r M2 h2) kV_X7_least lmL_84 ⟨Nat.le_of_ble_eq_true rfl, Nat.le_of_ble_eq_true rfl⟩ rfl hl.1 (Nat.le_of_ble_eq_true rfl) dL_law_743 ⟨Nat.le_of_ble_eq_true rfl, Nat.le_of_ble_eq_true rfl⟩ rfl (fun H locs hP hS => ?_)
  refine lv_icmp_eq (tgt := 1220) hx hb dL_law_746 (by decide) (fun _ => ?_) (fun hc => absurd rfl hc)
  exact kk H locs hP hS
set_option maxHeartbeats 4000000 in
set_option maxRecDepth 100000 in
theorem lcase_17 (hC : CallFix p m c cL_law 4 s #[Value.ref b] TB RL) (hKG : KK G s) (hAG : ∀ a, AG G a → s.heap.size ≤ a) (hSG : ∀ (H : Heap) (locs : List Loc), va_S (fun q => s.heap.size ≤ q) s.heap H locs → SG G s H) (hn : ∀ i ∈ LsF, i ∈ gL G) (hX : va_X b L xs s s.heap) (hbl : b < s.heap.size) (hbA : ¬ (fun q : Nat => s.heap.size ≤ q) b) {x3 : Int32} (hin : ∀ j : Int32, (0 ≤ j ∧ j ≤ 5) → vp_in (x3 + j) L) {M M2 : Mem} (hop : RunOp 17 (xs (x3 + 1).toNatClampNeg) (xs (x3 + 2).toNatClampNeg) (xs (x3 + 3).toNatClampNeg) (xs (x3 + 4).toNatClampNeg) (xs (x3 + 5).toNatClampNeg) M M2) {H : Heap} {locs : List Loc} {ls : Array Slot} (hP : PP G M H) (hS : va_S (fun q => s.heap.size ≤ q) s.heap H locs) (hl : lv_has ls 4 [(0, .ref b), (1, .ref (G.1 50)), (2, .ref (G.1 61)), (3, .int x3)]) (kk : ∀ (H1 : Heap) (locs1 : List Loc), PP G M2 H1 → va_S (fun q => s.heap.size ≤ q) s.heap H1 locs1 → W p l e room_1 s m #[Value.ref b] below meth c H1 locs1 600000 7302250 (lw_Z below #[Value.ref b] s) (F0 m 1220 ls [])) : W p l e room_1 s m #[Value.ref b] below meth c H locs 600000 7302250 (lw_Z below #[Value.ref b] s) (F0 m 751 ls []) := by
  obtain ⟨hx, hb, hml, hown, hts⟩ := id hC
  obtain ⟨r, M1, h1, h2⟩ := hop
  refine lv_aload_n hx hb dL_law_751 rfl (lv_at hl 1 rfl) ?_
  refine lv_aload_n hx hb dL_law_752 rfl (lv_at hl 0 rfl) ?_
  refine lv_iload_n hx hb dL_law_753 rfl (lv_at hl 3 rfl) ?_
  refine lv_iconst (v := 1) hx hb dL_law_754 (by decide) ?_
  refine lv_iadd hx hb dL_law_755 ?_
  refine va_sld hx hb hX hbl hbA hS (hin 1 (by decide)) dL_law_756 ?_
  refine lv_aload_n hx hb dL_law_757 rfl (lv_at hl 0 rfl) ?_
  refine lv_iload_n hx hb dL_law_758 rfl (lv_at hl 3 rfl) ?_
  refine lv_iconst (v := 2) hx hb dL_law_759 (by decide) ?_
  refine lv_iadd hx hb dL_law_760 ?_
  refine va_sld hx hb hX hbl hbA hS (hin 2 (by decide)) dL_law_761 ?_
  refine cL_ (ci := 6) (i := 50) (C := RX6) (T := TX6) (N := 8) (As := [.int (xs (x3 + 1).toNatClampNeg), .int (xs (x3 + 2).toNatClampNeg)]) (v := some (.int r)) (rest := []) (st1 := [.int r]) hC hKG hAG (hSG _ _ hS) hP hS (hn _ (by decide)) rfl rfl (c_X6_full l G hn (xs (x3 + 1).toNatClampNeg) (xs (x3 + 2).toNatClampNeg) M r M1 h1) kV_X6_full lmL_85 ⟨Nat.le_of_ble_eq_true rfl, Nat.le_of_ble_eq_true rfl⟩ rfl hl.1 (Nat.le_of_ble_eq_true rfl) dL_law_762 ⟨Nat.le_of_ble_eq_true rfl, Nat.le_of_ble_eq_true rfl⟩ rfl (fun H locs hP hS => ?_)
  refine lv_aload_n hx hb dL_law_765 rfl (lv_at hl 2 rfl) ?_
  refine lv_aload_n hx hb dL_law_766 rfl (lv_at hl 0 rfl) ?_
  refine lv_iload_n hx hb dL_law_767 rfl (lv_at hl 3 rfl) ?_
  refine lv_iconst (v := 1) hx hb dL_law_768 (by decide) ?_
  refine lv_iadd hx hb dL_law_769 ?_
  refine va_sld hx hb hX hbl hbA hS (hin 1 (by decide)) dL_law_770 ?_
  refine lv_aload_n hx hb dL_law_771 rfl (lv_at hl 0 rfl) ?_
  refine lv_iload_n hx hb dL_law_772 rfl (lv_at hl 3 rfl) ?_
  refine lv_iconst (v := 2) hx hb dL_law_773 (by decide) ?_
  refine lv_iadd hx hb dL_law_774 ?_
  refine va_sld hx hb hX hbl hbA hS (hin 2 (by decide)) dL_law_775 ?_
  refine cL_ (ci := 7) (i := 61) (C := RX7) (T := TX7) (N := 29) (As := [.int (xs (x3 + 1).toNatClampNeg), .int (xs (x3 + 2).toNatClampNeg)]) (v := some (.int r)) (rest := [.int r]) (st1 := [.int r, .int r]) hC hKG hAG (hSG _ _ hS) hP hS (hn _ (by decide)) rfl rfl (c_X7_full l G hn (xs (x3 + 1).toNatClampNeg) (xs (x3 + 2).toNatClampNeg) M1 r M2 h2) kV_X7_full lmL_88 ⟨Nat.le_of_ble_eq_true rfl, Nat.le_of_ble_eq_true rfl⟩ rfl hl.1 (Nat.le_of_ble_eq_true rfl) dL_law_776 ⟨Nat.le_of_ble_eq_true rfl, Nat.le_of_ble_eq_true rfl⟩ rfl (fun H locs hP hS => ?_)
  refine lv_icmp_eq (tgt := 1220) hx hb dL_law_779 (by decide) (fun _ => ?_) (fun hc => absurd rfl hc)
  exact kk H locs hP hS
set_option maxHeartbeats 4000000 in
set_option maxRecDepth 100000 in
theorem lcase_18 (hC : CallFix p m c cL_law 4 s #[Value.ref b] TB RL) (hKG : KK G s) (hAG : ∀ a, AG G a → s.heap.size ≤ a) (hSG : ∀ (H : Heap) (locs : List Loc), va_S (fun q => s.heap.size ≤ q) s.heap H locs → SG G s H) (hn : ∀ i ∈ LsF, i ∈ gL G) (hX : va_X b L xs s s.heap) (hbl : b < s.heap.size) (hbA : ¬ (fun q : Nat => s.heap.size ≤ q) b) {x3 : Int32} (hin : ∀ j : Int32, (0 ≤ j ∧ j ≤ 5) → vp_in (x3 + j) L) {M M2 : Mem} (hop : RunOp 18 (xs (x3 + 1).toNatClampNeg) (xs (x3 + 2).toNatClampNeg) (xs (x3 + 3).toNatClampNeg) (xs (x3 + 4).toNatClampNeg) (xs (x3 + 5).toNatClampNeg) M M2) {H : Heap} {locs : List Loc} {ls : Array Slot} (hP : PP G M H) (hS : va_S (fun q => s.heap.size ≤ q) s.heap H locs) (hl : lv_has ls 4 [(0, .ref b), (1, .ref (G.1 50)), (2, .ref (G.1 61)), (3, .int x3)]) (kk : ∀ (H1 : Heap) (locs1 : List Loc), PP G M2 H1 → va_S (fun q => s.heap.size ≤ q) s.heap H1 locs1 → W p l e room_1 s m #[Value.ref b] below meth c H1 locs1 600000 7302250 (lw_Z below #[Value.ref b] s) (F0 m 1220 ls [])) : W p l e room_1 s m #[Value.ref b] below meth c H locs 600000 7302250 (lw_Z below #[Value.ref b] s) (F0 m 784 ls []) := by
  obtain ⟨hx, hb, hml, hown, hts⟩ := id hC
  obtain ⟨r, M1, h1, h2⟩ := hop
  refine lv_aload_n hx hb dL_law_784 rfl (lv_at hl 1 rfl) ?_
  refine lv_aload_n hx hb dL_law_785 rfl (lv_at hl 0 rfl) ?_
  refine lv_iload_n hx hb dL_law_786 rfl (lv_at hl 3 rfl) ?_
  refine lv_iconst (v := 1) hx hb dL_law_787 (by decide) ?_
  refine lv_iadd hx hb dL_law_788 ?_
  refine va_sld hx hb hX hbl hbA hS (hin 1 (by decide)) dL_law_789 ?_
  refine lv_aload_n hx hb dL_law_790 rfl (lv_at hl 0 rfl) ?_
  refine lv_iload_n hx hb dL_law_791 rfl (lv_at hl 3 rfl) ?_
  refine lv_iconst (v := 2) hx hb dL_law_792 (by decide) ?_
  refine lv_iadd hx hb dL_law_793 ?_
  refine va_sld hx hb hX hbl hbA hS (hin 2 (by decide)) dL_law_794 ?_
  refine cL_ (ci := 6) (i := 50) (C := RX6) (T := TX6) (N := 8) (As := [.int (xs (x3 + 1).toNatClampNeg), .int (xs (x3 + 2).toNatClampNeg)]) (v := some (.int r)) (rest := []) (st1 := [.int r]) hC hKG hAG (hSG _ _ hS) hP hS (hn _ (by decide)) rfl rfl (c_X6_firm l G hn (xs (x3 + 1).toNatClampNeg) (xs (x3 + 2).toNatClampNeg) M r M1 h1) kV_X6_firm lmL_89 ⟨Nat.le_of_ble_eq_true rfl, Nat.le_of_ble_eq_true rfl⟩ rfl hl.1 (Nat.le_of_ble_eq_true rfl) dL_law_795 ⟨Nat.le_of_ble_eq_true rfl, Nat.le_of_ble_eq_true rfl⟩ rfl (fun H locs hP hS => ?_)
  refine lv_aload_n hx hb dL_law_798 rfl (lv_at hl 2 rfl) ?_
  refine lv_aload_n hx hb dL_law_799 rfl (lv_at hl 0 rfl) ?_
  refine lv_iload_n hx hb dL_law_800 rfl (lv_at hl 3 rfl) ?_
  refine lv_iconst (v := 1) hx hb dL_law_801 (by decide) ?_
  refine lv_iadd hx hb dL_law_802 ?_
  refine va_sld hx hb hX hbl hbA hS (hin 1 (by decide)) dL_law_803 ?_
  refine lv_aload_n hx hb dL_law_804 rfl (lv_at hl 0 rfl) ?_
  refine lv_iload_n hx hb dL_law_805 rfl (lv_at hl 3 rfl) ?_
  refine lv_iconst (v := 2) hx hb dL_law_806 (by decide) ?_
  refine lv_iadd hx hb dL_law_807 ?_
  refine va_sld hx hb hX hbl hbA hS (hin 2 (by decide)) dL_law_808 ?_
  refine cL_ (ci := 7) (i := 61) (C := RX7) (T := TX7) (N := 29) (As := [.int (xs (x3 + 1).toNatClampNeg), .int (xs (x3 + 2).toNatClampNeg)]) (v := some (.int r)) (rest := [.int r]) (st1 := [.int r, .int r]) hC hKG hAG (hSG _ _ hS) hP hS (hn _ (by decide)) rfl rfl (c_X7_firm l G hn (xs (x3 + 1).toNatClampNeg) (xs (x3 + 2).toNatClampNeg) M1 r M2 h2) kV_X7_firm lmL_92 ⟨Nat.le_of_ble_eq_true rfl, Nat.le_of_ble_eq_true rfl⟩ rfl hl.1 (Nat.le_of_ble_eq_true rfl) dL_law_809 ⟨Nat.le_of_ble_eq_true rfl, Nat.le_of_ble_eq_true rfl⟩ rfl (fun H locs hP hS => ?_)
  refine lv_icmp_eq (tgt := 1220) hx hb dL_law_812 (by decide) (fun _ => ?_) (fun hc => absurd rfl hc)
  exact kk H locs hP hS
set_option maxHeartbeats 4000000 in
set_option maxRecDepth 100000 in
theorem lcase_19 (hC : CallFix p m c cL_law 4 s #[Value.ref b] TB RL) (hKG : KK G s) (hAG : ∀ a, AG G a → s.heap.size ≤ a) (hSG : ∀ (H : Heap) (locs : List Loc), va_S (fun q => s.heap.size ≤ q) s.heap H locs → SG G s H) (hn : ∀ i ∈ LsF, i ∈ gL G) (hX : va_X b L xs s s.heap) (hbl : b < s.heap.size) (hbA : ¬ (fun q : Nat => s.heap.size ≤ q) b) {x3 : Int32} (hin : ∀ j : Int32, (0 ≤ j ∧ j ≤ 5) → vp_in (x3 + j) L) {M M2 : Mem} (hop : RunOp 19 (xs (x3 + 1).toNatClampNeg) (xs (x3 + 2).toNatClampNeg) (xs (x3 + 3).toNatClampNeg) (xs (x3 + 4).toNatClampNeg) (xs (x3 + 5).toNatClampNeg) M M2) {H : Heap} {locs : List Loc} {ls : Array Slot} (hP : PP G M H) (hS : va_S (fun q => s.heap.size ≤ q) s.heap H locs) (hl : lv_has ls 4 [(0, .ref b), (1, .ref (G.1 50)), (2, .ref (G.1 61)), (3, .int x3)]) (kk : ∀ (H1 : Heap) (locs1 : List Loc), PP G M2 H1 → va_S (fun q => s.heap.size ≤ q) s.heap H1 locs1 → W p l e room_1 s m #[Value.ref b] below meth c H1 locs1 600000 7302250 (lw_Z below #[Value.ref b] s) (F0 m 1220 ls [])) : W p l e room_1 s m #[Value.ref b] below meth c H locs 600000 7302250 (lw_Z below #[Value.ref b] s) (F0 m 817 ls []) := by
  obtain ⟨hx, hb, hml, hown, hts⟩ := id hC
  obtain ⟨r, M1, h1, h2⟩ := hop
  refine lv_aload_n hx hb dL_law_817 rfl (lv_at hl 1 rfl) ?_
  refine cL_ (ci := 6) (i := 50) (C := RX6) (T := TX6) (N := 8) (As := []) (v := some (.int r)) (rest := []) (st1 := [.int r]) hC hKG hAG (hSG _ _ hS) hP hS (hn _ (by decide)) rfl rfl (c_X6_ring l G hn  M r M1 h1) kV_X6_ring lmL_93 ⟨Nat.le_of_ble_eq_true rfl, Nat.le_of_ble_eq_true rfl⟩ rfl hl.1 (Nat.le_of_ble_eq_true rfl) dL_law_818 ⟨Nat.le_of_ble_eq_true rfl, Nat.le_of_ble_eq_true rfl⟩ rfl (fun H locs hP hS => ?_)
  refine lv_aload_n hx hb dL_law_821 rfl (lv_at hl 2 rfl) ?_
  refine cL_ (ci := 7) (i := 61) (C := RX7) (T := TX7) (N := 29) (As := []) (v := some (.int r)) (rest := [.int r]) (st1 := [.int r, .int r]) hC hKG hAG (hSG _ _ hS) hP hS (hn _ (by decide)) rfl rfl (c_X7_ring l G hn  M1 r M2 h2) kV_X7_ring lmL_97 ⟨Nat.le_of_ble_eq_true rfl, Nat.le_of_ble_eq_true rfl⟩ rfl hl.1 (Nat.le_of_ble_eq_true rfl) dL_law_822 ⟨Nat.le_of_ble_eq_true rfl, Nat.le_of_ble_eq_true rfl⟩ rfl (fun H locs hP hS => ?_)
  refine lv_icmp_eq (tgt := 1220) hx hb dL_law_825 (by decide) (fun _ => ?_) (fun hc => absurd rfl hc)
  exact kk H locs hP hS
set_option maxHeartbeats 4000000 in
set_option maxRecDepth 100000 in
theorem lcase_20 (hC : CallFix p m c cL_law 4 s #[Value.ref b] TB RL) (hKG : KK G s) (hAG : ∀ a, AG G a → s.heap.size ≤ a) (hSG : ∀ (H : Heap) (locs : List Loc), va_S (fun q => s.heap.size ≤ q) s.heap H locs → SG G s H) (hn : ∀ i ∈ LsF, i ∈ gL G) (hX : va_X b L xs s s.heap) (hbl : b < s.heap.size) (hbA : ¬ (fun q : Nat => s.heap.size ≤ q) b) {x3 : Int32} (hin : ∀ j : Int32, (0 ≤ j ∧ j ≤ 5) → vp_in (x3 + j) L) {M M2 : Mem} (hop : RunOp 20 (xs (x3 + 1).toNatClampNeg) (xs (x3 + 2).toNatClampNeg) (xs (x3 + 3).toNatClampNeg) (xs (x3 + 4).toNatClampNeg) (xs (x3 + 5).toNatClampNeg) M M2) {H : Heap} {locs : List Loc} {ls : Array Slot} (hP : PP G M H) (hS : va_S (fun q => s.heap.size ≤ q) s.heap H locs) (hl : lv_has ls 4 [(0, .ref b), (1, .ref (G.1 50)), (2, .ref (G.1 61)), (3, .int x3)]) (kk : ∀ (H1 : Heap) (locs1 : List Loc), PP G M2 H1 → va_S (fun q => s.heap.size ≤ q) s.heap H1 locs1 → W p l e room_1 s m #[Value.ref b] below meth c H1 locs1 600000 7302250 (lw_Z below #[Value.ref b] s) (F0 m 1220 ls [])) : W p l e room_1 s m #[Value.ref b] below meth c H locs 600000 7302250 (lw_Z below #[Value.ref b] s) (F0 m 830 ls []) := by
  obtain ⟨hx, hb, hml, hown, hts⟩ := id hC
  obtain ⟨r, M1, h1, h2⟩ := hop
  refine lv_aload_n hx hb dL_law_830 rfl (lv_at hl 1 rfl) ?_
  refine lv_aload_n hx hb dL_law_831 rfl (lv_at hl 0 rfl) ?_
  refine lv_iload_n hx hb dL_law_832 rfl (lv_at hl 3 rfl) ?_
  refine lv_iconst (v := 1) hx hb dL_law_833 (by decide) ?_
  refine lv_iadd hx hb dL_law_834 ?_
  refine va_sld hx hb hX hbl hbA hS (hin 1 (by decide)) dL_law_835 ?_
  refine cL_ (ci := 6) (i := 50) (C := RX6) (T := TX6) (N := 8) (As := [.int (xs (x3 + 1).toNatClampNeg)]) (v := some (.int r)) (rest := []) (st1 := [.int r]) hC hKG hAG (hSG _ _ hS) hP hS (hn _ (by decide)) rfl rfl (c_X6_chain l G hn (xs (x3 + 1).toNatClampNeg) M r M1 h1) kV_X6_chain lmL_98 ⟨Nat.le_of_ble_eq_true rfl, Nat.le_of_ble_eq_true rfl⟩ rfl hl.1 (Nat.le_of_ble_eq_true rfl) dL_law_836 ⟨Nat.le_of_ble_eq_true rfl, Nat.le_of_ble_eq_true rfl⟩ rfl (fun H locs hP hS => ?_)
  refine lv_aload_n hx hb dL_law_839 rfl (lv_at hl 2 rfl) ?_
  refine lv_aload_n hx hb dL_law_840 rfl (lv_at hl 0 rfl) ?_
  refine lv_iload_n hx hb dL_law_841 rfl (lv_at hl 3 rfl) ?_
  refine lv_iconst (v := 1) hx hb dL_law_842 (by decide) ?_
  refine lv_iadd hx hb dL_law_843 ?_
  refine va_sld hx hb hX hbl hbA hS (hin 1 (by decide)) dL_law_844 ?_
  refine cL_ (ci := 7) (i := 61) (C := RX7) (T := TX7) (N := 29) (As := [.int (xs (x3 + 1).toNatClampNeg)]) (v := some (.int r)) (rest := [.int r]) (st1 := [.int r, .int r]) hC hKG hAG (hSG _ _ hS) hP hS (hn _ (by decide)) rfl rfl (c_X7_chain l G hn (xs (x3 + 1).toNatClampNeg) M1 r M2 h2) kV_X7_chain lmL_101 ⟨Nat.le_of_ble_eq_true rfl, Nat.le_of_ble_eq_true rfl⟩ rfl hl.1 (Nat.le_of_ble_eq_true rfl) dL_law_845 ⟨Nat.le_of_ble_eq_true rfl, Nat.le_of_ble_eq_true rfl⟩ rfl (fun H locs hP hS => ?_)
  refine lv_icmp_eq (tgt := 1220) hx hb dL_law_848 (by decide) (fun _ => ?_) (fun hc => absurd rfl hc)
  exact kk H locs hP hS
set_option maxHeartbeats 4000000 in
set_option maxRecDepth 100000 in
theorem lcase_21 (hC : CallFix p m c cL_law 4 s #[Value.ref b] TB RL) (hKG : KK G s) (hAG : ∀ a, AG G a → s.heap.size ≤ a) (hSG : ∀ (H : Heap) (locs : List Loc), va_S (fun q => s.heap.size ≤ q) s.heap H locs → SG G s H) (hn : ∀ i ∈ LsF, i ∈ gL G) (hX : va_X b L xs s s.heap) (hbl : b < s.heap.size) (hbA : ¬ (fun q : Nat => s.heap.size ≤ q) b) {x3 : Int32} (hin : ∀ j : Int32, (0 ≤ j ∧ j ≤ 5) → vp_in (x3 + j) L) {M M2 : Mem} (hop : RunOp 21 (xs (x3 + 1).toNatClampNeg) (xs (x3 + 2).toNatClampNeg) (xs (x3 + 3).toNatClampNeg) (xs (x3 + 4).toNatClampNeg) (xs (x3 + 5).toNatClampNeg) M M2) {H : Heap} {locs : List Loc} {ls : Array Slot} (hP : PP G M H) (hS : va_S (fun q => s.heap.size ≤ q) s.heap H locs) (hl : lv_has ls 4 [(0, .ref b), (1, .ref (G.1 50)), (2, .ref (G.1 61)), (3, .int x3)]) (kk : ∀ (H1 : Heap) (locs1 : List Loc), PP G M2 H1 → va_S (fun q => s.heap.size ≤ q) s.heap H1 locs1 → W p l e room_1 s m #[Value.ref b] below meth c H1 locs1 600000 7302250 (lw_Z below #[Value.ref b] s) (F0 m 1220 ls [])) : W p l e room_1 s m #[Value.ref b] below meth c H locs 600000 7302250 (lw_Z below #[Value.ref b] s) (F0 m 853 ls []) := by
  obtain ⟨hx, hb, hml, hown, hts⟩ := id hC
  obtain ⟨r, M1, h1, h2⟩ := hop
  refine lv_aload_n hx hb dL_law_853 rfl (lv_at hl 1 rfl) ?_
  refine lv_aload_n hx hb dL_law_854 rfl (lv_at hl 0 rfl) ?_
  refine lv_iload_n hx hb dL_law_855 rfl (lv_at hl 3 rfl) ?_
  refine lv_iconst (v := 1) hx hb dL_law_856 (by decide) ?_
  refine lv_iadd hx hb dL_law_857 ?_
  refine va_sld hx hb hX hbl hbA hS (hin 1 (by decide)) dL_law_858 ?_
  refine cL_ (ci := 6) (i := 50) (C := RX6) (T := TX6) (N := 8) (As := [.int (xs (x3 + 1).toNatClampNeg)]) (v := some (.int r)) (rest := []) (st1 := [.int r]) hC hKG hAG (hSG _ _ hS) hP hS (hn _ (by decide)) rfl rfl (c_X6_hangs l G hn (xs (x3 + 1).toNatClampNeg) M r M1 h1) kV_X6_hangs lmL_102 ⟨Nat.le_of_ble_eq_true rfl, Nat.le_of_ble_eq_true rfl⟩ rfl hl.1 (Nat.le_of_ble_eq_true rfl) dL_law_859 ⟨Nat.le_of_ble_eq_true rfl, Nat.le_of_ble_eq_true rfl⟩ rfl (fun H locs hP hS => ?_)
  refine lv_aload_n hx hb dL_law_862 rfl (lv_at hl 2 rfl) ?_
  refine lv_aload_n hx hb dL_law_863 rfl (lv_at hl 0 rfl) ?_
  refine lv_iload_n hx hb dL_law_864 rfl (lv_at hl 3 rfl) ?_
  refine lv_iconst (v := 1) hx hb dL_law_865 (by decide) ?_
  refine lv_iadd hx hb dL_law_866 ?_
  refine va_sld hx hb hX hbl hbA hS (hin 1 (by decide)) dL_law_867 ?_
  refine cL_ (ci := 7) (i := 61) (C := RX7) (T := TX7) (N := 29) (As := [.int (xs (x3 + 1).toNatClampNeg)]) (v := some (.int r)) (rest := [.int r]) (st1 := [.int r, .int r]) hC hKG hAG (hSG _ _ hS) hP hS (hn _ (by decide)) rfl rfl (c_X7_hangs l G hn (xs (x3 + 1).toNatClampNeg) M1 r M2 h2) kV_X7_hangs lmL_105 ⟨Nat.le_of_ble_eq_true rfl, Nat.le_of_ble_eq_true rfl⟩ rfl hl.1 (Nat.le_of_ble_eq_true rfl) dL_law_868 ⟨Nat.le_of_ble_eq_true rfl, Nat.le_of_ble_eq_true rfl⟩ rfl (fun H locs hP hS => ?_)
  refine lv_icmp_eq (tgt := 1220) hx hb dL_law_871 (by decide) (fun _ => ?_) (fun hc => absurd rfl hc)
  exact kk H locs hP hS
set_option maxHeartbeats 4000000 in
set_option maxRecDepth 100000 in
theorem lcase_22 (hC : CallFix p m c cL_law 4 s #[Value.ref b] TB RL) (hKG : KK G s) (hAG : ∀ a, AG G a → s.heap.size ≤ a) (hSG : ∀ (H : Heap) (locs : List Loc), va_S (fun q => s.heap.size ≤ q) s.heap H locs → SG G s H) (hn : ∀ i ∈ LsF, i ∈ gL G) (hX : va_X b L xs s s.heap) (hbl : b < s.heap.size) (hbA : ¬ (fun q : Nat => s.heap.size ≤ q) b) {x3 : Int32} (hin : ∀ j : Int32, (0 ≤ j ∧ j ≤ 5) → vp_in (x3 + j) L) {M M2 : Mem} (hop : RunOp 22 (xs (x3 + 1).toNatClampNeg) (xs (x3 + 2).toNatClampNeg) (xs (x3 + 3).toNatClampNeg) (xs (x3 + 4).toNatClampNeg) (xs (x3 + 5).toNatClampNeg) M M2) {H : Heap} {locs : List Loc} {ls : Array Slot} (hP : PP G M H) (hS : va_S (fun q => s.heap.size ≤ q) s.heap H locs) (hl : lv_has ls 4 [(0, .ref b), (1, .ref (G.1 50)), (2, .ref (G.1 61)), (3, .int x3)]) (kk : ∀ (H1 : Heap) (locs1 : List Loc), PP G M2 H1 → va_S (fun q => s.heap.size ≤ q) s.heap H1 locs1 → W p l e room_1 s m #[Value.ref b] below meth c H1 locs1 600000 7302250 (lw_Z below #[Value.ref b] s) (F0 m 1220 ls [])) : W p l e room_1 s m #[Value.ref b] below meth c H locs 600000 7302250 (lw_Z below #[Value.ref b] s) (F0 m 876 ls []) := by
  obtain ⟨hx, hb, hml, hown, hts⟩ := id hC
  obtain ⟨r, M1, h1, h2⟩ := hop
  refine lv_aload_n hx hb dL_law_876 rfl (lv_at hl 1 rfl) ?_
  refine cL_ (ci := 6) (i := 50) (C := RX6) (T := TX6) (N := 8) (As := []) (v := some (.int r)) (rest := []) (st1 := [.int r]) hC hKG hAG (hSG _ _ hS) hP hS (hn _ (by decide)) rfl rfl (c_X6_most l G hn  M r M1 h1) kV_X6_most lmL_106 ⟨Nat.le_of_ble_eq_true rfl, Nat.le_of_ble_eq_true rfl⟩ rfl hl.1 (Nat.le_of_ble_eq_true rfl) dL_law_877 ⟨Nat.le_of_ble_eq_true rfl, Nat.le_of_ble_eq_true rfl⟩ rfl (fun H locs hP hS => ?_)
  refine lv_aload_n hx hb dL_law_880 rfl (lv_at hl 2 rfl) ?_
  refine cL_ (ci := 7) (i := 61) (C := RX7) (T := TX7) (N := 29) (As := []) (v := some (.int r)) (rest := [.int r]) (st1 := [.int r, .int r]) hC hKG hAG (hSG _ _ hS) hP hS (hn _ (by decide)) rfl rfl (c_X7_most l G hn  M1 r M2 h2) kV_X7_most lmL_109 ⟨Nat.le_of_ble_eq_true rfl, Nat.le_of_ble_eq_true rfl⟩ rfl hl.1 (Nat.le_of_ble_eq_true rfl) dL_law_881 ⟨Nat.le_of_ble_eq_true rfl, Nat.le_of_ble_eq_true rfl⟩ rfl (fun H locs hP hS => ?_)
  refine lv_icmp_eq (tgt := 1220) hx hb dL_law_884 (by decide) (fun _ => ?_) (fun hc => absurd rfl hc)
  exact kk H locs hP hS
set_option maxHeartbeats 4000000 in
set_option maxRecDepth 100000 in
theorem lcase_23 (hC : CallFix p m c cL_law 4 s #[Value.ref b] TB RL) (hKG : KK G s) (hAG : ∀ a, AG G a → s.heap.size ≤ a) (hSG : ∀ (H : Heap) (locs : List Loc), va_S (fun q => s.heap.size ≤ q) s.heap H locs → SG G s H) (hn : ∀ i ∈ LsF, i ∈ gL G) (hX : va_X b L xs s s.heap) (hbl : b < s.heap.size) (hbA : ¬ (fun q : Nat => s.heap.size ≤ q) b) {x3 : Int32} (hin : ∀ j : Int32, (0 ≤ j ∧ j ≤ 5) → vp_in (x3 + j) L) {M M2 : Mem} (hop : RunOp 23 (xs (x3 + 1).toNatClampNeg) (xs (x3 + 2).toNatClampNeg) (xs (x3 + 3).toNatClampNeg) (xs (x3 + 4).toNatClampNeg) (xs (x3 + 5).toNatClampNeg) M M2) {H : Heap} {locs : List Loc} {ls : Array Slot} (hP : PP G M H) (hS : va_S (fun q => s.heap.size ≤ q) s.heap H locs) (hl : lv_has ls 4 [(0, .ref b), (1, .ref (G.1 50)), (2, .ref (G.1 61)), (3, .int x3)]) (kk : ∀ (H1 : Heap) (locs1 : List Loc), PP G M2 H1 → va_S (fun q => s.heap.size ≤ q) s.heap H1 locs1 → W p l e room_1 s m #[Value.ref b] below meth c H1 locs1 600000 7302250 (lw_Z below #[Value.ref b] s) (F0 m 1220 ls [])) : W p l e room_1 s m #[Value.ref b] below meth c H locs 600000 7302250 (lw_Z below #[Value.ref b] s) (F0 m 889 ls []) := by
  obtain ⟨hx, hb, hml, hown, hts⟩ := id hC
  obtain ⟨r, M1, h1, h2⟩ := hop
  refine lv_aload_n hx hb dL_law_889 rfl (lv_at hl 1 rfl) ?_
  refine lv_aload_n hx hb dL_law_890 rfl (lv_at hl 0 rfl) ?_
  refine lv_iload_n hx hb dL_law_891 rfl (lv_at hl 3 rfl) ?_
  refine lv_iconst (v := 1) hx hb dL_law_892 (by decide) ?_
  refine lv_iadd hx hb dL_law_893 ?_
  refine va_sld hx hb hX hbl hbA hS (hin 1 (by decide)) dL_law_894 ?_
  refine lv_aload_n hx hb dL_law_895 rfl (lv_at hl 0 rfl) ?_
  refine lv_iload_n hx hb dL_law_896 rfl (lv_at hl 3 rfl) ?_
  refine lv_iconst (v := 2) hx hb dL_law_897 (by decide) ?_
  refine lv_iadd hx hb dL_law_898 ?_
  refine va_sld hx hb hX hbl hbA hS (hin 2 (by decide)) dL_law_899 ?_
  refine cL_ (ci := 6) (i := 50) (C := RX6) (T := TX6) (N := 8) (As := [.int (xs (x3 + 1).toNatClampNeg), .int (xs (x3 + 2).toNatClampNeg)]) (v := some (.int r)) (rest := []) (st1 := [.int r]) hC hKG hAG (hSG _ _ hS) hP hS (hn _ (by decide)) rfl rfl (c_X6_brings l G hn (xs (x3 + 1).toNatClampNeg) (xs (x3 + 2).toNatClampNeg) M r M1 h1) kV_X6_brings lmL_110 ⟨Nat.le_of_ble_eq_true rfl, Nat.le_of_ble_eq_true rfl⟩ rfl hl.1 (Nat.le_of_ble_eq_true rfl) dL_law_900 ⟨Nat.le_of_ble_eq_true rfl, Nat.le_of_ble_eq_true rfl⟩ rfl (fun H locs hP hS => ?_)
  refine lv_aload_n hx hb dL_law_903 rfl (lv_at hl 2 rfl) ?_
  refine lv_aload_n hx hb dL_law_904 rfl (lv_at hl 0 rfl) ?_
  refine lv_iload_n hx hb dL_law_905 rfl (lv_at hl 3 rfl) ?_
  refine lv_iconst (v := 1) hx hb dL_law_906 (by decide) ?_
  refine lv_iadd hx hb dL_law_907 ?_
  refine va_sld hx hb hX hbl hbA hS (hin 1 (by decide)) dL_law_908 ?_
  refine lv_aload_n hx hb dL_law_909 rfl (lv_at hl 0 rfl) ?_
  refine lv_iload_n hx hb dL_law_910 rfl (lv_at hl 3 rfl) ?_
  refine lv_iconst (v := 2) hx hb dL_law_911 (by decide) ?_
  refine lv_iadd hx hb dL_law_912 ?_
  refine va_sld hx hb hX hbl hbA hS (hin 2 (by decide)) dL_law_913 ?_
  refine cL_ (ci := 7) (i := 61) (C := RX7) (T := TX7) (N := 29) (As := [.int (xs (x3 + 1).toNatClampNeg), .int (xs (x3 + 2).toNatClampNeg)]) (v := some (.int r)) (rest := [.int r]) (st1 := [.int r, .int r]) hC hKG hAG (hSG _ _ hS) hP hS (hn _ (by decide)) rfl rfl (c_X7_brings l G hn (xs (x3 + 1).toNatClampNeg) (xs (x3 + 2).toNatClampNeg) M1 r M2 h2) kV_X7_brings lmL_113 ⟨Nat.le_of_ble_eq_true rfl, Nat.le_of_ble_eq_true rfl⟩ rfl hl.1 (Nat.le_of_ble_eq_true rfl) dL_law_914 ⟨Nat.le_of_ble_eq_true rfl, Nat.le_of_ble_eq_true rfl⟩ rfl (fun H locs hP hS => ?_)
  refine lv_icmp_eq (tgt := 1220) hx hb dL_law_917 (by decide) (fun _ => ?_) (fun hc => absurd rfl hc)
  exact kk H locs hP hS
set_option maxHeartbeats 4000000 in
set_option maxRecDepth 100000 in
theorem lcase_24 (hC : CallFix p m c cL_law 4 s #[Value.ref b] TB RL) (hKG : KK G s) (hAG : ∀ a, AG G a → s.heap.size ≤ a) (hSG : ∀ (H : Heap) (locs : List Loc), va_S (fun q => s.heap.size ≤ q) s.heap H locs → SG G s H) (hn : ∀ i ∈ LsF, i ∈ gL G) (hX : va_X b L xs s s.heap) (hbl : b < s.heap.size) (hbA : ¬ (fun q : Nat => s.heap.size ≤ q) b) {x3 : Int32} (hin : ∀ j : Int32, (0 ≤ j ∧ j ≤ 5) → vp_in (x3 + j) L) {M M2 : Mem} (hop : RunOp 24 (xs (x3 + 1).toNatClampNeg) (xs (x3 + 2).toNatClampNeg) (xs (x3 + 3).toNatClampNeg) (xs (x3 + 4).toNatClampNeg) (xs (x3 + 5).toNatClampNeg) M M2) {H : Heap} {locs : List Loc} {ls : Array Slot} (hP : PP G M H) (hS : va_S (fun q => s.heap.size ≤ q) s.heap H locs) (hl : lv_has ls 4 [(0, .ref b), (1, .ref (G.1 50)), (2, .ref (G.1 61)), (3, .int x3)]) (kk : ∀ (H1 : Heap) (locs1 : List Loc), PP G M2 H1 → va_S (fun q => s.heap.size ≤ q) s.heap H1 locs1 → W p l e room_1 s m #[Value.ref b] below meth c H1 locs1 600000 7302250 (lw_Z below #[Value.ref b] s) (F0 m 1220 ls [])) : W p l e room_1 s m #[Value.ref b] below meth c H locs 600000 7302250 (lw_Z below #[Value.ref b] s) (F0 m 922 ls []) := by
  obtain ⟨hx, hb, hml, hown, hts⟩ := id hC
  obtain ⟨r, M1, h1, h2⟩ := hop
  refine lv_aload_n hx hb dL_law_922 rfl (lv_at hl 1 rfl) ?_
  refine cL_ (ci := 6) (i := 50) (C := RX6) (T := TX6) (N := 8) (As := []) (v := some (.int r)) (rest := []) (st1 := [.int r]) hC hKG hAG (hSG _ _ hS) hP hS (hn _ (by decide)) rfl rfl (c_X6_part l G hn  M r M1 h1) kV_X6_part lmL_114 ⟨Nat.le_of_ble_eq_true rfl, Nat.le_of_ble_eq_true rfl⟩ rfl hl.1 (Nat.le_of_ble_eq_true rfl) dL_law_923 ⟨Nat.le_of_ble_eq_true rfl, Nat.le_of_ble_eq_true rfl⟩ rfl (fun H locs hP hS => ?_)
  refine lv_aload_n hx hb dL_law_926 rfl (lv_at hl 2 rfl) ?_
  refine cL_ (ci := 7) (i := 61) (C := RX7) (T := TX7) (N := 29) (As := []) (v := some (.int r)) (rest := [.int r]) (st1 := [.int r, .int r]) hC hKG hAG (hSG _ _ hS) hP hS (hn _ (by decide)) rfl rfl (c_X7_part l G hn  M1 r M2 h2) kV_X7_part lmL_117 ⟨Nat.le_of_ble_eq_true rfl, Nat.le_of_ble_eq_true rfl⟩ rfl hl.1 (Nat.le_of_ble_eq_true rfl) dL_law_927 ⟨Nat.le_of_ble_eq_true rfl, Nat.le_of_ble_eq_true rfl⟩ rfl (fun H locs hP hS => ?_)
  refine lv_icmp_eq (tgt := 1220) hx hb dL_law_930 (by decide) (fun _ => ?_) (fun hc => absurd rfl hc)
  exact kk H locs hP hS
set_option maxHeartbeats 4000000 in
set_option maxRecDepth 100000 in
theorem lcase_25 (hC : CallFix p m c cL_law 4 s #[Value.ref b] TB RL) (hKG : KK G s) (hAG : ∀ a, AG G a → s.heap.size ≤ a) (hSG : ∀ (H : Heap) (locs : List Loc), va_S (fun q => s.heap.size ≤ q) s.heap H locs → SG G s H) (hn : ∀ i ∈ LsF, i ∈ gL G) (hX : va_X b L xs s s.heap) (hbl : b < s.heap.size) (hbA : ¬ (fun q : Nat => s.heap.size ≤ q) b) {x3 : Int32} (hin : ∀ j : Int32, (0 ≤ j ∧ j ≤ 5) → vp_in (x3 + j) L) {M M2 : Mem} (hop : RunOp 25 (xs (x3 + 1).toNatClampNeg) (xs (x3 + 2).toNatClampNeg) (xs (x3 + 3).toNatClampNeg) (xs (x3 + 4).toNatClampNeg) (xs (x3 + 5).toNatClampNeg) M M2) {H : Heap} {locs : List Loc} {ls : Array Slot} (hP : PP G M H) (hS : va_S (fun q => s.heap.size ≤ q) s.heap H locs) (hl : lv_has ls 4 [(0, .ref b), (1, .ref (G.1 50)), (2, .ref (G.1 61)), (3, .int x3)]) (kk : ∀ (H1 : Heap) (locs1 : List Loc), PP G M2 H1 → va_S (fun q => s.heap.size ≤ q) s.heap H1 locs1 → W p l e room_1 s m #[Value.ref b] below meth c H1 locs1 600000 7302250 (lw_Z below #[Value.ref b] s) (F0 m 1220 ls [])) : W p l e room_1 s m #[Value.ref b] below meth c H locs 600000 7302250 (lw_Z below #[Value.ref b] s) (F0 m 935 ls []) := by
  obtain ⟨hx, hb, hml, hown, hts⟩ := id hC
  obtain ⟨r, M1, h1, h2⟩ := hop
  refine lv_aload_n hx hb dL_law_935 rfl (lv_at hl 1 rfl) ?_
  refine lv_aload_n hx hb dL_law_936 rfl (lv_at hl 0 rfl) ?_
  refine lv_iload_n hx hb dL_law_937 rfl (lv_at hl 3 rfl) ?_
  refine lv_iconst (v := 1) hx hb dL_law_938 (by decide) ?_
  refine lv_iadd hx hb dL_law_939 ?_
  refine va_sld hx hb hX hbl hbA hS (hin 1 (by decide)) dL_law_940 ?_
  refine lv_aload_n hx hb dL_law_941 rfl (lv_at hl 0 rfl) ?_
  refine lv_iload_n hx hb dL_law_942 rfl (lv_at hl 3 rfl) ?_
  refine lv_iconst (v := 2) hx hb dL_law_943 (by decide) ?_
  refine lv_iadd hx hb dL_law_944 ?_
  refine va_sld hx hb hX hbl hbA hS (hin 2 (by decide)) dL_law_945 ?_
  refine lv_aload_n hx hb dL_law_946 rfl (lv_at hl 0 rfl) ?_
  refine lv_iload_n hx hb dL_law_947 rfl (lv_at hl 3 rfl) ?_
  refine lv_iconst (v := 3) hx hb dL_law_948 (by decide) ?_
  refine lv_iadd hx hb dL_law_949 ?_
  refine va_sld hx hb hX hbl hbA hS (hin 3 (by decide)) dL_law_950 ?_
  refine cL_ (ci := 6) (i := 50) (C := RX6) (T := TX6) (N := 8) (As := [.int (xs (x3 + 1).toNatClampNeg), .int (xs (x3 + 2).toNatClampNeg), .int (xs (x3 + 3).toNatClampNeg)]) (v := some (.int r)) (rest := []) (st1 := [.int r]) hC hKG hAG (hSG _ _ hS) hP hS (hn _ (by decide)) rfl rfl (c_X6_sheet l G hn (xs (x3 + 1).toNatClampNeg) (xs (x3 + 2).toNatClampNeg) (xs (x3 + 3).toNatClampNeg) M r M1 h1) kV_X6_sheet lmL_118 ⟨Nat.le_of_ble_eq_true rfl, Nat.le_of_ble_eq_true rfl⟩ rfl hl.1 (Nat.le_of_ble_eq_true rfl) dL_law_951 ⟨Nat.le_of_ble_eq_true rfl, Nat.le_of_ble_eq_true rfl⟩ rfl (fun H locs hP hS => ?_)
  refine lv_aload_n hx hb dL_law_954 rfl (lv_at hl 2 rfl) ?_
  refine lv_aload_n hx hb dL_law_955 rfl (lv_at hl 0 rfl) ?_
  refine lv_iload_n hx hb dL_law_956 rfl (lv_at hl 3 rfl) ?_
  refine lv_iconst (v := 1) hx hb dL_law_957 (by decide) ?_
  refine lv_iadd hx hb dL_law_958 ?_
  refine va_sld hx hb hX hbl hbA hS (hin 1 (by decide)) dL_law_959 ?_
  refine lv_aload_n hx hb dL_law_960 rfl (lv_at hl 0 rfl) ?_
  refine lv_iload_n hx hb dL_law_961 rfl (lv_at hl 3 rfl) ?_
  refine lv_iconst (v := 2) hx hb dL_law_962 (by decide) ?_
  refine lv_iadd hx hb dL_law_963 ?_
  refine va_sld hx hb hX hbl hbA hS (hin 2 (by decide)) dL_law_964 ?_
  refine lv_aload_n hx hb dL_law_965 rfl (lv_at hl 0 rfl) ?_
  refine lv_iload_n hx hb dL_law_966 rfl (lv_at hl 3 rfl) ?_
  refine lv_iconst (v := 3) hx hb dL_law_967 (by decide) ?_
  refine lv_iadd hx hb dL_law_968 ?_
  refine va_sld hx hb hX hbl hbA hS (hin 3 (by decide)) dL_law_969 ?_
  refine cL_ (ci := 7) (i := 61) (C := RX7) (T := TX7) (N := 29) (As := [.int (xs (x3 + 1).toNatClampNeg), .int (xs (x3 + 2).toNatClampNeg), .int (xs (x3 + 3).toNatClampNeg)]) (v := some (.int r)) (rest := [.int r]) (st1 := [.int r, .int r]) hC hKG hAG (hSG _ _ hS) hP hS (hn _ (by decide)) rfl rfl (c_X7_sheet l G hn (xs (x3 + 1).toNatClampNeg) (xs (x3 + 2).toNatClampNeg) (xs (x3 + 3).toNatClampNeg) M1 r M2 h2) kV_X7_sheet lmL_121 ⟨Nat.le_of_ble_eq_true rfl, Nat.le_of_ble_eq_true rfl⟩ rfl hl.1 (Nat.le_of_ble_eq_true rfl) dL_law_970 ⟨Nat.le_of_ble_eq_true rfl, Nat.le_of_ble_eq_true rfl⟩ rfl (fun H locs hP hS => ?_)
  refine lv_icmp_eq (tgt := 1220) hx hb dL_law_973 (by decide) (fun _ => ?_) (fun hc => absurd rfl hc)
  exact kk H locs hP hS
set_option maxHeartbeats 4000000 in
set_option maxRecDepth 100000 in
theorem lcase_26 (hC : CallFix p m c cL_law 4 s #[Value.ref b] TB RL) (hKG : KK G s) (hAG : ∀ a, AG G a → s.heap.size ≤ a) (hSG : ∀ (H : Heap) (locs : List Loc), va_S (fun q => s.heap.size ≤ q) s.heap H locs → SG G s H) (hn : ∀ i ∈ LsF, i ∈ gL G) (hX : va_X b L xs s s.heap) (hbl : b < s.heap.size) (hbA : ¬ (fun q : Nat => s.heap.size ≤ q) b) {x3 : Int32} (hin : ∀ j : Int32, (0 ≤ j ∧ j ≤ 5) → vp_in (x3 + j) L) {M M2 : Mem} (hop : RunOp 26 (xs (x3 + 1).toNatClampNeg) (xs (x3 + 2).toNatClampNeg) (xs (x3 + 3).toNatClampNeg) (xs (x3 + 4).toNatClampNeg) (xs (x3 + 5).toNatClampNeg) M M2) {H : Heap} {locs : List Loc} {ls : Array Slot} (hP : PP G M H) (hS : va_S (fun q => s.heap.size ≤ q) s.heap H locs) (hl : lv_has ls 4 [(0, .ref b), (1, .ref (G.1 50)), (2, .ref (G.1 61)), (3, .int x3)]) (kk : ∀ (H1 : Heap) (locs1 : List Loc), PP G M2 H1 → va_S (fun q => s.heap.size ≤ q) s.heap H1 locs1 → W p l e room_1 s m #[Value.ref b] below meth c H1 locs1 600000 7302250 (lw_Z below #[Value.ref b] s) (F0 m 1220 ls [])) : W p l e room_1 s m #[Value.ref b] below meth c H locs 600000 7302250 (lw_Z below #[Value.ref b] s) (F0 m 978 ls []) := by
  obtain ⟨hx, hb, hml, hown, hts⟩ := id hC
  obtain ⟨r, M1, h1, h2⟩ := hop
  refine lv_aload_n hx hb dL_law_978 rfl (lv_at hl 1 rfl) ?_
  refine lv_aload_n hx hb dL_law_979 rfl (lv_at hl 0 rfl) ?_
  refine lv_iload_n hx hb dL_law_980 rfl (lv_at hl 3 rfl) ?_
  refine lv_iconst (v := 1) hx hb dL_law_981 (by decide) ?_
  refine lv_iadd hx hb dL_law_982 ?_
  refine va_sld hx hb hX hbl hbA hS (hin 1 (by decide)) dL_law_983 ?_
  refine cL_ (ci := 6) (i := 50) (C := RX6) (T := TX6) (N := 8) (As := [.int (xs (x3 + 1).toNatClampNeg)]) (v := some (.int r)) (rest := []) (st1 := [.int r]) hC hKG hAG (hSG _ _ hS) hP hS (hn _ (by decide)) rfl rfl (c_X6_lose l G hn (xs (x3 + 1).toNatClampNeg) M r M1 h1) kV_X6_lose lmL_122 ⟨Nat.le_of_ble_eq_true rfl, Nat.le_of_ble_eq_true rfl⟩ rfl hl.1 (Nat.le_of_ble_eq_true rfl) dL_law_984 ⟨Nat.le_of_ble_eq_true rfl, Nat.le_of_ble_eq_true rfl⟩ rfl (fun H locs hP hS => ?_)
  refine lv_aload_n hx hb dL_law_987 rfl (lv_at hl 2 rfl) ?_
  refine lv_aload_n hx hb dL_law_988 rfl (lv_at hl 0 rfl) ?_
  refine lv_iload_n hx hb dL_law_989 rfl (lv_at hl 3 rfl) ?_
  refine lv_iconst (v := 1) hx hb dL_law_990 (by decide) ?_
  refine lv_iadd hx hb dL_law_991 ?_
  refine va_sld hx hb hX hbl hbA hS (hin 1 (by decide)) dL_law_992 ?_
  refine cL_ (ci := 7) (i := 61) (C := RX7) (T := TX7) (N := 29) (As := [.int (xs (x3 + 1).toNatClampNeg)]) (v := some (.int r)) (rest := [.int r]) (st1 := [.int r, .int r]) hC hKG hAG (hSG _ _ hS) hP hS (hn _ (by decide)) rfl rfl (c_X7_lose l G hn (xs (x3 + 1).toNatClampNeg) M1 r M2 h2) kV_X7_lose lmL_125 ⟨Nat.le_of_ble_eq_true rfl, Nat.le_of_ble_eq_true rfl⟩ rfl hl.1 (Nat.le_of_ble_eq_true rfl) dL_law_993 ⟨Nat.le_of_ble_eq_true rfl, Nat.le_of_ble_eq_true rfl⟩ rfl (fun H locs hP hS => ?_)
  refine lv_icmp_eq (tgt := 1220) hx hb dL_law_996 (by decide) (fun _ => ?_) (fun hc => absurd rfl hc)
  exact kk H locs hP hS
set_option maxHeartbeats 4000000 in
set_option maxRecDepth 100000 in
theorem lcase_27 (hC : CallFix p m c cL_law 4 s #[Value.ref b] TB RL) (hKG : KK G s) (hAG : ∀ a, AG G a → s.heap.size ≤ a) (hSG : ∀ (H : Heap) (locs : List Loc), va_S (fun q => s.heap.size ≤ q) s.heap H locs → SG G s H) (hn : ∀ i ∈ LsF, i ∈ gL G) (hX : va_X b L xs s s.heap) (hbl : b < s.heap.size) (hbA : ¬ (fun q : Nat => s.heap.size ≤ q) b) {x3 : Int32} (hin : ∀ j : Int32, (0 ≤ j ∧ j ≤ 5) → vp_in (x3 + j) L) {M M2 : Mem} (hop : RunOp 27 (xs (x3 + 1).toNatClampNeg) (xs (x3 + 2).toNatClampNeg) (xs (x3 + 3).toNatClampNeg) (xs (x3 + 4).toNatClampNeg) (xs (x3 + 5).toNatClampNeg) M M2) {H : Heap} {locs : List Loc} {ls : Array Slot} (hP : PP G M H) (hS : va_S (fun q => s.heap.size ≤ q) s.heap H locs) (hl : lv_has ls 4 [(0, .ref b), (1, .ref (G.1 50)), (2, .ref (G.1 61)), (3, .int x3)]) (kk : ∀ (H1 : Heap) (locs1 : List Loc), PP G M2 H1 → va_S (fun q => s.heap.size ≤ q) s.heap H1 locs1 → W p l e room_1 s m #[Value.ref b] below meth c H1 locs1 600000 7302250 (lw_Z below #[Value.ref b] s) (F0 m 1220 ls [])) : W p l e room_1 s m #[Value.ref b] below meth c H locs 600000 7302250 (lw_Z below #[Value.ref b] s) (F0 m 1001 ls []) := by
  obtain ⟨hx, hb, hml, hown, hts⟩ := id hC
  obtain ⟨r, M1, h1, h2⟩ := hop
  refine lv_aload_n hx hb dL_law_1001 rfl (lv_at hl 1 rfl) ?_
  refine lv_aload_n hx hb dL_law_1002 rfl (lv_at hl 0 rfl) ?_
  refine lv_iload_n hx hb dL_law_1003 rfl (lv_at hl 3 rfl) ?_
  refine lv_iconst (v := 1) hx hb dL_law_1004 (by decide) ?_
  refine lv_iadd hx hb dL_law_1005 ?_
  refine va_sld hx hb hX hbl hbA hS (hin 1 (by decide)) dL_law_1006 ?_
  refine lv_aload_n hx hb dL_law_1007 rfl (lv_at hl 0 rfl) ?_
  refine lv_iload_n hx hb dL_law_1008 rfl (lv_at hl 3 rfl) ?_
  refine lv_iconst (v := 2) hx hb dL_law_1009 (by decide) ?_
  refine lv_iadd hx hb dL_law_1010 ?_
  refine va_sld hx hb hX hbl hbA hS (hin 2 (by decide)) dL_law_1011 ?_
  refine lv_aload_n hx hb dL_law_1012 rfl (lv_at hl 0 rfl) ?_
  refine lv_iload_n hx hb dL_law_1013 rfl (lv_at hl 3 rfl) ?_
  refine lv_iconst (v := 3) hx hb dL_law_1014 (by decide) ?_
  refine lv_iadd hx hb dL_law_1015 ?_
  refine va_sld hx hb hX hbl hbA hS (hin 3 (by decide)) dL_law_1016 ?_
  refine lv_aload_n hx hb dL_law_1017 rfl (lv_at hl 0 rfl) ?_
  refine lv_iload_n hx hb dL_law_1018 rfl (lv_at hl 3 rfl) ?_
  refine lv_iconst (v := 4) hx hb dL_law_1019 (by decide) ?_
  refine lv_iadd hx hb dL_law_1020 ?_
  refine va_sld hx hb hX hbl hbA hS (hin 4 (by decide)) dL_law_1021 ?_
  refine cL_ (ci := 6) (i := 50) (C := RX6) (T := TX6) (N := 8) (As := [.int (xs (x3 + 1).toNatClampNeg), .int (xs (x3 + 2).toNatClampNeg), .int (xs (x3 + 3).toNatClampNeg), .int (xs (x3 + 4).toNatClampNeg)]) (v := some (.int r)) (rest := []) (st1 := [.int r]) hC hKG hAG (hSG _ _ hS) hP hS (hn _ (by decide)) rfl rfl (c_X6_put l G hn (xs (x3 + 1).toNatClampNeg) (xs (x3 + 2).toNatClampNeg) (xs (x3 + 3).toNatClampNeg) (xs (x3 + 4).toNatClampNeg) M r M1 h1) kV_X6_put lmL_126 ⟨Nat.le_of_ble_eq_true rfl, Nat.le_of_ble_eq_true rfl⟩ rfl hl.1 (Nat.le_of_ble_eq_true rfl) dL_law_1022 ⟨Nat.le_of_ble_eq_true rfl, Nat.le_of_ble_eq_true rfl⟩ rfl (fun H locs hP hS => ?_)
  refine lv_aload_n hx hb dL_law_1025 rfl (lv_at hl 2 rfl) ?_
  refine lv_aload_n hx hb dL_law_1026 rfl (lv_at hl 0 rfl) ?_
  refine lv_iload_n hx hb dL_law_1027 rfl (lv_at hl 3 rfl) ?_
  refine lv_iconst (v := 1) hx hb dL_law_1028 (by decide) ?_
  refine lv_iadd hx hb dL_law_1029 ?_
  refine va_sld hx hb hX hbl hbA hS (hin 1 (by decide)) dL_law_1030 ?_
  refine lv_aload_n hx hb dL_law_1031 rfl (lv_at hl 0 rfl) ?_
  refine lv_iload_n hx hb dL_law_1032 rfl (lv_at hl 3 rfl) ?_
  refine lv_iconst (v := 2) hx hb dL_law_1033 (by decide) ?_
  refine lv_iadd hx hb dL_law_1034 ?_
  refine va_sld hx hb hX hbl hbA hS (hin 2 (by decide)) dL_law_1035 ?_
  refine lv_aload_n hx hb dL_law_1036 rfl (lv_at hl 0 rfl) ?_
  refine lv_iload_n hx hb dL_law_1037 rfl (lv_at hl 3 rfl) ?_
  refine lv_iconst (v := 3) hx hb dL_law_1038 (by decide) ?_
  refine lv_iadd hx hb dL_law_1039 ?_
  refine va_sld hx hb hX hbl hbA hS (hin 3 (by decide)) dL_law_1040 ?_
  refine lv_aload_n hx hb dL_law_1041 rfl (lv_at hl 0 rfl) ?_
  refine lv_iload_n hx hb dL_law_1042 rfl (lv_at hl 3 rfl) ?_
  refine lv_iconst (v := 4) hx hb dL_law_1043 (by decide) ?_
  refine lv_iadd hx hb dL_law_1044 ?_
  refine va_sld hx hb hX hbl hbA hS (hin 4 (by decide)) dL_law_1045 ?_
  refine cL_ (ci := 7) (i := 61) (C := RX7) (T := TX7) (N := 29) (As := [.int (xs (x3 + 1).toNatClampNeg), .int (xs (x3 + 2).toNatClampNeg), .int (xs (x3 + 3).toNatClampNeg), .int (xs (x3 + 4).toNatClampNeg)]) (v := some (.int r)) (rest := [.int r]) (st1 := [.int r, .int r]) hC hKG hAG (hSG _ _ hS) hP hS (hn _ (by decide)) rfl rfl (c_X7_put l G hn (xs (x3 + 1).toNatClampNeg) (xs (x3 + 2).toNatClampNeg) (xs (x3 + 3).toNatClampNeg) (xs (x3 + 4).toNatClampNeg) M1 r M2 h2) kV_X7_put lmL_130 ⟨Nat.le_of_ble_eq_true rfl, Nat.le_of_ble_eq_true rfl⟩ rfl hl.1 (Nat.le_of_ble_eq_true rfl) dL_law_1046 ⟨Nat.le_of_ble_eq_true rfl, Nat.le_of_ble_eq_true rfl⟩ rfl (fun H locs hP hS => ?_)
  refine lv_icmp_eq (tgt := 1220) hx hb dL_law_1049 (by decide) (fun _ => ?_) (fun hc => absurd rfl hc)
  exact kk H locs hP hS
set_option maxHeartbeats 4000000 in
set_option maxRecDepth 100000 in
theorem lcase_28 (hC : CallFix p m c cL_law 4 s #[Value.ref b] TB RL) (hKG : KK G s) (hAG : ∀ a, AG G a → s.heap.size ≤ a) (hSG : ∀ (H : Heap) (locs : List Loc), va_S (fun q => s.heap.size ≤ q) s.heap H locs → SG G s H) (hn : ∀ i ∈ LsF, i ∈ gL G) (hX : va_X b L xs s s.heap) (hbl : b < s.heap.size) (hbA : ¬ (fun q : Nat => s.heap.size ≤ q) b) {x3 : Int32} (hin : ∀ j : Int32, (0 ≤ j ∧ j ≤ 5) → vp_in (x3 + j) L) {M M2 : Mem} (hop : RunOp 28 (xs (x3 + 1).toNatClampNeg) (xs (x3 + 2).toNatClampNeg) (xs (x3 + 3).toNatClampNeg) (xs (x3 + 4).toNatClampNeg) (xs (x3 + 5).toNatClampNeg) M M2) {H : Heap} {locs : List Loc} {ls : Array Slot} (hP : PP G M H) (hS : va_S (fun q => s.heap.size ≤ q) s.heap H locs) (hl : lv_has ls 4 [(0, .ref b), (1, .ref (G.1 50)), (2, .ref (G.1 61)), (3, .int x3)]) (kk : ∀ (H1 : Heap) (locs1 : List Loc), PP G M2 H1 → va_S (fun q => s.heap.size ≤ q) s.heap H1 locs1 → W p l e room_1 s m #[Value.ref b] below meth c H1 locs1 600000 7302250 (lw_Z below #[Value.ref b] s) (F0 m 1220 ls [])) : W p l e room_1 s m #[Value.ref b] below meth c H locs 600000 7302250 (lw_Z below #[Value.ref b] s) (F0 m 1054 ls []) := by
  obtain ⟨hx, hb, hml, hown, hts⟩ := id hC
  obtain ⟨r, M1, h1, h2⟩ := hop
  refine lv_aload_n hx hb dL_law_1054 rfl (lv_at hl 1 rfl) ?_
  refine lv_aload_n hx hb dL_law_1055 rfl (lv_at hl 0 rfl) ?_
  refine lv_iload_n hx hb dL_law_1056 rfl (lv_at hl 3 rfl) ?_
  refine lv_iconst (v := 1) hx hb dL_law_1057 (by decide) ?_
  refine lv_iadd hx hb dL_law_1058 ?_
  refine va_sld hx hb hX hbl hbA hS (hin 1 (by decide)) dL_law_1059 ?_
  refine lv_aload_n hx hb dL_law_1060 rfl (lv_at hl 0 rfl) ?_
  refine lv_iload_n hx hb dL_law_1061 rfl (lv_at hl 3 rfl) ?_
  refine lv_iconst (v := 2) hx hb dL_law_1062 (by decide) ?_
  refine lv_iadd hx hb dL_law_1063 ?_
  refine va_sld hx hb hX hbl hbA hS (hin 2 (by decide)) dL_law_1064 ?_
  refine lv_aload_n hx hb dL_law_1065 rfl (lv_at hl 0 rfl) ?_
  refine lv_iload_n hx hb dL_law_1066 rfl (lv_at hl 3 rfl) ?_
  refine lv_iconst (v := 3) hx hb dL_law_1067 (by decide) ?_
  refine lv_iadd hx hb dL_law_1068 ?_
  refine va_sld hx hb hX hbl hbA hS (hin 3 (by decide)) dL_law_1069 ?_
  refine cL_ (ci := 6) (i := 50) (C := RX6) (T := TX6) (N := 8) (As := [.int (xs (x3 + 1).toNatClampNeg), .int (xs (x3 + 2).toNatClampNeg), .int (xs (x3 + 3).toNatClampNeg)]) (v := some (.int r)) (rest := []) (st1 := [.int r]) hC hKG hAG (hSG _ _ hS) hP hS (hn _ (by decide)) rfl rfl (c_X6_get l G hn (xs (x3 + 1).toNatClampNeg) (xs (x3 + 2).toNatClampNeg) (xs (x3 + 3).toNatClampNeg) M r M1 h1) kV_X6_get lmL_131 ⟨Nat.le_of_ble_eq_true rfl, Nat.le_of_ble_eq_true rfl⟩ rfl hl.1 (Nat.le_of_ble_eq_true rfl) dL_law_1070 ⟨Nat.le_of_ble_eq_true rfl, Nat.le_of_ble_eq_true rfl⟩ rfl (fun H locs hP hS => ?_)
  refine lv_aload_n hx hb dL_law_1073 rfl (lv_at hl 2 rfl) ?_
  refine lv_aload_n hx hb dL_law_1074 rfl (lv_at hl 0 rfl) ?_
  refine lv_iload_n hx hb dL_law_1075 rfl (lv_at hl 3 rfl) ?_
  refine lv_iconst (v := 1) hx hb dL_law_1076 (by decide) ?_
  refine lv_iadd hx hb dL_law_1077 ?_
  refine va_sld hx hb hX hbl hbA hS (hin 1 (by decide)) dL_law_1078 ?_
  refine lv_aload_n hx hb dL_law_1079 rfl (lv_at hl 0 rfl) ?_
  refine lv_iload_n hx hb dL_law_1080 rfl (lv_at hl 3 rfl) ?_
  refine lv_iconst (v := 2) hx hb dL_law_1081 (by decide) ?_
  refine lv_iadd hx hb dL_law_1082 ?_
  refine va_sld hx hb hX hbl hbA hS (hin 2 (by decide)) dL_law_1083 ?_
  refine lv_aload_n hx hb dL_law_1084 rfl (lv_at hl 0 rfl) ?_
  refine lv_iload_n hx hb dL_law_1085 rfl (lv_at hl 3 rfl) ?_
  refine lv_iconst (v := 3) hx hb dL_law_1086 (by decide) ?_
  refine lv_iadd hx hb dL_law_1087 ?_
  refine va_sld hx hb hX hbl hbA hS (hin 3 (by decide)) dL_law_1088 ?_
  refine cL_ (ci := 7) (i := 61) (C := RX7) (T := TX7) (N := 29) (As := [.int (xs (x3 + 1).toNatClampNeg), .int (xs (x3 + 2).toNatClampNeg), .int (xs (x3 + 3).toNatClampNeg)]) (v := some (.int r)) (rest := [.int r]) (st1 := [.int r, .int r]) hC hKG hAG (hSG _ _ hS) hP hS (hn _ (by decide)) rfl rfl (c_X7_get l G hn (xs (x3 + 1).toNatClampNeg) (xs (x3 + 2).toNatClampNeg) (xs (x3 + 3).toNatClampNeg) M1 r M2 h2) kV_X7_get lmL_134 ⟨Nat.le_of_ble_eq_true rfl, Nat.le_of_ble_eq_true rfl⟩ rfl hl.1 (Nat.le_of_ble_eq_true rfl) dL_law_1089 ⟨Nat.le_of_ble_eq_true rfl, Nat.le_of_ble_eq_true rfl⟩ rfl (fun H locs hP hS => ?_)
  refine lv_icmp_eq (tgt := 1220) hx hb dL_law_1092 (by decide) (fun _ => ?_) (fun hc => absurd rfl hc)
  exact kk H locs hP hS
set_option maxHeartbeats 4000000 in
set_option maxRecDepth 100000 in
theorem lcase_29 (hC : CallFix p m c cL_law 4 s #[Value.ref b] TB RL) (hKG : KK G s) (hAG : ∀ a, AG G a → s.heap.size ≤ a) (hSG : ∀ (H : Heap) (locs : List Loc), va_S (fun q => s.heap.size ≤ q) s.heap H locs → SG G s H) (hn : ∀ i ∈ LsF, i ∈ gL G) (hX : va_X b L xs s s.heap) (hbl : b < s.heap.size) (hbA : ¬ (fun q : Nat => s.heap.size ≤ q) b) {x3 : Int32} (hin : ∀ j : Int32, (0 ≤ j ∧ j ≤ 5) → vp_in (x3 + j) L) {M M2 : Mem} (hop : RunOp 29 (xs (x3 + 1).toNatClampNeg) (xs (x3 + 2).toNatClampNeg) (xs (x3 + 3).toNatClampNeg) (xs (x3 + 4).toNatClampNeg) (xs (x3 + 5).toNatClampNeg) M M2) {H : Heap} {locs : List Loc} {ls : Array Slot} (hP : PP G M H) (hS : va_S (fun q => s.heap.size ≤ q) s.heap H locs) (hl : lv_has ls 4 [(0, .ref b), (1, .ref (G.1 50)), (2, .ref (G.1 61)), (3, .int x3)]) (kk : ∀ (H1 : Heap) (locs1 : List Loc), PP G M2 H1 → va_S (fun q => s.heap.size ≤ q) s.heap H1 locs1 → W p l e room_1 s m #[Value.ref b] below meth c H1 locs1 600000 7302250 (lw_Z below #[Value.ref b] s) (F0 m 1220 ls [])) : W p l e room_1 s m #[Value.ref b] below meth c H locs 600000 7302250 (lw_Z below #[Value.ref b] s) (F0 m 1097 ls []) := by
  obtain ⟨hx, hb, hml, hown, hts⟩ := id hC
  obtain ⟨r, M1, h1, h2⟩ := hop
  refine lv_aload_n hx hb dL_law_1097 rfl (lv_at hl 1 rfl) ?_
  refine lv_aload_n hx hb dL_law_1098 rfl (lv_at hl 0 rfl) ?_
  refine lv_iload_n hx hb dL_law_1099 rfl (lv_at hl 3 rfl) ?_
  refine lv_iconst (v := 1) hx hb dL_law_1100 (by decide) ?_
  refine lv_iadd hx hb dL_law_1101 ?_
  refine va_sld hx hb hX hbl hbA hS (hin 1 (by decide)) dL_law_1102 ?_
  refine lv_aload_n hx hb dL_law_1103 rfl (lv_at hl 0 rfl) ?_
  refine lv_iload_n hx hb dL_law_1104 rfl (lv_at hl 3 rfl) ?_
  refine lv_iconst (v := 2) hx hb dL_law_1105 (by decide) ?_
  refine lv_iadd hx hb dL_law_1106 ?_
  refine va_sld hx hb hX hbl hbA hS (hin 2 (by decide)) dL_law_1107 ?_
  refine lv_aload_n hx hb dL_law_1108 rfl (lv_at hl 0 rfl) ?_
  refine lv_iload_n hx hb dL_law_1109 rfl (lv_at hl 3 rfl) ?_
  refine lv_iconst (v := 3) hx hb dL_law_1110 (by decide) ?_
  refine lv_iadd hx hb dL_law_1111 ?_
  refine va_sld hx hb hX hbl hbA hS (hin 3 (by decide)) dL_law_1112 ?_
  refine lv_aload_n hx hb dL_law_1113 rfl (lv_at hl 0 rfl) ?_
  refine lv_iload_n hx hb dL_law_1114 rfl (lv_at hl 3 rfl) ?_
  refine lv_iconst (v := 4) hx hb dL_law_1115 (by decide) ?_
  refine lv_iadd hx hb dL_law_1116 ?_
  refine va_sld hx hb hX hbl hbA hS (hin 4 (by decide)) dL_law_1117 ?_
  refine lv_aload_n hx hb dL_law_1118 rfl (lv_at hl 0 rfl) ?_
  refine lv_iload_n hx hb dL_law_1119 rfl (lv_at hl 3 rfl) ?_
  refine lv_iconst (v := 5) hx hb dL_law_1120 (by decide) ?_
  refine lv_iadd hx hb dL_law_1121 ?_
  refine va_sld hx hb hX hbl hbA hS (hin 5 (by decide)) dL_law_1122 ?_
  refine cL_ (ci := 6) (i := 50) (C := RX6) (T := TX6) (N := 8) (As := [.int (xs (x3 + 1).toNatClampNeg), .int (xs (x3 + 2).toNatClampNeg), .int (xs (x3 + 3).toNatClampNeg), .int (xs (x3 + 4).toNatClampNeg), .int (xs (x3 + 5).toNatClampNeg)]) (v := some (.int r)) (rest := []) (st1 := [.int r]) hC hKG hAG (hSG _ _ hS) hP hS (hn _ (by decide)) rfl rfl (c_X6_copy l G hn (xs (x3 + 1).toNatClampNeg) (xs (x3 + 2).toNatClampNeg) (xs (x3 + 3).toNatClampNeg) (xs (x3 + 4).toNatClampNeg) (xs (x3 + 5).toNatClampNeg) M r M1 h1) kV_X6_copy lmL_135 ⟨Nat.le_of_ble_eq_true rfl, Nat.le_of_ble_eq_true rfl⟩ rfl hl.1 (Nat.le_of_ble_eq_true rfl) dL_law_1123 ⟨Nat.le_of_ble_eq_true rfl, Nat.le_of_ble_eq_true rfl⟩ rfl (fun H locs hP hS => ?_)
  refine lv_aload_n hx hb dL_law_1126 rfl (lv_at hl 2 rfl) ?_
  refine lv_aload_n hx hb dL_law_1127 rfl (lv_at hl 0 rfl) ?_
  refine lv_iload_n hx hb dL_law_1128 rfl (lv_at hl 3 rfl) ?_
  refine lv_iconst (v := 1) hx hb dL_law_1129 (by decide) ?_
  refine lv_iadd hx hb dL_law_1130 ?_
  refine va_sld hx hb hX hbl hbA hS (hin 1 (by decide)) dL_law_1131 ?_
  refine lv_aload_n hx hb dL_law_1132 rfl (lv_at hl 0 rfl) ?_
  refine lv_iload_n hx hb dL_law_1133 rfl (lv_at hl 3 rfl) ?_
  refine lv_iconst (v := 2) hx hb dL_law_1134 (by decide) ?_
  refine lv_iadd hx hb dL_law_1135 ?_
  refine va_sld hx hb hX hbl hbA hS (hin 2 (by decide)) dL_law_1136 ?_
  refine lv_aload_n hx hb dL_law_1137 rfl (lv_at hl 0 rfl) ?_
  refine lv_iload_n hx hb dL_law_1138 rfl (lv_at hl 3 rfl) ?_
  refine lv_iconst (v := 3) hx hb dL_law_1139 (by decide) ?_
  refine lv_iadd hx hb dL_law_1140 ?_
  refine va_sld hx hb hX hbl hbA hS (hin 3 (by decide)) dL_law_1141 ?_
  refine lv_aload_n hx hb dL_law_1142 rfl (lv_at hl 0 rfl) ?_
  refine lv_iload_n hx hb dL_law_1143 rfl (lv_at hl 3 rfl) ?_
  refine lv_iconst (v := 4) hx hb dL_law_1144 (by decide) ?_
  refine lv_iadd hx hb dL_law_1145 ?_
  refine va_sld hx hb hX hbl hbA hS (hin 4 (by decide)) dL_law_1146 ?_
  refine lv_aload_n hx hb dL_law_1147 rfl (lv_at hl 0 rfl) ?_
  refine lv_iload_n hx hb dL_law_1148 rfl (lv_at hl 3 rfl) ?_
  refine lv_iconst (v := 5) hx hb dL_law_1149 (by decide) ?_
  refine lv_iadd hx hb dL_law_1150 ?_
  refine va_sld hx hb hX hbl hbA hS (hin 5 (by decide)) dL_law_1151 ?_
  refine cL_ (ci := 7) (i := 61) (C := RX7) (T := TX7) (N := 29) (As := [.int (xs (x3 + 1).toNatClampNeg), .int (xs (x3 + 2).toNatClampNeg), .int (xs (x3 + 3).toNatClampNeg), .int (xs (x3 + 4).toNatClampNeg), .int (xs (x3 + 5).toNatClampNeg)]) (v := some (.int r)) (rest := [.int r]) (st1 := [.int r, .int r]) hC hKG hAG (hSG _ _ hS) hP hS (hn _ (by decide)) rfl rfl (c_X7_copy l G hn (xs (x3 + 1).toNatClampNeg) (xs (x3 + 2).toNatClampNeg) (xs (x3 + 3).toNatClampNeg) (xs (x3 + 4).toNatClampNeg) (xs (x3 + 5).toNatClampNeg) M1 r M2 h2) kV_X7_copy lmL_138 ⟨Nat.le_of_ble_eq_true rfl, Nat.le_of_ble_eq_true rfl⟩ rfl hl.1 (Nat.le_of_ble_eq_true rfl) dL_law_1152 ⟨Nat.le_of_ble_eq_true rfl, Nat.le_of_ble_eq_true rfl⟩ rfl (fun H locs hP hS => ?_)
  refine lv_icmp_eq (tgt := 1220) hx hb dL_law_1155 (by decide) (fun _ => ?_) (fun hc => absurd rfl hc)
  exact kk H locs hP hS
set_option maxHeartbeats 4000000 in
set_option maxRecDepth 100000 in
theorem lcase_30 (hC : CallFix p m c cL_law 4 s #[Value.ref b] TB RL) (hKG : KK G s) (hAG : ∀ a, AG G a → s.heap.size ≤ a) (hSG : ∀ (H : Heap) (locs : List Loc), va_S (fun q => s.heap.size ≤ q) s.heap H locs → SG G s H) (hn : ∀ i ∈ LsF, i ∈ gL G) (hX : va_X b L xs s s.heap) (hbl : b < s.heap.size) (hbA : ¬ (fun q : Nat => s.heap.size ≤ q) b) {x3 : Int32} (hin : ∀ j : Int32, (0 ≤ j ∧ j ≤ 5) → vp_in (x3 + j) L) {M M2 : Mem} (hop : RunOp 30 (xs (x3 + 1).toNatClampNeg) (xs (x3 + 2).toNatClampNeg) (xs (x3 + 3).toNatClampNeg) (xs (x3 + 4).toNatClampNeg) (xs (x3 + 5).toNatClampNeg) M M2) {H : Heap} {locs : List Loc} {ls : Array Slot} (hP : PP G M H) (hS : va_S (fun q => s.heap.size ≤ q) s.heap H locs) (hl : lv_has ls 4 [(0, .ref b), (1, .ref (G.1 50)), (2, .ref (G.1 61)), (3, .int x3)]) (kk : ∀ (H1 : Heap) (locs1 : List Loc), PP G M2 H1 → va_S (fun q => s.heap.size ≤ q) s.heap H1 locs1 → W p l e room_1 s m #[Value.ref b] below meth c H1 locs1 600000 7302250 (lw_Z below #[Value.ref b] s) (F0 m 1220 ls [])) : W p l e room_1 s m #[Value.ref b] below meth c H locs 600000 7302250 (lw_Z below #[Value.ref b] s) (F0 m 1160 ls []) := by
  obtain ⟨hx, hb, hml, hown, hts⟩ := id hC
  obtain ⟨r, M1, h1, h2⟩ := hop
  refine lv_aload_n hx hb dL_law_1160 rfl (lv_at hl 1 rfl) ?_
  refine lv_aload_n hx hb dL_law_1161 rfl (lv_at hl 0 rfl) ?_
  refine lv_iload_n hx hb dL_law_1162 rfl (lv_at hl 3 rfl) ?_
  refine lv_iconst (v := 1) hx hb dL_law_1163 (by decide) ?_
  refine lv_iadd hx hb dL_law_1164 ?_
  refine va_sld hx hb hX hbl hbA hS (hin 1 (by decide)) dL_law_1165 ?_
  refine cL_ (ci := 6) (i := 50) (C := RX6) (T := TX6) (N := 8) (As := [.int (xs (x3 + 1).toNatClampNeg)]) (v := some (.int r)) (rest := []) (st1 := [.int r]) hC hKG hAG (hSG _ _ hS) hP hS (hn _ (by decide)) rfl rfl (c_X6_write l G hn (xs (x3 + 1).toNatClampNeg) M r M1 h1) kV_X6_write lmL_139 ⟨Nat.le_of_ble_eq_true rfl, Nat.le_of_ble_eq_true rfl⟩ rfl hl.1 (Nat.le_of_ble_eq_true rfl) dL_law_1166 ⟨Nat.le_of_ble_eq_true rfl, Nat.le_of_ble_eq_true rfl⟩ rfl (fun H locs hP hS => ?_)
  refine lv_aload_n hx hb dL_law_1169 rfl (lv_at hl 2 rfl) ?_
  refine lv_aload_n hx hb dL_law_1170 rfl (lv_at hl 0 rfl) ?_
  refine lv_iload_n hx hb dL_law_1171 rfl (lv_at hl 3 rfl) ?_
  refine lv_iconst (v := 1) hx hb dL_law_1172 (by decide) ?_
  refine lv_iadd hx hb dL_law_1173 ?_
  refine va_sld hx hb hX hbl hbA hS (hin 1 (by decide)) dL_law_1174 ?_
  refine cL_ (ci := 7) (i := 61) (C := RX7) (T := TX7) (N := 29) (As := [.int (xs (x3 + 1).toNatClampNeg)]) (v := some (.int r)) (rest := [.int r]) (st1 := [.int r, .int r]) hC hKG hAG (hSG _ _ hS) hP hS (hn _ (by decide)) rfl rfl (c_X7_write l G hn (xs (x3 + 1).toNatClampNeg) M1 r M2 h2) kV_X7_write lmL_142 ⟨Nat.le_of_ble_eq_true rfl, Nat.le_of_ble_eq_true rfl⟩ rfl hl.1 (Nat.le_of_ble_eq_true rfl) dL_law_1175 ⟨Nat.le_of_ble_eq_true rfl, Nat.le_of_ble_eq_true rfl⟩ rfl (fun H locs hP hS => ?_)
  refine lv_icmp_eq (tgt := 1220) hx hb dL_law_1178 (by decide) (fun _ => ?_) (fun hc => absurd rfl hc)
  exact kk H locs hP hS
set_option maxHeartbeats 4000000 in
set_option maxRecDepth 100000 in
theorem lcase_31 (hC : CallFix p m c cL_law 4 s #[Value.ref b] TB RL) (hKG : KK G s) (hAG : ∀ a, AG G a → s.heap.size ≤ a) (hSG : ∀ (H : Heap) (locs : List Loc), va_S (fun q => s.heap.size ≤ q) s.heap H locs → SG G s H) (hn : ∀ i ∈ LsF, i ∈ gL G) (hX : va_X b L xs s s.heap) (hbl : b < s.heap.size) (hbA : ¬ (fun q : Nat => s.heap.size ≤ q) b) {x3 : Int32} (hin : ∀ j : Int32, (0 ≤ j ∧ j ≤ 5) → vp_in (x3 + j) L) {M M2 : Mem} (hop : RunOp 31 (xs (x3 + 1).toNatClampNeg) (xs (x3 + 2).toNatClampNeg) (xs (x3 + 3).toNatClampNeg) (xs (x3 + 4).toNatClampNeg) (xs (x3 + 5).toNatClampNeg) M M2) {H : Heap} {locs : List Loc} {ls : Array Slot} (hP : PP G M H) (hS : va_S (fun q => s.heap.size ≤ q) s.heap H locs) (hl : lv_has ls 4 [(0, .ref b), (1, .ref (G.1 50)), (2, .ref (G.1 61)), (3, .int x3)]) (kk : ∀ (H1 : Heap) (locs1 : List Loc), PP G M2 H1 → va_S (fun q => s.heap.size ≤ q) s.heap H1 locs1 → W p l e room_1 s m #[Value.ref b] below meth c H1 locs1 600000 7302250 (lw_Z below #[Value.ref b] s) (F0 m 1220 ls [])) : W p l e room_1 s m #[Value.ref b] below meth c H locs 600000 7302250 (lw_Z below #[Value.ref b] s) (F0 m 1183 ls []) := by
  obtain ⟨hx, hb, hml, hown, hts⟩ := id hC
  obtain ⟨r, M1, h1, h2⟩ := hop
  refine lv_aload_n hx hb dL_law_1183 rfl (lv_at hl 1 rfl) ?_
  refine lv_aload_n hx hb dL_law_1184 rfl (lv_at hl 0 rfl) ?_
  refine lv_iload_n hx hb dL_law_1185 rfl (lv_at hl 3 rfl) ?_
  refine lv_iconst (v := 1) hx hb dL_law_1186 (by decide) ?_
  refine lv_iadd hx hb dL_law_1187 ?_
  refine va_sld hx hb hX hbl hbA hS (hin 1 (by decide)) dL_law_1188 ?_
  refine cL_ (ci := 6) (i := 50) (C := RX6) (T := TX6) (N := 8) (As := [.int (xs (x3 + 1).toNatClampNeg)]) (v := some (.int r)) (rest := []) (st1 := [.int r]) hC hKG hAG (hSG _ _ hS) hP hS (hn _ (by decide)) rfl rfl (c_X6_count l G hn (xs (x3 + 1).toNatClampNeg) M r M1 h1) kV_X6_count lmL_143 ⟨Nat.le_of_ble_eq_true rfl, Nat.le_of_ble_eq_true rfl⟩ rfl hl.1 (Nat.le_of_ble_eq_true rfl) dL_law_1189 ⟨Nat.le_of_ble_eq_true rfl, Nat.le_of_ble_eq_true rfl⟩ rfl (fun H locs hP hS => ?_)
  refine lv_aload_n hx hb dL_law_1192 rfl (lv_at hl 2 rfl) ?_
  refine lv_aload_n hx hb dL_law_1193 rfl (lv_at hl 0 rfl) ?_
  refine lv_iload_n hx hb dL_law_1194 rfl (lv_at hl 3 rfl) ?_
  refine lv_iconst (v := 1) hx hb dL_law_1195 (by decide) ?_
  refine lv_iadd hx hb dL_law_1196 ?_
  refine va_sld hx hb hX hbl hbA hS (hin 1 (by decide)) dL_law_1197 ?_
  refine cL_ (ci := 7) (i := 61) (C := RX7) (T := TX7) (N := 29) (As := [.int (xs (x3 + 1).toNatClampNeg)]) (v := some (.int r)) (rest := [.int r]) (st1 := [.int r, .int r]) hC hKG hAG (hSG _ _ hS) hP hS (hn _ (by decide)) rfl rfl (c_X7_count l G hn (xs (x3 + 1).toNatClampNeg) M1 r M2 h2) kV_X7_count lmL_146 ⟨Nat.le_of_ble_eq_true rfl, Nat.le_of_ble_eq_true rfl⟩ rfl hl.1 (Nat.le_of_ble_eq_true rfl) dL_law_1198 ⟨Nat.le_of_ble_eq_true rfl, Nat.le_of_ble_eq_true rfl⟩ rfl (fun H locs hP hS => ?_)
  refine lv_icmp_eq (tgt := 1220) hx hb dL_law_1201 (by decide) (fun _ => ?_) (fun hc => absurd rfl hc)
  exact kk H locs hP hS
set_option maxHeartbeats 4000000 in
set_option maxRecDepth 100000 in
theorem lcase_32 (hC : CallFix p m c cL_law 4 s #[Value.ref b] TB RL) (hKG : KK G s) (hAG : ∀ a, AG G a → s.heap.size ≤ a) (hSG : ∀ (H : Heap) (locs : List Loc), va_S (fun q => s.heap.size ≤ q) s.heap H locs → SG G s H) (hn : ∀ i ∈ LsF, i ∈ gL G) (hX : va_X b L xs s s.heap) (hbl : b < s.heap.size) (hbA : ¬ (fun q : Nat => s.heap.size ≤ q) b) {x3 : Int32} (hin : ∀ j : Int32, (0 ≤ j ∧ j ≤ 5) → vp_in (x3 + j) L) {M M2 : Mem} (hop : RunOp 32 (xs (x3 + 1).toNatClampNeg) (xs (x3 + 2).toNatClampNeg) (xs (x3 + 3).toNatClampNeg) (xs (x3 + 4).toNatClampNeg) (xs (x3 + 5).toNatClampNeg) M M2) {H : Heap} {locs : List Loc} {ls : Array Slot} (hP : PP G M H) (hS : va_S (fun q => s.heap.size ≤ q) s.heap H locs) (hl : lv_has ls 4 [(0, .ref b), (1, .ref (G.1 50)), (2, .ref (G.1 61)), (3, .int x3)]) (kk : ∀ (H1 : Heap) (locs1 : List Loc), PP G M2 H1 → va_S (fun q => s.heap.size ≤ q) s.heap H1 locs1 → W p l e room_1 s m #[Value.ref b] below meth c H1 locs1 600000 7302250 (lw_Z below #[Value.ref b] s) (F0 m 1220 ls [])) : W p l e room_1 s m #[Value.ref b] below meth c H locs 600000 7302250 (lw_Z below #[Value.ref b] s) (F0 m 1206 ls []) := by
  obtain ⟨hx, hb, hml, hown, hts⟩ := id hC
  obtain ⟨r, M1, h1, h2⟩ := hop
  refine lv_aload_n hx hb dL_law_1206 rfl (lv_at hl 1 rfl) ?_
  refine cL_ (ci := 6) (i := 50) (C := RX6) (T := TX6) (N := 8) (As := []) (v := some (.long r)) (rest := []) (st1 := [.long r]) hC hKG hAG (hSG _ _ hS) hP hS (hn _ (by decide)) rfl rfl (c_X6_digest l G hn  M r M1 h1) kV_X6_digest lmL_147 ⟨Nat.le_of_ble_eq_true rfl, Nat.le_of_ble_eq_true rfl⟩ rfl hl.1 (Nat.le_of_ble_eq_true rfl) dL_law_1207 ⟨Nat.le_of_ble_eq_true rfl, Nat.le_of_ble_eq_true rfl⟩ rfl (fun H locs hP hS => ?_)
  refine lv_aload_n hx hb dL_law_1210 rfl (lv_at hl 2 rfl) ?_
  refine cL_ (ci := 7) (i := 61) (C := RX7) (T := TX7) (N := 29) (As := []) (v := some (.long r)) (rest := [.long r]) (st1 := [.long r, .long r]) hC hKG hAG (hSG _ _ hS) hP hS (hn _ (by decide)) rfl rfl (c_X7_digest l G hn  M1 r M2 h2) kV_X7_digest lmL_151 ⟨Nat.le_of_ble_eq_true rfl, Nat.le_of_ble_eq_true rfl⟩ rfl hl.1 (Nat.le_of_ble_eq_true rfl) dL_law_1211 ⟨Nat.le_of_ble_eq_true rfl, Nat.le_of_ble_eq_true rfl⟩ rfl (fun H locs hP hS => ?_)
  refine W.lcmp hx hb dL_law_1214 ?_
  refine lv_if_eq (tgt := 1220) hx hb dL_law_1215 (by decide) (fun _ => ?_) (fun hc => absurd (lgc r) hc)
  exact kk H locs hP hS
end
