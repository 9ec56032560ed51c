set_option maxHeartbeats 4000000 in
set_option maxRecDepth 100000 in
theorem la_100 {p : Program} {l : Launch} {e : Env} {s : State} {m : MethodId} {below : List Frame} {meth : Method} {c : Code} {b L : Nat} {xs : Nat → Int32} (C0 : lw_At p s m meth c b L xs) {g : GC} (hK : g_K g s) (hAg : ∀ q, g_A g q → s.heap.size ≤ q) {k : Nat} (hk : k + 5 ≤ L) (hL : L ≤ 2560) {Inv : St → Prop} {σ : St} (hI : Inv σ) {H : Heap} {locs : List Loc} (hG : LWd g s σ H locs) {ls : Array Slot} (hl : lv_has ls 4 [(0, .ref b), (1, .ref (g.2.1 0)), (2, .ref (g.2.1 50)), (3, .int (nI k))]) (op : ∀ (σ : St) (x1 x2 x3 : Int32), Inv σ → ∃ (r : Int32) (σ1 σ2 : St), eL_sheet x1 x2 x3 σ r σ1 ∧ eM_sheet x1 x2 x3 σ1 r σ2 ∧ Inv σ2) (kk : ∀ (σ2 : St) (H : Heap) (locs : List Loc), Inv σ2 → LWd g s σ2 H locs → W p l e room_1 s m #[Value.ref b] below meth c H locs 82 50159 (lw_Z below #[Value.ref b] s) (F0 m 1161 ls [])) : W p l e room_1 s m #[Value.ref b] below meth c H locs 82 50159 (lw_Z below #[Value.ref b] s) (F0 m 188 ls []) := by
  obtain ⟨hx, hb, hr, hml, hown, hts0, hX, hbl, hlocks, hgv⟩ := C0
  have hts : ∀ w ∈ wG, w.before #[Value.ref b] s = true := fun w h => hts0 w (List.mem_filter.mp h).1
  have hbA : ¬ (fun q : Nat => s.heap.size ≤ q) b := Nat.not_le.mpr hbl
  have hi1 : vp_in (nI k + (1 : Int32)) L := la_in (j := 1) rfl (by omega) hL
  have hi2 : vp_in (nI k + (2 : Int32)) L := la_in (j := 2) rfl (by omega) hL
  have hi3 : vp_in (nI k + (3 : Int32)) L := la_in (j := 3) rfl (by omega) hL
  have hi4 : vp_in (nI k + (4 : Int32)) L := la_in (j := 4) rfl (by omega) hL
  refine lv_aload_n hx hb dL_law_188 rfl (lv_at hl 1 rfl) ?_
  refine lv_aload_n hx hb dL_law_189 rfl (lv_at hl 0 rfl) ?_
  refine lv_iload_n hx hb dL_law_190 rfl (lv_at hl 3 rfl) ?_
  refine lv_iconst (v := (1 : Int32)) hx hb dL_law_191 (by decide) ?_
  refine lv_iadd hx hb dL_law_192 ?_
  refine va_sld hx hb hX hbl hbA hG.2 hi1 dL_law_193 ?_
  refine lv_aload_n hx hb dL_law_194 rfl (lv_at hl 0 rfl) ?_
  refine lv_iload_n hx hb dL_law_195 rfl (lv_at hl 3 rfl) ?_
  refine lv_iconst (v := (2 : Int32)) hx hb dL_law_196 (by decide) ?_
  refine lv_iadd hx hb dL_law_197 ?_
  refine va_sld hx hb hX hbl hbA hG.2 hi2 dL_law_198 ?_
  refine lv_aload_n hx hb dL_law_199 rfl (lv_at hl 0 rfl) ?_
  refine lv_iload_n hx hb dL_law_200 rfl (lv_at hl 3 rfl) ?_
  refine lv_iconst (v := (3 : Int32)) hx hb dL_law_201 (by decide) ?_
  refine lv_iadd hx hb dL_law_202 ?_
  refine va_sld hx hb hX hbl hbA hG.2 hi3 dL_law_203 ?_
  obtain ⟨r, σ1, σ2, e1, e2, hI2⟩ := op σ (xs ((nI k + (1 : Int32)).toNatClampNeg)) (xs ((nI k + (2 : Int32)).toNatClampNeg)) (xs ((nI k + (3 : Int32)).toNatClampNeg)) hI
  refine lx_cV (r := (some (.int r))) (rest := []) (As := [.int (xs ((nI k + (1 : Int32)).toNatClampNeg)), .int (xs ((nI k + (2 : Int32)).toNatClampNeg)), .int (xs ((nI k + (3 : Int32)).toNatClampNeg))]) ⟨hx, hb, hml, hown, hts⟩ (eL_sheet_cn e1 l g) (cwV 3 hts (gz_V mw_2_77 mw_2_78 mw_2_79 mw_1_1 mw_2_80) rfl rfl rfl hdV_X8_sheet ⟨Nat.le_of_ble_eq_true rfl, Nat.le_of_ble_eq_true rfl⟩) hK hAg hG (ga_0 g _) rfl rfl rfl hl.1 rfl (Nat.le_of_ble_eq_true rfl) dL_law_204 ⟨Nat.le_of_ble_eq_true rfl, Nat.le_of_ble_eq_true rfl⟩ (fun H locs hG => ?_)
  refine W.eq (g2 := F0 m 207 ls [.int r]) rfl ?_
  refine lv_aload_n hx hb dL_law_207 rfl (lv_at hl 2 rfl) ?_
  refine lv_aload_n hx hb dL_law_208 rfl (lv_at hl 0 rfl) ?_
  refine lv_iload_n hx hb dL_law_209 rfl (lv_at hl 3 rfl) ?_
  refine lv_iconst (v := (1 : Int32)) hx hb dL_law_210 (by decide) ?_
  refine lv_iadd hx hb dL_law_211 ?_
  refine va_sld hx hb hX hbl hbA hG.2 hi1 dL_law_212 ?_
  refine lv_aload_n hx hb dL_law_213 rfl (lv_at hl 0 rfl) ?_
  refine lv_iload_n hx hb dL_law_214 rfl (lv_at hl 3 rfl) ?_
  refine lv_iconst (v := (2 : Int32)) hx hb dL_law_215 (by decide) ?_
  refine lv_iadd hx hb dL_law_216 ?_
  refine va_sld hx hb hX hbl hbA hG.2 hi2 dL_law_217 ?_
  refine lv_aload_n hx hb dL_law_218 rfl (lv_at hl 0 rfl) ?_
  refine lv_iload_n hx hb dL_law_219 rfl (lv_at hl 3 rfl) ?_
  refine lv_iconst (v := (3 : Int32)) hx hb dL_law_220 (by decide) ?_
  refine lv_iadd hx hb dL_law_221 ?_
  refine va_sld hx hb hX hbl hbA hG.2 hi3 dL_law_222 ?_
  refine lx_cV (r := (some (.int r))) (rest := [.int r]) (As := [.int (xs ((nI k + (1 : Int32)).toNatClampNeg)), .int (xs ((nI k + (2 : Int32)).toNatClampNeg)), .int (xs ((nI k + (3 : Int32)).toNatClampNeg))]) ⟨hx, hb, hml, hown, hts⟩ (eM_sheet_cn e2 l g) (cwV 3 hts (gz_V mw_5_33 mw_5_34 mw_5_35 mw_1_11 mw_5_36) rfl rfl rfl hdV_X9_sheet ⟨Nat.le_of_ble_eq_true rfl, Nat.le_of_ble_eq_true rfl⟩) hK hAg hG (ga_50 g _) rfl rfl rfl hl.1 rfl (Nat.le_of_ble_eq_true rfl) dL_law_223 ⟨Nat.le_of_ble_eq_true rfl, Nat.le_of_ble_eq_true rfl⟩ (fun H locs hG => ?_)
  refine W.eq (g2 := F0 m 226 ls [.int r, .int r]) rfl ?_
  refine lv_icmp_eq (tgt := 1161) hx hb dL_law_226 (by decide) (fun _ => ?_) (fun c9 => absurd rfl c9)
  exact kk σ2 _ _ hI2 hG

set_option maxHeartbeats 4000000 in
set_option maxRecDepth 100000 in
theorem la_101 {p : Program} {l : Launch} {e : Env} {s : State} {m : MethodId} {below : List Frame} {meth : Method} {c : Code} {b L : Nat} {xs : Nat → Int32} (C0 : lw_At p s m meth c b L xs) {g : GC} (hK : g_K g s) (hAg : ∀ q, g_A g q → s.heap.size ≤ q) {k : Nat} (hk : k + 5 ≤ L) (hL : L ≤ 2560) {Inv : St → Prop} {σ : St} (hI : Inv σ) {H : Heap} {locs : List Loc} (hG : LWd g s σ H locs) {ls : Array Slot} (hl : lv_has ls 4 [(0, .ref b), (1, .ref (g.2.1 0)), (2, .ref (g.2.1 50)), (3, .int (nI k))]) (op : ∀ (σ : St) (x1 x2 x3 : Int32), Inv σ → ∃ (r : Int32) (σ1 σ2 : St), eL_cell x1 x2 x3 σ r σ1 ∧ eM_cell x1 x2 x3 σ1 r σ2 ∧ Inv σ2) (kk : ∀ (σ2 : St) (H : Heap) (locs : List Loc), Inv σ2 → LWd g s σ2 H locs → W p l e room_1 s m #[Value.ref b] below meth c H locs 82 50159 (lw_Z below #[Value.ref b] s) (F0 m 1161 ls [])) : W p l e room_1 s m #[Value.ref b] below meth c H locs 82 50159 (lw_Z below #[Value.ref b] s) (F0 m 231 ls []) := by
  obtain ⟨hx, hb, hr, hml, hown, hts0, hX, hbl, hlocks, hgv⟩ := C0
  have hts : ∀ w ∈ wG, w.before #[Value.ref b] s = true := fun w h => hts0 w (List.mem_filter.mp h).1
  have hbA : ¬ (fun q : Nat => s.heap.size ≤ q) b := Nat.not_le.mpr hbl
  have hi1 : vp_in (nI k + (1 : Int32)) L := la_in (j := 1) rfl (by omega) hL
  have hi2 : vp_in (nI k + (2 : Int32)) L := la_in (j := 2) rfl (by omega) hL
  have hi3 : vp_in (nI k + (3 : Int32)) L := la_in (j := 3) rfl (by omega) hL
  have hi4 : vp_in (nI k + (4 : Int32)) L := la_in (j := 4) rfl (by omega) hL
  refine lv_aload_n hx hb dL_law_231 rfl (lv_at hl 1 rfl) ?_
  refine lv_aload_n hx hb dL_law_232 rfl (lv_at hl 0 rfl) ?_
  refine lv_iload_n hx hb dL_law_233 rfl (lv_at hl 3 rfl) ?_
  refine lv_iconst (v := (1 : Int32)) hx hb dL_law_234 (by decide) ?_
  refine lv_iadd hx hb dL_law_235 ?_
  refine va_sld hx hb hX hbl hbA hG.2 hi1 dL_law_236 ?_
  refine lv_aload_n hx hb dL_law_237 rfl (lv_at hl 0 rfl) ?_
  refine lv_iload_n hx hb dL_law_238 rfl (lv_at hl 3 rfl) ?_
  refine lv_iconst (v := (2 : Int32)) hx hb dL_law_239 (by decide) ?_
  refine lv_iadd hx hb dL_law_240 ?_
  refine va_sld hx hb hX hbl hbA hG.2 hi2 dL_law_241 ?_
  refine lv_aload_n hx hb dL_law_242 rfl (lv_at hl 0 rfl) ?_
  refine lv_iload_n hx hb dL_law_243 rfl (lv_at hl 3 rfl) ?_
  refine lv_iconst (v := (3 : Int32)) hx hb dL_law_244 (by decide) ?_
  refine lv_iadd hx hb dL_law_245 ?_
  refine va_sld hx hb hX hbl hbA hG.2 hi3 dL_law_246 ?_
  obtain ⟨r, σ1, σ2, e1, e2, hI2⟩ := op σ (xs ((nI k + (1 : Int32)).toNatClampNeg)) (xs ((nI k + (2 : Int32)).toNatClampNeg)) (xs ((nI k + (3 : Int32)).toNatClampNeg)) hI
  refine lx_cV (r := (some (.int r))) (rest := []) (As := [.int (xs ((nI k + (1 : Int32)).toNatClampNeg)), .int (xs ((nI k + (2 : Int32)).toNatClampNeg)), .int (xs ((nI k + (3 : Int32)).toNatClampNeg))]) ⟨hx, hb, hml, hown, hts⟩ (eL_cell_cn e1 l g) (cwV 3 hts (gz_V mw_2_89 mw_2_90 mw_2_91 mw_1_1 mw_2_92) rfl rfl rfl hdV_X8_cell ⟨Nat.le_of_ble_eq_true rfl, Nat.le_of_ble_eq_true rfl⟩) hK hAg hG (ga_0 g _) rfl rfl rfl hl.1 rfl (Nat.le_of_ble_eq_true rfl) dL_law_247 ⟨Nat.le_of_ble_eq_true rfl, Nat.le_of_ble_eq_true rfl⟩ (fun H locs hG => ?_)
  refine W.eq (g2 := F0 m 250 ls [.int r]) rfl ?_
  refine lv_aload_n hx hb dL_law_250 rfl (lv_at hl 2 rfl) ?_
  refine lv_aload_n hx hb dL_law_251 rfl (lv_at hl 0 rfl) ?_
  refine lv_iload_n hx hb dL_law_252 rfl (lv_at hl 3 rfl) ?_
  refine lv_iconst (v := (1 : Int32)) hx hb dL_law_253 (by decide) ?_
  refine lv_iadd hx hb dL_law_254 ?_
  refine va_sld hx hb hX hbl hbA hG.2 hi1 dL_law_255 ?_
  refine lv_aload_n hx hb dL_law_256 rfl (lv_at hl 0 rfl) ?_
  refine lv_iload_n hx hb dL_law_257 rfl (lv_at hl 3 rfl) ?_
  refine lv_iconst (v := (2 : Int32)) hx hb dL_law_258 (by decide) ?_
  refine lv_iadd hx hb dL_law_259 ?_
  refine va_sld hx hb hX hbl hbA hG.2 hi2 dL_law_260 ?_
  refine lv_aload_n hx hb dL_law_261 rfl (lv_at hl 0 rfl) ?_
  refine lv_iload_n hx hb dL_law_262 rfl (lv_at hl 3 rfl) ?_
  refine lv_iconst (v := (3 : Int32)) hx hb dL_law_263 (by decide) ?_
  refine lv_iadd hx hb dL_law_264 ?_
  refine va_sld hx hb hX hbl hbA hG.2 hi3 dL_law_265 ?_
  refine lx_cV (r := (some (.int r))) (rest := [.int r]) (As := [.int (xs ((nI k + (1 : Int32)).toNatClampNeg)), .int (xs ((nI k + (2 : Int32)).toNatClampNeg)), .int (xs ((nI k + (3 : Int32)).toNatClampNeg))]) ⟨hx, hb, hml, hown, hts⟩ (eM_cell_cn e2 l g) (cwV 3 hts (gz_V mw_5_45 mw_5_46 mw_5_47 mw_1_11 mw_5_48) rfl rfl rfl hdV_X9_cell ⟨Nat.le_of_ble_eq_true rfl, Nat.le_of_ble_eq_true rfl⟩) hK hAg hG (ga_50 g _) rfl rfl rfl hl.1 rfl (Nat.le_of_ble_eq_true rfl) dL_law_266 ⟨Nat.le_of_ble_eq_true rfl, Nat.le_of_ble_eq_true rfl⟩ (fun H locs hG => ?_)
  refine W.eq (g2 := F0 m 269 ls [.int r, .int r]) rfl ?_
  refine lv_icmp_eq (tgt := 1161) hx hb dL_law_269 (by decide) (fun _ => ?_) (fun c9 => absurd rfl c9)
  exact kk σ2 _ _ hI2 hG

set_option maxHeartbeats 4000000 in
set_option maxRecDepth 100000 in
theorem la_102 {p : Program} {l : Launch} {e : Env} {s : State} {m : MethodId} {below : List Frame} {meth : Method} {c : Code} {b L : Nat} {xs : Nat → Int32} (C0 : lw_At p s m meth c b L xs) {g : GC} (hK : g_K g s) (hAg : ∀ q, g_A g q → s.heap.size ≤ q) {k : Nat} (hk : k + 5 ≤ L) (hL : L ≤ 2560) {Inv : St → Prop} {σ : St} (hI : Inv σ) {H : Heap} {locs : List Loc} (hG : LWd g s σ H locs) {ls : Array Slot} (hl : lv_has ls 4 [(0, .ref b), (1, .ref (g.2.1 0)), (2, .ref (g.2.1 50)), (3, .int (nI k))]) (op : ∀ (σ : St) (x1 : Int32), Inv σ → ∃ (r : Int32) (σ1 σ2 : St), eL_lose x1 σ r σ1 ∧ eM_lose x1 σ1 r σ2 ∧ Inv σ2) (kk : ∀ (σ2 : St) (H : Heap) (locs : List Loc), Inv σ2 → LWd g s σ2 H locs → W p l e room_1 s m #[Value.ref b] below meth c H locs 82 50159 (lw_Z below #[Value.ref b] s) (F0 m 1161 ls [])) : W p l e room_1 s m #[Value.ref b] below meth c H locs 82 50159 (lw_Z below #[Value.ref b] s) (F0 m 274 ls []) := by
  obtain ⟨hx, hb, hr, hml, hown, hts0, hX, hbl, hlocks, hgv⟩ := C0
  have hts : ∀ w ∈ wG, w.before #[Value.ref b] s = true := fun w h => hts0 w (List.mem_filter.mp h).1
  have hbA : ¬ (fun q : Nat => s.heap.size ≤ q) b := Nat.not_le.mpr hbl
  have hi1 : vp_in (nI k + (1 : Int32)) L := la_in (j := 1) rfl (by omega) hL
  have hi2 : vp_in (nI k + (2 : Int32)) L := la_in (j := 2) rfl (by omega) hL
  have hi3 : vp_in (nI k + (3 : Int32)) L := la_in (j := 3) rfl (by omega) hL
  have hi4 : vp_in (nI k + (4 : Int32)) L := la_in (j := 4) rfl (by omega) hL
  refine lv_aload_n hx hb dL_law_274 rfl (lv_at hl 1 rfl) ?_
  refine lv_aload_n hx hb dL_law_275 rfl (lv_at hl 0 rfl) ?_
  refine lv_iload_n hx hb dL_law_276 rfl (lv_at hl 3 rfl) ?_
  refine lv_iconst (v := (1 : Int32)) hx hb dL_law_277 (by decide) ?_
  refine lv_iadd hx hb dL_law_278 ?_
  refine va_sld hx hb hX hbl hbA hG.2 hi1 dL_law_279 ?_
  obtain ⟨r, σ1, σ2, e1, e2, hI2⟩ := op σ (xs ((nI k + (1 : Int32)).toNatClampNeg)) hI
  refine lx_cV (r := (some (.int r))) (rest := []) (As := [.int (xs ((nI k + (1 : Int32)).toNatClampNeg))]) ⟨hx, hb, hml, hown, hts⟩ (eL_lose_cn e1 l g) (cwV 1 hts (gz_V mw_2_101 mw_2_102 mw_2_103 mw_1_1 mw_2_104) rfl rfl rfl hdV_X8_lose ⟨Nat.le_of_ble_eq_true rfl, Nat.le_of_ble_eq_true rfl⟩) hK hAg hG (ga_0 g _) rfl rfl rfl hl.1 rfl (Nat.le_of_ble_eq_true rfl) dL_law_280 ⟨Nat.le_of_ble_eq_true rfl, Nat.le_of_ble_eq_true rfl⟩ (fun H locs hG => ?_)
  refine W.eq (g2 := F0 m 283 ls [.int r]) rfl ?_
  refine lv_aload_n hx hb dL_law_283 rfl (lv_at hl 2 rfl) ?_
  refine lv_aload_n hx hb dL_law_284 rfl (lv_at hl 0 rfl) ?_
  refine lv_iload_n hx hb dL_law_285 rfl (lv_at hl 3 rfl) ?_
  refine lv_iconst (v := (1 : Int32)) hx hb dL_law_286 (by decide) ?_
  refine lv_iadd hx hb dL_law_287 ?_
  refine va_sld hx hb hX hbl hbA hG.2 hi1 dL_law_288 ?_
  refine lx_cV (r := (some (.int r))) (rest := [.int r]) (As := [.int (xs ((nI k + (1 : Int32)).toNatClampNeg))]) ⟨hx, hb, hml, hown, hts⟩ (eM_lose_cn e2 l g) (cwV 1 hts (gz_V mw_5_49 mw_5_50 mw_5_51 mw_1_11 mw_5_52) rfl rfl rfl hdV_X9_lose ⟨Nat.le_of_ble_eq_true rfl, Nat.le_of_ble_eq_true rfl⟩) hK hAg hG (ga_50 g _) rfl rfl rfl hl.1 rfl (Nat.le_of_ble_eq_true rfl) dL_law_289 ⟨Nat.le_of_ble_eq_true rfl, Nat.le_of_ble_eq_true rfl⟩ (fun H locs hG => ?_)
  refine W.eq (g2 := F0 m 292 ls [.int r, .int r]) rfl ?_
  refine lv_icmp_eq (tgt := 1161) hx hb dL_law_292 (by decide) (fun _ => ?_) (fun c9 => absurd rfl c9)
  exact kk σ2 _ _ hI2 hG

set_option maxHeartbeats 4000000 in
set_option maxRecDepth 100000 in
theorem la_103 {p : Program} {l : Launch} {e : Env} {s : State} {m : MethodId} {below : List Frame} {meth : Method} {c : Code} {b L : Nat} {xs : Nat → Int32} (C0 : lw_At p s m meth c b L xs) {g : GC} (hK : g_K g s) (hAg : ∀ q, g_A g q → s.heap.size ≤ q) {k : Nat} (hk : k + 5 ≤ L) (hL : L ≤ 2560) {Inv : St → Prop} {σ : St} (hI : Inv σ) {H : Heap} {locs : List Loc} (hG : LWd g s σ H locs) {ls : Array Slot} (hl : lv_has ls 4 [(0, .ref b), (1, .ref (g.2.1 0)), (2, .ref (g.2.1 50)), (3, .int (nI k))]) (op : ∀ (σ : St) (x1 : Int32), Inv σ → ∃ (r : Int32) (σ1 σ2 : St), eL_net x1 σ r σ1 ∧ eM_net x1 σ1 r σ2 ∧ Inv σ2) (kk : ∀ (σ2 : St) (H : Heap) (locs : List Loc), Inv σ2 → LWd g s σ2 H locs → W p l e room_1 s m #[Value.ref b] below meth c H locs 82 50159 (lw_Z below #[Value.ref b] s) (F0 m 1161 ls [])) : W p l e room_1 s m #[Value.ref b] below meth c H locs 82 50159 (lw_Z below #[Value.ref b] s) (F0 m 297 ls []) := by
  obtain ⟨hx, hb, hr, hml, hown, hts0, hX, hbl, hlocks, hgv⟩ := C0
  have hts : ∀ w ∈ wG, w.before #[Value.ref b] s = true := fun w h => hts0 w (List.mem_filter.mp h).1
  have hbA : ¬ (fun q : Nat => s.heap.size ≤ q) b := Nat.not_le.mpr hbl
  have hi1 : vp_in (nI k + (1 : Int32)) L := la_in (j := 1) rfl (by omega) hL
  have hi2 : vp_in (nI k + (2 : Int32)) L := la_in (j := 2) rfl (by omega) hL
  have hi3 : vp_in (nI k + (3 : Int32)) L := la_in (j := 3) rfl (by omega) hL
  have hi4 : vp_in (nI k + (4 : Int32)) L := la_in (j := 4) rfl (by omega) hL
  refine lv_aload_n hx hb dL_law_297 rfl (lv_at hl 1 rfl) ?_
  refine lv_aload_n hx hb dL_law_298 rfl (lv_at hl 0 rfl) ?_
  refine lv_iload_n hx hb dL_law_299 rfl (lv_at hl 3 rfl) ?_
  refine lv_iconst (v := (1 : Int32)) hx hb dL_law_300 (by decide) ?_
  refine lv_iadd hx hb dL_law_301 ?_
  refine va_sld hx hb hX hbl hbA hG.2 hi1 dL_law_302 ?_
  obtain ⟨r, σ1, σ2, e1, e2, hI2⟩ := op σ (xs ((nI k + (1 : Int32)).toNatClampNeg)) hI
  refine lx_cV (r := (some (.int r))) (rest := []) (As := [.int (xs ((nI k + (1 : Int32)).toNatClampNeg))]) ⟨hx, hb, hml, hown, hts⟩ (eL_net_cn e1 l g) (cwV 1 hts (gz_V mw_2_105 mw_2_106 mw_2_107 mw_1_1 mw_2_108) rfl rfl rfl hdV_X8_net ⟨Nat.le_of_ble_eq_true rfl, Nat.le_of_ble_eq_true rfl⟩) hK hAg hG (ga_0 g _) rfl rfl rfl hl.1 rfl (Nat.le_of_ble_eq_true rfl) dL_law_303 ⟨Nat.le_of_ble_eq_true rfl, Nat.le_of_ble_eq_true rfl⟩ (fun H locs hG => ?_)
  refine W.eq (g2 := F0 m 306 ls [.int r]) rfl ?_
  refine lv_aload_n hx hb dL_law_306 rfl (lv_at hl 2 rfl) ?_
  refine lv_aload_n hx hb dL_law_307 rfl (lv_at hl 0 rfl) ?_
  refine lv_iload_n hx hb dL_law_308 rfl (lv_at hl 3 rfl) ?_
  refine lv_iconst (v := (1 : Int32)) hx hb dL_law_309 (by decide) ?_
  refine lv_iadd hx hb dL_law_310 ?_
  refine va_sld hx hb hX hbl hbA hG.2 hi1 dL_law_311 ?_
  refine lx_cV (r := (some (.int r))) (rest := [.int r]) (As := [.int (xs ((nI k + (1 : Int32)).toNatClampNeg))]) ⟨hx, hb, hml, hown, hts⟩ (eM_net_cn e2 l g) (cwV 1 hts (gz_V mw_5_53 mw_5_54 mw_5_55 mw_1_11 mw_5_56) rfl rfl rfl hdV_X9_net ⟨Nat.le_of_ble_eq_true rfl, Nat.le_of_ble_eq_true rfl⟩) hK hAg hG (ga_50 g _) rfl rfl rfl hl.1 rfl (Nat.le_of_ble_eq_true rfl) dL_law_312 ⟨Nat.le_of_ble_eq_true rfl, Nat.le_of_ble_eq_true rfl⟩ (fun H locs hG => ?_)
  refine W.eq (g2 := F0 m 315 ls [.int r, .int r]) rfl ?_
  refine lv_icmp_eq (tgt := 1161) hx hb dL_law_315 (by decide) (fun _ => ?_) (fun c9 => absurd rfl c9)
  exact kk σ2 _ _ hI2 hG

set_option maxHeartbeats 4000000 in
set_option maxRecDepth 100000 in
theorem la_104 {p : Program} {l : Launch} {e : Env} {s : State} {m : MethodId} {below : List Frame} {meth : Method} {c : Code} {b L : Nat} {xs : Nat → Int32} (C0 : lw_At p s m meth c b L xs) {g : GC} (hK : g_K g s) (hAg : ∀ q, g_A g q → s.heap.size ≤ q) {k : Nat} (hk : k + 5 ≤ L) (hL : L ≤ 2560) {Inv : St → Prop} {σ : St} (hI : Inv σ) {H : Heap} {locs : List Loc} (hG : LWd g s σ H locs) {ls : Array Slot} (hl : lv_has ls 4 [(0, .ref b), (1, .ref (g.2.1 0)), (2, .ref (g.2.1 50)), (3, .int (nI k))]) (op : ∀ (σ : St) (x1 x2 x3 : Int32), x3 = 0 ∨ x3 = 1 → Inv σ → ∃ (r : Int32) (σ1 σ2 : St), eL_road x1 x2 x3 σ r σ1 ∧ eM_road x1 x2 x3 σ1 r σ2 ∧ Inv σ2) (kk : ∀ (σ2 : St) (H : Heap) (locs : List Loc), Inv σ2 → LWd g s σ2 H locs → W p l e room_1 s m #[Value.ref b] below meth c H locs 82 50159 (lw_Z below #[Value.ref b] s) (F0 m 1161 ls [])) : W p l e room_1 s m #[Value.ref b] below meth c H locs 82 50159 (lw_Z below #[Value.ref b] s) (F0 m 320 ls []) := by
  obtain ⟨hx, hb, hr, hml, hown, hts0, hX, hbl, hlocks, hgv⟩ := C0
  have hts : ∀ w ∈ wG, w.before #[Value.ref b] s = true := fun w h => hts0 w (List.mem_filter.mp h).1
  have hbA : ¬ (fun q : Nat => s.heap.size ≤ q) b := Nat.not_le.mpr hbl
  have hi1 : vp_in (nI k + (1 : Int32)) L := la_in (j := 1) rfl (by omega) hL
  have hi2 : vp_in (nI k + (2 : Int32)) L := la_in (j := 2) rfl (by omega) hL
  have hi3 : vp_in (nI k + (3 : Int32)) L := la_in (j := 3) rfl (by omega) hL
  have hi4 : vp_in (nI k + (4 : Int32)) L := la_in (j := 4) rfl (by omega) hL
  refine lv_aload_n hx hb dL_law_320 rfl (lv_at hl 1 rfl) ?_
  refine lv_aload_n hx hb dL_law_321 rfl (lv_at hl 0 rfl) ?_
  refine lv_iload_n hx hb dL_law_322 rfl (lv_at hl 3 rfl) ?_
  refine lv_iconst (v := (1 : Int32)) hx hb dL_law_323 (by decide) ?_
  refine lv_iadd hx hb dL_law_324 ?_
  refine va_sld hx hb hX hbl hbA hG.2 hi1 dL_law_325 ?_
  refine lv_aload_n hx hb dL_law_326 rfl (lv_at hl 0 rfl) ?_
  refine lv_iload_n hx hb dL_law_327 rfl (lv_at hl 3 rfl) ?_
  refine lv_iconst (v := (2 : Int32)) hx hb dL_law_328 (by decide) ?_
  refine lv_iadd hx hb dL_law_329 ?_
  refine va_sld hx hb hX hbl hbA hG.2 hi2 dL_law_330 ?_
  refine lv_aload_n hx hb dL_law_331 rfl (lv_at hl 0 rfl) ?_
  refine lv_iload_n hx hb dL_law_332 rfl (lv_at hl 3 rfl) ?_
  refine lv_iconst (v := (3 : Int32)) hx hb dL_law_333 (by decide) ?_
  refine lv_iadd hx hb dL_law_334 ?_
  refine va_sld hx hb hX hbl hbA hG.2 hi3 dL_law_335 ?_
  refine lv_if_eq (tgt := 343) hx hb dL_law_336 (by decide) (fun c1 => ?_) (fun c1 => ?_)
  · refine lv_iconst (v := (0 : Int32)) hx hb dL_law_343 (by decide) ?_
    obtain ⟨r, σ1, σ2, e1, e2, hI2⟩ := op σ (xs ((nI k + (1 : Int32)).toNatClampNeg)) (xs ((nI k + (2 : Int32)).toNatClampNeg)) (0 : Int32) (Or.inl rfl) hI
    refine lx_cV (r := (some (.int r))) (rest := []) (As := [.int (xs ((nI k + (1 : Int32)).toNatClampNeg)), .int (xs ((nI k + (2 : Int32)).toNatClampNeg)), .int (0 : Int32)]) ⟨hx, hb, hml, hown, hts⟩ (eL_road_cn e1 l g) (cwV 3 hts (gz_V mw_2_118 mw_2_119 mw_2_120 mw_1_1 mw_2_121) rfl rfl rfl hdV_X8_road ⟨Nat.le_of_ble_eq_true rfl, Nat.le_of_ble_eq_true rfl⟩) hK hAg hG (ga_0 g _) rfl rfl rfl hl.1 rfl (Nat.le_of_ble_eq_true rfl) dL_law_344 ⟨Nat.le_of_ble_eq_true rfl, Nat.le_of_ble_eq_true rfl⟩ (fun H locs hG => ?_)
    refine W.eq (g2 := F0 m 347 ls [.int r]) rfl ?_
    refine lv_aload_n hx hb dL_law_347 rfl (lv_at hl 2 rfl) ?_
    refine lv_aload_n hx hb dL_law_348 rfl (lv_at hl 0 rfl) ?_
    refine lv_iload_n hx hb dL_law_349 rfl (lv_at hl 3 rfl) ?_
    refine lv_iconst (v := (1 : Int32)) hx hb dL_law_350 (by decide) ?_
    refine lv_iadd hx hb dL_law_351 ?_
    refine va_sld hx hb hX hbl hbA hG.2 hi1 dL_law_352 ?_
    refine lv_aload_n hx hb dL_law_353 rfl (lv_at hl 0 rfl) ?_
    refine lv_iload_n hx hb dL_law_354 rfl (lv_at hl 3 rfl) ?_
    refine lv_iconst (v := (2 : Int32)) hx hb dL_law_355 (by decide) ?_
    refine lv_iadd hx hb dL_law_356 ?_
    refine va_sld hx hb hX hbl hbA hG.2 hi2 dL_law_357 ?_
    refine lv_aload_n hx hb dL_law_358 rfl (lv_at hl 0 rfl) ?_
    refine lv_iload_n hx hb dL_law_359 rfl (lv_at hl 3 rfl) ?_
    refine lv_iconst (v := (3 : Int32)) hx hb dL_law_360 (by decide) ?_
    refine lv_iadd hx hb dL_law_361 ?_
    refine va_sld hx hb hX hbl hbA hG.2 hi3 dL_law_362 ?_
    refine lv_if_eq (tgt := 370) hx hb dL_law_363 (by decide) (fun _ => ?_) (fun c2 => absurd c1 c2)
    refine lv_iconst (v := (0 : Int32)) hx hb dL_law_370 (by decide) ?_
    refine lx_cV (r := (some (.int r))) (rest := [.int r]) (As := [.int (xs ((nI k + (1 : Int32)).toNatClampNeg)), .int (xs ((nI k + (2 : Int32)).toNatClampNeg)), .int (0 : Int32)]) ⟨hx, hb, hml, hown, hts⟩ (eM_road_cn e2 l g) (cwV 3 hts (gz_V mw_5_62 mw_5_63 mw_5_64 mw_1_11 mw_5_65) rfl rfl rfl hdV_X9_road ⟨Nat.le_of_ble_eq_true rfl, Nat.le_of_ble_eq_true rfl⟩) hK hAg hG (ga_50 g _) rfl rfl rfl hl.1 rfl (Nat.le_of_ble_eq_true rfl) dL_law_371 ⟨Nat.le_of_ble_eq_true rfl, Nat.le_of_ble_eq_true rfl⟩ (fun H locs hG => ?_)
    refine W.eq (g2 := F0 m 374 ls [.int r, .int r]) rfl ?_
    refine lv_icmp_eq (tgt := 1161) hx hb dL_law_374 (by decide) (fun _ => ?_) (fun c9 => absurd rfl c9)
    exact kk σ2 _ _ hI2 hG
  · refine lv_iconst (v := (1 : Int32)) hx hb dL_law_339 (by decide) ?_
    refine lv_goto (tgt := 344) hx hb dL_law_340 (by decide) ?_
    obtain ⟨r, σ1, σ2, e1, e2, hI2⟩ := op σ (xs ((nI k + (1 : Int32)).toNatClampNeg)) (xs ((nI k + (2 : Int32)).toNatClampNeg)) (1 : Int32) (Or.inr rfl) hI
    refine lx_cV (r := (some (.int r))) (rest := []) (As := [.int (xs ((nI k + (1 : Int32)).toNatClampNeg)), .int (xs ((nI k + (2 : Int32)).toNatClampNeg)), .int (1 : Int32)]) ⟨hx, hb, hml, hown, hts⟩ (eL_road_cn e1 l g) (cwV 3 hts (gz_V mw_2_118 mw_2_119 mw_2_120 mw_1_1 mw_2_121) rfl rfl rfl hdV_X8_road ⟨Nat.le_of_ble_eq_true rfl, Nat.le_of_ble_eq_true rfl⟩) hK hAg hG (ga_0 g _) rfl rfl rfl hl.1 rfl (Nat.le_of_ble_eq_true rfl) dL_law_344 ⟨Nat.le_of_ble_eq_true rfl, Nat.le_of_ble_eq_true rfl⟩ (fun H locs hG => ?_)
    refine W.eq (g2 := F0 m 347 ls [.int r]) rfl ?_
    refine lv_aload_n hx hb dL_law_347 rfl (lv_at hl 2 rfl) ?_
    refine lv_aload_n hx hb dL_law_348 rfl (lv_at hl 0 rfl) ?_
    refine lv_iload_n hx hb dL_law_349 rfl (lv_at hl 3 rfl) ?_
    refine lv_iconst (v := (1 : Int32)) hx hb dL_law_350 (by decide) ?_
    refine lv_iadd hx hb dL_law_351 ?_
    refine va_sld hx hb hX hbl hbA hG.2 hi1 dL_law_352 ?_
    refine lv_aload_n hx hb dL_law_353 rfl (lv_at hl 0 rfl) ?_
    refine lv_iload_n hx hb dL_law_354 rfl (lv_at hl 3 rfl) ?_
    refine lv_iconst (v := (2 : Int32)) hx hb dL_law_355 (by decide) ?_
    refine lv_iadd hx hb dL_law_356 ?_
    refine va_sld hx hb hX hbl hbA hG.2 hi2 dL_law_357 ?_
    refine lv_aload_n hx hb dL_law_358 rfl (lv_at hl 0 rfl) ?_
    refine lv_iload_n hx hb dL_law_359 rfl (lv_at hl 3 rfl) ?_
    refine lv_iconst (v := (3 : Int32)) hx hb dL_law_360 (by decide) ?_
    refine lv_iadd hx hb dL_law_361 ?_
    refine va_sld hx hb hX hbl hbA hG.2 hi3 dL_law_362 ?_
    refine lv_if_eq (tgt := 370) hx hb dL_law_363 (by decide) (fun c2 => absurd c2 c1) (fun _ => ?_)
    refine lv_iconst (v := (1 : Int32)) hx hb dL_law_366 (by decide) ?_
    refine lv_goto (tgt := 371) hx hb dL_law_367 (by decide) ?_
    refine lx_cV (r := (some (.int r))) (rest := [.int r]) (As := [.int (xs ((nI k + (1 : Int32)).toNatClampNeg)), .int (xs ((nI k + (2 : Int32)).toNatClampNeg)), .int (1 : Int32)]) ⟨hx, hb, hml, hown, hts⟩ (eM_road_cn e2 l g) (cwV 3 hts (gz_V mw_5_62 mw_5_63 mw_5_64 mw_1_11 mw_5_65) rfl rfl rfl hdV_X9_road ⟨Nat.le_of_ble_eq_true rfl, Nat.le_of_ble_eq_true rfl⟩) hK hAg hG (ga_50 g _) rfl rfl rfl hl.1 rfl (Nat.le_of_ble_eq_true rfl) dL_law_371 ⟨Nat.le_of_ble_eq_true rfl, Nat.le_of_ble_eq_true rfl⟩ (fun H locs hG => ?_)
    refine W.eq (g2 := F0 m 374 ls [.int r, .int r]) rfl ?_
    refine lv_icmp_eq (tgt := 1161) hx hb dL_law_374 (by decide) (fun _ => ?_) (fun c9 => absurd rfl c9)
    exact kk σ2 _ _ hI2 hG

set_option maxHeartbeats 4000000 in
set_option maxRecDepth 100000 in
theorem la_105 {p : Program} {l : Launch} {e : Env} {s : State} {m : MethodId} {below : List Frame} {meth : Method} {c : Code} {b L : Nat} {xs : Nat → Int32} (C0 : lw_At p s m meth c b L xs) {g : GC} (hK : g_K g s) (hAg : ∀ q, g_A g q → s.heap.size ≤ q) {k : Nat} (hk : k + 5 ≤ L) (hL : L ≤ 2560) {Inv : St → Prop} {σ : St} (hI : Inv σ) {H : Heap} {locs : List Loc} (hG : LWd g s σ H locs) {ls : Array Slot} (hl : lv_has ls 4 [(0, .ref b), (1, .ref (g.2.1 0)), (2, .ref (g.2.1 50)), (3, .int (nI k))]) (op : ∀ (σ : St) (x1 x2 x3 : Int32), Inv σ → ∃ (r : Int32) (σ1 σ2 : St), eL_load x1 x2 x3 σ r σ1 ∧ eM_load x1 x2 x3 σ1 r σ2 ∧ Inv σ2) (kk : ∀ (σ2 : St) (H : Heap) (locs : List Loc), Inv σ2 → LWd g s σ2 H locs → W p l e room_1 s m #[Value.ref b] below meth c H locs 82 50159 (lw_Z below #[Value.ref b] s) (F0 m 1161 ls [])) : W p l e room_1 s m #[Value.ref b] below meth c H locs 82 50159 (lw_Z below #[Value.ref b] s) (F0 m 379 ls []) := by
  obtain ⟨hx, hb, hr, hml, hown, hts0, hX, hbl, hlocks, hgv⟩ := C0
  have hts : ∀ w ∈ wG, w.before #[Value.ref b] s = true := fun w h => hts0 w (List.mem_filter.mp h).1
  have hbA : ¬ (fun q : Nat => s.heap.size ≤ q) b := Nat.not_le.mpr hbl
  have hi1 : vp_in (nI k + (1 : Int32)) L := la_in (j := 1) rfl (by omega) hL
  have hi2 : vp_in (nI k + (2 : Int32)) L := la_in (j := 2) rfl (by omega) hL
  have hi3 : vp_in (nI k + (3 : Int32)) L := la_in (j := 3) rfl (by omega) hL
  have hi4 : vp_in (nI k + (4 : Int32)) L := la_in (j := 4) rfl (by omega) hL
  refine lv_aload_n hx hb dL_law_379 rfl (lv_at hl 1 rfl) ?_
  refine lv_aload_n hx hb dL_law_380 rfl (lv_at hl 0 rfl) ?_
  refine lv_iload_n hx hb dL_law_381 rfl (lv_at hl 3 rfl) ?_
  refine lv_iconst (v := (1 : Int32)) hx hb dL_law_382 (by decide) ?_
  refine lv_iadd hx hb dL_law_383 ?_
  refine va_sld hx hb hX hbl hbA hG.2 hi1 dL_law_384 ?_
  refine lv_aload_n hx hb dL_law_385 rfl (lv_at hl 0 rfl) ?_
  refine lv_iload_n hx hb dL_law_386 rfl (lv_at hl 3 rfl) ?_
  refine lv_iconst (v := (2 : Int32)) hx hb dL_law_387 (by decide) ?_
  refine lv_iadd hx hb dL_law_388 ?_
  refine va_sld hx hb hX hbl hbA hG.2 hi2 dL_law_389 ?_
  refine lv_aload_n hx hb dL_law_390 rfl (lv_at hl 0 rfl) ?_
  refine lv_iload_n hx hb dL_law_391 rfl (lv_at hl 3 rfl) ?_
  refine lv_iconst (v := (3 : Int32)) hx hb dL_law_392 (by decide) ?_
  refine lv_iadd hx hb dL_law_393 ?_
  refine va_sld hx hb hX hbl hbA hG.2 hi3 dL_law_394 ?_
  obtain ⟨r, σ1, σ2, e1, e2, hI2⟩ := op σ (xs ((nI k + (1 : Int32)).toNatClampNeg)) (xs ((nI k + (2 : Int32)).toNatClampNeg)) (xs ((nI k + (3 : Int32)).toNatClampNeg)) hI
  refine lx_cV (r := (some (.int r))) (rest := []) (As := [.int (xs ((nI k + (1 : Int32)).toNatClampNeg)), .int (xs ((nI k + (2 : Int32)).toNatClampNeg)), .int (xs ((nI k + (3 : Int32)).toNatClampNeg))]) ⟨hx, hb, hml, hown, hts⟩ (eL_load_cn e1 l g) (cwV 3 hts (gz_V mw_2_146 mw_2_147 mw_2_148 mw_1_1 mw_2_149) rfl rfl rfl hdV_X8_load ⟨Nat.le_of_ble_eq_true rfl, Nat.le_of_ble_eq_true rfl⟩) hK hAg hG (ga_0 g _) rfl rfl rfl hl.1 rfl (Nat.le_of_ble_eq_true rfl) dL_law_395 ⟨Nat.le_of_ble_eq_true rfl, Nat.le_of_ble_eq_true rfl⟩ (fun H locs hG => ?_)
  refine W.eq (g2 := F0 m 398 ls [.int r]) rfl ?_
  refine lv_aload_n hx hb dL_law_398 rfl (lv_at hl 2 rfl) ?_
  refine lv_aload_n hx hb dL_law_399 rfl (lv_at hl 0 rfl) ?_
  refine lv_iload_n hx hb dL_law_400 rfl (lv_at hl 3 rfl) ?_
  refine lv_iconst (v := (1 : Int32)) hx hb dL_law_401 (by decide) ?_
  refine lv_iadd hx hb dL_law_402 ?_
  refine va_sld hx hb hX hbl hbA hG.2 hi1 dL_law_403 ?_
  refine lv_aload_n hx hb dL_law_404 rfl (lv_at hl 0 rfl) ?_
  refine lv_iload_n hx hb dL_law_405 rfl (lv_at hl 3 rfl) ?_
  refine lv_iconst (v := (2 : Int32)) hx hb dL_law_406 (by decide) ?_
  refine lv_iadd hx hb dL_law_407 ?_
  refine va_sld hx hb hX hbl hbA hG.2 hi2 dL_law_408 ?_
  refine lv_aload_n hx hb dL_law_409 rfl (lv_at hl 0 rfl) ?_
  refine lv_iload_n hx hb dL_law_410 rfl (lv_at hl 3 rfl) ?_
  refine lv_iconst (v := (3 : Int32)) hx hb dL_law_411 (by decide) ?_
  refine lv_iadd hx hb dL_law_412 ?_
  refine va_sld hx hb hX hbl hbA hG.2 hi3 dL_law_413 ?_
  refine lx_cV (r := (some (.int r))) (rest := [.int r]) (As := [.int (xs ((nI k + (1 : Int32)).toNatClampNeg)), .int (xs ((nI k + (2 : Int32)).toNatClampNeg)), .int (xs ((nI k + (3 : Int32)).toNatClampNeg))]) ⟨hx, hb, hml, hown, hts⟩ (eM_load_cn e2 l g) (cwV 3 hts (gz_V mw_5_74 mw_5_75 mw_5_76 mw_1_11 mw_5_77) rfl rfl rfl hdV_X9_load ⟨Nat.le_of_ble_eq_true rfl, Nat.le_of_ble_eq_true rfl⟩) hK hAg hG (ga_50 g _) rfl rfl rfl hl.1 rfl (Nat.le_of_ble_eq_true rfl) dL_law_414 ⟨Nat.le_of_ble_eq_true rfl, Nat.le_of_ble_eq_true rfl⟩ (fun H locs hG => ?_)
  refine W.eq (g2 := F0 m 417 ls [.int r, .int r]) rfl ?_
  refine lv_icmp_eq (tgt := 1161) hx hb dL_law_417 (by decide) (fun _ => ?_) (fun c9 => absurd rfl c9)
  exact kk σ2 _ _ hI2 hG

set_option maxHeartbeats 4000000 in
set_option maxRecDepth 100000 in
theorem la_106 {p : Program} {l : Launch} {e : Env} {s : State} {m : MethodId} {below : List Frame} {meth : Method} {c : Code} {b L : Nat} {xs : Nat → Int32} (C0 : lw_At p s m meth c b L xs) {g : GC} (hK : g_K g s) (hAg : ∀ q, g_A g q → s.heap.size ≤ q) {k : Nat} (hk : k + 5 ≤ L) (hL : L ≤ 2560) {Inv : St → Prop} {σ : St} (hI : Inv σ) {H : Heap} {locs : List Loc} (hG : LWd g s σ H locs) {ls : Array Slot} (hl : lv_has ls 4 [(0, .ref b), (1, .ref (g.2.1 0)), (2, .ref (g.2.1 50)), (3, .int (nI k))]) (op : ∀ (σ : St) (x1 x2 : Int32), Inv σ → ∃ (r : Int32) (σ1 σ2 : St), eL_joined x1 x2 σ r σ1 ∧ eM_joined x1 x2 σ1 r σ2 ∧ Inv σ2) (kk : ∀ (σ2 : St) (H : Heap) (locs : List Loc), Inv σ2 → LWd g s σ2 H locs → W p l e room_1 s m #[Value.ref b] below meth c H locs 82 50159 (lw_Z below #[Value.ref b] s) (F0 m 1161 ls [])) : W p l e room_1 s m #[Value.ref b] below meth c H locs 82 50159 (lw_Z below #[Value.ref b] s) (F0 m 422 ls []) := by
  obtain ⟨hx, hb, hr, hml, hown, hts0, hX, hbl, hlocks, hgv⟩ := C0
  have hts : ∀ w ∈ wG, w.before #[Value.ref b] s = true := fun w h => hts0 w (List.mem_filter.mp h).1
  have hbA : ¬ (fun q : Nat => s.heap.size ≤ q) b := Nat.not_le.mpr hbl
  have hi1 : vp_in (nI k + (1 : Int32)) L := la_in (j := 1) rfl (by omega) hL
  have hi2 : vp_in (nI k + (2 : Int32)) L := la_in (j := 2) rfl (by omega) hL
  have hi3 : vp_in (nI k + (3 : Int32)) L := la_in (j := 3) rfl (by omega) hL
  have hi4 : vp_in (nI k + (4 : Int32)) L := la_in (j := 4) rfl (by omega) hL
  refine lv_aload_n hx hb dL_law_422 rfl (lv_at hl 1 rfl) ?_
  refine lv_aload_n hx hb dL_law_423 rfl (lv_at hl 0 rfl) ?_
  refine lv_iload_n hx hb dL_law_424 rfl (lv_at hl 3 rfl) ?_
  refine lv_iconst (v := (1 : Int32)) hx hb dL_law_425 (by decide) ?_
  refine lv_iadd hx hb dL_law_426 ?_
  refine va_sld hx hb hX hbl hbA hG.2 hi1 dL_law_427 ?_
  refine lv_aload_n hx hb dL_law_428 rfl (lv_at hl 0 rfl) ?_
  refine lv_iload_n hx hb dL_law_429 rfl (lv_at hl 3 rfl) ?_
  refine lv_iconst (v := (2 : Int32)) hx hb dL_law_430 (by decide) ?_
  refine lv_iadd hx hb dL_law_431 ?_
  refine va_sld hx hb hX hbl hbA hG.2 hi2 dL_law_432 ?_
  obtain ⟨r, σ1, σ2, e1, e2, hI2⟩ := op σ (xs ((nI k + (1 : Int32)).toNatClampNeg)) (xs ((nI k + (2 : Int32)).toNatClampNeg)) hI
  refine lx_cV (r := (some (.int r))) (rest := []) (As := [.int (xs ((nI k + (1 : Int32)).toNatClampNeg)), .int (xs ((nI k + (2 : Int32)).toNatClampNeg))]) ⟨hx, hb, hml, hown, hts⟩ (eL_joined_cn e1 l g) (cwV 2 hts (gz_V mw_2_174 mw_2_175 mw_2_176 mw_1_1 mw_2_177) rfl rfl rfl hdV_X8_joined ⟨Nat.le_of_ble_eq_true rfl, Nat.le_of_ble_eq_true rfl⟩) hK hAg hG (ga_0 g _) rfl rfl rfl hl.1 rfl (Nat.le_of_ble_eq_true rfl) dL_law_433 ⟨Nat.le_of_ble_eq_true rfl, Nat.le_of_ble_eq_true rfl⟩ (fun H locs hG => ?_)
  refine W.eq (g2 := F0 m 436 ls [.int r]) rfl ?_
  refine lv_aload_n hx hb dL_law_436 rfl (lv_at hl 2 rfl) ?_
  refine lv_aload_n hx hb dL_law_437 rfl (lv_at hl 0 rfl) ?_
  refine lv_iload_n hx hb dL_law_438 rfl (lv_at hl 3 rfl) ?_
  refine lv_iconst (v := (1 : Int32)) hx hb dL_law_439 (by decide) ?_
  refine lv_iadd hx hb dL_law_440 ?_
  refine va_sld hx hb hX hbl hbA hG.2 hi1 dL_law_441 ?_
  refine lv_aload_n hx hb dL_law_442 rfl (lv_at hl 0 rfl) ?_
  refine lv_iload_n hx hb dL_law_443 rfl (lv_at hl 3 rfl) ?_
  refine lv_iconst (v := (2 : Int32)) hx hb dL_law_444 (by decide) ?_
  refine lv_iadd hx hb dL_law_445 ?_
  refine va_sld hx hb hX hbl hbA hG.2 hi2 dL_law_446 ?_
  refine lx_cV (r := (some (.int r))) (rest := [.int r]) (As := [.int (xs ((nI k + (1 : Int32)).toNatClampNeg)), .int (xs ((nI k + (2 : Int32)).toNatClampNeg))]) ⟨hx, hb, hml, hown, hts⟩ (eM_joined_cn e2 l g) (cwV 2 hts (gz_V mw_5_78 mw_5_79 mw_5_80 mw_1_11 mw_5_81) rfl rfl rfl hdV_X9_joined ⟨Nat.le_of_ble_eq_true rfl, Nat.le_of_ble_eq_true rfl⟩) hK hAg hG (ga_50 g _) rfl rfl rfl hl.1 rfl (Nat.le_of_ble_eq_true rfl) dL_law_447 ⟨Nat.le_of_ble_eq_true rfl, Nat.le_of_ble_eq_true rfl⟩ (fun H locs hG => ?_)
  refine W.eq (g2 := F0 m 450 ls [.int r, .int r]) rfl ?_
  refine lv_icmp_eq (tgt := 1161) hx hb dL_law_450 (by decide) (fun _ => ?_) (fun c9 => absurd rfl c9)
  exact kk σ2 _ _ hI2 hG

set_option maxHeartbeats 4000000 in
set_option maxRecDepth 100000 in
theorem la_107 {p : Program} {l : Launch} {e : Env} {s : State} {m : MethodId} {below : List Frame} {meth : Method} {c : Code} {b L : Nat} {xs : Nat → Int32} (C0 : lw_At p s m meth c b L xs) {g : GC} (hK : g_K g s) (hAg : ∀ q, g_A g q → s.heap.size ≤ q) {k : Nat} (hk : k + 5 ≤ L) (hL : L ≤ 2560) {Inv : St → Prop} {σ : St} (hI : Inv σ) {H : Heap} {locs : List Loc} (hG : LWd g s σ H locs) {ls : Array Slot} (hl : lv_has ls 4 [(0, .ref b), (1, .ref (g.2.1 0)), (2, .ref (g.2.1 50)), (3, .int (nI k))]) (op : ∀ (σ : St) (x1 x2 x3 : Int32), Inv σ → ∃ (r : Int32) (σ1 σ2 : St), eL_build x1 x2 x3 σ r σ1 ∧ eM_build x1 x2 x3 σ1 r σ2 ∧ Inv σ2) (kk : ∀ (σ2 : St) (H : Heap) (locs : List Loc), Inv σ2 → LWd g s σ2 H locs → W p l e room_1 s m #[Value.ref b] below meth c H locs 82 50159 (lw_Z below #[Value.ref b] s) (F0 m 1161 ls [])) : W p l e room_1 s m #[Value.ref b] below meth c H locs 82 50159 (lw_Z below #[Value.ref b] s) (F0 m 455 ls []) := by
  obtain ⟨hx, hb, hr, hml, hown, hts0, hX, hbl, hlocks, hgv⟩ := C0
  have hts : ∀ w ∈ wG, w.before #[Value.ref b] s = true := fun w h => hts0 w (List.mem_filter.mp h).1
  have hbA : ¬ (fun q : Nat => s.heap.size ≤ q) b := Nat.not_le.mpr hbl
  have hi1 : vp_in (nI k + (1 : Int32)) L := la_in (j := 1) rfl (by omega) hL
  have hi2 : vp_in (nI k + (2 : Int32)) L := la_in (j := 2) rfl (by omega) hL
  have hi3 : vp_in (nI k + (3 : Int32)) L := la_in (j := 3) rfl (by omega) hL
  have hi4 : vp_in (nI k + (4 : Int32)) L := la_in (j := 4) rfl (by omega) hL
  refine lv_aload_n hx hb dL_law_455 rfl (lv_at hl 1 rfl) ?_
  refine lv_aload_n hx hb dL_law_456 rfl (lv_at hl 0 rfl) ?_
  refine lv_iload_n hx hb dL_law_457 rfl (lv_at hl 3 rfl) ?_
  refine lv_iconst (v := (1 : Int32)) hx hb dL_law_458 (by decide) ?_
  refine lv_iadd hx hb dL_law_459 ?_
  refine va_sld hx hb hX hbl hbA hG.2 hi1 dL_law_460 ?_
  refine lv_aload_n hx hb dL_law_461 rfl (lv_at hl 0 rfl) ?_
  refine lv_iload_n hx hb dL_law_462 rfl (lv_at hl 3 rfl) ?_
  refine lv_iconst (v := (2 : Int32)) hx hb dL_law_463 (by decide) ?_
  refine lv_iadd hx hb dL_law_464 ?_
  refine va_sld hx hb hX hbl hbA hG.2 hi2 dL_law_465 ?_
  refine lv_aload_n hx hb dL_law_466 rfl (lv_at hl 0 rfl) ?_
  refine lv_iload_n hx hb dL_law_467 rfl (lv_at hl 3 rfl) ?_
  refine lv_iconst (v := (3 : Int32)) hx hb dL_law_468 (by decide) ?_
  refine lv_iadd hx hb dL_law_469 ?_
  refine va_sld hx hb hX hbl hbA hG.2 hi3 dL_law_470 ?_
  obtain ⟨r, σ1, σ2, e1, e2, hI2⟩ := op σ (xs ((nI k + (1 : Int32)).toNatClampNeg)) (xs ((nI k + (2 : Int32)).toNatClampNeg)) (xs ((nI k + (3 : Int32)).toNatClampNeg)) hI
  refine lx_cV (r := (some (.int r))) (rest := []) (As := [.int (xs ((nI k + (1 : Int32)).toNatClampNeg)), .int (xs ((nI k + (2 : Int32)).toNatClampNeg)), .int (xs ((nI k + (3 : Int32)).toNatClampNeg))]) ⟨hx, hb, hml, hown, hts⟩ (eL_build_cn e1 l g) (cwV 3 hts (gz_V mw_2_178 mw_2_179 mw_2_180 mw_1_1 mw_2_181) rfl rfl rfl hdV_X8_build ⟨Nat.le_of_ble_eq_true rfl, Nat.le_of_ble_eq_true rfl⟩) hK hAg hG (ga_0 g _) rfl rfl rfl hl.1 rfl (Nat.le_of_ble_eq_true rfl) dL_law_471 ⟨Nat.le_of_ble_eq_true rfl, Nat.le_of_ble_eq_true rfl⟩ (fun H locs hG => ?_)
  refine W.eq (g2 := F0 m 474 ls [.int r]) rfl ?_
  refine lv_aload_n hx hb dL_law_474 rfl (lv_at hl 2 rfl) ?_
  refine lv_aload_n hx hb dL_law_475 rfl (lv_at hl 0 rfl) ?_
  refine lv_iload_n hx hb dL_law_476 rfl (lv_at hl 3 rfl) ?_
  refine lv_iconst (v := (1 : Int32)) hx hb dL_law_477 (by decide) ?_
  refine lv_iadd hx hb dL_law_478 ?_
  refine va_sld hx hb hX hbl hbA hG.2 hi1 dL_law_479 ?_
  refine lv_aload_n hx hb dL_law_480 rfl (lv_at hl 0 rfl) ?_
  refine lv_iload_n hx hb dL_law_481 rfl (lv_at hl 3 rfl) ?_
  refine lv_iconst (v := (2 : Int32)) hx hb dL_law_482 (by decide) ?_
  refine lv_iadd hx hb dL_law_483 ?_
  refine va_sld hx hb hX hbl hbA hG.2 hi2 dL_law_484 ?_
  refine lv_aload_n hx hb dL_law_485 rfl (lv_at hl 0 rfl) ?_
  refine lv_iload_n hx hb dL_law_486 rfl (lv_at hl 3 rfl) ?_
  refine lv_iconst (v := (3 : Int32)) hx hb dL_law_487 (by decide) ?_
  refine lv_iadd hx hb dL_law_488 ?_
  refine va_sld hx hb hX hbl hbA hG.2 hi3 dL_law_489 ?_
  refine lx_cV (r := (some (.int r))) (rest := [.int r]) (As := [.int (xs ((nI k + (1 : Int32)).toNatClampNeg)), .int (xs ((nI k + (2 : Int32)).toNatClampNeg)), .int (xs ((nI k + (3 : Int32)).toNatClampNeg))]) ⟨hx, hb, hml, hown, hts⟩ (eM_build_cn e2 l g) (cwV 3 hts (gz_V mw_5_82 mw_5_83 mw_5_84 mw_1_11 mw_5_85) rfl rfl rfl hdV_X9_build ⟨Nat.le_of_ble_eq_true rfl, Nat.le_of_ble_eq_true rfl⟩) hK hAg hG (ga_50 g _) rfl rfl rfl hl.1 rfl (Nat.le_of_ble_eq_true rfl) dL_law_490 ⟨Nat.le_of_ble_eq_true rfl, Nat.le_of_ble_eq_true rfl⟩ (fun H locs hG => ?_)
  refine W.eq (g2 := F0 m 493 ls [.int r, .int r]) rfl ?_
  refine lv_icmp_eq (tgt := 1161) hx hb dL_law_493 (by decide) (fun _ => ?_) (fun c9 => absurd rfl c9)
  exact kk σ2 _ _ hI2 hG

set_option maxHeartbeats 4000000 in
set_option maxRecDepth 100000 in
theorem la_108 {p : Program} {l : Launch} {e : Env} {s : State} {m : MethodId} {below : List Frame} {meth : Method} {c : Code} {b L : Nat} {xs : Nat → Int32} (C0 : lw_At p s m meth c b L xs) {g : GC} (hK : g_K g s) (hAg : ∀ q, g_A g q → s.heap.size ≤ q) {k : Nat} (hk : k + 5 ≤ L) (hL : L ≤ 2560) {Inv : St → Prop} {σ : St} (hI : Inv σ) {H : Heap} {locs : List Loc} (hG : LWd g s σ H locs) {ls : Array Slot} (hl : lv_has ls 4 [(0, .ref b), (1, .ref (g.2.1 0)), (2, .ref (g.2.1 50)), (3, .int (nI k))]) (op : ∀ (σ : St) (x1 x2 : Int32), Inv σ → ∃ (r : Int32) (σ1 σ2 : St), eL_way x1 x2 σ r σ1 ∧ eM_way x1 x2 σ1 r σ2 ∧ Inv σ2) (kk : ∀ (σ2 : St) (H : Heap) (locs : List Loc), Inv σ2 → LWd g s σ2 H locs → W p l e room_1 s m #[Value.ref b] below meth c H locs 82 50159 (lw_Z below #[Value.ref b] s) (F0 m 1161 ls [])) : W p l e room_1 s m #[Value.ref b] below meth c H locs 82 50159 (lw_Z below #[Value.ref b] s) (F0 m 498 ls []) := by
  obtain ⟨hx, hb, hr, hml, hown, hts0, hX, hbl, hlocks, hgv⟩ := C0
  have hts : ∀ w ∈ wG, w.before #[Value.ref b] s = true := fun w h => hts0 w (List.mem_filter.mp h).1
  have hbA : ¬ (fun q : Nat => s.heap.size ≤ q) b := Nat.not_le.mpr hbl
  have hi1 : vp_in (nI k + (1 : Int32)) L := la_in (j := 1) rfl (by omega) hL
  have hi2 : vp_in (nI k + (2 : Int32)) L := la_in (j := 2) rfl (by omega) hL
  have hi3 : vp_in (nI k + (3 : Int32)) L := la_in (j := 3) rfl (by omega) hL
  have hi4 : vp_in (nI k + (4 : Int32)) L := la_in (j := 4) rfl (by omega) hL
  refine lv_aload_n hx hb dL_law_498 rfl (lv_at hl 1 rfl) ?_
  refine lv_aload_n hx hb dL_law_499 rfl (lv_at hl 0 rfl) ?_
  refine lv_iload_n hx hb dL_law_500 rfl (lv_at hl 3 rfl) ?_
  refine lv_iconst (v := (1 : Int32)) hx hb dL_law_501 (by decide) ?_
  refine lv_iadd hx hb dL_law_502 ?_
  refine va_sld hx hb hX hbl hbA hG.2 hi1 dL_law_503 ?_
  refine lv_aload_n hx hb dL_law_504 rfl (lv_at hl 0 rfl) ?_
  refine lv_iload_n hx hb dL_law_505 rfl (lv_at hl 3 rfl) ?_
  refine lv_iconst (v := (2 : Int32)) hx hb dL_law_506 (by decide) ?_
  refine lv_iadd hx hb dL_law_507 ?_
  refine va_sld hx hb hX hbl hbA hG.2 hi2 dL_law_508 ?_
  obtain ⟨r, σ1, σ2, e1, e2, hI2⟩ := op σ (xs ((nI k + (1 : Int32)).toNatClampNeg)) (xs ((nI k + (2 : Int32)).toNatClampNeg)) hI
  refine lx_cV (r := (some (.int r))) (rest := []) (As := [.int (xs ((nI k + (1 : Int32)).toNatClampNeg)), .int (xs ((nI k + (2 : Int32)).toNatClampNeg))]) ⟨hx, hb, hml, hown, hts⟩ (eL_way_cn e1 l g) (cwV 2 hts (gz_V mw_3_0 mw_3_1 mw_3_2 mw_1_1 mw_3_3) rfl rfl rfl hdV_X8_way ⟨Nat.le_of_ble_eq_true rfl, Nat.le_of_ble_eq_true rfl⟩) hK hAg hG (ga_0 g _) rfl rfl rfl hl.1 rfl (Nat.le_of_ble_eq_true rfl) dL_law_509 ⟨Nat.le_of_ble_eq_true rfl, Nat.le_of_ble_eq_true rfl⟩ (fun H locs hG => ?_)
  refine W.eq (g2 := F0 m 512 ls [.int r]) rfl ?_
  refine lv_aload_n hx hb dL_law_512 rfl (lv_at hl 2 rfl) ?_
  refine lv_aload_n hx hb dL_law_513 rfl (lv_at hl 0 rfl) ?_
  refine lv_iload_n hx hb dL_law_514 rfl (lv_at hl 3 rfl) ?_
  refine lv_iconst (v := (1 : Int32)) hx hb dL_law_515 (by decide) ?_
  refine lv_iadd hx hb dL_law_516 ?_
  refine va_sld hx hb hX hbl hbA hG.2 hi1 dL_law_517 ?_
  refine lv_aload_n hx hb dL_law_518 rfl (lv_at hl 0 rfl) ?_
  refine lv_iload_n hx hb dL_law_519 rfl (lv_at hl 3 rfl) ?_
  refine lv_iconst (v := (2 : Int32)) hx hb dL_law_520 (by decide) ?_
  refine lv_iadd hx hb dL_law_521 ?_
  refine va_sld hx hb hX hbl hbA hG.2 hi2 dL_law_522 ?_
  refine lx_cV (r := (some (.int r))) (rest := [.int r]) (As := [.int (xs ((nI k + (1 : Int32)).toNatClampNeg)), .int (xs ((nI k + (2 : Int32)).toNatClampNeg))]) ⟨hx, hb, hml, hown, hts⟩ (eM_way_cn e2 l g) (cwV 2 hts (gz_V mw_5_113 mw_5_114 mw_5_115 mw_1_11 mw_5_116) rfl rfl rfl hdV_X9_way ⟨Nat.le_of_ble_eq_true rfl, Nat.le_of_ble_eq_true rfl⟩) hK hAg hG (ga_50 g _) rfl rfl rfl hl.1 rfl (Nat.le_of_ble_eq_true rfl) dL_law_523 ⟨Nat.le_of_ble_eq_true rfl, Nat.le_of_ble_eq_true rfl⟩ (fun H locs hG => ?_)
  refine W.eq (g2 := F0 m 526 ls [.int r, .int r]) rfl ?_
  refine lv_icmp_eq (tgt := 1161) hx hb dL_law_526 (by decide) (fun _ => ?_) (fun c9 => absurd rfl c9)
  exact kk σ2 _ _ hI2 hG

set_option maxHeartbeats 4000000 in
set_option maxRecDepth 100000 in
theorem la_109 {p : Program} {l : Launch} {e : Env} {s : State} {m : MethodId} {below : List Frame} {meth : Method} {c : Code} {b L : Nat} {xs : Nat → Int32} (C0 : lw_At p s m meth c b L xs) {g : GC} (hK : g_K g s) (hAg : ∀ q, g_A g q → s.heap.size ≤ q) {k : Nat} (hk : k + 5 ≤ L) (hL : L ≤ 2560) {Inv : St → Prop} {σ : St} (hI : Inv σ) {H : Heap} {locs : List Loc} (hG : LWd g s σ H locs) {ls : Array Slot} (hl : lv_has ls 4 [(0, .ref b), (1, .ref (g.2.1 0)), (2, .ref (g.2.1 50)), (3, .int (nI k))]) (op : ∀ (σ : St) (x1 : Int32), Inv σ → ∃ (r : Int32) (σ1 σ2 : St), eL_many x1 σ r σ1 ∧ eM_many x1 σ1 r σ2 ∧ Inv σ2) (kk : ∀ (σ2 : St) (H : Heap) (locs : List Loc), Inv σ2 → LWd g s σ2 H locs → W p l e room_1 s m #[Value.ref b] below meth c H locs 82 50159 (lw_Z below #[Value.ref b] s) (F0 m 1161 ls [])) : W p l e room_1 s m #[Value.ref b] below meth c H locs 82 50159 (lw_Z below #[Value.ref b] s) (F0 m 531 ls []) := by
  obtain ⟨hx, hb, hr, hml, hown, hts0, hX, hbl, hlocks, hgv⟩ := C0
  have hts : ∀ w ∈ wG, w.before #[Value.ref b] s = true := fun w h => hts0 w (List.mem_filter.mp h).1
  have hbA : ¬ (fun q : Nat => s.heap.size ≤ q) b := Nat.not_le.mpr hbl
  have hi1 : vp_in (nI k + (1 : Int32)) L := la_in (j := 1) rfl (by omega) hL
  have hi2 : vp_in (nI k + (2 : Int32)) L := la_in (j := 2) rfl (by omega) hL
  have hi3 : vp_in (nI k + (3 : Int32)) L := la_in (j := 3) rfl (by omega) hL
  have hi4 : vp_in (nI k + (4 : Int32)) L := la_in (j := 4) rfl (by omega) hL
  refine lv_aload_n hx hb dL_law_531 rfl (lv_at hl 1 rfl) ?_
  refine lv_aload_n hx hb dL_law_532 rfl (lv_at hl 0 rfl) ?_
  refine lv_iload_n hx hb dL_law_533 rfl (lv_at hl 3 rfl) ?_
  refine lv_iconst (v := (1 : Int32)) hx hb dL_law_534 (by decide) ?_
  refine lv_iadd hx hb dL_law_535 ?_
  refine va_sld hx hb hX hbl hbA hG.2 hi1 dL_law_536 ?_
  obtain ⟨r, σ1, σ2, e1, e2, hI2⟩ := op σ (xs ((nI k + (1 : Int32)).toNatClampNeg)) hI
  refine lx_cV (r := (some (.int r))) (rest := []) (As := [.int (xs ((nI k + (1 : Int32)).toNatClampNeg))]) ⟨hx, hb, hml, hown, hts⟩ (eL_many_cn e1 l g) (cwV 1 hts (gz_V mw_3_37 mw_3_38 mw_3_39 mw_1_1 mw_3_40) rfl rfl rfl hdV_X8_many ⟨Nat.le_of_ble_eq_true rfl, Nat.le_of_ble_eq_true rfl⟩) hK hAg hG (ga_0 g _) rfl rfl rfl hl.1 rfl (Nat.le_of_ble_eq_true rfl) dL_law_537 ⟨Nat.le_of_ble_eq_true rfl, Nat.le_of_ble_eq_true rfl⟩ (fun H locs hG => ?_)
  refine W.eq (g2 := F0 m 540 ls [.int r]) rfl ?_
  refine lv_aload_n hx hb dL_law_540 rfl (lv_at hl 2 rfl) ?_
  refine lv_aload_n hx hb dL_law_541 rfl (lv_at hl 0 rfl) ?_
  refine lv_iload_n hx hb dL_law_542 rfl (lv_at hl 3 rfl) ?_
  refine lv_iconst (v := (1 : Int32)) hx hb dL_law_543 (by decide) ?_
  refine lv_iadd hx hb dL_law_544 ?_
  refine va_sld hx hb hX hbl hbA hG.2 hi1 dL_law_545 ?_
  refine lx_cV (r := (some (.int r))) (rest := [.int r]) (As := [.int (xs ((nI k + (1 : Int32)).toNatClampNeg))]) ⟨hx, hb, hml, hown, hts⟩ (eM_many_cn e2 l g) (cwV 1 hts (gz_V mw_5_125 mw_5_126 mw_5_127 mw_1_11 mw_5_128) rfl rfl rfl hdV_X9_many ⟨Nat.le_of_ble_eq_true rfl, Nat.le_of_ble_eq_true rfl⟩) hK hAg hG (ga_50 g _) rfl rfl rfl hl.1 rfl (Nat.le_of_ble_eq_true rfl) dL_law_546 ⟨Nat.le_of_ble_eq_true rfl, Nat.le_of_ble_eq_true rfl⟩ (fun H locs hG => ?_)
  refine W.eq (g2 := F0 m 549 ls [.int r, .int r]) rfl ?_
  refine lv_icmp_eq (tgt := 1161) hx hb dL_law_549 (by decide) (fun _ => ?_) (fun c9 => absurd rfl c9)
  exact kk σ2 _ _ hI2 hG

set_option maxHeartbeats 4000000 in
set_option maxRecDepth 100000 in
theorem la_110 {p : Program} {l : Launch} {e : Env} {s : State} {m : MethodId} {below : List Frame} {meth : Method} {c : Code} {b L : Nat} {xs : Nat → Int32} (C0 : lw_At p s m meth c b L xs) {g : GC} (hK : g_K g s) (hAg : ∀ q, g_A g q → s.heap.size ≤ q) {k : Nat} (hk : k + 5 ≤ L) (hL : L ≤ 2560) {Inv : St → Prop} {σ : St} (hI : Inv σ) {H : Heap} {locs : List Loc} (hG : LWd g s σ H locs) {ls : Array Slot} (hl : lv_has ls 4 [(0, .ref b), (1, .ref (g.2.1 0)), (2, .ref (g.2.1 50)), (3, .int (nI k))]) (op : ∀ (σ : St) (x1 : Int32), Inv σ → ∃ (r : Int32) (σ1 σ2 : St), eL_clash x1 σ r σ1 ∧ eM_clash x1 σ1 r σ2 ∧ Inv σ2) (kk : ∀ (σ2 : St) (H : Heap) (locs : List Loc), Inv σ2 → LWd g s σ2 H locs → W p l e room_1 s m #[Value.ref b] below meth c H locs 82 50159 (lw_Z below #[Value.ref b] s) (F0 m 1161 ls [])) : W p l e room_1 s m #[Value.ref b] below meth c H locs 82 50159 (lw_Z below #[Value.ref b] s) (F0 m 554 ls []) := by
  obtain ⟨hx, hb, hr, hml, hown, hts0, hX, hbl, hlocks, hgv⟩ := C0
  have hts : ∀ w ∈ wG, w.before #[Value.ref b] s = true := fun w h => hts0 w (List.mem_filter.mp h).1
  have hbA : ¬ (fun q : Nat => s.heap.size ≤ q) b := Nat.not_le.mpr hbl
  have hi1 : vp_in (nI k + (1 : Int32)) L := la_in (j := 1) rfl (by omega) hL
  have hi2 : vp_in (nI k + (2 : Int32)) L := la_in (j := 2) rfl (by omega) hL
  have hi3 : vp_in (nI k + (3 : Int32)) L := la_in (j := 3) rfl (by omega) hL
  have hi4 : vp_in (nI k + (4 : Int32)) L := la_in (j := 4) rfl (by omega) hL
  refine lv_aload_n hx hb dL_law_554 rfl (lv_at hl 1 rfl) ?_
  refine lv_aload_n hx hb dL_law_555 rfl (lv_at hl 0 rfl) ?_
  refine lv_iload_n hx hb dL_law_556 rfl (lv_at hl 3 rfl) ?_
  refine lv_iconst (v := (1 : Int32)) hx hb dL_law_557 (by decide) ?_
  refine lv_iadd hx hb dL_law_558 ?_
  refine va_sld hx hb hX hbl hbA hG.2 hi1 dL_law_559 ?_
  obtain ⟨r, σ1, σ2, e1, e2, hI2⟩ := op σ (xs ((nI k + (1 : Int32)).toNatClampNeg)) hI
  refine lx_cV (r := (some (.int r))) (rest := []) (As := [.int (xs ((nI k + (1 : Int32)).toNatClampNeg))]) ⟨hx, hb, hml, hown, hts⟩ (eL_clash_cn e1 l g) (cwV 1 hts (gz_V mw_3_98 mw_3_99 mw_3_100 mw_1_1 mw_3_101) rfl rfl rfl hdV_X8_clash ⟨Nat.le_of_ble_eq_true rfl, Nat.le_of_ble_eq_true rfl⟩) hK hAg hG (ga_0 g _) rfl rfl rfl hl.1 rfl (Nat.le_of_ble_eq_true rfl) dL_law_560 ⟨Nat.le_of_ble_eq_true rfl, Nat.le_of_ble_eq_true rfl⟩ (fun H locs hG => ?_)
  refine W.eq (g2 := F0 m 563 ls [.int r]) rfl ?_
  refine lv_aload_n hx hb dL_law_563 rfl (lv_at hl 2 rfl) ?_
  refine lv_aload_n hx hb dL_law_564 rfl (lv_at hl 0 rfl) ?_
  refine lv_iload_n hx hb dL_law_565 rfl (lv_at hl 3 rfl) ?_
  refine lv_iconst (v := (1 : Int32)) hx hb dL_law_566 (by decide) ?_
  refine lv_iadd hx hb dL_law_567 ?_
  refine va_sld hx hb hX hbl hbA hG.2 hi1 dL_law_568 ?_
  refine lx_cV (r := (some (.int r))) (rest := [.int r]) (As := [.int (xs ((nI k + (1 : Int32)).toNatClampNeg))]) ⟨hx, hb, hml, hown, hts⟩ (eM_clash_cn e2 l g) (cwV 1 hts (gz_V mw_5_173 mw_5_174 mw_5_175 mw_1_11 mw_5_176) rfl rfl rfl hdV_X9_clash ⟨Nat.le_of_ble_eq_true rfl, Nat.le_of_ble_eq_true rfl⟩) hK hAg hG (ga_50 g _) rfl rfl rfl hl.1 rfl (Nat.le_of_ble_eq_true rfl) dL_law_569 ⟨Nat.le_of_ble_eq_true rfl, Nat.le_of_ble_eq_true rfl⟩ (fun H locs hG => ?_)
  refine W.eq (g2 := F0 m 572 ls [.int r, .int r]) rfl ?_
  refine lv_icmp_eq (tgt := 1161) hx hb dL_law_572 (by decide) (fun _ => ?_) (fun c9 => absurd rfl c9)
  exact kk σ2 _ _ hI2 hG

set_option maxHeartbeats 4000000 in
set_option maxRecDepth 100000 in
theorem la_111 {p : Program} {l : Launch} {e : Env} {s : State} {m : MethodId} {below : List Frame} {meth : Method} {c : Code} {b L : Nat} {xs : Nat → Int32} (C0 : lw_At p s m meth c b L xs) {g : GC} (hK : g_K g s) (hAg : ∀ q, g_A g q → s.heap.size ≤ q) {k : Nat} (hk : k + 5 ≤ L) (hL : L ≤ 2560) {Inv : St → Prop} {σ : St} (hI : Inv σ) {H : Heap} {locs : List Loc} (hG : LWd g s σ H locs) {ls : Array Slot} (hl : lv_has ls 4 [(0, .ref b), (1, .ref (g.2.1 0)), (2, .ref (g.2.1 50)), (3, .int (nI k))]) (op : ∀ (σ : St) (x1 x2 : Int32), Inv σ → ∃ (r : Int32) (σ1 σ2 : St), eL_table x1 x2 σ r σ1 ∧ eM_table x1 x2 σ1 r σ2 ∧ Inv σ2) (kk : ∀ (σ2 : St) (H : Heap) (locs : List Loc), Inv σ2 → LWd g s σ2 H locs → W p l e room_1 s m #[Value.ref b] below meth c H locs 82 50159 (lw_Z below #[Value.ref b] s) (F0 m 1161 ls [])) : W p l e room_1 s m #[Value.ref b] below meth c H locs 82 50159 (lw_Z below #[Value.ref b] s) (F0 m 577 ls []) := by
  obtain ⟨hx, hb, hr, hml, hown, hts0, hX, hbl, hlocks, hgv⟩ := C0
  have hts : ∀ w ∈ wG, w.before #[Value.ref b] s = true := fun w h => hts0 w (List.mem_filter.mp h).1
  have hbA : ¬ (fun q : Nat => s.heap.size ≤ q) b := Nat.not_le.mpr hbl
  have hi1 : vp_in (nI k + (1 : Int32)) L := la_in (j := 1) rfl (by omega) hL
  have hi2 : vp_in (nI k + (2 : Int32)) L := la_in (j := 2) rfl (by omega) hL
  have hi3 : vp_in (nI k + (3 : Int32)) L := la_in (j := 3) rfl (by omega) hL
  have hi4 : vp_in (nI k + (4 : Int32)) L := la_in (j := 4) rfl (by omega) hL
  refine lv_aload_n hx hb dL_law_577 rfl (lv_at hl 1 rfl) ?_
  refine lv_aload_n hx hb dL_law_578 rfl (lv_at hl 0 rfl) ?_
  refine lv_iload_n hx hb dL_law_579 rfl (lv_at hl 3 rfl) ?_
  refine lv_iconst (v := (1 : Int32)) hx hb dL_law_580 (by decide) ?_
  refine lv_iadd hx hb dL_law_581 ?_
  refine va_sld hx hb hX hbl hbA hG.2 hi1 dL_law_582 ?_
  refine lv_aload_n hx hb dL_law_583 rfl (lv_at hl 0 rfl) ?_
  refine lv_iload_n hx hb dL_law_584 rfl (lv_at hl 3 rfl) ?_
  refine lv_iconst (v := (2 : Int32)) hx hb dL_law_585 (by decide) ?_
  refine lv_iadd hx hb dL_law_586 ?_
  refine va_sld hx hb hX hbl hbA hG.2 hi2 dL_law_587 ?_
  obtain ⟨r, σ1, σ2, e1, e2, hI2⟩ := op σ (xs ((nI k + (1 : Int32)).toNatClampNeg)) (xs ((nI k + (2 : Int32)).toNatClampNeg)) hI
  refine lx_cV (r := (some (.int r))) (rest := []) (As := [.int (xs ((nI k + (1 : Int32)).toNatClampNeg)), .int (xs ((nI k + (2 : Int32)).toNatClampNeg))]) ⟨hx, hb, hml, hown, hts⟩ (eL_table_cn e1 l g) (cwV 2 hts (gz_V mw_3_102 mw_3_103 mw_3_104 mw_1_1 mw_3_105) rfl rfl rfl hdV_X8_table ⟨Nat.le_of_ble_eq_true rfl, Nat.le_of_ble_eq_true rfl⟩) hK hAg hG (ga_0 g _) rfl rfl rfl hl.1 rfl (Nat.le_of_ble_eq_true rfl) dL_law_588 ⟨Nat.le_of_ble_eq_true rfl, Nat.le_of_ble_eq_true rfl⟩ (fun H locs hG => ?_)
  refine W.eq (g2 := F0 m 591 ls [.int r]) rfl ?_
  refine lv_aload_n hx hb dL_law_591 rfl (lv_at hl 2 rfl) ?_
  refine lv_aload_n hx hb dL_law_592 rfl (lv_at hl 0 rfl) ?_
  refine lv_iload_n hx hb dL_law_593 rfl (lv_at hl 3 rfl) ?_
  refine lv_iconst (v := (1 : Int32)) hx hb dL_law_594 (by decide) ?_
  refine lv_iadd hx hb dL_law_595 ?_
  refine va_sld hx hb hX hbl hbA hG.2 hi1 dL_law_596 ?_
  refine lv_aload_n hx hb dL_law_597 rfl (lv_at hl 0 rfl) ?_
  refine lv_iload_n hx hb dL_law_598 rfl (lv_at hl 3 rfl) ?_
  refine lv_iconst (v := (2 : Int32)) hx hb dL_law_599 (by decide) ?_
  refine lv_iadd hx hb dL_law_600 ?_
  refine va_sld hx hb hX hbl hbA hG.2 hi2 dL_law_601 ?_
  refine lx_cV (r := (some (.int r))) (rest := [.int r]) (As := [.int (xs ((nI k + (1 : Int32)).toNatClampNeg)), .int (xs ((nI k + (2 : Int32)).toNatClampNeg))]) ⟨hx, hb, hml, hown, hts⟩ (eM_table_cn e2 l g) (cwV 2 hts (gz_V mw_5_177 mw_5_178 mw_5_179 mw_1_11 mw_5_180) rfl rfl rfl hdV_X9_table ⟨Nat.le_of_ble_eq_true rfl, Nat.le_of_ble_eq_true rfl⟩) hK hAg hG (ga_50 g _) rfl rfl rfl hl.1 rfl (Nat.le_of_ble_eq_true rfl) dL_law_602 ⟨Nat.le_of_ble_eq_true rfl, Nat.le_of_ble_eq_true rfl⟩ (fun H locs hG => ?_)
  refine W.eq (g2 := F0 m 605 ls [.int r, .int r]) rfl ?_
  refine lv_icmp_eq (tgt := 1161) hx hb dL_law_605 (by decide) (fun _ => ?_) (fun c9 => absurd rfl c9)
  exact kk σ2 _ _ hI2 hG

set_option maxHeartbeats 4000000 in
set_option maxRecDepth 100000 in
theorem la_112 {p : Program} {l : Launch} {e : Env} {s : State} {m : MethodId} {below : List Frame} {meth : Method} {c : Code} {b L : Nat} {xs : Nat → Int32} (C0 : lw_At p s m meth c b L xs) {g : GC} (hK : g_K g s) (hAg : ∀ q, g_A g q → s.heap.size ≤ q) {k : Nat} (hk : k + 5 ≤ L) (hL : L ≤ 2560) {Inv : St → Prop} {σ : St} (hI : Inv σ) {H : Heap} {locs : List Loc} (hG : LWd g s σ H locs) {ls : Array Slot} (hl : lv_has ls 4 [(0, .ref b), (1, .ref (g.2.1 0)), (2, .ref (g.2.1 50)), (3, .int (nI k))]) (op : ∀ (σ : St) (x1 x2 x3 x4 : Int32), Inv σ → ∃ (r : Int32) (σ1 σ2 : St), eL_thirds x1 x2 x3 x4 σ r σ1 ∧ eM_thirds x1 x2 x3 x4 σ1 r σ2 ∧ Inv σ2) (kk : ∀ (σ2 : St) (H : Heap) (locs : List Loc), Inv σ2 → LWd g s σ2 H locs → W p l e room_1 s m #[Value.ref b] below meth c H locs 82 50159 (lw_Z below #[Value.ref b] s) (F0 m 1161 ls [])) : W p l e room_1 s m #[Value.ref b] below meth c H locs 82 50159 (lw_Z below #[Value.ref b] s) (F0 m 610 ls []) := by
  obtain ⟨hx, hb, hr, hml, hown, hts0, hX, hbl, hlocks, hgv⟩ := C0
  have hts : ∀ w ∈ wG, w.before #[Value.ref b] s = true := fun w h => hts0 w (List.mem_filter.mp h).1
  have hbA : ¬ (fun q : Nat => s.heap.size ≤ q) b := Nat.not_le.mpr hbl
  have hi1 : vp_in (nI k + (1 : Int32)) L := la_in (j := 1) rfl (by omega) hL
  have hi2 : vp_in (nI k + (2 : Int32)) L := la_in (j := 2) rfl (by omega) hL
  have hi3 : vp_in (nI k + (3 : Int32)) L := la_in (j := 3) rfl (by omega) hL
  have hi4 : vp_in (nI k + (4 : Int32)) L := la_in (j := 4) rfl (by omega) hL
  refine lv_aload_n hx hb dL_law_610 rfl (lv_at hl 1 rfl) ?_
  refine lv_aload_n hx hb dL_law_611 rfl (lv_at hl 0 rfl) ?_
  refine lv_iload_n hx hb dL_law_612 rfl (lv_at hl 3 rfl) ?_
  refine lv_iconst (v := (1 : Int32)) hx hb dL_law_613 (by decide) ?_
  refine lv_iadd hx hb dL_law_614 ?_
  refine va_sld hx hb hX hbl hbA hG.2 hi1 dL_law_615 ?_
  refine lv_aload_n hx hb dL_law_616 rfl (lv_at hl 0 rfl) ?_
  refine lv_iload_n hx hb dL_law_617 rfl (lv_at hl 3 rfl) ?_
  refine lv_iconst (v := (2 : Int32)) hx hb dL_law_618 (by decide) ?_
  refine lv_iadd hx hb dL_law_619 ?_
  refine va_sld hx hb hX hbl hbA hG.2 hi2 dL_law_620 ?_
  refine lv_aload_n hx hb dL_law_621 rfl (lv_at hl 0 rfl) ?_
  refine lv_iload_n hx hb dL_law_622 rfl (lv_at hl 3 rfl) ?_
  refine lv_iconst (v := (3 : Int32)) hx hb dL_law_623 (by decide) ?_
  refine lv_iadd hx hb dL_law_624 ?_
  refine va_sld hx hb hX hbl hbA hG.2 hi3 dL_law_625 ?_
  refine lv_aload_n hx hb dL_law_626 rfl (lv_at hl 0 rfl) ?_
  refine lv_iload_n hx hb dL_law_627 rfl (lv_at hl 3 rfl) ?_
  refine lv_iconst (v := (4 : Int32)) hx hb dL_law_628 (by decide) ?_
  refine lv_iadd hx hb dL_law_629 ?_
  refine va_sld hx hb hX hbl hbA hG.2 hi4 dL_law_630 ?_
  obtain ⟨r, σ1, σ2, e1, e2, hI2⟩ := op σ (xs ((nI k + (1 : Int32)).toNatClampNeg)) (xs ((nI k + (2 : Int32)).toNatClampNeg)) (xs ((nI k + (3 : Int32)).toNatClampNeg)) (xs ((nI k + (4 : Int32)).toNatClampNeg)) hI
  refine lx_cV (r := (some (.int r))) (rest := []) (As := [.int (xs ((nI k + (1 : Int32)).toNatClampNeg)), .int (xs ((nI k + (2 : Int32)).toNatClampNeg)), .int (xs ((nI k + (3 : Int32)).toNatClampNeg)), .int (xs ((nI k + (4 : Int32)).toNatClampNeg))]) ⟨hx, hb, hml, hown, hts⟩ (eL_thirds_cn e1 l g) (cwV 4 hts (gz_V mw_3_107 mw_3_108 mw_3_109 mw_1_1 mw_3_110) rfl rfl rfl hdV_X8_thirds ⟨Nat.le_of_ble_eq_true rfl, Nat.le_of_ble_eq_true rfl⟩) hK hAg hG (ga_0 g _) rfl rfl rfl hl.1 rfl (Nat.le_of_ble_eq_true rfl) dL_law_631 ⟨Nat.le_of_ble_eq_true rfl, Nat.le_of_ble_eq_true rfl⟩ (fun H locs hG => ?_)
  refine W.eq (g2 := F0 m 634 ls [.int r]) rfl ?_
  refine lv_aload_n hx hb dL_law_634 rfl (lv_at hl 2 rfl) ?_
  refine lv_aload_n hx hb dL_law_635 rfl (lv_at hl 0 rfl) ?_
  refine lv_iload_n hx hb dL_law_636 rfl (lv_at hl 3 rfl) ?_
  refine lv_iconst (v := (1 : Int32)) hx hb dL_law_637 (by decide) ?_
  refine lv_iadd hx hb dL_law_638 ?_
  refine va_sld hx hb hX hbl hbA hG.2 hi1 dL_law_639 ?_
  refine lv_aload_n hx hb dL_law_640 rfl (lv_at hl 0 rfl) ?_
  refine lv_iload_n hx hb dL_law_641 rfl (lv_at hl 3 rfl) ?_
  refine lv_iconst (v := (2 : Int32)) hx hb dL_law_642 (by decide) ?_
  refine lv_iadd hx hb dL_law_643 ?_
  refine va_sld hx hb hX hbl hbA hG.2 hi2 dL_law_644 ?_
  refine lv_aload_n hx hb dL_law_645 rfl (lv_at hl 0 rfl) ?_
  refine lv_iload_n hx hb dL_law_646 rfl (lv_at hl 3 rfl) ?_
  refine lv_iconst (v := (3 : Int32)) hx hb dL_law_647 (by decide) ?_
  refine lv_iadd hx hb dL_law_648 ?_
  refine va_sld hx hb hX hbl hbA hG.2 hi3 dL_law_649 ?_
  refine lv_aload_n hx hb dL_law_650 rfl (lv_at hl 0 rfl) ?_
  refine lv_iload_n hx hb dL_law_651 rfl (lv_at hl 3 rfl) ?_
  refine lv_iconst (v := (4 : Int32)) hx hb dL_law_652 (by decide) ?_
  refine lv_iadd hx hb dL_law_653 ?_
  refine va_sld hx hb hX hbl hbA hG.2 hi4 dL_law_654 ?_
  refine lx_cV (r := (some (.int r))) (rest := [.int r]) (As := [.int (xs ((nI k + (1 : Int32)).toNatClampNeg)), .int (xs ((nI k + (2 : Int32)).toNatClampNeg)), .int (xs ((nI k + (3 : Int32)).toNatClampNeg)), .int (xs ((nI k + (4 : Int32)).toNatClampNeg))]) ⟨hx, hb, hml, hown, hts⟩ (eM_thirds_cn e2 l g) (cwV 4 hts (gz_V mw_5_185 mw_5_186 mw_5_187 mw_1_11 mw_5_188) rfl rfl rfl hdV_X9_thirds ⟨Nat.le_of_ble_eq_true rfl, Nat.le_of_ble_eq_true rfl⟩) hK hAg hG (ga_50 g _) rfl rfl rfl hl.1 rfl (Nat.le_of_ble_eq_true rfl) dL_law_655 ⟨Nat.le_of_ble_eq_true rfl, Nat.le_of_ble_eq_true rfl⟩ (fun H locs hG => ?_)
  refine W.eq (g2 := F0 m 658 ls [.int r, .int r]) rfl ?_
  refine lv_icmp_eq (tgt := 1161) hx hb dL_law_658 (by decide) (fun _ => ?_) (fun c9 => absurd rfl c9)
  exact kk σ2 _ _ hI2 hG

set_option maxHeartbeats 4000000 in
set_option maxRecDepth 100000 in
theorem la_113 {p : Program} {l : Launch} {e : Env} {s : State} {m : MethodId} {below : List Frame} {meth : Method} {c : Code} {b L : Nat} {xs : Nat → Int32} (C0 : lw_At p s m meth c b L xs) {g : GC} (hK : g_K g s) (hAg : ∀ q, g_A g q → s.heap.size ≤ q) {k : Nat} (hk : k + 5 ≤ L) (hL : L ≤ 2560) {Inv : St → Prop} {σ : St} (hI : Inv σ) {H : Heap} {locs : List Loc} (hG : LWd g s σ H locs) {ls : Array Slot} (hl : lv_has ls 4 [(0, .ref b), (1, .ref (g.2.1 0)), (2, .ref (g.2.1 50)), (3, .int (nI k))]) (op : ∀ (σ : St) (x1 : Int32), Inv σ → ∃ (r : Int32) (σ1 σ2 : St), eL_tell x1 σ r σ1 ∧ eM_tell x1 σ1 r σ2 ∧ Inv σ2) (kk : ∀ (σ2 : St) (H : Heap) (locs : List Loc), Inv σ2 → LWd g s σ2 H locs → W p l e room_1 s m #[Value.ref b] below meth c H locs 82 50159 (lw_Z below #[Value.ref b] s) (F0 m 1161 ls [])) : W p l e room_1 s m #[Value.ref b] below meth c H locs 82 50159 (lw_Z below #[Value.ref b] s) (F0 m 663 ls []) := by
  obtain ⟨hx, hb, hr, hml, hown, hts0, hX, hbl, hlocks, hgv⟩ := C0
  have hts : ∀ w ∈ wG, w.before #[Value.ref b] s = true := fun w h => hts0 w (List.mem_filter.mp h).1
  have hbA : ¬ (fun q : Nat => s.heap.size ≤ q) b := Nat.not_le.mpr hbl
  have hi1 : vp_in (nI k + (1 : Int32)) L := la_in (j := 1) rfl (by omega) hL
  have hi2 : vp_in (nI k + (2 : Int32)) L := la_in (j := 2) rfl (by omega) hL
  have hi3 : vp_in (nI k + (3 : Int32)) L := la_in (j := 3) rfl (by omega) hL
  have hi4 : vp_in (nI k + (4 : Int32)) L := la_in (j := 4) rfl (by omega) hL
  refine lv_aload_n hx hb dL_law_663 rfl (lv_at hl 1 rfl) ?_
  refine lv_aload_n hx hb dL_law_664 rfl (lv_at hl 0 rfl) ?_
  refine lv_iload_n hx hb dL_law_665 rfl (lv_at hl 3 rfl) ?_
  refine lv_iconst (v := (1 : Int32)) hx hb dL_law_666 (by decide) ?_
  refine lv_iadd hx hb dL_law_667 ?_
  refine va_sld hx hb hX hbl hbA hG.2 hi1 dL_law_668 ?_
  obtain ⟨r, σ1, σ2, e1, e2, hI2⟩ := op σ (xs ((nI k + (1 : Int32)).toNatClampNeg)) hI
  refine lx_cV (r := (some (.int r))) (rest := []) (As := [.int (xs ((nI k + (1 : Int32)).toNatClampNeg))]) ⟨hx, hb, hml, hown, hts⟩ (eL_tell_cn e1 l g) (cwV 1 hts (gz_V mw_3_111 mw_3_112 mw_3_113 mw_1_1 mw_3_114) rfl rfl rfl hdV_X8_tell ⟨Nat.le_of_ble_eq_true rfl, Nat.le_of_ble_eq_true rfl⟩) hK hAg hG (ga_0 g _) rfl rfl rfl hl.1 rfl (Nat.le_of_ble_eq_true rfl) dL_law_669 ⟨Nat.le_of_ble_eq_true rfl, Nat.le_of_ble_eq_true rfl⟩ (fun H locs hG => ?_)
  refine W.eq (g2 := F0 m 672 ls [.int r]) rfl ?_
  refine lv_aload_n hx hb dL_law_672 rfl (lv_at hl 2 rfl) ?_
  refine lv_aload_n hx hb dL_law_673 rfl (lv_at hl 0 rfl) ?_
  refine lv_iload_n hx hb dL_law_674 rfl (lv_at hl 3 rfl) ?_
  refine lv_iconst (v := (1 : Int32)) hx hb dL_law_675 (by decide) ?_
  refine lv_iadd hx hb dL_law_676 ?_
  refine va_sld hx hb hX hbl hbA hG.2 hi1 dL_law_677 ?_
  refine lx_cV (r := (some (.int r))) (rest := [.int r]) (As := [.int (xs ((nI k + (1 : Int32)).toNatClampNeg))]) ⟨hx, hb, hml, hown, hts⟩ (eM_tell_cn e2 l g) (cwV 1 hts (gz_V mw_5_189 mw_5_190 mw_5_191 mw_1_11 mw_5_192) rfl rfl rfl hdV_X9_tell ⟨Nat.le_of_ble_eq_true rfl, Nat.le_of_ble_eq_true rfl⟩) hK hAg hG (ga_50 g _) rfl rfl rfl hl.1 rfl (Nat.le_of_ble_eq_true rfl) dL_law_678 ⟨Nat.le_of_ble_eq_true rfl, Nat.le_of_ble_eq_true rfl⟩ (fun H locs hG => ?_)
  refine W.eq (g2 := F0 m 681 ls [.int r, .int r]) rfl ?_
  refine lv_icmp_eq (tgt := 1161) hx hb dL_law_681 (by decide) (fun _ => ?_) (fun c9 => absurd rfl c9)
  exact kk σ2 _ _ hI2 hG

set_option maxHeartbeats 4000000 in
set_option maxRecDepth 100000 in
theorem la_114 {p : Program} {l : Launch} {e : Env} {s : State} {m : MethodId} {below : List Frame} {meth : Method} {c : Code} {b L : Nat} {xs : Nat → Int32} (C0 : lw_At p s m meth c b L xs) {g : GC} (hK : g_K g s) (hAg : ∀ q, g_A g q → s.heap.size ≤ q) {k : Nat} (hk : k + 5 ≤ L) (hL : L ≤ 2560) {Inv : St → Prop} {σ : St} (hI : Inv σ) {H : Heap} {locs : List Loc} (hG : LWd g s σ H locs) {ls : Array Slot} (hl : lv_has ls 4 [(0, .ref b), (1, .ref (g.2.1 0)), (2, .ref (g.2.1 50)), (3, .int (nI k))]) (op : ∀ (σ : St) (x1 x2 x3 : Int32), Inv σ → ∃ (r : Int32) (σ1 σ2 : St), eL_put x1 x2 x3 σ r σ1 ∧ eM_put x1 x2 x3 σ1 r σ2 ∧ Inv σ2) (kk : ∀ (σ2 : St) (H : Heap) (locs : List Loc), Inv σ2 → LWd g s σ2 H locs → W p l e room_1 s m #[Value.ref b] below meth c H locs 82 50159 (lw_Z below #[Value.ref b] s) (F0 m 1161 ls [])) : W p l e room_1 s m #[Value.ref b] below meth c H locs 82 50159 (lw_Z below #[Value.ref b] s) (F0 m 686 ls []) := by
  obtain ⟨hx, hb, hr, hml, hown, hts0, hX, hbl, hlocks, hgv⟩ := C0
  have hts : ∀ w ∈ wG, w.before #[Value.ref b] s = true := fun w h => hts0 w (List.mem_filter.mp h).1
  have hbA : ¬ (fun q : Nat => s.heap.size ≤ q) b := Nat.not_le.mpr hbl
  have hi1 : vp_in (nI k + (1 : Int32)) L := la_in (j := 1) rfl (by omega) hL
  have hi2 : vp_in (nI k + (2 : Int32)) L := la_in (j := 2) rfl (by omega) hL
  have hi3 : vp_in (nI k + (3 : Int32)) L := la_in (j := 3) rfl (by omega) hL
  have hi4 : vp_in (nI k + (4 : Int32)) L := la_in (j := 4) rfl (by omega) hL
  refine lv_aload_n hx hb dL_law_686 rfl (lv_at hl 1 rfl) ?_
  refine lv_aload_n hx hb dL_law_687 rfl (lv_at hl 0 rfl) ?_
  refine lv_iload_n hx hb dL_law_688 rfl (lv_at hl 3 rfl) ?_
  refine lv_iconst (v := (1 : Int32)) hx hb dL_law_689 (by decide) ?_
  refine lv_iadd hx hb dL_law_690 ?_
  refine va_sld hx hb hX hbl hbA hG.2 hi1 dL_law_691 ?_
  refine lv_aload_n hx hb dL_law_692 rfl (lv_at hl 0 rfl) ?_
  refine lv_iload_n hx hb dL_law_693 rfl (lv_at hl 3 rfl) ?_
  refine lv_iconst (v := (2 : Int32)) hx hb dL_law_694 (by decide) ?_
  refine lv_iadd hx hb dL_law_695 ?_
  refine va_sld hx hb hX hbl hbA hG.2 hi2 dL_law_696 ?_
  refine lv_aload_n hx hb dL_law_697 rfl (lv_at hl 0 rfl) ?_
  refine lv_iload_n hx hb dL_law_698 rfl (lv_at hl 3 rfl) ?_
  refine lv_iconst (v := (3 : Int32)) hx hb dL_law_699 (by decide) ?_
  refine lv_iadd hx hb dL_law_700 ?_
  refine va_sld hx hb hX hbl hbA hG.2 hi3 dL_law_701 ?_
  obtain ⟨r, σ1, σ2, e1, e2, hI2⟩ := op σ (xs ((nI k + (1 : Int32)).toNatClampNeg)) (xs ((nI k + (2 : Int32)).toNatClampNeg)) (xs ((nI k + (3 : Int32)).toNatClampNeg)) hI
  refine lx_cV (r := (some (.int r))) (rest := []) (As := [.int (xs ((nI k + (1 : Int32)).toNatClampNeg)), .int (xs ((nI k + (2 : Int32)).toNatClampNeg)), .int (xs ((nI k + (3 : Int32)).toNatClampNeg))]) ⟨hx, hb, hml, hown, hts⟩ (eL_put_cn e1 l g) (cwV 3 hts (gz_V mw_3_116 mw_3_117 mw_3_118 mw_1_1 mw_3_119) rfl rfl rfl hdV_X8_put ⟨Nat.le_of_ble_eq_true rfl, Nat.le_of_ble_eq_true rfl⟩) hK hAg hG (ga_0 g _) rfl rfl rfl hl.1 rfl (Nat.le_of_ble_eq_true rfl) dL_law_702 ⟨Nat.le_of_ble_eq_true rfl, Nat.le_of_ble_eq_true rfl⟩ (fun H locs hG => ?_)
  refine W.eq (g2 := F0 m 705 ls [.int r]) rfl ?_
  refine lv_aload_n hx hb dL_law_705 rfl (lv_at hl 2 rfl) ?_
  refine lv_aload_n hx hb dL_law_706 rfl (lv_at hl 0 rfl) ?_
  refine lv_iload_n hx hb dL_law_707 rfl (lv_at hl 3 rfl) ?_
  refine lv_iconst (v := (1 : Int32)) hx hb dL_law_708 (by decide) ?_
  refine lv_iadd hx hb dL_law_709 ?_
  refine va_sld hx hb hX hbl hbA hG.2 hi1 dL_law_710 ?_
  refine lv_aload_n hx hb dL_law_711 rfl (lv_at hl 0 rfl) ?_
  refine lv_iload_n hx hb dL_law_712 rfl (lv_at hl 3 rfl) ?_
  refine lv_iconst (v := (2 : Int32)) hx hb dL_law_713 (by decide) ?_
  refine lv_iadd hx hb dL_law_714 ?_
  refine va_sld hx hb hX hbl hbA hG.2 hi2 dL_law_715 ?_
  refine lv_aload_n hx hb dL_law_716 rfl (lv_at hl 0 rfl) ?_
  refine lv_iload_n hx hb dL_law_717 rfl (lv_at hl 3 rfl) ?_
  refine lv_iconst (v := (3 : Int32)) hx hb dL_law_718 (by decide) ?_
  refine lv_iadd hx hb dL_law_719 ?_
  refine va_sld hx hb hX hbl hbA hG.2 hi3 dL_law_720 ?_
  refine lx_cV (r := (some (.int r))) (rest := [.int r]) (As := [.int (xs ((nI k + (1 : Int32)).toNatClampNeg)), .int (xs ((nI k + (2 : Int32)).toNatClampNeg)), .int (xs ((nI k + (3 : Int32)).toNatClampNeg))]) ⟨hx, hb, hml, hown, hts⟩ (eM_put_cn e2 l g) (cwV 3 hts (gz_V mw_5_194 mw_5_195 mw_5_196 mw_1_11 mw_5_197) rfl rfl rfl hdV_X9_put ⟨Nat.le_of_ble_eq_true rfl, Nat.le_of_ble_eq_true rfl⟩) hK hAg hG (ga_50 g _) rfl rfl rfl hl.1 rfl (Nat.le_of_ble_eq_true rfl) dL_law_721 ⟨Nat.le_of_ble_eq_true rfl, Nat.le_of_ble_eq_true rfl⟩ (fun H locs hG => ?_)
  refine W.eq (g2 := F0 m 724 ls [.int r, .int r]) rfl ?_
  refine lv_icmp_eq (tgt := 1161) hx hb dL_law_724 (by decide) (fun _ => ?_) (fun c9 => absurd rfl c9)
  exact kk σ2 _ _ hI2 hG

set_option maxHeartbeats 4000000 in
set_option maxRecDepth 100000 in
theorem la_115 {p : Program} {l : Launch} {e : Env} {s : State} {m : MethodId} {below : List Frame} {meth : Method} {c : Code} {b L : Nat} {xs : Nat → Int32} (C0 : lw_At p s m meth c b L xs) {g : GC} (hK : g_K g s) (hAg : ∀ q, g_A g q → s.heap.size ≤ q) {k : Nat} (hk : k + 5 ≤ L) (hL : L ≤ 2560) {Inv : St → Prop} {σ : St} (hI : Inv σ) {H : Heap} {locs : List Loc} (hG : LWd g s σ H locs) {ls : Array Slot} (hl : lv_has ls 4 [(0, .ref b), (1, .ref (g.2.1 0)), (2, .ref (g.2.1 50)), (3, .int (nI k))]) (op : ∀ (σ : St), Inv σ → ∃ (r : Int32) (σ1 σ2 : St), eL_take σ r σ1 ∧ eM_take σ1 r σ2 ∧ Inv σ2) (kk : ∀ (σ2 : St) (H : Heap) (locs : List Loc), Inv σ2 → LWd g s σ2 H locs → W p l e room_1 s m #[Value.ref b] below meth c H locs 82 50159 (lw_Z below #[Value.ref b] s) (F0 m 1161 ls [])) : W p l e room_1 s m #[Value.ref b] below meth c H locs 82 50159 (lw_Z below #[Value.ref b] s) (F0 m 729 ls []) := by
  obtain ⟨hx, hb, hr, hml, hown, hts0, hX, hbl, hlocks, hgv⟩ := C0
  have hts : ∀ w ∈ wG, w.before #[Value.ref b] s = true := fun w h => hts0 w (List.mem_filter.mp h).1
  have hbA : ¬ (fun q : Nat => s.heap.size ≤ q) b := Nat.not_le.mpr hbl
  have hi1 : vp_in (nI k + (1 : Int32)) L := la_in (j := 1) rfl (by omega) hL
  have hi2 : vp_in (nI k + (2 : Int32)) L := la_in (j := 2) rfl (by omega) hL
  have hi3 : vp_in (nI k + (3 : Int32)) L := la_in (j := 3) rfl (by omega) hL
  have hi4 : vp_in (nI k + (4 : Int32)) L := la_in (j := 4) rfl (by omega) hL
  refine lv_aload_n hx hb dL_law_729 rfl (lv_at hl 1 rfl) ?_
  obtain ⟨r, σ1, σ2, e1, e2, hI2⟩ := op σ hI
  refine lx_cV (r := (some (.int r))) (rest := []) (As := []) ⟨hx, hb, hml, hown, hts⟩ (eL_take_cn e1 l g) (cwV 0 hts (gz_V mw_3_128 mw_3_129 mw_3_130 mw_1_1 mw_3_131) rfl rfl rfl hdV_X8_take ⟨Nat.le_of_ble_eq_true rfl, Nat.le_of_ble_eq_true rfl⟩) hK hAg hG (ga_0 g _) rfl rfl rfl hl.1 rfl (Nat.le_of_ble_eq_true rfl) dL_law_730 ⟨Nat.le_of_ble_eq_true rfl, Nat.le_of_ble_eq_true rfl⟩ (fun H locs hG => ?_)
  refine W.eq (g2 := F0 m 733 ls [.int r]) rfl ?_
  refine lv_aload_n hx hb dL_law_733 rfl (lv_at hl 2 rfl) ?_
  refine lx_cV (r := (some (.int r))) (rest := [.int r]) (As := []) ⟨hx, hb, hml, hown, hts⟩ (eM_take_cn e2 l g) (cwV 0 hts (gz_V mw_5_199 mw_5_200 mw_5_201 mw_1_11 mw_5_202) rfl rfl rfl hdV_X9_take ⟨Nat.le_of_ble_eq_true rfl, Nat.le_of_ble_eq_true rfl⟩) hK hAg hG (ga_50 g _) rfl rfl rfl hl.1 rfl (Nat.le_of_ble_eq_true rfl) dL_law_734 ⟨Nat.le_of_ble_eq_true rfl, Nat.le_of_ble_eq_true rfl⟩ (fun H locs hG => ?_)
  refine W.eq (g2 := F0 m 737 ls [.int r, .int r]) rfl ?_
  refine lv_icmp_eq (tgt := 1161) hx hb dL_law_737 (by decide) (fun _ => ?_) (fun c9 => absurd rfl c9)
  exact kk σ2 _ _ hI2 hG

set_option maxHeartbeats 4000000 in
set_option maxRecDepth 100000 in
theorem la_116 {p : Program} {l : Launch} {e : Env} {s : State} {m : MethodId} {below : List Frame} {meth : Method} {c : Code} {b L : Nat} {xs : Nat → Int32} (C0 : lw_At p s m meth c b L xs) {g : GC} (hK : g_K g s) (hAg : ∀ q, g_A g q → s.heap.size ≤ q) {k : Nat} (hk : k + 5 ≤ L) (hL : L ≤ 2560) {Inv : St → Prop} {σ : St} (hI : Inv σ) {H : Heap} {locs : List Loc} (hG : LWd g s σ H locs) {ls : Array Slot} (hl : lv_has ls 4 [(0, .ref b), (1, .ref (g.2.1 0)), (2, .ref (g.2.1 50)), (3, .int (nI k))]) (op : ∀ (σ : St), Inv σ → ∃ (r : Int32) (σ1 σ2 : St), eL_can σ r σ1 ∧ eM_can σ1 r σ2 ∧ Inv σ2) (kk : ∀ (σ2 : St) (H : Heap) (locs : List Loc), Inv σ2 → LWd g s σ2 H locs → W p l e room_1 s m #[Value.ref b] below meth c H locs 82 50159 (lw_Z below #[Value.ref b] s) (F0 m 1161 ls [])) : W p l e room_1 s m #[Value.ref b] below meth c H locs 82 50159 (lw_Z below #[Value.ref b] s) (F0 m 742 ls []) := by
  obtain ⟨hx, hb, hr, hml, hown, hts0, hX, hbl, hlocks, hgv⟩ := C0
  have hts : ∀ w ∈ wG, w.before #[Value.ref b] s = true := fun w h => hts0 w (List.mem_filter.mp h).1
  have hbA : ¬ (fun q : Nat => s.heap.size ≤ q) b := Nat.not_le.mpr hbl
  have hi1 : vp_in (nI k + (1 : Int32)) L := la_in (j := 1) rfl (by omega) hL
  have hi2 : vp_in (nI k + (2 : Int32)) L := la_in (j := 2) rfl (by omega) hL
  have hi3 : vp_in (nI k + (3 : Int32)) L := la_in (j := 3) rfl (by omega) hL
  have hi4 : vp_in (nI k + (4 : Int32)) L := la_in (j := 4) rfl (by omega) hL
  refine lv_aload_n hx hb dL_law_742 rfl (lv_at hl 1 rfl) ?_
  obtain ⟨r, σ1, σ2, e1, e2, hI2⟩ := op σ hI
  refine lx_cV (r := (some (.int r))) (rest := []) (As := []) ⟨hx, hb, hml, hown, hts⟩ (eL_can_cn e1 l g) (cwV 0 hts (gz_V mw_3_136 mw_3_137 mw_3_138 mw_1_1 mw_3_139) rfl rfl rfl hdV_X8_can ⟨Nat.le_of_ble_eq_true rfl, Nat.le_of_ble_eq_true rfl⟩) hK hAg hG (ga_0 g _) rfl rfl rfl hl.1 rfl (Nat.le_of_ble_eq_true rfl) dL_law_743 ⟨Nat.le_of_ble_eq_true rfl, Nat.le_of_ble_eq_true rfl⟩ (fun H locs hG => ?_)
  refine W.eq (g2 := F0 m 746 ls [.int r]) rfl ?_
  refine lv_aload_n hx hb dL_law_746 rfl (lv_at hl 2 rfl) ?_
  refine lx_cV (r := (some (.int r))) (rest := [.int r]) (As := []) ⟨hx, hb, hml, hown, hts⟩ (eM_can_cn e2 l g) (cwV 0 hts (gz_V mw_5_204 mw_5_205 mw_5_206 mw_1_11 mw_5_207) rfl rfl rfl hdV_X9_can ⟨Nat.le_of_ble_eq_true rfl, Nat.le_of_ble_eq_true rfl⟩) hK hAg hG (ga_50 g _) rfl rfl rfl hl.1 rfl (Nat.le_of_ble_eq_true rfl) dL_law_747 ⟨Nat.le_of_ble_eq_true rfl, Nat.le_of_ble_eq_true rfl⟩ (fun H locs hG => ?_)
  refine W.eq (g2 := F0 m 750 ls [.int r, .int r]) rfl ?_
  refine lv_icmp_eq (tgt := 1161) hx hb dL_law_750 (by decide) (fun _ => ?_) (fun c9 => absurd rfl c9)
  exact kk σ2 _ _ hI2 hG

set_option maxHeartbeats 4000000 in
set_option maxRecDepth 100000 in
theorem la_117 {p : Program} {l : Launch} {e : Env} {s : State} {m : MethodId} {below : List Frame} {meth : Method} {c : Code} {b L : Nat} {xs : Nat → Int32} (C0 : lw_At p s m meth c b L xs) {g : GC} (hK : g_K g s) (hAg : ∀ q, g_A g q → s.heap.size ≤ q) {k : Nat} (hk : k + 5 ≤ L) (hL : L ≤ 2560) {Inv : St → Prop} {σ : St} (hI : Inv σ) {H : Heap} {locs : List Loc} (hG : LWd g s σ H locs) {ls : Array Slot} (hl : lv_has ls 4 [(0, .ref b), (1, .ref (g.2.1 0)), (2, .ref (g.2.1 50)), (3, .int (nI k))]) (op : ∀ (σ : St) (x1 x2 : Int32), Inv σ → ∃ (r : Int32) (σ1 σ2 : St), eL_entry x1 x2 σ r σ1 ∧ eM_entry x1 x2 σ1 r σ2 ∧ Inv σ2) (kk : ∀ (σ2 : St) (H : Heap) (locs : List Loc), Inv σ2 → LWd g s σ2 H locs → W p l e room_1 s m #[Value.ref b] below meth c H locs 82 50159 (lw_Z below #[Value.ref b] s) (F0 m 1161 ls [])) : W p l e room_1 s m #[Value.ref b] below meth c H locs 82 50159 (lw_Z below #[Value.ref b] s) (F0 m 755 ls []) := by
  obtain ⟨hx, hb, hr, hml, hown, hts0, hX, hbl, hlocks, hgv⟩ := C0
  have hts : ∀ w ∈ wG, w.before #[Value.ref b] s = true := fun w h => hts0 w (List.mem_filter.mp h).1
  have hbA : ¬ (fun q : Nat => s.heap.size ≤ q) b := Nat.not_le.mpr hbl
  have hi1 : vp_in (nI k + (1 : Int32)) L := la_in (j := 1) rfl (by omega) hL
  have hi2 : vp_in (nI k + (2 : Int32)) L := la_in (j := 2) rfl (by omega) hL
  have hi3 : vp_in (nI k + (3 : Int32)) L := la_in (j := 3) rfl (by omega) hL
  have hi4 : vp_in (nI k + (4 : Int32)) L := la_in (j := 4) rfl (by omega) hL
  refine lv_aload_n hx hb dL_law_755 rfl (lv_at hl 1 rfl) ?_
  refine lv_aload_n hx hb dL_law_756 rfl (lv_at hl 0 rfl) ?_
  refine lv_iload_n hx hb dL_law_757 rfl (lv_at hl 3 rfl) ?_
  refine lv_iconst (v := (1 : Int32)) hx hb dL_law_758 (by decide) ?_
  refine lv_iadd hx hb dL_law_759 ?_
  refine va_sld hx hb hX hbl hbA hG.2 hi1 dL_law_760 ?_
  refine lv_aload_n hx hb dL_law_761 rfl (lv_at hl 0 rfl) ?_
  refine lv_iload_n hx hb dL_law_762 rfl (lv_at hl 3 rfl) ?_
  refine lv_iconst (v := (2 : Int32)) hx hb dL_law_763 (by decide) ?_
  refine lv_iadd hx hb dL_law_764 ?_
  refine va_sld hx hb hX hbl hbA hG.2 hi2 dL_law_765 ?_
  obtain ⟨r, σ1, σ2, e1, e2, hI2⟩ := op σ (xs ((nI k + (1 : Int32)).toNatClampNeg)) (xs ((nI k + (2 : Int32)).toNatClampNeg)) hI
  refine lx_cV (r := (some (.int r))) (rest := []) (As := [.int (xs ((nI k + (1 : Int32)).toNatClampNeg)), .int (xs ((nI k + (2 : Int32)).toNatClampNeg))]) ⟨hx, hb, hml, hown, hts⟩ (eL_entry_cn e1 l g) (cwV 2 hts (gz_V mw_3_205 mw_3_206 mw_3_207 mw_1_1 mw_3_208) rfl rfl rfl hdV_X8_entry ⟨Nat.le_of_ble_eq_true rfl, Nat.le_of_ble_eq_true rfl⟩) hK hAg hG (ga_0 g _) rfl rfl rfl hl.1 rfl (Nat.le_of_ble_eq_true rfl) dL_law_766 ⟨Nat.le_of_ble_eq_true rfl, Nat.le_of_ble_eq_true rfl⟩ (fun H locs hG => ?_)
  refine W.eq (g2 := F0 m 769 ls [.int r]) rfl ?_
  refine lv_aload_n hx hb dL_law_769 rfl (lv_at hl 2 rfl) ?_
  refine lv_aload_n hx hb dL_law_770 rfl (lv_at hl 0 rfl) ?_
  refine lv_iload_n hx hb dL_law_771 rfl (lv_at hl 3 rfl) ?_
  refine lv_iconst (v := (1 : Int32)) hx hb dL_law_772 (by decide) ?_
  refine lv_iadd hx hb dL_law_773 ?_
  refine va_sld hx hb hX hbl hbA hG.2 hi1 dL_law_774 ?_
  refine lv_aload_n hx hb dL_law_775 rfl (lv_at hl 0 rfl) ?_
  refine lv_iload_n hx hb dL_law_776 rfl (lv_at hl 3 rfl) ?_
  refine lv_iconst (v := (2 : Int32)) hx hb dL_law_777 (by decide) ?_
  refine lv_iadd hx hb dL_law_778 ?_
  refine va_sld hx hb hX hbl hbA hG.2 hi2 dL_law_779 ?_
  refine lx_cV (r := (some (.int r))) (rest := [.int r]) (As := [.int (xs ((nI k + (1 : Int32)).toNatClampNeg)), .int (xs ((nI k + (2 : Int32)).toNatClampNeg))]) ⟨hx, hb, hml, hown, hts⟩ (eM_entry_cn e2 l g) (cwV 2 hts (gz_V mw_6_5 mw_6_6 mw_6_7 mw_1_11 mw_6_8) rfl rfl rfl hdV_X9_entry ⟨Nat.le_of_ble_eq_true rfl, Nat.le_of_ble_eq_true rfl⟩) hK hAg hG (ga_50 g _) rfl rfl rfl hl.1 rfl (Nat.le_of_ble_eq_true rfl) dL_law_780 ⟨Nat.le_of_ble_eq_true rfl, Nat.le_of_ble_eq_true rfl⟩ (fun H locs hG => ?_)
  refine W.eq (g2 := F0 m 783 ls [.int r, .int r]) rfl ?_
  refine lv_icmp_eq (tgt := 1161) hx hb dL_law_783 (by decide) (fun _ => ?_) (fun c9 => absurd rfl c9)
  exact kk σ2 _ _ hI2 hG

set_option maxHeartbeats 4000000 in
set_option maxRecDepth 100000 in
theorem la_118 {p : Program} {l : Launch} {e : Env} {s : State} {m : MethodId} {below : List Frame} {meth : Method} {c : Code} {b L : Nat} {xs : Nat → Int32} (C0 : lw_At p s m meth c b L xs) {g : GC} (hK : g_K g s) (hAg : ∀ q, g_A g q → s.heap.size ≤ q) {k : Nat} (hk : k + 5 ≤ L) (hL : L ≤ 2560) {Inv : St → Prop} {σ : St} (hI : Inv σ) {H : Heap} {locs : List Loc} (hG : LWd g s σ H locs) {ls : Array Slot} (hl : lv_has ls 4 [(0, .ref b), (1, .ref (g.2.1 0)), (2, .ref (g.2.1 50)), (3, .int (nI k))]) (op : ∀ (σ : St), Inv σ → ∃ (r : Int32) (σ1 σ2 : St), eL_posts σ r σ1 ∧ eM_posts σ1 r σ2 ∧ Inv σ2) (kk : ∀ (σ2 : St) (H : Heap) (locs : List Loc), Inv σ2 → LWd g s σ2 H locs → W p l e room_1 s m #[Value.ref b] below meth c H locs 82 50159 (lw_Z below #[Value.ref b] s) (F0 m 1161 ls [])) : W p l e room_1 s m #[Value.ref b] below meth c H locs 82 50159 (lw_Z below #[Value.ref b] s) (F0 m 788 ls []) := by
  obtain ⟨hx, hb, hr, hml, hown, hts0, hX, hbl, hlocks, hgv⟩ := C0
  have hts : ∀ w ∈ wG, w.before #[Value.ref b] s = true := fun w h => hts0 w (List.mem_filter.mp h).1
  have hbA : ¬ (fun q : Nat => s.heap.size ≤ q) b := Nat.not_le.mpr hbl
  have hi1 : vp_in (nI k + (1 : Int32)) L := la_in (j := 1) rfl (by omega) hL
  have hi2 : vp_in (nI k + (2 : Int32)) L := la_in (j := 2) rfl (by omega) hL
  have hi3 : vp_in (nI k + (3 : Int32)) L := la_in (j := 3) rfl (by omega) hL
  have hi4 : vp_in (nI k + (4 : Int32)) L := la_in (j := 4) rfl (by omega) hL
  refine lv_aload_n hx hb dL_law_788 rfl (lv_at hl 1 rfl) ?_
  obtain ⟨r, σ1, σ2, e1, e2, hI2⟩ := op σ hI
  refine lx_cV (r := (some (.int r))) (rest := []) (As := []) ⟨hx, hb, hml, hown, hts⟩ (eL_posts_cn e1 l g) (cwV 0 hts (gz_V mw_3_219 mw_3_220 mw_3_221 mw_1_1 mw_3_222) rfl rfl rfl hdV_X8_posts ⟨Nat.le_of_ble_eq_true rfl, Nat.le_of_ble_eq_true rfl⟩) hK hAg hG (ga_0 g _) rfl rfl rfl hl.1 rfl (Nat.le_of_ble_eq_true rfl) dL_law_789 ⟨Nat.le_of_ble_eq_true rfl, Nat.le_of_ble_eq_true rfl⟩ (fun H locs hG => ?_)
  refine W.eq (g2 := F0 m 792 ls [.int r]) rfl ?_
  refine lv_aload_n hx hb dL_law_792 rfl (lv_at hl 2 rfl) ?_
  refine lx_cV (r := (some (.int r))) (rest := [.int r]) (As := []) ⟨hx, hb, hml, hown, hts⟩ (eM_posts_cn e2 l g) (cwV 0 hts (gz_V mw_6_9 mw_6_10 mw_6_11 mw_1_11 mw_6_12) rfl rfl rfl hdV_X9_posts ⟨Nat.le_of_ble_eq_true rfl, Nat.le_of_ble_eq_true rfl⟩) hK hAg hG (ga_50 g _) rfl rfl rfl hl.1 rfl (Nat.le_of_ble_eq_true rfl) dL_law_793 ⟨Nat.le_of_ble_eq_true rfl, Nat.le_of_ble_eq_true rfl⟩ (fun H locs hG => ?_)
  refine W.eq (g2 := F0 m 796 ls [.int r, .int r]) rfl ?_
  refine lv_icmp_eq (tgt := 1161) hx hb dL_law_796 (by decide) (fun _ => ?_) (fun c9 => absurd rfl c9)
  exact kk σ2 _ _ hI2 hG

set_option maxHeartbeats 4000000 in
set_option maxRecDepth 100000 in
theorem la_119 {p : Program} {l : Launch} {e : Env} {s : State} {m : MethodId} {below : List Frame} {meth : Method} {c : Code} {b L : Nat} {xs : Nat → Int32} (C0 : lw_At p s m meth c b L xs) {g : GC} (hK : g_K g s) (hAg : ∀ q, g_A g q → s.heap.size ≤ q) {k : Nat} (hk : k + 5 ≤ L) (hL : L ≤ 2560) {Inv : St → Prop} {σ : St} (hI : Inv σ) {H : Heap} {locs : List Loc} (hG : LWd g s σ H locs) {ls : Array Slot} (hl : lv_has ls 4 [(0, .ref b), (1, .ref (g.2.1 0)), (2, .ref (g.2.1 50)), (3, .int (nI k))]) (op : ∀ (σ : St) (x1 x2 x3 : Int32), Inv σ → ∃ (r : Int32) (σ1 σ2 : St), eL_third x1 x2 x3 σ r σ1 ∧ eM_third x1 x2 x3 σ1 r σ2 ∧ Inv σ2) (kk : ∀ (σ2 : St) (H : Heap) (locs : List Loc), Inv σ2 → LWd g s σ2 H locs → W p l e room_1 s m #[Value.ref b] below meth c H locs 82 50159 (lw_Z below #[Value.ref b] s) (F0 m 1161 ls [])) : W p l e room_1 s m #[Value.ref b] below meth c H locs 82 50159 (lw_Z below #[Value.ref b] s) (F0 m 801 ls []) := by
  obtain ⟨hx, hb, hr, hml, hown, hts0, hX, hbl, hlocks, hgv⟩ := C0
  have hts : ∀ w ∈ wG, w.before #[Value.ref b] s = true := fun w h => hts0 w (List.mem_filter.mp h).1
  have hbA : ¬ (fun q : Nat => s.heap.size ≤ q) b := Nat.not_le.mpr hbl
  have hi1 : vp_in (nI k + (1 : Int32)) L := la_in (j := 1) rfl (by omega) hL
  have hi2 : vp_in (nI k + (2 : Int32)) L := la_in (j := 2) rfl (by omega) hL
  have hi3 : vp_in (nI k + (3 : Int32)) L := la_in (j := 3) rfl (by omega) hL
  have hi4 : vp_in (nI k + (4 : Int32)) L := la_in (j := 4) rfl (by omega) hL
  refine lv_aload_n hx hb dL_law_801 rfl (lv_at hl 1 rfl) ?_
  refine lv_aload_n hx hb dL_law_802 rfl (lv_at hl 0 rfl) ?_
  refine lv_iload_n hx hb dL_law_803 rfl (lv_at hl 3 rfl) ?_
  refine lv_iconst (v := (1 : Int32)) hx hb dL_law_804 (by decide) ?_
  refine lv_iadd hx hb dL_law_805 ?_
  refine va_sld hx hb hX hbl hbA hG.2 hi1 dL_law_806 ?_
  refine lv_aload_n hx hb dL_law_807 rfl (lv_at hl 0 rfl) ?_
  refine lv_iload_n hx hb dL_law_808 rfl (lv_at hl 3 rfl) ?_
  refine lv_iconst (v := (2 : Int32)) hx hb dL_law_809 (by decide) ?_
  refine lv_iadd hx hb dL_law_810 ?_
  refine va_sld hx hb hX hbl hbA hG.2 hi2 dL_law_811 ?_
  refine lv_aload_n hx hb dL_law_812 rfl (lv_at hl 0 rfl) ?_
  refine lv_iload_n hx hb dL_law_813 rfl (lv_at hl 3 rfl) ?_
  refine lv_iconst (v := (3 : Int32)) hx hb dL_law_814 (by decide) ?_
  refine lv_iadd hx hb dL_law_815 ?_
  refine va_sld hx hb hX hbl hbA hG.2 hi3 dL_law_816 ?_
  obtain ⟨r, σ1, σ2, e1, e2, hI2⟩ := op σ (xs ((nI k + (1 : Int32)).toNatClampNeg)) (xs ((nI k + (2 : Int32)).toNatClampNeg)) (xs ((nI k + (3 : Int32)).toNatClampNeg)) hI
  refine lx_cV (r := (some (.int r))) (rest := []) (As := [.int (xs ((nI k + (1 : Int32)).toNatClampNeg)), .int (xs ((nI k + (2 : Int32)).toNatClampNeg)), .int (xs ((nI k + (3 : Int32)).toNatClampNeg))]) ⟨hx, hb, hml, hown, hts⟩ (eL_third_cn e1 l g) (cwV 3 hts (gz_V mw_3_223 mw_3_224 mw_3_225 mw_1_1 mw_3_226) rfl rfl rfl hdV_X8_third ⟨Nat.le_of_ble_eq_true rfl, Nat.le_of_ble_eq_true rfl⟩) hK hAg hG (ga_0 g _) rfl rfl rfl hl.1 rfl (Nat.le_of_ble_eq_true rfl) dL_law_817 ⟨Nat.le_of_ble_eq_true rfl, Nat.le_of_ble_eq_true rfl⟩ (fun H locs hG => ?_)
  refine W.eq (g2 := F0 m 820 ls [.int r]) rfl ?_
  refine lv_aload_n hx hb dL_law_820 rfl (lv_at hl 2 rfl) ?_
  refine lv_aload_n hx hb dL_law_821 rfl (lv_at hl 0 rfl) ?_
  refine lv_iload_n hx hb dL_law_822 rfl (lv_at hl 3 rfl) ?_
  refine lv_iconst (v := (1 : Int32)) hx hb dL_law_823 (by decide) ?_
  refine lv_iadd hx hb dL_law_824 ?_
  refine va_sld hx hb hX hbl hbA hG.2 hi1 dL_law_825 ?_
  refine lv_aload_n hx hb dL_law_826 rfl (lv_at hl 0 rfl) ?_
  refine lv_iload_n hx hb dL_law_827 rfl (lv_at hl 3 rfl) ?_
  refine lv_iconst (v := (2 : Int32)) hx hb dL_law_828 (by decide) ?_
  refine lv_iadd hx hb dL_law_829 ?_
  refine va_sld hx hb hX hbl hbA hG.2 hi2 dL_law_830 ?_
  refine lv_aload_n hx hb dL_law_831 rfl (lv_at hl 0 rfl) ?_
  refine lv_iload_n hx hb dL_law_832 rfl (lv_at hl 3 rfl) ?_
  refine lv_iconst (v := (3 : Int32)) hx hb dL_law_833 (by decide) ?_
  refine lv_iadd hx hb dL_law_834 ?_
  refine va_sld hx hb hX hbl hbA hG.2 hi3 dL_law_835 ?_
  refine lx_cV (r := (some (.int r))) (rest := [.int r]) (As := [.int (xs ((nI k + (1 : Int32)).toNatClampNeg)), .int (xs ((nI k + (2 : Int32)).toNatClampNeg)), .int (xs ((nI k + (3 : Int32)).toNatClampNeg))]) ⟨hx, hb, hml, hown, hts⟩ (eM_third_cn e2 l g) (cwV 3 hts (gz_V mw_6_13 mw_6_14 mw_6_15 mw_1_11 mw_6_16) rfl rfl rfl hdV_X9_third ⟨Nat.le_of_ble_eq_true rfl, Nat.le_of_ble_eq_true rfl⟩) hK hAg hG (ga_50 g _) rfl rfl rfl hl.1 rfl (Nat.le_of_ble_eq_true rfl) dL_law_836 ⟨Nat.le_of_ble_eq_true rfl, Nat.le_of_ble_eq_true rfl⟩ (fun H locs hG => ?_)
  refine W.eq (g2 := F0 m 839 ls [.int r, .int r]) rfl ?_
  refine lv_icmp_eq (tgt := 1161) hx hb dL_law_839 (by decide) (fun _ => ?_) (fun c9 => absurd rfl c9)
  exact kk σ2 _ _ hI2 hG

set_option maxHeartbeats 4000000 in
set_option maxRecDepth 100000 in
theorem la_120 {p : Program} {l : Launch} {e : Env} {s : State} {m : MethodId} {below : List Frame} {meth : Method} {c : Code} {b L : Nat} {xs : Nat → Int32} (C0 : lw_At p s m meth c b L xs) {g : GC} (hK : g_K g s) (hAg : ∀ q, g_A g q → s.heap.size ≤ q) {k : Nat} (hk : k + 5 ≤ L) (hL : L ≤ 2560) {Inv : St → Prop} {σ : St} (hI : Inv σ) {H : Heap} {locs : List Loc} (hG : LWd g s σ H locs) {ls : Array Slot} (hl : lv_has ls 4 [(0, .ref b), (1, .ref (g.2.1 0)), (2, .ref (g.2.1 50)), (3, .int (nI k))]) (op : ∀ (σ : St) (x1 x2 : Int32), Inv σ → ∃ (r : Int32) (σ1 σ2 : St), eL_root x1 x2 σ r σ1 ∧ eM_root x1 x2 σ1 r σ2 ∧ Inv σ2) (kk : ∀ (σ2 : St) (H : Heap) (locs : List Loc), Inv σ2 → LWd g s σ2 H locs → W p l e room_1 s m #[Value.ref b] below meth c H locs 82 50159 (lw_Z below #[Value.ref b] s) (F0 m 1161 ls [])) : W p l e room_1 s m #[Value.ref b] below meth c H locs 82 50159 (lw_Z below #[Value.ref b] s) (F0 m 844 ls []) := by
  obtain ⟨hx, hb, hr, hml, hown, hts0, hX, hbl, hlocks, hgv⟩ := C0
  have hts : ∀ w ∈ wG, w.before #[Value.ref b] s = true := fun w h => hts0 w (List.mem_filter.mp h).1
  have hbA : ¬ (fun q : Nat => s.heap.size ≤ q) b := Nat.not_le.mpr hbl
  have hi1 : vp_in (nI k + (1 : Int32)) L := la_in (j := 1) rfl (by omega) hL
  have hi2 : vp_in (nI k + (2 : Int32)) L := la_in (j := 2) rfl (by omega) hL
  have hi3 : vp_in (nI k + (3 : Int32)) L := la_in (j := 3) rfl (by omega) hL
  have hi4 : vp_in (nI k + (4 : Int32)) L := la_in (j := 4) rfl (by omega) hL
  refine lv_aload_n hx hb dL_law_844 rfl (lv_at hl 1 rfl) ?_
  refine lv_aload_n hx hb dL_law_845 rfl (lv_at hl 0 rfl) ?_
  refine lv_iload_n hx hb dL_law_846 rfl (lv_at hl 3 rfl) ?_
  refine lv_iconst (v := (1 : Int32)) hx hb dL_law_847 (by decide) ?_
  refine lv_iadd hx hb dL_law_848 ?_
  refine va_sld hx hb hX hbl hbA hG.2 hi1 dL_law_849 ?_
  refine lv_aload_n hx hb dL_law_850 rfl (lv_at hl 0 rfl) ?_
  refine lv_iload_n hx hb dL_law_851 rfl (lv_at hl 3 rfl) ?_
  refine lv_iconst (v := (2 : Int32)) hx hb dL_law_852 (by decide) ?_
  refine lv_iadd hx hb dL_law_853 ?_
  refine va_sld hx hb hX hbl hbA hG.2 hi2 dL_law_854 ?_
  obtain ⟨r, σ1, σ2, e1, e2, hI2⟩ := op σ (xs ((nI k + (1 : Int32)).toNatClampNeg)) (xs ((nI k + (2 : Int32)).toNatClampNeg)) hI
  refine lx_cV (r := (some (.int r))) (rest := []) (As := [.int (xs ((nI k + (1 : Int32)).toNatClampNeg)), .int (xs ((nI k + (2 : Int32)).toNatClampNeg))]) ⟨hx, hb, hml, hown, hts⟩ (eL_root_cn e1 l g) (cwV 2 hts (gz_V mw_3_228 mw_3_229 mw_3_230 mw_1_1 mw_3_231) rfl rfl rfl hdV_X8_root ⟨Nat.le_of_ble_eq_true rfl, Nat.le_of_ble_eq_true rfl⟩) hK hAg hG (ga_0 g _) rfl rfl rfl hl.1 rfl (Nat.le_of_ble_eq_true rfl) dL_law_855 ⟨Nat.le_of_ble_eq_true rfl, Nat.le_of_ble_eq_true rfl⟩ (fun H locs hG => ?_)
  refine W.eq (g2 := F0 m 858 ls [.int r]) rfl ?_
  refine lv_aload_n hx hb dL_law_858 rfl (lv_at hl 2 rfl) ?_
  refine lv_aload_n hx hb dL_law_859 rfl (lv_at hl 0 rfl) ?_
  refine lv_iload_n hx hb dL_law_860 rfl (lv_at hl 3 rfl) ?_
  refine lv_iconst (v := (1 : Int32)) hx hb dL_law_861 (by decide) ?_
  refine lv_iadd hx hb dL_law_862 ?_
  refine va_sld hx hb hX hbl hbA hG.2 hi1 dL_law_863 ?_
  refine lv_aload_n hx hb dL_law_864 rfl (lv_at hl 0 rfl) ?_
  refine lv_iload_n hx hb dL_law_865 rfl (lv_at hl 3 rfl) ?_
  refine lv_iconst (v := (2 : Int32)) hx hb dL_law_866 (by decide) ?_
  refine lv_iadd hx hb dL_law_867 ?_
  refine va_sld hx hb hX hbl hbA hG.2 hi2 dL_law_868 ?_
  refine lx_cV (r := (some (.int r))) (rest := [.int r]) (As := [.int (xs ((nI k + (1 : Int32)).toNatClampNeg)), .int (xs ((nI k + (2 : Int32)).toNatClampNeg))]) ⟨hx, hb, hml, hown, hts⟩ (eM_root_cn e2 l g) (cwV 2 hts (gz_V mw_6_17 mw_6_18 mw_6_19 mw_1_11 mw_6_20) rfl rfl rfl hdV_X9_root ⟨Nat.le_of_ble_eq_true rfl, Nat.le_of_ble_eq_true rfl⟩) hK hAg hG (ga_50 g _) rfl rfl rfl hl.1 rfl (Nat.le_of_ble_eq_true rfl) dL_law_869 ⟨Nat.le_of_ble_eq_true rfl, Nat.le_of_ble_eq_true rfl⟩ (fun H locs hG => ?_)
  refine W.eq (g2 := F0 m 872 ls [.int r, .int r]) rfl ?_
  refine lv_icmp_eq (tgt := 1161) hx hb dL_law_872 (by decide) (fun _ => ?_) (fun c9 => absurd rfl c9)
  exact kk σ2 _ _ hI2 hG

set_option maxHeartbeats 4000000 in
set_option maxRecDepth 100000 in
theorem la_121 {p : Program} {l : Launch} {e : Env} {s : State} {m : MethodId} {below : List Frame} {meth : Method} {c : Code} {b L : Nat} {xs : Nat → Int32} (C0 : lw_At p s m meth c b L xs) {g : GC} (hK : g_K g s) (hAg : ∀ q, g_A g q → s.heap.size ≤ q) {k : Nat} (hk : k + 5 ≤ L) (hL : L ≤ 2560) {Inv : St → Prop} {σ : St} (hI : Inv σ) {H : Heap} {locs : List Loc} (hG : LWd g s σ H locs) {ls : Array Slot} (hl : lv_has ls 4 [(0, .ref b), (1, .ref (g.2.1 0)), (2, .ref (g.2.1 50)), (3, .int (nI k))]) (op : ∀ (σ : St) (x1 x2 : Int32), Inv σ → ∃ (r : Int64) (σ1 σ2 : St), eL_walks x1 x2 σ r σ1 ∧ eM_walks x1 x2 σ1 r σ2 ∧ Inv σ2) (kk : ∀ (σ2 : St) (H : Heap) (locs : List Loc), Inv σ2 → LWd g s σ2 H locs → W p l e room_1 s m #[Value.ref b] below meth c H locs 82 50159 (lw_Z below #[Value.ref b] s) (F0 m 1161 ls [])) : W p l e room_1 s m #[Value.ref b] below meth c H locs 82 50159 (lw_Z below #[Value.ref b] s) (F0 m 877 ls []) := by
  obtain ⟨hx, hb, hr, hml, hown, hts0, hX, hbl, hlocks, hgv⟩ := C0
  have hts : ∀ w ∈ wG, w.before #[Value.ref b] s = true := fun w h => hts0 w (List.mem_filter.mp h).1
  have hbA : ¬ (fun q : Nat => s.heap.size ≤ q) b := Nat.not_le.mpr hbl
  have hi1 : vp_in (nI k + (1 : Int32)) L := la_in (j := 1) rfl (by omega) hL
  have hi2 : vp_in (nI k + (2 : Int32)) L := la_in (j := 2) rfl (by omega) hL
  have hi3 : vp_in (nI k + (3 : Int32)) L := la_in (j := 3) rfl (by omega) hL
  have hi4 : vp_in (nI k + (4 : Int32)) L := la_in (j := 4) rfl (by omega) hL
  refine lv_aload_n hx hb dL_law_877 rfl (lv_at hl 1 rfl) ?_
  refine lv_aload_n hx hb dL_law_878 rfl (lv_at hl 0 rfl) ?_
  refine lv_iload_n hx hb dL_law_879 rfl (lv_at hl 3 rfl) ?_
  refine lv_iconst (v := (1 : Int32)) hx hb dL_law_880 (by decide) ?_
  refine lv_iadd hx hb dL_law_881 ?_
  refine va_sld hx hb hX hbl hbA hG.2 hi1 dL_law_882 ?_
  refine lv_aload_n hx hb dL_law_883 rfl (lv_at hl 0 rfl) ?_
  refine lv_iload_n hx hb dL_law_884 rfl (lv_at hl 3 rfl) ?_
  refine lv_iconst (v := (2 : Int32)) hx hb dL_law_885 (by decide) ?_
  refine lv_iadd hx hb dL_law_886 ?_
  refine va_sld hx hb hX hbl hbA hG.2 hi2 dL_law_887 ?_
  obtain ⟨r, σ1, σ2, e1, e2, hI2⟩ := op σ (xs ((nI k + (1 : Int32)).toNatClampNeg)) (xs ((nI k + (2 : Int32)).toNatClampNeg)) hI
  refine lx_cV (r := (some (.long r))) (rest := []) (As := [.int (xs ((nI k + (1 : Int32)).toNatClampNeg)), .int (xs ((nI k + (2 : Int32)).toNatClampNeg))]) ⟨hx, hb, hml, hown, hts⟩ (eL_walks_cn e1 l g) (cwV 2 hts (gz_V mw_3_232 mw_3_233 mw_3_234 mw_1_1 mw_3_235) rfl rfl rfl hdV_X8_walks ⟨Nat.le_of_ble_eq_true rfl, Nat.le_of_ble_eq_true rfl⟩) hK hAg hG (ga_0 g _) rfl rfl rfl hl.1 rfl (Nat.le_of_ble_eq_true rfl) dL_law_888 ⟨Nat.le_of_ble_eq_true rfl, Nat.le_of_ble_eq_true rfl⟩ (fun H locs hG => ?_)
  refine W.eq (g2 := F0 m 891 ls [.long r]) rfl ?_
  refine lv_aload_n hx hb dL_law_891 rfl (lv_at hl 2 rfl) ?_
  refine lv_aload_n hx hb dL_law_892 rfl (lv_at hl 0 rfl) ?_
  refine lv_iload_n hx hb dL_law_893 rfl (lv_at hl 3 rfl) ?_
  refine lv_iconst (v := (1 : Int32)) hx hb dL_law_894 (by decide) ?_
  refine lv_iadd hx hb dL_law_895 ?_
  refine va_sld hx hb hX hbl hbA hG.2 hi1 dL_law_896 ?_
  refine lv_aload_n hx hb dL_law_897 rfl (lv_at hl 0 rfl) ?_
  refine lv_iload_n hx hb dL_law_898 rfl (lv_at hl 3 rfl) ?_
  refine lv_iconst (v := (2 : Int32)) hx hb dL_law_899 (by decide) ?_
  refine lv_iadd hx hb dL_law_900 ?_
  refine va_sld hx hb hX hbl hbA hG.2 hi2 dL_law_901 ?_
  refine lx_cV (r := (some (.long r))) (rest := [.long r]) (As := [.int (xs ((nI k + (1 : Int32)).toNatClampNeg)), .int (xs ((nI k + (2 : Int32)).toNatClampNeg))]) ⟨hx, hb, hml, hown, hts⟩ (eM_walks_cn e2 l g) (cwV 2 hts (gz_V mw_6_21 mw_6_22 mw_6_23 mw_1_11 mw_6_24) rfl rfl rfl hdV_X9_walks ⟨Nat.le_of_ble_eq_true rfl, Nat.le_of_ble_eq_true rfl⟩) hK hAg hG (ga_50 g _) rfl rfl rfl hl.1 rfl (Nat.le_of_ble_eq_true rfl) dL_law_902 ⟨Nat.le_of_ble_eq_true rfl, Nat.le_of_ble_eq_true rfl⟩ (fun H locs hG => ?_)
  refine W.eq (g2 := F0 m 905 ls [.long r, .long r]) rfl ?_
  refine W.lcmp hx hb dL_law_905 ?_
  refine lv_if_eq (tgt := 1161) hx hb dL_law_906 (by decide) (fun _ => ?_) (fun c9 => absurd (la_cmp r) c9)
  exact kk σ2 _ _ hI2 hG

set_option maxHeartbeats 4000000 in
set_option maxRecDepth 100000 in
theorem la_122 {p : Program} {l : Launch} {e : Env} {s : State} {m : MethodId} {below : List Frame} {meth : Method} {c : Code} {b L : Nat} {xs : Nat → Int32} (C0 : lw_At p s m meth c b L xs) {g : GC} (hK : g_K g s) (hAg : ∀ q, g_A g q → s.heap.size ≤ q) {k : Nat} (hk : k + 5 ≤ L) (hL : L ≤ 2560) {Inv : St → Prop} {σ : St} (hI : Inv σ) {H : Heap} {locs : List Loc} (hG : LWd g s σ H locs) {ls : Array Slot} (hl : lv_has ls 4 [(0, .ref b), (1, .ref (g.2.1 0)), (2, .ref (g.2.1 50)), (3, .int (nI k))]) (op : ∀ (σ : St) (x1 x2 : Int32), Inv σ → ∃ (r : Int64) (σ1 σ2 : St), eL_bound x1 x2 σ r σ1 ∧ eM_bound x1 x2 σ1 r σ2 ∧ Inv σ2) (kk : ∀ (σ2 : St) (H : Heap) (locs : List Loc), Inv σ2 → LWd g s σ2 H locs → W p l e room_1 s m #[Value.ref b] below meth c H locs 82 50159 (lw_Z below #[Value.ref b] s) (F0 m 1161 ls [])) : W p l e room_1 s m #[Value.ref b] below meth c H locs 82 50159 (lw_Z below #[Value.ref b] s) (F0 m 911 ls []) := by
  obtain ⟨hx, hb, hr, hml, hown, hts0, hX, hbl, hlocks, hgv⟩ := C0
  have hts : ∀ w ∈ wG, w.before #[Value.ref b] s = true := fun w h => hts0 w (List.mem_filter.mp h).1
  have hbA : ¬ (fun q : Nat => s.heap.size ≤ q) b := Nat.not_le.mpr hbl
  have hi1 : vp_in (nI k + (1 : Int32)) L := la_in (j := 1) rfl (by omega) hL
  have hi2 : vp_in (nI k + (2 : Int32)) L := la_in (j := 2) rfl (by omega) hL
  have hi3 : vp_in (nI k + (3 : Int32)) L := la_in (j := 3) rfl (by omega) hL
  have hi4 : vp_in (nI k + (4 : Int32)) L := la_in (j := 4) rfl (by omega) hL
  refine lv_aload_n hx hb dL_law_911 rfl (lv_at hl 1 rfl) ?_
  refine lv_aload_n hx hb dL_law_912 rfl (lv_at hl 0 rfl) ?_
  refine lv_iload_n hx hb dL_law_913 rfl (lv_at hl 3 rfl) ?_
  refine lv_iconst (v := (1 : Int32)) hx hb dL_law_914 (by decide) ?_
  refine lv_iadd hx hb dL_law_915 ?_
  refine va_sld hx hb hX hbl hbA hG.2 hi1 dL_law_916 ?_
  refine lv_aload_n hx hb dL_law_917 rfl (lv_at hl 0 rfl) ?_
  refine lv_iload_n hx hb dL_law_918 rfl (lv_at hl 3 rfl) ?_
  refine lv_iconst (v := (2 : Int32)) hx hb dL_law_919 (by decide) ?_
  refine lv_iadd hx hb dL_law_920 ?_
  refine va_sld hx hb hX hbl hbA hG.2 hi2 dL_law_921 ?_
  obtain ⟨r, σ1, σ2, e1, e2, hI2⟩ := op σ (xs ((nI k + (1 : Int32)).toNatClampNeg)) (xs ((nI k + (2 : Int32)).toNatClampNeg)) hI
  refine lx_cV (r := (some (.long r))) (rest := []) (As := [.int (xs ((nI k + (1 : Int32)).toNatClampNeg)), .int (xs ((nI k + (2 : Int32)).toNatClampNeg))]) ⟨hx, hb, hml, hown, hts⟩ (eL_bound_cn e1 l g) (cwV 2 hts (gz_V mw_4_5 mw_4_6 mw_4_7 mw_1_1 mw_4_8) rfl rfl rfl hdV_X8_bound ⟨Nat.le_of_ble_eq_true rfl, Nat.le_of_ble_eq_true rfl⟩) hK hAg hG (ga_0 g _) rfl rfl rfl hl.1 rfl (Nat.le_of_ble_eq_true rfl) dL_law_922 ⟨Nat.le_of_ble_eq_true rfl, Nat.le_of_ble_eq_true rfl⟩ (fun H locs hG => ?_)
  refine W.eq (g2 := F0 m 925 ls [.long r]) rfl ?_
  refine lv_aload_n hx hb dL_law_925 rfl (lv_at hl 2 rfl) ?_
  refine lv_aload_n hx hb dL_law_926 rfl (lv_at hl 0 rfl) ?_
  refine lv_iload_n hx hb dL_law_927 rfl (lv_at hl 3 rfl) ?_
  refine lv_iconst (v := (1 : Int32)) hx hb dL_law_928 (by decide) ?_
  refine lv_iadd hx hb dL_law_929 ?_
  refine va_sld hx hb hX hbl hbA hG.2 hi1 dL_law_930 ?_
  refine lv_aload_n hx hb dL_law_931 rfl (lv_at hl 0 rfl) ?_
  refine lv_iload_n hx hb dL_law_932 rfl (lv_at hl 3 rfl) ?_
  refine lv_iconst (v := (2 : Int32)) hx hb dL_law_933 (by decide) ?_
  refine lv_iadd hx hb dL_law_934 ?_
  refine va_sld hx hb hX hbl hbA hG.2 hi2 dL_law_935 ?_
  refine lx_cV (r := (some (.long r))) (rest := [.long r]) (As := [.int (xs ((nI k + (1 : Int32)).toNatClampNeg)), .int (xs ((nI k + (2 : Int32)).toNatClampNeg))]) ⟨hx, hb, hml, hown, hts⟩ (eM_bound_cn e2 l g) (cwV 2 hts (gz_V mw_6_28 mw_6_29 mw_6_30 mw_1_11 mw_6_31) rfl rfl rfl hdV_X9_bound ⟨Nat.le_of_ble_eq_true rfl, Nat.le_of_ble_eq_true rfl⟩) hK hAg hG (ga_50 g _) rfl rfl rfl hl.1 rfl (Nat.le_of_ble_eq_true rfl) dL_law_936 ⟨Nat.le_of_ble_eq_true rfl, Nat.le_of_ble_eq_true rfl⟩ (fun H locs hG => ?_)
  refine W.eq (g2 := F0 m 939 ls [.long r, .long r]) rfl ?_
  refine W.lcmp hx hb dL_law_939 ?_
  refine lv_if_eq (tgt := 1161) hx hb dL_law_940 (by decide) (fun _ => ?_) (fun c9 => absurd (la_cmp r) c9)
  exact kk σ2 _ _ hI2 hG

set_option maxHeartbeats 4000000 in
set_option maxRecDepth 100000 in
theorem la_123 {p : Program} {l : Launch} {e : Env} {s : State} {m : MethodId} {below : List Frame} {meth : Method} {c : Code} {b L : Nat} {xs : Nat → Int32} (C0 : lw_At p s m meth c b L xs) {g : GC} (hK : g_K g s) (hAg : ∀ q, g_A g q → s.heap.size ≤ q) {k : Nat} (hk : k + 5 ≤ L) (hL : L ≤ 2560) {Inv : St → Prop} {σ : St} (hI : Inv σ) {H : Heap} {locs : List Loc} (hG : LWd g s σ H locs) {ls : Array Slot} (hl : lv_has ls 4 [(0, .ref b), (1, .ref (g.2.1 0)), (2, .ref (g.2.1 50)), (3, .int (nI k))]) (op : ∀ (σ : St), Inv σ → ∃ (r : Int32) (σ1 σ2 : St), eL_fold σ r σ1 ∧ eM_fold σ1 r σ2 ∧ Inv σ2) (kk : ∀ (σ2 : St) (H : Heap) (locs : List Loc), Inv σ2 → LWd g s σ2 H locs → W p l e room_1 s m #[Value.ref b] below meth c H locs 82 50159 (lw_Z below #[Value.ref b] s) (F0 m 1161 ls [])) : W p l e room_1 s m #[Value.ref b] below meth c H locs 82 50159 (lw_Z below #[Value.ref b] s) (F0 m 945 ls []) := by
  obtain ⟨hx, hb, hr, hml, hown, hts0, hX, hbl, hlocks, hgv⟩ := C0
  have hts : ∀ w ∈ wG, w.before #[Value.ref b] s = true := fun w h => hts0 w (List.mem_filter.mp h).1
  have hbA : ¬ (fun q : Nat => s.heap.size ≤ q) b := Nat.not_le.mpr hbl
  have hi1 : vp_in (nI k + (1 : Int32)) L := la_in (j := 1) rfl (by omega) hL
  have hi2 : vp_in (nI k + (2 : Int32)) L := la_in (j := 2) rfl (by omega) hL
  have hi3 : vp_in (nI k + (3 : Int32)) L := la_in (j := 3) rfl (by omega) hL
  have hi4 : vp_in (nI k + (4 : Int32)) L := la_in (j := 4) rfl (by omega) hL
  refine lv_aload_n hx hb dL_law_945 rfl (lv_at hl 1 rfl) ?_
  obtain ⟨r, σ1, σ2, e1, e2, hI2⟩ := op σ hI
  refine lx_cV (r := (some (.int r))) (rest := []) (As := []) ⟨hx, hb, hml, hown, hts⟩ (eL_fold_cn e1 l g) (cwV 0 hts (gz_V mw_4_9 mw_4_10 mw_4_11 mw_1_1 mw_4_12) rfl rfl rfl hdV_X8_fold ⟨Nat.le_of_ble_eq_true rfl, Nat.le_of_ble_eq_true rfl⟩) hK hAg hG (ga_0 g _) rfl rfl rfl hl.1 rfl (Nat.le_of_ble_eq_true rfl) dL_law_946 ⟨Nat.le_of_ble_eq_true rfl, Nat.le_of_ble_eq_true rfl⟩ (fun H locs hG => ?_)
  refine W.eq (g2 := F0 m 949 ls [.int r]) rfl ?_
  refine lv_aload_n hx hb dL_law_949 rfl (lv_at hl 2 rfl) ?_
  refine lx_cV (r := (some (.int r))) (rest := [.int r]) (As := []) ⟨hx, hb, hml, hown, hts⟩ (eM_fold_cn e2 l g) (cwV 0 hts (gz_V mw_6_34 mw_6_35 mw_6_36 mw_1_11 mw_6_37) rfl rfl rfl hdV_X9_fold ⟨Nat.le_of_ble_eq_true rfl, Nat.le_of_ble_eq_true rfl⟩) hK hAg hG (ga_50 g _) rfl rfl rfl hl.1 rfl (Nat.le_of_ble_eq_true rfl) dL_law_950 ⟨Nat.le_of_ble_eq_true rfl, Nat.le_of_ble_eq_true rfl⟩ (fun H locs hG => ?_)
  refine W.eq (g2 := F0 m 953 ls [.int r, .int r]) rfl ?_
  refine lv_icmp_eq (tgt := 1161) hx hb dL_law_953 (by decide) (fun _ => ?_) (fun c9 => absurd rfl c9)
  exact kk σ2 _ _ hI2 hG

set_option maxHeartbeats 4000000 in
set_option maxRecDepth 100000 in
theorem la_124 {p : Program} {l : Launch} {e : Env} {s : State} {m : MethodId} {below : List Frame} {meth : Method} {c : Code} {b L : Nat} {xs : Nat → Int32} (C0 : lw_At p s m meth c b L xs) {g : GC} (hK : g_K g s) (hAg : ∀ q, g_A g q → s.heap.size ≤ q) {k : Nat} (hk : k + 5 ≤ L) (hL : L ≤ 2560) {Inv : St → Prop} {σ : St} (hI : Inv σ) {H : Heap} {locs : List Loc} (hG : LWd g s σ H locs) {ls : Array Slot} (hl : lv_has ls 4 [(0, .ref b), (1, .ref (g.2.1 0)), (2, .ref (g.2.1 50)), (3, .int (nI k))]) (op : ∀ (σ : St), Inv σ → ∃ (r : Int32) (σ1 σ2 : St), eL_half σ r σ1 ∧ eM_half σ1 r σ2 ∧ Inv σ2) (kk : ∀ (σ2 : St) (H : Heap) (locs : List Loc), Inv σ2 → LWd g s σ2 H locs → W p l e room_1 s m #[Value.ref b] below meth c H locs 82 50159 (lw_Z below #[Value.ref b] s) (F0 m 1161 ls [])) : W p l e room_1 s m #[Value.ref b] below meth c H locs 82 50159 (lw_Z below #[Value.ref b] s) (F0 m 958 ls []) := by
  obtain ⟨hx, hb, hr, hml, hown, hts0, hX, hbl, hlocks, hgv⟩ := C0
  have hts : ∀ w ∈ wG, w.before #[Value.ref b] s = true := fun w h => hts0 w (List.mem_filter.mp h).1
  have hbA : ¬ (fun q : Nat => s.heap.size ≤ q) b := Nat.not_le.mpr hbl
  have hi1 : vp_in (nI k + (1 : Int32)) L := la_in (j := 1) rfl (by omega) hL
  have hi2 : vp_in (nI k + (2 : Int32)) L := la_in (j := 2) rfl (by omega) hL
  have hi3 : vp_in (nI k + (3 : Int32)) L := la_in (j := 3) rfl (by omega) hL
  have hi4 : vp_in (nI k + (4 : Int32)) L := la_in (j := 4) rfl (by omega) hL
  refine lv_aload_n hx hb dL_law_958 rfl (lv_at hl 1 rfl) ?_
  obtain ⟨r, σ1, σ2, e1, e2, hI2⟩ := op σ hI
  refine lx_cV (r := (some (.int r))) (rest := []) (As := []) ⟨hx, hb, hml, hown, hts⟩ (eL_half_cn e1 l g) (cwV 0 hts (gz_V mw_4_16 mw_4_17 mw_4_18 mw_1_1 mw_4_19) rfl rfl rfl hdV_X8_half ⟨Nat.le_of_ble_eq_true rfl, Nat.le_of_ble_eq_true rfl⟩) hK hAg hG (ga_0 g _) rfl rfl rfl hl.1 rfl (Nat.le_of_ble_eq_true rfl) dL_law_959 ⟨Nat.le_of_ble_eq_true rfl, Nat.le_of_ble_eq_true rfl⟩ (fun H locs hG => ?_)
  refine W.eq (g2 := F0 m 962 ls [.int r]) rfl ?_
  refine lv_aload_n hx hb dL_law_962 rfl (lv_at hl 2 rfl) ?_
  refine lx_cV (r := (some (.int r))) (rest := [.int r]) (As := []) ⟨hx, hb, hml, hown, hts⟩ (eM_half_cn e2 l g) (cwV 0 hts (gz_V mw_6_46 mw_6_47 mw_6_48 mw_1_11 mw_6_49) rfl rfl rfl hdV_X9_half ⟨Nat.le_of_ble_eq_true rfl, Nat.le_of_ble_eq_true rfl⟩) hK hAg hG (ga_50 g _) rfl rfl rfl hl.1 rfl (Nat.le_of_ble_eq_true rfl) dL_law_963 ⟨Nat.le_of_ble_eq_true rfl, Nat.le_of_ble_eq_true rfl⟩ (fun H locs hG => ?_)
  refine W.eq (g2 := F0 m 966 ls [.int r, .int r]) rfl ?_
  refine lv_icmp_eq (tgt := 1161) hx hb dL_law_966 (by decide) (fun _ => ?_) (fun c9 => absurd rfl c9)
  exact kk σ2 _ _ hI2 hG

set_option maxHeartbeats 4000000 in
set_option maxRecDepth 100000 in
theorem la_125 {p : Program} {l : Launch} {e : Env} {s : State} {m : MethodId} {below : List Frame} {meth : Method} {c : Code} {b L : Nat} {xs : Nat → Int32} (C0 : lw_At p s m meth c b L xs) {g : GC} (hK : g_K g s) (hAg : ∀ q, g_A g q → s.heap.size ≤ q) {k : Nat} (hk : k + 5 ≤ L) (hL : L ≤ 2560) {Inv : St → Prop} {σ : St} (hI : Inv σ) {H : Heap} {locs : List Loc} (hG : LWd g s σ H locs) {ls : Array Slot} (hl : lv_has ls 4 [(0, .ref b), (1, .ref (g.2.1 0)), (2, .ref (g.2.1 50)), (3, .int (nI k))]) (op : ∀ (σ : St), Inv σ → ∃ (r : Int32) (σ1 σ2 : St), eL_twice σ r σ1 ∧ eM_twice σ1 r σ2 ∧ Inv σ2) (kk : ∀ (σ2 : St) (H : Heap) (locs : List Loc), Inv σ2 → LWd g s σ2 H locs → W p l e room_1 s m #[Value.ref b] below meth c H locs 82 50159 (lw_Z below #[Value.ref b] s) (F0 m 1161 ls [])) : W p l e room_1 s m #[Value.ref b] below meth c H locs 82 50159 (lw_Z below #[Value.ref b] s) (F0 m 971 ls []) := by
  obtain ⟨hx, hb, hr, hml, hown, hts0, hX, hbl, hlocks, hgv⟩ := C0
  have hts : ∀ w ∈ wG, w.before #[Value.ref b] s = true := fun w h => hts0 w (List.mem_filter.mp h).1
  have hbA : ¬ (fun q : Nat => s.heap.size ≤ q) b := Nat.not_le.mpr hbl
  have hi1 : vp_in (nI k + (1 : Int32)) L := la_in (j := 1) rfl (by omega) hL
  have hi2 : vp_in (nI k + (2 : Int32)) L := la_in (j := 2) rfl (by omega) hL
  have hi3 : vp_in (nI k + (3 : Int32)) L := la_in (j := 3) rfl (by omega) hL
  have hi4 : vp_in (nI k + (4 : Int32)) L := la_in (j := 4) rfl (by omega) hL
  refine lv_aload_n hx hb dL_law_971 rfl (lv_at hl 1 rfl) ?_
  obtain ⟨r, σ1, σ2, e1, e2, hI2⟩ := op σ hI
  refine lx_cV (r := (some (.int r))) (rest := []) (As := []) ⟨hx, hb, hml, hown, hts⟩ (eL_twice_cn e1 l g) (cwV 0 hts (gz_V mw_4_20 mw_4_21 mw_4_22 mw_1_1 mw_4_23) rfl rfl rfl hdV_X8_twice ⟨Nat.le_of_ble_eq_true rfl, Nat.le_of_ble_eq_true rfl⟩) hK hAg hG (ga_0 g _) rfl rfl rfl hl.1 rfl (Nat.le_of_ble_eq_true rfl) dL_law_972 ⟨Nat.le_of_ble_eq_true rfl, Nat.le_of_ble_eq_true rfl⟩ (fun H locs hG => ?_)
  refine W.eq (g2 := F0 m 975 ls [.int r]) rfl ?_
  refine lv_aload_n hx hb dL_law_975 rfl (lv_at hl 2 rfl) ?_
  refine lx_cV (r := (some (.int r))) (rest := [.int r]) (As := []) ⟨hx, hb, hml, hown, hts⟩ (eM_twice_cn e2 l g) (cwV 0 hts (gz_V mw_6_50 mw_6_51 mw_6_52 mw_1_11 mw_6_53) rfl rfl rfl hdV_X9_twice ⟨Nat.le_of_ble_eq_true rfl, Nat.le_of_ble_eq_true rfl⟩) hK hAg hG (ga_50 g _) rfl rfl rfl hl.1 rfl (Nat.le_of_ble_eq_true rfl) dL_law_976 ⟨Nat.le_of_ble_eq_true rfl, Nat.le_of_ble_eq_true rfl⟩ (fun H locs hG => ?_)
  refine W.eq (g2 := F0 m 979 ls [.int r, .int r]) rfl ?_
  refine lv_icmp_eq (tgt := 1161) hx hb dL_law_979 (by decide) (fun _ => ?_) (fun c9 => absurd rfl c9)
  exact kk σ2 _ _ hI2 hG

set_option maxHeartbeats 4000000 in
set_option maxRecDepth 100000 in
theorem la_126 {p : Program} {l : Launch} {e : Env} {s : State} {m : MethodId} {below : List Frame} {meth : Method} {c : Code} {b L : Nat} {xs : Nat → Int32} (C0 : lw_At p s m meth c b L xs) {g : GC} (hK : g_K g s) (hAg : ∀ q, g_A g q → s.heap.size ≤ q) {k : Nat} (hk : k + 5 ≤ L) (hL : L ≤ 2560) {Inv : St → Prop} {σ : St} (hI : Inv σ) {H : Heap} {locs : List Loc} (hG : LWd g s σ H locs) {ls : Array Slot} (hl : lv_has ls 4 [(0, .ref b), (1, .ref (g.2.1 0)), (2, .ref (g.2.1 50)), (3, .int (nI k))]) (op : ∀ (σ : St) (x1 : Int32), Inv σ → ∃ (r : Int32) (σ1 σ2 : St), eL_power x1 σ r σ1 ∧ eM_power x1 σ1 r σ2 ∧ Inv σ2) (kk : ∀ (σ2 : St) (H : Heap) (locs : List Loc), Inv σ2 → LWd g s σ2 H locs → W p l e room_1 s m #[Value.ref b] below meth c H locs 82 50159 (lw_Z below #[Value.ref b] s) (F0 m 1161 ls [])) : W p l e room_1 s m #[Value.ref b] below meth c H locs 82 50159 (lw_Z below #[Value.ref b] s) (F0 m 984 ls []) := by
  obtain ⟨hx, hb, hr, hml, hown, hts0, hX, hbl, hlocks, hgv⟩ := C0
  have hts : ∀ w ∈ wG, w.before #[Value.ref b] s = true := fun w h => hts0 w (List.mem_filter.mp h).1
  have hbA : ¬ (fun q : Nat => s.heap.size ≤ q) b := Nat.not_le.mpr hbl
  have hi1 : vp_in (nI k + (1 : Int32)) L := la_in (j := 1) rfl (by omega) hL
  have hi2 : vp_in (nI k + (2 : Int32)) L := la_in (j := 2) rfl (by omega) hL
  have hi3 : vp_in (nI k + (3 : Int32)) L := la_in (j := 3) rfl (by omega) hL
  have hi4 : vp_in (nI k + (4 : Int32)) L := la_in (j := 4) rfl (by omega) hL
  refine lv_aload_n hx hb dL_law_984 rfl (lv_at hl 1 rfl) ?_
  refine lv_aload_n hx hb dL_law_985 rfl (lv_at hl 0 rfl) ?_
  refine lv_iload_n hx hb dL_law_986 rfl (lv_at hl 3 rfl) ?_
  refine lv_iconst (v := (1 : Int32)) hx hb dL_law_987 (by decide) ?_
  refine lv_iadd hx hb dL_law_988 ?_
  refine va_sld hx hb hX hbl hbA hG.2 hi1 dL_law_989 ?_
  obtain ⟨r, σ1, σ2, e1, e2, hI2⟩ := op σ (xs ((nI k + (1 : Int32)).toNatClampNeg)) hI
  refine lx_cV (r := (some (.int r))) (rest := []) (As := [.int (xs ((nI k + (1 : Int32)).toNatClampNeg))]) ⟨hx, hb, hml, hown, hts⟩ (eL_power_cn e1 l g) (cwV 1 hts (gz_V mw_4_24 mw_4_25 mw_4_26 mw_1_1 mw_4_27) rfl rfl rfl hdV_X8_power ⟨Nat.le_of_ble_eq_true rfl, Nat.le_of_ble_eq_true rfl⟩) hK hAg hG (ga_0 g _) rfl rfl rfl hl.1 rfl (Nat.le_of_ble_eq_true rfl) dL_law_990 ⟨Nat.le_of_ble_eq_true rfl, Nat.le_of_ble_eq_true rfl⟩ (fun H locs hG => ?_)
  refine W.eq (g2 := F0 m 993 ls [.int r]) rfl ?_
  refine lv_aload_n hx hb dL_law_993 rfl (lv_at hl 2 rfl) ?_
  refine lv_aload_n hx hb dL_law_994 rfl (lv_at hl 0 rfl) ?_
  refine lv_iload_n hx hb dL_law_995 rfl (lv_at hl 3 rfl) ?_
  refine lv_iconst (v := (1 : Int32)) hx hb dL_law_996 (by decide) ?_
  refine lv_iadd hx hb dL_law_997 ?_
  refine va_sld hx hb hX hbl hbA hG.2 hi1 dL_law_998 ?_
  refine lx_cV (r := (some (.int r))) (rest := [.int r]) (As := [.int (xs ((nI k + (1 : Int32)).toNatClampNeg))]) ⟨hx, hb, hml, hown, hts⟩ (eM_power_cn e2 l g) (cwV 1 hts (gz_V mw_6_54 mw_6_55 mw_6_56 mw_1_11 mw_6_57) rfl rfl rfl hdV_X9_power_ ⟨Nat.le_of_ble_eq_true rfl, Nat.le_of_ble_eq_true rfl⟩) hK hAg hG (ga_50 g _) rfl rfl rfl hl.1 rfl (Nat.le_of_ble_eq_true rfl) dL_law_999 ⟨Nat.le_of_ble_eq_true rfl, Nat.le_of_ble_eq_true rfl⟩ (fun H locs hG => ?_)
  refine W.eq (g2 := F0 m 1002 ls [.int r, .int r]) rfl ?_
  refine lv_icmp_eq (tgt := 1161) hx hb dL_law_1002 (by decide) (fun _ => ?_) (fun c9 => absurd rfl c9)
  exact kk σ2 _ _ hI2 hG

set_option maxHeartbeats 4000000 in
set_option maxRecDepth 100000 in
theorem la_127 {p : Program} {l : Launch} {e : Env} {s : State} {m : MethodId} {below : List Frame} {meth : Method} {c : Code} {b L : Nat} {xs : Nat → Int32} (C0 : lw_At p s m meth c b L xs) {g : GC} (hK : g_K g s) (hAg : ∀ q, g_A g q → s.heap.size ≤ q) {k : Nat} (hk : k + 5 ≤ L) (hL : L ≤ 2560) {Inv : St → Prop} {σ : St} (hI : Inv σ) {H : Heap} {locs : List Loc} (hG : LWd g s σ H locs) {ls : Array Slot} (hl : lv_has ls 4 [(0, .ref b), (1, .ref (g.2.1 0)), (2, .ref (g.2.1 50)), (3, .int (nI k))]) (op : ∀ (σ : St), Inv σ → ∃ (r : Int32) (σ1 σ2 : St), eL_other σ r σ1 ∧ eM_other σ1 r σ2 ∧ Inv σ2) (kk : ∀ (σ2 : St) (H : Heap) (locs : List Loc), Inv σ2 → LWd g s σ2 H locs → W p l e room_1 s m #[Value.ref b] below meth c H locs 82 50159 (lw_Z below #[Value.ref b] s) (F0 m 1161 ls [])) : W p l e room_1 s m #[Value.ref b] below meth c H locs 82 50159 (lw_Z below #[Value.ref b] s) (F0 m 1007 ls []) := by
  obtain ⟨hx, hb, hr, hml, hown, hts0, hX, hbl, hlocks, hgv⟩ := C0
  have hts : ∀ w ∈ wG, w.before #[Value.ref b] s = true := fun w h => hts0 w (List.mem_filter.mp h).1
  have hbA : ¬ (fun q : Nat => s.heap.size ≤ q) b := Nat.not_le.mpr hbl
  have hi1 : vp_in (nI k + (1 : Int32)) L := la_in (j := 1) rfl (by omega) hL
  have hi2 : vp_in (nI k + (2 : Int32)) L := la_in (j := 2) rfl (by omega) hL
  have hi3 : vp_in (nI k + (3 : Int32)) L := la_in (j := 3) rfl (by omega) hL
  have hi4 : vp_in (nI k + (4 : Int32)) L := la_in (j := 4) rfl (by omega) hL
  refine lv_aload_n hx hb dL_law_1007 rfl (lv_at hl 1 rfl) ?_
  obtain ⟨r, σ1, σ2, e1, e2, hI2⟩ := op σ hI
  refine lx_cV (r := (some (.int r))) (rest := []) (As := []) ⟨hx, hb, hml, hown, hts⟩ (eL_other_cn e1 l g) (cwV 0 hts (gz_V mw_4_28 mw_4_29 mw_4_30 mw_1_1 mw_4_31) rfl rfl rfl hdV_X8_other ⟨Nat.le_of_ble_eq_true rfl, Nat.le_of_ble_eq_true rfl⟩) hK hAg hG (ga_0 g _) rfl rfl rfl hl.1 rfl (Nat.le_of_ble_eq_true rfl) dL_law_1008 ⟨Nat.le_of_ble_eq_true rfl, Nat.le_of_ble_eq_true rfl⟩ (fun H locs hG => ?_)
  refine W.eq (g2 := F0 m 1011 ls [.int r]) rfl ?_
  refine lv_aload_n hx hb dL_law_1011 rfl (lv_at hl 2 rfl) ?_
  refine lx_cV (r := (some (.int r))) (rest := [.int r]) (As := []) ⟨hx, hb, hml, hown, hts⟩ (eM_other_cn e2 l g) (cwV 0 hts (gz_V mw_6_58 mw_6_59 mw_6_60 mw_1_11 mw_6_61) rfl rfl rfl hdV_X9_other ⟨Nat.le_of_ble_eq_true rfl, Nat.le_of_ble_eq_true rfl⟩) hK hAg hG (ga_50 g _) rfl rfl rfl hl.1 rfl (Nat.le_of_ble_eq_true rfl) dL_law_1012 ⟨Nat.le_of_ble_eq_true rfl, Nat.le_of_ble_eq_true rfl⟩ (fun H locs hG => ?_)
  refine W.eq (g2 := F0 m 1015 ls [.int r, .int r]) rfl ?_
  refine lv_icmp_eq (tgt := 1161) hx hb dL_law_1015 (by decide) (fun _ => ?_) (fun c9 => absurd rfl c9)
  exact kk σ2 _ _ hI2 hG

set_option maxHeartbeats 4000000 in
set_option maxRecDepth 100000 in
theorem la_128 {p : Program} {l : Launch} {e : Env} {s : State} {m : MethodId} {below : List Frame} {meth : Method} {c : Code} {b L : Nat} {xs : Nat → Int32} (C0 : lw_At p s m meth c b L xs) {g : GC} (hK : g_K g s) (hAg : ∀ q, g_A g q → s.heap.size ≤ q) {k : Nat} (hk : k + 5 ≤ L) (hL : L ≤ 2560) {Inv : St → Prop} {σ : St} (hI : Inv σ) {H : Heap} {locs : List Loc} (hG : LWd g s σ H locs) {ls : Array Slot} (hl : lv_has ls 4 [(0, .ref b), (1, .ref (g.2.1 0)), (2, .ref (g.2.1 50)), (3, .int (nI k))]) (op : ∀ (σ : St), Inv σ → ∃ (r : Int32) (σ1 σ2 : St), eL_lines σ r σ1 ∧ eM_lines σ1 r σ2 ∧ Inv σ2) (kk : ∀ (σ2 : St) (H : Heap) (locs : List Loc), Inv σ2 → LWd g s σ2 H locs → W p l e room_1 s m #[Value.ref b] below meth c H locs 82 50159 (lw_Z below #[Value.ref b] s) (F0 m 1161 ls [])) : W p l e room_1 s m #[Value.ref b] below meth c H locs 82 50159 (lw_Z below #[Value.ref b] s) (F0 m 1020 ls []) := by
  obtain ⟨hx, hb, hr, hml, hown, hts0, hX, hbl, hlocks, hgv⟩ := C0
  have hts : ∀ w ∈ wG, w.before #[Value.ref b] s = true := fun w h => hts0 w (List.mem_filter.mp h).1
  have hbA : ¬ (fun q : Nat => s.heap.size ≤ q) b := Nat.not_le.mpr hbl
  have hi1 : vp_in (nI k + (1 : Int32)) L := la_in (j := 1) rfl (by omega) hL
  have hi2 : vp_in (nI k + (2 : Int32)) L := la_in (j := 2) rfl (by omega) hL
  have hi3 : vp_in (nI k + (3 : Int32)) L := la_in (j := 3) rfl (by omega) hL
  have hi4 : vp_in (nI k + (4 : Int32)) L := la_in (j := 4) rfl (by omega) hL
  refine lv_aload_n hx hb dL_law_1020 rfl (lv_at hl 1 rfl) ?_
  obtain ⟨r, σ1, σ2, e1, e2, hI2⟩ := op σ hI
  refine lx_cV (r := (some (.int r))) (rest := []) (As := []) ⟨hx, hb, hml, hown, hts⟩ (eL_lines_cn e1 l g) (cwV 0 hts (gz_V mw_4_32 mw_4_33 mw_4_34 mw_1_1 mw_4_35) rfl rfl rfl hdV_X8_lines ⟨Nat.le_of_ble_eq_true rfl, Nat.le_of_ble_eq_true rfl⟩) hK hAg hG (ga_0 g _) rfl rfl rfl hl.1 rfl (Nat.le_of_ble_eq_true rfl) dL_law_1021 ⟨Nat.le_of_ble_eq_true rfl, Nat.le_of_ble_eq_true rfl⟩ (fun H locs hG => ?_)
  refine W.eq (g2 := F0 m 1024 ls [.int r]) rfl ?_
  refine lv_aload_n hx hb dL_law_1024 rfl (lv_at hl 2 rfl) ?_
  refine lx_cV (r := (some (.int r))) (rest := [.int r]) (As := []) ⟨hx, hb, hml, hown, hts⟩ (eM_lines_cn e2 l g) (cwV 0 hts (gz_V mw_6_62 mw_6_63 mw_6_64 mw_1_11 mw_6_65) rfl rfl rfl hdV_X9_lines ⟨Nat.le_of_ble_eq_true rfl, Nat.le_of_ble_eq_true rfl⟩) hK hAg hG (ga_50 g _) rfl rfl rfl hl.1 rfl (Nat.le_of_ble_eq_true rfl) dL_law_1025 ⟨Nat.le_of_ble_eq_true rfl, Nat.le_of_ble_eq_true rfl⟩ (fun H locs hG => ?_)
  refine W.eq (g2 := F0 m 1028 ls [.int r, .int r]) rfl ?_
  refine lv_icmp_eq (tgt := 1161) hx hb dL_law_1028 (by decide) (fun _ => ?_) (fun c9 => absurd rfl c9)
  exact kk σ2 _ _ hI2 hG

set_option maxHeartbeats 4000000 in
set_option maxRecDepth 100000 in
theorem la_129 {p : Program} {l : Launch} {e : Env} {s : State} {m : MethodId} {below : List Frame} {meth : Method} {c : Code} {b L : Nat} {xs : Nat → Int32} (C0 : lw_At p s m meth c b L xs) {g : GC} (hK : g_K g s) (hAg : ∀ q, g_A g q → s.heap.size ≤ q) {k : Nat} (hk : k + 5 ≤ L) (hL : L ≤ 2560) {Inv : St → Prop} {σ : St} (hI : Inv σ) {H : Heap} {locs : List Loc} (hG : LWd g s σ H locs) {ls : Array Slot} (hl : lv_has ls 4 [(0, .ref b), (1, .ref (g.2.1 0)), (2, .ref (g.2.1 50)), (3, .int (nI k))]) (op : ∀ (σ : St), Inv σ → ∃ (r : Int32) (σ1 σ2 : St), eL_keep σ r σ1 ∧ eM_keep σ1 r σ2 ∧ Inv σ2) (kk : ∀ (σ2 : St) (H : Heap) (locs : List Loc), Inv σ2 → LWd g s σ2 H locs → W p l e room_1 s m #[Value.ref b] below meth c H locs 82 50159 (lw_Z below #[Value.ref b] s) (F0 m 1161 ls [])) : W p l e room_1 s m #[Value.ref b] below meth c H locs 82 50159 (lw_Z below #[Value.ref b] s) (F0 m 1033 ls []) := by
  obtain ⟨hx, hb, hr, hml, hown, hts0, hX, hbl, hlocks, hgv⟩ := C0
  have hts : ∀ w ∈ wG, w.before #[Value.ref b] s = true := fun w h => hts0 w (List.mem_filter.mp h).1
  have hbA : ¬ (fun q : Nat => s.heap.size ≤ q) b := Nat.not_le.mpr hbl
  have hi1 : vp_in (nI k + (1 : Int32)) L := la_in (j := 1) rfl (by omega) hL
  have hi2 : vp_in (nI k + (2 : Int32)) L := la_in (j := 2) rfl (by omega) hL
  have hi3 : vp_in (nI k + (3 : Int32)) L := la_in (j := 3) rfl (by omega) hL
  have hi4 : vp_in (nI k + (4 : Int32)) L := la_in (j := 4) rfl (by omega) hL
  refine lv_aload_n hx hb dL_law_1033 rfl (lv_at hl 1 rfl) ?_
  obtain ⟨r, σ1, σ2, e1, e2, hI2⟩ := op σ hI
  refine lx_cV (r := (some (.int r))) (rest := []) (As := []) ⟨hx, hb, hml, hown, hts⟩ (eL_keep_cn e1 l g) (cwV 0 hts (gz_V mw_4_40 mw_4_41 mw_4_42 mw_1_1 mw_4_43) rfl rfl rfl hdV_X8_keep ⟨Nat.le_of_ble_eq_true rfl, Nat.le_of_ble_eq_true rfl⟩) hK hAg hG (ga_0 g _) rfl rfl rfl hl.1 rfl (Nat.le_of_ble_eq_true rfl) dL_law_1034 ⟨Nat.le_of_ble_eq_true rfl, Nat.le_of_ble_eq_true rfl⟩ (fun H locs hG => ?_)
  refine W.eq (g2 := F0 m 1037 ls [.int r]) rfl ?_
  refine lv_aload_n hx hb dL_law_1037 rfl (lv_at hl 2 rfl) ?_
  refine lx_cV (r := (some (.int r))) (rest := [.int r]) (As := []) ⟨hx, hb, hml, hown, hts⟩ (eM_keep_cn e2 l g) (cwV 0 hts (gz_V mw_6_66 mw_6_67 mw_6_68 mw_1_11 mw_6_69) rfl rfl rfl hdV_X9_keep ⟨Nat.le_of_ble_eq_true rfl, Nat.le_of_ble_eq_true rfl⟩) hK hAg hG (ga_50 g _) rfl rfl rfl hl.1 rfl (Nat.le_of_ble_eq_true rfl) dL_law_1038 ⟨Nat.le_of_ble_eq_true rfl, Nat.le_of_ble_eq_true rfl⟩ (fun H locs hG => ?_)
  refine W.eq (g2 := F0 m 1041 ls [.int r, .int r]) rfl ?_
  refine lv_icmp_eq (tgt := 1161) hx hb dL_law_1041 (by decide) (fun _ => ?_) (fun c9 => absurd rfl c9)
  exact kk σ2 _ _ hI2 hG

set_option maxHeartbeats 4000000 in
set_option maxRecDepth 100000 in
theorem la_130 {p : Program} {l : Launch} {e : Env} {s : State} {m : MethodId} {below : List Frame} {meth : Method} {c : Code} {b L : Nat} {xs : Nat → Int32} (C0 : lw_At p s m meth c b L xs) {g : GC} (hK : g_K g s) (hAg : ∀ q, g_A g q → s.heap.size ≤ q) {k : Nat} (hk : k + 5 ≤ L) (hL : L ≤ 2560) {Inv : St → Prop} {σ : St} (hI : Inv σ) {H : Heap} {locs : List Loc} (hG : LWd g s σ H locs) {ls : Array Slot} (hl : lv_has ls 4 [(0, .ref b), (1, .ref (g.2.1 0)), (2, .ref (g.2.1 50)), (3, .int (nI k))]) (op : ∀ (σ : St), Inv σ → ∃ (r : Int32) (σ1 σ2 : St), eL_back σ r σ1 ∧ eM_back σ1 r σ2 ∧ Inv σ2) (kk : ∀ (σ2 : St) (H : Heap) (locs : List Loc), Inv σ2 → LWd g s σ2 H locs → W p l e room_1 s m #[Value.ref b] below meth c H locs 82 50159 (lw_Z below #[Value.ref b] s) (F0 m 1161 ls [])) : W p l e room_1 s m #[Value.ref b] below meth c H locs 82 50159 (lw_Z below #[Value.ref b] s) (F0 m 1046 ls []) := by
  obtain ⟨hx, hb, hr, hml, hown, hts0, hX, hbl, hlocks, hgv⟩ := C0
  have hts : ∀ w ∈ wG, w.before #[Value.ref b] s = true := fun w h => hts0 w (List.mem_filter.mp h).1
  have hbA : ¬ (fun q : Nat => s.heap.size ≤ q) b := Nat.not_le.mpr hbl
  have hi1 : vp_in (nI k + (1 : Int32)) L := la_in (j := 1) rfl (by omega) hL
  have hi2 : vp_in (nI k + (2 : Int32)) L := la_in (j := 2) rfl (by omega) hL
  have hi3 : vp_in (nI k + (3 : Int32)) L := la_in (j := 3) rfl (by omega) hL
  have hi4 : vp_in (nI k + (4 : Int32)) L := la_in (j := 4) rfl (by omega) hL
  refine lv_aload_n hx hb dL_law_1046 rfl (lv_at hl 1 rfl) ?_
  obtain ⟨r, σ1, σ2, e1, e2, hI2⟩ := op σ hI
  refine lx_cV (r := (some (.int r))) (rest := []) (As := []) ⟨hx, hb, hml, hown, hts⟩ (eL_back_cn e1 l g) (cwV 0 hts (gz_V mw_4_44 mw_4_45 mw_4_46 mw_1_1 mw_4_47) rfl rfl rfl hdV_X8_back ⟨Nat.le_of_ble_eq_true rfl, Nat.le_of_ble_eq_true rfl⟩) hK hAg hG (ga_0 g _) rfl rfl rfl hl.1 rfl (Nat.le_of_ble_eq_true rfl) dL_law_1047 ⟨Nat.le_of_ble_eq_true rfl, Nat.le_of_ble_eq_true rfl⟩ (fun H locs hG => ?_)
  refine W.eq (g2 := F0 m 1050 ls [.int r]) rfl ?_
  refine lv_aload_n hx hb dL_law_1050 rfl (lv_at hl 2 rfl) ?_
  refine lx_cV (r := (some (.int r))) (rest := [.int r]) (As := []) ⟨hx, hb, hml, hown, hts⟩ (eM_back_cn e2 l g) (cwV 0 hts (gz_V mw_6_70 mw_6_71 mw_6_72 mw_1_11 mw_6_73) rfl rfl rfl hdV_X9_back ⟨Nat.le_of_ble_eq_true rfl, Nat.le_of_ble_eq_true rfl⟩) hK hAg hG (ga_50 g _) rfl rfl rfl hl.1 rfl (Nat.le_of_ble_eq_true rfl) dL_law_1051 ⟨Nat.le_of_ble_eq_true rfl, Nat.le_of_ble_eq_true rfl⟩ (fun H locs hG => ?_)
  refine W.eq (g2 := F0 m 1054 ls [.int r, .int r]) rfl ?_
  refine lv_icmp_eq (tgt := 1161) hx hb dL_law_1054 (by decide) (fun _ => ?_) (fun c9 => absurd rfl c9)
  exact kk σ2 _ _ hI2 hG

set_option maxHeartbeats 4000000 in
set_option maxRecDepth 100000 in
theorem la_131 {p : Program} {l : Launch} {e : Env} {s : State} {m : MethodId} {below : List Frame} {meth : Method} {c : Code} {b L : Nat} {xs : Nat → Int32} (C0 : lw_At p s m meth c b L xs) {g : GC} (hK : g_K g s) (hAg : ∀ q, g_A g q → s.heap.size ≤ q) {k : Nat} (hk : k + 5 ≤ L) (hL : L ≤ 2560) {Inv : St → Prop} {σ : St} (hI : Inv σ) {H : Heap} {locs : List Loc} (hG : LWd g s σ H locs) {ls : Array Slot} (hl : lv_has ls 4 [(0, .ref b), (1, .ref (g.2.1 0)), (2, .ref (g.2.1 50)), (3, .int (nI k))]) (op : ∀ (σ : St) (x1 : Int32), Inv σ → ∃ (r : Int32) (σ1 σ2 : St), eL_perfect x1 σ r σ1 ∧ eM_perfect x1 σ1 r σ2 ∧ Inv σ2) (kk : ∀ (σ2 : St) (H : Heap) (locs : List Loc), Inv σ2 → LWd g s σ2 H locs → W p l e room_1 s m #[Value.ref b] below meth c H locs 82 50159 (lw_Z below #[Value.ref b] s) (F0 m 1161 ls [])) : W p l e room_1 s m #[Value.ref b] below meth c H locs 82 50159 (lw_Z below #[Value.ref b] s) (F0 m 1059 ls []) := by
  obtain ⟨hx, hb, hr, hml, hown, hts0, hX, hbl, hlocks, hgv⟩ := C0
  have hts : ∀ w ∈ wG, w.before #[Value.ref b] s = true := fun w h => hts0 w (List.mem_filter.mp h).1
  have hbA : ¬ (fun q : Nat => s.heap.size ≤ q) b := Nat.not_le.mpr hbl
  have hi1 : vp_in (nI k + (1 : Int32)) L := la_in (j := 1) rfl (by omega) hL
  have hi2 : vp_in (nI k + (2 : Int32)) L := la_in (j := 2) rfl (by omega) hL
  have hi3 : vp_in (nI k + (3 : Int32)) L := la_in (j := 3) rfl (by omega) hL
  have hi4 : vp_in (nI k + (4 : Int32)) L := la_in (j := 4) rfl (by omega) hL
  refine lv_aload_n hx hb dL_law_1059 rfl (lv_at hl 1 rfl) ?_
  refine lv_aload_n hx hb dL_law_1060 rfl (lv_at hl 0 rfl) ?_
  refine lv_iload_n hx hb dL_law_1061 rfl (lv_at hl 3 rfl) ?_
  refine lv_iconst (v := (1 : Int32)) hx hb dL_law_1062 (by decide) ?_
  refine lv_iadd hx hb dL_law_1063 ?_
  refine va_sld hx hb hX hbl hbA hG.2 hi1 dL_law_1064 ?_
  obtain ⟨r, σ1, σ2, e1, e2, hI2⟩ := op σ (xs ((nI k + (1 : Int32)).toNatClampNeg)) hI
  refine lx_cV (r := (some (.int r))) (rest := []) (As := [.int (xs ((nI k + (1 : Int32)).toNatClampNeg))]) ⟨hx, hb, hml, hown, hts⟩ (eL_perfect_cn e1 l g) (cwV 1 hts (gz_V mw_4_48 mw_4_49 mw_4_50 mw_1_1 mw_4_51) rfl rfl rfl hdV_X8_perfect ⟨Nat.le_of_ble_eq_true rfl, Nat.le_of_ble_eq_true rfl⟩) hK hAg hG (ga_0 g _) rfl rfl rfl hl.1 rfl (Nat.le_of_ble_eq_true rfl) dL_law_1065 ⟨Nat.le_of_ble_eq_true rfl, Nat.le_of_ble_eq_true rfl⟩ (fun H locs hG => ?_)
  refine W.eq (g2 := F0 m 1068 ls [.int r]) rfl ?_
  refine lv_aload_n hx hb dL_law_1068 rfl (lv_at hl 2 rfl) ?_
  refine lv_aload_n hx hb dL_law_1069 rfl (lv_at hl 0 rfl) ?_
  refine lv_iload_n hx hb dL_law_1070 rfl (lv_at hl 3 rfl) ?_
  refine lv_iconst (v := (1 : Int32)) hx hb dL_law_1071 (by decide) ?_
  refine lv_iadd hx hb dL_law_1072 ?_
  refine va_sld hx hb hX hbl hbA hG.2 hi1 dL_law_1073 ?_
  refine lx_cV (r := (some (.int r))) (rest := [.int r]) (As := [.int (xs ((nI k + (1 : Int32)).toNatClampNeg))]) ⟨hx, hb, hml, hown, hts⟩ (eM_perfect_cn e2 l g) (cwV 1 hts (gz_V mw_6_74 mw_6_75 mw_6_76 mw_1_11 mw_6_77) rfl rfl rfl hdV_X9_perfect ⟨Nat.le_of_ble_eq_true rfl, Nat.le_of_ble_eq_true rfl⟩) hK hAg hG (ga_50 g _) rfl rfl rfl hl.1 rfl (Nat.le_of_ble_eq_true rfl) dL_law_1074 ⟨Nat.le_of_ble_eq_true rfl, Nat.le_of_ble_eq_true rfl⟩ (fun H locs hG => ?_)
  refine W.eq (g2 := F0 m 1077 ls [.int r, .int r]) rfl ?_
  refine lv_icmp_eq (tgt := 1161) hx hb dL_law_1077 (by decide) (fun _ => ?_) (fun c9 => absurd rfl c9)
  exact kk σ2 _ _ hI2 hG

set_option maxHeartbeats 4000000 in
set_option maxRecDepth 100000 in
theorem la_132 {p : Program} {l : Launch} {e : Env} {s : State} {m : MethodId} {below : List Frame} {meth : Method} {c : Code} {b L : Nat} {xs : Nat → Int32} (C0 : lw_At p s m meth c b L xs) {g : GC} (hK : g_K g s) (hAg : ∀ q, g_A g q → s.heap.size ≤ q) {k : Nat} (hk : k + 5 ≤ L) (hL : L ≤ 2560) {Inv : St → Prop} {σ : St} (hI : Inv σ) {H : Heap} {locs : List Loc} (hG : LWd g s σ H locs) {ls : Array Slot} (hl : lv_has ls 4 [(0, .ref b), (1, .ref (g.2.1 0)), (2, .ref (g.2.1 50)), (3, .int (nI k))]) (op : ∀ (σ : St) (x1 x2 : Int32), Inv σ → ∃ (r : Int32) (σ1 σ2 : St), eL_heap x1 x2 σ r σ1 ∧ eM_heap x1 x2 σ1 r σ2 ∧ Inv σ2) (kk : ∀ (σ2 : St) (H : Heap) (locs : List Loc), Inv σ2 → LWd g s σ2 H locs → W p l e room_1 s m #[Value.ref b] below meth c H locs 82 50159 (lw_Z below #[Value.ref b] s) (F0 m 1161 ls [])) : W p l e room_1 s m #[Value.ref b] below meth c H locs 82 50159 (lw_Z below #[Value.ref b] s) (F0 m 1082 ls []) := by
  obtain ⟨hx, hb, hr, hml, hown, hts0, hX, hbl, hlocks, hgv⟩ := C0
  have hts : ∀ w ∈ wG, w.before #[Value.ref b] s = true := fun w h => hts0 w (List.mem_filter.mp h).1
  have hbA : ¬ (fun q : Nat => s.heap.size ≤ q) b := Nat.not_le.mpr hbl
  have hi1 : vp_in (nI k + (1 : Int32)) L := la_in (j := 1) rfl (by omega) hL
  have hi2 : vp_in (nI k + (2 : Int32)) L := la_in (j := 2) rfl (by omega) hL
  have hi3 : vp_in (nI k + (3 : Int32)) L := la_in (j := 3) rfl (by omega) hL
  have hi4 : vp_in (nI k + (4 : Int32)) L := la_in (j := 4) rfl (by omega) hL
  refine lv_aload_n hx hb dL_law_1082 rfl (lv_at hl 1 rfl) ?_
  refine lv_aload_n hx hb dL_law_1083 rfl (lv_at hl 0 rfl) ?_
  refine lv_iload_n hx hb dL_law_1084 rfl (lv_at hl 3 rfl) ?_
  refine lv_iconst (v := (1 : Int32)) hx hb dL_law_1085 (by decide) ?_
  refine lv_iadd hx hb dL_law_1086 ?_
  refine va_sld hx hb hX hbl hbA hG.2 hi1 dL_law_1087 ?_
  refine lv_aload_n hx hb dL_law_1088 rfl (lv_at hl 0 rfl) ?_
  refine lv_iload_n hx hb dL_law_1089 rfl (lv_at hl 3 rfl) ?_
  refine lv_iconst (v := (2 : Int32)) hx hb dL_law_1090 (by decide) ?_
  refine lv_iadd hx hb dL_law_1091 ?_
  refine va_sld hx hb hX hbl hbA hG.2 hi2 dL_law_1092 ?_
  obtain ⟨r, σ1, σ2, e1, e2, hI2⟩ := op σ (xs ((nI k + (1 : Int32)).toNatClampNeg)) (xs ((nI k + (2 : Int32)).toNatClampNeg)) hI
  refine lx_cV (r := (some (.int r))) (rest := []) (As := [.int (xs ((nI k + (1 : Int32)).toNatClampNeg)), .int (xs ((nI k + (2 : Int32)).toNatClampNeg))]) ⟨hx, hb, hml, hown, hts⟩ (eL_heap_cn e1 l g) (cwV 2 hts (gz_V mw_4_72 mw_4_73 mw_4_74 mw_1_1 mw_4_75) rfl rfl rfl hdV_X8_heap ⟨Nat.le_of_ble_eq_true rfl, Nat.le_of_ble_eq_true rfl⟩) hK hAg hG (ga_0 g _) rfl rfl rfl hl.1 rfl (Nat.le_of_ble_eq_true rfl) dL_law_1093 ⟨Nat.le_of_ble_eq_true rfl, Nat.le_of_ble_eq_true rfl⟩ (fun H locs hG => ?_)
  refine W.eq (g2 := F0 m 1096 ls [.int r]) rfl ?_
  refine lv_aload_n hx hb dL_law_1096 rfl (lv_at hl 2 rfl) ?_
  refine lv_aload_n hx hb dL_law_1097 rfl (lv_at hl 0 rfl) ?_
  refine lv_iload_n hx hb dL_law_1098 rfl (lv_at hl 3 rfl) ?_
  refine lv_iconst (v := (1 : Int32)) hx hb dL_law_1099 (by decide) ?_
  refine lv_iadd hx hb dL_law_1100 ?_
  refine va_sld hx hb hX hbl hbA hG.2 hi1 dL_law_1101 ?_
  refine lv_aload_n hx hb dL_law_1102 rfl (lv_at hl 0 rfl) ?_
  refine lv_iload_n hx hb dL_law_1103 rfl (lv_at hl 3 rfl) ?_
  refine lv_iconst (v := (2 : Int32)) hx hb dL_law_1104 (by decide) ?_
  refine lv_iadd hx hb dL_law_1105 ?_
  refine va_sld hx hb hX hbl hbA hG.2 hi2 dL_law_1106 ?_
  refine lx_cV (r := (some (.int r))) (rest := [.int r]) (As := [.int (xs ((nI k + (1 : Int32)).toNatClampNeg)), .int (xs ((nI k + (2 : Int32)).toNatClampNeg))]) ⟨hx, hb, hml, hown, hts⟩ (eM_heap_cn e2 l g) (cwV 2 hts (gz_V mw_6_90 mw_6_91 mw_6_92 mw_1_11 mw_6_93) rfl rfl rfl hdV_X9_heap ⟨Nat.le_of_ble_eq_true rfl, Nat.le_of_ble_eq_true rfl⟩) hK hAg hG (ga_50 g _) rfl rfl rfl hl.1 rfl (Nat.le_of_ble_eq_true rfl) dL_law_1107 ⟨Nat.le_of_ble_eq_true rfl, Nat.le_of_ble_eq_true rfl⟩ (fun H locs hG => ?_)
  refine W.eq (g2 := F0 m 1110 ls [.int r, .int r]) rfl ?_
  refine lv_icmp_eq (tgt := 1161) hx hb dL_law_1110 (by decide) (fun _ => ?_) (fun c9 => absurd rfl c9)
  exact kk σ2 _ _ hI2 hG

set_option maxHeartbeats 4000000 in
set_option maxRecDepth 100000 in
theorem la_133 {p : Program} {l : Launch} {e : Env} {s : State} {m : MethodId} {below : List Frame} {meth : Method} {c : Code} {b L : Nat} {xs : Nat → Int32} (C0 : lw_At p s m meth c b L xs) {g : GC} (hK : g_K g s) (hAg : ∀ q, g_A g q → s.heap.size ≤ q) {k : Nat} (hk : k + 5 ≤ L) (hL : L ≤ 2560) {Inv : St → Prop} {σ : St} (hI : Inv σ) {H : Heap} {locs : List Loc} (hG : LWd g s σ H locs) {ls : Array Slot} (hl : lv_has ls 4 [(0, .ref b), (1, .ref (g.2.1 0)), (2, .ref (g.2.1 50)), (3, .int (nI k))]) (op : ∀ (σ : St), Inv σ → ∃ (r : Int32) (σ1 σ2 : St), eL_kinds σ r σ1 ∧ eM_kinds σ1 r σ2 ∧ Inv σ2) (kk : ∀ (σ2 : St) (H : Heap) (locs : List Loc), Inv σ2 → LWd g s σ2 H locs → W p l e room_1 s m #[Value.ref b] below meth c H locs 82 50159 (lw_Z below #[Value.ref b] s) (F0 m 1161 ls [])) : W p l e room_1 s m #[Value.ref b] below meth c H locs 82 50159 (lw_Z below #[Value.ref b] s) (F0 m 1115 ls []) := by
  obtain ⟨hx, hb, hr, hml, hown, hts0, hX, hbl, hlocks, hgv⟩ := C0
  have hts : ∀ w ∈ wG, w.before #[Value.ref b] s = true := fun w h => hts0 w (List.mem_filter.mp h).1
  have hbA : ¬ (fun q : Nat => s.heap.size ≤ q) b := Nat.not_le.mpr hbl
  have hi1 : vp_in (nI k + (1 : Int32)) L := la_in (j := 1) rfl (by omega) hL
  have hi2 : vp_in (nI k + (2 : Int32)) L := la_in (j := 2) rfl (by omega) hL
  have hi3 : vp_in (nI k + (3 : Int32)) L := la_in (j := 3) rfl (by omega) hL
  have hi4 : vp_in (nI k + (4 : Int32)) L := la_in (j := 4) rfl (by omega) hL
  refine lv_aload_n hx hb dL_law_1115 rfl (lv_at hl 1 rfl) ?_
  obtain ⟨r, σ1, σ2, e1, e2, hI2⟩ := op σ hI
  refine lx_cV (r := (some (.int r))) (rest := []) (As := []) ⟨hx, hb, hml, hown, hts⟩ (eL_kinds_cn e1 l g) (cwV 0 hts (gz_V mw_4_77 mw_4_78 mw_4_79 mw_1_1 mw_4_80) rfl rfl rfl hdV_X8_kinds ⟨Nat.le_of_ble_eq_true rfl, Nat.le_of_ble_eq_true rfl⟩) hK hAg hG (ga_0 g _) rfl rfl rfl hl.1 rfl (Nat.le_of_ble_eq_true rfl) dL_law_1116 ⟨Nat.le_of_ble_eq_true rfl, Nat.le_of_ble_eq_true rfl⟩ (fun H locs hG => ?_)
  refine W.eq (g2 := F0 m 1119 ls [.int r]) rfl ?_
  refine lv_aload_n hx hb dL_law_1119 rfl (lv_at hl 2 rfl) ?_
  refine lx_cV (r := (some (.int r))) (rest := [.int r]) (As := []) ⟨hx, hb, hml, hown, hts⟩ (eM_kinds_cn e2 l g) (cwV 0 hts (gz_V mw_6_94 mw_6_95 mw_6_96 mw_1_11 mw_6_97) rfl rfl rfl hdV_X9_kinds ⟨Nat.le_of_ble_eq_true rfl, Nat.le_of_ble_eq_true rfl⟩) hK hAg hG (ga_50 g _) rfl rfl rfl hl.1 rfl (Nat.le_of_ble_eq_true rfl) dL_law_1120 ⟨Nat.le_of_ble_eq_true rfl, Nat.le_of_ble_eq_true rfl⟩ (fun H locs hG => ?_)
  refine W.eq (g2 := F0 m 1123 ls [.int r, .int r]) rfl ?_
  refine lv_icmp_eq (tgt := 1161) hx hb dL_law_1123 (by decide) (fun _ => ?_) (fun c9 => absurd rfl c9)
  exact kk σ2 _ _ hI2 hG

set_option maxHeartbeats 4000000 in
set_option maxRecDepth 100000 in
theorem la_134 {p : Program} {l : Launch} {e : Env} {s : State} {m : MethodId} {below : List Frame} {meth : Method} {c : Code} {b L : Nat} {xs : Nat → Int32} (C0 : lw_At p s m meth c b L xs) {g : GC} (hK : g_K g s) (hAg : ∀ q, g_A g q → s.heap.size ≤ q) {k : Nat} (hk : k + 5 ≤ L) (hL : L ≤ 2560) {Inv : St → Prop} {σ : St} (hI : Inv σ) {H : Heap} {locs : List Loc} (hG : LWd g s σ H locs) {ls : Array Slot} (hl : lv_has ls 4 [(0, .ref b), (1, .ref (g.2.1 0)), (2, .ref (g.2.1 50)), (3, .int (nI k))]) (op : ∀ (σ : St) (x1 x2 : Int32), Inv σ → ∃ (r : Int32) (σ1 σ2 : St), eL_kind x1 x2 σ r σ1 ∧ eM_kind x1 x2 σ1 r σ2 ∧ Inv σ2) (kk : ∀ (σ2 : St) (H : Heap) (locs : List Loc), Inv σ2 → LWd g s σ2 H locs → W p l e room_1 s m #[Value.ref b] below meth c H locs 82 50159 (lw_Z below #[Value.ref b] s) (F0 m 1161 ls [])) : W p l e room_1 s m #[Value.ref b] below meth c H locs 82 50159 (lw_Z below #[Value.ref b] s) (F0 m 1128 ls []) := by
  obtain ⟨hx, hb, hr, hml, hown, hts0, hX, hbl, hlocks, hgv⟩ := C0
  have hts : ∀ w ∈ wG, w.before #[Value.ref b] s = true := fun w h => hts0 w (List.mem_filter.mp h).1
  have hbA : ¬ (fun q : Nat => s.heap.size ≤ q) b := Nat.not_le.mpr hbl
  have hi1 : vp_in (nI k + (1 : Int32)) L := la_in (j := 1) rfl (by omega) hL
  have hi2 : vp_in (nI k + (2 : Int32)) L := la_in (j := 2) rfl (by omega) hL
  have hi3 : vp_in (nI k + (3 : Int32)) L := la_in (j := 3) rfl (by omega) hL
  have hi4 : vp_in (nI k + (4 : Int32)) L := la_in (j := 4) rfl (by omega) hL
  refine lv_aload_n hx hb dL_law_1128 rfl (lv_at hl 1 rfl) ?_
  refine lv_aload_n hx hb dL_law_1129 rfl (lv_at hl 0 rfl) ?_
  refine lv_iload_n hx hb dL_law_1130 rfl (lv_at hl 3 rfl) ?_
  refine lv_iconst (v := (1 : Int32)) hx hb dL_law_1131 (by decide) ?_
  refine lv_iadd hx hb dL_law_1132 ?_
  refine va_sld hx hb hX hbl hbA hG.2 hi1 dL_law_1133 ?_
  refine lv_aload_n hx hb dL_law_1134 rfl (lv_at hl 0 rfl) ?_
  refine lv_iload_n hx hb dL_law_1135 rfl (lv_at hl 3 rfl) ?_
  refine lv_iconst (v := (2 : Int32)) hx hb dL_law_1136 (by decide) ?_
  refine lv_iadd hx hb dL_law_1137 ?_
  refine va_sld hx hb hX hbl hbA hG.2 hi2 dL_law_1138 ?_
  obtain ⟨r, σ1, σ2, e1, e2, hI2⟩ := op σ (xs ((nI k + (1 : Int32)).toNatClampNeg)) (xs ((nI k + (2 : Int32)).toNatClampNeg)) hI
  refine lx_cV (r := (some (.int r))) (rest := []) (As := [.int (xs ((nI k + (1 : Int32)).toNatClampNeg)), .int (xs ((nI k + (2 : Int32)).toNatClampNeg))]) ⟨hx, hb, hml, hown, hts⟩ (eL_kind_cn e1 l g) (cwV 2 hts (gz_V mw_4_124 mw_4_125 mw_4_126 mw_1_1 mw_4_127) rfl rfl rfl hdV_X8_kind ⟨Nat.le_of_ble_eq_true rfl, Nat.le_of_ble_eq_true rfl⟩) hK hAg hG (ga_0 g _) rfl rfl rfl hl.1 rfl (Nat.le_of_ble_eq_true rfl) dL_law_1139 ⟨Nat.le_of_ble_eq_true rfl, Nat.le_of_ble_eq_true rfl⟩ (fun H locs hG => ?_)
  refine W.eq (g2 := F0 m 1142 ls [.int r]) rfl ?_
  refine lv_aload_n hx hb dL_law_1142 rfl (lv_at hl 2 rfl) ?_
  refine lv_aload_n hx hb dL_law_1143 rfl (lv_at hl 0 rfl) ?_
  refine lv_iload_n hx hb dL_law_1144 rfl (lv_at hl 3 rfl) ?_
  refine lv_iconst (v := (1 : Int32)) hx hb dL_law_1145 (by decide) ?_
  refine lv_iadd hx hb dL_law_1146 ?_
  refine va_sld hx hb hX hbl hbA hG.2 hi1 dL_law_1147 ?_
  refine lv_aload_n hx hb dL_law_1148 rfl (lv_at hl 0 rfl) ?_
  refine lv_iload_n hx hb dL_law_1149 rfl (lv_at hl 3 rfl) ?_
  refine lv_iconst (v := (2 : Int32)) hx hb dL_law_1150 (by decide) ?_
  refine lv_iadd hx hb dL_law_1151 ?_
  refine va_sld hx hb hX hbl hbA hG.2 hi2 dL_law_1152 ?_
  refine lx_cV (r := (some (.int r))) (rest := [.int r]) (As := [.int (xs ((nI k + (1 : Int32)).toNatClampNeg)), .int (xs ((nI k + (2 : Int32)).toNatClampNeg))]) ⟨hx, hb, hml, hown, hts⟩ (eM_kind_cn e2 l g) (cwV 2 hts (gz_V mw_6_114 mw_6_115 mw_6_116 mw_1_11 mw_6_117) rfl rfl rfl hdV_X9_kind ⟨Nat.le_of_ble_eq_true rfl, Nat.le_of_ble_eq_true rfl⟩) hK hAg hG (ga_50 g _) rfl rfl rfl hl.1 rfl (Nat.le_of_ble_eq_true rfl) dL_law_1153 ⟨Nat.le_of_ble_eq_true rfl, Nat.le_of_ble_eq_true rfl⟩ (fun H locs hG => ?_)
  refine W.eq (g2 := F0 m 1156 ls [.int r, .int r]) rfl ?_
  refine lv_icmp_eq (tgt := 1161) hx hb dL_law_1156 (by decide) (fun _ => ?_) (fun c9 => absurd rfl c9)
  exact kk σ2 _ _ hI2 hG
def lawOps (Inv : St → Prop) : Prop :=
  (∀ (σ : St) (x1 x2 x3 : Int32), Inv σ → ∃ (r : Int32) (σ1 σ2 : St), eL_sheet x1 x2 x3 σ r σ1 ∧ eM_sheet x1 x2 x3 σ1 r σ2 ∧ Inv σ2) ∧
  (∀ (σ : St) (x1 x2 x3 : Int32), Inv σ → ∃ (r : Int32) (σ1 σ2 : St), eL_cell x1 x2 x3 σ r σ1 ∧ eM_cell x1 x2 x3 σ1 r σ2 ∧ Inv σ2) ∧
  (∀ (σ : St) (x1 : Int32), Inv σ → ∃ (r : Int32) (σ1 σ2 : St), eL_lose x1 σ r σ1 ∧ eM_lose x1 σ1 r σ2 ∧ Inv σ2) ∧
  (∀ (σ : St) (x1 : Int32), Inv σ → ∃ (r : Int32) (σ1 σ2 : St), eL_net x1 σ r σ1 ∧ eM_net x1 σ1 r σ2 ∧ Inv σ2) ∧
  (∀ (σ : St) (x1 x2 x3 : Int32), x3 = 0 ∨ x3 = 1 → Inv σ → ∃ (r : Int32) (σ1 σ2 : St), eL_road x1 x2 x3 σ r σ1 ∧ eM_road x1 x2 x3 σ1 r σ2 ∧ Inv σ2) ∧
  (∀ (σ : St) (x1 x2 x3 : Int32), Inv σ → ∃ (r : Int32) (σ1 σ2 : St), eL_load x1 x2 x3 σ r σ1 ∧ eM_load x1 x2 x3 σ1 r σ2 ∧ Inv σ2) ∧
  (∀ (σ : St) (x1 x2 : Int32), Inv σ → ∃ (r : Int32) (σ1 σ2 : St), eL_joined x1 x2 σ r σ1 ∧ eM_joined x1 x2 σ1 r σ2 ∧ Inv σ2) ∧
  (∀ (σ : St) (x1 x2 x3 : Int32), Inv σ → ∃ (r : Int32) (σ1 σ2 : St), eL_build x1 x2 x3 σ r σ1 ∧ eM_build x1 x2 x3 σ1 r σ2 ∧ Inv σ2) ∧
  (∀ (σ : St) (x1 x2 : Int32), Inv σ → ∃ (r : Int32) (σ1 σ2 : St), eL_way x1 x2 σ r σ1 ∧ eM_way x1 x2 σ1 r σ2 ∧ Inv σ2) ∧
  (∀ (σ : St) (x1 : Int32), Inv σ → ∃ (r : Int32) (σ1 σ2 : St), eL_many x1 σ r σ1 ∧ eM_many x1 σ1 r σ2 ∧ Inv σ2) ∧
  (∀ (σ : St) (x1 : Int32), Inv σ → ∃ (r : Int32) (σ1 σ2 : St), eL_clash x1 σ r σ1 ∧ eM_clash x1 σ1 r σ2 ∧ Inv σ2) ∧
  (∀ (σ : St) (x1 x2 : Int32), Inv σ → ∃ (r : Int32) (σ1 σ2 : St), eL_table x1 x2 σ r σ1 ∧ eM_table x1 x2 σ1 r σ2 ∧ Inv σ2) ∧
  (∀ (σ : St) (x1 x2 x3 x4 : Int32), Inv σ → ∃ (r : Int32) (σ1 σ2 : St), eL_thirds x1 x2 x3 x4 σ r σ1 ∧ eM_thirds x1 x2 x3 x4 σ1 r σ2 ∧ Inv σ2) ∧
  (∀ (σ : St) (x1 : Int32), Inv σ → ∃ (r : Int32) (σ1 σ2 : St), eL_tell x1 σ r σ1 ∧ eM_tell x1 σ1 r σ2 ∧ Inv σ2) ∧
  (∀ (σ : St) (x1 x2 x3 : Int32), Inv σ → ∃ (r : Int32) (σ1 σ2 : St), eL_put x1 x2 x3 σ r σ1 ∧ eM_put x1 x2 x3 σ1 r σ2 ∧ Inv σ2) ∧
  (∀ (σ : St), Inv σ → ∃ (r : Int32) (σ1 σ2 : St), eL_take σ r σ1 ∧ eM_take σ1 r σ2 ∧ Inv σ2) ∧
  (∀ (σ : St), Inv σ → ∃ (r : Int32) (σ1 σ2 : St), eL_can σ r σ1 ∧ eM_can σ1 r σ2 ∧ Inv σ2) ∧
  (∀ (σ : St) (x1 x2 : Int32), Inv σ → ∃ (r : Int32) (σ1 σ2 : St), eL_entry x1 x2 σ r σ1 ∧ eM_entry x1 x2 σ1 r σ2 ∧ Inv σ2) ∧
  (∀ (σ : St), Inv σ → ∃ (r : Int32) (σ1 σ2 : St), eL_posts σ r σ1 ∧ eM_posts σ1 r σ2 ∧ Inv σ2) ∧
  (∀ (σ : St) (x1 x2 x3 : Int32), Inv σ → ∃ (r : Int32) (σ1 σ2 : St), eL_third x1 x2 x3 σ r σ1 ∧ eM_third x1 x2 x3 σ1 r σ2 ∧ Inv σ2) ∧
  (∀ (σ : St) (x1 x2 : Int32), Inv σ → ∃ (r : Int32) (σ1 σ2 : St), eL_root x1 x2 σ r σ1 ∧ eM_root x1 x2 σ1 r σ2 ∧ Inv σ2) ∧
  (∀ (σ : St) (x1 x2 : Int32), Inv σ → ∃ (r : Int64) (σ1 σ2 : St), eL_walks x1 x2 σ r σ1 ∧ eM_walks x1 x2 σ1 r σ2 ∧ Inv σ2) ∧
  (∀ (σ : St) (x1 x2 : Int32), Inv σ → ∃ (r : Int64) (σ1 σ2 : St), eL_bound x1 x2 σ r σ1 ∧ eM_bound x1 x2 σ1 r σ2 ∧ Inv σ2) ∧
  (∀ (σ : St), Inv σ → ∃ (r : Int32) (σ1 σ2 : St), eL_fold σ r σ1 ∧ eM_fold σ1 r σ2 ∧ Inv σ2) ∧
  (∀ (σ : St), Inv σ → ∃ (r : Int32) (σ1 σ2 : St), eL_half σ r σ1 ∧ eM_half σ1 r σ2 ∧ Inv σ2) ∧
  (∀ (σ : St), Inv σ → ∃ (r : Int32) (σ1 σ2 : St), eL_twice σ r σ1 ∧ eM_twice σ1 r σ2 ∧ Inv σ2) ∧
  (∀ (σ : St) (x1 : Int32), Inv σ → ∃ (r : Int32) (σ1 σ2 : St), eL_power x1 σ r σ1 ∧ eM_power x1 σ1 r σ2 ∧ Inv σ2) ∧
  (∀ (σ : St), Inv σ → ∃ (r : Int32) (σ1 σ2 : St), eL_other σ r σ1 ∧ eM_other σ1 r σ2 ∧ Inv σ2) ∧
  (∀ (σ : St), Inv σ → ∃ (r : Int32) (σ1 σ2 : St), eL_lines σ r σ1 ∧ eM_lines σ1 r σ2 ∧ Inv σ2) ∧
  (∀ (σ : St), Inv σ → ∃ (r : Int32) (σ1 σ2 : St), eL_keep σ r σ1 ∧ eM_keep σ1 r σ2 ∧ Inv σ2) ∧
  (∀ (σ : St), Inv σ → ∃ (r : Int32) (σ1 σ2 : St), eL_back σ r σ1 ∧ eM_back σ1 r σ2 ∧ Inv σ2) ∧
  (∀ (σ : St) (x1 : Int32), Inv σ → ∃ (r : Int32) (σ1 σ2 : St), eL_perfect x1 σ r σ1 ∧ eM_perfect x1 σ1 r σ2 ∧ Inv σ2) ∧
  (∀ (σ : St) (x1 x2 : Int32), Inv σ → ∃ (r : Int32) (σ1 σ2 : St), eL_heap x1 x2 σ r σ1 ∧ eM_heap x1 x2 σ1 r σ2 ∧ Inv σ2) ∧
  (∀ (σ : St), Inv σ → ∃ (r : Int32) (σ1 σ2 : St), eL_kinds σ r σ1 ∧ eM_kinds σ1 r σ2 ∧ Inv σ2) ∧
  (∀ (σ : St) (x1 x2 : Int32), Inv σ → ∃ (r : Int32) (σ1 σ2 : St), eL_kind x1 x2 σ r σ1 ∧ eM_kind x1 x2 σ1 r σ2 ∧ Inv σ2)
set_option maxHeartbeats 4000000 in
set_option maxRecDepth 100000 in
theorem law_loop {p : Program} {l : Launch} {e : Env} {s : State} {m : MethodId} {below : List Frame} {meth : Method} {c : Code} {b L : Nat} {xs : Nat → Int32} (C0 : lw_At p s m meth c b L xs) {g : GC} (hK : g_K g s) (hAg : ∀ q, g_A g q → s.heap.size ≤ q) (hL : L ≤ 2560) {Inv : St → Prop} (ops : lawOps Inv) : ∀ (n k : Nat), k ≤ 2565 → L + 1 ≤ k + n → ∀ (σ : St), Inv σ → ∀ (H : Heap) (locs : List Loc), LWd g s σ H locs → ∀ (ls : Array Slot), lv_has ls 4 [(0, .ref b), (1, .ref (g.2.1 0)), (2, .ref (g.2.1 50)), (3, .int (nI k))] → W p l e room_1 s m #[Value.ref b] below meth c H locs 82 50159 (lw_Z below #[Value.ref b] s) (F0 m 18 ls []) := by
  obtain ⟨hx, hb, hr, hml, hown, hts0, hX, hbl, hlocks, hgv⟩ := id C0
  have hbA : ¬ (fun q : Nat => s.heap.size ≤ q) b := Nat.not_le.mpr hbl
  obtain ⟨op0, op1, op2, op3, op4, op5, op6, op7, op8, op9, op10, op11, op12, op13, op14, op15, op16, op17, op18, op19, op20, op21, op22, op23, op24, op25, op26, op27, op28, op29, op30, op31, op32, op33, op34⟩ := ops
  have done : ∀ (H : Heap) (locs : List Loc) (σ : St) (ls : Array Slot), LWd g s σ H locs → W p l e room_1 s m #[Value.ref b] below meth c H locs 82 50159 (lw_Z below #[Value.ref b] s) (F0 m 1167 ls []) := by
    intro H locs σ ls hG
    refine lv_iconst (v := (1 : Int32)) hx hb dL_law_1167 (by decide) ?_
    refine va_forget (fun q hq => hG.2.2.2 q hq) ?_
    refine W.widen (k := 600000) (n := 7302250) (Nat.le_of_ble_eq_true rfl) (Nat.le_of_ble_eq_true rfl) ?_
    exact lw_ret hx hb hr hlocks dL_law_1168
  intro n
  induction n with
  | zero =>
    intro k h1 h2 σ hI H locs hG ls hl
    refine lv_iload_n hx hb dL_law_18 rfl (lv_at hl 3 rfl) ?_
    refine lv_aload_n hx hb dL_law_19 rfl (lv_at hl 0 rfl) ?_
    refine va_slen hx hb hX hbl hbA hG.2 dL_law_20 ?_
    refine lv_iconst (v := (5 : Int32)) hx hb dL_law_21 (by decide) ?_
    refine lv_isub hx hb dL_law_22 ?_
    refine lv_icmp_gt (tgt := 1167) hx hb dL_law_23 (by decide) (fun c1 => done H locs σ ls hG) (fun c1 => ?_)
    have := la_out hL h1 c1
    omega
  | succ n ih =>
    intro k h1 h2 σ hI H locs hG ls hl
    refine lv_iload_n hx hb dL_law_18 rfl (lv_at hl 3 rfl) ?_
    refine lv_aload_n hx hb dL_law_19 rfl (lv_at hl 0 rfl) ?_
    refine va_slen hx hb hX hbl hbA hG.2 dL_law_20 ?_
    refine lv_iconst (v := (5 : Int32)) hx hb dL_law_21 (by decide) ?_
    refine lv_isub hx hb dL_law_22 ?_
    refine lv_icmp_gt (tgt := 1167) hx hb dL_law_23 (by decide) (fun c1 => done H locs σ ls hG) (fun c1 => ?_)
    have hk : k + 5 ≤ L := la_out hL h1 c1
    have next : ∀ (σ2 : St) (H : Heap) (locs : List Loc), Inv σ2 → LWd g s σ2 H locs → W p l e room_1 s m #[Value.ref b] below meth c H locs 82 50159 (lw_Z below #[Value.ref b] s) (F0 m 1161 ls []) := by
      intro σ2 H locs hI2 hG
      refine lv_iinc (v := nI (k + 5)) (lv' := [(3, .int (nI (k + 5))), (0, .ref b), (1, .ref (g.2.1 0)), (2, .ref (g.2.1 50))]) hx hb dL_law_1161 hl (k := 3) rfl (la_inc k) (Nat.le_of_ble_eq_true rfl) rfl (fun ls hl => ?_)
      refine lv_goto (tgt := 18) hx hb dL_law_1164 (by decide) ?_
      exact ih (k + 5) (by omega) (by omega) σ2 hI2 H locs hG ls (lv_sub hl [1, 2, 3, 0] rfl)
    refine lv_aload_n hx hb dL_law_26 rfl (lv_at hl 0 rfl) ?_
    refine lv_iload_n hx hb dL_law_27 rfl (lv_at hl 3 rfl) ?_
    refine va_sld hx hb hX hbl hbA hG.2 (la_0 (by omega) hL) dL_law_28 ?_
    refine lv_bipush (v := (63 : Int32)) hx hb dL_law_29 (by decide) ?_
    refine lv_iand hx hb dL_law_31 ?_
    refine lv_topi (fun y ey => ?_)
    by_cases c100 : y = (0 : Int32)
    · refine lv_tableIn (off := 156) (tgt := 188) hx hb dL_law_32 (by rw [c100]; decide) (by rw [c100]; decide) (by rw [c100]; rfl) (by decide) ?_
      exact la_100 C0 hK hAg hk hL hI hG hl op0 next
    by_cases c101 : y = (1 : Int32)
    · refine lv_tableIn (off := 199) (tgt := 231) hx hb dL_law_32 (by rw [c101]; decide) (by rw [c101]; decide) (by rw [c101]; rfl) (by decide) ?_
      exact la_101 C0 hK hAg hk hL hI hG hl op1 next
    by_cases c102 : y = (2 : Int32)
    · refine lv_tableIn (off := 242) (tgt := 274) hx hb dL_law_32 (by rw [c102]; decide) (by rw [c102]; decide) (by rw [c102]; rfl) (by decide) ?_
      exact la_102 C0 hK hAg hk hL hI hG hl op2 next
    by_cases c103 : y = (3 : Int32)
    · refine lv_tableIn (off := 265) (tgt := 297) hx hb dL_law_32 (by rw [c103]; decide) (by rw [c103]; decide) (by rw [c103]; rfl) (by decide) ?_
      exact la_103 C0 hK hAg hk hL hI hG hl op3 next
    by_cases c104 : y = (4 : Int32)
    · refine lv_tableIn (off := 288) (tgt := 320) hx hb dL_law_32 (by rw [c104]; decide) (by rw [c104]; decide) (by rw [c104]; rfl) (by decide) ?_
      exact la_104 C0 hK hAg hk hL hI hG hl op4 next
    by_cases c105 : y = (5 : Int32)
    · refine lv_tableIn (off := 347) (tgt := 379) hx hb dL_law_32 (by rw [c105]; decide) (by rw [c105]; decide) (by rw [c105]; rfl) (by decide) ?_
      exact la_105 C0 hK hAg hk hL hI hG hl op5 next
    by_cases c106 : y = (6 : Int32)
    · refine lv_tableIn (off := 390) (tgt := 422) hx hb dL_law_32 (by rw [c106]; decide) (by rw [c106]; decide) (by rw [c106]; rfl) (by decide) ?_
      exact la_106 C0 hK hAg hk hL hI hG hl op6 next
    by_cases c107 : y = (7 : Int32)
    · refine lv_tableIn (off := 423) (tgt := 455) hx hb dL_law_32 (by rw [c107]; decide) (by rw [c107]; decide) (by rw [c107]; rfl) (by decide) ?_
      exact la_107 C0 hK hAg hk hL hI hG hl op7 next
    by_cases c108 : y = (8 : Int32)
    · refine lv_tableIn (off := 466) (tgt := 498) hx hb dL_law_32 (by rw [c108]; decide) (by rw [c108]; decide) (by rw [c108]; rfl) (by decide) ?_
      exact la_108 C0 hK hAg hk hL hI hG hl op8 next
    by_cases c109 : y = (9 : Int32)
    · refine lv_tableIn (off := 499) (tgt := 531) hx hb dL_law_32 (by rw [c109]; decide) (by rw [c109]; decide) (by rw [c109]; rfl) (by decide) ?_
      exact la_109 C0 hK hAg hk hL hI hG hl op9 next
    by_cases c110 : y = (10 : Int32)
    · refine lv_tableIn (off := 522) (tgt := 554) hx hb dL_law_32 (by rw [c110]; decide) (by rw [c110]; decide) (by rw [c110]; rfl) (by decide) ?_
      exact la_110 C0 hK hAg hk hL hI hG hl op10 next
    by_cases c111 : y = (11 : Int32)
    · refine lv_tableIn (off := 545) (tgt := 577) hx hb dL_law_32 (by rw [c111]; decide) (by rw [c111]; decide) (by rw [c111]; rfl) (by decide) ?_
      exact la_111 C0 hK hAg hk hL hI hG hl op11 next
    by_cases c112 : y = (12 : Int32)
    · refine lv_tableIn (off := 578) (tgt := 610) hx hb dL_law_32 (by rw [c112]; decide) (by rw [c112]; decide) (by rw [c112]; rfl) (by decide) ?_
      exact la_112 C0 hK hAg hk hL hI hG hl op12 next
    by_cases c113 : y = (13 : Int32)
    · refine lv_tableIn (off := 631) (tgt := 663) hx hb dL_law_32 (by rw [c113]; decide) (by rw [c113]; decide) (by rw [c113]; rfl) (by decide) ?_
      exact la_113 C0 hK hAg hk hL hI hG hl op13 next
    by_cases c114 : y = (14 : Int32)
    · refine lv_tableIn (off := 654) (tgt := 686) hx hb dL_law_32 (by rw [c114]; decide) (by rw [c114]; decide) (by rw [c114]; rfl) (by decide) ?_
      exact la_114 C0 hK hAg hk hL hI hG hl op14 next
    by_cases c115 : y = (15 : Int32)
    · refine lv_tableIn (off := 697) (tgt := 729) hx hb dL_law_32 (by rw [c115]; decide) (by rw [c115]; decide) (by rw [c115]; rfl) (by decide) ?_
      exact la_115 C0 hK hAg hk hL hI hG hl op15 next
    by_cases c116 : y = (16 : Int32)
    · refine lv_tableIn (off := 710) (tgt := 742) hx hb dL_law_32 (by rw [c116]; decide) (by rw [c116]; decide) (by rw [c116]; rfl) (by decide) ?_
      exact la_116 C0 hK hAg hk hL hI hG hl op16 next
    by_cases c117 : y = (17 : Int32)
    · refine lv_tableIn (off := 723) (tgt := 755) hx hb dL_law_32 (by rw [c117]; decide) (by rw [c117]; decide) (by rw [c117]; rfl) (by decide) ?_
      exact la_117 C0 hK hAg hk hL hI hG hl op17 next
    by_cases c118 : y = (18 : Int32)
    · refine lv_tableIn (off := 756) (tgt := 788) hx hb dL_law_32 (by rw [c118]; decide) (by rw [c118]; decide) (by rw [c118]; rfl) (by decide) ?_
      exact la_118 C0 hK hAg hk hL hI hG hl op18 next
    by_cases c119 : y = (19 : Int32)
    · refine lv_tableIn (off := 769) (tgt := 801) hx hb dL_law_32 (by rw [c119]; decide) (by rw [c119]; decide) (by rw [c119]; rfl) (by decide) ?_
      exact la_119 C0 hK hAg hk hL hI hG hl op19 next
    by_cases c120 : y = (20 : Int32)
    · refine lv_tableIn (off := 812) (tgt := 844) hx hb dL_law_32 (by rw [c120]; decide) (by rw [c120]; decide) (by rw [c120]; rfl) (by decide) ?_
      exact la_120 C0 hK hAg hk hL hI hG hl op20 next
    by_cases c121 : y = (21 : Int32)
    · refine lv_tableIn (off := 845) (tgt := 877) hx hb dL_law_32 (by rw [c121]; decide) (by rw [c121]; decide) (by rw [c121]; rfl) (by decide) ?_
      exact la_121 C0 hK hAg hk hL hI hG hl op21 next
    by_cases c122 : y = (22 : Int32)
    · refine lv_tableIn (off := 879) (tgt := 911) hx hb dL_law_32 (by rw [c122]; decide) (by rw [c122]; decide) (by rw [c122]; rfl) (by decide) ?_
      exact la_122 C0 hK hAg hk hL hI hG hl op22 next
    by_cases c123 : y = (23 : Int32)
    · refine lv_tableIn (off := 913) (tgt := 945) hx hb dL_law_32 (by rw [c123]; decide) (by rw [c123]; decide) (by rw [c123]; rfl) (by decide) ?_
      exact la_123 C0 hK hAg hk hL hI hG hl op23 next
    by_cases c124 : y = (24 : Int32)
    · refine lv_tableIn (off := 926) (tgt := 958) hx hb dL_law_32 (by rw [c124]; decide) (by rw [c124]; decide) (by rw [c124]; rfl) (by decide) ?_
      exact la_124 C0 hK hAg hk hL hI hG hl op24 next
    by_cases c125 : y = (25 : Int32)
    · refine lv_tableIn (off := 939) (tgt := 971) hx hb dL_law_32 (by rw [c125]; decide) (by rw [c125]; decide) (by rw [c125]; rfl) (by decide) ?_
      exact la_125 C0 hK hAg hk hL hI hG hl op25 next
    by_cases c126 : y = (26 : Int32)
    · refine lv_tableIn (off := 952) (tgt := 984) hx hb dL_law_32 (by rw [c126]; decide) (by rw [c126]; decide) (by rw [c126]; rfl) (by decide) ?_
      exact la_126 C0 hK hAg hk hL hI hG hl op26 next
    by_cases c127 : y = (27 : Int32)
    · refine lv_tableIn (off := 975) (tgt := 1007) hx hb dL_law_32 (by rw [c127]; decide) (by rw [c127]; decide) (by rw [c127]; rfl) (by decide) ?_
      exact la_127 C0 hK hAg hk hL hI hG hl op27 next
    by_cases c128 : y = (28 : Int32)
    · refine lv_tableIn (off := 988) (tgt := 1020) hx hb dL_law_32 (by rw [c128]; decide) (by rw [c128]; decide) (by rw [c128]; rfl) (by decide) ?_
      exact la_128 C0 hK hAg hk hL hI hG hl op28 next
    by_cases c129 : y = (29 : Int32)
    · refine lv_tableIn (off := 1001) (tgt := 1033) hx hb dL_law_32 (by rw [c129]; decide) (by rw [c129]; decide) (by rw [c129]; rfl) (by decide) ?_
      exact la_129 C0 hK hAg hk hL hI hG hl op29 next
    by_cases c130 : y = (30 : Int32)
    · refine lv_tableIn (off := 1014) (tgt := 1046) hx hb dL_law_32 (by rw [c130]; decide) (by rw [c130]; decide) (by rw [c130]; rfl) (by decide) ?_
      exact la_130 C0 hK hAg hk hL hI hG hl op30 next
    by_cases c131 : y = (31 : Int32)
    · refine lv_tableIn (off := 1027) (tgt := 1059) hx hb dL_law_32 (by rw [c131]; decide) (by rw [c131]; decide) (by rw [c131]; rfl) (by decide) ?_
      exact la_131 C0 hK hAg hk hL hI hG hl op31 next
    by_cases c132 : y = (32 : Int32)
    · refine lv_tableIn (off := 1050) (tgt := 1082) hx hb dL_law_32 (by rw [c132]; decide) (by rw [c132]; decide) (by rw [c132]; rfl) (by decide) ?_
      exact la_132 C0 hK hAg hk hL hI hG hl op32 next
    by_cases c133 : y = (33 : Int32)
    · refine lv_tableIn (off := 1083) (tgt := 1115) hx hb dL_law_32 (by rw [c133]; decide) (by rw [c133]; decide) (by rw [c133]; rfl) (by decide) ?_
      exact la_133 C0 hK hAg hk hL hI hG hl op33 next
    by_cases c134 : y = (34 : Int32)
    · refine lv_tableIn (off := 1096) (tgt := 1128) hx hb dL_law_32 (by rw [c134]; decide) (by rw [c134]; decide) (by rw [c134]; rfl) (by decide) ?_
      exact la_134 C0 hK hAg hk hL hI hG hl op34 next
    refine lv_tableOut (tgt := 1161) hx hb dL_law_32 (sw_out (fun q h1 h2 => ?_)) (by decide) ?_
    · rcases (show q = 0 ∨ q = 1 ∨ q = 2 ∨ q = 3 ∨ q = 4 ∨ q = 5 ∨ q = 6 ∨ q = 7 ∨ q = 8 ∨ q = 9 ∨ q = 10 ∨ q = 11 ∨ q = 12 ∨ q = 13 ∨ q = 14 ∨ q = 15 ∨ q = 16 ∨ q = 17 ∨ q = 18 ∨ q = 19 ∨ q = 20 ∨ q = 21 ∨ q = 22 ∨ q = 23 ∨ q = 24 ∨ q = 25 ∨ q = 26 ∨ q = 27 ∨ q = 28 ∨ q = 29 ∨ q = 30 ∨ q = 31 ∨ q = 32 ∨ q = 33 ∨ q = 34 by omega) with rfl | rfl | rfl | rfl | rfl | rfl | rfl | rfl | rfl | rfl | rfl | rfl | rfl | rfl | rfl | rfl | rfl | rfl | rfl | rfl | rfl | rfl | rfl | rfl | rfl | rfl | rfl | rfl | rfl | rfl | rfl | rfl | rfl | rfl | rfl
      · exact lv_neT c100 (by decide)
      · exact lv_neT c101 (by decide)
      · exact lv_neT c102 (by decide)
      · exact lv_neT c103 (by decide)
      · exact lv_neT c104 (by decide)
      · exact lv_neT c105 (by decide)
      · exact lv_neT c106 (by decide)
      · exact lv_neT c107 (by decide)
      · exact lv_neT c108 (by decide)
      · exact lv_neT c109 (by decide)
      · exact lv_neT c110 (by decide)
      · exact lv_neT c111 (by decide)
      · exact lv_neT c112 (by decide)
      · exact lv_neT c113 (by decide)
      · exact lv_neT c114 (by decide)
      · exact lv_neT c115 (by decide)
      · exact lv_neT c116 (by decide)
      · exact lv_neT c117 (by decide)
      · exact lv_neT c118 (by decide)
      · exact lv_neT c119 (by decide)
      · exact lv_neT c120 (by decide)
      · exact lv_neT c121 (by decide)
      · exact lv_neT c122 (by decide)
      · exact lv_neT c123 (by decide)
      · exact lv_neT c124 (by decide)
      · exact lv_neT c125 (by decide)
      · exact lv_neT c126 (by decide)
      · exact lv_neT c127 (by decide)
      · exact lv_neT c128 (by decide)
      · exact lv_neT c129 (by decide)
      · exact lv_neT c130 (by decide)
      · exact lv_neT c131 (by decide)
      · exact lv_neT c132 (by decide)
      · exact lv_neT c133 (by decide)
      · exact lv_neT c134 (by decide)
    exact next σ H locs hI hG
