set_option maxHeartbeats 4000000 in
set_option maxRecDepth 100000 in
theorem c_M_clash (l : Launch) (g : GC) (σ : St) (x1 : Int32) (r : Int32) (w_clashP : Int32) (w_clashQ : Int32) (w_far : Int32) (w_heaps : Int32) (w_isMeasured : Int32) (w_isTold : Nat → Int32) (w_tableA : Nat → Int32) (w_tableB : Nat → Int32) (w_tableC : Nat → Int32) (w_wayOf : Nat → Int32) (h : M_clash x1 (σ.1 3221) (σ.1 3222) (σ.1 3214) (σ.1 3215) (σ.1 3212) (σ.1 3203) (σ.2.2.1 64) (σ.2.2.1 54) (σ.2.2.1 62) (σ.2.2.1 63) (σ.2.2.1 61) (σ.2.2.1 59) = some (r, w_clashP, w_clashQ, w_far, w_heaps, w_isMeasured, w_isTold, w_tableA, w_tableB, w_tableC, w_wayOf)) : Cn l g yX9_clash wsX9_clash 4 93 [.ref (g.2.1 50), .int x1] σ (some (.int r)) (mkS σ [(3221, w_clashP), (3222, w_clashQ), (3214, w_far), (3215, w_heaps), (3212, w_isMeasured)] [] [(64, w_isTold), (62, w_tableA), (63, w_tableB), (61, w_tableC), (59, w_wayOf)] []) := by
  unfold Cn
  refine Met.ofW (cc := cX9_clash) (maxL := 2) (ret := (some .int)) (by decide) rfl ?_
  intro p e s m args below meth c s₁ B hml hv
  obtain ⟨hargs, hP0, hK⟩ := hv
  have hx := B.exec
  have hb := B.bytes
  have hr := B.returns
  have hts := atoms_spec (ws := wsX9_clash) B.pre
  have hown : s.vm.findClass RX9 = some m.cls := findClass_of_methodNamed B.named
  have hlocks := B.notSynchronized
  have hS9 : CallFix p m c cX9_clash 2 s args wsX9_clash RX9 := ⟨hx, hb, hml, hown, hts⟩
  have hinX9 : ∀ w ∈ wsX90, w ∈ wsX9_clash := fun w h => List.mem_cons_of_mem _ (List.mem_append_right _ (h))
  have hw0 := hts (.fieldLink RX9 210 "LikeNetsModel" "clashQ" "I") (List.mem_of_getElem? (i := 2) rfl)
  have hw1 := hts (.fieldLink RX9 207 "LikeNetsModel" "clashP" "I") (List.mem_of_getElem? (i := 1) rfl)
  have hf9 : entryFrame m args 2 = _ := (congrArg (fun a => entryFrame m a 2) hargs).trans (lg_entry_eq m [.ref (g.2.1 50), .int x1] 2)
  show Wg p l e 4 93 s m args below meth c g (some (.int r)) (mkS σ [(3221, w_clashP), (3222, w_clashQ), (3214, w_far), (3215, w_heaps), (3212, w_isMeasured)] [] [(64, w_isTold), (62, w_tableA), (63, w_tableB), (61, w_tableC), (59, w_wayOf)] []) s.heap [] (entryFrame m args 2)
  rw [hf9]
  have hl := lv_entry ([.ref (g.2.1 50), .int x1]) (n := 2) (Nat.le_of_ble_eq_true rfl)
  generalize (lg_sl ([.ref (g.2.1 50), .int x1]) ++ List.replicate (2 - (lg_sl ([.ref (g.2.1 50), .int x1])).length) Slot.unset).toArray = ls at hl ⊢
  have hl : lv_has ls 2 [(0, .ref (g.2.1 50)), (1, .int x1)] := hl
  have hG : GW g s σ s.heap [] := ⟨hP0, va_S.rf⟩
  have hG : GW g s (mkS σ [(3221, (σ.1 3221)), (3222, (σ.1 3222)), (3214, (σ.1 3214)), (3215, (σ.1 3215)), (3212, (σ.1 3212))] [] [(64, (σ.2.2.1 64)), (62, (σ.2.2.1 62)), (63, (σ.2.2.1 63)), (61, (σ.2.2.1 61)), (59, (σ.2.2.1 59))] []) s.heap [] := GW_self [3221, 3222, 3214, 3215, 3212] [] [64, 62, 63, 61, 59] [] hG
  unfold M_clash at h
  have n49 : ∀ (t0 : Int32) (v_clashP : Int32) (v_clashQ : Int32) (v_far : Int32) (v_heaps : Int32) (v_isMeasured : Int32) (v_isTold : Nat → Int32) (v_tableA : Nat → Int32) (v_tableB : Nat → Int32) (v_tableC : Nat → Int32) (v_wayOf : Nat → Int32) (H : Heap) (locs : List Loc) (ls : Array Slot), lv_has ls 2 [] → GW g s (mkS σ [(3221, v_clashP), (3222, v_clashQ), (3214, v_far), (3215, v_heaps), (3212, v_isMeasured)] [] [(64, v_isTold), (62, v_tableA), (63, v_tableB), (61, v_tableC), (59, v_wayOf)] []) H locs → M_clash_n49 t0 v_clashP v_clashQ v_far v_heaps v_isMeasured v_isTold v_tableA v_tableB v_tableC v_wayOf = some (r, w_clashP, w_clashQ, w_far, w_heaps, w_isMeasured, w_isTold, w_tableA, w_tableB, w_tableC, w_wayOf) → Wg p l e 4 93 s m args below meth c g (some (.int r)) (mkS σ [(3221, w_clashP), (3222, w_clashQ), (3214, w_far), (3215, w_heaps), (3212, w_isMeasured)] [] [(64, w_isTold), (62, w_tableA), (63, w_tableB), (61, w_tableC), (59, w_wayOf)] []) H locs (F0 m 49 ls [.int t0]) := by
    intro t0 v_clashP v_clashQ v_far v_heaps v_isMeasured v_isTold v_tableA v_tableB v_tableC v_wayOf H locs ls hl hG h
    unfold M_clash_n49 at h
    cases h
    exact gx_iret hx hb hr hlocks hG dX9_clash_49
  refine lv_iload_n hx hb dX9_clash_0 rfl (lv_at hl 1 rfl) ?_
  refine lv_i2l hx hb dX9_clash_1 rfl ?_
  refine lv_lconst (v := (0 : Int64)) hx hb dX9_clash_2 (by decide) ?_
  refine lv_lconst (v := (1 : Int64)) hx hb dX9_clash_3 (by decide) ?_
  obtain ⟨z1, hc2, h⟩ := bnd_some h
  refine gx_cS (σ' := (mkS σ [(3221, (σ.1 3221)), (3222, (σ.1 3222)), (3214, (σ.1 3214)), (3215, (σ.1 3215)), (3212, (σ.1 3212))] [] [(64, (σ.2.2.1 64)), (62, (σ.2.2.1 62)), (63, (σ.2.2.1 63)), (61, (σ.2.2.1 61)), (59, (σ.2.2.1 59))] [])) (r := (some (.int z1))) (rest := []) (As := [.long (x1.toInt64), .long (0 : Int64), .long (1 : Int64)]) hS9 (c_M_in l g (mkS σ [(3221, (σ.1 3221)), (3222, (σ.1 3222)), (3214, (σ.1 3214)), (3215, (σ.1 3215)), (3212, (σ.1 3212))] [] [(64, (σ.2.2.1 64)), (62, (σ.2.2.1 62)), (63, (σ.2.2.1 63)), (61, (σ.2.2.1 61)), (59, (σ.2.2.1 59))] []) (x1.toInt64) (0 : Int64) (1 : Int64) z1 hc2) rfl (va_cwS 3 hts gX9_clash_X9_in rfl rfl rfl (by decide +kernel) ⟨Nat.le_of_ble_eq_true rfl, Nat.le_of_ble_eq_true rfl⟩) hK hG rfl hl.1 rfl (Nat.le_of_ble_eq_true rfl) dX9_clash_4 (fun H locs hG => ?_)
  refine W.eq (g2 := F0 m 7 ls [.int z1]) rfl ?_
  refine lv_if_ne (tgt := 12) hx hb dX9_clash_7 (by decide) (fun c3 => ?_) (fun c3 => ?_)
  · have h := ite_f c3 h
    refine lv_aload_n hx hb dX9_clash_12 rfl (lv_at hl 0 rfl) ?_
    obtain ⟨z4, hc5, h⟩ := bnd_some h
    refine gx_cV (σ' := (mkS σ [(3221, (σ.1 3221)), (3222, (σ.1 3222)), (3214, z4.2.1), (3215, z4.2.2.1), (3212, z4.2.2.2.1)] [] [(64, (σ.2.2.1 64)), (62, (σ.2.2.1 62)), (63, (σ.2.2.1 63)), (61, (σ.2.2.1 61)), (59, z4.2.2.2.2)] [])) (r := (some (.int z4.1))) (rest := []) (As := []) hS9 (c_M_isWhole l g (mkS σ [(3221, (σ.1 3221)), (3222, (σ.1 3222)), (3214, (σ.1 3214)), (3215, (σ.1 3215)), (3212, (σ.1 3212))] [] [(64, (σ.2.2.1 64)), (62, (σ.2.2.1 62)), (63, (σ.2.2.1 63)), (61, (σ.2.2.1 61)), (59, (σ.2.2.1 59))] []) z4.1 z4.2.1 z4.2.2.1 z4.2.2.2.1 z4.2.2.2.2 hc5) (mk_mk rfl rfl rfl rfl) (cwV 0 hts gX9_clash_X9_isWhole rfl rfl rfl (by decide +kernel) ⟨Nat.le_of_ble_eq_true rfl, Nat.le_of_ble_eq_true rfl⟩) hK hG (ga_50 g _) rfl rfl rfl hl.1 rfl (Nat.le_of_ble_eq_true rfl) dX9_clash_13 (fun H locs hG => ?_)
    refine W.eq (g2 := F0 m 16 ls [.int z4.1]) rfl ?_
    refine lv_if_ne (tgt := 22) hx hb dX9_clash_16 (by decide) (fun c6 => ?_) (fun c6 => ?_)
    · have h := ite_f c6 h
      refine lv_aload_n hx hb dX9_clash_22 rfl (lv_at hl 0 rfl) ?_
      obtain ⟨z7, hc8, h⟩ := bnd_some h
      refine gx_cV (σ' := (mkS σ [(3221, z7.2.1), (3222, z7.2.2.1), (3214, z7.2.2.2.1), (3215, z7.2.2.2.2.1), (3212, z7.2.2.2.2.2.1)] [] [(64, z7.2.2.2.2.2.2.1), (62, z7.2.2.2.2.2.2.2.1), (63, z7.2.2.2.2.2.2.2.2.1), (61, z7.2.2.2.2.2.2.2.2.2.1), (59, z7.2.2.2.2.2.2.2.2.2.2)] [])) (r := (some (.int z7.1))) (rest := []) (As := []) hS9 (c_M_isLike l g (mkS σ [(3221, (σ.1 3221)), (3222, (σ.1 3222)), (3214, z4.2.1), (3215, z4.2.2.1), (3212, z4.2.2.2.1)] [] [(64, (σ.2.2.1 64)), (62, (σ.2.2.1 62)), (63, (σ.2.2.1 63)), (61, (σ.2.2.1 61)), (59, z4.2.2.2.2)] []) z7.1 z7.2.1 z7.2.2.1 z7.2.2.2.1 z7.2.2.2.2.1 z7.2.2.2.2.2.1 z7.2.2.2.2.2.2.1 z7.2.2.2.2.2.2.2.1 z7.2.2.2.2.2.2.2.2.1 z7.2.2.2.2.2.2.2.2.2.1 z7.2.2.2.2.2.2.2.2.2.2 hc8) (mk_mk rfl rfl rfl rfl) (cwV 0 hts gX9_clash_X9_isLike rfl rfl rfl (by decide +kernel) ⟨Nat.le_of_ble_eq_true rfl, Nat.le_of_ble_eq_true rfl⟩) hK hG (ga_50 g _) rfl rfl rfl hl.1 rfl (Nat.le_of_ble_eq_true rfl) dX9_clash_23 (fun H locs hG => ?_)
      refine W.eq (g2 := F0 m 26 ls [.int z7.1]) rfl ?_
      refine lv_if_eq (tgt := 34) hx hb dX9_clash_26 (by decide) (fun c9 => ?_) (fun c9 => ?_)
      · have h := ite_t c9 h
        refine lv_iload_n hx hb dX9_clash_34 rfl (lv_at hl 1 rfl) ?_
        refine lv_if_ne (tgt := 45) hx hb dX9_clash_35 (by decide) (fun c10 => ?_) (fun c10 => ?_)
        · have h := ite_f c10 h
          refine lv_aload_n hx hb dX9_clash_45 rfl (lv_at hl 0 rfl) ?_
          refine gx_get (v := .int z7.2.2.1) (C := RX9) (T := TX9) (N := 44) hx hb hts hinX9 hown hK hG (ga_50 g _) rfl 22 (by decide) hw0 rfl rfl dX9_clash_46 ?_
          exact n49 z7.2.2.1 z7.2.1 z7.2.2.1 z7.2.2.2.1 z7.2.2.2.2.1 z7.2.2.2.2.2.1 z7.2.2.2.2.2.2.1 z7.2.2.2.2.2.2.2.1 z7.2.2.2.2.2.2.2.2.1 z7.2.2.2.2.2.2.2.2.2.1 z7.2.2.2.2.2.2.2.2.2.2 _ _ _ (lv_sub hl [] rfl) hG h
        · have h := ite_t c10 h
          refine lv_aload_n hx hb dX9_clash_38 rfl (lv_at hl 0 rfl) ?_
          refine gx_get (v := .int z7.2.1) (C := RX9) (T := TX9) (N := 44) hx hb hts hinX9 hown hK hG (ga_50 g _) rfl 21 (by decide) hw1 rfl rfl dX9_clash_39 ?_
          refine lv_goto (tgt := 49) hx hb dX9_clash_42 (by decide) ?_
          exact n49 z7.2.1 z7.2.1 z7.2.2.1 z7.2.2.2.1 z7.2.2.2.2.1 z7.2.2.2.2.2.1 z7.2.2.2.2.2.2.1 z7.2.2.2.2.2.2.2.1 z7.2.2.2.2.2.2.2.2.1 z7.2.2.2.2.2.2.2.2.2.1 z7.2.2.2.2.2.2.2.2.2.2 _ _ _ (lv_sub hl [] rfl) hG h
      · have h := ite_f c9 h
        refine lv_bipush (v := (-8 : Int32)) hx hb dX9_clash_29 (by decide) ?_
        refine lv_goto (tgt := 49) hx hb dX9_clash_31 (by decide) ?_
        exact n49 (-8 : Int32) z7.2.1 z7.2.2.1 z7.2.2.2.1 z7.2.2.2.2.1 z7.2.2.2.2.2.1 z7.2.2.2.2.2.2.1 z7.2.2.2.2.2.2.2.1 z7.2.2.2.2.2.2.2.2.1 z7.2.2.2.2.2.2.2.2.2.1 z7.2.2.2.2.2.2.2.2.2.2 _ _ _ (lv_sub hl [] rfl) hG h
    · have h := ite_t c6 h
      refine lv_bipush (v := (-5 : Int32)) hx hb dX9_clash_19 (by decide) ?_
      cases h
      exact gx_iret hx hb hr hlocks hG dX9_clash_21
  · have h := ite_t c3 h
    refine lv_iconst (v := (-1 : Int32)) hx hb dX9_clash_10 (by decide) ?_
    cases h
    exact gx_iret hx hb hr hlocks hG dX9_clash_11

set_option maxHeartbeats 4000000 in
set_option maxRecDepth 100000 in
theorem c_M_entry (l : Launch) (g : GC) (σ : St) (x1 : Int32) (x2 : Int32) (r : Int32) (w_all : Int64) (w_sizes : Nat → Int64) (h : M_entry x1 x2 (σ.1 3208) (σ.2.1 3224) (σ.2.2.1 56) (σ.2.2.1 57) (σ.2.2.2 65) = some (r, w_all, w_sizes)) : Cn l g yX9_entry wsX9_entry 2 47 [.ref (g.2.1 50), .int x1, .int x2] σ (some (.int r)) (mkS σ [] [(3224, w_all)] [] [(65, w_sizes)]) := by
  unfold Cn
  refine Met.ofW (cc := cX9_entry) (maxL := 3) (ret := (some .int)) (by decide) rfl ?_
  intro p e s m args below meth c s₁ B hml hv
  obtain ⟨hargs, hP0, hK⟩ := hv
  have hx := B.exec
  have hb := B.bytes
  have hr := B.returns
  have hts := atoms_spec (ws := wsX9_entry) B.pre
  have hown : s.vm.findClass RX9 = some m.cls := findClass_of_methodNamed B.named
  have hlocks := B.notSynchronized
  have hS9 : CallFix p m c cX9_entry 3 s args wsX9_entry RX9 := ⟨hx, hb, hml, hown, hts⟩
  have hinX9 : ∀ w ∈ wsX90, w ∈ wsX9_entry := fun w h => List.mem_cons_of_mem _ (List.mem_append_right _ (h))
  have hw0 := hts (.constantLong RX9 110 (3)) (List.mem_of_getElem? (i := 1) rfl)
  have hw1 := hts (.fieldLink RX9 26 "LikeNetsModel" "length" "I") (List.mem_of_getElem? (i := 2) rfl)
  have hw2 := hts (.fieldLink RX9 57 "LikeNetsModel" "sizes" "[J") (List.mem_of_getElem? (i := 5) rfl)
  have hw3 := hts (.fieldLink RX9 30 "LikeNetsModel" "toldB" "[I") (List.mem_of_getElem? (i := 4) rfl)
  have hw4 := hts (.fieldLink RX9 33 "LikeNetsModel" "toldC" "[I") (List.mem_of_getElem? (i := 3) rfl)
  have hf9 : entryFrame m args 3 = _ := (congrArg (fun a => entryFrame m a 3) hargs).trans (lg_entry_eq m [.ref (g.2.1 50), .int x1, .int x2] 3)
  show Wg p l e 2 47 s m args below meth c g (some (.int r)) (mkS σ [] [(3224, w_all)] [] [(65, w_sizes)]) s.heap [] (entryFrame m args 3)
  rw [hf9]
  have hl := lv_entry ([.ref (g.2.1 50), .int x1, .int x2]) (n := 3) (Nat.le_of_ble_eq_true rfl)
  generalize (lg_sl ([.ref (g.2.1 50), .int x1, .int x2]) ++ List.replicate (3 - (lg_sl ([.ref (g.2.1 50), .int x1, .int x2])).length) Slot.unset).toArray = ls at hl ⊢
  have hl : lv_has ls 3 [(0, .ref (g.2.1 50)), (1, .int x1), (2, .int x2)] := hl
  have hG : GW g s σ s.heap [] := ⟨hP0, va_S.rf⟩
  have hG : GW g s (mkS σ [] [(3224, (σ.2.1 3224))] [] [(65, (σ.2.2.2 65))]) s.heap [] := GW_self [] [3224] [] [65] hG
  unfold M_entry at h
  have n26 : ∀ (v_all : Int64) (v_sizes : Nat → Int64) (H : Heap) (locs : List Loc) (ls : Array Slot), lv_has ls 3 [] → GW g s (mkS σ [] [(3224, v_all)] [] [(65, v_sizes)]) H locs → M_entry_n26 v_all v_sizes = some (r, w_all, w_sizes) → Wg p l e 2 47 s m args below meth c g (some (.int r)) (mkS σ [] [(3224, w_all)] [] [(65, w_sizes)]) H locs (F0 m 26 ls []) := by
    intro v_all v_sizes H locs ls hl hG h
    unfold M_entry_n26 at h
    refine lv_iconst (v := (-1 : Int32)) hx hb dX9_entry_26 (by decide) ?_
    cases h
    exact gx_iret hx hb hr hlocks hG dX9_entry_27
  have n85 : ∀ (t0 : Int32) (v_all : Int64) (v_sizes : Nat → Int64) (H : Heap) (locs : List Loc) (ls : Array Slot), lv_has ls 3 [] → GW g s (mkS σ [] [(3224, v_all)] [] [(65, v_sizes)]) H locs → M_entry_n85 t0 v_all v_sizes = some (r, w_all, w_sizes) → Wg p l e 2 47 s m args below meth c g (some (.int r)) (mkS σ [] [(3224, w_all)] [] [(65, w_sizes)]) H locs (F0 m 85 ls [.int t0]) := by
    intro t0 v_all v_sizes H locs ls hl hG h
    unfold M_entry_n85 at h
    cases h
    exact gx_iret hx hb hr hlocks hG dX9_entry_85
  refine lv_iload_n hx hb dX9_entry_0 rfl (lv_at hl 2 rfl) ?_
  refine lv_i2l hx hb dX9_entry_1 rfl ?_
  refine lv_lconst (v := (0 : Int64)) hx hb dX9_entry_2 (by decide) ?_
  refine lv_ldc2 hx hb hown hw0 dX9_entry_3 ?_
  obtain ⟨z1, hc2, h⟩ := bnd_some h
  refine gx_cS (σ' := (mkS σ [] [(3224, (σ.2.1 3224))] [] [(65, (σ.2.2.2 65))])) (r := (some (.int z1))) (rest := []) (As := [.long (x2.toInt64), .long (0 : Int64), .long (3 : Int64)]) hS9 (c_M_in l g (mkS σ [] [(3224, (σ.2.1 3224))] [] [(65, (σ.2.2.2 65))]) (x2.toInt64) (0 : Int64) (3 : Int64) z1 hc2) rfl (va_cwS 3 hts gX9_entry_X9_in rfl rfl rfl (by decide +kernel) ⟨Nat.le_of_ble_eq_true rfl, Nat.le_of_ble_eq_true rfl⟩) hK hG rfl hl.1 rfl (Nat.le_of_ble_eq_true rfl) dX9_entry_6 (fun H locs hG => ?_)
  refine W.eq (g2 := F0 m 9 ls [.int z1]) rfl ?_
  refine lv_if_eq (tgt := 26) hx hb dX9_entry_9 (by decide) (fun c3 => ?_) (fun c3 => ?_)
  · have h := ite_t c3 h
    exact n26 (σ.2.1 3224) (σ.2.2.2 65) _ _ _ (lv_sub hl [] rfl) hG h
  · have h := ite_f c3 h
    refine lv_iload_n hx hb dX9_entry_12 rfl (lv_at hl 1 rfl) ?_
    refine lv_i2l hx hb dX9_entry_13 rfl ?_
    refine lv_lconst (v := (0 : Int64)) hx hb dX9_entry_14 (by decide) ?_
    refine lv_aload_n hx hb dX9_entry_15 rfl (lv_at hl 0 rfl) ?_
    refine gx_get (v := .int (σ.1 3208)) (C := RX9) (T := TX9) (N := 44) hx hb hts hinX9 hown hK hG (ga_50 g _) rfl 8 (by decide) hw1 rfl rfl dX9_entry_16 ?_
    refine lv_i2l hx hb dX9_entry_19 rfl ?_
    obtain ⟨z4, hc5, h⟩ := bnd_some h
    refine gx_cS (σ' := (mkS σ [] [(3224, (σ.2.1 3224))] [] [(65, (σ.2.2.2 65))])) (r := (some (.int z4))) (rest := []) (As := [.long (x1.toInt64), .long (0 : Int64), .long ((σ.1 3208).toInt64)]) hS9 (c_M_in l g (mkS σ [] [(3224, (σ.2.1 3224))] [] [(65, (σ.2.2.2 65))]) (x1.toInt64) (0 : Int64) ((σ.1 3208).toInt64) z4 hc5) rfl (va_cwS 3 hts gX9_entry_X9_in rfl rfl rfl (by decide +kernel) ⟨Nat.le_of_ble_eq_true rfl, Nat.le_of_ble_eq_true rfl⟩) hK hG rfl hl.1 rfl (Nat.le_of_ble_eq_true rfl) dX9_entry_20 (fun H locs hG => ?_)
    refine W.eq (g2 := F0 m 23 ls [.int z4]) rfl ?_
    refine lv_if_ne (tgt := 28) hx hb dX9_entry_23 (by decide) (fun c6 => ?_) (fun c6 => ?_)
    · have h := ite_f c6 h
      refine lv_aload_n hx hb dX9_entry_28 rfl (lv_at hl 0 rfl) ?_
      obtain ⟨z7, hc8, h⟩ := bnd_some h
      refine gx_cV (σ' := (mkS σ [] [(3224, z7.2.1)] [] [(65, z7.2.2)])) (r := (some (.int z7.1))) (rest := []) (As := []) hS9 (c_M_firstLaws l g (mkS σ [] [(3224, (σ.2.1 3224))] [] [(65, (σ.2.2.2 65))]) z7.1 z7.2.1 z7.2.2 hc8) (mk_mk rfl rfl rfl rfl) (cwV 0 hts gX9_entry_X9_firstLaws rfl rfl rfl (by decide +kernel) ⟨Nat.le_of_ble_eq_true rfl, Nat.le_of_ble_eq_true rfl⟩) hK hG (ga_50 g _) rfl rfl rfl hl.1 rfl (Nat.le_of_ble_eq_true rfl) dX9_entry_29 (fun H locs hG => ?_)
      refine W.eq (g2 := F0 m 32 ls [.int z7.1]) rfl ?_
      refine lv_if_le (tgt := 38) hx hb dX9_entry_32 (by decide) (fun c9 => ?_) (fun c9 => ?_)
      · have h := ite_t c9 h
        refine lv_iload_n hx hb dX9_entry_38 rfl (lv_at hl 2 rfl) ?_
        refine lv_if_ne (tgt := 51) hx hb dX9_entry_39 (by decide) (fun c10 => ?_) (fun c10 => ?_)
        · have h := ite_f c10 h
          refine lv_iload_n hx hb dX9_entry_51 rfl (lv_at hl 2 rfl) ?_
          refine lv_iconst (v := (1 : Int32)) hx hb dX9_entry_52 (by decide) ?_
          refine lv_icmp_ne (tgt := 64) hx hb dX9_entry_53 (by decide) (fun c11 => ?_) (fun c11 => ?_)
          · have h := ite_f c11 h
            refine lv_iload_n hx hb dX9_entry_64 rfl (lv_at hl 2 rfl) ?_
            refine lv_iconst (v := (2 : Int32)) hx hb dX9_entry_65 (by decide) ?_
            refine lv_icmp_ne (tgt := 78) hx hb dX9_entry_66 (by decide) (fun c12 => ?_) (fun c12 => ?_)
            · have h := ite_f c12 h
              refine lv_aload_n hx hb dX9_entry_78 rfl (lv_at hl 0 rfl) ?_
              refine gx_get (v := .ref (g.2.1 65)) (C := RX9) (T := TX9) (N := 44) hx hb hts hinX9 hown hK hG (ga_50 g _) rfl 23 (by decide) hw2 rfl rfl dX9_entry_79 ?_
              refine lv_iload_n hx hb dX9_entry_82 rfl (lv_at hl 1 rfl) ?_
              obtain ⟨hg13, h⟩ := gd_some h
              refine gx_lald (f := z7.2.2) hx hb hK hG (ga_65 g _) hg13 dX9_entry_83 ?_
              refine lv_l2i hx hb dX9_entry_84 rfl ?_
              exact n85 ((z7.2.2 (x1.toNatClampNeg)).toInt32) z7.2.1 z7.2.2 _ _ _ (lv_sub hl [] rfl) hG h
            · have h := ite_t c12 h
              refine lv_aload_n hx hb dX9_entry_69 rfl (lv_at hl 0 rfl) ?_
              refine gx_get (v := .ref (g.2.1 56)) (C := RX9) (T := TX9) (N := 44) hx hb hts hinX9 hown hK hG (ga_50 g _) rfl 9 (by decide) hw3 rfl rfl dX9_entry_70 ?_
              refine lv_iload_n hx hb dX9_entry_73 rfl (lv_at hl 1 rfl) ?_
              obtain ⟨hg14, h⟩ := gd_some h
              refine gx_iald (f := (σ.2.2.1 56)) hx hb hK hG (ga_56 g _) hg14 dX9_entry_74 ?_
              refine lv_goto (tgt := 85) hx hb dX9_entry_75 (by decide) ?_
              exact n85 ((σ.2.2.1 56) (x1.toNatClampNeg)) z7.2.1 z7.2.2 _ _ _ (lv_sub hl [] rfl) hG h
          · have h := ite_t c11 h
            refine lv_aload_n hx hb dX9_entry_56 rfl (lv_at hl 0 rfl) ?_
            refine lv_iload_n hx hb dX9_entry_57 rfl (lv_at hl 1 rfl) ?_
            obtain ⟨z15, hc16, h⟩ := bnd_some h
            refine gx_cV (σ' := (mkS σ [] [(3224, z7.2.1)] [] [(65, z7.2.2)])) (r := (some (.int z15))) (rest := []) (As := [.int x1]) hS9 (c_M_a l g (mkS σ [] [(3224, z7.2.1)] [] [(65, z7.2.2)]) x1 z15 hc16) rfl (cwV 1 hts gX9_entry_X9_a rfl rfl rfl (by decide +kernel) ⟨Nat.le_of_ble_eq_true rfl, Nat.le_of_ble_eq_true rfl⟩) hK hG (ga_50 g _) rfl rfl rfl hl.1 rfl (Nat.le_of_ble_eq_true rfl) dX9_entry_58 (fun H locs hG => ?_)
            refine W.eq (g2 := F0 m 61 ls [.int z15]) rfl ?_
            refine lv_goto (tgt := 85) hx hb dX9_entry_61 (by decide) ?_
            exact n85 z15 z7.2.1 z7.2.2 _ _ _ (lv_sub hl [] rfl) hG h
        · have h := ite_t c10 h
          refine lv_aload_n hx hb dX9_entry_42 rfl (lv_at hl 0 rfl) ?_
          refine gx_get (v := .ref (g.2.1 57)) (C := RX9) (T := TX9) (N := 44) hx hb hts hinX9 hown hK hG (ga_50 g _) rfl 10 (by decide) hw4 rfl rfl dX9_entry_43 ?_
          refine lv_iload_n hx hb dX9_entry_46 rfl (lv_at hl 1 rfl) ?_
          obtain ⟨hg17, h⟩ := gd_some h
          refine gx_iald (f := (σ.2.2.1 57)) hx hb hK hG (ga_57 g _) hg17 dX9_entry_47 ?_
          refine lv_goto (tgt := 85) hx hb dX9_entry_48 (by decide) ?_
          exact n85 ((σ.2.2.1 57) (x1.toNatClampNeg)) z7.2.1 z7.2.2 _ _ _ (lv_sub hl [] rfl) hG h
      · have h := ite_f c9 h
        refine lv_bipush (v := (-6 : Int32)) hx hb dX9_entry_35 (by decide) ?_
        cases h
        exact gx_iret hx hb hr hlocks hG dX9_entry_37
    · have h := ite_t c6 h
      exact n26 (σ.2.1 3224) (σ.2.2.2 65) _ _ _ (lv_sub hl [] rfl) hG h

set_option maxHeartbeats 4000000 in
set_option maxRecDepth 100000 in
theorem c_M_isFar (l : Launch) (g : GC) (σ : St) (x1 : Int32) (x2 : Int32) (r : Int32) (h : M_isFar x1 x2 (σ.1 3214) (σ.2.2.1 59) = some r) : Cn l g yX9_isFar wsX9_isFar 0 0 [.ref (g.2.1 50), .int x1, .int x2] σ (some (.int r)) σ := by
  unfold Cn
  refine Met.ofW (cc := cX9_isFar) (maxL := 3) (ret := (some .boolean)) (by decide) rfl ?_
  intro p e s m args below meth c s₁ B hml hv
  obtain ⟨hargs, hP0, hK⟩ := hv
  have hx := B.exec
  have hb := B.bytes
  have hr := B.returns
  have hts := atoms_spec (ws := wsX9_isFar) B.pre
  have hown : s.vm.findClass RX9 = some m.cls := findClass_of_methodNamed B.named
  have hlocks := B.notSynchronized
  have hinX9 : ∀ w ∈ wsX90, w ∈ wsX9_isFar := fun w h => List.mem_cons_of_mem _ (List.mem_append_right _ (h))
  have hw0 := hts (.fieldLink RX9 39 "LikeNetsModel" "wayOf" "[I") (List.mem_of_getElem? (i := 1) rfl)
  have hw1 := hts (.fieldLink RX9 177 "LikeNetsModel" "far" "I") (List.mem_of_getElem? (i := 2) rfl)
  have hf9 : entryFrame m args 3 = _ := (congrArg (fun a => entryFrame m a 3) hargs).trans (lg_entry_eq m [.ref (g.2.1 50), .int x1, .int x2] 3)
  show Wg p l e 0 0 s m args below meth c g (some (.int r)) σ s.heap [] (entryFrame m args 3)
  rw [hf9]
  have hl := lv_entry ([.ref (g.2.1 50), .int x1, .int x2]) (n := 3) (Nat.le_of_ble_eq_true rfl)
  generalize (lg_sl ([.ref (g.2.1 50), .int x1, .int x2]) ++ List.replicate (3 - (lg_sl ([.ref (g.2.1 50), .int x1, .int x2])).length) Slot.unset).toArray = ls at hl ⊢
  have hl : lv_has ls 3 [(0, .ref (g.2.1 50)), (1, .int x1), (2, .int x2)] := hl
  have hG : GW g s σ s.heap [] := ⟨hP0, va_S.rf⟩
  unfold M_isFar at h
  have n23 : ∀ (t0 : Int32) (H : Heap) (locs : List Loc) (ls : Array Slot), lv_has ls 3 [] → GW g s σ H locs → M_isFar_n23 t0 = some r → Wg p l e 0 0 s m args below meth c g (some (.int r)) σ H locs (F0 m 23 ls [.int t0]) := by
    intro t0 H locs ls hl hG h
    unfold M_isFar_n23 at h
    obtain ⟨hg1, h⟩ := gd_some h
    cases h
    exact gx_zret hx hb hr hlocks hg1 hG dX9_isFar_23
  refine lv_aload_n hx hb dX9_isFar_0 rfl (lv_at hl 0 rfl) ?_
  refine gx_get (v := .ref (g.2.1 59)) (C := RX9) (T := TX9) (N := 44) hx hb hts hinX9 hown hK hG (ga_50 g _) rfl 13 (by decide) hw0 rfl rfl dX9_isFar_1 ?_
  refine lv_bipush (v := (32 : Int32)) hx hb dX9_isFar_4 (by decide) ?_
  refine lv_iload_n hx hb dX9_isFar_6 rfl (lv_at hl 1 rfl) ?_
  refine lv_imul hx hb dX9_isFar_7 ?_
  refine lv_iload_n hx hb dX9_isFar_8 rfl (lv_at hl 2 rfl) ?_
  refine lv_iadd hx hb dX9_isFar_9 ?_
  obtain ⟨hg2, h⟩ := gd_some h
  refine gx_iald (f := (σ.2.2.1 59)) hx hb hK hG (ga_59 g _) hg2 dX9_isFar_10 ?_
  refine lv_aload_n hx hb dX9_isFar_11 rfl (lv_at hl 0 rfl) ?_
  refine gx_get (v := .int (σ.1 3214)) (C := RX9) (T := TX9) (N := 44) hx hb hts hinX9 hown hK hG (ga_50 g _) rfl 14 (by decide) hw1 rfl rfl dX9_isFar_12 ?_
  refine lv_icmp_ne (tgt := 22) hx hb dX9_isFar_15 (by decide) (fun c3 => ?_) (fun c3 => ?_)
  · have h := ite_f c3 h
    refine lv_iconst (v := (0 : Int32)) hx hb dX9_isFar_22 (by decide) ?_
    exact n23 (0 : Int32) _ _ _ (lv_sub hl [] rfl) hG h
  · have h := ite_t c3 h
    refine lv_iconst (v := (1 : Int32)) hx hb dX9_isFar_18 (by decide) ?_
    refine lv_goto (tgt := 23) hx hb dX9_isFar_19 (by decide) ?_
    exact n23 (1 : Int32) _ _ _ (lv_sub hl [] rfl) hG h

set_option maxHeartbeats 4000000 in
set_option maxRecDepth 100000 in
theorem c_M_isFolded (l : Launch) (g : GC) (σ : St) (r : Int32) (w_far : Int32) (w_heaps : Int32) (w_isMeasured : Int32) (w_wayOf : Nat → Int32) (h : M_isFolded (σ.1 3214) (σ.1 3215) (σ.1 3212) (σ.1 3203) (σ.2.2.1 54) (σ.2.2.1 59) = some (r, w_far, w_heaps, w_isMeasured, w_wayOf)) : Cn l g yX9_isFolded wsX9_isFolded 3 67 [.ref (g.2.1 50)] σ (some (.int r)) (mkS σ [(3214, w_far), (3215, w_heaps), (3212, w_isMeasured)] [] [(59, w_wayOf)] []) := by
  unfold Cn
  refine Met.ofW (cc := cX9_isFolded) (maxL := 5) (ret := (some .boolean)) (by decide) rfl ?_
  intro p e s m args below meth c s₁ B hml hv
  obtain ⟨hargs, hP0, hK⟩ := hv
  have hx := B.exec
  have hb := B.bytes
  have hr := B.returns
  have hts := atoms_spec (ws := wsX9_isFolded) B.pre
  have hown : s.vm.findClass RX9 = some m.cls := findClass_of_methodNamed B.named
  have hlocks := B.notSynchronized
  have hS9 : CallFix p m c cX9_isFolded 5 s args wsX9_isFolded RX9 := ⟨hx, hb, hml, hown, hts⟩
  have hinX9 : ∀ w ∈ wsX90, w ∈ wsX9_isFolded := fun w h => List.mem_cons_of_mem _ (List.mem_append_right _ (h))
  have hw0 := hts (.fieldLink RX9 116 "LikeNetsModel" "posts" "I") (List.mem_of_getElem? (i := 2) rfl)
  have hw1 := hts (.fieldLink RX9 177 "LikeNetsModel" "far" "I") (List.mem_of_getElem? (i := 1) rfl)
  have hf9 : entryFrame m args 5 = _ := (congrArg (fun a => entryFrame m a 5) hargs).trans (lg_entry_eq m [.ref (g.2.1 50)] 5)
  show Wg p l e 3 67 s m args below meth c g (some (.int r)) (mkS σ [(3214, w_far), (3215, w_heaps), (3212, w_isMeasured)] [] [(59, w_wayOf)] []) s.heap [] (entryFrame m args 5)
  rw [hf9]
  have hl := lv_entry ([.ref (g.2.1 50)]) (n := 5) (Nat.le_of_ble_eq_true rfl)
  generalize (lg_sl ([.ref (g.2.1 50)]) ++ List.replicate (5 - (lg_sl ([.ref (g.2.1 50)])).length) Slot.unset).toArray = ls at hl ⊢
  have hl : lv_has ls 5 [(0, .ref (g.2.1 50))] := hl
  have hG : GW g s σ s.heap [] := ⟨hP0, va_S.rf⟩
  have hG : GW g s (mkS σ [(3214, (σ.1 3214)), (3215, (σ.1 3215)), (3212, (σ.1 3212))] [] [(59, (σ.2.2.1 59))] []) s.heap [] := GW_self [3214, 3215, 3212] [] [59] [] hG
  unfold M_isFolded at h
  have n15 : ∀ (v_far : Int32) (v_heaps : Int32) (v_isMeasured : Int32) (v_wayOf : Nat → Int32) (H : Heap) (locs : List Loc) (ls : Array Slot), lv_has ls 5 [] → GW g s (mkS σ [(3214, v_far), (3215, v_heaps), (3212, v_isMeasured)] [] [(59, v_wayOf)] []) H locs → M_isFolded_n15 v_far v_heaps v_isMeasured v_wayOf = some (r, w_far, w_heaps, w_isMeasured, w_wayOf) → Wg p l e 3 67 s m args below meth c g (some (.int r)) (mkS σ [(3214, w_far), (3215, w_heaps), (3212, w_isMeasured)] [] [(59, w_wayOf)] []) H locs (F0 m 15 ls []) := by
    intro v_far v_heaps v_isMeasured v_wayOf H locs ls hl hG h
    unfold M_isFolded_n15 at h
    refine lv_iconst (v := (0 : Int32)) hx hb dX9_isFolded_15 (by decide) ?_
    cases h
    exact gx_zret hx hb hr hlocks (by decide) hG dX9_isFolded_16
  have n95 : ∀ (k42 : Int32 → Int32 → Int32 → Int32 → Int32 → Int32 → Int32 → (Nat → Int32) → Option (Int32 × Int32 × Int32 × Int32 × (Nat → Int32))) (hk42 : ∀ (x1 : Int32) (x2 : Int32) (x3 : Int32) (x4 : Int32) (v_far : Int32) (v_heaps : Int32) (v_isMeasured : Int32) (v_wayOf : Nat → Int32) (H : Heap) (locs : List Loc) (ls : Array Slot), lv_has ls 5 [(0, .ref (g.2.1 50)), (1, .int x1), (2, .int x2), (3, .int x3), (4, .int x4)] → GW g s (mkS σ [(3214, v_far), (3215, v_heaps), (3212, v_isMeasured)] [] [(59, v_wayOf)] []) H locs → k42 x1 x2 x3 x4 v_far v_heaps v_isMeasured v_wayOf = some (r, w_far, w_heaps, w_isMeasured, w_wayOf) → Wg p l e 3 67 s m args below meth c g (some (.int r)) (mkS σ [(3214, w_far), (3215, w_heaps), (3212, w_isMeasured)] [] [(59, w_wayOf)] []) H locs (F0 m 42 ls [])) (x2 : Int32) (x3 : Int32) (x4 : Int32) (t0 : Int32) (v_far : Int32) (v_heaps : Int32) (v_isMeasured : Int32) (v_wayOf : Nat → Int32) (H : Heap) (locs : List Loc) (ls : Array Slot), lv_has ls 5 [(0, .ref (g.2.1 50)), (2, .int x2), (3, .int x3), (4, .int x4)] → GW g s (mkS σ [(3214, v_far), (3215, v_heaps), (3212, v_isMeasured)] [] [(59, v_wayOf)] []) H locs → M_isFolded_n95 k42 x2 x3 x4 t0 v_far v_heaps v_isMeasured v_wayOf = some (r, w_far, w_heaps, w_isMeasured, w_wayOf) → Wg p l e 3 67 s m args below meth c g (some (.int r)) (mkS σ [(3214, w_far), (3215, w_heaps), (3212, w_isMeasured)] [] [(59, w_wayOf)] []) H locs (F0 m 95 ls [.int t0]) := by
    intro k42 hk42 x2 x3 x4 t0 v_far v_heaps v_isMeasured v_wayOf H locs ls hl hG h
    unfold M_isFolded_n95 at h
    refine lv_istore_n (lv' := [(1, .int t0), (0, .ref (g.2.1 50)), (2, .int x2), (3, .int x3), (4, .int x4)]) hx hb dX9_isFolded_95 rfl hl (Nat.le_of_ble_eq_true rfl) rfl (fun ls hl => ?_)
    refine lv_iinc (v := (x4 + (1 : Int32))) (lv' := [(4, .int (x4 + (1 : Int32))), (1, .int t0), (0, .ref (g.2.1 50)), (2, .int x2), (3, .int x3)]) hx hb dX9_isFolded_96 hl (k := 4) rfl (congrArg (fun z => x4 + z) (by decide)) (Nat.le_of_ble_eq_true rfl) rfl (fun ls hl => ?_)
    refine lv_goto (tgt := 42) hx hb dX9_isFolded_99 (by decide) ?_
    exact hk42 t0 x2 x3 (x4 + (1 : Int32)) v_far v_heaps v_isMeasured v_wayOf _ _ _ (lv_sub hl [2, 1, 3, 4, 0] rfl) hG h
  have n90 : ∀ (k42 : Int32 → Int32 → Int32 → Int32 → Int32 → Int32 → Int32 → (Nat → Int32) → Option (Int32 × Int32 × Int32 × Int32 × (Nat → Int32))) (hk42 : ∀ (x1 : Int32) (x2 : Int32) (x3 : Int32) (x4 : Int32) (v_far : Int32) (v_heaps : Int32) (v_isMeasured : Int32) (v_wayOf : Nat → Int32) (H : Heap) (locs : List Loc) (ls : Array Slot), lv_has ls 5 [(0, .ref (g.2.1 50)), (1, .int x1), (2, .int x2), (3, .int x3), (4, .int x4)] → GW g s (mkS σ [(3214, v_far), (3215, v_heaps), (3212, v_isMeasured)] [] [(59, v_wayOf)] []) H locs → k42 x1 x2 x3 x4 v_far v_heaps v_isMeasured v_wayOf = some (r, w_far, w_heaps, w_isMeasured, w_wayOf) → Wg p l e 3 67 s m args below meth c g (some (.int r)) (mkS σ [(3214, w_far), (3215, w_heaps), (3212, w_isMeasured)] [] [(59, w_wayOf)] []) H locs (F0 m 42 ls [])) (x2 : Int32) (x3 : Int32) (x4 : Int32) (v_far : Int32) (v_heaps : Int32) (v_isMeasured : Int32) (v_wayOf : Nat → Int32) (H : Heap) (locs : List Loc) (ls : Array Slot), lv_has ls 5 [(0, .ref (g.2.1 50)), (2, .int x2), (3, .int x3), (4, .int x4)] → GW g s (mkS σ [(3214, v_far), (3215, v_heaps), (3212, v_isMeasured)] [] [(59, v_wayOf)] []) H locs → M_isFolded_n90 k42 x2 x3 x4 v_far v_heaps v_isMeasured v_wayOf = some (r, w_far, w_heaps, w_isMeasured, w_wayOf) → Wg p l e 3 67 s m args below meth c g (some (.int r)) (mkS σ [(3214, w_far), (3215, w_heaps), (3212, w_isMeasured)] [] [(59, w_wayOf)] []) H locs (F0 m 90 ls []) := by
    intro k42 hk42 x2 x3 x4 v_far v_heaps v_isMeasured v_wayOf H locs ls hl hG h
    unfold M_isFolded_n90 at h
    refine lv_iconst (v := (1 : Int32)) hx hb dX9_isFolded_90 (by decide) ?_
    refine lv_goto (tgt := 95) hx hb dX9_isFolded_91 (by decide) ?_
    exact n95 k42 hk42 x2 x3 x4 (1 : Int32) v_far v_heaps v_isMeasured v_wayOf _ _ _ (lv_sub hl [0, 1, 2, 3] rfl) hG h
  have n94 : ∀ (k42 : Int32 → Int32 → Int32 → Int32 → Int32 → Int32 → Int32 → (Nat → Int32) → Option (Int32 × Int32 × Int32 × Int32 × (Nat → Int32))) (hk42 : ∀ (x1 : Int32) (x2 : Int32) (x3 : Int32) (x4 : Int32) (v_far : Int32) (v_heaps : Int32) (v_isMeasured : Int32) (v_wayOf : Nat → Int32) (H : Heap) (locs : List Loc) (ls : Array Slot), lv_has ls 5 [(0, .ref (g.2.1 50)), (1, .int x1), (2, .int x2), (3, .int x3), (4, .int x4)] → GW g s (mkS σ [(3214, v_far), (3215, v_heaps), (3212, v_isMeasured)] [] [(59, v_wayOf)] []) H locs → k42 x1 x2 x3 x4 v_far v_heaps v_isMeasured v_wayOf = some (r, w_far, w_heaps, w_isMeasured, w_wayOf) → Wg p l e 3 67 s m args below meth c g (some (.int r)) (mkS σ [(3214, w_far), (3215, w_heaps), (3212, w_isMeasured)] [] [(59, w_wayOf)] []) H locs (F0 m 42 ls [])) (x2 : Int32) (x3 : Int32) (x4 : Int32) (v_far : Int32) (v_heaps : Int32) (v_isMeasured : Int32) (v_wayOf : Nat → Int32) (H : Heap) (locs : List Loc) (ls : Array Slot), lv_has ls 5 [(0, .ref (g.2.1 50)), (2, .int x2), (3, .int x3), (4, .int x4)] → GW g s (mkS σ [(3214, v_far), (3215, v_heaps), (3212, v_isMeasured)] [] [(59, v_wayOf)] []) H locs → M_isFolded_n94 k42 x2 x3 x4 v_far v_heaps v_isMeasured v_wayOf = some (r, w_far, w_heaps, w_isMeasured, w_wayOf) → Wg p l e 3 67 s m args below meth c g (some (.int r)) (mkS σ [(3214, w_far), (3215, w_heaps), (3212, w_isMeasured)] [] [(59, w_wayOf)] []) H locs (F0 m 94 ls []) := by
    intro k42 hk42 x2 x3 x4 v_far v_heaps v_isMeasured v_wayOf H locs ls hl hG h
    unfold M_isFolded_n94 at h
    refine lv_iconst (v := (0 : Int32)) hx hb dX9_isFolded_94 (by decide) ?_
    exact n95 k42 hk42 x2 x3 x4 (0 : Int32) v_far v_heaps v_isMeasured v_wayOf _ _ _ (lv_sub hl [0, 1, 2, 3] rfl) hG h
  have n102 : ∀ (k31 : Int32 → Int32 → Int32 → Int32 → Int32 → Int32 → (Nat → Int32) → Option (Int32 × Int32 × Int32 × Int32 × (Nat → Int32))) (hk31 : ∀ (x1 : Int32) (x2 : Int32) (x3 : Int32) (v_far : Int32) (v_heaps : Int32) (v_isMeasured : Int32) (v_wayOf : Nat → Int32) (H : Heap) (locs : List Loc) (ls : Array Slot), lv_has ls 5 [(0, .ref (g.2.1 50)), (1, .int x1), (2, .int x2), (3, .int x3)] → GW g s (mkS σ [(3214, v_far), (3215, v_heaps), (3212, v_isMeasured)] [] [(59, v_wayOf)] []) H locs → k31 x1 x2 x3 v_far v_heaps v_isMeasured v_wayOf = some (r, w_far, w_heaps, w_isMeasured, w_wayOf) → Wg p l e 3 67 s m args below meth c g (some (.int r)) (mkS σ [(3214, w_far), (3215, w_heaps), (3212, w_isMeasured)] [] [(59, w_wayOf)] []) H locs (F0 m 31 ls [])) (x1 : Int32) (x2 : Int32) (x3 : Int32) (v_far : Int32) (v_heaps : Int32) (v_isMeasured : Int32) (v_wayOf : Nat → Int32) (H : Heap) (locs : List Loc) (ls : Array Slot), lv_has ls 5 [(0, .ref (g.2.1 50)), (1, .int x1), (2, .int x2), (3, .int x3)] → GW g s (mkS σ [(3214, v_far), (3215, v_heaps), (3212, v_isMeasured)] [] [(59, v_wayOf)] []) H locs → M_isFolded_n102 k31 x1 x2 x3 v_far v_heaps v_isMeasured v_wayOf = some (r, w_far, w_heaps, w_isMeasured, w_wayOf) → Wg p l e 3 67 s m args below meth c g (some (.int r)) (mkS σ [(3214, w_far), (3215, w_heaps), (3212, w_isMeasured)] [] [(59, w_wayOf)] []) H locs (F0 m 102 ls []) := by
    intro k31 hk31 x1 x2 x3 v_far v_heaps v_isMeasured v_wayOf H locs ls hl hG h
    unfold M_isFolded_n102 at h
    refine lv_iinc (v := (x3 + (1 : Int32))) (lv' := [(3, .int (x3 + (1 : Int32))), (0, .ref (g.2.1 50)), (1, .int x1), (2, .int x2)]) hx hb dX9_isFolded_102 hl (k := 3) rfl (congrArg (fun z => x3 + z) (by decide)) (Nat.le_of_ble_eq_true rfl) rfl (fun ls hl => ?_)
    refine lv_goto (tgt := 31) hx hb dX9_isFolded_105 (by decide) ?_
    exact hk31 x1 x2 (x3 + (1 : Int32)) v_far v_heaps v_isMeasured v_wayOf _ _ _ (lv_sub hl [1, 2, 3, 0] rfl) hG h
  have n42 : ∀ (k31 : Int32 → Int32 → Int32 → Int32 → Int32 → Int32 → (Nat → Int32) → Option (Int32 × Int32 × Int32 × Int32 × (Nat → Int32))) (hk31 : ∀ (x1 : Int32) (x2 : Int32) (x3 : Int32) (v_far : Int32) (v_heaps : Int32) (v_isMeasured : Int32) (v_wayOf : Nat → Int32) (H : Heap) (locs : List Loc) (ls : Array Slot), lv_has ls 5 [(0, .ref (g.2.1 50)), (1, .int x1), (2, .int x2), (3, .int x3)] → GW g s (mkS σ [(3214, v_far), (3215, v_heaps), (3212, v_isMeasured)] [] [(59, v_wayOf)] []) H locs → k31 x1 x2 x3 v_far v_heaps v_isMeasured v_wayOf = some (r, w_far, w_heaps, w_isMeasured, w_wayOf) → Wg p l e 3 67 s m args below meth c g (some (.int r)) (mkS σ [(3214, w_far), (3215, w_heaps), (3212, w_isMeasured)] [] [(59, w_wayOf)] []) H locs (F0 m 31 ls [])) (k42 : Int32 → Int32 → Int32 → Int32 → Int32 → Int32 → Int32 → (Nat → Int32) → Option (Int32 × Int32 × Int32 × Int32 × (Nat → Int32))) (hk42 : ∀ (x1 : Int32) (x2 : Int32) (x3 : Int32) (x4 : Int32) (v_far : Int32) (v_heaps : Int32) (v_isMeasured : Int32) (v_wayOf : Nat → Int32) (H : Heap) (locs : List Loc) (ls : Array Slot), lv_has ls 5 [(0, .ref (g.2.1 50)), (1, .int x1), (2, .int x2), (3, .int x3), (4, .int x4)] → GW g s (mkS σ [(3214, v_far), (3215, v_heaps), (3212, v_isMeasured)] [] [(59, v_wayOf)] []) H locs → k42 x1 x2 x3 x4 v_far v_heaps v_isMeasured v_wayOf = some (r, w_far, w_heaps, w_isMeasured, w_wayOf) → Wg p l e 3 67 s m args below meth c g (some (.int r)) (mkS σ [(3214, w_far), (3215, w_heaps), (3212, w_isMeasured)] [] [(59, w_wayOf)] []) H locs (F0 m 42 ls [])) (x1 : Int32) (x2 : Int32) (x3 : Int32) (x4 : Int32) (v_far : Int32) (v_heaps : Int32) (v_isMeasured : Int32) (v_wayOf : Nat → Int32) (H : Heap) (locs : List Loc) (ls : Array Slot), lv_has ls 5 [(0, .ref (g.2.1 50)), (1, .int x1), (2, .int x2), (3, .int x3), (4, .int x4)] → GW g s (mkS σ [(3214, v_far), (3215, v_heaps), (3212, v_isMeasured)] [] [(59, v_wayOf)] []) H locs → M_isFolded_n42 k31 k42 (σ.1 3203) x1 x2 x3 x4 v_far v_heaps v_isMeasured v_wayOf = some (r, w_far, w_heaps, w_isMeasured, w_wayOf) → Wg p l e 3 67 s m args below meth c g (some (.int r)) (mkS σ [(3214, w_far), (3215, w_heaps), (3212, w_isMeasured)] [] [(59, w_wayOf)] []) H locs (F0 m 42 ls []) := by
    intro k31 hk31 k42 hk42 x1 x2 x3 x4 v_far v_heaps v_isMeasured v_wayOf H locs ls hl hG h
    unfold M_isFolded_n42 at h
    refine lv_iload hx hb dX9_isFolded_42 (lv_at hl 4 rfl) ?_
    refine lv_aload_n hx hb dX9_isFolded_44 rfl (lv_at hl 0 rfl) ?_
    refine gx_get (v := .int (σ.1 3203)) (C := RX9) (T := TX9) (N := 44) hx hb hts hinX9 hown hK hG (ga_50 g _) rfl 3 (by decide) hw0 rfl rfl dX9_isFolded_45 ?_
    refine lv_icmp_ge (tgt := 102) hx hb dX9_isFolded_48 (by decide) (fun c1 => ?_) (fun c1 => ?_)
    · have h := ite_t c1 h
      exact n102 k31 hk31 x1 x2 x3 v_far v_heaps v_isMeasured v_wayOf _ _ _ (lv_sub hl [0, 1, 2, 3] rfl) hG h
    · have h := ite_f c1 h
      refine lv_aload_n hx hb dX9_isFolded_51 rfl (lv_at hl 0 rfl) ?_
      refine lv_iload_n hx hb dX9_isFolded_52 rfl (lv_at hl 2 rfl) ?_
      refine lv_iload_n hx hb dX9_isFolded_53 rfl (lv_at hl 3 rfl) ?_
      obtain ⟨z2, hc3, h⟩ := bnd_some h
      refine gx_cV (σ' := (mkS σ [(3214, v_far), (3215, v_heaps), (3212, v_isMeasured)] [] [(59, v_wayOf)] [])) (r := (some (.int z2))) (rest := []) (As := [.int x2, .int x3]) hS9 (c_M_isFar l g (mkS σ [(3214, v_far), (3215, v_heaps), (3212, v_isMeasured)] [] [(59, v_wayOf)] []) x2 x3 z2 hc3) rfl (cwV 2 hts gX9_isFolded_X9_isFar rfl rfl rfl (by decide +kernel) ⟨Nat.le_of_ble_eq_true rfl, Nat.le_of_ble_eq_true rfl⟩) hK hG (ga_50 g _) rfl rfl rfl hl.1 rfl (Nat.le_of_ble_eq_true rfl) dX9_isFolded_54 (fun H locs hG => ?_)
      refine W.eq (g2 := F0 m 57 ls [.int z2]) rfl ?_
      refine lv_if_eq (tgt := 102) hx hb dX9_isFolded_57 (by decide) (fun c4 => ?_) (fun c4 => ?_)
      · have h := ite_t c4 h
        exact n102 k31 hk31 x1 x2 x3 v_far v_heaps v_isMeasured v_wayOf _ _ _ (lv_sub hl [0, 1, 2, 3] rfl) hG h
      · have h := ite_f c4 h
        refine lv_iload_n hx hb dX9_isFolded_60 rfl (lv_at hl 1 rfl) ?_
        refine lv_if_eq (tgt := 94) hx hb dX9_isFolded_61 (by decide) (fun c5 => ?_) (fun c5 => ?_)
        · have h := ite_t c5 h
          exact n94 k42 hk42 x2 x3 x4 v_far v_heaps v_isMeasured v_wayOf _ _ _ (lv_sub hl [0, 2, 3, 4] rfl) hG h
        · have h := ite_f c5 h
          refine lv_aload_n hx hb dX9_isFolded_64 rfl (lv_at hl 0 rfl) ?_
          refine lv_iload_n hx hb dX9_isFolded_65 rfl (lv_at hl 3 rfl) ?_
          refine lv_iload hx hb dX9_isFolded_66 (lv_at hl 4 rfl) ?_
          obtain ⟨z6, hc7, h⟩ := bnd_some h
          refine gx_cV (σ' := (mkS σ [(3214, v_far), (3215, v_heaps), (3212, v_isMeasured)] [] [(59, v_wayOf)] [])) (r := (some (.int z6))) (rest := []) (As := [.int x3, .int x4]) hS9 (c_M_isFar l g (mkS σ [(3214, v_far), (3215, v_heaps), (3212, v_isMeasured)] [] [(59, v_wayOf)] []) x3 x4 z6 hc7) rfl (cwV 2 hts gX9_isFolded_X9_isFar rfl rfl rfl (by decide +kernel) ⟨Nat.le_of_ble_eq_true rfl, Nat.le_of_ble_eq_true rfl⟩) hK hG (ga_50 g _) rfl rfl rfl hl.1 rfl (Nat.le_of_ble_eq_true rfl) dX9_isFolded_68 (fun H locs hG => ?_)
          refine W.eq (g2 := F0 m 71 ls [.int z6]) rfl ?_
          refine lv_if_eq (tgt := 90) hx hb dX9_isFolded_71 (by decide) (fun c8 => ?_) (fun c8 => ?_)
          · have h := ite_t c8 h
            exact n90 k42 hk42 x2 x3 x4 v_far v_heaps v_isMeasured v_wayOf _ _ _ (lv_sub hl [0, 2, 3, 4] rfl) hG h
          · have h := ite_f c8 h
            refine lv_iload hx hb dX9_isFolded_74 (lv_at hl 4 rfl) ?_
            refine lv_iload_n hx hb dX9_isFolded_76 rfl (lv_at hl 2 rfl) ?_
            refine lv_icmp_eq (tgt := 90) hx hb dX9_isFolded_77 (by decide) (fun c9 => ?_) (fun c9 => ?_)
            · have h := ite_t c9 h
              exact n90 k42 hk42 x2 x3 x4 v_far v_heaps v_isMeasured v_wayOf _ _ _ (lv_sub hl [0, 2, 3, 4] rfl) hG h
            · have h := ite_f c9 h
              refine lv_aload_n hx hb dX9_isFolded_80 rfl (lv_at hl 0 rfl) ?_
              refine lv_iload_n hx hb dX9_isFolded_81 rfl (lv_at hl 2 rfl) ?_
              refine lv_iload hx hb dX9_isFolded_82 (lv_at hl 4 rfl) ?_
              obtain ⟨z10, hc11, h⟩ := bnd_some h
              refine gx_cV (σ' := (mkS σ [(3214, v_far), (3215, v_heaps), (3212, v_isMeasured)] [] [(59, v_wayOf)] [])) (r := (some (.int z10))) (rest := []) (As := [.int x2, .int x4]) hS9 (c_M_isFar l g (mkS σ [(3214, v_far), (3215, v_heaps), (3212, v_isMeasured)] [] [(59, v_wayOf)] []) x2 x4 z10 hc11) rfl (cwV 2 hts gX9_isFolded_X9_isFar rfl rfl rfl (by decide +kernel) ⟨Nat.le_of_ble_eq_true rfl, Nat.le_of_ble_eq_true rfl⟩) hK hG (ga_50 g _) rfl rfl rfl hl.1 rfl (Nat.le_of_ble_eq_true rfl) dX9_isFolded_84 (fun H locs hG => ?_)
              refine W.eq (g2 := F0 m 87 ls [.int z10]) rfl ?_
              refine lv_if_eq (tgt := 94) hx hb dX9_isFolded_87 (by decide) (fun c12 => ?_) (fun c12 => ?_)
              · have h := ite_t c12 h
                exact n94 k42 hk42 x2 x3 x4 v_far v_heaps v_isMeasured v_wayOf _ _ _ (lv_sub hl [0, 2, 3, 4] rfl) hG h
              · have h := ite_f c12 h
                exact n90 k42 hk42 x2 x3 x4 v_far v_heaps v_isMeasured v_wayOf _ _ _ (lv_sub hl [0, 2, 3, 4] rfl) hG h
  have l42 : ∀ (k31 : Int32 → Int32 → Int32 → Int32 → Int32 → Int32 → (Nat → Int32) → Option (Int32 × Int32 × Int32 × Int32 × (Nat → Int32))) (hk31 : ∀ (x1 : Int32) (x2 : Int32) (x3 : Int32) (v_far : Int32) (v_heaps : Int32) (v_isMeasured : Int32) (v_wayOf : Nat → Int32) (H : Heap) (locs : List Loc) (ls : Array Slot), lv_has ls 5 [(0, .ref (g.2.1 50)), (1, .int x1), (2, .int x2), (3, .int x3)] → GW g s (mkS σ [(3214, v_far), (3215, v_heaps), (3212, v_isMeasured)] [] [(59, v_wayOf)] []) H locs → k31 x1 x2 x3 v_far v_heaps v_isMeasured v_wayOf = some (r, w_far, w_heaps, w_isMeasured, w_wayOf) → Wg p l e 3 67 s m args below meth c g (some (.int r)) (mkS σ [(3214, w_far), (3215, w_heaps), (3212, w_isMeasured)] [] [(59, w_wayOf)] []) H locs (F0 m 31 ls [])) (F : Nat) (x1 : Int32) (x2 : Int32) (x3 : Int32) (x4 : Int32) (v_far : Int32) (v_heaps : Int32) (v_isMeasured : Int32) (v_wayOf : Nat → Int32) (H : Heap) (locs : List Loc) (ls : Array Slot), lv_has ls 5 [(0, .ref (g.2.1 50)), (1, .int x1), (2, .int x2), (3, .int x3), (4, .int x4)] → GW g s (mkS σ [(3214, v_far), (3215, v_heaps), (3212, v_isMeasured)] [] [(59, v_wayOf)] []) H locs → M_isFolded_l42 k31 (σ.1 3203) F x1 x2 x3 x4 v_far v_heaps v_isMeasured v_wayOf = some (r, w_far, w_heaps, w_isMeasured, w_wayOf) → Wg p l e 3 67 s m args below meth c g (some (.int r)) (mkS σ [(3214, w_far), (3215, w_heaps), (3212, w_isMeasured)] [] [(59, w_wayOf)] []) H locs (F0 m 42 ls []) := by
    intro k31 hk31 F
    induction F with
    | zero => intro x1 x2 x3 x4 v_far v_heaps v_isMeasured v_wayOf H locs ls hl hG h; exact no_some h
    | succ F ih => intro x1 x2 x3 x4 v_far v_heaps v_isMeasured v_wayOf H locs ls hl hG h; exact n42 k31 hk31 (fun x1 x2 x3 x4 v_far v_heaps v_isMeasured v_wayOf => M_isFolded_l42 k31 (σ.1 3203) F x1 x2 x3 x4 v_far v_heaps v_isMeasured v_wayOf) ih x1 x2 x3 x4 v_far v_heaps v_isMeasured v_wayOf H locs ls hl hG h
  have n108 : ∀ (k21 : Int32 → Int32 → Int32 → Int32 → Int32 → (Nat → Int32) → Option (Int32 × Int32 × Int32 × Int32 × (Nat → Int32))) (hk21 : ∀ (x1 : Int32) (x2 : Int32) (v_far : Int32) (v_heaps : Int32) (v_isMeasured : Int32) (v_wayOf : Nat → Int32) (H : Heap) (locs : List Loc) (ls : Array Slot), lv_has ls 5 [(0, .ref (g.2.1 50)), (1, .int x1), (2, .int x2)] → GW g s (mkS σ [(3214, v_far), (3215, v_heaps), (3212, v_isMeasured)] [] [(59, v_wayOf)] []) H locs → k21 x1 x2 v_far v_heaps v_isMeasured v_wayOf = some (r, w_far, w_heaps, w_isMeasured, w_wayOf) → Wg p l e 3 67 s m args below meth c g (some (.int r)) (mkS σ [(3214, w_far), (3215, w_heaps), (3212, w_isMeasured)] [] [(59, w_wayOf)] []) H locs (F0 m 21 ls [])) (x1 : Int32) (x2 : Int32) (v_far : Int32) (v_heaps : Int32) (v_isMeasured : Int32) (v_wayOf : Nat → Int32) (H : Heap) (locs : List Loc) (ls : Array Slot), lv_has ls 5 [(0, .ref (g.2.1 50)), (1, .int x1), (2, .int x2)] → GW g s (mkS σ [(3214, v_far), (3215, v_heaps), (3212, v_isMeasured)] [] [(59, v_wayOf)] []) H locs → M_isFolded_n108 k21 x1 x2 v_far v_heaps v_isMeasured v_wayOf = some (r, w_far, w_heaps, w_isMeasured, w_wayOf) → Wg p l e 3 67 s m args below meth c g (some (.int r)) (mkS σ [(3214, w_far), (3215, w_heaps), (3212, w_isMeasured)] [] [(59, w_wayOf)] []) H locs (F0 m 108 ls []) := by
    intro k21 hk21 x1 x2 v_far v_heaps v_isMeasured v_wayOf H locs ls hl hG h
    unfold M_isFolded_n108 at h
    refine lv_iinc (v := (x2 + (1 : Int32))) (lv' := [(2, .int (x2 + (1 : Int32))), (0, .ref (g.2.1 50)), (1, .int x1)]) hx hb dX9_isFolded_108 hl (k := 2) rfl (congrArg (fun z => x2 + z) (by decide)) (Nat.le_of_ble_eq_true rfl) rfl (fun ls hl => ?_)
    refine lv_goto (tgt := 21) hx hb dX9_isFolded_111 (by decide) ?_
    exact hk21 x1 (x2 + (1 : Int32)) v_far v_heaps v_isMeasured v_wayOf _ _ _ (lv_sub hl [1, 2, 0] rfl) hG h
  have n31 : ∀ (k21 : Int32 → Int32 → Int32 → Int32 → Int32 → (Nat → Int32) → Option (Int32 × Int32 × Int32 × Int32 × (Nat → Int32))) (hk21 : ∀ (x1 : Int32) (x2 : Int32) (v_far : Int32) (v_heaps : Int32) (v_isMeasured : Int32) (v_wayOf : Nat → Int32) (H : Heap) (locs : List Loc) (ls : Array Slot), lv_has ls 5 [(0, .ref (g.2.1 50)), (1, .int x1), (2, .int x2)] → GW g s (mkS σ [(3214, v_far), (3215, v_heaps), (3212, v_isMeasured)] [] [(59, v_wayOf)] []) H locs → k21 x1 x2 v_far v_heaps v_isMeasured v_wayOf = some (r, w_far, w_heaps, w_isMeasured, w_wayOf) → Wg p l e 3 67 s m args below meth c g (some (.int r)) (mkS σ [(3214, w_far), (3215, w_heaps), (3212, w_isMeasured)] [] [(59, w_wayOf)] []) H locs (F0 m 21 ls [])) (k31 : Int32 → Int32 → Int32 → Int32 → Int32 → Int32 → (Nat → Int32) → Option (Int32 × Int32 × Int32 × Int32 × (Nat → Int32))) (hk31 : ∀ (x1 : Int32) (x2 : Int32) (x3 : Int32) (v_far : Int32) (v_heaps : Int32) (v_isMeasured : Int32) (v_wayOf : Nat → Int32) (H : Heap) (locs : List Loc) (ls : Array Slot), lv_has ls 5 [(0, .ref (g.2.1 50)), (1, .int x1), (2, .int x2), (3, .int x3)] → GW g s (mkS σ [(3214, v_far), (3215, v_heaps), (3212, v_isMeasured)] [] [(59, v_wayOf)] []) H locs → k31 x1 x2 x3 v_far v_heaps v_isMeasured v_wayOf = some (r, w_far, w_heaps, w_isMeasured, w_wayOf) → Wg p l e 3 67 s m args below meth c g (some (.int r)) (mkS σ [(3214, w_far), (3215, w_heaps), (3212, w_isMeasured)] [] [(59, w_wayOf)] []) H locs (F0 m 31 ls [])) (x1 : Int32) (x2 : Int32) (x3 : Int32) (v_far : Int32) (v_heaps : Int32) (v_isMeasured : Int32) (v_wayOf : Nat → Int32) (H : Heap) (locs : List Loc) (ls : Array Slot), lv_has ls 5 [(0, .ref (g.2.1 50)), (1, .int x1), (2, .int x2), (3, .int x3)] → GW g s (mkS σ [(3214, v_far), (3215, v_heaps), (3212, v_isMeasured)] [] [(59, v_wayOf)] []) H locs → M_isFolded_n31 k21 k31 (σ.1 3203) x1 x2 x3 v_far v_heaps v_isMeasured v_wayOf = some (r, w_far, w_heaps, w_isMeasured, w_wayOf) → Wg p l e 3 67 s m args below meth c g (some (.int r)) (mkS σ [(3214, w_far), (3215, w_heaps), (3212, w_isMeasured)] [] [(59, w_wayOf)] []) H locs (F0 m 31 ls []) := by
    intro k21 hk21 k31 hk31 x1 x2 x3 v_far v_heaps v_isMeasured v_wayOf H locs ls hl hG h
    unfold M_isFolded_n31 at h
    refine lv_iload_n hx hb dX9_isFolded_31 rfl (lv_at hl 3 rfl) ?_
    refine lv_aload_n hx hb dX9_isFolded_32 rfl (lv_at hl 0 rfl) ?_
    refine gx_get (v := .int (σ.1 3203)) (C := RX9) (T := TX9) (N := 44) hx hb hts hinX9 hown hK hG (ga_50 g _) rfl 3 (by decide) hw0 rfl rfl dX9_isFolded_33 ?_
    refine lv_icmp_ge (tgt := 108) hx hb dX9_isFolded_36 (by decide) (fun c13 => ?_) (fun c13 => ?_)
    · have h := ite_t c13 h
      exact n108 k21 hk21 x1 x2 v_far v_heaps v_isMeasured v_wayOf _ _ _ (lv_sub hl [0, 1, 2] rfl) hG h
    · have h := ite_f c13 h
      refine lv_iconst (v := (0 : Int32)) hx hb dX9_isFolded_39 (by decide) ?_
      refine lv_istore (lv' := [(4, .int (0 : Int32)), (0, .ref (g.2.1 50)), (1, .int x1), (2, .int x2), (3, .int x3)]) hx hb dX9_isFolded_40 hl (Nat.le_of_ble_eq_true rfl) rfl (fun ls hl => ?_)
      exact l42 k31 hk31 FUEL x1 x2 x3 (0 : Int32) v_far v_heaps v_isMeasured v_wayOf _ _ _ (lv_sub hl [1, 2, 3, 4, 0] rfl) hG h
  have l31 : ∀ (k21 : Int32 → Int32 → Int32 → Int32 → Int32 → (Nat → Int32) → Option (Int32 × Int32 × Int32 × Int32 × (Nat → Int32))) (hk21 : ∀ (x1 : Int32) (x2 : Int32) (v_far : Int32) (v_heaps : Int32) (v_isMeasured : Int32) (v_wayOf : Nat → Int32) (H : Heap) (locs : List Loc) (ls : Array Slot), lv_has ls 5 [(0, .ref (g.2.1 50)), (1, .int x1), (2, .int x2)] → GW g s (mkS σ [(3214, v_far), (3215, v_heaps), (3212, v_isMeasured)] [] [(59, v_wayOf)] []) H locs → k21 x1 x2 v_far v_heaps v_isMeasured v_wayOf = some (r, w_far, w_heaps, w_isMeasured, w_wayOf) → Wg p l e 3 67 s m args below meth c g (some (.int r)) (mkS σ [(3214, w_far), (3215, w_heaps), (3212, w_isMeasured)] [] [(59, w_wayOf)] []) H locs (F0 m 21 ls [])) (F : Nat) (x1 : Int32) (x2 : Int32) (x3 : Int32) (v_far : Int32) (v_heaps : Int32) (v_isMeasured : Int32) (v_wayOf : Nat → Int32) (H : Heap) (locs : List Loc) (ls : Array Slot), lv_has ls 5 [(0, .ref (g.2.1 50)), (1, .int x1), (2, .int x2), (3, .int x3)] → GW g s (mkS σ [(3214, v_far), (3215, v_heaps), (3212, v_isMeasured)] [] [(59, v_wayOf)] []) H locs → M_isFolded_l31 k21 (σ.1 3203) F x1 x2 x3 v_far v_heaps v_isMeasured v_wayOf = some (r, w_far, w_heaps, w_isMeasured, w_wayOf) → Wg p l e 3 67 s m args below meth c g (some (.int r)) (mkS σ [(3214, w_far), (3215, w_heaps), (3212, w_isMeasured)] [] [(59, w_wayOf)] []) H locs (F0 m 31 ls []) := by
    intro k21 hk21 F
    induction F with
    | zero => intro x1 x2 x3 v_far v_heaps v_isMeasured v_wayOf H locs ls hl hG h; exact no_some h
    | succ F ih => intro x1 x2 x3 v_far v_heaps v_isMeasured v_wayOf H locs ls hl hG h; exact n31 k21 hk21 (fun x1 x2 x3 v_far v_heaps v_isMeasured v_wayOf => M_isFolded_l31 k21 (σ.1 3203) F x1 x2 x3 v_far v_heaps v_isMeasured v_wayOf) ih x1 x2 x3 v_far v_heaps v_isMeasured v_wayOf H locs ls hl hG h
  have n114 : ∀ (x1 : Int32) (v_far : Int32) (v_heaps : Int32) (v_isMeasured : Int32) (v_wayOf : Nat → Int32) (H : Heap) (locs : List Loc) (ls : Array Slot), lv_has ls 5 [(1, .int x1)] → GW g s (mkS σ [(3214, v_far), (3215, v_heaps), (3212, v_isMeasured)] [] [(59, v_wayOf)] []) H locs → M_isFolded_n114 x1 v_far v_heaps v_isMeasured v_wayOf = some (r, w_far, w_heaps, w_isMeasured, w_wayOf) → Wg p l e 3 67 s m args below meth c g (some (.int r)) (mkS σ [(3214, w_far), (3215, w_heaps), (3212, w_isMeasured)] [] [(59, w_wayOf)] []) H locs (F0 m 114 ls []) := by
    intro x1 v_far v_heaps v_isMeasured v_wayOf H locs ls hl hG h
    unfold M_isFolded_n114 at h
    refine lv_iload_n hx hb dX9_isFolded_114 rfl (lv_at hl 0 rfl) ?_
    obtain ⟨hg14, h⟩ := gd_some h
    cases h
    exact gx_zret hx hb hr hlocks hg14 hG dX9_isFolded_115
  have n21 : ∀ (k21 : Int32 → Int32 → Int32 → Int32 → Int32 → (Nat → Int32) → Option (Int32 × Int32 × Int32 × Int32 × (Nat → Int32))) (hk21 : ∀ (x1 : Int32) (x2 : Int32) (v_far : Int32) (v_heaps : Int32) (v_isMeasured : Int32) (v_wayOf : Nat → Int32) (H : Heap) (locs : List Loc) (ls : Array Slot), lv_has ls 5 [(0, .ref (g.2.1 50)), (1, .int x1), (2, .int x2)] → GW g s (mkS σ [(3214, v_far), (3215, v_heaps), (3212, v_isMeasured)] [] [(59, v_wayOf)] []) H locs → k21 x1 x2 v_far v_heaps v_isMeasured v_wayOf = some (r, w_far, w_heaps, w_isMeasured, w_wayOf) → Wg p l e 3 67 s m args below meth c g (some (.int r)) (mkS σ [(3214, w_far), (3215, w_heaps), (3212, w_isMeasured)] [] [(59, w_wayOf)] []) H locs (F0 m 21 ls [])) (x1 : Int32) (x2 : Int32) (v_far : Int32) (v_heaps : Int32) (v_isMeasured : Int32) (v_wayOf : Nat → Int32) (H : Heap) (locs : List Loc) (ls : Array Slot), lv_has ls 5 [(0, .ref (g.2.1 50)), (1, .int x1), (2, .int x2)] → GW g s (mkS σ [(3214, v_far), (3215, v_heaps), (3212, v_isMeasured)] [] [(59, v_wayOf)] []) H locs → M_isFolded_n21 k21 (σ.1 3203) x1 x2 v_far v_heaps v_isMeasured v_wayOf = some (r, w_far, w_heaps, w_isMeasured, w_wayOf) → Wg p l e 3 67 s m args below meth c g (some (.int r)) (mkS σ [(3214, w_far), (3215, w_heaps), (3212, w_isMeasured)] [] [(59, w_wayOf)] []) H locs (F0 m 21 ls []) := by
    intro k21 hk21 x1 x2 v_far v_heaps v_isMeasured v_wayOf H locs ls hl hG h
    unfold M_isFolded_n21 at h
    refine lv_iload_n hx hb dX9_isFolded_21 rfl (lv_at hl 2 rfl) ?_
    refine lv_aload_n hx hb dX9_isFolded_22 rfl (lv_at hl 0 rfl) ?_
    refine gx_get (v := .int (σ.1 3203)) (C := RX9) (T := TX9) (N := 44) hx hb hts hinX9 hown hK hG (ga_50 g _) rfl 3 (by decide) hw0 rfl rfl dX9_isFolded_23 ?_
    refine lv_icmp_ge (tgt := 114) hx hb dX9_isFolded_26 (by decide) (fun c15 => ?_) (fun c15 => ?_)
    · have h := ite_t c15 h
      exact n114 x1 v_far v_heaps v_isMeasured v_wayOf _ _ _ (lv_sub hl [1] rfl) hG h
    · have h := ite_f c15 h
      refine lv_iconst (v := (0 : Int32)) hx hb dX9_isFolded_29 (by decide) ?_
      refine lv_istore_n (lv' := [(3, .int (0 : Int32)), (0, .ref (g.2.1 50)), (1, .int x1), (2, .int x2)]) hx hb dX9_isFolded_30 rfl hl (Nat.le_of_ble_eq_true rfl) rfl (fun ls hl => ?_)
      exact l31 k21 hk21 FUEL x1 x2 (0 : Int32) v_far v_heaps v_isMeasured v_wayOf _ _ _ (lv_sub hl [1, 2, 3, 0] rfl) hG h
  have l21 : ∀  (F : Nat) (x1 : Int32) (x2 : Int32) (v_far : Int32) (v_heaps : Int32) (v_isMeasured : Int32) (v_wayOf : Nat → Int32) (H : Heap) (locs : List Loc) (ls : Array Slot), lv_has ls 5 [(0, .ref (g.2.1 50)), (1, .int x1), (2, .int x2)] → GW g s (mkS σ [(3214, v_far), (3215, v_heaps), (3212, v_isMeasured)] [] [(59, v_wayOf)] []) H locs → M_isFolded_l21 (σ.1 3203) F x1 x2 v_far v_heaps v_isMeasured v_wayOf = some (r, w_far, w_heaps, w_isMeasured, w_wayOf) → Wg p l e 3 67 s m args below meth c g (some (.int r)) (mkS σ [(3214, w_far), (3215, w_heaps), (3212, w_isMeasured)] [] [(59, w_wayOf)] []) H locs (F0 m 21 ls []) := by
    intro F
    induction F with
    | zero => intro x1 x2 v_far v_heaps v_isMeasured v_wayOf H locs ls hl hG h; exact no_some h
    | succ F ih => intro x1 x2 v_far v_heaps v_isMeasured v_wayOf H locs ls hl hG h; exact n21 (fun x1 x2 v_far v_heaps v_isMeasured v_wayOf => M_isFolded_l21 (σ.1 3203) F x1 x2 v_far v_heaps v_isMeasured v_wayOf) ih x1 x2 v_far v_heaps v_isMeasured v_wayOf H locs ls hl hG h
  refine lv_aload_n hx hb dX9_isFolded_0 rfl (lv_at hl 0 rfl) ?_
  obtain ⟨z16, hc17, h⟩ := bnd_some h
  refine gx_cV (σ' := (mkS σ [(3214, z16.2.1), (3215, z16.2.2.1), (3212, z16.2.2.2.1)] [] [(59, z16.2.2.2.2)] [])) (r := (some (.int z16.1))) (rest := []) (As := []) hS9 (c_M_isWhole l g (mkS σ [(3214, (σ.1 3214)), (3215, (σ.1 3215)), (3212, (σ.1 3212))] [] [(59, (σ.2.2.1 59))] []) z16.1 z16.2.1 z16.2.2.1 z16.2.2.2.1 z16.2.2.2.2 hc17) (mk_mk rfl rfl rfl rfl) (cwV 0 hts gX9_isFolded_X9_isWhole rfl rfl rfl (by decide +kernel) ⟨Nat.le_of_ble_eq_true rfl, Nat.le_of_ble_eq_true rfl⟩) hK hG (ga_50 g _) rfl rfl rfl hl.1 rfl (Nat.le_of_ble_eq_true rfl) dX9_isFolded_1 (fun H locs hG => ?_)
  refine W.eq (g2 := F0 m 4 ls [.int z16.1]) rfl ?_
  refine lv_if_eq (tgt := 15) hx hb dX9_isFolded_4 (by decide) (fun c18 => ?_) (fun c18 => ?_)
  · have h := ite_t c18 h
    exact n15 z16.2.1 z16.2.2.1 z16.2.2.2.1 z16.2.2.2.2 _ _ _ (lv_sub hl [] rfl) hG h
  · have h := ite_f c18 h
    refine lv_aload_n hx hb dX9_isFolded_7 rfl (lv_at hl 0 rfl) ?_
    refine gx_get (v := .int z16.2.1) (C := RX9) (T := TX9) (N := 44) hx hb hts hinX9 hown hK hG (ga_50 g _) rfl 14 (by decide) hw1 rfl rfl dX9_isFolded_8 ?_
    refine lv_iconst (v := (1 : Int32)) hx hb dX9_isFolded_11 (by decide) ?_
    refine lv_icmp_ge (tgt := 17) hx hb dX9_isFolded_12 (by decide) (fun c19 => ?_) (fun c19 => ?_)
    · have h := ite_t c19 h
      refine lv_iconst (v := (1 : Int32)) hx hb dX9_isFolded_17 (by decide) ?_
      refine lv_istore_n (lv' := [(1, .int (1 : Int32)), (0, .ref (g.2.1 50))]) hx hb dX9_isFolded_18 rfl hl (Nat.le_of_ble_eq_true rfl) rfl (fun ls hl => ?_)
      refine lv_iconst (v := (0 : Int32)) hx hb dX9_isFolded_19 (by decide) ?_
      refine lv_istore_n (lv' := [(2, .int (0 : Int32)), (1, .int (1 : Int32)), (0, .ref (g.2.1 50))]) hx hb dX9_isFolded_20 rfl hl (Nat.le_of_ble_eq_true rfl) rfl (fun ls hl => ?_)
      exact l21 FUEL (1 : Int32) (0 : Int32) z16.2.1 z16.2.2.1 z16.2.2.2.1 z16.2.2.2.2 _ _ _ (lv_sub hl [2, 1, 0] rfl) hG h
    · have h := ite_f c19 h
      exact n15 z16.2.1 z16.2.2.1 z16.2.2.2.1 z16.2.2.2.2 _ _ _ (lv_sub hl [] rfl) hG h

set_option maxHeartbeats 4000000 in
set_option maxRecDepth 100000 in
theorem c_M_clearNew (l : Launch) (g : GC) (σ : St) (w_newRoad : Nat → Int32) (h : M_clearNew (σ.2.2.1 70) = some w_newRoad) : Cn l g yX9_clearNew wsX9_clearNew 0 0 [.ref (g.2.1 50)] σ none (mkS σ [] [] [(70, w_newRoad)] []) := by
  unfold Cn
  refine Met.ofW (cc := cX9_clearNew) (maxL := 2) (ret := none) (by decide) rfl ?_
  intro p e s m args below meth c s₁ B hml hv
  obtain ⟨hargs, hP0, hK⟩ := hv
  have hx := B.exec
  have hb := B.bytes
  have hr := B.returns
  have hts := atoms_spec (ws := wsX9_clearNew) B.pre
  have hown : s.vm.findClass RX9 = some m.cls := findClass_of_methodNamed B.named
  have hlocks := B.notSynchronized
  have hinX9 : ∀ w ∈ wsX90, w ∈ wsX9_clearNew := fun w h => List.mem_cons_of_mem _ (List.mem_append_right _ (h))
  have hw0 := hts (.fieldLink RX9 73 "LikeNetsModel" "newRoad" "[Z") (List.mem_of_getElem? (i := 1) rfl)
  have hf9 : entryFrame m args 2 = _ := (congrArg (fun a => entryFrame m a 2) hargs).trans (lg_entry_eq m [.ref (g.2.1 50)] 2)
  show Wg p l e 0 0 s m args below meth c g none (mkS σ [] [] [(70, w_newRoad)] []) s.heap [] (entryFrame m args 2)
  rw [hf9]
  have hl := lv_entry ([.ref (g.2.1 50)]) (n := 2) (Nat.le_of_ble_eq_true rfl)
  generalize (lg_sl ([.ref (g.2.1 50)]) ++ List.replicate (2 - (lg_sl ([.ref (g.2.1 50)])).length) Slot.unset).toArray = ls at hl ⊢
  have hl : lv_has ls 2 [(0, .ref (g.2.1 50))] := hl
  have hG : GW g s σ s.heap [] := ⟨hP0, va_S.rf⟩
  have hG : GW g s (mkS σ [] [] [(70, (σ.2.2.1 70))] []) s.heap [] := GW_self [] [] [70] [] hG
  unfold M_clearNew at h
  have n22 : ∀ (v_newRoad : Nat → Int32) (H : Heap) (locs : List Loc) (ls : Array Slot), lv_has ls 2 [] → GW g s (mkS σ [] [] [(70, v_newRoad)] []) H locs → M_clearNew_n22 v_newRoad = some w_newRoad → Wg p l e 0 0 s m args below meth c g none (mkS σ [] [] [(70, w_newRoad)] []) H locs (F0 m 22 ls []) := by
    intro v_newRoad H locs ls hl hG h
    unfold M_clearNew_n22 at h
    cases h
    exact gx_vret hx hb hr hlocks hG dX9_clearNew_22
  have n2 : ∀ (k2 : Int32 → (Nat → Int32) → Option ((Nat → Int32))) (hk2 : ∀ (x1 : Int32) (v_newRoad : Nat → Int32) (H : Heap) (locs : List Loc) (ls : Array Slot), lv_has ls 2 [(0, .ref (g.2.1 50)), (1, .int x1)] → GW g s (mkS σ [] [] [(70, v_newRoad)] []) H locs → k2 x1 v_newRoad = some w_newRoad → Wg p l e 0 0 s m args below meth c g none (mkS σ [] [] [(70, w_newRoad)] []) H locs (F0 m 2 ls [])) (x1 : Int32) (v_newRoad : Nat → Int32) (H : Heap) (locs : List Loc) (ls : Array Slot), lv_has ls 2 [(0, .ref (g.2.1 50)), (1, .int x1)] → GW g s (mkS σ [] [] [(70, v_newRoad)] []) H locs → M_clearNew_n2 k2 x1 v_newRoad = some w_newRoad → Wg p l e 0 0 s m args below meth c g none (mkS σ [] [] [(70, w_newRoad)] []) H locs (F0 m 2 ls []) := by
    intro k2 hk2 x1 v_newRoad H locs ls hl hG h
    unfold M_clearNew_n2 at h
    refine lv_iload_n hx hb dX9_clearNew_2 rfl (lv_at hl 1 rfl) ?_
    refine lv_sipush (v := (1024 : Int32)) hx hb dX9_clearNew_3 (by decide) ?_
    refine lv_icmp_ge (tgt := 22) hx hb dX9_clearNew_6 (by decide) (fun c1 => ?_) (fun c1 => ?_)
    · have h := ite_t c1 h
      exact n22 v_newRoad _ _ _ (lv_sub hl [] rfl) hG h
    · have h := ite_f c1 h
      refine lv_aload_n hx hb dX9_clearNew_9 rfl (lv_at hl 0 rfl) ?_
      refine gx_get (v := .ref (g.2.1 70)) (C := RX9) (T := TX9) (N := 44) hx hb hts hinX9 hown hK hG (ga_50 g _) rfl 29 (by decide) hw0 rfl rfl dX9_clearNew_10 ?_
      refine lv_iload_n hx hb dX9_clearNew_13 rfl (lv_at hl 1 rfl) ?_
      refine lv_iconst (v := (0 : Int32)) hx hb dX9_clearNew_14 (by decide) ?_
      obtain ⟨hg2, h⟩ := gd_some h
      refine gx_zast (σ' := (mkS σ [] [] [(70, (upd v_newRoad (x1.toNatClampNeg) (0 : Int32)))] [])) (f := v_newRoad) hx hb hK hG (ga_70 g _) hg2 (by decide) ((gs_70 g _ _).trans (congrArg (g_cells g) (mk_c 0 rfl rfl))) dX9_clearNew_15 (fun H locs hG => ?_)
      refine lv_iinc (v := (x1 + (1 : Int32))) (lv' := [(1, .int (x1 + (1 : Int32))), (0, .ref (g.2.1 50))]) hx hb dX9_clearNew_16 hl (k := 1) rfl (congrArg (fun z => x1 + z) (by decide)) (Nat.le_of_ble_eq_true rfl) rfl (fun ls hl => ?_)
      refine lv_goto (tgt := 2) hx hb dX9_clearNew_19 (by decide) ?_
      exact hk2 (x1 + (1 : Int32)) (upd v_newRoad (x1.toNatClampNeg) (0 : Int32)) _ _ _ (lv_sub hl [1, 0] rfl) hG h
  have l2 : ∀  (F : Nat) (x1 : Int32) (v_newRoad : Nat → Int32) (H : Heap) (locs : List Loc) (ls : Array Slot), lv_has ls 2 [(0, .ref (g.2.1 50)), (1, .int x1)] → GW g s (mkS σ [] [] [(70, v_newRoad)] []) H locs → M_clearNew_l2 F x1 v_newRoad = some w_newRoad → Wg p l e 0 0 s m args below meth c g none (mkS σ [] [] [(70, w_newRoad)] []) H locs (F0 m 2 ls []) := by
    intro F
    induction F with
    | zero => intro x1 v_newRoad H locs ls hl hG h; exact no_some h
    | succ F ih => intro x1 v_newRoad H locs ls hl hG h; exact n2 (fun x1 v_newRoad => M_clearNew_l2 F x1 v_newRoad) ih x1 v_newRoad H locs ls hl hG h
  refine lv_iconst (v := (0 : Int32)) hx hb dX9_clearNew_0 (by decide) ?_
  refine lv_istore_n (lv' := [(1, .int (0 : Int32)), (0, .ref (g.2.1 50))]) hx hb dX9_clearNew_1 rfl hl (Nat.le_of_ble_eq_true rfl) rfl (fun ls hl => ?_)
  exact l2 FUEL (0 : Int32) (σ.2.2.1 70) _ _ _ (lv_sub hl [1, 0] rfl) hG h

set_option maxHeartbeats 4000000 in
set_option maxRecDepth 100000 in
theorem c_M_fold (l : Launch) (g : GC) (σ : St) (r : Int32) (w_areKindsFound : Int32) (w_far : Int32) (w_heaps : Int32) (w_isMeasured : Int32) (w_posts : Int32) (w_newRoad : Nat → Int32) (w_numberOf : Nat → Int32) (w_road : Nat → Int32) (w_wayOf : Nat → Int32) (h : M_fold (σ.1 3238) (σ.1 3214) (σ.1 3215) (σ.1 3212) (σ.1 3203) (σ.2.2.1 70) (σ.2.2.1 71) (σ.2.2.1 54) (σ.2.2.1 59) = some (r, w_areKindsFound, w_far, w_heaps, w_isMeasured, w_posts, w_newRoad, w_numberOf, w_road, w_wayOf)) : Cn l g yX9_fold wsX9_fold 4 91 [.ref (g.2.1 50)] σ (some (.int r)) (mkS σ [(3238, w_areKindsFound), (3214, w_far), (3215, w_heaps), (3212, w_isMeasured), (3203, w_posts)] [] [(70, w_newRoad), (71, w_numberOf), (54, w_road), (59, w_wayOf)] []) := by
  unfold Cn
  refine Met.ofW (cc := cX9_fold) (maxL := 4) (ret := (some .int)) (by decide) rfl ?_
  intro p e s m args below meth c s₁ B hml hv
  obtain ⟨hargs, hP0, hK⟩ := hv
  have hx := B.exec
  have hb := B.bytes
  have hr := B.returns
  have hts := atoms_spec (ws := wsX9_fold) B.pre
  have hown : s.vm.findClass RX9 = some m.cls := findClass_of_methodNamed B.named
  have hlocks := B.notSynchronized
  have hS9 : CallFix p m c cX9_fold 4 s args wsX9_fold RX9 := ⟨hx, hb, hml, hown, hts⟩
  have hinX9 : ∀ w ∈ wsX90, w ∈ wsX9_fold := fun w h => List.mem_cons_of_mem _ (List.mem_append_right _ (h))
  have hw0 := hts (.fieldLink RX9 76 "LikeNetsModel" "numberOf" "[I") (List.mem_of_getElem? (i := 2) rfl)
  have hw1 := hts (.fieldLink RX9 116 "LikeNetsModel" "posts" "I") (List.mem_of_getElem? (i := 1) rfl)
  have hw2 := hts (.fieldLink RX9 19 "LikeNetsModel" "road" "[Z") (List.mem_of_getElem? (i := 3) rfl)
  have hw3 := hts (.fieldLink RX9 73 "LikeNetsModel" "newRoad" "[Z") (List.mem_of_getElem? (i := 4) rfl)
  have hf9 : entryFrame m args 4 = _ := (congrArg (fun a => entryFrame m a 4) hargs).trans (lg_entry_eq m [.ref (g.2.1 50)] 4)
  show Wg p l e 4 91 s m args below meth c g (some (.int r)) (mkS σ [(3238, w_areKindsFound), (3214, w_far), (3215, w_heaps), (3212, w_isMeasured), (3203, w_posts)] [] [(70, w_newRoad), (71, w_numberOf), (54, w_road), (59, w_wayOf)] []) s.heap [] (entryFrame m args 4)
  rw [hf9]
  have hl := lv_entry ([.ref (g.2.1 50)]) (n := 4) (Nat.le_of_ble_eq_true rfl)
  generalize (lg_sl ([.ref (g.2.1 50)]) ++ List.replicate (4 - (lg_sl ([.ref (g.2.1 50)])).length) Slot.unset).toArray = ls at hl ⊢
  have hl : lv_has ls 4 [(0, .ref (g.2.1 50))] := hl
  have hG : GW g s σ s.heap [] := ⟨hP0, va_S.rf⟩
  have hG : GW g s (mkS σ [(3238, (σ.1 3238)), (3214, (σ.1 3214)), (3215, (σ.1 3215)), (3212, (σ.1 3212)), (3203, (σ.1 3203))] [] [(70, (σ.2.2.1 70)), (71, (σ.2.2.1 71)), (54, (σ.2.2.1 54)), (59, (σ.2.2.1 59))] []) s.heap [] := GW_self [3238, 3214, 3215, 3212, 3203] [] [70, 71, 54, 59] [] hG
  unfold M_fold at h
  have n65 : ∀ (k31 : Int32 → Int32 → Int32 → Int32 → Int32 → Int32 → Int32 → Int32 → (Nat → Int32) → (Nat → Int32) → (Nat → Int32) → (Nat → Int32) → Option (Int32 × Int32 × Int32 × Int32 × Int32 × Int32 × (Nat → Int32) × (Nat → Int32) × (Nat → Int32) × (Nat → Int32))) (hk31 : ∀ (x1 : Int32) (x2 : Int32) (x3 : Int32) (v_areKindsFound : Int32) (v_far : Int32) (v_heaps : Int32) (v_isMeasured : Int32) (v_posts : Int32) (v_newRoad : Nat → Int32) (v_numberOf : Nat → Int32) (v_road : Nat → Int32) (v_wayOf : Nat → Int32) (H : Heap) (locs : List Loc) (ls : Array Slot), lv_has ls 4 [(0, .ref (g.2.1 50)), (1, .int x1), (2, .int x2), (3, .int x3)] → GW g s (mkS σ [(3238, v_areKindsFound), (3214, v_far), (3215, v_heaps), (3212, v_isMeasured), (3203, v_posts)] [] [(70, v_newRoad), (71, v_numberOf), (54, v_road), (59, v_wayOf)] []) H locs → k31 x1 x2 x3 v_areKindsFound v_far v_heaps v_isMeasured v_posts v_newRoad v_numberOf v_road v_wayOf = some (r, w_areKindsFound, w_far, w_heaps, w_isMeasured, w_posts, w_newRoad, w_numberOf, w_road, w_wayOf) → Wg p l e 4 91 s m args below meth c g (some (.int r)) (mkS σ [(3238, w_areKindsFound), (3214, w_far), (3215, w_heaps), (3212, w_isMeasured), (3203, w_posts)] [] [(70, w_newRoad), (71, w_numberOf), (54, w_road), (59, w_wayOf)] []) H locs (F0 m 31 ls [])) (x1 : Int32) (x2 : Int32) (x3 : Int32) (t1 : Int32) (t2 : Int32) (v_areKindsFound : Int32) (v_far : Int32) (v_heaps : Int32) (v_isMeasured : Int32) (v_posts : Int32) (v_newRoad : Nat → Int32) (v_numberOf : Nat → Int32) (v_road : Nat → Int32) (v_wayOf : Nat → Int32) (H : Heap) (locs : List Loc) (ls : Array Slot), lv_has ls 4 [(0, .ref (g.2.1 50)), (1, .int x1), (2, .int x2), (3, .int x3)] → GW g s (mkS σ [(3238, v_areKindsFound), (3214, v_far), (3215, v_heaps), (3212, v_isMeasured), (3203, v_posts)] [] [(70, v_newRoad), (71, v_numberOf), (54, v_road), (59, v_wayOf)] []) H locs → M_fold_n65 k31 x1 x2 x3 t1 t2 v_areKindsFound v_far v_heaps v_isMeasured v_posts v_newRoad v_numberOf v_road v_wayOf = some (r, w_areKindsFound, w_far, w_heaps, w_isMeasured, w_posts, w_newRoad, w_numberOf, w_road, w_wayOf) → Wg p l e 4 91 s m args below meth c g (some (.int r)) (mkS σ [(3238, w_areKindsFound), (3214, w_far), (3215, w_heaps), (3212, w_isMeasured), (3203, w_posts)] [] [(70, w_newRoad), (71, w_numberOf), (54, w_road), (59, w_wayOf)] []) H locs (F0 m 65 ls [.int t2, .int t1, .ref (g.2.1 71)]) := by
    intro k31 hk31 x1 x2 x3 t1 t2 v_areKindsFound v_far v_heaps v_isMeasured v_posts v_newRoad v_numberOf v_road v_wayOf H locs ls hl hG h
    unfold M_fold_n65 at h
    obtain ⟨hg1, h⟩ := gd_some h
    refine gx_iast (σ' := (mkS σ [(3238, v_areKindsFound), (3214, v_far), (3215, v_heaps), (3212, v_isMeasured), (3203, v_posts)] [] [(70, v_newRoad), (71, (upd v_numberOf (t1.toNatClampNeg) t2)), (54, v_road), (59, v_wayOf)] [])) (f := v_numberOf) hx hb hK hG (ga_71 g _) hg1 ((gs_71 g _ _).trans (congrArg (g_cells g) (mk_c 1 rfl rfl))) dX9_fold_65 (fun H locs hG => ?_)
    refine lv_iinc (v := (x3 + (1 : Int32))) (lv' := [(3, .int (x3 + (1 : Int32))), (0, .ref (g.2.1 50)), (1, .int x1), (2, .int x2)]) hx hb dX9_fold_66 hl (k := 3) rfl (congrArg (fun z => x3 + z) (by decide)) (Nat.le_of_ble_eq_true rfl) rfl (fun ls hl => ?_)
    refine lv_goto (tgt := 31) hx hb dX9_fold_69 (by decide) ?_
    exact hk31 x1 x2 (x3 + (1 : Int32)) v_areKindsFound v_far v_heaps v_isMeasured v_posts v_newRoad (upd v_numberOf (t1.toNatClampNeg) t2) v_road v_wayOf _ _ _ (lv_sub hl [1, 2, 3, 0] rfl) hG h
  have n91 : ∀ (k14 : Int32 → Int32 → Int32 → Int32 → Int32 → Int32 → Int32 → (Nat → Int32) → (Nat → Int32) → (Nat → Int32) → (Nat → Int32) → Option (Int32 × Int32 × Int32 × Int32 × Int32 × Int32 × (Nat → Int32) × (Nat → Int32) × (Nat → Int32) × (Nat → Int32))) (hk14 : ∀ (x1 : Int32) (x2 : Int32) (v_areKindsFound : Int32) (v_far : Int32) (v_heaps : Int32) (v_isMeasured : Int32) (v_posts : Int32) (v_newRoad : Nat → Int32) (v_numberOf : Nat → Int32) (v_road : Nat → Int32) (v_wayOf : Nat → Int32) (H : Heap) (locs : List Loc) (ls : Array Slot), lv_has ls 4 [(0, .ref (g.2.1 50)), (1, .int x1), (2, .int x2)] → GW g s (mkS σ [(3238, v_areKindsFound), (3214, v_far), (3215, v_heaps), (3212, v_isMeasured), (3203, v_posts)] [] [(70, v_newRoad), (71, v_numberOf), (54, v_road), (59, v_wayOf)] []) H locs → k14 x1 x2 v_areKindsFound v_far v_heaps v_isMeasured v_posts v_newRoad v_numberOf v_road v_wayOf = some (r, w_areKindsFound, w_far, w_heaps, w_isMeasured, w_posts, w_newRoad, w_numberOf, w_road, w_wayOf) → Wg p l e 4 91 s m args below meth c g (some (.int r)) (mkS σ [(3238, w_areKindsFound), (3214, w_far), (3215, w_heaps), (3212, w_isMeasured), (3203, w_posts)] [] [(70, w_newRoad), (71, w_numberOf), (54, w_road), (59, w_wayOf)] []) H locs (F0 m 14 ls [])) (x1 : Int32) (x2 : Int32) (v_areKindsFound : Int32) (v_far : Int32) (v_heaps : Int32) (v_isMeasured : Int32) (v_posts : Int32) (v_newRoad : Nat → Int32) (v_numberOf : Nat → Int32) (v_road : Nat → Int32) (v_wayOf : Nat → Int32) (H : Heap) (locs : List Loc) (ls : Array Slot), lv_has ls 4 [(0, .ref (g.2.1 50)), (1, .int x1), (2, .int x2)] → GW g s (mkS σ [(3238, v_areKindsFound), (3214, v_far), (3215, v_heaps), (3212, v_isMeasured), (3203, v_posts)] [] [(70, v_newRoad), (71, v_numberOf), (54, v_road), (59, v_wayOf)] []) H locs → M_fold_n91 k14 x1 x2 v_areKindsFound v_far v_heaps v_isMeasured v_posts v_newRoad v_numberOf v_road v_wayOf = some (r, w_areKindsFound, w_far, w_heaps, w_isMeasured, w_posts, w_newRoad, w_numberOf, w_road, w_wayOf) → Wg p l e 4 91 s m args below meth c g (some (.int r)) (mkS σ [(3238, w_areKindsFound), (3214, w_far), (3215, w_heaps), (3212, w_isMeasured), (3203, w_posts)] [] [(70, w_newRoad), (71, w_numberOf), (54, w_road), (59, w_wayOf)] []) H locs (F0 m 91 ls []) := by
    intro k14 hk14 x1 x2 v_areKindsFound v_far v_heaps v_isMeasured v_posts v_newRoad v_numberOf v_road v_wayOf H locs ls hl hG h
    unfold M_fold_n91 at h
    refine lv_iinc (v := (x2 + (1 : Int32))) (lv' := [(2, .int (x2 + (1 : Int32))), (0, .ref (g.2.1 50)), (1, .int x1)]) hx hb dX9_fold_91 hl (k := 2) rfl (congrArg (fun z => x2 + z) (by decide)) (Nat.le_of_ble_eq_true rfl) rfl (fun ls hl => ?_)
    refine lv_goto (tgt := 14) hx hb dX9_fold_94 (by decide) ?_
    exact hk14 x1 (x2 + (1 : Int32)) v_areKindsFound v_far v_heaps v_isMeasured v_posts v_newRoad v_numberOf v_road v_wayOf _ _ _ (lv_sub hl [1, 2, 0] rfl) hG h
  have n72 : ∀ (k14 : Int32 → Int32 → Int32 → Int32 → Int32 → Int32 → Int32 → (Nat → Int32) → (Nat → Int32) → (Nat → Int32) → (Nat → Int32) → Option (Int32 × Int32 × Int32 × Int32 × Int32 × Int32 × (Nat → Int32) × (Nat → Int32) × (Nat → Int32) × (Nat → Int32))) (hk14 : ∀ (x1 : Int32) (x2 : Int32) (v_areKindsFound : Int32) (v_far : Int32) (v_heaps : Int32) (v_isMeasured : Int32) (v_posts : Int32) (v_newRoad : Nat → Int32) (v_numberOf : Nat → Int32) (v_road : Nat → Int32) (v_wayOf : Nat → Int32) (H : Heap) (locs : List Loc) (ls : Array Slot), lv_has ls 4 [(0, .ref (g.2.1 50)), (1, .int x1), (2, .int x2)] → GW g s (mkS σ [(3238, v_areKindsFound), (3214, v_far), (3215, v_heaps), (3212, v_isMeasured), (3203, v_posts)] [] [(70, v_newRoad), (71, v_numberOf), (54, v_road), (59, v_wayOf)] []) H locs → k14 x1 x2 v_areKindsFound v_far v_heaps v_isMeasured v_posts v_newRoad v_numberOf v_road v_wayOf = some (r, w_areKindsFound, w_far, w_heaps, w_isMeasured, w_posts, w_newRoad, w_numberOf, w_road, w_wayOf) → Wg p l e 4 91 s m args below meth c g (some (.int r)) (mkS σ [(3238, w_areKindsFound), (3214, w_far), (3215, w_heaps), (3212, w_isMeasured), (3203, w_posts)] [] [(70, w_newRoad), (71, w_numberOf), (54, w_road), (59, w_wayOf)] []) H locs (F0 m 14 ls [])) (x1 : Int32) (x2 : Int32) (v_areKindsFound : Int32) (v_far : Int32) (v_heaps : Int32) (v_isMeasured : Int32) (v_posts : Int32) (v_newRoad : Nat → Int32) (v_numberOf : Nat → Int32) (v_road : Nat → Int32) (v_wayOf : Nat → Int32) (H : Heap) (locs : List Loc) (ls : Array Slot), lv_has ls 4 [(0, .ref (g.2.1 50)), (1, .int x1), (2, .int x2)] → GW g s (mkS σ [(3238, v_areKindsFound), (3214, v_far), (3215, v_heaps), (3212, v_isMeasured), (3203, v_posts)] [] [(70, v_newRoad), (71, v_numberOf), (54, v_road), (59, v_wayOf)] []) H locs → M_fold_n72 k14 x1 x2 v_areKindsFound v_far v_heaps v_isMeasured v_posts v_newRoad v_numberOf v_road v_wayOf = some (r, w_areKindsFound, w_far, w_heaps, w_isMeasured, w_posts, w_newRoad, w_numberOf, w_road, w_wayOf) → Wg p l e 4 91 s m args below meth c g (some (.int r)) (mkS σ [(3238, w_areKindsFound), (3214, w_far), (3215, w_heaps), (3212, w_isMeasured), (3203, w_posts)] [] [(70, w_newRoad), (71, w_numberOf), (54, w_road), (59, w_wayOf)] []) H locs (F0 m 72 ls []) := by
    intro k14 hk14 x1 x2 v_areKindsFound v_far v_heaps v_isMeasured v_posts v_newRoad v_numberOf v_road v_wayOf H locs ls hl hG h
    unfold M_fold_n72 at h
    refine lv_aload_n hx hb dX9_fold_72 rfl (lv_at hl 0 rfl) ?_
    refine gx_get (v := .ref (g.2.1 71)) (C := RX9) (T := TX9) (N := 44) hx hb hts hinX9 hown hK hG (ga_50 g _) rfl 30 (by decide) hw0 rfl rfl dX9_fold_73 ?_
    refine lv_iload_n hx hb dX9_fold_76 rfl (lv_at hl 2 rfl) ?_
    obtain ⟨hg2, h⟩ := gd_some h
    refine gx_iald (f := v_numberOf) hx hb hK hG (ga_71 g _) hg2 dX9_fold_77 ?_
    refine lv_if_ge (tgt := 91) hx hb dX9_fold_78 (by decide) (fun c3 => ?_) (fun c3 => ?_)
    · have h := ite_t c3 h
      exact n91 k14 hk14 x1 x2 v_areKindsFound v_far v_heaps v_isMeasured v_posts v_newRoad v_numberOf v_road v_wayOf _ _ _ (lv_sub hl [0, 1, 2] rfl) hG h
    · have h := ite_f c3 h
      refine lv_aload_n hx hb dX9_fold_81 rfl (lv_at hl 0 rfl) ?_
      refine gx_get (v := .ref (g.2.1 71)) (C := RX9) (T := TX9) (N := 44) hx hb hts hinX9 hown hK hG (ga_50 g _) rfl 30 (by decide) hw0 rfl rfl dX9_fold_82 ?_
      refine lv_iload_n hx hb dX9_fold_85 rfl (lv_at hl 2 rfl) ?_
      refine lv_iload_n hx hb dX9_fold_86 rfl (lv_at hl 1 rfl) ?_
      refine gx_iast (σ' := (mkS σ [(3238, v_areKindsFound), (3214, v_far), (3215, v_heaps), (3212, v_isMeasured), (3203, v_posts)] [] [(70, v_newRoad), (71, (upd v_numberOf (x2.toNatClampNeg) x1)), (54, v_road), (59, v_wayOf)] [])) (f := v_numberOf) hx hb hK hG (ga_71 g _) hg2 ((gs_71 g _ _).trans (congrArg (g_cells g) (mk_c 1 rfl rfl))) dX9_fold_87 (fun H locs hG => ?_)
      refine lv_iinc (v := (x1 + (1 : Int32))) (lv' := [(1, .int (x1 + (1 : Int32))), (0, .ref (g.2.1 50)), (2, .int x2)]) hx hb dX9_fold_88 hl (k := 1) rfl (congrArg (fun z => x1 + z) (by decide)) (Nat.le_of_ble_eq_true rfl) rfl (fun ls hl => ?_)
      exact n91 k14 hk14 (x1 + (1 : Int32)) x2 v_areKindsFound v_far v_heaps v_isMeasured v_posts v_newRoad (upd v_numberOf (x2.toNatClampNeg) x1) v_road v_wayOf _ _ _ (lv_sub hl [1, 0, 2] rfl) hG h
  have n31 : ∀ (k14 : Int32 → Int32 → Int32 → Int32 → Int32 → Int32 → Int32 → (Nat → Int32) → (Nat → Int32) → (Nat → Int32) → (Nat → Int32) → Option (Int32 × Int32 × Int32 × Int32 × Int32 × Int32 × (Nat → Int32) × (Nat → Int32) × (Nat → Int32) × (Nat → Int32))) (hk14 : ∀ (x1 : Int32) (x2 : Int32) (v_areKindsFound : Int32) (v_far : Int32) (v_heaps : Int32) (v_isMeasured : Int32) (v_posts : Int32) (v_newRoad : Nat → Int32) (v_numberOf : Nat → Int32) (v_road : Nat → Int32) (v_wayOf : Nat → Int32) (H : Heap) (locs : List Loc) (ls : Array Slot), lv_has ls 4 [(0, .ref (g.2.1 50)), (1, .int x1), (2, .int x2)] → GW g s (mkS σ [(3238, v_areKindsFound), (3214, v_far), (3215, v_heaps), (3212, v_isMeasured), (3203, v_posts)] [] [(70, v_newRoad), (71, v_numberOf), (54, v_road), (59, v_wayOf)] []) H locs → k14 x1 x2 v_areKindsFound v_far v_heaps v_isMeasured v_posts v_newRoad v_numberOf v_road v_wayOf = some (r, w_areKindsFound, w_far, w_heaps, w_isMeasured, w_posts, w_newRoad, w_numberOf, w_road, w_wayOf) → Wg p l e 4 91 s m args below meth c g (some (.int r)) (mkS σ [(3238, w_areKindsFound), (3214, w_far), (3215, w_heaps), (3212, w_isMeasured), (3203, w_posts)] [] [(70, w_newRoad), (71, w_numberOf), (54, w_road), (59, w_wayOf)] []) H locs (F0 m 14 ls [])) (k31 : Int32 → Int32 → Int32 → Int32 → Int32 → Int32 → Int32 → Int32 → (Nat → Int32) → (Nat → Int32) → (Nat → Int32) → (Nat → Int32) → Option (Int32 × Int32 × Int32 × Int32 × Int32 × Int32 × (Nat → Int32) × (Nat → Int32) × (Nat → Int32) × (Nat → Int32))) (hk31 : ∀ (x1 : Int32) (x2 : Int32) (x3 : Int32) (v_areKindsFound : Int32) (v_far : Int32) (v_heaps : Int32) (v_isMeasured : Int32) (v_posts : Int32) (v_newRoad : Nat → Int32) (v_numberOf : Nat → Int32) (v_road : Nat → Int32) (v_wayOf : Nat → Int32) (H : Heap) (locs : List Loc) (ls : Array Slot), lv_has ls 4 [(0, .ref (g.2.1 50)), (1, .int x1), (2, .int x2), (3, .int x3)] → GW g s (mkS σ [(3238, v_areKindsFound), (3214, v_far), (3215, v_heaps), (3212, v_isMeasured), (3203, v_posts)] [] [(70, v_newRoad), (71, v_numberOf), (54, v_road), (59, v_wayOf)] []) H locs → k31 x1 x2 x3 v_areKindsFound v_far v_heaps v_isMeasured v_posts v_newRoad v_numberOf v_road v_wayOf = some (r, w_areKindsFound, w_far, w_heaps, w_isMeasured, w_posts, w_newRoad, w_numberOf, w_road, w_wayOf) → Wg p l e 4 91 s m args below meth c g (some (.int r)) (mkS σ [(3238, w_areKindsFound), (3214, w_far), (3215, w_heaps), (3212, w_isMeasured), (3203, w_posts)] [] [(70, w_newRoad), (71, w_numberOf), (54, w_road), (59, w_wayOf)] []) H locs (F0 m 31 ls [])) (x1 : Int32) (x2 : Int32) (x3 : Int32) (v_areKindsFound : Int32) (v_far : Int32) (v_heaps : Int32) (v_isMeasured : Int32) (v_posts : Int32) (v_newRoad : Nat → Int32) (v_numberOf : Nat → Int32) (v_road : Nat → Int32) (v_wayOf : Nat → Int32) (H : Heap) (locs : List Loc) (ls : Array Slot), lv_has ls 4 [(0, .ref (g.2.1 50)), (1, .int x1), (2, .int x2), (3, .int x3)] → GW g s (mkS σ [(3238, v_areKindsFound), (3214, v_far), (3215, v_heaps), (3212, v_isMeasured), (3203, v_posts)] [] [(70, v_newRoad), (71, v_numberOf), (54, v_road), (59, v_wayOf)] []) H locs → M_fold_n31 k14 k31 x1 x2 x3 v_areKindsFound v_far v_heaps v_isMeasured v_posts v_newRoad v_numberOf v_road v_wayOf = some (r, w_areKindsFound, w_far, w_heaps, w_isMeasured, w_posts, w_newRoad, w_numberOf, w_road, w_wayOf) → Wg p l e 4 91 s m args below meth c g (some (.int r)) (mkS σ [(3238, w_areKindsFound), (3214, w_far), (3215, w_heaps), (3212, w_isMeasured), (3203, w_posts)] [] [(70, w_newRoad), (71, w_numberOf), (54, w_road), (59, w_wayOf)] []) H locs (F0 m 31 ls []) := by
    intro k14 hk14 k31 hk31 x1 x2 x3 v_areKindsFound v_far v_heaps v_isMeasured v_posts v_newRoad v_numberOf v_road v_wayOf H locs ls hl hG h
    unfold M_fold_n31 at h
    refine lv_iload_n hx hb dX9_fold_31 rfl (lv_at hl 3 rfl) ?_
    refine lv_iload_n hx hb dX9_fold_32 rfl (lv_at hl 2 rfl) ?_
    refine lv_icmp_ge (tgt := 72) hx hb dX9_fold_33 (by decide) (fun c4 => ?_) (fun c4 => ?_)
    · have h := ite_t c4 h
      exact n72 k14 hk14 x1 x2 v_areKindsFound v_far v_heaps v_isMeasured v_posts v_newRoad v_numberOf v_road v_wayOf _ _ _ (lv_sub hl [0, 1, 2] rfl) hG h
    · have h := ite_f c4 h
      refine lv_aload_n hx hb dX9_fold_36 rfl (lv_at hl 0 rfl) ?_
      refine gx_get (v := .ref (g.2.1 71)) (C := RX9) (T := TX9) (N := 44) hx hb hts hinX9 hown hK hG (ga_50 g _) rfl 30 (by decide) hw0 rfl rfl dX9_fold_37 ?_
      refine lv_iload_n hx hb dX9_fold_40 rfl (lv_at hl 2 rfl) ?_
      refine lv_aload_n hx hb dX9_fold_41 rfl (lv_at hl 0 rfl) ?_
      refine lv_iload_n hx hb dX9_fold_42 rfl (lv_at hl 2 rfl) ?_
      refine lv_iload_n hx hb dX9_fold_43 rfl (lv_at hl 3 rfl) ?_
      obtain ⟨z5, hc6, h⟩ := bnd_some h
      refine gx_cV (σ' := (mkS σ [(3238, v_areKindsFound), (3214, v_far), (3215, v_heaps), (3212, v_isMeasured), (3203, v_posts)] [] [(70, v_newRoad), (71, v_numberOf), (54, v_road), (59, v_wayOf)] [])) (r := (some (.int z5))) (rest := [.int x2, .ref (g.2.1 71)]) (As := [.int x2, .int x3]) hS9 (c_M_isFar l g (mkS σ [(3238, v_areKindsFound), (3214, v_far), (3215, v_heaps), (3212, v_isMeasured), (3203, v_posts)] [] [(70, v_newRoad), (71, v_numberOf), (54, v_road), (59, v_wayOf)] []) x2 x3 z5 hc6) rfl (cwV 2 hts gX9_fold_X9_isFar rfl rfl rfl (by decide +kernel) ⟨Nat.le_of_ble_eq_true rfl, Nat.le_of_ble_eq_true rfl⟩) hK hG (ga_50 g _) rfl rfl rfl hl.1 rfl (Nat.le_of_ble_eq_true rfl) dX9_fold_44 (fun H locs hG => ?_)
      refine W.eq (g2 := F0 m 47 ls [.int z5, .int x2, .ref (g.2.1 71)]) rfl ?_
      refine lv_if_eq (tgt := 59) hx hb dX9_fold_47 (by decide) (fun c7 => ?_) (fun c7 => ?_)
      · have h := ite_t c7 h
        refine lv_aload_n hx hb dX9_fold_59 rfl (lv_at hl 0 rfl) ?_
        refine gx_get (v := .ref (g.2.1 71)) (C := RX9) (T := TX9) (N := 44) hx hb hts hinX9 hown hK hG (ga_50 g _) rfl 30 (by decide) hw0 rfl rfl dX9_fold_60 ?_
        refine lv_iload_n hx hb dX9_fold_63 rfl (lv_at hl 2 rfl) ?_
        obtain ⟨hg8, h⟩ := gd_some h
        refine gx_iald (f := v_numberOf) hx hb hK hG (ga_71 g _) hg8 dX9_fold_64 ?_
        exact n65 k31 hk31 x1 x2 x3 x2 (v_numberOf (x2.toNatClampNeg)) v_areKindsFound v_far v_heaps v_isMeasured v_posts v_newRoad v_numberOf v_road v_wayOf _ _ _ (lv_sub hl [0, 1, 2, 3] rfl) hG h
      · have h := ite_f c7 h
        refine lv_aload_n hx hb dX9_fold_50 rfl (lv_at hl 0 rfl) ?_
        refine gx_get (v := .ref (g.2.1 71)) (C := RX9) (T := TX9) (N := 44) hx hb hts hinX9 hown hK hG (ga_50 g _) rfl 30 (by decide) hw0 rfl rfl dX9_fold_51 ?_
        refine lv_iload_n hx hb dX9_fold_54 rfl (lv_at hl 3 rfl) ?_
        obtain ⟨hg9, h⟩ := gd_some h
        refine gx_iald (f := v_numberOf) hx hb hK hG (ga_71 g _) hg9 dX9_fold_55 ?_
        refine lv_goto (tgt := 65) hx hb dX9_fold_56 (by decide) ?_
        exact n65 k31 hk31 x1 x2 x3 x2 (v_numberOf (x3.toNatClampNeg)) v_areKindsFound v_far v_heaps v_isMeasured v_posts v_newRoad v_numberOf v_road v_wayOf _ _ _ (lv_sub hl [0, 1, 2, 3] rfl) hG h
  have l31 : ∀ (k14 : Int32 → Int32 → Int32 → Int32 → Int32 → Int32 → Int32 → (Nat → Int32) → (Nat → Int32) → (Nat → Int32) → (Nat → Int32) → Option (Int32 × Int32 × Int32 × Int32 × Int32 × Int32 × (Nat → Int32) × (Nat → Int32) × (Nat → Int32) × (Nat → Int32))) (hk14 : ∀ (x1 : Int32) (x2 : Int32) (v_areKindsFound : Int32) (v_far : Int32) (v_heaps : Int32) (v_isMeasured : Int32) (v_posts : Int32) (v_newRoad : Nat → Int32) (v_numberOf : Nat → Int32) (v_road : Nat → Int32) (v_wayOf : Nat → Int32) (H : Heap) (locs : List Loc) (ls : Array Slot), lv_has ls 4 [(0, .ref (g.2.1 50)), (1, .int x1), (2, .int x2)] → GW g s (mkS σ [(3238, v_areKindsFound), (3214, v_far), (3215, v_heaps), (3212, v_isMeasured), (3203, v_posts)] [] [(70, v_newRoad), (71, v_numberOf), (54, v_road), (59, v_wayOf)] []) H locs → k14 x1 x2 v_areKindsFound v_far v_heaps v_isMeasured v_posts v_newRoad v_numberOf v_road v_wayOf = some (r, w_areKindsFound, w_far, w_heaps, w_isMeasured, w_posts, w_newRoad, w_numberOf, w_road, w_wayOf) → Wg p l e 4 91 s m args below meth c g (some (.int r)) (mkS σ [(3238, w_areKindsFound), (3214, w_far), (3215, w_heaps), (3212, w_isMeasured), (3203, w_posts)] [] [(70, w_newRoad), (71, w_numberOf), (54, w_road), (59, w_wayOf)] []) H locs (F0 m 14 ls [])) (F : Nat) (x1 : Int32) (x2 : Int32) (x3 : Int32) (v_areKindsFound : Int32) (v_far : Int32) (v_heaps : Int32) (v_isMeasured : Int32) (v_posts : Int32) (v_newRoad : Nat → Int32) (v_numberOf : Nat → Int32) (v_road : Nat → Int32) (v_wayOf : Nat → Int32) (H : Heap) (locs : List Loc) (ls : Array Slot), lv_has ls 4 [(0, .ref (g.2.1 50)), (1, .int x1), (2, .int x2), (3, .int x3)] → GW g s (mkS σ [(3238, v_areKindsFound), (3214, v_far), (3215, v_heaps), (3212, v_isMeasured), (3203, v_posts)] [] [(70, v_newRoad), (71, v_numberOf), (54, v_road), (59, v_wayOf)] []) H locs → M_fold_l31 k14 F x1 x2 x3 v_areKindsFound v_far v_heaps v_isMeasured v_posts v_newRoad v_numberOf v_road v_wayOf = some (r, w_areKindsFound, w_far, w_heaps, w_isMeasured, w_posts, w_newRoad, w_numberOf, w_road, w_wayOf) → Wg p l e 4 91 s m args below meth c g (some (.int r)) (mkS σ [(3238, w_areKindsFound), (3214, w_far), (3215, w_heaps), (3212, w_isMeasured), (3203, w_posts)] [] [(70, w_newRoad), (71, w_numberOf), (54, w_road), (59, w_wayOf)] []) H locs (F0 m 31 ls []) := by
    intro k14 hk14 F
    induction F with
    | zero => intro x1 x2 x3 v_areKindsFound v_far v_heaps v_isMeasured v_posts v_newRoad v_numberOf v_road v_wayOf H locs ls hl hG h; exact no_some h
    | succ F ih => intro x1 x2 x3 v_areKindsFound v_far v_heaps v_isMeasured v_posts v_newRoad v_numberOf v_road v_wayOf H locs ls hl hG h; exact n31 k14 hk14 (fun x1 x2 x3 v_areKindsFound v_far v_heaps v_isMeasured v_posts v_newRoad v_numberOf v_road v_wayOf => M_fold_l31 k14 F x1 x2 x3 v_areKindsFound v_far v_heaps v_isMeasured v_posts v_newRoad v_numberOf v_road v_wayOf) ih x1 x2 x3 v_areKindsFound v_far v_heaps v_isMeasured v_posts v_newRoad v_numberOf v_road v_wayOf H locs ls hl hG h
  have n172 : ∀ (k113 : Int32 → Int32 → Int32 → Int32 → Int32 → Int32 → Int32 → Int32 → (Nat → Int32) → (Nat → Int32) → (Nat → Int32) → (Nat → Int32) → Option (Int32 × Int32 × Int32 × Int32 × Int32 × Int32 × (Nat → Int32) × (Nat → Int32) × (Nat → Int32) × (Nat → Int32))) (hk113 : ∀ (x1 : Int32) (x2 : Int32) (x3 : Int32) (v_areKindsFound : Int32) (v_far : Int32) (v_heaps : Int32) (v_isMeasured : Int32) (v_posts : Int32) (v_newRoad : Nat → Int32) (v_numberOf : Nat → Int32) (v_road : Nat → Int32) (v_wayOf : Nat → Int32) (H : Heap) (locs : List Loc) (ls : Array Slot), lv_has ls 4 [(0, .ref (g.2.1 50)), (1, .int x1), (2, .int x2), (3, .int x3)] → GW g s (mkS σ [(3238, v_areKindsFound), (3214, v_far), (3215, v_heaps), (3212, v_isMeasured), (3203, v_posts)] [] [(70, v_newRoad), (71, v_numberOf), (54, v_road), (59, v_wayOf)] []) H locs → k113 x1 x2 x3 v_areKindsFound v_far v_heaps v_isMeasured v_posts v_newRoad v_numberOf v_road v_wayOf = some (r, w_areKindsFound, w_far, w_heaps, w_isMeasured, w_posts, w_newRoad, w_numberOf, w_road, w_wayOf) → Wg p l e 4 91 s m args below meth c g (some (.int r)) (mkS σ [(3238, w_areKindsFound), (3214, w_far), (3215, w_heaps), (3212, w_isMeasured), (3203, w_posts)] [] [(70, w_newRoad), (71, w_numberOf), (54, w_road), (59, w_wayOf)] []) H locs (F0 m 113 ls [])) (x1 : Int32) (x2 : Int32) (x3 : Int32) (v_areKindsFound : Int32) (v_far : Int32) (v_heaps : Int32) (v_isMeasured : Int32) (v_posts : Int32) (v_newRoad : Nat → Int32) (v_numberOf : Nat → Int32) (v_road : Nat → Int32) (v_wayOf : Nat → Int32) (H : Heap) (locs : List Loc) (ls : Array Slot), lv_has ls 4 [(0, .ref (g.2.1 50)), (1, .int x1), (2, .int x2), (3, .int x3)] → GW g s (mkS σ [(3238, v_areKindsFound), (3214, v_far), (3215, v_heaps), (3212, v_isMeasured), (3203, v_posts)] [] [(70, v_newRoad), (71, v_numberOf), (54, v_road), (59, v_wayOf)] []) H locs → M_fold_n172 k113 x1 x2 x3 v_areKindsFound v_far v_heaps v_isMeasured v_posts v_newRoad v_numberOf v_road v_wayOf = some (r, w_areKindsFound, w_far, w_heaps, w_isMeasured, w_posts, w_newRoad, w_numberOf, w_road, w_wayOf) → Wg p l e 4 91 s m args below meth c g (some (.int r)) (mkS σ [(3238, w_areKindsFound), (3214, w_far), (3215, w_heaps), (3212, w_isMeasured), (3203, w_posts)] [] [(70, w_newRoad), (71, w_numberOf), (54, w_road), (59, w_wayOf)] []) H locs (F0 m 172 ls []) := by
    intro k113 hk113 x1 x2 x3 v_areKindsFound v_far v_heaps v_isMeasured v_posts v_newRoad v_numberOf v_road v_wayOf H locs ls hl hG h
    unfold M_fold_n172 at h
    refine lv_iinc (v := (x3 + (1 : Int32))) (lv' := [(3, .int (x3 + (1 : Int32))), (0, .ref (g.2.1 50)), (1, .int x1), (2, .int x2)]) hx hb dX9_fold_172 hl (k := 3) rfl (congrArg (fun z => x3 + z) (by decide)) (Nat.le_of_ble_eq_true rfl) rfl (fun ls hl => ?_)
    refine lv_goto (tgt := 113) hx hb dX9_fold_175 (by decide) ?_
    exact hk113 x1 x2 (x3 + (1 : Int32)) v_areKindsFound v_far v_heaps v_isMeasured v_posts v_newRoad v_numberOf v_road v_wayOf _ _ _ (lv_sub hl [1, 2, 3, 0] rfl) hG h
  have n178 : ∀ (k103 : Int32 → Int32 → Int32 → Int32 → Int32 → Int32 → Int32 → (Nat → Int32) → (Nat → Int32) → (Nat → Int32) → (Nat → Int32) → Option (Int32 × Int32 × Int32 × Int32 × Int32 × Int32 × (Nat → Int32) × (Nat → Int32) × (Nat → Int32) × (Nat → Int32))) (hk103 : ∀ (x1 : Int32) (x2 : Int32) (v_areKindsFound : Int32) (v_far : Int32) (v_heaps : Int32) (v_isMeasured : Int32) (v_posts : Int32) (v_newRoad : Nat → Int32) (v_numberOf : Nat → Int32) (v_road : Nat → Int32) (v_wayOf : Nat → Int32) (H : Heap) (locs : List Loc) (ls : Array Slot), lv_has ls 4 [(0, .ref (g.2.1 50)), (1, .int x1), (2, .int x2)] → GW g s (mkS σ [(3238, v_areKindsFound), (3214, v_far), (3215, v_heaps), (3212, v_isMeasured), (3203, v_posts)] [] [(70, v_newRoad), (71, v_numberOf), (54, v_road), (59, v_wayOf)] []) H locs → k103 x1 x2 v_areKindsFound v_far v_heaps v_isMeasured v_posts v_newRoad v_numberOf v_road v_wayOf = some (r, w_areKindsFound, w_far, w_heaps, w_isMeasured, w_posts, w_newRoad, w_numberOf, w_road, w_wayOf) → Wg p l e 4 91 s m args below meth c g (some (.int r)) (mkS σ [(3238, w_areKindsFound), (3214, w_far), (3215, w_heaps), (3212, w_isMeasured), (3203, w_posts)] [] [(70, w_newRoad), (71, w_numberOf), (54, w_road), (59, w_wayOf)] []) H locs (F0 m 103 ls [])) (x1 : Int32) (x2 : Int32) (v_areKindsFound : Int32) (v_far : Int32) (v_heaps : Int32) (v_isMeasured : Int32) (v_posts : Int32) (v_newRoad : Nat → Int32) (v_numberOf : Nat → Int32) (v_road : Nat → Int32) (v_wayOf : Nat → Int32) (H : Heap) (locs : List Loc) (ls : Array Slot), lv_has ls 4 [(0, .ref (g.2.1 50)), (1, .int x1), (2, .int x2)] → GW g s (mkS σ [(3238, v_areKindsFound), (3214, v_far), (3215, v_heaps), (3212, v_isMeasured), (3203, v_posts)] [] [(70, v_newRoad), (71, v_numberOf), (54, v_road), (59, v_wayOf)] []) H locs → M_fold_n178 k103 x1 x2 v_areKindsFound v_far v_heaps v_isMeasured v_posts v_newRoad v_numberOf v_road v_wayOf = some (r, w_areKindsFound, w_far, w_heaps, w_isMeasured, w_posts, w_newRoad, w_numberOf, w_road, w_wayOf) → Wg p l e 4 91 s m args below meth c g (some (.int r)) (mkS σ [(3238, w_areKindsFound), (3214, w_far), (3215, w_heaps), (3212, w_isMeasured), (3203, w_posts)] [] [(70, w_newRoad), (71, w_numberOf), (54, w_road), (59, w_wayOf)] []) H locs (F0 m 178 ls []) := by
    intro k103 hk103 x1 x2 v_areKindsFound v_far v_heaps v_isMeasured v_posts v_newRoad v_numberOf v_road v_wayOf H locs ls hl hG h
    unfold M_fold_n178 at h
    refine lv_iinc (v := (x2 + (1 : Int32))) (lv' := [(2, .int (x2 + (1 : Int32))), (0, .ref (g.2.1 50)), (1, .int x1)]) hx hb dX9_fold_178 hl (k := 2) rfl (congrArg (fun z => x2 + z) (by decide)) (Nat.le_of_ble_eq_true rfl) rfl (fun ls hl => ?_)
    refine lv_goto (tgt := 103) hx hb dX9_fold_181 (by decide) ?_
    exact hk103 x1 (x2 + (1 : Int32)) v_areKindsFound v_far v_heaps v_isMeasured v_posts v_newRoad v_numberOf v_road v_wayOf _ _ _ (lv_sub hl [1, 2, 0] rfl) hG h
  have n113 : ∀ (k103 : Int32 → Int32 → Int32 → Int32 → Int32 → Int32 → Int32 → (Nat → Int32) → (Nat → Int32) → (Nat → Int32) → (Nat → Int32) → Option (Int32 × Int32 × Int32 × Int32 × Int32 × Int32 × (Nat → Int32) × (Nat → Int32) × (Nat → Int32) × (Nat → Int32))) (hk103 : ∀ (x1 : Int32) (x2 : Int32) (v_areKindsFound : Int32) (v_far : Int32) (v_heaps : Int32) (v_isMeasured : Int32) (v_posts : Int32) (v_newRoad : Nat → Int32) (v_numberOf : Nat → Int32) (v_road : Nat → Int32) (v_wayOf : Nat → Int32) (H : Heap) (locs : List Loc) (ls : Array Slot), lv_has ls 4 [(0, .ref (g.2.1 50)), (1, .int x1), (2, .int x2)] → GW g s (mkS σ [(3238, v_areKindsFound), (3214, v_far), (3215, v_heaps), (3212, v_isMeasured), (3203, v_posts)] [] [(70, v_newRoad), (71, v_numberOf), (54, v_road), (59, v_wayOf)] []) H locs → k103 x1 x2 v_areKindsFound v_far v_heaps v_isMeasured v_posts v_newRoad v_numberOf v_road v_wayOf = some (r, w_areKindsFound, w_far, w_heaps, w_isMeasured, w_posts, w_newRoad, w_numberOf, w_road, w_wayOf) → Wg p l e 4 91 s m args below meth c g (some (.int r)) (mkS σ [(3238, w_areKindsFound), (3214, w_far), (3215, w_heaps), (3212, w_isMeasured), (3203, w_posts)] [] [(70, w_newRoad), (71, w_numberOf), (54, w_road), (59, w_wayOf)] []) H locs (F0 m 103 ls [])) (k113 : Int32 → Int32 → Int32 → Int32 → Int32 → Int32 → Int32 → Int32 → (Nat → Int32) → (Nat → Int32) → (Nat → Int32) → (Nat → Int32) → Option (Int32 × Int32 × Int32 × Int32 × Int32 × Int32 × (Nat → Int32) × (Nat → Int32) × (Nat → Int32) × (Nat → Int32))) (hk113 : ∀ (x1 : Int32) (x2 : Int32) (x3 : Int32) (v_areKindsFound : Int32) (v_far : Int32) (v_heaps : Int32) (v_isMeasured : Int32) (v_posts : Int32) (v_newRoad : Nat → Int32) (v_numberOf : Nat → Int32) (v_road : Nat → Int32) (v_wayOf : Nat → Int32) (H : Heap) (locs : List Loc) (ls : Array Slot), lv_has ls 4 [(0, .ref (g.2.1 50)), (1, .int x1), (2, .int x2), (3, .int x3)] → GW g s (mkS σ [(3238, v_areKindsFound), (3214, v_far), (3215, v_heaps), (3212, v_isMeasured), (3203, v_posts)] [] [(70, v_newRoad), (71, v_numberOf), (54, v_road), (59, v_wayOf)] []) H locs → k113 x1 x2 x3 v_areKindsFound v_far v_heaps v_isMeasured v_posts v_newRoad v_numberOf v_road v_wayOf = some (r, w_areKindsFound, w_far, w_heaps, w_isMeasured, w_posts, w_newRoad, w_numberOf, w_road, w_wayOf) → Wg p l e 4 91 s m args below meth c g (some (.int r)) (mkS σ [(3238, w_areKindsFound), (3214, w_far), (3215, w_heaps), (3212, w_isMeasured), (3203, w_posts)] [] [(70, w_newRoad), (71, w_numberOf), (54, w_road), (59, w_wayOf)] []) H locs (F0 m 113 ls [])) (x1 : Int32) (x2 : Int32) (x3 : Int32) (v_areKindsFound : Int32) (v_far : Int32) (v_heaps : Int32) (v_isMeasured : Int32) (v_posts : Int32) (v_newRoad : Nat → Int32) (v_numberOf : Nat → Int32) (v_road : Nat → Int32) (v_wayOf : Nat → Int32) (H : Heap) (locs : List Loc) (ls : Array Slot), lv_has ls 4 [(0, .ref (g.2.1 50)), (1, .int x1), (2, .int x2), (3, .int x3)] → GW g s (mkS σ [(3238, v_areKindsFound), (3214, v_far), (3215, v_heaps), (3212, v_isMeasured), (3203, v_posts)] [] [(70, v_newRoad), (71, v_numberOf), (54, v_road), (59, v_wayOf)] []) H locs → M_fold_n113 k103 k113 x1 x2 x3 v_areKindsFound v_far v_heaps v_isMeasured v_posts v_newRoad v_numberOf v_road v_wayOf = some (r, w_areKindsFound, w_far, w_heaps, w_isMeasured, w_posts, w_newRoad, w_numberOf, w_road, w_wayOf) → Wg p l e 4 91 s m args below meth c g (some (.int r)) (mkS σ [(3238, w_areKindsFound), (3214, w_far), (3215, w_heaps), (3212, w_isMeasured), (3203, w_posts)] [] [(70, w_newRoad), (71, w_numberOf), (54, w_road), (59, w_wayOf)] []) H locs (F0 m 113 ls []) := by
    intro k103 hk103 k113 hk113 x1 x2 x3 v_areKindsFound v_far v_heaps v_isMeasured v_posts v_newRoad v_numberOf v_road v_wayOf H locs ls hl hG h
    unfold M_fold_n113 at h
    refine lv_iload_n hx hb dX9_fold_113 rfl (lv_at hl 3 rfl) ?_
    refine lv_aload_n hx hb dX9_fold_114 rfl (lv_at hl 0 rfl) ?_
    refine gx_get (v := .int v_posts) (C := RX9) (T := TX9) (N := 44) hx hb hts hinX9 hown hK hG (ga_50 g _) rfl 3 (by decide) hw1 rfl rfl dX9_fold_115 ?_
    refine lv_icmp_ge (tgt := 178) hx hb dX9_fold_118 (by decide) (fun c10 => ?_) (fun c10 => ?_)
    · have h := ite_t c10 h
      exact n178 k103 hk103 x1 x2 v_areKindsFound v_far v_heaps v_isMeasured v_posts v_newRoad v_numberOf v_road v_wayOf _ _ _ (lv_sub hl [0, 1, 2] rfl) hG h
    · have h := ite_f c10 h
      refine lv_aload_n hx hb dX9_fold_121 rfl (lv_at hl 0 rfl) ?_
      refine gx_get (v := .ref (g.2.1 54)) (C := RX9) (T := TX9) (N := 44) hx hb hts hinX9 hown hK hG (ga_50 g _) rfl 4 (by decide) hw2 rfl rfl dX9_fold_122 ?_
      refine lv_bipush (v := (32 : Int32)) hx hb dX9_fold_125 (by decide) ?_
      refine lv_iload_n hx hb dX9_fold_127 rfl (lv_at hl 2 rfl) ?_
      refine lv_imul hx hb dX9_fold_128 ?_
      refine lv_iload_n hx hb dX9_fold_129 rfl (lv_at hl 3 rfl) ?_
      refine lv_iadd hx hb dX9_fold_130 ?_
      obtain ⟨hg11, h⟩ := gd_some h
      refine gx_zald (f := v_road) hx hb hK hG (ga_54 g _) hg11 dX9_fold_131 ?_
      refine lv_if_eq (tgt := 172) hx hb dX9_fold_132 (by decide) (fun c12 => ?_) (fun c12 => ?_)
      · have h := ite_t c12 h
        exact n172 k113 hk113 x1 x2 x3 v_areKindsFound v_far v_heaps v_isMeasured v_posts v_newRoad v_numberOf v_road v_wayOf _ _ _ (lv_sub hl [0, 1, 2, 3] rfl) hG h
      · have h := ite_f c12 h
        refine lv_aload_n hx hb dX9_fold_135 rfl (lv_at hl 0 rfl) ?_
        refine gx_get (v := .ref (g.2.1 71)) (C := RX9) (T := TX9) (N := 44) hx hb hts hinX9 hown hK hG (ga_50 g _) rfl 30 (by decide) hw0 rfl rfl dX9_fold_136 ?_
        refine lv_iload_n hx hb dX9_fold_139 rfl (lv_at hl 2 rfl) ?_
        obtain ⟨hg13, h⟩ := gd_some h
        refine gx_iald (f := v_numberOf) hx hb hK hG (ga_71 g _) hg13 dX9_fold_140 ?_
        refine lv_aload_n hx hb dX9_fold_141 rfl (lv_at hl 0 rfl) ?_
        refine gx_get (v := .ref (g.2.1 71)) (C := RX9) (T := TX9) (N := 44) hx hb hts hinX9 hown hK hG (ga_50 g _) rfl 30 (by decide) hw0 rfl rfl dX9_fold_142 ?_
        refine lv_iload_n hx hb dX9_fold_145 rfl (lv_at hl 3 rfl) ?_
        obtain ⟨hg14, h⟩ := gd_some h
        refine gx_iald (f := v_numberOf) hx hb hK hG (ga_71 g _) hg14 dX9_fold_146 ?_
        refine lv_icmp_eq (tgt := 172) hx hb dX9_fold_147 (by decide) (fun c15 => ?_) (fun c15 => ?_)
        · have h := ite_t c15 h
          exact n172 k113 hk113 x1 x2 x3 v_areKindsFound v_far v_heaps v_isMeasured v_posts v_newRoad v_numberOf v_road v_wayOf _ _ _ (lv_sub hl [0, 1, 2, 3] rfl) hG h
        · have h := ite_f c15 h
          refine lv_aload_n hx hb dX9_fold_150 rfl (lv_at hl 0 rfl) ?_
          refine gx_get (v := .ref (g.2.1 70)) (C := RX9) (T := TX9) (N := 44) hx hb hts hinX9 hown hK hG (ga_50 g _) rfl 29 (by decide) hw3 rfl rfl dX9_fold_151 ?_
          refine lv_bipush (v := (32 : Int32)) hx hb dX9_fold_154 (by decide) ?_
          refine lv_aload_n hx hb dX9_fold_156 rfl (lv_at hl 0 rfl) ?_
          refine gx_get (v := .ref (g.2.1 71)) (C := RX9) (T := TX9) (N := 44) hx hb hts hinX9 hown hK hG (ga_50 g _) rfl 30 (by decide) hw0 rfl rfl dX9_fold_157 ?_
          refine lv_iload_n hx hb dX9_fold_160 rfl (lv_at hl 2 rfl) ?_
          refine gx_iald (f := v_numberOf) hx hb hK hG (ga_71 g _) hg13 dX9_fold_161 ?_
          refine lv_imul hx hb dX9_fold_162 ?_
          refine lv_aload_n hx hb dX9_fold_163 rfl (lv_at hl 0 rfl) ?_
          refine gx_get (v := .ref (g.2.1 71)) (C := RX9) (T := TX9) (N := 44) hx hb hts hinX9 hown hK hG (ga_50 g _) rfl 30 (by decide) hw0 rfl rfl dX9_fold_164 ?_
          refine lv_iload_n hx hb dX9_fold_167 rfl (lv_at hl 3 rfl) ?_
          refine gx_iald (f := v_numberOf) hx hb hK hG (ga_71 g _) hg14 dX9_fold_168 ?_
          refine lv_iadd hx hb dX9_fold_169 ?_
          refine lv_iconst (v := (1 : Int32)) hx hb dX9_fold_170 (by decide) ?_
          obtain ⟨hg16, h⟩ := gd_some h
          refine gx_zast (σ' := (mkS σ [(3238, v_areKindsFound), (3214, v_far), (3215, v_heaps), (3212, v_isMeasured), (3203, v_posts)] [] [(70, (upd v_newRoad ((((32 : Int32) * (v_numberOf (x2.toNatClampNeg))) + (v_numberOf (x3.toNatClampNeg))).toNatClampNeg) (1 : Int32))), (71, v_numberOf), (54, v_road), (59, v_wayOf)] [])) (f := v_newRoad) hx hb hK hG (ga_70 g _) hg16 (by decide) ((gs_70 g _ _).trans (congrArg (g_cells g) (mk_c 0 rfl rfl))) dX9_fold_171 (fun H locs hG => ?_)
          exact n172 k113 hk113 x1 x2 x3 v_areKindsFound v_far v_heaps v_isMeasured v_posts (upd v_newRoad ((((32 : Int32) * (v_numberOf (x2.toNatClampNeg))) + (v_numberOf (x3.toNatClampNeg))).toNatClampNeg) (1 : Int32)) v_numberOf v_road v_wayOf _ _ _ (lv_sub hl [0, 1, 2, 3] rfl) hG h
  have l113 : ∀ (k103 : Int32 → Int32 → Int32 → Int32 → Int32 → Int32 → Int32 → (Nat → Int32) → (Nat → Int32) → (Nat → Int32) → (Nat → Int32) → Option (Int32 × Int32 × Int32 × Int32 × Int32 × Int32 × (Nat → Int32) × (Nat → Int32) × (Nat → Int32) × (Nat → Int32))) (hk103 : ∀ (x1 : Int32) (x2 : Int32) (v_areKindsFound : Int32) (v_far : Int32) (v_heaps : Int32) (v_isMeasured : Int32) (v_posts : Int32) (v_newRoad : Nat → Int32) (v_numberOf : Nat → Int32) (v_road : Nat → Int32) (v_wayOf : Nat → Int32) (H : Heap) (locs : List Loc) (ls : Array Slot), lv_has ls 4 [(0, .ref (g.2.1 50)), (1, .int x1), (2, .int x2)] → GW g s (mkS σ [(3238, v_areKindsFound), (3214, v_far), (3215, v_heaps), (3212, v_isMeasured), (3203, v_posts)] [] [(70, v_newRoad), (71, v_numberOf), (54, v_road), (59, v_wayOf)] []) H locs → k103 x1 x2 v_areKindsFound v_far v_heaps v_isMeasured v_posts v_newRoad v_numberOf v_road v_wayOf = some (r, w_areKindsFound, w_far, w_heaps, w_isMeasured, w_posts, w_newRoad, w_numberOf, w_road, w_wayOf) → Wg p l e 4 91 s m args below meth c g (some (.int r)) (mkS σ [(3238, w_areKindsFound), (3214, w_far), (3215, w_heaps), (3212, w_isMeasured), (3203, w_posts)] [] [(70, w_newRoad), (71, w_numberOf), (54, w_road), (59, w_wayOf)] []) H locs (F0 m 103 ls [])) (F : Nat) (x1 : Int32) (x2 : Int32) (x3 : Int32) (v_areKindsFound : Int32) (v_far : Int32) (v_heaps : Int32) (v_isMeasured : Int32) (v_posts : Int32) (v_newRoad : Nat → Int32) (v_numberOf : Nat → Int32) (v_road : Nat → Int32) (v_wayOf : Nat → Int32) (H : Heap) (locs : List Loc) (ls : Array Slot), lv_has ls 4 [(0, .ref (g.2.1 50)), (1, .int x1), (2, .int x2), (3, .int x3)] → GW g s (mkS σ [(3238, v_areKindsFound), (3214, v_far), (3215, v_heaps), (3212, v_isMeasured), (3203, v_posts)] [] [(70, v_newRoad), (71, v_numberOf), (54, v_road), (59, v_wayOf)] []) H locs → M_fold_l113 k103 F x1 x2 x3 v_areKindsFound v_far v_heaps v_isMeasured v_posts v_newRoad v_numberOf v_road v_wayOf = some (r, w_areKindsFound, w_far, w_heaps, w_isMeasured, w_posts, w_newRoad, w_numberOf, w_road, w_wayOf) → Wg p l e 4 91 s m args below meth c g (some (.int r)) (mkS σ [(3238, w_areKindsFound), (3214, w_far), (3215, w_heaps), (3212, w_isMeasured), (3203, w_posts)] [] [(70, w_newRoad), (71, w_numberOf), (54, w_road), (59, w_wayOf)] []) H locs (F0 m 113 ls []) := by
    intro k103 hk103 F
    induction F with
    | zero => intro x1 x2 x3 v_areKindsFound v_far v_heaps v_isMeasured v_posts v_newRoad v_numberOf v_road v_wayOf H locs ls hl hG h; exact no_some h
    | succ F ih => intro x1 x2 x3 v_areKindsFound v_far v_heaps v_isMeasured v_posts v_newRoad v_numberOf v_road v_wayOf H locs ls hl hG h; exact n113 k103 hk103 (fun x1 x2 x3 v_areKindsFound v_far v_heaps v_isMeasured v_posts v_newRoad v_numberOf v_road v_wayOf => M_fold_l113 k103 F x1 x2 x3 v_areKindsFound v_far v_heaps v_isMeasured v_posts v_newRoad v_numberOf v_road v_wayOf) ih x1 x2 x3 v_areKindsFound v_far v_heaps v_isMeasured v_posts v_newRoad v_numberOf v_road v_wayOf H locs ls hl hG h
  have n184 : ∀ (x1 : Int32) (v_areKindsFound : Int32) (v_far : Int32) (v_heaps : Int32) (v_isMeasured : Int32) (v_posts : Int32) (v_newRoad : Nat → Int32) (v_numberOf : Nat → Int32) (v_road : Nat → Int32) (v_wayOf : Nat → Int32) (H : Heap) (locs : List Loc) (ls : Array Slot), lv_has ls 4 [(0, .ref (g.2.1 50)), (1, .int x1)] → GW g s (mkS σ [(3238, v_areKindsFound), (3214, v_far), (3215, v_heaps), (3212, v_isMeasured), (3203, v_posts)] [] [(70, v_newRoad), (71, v_numberOf), (54, v_road), (59, v_wayOf)] []) H locs → M_fold_n184 x1 v_areKindsFound v_far v_heaps v_isMeasured v_posts v_newRoad v_numberOf v_road v_wayOf = some (r, w_areKindsFound, w_far, w_heaps, w_isMeasured, w_posts, w_newRoad, w_numberOf, w_road, w_wayOf) → Wg p l e 4 91 s m args below meth c g (some (.int r)) (mkS σ [(3238, w_areKindsFound), (3214, w_far), (3215, w_heaps), (3212, w_isMeasured), (3203, w_posts)] [] [(70, w_newRoad), (71, w_numberOf), (54, w_road), (59, w_wayOf)] []) H locs (F0 m 184 ls []) := by
    intro x1 v_areKindsFound v_far v_heaps v_isMeasured v_posts v_newRoad v_numberOf v_road v_wayOf H locs ls hl hG h
    unfold M_fold_n184 at h
    refine lv_aload_n hx hb dX9_fold_184 rfl (lv_at hl 0 rfl) ?_
    refine lv_iload_n hx hb dX9_fold_185 rfl (lv_at hl 1 rfl) ?_
    obtain ⟨z17, hc18, h⟩ := bnd_some h
    refine gx_cV (σ' := (mkS σ [(3238, z17.1), (3214, v_far), (3215, v_heaps), (3212, z17.2.1), (3203, z17.2.2.1)] [] [(70, v_newRoad), (71, v_numberOf), (54, z17.2.2.2), (59, v_wayOf)] [])) (r := none) (rest := []) (As := [.int x1]) hS9 (c_M_become l g (mkS σ [(3238, v_areKindsFound), (3214, v_far), (3215, v_heaps), (3212, v_isMeasured), (3203, v_posts)] [] [(70, v_newRoad), (71, v_numberOf), (54, v_road), (59, v_wayOf)] []) x1 z17.1 z17.2.1 z17.2.2.1 z17.2.2.2 hc18) (mk_mk rfl rfl rfl rfl) (cwV 1 hts gX9_fold_X9_become rfl rfl rfl (by decide +kernel) ⟨Nat.le_of_ble_eq_true rfl, Nat.le_of_ble_eq_true rfl⟩) hK hG (ga_50 g _) rfl rfl rfl hl.1 rfl (Nat.le_of_ble_eq_true rfl) dX9_fold_186 (fun H locs hG => ?_)
    refine W.eq (g2 := F0 m 189 ls []) rfl ?_
    refine lv_iload_n hx hb dX9_fold_189 rfl (lv_at hl 1 rfl) ?_
    cases h
    exact gx_iret hx hb hr hlocks hG dX9_fold_190
  have n103 : ∀ (k103 : Int32 → Int32 → Int32 → Int32 → Int32 → Int32 → Int32 → (Nat → Int32) → (Nat → Int32) → (Nat → Int32) → (Nat → Int32) → Option (Int32 × Int32 × Int32 × Int32 × Int32 × Int32 × (Nat → Int32) × (Nat → Int32) × (Nat → Int32) × (Nat → Int32))) (hk103 : ∀ (x1 : Int32) (x2 : Int32) (v_areKindsFound : Int32) (v_far : Int32) (v_heaps : Int32) (v_isMeasured : Int32) (v_posts : Int32) (v_newRoad : Nat → Int32) (v_numberOf : Nat → Int32) (v_road : Nat → Int32) (v_wayOf : Nat → Int32) (H : Heap) (locs : List Loc) (ls : Array Slot), lv_has ls 4 [(0, .ref (g.2.1 50)), (1, .int x1), (2, .int x2)] → GW g s (mkS σ [(3238, v_areKindsFound), (3214, v_far), (3215, v_heaps), (3212, v_isMeasured), (3203, v_posts)] [] [(70, v_newRoad), (71, v_numberOf), (54, v_road), (59, v_wayOf)] []) H locs → k103 x1 x2 v_areKindsFound v_far v_heaps v_isMeasured v_posts v_newRoad v_numberOf v_road v_wayOf = some (r, w_areKindsFound, w_far, w_heaps, w_isMeasured, w_posts, w_newRoad, w_numberOf, w_road, w_wayOf) → Wg p l e 4 91 s m args below meth c g (some (.int r)) (mkS σ [(3238, w_areKindsFound), (3214, w_far), (3215, w_heaps), (3212, w_isMeasured), (3203, w_posts)] [] [(70, w_newRoad), (71, w_numberOf), (54, w_road), (59, w_wayOf)] []) H locs (F0 m 103 ls [])) (x1 : Int32) (x2 : Int32) (v_areKindsFound : Int32) (v_far : Int32) (v_heaps : Int32) (v_isMeasured : Int32) (v_posts : Int32) (v_newRoad : Nat → Int32) (v_numberOf : Nat → Int32) (v_road : Nat → Int32) (v_wayOf : Nat → Int32) (H : Heap) (locs : List Loc) (ls : Array Slot), lv_has ls 4 [(0, .ref (g.2.1 50)), (1, .int x1), (2, .int x2)] → GW g s (mkS σ [(3238, v_areKindsFound), (3214, v_far), (3215, v_heaps), (3212, v_isMeasured), (3203, v_posts)] [] [(70, v_newRoad), (71, v_numberOf), (54, v_road), (59, v_wayOf)] []) H locs → M_fold_n103 k103 x1 x2 v_areKindsFound v_far v_heaps v_isMeasured v_posts v_newRoad v_numberOf v_road v_wayOf = some (r, w_areKindsFound, w_far, w_heaps, w_isMeasured, w_posts, w_newRoad, w_numberOf, w_road, w_wayOf) → Wg p l e 4 91 s m args below meth c g (some (.int r)) (mkS σ [(3238, w_areKindsFound), (3214, w_far), (3215, w_heaps), (3212, w_isMeasured), (3203, w_posts)] [] [(70, w_newRoad), (71, w_numberOf), (54, w_road), (59, w_wayOf)] []) H locs (F0 m 103 ls []) := by
    intro k103 hk103 x1 x2 v_areKindsFound v_far v_heaps v_isMeasured v_posts v_newRoad v_numberOf v_road v_wayOf H locs ls hl hG h
    unfold M_fold_n103 at h
    refine lv_iload_n hx hb dX9_fold_103 rfl (lv_at hl 2 rfl) ?_
    refine lv_aload_n hx hb dX9_fold_104 rfl (lv_at hl 0 rfl) ?_
    refine gx_get (v := .int v_posts) (C := RX9) (T := TX9) (N := 44) hx hb hts hinX9 hown hK hG (ga_50 g _) rfl 3 (by decide) hw1 rfl rfl dX9_fold_105 ?_
    refine lv_icmp_ge (tgt := 184) hx hb dX9_fold_108 (by decide) (fun c19 => ?_) (fun c19 => ?_)
    · have h := ite_t c19 h
      exact n184 x1 v_areKindsFound v_far v_heaps v_isMeasured v_posts v_newRoad v_numberOf v_road v_wayOf _ _ _ (lv_sub hl [0, 1] rfl) hG h
    · have h := ite_f c19 h
      refine lv_iconst (v := (0 : Int32)) hx hb dX9_fold_111 (by decide) ?_
      refine lv_istore_n (lv' := [(3, .int (0 : Int32)), (0, .ref (g.2.1 50)), (1, .int x1), (2, .int x2)]) hx hb dX9_fold_112 rfl hl (Nat.le_of_ble_eq_true rfl) rfl (fun ls hl => ?_)
      exact l113 k103 hk103 FUEL x1 x2 (0 : Int32) v_areKindsFound v_far v_heaps v_isMeasured v_posts v_newRoad v_numberOf v_road v_wayOf _ _ _ (lv_sub hl [1, 2, 3, 0] rfl) hG h
  have l103 : ∀  (F : Nat) (x1 : Int32) (x2 : Int32) (v_areKindsFound : Int32) (v_far : Int32) (v_heaps : Int32) (v_isMeasured : Int32) (v_posts : Int32) (v_newRoad : Nat → Int32) (v_numberOf : Nat → Int32) (v_road : Nat → Int32) (v_wayOf : Nat → Int32) (H : Heap) (locs : List Loc) (ls : Array Slot), lv_has ls 4 [(0, .ref (g.2.1 50)), (1, .int x1), (2, .int x2)] → GW g s (mkS σ [(3238, v_areKindsFound), (3214, v_far), (3215, v_heaps), (3212, v_isMeasured), (3203, v_posts)] [] [(70, v_newRoad), (71, v_numberOf), (54, v_road), (59, v_wayOf)] []) H locs → M_fold_l103 F x1 x2 v_areKindsFound v_far v_heaps v_isMeasured v_posts v_newRoad v_numberOf v_road v_wayOf = some (r, w_areKindsFound, w_far, w_heaps, w_isMeasured, w_posts, w_newRoad, w_numberOf, w_road, w_wayOf) → Wg p l e 4 91 s m args below meth c g (some (.int r)) (mkS σ [(3238, w_areKindsFound), (3214, w_far), (3215, w_heaps), (3212, w_isMeasured), (3203, w_posts)] [] [(70, w_newRoad), (71, w_numberOf), (54, w_road), (59, w_wayOf)] []) H locs (F0 m 103 ls []) := by
    intro F
    induction F with
    | zero => intro x1 x2 v_areKindsFound v_far v_heaps v_isMeasured v_posts v_newRoad v_numberOf v_road v_wayOf H locs ls hl hG h; exact no_some h
    | succ F ih => intro x1 x2 v_areKindsFound v_far v_heaps v_isMeasured v_posts v_newRoad v_numberOf v_road v_wayOf H locs ls hl hG h; exact n103 (fun x1 x2 v_areKindsFound v_far v_heaps v_isMeasured v_posts v_newRoad v_numberOf v_road v_wayOf => M_fold_l103 F x1 x2 v_areKindsFound v_far v_heaps v_isMeasured v_posts v_newRoad v_numberOf v_road v_wayOf) ih x1 x2 v_areKindsFound v_far v_heaps v_isMeasured v_posts v_newRoad v_numberOf v_road v_wayOf H locs ls hl hG h
  have n97 : ∀ (x1 : Int32) (v_areKindsFound : Int32) (v_far : Int32) (v_heaps : Int32) (v_isMeasured : Int32) (v_posts : Int32) (v_newRoad : Nat → Int32) (v_numberOf : Nat → Int32) (v_road : Nat → Int32) (v_wayOf : Nat → Int32) (H : Heap) (locs : List Loc) (ls : Array Slot), lv_has ls 4 [(0, .ref (g.2.1 50)), (1, .int x1)] → GW g s (mkS σ [(3238, v_areKindsFound), (3214, v_far), (3215, v_heaps), (3212, v_isMeasured), (3203, v_posts)] [] [(70, v_newRoad), (71, v_numberOf), (54, v_road), (59, v_wayOf)] []) H locs → M_fold_n97 x1 v_areKindsFound v_far v_heaps v_isMeasured v_posts v_newRoad v_numberOf v_road v_wayOf = some (r, w_areKindsFound, w_far, w_heaps, w_isMeasured, w_posts, w_newRoad, w_numberOf, w_road, w_wayOf) → Wg p l e 4 91 s m args below meth c g (some (.int r)) (mkS σ [(3238, w_areKindsFound), (3214, w_far), (3215, w_heaps), (3212, w_isMeasured), (3203, w_posts)] [] [(70, w_newRoad), (71, w_numberOf), (54, w_road), (59, w_wayOf)] []) H locs (F0 m 97 ls []) := by
    intro x1 v_areKindsFound v_far v_heaps v_isMeasured v_posts v_newRoad v_numberOf v_road v_wayOf H locs ls hl hG h
    unfold M_fold_n97 at h
    refine lv_aload_n hx hb dX9_fold_97 rfl (lv_at hl 0 rfl) ?_
    obtain ⟨z20, hc21, h⟩ := bnd_some h
    refine gx_cV (σ' := (mkS σ [(3238, v_areKindsFound), (3214, v_far), (3215, v_heaps), (3212, v_isMeasured), (3203, v_posts)] [] [(70, z20), (71, v_numberOf), (54, v_road), (59, v_wayOf)] [])) (r := none) (rest := []) (As := []) hS9 (c_M_clearNew l g (mkS σ [(3238, v_areKindsFound), (3214, v_far), (3215, v_heaps), (3212, v_isMeasured), (3203, v_posts)] [] [(70, v_newRoad), (71, v_numberOf), (54, v_road), (59, v_wayOf)] []) z20 hc21) (mk_mk rfl rfl rfl rfl) (cwV 0 hts gX9_fold_X9_clearNew rfl rfl rfl (by decide +kernel) ⟨Nat.le_of_ble_eq_true rfl, Nat.le_of_ble_eq_true rfl⟩) hK hG (ga_50 g _) rfl rfl rfl hl.1 rfl (Nat.le_of_ble_eq_true rfl) dX9_fold_98 (fun H locs hG => ?_)
    refine W.eq (g2 := F0 m 101 ls []) rfl ?_
    refine lv_iconst (v := (0 : Int32)) hx hb dX9_fold_101 (by decide) ?_
    refine lv_istore_n (lv' := [(2, .int (0 : Int32)), (0, .ref (g.2.1 50)), (1, .int x1)]) hx hb dX9_fold_102 rfl hl (Nat.le_of_ble_eq_true rfl) rfl (fun ls hl => ?_)
    exact l103 FUEL x1 (0 : Int32) v_areKindsFound v_far v_heaps v_isMeasured v_posts z20 v_numberOf v_road v_wayOf _ _ _ (lv_sub hl [1, 2, 0] rfl) hG h
  have n14 : ∀ (k14 : Int32 → Int32 → Int32 → Int32 → Int32 → Int32 → Int32 → (Nat → Int32) → (Nat → Int32) → (Nat → Int32) → (Nat → Int32) → Option (Int32 × Int32 × Int32 × Int32 × Int32 × Int32 × (Nat → Int32) × (Nat → Int32) × (Nat → Int32) × (Nat → Int32))) (hk14 : ∀ (x1 : Int32) (x2 : Int32) (v_areKindsFound : Int32) (v_far : Int32) (v_heaps : Int32) (v_isMeasured : Int32) (v_posts : Int32) (v_newRoad : Nat → Int32) (v_numberOf : Nat → Int32) (v_road : Nat → Int32) (v_wayOf : Nat → Int32) (H : Heap) (locs : List Loc) (ls : Array Slot), lv_has ls 4 [(0, .ref (g.2.1 50)), (1, .int x1), (2, .int x2)] → GW g s (mkS σ [(3238, v_areKindsFound), (3214, v_far), (3215, v_heaps), (3212, v_isMeasured), (3203, v_posts)] [] [(70, v_newRoad), (71, v_numberOf), (54, v_road), (59, v_wayOf)] []) H locs → k14 x1 x2 v_areKindsFound v_far v_heaps v_isMeasured v_posts v_newRoad v_numberOf v_road v_wayOf = some (r, w_areKindsFound, w_far, w_heaps, w_isMeasured, w_posts, w_newRoad, w_numberOf, w_road, w_wayOf) → Wg p l e 4 91 s m args below meth c g (some (.int r)) (mkS σ [(3238, w_areKindsFound), (3214, w_far), (3215, w_heaps), (3212, w_isMeasured), (3203, w_posts)] [] [(70, w_newRoad), (71, w_numberOf), (54, w_road), (59, w_wayOf)] []) H locs (F0 m 14 ls [])) (x1 : Int32) (x2 : Int32) (v_areKindsFound : Int32) (v_far : Int32) (v_heaps : Int32) (v_isMeasured : Int32) (v_posts : Int32) (v_newRoad : Nat → Int32) (v_numberOf : Nat → Int32) (v_road : Nat → Int32) (v_wayOf : Nat → Int32) (H : Heap) (locs : List Loc) (ls : Array Slot), lv_has ls 4 [(0, .ref (g.2.1 50)), (1, .int x1), (2, .int x2)] → GW g s (mkS σ [(3238, v_areKindsFound), (3214, v_far), (3215, v_heaps), (3212, v_isMeasured), (3203, v_posts)] [] [(70, v_newRoad), (71, v_numberOf), (54, v_road), (59, v_wayOf)] []) H locs → M_fold_n14 k14 x1 x2 v_areKindsFound v_far v_heaps v_isMeasured v_posts v_newRoad v_numberOf v_road v_wayOf = some (r, w_areKindsFound, w_far, w_heaps, w_isMeasured, w_posts, w_newRoad, w_numberOf, w_road, w_wayOf) → Wg p l e 4 91 s m args below meth c g (some (.int r)) (mkS σ [(3238, w_areKindsFound), (3214, w_far), (3215, w_heaps), (3212, w_isMeasured), (3203, w_posts)] [] [(70, w_newRoad), (71, w_numberOf), (54, w_road), (59, w_wayOf)] []) H locs (F0 m 14 ls []) := by
    intro k14 hk14 x1 x2 v_areKindsFound v_far v_heaps v_isMeasured v_posts v_newRoad v_numberOf v_road v_wayOf H locs ls hl hG h
    unfold M_fold_n14 at h
    refine lv_iload_n hx hb dX9_fold_14 rfl (lv_at hl 2 rfl) ?_
    refine lv_aload_n hx hb dX9_fold_15 rfl (lv_at hl 0 rfl) ?_
    refine gx_get (v := .int v_posts) (C := RX9) (T := TX9) (N := 44) hx hb hts hinX9 hown hK hG (ga_50 g _) rfl 3 (by decide) hw1 rfl rfl dX9_fold_16 ?_
    refine lv_icmp_ge (tgt := 97) hx hb dX9_fold_19 (by decide) (fun c22 => ?_) (fun c22 => ?_)
    · have h := ite_t c22 h
      exact n97 x1 v_areKindsFound v_far v_heaps v_isMeasured v_posts v_newRoad v_numberOf v_road v_wayOf _ _ _ (lv_sub hl [0, 1] rfl) hG h
    · have h := ite_f c22 h
      refine lv_aload_n hx hb dX9_fold_22 rfl (lv_at hl 0 rfl) ?_
      refine gx_get (v := .ref (g.2.1 71)) (C := RX9) (T := TX9) (N := 44) hx hb hts hinX9 hown hK hG (ga_50 g _) rfl 30 (by decide) hw0 rfl rfl dX9_fold_23 ?_
      refine lv_iload_n hx hb dX9_fold_26 rfl (lv_at hl 2 rfl) ?_
      refine lv_iconst (v := (-1 : Int32)) hx hb dX9_fold_27 (by decide) ?_
      obtain ⟨hg23, h⟩ := gd_some h
      refine gx_iast (σ' := (mkS σ [(3238, v_areKindsFound), (3214, v_far), (3215, v_heaps), (3212, v_isMeasured), (3203, v_posts)] [] [(70, v_newRoad), (71, (upd v_numberOf (x2.toNatClampNeg) (-1 : Int32))), (54, v_road), (59, v_wayOf)] [])) (f := v_numberOf) hx hb hK hG (ga_71 g _) hg23 ((gs_71 g _ _).trans (congrArg (g_cells g) (mk_c 1 rfl rfl))) dX9_fold_28 (fun H locs hG => ?_)
      refine lv_iconst (v := (0 : Int32)) hx hb dX9_fold_29 (by decide) ?_
      refine lv_istore_n (lv' := [(3, .int (0 : Int32)), (0, .ref (g.2.1 50)), (1, .int x1), (2, .int x2)]) hx hb dX9_fold_30 rfl hl (Nat.le_of_ble_eq_true rfl) rfl (fun ls hl => ?_)
      exact l31 k14 hk14 FUEL x1 x2 (0 : Int32) v_areKindsFound v_far v_heaps v_isMeasured v_posts v_newRoad (upd v_numberOf (x2.toNatClampNeg) (-1 : Int32)) v_road v_wayOf _ _ _ (lv_sub hl [1, 2, 3, 0] rfl) hG h
  have l14 : ∀  (F : Nat) (x1 : Int32) (x2 : Int32) (v_areKindsFound : Int32) (v_far : Int32) (v_heaps : Int32) (v_isMeasured : Int32) (v_posts : Int32) (v_newRoad : Nat → Int32) (v_numberOf : Nat → Int32) (v_road : Nat → Int32) (v_wayOf : Nat → Int32) (H : Heap) (locs : List Loc) (ls : Array Slot), lv_has ls 4 [(0, .ref (g.2.1 50)), (1, .int x1), (2, .int x2)] → GW g s (mkS σ [(3238, v_areKindsFound), (3214, v_far), (3215, v_heaps), (3212, v_isMeasured), (3203, v_posts)] [] [(70, v_newRoad), (71, v_numberOf), (54, v_road), (59, v_wayOf)] []) H locs → M_fold_l14 F x1 x2 v_areKindsFound v_far v_heaps v_isMeasured v_posts v_newRoad v_numberOf v_road v_wayOf = some (r, w_areKindsFound, w_far, w_heaps, w_isMeasured, w_posts, w_newRoad, w_numberOf, w_road, w_wayOf) → Wg p l e 4 91 s m args below meth c g (some (.int r)) (mkS σ [(3238, w_areKindsFound), (3214, w_far), (3215, w_heaps), (3212, w_isMeasured), (3203, w_posts)] [] [(70, w_newRoad), (71, w_numberOf), (54, w_road), (59, w_wayOf)] []) H locs (F0 m 14 ls []) := by
    intro F
    induction F with
    | zero => intro x1 x2 v_areKindsFound v_far v_heaps v_isMeasured v_posts v_newRoad v_numberOf v_road v_wayOf H locs ls hl hG h; exact no_some h
    | succ F ih => intro x1 x2 v_areKindsFound v_far v_heaps v_isMeasured v_posts v_newRoad v_numberOf v_road v_wayOf H locs ls hl hG h; exact n14 (fun x1 x2 v_areKindsFound v_far v_heaps v_isMeasured v_posts v_newRoad v_numberOf v_road v_wayOf => M_fold_l14 F x1 x2 v_areKindsFound v_far v_heaps v_isMeasured v_posts v_newRoad v_numberOf v_road v_wayOf) ih x1 x2 v_areKindsFound v_far v_heaps v_isMeasured v_posts v_newRoad v_numberOf v_road v_wayOf H locs ls hl hG h
  refine lv_aload_n hx hb dX9_fold_0 rfl (lv_at hl 0 rfl) ?_
  obtain ⟨z24, hc25, h⟩ := bnd_some h
  refine gx_cV (σ' := (mkS σ [(3238, (σ.1 3238)), (3214, z24.2.1), (3215, z24.2.2.1), (3212, z24.2.2.2.1), (3203, (σ.1 3203))] [] [(70, (σ.2.2.1 70)), (71, (σ.2.2.1 71)), (54, (σ.2.2.1 54)), (59, z24.2.2.2.2)] [])) (r := (some (.int z24.1))) (rest := []) (As := []) hS9 (c_M_isFolded l g (mkS σ [(3238, (σ.1 3238)), (3214, (σ.1 3214)), (3215, (σ.1 3215)), (3212, (σ.1 3212)), (3203, (σ.1 3203))] [] [(70, (σ.2.2.1 70)), (71, (σ.2.2.1 71)), (54, (σ.2.2.1 54)), (59, (σ.2.2.1 59))] []) z24.1 z24.2.1 z24.2.2.1 z24.2.2.2.1 z24.2.2.2.2 hc25) (mk_mk rfl rfl rfl rfl) (cwV 0 hts gX9_fold_X9_isFolded rfl rfl rfl (by decide +kernel) ⟨Nat.le_of_ble_eq_true rfl, Nat.le_of_ble_eq_true rfl⟩) hK hG (ga_50 g _) rfl rfl rfl hl.1 rfl (Nat.le_of_ble_eq_true rfl) dX9_fold_1 (fun H locs hG => ?_)
  refine W.eq (g2 := F0 m 4 ls [.int z24.1]) rfl ?_
  refine lv_if_ne (tgt := 10) hx hb dX9_fold_4 (by decide) (fun c26 => ?_) (fun c26 => ?_)
  · have h := ite_f c26 h
    refine lv_iconst (v := (0 : Int32)) hx hb dX9_fold_10 (by decide) ?_
    refine lv_istore_n (lv' := [(1, .int (0 : Int32)), (0, .ref (g.2.1 50))]) hx hb dX9_fold_11 rfl hl (Nat.le_of_ble_eq_true rfl) rfl (fun ls hl => ?_)
    refine lv_iconst (v := (0 : Int32)) hx hb dX9_fold_12 (by decide) ?_
    refine lv_istore_n (lv' := [(2, .int (0 : Int32)), (1, .int (0 : Int32)), (0, .ref (g.2.1 50))]) hx hb dX9_fold_13 rfl hl (Nat.le_of_ble_eq_true rfl) rfl (fun ls hl => ?_)
    exact l14 FUEL (0 : Int32) (0 : Int32) (σ.1 3238) z24.2.1 z24.2.2.1 z24.2.2.2.1 (σ.1 3203) (σ.2.2.1 70) (σ.2.2.1 71) (σ.2.2.1 54) z24.2.2.2.2 _ _ _ (lv_sub hl [2, 1, 0] rfl) hG h
  · have h := ite_t c26 h
    refine lv_bipush (v := (-5 : Int32)) hx hb dX9_fold_7 (by decide) ?_
    cases h
    exact gx_iret hx hb hr hlocks hG dX9_fold_9

set_option maxHeartbeats 4000000 in
set_option maxRecDepth 100000 in
theorem c_M_isOfSides (l : Launch) (g : GC) (σ : St) (r : Int32) (w_far : Int32) (w_heaps : Int32) (w_isMeasured : Int32) (w_wayOf : Nat → Int32) (h : M_isOfSides (σ.1 3214) (σ.1 3215) (σ.1 3212) (σ.1 3203) (σ.2.2.1 54) (σ.2.2.1 59) = some (r, w_far, w_heaps, w_isMeasured, w_wayOf)) : Cn l g yX9_isOfSides wsX9_isOfSides 2 47 [.ref (g.2.1 50)] σ (some (.int r)) (mkS σ [(3214, w_far), (3215, w_heaps), (3212, w_isMeasured)] [] [(59, w_wayOf)] []) := by
  unfold Cn
  refine Met.ofW (cc := cX9_isOfSides) (maxL := 6) (ret := (some .boolean)) (by decide) rfl ?_
  intro p e s m args below meth c s₁ B hml hv
  obtain ⟨hargs, hP0, hK⟩ := hv
  have hx := B.exec
  have hb := B.bytes
  have hr := B.returns
  have hts := atoms_spec (ws := wsX9_isOfSides) B.pre
  have hown : s.vm.findClass RX9 = some m.cls := findClass_of_methodNamed B.named
  have hlocks := B.notSynchronized
  have hS9 : CallFix p m c cX9_isOfSides 6 s args wsX9_isOfSides RX9 := ⟨hx, hb, hml, hown, hts⟩
  have hinX9 : ∀ w ∈ wsX90, w ∈ wsX9_isOfSides := fun w h => List.mem_cons_of_mem _ (List.mem_append_right _ (h))
  have hw0 := hts (.fieldLink RX9 116 "LikeNetsModel" "posts" "I") (List.mem_of_getElem? (i := 1) rfl)
  have hw1 := hts (.fieldLink RX9 19 "LikeNetsModel" "road" "[Z") (List.mem_of_getElem? (i := 2) rfl)
  have hw2 := hts (.fieldLink RX9 39 "LikeNetsModel" "wayOf" "[I") (List.mem_of_getElem? (i := 3) rfl)
  have hf9 : entryFrame m args 6 = _ := (congrArg (fun a => entryFrame m a 6) hargs).trans (lg_entry_eq m [.ref (g.2.1 50)] 6)
  show Wg p l e 2 47 s m args below meth c g (some (.int r)) (mkS σ [(3214, w_far), (3215, w_heaps), (3212, w_isMeasured)] [] [(59, w_wayOf)] []) s.heap [] (entryFrame m args 6)
  rw [hf9]
  have hl := lv_entry ([.ref (g.2.1 50)]) (n := 6) (Nat.le_of_ble_eq_true rfl)
  generalize (lg_sl ([.ref (g.2.1 50)]) ++ List.replicate (6 - (lg_sl ([.ref (g.2.1 50)])).length) Slot.unset).toArray = ls at hl ⊢
  have hl : lv_has ls 6 [(0, .ref (g.2.1 50))] := hl
  have hG : GW g s σ s.heap [] := ⟨hP0, va_S.rf⟩
  have hG : GW g s (mkS σ [(3214, (σ.1 3214)), (3215, (σ.1 3215)), (3212, (σ.1 3212))] [] [(59, (σ.2.2.1 59))] []) s.heap [] := GW_self [3214, 3215, 3212] [] [59] [] hG
  unfold M_isOfSides at h
  have n103 : ∀ (k29 : Int32 → Int32 → Int32 → Int32 → Int32 → Int32 → Int32 → (Nat → Int32) → Option (Int32 × Int32 × Int32 × Int32 × (Nat → Int32))) (hk29 : ∀ (x1 : Int32) (x2 : Int32) (x3 : Int32) (x4 : Int32) (v_far : Int32) (v_heaps : Int32) (v_isMeasured : Int32) (v_wayOf : Nat → Int32) (H : Heap) (locs : List Loc) (ls : Array Slot), lv_has ls 6 [(0, .ref (g.2.1 50)), (1, .int x1), (2, .int x2), (3, .int x3), (4, .int x4)] → GW g s (mkS σ [(3214, v_far), (3215, v_heaps), (3212, v_isMeasured)] [] [(59, v_wayOf)] []) H locs → k29 x1 x2 x3 x4 v_far v_heaps v_isMeasured v_wayOf = some (r, w_far, w_heaps, w_isMeasured, w_wayOf) → Wg p l e 2 47 s m args below meth c g (some (.int r)) (mkS σ [(3214, w_far), (3215, w_heaps), (3212, w_isMeasured)] [] [(59, w_wayOf)] []) H locs (F0 m 29 ls [])) (x2 : Int32) (x3 : Int32) (x4 : Int32) (t0 : Int32) (v_far : Int32) (v_heaps : Int32) (v_isMeasured : Int32) (v_wayOf : Nat → Int32) (H : Heap) (locs : List Loc) (ls : Array Slot), lv_has ls 6 [(0, .ref (g.2.1 50)), (2, .int x2), (3, .int x3), (4, .int x4)] → GW g s (mkS σ [(3214, v_far), (3215, v_heaps), (3212, v_isMeasured)] [] [(59, v_wayOf)] []) H locs → M_isOfSides_n103 k29 x2 x3 x4 t0 v_far v_heaps v_isMeasured v_wayOf = some (r, w_far, w_heaps, w_isMeasured, w_wayOf) → Wg p l e 2 47 s m args below meth c g (some (.int r)) (mkS σ [(3214, w_far), (3215, w_heaps), (3212, w_isMeasured)] [] [(59, w_wayOf)] []) H locs (F0 m 103 ls [.int t0]) := by
    intro k29 hk29 x2 x3 x4 t0 v_far v_heaps v_isMeasured v_wayOf H locs ls hl hG h
    unfold M_isOfSides_n103 at h
    refine lv_istore_n (lv' := [(1, .int t0), (0, .ref (g.2.1 50)), (2, .int x2), (3, .int x3), (4, .int x4)]) hx hb dX9_isOfSides_103 rfl hl (Nat.le_of_ble_eq_true rfl) rfl (fun ls hl => ?_)
    refine lv_iinc (v := (x4 + (1 : Int32))) (lv' := [(4, .int (x4 + (1 : Int32))), (1, .int t0), (0, .ref (g.2.1 50)), (2, .int x2), (3, .int x3)]) hx hb dX9_isOfSides_104 hl (k := 4) rfl (congrArg (fun z => x4 + z) (by decide)) (Nat.le_of_ble_eq_true rfl) rfl (fun ls hl => ?_)
    refine lv_goto (tgt := 29) hx hb dX9_isOfSides_107 (by decide) ?_
    exact hk29 t0 x2 x3 (x4 + (1 : Int32)) v_far v_heaps v_isMeasured v_wayOf _ _ _ (lv_sub hl [2, 1, 3, 4, 0] rfl) hG h
  have n98 : ∀ (k29 : Int32 → Int32 → Int32 → Int32 → Int32 → Int32 → Int32 → (Nat → Int32) → Option (Int32 × Int32 × Int32 × Int32 × (Nat → Int32))) (hk29 : ∀ (x1 : Int32) (x2 : Int32) (x3 : Int32) (x4 : Int32) (v_far : Int32) (v_heaps : Int32) (v_isMeasured : Int32) (v_wayOf : Nat → Int32) (H : Heap) (locs : List Loc) (ls : Array Slot), lv_has ls 6 [(0, .ref (g.2.1 50)), (1, .int x1), (2, .int x2), (3, .int x3), (4, .int x4)] → GW g s (mkS σ [(3214, v_far), (3215, v_heaps), (3212, v_isMeasured)] [] [(59, v_wayOf)] []) H locs → k29 x1 x2 x3 x4 v_far v_heaps v_isMeasured v_wayOf = some (r, w_far, w_heaps, w_isMeasured, w_wayOf) → Wg p l e 2 47 s m args below meth c g (some (.int r)) (mkS σ [(3214, w_far), (3215, w_heaps), (3212, w_isMeasured)] [] [(59, w_wayOf)] []) H locs (F0 m 29 ls [])) (x2 : Int32) (x3 : Int32) (x4 : Int32) (v_far : Int32) (v_heaps : Int32) (v_isMeasured : Int32) (v_wayOf : Nat → Int32) (H : Heap) (locs : List Loc) (ls : Array Slot), lv_has ls 6 [(0, .ref (g.2.1 50)), (2, .int x2), (3, .int x3), (4, .int x4)] → GW g s (mkS σ [(3214, v_far), (3215, v_heaps), (3212, v_isMeasured)] [] [(59, v_wayOf)] []) H locs → M_isOfSides_n98 k29 x2 x3 x4 v_far v_heaps v_isMeasured v_wayOf = some (r, w_far, w_heaps, w_isMeasured, w_wayOf) → Wg p l e 2 47 s m args below meth c g (some (.int r)) (mkS σ [(3214, w_far), (3215, w_heaps), (3212, w_isMeasured)] [] [(59, w_wayOf)] []) H locs (F0 m 98 ls []) := by
    intro k29 hk29 x2 x3 x4 v_far v_heaps v_isMeasured v_wayOf H locs ls hl hG h
    unfold M_isOfSides_n98 at h
    refine lv_iconst (v := (1 : Int32)) hx hb dX9_isOfSides_98 (by decide) ?_
    refine lv_goto (tgt := 103) hx hb dX9_isOfSides_99 (by decide) ?_
    exact n103 k29 hk29 x2 x3 x4 (1 : Int32) v_far v_heaps v_isMeasured v_wayOf _ _ _ (lv_sub hl [0, 1, 2, 3] rfl) hG h
  have n102 : ∀ (k29 : Int32 → Int32 → Int32 → Int32 → Int32 → Int32 → Int32 → (Nat → Int32) → Option (Int32 × Int32 × Int32 × Int32 × (Nat → Int32))) (hk29 : ∀ (x1 : Int32) (x2 : Int32) (x3 : Int32) (x4 : Int32) (v_far : Int32) (v_heaps : Int32) (v_isMeasured : Int32) (v_wayOf : Nat → Int32) (H : Heap) (locs : List Loc) (ls : Array Slot), lv_has ls 6 [(0, .ref (g.2.1 50)), (1, .int x1), (2, .int x2), (3, .int x3), (4, .int x4)] → GW g s (mkS σ [(3214, v_far), (3215, v_heaps), (3212, v_isMeasured)] [] [(59, v_wayOf)] []) H locs → k29 x1 x2 x3 x4 v_far v_heaps v_isMeasured v_wayOf = some (r, w_far, w_heaps, w_isMeasured, w_wayOf) → Wg p l e 2 47 s m args below meth c g (some (.int r)) (mkS σ [(3214, w_far), (3215, w_heaps), (3212, w_isMeasured)] [] [(59, w_wayOf)] []) H locs (F0 m 29 ls [])) (x2 : Int32) (x3 : Int32) (x4 : Int32) (v_far : Int32) (v_heaps : Int32) (v_isMeasured : Int32) (v_wayOf : Nat → Int32) (H : Heap) (locs : List Loc) (ls : Array Slot), lv_has ls 6 [(0, .ref (g.2.1 50)), (2, .int x2), (3, .int x3), (4, .int x4)] → GW g s (mkS σ [(3214, v_far), (3215, v_heaps), (3212, v_isMeasured)] [] [(59, v_wayOf)] []) H locs → M_isOfSides_n102 k29 x2 x3 x4 v_far v_heaps v_isMeasured v_wayOf = some (r, w_far, w_heaps, w_isMeasured, w_wayOf) → Wg p l e 2 47 s m args below meth c g (some (.int r)) (mkS σ [(3214, w_far), (3215, w_heaps), (3212, w_isMeasured)] [] [(59, w_wayOf)] []) H locs (F0 m 102 ls []) := by
    intro k29 hk29 x2 x3 x4 v_far v_heaps v_isMeasured v_wayOf H locs ls hl hG h
    unfold M_isOfSides_n102 at h
    refine lv_iconst (v := (0 : Int32)) hx hb dX9_isOfSides_102 (by decide) ?_
    exact n103 k29 hk29 x2 x3 x4 (0 : Int32) v_far v_heaps v_isMeasured v_wayOf _ _ _ (lv_sub hl [0, 1, 2, 3] rfl) hG h
  have n110 : ∀ (k18 : Int32 → Int32 → Int32 → Int32 → Int32 → Int32 → (Nat → Int32) → Option (Int32 × Int32 × Int32 × Int32 × (Nat → Int32))) (hk18 : ∀ (x1 : Int32) (x2 : Int32) (x3 : Int32) (v_far : Int32) (v_heaps : Int32) (v_isMeasured : Int32) (v_wayOf : Nat → Int32) (H : Heap) (locs : List Loc) (ls : Array Slot), lv_has ls 6 [(0, .ref (g.2.1 50)), (1, .int x1), (2, .int x2), (3, .int x3)] → GW g s (mkS σ [(3214, v_far), (3215, v_heaps), (3212, v_isMeasured)] [] [(59, v_wayOf)] []) H locs → k18 x1 x2 x3 v_far v_heaps v_isMeasured v_wayOf = some (r, w_far, w_heaps, w_isMeasured, w_wayOf) → Wg p l e 2 47 s m args below meth c g (some (.int r)) (mkS σ [(3214, w_far), (3215, w_heaps), (3212, w_isMeasured)] [] [(59, w_wayOf)] []) H locs (F0 m 18 ls [])) (x1 : Int32) (x2 : Int32) (x3 : Int32) (v_far : Int32) (v_heaps : Int32) (v_isMeasured : Int32) (v_wayOf : Nat → Int32) (H : Heap) (locs : List Loc) (ls : Array Slot), lv_has ls 6 [(0, .ref (g.2.1 50)), (1, .int x1), (2, .int x2), (3, .int x3)] → GW g s (mkS σ [(3214, v_far), (3215, v_heaps), (3212, v_isMeasured)] [] [(59, v_wayOf)] []) H locs → M_isOfSides_n110 k18 x1 x2 x3 v_far v_heaps v_isMeasured v_wayOf = some (r, w_far, w_heaps, w_isMeasured, w_wayOf) → Wg p l e 2 47 s m args below meth c g (some (.int r)) (mkS σ [(3214, w_far), (3215, w_heaps), (3212, w_isMeasured)] [] [(59, w_wayOf)] []) H locs (F0 m 110 ls []) := by
    intro k18 hk18 x1 x2 x3 v_far v_heaps v_isMeasured v_wayOf H locs ls hl hG h
    unfold M_isOfSides_n110 at h
    refine lv_iinc (v := (x3 + (1 : Int32))) (lv' := [(3, .int (x3 + (1 : Int32))), (0, .ref (g.2.1 50)), (1, .int x1), (2, .int x2)]) hx hb dX9_isOfSides_110 hl (k := 3) rfl (congrArg (fun z => x3 + z) (by decide)) (Nat.le_of_ble_eq_true rfl) rfl (fun ls hl => ?_)
    refine lv_goto (tgt := 18) hx hb dX9_isOfSides_113 (by decide) ?_
    exact hk18 x1 x2 (x3 + (1 : Int32)) v_far v_heaps v_isMeasured v_wayOf _ _ _ (lv_sub hl [1, 2, 3, 0] rfl) hG h
  have n29 : ∀ (k18 : Int32 → Int32 → Int32 → Int32 → Int32 → Int32 → (Nat → Int32) → Option (Int32 × Int32 × Int32 × Int32 × (Nat → Int32))) (hk18 : ∀ (x1 : Int32) (x2 : Int32) (x3 : Int32) (v_far : Int32) (v_heaps : Int32) (v_isMeasured : Int32) (v_wayOf : Nat → Int32) (H : Heap) (locs : List Loc) (ls : Array Slot), lv_has ls 6 [(0, .ref (g.2.1 50)), (1, .int x1), (2, .int x2), (3, .int x3)] → GW g s (mkS σ [(3214, v_far), (3215, v_heaps), (3212, v_isMeasured)] [] [(59, v_wayOf)] []) H locs → k18 x1 x2 x3 v_far v_heaps v_isMeasured v_wayOf = some (r, w_far, w_heaps, w_isMeasured, w_wayOf) → Wg p l e 2 47 s m args below meth c g (some (.int r)) (mkS σ [(3214, w_far), (3215, w_heaps), (3212, w_isMeasured)] [] [(59, w_wayOf)] []) H locs (F0 m 18 ls [])) (k29 : Int32 → Int32 → Int32 → Int32 → Int32 → Int32 → Int32 → (Nat → Int32) → Option (Int32 × Int32 × Int32 × Int32 × (Nat → Int32))) (hk29 : ∀ (x1 : Int32) (x2 : Int32) (x3 : Int32) (x4 : Int32) (v_far : Int32) (v_heaps : Int32) (v_isMeasured : Int32) (v_wayOf : Nat → Int32) (H : Heap) (locs : List Loc) (ls : Array Slot), lv_has ls 6 [(0, .ref (g.2.1 50)), (1, .int x1), (2, .int x2), (3, .int x3), (4, .int x4)] → GW g s (mkS σ [(3214, v_far), (3215, v_heaps), (3212, v_isMeasured)] [] [(59, v_wayOf)] []) H locs → k29 x1 x2 x3 x4 v_far v_heaps v_isMeasured v_wayOf = some (r, w_far, w_heaps, w_isMeasured, w_wayOf) → Wg p l e 2 47 s m args below meth c g (some (.int r)) (mkS σ [(3214, w_far), (3215, w_heaps), (3212, w_isMeasured)] [] [(59, w_wayOf)] []) H locs (F0 m 29 ls [])) (x1 : Int32) (x2 : Int32) (x3 : Int32) (x4 : Int32) (v_far : Int32) (v_heaps : Int32) (v_isMeasured : Int32) (v_wayOf : Nat → Int32) (H : Heap) (locs : List Loc) (ls : Array Slot), lv_has ls 6 [(0, .ref (g.2.1 50)), (1, .int x1), (2, .int x2), (3, .int x3), (4, .int x4)] → GW g s (mkS σ [(3214, v_far), (3215, v_heaps), (3212, v_isMeasured)] [] [(59, v_wayOf)] []) H locs → M_isOfSides_n29 k18 k29 (σ.1 3203) (σ.2.2.1 54) x1 x2 x3 x4 v_far v_heaps v_isMeasured v_wayOf = some (r, w_far, w_heaps, w_isMeasured, w_wayOf) → Wg p l e 2 47 s m args below meth c g (some (.int r)) (mkS σ [(3214, w_far), (3215, w_heaps), (3212, w_isMeasured)] [] [(59, w_wayOf)] []) H locs (F0 m 29 ls []) := by
    intro k18 hk18 k29 hk29 x1 x2 x3 x4 v_far v_heaps v_isMeasured v_wayOf H locs ls hl hG h
    unfold M_isOfSides_n29 at h
    refine lv_iload hx hb dX9_isOfSides_29 (lv_at hl 4 rfl) ?_
    refine lv_aload_n hx hb dX9_isOfSides_31 rfl (lv_at hl 0 rfl) ?_
    refine gx_get (v := .int (σ.1 3203)) (C := RX9) (T := TX9) (N := 44) hx hb hts hinX9 hown hK hG (ga_50 g _) rfl 3 (by decide) hw0 rfl rfl dX9_isOfSides_32 ?_
    refine lv_icmp_ge (tgt := 110) hx hb dX9_isOfSides_35 (by decide) (fun c1 => ?_) (fun c1 => ?_)
    · have h := ite_t c1 h
      exact n110 k18 hk18 x1 x2 x3 v_far v_heaps v_isMeasured v_wayOf _ _ _ (lv_sub hl [0, 1, 2, 3] rfl) hG h
    · have h := ite_f c1 h
      refine lv_aload_n hx hb dX9_isOfSides_38 rfl (lv_at hl 0 rfl) ?_
      refine gx_get (v := .ref (g.2.1 54)) (C := RX9) (T := TX9) (N := 44) hx hb hts hinX9 hown hK hG (ga_50 g _) rfl 4 (by decide) hw1 rfl rfl dX9_isOfSides_39 ?_
      refine lv_bipush (v := (32 : Int32)) hx hb dX9_isOfSides_42 (by decide) ?_
      refine lv_iload_n hx hb dX9_isOfSides_44 rfl (lv_at hl 2 rfl) ?_
      refine lv_imul hx hb dX9_isOfSides_45 ?_
      refine lv_iload_n hx hb dX9_isOfSides_46 rfl (lv_at hl 3 rfl) ?_
      refine lv_iadd hx hb dX9_isOfSides_47 ?_
      obtain ⟨hg2, h⟩ := gd_some h
      refine gx_zald (f := (σ.2.2.1 54)) hx hb hK hG (ga_54 g _) hg2 dX9_isOfSides_48 ?_
      refine lv_if_eq (tgt := 110) hx hb dX9_isOfSides_49 (by decide) (fun c3 => ?_) (fun c3 => ?_)
      · have h := ite_t c3 h
        exact n110 k18 hk18 x1 x2 x3 v_far v_heaps v_isMeasured v_wayOf _ _ _ (lv_sub hl [0, 1, 2, 3] rfl) hG h
      · have h := ite_f c3 h
        refine lv_aload_n hx hb dX9_isOfSides_52 rfl (lv_at hl 0 rfl) ?_
        refine gx_get (v := .ref (g.2.1 59)) (C := RX9) (T := TX9) (N := 44) hx hb hts hinX9 hown hK hG (ga_50 g _) rfl 13 (by decide) hw2 rfl rfl dX9_isOfSides_53 ?_
        refine lv_bipush (v := (32 : Int32)) hx hb dX9_isOfSides_56 (by decide) ?_
        refine lv_iload hx hb dX9_isOfSides_58 (lv_at hl 4 rfl) ?_
        refine lv_imul hx hb dX9_isOfSides_60 ?_
        refine lv_iload_n hx hb dX9_isOfSides_61 rfl (lv_at hl 2 rfl) ?_
        refine lv_iadd hx hb dX9_isOfSides_62 ?_
        obtain ⟨hg4, h⟩ := gd_some h
        refine gx_iald (f := v_wayOf) hx hb hK hG (ga_59 g _) hg4 dX9_isOfSides_63 ?_
        refine lv_istore (lv' := [(5, .int (v_wayOf ((((32 : Int32) * x4) + x2).toNatClampNeg))), (0, .ref (g.2.1 50)), (1, .int x1), (2, .int x2), (3, .int x3), (4, .int x4)]) hx hb dX9_isOfSides_64 hl (Nat.le_of_ble_eq_true rfl) rfl (fun ls hl => ?_)
        refine lv_iload_n hx hb dX9_isOfSides_66 rfl (lv_at hl 2 rfl) ?_
        refine lv_if_eq (tgt := 102) hx hb dX9_isOfSides_67 (by decide) (fun c5 => ?_) (fun c5 => ?_)
        · have h := ite_t c5 h
          exact n102 k29 hk29 x2 x3 x4 v_far v_heaps v_isMeasured v_wayOf _ _ _ (lv_sub hl [1, 3, 4, 5] rfl) hG h
        · have h := ite_f c5 h
          refine lv_iload hx hb dX9_isOfSides_70 (lv_at hl 0 rfl) ?_
          refine lv_bipush (v := (99 : Int32)) hx hb dX9_isOfSides_72 (by decide) ?_
          refine lv_icmp_eq (tgt := 98) hx hb dX9_isOfSides_74 (by decide) (fun c6 => ?_) (fun c6 => ?_)
          · have h := ite_t c6 h
            exact n98 k29 hk29 x2 x3 x4 v_far v_heaps v_isMeasured v_wayOf _ _ _ (lv_sub hl [1, 3, 4, 5] rfl) hG h
          · have h := ite_f c6 h
            refine lv_iload hx hb dX9_isOfSides_77 (lv_at hl 0 rfl) ?_
            refine lv_iconst (v := (2 : Int32)) hx hb dX9_isOfSides_79 (by decide) ?_
            refine lv_irem hx hb dX9_isOfSides_80 (by decide) ?_
            refine lv_aload_n hx hb dX9_isOfSides_81 rfl (lv_at hl 1 rfl) ?_
            refine gx_get (v := .ref (g.2.1 59)) (C := RX9) (T := TX9) (N := 44) hx hb hts hinX9 hown hK hG (ga_50 g _) rfl 13 (by decide) hw2 rfl rfl dX9_isOfSides_82 ?_
            refine lv_bipush (v := (32 : Int32)) hx hb dX9_isOfSides_85 (by decide) ?_
            refine lv_iload hx hb dX9_isOfSides_87 (lv_at hl 5 rfl) ?_
            refine lv_imul hx hb dX9_isOfSides_89 ?_
            refine lv_iload_n hx hb dX9_isOfSides_90 rfl (lv_at hl 4 rfl) ?_
            refine lv_iadd hx hb dX9_isOfSides_91 ?_
            obtain ⟨hg7, h⟩ := gd_some h
            refine gx_iald (f := v_wayOf) hx hb hK hG (ga_59 g _) hg7 dX9_isOfSides_92 ?_
            refine lv_iconst (v := (2 : Int32)) hx hb dX9_isOfSides_93 (by decide) ?_
            refine lv_irem hx hb dX9_isOfSides_94 (by decide) ?_
            refine lv_icmp_eq (tgt := 102) hx hb dX9_isOfSides_95 (by decide) (fun c8 => ?_) (fun c8 => ?_)
            · have h := ite_t c8 h
              exact n102 k29 hk29 x2 x3 x4 v_far v_heaps v_isMeasured v_wayOf _ _ _ (lv_sub hl [1, 3, 4, 5] rfl) hG h
            · have h := ite_f c8 h
              exact n98 k29 hk29 x2 x3 x4 v_far v_heaps v_isMeasured v_wayOf _ _ _ (lv_sub hl [1, 3, 4, 5] rfl) hG h
  have l29 : ∀ (k18 : Int32 → Int32 → Int32 → Int32 → Int32 → Int32 → (Nat → Int32) → Option (Int32 × Int32 × Int32 × Int32 × (Nat → Int32))) (hk18 : ∀ (x1 : Int32) (x2 : Int32) (x3 : Int32) (v_far : Int32) (v_heaps : Int32) (v_isMeasured : Int32) (v_wayOf : Nat → Int32) (H : Heap) (locs : List Loc) (ls : Array Slot), lv_has ls 6 [(0, .ref (g.2.1 50)), (1, .int x1), (2, .int x2), (3, .int x3)] → GW g s (mkS σ [(3214, v_far), (3215, v_heaps), (3212, v_isMeasured)] [] [(59, v_wayOf)] []) H locs → k18 x1 x2 x3 v_far v_heaps v_isMeasured v_wayOf = some (r, w_far, w_heaps, w_isMeasured, w_wayOf) → Wg p l e 2 47 s m args below meth c g (some (.int r)) (mkS σ [(3214, w_far), (3215, w_heaps), (3212, w_isMeasured)] [] [(59, w_wayOf)] []) H locs (F0 m 18 ls [])) (F : Nat) (x1 : Int32) (x2 : Int32) (x3 : Int32) (x4 : Int32) (v_far : Int32) (v_heaps : Int32) (v_isMeasured : Int32) (v_wayOf : Nat → Int32) (H : Heap) (locs : List Loc) (ls : Array Slot), lv_has ls 6 [(0, .ref (g.2.1 50)), (1, .int x1), (2, .int x2), (3, .int x3), (4, .int x4)] → GW g s (mkS σ [(3214, v_far), (3215, v_heaps), (3212, v_isMeasured)] [] [(59, v_wayOf)] []) H locs → M_isOfSides_l29 k18 (σ.1 3203) (σ.2.2.1 54) F x1 x2 x3 x4 v_far v_heaps v_isMeasured v_wayOf = some (r, w_far, w_heaps, w_isMeasured, w_wayOf) → Wg p l e 2 47 s m args below meth c g (some (.int r)) (mkS σ [(3214, w_far), (3215, w_heaps), (3212, w_isMeasured)] [] [(59, w_wayOf)] []) H locs (F0 m 29 ls []) := by
    intro k18 hk18 F
    induction F with
    | zero => intro x1 x2 x3 x4 v_far v_heaps v_isMeasured v_wayOf H locs ls hl hG h; exact no_some h
    | succ F ih => intro x1 x2 x3 x4 v_far v_heaps v_isMeasured v_wayOf H locs ls hl hG h; exact n29 k18 hk18 (fun x1 x2 x3 x4 v_far v_heaps v_isMeasured v_wayOf => M_isOfSides_l29 k18 (σ.1 3203) (σ.2.2.1 54) F x1 x2 x3 x4 v_far v_heaps v_isMeasured v_wayOf) ih x1 x2 x3 x4 v_far v_heaps v_isMeasured v_wayOf H locs ls hl hG h
  have n116 : ∀ (k8 : Int32 → Int32 → Int32 → Int32 → Int32 → (Nat → Int32) → Option (Int32 × Int32 × Int32 × Int32 × (Nat → Int32))) (hk8 : ∀ (x1 : Int32) (x2 : Int32) (v_far : Int32) (v_heaps : Int32) (v_isMeasured : Int32) (v_wayOf : Nat → Int32) (H : Heap) (locs : List Loc) (ls : Array Slot), lv_has ls 6 [(0, .ref (g.2.1 50)), (1, .int x1), (2, .int x2)] → GW g s (mkS σ [(3214, v_far), (3215, v_heaps), (3212, v_isMeasured)] [] [(59, v_wayOf)] []) H locs → k8 x1 x2 v_far v_heaps v_isMeasured v_wayOf = some (r, w_far, w_heaps, w_isMeasured, w_wayOf) → Wg p l e 2 47 s m args below meth c g (some (.int r)) (mkS σ [(3214, w_far), (3215, w_heaps), (3212, w_isMeasured)] [] [(59, w_wayOf)] []) H locs (F0 m 8 ls [])) (x1 : Int32) (x2 : Int32) (v_far : Int32) (v_heaps : Int32) (v_isMeasured : Int32) (v_wayOf : Nat → Int32) (H : Heap) (locs : List Loc) (ls : Array Slot), lv_has ls 6 [(0, .ref (g.2.1 50)), (1, .int x1), (2, .int x2)] → GW g s (mkS σ [(3214, v_far), (3215, v_heaps), (3212, v_isMeasured)] [] [(59, v_wayOf)] []) H locs → M_isOfSides_n116 k8 x1 x2 v_far v_heaps v_isMeasured v_wayOf = some (r, w_far, w_heaps, w_isMeasured, w_wayOf) → Wg p l e 2 47 s m args below meth c g (some (.int r)) (mkS σ [(3214, w_far), (3215, w_heaps), (3212, w_isMeasured)] [] [(59, w_wayOf)] []) H locs (F0 m 116 ls []) := by
    intro k8 hk8 x1 x2 v_far v_heaps v_isMeasured v_wayOf H locs ls hl hG h
    unfold M_isOfSides_n116 at h
    refine lv_iinc (v := (x2 + (1 : Int32))) (lv' := [(2, .int (x2 + (1 : Int32))), (0, .ref (g.2.1 50)), (1, .int x1)]) hx hb dX9_isOfSides_116 hl (k := 2) rfl (congrArg (fun z => x2 + z) (by decide)) (Nat.le_of_ble_eq_true rfl) rfl (fun ls hl => ?_)
    refine lv_goto (tgt := 8) hx hb dX9_isOfSides_119 (by decide) ?_
    exact hk8 x1 (x2 + (1 : Int32)) v_far v_heaps v_isMeasured v_wayOf _ _ _ (lv_sub hl [1, 2, 0] rfl) hG h
  have n18 : ∀ (k8 : Int32 → Int32 → Int32 → Int32 → Int32 → (Nat → Int32) → Option (Int32 × Int32 × Int32 × Int32 × (Nat → Int32))) (hk8 : ∀ (x1 : Int32) (x2 : Int32) (v_far : Int32) (v_heaps : Int32) (v_isMeasured : Int32) (v_wayOf : Nat → Int32) (H : Heap) (locs : List Loc) (ls : Array Slot), lv_has ls 6 [(0, .ref (g.2.1 50)), (1, .int x1), (2, .int x2)] → GW g s (mkS σ [(3214, v_far), (3215, v_heaps), (3212, v_isMeasured)] [] [(59, v_wayOf)] []) H locs → k8 x1 x2 v_far v_heaps v_isMeasured v_wayOf = some (r, w_far, w_heaps, w_isMeasured, w_wayOf) → Wg p l e 2 47 s m args below meth c g (some (.int r)) (mkS σ [(3214, w_far), (3215, w_heaps), (3212, w_isMeasured)] [] [(59, w_wayOf)] []) H locs (F0 m 8 ls [])) (k18 : Int32 → Int32 → Int32 → Int32 → Int32 → Int32 → (Nat → Int32) → Option (Int32 × Int32 × Int32 × Int32 × (Nat → Int32))) (hk18 : ∀ (x1 : Int32) (x2 : Int32) (x3 : Int32) (v_far : Int32) (v_heaps : Int32) (v_isMeasured : Int32) (v_wayOf : Nat → Int32) (H : Heap) (locs : List Loc) (ls : Array Slot), lv_has ls 6 [(0, .ref (g.2.1 50)), (1, .int x1), (2, .int x2), (3, .int x3)] → GW g s (mkS σ [(3214, v_far), (3215, v_heaps), (3212, v_isMeasured)] [] [(59, v_wayOf)] []) H locs → k18 x1 x2 x3 v_far v_heaps v_isMeasured v_wayOf = some (r, w_far, w_heaps, w_isMeasured, w_wayOf) → Wg p l e 2 47 s m args below meth c g (some (.int r)) (mkS σ [(3214, w_far), (3215, w_heaps), (3212, w_isMeasured)] [] [(59, w_wayOf)] []) H locs (F0 m 18 ls [])) (x1 : Int32) (x2 : Int32) (x3 : Int32) (v_far : Int32) (v_heaps : Int32) (v_isMeasured : Int32) (v_wayOf : Nat → Int32) (H : Heap) (locs : List Loc) (ls : Array Slot), lv_has ls 6 [(0, .ref (g.2.1 50)), (1, .int x1), (2, .int x2), (3, .int x3)] → GW g s (mkS σ [(3214, v_far), (3215, v_heaps), (3212, v_isMeasured)] [] [(59, v_wayOf)] []) H locs → M_isOfSides_n18 k8 k18 (σ.1 3203) (σ.2.2.1 54) x1 x2 x3 v_far v_heaps v_isMeasured v_wayOf = some (r, w_far, w_heaps, w_isMeasured, w_wayOf) → Wg p l e 2 47 s m args below meth c g (some (.int r)) (mkS σ [(3214, w_far), (3215, w_heaps), (3212, w_isMeasured)] [] [(59, w_wayOf)] []) H locs (F0 m 18 ls []) := by
    intro k8 hk8 k18 hk18 x1 x2 x3 v_far v_heaps v_isMeasured v_wayOf H locs ls hl hG h
    unfold M_isOfSides_n18 at h
    refine lv_iload_n hx hb dX9_isOfSides_18 rfl (lv_at hl 3 rfl) ?_
    refine lv_aload_n hx hb dX9_isOfSides_19 rfl (lv_at hl 0 rfl) ?_
    refine gx_get (v := .int (σ.1 3203)) (C := RX9) (T := TX9) (N := 44) hx hb hts hinX9 hown hK hG (ga_50 g _) rfl 3 (by decide) hw0 rfl rfl dX9_isOfSides_20 ?_
    refine lv_icmp_ge (tgt := 116) hx hb dX9_isOfSides_23 (by decide) (fun c9 => ?_) (fun c9 => ?_)
    · have h := ite_t c9 h
      exact n116 k8 hk8 x1 x2 v_far v_heaps v_isMeasured v_wayOf _ _ _ (lv_sub hl [0, 1, 2] rfl) hG h
    · have h := ite_f c9 h
      refine lv_iconst (v := (0 : Int32)) hx hb dX9_isOfSides_26 (by decide) ?_
      refine lv_istore (lv' := [(4, .int (0 : Int32)), (0, .ref (g.2.1 50)), (1, .int x1), (2, .int x2), (3, .int x3)]) hx hb dX9_isOfSides_27 hl (Nat.le_of_ble_eq_true rfl) rfl (fun ls hl => ?_)
      exact l29 k18 hk18 FUEL x1 x2 x3 (0 : Int32) v_far v_heaps v_isMeasured v_wayOf _ _ _ (lv_sub hl [1, 2, 3, 4, 0] rfl) hG h
  have l18 : ∀ (k8 : Int32 → Int32 → Int32 → Int32 → Int32 → (Nat → Int32) → Option (Int32 × Int32 × Int32 × Int32 × (Nat → Int32))) (hk8 : ∀ (x1 : Int32) (x2 : Int32) (v_far : Int32) (v_heaps : Int32) (v_isMeasured : Int32) (v_wayOf : Nat → Int32) (H : Heap) (locs : List Loc) (ls : Array Slot), lv_has ls 6 [(0, .ref (g.2.1 50)), (1, .int x1), (2, .int x2)] → GW g s (mkS σ [(3214, v_far), (3215, v_heaps), (3212, v_isMeasured)] [] [(59, v_wayOf)] []) H locs → k8 x1 x2 v_far v_heaps v_isMeasured v_wayOf = some (r, w_far, w_heaps, w_isMeasured, w_wayOf) → Wg p l e 2 47 s m args below meth c g (some (.int r)) (mkS σ [(3214, w_far), (3215, w_heaps), (3212, w_isMeasured)] [] [(59, w_wayOf)] []) H locs (F0 m 8 ls [])) (F : Nat) (x1 : Int32) (x2 : Int32) (x3 : Int32) (v_far : Int32) (v_heaps : Int32) (v_isMeasured : Int32) (v_wayOf : Nat → Int32) (H : Heap) (locs : List Loc) (ls : Array Slot), lv_has ls 6 [(0, .ref (g.2.1 50)), (1, .int x1), (2, .int x2), (3, .int x3)] → GW g s (mkS σ [(3214, v_far), (3215, v_heaps), (3212, v_isMeasured)] [] [(59, v_wayOf)] []) H locs → M_isOfSides_l18 k8 (σ.1 3203) (σ.2.2.1 54) F x1 x2 x3 v_far v_heaps v_isMeasured v_wayOf = some (r, w_far, w_heaps, w_isMeasured, w_wayOf) → Wg p l e 2 47 s m args below meth c g (some (.int r)) (mkS σ [(3214, w_far), (3215, w_heaps), (3212, w_isMeasured)] [] [(59, w_wayOf)] []) H locs (F0 m 18 ls []) := by
    intro k8 hk8 F
    induction F with
    | zero => intro x1 x2 x3 v_far v_heaps v_isMeasured v_wayOf H locs ls hl hG h; exact no_some h
    | succ F ih => intro x1 x2 x3 v_far v_heaps v_isMeasured v_wayOf H locs ls hl hG h; exact n18 k8 hk8 (fun x1 x2 x3 v_far v_heaps v_isMeasured v_wayOf => M_isOfSides_l18 k8 (σ.1 3203) (σ.2.2.1 54) F x1 x2 x3 v_far v_heaps v_isMeasured v_wayOf) ih x1 x2 x3 v_far v_heaps v_isMeasured v_wayOf H locs ls hl hG h
  have n122 : ∀ (x1 : Int32) (v_far : Int32) (v_heaps : Int32) (v_isMeasured : Int32) (v_wayOf : Nat → Int32) (H : Heap) (locs : List Loc) (ls : Array Slot), lv_has ls 6 [(1, .int x1)] → GW g s (mkS σ [(3214, v_far), (3215, v_heaps), (3212, v_isMeasured)] [] [(59, v_wayOf)] []) H locs → M_isOfSides_n122 x1 v_far v_heaps v_isMeasured v_wayOf = some (r, w_far, w_heaps, w_isMeasured, w_wayOf) → Wg p l e 2 47 s m args below meth c g (some (.int r)) (mkS σ [(3214, w_far), (3215, w_heaps), (3212, w_isMeasured)] [] [(59, w_wayOf)] []) H locs (F0 m 122 ls []) := by
    intro x1 v_far v_heaps v_isMeasured v_wayOf H locs ls hl hG h
    unfold M_isOfSides_n122 at h
    refine lv_iload_n hx hb dX9_isOfSides_122 rfl (lv_at hl 0 rfl) ?_
    obtain ⟨hg10, h⟩ := gd_some h
    cases h
    exact gx_zret hx hb hr hlocks hg10 hG dX9_isOfSides_123
  have n8 : ∀ (k8 : Int32 → Int32 → Int32 → Int32 → Int32 → (Nat → Int32) → Option (Int32 × Int32 × Int32 × Int32 × (Nat → Int32))) (hk8 : ∀ (x1 : Int32) (x2 : Int32) (v_far : Int32) (v_heaps : Int32) (v_isMeasured : Int32) (v_wayOf : Nat → Int32) (H : Heap) (locs : List Loc) (ls : Array Slot), lv_has ls 6 [(0, .ref (g.2.1 50)), (1, .int x1), (2, .int x2)] → GW g s (mkS σ [(3214, v_far), (3215, v_heaps), (3212, v_isMeasured)] [] [(59, v_wayOf)] []) H locs → k8 x1 x2 v_far v_heaps v_isMeasured v_wayOf = some (r, w_far, w_heaps, w_isMeasured, w_wayOf) → Wg p l e 2 47 s m args below meth c g (some (.int r)) (mkS σ [(3214, w_far), (3215, w_heaps), (3212, w_isMeasured)] [] [(59, w_wayOf)] []) H locs (F0 m 8 ls [])) (x1 : Int32) (x2 : Int32) (v_far : Int32) (v_heaps : Int32) (v_isMeasured : Int32) (v_wayOf : Nat → Int32) (H : Heap) (locs : List Loc) (ls : Array Slot), lv_has ls 6 [(0, .ref (g.2.1 50)), (1, .int x1), (2, .int x2)] → GW g s (mkS σ [(3214, v_far), (3215, v_heaps), (3212, v_isMeasured)] [] [(59, v_wayOf)] []) H locs → M_isOfSides_n8 k8 (σ.1 3203) (σ.2.2.1 54) x1 x2 v_far v_heaps v_isMeasured v_wayOf = some (r, w_far, w_heaps, w_isMeasured, w_wayOf) → Wg p l e 2 47 s m args below meth c g (some (.int r)) (mkS σ [(3214, w_far), (3215, w_heaps), (3212, w_isMeasured)] [] [(59, w_wayOf)] []) H locs (F0 m 8 ls []) := by
    intro k8 hk8 x1 x2 v_far v_heaps v_isMeasured v_wayOf H locs ls hl hG h
    unfold M_isOfSides_n8 at h
    refine lv_iload_n hx hb dX9_isOfSides_8 rfl (lv_at hl 2 rfl) ?_
    refine lv_aload_n hx hb dX9_isOfSides_9 rfl (lv_at hl 0 rfl) ?_
    refine gx_get (v := .int (σ.1 3203)) (C := RX9) (T := TX9) (N := 44) hx hb hts hinX9 hown hK hG (ga_50 g _) rfl 3 (by decide) hw0 rfl rfl dX9_isOfSides_10 ?_
    refine lv_icmp_ge (tgt := 122) hx hb dX9_isOfSides_13 (by decide) (fun c11 => ?_) (fun c11 => ?_)
    · have h := ite_t c11 h
      exact n122 x1 v_far v_heaps v_isMeasured v_wayOf _ _ _ (lv_sub hl [1] rfl) hG h
    · have h := ite_f c11 h
      refine lv_iconst (v := (0 : Int32)) hx hb dX9_isOfSides_16 (by decide) ?_
      refine lv_istore_n (lv' := [(3, .int (0 : Int32)), (0, .ref (g.2.1 50)), (1, .int x1), (2, .int x2)]) hx hb dX9_isOfSides_17 rfl hl (Nat.le_of_ble_eq_true rfl) rfl (fun ls hl => ?_)
      exact l18 k8 hk8 FUEL x1 x2 (0 : Int32) v_far v_heaps v_isMeasured v_wayOf _ _ _ (lv_sub hl [1, 2, 3, 0] rfl) hG h
  have l8 : ∀  (F : Nat) (x1 : Int32) (x2 : Int32) (v_far : Int32) (v_heaps : Int32) (v_isMeasured : Int32) (v_wayOf : Nat → Int32) (H : Heap) (locs : List Loc) (ls : Array Slot), lv_has ls 6 [(0, .ref (g.2.1 50)), (1, .int x1), (2, .int x2)] → GW g s (mkS σ [(3214, v_far), (3215, v_heaps), (3212, v_isMeasured)] [] [(59, v_wayOf)] []) H locs → M_isOfSides_l8 (σ.1 3203) (σ.2.2.1 54) F x1 x2 v_far v_heaps v_isMeasured v_wayOf = some (r, w_far, w_heaps, w_isMeasured, w_wayOf) → Wg p l e 2 47 s m args below meth c g (some (.int r)) (mkS σ [(3214, w_far), (3215, w_heaps), (3212, w_isMeasured)] [] [(59, w_wayOf)] []) H locs (F0 m 8 ls []) := by
    intro F
    induction F with
    | zero => intro x1 x2 v_far v_heaps v_isMeasured v_wayOf H locs ls hl hG h; exact no_some h
    | succ F ih => intro x1 x2 v_far v_heaps v_isMeasured v_wayOf H locs ls hl hG h; exact n8 (fun x1 x2 v_far v_heaps v_isMeasured v_wayOf => M_isOfSides_l8 (σ.1 3203) (σ.2.2.1 54) F x1 x2 v_far v_heaps v_isMeasured v_wayOf) ih x1 x2 v_far v_heaps v_isMeasured v_wayOf H locs ls hl hG h
  refine lv_aload_n hx hb dX9_isOfSides_0 rfl (lv_at hl 0 rfl) ?_
  obtain ⟨z12, hc13, h⟩ := bnd_some h
  refine gx_cV (σ' := (mkS σ [(3214, z12.1), (3215, z12.2.1), (3212, z12.2.2.1)] [] [(59, z12.2.2.2)] [])) (r := none) (rest := []) (As := []) hS9 (c_M_measure l g (mkS σ [(3214, (σ.1 3214)), (3215, (σ.1 3215)), (3212, (σ.1 3212))] [] [(59, (σ.2.2.1 59))] []) z12.1 z12.2.1 z12.2.2.1 z12.2.2.2 hc13) (mk_mk rfl rfl rfl rfl) (cwV 0 hts gX9_isOfSides_X9_measure rfl rfl rfl (by decide +kernel) ⟨Nat.le_of_ble_eq_true rfl, Nat.le_of_ble_eq_true rfl⟩) hK hG (ga_50 g _) rfl rfl rfl hl.1 rfl (Nat.le_of_ble_eq_true rfl) dX9_isOfSides_1 (fun H locs hG => ?_)
  refine W.eq (g2 := F0 m 4 ls []) rfl ?_
  refine lv_iconst (v := (1 : Int32)) hx hb dX9_isOfSides_4 (by decide) ?_
  refine lv_istore_n (lv' := [(1, .int (1 : Int32)), (0, .ref (g.2.1 50))]) hx hb dX9_isOfSides_5 rfl hl (Nat.le_of_ble_eq_true rfl) rfl (fun ls hl => ?_)
  refine lv_iconst (v := (0 : Int32)) hx hb dX9_isOfSides_6 (by decide) ?_
  refine lv_istore_n (lv' := [(2, .int (0 : Int32)), (1, .int (1 : Int32)), (0, .ref (g.2.1 50))]) hx hb dX9_isOfSides_7 rfl hl (Nat.le_of_ble_eq_true rfl) rfl (fun ls hl => ?_)
  exact l8 FUEL (1 : Int32) (0 : Int32) z12.1 z12.2.1 z12.2.2.1 z12.2.2.2 _ _ _ (lv_sub hl [2, 1, 0] rfl) hG h

set_option maxHeartbeats 4000000 in
set_option maxRecDepth 100000 in
theorem c_M_half (l : Launch) (g : GC) (σ : St) (r : Int32) (w_areKindsFound : Int32) (w_far : Int32) (w_heaps : Int32) (w_isMeasured : Int32) (w_posts : Int32) (w_newRoad : Nat → Int32) (w_numberOf : Nat → Int32) (w_road : Nat → Int32) (w_wayOf : Nat → Int32) (h : M_half (σ.1 3238) (σ.1 3214) (σ.1 3215) (σ.1 3212) (σ.1 3203) (σ.2.2.1 70) (σ.2.2.1 71) (σ.2.2.1 54) (σ.2.2.1 59) = some (r, w_areKindsFound, w_far, w_heaps, w_isMeasured, w_posts, w_newRoad, w_numberOf, w_road, w_wayOf)) : Cn l g yX9_half wsX9_half 3 72 [.ref (g.2.1 50)] σ (some (.int r)) (mkS σ [(3238, w_areKindsFound), (3214, w_far), (3215, w_heaps), (3212, w_isMeasured), (3203, w_posts)] [] [(70, w_newRoad), (71, w_numberOf), (54, w_road), (59, w_wayOf)] []) := by
  unfold Cn
  refine Met.ofW (cc := cX9_half) (maxL := 4) (ret := (some .int)) (by decide) rfl ?_
  intro p e s m args below meth c s₁ B hml hv
  obtain ⟨hargs, hP0, hK⟩ := hv
  have hx := B.exec
  have hb := B.bytes
  have hr := B.returns
  have hts := atoms_spec (ws := wsX9_half) B.pre
  have hown : s.vm.findClass RX9 = some m.cls := findClass_of_methodNamed B.named
  have hlocks := B.notSynchronized
  have hS9 : CallFix p m c cX9_half 4 s args wsX9_half RX9 := ⟨hx, hb, hml, hown, hts⟩
  have hinX9 : ∀ w ∈ wsX90, w ∈ wsX9_half := fun w h => List.mem_cons_of_mem _ (List.mem_append_right _ (h))
  have hw0 := hts (.fieldLink RX9 39 "LikeNetsModel" "wayOf" "[I") (List.mem_of_getElem? (i := 3) rfl)
  have hw1 := hts (.fieldLink RX9 116 "LikeNetsModel" "posts" "I") (List.mem_of_getElem? (i := 1) rfl)
  have hw2 := hts (.fieldLink RX9 76 "LikeNetsModel" "numberOf" "[I") (List.mem_of_getElem? (i := 2) rfl)
  have hw3 := hts (.fieldLink RX9 73 "LikeNetsModel" "newRoad" "[Z") (List.mem_of_getElem? (i := 4) rfl)
  have hf9 : entryFrame m args 4 = _ := (congrArg (fun a => entryFrame m a 4) hargs).trans (lg_entry_eq m [.ref (g.2.1 50)] 4)
  show Wg p l e 3 72 s m args below meth c g (some (.int r)) (mkS σ [(3238, w_areKindsFound), (3214, w_far), (3215, w_heaps), (3212, w_isMeasured), (3203, w_posts)] [] [(70, w_newRoad), (71, w_numberOf), (54, w_road), (59, w_wayOf)] []) s.heap [] (entryFrame m args 4)
  rw [hf9]
  have hl := lv_entry ([.ref (g.2.1 50)]) (n := 4) (Nat.le_of_ble_eq_true rfl)
  generalize (lg_sl ([.ref (g.2.1 50)]) ++ List.replicate (4 - (lg_sl ([.ref (g.2.1 50)])).length) Slot.unset).toArray = ls at hl ⊢
  have hl : lv_has ls 4 [(0, .ref (g.2.1 50))] := hl
  have hG : GW g s σ s.heap [] := ⟨hP0, va_S.rf⟩
  have hG : GW g s (mkS σ [(3238, (σ.1 3238)), (3214, (σ.1 3214)), (3215, (σ.1 3215)), (3212, (σ.1 3212)), (3203, (σ.1 3203))] [] [(70, (σ.2.2.1 70)), (71, (σ.2.2.1 71)), (54, (σ.2.2.1 54)), (59, (σ.2.2.1 59))] []) s.heap [] := GW_self [3238, 3214, 3215, 3212, 3203] [] [70, 71, 54, 59] [] hG
  unfold M_half at h
  have n14 : ∀ (v_areKindsFound : Int32) (v_far : Int32) (v_heaps : Int32) (v_isMeasured : Int32) (v_posts : Int32) (v_newRoad : Nat → Int32) (v_numberOf : Nat → Int32) (v_road : Nat → Int32) (v_wayOf : Nat → Int32) (H : Heap) (locs : List Loc) (ls : Array Slot), lv_has ls 4 [] → GW g s (mkS σ [(3238, v_areKindsFound), (3214, v_far), (3215, v_heaps), (3212, v_isMeasured), (3203, v_posts)] [] [(70, v_newRoad), (71, v_numberOf), (54, v_road), (59, v_wayOf)] []) H locs → M_half_n14 v_areKindsFound v_far v_heaps v_isMeasured v_posts v_newRoad v_numberOf v_road v_wayOf = some (r, w_areKindsFound, w_far, w_heaps, w_isMeasured, w_posts, w_newRoad, w_numberOf, w_road, w_wayOf) → Wg p l e 3 72 s m args below meth c g (some (.int r)) (mkS σ [(3238, w_areKindsFound), (3214, w_far), (3215, w_heaps), (3212, w_isMeasured), (3203, w_posts)] [] [(70, w_newRoad), (71, w_numberOf), (54, w_road), (59, w_wayOf)] []) H locs (F0 m 14 ls []) := by
    intro v_areKindsFound v_far v_heaps v_isMeasured v_posts v_newRoad v_numberOf v_road v_wayOf H locs ls hl hG h
    unfold M_half_n14 at h
    refine lv_bipush (v := (-5 : Int32)) hx hb dX9_half_14 (by decide) ?_
    cases h
    exact gx_iret hx hb hr hlocks hG dX9_half_16
  have n68 : ∀ (k21 : Int32 → Int32 → Int32 → Int32 → Int32 → Int32 → Int32 → (Nat → Int32) → (Nat → Int32) → (Nat → Int32) → (Nat → Int32) → Option (Int32 × Int32 × Int32 × Int32 × Int32 × Int32 × (Nat → Int32) × (Nat → Int32) × (Nat → Int32) × (Nat → Int32))) (hk21 : ∀ (x1 : Int32) (x2 : Int32) (v_areKindsFound : Int32) (v_far : Int32) (v_heaps : Int32) (v_isMeasured : Int32) (v_posts : Int32) (v_newRoad : Nat → Int32) (v_numberOf : Nat → Int32) (v_road : Nat → Int32) (v_wayOf : Nat → Int32) (H : Heap) (locs : List Loc) (ls : Array Slot), lv_has ls 4 [(0, .ref (g.2.1 50)), (1, .int x1), (2, .int x2)] → GW g s (mkS σ [(3238, v_areKindsFound), (3214, v_far), (3215, v_heaps), (3212, v_isMeasured), (3203, v_posts)] [] [(70, v_newRoad), (71, v_numberOf), (54, v_road), (59, v_wayOf)] []) H locs → k21 x1 x2 v_areKindsFound v_far v_heaps v_isMeasured v_posts v_newRoad v_numberOf v_road v_wayOf = some (r, w_areKindsFound, w_far, w_heaps, w_isMeasured, w_posts, w_newRoad, w_numberOf, w_road, w_wayOf) → Wg p l e 3 72 s m args below meth c g (some (.int r)) (mkS σ [(3238, w_areKindsFound), (3214, w_far), (3215, w_heaps), (3212, w_isMeasured), (3203, w_posts)] [] [(70, w_newRoad), (71, w_numberOf), (54, w_road), (59, w_wayOf)] []) H locs (F0 m 21 ls [])) (x2 : Int32) (t0 : Int32) (t1 : Int32) (v_areKindsFound : Int32) (v_far : Int32) (v_heaps : Int32) (v_isMeasured : Int32) (v_posts : Int32) (v_newRoad : Nat → Int32) (v_numberOf : Nat → Int32) (v_road : Nat → Int32) (v_wayOf : Nat → Int32) (H : Heap) (locs : List Loc) (ls : Array Slot), lv_has ls 4 [(0, .ref (g.2.1 50)), (2, .int x2)] → GW g s (mkS σ [(3238, v_areKindsFound), (3214, v_far), (3215, v_heaps), (3212, v_isMeasured), (3203, v_posts)] [] [(70, v_newRoad), (71, v_numberOf), (54, v_road), (59, v_wayOf)] []) H locs → M_half_n68 k21 x2 t0 t1 v_areKindsFound v_far v_heaps v_isMeasured v_posts v_newRoad v_numberOf v_road v_wayOf = some (r, w_areKindsFound, w_far, w_heaps, w_isMeasured, w_posts, w_newRoad, w_numberOf, w_road, w_wayOf) → Wg p l e 3 72 s m args below meth c g (some (.int r)) (mkS σ [(3238, w_areKindsFound), (3214, w_far), (3215, w_heaps), (3212, w_isMeasured), (3203, w_posts)] [] [(70, w_newRoad), (71, w_numberOf), (54, w_road), (59, w_wayOf)] []) H locs (F0 m 68 ls [.int t1, .int t0]) := by
    intro k21 hk21 x2 t0 t1 v_areKindsFound v_far v_heaps v_isMeasured v_posts v_newRoad v_numberOf v_road v_wayOf H locs ls hl hG h
    unfold M_half_n68 at h
    refine lv_iadd hx hb dX9_half_68 ?_
    refine lv_istore_n (lv' := [(1, .int (t0 + t1)), (0, .ref (g.2.1 50)), (2, .int x2)]) hx hb dX9_half_69 rfl hl (Nat.le_of_ble_eq_true rfl) rfl (fun ls hl => ?_)
    refine lv_iinc (v := (x2 + (1 : Int32))) (lv' := [(2, .int (x2 + (1 : Int32))), (1, .int (t0 + t1)), (0, .ref (g.2.1 50))]) hx hb dX9_half_70 hl (k := 2) rfl (congrArg (fun z => x2 + z) (by decide)) (Nat.le_of_ble_eq_true rfl) rfl (fun ls hl => ?_)
    refine lv_goto (tgt := 21) hx hb dX9_half_73 (by decide) ?_
    exact hk21 (t0 + t1) (x2 + (1 : Int32)) v_areKindsFound v_far v_heaps v_isMeasured v_posts v_newRoad v_numberOf v_road v_wayOf _ _ _ (lv_sub hl [2, 1, 0] rfl) hG h
  have n50 : ∀ (k21 : Int32 → Int32 → Int32 → Int32 → Int32 → Int32 → Int32 → (Nat → Int32) → (Nat → Int32) → (Nat → Int32) → (Nat → Int32) → Option (Int32 × Int32 × Int32 × Int32 × Int32 × Int32 × (Nat → Int32) × (Nat → Int32) × (Nat → Int32) × (Nat → Int32))) (hk21 : ∀ (x1 : Int32) (x2 : Int32) (v_areKindsFound : Int32) (v_far : Int32) (v_heaps : Int32) (v_isMeasured : Int32) (v_posts : Int32) (v_newRoad : Nat → Int32) (v_numberOf : Nat → Int32) (v_road : Nat → Int32) (v_wayOf : Nat → Int32) (H : Heap) (locs : List Loc) (ls : Array Slot), lv_has ls 4 [(0, .ref (g.2.1 50)), (1, .int x1), (2, .int x2)] → GW g s (mkS σ [(3238, v_areKindsFound), (3214, v_far), (3215, v_heaps), (3212, v_isMeasured), (3203, v_posts)] [] [(70, v_newRoad), (71, v_numberOf), (54, v_road), (59, v_wayOf)] []) H locs → k21 x1 x2 v_areKindsFound v_far v_heaps v_isMeasured v_posts v_newRoad v_numberOf v_road v_wayOf = some (r, w_areKindsFound, w_far, w_heaps, w_isMeasured, w_posts, w_newRoad, w_numberOf, w_road, w_wayOf) → Wg p l e 3 72 s m args below meth c g (some (.int r)) (mkS σ [(3238, w_areKindsFound), (3214, w_far), (3215, w_heaps), (3212, w_isMeasured), (3203, w_posts)] [] [(70, w_newRoad), (71, w_numberOf), (54, w_road), (59, w_wayOf)] []) H locs (F0 m 21 ls [])) (x1 : Int32) (x2 : Int32) (t1 : Int32) (t2 : Int32) (v_areKindsFound : Int32) (v_far : Int32) (v_heaps : Int32) (v_isMeasured : Int32) (v_posts : Int32) (v_newRoad : Nat → Int32) (v_numberOf : Nat → Int32) (v_road : Nat → Int32) (v_wayOf : Nat → Int32) (H : Heap) (locs : List Loc) (ls : Array Slot), lv_has ls 4 [(0, .ref (g.2.1 50)), (1, .int x1), (2, .int x2)] → GW g s (mkS σ [(3238, v_areKindsFound), (3214, v_far), (3215, v_heaps), (3212, v_isMeasured), (3203, v_posts)] [] [(70, v_newRoad), (71, v_numberOf), (54, v_road), (59, v_wayOf)] []) H locs → M_half_n50 k21 x1 x2 t1 t2 v_areKindsFound v_far v_heaps v_isMeasured v_posts v_newRoad v_numberOf v_road v_wayOf = some (r, w_areKindsFound, w_far, w_heaps, w_isMeasured, w_posts, w_newRoad, w_numberOf, w_road, w_wayOf) → Wg p l e 3 72 s m args below meth c g (some (.int r)) (mkS σ [(3238, w_areKindsFound), (3214, w_far), (3215, w_heaps), (3212, w_isMeasured), (3203, w_posts)] [] [(70, w_newRoad), (71, w_numberOf), (54, w_road), (59, w_wayOf)] []) H locs (F0 m 50 ls [.int t2, .int t1, .ref (g.2.1 71)]) := by
    intro k21 hk21 x1 x2 t1 t2 v_areKindsFound v_far v_heaps v_isMeasured v_posts v_newRoad v_numberOf v_road v_wayOf H locs ls hl hG h
    unfold M_half_n50 at h
    obtain ⟨hg1, h⟩ := gd_some h
    refine gx_iast (σ' := (mkS σ [(3238, v_areKindsFound), (3214, v_far), (3215, v_heaps), (3212, v_isMeasured), (3203, v_posts)] [] [(70, v_newRoad), (71, (upd v_numberOf (t1.toNatClampNeg) t2)), (54, v_road), (59, v_wayOf)] [])) (f := v_numberOf) hx hb hK hG (ga_71 g _) hg1 ((gs_71 g _ _).trans (congrArg (g_cells g) (mk_c 1 rfl rfl))) dX9_half_50 (fun H locs hG => ?_)
    refine lv_iload_n hx hb dX9_half_51 rfl (lv_at hl 1 rfl) ?_
    refine lv_aload_n hx hb dX9_half_52 rfl (lv_at hl 0 rfl) ?_
    refine gx_get (v := .ref (g.2.1 59)) (C := RX9) (T := TX9) (N := 44) hx hb hts hinX9 hown hK hG (ga_50 g _) rfl 13 (by decide) hw0 rfl rfl dX9_half_53 ?_
    refine lv_iload_n hx hb dX9_half_56 rfl (lv_at hl 2 rfl) ?_
    obtain ⟨hg2, h⟩ := gd_some h
    refine gx_iald (f := v_wayOf) hx hb hK hG (ga_59 g _) hg2 dX9_half_57 ?_
    refine lv_iconst (v := (2 : Int32)) hx hb dX9_half_58 (by decide) ?_
    refine lv_irem hx hb dX9_half_59 (by decide) ?_
    refine lv_if_ne (tgt := 67) hx hb dX9_half_60 (by decide) (fun c3 => ?_) (fun c3 => ?_)
    · have h := ite_f c3 h
      refine lv_iconst (v := (0 : Int32)) hx hb dX9_half_67 (by decide) ?_
      exact n68 k21 hk21 x2 x1 (0 : Int32) v_areKindsFound v_far v_heaps v_isMeasured v_posts v_newRoad (upd v_numberOf (t1.toNatClampNeg) t2) v_road v_wayOf _ _ _ (lv_sub hl [0, 2] rfl) hG h
    · have h := ite_t c3 h
      refine lv_iconst (v := (1 : Int32)) hx hb dX9_half_63 (by decide) ?_
      refine lv_goto (tgt := 68) hx hb dX9_half_64 (by decide) ?_
      exact n68 k21 hk21 x2 x1 (1 : Int32) v_areKindsFound v_far v_heaps v_isMeasured v_posts v_newRoad (upd v_numberOf (t1.toNatClampNeg) t2) v_road v_wayOf _ _ _ (lv_sub hl [0, 2] rfl) hG h
  have n155 : ∀ (k92 : Int32 → Int32 → Int32 → Int32 → Int32 → Int32 → Int32 → Int32 → (Nat → Int32) → (Nat → Int32) → (Nat → Int32) → (Nat → Int32) → Option (Int32 × Int32 × Int32 × Int32 × Int32 × Int32 × (Nat → Int32) × (Nat → Int32) × (Nat → Int32) × (Nat → Int32))) (hk92 : ∀ (x1 : Int32) (x2 : Int32) (x3 : Int32) (v_areKindsFound : Int32) (v_far : Int32) (v_heaps : Int32) (v_isMeasured : Int32) (v_posts : Int32) (v_newRoad : Nat → Int32) (v_numberOf : Nat → Int32) (v_road : Nat → Int32) (v_wayOf : Nat → Int32) (H : Heap) (locs : List Loc) (ls : Array Slot), lv_has ls 4 [(0, .ref (g.2.1 50)), (1, .int x1), (2, .int x2), (3, .int x3)] → GW g s (mkS σ [(3238, v_areKindsFound), (3214, v_far), (3215, v_heaps), (3212, v_isMeasured), (3203, v_posts)] [] [(70, v_newRoad), (71, v_numberOf), (54, v_road), (59, v_wayOf)] []) H locs → k92 x1 x2 x3 v_areKindsFound v_far v_heaps v_isMeasured v_posts v_newRoad v_numberOf v_road v_wayOf = some (r, w_areKindsFound, w_far, w_heaps, w_isMeasured, w_posts, w_newRoad, w_numberOf, w_road, w_wayOf) → Wg p l e 3 72 s m args below meth c g (some (.int r)) (mkS σ [(3238, w_areKindsFound), (3214, w_far), (3215, w_heaps), (3212, w_isMeasured), (3203, w_posts)] [] [(70, w_newRoad), (71, w_numberOf), (54, w_road), (59, w_wayOf)] []) H locs (F0 m 92 ls [])) (x1 : Int32) (x2 : Int32) (x3 : Int32) (v_areKindsFound : Int32) (v_far : Int32) (v_heaps : Int32) (v_isMeasured : Int32) (v_posts : Int32) (v_newRoad : Nat → Int32) (v_numberOf : Nat → Int32) (v_road : Nat → Int32) (v_wayOf : Nat → Int32) (H : Heap) (locs : List Loc) (ls : Array Slot), lv_has ls 4 [(0, .ref (g.2.1 50)), (1, .int x1), (2, .int x2), (3, .int x3)] → GW g s (mkS σ [(3238, v_areKindsFound), (3214, v_far), (3215, v_heaps), (3212, v_isMeasured), (3203, v_posts)] [] [(70, v_newRoad), (71, v_numberOf), (54, v_road), (59, v_wayOf)] []) H locs → M_half_n155 k92 x1 x2 x3 v_areKindsFound v_far v_heaps v_isMeasured v_posts v_newRoad v_numberOf v_road v_wayOf = some (r, w_areKindsFound, w_far, w_heaps, w_isMeasured, w_posts, w_newRoad, w_numberOf, w_road, w_wayOf) → Wg p l e 3 72 s m args below meth c g (some (.int r)) (mkS σ [(3238, w_areKindsFound), (3214, w_far), (3215, w_heaps), (3212, w_isMeasured), (3203, w_posts)] [] [(70, w_newRoad), (71, w_numberOf), (54, w_road), (59, w_wayOf)] []) H locs (F0 m 155 ls []) := by
    intro k92 hk92 x1 x2 x3 v_areKindsFound v_far v_heaps v_isMeasured v_posts v_newRoad v_numberOf v_road v_wayOf H locs ls hl hG h
    unfold M_half_n155 at h
    refine lv_iinc (v := (x3 + (1 : Int32))) (lv' := [(3, .int (x3 + (1 : Int32))), (0, .ref (g.2.1 50)), (1, .int x1), (2, .int x2)]) hx hb dX9_half_155 hl (k := 3) rfl (congrArg (fun z => x3 + z) (by decide)) (Nat.le_of_ble_eq_true rfl) rfl (fun ls hl => ?_)
    refine lv_goto (tgt := 92) hx hb dX9_half_158 (by decide) ?_
    exact hk92 x1 x2 (x3 + (1 : Int32)) v_areKindsFound v_far v_heaps v_isMeasured v_posts v_newRoad v_numberOf v_road v_wayOf _ _ _ (lv_sub hl [1, 2, 3, 0] rfl) hG h
  have n161 : ∀ (k82 : Int32 → Int32 → Int32 → Int32 → Int32 → Int32 → Int32 → (Nat → Int32) → (Nat → Int32) → (Nat → Int32) → (Nat → Int32) → Option (Int32 × Int32 × Int32 × Int32 × Int32 × Int32 × (Nat → Int32) × (Nat → Int32) × (Nat → Int32) × (Nat → Int32))) (hk82 : ∀ (x1 : Int32) (x2 : Int32) (v_areKindsFound : Int32) (v_far : Int32) (v_heaps : Int32) (v_isMeasured : Int32) (v_posts : Int32) (v_newRoad : Nat → Int32) (v_numberOf : Nat → Int32) (v_road : Nat → Int32) (v_wayOf : Nat → Int32) (H : Heap) (locs : List Loc) (ls : Array Slot), lv_has ls 4 [(0, .ref (g.2.1 50)), (1, .int x1), (2, .int x2)] → GW g s (mkS σ [(3238, v_areKindsFound), (3214, v_far), (3215, v_heaps), (3212, v_isMeasured), (3203, v_posts)] [] [(70, v_newRoad), (71, v_numberOf), (54, v_road), (59, v_wayOf)] []) H locs → k82 x1 x2 v_areKindsFound v_far v_heaps v_isMeasured v_posts v_newRoad v_numberOf v_road v_wayOf = some (r, w_areKindsFound, w_far, w_heaps, w_isMeasured, w_posts, w_newRoad, w_numberOf, w_road, w_wayOf) → Wg p l e 3 72 s m args below meth c g (some (.int r)) (mkS σ [(3238, w_areKindsFound), (3214, w_far), (3215, w_heaps), (3212, w_isMeasured), (3203, w_posts)] [] [(70, w_newRoad), (71, w_numberOf), (54, w_road), (59, w_wayOf)] []) H locs (F0 m 82 ls [])) (x1 : Int32) (x2 : Int32) (v_areKindsFound : Int32) (v_far : Int32) (v_heaps : Int32) (v_isMeasured : Int32) (v_posts : Int32) (v_newRoad : Nat → Int32) (v_numberOf : Nat → Int32) (v_road : Nat → Int32) (v_wayOf : Nat → Int32) (H : Heap) (locs : List Loc) (ls : Array Slot), lv_has ls 4 [(0, .ref (g.2.1 50)), (1, .int x1), (2, .int x2)] → GW g s (mkS σ [(3238, v_areKindsFound), (3214, v_far), (3215, v_heaps), (3212, v_isMeasured), (3203, v_posts)] [] [(70, v_newRoad), (71, v_numberOf), (54, v_road), (59, v_wayOf)] []) H locs → M_half_n161 k82 x1 x2 v_areKindsFound v_far v_heaps v_isMeasured v_posts v_newRoad v_numberOf v_road v_wayOf = some (r, w_areKindsFound, w_far, w_heaps, w_isMeasured, w_posts, w_newRoad, w_numberOf, w_road, w_wayOf) → Wg p l e 3 72 s m args below meth c g (some (.int r)) (mkS σ [(3238, w_areKindsFound), (3214, w_far), (3215, w_heaps), (3212, w_isMeasured), (3203, w_posts)] [] [(70, w_newRoad), (71, w_numberOf), (54, w_road), (59, w_wayOf)] []) H locs (F0 m 161 ls []) := by
    intro k82 hk82 x1 x2 v_areKindsFound v_far v_heaps v_isMeasured v_posts v_newRoad v_numberOf v_road v_wayOf H locs ls hl hG h
    unfold M_half_n161 at h
    refine lv_iinc (v := (x2 + (1 : Int32))) (lv' := [(2, .int (x2 + (1 : Int32))), (0, .ref (g.2.1 50)), (1, .int x1)]) hx hb dX9_half_161 hl (k := 2) rfl (congrArg (fun z => x2 + z) (by decide)) (Nat.le_of_ble_eq_true rfl) rfl (fun ls hl => ?_)
    refine lv_goto (tgt := 82) hx hb dX9_half_164 (by decide) ?_
    exact hk82 x1 (x2 + (1 : Int32)) v_areKindsFound v_far v_heaps v_isMeasured v_posts v_newRoad v_numberOf v_road v_wayOf _ _ _ (lv_sub hl [1, 2, 0] rfl) hG h
  have n92 : ∀ (k82 : Int32 → Int32 → Int32 → Int32 → Int32 → Int32 → Int32 → (Nat → Int32) → (Nat → Int32) → (Nat → Int32) → (Nat → Int32) → Option (Int32 × Int32 × Int32 × Int32 × Int32 × Int32 × (Nat → Int32) × (Nat → Int32) × (Nat → Int32) × (Nat → Int32))) (hk82 : ∀ (x1 : Int32) (x2 : Int32) (v_areKindsFound : Int32) (v_far : Int32) (v_heaps : Int32) (v_isMeasured : Int32) (v_posts : Int32) (v_newRoad : Nat → Int32) (v_numberOf : Nat → Int32) (v_road : Nat → Int32) (v_wayOf : Nat → Int32) (H : Heap) (locs : List Loc) (ls : Array Slot), lv_has ls 4 [(0, .ref (g.2.1 50)), (1, .int x1), (2, .int x2)] → GW g s (mkS σ [(3238, v_areKindsFound), (3214, v_far), (3215, v_heaps), (3212, v_isMeasured), (3203, v_posts)] [] [(70, v_newRoad), (71, v_numberOf), (54, v_road), (59, v_wayOf)] []) H locs → k82 x1 x2 v_areKindsFound v_far v_heaps v_isMeasured v_posts v_newRoad v_numberOf v_road v_wayOf = some (r, w_areKindsFound, w_far, w_heaps, w_isMeasured, w_posts, w_newRoad, w_numberOf, w_road, w_wayOf) → Wg p l e 3 72 s m args below meth c g (some (.int r)) (mkS σ [(3238, w_areKindsFound), (3214, w_far), (3215, w_heaps), (3212, w_isMeasured), (3203, w_posts)] [] [(70, w_newRoad), (71, w_numberOf), (54, w_road), (59, w_wayOf)] []) H locs (F0 m 82 ls [])) (k92 : Int32 → Int32 → Int32 → Int32 → Int32 → Int32 → Int32 → Int32 → (Nat → Int32) → (Nat → Int32) → (Nat → Int32) → (Nat → Int32) → Option (Int32 × Int32 × Int32 × Int32 × Int32 × Int32 × (Nat → Int32) × (Nat → Int32) × (Nat → Int32) × (Nat → Int32))) (hk92 : ∀ (x1 : Int32) (x2 : Int32) (x3 : Int32) (v_areKindsFound : Int32) (v_far : Int32) (v_heaps : Int32) (v_isMeasured : Int32) (v_posts : Int32) (v_newRoad : Nat → Int32) (v_numberOf : Nat → Int32) (v_road : Nat → Int32) (v_wayOf : Nat → Int32) (H : Heap) (locs : List Loc) (ls : Array Slot), lv_has ls 4 [(0, .ref (g.2.1 50)), (1, .int x1), (2, .int x2), (3, .int x3)] → GW g s (mkS σ [(3238, v_areKindsFound), (3214, v_far), (3215, v_heaps), (3212, v_isMeasured), (3203, v_posts)] [] [(70, v_newRoad), (71, v_numberOf), (54, v_road), (59, v_wayOf)] []) H locs → k92 x1 x2 x3 v_areKindsFound v_far v_heaps v_isMeasured v_posts v_newRoad v_numberOf v_road v_wayOf = some (r, w_areKindsFound, w_far, w_heaps, w_isMeasured, w_posts, w_newRoad, w_numberOf, w_road, w_wayOf) → Wg p l e 3 72 s m args below meth c g (some (.int r)) (mkS σ [(3238, w_areKindsFound), (3214, w_far), (3215, w_heaps), (3212, w_isMeasured), (3203, w_posts)] [] [(70, w_newRoad), (71, w_numberOf), (54, w_road), (59, w_wayOf)] []) H locs (F0 m 92 ls [])) (x1 : Int32) (x2 : Int32) (x3 : Int32) (v_areKindsFound : Int32) (v_far : Int32) (v_heaps : Int32) (v_isMeasured : Int32) (v_posts : Int32) (v_newRoad : Nat → Int32) (v_numberOf : Nat → Int32) (v_road : Nat → Int32) (v_wayOf : Nat → Int32) (H : Heap) (locs : List Loc) (ls : Array Slot), lv_has ls 4 [(0, .ref (g.2.1 50)), (1, .int x1), (2, .int x2), (3, .int x3)] → GW g s (mkS σ [(3238, v_areKindsFound), (3214, v_far), (3215, v_heaps), (3212, v_isMeasured), (3203, v_posts)] [] [(70, v_newRoad), (71, v_numberOf), (54, v_road), (59, v_wayOf)] []) H locs → M_half_n92 k82 k92 x1 x2 x3 v_areKindsFound v_far v_heaps v_isMeasured v_posts v_newRoad v_numberOf v_road v_wayOf = some (r, w_areKindsFound, w_far, w_heaps, w_isMeasured, w_posts, w_newRoad, w_numberOf, w_road, w_wayOf) → Wg p l e 3 72 s m args below meth c g (some (.int r)) (mkS σ [(3238, w_areKindsFound), (3214, w_far), (3215, w_heaps), (3212, w_isMeasured), (3203, w_posts)] [] [(70, w_newRoad), (71, w_numberOf), (54, w_road), (59, w_wayOf)] []) H locs (F0 m 92 ls []) := by
    intro k82 hk82 k92 hk92 x1 x2 x3 v_areKindsFound v_far v_heaps v_isMeasured v_posts v_newRoad v_numberOf v_road v_wayOf H locs ls hl hG h
    unfold M_half_n92 at h
    refine lv_iload_n hx hb dX9_half_92 rfl (lv_at hl 3 rfl) ?_
    refine lv_aload_n hx hb dX9_half_93 rfl (lv_at hl 0 rfl) ?_
    refine gx_get (v := .int v_posts) (C := RX9) (T := TX9) (N := 44) hx hb hts hinX9 hown hK hG (ga_50 g _) rfl 3 (by decide) hw1 rfl rfl dX9_half_94 ?_
    refine lv_icmp_ge (tgt := 161) hx hb dX9_half_97 (by decide) (fun c4 => ?_) (fun c4 => ?_)
    · have h := ite_t c4 h
      exact n161 k82 hk82 x1 x2 v_areKindsFound v_far v_heaps v_isMeasured v_posts v_newRoad v_numberOf v_road v_wayOf _ _ _ (lv_sub hl [0, 1, 2] rfl) hG h
    · have h := ite_f c4 h
      refine lv_aload_n hx hb dX9_half_100 rfl (lv_at hl 0 rfl) ?_
      refine gx_get (v := .ref (g.2.1 71)) (C := RX9) (T := TX9) (N := 44) hx hb hts hinX9 hown hK hG (ga_50 g _) rfl 30 (by decide) hw2 rfl rfl dX9_half_101 ?_
      refine lv_iload_n hx hb dX9_half_104 rfl (lv_at hl 2 rfl) ?_
      obtain ⟨hg5, h⟩ := gd_some h
      refine gx_iald (f := v_numberOf) hx hb hK hG (ga_71 g _) hg5 dX9_half_105 ?_
      refine lv_if_lt (tgt := 155) hx hb dX9_half_106 (by decide) (fun c6 => ?_) (fun c6 => ?_)
      · have h := ite_t c6 h
        exact n155 k92 hk92 x1 x2 x3 v_areKindsFound v_far v_heaps v_isMeasured v_posts v_newRoad v_numberOf v_road v_wayOf _ _ _ (lv_sub hl [0, 1, 2, 3] rfl) hG h
      · have h := ite_f c6 h
        refine lv_aload_n hx hb dX9_half_109 rfl (lv_at hl 0 rfl) ?_
        refine gx_get (v := .ref (g.2.1 71)) (C := RX9) (T := TX9) (N := 44) hx hb hts hinX9 hown hK hG (ga_50 g _) rfl 30 (by decide) hw2 rfl rfl dX9_half_110 ?_
        refine lv_iload_n hx hb dX9_half_113 rfl (lv_at hl 3 rfl) ?_
        obtain ⟨hg7, h⟩ := gd_some h
        refine gx_iald (f := v_numberOf) hx hb hK hG (ga_71 g _) hg7 dX9_half_114 ?_
        refine lv_if_lt (tgt := 155) hx hb dX9_half_115 (by decide) (fun c8 => ?_) (fun c8 => ?_)
        · have h := ite_t c8 h
          exact n155 k92 hk92 x1 x2 x3 v_areKindsFound v_far v_heaps v_isMeasured v_posts v_newRoad v_numberOf v_road v_wayOf _ _ _ (lv_sub hl [0, 1, 2, 3] rfl) hG h
        · have h := ite_f c8 h
          refine lv_aload_n hx hb dX9_half_118 rfl (lv_at hl 0 rfl) ?_
          refine gx_get (v := .ref (g.2.1 59)) (C := RX9) (T := TX9) (N := 44) hx hb hts hinX9 hown hK hG (ga_50 g _) rfl 13 (by decide) hw0 rfl rfl dX9_half_119 ?_
          refine lv_bipush (v := (32 : Int32)) hx hb dX9_half_122 (by decide) ?_
          refine lv_iload_n hx hb dX9_half_124 rfl (lv_at hl 2 rfl) ?_
          refine lv_imul hx hb dX9_half_125 ?_
          refine lv_iload_n hx hb dX9_half_126 rfl (lv_at hl 3 rfl) ?_
          refine lv_iadd hx hb dX9_half_127 ?_
          obtain ⟨hg9, h⟩ := gd_some h
          refine gx_iald (f := v_wayOf) hx hb hK hG (ga_59 g _) hg9 dX9_half_128 ?_
          refine lv_iconst (v := (2 : Int32)) hx hb dX9_half_129 (by decide) ?_
          refine lv_icmp_ne (tgt := 155) hx hb dX9_half_130 (by decide) (fun c10 => ?_) (fun c10 => ?_)
          · have h := ite_f c10 h
            exact n155 k92 hk92 x1 x2 x3 v_areKindsFound v_far v_heaps v_isMeasured v_posts v_newRoad v_numberOf v_road v_wayOf _ _ _ (lv_sub hl [0, 1, 2, 3] rfl) hG h
          · have h := ite_t c10 h
            refine lv_aload_n hx hb dX9_half_133 rfl (lv_at hl 0 rfl) ?_
            refine gx_get (v := .ref (g.2.1 70)) (C := RX9) (T := TX9) (N := 44) hx hb hts hinX9 hown hK hG (ga_50 g _) rfl 29 (by decide) hw3 rfl rfl dX9_half_134 ?_
            refine lv_bipush (v := (32 : Int32)) hx hb dX9_half_137 (by decide) ?_
            refine lv_aload_n hx hb dX9_half_139 rfl (lv_at hl 0 rfl) ?_
            refine gx_get (v := .ref (g.2.1 71)) (C := RX9) (T := TX9) (N := 44) hx hb hts hinX9 hown hK hG (ga_50 g _) rfl 30 (by decide) hw2 rfl rfl dX9_half_140 ?_
            refine lv_iload_n hx hb dX9_half_143 rfl (lv_at hl 2 rfl) ?_
            refine gx_iald (f := v_numberOf) hx hb hK hG (ga_71 g _) hg5 dX9_half_144 ?_
            refine lv_imul hx hb dX9_half_145 ?_
            refine lv_aload_n hx hb dX9_half_146 rfl (lv_at hl 0 rfl) ?_
            refine gx_get (v := .ref (g.2.1 71)) (C := RX9) (T := TX9) (N := 44) hx hb hts hinX9 hown hK hG (ga_50 g _) rfl 30 (by decide) hw2 rfl rfl dX9_half_147 ?_
            refine lv_iload_n hx hb dX9_half_150 rfl (lv_at hl 3 rfl) ?_
            refine gx_iald (f := v_numberOf) hx hb hK hG (ga_71 g _) hg7 dX9_half_151 ?_
            refine lv_iadd hx hb dX9_half_152 ?_
            refine lv_iconst (v := (1 : Int32)) hx hb dX9_half_153 (by decide) ?_
            obtain ⟨hg11, h⟩ := gd_some h
            refine gx_zast (σ' := (mkS σ [(3238, v_areKindsFound), (3214, v_far), (3215, v_heaps), (3212, v_isMeasured), (3203, v_posts)] [] [(70, (upd v_newRoad ((((32 : Int32) * (v_numberOf (x2.toNatClampNeg))) + (v_numberOf (x3.toNatClampNeg))).toNatClampNeg) (1 : Int32))), (71, v_numberOf), (54, v_road), (59, v_wayOf)] [])) (f := v_newRoad) hx hb hK hG (ga_70 g _) hg11 (by decide) ((gs_70 g _ _).trans (congrArg (g_cells g) (mk_c 0 rfl rfl))) dX9_half_154 (fun H locs hG => ?_)
            exact n155 k92 hk92 x1 x2 x3 v_areKindsFound v_far v_heaps v_isMeasured v_posts (upd v_newRoad ((((32 : Int32) * (v_numberOf (x2.toNatClampNeg))) + (v_numberOf (x3.toNatClampNeg))).toNatClampNeg) (1 : Int32)) v_numberOf v_road v_wayOf _ _ _ (lv_sub hl [0, 1, 2, 3] rfl) hG h
  have l92 : ∀ (k82 : Int32 → Int32 → Int32 → Int32 → Int32 → Int32 → Int32 → (Nat → Int32) → (Nat → Int32) → (Nat → Int32) → (Nat → Int32) → Option (Int32 × Int32 × Int32 × Int32 × Int32 × Int32 × (Nat → Int32) × (Nat → Int32) × (Nat → Int32) × (Nat → Int32))) (hk82 : ∀ (x1 : Int32) (x2 : Int32) (v_areKindsFound : Int32) (v_far : Int32) (v_heaps : Int32) (v_isMeasured : Int32) (v_posts : Int32) (v_newRoad : Nat → Int32) (v_numberOf : Nat → Int32) (v_road : Nat → Int32) (v_wayOf : Nat → Int32) (H : Heap) (locs : List Loc) (ls : Array Slot), lv_has ls 4 [(0, .ref (g.2.1 50)), (1, .int x1), (2, .int x2)] → GW g s (mkS σ [(3238, v_areKindsFound), (3214, v_far), (3215, v_heaps), (3212, v_isMeasured), (3203, v_posts)] [] [(70, v_newRoad), (71, v_numberOf), (54, v_road), (59, v_wayOf)] []) H locs → k82 x1 x2 v_areKindsFound v_far v_heaps v_isMeasured v_posts v_newRoad v_numberOf v_road v_wayOf = some (r, w_areKindsFound, w_far, w_heaps, w_isMeasured, w_posts, w_newRoad, w_numberOf, w_road, w_wayOf) → Wg p l e 3 72 s m args below meth c g (some (.int r)) (mkS σ [(3238, w_areKindsFound), (3214, w_far), (3215, w_heaps), (3212, w_isMeasured), (3203, w_posts)] [] [(70, w_newRoad), (71, w_numberOf), (54, w_road), (59, w_wayOf)] []) H locs (F0 m 82 ls [])) (F : Nat) (x1 : Int32) (x2 : Int32) (x3 : Int32) (v_areKindsFound : Int32) (v_far : Int32) (v_heaps : Int32) (v_isMeasured : Int32) (v_posts : Int32) (v_newRoad : Nat → Int32) (v_numberOf : Nat → Int32) (v_road : Nat → Int32) (v_wayOf : Nat → Int32) (H : Heap) (locs : List Loc) (ls : Array Slot), lv_has ls 4 [(0, .ref (g.2.1 50)), (1, .int x1), (2, .int x2), (3, .int x3)] → GW g s (mkS σ [(3238, v_areKindsFound), (3214, v_far), (3215, v_heaps), (3212, v_isMeasured), (3203, v_posts)] [] [(70, v_newRoad), (71, v_numberOf), (54, v_road), (59, v_wayOf)] []) H locs → M_half_l92 k82 F x1 x2 x3 v_areKindsFound v_far v_heaps v_isMeasured v_posts v_newRoad v_numberOf v_road v_wayOf = some (r, w_areKindsFound, w_far, w_heaps, w_isMeasured, w_posts, w_newRoad, w_numberOf, w_road, w_wayOf) → Wg p l e 3 72 s m args below meth c g (some (.int r)) (mkS σ [(3238, w_areKindsFound), (3214, w_far), (3215, w_heaps), (3212, w_isMeasured), (3203, w_posts)] [] [(70, w_newRoad), (71, w_numberOf), (54, w_road), (59, w_wayOf)] []) H locs (F0 m 92 ls []) := by
    intro k82 hk82 F
    induction F with
    | zero => intro x1 x2 x3 v_areKindsFound v_far v_heaps v_isMeasured v_posts v_newRoad v_numberOf v_road v_wayOf H locs ls hl hG h; exact no_some h
    | succ F ih => intro x1 x2 x3 v_areKindsFound v_far v_heaps v_isMeasured v_posts v_newRoad v_numberOf v_road v_wayOf H locs ls hl hG h; exact n92 k82 hk82 (fun x1 x2 x3 v_areKindsFound v_far v_heaps v_isMeasured v_posts v_newRoad v_numberOf v_road v_wayOf => M_half_l92 k82 F x1 x2 x3 v_areKindsFound v_far v_heaps v_isMeasured v_posts v_newRoad v_numberOf v_road v_wayOf) ih x1 x2 x3 v_areKindsFound v_far v_heaps v_isMeasured v_posts v_newRoad v_numberOf v_road v_wayOf H locs ls hl hG h
  have n167 : ∀ (x1 : Int32) (v_areKindsFound : Int32) (v_far : Int32) (v_heaps : Int32) (v_isMeasured : Int32) (v_posts : Int32) (v_newRoad : Nat → Int32) (v_numberOf : Nat → Int32) (v_road : Nat → Int32) (v_wayOf : Nat → Int32) (H : Heap) (locs : List Loc) (ls : Array Slot), lv_has ls 4 [(0, .ref (g.2.1 50)), (1, .int x1)] → GW g s (mkS σ [(3238, v_areKindsFound), (3214, v_far), (3215, v_heaps), (3212, v_isMeasured), (3203, v_posts)] [] [(70, v_newRoad), (71, v_numberOf), (54, v_road), (59, v_wayOf)] []) H locs → M_half_n167 x1 v_areKindsFound v_far v_heaps v_isMeasured v_posts v_newRoad v_numberOf v_road v_wayOf = some (r, w_areKindsFound, w_far, w_heaps, w_isMeasured, w_posts, w_newRoad, w_numberOf, w_road, w_wayOf) → Wg p l e 3 72 s m args below meth c g (some (.int r)) (mkS σ [(3238, w_areKindsFound), (3214, w_far), (3215, w_heaps), (3212, w_isMeasured), (3203, w_posts)] [] [(70, w_newRoad), (71, w_numberOf), (54, w_road), (59, w_wayOf)] []) H locs (F0 m 167 ls []) := by
    intro x1 v_areKindsFound v_far v_heaps v_isMeasured v_posts v_newRoad v_numberOf v_road v_wayOf H locs ls hl hG h
    unfold M_half_n167 at h
    refine lv_aload_n hx hb dX9_half_167 rfl (lv_at hl 0 rfl) ?_
    refine lv_iload_n hx hb dX9_half_168 rfl (lv_at hl 1 rfl) ?_
    obtain ⟨z12, hc13, h⟩ := bnd_some h
    refine gx_cV (σ' := (mkS σ [(3238, z12.1), (3214, v_far), (3215, v_heaps), (3212, z12.2.1), (3203, z12.2.2.1)] [] [(70, v_newRoad), (71, v_numberOf), (54, z12.2.2.2), (59, v_wayOf)] [])) (r := none) (rest := []) (As := [.int x1]) hS9 (c_M_become l g (mkS σ [(3238, v_areKindsFound), (3214, v_far), (3215, v_heaps), (3212, v_isMeasured), (3203, v_posts)] [] [(70, v_newRoad), (71, v_numberOf), (54, v_road), (59, v_wayOf)] []) x1 z12.1 z12.2.1 z12.2.2.1 z12.2.2.2 hc13) (mk_mk rfl rfl rfl rfl) (cwV 1 hts gX9_half_X9_become rfl rfl rfl (by decide +kernel) ⟨Nat.le_of_ble_eq_true rfl, Nat.le_of_ble_eq_true rfl⟩) hK hG (ga_50 g _) rfl rfl rfl hl.1 rfl (Nat.le_of_ble_eq_true rfl) dX9_half_169 (fun H locs hG => ?_)
    refine W.eq (g2 := F0 m 172 ls []) rfl ?_
    refine lv_iload_n hx hb dX9_half_172 rfl (lv_at hl 1 rfl) ?_
    cases h
    exact gx_iret hx hb hr hlocks hG dX9_half_173
  have n82 : ∀ (k82 : Int32 → Int32 → Int32 → Int32 → Int32 → Int32 → Int32 → (Nat → Int32) → (Nat → Int32) → (Nat → Int32) → (Nat → Int32) → Option (Int32 × Int32 × Int32 × Int32 × Int32 × Int32 × (Nat → Int32) × (Nat → Int32) × (Nat → Int32) × (Nat → Int32))) (hk82 : ∀ (x1 : Int32) (x2 : Int32) (v_areKindsFound : Int32) (v_far : Int32) (v_heaps : Int32) (v_isMeasured : Int32) (v_posts : Int32) (v_newRoad : Nat → Int32) (v_numberOf : Nat → Int32) (v_road : Nat → Int32) (v_wayOf : Nat → Int32) (H : Heap) (locs : List Loc) (ls : Array Slot), lv_has ls 4 [(0, .ref (g.2.1 50)), (1, .int x1), (2, .int x2)] → GW g s (mkS σ [(3238, v_areKindsFound), (3214, v_far), (3215, v_heaps), (3212, v_isMeasured), (3203, v_posts)] [] [(70, v_newRoad), (71, v_numberOf), (54, v_road), (59, v_wayOf)] []) H locs → k82 x1 x2 v_areKindsFound v_far v_heaps v_isMeasured v_posts v_newRoad v_numberOf v_road v_wayOf = some (r, w_areKindsFound, w_far, w_heaps, w_isMeasured, w_posts, w_newRoad, w_numberOf, w_road, w_wayOf) → Wg p l e 3 72 s m args below meth c g (some (.int r)) (mkS σ [(3238, w_areKindsFound), (3214, w_far), (3215, w_heaps), (3212, w_isMeasured), (3203, w_posts)] [] [(70, w_newRoad), (71, w_numberOf), (54, w_road), (59, w_wayOf)] []) H locs (F0 m 82 ls [])) (x1 : Int32) (x2 : Int32) (v_areKindsFound : Int32) (v_far : Int32) (v_heaps : Int32) (v_isMeasured : Int32) (v_posts : Int32) (v_newRoad : Nat → Int32) (v_numberOf : Nat → Int32) (v_road : Nat → Int32) (v_wayOf : Nat → Int32) (H : Heap) (locs : List Loc) (ls : Array Slot), lv_has ls 4 [(0, .ref (g.2.1 50)), (1, .int x1), (2, .int x2)] → GW g s (mkS σ [(3238, v_areKindsFound), (3214, v_far), (3215, v_heaps), (3212, v_isMeasured), (3203, v_posts)] [] [(70, v_newRoad), (71, v_numberOf), (54, v_road), (59, v_wayOf)] []) H locs → M_half_n82 k82 x1 x2 v_areKindsFound v_far v_heaps v_isMeasured v_posts v_newRoad v_numberOf v_road v_wayOf = some (r, w_areKindsFound, w_far, w_heaps, w_isMeasured, w_posts, w_newRoad, w_numberOf, w_road, w_wayOf) → Wg p l e 3 72 s m args below meth c g (some (.int r)) (mkS σ [(3238, w_areKindsFound), (3214, w_far), (3215, w_heaps), (3212, w_isMeasured), (3203, w_posts)] [] [(70, w_newRoad), (71, w_numberOf), (54, w_road), (59, w_wayOf)] []) H locs (F0 m 82 ls []) := by
    intro k82 hk82 x1 x2 v_areKindsFound v_far v_heaps v_isMeasured v_posts v_newRoad v_numberOf v_road v_wayOf H locs ls hl hG h
    unfold M_half_n82 at h
    refine lv_iload_n hx hb dX9_half_82 rfl (lv_at hl 2 rfl) ?_
    refine lv_aload_n hx hb dX9_half_83 rfl (lv_at hl 0 rfl) ?_
    refine gx_get (v := .int v_posts) (C := RX9) (T := TX9) (N := 44) hx hb hts hinX9 hown hK hG (ga_50 g _) rfl 3 (by decide) hw1 rfl rfl dX9_half_84 ?_
    refine lv_icmp_ge (tgt := 167) hx hb dX9_half_87 (by decide) (fun c14 => ?_) (fun c14 => ?_)
    · have h := ite_t c14 h
      exact n167 x1 v_areKindsFound v_far v_heaps v_isMeasured v_posts v_newRoad v_numberOf v_road v_wayOf _ _ _ (lv_sub hl [0, 1] rfl) hG h
    · have h := ite_f c14 h
      refine lv_iconst (v := (0 : Int32)) hx hb dX9_half_90 (by decide) ?_
      refine lv_istore_n (lv' := [(3, .int (0 : Int32)), (0, .ref (g.2.1 50)), (1, .int x1), (2, .int x2)]) hx hb dX9_half_91 rfl hl (Nat.le_of_ble_eq_true rfl) rfl (fun ls hl => ?_)
      exact l92 k82 hk82 FUEL x1 x2 (0 : Int32) v_areKindsFound v_far v_heaps v_isMeasured v_posts v_newRoad v_numberOf v_road v_wayOf _ _ _ (lv_sub hl [1, 2, 3, 0] rfl) hG h
  have l82 : ∀  (F : Nat) (x1 : Int32) (x2 : Int32) (v_areKindsFound : Int32) (v_far : Int32) (v_heaps : Int32) (v_isMeasured : Int32) (v_posts : Int32) (v_newRoad : Nat → Int32) (v_numberOf : Nat → Int32) (v_road : Nat → Int32) (v_wayOf : Nat → Int32) (H : Heap) (locs : List Loc) (ls : Array Slot), lv_has ls 4 [(0, .ref (g.2.1 50)), (1, .int x1), (2, .int x2)] → GW g s (mkS σ [(3238, v_areKindsFound), (3214, v_far), (3215, v_heaps), (3212, v_isMeasured), (3203, v_posts)] [] [(70, v_newRoad), (71, v_numberOf), (54, v_road), (59, v_wayOf)] []) H locs → M_half_l82 F x1 x2 v_areKindsFound v_far v_heaps v_isMeasured v_posts v_newRoad v_numberOf v_road v_wayOf = some (r, w_areKindsFound, w_far, w_heaps, w_isMeasured, w_posts, w_newRoad, w_numberOf, w_road, w_wayOf) → Wg p l e 3 72 s m args below meth c g (some (.int r)) (mkS σ [(3238, w_areKindsFound), (3214, w_far), (3215, w_heaps), (3212, w_isMeasured), (3203, w_posts)] [] [(70, w_newRoad), (71, w_numberOf), (54, w_road), (59, w_wayOf)] []) H locs (F0 m 82 ls []) := by
    intro F
    induction F with
    | zero => intro x1 x2 v_areKindsFound v_far v_heaps v_isMeasured v_posts v_newRoad v_numberOf v_road v_wayOf H locs ls hl hG h; exact no_some h
    | succ F ih => intro x1 x2 v_areKindsFound v_far v_heaps v_isMeasured v_posts v_newRoad v_numberOf v_road v_wayOf H locs ls hl hG h; exact n82 (fun x1 x2 v_areKindsFound v_far v_heaps v_isMeasured v_posts v_newRoad v_numberOf v_road v_wayOf => M_half_l82 F x1 x2 v_areKindsFound v_far v_heaps v_isMeasured v_posts v_newRoad v_numberOf v_road v_wayOf) ih x1 x2 v_areKindsFound v_far v_heaps v_isMeasured v_posts v_newRoad v_numberOf v_road v_wayOf H locs ls hl hG h
  have n76 : ∀ (x1 : Int32) (v_areKindsFound : Int32) (v_far : Int32) (v_heaps : Int32) (v_isMeasured : Int32) (v_posts : Int32) (v_newRoad : Nat → Int32) (v_numberOf : Nat → Int32) (v_road : Nat → Int32) (v_wayOf : Nat → Int32) (H : Heap) (locs : List Loc) (ls : Array Slot), lv_has ls 4 [(0, .ref (g.2.1 50)), (1, .int x1)] → GW g s (mkS σ [(3238, v_areKindsFound), (3214, v_far), (3215, v_heaps), (3212, v_isMeasured), (3203, v_posts)] [] [(70, v_newRoad), (71, v_numberOf), (54, v_road), (59, v_wayOf)] []) H locs → M_half_n76 x1 v_areKindsFound v_far v_heaps v_isMeasured v_posts v_newRoad v_numberOf v_road v_wayOf = some (r, w_areKindsFound, w_far, w_heaps, w_isMeasured, w_posts, w_newRoad, w_numberOf, w_road, w_wayOf) → Wg p l e 3 72 s m args below meth c g (some (.int r)) (mkS σ [(3238, w_areKindsFound), (3214, w_far), (3215, w_heaps), (3212, w_isMeasured), (3203, w_posts)] [] [(70, w_newRoad), (71, w_numberOf), (54, w_road), (59, w_wayOf)] []) H locs (F0 m 76 ls []) := by
    intro x1 v_areKindsFound v_far v_heaps v_isMeasured v_posts v_newRoad v_numberOf v_road v_wayOf H locs ls hl hG h
    unfold M_half_n76 at h
    refine lv_aload_n hx hb dX9_half_76 rfl (lv_at hl 0 rfl) ?_
    obtain ⟨z15, hc16, h⟩ := bnd_some h
    refine gx_cV (σ' := (mkS σ [(3238, v_areKindsFound), (3214, v_far), (3215, v_heaps), (3212, v_isMeasured), (3203, v_posts)] [] [(70, z15), (71, v_numberOf), (54, v_road), (59, v_wayOf)] [])) (r := none) (rest := []) (As := []) hS9 (c_M_clearNew l g (mkS σ [(3238, v_areKindsFound), (3214, v_far), (3215, v_heaps), (3212, v_isMeasured), (3203, v_posts)] [] [(70, v_newRoad), (71, v_numberOf), (54, v_road), (59, v_wayOf)] []) z15 hc16) (mk_mk rfl rfl rfl rfl) (cwV 0 hts gX9_half_X9_clearNew rfl rfl rfl (by decide +kernel) ⟨Nat.le_of_ble_eq_true rfl, Nat.le_of_ble_eq_true rfl⟩) hK hG (ga_50 g _) rfl rfl rfl hl.1 rfl (Nat.le_of_ble_eq_true rfl) dX9_half_77 (fun H locs hG => ?_)
    refine W.eq (g2 := F0 m 80 ls []) rfl ?_
    refine lv_iconst (v := (0 : Int32)) hx hb dX9_half_80 (by decide) ?_
    refine lv_istore_n (lv' := [(2, .int (0 : Int32)), (0, .ref (g.2.1 50)), (1, .int x1)]) hx hb dX9_half_81 rfl hl (Nat.le_of_ble_eq_true rfl) rfl (fun ls hl => ?_)
    exact l82 FUEL x1 (0 : Int32) v_areKindsFound v_far v_heaps v_isMeasured v_posts z15 v_numberOf v_road v_wayOf _ _ _ (lv_sub hl [1, 2, 0] rfl) hG h
  have n21 : ∀ (k21 : Int32 → Int32 → Int32 → Int32 → Int32 → Int32 → Int32 → (Nat → Int32) → (Nat → Int32) → (Nat → Int32) → (Nat → Int32) → Option (Int32 × Int32 × Int32 × Int32 × Int32 × Int32 × (Nat → Int32) × (Nat → Int32) × (Nat → Int32) × (Nat → Int32))) (hk21 : ∀ (x1 : Int32) (x2 : Int32) (v_areKindsFound : Int32) (v_far : Int32) (v_heaps : Int32) (v_isMeasured : Int32) (v_posts : Int32) (v_newRoad : Nat → Int32) (v_numberOf : Nat → Int32) (v_road : Nat → Int32) (v_wayOf : Nat → Int32) (H : Heap) (locs : List Loc) (ls : Array Slot), lv_has ls 4 [(0, .ref (g.2.1 50)), (1, .int x1), (2, .int x2)] → GW g s (mkS σ [(3238, v_areKindsFound), (3214, v_far), (3215, v_heaps), (3212, v_isMeasured), (3203, v_posts)] [] [(70, v_newRoad), (71, v_numberOf), (54, v_road), (59, v_wayOf)] []) H locs → k21 x1 x2 v_areKindsFound v_far v_heaps v_isMeasured v_posts v_newRoad v_numberOf v_road v_wayOf = some (r, w_areKindsFound, w_far, w_heaps, w_isMeasured, w_posts, w_newRoad, w_numberOf, w_road, w_wayOf) → Wg p l e 3 72 s m args below meth c g (some (.int r)) (mkS σ [(3238, w_areKindsFound), (3214, w_far), (3215, w_heaps), (3212, w_isMeasured), (3203, w_posts)] [] [(70, w_newRoad), (71, w_numberOf), (54, w_road), (59, w_wayOf)] []) H locs (F0 m 21 ls [])) (x1 : Int32) (x2 : Int32) (v_areKindsFound : Int32) (v_far : Int32) (v_heaps : Int32) (v_isMeasured : Int32) (v_posts : Int32) (v_newRoad : Nat → Int32) (v_numberOf : Nat → Int32) (v_road : Nat → Int32) (v_wayOf : Nat → Int32) (H : Heap) (locs : List Loc) (ls : Array Slot), lv_has ls 4 [(0, .ref (g.2.1 50)), (1, .int x1), (2, .int x2)] → GW g s (mkS σ [(3238, v_areKindsFound), (3214, v_far), (3215, v_heaps), (3212, v_isMeasured), (3203, v_posts)] [] [(70, v_newRoad), (71, v_numberOf), (54, v_road), (59, v_wayOf)] []) H locs → M_half_n21 k21 x1 x2 v_areKindsFound v_far v_heaps v_isMeasured v_posts v_newRoad v_numberOf v_road v_wayOf = some (r, w_areKindsFound, w_far, w_heaps, w_isMeasured, w_posts, w_newRoad, w_numberOf, w_road, w_wayOf) → Wg p l e 3 72 s m args below meth c g (some (.int r)) (mkS σ [(3238, w_areKindsFound), (3214, w_far), (3215, w_heaps), (3212, w_isMeasured), (3203, w_posts)] [] [(70, w_newRoad), (71, w_numberOf), (54, w_road), (59, w_wayOf)] []) H locs (F0 m 21 ls []) := by
    intro k21 hk21 x1 x2 v_areKindsFound v_far v_heaps v_isMeasured v_posts v_newRoad v_numberOf v_road v_wayOf H locs ls hl hG h
    unfold M_half_n21 at h
    refine lv_iload_n hx hb dX9_half_21 rfl (lv_at hl 2 rfl) ?_
    refine lv_aload_n hx hb dX9_half_22 rfl (lv_at hl 0 rfl) ?_
    refine gx_get (v := .int v_posts) (C := RX9) (T := TX9) (N := 44) hx hb hts hinX9 hown hK hG (ga_50 g _) rfl 3 (by decide) hw1 rfl rfl dX9_half_23 ?_
    refine lv_icmp_ge (tgt := 76) hx hb dX9_half_26 (by decide) (fun c17 => ?_) (fun c17 => ?_)
    · have h := ite_t c17 h
      exact n76 x1 v_areKindsFound v_far v_heaps v_isMeasured v_posts v_newRoad v_numberOf v_road v_wayOf _ _ _ (lv_sub hl [0, 1] rfl) hG h
    · have h := ite_f c17 h
      refine lv_aload_n hx hb dX9_half_29 rfl (lv_at hl 0 rfl) ?_
      refine gx_get (v := .ref (g.2.1 71)) (C := RX9) (T := TX9) (N := 44) hx hb hts hinX9 hown hK hG (ga_50 g _) rfl 30 (by decide) hw2 rfl rfl dX9_half_30 ?_
      refine lv_iload_n hx hb dX9_half_33 rfl (lv_at hl 2 rfl) ?_
      refine lv_aload_n hx hb dX9_half_34 rfl (lv_at hl 0 rfl) ?_
      refine gx_get (v := .ref (g.2.1 59)) (C := RX9) (T := TX9) (N := 44) hx hb hts hinX9 hown hK hG (ga_50 g _) rfl 13 (by decide) hw0 rfl rfl dX9_half_35 ?_
      refine lv_iload_n hx hb dX9_half_38 rfl (lv_at hl 2 rfl) ?_
      obtain ⟨hg18, h⟩ := gd_some h
      refine gx_iald (f := v_wayOf) hx hb hK hG (ga_59 g _) hg18 dX9_half_39 ?_
      refine lv_iconst (v := (2 : Int32)) hx hb dX9_half_40 (by decide) ?_
      refine lv_irem hx hb dX9_half_41 (by decide) ?_
      refine lv_if_ne (tgt := 49) hx hb dX9_half_42 (by decide) (fun c19 => ?_) (fun c19 => ?_)
      · have h := ite_f c19 h
        refine lv_iconst (v := (-1 : Int32)) hx hb dX9_half_49 (by decide) ?_
        exact n50 k21 hk21 x1 x2 x2 (-1 : Int32) v_areKindsFound v_far v_heaps v_isMeasured v_posts v_newRoad v_numberOf v_road v_wayOf _ _ _ (lv_sub hl [0, 1, 2] rfl) hG h
      · have h := ite_t c19 h
        refine lv_iload_n hx hb dX9_half_45 rfl (lv_at hl 1 rfl) ?_
        refine lv_goto (tgt := 50) hx hb dX9_half_46 (by decide) ?_
        exact n50 k21 hk21 x1 x2 x2 x1 v_areKindsFound v_far v_heaps v_isMeasured v_posts v_newRoad v_numberOf v_road v_wayOf _ _ _ (lv_sub hl [0, 1, 2] rfl) hG h
  have l21 : ∀  (F : Nat) (x1 : Int32) (x2 : Int32) (v_areKindsFound : Int32) (v_far : Int32) (v_heaps : Int32) (v_isMeasured : Int32) (v_posts : Int32) (v_newRoad : Nat → Int32) (v_numberOf : Nat → Int32) (v_road : Nat → Int32) (v_wayOf : Nat → Int32) (H : Heap) (locs : List Loc) (ls : Array Slot), lv_has ls 4 [(0, .ref (g.2.1 50)), (1, .int x1), (2, .int x2)] → GW g s (mkS σ [(3238, v_areKindsFound), (3214, v_far), (3215, v_heaps), (3212, v_isMeasured), (3203, v_posts)] [] [(70, v_newRoad), (71, v_numberOf), (54, v_road), (59, v_wayOf)] []) H locs → M_half_l21 F x1 x2 v_areKindsFound v_far v_heaps v_isMeasured v_posts v_newRoad v_numberOf v_road v_wayOf = some (r, w_areKindsFound, w_far, w_heaps, w_isMeasured, w_posts, w_newRoad, w_numberOf, w_road, w_wayOf) → Wg p l e 3 72 s m args below meth c g (some (.int r)) (mkS σ [(3238, w_areKindsFound), (3214, w_far), (3215, w_heaps), (3212, w_isMeasured), (3203, w_posts)] [] [(70, w_newRoad), (71, w_numberOf), (54, w_road), (59, w_wayOf)] []) H locs (F0 m 21 ls []) := by
    intro F
    induction F with
    | zero => intro x1 x2 v_areKindsFound v_far v_heaps v_isMeasured v_posts v_newRoad v_numberOf v_road v_wayOf H locs ls hl hG h; exact no_some h
    | succ F ih => intro x1 x2 v_areKindsFound v_far v_heaps v_isMeasured v_posts v_newRoad v_numberOf v_road v_wayOf H locs ls hl hG h; exact n21 (fun x1 x2 v_areKindsFound v_far v_heaps v_isMeasured v_posts v_newRoad v_numberOf v_road v_wayOf => M_half_l21 F x1 x2 v_areKindsFound v_far v_heaps v_isMeasured v_posts v_newRoad v_numberOf v_road v_wayOf) ih x1 x2 v_areKindsFound v_far v_heaps v_isMeasured v_posts v_newRoad v_numberOf v_road v_wayOf H locs ls hl hG h
  refine lv_aload_n hx hb dX9_half_0 rfl (lv_at hl 0 rfl) ?_
  obtain ⟨z20, hc21, h⟩ := bnd_some h
  refine gx_cV (σ' := (mkS σ [(3238, (σ.1 3238)), (3214, z20.2.1), (3215, z20.2.2.1), (3212, z20.2.2.2.1), (3203, (σ.1 3203))] [] [(70, (σ.2.2.1 70)), (71, (σ.2.2.1 71)), (54, (σ.2.2.1 54)), (59, z20.2.2.2.2)] [])) (r := (some (.int z20.1))) (rest := []) (As := []) hS9 (c_M_isWhole l g (mkS σ [(3238, (σ.1 3238)), (3214, (σ.1 3214)), (3215, (σ.1 3215)), (3212, (σ.1 3212)), (3203, (σ.1 3203))] [] [(70, (σ.2.2.1 70)), (71, (σ.2.2.1 71)), (54, (σ.2.2.1 54)), (59, (σ.2.2.1 59))] []) z20.1 z20.2.1 z20.2.2.1 z20.2.2.2.1 z20.2.2.2.2 hc21) (mk_mk rfl rfl rfl rfl) (cwV 0 hts gX9_half_X9_isWhole rfl rfl rfl (by decide +kernel) ⟨Nat.le_of_ble_eq_true rfl, Nat.le_of_ble_eq_true rfl⟩) hK hG (ga_50 g _) rfl rfl rfl hl.1 rfl (Nat.le_of_ble_eq_true rfl) dX9_half_1 (fun H locs hG => ?_)
  refine W.eq (g2 := F0 m 4 ls [.int z20.1]) rfl ?_
  refine lv_if_eq (tgt := 14) hx hb dX9_half_4 (by decide) (fun c22 => ?_) (fun c22 => ?_)
  · have h := ite_t c22 h
    exact n14 (σ.1 3238) z20.2.1 z20.2.2.1 z20.2.2.2.1 (σ.1 3203) (σ.2.2.1 70) (σ.2.2.1 71) (σ.2.2.1 54) z20.2.2.2.2 _ _ _ (lv_sub hl [] rfl) hG h
  · have h := ite_f c22 h
    refine lv_aload_n hx hb dX9_half_7 rfl (lv_at hl 0 rfl) ?_
    obtain ⟨z23, hc24, h⟩ := bnd_some h
    refine gx_cV (σ' := (mkS σ [(3238, (σ.1 3238)), (3214, z23.2.1), (3215, z23.2.2.1), (3212, z23.2.2.2.1), (3203, (σ.1 3203))] [] [(70, (σ.2.2.1 70)), (71, (σ.2.2.1 71)), (54, (σ.2.2.1 54)), (59, z23.2.2.2.2)] [])) (r := (some (.int z23.1))) (rest := []) (As := []) hS9 (c_M_isOfSides l g (mkS σ [(3238, (σ.1 3238)), (3214, z20.2.1), (3215, z20.2.2.1), (3212, z20.2.2.2.1), (3203, (σ.1 3203))] [] [(70, (σ.2.2.1 70)), (71, (σ.2.2.1 71)), (54, (σ.2.2.1 54)), (59, z20.2.2.2.2)] []) z23.1 z23.2.1 z23.2.2.1 z23.2.2.2.1 z23.2.2.2.2 hc24) (mk_mk rfl rfl rfl rfl) (cwV 0 hts gX9_half_X9_isOfSides rfl rfl rfl (by decide +kernel) ⟨Nat.le_of_ble_eq_true rfl, Nat.le_of_ble_eq_true rfl⟩) hK hG (ga_50 g _) rfl rfl rfl hl.1 rfl (Nat.le_of_ble_eq_true rfl) dX9_half_8 (fun H locs hG => ?_)
    refine W.eq (g2 := F0 m 11 ls [.int z23.1]) rfl ?_
    refine lv_if_ne (tgt := 17) hx hb dX9_half_11 (by decide) (fun c25 => ?_) (fun c25 => ?_)
    · have h := ite_f c25 h
      refine lv_iconst (v := (0 : Int32)) hx hb dX9_half_17 (by decide) ?_
      refine lv_istore_n (lv' := [(1, .int (0 : Int32)), (0, .ref (g.2.1 50))]) hx hb dX9_half_18 rfl hl (Nat.le_of_ble_eq_true rfl) rfl (fun ls hl => ?_)
      refine lv_iconst (v := (0 : Int32)) hx hb dX9_half_19 (by decide) ?_
      refine lv_istore_n (lv' := [(2, .int (0 : Int32)), (1, .int (0 : Int32)), (0, .ref (g.2.1 50))]) hx hb dX9_half_20 rfl hl (Nat.le_of_ble_eq_true rfl) rfl (fun ls hl => ?_)
      exact l21 FUEL (0 : Int32) (0 : Int32) (σ.1 3238) z23.2.1 z23.2.2.1 z23.2.2.2.1 (σ.1 3203) (σ.2.2.1 70) (σ.2.2.1 71) (σ.2.2.1 54) z23.2.2.2.2 _ _ _ (lv_sub hl [2, 1, 0] rfl) hG h
    · have h := ite_t c25 h
      exact n14 (σ.1 3238) z23.2.1 z23.2.2.1 z23.2.2.2.1 (σ.1 3203) (σ.2.2.1 70) (σ.2.2.1 71) (σ.2.2.1 54) z23.2.2.2.2 _ _ _ (lv_sub hl [] rfl) hG h

set_option maxHeartbeats 4000000 in
set_option maxRecDepth 100000 in
theorem c_M_findNear (l : Launch) (g : GC) (σ : St) (x1 : Int32) (w_nearTo : Nat → Int32) (h : M_findNear x1 (σ.1 3203) (σ.2.2.1 76) (σ.2.2.1 59) = some w_nearTo) : Cn l g yX9_findNear wsX9_findNear 0 0 [.ref (g.2.1 50), .int x1] σ none (mkS σ [] [] [(76, w_nearTo)] []) := by
  unfold Cn
  refine Met.ofW (cc := cX9_findNear) (maxL := 4) (ret := none) (by decide) rfl ?_
  intro p e s m args below meth c s₁ B hml hv
  obtain ⟨hargs, hP0, hK⟩ := hv
  have hx := B.exec
  have hb := B.bytes
  have hr := B.returns
  have hts := atoms_spec (ws := wsX9_findNear) B.pre
  have hown : s.vm.findClass RX9 = some m.cls := findClass_of_methodNamed B.named
  have hlocks := B.notSynchronized
  have hinX9 : ∀ w ∈ wsX90, w ∈ wsX9_findNear := fun w h => List.mem_cons_of_mem _ (List.mem_append_right _ (h))
  have hw0 := hts (.fieldLink RX9 116 "LikeNetsModel" "posts" "I") (List.mem_of_getElem? (i := 1) rfl)
  have hw1 := hts (.fieldLink RX9 91 "LikeNetsModel" "nearTo" "[I") (List.mem_of_getElem? (i := 2) rfl)
  have hw2 := hts (.fieldLink RX9 39 "LikeNetsModel" "wayOf" "[I") (List.mem_of_getElem? (i := 3) rfl)
  have hf9 : entryFrame m args 4 = _ := (congrArg (fun a => entryFrame m a 4) hargs).trans (lg_entry_eq m [.ref (g.2.1 50), .int x1] 4)
  show Wg p l e 0 0 s m args below meth c g none (mkS σ [] [] [(76, w_nearTo)] []) s.heap [] (entryFrame m args 4)
  rw [hf9]
  have hl := lv_entry ([.ref (g.2.1 50), .int x1]) (n := 4) (Nat.le_of_ble_eq_true rfl)
  generalize (lg_sl ([.ref (g.2.1 50), .int x1]) ++ List.replicate (4 - (lg_sl ([.ref (g.2.1 50), .int x1])).length) Slot.unset).toArray = ls at hl ⊢
  have hl : lv_has ls 4 [(0, .ref (g.2.1 50)), (1, .int x1)] := hl
  have hG : GW g s σ s.heap [] := ⟨hP0, va_S.rf⟩
  have hG : GW g s (mkS σ [] [] [(76, (σ.2.2.1 76))] []) s.heap [] := GW_self [] [] [76] [] hG
  unfold M_findNear at h
  have n56 : ∀ (k19 : Int32 → Int32 → Int32 → (Nat → Int32) → Option ((Nat → Int32))) (hk19 : ∀ (x1 : Int32) (x2 : Int32) (x3 : Int32) (v_nearTo : Nat → Int32) (H : Heap) (locs : List Loc) (ls : Array Slot), lv_has ls 4 [(0, .ref (g.2.1 50)), (1, .int x1), (2, .int x2), (3, .int x3)] → GW g s (mkS σ [] [] [(76, v_nearTo)] []) H locs → k19 x1 x2 x3 v_nearTo = some w_nearTo → Wg p l e 0 0 s m args below meth c g none (mkS σ [] [] [(76, w_nearTo)] []) H locs (F0 m 19 ls [])) (x1 : Int32) (x2 : Int32) (x3 : Int32) (t1 : Int32) (t2 : Int32) (t3 : Int32) (v_nearTo : Nat → Int32) (H : Heap) (locs : List Loc) (ls : Array Slot), lv_has ls 4 [(0, .ref (g.2.1 50)), (1, .int x1), (2, .int x2), (3, .int x3)] → GW g s (mkS σ [] [] [(76, v_nearTo)] []) H locs → M_findNear_n56 k19 x1 x2 x3 t1 t2 t3 v_nearTo = some w_nearTo → Wg p l e 0 0 s m args below meth c g none (mkS σ [] [] [(76, w_nearTo)] []) H locs (F0 m 56 ls [.int t3, .int t2, .int t1, .ref (g.2.1 76)]) := by
    intro k19 hk19 x1 x2 x3 t1 t2 t3 v_nearTo H locs ls hl hG h
    unfold M_findNear_n56 at h
    refine lv_ior hx hb dX9_findNear_56 ?_
    obtain ⟨hg1, h⟩ := gd_some h
    refine gx_iast (σ' := (mkS σ [] [] [(76, (upd v_nearTo (t1.toNatClampNeg) (t2 ||| t3)))] [])) (f := v_nearTo) hx hb hK hG (ga_76 g _) hg1 ((gs_76 g _ _).trans (congrArg (g_cells g) (mk_c 0 rfl rfl))) dX9_findNear_57 (fun H locs hG => ?_)
    refine lv_iinc (v := (x3 + (1 : Int32))) (lv' := [(3, .int (x3 + (1 : Int32))), (0, .ref (g.2.1 50)), (1, .int x1), (2, .int x2)]) hx hb dX9_findNear_58 hl (k := 3) rfl (congrArg (fun z => x3 + z) (by decide)) (Nat.le_of_ble_eq_true rfl) rfl (fun ls hl => ?_)
    refine lv_goto (tgt := 19) hx hb dX9_findNear_61 (by decide) ?_
    exact hk19 x1 x2 (x3 + (1 : Int32)) (upd v_nearTo (t1.toNatClampNeg) (t2 ||| t3)) _ _ _ (lv_sub hl [1, 2, 3, 0] rfl) hG h
  have n64 : ∀ (k2 : Int32 → Int32 → (Nat → Int32) → Option ((Nat → Int32))) (hk2 : ∀ (x1 : Int32) (x2 : Int32) (v_nearTo : Nat → Int32) (H : Heap) (locs : List Loc) (ls : Array Slot), lv_has ls 4 [(0, .ref (g.2.1 50)), (1, .int x1), (2, .int x2)] → GW g s (mkS σ [] [] [(76, v_nearTo)] []) H locs → k2 x1 x2 v_nearTo = some w_nearTo → Wg p l e 0 0 s m args below meth c g none (mkS σ [] [] [(76, w_nearTo)] []) H locs (F0 m 2 ls [])) (x1 : Int32) (x2 : Int32) (v_nearTo : Nat → Int32) (H : Heap) (locs : List Loc) (ls : Array Slot), lv_has ls 4 [(0, .ref (g.2.1 50)), (1, .int x1), (2, .int x2)] → GW g s (mkS σ [] [] [(76, v_nearTo)] []) H locs → M_findNear_n64 k2 x1 x2 v_nearTo = some w_nearTo → Wg p l e 0 0 s m args below meth c g none (mkS σ [] [] [(76, w_nearTo)] []) H locs (F0 m 64 ls []) := by
    intro k2 hk2 x1 x2 v_nearTo H locs ls hl hG h
    unfold M_findNear_n64 at h
    refine lv_iinc (v := (x2 + (1 : Int32))) (lv' := [(2, .int (x2 + (1 : Int32))), (0, .ref (g.2.1 50)), (1, .int x1)]) hx hb dX9_findNear_64 hl (k := 2) rfl (congrArg (fun z => x2 + z) (by decide)) (Nat.le_of_ble_eq_true rfl) rfl (fun ls hl => ?_)
    refine lv_goto (tgt := 2) hx hb dX9_findNear_67 (by decide) ?_
    exact hk2 x1 (x2 + (1 : Int32)) v_nearTo _ _ _ (lv_sub hl [1, 2, 0] rfl) hG h
  have n19 : ∀ (k2 : Int32 → Int32 → (Nat → Int32) → Option ((Nat → Int32))) (hk2 : ∀ (x1 : Int32) (x2 : Int32) (v_nearTo : Nat → Int32) (H : Heap) (locs : List Loc) (ls : Array Slot), lv_has ls 4 [(0, .ref (g.2.1 50)), (1, .int x1), (2, .int x2)] → GW g s (mkS σ [] [] [(76, v_nearTo)] []) H locs → k2 x1 x2 v_nearTo = some w_nearTo → Wg p l e 0 0 s m args below meth c g none (mkS σ [] [] [(76, w_nearTo)] []) H locs (F0 m 2 ls [])) (k19 : Int32 → Int32 → Int32 → (Nat → Int32) → Option ((Nat → Int32))) (hk19 : ∀ (x1 : Int32) (x2 : Int32) (x3 : Int32) (v_nearTo : Nat → Int32) (H : Heap) (locs : List Loc) (ls : Array Slot), lv_has ls 4 [(0, .ref (g.2.1 50)), (1, .int x1), (2, .int x2), (3, .int x3)] → GW g s (mkS σ [] [] [(76, v_nearTo)] []) H locs → k19 x1 x2 x3 v_nearTo = some w_nearTo → Wg p l e 0 0 s m args below meth c g none (mkS σ [] [] [(76, w_nearTo)] []) H locs (F0 m 19 ls [])) (x1 : Int32) (x2 : Int32) (x3 : Int32) (v_nearTo : Nat → Int32) (H : Heap) (locs : List Loc) (ls : Array Slot), lv_has ls 4 [(0, .ref (g.2.1 50)), (1, .int x1), (2, .int x2), (3, .int x3)] → GW g s (mkS σ [] [] [(76, v_nearTo)] []) H locs → M_findNear_n19 k2 k19 (σ.1 3203) (σ.2.2.1 59) x1 x2 x3 v_nearTo = some w_nearTo → Wg p l e 0 0 s m args below meth c g none (mkS σ [] [] [(76, w_nearTo)] []) H locs (F0 m 19 ls []) := by
    intro k2 hk2 k19 hk19 x1 x2 x3 v_nearTo H locs ls hl hG h
    unfold M_findNear_n19 at h
    refine lv_iload_n hx hb dX9_findNear_19 rfl (lv_at hl 3 rfl) ?_
    refine lv_aload_n hx hb dX9_findNear_20 rfl (lv_at hl 0 rfl) ?_
    refine gx_get (v := .int (σ.1 3203)) (C := RX9) (T := TX9) (N := 44) hx hb hts hinX9 hown hK hG (ga_50 g _) rfl 3 (by decide) hw0 rfl rfl dX9_findNear_21 ?_
    refine lv_icmp_ge (tgt := 64) hx hb dX9_findNear_24 (by decide) (fun c2 => ?_) (fun c2 => ?_)
    · have h := ite_t c2 h
      exact n64 k2 hk2 x1 x2 v_nearTo _ _ _ (lv_sub hl [0, 1, 2] rfl) hG h
    · have h := ite_f c2 h
      refine lv_aload_n hx hb dX9_findNear_27 rfl (lv_at hl 0 rfl) ?_
      refine gx_get (v := .ref (g.2.1 76)) (C := RX9) (T := TX9) (N := 44) hx hb hts hinX9 hown hK hG (ga_50 g _) rfl 36 (by decide) hw1 rfl rfl dX9_findNear_28 ?_
      refine lv_iload_n hx hb dX9_findNear_31 rfl (lv_at hl 2 rfl) ?_
      refine lv_dup2_11 hx hb dX9_findNear_32 rfl rfl ?_
      obtain ⟨hg3, h⟩ := gd_some h
      refine gx_iald (f := v_nearTo) hx hb hK hG (ga_76 g _) hg3 dX9_findNear_33 ?_
      refine lv_aload_n hx hb dX9_findNear_34 rfl (lv_at hl 0 rfl) ?_
      refine gx_get (v := .ref (g.2.1 59)) (C := RX9) (T := TX9) (N := 44) hx hb hts hinX9 hown hK hG (ga_50 g _) rfl 13 (by decide) hw2 rfl rfl dX9_findNear_35 ?_
      refine lv_bipush (v := (32 : Int32)) hx hb dX9_findNear_38 (by decide) ?_
      refine lv_iload_n hx hb dX9_findNear_40 rfl (lv_at hl 2 rfl) ?_
      refine lv_imul hx hb dX9_findNear_41 ?_
      refine lv_iload_n hx hb dX9_findNear_42 rfl (lv_at hl 3 rfl) ?_
      refine lv_iadd hx hb dX9_findNear_43 ?_
      obtain ⟨hg4, h⟩ := gd_some h
      refine gx_iald (f := (σ.2.2.1 59)) hx hb hK hG (ga_59 g _) hg4 dX9_findNear_44 ?_
      refine lv_iload_n hx hb dX9_findNear_45 rfl (lv_at hl 1 rfl) ?_
      refine lv_icmp_gt (tgt := 55) hx hb dX9_findNear_46 (by decide) (fun c5 => ?_) (fun c5 => ?_)
      · have h := ite_t c5 h
        refine lv_iconst (v := (0 : Int32)) hx hb dX9_findNear_55 (by decide) ?_
        exact n56 k19 hk19 x1 x2 x3 x2 (v_nearTo (x2.toNatClampNeg)) (0 : Int32) v_nearTo _ _ _ (lv_sub hl [0, 1, 2, 3] rfl) hG h
      · have h := ite_f c5 h
        refine lv_iconst (v := (1 : Int32)) hx hb dX9_findNear_49 (by decide) ?_
        refine lv_iload_n hx hb dX9_findNear_50 rfl (lv_at hl 3 rfl) ?_
        refine lv_ishl hx hb dX9_findNear_51 ?_
        refine lv_goto (tgt := 56) hx hb dX9_findNear_52 (by decide) ?_
        exact n56 k19 hk19 x1 x2 x3 x2 (v_nearTo (x2.toNatClampNeg)) ((1 : Int32) <<< (x3 &&& 31)) v_nearTo _ _ _ (lv_sub hl [0, 1, 2, 3] rfl) hG h
  have l19 : ∀ (k2 : Int32 → Int32 → (Nat → Int32) → Option ((Nat → Int32))) (hk2 : ∀ (x1 : Int32) (x2 : Int32) (v_nearTo : Nat → Int32) (H : Heap) (locs : List Loc) (ls : Array Slot), lv_has ls 4 [(0, .ref (g.2.1 50)), (1, .int x1), (2, .int x2)] → GW g s (mkS σ [] [] [(76, v_nearTo)] []) H locs → k2 x1 x2 v_nearTo = some w_nearTo → Wg p l e 0 0 s m args below meth c g none (mkS σ [] [] [(76, w_nearTo)] []) H locs (F0 m 2 ls [])) (F : Nat) (x1 : Int32) (x2 : Int32) (x3 : Int32) (v_nearTo : Nat → Int32) (H : Heap) (locs : List Loc) (ls : Array Slot), lv_has ls 4 [(0, .ref (g.2.1 50)), (1, .int x1), (2, .int x2), (3, .int x3)] → GW g s (mkS σ [] [] [(76, v_nearTo)] []) H locs → M_findNear_l19 k2 (σ.1 3203) (σ.2.2.1 59) F x1 x2 x3 v_nearTo = some w_nearTo → Wg p l e 0 0 s m args below meth c g none (mkS σ [] [] [(76, w_nearTo)] []) H locs (F0 m 19 ls []) := by
    intro k2 hk2 F
    induction F with
    | zero => intro x1 x2 x3 v_nearTo H locs ls hl hG h; exact no_some h
    | succ F ih => intro x1 x2 x3 v_nearTo H locs ls hl hG h; exact n19 k2 hk2 (fun x1 x2 x3 v_nearTo => M_findNear_l19 k2 (σ.1 3203) (σ.2.2.1 59) F x1 x2 x3 v_nearTo) ih x1 x2 x3 v_nearTo H locs ls hl hG h
  have n70 : ∀ (v_nearTo : Nat → Int32) (H : Heap) (locs : List Loc) (ls : Array Slot), lv_has ls 4 [] → GW g s (mkS σ [] [] [(76, v_nearTo)] []) H locs → M_findNear_n70 v_nearTo = some w_nearTo → Wg p l e 0 0 s m args below meth c g none (mkS σ [] [] [(76, w_nearTo)] []) H locs (F0 m 70 ls []) := by
    intro v_nearTo H locs ls hl hG h
    unfold M_findNear_n70 at h
    cases h
    exact gx_vret hx hb hr hlocks hG dX9_findNear_70
  have n2 : ∀ (k2 : Int32 → Int32 → (Nat → Int32) → Option ((Nat → Int32))) (hk2 : ∀ (x1 : Int32) (x2 : Int32) (v_nearTo : Nat → Int32) (H : Heap) (locs : List Loc) (ls : Array Slot), lv_has ls 4 [(0, .ref (g.2.1 50)), (1, .int x1), (2, .int x2)] → GW g s (mkS σ [] [] [(76, v_nearTo)] []) H locs → k2 x1 x2 v_nearTo = some w_nearTo → Wg p l e 0 0 s m args below meth c g none (mkS σ [] [] [(76, w_nearTo)] []) H locs (F0 m 2 ls [])) (x1 : Int32) (x2 : Int32) (v_nearTo : Nat → Int32) (H : Heap) (locs : List Loc) (ls : Array Slot), lv_has ls 4 [(0, .ref (g.2.1 50)), (1, .int x1), (2, .int x2)] → GW g s (mkS σ [] [] [(76, v_nearTo)] []) H locs → M_findNear_n2 k2 (σ.1 3203) (σ.2.2.1 59) x1 x2 v_nearTo = some w_nearTo → Wg p l e 0 0 s m args below meth c g none (mkS σ [] [] [(76, w_nearTo)] []) H locs (F0 m 2 ls []) := by
    intro k2 hk2 x1 x2 v_nearTo H locs ls hl hG h
    unfold M_findNear_n2 at h
    refine lv_iload_n hx hb dX9_findNear_2 rfl (lv_at hl 2 rfl) ?_
    refine lv_aload_n hx hb dX9_findNear_3 rfl (lv_at hl 0 rfl) ?_
    refine gx_get (v := .int (σ.1 3203)) (C := RX9) (T := TX9) (N := 44) hx hb hts hinX9 hown hK hG (ga_50 g _) rfl 3 (by decide) hw0 rfl rfl dX9_findNear_4 ?_
    refine lv_icmp_ge (tgt := 70) hx hb dX9_findNear_7 (by decide) (fun c6 => ?_) (fun c6 => ?_)
    · have h := ite_t c6 h
      exact n70 v_nearTo _ _ _ (lv_sub hl [] rfl) hG h
    · have h := ite_f c6 h
      refine lv_aload_n hx hb dX9_findNear_10 rfl (lv_at hl 0 rfl) ?_
      refine gx_get (v := .ref (g.2.1 76)) (C := RX9) (T := TX9) (N := 44) hx hb hts hinX9 hown hK hG (ga_50 g _) rfl 36 (by decide) hw1 rfl rfl dX9_findNear_11 ?_
      refine lv_iload_n hx hb dX9_findNear_14 rfl (lv_at hl 2 rfl) ?_
      refine lv_iconst (v := (0 : Int32)) hx hb dX9_findNear_15 (by decide) ?_
      obtain ⟨hg7, h⟩ := gd_some h
      refine gx_iast (σ' := (mkS σ [] [] [(76, (upd v_nearTo (x2.toNatClampNeg) (0 : Int32)))] [])) (f := v_nearTo) hx hb hK hG (ga_76 g _) hg7 ((gs_76 g _ _).trans (congrArg (g_cells g) (mk_c 0 rfl rfl))) dX9_findNear_16 (fun H locs hG => ?_)
      refine lv_iconst (v := (0 : Int32)) hx hb dX9_findNear_17 (by decide) ?_
      refine lv_istore_n (lv' := [(3, .int (0 : Int32)), (0, .ref (g.2.1 50)), (1, .int x1), (2, .int x2)]) hx hb dX9_findNear_18 rfl hl (Nat.le_of_ble_eq_true rfl) rfl (fun ls hl => ?_)
      exact l19 k2 hk2 FUEL x1 x2 (0 : Int32) (upd v_nearTo (x2.toNatClampNeg) (0 : Int32)) _ _ _ (lv_sub hl [1, 2, 3, 0] rfl) hG h
  have l2 : ∀  (F : Nat) (x1 : Int32) (x2 : Int32) (v_nearTo : Nat → Int32) (H : Heap) (locs : List Loc) (ls : Array Slot), lv_has ls 4 [(0, .ref (g.2.1 50)), (1, .int x1), (2, .int x2)] → GW g s (mkS σ [] [] [(76, v_nearTo)] []) H locs → M_findNear_l2 (σ.1 3203) (σ.2.2.1 59) F x1 x2 v_nearTo = some w_nearTo → Wg p l e 0 0 s m args below meth c g none (mkS σ [] [] [(76, w_nearTo)] []) H locs (F0 m 2 ls []) := by
    intro F
    induction F with
    | zero => intro x1 x2 v_nearTo H locs ls hl hG h; exact no_some h
    | succ F ih => intro x1 x2 v_nearTo H locs ls hl hG h; exact n2 (fun x1 x2 v_nearTo => M_findNear_l2 (σ.1 3203) (σ.2.2.1 59) F x1 x2 v_nearTo) ih x1 x2 v_nearTo H locs ls hl hG h
  refine lv_iconst (v := (0 : Int32)) hx hb dX9_findNear_0 (by decide) ?_
  refine lv_istore_n (lv' := [(2, .int (0 : Int32)), (0, .ref (g.2.1 50)), (1, .int x1)]) hx hb dX9_findNear_1 rfl hl (Nat.le_of_ble_eq_true rfl) rfl (fun ls hl => ?_)
  exact l2 FUEL x1 (0 : Int32) (σ.2.2.1 76) _ _ _ (lv_sub hl [1, 2, 0] rfl) hG h

set_option maxHeartbeats 4000000 in
set_option maxRecDepth 100000 in
theorem c_M_uncovered (l : Launch) (g : GC) (σ : St) (r : Int32) (h : M_uncovered (σ.1 3203) (σ.1 3235) (σ.2.2.1 77) = some r) : Cn l g yX9_uncovered wsX9_uncovered 0 0 [.ref (g.2.1 50)] σ (some (.int r)) σ := by
  unfold Cn
  refine Met.ofW (cc := cX9_uncovered) (maxL := 2) (ret := (some .int)) (by decide) rfl ?_
  intro p e s m args below meth c s₁ B hml hv
  obtain ⟨hargs, hP0, hK⟩ := hv
  have hx := B.exec
  have hb := B.bytes
  have hr := B.returns
  have hts := atoms_spec (ws := wsX9_uncovered) B.pre
  have hown : s.vm.findClass RX9 = some m.cls := findClass_of_methodNamed B.named
  have hlocks := B.notSynchronized
  have hinX9 : ∀ w ∈ wsX90, w ∈ wsX9_uncovered := fun w h => List.mem_cons_of_mem _ (List.mem_append_right _ (h))
  have hw0 := hts (.fieldLink RX9 116 "LikeNetsModel" "posts" "I") (List.mem_of_getElem? (i := 1) rfl)
  have hw1 := hts (.fieldLink RX9 94 "LikeNetsModel" "coveredAt" "[I") (List.mem_of_getElem? (i := 2) rfl)
  have hw2 := hts (.fieldLink RX9 297 "LikeNetsModel" "takenMany" "I") (List.mem_of_getElem? (i := 3) rfl)
  have hf9 : entryFrame m args 2 = _ := (congrArg (fun a => entryFrame m a 2) hargs).trans (lg_entry_eq m [.ref (g.2.1 50)] 2)
  show Wg p l e 0 0 s m args below meth c g (some (.int r)) σ s.heap [] (entryFrame m args 2)
  rw [hf9]
  have hl := lv_entry ([.ref (g.2.1 50)]) (n := 2) (Nat.le_of_ble_eq_true rfl)
  generalize (lg_sl ([.ref (g.2.1 50)]) ++ List.replicate (2 - (lg_sl ([.ref (g.2.1 50)])).length) Slot.unset).toArray = ls at hl ⊢
  have hl : lv_has ls 2 [(0, .ref (g.2.1 50))] := hl
  have hG : GW g s σ s.heap [] := ⟨hP0, va_S.rf⟩
  unfold M_uncovered at h
  have n33 : ∀ (x1 : Int32) (H : Heap) (locs : List Loc) (ls : Array Slot), lv_has ls 2 [(1, .int x1)] → GW g s σ H locs → M_uncovered_n33 x1 = some r → Wg p l e 0 0 s m args below meth c g (some (.int r)) σ H locs (F0 m 33 ls []) := by
    intro x1 H locs ls hl hG h
    unfold M_uncovered_n33 at h
    refine lv_iload_n hx hb dX9_uncovered_33 rfl (lv_at hl 0 rfl) ?_
    cases h
    exact gx_iret hx hb hr hlocks hG dX9_uncovered_34
  have n2 : ∀ (k2 : Int32 → Option (Int32)) (hk2 : ∀ (x1 : Int32) (H : Heap) (locs : List Loc) (ls : Array Slot), lv_has ls 2 [(0, .ref (g.2.1 50)), (1, .int x1)] → GW g s σ H locs → k2 x1 = some r → Wg p l e 0 0 s m args below meth c g (some (.int r)) σ H locs (F0 m 2 ls [])) (x1 : Int32) (H : Heap) (locs : List Loc) (ls : Array Slot), lv_has ls 2 [(0, .ref (g.2.1 50)), (1, .int x1)] → GW g s σ H locs → M_uncovered_n2 k2 (σ.1 3203) (σ.1 3235) (σ.2.2.1 77) x1 = some r → Wg p l e 0 0 s m args below meth c g (some (.int r)) σ H locs (F0 m 2 ls []) := by
    intro k2 hk2 x1 H locs ls hl hG h
    unfold M_uncovered_n2 at h
    refine lv_iload_n hx hb dX9_uncovered_2 rfl (lv_at hl 1 rfl) ?_
    refine lv_aload_n hx hb dX9_uncovered_3 rfl (lv_at hl 0 rfl) ?_
    refine gx_get (v := .int (σ.1 3203)) (C := RX9) (T := TX9) (N := 44) hx hb hts hinX9 hown hK hG (ga_50 g _) rfl 3 (by decide) hw0 rfl rfl dX9_uncovered_4 ?_
    refine lv_icmp_ge (tgt := 33) hx hb dX9_uncovered_7 (by decide) (fun c1 => ?_) (fun c1 => ?_)
    · have h := ite_t c1 h
      exact n33 x1 _ _ _ (lv_sub hl [1] rfl) hG h
    · have h := ite_f c1 h
      refine lv_aload_n hx hb dX9_uncovered_10 rfl (lv_at hl 0 rfl) ?_
      refine gx_get (v := .ref (g.2.1 77)) (C := RX9) (T := TX9) (N := 44) hx hb hts hinX9 hown hK hG (ga_50 g _) rfl 37 (by decide) hw1 rfl rfl dX9_uncovered_11 ?_
      refine lv_aload_n hx hb dX9_uncovered_14 rfl (lv_at hl 0 rfl) ?_
      refine gx_get (v := .int (σ.1 3235)) (C := RX9) (T := TX9) (N := 44) hx hb hts hinX9 hown hK hG (ga_50 g _) rfl 35 (by decide) hw2 rfl rfl dX9_uncovered_15 ?_
      obtain ⟨hg2, h⟩ := gd_some h
      refine gx_iald (f := (σ.2.2.1 77)) hx hb hK hG (ga_77 g _) hg2 dX9_uncovered_18 ?_
      refine lv_iload_n hx hb dX9_uncovered_19 rfl (lv_at hl 1 rfl) ?_
      refine lv_ishr hx hb dX9_uncovered_20 ?_
      refine lv_iconst (v := (1 : Int32)) hx hb dX9_uncovered_21 (by decide) ?_
      refine lv_iand hx hb dX9_uncovered_22 ?_
      refine lv_iconst (v := (1 : Int32)) hx hb dX9_uncovered_23 (by decide) ?_
      refine lv_icmp_ne (tgt := 33) hx hb dX9_uncovered_24 (by decide) (fun c3 => ?_) (fun c3 => ?_)
      · have h := ite_f c3 h
        exact n33 x1 _ _ _ (lv_sub hl [1] rfl) hG h
      · have h := ite_t c3 h
        refine lv_iinc (v := (x1 + (1 : Int32))) (lv' := [(1, .int (x1 + (1 : Int32))), (0, .ref (g.2.1 50))]) hx hb dX9_uncovered_27 hl (k := 1) rfl (congrArg (fun z => x1 + z) (by decide)) (Nat.le_of_ble_eq_true rfl) rfl (fun ls hl => ?_)
        refine lv_goto (tgt := 2) hx hb dX9_uncovered_30 (by decide) ?_
        exact hk2 (x1 + (1 : Int32)) _ _ _ (lv_sub hl [1, 0] rfl) hG h
  have l2 : ∀  (F : Nat) (x1 : Int32) (H : Heap) (locs : List Loc) (ls : Array Slot), lv_has ls 2 [(0, .ref (g.2.1 50)), (1, .int x1)] → GW g s σ H locs → M_uncovered_l2 (σ.1 3203) (σ.1 3235) (σ.2.2.1 77) F x1 = some r → Wg p l e 0 0 s m args below meth c g (some (.int r)) σ H locs (F0 m 2 ls []) := by
    intro F
    induction F with
    | zero => intro x1 H locs ls hl hG h; exact no_some h
    | succ F ih => intro x1 H locs ls hl hG h; exact n2 (fun x1 => M_uncovered_l2 (σ.1 3203) (σ.1 3235) (σ.2.2.1 77) F x1) ih x1 H locs ls hl hG h
  refine lv_iconst (v := (0 : Int32)) hx hb dX9_uncovered_0 (by decide) ?_
  refine lv_istore_n (lv' := [(1, .int (0 : Int32)), (0, .ref (g.2.1 50))]) hx hb dX9_uncovered_1 rfl hl (Nat.le_of_ble_eq_true rfl) rfl (fun ls hl => ?_)
  exact l2 FUEL (0 : Int32) _ _ _ (lv_sub hl [1, 0] rfl) hG h

set_option maxHeartbeats 4000000 in
set_option maxRecDepth 100000 in
theorem c_M_find (l : Launch) (g : GC) (σ : St) (x1 : Int32) (r : Int32) (w_far : Int32) (w_heaps : Int32) (w_isMeasured : Int32) (w_takenMany : Int32) (w_coveredAt : Nat → Int32) (w_nearTo : Nat → Int32) (w_taken : Nat → Int32) (w_tried : Nat → Int32) (w_wayOf : Nat → Int32) (h : M_find x1 (σ.1 3214) (σ.1 3215) (σ.1 3212) (σ.1 3203) (σ.1 3235) (σ.2.2.1 77) (σ.2.2.1 76) (σ.2.2.1 54) (σ.2.2.1 74) (σ.2.2.1 75) (σ.2.2.1 59) = some (r, w_far, w_heaps, w_isMeasured, w_takenMany, w_coveredAt, w_nearTo, w_taken, w_tried, w_wayOf)) : Cn l g yX9_find wsX9_find 2 47 [.ref (g.2.1 50), .int x1] σ (some (.int r)) (mkS σ [(3214, w_far), (3215, w_heaps), (3212, w_isMeasured), (3235, w_takenMany)] [] [(77, w_coveredAt), (76, w_nearTo), (74, w_taken), (75, w_tried), (59, w_wayOf)] []) := by
  unfold Cn
  refine Met.ofW (cc := cX9_find) (maxL := 5) (ret := (some .int)) (by decide) rfl ?_
  intro p e s m args below meth c s₁ B hml hv
  obtain ⟨hargs, hP0, hK⟩ := hv
  have hx := B.exec
  have hb := B.bytes
  have hr := B.returns
  have hts := atoms_spec (ws := wsX9_find) B.pre
  have hown : s.vm.findClass RX9 = some m.cls := findClass_of_methodNamed B.named
  have hlocks := B.notSynchronized
  have hS9 : CallFix p m c cX9_find 5 s args wsX9_find RX9 := ⟨hx, hb, hml, hown, hts⟩
  have hinX9 : ∀ w ∈ wsX90, w ∈ wsX9_find := fun w h => List.mem_cons_of_mem _ (List.mem_append_right _ (h))
  have hw0 := hts (.fieldLink RX9 88 "LikeNetsModel" "tried" "[I") (List.mem_of_getElem? (i := 4) rfl)
  have hw1 := hts (.fieldLink RX9 297 "LikeNetsModel" "takenMany" "I") (List.mem_of_getElem? (i := 3) rfl)
  have hw2 := hts (.fieldLink RX9 116 "LikeNetsModel" "posts" "I") (List.mem_of_getElem? (i := 2) rfl)
  have hw3 := hts (.fieldLink RX9 85 "LikeNetsModel" "taken" "[I") (List.mem_of_getElem? (i := 7) rfl)
  have hw4 := hts (.fieldLink RX9 94 "LikeNetsModel" "coveredAt" "[I") (List.mem_of_getElem? (i := 5) rfl)
  have hw5 := hts (.fieldLink RX9 91 "LikeNetsModel" "nearTo" "[I") (List.mem_of_getElem? (i := 6) rfl)
  have hw6 := hts (.constantLong RX9 283 (6)) (List.mem_of_getElem? (i := 1) rfl)
  have hf9 : entryFrame m args 5 = _ := (congrArg (fun a => entryFrame m a 5) hargs).trans (lg_entry_eq m [.ref (g.2.1 50), .int x1] 5)
  show Wg p l e 2 47 s m args below meth c g (some (.int r)) (mkS σ [(3214, w_far), (3215, w_heaps), (3212, w_isMeasured), (3235, w_takenMany)] [] [(77, w_coveredAt), (76, w_nearTo), (74, w_taken), (75, w_tried), (59, w_wayOf)] []) s.heap [] (entryFrame m args 5)
  rw [hf9]
  have hl := lv_entry ([.ref (g.2.1 50), .int x1]) (n := 5) (Nat.le_of_ble_eq_true rfl)
  generalize (lg_sl ([.ref (g.2.1 50), .int x1]) ++ List.replicate (5 - (lg_sl ([.ref (g.2.1 50), .int x1])).length) Slot.unset).toArray = ls at hl ⊢
  have hl : lv_has ls 5 [(0, .ref (g.2.1 50)), (1, .int x1)] := hl
  have hG : GW g s σ s.heap [] := ⟨hP0, va_S.rf⟩
  have hG : GW g s (mkS σ [(3214, (σ.1 3214)), (3215, (σ.1 3215)), (3212, (σ.1 3212)), (3235, (σ.1 3235))] [] [(77, (σ.2.2.1 77)), (76, (σ.2.2.1 76)), (74, (σ.2.2.1 74)), (75, (σ.2.2.1 75)), (59, (σ.2.2.1 59))] []) s.heap [] := GW_self [3214, 3215, 3212, 3235] [] [77, 76, 74, 75, 59] [] hG
  unfold M_find at h
  have n74 : ∀ (v_far : Int32) (v_heaps : Int32) (v_isMeasured : Int32) (v_takenMany : Int32) (v_coveredAt : Nat → Int32) (v_nearTo : Nat → Int32) (v_taken : Nat → Int32) (v_tried : Nat → Int32) (v_wayOf : Nat → Int32) (H : Heap) (locs : List Loc) (ls : Array Slot), lv_has ls 5 [] → GW g s (mkS σ [(3214, v_far), (3215, v_heaps), (3212, v_isMeasured), (3235, v_takenMany)] [] [(77, v_coveredAt), (76, v_nearTo), (74, v_taken), (75, v_tried), (59, v_wayOf)] []) H locs → M_find_n74 v_far v_heaps v_isMeasured v_takenMany v_coveredAt v_nearTo v_taken v_tried v_wayOf = some (r, w_far, w_heaps, w_isMeasured, w_takenMany, w_coveredAt, w_nearTo, w_taken, w_tried, w_wayOf) → Wg p l e 2 47 s m args below meth c g (some (.int r)) (mkS σ [(3214, w_far), (3215, w_heaps), (3212, w_isMeasured), (3235, w_takenMany)] [] [(77, w_coveredAt), (76, w_nearTo), (74, w_taken), (75, w_tried), (59, w_wayOf)] []) H locs (F0 m 74 ls []) := by
    intro v_far v_heaps v_isMeasured v_takenMany v_coveredAt v_nearTo v_taken v_tried v_wayOf H locs ls hl hG h
    unfold M_find_n74 at h
    refine lv_iconst (v := (0 : Int32)) hx hb dX9_find_74 (by decide) ?_
    cases h
    exact gx_iret hx hb hr hlocks hG dX9_find_75
  have n132 : ∀ (k89 : Int32 → Int32 → Int32 → Int32 → Int32 → Int32 → Int32 → (Nat → Int32) → (Nat → Int32) → (Nat → Int32) → (Nat → Int32) → (Nat → Int32) → Option (Int32 × Int32 × Int32 × Int32 × Int32 × (Nat → Int32) × (Nat → Int32) × (Nat → Int32) × (Nat → Int32) × (Nat → Int32))) (hk89 : ∀ (x2 : Int32) (x3 : Int32) (x4 : Int32) (v_far : Int32) (v_heaps : Int32) (v_isMeasured : Int32) (v_takenMany : Int32) (v_coveredAt : Nat → Int32) (v_nearTo : Nat → Int32) (v_taken : Nat → Int32) (v_tried : Nat → Int32) (v_wayOf : Nat → Int32) (H : Heap) (locs : List Loc) (ls : Array Slot), lv_has ls 5 [(0, .ref (g.2.1 50)), (2, .int x2), (3, .int x3), (4, .int x4)] → GW g s (mkS σ [(3214, v_far), (3215, v_heaps), (3212, v_isMeasured), (3235, v_takenMany)] [] [(77, v_coveredAt), (76, v_nearTo), (74, v_taken), (75, v_tried), (59, v_wayOf)] []) H locs → k89 x2 x3 x4 v_far v_heaps v_isMeasured v_takenMany v_coveredAt v_nearTo v_taken v_tried v_wayOf = some (r, w_far, w_heaps, w_isMeasured, w_takenMany, w_coveredAt, w_nearTo, w_taken, w_tried, w_wayOf) → Wg p l e 2 47 s m args below meth c g (some (.int r)) (mkS σ [(3214, w_far), (3215, w_heaps), (3212, w_isMeasured), (3235, w_takenMany)] [] [(77, w_coveredAt), (76, w_nearTo), (74, w_taken), (75, w_tried), (59, w_wayOf)] []) H locs (F0 m 89 ls [])) (x2 : Int32) (x3 : Int32) (x4 : Int32) (v_far : Int32) (v_heaps : Int32) (v_isMeasured : Int32) (v_takenMany : Int32) (v_coveredAt : Nat → Int32) (v_nearTo : Nat → Int32) (v_taken : Nat → Int32) (v_tried : Nat → Int32) (v_wayOf : Nat → Int32) (H : Heap) (locs : List Loc) (ls : Array Slot), lv_has ls 5 [(0, .ref (g.2.1 50)), (2, .int x2), (3, .int x3), (4, .int x4)] → GW g s (mkS σ [(3214, v_far), (3215, v_heaps), (3212, v_isMeasured), (3235, v_takenMany)] [] [(77, v_coveredAt), (76, v_nearTo), (74, v_taken), (75, v_tried), (59, v_wayOf)] []) H locs → M_find_n132 k89 x2 x3 x4 v_far v_heaps v_isMeasured v_takenMany v_coveredAt v_nearTo v_taken v_tried v_wayOf = some (r, w_far, w_heaps, w_isMeasured, w_takenMany, w_coveredAt, w_nearTo, w_taken, w_tried, w_wayOf) → Wg p l e 2 47 s m args below meth c g (some (.int r)) (mkS σ [(3214, w_far), (3215, w_heaps), (3212, w_isMeasured), (3235, w_takenMany)] [] [(77, w_coveredAt), (76, w_nearTo), (74, w_taken), (75, w_tried), (59, w_wayOf)] []) H locs (F0 m 132 ls []) := by
    intro k89 hk89 x2 x3 x4 v_far v_heaps v_isMeasured v_takenMany v_coveredAt v_nearTo v_taken v_tried v_wayOf H locs ls hl hG h
    unfold M_find_n132 at h
    refine lv_iinc (v := (x4 + (1 : Int32))) (lv' := [(4, .int (x4 + (1 : Int32))), (0, .ref (g.2.1 50)), (2, .int x2), (3, .int x3)]) hx hb dX9_find_132 hl (k := 3) rfl (congrArg (fun z => x4 + z) (by decide)) (Nat.le_of_ble_eq_true rfl) rfl (fun ls hl => ?_)
    refine lv_goto (tgt := 89) hx hb dX9_find_135 (by decide) ?_
    exact hk89 x2 x3 (x4 + (1 : Int32)) v_far v_heaps v_isMeasured v_takenMany v_coveredAt v_nearTo v_taken v_tried v_wayOf _ _ _ (lv_sub hl [1, 2, 3, 0] rfl) hG h
  have n178 : ∀ (v_far : Int32) (v_heaps : Int32) (v_isMeasured : Int32) (v_takenMany : Int32) (v_coveredAt : Nat → Int32) (v_nearTo : Nat → Int32) (v_taken : Nat → Int32) (v_tried : Nat → Int32) (v_wayOf : Nat → Int32) (H : Heap) (locs : List Loc) (ls : Array Slot), lv_has ls 5 [] → GW g s (mkS σ [(3214, v_far), (3215, v_heaps), (3212, v_isMeasured), (3235, v_takenMany)] [] [(77, v_coveredAt), (76, v_nearTo), (74, v_taken), (75, v_tried), (59, v_wayOf)] []) H locs → M_find_n178 v_far v_heaps v_isMeasured v_takenMany v_coveredAt v_nearTo v_taken v_tried v_wayOf = some (r, w_far, w_heaps, w_isMeasured, w_takenMany, w_coveredAt, w_nearTo, w_taken, w_tried, w_wayOf) → Wg p l e 2 47 s m args below meth c g (some (.int r)) (mkS σ [(3214, w_far), (3215, w_heaps), (3212, w_isMeasured), (3235, w_takenMany)] [] [(77, w_coveredAt), (76, w_nearTo), (74, w_taken), (75, w_tried), (59, w_wayOf)] []) H locs (F0 m 178 ls []) := by
    intro v_far v_heaps v_isMeasured v_takenMany v_coveredAt v_nearTo v_taken v_tried v_wayOf H locs ls hl hG h
    unfold M_find_n178 at h
    refine lv_bipush (v := (-7 : Int32)) hx hb dX9_find_178 (by decide) ?_
    cases h
    exact gx_iret hx hb hr hlocks hG dX9_find_180
  have n243 : ∀ (k54 : Int32 → Int32 → Int32 → Int32 → Int32 → (Nat → Int32) → (Nat → Int32) → (Nat → Int32) → (Nat → Int32) → (Nat → Int32) → Option (Int32 × Int32 × Int32 × Int32 × Int32 × (Nat → Int32) × (Nat → Int32) × (Nat → Int32) × (Nat → Int32) × (Nat → Int32))) (hk54 : ∀ (x2 : Int32) (v_far : Int32) (v_heaps : Int32) (v_isMeasured : Int32) (v_takenMany : Int32) (v_coveredAt : Nat → Int32) (v_nearTo : Nat → Int32) (v_taken : Nat → Int32) (v_tried : Nat → Int32) (v_wayOf : Nat → Int32) (H : Heap) (locs : List Loc) (ls : Array Slot), lv_has ls 5 [(0, .ref (g.2.1 50)), (2, .int x2)] → GW g s (mkS σ [(3214, v_far), (3215, v_heaps), (3212, v_isMeasured), (3235, v_takenMany)] [] [(77, v_coveredAt), (76, v_nearTo), (74, v_taken), (75, v_tried), (59, v_wayOf)] []) H locs → k54 x2 v_far v_heaps v_isMeasured v_takenMany v_coveredAt v_nearTo v_taken v_tried v_wayOf = some (r, w_far, w_heaps, w_isMeasured, w_takenMany, w_coveredAt, w_nearTo, w_taken, w_tried, w_wayOf) → Wg p l e 2 47 s m args below meth c g (some (.int r)) (mkS σ [(3214, w_far), (3215, w_heaps), (3212, w_isMeasured), (3235, w_takenMany)] [] [(77, w_coveredAt), (76, w_nearTo), (74, w_taken), (75, w_tried), (59, w_wayOf)] []) H locs (F0 m 54 ls [])) (x2 : Int32) (v_far : Int32) (v_heaps : Int32) (v_isMeasured : Int32) (v_takenMany : Int32) (v_coveredAt : Nat → Int32) (v_nearTo : Nat → Int32) (v_taken : Nat → Int32) (v_tried : Nat → Int32) (v_wayOf : Nat → Int32) (H : Heap) (locs : List Loc) (ls : Array Slot), lv_has ls 5 [(0, .ref (g.2.1 50)), (2, .int x2)] → GW g s (mkS σ [(3214, v_far), (3215, v_heaps), (3212, v_isMeasured), (3235, v_takenMany)] [] [(77, v_coveredAt), (76, v_nearTo), (74, v_taken), (75, v_tried), (59, v_wayOf)] []) H locs → M_find_n243 k54 x2 v_far v_heaps v_isMeasured v_takenMany v_coveredAt v_nearTo v_taken v_tried v_wayOf = some (r, w_far, w_heaps, w_isMeasured, w_takenMany, w_coveredAt, w_nearTo, w_taken, w_tried, w_wayOf) → Wg p l e 2 47 s m args below meth c g (some (.int r)) (mkS σ [(3214, w_far), (3215, w_heaps), (3212, w_isMeasured), (3235, w_takenMany)] [] [(77, w_coveredAt), (76, w_nearTo), (74, w_taken), (75, w_tried), (59, w_wayOf)] []) H locs (F0 m 243 ls []) := by
    intro k54 hk54 x2 v_far v_heaps v_isMeasured v_takenMany v_coveredAt v_nearTo v_taken v_tried v_wayOf H locs ls hl hG h
    unfold M_find_n243 at h
    refine lv_goto (tgt := 54) hx hb dX9_find_243 (by decide) ?_
    exact hk54 x2 v_far v_heaps v_isMeasured v_takenMany v_coveredAt v_nearTo v_taken v_tried v_wayOf _ _ _ (lv_sub hl [0, 1] rfl) hG h
  have n138 : ∀ (k54 : Int32 → Int32 → Int32 → Int32 → Int32 → (Nat → Int32) → (Nat → Int32) → (Nat → Int32) → (Nat → Int32) → (Nat → Int32) → Option (Int32 × Int32 × Int32 × Int32 × Int32 × (Nat → Int32) × (Nat → Int32) × (Nat → Int32) × (Nat → Int32) × (Nat → Int32))) (hk54 : ∀ (x2 : Int32) (v_far : Int32) (v_heaps : Int32) (v_isMeasured : Int32) (v_takenMany : Int32) (v_coveredAt : Nat → Int32) (v_nearTo : Nat → Int32) (v_taken : Nat → Int32) (v_tried : Nat → Int32) (v_wayOf : Nat → Int32) (H : Heap) (locs : List Loc) (ls : Array Slot), lv_has ls 5 [(0, .ref (g.2.1 50)), (2, .int x2)] → GW g s (mkS σ [(3214, v_far), (3215, v_heaps), (3212, v_isMeasured), (3235, v_takenMany)] [] [(77, v_coveredAt), (76, v_nearTo), (74, v_taken), (75, v_tried), (59, v_wayOf)] []) H locs → k54 x2 v_far v_heaps v_isMeasured v_takenMany v_coveredAt v_nearTo v_taken v_tried v_wayOf = some (r, w_far, w_heaps, w_isMeasured, w_takenMany, w_coveredAt, w_nearTo, w_taken, w_tried, w_wayOf) → Wg p l e 2 47 s m args below meth c g (some (.int r)) (mkS σ [(3214, w_far), (3215, w_heaps), (3212, w_isMeasured), (3235, w_takenMany)] [] [(77, w_coveredAt), (76, w_nearTo), (74, w_taken), (75, w_tried), (59, w_wayOf)] []) H locs (F0 m 54 ls [])) (x2 : Int32) (x4 : Int32) (v_far : Int32) (v_heaps : Int32) (v_isMeasured : Int32) (v_takenMany : Int32) (v_coveredAt : Nat → Int32) (v_nearTo : Nat → Int32) (v_taken : Nat → Int32) (v_tried : Nat → Int32) (v_wayOf : Nat → Int32) (H : Heap) (locs : List Loc) (ls : Array Slot), lv_has ls 5 [(0, .ref (g.2.1 50)), (2, .int x2), (4, .int x4)] → GW g s (mkS σ [(3214, v_far), (3215, v_heaps), (3212, v_isMeasured), (3235, v_takenMany)] [] [(77, v_coveredAt), (76, v_nearTo), (74, v_taken), (75, v_tried), (59, v_wayOf)] []) H locs → M_find_n138 k54 (σ.1 3203) x2 x4 v_far v_heaps v_isMeasured v_takenMany v_coveredAt v_nearTo v_taken v_tried v_wayOf = some (r, w_far, w_heaps, w_isMeasured, w_takenMany, w_coveredAt, w_nearTo, w_taken, w_tried, w_wayOf) → Wg p l e 2 47 s m args below meth c g (some (.int r)) (mkS σ [(3214, w_far), (3215, w_heaps), (3212, w_isMeasured), (3235, w_takenMany)] [] [(77, w_coveredAt), (76, w_nearTo), (74, w_taken), (75, w_tried), (59, w_wayOf)] []) H locs (F0 m 138 ls []) := by
    intro k54 hk54 x2 x4 v_far v_heaps v_isMeasured v_takenMany v_coveredAt v_nearTo v_taken v_tried v_wayOf H locs ls hl hG h
    unfold M_find_n138 at h
    refine lv_aload_n hx hb dX9_find_138 rfl (lv_at hl 0 rfl) ?_
    refine gx_get (v := .ref (g.2.1 75)) (C := RX9) (T := TX9) (N := 44) hx hb hts hinX9 hown hK hG (ga_50 g _) rfl 34 (by decide) hw0 rfl rfl dX9_find_139 ?_
    refine lv_aload_n hx hb dX9_find_142 rfl (lv_at hl 0 rfl) ?_
    refine gx_get (v := .int v_takenMany) (C := RX9) (T := TX9) (N := 44) hx hb hts hinX9 hown hK hG (ga_50 g _) rfl 35 (by decide) hw1 rfl rfl dX9_find_143 ?_
    refine lv_iload hx hb dX9_find_146 (lv_at hl 2 rfl) ?_
    obtain ⟨hg1, h⟩ := gd_some h
    refine gx_iast (σ' := (mkS σ [(3214, v_far), (3215, v_heaps), (3212, v_isMeasured), (3235, v_takenMany)] [] [(77, v_coveredAt), (76, v_nearTo), (74, v_taken), (75, (upd v_tried (v_takenMany.toNatClampNeg) x4)), (59, v_wayOf)] [])) (f := v_tried) hx hb hK hG (ga_75 g _) hg1 ((gs_75 g _ _).trans (congrArg (g_cells g) (mk_c 3 rfl rfl))) dX9_find_148 (fun H locs hG => ?_)
    refine lv_iload hx hb dX9_find_149 (lv_at hl 2 rfl) ?_
    refine lv_aload_n hx hb dX9_find_151 rfl (lv_at hl 0 rfl) ?_
    refine gx_get (v := .int (σ.1 3203)) (C := RX9) (T := TX9) (N := 44) hx hb hts hinX9 hown hK hG (ga_50 g _) rfl 3 (by decide) hw2 rfl rfl dX9_find_152 ?_
    refine lv_icmp_ne (tgt := 171) hx hb dX9_find_155 (by decide) (fun c2 => ?_) (fun c2 => ?_)
    · have h := ite_f c2 h
      refine lv_iload_n hx hb dX9_find_171 rfl (lv_at hl 1 rfl) ?_
      refine lv_sipush (v := (20000 : Int32)) hx hb dX9_find_172 (by decide) ?_
      refine lv_icmp_ne (tgt := 181) hx hb dX9_find_175 (by decide) (fun c3 => ?_) (fun c3 => ?_)
      · have h := ite_f c3 h
        refine lv_iinc (v := (x2 + (1 : Int32))) (lv' := [(2, .int (x2 + (1 : Int32))), (0, .ref (g.2.1 50)), (4, .int x4)]) hx hb dX9_find_181 hl (k := 1) rfl (congrArg (fun z => x2 + z) (by decide)) (Nat.le_of_ble_eq_true rfl) rfl (fun ls hl => ?_)
        refine lv_aload_n hx hb dX9_find_184 rfl (lv_at hl 1 rfl) ?_
        refine gx_get (v := .ref (g.2.1 74)) (C := RX9) (T := TX9) (N := 44) hx hb hts hinX9 hown hK hG (ga_50 g _) rfl 33 (by decide) hw3 rfl rfl dX9_find_185 ?_
        refine lv_aload_n hx hb dX9_find_188 rfl (lv_at hl 1 rfl) ?_
        refine gx_get (v := .int v_takenMany) (C := RX9) (T := TX9) (N := 44) hx hb hts hinX9 hown hK hG (ga_50 g _) rfl 35 (by decide) hw1 rfl rfl dX9_find_189 ?_
        refine lv_iload hx hb dX9_find_192 (lv_at hl 2 rfl) ?_
        refine gx_iast (σ' := (mkS σ [(3214, v_far), (3215, v_heaps), (3212, v_isMeasured), (3235, v_takenMany)] [] [(77, v_coveredAt), (76, v_nearTo), (74, (upd v_taken (v_takenMany.toNatClampNeg) x4)), (75, (upd v_tried (v_takenMany.toNatClampNeg) x4)), (59, v_wayOf)] [])) (f := v_taken) hx hb hK hG (ga_74 g _) hg1 ((gs_74 g _ _).trans (congrArg (g_cells g) (mk_c 2 rfl rfl))) dX9_find_194 (fun H locs hG => ?_)
        refine lv_aload_n hx hb dX9_find_195 rfl (lv_at hl 1 rfl) ?_
        refine gx_get (v := .ref (g.2.1 77)) (C := RX9) (T := TX9) (N := 44) hx hb hts hinX9 hown hK hG (ga_50 g _) rfl 37 (by decide) hw4 rfl rfl dX9_find_196 ?_
        refine lv_aload_n hx hb dX9_find_199 rfl (lv_at hl 1 rfl) ?_
        refine gx_get (v := .int v_takenMany) (C := RX9) (T := TX9) (N := 44) hx hb hts hinX9 hown hK hG (ga_50 g _) rfl 35 (by decide) hw1 rfl rfl dX9_find_200 ?_
        refine lv_iconst (v := (1 : Int32)) hx hb dX9_find_203 (by decide) ?_
        refine lv_iadd hx hb dX9_find_204 ?_
        refine lv_aload_n hx hb dX9_find_205 rfl (lv_at hl 1 rfl) ?_
        refine gx_get (v := .ref (g.2.1 77)) (C := RX9) (T := TX9) (N := 44) hx hb hts hinX9 hown hK hG (ga_50 g _) rfl 37 (by decide) hw4 rfl rfl dX9_find_206 ?_
        refine lv_aload_n hx hb dX9_find_209 rfl (lv_at hl 1 rfl) ?_
        refine gx_get (v := .int v_takenMany) (C := RX9) (T := TX9) (N := 44) hx hb hts hinX9 hown hK hG (ga_50 g _) rfl 35 (by decide) hw1 rfl rfl dX9_find_210 ?_
        refine gx_iald (f := v_coveredAt) hx hb hK hG (ga_77 g _) hg1 dX9_find_213 ?_
        refine lv_aload_n hx hb dX9_find_214 rfl (lv_at hl 1 rfl) ?_
        refine gx_get (v := .ref (g.2.1 76)) (C := RX9) (T := TX9) (N := 44) hx hb hts hinX9 hown hK hG (ga_50 g _) rfl 36 (by decide) hw5 rfl rfl dX9_find_215 ?_
        refine lv_iload hx hb dX9_find_218 (lv_at hl 2 rfl) ?_
        obtain ⟨hg4, h⟩ := gd_some h
        refine gx_iald (f := v_nearTo) hx hb hK hG (ga_76 g _) hg4 dX9_find_220 ?_
        refine lv_ior hx hb dX9_find_221 ?_
        obtain ⟨hg5, h⟩ := gd_some h
        refine gx_iast (σ' := (mkS σ [(3214, v_far), (3215, v_heaps), (3212, v_isMeasured), (3235, v_takenMany)] [] [(77, (upd v_coveredAt ((v_takenMany + (1 : Int32)).toNatClampNeg) ((v_coveredAt (v_takenMany.toNatClampNeg)) ||| (v_nearTo (x4.toNatClampNeg))))), (76, v_nearTo), (74, (upd v_taken (v_takenMany.toNatClampNeg) x4)), (75, (upd v_tried (v_takenMany.toNatClampNeg) x4)), (59, v_wayOf)] [])) (f := v_coveredAt) hx hb hK hG (ga_77 g _) hg5 ((gs_77 g _ _).trans (congrArg (g_cells g) (mk_c 0 rfl rfl))) dX9_find_222 (fun H locs hG => ?_)
        refine lv_aload_n hx hb dX9_find_223 rfl (lv_at hl 1 rfl) ?_
        refine lv_dup hx hb dX9_find_224 rfl ?_
        refine gx_get (v := .int v_takenMany) (C := RX9) (T := TX9) (N := 44) hx hb hts hinX9 hown hK hG (ga_50 g _) rfl 35 (by decide) hw1 rfl rfl dX9_find_225 ?_
        refine lv_iconst (v := (1 : Int32)) hx hb dX9_find_228 (by decide) ?_
        refine lv_iadd hx hb dX9_find_229 ?_
        refine gx_put (σ' := (mkS σ [(3214, v_far), (3215, v_heaps), (3212, v_isMeasured), (3235, (v_takenMany + (1 : Int32)))] [] [(77, (upd v_coveredAt ((v_takenMany + (1 : Int32)).toNatClampNeg) ((v_coveredAt (v_takenMany.toNatClampNeg)) ||| (v_nearTo (x4.toNatClampNeg))))), (76, v_nearTo), (74, (upd v_taken (v_takenMany.toNatClampNeg) x4)), (75, (upd v_tried (v_takenMany.toNatClampNeg) x4)), (59, v_wayOf)] [])) (C := RX9) (T := TX9) (N := 44) hx hb hts hinX9 tyX9 tyX9_ok nmX9 hown hK hG (ga_50 g _) rfl 35 (by decide) hw1 rfl rfl rfl rfl (Nat.le_of_ble_eq_true rfl) ((gf_3235 g _ _).trans (congrArg (g_cells g) (mk_a 3 rfl rfl))) dX9_find_230 (fun H locs hG => ?_)
        refine lv_aload_n hx hb dX9_find_233 rfl (lv_at hl 1 rfl) ?_
        refine gx_get (v := .ref (g.2.1 75)) (C := RX9) (T := TX9) (N := 44) hx hb hts hinX9 hown hK hG (ga_50 g _) rfl 34 (by decide) hw0 rfl rfl dX9_find_234 ?_
        refine lv_aload_n hx hb dX9_find_237 rfl (lv_at hl 1 rfl) ?_
        refine gx_get (v := .int (v_takenMany + (1 : Int32))) (C := RX9) (T := TX9) (N := 44) hx hb hts hinX9 hown hK hG (ga_50 g _) rfl 35 (by decide) hw1 rfl rfl dX9_find_238 ?_
        refine lv_iconst (v := (-1 : Int32)) hx hb dX9_find_241 (by decide) ?_
        refine gx_iast (σ' := (mkS σ [(3214, v_far), (3215, v_heaps), (3212, v_isMeasured), (3235, (v_takenMany + (1 : Int32)))] [] [(77, (upd v_coveredAt ((v_takenMany + (1 : Int32)).toNatClampNeg) ((v_coveredAt (v_takenMany.toNatClampNeg)) ||| (v_nearTo (x4.toNatClampNeg))))), (76, v_nearTo), (74, (upd v_taken (v_takenMany.toNatClampNeg) x4)), (75, (upd (upd v_tried (v_takenMany.toNatClampNeg) x4) ((v_takenMany + (1 : Int32)).toNatClampNeg) (-1 : Int32))), (59, v_wayOf)] [])) (f := (upd v_tried (v_takenMany.toNatClampNeg) x4)) hx hb hK hG (ga_75 g _) hg5 ((gs_75 g _ _).trans (congrArg (g_cells g) (mk_c 3 rfl rfl))) dX9_find_242 (fun H locs hG => ?_)
        exact n243 k54 hk54 (x2 + (1 : Int32)) v_far v_heaps v_isMeasured (v_takenMany + (1 : Int32)) (upd v_coveredAt ((v_takenMany + (1 : Int32)).toNatClampNeg) ((v_coveredAt (v_takenMany.toNatClampNeg)) ||| (v_nearTo (x4.toNatClampNeg)))) v_nearTo (upd v_taken (v_takenMany.toNatClampNeg) x4) (upd (upd v_tried (v_takenMany.toNatClampNeg) x4) ((v_takenMany + (1 : Int32)).toNatClampNeg) (-1 : Int32)) v_wayOf _ _ _ (lv_sub hl [1, 0] rfl) hG h
      · have h := ite_t c3 h
        exact n178 v_far v_heaps v_isMeasured v_takenMany v_coveredAt v_nearTo v_taken (upd v_tried (v_takenMany.toNatClampNeg) x4) v_wayOf _ _ _ (lv_sub hl [] rfl) hG h
    · have h := ite_t c2 h
      refine lv_aload_n hx hb dX9_find_158 rfl (lv_at hl 0 rfl) ?_
      refine lv_dup hx hb dX9_find_159 rfl ?_
      refine gx_get (v := .int v_takenMany) (C := RX9) (T := TX9) (N := 44) hx hb hts hinX9 hown hK hG (ga_50 g _) rfl 35 (by decide) hw1 rfl rfl dX9_find_160 ?_
      refine lv_iconst (v := (1 : Int32)) hx hb dX9_find_163 (by decide) ?_
      refine lv_isub hx hb dX9_find_164 ?_
      refine gx_put (σ' := (mkS σ [(3214, v_far), (3215, v_heaps), (3212, v_isMeasured), (3235, (v_takenMany - (1 : Int32)))] [] [(77, v_coveredAt), (76, v_nearTo), (74, v_taken), (75, (upd v_tried (v_takenMany.toNatClampNeg) x4)), (59, v_wayOf)] [])) (C := RX9) (T := TX9) (N := 44) hx hb hts hinX9 tyX9 tyX9_ok nmX9 hown hK hG (ga_50 g _) rfl 35 (by decide) hw1 rfl rfl rfl rfl (Nat.le_of_ble_eq_true rfl) ((gf_3235 g _ _).trans (congrArg (g_cells g) (mk_a 3 rfl rfl))) dX9_find_165 (fun H locs hG => ?_)
      refine lv_goto (tgt := 243) hx hb dX9_find_168 (by decide) ?_
      exact n243 k54 hk54 x2 v_far v_heaps v_isMeasured (v_takenMany - (1 : Int32)) v_coveredAt v_nearTo v_taken (upd v_tried (v_takenMany.toNatClampNeg) x4) v_wayOf _ _ _ (lv_sub hl [0, 1] rfl) hG h
  have n89 : ∀ (k54 : Int32 → Int32 → Int32 → Int32 → Int32 → (Nat → Int32) → (Nat → Int32) → (Nat → Int32) → (Nat → Int32) → (Nat → Int32) → Option (Int32 × Int32 × Int32 × Int32 × Int32 × (Nat → Int32) × (Nat → Int32) × (Nat → Int32) × (Nat → Int32) × (Nat → Int32))) (hk54 : ∀ (x2 : Int32) (v_far : Int32) (v_heaps : Int32) (v_isMeasured : Int32) (v_takenMany : Int32) (v_coveredAt : Nat → Int32) (v_nearTo : Nat → Int32) (v_taken : Nat → Int32) (v_tried : Nat → Int32) (v_wayOf : Nat → Int32) (H : Heap) (locs : List Loc) (ls : Array Slot), lv_has ls 5 [(0, .ref (g.2.1 50)), (2, .int x2)] → GW g s (mkS σ [(3214, v_far), (3215, v_heaps), (3212, v_isMeasured), (3235, v_takenMany)] [] [(77, v_coveredAt), (76, v_nearTo), (74, v_taken), (75, v_tried), (59, v_wayOf)] []) H locs → k54 x2 v_far v_heaps v_isMeasured v_takenMany v_coveredAt v_nearTo v_taken v_tried v_wayOf = some (r, w_far, w_heaps, w_isMeasured, w_takenMany, w_coveredAt, w_nearTo, w_taken, w_tried, w_wayOf) → Wg p l e 2 47 s m args below meth c g (some (.int r)) (mkS σ [(3214, w_far), (3215, w_heaps), (3212, w_isMeasured), (3235, w_takenMany)] [] [(77, w_coveredAt), (76, w_nearTo), (74, w_taken), (75, w_tried), (59, w_wayOf)] []) H locs (F0 m 54 ls [])) (k89 : Int32 → Int32 → Int32 → Int32 → Int32 → Int32 → Int32 → (Nat → Int32) → (Nat → Int32) → (Nat → Int32) → (Nat → Int32) → (Nat → Int32) → Option (Int32 × Int32 × Int32 × Int32 × Int32 × (Nat → Int32) × (Nat → Int32) × (Nat → Int32) × (Nat → Int32) × (Nat → Int32))) (hk89 : ∀ (x2 : Int32) (x3 : Int32) (x4 : Int32) (v_far : Int32) (v_heaps : Int32) (v_isMeasured : Int32) (v_takenMany : Int32) (v_coveredAt : Nat → Int32) (v_nearTo : Nat → Int32) (v_taken : Nat → Int32) (v_tried : Nat → Int32) (v_wayOf : Nat → Int32) (H : Heap) (locs : List Loc) (ls : Array Slot), lv_has ls 5 [(0, .ref (g.2.1 50)), (2, .int x2), (3, .int x3), (4, .int x4)] → GW g s (mkS σ [(3214, v_far), (3215, v_heaps), (3212, v_isMeasured), (3235, v_takenMany)] [] [(77, v_coveredAt), (76, v_nearTo), (74, v_taken), (75, v_tried), (59, v_wayOf)] []) H locs → k89 x2 x3 x4 v_far v_heaps v_isMeasured v_takenMany v_coveredAt v_nearTo v_taken v_tried v_wayOf = some (r, w_far, w_heaps, w_isMeasured, w_takenMany, w_coveredAt, w_nearTo, w_taken, w_tried, w_wayOf) → Wg p l e 2 47 s m args below meth c g (some (.int r)) (mkS σ [(3214, w_far), (3215, w_heaps), (3212, w_isMeasured), (3235, w_takenMany)] [] [(77, w_coveredAt), (76, w_nearTo), (74, w_taken), (75, w_tried), (59, w_wayOf)] []) H locs (F0 m 89 ls [])) (x2 : Int32) (x3 : Int32) (x4 : Int32) (v_far : Int32) (v_heaps : Int32) (v_isMeasured : Int32) (v_takenMany : Int32) (v_coveredAt : Nat → Int32) (v_nearTo : Nat → Int32) (v_taken : Nat → Int32) (v_tried : Nat → Int32) (v_wayOf : Nat → Int32) (H : Heap) (locs : List Loc) (ls : Array Slot), lv_has ls 5 [(0, .ref (g.2.1 50)), (2, .int x2), (3, .int x3), (4, .int x4)] → GW g s (mkS σ [(3214, v_far), (3215, v_heaps), (3212, v_isMeasured), (3235, v_takenMany)] [] [(77, v_coveredAt), (76, v_nearTo), (74, v_taken), (75, v_tried), (59, v_wayOf)] []) H locs → M_find_n89 k54 k89 (σ.1 3203) x2 x3 x4 v_far v_heaps v_isMeasured v_takenMany v_coveredAt v_nearTo v_taken v_tried v_wayOf = some (r, w_far, w_heaps, w_isMeasured, w_takenMany, w_coveredAt, w_nearTo, w_taken, w_tried, w_wayOf) → Wg p l e 2 47 s m args below meth c g (some (.int r)) (mkS σ [(3214, w_far), (3215, w_heaps), (3212, w_isMeasured), (3235, w_takenMany)] [] [(77, w_coveredAt), (76, w_nearTo), (74, w_taken), (75, w_tried), (59, w_wayOf)] []) H locs (F0 m 89 ls []) := by
    intro k54 hk54 k89 hk89 x2 x3 x4 v_far v_heaps v_isMeasured v_takenMany v_coveredAt v_nearTo v_taken v_tried v_wayOf H locs ls hl hG h
    unfold M_find_n89 at h
    refine lv_iload hx hb dX9_find_89 (lv_at hl 3 rfl) ?_
    refine lv_aload_n hx hb dX9_find_91 rfl (lv_at hl 0 rfl) ?_
    refine gx_get (v := .int (σ.1 3203)) (C := RX9) (T := TX9) (N := 44) hx hb hts hinX9 hown hK hG (ga_50 g _) rfl 3 (by decide) hw2 rfl rfl dX9_find_92 ?_
    refine lv_icmp_ge (tgt := 138) hx hb dX9_find_95 (by decide) (fun c6 => ?_) (fun c6 => ?_)
    · have h := ite_t c6 h
      exact n138 k54 hk54 x2 x4 v_far v_heaps v_isMeasured v_takenMany v_coveredAt v_nearTo v_taken v_tried v_wayOf _ _ _ (lv_sub hl [0, 1, 3] rfl) hG h
    · have h := ite_f c6 h
      refine lv_aload_n hx hb dX9_find_98 rfl (lv_at hl 0 rfl) ?_
      refine gx_get (v := .ref (g.2.1 76)) (C := RX9) (T := TX9) (N := 44) hx hb hts hinX9 hown hK hG (ga_50 g _) rfl 36 (by decide) hw5 rfl rfl dX9_find_99 ?_
      refine lv_iload_n hx hb dX9_find_102 rfl (lv_at hl 2 rfl) ?_
      obtain ⟨hg7, h⟩ := gd_some h
      refine gx_iald (f := v_nearTo) hx hb hK hG (ga_76 g _) hg7 dX9_find_103 ?_
      refine lv_iload hx hb dX9_find_104 (lv_at hl 3 rfl) ?_
      refine lv_ishr hx hb dX9_find_106 ?_
      refine lv_iconst (v := (1 : Int32)) hx hb dX9_find_107 (by decide) ?_
      refine lv_iand hx hb dX9_find_108 ?_
      refine lv_if_eq (tgt := 132) hx hb dX9_find_109 (by decide) (fun c8 => ?_) (fun c8 => ?_)
      · have h := ite_t c8 h
        exact n132 k89 hk89 x2 x3 x4 v_far v_heaps v_isMeasured v_takenMany v_coveredAt v_nearTo v_taken v_tried v_wayOf _ _ _ (lv_sub hl [0, 1, 2, 3] rfl) hG h
      · have h := ite_f c8 h
        refine lv_aload_n hx hb dX9_find_112 rfl (lv_at hl 0 rfl) ?_
        refine gx_get (v := .ref (g.2.1 76)) (C := RX9) (T := TX9) (N := 44) hx hb hts hinX9 hown hK hG (ga_50 g _) rfl 36 (by decide) hw5 rfl rfl dX9_find_113 ?_
        refine lv_iload hx hb dX9_find_116 (lv_at hl 3 rfl) ?_
        obtain ⟨hg9, h⟩ := gd_some h
        refine gx_iald (f := v_nearTo) hx hb hK hG (ga_76 g _) hg9 dX9_find_118 ?_
        refine lv_aload_n hx hb dX9_find_119 rfl (lv_at hl 0 rfl) ?_
        refine gx_get (v := .ref (g.2.1 77)) (C := RX9) (T := TX9) (N := 44) hx hb hts hinX9 hown hK hG (ga_50 g _) rfl 37 (by decide) hw4 rfl rfl dX9_find_120 ?_
        refine lv_aload_n hx hb dX9_find_123 rfl (lv_at hl 0 rfl) ?_
        refine gx_get (v := .int v_takenMany) (C := RX9) (T := TX9) (N := 44) hx hb hts hinX9 hown hK hG (ga_50 g _) rfl 35 (by decide) hw1 rfl rfl dX9_find_124 ?_
        obtain ⟨hg10, h⟩ := gd_some h
        refine gx_iald (f := v_coveredAt) hx hb hK hG (ga_77 g _) hg10 dX9_find_127 ?_
        refine lv_iand hx hb dX9_find_128 ?_
        refine lv_if_eq (tgt := 138) hx hb dX9_find_129 (by decide) (fun c11 => ?_) (fun c11 => ?_)
        · have h := ite_t c11 h
          exact n138 k54 hk54 x2 x4 v_far v_heaps v_isMeasured v_takenMany v_coveredAt v_nearTo v_taken v_tried v_wayOf _ _ _ (lv_sub hl [0, 1, 3] rfl) hG h
        · have h := ite_f c11 h
          exact n132 k89 hk89 x2 x3 x4 v_far v_heaps v_isMeasured v_takenMany v_coveredAt v_nearTo v_taken v_tried v_wayOf _ _ _ (lv_sub hl [0, 1, 2, 3] rfl) hG h
  have l89 : ∀ (k54 : Int32 → Int32 → Int32 → Int32 → Int32 → (Nat → Int32) → (Nat → Int32) → (Nat → Int32) → (Nat → Int32) → (Nat → Int32) → Option (Int32 × Int32 × Int32 × Int32 × Int32 × (Nat → Int32) × (Nat → Int32) × (Nat → Int32) × (Nat → Int32) × (Nat → Int32))) (hk54 : ∀ (x2 : Int32) (v_far : Int32) (v_heaps : Int32) (v_isMeasured : Int32) (v_takenMany : Int32) (v_coveredAt : Nat → Int32) (v_nearTo : Nat → Int32) (v_taken : Nat → Int32) (v_tried : Nat → Int32) (v_wayOf : Nat → Int32) (H : Heap) (locs : List Loc) (ls : Array Slot), lv_has ls 5 [(0, .ref (g.2.1 50)), (2, .int x2)] → GW g s (mkS σ [(3214, v_far), (3215, v_heaps), (3212, v_isMeasured), (3235, v_takenMany)] [] [(77, v_coveredAt), (76, v_nearTo), (74, v_taken), (75, v_tried), (59, v_wayOf)] []) H locs → k54 x2 v_far v_heaps v_isMeasured v_takenMany v_coveredAt v_nearTo v_taken v_tried v_wayOf = some (r, w_far, w_heaps, w_isMeasured, w_takenMany, w_coveredAt, w_nearTo, w_taken, w_tried, w_wayOf) → Wg p l e 2 47 s m args below meth c g (some (.int r)) (mkS σ [(3214, w_far), (3215, w_heaps), (3212, w_isMeasured), (3235, w_takenMany)] [] [(77, w_coveredAt), (76, w_nearTo), (74, w_taken), (75, w_tried), (59, w_wayOf)] []) H locs (F0 m 54 ls [])) (F : Nat) (x2 : Int32) (x3 : Int32) (x4 : Int32) (v_far : Int32) (v_heaps : Int32) (v_isMeasured : Int32) (v_takenMany : Int32) (v_coveredAt : Nat → Int32) (v_nearTo : Nat → Int32) (v_taken : Nat → Int32) (v_tried : Nat → Int32) (v_wayOf : Nat → Int32) (H : Heap) (locs : List Loc) (ls : Array Slot), lv_has ls 5 [(0, .ref (g.2.1 50)), (2, .int x2), (3, .int x3), (4, .int x4)] → GW g s (mkS σ [(3214, v_far), (3215, v_heaps), (3212, v_isMeasured), (3235, v_takenMany)] [] [(77, v_coveredAt), (76, v_nearTo), (74, v_taken), (75, v_tried), (59, v_wayOf)] []) H locs → M_find_l89 k54 (σ.1 3203) F x2 x3 x4 v_far v_heaps v_isMeasured v_takenMany v_coveredAt v_nearTo v_taken v_tried v_wayOf = some (r, w_far, w_heaps, w_isMeasured, w_takenMany, w_coveredAt, w_nearTo, w_taken, w_tried, w_wayOf) → Wg p l e 2 47 s m args below meth c g (some (.int r)) (mkS σ [(3214, w_far), (3215, w_heaps), (3212, w_isMeasured), (3235, w_takenMany)] [] [(77, w_coveredAt), (76, w_nearTo), (74, w_taken), (75, w_tried), (59, w_wayOf)] []) H locs (F0 m 89 ls []) := by
    intro k54 hk54 F
    induction F with
    | zero => intro x2 x3 x4 v_far v_heaps v_isMeasured v_takenMany v_coveredAt v_nearTo v_taken v_tried v_wayOf H locs ls hl hG h; exact no_some h
    | succ F ih => intro x2 x3 x4 v_far v_heaps v_isMeasured v_takenMany v_coveredAt v_nearTo v_taken v_tried v_wayOf H locs ls hl hG h; exact n89 k54 hk54 (fun x2 x3 x4 v_far v_heaps v_isMeasured v_takenMany v_coveredAt v_nearTo v_taken v_tried v_wayOf => M_find_l89 k54 (σ.1 3203) F x2 x3 x4 v_far v_heaps v_isMeasured v_takenMany v_coveredAt v_nearTo v_taken v_tried v_wayOf) ih x2 x3 x4 v_far v_heaps v_isMeasured v_takenMany v_coveredAt v_nearTo v_taken v_tried v_wayOf H locs ls hl hG h
  have n246 : ∀ (v_far : Int32) (v_heaps : Int32) (v_isMeasured : Int32) (v_takenMany : Int32) (v_coveredAt : Nat → Int32) (v_nearTo : Nat → Int32) (v_taken : Nat → Int32) (v_tried : Nat → Int32) (v_wayOf : Nat → Int32) (H : Heap) (locs : List Loc) (ls : Array Slot), lv_has ls 5 [] → GW g s (mkS σ [(3214, v_far), (3215, v_heaps), (3212, v_isMeasured), (3235, v_takenMany)] [] [(77, v_coveredAt), (76, v_nearTo), (74, v_taken), (75, v_tried), (59, v_wayOf)] []) H locs → M_find_n246 v_far v_heaps v_isMeasured v_takenMany v_coveredAt v_nearTo v_taken v_tried v_wayOf = some (r, w_far, w_heaps, w_isMeasured, w_takenMany, w_coveredAt, w_nearTo, w_taken, w_tried, w_wayOf) → Wg p l e 2 47 s m args below meth c g (some (.int r)) (mkS σ [(3214, w_far), (3215, w_heaps), (3212, w_isMeasured), (3235, w_takenMany)] [] [(77, w_coveredAt), (76, w_nearTo), (74, w_taken), (75, w_tried), (59, w_wayOf)] []) H locs (F0 m 246 ls []) := by
    intro v_far v_heaps v_isMeasured v_takenMany v_coveredAt v_nearTo v_taken v_tried v_wayOf H locs ls hl hG h
    unfold M_find_n246 at h
    refine lv_bipush (v := (-8 : Int32)) hx hb dX9_find_246 (by decide) ?_
    cases h
    exact gx_iret hx hb hr hlocks hG dX9_find_248
  have n54 : ∀ (k54 : Int32 → Int32 → Int32 → Int32 → Int32 → (Nat → Int32) → (Nat → Int32) → (Nat → Int32) → (Nat → Int32) → (Nat → Int32) → Option (Int32 × Int32 × Int32 × Int32 × Int32 × (Nat → Int32) × (Nat → Int32) × (Nat → Int32) × (Nat → Int32) × (Nat → Int32))) (hk54 : ∀ (x2 : Int32) (v_far : Int32) (v_heaps : Int32) (v_isMeasured : Int32) (v_takenMany : Int32) (v_coveredAt : Nat → Int32) (v_nearTo : Nat → Int32) (v_taken : Nat → Int32) (v_tried : Nat → Int32) (v_wayOf : Nat → Int32) (H : Heap) (locs : List Loc) (ls : Array Slot), lv_has ls 5 [(0, .ref (g.2.1 50)), (2, .int x2)] → GW g s (mkS σ [(3214, v_far), (3215, v_heaps), (3212, v_isMeasured), (3235, v_takenMany)] [] [(77, v_coveredAt), (76, v_nearTo), (74, v_taken), (75, v_tried), (59, v_wayOf)] []) H locs → k54 x2 v_far v_heaps v_isMeasured v_takenMany v_coveredAt v_nearTo v_taken v_tried v_wayOf = some (r, w_far, w_heaps, w_isMeasured, w_takenMany, w_coveredAt, w_nearTo, w_taken, w_tried, w_wayOf) → Wg p l e 2 47 s m args below meth c g (some (.int r)) (mkS σ [(3214, w_far), (3215, w_heaps), (3212, w_isMeasured), (3235, w_takenMany)] [] [(77, w_coveredAt), (76, w_nearTo), (74, w_taken), (75, w_tried), (59, w_wayOf)] []) H locs (F0 m 54 ls [])) (x2 : Int32) (v_far : Int32) (v_heaps : Int32) (v_isMeasured : Int32) (v_takenMany : Int32) (v_coveredAt : Nat → Int32) (v_nearTo : Nat → Int32) (v_taken : Nat → Int32) (v_tried : Nat → Int32) (v_wayOf : Nat → Int32) (H : Heap) (locs : List Loc) (ls : Array Slot), lv_has ls 5 [(0, .ref (g.2.1 50)), (2, .int x2)] → GW g s (mkS σ [(3214, v_far), (3215, v_heaps), (3212, v_isMeasured), (3235, v_takenMany)] [] [(77, v_coveredAt), (76, v_nearTo), (74, v_taken), (75, v_tried), (59, v_wayOf)] []) H locs → M_find_n54 k54 (σ.1 3203) x2 v_far v_heaps v_isMeasured v_takenMany v_coveredAt v_nearTo v_taken v_tried v_wayOf = some (r, w_far, w_heaps, w_isMeasured, w_takenMany, w_coveredAt, w_nearTo, w_taken, w_tried, w_wayOf) → Wg p l e 2 47 s m args below meth c g (some (.int r)) (mkS σ [(3214, w_far), (3215, w_heaps), (3212, w_isMeasured), (3235, w_takenMany)] [] [(77, w_coveredAt), (76, w_nearTo), (74, w_taken), (75, w_tried), (59, w_wayOf)] []) H locs (F0 m 54 ls []) := by
    intro k54 hk54 x2 v_far v_heaps v_isMeasured v_takenMany v_coveredAt v_nearTo v_taken v_tried v_wayOf H locs ls hl hG h
    unfold M_find_n54 at h
    refine lv_aload_n hx hb dX9_find_54 rfl (lv_at hl 0 rfl) ?_
    refine gx_get (v := .int v_takenMany) (C := RX9) (T := TX9) (N := 44) hx hb hts hinX9 hown hK hG (ga_50 g _) rfl 35 (by decide) hw1 rfl rfl dX9_find_55 ?_
    refine lv_if_lt (tgt := 246) hx hb dX9_find_58 (by decide) (fun c12 => ?_) (fun c12 => ?_)
    · have h := ite_t c12 h
      exact n246 v_far v_heaps v_isMeasured v_takenMany v_coveredAt v_nearTo v_taken v_tried v_wayOf _ _ _ (lv_sub hl [] rfl) hG h
    · have h := ite_f c12 h
      refine lv_aload_n hx hb dX9_find_61 rfl (lv_at hl 0 rfl) ?_
      obtain ⟨z13, hc14, h⟩ := bnd_some h
      refine gx_cV (σ' := (mkS σ [(3214, v_far), (3215, v_heaps), (3212, v_isMeasured), (3235, v_takenMany)] [] [(77, v_coveredAt), (76, v_nearTo), (74, v_taken), (75, v_tried), (59, v_wayOf)] [])) (r := (some (.int z13))) (rest := []) (As := []) hS9 (c_M_uncovered l g (mkS σ [(3214, v_far), (3215, v_heaps), (3212, v_isMeasured), (3235, v_takenMany)] [] [(77, v_coveredAt), (76, v_nearTo), (74, v_taken), (75, v_tried), (59, v_wayOf)] []) z13 hc14) rfl (cwV 0 hts gX9_find_X9_uncovered rfl rfl rfl (by decide +kernel) ⟨Nat.le_of_ble_eq_true rfl, Nat.le_of_ble_eq_true rfl⟩) hK hG (ga_50 g _) rfl rfl rfl hl.1 rfl (Nat.le_of_ble_eq_true rfl) dX9_find_62 (fun H locs hG => ?_)
      refine W.eq (g2 := F0 m 65 ls [.int z13]) rfl ?_
      refine lv_istore_n (lv' := [(3, .int z13), (0, .ref (g.2.1 50)), (2, .int x2)]) hx hb dX9_find_65 rfl hl (Nat.le_of_ble_eq_true rfl) rfl (fun ls hl => ?_)
      refine lv_iload_n hx hb dX9_find_66 rfl (lv_at hl 0 rfl) ?_
      refine lv_aload_n hx hb dX9_find_67 rfl (lv_at hl 1 rfl) ?_
      refine gx_get (v := .int (σ.1 3203)) (C := RX9) (T := TX9) (N := 44) hx hb hts hinX9 hown hK hG (ga_50 g _) rfl 3 (by decide) hw2 rfl rfl dX9_find_68 ?_
      refine lv_icmp_ne (tgt := 76) hx hb dX9_find_71 (by decide) (fun c15 => ?_) (fun c15 => ?_)
      · have h := ite_f c15 h
        refine lv_aload_n hx hb dX9_find_76 rfl (lv_at hl 1 rfl) ?_
        refine gx_get (v := .ref (g.2.1 75)) (C := RX9) (T := TX9) (N := 44) hx hb hts hinX9 hown hK hG (ga_50 g _) rfl 34 (by decide) hw0 rfl rfl dX9_find_77 ?_
        refine lv_aload_n hx hb dX9_find_80 rfl (lv_at hl 1 rfl) ?_
        refine gx_get (v := .int v_takenMany) (C := RX9) (T := TX9) (N := 44) hx hb hts hinX9 hown hK hG (ga_50 g _) rfl 35 (by decide) hw1 rfl rfl dX9_find_81 ?_
        obtain ⟨hg16, h⟩ := gd_some h
        refine gx_iald (f := v_tried) hx hb hK hG (ga_75 g _) hg16 dX9_find_84 ?_
        refine lv_iconst (v := (1 : Int32)) hx hb dX9_find_85 (by decide) ?_
        refine lv_iadd hx hb dX9_find_86 ?_
        refine lv_istore (lv' := [(4, .int ((v_tried (v_takenMany.toNatClampNeg)) + (1 : Int32))), (3, .int z13), (0, .ref (g.2.1 50)), (2, .int x2)]) hx hb dX9_find_87 hl (Nat.le_of_ble_eq_true rfl) rfl (fun ls hl => ?_)
        exact l89 k54 hk54 FUEL x2 z13 ((v_tried (v_takenMany.toNatClampNeg)) + (1 : Int32)) v_far v_heaps v_isMeasured v_takenMany v_coveredAt v_nearTo v_taken v_tried v_wayOf _ _ _ (lv_sub hl [2, 3, 1, 0] rfl) hG h
      · have h := ite_t c15 h
        exact n74 v_far v_heaps v_isMeasured v_takenMany v_coveredAt v_nearTo v_taken v_tried v_wayOf _ _ _ (lv_sub hl [] rfl) hG h
  have l54 : ∀  (F : Nat) (x2 : Int32) (v_far : Int32) (v_heaps : Int32) (v_isMeasured : Int32) (v_takenMany : Int32) (v_coveredAt : Nat → Int32) (v_nearTo : Nat → Int32) (v_taken : Nat → Int32) (v_tried : Nat → Int32) (v_wayOf : Nat → Int32) (H : Heap) (locs : List Loc) (ls : Array Slot), lv_has ls 5 [(0, .ref (g.2.1 50)), (2, .int x2)] → GW g s (mkS σ [(3214, v_far), (3215, v_heaps), (3212, v_isMeasured), (3235, v_takenMany)] [] [(77, v_coveredAt), (76, v_nearTo), (74, v_taken), (75, v_tried), (59, v_wayOf)] []) H locs → M_find_l54 (σ.1 3203) F x2 v_far v_heaps v_isMeasured v_takenMany v_coveredAt v_nearTo v_taken v_tried v_wayOf = some (r, w_far, w_heaps, w_isMeasured, w_takenMany, w_coveredAt, w_nearTo, w_taken, w_tried, w_wayOf) → Wg p l e 2 47 s m args below meth c g (some (.int r)) (mkS σ [(3214, w_far), (3215, w_heaps), (3212, w_isMeasured), (3235, w_takenMany)] [] [(77, w_coveredAt), (76, w_nearTo), (74, w_taken), (75, w_tried), (59, w_wayOf)] []) H locs (F0 m 54 ls []) := by
    intro F
    induction F with
    | zero => intro x2 v_far v_heaps v_isMeasured v_takenMany v_coveredAt v_nearTo v_taken v_tried v_wayOf H locs ls hl hG h; exact no_some h
    | succ F ih => intro x2 v_far v_heaps v_isMeasured v_takenMany v_coveredAt v_nearTo v_taken v_tried v_wayOf H locs ls hl hG h; exact n54 (fun x2 v_far v_heaps v_isMeasured v_takenMany v_coveredAt v_nearTo v_taken v_tried v_wayOf => M_find_l54 (σ.1 3203) F x2 v_far v_heaps v_isMeasured v_takenMany v_coveredAt v_nearTo v_taken v_tried v_wayOf) ih x2 v_far v_heaps v_isMeasured v_takenMany v_coveredAt v_nearTo v_taken v_tried v_wayOf H locs ls hl hG h
  refine lv_iload_n hx hb dX9_find_0 rfl (lv_at hl 1 rfl) ?_
  refine lv_i2l hx hb dX9_find_1 rfl ?_
  refine lv_lconst (v := (0 : Int64)) hx hb dX9_find_2 (by decide) ?_
  refine lv_ldc2 hx hb hown hw6 dX9_find_3 ?_
  obtain ⟨z17, hc18, h⟩ := bnd_some h
  refine gx_cS (σ' := (mkS σ [(3214, (σ.1 3214)), (3215, (σ.1 3215)), (3212, (σ.1 3212)), (3235, (σ.1 3235))] [] [(77, (σ.2.2.1 77)), (76, (σ.2.2.1 76)), (74, (σ.2.2.1 74)), (75, (σ.2.2.1 75)), (59, (σ.2.2.1 59))] [])) (r := (some (.int z17))) (rest := []) (As := [.long (x1.toInt64), .long (0 : Int64), .long (6 : Int64)]) hS9 (c_M_in l g (mkS σ [(3214, (σ.1 3214)), (3215, (σ.1 3215)), (3212, (σ.1 3212)), (3235, (σ.1 3235))] [] [(77, (σ.2.2.1 77)), (76, (σ.2.2.1 76)), (74, (σ.2.2.1 74)), (75, (σ.2.2.1 75)), (59, (σ.2.2.1 59))] []) (x1.toInt64) (0 : Int64) (6 : Int64) z17 hc18) rfl (va_cwS 3 hts gX9_find_X9_in rfl rfl rfl (by decide +kernel) ⟨Nat.le_of_ble_eq_true rfl, Nat.le_of_ble_eq_true rfl⟩) hK hG rfl hl.1 rfl (Nat.le_of_ble_eq_true rfl) dX9_find_6 (fun H locs hG => ?_)
  refine W.eq (g2 := F0 m 9 ls [.int z17]) rfl ?_
  refine lv_if_ne (tgt := 14) hx hb dX9_find_9 (by decide) (fun c19 => ?_) (fun c19 => ?_)
  · have h := ite_f c19 h
    refine lv_aload_n hx hb dX9_find_14 rfl (lv_at hl 0 rfl) ?_
    refine gx_get (v := .int (σ.1 3203)) (C := RX9) (T := TX9) (N := 44) hx hb hts hinX9 hown hK hG (ga_50 g _) rfl 3 (by decide) hw2 rfl rfl dX9_find_15 ?_
    refine lv_if_ne (tgt := 24) hx hb dX9_find_18 (by decide) (fun c20 => ?_) (fun c20 => ?_)
    · have h := ite_f c20 h
      refine lv_aload_n hx hb dX9_find_24 rfl (lv_at hl 0 rfl) ?_
      obtain ⟨z21, hc22, h⟩ := bnd_some h
      refine gx_cV (σ' := (mkS σ [(3214, z21.1), (3215, z21.2.1), (3212, z21.2.2.1), (3235, (σ.1 3235))] [] [(77, (σ.2.2.1 77)), (76, (σ.2.2.1 76)), (74, (σ.2.2.1 74)), (75, (σ.2.2.1 75)), (59, z21.2.2.2)] [])) (r := none) (rest := []) (As := []) hS9 (c_M_measure l g (mkS σ [(3214, (σ.1 3214)), (3215, (σ.1 3215)), (3212, (σ.1 3212)), (3235, (σ.1 3235))] [] [(77, (σ.2.2.1 77)), (76, (σ.2.2.1 76)), (74, (σ.2.2.1 74)), (75, (σ.2.2.1 75)), (59, (σ.2.2.1 59))] []) z21.1 z21.2.1 z21.2.2.1 z21.2.2.2 hc22) (mk_mk rfl rfl rfl rfl) (cwV 0 hts gX9_find_X9_measure rfl rfl rfl (by decide +kernel) ⟨Nat.le_of_ble_eq_true rfl, Nat.le_of_ble_eq_true rfl⟩) hK hG (ga_50 g _) rfl rfl rfl hl.1 rfl (Nat.le_of_ble_eq_true rfl) dX9_find_25 (fun H locs hG => ?_)
      refine W.eq (g2 := F0 m 28 ls []) rfl ?_
      refine lv_aload_n hx hb dX9_find_28 rfl (lv_at hl 0 rfl) ?_
      refine lv_iload_n hx hb dX9_find_29 rfl (lv_at hl 1 rfl) ?_
      obtain ⟨z23, hc24, h⟩ := bnd_some h
      refine gx_cV (σ' := (mkS σ [(3214, z21.1), (3215, z21.2.1), (3212, z21.2.2.1), (3235, (σ.1 3235))] [] [(77, (σ.2.2.1 77)), (76, z23), (74, (σ.2.2.1 74)), (75, (σ.2.2.1 75)), (59, z21.2.2.2)] [])) (r := none) (rest := []) (As := [.int x1]) hS9 (c_M_findNear l g (mkS σ [(3214, z21.1), (3215, z21.2.1), (3212, z21.2.2.1), (3235, (σ.1 3235))] [] [(77, (σ.2.2.1 77)), (76, (σ.2.2.1 76)), (74, (σ.2.2.1 74)), (75, (σ.2.2.1 75)), (59, z21.2.2.2)] []) x1 z23 hc24) (mk_mk rfl rfl rfl rfl) (cwV 1 hts gX9_find_X9_findNear rfl rfl rfl (by decide +kernel) ⟨Nat.le_of_ble_eq_true rfl, Nat.le_of_ble_eq_true rfl⟩) hK hG (ga_50 g _) rfl rfl rfl hl.1 rfl (Nat.le_of_ble_eq_true rfl) dX9_find_30 (fun H locs hG => ?_)
      refine W.eq (g2 := F0 m 33 ls []) rfl ?_
      refine lv_aload_n hx hb dX9_find_33 rfl (lv_at hl 0 rfl) ?_
      refine lv_iconst (v := (0 : Int32)) hx hb dX9_find_34 (by decide) ?_
      refine gx_put (σ' := (mkS σ [(3214, z21.1), (3215, z21.2.1), (3212, z21.2.2.1), (3235, (0 : Int32))] [] [(77, (σ.2.2.1 77)), (76, z23), (74, (σ.2.2.1 74)), (75, (σ.2.2.1 75)), (59, z21.2.2.2)] [])) (C := RX9) (T := TX9) (N := 44) hx hb hts hinX9 tyX9 tyX9_ok nmX9 hown hK hG (ga_50 g _) rfl 35 (by decide) hw1 rfl rfl rfl rfl (Nat.le_of_ble_eq_true rfl) ((gf_3235 g _ _).trans (congrArg (g_cells g) (mk_a 3 rfl rfl))) dX9_find_35 (fun H locs hG => ?_)
      refine lv_aload_n hx hb dX9_find_38 rfl (lv_at hl 0 rfl) ?_
      refine gx_get (v := .ref (g.2.1 75)) (C := RX9) (T := TX9) (N := 44) hx hb hts hinX9 hown hK hG (ga_50 g _) rfl 34 (by decide) hw0 rfl rfl dX9_find_39 ?_
      refine lv_iconst (v := (0 : Int32)) hx hb dX9_find_42 (by decide) ?_
      refine lv_iconst (v := (-1 : Int32)) hx hb dX9_find_43 (by decide) ?_
      refine gx_iast (σ' := (mkS σ [(3214, z21.1), (3215, z21.2.1), (3212, z21.2.2.1), (3235, (0 : Int32))] [] [(77, (σ.2.2.1 77)), (76, z23), (74, (σ.2.2.1 74)), (75, (upd (σ.2.2.1 75) ((0 : Int32).toNatClampNeg) (-1 : Int32))), (59, z21.2.2.2)] [])) (f := (σ.2.2.1 75)) hx hb hK hG (ga_75 g _) (by decide) ((gs_75 g _ _).trans (congrArg (g_cells g) (mk_c 3 rfl rfl))) dX9_find_44 (fun H locs hG => ?_)
      refine lv_aload_n hx hb dX9_find_45 rfl (lv_at hl 0 rfl) ?_
      refine gx_get (v := .ref (g.2.1 77)) (C := RX9) (T := TX9) (N := 44) hx hb hts hinX9 hown hK hG (ga_50 g _) rfl 37 (by decide) hw4 rfl rfl dX9_find_46 ?_
      refine lv_iconst (v := (0 : Int32)) hx hb dX9_find_49 (by decide) ?_
      refine lv_iconst (v := (0 : Int32)) hx hb dX9_find_50 (by decide) ?_
      refine gx_iast (σ' := (mkS σ [(3214, z21.1), (3215, z21.2.1), (3212, z21.2.2.1), (3235, (0 : Int32))] [] [(77, (upd (σ.2.2.1 77) ((0 : Int32).toNatClampNeg) (0 : Int32))), (76, z23), (74, (σ.2.2.1 74)), (75, (upd (σ.2.2.1 75) ((0 : Int32).toNatClampNeg) (-1 : Int32))), (59, z21.2.2.2)] [])) (f := (σ.2.2.1 77)) hx hb hK hG (ga_77 g _) (by decide) ((gs_77 g _ _).trans (congrArg (g_cells g) (mk_c 0 rfl rfl))) dX9_find_51 (fun H locs hG => ?_)
      refine lv_iconst (v := (0 : Int32)) hx hb dX9_find_52 (by decide) ?_
      refine lv_istore_n (lv' := [(2, .int (0 : Int32)), (0, .ref (g.2.1 50)), (1, .int x1)]) hx hb dX9_find_53 rfl hl (Nat.le_of_ble_eq_true rfl) rfl (fun ls hl => ?_)
      exact l54 FUEL (0 : Int32) z21.1 z21.2.1 z21.2.2.1 (0 : Int32) (upd (σ.2.2.1 77) ((0 : Int32).toNatClampNeg) (0 : Int32)) z23 (σ.2.2.1 74) (upd (σ.2.2.1 75) ((0 : Int32).toNatClampNeg) (-1 : Int32)) z21.2.2.2 _ _ _ (lv_sub hl [1, 0] rfl) hG h
    · have h := ite_t c20 h
      refine lv_bipush (v := (-5 : Int32)) hx hb dX9_find_21 (by decide) ?_
      cases h
      exact gx_iret hx hb hr hlocks hG dX9_find_23
  · have h := ite_t c19 h
    refine lv_iconst (v := (-1 : Int32)) hx hb dX9_find_12 (by decide) ?_
    cases h
    exact gx_iret hx hb hr hlocks hG dX9_find_13

set_option maxHeartbeats 4000000 in
set_option maxRecDepth 100000 in
theorem c_M_heap (l : Launch) (g : GC) (σ : St) (x1 : Int32) (x2 : Int32) (r : Int32) (w_far : Int32) (w_heaps : Int32) (w_isMeasured : Int32) (w_takenMany : Int32) (w_coveredAt : Nat → Int32) (w_nearTo : Nat → Int32) (w_taken : Nat → Int32) (w_tried : Nat → Int32) (w_wayOf : Nat → Int32) (h : M_heap x1 x2 (σ.1 3214) (σ.1 3215) (σ.1 3212) (σ.1 3203) (σ.1 3235) (σ.2.2.1 77) (σ.2.2.1 76) (σ.2.2.1 54) (σ.2.2.1 74) (σ.2.2.1 75) (σ.2.2.1 59) = some (r, w_far, w_heaps, w_isMeasured, w_takenMany, w_coveredAt, w_nearTo, w_taken, w_tried, w_wayOf)) : Cn l g yX9_heap wsX9_heap 3 71 [.ref (g.2.1 50), .int x1, .int x2] σ (some (.int r)) (mkS σ [(3214, w_far), (3215, w_heaps), (3212, w_isMeasured), (3235, w_takenMany)] [] [(77, w_coveredAt), (76, w_nearTo), (74, w_taken), (75, w_tried), (59, w_wayOf)] []) := by
  unfold Cn
  refine Met.ofW (cc := cX9_heap) (maxL := 4) (ret := (some .int)) (by decide) rfl ?_
  intro p e s m args below meth c s₁ B hml hv
  obtain ⟨hargs, hP0, hK⟩ := hv
  have hx := B.exec
  have hb := B.bytes
  have hr := B.returns
  have hts := atoms_spec (ws := wsX9_heap) B.pre
  have hown : s.vm.findClass RX9 = some m.cls := findClass_of_methodNamed B.named
  have hlocks := B.notSynchronized
  have hS9 : CallFix p m c cX9_heap 4 s args wsX9_heap RX9 := ⟨hx, hb, hml, hown, hts⟩
  have hinX9 : ∀ w ∈ wsX90, w ∈ wsX9_heap := fun w h => List.mem_cons_of_mem _ (List.mem_append_right _ (h))
  have hw0 := hts (.fieldLink RX9 297 "LikeNetsModel" "takenMany" "I") (List.mem_of_getElem? (i := 1) rfl)
  have hw1 := hts (.fieldLink RX9 85 "LikeNetsModel" "taken" "[I") (List.mem_of_getElem? (i := 2) rfl)
  have hf9 : entryFrame m args 4 = _ := (congrArg (fun a => entryFrame m a 4) hargs).trans (lg_entry_eq m [.ref (g.2.1 50), .int x1, .int x2] 4)
  show Wg p l e 3 71 s m args below meth c g (some (.int r)) (mkS σ [(3214, w_far), (3215, w_heaps), (3212, w_isMeasured), (3235, w_takenMany)] [] [(77, w_coveredAt), (76, w_nearTo), (74, w_taken), (75, w_tried), (59, w_wayOf)] []) s.heap [] (entryFrame m args 4)
  rw [hf9]
  have hl := lv_entry ([.ref (g.2.1 50), .int x1, .int x2]) (n := 4) (Nat.le_of_ble_eq_true rfl)
  generalize (lg_sl ([.ref (g.2.1 50), .int x1, .int x2]) ++ List.replicate (4 - (lg_sl ([.ref (g.2.1 50), .int x1, .int x2])).length) Slot.unset).toArray = ls at hl ⊢
  have hl : lv_has ls 4 [(0, .ref (g.2.1 50)), (1, .int x1), (2, .int x2)] := hl
  have hG : GW g s σ s.heap [] := ⟨hP0, va_S.rf⟩
  have hG : GW g s (mkS σ [(3214, (σ.1 3214)), (3215, (σ.1 3215)), (3212, (σ.1 3212)), (3235, (σ.1 3235))] [] [(77, (σ.2.2.1 77)), (76, (σ.2.2.1 76)), (74, (σ.2.2.1 74)), (75, (σ.2.2.1 75)), (59, (σ.2.2.1 59))] []) s.heap [] := GW_self [3214, 3215, 3212, 3235] [] [77, 76, 74, 75, 59] [] hG
  unfold M_heap at h
  have n41 : ∀ (t0 : Int32) (v_far : Int32) (v_heaps : Int32) (v_isMeasured : Int32) (v_takenMany : Int32) (v_coveredAt : Nat → Int32) (v_nearTo : Nat → Int32) (v_taken : Nat → Int32) (v_tried : Nat → Int32) (v_wayOf : Nat → Int32) (H : Heap) (locs : List Loc) (ls : Array Slot), lv_has ls 4 [] → GW g s (mkS σ [(3214, v_far), (3215, v_heaps), (3212, v_isMeasured), (3235, v_takenMany)] [] [(77, v_coveredAt), (76, v_nearTo), (74, v_taken), (75, v_tried), (59, v_wayOf)] []) H locs → M_heap_n41 t0 v_far v_heaps v_isMeasured v_takenMany v_coveredAt v_nearTo v_taken v_tried v_wayOf = some (r, w_far, w_heaps, w_isMeasured, w_takenMany, w_coveredAt, w_nearTo, w_taken, w_tried, w_wayOf) → Wg p l e 3 71 s m args below meth c g (some (.int r)) (mkS σ [(3214, w_far), (3215, w_heaps), (3212, w_isMeasured), (3235, w_takenMany)] [] [(77, w_coveredAt), (76, w_nearTo), (74, w_taken), (75, w_tried), (59, w_wayOf)] []) H locs (F0 m 41 ls [.int t0]) := by
    intro t0 v_far v_heaps v_isMeasured v_takenMany v_coveredAt v_nearTo v_taken v_tried v_wayOf H locs ls hl hG h
    unfold M_heap_n41 at h
    cases h
    exact gx_iret hx hb hr hlocks hG dX9_heap_41
  refine lv_aload_n hx hb dX9_heap_0 rfl (lv_at hl 0 rfl) ?_
  refine lv_iload_n hx hb dX9_heap_1 rfl (lv_at hl 1 rfl) ?_
  obtain ⟨z1, hc2, h⟩ := bnd_some h
  refine gx_cV (σ' := (mkS σ [(3214, z1.2.1), (3215, z1.2.2.1), (3212, z1.2.2.2.1), (3235, z1.2.2.2.2.1)] [] [(77, z1.2.2.2.2.2.1), (76, z1.2.2.2.2.2.2.1), (74, z1.2.2.2.2.2.2.2.1), (75, z1.2.2.2.2.2.2.2.2.1), (59, z1.2.2.2.2.2.2.2.2.2)] [])) (r := (some (.int z1.1))) (rest := []) (As := [.int x1]) hS9 (c_M_find l g (mkS σ [(3214, (σ.1 3214)), (3215, (σ.1 3215)), (3212, (σ.1 3212)), (3235, (σ.1 3235))] [] [(77, (σ.2.2.1 77)), (76, (σ.2.2.1 76)), (74, (σ.2.2.1 74)), (75, (σ.2.2.1 75)), (59, (σ.2.2.1 59))] []) x1 z1.1 z1.2.1 z1.2.2.1 z1.2.2.2.1 z1.2.2.2.2.1 z1.2.2.2.2.2.1 z1.2.2.2.2.2.2.1 z1.2.2.2.2.2.2.2.1 z1.2.2.2.2.2.2.2.2.1 z1.2.2.2.2.2.2.2.2.2 hc2) (mk_mk rfl rfl rfl rfl) (cwV 1 hts gX9_heap_X9_find rfl rfl rfl (by decide +kernel) ⟨Nat.le_of_ble_eq_true rfl, Nat.le_of_ble_eq_true rfl⟩) hK hG (ga_50 g _) rfl rfl rfl hl.1 rfl (Nat.le_of_ble_eq_true rfl) dX9_heap_2 (fun H locs hG => ?_)
  refine W.eq (g2 := F0 m 5 ls [.int z1.1]) rfl ?_
  refine lv_istore_n (lv' := [(3, .int z1.1), (0, .ref (g.2.1 50)), (1, .int x1), (2, .int x2)]) hx hb dX9_heap_5 rfl hl (Nat.le_of_ble_eq_true rfl) rfl (fun ls hl => ?_)
  refine lv_iload_n hx hb dX9_heap_6 rfl (lv_at hl 0 rfl) ?_
  refine lv_if_eq (tgt := 14) hx hb dX9_heap_7 (by decide) (fun c3 => ?_) (fun c3 => ?_)
  · have h := ite_t c3 h
    refine lv_iload_n hx hb dX9_heap_14 rfl (lv_at hl 3 rfl) ?_
    refine lv_i2l hx hb dX9_heap_15 rfl ?_
    refine lv_lconst (v := (0 : Int64)) hx hb dX9_heap_16 (by decide) ?_
    refine lv_aload_n hx hb dX9_heap_17 rfl (lv_at hl 1 rfl) ?_
    refine gx_get (v := .int z1.2.2.2.2.1) (C := RX9) (T := TX9) (N := 44) hx hb hts hinX9 hown hK hG (ga_50 g _) rfl 35 (by decide) hw0 rfl rfl dX9_heap_18 ?_
    refine lv_iconst (v := (1 : Int32)) hx hb dX9_heap_21 (by decide) ?_
    refine lv_isub hx hb dX9_heap_22 ?_
    refine lv_i2l hx hb dX9_heap_23 rfl ?_
    obtain ⟨z4, hc5, h⟩ := bnd_some h
    refine gx_cS (σ' := (mkS σ [(3214, z1.2.1), (3215, z1.2.2.1), (3212, z1.2.2.2.1), (3235, z1.2.2.2.2.1)] [] [(77, z1.2.2.2.2.2.1), (76, z1.2.2.2.2.2.2.1), (74, z1.2.2.2.2.2.2.2.1), (75, z1.2.2.2.2.2.2.2.2.1), (59, z1.2.2.2.2.2.2.2.2.2)] [])) (r := (some (.int z4))) (rest := []) (As := [.long (x2.toInt64), .long (0 : Int64), .long ((z1.2.2.2.2.1 - (1 : Int32)).toInt64)]) hS9 (c_M_in l g (mkS σ [(3214, z1.2.1), (3215, z1.2.2.1), (3212, z1.2.2.2.1), (3235, z1.2.2.2.2.1)] [] [(77, z1.2.2.2.2.2.1), (76, z1.2.2.2.2.2.2.1), (74, z1.2.2.2.2.2.2.2.1), (75, z1.2.2.2.2.2.2.2.2.1), (59, z1.2.2.2.2.2.2.2.2.2)] []) (x2.toInt64) (0 : Int64) ((z1.2.2.2.2.1 - (1 : Int32)).toInt64) z4 hc5) rfl (va_cwS 3 hts gX9_heap_X9_in rfl rfl rfl (by decide +kernel) ⟨Nat.le_of_ble_eq_true rfl, Nat.le_of_ble_eq_true rfl⟩) hK hG rfl hl.1 rfl (Nat.le_of_ble_eq_true rfl) dX9_heap_24 (fun H locs hG => ?_)
    refine W.eq (g2 := F0 m 27 ls [.int z4]) rfl ?_
    refine lv_if_eq (tgt := 39) hx hb dX9_heap_27 (by decide) (fun c6 => ?_) (fun c6 => ?_)
    · have h := ite_t c6 h
      refine lv_bipush (v := (-8 : Int32)) hx hb dX9_heap_39 (by decide) ?_
      exact n41 (-8 : Int32) z1.2.1 z1.2.2.1 z1.2.2.2.1 z1.2.2.2.2.1 z1.2.2.2.2.2.1 z1.2.2.2.2.2.2.1 z1.2.2.2.2.2.2.2.1 z1.2.2.2.2.2.2.2.2.1 z1.2.2.2.2.2.2.2.2.2 _ _ _ (lv_sub hl [] rfl) hG h
    · have h := ite_f c6 h
      refine lv_aload_n hx hb dX9_heap_30 rfl (lv_at hl 1 rfl) ?_
      refine gx_get (v := .ref (g.2.1 74)) (C := RX9) (T := TX9) (N := 44) hx hb hts hinX9 hown hK hG (ga_50 g _) rfl 33 (by decide) hw1 rfl rfl dX9_heap_31 ?_
      refine lv_iload_n hx hb dX9_heap_34 rfl (lv_at hl 3 rfl) ?_
      obtain ⟨hg7, h⟩ := gd_some h
      refine gx_iald (f := z1.2.2.2.2.2.2.2.1) hx hb hK hG (ga_74 g _) hg7 dX9_heap_35 ?_
      refine lv_goto (tgt := 41) hx hb dX9_heap_36 (by decide) ?_
      exact n41 (z1.2.2.2.2.2.2.2.1 (x2.toNatClampNeg)) z1.2.1 z1.2.2.1 z1.2.2.2.1 z1.2.2.2.2.1 z1.2.2.2.2.2.1 z1.2.2.2.2.2.2.1 z1.2.2.2.2.2.2.2.1 z1.2.2.2.2.2.2.2.2.1 z1.2.2.2.2.2.2.2.2.2 _ _ _ (lv_sub hl [] rfl) hG h
  · have h := ite_f c3 h
    refine lv_iload_n hx hb dX9_heap_10 rfl (lv_at hl 0 rfl) ?_
    refine lv_goto (tgt := 41) hx hb dX9_heap_11 (by decide) ?_
    exact n41 z1.1 z1.2.1 z1.2.2.1 z1.2.2.2.1 z1.2.2.2.2.1 z1.2.2.2.2.2.1 z1.2.2.2.2.2.2.1 z1.2.2.2.2.2.2.2.1 z1.2.2.2.2.2.2.2.2.1 z1.2.2.2.2.2.2.2.2.2 _ _ _ (lv_sub hl [] rfl) hG h

set_option maxHeartbeats 4000000 in
set_option maxRecDepth 100000 in
theorem c_M_isPost (l : Launch) (g : GC) (σ : St) (x1 : Int32) (r : Int32) (h : M_isPost x1 (σ.1 3203) = some r) : Cn l g yX9_isPost wsX9_isPost 1 25 [.ref (g.2.1 50), .int x1] σ (some (.int r)) σ := by
  unfold Cn
  refine Met.ofW (cc := cX9_isPost) (maxL := 2) (ret := (some .boolean)) (by decide) rfl ?_
  intro p e s m args below meth c s₁ B hml hv
  obtain ⟨hargs, hP0, hK⟩ := hv
  have hx := B.exec
  have hb := B.bytes
  have hr := B.returns
  have hts := atoms_spec (ws := wsX9_isPost) B.pre
  have hown : s.vm.findClass RX9 = some m.cls := findClass_of_methodNamed B.named
  have hlocks := B.notSynchronized
  have hS9 : CallFix p m c cX9_isPost 2 s args wsX9_isPost RX9 := ⟨hx, hb, hml, hown, hts⟩
  have hinX9 : ∀ w ∈ wsX90, w ∈ wsX9_isPost := fun w h => List.mem_cons_of_mem _ (List.mem_append_right _ (h))
  have hw0 := hts (.fieldLink RX9 116 "LikeNetsModel" "posts" "I") (List.mem_of_getElem? (i := 1) rfl)
  have hf9 : entryFrame m args 2 = _ := (congrArg (fun a => entryFrame m a 2) hargs).trans (lg_entry_eq m [.ref (g.2.1 50), .int x1] 2)
  show Wg p l e 1 25 s m args below meth c g (some (.int r)) σ s.heap [] (entryFrame m args 2)
  rw [hf9]
  have hl := lv_entry ([.ref (g.2.1 50), .int x1]) (n := 2) (Nat.le_of_ble_eq_true rfl)
  generalize (lg_sl ([.ref (g.2.1 50), .int x1]) ++ List.replicate (2 - (lg_sl ([.ref (g.2.1 50), .int x1])).length) Slot.unset).toArray = ls at hl ⊢
  have hl : lv_has ls 2 [(0, .ref (g.2.1 50)), (1, .int x1)] := hl
  have hG : GW g s σ s.heap [] := ⟨hP0, va_S.rf⟩
  unfold M_isPost at h
  refine lv_iload_n hx hb dX9_isPost_0 rfl (lv_at hl 1 rfl) ?_
  refine lv_i2l hx hb dX9_isPost_1 rfl ?_
  refine lv_lconst (v := (0 : Int64)) hx hb dX9_isPost_2 (by decide) ?_
  refine lv_aload_n hx hb dX9_isPost_3 rfl (lv_at hl 0 rfl) ?_
  refine gx_get (v := .int (σ.1 3203)) (C := RX9) (T := TX9) (N := 44) hx hb hts hinX9 hown hK hG (ga_50 g _) rfl 3 (by decide) hw0 rfl rfl dX9_isPost_4 ?_
  refine lv_iconst (v := (1 : Int32)) hx hb dX9_isPost_7 (by decide) ?_
  refine lv_isub hx hb dX9_isPost_8 ?_
  refine lv_i2l hx hb dX9_isPost_9 rfl ?_
  obtain ⟨z1, hc2, h⟩ := bnd_some h
  refine gx_cS (σ' := σ) (r := (some (.int z1))) (rest := []) (As := [.long (x1.toInt64), .long (0 : Int64), .long (((σ.1 3203) - (1 : Int32)).toInt64)]) hS9 (c_M_in l g σ (x1.toInt64) (0 : Int64) (((σ.1 3203) - (1 : Int32)).toInt64) z1 hc2) rfl (va_cwS 3 hts gX9_isPost_X9_in rfl rfl rfl (by decide +kernel) ⟨Nat.le_of_ble_eq_true rfl, Nat.le_of_ble_eq_true rfl⟩) hK hG rfl hl.1 rfl (Nat.le_of_ble_eq_true rfl) dX9_isPost_10 (fun H locs hG => ?_)
  refine W.eq (g2 := F0 m 13 ls [.int z1]) rfl ?_
  obtain ⟨hg3, h⟩ := gd_some h
  cases h
  exact gx_zret hx hb hr hlocks hg3 hG dX9_isPost_13

set_option maxHeartbeats 4000000 in
set_option maxRecDepth 100000 in
theorem c_M_joined (l : Launch) (g : GC) (σ : St) (x1 : Int32) (x2 : Int32) (r : Int32) (h : M_joined x1 x2 (σ.1 3203) (σ.2.2.1 54) = some r) : Cn l g yX9_joined wsX9_joined 2 46 [.ref (g.2.1 50), .int x1, .int x2] σ (some (.int r)) σ := by
  unfold Cn
  refine Met.ofW (cc := cX9_joined) (maxL := 3) (ret := (some .boolean)) (by decide) rfl ?_
  intro p e s m args below meth c s₁ B hml hv
  obtain ⟨hargs, hP0, hK⟩ := hv
  have hx := B.exec
  have hb := B.bytes
  have hr := B.returns
  have hts := atoms_spec (ws := wsX9_joined) B.pre
  have hown : s.vm.findClass RX9 = some m.cls := findClass_of_methodNamed B.named
  have hlocks := B.notSynchronized
  have hS9 : CallFix p m c cX9_joined 3 s args wsX9_joined RX9 := ⟨hx, hb, hml, hown, hts⟩
  have hinX9 : ∀ w ∈ wsX90, w ∈ wsX9_joined := fun w h => List.mem_cons_of_mem _ (List.mem_append_right _ (h))
  have hw0 := hts (.fieldLink RX9 19 "LikeNetsModel" "road" "[Z") (List.mem_of_getElem? (i := 1) rfl)
  have hf9 : entryFrame m args 3 = _ := (congrArg (fun a => entryFrame m a 3) hargs).trans (lg_entry_eq m [.ref (g.2.1 50), .int x1, .int x2] 3)
  show Wg p l e 2 46 s m args below meth c g (some (.int r)) σ s.heap [] (entryFrame m args 3)
  rw [hf9]
  have hl := lv_entry ([.ref (g.2.1 50), .int x1, .int x2]) (n := 3) (Nat.le_of_ble_eq_true rfl)
  generalize (lg_sl ([.ref (g.2.1 50), .int x1, .int x2]) ++ List.replicate (3 - (lg_sl ([.ref (g.2.1 50), .int x1, .int x2])).length) Slot.unset).toArray = ls at hl ⊢
  have hl : lv_has ls 3 [(0, .ref (g.2.1 50)), (1, .int x1), (2, .int x2)] := hl
  have hG : GW g s σ s.heap [] := ⟨hP0, va_S.rf⟩
  unfold M_joined at h
  have n35 : ∀ (t0 : Int32) (H : Heap) (locs : List Loc) (ls : Array Slot), lv_has ls 3 [] → GW g s σ H locs → M_joined_n35 t0 = some r → Wg p l e 2 46 s m args below meth c g (some (.int r)) σ H locs (F0 m 35 ls [.int t0]) := by
    intro t0 H locs ls hl hG h
    unfold M_joined_n35 at h
    obtain ⟨hg1, h⟩ := gd_some h
    cases h
    exact gx_zret hx hb hr hlocks hg1 hG dX9_joined_35
  have n34 : ∀  (H : Heap) (locs : List Loc) (ls : Array Slot), lv_has ls 3 [] → GW g s σ H locs → M_joined_n34 = some r → Wg p l e 2 46 s m args below meth c g (some (.int r)) σ H locs (F0 m 34 ls []) := by
    intro H locs ls hl hG h
    unfold M_joined_n34 at h
    refine lv_iconst (v := (0 : Int32)) hx hb dX9_joined_34 (by decide) ?_
    exact n35 (0 : Int32) _ _ _ (lv_sub hl [] rfl) hG h
  refine lv_aload_n hx hb dX9_joined_0 rfl (lv_at hl 0 rfl) ?_
  refine lv_iload_n hx hb dX9_joined_1 rfl (lv_at hl 1 rfl) ?_
  obtain ⟨z2, hc3, h⟩ := bnd_some h
  refine gx_cV (σ' := σ) (r := (some (.int z2))) (rest := []) (As := [.int x1]) hS9 (c_M_isPost l g σ x1 z2 hc3) rfl (cwV 1 hts gX9_joined_X9_isPost rfl rfl rfl (by decide +kernel) ⟨Nat.le_of_ble_eq_true rfl, Nat.le_of_ble_eq_true rfl⟩) hK hG (ga_50 g _) rfl rfl rfl hl.1 rfl (Nat.le_of_ble_eq_true rfl) dX9_joined_2 (fun H locs hG => ?_)
  refine W.eq (g2 := F0 m 5 ls [.int z2]) rfl ?_
  refine lv_if_eq (tgt := 34) hx hb dX9_joined_5 (by decide) (fun c4 => ?_) (fun c4 => ?_)
  · have h := ite_t c4 h
    exact n34 _ _ _ (lv_sub hl [] rfl) hG h
  · have h := ite_f c4 h
    refine lv_aload_n hx hb dX9_joined_8 rfl (lv_at hl 0 rfl) ?_
    refine lv_iload_n hx hb dX9_joined_9 rfl (lv_at hl 2 rfl) ?_
    obtain ⟨z5, hc6, h⟩ := bnd_some h
    refine gx_cV (σ' := σ) (r := (some (.int z5))) (rest := []) (As := [.int x2]) hS9 (c_M_isPost l g σ x2 z5 hc6) rfl (cwV 1 hts gX9_joined_X9_isPost rfl rfl rfl (by decide +kernel) ⟨Nat.le_of_ble_eq_true rfl, Nat.le_of_ble_eq_true rfl⟩) hK hG (ga_50 g _) rfl rfl rfl hl.1 rfl (Nat.le_of_ble_eq_true rfl) dX9_joined_10 (fun H locs hG => ?_)
    refine W.eq (g2 := F0 m 13 ls [.int z5]) rfl ?_
    refine lv_if_eq (tgt := 34) hx hb dX9_joined_13 (by decide) (fun c7 => ?_) (fun c7 => ?_)
    · have h := ite_t c7 h
      exact n34 _ _ _ (lv_sub hl [] rfl) hG h
    · have h := ite_f c7 h
      refine lv_aload_n hx hb dX9_joined_16 rfl (lv_at hl 0 rfl) ?_
      refine gx_get (v := .ref (g.2.1 54)) (C := RX9) (T := TX9) (N := 44) hx hb hts hinX9 hown hK hG (ga_50 g _) rfl 4 (by decide) hw0 rfl rfl dX9_joined_17 ?_
      refine lv_bipush (v := (32 : Int32)) hx hb dX9_joined_20 (by decide) ?_
      refine lv_iload_n hx hb dX9_joined_22 rfl (lv_at hl 1 rfl) ?_
      refine lv_imul hx hb dX9_joined_23 ?_
      refine lv_iload_n hx hb dX9_joined_24 rfl (lv_at hl 2 rfl) ?_
      refine lv_iadd hx hb dX9_joined_25 ?_
      obtain ⟨hg8, h⟩ := gd_some h
      refine gx_zald (f := (σ.2.2.1 54)) hx hb hK hG (ga_54 g _) hg8 dX9_joined_26 ?_
      refine lv_if_eq (tgt := 34) hx hb dX9_joined_27 (by decide) (fun c9 => ?_) (fun c9 => ?_)
      · have h := ite_t c9 h
        exact n34 _ _ _ (lv_sub hl [] rfl) hG h
      · have h := ite_f c9 h
        refine lv_iconst (v := (1 : Int32)) hx hb dX9_joined_30 (by decide) ?_
        refine lv_goto (tgt := 35) hx hb dX9_joined_31 (by decide) ?_
        exact n35 (1 : Int32) _ _ _ (lv_sub hl [] rfl) hG h

set_option maxHeartbeats 4000000 in
set_option maxRecDepth 100000 in
theorem c_M_keep (l : Launch) (g : GC) (σ : St) (r : Int32) (w_isKept : Int32) (w_keptPosts : Int32) (w_keptRoad : Nat → Int32) (h : M_keep (σ.1 3205) (σ.1 3206) (σ.1 3203) (σ.2.2.1 55) (σ.2.2.1 54) = some (r, w_isKept, w_keptPosts, w_keptRoad)) : Cn l g yX9_keep wsX9_keep 0 0 [.ref (g.2.1 50)] σ (some (.int r)) (mkS σ [(3205, w_isKept), (3206, w_keptPosts)] [] [(55, w_keptRoad)] []) := by
  unfold Cn
  refine Met.ofW (cc := cX9_keep) (maxL := 2) (ret := (some .int)) (by decide) rfl ?_
  intro p e s m args below meth c s₁ B hml hv
  obtain ⟨hargs, hP0, hK⟩ := hv
  have hx := B.exec
  have hb := B.bytes
  have hr := B.returns
  have hts := atoms_spec (ws := wsX9_keep) B.pre
  have hown : s.vm.findClass RX9 = some m.cls := findClass_of_methodNamed B.named
  have hlocks := B.notSynchronized
  have hinX9 : ∀ w ∈ wsX90, w ∈ wsX9_keep := fun w h => List.mem_cons_of_mem _ (List.mem_append_right _ (h))
  have hw0 := hts (.fieldLink RX9 23 "LikeNetsModel" "keptRoad" "[Z") (List.mem_of_getElem? (i := 4) rfl)
  have hw1 := hts (.fieldLink RX9 19 "LikeNetsModel" "road" "[Z") (List.mem_of_getElem? (i := 5) rfl)
  have hw2 := hts (.fieldLink RX9 291 "LikeNetsModel" "isKept" "Z") (List.mem_of_getElem? (i := 1) rfl)
  have hw3 := hts (.fieldLink RX9 116 "LikeNetsModel" "posts" "I") (List.mem_of_getElem? (i := 2) rfl)
  have hw4 := hts (.fieldLink RX9 294 "LikeNetsModel" "keptPosts" "I") (List.mem_of_getElem? (i := 3) rfl)
  have hf9 : entryFrame m args 2 = _ := (congrArg (fun a => entryFrame m a 2) hargs).trans (lg_entry_eq m [.ref (g.2.1 50)] 2)
  show Wg p l e 0 0 s m args below meth c g (some (.int r)) (mkS σ [(3205, w_isKept), (3206, w_keptPosts)] [] [(55, w_keptRoad)] []) s.heap [] (entryFrame m args 2)
  rw [hf9]
  have hl := lv_entry ([.ref (g.2.1 50)]) (n := 2) (Nat.le_of_ble_eq_true rfl)
  generalize (lg_sl ([.ref (g.2.1 50)]) ++ List.replicate (2 - (lg_sl ([.ref (g.2.1 50)])).length) Slot.unset).toArray = ls at hl ⊢
  have hl : lv_has ls 2 [(0, .ref (g.2.1 50))] := hl
  have hG : GW g s σ s.heap [] := ⟨hP0, va_S.rf⟩
  have hG : GW g s (mkS σ [(3205, (σ.1 3205)), (3206, (σ.1 3206))] [] [(55, (σ.2.2.1 55))] []) s.heap [] := GW_self [3205, 3206] [] [55] [] hG
  unfold M_keep at h
  have n40 : ∀ (v_isKept : Int32) (v_keptPosts : Int32) (v_keptRoad : Nat → Int32) (H : Heap) (locs : List Loc) (ls : Array Slot), lv_has ls 2 [] → GW g s (mkS σ [(3205, v_isKept), (3206, v_keptPosts)] [] [(55, v_keptRoad)] []) H locs → M_keep_n40 v_isKept v_keptPosts v_keptRoad = some (r, w_isKept, w_keptPosts, w_keptRoad) → Wg p l e 0 0 s m args below meth c g (some (.int r)) (mkS σ [(3205, w_isKept), (3206, w_keptPosts)] [] [(55, w_keptRoad)] []) H locs (F0 m 40 ls []) := by
    intro v_isKept v_keptPosts v_keptRoad H locs ls hl hG h
    unfold M_keep_n40 at h
    refine lv_iconst (v := (1 : Int32)) hx hb dX9_keep_40 (by decide) ?_
    cases h
    exact gx_iret hx hb hr hlocks hG dX9_keep_41
  have n15 : ∀ (k15 : Int32 → Int32 → Int32 → (Nat → Int32) → Option (Int32 × Int32 × Int32 × (Nat → Int32))) (hk15 : ∀ (x1 : Int32) (v_isKept : Int32) (v_keptPosts : Int32) (v_keptRoad : Nat → Int32) (H : Heap) (locs : List Loc) (ls : Array Slot), lv_has ls 2 [(0, .ref (g.2.1 50)), (1, .int x1)] → GW g s (mkS σ [(3205, v_isKept), (3206, v_keptPosts)] [] [(55, v_keptRoad)] []) H locs → k15 x1 v_isKept v_keptPosts v_keptRoad = some (r, w_isKept, w_keptPosts, w_keptRoad) → Wg p l e 0 0 s m args below meth c g (some (.int r)) (mkS σ [(3205, w_isKept), (3206, w_keptPosts)] [] [(55, w_keptRoad)] []) H locs (F0 m 15 ls [])) (x1 : Int32) (v_isKept : Int32) (v_keptPosts : Int32) (v_keptRoad : Nat → Int32) (H : Heap) (locs : List Loc) (ls : Array Slot), lv_has ls 2 [(0, .ref (g.2.1 50)), (1, .int x1)] → GW g s (mkS σ [(3205, v_isKept), (3206, v_keptPosts)] [] [(55, v_keptRoad)] []) H locs → M_keep_n15 k15 (σ.2.2.1 54) x1 v_isKept v_keptPosts v_keptRoad = some (r, w_isKept, w_keptPosts, w_keptRoad) → Wg p l e 0 0 s m args below meth c g (some (.int r)) (mkS σ [(3205, w_isKept), (3206, w_keptPosts)] [] [(55, w_keptRoad)] []) H locs (F0 m 15 ls []) := by
    intro k15 hk15 x1 v_isKept v_keptPosts v_keptRoad H locs ls hl hG h
    unfold M_keep_n15 at h
    refine lv_iload_n hx hb dX9_keep_15 rfl (lv_at hl 1 rfl) ?_
    refine lv_sipush (v := (1024 : Int32)) hx hb dX9_keep_16 (by decide) ?_
    refine lv_icmp_ge (tgt := 40) hx hb dX9_keep_19 (by decide) (fun c1 => ?_) (fun c1 => ?_)
    · have h := ite_t c1 h
      exact n40 v_isKept v_keptPosts v_keptRoad _ _ _ (lv_sub hl [] rfl) hG h
    · have h := ite_f c1 h
      refine lv_aload_n hx hb dX9_keep_22 rfl (lv_at hl 0 rfl) ?_
      refine gx_get (v := .ref (g.2.1 55)) (C := RX9) (T := TX9) (N := 44) hx hb hts hinX9 hown hK hG (ga_50 g _) rfl 7 (by decide) hw0 rfl rfl dX9_keep_23 ?_
      refine lv_iload_n hx hb dX9_keep_26 rfl (lv_at hl 1 rfl) ?_
      refine lv_aload_n hx hb dX9_keep_27 rfl (lv_at hl 0 rfl) ?_
      refine gx_get (v := .ref (g.2.1 54)) (C := RX9) (T := TX9) (N := 44) hx hb hts hinX9 hown hK hG (ga_50 g _) rfl 4 (by decide) hw1 rfl rfl dX9_keep_28 ?_
      refine lv_iload_n hx hb dX9_keep_31 rfl (lv_at hl 1 rfl) ?_
      obtain ⟨hg2, h⟩ := gd_some h
      refine gx_zald (f := (σ.2.2.1 54)) hx hb hK hG (ga_54 g _) hg2 dX9_keep_32 ?_
      obtain ⟨hg3, h⟩ := gd_some h
      refine gx_zast (σ' := (mkS σ [(3205, v_isKept), (3206, v_keptPosts)] [] [(55, (upd v_keptRoad (x1.toNatClampNeg) ((σ.2.2.1 54) (x1.toNatClampNeg))))] [])) (f := v_keptRoad) hx hb hK hG (ga_55 g _) hg2 hg3 ((gs_55 g _ _).trans (congrArg (g_cells g) (mk_c 0 rfl rfl))) dX9_keep_33 (fun H locs hG => ?_)
      refine lv_iinc (v := (x1 + (1 : Int32))) (lv' := [(1, .int (x1 + (1 : Int32))), (0, .ref (g.2.1 50))]) hx hb dX9_keep_34 hl (k := 1) rfl (congrArg (fun z => x1 + z) (by decide)) (Nat.le_of_ble_eq_true rfl) rfl (fun ls hl => ?_)
      refine lv_goto (tgt := 15) hx hb dX9_keep_37 (by decide) ?_
      exact hk15 (x1 + (1 : Int32)) v_isKept v_keptPosts (upd v_keptRoad (x1.toNatClampNeg) ((σ.2.2.1 54) (x1.toNatClampNeg))) _ _ _ (lv_sub hl [1, 0] rfl) hG h
  have l15 : ∀  (F : Nat) (x1 : Int32) (v_isKept : Int32) (v_keptPosts : Int32) (v_keptRoad : Nat → Int32) (H : Heap) (locs : List Loc) (ls : Array Slot), lv_has ls 2 [(0, .ref (g.2.1 50)), (1, .int x1)] → GW g s (mkS σ [(3205, v_isKept), (3206, v_keptPosts)] [] [(55, v_keptRoad)] []) H locs → M_keep_l15 (σ.2.2.1 54) F x1 v_isKept v_keptPosts v_keptRoad = some (r, w_isKept, w_keptPosts, w_keptRoad) → Wg p l e 0 0 s m args below meth c g (some (.int r)) (mkS σ [(3205, w_isKept), (3206, w_keptPosts)] [] [(55, w_keptRoad)] []) H locs (F0 m 15 ls []) := by
    intro F
    induction F with
    | zero => intro x1 v_isKept v_keptPosts v_keptRoad H locs ls hl hG h; exact no_some h
    | succ F ih => intro x1 v_isKept v_keptPosts v_keptRoad H locs ls hl hG h; exact n15 (fun x1 v_isKept v_keptPosts v_keptRoad => M_keep_l15 (σ.2.2.1 54) F x1 v_isKept v_keptPosts v_keptRoad) ih x1 v_isKept v_keptPosts v_keptRoad H locs ls hl hG h
  refine lv_aload_n hx hb dX9_keep_0 rfl (lv_at hl 0 rfl) ?_
  refine lv_iconst (v := (1 : Int32)) hx hb dX9_keep_1 (by decide) ?_
  refine gx_put (σ' := (mkS σ [(3205, (1 : Int32)), (3206, (σ.1 3206))] [] [(55, (σ.2.2.1 55))] [])) (C := RX9) (T := TX9) (N := 44) hx hb hts hinX9 tyX9 tyX9_ok nmX9 hown hK hG (ga_50 g _) rfl 5 (by decide) hw2 rfl rfl (isb_n (by decide)) (isb_f (by decide)) (Nat.le_of_ble_eq_true rfl) ((gf_3205 g _ _).trans (congrArg (g_cells g) (mk_a 0 rfl rfl))) dX9_keep_2 (fun H locs hG => ?_)
  refine lv_aload_n hx hb dX9_keep_5 rfl (lv_at hl 0 rfl) ?_
  refine lv_aload_n hx hb dX9_keep_6 rfl (lv_at hl 0 rfl) ?_
  refine gx_get (v := .int (σ.1 3203)) (C := RX9) (T := TX9) (N := 44) hx hb hts hinX9 hown hK hG (ga_50 g _) rfl 3 (by decide) hw3 rfl rfl dX9_keep_7 ?_
  refine gx_put (σ' := (mkS σ [(3205, (1 : Int32)), (3206, (σ.1 3203))] [] [(55, (σ.2.2.1 55))] [])) (C := RX9) (T := TX9) (N := 44) hx hb hts hinX9 tyX9 tyX9_ok nmX9 hown hK hG (ga_50 g _) rfl 6 (by decide) hw4 rfl rfl rfl rfl (Nat.le_of_ble_eq_true rfl) ((gf_3206 g _ _).trans (congrArg (g_cells g) (mk_a 1 rfl rfl))) dX9_keep_10 (fun H locs hG => ?_)
  refine lv_iconst (v := (0 : Int32)) hx hb dX9_keep_13 (by decide) ?_
  refine lv_istore_n (lv' := [(1, .int (0 : Int32)), (0, .ref (g.2.1 50))]) hx hb dX9_keep_14 rfl hl (Nat.le_of_ble_eq_true rfl) rfl (fun ls hl => ?_)
  exact l15 FUEL (0 : Int32) (1 : Int32) (σ.1 3203) (σ.2.2.1 55) _ _ _ (lv_sub hl [1, 0] rfl) hG h

set_option maxHeartbeats 4000000 in
set_option maxRecDepth 100000 in
theorem c_M_sign (l : Launch) (g : GC) (σ : St) (x1 : Int32) (x2 : Int32) (w_signs : Nat → Int32) (h : M_sign x1 x2 (σ.1 3203) (σ.2.2.1 78) (σ.2.2.1 80) = some w_signs) : Cn l g yX9_sign wsX9_sign 0 0 [.ref (g.2.1 50), .int x1, .int x2] σ none (mkS σ [] [] [(80, w_signs)] []) := by
  unfold Cn
  refine Met.ofW (cc := cX9_sign) (maxL := 7) (ret := none) (by decide) rfl ?_
  intro p e s m args below meth c s₁ B hml hv
  obtain ⟨hargs, hP0, hK⟩ := hv
  have hx := B.exec
  have hb := B.bytes
  have hr := B.returns
  have hts := atoms_spec (ws := wsX9_sign) B.pre
  have hown : s.vm.findClass RX9 = some m.cls := findClass_of_methodNamed B.named
  have hlocks := B.notSynchronized
  have hinX9 : ∀ w ∈ wsX90, w ∈ wsX9_sign := fun w h => List.mem_cons_of_mem _ (List.mem_append_right _ (h))
  have hw0 := hts (.fieldLink RX9 104 "LikeNetsModel" "signs" "[I") (List.mem_of_getElem? (i := 3) rfl)
  have hw1 := hts (.fieldLink RX9 116 "LikeNetsModel" "posts" "I") (List.mem_of_getElem? (i := 1) rfl)
  have hw2 := hts (.fieldLink RX9 97 "LikeNetsModel" "kindOf" "[I") (List.mem_of_getElem? (i := 2) rfl)
  have hf9 : entryFrame m args 7 = _ := (congrArg (fun a => entryFrame m a 7) hargs).trans (lg_entry_eq m [.ref (g.2.1 50), .int x1, .int x2] 7)
  show Wg p l e 0 0 s m args below meth c g none (mkS σ [] [] [(80, w_signs)] []) s.heap [] (entryFrame m args 7)
  rw [hf9]
  have hl := lv_entry ([.ref (g.2.1 50), .int x1, .int x2]) (n := 7) (Nat.le_of_ble_eq_true rfl)
  generalize (lg_sl ([.ref (g.2.1 50), .int x1, .int x2]) ++ List.replicate (7 - (lg_sl ([.ref (g.2.1 50), .int x1, .int x2])).length) Slot.unset).toArray = ls at hl ⊢
  have hl : lv_has ls 7 [(0, .ref (g.2.1 50)), (1, .int x1), (2, .int x2)] := hl
  have hG : GW g s σ s.heap [] := ⟨hP0, va_S.rf⟩
  have hG : GW g s (mkS σ [] [] [(80, (σ.2.2.1 80))] []) s.heap [] := GW_self [] [] [80] [] hG
  unfold M_sign at h
  have n104 : ∀ (k13 : Int32 → Int32 → Int32 → Int32 → (Nat → Int32) → Option ((Nat → Int32))) (hk13 : ∀ (x1 : Int32) (x2 : Int32) (x3 : Int32) (x4 : Int32) (v_signs : Nat → Int32) (H : Heap) (locs : List Loc) (ls : Array Slot), lv_has ls 7 [(0, .ref (g.2.1 50)), (1, .int x1), (2, .int x2), (3, .int x3), (4, .int x4)] → GW g s (mkS σ [] [] [(80, v_signs)] []) H locs → k13 x1 x2 x3 x4 v_signs = some w_signs → Wg p l e 0 0 s m args below meth c g none (mkS σ [] [] [(80, w_signs)] []) H locs (F0 m 13 ls [])) (x1 : Int32) (x2 : Int32) (x3 : Int32) (x4 : Int32) (x5 : Int32) (x6 : Int32) (v_signs : Nat → Int32) (H : Heap) (locs : List Loc) (ls : Array Slot), lv_has ls 7 [(0, .ref (g.2.1 50)), (1, .int x1), (2, .int x2), (3, .int x3), (4, .int x4), (5, .int x5), (6, .int x6)] → GW g s (mkS σ [] [] [(80, v_signs)] []) H locs → M_sign_n104 k13 x1 x2 x3 x4 x5 x6 v_signs = some w_signs → Wg p l e 0 0 s m args below meth c g none (mkS σ [] [] [(80, w_signs)] []) H locs (F0 m 104 ls []) := by
    intro k13 hk13 x1 x2 x3 x4 x5 x6 v_signs H locs ls hl hG h
    unfold M_sign_n104 at h
    refine lv_aload_n hx hb dX9_sign_104 rfl (lv_at hl 0 rfl) ?_
    refine gx_get (v := .ref (g.2.1 80)) (C := RX9) (T := TX9) (N := 44) hx hb hts hinX9 hown hK hG (ga_50 g _) rfl 41 (by decide) hw0 rfl rfl dX9_sign_105 ?_
    refine lv_iload_n hx hb dX9_sign_108 rfl (lv_at hl 3 rfl) ?_
    refine lv_iload hx hb dX9_sign_109 (lv_at hl 6 rfl) ?_
    refine lv_iadd hx hb dX9_sign_111 ?_
    refine lv_iload hx hb dX9_sign_112 (lv_at hl 5 rfl) ?_
    obtain ⟨hg1, h⟩ := gd_some h
    refine gx_iast (σ' := (mkS σ [] [] [(80, (upd v_signs ((x3 + x6).toNatClampNeg) x5))] [])) (f := v_signs) hx hb hK hG (ga_80 g _) hg1 ((gs_80 g _ _).trans (congrArg (g_cells g) (mk_c 0 rfl rfl))) dX9_sign_114 (fun H locs hG => ?_)
    refine lv_iinc (v := (x4 + (1 : Int32))) (lv' := [(4, .int (x4 + (1 : Int32))), (0, .ref (g.2.1 50)), (1, .int x1), (2, .int x2), (3, .int x3), (5, .int x5), (6, .int x6)]) hx hb dX9_sign_115 hl (k := 4) rfl (congrArg (fun z => x4 + z) (by decide)) (Nat.le_of_ble_eq_true rfl) rfl (fun ls hl => ?_)
    refine lv_goto (tgt := 13) hx hb dX9_sign_118 (by decide) ?_
    exact hk13 x1 x2 x3 (x4 + (1 : Int32)) (upd v_signs ((x3 + x6).toNatClampNeg) x5) _ _ _ (lv_sub hl [1, 2, 3, 4, 0] rfl) hG h
  have n57 : ∀ (k13 : Int32 → Int32 → Int32 → Int32 → (Nat → Int32) → Option ((Nat → Int32))) (hk13 : ∀ (x1 : Int32) (x2 : Int32) (x3 : Int32) (x4 : Int32) (v_signs : Nat → Int32) (H : Heap) (locs : List Loc) (ls : Array Slot), lv_has ls 7 [(0, .ref (g.2.1 50)), (1, .int x1), (2, .int x2), (3, .int x3), (4, .int x4)] → GW g s (mkS σ [] [] [(80, v_signs)] []) H locs → k13 x1 x2 x3 x4 v_signs = some w_signs → Wg p l e 0 0 s m args below meth c g none (mkS σ [] [] [(80, w_signs)] []) H locs (F0 m 13 ls [])) (k57 : Int32 → Int32 → Int32 → Int32 → Int32 → Int32 → (Nat → Int32) → Option ((Nat → Int32))) (hk57 : ∀ (x1 : Int32) (x2 : Int32) (x3 : Int32) (x4 : Int32) (x5 : Int32) (x6 : Int32) (v_signs : Nat → Int32) (H : Heap) (locs : List Loc) (ls : Array Slot), lv_has ls 7 [(0, .ref (g.2.1 50)), (1, .int x1), (2, .int x2), (3, .int x3), (4, .int x4), (5, .int x5), (6, .int x6)] → GW g s (mkS σ [] [] [(80, v_signs)] []) H locs → k57 x1 x2 x3 x4 x5 x6 v_signs = some w_signs → Wg p l e 0 0 s m args below meth c g none (mkS σ [] [] [(80, w_signs)] []) H locs (F0 m 57 ls [])) (x1 : Int32) (x2 : Int32) (x3 : Int32) (x4 : Int32) (x5 : Int32) (x6 : Int32) (v_signs : Nat → Int32) (H : Heap) (locs : List Loc) (ls : Array Slot), lv_has ls 7 [(0, .ref (g.2.1 50)), (1, .int x1), (2, .int x2), (3, .int x3), (4, .int x4), (5, .int x5), (6, .int x6)] → GW g s (mkS σ [] [] [(80, v_signs)] []) H locs → M_sign_n57 k13 k57 x1 x2 x3 x4 x5 x6 v_signs = some w_signs → Wg p l e 0 0 s m args below meth c g none (mkS σ [] [] [(80, w_signs)] []) H locs (F0 m 57 ls []) := by
    intro k13 hk13 k57 hk57 x1 x2 x3 x4 x5 x6 v_signs H locs ls hl hG h
    unfold M_sign_n57 at h
    refine lv_iload hx hb dX9_sign_57 (lv_at hl 6 rfl) ?_
    refine lv_if_le (tgt := 104) hx hb dX9_sign_59 (by decide) (fun c2 => ?_) (fun c2 => ?_)
    · have h := ite_t c2 h
      exact n104 k13 hk13 x1 x2 x3 x4 x5 x6 v_signs _ _ _ (lv_sub hl [0, 1, 2, 3, 4, 5, 6] rfl) hG h
    · have h := ite_f c2 h
      refine lv_aload_n hx hb dX9_sign_62 rfl (lv_at hl 0 rfl) ?_
      refine gx_get (v := .ref (g.2.1 80)) (C := RX9) (T := TX9) (N := 44) hx hb hts hinX9 hown hK hG (ga_50 g _) rfl 41 (by decide) hw0 rfl rfl dX9_sign_63 ?_
      refine lv_iload_n hx hb dX9_sign_66 rfl (lv_at hl 3 rfl) ?_
      refine lv_iload hx hb dX9_sign_67 (lv_at hl 6 rfl) ?_
      refine lv_iadd hx hb dX9_sign_69 ?_
      refine lv_iconst (v := (1 : Int32)) hx hb dX9_sign_70 (by decide) ?_
      refine lv_isub hx hb dX9_sign_71 ?_
      obtain ⟨hg3, h⟩ := gd_some h
      refine gx_iald (f := v_signs) hx hb hK hG (ga_80 g _) hg3 dX9_sign_72 ?_
      refine lv_iload hx hb dX9_sign_73 (lv_at hl 5 rfl) ?_
      refine lv_icmp_le (tgt := 104) hx hb dX9_sign_75 (by decide) (fun c4 => ?_) (fun c4 => ?_)
      · have h := ite_t c4 h
        exact n104 k13 hk13 x1 x2 x3 x4 x5 x6 v_signs _ _ _ (lv_sub hl [0, 1, 2, 3, 4, 5, 6] rfl) hG h
      · have h := ite_f c4 h
        refine lv_aload_n hx hb dX9_sign_78 rfl (lv_at hl 0 rfl) ?_
        refine gx_get (v := .ref (g.2.1 80)) (C := RX9) (T := TX9) (N := 44) hx hb hts hinX9 hown hK hG (ga_50 g _) rfl 41 (by decide) hw0 rfl rfl dX9_sign_79 ?_
        refine lv_iload_n hx hb dX9_sign_82 rfl (lv_at hl 3 rfl) ?_
        refine lv_iload hx hb dX9_sign_83 (lv_at hl 6 rfl) ?_
        refine lv_iadd hx hb dX9_sign_85 ?_
        refine lv_aload_n hx hb dX9_sign_86 rfl (lv_at hl 0 rfl) ?_
        refine gx_get (v := .ref (g.2.1 80)) (C := RX9) (T := TX9) (N := 44) hx hb hts hinX9 hown hK hG (ga_50 g _) rfl 41 (by decide) hw0 rfl rfl dX9_sign_87 ?_
        refine lv_iload_n hx hb dX9_sign_90 rfl (lv_at hl 3 rfl) ?_
        refine lv_iload hx hb dX9_sign_91 (lv_at hl 6 rfl) ?_
        refine lv_iadd hx hb dX9_sign_93 ?_
        refine lv_iconst (v := (1 : Int32)) hx hb dX9_sign_94 (by decide) ?_
        refine lv_isub hx hb dX9_sign_95 ?_
        refine gx_iald (f := v_signs) hx hb hK hG (ga_80 g _) hg3 dX9_sign_96 ?_
        obtain ⟨hg5, h⟩ := gd_some h
        refine gx_iast (σ' := (mkS σ [] [] [(80, (upd v_signs ((x3 + x6).toNatClampNeg) (v_signs (((x3 + x6) - (1 : Int32)).toNatClampNeg))))] [])) (f := v_signs) hx hb hK hG (ga_80 g _) hg5 ((gs_80 g _ _).trans (congrArg (g_cells g) (mk_c 0 rfl rfl))) dX9_sign_97 (fun H locs hG => ?_)
        refine lv_iinc (v := (x6 + (-1 : Int32))) (lv' := [(6, .int (x6 + (-1 : Int32))), (0, .ref (g.2.1 50)), (1, .int x1), (2, .int x2), (3, .int x3), (4, .int x4), (5, .int x5)]) hx hb dX9_sign_98 hl (k := 6) rfl (congrArg (fun z => x6 + z) (by decide)) (Nat.le_of_ble_eq_true rfl) rfl (fun ls hl => ?_)
        refine lv_goto (tgt := 57) hx hb dX9_sign_101 (by decide) ?_
        exact hk57 x1 x2 x3 x4 x5 (x6 + (-1 : Int32)) (upd v_signs ((x3 + x6).toNatClampNeg) (v_signs (((x3 + x6) - (1 : Int32)).toNatClampNeg))) _ _ _ (lv_sub hl [1, 2, 3, 4, 5, 6, 0] rfl) hG h
  have l57 : ∀ (k13 : Int32 → Int32 → Int32 → Int32 → (Nat → Int32) → Option ((Nat → Int32))) (hk13 : ∀ (x1 : Int32) (x2 : Int32) (x3 : Int32) (x4 : Int32) (v_signs : Nat → Int32) (H : Heap) (locs : List Loc) (ls : Array Slot), lv_has ls 7 [(0, .ref (g.2.1 50)), (1, .int x1), (2, .int x2), (3, .int x3), (4, .int x4)] → GW g s (mkS σ [] [] [(80, v_signs)] []) H locs → k13 x1 x2 x3 x4 v_signs = some w_signs → Wg p l e 0 0 s m args below meth c g none (mkS σ [] [] [(80, w_signs)] []) H locs (F0 m 13 ls [])) (F : Nat) (x1 : Int32) (x2 : Int32) (x3 : Int32) (x4 : Int32) (x5 : Int32) (x6 : Int32) (v_signs : Nat → Int32) (H : Heap) (locs : List Loc) (ls : Array Slot), lv_has ls 7 [(0, .ref (g.2.1 50)), (1, .int x1), (2, .int x2), (3, .int x3), (4, .int x4), (5, .int x5), (6, .int x6)] → GW g s (mkS σ [] [] [(80, v_signs)] []) H locs → M_sign_l57 k13 F x1 x2 x3 x4 x5 x6 v_signs = some w_signs → Wg p l e 0 0 s m args below meth c g none (mkS σ [] [] [(80, w_signs)] []) H locs (F0 m 57 ls []) := by
    intro k13 hk13 F
    induction F with
    | zero => intro x1 x2 x3 x4 x5 x6 v_signs H locs ls hl hG h; exact no_some h
    | succ F ih => intro x1 x2 x3 x4 x5 x6 v_signs H locs ls hl hG h; exact n57 k13 hk13 (fun x1 x2 x3 x4 x5 x6 v_signs => M_sign_l57 k13 F x1 x2 x3 x4 x5 x6 v_signs) ih x1 x2 x3 x4 x5 x6 v_signs H locs ls hl hG h
  have n121 : ∀ (v_signs : Nat → Int32) (H : Heap) (locs : List Loc) (ls : Array Slot), lv_has ls 7 [] → GW g s (mkS σ [] [] [(80, v_signs)] []) H locs → M_sign_n121 v_signs = some w_signs → Wg p l e 0 0 s m args below meth c g none (mkS σ [] [] [(80, w_signs)] []) H locs (F0 m 121 ls []) := by
    intro v_signs H locs ls hl hG h
    unfold M_sign_n121 at h
    cases h
    exact gx_vret hx hb hr hlocks hG dX9_sign_121
  have n13 : ∀ (k13 : Int32 → Int32 → Int32 → Int32 → (Nat → Int32) → Option ((Nat → Int32))) (hk13 : ∀ (x1 : Int32) (x2 : Int32) (x3 : Int32) (x4 : Int32) (v_signs : Nat → Int32) (H : Heap) (locs : List Loc) (ls : Array Slot), lv_has ls 7 [(0, .ref (g.2.1 50)), (1, .int x1), (2, .int x2), (3, .int x3), (4, .int x4)] → GW g s (mkS σ [] [] [(80, v_signs)] []) H locs → k13 x1 x2 x3 x4 v_signs = some w_signs → Wg p l e 0 0 s m args below meth c g none (mkS σ [] [] [(80, w_signs)] []) H locs (F0 m 13 ls [])) (x1 : Int32) (x2 : Int32) (x3 : Int32) (x4 : Int32) (v_signs : Nat → Int32) (H : Heap) (locs : List Loc) (ls : Array Slot), lv_has ls 7 [(0, .ref (g.2.1 50)), (1, .int x1), (2, .int x2), (3, .int x3), (4, .int x4)] → GW g s (mkS σ [] [] [(80, v_signs)] []) H locs → M_sign_n13 k13 (σ.1 3203) (σ.2.2.1 78) x1 x2 x3 x4 v_signs = some w_signs → Wg p l e 0 0 s m args below meth c g none (mkS σ [] [] [(80, w_signs)] []) H locs (F0 m 13 ls []) := by
    intro k13 hk13 x1 x2 x3 x4 v_signs H locs ls hl hG h
    unfold M_sign_n13 at h
    refine lv_iload hx hb dX9_sign_13 (lv_at hl 4 rfl) ?_
    refine lv_aload_n hx hb dX9_sign_15 rfl (lv_at hl 0 rfl) ?_
    refine gx_get (v := .int (σ.1 3203)) (C := RX9) (T := TX9) (N := 44) hx hb hts hinX9 hown hK hG (ga_50 g _) rfl 3 (by decide) hw1 rfl rfl dX9_sign_16 ?_
    refine lv_icmp_ge (tgt := 121) hx hb dX9_sign_19 (by decide) (fun c6 => ?_) (fun c6 => ?_)
    · have h := ite_t c6 h
      exact n121 v_signs _ _ _ (lv_sub hl [] rfl) hG h
    · have h := ite_f c6 h
      refine lv_sipush (v := (1024 : Int32)) hx hb dX9_sign_22 (by decide) ?_
      refine lv_aload_n hx hb dX9_sign_25 rfl (lv_at hl 0 rfl) ?_
      refine gx_get (v := .ref (g.2.1 78)) (C := RX9) (T := TX9) (N := 44) hx hb hts hinX9 hown hK hG (ga_50 g _) rfl 39 (by decide) hw2 rfl rfl dX9_sign_26 ?_
      refine lv_bipush (v := (32 : Int32)) hx hb dX9_sign_29 (by decide) ?_
      refine lv_iload_n hx hb dX9_sign_31 rfl (lv_at hl 1 rfl) ?_
      refine lv_imul hx hb dX9_sign_32 ?_
      refine lv_iload hx hb dX9_sign_33 (lv_at hl 4 rfl) ?_
      refine lv_iadd hx hb dX9_sign_35 ?_
      obtain ⟨hg7, h⟩ := gd_some h
      refine gx_iald (f := (σ.2.2.1 78)) hx hb hK hG (ga_78 g _) hg7 dX9_sign_36 ?_
      refine lv_imul hx hb dX9_sign_37 ?_
      refine lv_aload_n hx hb dX9_sign_38 rfl (lv_at hl 0 rfl) ?_
      refine gx_get (v := .ref (g.2.1 78)) (C := RX9) (T := TX9) (N := 44) hx hb hts hinX9 hown hK hG (ga_50 g _) rfl 39 (by decide) hw2 rfl rfl dX9_sign_39 ?_
      refine lv_bipush (v := (32 : Int32)) hx hb dX9_sign_42 (by decide) ?_
      refine lv_iload hx hb dX9_sign_44 (lv_at hl 4 rfl) ?_
      refine lv_imul hx hb dX9_sign_46 ?_
      refine lv_iload_n hx hb dX9_sign_47 rfl (lv_at hl 2 rfl) ?_
      refine lv_iadd hx hb dX9_sign_48 ?_
      obtain ⟨hg8, h⟩ := gd_some h
      refine gx_iald (f := (σ.2.2.1 78)) hx hb hK hG (ga_78 g _) hg8 dX9_sign_49 ?_
      refine lv_iadd hx hb dX9_sign_50 ?_
      refine lv_topi (fun y9 ey9 => ?_)
      have h := lt_at h ey9
      refine lv_istore (lv' := [(5, .int y9), (0, .ref (g.2.1 50)), (1, .int x1), (2, .int x2), (3, .int x3), (4, .int x4)]) hx hb dX9_sign_51 hl (Nat.le_of_ble_eq_true rfl) rfl (fun ls hl => ?_)
      refine lv_iload hx hb dX9_sign_53 (lv_at hl 5 rfl) ?_
      refine lv_istore (lv' := [(6, .int x4), (5, .int y9), (0, .ref (g.2.1 50)), (1, .int x1), (2, .int x2), (3, .int x3), (4, .int x4)]) hx hb dX9_sign_55 hl (Nat.le_of_ble_eq_true rfl) rfl (fun ls hl => ?_)
      exact l57 k13 hk13 FUEL x1 x2 x3 x4 y9 x4 v_signs _ _ _ (lv_sub hl [2, 3, 4, 5, 6, 1, 0] rfl) hG h
  have l13 : ∀  (F : Nat) (x1 : Int32) (x2 : Int32) (x3 : Int32) (x4 : Int32) (v_signs : Nat → Int32) (H : Heap) (locs : List Loc) (ls : Array Slot), lv_has ls 7 [(0, .ref (g.2.1 50)), (1, .int x1), (2, .int x2), (3, .int x3), (4, .int x4)] → GW g s (mkS σ [] [] [(80, v_signs)] []) H locs → M_sign_l13 (σ.1 3203) (σ.2.2.1 78) F x1 x2 x3 x4 v_signs = some w_signs → Wg p l e 0 0 s m args below meth c g none (mkS σ [] [] [(80, w_signs)] []) H locs (F0 m 13 ls []) := by
    intro F
    induction F with
    | zero => intro x1 x2 x3 x4 v_signs H locs ls hl hG h; exact no_some h
    | succ F ih => intro x1 x2 x3 x4 v_signs H locs ls hl hG h; exact n13 (fun x1 x2 x3 x4 v_signs => M_sign_l13 (σ.1 3203) (σ.2.2.1 78) F x1 x2 x3 x4 v_signs) ih x1 x2 x3 x4 v_signs H locs ls hl hG h
  refine lv_bipush (v := (32 : Int32)) hx hb dX9_sign_0 (by decide) ?_
  refine lv_bipush (v := (32 : Int32)) hx hb dX9_sign_2 (by decide) ?_
  refine lv_iload_n hx hb dX9_sign_4 rfl (lv_at hl 1 rfl) ?_
  refine lv_imul hx hb dX9_sign_5 ?_
  refine lv_iload_n hx hb dX9_sign_6 rfl (lv_at hl 2 rfl) ?_
  refine lv_iadd hx hb dX9_sign_7 ?_
  refine lv_imul hx hb dX9_sign_8 ?_
  refine lv_topi (fun y10 ey10 => ?_)
  have h := lt_at h ey10
  refine lv_istore_n (lv' := [(3, .int y10), (0, .ref (g.2.1 50)), (1, .int x1), (2, .int x2)]) hx hb dX9_sign_9 rfl hl (Nat.le_of_ble_eq_true rfl) rfl (fun ls hl => ?_)
  refine lv_iconst (v := (0 : Int32)) hx hb dX9_sign_10 (by decide) ?_
  refine lv_istore (lv' := [(4, .int (0 : Int32)), (3, .int y10), (0, .ref (g.2.1 50)), (1, .int x1), (2, .int x2)]) hx hb dX9_sign_11 hl (Nat.le_of_ble_eq_true rfl) rfl (fun ls hl => ?_)
  exact l13 FUEL x1 x2 y10 (0 : Int32) (σ.2.2.1 80) _ _ _ (lv_sub hl [2, 3, 4, 1, 0] rfl) hG h

