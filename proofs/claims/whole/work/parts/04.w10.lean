set_option maxHeartbeats 4000000 in
set_option maxRecDepth 100000 in
theorem c_M_third (l : Launch) (g : GC) (σ : St) (x1 : Int32) (x2 : Int32) (x3 : Int32) (r : Int32) (w_all : Int64) (w_sizes : Nat → Int64) (w_third : Nat → Int64) (h : M_third x1 x2 x3 (σ.1 3208) (σ.2.1 3224) (σ.2.2.1 56) (σ.2.2.1 57) (σ.2.2.2 65) (σ.2.2.2 66) = some (r, w_all, w_sizes, w_third)) : Cn l g yX9_third (Cond.code yX9_third cX9_third 4 (some .int) :: wG) 3 69 [.ref (g.2.1 50), .int x1, .int x2, .int x3] σ (some (.int r)) (mkS σ [] [(3224, w_all)] [] [(65, w_sizes), (66, w_third)]) := by
  unfold Cn
  refine Met.ofW (cc := cX9_third) (maxL := 4) (ret := (some .int)) (by decide) rfl ?_
  intro p e s m args below meth c s₁ B hml hv
  obtain ⟨hargs, hP0, hK⟩ := hv
  have hx := B.exec
  have hb := B.bytes
  have hr := B.returns
  have hts : ∀ w ∈ wG, w.before args s = true := fun w h => atoms_spec (ws := (Cond.code yX9_third cX9_third 4 (some .int) :: wG)) B.pre w (List.mem_cons_of_mem _ h)
  have hown : s.vm.findClass RX9 = some m.cls := findClass_of_methodNamed B.named
  have hlocks := B.notSynchronized
  have hS9 : CallFix p m c cX9_third 4 s args wG RX9 := ⟨hx, hb, hml, hown, hts⟩
  have hw0 := hts _ mw_4_147
  have hw1 := hts _ mw_4_164
  have hf9 : entryFrame m args 4 = _ := (congrArg (fun a => entryFrame m a 4) hargs).trans (lg_entry_eq m [.ref (g.2.1 50), .int x1, .int x2, .int x3] 4)
  show Wg p l e 3 69 s m args below meth c g (some (.int r)) (mkS σ [] [(3224, w_all)] [] [(65, w_sizes), (66, w_third)]) s.heap [] (entryFrame m args 4)
  rw [hf9]
  have hl := lv_entry ([.ref (g.2.1 50), .int x1, .int x2, .int x3]) (n := 4) (Nat.le_of_ble_eq_true rfl)
  generalize (lg_sl ([.ref (g.2.1 50), .int x1, .int x2, .int x3]) ++ List.replicate (4 - (lg_sl ([.ref (g.2.1 50), .int x1, .int x2, .int x3])).length) Slot.unset).toArray = ls at hl ⊢
  have hl : lv_has ls 4 [(0, .ref (g.2.1 50)), (1, .int x1), (2, .int x2), (3, .int x3)] := hl
  have hG : GW g s σ s.heap [] := ⟨hP0, va_S.rf⟩
  have hG : GW g s (mkS σ [] [(3224, (σ.2.1 3224))] [] [(65, (σ.2.2.2 65)), (66, (σ.2.2.2 66))]) s.heap [] := GW_self [] [3224] [] [65, 66] hG
  unfold M_third at h
  have n42 : ∀ (v_all : Int64) (v_sizes : Nat → Int64) (v_third : Nat → Int64) (H : Heap) (locs : List Loc) (ls : Array Slot), lv_has ls 4 [] → GW g s (mkS σ [] [(3224, v_all)] [] [(65, v_sizes), (66, v_third)]) H locs → M_third_n42 v_all v_sizes v_third = some (r, w_all, w_sizes, w_third) → Wg p l e 3 69 s m args below meth c g (some (.int r)) (mkS σ [] [(3224, w_all)] [] [(65, w_sizes), (66, w_third)]) H locs (F0 m 42 ls []) := by
    intro v_all v_sizes v_third H locs ls hl hG h
    unfold M_third_n42 at h
    refine lv_iconst (v := (-1 : Int32)) hx hb dX9_third_42 (by decide) ?_
    cases h
    exact gx_iret hx hb hr hlocks hG dX9_third_43
  have n73 : ∀ (t0 : Int32) (v_all : Int64) (v_sizes : Nat → Int64) (v_third : Nat → Int64) (H : Heap) (locs : List Loc) (ls : Array Slot), lv_has ls 4 [] → GW g s (mkS σ [] [(3224, v_all)] [] [(65, v_sizes), (66, v_third)]) H locs → M_third_n73 t0 v_all v_sizes v_third = some (r, w_all, w_sizes, w_third) → Wg p l e 3 69 s m args below meth c g (some (.int r)) (mkS σ [] [(3224, w_all)] [] [(65, w_sizes), (66, w_third)]) H locs (F0 m 73 ls [.int t0]) := by
    intro t0 v_all v_sizes v_third H locs ls hl hG h
    unfold M_third_n73 at h
    cases h
    exact gx_iret hx hb hr hlocks hG dX9_third_73
  refine lv_iload_n hx hb dX9_third_0 rfl (lv_at hl 1 rfl) ?_
  refine lv_i2l hx hb dX9_third_1 rfl ?_
  refine lv_lconst (v := (0 : Int64)) hx hb dX9_third_2 (by decide) ?_
  refine lv_aload_n hx hb dX9_third_3 rfl (lv_at hl 0 rfl) ?_
  refine gx_get (v := .int (σ.1 3208)) (C := RX9) (T := TX9) (N := 44) hx hb hts mc_X9 hown hK hG (ga_50 g _) rfl 8 (by decide) hw0 rfl rfl dX9_third_4 ?_
  refine lv_i2l hx hb dX9_third_7 rfl ?_
  obtain ⟨z1, hc2, h⟩ := bnd_some h
  refine gx_cS (σ' := (mkS σ [] [(3224, (σ.2.1 3224))] [] [(65, (σ.2.2.2 65)), (66, (σ.2.2.2 66))])) (r := (some (.int z1))) (rest := []) (As := [.long (x1.toInt64), .long (0 : Int64), .long ((σ.1 3208).toInt64)]) hS9 (c_M_in l g (mkS σ [] [(3224, (σ.2.1 3224))] [] [(65, (σ.2.2.2 65)), (66, (σ.2.2.2 66))]) (x1.toInt64) (0 : Int64) ((σ.1 3208).toInt64) z1 hc2) rfl (va_cwS 3 hts (gz_S mw_5_41 mw_5_42 mw_1_11 mw_5_43) rfl rfl rfl hdS_X9_in ⟨Nat.le_of_ble_eq_true rfl, Nat.le_of_ble_eq_true rfl⟩) hK hG rfl hl.1 rfl (Nat.le_of_ble_eq_true rfl) dX9_third_8 (fun H locs hG => ?_)
  refine W.eq (g2 := F0 m 11 ls [.int z1]) rfl ?_
  refine lv_if_eq (tgt := 42) hx hb dX9_third_11 (by decide) (fun c3 => ?_) (fun c3 => ?_)
  · have h := ite_t c3 h
    exact n42 (σ.2.1 3224) (σ.2.2.2 65) (σ.2.2.2 66) _ _ _ (lv_sub hl [] rfl) hG h
  · have h := ite_f c3 h
    refine lv_iload_n hx hb dX9_third_14 rfl (lv_at hl 2 rfl) ?_
    refine lv_i2l hx hb dX9_third_15 rfl ?_
    refine lv_lconst (v := (0 : Int64)) hx hb dX9_third_16 (by decide) ?_
    refine lv_aload_n hx hb dX9_third_17 rfl (lv_at hl 0 rfl) ?_
    refine gx_get (v := .int (σ.1 3208)) (C := RX9) (T := TX9) (N := 44) hx hb hts mc_X9 hown hK hG (ga_50 g _) rfl 8 (by decide) hw0 rfl rfl dX9_third_18 ?_
    refine lv_i2l hx hb dX9_third_21 rfl ?_
    obtain ⟨z4, hc5, h⟩ := bnd_some h
    refine gx_cS (σ' := (mkS σ [] [(3224, (σ.2.1 3224))] [] [(65, (σ.2.2.2 65)), (66, (σ.2.2.2 66))])) (r := (some (.int z4))) (rest := []) (As := [.long (x2.toInt64), .long (0 : Int64), .long ((σ.1 3208).toInt64)]) hS9 (c_M_in l g (mkS σ [] [(3224, (σ.2.1 3224))] [] [(65, (σ.2.2.2 65)), (66, (σ.2.2.2 66))]) (x2.toInt64) (0 : Int64) ((σ.1 3208).toInt64) z4 hc5) rfl (va_cwS 3 hts (gz_S mw_5_41 mw_5_42 mw_1_11 mw_5_43) rfl rfl rfl hdS_X9_in ⟨Nat.le_of_ble_eq_true rfl, Nat.le_of_ble_eq_true rfl⟩) hK hG rfl hl.1 rfl (Nat.le_of_ble_eq_true rfl) dX9_third_22 (fun H locs hG => ?_)
    refine W.eq (g2 := F0 m 25 ls [.int z4]) rfl ?_
    refine lv_if_eq (tgt := 42) hx hb dX9_third_25 (by decide) (fun c6 => ?_) (fun c6 => ?_)
    · have h := ite_t c6 h
      exact n42 (σ.2.1 3224) (σ.2.2.2 65) (σ.2.2.2 66) _ _ _ (lv_sub hl [] rfl) hG h
    · have h := ite_f c6 h
      refine lv_iload_n hx hb dX9_third_28 rfl (lv_at hl 3 rfl) ?_
      refine lv_i2l hx hb dX9_third_29 rfl ?_
      refine lv_lconst (v := (0 : Int64)) hx hb dX9_third_30 (by decide) ?_
      refine lv_aload_n hx hb dX9_third_31 rfl (lv_at hl 0 rfl) ?_
      refine gx_get (v := .int (σ.1 3208)) (C := RX9) (T := TX9) (N := 44) hx hb hts mc_X9 hown hK hG (ga_50 g _) rfl 8 (by decide) hw0 rfl rfl dX9_third_32 ?_
      refine lv_i2l hx hb dX9_third_35 rfl ?_
      obtain ⟨z7, hc8, h⟩ := bnd_some h
      refine gx_cS (σ' := (mkS σ [] [(3224, (σ.2.1 3224))] [] [(65, (σ.2.2.2 65)), (66, (σ.2.2.2 66))])) (r := (some (.int z7))) (rest := []) (As := [.long (x3.toInt64), .long (0 : Int64), .long ((σ.1 3208).toInt64)]) hS9 (c_M_in l g (mkS σ [] [(3224, (σ.2.1 3224))] [] [(65, (σ.2.2.2 65)), (66, (σ.2.2.2 66))]) (x3.toInt64) (0 : Int64) ((σ.1 3208).toInt64) z7 hc8) rfl (va_cwS 3 hts (gz_S mw_5_41 mw_5_42 mw_1_11 mw_5_43) rfl rfl rfl hdS_X9_in ⟨Nat.le_of_ble_eq_true rfl, Nat.le_of_ble_eq_true rfl⟩) hK hG rfl hl.1 rfl (Nat.le_of_ble_eq_true rfl) dX9_third_36 (fun H locs hG => ?_)
      refine W.eq (g2 := F0 m 39 ls [.int z7]) rfl ?_
      refine lv_if_ne (tgt := 44) hx hb dX9_third_39 (by decide) (fun c9 => ?_) (fun c9 => ?_)
      · have h := ite_f c9 h
        refine lv_aload_n hx hb dX9_third_44 rfl (lv_at hl 0 rfl) ?_
        obtain ⟨z10, hc11, h⟩ := bnd_some h
        refine gx_cV (σ' := (mkS σ [] [(3224, z10.2.1)] [] [(65, z10.2.2.1), (66, z10.2.2.2)])) (r := (some (.int z10.1))) (rest := []) (As := []) hS9 (c_M_laws l g (mkS σ [] [(3224, (σ.2.1 3224))] [] [(65, (σ.2.2.2 65)), (66, (σ.2.2.2 66))]) z10.1 z10.2.1 z10.2.2.1 z10.2.2.2 hc11) (mk_mk rfl rfl rfl rfl) (cwV 0 hts (gz_V mw_5_208 mw_5_210 ms_4_7 mw_1_11 mw_5_211) rfl rfl rfl hdV_X9_laws ⟨Nat.le_of_ble_eq_true rfl, Nat.le_of_ble_eq_true rfl⟩) hK hG (ga_50 g _) rfl rfl rfl hl.1 rfl (Nat.le_of_ble_eq_true rfl) dX9_third_45 (fun H locs hG => ?_)
        refine W.eq (g2 := F0 m 48 ls [.int z10.1]) rfl ?_
        refine lv_if_le (tgt := 56) hx hb dX9_third_48 (by decide) (fun c12 => ?_) (fun c12 => ?_)
        · have h := ite_t c12 h
          refine lv_aload_n hx hb dX9_third_56 rfl (lv_at hl 0 rfl) ?_
          refine gx_get (v := .ref (g.2.1 66)) (C := RX9) (T := TX9) (N := 44) hx hb hts mc_X9 hown hK hG (ga_50 g _) rfl 25 (by decide) hw1 rfl rfl dX9_third_57 ?_
          refine lv_bipush (v := (36 : Int32)) hx hb dX9_third_60 (by decide) ?_
          refine lv_iload_n hx hb dX9_third_62 rfl (lv_at hl 1 rfl) ?_
          refine lv_imul hx hb dX9_third_63 ?_
          refine lv_bipush (v := (6 : Int32)) hx hb dX9_third_64 (by decide) ?_
          refine lv_iload_n hx hb dX9_third_66 rfl (lv_at hl 2 rfl) ?_
          refine lv_imul hx hb dX9_third_67 ?_
          refine lv_iadd hx hb dX9_third_68 ?_
          refine lv_iload_n hx hb dX9_third_69 rfl (lv_at hl 3 rfl) ?_
          refine lv_iadd hx hb dX9_third_70 ?_
          obtain ⟨hg13, h⟩ := gd_some h
          refine gx_lald (f := z10.2.2.2) hx hb hK hG (ga_66 g _) hg13 dX9_third_71 ?_
          refine lv_l2i hx hb dX9_third_72 rfl ?_
          exact n73 ((z10.2.2.2 (((((36 : Int32) * x1) + ((6 : Int32) * x2)) + x3).toNatClampNeg)).toInt32) z10.2.1 z10.2.2.1 z10.2.2.2 _ _ _ (lv_sub hl [] rfl) hG h
        · have h := ite_f c12 h
          refine lv_bipush (v := (-6 : Int32)) hx hb dX9_third_51 (by decide) ?_
          refine lv_goto (tgt := 73) hx hb dX9_third_53 (by decide) ?_
          exact n73 (-6 : Int32) z10.2.1 z10.2.2.1 z10.2.2.2 _ _ _ (lv_sub hl [] rfl) hG h
      · have h := ite_t c9 h
        exact n42 (σ.2.1 3224) (σ.2.2.2 65) (σ.2.2.2 66) _ _ _ (lv_sub hl [] rfl) hG h

set_option maxHeartbeats 4000000 in
set_option maxRecDepth 100000 in
theorem c_M_thirds (l : Launch) (g : GC) (σ : St) (x1 : Int32) (x2 : Int32) (x3 : Int32) (x4 : Int32) (r : Int32) (w_far : Int32) (w_heaps : Int32) (w_isMeasured : Int32) (w_wayOf : Nat → Int32) (h : M_thirds x1 x2 x3 x4 (σ.1 3214) (σ.1 3215) (σ.1 3212) (σ.1 3203) (σ.2.2.1 54) (σ.2.2.1 59) = some (r, w_far, w_heaps, w_isMeasured, w_wayOf)) : Cn l g yX9_thirds (Cond.code yX9_thirds cX9_thirds 8 (some .int) :: wG) 2 47 [.ref (g.2.1 50), .int x1, .int x2, .int x3, .int x4] σ (some (.int r)) (mkS σ [(3214, w_far), (3215, w_heaps), (3212, w_isMeasured)] [] [(59, w_wayOf)] []) := by
  unfold Cn
  refine Met.ofW (cc := cX9_thirds) (maxL := 8) (ret := (some .int)) (by decide) rfl ?_
  intro p e s m args below meth c s₁ B hml hv
  obtain ⟨hargs, hP0, hK⟩ := hv
  have hx := B.exec
  have hb := B.bytes
  have hr := B.returns
  have hts : ∀ w ∈ wG, w.before args s = true := fun w h => atoms_spec (ws := (Cond.code yX9_thirds cX9_thirds 8 (some .int) :: wG)) B.pre w (List.mem_cons_of_mem _ h)
  have hown : s.vm.findClass RX9 = some m.cls := findClass_of_methodNamed B.named
  have hlocks := B.notSynchronized
  have hS9 : CallFix p m c cX9_thirds 8 s args wG RX9 := ⟨hx, hb, hml, hown, hts⟩
  have hw0 := hts _ mw_4_152
  have hw1 := hts _ mw_4_142
  have hf9 : entryFrame m args 8 = _ := (congrArg (fun a => entryFrame m a 8) hargs).trans (lg_entry_eq m [.ref (g.2.1 50), .int x1, .int x2, .int x3, .int x4] 8)
  show Wg p l e 2 47 s m args below meth c g (some (.int r)) (mkS σ [(3214, w_far), (3215, w_heaps), (3212, w_isMeasured)] [] [(59, w_wayOf)] []) s.heap [] (entryFrame m args 8)
  rw [hf9]
  have hl := lv_entry ([.ref (g.2.1 50), .int x1, .int x2, .int x3, .int x4]) (n := 8) (Nat.le_of_ble_eq_true rfl)
  generalize (lg_sl ([.ref (g.2.1 50), .int x1, .int x2, .int x3, .int x4]) ++ List.replicate (8 - (lg_sl ([.ref (g.2.1 50), .int x1, .int x2, .int x3, .int x4])).length) Slot.unset).toArray = ls at hl ⊢
  have hl : lv_has ls 8 [(0, .ref (g.2.1 50)), (1, .int x1), (2, .int x2), (3, .int x3), (4, .int x4)] := hl
  have hG : GW g s σ s.heap [] := ⟨hP0, va_S.rf⟩
  have hG : GW g s (mkS σ [(3214, (σ.1 3214)), (3215, (σ.1 3215)), (3212, (σ.1 3212))] [] [(59, (σ.2.2.1 59))] []) s.heap [] := GW_self [3214, 3215, 3212] [] [59] [] hG
  unfold M_thirds at h
  have n25 : ∀ (v_far : Int32) (v_heaps : Int32) (v_isMeasured : Int32) (v_wayOf : Nat → Int32) (H : Heap) (locs : List Loc) (ls : Array Slot), lv_has ls 8 [] → GW g s (mkS σ [(3214, v_far), (3215, v_heaps), (3212, v_isMeasured)] [] [(59, v_wayOf)] []) H locs → M_thirds_n25 v_far v_heaps v_isMeasured v_wayOf = some (r, w_far, w_heaps, w_isMeasured, w_wayOf) → Wg p l e 2 47 s m args below meth c g (some (.int r)) (mkS σ [(3214, w_far), (3215, w_heaps), (3212, w_isMeasured)] [] [(59, w_wayOf)] []) H locs (F0 m 25 ls []) := by
    intro v_far v_heaps v_isMeasured v_wayOf H locs ls hl hG h
    unfold M_thirds_n25 at h
    refine lv_iconst (v := (-1 : Int32)) hx hb dX9_thirds_25 (by decide) ?_
    cases h
    exact gx_iret hx hb hr hlocks hG dX9_thirds_26
  have n132 : ∀ (k37 : Int32 → Int32 → Int32 → Int32 → Int32 → Int32 → Int32 → Int32 → Int32 → (Nat → Int32) → Option (Int32 × Int32 × Int32 × Int32 × (Nat → Int32))) (hk37 : ∀ (x1 : Int32) (x2 : Int32) (x3 : Int32) (x4 : Int32) (x5 : Int32) (x6 : Int32) (v_far : Int32) (v_heaps : Int32) (v_isMeasured : Int32) (v_wayOf : Nat → Int32) (H : Heap) (locs : List Loc) (ls : Array Slot), lv_has ls 8 [(0, .ref (g.2.1 50)), (1, .int x1), (2, .int x2), (3, .int x3), (4, .int x4), (5, .int x5), (6, .int x6)] → GW g s (mkS σ [(3214, v_far), (3215, v_heaps), (3212, v_isMeasured)] [] [(59, v_wayOf)] []) H locs → k37 x1 x2 x3 x4 x5 x6 v_far v_heaps v_isMeasured v_wayOf = some (r, w_far, w_heaps, w_isMeasured, w_wayOf) → Wg p l e 2 47 s m args below meth c g (some (.int r)) (mkS σ [(3214, w_far), (3215, w_heaps), (3212, w_isMeasured)] [] [(59, w_wayOf)] []) H locs (F0 m 37 ls [])) (x1 : Int32) (x2 : Int32) (x3 : Int32) (x4 : Int32) (x6 : Int32) (t0 : Int32) (t1 : Int32) (v_far : Int32) (v_heaps : Int32) (v_isMeasured : Int32) (v_wayOf : Nat → Int32) (H : Heap) (locs : List Loc) (ls : Array Slot), lv_has ls 8 [(0, .ref (g.2.1 50)), (1, .int x1), (2, .int x2), (3, .int x3), (4, .int x4), (6, .int x6)] → GW g s (mkS σ [(3214, v_far), (3215, v_heaps), (3212, v_isMeasured)] [] [(59, v_wayOf)] []) H locs → M_thirds_n132 k37 x1 x2 x3 x4 x6 t0 t1 v_far v_heaps v_isMeasured v_wayOf = some (r, w_far, w_heaps, w_isMeasured, w_wayOf) → Wg p l e 2 47 s m args below meth c g (some (.int r)) (mkS σ [(3214, w_far), (3215, w_heaps), (3212, w_isMeasured)] [] [(59, w_wayOf)] []) H locs (F0 m 132 ls [.int t1, .int t0]) := by
    intro k37 hk37 x1 x2 x3 x4 x6 t0 t1 v_far v_heaps v_isMeasured v_wayOf H locs ls hl hG h
    unfold M_thirds_n132 at h
    refine lv_iadd hx hb dX9_thirds_132 ?_
    refine lv_istore (lv' := [(5, .int (t0 + t1)), (0, .ref (g.2.1 50)), (1, .int x1), (2, .int x2), (3, .int x3), (4, .int x4), (6, .int x6)]) hx hb dX9_thirds_133 hl (Nat.le_of_ble_eq_true rfl) rfl (fun ls hl => ?_)
    refine lv_iinc (v := (x6 + (1 : Int32))) (lv' := [(6, .int (x6 + (1 : Int32))), (5, .int (t0 + t1)), (0, .ref (g.2.1 50)), (1, .int x1), (2, .int x2), (3, .int x3), (4, .int x4)]) hx hb dX9_thirds_135 hl (k := 6) rfl (congrArg (fun z => x6 + z) (by decide)) (Nat.le_of_ble_eq_true rfl) rfl (fun ls hl => ?_)
    refine lv_goto (tgt := 37) hx hb dX9_thirds_138 (by decide) ?_
    exact hk37 x1 x2 x3 x4 (t0 + t1) (x6 + (1 : Int32)) v_far v_heaps v_isMeasured v_wayOf _ _ _ (lv_sub hl [2, 3, 4, 5, 6, 1, 0] rfl) hG h
  have n131 : ∀ (k37 : Int32 → Int32 → Int32 → Int32 → Int32 → Int32 → Int32 → Int32 → Int32 → (Nat → Int32) → Option (Int32 × Int32 × Int32 × Int32 × (Nat → Int32))) (hk37 : ∀ (x1 : Int32) (x2 : Int32) (x3 : Int32) (x4 : Int32) (x5 : Int32) (x6 : Int32) (v_far : Int32) (v_heaps : Int32) (v_isMeasured : Int32) (v_wayOf : Nat → Int32) (H : Heap) (locs : List Loc) (ls : Array Slot), lv_has ls 8 [(0, .ref (g.2.1 50)), (1, .int x1), (2, .int x2), (3, .int x3), (4, .int x4), (5, .int x5), (6, .int x6)] → GW g s (mkS σ [(3214, v_far), (3215, v_heaps), (3212, v_isMeasured)] [] [(59, v_wayOf)] []) H locs → k37 x1 x2 x3 x4 x5 x6 v_far v_heaps v_isMeasured v_wayOf = some (r, w_far, w_heaps, w_isMeasured, w_wayOf) → Wg p l e 2 47 s m args below meth c g (some (.int r)) (mkS σ [(3214, w_far), (3215, w_heaps), (3212, w_isMeasured)] [] [(59, w_wayOf)] []) H locs (F0 m 37 ls [])) (x1 : Int32) (x2 : Int32) (x3 : Int32) (x4 : Int32) (x6 : Int32) (t0 : Int32) (v_far : Int32) (v_heaps : Int32) (v_isMeasured : Int32) (v_wayOf : Nat → Int32) (H : Heap) (locs : List Loc) (ls : Array Slot), lv_has ls 8 [(0, .ref (g.2.1 50)), (1, .int x1), (2, .int x2), (3, .int x3), (4, .int x4), (6, .int x6)] → GW g s (mkS σ [(3214, v_far), (3215, v_heaps), (3212, v_isMeasured)] [] [(59, v_wayOf)] []) H locs → M_thirds_n131 k37 x1 x2 x3 x4 x6 t0 v_far v_heaps v_isMeasured v_wayOf = some (r, w_far, w_heaps, w_isMeasured, w_wayOf) → Wg p l e 2 47 s m args below meth c g (some (.int r)) (mkS σ [(3214, w_far), (3215, w_heaps), (3212, w_isMeasured)] [] [(59, w_wayOf)] []) H locs (F0 m 131 ls [.int t0]) := by
    intro k37 hk37 x1 x2 x3 x4 x6 t0 v_far v_heaps v_isMeasured v_wayOf H locs ls hl hG h
    unfold M_thirds_n131 at h
    refine lv_iconst (v := (0 : Int32)) hx hb dX9_thirds_131 (by decide) ?_
    exact n132 k37 hk37 x1 x2 x3 x4 x6 t0 (0 : Int32) v_far v_heaps v_isMeasured v_wayOf _ _ _ (lv_sub hl [0, 1, 2, 3, 4, 5] rfl) hG h
  have n85 : ∀ (k37 : Int32 → Int32 → Int32 → Int32 → Int32 → Int32 → Int32 → Int32 → Int32 → (Nat → Int32) → Option (Int32 × Int32 × Int32 × Int32 × (Nat → Int32))) (hk37 : ∀ (x1 : Int32) (x2 : Int32) (x3 : Int32) (x4 : Int32) (x5 : Int32) (x6 : Int32) (v_far : Int32) (v_heaps : Int32) (v_isMeasured : Int32) (v_wayOf : Nat → Int32) (H : Heap) (locs : List Loc) (ls : Array Slot), lv_has ls 8 [(0, .ref (g.2.1 50)), (1, .int x1), (2, .int x2), (3, .int x3), (4, .int x4), (5, .int x5), (6, .int x6)] → GW g s (mkS σ [(3214, v_far), (3215, v_heaps), (3212, v_isMeasured)] [] [(59, v_wayOf)] []) H locs → k37 x1 x2 x3 x4 x5 x6 v_far v_heaps v_isMeasured v_wayOf = some (r, w_far, w_heaps, w_isMeasured, w_wayOf) → Wg p l e 2 47 s m args below meth c g (some (.int r)) (mkS σ [(3214, w_far), (3215, w_heaps), (3212, w_isMeasured)] [] [(59, w_wayOf)] []) H locs (F0 m 37 ls [])) (x1 : Int32) (x2 : Int32) (x3 : Int32) (x4 : Int32) (x5 : Int32) (x6 : Int32) (t0 : Int32) (v_far : Int32) (v_heaps : Int32) (v_isMeasured : Int32) (v_wayOf : Nat → Int32) (H : Heap) (locs : List Loc) (ls : Array Slot), lv_has ls 8 [(0, .ref (g.2.1 50)), (1, .int x1), (2, .int x2), (3, .int x3), (4, .int x4), (5, .int x5), (6, .int x6)] → GW g s (mkS σ [(3214, v_far), (3215, v_heaps), (3212, v_isMeasured)] [] [(59, v_wayOf)] []) H locs → M_thirds_n85 k37 x1 x2 x3 x4 x5 x6 t0 v_far v_heaps v_isMeasured v_wayOf = some (r, w_far, w_heaps, w_isMeasured, w_wayOf) → Wg p l e 2 47 s m args below meth c g (some (.int r)) (mkS σ [(3214, w_far), (3215, w_heaps), (3212, w_isMeasured)] [] [(59, w_wayOf)] []) H locs (F0 m 85 ls [.int t0]) := by
    intro k37 hk37 x1 x2 x3 x4 x5 x6 t0 v_far v_heaps v_isMeasured v_wayOf H locs ls hl hG h
    unfold M_thirds_n85 at h
    refine lv_istore (lv' := [(7, .int t0), (0, .ref (g.2.1 50)), (1, .int x1), (2, .int x2), (3, .int x3), (4, .int x4), (5, .int x5), (6, .int x6)]) hx hb dX9_thirds_85 hl (Nat.le_of_ble_eq_true rfl) rfl (fun ls hl => ?_)
    refine lv_iload hx hb dX9_thirds_87 (lv_at hl 6 rfl) ?_
    refine lv_iload hx hb dX9_thirds_89 (lv_at hl 0 rfl) ?_
    refine lv_if_eq (tgt := 131) hx hb dX9_thirds_91 (by decide) (fun c1 => ?_) (fun c1 => ?_)
    · have h := ite_t c1 h
      exact n131 k37 hk37 x1 x2 x3 x4 x6 x5 v_far v_heaps v_isMeasured v_wayOf _ _ _ (lv_sub hl [1, 2, 3, 4, 5, 7] rfl) hG h
    · have h := ite_f c1 h
      refine lv_aload_n hx hb dX9_thirds_94 rfl (lv_at hl 1 rfl) ?_
      refine gx_get (v := .ref (g.2.1 59)) (C := RX9) (T := TX9) (N := 44) hx hb hts mc_X9 hown hK hG (ga_50 g _) rfl 13 (by decide) hw0 rfl rfl dX9_thirds_95 ?_
      refine lv_bipush (v := (32 : Int32)) hx hb dX9_thirds_98 (by decide) ?_
      refine lv_iload_n hx hb dX9_thirds_100 rfl (lv_at hl 2 rfl) ?_
      refine lv_imul hx hb dX9_thirds_101 ?_
      refine lv_iload hx hb dX9_thirds_102 (lv_at hl 7 rfl) ?_
      refine lv_iadd hx hb dX9_thirds_104 ?_
      obtain ⟨hg2, h⟩ := gd_some h
      refine gx_iald (f := v_wayOf) hx hb hK hG (ga_59 g _) hg2 dX9_thirds_105 ?_
      refine lv_iload_n hx hb dX9_thirds_106 rfl (lv_at hl 4 rfl) ?_
      refine lv_icmp_ne (tgt := 131) hx hb dX9_thirds_107 (by decide) (fun c3 => ?_) (fun c3 => ?_)
      · have h := ite_f c3 h
        exact n131 k37 hk37 x1 x2 x3 x4 x6 x5 v_far v_heaps v_isMeasured v_wayOf _ _ _ (lv_sub hl [1, 2, 3, 4, 5, 7] rfl) hG h
      · have h := ite_t c3 h
        refine lv_aload_n hx hb dX9_thirds_110 rfl (lv_at hl 1 rfl) ?_
        refine gx_get (v := .ref (g.2.1 59)) (C := RX9) (T := TX9) (N := 44) hx hb hts mc_X9 hown hK hG (ga_50 g _) rfl 13 (by decide) hw0 rfl rfl dX9_thirds_111 ?_
        refine lv_bipush (v := (32 : Int32)) hx hb dX9_thirds_114 (by decide) ?_
        refine lv_iload_n hx hb dX9_thirds_116 rfl (lv_at hl 3 rfl) ?_
        refine lv_imul hx hb dX9_thirds_117 ?_
        refine lv_iload hx hb dX9_thirds_118 (lv_at hl 7 rfl) ?_
        refine lv_iadd hx hb dX9_thirds_120 ?_
        obtain ⟨hg4, h⟩ := gd_some h
        refine gx_iald (f := v_wayOf) hx hb hK hG (ga_59 g _) hg4 dX9_thirds_121 ?_
        refine lv_iload hx hb dX9_thirds_122 (lv_at hl 5 rfl) ?_
        refine lv_icmp_ne (tgt := 131) hx hb dX9_thirds_124 (by decide) (fun c5 => ?_) (fun c5 => ?_)
        · have h := ite_f c5 h
          exact n131 k37 hk37 x1 x2 x3 x4 x6 x5 v_far v_heaps v_isMeasured v_wayOf _ _ _ (lv_sub hl [1, 2, 3, 4, 5, 7] rfl) hG h
        · have h := ite_t c5 h
          refine lv_iconst (v := (1 : Int32)) hx hb dX9_thirds_127 (by decide) ?_
          refine lv_goto (tgt := 132) hx hb dX9_thirds_128 (by decide) ?_
          exact n132 k37 hk37 x1 x2 x3 x4 x6 x5 (1 : Int32) v_far v_heaps v_isMeasured v_wayOf _ _ _ (lv_sub hl [1, 2, 3, 4, 5, 7] rfl) hG h
  have n84 : ∀ (k37 : Int32 → Int32 → Int32 → Int32 → Int32 → Int32 → Int32 → Int32 → Int32 → (Nat → Int32) → Option (Int32 × Int32 × Int32 × Int32 × (Nat → Int32))) (hk37 : ∀ (x1 : Int32) (x2 : Int32) (x3 : Int32) (x4 : Int32) (x5 : Int32) (x6 : Int32) (v_far : Int32) (v_heaps : Int32) (v_isMeasured : Int32) (v_wayOf : Nat → Int32) (H : Heap) (locs : List Loc) (ls : Array Slot), lv_has ls 8 [(0, .ref (g.2.1 50)), (1, .int x1), (2, .int x2), (3, .int x3), (4, .int x4), (5, .int x5), (6, .int x6)] → GW g s (mkS σ [(3214, v_far), (3215, v_heaps), (3212, v_isMeasured)] [] [(59, v_wayOf)] []) H locs → k37 x1 x2 x3 x4 x5 x6 v_far v_heaps v_isMeasured v_wayOf = some (r, w_far, w_heaps, w_isMeasured, w_wayOf) → Wg p l e 2 47 s m args below meth c g (some (.int r)) (mkS σ [(3214, w_far), (3215, w_heaps), (3212, w_isMeasured)] [] [(59, w_wayOf)] []) H locs (F0 m 37 ls [])) (x1 : Int32) (x2 : Int32) (x3 : Int32) (x4 : Int32) (x5 : Int32) (x6 : Int32) (v_far : Int32) (v_heaps : Int32) (v_isMeasured : Int32) (v_wayOf : Nat → Int32) (H : Heap) (locs : List Loc) (ls : Array Slot), lv_has ls 8 [(0, .ref (g.2.1 50)), (1, .int x1), (2, .int x2), (3, .int x3), (4, .int x4), (5, .int x5), (6, .int x6)] → GW g s (mkS σ [(3214, v_far), (3215, v_heaps), (3212, v_isMeasured)] [] [(59, v_wayOf)] []) H locs → M_thirds_n84 k37 x1 x2 x3 x4 x5 x6 v_far v_heaps v_isMeasured v_wayOf = some (r, w_far, w_heaps, w_isMeasured, w_wayOf) → Wg p l e 2 47 s m args below meth c g (some (.int r)) (mkS σ [(3214, w_far), (3215, w_heaps), (3212, w_isMeasured)] [] [(59, w_wayOf)] []) H locs (F0 m 84 ls []) := by
    intro k37 hk37 x1 x2 x3 x4 x5 x6 v_far v_heaps v_isMeasured v_wayOf H locs ls hl hG h
    unfold M_thirds_n84 at h
    refine lv_iconst (v := (0 : Int32)) hx hb dX9_thirds_84 (by decide) ?_
    exact n85 k37 hk37 x1 x2 x3 x4 x5 x6 (0 : Int32) v_far v_heaps v_isMeasured v_wayOf _ _ _ (lv_sub hl [0, 1, 2, 3, 4, 5, 6] rfl) hG h
  have n141 : ∀ (x5 : Int32) (v_far : Int32) (v_heaps : Int32) (v_isMeasured : Int32) (v_wayOf : Nat → Int32) (H : Heap) (locs : List Loc) (ls : Array Slot), lv_has ls 8 [(5, .int x5)] → GW g s (mkS σ [(3214, v_far), (3215, v_heaps), (3212, v_isMeasured)] [] [(59, v_wayOf)] []) H locs → M_thirds_n141 x5 v_far v_heaps v_isMeasured v_wayOf = some (r, w_far, w_heaps, w_isMeasured, w_wayOf) → Wg p l e 2 47 s m args below meth c g (some (.int r)) (mkS σ [(3214, w_far), (3215, w_heaps), (3212, w_isMeasured)] [] [(59, w_wayOf)] []) H locs (F0 m 141 ls []) := by
    intro x5 v_far v_heaps v_isMeasured v_wayOf H locs ls hl hG h
    unfold M_thirds_n141 at h
    refine lv_iload hx hb dX9_thirds_141 (lv_at hl 0 rfl) ?_
    cases h
    exact gx_iret hx hb hr hlocks hG dX9_thirds_143
  have n37 : ∀ (k37 : Int32 → Int32 → Int32 → Int32 → Int32 → Int32 → Int32 → Int32 → Int32 → (Nat → Int32) → Option (Int32 × Int32 × Int32 × Int32 × (Nat → Int32))) (hk37 : ∀ (x1 : Int32) (x2 : Int32) (x3 : Int32) (x4 : Int32) (x5 : Int32) (x6 : Int32) (v_far : Int32) (v_heaps : Int32) (v_isMeasured : Int32) (v_wayOf : Nat → Int32) (H : Heap) (locs : List Loc) (ls : Array Slot), lv_has ls 8 [(0, .ref (g.2.1 50)), (1, .int x1), (2, .int x2), (3, .int x3), (4, .int x4), (5, .int x5), (6, .int x6)] → GW g s (mkS σ [(3214, v_far), (3215, v_heaps), (3212, v_isMeasured)] [] [(59, v_wayOf)] []) H locs → k37 x1 x2 x3 x4 x5 x6 v_far v_heaps v_isMeasured v_wayOf = some (r, w_far, w_heaps, w_isMeasured, w_wayOf) → Wg p l e 2 47 s m args below meth c g (some (.int r)) (mkS σ [(3214, w_far), (3215, w_heaps), (3212, w_isMeasured)] [] [(59, w_wayOf)] []) H locs (F0 m 37 ls [])) (x1 : Int32) (x2 : Int32) (x3 : Int32) (x4 : Int32) (x5 : Int32) (x6 : Int32) (v_far : Int32) (v_heaps : Int32) (v_isMeasured : Int32) (v_wayOf : Nat → Int32) (H : Heap) (locs : List Loc) (ls : Array Slot), lv_has ls 8 [(0, .ref (g.2.1 50)), (1, .int x1), (2, .int x2), (3, .int x3), (4, .int x4), (5, .int x5), (6, .int x6)] → GW g s (mkS σ [(3214, v_far), (3215, v_heaps), (3212, v_isMeasured)] [] [(59, v_wayOf)] []) H locs → M_thirds_n37 k37 (σ.1 3203) x1 x2 x3 x4 x5 x6 v_far v_heaps v_isMeasured v_wayOf = some (r, w_far, w_heaps, w_isMeasured, w_wayOf) → Wg p l e 2 47 s m args below meth c g (some (.int r)) (mkS σ [(3214, w_far), (3215, w_heaps), (3212, w_isMeasured)] [] [(59, w_wayOf)] []) H locs (F0 m 37 ls []) := by
    intro k37 hk37 x1 x2 x3 x4 x5 x6 v_far v_heaps v_isMeasured v_wayOf H locs ls hl hG h
    unfold M_thirds_n37 at h
    refine lv_iload hx hb dX9_thirds_37 (lv_at hl 6 rfl) ?_
    refine lv_aload_n hx hb dX9_thirds_39 rfl (lv_at hl 0 rfl) ?_
    refine gx_get (v := .int (σ.1 3203)) (C := RX9) (T := TX9) (N := 44) hx hb hts mc_X9 hown hK hG (ga_50 g _) rfl 3 (by decide) hw1 rfl rfl dX9_thirds_40 ?_
    refine lv_icmp_ge (tgt := 141) hx hb dX9_thirds_43 (by decide) (fun c6 => ?_) (fun c6 => ?_)
    · have h := ite_t c6 h
      exact n141 x5 v_far v_heaps v_isMeasured v_wayOf _ _ _ (lv_sub hl [5] rfl) hG h
    · have h := ite_f c6 h
      refine lv_aload_n hx hb dX9_thirds_46 rfl (lv_at hl 0 rfl) ?_
      refine gx_get (v := .ref (g.2.1 59)) (C := RX9) (T := TX9) (N := 44) hx hb hts mc_X9 hown hK hG (ga_50 g _) rfl 13 (by decide) hw0 rfl rfl dX9_thirds_47 ?_
      refine lv_bipush (v := (32 : Int32)) hx hb dX9_thirds_50 (by decide) ?_
      refine lv_iload_n hx hb dX9_thirds_52 rfl (lv_at hl 1 rfl) ?_
      refine lv_imul hx hb dX9_thirds_53 ?_
      refine lv_iload hx hb dX9_thirds_54 (lv_at hl 6 rfl) ?_
      refine lv_iadd hx hb dX9_thirds_56 ?_
      obtain ⟨hg7, h⟩ := gd_some h
      refine gx_iald (f := v_wayOf) hx hb hK hG (ga_59 g _) hg7 dX9_thirds_57 ?_
      refine lv_bipush (v := (99 : Int32)) hx hb dX9_thirds_58 (by decide) ?_
      refine lv_icmp_eq (tgt := 84) hx hb dX9_thirds_60 (by decide) (fun c8 => ?_) (fun c8 => ?_)
      · have h := ite_t c8 h
        exact n84 k37 hk37 x1 x2 x3 x4 x5 x6 v_far v_heaps v_isMeasured v_wayOf _ _ _ (lv_sub hl [0, 1, 2, 3, 4, 5, 6] rfl) hG h
      · have h := ite_f c8 h
        refine lv_aload_n hx hb dX9_thirds_63 rfl (lv_at hl 0 rfl) ?_
        refine gx_get (v := .ref (g.2.1 59)) (C := RX9) (T := TX9) (N := 44) hx hb hts mc_X9 hown hK hG (ga_50 g _) rfl 13 (by decide) hw0 rfl rfl dX9_thirds_64 ?_
        refine lv_bipush (v := (32 : Int32)) hx hb dX9_thirds_67 (by decide) ?_
        refine lv_iload_n hx hb dX9_thirds_69 rfl (lv_at hl 2 rfl) ?_
        refine lv_imul hx hb dX9_thirds_70 ?_
        refine lv_iload hx hb dX9_thirds_71 (lv_at hl 6 rfl) ?_
        refine lv_iadd hx hb dX9_thirds_73 ?_
        obtain ⟨hg9, h⟩ := gd_some h
        refine gx_iald (f := v_wayOf) hx hb hK hG (ga_59 g _) hg9 dX9_thirds_74 ?_
        refine lv_bipush (v := (99 : Int32)) hx hb dX9_thirds_75 (by decide) ?_
        refine lv_icmp_eq (tgt := 84) hx hb dX9_thirds_77 (by decide) (fun c10 => ?_) (fun c10 => ?_)
        · have h := ite_t c10 h
          exact n84 k37 hk37 x1 x2 x3 x4 x5 x6 v_far v_heaps v_isMeasured v_wayOf _ _ _ (lv_sub hl [0, 1, 2, 3, 4, 5, 6] rfl) hG h
        · have h := ite_f c10 h
          refine lv_iconst (v := (1 : Int32)) hx hb dX9_thirds_80 (by decide) ?_
          refine lv_goto (tgt := 85) hx hb dX9_thirds_81 (by decide) ?_
          exact n85 k37 hk37 x1 x2 x3 x4 x5 x6 (1 : Int32) v_far v_heaps v_isMeasured v_wayOf _ _ _ (lv_sub hl [0, 1, 2, 3, 4, 5, 6] rfl) hG h
  have l37 : ∀  (F : Nat) (x1 : Int32) (x2 : Int32) (x3 : Int32) (x4 : Int32) (x5 : Int32) (x6 : Int32) (v_far : Int32) (v_heaps : Int32) (v_isMeasured : Int32) (v_wayOf : Nat → Int32) (H : Heap) (locs : List Loc) (ls : Array Slot), lv_has ls 8 [(0, .ref (g.2.1 50)), (1, .int x1), (2, .int x2), (3, .int x3), (4, .int x4), (5, .int x5), (6, .int x6)] → GW g s (mkS σ [(3214, v_far), (3215, v_heaps), (3212, v_isMeasured)] [] [(59, v_wayOf)] []) H locs → M_thirds_l37 (σ.1 3203) F x1 x2 x3 x4 x5 x6 v_far v_heaps v_isMeasured v_wayOf = some (r, w_far, w_heaps, w_isMeasured, w_wayOf) → Wg p l e 2 47 s m args below meth c g (some (.int r)) (mkS σ [(3214, w_far), (3215, w_heaps), (3212, w_isMeasured)] [] [(59, w_wayOf)] []) H locs (F0 m 37 ls []) := by
    intro F
    induction F with
    | zero => intro x1 x2 x3 x4 x5 x6 v_far v_heaps v_isMeasured v_wayOf H locs ls hl hG h; exact no_some h
    | succ F ih => intro x1 x2 x3 x4 x5 x6 v_far v_heaps v_isMeasured v_wayOf H locs ls hl hG h; exact n37 (fun x1 x2 x3 x4 x5 x6 v_far v_heaps v_isMeasured v_wayOf => M_thirds_l37 (σ.1 3203) F x1 x2 x3 x4 x5 x6 v_far v_heaps v_isMeasured v_wayOf) ih x1 x2 x3 x4 x5 x6 v_far v_heaps v_isMeasured v_wayOf H locs ls hl hG h
  refine lv_aload_n hx hb dX9_thirds_0 rfl (lv_at hl 0 rfl) ?_
  refine lv_iload_n hx hb dX9_thirds_1 rfl (lv_at hl 1 rfl) ?_
  obtain ⟨z11, hc12, h⟩ := bnd_some h
  refine gx_cV (σ' := (mkS σ [(3214, (σ.1 3214)), (3215, (σ.1 3215)), (3212, (σ.1 3212))] [] [(59, (σ.2.2.1 59))] [])) (r := (some (.int z11))) (rest := []) (As := [.int x1]) hS9 (c_M_isPost l g (mkS σ [(3214, (σ.1 3214)), (3215, (σ.1 3215)), (3212, (σ.1 3212))] [] [(59, (σ.2.2.1 59))] []) x1 z11 hc12) rfl (cwV 1 hts (gz_V mw_5_66 mw_5_68 ms_3_5 mw_1_11 mw_5_69) rfl rfl rfl hdV_X9_isPost ⟨Nat.le_of_ble_eq_true rfl, Nat.le_of_ble_eq_true rfl⟩) hK hG (ga_50 g _) rfl rfl rfl hl.1 rfl (Nat.le_of_ble_eq_true rfl) dX9_thirds_2 (fun H locs hG => ?_)
  refine W.eq (g2 := F0 m 5 ls [.int z11]) rfl ?_
  refine lv_if_eq (tgt := 25) hx hb dX9_thirds_5 (by decide) (fun c13 => ?_) (fun c13 => ?_)
  · have h := ite_t c13 h
    exact n25 (σ.1 3214) (σ.1 3215) (σ.1 3212) (σ.2.2.1 59) _ _ _ (lv_sub hl [] rfl) hG h
  · have h := ite_f c13 h
    refine lv_aload_n hx hb dX9_thirds_8 rfl (lv_at hl 0 rfl) ?_
    refine lv_iload_n hx hb dX9_thirds_9 rfl (lv_at hl 2 rfl) ?_
    obtain ⟨z14, hc15, h⟩ := bnd_some h
    refine gx_cV (σ' := (mkS σ [(3214, (σ.1 3214)), (3215, (σ.1 3215)), (3212, (σ.1 3212))] [] [(59, (σ.2.2.1 59))] [])) (r := (some (.int z14))) (rest := []) (As := [.int x2]) hS9 (c_M_isPost l g (mkS σ [(3214, (σ.1 3214)), (3215, (σ.1 3215)), (3212, (σ.1 3212))] [] [(59, (σ.2.2.1 59))] []) x2 z14 hc15) rfl (cwV 1 hts (gz_V mw_5_66 mw_5_68 ms_3_5 mw_1_11 mw_5_69) rfl rfl rfl hdV_X9_isPost ⟨Nat.le_of_ble_eq_true rfl, Nat.le_of_ble_eq_true rfl⟩) hK hG (ga_50 g _) rfl rfl rfl hl.1 rfl (Nat.le_of_ble_eq_true rfl) dX9_thirds_10 (fun H locs hG => ?_)
    refine W.eq (g2 := F0 m 13 ls [.int z14]) rfl ?_
    refine lv_if_eq (tgt := 25) hx hb dX9_thirds_13 (by decide) (fun c16 => ?_) (fun c16 => ?_)
    · have h := ite_t c16 h
      exact n25 (σ.1 3214) (σ.1 3215) (σ.1 3212) (σ.2.2.1 59) _ _ _ (lv_sub hl [] rfl) hG h
    · have h := ite_f c16 h
      refine lv_iload_n hx hb dX9_thirds_16 rfl (lv_at hl 3 rfl) ?_
      refine lv_if_lt (tgt := 25) hx hb dX9_thirds_17 (by decide) (fun c17 => ?_) (fun c17 => ?_)
      · have h := ite_t c17 h
        exact n25 (σ.1 3214) (σ.1 3215) (σ.1 3212) (σ.2.2.1 59) _ _ _ (lv_sub hl [] rfl) hG h
      · have h := ite_f c17 h
        refine lv_iload hx hb dX9_thirds_20 (lv_at hl 4 rfl) ?_
        refine lv_if_ge (tgt := 27) hx hb dX9_thirds_22 (by decide) (fun c18 => ?_) (fun c18 => ?_)
        · have h := ite_t c18 h
          refine lv_aload_n hx hb dX9_thirds_27 rfl (lv_at hl 0 rfl) ?_
          obtain ⟨z19, hc20, h⟩ := bnd_some h
          refine gx_cV (σ' := (mkS σ [(3214, z19.1), (3215, z19.2.1), (3212, z19.2.2.1)] [] [(59, z19.2.2.2)] [])) (r := none) (rest := []) (As := []) hS9 (c_M_measure l g (mkS σ [(3214, (σ.1 3214)), (3215, (σ.1 3215)), (3212, (σ.1 3212))] [] [(59, (σ.2.2.1 59))] []) z19.1 z19.2.1 z19.2.2.1 z19.2.2.2 hc20) (mk_mk rfl rfl rfl rfl) (cwV 0 hts (gz_V mw_5_117 mw_5_119 ms_3_9 mw_1_11 mw_5_120) rfl rfl rfl hdV_X9_measure ⟨Nat.le_of_ble_eq_true rfl, Nat.le_of_ble_eq_true rfl⟩) hK hG (ga_50 g _) rfl rfl rfl hl.1 rfl (Nat.le_of_ble_eq_true rfl) dX9_thirds_28 (fun H locs hG => ?_)
          refine W.eq (g2 := F0 m 31 ls []) rfl ?_
          refine lv_iconst (v := (0 : Int32)) hx hb dX9_thirds_31 (by decide) ?_
          refine lv_istore (lv' := [(5, .int (0 : Int32)), (0, .ref (g.2.1 50)), (1, .int x1), (2, .int x2), (3, .int x3), (4, .int x4)]) hx hb dX9_thirds_32 hl (Nat.le_of_ble_eq_true rfl) rfl (fun ls hl => ?_)
          refine lv_iconst (v := (0 : Int32)) hx hb dX9_thirds_34 (by decide) ?_
          refine lv_istore (lv' := [(6, .int (0 : Int32)), (5, .int (0 : Int32)), (0, .ref (g.2.1 50)), (1, .int x1), (2, .int x2), (3, .int x3), (4, .int x4)]) hx hb dX9_thirds_35 hl (Nat.le_of_ble_eq_true rfl) rfl (fun ls hl => ?_)
          exact l37 FUEL x1 x2 x3 x4 (0 : Int32) (0 : Int32) z19.1 z19.2.1 z19.2.2.1 z19.2.2.2 _ _ _ (lv_sub hl [2, 3, 4, 5, 6, 1, 0] rfl) hG h
        · have h := ite_f c18 h
          exact n25 (σ.1 3214) (σ.1 3215) (σ.1 3212) (σ.2.2.1 59) _ _ _ (lv_sub hl [] rfl) hG h

set_option maxHeartbeats 4000000 in
set_option maxRecDepth 100000 in
theorem c_M_twice (l : Launch) (g : GC) (σ : St) (r : Int32) (w_areKindsFound : Int32) (w_isMeasured : Int32) (w_posts : Int32) (w_newRoad : Nat → Int32) (w_road : Nat → Int32) (h : M_twice (σ.1 3238) (σ.1 3212) (σ.1 3203) (σ.2.2.1 70) (σ.2.2.1 54) = some (r, w_areKindsFound, w_isMeasured, w_posts, w_newRoad, w_road)) : Cn l g yX9_twice (Cond.code yX9_twice cX9_twice 3 (some .int) :: wG) 1 22 [.ref (g.2.1 50)] σ (some (.int r)) (mkS σ [(3238, w_areKindsFound), (3212, w_isMeasured), (3203, w_posts)] [] [(70, w_newRoad), (54, w_road)] []) := by
  unfold Cn
  refine Met.ofW (cc := cX9_twice) (maxL := 3) (ret := (some .int)) (by decide) rfl ?_
  intro p e s m args below meth c s₁ B hml hv
  obtain ⟨hargs, hP0, hK⟩ := hv
  have hx := B.exec
  have hb := B.bytes
  have hr := B.returns
  have hts : ∀ w ∈ wG, w.before args s = true := fun w h => atoms_spec (ws := (Cond.code yX9_twice cX9_twice 3 (some .int) :: wG)) B.pre w (List.mem_cons_of_mem _ h)
  have hown : s.vm.findClass RX9 = some m.cls := findClass_of_methodNamed B.named
  have hlocks := B.notSynchronized
  have hS9 : CallFix p m c cX9_twice 3 s args wG RX9 := ⟨hx, hb, hml, hown, hts⟩
  have hw0 := hts _ mw_4_142
  have hw1 := hts _ mw_4_143
  have hw2 := hts _ mw_4_168
  have hf9 : entryFrame m args 3 = _ := (congrArg (fun a => entryFrame m a 3) hargs).trans (lg_entry_eq m [.ref (g.2.1 50)] 3)
  show Wg p l e 1 22 s m args below meth c g (some (.int r)) (mkS σ [(3238, w_areKindsFound), (3212, w_isMeasured), (3203, w_posts)] [] [(70, w_newRoad), (54, w_road)] []) s.heap [] (entryFrame m args 3)
  rw [hf9]
  have hl := lv_entry ([.ref (g.2.1 50)]) (n := 3) (Nat.le_of_ble_eq_true rfl)
  generalize (lg_sl ([.ref (g.2.1 50)]) ++ List.replicate (3 - (lg_sl ([.ref (g.2.1 50)])).length) Slot.unset).toArray = ls at hl ⊢
  have hl : lv_has ls 3 [(0, .ref (g.2.1 50))] := hl
  have hG : GW g s σ s.heap [] := ⟨hP0, va_S.rf⟩
  have hG : GW g s (mkS σ [(3238, (σ.1 3238)), (3212, (σ.1 3212)), (3203, (σ.1 3203))] [] [(70, (σ.2.2.1 70)), (54, (σ.2.2.1 54))] []) s.heap [] := GW_self [3238, 3212, 3203] [] [70, 54] [] hG
  unfold M_twice at h
  have n86 : ∀ (k30 : Int32 → Int32 → Int32 → Int32 → Int32 → (Nat → Int32) → (Nat → Int32) → Option (Int32 × Int32 × Int32 × Int32 × (Nat → Int32) × (Nat → Int32))) (hk30 : ∀ (x1 : Int32) (x2 : Int32) (v_areKindsFound : Int32) (v_isMeasured : Int32) (v_posts : Int32) (v_newRoad : Nat → Int32) (v_road : Nat → Int32) (H : Heap) (locs : List Loc) (ls : Array Slot), lv_has ls 3 [(0, .ref (g.2.1 50)), (1, .int x1), (2, .int x2)] → GW g s (mkS σ [(3238, v_areKindsFound), (3212, v_isMeasured), (3203, v_posts)] [] [(70, v_newRoad), (54, v_road)] []) H locs → k30 x1 x2 v_areKindsFound v_isMeasured v_posts v_newRoad v_road = some (r, w_areKindsFound, w_isMeasured, w_posts, w_newRoad, w_road) → Wg p l e 1 22 s m args below meth c g (some (.int r)) (mkS σ [(3238, w_areKindsFound), (3212, w_isMeasured), (3203, w_posts)] [] [(70, w_newRoad), (54, w_road)] []) H locs (F0 m 30 ls [])) (x1 : Int32) (x2 : Int32) (v_areKindsFound : Int32) (v_isMeasured : Int32) (v_posts : Int32) (v_newRoad : Nat → Int32) (v_road : Nat → Int32) (H : Heap) (locs : List Loc) (ls : Array Slot), lv_has ls 3 [(0, .ref (g.2.1 50)), (1, .int x1), (2, .int x2)] → GW g s (mkS σ [(3238, v_areKindsFound), (3212, v_isMeasured), (3203, v_posts)] [] [(70, v_newRoad), (54, v_road)] []) H locs → M_twice_n86 k30 x1 x2 v_areKindsFound v_isMeasured v_posts v_newRoad v_road = some (r, w_areKindsFound, w_isMeasured, w_posts, w_newRoad, w_road) → Wg p l e 1 22 s m args below meth c g (some (.int r)) (mkS σ [(3238, w_areKindsFound), (3212, w_isMeasured), (3203, w_posts)] [] [(70, w_newRoad), (54, w_road)] []) H locs (F0 m 86 ls []) := by
    intro k30 hk30 x1 x2 v_areKindsFound v_isMeasured v_posts v_newRoad v_road H locs ls hl hG h
    unfold M_twice_n86 at h
    refine lv_iinc (v := (x2 + (1 : Int32))) (lv' := [(2, .int (x2 + (1 : Int32))), (0, .ref (g.2.1 50)), (1, .int x1)]) hx hb dX9_twice_86 hl (k := 2) rfl (congrArg (fun z => x2 + z) (by decide)) (Nat.le_of_ble_eq_true rfl) rfl (fun ls hl => ?_)
    refine lv_goto (tgt := 30) hx hb dX9_twice_89 (by decide) ?_
    exact hk30 x1 (x2 + (1 : Int32)) v_areKindsFound v_isMeasured v_posts v_newRoad v_road _ _ _ (lv_sub hl [1, 2, 0] rfl) hG h
  have n92 : ∀ (k20 : Int32 → Int32 → Int32 → Int32 → (Nat → Int32) → (Nat → Int32) → Option (Int32 × Int32 × Int32 × Int32 × (Nat → Int32) × (Nat → Int32))) (hk20 : ∀ (x1 : Int32) (v_areKindsFound : Int32) (v_isMeasured : Int32) (v_posts : Int32) (v_newRoad : Nat → Int32) (v_road : Nat → Int32) (H : Heap) (locs : List Loc) (ls : Array Slot), lv_has ls 3 [(0, .ref (g.2.1 50)), (1, .int x1)] → GW g s (mkS σ [(3238, v_areKindsFound), (3212, v_isMeasured), (3203, v_posts)] [] [(70, v_newRoad), (54, v_road)] []) H locs → k20 x1 v_areKindsFound v_isMeasured v_posts v_newRoad v_road = some (r, w_areKindsFound, w_isMeasured, w_posts, w_newRoad, w_road) → Wg p l e 1 22 s m args below meth c g (some (.int r)) (mkS σ [(3238, w_areKindsFound), (3212, w_isMeasured), (3203, w_posts)] [] [(70, w_newRoad), (54, w_road)] []) H locs (F0 m 20 ls [])) (x1 : Int32) (v_areKindsFound : Int32) (v_isMeasured : Int32) (v_posts : Int32) (v_newRoad : Nat → Int32) (v_road : Nat → Int32) (H : Heap) (locs : List Loc) (ls : Array Slot), lv_has ls 3 [(0, .ref (g.2.1 50)), (1, .int x1)] → GW g s (mkS σ [(3238, v_areKindsFound), (3212, v_isMeasured), (3203, v_posts)] [] [(70, v_newRoad), (54, v_road)] []) H locs → M_twice_n92 k20 x1 v_areKindsFound v_isMeasured v_posts v_newRoad v_road = some (r, w_areKindsFound, w_isMeasured, w_posts, w_newRoad, w_road) → Wg p l e 1 22 s m args below meth c g (some (.int r)) (mkS σ [(3238, w_areKindsFound), (3212, w_isMeasured), (3203, w_posts)] [] [(70, w_newRoad), (54, w_road)] []) H locs (F0 m 92 ls []) := by
    intro k20 hk20 x1 v_areKindsFound v_isMeasured v_posts v_newRoad v_road H locs ls hl hG h
    unfold M_twice_n92 at h
    refine lv_iinc (v := (x1 + (1 : Int32))) (lv' := [(1, .int (x1 + (1 : Int32))), (0, .ref (g.2.1 50))]) hx hb dX9_twice_92 hl (k := 1) rfl (congrArg (fun z => x1 + z) (by decide)) (Nat.le_of_ble_eq_true rfl) rfl (fun ls hl => ?_)
    refine lv_goto (tgt := 20) hx hb dX9_twice_95 (by decide) ?_
    exact hk20 (x1 + (1 : Int32)) v_areKindsFound v_isMeasured v_posts v_newRoad v_road _ _ _ (lv_sub hl [1, 0] rfl) hG h
  have n30 : ∀ (k20 : Int32 → Int32 → Int32 → Int32 → (Nat → Int32) → (Nat → Int32) → Option (Int32 × Int32 × Int32 × Int32 × (Nat → Int32) × (Nat → Int32))) (hk20 : ∀ (x1 : Int32) (v_areKindsFound : Int32) (v_isMeasured : Int32) (v_posts : Int32) (v_newRoad : Nat → Int32) (v_road : Nat → Int32) (H : Heap) (locs : List Loc) (ls : Array Slot), lv_has ls 3 [(0, .ref (g.2.1 50)), (1, .int x1)] → GW g s (mkS σ [(3238, v_areKindsFound), (3212, v_isMeasured), (3203, v_posts)] [] [(70, v_newRoad), (54, v_road)] []) H locs → k20 x1 v_areKindsFound v_isMeasured v_posts v_newRoad v_road = some (r, w_areKindsFound, w_isMeasured, w_posts, w_newRoad, w_road) → Wg p l e 1 22 s m args below meth c g (some (.int r)) (mkS σ [(3238, w_areKindsFound), (3212, w_isMeasured), (3203, w_posts)] [] [(70, w_newRoad), (54, w_road)] []) H locs (F0 m 20 ls [])) (k30 : Int32 → Int32 → Int32 → Int32 → Int32 → (Nat → Int32) → (Nat → Int32) → Option (Int32 × Int32 × Int32 × Int32 × (Nat → Int32) × (Nat → Int32))) (hk30 : ∀ (x1 : Int32) (x2 : Int32) (v_areKindsFound : Int32) (v_isMeasured : Int32) (v_posts : Int32) (v_newRoad : Nat → Int32) (v_road : Nat → Int32) (H : Heap) (locs : List Loc) (ls : Array Slot), lv_has ls 3 [(0, .ref (g.2.1 50)), (1, .int x1), (2, .int x2)] → GW g s (mkS σ [(3238, v_areKindsFound), (3212, v_isMeasured), (3203, v_posts)] [] [(70, v_newRoad), (54, v_road)] []) H locs → k30 x1 x2 v_areKindsFound v_isMeasured v_posts v_newRoad v_road = some (r, w_areKindsFound, w_isMeasured, w_posts, w_newRoad, w_road) → Wg p l e 1 22 s m args below meth c g (some (.int r)) (mkS σ [(3238, w_areKindsFound), (3212, w_isMeasured), (3203, w_posts)] [] [(70, w_newRoad), (54, w_road)] []) H locs (F0 m 30 ls [])) (x1 : Int32) (x2 : Int32) (v_areKindsFound : Int32) (v_isMeasured : Int32) (v_posts : Int32) (v_newRoad : Nat → Int32) (v_road : Nat → Int32) (H : Heap) (locs : List Loc) (ls : Array Slot), lv_has ls 3 [(0, .ref (g.2.1 50)), (1, .int x1), (2, .int x2)] → GW g s (mkS σ [(3238, v_areKindsFound), (3212, v_isMeasured), (3203, v_posts)] [] [(70, v_newRoad), (54, v_road)] []) H locs → M_twice_n30 k20 k30 x1 x2 v_areKindsFound v_isMeasured v_posts v_newRoad v_road = some (r, w_areKindsFound, w_isMeasured, w_posts, w_newRoad, w_road) → Wg p l e 1 22 s m args below meth c g (some (.int r)) (mkS σ [(3238, w_areKindsFound), (3212, w_isMeasured), (3203, w_posts)] [] [(70, w_newRoad), (54, w_road)] []) H locs (F0 m 30 ls []) := by
    intro k20 hk20 k30 hk30 x1 x2 v_areKindsFound v_isMeasured v_posts v_newRoad v_road H locs ls hl hG h
    unfold M_twice_n30 at h
    refine lv_iload_n hx hb dX9_twice_30 rfl (lv_at hl 2 rfl) ?_
    refine lv_aload_n hx hb dX9_twice_31 rfl (lv_at hl 0 rfl) ?_
    refine gx_get (v := .int v_posts) (C := RX9) (T := TX9) (N := 44) hx hb hts mc_X9 hown hK hG (ga_50 g _) rfl 3 (by decide) hw0 rfl rfl dX9_twice_32 ?_
    refine lv_icmp_ge (tgt := 92) hx hb dX9_twice_35 (by decide) (fun c1 => ?_) (fun c1 => ?_)
    · have h := ite_t c1 h
      exact n92 k20 hk20 x1 v_areKindsFound v_isMeasured v_posts v_newRoad v_road _ _ _ (lv_sub hl [0, 1] rfl) hG h
    · have h := ite_f c1 h
      refine lv_aload_n hx hb dX9_twice_38 rfl (lv_at hl 0 rfl) ?_
      refine gx_get (v := .ref (g.2.1 54)) (C := RX9) (T := TX9) (N := 44) hx hb hts mc_X9 hown hK hG (ga_50 g _) rfl 4 (by decide) hw1 rfl rfl dX9_twice_39 ?_
      refine lv_bipush (v := (32 : Int32)) hx hb dX9_twice_42 (by decide) ?_
      refine lv_iload_n hx hb dX9_twice_44 rfl (lv_at hl 1 rfl) ?_
      refine lv_imul hx hb dX9_twice_45 ?_
      refine lv_iload_n hx hb dX9_twice_46 rfl (lv_at hl 2 rfl) ?_
      refine lv_iadd hx hb dX9_twice_47 ?_
      obtain ⟨hg2, h⟩ := gd_some h
      refine gx_zald (f := v_road) hx hb hK hG (ga_54 g _) hg2 dX9_twice_48 ?_
      refine lv_if_eq (tgt := 86) hx hb dX9_twice_49 (by decide) (fun c3 => ?_) (fun c3 => ?_)
      · have h := ite_t c3 h
        exact n86 k30 hk30 x1 x2 v_areKindsFound v_isMeasured v_posts v_newRoad v_road _ _ _ (lv_sub hl [0, 1, 2] rfl) hG h
      · have h := ite_f c3 h
        refine lv_aload_n hx hb dX9_twice_52 rfl (lv_at hl 0 rfl) ?_
        refine gx_get (v := .ref (g.2.1 70)) (C := RX9) (T := TX9) (N := 44) hx hb hts mc_X9 hown hK hG (ga_50 g _) rfl 29 (by decide) hw2 rfl rfl dX9_twice_53 ?_
        refine lv_bipush (v := (32 : Int32)) hx hb dX9_twice_56 (by decide) ?_
        refine lv_iload_n hx hb dX9_twice_58 rfl (lv_at hl 1 rfl) ?_
        refine lv_imul hx hb dX9_twice_59 ?_
        refine lv_aload_n hx hb dX9_twice_60 rfl (lv_at hl 0 rfl) ?_
        refine gx_get (v := .int v_posts) (C := RX9) (T := TX9) (N := 44) hx hb hts mc_X9 hown hK hG (ga_50 g _) rfl 3 (by decide) hw0 rfl rfl dX9_twice_61 ?_
        refine lv_iadd hx hb dX9_twice_64 ?_
        refine lv_iload_n hx hb dX9_twice_65 rfl (lv_at hl 2 rfl) ?_
        refine lv_iadd hx hb dX9_twice_66 ?_
        refine lv_iconst (v := (1 : Int32)) hx hb dX9_twice_67 (by decide) ?_
        obtain ⟨hg4, h⟩ := gd_some h
        refine gx_zast (σ' := (mkS σ [(3238, v_areKindsFound), (3212, v_isMeasured), (3203, v_posts)] [] [(70, (upd v_newRoad (((((32 : Int32) * x1) + v_posts) + x2).toNatClampNeg) (1 : Int32))), (54, v_road)] [])) (f := v_newRoad) hx hb hK hG (ga_70 g _) hg4 (by decide) ((gs_70 g _ _).trans (congrArg (g_cells g) (mk_c 0 rfl rfl))) dX9_twice_68 (fun H locs hG => ?_)
        refine lv_aload_n hx hb dX9_twice_69 rfl (lv_at hl 0 rfl) ?_
        refine gx_get (v := .ref (g.2.1 70)) (C := RX9) (T := TX9) (N := 44) hx hb hts mc_X9 hown hK hG (ga_50 g _) rfl 29 (by decide) hw2 rfl rfl dX9_twice_70 ?_
        refine lv_bipush (v := (32 : Int32)) hx hb dX9_twice_73 (by decide) ?_
        refine lv_aload_n hx hb dX9_twice_75 rfl (lv_at hl 0 rfl) ?_
        refine gx_get (v := .int v_posts) (C := RX9) (T := TX9) (N := 44) hx hb hts mc_X9 hown hK hG (ga_50 g _) rfl 3 (by decide) hw0 rfl rfl dX9_twice_76 ?_
        refine lv_iload_n hx hb dX9_twice_79 rfl (lv_at hl 2 rfl) ?_
        refine lv_iadd hx hb dX9_twice_80 ?_
        refine lv_imul hx hb dX9_twice_81 ?_
        refine lv_iload_n hx hb dX9_twice_82 rfl (lv_at hl 1 rfl) ?_
        refine lv_iadd hx hb dX9_twice_83 ?_
        refine lv_iconst (v := (1 : Int32)) hx hb dX9_twice_84 (by decide) ?_
        obtain ⟨hg5, h⟩ := gd_some h
        refine gx_zast (σ' := (mkS σ [(3238, v_areKindsFound), (3212, v_isMeasured), (3203, v_posts)] [] [(70, (upd (upd v_newRoad (((((32 : Int32) * x1) + v_posts) + x2).toNatClampNeg) (1 : Int32)) ((((32 : Int32) * (v_posts + x2)) + x1).toNatClampNeg) (1 : Int32))), (54, v_road)] [])) (f := (upd v_newRoad (((((32 : Int32) * x1) + v_posts) + x2).toNatClampNeg) (1 : Int32))) hx hb hK hG (ga_70 g _) hg5 (by decide) ((gs_70 g _ _).trans (congrArg (g_cells g) (mk_c 0 rfl rfl))) dX9_twice_85 (fun H locs hG => ?_)
        exact n86 k30 hk30 x1 x2 v_areKindsFound v_isMeasured v_posts (upd (upd v_newRoad (((((32 : Int32) * x1) + v_posts) + x2).toNatClampNeg) (1 : Int32)) ((((32 : Int32) * (v_posts + x2)) + x1).toNatClampNeg) (1 : Int32)) v_road _ _ _ (lv_sub hl [0, 1, 2] rfl) hG h
  have l30 : ∀ (k20 : Int32 → Int32 → Int32 → Int32 → (Nat → Int32) → (Nat → Int32) → Option (Int32 × Int32 × Int32 × Int32 × (Nat → Int32) × (Nat → Int32))) (hk20 : ∀ (x1 : Int32) (v_areKindsFound : Int32) (v_isMeasured : Int32) (v_posts : Int32) (v_newRoad : Nat → Int32) (v_road : Nat → Int32) (H : Heap) (locs : List Loc) (ls : Array Slot), lv_has ls 3 [(0, .ref (g.2.1 50)), (1, .int x1)] → GW g s (mkS σ [(3238, v_areKindsFound), (3212, v_isMeasured), (3203, v_posts)] [] [(70, v_newRoad), (54, v_road)] []) H locs → k20 x1 v_areKindsFound v_isMeasured v_posts v_newRoad v_road = some (r, w_areKindsFound, w_isMeasured, w_posts, w_newRoad, w_road) → Wg p l e 1 22 s m args below meth c g (some (.int r)) (mkS σ [(3238, w_areKindsFound), (3212, w_isMeasured), (3203, w_posts)] [] [(70, w_newRoad), (54, w_road)] []) H locs (F0 m 20 ls [])) (F : Nat) (x1 : Int32) (x2 : Int32) (v_areKindsFound : Int32) (v_isMeasured : Int32) (v_posts : Int32) (v_newRoad : Nat → Int32) (v_road : Nat → Int32) (H : Heap) (locs : List Loc) (ls : Array Slot), lv_has ls 3 [(0, .ref (g.2.1 50)), (1, .int x1), (2, .int x2)] → GW g s (mkS σ [(3238, v_areKindsFound), (3212, v_isMeasured), (3203, v_posts)] [] [(70, v_newRoad), (54, v_road)] []) H locs → M_twice_l30 k20 F x1 x2 v_areKindsFound v_isMeasured v_posts v_newRoad v_road = some (r, w_areKindsFound, w_isMeasured, w_posts, w_newRoad, w_road) → Wg p l e 1 22 s m args below meth c g (some (.int r)) (mkS σ [(3238, w_areKindsFound), (3212, w_isMeasured), (3203, w_posts)] [] [(70, w_newRoad), (54, w_road)] []) H locs (F0 m 30 ls []) := by
    intro k20 hk20 F
    induction F with
    | zero => intro x1 x2 v_areKindsFound v_isMeasured v_posts v_newRoad v_road H locs ls hl hG h; exact no_some h
    | succ F ih => intro x1 x2 v_areKindsFound v_isMeasured v_posts v_newRoad v_road H locs ls hl hG h; exact n30 k20 hk20 (fun x1 x2 v_areKindsFound v_isMeasured v_posts v_newRoad v_road => M_twice_l30 k20 F x1 x2 v_areKindsFound v_isMeasured v_posts v_newRoad v_road) ih x1 x2 v_areKindsFound v_isMeasured v_posts v_newRoad v_road H locs ls hl hG h
  have n98 : ∀ (v_areKindsFound : Int32) (v_isMeasured : Int32) (v_posts : Int32) (v_newRoad : Nat → Int32) (v_road : Nat → Int32) (H : Heap) (locs : List Loc) (ls : Array Slot), lv_has ls 3 [(0, .ref (g.2.1 50))] → GW g s (mkS σ [(3238, v_areKindsFound), (3212, v_isMeasured), (3203, v_posts)] [] [(70, v_newRoad), (54, v_road)] []) H locs → M_twice_n98 v_areKindsFound v_isMeasured v_posts v_newRoad v_road = some (r, w_areKindsFound, w_isMeasured, w_posts, w_newRoad, w_road) → Wg p l e 1 22 s m args below meth c g (some (.int r)) (mkS σ [(3238, w_areKindsFound), (3212, w_isMeasured), (3203, w_posts)] [] [(70, w_newRoad), (54, w_road)] []) H locs (F0 m 98 ls []) := by
    intro v_areKindsFound v_isMeasured v_posts v_newRoad v_road H locs ls hl hG h
    unfold M_twice_n98 at h
    refine lv_aload_n hx hb dX9_twice_98 rfl (lv_at hl 0 rfl) ?_
    refine lv_iconst (v := (2 : Int32)) hx hb dX9_twice_99 (by decide) ?_
    refine lv_aload_n hx hb dX9_twice_100 rfl (lv_at hl 0 rfl) ?_
    refine gx_get (v := .int v_posts) (C := RX9) (T := TX9) (N := 44) hx hb hts mc_X9 hown hK hG (ga_50 g _) rfl 3 (by decide) hw0 rfl rfl dX9_twice_101 ?_
    refine lv_imul hx hb dX9_twice_104 ?_
    obtain ⟨z6, hc7, h⟩ := bnd_some h
    refine gx_cV (σ' := (mkS σ [(3238, z6.1), (3212, z6.2.1), (3203, z6.2.2.1)] [] [(70, v_newRoad), (54, z6.2.2.2)] [])) (r := none) (rest := []) (As := [.int ((2 : Int32) * v_posts)]) hS9 (c_M_become l g (mkS σ [(3238, v_areKindsFound), (3212, v_isMeasured), (3203, v_posts)] [] [(70, v_newRoad), (54, v_road)] []) ((2 : Int32) * v_posts) z6.1 z6.2.1 z6.2.2.1 z6.2.2.2 hc7) (mk_mk rfl rfl rfl rfl) (cwV 1 hts (gz_V mw_6_42 mw_6_44 ms_5_1 mw_1_11 mw_6_45) rfl rfl rfl hdV_X9_become ⟨Nat.le_of_ble_eq_true rfl, Nat.le_of_ble_eq_true rfl⟩) hK hG (ga_50 g _) rfl rfl rfl hl.1 rfl (Nat.le_of_ble_eq_true rfl) dX9_twice_105 (fun H locs hG => ?_)
    refine W.eq (g2 := F0 m 108 ls []) rfl ?_
    refine lv_aload_n hx hb dX9_twice_108 rfl (lv_at hl 0 rfl) ?_
    refine gx_get (v := .int z6.2.2.1) (C := RX9) (T := TX9) (N := 44) hx hb hts mc_X9 hown hK hG (ga_50 g _) rfl 3 (by decide) hw0 rfl rfl dX9_twice_109 ?_
    cases h
    exact gx_iret hx hb hr hlocks hG dX9_twice_112
  have n20 : ∀ (k20 : Int32 → Int32 → Int32 → Int32 → (Nat → Int32) → (Nat → Int32) → Option (Int32 × Int32 × Int32 × Int32 × (Nat → Int32) × (Nat → Int32))) (hk20 : ∀ (x1 : Int32) (v_areKindsFound : Int32) (v_isMeasured : Int32) (v_posts : Int32) (v_newRoad : Nat → Int32) (v_road : Nat → Int32) (H : Heap) (locs : List Loc) (ls : Array Slot), lv_has ls 3 [(0, .ref (g.2.1 50)), (1, .int x1)] → GW g s (mkS σ [(3238, v_areKindsFound), (3212, v_isMeasured), (3203, v_posts)] [] [(70, v_newRoad), (54, v_road)] []) H locs → k20 x1 v_areKindsFound v_isMeasured v_posts v_newRoad v_road = some (r, w_areKindsFound, w_isMeasured, w_posts, w_newRoad, w_road) → Wg p l e 1 22 s m args below meth c g (some (.int r)) (mkS σ [(3238, w_areKindsFound), (3212, w_isMeasured), (3203, w_posts)] [] [(70, w_newRoad), (54, w_road)] []) H locs (F0 m 20 ls [])) (x1 : Int32) (v_areKindsFound : Int32) (v_isMeasured : Int32) (v_posts : Int32) (v_newRoad : Nat → Int32) (v_road : Nat → Int32) (H : Heap) (locs : List Loc) (ls : Array Slot), lv_has ls 3 [(0, .ref (g.2.1 50)), (1, .int x1)] → GW g s (mkS σ [(3238, v_areKindsFound), (3212, v_isMeasured), (3203, v_posts)] [] [(70, v_newRoad), (54, v_road)] []) H locs → M_twice_n20 k20 x1 v_areKindsFound v_isMeasured v_posts v_newRoad v_road = some (r, w_areKindsFound, w_isMeasured, w_posts, w_newRoad, w_road) → Wg p l e 1 22 s m args below meth c g (some (.int r)) (mkS σ [(3238, w_areKindsFound), (3212, w_isMeasured), (3203, w_posts)] [] [(70, w_newRoad), (54, w_road)] []) H locs (F0 m 20 ls []) := by
    intro k20 hk20 x1 v_areKindsFound v_isMeasured v_posts v_newRoad v_road H locs ls hl hG h
    unfold M_twice_n20 at h
    refine lv_iload_n hx hb dX9_twice_20 rfl (lv_at hl 1 rfl) ?_
    refine lv_aload_n hx hb dX9_twice_21 rfl (lv_at hl 0 rfl) ?_
    refine gx_get (v := .int v_posts) (C := RX9) (T := TX9) (N := 44) hx hb hts mc_X9 hown hK hG (ga_50 g _) rfl 3 (by decide) hw0 rfl rfl dX9_twice_22 ?_
    refine lv_icmp_ge (tgt := 98) hx hb dX9_twice_25 (by decide) (fun c8 => ?_) (fun c8 => ?_)
    · have h := ite_t c8 h
      exact n98 v_areKindsFound v_isMeasured v_posts v_newRoad v_road _ _ _ (lv_sub hl [0] rfl) hG h
    · have h := ite_f c8 h
      refine lv_iconst (v := (0 : Int32)) hx hb dX9_twice_28 (by decide) ?_
      refine lv_istore_n (lv' := [(2, .int (0 : Int32)), (0, .ref (g.2.1 50)), (1, .int x1)]) hx hb dX9_twice_29 rfl hl (Nat.le_of_ble_eq_true rfl) rfl (fun ls hl => ?_)
      exact l30 k20 hk20 FUEL x1 (0 : Int32) v_areKindsFound v_isMeasured v_posts v_newRoad v_road _ _ _ (lv_sub hl [1, 2, 0] rfl) hG h
  have l20 : ∀  (F : Nat) (x1 : Int32) (v_areKindsFound : Int32) (v_isMeasured : Int32) (v_posts : Int32) (v_newRoad : Nat → Int32) (v_road : Nat → Int32) (H : Heap) (locs : List Loc) (ls : Array Slot), lv_has ls 3 [(0, .ref (g.2.1 50)), (1, .int x1)] → GW g s (mkS σ [(3238, v_areKindsFound), (3212, v_isMeasured), (3203, v_posts)] [] [(70, v_newRoad), (54, v_road)] []) H locs → M_twice_l20 F x1 v_areKindsFound v_isMeasured v_posts v_newRoad v_road = some (r, w_areKindsFound, w_isMeasured, w_posts, w_newRoad, w_road) → Wg p l e 1 22 s m args below meth c g (some (.int r)) (mkS σ [(3238, w_areKindsFound), (3212, w_isMeasured), (3203, w_posts)] [] [(70, w_newRoad), (54, w_road)] []) H locs (F0 m 20 ls []) := by
    intro F
    induction F with
    | zero => intro x1 v_areKindsFound v_isMeasured v_posts v_newRoad v_road H locs ls hl hG h; exact no_some h
    | succ F ih => intro x1 v_areKindsFound v_isMeasured v_posts v_newRoad v_road H locs ls hl hG h; exact n20 (fun x1 v_areKindsFound v_isMeasured v_posts v_newRoad v_road => M_twice_l20 F x1 v_areKindsFound v_isMeasured v_posts v_newRoad v_road) ih x1 v_areKindsFound v_isMeasured v_posts v_newRoad v_road H locs ls hl hG h
  refine lv_iconst (v := (2 : Int32)) hx hb dX9_twice_0 (by decide) ?_
  refine lv_aload_n hx hb dX9_twice_1 rfl (lv_at hl 0 rfl) ?_
  refine gx_get (v := .int (σ.1 3203)) (C := RX9) (T := TX9) (N := 44) hx hb hts mc_X9 hown hK hG (ga_50 g _) rfl 3 (by decide) hw0 rfl rfl dX9_twice_2 ?_
  refine lv_imul hx hb dX9_twice_5 ?_
  refine lv_bipush (v := (32 : Int32)) hx hb dX9_twice_6 (by decide) ?_
  refine lv_icmp_le (tgt := 14) hx hb dX9_twice_8 (by decide) (fun c9 => ?_) (fun c9 => ?_)
  · have h := ite_t c9 h
    refine lv_aload_n hx hb dX9_twice_14 rfl (lv_at hl 0 rfl) ?_
    obtain ⟨z10, hc11, h⟩ := bnd_some h
    refine gx_cV (σ' := (mkS σ [(3238, (σ.1 3238)), (3212, (σ.1 3212)), (3203, (σ.1 3203))] [] [(70, z10), (54, (σ.2.2.1 54))] [])) (r := none) (rest := []) (As := []) hS9 (c_M_clearNew l g (mkS σ [(3238, (σ.1 3238)), (3212, (σ.1 3212)), (3203, (σ.1 3203))] [] [(70, (σ.2.2.1 70)), (54, (σ.2.2.1 54))] []) z10 hc11) (mk_mk rfl rfl rfl rfl) (cwV 0 hts (gz_V mw_6_38 mw_6_40 ms_5_0 mw_1_11 mw_6_41) rfl rfl rfl hdV_X9_clearNew ⟨Nat.le_of_ble_eq_true rfl, Nat.le_of_ble_eq_true rfl⟩) hK hG (ga_50 g _) rfl rfl rfl hl.1 rfl (Nat.le_of_ble_eq_true rfl) dX9_twice_15 (fun H locs hG => ?_)
    refine W.eq (g2 := F0 m 18 ls []) rfl ?_
    refine lv_iconst (v := (0 : Int32)) hx hb dX9_twice_18 (by decide) ?_
    refine lv_istore_n (lv' := [(1, .int (0 : Int32)), (0, .ref (g.2.1 50))]) hx hb dX9_twice_19 rfl hl (Nat.le_of_ble_eq_true rfl) rfl (fun ls hl => ?_)
    exact l20 FUEL (0 : Int32) (σ.1 3238) (σ.1 3212) (σ.1 3203) z10 (σ.2.2.1 54) _ _ _ (lv_sub hl [1, 0] rfl) hG h
  · have h := ite_f c9 h
    refine lv_bipush (v := (-2 : Int32)) hx hb dX9_twice_11 (by decide) ?_
    cases h
    exact gx_iret hx hb hr hlocks hG dX9_twice_13

set_option maxHeartbeats 4000000 in
set_option maxRecDepth 100000 in
theorem c_M_walks (l : Launch) (g : GC) (σ : St) (x1 : Int32) (x2 : Int32) (r : Int64) (w_all : Int64) (w_next : Nat → Int64) (w_sizes : Nat → Int64) (w_walk : Nat → Int64) (h : M_walks x1 x2 (σ.1 3208) (σ.2.1 3224) (σ.2.2.1 56) (σ.2.2.1 57) (σ.2.2.2 69) (σ.2.2.2 65) (σ.2.2.2 68) = some (r, w_all, w_next, w_sizes, w_walk)) : Cn l g yX9_walks (Cond.code yX9_walks cX9_walks 7 (some .long) :: wG) 2 47 [.ref (g.2.1 50), .int x1, .int x2] σ (some (.long r)) (mkS σ [] [(3224, w_all)] [] [(69, w_next), (65, w_sizes), (68, w_walk)]) := by
  unfold Cn
  refine Met.ofW (cc := cX9_walks) (maxL := 7) (ret := (some .long)) (by decide) rfl ?_
  intro p e s m args below meth c s₁ B hml hv
  obtain ⟨hargs, hP0, hK⟩ := hv
  have hx := B.exec
  have hb := B.bytes
  have hr := B.returns
  have hts : ∀ w ∈ wG, w.before args s = true := fun w h => atoms_spec (ws := (Cond.code yX9_walks cX9_walks 7 (some .long) :: wG)) B.pre w (List.mem_cons_of_mem _ h)
  have hown : s.vm.findClass RX9 = some m.cls := findClass_of_methodNamed B.named
  have hlocks := B.notSynchronized
  have hS9 : CallFix p m c cX9_walks 7 s args wG RX9 := ⟨hx, hb, hml, hown, hts⟩
  have hw0 := hts _ mw_6_26
  have hw1 := hts _ mw_4_167
  have hw2 := hts _ mw_4_147
  have hw3 := hts _ mw_4_148
  have hw4 := hts _ mw_4_166
  have hw5 := hts _ mw_4_149
  have hw6 := hts _ mw_6_25
  have hw7 := hts _ mw_6_27
  have hf9 : entryFrame m args 7 = _ := (congrArg (fun a => entryFrame m a 7) hargs).trans (lg_entry_eq m [.ref (g.2.1 50), .int x1, .int x2] 7)
  show Wg p l e 2 47 s m args below meth c g (some (.long r)) (mkS σ [] [(3224, w_all)] [] [(69, w_next), (65, w_sizes), (68, w_walk)]) s.heap [] (entryFrame m args 7)
  rw [hf9]
  have hl := lv_entry ([.ref (g.2.1 50), .int x1, .int x2]) (n := 7) (Nat.le_of_ble_eq_true rfl)
  generalize (lg_sl ([.ref (g.2.1 50), .int x1, .int x2]) ++ List.replicate (7 - (lg_sl ([.ref (g.2.1 50), .int x1, .int x2])).length) Slot.unset).toArray = ls at hl ⊢
  have hl : lv_has ls 7 [(0, .ref (g.2.1 50)), (1, .int x1), (2, .int x2)] := hl
  have hG : GW g s σ s.heap [] := ⟨hP0, va_S.rf⟩
  have hG : GW g s (mkS σ [] [(3224, (σ.2.1 3224))] [] [(69, (σ.2.2.2 69)), (65, (σ.2.2.2 65)), (68, (σ.2.2.2 68))]) s.heap [] := GW_self [] [3224] [] [69, 65, 68] hG
  unfold M_walks at h
  have n26 : ∀ (v_all : Int64) (v_next : Nat → Int64) (v_sizes : Nat → Int64) (v_walk : Nat → Int64) (H : Heap) (locs : List Loc) (ls : Array Slot), lv_has ls 7 [] → GW g s (mkS σ [] [(3224, v_all)] [] [(69, v_next), (65, v_sizes), (68, v_walk)]) H locs → M_walks_n26 v_all v_next v_sizes v_walk = some (r, w_all, w_next, w_sizes, w_walk) → Wg p l e 2 47 s m args below meth c g (some (.long r)) (mkS σ [] [(3224, w_all)] [] [(69, w_next), (65, w_sizes), (68, w_walk)]) H locs (F0 m 26 ls []) := by
    intro v_all v_next v_sizes v_walk H locs ls hl hG h
    unfold M_walks_n26 at h
    refine lv_ldc2 hx hb hown hw0 dX9_walks_26 ?_
    cases h
    exact gx_lret hx hb hr hlocks hG dX9_walks_29
  have n65 : ∀ (k43 : Int32 → Int32 → Int32 → Int64 → (Nat → Int64) → (Nat → Int64) → (Nat → Int64) → Option (Int64 × Int64 × (Nat → Int64) × (Nat → Int64) × (Nat → Int64))) (hk43 : ∀ (x1 : Int32) (x2 : Int32) (x3 : Int32) (v_all : Int64) (v_next : Nat → Int64) (v_sizes : Nat → Int64) (v_walk : Nat → Int64) (H : Heap) (locs : List Loc) (ls : Array Slot), lv_has ls 7 [(0, .ref (g.2.1 50)), (1, .int x1), (2, .int x2), (3, .int x3)] → GW g s (mkS σ [] [(3224, v_all)] [] [(69, v_next), (65, v_sizes), (68, v_walk)]) H locs → k43 x1 x2 x3 v_all v_next v_sizes v_walk = some (r, w_all, w_next, w_sizes, w_walk) → Wg p l e 2 47 s m args below meth c g (some (.long r)) (mkS σ [] [(3224, w_all)] [] [(69, w_next), (65, w_sizes), (68, w_walk)]) H locs (F0 m 43 ls [])) (x1 : Int32) (x2 : Int32) (x3 : Int32) (t1 : Int32) (t2 : Int64) (v_all : Int64) (v_next : Nat → Int64) (v_sizes : Nat → Int64) (v_walk : Nat → Int64) (H : Heap) (locs : List Loc) (ls : Array Slot), lv_has ls 7 [(0, .ref (g.2.1 50)), (1, .int x1), (2, .int x2), (3, .int x3)] → GW g s (mkS σ [] [(3224, v_all)] [] [(69, v_next), (65, v_sizes), (68, v_walk)]) H locs → M_walks_n65 k43 x1 x2 x3 t1 t2 v_all v_next v_sizes v_walk = some (r, w_all, w_next, w_sizes, w_walk) → Wg p l e 2 47 s m args below meth c g (some (.long r)) (mkS σ [] [(3224, w_all)] [] [(69, w_next), (65, w_sizes), (68, w_walk)]) H locs (F0 m 65 ls [.long t2, .int t1, .ref (g.2.1 68)]) := by
    intro k43 hk43 x1 x2 x3 t1 t2 v_all v_next v_sizes v_walk H locs ls hl hG h
    unfold M_walks_n65 at h
    obtain ⟨hg1, h⟩ := gd_some h
    refine gx_last (σ' := (mkS σ [] [(3224, v_all)] [] [(69, v_next), (65, v_sizes), (68, (vp_updL v_walk (t1.toNatClampNeg) t2))])) (f := v_walk) hx hb hK hG (ga_68 g _) hg1 ((gs_68 g _ _).trans (congrArg (g_cells g) (mk_d 2 rfl rfl))) dX9_walks_65 (fun H locs hG => ?_)
    refine lv_iinc (v := (x3 + (1 : Int32))) (lv' := [(3, .int (x3 + (1 : Int32))), (0, .ref (g.2.1 50)), (1, .int x1), (2, .int x2)]) hx hb dX9_walks_66 hl (k := 3) rfl (congrArg (fun z => x3 + z) (by decide)) (Nat.le_of_ble_eq_true rfl) rfl (fun ls hl => ?_)
    refine lv_goto (tgt := 43) hx hb dX9_walks_69 (by decide) ?_
    exact hk43 x1 x2 (x3 + (1 : Int32)) v_all v_next v_sizes (vp_updL v_walk (t1.toNatClampNeg) t2) _ _ _ (lv_sub hl [1, 2, 3, 0] rfl) hG h
  have n173 : ∀ (k82 : Int32 → Int32 → Int32 → Int32 → Int64 → (Nat → Int64) → (Nat → Int64) → (Nat → Int64) → Option (Int64 × Int64 × (Nat → Int64) × (Nat → Int64) × (Nat → Int64))) (hk82 : ∀ (x1 : Int32) (x2 : Int32) (x3 : Int32) (x4 : Int32) (v_all : Int64) (v_next : Nat → Int64) (v_sizes : Nat → Int64) (v_walk : Nat → Int64) (H : Heap) (locs : List Loc) (ls : Array Slot), lv_has ls 7 [(0, .ref (g.2.1 50)), (1, .int x1), (2, .int x2), (3, .int x3), (4, .int x4)] → GW g s (mkS σ [] [(3224, v_all)] [] [(69, v_next), (65, v_sizes), (68, v_walk)]) H locs → k82 x1 x2 x3 x4 v_all v_next v_sizes v_walk = some (r, w_all, w_next, w_sizes, w_walk) → Wg p l e 2 47 s m args below meth c g (some (.long r)) (mkS σ [] [(3224, w_all)] [] [(69, w_next), (65, w_sizes), (68, w_walk)]) H locs (F0 m 82 ls [])) (x1 : Int32) (x2 : Int32) (x3 : Int32) (x4 : Int32) (t0 : Int64) (t1 : Int64) (v_all : Int64) (v_next : Nat → Int64) (v_sizes : Nat → Int64) (v_walk : Nat → Int64) (H : Heap) (locs : List Loc) (ls : Array Slot), lv_has ls 7 [(0, .ref (g.2.1 50)), (1, .int x1), (2, .int x2), (3, .int x3), (4, .int x4)] → GW g s (mkS σ [] [(3224, v_all)] [] [(69, v_next), (65, v_sizes), (68, v_walk)]) H locs → M_walks_n173 k82 x1 x2 x3 x4 t0 t1 v_all v_next v_sizes v_walk = some (r, w_all, w_next, w_sizes, w_walk) → Wg p l e 2 47 s m args below meth c g (some (.long r)) (mkS σ [] [(3224, w_all)] [] [(69, w_next), (65, w_sizes), (68, w_walk)]) H locs (F0 m 173 ls [.long t1, .long t0]) := by
    intro k82 hk82 x1 x2 x3 x4 t0 t1 v_all v_next v_sizes v_walk H locs ls hl hG h
    unfold M_walks_n173 at h
    refine lv_ladd hx hb dX9_walks_173 ?_
    refine lv_lstore (lv' := [(5, .long (t0 + t1)), (0, .ref (g.2.1 50)), (1, .int x1), (2, .int x2), (3, .int x3), (4, .int x4)]) hx hb dX9_walks_174 hl (Nat.le_of_ble_eq_true rfl) rfl (fun ls hl => ?_)
    refine lv_aload_n hx hb dX9_walks_176 rfl (lv_at hl 1 rfl) ?_
    refine gx_get (v := .ref (g.2.1 69)) (C := RX9) (T := TX9) (N := 44) hx hb hts mc_X9 hown hK hG (ga_50 g _) rfl 28 (by decide) hw1 rfl rfl dX9_walks_177 ?_
    refine lv_iload hx hb dX9_walks_180 (lv_at hl 5 rfl) ?_
    refine lv_lload hx hb dX9_walks_182 (lv_at hl 0 rfl) ?_
    obtain ⟨hg2, h⟩ := gd_some h
    refine gx_last (σ' := (mkS σ [] [(3224, v_all)] [] [(69, (vp_updL v_next (x4.toNatClampNeg) (t0 + t1))), (65, v_sizes), (68, v_walk)])) (f := v_next) hx hb hK hG (ga_69 g _) hg2 ((gs_69 g _ _).trans (congrArg (g_cells g) (mk_d 0 rfl rfl))) dX9_walks_184 (fun H locs hG => ?_)
    refine lv_iinc (v := (x4 + (1 : Int32))) (lv' := [(4, .int (x4 + (1 : Int32))), (5, .long (t0 + t1)), (0, .ref (g.2.1 50)), (1, .int x1), (2, .int x2), (3, .int x3)]) hx hb dX9_walks_185 hl (k := 5) rfl (congrArg (fun z => x4 + z) (by decide)) (Nat.le_of_ble_eq_true rfl) rfl (fun ls hl => ?_)
    refine lv_goto (tgt := 82) hx hb dX9_walks_188 (by decide) ?_
    exact hk82 x1 x2 x3 (x4 + (1 : Int32)) v_all (vp_updL v_next (x4.toNatClampNeg) (t0 + t1)) v_sizes v_walk _ _ _ (lv_sub hl [2, 3, 4, 5, 0] rfl) hG h
  have n137 : ∀ (k82 : Int32 → Int32 → Int32 → Int32 → Int64 → (Nat → Int64) → (Nat → Int64) → (Nat → Int64) → Option (Int64 × Int64 × (Nat → Int64) × (Nat → Int64) × (Nat → Int64))) (hk82 : ∀ (x1 : Int32) (x2 : Int32) (x3 : Int32) (x4 : Int32) (v_all : Int64) (v_next : Nat → Int64) (v_sizes : Nat → Int64) (v_walk : Nat → Int64) (H : Heap) (locs : List Loc) (ls : Array Slot), lv_has ls 7 [(0, .ref (g.2.1 50)), (1, .int x1), (2, .int x2), (3, .int x3), (4, .int x4)] → GW g s (mkS σ [] [(3224, v_all)] [] [(69, v_next), (65, v_sizes), (68, v_walk)]) H locs → k82 x1 x2 x3 x4 v_all v_next v_sizes v_walk = some (r, w_all, w_next, w_sizes, w_walk) → Wg p l e 2 47 s m args below meth c g (some (.long r)) (mkS σ [] [(3224, w_all)] [] [(69, w_next), (65, w_sizes), (68, w_walk)]) H locs (F0 m 82 ls [])) (x1 : Int32) (x2 : Int32) (x3 : Int32) (x4 : Int32) (t0 : Int64) (t1 : Int64) (v_all : Int64) (v_next : Nat → Int64) (v_sizes : Nat → Int64) (v_walk : Nat → Int64) (H : Heap) (locs : List Loc) (ls : Array Slot), lv_has ls 7 [(0, .ref (g.2.1 50)), (1, .int x1), (2, .int x2), (3, .int x3), (4, .int x4)] → GW g s (mkS σ [] [(3224, v_all)] [] [(69, v_next), (65, v_sizes), (68, v_walk)]) H locs → M_walks_n137 k82 (σ.1 3208) (σ.2.2.1 56) x1 x2 x3 x4 t0 t1 v_all v_next v_sizes v_walk = some (r, w_all, w_next, w_sizes, w_walk) → Wg p l e 2 47 s m args below meth c g (some (.long r)) (mkS σ [] [(3224, w_all)] [] [(69, w_next), (65, w_sizes), (68, w_walk)]) H locs (F0 m 137 ls [.long t1, .long t0]) := by
    intro k82 hk82 x1 x2 x3 x4 t0 t1 v_all v_next v_sizes v_walk H locs ls hl hG h
    unfold M_walks_n137 at h
    refine lv_ladd hx hb dX9_walks_137 ?_
    refine lv_lstore (lv' := [(5, .long (t0 + t1)), (0, .ref (g.2.1 50)), (1, .int x1), (2, .int x2), (3, .int x3), (4, .int x4)]) hx hb dX9_walks_138 hl (Nat.le_of_ble_eq_true rfl) rfl (fun ls hl => ?_)
    refine lv_lload hx hb dX9_walks_140 (lv_at hl 0 rfl) ?_
    refine lv_iload hx hb dX9_walks_142 (lv_at hl 5 rfl) ?_
    refine lv_aload_n hx hb dX9_walks_144 rfl (lv_at hl 1 rfl) ?_
    refine gx_get (v := .int (σ.1 3208)) (C := RX9) (T := TX9) (N := 44) hx hb hts mc_X9 hown hK hG (ga_50 g _) rfl 8 (by decide) hw2 rfl rfl dX9_walks_145 ?_
    refine lv_icmp_ge (tgt := 172) hx hb dX9_walks_148 (by decide) (fun c3 => ?_) (fun c3 => ?_)
    · have h := ite_t c3 h
      refine lv_lconst (v := (0 : Int64)) hx hb dX9_walks_172 (by decide) ?_
      exact n173 k82 hk82 x1 x2 x3 x4 (t0 + t1) (0 : Int64) v_all v_next v_sizes v_walk _ _ _ (lv_sub hl [1, 2, 3, 4, 5] rfl) hG h
    · have h := ite_f c3 h
      refine lv_aload_n hx hb dX9_walks_151 rfl (lv_at hl 1 rfl) ?_
      refine gx_get (v := .ref (g.2.1 56)) (C := RX9) (T := TX9) (N := 44) hx hb hts mc_X9 hown hK hG (ga_50 g _) rfl 9 (by decide) hw3 rfl rfl dX9_walks_152 ?_
      refine lv_iload hx hb dX9_walks_155 (lv_at hl 5 rfl) ?_
      obtain ⟨hg4, h⟩ := gd_some h
      refine gx_iald (f := (σ.2.2.1 56)) hx hb hK hG (ga_56 g _) hg4 dX9_walks_157 ?_
      refine lv_i2l hx hb dX9_walks_158 rfl ?_
      refine lv_aload_n hx hb dX9_walks_159 rfl (lv_at hl 1 rfl) ?_
      refine gx_get (v := .ref (g.2.1 68)) (C := RX9) (T := TX9) (N := 44) hx hb hts mc_X9 hown hK hG (ga_50 g _) rfl 27 (by decide) hw4 rfl rfl dX9_walks_160 ?_
      refine lv_iload hx hb dX9_walks_163 (lv_at hl 5 rfl) ?_
      refine lv_iconst (v := (1 : Int32)) hx hb dX9_walks_165 (by decide) ?_
      refine lv_iadd hx hb dX9_walks_166 ?_
      obtain ⟨hg5, h⟩ := gd_some h
      refine gx_lald (f := v_walk) hx hb hK hG (ga_68 g _) hg5 dX9_walks_167 ?_
      refine lv_lmul hx hb dX9_walks_168 ?_
      refine lv_goto (tgt := 173) hx hb dX9_walks_169 (by decide) ?_
      exact n173 k82 hk82 x1 x2 x3 x4 (t0 + t1) ((((σ.2.2.1 56) (x4.toNatClampNeg)).toInt64) * (v_walk ((x4 + (1 : Int32)).toNatClampNeg))) v_all v_next v_sizes v_walk _ _ _ (lv_sub hl [1, 2, 3, 4, 5] rfl) hG h
  have n223 : ∀ (k74 : Int32 → Int32 → Int32 → Int64 → (Nat → Int64) → (Nat → Int64) → (Nat → Int64) → Option (Int64 × Int64 × (Nat → Int64) × (Nat → Int64) × (Nat → Int64))) (hk74 : ∀ (x1 : Int32) (x2 : Int32) (x3 : Int32) (v_all : Int64) (v_next : Nat → Int64) (v_sizes : Nat → Int64) (v_walk : Nat → Int64) (H : Heap) (locs : List Loc) (ls : Array Slot), lv_has ls 7 [(0, .ref (g.2.1 50)), (1, .int x1), (2, .int x2), (3, .int x3)] → GW g s (mkS σ [] [(3224, v_all)] [] [(69, v_next), (65, v_sizes), (68, v_walk)]) H locs → k74 x1 x2 x3 v_all v_next v_sizes v_walk = some (r, w_all, w_next, w_sizes, w_walk) → Wg p l e 2 47 s m args below meth c g (some (.long r)) (mkS σ [] [(3224, w_all)] [] [(69, w_next), (65, w_sizes), (68, w_walk)]) H locs (F0 m 74 ls [])) (x1 : Int32) (x2 : Int32) (x3 : Int32) (v_all : Int64) (v_next : Nat → Int64) (v_sizes : Nat → Int64) (v_walk : Nat → Int64) (H : Heap) (locs : List Loc) (ls : Array Slot), lv_has ls 7 [(0, .ref (g.2.1 50)), (1, .int x1), (2, .int x2), (3, .int x3)] → GW g s (mkS σ [] [(3224, v_all)] [] [(69, v_next), (65, v_sizes), (68, v_walk)]) H locs → M_walks_n223 k74 x1 x2 x3 v_all v_next v_sizes v_walk = some (r, w_all, w_next, w_sizes, w_walk) → Wg p l e 2 47 s m args below meth c g (some (.long r)) (mkS σ [] [(3224, w_all)] [] [(69, w_next), (65, w_sizes), (68, w_walk)]) H locs (F0 m 223 ls []) := by
    intro k74 hk74 x1 x2 x3 v_all v_next v_sizes v_walk H locs ls hl hG h
    unfold M_walks_n223 at h
    refine lv_iinc (v := (x3 + (1 : Int32))) (lv' := [(3, .int (x3 + (1 : Int32))), (0, .ref (g.2.1 50)), (1, .int x1), (2, .int x2)]) hx hb dX9_walks_223 hl (k := 3) rfl (congrArg (fun z => x3 + z) (by decide)) (Nat.le_of_ble_eq_true rfl) rfl (fun ls hl => ?_)
    refine lv_goto (tgt := 74) hx hb dX9_walks_226 (by decide) ?_
    exact hk74 x1 x2 (x3 + (1 : Int32)) v_all v_next v_sizes v_walk _ _ _ (lv_sub hl [1, 2, 3, 0] rfl) hG h
  have n194 : ∀ (k74 : Int32 → Int32 → Int32 → Int64 → (Nat → Int64) → (Nat → Int64) → (Nat → Int64) → Option (Int64 × Int64 × (Nat → Int64) × (Nat → Int64) × (Nat → Int64))) (hk74 : ∀ (x1 : Int32) (x2 : Int32) (x3 : Int32) (v_all : Int64) (v_next : Nat → Int64) (v_sizes : Nat → Int64) (v_walk : Nat → Int64) (H : Heap) (locs : List Loc) (ls : Array Slot), lv_has ls 7 [(0, .ref (g.2.1 50)), (1, .int x1), (2, .int x2), (3, .int x3)] → GW g s (mkS σ [] [(3224, v_all)] [] [(69, v_next), (65, v_sizes), (68, v_walk)]) H locs → k74 x1 x2 x3 v_all v_next v_sizes v_walk = some (r, w_all, w_next, w_sizes, w_walk) → Wg p l e 2 47 s m args below meth c g (some (.long r)) (mkS σ [] [(3224, w_all)] [] [(69, w_next), (65, w_sizes), (68, w_walk)]) H locs (F0 m 74 ls [])) (k194 : Int32 → Int32 → Int32 → Int32 → Int64 → (Nat → Int64) → (Nat → Int64) → (Nat → Int64) → Option (Int64 × Int64 × (Nat → Int64) × (Nat → Int64) × (Nat → Int64))) (hk194 : ∀ (x1 : Int32) (x2 : Int32) (x3 : Int32) (x4 : Int32) (v_all : Int64) (v_next : Nat → Int64) (v_sizes : Nat → Int64) (v_walk : Nat → Int64) (H : Heap) (locs : List Loc) (ls : Array Slot), lv_has ls 7 [(0, .ref (g.2.1 50)), (1, .int x1), (2, .int x2), (3, .int x3), (4, .int x4)] → GW g s (mkS σ [] [(3224, v_all)] [] [(69, v_next), (65, v_sizes), (68, v_walk)]) H locs → k194 x1 x2 x3 x4 v_all v_next v_sizes v_walk = some (r, w_all, w_next, w_sizes, w_walk) → Wg p l e 2 47 s m args below meth c g (some (.long r)) (mkS σ [] [(3224, w_all)] [] [(69, w_next), (65, w_sizes), (68, w_walk)]) H locs (F0 m 194 ls [])) (x1 : Int32) (x2 : Int32) (x3 : Int32) (x4 : Int32) (v_all : Int64) (v_next : Nat → Int64) (v_sizes : Nat → Int64) (v_walk : Nat → Int64) (H : Heap) (locs : List Loc) (ls : Array Slot), lv_has ls 7 [(0, .ref (g.2.1 50)), (1, .int x1), (2, .int x2), (3, .int x3), (4, .int x4)] → GW g s (mkS σ [] [(3224, v_all)] [] [(69, v_next), (65, v_sizes), (68, v_walk)]) H locs → M_walks_n194 k74 k194 (σ.1 3208) x1 x2 x3 x4 v_all v_next v_sizes v_walk = some (r, w_all, w_next, w_sizes, w_walk) → Wg p l e 2 47 s m args below meth c g (some (.long r)) (mkS σ [] [(3224, w_all)] [] [(69, w_next), (65, w_sizes), (68, w_walk)]) H locs (F0 m 194 ls []) := by
    intro k74 hk74 k194 hk194 x1 x2 x3 x4 v_all v_next v_sizes v_walk H locs ls hl hG h
    unfold M_walks_n194 at h
    refine lv_iload hx hb dX9_walks_194 (lv_at hl 4 rfl) ?_
    refine lv_aload_n hx hb dX9_walks_196 rfl (lv_at hl 0 rfl) ?_
    refine gx_get (v := .int (σ.1 3208)) (C := RX9) (T := TX9) (N := 44) hx hb hts mc_X9 hown hK hG (ga_50 g _) rfl 8 (by decide) hw2 rfl rfl dX9_walks_197 ?_
    refine lv_icmp_gt (tgt := 223) hx hb dX9_walks_200 (by decide) (fun c6 => ?_) (fun c6 => ?_)
    · have h := ite_t c6 h
      exact n223 k74 hk74 x1 x2 x3 v_all v_next v_sizes v_walk _ _ _ (lv_sub hl [0, 1, 2, 3] rfl) hG h
    · have h := ite_f c6 h
      refine lv_aload_n hx hb dX9_walks_203 rfl (lv_at hl 0 rfl) ?_
      refine gx_get (v := .ref (g.2.1 68)) (C := RX9) (T := TX9) (N := 44) hx hb hts mc_X9 hown hK hG (ga_50 g _) rfl 27 (by decide) hw4 rfl rfl dX9_walks_204 ?_
      refine lv_iload hx hb dX9_walks_207 (lv_at hl 4 rfl) ?_
      refine lv_aload_n hx hb dX9_walks_209 rfl (lv_at hl 0 rfl) ?_
      refine gx_get (v := .ref (g.2.1 69)) (C := RX9) (T := TX9) (N := 44) hx hb hts mc_X9 hown hK hG (ga_50 g _) rfl 28 (by decide) hw1 rfl rfl dX9_walks_210 ?_
      refine lv_iload hx hb dX9_walks_213 (lv_at hl 4 rfl) ?_
      obtain ⟨hg7, h⟩ := gd_some h
      refine gx_lald (f := v_next) hx hb hK hG (ga_69 g _) hg7 dX9_walks_215 ?_
      refine gx_last (σ' := (mkS σ [] [(3224, v_all)] [] [(69, v_next), (65, v_sizes), (68, (vp_updL v_walk (x4.toNatClampNeg) (v_next (x4.toNatClampNeg))))])) (f := v_walk) hx hb hK hG (ga_68 g _) hg7 ((gs_68 g _ _).trans (congrArg (g_cells g) (mk_d 2 rfl rfl))) dX9_walks_216 (fun H locs hG => ?_)
      refine lv_iinc (v := (x4 + (1 : Int32))) (lv' := [(4, .int (x4 + (1 : Int32))), (0, .ref (g.2.1 50)), (1, .int x1), (2, .int x2), (3, .int x3)]) hx hb dX9_walks_217 hl (k := 4) rfl (congrArg (fun z => x4 + z) (by decide)) (Nat.le_of_ble_eq_true rfl) rfl (fun ls hl => ?_)
      refine lv_goto (tgt := 194) hx hb dX9_walks_220 (by decide) ?_
      exact hk194 x1 x2 x3 (x4 + (1 : Int32)) v_all v_next v_sizes (vp_updL v_walk (x4.toNatClampNeg) (v_next (x4.toNatClampNeg))) _ _ _ (lv_sub hl [1, 2, 3, 4, 0] rfl) hG h
  have l194 : ∀ (k74 : Int32 → Int32 → Int32 → Int64 → (Nat → Int64) → (Nat → Int64) → (Nat → Int64) → Option (Int64 × Int64 × (Nat → Int64) × (Nat → Int64) × (Nat → Int64))) (hk74 : ∀ (x1 : Int32) (x2 : Int32) (x3 : Int32) (v_all : Int64) (v_next : Nat → Int64) (v_sizes : Nat → Int64) (v_walk : Nat → Int64) (H : Heap) (locs : List Loc) (ls : Array Slot), lv_has ls 7 [(0, .ref (g.2.1 50)), (1, .int x1), (2, .int x2), (3, .int x3)] → GW g s (mkS σ [] [(3224, v_all)] [] [(69, v_next), (65, v_sizes), (68, v_walk)]) H locs → k74 x1 x2 x3 v_all v_next v_sizes v_walk = some (r, w_all, w_next, w_sizes, w_walk) → Wg p l e 2 47 s m args below meth c g (some (.long r)) (mkS σ [] [(3224, w_all)] [] [(69, w_next), (65, w_sizes), (68, w_walk)]) H locs (F0 m 74 ls [])) (F : Nat) (x1 : Int32) (x2 : Int32) (x3 : Int32) (x4 : Int32) (v_all : Int64) (v_next : Nat → Int64) (v_sizes : Nat → Int64) (v_walk : Nat → Int64) (H : Heap) (locs : List Loc) (ls : Array Slot), lv_has ls 7 [(0, .ref (g.2.1 50)), (1, .int x1), (2, .int x2), (3, .int x3), (4, .int x4)] → GW g s (mkS σ [] [(3224, v_all)] [] [(69, v_next), (65, v_sizes), (68, v_walk)]) H locs → M_walks_l194 k74 (σ.1 3208) F x1 x2 x3 x4 v_all v_next v_sizes v_walk = some (r, w_all, w_next, w_sizes, w_walk) → Wg p l e 2 47 s m args below meth c g (some (.long r)) (mkS σ [] [(3224, w_all)] [] [(69, w_next), (65, w_sizes), (68, w_walk)]) H locs (F0 m 194 ls []) := by
    intro k74 hk74 F
    induction F with
    | zero => intro x1 x2 x3 x4 v_all v_next v_sizes v_walk H locs ls hl hG h; exact no_some h
    | succ F ih => intro x1 x2 x3 x4 v_all v_next v_sizes v_walk H locs ls hl hG h; exact n194 k74 hk74 (fun x1 x2 x3 x4 v_all v_next v_sizes v_walk => M_walks_l194 k74 (σ.1 3208) F x1 x2 x3 x4 v_all v_next v_sizes v_walk) ih x1 x2 x3 x4 v_all v_next v_sizes v_walk H locs ls hl hG h
  have n191 : ∀ (k74 : Int32 → Int32 → Int32 → Int64 → (Nat → Int64) → (Nat → Int64) → (Nat → Int64) → Option (Int64 × Int64 × (Nat → Int64) × (Nat → Int64) × (Nat → Int64))) (hk74 : ∀ (x1 : Int32) (x2 : Int32) (x3 : Int32) (v_all : Int64) (v_next : Nat → Int64) (v_sizes : Nat → Int64) (v_walk : Nat → Int64) (H : Heap) (locs : List Loc) (ls : Array Slot), lv_has ls 7 [(0, .ref (g.2.1 50)), (1, .int x1), (2, .int x2), (3, .int x3)] → GW g s (mkS σ [] [(3224, v_all)] [] [(69, v_next), (65, v_sizes), (68, v_walk)]) H locs → k74 x1 x2 x3 v_all v_next v_sizes v_walk = some (r, w_all, w_next, w_sizes, w_walk) → Wg p l e 2 47 s m args below meth c g (some (.long r)) (mkS σ [] [(3224, w_all)] [] [(69, w_next), (65, w_sizes), (68, w_walk)]) H locs (F0 m 74 ls [])) (x1 : Int32) (x2 : Int32) (x3 : Int32) (v_all : Int64) (v_next : Nat → Int64) (v_sizes : Nat → Int64) (v_walk : Nat → Int64) (H : Heap) (locs : List Loc) (ls : Array Slot), lv_has ls 7 [(0, .ref (g.2.1 50)), (1, .int x1), (2, .int x2), (3, .int x3)] → GW g s (mkS σ [] [(3224, v_all)] [] [(69, v_next), (65, v_sizes), (68, v_walk)]) H locs → M_walks_n191 k74 (σ.1 3208) x1 x2 x3 v_all v_next v_sizes v_walk = some (r, w_all, w_next, w_sizes, w_walk) → Wg p l e 2 47 s m args below meth c g (some (.long r)) (mkS σ [] [(3224, w_all)] [] [(69, w_next), (65, w_sizes), (68, w_walk)]) H locs (F0 m 191 ls []) := by
    intro k74 hk74 x1 x2 x3 v_all v_next v_sizes v_walk H locs ls hl hG h
    unfold M_walks_n191 at h
    refine lv_iconst (v := (0 : Int32)) hx hb dX9_walks_191 (by decide) ?_
    refine lv_istore (lv' := [(4, .int (0 : Int32)), (0, .ref (g.2.1 50)), (1, .int x1), (2, .int x2), (3, .int x3)]) hx hb dX9_walks_192 hl (Nat.le_of_ble_eq_true rfl) rfl (fun ls hl => ?_)
    exact l194 k74 hk74 FUEL x1 x2 x3 (0 : Int32) v_all v_next v_sizes v_walk _ _ _ (lv_sub hl [1, 2, 3, 4, 0] rfl) hG h
  have n82 : ∀ (k74 : Int32 → Int32 → Int32 → Int64 → (Nat → Int64) → (Nat → Int64) → (Nat → Int64) → Option (Int64 × Int64 × (Nat → Int64) × (Nat → Int64) × (Nat → Int64))) (hk74 : ∀ (x1 : Int32) (x2 : Int32) (x3 : Int32) (v_all : Int64) (v_next : Nat → Int64) (v_sizes : Nat → Int64) (v_walk : Nat → Int64) (H : Heap) (locs : List Loc) (ls : Array Slot), lv_has ls 7 [(0, .ref (g.2.1 50)), (1, .int x1), (2, .int x2), (3, .int x3)] → GW g s (mkS σ [] [(3224, v_all)] [] [(69, v_next), (65, v_sizes), (68, v_walk)]) H locs → k74 x1 x2 x3 v_all v_next v_sizes v_walk = some (r, w_all, w_next, w_sizes, w_walk) → Wg p l e 2 47 s m args below meth c g (some (.long r)) (mkS σ [] [(3224, w_all)] [] [(69, w_next), (65, w_sizes), (68, w_walk)]) H locs (F0 m 74 ls [])) (k82 : Int32 → Int32 → Int32 → Int32 → Int64 → (Nat → Int64) → (Nat → Int64) → (Nat → Int64) → Option (Int64 × Int64 × (Nat → Int64) × (Nat → Int64) × (Nat → Int64))) (hk82 : ∀ (x1 : Int32) (x2 : Int32) (x3 : Int32) (x4 : Int32) (v_all : Int64) (v_next : Nat → Int64) (v_sizes : Nat → Int64) (v_walk : Nat → Int64) (H : Heap) (locs : List Loc) (ls : Array Slot), lv_has ls 7 [(0, .ref (g.2.1 50)), (1, .int x1), (2, .int x2), (3, .int x3), (4, .int x4)] → GW g s (mkS σ [] [(3224, v_all)] [] [(69, v_next), (65, v_sizes), (68, v_walk)]) H locs → k82 x1 x2 x3 x4 v_all v_next v_sizes v_walk = some (r, w_all, w_next, w_sizes, w_walk) → Wg p l e 2 47 s m args below meth c g (some (.long r)) (mkS σ [] [(3224, w_all)] [] [(69, w_next), (65, w_sizes), (68, w_walk)]) H locs (F0 m 82 ls [])) (x1 : Int32) (x2 : Int32) (x3 : Int32) (x4 : Int32) (v_all : Int64) (v_next : Nat → Int64) (v_sizes : Nat → Int64) (v_walk : Nat → Int64) (H : Heap) (locs : List Loc) (ls : Array Slot), lv_has ls 7 [(0, .ref (g.2.1 50)), (1, .int x1), (2, .int x2), (3, .int x3), (4, .int x4)] → GW g s (mkS σ [] [(3224, v_all)] [] [(69, v_next), (65, v_sizes), (68, v_walk)]) H locs → M_walks_n82 k74 k82 (σ.1 3208) (σ.2.2.1 56) (σ.2.2.1 57) x1 x2 x3 x4 v_all v_next v_sizes v_walk = some (r, w_all, w_next, w_sizes, w_walk) → Wg p l e 2 47 s m args below meth c g (some (.long r)) (mkS σ [] [(3224, w_all)] [] [(69, w_next), (65, w_sizes), (68, w_walk)]) H locs (F0 m 82 ls []) := by
    intro k74 hk74 k82 hk82 x1 x2 x3 x4 v_all v_next v_sizes v_walk H locs ls hl hG h
    unfold M_walks_n82 at h
    refine lv_iload hx hb dX9_walks_82 (lv_at hl 4 rfl) ?_
    refine lv_aload_n hx hb dX9_walks_84 rfl (lv_at hl 0 rfl) ?_
    refine gx_get (v := .int (σ.1 3208)) (C := RX9) (T := TX9) (N := 44) hx hb hts mc_X9 hown hK hG (ga_50 g _) rfl 8 (by decide) hw2 rfl rfl dX9_walks_85 ?_
    refine lv_icmp_gt (tgt := 191) hx hb dX9_walks_88 (by decide) (fun c8 => ?_) (fun c8 => ?_)
    · have h := ite_t c8 h
      exact n191 k74 hk74 x1 x2 x3 v_all v_next v_sizes v_walk _ _ _ (lv_sub hl [0, 1, 2, 3] rfl) hG h
    · have h := ite_f c8 h
      refine lv_aload_n hx hb dX9_walks_91 rfl (lv_at hl 0 rfl) ?_
      refine lv_iload hx hb dX9_walks_92 (lv_at hl 4 rfl) ?_
      obtain ⟨z9, hc10, h⟩ := bnd_some h
      refine gx_cV (σ' := (mkS σ [] [(3224, v_all)] [] [(69, v_next), (65, v_sizes), (68, v_walk)])) (r := (some (.int z9))) (rest := []) (As := [.int x4]) hS9 (c_M_a l g (mkS σ [] [(3224, v_all)] [] [(69, v_next), (65, v_sizes), (68, v_walk)]) x4 z9 hc10) rfl (cwV 1 hts (gz_V mw_5_216 mw_5_218 ms_4_9 mw_1_11 mw_5_219) rfl rfl rfl hdV_X9_a ⟨Nat.le_of_ble_eq_true rfl, Nat.le_of_ble_eq_true rfl⟩) hK hG (ga_50 g _) rfl rfl rfl hl.1 rfl (Nat.le_of_ble_eq_true rfl) dX9_walks_94 (fun H locs hG => ?_)
      refine W.eq (g2 := F0 m 97 ls [.int z9]) rfl ?_
      refine lv_i2l hx hb dX9_walks_97 rfl ?_
      refine lv_aload_n hx hb dX9_walks_98 rfl (lv_at hl 0 rfl) ?_
      refine gx_get (v := .ref (g.2.1 68)) (C := RX9) (T := TX9) (N := 44) hx hb hts mc_X9 hown hK hG (ga_50 g _) rfl 27 (by decide) hw4 rfl rfl dX9_walks_99 ?_
      refine lv_iload hx hb dX9_walks_102 (lv_at hl 4 rfl) ?_
      obtain ⟨hg11, h⟩ := gd_some h
      refine gx_lald (f := v_walk) hx hb hK hG (ga_68 g _) hg11 dX9_walks_104 ?_
      refine lv_lmul hx hb dX9_walks_105 ?_
      refine lv_lstore (lv' := [(5, .long ((z9.toInt64) * (v_walk (x4.toNatClampNeg)))), (0, .ref (g.2.1 50)), (1, .int x1), (2, .int x2), (3, .int x3), (4, .int x4)]) hx hb dX9_walks_106 hl (Nat.le_of_ble_eq_true rfl) rfl (fun ls hl => ?_)
      refine lv_lload hx hb dX9_walks_108 (lv_at hl 0 rfl) ?_
      refine lv_iload hx hb dX9_walks_110 (lv_at hl 5 rfl) ?_
      refine lv_if_le (tgt := 136) hx hb dX9_walks_112 (by decide) (fun c12 => ?_) (fun c12 => ?_)
      · have h := ite_t c12 h
        refine lv_lconst (v := (0 : Int64)) hx hb dX9_walks_136 (by decide) ?_
        exact n137 k82 hk82 x1 x2 x3 x4 ((z9.toInt64) * (v_walk (x4.toNatClampNeg))) (0 : Int64) v_all v_next v_sizes v_walk _ _ _ (lv_sub hl [1, 2, 3, 4, 5] rfl) hG h
      · have h := ite_f c12 h
        refine lv_aload_n hx hb dX9_walks_115 rfl (lv_at hl 1 rfl) ?_
        refine gx_get (v := .ref (g.2.1 57)) (C := RX9) (T := TX9) (N := 44) hx hb hts mc_X9 hown hK hG (ga_50 g _) rfl 10 (by decide) hw5 rfl rfl dX9_walks_116 ?_
        refine lv_iload hx hb dX9_walks_119 (lv_at hl 5 rfl) ?_
        refine gx_iald (f := (σ.2.2.1 57)) hx hb hK hG (ga_57 g _) hg11 dX9_walks_121 ?_
        refine lv_i2l hx hb dX9_walks_122 rfl ?_
        refine lv_aload_n hx hb dX9_walks_123 rfl (lv_at hl 1 rfl) ?_
        refine gx_get (v := .ref (g.2.1 68)) (C := RX9) (T := TX9) (N := 44) hx hb hts mc_X9 hown hK hG (ga_50 g _) rfl 27 (by decide) hw4 rfl rfl dX9_walks_124 ?_
        refine lv_iload hx hb dX9_walks_127 (lv_at hl 5 rfl) ?_
        refine lv_iconst (v := (1 : Int32)) hx hb dX9_walks_129 (by decide) ?_
        refine lv_isub hx hb dX9_walks_130 ?_
        obtain ⟨hg13, h⟩ := gd_some h
        refine gx_lald (f := v_walk) hx hb hK hG (ga_68 g _) hg13 dX9_walks_131 ?_
        refine lv_lmul hx hb dX9_walks_132 ?_
        refine lv_goto (tgt := 137) hx hb dX9_walks_133 (by decide) ?_
        exact n137 k82 hk82 x1 x2 x3 x4 ((z9.toInt64) * (v_walk (x4.toNatClampNeg))) ((((σ.2.2.1 57) (x4.toNatClampNeg)).toInt64) * (v_walk ((x4 - (1 : Int32)).toNatClampNeg))) v_all v_next v_sizes v_walk _ _ _ (lv_sub hl [1, 2, 3, 4, 5] rfl) hG h
  have l82 : ∀ (k74 : Int32 → Int32 → Int32 → Int64 → (Nat → Int64) → (Nat → Int64) → (Nat → Int64) → Option (Int64 × Int64 × (Nat → Int64) × (Nat → Int64) × (Nat → Int64))) (hk74 : ∀ (x1 : Int32) (x2 : Int32) (x3 : Int32) (v_all : Int64) (v_next : Nat → Int64) (v_sizes : Nat → Int64) (v_walk : Nat → Int64) (H : Heap) (locs : List Loc) (ls : Array Slot), lv_has ls 7 [(0, .ref (g.2.1 50)), (1, .int x1), (2, .int x2), (3, .int x3)] → GW g s (mkS σ [] [(3224, v_all)] [] [(69, v_next), (65, v_sizes), (68, v_walk)]) H locs → k74 x1 x2 x3 v_all v_next v_sizes v_walk = some (r, w_all, w_next, w_sizes, w_walk) → Wg p l e 2 47 s m args below meth c g (some (.long r)) (mkS σ [] [(3224, w_all)] [] [(69, w_next), (65, w_sizes), (68, w_walk)]) H locs (F0 m 74 ls [])) (F : Nat) (x1 : Int32) (x2 : Int32) (x3 : Int32) (x4 : Int32) (v_all : Int64) (v_next : Nat → Int64) (v_sizes : Nat → Int64) (v_walk : Nat → Int64) (H : Heap) (locs : List Loc) (ls : Array Slot), lv_has ls 7 [(0, .ref (g.2.1 50)), (1, .int x1), (2, .int x2), (3, .int x3), (4, .int x4)] → GW g s (mkS σ [] [(3224, v_all)] [] [(69, v_next), (65, v_sizes), (68, v_walk)]) H locs → M_walks_l82 k74 (σ.1 3208) (σ.2.2.1 56) (σ.2.2.1 57) F x1 x2 x3 x4 v_all v_next v_sizes v_walk = some (r, w_all, w_next, w_sizes, w_walk) → Wg p l e 2 47 s m args below meth c g (some (.long r)) (mkS σ [] [(3224, w_all)] [] [(69, w_next), (65, w_sizes), (68, w_walk)]) H locs (F0 m 82 ls []) := by
    intro k74 hk74 F
    induction F with
    | zero => intro x1 x2 x3 x4 v_all v_next v_sizes v_walk H locs ls hl hG h; exact no_some h
    | succ F ih => intro x1 x2 x3 x4 v_all v_next v_sizes v_walk H locs ls hl hG h; exact n82 k74 hk74 (fun x1 x2 x3 x4 v_all v_next v_sizes v_walk => M_walks_l82 k74 (σ.1 3208) (σ.2.2.1 56) (σ.2.2.1 57) F x1 x2 x3 x4 v_all v_next v_sizes v_walk) ih x1 x2 x3 x4 v_all v_next v_sizes v_walk H locs ls hl hG h
  have n229 : ∀ (x1 : Int32) (v_all : Int64) (v_next : Nat → Int64) (v_sizes : Nat → Int64) (v_walk : Nat → Int64) (H : Heap) (locs : List Loc) (ls : Array Slot), lv_has ls 7 [(0, .ref (g.2.1 50)), (1, .int x1)] → GW g s (mkS σ [] [(3224, v_all)] [] [(69, v_next), (65, v_sizes), (68, v_walk)]) H locs → M_walks_n229 x1 v_all v_next v_sizes v_walk = some (r, w_all, w_next, w_sizes, w_walk) → Wg p l e 2 47 s m args below meth c g (some (.long r)) (mkS σ [] [(3224, w_all)] [] [(69, w_next), (65, w_sizes), (68, w_walk)]) H locs (F0 m 229 ls []) := by
    intro x1 v_all v_next v_sizes v_walk H locs ls hl hG h
    unfold M_walks_n229 at h
    refine lv_aload_n hx hb dX9_walks_229 rfl (lv_at hl 0 rfl) ?_
    refine gx_get (v := .ref (g.2.1 68)) (C := RX9) (T := TX9) (N := 44) hx hb hts mc_X9 hown hK hG (ga_50 g _) rfl 27 (by decide) hw4 rfl rfl dX9_walks_230 ?_
    refine lv_iload_n hx hb dX9_walks_233 rfl (lv_at hl 1 rfl) ?_
    obtain ⟨hg14, h⟩ := gd_some h
    refine gx_lald (f := v_walk) hx hb hK hG (ga_68 g _) hg14 dX9_walks_234 ?_
    cases h
    exact gx_lret hx hb hr hlocks hG dX9_walks_235
  have n74 : ∀ (k74 : Int32 → Int32 → Int32 → Int64 → (Nat → Int64) → (Nat → Int64) → (Nat → Int64) → Option (Int64 × Int64 × (Nat → Int64) × (Nat → Int64) × (Nat → Int64))) (hk74 : ∀ (x1 : Int32) (x2 : Int32) (x3 : Int32) (v_all : Int64) (v_next : Nat → Int64) (v_sizes : Nat → Int64) (v_walk : Nat → Int64) (H : Heap) (locs : List Loc) (ls : Array Slot), lv_has ls 7 [(0, .ref (g.2.1 50)), (1, .int x1), (2, .int x2), (3, .int x3)] → GW g s (mkS σ [] [(3224, v_all)] [] [(69, v_next), (65, v_sizes), (68, v_walk)]) H locs → k74 x1 x2 x3 v_all v_next v_sizes v_walk = some (r, w_all, w_next, w_sizes, w_walk) → Wg p l e 2 47 s m args below meth c g (some (.long r)) (mkS σ [] [(3224, w_all)] [] [(69, w_next), (65, w_sizes), (68, w_walk)]) H locs (F0 m 74 ls [])) (x1 : Int32) (x2 : Int32) (x3 : Int32) (v_all : Int64) (v_next : Nat → Int64) (v_sizes : Nat → Int64) (v_walk : Nat → Int64) (H : Heap) (locs : List Loc) (ls : Array Slot), lv_has ls 7 [(0, .ref (g.2.1 50)), (1, .int x1), (2, .int x2), (3, .int x3)] → GW g s (mkS σ [] [(3224, v_all)] [] [(69, v_next), (65, v_sizes), (68, v_walk)]) H locs → M_walks_n74 k74 (σ.1 3208) (σ.2.2.1 56) (σ.2.2.1 57) x1 x2 x3 v_all v_next v_sizes v_walk = some (r, w_all, w_next, w_sizes, w_walk) → Wg p l e 2 47 s m args below meth c g (some (.long r)) (mkS σ [] [(3224, w_all)] [] [(69, w_next), (65, w_sizes), (68, w_walk)]) H locs (F0 m 74 ls []) := by
    intro k74 hk74 x1 x2 x3 v_all v_next v_sizes v_walk H locs ls hl hG h
    unfold M_walks_n74 at h
    refine lv_iload_n hx hb dX9_walks_74 rfl (lv_at hl 3 rfl) ?_
    refine lv_iload_n hx hb dX9_walks_75 rfl (lv_at hl 2 rfl) ?_
    refine lv_icmp_ge (tgt := 229) hx hb dX9_walks_76 (by decide) (fun c15 => ?_) (fun c15 => ?_)
    · have h := ite_t c15 h
      exact n229 x1 v_all v_next v_sizes v_walk _ _ _ (lv_sub hl [0, 1] rfl) hG h
    · have h := ite_f c15 h
      refine lv_iconst (v := (0 : Int32)) hx hb dX9_walks_79 (by decide) ?_
      refine lv_istore (lv' := [(4, .int (0 : Int32)), (0, .ref (g.2.1 50)), (1, .int x1), (2, .int x2), (3, .int x3)]) hx hb dX9_walks_80 hl (Nat.le_of_ble_eq_true rfl) rfl (fun ls hl => ?_)
      exact l82 k74 hk74 FUEL x1 x2 x3 (0 : Int32) v_all v_next v_sizes v_walk _ _ _ (lv_sub hl [1, 2, 3, 4, 0] rfl) hG h
  have l74 : ∀  (F : Nat) (x1 : Int32) (x2 : Int32) (x3 : Int32) (v_all : Int64) (v_next : Nat → Int64) (v_sizes : Nat → Int64) (v_walk : Nat → Int64) (H : Heap) (locs : List Loc) (ls : Array Slot), lv_has ls 7 [(0, .ref (g.2.1 50)), (1, .int x1), (2, .int x2), (3, .int x3)] → GW g s (mkS σ [] [(3224, v_all)] [] [(69, v_next), (65, v_sizes), (68, v_walk)]) H locs → M_walks_l74 (σ.1 3208) (σ.2.2.1 56) (σ.2.2.1 57) F x1 x2 x3 v_all v_next v_sizes v_walk = some (r, w_all, w_next, w_sizes, w_walk) → Wg p l e 2 47 s m args below meth c g (some (.long r)) (mkS σ [] [(3224, w_all)] [] [(69, w_next), (65, w_sizes), (68, w_walk)]) H locs (F0 m 74 ls []) := by
    intro F
    induction F with
    | zero => intro x1 x2 x3 v_all v_next v_sizes v_walk H locs ls hl hG h; exact no_some h
    | succ F ih => intro x1 x2 x3 v_all v_next v_sizes v_walk H locs ls hl hG h; exact n74 (fun x1 x2 x3 v_all v_next v_sizes v_walk => M_walks_l74 (σ.1 3208) (σ.2.2.1 56) (σ.2.2.1 57) F x1 x2 x3 v_all v_next v_sizes v_walk) ih x1 x2 x3 v_all v_next v_sizes v_walk H locs ls hl hG h
  have n72 : ∀ (x1 : Int32) (x2 : Int32) (v_all : Int64) (v_next : Nat → Int64) (v_sizes : Nat → Int64) (v_walk : Nat → Int64) (H : Heap) (locs : List Loc) (ls : Array Slot), lv_has ls 7 [(0, .ref (g.2.1 50)), (1, .int x1), (2, .int x2)] → GW g s (mkS σ [] [(3224, v_all)] [] [(69, v_next), (65, v_sizes), (68, v_walk)]) H locs → M_walks_n72 (σ.1 3208) (σ.2.2.1 56) (σ.2.2.1 57) x1 x2 v_all v_next v_sizes v_walk = some (r, w_all, w_next, w_sizes, w_walk) → Wg p l e 2 47 s m args below meth c g (some (.long r)) (mkS σ [] [(3224, w_all)] [] [(69, w_next), (65, w_sizes), (68, w_walk)]) H locs (F0 m 72 ls []) := by
    intro x1 x2 v_all v_next v_sizes v_walk H locs ls hl hG h
    unfold M_walks_n72 at h
    refine lv_iconst (v := (0 : Int32)) hx hb dX9_walks_72 (by decide) ?_
    refine lv_istore_n (lv' := [(3, .int (0 : Int32)), (0, .ref (g.2.1 50)), (1, .int x1), (2, .int x2)]) hx hb dX9_walks_73 rfl hl (Nat.le_of_ble_eq_true rfl) rfl (fun ls hl => ?_)
    exact l74 FUEL x1 x2 (0 : Int32) v_all v_next v_sizes v_walk _ _ _ (lv_sub hl [1, 2, 3, 0] rfl) hG h
  have n43 : ∀ (k43 : Int32 → Int32 → Int32 → Int64 → (Nat → Int64) → (Nat → Int64) → (Nat → Int64) → Option (Int64 × Int64 × (Nat → Int64) × (Nat → Int64) × (Nat → Int64))) (hk43 : ∀ (x1 : Int32) (x2 : Int32) (x3 : Int32) (v_all : Int64) (v_next : Nat → Int64) (v_sizes : Nat → Int64) (v_walk : Nat → Int64) (H : Heap) (locs : List Loc) (ls : Array Slot), lv_has ls 7 [(0, .ref (g.2.1 50)), (1, .int x1), (2, .int x2), (3, .int x3)] → GW g s (mkS σ [] [(3224, v_all)] [] [(69, v_next), (65, v_sizes), (68, v_walk)]) H locs → k43 x1 x2 x3 v_all v_next v_sizes v_walk = some (r, w_all, w_next, w_sizes, w_walk) → Wg p l e 2 47 s m args below meth c g (some (.long r)) (mkS σ [] [(3224, w_all)] [] [(69, w_next), (65, w_sizes), (68, w_walk)]) H locs (F0 m 43 ls [])) (x1 : Int32) (x2 : Int32) (x3 : Int32) (v_all : Int64) (v_next : Nat → Int64) (v_sizes : Nat → Int64) (v_walk : Nat → Int64) (H : Heap) (locs : List Loc) (ls : Array Slot), lv_has ls 7 [(0, .ref (g.2.1 50)), (1, .int x1), (2, .int x2), (3, .int x3)] → GW g s (mkS σ [] [(3224, v_all)] [] [(69, v_next), (65, v_sizes), (68, v_walk)]) H locs → M_walks_n43 k43 (σ.1 3208) (σ.2.2.1 56) (σ.2.2.1 57) x1 x2 x3 v_all v_next v_sizes v_walk = some (r, w_all, w_next, w_sizes, w_walk) → Wg p l e 2 47 s m args below meth c g (some (.long r)) (mkS σ [] [(3224, w_all)] [] [(69, w_next), (65, w_sizes), (68, w_walk)]) H locs (F0 m 43 ls []) := by
    intro k43 hk43 x1 x2 x3 v_all v_next v_sizes v_walk H locs ls hl hG h
    unfold M_walks_n43 at h
    refine lv_iload_n hx hb dX9_walks_43 rfl (lv_at hl 3 rfl) ?_
    refine lv_aload_n hx hb dX9_walks_44 rfl (lv_at hl 0 rfl) ?_
    refine gx_get (v := .int (σ.1 3208)) (C := RX9) (T := TX9) (N := 44) hx hb hts mc_X9 hown hK hG (ga_50 g _) rfl 8 (by decide) hw2 rfl rfl dX9_walks_45 ?_
    refine lv_icmp_gt (tgt := 72) hx hb dX9_walks_48 (by decide) (fun c16 => ?_) (fun c16 => ?_)
    · have h := ite_t c16 h
      exact n72 x1 x2 v_all v_next v_sizes v_walk _ _ _ (lv_sub hl [0, 1, 2] rfl) hG h
    · have h := ite_f c16 h
      refine lv_aload_n hx hb dX9_walks_51 rfl (lv_at hl 0 rfl) ?_
      refine gx_get (v := .ref (g.2.1 68)) (C := RX9) (T := TX9) (N := 44) hx hb hts mc_X9 hown hK hG (ga_50 g _) rfl 27 (by decide) hw4 rfl rfl dX9_walks_52 ?_
      refine lv_iload_n hx hb dX9_walks_55 rfl (lv_at hl 3 rfl) ?_
      refine lv_iload_n hx hb dX9_walks_56 rfl (lv_at hl 3 rfl) ?_
      refine lv_if_ne (tgt := 64) hx hb dX9_walks_57 (by decide) (fun c17 => ?_) (fun c17 => ?_)
      · have h := ite_f c17 h
        refine lv_lconst (v := (0 : Int64)) hx hb dX9_walks_64 (by decide) ?_
        exact n65 k43 hk43 x1 x2 x3 x3 (0 : Int64) v_all v_next v_sizes v_walk _ _ _ (lv_sub hl [0, 1, 2, 3] rfl) hG h
      · have h := ite_t c17 h
        refine lv_lconst (v := (1 : Int64)) hx hb dX9_walks_60 (by decide) ?_
        refine lv_goto (tgt := 65) hx hb dX9_walks_61 (by decide) ?_
        exact n65 k43 hk43 x1 x2 x3 x3 (1 : Int64) v_all v_next v_sizes v_walk _ _ _ (lv_sub hl [0, 1, 2, 3] rfl) hG h
  have l43 : ∀  (F : Nat) (x1 : Int32) (x2 : Int32) (x3 : Int32) (v_all : Int64) (v_next : Nat → Int64) (v_sizes : Nat → Int64) (v_walk : Nat → Int64) (H : Heap) (locs : List Loc) (ls : Array Slot), lv_has ls 7 [(0, .ref (g.2.1 50)), (1, .int x1), (2, .int x2), (3, .int x3)] → GW g s (mkS σ [] [(3224, v_all)] [] [(69, v_next), (65, v_sizes), (68, v_walk)]) H locs → M_walks_l43 (σ.1 3208) (σ.2.2.1 56) (σ.2.2.1 57) F x1 x2 x3 v_all v_next v_sizes v_walk = some (r, w_all, w_next, w_sizes, w_walk) → Wg p l e 2 47 s m args below meth c g (some (.long r)) (mkS σ [] [(3224, w_all)] [] [(69, w_next), (65, w_sizes), (68, w_walk)]) H locs (F0 m 43 ls []) := by
    intro F
    induction F with
    | zero => intro x1 x2 x3 v_all v_next v_sizes v_walk H locs ls hl hG h; exact no_some h
    | succ F ih => intro x1 x2 x3 v_all v_next v_sizes v_walk H locs ls hl hG h; exact n43 (fun x1 x2 x3 v_all v_next v_sizes v_walk => M_walks_l43 (σ.1 3208) (σ.2.2.1 56) (σ.2.2.1 57) F x1 x2 x3 v_all v_next v_sizes v_walk) ih x1 x2 x3 v_all v_next v_sizes v_walk H locs ls hl hG h
  refine lv_iload_n hx hb dX9_walks_0 rfl (lv_at hl 1 rfl) ?_
  refine lv_i2l hx hb dX9_walks_1 rfl ?_
  refine lv_lconst (v := (0 : Int64)) hx hb dX9_walks_2 (by decide) ?_
  refine lv_aload_n hx hb dX9_walks_3 rfl (lv_at hl 0 rfl) ?_
  refine gx_get (v := .int (σ.1 3208)) (C := RX9) (T := TX9) (N := 44) hx hb hts mc_X9 hown hK hG (ga_50 g _) rfl 8 (by decide) hw2 rfl rfl dX9_walks_4 ?_
  refine lv_i2l hx hb dX9_walks_7 rfl ?_
  obtain ⟨z18, hc19, h⟩ := bnd_some h
  refine gx_cS (σ' := (mkS σ [] [(3224, (σ.2.1 3224))] [] [(69, (σ.2.2.2 69)), (65, (σ.2.2.2 65)), (68, (σ.2.2.2 68))])) (r := (some (.int z18))) (rest := []) (As := [.long (x1.toInt64), .long (0 : Int64), .long ((σ.1 3208).toInt64)]) hS9 (c_M_in l g (mkS σ [] [(3224, (σ.2.1 3224))] [] [(69, (σ.2.2.2 69)), (65, (σ.2.2.2 65)), (68, (σ.2.2.2 68))]) (x1.toInt64) (0 : Int64) ((σ.1 3208).toInt64) z18 hc19) rfl (va_cwS 3 hts (gz_S mw_5_41 mw_5_42 mw_1_11 mw_5_43) rfl rfl rfl hdS_X9_in ⟨Nat.le_of_ble_eq_true rfl, Nat.le_of_ble_eq_true rfl⟩) hK hG rfl hl.1 rfl (Nat.le_of_ble_eq_true rfl) dX9_walks_8 (fun H locs hG => ?_)
  refine W.eq (g2 := F0 m 11 ls [.int z18]) rfl ?_
  refine lv_if_eq (tgt := 26) hx hb dX9_walks_11 (by decide) (fun c20 => ?_) (fun c20 => ?_)
  · have h := ite_t c20 h
    exact n26 (σ.2.1 3224) (σ.2.2.2 69) (σ.2.2.2 65) (σ.2.2.2 68) _ _ _ (lv_sub hl [] rfl) hG h
  · have h := ite_f c20 h
    refine lv_iload_n hx hb dX9_walks_14 rfl (lv_at hl 2 rfl) ?_
    refine lv_i2l hx hb dX9_walks_15 rfl ?_
    refine lv_lconst (v := (0 : Int64)) hx hb dX9_walks_16 (by decide) ?_
    refine lv_ldc2 hx hb hown hw6 dX9_walks_17 ?_
    obtain ⟨z21, hc22, h⟩ := bnd_some h
    refine gx_cS (σ' := (mkS σ [] [(3224, (σ.2.1 3224))] [] [(69, (σ.2.2.2 69)), (65, (σ.2.2.2 65)), (68, (σ.2.2.2 68))])) (r := (some (.int z21))) (rest := []) (As := [.long (x2.toInt64), .long (0 : Int64), .long (8 : Int64)]) hS9 (c_M_in l g (mkS σ [] [(3224, (σ.2.1 3224))] [] [(69, (σ.2.2.2 69)), (65, (σ.2.2.2 65)), (68, (σ.2.2.2 68))]) (x2.toInt64) (0 : Int64) (8 : Int64) z21 hc22) rfl (va_cwS 3 hts (gz_S mw_5_41 mw_5_42 mw_1_11 mw_5_43) rfl rfl rfl hdS_X9_in ⟨Nat.le_of_ble_eq_true rfl, Nat.le_of_ble_eq_true rfl⟩) hK hG rfl hl.1 rfl (Nat.le_of_ble_eq_true rfl) dX9_walks_20 (fun H locs hG => ?_)
    refine W.eq (g2 := F0 m 23 ls [.int z21]) rfl ?_
    refine lv_if_ne (tgt := 30) hx hb dX9_walks_23 (by decide) (fun c23 => ?_) (fun c23 => ?_)
    · have h := ite_f c23 h
      refine lv_aload_n hx hb dX9_walks_30 rfl (lv_at hl 0 rfl) ?_
      obtain ⟨z24, hc25, h⟩ := bnd_some h
      refine gx_cV (σ' := (mkS σ [] [(3224, z24.2.1)] [] [(69, (σ.2.2.2 69)), (65, z24.2.2), (68, (σ.2.2.2 68))])) (r := (some (.int z24.1))) (rest := []) (As := []) hS9 (c_M_firstLaws l g (mkS σ [] [(3224, (σ.2.1 3224))] [] [(69, (σ.2.2.2 69)), (65, (σ.2.2.2 65)), (68, (σ.2.2.2 68))]) z24.1 z24.2.1 z24.2.2 hc25) (mk_mk rfl rfl rfl rfl) (cwV 0 hts (gz_V mw_5_212 mw_5_214 ms_4_8 mw_1_11 mw_5_215) rfl rfl rfl hdV_X9_firstLaws ⟨Nat.le_of_ble_eq_true rfl, Nat.le_of_ble_eq_true rfl⟩) hK hG (ga_50 g _) rfl rfl rfl hl.1 rfl (Nat.le_of_ble_eq_true rfl) dX9_walks_31 (fun H locs hG => ?_)
      refine W.eq (g2 := F0 m 34 ls [.int z24.1]) rfl ?_
      refine lv_if_le (tgt := 41) hx hb dX9_walks_34 (by decide) (fun c26 => ?_) (fun c26 => ?_)
      · have h := ite_t c26 h
        refine lv_iconst (v := (0 : Int32)) hx hb dX9_walks_41 (by decide) ?_
        refine lv_istore_n (lv' := [(3, .int (0 : Int32)), (0, .ref (g.2.1 50)), (1, .int x1), (2, .int x2)]) hx hb dX9_walks_42 rfl hl (Nat.le_of_ble_eq_true rfl) rfl (fun ls hl => ?_)
        exact l43 FUEL x1 x2 (0 : Int32) z24.2.1 (σ.2.2.2 69) z24.2.2 (σ.2.2.2 68) _ _ _ (lv_sub hl [1, 2, 3, 0] rfl) hG h
      · have h := ite_f c26 h
        refine lv_ldc2 hx hb hown hw7 dX9_walks_37 ?_
        cases h
        exact gx_lret hx hb hr hlocks hG dX9_walks_40
    · have h := ite_t c23 h
      exact n26 (σ.2.1 3224) (σ.2.2.2 69) (σ.2.2.2 65) (σ.2.2.2 68) _ _ _ (lv_sub hl [] rfl) hG h

set_option maxHeartbeats 4000000 in
set_option maxRecDepth 100000 in
theorem c_M_way (l : Launch) (g : GC) (σ : St) (x1 : Int32) (x2 : Int32) (r : Int32) (w_far : Int32) (w_heaps : Int32) (w_isMeasured : Int32) (w_wayOf : Nat → Int32) (h : M_way x1 x2 (σ.1 3214) (σ.1 3215) (σ.1 3212) (σ.1 3203) (σ.2.2.1 54) (σ.2.2.1 59) = some (r, w_far, w_heaps, w_isMeasured, w_wayOf)) : Cn l g yX9_way (Cond.code yX9_way cX9_way 3 (some .int) :: wG) 2 47 [.ref (g.2.1 50), .int x1, .int x2] σ (some (.int r)) (mkS σ [(3214, w_far), (3215, w_heaps), (3212, w_isMeasured)] [] [(59, w_wayOf)] []) := by
  unfold Cn
  refine Met.ofW (cc := cX9_way) (maxL := 3) (ret := (some .int)) (by decide) rfl ?_
  intro p e s m args below meth c s₁ B hml hv
  obtain ⟨hargs, hP0, hK⟩ := hv
  have hx := B.exec
  have hb := B.bytes
  have hr := B.returns
  have hts : ∀ w ∈ wG, w.before args s = true := fun w h => atoms_spec (ws := (Cond.code yX9_way cX9_way 3 (some .int) :: wG)) B.pre w (List.mem_cons_of_mem _ h)
  have hown : s.vm.findClass RX9 = some m.cls := findClass_of_methodNamed B.named
  have hlocks := B.notSynchronized
  have hS9 : CallFix p m c cX9_way 3 s args wG RX9 := ⟨hx, hb, hml, hown, hts⟩
  have hw0 := hts _ mw_4_152
  have hf9 : entryFrame m args 3 = _ := (congrArg (fun a => entryFrame m a 3) hargs).trans (lg_entry_eq m [.ref (g.2.1 50), .int x1, .int x2] 3)
  show Wg p l e 2 47 s m args below meth c g (some (.int r)) (mkS σ [(3214, w_far), (3215, w_heaps), (3212, w_isMeasured)] [] [(59, w_wayOf)] []) s.heap [] (entryFrame m args 3)
  rw [hf9]
  have hl := lv_entry ([.ref (g.2.1 50), .int x1, .int x2]) (n := 3) (Nat.le_of_ble_eq_true rfl)
  generalize (lg_sl ([.ref (g.2.1 50), .int x1, .int x2]) ++ List.replicate (3 - (lg_sl ([.ref (g.2.1 50), .int x1, .int x2])).length) Slot.unset).toArray = ls at hl ⊢
  have hl : lv_has ls 3 [(0, .ref (g.2.1 50)), (1, .int x1), (2, .int x2)] := hl
  have hG : GW g s σ s.heap [] := ⟨hP0, va_S.rf⟩
  have hG : GW g s (mkS σ [(3214, (σ.1 3214)), (3215, (σ.1 3215)), (3212, (σ.1 3212))] [] [(59, (σ.2.2.1 59))] []) s.heap [] := GW_self [3214, 3215, 3212] [] [59] [] hG
  unfold M_way at h
  have n16 : ∀ (v_far : Int32) (v_heaps : Int32) (v_isMeasured : Int32) (v_wayOf : Nat → Int32) (H : Heap) (locs : List Loc) (ls : Array Slot), lv_has ls 3 [] → GW g s (mkS σ [(3214, v_far), (3215, v_heaps), (3212, v_isMeasured)] [] [(59, v_wayOf)] []) H locs → M_way_n16 v_far v_heaps v_isMeasured v_wayOf = some (r, w_far, w_heaps, w_isMeasured, w_wayOf) → Wg p l e 2 47 s m args below meth c g (some (.int r)) (mkS σ [(3214, w_far), (3215, w_heaps), (3212, w_isMeasured)] [] [(59, w_wayOf)] []) H locs (F0 m 16 ls []) := by
    intro v_far v_heaps v_isMeasured v_wayOf H locs ls hl hG h
    unfold M_way_n16 at h
    refine lv_iconst (v := (-1 : Int32)) hx hb dX9_way_16 (by decide) ?_
    cases h
    exact gx_iret hx hb hr hlocks hG dX9_way_17
  have n54 : ∀ (t0 : Int32) (v_far : Int32) (v_heaps : Int32) (v_isMeasured : Int32) (v_wayOf : Nat → Int32) (H : Heap) (locs : List Loc) (ls : Array Slot), lv_has ls 3 [] → GW g s (mkS σ [(3214, v_far), (3215, v_heaps), (3212, v_isMeasured)] [] [(59, v_wayOf)] []) H locs → M_way_n54 t0 v_far v_heaps v_isMeasured v_wayOf = some (r, w_far, w_heaps, w_isMeasured, w_wayOf) → Wg p l e 2 47 s m args below meth c g (some (.int r)) (mkS σ [(3214, w_far), (3215, w_heaps), (3212, w_isMeasured)] [] [(59, w_wayOf)] []) H locs (F0 m 54 ls [.int t0]) := by
    intro t0 v_far v_heaps v_isMeasured v_wayOf H locs ls hl hG h
    unfold M_way_n54 at h
    cases h
    exact gx_iret hx hb hr hlocks hG dX9_way_54
  refine lv_aload_n hx hb dX9_way_0 rfl (lv_at hl 0 rfl) ?_
  refine lv_iload_n hx hb dX9_way_1 rfl (lv_at hl 1 rfl) ?_
  obtain ⟨z1, hc2, h⟩ := bnd_some h
  refine gx_cV (σ' := (mkS σ [(3214, (σ.1 3214)), (3215, (σ.1 3215)), (3212, (σ.1 3212))] [] [(59, (σ.2.2.1 59))] [])) (r := (some (.int z1))) (rest := []) (As := [.int x1]) hS9 (c_M_isPost l g (mkS σ [(3214, (σ.1 3214)), (3215, (σ.1 3215)), (3212, (σ.1 3212))] [] [(59, (σ.2.2.1 59))] []) x1 z1 hc2) rfl (cwV 1 hts (gz_V mw_5_66 mw_5_68 ms_3_5 mw_1_11 mw_5_69) rfl rfl rfl hdV_X9_isPost ⟨Nat.le_of_ble_eq_true rfl, Nat.le_of_ble_eq_true rfl⟩) hK hG (ga_50 g _) rfl rfl rfl hl.1 rfl (Nat.le_of_ble_eq_true rfl) dX9_way_2 (fun H locs hG => ?_)
  refine W.eq (g2 := F0 m 5 ls [.int z1]) rfl ?_
  refine lv_if_eq (tgt := 16) hx hb dX9_way_5 (by decide) (fun c3 => ?_) (fun c3 => ?_)
  · have h := ite_t c3 h
    exact n16 (σ.1 3214) (σ.1 3215) (σ.1 3212) (σ.2.2.1 59) _ _ _ (lv_sub hl [] rfl) hG h
  · have h := ite_f c3 h
    refine lv_aload_n hx hb dX9_way_8 rfl (lv_at hl 0 rfl) ?_
    refine lv_iload_n hx hb dX9_way_9 rfl (lv_at hl 2 rfl) ?_
    obtain ⟨z4, hc5, h⟩ := bnd_some h
    refine gx_cV (σ' := (mkS σ [(3214, (σ.1 3214)), (3215, (σ.1 3215)), (3212, (σ.1 3212))] [] [(59, (σ.2.2.1 59))] [])) (r := (some (.int z4))) (rest := []) (As := [.int x2]) hS9 (c_M_isPost l g (mkS σ [(3214, (σ.1 3214)), (3215, (σ.1 3215)), (3212, (σ.1 3212))] [] [(59, (σ.2.2.1 59))] []) x2 z4 hc5) rfl (cwV 1 hts (gz_V mw_5_66 mw_5_68 ms_3_5 mw_1_11 mw_5_69) rfl rfl rfl hdV_X9_isPost ⟨Nat.le_of_ble_eq_true rfl, Nat.le_of_ble_eq_true rfl⟩) hK hG (ga_50 g _) rfl rfl rfl hl.1 rfl (Nat.le_of_ble_eq_true rfl) dX9_way_10 (fun H locs hG => ?_)
    refine W.eq (g2 := F0 m 13 ls [.int z4]) rfl ?_
    refine lv_if_ne (tgt := 18) hx hb dX9_way_13 (by decide) (fun c6 => ?_) (fun c6 => ?_)
    · have h := ite_f c6 h
      refine lv_aload_n hx hb dX9_way_18 rfl (lv_at hl 0 rfl) ?_
      obtain ⟨z7, hc8, h⟩ := bnd_some h
      refine gx_cV (σ' := (mkS σ [(3214, z7.1), (3215, z7.2.1), (3212, z7.2.2.1)] [] [(59, z7.2.2.2)] [])) (r := none) (rest := []) (As := []) hS9 (c_M_measure l g (mkS σ [(3214, (σ.1 3214)), (3215, (σ.1 3215)), (3212, (σ.1 3212))] [] [(59, (σ.2.2.1 59))] []) z7.1 z7.2.1 z7.2.2.1 z7.2.2.2 hc8) (mk_mk rfl rfl rfl rfl) (cwV 0 hts (gz_V mw_5_117 mw_5_119 ms_3_9 mw_1_11 mw_5_120) rfl rfl rfl hdV_X9_measure ⟨Nat.le_of_ble_eq_true rfl, Nat.le_of_ble_eq_true rfl⟩) hK hG (ga_50 g _) rfl rfl rfl hl.1 rfl (Nat.le_of_ble_eq_true rfl) dX9_way_19 (fun H locs hG => ?_)
      refine W.eq (g2 := F0 m 22 ls []) rfl ?_
      refine lv_aload_n hx hb dX9_way_22 rfl (lv_at hl 0 rfl) ?_
      refine gx_get (v := .ref (g.2.1 59)) (C := RX9) (T := TX9) (N := 44) hx hb hts mc_X9 hown hK hG (ga_50 g _) rfl 13 (by decide) hw0 rfl rfl dX9_way_23 ?_
      refine lv_bipush (v := (32 : Int32)) hx hb dX9_way_26 (by decide) ?_
      refine lv_iload_n hx hb dX9_way_28 rfl (lv_at hl 1 rfl) ?_
      refine lv_imul hx hb dX9_way_29 ?_
      refine lv_iload_n hx hb dX9_way_30 rfl (lv_at hl 2 rfl) ?_
      refine lv_iadd hx hb dX9_way_31 ?_
      obtain ⟨hg9, h⟩ := gd_some h
      refine gx_iald (f := z7.2.2.2) hx hb hK hG (ga_59 g _) hg9 dX9_way_32 ?_
      refine lv_bipush (v := (99 : Int32)) hx hb dX9_way_33 (by decide) ?_
      refine lv_icmp_ne (tgt := 43) hx hb dX9_way_35 (by decide) (fun c10 => ?_) (fun c10 => ?_)
      · have h := ite_f c10 h
        refine lv_aload_n hx hb dX9_way_43 rfl (lv_at hl 0 rfl) ?_
        refine gx_get (v := .ref (g.2.1 59)) (C := RX9) (T := TX9) (N := 44) hx hb hts mc_X9 hown hK hG (ga_50 g _) rfl 13 (by decide) hw0 rfl rfl dX9_way_44 ?_
        refine lv_bipush (v := (32 : Int32)) hx hb dX9_way_47 (by decide) ?_
        refine lv_iload_n hx hb dX9_way_49 rfl (lv_at hl 1 rfl) ?_
        refine lv_imul hx hb dX9_way_50 ?_
        refine lv_iload_n hx hb dX9_way_51 rfl (lv_at hl 2 rfl) ?_
        refine lv_iadd hx hb dX9_way_52 ?_
        refine gx_iald (f := z7.2.2.2) hx hb hK hG (ga_59 g _) hg9 dX9_way_53 ?_
        exact n54 (z7.2.2.2 ((((32 : Int32) * x1) + x2).toNatClampNeg)) z7.1 z7.2.1 z7.2.2.1 z7.2.2.2 _ _ _ (lv_sub hl [] rfl) hG h
      · have h := ite_t c10 h
        refine lv_bipush (v := (-8 : Int32)) hx hb dX9_way_38 (by decide) ?_
        refine lv_goto (tgt := 54) hx hb dX9_way_40 (by decide) ?_
        exact n54 (-8 : Int32) z7.1 z7.2.1 z7.2.2.1 z7.2.2.2 _ _ _ (lv_sub hl [] rfl) hG h
    · have h := ite_t c6 h
      exact n16 (σ.1 3214) (σ.1 3215) (σ.1 3212) (σ.2.2.1 59) _ _ _ (lv_sub hl [] rfl) hG h

