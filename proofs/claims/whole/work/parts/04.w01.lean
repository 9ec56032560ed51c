set_option maxHeartbeats 4000000 in
set_option maxRecDepth 100000 in
theorem c_Net_copyFrom_10_14 (l : Launch) (g : GC) (σ : St) (w_size : Int32) (w_near : Nat → Int32) (h : Net_copyFrom (σ.1 897) (σ.1 641) (σ.2.2.1 11) (σ.2.2.1 15) = some (w_size, w_near)) : Cn l g yX2_copyFrom (Cond.code yX2_copyFrom cX2_copyFrom 2 none :: wG) 1 60 [.ref (g.2.1 10), .ref (g.2.1 14)] σ none (mkS σ [(641, w_size)] [] [(11, w_near)] []) := by
  unfold Cn
  refine Met.ofW (cc := cX2_copyFrom) (maxL := 2) (ret := none) (by decide) rfl ?_
  intro p e s m args below meth c s₁ B hml hv
  obtain ⟨hargs, hP0, hK⟩ := hv
  have hx := B.exec
  have hb := B.bytes
  have hr := B.returns
  have hts : ∀ w ∈ wG, w.before args s = true := fun w h => atoms_spec (ws := (Cond.code yX2_copyFrom cX2_copyFrom 2 none :: wG)) B.pre w (List.mem_cons_of_mem _ h)
  have hown : s.vm.findClass RX2 = some m.cls := findClass_of_methodNamed B.named
  have hlocks := B.notSynchronized
  have hw0 := hts _ mw_1_56
  have hw1 := hts _ mw_1_53
  have hw2 := hts _ mw_2_237
  have hw3 := hts _ mw_2_239
  have hw4 := hts _ mw_2_238
  have hw5 := hts _ mw_1_14
  have hf9 : entryFrame m args 2 = _ := (congrArg (fun a => entryFrame m a 2) hargs).trans (lg_entry_eq m [.ref (g.2.1 10), .ref (g.2.1 14)] 2)
  show Wg p l e 1 60 s m args below meth c g none (mkS σ [(641, w_size)] [] [(11, w_near)] []) s.heap [] (entryFrame m args 2)
  rw [hf9]
  have hl := lv_entry ([.ref (g.2.1 10), .ref (g.2.1 14)]) (n := 2) (Nat.le_of_ble_eq_true rfl)
  generalize (lg_sl ([.ref (g.2.1 10), .ref (g.2.1 14)]) ++ List.replicate (2 - (lg_sl ([.ref (g.2.1 10), .ref (g.2.1 14)])).length) Slot.unset).toArray = ls at hl ⊢
  have hl : lv_has ls 2 [(0, .ref (g.2.1 10)), (1, .ref (g.2.1 14))] := hl
  have hG : GW g s σ s.heap [] := ⟨hP0, va_S.rf⟩
  have hG : GW g s (mkS σ [(641, (σ.1 641))] [] [(11, (σ.2.2.1 11))] []) s.heap [] := GW_self [641] [] [11] [] hG
  unfold Net_copyFrom at h
  refine lv_aload_n hx hb dX2_copyFrom_0 rfl (lv_at hl 0 rfl) ?_
  refine lv_aload_n hx hb dX2_copyFrom_1 rfl (lv_at hl 1 rfl) ?_
  refine gx_get (v := .int (σ.1 897)) (C := RX2) (T := TX2) (N := 2) hx hb hts mc_X2 hown hK hG (ga_14 g _) rfl 1 (by decide) hw0 rfl rfl dX2_copyFrom_2 ?_
  refine gx_put (σ' := (mkS σ [(641, (σ.1 897))] [] [(11, (σ.2.2.1 11))] [])) (C := RX2) (T := TX2) (N := 2) hx hb hts mc_X2 tyX2 tyX2_ok nmX2 hown hK hG (ga_10 g _) rfl 1 (by decide) hw0 rfl rfl rfl rfl (Nat.le_of_ble_eq_true rfl) ((gf_641 g _ _).trans (congrArg (g_cells g) (mk_a 0 rfl rfl))) dX2_copyFrom_5 (fun H locs hG => ?_)
  refine lv_aload_n hx hb dX2_copyFrom_8 rfl (lv_at hl 1 rfl) ?_
  refine gx_get (v := .ref (g.2.1 15)) (C := RX2) (T := TX2) (N := 2) hx hb hts mc_X2 hown hK hG (ga_14 g _) rfl 0 (by decide) hw1 rfl rfl dX2_copyFrom_9 ?_
  refine lv_iconst (v := (0 : Int32)) hx hb dX2_copyFrom_12 (by decide) ?_
  refine lv_aload_n hx hb dX2_copyFrom_13 rfl (lv_at hl 0 rfl) ?_
  refine gx_get (v := .ref (g.2.1 11)) (C := RX2) (T := TX2) (N := 2) hx hb hts mc_X2 hown hK hG (ga_10 g _) rfl 0 (by decide) hw1 rfl rfl dX2_copyFrom_14 ?_
  refine lv_iconst (v := (0 : Int32)) hx hb dX2_copyFrom_17 (by decide) ?_
  refine lv_bipush (v := (32 : Int32)) hx hb dX2_copyFrom_18 (by decide) ?_
  refine gx_copyi (σ' := (mkS σ [(641, (σ.1 897))] [] [(11, (va_cpy (σ.2.2.1 15) (σ.2.2.1 11) ((0 : Int32).toNatClampNeg) ((0 : Int32).toNatClampNeg) ((32 : Int32).toNatClampNeg)))] [])) (f := (σ.2.2.1 15)) (f1 := (σ.2.2.1 11)) hx hb (by rw [hml]; exact hl.1.symm) hown hw2 hw3 hw4 hw5 hK hG (ga_15 g _) (ga_11 g _) (by decide) (by decide) (by decide) (by decide) (by decide) (Nat.le_of_ble_eq_true rfl) (Nat.le_of_ble_eq_true rfl) ((gs_11 g _ _).trans (congrArg (g_cells g) (mk_c 0 rfl rfl))) dX2_copyFrom_20 (fun H locs hG => ?_)
  cases h
  exact gx_vret hx hb hr hlocks hG dX2_copyFrom_23

set_option maxHeartbeats 4000000 in
set_option maxRecDepth 100000 in
theorem c_LN_forget (l : Launch) (g : GC) (σ : St) (w_likeness_ready : Int32) (w_pairs_ready : Int32) (w_search_reach : Int32) (w_ways_ready : Int32) (h : LN_forget (σ.1 1539) (σ.1 2632) (σ.1 2372) (σ.1 1283) = some (w_likeness_ready, w_pairs_ready, w_search_reach, w_ways_ready)) : Cn l g yX8_forget (Cond.code yX8_forget cX8_forget 1 none :: wG) 0 0 [.ref (g.2.1 0)] σ none (mkS σ [(1539, w_likeness_ready), (2632, w_pairs_ready), (2372, w_search_reach), (1283, w_ways_ready)] [] [] []) := by
  unfold Cn
  refine Met.ofW (cc := cX8_forget) (maxL := 1) (ret := none) (by decide) rfl ?_
  intro p e s m args below meth c s₁ B hml hv
  obtain ⟨hargs, hP0, hK⟩ := hv
  have hx := B.exec
  have hb := B.bytes
  have hr := B.returns
  have hts : ∀ w ∈ wG, w.before args s = true := fun w h => atoms_spec (ws := (Cond.code yX8_forget cX8_forget 1 none :: wG)) B.pre w (List.mem_cons_of_mem _ h)
  have hown : s.vm.findClass RX8 = some m.cls := findClass_of_methodNamed B.named
  have hlocks := B.notSynchronized
  have hw0 := hts _ mw_2_44
  have hw1 := hts _ mw_1_87
  have hw2 := hts _ mw_2_45
  have hw3 := hts _ mw_1_122
  have hw4 := hts _ mw_2_48
  have hw5 := hts _ mw_2_10
  have hw6 := hts _ mw_2_47
  have hw7 := hts _ mw_1_219
  have hf9 : entryFrame m args 1 = _ := (congrArg (fun a => entryFrame m a 1) hargs).trans (lg_entry_eq m [.ref (g.2.1 0)] 1)
  show Wg p l e 0 0 s m args below meth c g none (mkS σ [(1539, w_likeness_ready), (2632, w_pairs_ready), (2372, w_search_reach), (1283, w_ways_ready)] [] [] []) s.heap [] (entryFrame m args 1)
  rw [hf9]
  have hl := lv_entry ([.ref (g.2.1 0)]) (n := 1) (Nat.le_of_ble_eq_true rfl)
  generalize (lg_sl ([.ref (g.2.1 0)]) ++ List.replicate (1 - (lg_sl ([.ref (g.2.1 0)])).length) Slot.unset).toArray = ls at hl ⊢
  have hl : lv_has ls 1 [(0, .ref (g.2.1 0))] := hl
  have hG : GW g s σ s.heap [] := ⟨hP0, va_S.rf⟩
  have hG : GW g s (mkS σ [(1539, (σ.1 1539)), (2632, (σ.1 2632)), (2372, (σ.1 2372)), (1283, (σ.1 1283))] [] [] []) s.heap [] := GW_self [1539, 2632, 2372, 1283] [] [] [] hG
  unfold LN_forget at h
  refine lv_aload_n hx hb dX8_forget_0 rfl (lv_at hl 0 rfl) ?_
  refine gx_get (v := .ref (g.2.1 20)) (C := RX8) (T := TX8) (N := 13) hx hb hts mc_X8 hown hK hG (ga_0 g _) rfl 7 (by decide) hw0 rfl rfl dX8_forget_1 ?_
  refine lv_iconst (v := (0 : Int32)) hx hb dX8_forget_4 (by decide) ?_
  refine gx_put (σ' := (mkS σ [(1539, (σ.1 1539)), (2632, (σ.1 2632)), (2372, (σ.1 2372)), (1283, (0 : Int32))] [] [] [])) (C := RX7) (T := TX7) (N := 7) hx hb hts mc_X7 tyX7 tyX7_ok nmX7 hown hK hG (ga_20 g _) rfl 3 (by decide) hw1 rfl rfl (isb_n (by decide)) (isb_f (by decide)) (Nat.le_of_ble_eq_true rfl) ((gf_1283 g _ _).trans (congrArg (g_cells g) (mk_a 3 rfl rfl))) dX8_forget_5 (fun H locs hG => ?_)
  refine lv_aload_n hx hb dX8_forget_8 rfl (lv_at hl 0 rfl) ?_
  refine gx_get (v := .ref (g.2.1 24)) (C := RX8) (T := TX8) (N := 13) hx hb hts mc_X8 hown hK hG (ga_0 g _) rfl 8 (by decide) hw2 rfl rfl dX8_forget_9 ?_
  refine lv_iconst (v := (0 : Int32)) hx hb dX8_forget_12 (by decide) ?_
  refine gx_put (σ' := (mkS σ [(1539, (0 : Int32)), (2632, (σ.1 2632)), (2372, (σ.1 2372)), (1283, (0 : Int32))] [] [] [])) (C := RX0) (T := TX0) (N := 7) hx hb hts mc_X0 tyX0 tyX0_ok nmX0 hown hK hG (ga_24 g _) rfl 3 (by decide) hw3 rfl rfl (isb_n (by decide)) (isb_f (by decide)) (Nat.le_of_ble_eq_true rfl) ((gf_1539 g _ _).trans (congrArg (g_cells g) (mk_a 0 rfl rfl))) dX8_forget_13 (fun H locs hG => ?_)
  refine lv_aload_n hx hb dX8_forget_16 rfl (lv_at hl 0 rfl) ?_
  refine gx_get (v := .ref (g.2.1 41)) (C := RX8) (T := TX8) (N := 13) hx hb hts mc_X8 hown hK hG (ga_0 g _) rfl 11 (by decide) hw4 rfl rfl dX8_forget_17 ?_
  refine lv_iconst (v := (0 : Int32)) hx hb dX8_forget_20 (by decide) ?_
  refine gx_put (σ' := (mkS σ [(1539, (0 : Int32)), (2632, (0 : Int32)), (2372, (σ.1 2372)), (1283, (0 : Int32))] [] [] [])) (C := RX3) (T := TX3) (N := 11) hx hb hts mc_X3 tyX3 tyX3_ok nmX3 hown hK hG (ga_41 g _) rfl 8 (by decide) hw5 rfl rfl (isb_n (by decide)) (isb_f (by decide)) (Nat.le_of_ble_eq_true rfl) ((gf_2632 g _ _).trans (congrArg (g_cells g) (mk_a 1 rfl rfl))) dX8_forget_21 (fun H locs hG => ?_)
  refine lv_aload_n hx hb dX8_forget_24 rfl (lv_at hl 0 rfl) ?_
  refine gx_get (v := .ref (g.2.1 37)) (C := RX8) (T := TX8) (N := 13) hx hb hts mc_X8 hown hK hG (ga_0 g _) rfl 10 (by decide) hw6 rfl rfl dX8_forget_25 ?_
  refine lv_iconst (v := (-1 : Int32)) hx hb dX8_forget_28 (by decide) ?_
  refine gx_put (σ' := (mkS σ [(1539, (0 : Int32)), (2632, (0 : Int32)), (2372, (-1 : Int32)), (1283, (0 : Int32))] [] [] [])) (C := RX4) (T := TX4) (N := 6) hx hb hts mc_X4 tyX4 tyX4_ok nmX4 hown hK hG (ga_37 g _) rfl 4 (by decide) hw7 rfl rfl rfl rfl (Nat.le_of_ble_eq_true rfl) ((gf_2372 g _ _).trans (congrArg (g_cells g) (mk_a 2 rfl rfl))) dX8_forget_29 (fun H locs hG => ?_)
  cases h
  exact gx_vret hx hb hr hlocks hG dX8_forget_32

set_option maxHeartbeats 4000000 in
set_option maxRecDepth 100000 in
theorem c_LN_back (l : Launch) (g : GC) (σ : St) (r : Int32) (w_likeness_ready : Int32) (w_now_size : Int32) (w_pairs_ready : Int32) (w_search_reach : Int32) (w_ways_ready : Int32) (w_now_near : Nat → Int32) (h : LN_back (σ.1 12) (σ.1 1539) (σ.1 641) (σ.1 2632) (σ.1 2372) (σ.1 897) (σ.1 1283) (σ.2.2.1 11) (σ.2.2.1 15) = some (r, w_likeness_ready, w_now_size, w_pairs_ready, w_search_reach, w_ways_ready, w_now_near)) : Cn l g yX8_back (Cond.code yX8_back cX8_back 1 (some .int) :: wG) 2 81 [.ref (g.2.1 0)] σ (some (.int r)) (mkS σ [(1539, w_likeness_ready), (641, w_now_size), (2632, w_pairs_ready), (2372, w_search_reach), (1283, w_ways_ready)] [] [(11, w_now_near)] []) := by
  unfold Cn
  refine Met.ofW (cc := cX8_back) (maxL := 1) (ret := (some .int)) (by decide) rfl ?_
  intro p e s m args below meth c s₁ B hml hv
  obtain ⟨hargs, hP0, hK⟩ := hv
  have hx := B.exec
  have hb := B.bytes
  have hr := B.returns
  have hts : ∀ w ∈ wG, w.before args s = true := fun w h => atoms_spec (ws := (Cond.code yX8_back cX8_back 1 (some .int) :: wG)) B.pre w (List.mem_cons_of_mem _ h)
  have hown : s.vm.findClass RX8 = some m.cls := findClass_of_methodNamed B.named
  have hlocks := B.notSynchronized
  have hS9 : CallFix p m c cX8_back 1 s args wG RX8 := ⟨hx, hb, hml, hown, hts⟩
  have hw0 := hts _ mw_2_49
  have hw1 := hts _ mw_2_38
  have hw2 := hts _ mw_2_40
  have hf9 : entryFrame m args 1 = _ := (congrArg (fun a => entryFrame m a 1) hargs).trans (lg_entry_eq m [.ref (g.2.1 0)] 1)
  show Wg p l e 2 81 s m args below meth c g (some (.int r)) (mkS σ [(1539, w_likeness_ready), (641, w_now_size), (2632, w_pairs_ready), (2372, w_search_reach), (1283, w_ways_ready)] [] [(11, w_now_near)] []) s.heap [] (entryFrame m args 1)
  rw [hf9]
  have hl := lv_entry ([.ref (g.2.1 0)]) (n := 1) (Nat.le_of_ble_eq_true rfl)
  generalize (lg_sl ([.ref (g.2.1 0)]) ++ List.replicate (1 - (lg_sl ([.ref (g.2.1 0)])).length) Slot.unset).toArray = ls at hl ⊢
  have hl : lv_has ls 1 [(0, .ref (g.2.1 0))] := hl
  have hG : GW g s σ s.heap [] := ⟨hP0, va_S.rf⟩
  have hG : GW g s (mkS σ [(1539, (σ.1 1539)), (641, (σ.1 641)), (2632, (σ.1 2632)), (2372, (σ.1 2372)), (1283, (σ.1 1283))] [] [(11, (σ.2.2.1 11))] []) s.heap [] := GW_self [1539, 641, 2632, 2372, 1283] [] [11] [] hG
  unfold LN_back at h
  refine lv_aload_n hx hb dX8_back_0 rfl (lv_at hl 0 rfl) ?_
  refine gx_get (v := .int (σ.1 12)) (C := RX8) (T := TX8) (N := 13) hx hb hts mc_X8 hown hK hG (ga_0 g _) rfl 12 (by decide) hw0 rfl rfl dX8_back_1 ?_
  refine lv_if_ne (tgt := 10) hx hb dX8_back_4 (by decide) (fun c1 => ?_) (fun c1 => ?_)
  · have h := ite_f c1 h
    refine lv_aload_n hx hb dX8_back_10 rfl (lv_at hl 0 rfl) ?_
    refine gx_get (v := .ref (g.2.1 10)) (C := RX8) (T := TX8) (N := 13) hx hb hts mc_X8 hown hK hG (ga_0 g _) rfl 1 (by decide) hw1 rfl rfl dX8_back_11 ?_
    refine lv_aload_n hx hb dX8_back_14 rfl (lv_at hl 0 rfl) ?_
    refine gx_get (v := .ref (g.2.1 14)) (C := RX8) (T := TX8) (N := 13) hx hb hts mc_X8 hown hK hG (ga_0 g _) rfl 3 (by decide) hw2 rfl rfl dX8_back_15 ?_
    obtain ⟨z2, hc3, h⟩ := bnd_some h
    refine gx_cV (σ' := (mkS σ [(1539, (σ.1 1539)), (641, z2.1), (2632, (σ.1 2632)), (2372, (σ.1 2372)), (1283, (σ.1 1283))] [] [(11, z2.2)] [])) (r := none) (rest := []) (As := [.ref (g.2.1 14)]) hS9 (c_Net_copyFrom_10_14 l g (mkS σ [(1539, (σ.1 1539)), (641, (σ.1 641)), (2632, (σ.1 2632)), (2372, (σ.1 2372)), (1283, (σ.1 1283))] [] [(11, (σ.2.2.1 11))] []) z2.1 z2.2 hc3) (mk_mk rfl rfl rfl rfl) (cwV 1 hts (gz_V mw_2_233 mw_2_234 mw_2_235 mw_1_3 mw_2_236) rfl rfl rfl hdV_X2_copyFrom ⟨Nat.le_of_ble_eq_true rfl, Nat.le_of_ble_eq_true rfl⟩) hK hG (ga_10 g _) rfl rfl rfl hl.1 rfl (Nat.le_of_ble_eq_true rfl) dX8_back_18 (fun H locs hG => ?_)
    refine W.eq (g2 := F0 m 21 ls []) rfl ?_
    refine lv_aload_n hx hb dX8_back_21 rfl (lv_at hl 0 rfl) ?_
    obtain ⟨z4, hc5, h⟩ := bnd_some h
    refine gx_cV (σ' := (mkS σ [(1539, z4.1), (641, z2.1), (2632, z4.2.1), (2372, z4.2.2.1), (1283, z4.2.2.2)] [] [(11, z2.2)] [])) (r := none) (rest := []) (As := []) hS9 (c_LN_forget l g (mkS σ [(1539, (σ.1 1539)), (641, z2.1), (2632, (σ.1 2632)), (2372, (σ.1 2372)), (1283, (σ.1 1283))] [] [(11, z2.2)] []) z4.1 z4.2.1 z4.2.2.1 z4.2.2.2 hc5) (mk_mk rfl rfl rfl rfl) (cwV 0 hts (gz_V mw_2_114 mw_2_116 ms_1_0 mw_1_1 mw_2_117) rfl rfl rfl hdV_X8_forget ⟨Nat.le_of_ble_eq_true rfl, Nat.le_of_ble_eq_true rfl⟩) hK hG (ga_0 g _) rfl rfl rfl hl.1 rfl (Nat.le_of_ble_eq_true rfl) dX8_back_22 (fun H locs hG => ?_)
    refine W.eq (g2 := F0 m 25 ls []) rfl ?_
    refine lv_iconst (v := (1 : Int32)) hx hb dX8_back_25 (by decide) ?_
    cases h
    exact gx_iret hx hb hr hlocks hG dX8_back_26
  · have h := ite_t c1 h
    refine lv_bipush (v := (-5 : Int32)) hx hb dX8_back_7 (by decide) ?_
    cases h
    exact gx_iret hx hb hr hlocks hG dX8_back_9

set_option maxHeartbeats 4000000 in
set_option maxRecDepth 100000 in
theorem c_LN_bound (l : Launch) (g : GC) (σ : St) (x1 : Int32) (x2 : Int32) (r : Int64) (h : LN_bound x1 x2 = some r) : Cn l g yX8_bound (Cond.code yX8_bound cX8_bound 8 (some .long) :: wG) 0 0 [.ref (g.2.1 0), .int x1, .int x2] σ (some (.long r)) σ := by
  unfold Cn
  refine Met.ofW (cc := cX8_bound) (maxL := 8) (ret := (some .long)) (by decide) rfl ?_
  intro p e s m args below meth c s₁ B hml hv
  obtain ⟨hargs, hP0, hK⟩ := hv
  have hx := B.exec
  have hb := B.bytes
  have hr := B.returns
  have hts : ∀ w ∈ wG, w.before args s = true := fun w h => atoms_spec (ws := (Cond.code yX8_bound cX8_bound 8 (some .long) :: wG)) B.pre w (List.mem_cons_of_mem _ h)
  have hown : s.vm.findClass RX8 = some m.cls := findClass_of_methodNamed B.named
  have hlocks := B.notSynchronized
  have hw0 := hts _ mw_3_236
  have hf9 : entryFrame m args 8 = _ := (congrArg (fun a => entryFrame m a 8) hargs).trans (lg_entry_eq m [.ref (g.2.1 0), .int x1, .int x2] 8)
  show Wg p l e 0 0 s m args below meth c g (some (.long r)) σ s.heap [] (entryFrame m args 8)
  rw [hf9]
  have hl := lv_entry ([.ref (g.2.1 0), .int x1, .int x2]) (n := 8) (Nat.le_of_ble_eq_true rfl)
  generalize (lg_sl ([.ref (g.2.1 0), .int x1, .int x2]) ++ List.replicate (8 - (lg_sl ([.ref (g.2.1 0), .int x1, .int x2])).length) Slot.unset).toArray = ls at hl ⊢
  have hl : lv_has ls 8 [(0, .ref (g.2.1 0)), (1, .int x1), (2, .int x2)] := hl
  have hG : GW g s σ s.heap [] := ⟨hP0, va_S.rf⟩
  unfold LN_bound at h
  have n22 : ∀  (H : Heap) (locs : List Loc) (ls : Array Slot), lv_has ls 8 [] → GW g s σ H locs → LN_bound_n22 = some r → Wg p l e 0 0 s m args below meth c g (some (.long r)) σ H locs (F0 m 22 ls []) := by
    intro H locs ls hl hG h
    unfold LN_bound_n22 at h
    refine lv_ldc2 hx hb hown hw0 dX8_bound_22 ?_
    cases h
    exact gx_lret hx hb hr hlocks hG dX8_bound_25
  have n61 : ∀ (x3 : Int64) (H : Heap) (locs : List Loc) (ls : Array Slot), lv_has ls 8 [(3, .long x3)] → GW g s σ H locs → LN_bound_n61 x3 = some r → Wg p l e 0 0 s m args below meth c g (some (.long r)) σ H locs (F0 m 61 ls []) := by
    intro x3 H locs ls hl hG h
    unfold LN_bound_n61 at h
    refine lv_lload_n hx hb dX8_bound_61 rfl (lv_at hl 0 rfl) ?_
    cases h
    exact gx_lret hx hb hr hlocks hG dX8_bound_62
  have n35 : ∀ (k35 : Int32 → Int32 → Int64 → Int64 → Int32 → Option (Int64)) (hk35 : ∀ (x1 : Int32) (x2 : Int32) (x3 : Int64) (x5 : Int64) (x7 : Int32) (H : Heap) (locs : List Loc) (ls : Array Slot), lv_has ls 8 [(1, .int x1), (2, .int x2), (3, .long x3), (5, .long x5), (7, .int x7)] → GW g s σ H locs → k35 x1 x2 x3 x5 x7 = some r → Wg p l e 0 0 s m args below meth c g (some (.long r)) σ H locs (F0 m 35 ls [])) (x1 : Int32) (x2 : Int32) (x3 : Int64) (x5 : Int64) (x7 : Int32) (H : Heap) (locs : List Loc) (ls : Array Slot), lv_has ls 8 [(1, .int x1), (2, .int x2), (3, .long x3), (5, .long x5), (7, .int x7)] → GW g s σ H locs → LN_bound_n35 k35 x1 x2 x3 x5 x7 = some r → Wg p l e 0 0 s m args below meth c g (some (.long r)) σ H locs (F0 m 35 ls []) := by
    intro k35 hk35 x1 x2 x3 x5 x7 H locs ls hl hG h
    unfold LN_bound_n35 at h
    refine lv_iload hx hb dX8_bound_35 (lv_at hl 4 rfl) ?_
    refine lv_iload_n hx hb dX8_bound_37 rfl (lv_at hl 1 rfl) ?_
    refine lv_icmp_gt (tgt := 61) hx hb dX8_bound_38 (by decide) (fun c1 => ?_) (fun c1 => ?_)
    · have h := ite_t c1 h
      exact n61 x3 _ _ _ (lv_sub hl [2] rfl) hG h
    · have h := ite_f c1 h
      refine lv_lload_n hx hb dX8_bound_41 rfl (lv_at hl 2 rfl) ?_
      refine lv_lload hx hb dX8_bound_42 (lv_at hl 3 rfl) ?_
      refine lv_ladd hx hb dX8_bound_44 ?_
      refine lv_lstore_n (lv' := [(3, .long (x3 + x5)), (1, .int x1), (2, .int x2), (5, .long x5), (7, .int x7)]) hx hb dX8_bound_45 rfl hl (Nat.le_of_ble_eq_true rfl) rfl (fun ls hl => ?_)
      refine lv_lload hx hb dX8_bound_46 (lv_at hl 3 rfl) ?_
      refine lv_iload_n hx hb dX8_bound_48 rfl (lv_at hl 1 rfl) ?_
      refine lv_iconst (v := (1 : Int32)) hx hb dX8_bound_49 (by decide) ?_
      refine lv_isub hx hb dX8_bound_50 ?_
      refine lv_i2l hx hb dX8_bound_51 rfl ?_
      refine lv_lmul hx hb dX8_bound_52 ?_
      refine lv_topl (fun y2 ey2 => ?_)
      have h := lt_at h ey2
      refine lv_lstore (lv' := [(5, .long y2), (3, .long (x3 + x5)), (1, .int x1), (2, .int x2), (7, .int x7)]) hx hb dX8_bound_53 hl (Nat.le_of_ble_eq_true rfl) rfl (fun ls hl => ?_)
      refine lv_iinc (v := (x7 + (1 : Int32))) (lv' := [(7, .int (x7 + (1 : Int32))), (5, .long y2), (3, .long (x3 + x5)), (1, .int x1), (2, .int x2)]) hx hb dX8_bound_55 hl (k := 4) rfl (congrArg (fun z => x7 + z) (by decide)) (Nat.le_of_ble_eq_true rfl) rfl (fun ls hl => ?_)
      refine lv_goto (tgt := 35) hx hb dX8_bound_58 (by decide) ?_
      exact hk35 x1 x2 (x3 + x5) y2 (x7 + (1 : Int32)) _ _ _ (lv_sub hl [3, 4, 2, 1, 0] rfl) hG h
  have l35 : ∀  (F : Nat) (x1 : Int32) (x2 : Int32) (x3 : Int64) (x5 : Int64) (x7 : Int32) (H : Heap) (locs : List Loc) (ls : Array Slot), lv_has ls 8 [(1, .int x1), (2, .int x2), (3, .long x3), (5, .long x5), (7, .int x7)] → GW g s σ H locs → LN_bound_l35 F x1 x2 x3 x5 x7 = some r → Wg p l e 0 0 s m args below meth c g (some (.long r)) σ H locs (F0 m 35 ls []) := by
    intro F
    induction F with
    | zero => intro x1 x2 x3 x5 x7 H locs ls hl hG h; exact no_some h
    | succ F ih => intro x1 x2 x3 x5 x7 H locs ls hl hG h; exact n35 (fun x1 x2 x3 x5 x7 => LN_bound_l35 F x1 x2 x3 x5 x7) ih x1 x2 x3 x5 x7 H locs ls hl hG h
  refine lv_iload_n hx hb dX8_bound_0 rfl (lv_at hl 1 rfl) ?_
  refine lv_iconst (v := (1 : Int32)) hx hb dX8_bound_1 (by decide) ?_
  refine lv_icmp_lt (tgt := 22) hx hb dX8_bound_2 (by decide) (fun c3 => ?_) (fun c3 => ?_)
  · have h := ite_t c3 h
    exact n22 _ _ _ (lv_sub hl [] rfl) hG h
  · have h := ite_f c3 h
    refine lv_iload_n hx hb dX8_bound_5 rfl (lv_at hl 1 rfl) ?_
    refine lv_bipush (v := (60 : Int32)) hx hb dX8_bound_6 (by decide) ?_
    refine lv_icmp_gt (tgt := 22) hx hb dX8_bound_8 (by decide) (fun c4 => ?_) (fun c4 => ?_)
    · have h := ite_t c4 h
      exact n22 _ _ _ (lv_sub hl [] rfl) hG h
    · have h := ite_f c4 h
      refine lv_iload_n hx hb dX8_bound_11 rfl (lv_at hl 2 rfl) ?_
      refine lv_iconst (v := (1 : Int32)) hx hb dX8_bound_12 (by decide) ?_
      refine lv_icmp_lt (tgt := 22) hx hb dX8_bound_13 (by decide) (fun c5 => ?_) (fun c5 => ?_)
      · have h := ite_t c5 h
        exact n22 _ _ _ (lv_sub hl [] rfl) hG h
      · have h := ite_f c5 h
        refine lv_iload_n hx hb dX8_bound_16 rfl (lv_at hl 2 rfl) ?_
        refine lv_bipush (v := (6 : Int32)) hx hb dX8_bound_17 (by decide) ?_
        refine lv_icmp_le (tgt := 26) hx hb dX8_bound_19 (by decide) (fun c6 => ?_) (fun c6 => ?_)
        · have h := ite_t c6 h
          refine lv_lconst (v := (1 : Int64)) hx hb dX8_bound_26 (by decide) ?_
          refine lv_lstore_n (lv' := [(3, .long (1 : Int64)), (0, .ref (g.2.1 0)), (1, .int x1), (2, .int x2)]) hx hb dX8_bound_27 rfl hl (Nat.le_of_ble_eq_true rfl) rfl (fun ls hl => ?_)
          refine lv_iload_n hx hb dX8_bound_28 rfl (lv_at hl 2 rfl) ?_
          refine lv_i2l hx hb dX8_bound_29 rfl ?_
          refine lv_lstore (lv' := [(5, .long (x1.toInt64)), (3, .long (1 : Int64)), (0, .ref (g.2.1 0)), (1, .int x1), (2, .int x2)]) hx hb dX8_bound_30 hl (Nat.le_of_ble_eq_true rfl) rfl (fun ls hl => ?_)
          refine lv_iconst (v := (1 : Int32)) hx hb dX8_bound_32 (by decide) ?_
          refine lv_istore (lv' := [(7, .int (1 : Int32)), (5, .long (x1.toInt64)), (3, .long (1 : Int64)), (0, .ref (g.2.1 0)), (1, .int x1), (2, .int x2)]) hx hb dX8_bound_33 hl (Nat.le_of_ble_eq_true rfl) rfl (fun ls hl => ?_)
          exact l35 FUEL x1 x2 (1 : Int64) (x1.toInt64) (1 : Int32) _ _ _ (lv_sub hl [4, 5, 2, 1, 0] rfl) hG h
        · have h := ite_f c6 h
          exact n22 _ _ _ (lv_sub hl [] rfl) hG h

set_option maxHeartbeats 4000000 in
set_option maxRecDepth 100000 in
theorem c_Mk_mayBe (l : Launch) (g : GC) (σ : St) (x0 : Int32) (x1 : Int32) (x2 : Int32) (r : Int32) (h : Mk_mayBe x0 x1 x2 = some r) : Cn l g yX1_mayBe (Cond.code yX1_mayBe cX1_mayBe 3 (some .boolean) :: wG) 0 0 [.int x0, .int x1, .int x2] σ (some (.int r)) σ := by
  unfold Cn
  refine Met.ofW (cc := cX1_mayBe) (maxL := 3) (ret := (some .boolean)) (by decide) rfl ?_
  intro p e s m args below meth c s₁ B hml hv
  obtain ⟨hargs, hP0, hK⟩ := hv
  have hx := B.exec
  have hb := B.bytes
  have hr := B.returns
  have hts : ∀ w ∈ wG, w.before args s = true := fun w h => atoms_spec (ws := (Cond.code yX1_mayBe cX1_mayBe 3 (some .boolean) :: wG)) B.pre w (List.mem_cons_of_mem _ h)
  have hown : s.vm.findClass RX1 = some m.cls := findClass_of_methodNamed B.named
  have hlocks := B.notSynchronized
  have hf9 : entryFrame m args 3 = _ := (congrArg (fun a => entryFrame m a 3) hargs).trans (lg_entry_eq m [.int x0, .int x1, .int x2] 3)
  show Wg p l e 0 0 s m args below meth c g (some (.int r)) σ s.heap [] (entryFrame m args 3)
  rw [hf9]
  have hl := lv_entry ([.int x0, .int x1, .int x2]) (n := 3) (Nat.le_of_ble_eq_true rfl)
  generalize (lg_sl ([.int x0, .int x1, .int x2]) ++ List.replicate (3 - (lg_sl ([.int x0, .int x1, .int x2])).length) Slot.unset).toArray = ls at hl ⊢
  have hl : lv_has ls 3 [(0, .int x0), (1, .int x1), (2, .int x2)] := hl
  have hG : GW g s σ s.heap [] := ⟨hP0, va_S.rf⟩
  unfold Mk_mayBe at h
  have n50 : ∀ (t0 : Int32) (H : Heap) (locs : List Loc) (ls : Array Slot), lv_has ls 3 [] → GW g s σ H locs → Mk_mayBe_n50 t0 = some r → Wg p l e 0 0 s m args below meth c g (some (.int r)) σ H locs (F0 m 50 ls [.int t0]) := by
    intro t0 H locs ls hl hG h
    unfold Mk_mayBe_n50 at h
    obtain ⟨hg1, h⟩ := gd_some h
    cases h
    exact gx_zret hx hb hr hlocks hg1 hG dX1_mayBe_50
  have n61 : ∀ (t0 : Int32) (H : Heap) (locs : List Loc) (ls : Array Slot), lv_has ls 3 [] → GW g s σ H locs → Mk_mayBe_n61 t0 = some r → Wg p l e 0 0 s m args below meth c g (some (.int r)) σ H locs (F0 m 61 ls [.int t0]) := by
    intro t0 H locs ls hl hG h
    unfold Mk_mayBe_n61 at h
    obtain ⟨hg2, h⟩ := gd_some h
    cases h
    exact gx_zret hx hb hr hlocks hg2 hG dX1_mayBe_61
  have n77 : ∀ (t0 : Int32) (H : Heap) (locs : List Loc) (ls : Array Slot), lv_has ls 3 [] → GW g s σ H locs → Mk_mayBe_n77 t0 = some r → Wg p l e 0 0 s m args below meth c g (some (.int r)) σ H locs (F0 m 77 ls [.int t0]) := by
    intro t0 H locs ls hl hG h
    unfold Mk_mayBe_n77 at h
    obtain ⟨hg3, h⟩ := gd_some h
    cases h
    exact gx_zret hx hb hr hlocks hg3 hG dX1_mayBe_77
  have n76 : ∀  (H : Heap) (locs : List Loc) (ls : Array Slot), lv_has ls 3 [] → GW g s σ H locs → Mk_mayBe_n76 = some r → Wg p l e 0 0 s m args below meth c g (some (.int r)) σ H locs (F0 m 76 ls []) := by
    intro H locs ls hl hG h
    unfold Mk_mayBe_n76 at h
    refine lv_iconst (v := (0 : Int32)) hx hb dX1_mayBe_76 (by decide) ?_
    exact n77 (0 : Int32) _ _ _ (lv_sub hl [] rfl) hG h
  have n93 : ∀ (t0 : Int32) (H : Heap) (locs : List Loc) (ls : Array Slot), lv_has ls 3 [] → GW g s σ H locs → Mk_mayBe_n93 t0 = some r → Wg p l e 0 0 s m args below meth c g (some (.int r)) σ H locs (F0 m 93 ls [.int t0]) := by
    intro t0 H locs ls hl hG h
    unfold Mk_mayBe_n93 at h
    obtain ⟨hg4, h⟩ := gd_some h
    cases h
    exact gx_zret hx hb hr hlocks hg4 hG dX1_mayBe_93
  have n92 : ∀  (H : Heap) (locs : List Loc) (ls : Array Slot), lv_has ls 3 [] → GW g s σ H locs → Mk_mayBe_n92 = some r → Wg p l e 0 0 s m args below meth c g (some (.int r)) σ H locs (F0 m 92 ls []) := by
    intro H locs ls hl hG h
    unfold Mk_mayBe_n92 at h
    refine lv_iconst (v := (0 : Int32)) hx hb dX1_mayBe_92 (by decide) ?_
    exact n93 (0 : Int32) _ _ _ (lv_sub hl [] rfl) hG h
  have n78 : ∀ (x1 : Int32) (x2 : Int32) (H : Heap) (locs : List Loc) (ls : Array Slot), lv_has ls 3 [(1, .int x1), (2, .int x2)] → GW g s σ H locs → Mk_mayBe_n78 x1 x2 = some r → Wg p l e 0 0 s m args below meth c g (some (.int r)) σ H locs (F0 m 78 ls []) := by
    intro x1 x2 H locs ls hl hG h
    unfold Mk_mayBe_n78 at h
    refine lv_iload_n hx hb dX1_mayBe_78 rfl (lv_at hl 1 rfl) ?_
    refine lv_iconst (v := (1 : Int32)) hx hb dX1_mayBe_79 (by decide) ?_
    refine lv_icmp_lt (tgt := 92) hx hb dX1_mayBe_80 (by decide) (fun c5 => ?_) (fun c5 => ?_)
    · have h := ite_t c5 h
      exact n92 _ _ _ (lv_sub hl [] rfl) hG h
    · have h := ite_f c5 h
      refine lv_iload_n hx hb dX1_mayBe_83 rfl (lv_at hl 1 rfl) ?_
      refine lv_iload_n hx hb dX1_mayBe_84 rfl (lv_at hl 0 rfl) ?_
      refine lv_icmp_ge (tgt := 92) hx hb dX1_mayBe_85 (by decide) (fun c6 => ?_) (fun c6 => ?_)
      · have h := ite_t c6 h
        exact n92 _ _ _ (lv_sub hl [] rfl) hG h
      · have h := ite_f c6 h
        refine lv_iconst (v := (1 : Int32)) hx hb dX1_mayBe_88 (by decide) ?_
        refine lv_goto (tgt := 93) hx hb dX1_mayBe_89 (by decide) ?_
        exact n93 (1 : Int32) _ _ _ (lv_sub hl [] rfl) hG h
  have n109 : ∀ (t0 : Int32) (H : Heap) (locs : List Loc) (ls : Array Slot), lv_has ls 3 [] → GW g s σ H locs → Mk_mayBe_n109 t0 = some r → Wg p l e 0 0 s m args below meth c g (some (.int r)) σ H locs (F0 m 109 ls [.int t0]) := by
    intro t0 H locs ls hl hG h
    unfold Mk_mayBe_n109 at h
    obtain ⟨hg7, h⟩ := gd_some h
    cases h
    exact gx_zret hx hb hr hlocks hg7 hG dX1_mayBe_109
  have n108 : ∀  (H : Heap) (locs : List Loc) (ls : Array Slot), lv_has ls 3 [] → GW g s σ H locs → Mk_mayBe_n108 = some r → Wg p l e 0 0 s m args below meth c g (some (.int r)) σ H locs (F0 m 108 ls []) := by
    intro H locs ls hl hG h
    unfold Mk_mayBe_n108 at h
    refine lv_iconst (v := (0 : Int32)) hx hb dX1_mayBe_108 (by decide) ?_
    exact n109 (0 : Int32) _ _ _ (lv_sub hl [] rfl) hG h
  refine lv_iload_n hx hb dX1_mayBe_0 rfl (lv_at hl 0 rfl) ?_
  by_cases c8 : x0 = (0 : Int32)
  · have h := ite_t c8 h
    refine lv_tableIn (off := 39) (tgt := 40) hx hb dX1_mayBe_1 (by rw [c8]; decide) (by rw [c8]; decide) (by rw [c8]; rfl) (by decide) ?_
    refine lv_iload_n hx hb dX1_mayBe_40 rfl (lv_at hl 1 rfl) ?_
    refine lv_iconst (v := (3 : Int32)) hx hb dX1_mayBe_41 (by decide) ?_
    refine lv_icmp_lt (tgt := 49) hx hb dX1_mayBe_42 (by decide) (fun c9 => ?_) (fun c9 => ?_)
    · have h := ite_t c9 h
      refine lv_iconst (v := (0 : Int32)) hx hb dX1_mayBe_49 (by decide) ?_
      exact n50 (0 : Int32) _ _ _ (lv_sub hl [] rfl) hG h
    · have h := ite_f c9 h
      refine lv_iconst (v := (1 : Int32)) hx hb dX1_mayBe_45 (by decide) ?_
      refine lv_goto (tgt := 50) hx hb dX1_mayBe_46 (by decide) ?_
      exact n50 (1 : Int32) _ _ _ (lv_sub hl [] rfl) hG h
  · have h := ite_f c8 h
    by_cases c10 : x0 = (1 : Int32)
    · have h := ite_t c10 h
      refine lv_tableIn (off := 50) (tgt := 51) hx hb dX1_mayBe_1 (by rw [c10]; decide) (by rw [c10]; decide) (by rw [c10]; rfl) (by decide) ?_
      refine lv_iload_n hx hb dX1_mayBe_51 rfl (lv_at hl 1 rfl) ?_
      refine lv_iconst (v := (1 : Int32)) hx hb dX1_mayBe_52 (by decide) ?_
      refine lv_icmp_lt (tgt := 60) hx hb dX1_mayBe_53 (by decide) (fun c11 => ?_) (fun c11 => ?_)
      · have h := ite_t c11 h
        refine lv_iconst (v := (0 : Int32)) hx hb dX1_mayBe_60 (by decide) ?_
        exact n61 (0 : Int32) _ _ _ (lv_sub hl [] rfl) hG h
      · have h := ite_f c11 h
        refine lv_iconst (v := (1 : Int32)) hx hb dX1_mayBe_56 (by decide) ?_
        refine lv_goto (tgt := 61) hx hb dX1_mayBe_57 (by decide) ?_
        exact n61 (1 : Int32) _ _ _ (lv_sub hl [] rfl) hG h
    · have h := ite_f c10 h
      by_cases c12 : x0 = (2 : Int32)
      · have h := ite_t c12 h
        refine lv_tableIn (off := 61) (tgt := 62) hx hb dX1_mayBe_1 (by rw [c12]; decide) (by rw [c12]; decide) (by rw [c12]; rfl) (by decide) ?_
        refine lv_iload_n hx hb dX1_mayBe_62 rfl (lv_at hl 1 rfl) ?_
        refine lv_iconst (v := (2 : Int32)) hx hb dX1_mayBe_63 (by decide) ?_
        refine lv_icmp_lt (tgt := 76) hx hb dX1_mayBe_64 (by decide) (fun c13 => ?_) (fun c13 => ?_)
        · have h := ite_t c13 h
          exact n76 _ _ _ (lv_sub hl [] rfl) hG h
        · have h := ite_f c13 h
          refine lv_iload_n hx hb dX1_mayBe_67 rfl (lv_at hl 2 rfl) ?_
          refine lv_iconst (v := (1 : Int32)) hx hb dX1_mayBe_68 (by decide) ?_
          refine lv_icmp_lt (tgt := 76) hx hb dX1_mayBe_69 (by decide) (fun c14 => ?_) (fun c14 => ?_)
          · have h := ite_t c14 h
            exact n76 _ _ _ (lv_sub hl [] rfl) hG h
          · have h := ite_f c14 h
            refine lv_iconst (v := (1 : Int32)) hx hb dX1_mayBe_72 (by decide) ?_
            refine lv_goto (tgt := 77) hx hb dX1_mayBe_73 (by decide) ?_
            exact n77 (1 : Int32) _ _ _ (lv_sub hl [] rfl) hG h
      · have h := ite_f c12 h
        by_cases c15 : x0 = (3 : Int32)
        · have h := ite_t c15 h
          refine lv_tableIn (off := 77) (tgt := 78) hx hb dX1_mayBe_1 (by rw [c15]; decide) (by rw [c15]; decide) (by rw [c15]; rfl) (by decide) ?_
          exact n78 x1 x2 _ _ _ (lv_sub hl [1, 2] rfl) hG h
        · have h := ite_f c15 h
          by_cases c16 : x0 = (4 : Int32)
          · have h := ite_t c16 h
            refine lv_tableIn (off := 77) (tgt := 78) hx hb dX1_mayBe_1 (by rw [c16]; decide) (by rw [c16]; decide) (by rw [c16]; rfl) (by decide) ?_
            exact n78 x1 x2 _ _ _ (lv_sub hl [1, 2] rfl) hG h
          · have h := ite_f c16 h
            by_cases c17 : x0 = (5 : Int32)
            · have h := ite_t c17 h
              refine lv_tableIn (off := 93) (tgt := 94) hx hb dX1_mayBe_1 (by rw [c17]; decide) (by rw [c17]; decide) (by rw [c17]; rfl) (by decide) ?_
              refine lv_iload_n hx hb dX1_mayBe_94 rfl (lv_at hl 1 rfl) ?_
              refine lv_iconst (v := (1 : Int32)) hx hb dX1_mayBe_95 (by decide) ?_
              refine lv_icmp_lt (tgt := 108) hx hb dX1_mayBe_96 (by decide) (fun c18 => ?_) (fun c18 => ?_)
              · have h := ite_t c18 h
                exact n108 _ _ _ (lv_sub hl [] rfl) hG h
              · have h := ite_f c18 h
                refine lv_iload_n hx hb dX1_mayBe_99 rfl (lv_at hl 2 rfl) ?_
                refine lv_iconst (v := (1 : Int32)) hx hb dX1_mayBe_100 (by decide) ?_
                refine lv_icmp_lt (tgt := 108) hx hb dX1_mayBe_101 (by decide) (fun c19 => ?_) (fun c19 => ?_)
                · have h := ite_t c19 h
                  exact n108 _ _ _ (lv_sub hl [] rfl) hG h
                · have h := ite_f c19 h
                  refine lv_iconst (v := (1 : Int32)) hx hb dX1_mayBe_104 (by decide) ?_
                  refine lv_goto (tgt := 109) hx hb dX1_mayBe_105 (by decide) ?_
                  exact n109 (1 : Int32) _ _ _ (lv_sub hl [] rfl) hG h
            · have h := ite_f c17 h
              refine lv_tableOut (tgt := 110) hx hb dX1_mayBe_1 (sw_out (fun q h1 h2 => ?_)) (by decide) ?_
              · rcases (show q = 0 ∨ q = 1 ∨ q = 2 ∨ q = 3 ∨ q = 4 ∨ q = 5 by omega) with rfl | rfl | rfl | rfl | rfl | rfl
                · exact lv_neT c8 (by decide)
                · exact lv_neT c10 (by decide)
                · exact lv_neT c12 (by decide)
                · exact lv_neT c15 (by decide)
                · exact lv_neT c16 (by decide)
                · exact lv_neT c17 (by decide)
              refine lv_iconst (v := (0 : Int32)) hx hb dX1_mayBe_110 (by decide) ?_
              cases h
              exact gx_zret hx hb hr hlocks (by decide) hG dX1_mayBe_111

set_option maxHeartbeats 4000000 in
set_option maxRecDepth 100000 in
theorem c_Mk_countSets (l : Launch) (g : GC) (σ : St) (x0 : Int32) (x1 : Int32) (r : Int64) (h : Mk_countSets x0 x1 = some r) : Cn l g yX1_countSets (Cond.code yX1_countSets cX1_countSets 5 (some .long) :: wG) 0 0 [.int x0, .int x1] σ (some (.long r)) σ := by
  unfold Cn
  refine Met.ofW (cc := cX1_countSets) (maxL := 5) (ret := (some .long)) (by decide) rfl ?_
  intro p e s m args below meth c s₁ B hml hv
  obtain ⟨hargs, hP0, hK⟩ := hv
  have hx := B.exec
  have hb := B.bytes
  have hr := B.returns
  have hts : ∀ w ∈ wG, w.before args s = true := fun w h => atoms_spec (ws := (Cond.code yX1_countSets cX1_countSets 5 (some .long) :: wG)) B.pre w (List.mem_cons_of_mem _ h)
  have hown : s.vm.findClass RX1 = some m.cls := findClass_of_methodNamed B.named
  have hlocks := B.notSynchronized
  have hf9 : entryFrame m args 5 = _ := (congrArg (fun a => entryFrame m a 5) hargs).trans (lg_entry_eq m [.int x0, .int x1] 5)
  show Wg p l e 0 0 s m args below meth c g (some (.long r)) σ s.heap [] (entryFrame m args 5)
  rw [hf9]
  have hl := lv_entry ([.int x0, .int x1]) (n := 5) (Nat.le_of_ble_eq_true rfl)
  generalize (lg_sl ([.int x0, .int x1]) ++ List.replicate (5 - (lg_sl ([.int x0, .int x1])).length) Slot.unset).toArray = ls at hl ⊢
  have hl : lv_has ls 5 [(0, .int x0), (1, .int x1)] := hl
  have hG : GW g s σ s.heap [] := ⟨hP0, va_S.rf⟩
  unfold Mk_countSets at h
  have n40 : ∀ (x2 : Int64) (H : Heap) (locs : List Loc) (ls : Array Slot), lv_has ls 5 [(2, .long x2)] → GW g s σ H locs → Mk_countSets_n40 x2 = some r → Wg p l e 0 0 s m args below meth c g (some (.long r)) σ H locs (F0 m 40 ls []) := by
    intro x2 H locs ls hl hG h
    unfold Mk_countSets_n40 at h
    refine lv_lload_n hx hb dX1_countSets_40 rfl (lv_at hl 0 rfl) ?_
    cases h
    exact gx_lret hx hb hr hlocks hG dX1_countSets_41
  have n14 : ∀ (k14 : Int32 → Int32 → Int64 → Int32 → Option (Int64)) (hk14 : ∀ (x0 : Int32) (x1 : Int32) (x2 : Int64) (x4 : Int32) (H : Heap) (locs : List Loc) (ls : Array Slot), lv_has ls 5 [(0, .int x0), (1, .int x1), (2, .long x2), (4, .int x4)] → GW g s σ H locs → k14 x0 x1 x2 x4 = some r → Wg p l e 0 0 s m args below meth c g (some (.long r)) σ H locs (F0 m 14 ls [])) (x0 : Int32) (x1 : Int32) (x2 : Int64) (x4 : Int32) (H : Heap) (locs : List Loc) (ls : Array Slot), lv_has ls 5 [(0, .int x0), (1, .int x1), (2, .long x2), (4, .int x4)] → GW g s σ H locs → Mk_countSets_n14 k14 x0 x1 x2 x4 = some r → Wg p l e 0 0 s m args below meth c g (some (.long r)) σ H locs (F0 m 14 ls []) := by
    intro k14 hk14 x0 x1 x2 x4 H locs ls hl hG h
    unfold Mk_countSets_n14 at h
    refine lv_iload hx hb dX1_countSets_14 (lv_at hl 3 rfl) ?_
    refine lv_iload_n hx hb dX1_countSets_16 rfl (lv_at hl 1 rfl) ?_
    refine lv_icmp_gt (tgt := 40) hx hb dX1_countSets_17 (by decide) (fun c1 => ?_) (fun c1 => ?_)
    · have h := ite_t c1 h
      exact n40 x2 _ _ _ (lv_sub hl [2] rfl) hG h
    · have h := ite_f c1 h
      refine lv_lload_n hx hb dX1_countSets_20 rfl (lv_at hl 2 rfl) ?_
      refine lv_iload_n hx hb dX1_countSets_21 rfl (lv_at hl 0 rfl) ?_
      refine lv_iload_n hx hb dX1_countSets_22 rfl (lv_at hl 1 rfl) ?_
      refine lv_isub hx hb dX1_countSets_23 ?_
      refine lv_iload hx hb dX1_countSets_24 (lv_at hl 3 rfl) ?_
      refine lv_iadd hx hb dX1_countSets_26 ?_
      refine lv_i2l hx hb dX1_countSets_27 rfl ?_
      refine lv_lmul hx hb dX1_countSets_28 ?_
      refine lv_iload hx hb dX1_countSets_29 (lv_at hl 3 rfl) ?_
      refine lv_i2l hx hb dX1_countSets_31 rfl ?_
      obtain ⟨hg2, h⟩ := gd_some h
      refine lv_ldiv hx hb dX1_countSets_32 (nzL_ne hg2) ?_
      refine lv_topl (fun y3 ey3 => ?_)
      have h := lt_at h ey3
      refine lv_lstore_n (lv' := [(2, .long y3), (0, .int x0), (1, .int x1), (4, .int x4)]) hx hb dX1_countSets_33 rfl hl (Nat.le_of_ble_eq_true rfl) rfl (fun ls hl => ?_)
      refine lv_iinc (v := (x4 + (1 : Int32))) (lv' := [(4, .int (x4 + (1 : Int32))), (2, .long y3), (0, .int x0), (1, .int x1)]) hx hb dX1_countSets_34 hl (k := 3) rfl (congrArg (fun z => x4 + z) (by decide)) (Nat.le_of_ble_eq_true rfl) rfl (fun ls hl => ?_)
      refine lv_goto (tgt := 14) hx hb dX1_countSets_37 (by decide) ?_
      exact hk14 x0 x1 y3 (x4 + (1 : Int32)) _ _ _ (lv_sub hl [2, 3, 1, 0] rfl) hG h
  have l14 : ∀  (F : Nat) (x0 : Int32) (x1 : Int32) (x2 : Int64) (x4 : Int32) (H : Heap) (locs : List Loc) (ls : Array Slot), lv_has ls 5 [(0, .int x0), (1, .int x1), (2, .long x2), (4, .int x4)] → GW g s σ H locs → Mk_countSets_l14 F x0 x1 x2 x4 = some r → Wg p l e 0 0 s m args below meth c g (some (.long r)) σ H locs (F0 m 14 ls []) := by
    intro F
    induction F with
    | zero => intro x0 x1 x2 x4 H locs ls hl hG h; exact no_some h
    | succ F ih => intro x0 x1 x2 x4 H locs ls hl hG h; exact n14 (fun x0 x1 x2 x4 => Mk_countSets_l14 F x0 x1 x2 x4) ih x0 x1 x2 x4 H locs ls hl hG h
  refine lv_iload_n hx hb dX1_countSets_0 rfl (lv_at hl 0 rfl) ?_
  refine lv_bipush (v := (32 : Int32)) hx hb dX1_countSets_1 (by decide) ?_
  refine lv_icmp_le (tgt := 9) hx hb dX1_countSets_3 (by decide) (fun c4 => ?_) (fun c4 => ?_)
  · have h := ite_t c4 h
    refine lv_lconst (v := (1 : Int64)) hx hb dX1_countSets_9 (by decide) ?_
    refine lv_lstore_n (lv' := [(2, .long (1 : Int64)), (0, .int x0), (1, .int x1)]) hx hb dX1_countSets_10 rfl hl (Nat.le_of_ble_eq_true rfl) rfl (fun ls hl => ?_)
    refine lv_iconst (v := (1 : Int32)) hx hb dX1_countSets_11 (by decide) ?_
    refine lv_istore (lv' := [(4, .int (1 : Int32)), (2, .long (1 : Int64)), (0, .int x0), (1, .int x1)]) hx hb dX1_countSets_12 hl (Nat.le_of_ble_eq_true rfl) rfl (fun ls hl => ?_)
    exact l14 FUEL x0 x1 (1 : Int64) (1 : Int32) _ _ _ (lv_sub hl [2, 3, 1, 0] rfl) hG h
  · have h := ite_f c4 h
    refine lv_iload_n hx hb dX1_countSets_6 rfl (lv_at hl 0 rfl) ?_
    refine lv_i2l hx hb dX1_countSets_7 rfl ?_
    cases h
    exact gx_lret hx hb hr hlocks hG dX1_countSets_8

set_option maxHeartbeats 4000000 in
set_option maxRecDepth 100000 in
theorem c_Mk_countWords (l : Launch) (g : GC) (σ : St) (x0 : Int32) (x1 : Int32) (r : Int64) (h : Mk_countWords x0 x1 = some r) : Cn l g yX1_countWords (Cond.code yX1_countWords cX1_countWords 5 (some .long) :: wG) 0 0 [.int x0, .int x1] σ (some (.long r)) σ := by
  unfold Cn
  refine Met.ofW (cc := cX1_countWords) (maxL := 5) (ret := (some .long)) (by decide) rfl ?_
  intro p e s m args below meth c s₁ B hml hv
  obtain ⟨hargs, hP0, hK⟩ := hv
  have hx := B.exec
  have hb := B.bytes
  have hr := B.returns
  have hts : ∀ w ∈ wG, w.before args s = true := fun w h => atoms_spec (ws := (Cond.code yX1_countWords cX1_countWords 5 (some .long) :: wG)) B.pre w (List.mem_cons_of_mem _ h)
  have hown : s.vm.findClass RX1 = some m.cls := findClass_of_methodNamed B.named
  have hlocks := B.notSynchronized
  have hw0 := hts _ mw_2_191
  have hf9 : entryFrame m args 5 = _ := (congrArg (fun a => entryFrame m a 5) hargs).trans (lg_entry_eq m [.int x0, .int x1] 5)
  show Wg p l e 0 0 s m args below meth c g (some (.long r)) σ s.heap [] (entryFrame m args 5)
  rw [hf9]
  have hl := lv_entry ([.int x0, .int x1]) (n := 5) (Nat.le_of_ble_eq_true rfl)
  generalize (lg_sl ([.int x0, .int x1]) ++ List.replicate (5 - (lg_sl ([.int x0, .int x1])).length) Slot.unset).toArray = ls at hl ⊢
  have hl : lv_has ls 5 [(0, .int x0), (1, .int x1)] := hl
  have hG : GW g s σ s.heap [] := ⟨hP0, va_S.rf⟩
  unfold Mk_countWords at h
  have n30 : ∀ (x2 : Int64) (H : Heap) (locs : List Loc) (ls : Array Slot), lv_has ls 5 [(2, .long x2)] → GW g s σ H locs → Mk_countWords_n30 x2 = some r → Wg p l e 0 0 s m args below meth c g (some (.long r)) σ H locs (F0 m 30 ls []) := by
    intro x2 H locs ls hl hG h
    unfold Mk_countWords_n30 at h
    refine lv_lload_n hx hb dX1_countWords_30 rfl (lv_at hl 0 rfl) ?_
    cases h
    exact gx_lret hx hb hr hlocks hG dX1_countWords_31
  have n5 : ∀ (k5 : Int32 → Int32 → Int64 → Int32 → Option (Int64)) (hk5 : ∀ (x0 : Int32) (x1 : Int32) (x2 : Int64) (x4 : Int32) (H : Heap) (locs : List Loc) (ls : Array Slot), lv_has ls 5 [(0, .int x0), (1, .int x1), (2, .long x2), (4, .int x4)] → GW g s σ H locs → k5 x0 x1 x2 x4 = some r → Wg p l e 0 0 s m args below meth c g (some (.long r)) σ H locs (F0 m 5 ls [])) (x0 : Int32) (x1 : Int32) (x2 : Int64) (x4 : Int32) (H : Heap) (locs : List Loc) (ls : Array Slot), lv_has ls 5 [(0, .int x0), (1, .int x1), (2, .long x2), (4, .int x4)] → GW g s σ H locs → Mk_countWords_n5 k5 x0 x1 x2 x4 = some r → Wg p l e 0 0 s m args below meth c g (some (.long r)) σ H locs (F0 m 5 ls []) := by
    intro k5 hk5 x0 x1 x2 x4 H locs ls hl hG h
    unfold Mk_countWords_n5 at h
    refine lv_iload hx hb dX1_countWords_5 (lv_at hl 3 rfl) ?_
    refine lv_iload_n hx hb dX1_countWords_7 rfl (lv_at hl 1 rfl) ?_
    refine lv_icmp_ge (tgt := 30) hx hb dX1_countWords_8 (by decide) (fun c1 => ?_) (fun c1 => ?_)
    · have h := ite_t c1 h
      exact n30 x2 _ _ _ (lv_sub hl [2] rfl) hG h
    · have h := ite_f c1 h
      refine lv_lload_n hx hb dX1_countWords_11 rfl (lv_at hl 2 rfl) ?_
      refine lv_ldc2 hx hb hown hw0 dX1_countWords_12 ?_
      refine W.lcmp hx hb dX1_countWords_15 ?_
      refine lv_if_gt (tgt := 30) hx hb dX1_countWords_16 (by decide) (fun c2 => ?_) (fun c2 => ?_)
      · have h := ite_t c2 h
        exact n30 x2 _ _ _ (lv_sub hl [2] rfl) hG h
      · have h := ite_f c2 h
        refine lv_lload_n hx hb dX1_countWords_19 rfl (lv_at hl 2 rfl) ?_
        refine lv_iload_n hx hb dX1_countWords_20 rfl (lv_at hl 0 rfl) ?_
        refine lv_i2l hx hb dX1_countWords_21 rfl ?_
        refine lv_lmul hx hb dX1_countWords_22 ?_
        refine lv_lstore_n (lv' := [(2, .long (x2 * (x0.toInt64))), (0, .int x0), (1, .int x1), (4, .int x4)]) hx hb dX1_countWords_23 rfl hl (Nat.le_of_ble_eq_true rfl) rfl (fun ls hl => ?_)
        refine lv_iinc (v := (x4 + (1 : Int32))) (lv' := [(4, .int (x4 + (1 : Int32))), (2, .long (x2 * (x0.toInt64))), (0, .int x0), (1, .int x1)]) hx hb dX1_countWords_24 hl (k := 3) rfl (congrArg (fun z => x4 + z) (by decide)) (Nat.le_of_ble_eq_true rfl) rfl (fun ls hl => ?_)
        refine lv_goto (tgt := 5) hx hb dX1_countWords_27 (by decide) ?_
        exact hk5 x0 x1 (x2 * (x0.toInt64)) (x4 + (1 : Int32)) _ _ _ (lv_sub hl [2, 3, 1, 0] rfl) hG h
  have l5 : ∀  (F : Nat) (x0 : Int32) (x1 : Int32) (x2 : Int64) (x4 : Int32) (H : Heap) (locs : List Loc) (ls : Array Slot), lv_has ls 5 [(0, .int x0), (1, .int x1), (2, .long x2), (4, .int x4)] → GW g s σ H locs → Mk_countWords_l5 F x0 x1 x2 x4 = some r → Wg p l e 0 0 s m args below meth c g (some (.long r)) σ H locs (F0 m 5 ls []) := by
    intro F
    induction F with
    | zero => intro x0 x1 x2 x4 H locs ls hl hG h; exact no_some h
    | succ F ih => intro x0 x1 x2 x4 H locs ls hl hG h; exact n5 (fun x0 x1 x2 x4 => Mk_countWords_l5 F x0 x1 x2 x4) ih x0 x1 x2 x4 H locs ls hl hG h
  refine lv_lconst (v := (1 : Int64)) hx hb dX1_countWords_0 (by decide) ?_
  refine lv_lstore_n (lv' := [(2, .long (1 : Int64)), (0, .int x0), (1, .int x1)]) hx hb dX1_countWords_1 rfl hl (Nat.le_of_ble_eq_true rfl) rfl (fun ls hl => ?_)
  refine lv_iconst (v := (0 : Int32)) hx hb dX1_countWords_2 (by decide) ?_
  refine lv_istore (lv' := [(4, .int (0 : Int32)), (2, .long (1 : Int64)), (0, .int x0), (1, .int x1)]) hx hb dX1_countWords_3 hl (Nat.le_of_ble_eq_true rfl) rfl (fun ls hl => ?_)
  exact l5 FUEL x0 x1 (1 : Int64) (0 : Int32) _ _ _ (lv_sub hl [2, 3, 1, 0] rfl) hG h

set_option maxHeartbeats 4000000 in
set_option maxRecDepth 100000 in
theorem c_Mk_size (l : Launch) (g : GC) (σ : St) (x0 : Int32) (x1 : Int32) (x2 : Int32) (r : Int64) (h : Mk_size x0 x1 x2 = some r) : Cn l g yX1_size (Cond.code yX1_size cX1_size 3 (some .long) :: wG) 1 24 [.int x0, .int x1, .int x2] σ (some (.long r)) σ := by
  unfold Cn
  refine Met.ofW (cc := cX1_size) (maxL := 3) (ret := (some .long)) (by decide) rfl ?_
  intro p e s m args below meth c s₁ B hml hv
  obtain ⟨hargs, hP0, hK⟩ := hv
  have hx := B.exec
  have hb := B.bytes
  have hr := B.returns
  have hts : ∀ w ∈ wG, w.before args s = true := fun w h => atoms_spec (ws := (Cond.code yX1_size cX1_size 3 (some .long) :: wG)) B.pre w (List.mem_cons_of_mem _ h)
  have hown : s.vm.findClass RX1 = some m.cls := findClass_of_methodNamed B.named
  have hlocks := B.notSynchronized
  have hS9 : CallFix p m c cX1_size 3 s args wG RX1 := ⟨hx, hb, hml, hown, hts⟩
  have hf9 : entryFrame m args 3 = _ := (congrArg (fun a => entryFrame m a 3) hargs).trans (lg_entry_eq m [.int x0, .int x1, .int x2] 3)
  show Wg p l e 1 24 s m args below meth c g (some (.long r)) σ s.heap [] (entryFrame m args 3)
  rw [hf9]
  have hl := lv_entry ([.int x0, .int x1, .int x2]) (n := 3) (Nat.le_of_ble_eq_true rfl)
  generalize (lg_sl ([.int x0, .int x1, .int x2]) ++ List.replicate (3 - (lg_sl ([.int x0, .int x1, .int x2])).length) Slot.unset).toArray = ls at hl ⊢
  have hl : lv_has ls 3 [(0, .int x0), (1, .int x1), (2, .int x2)] := hl
  have hG : GW g s σ s.heap [] := ⟨hP0, va_S.rf⟩
  unfold Mk_size at h
  have n38 : ∀ (x1 : Int32) (x2 : Int32) (H : Heap) (locs : List Loc) (ls : Array Slot), lv_has ls 3 [(1, .int x1), (2, .int x2)] → GW g s σ H locs → Mk_size_n38 x1 x2 = some r → Wg p l e 1 24 s m args below meth c g (some (.long r)) σ H locs (F0 m 38 ls []) := by
    intro x1 x2 H locs ls hl hG h
    unfold Mk_size_n38 at h
    refine lv_iload_n hx hb dX1_size_38 rfl (lv_at hl 0 rfl) ?_
    refine lv_iload_n hx hb dX1_size_39 rfl (lv_at hl 1 rfl) ?_
    obtain ⟨z1, hc2, h⟩ := bnd_some h
    refine gx_cS (σ' := σ) (r := (some (.long z1))) (rest := []) (As := [.int x1, .int x2]) hS9 (c_Mk_countSets l g σ x1 x2 z1 hc2) rfl (va_cwS 2 hts (gz_S mw_2_192 mw_2_193 mw_1_4 mw_2_194) rfl rfl rfl hdS_X1_countSets ⟨Nat.le_of_ble_eq_true rfl, Nat.le_of_ble_eq_true rfl⟩) hK hG rfl hl.1 rfl (Nat.le_of_ble_eq_true rfl) dX1_size_40 (fun H locs hG => ?_)
    refine W.eq (g2 := F0 m 43 ls [.long z1]) rfl ?_
    cases h
    exact gx_lret hx hb hr hlocks hG dX1_size_43
  refine lv_iload_n hx hb dX1_size_0 rfl (lv_at hl 0 rfl) ?_
  by_cases c3 : x0 = (2 : Int32)
  · have h := ite_t c3 h
    refine lv_tableIn (off := 31) (tgt := 32) hx hb dX1_size_1 (by rw [c3]; decide) (by rw [c3]; decide) (by rw [c3]; rfl) (by decide) ?_
    refine lv_iload_n hx hb dX1_size_32 rfl (lv_at hl 1 rfl) ?_
    refine lv_iload_n hx hb dX1_size_33 rfl (lv_at hl 2 rfl) ?_
    obtain ⟨z4, hc5, h⟩ := bnd_some h
    refine gx_cS (σ' := σ) (r := (some (.long z4))) (rest := []) (As := [.int x1, .int x2]) hS9 (c_Mk_countWords l g σ x1 x2 z4 hc5) rfl (va_cwS 2 hts (gz_S mw_2_188 mw_2_189 mw_1_4 mw_2_190) rfl rfl rfl hdS_X1_countWords ⟨Nat.le_of_ble_eq_true rfl, Nat.le_of_ble_eq_true rfl⟩) hK hG rfl hl.1 rfl (Nat.le_of_ble_eq_true rfl) dX1_size_34 (fun H locs hG => ?_)
    refine W.eq (g2 := F0 m 37 ls [.long z4]) rfl ?_
    cases h
    exact gx_lret hx hb hr hlocks hG dX1_size_37
  · have h := ite_f c3 h
    by_cases c6 : x0 = (3 : Int32)
    · have h := ite_t c6 h
      refine lv_tableIn (off := 37) (tgt := 38) hx hb dX1_size_1 (by rw [c6]; decide) (by rw [c6]; decide) (by rw [c6]; rfl) (by decide) ?_
      exact n38 x1 x2 _ _ _ (lv_sub hl [1, 2] rfl) hG h
    · have h := ite_f c6 h
      by_cases c7 : x0 = (4 : Int32)
      · have h := ite_t c7 h
        refine lv_tableIn (off := 37) (tgt := 38) hx hb dX1_size_1 (by rw [c7]; decide) (by rw [c7]; decide) (by rw [c7]; rfl) (by decide) ?_
        exact n38 x1 x2 _ _ _ (lv_sub hl [1, 2] rfl) hG h
      · have h := ite_f c7 h
        by_cases c8 : x0 = (5 : Int32)
        · have h := ite_t c8 h
          refine lv_tableIn (off := 43) (tgt := 44) hx hb dX1_size_1 (by rw [c8]; decide) (by rw [c8]; decide) (by rw [c8]; rfl) (by decide) ?_
          refine lv_iload_n hx hb dX1_size_44 rfl (lv_at hl 1 rfl) ?_
          refine lv_i2l hx hb dX1_size_45 rfl ?_
          refine lv_iload_n hx hb dX1_size_46 rfl (lv_at hl 2 rfl) ?_
          refine lv_i2l hx hb dX1_size_47 rfl ?_
          refine lv_ladd hx hb dX1_size_48 ?_
          cases h
          exact gx_lret hx hb hr hlocks hG dX1_size_49
        · have h := ite_f c8 h
          refine lv_tableOut (tgt := 50) hx hb dX1_size_1 (sw_out (fun q h1 h2 => ?_)) (by decide) ?_
          · rcases (show q = 2 ∨ q = 3 ∨ q = 4 ∨ q = 5 by omega) with rfl | rfl | rfl | rfl
            · exact lv_neT c3 (by decide)
            · exact lv_neT c6 (by decide)
            · exact lv_neT c7 (by decide)
            · exact lv_neT c8 (by decide)
          refine lv_iload_n hx hb dX1_size_50 rfl (lv_at hl 1 rfl) ?_
          refine lv_i2l hx hb dX1_size_51 rfl ?_
          cases h
          exact gx_lret hx hb hr hlocks hG dX1_size_52

set_option maxHeartbeats 4000000 in
set_option maxRecDepth 100000 in
theorem c_JA_fillI_13 (l : Launch) (g : GC) (σ : St) (x1 : Int32) (w_r0 : Nat → Int32) (h : JA_fillI x1 32 (σ.2.2.1 13) = some w_r0) : Cn l g yJ7_fill_53178 (Cond.code yJ7_fill_53178 cJ7_fill_53178 4 none :: wG) 0 0 [.ref (g.2.1 13), .int x1] σ none (mkS σ [] [] [(13, w_r0)] []) := by
  unfold Cn
  refine Met.ofW (cc := cJ7_fill_53178) (maxL := 4) (ret := none) (by decide) rfl ?_
  intro p e s m args below meth c s₁ B hml hv
  obtain ⟨hargs, hP0, hK⟩ := hv
  have hx := B.exec
  have hb := B.bytes
  have hr := B.returns
  have hts : ∀ w ∈ wG, w.before args s = true := fun w h => atoms_spec (ws := (Cond.code yJ7_fill_53178 cJ7_fill_53178 4 none :: wG)) B.pre w (List.mem_cons_of_mem _ h)
  have hown : s.vm.findClass RJ7 = some m.cls := findClass_of_methodNamed B.named
  have hlocks := B.notSynchronized
  have hf9 : entryFrame m args 4 = _ := (congrArg (fun a => entryFrame m a 4) hargs).trans (lg_entry_eq m [.ref (g.2.1 13), .int x1] 4)
  show Wg p l e 0 0 s m args below meth c g none (mkS σ [] [] [(13, w_r0)] []) s.heap [] (entryFrame m args 4)
  rw [hf9]
  have hl := lv_entry ([.ref (g.2.1 13), .int x1]) (n := 4) (Nat.le_of_ble_eq_true rfl)
  generalize (lg_sl ([.ref (g.2.1 13), .int x1]) ++ List.replicate (4 - (lg_sl ([.ref (g.2.1 13), .int x1])).length) Slot.unset).toArray = ls at hl ⊢
  have hl : lv_has ls 4 [(0, .ref (g.2.1 13)), (1, .int x1)] := hl
  have hG : GW g s σ s.heap [] := ⟨hP0, va_S.rf⟩
  have hG : GW g s (mkS σ [] [] [(13, (σ.2.2.1 13))] []) s.heap [] := GW_self [] [] [13] [] hG
  unfold JA_fillI at h
  have n20 : ∀ (v_r0 : Nat → Int32) (H : Heap) (locs : List Loc) (ls : Array Slot), lv_has ls 4 [] → GW g s (mkS σ [] [] [(13, v_r0)] []) H locs → JA_fillI_n20 32 v_r0 = some w_r0 → Wg p l e 0 0 s m args below meth c g none (mkS σ [] [] [(13, w_r0)] []) H locs (F0 m 20 ls []) := by
    intro v_r0 H locs ls hl hG h
    unfold JA_fillI_n20 at h
    cases h
    exact gx_vret hx hb hr hlocks hG dJ7_fill_53178_20
  have n5 : ∀ (k5 : Int32 → Int32 → Int32 → (Nat → Int32) → Option ((Nat → Int32))) (hk5 : ∀ (x1 : Int32) (x2 : Int32) (x3 : Int32) (v_r0 : Nat → Int32) (H : Heap) (locs : List Loc) (ls : Array Slot), lv_has ls 4 [(0, .ref (g.2.1 13)), (1, .int x1), (2, .int x2), (3, .int x3)] → GW g s (mkS σ [] [] [(13, v_r0)] []) H locs → k5 x1 x2 x3 v_r0 = some w_r0 → Wg p l e 0 0 s m args below meth c g none (mkS σ [] [] [(13, w_r0)] []) H locs (F0 m 5 ls [])) (x1 : Int32) (x2 : Int32) (x3 : Int32) (v_r0 : Nat → Int32) (H : Heap) (locs : List Loc) (ls : Array Slot), lv_has ls 4 [(0, .ref (g.2.1 13)), (1, .int x1), (2, .int x2), (3, .int x3)] → GW g s (mkS σ [] [] [(13, v_r0)] []) H locs → JA_fillI_n5 k5 32 x1 x2 x3 v_r0 = some w_r0 → Wg p l e 0 0 s m args below meth c g none (mkS σ [] [] [(13, w_r0)] []) H locs (F0 m 5 ls []) := by
    intro k5 hk5 x1 x2 x3 v_r0 H locs ls hl hG h
    unfold JA_fillI_n5 at h
    refine lv_iload_n hx hb dJ7_fill_53178_5 rfl (lv_at hl 2 rfl) ?_
    refine lv_iload_n hx hb dJ7_fill_53178_6 rfl (lv_at hl 3 rfl) ?_
    refine lv_icmp_ge (tgt := 20) hx hb dJ7_fill_53178_7 (by decide) (fun c1 => ?_) (fun c1 => ?_)
    · have h := ite_t c1 h
      exact n20 v_r0 _ _ _ (lv_sub hl [] rfl) hG h
    · have h := ite_f c1 h
      refine lv_aload_n hx hb dJ7_fill_53178_10 rfl (lv_at hl 0 rfl) ?_
      refine lv_iload_n hx hb dJ7_fill_53178_11 rfl (lv_at hl 2 rfl) ?_
      refine lv_iload_n hx hb dJ7_fill_53178_12 rfl (lv_at hl 1 rfl) ?_
      obtain ⟨hg2, h⟩ := gd_some h
      refine gx_iast (σ' := (mkS σ [] [] [(13, (upd v_r0 (x2.toNatClampNeg) x1))] [])) (f := v_r0) hx hb hK hG (ga_13 g _) hg2 ((gs_13 g _ _).trans (congrArg (g_cells g) (mk_c 0 rfl rfl))) dJ7_fill_53178_13 (fun H locs hG => ?_)
      refine lv_iinc (v := (x2 + (1 : Int32))) (lv' := [(2, .int (x2 + (1 : Int32))), (0, .ref (g.2.1 13)), (1, .int x1), (3, .int x3)]) hx hb dJ7_fill_53178_14 hl (k := 2) rfl (congrArg (fun z => x2 + z) (by decide)) (Nat.le_of_ble_eq_true rfl) rfl (fun ls hl => ?_)
      refine lv_goto (tgt := 5) hx hb dJ7_fill_53178_17 (by decide) ?_
      exact hk5 x1 (x2 + (1 : Int32)) x3 (upd v_r0 (x2.toNatClampNeg) x1) _ _ _ (lv_sub hl [1, 2, 0, 3] rfl) hG h
  have l5 : ∀  (F : Nat) (x1 : Int32) (x2 : Int32) (x3 : Int32) (v_r0 : Nat → Int32) (H : Heap) (locs : List Loc) (ls : Array Slot), lv_has ls 4 [(0, .ref (g.2.1 13)), (1, .int x1), (2, .int x2), (3, .int x3)] → GW g s (mkS σ [] [] [(13, v_r0)] []) H locs → JA_fillI_l5 32 F x1 x2 x3 v_r0 = some w_r0 → Wg p l e 0 0 s m args below meth c g none (mkS σ [] [] [(13, w_r0)] []) H locs (F0 m 5 ls []) := by
    intro F
    induction F with
    | zero => intro x1 x2 x3 v_r0 H locs ls hl hG h; exact no_some h
    | succ F ih => intro x1 x2 x3 v_r0 H locs ls hl hG h; exact n5 (fun x1 x2 x3 v_r0 => JA_fillI_l5 32 F x1 x2 x3 v_r0) ih x1 x2 x3 v_r0 H locs ls hl hG h
  refine lv_iconst (v := (0 : Int32)) hx hb dJ7_fill_53178_0 (by decide) ?_
  refine lv_istore_n (lv' := [(2, .int (0 : Int32)), (0, .ref (g.2.1 13)), (1, .int x1)]) hx hb dJ7_fill_53178_1 rfl hl (Nat.le_of_ble_eq_true rfl) rfl (fun ls hl => ?_)
  refine lv_aload_n hx hb dJ7_fill_53178_2 rfl (lv_at hl 1 rfl) ?_
  refine gx_alen (v := (Int32.ofNat 32)) hx hb hK hG 0 (ga_13 g _) rfl rfl dJ7_fill_53178_3 ?_
  refine lv_istore_n (lv' := [(3, .int (Int32.ofNat 32)), (2, .int (0 : Int32)), (0, .ref (g.2.1 13)), (1, .int x1)]) hx hb dJ7_fill_53178_4 rfl hl (Nat.le_of_ble_eq_true rfl) rfl (fun ls hl => ?_)
  exact l5 FUEL x1 (0 : Int32) (Int32.ofNat 32) (σ.2.2.1 13) _ _ _ (lv_sub hl [2, 3, 1, 0] rfl) hG h

set_option maxHeartbeats 4000000 in
set_option maxRecDepth 100000 in
theorem c_Net_empty_12 (l : Launch) (g : GC) (σ : St) (x1 : Int32) (w_size : Int32) (w_near : Nat → Int32) (h : Net_empty x1 (σ.1 769) (σ.2.2.1 13) = some (w_size, w_near)) : Cn l g yX2_empty (Cond.code yX2_empty cX2_empty 2 none :: wG) 1 23 [.ref (g.2.1 12), .int x1] σ none (mkS σ [(769, w_size)] [] [(13, w_near)] []) := by
  unfold Cn
  refine Met.ofW (cc := cX2_empty) (maxL := 2) (ret := none) (by decide) rfl ?_
  intro p e s m args below meth c s₁ B hml hv
  obtain ⟨hargs, hP0, hK⟩ := hv
  have hx := B.exec
  have hb := B.bytes
  have hr := B.returns
  have hts : ∀ w ∈ wG, w.before args s = true := fun w h => atoms_spec (ws := (Cond.code yX2_empty cX2_empty 2 none :: wG)) B.pre w (List.mem_cons_of_mem _ h)
  have hown : s.vm.findClass RX2 = some m.cls := findClass_of_methodNamed B.named
  have hlocks := B.notSynchronized
  have hS9 : CallFix p m c cX2_empty 2 s args wG RX2 := ⟨hx, hb, hml, hown, hts⟩
  have hw0 := hts _ mw_1_56
  have hw1 := hts _ mw_1_53
  have hf9 : entryFrame m args 2 = _ := (congrArg (fun a => entryFrame m a 2) hargs).trans (lg_entry_eq m [.ref (g.2.1 12), .int x1] 2)
  show Wg p l e 1 23 s m args below meth c g none (mkS σ [(769, w_size)] [] [(13, w_near)] []) s.heap [] (entryFrame m args 2)
  rw [hf9]
  have hl := lv_entry ([.ref (g.2.1 12), .int x1]) (n := 2) (Nat.le_of_ble_eq_true rfl)
  generalize (lg_sl ([.ref (g.2.1 12), .int x1]) ++ List.replicate (2 - (lg_sl ([.ref (g.2.1 12), .int x1])).length) Slot.unset).toArray = ls at hl ⊢
  have hl : lv_has ls 2 [(0, .ref (g.2.1 12)), (1, .int x1)] := hl
  have hG : GW g s σ s.heap [] := ⟨hP0, va_S.rf⟩
  have hG : GW g s (mkS σ [(769, (σ.1 769))] [] [(13, (σ.2.2.1 13))] []) s.heap [] := GW_self [769] [] [13] [] hG
  unfold Net_empty at h
  refine lv_aload_n hx hb dX2_empty_0 rfl (lv_at hl 0 rfl) ?_
  refine lv_iload_n hx hb dX2_empty_1 rfl (lv_at hl 1 rfl) ?_
  refine gx_put (σ' := (mkS σ [(769, x1)] [] [(13, (σ.2.2.1 13))] [])) (C := RX2) (T := TX2) (N := 2) hx hb hts mc_X2 tyX2 tyX2_ok nmX2 hown hK hG (ga_12 g _) rfl 1 (by decide) hw0 rfl rfl rfl rfl (Nat.le_of_ble_eq_true rfl) ((gf_769 g _ _).trans (congrArg (g_cells g) (mk_a 0 rfl rfl))) dX2_empty_2 (fun H locs hG => ?_)
  refine lv_aload_n hx hb dX2_empty_5 rfl (lv_at hl 0 rfl) ?_
  refine gx_get (v := .ref (g.2.1 13)) (C := RX2) (T := TX2) (N := 2) hx hb hts mc_X2 hown hK hG (ga_12 g _) rfl 0 (by decide) hw1 rfl rfl dX2_empty_6 ?_
  refine lv_iconst (v := (0 : Int32)) hx hb dX2_empty_9 (by decide) ?_
  obtain ⟨z1, hc2, h⟩ := bnd_some h
  refine gx_cS (σ' := (mkS σ [(769, x1)] [] [(13, z1)] [])) (r := none) (rest := []) (As := [.ref (g.2.1 13), .int (0 : Int32)]) hS9 (c_JA_fillI_13 l g (mkS σ [(769, x1)] [] [(13, (σ.2.2.1 13))] []) (0 : Int32) z1 hc2) (mk_mk rfl rfl rfl rfl) (va_cwS 2 hts (gz_S mw_2_113 mw_1_155 mw_1_8 mw_1_156) rfl rfl rfl hdS_J7_fill_53178 ⟨Nat.le_of_ble_eq_true rfl, Nat.le_of_ble_eq_true rfl⟩) hK hG rfl hl.1 rfl (Nat.le_of_ble_eq_true rfl) dX2_empty_10 (fun H locs hG => ?_)
  refine W.eq (g2 := F0 m 13 ls []) rfl ?_
  cases h
  exact gx_vret hx hb hr hlocks hG dX2_empty_13

set_option maxHeartbeats 4000000 in
set_option maxRecDepth 100000 in
theorem c_Mk_unlikeLetters (l : Launch) (g : GC) (σ : St) (x0 : Int32) (x1 : Int32) (x2 : Int32) (r : Int32) (h : Mk_unlikeLetters x0 x1 x2 = some r) : Cn l g yX1_unlikeLetters (Cond.code yX1_unlikeLetters cX1_unlikeLetters 7 (some .int) :: wG) 0 0 [.int x0, .int x1, .int x2] σ (some (.int r)) σ := by
  unfold Cn
  refine Met.ofW (cc := cX1_unlikeLetters) (maxL := 7) (ret := (some .int)) (by decide) rfl ?_
  intro p e s m args below meth c s₁ B hml hv
  obtain ⟨hargs, hP0, hK⟩ := hv
  have hx := B.exec
  have hb := B.bytes
  have hr := B.returns
  have hts : ∀ w ∈ wG, w.before args s = true := fun w h => atoms_spec (ws := (Cond.code yX1_unlikeLetters cX1_unlikeLetters 7 (some .int) :: wG)) B.pre w (List.mem_cons_of_mem _ h)
  have hown : s.vm.findClass RX1 = some m.cls := findClass_of_methodNamed B.named
  have hlocks := B.notSynchronized
  have hf9 : entryFrame m args 7 = _ := (congrArg (fun a => entryFrame m a 7) hargs).trans (lg_entry_eq m [.int x0, .int x1, .int x2] 7)
  show Wg p l e 0 0 s m args below meth c g (some (.int r)) σ s.heap [] (entryFrame m args 7)
  rw [hf9]
  have hl := lv_entry ([.int x0, .int x1, .int x2]) (n := 7) (Nat.le_of_ble_eq_true rfl)
  generalize (lg_sl ([.int x0, .int x1, .int x2]) ++ List.replicate (7 - (lg_sl ([.int x0, .int x1, .int x2])).length) Slot.unset).toArray = ls at hl ⊢
  have hl : lv_has ls 7 [(0, .int x0), (1, .int x1), (2, .int x2)] := hl
  have hG : GW g s σ s.heap [] := ⟨hP0, va_S.rf⟩
  unfold Mk_unlikeLetters at h
  have n46 : ∀ (k18 : Int32 → Int32 → Int32 → Int32 → Int32 → Option (Int32)) (hk18 : ∀ (x2 : Int32) (x3 : Int32) (x4 : Int32) (x5 : Int32) (x6 : Int32) (H : Heap) (locs : List Loc) (ls : Array Slot), lv_has ls 7 [(2, .int x2), (3, .int x3), (4, .int x4), (5, .int x5), (6, .int x6)] → GW g s σ H locs → k18 x2 x3 x4 x5 x6 = some r → Wg p l e 0 0 s m args below meth c g (some (.int r)) σ H locs (F0 m 18 ls [])) (x2 : Int32) (x3 : Int32) (x4 : Int32) (x5 : Int32) (x6 : Int32) (H : Heap) (locs : List Loc) (ls : Array Slot), lv_has ls 7 [(2, .int x2), (3, .int x3), (4, .int x4), (5, .int x5), (6, .int x6)] → GW g s σ H locs → Mk_unlikeLetters_n46 k18 x2 x3 x4 x5 x6 = some r → Wg p l e 0 0 s m args below meth c g (some (.int r)) σ H locs (F0 m 46 ls []) := by
    intro k18 hk18 x2 x3 x4 x5 x6 H locs ls hl hG h
    unfold Mk_unlikeLetters_n46 at h
    refine lv_iload hx hb dX1_unlikeLetters_46 (lv_at hl 2 rfl) ?_
    refine lv_iload_n hx hb dX1_unlikeLetters_48 rfl (lv_at hl 0 rfl) ?_
    obtain ⟨hg1, h⟩ := gd_some h
    refine lv_idiv hx hb dX1_unlikeLetters_49 (nz_ne hg1) ?_
    refine lv_istore (lv' := [(4, .int (x4 / x2)), (2, .int x2), (3, .int x3), (5, .int x5), (6, .int x6)]) hx hb dX1_unlikeLetters_50 hl (Nat.le_of_ble_eq_true rfl) rfl (fun ls hl => ?_)
    refine lv_iload hx hb dX1_unlikeLetters_52 (lv_at hl 3 rfl) ?_
    refine lv_iload_n hx hb dX1_unlikeLetters_54 rfl (lv_at hl 1 rfl) ?_
    refine lv_idiv hx hb dX1_unlikeLetters_55 (nz_ne hg1) ?_
    refine lv_istore (lv' := [(5, .int (x5 / x2)), (4, .int (x4 / x2)), (2, .int x2), (3, .int x3), (6, .int x6)]) hx hb dX1_unlikeLetters_56 hl (Nat.le_of_ble_eq_true rfl) rfl (fun ls hl => ?_)
    refine lv_iinc (v := (x6 + (1 : Int32))) (lv' := [(6, .int (x6 + (1 : Int32))), (5, .int (x5 / x2)), (4, .int (x4 / x2)), (2, .int x2), (3, .int x3)]) hx hb dX1_unlikeLetters_58 hl (k := 4) rfl (congrArg (fun z => x6 + z) (by decide)) (Nat.le_of_ble_eq_true rfl) rfl (fun ls hl => ?_)
    refine lv_goto (tgt := 18) hx hb dX1_unlikeLetters_61 (by decide) ?_
    exact hk18 x2 x3 (x4 / x2) (x5 / x2) (x6 + (1 : Int32)) _ _ _ (lv_sub hl [3, 4, 2, 1, 0] rfl) hG h
  have n64 : ∀ (x3 : Int32) (H : Heap) (locs : List Loc) (ls : Array Slot), lv_has ls 7 [(3, .int x3)] → GW g s σ H locs → Mk_unlikeLetters_n64 x3 = some r → Wg p l e 0 0 s m args below meth c g (some (.int r)) σ H locs (F0 m 64 ls []) := by
    intro x3 H locs ls hl hG h
    unfold Mk_unlikeLetters_n64 at h
    refine lv_iload_n hx hb dX1_unlikeLetters_64 rfl (lv_at hl 0 rfl) ?_
    cases h
    exact gx_iret hx hb hr hlocks hG dX1_unlikeLetters_65
  have n18 : ∀ (k18 : Int32 → Int32 → Int32 → Int32 → Int32 → Option (Int32)) (hk18 : ∀ (x2 : Int32) (x3 : Int32) (x4 : Int32) (x5 : Int32) (x6 : Int32) (H : Heap) (locs : List Loc) (ls : Array Slot), lv_has ls 7 [(2, .int x2), (3, .int x3), (4, .int x4), (5, .int x5), (6, .int x6)] → GW g s σ H locs → k18 x2 x3 x4 x5 x6 = some r → Wg p l e 0 0 s m args below meth c g (some (.int r)) σ H locs (F0 m 18 ls [])) (x2 : Int32) (x3 : Int32) (x4 : Int32) (x5 : Int32) (x6 : Int32) (H : Heap) (locs : List Loc) (ls : Array Slot), lv_has ls 7 [(2, .int x2), (3, .int x3), (4, .int x4), (5, .int x5), (6, .int x6)] → GW g s σ H locs → Mk_unlikeLetters_n18 k18 x2 x3 x4 x5 x6 = some r → Wg p l e 0 0 s m args below meth c g (some (.int r)) σ H locs (F0 m 18 ls []) := by
    intro k18 hk18 x2 x3 x4 x5 x6 H locs ls hl hG h
    unfold Mk_unlikeLetters_n18 at h
    refine lv_iload hx hb dX1_unlikeLetters_18 (lv_at hl 4 rfl) ?_
    refine lv_bipush (v := (32 : Int32)) hx hb dX1_unlikeLetters_20 (by decide) ?_
    refine lv_icmp_ge (tgt := 64) hx hb dX1_unlikeLetters_22 (by decide) (fun c2 => ?_) (fun c2 => ?_)
    · have h := ite_t c2 h
      exact n64 x3 _ _ _ (lv_sub hl [1] rfl) hG h
    · have h := ite_f c2 h
      refine lv_iload hx hb dX1_unlikeLetters_25 (lv_at hl 2 rfl) ?_
      refine lv_iload hx hb dX1_unlikeLetters_27 (lv_at hl 3 rfl) ?_
      refine lv_icmp_eq (tgt := 64) hx hb dX1_unlikeLetters_29 (by decide) (fun c3 => ?_) (fun c3 => ?_)
      · have h := ite_t c3 h
        exact n64 x3 _ _ _ (lv_sub hl [1] rfl) hG h
      · have h := ite_f c3 h
        refine lv_iload hx hb dX1_unlikeLetters_32 (lv_at hl 2 rfl) ?_
        refine lv_iload_n hx hb dX1_unlikeLetters_34 rfl (lv_at hl 0 rfl) ?_
        obtain ⟨hg4, h⟩ := gd_some h
        refine lv_irem hx hb dX1_unlikeLetters_35 (nz_ne hg4) ?_
        refine lv_iload hx hb dX1_unlikeLetters_36 (lv_at hl 3 rfl) ?_
        refine lv_iload_n hx hb dX1_unlikeLetters_38 rfl (lv_at hl 0 rfl) ?_
        refine lv_irem hx hb dX1_unlikeLetters_39 (nz_ne hg4) ?_
        refine lv_icmp_eq (tgt := 46) hx hb dX1_unlikeLetters_40 (by decide) (fun c5 => ?_) (fun c5 => ?_)
        · have h := ite_t c5 h
          exact n46 k18 hk18 x2 x3 x4 x5 x6 _ _ _ (lv_sub hl [0, 1, 2, 3, 4] rfl) hG h
        · have h := ite_f c5 h
          refine lv_iinc (v := (x3 + (1 : Int32))) (lv' := [(3, .int (x3 + (1 : Int32))), (2, .int x2), (4, .int x4), (5, .int x5), (6, .int x6)]) hx hb dX1_unlikeLetters_43 hl (k := 1) rfl (congrArg (fun z => x3 + z) (by decide)) (Nat.le_of_ble_eq_true rfl) rfl (fun ls hl => ?_)
          exact n46 k18 hk18 x2 (x3 + (1 : Int32)) x4 x5 x6 _ _ _ (lv_sub hl [1, 0, 2, 3, 4] rfl) hG h
  have l18 : ∀  (F : Nat) (x2 : Int32) (x3 : Int32) (x4 : Int32) (x5 : Int32) (x6 : Int32) (H : Heap) (locs : List Loc) (ls : Array Slot), lv_has ls 7 [(2, .int x2), (3, .int x3), (4, .int x4), (5, .int x5), (6, .int x6)] → GW g s σ H locs → Mk_unlikeLetters_l18 F x2 x3 x4 x5 x6 = some r → Wg p l e 0 0 s m args below meth c g (some (.int r)) σ H locs (F0 m 18 ls []) := by
    intro F
    induction F with
    | zero => intro x2 x3 x4 x5 x6 H locs ls hl hG h; exact no_some h
    | succ F ih => intro x2 x3 x4 x5 x6 H locs ls hl hG h; exact n18 (fun x2 x3 x4 x5 x6 => Mk_unlikeLetters_l18 F x2 x3 x4 x5 x6) ih x2 x3 x4 x5 x6 H locs ls hl hG h
  refine lv_iload_n hx hb dX1_unlikeLetters_0 rfl (lv_at hl 2 rfl) ?_
  refine lv_iconst (v := (2 : Int32)) hx hb dX1_unlikeLetters_1 (by decide) ?_
  refine lv_icmp_ge (tgt := 7) hx hb dX1_unlikeLetters_2 (by decide) (fun c6 => ?_) (fun c6 => ?_)
  · have h := ite_t c6 h
    refine lv_iconst (v := (0 : Int32)) hx hb dX1_unlikeLetters_7 (by decide) ?_
    refine lv_istore_n (lv' := [(3, .int (0 : Int32)), (0, .int x0), (1, .int x1), (2, .int x2)]) hx hb dX1_unlikeLetters_8 rfl hl (Nat.le_of_ble_eq_true rfl) rfl (fun ls hl => ?_)
    refine lv_iload_n hx hb dX1_unlikeLetters_9 rfl (lv_at hl 1 rfl) ?_
    refine lv_istore (lv' := [(4, .int x0), (3, .int (0 : Int32)), (0, .int x0), (1, .int x1), (2, .int x2)]) hx hb dX1_unlikeLetters_10 hl (Nat.le_of_ble_eq_true rfl) rfl (fun ls hl => ?_)
    refine lv_iload_n hx hb dX1_unlikeLetters_12 rfl (lv_at hl 3 rfl) ?_
    refine lv_istore (lv' := [(5, .int x1), (4, .int x0), (3, .int (0 : Int32)), (0, .int x0), (1, .int x1), (2, .int x2)]) hx hb dX1_unlikeLetters_13 hl (Nat.le_of_ble_eq_true rfl) rfl (fun ls hl => ?_)
    refine lv_iconst (v := (0 : Int32)) hx hb dX1_unlikeLetters_15 (by decide) ?_
    refine lv_istore (lv' := [(6, .int (0 : Int32)), (5, .int x1), (4, .int x0), (3, .int (0 : Int32)), (0, .int x0), (1, .int x1), (2, .int x2)]) hx hb dX1_unlikeLetters_16 hl (Nat.le_of_ble_eq_true rfl) rfl (fun ls hl => ?_)
    exact l18 FUEL x2 (0 : Int32) x0 x1 (0 : Int32) _ _ _ (lv_sub hl [6, 3, 2, 1, 0] rfl) hG h
  · have h := ite_f c6 h
    refine lv_iconst (v := (0 : Int32)) hx hb dX1_unlikeLetters_5 (by decide) ?_
    cases h
    exact gx_iret hx hb hr hlocks hG dX1_unlikeLetters_6

set_option maxHeartbeats 4000000 in
set_option maxRecDepth 100000 in
theorem c_Net_has_12 (l : Launch) (g : GC) (σ : St) (x1 : Int32) (r : Int32) (h : Net_has x1 (σ.1 769) = some r) : Cn l g yX2_has (Cond.code yX2_has cX2_has 2 (some .boolean) :: wG) 0 0 [.ref (g.2.1 12), .int x1] σ (some (.int r)) σ := by
  unfold Cn
  refine Met.ofW (cc := cX2_has) (maxL := 2) (ret := (some .boolean)) (by decide) rfl ?_
  intro p e s m args below meth c s₁ B hml hv
  obtain ⟨hargs, hP0, hK⟩ := hv
  have hx := B.exec
  have hb := B.bytes
  have hr := B.returns
  have hts : ∀ w ∈ wG, w.before args s = true := fun w h => atoms_spec (ws := (Cond.code yX2_has cX2_has 2 (some .boolean) :: wG)) B.pre w (List.mem_cons_of_mem _ h)
  have hown : s.vm.findClass RX2 = some m.cls := findClass_of_methodNamed B.named
  have hlocks := B.notSynchronized
  have hw0 := hts _ mw_1_56
  have hf9 : entryFrame m args 2 = _ := (congrArg (fun a => entryFrame m a 2) hargs).trans (lg_entry_eq m [.ref (g.2.1 12), .int x1] 2)
  show Wg p l e 0 0 s m args below meth c g (some (.int r)) σ s.heap [] (entryFrame m args 2)
  rw [hf9]
  have hl := lv_entry ([.ref (g.2.1 12), .int x1]) (n := 2) (Nat.le_of_ble_eq_true rfl)
  generalize (lg_sl ([.ref (g.2.1 12), .int x1]) ++ List.replicate (2 - (lg_sl ([.ref (g.2.1 12), .int x1])).length) Slot.unset).toArray = ls at hl ⊢
  have hl : lv_has ls 2 [(0, .ref (g.2.1 12)), (1, .int x1)] := hl
  have hG : GW g s σ s.heap [] := ⟨hP0, va_S.rf⟩
  unfold Net_has at h
  have n17 : ∀ (t0 : Int32) (H : Heap) (locs : List Loc) (ls : Array Slot), lv_has ls 2 [] → GW g s σ H locs → Net_has_n17 t0 = some r → Wg p l e 0 0 s m args below meth c g (some (.int r)) σ H locs (F0 m 17 ls [.int t0]) := by
    intro t0 H locs ls hl hG h
    unfold Net_has_n17 at h
    obtain ⟨hg1, h⟩ := gd_some h
    cases h
    exact gx_zret hx hb hr hlocks hg1 hG dX2_has_17
  have n16 : ∀  (H : Heap) (locs : List Loc) (ls : Array Slot), lv_has ls 2 [] → GW g s σ H locs → Net_has_n16 = some r → Wg p l e 0 0 s m args below meth c g (some (.int r)) σ H locs (F0 m 16 ls []) := by
    intro H locs ls hl hG h
    unfold Net_has_n16 at h
    refine lv_iconst (v := (0 : Int32)) hx hb dX2_has_16 (by decide) ?_
    exact n17 (0 : Int32) _ _ _ (lv_sub hl [] rfl) hG h
  refine lv_iload_n hx hb dX2_has_0 rfl (lv_at hl 1 rfl) ?_
  refine lv_if_lt (tgt := 16) hx hb dX2_has_1 (by decide) (fun c2 => ?_) (fun c2 => ?_)
  · have h := ite_t c2 h
    exact n16 _ _ _ (lv_sub hl [] rfl) hG h
  · have h := ite_f c2 h
    refine lv_iload_n hx hb dX2_has_4 rfl (lv_at hl 1 rfl) ?_
    refine lv_aload_n hx hb dX2_has_5 rfl (lv_at hl 0 rfl) ?_
    refine gx_get (v := .int (σ.1 769)) (C := RX2) (T := TX2) (N := 2) hx hb hts mc_X2 hown hK hG (ga_12 g _) rfl 1 (by decide) hw0 rfl rfl dX2_has_6 ?_
    refine lv_icmp_ge (tgt := 16) hx hb dX2_has_9 (by decide) (fun c3 => ?_) (fun c3 => ?_)
    · have h := ite_t c3 h
      exact n16 _ _ _ (lv_sub hl [] rfl) hG h
    · have h := ite_f c3 h
      refine lv_iconst (v := (1 : Int32)) hx hb dX2_has_12 (by decide) ?_
      refine lv_goto (tgt := 17) hx hb dX2_has_13 (by decide) ?_
      exact n17 (1 : Int32) _ _ _ (lv_sub hl [] rfl) hG h

set_option maxHeartbeats 4000000 in
set_option maxRecDepth 100000 in
theorem c_Net_mayJoin_12 (l : Launch) (g : GC) (σ : St) (x1 : Int32) (x2 : Int32) (r : Int32) (h : Net_mayJoin x1 x2 (σ.1 769) = some r) : Cn l g yX2_mayJoin (Cond.code yX2_mayJoin cX2_mayJoin 3 (some .boolean) :: wG) 1 21 [.ref (g.2.1 12), .int x1, .int x2] σ (some (.int r)) σ := by
  unfold Cn
  refine Met.ofW (cc := cX2_mayJoin) (maxL := 3) (ret := (some .boolean)) (by decide) rfl ?_
  intro p e s m args below meth c s₁ B hml hv
  obtain ⟨hargs, hP0, hK⟩ := hv
  have hx := B.exec
  have hb := B.bytes
  have hr := B.returns
  have hts : ∀ w ∈ wG, w.before args s = true := fun w h => atoms_spec (ws := (Cond.code yX2_mayJoin cX2_mayJoin 3 (some .boolean) :: wG)) B.pre w (List.mem_cons_of_mem _ h)
  have hown : s.vm.findClass RX2 = some m.cls := findClass_of_methodNamed B.named
  have hlocks := B.notSynchronized
  have hS9 : CallFix p m c cX2_mayJoin 3 s args wG RX2 := ⟨hx, hb, hml, hown, hts⟩
  have hf9 : entryFrame m args 3 = _ := (congrArg (fun a => entryFrame m a 3) hargs).trans (lg_entry_eq m [.ref (g.2.1 12), .int x1, .int x2] 3)
  show Wg p l e 1 21 s m args below meth c g (some (.int r)) σ s.heap [] (entryFrame m args 3)
  rw [hf9]
  have hl := lv_entry ([.ref (g.2.1 12), .int x1, .int x2]) (n := 3) (Nat.le_of_ble_eq_true rfl)
  generalize (lg_sl ([.ref (g.2.1 12), .int x1, .int x2]) ++ List.replicate (3 - (lg_sl ([.ref (g.2.1 12), .int x1, .int x2])).length) Slot.unset).toArray = ls at hl ⊢
  have hl : lv_has ls 3 [(0, .ref (g.2.1 12)), (1, .int x1), (2, .int x2)] := hl
  have hG : GW g s σ s.heap [] := ⟨hP0, va_S.rf⟩
  unfold Net_mayJoin at h
  have n26 : ∀ (t0 : Int32) (H : Heap) (locs : List Loc) (ls : Array Slot), lv_has ls 3 [] → GW g s σ H locs → Net_mayJoin_n26 t0 = some r → Wg p l e 1 21 s m args below meth c g (some (.int r)) σ H locs (F0 m 26 ls [.int t0]) := by
    intro t0 H locs ls hl hG h
    unfold Net_mayJoin_n26 at h
    obtain ⟨hg1, h⟩ := gd_some h
    cases h
    exact gx_zret hx hb hr hlocks hg1 hG dX2_mayJoin_26
  have n25 : ∀  (H : Heap) (locs : List Loc) (ls : Array Slot), lv_has ls 3 [] → GW g s σ H locs → Net_mayJoin_n25 = some r → Wg p l e 1 21 s m args below meth c g (some (.int r)) σ H locs (F0 m 25 ls []) := by
    intro H locs ls hl hG h
    unfold Net_mayJoin_n25 at h
    refine lv_iconst (v := (0 : Int32)) hx hb dX2_mayJoin_25 (by decide) ?_
    exact n26 (0 : Int32) _ _ _ (lv_sub hl [] rfl) hG h
  refine lv_aload_n hx hb dX2_mayJoin_0 rfl (lv_at hl 0 rfl) ?_
  refine lv_iload_n hx hb dX2_mayJoin_1 rfl (lv_at hl 1 rfl) ?_
  obtain ⟨z2, hc3, h⟩ := bnd_some h
  refine gx_cV (σ' := σ) (r := (some (.int z2))) (rest := []) (As := [.int x1]) hS9 (c_Net_has_12 l g σ x1 z2 hc3) rfl (cwV 1 hts (gz_V mw_2_126 mw_2_127 mw_2_128 mw_1_3 mw_2_129) rfl rfl rfl hdV_X2_has ⟨Nat.le_of_ble_eq_true rfl, Nat.le_of_ble_eq_true rfl⟩) hK hG (ga_12 g _) rfl rfl rfl hl.1 rfl (Nat.le_of_ble_eq_true rfl) dX2_mayJoin_2 (fun H locs hG => ?_)
  refine W.eq (g2 := F0 m 5 ls [.int z2]) rfl ?_
  refine lv_if_eq (tgt := 25) hx hb dX2_mayJoin_5 (by decide) (fun c4 => ?_) (fun c4 => ?_)
  · have h := ite_t c4 h
    exact n25 _ _ _ (lv_sub hl [] rfl) hG h
  · have h := ite_f c4 h
    refine lv_aload_n hx hb dX2_mayJoin_8 rfl (lv_at hl 0 rfl) ?_
    refine lv_iload_n hx hb dX2_mayJoin_9 rfl (lv_at hl 2 rfl) ?_
    obtain ⟨z5, hc6, h⟩ := bnd_some h
    refine gx_cV (σ' := σ) (r := (some (.int z5))) (rest := []) (As := [.int x2]) hS9 (c_Net_has_12 l g σ x2 z5 hc6) rfl (cwV 1 hts (gz_V mw_2_126 mw_2_127 mw_2_128 mw_1_3 mw_2_129) rfl rfl rfl hdV_X2_has ⟨Nat.le_of_ble_eq_true rfl, Nat.le_of_ble_eq_true rfl⟩) hK hG (ga_12 g _) rfl rfl rfl hl.1 rfl (Nat.le_of_ble_eq_true rfl) dX2_mayJoin_10 (fun H locs hG => ?_)
    refine W.eq (g2 := F0 m 13 ls [.int z5]) rfl ?_
    refine lv_if_eq (tgt := 25) hx hb dX2_mayJoin_13 (by decide) (fun c7 => ?_) (fun c7 => ?_)
    · have h := ite_t c7 h
      exact n25 _ _ _ (lv_sub hl [] rfl) hG h
    · have h := ite_f c7 h
      refine lv_iload_n hx hb dX2_mayJoin_16 rfl (lv_at hl 1 rfl) ?_
      refine lv_iload_n hx hb dX2_mayJoin_17 rfl (lv_at hl 2 rfl) ?_
      refine lv_icmp_eq (tgt := 25) hx hb dX2_mayJoin_18 (by decide) (fun c8 => ?_) (fun c8 => ?_)
      · have h := ite_t c8 h
        exact n25 _ _ _ (lv_sub hl [] rfl) hG h
      · have h := ite_f c8 h
        refine lv_iconst (v := (1 : Int32)) hx hb dX2_mayJoin_21 (by decide) ?_
        refine lv_goto (tgt := 26) hx hb dX2_mayJoin_22 (by decide) ?_
        exact n26 (1 : Int32) _ _ _ (lv_sub hl [] rfl) hG h

set_option maxHeartbeats 4000000 in
set_option maxRecDepth 100000 in
theorem c_Net_join_12 (l : Launch) (g : GC) (σ : St) (x1 : Int32) (x2 : Int32) (w_near : Nat → Int32) (h : Net_join x1 x2 (σ.1 769) (σ.2.2.1 13) = some w_near) : Cn l g yX2_join (Cond.code yX2_join cX2_join 3 none :: wG) 2 43 [.ref (g.2.1 12), .int x1, .int x2] σ none (mkS σ [] [] [(13, w_near)] []) := by
  unfold Cn
  refine Met.ofW (cc := cX2_join) (maxL := 3) (ret := none) (by decide) rfl ?_
  intro p e s m args below meth c s₁ B hml hv
  obtain ⟨hargs, hP0, hK⟩ := hv
  have hx := B.exec
  have hb := B.bytes
  have hr := B.returns
  have hts : ∀ w ∈ wG, w.before args s = true := fun w h => atoms_spec (ws := (Cond.code yX2_join cX2_join 3 none :: wG)) B.pre w (List.mem_cons_of_mem _ h)
  have hown : s.vm.findClass RX2 = some m.cls := findClass_of_methodNamed B.named
  have hlocks := B.notSynchronized
  have hS9 : CallFix p m c cX2_join 3 s args wG RX2 := ⟨hx, hb, hml, hown, hts⟩
  have hw0 := hts _ mw_1_53
  have hf9 : entryFrame m args 3 = _ := (congrArg (fun a => entryFrame m a 3) hargs).trans (lg_entry_eq m [.ref (g.2.1 12), .int x1, .int x2] 3)
  show Wg p l e 2 43 s m args below meth c g none (mkS σ [] [] [(13, w_near)] []) s.heap [] (entryFrame m args 3)
  rw [hf9]
  have hl := lv_entry ([.ref (g.2.1 12), .int x1, .int x2]) (n := 3) (Nat.le_of_ble_eq_true rfl)
  generalize (lg_sl ([.ref (g.2.1 12), .int x1, .int x2]) ++ List.replicate (3 - (lg_sl ([.ref (g.2.1 12), .int x1, .int x2])).length) Slot.unset).toArray = ls at hl ⊢
  have hl : lv_has ls 3 [(0, .ref (g.2.1 12)), (1, .int x1), (2, .int x2)] := hl
  have hG : GW g s σ s.heap [] := ⟨hP0, va_S.rf⟩
  have hG : GW g s (mkS σ [] [] [(13, (σ.2.2.1 13))] []) s.heap [] := GW_self [] [] [13] [] hG
  unfold Net_join at h
  have n33 : ∀ (v_near : Nat → Int32) (H : Heap) (locs : List Loc) (ls : Array Slot), lv_has ls 3 [] → GW g s (mkS σ [] [] [(13, v_near)] []) H locs → Net_join_n33 v_near = some w_near → Wg p l e 2 43 s m args below meth c g none (mkS σ [] [] [(13, w_near)] []) H locs (F0 m 33 ls []) := by
    intro v_near H locs ls hl hG h
    unfold Net_join_n33 at h
    cases h
    exact gx_vret hx hb hr hlocks hG dX2_join_33
  refine lv_aload_n hx hb dX2_join_0 rfl (lv_at hl 0 rfl) ?_
  refine lv_iload_n hx hb dX2_join_1 rfl (lv_at hl 1 rfl) ?_
  refine lv_iload_n hx hb dX2_join_2 rfl (lv_at hl 2 rfl) ?_
  obtain ⟨z1, hc2, h⟩ := bnd_some h
  refine gx_cV (σ' := (mkS σ [] [] [(13, (σ.2.2.1 13))] [])) (r := (some (.int z1))) (rest := []) (As := [.int x1, .int x2]) hS9 (c_Net_mayJoin_12 l g (mkS σ [] [] [(13, (σ.2.2.1 13))] []) x1 x2 z1 hc2) rfl (cwV 2 hts (gz_V mw_2_141 mw_2_123 mw_2_124 mw_1_3 mw_2_125) rfl rfl rfl hdV_X2_mayJoin ⟨Nat.le_of_ble_eq_true rfl, Nat.le_of_ble_eq_true rfl⟩) hK hG (ga_12 g _) rfl rfl rfl hl.1 rfl (Nat.le_of_ble_eq_true rfl) dX2_join_3 (fun H locs hG => ?_)
  refine W.eq (g2 := F0 m 6 ls [.int z1]) rfl ?_
  refine lv_if_eq (tgt := 33) hx hb dX2_join_6 (by decide) (fun c3 => ?_) (fun c3 => ?_)
  · have h := ite_t c3 h
    exact n33 (σ.2.2.1 13) _ _ _ (lv_sub hl [] rfl) hG h
  · have h := ite_f c3 h
    refine lv_aload_n hx hb dX2_join_9 rfl (lv_at hl 0 rfl) ?_
    refine gx_get (v := .ref (g.2.1 13)) (C := RX2) (T := TX2) (N := 2) hx hb hts mc_X2 hown hK hG (ga_12 g _) rfl 0 (by decide) hw0 rfl rfl dX2_join_10 ?_
    refine lv_iload_n hx hb dX2_join_13 rfl (lv_at hl 1 rfl) ?_
    refine lv_dup2_11 hx hb dX2_join_14 rfl rfl ?_
    obtain ⟨hg4, h⟩ := gd_some h
    refine gx_iald (f := (σ.2.2.1 13)) hx hb hK hG (ga_13 g _) hg4 dX2_join_15 ?_
    refine lv_iconst (v := (1 : Int32)) hx hb dX2_join_16 (by decide) ?_
    refine lv_iload_n hx hb dX2_join_17 rfl (lv_at hl 2 rfl) ?_
    refine lv_ishl hx hb dX2_join_18 ?_
    refine lv_ior hx hb dX2_join_19 ?_
    refine lv_topi (fun y5 ey5 => ?_)
    have h := lt_at h ey5
    refine gx_iast (σ' := (mkS σ [] [] [(13, (upd (σ.2.2.1 13) (x1.toNatClampNeg) y5))] [])) (f := (σ.2.2.1 13)) hx hb hK hG (ga_13 g _) hg4 ((gs_13 g _ _).trans (congrArg (g_cells g) (mk_c 0 rfl rfl))) dX2_join_20 (fun H locs hG => ?_)
    refine lv_aload_n hx hb dX2_join_21 rfl (lv_at hl 0 rfl) ?_
    refine gx_get (v := .ref (g.2.1 13)) (C := RX2) (T := TX2) (N := 2) hx hb hts mc_X2 hown hK hG (ga_12 g _) rfl 0 (by decide) hw0 rfl rfl dX2_join_22 ?_
    refine lv_iload_n hx hb dX2_join_25 rfl (lv_at hl 2 rfl) ?_
    refine lv_dup2_11 hx hb dX2_join_26 rfl rfl ?_
    obtain ⟨hg6, h⟩ := gd_some h
    refine gx_iald (f := (upd (σ.2.2.1 13) (x1.toNatClampNeg) y5)) hx hb hK hG (ga_13 g _) hg6 dX2_join_27 ?_
    refine lv_iconst (v := (1 : Int32)) hx hb dX2_join_28 (by decide) ?_
    refine lv_iload_n hx hb dX2_join_29 rfl (lv_at hl 1 rfl) ?_
    refine lv_ishl hx hb dX2_join_30 ?_
    refine lv_ior hx hb dX2_join_31 ?_
    refine lv_topi (fun y7 ey7 => ?_)
    have h := lt_at h ey7
    refine gx_iast (σ' := (mkS σ [] [] [(13, (upd (upd (σ.2.2.1 13) (x1.toNatClampNeg) y5) (x2.toNatClampNeg) y7))] [])) (f := (upd (σ.2.2.1 13) (x1.toNatClampNeg) y5)) hx hb hK hG (ga_13 g _) hg6 ((gs_13 g _ _).trans (congrArg (g_cells g) (mk_c 0 rfl rfl))) dX2_join_32 (fun H locs hG => ?_)
    exact n33 (upd (upd (σ.2.2.1 13) (x1.toNatClampNeg) y5) (x2.toNatClampNeg) y7) _ _ _ (lv_sub hl [] rfl) hG h

set_option maxHeartbeats 4000000 in
set_option maxRecDepth 100000 in
theorem c_Mk_layWords (l : Launch) (g : GC) (σ : St) (x1 : Int32) (w_p0_near : Nat → Int32) (h : Mk_layWords x1 (σ.1 769) (σ.2.2.1 13) = some w_p0_near) : Cn l g yX1_layWords (Cond.code yX1_layWords cX1_layWords 4 none :: wG) 3 65 [.ref (g.2.1 12), .int x1] σ none (mkS σ [] [] [(13, w_p0_near)] []) := by
  unfold Cn
  refine Met.ofW (cc := cX1_layWords) (maxL := 4) (ret := none) (by decide) rfl ?_
  intro p e s m args below meth c s₁ B hml hv
  obtain ⟨hargs, hP0, hK⟩ := hv
  have hx := B.exec
  have hb := B.bytes
  have hr := B.returns
  have hts : ∀ w ∈ wG, w.before args s = true := fun w h => atoms_spec (ws := (Cond.code yX1_layWords cX1_layWords 4 none :: wG)) B.pre w (List.mem_cons_of_mem _ h)
  have hown : s.vm.findClass RX1 = some m.cls := findClass_of_methodNamed B.named
  have hlocks := B.notSynchronized
  have hS9 : CallFix p m c cX1_layWords 4 s args wG RX1 := ⟨hx, hb, hml, hown, hts⟩
  have hw0 := hts _ mw_1_60
  have hf9 : entryFrame m args 4 = _ := (congrArg (fun a => entryFrame m a 4) hargs).trans (lg_entry_eq m [.ref (g.2.1 12), .int x1] 4)
  show Wg p l e 3 65 s m args below meth c g none (mkS σ [] [] [(13, w_p0_near)] []) s.heap [] (entryFrame m args 4)
  rw [hf9]
  have hl := lv_entry ([.ref (g.2.1 12), .int x1]) (n := 4) (Nat.le_of_ble_eq_true rfl)
  generalize (lg_sl ([.ref (g.2.1 12), .int x1]) ++ List.replicate (4 - (lg_sl ([.ref (g.2.1 12), .int x1])).length) Slot.unset).toArray = ls at hl ⊢
  have hl : lv_has ls 4 [(0, .ref (g.2.1 12)), (1, .int x1)] := hl
  have hG : GW g s σ s.heap [] := ⟨hP0, va_S.rf⟩
  have hG : GW g s (mkS σ [] [] [(13, (σ.2.2.1 13))] []) s.heap [] := GW_self [] [] [13] [] hG
  unfold Mk_layWords at h
  have n38 : ∀ (k14 : Int32 → Int32 → Int32 → (Nat → Int32) → Option ((Nat → Int32))) (hk14 : ∀ (x1 : Int32) (x2 : Int32) (x3 : Int32) (v_p0_near : Nat → Int32) (H : Heap) (locs : List Loc) (ls : Array Slot), lv_has ls 4 [(0, .ref (g.2.1 12)), (1, .int x1), (2, .int x2), (3, .int x3)] → GW g s (mkS σ [] [] [(13, v_p0_near)] []) H locs → k14 x1 x2 x3 v_p0_near = some w_p0_near → Wg p l e 3 65 s m args below meth c g none (mkS σ [] [] [(13, w_p0_near)] []) H locs (F0 m 14 ls [])) (x1 : Int32) (x2 : Int32) (x3 : Int32) (v_p0_near : Nat → Int32) (H : Heap) (locs : List Loc) (ls : Array Slot), lv_has ls 4 [(0, .ref (g.2.1 12)), (1, .int x1), (2, .int x2), (3, .int x3)] → GW g s (mkS σ [] [] [(13, v_p0_near)] []) H locs → Mk_layWords_n38 k14 x1 x2 x3 v_p0_near = some w_p0_near → Wg p l e 3 65 s m args below meth c g none (mkS σ [] [] [(13, w_p0_near)] []) H locs (F0 m 38 ls []) := by
    intro k14 hk14 x1 x2 x3 v_p0_near H locs ls hl hG h
    unfold Mk_layWords_n38 at h
    refine lv_iinc (v := (x3 + (1 : Int32))) (lv' := [(3, .int (x3 + (1 : Int32))), (0, .ref (g.2.1 12)), (1, .int x1), (2, .int x2)]) hx hb dX1_layWords_38 hl (k := 3) rfl (congrArg (fun z => x3 + z) (by decide)) (Nat.le_of_ble_eq_true rfl) rfl (fun ls hl => ?_)
    refine lv_goto (tgt := 14) hx hb dX1_layWords_41 (by decide) ?_
    exact hk14 x1 x2 (x3 + (1 : Int32)) v_p0_near _ _ _ (lv_sub hl [1, 2, 3, 0] rfl) hG h
  have n44 : ∀ (k2 : Int32 → Int32 → (Nat → Int32) → Option ((Nat → Int32))) (hk2 : ∀ (x1 : Int32) (x2 : Int32) (v_p0_near : Nat → Int32) (H : Heap) (locs : List Loc) (ls : Array Slot), lv_has ls 4 [(0, .ref (g.2.1 12)), (1, .int x1), (2, .int x2)] → GW g s (mkS σ [] [] [(13, v_p0_near)] []) H locs → k2 x1 x2 v_p0_near = some w_p0_near → Wg p l e 3 65 s m args below meth c g none (mkS σ [] [] [(13, w_p0_near)] []) H locs (F0 m 2 ls [])) (x1 : Int32) (x2 : Int32) (v_p0_near : Nat → Int32) (H : Heap) (locs : List Loc) (ls : Array Slot), lv_has ls 4 [(0, .ref (g.2.1 12)), (1, .int x1), (2, .int x2)] → GW g s (mkS σ [] [] [(13, v_p0_near)] []) H locs → Mk_layWords_n44 k2 x1 x2 v_p0_near = some w_p0_near → Wg p l e 3 65 s m args below meth c g none (mkS σ [] [] [(13, w_p0_near)] []) H locs (F0 m 44 ls []) := by
    intro k2 hk2 x1 x2 v_p0_near H locs ls hl hG h
    unfold Mk_layWords_n44 at h
    refine lv_iinc (v := (x2 + (1 : Int32))) (lv' := [(2, .int (x2 + (1 : Int32))), (0, .ref (g.2.1 12)), (1, .int x1)]) hx hb dX1_layWords_44 hl (k := 2) rfl (congrArg (fun z => x2 + z) (by decide)) (Nat.le_of_ble_eq_true rfl) rfl (fun ls hl => ?_)
    refine lv_goto (tgt := 2) hx hb dX1_layWords_47 (by decide) ?_
    exact hk2 x1 (x2 + (1 : Int32)) v_p0_near _ _ _ (lv_sub hl [1, 2, 0] rfl) hG h
  have n14 : ∀ (k2 : Int32 → Int32 → (Nat → Int32) → Option ((Nat → Int32))) (hk2 : ∀ (x1 : Int32) (x2 : Int32) (v_p0_near : Nat → Int32) (H : Heap) (locs : List Loc) (ls : Array Slot), lv_has ls 4 [(0, .ref (g.2.1 12)), (1, .int x1), (2, .int x2)] → GW g s (mkS σ [] [] [(13, v_p0_near)] []) H locs → k2 x1 x2 v_p0_near = some w_p0_near → Wg p l e 3 65 s m args below meth c g none (mkS σ [] [] [(13, w_p0_near)] []) H locs (F0 m 2 ls [])) (k14 : Int32 → Int32 → Int32 → (Nat → Int32) → Option ((Nat → Int32))) (hk14 : ∀ (x1 : Int32) (x2 : Int32) (x3 : Int32) (v_p0_near : Nat → Int32) (H : Heap) (locs : List Loc) (ls : Array Slot), lv_has ls 4 [(0, .ref (g.2.1 12)), (1, .int x1), (2, .int x2), (3, .int x3)] → GW g s (mkS σ [] [] [(13, v_p0_near)] []) H locs → k14 x1 x2 x3 v_p0_near = some w_p0_near → Wg p l e 3 65 s m args below meth c g none (mkS σ [] [] [(13, w_p0_near)] []) H locs (F0 m 14 ls [])) (x1 : Int32) (x2 : Int32) (x3 : Int32) (v_p0_near : Nat → Int32) (H : Heap) (locs : List Loc) (ls : Array Slot), lv_has ls 4 [(0, .ref (g.2.1 12)), (1, .int x1), (2, .int x2), (3, .int x3)] → GW g s (mkS σ [] [] [(13, v_p0_near)] []) H locs → Mk_layWords_n14 k2 k14 (σ.1 769) x1 x2 x3 v_p0_near = some w_p0_near → Wg p l e 3 65 s m args below meth c g none (mkS σ [] [] [(13, w_p0_near)] []) H locs (F0 m 14 ls []) := by
    intro k2 hk2 k14 hk14 x1 x2 x3 v_p0_near H locs ls hl hG h
    unfold Mk_layWords_n14 at h
    refine lv_iload_n hx hb dX1_layWords_14 rfl (lv_at hl 3 rfl) ?_
    refine lv_aload_n hx hb dX1_layWords_15 rfl (lv_at hl 0 rfl) ?_
    refine gx_get (v := .int (σ.1 769)) (C := RX2) (T := TX2) (N := 2) hx hb hts mc_X2 hown hK hG (ga_12 g _) rfl 1 (by decide) hw0 rfl rfl dX1_layWords_16 ?_
    refine lv_icmp_ge (tgt := 44) hx hb dX1_layWords_19 (by decide) (fun c1 => ?_) (fun c1 => ?_)
    · have h := ite_t c1 h
      exact n44 k2 hk2 x1 x2 v_p0_near _ _ _ (lv_sub hl [0, 1, 2] rfl) hG h
    · have h := ite_f c1 h
      refine lv_iload_n hx hb dX1_layWords_22 rfl (lv_at hl 2 rfl) ?_
      refine lv_iload_n hx hb dX1_layWords_23 rfl (lv_at hl 3 rfl) ?_
      refine lv_iload_n hx hb dX1_layWords_24 rfl (lv_at hl 1 rfl) ?_
      obtain ⟨z2, hc3, h⟩ := bnd_some h
      refine gx_cS (σ' := (mkS σ [] [] [(13, v_p0_near)] [])) (r := (some (.int z2))) (rest := []) (As := [.int x2, .int x3, .int x1]) hS9 (c_Mk_unlikeLetters l g (mkS σ [] [] [(13, v_p0_near)] []) x2 x3 x1 z2 hc3) rfl (va_cwS 3 hts (gz_S mw_2_203 mw_2_204 mw_1_4 mw_2_205) rfl rfl rfl hdS_X1_unlikeLetters ⟨Nat.le_of_ble_eq_true rfl, Nat.le_of_ble_eq_true rfl⟩) hK hG rfl hl.1 rfl (Nat.le_of_ble_eq_true rfl) dX1_layWords_25 (fun H locs hG => ?_)
      refine W.eq (g2 := F0 m 28 ls [.int z2]) rfl ?_
      refine lv_iconst (v := (1 : Int32)) hx hb dX1_layWords_28 (by decide) ?_
      refine lv_icmp_ne (tgt := 38) hx hb dX1_layWords_29 (by decide) (fun c4 => ?_) (fun c4 => ?_)
      · have h := ite_f c4 h
        exact n38 k14 hk14 x1 x2 x3 v_p0_near _ _ _ (lv_sub hl [0, 1, 2, 3] rfl) hG h
      · have h := ite_t c4 h
        refine lv_aload_n hx hb dX1_layWords_32 rfl (lv_at hl 0 rfl) ?_
        refine lv_iload_n hx hb dX1_layWords_33 rfl (lv_at hl 2 rfl) ?_
        refine lv_iload_n hx hb dX1_layWords_34 rfl (lv_at hl 3 rfl) ?_
        obtain ⟨z5, hc6, h⟩ := bnd_some h
        refine gx_cV (σ' := (mkS σ [] [] [(13, z5)] [])) (r := none) (rest := []) (As := [.int x2, .int x3]) hS9 (c_Net_join_12 l g (mkS σ [] [] [(13, v_p0_near)] []) x2 x3 z5 hc6) (mk_mk rfl rfl rfl rfl) (cwV 2 hts (gz_V mw_2_206 mw_2_138 mw_2_139 mw_1_3 mw_2_140) rfl rfl rfl hdV_X2_join ⟨Nat.le_of_ble_eq_true rfl, Nat.le_of_ble_eq_true rfl⟩) hK hG (ga_12 g _) rfl rfl rfl hl.1 rfl (Nat.le_of_ble_eq_true rfl) dX1_layWords_35 (fun H locs hG => ?_)
        refine W.eq (g2 := F0 m 38 ls []) rfl ?_
        exact n38 k14 hk14 x1 x2 x3 z5 _ _ _ (lv_sub hl [0, 1, 2, 3] rfl) hG h
  have l14 : ∀ (k2 : Int32 → Int32 → (Nat → Int32) → Option ((Nat → Int32))) (hk2 : ∀ (x1 : Int32) (x2 : Int32) (v_p0_near : Nat → Int32) (H : Heap) (locs : List Loc) (ls : Array Slot), lv_has ls 4 [(0, .ref (g.2.1 12)), (1, .int x1), (2, .int x2)] → GW g s (mkS σ [] [] [(13, v_p0_near)] []) H locs → k2 x1 x2 v_p0_near = some w_p0_near → Wg p l e 3 65 s m args below meth c g none (mkS σ [] [] [(13, w_p0_near)] []) H locs (F0 m 2 ls [])) (F : Nat) (x1 : Int32) (x2 : Int32) (x3 : Int32) (v_p0_near : Nat → Int32) (H : Heap) (locs : List Loc) (ls : Array Slot), lv_has ls 4 [(0, .ref (g.2.1 12)), (1, .int x1), (2, .int x2), (3, .int x3)] → GW g s (mkS σ [] [] [(13, v_p0_near)] []) H locs → Mk_layWords_l14 k2 (σ.1 769) F x1 x2 x3 v_p0_near = some w_p0_near → Wg p l e 3 65 s m args below meth c g none (mkS σ [] [] [(13, w_p0_near)] []) H locs (F0 m 14 ls []) := by
    intro k2 hk2 F
    induction F with
    | zero => intro x1 x2 x3 v_p0_near H locs ls hl hG h; exact no_some h
    | succ F ih => intro x1 x2 x3 v_p0_near H locs ls hl hG h; exact n14 k2 hk2 (fun x1 x2 x3 v_p0_near => Mk_layWords_l14 k2 (σ.1 769) F x1 x2 x3 v_p0_near) ih x1 x2 x3 v_p0_near H locs ls hl hG h
  have n50 : ∀ (v_p0_near : Nat → Int32) (H : Heap) (locs : List Loc) (ls : Array Slot), lv_has ls 4 [] → GW g s (mkS σ [] [] [(13, v_p0_near)] []) H locs → Mk_layWords_n50 v_p0_near = some w_p0_near → Wg p l e 3 65 s m args below meth c g none (mkS σ [] [] [(13, w_p0_near)] []) H locs (F0 m 50 ls []) := by
    intro v_p0_near H locs ls hl hG h
    unfold Mk_layWords_n50 at h
    cases h
    exact gx_vret hx hb hr hlocks hG dX1_layWords_50
  have n2 : ∀ (k2 : Int32 → Int32 → (Nat → Int32) → Option ((Nat → Int32))) (hk2 : ∀ (x1 : Int32) (x2 : Int32) (v_p0_near : Nat → Int32) (H : Heap) (locs : List Loc) (ls : Array Slot), lv_has ls 4 [(0, .ref (g.2.1 12)), (1, .int x1), (2, .int x2)] → GW g s (mkS σ [] [] [(13, v_p0_near)] []) H locs → k2 x1 x2 v_p0_near = some w_p0_near → Wg p l e 3 65 s m args below meth c g none (mkS σ [] [] [(13, w_p0_near)] []) H locs (F0 m 2 ls [])) (x1 : Int32) (x2 : Int32) (v_p0_near : Nat → Int32) (H : Heap) (locs : List Loc) (ls : Array Slot), lv_has ls 4 [(0, .ref (g.2.1 12)), (1, .int x1), (2, .int x2)] → GW g s (mkS σ [] [] [(13, v_p0_near)] []) H locs → Mk_layWords_n2 k2 (σ.1 769) x1 x2 v_p0_near = some w_p0_near → Wg p l e 3 65 s m args below meth c g none (mkS σ [] [] [(13, w_p0_near)] []) H locs (F0 m 2 ls []) := by
    intro k2 hk2 x1 x2 v_p0_near H locs ls hl hG h
    unfold Mk_layWords_n2 at h
    refine lv_iload_n hx hb dX1_layWords_2 rfl (lv_at hl 2 rfl) ?_
    refine lv_aload_n hx hb dX1_layWords_3 rfl (lv_at hl 0 rfl) ?_
    refine gx_get (v := .int (σ.1 769)) (C := RX2) (T := TX2) (N := 2) hx hb hts mc_X2 hown hK hG (ga_12 g _) rfl 1 (by decide) hw0 rfl rfl dX1_layWords_4 ?_
    refine lv_icmp_ge (tgt := 50) hx hb dX1_layWords_7 (by decide) (fun c7 => ?_) (fun c7 => ?_)
    · have h := ite_t c7 h
      exact n50 v_p0_near _ _ _ (lv_sub hl [] rfl) hG h
    · have h := ite_f c7 h
      refine lv_iload_n hx hb dX1_layWords_10 rfl (lv_at hl 2 rfl) ?_
      refine lv_iconst (v := (1 : Int32)) hx hb dX1_layWords_11 (by decide) ?_
      refine lv_iadd hx hb dX1_layWords_12 ?_
      refine lv_istore_n (lv' := [(3, .int (x2 + (1 : Int32))), (0, .ref (g.2.1 12)), (1, .int x1), (2, .int x2)]) hx hb dX1_layWords_13 rfl hl (Nat.le_of_ble_eq_true rfl) rfl (fun ls hl => ?_)
      exact l14 k2 hk2 FUEL x1 x2 (x2 + (1 : Int32)) v_p0_near _ _ _ (lv_sub hl [1, 2, 3, 0] rfl) hG h
  have l2 : ∀  (F : Nat) (x1 : Int32) (x2 : Int32) (v_p0_near : Nat → Int32) (H : Heap) (locs : List Loc) (ls : Array Slot), lv_has ls 4 [(0, .ref (g.2.1 12)), (1, .int x1), (2, .int x2)] → GW g s (mkS σ [] [] [(13, v_p0_near)] []) H locs → Mk_layWords_l2 (σ.1 769) F x1 x2 v_p0_near = some w_p0_near → Wg p l e 3 65 s m args below meth c g none (mkS σ [] [] [(13, w_p0_near)] []) H locs (F0 m 2 ls []) := by
    intro F
    induction F with
    | zero => intro x1 x2 v_p0_near H locs ls hl hG h; exact no_some h
    | succ F ih => intro x1 x2 v_p0_near H locs ls hl hG h; exact n2 (fun x1 x2 v_p0_near => Mk_layWords_l2 (σ.1 769) F x1 x2 v_p0_near) ih x1 x2 v_p0_near H locs ls hl hG h
  refine lv_iconst (v := (0 : Int32)) hx hb dX1_layWords_0 (by decide) ?_
  refine lv_istore_n (lv' := [(2, .int (0 : Int32)), (0, .ref (g.2.1 12)), (1, .int x1)]) hx hb dX1_layWords_1 rfl hl (Nat.le_of_ble_eq_true rfl) rfl (fun ls hl => ?_)
  exact l2 FUEL x1 (0 : Int32) (σ.2.2.1 13) _ _ _ (lv_sub hl [1, 2, 0] rfl) hG h

set_option maxHeartbeats 4000000 in
set_option maxRecDepth 100000 in
theorem c_JI_bitCount (l : Launch) (g : GC) (σ : St) (x0 : Int32) (r : Int32) (h : JI_bitCount x0 = some r) : Cn l g yJ6_bitCount_0f7a4 (Cond.code yJ6_bitCount_0f7a4 cJ6_bitCount_0f7a4 1 (some .int) :: wG) 0 0 [.int x0] σ (some (.int r)) σ := by
  unfold Cn
  refine Met.ofW (cc := cJ6_bitCount_0f7a4) (maxL := 1) (ret := (some .int)) (by decide) rfl ?_
  intro p e s m args below meth c s₁ B hml hv
  obtain ⟨hargs, hP0, hK⟩ := hv
  have hx := B.exec
  have hb := B.bytes
  have hr := B.returns
  have hts : ∀ w ∈ wG, w.before args s = true := fun w h => atoms_spec (ws := (Cond.code yJ6_bitCount_0f7a4 cJ6_bitCount_0f7a4 1 (some .int) :: wG)) B.pre w (List.mem_cons_of_mem _ h)
  have hown : s.vm.findClass RJ6 = some m.cls := findClass_of_methodNamed B.named
  have hlocks := B.notSynchronized
  have hw0 := hts _ mw_2_171
  have hw1 := hts _ mw_2_172
  have hw2 := hts _ mw_2_173
  have hf9 : entryFrame m args 1 = _ := (congrArg (fun a => entryFrame m a 1) hargs).trans (lg_entry_eq m [.int x0] 1)
  show Wg p l e 0 0 s m args below meth c g (some (.int r)) σ s.heap [] (entryFrame m args 1)
  rw [hf9]
  have hl := lv_entry ([.int x0]) (n := 1) (Nat.le_of_ble_eq_true rfl)
  generalize (lg_sl ([.int x0]) ++ List.replicate (1 - (lg_sl ([.int x0])).length) Slot.unset).toArray = ls at hl ⊢
  have hl : lv_has ls 1 [(0, .int x0)] := hl
  have hG : GW g s σ s.heap [] := ⟨hP0, va_S.rf⟩
  unfold JI_bitCount at h
  refine lv_iload_n hx hb dJ6_bitCount_0f7a4_0 rfl (lv_at hl 0 rfl) ?_
  refine lv_iload_n hx hb dJ6_bitCount_0f7a4_1 rfl (lv_at hl 0 rfl) ?_
  refine lv_iconst (v := (1 : Int32)) hx hb dJ6_bitCount_0f7a4_2 (by decide) ?_
  refine lv_iushr hx hb dJ6_bitCount_0f7a4_3 rfl ?_
  refine lv_ldcw hx hb hown hw0 dJ6_bitCount_0f7a4_4 ?_
  refine lv_iand hx hb dJ6_bitCount_0f7a4_7 ?_
  refine lv_isub hx hb dJ6_bitCount_0f7a4_8 ?_
  refine lv_topi (fun y1 ey1 => ?_)
  have h := lt_at h ey1
  refine lv_istore_n (lv' := [(0, .int y1)]) hx hb dJ6_bitCount_0f7a4_9 rfl hl (Nat.le_of_ble_eq_true rfl) rfl (fun ls hl => ?_)
  refine lv_iload_n hx hb dJ6_bitCount_0f7a4_10 rfl (lv_at hl 0 rfl) ?_
  refine lv_ldcw hx hb hown hw1 dJ6_bitCount_0f7a4_11 ?_
  refine lv_iand hx hb dJ6_bitCount_0f7a4_14 ?_
  refine lv_iload_n hx hb dJ6_bitCount_0f7a4_15 rfl (lv_at hl 0 rfl) ?_
  refine lv_iconst (v := (2 : Int32)) hx hb dJ6_bitCount_0f7a4_16 (by decide) ?_
  refine lv_iushr hx hb dJ6_bitCount_0f7a4_17 rfl ?_
  refine lv_ldcw hx hb hown hw1 dJ6_bitCount_0f7a4_18 ?_
  refine lv_iand hx hb dJ6_bitCount_0f7a4_21 ?_
  refine lv_iadd hx hb dJ6_bitCount_0f7a4_22 ?_
  refine lv_topi (fun y2 ey2 => ?_)
  have h := lt_at h ey2
  refine lv_istore_n (lv' := [(0, .int y2)]) hx hb dJ6_bitCount_0f7a4_23 rfl hl (Nat.le_of_ble_eq_true rfl) rfl (fun ls hl => ?_)
  refine lv_iload_n hx hb dJ6_bitCount_0f7a4_24 rfl (lv_at hl 0 rfl) ?_
  refine lv_iload_n hx hb dJ6_bitCount_0f7a4_25 rfl (lv_at hl 0 rfl) ?_
  refine lv_iconst (v := (4 : Int32)) hx hb dJ6_bitCount_0f7a4_26 (by decide) ?_
  refine lv_iushr hx hb dJ6_bitCount_0f7a4_27 rfl ?_
  refine lv_iadd hx hb dJ6_bitCount_0f7a4_28 ?_
  refine lv_ldcw hx hb hown hw2 dJ6_bitCount_0f7a4_29 ?_
  refine lv_iand hx hb dJ6_bitCount_0f7a4_32 ?_
  refine lv_topi (fun y3 ey3 => ?_)
  have h := lt_at h ey3
  refine lv_istore_n (lv' := [(0, .int y3)]) hx hb dJ6_bitCount_0f7a4_33 rfl hl (Nat.le_of_ble_eq_true rfl) rfl (fun ls hl => ?_)
  refine lv_iload_n hx hb dJ6_bitCount_0f7a4_34 rfl (lv_at hl 0 rfl) ?_
  refine lv_iload_n hx hb dJ6_bitCount_0f7a4_35 rfl (lv_at hl 0 rfl) ?_
  refine lv_bipush (v := (8 : Int32)) hx hb dJ6_bitCount_0f7a4_36 (by decide) ?_
  refine lv_iushr hx hb dJ6_bitCount_0f7a4_38 rfl ?_
  refine lv_iadd hx hb dJ6_bitCount_0f7a4_39 ?_
  refine lv_topi (fun y4 ey4 => ?_)
  have h := lt_at h ey4
  refine lv_istore_n (lv' := [(0, .int y4)]) hx hb dJ6_bitCount_0f7a4_40 rfl hl (Nat.le_of_ble_eq_true rfl) rfl (fun ls hl => ?_)
  refine lv_iload_n hx hb dJ6_bitCount_0f7a4_41 rfl (lv_at hl 0 rfl) ?_
  refine lv_iload_n hx hb dJ6_bitCount_0f7a4_42 rfl (lv_at hl 0 rfl) ?_
  refine lv_bipush (v := (16 : Int32)) hx hb dJ6_bitCount_0f7a4_43 (by decide) ?_
  refine lv_iushr hx hb dJ6_bitCount_0f7a4_45 rfl ?_
  refine lv_iadd hx hb dJ6_bitCount_0f7a4_46 ?_
  refine lv_topi (fun y5 ey5 => ?_)
  have h := lt_at h ey5
  refine lv_istore_n (lv' := [(0, .int y5)]) hx hb dJ6_bitCount_0f7a4_47 rfl hl (Nat.le_of_ble_eq_true rfl) rfl (fun ls hl => ?_)
  refine lv_iload_n hx hb dJ6_bitCount_0f7a4_48 rfl (lv_at hl 0 rfl) ?_
  refine lv_bipush (v := (63 : Int32)) hx hb dJ6_bitCount_0f7a4_49 (by decide) ?_
  refine lv_iand hx hb dJ6_bitCount_0f7a4_51 ?_
  cases h
  exact gx_iret hx hb hr hlocks hG dJ6_bitCount_0f7a4_52

set_option maxHeartbeats 4000000 in
set_option maxRecDepth 100000 in
theorem c_Mk_isRoad (l : Launch) (g : GC) (σ : St) (x1 : Int32) (x2 : Int32) (x3 : Int32) (x4 : Int32) (x5 : Int32) (r : Int32) (h : Mk_isRoad x1 x2 x3 x4 x5 (σ.2.2.1 19) = some r) : Cn l g yX1_isRoad (Cond.code yX1_isRoad cX1_isRoad 6 (some .boolean) :: wG) 1 20 [.ref (g.2.1 18), .int x1, .int x2, .int x3, .int x4, .int x5] σ (some (.int r)) σ := by
  unfold Cn
  refine Met.ofW (cc := cX1_isRoad) (maxL := 6) (ret := (some .boolean)) (by decide) rfl ?_
  intro p e s m args below meth c s₁ B hml hv
  obtain ⟨hargs, hP0, hK⟩ := hv
  have hx := B.exec
  have hb := B.bytes
  have hr := B.returns
  have hts : ∀ w ∈ wG, w.before args s = true := fun w h => atoms_spec (ws := (Cond.code yX1_isRoad cX1_isRoad 6 (some .boolean) :: wG)) B.pre w (List.mem_cons_of_mem _ h)
  have hown : s.vm.findClass RX1 = some m.cls := findClass_of_methodNamed B.named
  have hlocks := B.notSynchronized
  have hS9 : CallFix p m c cX1_isRoad 6 s args wG RX1 := ⟨hx, hb, hml, hown, hts⟩
  have hw0 := hts _ mw_1_73
  have hf9 : entryFrame m args 6 = _ := (congrArg (fun a => entryFrame m a 6) hargs).trans (lg_entry_eq m [.ref (g.2.1 18), .int x1, .int x2, .int x3, .int x4, .int x5] 6)
  show Wg p l e 1 20 s m args below meth c g (some (.int r)) σ s.heap [] (entryFrame m args 6)
  rw [hf9]
  have hl := lv_entry ([.ref (g.2.1 18), .int x1, .int x2, .int x3, .int x4, .int x5]) (n := 6) (Nat.le_of_ble_eq_true rfl)
  generalize (lg_sl ([.ref (g.2.1 18), .int x1, .int x2, .int x3, .int x4, .int x5]) ++ List.replicate (6 - (lg_sl ([.ref (g.2.1 18), .int x1, .int x2, .int x3, .int x4, .int x5])).length) Slot.unset).toArray = ls at hl ⊢
  have hl : lv_has ls 6 [(0, .ref (g.2.1 18)), (1, .int x1), (2, .int x2), (3, .int x3), (4, .int x4), (5, .int x5)] := hl
  have hG : GW g s σ s.heap [] := ⟨hP0, va_S.rf⟩
  unfold Mk_isRoad at h
  have n64 : ∀ (t0 : Int32) (H : Heap) (locs : List Loc) (ls : Array Slot), lv_has ls 6 [] → GW g s σ H locs → Mk_isRoad_n64 t0 = some r → Wg p l e 1 20 s m args below meth c g (some (.int r)) σ H locs (F0 m 64 ls [.int t0]) := by
    intro t0 H locs ls hl hG h
    unfold Mk_isRoad_n64 at h
    obtain ⟨hg1, h⟩ := gd_some h
    cases h
    exact gx_zret hx hb hr hlocks hg1 hG dX1_isRoad_64
  have n59 : ∀  (H : Heap) (locs : List Loc) (ls : Array Slot), lv_has ls 6 [] → GW g s σ H locs → Mk_isRoad_n59 = some r → Wg p l e 1 20 s m args below meth c g (some (.int r)) σ H locs (F0 m 59 ls []) := by
    intro H locs ls hl hG h
    unfold Mk_isRoad_n59 at h
    refine lv_iconst (v := (1 : Int32)) hx hb dX1_isRoad_59 (by decide) ?_
    refine lv_goto (tgt := 64) hx hb dX1_isRoad_60 (by decide) ?_
    exact n64 (1 : Int32) _ _ _ (lv_sub hl [] rfl) hG h
  have n63 : ∀  (H : Heap) (locs : List Loc) (ls : Array Slot), lv_has ls 6 [] → GW g s σ H locs → Mk_isRoad_n63 = some r → Wg p l e 1 20 s m args below meth c g (some (.int r)) σ H locs (F0 m 63 ls []) := by
    intro H locs ls hl hG h
    unfold Mk_isRoad_n63 at h
    refine lv_iconst (v := (0 : Int32)) hx hb dX1_isRoad_63 (by decide) ?_
    exact n64 (0 : Int32) _ _ _ (lv_sub hl [] rfl) hG h
  have n95 : ∀ (t0 : Int32) (H : Heap) (locs : List Loc) (ls : Array Slot), lv_has ls 6 [] → GW g s σ H locs → Mk_isRoad_n95 t0 = some r → Wg p l e 1 20 s m args below meth c g (some (.int r)) σ H locs (F0 m 95 ls [.int t0]) := by
    intro t0 H locs ls hl hG h
    unfold Mk_isRoad_n95 at h
    obtain ⟨hg2, h⟩ := gd_some h
    cases h
    exact gx_zret hx hb hr hlocks hg2 hG dX1_isRoad_95
  have n117 : ∀ (t0 : Int32) (H : Heap) (locs : List Loc) (ls : Array Slot), lv_has ls 6 [] → GW g s σ H locs → Mk_isRoad_n117 t0 = some r → Wg p l e 1 20 s m args below meth c g (some (.int r)) σ H locs (F0 m 117 ls [.int t0]) := by
    intro t0 H locs ls hl hG h
    unfold Mk_isRoad_n117 at h
    obtain ⟨hg3, h⟩ := gd_some h
    cases h
    exact gx_zret hx hb hr hlocks hg3 hG dX1_isRoad_117
  have n135 : ∀ (t0 : Int32) (H : Heap) (locs : List Loc) (ls : Array Slot), lv_has ls 6 [] → GW g s σ H locs → Mk_isRoad_n135 t0 = some r → Wg p l e 1 20 s m args below meth c g (some (.int r)) σ H locs (F0 m 135 ls [.int t0]) := by
    intro t0 H locs ls hl hG h
    unfold Mk_isRoad_n135 at h
    obtain ⟨hg4, h⟩ := gd_some h
    cases h
    exact gx_zret hx hb hr hlocks hg4 hG dX1_isRoad_135
  have n134 : ∀  (H : Heap) (locs : List Loc) (ls : Array Slot), lv_has ls 6 [] → GW g s σ H locs → Mk_isRoad_n134 = some r → Wg p l e 1 20 s m args below meth c g (some (.int r)) σ H locs (F0 m 134 ls []) := by
    intro H locs ls hl hG h
    unfold Mk_isRoad_n134 at h
    refine lv_iconst (v := (0 : Int32)) hx hb dX1_isRoad_134 (by decide) ?_
    exact n135 (0 : Int32) _ _ _ (lv_sub hl [] rfl) hG h
  have n136 : ∀  (H : Heap) (locs : List Loc) (ls : Array Slot), lv_has ls 6 [] → GW g s σ H locs → Mk_isRoad_n136 = some r → Wg p l e 1 20 s m args below meth c g (some (.int r)) σ H locs (F0 m 136 ls []) := by
    intro H locs ls hl hG h
    unfold Mk_isRoad_n136 at h
    refine lv_iconst (v := (0 : Int32)) hx hb dX1_isRoad_136 (by decide) ?_
    cases h
    exact gx_zret hx hb hr hlocks (by decide) hG dX1_isRoad_137
  refine lv_iload_n hx hb dX1_isRoad_0 rfl (lv_at hl 1 rfl) ?_
  by_cases c5 : x1 = (0 : Int32)
  · have h := ite_t c5 h
    refine lv_tableIn (off := 39) (tgt := 40) hx hb dX1_isRoad_1 (by rw [c5]; decide) (by rw [c5]; decide) (by rw [c5]; rfl) (by decide) ?_
    refine lv_iload_n hx hb dX1_isRoad_40 rfl (lv_at hl 3 rfl) ?_
    refine lv_iload_n hx hb dX1_isRoad_41 rfl (lv_at hl 2 rfl) ?_
    refine lv_iconst (v := (1 : Int32)) hx hb dX1_isRoad_42 (by decide) ?_
    refine lv_iadd hx hb dX1_isRoad_43 ?_
    refine lv_icmp_eq (tgt := 59) hx hb dX1_isRoad_44 (by decide) (fun c6 => ?_) (fun c6 => ?_)
    · have h := ite_t c6 h
      exact n59 _ _ _ (lv_sub hl [] rfl) hG h
    · have h := ite_f c6 h
      refine lv_iload_n hx hb dX1_isRoad_47 rfl (lv_at hl 2 rfl) ?_
      refine lv_if_ne (tgt := 63) hx hb dX1_isRoad_48 (by decide) (fun c7 => ?_) (fun c7 => ?_)
      · have h := ite_f c7 h
        exact n63 _ _ _ (lv_sub hl [] rfl) hG h
      · have h := ite_t c7 h
        refine lv_iload_n hx hb dX1_isRoad_51 rfl (lv_at hl 3 rfl) ?_
        refine lv_iload hx hb dX1_isRoad_52 (lv_at hl 5 rfl) ?_
        refine lv_iconst (v := (1 : Int32)) hx hb dX1_isRoad_54 (by decide) ?_
        refine lv_isub hx hb dX1_isRoad_55 ?_
        refine lv_icmp_ne (tgt := 63) hx hb dX1_isRoad_56 (by decide) (fun c8 => ?_) (fun c8 => ?_)
        · have h := ite_f c8 h
          exact n63 _ _ _ (lv_sub hl [] rfl) hG h
        · have h := ite_t c8 h
          exact n59 _ _ _ (lv_sub hl [] rfl) hG h
  · have h := ite_f c5 h
    by_cases c9 : x1 = (1 : Int32)
    · have h := ite_t c9 h
      refine lv_tableIn (off := 64) (tgt := 65) hx hb dX1_isRoad_1 (by rw [c9]; decide) (by rw [c9]; decide) (by rw [c9]; rfl) (by decide) ?_
      refine lv_iconst (v := (1 : Int32)) hx hb dX1_isRoad_65 (by decide) ?_
      cases h
      exact gx_zret hx hb hr hlocks (by decide) hG dX1_isRoad_66
    · have h := ite_f c9 h
      by_cases c10 : x1 = (2 : Int32)
      · have h := ite_t c10 h
        refine lv_tableIn (off := 135) (tgt := 136) hx hb dX1_isRoad_1 (by rw [c10]; decide) (by rw [c10]; decide) (by rw [c10]; rfl) (by decide) ?_
        exact n136 _ _ _ (lv_sub hl [] rfl) hG h
      · have h := ite_f c10 h
        by_cases c11 : x1 = (3 : Int32)
        · have h := ite_t c11 h
          refine lv_tableIn (off := 66) (tgt := 67) hx hb dX1_isRoad_1 (by rw [c11]; decide) (by rw [c11]; decide) (by rw [c11]; rfl) (by decide) ?_
          refine lv_aload_n hx hb dX1_isRoad_67 rfl (lv_at hl 0 rfl) ?_
          refine gx_get (v := .ref (g.2.1 19)) (C := RX1) (T := TX1) (N := 1) hx hb hts mc_X1 hown hK hG (ga_18 g _) rfl 0 (by decide) hw0 rfl rfl dX1_isRoad_68 ?_
          refine lv_iload_n hx hb dX1_isRoad_71 rfl (lv_at hl 2 rfl) ?_
          obtain ⟨hg12, h⟩ := gd_some h
          refine gx_iald (f := (σ.2.2.1 19)) hx hb hK hG (ga_19 g _) hg12 dX1_isRoad_72 ?_
          refine lv_aload_n hx hb dX1_isRoad_73 rfl (lv_at hl 0 rfl) ?_
          refine gx_get (v := .ref (g.2.1 19)) (C := RX1) (T := TX1) (N := 1) hx hb hts mc_X1 hown hK hG (ga_18 g _) rfl 0 (by decide) hw0 rfl rfl dX1_isRoad_74 ?_
          refine lv_iload_n hx hb dX1_isRoad_77 rfl (lv_at hl 3 rfl) ?_
          obtain ⟨hg13, h⟩ := gd_some h
          refine gx_iald (f := (σ.2.2.1 19)) hx hb hK hG (ga_19 g _) hg13 dX1_isRoad_78 ?_
          refine lv_iand hx hb dX1_isRoad_79 ?_
          obtain ⟨z14, hc15, h⟩ := bnd_some h
          refine gx_cS (σ' := σ) (r := (some (.int z14))) (rest := []) (As := [.int (((σ.2.2.1 19) (x2.toNatClampNeg)) &&& ((σ.2.2.1 19) (x3.toNatClampNeg)))]) hS9 (c_JI_bitCount l g σ (((σ.2.2.1 19) (x2.toNatClampNeg)) &&& ((σ.2.2.1 19) (x3.toNatClampNeg))) z14 hc15) rfl (va_cwS 1 hts (gz_S mw_2_228 mw_2_169 mw_1_12 mw_2_170) rfl rfl rfl hdS_J6_bitCount_0f7a4 ⟨Nat.le_of_ble_eq_true rfl, Nat.le_of_ble_eq_true rfl⟩) hK hG rfl hl.1 rfl (Nat.le_of_ble_eq_true rfl) dX1_isRoad_80 (fun H locs hG => ?_)
          refine W.eq (g2 := F0 m 83 ls [.int z14]) rfl ?_
          refine lv_iload hx hb dX1_isRoad_83 (lv_at hl 4 rfl) ?_
          refine lv_iconst (v := (1 : Int32)) hx hb dX1_isRoad_85 (by decide) ?_
          refine lv_isub hx hb dX1_isRoad_86 ?_
          refine lv_icmp_ne (tgt := 94) hx hb dX1_isRoad_87 (by decide) (fun c16 => ?_) (fun c16 => ?_)
          · have h := ite_f c16 h
            refine lv_iconst (v := (0 : Int32)) hx hb dX1_isRoad_94 (by decide) ?_
            exact n95 (0 : Int32) _ _ _ (lv_sub hl [] rfl) hG h
          · have h := ite_t c16 h
            refine lv_iconst (v := (1 : Int32)) hx hb dX1_isRoad_90 (by decide) ?_
            refine lv_goto (tgt := 95) hx hb dX1_isRoad_91 (by decide) ?_
            exact n95 (1 : Int32) _ _ _ (lv_sub hl [] rfl) hG h
        · have h := ite_f c11 h
          by_cases c17 : x1 = (4 : Int32)
          · have h := ite_t c17 h
            refine lv_tableIn (off := 95) (tgt := 96) hx hb dX1_isRoad_1 (by rw [c17]; decide) (by rw [c17]; decide) (by rw [c17]; rfl) (by decide) ?_
            refine lv_aload_n hx hb dX1_isRoad_96 rfl (lv_at hl 0 rfl) ?_
            refine gx_get (v := .ref (g.2.1 19)) (C := RX1) (T := TX1) (N := 1) hx hb hts mc_X1 hown hK hG (ga_18 g _) rfl 0 (by decide) hw0 rfl rfl dX1_isRoad_97 ?_
            refine lv_iload_n hx hb dX1_isRoad_100 rfl (lv_at hl 2 rfl) ?_
            obtain ⟨hg18, h⟩ := gd_some h
            refine gx_iald (f := (σ.2.2.1 19)) hx hb hK hG (ga_19 g _) hg18 dX1_isRoad_101 ?_
            refine lv_aload_n hx hb dX1_isRoad_102 rfl (lv_at hl 0 rfl) ?_
            refine gx_get (v := .ref (g.2.1 19)) (C := RX1) (T := TX1) (N := 1) hx hb hts mc_X1 hown hK hG (ga_18 g _) rfl 0 (by decide) hw0 rfl rfl dX1_isRoad_103 ?_
            refine lv_iload_n hx hb dX1_isRoad_106 rfl (lv_at hl 3 rfl) ?_
            obtain ⟨hg19, h⟩ := gd_some h
            refine gx_iald (f := (σ.2.2.1 19)) hx hb hK hG (ga_19 g _) hg19 dX1_isRoad_107 ?_
            refine lv_iand hx hb dX1_isRoad_108 ?_
            refine lv_if_ne (tgt := 116) hx hb dX1_isRoad_109 (by decide) (fun c20 => ?_) (fun c20 => ?_)
            · have h := ite_f c20 h
              refine lv_iconst (v := (0 : Int32)) hx hb dX1_isRoad_116 (by decide) ?_
              exact n117 (0 : Int32) _ _ _ (lv_sub hl [] rfl) hG h
            · have h := ite_t c20 h
              refine lv_iconst (v := (1 : Int32)) hx hb dX1_isRoad_112 (by decide) ?_
              refine lv_goto (tgt := 117) hx hb dX1_isRoad_113 (by decide) ?_
              exact n117 (1 : Int32) _ _ _ (lv_sub hl [] rfl) hG h
          · have h := ite_f c17 h
            by_cases c21 : x1 = (5 : Int32)
            · have h := ite_t c21 h
              refine lv_tableIn (off := 117) (tgt := 118) hx hb dX1_isRoad_1 (by rw [c21]; decide) (by rw [c21]; decide) (by rw [c21]; rfl) (by decide) ?_
              refine lv_iload_n hx hb dX1_isRoad_118 rfl (lv_at hl 2 rfl) ?_
              refine lv_iload hx hb dX1_isRoad_119 (lv_at hl 4 rfl) ?_
              refine lv_icmp_ge (tgt := 134) hx hb dX1_isRoad_121 (by decide) (fun c22 => ?_) (fun c22 => ?_)
              · have h := ite_t c22 h
                exact n134 _ _ _ (lv_sub hl [] rfl) hG h
              · have h := ite_f c22 h
                refine lv_iload_n hx hb dX1_isRoad_124 rfl (lv_at hl 3 rfl) ?_
                refine lv_iload hx hb dX1_isRoad_125 (lv_at hl 4 rfl) ?_
                refine lv_icmp_lt (tgt := 134) hx hb dX1_isRoad_127 (by decide) (fun c23 => ?_) (fun c23 => ?_)
                · have h := ite_t c23 h
                  exact n134 _ _ _ (lv_sub hl [] rfl) hG h
                · have h := ite_f c23 h
                  refine lv_iconst (v := (1 : Int32)) hx hb dX1_isRoad_130 (by decide) ?_
                  refine lv_goto (tgt := 135) hx hb dX1_isRoad_131 (by decide) ?_
                  exact n135 (1 : Int32) _ _ _ (lv_sub hl [] rfl) hG h
            · have h := ite_f c21 h
              refine lv_tableOut (tgt := 136) hx hb dX1_isRoad_1 (sw_out (fun q h1 h2 => ?_)) (by decide) ?_
              · rcases (show q = 0 ∨ q = 1 ∨ q = 2 ∨ q = 3 ∨ q = 4 ∨ q = 5 by omega) with rfl | rfl | rfl | rfl | rfl | rfl
                · exact lv_neT c5 (by decide)
                · exact lv_neT c9 (by decide)
                · exact lv_neT c10 (by decide)
                · exact lv_neT c11 (by decide)
                · exact lv_neT c17 (by decide)
                · exact lv_neT c21 (by decide)
              exact n136 _ _ _ (lv_sub hl [] rfl) hG h

set_option maxHeartbeats 4000000 in
set_option maxRecDepth 100000 in
theorem c_Mk_layPairs (l : Launch) (g : GC) (σ : St) (x2 : Int32) (x3 : Int32) (w_p1_near : Nat → Int32) (h : Mk_layPairs x2 x3 (σ.1 769) (σ.2.2.1 13) (σ.2.2.1 19) = some w_p1_near) : Cn l g yX1_layPairs (Cond.code yX1_layPairs cX1_layPairs 6 none :: wG) 3 65 [.ref (g.2.1 18), .ref (g.2.1 12), .int x2, .int x3] σ none (mkS σ [] [] [(13, w_p1_near)] []) := by
  unfold Cn
  refine Met.ofW (cc := cX1_layPairs) (maxL := 6) (ret := none) (by decide) rfl ?_
  intro p e s m args below meth c s₁ B hml hv
  obtain ⟨hargs, hP0, hK⟩ := hv
  have hx := B.exec
  have hb := B.bytes
  have hr := B.returns
  have hts : ∀ w ∈ wG, w.before args s = true := fun w h => atoms_spec (ws := (Cond.code yX1_layPairs cX1_layPairs 6 none :: wG)) B.pre w (List.mem_cons_of_mem _ h)
  have hown : s.vm.findClass RX1 = some m.cls := findClass_of_methodNamed B.named
  have hlocks := B.notSynchronized
  have hS9 : CallFix p m c cX1_layPairs 6 s args wG RX1 := ⟨hx, hb, hml, hown, hts⟩
  have hw0 := hts _ mw_1_60
  have hf9 : entryFrame m args 6 = _ := (congrArg (fun a => entryFrame m a 6) hargs).trans (lg_entry_eq m [.ref (g.2.1 18), .ref (g.2.1 12), .int x2, .int x3] 6)
  show Wg p l e 3 65 s m args below meth c g none (mkS σ [] [] [(13, w_p1_near)] []) s.heap [] (entryFrame m args 6)
  rw [hf9]
  have hl := lv_entry ([.ref (g.2.1 18), .ref (g.2.1 12), .int x2, .int x3]) (n := 6) (Nat.le_of_ble_eq_true rfl)
  generalize (lg_sl ([.ref (g.2.1 18), .ref (g.2.1 12), .int x2, .int x3]) ++ List.replicate (6 - (lg_sl ([.ref (g.2.1 18), .ref (g.2.1 12), .int x2, .int x3])).length) Slot.unset).toArray = ls at hl ⊢
  have hl : lv_has ls 6 [(0, .ref (g.2.1 18)), (1, .ref (g.2.1 12)), (2, .int x2), (3, .int x3)] := hl
  have hG : GW g s σ s.heap [] := ⟨hP0, va_S.rf⟩
  have hG : GW g s (mkS σ [] [] [(13, (σ.2.2.1 13))] []) s.heap [] := GW_self [] [] [13] [] hG
  unfold Mk_layPairs at h
  have n52 : ∀ (k18 : Int32 → Int32 → Int32 → Int32 → (Nat → Int32) → Option ((Nat → Int32))) (hk18 : ∀ (x2 : Int32) (x3 : Int32) (x4 : Int32) (x5 : Int32) (v_p1_near : Nat → Int32) (H : Heap) (locs : List Loc) (ls : Array Slot), lv_has ls 6 [(0, .ref (g.2.1 18)), (1, .ref (g.2.1 12)), (2, .int x2), (3, .int x3), (4, .int x4), (5, .int x5)] → GW g s (mkS σ [] [] [(13, v_p1_near)] []) H locs → k18 x2 x3 x4 x5 v_p1_near = some w_p1_near → Wg p l e 3 65 s m args below meth c g none (mkS σ [] [] [(13, w_p1_near)] []) H locs (F0 m 18 ls [])) (x2 : Int32) (x3 : Int32) (x4 : Int32) (x5 : Int32) (v_p1_near : Nat → Int32) (H : Heap) (locs : List Loc) (ls : Array Slot), lv_has ls 6 [(0, .ref (g.2.1 18)), (1, .ref (g.2.1 12)), (2, .int x2), (3, .int x3), (4, .int x4), (5, .int x5)] → GW g s (mkS σ [] [] [(13, v_p1_near)] []) H locs → Mk_layPairs_n52 k18 x2 x3 x4 x5 v_p1_near = some w_p1_near → Wg p l e 3 65 s m args below meth c g none (mkS σ [] [] [(13, w_p1_near)] []) H locs (F0 m 52 ls []) := by
    intro k18 hk18 x2 x3 x4 x5 v_p1_near H locs ls hl hG h
    unfold Mk_layPairs_n52 at h
    refine lv_iinc (v := (x5 + (1 : Int32))) (lv' := [(5, .int (x5 + (1 : Int32))), (0, .ref (g.2.1 18)), (1, .ref (g.2.1 12)), (2, .int x2), (3, .int x3), (4, .int x4)]) hx hb dX1_layPairs_52 hl (k := 5) rfl (congrArg (fun z => x5 + z) (by decide)) (Nat.le_of_ble_eq_true rfl) rfl (fun ls hl => ?_)
    refine lv_goto (tgt := 18) hx hb dX1_layPairs_55 (by decide) ?_
    exact hk18 x2 x3 x4 (x5 + (1 : Int32)) v_p1_near _ _ _ (lv_sub hl [1, 2, 3, 4, 5, 0] rfl) hG h
  have n58 : ∀ (k3 : Int32 → Int32 → Int32 → (Nat → Int32) → Option ((Nat → Int32))) (hk3 : ∀ (x2 : Int32) (x3 : Int32) (x4 : Int32) (v_p1_near : Nat → Int32) (H : Heap) (locs : List Loc) (ls : Array Slot), lv_has ls 6 [(0, .ref (g.2.1 18)), (1, .ref (g.2.1 12)), (2, .int x2), (3, .int x3), (4, .int x4)] → GW g s (mkS σ [] [] [(13, v_p1_near)] []) H locs → k3 x2 x3 x4 v_p1_near = some w_p1_near → Wg p l e 3 65 s m args below meth c g none (mkS σ [] [] [(13, w_p1_near)] []) H locs (F0 m 3 ls [])) (x2 : Int32) (x3 : Int32) (x4 : Int32) (v_p1_near : Nat → Int32) (H : Heap) (locs : List Loc) (ls : Array Slot), lv_has ls 6 [(0, .ref (g.2.1 18)), (1, .ref (g.2.1 12)), (2, .int x2), (3, .int x3), (4, .int x4)] → GW g s (mkS σ [] [] [(13, v_p1_near)] []) H locs → Mk_layPairs_n58 k3 x2 x3 x4 v_p1_near = some w_p1_near → Wg p l e 3 65 s m args below meth c g none (mkS σ [] [] [(13, w_p1_near)] []) H locs (F0 m 58 ls []) := by
    intro k3 hk3 x2 x3 x4 v_p1_near H locs ls hl hG h
    unfold Mk_layPairs_n58 at h
    refine lv_iinc (v := (x4 + (1 : Int32))) (lv' := [(4, .int (x4 + (1 : Int32))), (0, .ref (g.2.1 18)), (1, .ref (g.2.1 12)), (2, .int x2), (3, .int x3)]) hx hb dX1_layPairs_58 hl (k := 4) rfl (congrArg (fun z => x4 + z) (by decide)) (Nat.le_of_ble_eq_true rfl) rfl (fun ls hl => ?_)
    refine lv_goto (tgt := 3) hx hb dX1_layPairs_61 (by decide) ?_
    exact hk3 x2 x3 (x4 + (1 : Int32)) v_p1_near _ _ _ (lv_sub hl [1, 2, 3, 4, 0] rfl) hG h
  have n18 : ∀ (k3 : Int32 → Int32 → Int32 → (Nat → Int32) → Option ((Nat → Int32))) (hk3 : ∀ (x2 : Int32) (x3 : Int32) (x4 : Int32) (v_p1_near : Nat → Int32) (H : Heap) (locs : List Loc) (ls : Array Slot), lv_has ls 6 [(0, .ref (g.2.1 18)), (1, .ref (g.2.1 12)), (2, .int x2), (3, .int x3), (4, .int x4)] → GW g s (mkS σ [] [] [(13, v_p1_near)] []) H locs → k3 x2 x3 x4 v_p1_near = some w_p1_near → Wg p l e 3 65 s m args below meth c g none (mkS σ [] [] [(13, w_p1_near)] []) H locs (F0 m 3 ls [])) (k18 : Int32 → Int32 → Int32 → Int32 → (Nat → Int32) → Option ((Nat → Int32))) (hk18 : ∀ (x2 : Int32) (x3 : Int32) (x4 : Int32) (x5 : Int32) (v_p1_near : Nat → Int32) (H : Heap) (locs : List Loc) (ls : Array Slot), lv_has ls 6 [(0, .ref (g.2.1 18)), (1, .ref (g.2.1 12)), (2, .int x2), (3, .int x3), (4, .int x4), (5, .int x5)] → GW g s (mkS σ [] [] [(13, v_p1_near)] []) H locs → k18 x2 x3 x4 x5 v_p1_near = some w_p1_near → Wg p l e 3 65 s m args below meth c g none (mkS σ [] [] [(13, w_p1_near)] []) H locs (F0 m 18 ls [])) (x2 : Int32) (x3 : Int32) (x4 : Int32) (x5 : Int32) (v_p1_near : Nat → Int32) (H : Heap) (locs : List Loc) (ls : Array Slot), lv_has ls 6 [(0, .ref (g.2.1 18)), (1, .ref (g.2.1 12)), (2, .int x2), (3, .int x3), (4, .int x4), (5, .int x5)] → GW g s (mkS σ [] [] [(13, v_p1_near)] []) H locs → Mk_layPairs_n18 k3 k18 (σ.1 769) (σ.2.2.1 19) x2 x3 x4 x5 v_p1_near = some w_p1_near → Wg p l e 3 65 s m args below meth c g none (mkS σ [] [] [(13, w_p1_near)] []) H locs (F0 m 18 ls []) := by
    intro k3 hk3 k18 hk18 x2 x3 x4 x5 v_p1_near H locs ls hl hG h
    unfold Mk_layPairs_n18 at h
    refine lv_iload hx hb dX1_layPairs_18 (lv_at hl 5 rfl) ?_
    refine lv_aload_n hx hb dX1_layPairs_20 rfl (lv_at hl 1 rfl) ?_
    refine gx_get (v := .int (σ.1 769)) (C := RX2) (T := TX2) (N := 2) hx hb hts mc_X2 hown hK hG (ga_12 g _) rfl 1 (by decide) hw0 rfl rfl dX1_layPairs_21 ?_
    refine lv_icmp_ge (tgt := 58) hx hb dX1_layPairs_24 (by decide) (fun c1 => ?_) (fun c1 => ?_)
    · have h := ite_t c1 h
      exact n58 k3 hk3 x2 x3 x4 v_p1_near _ _ _ (lv_sub hl [0, 1, 2, 3, 4] rfl) hG h
    · have h := ite_f c1 h
      refine lv_aload_n hx hb dX1_layPairs_27 rfl (lv_at hl 0 rfl) ?_
      refine lv_iload_n hx hb dX1_layPairs_28 rfl (lv_at hl 2 rfl) ?_
      refine lv_iload hx hb dX1_layPairs_29 (lv_at hl 4 rfl) ?_
      refine lv_iload hx hb dX1_layPairs_31 (lv_at hl 5 rfl) ?_
      refine lv_iload_n hx hb dX1_layPairs_33 rfl (lv_at hl 3 rfl) ?_
      refine lv_aload_n hx hb dX1_layPairs_34 rfl (lv_at hl 1 rfl) ?_
      refine gx_get (v := .int (σ.1 769)) (C := RX2) (T := TX2) (N := 2) hx hb hts mc_X2 hown hK hG (ga_12 g _) rfl 1 (by decide) hw0 rfl rfl dX1_layPairs_35 ?_
      obtain ⟨z2, hc3, h⟩ := bnd_some h
      refine gx_cV (σ' := (mkS σ [] [] [(13, v_p1_near)] [])) (r := (some (.int z2))) (rest := []) (As := [.int x2, .int x4, .int x5, .int x3, .int (σ.1 769)]) hS9 (c_Mk_isRoad l g (mkS σ [] [] [(13, v_p1_near)] []) x2 x4 x5 x3 (σ.1 769) z2 hc3) rfl (cwV 5 hts (gz_V mw_2_224 mw_2_226 ms_1_4 mw_1_4 mw_2_227) rfl rfl rfl hdV_X1_isRoad ⟨Nat.le_of_ble_eq_true rfl, Nat.le_of_ble_eq_true rfl⟩) hK hG (ga_18 g _) rfl rfl rfl hl.1 rfl (Nat.le_of_ble_eq_true rfl) dX1_layPairs_38 (fun H locs hG => ?_)
      refine W.eq (g2 := F0 m 41 ls [.int z2]) rfl ?_
      refine lv_if_eq (tgt := 52) hx hb dX1_layPairs_41 (by decide) (fun c4 => ?_) (fun c4 => ?_)
      · have h := ite_t c4 h
        exact n52 k18 hk18 x2 x3 x4 x5 v_p1_near _ _ _ (lv_sub hl [0, 1, 2, 3, 4, 5] rfl) hG h
      · have h := ite_f c4 h
        refine lv_aload_n hx hb dX1_layPairs_44 rfl (lv_at hl 1 rfl) ?_
        refine lv_iload hx hb dX1_layPairs_45 (lv_at hl 4 rfl) ?_
        refine lv_iload hx hb dX1_layPairs_47 (lv_at hl 5 rfl) ?_
        obtain ⟨z5, hc6, h⟩ := bnd_some h
        refine gx_cV (σ' := (mkS σ [] [] [(13, z5)] [])) (r := none) (rest := []) (As := [.int x4, .int x5]) hS9 (c_Net_join_12 l g (mkS σ [] [] [(13, v_p1_near)] []) x4 x5 z5 hc6) (mk_mk rfl rfl rfl rfl) (cwV 2 hts (gz_V mw_2_206 mw_2_138 mw_2_139 mw_1_3 mw_2_140) rfl rfl rfl hdV_X2_join ⟨Nat.le_of_ble_eq_true rfl, Nat.le_of_ble_eq_true rfl⟩) hK hG (ga_12 g _) rfl rfl rfl hl.1 rfl (Nat.le_of_ble_eq_true rfl) dX1_layPairs_49 (fun H locs hG => ?_)
        refine W.eq (g2 := F0 m 52 ls []) rfl ?_
        exact n52 k18 hk18 x2 x3 x4 x5 z5 _ _ _ (lv_sub hl [0, 1, 2, 3, 4, 5] rfl) hG h
  have l18 : ∀ (k3 : Int32 → Int32 → Int32 → (Nat → Int32) → Option ((Nat → Int32))) (hk3 : ∀ (x2 : Int32) (x3 : Int32) (x4 : Int32) (v_p1_near : Nat → Int32) (H : Heap) (locs : List Loc) (ls : Array Slot), lv_has ls 6 [(0, .ref (g.2.1 18)), (1, .ref (g.2.1 12)), (2, .int x2), (3, .int x3), (4, .int x4)] → GW g s (mkS σ [] [] [(13, v_p1_near)] []) H locs → k3 x2 x3 x4 v_p1_near = some w_p1_near → Wg p l e 3 65 s m args below meth c g none (mkS σ [] [] [(13, w_p1_near)] []) H locs (F0 m 3 ls [])) (F : Nat) (x2 : Int32) (x3 : Int32) (x4 : Int32) (x5 : Int32) (v_p1_near : Nat → Int32) (H : Heap) (locs : List Loc) (ls : Array Slot), lv_has ls 6 [(0, .ref (g.2.1 18)), (1, .ref (g.2.1 12)), (2, .int x2), (3, .int x3), (4, .int x4), (5, .int x5)] → GW g s (mkS σ [] [] [(13, v_p1_near)] []) H locs → Mk_layPairs_l18 k3 (σ.1 769) (σ.2.2.1 19) F x2 x3 x4 x5 v_p1_near = some w_p1_near → Wg p l e 3 65 s m args below meth c g none (mkS σ [] [] [(13, w_p1_near)] []) H locs (F0 m 18 ls []) := by
    intro k3 hk3 F
    induction F with
    | zero => intro x2 x3 x4 x5 v_p1_near H locs ls hl hG h; exact no_some h
    | succ F ih => intro x2 x3 x4 x5 v_p1_near H locs ls hl hG h; exact n18 k3 hk3 (fun x2 x3 x4 x5 v_p1_near => Mk_layPairs_l18 k3 (σ.1 769) (σ.2.2.1 19) F x2 x3 x4 x5 v_p1_near) ih x2 x3 x4 x5 v_p1_near H locs ls hl hG h
  have n64 : ∀ (v_p1_near : Nat → Int32) (H : Heap) (locs : List Loc) (ls : Array Slot), lv_has ls 6 [] → GW g s (mkS σ [] [] [(13, v_p1_near)] []) H locs → Mk_layPairs_n64 v_p1_near = some w_p1_near → Wg p l e 3 65 s m args below meth c g none (mkS σ [] [] [(13, w_p1_near)] []) H locs (F0 m 64 ls []) := by
    intro v_p1_near H locs ls hl hG h
    unfold Mk_layPairs_n64 at h
    cases h
    exact gx_vret hx hb hr hlocks hG dX1_layPairs_64
  have n3 : ∀ (k3 : Int32 → Int32 → Int32 → (Nat → Int32) → Option ((Nat → Int32))) (hk3 : ∀ (x2 : Int32) (x3 : Int32) (x4 : Int32) (v_p1_near : Nat → Int32) (H : Heap) (locs : List Loc) (ls : Array Slot), lv_has ls 6 [(0, .ref (g.2.1 18)), (1, .ref (g.2.1 12)), (2, .int x2), (3, .int x3), (4, .int x4)] → GW g s (mkS σ [] [] [(13, v_p1_near)] []) H locs → k3 x2 x3 x4 v_p1_near = some w_p1_near → Wg p l e 3 65 s m args below meth c g none (mkS σ [] [] [(13, w_p1_near)] []) H locs (F0 m 3 ls [])) (x2 : Int32) (x3 : Int32) (x4 : Int32) (v_p1_near : Nat → Int32) (H : Heap) (locs : List Loc) (ls : Array Slot), lv_has ls 6 [(0, .ref (g.2.1 18)), (1, .ref (g.2.1 12)), (2, .int x2), (3, .int x3), (4, .int x4)] → GW g s (mkS σ [] [] [(13, v_p1_near)] []) H locs → Mk_layPairs_n3 k3 (σ.1 769) (σ.2.2.1 19) x2 x3 x4 v_p1_near = some w_p1_near → Wg p l e 3 65 s m args below meth c g none (mkS σ [] [] [(13, w_p1_near)] []) H locs (F0 m 3 ls []) := by
    intro k3 hk3 x2 x3 x4 v_p1_near H locs ls hl hG h
    unfold Mk_layPairs_n3 at h
    refine lv_iload hx hb dX1_layPairs_3 (lv_at hl 4 rfl) ?_
    refine lv_aload_n hx hb dX1_layPairs_5 rfl (lv_at hl 1 rfl) ?_
    refine gx_get (v := .int (σ.1 769)) (C := RX2) (T := TX2) (N := 2) hx hb hts mc_X2 hown hK hG (ga_12 g _) rfl 1 (by decide) hw0 rfl rfl dX1_layPairs_6 ?_
    refine lv_icmp_ge (tgt := 64) hx hb dX1_layPairs_9 (by decide) (fun c7 => ?_) (fun c7 => ?_)
    · have h := ite_t c7 h
      exact n64 v_p1_near _ _ _ (lv_sub hl [] rfl) hG h
    · have h := ite_f c7 h
      refine lv_iload hx hb dX1_layPairs_12 (lv_at hl 4 rfl) ?_
      refine lv_iconst (v := (1 : Int32)) hx hb dX1_layPairs_14 (by decide) ?_
      refine lv_iadd hx hb dX1_layPairs_15 ?_
      refine lv_istore (lv' := [(5, .int (x4 + (1 : Int32))), (0, .ref (g.2.1 18)), (1, .ref (g.2.1 12)), (2, .int x2), (3, .int x3), (4, .int x4)]) hx hb dX1_layPairs_16 hl (Nat.le_of_ble_eq_true rfl) rfl (fun ls hl => ?_)
      exact l18 k3 hk3 FUEL x2 x3 x4 (x4 + (1 : Int32)) v_p1_near _ _ _ (lv_sub hl [1, 2, 3, 4, 5, 0] rfl) hG h
  have l3 : ∀  (F : Nat) (x2 : Int32) (x3 : Int32) (x4 : Int32) (v_p1_near : Nat → Int32) (H : Heap) (locs : List Loc) (ls : Array Slot), lv_has ls 6 [(0, .ref (g.2.1 18)), (1, .ref (g.2.1 12)), (2, .int x2), (3, .int x3), (4, .int x4)] → GW g s (mkS σ [] [] [(13, v_p1_near)] []) H locs → Mk_layPairs_l3 (σ.1 769) (σ.2.2.1 19) F x2 x3 x4 v_p1_near = some w_p1_near → Wg p l e 3 65 s m args below meth c g none (mkS σ [] [] [(13, w_p1_near)] []) H locs (F0 m 3 ls []) := by
    intro F
    induction F with
    | zero => intro x2 x3 x4 v_p1_near H locs ls hl hG h; exact no_some h
    | succ F ih => intro x2 x3 x4 v_p1_near H locs ls hl hG h; exact n3 (fun x2 x3 x4 v_p1_near => Mk_layPairs_l3 (σ.1 769) (σ.2.2.1 19) F x2 x3 x4 v_p1_near) ih x2 x3 x4 v_p1_near H locs ls hl hG h
  refine lv_iconst (v := (0 : Int32)) hx hb dX1_layPairs_0 (by decide) ?_
  refine lv_istore (lv' := [(4, .int (0 : Int32)), (0, .ref (g.2.1 18)), (1, .ref (g.2.1 12)), (2, .int x2), (3, .int x3)]) hx hb dX1_layPairs_1 hl (Nat.le_of_ble_eq_true rfl) rfl (fun ls hl => ?_)
  exact l3 FUEL x2 x3 (0 : Int32) (σ.2.2.1 13) _ _ _ (lv_sub hl [1, 2, 3, 4, 0] rfl) hG h

set_option maxHeartbeats 4000000 in
set_option maxRecDepth 100000 in
theorem c_JL_bitCount (l : Launch) (g : GC) (σ : St) (x0 : Int64) (r : Int32) (h : JL_bitCount x0 = some r) : Cn l g yJ13_bitCount_95d88 (Cond.code yJ13_bitCount_95d88 cJ13_bitCount_95d88 2 (some .int) :: wG) 0 0 [.long x0] σ (some (.int r)) σ := by
  unfold Cn
  refine Met.ofW (cc := cJ13_bitCount_95d88) (maxL := 2) (ret := (some .int)) (by decide) rfl ?_
  intro p e s m args below meth c s₁ B hml hv
  obtain ⟨hargs, hP0, hK⟩ := hv
  have hx := B.exec
  have hb := B.bytes
  have hr := B.returns
  have hts : ∀ w ∈ wG, w.before args s = true := fun w h => atoms_spec (ws := (Cond.code yJ13_bitCount_95d88 cJ13_bitCount_95d88 2 (some .int) :: wG)) B.pre w (List.mem_cons_of_mem _ h)
  have hown : s.vm.findClass RJ13 = some m.cls := findClass_of_methodNamed B.named
  have hlocks := B.notSynchronized
  have hw0 := hts _ mw_2_217
  have hw1 := hts _ mw_2_218
  have hw2 := hts _ mw_2_219
  have hf9 : entryFrame m args 2 = _ := (congrArg (fun a => entryFrame m a 2) hargs).trans (lg_entry_eq m [.long x0] 2)
  show Wg p l e 0 0 s m args below meth c g (some (.int r)) σ s.heap [] (entryFrame m args 2)
  rw [hf9]
  have hl := lv_entry ([.long x0]) (n := 2) (Nat.le_of_ble_eq_true rfl)
  generalize (lg_sl ([.long x0]) ++ List.replicate (2 - (lg_sl ([.long x0])).length) Slot.unset).toArray = ls at hl ⊢
  have hl : lv_has ls 2 [(0, .long x0)] := hl
  have hG : GW g s σ s.heap [] := ⟨hP0, va_S.rf⟩
  unfold JL_bitCount at h
  refine lv_lload_n hx hb dJ13_bitCount_95d88_0 rfl (lv_at hl 0 rfl) ?_
  refine lv_lload_n hx hb dJ13_bitCount_95d88_1 rfl (lv_at hl 0 rfl) ?_
  refine lv_iconst (v := (1 : Int32)) hx hb dJ13_bitCount_95d88_2 (by decide) ?_
  refine lv_lushr hx hb dJ13_bitCount_95d88_3 rfl ?_
  refine lv_ldc2 hx hb hown hw0 dJ13_bitCount_95d88_4 ?_
  refine lv_land hx hb dJ13_bitCount_95d88_7 ?_
  refine lv_lsub hx hb dJ13_bitCount_95d88_8 ?_
  refine lv_topl (fun y1 ey1 => ?_)
  have h := lt_at h ey1
  refine lv_lstore_n (lv' := [(0, .long y1)]) hx hb dJ13_bitCount_95d88_9 rfl hl (Nat.le_of_ble_eq_true rfl) rfl (fun ls hl => ?_)
  refine lv_lload_n hx hb dJ13_bitCount_95d88_10 rfl (lv_at hl 0 rfl) ?_
  refine lv_ldc2 hx hb hown hw1 dJ13_bitCount_95d88_11 ?_
  refine lv_land hx hb dJ13_bitCount_95d88_14 ?_
  refine lv_lload_n hx hb dJ13_bitCount_95d88_15 rfl (lv_at hl 0 rfl) ?_
  refine lv_iconst (v := (2 : Int32)) hx hb dJ13_bitCount_95d88_16 (by decide) ?_
  refine lv_lushr hx hb dJ13_bitCount_95d88_17 rfl ?_
  refine lv_ldc2 hx hb hown hw1 dJ13_bitCount_95d88_18 ?_
  refine lv_land hx hb dJ13_bitCount_95d88_21 ?_
  refine lv_ladd hx hb dJ13_bitCount_95d88_22 ?_
  refine lv_topl (fun y2 ey2 => ?_)
  have h := lt_at h ey2
  refine lv_lstore_n (lv' := [(0, .long y2)]) hx hb dJ13_bitCount_95d88_23 rfl hl (Nat.le_of_ble_eq_true rfl) rfl (fun ls hl => ?_)
  refine lv_lload_n hx hb dJ13_bitCount_95d88_24 rfl (lv_at hl 0 rfl) ?_
  refine lv_lload_n hx hb dJ13_bitCount_95d88_25 rfl (lv_at hl 0 rfl) ?_
  refine lv_iconst (v := (4 : Int32)) hx hb dJ13_bitCount_95d88_26 (by decide) ?_
  refine lv_lushr hx hb dJ13_bitCount_95d88_27 rfl ?_
  refine lv_ladd hx hb dJ13_bitCount_95d88_28 ?_
  refine lv_ldc2 hx hb hown hw2 dJ13_bitCount_95d88_29 ?_
  refine lv_land hx hb dJ13_bitCount_95d88_32 ?_
  refine lv_topl (fun y3 ey3 => ?_)
  have h := lt_at h ey3
  refine lv_lstore_n (lv' := [(0, .long y3)]) hx hb dJ13_bitCount_95d88_33 rfl hl (Nat.le_of_ble_eq_true rfl) rfl (fun ls hl => ?_)
  refine lv_lload_n hx hb dJ13_bitCount_95d88_34 rfl (lv_at hl 0 rfl) ?_
  refine lv_lload_n hx hb dJ13_bitCount_95d88_35 rfl (lv_at hl 0 rfl) ?_
  refine lv_bipush (v := (8 : Int32)) hx hb dJ13_bitCount_95d88_36 (by decide) ?_
  refine lv_lushr hx hb dJ13_bitCount_95d88_38 rfl ?_
  refine lv_ladd hx hb dJ13_bitCount_95d88_39 ?_
  refine lv_topl (fun y4 ey4 => ?_)
  have h := lt_at h ey4
  refine lv_lstore_n (lv' := [(0, .long y4)]) hx hb dJ13_bitCount_95d88_40 rfl hl (Nat.le_of_ble_eq_true rfl) rfl (fun ls hl => ?_)
  refine lv_lload_n hx hb dJ13_bitCount_95d88_41 rfl (lv_at hl 0 rfl) ?_
  refine lv_lload_n hx hb dJ13_bitCount_95d88_42 rfl (lv_at hl 0 rfl) ?_
  refine lv_bipush (v := (16 : Int32)) hx hb dJ13_bitCount_95d88_43 (by decide) ?_
  refine lv_lushr hx hb dJ13_bitCount_95d88_45 rfl ?_
  refine lv_ladd hx hb dJ13_bitCount_95d88_46 ?_
  refine lv_topl (fun y5 ey5 => ?_)
  have h := lt_at h ey5
  refine lv_lstore_n (lv' := [(0, .long y5)]) hx hb dJ13_bitCount_95d88_47 rfl hl (Nat.le_of_ble_eq_true rfl) rfl (fun ls hl => ?_)
  refine lv_lload_n hx hb dJ13_bitCount_95d88_48 rfl (lv_at hl 0 rfl) ?_
  refine lv_lload_n hx hb dJ13_bitCount_95d88_49 rfl (lv_at hl 0 rfl) ?_
  refine lv_bipush (v := (32 : Int32)) hx hb dJ13_bitCount_95d88_50 (by decide) ?_
  refine lv_lushr hx hb dJ13_bitCount_95d88_52 rfl ?_
  refine lv_ladd hx hb dJ13_bitCount_95d88_53 ?_
  refine lv_topl (fun y6 ey6 => ?_)
  have h := lt_at h ey6
  refine lv_lstore_n (lv' := [(0, .long y6)]) hx hb dJ13_bitCount_95d88_54 rfl hl (Nat.le_of_ble_eq_true rfl) rfl (fun ls hl => ?_)
  refine lv_lload_n hx hb dJ13_bitCount_95d88_55 rfl (lv_at hl 0 rfl) ?_
  refine lv_l2i hx hb dJ13_bitCount_95d88_56 rfl ?_
  refine lv_bipush (v := (127 : Int32)) hx hb dJ13_bitCount_95d88_57 (by decide) ?_
  refine lv_iand hx hb dJ13_bitCount_95d88_59 ?_
  cases h
  exact gx_iret hx hb hr hlocks hG dJ13_bitCount_95d88_60

set_option maxHeartbeats 4000000 in
set_option maxRecDepth 100000 in
theorem c_Mk_nextSet (l : Launch) (g : GC) (σ : St) (x0 : Int64) (r : Int64) (h : Mk_nextSet x0 = some r) : Cn l g yX1_nextSet (Cond.code yX1_nextSet cX1_nextSet 6 (some .long) :: wG) 1 21 [.long x0] σ (some (.long r)) σ := by
  unfold Cn
  refine Met.ofW (cc := cX1_nextSet) (maxL := 6) (ret := (some .long)) (by decide) rfl ?_
  intro p e s m args below meth c s₁ B hml hv
  obtain ⟨hargs, hP0, hK⟩ := hv
  have hx := B.exec
  have hb := B.bytes
  have hr := B.returns
  have hts : ∀ w ∈ wG, w.before args s = true := fun w h => atoms_spec (ws := (Cond.code yX1_nextSet cX1_nextSet 6 (some .long) :: wG)) B.pre w (List.mem_cons_of_mem _ h)
  have hown : s.vm.findClass RX1 = some m.cls := findClass_of_methodNamed B.named
  have hlocks := B.notSynchronized
  have hS9 : CallFix p m c cX1_nextSet 6 s args wG RX1 := ⟨hx, hb, hml, hown, hts⟩
  have hf9 : entryFrame m args 6 = _ := (congrArg (fun a => entryFrame m a 6) hargs).trans (lg_entry_eq m [.long x0] 6)
  show Wg p l e 1 21 s m args below meth c g (some (.long r)) σ s.heap [] (entryFrame m args 6)
  rw [hf9]
  have hl := lv_entry ([.long x0]) (n := 6) (Nat.le_of_ble_eq_true rfl)
  generalize (lg_sl ([.long x0]) ++ List.replicate (6 - (lg_sl ([.long x0])).length) Slot.unset).toArray = ls at hl ⊢
  have hl : lv_has ls 6 [(0, .long x0)] := hl
  have hG : GW g s σ s.heap [] := ⟨hP0, va_S.rf⟩
  unfold Mk_nextSet at h
  refine lv_lload_n hx hb dX1_nextSet_0 rfl (lv_at hl 0 rfl) ?_
  refine lv_lload_n hx hb dX1_nextSet_1 rfl (lv_at hl 0 rfl) ?_
  refine lv_lneg hx hb dX1_nextSet_2 ?_
  refine lv_land hx hb dX1_nextSet_3 ?_
  refine lv_lstore_n (lv' := [(2, .long (x0 &&& (-x0))), (0, .long x0)]) hx hb dX1_nextSet_4 rfl hl (Nat.le_of_ble_eq_true rfl) rfl (fun ls hl => ?_)
  refine lv_lload_n hx hb dX1_nextSet_5 rfl (lv_at hl 1 rfl) ?_
  refine lv_lload_n hx hb dX1_nextSet_6 rfl (lv_at hl 0 rfl) ?_
  refine lv_ladd hx hb dX1_nextSet_7 ?_
  refine lv_lstore (lv' := [(4, .long (x0 + (x0 &&& (-x0)))), (2, .long (x0 &&& (-x0))), (0, .long x0)]) hx hb dX1_nextSet_8 hl (Nat.le_of_ble_eq_true rfl) rfl (fun ls hl => ?_)
  refine lv_lload hx hb dX1_nextSet_10 (lv_at hl 0 rfl) ?_
  refine lv_lload_n hx hb dX1_nextSet_12 rfl (lv_at hl 2 rfl) ?_
  refine lv_lload hx hb dX1_nextSet_13 (lv_at hl 0 rfl) ?_
  refine lv_lxor hx hb dX1_nextSet_15 ?_
  refine lv_iconst (v := (2 : Int32)) hx hb dX1_nextSet_16 (by decide) ?_
  refine lv_lload_n hx hb dX1_nextSet_17 rfl (lv_at hl 1 rfl) ?_
  refine lv_lconst (v := (1 : Int64)) hx hb dX1_nextSet_18 (by decide) ?_
  refine lv_lsub hx hb dX1_nextSet_19 ?_
  obtain ⟨z1, hc2, h⟩ := bnd_some h
  refine gx_cS (σ' := σ) (r := (some (.int z1))) (rest := [.int (2 : Int32), .long (x0 ^^^ (x0 + (x0 &&& (-x0)))), .long (x0 + (x0 &&& (-x0)))]) (As := [.long ((x0 &&& (-x0)) - (1 : Int64))]) hS9 (c_JL_bitCount l g σ ((x0 &&& (-x0)) - (1 : Int64)) z1 hc2) rfl (va_cwS 1 hts (gz_S mw_2_214 mw_2_215 mw_1_13 mw_2_216) rfl rfl rfl hdS_J13_bitCount_95d88 ⟨Nat.le_of_ble_eq_true rfl, Nat.le_of_ble_eq_true rfl⟩) hK hG rfl hl.1 rfl (Nat.le_of_ble_eq_true rfl) dX1_nextSet_20 (fun H locs hG => ?_)
  refine W.eq (g2 := F0 m 23 ls [.int z1, .int (2 : Int32), .long (x0 ^^^ (x0 + (x0 &&& (-x0)))), .long (x0 + (x0 &&& (-x0)))]) rfl ?_
  refine lv_iadd hx hb dX1_nextSet_23 ?_
  refine lv_lushr hx hb dX1_nextSet_24 rfl ?_
  refine lv_lor hx hb dX1_nextSet_25 ?_
  cases h
  exact gx_lret hx hb hr hlocks hG dX1_nextSet_26

set_option maxHeartbeats 4000000 in
set_option maxRecDepth 100000 in
theorem c_Mk_listSets (l : Launch) (g : GC) (σ : St) (x1 : Int32) (x2 : Int32) (w_sets : Nat → Int32) (h : Mk_listSets x1 x2 (σ.2.2.1 19) = some w_sets) : Cn l g yX1_listSets (Cond.code yX1_listSets cX1_listSets 6 none :: wG) 2 46 [.ref (g.2.1 18), .int x1, .int x2] σ none (mkS σ [] [] [(19, w_sets)] []) := by
  unfold Cn
  refine Met.ofW (cc := cX1_listSets) (maxL := 6) (ret := none) (by decide) rfl ?_
  intro p e s m args below meth c s₁ B hml hv
  obtain ⟨hargs, hP0, hK⟩ := hv
  have hx := B.exec
  have hb := B.bytes
  have hr := B.returns
  have hts : ∀ w ∈ wG, w.before args s = true := fun w h => atoms_spec (ws := (Cond.code yX1_listSets cX1_listSets 6 none :: wG)) B.pre w (List.mem_cons_of_mem _ h)
  have hown : s.vm.findClass RX1 = some m.cls := findClass_of_methodNamed B.named
  have hlocks := B.notSynchronized
  have hS9 : CallFix p m c cX1_listSets 6 s args wG RX1 := ⟨hx, hb, hml, hown, hts⟩
  have hw0 := hts _ mw_1_73
  have hf9 : entryFrame m args 6 = _ := (congrArg (fun a => entryFrame m a 6) hargs).trans (lg_entry_eq m [.ref (g.2.1 18), .int x1, .int x2] 6)
  show Wg p l e 2 46 s m args below meth c g none (mkS σ [] [] [(19, w_sets)] []) s.heap [] (entryFrame m args 6)
  rw [hf9]
  have hl := lv_entry ([.ref (g.2.1 18), .int x1, .int x2]) (n := 6) (Nat.le_of_ble_eq_true rfl)
  generalize (lg_sl ([.ref (g.2.1 18), .int x1, .int x2]) ++ List.replicate (6 - (lg_sl ([.ref (g.2.1 18), .int x1, .int x2])).length) Slot.unset).toArray = ls at hl ⊢
  have hl : lv_has ls 6 [(0, .ref (g.2.1 18)), (1, .int x1), (2, .int x2)] := hl
  have hG : GW g s σ s.heap [] := ⟨hP0, va_S.rf⟩
  have hG : GW g s (mkS σ [] [] [(19, (σ.2.2.1 19))] []) s.heap [] := GW_self [] [] [19] [] hG
  unfold Mk_listSets at h
  have n35 : ∀ (v_sets : Nat → Int32) (H : Heap) (locs : List Loc) (ls : Array Slot), lv_has ls 6 [] → GW g s (mkS σ [] [] [(19, v_sets)] []) H locs → Mk_listSets_n35 v_sets = some w_sets → Wg p l e 2 46 s m args below meth c g none (mkS σ [] [] [(19, w_sets)] []) H locs (F0 m 35 ls []) := by
    intro v_sets H locs ls hl hG h
    unfold Mk_listSets_n35 at h
    cases h
    exact gx_vret hx hb hr hlocks hG dX1_listSets_35
  have n9 : ∀ (k9 : Int32 → Int64 → Int32 → (Nat → Int32) → Option ((Nat → Int32))) (hk9 : ∀ (x1 : Int32) (x3 : Int64) (x5 : Int32) (v_sets : Nat → Int32) (H : Heap) (locs : List Loc) (ls : Array Slot), lv_has ls 6 [(0, .ref (g.2.1 18)), (1, .int x1), (3, .long x3), (5, .int x5)] → GW g s (mkS σ [] [] [(19, v_sets)] []) H locs → k9 x1 x3 x5 v_sets = some w_sets → Wg p l e 2 46 s m args below meth c g none (mkS σ [] [] [(19, w_sets)] []) H locs (F0 m 9 ls [])) (x1 : Int32) (x3 : Int64) (x5 : Int32) (v_sets : Nat → Int32) (H : Heap) (locs : List Loc) (ls : Array Slot), lv_has ls 6 [(0, .ref (g.2.1 18)), (1, .int x1), (3, .long x3), (5, .int x5)] → GW g s (mkS σ [] [] [(19, v_sets)] []) H locs → Mk_listSets_n9 k9 x1 x3 x5 v_sets = some w_sets → Wg p l e 2 46 s m args below meth c g none (mkS σ [] [] [(19, w_sets)] []) H locs (F0 m 9 ls []) := by
    intro k9 hk9 x1 x3 x5 v_sets H locs ls hl hG h
    unfold Mk_listSets_n9 at h
    refine lv_iload hx hb dX1_listSets_9 (lv_at hl 3 rfl) ?_
    refine lv_iload_n hx hb dX1_listSets_11 rfl (lv_at hl 1 rfl) ?_
    refine lv_icmp_ge (tgt := 35) hx hb dX1_listSets_12 (by decide) (fun c1 => ?_) (fun c1 => ?_)
    · have h := ite_t c1 h
      exact n35 v_sets _ _ _ (lv_sub hl [] rfl) hG h
    · have h := ite_f c1 h
      refine lv_aload_n hx hb dX1_listSets_15 rfl (lv_at hl 0 rfl) ?_
      refine gx_get (v := .ref (g.2.1 19)) (C := RX1) (T := TX1) (N := 1) hx hb hts mc_X1 hown hK hG (ga_18 g _) rfl 0 (by decide) hw0 rfl rfl dX1_listSets_16 ?_
      refine lv_iload hx hb dX1_listSets_19 (lv_at hl 3 rfl) ?_
      refine lv_lload_n hx hb dX1_listSets_21 rfl (lv_at hl 2 rfl) ?_
      refine lv_l2i hx hb dX1_listSets_22 rfl ?_
      obtain ⟨hg2, h⟩ := gd_some h
      refine gx_iast (σ' := (mkS σ [] [] [(19, (upd v_sets (x5.toNatClampNeg) (x3.toInt32)))] [])) (f := v_sets) hx hb hK hG (ga_19 g _) hg2 ((gs_19 g _ _).trans (congrArg (g_cells g) (mk_c 0 rfl rfl))) dX1_listSets_23 (fun H locs hG => ?_)
      refine lv_lload_n hx hb dX1_listSets_24 rfl (lv_at hl 2 rfl) ?_
      obtain ⟨z3, hc4, h⟩ := bnd_some h
      refine gx_cS (σ' := (mkS σ [] [] [(19, (upd v_sets (x5.toNatClampNeg) (x3.toInt32)))] [])) (r := (some (.long z3))) (rest := []) (As := [.long x3]) hS9 (c_Mk_nextSet l g (mkS σ [] [] [(19, (upd v_sets (x5.toNatClampNeg) (x3.toInt32)))] []) x3 z3 hc4) rfl (va_cwS 1 hts (gz_S mw_2_211 mw_2_212 mw_1_4 mw_2_213) rfl rfl rfl hdS_X1_nextSet ⟨Nat.le_of_ble_eq_true rfl, Nat.le_of_ble_eq_true rfl⟩) hK hG rfl hl.1 rfl (Nat.le_of_ble_eq_true rfl) dX1_listSets_25 (fun H locs hG => ?_)
      refine W.eq (g2 := F0 m 28 ls [.long z3]) rfl ?_
      refine lv_lstore_n (lv' := [(3, .long z3), (0, .ref (g.2.1 18)), (1, .int x1), (5, .int x5)]) hx hb dX1_listSets_28 rfl hl (Nat.le_of_ble_eq_true rfl) rfl (fun ls hl => ?_)
      refine lv_iinc (v := (x5 + (1 : Int32))) (lv' := [(5, .int (x5 + (1 : Int32))), (3, .long z3), (0, .ref (g.2.1 18)), (1, .int x1)]) hx hb dX1_listSets_29 hl (k := 3) rfl (congrArg (fun z => x5 + z) (by decide)) (Nat.le_of_ble_eq_true rfl) rfl (fun ls hl => ?_)
      refine lv_goto (tgt := 9) hx hb dX1_listSets_32 (by decide) ?_
      exact hk9 x1 z3 (x5 + (1 : Int32)) (upd v_sets (x5.toNatClampNeg) (x3.toInt32)) _ _ _ (lv_sub hl [2, 3, 1, 0] rfl) hG h
  have l9 : ∀  (F : Nat) (x1 : Int32) (x3 : Int64) (x5 : Int32) (v_sets : Nat → Int32) (H : Heap) (locs : List Loc) (ls : Array Slot), lv_has ls 6 [(0, .ref (g.2.1 18)), (1, .int x1), (3, .long x3), (5, .int x5)] → GW g s (mkS σ [] [] [(19, v_sets)] []) H locs → Mk_listSets_l9 F x1 x3 x5 v_sets = some w_sets → Wg p l e 2 46 s m args below meth c g none (mkS σ [] [] [(19, w_sets)] []) H locs (F0 m 9 ls []) := by
    intro F
    induction F with
    | zero => intro x1 x3 x5 v_sets H locs ls hl hG h; exact no_some h
    | succ F ih => intro x1 x3 x5 v_sets H locs ls hl hG h; exact n9 (fun x1 x3 x5 v_sets => Mk_listSets_l9 F x1 x3 x5 v_sets) ih x1 x3 x5 v_sets H locs ls hl hG h
  refine lv_lconst (v := (1 : Int64)) hx hb dX1_listSets_0 (by decide) ?_
  refine lv_iload_n hx hb dX1_listSets_1 rfl (lv_at hl 2 rfl) ?_
  refine lv_lshl hx hb dX1_listSets_2 rfl ?_
  refine lv_lconst (v := (1 : Int64)) hx hb dX1_listSets_3 (by decide) ?_
  refine lv_lsub hx hb dX1_listSets_4 ?_
  refine lv_topl (fun y5 ey5 => ?_)
  have h := lt_at h ey5
  refine lv_lstore_n (lv' := [(3, .long y5), (0, .ref (g.2.1 18)), (1, .int x1), (2, .int x2)]) hx hb dX1_listSets_5 rfl hl (Nat.le_of_ble_eq_true rfl) rfl (fun ls hl => ?_)
  refine lv_iconst (v := (0 : Int32)) hx hb dX1_listSets_6 (by decide) ?_
  refine lv_istore (lv' := [(5, .int (0 : Int32)), (3, .long y5), (0, .ref (g.2.1 18)), (1, .int x1), (2, .int x2)]) hx hb dX1_listSets_7 hl (Nat.le_of_ble_eq_true rfl) rfl (fun ls hl => ?_)
  exact l9 FUEL x1 y5 (0 : Int32) (σ.2.2.1 19) _ _ _ (lv_sub hl [2, 3, 1, 0] rfl) hG h

set_option maxHeartbeats 4000000 in
set_option maxRecDepth 100000 in
theorem c_Mk_lay (l : Launch) (g : GC) (σ : St) (x2 : Int32) (x3 : Int32) (x4 : Int32) (w_p1_near : Nat → Int32) (w_sets : Nat → Int32) (h : Mk_lay x2 x3 x4 (σ.1 769) (σ.2.2.1 13) (σ.2.2.1 19) = some (w_p1_near, w_sets)) : Cn l g yX1_lay (Cond.code yX1_lay cX1_lay 5 none :: wG) 4 90 [.ref (g.2.1 18), .ref (g.2.1 12), .int x2, .int x3, .int x4] σ none (mkS σ [] [] [(13, w_p1_near), (19, w_sets)] []) := by
  unfold Cn
  refine Met.ofW (cc := cX1_lay) (maxL := 5) (ret := none) (by decide) rfl ?_
  intro p e s m args below meth c s₁ B hml hv
  obtain ⟨hargs, hP0, hK⟩ := hv
  have hx := B.exec
  have hb := B.bytes
  have hr := B.returns
  have hts : ∀ w ∈ wG, w.before args s = true := fun w h => atoms_spec (ws := (Cond.code yX1_lay cX1_lay 5 none :: wG)) B.pre w (List.mem_cons_of_mem _ h)
  have hown : s.vm.findClass RX1 = some m.cls := findClass_of_methodNamed B.named
  have hlocks := B.notSynchronized
  have hS9 : CallFix p m c cX1_lay 5 s args wG RX1 := ⟨hx, hb, hml, hown, hts⟩
  have hw0 := hts _ mw_1_60
  have hf9 : entryFrame m args 5 = _ := (congrArg (fun a => entryFrame m a 5) hargs).trans (lg_entry_eq m [.ref (g.2.1 18), .ref (g.2.1 12), .int x2, .int x3, .int x4] 5)
  show Wg p l e 4 90 s m args below meth c g none (mkS σ [] [] [(13, w_p1_near), (19, w_sets)] []) s.heap [] (entryFrame m args 5)
  rw [hf9]
  have hl := lv_entry ([.ref (g.2.1 18), .ref (g.2.1 12), .int x2, .int x3, .int x4]) (n := 5) (Nat.le_of_ble_eq_true rfl)
  generalize (lg_sl ([.ref (g.2.1 18), .ref (g.2.1 12), .int x2, .int x3, .int x4]) ++ List.replicate (5 - (lg_sl ([.ref (g.2.1 18), .ref (g.2.1 12), .int x2, .int x3, .int x4])).length) Slot.unset).toArray = ls at hl ⊢
  have hl : lv_has ls 5 [(0, .ref (g.2.1 18)), (1, .ref (g.2.1 12)), (2, .int x2), (3, .int x3), (4, .int x4)] := hl
  have hG : GW g s σ s.heap [] := ⟨hP0, va_S.rf⟩
  have hG : GW g s (mkS σ [] [] [(13, (σ.2.2.1 13)), (19, (σ.2.2.1 19))] []) s.heap [] := GW_self [] [] [13, 19] [] hG
  unfold Mk_lay at h
  have n51 : ∀ (v_p1_near : Nat → Int32) (v_sets : Nat → Int32) (H : Heap) (locs : List Loc) (ls : Array Slot), lv_has ls 5 [] → GW g s (mkS σ [] [] [(13, v_p1_near), (19, v_sets)] []) H locs → Mk_lay_n51 v_p1_near v_sets = some (w_p1_near, w_sets) → Wg p l e 4 90 s m args below meth c g none (mkS σ [] [] [(13, w_p1_near), (19, w_sets)] []) H locs (F0 m 51 ls []) := by
    intro v_p1_near v_sets H locs ls hl hG h
    unfold Mk_lay_n51 at h
    cases h
    exact gx_vret hx hb hr hlocks hG dX1_lay_51
  have n23 : ∀ (x2 : Int32) (x4 : Int32) (v_p1_near : Nat → Int32) (v_sets : Nat → Int32) (H : Heap) (locs : List Loc) (ls : Array Slot), lv_has ls 5 [(0, .ref (g.2.1 18)), (1, .ref (g.2.1 12)), (2, .int x2), (4, .int x4)] → GW g s (mkS σ [] [] [(13, v_p1_near), (19, v_sets)] []) H locs → Mk_lay_n23 (σ.1 769) x2 x4 v_p1_near v_sets = some (w_p1_near, w_sets) → Wg p l e 4 90 s m args below meth c g none (mkS σ [] [] [(13, w_p1_near), (19, w_sets)] []) H locs (F0 m 23 ls []) := by
    intro x2 x4 v_p1_near v_sets H locs ls hl hG h
    unfold Mk_lay_n23 at h
    refine lv_aload_n hx hb dX1_lay_23 rfl (lv_at hl 0 rfl) ?_
    refine lv_aload_n hx hb dX1_lay_24 rfl (lv_at hl 1 rfl) ?_
    refine gx_get (v := .int (σ.1 769)) (C := RX2) (T := TX2) (N := 2) hx hb hts mc_X2 hown hK hG (ga_12 g _) rfl 1 (by decide) hw0 rfl rfl dX1_lay_25 ?_
    refine lv_iload hx hb dX1_lay_28 (lv_at hl 3 rfl) ?_
    obtain ⟨z1, hc2, h⟩ := bnd_some h
    refine gx_cV (σ' := (mkS σ [] [] [(13, v_p1_near), (19, z1)] [])) (r := none) (rest := []) (As := [.int (σ.1 769), .int x4]) hS9 (c_Mk_listSets l g (mkS σ [] [] [(13, v_p1_near), (19, v_sets)] []) (σ.1 769) x4 z1 hc2) (mk_mk rfl rfl rfl rfl) (cwV 2 hts (gz_V mw_2_207 mw_2_209 ms_1_2 mw_1_4 mw_2_210) rfl rfl rfl hdV_X1_listSets ⟨Nat.le_of_ble_eq_true rfl, Nat.le_of_ble_eq_true rfl⟩) hK hG (ga_18 g _) rfl rfl rfl hl.1 rfl (Nat.le_of_ble_eq_true rfl) dX1_lay_30 (fun H locs hG => ?_)
    refine W.eq (g2 := F0 m 33 ls []) rfl ?_
    refine lv_aload_n hx hb dX1_lay_33 rfl (lv_at hl 0 rfl) ?_
    refine lv_aload_n hx hb dX1_lay_34 rfl (lv_at hl 1 rfl) ?_
    refine lv_iload_n hx hb dX1_lay_35 rfl (lv_at hl 2 rfl) ?_
    refine lv_iload hx hb dX1_lay_36 (lv_at hl 3 rfl) ?_
    obtain ⟨z3, hc4, h⟩ := bnd_some h
    refine gx_cV (σ' := (mkS σ [] [] [(13, z3), (19, z1)] [])) (r := none) (rest := []) (As := [.ref (g.2.1 12), .int x2, .int x4]) hS9 (c_Mk_layPairs l g (mkS σ [] [] [(13, v_p1_near), (19, z1)] []) x2 x4 z3 hc4) (mk_mk rfl rfl rfl rfl) (cwV 3 hts (gz_V mw_2_220 mw_2_222 ms_1_3 mw_1_4 mw_2_223) rfl rfl rfl hdV_X1_layPairs ⟨Nat.le_of_ble_eq_true rfl, Nat.le_of_ble_eq_true rfl⟩) hK hG (ga_18 g _) rfl rfl rfl hl.1 rfl (Nat.le_of_ble_eq_true rfl) dX1_lay_38 (fun H locs hG => ?_)
    refine W.eq (g2 := F0 m 41 ls []) rfl ?_
    refine lv_goto (tgt := 51) hx hb dX1_lay_41 (by decide) ?_
    exact n51 z3 z1 _ _ _ (lv_sub hl [] rfl) hG h
  refine lv_iload_n hx hb dX1_lay_0 rfl (lv_at hl 2 rfl) ?_
  refine lv_iconst (v := (2 : Int32)) hx hb dX1_lay_1 (by decide) ?_
  refine lv_icmp_ne (tgt := 13) hx hb dX1_lay_2 (by decide) (fun c5 => ?_) (fun c5 => ?_)
  · have h := ite_f c5 h
    refine lv_iload_n hx hb dX1_lay_13 rfl (lv_at hl 2 rfl) ?_
    refine lv_iconst (v := (3 : Int32)) hx hb dX1_lay_14 (by decide) ?_
    refine lv_icmp_eq (tgt := 23) hx hb dX1_lay_15 (by decide) (fun c6 => ?_) (fun c6 => ?_)
    · have h := ite_t c6 h
      exact n23 x2 x4 (σ.2.2.1 13) (σ.2.2.1 19) _ _ _ (lv_sub hl [0, 1, 2, 4] rfl) hG h
    · have h := ite_f c6 h
      refine lv_iload_n hx hb dX1_lay_18 rfl (lv_at hl 2 rfl) ?_
      refine lv_iconst (v := (4 : Int32)) hx hb dX1_lay_19 (by decide) ?_
      refine lv_icmp_ne (tgt := 44) hx hb dX1_lay_20 (by decide) (fun c7 => ?_) (fun c7 => ?_)
      · have h := ite_f c7 h
        refine lv_aload_n hx hb dX1_lay_44 rfl (lv_at hl 0 rfl) ?_
        refine lv_aload_n hx hb dX1_lay_45 rfl (lv_at hl 1 rfl) ?_
        refine lv_iload_n hx hb dX1_lay_46 rfl (lv_at hl 2 rfl) ?_
        refine lv_iload_n hx hb dX1_lay_47 rfl (lv_at hl 3 rfl) ?_
        obtain ⟨z8, hc9, h⟩ := bnd_some h
        refine gx_cV (σ' := (mkS σ [] [] [(13, z8), (19, (σ.2.2.1 19))] [])) (r := none) (rest := []) (As := [.ref (g.2.1 12), .int x2, .int x3]) hS9 (c_Mk_layPairs l g (mkS σ [] [] [(13, (σ.2.2.1 13)), (19, (σ.2.2.1 19))] []) x2 x3 z8 hc9) (mk_mk rfl rfl rfl rfl) (cwV 3 hts (gz_V mw_2_220 mw_2_222 ms_1_3 mw_1_4 mw_2_223) rfl rfl rfl hdV_X1_layPairs ⟨Nat.le_of_ble_eq_true rfl, Nat.le_of_ble_eq_true rfl⟩) hK hG (ga_18 g _) rfl rfl rfl hl.1 rfl (Nat.le_of_ble_eq_true rfl) dX1_lay_48 (fun H locs hG => ?_)
        refine W.eq (g2 := F0 m 51 ls []) rfl ?_
        exact n51 z8 (σ.2.2.1 19) _ _ _ (lv_sub hl [] rfl) hG h
      · have h := ite_t c7 h
        exact n23 x2 x4 (σ.2.2.1 13) (σ.2.2.1 19) _ _ _ (lv_sub hl [0, 1, 2, 4] rfl) hG h
  · have h := ite_t c5 h
    refine lv_aload_n hx hb dX1_lay_5 rfl (lv_at hl 1 rfl) ?_
    refine lv_iload_n hx hb dX1_lay_6 rfl (lv_at hl 3 rfl) ?_
    obtain ⟨z10, hc11, h⟩ := bnd_some h
    refine gx_cS (σ' := (mkS σ [] [] [(13, z10), (19, (σ.2.2.1 19))] [])) (r := none) (rest := []) (As := [.ref (g.2.1 12), .int x3]) hS9 (c_Mk_layWords l g (mkS σ [] [] [(13, (σ.2.2.1 13)), (19, (σ.2.2.1 19))] []) x3 z10 hc11) (mk_mk rfl rfl rfl rfl) (va_cwS 2 hts (gz_S mw_2_200 mw_2_201 mw_1_4 mw_2_202) rfl rfl rfl hdS_X1_layWords ⟨Nat.le_of_ble_eq_true rfl, Nat.le_of_ble_eq_true rfl⟩) hK hG rfl hl.1 rfl (Nat.le_of_ble_eq_true rfl) dX1_lay_7 (fun H locs hG => ?_)
    refine W.eq (g2 := F0 m 10 ls []) rfl ?_
    refine lv_goto (tgt := 51) hx hb dX1_lay_10 (by decide) ?_
    exact n51 z10 (σ.2.2.1 19) _ _ _ (lv_sub hl [] rfl) hG h

set_option maxHeartbeats 4000000 in
set_option maxRecDepth 100000 in
theorem c_Net_copyFrom_10_12 (l : Launch) (g : GC) (σ : St) (w_size : Int32) (w_near : Nat → Int32) (h : Net_copyFrom (σ.1 769) (σ.1 641) (σ.2.2.1 11) (σ.2.2.1 13) = some (w_size, w_near)) : Cn l g yX2_copyFrom (Cond.code yX2_copyFrom cX2_copyFrom 2 none :: wG) 1 60 [.ref (g.2.1 10), .ref (g.2.1 12)] σ none (mkS σ [(641, w_size)] [] [(11, w_near)] []) := by
  unfold Cn
  refine Met.ofW (cc := cX2_copyFrom) (maxL := 2) (ret := none) (by decide) rfl ?_
  intro p e s m args below meth c s₁ B hml hv
  obtain ⟨hargs, hP0, hK⟩ := hv
  have hx := B.exec
  have hb := B.bytes
  have hr := B.returns
  have hts : ∀ w ∈ wG, w.before args s = true := fun w h => atoms_spec (ws := (Cond.code yX2_copyFrom cX2_copyFrom 2 none :: wG)) B.pre w (List.mem_cons_of_mem _ h)
  have hown : s.vm.findClass RX2 = some m.cls := findClass_of_methodNamed B.named
  have hlocks := B.notSynchronized
  have hw0 := hts _ mw_1_56
  have hw1 := hts _ mw_1_53
  have hw2 := hts _ mw_2_237
  have hw3 := hts _ mw_2_239
  have hw4 := hts _ mw_2_238
  have hw5 := hts _ mw_1_14
  have hf9 : entryFrame m args 2 = _ := (congrArg (fun a => entryFrame m a 2) hargs).trans (lg_entry_eq m [.ref (g.2.1 10), .ref (g.2.1 12)] 2)
  show Wg p l e 1 60 s m args below meth c g none (mkS σ [(641, w_size)] [] [(11, w_near)] []) s.heap [] (entryFrame m args 2)
  rw [hf9]
  have hl := lv_entry ([.ref (g.2.1 10), .ref (g.2.1 12)]) (n := 2) (Nat.le_of_ble_eq_true rfl)
  generalize (lg_sl ([.ref (g.2.1 10), .ref (g.2.1 12)]) ++ List.replicate (2 - (lg_sl ([.ref (g.2.1 10), .ref (g.2.1 12)])).length) Slot.unset).toArray = ls at hl ⊢
  have hl : lv_has ls 2 [(0, .ref (g.2.1 10)), (1, .ref (g.2.1 12))] := hl
  have hG : GW g s σ s.heap [] := ⟨hP0, va_S.rf⟩
  have hG : GW g s (mkS σ [(641, (σ.1 641))] [] [(11, (σ.2.2.1 11))] []) s.heap [] := GW_self [641] [] [11] [] hG
  unfold Net_copyFrom at h
  refine lv_aload_n hx hb dX2_copyFrom_0 rfl (lv_at hl 0 rfl) ?_
  refine lv_aload_n hx hb dX2_copyFrom_1 rfl (lv_at hl 1 rfl) ?_
  refine gx_get (v := .int (σ.1 769)) (C := RX2) (T := TX2) (N := 2) hx hb hts mc_X2 hown hK hG (ga_12 g _) rfl 1 (by decide) hw0 rfl rfl dX2_copyFrom_2 ?_
  refine gx_put (σ' := (mkS σ [(641, (σ.1 769))] [] [(11, (σ.2.2.1 11))] [])) (C := RX2) (T := TX2) (N := 2) hx hb hts mc_X2 tyX2 tyX2_ok nmX2 hown hK hG (ga_10 g _) rfl 1 (by decide) hw0 rfl rfl rfl rfl (Nat.le_of_ble_eq_true rfl) ((gf_641 g _ _).trans (congrArg (g_cells g) (mk_a 0 rfl rfl))) dX2_copyFrom_5 (fun H locs hG => ?_)
  refine lv_aload_n hx hb dX2_copyFrom_8 rfl (lv_at hl 1 rfl) ?_
  refine gx_get (v := .ref (g.2.1 13)) (C := RX2) (T := TX2) (N := 2) hx hb hts mc_X2 hown hK hG (ga_12 g _) rfl 0 (by decide) hw1 rfl rfl dX2_copyFrom_9 ?_
  refine lv_iconst (v := (0 : Int32)) hx hb dX2_copyFrom_12 (by decide) ?_
  refine lv_aload_n hx hb dX2_copyFrom_13 rfl (lv_at hl 0 rfl) ?_
  refine gx_get (v := .ref (g.2.1 11)) (C := RX2) (T := TX2) (N := 2) hx hb hts mc_X2 hown hK hG (ga_10 g _) rfl 0 (by decide) hw1 rfl rfl dX2_copyFrom_14 ?_
  refine lv_iconst (v := (0 : Int32)) hx hb dX2_copyFrom_17 (by decide) ?_
  refine lv_bipush (v := (32 : Int32)) hx hb dX2_copyFrom_18 (by decide) ?_
  refine gx_copyi (σ' := (mkS σ [(641, (σ.1 769))] [] [(11, (va_cpy (σ.2.2.1 13) (σ.2.2.1 11) ((0 : Int32).toNatClampNeg) ((0 : Int32).toNatClampNeg) ((32 : Int32).toNatClampNeg)))] [])) (f := (σ.2.2.1 13)) (f1 := (σ.2.2.1 11)) hx hb (by rw [hml]; exact hl.1.symm) hown hw2 hw3 hw4 hw5 hK hG (ga_13 g _) (ga_11 g _) (by decide) (by decide) (by decide) (by decide) (by decide) (Nat.le_of_ble_eq_true rfl) (Nat.le_of_ble_eq_true rfl) ((gs_11 g _ _).trans (congrArg (g_cells g) (mk_c 0 rfl rfl))) dX2_copyFrom_20 (fun H locs hG => ?_)
  cases h
  exact gx_vret hx hb hr hlocks hG dX2_copyFrom_23

set_option maxHeartbeats 4000000 in
set_option maxRecDepth 100000 in
theorem c_LN_adopt (l : Launch) (g : GC) (σ : St) (r : Int32) (w_likeness_ready : Int32) (w_now_size : Int32) (w_pairs_ready : Int32) (w_search_reach : Int32) (w_ways_ready : Int32) (w_now_near : Nat → Int32) (h : LN_adopt (σ.1 1539) (σ.1 769) (σ.1 641) (σ.1 2632) (σ.1 2372) (σ.1 1283) (σ.2.2.1 13) (σ.2.2.1 11) = some (r, w_likeness_ready, w_now_size, w_pairs_ready, w_search_reach, w_ways_ready, w_now_near)) : Cn l g yX8_adopt (Cond.code yX8_adopt cX8_adopt 1 (some .int) :: wG) 2 81 [.ref (g.2.1 0)] σ (some (.int r)) (mkS σ [(1539, w_likeness_ready), (641, w_now_size), (2632, w_pairs_ready), (2372, w_search_reach), (1283, w_ways_ready)] [] [(11, w_now_near)] []) := by
  unfold Cn
  refine Met.ofW (cc := cX8_adopt) (maxL := 1) (ret := (some .int)) (by decide) rfl ?_
  intro p e s m args below meth c s₁ B hml hv
  obtain ⟨hargs, hP0, hK⟩ := hv
  have hx := B.exec
  have hb := B.bytes
  have hr := B.returns
  have hts : ∀ w ∈ wG, w.before args s = true := fun w h => atoms_spec (ws := (Cond.code yX8_adopt cX8_adopt 1 (some .int) :: wG)) B.pre w (List.mem_cons_of_mem _ h)
  have hown : s.vm.findClass RX8 = some m.cls := findClass_of_methodNamed B.named
  have hlocks := B.notSynchronized
  have hS9 : CallFix p m c cX8_adopt 1 s args wG RX8 := ⟨hx, hb, hml, hown, hts⟩
  have hw0 := hts _ mw_2_38
  have hw1 := hts _ mw_2_39
  have hw2 := hts _ mw_1_61
  have hf9 : entryFrame m args 1 = _ := (congrArg (fun a => entryFrame m a 1) hargs).trans (lg_entry_eq m [.ref (g.2.1 0)] 1)
  show Wg p l e 2 81 s m args below meth c g (some (.int r)) (mkS σ [(1539, w_likeness_ready), (641, w_now_size), (2632, w_pairs_ready), (2372, w_search_reach), (1283, w_ways_ready)] [] [(11, w_now_near)] []) s.heap [] (entryFrame m args 1)
  rw [hf9]
  have hl := lv_entry ([.ref (g.2.1 0)]) (n := 1) (Nat.le_of_ble_eq_true rfl)
  generalize (lg_sl ([.ref (g.2.1 0)]) ++ List.replicate (1 - (lg_sl ([.ref (g.2.1 0)])).length) Slot.unset).toArray = ls at hl ⊢
  have hl : lv_has ls 1 [(0, .ref (g.2.1 0))] := hl
  have hG : GW g s σ s.heap [] := ⟨hP0, va_S.rf⟩
  have hG : GW g s (mkS σ [(1539, (σ.1 1539)), (641, (σ.1 641)), (2632, (σ.1 2632)), (2372, (σ.1 2372)), (1283, (σ.1 1283))] [] [(11, (σ.2.2.1 11))] []) s.heap [] := GW_self [1539, 641, 2632, 2372, 1283] [] [11] [] hG
  unfold LN_adopt at h
  refine lv_aload_n hx hb dX8_adopt_0 rfl (lv_at hl 0 rfl) ?_
  refine gx_get (v := .ref (g.2.1 10)) (C := RX8) (T := TX8) (N := 13) hx hb hts mc_X8 hown hK hG (ga_0 g _) rfl 1 (by decide) hw0 rfl rfl dX8_adopt_1 ?_
  refine lv_aload_n hx hb dX8_adopt_4 rfl (lv_at hl 0 rfl) ?_
  refine gx_get (v := .ref (g.2.1 12)) (C := RX8) (T := TX8) (N := 13) hx hb hts mc_X8 hown hK hG (ga_0 g _) rfl 2 (by decide) hw1 rfl rfl dX8_adopt_5 ?_
  obtain ⟨z1, hc2, h⟩ := bnd_some h
  refine gx_cV (σ' := (mkS σ [(1539, (σ.1 1539)), (641, z1.1), (2632, (σ.1 2632)), (2372, (σ.1 2372)), (1283, (σ.1 1283))] [] [(11, z1.2)] [])) (r := none) (rest := []) (As := [.ref (g.2.1 12)]) hS9 (c_Net_copyFrom_10_12 l g (mkS σ [(1539, (σ.1 1539)), (641, (σ.1 641)), (2632, (σ.1 2632)), (2372, (σ.1 2372)), (1283, (σ.1 1283))] [] [(11, (σ.2.2.1 11))] []) z1.1 z1.2 hc2) (mk_mk rfl rfl rfl rfl) (cwV 1 hts (gz_V mw_2_233 mw_2_234 mw_2_235 mw_1_3 mw_2_236) rfl rfl rfl hdV_X2_copyFrom ⟨Nat.le_of_ble_eq_true rfl, Nat.le_of_ble_eq_true rfl⟩) hK hG (ga_10 g _) rfl rfl rfl hl.1 rfl (Nat.le_of_ble_eq_true rfl) dX8_adopt_8 (fun H locs hG => ?_)
  refine W.eq (g2 := F0 m 11 ls []) rfl ?_
  refine lv_aload_n hx hb dX8_adopt_11 rfl (lv_at hl 0 rfl) ?_
  obtain ⟨z3, hc4, h⟩ := bnd_some h
  refine gx_cV (σ' := (mkS σ [(1539, z3.1), (641, z1.1), (2632, z3.2.1), (2372, z3.2.2.1), (1283, z3.2.2.2)] [] [(11, z1.2)] [])) (r := none) (rest := []) (As := []) hS9 (c_LN_forget l g (mkS σ [(1539, (σ.1 1539)), (641, z1.1), (2632, (σ.1 2632)), (2372, (σ.1 2372)), (1283, (σ.1 1283))] [] [(11, z1.2)] []) z3.1 z3.2.1 z3.2.2.1 z3.2.2.2 hc4) (mk_mk rfl rfl rfl rfl) (cwV 0 hts (gz_V mw_2_114 mw_2_116 ms_1_0 mw_1_1 mw_2_117) rfl rfl rfl hdV_X8_forget ⟨Nat.le_of_ble_eq_true rfl, Nat.le_of_ble_eq_true rfl⟩) hK hG (ga_0 g _) rfl rfl rfl hl.1 rfl (Nat.le_of_ble_eq_true rfl) dX8_adopt_12 (fun H locs hG => ?_)
  refine W.eq (g2 := F0 m 15 ls []) rfl ?_
  refine lv_aload_n hx hb dX8_adopt_15 rfl (lv_at hl 0 rfl) ?_
  refine gx_get (v := .ref (g.2.1 10)) (C := RX8) (T := TX8) (N := 13) hx hb hts mc_X8 hown hK hG (ga_0 g _) rfl 1 (by decide) hw0 rfl rfl dX8_adopt_16 ?_
  refine gx_get (v := .int z1.1) (C := RX2) (T := TX2) (N := 2) hx hb hts mc_X2 hown hK hG (ga_10 g _) rfl 1 (by decide) hw2 rfl rfl dX8_adopt_19 ?_
  cases h
  exact gx_iret hx hb hr hlocks hG dX8_adopt_22

set_option maxHeartbeats 4000000 in
set_option maxRecDepth 100000 in
theorem c_LN_build (l : Launch) (g : GC) (σ : St) (x1 : Int32) (x2 : Int32) (x3 : Int32) (r : Int32) (w_likeness_ready : Int32) (w_made_size : Int32) (w_now_size : Int32) (w_pairs_ready : Int32) (w_search_reach : Int32) (w_ways_ready : Int32) (w_made_near : Nat → Int32) (w_makings_sets : Nat → Int32) (w_now_near : Nat → Int32) (h : LN_build x1 x2 x3 (σ.1 1539) (σ.1 769) (σ.1 641) (σ.1 2632) (σ.1 2372) (σ.1 1283) (σ.2.2.1 13) (σ.2.2.1 19) (σ.2.2.1 11) = some (r, w_likeness_ready, w_made_size, w_now_size, w_pairs_ready, w_search_reach, w_ways_ready, w_made_near, w_makings_sets, w_now_near)) : Cn l g yX8_build (Cond.code yX8_build cX8_build 6 (some .int) :: wG) 5 114 [.ref (g.2.1 0), .int x1, .int x2, .int x3] σ (some (.int r)) (mkS σ [(1539, w_likeness_ready), (769, w_made_size), (641, w_now_size), (2632, w_pairs_ready), (2372, w_search_reach), (1283, w_ways_ready)] [] [(13, w_made_near), (19, w_makings_sets), (11, w_now_near)] []) := by
  unfold Cn
  refine Met.ofW (cc := cX8_build) (maxL := 6) (ret := (some .int)) (by decide) rfl ?_
  intro p e s m args below meth c s₁ B hml hv
  obtain ⟨hargs, hP0, hK⟩ := hv
  have hx := B.exec
  have hb := B.bytes
  have hr := B.returns
  have hts : ∀ w ∈ wG, w.before args s = true := fun w h => atoms_spec (ws := (Cond.code yX8_build cX8_build 6 (some .int) :: wG)) B.pre w (List.mem_cons_of_mem _ h)
  have hown : s.vm.findClass RX8 = some m.cls := findClass_of_methodNamed B.named
  have hlocks := B.notSynchronized
  have hS9 : CallFix p m c cX8_build 6 s args wG RX8 := ⟨hx, hb, hml, hown, hts⟩
  have hw0 := hts _ mw_2_195
  have hw1 := hts _ mw_2_39
  have hw2 := hts _ mw_2_43
  have hf9 : entryFrame m args 6 = _ := (congrArg (fun a => entryFrame m a 6) hargs).trans (lg_entry_eq m [.ref (g.2.1 0), .int x1, .int x2, .int x3] 6)
  show Wg p l e 5 114 s m args below meth c g (some (.int r)) (mkS σ [(1539, w_likeness_ready), (769, w_made_size), (641, w_now_size), (2632, w_pairs_ready), (2372, w_search_reach), (1283, w_ways_ready)] [] [(13, w_made_near), (19, w_makings_sets), (11, w_now_near)] []) s.heap [] (entryFrame m args 6)
  rw [hf9]
  have hl := lv_entry ([.ref (g.2.1 0), .int x1, .int x2, .int x3]) (n := 6) (Nat.le_of_ble_eq_true rfl)
  generalize (lg_sl ([.ref (g.2.1 0), .int x1, .int x2, .int x3]) ++ List.replicate (6 - (lg_sl ([.ref (g.2.1 0), .int x1, .int x2, .int x3])).length) Slot.unset).toArray = ls at hl ⊢
  have hl : lv_has ls 6 [(0, .ref (g.2.1 0)), (1, .int x1), (2, .int x2), (3, .int x3)] := hl
  have hG : GW g s σ s.heap [] := ⟨hP0, va_S.rf⟩
  have hG : GW g s (mkS σ [(1539, (σ.1 1539)), (769, (σ.1 769)), (641, (σ.1 641)), (2632, (σ.1 2632)), (2372, (σ.1 2372)), (1283, (σ.1 1283))] [] [(13, (σ.2.2.1 13)), (19, (σ.2.2.1 19)), (11, (σ.2.2.1 11))] []) s.heap [] := GW_self [1539, 769, 641, 2632, 2372, 1283] [] [13, 19, 11] [] hG
  unfold LN_build at h
  refine lv_iload_n hx hb dX8_build_0 rfl (lv_at hl 1 rfl) ?_
  refine lv_iload_n hx hb dX8_build_1 rfl (lv_at hl 2 rfl) ?_
  refine lv_iload_n hx hb dX8_build_2 rfl (lv_at hl 3 rfl) ?_
  obtain ⟨z1, hc2, h⟩ := bnd_some h
  refine gx_cS (σ' := (mkS σ [(1539, (σ.1 1539)), (769, (σ.1 769)), (641, (σ.1 641)), (2632, (σ.1 2632)), (2372, (σ.1 2372)), (1283, (σ.1 1283))] [] [(13, (σ.2.2.1 13)), (19, (σ.2.2.1 19)), (11, (σ.2.2.1 11))] [])) (r := (some (.int z1))) (rest := []) (As := [.int x1, .int x2, .int x3]) hS9 (c_Mk_mayBe l g (mkS σ [(1539, (σ.1 1539)), (769, (σ.1 769)), (641, (σ.1 641)), (2632, (σ.1 2632)), (2372, (σ.1 2372)), (1283, (σ.1 1283))] [] [(13, (σ.2.2.1 13)), (19, (σ.2.2.1 19)), (11, (σ.2.2.1 11))] []) x1 x2 x3 z1 hc2) rfl (va_cwS 3 hts (gz_S mw_2_182 mw_2_183 mw_1_4 mw_2_184) rfl rfl rfl hdS_X1_mayBe ⟨Nat.le_of_ble_eq_true rfl, Nat.le_of_ble_eq_true rfl⟩) hK hG rfl hl.1 rfl (Nat.le_of_ble_eq_true rfl) dX8_build_3 (fun H locs hG => ?_)
  refine W.eq (g2 := F0 m 6 ls [.int z1]) rfl ?_
  refine lv_if_ne (tgt := 11) hx hb dX8_build_6 (by decide) (fun c3 => ?_) (fun c3 => ?_)
  · have h := ite_f c3 h
    refine lv_iload_n hx hb dX8_build_11 rfl (lv_at hl 1 rfl) ?_
    refine lv_iload_n hx hb dX8_build_12 rfl (lv_at hl 2 rfl) ?_
    refine lv_iload_n hx hb dX8_build_13 rfl (lv_at hl 3 rfl) ?_
    obtain ⟨z4, hc5, h⟩ := bnd_some h
    refine gx_cS (σ' := (mkS σ [(1539, (σ.1 1539)), (769, (σ.1 769)), (641, (σ.1 641)), (2632, (σ.1 2632)), (2372, (σ.1 2372)), (1283, (σ.1 1283))] [] [(13, (σ.2.2.1 13)), (19, (σ.2.2.1 19)), (11, (σ.2.2.1 11))] [])) (r := (some (.long z4))) (rest := []) (As := [.int x1, .int x2, .int x3]) hS9 (c_Mk_size l g (mkS σ [(1539, (σ.1 1539)), (769, (σ.1 769)), (641, (σ.1 641)), (2632, (σ.1 2632)), (2372, (σ.1 2372)), (1283, (σ.1 1283))] [] [(13, (σ.2.2.1 13)), (19, (σ.2.2.1 19)), (11, (σ.2.2.1 11))] []) x1 x2 x3 z4 hc5) rfl (va_cwS 3 hts (gz_S mw_2_185 mw_2_186 mw_1_4 mw_2_187) rfl rfl rfl hdS_X1_size ⟨Nat.le_of_ble_eq_true rfl, Nat.le_of_ble_eq_true rfl⟩) hK hG rfl hl.1 rfl (Nat.le_of_ble_eq_true rfl) dX8_build_14 (fun H locs hG => ?_)
    refine W.eq (g2 := F0 m 17 ls [.long z4]) rfl ?_
    refine lv_lstore (lv' := [(4, .long z4), (0, .ref (g.2.1 0)), (1, .int x1), (2, .int x2), (3, .int x3)]) hx hb dX8_build_17 hl (Nat.le_of_ble_eq_true rfl) rfl (fun ls hl => ?_)
    refine lv_lload hx hb dX8_build_19 (lv_at hl 0 rfl) ?_
    refine lv_ldc2 hx hb hown hw0 dX8_build_21 ?_
    refine W.lcmp hx hb dX8_build_24 ?_
    refine lv_if_le (tgt := 31) hx hb dX8_build_25 (by decide) (fun c6 => ?_) (fun c6 => ?_)
    · have h := ite_t c6 h
      refine lv_aload_n hx hb dX8_build_31 rfl (lv_at hl 1 rfl) ?_
      refine gx_get (v := .ref (g.2.1 12)) (C := RX8) (T := TX8) (N := 13) hx hb hts mc_X8 hown hK hG (ga_0 g _) rfl 2 (by decide) hw1 rfl rfl dX8_build_32 ?_
      refine lv_lload hx hb dX8_build_35 (lv_at hl 0 rfl) ?_
      refine lv_l2i hx hb dX8_build_37 rfl ?_
      obtain ⟨z7, hc8, h⟩ := bnd_some h
      refine gx_cV (σ' := (mkS σ [(1539, (σ.1 1539)), (769, z7.1), (641, (σ.1 641)), (2632, (σ.1 2632)), (2372, (σ.1 2372)), (1283, (σ.1 1283))] [] [(13, z7.2), (19, (σ.2.2.1 19)), (11, (σ.2.2.1 11))] [])) (r := none) (rest := []) (As := [.int (z4.toInt32)]) hS9 (c_Net_empty_12 l g (mkS σ [(1539, (σ.1 1539)), (769, (σ.1 769)), (641, (σ.1 641)), (2632, (σ.1 2632)), (2372, (σ.1 2372)), (1283, (σ.1 1283))] [] [(13, (σ.2.2.1 13)), (19, (σ.2.2.1 19)), (11, (σ.2.2.1 11))] []) (z4.toInt32) z7.1 z7.2 hc8) (mk_mk rfl rfl rfl rfl) (cwV 1 hts (gz_V mw_2_109 mw_2_110 mw_2_111 mw_1_3 mw_2_112) rfl rfl rfl hdV_X2_empty ⟨Nat.le_of_ble_eq_true rfl, Nat.le_of_ble_eq_true rfl⟩) hK hG (ga_12 g _) rfl rfl rfl hl.1 rfl (Nat.le_of_ble_eq_true rfl) dX8_build_38 (fun H locs hG => ?_)
      refine W.eq (g2 := F0 m 41 ls []) rfl ?_
      refine lv_aload_n hx hb dX8_build_41 rfl (lv_at hl 1 rfl) ?_
      refine gx_get (v := .ref (g.2.1 18)) (C := RX8) (T := TX8) (N := 13) hx hb hts mc_X8 hown hK hG (ga_0 g _) rfl 6 (by decide) hw2 rfl rfl dX8_build_42 ?_
      refine lv_aload_n hx hb dX8_build_45 rfl (lv_at hl 1 rfl) ?_
      refine gx_get (v := .ref (g.2.1 12)) (C := RX8) (T := TX8) (N := 13) hx hb hts mc_X8 hown hK hG (ga_0 g _) rfl 2 (by decide) hw1 rfl rfl dX8_build_46 ?_
      refine lv_iload_n hx hb dX8_build_49 rfl (lv_at hl 2 rfl) ?_
      refine lv_iload_n hx hb dX8_build_50 rfl (lv_at hl 3 rfl) ?_
      refine lv_iload_n hx hb dX8_build_51 rfl (lv_at hl 4 rfl) ?_
      obtain ⟨z9, hc10, h⟩ := bnd_some h
      refine gx_cV (σ' := (mkS σ [(1539, (σ.1 1539)), (769, z7.1), (641, (σ.1 641)), (2632, (σ.1 2632)), (2372, (σ.1 2372)), (1283, (σ.1 1283))] [] [(13, z9.1), (19, z9.2), (11, (σ.2.2.1 11))] [])) (r := none) (rest := []) (As := [.ref (g.2.1 12), .int x1, .int x2, .int x3]) hS9 (c_Mk_lay l g (mkS σ [(1539, (σ.1 1539)), (769, z7.1), (641, (σ.1 641)), (2632, (σ.1 2632)), (2372, (σ.1 2372)), (1283, (σ.1 1283))] [] [(13, z7.2), (19, (σ.2.2.1 19)), (11, (σ.2.2.1 11))] []) x1 x2 x3 z9.1 z9.2 hc10) (mk_mk rfl rfl rfl rfl) (cwV 4 hts (gz_V mw_2_196 mw_2_197 mw_2_198 mw_1_4 mw_2_199) rfl rfl rfl hdV_X1_lay ⟨Nat.le_of_ble_eq_true rfl, Nat.le_of_ble_eq_true rfl⟩) hK hG (ga_18 g _) rfl rfl rfl hl.1 rfl (Nat.le_of_ble_eq_true rfl) dX8_build_52 (fun H locs hG => ?_)
      refine W.eq (g2 := F0 m 55 ls []) rfl ?_
      refine lv_aload_n hx hb dX8_build_55 rfl (lv_at hl 1 rfl) ?_
      obtain ⟨z11, hc12, h⟩ := bnd_some h
      refine gx_cV (σ' := (mkS σ [(1539, z11.2.1), (769, z7.1), (641, z11.2.2.1), (2632, z11.2.2.2.1), (2372, z11.2.2.2.2.1), (1283, z11.2.2.2.2.2.1)] [] [(13, z9.1), (19, z9.2), (11, z11.2.2.2.2.2.2)] [])) (r := (some (.int z11.1))) (rest := []) (As := []) hS9 (c_LN_adopt l g (mkS σ [(1539, (σ.1 1539)), (769, z7.1), (641, (σ.1 641)), (2632, (σ.1 2632)), (2372, (σ.1 2372)), (1283, (σ.1 1283))] [] [(13, z9.1), (19, z9.2), (11, (σ.2.2.1 11))] []) z11.1 z11.2.1 z11.2.2.1 z11.2.2.2.1 z11.2.2.2.2.1 z11.2.2.2.2.2.1 z11.2.2.2.2.2.2 hc12) (mk_mk rfl rfl rfl rfl) (cwV 0 hts (gz_V mw_2_229 mw_2_231 ms_1_5 mw_1_1 mw_2_232) rfl rfl rfl hdV_X8_adopt ⟨Nat.le_of_ble_eq_true rfl, Nat.le_of_ble_eq_true rfl⟩) hK hG (ga_0 g _) rfl rfl rfl hl.1 rfl (Nat.le_of_ble_eq_true rfl) dX8_build_56 (fun H locs hG => ?_)
      refine W.eq (g2 := F0 m 59 ls [.int z11.1]) rfl ?_
      cases h
      exact gx_iret hx hb hr hlocks hG dX8_build_59
    · have h := ite_f c6 h
      refine lv_bipush (v := (-2 : Int32)) hx hb dX8_build_28 (by decide) ?_
      cases h
      exact gx_iret hx hb hr hlocks hG dX8_build_30
  · have h := ite_t c3 h
    refine lv_iconst (v := (-1 : Int32)) hx hb dX8_build_9 (by decide) ?_
    cases h
    exact gx_iret hx hb hr hlocks hG dX8_build_10

set_option maxHeartbeats 4000000 in
set_option maxRecDepth 100000 in
theorem c_Td_isPositive (l : Launch) (g : GC) (σ : St) (r : Int32) (h : Td_isPositive (σ.1 1800) (σ.2.2.1 29) (σ.2.2.1 30) = some r) : Cn l g yX6_isPositive (Cond.code yX6_isPositive cX6_isPositive 2 (some .boolean) :: wG) 0 0 [.ref (g.2.1 28)] σ (some (.int r)) σ := by
  unfold Cn
  refine Met.ofW (cc := cX6_isPositive) (maxL := 2) (ret := (some .boolean)) (by decide) rfl ?_
  intro p e s m args below meth c s₁ B hml hv
  obtain ⟨hargs, hP0, hK⟩ := hv
  have hx := B.exec
  have hb := B.bytes
  have hr := B.returns
  have hts : ∀ w ∈ wG, w.before args s = true := fun w h => atoms_spec (ws := (Cond.code yX6_isPositive cX6_isPositive 2 (some .boolean) :: wG)) B.pre w (List.mem_cons_of_mem _ h)
  have hown : s.vm.findClass RX6 = some m.cls := findClass_of_methodNamed B.named
  have hlocks := B.notSynchronized
  have hw0 := hts _ mw_1_159
  have hw1 := hts _ mw_1_171
  have hw2 := hts _ mw_1_157
  have hf9 : entryFrame m args 2 = _ := (congrArg (fun a => entryFrame m a 2) hargs).trans (lg_entry_eq m [.ref (g.2.1 28)] 2)
  show Wg p l e 0 0 s m args below meth c g (some (.int r)) σ s.heap [] (entryFrame m args 2)
  rw [hf9]
  have hl := lv_entry ([.ref (g.2.1 28)]) (n := 2) (Nat.le_of_ble_eq_true rfl)
  generalize (lg_sl ([.ref (g.2.1 28)]) ++ List.replicate (2 - (lg_sl ([.ref (g.2.1 28)])).length) Slot.unset).toArray = ls at hl ⊢
  have hl : lv_has ls 2 [(0, .ref (g.2.1 28))] := hl
  have hG : GW g s σ s.heap [] := ⟨hP0, va_S.rf⟩
  unfold Td_isPositive at h
  have n32 : ∀  (H : Heap) (locs : List Loc) (ls : Array Slot), lv_has ls 2 [] → GW g s σ H locs → Td_isPositive_n32 = some r → Wg p l e 0 0 s m args below meth c g (some (.int r)) σ H locs (F0 m 32 ls []) := by
    intro H locs ls hl hG h
    unfold Td_isPositive_n32 at h
    refine lv_iconst (v := (0 : Int32)) hx hb dX6_isPositive_32 (by decide) ?_
    cases h
    exact gx_zret hx hb hr hlocks (by decide) hG dX6_isPositive_33
  have n55 : ∀ (t0 : Int32) (H : Heap) (locs : List Loc) (ls : Array Slot), lv_has ls 2 [] → GW g s σ H locs → Td_isPositive_n55 t0 = some r → Wg p l e 0 0 s m args below meth c g (some (.int r)) σ H locs (F0 m 55 ls [.int t0]) := by
    intro t0 H locs ls hl hG h
    unfold Td_isPositive_n55 at h
    obtain ⟨hg1, h⟩ := gd_some h
    cases h
    exact gx_zret hx hb hr hlocks hg1 hG dX6_isPositive_55
  have n40 : ∀  (H : Heap) (locs : List Loc) (ls : Array Slot), lv_has ls 2 [(0, .ref (g.2.1 28))] → GW g s σ H locs → Td_isPositive_n40 (σ.2.2.1 30) = some r → Wg p l e 0 0 s m args below meth c g (some (.int r)) σ H locs (F0 m 40 ls []) := by
    intro H locs ls hl hG h
    unfold Td_isPositive_n40 at h
    refine lv_aload_n hx hb dX6_isPositive_40 rfl (lv_at hl 0 rfl) ?_
    refine gx_get (v := .ref (g.2.1 30)) (C := RX6) (T := TX6) (N := 13) hx hb hts mc_X6 hown hK hG (ga_28 g _) rfl 1 (by decide) hw0 rfl rfl dX6_isPositive_41 ?_
    refine lv_iconst (v := (1 : Int32)) hx hb dX6_isPositive_44 (by decide) ?_
    refine gx_iald (f := (σ.2.2.1 30)) hx hb hK hG (ga_30 g _) (by decide) dX6_isPositive_45 ?_
    refine lv_iconst (v := (1 : Int32)) hx hb dX6_isPositive_46 (by decide) ?_
    refine lv_icmp_ne (tgt := 54) hx hb dX6_isPositive_47 (by decide) (fun c2 => ?_) (fun c2 => ?_)
    · have h := ite_f c2 h
      refine lv_iconst (v := (0 : Int32)) hx hb dX6_isPositive_54 (by decide) ?_
      exact n55 (0 : Int32) _ _ _ (lv_sub hl [] rfl) hG h
    · have h := ite_t c2 h
      refine lv_iconst (v := (1 : Int32)) hx hb dX6_isPositive_50 (by decide) ?_
      refine lv_goto (tgt := 55) hx hb dX6_isPositive_51 (by decide) ?_
      exact n55 (1 : Int32) _ _ _ (lv_sub hl [] rfl) hG h
  have n2 : ∀ (k2 : Int32 → Option (Int32)) (hk2 : ∀ (x1 : Int32) (H : Heap) (locs : List Loc) (ls : Array Slot), lv_has ls 2 [(0, .ref (g.2.1 28)), (1, .int x1)] → GW g s σ H locs → k2 x1 = some r → Wg p l e 0 0 s m args below meth c g (some (.int r)) σ H locs (F0 m 2 ls [])) (x1 : Int32) (H : Heap) (locs : List Loc) (ls : Array Slot), lv_has ls 2 [(0, .ref (g.2.1 28)), (1, .int x1)] → GW g s σ H locs → Td_isPositive_n2 k2 (σ.1 1800) (σ.2.2.1 29) (σ.2.2.1 30) x1 = some r → Wg p l e 0 0 s m args below meth c g (some (.int r)) σ H locs (F0 m 2 ls []) := by
    intro k2 hk2 x1 H locs ls hl hG h
    unfold Td_isPositive_n2 at h
    refine lv_iload_n hx hb dX6_isPositive_2 rfl (lv_at hl 1 rfl) ?_
    refine lv_aload_n hx hb dX6_isPositive_3 rfl (lv_at hl 0 rfl) ?_
    refine gx_get (v := .int (σ.1 1800)) (C := RX6) (T := TX6) (N := 13) hx hb hts mc_X6 hown hK hG (ga_28 g _) rfl 8 (by decide) hw1 rfl rfl dX6_isPositive_4 ?_
    refine lv_icmp_ge (tgt := 40) hx hb dX6_isPositive_7 (by decide) (fun c3 => ?_) (fun c3 => ?_)
    · have h := ite_t c3 h
      exact n40 _ _ _ (lv_sub hl [0] rfl) hG h
    · have h := ite_f c3 h
      refine lv_aload_n hx hb dX6_isPositive_10 rfl (lv_at hl 0 rfl) ?_
      refine gx_get (v := .ref (g.2.1 29)) (C := RX6) (T := TX6) (N := 13) hx hb hts mc_X6 hown hK hG (ga_28 g _) rfl 0 (by decide) hw2 rfl rfl dX6_isPositive_11 ?_
      refine lv_iload_n hx hb dX6_isPositive_14 rfl (lv_at hl 1 rfl) ?_
      obtain ⟨hg4, h⟩ := gd_some h
      refine gx_iald (f := (σ.2.2.1 29)) hx hb hK hG (ga_29 g _) hg4 dX6_isPositive_15 ?_
      refine lv_iconst (v := (1 : Int32)) hx hb dX6_isPositive_16 (by decide) ?_
      refine lv_icmp_lt (tgt := 32) hx hb dX6_isPositive_17 (by decide) (fun c5 => ?_) (fun c5 => ?_)
      · have h := ite_t c5 h
        exact n32 _ _ _ (lv_sub hl [] rfl) hG h
      · have h := ite_f c5 h
        refine lv_aload_n hx hb dX6_isPositive_20 rfl (lv_at hl 0 rfl) ?_
        refine gx_get (v := .ref (g.2.1 30)) (C := RX6) (T := TX6) (N := 13) hx hb hts mc_X6 hown hK hG (ga_28 g _) rfl 1 (by decide) hw0 rfl rfl dX6_isPositive_21 ?_
        refine lv_iload_n hx hb dX6_isPositive_24 rfl (lv_at hl 1 rfl) ?_
        refine lv_iconst (v := (1 : Int32)) hx hb dX6_isPositive_25 (by decide) ?_
        refine lv_iadd hx hb dX6_isPositive_26 ?_
        obtain ⟨hg6, h⟩ := gd_some h
        refine gx_iald (f := (σ.2.2.1 30)) hx hb hK hG (ga_30 g _) hg6 dX6_isPositive_27 ?_
        refine lv_iconst (v := (1 : Int32)) hx hb dX6_isPositive_28 (by decide) ?_
        refine lv_icmp_ge (tgt := 34) hx hb dX6_isPositive_29 (by decide) (fun c7 => ?_) (fun c7 => ?_)
        · have h := ite_t c7 h
          refine lv_iinc (v := (x1 + (1 : Int32))) (lv' := [(1, .int (x1 + (1 : Int32))), (0, .ref (g.2.1 28))]) hx hb dX6_isPositive_34 hl (k := 1) rfl (congrArg (fun z => x1 + z) (by decide)) (Nat.le_of_ble_eq_true rfl) rfl (fun ls hl => ?_)
          refine lv_goto (tgt := 2) hx hb dX6_isPositive_37 (by decide) ?_
          exact hk2 (x1 + (1 : Int32)) _ _ _ (lv_sub hl [1, 0] rfl) hG h
        · have h := ite_f c7 h
          exact n32 _ _ _ (lv_sub hl [] rfl) hG h
  have l2 : ∀  (F : Nat) (x1 : Int32) (H : Heap) (locs : List Loc) (ls : Array Slot), lv_has ls 2 [(0, .ref (g.2.1 28)), (1, .int x1)] → GW g s σ H locs → Td_isPositive_l2 (σ.1 1800) (σ.2.2.1 29) (σ.2.2.1 30) F x1 = some r → Wg p l e 0 0 s m args below meth c g (some (.int r)) σ H locs (F0 m 2 ls []) := by
    intro F
    induction F with
    | zero => intro x1 H locs ls hl hG h; exact no_some h
    | succ F ih => intro x1 H locs ls hl hG h; exact n2 (fun x1 => Td_isPositive_l2 (σ.1 1800) (σ.2.2.1 29) (σ.2.2.1 30) F x1) ih x1 H locs ls hl hG h
  refine lv_iconst (v := (0 : Int32)) hx hb dX6_isPositive_0 (by decide) ?_
  refine lv_istore_n (lv' := [(1, .int (0 : Int32)), (0, .ref (g.2.1 28))]) hx hb dX6_isPositive_1 rfl hl (Nat.le_of_ble_eq_true rfl) rfl (fun ls hl => ?_)
  exact l2 FUEL (0 : Int32) _ _ _ (lv_sub hl [1, 0] rfl) hG h

set_option maxHeartbeats 4000000 in
set_option maxRecDepth 100000 in
theorem c_Td_level (l : Launch) (g : GC) (σ : St) (x1 : Int32) (r : Int32) (h : Td_level x1 (σ.2.2.1 29) (σ.2.2.1 30) = some r) : Cn l g yX6_level (Cond.code yX6_level cX6_level 2 (some .int) :: wG) 0 0 [.ref (g.2.1 28), .int x1] σ (some (.int r)) σ := by
  unfold Cn
  refine Met.ofW (cc := cX6_level) (maxL := 2) (ret := (some .int)) (by decide) rfl ?_
  intro p e s m args below meth c s₁ B hml hv
  obtain ⟨hargs, hP0, hK⟩ := hv
  have hx := B.exec
  have hb := B.bytes
  have hr := B.returns
  have hts : ∀ w ∈ wG, w.before args s = true := fun w h => atoms_spec (ws := (Cond.code yX6_level cX6_level 2 (some .int) :: wG)) B.pre w (List.mem_cons_of_mem _ h)
  have hown : s.vm.findClass RX6 = some m.cls := findClass_of_methodNamed B.named
  have hlocks := B.notSynchronized
  have hw0 := hts _ mw_1_157
  have hw1 := hts _ mw_1_159
  have hf9 : entryFrame m args 2 = _ := (congrArg (fun a => entryFrame m a 2) hargs).trans (lg_entry_eq m [.ref (g.2.1 28), .int x1] 2)
  show Wg p l e 0 0 s m args below meth c g (some (.int r)) σ s.heap [] (entryFrame m args 2)
  rw [hf9]
  have hl := lv_entry ([.ref (g.2.1 28), .int x1]) (n := 2) (Nat.le_of_ble_eq_true rfl)
  generalize (lg_sl ([.ref (g.2.1 28), .int x1]) ++ List.replicate (2 - (lg_sl ([.ref (g.2.1 28), .int x1])).length) Slot.unset).toArray = ls at hl ⊢
  have hl : lv_has ls 2 [(0, .ref (g.2.1 28)), (1, .int x1)] := hl
  have hG : GW g s σ s.heap [] := ⟨hP0, va_S.rf⟩
  unfold Td_level at h
  refine lv_aload_n hx hb dX6_level_0 rfl (lv_at hl 0 rfl) ?_
  refine gx_get (v := .ref (g.2.1 29)) (C := RX6) (T := TX6) (N := 13) hx hb hts mc_X6 hown hK hG (ga_28 g _) rfl 0 (by decide) hw0 rfl rfl dX6_level_1 ?_
  refine lv_iconst (v := (0 : Int32)) hx hb dX6_level_4 (by decide) ?_
  refine gx_iald (f := (σ.2.2.1 29)) hx hb hK hG (ga_29 g _) (by decide) dX6_level_5 ?_
  refine lv_aload_n hx hb dX6_level_6 rfl (lv_at hl 0 rfl) ?_
  refine gx_get (v := .ref (g.2.1 29)) (C := RX6) (T := TX6) (N := 13) hx hb hts mc_X6 hown hK hG (ga_28 g _) rfl 0 (by decide) hw0 rfl rfl dX6_level_7 ?_
  refine lv_iload_n hx hb dX6_level_10 rfl (lv_at hl 1 rfl) ?_
  obtain ⟨hg1, h⟩ := gd_some h
  refine gx_iald (f := (σ.2.2.1 29)) hx hb hK hG (ga_29 g _) hg1 dX6_level_11 ?_
  refine lv_isub hx hb dX6_level_12 ?_
  refine lv_aload_n hx hb dX6_level_13 rfl (lv_at hl 0 rfl) ?_
  refine gx_get (v := .ref (g.2.1 30)) (C := RX6) (T := TX6) (N := 13) hx hb hts mc_X6 hown hK hG (ga_28 g _) rfl 1 (by decide) hw1 rfl rfl dX6_level_14 ?_
  refine lv_iload_n hx hb dX6_level_17 rfl (lv_at hl 1 rfl) ?_
  refine gx_iald (f := (σ.2.2.1 30)) hx hb hK hG (ga_30 g _) hg1 dX6_level_18 ?_
  refine lv_isub hx hb dX6_level_19 ?_
  cases h
  exact gx_iret hx hb hr hlocks hG dX6_level_20

set_option maxHeartbeats 4000000 in
set_option maxRecDepth 100000 in
theorem c_Td_hasRoom (l : Launch) (g : GC) (σ : St) (r : Int32) (h : Td_hasRoom (σ.1 1800) (σ.2.2.1 29) (σ.2.2.1 30) = some r) : Cn l g yX6_hasRoom (Cond.code yX6_hasRoom cX6_hasRoom 2 (some .boolean) :: wG) 1 21 [.ref (g.2.1 28)] σ (some (.int r)) σ := by
  unfold Cn
  refine Met.ofW (cc := cX6_hasRoom) (maxL := 2) (ret := (some .boolean)) (by decide) rfl ?_
  intro p e s m args below meth c s₁ B hml hv
  obtain ⟨hargs, hP0, hK⟩ := hv
  have hx := B.exec
  have hb := B.bytes
  have hr := B.returns
  have hts : ∀ w ∈ wG, w.before args s = true := fun w h => atoms_spec (ws := (Cond.code yX6_hasRoom cX6_hasRoom 2 (some .boolean) :: wG)) B.pre w (List.mem_cons_of_mem _ h)
  have hown : s.vm.findClass RX6 = some m.cls := findClass_of_methodNamed B.named
  have hlocks := B.notSynchronized
  have hS9 : CallFix p m c cX6_hasRoom 2 s args wG RX6 := ⟨hx, hb, hml, hown, hts⟩
  have hw0 := hts _ mw_1_171
  have hf9 : entryFrame m args 2 = _ := (congrArg (fun a => entryFrame m a 2) hargs).trans (lg_entry_eq m [.ref (g.2.1 28)] 2)
  show Wg p l e 1 21 s m args below meth c g (some (.int r)) σ s.heap [] (entryFrame m args 2)
  rw [hf9]
  have hl := lv_entry ([.ref (g.2.1 28)]) (n := 2) (Nat.le_of_ble_eq_true rfl)
  generalize (lg_sl ([.ref (g.2.1 28)]) ++ List.replicate (2 - (lg_sl ([.ref (g.2.1 28)])).length) Slot.unset).toArray = ls at hl ⊢
  have hl : lv_has ls 2 [(0, .ref (g.2.1 28))] := hl
  have hG : GW g s σ s.heap [] := ⟨hP0, va_S.rf⟩
  unfold Td_hasRoom at h
  have n18 : ∀  (H : Heap) (locs : List Loc) (ls : Array Slot), lv_has ls 2 [] → GW g s σ H locs → Td_hasRoom_n18 = some r → Wg p l e 1 21 s m args below meth c g (some (.int r)) σ H locs (F0 m 18 ls []) := by
    intro H locs ls hl hG h
    unfold Td_hasRoom_n18 at h
    refine lv_iconst (v := (0 : Int32)) hx hb dX6_hasRoom_18 (by decide) ?_
    cases h
    exact gx_zret hx hb hr hlocks (by decide) hG dX6_hasRoom_19
  have n39 : ∀ (t0 : Int32) (H : Heap) (locs : List Loc) (ls : Array Slot), lv_has ls 2 [] → GW g s σ H locs → Td_hasRoom_n39 t0 = some r → Wg p l e 1 21 s m args below meth c g (some (.int r)) σ H locs (F0 m 39 ls [.int t0]) := by
    intro t0 H locs ls hl hG h
    unfold Td_hasRoom_n39 at h
    obtain ⟨hg1, h⟩ := gd_some h
    cases h
    exact gx_zret hx hb hr hlocks hg1 hG dX6_hasRoom_39
  have n26 : ∀  (H : Heap) (locs : List Loc) (ls : Array Slot), lv_has ls 2 [(0, .ref (g.2.1 28))] → GW g s σ H locs → Td_hasRoom_n26 (σ.2.2.1 29) (σ.2.2.1 30) = some r → Wg p l e 1 21 s m args below meth c g (some (.int r)) σ H locs (F0 m 26 ls []) := by
    intro H locs ls hl hG h
    unfold Td_hasRoom_n26 at h
    refine lv_aload_n hx hb dX6_hasRoom_26 rfl (lv_at hl 0 rfl) ?_
    refine lv_iconst (v := (0 : Int32)) hx hb dX6_hasRoom_27 (by decide) ?_
    obtain ⟨z2, hc3, h⟩ := bnd_some h
    refine gx_cV (σ' := σ) (r := (some (.int z2))) (rest := []) (As := [.int (0 : Int32)]) hS9 (c_Td_level l g σ (0 : Int32) z2 hc3) rfl (cwV 1 hts (gz_V mw_3_156 mw_3_157 mw_3_158 mw_1_7 mw_3_159) rfl rfl rfl hdV_X6_level ⟨Nat.le_of_ble_eq_true rfl, Nat.le_of_ble_eq_true rfl⟩) hK hG (ga_28 g _) rfl rfl rfl hl.1 rfl (Nat.le_of_ble_eq_true rfl) dX6_hasRoom_28 (fun H locs hG => ?_)
    refine W.eq (g2 := F0 m 31 ls [.int z2]) rfl ?_
    refine lv_if_ne (tgt := 38) hx hb dX6_hasRoom_31 (by decide) (fun c4 => ?_) (fun c4 => ?_)
    · have h := ite_f c4 h
      refine lv_iconst (v := (0 : Int32)) hx hb dX6_hasRoom_38 (by decide) ?_
      exact n39 (0 : Int32) _ _ _ (lv_sub hl [] rfl) hG h
    · have h := ite_t c4 h
      refine lv_iconst (v := (1 : Int32)) hx hb dX6_hasRoom_34 (by decide) ?_
      refine lv_goto (tgt := 39) hx hb dX6_hasRoom_35 (by decide) ?_
      exact n39 (1 : Int32) _ _ _ (lv_sub hl [] rfl) hG h
  have n2 : ∀ (k2 : Int32 → Option (Int32)) (hk2 : ∀ (x1 : Int32) (H : Heap) (locs : List Loc) (ls : Array Slot), lv_has ls 2 [(0, .ref (g.2.1 28)), (1, .int x1)] → GW g s σ H locs → k2 x1 = some r → Wg p l e 1 21 s m args below meth c g (some (.int r)) σ H locs (F0 m 2 ls [])) (x1 : Int32) (H : Heap) (locs : List Loc) (ls : Array Slot), lv_has ls 2 [(0, .ref (g.2.1 28)), (1, .int x1)] → GW g s σ H locs → Td_hasRoom_n2 k2 (σ.1 1800) (σ.2.2.1 29) (σ.2.2.1 30) x1 = some r → Wg p l e 1 21 s m args below meth c g (some (.int r)) σ H locs (F0 m 2 ls []) := by
    intro k2 hk2 x1 H locs ls hl hG h
    unfold Td_hasRoom_n2 at h
    refine lv_iload_n hx hb dX6_hasRoom_2 rfl (lv_at hl 1 rfl) ?_
    refine lv_aload_n hx hb dX6_hasRoom_3 rfl (lv_at hl 0 rfl) ?_
    refine gx_get (v := .int (σ.1 1800)) (C := RX6) (T := TX6) (N := 13) hx hb hts mc_X6 hown hK hG (ga_28 g _) rfl 8 (by decide) hw0 rfl rfl dX6_hasRoom_4 ?_
    refine lv_icmp_gt (tgt := 26) hx hb dX6_hasRoom_7 (by decide) (fun c5 => ?_) (fun c5 => ?_)
    · have h := ite_t c5 h
      exact n26 _ _ _ (lv_sub hl [0] rfl) hG h
    · have h := ite_f c5 h
      refine lv_aload_n hx hb dX6_hasRoom_10 rfl (lv_at hl 0 rfl) ?_
      refine lv_iload_n hx hb dX6_hasRoom_11 rfl (lv_at hl 1 rfl) ?_
      obtain ⟨z6, hc7, h⟩ := bnd_some h
      refine gx_cV (σ' := σ) (r := (some (.int z6))) (rest := []) (As := [.int x1]) hS9 (c_Td_level l g σ x1 z6 hc7) rfl (cwV 1 hts (gz_V mw_3_156 mw_3_157 mw_3_158 mw_1_7 mw_3_159) rfl rfl rfl hdV_X6_level ⟨Nat.le_of_ble_eq_true rfl, Nat.le_of_ble_eq_true rfl⟩) hK hG (ga_28 g _) rfl rfl rfl hl.1 rfl (Nat.le_of_ble_eq_true rfl) dX6_hasRoom_12 (fun H locs hG => ?_)
      refine W.eq (g2 := F0 m 15 ls [.int z6]) rfl ?_
      refine lv_if_ge (tgt := 20) hx hb dX6_hasRoom_15 (by decide) (fun c8 => ?_) (fun c8 => ?_)
      · have h := ite_t c8 h
        refine lv_iinc (v := (x1 + (1 : Int32))) (lv' := [(1, .int (x1 + (1 : Int32))), (0, .ref (g.2.1 28))]) hx hb dX6_hasRoom_20 hl (k := 1) rfl (congrArg (fun z => x1 + z) (by decide)) (Nat.le_of_ble_eq_true rfl) rfl (fun ls hl => ?_)
        refine lv_goto (tgt := 2) hx hb dX6_hasRoom_23 (by decide) ?_
        exact hk2 (x1 + (1 : Int32)) _ _ _ (lv_sub hl [1, 0] rfl) hG h
      · have h := ite_f c8 h
        exact n18 _ _ _ (lv_sub hl [] rfl) hG h
  have l2 : ∀  (F : Nat) (x1 : Int32) (H : Heap) (locs : List Loc) (ls : Array Slot), lv_has ls 2 [(0, .ref (g.2.1 28)), (1, .int x1)] → GW g s σ H locs → Td_hasRoom_l2 (σ.1 1800) (σ.2.2.1 29) (σ.2.2.1 30) F x1 = some r → Wg p l e 1 21 s m args below meth c g (some (.int r)) σ H locs (F0 m 2 ls []) := by
    intro F
    induction F with
    | zero => intro x1 H locs ls hl hG h; exact no_some h
    | succ F ih => intro x1 H locs ls hl hG h; exact n2 (fun x1 => Td_hasRoom_l2 (σ.1 1800) (σ.2.2.1 29) (σ.2.2.1 30) F x1) ih x1 H locs ls hl hG h
  refine lv_iconst (v := (0 : Int32)) hx hb dX6_hasRoom_0 (by decide) ?_
  refine lv_istore_n (lv' := [(1, .int (0 : Int32)), (0, .ref (g.2.1 28))]) hx hb dX6_hasRoom_1 rfl hl (Nat.le_of_ble_eq_true rfl) rfl (fun ls hl => ?_)
  exact l2 FUEL (0 : Int32) _ _ _ (lv_sub hl [1, 0] rfl) hG h

set_option maxHeartbeats 4000000 in
set_option maxRecDepth 100000 in
theorem c_Td_isInOrder (l : Launch) (g : GC) (σ : St) (r : Int32) (h : Td_isInOrder (σ.1 1800) (σ.2.2.1 29) (σ.2.2.1 30) = some r) : Cn l g yX6_isInOrder (Cond.code yX6_isInOrder cX6_isInOrder 2 (some .boolean) :: wG) 0 0 [.ref (g.2.1 28)] σ (some (.int r)) σ := by
  unfold Cn
  refine Met.ofW (cc := cX6_isInOrder) (maxL := 2) (ret := (some .boolean)) (by decide) rfl ?_
  intro p e s m args below meth c s₁ B hml hv
  obtain ⟨hargs, hP0, hK⟩ := hv
  have hx := B.exec
  have hb := B.bytes
  have hr := B.returns
  have hts : ∀ w ∈ wG, w.before args s = true := fun w h => atoms_spec (ws := (Cond.code yX6_isInOrder cX6_isInOrder 2 (some .boolean) :: wG)) B.pre w (List.mem_cons_of_mem _ h)
  have hown : s.vm.findClass RX6 = some m.cls := findClass_of_methodNamed B.named
  have hlocks := B.notSynchronized
  have hw0 := hts _ mw_1_171
  have hw1 := hts _ mw_1_159
  have hw2 := hts _ mw_1_157
  have hf9 : entryFrame m args 2 = _ := (congrArg (fun a => entryFrame m a 2) hargs).trans (lg_entry_eq m [.ref (g.2.1 28)] 2)
  show Wg p l e 0 0 s m args below meth c g (some (.int r)) σ s.heap [] (entryFrame m args 2)
  rw [hf9]
  have hl := lv_entry ([.ref (g.2.1 28)]) (n := 2) (Nat.le_of_ble_eq_true rfl)
  generalize (lg_sl ([.ref (g.2.1 28)]) ++ List.replicate (2 - (lg_sl ([.ref (g.2.1 28)])).length) Slot.unset).toArray = ls at hl ⊢
  have hl : lv_has ls 2 [(0, .ref (g.2.1 28))] := hl
  have hG : GW g s σ s.heap [] := ⟨hP0, va_S.rf⟩
  unfold Td_isInOrder at h
  have n54 : ∀  (H : Heap) (locs : List Loc) (ls : Array Slot), lv_has ls 2 [] → GW g s σ H locs → Td_isInOrder_n54 = some r → Wg p l e 0 0 s m args below meth c g (some (.int r)) σ H locs (F0 m 54 ls []) := by
    intro H locs ls hl hG h
    unfold Td_isInOrder_n54 at h
    refine lv_iconst (v := (0 : Int32)) hx hb dX6_isInOrder_54 (by decide) ?_
    cases h
    exact gx_zret hx hb hr hlocks (by decide) hG dX6_isInOrder_55
  have n56 : ∀ (k2 : Int32 → Option (Int32)) (hk2 : ∀ (x1 : Int32) (H : Heap) (locs : List Loc) (ls : Array Slot), lv_has ls 2 [(0, .ref (g.2.1 28)), (1, .int x1)] → GW g s σ H locs → k2 x1 = some r → Wg p l e 0 0 s m args below meth c g (some (.int r)) σ H locs (F0 m 2 ls [])) (x1 : Int32) (H : Heap) (locs : List Loc) (ls : Array Slot), lv_has ls 2 [(0, .ref (g.2.1 28)), (1, .int x1)] → GW g s σ H locs → Td_isInOrder_n56 k2 x1 = some r → Wg p l e 0 0 s m args below meth c g (some (.int r)) σ H locs (F0 m 56 ls []) := by
    intro k2 hk2 x1 H locs ls hl hG h
    unfold Td_isInOrder_n56 at h
    refine lv_iinc (v := (x1 + (1 : Int32))) (lv' := [(1, .int (x1 + (1 : Int32))), (0, .ref (g.2.1 28))]) hx hb dX6_isInOrder_56 hl (k := 1) rfl (congrArg (fun z => x1 + z) (by decide)) (Nat.le_of_ble_eq_true rfl) rfl (fun ls hl => ?_)
    refine lv_goto (tgt := 2) hx hb dX6_isInOrder_59 (by decide) ?_
    exact hk2 (x1 + (1 : Int32)) _ _ _ (lv_sub hl [1, 0] rfl) hG h
  have n62 : ∀  (H : Heap) (locs : List Loc) (ls : Array Slot), lv_has ls 2 [] → GW g s σ H locs → Td_isInOrder_n62 = some r → Wg p l e 0 0 s m args below meth c g (some (.int r)) σ H locs (F0 m 62 ls []) := by
    intro H locs ls hl hG h
    unfold Td_isInOrder_n62 at h
    refine lv_iconst (v := (1 : Int32)) hx hb dX6_isInOrder_62 (by decide) ?_
    cases h
    exact gx_zret hx hb hr hlocks (by decide) hG dX6_isInOrder_63
  have n2 : ∀ (k2 : Int32 → Option (Int32)) (hk2 : ∀ (x1 : Int32) (H : Heap) (locs : List Loc) (ls : Array Slot), lv_has ls 2 [(0, .ref (g.2.1 28)), (1, .int x1)] → GW g s σ H locs → k2 x1 = some r → Wg p l e 0 0 s m args below meth c g (some (.int r)) σ H locs (F0 m 2 ls [])) (x1 : Int32) (H : Heap) (locs : List Loc) (ls : Array Slot), lv_has ls 2 [(0, .ref (g.2.1 28)), (1, .int x1)] → GW g s σ H locs → Td_isInOrder_n2 k2 (σ.1 1800) (σ.2.2.1 29) (σ.2.2.1 30) x1 = some r → Wg p l e 0 0 s m args below meth c g (some (.int r)) σ H locs (F0 m 2 ls []) := by
    intro k2 hk2 x1 H locs ls hl hG h
    unfold Td_isInOrder_n2 at h
    refine lv_iload_n hx hb dX6_isInOrder_2 rfl (lv_at hl 1 rfl) ?_
    refine lv_aload_n hx hb dX6_isInOrder_3 rfl (lv_at hl 0 rfl) ?_
    refine gx_get (v := .int (σ.1 1800)) (C := RX6) (T := TX6) (N := 13) hx hb hts mc_X6 hown hK hG (ga_28 g _) rfl 8 (by decide) hw0 rfl rfl dX6_isInOrder_4 ?_
    refine lv_icmp_ge (tgt := 62) hx hb dX6_isInOrder_7 (by decide) (fun c1 => ?_) (fun c1 => ?_)
    · have h := ite_t c1 h
      exact n62 _ _ _ (lv_sub hl [] rfl) hG h
    · have h := ite_f c1 h
      refine lv_aload_n hx hb dX6_isInOrder_10 rfl (lv_at hl 0 rfl) ?_
      refine gx_get (v := .ref (g.2.1 30)) (C := RX6) (T := TX6) (N := 13) hx hb hts mc_X6 hown hK hG (ga_28 g _) rfl 1 (by decide) hw1 rfl rfl dX6_isInOrder_11 ?_
      refine lv_iload_n hx hb dX6_isInOrder_14 rfl (lv_at hl 1 rfl) ?_
      obtain ⟨hg2, h⟩ := gd_some h
      refine gx_iald (f := (σ.2.2.1 30)) hx hb hK hG (ga_30 g _) hg2 dX6_isInOrder_15 ?_
      refine lv_aload_n hx hb dX6_isInOrder_16 rfl (lv_at hl 0 rfl) ?_
      refine gx_get (v := .ref (g.2.1 30)) (C := RX6) (T := TX6) (N := 13) hx hb hts mc_X6 hown hK hG (ga_28 g _) rfl 1 (by decide) hw1 rfl rfl dX6_isInOrder_17 ?_
      refine lv_iload_n hx hb dX6_isInOrder_20 rfl (lv_at hl 1 rfl) ?_
      refine lv_iconst (v := (1 : Int32)) hx hb dX6_isInOrder_21 (by decide) ?_
      refine lv_iadd hx hb dX6_isInOrder_22 ?_
      obtain ⟨hg3, h⟩ := gd_some h
      refine gx_iald (f := (σ.2.2.1 30)) hx hb hK hG (ga_30 g _) hg3 dX6_isInOrder_23 ?_
      refine lv_icmp_gt (tgt := 54) hx hb dX6_isInOrder_24 (by decide) (fun c4 => ?_) (fun c4 => ?_)
      · have h := ite_t c4 h
        exact n54 _ _ _ (lv_sub hl [] rfl) hG h
      · have h := ite_f c4 h
        refine lv_iload_n hx hb dX6_isInOrder_27 rfl (lv_at hl 1 rfl) ?_
        refine lv_iconst (v := (1 : Int32)) hx hb dX6_isInOrder_28 (by decide) ?_
        refine lv_iadd hx hb dX6_isInOrder_29 ?_
        refine lv_aload_n hx hb dX6_isInOrder_30 rfl (lv_at hl 0 rfl) ?_
        refine gx_get (v := .int (σ.1 1800)) (C := RX6) (T := TX6) (N := 13) hx hb hts mc_X6 hown hK hG (ga_28 g _) rfl 8 (by decide) hw0 rfl rfl dX6_isInOrder_31 ?_
        refine lv_icmp_ge (tgt := 56) hx hb dX6_isInOrder_34 (by decide) (fun c5 => ?_) (fun c5 => ?_)
        · have h := ite_t c5 h
          exact n56 k2 hk2 x1 _ _ _ (lv_sub hl [0, 1] rfl) hG h
        · have h := ite_f c5 h
          refine lv_aload_n hx hb dX6_isInOrder_37 rfl (lv_at hl 0 rfl) ?_
          refine gx_get (v := .ref (g.2.1 29)) (C := RX6) (T := TX6) (N := 13) hx hb hts mc_X6 hown hK hG (ga_28 g _) rfl 0 (by decide) hw2 rfl rfl dX6_isInOrder_38 ?_
          refine lv_iload_n hx hb dX6_isInOrder_41 rfl (lv_at hl 1 rfl) ?_
          refine gx_iald (f := (σ.2.2.1 29)) hx hb hK hG (ga_29 g _) hg2 dX6_isInOrder_42 ?_
          refine lv_aload_n hx hb dX6_isInOrder_43 rfl (lv_at hl 0 rfl) ?_
          refine gx_get (v := .ref (g.2.1 29)) (C := RX6) (T := TX6) (N := 13) hx hb hts mc_X6 hown hK hG (ga_28 g _) rfl 0 (by decide) hw2 rfl rfl dX6_isInOrder_44 ?_
          refine lv_iload_n hx hb dX6_isInOrder_47 rfl (lv_at hl 1 rfl) ?_
          refine lv_iconst (v := (1 : Int32)) hx hb dX6_isInOrder_48 (by decide) ?_
          refine lv_iadd hx hb dX6_isInOrder_49 ?_
          refine gx_iald (f := (σ.2.2.1 29)) hx hb hK hG (ga_29 g _) hg3 dX6_isInOrder_50 ?_
          refine lv_icmp_ge (tgt := 56) hx hb dX6_isInOrder_51 (by decide) (fun c6 => ?_) (fun c6 => ?_)
          · have h := ite_t c6 h
            exact n56 k2 hk2 x1 _ _ _ (lv_sub hl [0, 1] rfl) hG h
          · have h := ite_f c6 h
            exact n54 _ _ _ (lv_sub hl [] rfl) hG h
  have l2 : ∀  (F : Nat) (x1 : Int32) (H : Heap) (locs : List Loc) (ls : Array Slot), lv_has ls 2 [(0, .ref (g.2.1 28)), (1, .int x1)] → GW g s σ H locs → Td_isInOrder_l2 (σ.1 1800) (σ.2.2.1 29) (σ.2.2.1 30) F x1 = some r → Wg p l e 0 0 s m args below meth c g (some (.int r)) σ H locs (F0 m 2 ls []) := by
    intro F
    induction F with
    | zero => intro x1 H locs ls hl hG h; exact no_some h
    | succ F ih => intro x1 H locs ls hl hG h; exact n2 (fun x1 => Td_isInOrder_l2 (σ.1 1800) (σ.2.2.1 29) (σ.2.2.1 30) F x1) ih x1 H locs ls hl hG h
  refine lv_iconst (v := (0 : Int32)) hx hb dX6_isInOrder_0 (by decide) ?_
  refine lv_istore_n (lv' := [(1, .int (0 : Int32)), (0, .ref (g.2.1 28))]) hx hb dX6_isInOrder_1 rfl hl (Nat.le_of_ble_eq_true rfl) rfl (fun ls hl => ?_)
  exact l2 FUEL (0 : Int32) _ _ _ (lv_sub hl [1, 0] rfl) hG h

set_option maxHeartbeats 4000000 in
set_option maxRecDepth 100000 in
theorem c_Td_countLayers (l : Launch) (g : GC) (σ : St) (r : Int32) (w_total : Int64) (w_k : Nat → Int64) (h : Td_countLayers (σ.1 1800) (σ.2.1 1803) (σ.2.2.1 29) (σ.2.2.1 30) (σ.2.2.2 31) = some (r, w_total, w_k)) : Cn l g yX6_countLayers (Cond.code yX6_countLayers cX6_countLayers 4 (some .boolean) :: wG) 0 0 [.ref (g.2.1 28)] σ (some (.int r)) (mkS σ [] [(1803, w_total)] [] [(31, w_k)]) := by
  unfold Cn
  refine Met.ofW (cc := cX6_countLayers) (maxL := 4) (ret := (some .boolean)) (by decide) rfl ?_
  intro p e s m args below meth c s₁ B hml hv
  obtain ⟨hargs, hP0, hK⟩ := hv
  have hx := B.exec
  have hb := B.bytes
  have hr := B.returns
  have hts : ∀ w ∈ wG, w.before args s = true := fun w h => atoms_spec (ws := (Cond.code yX6_countLayers cX6_countLayers 4 (some .boolean) :: wG)) B.pre w (List.mem_cons_of_mem _ h)
  have hown : s.vm.findClass RX6 = some m.cls := findClass_of_methodNamed B.named
  have hlocks := B.notSynchronized
  have hw0 := hts _ mw_1_176
  have hw1 := hts _ mw_3_168
  have hw2 := hts _ mw_1_171
  have hw3 := hts _ mw_1_161
  have hw4 := hts _ mw_1_157
  have hw5 := hts _ mw_1_159
  have hf9 : entryFrame m args 4 = _ := (congrArg (fun a => entryFrame m a 4) hargs).trans (lg_entry_eq m [.ref (g.2.1 28)] 4)
  show Wg p l e 0 0 s m args below meth c g (some (.int r)) (mkS σ [] [(1803, w_total)] [] [(31, w_k)]) s.heap [] (entryFrame m args 4)
  rw [hf9]
  have hl := lv_entry ([.ref (g.2.1 28)]) (n := 4) (Nat.le_of_ble_eq_true rfl)
  generalize (lg_sl ([.ref (g.2.1 28)]) ++ List.replicate (4 - (lg_sl ([.ref (g.2.1 28)])).length) Slot.unset).toArray = ls at hl ⊢
  have hl : lv_has ls 4 [(0, .ref (g.2.1 28))] := hl
  have hG : GW g s σ s.heap [] := ⟨hP0, va_S.rf⟩
  have hG : GW g s (mkS σ [] [(1803, (σ.2.1 1803))] [] [(31, (σ.2.2.2 31))]) s.heap [] := GW_self [] [1803] [] [31] hG
  unfold Td_countLayers at h
  have n64 : ∀ (v_total : Int64) (v_k : Nat → Int64) (H : Heap) (locs : List Loc) (ls : Array Slot), lv_has ls 4 [] → GW g s (mkS σ [] [(1803, v_total)] [] [(31, v_k)]) H locs → Td_countLayers_n64 v_total v_k = some (r, w_total, w_k) → Wg p l e 0 0 s m args below meth c g (some (.int r)) (mkS σ [] [(1803, w_total)] [] [(31, w_k)]) H locs (F0 m 64 ls []) := by
    intro v_total v_k H locs ls hl hG h
    unfold Td_countLayers_n64 at h
    refine lv_iconst (v := (0 : Int32)) hx hb dX6_countLayers_64 (by decide) ?_
    cases h
    exact gx_zret hx hb hr hlocks (by decide) hG dX6_countLayers_65
  have n118 : ∀ (t0 : Int32) (v_total : Int64) (v_k : Nat → Int64) (H : Heap) (locs : List Loc) (ls : Array Slot), lv_has ls 4 [] → GW g s (mkS σ [] [(1803, v_total)] [] [(31, v_k)]) H locs → Td_countLayers_n118 t0 v_total v_k = some (r, w_total, w_k) → Wg p l e 0 0 s m args below meth c g (some (.int r)) (mkS σ [] [(1803, w_total)] [] [(31, w_k)]) H locs (F0 m 118 ls [.int t0]) := by
    intro t0 v_total v_k H locs ls hl hG h
    unfold Td_countLayers_n118 at h
    obtain ⟨hg1, h⟩ := gd_some h
    cases h
    exact gx_zret hx hb hr hlocks hg1 hG dX6_countLayers_118
  have n102 : ∀ (v_total : Int64) (v_k : Nat → Int64) (H : Heap) (locs : List Loc) (ls : Array Slot), lv_has ls 4 [(0, .ref (g.2.1 28))] → GW g s (mkS σ [] [(1803, v_total)] [] [(31, v_k)]) H locs → Td_countLayers_n102 v_total v_k = some (r, w_total, w_k) → Wg p l e 0 0 s m args below meth c g (some (.int r)) (mkS σ [] [(1803, w_total)] [] [(31, w_k)]) H locs (F0 m 102 ls []) := by
    intro v_total v_k H locs ls hl hG h
    unfold Td_countLayers_n102 at h
    refine lv_aload_n hx hb dX6_countLayers_102 rfl (lv_at hl 0 rfl) ?_
    refine gx_get (v := .long v_total) (C := RX6) (T := TX6) (N := 13) hx hb hts mc_X6 hown hK hG (ga_28 g _) rfl 11 (by decide) hw0 rfl rfl dX6_countLayers_103 ?_
    refine lv_ldc2 hx hb hown hw1 dX6_countLayers_106 ?_
    refine W.lcmp hx hb dX6_countLayers_109 ?_
    refine lv_if_gt (tgt := 117) hx hb dX6_countLayers_110 (by decide) (fun c2 => ?_) (fun c2 => ?_)
    · have h := ite_t c2 h
      refine lv_iconst (v := (0 : Int32)) hx hb dX6_countLayers_117 (by decide) ?_
      exact n118 (0 : Int32) v_total v_k _ _ _ (lv_sub hl [] rfl) hG h
    · have h := ite_f c2 h
      refine lv_iconst (v := (1 : Int32)) hx hb dX6_countLayers_113 (by decide) ?_
      refine lv_goto (tgt := 118) hx hb dX6_countLayers_114 (by decide) ?_
      exact n118 (1 : Int32) v_total v_k _ _ _ (lv_sub hl [] rfl) hG h
  have n14 : ∀ (k14 : Int32 → Int64 → (Nat → Int64) → Option (Int32 × Int64 × (Nat → Int64))) (hk14 : ∀ (x1 : Int32) (v_total : Int64) (v_k : Nat → Int64) (H : Heap) (locs : List Loc) (ls : Array Slot), lv_has ls 4 [(0, .ref (g.2.1 28)), (1, .int x1)] → GW g s (mkS σ [] [(1803, v_total)] [] [(31, v_k)]) H locs → k14 x1 v_total v_k = some (r, w_total, w_k) → Wg p l e 0 0 s m args below meth c g (some (.int r)) (mkS σ [] [(1803, w_total)] [] [(31, w_k)]) H locs (F0 m 14 ls [])) (x1 : Int32) (v_total : Int64) (v_k : Nat → Int64) (H : Heap) (locs : List Loc) (ls : Array Slot), lv_has ls 4 [(0, .ref (g.2.1 28)), (1, .int x1)] → GW g s (mkS σ [] [(1803, v_total)] [] [(31, v_k)]) H locs → Td_countLayers_n14 k14 (σ.1 1800) (σ.2.2.1 29) (σ.2.2.1 30) x1 v_total v_k = some (r, w_total, w_k) → Wg p l e 0 0 s m args below meth c g (some (.int r)) (mkS σ [] [(1803, w_total)] [] [(31, w_k)]) H locs (F0 m 14 ls []) := by
    intro k14 hk14 x1 v_total v_k H locs ls hl hG h
    unfold Td_countLayers_n14 at h
    refine lv_iload_n hx hb dX6_countLayers_14 rfl (lv_at hl 1 rfl) ?_
    refine lv_aload_n hx hb dX6_countLayers_15 rfl (lv_at hl 0 rfl) ?_
    refine gx_get (v := .int (σ.1 1800)) (C := RX6) (T := TX6) (N := 13) hx hb hts mc_X6 hown hK hG (ga_28 g _) rfl 8 (by decide) hw2 rfl rfl dX6_countLayers_16 ?_
    refine lv_icmp_gt (tgt := 102) hx hb dX6_countLayers_19 (by decide) (fun c3 => ?_) (fun c3 => ?_)
    · have h := ite_t c3 h
      exact n102 v_total v_k _ _ _ (lv_sub hl [0] rfl) hG h
    · have h := ite_f c3 h
      refine lv_aload_n hx hb dX6_countLayers_22 rfl (lv_at hl 0 rfl) ?_
      refine gx_get (v := .ref (g.2.1 31)) (C := RX6) (T := TX6) (N := 13) hx hb hts mc_X6 hown hK hG (ga_28 g _) rfl 2 (by decide) hw3 rfl rfl dX6_countLayers_23 ?_
      refine lv_iload_n hx hb dX6_countLayers_26 rfl (lv_at hl 1 rfl) ?_
      refine lv_iconst (v := (1 : Int32)) hx hb dX6_countLayers_27 (by decide) ?_
      refine lv_isub hx hb dX6_countLayers_28 ?_
      obtain ⟨hg4, h⟩ := gd_some h
      refine gx_lald (f := v_k) hx hb hK hG (ga_31 g _) hg4 dX6_countLayers_29 ?_
      refine lv_aload_n hx hb dX6_countLayers_30 rfl (lv_at hl 0 rfl) ?_
      refine gx_get (v := .ref (g.2.1 29)) (C := RX6) (T := TX6) (N := 13) hx hb hts mc_X6 hown hK hG (ga_28 g _) rfl 0 (by decide) hw4 rfl rfl dX6_countLayers_31 ?_
      refine lv_iload_n hx hb dX6_countLayers_34 rfl (lv_at hl 1 rfl) ?_
      refine lv_iconst (v := (1 : Int32)) hx hb dX6_countLayers_35 (by decide) ?_
      refine lv_isub hx hb dX6_countLayers_36 ?_
      refine gx_iald (f := (σ.2.2.1 29)) hx hb hK hG (ga_29 g _) hg4 dX6_countLayers_37 ?_
      refine lv_i2l hx hb dX6_countLayers_38 rfl ?_
      refine lv_lmul hx hb dX6_countLayers_39 ?_
      refine lv_topl (fun y5 ey5 => ?_)
      have h := lt_at h ey5
      refine lv_lstore_n (lv' := [(2, .long y5), (0, .ref (g.2.1 28)), (1, .int x1)]) hx hb dX6_countLayers_40 rfl hl (Nat.le_of_ble_eq_true rfl) rfl (fun ls hl => ?_)
      refine lv_aload_n hx hb dX6_countLayers_41 rfl (lv_at hl 1 rfl) ?_
      refine gx_get (v := .ref (g.2.1 30)) (C := RX6) (T := TX6) (N := 13) hx hb hts mc_X6 hown hK hG (ga_28 g _) rfl 1 (by decide) hw5 rfl rfl dX6_countLayers_42 ?_
      refine lv_iload_n hx hb dX6_countLayers_45 rfl (lv_at hl 2 rfl) ?_
      obtain ⟨hg6, h⟩ := gd_some h
      refine gx_iald (f := (σ.2.2.1 30)) hx hb hK hG (ga_30 g _) hg6 dX6_countLayers_46 ?_
      refine lv_if_eq (tgt := 64) hx hb dX6_countLayers_47 (by decide) (fun c7 => ?_) (fun c7 => ?_)
      · have h := ite_t c7 h
        exact n64 v_total v_k _ _ _ (lv_sub hl [] rfl) hG h
      · have h := ite_f c7 h
        refine lv_lload_n hx hb dX6_countLayers_50 rfl (lv_at hl 0 rfl) ?_
        refine lv_aload_n hx hb dX6_countLayers_51 rfl (lv_at hl 1 rfl) ?_
        refine gx_get (v := .ref (g.2.1 30)) (C := RX6) (T := TX6) (N := 13) hx hb hts mc_X6 hown hK hG (ga_28 g _) rfl 1 (by decide) hw5 rfl rfl dX6_countLayers_52 ?_
        refine lv_iload_n hx hb dX6_countLayers_55 rfl (lv_at hl 2 rfl) ?_
        refine gx_iald (f := (σ.2.2.1 30)) hx hb hK hG (ga_30 g _) hg6 dX6_countLayers_56 ?_
        refine lv_i2l hx hb dX6_countLayers_57 rfl ?_
        obtain ⟨hg8, h⟩ := gd_some h
        refine lv_lrem hx hb dX6_countLayers_58 (nzL_ne hg8) ?_
        refine lv_lconst (v := (0 : Int64)) hx hb dX6_countLayers_59 (by decide) ?_
        refine W.lcmp hx hb dX6_countLayers_60 ?_
        refine lv_if_eq (tgt := 66) hx hb dX6_countLayers_61 (by decide) (fun c9 => ?_) (fun c9 => ?_)
        · have h := ite_t c9 h
          refine lv_aload_n hx hb dX6_countLayers_66 rfl (lv_at hl 1 rfl) ?_
          refine gx_get (v := .ref (g.2.1 31)) (C := RX6) (T := TX6) (N := 13) hx hb hts mc_X6 hown hK hG (ga_28 g _) rfl 2 (by decide) hw3 rfl rfl dX6_countLayers_67 ?_
          refine lv_iload_n hx hb dX6_countLayers_70 rfl (lv_at hl 2 rfl) ?_
          refine lv_lload_n hx hb dX6_countLayers_71 rfl (lv_at hl 0 rfl) ?_
          refine lv_aload_n hx hb dX6_countLayers_72 rfl (lv_at hl 1 rfl) ?_
          refine gx_get (v := .ref (g.2.1 30)) (C := RX6) (T := TX6) (N := 13) hx hb hts mc_X6 hown hK hG (ga_28 g _) rfl 1 (by decide) hw5 rfl rfl dX6_countLayers_73 ?_
          refine lv_iload_n hx hb dX6_countLayers_76 rfl (lv_at hl 2 rfl) ?_
          refine gx_iald (f := (σ.2.2.1 30)) hx hb hK hG (ga_30 g _) hg6 dX6_countLayers_77 ?_
          refine lv_i2l hx hb dX6_countLayers_78 rfl ?_
          refine lv_ldiv hx hb dX6_countLayers_79 (nzL_ne hg8) ?_
          refine gx_last (σ' := (mkS σ [] [(1803, v_total)] [] [(31, (vp_updL v_k (x1.toNatClampNeg) (y5 / (((σ.2.2.1 30) (x1.toNatClampNeg)).toInt64))))])) (f := v_k) hx hb hK hG (ga_31 g _) hg6 ((gs_31 g _ _).trans (congrArg (g_cells g) (mk_d 0 rfl rfl))) dX6_countLayers_80 (fun H locs hG => ?_)
          refine lv_aload_n hx hb dX6_countLayers_81 rfl (lv_at hl 1 rfl) ?_
          refine lv_dup hx hb dX6_countLayers_82 rfl ?_
          refine gx_get (v := .long v_total) (C := RX6) (T := TX6) (N := 13) hx hb hts mc_X6 hown hK hG (ga_28 g _) rfl 11 (by decide) hw0 rfl rfl dX6_countLayers_83 ?_
          refine lv_aload_n hx hb dX6_countLayers_86 rfl (lv_at hl 1 rfl) ?_
          refine gx_get (v := .ref (g.2.1 31)) (C := RX6) (T := TX6) (N := 13) hx hb hts mc_X6 hown hK hG (ga_28 g _) rfl 2 (by decide) hw3 rfl rfl dX6_countLayers_87 ?_
          refine lv_iload_n hx hb dX6_countLayers_90 rfl (lv_at hl 2 rfl) ?_
          refine gx_lald (f := (vp_updL v_k (x1.toNatClampNeg) (y5 / (((σ.2.2.1 30) (x1.toNatClampNeg)).toInt64)))) hx hb hK hG (ga_31 g _) hg6 dX6_countLayers_91 ?_
          refine lv_ladd hx hb dX6_countLayers_92 ?_
          refine lv_topl (fun y10 ey10 => ?_)
          have h := lt_at h ey10
          refine gx_put (σ' := (mkS σ [] [(1803, y10)] [] [(31, (vp_updL v_k (x1.toNatClampNeg) (y5 / (((σ.2.2.1 30) (x1.toNatClampNeg)).toInt64))))])) (C := RX6) (T := TX6) (N := 13) hx hb hts mc_X6 tyX6 tyX6_ok nmX6 hown hK hG (ga_28 g _) rfl 11 (by decide) hw0 rfl rfl rfl rfl (Nat.le_of_ble_eq_true rfl) ((gf_1803 g _ _).trans (congrArg (g_cells g) (mk_b 0 rfl rfl))) dX6_countLayers_93 (fun H locs hG => ?_)
          refine lv_iinc (v := (x1 + (1 : Int32))) (lv' := [(1, .int (x1 + (1 : Int32))), (2, .long y5), (0, .ref (g.2.1 28))]) hx hb dX6_countLayers_96 hl (k := 2) rfl (congrArg (fun z => x1 + z) (by decide)) (Nat.le_of_ble_eq_true rfl) rfl (fun ls hl => ?_)
          refine lv_goto (tgt := 14) hx hb dX6_countLayers_99 (by decide) ?_
          exact hk14 (x1 + (1 : Int32)) y10 (vp_updL v_k (x1.toNatClampNeg) (y5 / (((σ.2.2.1 30) (x1.toNatClampNeg)).toInt64))) _ _ _ (lv_sub hl [2, 0] rfl) hG h
        · have h := ite_f c9 h
          exact n64 v_total v_k _ _ _ (lv_sub hl [] rfl) hG h
  have l14 : ∀  (F : Nat) (x1 : Int32) (v_total : Int64) (v_k : Nat → Int64) (H : Heap) (locs : List Loc) (ls : Array Slot), lv_has ls 4 [(0, .ref (g.2.1 28)), (1, .int x1)] → GW g s (mkS σ [] [(1803, v_total)] [] [(31, v_k)]) H locs → Td_countLayers_l14 (σ.1 1800) (σ.2.2.1 29) (σ.2.2.1 30) F x1 v_total v_k = some (r, w_total, w_k) → Wg p l e 0 0 s m args below meth c g (some (.int r)) (mkS σ [] [(1803, w_total)] [] [(31, w_k)]) H locs (F0 m 14 ls []) := by
    intro F
    induction F with
    | zero => intro x1 v_total v_k H locs ls hl hG h; exact no_some h
    | succ F ih => intro x1 v_total v_k H locs ls hl hG h; exact n14 (fun x1 v_total v_k => Td_countLayers_l14 (σ.1 1800) (σ.2.2.1 29) (σ.2.2.1 30) F x1 v_total v_k) ih x1 v_total v_k H locs ls hl hG h
  refine lv_aload_n hx hb dX6_countLayers_0 rfl (lv_at hl 0 rfl) ?_
  refine gx_get (v := .ref (g.2.1 31)) (C := RX6) (T := TX6) (N := 13) hx hb hts mc_X6 hown hK hG (ga_28 g _) rfl 2 (by decide) hw3 rfl rfl dX6_countLayers_1 ?_
  refine lv_iconst (v := (0 : Int32)) hx hb dX6_countLayers_4 (by decide) ?_
  refine lv_lconst (v := (1 : Int64)) hx hb dX6_countLayers_5 (by decide) ?_
  refine gx_last (σ' := (mkS σ [] [(1803, (σ.2.1 1803))] [] [(31, (vp_updL (σ.2.2.2 31) ((0 : Int32).toNatClampNeg) (1 : Int64)))])) (f := (σ.2.2.2 31)) hx hb hK hG (ga_31 g _) (by decide) ((gs_31 g _ _).trans (congrArg (g_cells g) (mk_d 0 rfl rfl))) dX6_countLayers_6 (fun H locs hG => ?_)
  refine lv_aload_n hx hb dX6_countLayers_7 rfl (lv_at hl 0 rfl) ?_
  refine lv_lconst (v := (1 : Int64)) hx hb dX6_countLayers_8 (by decide) ?_
  refine gx_put (σ' := (mkS σ [] [(1803, (1 : Int64))] [] [(31, (vp_updL (σ.2.2.2 31) ((0 : Int32).toNatClampNeg) (1 : Int64)))])) (C := RX6) (T := TX6) (N := 13) hx hb hts mc_X6 tyX6 tyX6_ok nmX6 hown hK hG (ga_28 g _) rfl 11 (by decide) hw0 rfl rfl rfl rfl (Nat.le_of_ble_eq_true rfl) ((gf_1803 g _ _).trans (congrArg (g_cells g) (mk_b 0 rfl rfl))) dX6_countLayers_9 (fun H locs hG => ?_)
  refine lv_iconst (v := (1 : Int32)) hx hb dX6_countLayers_12 (by decide) ?_
  refine lv_istore_n (lv' := [(1, .int (1 : Int32)), (0, .ref (g.2.1 28))]) hx hb dX6_countLayers_13 rfl hl (Nat.le_of_ble_eq_true rfl) rfl (fun ls hl => ?_)
  exact l14 FUEL (1 : Int32) (1 : Int64) (vp_updL (σ.2.2.2 31) ((0 : Int32).toNatClampNeg) (1 : Int64)) _ _ _ (lv_sub hl [1, 0] rfl) hG h

set_option maxHeartbeats 4000000 in
set_option maxRecDepth 100000 in
theorem c_Td_isPaired (l : Launch) (g : GC) (σ : St) (r : Int32) (h : Td_isPaired (σ.1 1800) (σ.2.1 1803) (σ.2.2.1 29) (σ.2.2.1 30) (σ.2.2.2 31) = some r) : Cn l g yX6_isPaired (Cond.code yX6_isPaired cX6_isPaired 2 (some .boolean) :: wG) 1 21 [.ref (g.2.1 28)] σ (some (.int r)) σ := by
  unfold Cn
  refine Met.ofW (cc := cX6_isPaired) (maxL := 2) (ret := (some .boolean)) (by decide) rfl ?_
  intro p e s m args below meth c s₁ B hml hv
  obtain ⟨hargs, hP0, hK⟩ := hv
  have hx := B.exec
  have hb := B.bytes
  have hr := B.returns
  have hts : ∀ w ∈ wG, w.before args s = true := fun w h => atoms_spec (ws := (Cond.code yX6_isPaired cX6_isPaired 2 (some .boolean) :: wG)) B.pre w (List.mem_cons_of_mem _ h)
  have hown : s.vm.findClass RX6 = some m.cls := findClass_of_methodNamed B.named
  have hlocks := B.notSynchronized
  have hS9 : CallFix p m c cX6_isPaired 2 s args wG RX6 := ⟨hx, hb, hml, hown, hts⟩
  have hw0 := hts _ mw_1_157
  have hw1 := hts _ mw_1_176
  have hw2 := hts _ mw_3_173
  have hw3 := hts _ mw_1_171
  have hw4 := hts _ mw_1_161
  have hf9 : entryFrame m args 2 = _ := (congrArg (fun a => entryFrame m a 2) hargs).trans (lg_entry_eq m [.ref (g.2.1 28)] 2)
  show Wg p l e 1 21 s m args below meth c g (some (.int r)) σ s.heap [] (entryFrame m args 2)
  rw [hf9]
  have hl := lv_entry ([.ref (g.2.1 28)]) (n := 2) (Nat.le_of_ble_eq_true rfl)
  generalize (lg_sl ([.ref (g.2.1 28)]) ++ List.replicate (2 - (lg_sl ([.ref (g.2.1 28)])).length) Slot.unset).toArray = ls at hl ⊢
  have hl : lv_has ls 2 [(0, .ref (g.2.1 28))] := hl
  have hG : GW g s σ s.heap [] := ⟨hP0, va_S.rf⟩
  unfold Td_isPaired at h
  have n32 : ∀  (H : Heap) (locs : List Loc) (ls : Array Slot), lv_has ls 2 [] → GW g s σ H locs → Td_isPaired_n32 = some r → Wg p l e 1 21 s m args below meth c g (some (.int r)) σ H locs (F0 m 32 ls []) := by
    intro H locs ls hl hG h
    unfold Td_isPaired_n32 at h
    refine lv_iconst (v := (0 : Int32)) hx hb dX6_isPaired_32 (by decide) ?_
    cases h
    exact gx_zret hx hb hr hlocks (by decide) hG dX6_isPaired_33
  have n66 : ∀ (t0 : Int32) (H : Heap) (locs : List Loc) (ls : Array Slot), lv_has ls 2 [] → GW g s σ H locs → Td_isPaired_n66 t0 = some r → Wg p l e 1 21 s m args below meth c g (some (.int r)) σ H locs (F0 m 66 ls [.int t0]) := by
    intro t0 H locs ls hl hG h
    unfold Td_isPaired_n66 at h
    obtain ⟨hg1, h⟩ := gd_some h
    cases h
    exact gx_zret hx hb hr hlocks hg1 hG dX6_isPaired_66
  have n40 : ∀  (H : Heap) (locs : List Loc) (ls : Array Slot), lv_has ls 2 [(0, .ref (g.2.1 28))] → GW g s σ H locs → Td_isPaired_n40 (σ.2.1 1803) (σ.2.2.1 29) = some r → Wg p l e 1 21 s m args below meth c g (some (.int r)) σ H locs (F0 m 40 ls []) := by
    intro H locs ls hl hG h
    unfold Td_isPaired_n40 at h
    refine lv_aload_n hx hb dX6_isPaired_40 rfl (lv_at hl 0 rfl) ?_
    refine gx_get (v := .ref (g.2.1 29)) (C := RX6) (T := TX6) (N := 13) hx hb hts mc_X6 hown hK hG (ga_28 g _) rfl 0 (by decide) hw0 rfl rfl dX6_isPaired_41 ?_
    refine lv_iconst (v := (0 : Int32)) hx hb dX6_isPaired_44 (by decide) ?_
    refine gx_iald (f := (σ.2.2.1 29)) hx hb hK hG (ga_29 g _) (by decide) dX6_isPaired_45 ?_
    refine lv_i2l hx hb dX6_isPaired_46 rfl ?_
    refine lv_aload_n hx hb dX6_isPaired_47 rfl (lv_at hl 0 rfl) ?_
    refine gx_get (v := .long (σ.2.1 1803)) (C := RX6) (T := TX6) (N := 13) hx hb hts mc_X6 hown hK hG (ga_28 g _) rfl 11 (by decide) hw1 rfl rfl dX6_isPaired_48 ?_
    refine lv_lmul hx hb dX6_isPaired_51 ?_
    refine lv_ldc2 hx hb hown hw2 dX6_isPaired_52 ?_
    refine lv_lrem hx hb dX6_isPaired_55 (by decide) ?_
    refine lv_lconst (v := (0 : Int64)) hx hb dX6_isPaired_56 (by decide) ?_
    refine W.lcmp hx hb dX6_isPaired_57 ?_
    refine lv_if_ne (tgt := 65) hx hb dX6_isPaired_58 (by decide) (fun c2 => ?_) (fun c2 => ?_)
    · have h := ite_f c2 h
      refine lv_iconst (v := (0 : Int32)) hx hb dX6_isPaired_65 (by decide) ?_
      exact n66 (0 : Int32) _ _ _ (lv_sub hl [] rfl) hG h
    · have h := ite_t c2 h
      refine lv_iconst (v := (1 : Int32)) hx hb dX6_isPaired_61 (by decide) ?_
      refine lv_goto (tgt := 66) hx hb dX6_isPaired_62 (by decide) ?_
      exact n66 (1 : Int32) _ _ _ (lv_sub hl [] rfl) hG h
  have n2 : ∀ (k2 : Int32 → Option (Int32)) (hk2 : ∀ (x1 : Int32) (H : Heap) (locs : List Loc) (ls : Array Slot), lv_has ls 2 [(0, .ref (g.2.1 28)), (1, .int x1)] → GW g s σ H locs → k2 x1 = some r → Wg p l e 1 21 s m args below meth c g (some (.int r)) σ H locs (F0 m 2 ls [])) (x1 : Int32) (H : Heap) (locs : List Loc) (ls : Array Slot), lv_has ls 2 [(0, .ref (g.2.1 28)), (1, .int x1)] → GW g s σ H locs → Td_isPaired_n2 k2 (σ.1 1800) (σ.2.1 1803) (σ.2.2.1 29) (σ.2.2.1 30) (σ.2.2.2 31) x1 = some r → Wg p l e 1 21 s m args below meth c g (some (.int r)) σ H locs (F0 m 2 ls []) := by
    intro k2 hk2 x1 H locs ls hl hG h
    unfold Td_isPaired_n2 at h
    refine lv_iload_n hx hb dX6_isPaired_2 rfl (lv_at hl 1 rfl) ?_
    refine lv_aload_n hx hb dX6_isPaired_3 rfl (lv_at hl 0 rfl) ?_
    refine gx_get (v := .int (σ.1 1800)) (C := RX6) (T := TX6) (N := 13) hx hb hts mc_X6 hown hK hG (ga_28 g _) rfl 8 (by decide) hw3 rfl rfl dX6_isPaired_4 ?_
    refine lv_icmp_gt (tgt := 40) hx hb dX6_isPaired_7 (by decide) (fun c3 => ?_) (fun c3 => ?_)
    · have h := ite_t c3 h
      exact n40 _ _ _ (lv_sub hl [0] rfl) hG h
    · have h := ite_f c3 h
      refine lv_aload_n hx hb dX6_isPaired_10 rfl (lv_at hl 0 rfl) ?_
      refine gx_get (v := .ref (g.2.1 31)) (C := RX6) (T := TX6) (N := 13) hx hb hts mc_X6 hown hK hG (ga_28 g _) rfl 2 (by decide) hw4 rfl rfl dX6_isPaired_11 ?_
      refine lv_iload_n hx hb dX6_isPaired_14 rfl (lv_at hl 1 rfl) ?_
      obtain ⟨hg4, h⟩ := gd_some h
      refine gx_lald (f := (σ.2.2.2 31)) hx hb hK hG (ga_31 g _) hg4 dX6_isPaired_15 ?_
      refine lv_aload_n hx hb dX6_isPaired_16 rfl (lv_at hl 0 rfl) ?_
      refine lv_iload_n hx hb dX6_isPaired_17 rfl (lv_at hl 1 rfl) ?_
      obtain ⟨z5, hc6, h⟩ := bnd_some h
      refine gx_cV (σ' := σ) (r := (some (.int z5))) (rest := [.long ((σ.2.2.2 31) (x1.toNatClampNeg))]) (As := [.int x1]) hS9 (c_Td_level l g σ x1 z5 hc6) rfl (cwV 1 hts (gz_V mw_3_156 mw_3_157 mw_3_158 mw_1_7 mw_3_159) rfl rfl rfl hdV_X6_level ⟨Nat.le_of_ble_eq_true rfl, Nat.le_of_ble_eq_true rfl⟩) hK hG (ga_28 g _) rfl rfl rfl hl.1 rfl (Nat.le_of_ble_eq_true rfl) dX6_isPaired_18 (fun H locs hG => ?_)
      refine W.eq (g2 := F0 m 21 ls [.int z5, .long ((σ.2.2.2 31) (x1.toNatClampNeg))]) rfl ?_
      refine lv_i2l hx hb dX6_isPaired_21 rfl ?_
      refine lv_lmul hx hb dX6_isPaired_22 ?_
      refine lv_ldc2 hx hb hown hw2 dX6_isPaired_23 ?_
      refine lv_lrem hx hb dX6_isPaired_26 (by decide) ?_
      refine lv_lconst (v := (0 : Int64)) hx hb dX6_isPaired_27 (by decide) ?_
      refine W.lcmp hx hb dX6_isPaired_28 ?_
      refine lv_if_eq (tgt := 34) hx hb dX6_isPaired_29 (by decide) (fun c7 => ?_) (fun c7 => ?_)
      · have h := ite_t c7 h
        refine lv_iinc (v := (x1 + (1 : Int32))) (lv' := [(1, .int (x1 + (1 : Int32))), (0, .ref (g.2.1 28))]) hx hb dX6_isPaired_34 hl (k := 1) rfl (congrArg (fun z => x1 + z) (by decide)) (Nat.le_of_ble_eq_true rfl) rfl (fun ls hl => ?_)
        refine lv_goto (tgt := 2) hx hb dX6_isPaired_37 (by decide) ?_
        exact hk2 (x1 + (1 : Int32)) _ _ _ (lv_sub hl [1, 0] rfl) hG h
      · have h := ite_f c7 h
        exact n32 _ _ _ (lv_sub hl [] rfl) hG h
  have l2 : ∀  (F : Nat) (x1 : Int32) (H : Heap) (locs : List Loc) (ls : Array Slot), lv_has ls 2 [(0, .ref (g.2.1 28)), (1, .int x1)] → GW g s σ H locs → Td_isPaired_l2 (σ.1 1800) (σ.2.1 1803) (σ.2.2.1 29) (σ.2.2.1 30) (σ.2.2.2 31) F x1 = some r → Wg p l e 1 21 s m args below meth c g (some (.int r)) σ H locs (F0 m 2 ls []) := by
    intro F
    induction F with
    | zero => intro x1 H locs ls hl hG h; exact no_some h
    | succ F ih => intro x1 H locs ls hl hG h; exact n2 (fun x1 => Td_isPaired_l2 (σ.1 1800) (σ.2.1 1803) (σ.2.2.1 29) (σ.2.2.1 30) (σ.2.2.2 31) F x1) ih x1 H locs ls hl hG h
  refine lv_iconst (v := (0 : Int32)) hx hb dX6_isPaired_0 (by decide) ?_
  refine lv_istore_n (lv' := [(1, .int (0 : Int32)), (0, .ref (g.2.1 28))]) hx hb dX6_isPaired_1 rfl hl (Nat.le_of_ble_eq_true rfl) rfl (fun ls hl => ?_)
  exact l2 FUEL (0 : Int32) _ _ _ (lv_sub hl [1, 0] rfl) hG h

set_option maxHeartbeats 4000000 in
set_option maxRecDepth 100000 in
theorem c_Td_place (l : Launch) (g : GC) (σ : St) (x0 : Int32) (x1 : Int32) (x2 : Int32) (r : Int32) (h : Td_place x0 x1 x2 = some r) : Cn l g yX6_place (Cond.code yX6_place cX6_place 3 (some .int) :: wG) 0 0 [.int x0, .int x1, .int x2] σ (some (.int r)) σ := by
  unfold Cn
  refine Met.ofW (cc := cX6_place) (maxL := 3) (ret := (some .int)) (by decide) rfl ?_
  intro p e s m args below meth c s₁ B hml hv
  obtain ⟨hargs, hP0, hK⟩ := hv
  have hx := B.exec
  have hb := B.bytes
  have hr := B.returns
  have hts : ∀ w ∈ wG, w.before args s = true := fun w h => atoms_spec (ws := (Cond.code yX6_place cX6_place 3 (some .int) :: wG)) B.pre w (List.mem_cons_of_mem _ h)
  have hown : s.vm.findClass RX6 = some m.cls := findClass_of_methodNamed B.named
  have hlocks := B.notSynchronized
  have hf9 : entryFrame m args 3 = _ := (congrArg (fun a => entryFrame m a 3) hargs).trans (lg_entry_eq m [.int x0, .int x1, .int x2] 3)
  show Wg p l e 0 0 s m args below meth c g (some (.int r)) σ s.heap [] (entryFrame m args 3)
  rw [hf9]
  have hl := lv_entry ([.int x0, .int x1, .int x2]) (n := 3) (Nat.le_of_ble_eq_true rfl)
  generalize (lg_sl ([.int x0, .int x1, .int x2]) ++ List.replicate (3 - (lg_sl ([.int x0, .int x1, .int x2])).length) Slot.unset).toArray = ls at hl ⊢
  have hl : lv_has ls 3 [(0, .int x0), (1, .int x1), (2, .int x2)] := hl
  have hG : GW g s σ s.heap [] := ⟨hP0, va_S.rf⟩
  unfold Td_place at h
  refine lv_iload_n hx hb dX6_place_0 rfl (lv_at hl 0 rfl) ?_
  refine lv_bipush (v := (6 : Int32)) hx hb dX6_place_1 (by decide) ?_
  refine lv_imul hx hb dX6_place_3 ?_
  refine lv_iload_n hx hb dX6_place_4 rfl (lv_at hl 1 rfl) ?_
  refine lv_iadd hx hb dX6_place_5 ?_
  refine lv_bipush (v := (6 : Int32)) hx hb dX6_place_6 (by decide) ?_
  refine lv_imul hx hb dX6_place_8 ?_
  refine lv_iload_n hx hb dX6_place_9 rfl (lv_at hl 2 rfl) ?_
  refine lv_iadd hx hb dX6_place_10 ?_
  cases h
  exact gx_iret hx hb hr hlocks hG dX6_place_11

set_option maxHeartbeats 4000000 in
set_option maxRecDepth 100000 in
theorem c_Td_firstThird (l : Launch) (g : GC) (σ : St) (x1 : Int32) (x2 : Int32) (r : Int32) (h : Td_firstThird x1 x2 (σ.2.2.1 29) (σ.2.2.1 30) = some r) : Cn l g yX6_firstThird (Cond.code yX6_firstThird cX6_firstThird 3 (some .int) :: wG) 1 21 [.ref (g.2.1 28), .int x1, .int x2] σ (some (.int r)) σ := by
  unfold Cn
  refine Met.ofW (cc := cX6_firstThird) (maxL := 3) (ret := (some .int)) (by decide) rfl ?_
  intro p e s m args below meth c s₁ B hml hv
  obtain ⟨hargs, hP0, hK⟩ := hv
  have hx := B.exec
  have hb := B.bytes
  have hr := B.returns
  have hts : ∀ w ∈ wG, w.before args s = true := fun w h => atoms_spec (ws := (Cond.code yX6_firstThird cX6_firstThird 3 (some .int) :: wG)) B.pre w (List.mem_cons_of_mem _ h)
  have hown : s.vm.findClass RX6 = some m.cls := findClass_of_methodNamed B.named
  have hlocks := B.notSynchronized
  have hS9 : CallFix p m c cX6_firstThird 3 s args wG RX6 := ⟨hx, hb, hml, hown, hts⟩
  have hw0 := hts _ mw_1_157
  have hw1 := hts _ mw_1_159
  have hf9 : entryFrame m args 3 = _ := (congrArg (fun a => entryFrame m a 3) hargs).trans (lg_entry_eq m [.ref (g.2.1 28), .int x1, .int x2] 3)
  show Wg p l e 1 21 s m args below meth c g (some (.int r)) σ s.heap [] (entryFrame m args 3)
  rw [hf9]
  have hl := lv_entry ([.ref (g.2.1 28), .int x1, .int x2]) (n := 3) (Nat.le_of_ble_eq_true rfl)
  generalize (lg_sl ([.ref (g.2.1 28), .int x1, .int x2]) ++ List.replicate (3 - (lg_sl ([.ref (g.2.1 28), .int x1, .int x2])).length) Slot.unset).toArray = ls at hl ⊢
  have hl : lv_has ls 3 [(0, .ref (g.2.1 28)), (1, .int x1), (2, .int x2)] := hl
  have hG : GW g s σ s.heap [] := ⟨hP0, va_S.rf⟩
  unfold Td_firstThird at h
  have n42 : ∀ (t0 : Int32) (H : Heap) (locs : List Loc) (ls : Array Slot), lv_has ls 3 [] → GW g s σ H locs → Td_firstThird_n42 t0 = some r → Wg p l e 1 21 s m args below meth c g (some (.int r)) σ H locs (F0 m 42 ls [.int t0]) := by
    intro t0 H locs ls hl hG h
    unfold Td_firstThird_n42 at h
    cases h
    exact gx_iret hx hb hr hlocks hG dX6_firstThird_42
  refine lv_iload_n hx hb dX6_firstThird_0 rfl (lv_at hl 2 rfl) ?_
  refine lv_iload_n hx hb dX6_firstThird_1 rfl (lv_at hl 1 rfl) ?_
  refine lv_iconst (v := (1 : Int32)) hx hb dX6_firstThird_2 (by decide) ?_
  refine lv_isub hx hb dX6_firstThird_3 ?_
  refine lv_icmp_ne (tgt := 14) hx hb dX6_firstThird_4 (by decide) (fun c1 => ?_) (fun c1 => ?_)
  · have h := ite_f c1 h
    refine lv_iload_n hx hb dX6_firstThird_14 rfl (lv_at hl 2 rfl) ?_
    refine lv_iload_n hx hb dX6_firstThird_15 rfl (lv_at hl 1 rfl) ?_
    refine lv_icmp_ne (tgt := 25) hx hb dX6_firstThird_16 (by decide) (fun c2 => ?_) (fun c2 => ?_)
    · have h := ite_f c2 h
      refine lv_iload_n hx hb dX6_firstThird_25 rfl (lv_at hl 2 rfl) ?_
      refine lv_iload_n hx hb dX6_firstThird_26 rfl (lv_at hl 1 rfl) ?_
      refine lv_iconst (v := (1 : Int32)) hx hb dX6_firstThird_27 (by decide) ?_
      refine lv_iadd hx hb dX6_firstThird_28 ?_
      refine lv_icmp_ne (tgt := 41) hx hb dX6_firstThird_29 (by decide) (fun c3 => ?_) (fun c3 => ?_)
      · have h := ite_f c3 h
        refine lv_iconst (v := (0 : Int32)) hx hb dX6_firstThird_41 (by decide) ?_
        exact n42 (0 : Int32) _ _ _ (lv_sub hl [] rfl) hG h
      · have h := ite_t c3 h
        refine lv_aload_n hx hb dX6_firstThird_32 rfl (lv_at hl 0 rfl) ?_
        refine gx_get (v := .ref (g.2.1 29)) (C := RX6) (T := TX6) (N := 13) hx hb hts mc_X6 hown hK hG (ga_28 g _) rfl 0 (by decide) hw0 rfl rfl dX6_firstThird_33 ?_
        refine lv_iload_n hx hb dX6_firstThird_36 rfl (lv_at hl 1 rfl) ?_
        obtain ⟨hg4, h⟩ := gd_some h
        refine gx_iald (f := (σ.2.2.1 29)) hx hb hK hG (ga_29 g _) hg4 dX6_firstThird_37 ?_
        refine lv_goto (tgt := 42) hx hb dX6_firstThird_38 (by decide) ?_
        exact n42 ((σ.2.2.1 29) (x1.toNatClampNeg)) _ _ _ (lv_sub hl [] rfl) hG h
    · have h := ite_t c2 h
      refine lv_aload_n hx hb dX6_firstThird_19 rfl (lv_at hl 0 rfl) ?_
      refine lv_iload_n hx hb dX6_firstThird_20 rfl (lv_at hl 1 rfl) ?_
      obtain ⟨z5, hc6, h⟩ := bnd_some h
      refine gx_cV (σ' := σ) (r := (some (.int z5))) (rest := []) (As := [.int x1]) hS9 (c_Td_level l g σ x1 z5 hc6) rfl (cwV 1 hts (gz_V mw_3_156 mw_3_157 mw_3_158 mw_1_7 mw_3_159) rfl rfl rfl hdV_X6_level ⟨Nat.le_of_ble_eq_true rfl, Nat.le_of_ble_eq_true rfl⟩) hK hG (ga_28 g _) rfl rfl rfl hl.1 rfl (Nat.le_of_ble_eq_true rfl) dX6_firstThird_21 (fun H locs hG => ?_)
      refine W.eq (g2 := F0 m 24 ls [.int z5]) rfl ?_
      cases h
      exact gx_iret hx hb hr hlocks hG dX6_firstThird_24
  · have h := ite_t c1 h
    refine lv_aload_n hx hb dX6_firstThird_7 rfl (lv_at hl 0 rfl) ?_
    refine gx_get (v := .ref (g.2.1 30)) (C := RX6) (T := TX6) (N := 13) hx hb hts mc_X6 hown hK hG (ga_28 g _) rfl 1 (by decide) hw1 rfl rfl dX6_firstThird_8 ?_
    refine lv_iload_n hx hb dX6_firstThird_11 rfl (lv_at hl 1 rfl) ?_
    obtain ⟨hg7, h⟩ := gd_some h
    refine gx_iald (f := (σ.2.2.1 30)) hx hb hK hG (ga_30 g _) hg7 dX6_firstThird_12 ?_
    cases h
    exact gx_iret hx hb hr hlocks hG dX6_firstThird_13

set_option maxHeartbeats 4000000 in
set_option maxRecDepth 100000 in
theorem c_Td_layFirstThirds (l : Launch) (g : GC) (σ : St) (w_t : Nat → Int64) (h : Td_layFirstThirds (σ.1 1800) (σ.2.2.1 29) (σ.2.2.1 30) (σ.2.2.2 32) = some w_t) : Cn l g yX6_layFirstThirds (Cond.code yX6_layFirstThirds cX6_layFirstThirds 3 none :: wG) 2 43 [.ref (g.2.1 28)] σ none (mkS σ [] [] [] [(32, w_t)]) := by
  unfold Cn
  refine Met.ofW (cc := cX6_layFirstThirds) (maxL := 3) (ret := none) (by decide) rfl ?_
  intro p e s m args below meth c s₁ B hml hv
  obtain ⟨hargs, hP0, hK⟩ := hv
  have hx := B.exec
  have hb := B.bytes
  have hr := B.returns
  have hts : ∀ w ∈ wG, w.before args s = true := fun w h => atoms_spec (ws := (Cond.code yX6_layFirstThirds cX6_layFirstThirds 3 none :: wG)) B.pre w (List.mem_cons_of_mem _ h)
  have hown : s.vm.findClass RX6 = some m.cls := findClass_of_methodNamed B.named
  have hlocks := B.notSynchronized
  have hS9 : CallFix p m c cX6_layFirstThirds 3 s args wG RX6 := ⟨hx, hb, hml, hown, hts⟩
  have hw0 := hts _ mw_1_163
  have hw1 := hts _ mw_1_171
  have hf9 : entryFrame m args 3 = _ := (congrArg (fun a => entryFrame m a 3) hargs).trans (lg_entry_eq m [.ref (g.2.1 28)] 3)
  show Wg p l e 2 43 s m args below meth c g none (mkS σ [] [] [] [(32, w_t)]) s.heap [] (entryFrame m args 3)
  rw [hf9]
  have hl := lv_entry ([.ref (g.2.1 28)]) (n := 3) (Nat.le_of_ble_eq_true rfl)
  generalize (lg_sl ([.ref (g.2.1 28)]) ++ List.replicate (3 - (lg_sl ([.ref (g.2.1 28)])).length) Slot.unset).toArray = ls at hl ⊢
  have hl : lv_has ls 3 [(0, .ref (g.2.1 28))] := hl
  have hG : GW g s σ s.heap [] := ⟨hP0, va_S.rf⟩
  have hG : GW g s (mkS σ [] [] [] [(32, (σ.2.2.2 32))]) s.heap [] := GW_self [] [] [] [32] hG
  unfold Td_layFirstThirds at h
  have n40 : ∀ (k12 : Int32 → Int32 → (Nat → Int64) → Option ((Nat → Int64))) (hk12 : ∀ (x1 : Int32) (x2 : Int32) (v_t : Nat → Int64) (H : Heap) (locs : List Loc) (ls : Array Slot), lv_has ls 3 [(0, .ref (g.2.1 28)), (1, .int x1), (2, .int x2)] → GW g s (mkS σ [] [] [] [(32, v_t)]) H locs → k12 x1 x2 v_t = some w_t → Wg p l e 2 43 s m args below meth c g none (mkS σ [] [] [] [(32, w_t)]) H locs (F0 m 12 ls [])) (x1 : Int32) (x2 : Int32) (t1 : Int32) (t2 : Int64) (v_t : Nat → Int64) (H : Heap) (locs : List Loc) (ls : Array Slot), lv_has ls 3 [(0, .ref (g.2.1 28)), (1, .int x1), (2, .int x2)] → GW g s (mkS σ [] [] [] [(32, v_t)]) H locs → Td_layFirstThirds_n40 k12 (σ.2.2.1 29) (σ.2.2.1 30) x1 x2 t1 t2 v_t = some w_t → Wg p l e 2 43 s m args below meth c g none (mkS σ [] [] [] [(32, w_t)]) H locs (F0 m 40 ls [.long t2, .int t1, .ref (g.2.1 32)]) := by
    intro k12 hk12 x1 x2 t1 t2 v_t H locs ls hl hG h
    unfold Td_layFirstThirds_n40 at h
    obtain ⟨hg1, h⟩ := gd_some h
    refine gx_last (σ' := (mkS σ [] [] [] [(32, (vp_updL v_t (t1.toNatClampNeg) t2))])) (f := v_t) hx hb hK hG (ga_32 g _) hg1 ((gs_32 g _ _).trans (congrArg (g_cells g) (mk_d 0 rfl rfl))) dX6_layFirstThirds_40 (fun H locs hG => ?_)
    refine lv_aload_n hx hb dX6_layFirstThirds_41 rfl (lv_at hl 0 rfl) ?_
    refine gx_get (v := .ref (g.2.1 32)) (C := RX6) (T := TX6) (N := 13) hx hb hts mc_X6 hown hK hG (ga_28 g _) rfl 3 (by decide) hw0 rfl rfl dX6_layFirstThirds_42 ?_
    refine lv_iload_n hx hb dX6_layFirstThirds_45 rfl (lv_at hl 1 rfl) ?_
    refine lv_iconst (v := (1 : Int32)) hx hb dX6_layFirstThirds_46 (by decide) ?_
    refine lv_iload_n hx hb dX6_layFirstThirds_47 rfl (lv_at hl 2 rfl) ?_
    obtain ⟨z2, hc3, h⟩ := bnd_some h
    refine gx_cS (σ' := (mkS σ [] [] [] [(32, (vp_updL v_t (t1.toNatClampNeg) t2))])) (r := (some (.int z2))) (rest := [.ref (g.2.1 32)]) (As := [.int x1, .int (1 : Int32), .int x2]) hS9 (c_Td_place l g (mkS σ [] [] [] [(32, (vp_updL v_t (t1.toNatClampNeg) t2))]) x1 (1 : Int32) x2 z2 hc3) rfl (va_cwS 3 hts (gz_S mw_3_178 mw_3_179 mw_1_7 mw_3_180) rfl rfl rfl hdS_X6_place ⟨Nat.le_of_ble_eq_true rfl, Nat.le_of_ble_eq_true rfl⟩) hK hG rfl hl.1 rfl (Nat.le_of_ble_eq_true rfl) dX6_layFirstThirds_48 (fun H locs hG => ?_)
    refine W.eq (g2 := F0 m 51 ls [.int z2, .ref (g.2.1 32)]) rfl ?_
    refine lv_aload_n hx hb dX6_layFirstThirds_51 rfl (lv_at hl 0 rfl) ?_
    refine lv_iload_n hx hb dX6_layFirstThirds_52 rfl (lv_at hl 1 rfl) ?_
    refine lv_iload_n hx hb dX6_layFirstThirds_53 rfl (lv_at hl 2 rfl) ?_
    obtain ⟨z4, hc5, h⟩ := bnd_some h
    refine gx_cV (σ' := (mkS σ [] [] [] [(32, (vp_updL v_t (t1.toNatClampNeg) t2))])) (r := (some (.int z4))) (rest := [.int z2, .ref (g.2.1 32)]) (As := [.int x1, .int x2]) hS9 (c_Td_firstThird l g (mkS σ [] [] [] [(32, (vp_updL v_t (t1.toNatClampNeg) t2))]) x1 x2 z4 hc5) rfl (cwV 2 hts (gz_V mw_3_181 mw_3_183 ms_2_3 mw_1_7 mw_3_184) rfl rfl rfl hdV_X6_firstThird ⟨Nat.le_of_ble_eq_true rfl, Nat.le_of_ble_eq_true rfl⟩) hK hG (ga_28 g _) rfl rfl rfl hl.1 rfl (Nat.le_of_ble_eq_true rfl) dX6_layFirstThirds_54 (fun H locs hG => ?_)
    refine W.eq (g2 := F0 m 57 ls [.int z4, .int z2, .ref (g.2.1 32)]) rfl ?_
    refine lv_i2l hx hb dX6_layFirstThirds_57 rfl ?_
    obtain ⟨hg6, h⟩ := gd_some h
    refine gx_last (σ' := (mkS σ [] [] [] [(32, (vp_updL (vp_updL v_t (t1.toNatClampNeg) t2) (z2.toNatClampNeg) (z4.toInt64)))])) (f := (vp_updL v_t (t1.toNatClampNeg) t2)) hx hb hK hG (ga_32 g _) hg6 ((gs_32 g _ _).trans (congrArg (g_cells g) (mk_d 0 rfl rfl))) dX6_layFirstThirds_58 (fun H locs hG => ?_)
    refine lv_iinc (v := (x2 + (1 : Int32))) (lv' := [(2, .int (x2 + (1 : Int32))), (0, .ref (g.2.1 28)), (1, .int x1)]) hx hb dX6_layFirstThirds_59 hl (k := 2) rfl (congrArg (fun z => x2 + z) (by decide)) (Nat.le_of_ble_eq_true rfl) rfl (fun ls hl => ?_)
    refine lv_goto (tgt := 12) hx hb dX6_layFirstThirds_62 (by decide) ?_
    exact hk12 x1 (x2 + (1 : Int32)) (vp_updL (vp_updL v_t (t1.toNatClampNeg) t2) (z2.toNatClampNeg) (z4.toInt64)) _ _ _ (lv_sub hl [1, 2, 0] rfl) hG h
  have n65 : ∀ (k2 : Int32 → (Nat → Int64) → Option ((Nat → Int64))) (hk2 : ∀ (x1 : Int32) (v_t : Nat → Int64) (H : Heap) (locs : List Loc) (ls : Array Slot), lv_has ls 3 [(0, .ref (g.2.1 28)), (1, .int x1)] → GW g s (mkS σ [] [] [] [(32, v_t)]) H locs → k2 x1 v_t = some w_t → Wg p l e 2 43 s m args below meth c g none (mkS σ [] [] [] [(32, w_t)]) H locs (F0 m 2 ls [])) (x1 : Int32) (v_t : Nat → Int64) (H : Heap) (locs : List Loc) (ls : Array Slot), lv_has ls 3 [(0, .ref (g.2.1 28)), (1, .int x1)] → GW g s (mkS σ [] [] [] [(32, v_t)]) H locs → Td_layFirstThirds_n65 k2 x1 v_t = some w_t → Wg p l e 2 43 s m args below meth c g none (mkS σ [] [] [] [(32, w_t)]) H locs (F0 m 65 ls []) := by
    intro k2 hk2 x1 v_t H locs ls hl hG h
    unfold Td_layFirstThirds_n65 at h
    refine lv_iinc (v := (x1 + (1 : Int32))) (lv' := [(1, .int (x1 + (1 : Int32))), (0, .ref (g.2.1 28))]) hx hb dX6_layFirstThirds_65 hl (k := 1) rfl (congrArg (fun z => x1 + z) (by decide)) (Nat.le_of_ble_eq_true rfl) rfl (fun ls hl => ?_)
    refine lv_goto (tgt := 2) hx hb dX6_layFirstThirds_68 (by decide) ?_
    exact hk2 (x1 + (1 : Int32)) v_t _ _ _ (lv_sub hl [1, 0] rfl) hG h
  have n12 : ∀ (k2 : Int32 → (Nat → Int64) → Option ((Nat → Int64))) (hk2 : ∀ (x1 : Int32) (v_t : Nat → Int64) (H : Heap) (locs : List Loc) (ls : Array Slot), lv_has ls 3 [(0, .ref (g.2.1 28)), (1, .int x1)] → GW g s (mkS σ [] [] [] [(32, v_t)]) H locs → k2 x1 v_t = some w_t → Wg p l e 2 43 s m args below meth c g none (mkS σ [] [] [] [(32, w_t)]) H locs (F0 m 2 ls [])) (k12 : Int32 → Int32 → (Nat → Int64) → Option ((Nat → Int64))) (hk12 : ∀ (x1 : Int32) (x2 : Int32) (v_t : Nat → Int64) (H : Heap) (locs : List Loc) (ls : Array Slot), lv_has ls 3 [(0, .ref (g.2.1 28)), (1, .int x1), (2, .int x2)] → GW g s (mkS σ [] [] [] [(32, v_t)]) H locs → k12 x1 x2 v_t = some w_t → Wg p l e 2 43 s m args below meth c g none (mkS σ [] [] [] [(32, w_t)]) H locs (F0 m 12 ls [])) (x1 : Int32) (x2 : Int32) (v_t : Nat → Int64) (H : Heap) (locs : List Loc) (ls : Array Slot), lv_has ls 3 [(0, .ref (g.2.1 28)), (1, .int x1), (2, .int x2)] → GW g s (mkS σ [] [] [] [(32, v_t)]) H locs → Td_layFirstThirds_n12 k2 k12 (σ.1 1800) (σ.2.2.1 29) (σ.2.2.1 30) x1 x2 v_t = some w_t → Wg p l e 2 43 s m args below meth c g none (mkS σ [] [] [] [(32, w_t)]) H locs (F0 m 12 ls []) := by
    intro k2 hk2 k12 hk12 x1 x2 v_t H locs ls hl hG h
    unfold Td_layFirstThirds_n12 at h
    refine lv_iload_n hx hb dX6_layFirstThirds_12 rfl (lv_at hl 2 rfl) ?_
    refine lv_aload_n hx hb dX6_layFirstThirds_13 rfl (lv_at hl 0 rfl) ?_
    refine gx_get (v := .int (σ.1 1800)) (C := RX6) (T := TX6) (N := 13) hx hb hts mc_X6 hown hK hG (ga_28 g _) rfl 8 (by decide) hw1 rfl rfl dX6_layFirstThirds_14 ?_
    refine lv_icmp_gt (tgt := 65) hx hb dX6_layFirstThirds_17 (by decide) (fun c7 => ?_) (fun c7 => ?_)
    · have h := ite_t c7 h
      exact n65 k2 hk2 x1 v_t _ _ _ (lv_sub hl [0, 1] rfl) hG h
    · have h := ite_f c7 h
      refine lv_aload_n hx hb dX6_layFirstThirds_20 rfl (lv_at hl 0 rfl) ?_
      refine gx_get (v := .ref (g.2.1 32)) (C := RX6) (T := TX6) (N := 13) hx hb hts mc_X6 hown hK hG (ga_28 g _) rfl 3 (by decide) hw0 rfl rfl dX6_layFirstThirds_21 ?_
      refine lv_iload_n hx hb dX6_layFirstThirds_24 rfl (lv_at hl 1 rfl) ?_
      refine lv_iconst (v := (0 : Int32)) hx hb dX6_layFirstThirds_25 (by decide) ?_
      refine lv_iload_n hx hb dX6_layFirstThirds_26 rfl (lv_at hl 2 rfl) ?_
      obtain ⟨z8, hc9, h⟩ := bnd_some h
      refine gx_cS (σ' := (mkS σ [] [] [] [(32, v_t)])) (r := (some (.int z8))) (rest := [.ref (g.2.1 32)]) (As := [.int x1, .int (0 : Int32), .int x2]) hS9 (c_Td_place l g (mkS σ [] [] [] [(32, v_t)]) x1 (0 : Int32) x2 z8 hc9) rfl (va_cwS 3 hts (gz_S mw_3_178 mw_3_179 mw_1_7 mw_3_180) rfl rfl rfl hdS_X6_place ⟨Nat.le_of_ble_eq_true rfl, Nat.le_of_ble_eq_true rfl⟩) hK hG rfl hl.1 rfl (Nat.le_of_ble_eq_true rfl) dX6_layFirstThirds_27 (fun H locs hG => ?_)
      refine W.eq (g2 := F0 m 30 ls [.int z8, .ref (g.2.1 32)]) rfl ?_
      refine lv_iload_n hx hb dX6_layFirstThirds_30 rfl (lv_at hl 2 rfl) ?_
      refine lv_iload_n hx hb dX6_layFirstThirds_31 rfl (lv_at hl 1 rfl) ?_
      refine lv_icmp_ne (tgt := 39) hx hb dX6_layFirstThirds_32 (by decide) (fun c10 => ?_) (fun c10 => ?_)
      · have h := ite_f c10 h
        refine lv_lconst (v := (0 : Int64)) hx hb dX6_layFirstThirds_39 (by decide) ?_
        exact n40 k12 hk12 x1 x2 z8 (0 : Int64) v_t _ _ _ (lv_sub hl [0, 1, 2] rfl) hG h
      · have h := ite_t c10 h
        refine lv_lconst (v := (1 : Int64)) hx hb dX6_layFirstThirds_35 (by decide) ?_
        refine lv_goto (tgt := 40) hx hb dX6_layFirstThirds_36 (by decide) ?_
        exact n40 k12 hk12 x1 x2 z8 (1 : Int64) v_t _ _ _ (lv_sub hl [0, 1, 2] rfl) hG h
  have l12 : ∀ (k2 : Int32 → (Nat → Int64) → Option ((Nat → Int64))) (hk2 : ∀ (x1 : Int32) (v_t : Nat → Int64) (H : Heap) (locs : List Loc) (ls : Array Slot), lv_has ls 3 [(0, .ref (g.2.1 28)), (1, .int x1)] → GW g s (mkS σ [] [] [] [(32, v_t)]) H locs → k2 x1 v_t = some w_t → Wg p l e 2 43 s m args below meth c g none (mkS σ [] [] [] [(32, w_t)]) H locs (F0 m 2 ls [])) (F : Nat) (x1 : Int32) (x2 : Int32) (v_t : Nat → Int64) (H : Heap) (locs : List Loc) (ls : Array Slot), lv_has ls 3 [(0, .ref (g.2.1 28)), (1, .int x1), (2, .int x2)] → GW g s (mkS σ [] [] [] [(32, v_t)]) H locs → Td_layFirstThirds_l12 k2 (σ.1 1800) (σ.2.2.1 29) (σ.2.2.1 30) F x1 x2 v_t = some w_t → Wg p l e 2 43 s m args below meth c g none (mkS σ [] [] [] [(32, w_t)]) H locs (F0 m 12 ls []) := by
    intro k2 hk2 F
    induction F with
    | zero => intro x1 x2 v_t H locs ls hl hG h; exact no_some h
    | succ F ih => intro x1 x2 v_t H locs ls hl hG h; exact n12 k2 hk2 (fun x1 x2 v_t => Td_layFirstThirds_l12 k2 (σ.1 1800) (σ.2.2.1 29) (σ.2.2.1 30) F x1 x2 v_t) ih x1 x2 v_t H locs ls hl hG h
  have n71 : ∀ (v_t : Nat → Int64) (H : Heap) (locs : List Loc) (ls : Array Slot), lv_has ls 3 [] → GW g s (mkS σ [] [] [] [(32, v_t)]) H locs → Td_layFirstThirds_n71 v_t = some w_t → Wg p l e 2 43 s m args below meth c g none (mkS σ [] [] [] [(32, w_t)]) H locs (F0 m 71 ls []) := by
    intro v_t H locs ls hl hG h
    unfold Td_layFirstThirds_n71 at h
    cases h
    exact gx_vret hx hb hr hlocks hG dX6_layFirstThirds_71
  have n2 : ∀ (k2 : Int32 → (Nat → Int64) → Option ((Nat → Int64))) (hk2 : ∀ (x1 : Int32) (v_t : Nat → Int64) (H : Heap) (locs : List Loc) (ls : Array Slot), lv_has ls 3 [(0, .ref (g.2.1 28)), (1, .int x1)] → GW g s (mkS σ [] [] [] [(32, v_t)]) H locs → k2 x1 v_t = some w_t → Wg p l e 2 43 s m args below meth c g none (mkS σ [] [] [] [(32, w_t)]) H locs (F0 m 2 ls [])) (x1 : Int32) (v_t : Nat → Int64) (H : Heap) (locs : List Loc) (ls : Array Slot), lv_has ls 3 [(0, .ref (g.2.1 28)), (1, .int x1)] → GW g s (mkS σ [] [] [] [(32, v_t)]) H locs → Td_layFirstThirds_n2 k2 (σ.1 1800) (σ.2.2.1 29) (σ.2.2.1 30) x1 v_t = some w_t → Wg p l e 2 43 s m args below meth c g none (mkS σ [] [] [] [(32, w_t)]) H locs (F0 m 2 ls []) := by
    intro k2 hk2 x1 v_t H locs ls hl hG h
    unfold Td_layFirstThirds_n2 at h
    refine lv_iload_n hx hb dX6_layFirstThirds_2 rfl (lv_at hl 1 rfl) ?_
    refine lv_aload_n hx hb dX6_layFirstThirds_3 rfl (lv_at hl 0 rfl) ?_
    refine gx_get (v := .int (σ.1 1800)) (C := RX6) (T := TX6) (N := 13) hx hb hts mc_X6 hown hK hG (ga_28 g _) rfl 8 (by decide) hw1 rfl rfl dX6_layFirstThirds_4 ?_
    refine lv_icmp_gt (tgt := 71) hx hb dX6_layFirstThirds_7 (by decide) (fun c11 => ?_) (fun c11 => ?_)
    · have h := ite_t c11 h
      exact n71 v_t _ _ _ (lv_sub hl [] rfl) hG h
    · have h := ite_f c11 h
      refine lv_iconst (v := (0 : Int32)) hx hb dX6_layFirstThirds_10 (by decide) ?_
      refine lv_istore_n (lv' := [(2, .int (0 : Int32)), (0, .ref (g.2.1 28)), (1, .int x1)]) hx hb dX6_layFirstThirds_11 rfl hl (Nat.le_of_ble_eq_true rfl) rfl (fun ls hl => ?_)
      exact l12 k2 hk2 FUEL x1 (0 : Int32) v_t _ _ _ (lv_sub hl [1, 2, 0] rfl) hG h
  have l2 : ∀  (F : Nat) (x1 : Int32) (v_t : Nat → Int64) (H : Heap) (locs : List Loc) (ls : Array Slot), lv_has ls 3 [(0, .ref (g.2.1 28)), (1, .int x1)] → GW g s (mkS σ [] [] [] [(32, v_t)]) H locs → Td_layFirstThirds_l2 (σ.1 1800) (σ.2.2.1 29) (σ.2.2.1 30) F x1 v_t = some w_t → Wg p l e 2 43 s m args below meth c g none (mkS σ [] [] [] [(32, w_t)]) H locs (F0 m 2 ls []) := by
    intro F
    induction F with
    | zero => intro x1 v_t H locs ls hl hG h; exact no_some h
    | succ F ih => intro x1 v_t H locs ls hl hG h; exact n2 (fun x1 v_t => Td_layFirstThirds_l2 (σ.1 1800) (σ.2.2.1 29) (σ.2.2.1 30) F x1 v_t) ih x1 v_t H locs ls hl hG h
  refine lv_iconst (v := (0 : Int32)) hx hb dX6_layFirstThirds_0 (by decide) ?_
  refine lv_istore_n (lv' := [(1, .int (0 : Int32)), (0, .ref (g.2.1 28))]) hx hb dX6_layFirstThirds_1 rfl hl (Nat.le_of_ble_eq_true rfl) rfl (fun ls hl => ?_)
  exact l2 FUEL (0 : Int32) (σ.2.2.2 32) _ _ _ (lv_sub hl [1, 0] rfl) hG h

set_option maxHeartbeats 4000000 in
set_option maxRecDepth 100000 in
theorem c_Td_thirdTimes (l : Launch) (g : GC) (σ : St) (x1 : Int32) (x2 : Int32) (x3 : Int32) (r : Int64) (h : Td_thirdTimes x1 x2 x3 (σ.1 1800) (σ.2.2.1 29) (σ.2.2.1 30) (σ.2.2.2 32) = some r) : Cn l g yX6_thirdTimes (Cond.code yX6_thirdTimes cX6_thirdTimes 6 (some .long) :: wG) 1 22 [.ref (g.2.1 28), .int x1, .int x2, .int x3] σ (some (.long r)) σ := by
  unfold Cn
  refine Met.ofW (cc := cX6_thirdTimes) (maxL := 6) (ret := (some .long)) (by decide) rfl ?_
  intro p e s m args below meth c s₁ B hml hv
  obtain ⟨hargs, hP0, hK⟩ := hv
  have hx := B.exec
  have hb := B.bytes
  have hr := B.returns
  have hts : ∀ w ∈ wG, w.before args s = true := fun w h => atoms_spec (ws := (Cond.code yX6_thirdTimes cX6_thirdTimes 6 (some .long) :: wG)) B.pre w (List.mem_cons_of_mem _ h)
  have hown : s.vm.findClass RX6 = some m.cls := findClass_of_methodNamed B.named
  have hlocks := B.notSynchronized
  have hS9 : CallFix p m c cX6_thirdTimes 6 s args wG RX6 := ⟨hx, hb, hml, hown, hts⟩
  have hw0 := hts _ mw_1_171
  have hw1 := hts _ mw_1_159
  have hw2 := hts _ mw_1_163
  have hw3 := hts _ mw_1_157
  have hf9 : entryFrame m args 6 = _ := (congrArg (fun a => entryFrame m a 6) hargs).trans (lg_entry_eq m [.ref (g.2.1 28), .int x1, .int x2, .int x3] 6)
  show Wg p l e 1 22 s m args below meth c g (some (.long r)) σ s.heap [] (entryFrame m args 6)
  rw [hf9]
  have hl := lv_entry ([.ref (g.2.1 28), .int x1, .int x2, .int x3]) (n := 6) (Nat.le_of_ble_eq_true rfl)
  generalize (lg_sl ([.ref (g.2.1 28), .int x1, .int x2, .int x3]) ++ List.replicate (6 - (lg_sl ([.ref (g.2.1 28), .int x1, .int x2, .int x3])).length) Slot.unset).toArray = ls at hl ⊢
  have hl : lv_has ls 6 [(0, .ref (g.2.1 28)), (1, .int x1), (2, .int x2), (3, .int x3)] := hl
  have hG : GW g s σ s.heap [] := ⟨hP0, va_S.rf⟩
  unfold Td_thirdTimes at h
  have n118 : ∀ (x4 : Int64) (H : Heap) (locs : List Loc) (ls : Array Slot), lv_has ls 6 [(4, .long x4)] → GW g s σ H locs → Td_thirdTimes_n118 x4 = some r → Wg p l e 1 22 s m args below meth c g (some (.long r)) σ H locs (F0 m 118 ls []) := by
    intro x4 H locs ls hl hG h
    unfold Td_thirdTimes_n118 at h
    refine lv_lload hx hb dX6_thirdTimes_118 (lv_at hl 0 rfl) ?_
    cases h
    exact gx_lret hx hb hr hlocks hG dX6_thirdTimes_120
  have n82 : ∀ (x1 : Int32) (x2 : Int32) (x3 : Int32) (x4 : Int64) (H : Heap) (locs : List Loc) (ls : Array Slot), lv_has ls 6 [(0, .ref (g.2.1 28)), (1, .int x1), (2, .int x2), (3, .int x3), (4, .long x4)] → GW g s σ H locs → Td_thirdTimes_n82 (σ.1 1800) (σ.2.2.1 30) (σ.2.2.2 32) x1 x2 x3 x4 = some r → Wg p l e 1 22 s m args below meth c g (some (.long r)) σ H locs (F0 m 82 ls []) := by
    intro x1 x2 x3 x4 H locs ls hl hG h
    unfold Td_thirdTimes_n82 at h
    refine lv_iload_n hx hb dX6_thirdTimes_82 rfl (lv_at hl 3 rfl) ?_
    refine lv_aload_n hx hb dX6_thirdTimes_83 rfl (lv_at hl 0 rfl) ?_
    refine gx_get (v := .int (σ.1 1800)) (C := RX6) (T := TX6) (N := 13) hx hb hts mc_X6 hown hK hG (ga_28 g _) rfl 8 (by decide) hw0 rfl rfl dX6_thirdTimes_84 ?_
    refine lv_icmp_ge (tgt := 118) hx hb dX6_thirdTimes_87 (by decide) (fun c1 => ?_) (fun c1 => ?_)
    · have h := ite_t c1 h
      exact n118 x4 _ _ _ (lv_sub hl [4] rfl) hG h
    · have h := ite_f c1 h
      refine lv_lload hx hb dX6_thirdTimes_90 (lv_at hl 4 rfl) ?_
      refine lv_aload_n hx hb dX6_thirdTimes_92 rfl (lv_at hl 0 rfl) ?_
      refine gx_get (v := .ref (g.2.1 30)) (C := RX6) (T := TX6) (N := 13) hx hb hts mc_X6 hown hK hG (ga_28 g _) rfl 1 (by decide) hw1 rfl rfl dX6_thirdTimes_93 ?_
      refine lv_iload_n hx hb dX6_thirdTimes_96 rfl (lv_at hl 3 rfl) ?_
      refine lv_iconst (v := (1 : Int32)) hx hb dX6_thirdTimes_97 (by decide) ?_
      refine lv_iadd hx hb dX6_thirdTimes_98 ?_
      obtain ⟨hg2, h⟩ := gd_some h
      refine gx_iald (f := (σ.2.2.1 30)) hx hb hK hG (ga_30 g _) hg2 dX6_thirdTimes_99 ?_
      refine lv_i2l hx hb dX6_thirdTimes_100 rfl ?_
      refine lv_aload_n hx hb dX6_thirdTimes_101 rfl (lv_at hl 0 rfl) ?_
      refine gx_get (v := .ref (g.2.1 32)) (C := RX6) (T := TX6) (N := 13) hx hb hts mc_X6 hown hK hG (ga_28 g _) rfl 3 (by decide) hw2 rfl rfl dX6_thirdTimes_102 ?_
      refine lv_iload_n hx hb dX6_thirdTimes_105 rfl (lv_at hl 1 rfl) ?_
      refine lv_iload_n hx hb dX6_thirdTimes_106 rfl (lv_at hl 2 rfl) ?_
      refine lv_iload_n hx hb dX6_thirdTimes_107 rfl (lv_at hl 3 rfl) ?_
      refine lv_iconst (v := (1 : Int32)) hx hb dX6_thirdTimes_108 (by decide) ?_
      refine lv_iadd hx hb dX6_thirdTimes_109 ?_
      obtain ⟨z3, hc4, h⟩ := bnd_some h
      refine gx_cS (σ' := σ) (r := (some (.int z3))) (rest := [.ref (g.2.1 32), .long (((σ.2.2.1 30) ((x3 + (1 : Int32)).toNatClampNeg)).toInt64), .long x4]) (As := [.int x1, .int x2, .int (x3 + (1 : Int32))]) hS9 (c_Td_place l g σ x1 x2 (x3 + (1 : Int32)) z3 hc4) rfl (va_cwS 3 hts (gz_S mw_3_178 mw_3_179 mw_1_7 mw_3_180) rfl rfl rfl hdS_X6_place ⟨Nat.le_of_ble_eq_true rfl, Nat.le_of_ble_eq_true rfl⟩) hK hG rfl hl.1 rfl (Nat.le_of_ble_eq_true rfl) dX6_thirdTimes_110 (fun H locs hG => ?_)
      refine W.eq (g2 := F0 m 113 ls [.int z3, .ref (g.2.1 32), .long (((σ.2.2.1 30) ((x3 + (1 : Int32)).toNatClampNeg)).toInt64), .long x4]) rfl ?_
      obtain ⟨hg5, h⟩ := gd_some h
      refine gx_lald (f := (σ.2.2.2 32)) hx hb hK hG (ga_32 g _) hg5 dX6_thirdTimes_113 ?_
      refine lv_lmul hx hb dX6_thirdTimes_114 ?_
      refine lv_ladd hx hb dX6_thirdTimes_115 ?_
      refine lv_topl (fun y6 ey6 => ?_)
      have h := lt_at h ey6
      refine lv_lstore (lv' := [(4, .long y6), (0, .ref (g.2.1 28)), (1, .int x1), (2, .int x2), (3, .int x3)]) hx hb dX6_thirdTimes_116 hl (Nat.le_of_ble_eq_true rfl) rfl (fun ls hl => ?_)
      exact n118 y6 _ _ _ (lv_sub hl [0] rfl) hG h
  refine lv_aload_n hx hb dX6_thirdTimes_0 rfl (lv_at hl 0 rfl) ?_
  refine lv_iload_n hx hb dX6_thirdTimes_1 rfl (lv_at hl 3 rfl) ?_
  obtain ⟨z7, hc8, h⟩ := bnd_some h
  refine gx_cV (σ' := σ) (r := (some (.int z7))) (rest := []) (As := [.int x3]) hS9 (c_Td_level l g σ x3 z7 hc8) rfl (cwV 1 hts (gz_V mw_3_156 mw_3_157 mw_3_158 mw_1_7 mw_3_159) rfl rfl rfl hdV_X6_level ⟨Nat.le_of_ble_eq_true rfl, Nat.le_of_ble_eq_true rfl⟩) hK hG (ga_28 g _) rfl rfl rfl hl.1 rfl (Nat.le_of_ble_eq_true rfl) dX6_thirdTimes_2 (fun H locs hG => ?_)
  refine W.eq (g2 := F0 m 5 ls [.int z7]) rfl ?_
  refine lv_aload_n hx hb dX6_thirdTimes_5 rfl (lv_at hl 0 rfl) ?_
  refine lv_iload_n hx hb dX6_thirdTimes_6 rfl (lv_at hl 2 rfl) ?_
  obtain ⟨z9, hc10, h⟩ := bnd_some h
  refine gx_cV (σ' := σ) (r := (some (.int z9))) (rest := [.int z7]) (As := [.int x2]) hS9 (c_Td_level l g σ x2 z9 hc10) rfl (cwV 1 hts (gz_V mw_3_156 mw_3_157 mw_3_158 mw_1_7 mw_3_159) rfl rfl rfl hdV_X6_level ⟨Nat.le_of_ble_eq_true rfl, Nat.le_of_ble_eq_true rfl⟩) hK hG (ga_28 g _) rfl rfl rfl hl.1 rfl (Nat.le_of_ble_eq_true rfl) dX6_thirdTimes_7 (fun H locs hG => ?_)
  refine W.eq (g2 := F0 m 10 ls [.int z9, .int z7]) rfl ?_
  refine lv_isub hx hb dX6_thirdTimes_10 ?_
  refine lv_i2l hx hb dX6_thirdTimes_11 rfl ?_
  refine lv_aload_n hx hb dX6_thirdTimes_12 rfl (lv_at hl 0 rfl) ?_
  refine gx_get (v := .ref (g.2.1 32)) (C := RX6) (T := TX6) (N := 13) hx hb hts mc_X6 hown hK hG (ga_28 g _) rfl 3 (by decide) hw2 rfl rfl dX6_thirdTimes_13 ?_
  refine lv_iload_n hx hb dX6_thirdTimes_16 rfl (lv_at hl 1 rfl) ?_
  refine lv_iload_n hx hb dX6_thirdTimes_17 rfl (lv_at hl 2 rfl) ?_
  refine lv_iload_n hx hb dX6_thirdTimes_18 rfl (lv_at hl 3 rfl) ?_
  obtain ⟨z11, hc12, h⟩ := bnd_some h
  refine gx_cS (σ' := σ) (r := (some (.int z11))) (rest := [.ref (g.2.1 32), .long ((z7 - z9).toInt64)]) (As := [.int x1, .int x2, .int x3]) hS9 (c_Td_place l g σ x1 x2 x3 z11 hc12) rfl (va_cwS 3 hts (gz_S mw_3_178 mw_3_179 mw_1_7 mw_3_180) rfl rfl rfl hdS_X6_place ⟨Nat.le_of_ble_eq_true rfl, Nat.le_of_ble_eq_true rfl⟩) hK hG rfl hl.1 rfl (Nat.le_of_ble_eq_true rfl) dX6_thirdTimes_19 (fun H locs hG => ?_)
  refine W.eq (g2 := F0 m 22 ls [.int z11, .ref (g.2.1 32), .long ((z7 - z9).toInt64)]) rfl ?_
  obtain ⟨hg13, h⟩ := gd_some h
  refine gx_lald (f := (σ.2.2.2 32)) hx hb hK hG (ga_32 g _) hg13 dX6_thirdTimes_22 ?_
  refine lv_lmul hx hb dX6_thirdTimes_23 ?_
  refine lv_aload_n hx hb dX6_thirdTimes_24 rfl (lv_at hl 0 rfl) ?_
  refine gx_get (v := .ref (g.2.1 29)) (C := RX6) (T := TX6) (N := 13) hx hb hts mc_X6 hown hK hG (ga_28 g _) rfl 0 (by decide) hw3 rfl rfl dX6_thirdTimes_25 ?_
  refine lv_iload_n hx hb dX6_thirdTimes_28 rfl (lv_at hl 2 rfl) ?_
  refine lv_iconst (v := (1 : Int32)) hx hb dX6_thirdTimes_29 (by decide) ?_
  refine lv_isub hx hb dX6_thirdTimes_30 ?_
  obtain ⟨hg14, h⟩ := gd_some h
  refine gx_iald (f := (σ.2.2.1 29)) hx hb hK hG (ga_29 g _) hg14 dX6_thirdTimes_31 ?_
  refine lv_i2l hx hb dX6_thirdTimes_32 rfl ?_
  refine lv_aload_n hx hb dX6_thirdTimes_33 rfl (lv_at hl 0 rfl) ?_
  refine gx_get (v := .ref (g.2.1 32)) (C := RX6) (T := TX6) (N := 13) hx hb hts mc_X6 hown hK hG (ga_28 g _) rfl 3 (by decide) hw2 rfl rfl dX6_thirdTimes_34 ?_
  refine lv_iload_n hx hb dX6_thirdTimes_37 rfl (lv_at hl 1 rfl) ?_
  refine lv_iload_n hx hb dX6_thirdTimes_38 rfl (lv_at hl 2 rfl) ?_
  refine lv_iconst (v := (1 : Int32)) hx hb dX6_thirdTimes_39 (by decide) ?_
  refine lv_isub hx hb dX6_thirdTimes_40 ?_
  refine lv_iload_n hx hb dX6_thirdTimes_41 rfl (lv_at hl 3 rfl) ?_
  obtain ⟨z15, hc16, h⟩ := bnd_some h
  refine gx_cS (σ' := σ) (r := (some (.int z15))) (rest := [.ref (g.2.1 32), .long (((σ.2.2.1 29) ((x2 - (1 : Int32)).toNatClampNeg)).toInt64), .long (((z7 - z9).toInt64) * ((σ.2.2.2 32) (z11.toNatClampNeg)))]) (As := [.int x1, .int (x2 - (1 : Int32)), .int x3]) hS9 (c_Td_place l g σ x1 (x2 - (1 : Int32)) x3 z15 hc16) rfl (va_cwS 3 hts (gz_S mw_3_178 mw_3_179 mw_1_7 mw_3_180) rfl rfl rfl hdS_X6_place ⟨Nat.le_of_ble_eq_true rfl, Nat.le_of_ble_eq_true rfl⟩) hK hG rfl hl.1 rfl (Nat.le_of_ble_eq_true rfl) dX6_thirdTimes_42 (fun H locs hG => ?_)
  refine W.eq (g2 := F0 m 45 ls [.int z15, .ref (g.2.1 32), .long (((σ.2.2.1 29) ((x2 - (1 : Int32)).toNatClampNeg)).toInt64), .long (((z7 - z9).toInt64) * ((σ.2.2.2 32) (z11.toNatClampNeg)))]) rfl ?_
  obtain ⟨hg17, h⟩ := gd_some h
  refine gx_lald (f := (σ.2.2.2 32)) hx hb hK hG (ga_32 g _) hg17 dX6_thirdTimes_45 ?_
  refine lv_lmul hx hb dX6_thirdTimes_46 ?_
  refine lv_lsub hx hb dX6_thirdTimes_47 ?_
  refine lv_topl (fun y18 ey18 => ?_)
  have h := lt_at h ey18
  refine lv_lstore (lv' := [(4, .long y18), (0, .ref (g.2.1 28)), (1, .int x1), (2, .int x2), (3, .int x3)]) hx hb dX6_thirdTimes_48 hl (Nat.le_of_ble_eq_true rfl) rfl (fun ls hl => ?_)
  refine lv_iload_n hx hb dX6_thirdTimes_50 rfl (lv_at hl 4 rfl) ?_
  refine lv_if_le (tgt := 82) hx hb dX6_thirdTimes_51 (by decide) (fun c19 => ?_) (fun c19 => ?_)
  · have h := ite_t c19 h
    exact n82 x1 x2 x3 y18 _ _ _ (lv_sub hl [1, 2, 3, 4, 0] rfl) hG h
  · have h := ite_f c19 h
    refine lv_lload hx hb dX6_thirdTimes_54 (lv_at hl 0 rfl) ?_
    refine lv_aload_n hx hb dX6_thirdTimes_56 rfl (lv_at hl 1 rfl) ?_
    refine gx_get (v := .ref (g.2.1 29)) (C := RX6) (T := TX6) (N := 13) hx hb hts mc_X6 hown hK hG (ga_28 g _) rfl 0 (by decide) hw3 rfl rfl dX6_thirdTimes_57 ?_
    refine lv_iload_n hx hb dX6_thirdTimes_60 rfl (lv_at hl 4 rfl) ?_
    refine lv_iconst (v := (1 : Int32)) hx hb dX6_thirdTimes_61 (by decide) ?_
    refine lv_isub hx hb dX6_thirdTimes_62 ?_
    obtain ⟨hg20, h⟩ := gd_some h
    refine gx_iald (f := (σ.2.2.1 29)) hx hb hK hG (ga_29 g _) hg20 dX6_thirdTimes_63 ?_
    refine lv_i2l hx hb dX6_thirdTimes_64 rfl ?_
    refine lv_aload_n hx hb dX6_thirdTimes_65 rfl (lv_at hl 1 rfl) ?_
    refine gx_get (v := .ref (g.2.1 32)) (C := RX6) (T := TX6) (N := 13) hx hb hts mc_X6 hown hK hG (ga_28 g _) rfl 3 (by decide) hw2 rfl rfl dX6_thirdTimes_66 ?_
    refine lv_iload_n hx hb dX6_thirdTimes_69 rfl (lv_at hl 2 rfl) ?_
    refine lv_iload_n hx hb dX6_thirdTimes_70 rfl (lv_at hl 3 rfl) ?_
    refine lv_iload_n hx hb dX6_thirdTimes_71 rfl (lv_at hl 4 rfl) ?_
    refine lv_iconst (v := (1 : Int32)) hx hb dX6_thirdTimes_72 (by decide) ?_
    refine lv_isub hx hb dX6_thirdTimes_73 ?_
    obtain ⟨z21, hc22, h⟩ := bnd_some h
    refine gx_cS (σ' := σ) (r := (some (.int z21))) (rest := [.ref (g.2.1 32), .long (((σ.2.2.1 29) ((x3 - (1 : Int32)).toNatClampNeg)).toInt64), .long y18]) (As := [.int x1, .int x2, .int (x3 - (1 : Int32))]) hS9 (c_Td_place l g σ x1 x2 (x3 - (1 : Int32)) z21 hc22) rfl (va_cwS 3 hts (gz_S mw_3_178 mw_3_179 mw_1_7 mw_3_180) rfl rfl rfl hdS_X6_place ⟨Nat.le_of_ble_eq_true rfl, Nat.le_of_ble_eq_true rfl⟩) hK hG rfl hl.1 rfl (Nat.le_of_ble_eq_true rfl) dX6_thirdTimes_74 (fun H locs hG => ?_)
    refine W.eq (g2 := F0 m 77 ls [.int z21, .ref (g.2.1 32), .long (((σ.2.2.1 29) ((x3 - (1 : Int32)).toNatClampNeg)).toInt64), .long y18]) rfl ?_
    obtain ⟨hg23, h⟩ := gd_some h
    refine gx_lald (f := (σ.2.2.2 32)) hx hb hK hG (ga_32 g _) hg23 dX6_thirdTimes_77 ?_
    refine lv_lmul hx hb dX6_thirdTimes_78 ?_
    refine lv_ladd hx hb dX6_thirdTimes_79 ?_
    refine lv_topl (fun y24 ey24 => ?_)
    have h := lt_at h ey24
    refine lv_lstore (lv' := [(4, .long y24), (0, .ref (g.2.1 28)), (1, .int x1), (2, .int x2), (3, .int x3)]) hx hb dX6_thirdTimes_80 hl (Nat.le_of_ble_eq_true rfl) rfl (fun ls hl => ?_)
    exact n82 x1 x2 x3 y24 _ _ _ (lv_sub hl [1, 2, 3, 4, 0] rfl) hG h

set_option maxHeartbeats 4000000 in
set_option maxRecDepth 100000 in
theorem c_Td_layOtherThirds (l : Launch) (g : GC) (σ : St) (r : Int32) (w_t : Nat → Int64) (h : Td_layOtherThirds (σ.1 1800) (σ.2.2.1 29) (σ.2.2.1 30) (σ.2.2.2 32) = some (r, w_t)) : Cn l g yX6_layOtherThirds (Cond.code yX6_layOtherThirds cX6_layOtherThirds 6 (some .boolean) :: wG) 2 47 [.ref (g.2.1 28)] σ (some (.int r)) (mkS σ [] [] [] [(32, w_t)]) := by
  unfold Cn
  refine Met.ofW (cc := cX6_layOtherThirds) (maxL := 6) (ret := (some .boolean)) (by decide) rfl ?_
  intro p e s m args below meth c s₁ B hml hv
  obtain ⟨hargs, hP0, hK⟩ := hv
  have hx := B.exec
  have hb := B.bytes
  have hr := B.returns
  have hts : ∀ w ∈ wG, w.before args s = true := fun w h => atoms_spec (ws := (Cond.code yX6_layOtherThirds cX6_layOtherThirds 6 (some .boolean) :: wG)) B.pre w (List.mem_cons_of_mem _ h)
  have hown : s.vm.findClass RX6 = some m.cls := findClass_of_methodNamed B.named
  have hlocks := B.notSynchronized
  have hS9 : CallFix p m c cX6_layOtherThirds 6 s args wG RX6 := ⟨hx, hb, hml, hown, hts⟩
  have hw0 := hts _ mw_1_171
  have hw1 := hts _ mw_1_159
  have hw2 := hts _ mw_1_163
  have hf9 : entryFrame m args 6 = _ := (congrArg (fun a => entryFrame m a 6) hargs).trans (lg_entry_eq m [.ref (g.2.1 28)] 6)
  show Wg p l e 2 47 s m args below meth c g (some (.int r)) (mkS σ [] [] [] [(32, w_t)]) s.heap [] (entryFrame m args 6)
  rw [hf9]
  have hl := lv_entry ([.ref (g.2.1 28)]) (n := 6) (Nat.le_of_ble_eq_true rfl)
  generalize (lg_sl ([.ref (g.2.1 28)]) ++ List.replicate (6 - (lg_sl ([.ref (g.2.1 28)])).length) Slot.unset).toArray = ls at hl ⊢
  have hl : lv_has ls 6 [(0, .ref (g.2.1 28))] := hl
  have hG : GW g s σ s.heap [] := ⟨hP0, va_S.rf⟩
  have hG : GW g s (mkS σ [] [] [] [(32, (σ.2.2.2 32))]) s.heap [] := GW_self [] [] [] [32] hG
  unfold Td_layOtherThirds at h
  have n74 : ∀ (v_t : Nat → Int64) (H : Heap) (locs : List Loc) (ls : Array Slot), lv_has ls 6 [] → GW g s (mkS σ [] [] [] [(32, v_t)]) H locs → Td_layOtherThirds_n74 v_t = some (r, w_t) → Wg p l e 2 47 s m args below meth c g (some (.int r)) (mkS σ [] [] [] [(32, w_t)]) H locs (F0 m 74 ls []) := by
    intro v_t H locs ls hl hG h
    unfold Td_layOtherThirds_n74 at h
    refine lv_iconst (v := (0 : Int32)) hx hb dX6_layOtherThirds_74 (by decide) ?_
    cases h
    exact gx_zret hx hb hr hlocks (by decide) hG dX6_layOtherThirds_75
  have n107 : ∀ (k12 : Int32 → Int32 → (Nat → Int64) → Option (Int32 × (Nat → Int64))) (hk12 : ∀ (x1 : Int32) (x2 : Int32) (v_t : Nat → Int64) (H : Heap) (locs : List Loc) (ls : Array Slot), lv_has ls 6 [(0, .ref (g.2.1 28)), (1, .int x1), (2, .int x2)] → GW g s (mkS σ [] [] [] [(32, v_t)]) H locs → k12 x1 x2 v_t = some (r, w_t) → Wg p l e 2 47 s m args below meth c g (some (.int r)) (mkS σ [] [] [] [(32, w_t)]) H locs (F0 m 12 ls [])) (x1 : Int32) (x2 : Int32) (v_t : Nat → Int64) (H : Heap) (locs : List Loc) (ls : Array Slot), lv_has ls 6 [(0, .ref (g.2.1 28)), (1, .int x1), (2, .int x2)] → GW g s (mkS σ [] [] [] [(32, v_t)]) H locs → Td_layOtherThirds_n107 k12 x1 x2 v_t = some (r, w_t) → Wg p l e 2 47 s m args below meth c g (some (.int r)) (mkS σ [] [] [] [(32, w_t)]) H locs (F0 m 107 ls []) := by
    intro k12 hk12 x1 x2 v_t H locs ls hl hG h
    unfold Td_layOtherThirds_n107 at h
    refine lv_iinc (v := (x2 + (1 : Int32))) (lv' := [(2, .int (x2 + (1 : Int32))), (0, .ref (g.2.1 28)), (1, .int x1)]) hx hb dX6_layOtherThirds_107 hl (k := 2) rfl (congrArg (fun z => x2 + z) (by decide)) (Nat.le_of_ble_eq_true rfl) rfl (fun ls hl => ?_)
    refine lv_goto (tgt := 12) hx hb dX6_layOtherThirds_110 (by decide) ?_
    exact hk12 x1 (x2 + (1 : Int32)) v_t _ _ _ (lv_sub hl [1, 2, 0] rfl) hG h
  have n22 : ∀ (k12 : Int32 → Int32 → (Nat → Int64) → Option (Int32 × (Nat → Int64))) (hk12 : ∀ (x1 : Int32) (x2 : Int32) (v_t : Nat → Int64) (H : Heap) (locs : List Loc) (ls : Array Slot), lv_has ls 6 [(0, .ref (g.2.1 28)), (1, .int x1), (2, .int x2)] → GW g s (mkS σ [] [] [] [(32, v_t)]) H locs → k12 x1 x2 v_t = some (r, w_t) → Wg p l e 2 47 s m args below meth c g (some (.int r)) (mkS σ [] [] [] [(32, w_t)]) H locs (F0 m 12 ls [])) (k22 : Int32 → Int32 → Int32 → (Nat → Int64) → Option (Int32 × (Nat → Int64))) (hk22 : ∀ (x1 : Int32) (x2 : Int32) (x3 : Int32) (v_t : Nat → Int64) (H : Heap) (locs : List Loc) (ls : Array Slot), lv_has ls 6 [(0, .ref (g.2.1 28)), (1, .int x1), (2, .int x2), (3, .int x3)] → GW g s (mkS σ [] [] [] [(32, v_t)]) H locs → k22 x1 x2 x3 v_t = some (r, w_t) → Wg p l e 2 47 s m args below meth c g (some (.int r)) (mkS σ [] [] [] [(32, w_t)]) H locs (F0 m 22 ls [])) (x1 : Int32) (x2 : Int32) (x3 : Int32) (v_t : Nat → Int64) (H : Heap) (locs : List Loc) (ls : Array Slot), lv_has ls 6 [(0, .ref (g.2.1 28)), (1, .int x1), (2, .int x2), (3, .int x3)] → GW g s (mkS σ [] [] [] [(32, v_t)]) H locs → Td_layOtherThirds_n22 k12 k22 (σ.1 1800) (σ.2.2.1 29) (σ.2.2.1 30) x1 x2 x3 v_t = some (r, w_t) → Wg p l e 2 47 s m args below meth c g (some (.int r)) (mkS σ [] [] [] [(32, w_t)]) H locs (F0 m 22 ls []) := by
    intro k12 hk12 k22 hk22 x1 x2 x3 v_t H locs ls hl hG h
    unfold Td_layOtherThirds_n22 at h
    refine lv_iload_n hx hb dX6_layOtherThirds_22 rfl (lv_at hl 3 rfl) ?_
    refine lv_aload_n hx hb dX6_layOtherThirds_23 rfl (lv_at hl 0 rfl) ?_
    refine gx_get (v := .int (σ.1 1800)) (C := RX6) (T := TX6) (N := 13) hx hb hts mc_X6 hown hK hG (ga_28 g _) rfl 8 (by decide) hw0 rfl rfl dX6_layOtherThirds_24 ?_
    refine lv_icmp_gt (tgt := 107) hx hb dX6_layOtherThirds_27 (by decide) (fun c1 => ?_) (fun c1 => ?_)
    · have h := ite_t c1 h
      exact n107 k12 hk12 x1 x2 v_t _ _ _ (lv_sub hl [0, 1, 2] rfl) hG h
    · have h := ite_f c1 h
      refine lv_aload_n hx hb dX6_layOtherThirds_30 rfl (lv_at hl 0 rfl) ?_
      refine lv_iload_n hx hb dX6_layOtherThirds_31 rfl (lv_at hl 2 rfl) ?_
      refine lv_iload_n hx hb dX6_layOtherThirds_32 rfl (lv_at hl 1 rfl) ?_
      refine lv_iload_n hx hb dX6_layOtherThirds_33 rfl (lv_at hl 3 rfl) ?_
      obtain ⟨z2, hc3, h⟩ := bnd_some h
      refine gx_cV (σ' := (mkS σ [] [] [] [(32, v_t)])) (r := (some (.long z2))) (rest := []) (As := [.int x2, .int x1, .int x3]) hS9 (c_Td_thirdTimes l g (mkS σ [] [] [] [(32, v_t)]) x2 x1 x3 z2 hc3) rfl (cwV 3 hts (gz_V mw_3_189 mw_3_191 ms_2_5 mw_1_7 mw_3_192) rfl rfl rfl hdV_X6_thirdTimes ⟨Nat.le_of_ble_eq_true rfl, Nat.le_of_ble_eq_true rfl⟩) hK hG (ga_28 g _) rfl rfl rfl hl.1 rfl (Nat.le_of_ble_eq_true rfl) dX6_layOtherThirds_34 (fun H locs hG => ?_)
      refine W.eq (g2 := F0 m 37 ls [.long z2]) rfl ?_
      refine lv_lstore (lv' := [(4, .long z2), (0, .ref (g.2.1 28)), (1, .int x1), (2, .int x2), (3, .int x3)]) hx hb dX6_layOtherThirds_37 hl (Nat.le_of_ble_eq_true rfl) rfl (fun ls hl => ?_)
      refine lv_lload hx hb dX6_layOtherThirds_39 (lv_at hl 0 rfl) ?_
      refine lv_lconst (v := (0 : Int64)) hx hb dX6_layOtherThirds_41 (by decide) ?_
      refine W.lcmp hx hb dX6_layOtherThirds_42 ?_
      refine lv_if_lt (tgt := 74) hx hb dX6_layOtherThirds_43 (by decide) (fun c4 => ?_) (fun c4 => ?_)
      · have h := ite_t c4 h
        exact n74 v_t _ _ _ (lv_sub hl [] rfl) hG h
      · have h := ite_f c4 h
        refine lv_aload_n hx hb dX6_layOtherThirds_46 rfl (lv_at hl 1 rfl) ?_
        refine gx_get (v := .ref (g.2.1 30)) (C := RX6) (T := TX6) (N := 13) hx hb hts mc_X6 hown hK hG (ga_28 g _) rfl 1 (by decide) hw1 rfl rfl dX6_layOtherThirds_47 ?_
        refine lv_iload_n hx hb dX6_layOtherThirds_50 rfl (lv_at hl 2 rfl) ?_
        refine lv_iconst (v := (1 : Int32)) hx hb dX6_layOtherThirds_51 (by decide) ?_
        refine lv_iadd hx hb dX6_layOtherThirds_52 ?_
        obtain ⟨hg5, h⟩ := gd_some h
        refine gx_iald (f := (σ.2.2.1 30)) hx hb hK hG (ga_30 g _) hg5 dX6_layOtherThirds_53 ?_
        refine lv_if_eq (tgt := 74) hx hb dX6_layOtherThirds_54 (by decide) (fun c6 => ?_) (fun c6 => ?_)
        · have h := ite_t c6 h
          exact n74 v_t _ _ _ (lv_sub hl [] rfl) hG h
        · have h := ite_f c6 h
          refine lv_lload hx hb dX6_layOtherThirds_57 (lv_at hl 0 rfl) ?_
          refine lv_aload_n hx hb dX6_layOtherThirds_59 rfl (lv_at hl 1 rfl) ?_
          refine gx_get (v := .ref (g.2.1 30)) (C := RX6) (T := TX6) (N := 13) hx hb hts mc_X6 hown hK hG (ga_28 g _) rfl 1 (by decide) hw1 rfl rfl dX6_layOtherThirds_60 ?_
          refine lv_iload_n hx hb dX6_layOtherThirds_63 rfl (lv_at hl 2 rfl) ?_
          refine lv_iconst (v := (1 : Int32)) hx hb dX6_layOtherThirds_64 (by decide) ?_
          refine lv_iadd hx hb dX6_layOtherThirds_65 ?_
          refine gx_iald (f := (σ.2.2.1 30)) hx hb hK hG (ga_30 g _) hg5 dX6_layOtherThirds_66 ?_
          refine lv_i2l hx hb dX6_layOtherThirds_67 rfl ?_
          obtain ⟨hg7, h⟩ := gd_some h
          refine lv_lrem hx hb dX6_layOtherThirds_68 (nzL_ne hg7) ?_
          refine lv_lconst (v := (0 : Int64)) hx hb dX6_layOtherThirds_69 (by decide) ?_
          refine W.lcmp hx hb dX6_layOtherThirds_70 ?_
          refine lv_if_eq (tgt := 76) hx hb dX6_layOtherThirds_71 (by decide) (fun c8 => ?_) (fun c8 => ?_)
          · have h := ite_t c8 h
            refine lv_aload_n hx hb dX6_layOtherThirds_76 rfl (lv_at hl 1 rfl) ?_
            refine gx_get (v := .ref (g.2.1 32)) (C := RX6) (T := TX6) (N := 13) hx hb hts mc_X6 hown hK hG (ga_28 g _) rfl 3 (by decide) hw2 rfl rfl dX6_layOtherThirds_77 ?_
            refine lv_iload_n hx hb dX6_layOtherThirds_80 rfl (lv_at hl 3 rfl) ?_
            refine lv_iload_n hx hb dX6_layOtherThirds_81 rfl (lv_at hl 2 rfl) ?_
            refine lv_iconst (v := (1 : Int32)) hx hb dX6_layOtherThirds_82 (by decide) ?_
            refine lv_iadd hx hb dX6_layOtherThirds_83 ?_
            refine lv_iload_n hx hb dX6_layOtherThirds_84 rfl (lv_at hl 4 rfl) ?_
            obtain ⟨z9, hc10, h⟩ := bnd_some h
            refine gx_cS (σ' := (mkS σ [] [] [] [(32, v_t)])) (r := (some (.int z9))) (rest := [.ref (g.2.1 32)]) (As := [.int x2, .int (x1 + (1 : Int32)), .int x3]) hS9 (c_Td_place l g (mkS σ [] [] [] [(32, v_t)]) x2 (x1 + (1 : Int32)) x3 z9 hc10) rfl (va_cwS 3 hts (gz_S mw_3_178 mw_3_179 mw_1_7 mw_3_180) rfl rfl rfl hdS_X6_place ⟨Nat.le_of_ble_eq_true rfl, Nat.le_of_ble_eq_true rfl⟩) hK hG rfl hl.1 rfl (Nat.le_of_ble_eq_true rfl) dX6_layOtherThirds_85 (fun H locs hG => ?_)
            refine W.eq (g2 := F0 m 88 ls [.int z9, .ref (g.2.1 32)]) rfl ?_
            refine lv_lload hx hb dX6_layOtherThirds_88 (lv_at hl 0 rfl) ?_
            refine lv_aload_n hx hb dX6_layOtherThirds_90 rfl (lv_at hl 1 rfl) ?_
            refine gx_get (v := .ref (g.2.1 30)) (C := RX6) (T := TX6) (N := 13) hx hb hts mc_X6 hown hK hG (ga_28 g _) rfl 1 (by decide) hw1 rfl rfl dX6_layOtherThirds_91 ?_
            refine lv_iload_n hx hb dX6_layOtherThirds_94 rfl (lv_at hl 2 rfl) ?_
            refine lv_iconst (v := (1 : Int32)) hx hb dX6_layOtherThirds_95 (by decide) ?_
            refine lv_iadd hx hb dX6_layOtherThirds_96 ?_
            refine gx_iald (f := (σ.2.2.1 30)) hx hb hK hG (ga_30 g _) hg5 dX6_layOtherThirds_97 ?_
            refine lv_i2l hx hb dX6_layOtherThirds_98 rfl ?_
            refine lv_ldiv hx hb dX6_layOtherThirds_99 (nzL_ne hg7) ?_
            refine lv_topl (fun y11 ey11 => ?_)
            have h := lt_at h ey11
            obtain ⟨hg12, h⟩ := gd_some h
            refine gx_last (σ' := (mkS σ [] [] [] [(32, (vp_updL v_t (z9.toNatClampNeg) y11))])) (f := v_t) hx hb hK hG (ga_32 g _) hg12 ((gs_32 g _ _).trans (congrArg (g_cells g) (mk_d 0 rfl rfl))) dX6_layOtherThirds_100 (fun H locs hG => ?_)
            refine lv_iinc (v := (x3 + (1 : Int32))) (lv' := [(3, .int (x3 + (1 : Int32))), (4, .long z2), (0, .ref (g.2.1 28)), (1, .int x1), (2, .int x2)]) hx hb dX6_layOtherThirds_101 hl (k := 4) rfl (congrArg (fun z => x3 + z) (by decide)) (Nat.le_of_ble_eq_true rfl) rfl (fun ls hl => ?_)
            refine lv_goto (tgt := 22) hx hb dX6_layOtherThirds_104 (by decide) ?_
            exact hk22 x1 x2 (x3 + (1 : Int32)) (vp_updL v_t (z9.toNatClampNeg) y11) _ _ _ (lv_sub hl [2, 3, 4, 0] rfl) hG h
          · have h := ite_f c8 h
            exact n74 v_t _ _ _ (lv_sub hl [] rfl) hG h
  have l22 : ∀ (k12 : Int32 → Int32 → (Nat → Int64) → Option (Int32 × (Nat → Int64))) (hk12 : ∀ (x1 : Int32) (x2 : Int32) (v_t : Nat → Int64) (H : Heap) (locs : List Loc) (ls : Array Slot), lv_has ls 6 [(0, .ref (g.2.1 28)), (1, .int x1), (2, .int x2)] → GW g s (mkS σ [] [] [] [(32, v_t)]) H locs → k12 x1 x2 v_t = some (r, w_t) → Wg p l e 2 47 s m args below meth c g (some (.int r)) (mkS σ [] [] [] [(32, w_t)]) H locs (F0 m 12 ls [])) (F : Nat) (x1 : Int32) (x2 : Int32) (x3 : Int32) (v_t : Nat → Int64) (H : Heap) (locs : List Loc) (ls : Array Slot), lv_has ls 6 [(0, .ref (g.2.1 28)), (1, .int x1), (2, .int x2), (3, .int x3)] → GW g s (mkS σ [] [] [] [(32, v_t)]) H locs → Td_layOtherThirds_l22 k12 (σ.1 1800) (σ.2.2.1 29) (σ.2.2.1 30) F x1 x2 x3 v_t = some (r, w_t) → Wg p l e 2 47 s m args below meth c g (some (.int r)) (mkS σ [] [] [] [(32, w_t)]) H locs (F0 m 22 ls []) := by
    intro k12 hk12 F
    induction F with
    | zero => intro x1 x2 x3 v_t H locs ls hl hG h; exact no_some h
    | succ F ih => intro x1 x2 x3 v_t H locs ls hl hG h; exact n22 k12 hk12 (fun x1 x2 x3 v_t => Td_layOtherThirds_l22 k12 (σ.1 1800) (σ.2.2.1 29) (σ.2.2.1 30) F x1 x2 x3 v_t) ih x1 x2 x3 v_t H locs ls hl hG h
  have n113 : ∀ (k2 : Int32 → (Nat → Int64) → Option (Int32 × (Nat → Int64))) (hk2 : ∀ (x1 : Int32) (v_t : Nat → Int64) (H : Heap) (locs : List Loc) (ls : Array Slot), lv_has ls 6 [(0, .ref (g.2.1 28)), (1, .int x1)] → GW g s (mkS σ [] [] [] [(32, v_t)]) H locs → k2 x1 v_t = some (r, w_t) → Wg p l e 2 47 s m args below meth c g (some (.int r)) (mkS σ [] [] [] [(32, w_t)]) H locs (F0 m 2 ls [])) (x1 : Int32) (v_t : Nat → Int64) (H : Heap) (locs : List Loc) (ls : Array Slot), lv_has ls 6 [(0, .ref (g.2.1 28)), (1, .int x1)] → GW g s (mkS σ [] [] [] [(32, v_t)]) H locs → Td_layOtherThirds_n113 k2 x1 v_t = some (r, w_t) → Wg p l e 2 47 s m args below meth c g (some (.int r)) (mkS σ [] [] [] [(32, w_t)]) H locs (F0 m 113 ls []) := by
    intro k2 hk2 x1 v_t H locs ls hl hG h
    unfold Td_layOtherThirds_n113 at h
    refine lv_iinc (v := (x1 + (1 : Int32))) (lv' := [(1, .int (x1 + (1 : Int32))), (0, .ref (g.2.1 28))]) hx hb dX6_layOtherThirds_113 hl (k := 1) rfl (congrArg (fun z => x1 + z) (by decide)) (Nat.le_of_ble_eq_true rfl) rfl (fun ls hl => ?_)
    refine lv_goto (tgt := 2) hx hb dX6_layOtherThirds_116 (by decide) ?_
    exact hk2 (x1 + (1 : Int32)) v_t _ _ _ (lv_sub hl [1, 0] rfl) hG h
  have n12 : ∀ (k2 : Int32 → (Nat → Int64) → Option (Int32 × (Nat → Int64))) (hk2 : ∀ (x1 : Int32) (v_t : Nat → Int64) (H : Heap) (locs : List Loc) (ls : Array Slot), lv_has ls 6 [(0, .ref (g.2.1 28)), (1, .int x1)] → GW g s (mkS σ [] [] [] [(32, v_t)]) H locs → k2 x1 v_t = some (r, w_t) → Wg p l e 2 47 s m args below meth c g (some (.int r)) (mkS σ [] [] [] [(32, w_t)]) H locs (F0 m 2 ls [])) (k12 : Int32 → Int32 → (Nat → Int64) → Option (Int32 × (Nat → Int64))) (hk12 : ∀ (x1 : Int32) (x2 : Int32) (v_t : Nat → Int64) (H : Heap) (locs : List Loc) (ls : Array Slot), lv_has ls 6 [(0, .ref (g.2.1 28)), (1, .int x1), (2, .int x2)] → GW g s (mkS σ [] [] [] [(32, v_t)]) H locs → k12 x1 x2 v_t = some (r, w_t) → Wg p l e 2 47 s m args below meth c g (some (.int r)) (mkS σ [] [] [] [(32, w_t)]) H locs (F0 m 12 ls [])) (x1 : Int32) (x2 : Int32) (v_t : Nat → Int64) (H : Heap) (locs : List Loc) (ls : Array Slot), lv_has ls 6 [(0, .ref (g.2.1 28)), (1, .int x1), (2, .int x2)] → GW g s (mkS σ [] [] [] [(32, v_t)]) H locs → Td_layOtherThirds_n12 k2 k12 (σ.1 1800) (σ.2.2.1 29) (σ.2.2.1 30) x1 x2 v_t = some (r, w_t) → Wg p l e 2 47 s m args below meth c g (some (.int r)) (mkS σ [] [] [] [(32, w_t)]) H locs (F0 m 12 ls []) := by
    intro k2 hk2 k12 hk12 x1 x2 v_t H locs ls hl hG h
    unfold Td_layOtherThirds_n12 at h
    refine lv_iload_n hx hb dX6_layOtherThirds_12 rfl (lv_at hl 2 rfl) ?_
    refine lv_aload_n hx hb dX6_layOtherThirds_13 rfl (lv_at hl 0 rfl) ?_
    refine gx_get (v := .int (σ.1 1800)) (C := RX6) (T := TX6) (N := 13) hx hb hts mc_X6 hown hK hG (ga_28 g _) rfl 8 (by decide) hw0 rfl rfl dX6_layOtherThirds_14 ?_
    refine lv_icmp_gt (tgt := 113) hx hb dX6_layOtherThirds_17 (by decide) (fun c13 => ?_) (fun c13 => ?_)
    · have h := ite_t c13 h
      exact n113 k2 hk2 x1 v_t _ _ _ (lv_sub hl [0, 1] rfl) hG h
    · have h := ite_f c13 h
      refine lv_iconst (v := (0 : Int32)) hx hb dX6_layOtherThirds_20 (by decide) ?_
      refine lv_istore_n (lv' := [(3, .int (0 : Int32)), (0, .ref (g.2.1 28)), (1, .int x1), (2, .int x2)]) hx hb dX6_layOtherThirds_21 rfl hl (Nat.le_of_ble_eq_true rfl) rfl (fun ls hl => ?_)
      exact l22 k12 hk12 FUEL x1 x2 (0 : Int32) v_t _ _ _ (lv_sub hl [1, 2, 3, 0] rfl) hG h
  have l12 : ∀ (k2 : Int32 → (Nat → Int64) → Option (Int32 × (Nat → Int64))) (hk2 : ∀ (x1 : Int32) (v_t : Nat → Int64) (H : Heap) (locs : List Loc) (ls : Array Slot), lv_has ls 6 [(0, .ref (g.2.1 28)), (1, .int x1)] → GW g s (mkS σ [] [] [] [(32, v_t)]) H locs → k2 x1 v_t = some (r, w_t) → Wg p l e 2 47 s m args below meth c g (some (.int r)) (mkS σ [] [] [] [(32, w_t)]) H locs (F0 m 2 ls [])) (F : Nat) (x1 : Int32) (x2 : Int32) (v_t : Nat → Int64) (H : Heap) (locs : List Loc) (ls : Array Slot), lv_has ls 6 [(0, .ref (g.2.1 28)), (1, .int x1), (2, .int x2)] → GW g s (mkS σ [] [] [] [(32, v_t)]) H locs → Td_layOtherThirds_l12 k2 (σ.1 1800) (σ.2.2.1 29) (σ.2.2.1 30) F x1 x2 v_t = some (r, w_t) → Wg p l e 2 47 s m args below meth c g (some (.int r)) (mkS σ [] [] [] [(32, w_t)]) H locs (F0 m 12 ls []) := by
    intro k2 hk2 F
    induction F with
    | zero => intro x1 x2 v_t H locs ls hl hG h; exact no_some h
    | succ F ih => intro x1 x2 v_t H locs ls hl hG h; exact n12 k2 hk2 (fun x1 x2 v_t => Td_layOtherThirds_l12 k2 (σ.1 1800) (σ.2.2.1 29) (σ.2.2.1 30) F x1 x2 v_t) ih x1 x2 v_t H locs ls hl hG h
  have n119 : ∀ (v_t : Nat → Int64) (H : Heap) (locs : List Loc) (ls : Array Slot), lv_has ls 6 [] → GW g s (mkS σ [] [] [] [(32, v_t)]) H locs → Td_layOtherThirds_n119 v_t = some (r, w_t) → Wg p l e 2 47 s m args below meth c g (some (.int r)) (mkS σ [] [] [] [(32, w_t)]) H locs (F0 m 119 ls []) := by
    intro v_t H locs ls hl hG h
    unfold Td_layOtherThirds_n119 at h
    refine lv_iconst (v := (1 : Int32)) hx hb dX6_layOtherThirds_119 (by decide) ?_
    cases h
    exact gx_zret hx hb hr hlocks (by decide) hG dX6_layOtherThirds_120
  have n2 : ∀ (k2 : Int32 → (Nat → Int64) → Option (Int32 × (Nat → Int64))) (hk2 : ∀ (x1 : Int32) (v_t : Nat → Int64) (H : Heap) (locs : List Loc) (ls : Array Slot), lv_has ls 6 [(0, .ref (g.2.1 28)), (1, .int x1)] → GW g s (mkS σ [] [] [] [(32, v_t)]) H locs → k2 x1 v_t = some (r, w_t) → Wg p l e 2 47 s m args below meth c g (some (.int r)) (mkS σ [] [] [] [(32, w_t)]) H locs (F0 m 2 ls [])) (x1 : Int32) (v_t : Nat → Int64) (H : Heap) (locs : List Loc) (ls : Array Slot), lv_has ls 6 [(0, .ref (g.2.1 28)), (1, .int x1)] → GW g s (mkS σ [] [] [] [(32, v_t)]) H locs → Td_layOtherThirds_n2 k2 (σ.1 1800) (σ.2.2.1 29) (σ.2.2.1 30) x1 v_t = some (r, w_t) → Wg p l e 2 47 s m args below meth c g (some (.int r)) (mkS σ [] [] [] [(32, w_t)]) H locs (F0 m 2 ls []) := by
    intro k2 hk2 x1 v_t H locs ls hl hG h
    unfold Td_layOtherThirds_n2 at h
    refine lv_iload_n hx hb dX6_layOtherThirds_2 rfl (lv_at hl 1 rfl) ?_
    refine lv_aload_n hx hb dX6_layOtherThirds_3 rfl (lv_at hl 0 rfl) ?_
    refine gx_get (v := .int (σ.1 1800)) (C := RX6) (T := TX6) (N := 13) hx hb hts mc_X6 hown hK hG (ga_28 g _) rfl 8 (by decide) hw0 rfl rfl dX6_layOtherThirds_4 ?_
    refine lv_icmp_ge (tgt := 119) hx hb dX6_layOtherThirds_7 (by decide) (fun c14 => ?_) (fun c14 => ?_)
    · have h := ite_t c14 h
      exact n119 v_t _ _ _ (lv_sub hl [] rfl) hG h
    · have h := ite_f c14 h
      refine lv_iconst (v := (0 : Int32)) hx hb dX6_layOtherThirds_10 (by decide) ?_
      refine lv_istore_n (lv' := [(2, .int (0 : Int32)), (0, .ref (g.2.1 28)), (1, .int x1)]) hx hb dX6_layOtherThirds_11 rfl hl (Nat.le_of_ble_eq_true rfl) rfl (fun ls hl => ?_)
      exact l12 k2 hk2 FUEL x1 (0 : Int32) v_t _ _ _ (lv_sub hl [1, 2, 0] rfl) hG h
  have l2 : ∀  (F : Nat) (x1 : Int32) (v_t : Nat → Int64) (H : Heap) (locs : List Loc) (ls : Array Slot), lv_has ls 6 [(0, .ref (g.2.1 28)), (1, .int x1)] → GW g s (mkS σ [] [] [] [(32, v_t)]) H locs → Td_layOtherThirds_l2 (σ.1 1800) (σ.2.2.1 29) (σ.2.2.1 30) F x1 v_t = some (r, w_t) → Wg p l e 2 47 s m args below meth c g (some (.int r)) (mkS σ [] [] [] [(32, w_t)]) H locs (F0 m 2 ls []) := by
    intro F
    induction F with
    | zero => intro x1 v_t H locs ls hl hG h; exact no_some h
    | succ F ih => intro x1 v_t H locs ls hl hG h; exact n2 (fun x1 v_t => Td_layOtherThirds_l2 (σ.1 1800) (σ.2.2.1 29) (σ.2.2.1 30) F x1 v_t) ih x1 v_t H locs ls hl hG h
  refine lv_iconst (v := (1 : Int32)) hx hb dX6_layOtherThirds_0 (by decide) ?_
  refine lv_istore_n (lv' := [(1, .int (1 : Int32)), (0, .ref (g.2.1 28))]) hx hb dX6_layOtherThirds_1 rfl hl (Nat.le_of_ble_eq_true rfl) rfl (fun ls hl => ?_)
  exact l2 FUEL (1 : Int32) (σ.2.2.2 32) _ _ _ (lv_sub hl [1, 0] rfl) hG h

set_option maxHeartbeats 4000000 in
set_option maxRecDepth 100000 in
theorem c_Td_isRoot (l : Launch) (g : GC) (σ : St) (x1 : Int32) (r : Int32) (w_scaled : Nat → Int64) (h : Td_isRoot x1 (σ.1 1800) (σ.2.2.1 29) (σ.2.2.1 30) (σ.2.2.2 33) = some (r, w_scaled)) : Cn l g yX6_isRoot (Cond.code yX6_isRoot cX6_isRoot 3 (some .boolean) :: wG) 1 21 [.ref (g.2.1 28), .int x1] σ (some (.int r)) (mkS σ [] [] [] [(33, w_scaled)]) := by
  unfold Cn
  refine Met.ofW (cc := cX6_isRoot) (maxL := 3) (ret := (some .boolean)) (by decide) rfl ?_
  intro p e s m args below meth c s₁ B hml hv
  obtain ⟨hargs, hP0, hK⟩ := hv
  have hx := B.exec
  have hb := B.bytes
  have hr := B.returns
  have hts : ∀ w ∈ wG, w.before args s = true := fun w h => atoms_spec (ws := (Cond.code yX6_isRoot cX6_isRoot 3 (some .boolean) :: wG)) B.pre w (List.mem_cons_of_mem _ h)
  have hown : s.vm.findClass RX6 = some m.cls := findClass_of_methodNamed B.named
  have hlocks := B.notSynchronized
  have hS9 : CallFix p m c cX6_isRoot 3 s args wG RX6 := ⟨hx, hb, hml, hown, hts⟩
  have hw0 := hts _ mw_1_165
  have hw1 := hts _ mw_1_171
  have hw2 := hts _ mw_1_159
  have hw3 := hts _ mw_1_157
  have hf9 : entryFrame m args 3 = _ := (congrArg (fun a => entryFrame m a 3) hargs).trans (lg_entry_eq m [.ref (g.2.1 28), .int x1] 3)
  show Wg p l e 1 21 s m args below meth c g (some (.int r)) (mkS σ [] [] [] [(33, w_scaled)]) s.heap [] (entryFrame m args 3)
  rw [hf9]
  have hl := lv_entry ([.ref (g.2.1 28), .int x1]) (n := 3) (Nat.le_of_ble_eq_true rfl)
  generalize (lg_sl ([.ref (g.2.1 28), .int x1]) ++ List.replicate (3 - (lg_sl ([.ref (g.2.1 28), .int x1])).length) Slot.unset).toArray = ls at hl ⊢
  have hl : lv_has ls 3 [(0, .ref (g.2.1 28)), (1, .int x1)] := hl
  have hG : GW g s σ s.heap [] := ⟨hP0, va_S.rf⟩
  have hG : GW g s (mkS σ [] [] [] [(33, (σ.2.2.2 33))]) s.heap [] := GW_self [] [] [] [33] hG
  unfold Td_isRoot at h
  have n102 : ∀ (t0 : Int32) (v_scaled : Nat → Int64) (H : Heap) (locs : List Loc) (ls : Array Slot), lv_has ls 3 [] → GW g s (mkS σ [] [] [] [(33, v_scaled)]) H locs → Td_isRoot_n102 t0 v_scaled = some (r, w_scaled) → Wg p l e 1 21 s m args below meth c g (some (.int r)) (mkS σ [] [] [] [(33, w_scaled)]) H locs (F0 m 102 ls [.int t0]) := by
    intro t0 v_scaled H locs ls hl hG h
    unfold Td_isRoot_n102 at h
    obtain ⟨hg1, h⟩ := gd_some h
    cases h
    exact gx_zret hx hb hr hlocks hg1 hG dX6_isRoot_102
  have n81 : ∀ (v_scaled : Nat → Int64) (H : Heap) (locs : List Loc) (ls : Array Slot), lv_has ls 3 [(0, .ref (g.2.1 28))] → GW g s (mkS σ [] [] [] [(33, v_scaled)]) H locs → Td_isRoot_n81 (σ.1 1800) v_scaled = some (r, w_scaled) → Wg p l e 1 21 s m args below meth c g (some (.int r)) (mkS σ [] [] [] [(33, w_scaled)]) H locs (F0 m 81 ls []) := by
    intro v_scaled H locs ls hl hG h
    unfold Td_isRoot_n81 at h
    refine lv_aload_n hx hb dX6_isRoot_81 rfl (lv_at hl 0 rfl) ?_
    refine gx_get (v := .ref (g.2.1 33)) (C := RX6) (T := TX6) (N := 13) hx hb hts mc_X6 hown hK hG (ga_28 g _) rfl 4 (by decide) hw0 rfl rfl dX6_isRoot_82 ?_
    refine lv_aload_n hx hb dX6_isRoot_85 rfl (lv_at hl 0 rfl) ?_
    refine gx_get (v := .int (σ.1 1800)) (C := RX6) (T := TX6) (N := 13) hx hb hts mc_X6 hown hK hG (ga_28 g _) rfl 8 (by decide) hw1 rfl rfl dX6_isRoot_86 ?_
    refine lv_iconst (v := (1 : Int32)) hx hb dX6_isRoot_89 (by decide) ?_
    refine lv_iadd hx hb dX6_isRoot_90 ?_
    obtain ⟨hg2, h⟩ := gd_some h
    refine gx_lald (f := v_scaled) hx hb hK hG (ga_33 g _) hg2 dX6_isRoot_91 ?_
    refine lv_lconst (v := (0 : Int64)) hx hb dX6_isRoot_92 (by decide) ?_
    refine W.lcmp hx hb dX6_isRoot_93 ?_
    refine lv_if_ne (tgt := 101) hx hb dX6_isRoot_94 (by decide) (fun c3 => ?_) (fun c3 => ?_)
    · have h := ite_f c3 h
      refine lv_iconst (v := (0 : Int32)) hx hb dX6_isRoot_101 (by decide) ?_
      exact n102 (0 : Int32) v_scaled _ _ _ (lv_sub hl [] rfl) hG h
    · have h := ite_t c3 h
      refine lv_iconst (v := (1 : Int32)) hx hb dX6_isRoot_97 (by decide) ?_
      refine lv_goto (tgt := 102) hx hb dX6_isRoot_98 (by decide) ?_
      exact n102 (1 : Int32) v_scaled _ _ _ (lv_sub hl [] rfl) hG h
  have n17 : ∀ (k17 : Int32 → Int32 → (Nat → Int64) → Option (Int32 × (Nat → Int64))) (hk17 : ∀ (x1 : Int32) (x2 : Int32) (v_scaled : Nat → Int64) (H : Heap) (locs : List Loc) (ls : Array Slot), lv_has ls 3 [(0, .ref (g.2.1 28)), (1, .int x1), (2, .int x2)] → GW g s (mkS σ [] [] [] [(33, v_scaled)]) H locs → k17 x1 x2 v_scaled = some (r, w_scaled) → Wg p l e 1 21 s m args below meth c g (some (.int r)) (mkS σ [] [] [] [(33, w_scaled)]) H locs (F0 m 17 ls [])) (x1 : Int32) (x2 : Int32) (v_scaled : Nat → Int64) (H : Heap) (locs : List Loc) (ls : Array Slot), lv_has ls 3 [(0, .ref (g.2.1 28)), (1, .int x1), (2, .int x2)] → GW g s (mkS σ [] [] [] [(33, v_scaled)]) H locs → Td_isRoot_n17 k17 (σ.1 1800) (σ.2.2.1 29) (σ.2.2.1 30) x1 x2 v_scaled = some (r, w_scaled) → Wg p l e 1 21 s m args below meth c g (some (.int r)) (mkS σ [] [] [] [(33, w_scaled)]) H locs (F0 m 17 ls []) := by
    intro k17 hk17 x1 x2 v_scaled H locs ls hl hG h
    unfold Td_isRoot_n17 at h
    refine lv_iload_n hx hb dX6_isRoot_17 rfl (lv_at hl 2 rfl) ?_
    refine lv_aload_n hx hb dX6_isRoot_18 rfl (lv_at hl 0 rfl) ?_
    refine gx_get (v := .int (σ.1 1800)) (C := RX6) (T := TX6) (N := 13) hx hb hts mc_X6 hown hK hG (ga_28 g _) rfl 8 (by decide) hw1 rfl rfl dX6_isRoot_19 ?_
    refine lv_icmp_gt (tgt := 81) hx hb dX6_isRoot_22 (by decide) (fun c4 => ?_) (fun c4 => ?_)
    · have h := ite_t c4 h
      exact n81 v_scaled _ _ _ (lv_sub hl [0] rfl) hG h
    · have h := ite_f c4 h
      refine lv_aload_n hx hb dX6_isRoot_25 rfl (lv_at hl 0 rfl) ?_
      refine gx_get (v := .ref (g.2.1 33)) (C := RX6) (T := TX6) (N := 13) hx hb hts mc_X6 hown hK hG (ga_28 g _) rfl 4 (by decide) hw0 rfl rfl dX6_isRoot_26 ?_
      refine lv_iload_n hx hb dX6_isRoot_29 rfl (lv_at hl 2 rfl) ?_
      refine lv_iconst (v := (1 : Int32)) hx hb dX6_isRoot_30 (by decide) ?_
      refine lv_iadd hx hb dX6_isRoot_31 ?_
      refine lv_iload_n hx hb dX6_isRoot_32 rfl (lv_at hl 1 rfl) ?_
      refine lv_aload_n hx hb dX6_isRoot_33 rfl (lv_at hl 0 rfl) ?_
      refine lv_iload_n hx hb dX6_isRoot_34 rfl (lv_at hl 2 rfl) ?_
      obtain ⟨z5, hc6, h⟩ := bnd_some h
      refine gx_cV (σ' := (mkS σ [] [] [] [(33, v_scaled)])) (r := (some (.int z5))) (rest := [.int x1, .int (x2 + (1 : Int32)), .ref (g.2.1 33)]) (As := [.int x2]) hS9 (c_Td_level l g (mkS σ [] [] [] [(33, v_scaled)]) x2 z5 hc6) rfl (cwV 1 hts (gz_V mw_3_156 mw_3_157 mw_3_158 mw_1_7 mw_3_159) rfl rfl rfl hdV_X6_level ⟨Nat.le_of_ble_eq_true rfl, Nat.le_of_ble_eq_true rfl⟩) hK hG (ga_28 g _) rfl rfl rfl hl.1 rfl (Nat.le_of_ble_eq_true rfl) dX6_isRoot_35 (fun H locs hG => ?_)
      refine W.eq (g2 := F0 m 38 ls [.int z5, .int x1, .int (x2 + (1 : Int32)), .ref (g.2.1 33)]) rfl ?_
      refine lv_isub hx hb dX6_isRoot_38 ?_
      refine lv_i2l hx hb dX6_isRoot_39 rfl ?_
      refine lv_aload_n hx hb dX6_isRoot_40 rfl (lv_at hl 0 rfl) ?_
      refine gx_get (v := .ref (g.2.1 33)) (C := RX6) (T := TX6) (N := 13) hx hb hts mc_X6 hown hK hG (ga_28 g _) rfl 4 (by decide) hw0 rfl rfl dX6_isRoot_41 ?_
      refine lv_iload_n hx hb dX6_isRoot_44 rfl (lv_at hl 2 rfl) ?_
      obtain ⟨hg7, h⟩ := gd_some h
      refine gx_lald (f := v_scaled) hx hb hK hG (ga_33 g _) hg7 dX6_isRoot_45 ?_
      refine lv_lmul hx hb dX6_isRoot_46 ?_
      refine lv_aload_n hx hb dX6_isRoot_47 rfl (lv_at hl 0 rfl) ?_
      refine gx_get (v := .ref (g.2.1 30)) (C := RX6) (T := TX6) (N := 13) hx hb hts mc_X6 hown hK hG (ga_28 g _) rfl 1 (by decide) hw2 rfl rfl dX6_isRoot_48 ?_
      refine lv_iload_n hx hb dX6_isRoot_51 rfl (lv_at hl 2 rfl) ?_
      obtain ⟨hg8, h⟩ := gd_some h
      refine gx_iald (f := (σ.2.2.1 30)) hx hb hK hG (ga_30 g _) hg8 dX6_isRoot_52 ?_
      refine lv_i2l hx hb dX6_isRoot_53 rfl ?_
      refine lv_aload_n hx hb dX6_isRoot_54 rfl (lv_at hl 0 rfl) ?_
      refine gx_get (v := .ref (g.2.1 29)) (C := RX6) (T := TX6) (N := 13) hx hb hts mc_X6 hown hK hG (ga_28 g _) rfl 0 (by decide) hw3 rfl rfl dX6_isRoot_55 ?_
      refine lv_iload_n hx hb dX6_isRoot_58 rfl (lv_at hl 2 rfl) ?_
      refine lv_iconst (v := (1 : Int32)) hx hb dX6_isRoot_59 (by decide) ?_
      refine lv_isub hx hb dX6_isRoot_60 ?_
      obtain ⟨hg9, h⟩ := gd_some h
      refine gx_iald (f := (σ.2.2.1 29)) hx hb hK hG (ga_29 g _) hg9 dX6_isRoot_61 ?_
      refine lv_i2l hx hb dX6_isRoot_62 rfl ?_
      refine lv_lmul hx hb dX6_isRoot_63 ?_
      refine lv_aload_n hx hb dX6_isRoot_64 rfl (lv_at hl 0 rfl) ?_
      refine gx_get (v := .ref (g.2.1 33)) (C := RX6) (T := TX6) (N := 13) hx hb hts mc_X6 hown hK hG (ga_28 g _) rfl 4 (by decide) hw0 rfl rfl dX6_isRoot_65 ?_
      refine lv_iload_n hx hb dX6_isRoot_68 rfl (lv_at hl 2 rfl) ?_
      refine lv_iconst (v := (1 : Int32)) hx hb dX6_isRoot_69 (by decide) ?_
      refine lv_isub hx hb dX6_isRoot_70 ?_
      obtain ⟨hg10, h⟩ := gd_some h
      refine gx_lald (f := v_scaled) hx hb hK hG (ga_33 g _) hg10 dX6_isRoot_71 ?_
      refine lv_lmul hx hb dX6_isRoot_72 ?_
      refine lv_lsub hx hb dX6_isRoot_73 ?_
      refine lv_topl (fun y11 ey11 => ?_)
      have h := lt_at h ey11
      obtain ⟨hg12, h⟩ := gd_some h
      refine gx_last (σ' := (mkS σ [] [] [] [(33, (vp_updL v_scaled ((x2 + (1 : Int32)).toNatClampNeg) y11))])) (f := v_scaled) hx hb hK hG (ga_33 g _) hg12 ((gs_33 g _ _).trans (congrArg (g_cells g) (mk_d 0 rfl rfl))) dX6_isRoot_74 (fun H locs hG => ?_)
      refine lv_iinc (v := (x2 + (1 : Int32))) (lv' := [(2, .int (x2 + (1 : Int32))), (0, .ref (g.2.1 28)), (1, .int x1)]) hx hb dX6_isRoot_75 hl (k := 2) rfl (congrArg (fun z => x2 + z) (by decide)) (Nat.le_of_ble_eq_true rfl) rfl (fun ls hl => ?_)
      refine lv_goto (tgt := 17) hx hb dX6_isRoot_78 (by decide) ?_
      exact hk17 x1 (x2 + (1 : Int32)) (vp_updL v_scaled ((x2 + (1 : Int32)).toNatClampNeg) y11) _ _ _ (lv_sub hl [1, 2, 0] rfl) hG h
  have l17 : ∀  (F : Nat) (x1 : Int32) (x2 : Int32) (v_scaled : Nat → Int64) (H : Heap) (locs : List Loc) (ls : Array Slot), lv_has ls 3 [(0, .ref (g.2.1 28)), (1, .int x1), (2, .int x2)] → GW g s (mkS σ [] [] [] [(33, v_scaled)]) H locs → Td_isRoot_l17 (σ.1 1800) (σ.2.2.1 29) (σ.2.2.1 30) F x1 x2 v_scaled = some (r, w_scaled) → Wg p l e 1 21 s m args below meth c g (some (.int r)) (mkS σ [] [] [] [(33, w_scaled)]) H locs (F0 m 17 ls []) := by
    intro F
    induction F with
    | zero => intro x1 x2 v_scaled H locs ls hl hG h; exact no_some h
    | succ F ih => intro x1 x2 v_scaled H locs ls hl hG h; exact n17 (fun x1 x2 v_scaled => Td_isRoot_l17 (σ.1 1800) (σ.2.2.1 29) (σ.2.2.1 30) F x1 x2 v_scaled) ih x1 x2 v_scaled H locs ls hl hG h
  refine lv_aload_n hx hb dX6_isRoot_0 rfl (lv_at hl 0 rfl) ?_
  refine gx_get (v := .ref (g.2.1 33)) (C := RX6) (T := TX6) (N := 13) hx hb hts mc_X6 hown hK hG (ga_28 g _) rfl 4 (by decide) hw0 rfl rfl dX6_isRoot_1 ?_
  refine lv_iconst (v := (0 : Int32)) hx hb dX6_isRoot_4 (by decide) ?_
  refine lv_lconst (v := (1 : Int64)) hx hb dX6_isRoot_5 (by decide) ?_
  refine gx_last (σ' := (mkS σ [] [] [] [(33, (vp_updL (σ.2.2.2 33) ((0 : Int32).toNatClampNeg) (1 : Int64)))])) (f := (σ.2.2.2 33)) hx hb hK hG (ga_33 g _) (by decide) ((gs_33 g _ _).trans (congrArg (g_cells g) (mk_d 0 rfl rfl))) dX6_isRoot_6 (fun H locs hG => ?_)
  refine lv_aload_n hx hb dX6_isRoot_7 rfl (lv_at hl 0 rfl) ?_
  refine gx_get (v := .ref (g.2.1 33)) (C := RX6) (T := TX6) (N := 13) hx hb hts mc_X6 hown hK hG (ga_28 g _) rfl 4 (by decide) hw0 rfl rfl dX6_isRoot_8 ?_
  refine lv_iconst (v := (1 : Int32)) hx hb dX6_isRoot_11 (by decide) ?_
  refine lv_iload_n hx hb dX6_isRoot_12 rfl (lv_at hl 1 rfl) ?_
  refine lv_i2l hx hb dX6_isRoot_13 rfl ?_
  refine gx_last (σ' := (mkS σ [] [] [] [(33, (vp_updL (vp_updL (σ.2.2.2 33) ((0 : Int32).toNatClampNeg) (1 : Int64)) ((1 : Int32).toNatClampNeg) (x1.toInt64)))])) (f := (vp_updL (σ.2.2.2 33) ((0 : Int32).toNatClampNeg) (1 : Int64))) hx hb hK hG (ga_33 g _) (by decide) ((gs_33 g _ _).trans (congrArg (g_cells g) (mk_d 0 rfl rfl))) dX6_isRoot_14 (fun H locs hG => ?_)
  refine lv_iconst (v := (1 : Int32)) hx hb dX6_isRoot_15 (by decide) ?_
  refine lv_istore_n (lv' := [(2, .int (1 : Int32)), (0, .ref (g.2.1 28)), (1, .int x1)]) hx hb dX6_isRoot_16 rfl hl (Nat.le_of_ble_eq_true rfl) rfl (fun ls hl => ?_)
  exact l17 FUEL x1 (1 : Int32) (vp_updL (vp_updL (σ.2.2.2 33) ((0 : Int32).toNatClampNeg) (1 : Int64)) ((1 : Int32).toNatClampNeg) (x1.toInt64)) _ _ _ (lv_sub hl [1, 2, 0] rfl) hG h

set_option maxHeartbeats 4000000 in
set_option maxRecDepth 100000 in
theorem c_Td_timesOfScaled (l : Launch) (g : GC) (σ : St) (r : Int32) (h : Td_timesOfScaled (σ.1 1800) (σ.2.1 1803) (σ.2.2.1 29) (σ.2.2.1 30) (σ.2.2.2 33) = some r) : Cn l g yX6_timesOfScaled (Cond.code yX6_timesOfScaled cX6_timesOfScaled 9 (some .int) :: wG) 0 0 [.ref (g.2.1 28)] σ (some (.int r)) σ := by
  unfold Cn
  refine Met.ofW (cc := cX6_timesOfScaled) (maxL := 9) (ret := (some .int)) (by decide) rfl ?_
  intro p e s m args below meth c s₁ B hml hv
  obtain ⟨hargs, hP0, hK⟩ := hv
  have hx := B.exec
  have hb := B.bytes
  have hr := B.returns
  have hts : ∀ w ∈ wG, w.before args s = true := fun w h => atoms_spec (ws := (Cond.code yX6_timesOfScaled cX6_timesOfScaled 9 (some .int) :: wG)) B.pre w (List.mem_cons_of_mem _ h)
  have hown : s.vm.findClass RX6 = some m.cls := findClass_of_methodNamed B.named
  have hlocks := B.notSynchronized
  have hw0 := hts _ mw_1_176
  have hw1 := hts _ mw_1_171
  have hw2 := hts _ mw_1_157
  have hw3 := hts _ mw_1_159
  have hw4 := hts _ mw_1_165
  have hf9 : entryFrame m args 9 = _ := (congrArg (fun a => entryFrame m a 9) hargs).trans (lg_entry_eq m [.ref (g.2.1 28)] 9)
  show Wg p l e 0 0 s m args below meth c g (some (.int r)) σ s.heap [] (entryFrame m args 9)
  rw [hf9]
  have hl := lv_entry ([.ref (g.2.1 28)]) (n := 9) (Nat.le_of_ble_eq_true rfl)
  generalize (lg_sl ([.ref (g.2.1 28)]) ++ List.replicate (9 - (lg_sl ([.ref (g.2.1 28)])).length) Slot.unset).toArray = ls at hl ⊢
  have hl : lv_has ls 9 [(0, .ref (g.2.1 28))] := hl
  have hG : GW g s σ s.heap [] := ⟨hP0, va_S.rf⟩
  unfold Td_timesOfScaled at h
  have n78 : ∀  (H : Heap) (locs : List Loc) (ls : Array Slot), lv_has ls 9 [] → GW g s σ H locs → Td_timesOfScaled_n78 = some r → Wg p l e 0 0 s m args below meth c g (some (.int r)) σ H locs (F0 m 78 ls []) := by
    intro H locs ls hl hG h
    unfold Td_timesOfScaled_n78 at h
    refine lv_iconst (v := (-1 : Int32)) hx hb dX6_timesOfScaled_78 (by decide) ?_
    cases h
    exact gx_iret hx hb hr hlocks hG dX6_timesOfScaled_79
  have n149 : ∀ (t0 : Int32) (H : Heap) (locs : List Loc) (ls : Array Slot), lv_has ls 9 [] → GW g s σ H locs → Td_timesOfScaled_n149 t0 = some r → Wg p l e 0 0 s m args below meth c g (some (.int r)) σ H locs (F0 m 149 ls [.int t0]) := by
    intro t0 H locs ls hl hG h
    unfold Td_timesOfScaled_n149 at h
    cases h
    exact gx_iret hx hb hr hlocks hG dX6_timesOfScaled_149
  have n139 : ∀  (H : Heap) (locs : List Loc) (ls : Array Slot), lv_has ls 9 [] → GW g s σ H locs → Td_timesOfScaled_n139 = some r → Wg p l e 0 0 s m args below meth c g (some (.int r)) σ H locs (F0 m 139 ls []) := by
    intro H locs ls hl hG h
    unfold Td_timesOfScaled_n139 at h
    refine lv_iconst (v := (-1 : Int32)) hx hb dX6_timesOfScaled_139 (by decide) ?_
    refine lv_goto (tgt := 149) hx hb dX6_timesOfScaled_140 (by decide) ?_
    exact n149 (-1 : Int32) _ _ _ (lv_sub hl [] rfl) hG h
  have n114 : ∀ (x1 : Int64) (x5 : Int64) (H : Heap) (locs : List Loc) (ls : Array Slot), lv_has ls 9 [(0, .ref (g.2.1 28)), (1, .long x1), (5, .long x5)] → GW g s σ H locs → Td_timesOfScaled_n114 (σ.2.1 1803) x1 x5 = some r → Wg p l e 0 0 s m args below meth c g (some (.int r)) σ H locs (F0 m 114 ls []) := by
    intro x1 x5 H locs ls hl hG h
    unfold Td_timesOfScaled_n114 at h
    refine lv_aload_n hx hb dX6_timesOfScaled_114 rfl (lv_at hl 0 rfl) ?_
    refine gx_get (v := .long (σ.2.1 1803)) (C := RX6) (T := TX6) (N := 13) hx hb hts mc_X6 hown hK hG (ga_28 g _) rfl 11 (by decide) hw0 rfl rfl dX6_timesOfScaled_115 ?_
    refine lv_lload_n hx hb dX6_timesOfScaled_118 rfl (lv_at hl 1 rfl) ?_
    refine lv_lmul hx hb dX6_timesOfScaled_119 ?_
    refine lv_lstore (lv' := [(7, .long ((σ.2.1 1803) * x1)), (0, .ref (g.2.1 28)), (1, .long x1), (5, .long x5)]) hx hb dX6_timesOfScaled_120 hl (Nat.le_of_ble_eq_true rfl) rfl (fun ls hl => ?_)
    refine lv_lload hx hb dX6_timesOfScaled_122 (lv_at hl 3 rfl) ?_
    refine lv_lconst (v := (0 : Int64)) hx hb dX6_timesOfScaled_124 (by decide) ?_
    refine W.lcmp hx hb dX6_timesOfScaled_125 ?_
    refine lv_if_eq (tgt := 139) hx hb dX6_timesOfScaled_126 (by decide) (fun c1 => ?_) (fun c1 => ?_)
    · have h := ite_t c1 h
      exact n139 _ _ _ (lv_sub hl [] rfl) hG h
    · have h := ite_f c1 h
      refine lv_lload hx hb dX6_timesOfScaled_129 (lv_at hl 0 rfl) ?_
      refine lv_lload hx hb dX6_timesOfScaled_131 (lv_at hl 3 rfl) ?_
      obtain ⟨hg2, h⟩ := gd_some h
      refine lv_lrem hx hb dX6_timesOfScaled_133 (nzL_ne hg2) ?_
      refine lv_lconst (v := (0 : Int64)) hx hb dX6_timesOfScaled_134 (by decide) ?_
      refine W.lcmp hx hb dX6_timesOfScaled_135 ?_
      refine lv_if_eq (tgt := 143) hx hb dX6_timesOfScaled_136 (by decide) (fun c3 => ?_) (fun c3 => ?_)
      · have h := ite_t c3 h
        refine lv_lload hx hb dX6_timesOfScaled_143 (lv_at hl 0 rfl) ?_
        refine lv_lload hx hb dX6_timesOfScaled_145 (lv_at hl 3 rfl) ?_
        refine lv_ldiv hx hb dX6_timesOfScaled_147 (nzL_ne hg2) ?_
        refine lv_l2i hx hb dX6_timesOfScaled_148 rfl ?_
        exact n149 ((((σ.2.1 1803) * x1) / x5).toInt32) _ _ _ (lv_sub hl [] rfl) hG h
      · have h := ite_f c3 h
        exact n139 _ _ _ (lv_sub hl [] rfl) hG h
  have n45 : ∀ (k45 : Int64 → Int64 → Int64 → Int32 → Option (Int32)) (hk45 : ∀ (x1 : Int64) (x3 : Int64) (x5 : Int64) (x7 : Int32) (H : Heap) (locs : List Loc) (ls : Array Slot), lv_has ls 9 [(0, .ref (g.2.1 28)), (1, .long x1), (3, .long x3), (5, .long x5), (7, .int x7)] → GW g s σ H locs → k45 x1 x3 x5 x7 = some r → Wg p l e 0 0 s m args below meth c g (some (.int r)) σ H locs (F0 m 45 ls [])) (x1 : Int64) (x3 : Int64) (x5 : Int64) (x7 : Int32) (H : Heap) (locs : List Loc) (ls : Array Slot), lv_has ls 9 [(0, .ref (g.2.1 28)), (1, .long x1), (3, .long x3), (5, .long x5), (7, .int x7)] → GW g s σ H locs → Td_timesOfScaled_n45 k45 (σ.1 1800) (σ.2.1 1803) (σ.2.2.1 29) (σ.2.2.1 30) (σ.2.2.2 33) x1 x3 x5 x7 = some r → Wg p l e 0 0 s m args below meth c g (some (.int r)) σ H locs (F0 m 45 ls []) := by
    intro k45 hk45 x1 x3 x5 x7 H locs ls hl hG h
    unfold Td_timesOfScaled_n45 at h
    refine lv_iload hx hb dX6_timesOfScaled_45 (lv_at hl 4 rfl) ?_
    refine lv_aload_n hx hb dX6_timesOfScaled_47 rfl (lv_at hl 0 rfl) ?_
    refine gx_get (v := .int (σ.1 1800)) (C := RX6) (T := TX6) (N := 13) hx hb hts mc_X6 hown hK hG (ga_28 g _) rfl 8 (by decide) hw1 rfl rfl dX6_timesOfScaled_48 ?_
    refine lv_icmp_gt (tgt := 114) hx hb dX6_timesOfScaled_51 (by decide) (fun c4 => ?_) (fun c4 => ?_)
    · have h := ite_t c4 h
      exact n114 x1 x5 _ _ _ (lv_sub hl [0, 1, 3] rfl) hG h
    · have h := ite_f c4 h
      refine lv_aload_n hx hb dX6_timesOfScaled_54 rfl (lv_at hl 0 rfl) ?_
      refine gx_get (v := .ref (g.2.1 29)) (C := RX6) (T := TX6) (N := 13) hx hb hts mc_X6 hown hK hG (ga_28 g _) rfl 0 (by decide) hw2 rfl rfl dX6_timesOfScaled_55 ?_
      refine lv_iload hx hb dX6_timesOfScaled_58 (lv_at hl 4 rfl) ?_
      refine lv_iconst (v := (1 : Int32)) hx hb dX6_timesOfScaled_60 (by decide) ?_
      refine lv_isub hx hb dX6_timesOfScaled_61 ?_
      obtain ⟨hg5, h⟩ := gd_some h
      refine gx_iald (f := (σ.2.2.1 29)) hx hb hK hG (ga_29 g _) hg5 dX6_timesOfScaled_62 ?_
      refine lv_aload_n hx hb dX6_timesOfScaled_63 rfl (lv_at hl 0 rfl) ?_
      refine gx_get (v := .ref (g.2.1 30)) (C := RX6) (T := TX6) (N := 13) hx hb hts mc_X6 hown hK hG (ga_28 g _) rfl 1 (by decide) hw3 rfl rfl dX6_timesOfScaled_64 ?_
      refine lv_iload hx hb dX6_timesOfScaled_67 (lv_at hl 4 rfl) ?_
      obtain ⟨hg6, h⟩ := gd_some h
      refine gx_iald (f := (σ.2.2.1 30)) hx hb hK hG (ga_30 g _) hg6 dX6_timesOfScaled_69 ?_
      refine lv_imul hx hb dX6_timesOfScaled_70 ?_
      refine lv_topi (fun y7 ey7 => ?_)
      have h := lt_at h ey7
      refine lv_istore (lv' := [(8, .int y7), (0, .ref (g.2.1 28)), (1, .long x1), (3, .long x3), (5, .long x5), (7, .int x7)]) hx hb dX6_timesOfScaled_71 hl (Nat.le_of_ble_eq_true rfl) rfl (fun ls hl => ?_)
      refine lv_iload hx hb dX6_timesOfScaled_73 (lv_at hl 0 rfl) ?_
      refine lv_if_ne (tgt := 80) hx hb dX6_timesOfScaled_75 (by decide) (fun c8 => ?_) (fun c8 => ?_)
      · have h := ite_f c8 h
        refine lv_lload_n hx hb dX6_timesOfScaled_80 rfl (lv_at hl 3 rfl) ?_
        refine lv_iload hx hb dX6_timesOfScaled_81 (lv_at hl 0 rfl) ?_
        refine lv_i2l hx hb dX6_timesOfScaled_83 rfl ?_
        obtain ⟨hg9, h⟩ := gd_some h
        refine lv_ldiv hx hb dX6_timesOfScaled_84 (nzL_ne hg9) ?_
        refine lv_lstore_n (lv' := [(3, .long (x3 / (y7.toInt64))), (8, .int y7), (0, .ref (g.2.1 28)), (1, .long x1), (5, .long x5), (7, .int x7)]) hx hb dX6_timesOfScaled_85 rfl hl (Nat.le_of_ble_eq_true rfl) rfl (fun ls hl => ?_)
        refine lv_lload hx hb dX6_timesOfScaled_86 (lv_at hl 4 rfl) ?_
        refine lv_aload_n hx hb dX6_timesOfScaled_88 rfl (lv_at hl 2 rfl) ?_
        refine gx_get (v := .ref (g.2.1 33)) (C := RX6) (T := TX6) (N := 13) hx hb hts mc_X6 hown hK hG (ga_28 g _) rfl 4 (by decide) hw4 rfl rfl dX6_timesOfScaled_89 ?_
        refine lv_iload hx hb dX6_timesOfScaled_92 (lv_at hl 5 rfl) ?_
        obtain ⟨hg10, h⟩ := gd_some h
        refine gx_lald (f := (σ.2.2.2 33)) hx hb hK hG (ga_33 g _) hg10 dX6_timesOfScaled_94 ?_
        refine lv_aload_n hx hb dX6_timesOfScaled_95 rfl (lv_at hl 2 rfl) ?_
        refine gx_get (v := .ref (g.2.1 33)) (C := RX6) (T := TX6) (N := 13) hx hb hts mc_X6 hown hK hG (ga_28 g _) rfl 4 (by decide) hw4 rfl rfl dX6_timesOfScaled_96 ?_
        refine lv_iload hx hb dX6_timesOfScaled_99 (lv_at hl 5 rfl) ?_
        refine gx_lald (f := (σ.2.2.2 33)) hx hb hK hG (ga_33 g _) hg10 dX6_timesOfScaled_101 ?_
        refine lv_lmul hx hb dX6_timesOfScaled_102 ?_
        refine lv_lload_n hx hb dX6_timesOfScaled_103 rfl (lv_at hl 0 rfl) ?_
        refine lv_lmul hx hb dX6_timesOfScaled_104 ?_
        refine lv_ladd hx hb dX6_timesOfScaled_105 ?_
        refine lv_topl (fun y11 ey11 => ?_)
        have h := lt_at h ey11
        refine lv_lstore (lv' := [(5, .long y11), (3, .long (x3 / (y7.toInt64))), (8, .int y7), (0, .ref (g.2.1 28)), (1, .long x1), (7, .int x7)]) hx hb dX6_timesOfScaled_106 hl (Nat.le_of_ble_eq_true rfl) rfl (fun ls hl => ?_)
        refine lv_iinc (v := (x7 + (1 : Int32))) (lv' := [(7, .int (x7 + (1 : Int32))), (5, .long y11), (3, .long (x3 / (y7.toInt64))), (8, .int y7), (0, .ref (g.2.1 28)), (1, .long x1)]) hx hb dX6_timesOfScaled_108 hl (k := 5) rfl (congrArg (fun z => x7 + z) (by decide)) (Nat.le_of_ble_eq_true rfl) rfl (fun ls hl => ?_)
        refine lv_goto (tgt := 45) hx hb dX6_timesOfScaled_111 (by decide) ?_
        exact hk45 x1 (x3 / (y7.toInt64)) y11 (x7 + (1 : Int32)) _ _ _ (lv_sub hl [4, 5, 2, 1, 0] rfl) hG h
      · have h := ite_t c8 h
        exact n78 _ _ _ (lv_sub hl [] rfl) hG h
  have l45 : ∀  (F : Nat) (x1 : Int64) (x3 : Int64) (x5 : Int64) (x7 : Int32) (H : Heap) (locs : List Loc) (ls : Array Slot), lv_has ls 9 [(0, .ref (g.2.1 28)), (1, .long x1), (3, .long x3), (5, .long x5), (7, .int x7)] → GW g s σ H locs → Td_timesOfScaled_l45 (σ.1 1800) (σ.2.1 1803) (σ.2.2.1 29) (σ.2.2.1 30) (σ.2.2.2 33) F x1 x3 x5 x7 = some r → Wg p l e 0 0 s m args below meth c g (some (.int r)) σ H locs (F0 m 45 ls []) := by
    intro F
    induction F with
    | zero => intro x1 x3 x5 x7 H locs ls hl hG h; exact no_some h
    | succ F ih => intro x1 x3 x5 x7 H locs ls hl hG h; exact n45 (fun x1 x3 x5 x7 => Td_timesOfScaled_l45 (σ.1 1800) (σ.2.1 1803) (σ.2.2.1 29) (σ.2.2.1 30) (σ.2.2.2 33) F x1 x3 x5 x7) ih x1 x3 x5 x7 H locs ls hl hG h
  have n37 : ∀ (x1 : Int64) (H : Heap) (locs : List Loc) (ls : Array Slot), lv_has ls 9 [(0, .ref (g.2.1 28)), (1, .long x1)] → GW g s σ H locs → Td_timesOfScaled_n37 (σ.1 1800) (σ.2.1 1803) (σ.2.2.1 29) (σ.2.2.1 30) (σ.2.2.2 33) x1 = some r → Wg p l e 0 0 s m args below meth c g (some (.int r)) σ H locs (F0 m 37 ls []) := by
    intro x1 H locs ls hl hG h
    unfold Td_timesOfScaled_n37 at h
    refine lv_lload_n hx hb dX6_timesOfScaled_37 rfl (lv_at hl 1 rfl) ?_
    refine lv_lstore_n (lv' := [(3, .long x1), (0, .ref (g.2.1 28)), (1, .long x1)]) hx hb dX6_timesOfScaled_38 rfl hl (Nat.le_of_ble_eq_true rfl) rfl (fun ls hl => ?_)
    refine lv_lload_n hx hb dX6_timesOfScaled_39 rfl (lv_at hl 2 rfl) ?_
    refine lv_lstore (lv' := [(5, .long x1), (3, .long x1), (0, .ref (g.2.1 28)), (1, .long x1)]) hx hb dX6_timesOfScaled_40 hl (Nat.le_of_ble_eq_true rfl) rfl (fun ls hl => ?_)
    refine lv_iconst (v := (1 : Int32)) hx hb dX6_timesOfScaled_42 (by decide) ?_
    refine lv_istore (lv' := [(7, .int (1 : Int32)), (5, .long x1), (3, .long x1), (0, .ref (g.2.1 28)), (1, .long x1)]) hx hb dX6_timesOfScaled_43 hl (Nat.le_of_ble_eq_true rfl) rfl (fun ls hl => ?_)
    exact l45 FUEL x1 x1 x1 (1 : Int32) _ _ _ (lv_sub hl [3, 4, 2, 1, 0] rfl) hG h
  have n4 : ∀ (k4 : Int64 → Int32 → Option (Int32)) (hk4 : ∀ (x1 : Int64) (x3 : Int32) (H : Heap) (locs : List Loc) (ls : Array Slot), lv_has ls 9 [(0, .ref (g.2.1 28)), (1, .long x1), (3, .int x3)] → GW g s σ H locs → k4 x1 x3 = some r → Wg p l e 0 0 s m args below meth c g (some (.int r)) σ H locs (F0 m 4 ls [])) (x1 : Int64) (x3 : Int32) (H : Heap) (locs : List Loc) (ls : Array Slot), lv_has ls 9 [(0, .ref (g.2.1 28)), (1, .long x1), (3, .int x3)] → GW g s σ H locs → Td_timesOfScaled_n4 k4 (σ.1 1800) (σ.2.1 1803) (σ.2.2.1 29) (σ.2.2.1 30) (σ.2.2.2 33) x1 x3 = some r → Wg p l e 0 0 s m args below meth c g (some (.int r)) σ H locs (F0 m 4 ls []) := by
    intro k4 hk4 x1 x3 H locs ls hl hG h
    unfold Td_timesOfScaled_n4 at h
    refine lv_iload_n hx hb dX6_timesOfScaled_4 rfl (lv_at hl 2 rfl) ?_
    refine lv_aload_n hx hb dX6_timesOfScaled_5 rfl (lv_at hl 0 rfl) ?_
    refine gx_get (v := .int (σ.1 1800)) (C := RX6) (T := TX6) (N := 13) hx hb hts mc_X6 hown hK hG (ga_28 g _) rfl 8 (by decide) hw1 rfl rfl dX6_timesOfScaled_6 ?_
    refine lv_icmp_gt (tgt := 37) hx hb dX6_timesOfScaled_9 (by decide) (fun c12 => ?_) (fun c12 => ?_)
    · have h := ite_t c12 h
      exact n37 x1 _ _ _ (lv_sub hl [0, 1] rfl) hG h
    · have h := ite_f c12 h
      refine lv_lload_n hx hb dX6_timesOfScaled_12 rfl (lv_at hl 1 rfl) ?_
      refine lv_aload_n hx hb dX6_timesOfScaled_13 rfl (lv_at hl 0 rfl) ?_
      refine gx_get (v := .ref (g.2.1 29)) (C := RX6) (T := TX6) (N := 13) hx hb hts mc_X6 hown hK hG (ga_28 g _) rfl 0 (by decide) hw2 rfl rfl dX6_timesOfScaled_14 ?_
      refine lv_iload_n hx hb dX6_timesOfScaled_17 rfl (lv_at hl 2 rfl) ?_
      refine lv_iconst (v := (1 : Int32)) hx hb dX6_timesOfScaled_18 (by decide) ?_
      refine lv_isub hx hb dX6_timesOfScaled_19 ?_
      obtain ⟨hg13, h⟩ := gd_some h
      refine gx_iald (f := (σ.2.2.1 29)) hx hb hK hG (ga_29 g _) hg13 dX6_timesOfScaled_20 ?_
      refine lv_aload_n hx hb dX6_timesOfScaled_21 rfl (lv_at hl 0 rfl) ?_
      refine gx_get (v := .ref (g.2.1 30)) (C := RX6) (T := TX6) (N := 13) hx hb hts mc_X6 hown hK hG (ga_28 g _) rfl 1 (by decide) hw3 rfl rfl dX6_timesOfScaled_22 ?_
      refine lv_iload_n hx hb dX6_timesOfScaled_25 rfl (lv_at hl 2 rfl) ?_
      obtain ⟨hg14, h⟩ := gd_some h
      refine gx_iald (f := (σ.2.2.1 30)) hx hb hK hG (ga_30 g _) hg14 dX6_timesOfScaled_26 ?_
      refine lv_imul hx hb dX6_timesOfScaled_27 ?_
      refine lv_i2l hx hb dX6_timesOfScaled_28 rfl ?_
      refine lv_lmul hx hb dX6_timesOfScaled_29 ?_
      refine lv_topl (fun y15 ey15 => ?_)
      have h := lt_at h ey15
      refine lv_lstore_n (lv' := [(1, .long y15), (0, .ref (g.2.1 28)), (3, .int x3)]) hx hb dX6_timesOfScaled_30 rfl hl (Nat.le_of_ble_eq_true rfl) rfl (fun ls hl => ?_)
      refine lv_iinc (v := (x3 + (1 : Int32))) (lv' := [(3, .int (x3 + (1 : Int32))), (1, .long y15), (0, .ref (g.2.1 28))]) hx hb dX6_timesOfScaled_31 hl (k := 2) rfl (congrArg (fun z => x3 + z) (by decide)) (Nat.le_of_ble_eq_true rfl) rfl (fun ls hl => ?_)
      refine lv_goto (tgt := 4) hx hb dX6_timesOfScaled_34 (by decide) ?_
      exact hk4 y15 (x3 + (1 : Int32)) _ _ _ (lv_sub hl [2, 1, 0] rfl) hG h
  have l4 : ∀  (F : Nat) (x1 : Int64) (x3 : Int32) (H : Heap) (locs : List Loc) (ls : Array Slot), lv_has ls 9 [(0, .ref (g.2.1 28)), (1, .long x1), (3, .int x3)] → GW g s σ H locs → Td_timesOfScaled_l4 (σ.1 1800) (σ.2.1 1803) (σ.2.2.1 29) (σ.2.2.1 30) (σ.2.2.2 33) F x1 x3 = some r → Wg p l e 0 0 s m args below meth c g (some (.int r)) σ H locs (F0 m 4 ls []) := by
    intro F
    induction F with
    | zero => intro x1 x3 H locs ls hl hG h; exact no_some h
    | succ F ih => intro x1 x3 H locs ls hl hG h; exact n4 (fun x1 x3 => Td_timesOfScaled_l4 (σ.1 1800) (σ.2.1 1803) (σ.2.2.1 29) (σ.2.2.1 30) (σ.2.2.2 33) F x1 x3) ih x1 x3 H locs ls hl hG h
  refine lv_lconst (v := (1 : Int64)) hx hb dX6_timesOfScaled_0 (by decide) ?_
  refine lv_lstore_n (lv' := [(1, .long (1 : Int64)), (0, .ref (g.2.1 28))]) hx hb dX6_timesOfScaled_1 rfl hl (Nat.le_of_ble_eq_true rfl) rfl (fun ls hl => ?_)
  refine lv_iconst (v := (1 : Int32)) hx hb dX6_timesOfScaled_2 (by decide) ?_
  refine lv_istore_n (lv' := [(3, .int (1 : Int32)), (1, .long (1 : Int64)), (0, .ref (g.2.1 28))]) hx hb dX6_timesOfScaled_3 rfl hl (Nat.le_of_ble_eq_true rfl) rfl (fun ls hl => ?_)
  exact l4 FUEL (1 : Int64) (1 : Int32) _ _ _ (lv_sub hl [2, 1, 0] rfl) hG h

